theorem i_vc_couldPick {k : Nat} {u : SX} {v : SY} (I : i_Rel k u v) (hk : k + 5 ≤ 2564) (v1 : Int32) (v2 : Int32) : wpX_couldPick (fun r u' => wpY_couldPick (fun r' v' => r' = r ∧ i_Rel (k + 5) u' v') v v1 v2) u v1 v2 := by
  obtain ⟨cap, h, st, q, tm, R, X, Y⟩ := I
  obtain ⟨f_capacity, f_held, a_stockAt, a_askedSet, a_endTime, a_openSet⟩ := u
  obtain ⟨f_most, f_extra, f_gone, f_goneSet, f_goneAt, f_floorAt, f_floorFrom, f_floor, f_total, a_stocks, a_held, a_picks, a_outs, a_backs, a_homes, a_on, a_pick, a_out, a_back, a_home, a_spread⟩ := v
  have HX := iv_xst R X
  obtain ⟨X1, X2, X3, X4⟩ := X
  obtain ⟨Y1, Y2, Y3⟩ := Y
  subst X1 X2 Y1
  have hh := rl_h R
  have hst : ∀ s, s < 4 → a_stocks s = nI (st s) ∧ st s ≤ 3 := fun s hs => ⟨Y2 s hs, R.2.2.2.1 s hs⟩
  have same : ∀ r : Int32, r = r ∧ i_Rel (k + 5) (nI cap, nI h, a_stockAt, a_askedSet, a_endTime, a_openSet) (nI cap, f_extra, f_gone, f_goneSet, f_goneAt, f_floorAt, f_floorFrom, f_floor, f_total, a_stocks, a_held, a_picks, a_outs, a_backs, a_homes, a_on, a_pick, a_out, a_back, a_home, a_spread) :=
    fun r => ⟨rfl, cap, h, st, q, tm, R, ⟨rfl, rfl, X3, X4⟩, ⟨rfl, Y2, Y3⟩⟩
  unfold wpX_couldPick
  rcases pk_ix v1 (n := 5) (by omega) with o | o | ⟨i, hi, rfl⟩
  · refine xw_held_out v1 (Or.inl o) (br_t rfl ?_)
    unfold wpY_couldPick
    exact yw_there_out v1 (Or.inl o) (br_t rfl (same _))
  · refine xw_held_out v1 (Or.inr o) (br_t rfl ?_)
    unfold wpY_couldPick
    exact yw_there_out v1 (Or.inr o) (br_t rfl (same _))
  · refine xw_held (nI cap) a_stockAt a_askedSet a_endTime a_openSet h hh i hi ?_
    have yt := fun (post : Int32 → Prop) (kk : post (zi_b (h.testBit i))) => yw_there (post := post) (f_most := nI cap) (f_extra := f_extra) (f_gone := f_gone) (f_goneSet := f_goneSet) (f_goneAt := f_goneAt) (f_floorAt := f_floorAt)
      (f_floorFrom := f_floorFrom) (f_floor := f_floor) (f_total := f_total) (a_stocks := a_stocks) (a_picks := a_picks) (a_outs := a_outs) (a_backs := a_backs) (a_homes := a_homes) (a_on := a_on) (a_pick := a_pick)
      (a_out := a_out) (a_back := a_back) (a_home := a_home) (a_spread := a_spread) h (fun j hj => (Y3 j hj).1) i hi kk
    cases o : h.testBit i
    · refine br_t rfl ?_
      unfold wpY_couldPick
      rw [o] at yt
      exact yt _ (br_t rfl (same _))
    · rw [o] at yt
      refine br_f (by decide) ?_
      unfold wpX_isStation
      rcases pk_ix v2 (n := 4) (by omega) with z | z | ⟨s, hs, rfl⟩
      · refine br_t z (br_t rfl ?_)
        unfold wpY_couldPick
        exact yt _ (br_f (by decide) (br_t z (same _)))
      · have c := iv_hi v2 3 (by omega) z
        refine br_f c.2.2 (br_t z (br_t rfl ?_))
        unfold wpY_couldPick
        exact yt _ (br_f (by decide) (br_f c.2.2 (br_t c.1 (same _))))
      · have m2 : (2 : Int32) * nI i = nI (2 * i) := pk_mul 2 i
        refine br_f (nI_pos (by omega)) (br_f (nI_ge (b := 4) hs (by decide)) (br_f (by decide) ?_))
        rw [m2]
        refine xw_could (nI cap) a_stockAt a_askedSet a_endTime a_openSet st q tm HX h hh (2 * i) s (by omega) hs (fun g => br_f (by decide) ?_) (fun g => br_t rfl ?_)
        · exact yw_cpk cap h st q tm R hst Y3 i s hi hs o (fun _ ex gn fa ff fl on pk ou ba ho sp ft => ⟨rfl, cap, h, st, q, tm, R, ⟨rfl, rfl, X3, X4⟩, ⟨rfl, Y2, Y3⟩⟩) (fun ng => absurd g ng)
        · exact yw_cpk cap h st q tm R hst Y3 i s hi hs o (fun g' => absurd g' g) (fun _ ex gn fa ff fl on pk ou ba ho sp ft => ⟨rfl, cap, h, st, q, tm, R, ⟨rfl, rfl, X3, X4⟩, ⟨rfl, Y2, Y3⟩⟩)

theorem i_vc_couldReturn {k : Nat} {u : SX} {v : SY} (I : i_Rel k u v) (hk : k + 5 ≤ 2564) (v1 : Int32) (v2 : Int32) : wpX_couldReturn (fun r u' => wpY_couldReturn (fun r' v' => r' = r ∧ i_Rel (k + 5) u' v') v v1 v2) u v1 v2 := by
  obtain ⟨cap, h, st, q, tm, R, X, Y⟩ := I
  obtain ⟨f_capacity, f_held, a_stockAt, a_askedSet, a_endTime, a_openSet⟩ := u
  obtain ⟨f_most, f_extra, f_gone, f_goneSet, f_goneAt, f_floorAt, f_floorFrom, f_floor, f_total, a_stocks, a_held, a_picks, a_outs, a_backs, a_homes, a_on, a_pick, a_out, a_back, a_home, a_spread⟩ := v
  have HX := iv_xst R X
  obtain ⟨X1, X2, X3, X4⟩ := X
  obtain ⟨Y1, Y2, Y3⟩ := Y
  subst X1 X2 Y1
  have hh := rl_h R
  have hst : ∀ s, s < 4 → a_stocks s = nI (st s) ∧ st s ≤ 3 := fun s hs => ⟨Y2 s hs, R.2.2.2.1 s hs⟩
  have same : ∀ r : Int32, r = r ∧ i_Rel (k + 5) (nI cap, nI h, a_stockAt, a_askedSet, a_endTime, a_openSet) (nI cap, f_extra, f_gone, f_goneSet, f_goneAt, f_floorAt, f_floorFrom, f_floor, f_total, a_stocks, a_held, a_picks, a_outs, a_backs, a_homes, a_on, a_pick, a_out, a_back, a_home, a_spread) :=
    fun r => ⟨rfl, cap, h, st, q, tm, R, ⟨rfl, rfl, X3, X4⟩, ⟨rfl, Y2, Y3⟩⟩
  unfold wpX_couldReturn
  rcases pk_ix v1 (n := 5) (by omega) with o | o | ⟨i, hi, rfl⟩
  · refine xw_held_out v1 (Or.inl o) (br_t rfl ?_)
    unfold wpY_couldReturn
    exact yw_there_out v1 (Or.inl o) (br_t rfl (same _))
  · refine xw_held_out v1 (Or.inr o) (br_t rfl ?_)
    unfold wpY_couldReturn
    exact yw_there_out v1 (Or.inr o) (br_t rfl (same _))
  · refine xw_held (nI cap) a_stockAt a_askedSet a_endTime a_openSet h hh i hi ?_
    have yt := fun (post : Int32 → Prop) (kk : post (zi_b (h.testBit i))) => yw_there (post := post) (f_most := nI cap) (f_extra := f_extra) (f_gone := f_gone) (f_goneSet := f_goneSet) (f_goneAt := f_goneAt) (f_floorAt := f_floorAt)
      (f_floorFrom := f_floorFrom) (f_floor := f_floor) (f_total := f_total) (a_stocks := a_stocks) (a_picks := a_picks) (a_outs := a_outs) (a_backs := a_backs) (a_homes := a_homes) (a_on := a_on) (a_pick := a_pick)
      (a_out := a_out) (a_back := a_back) (a_home := a_home) (a_spread := a_spread) h (fun j hj => (Y3 j hj).1) i hi kk
    cases o : h.testBit i
    · refine br_t rfl ?_
      unfold wpY_couldReturn
      rw [o] at yt
      exact yt _ (br_t rfl (same _))
    · rw [o] at yt
      refine br_f (by decide) ?_
      unfold wpX_isStation
      rcases pk_ix v2 (n := 4) (by omega) with z | z | ⟨s, hs, rfl⟩
      · refine br_t z (br_t rfl ?_)
        unfold wpY_couldReturn
        exact yt _ (br_f (by decide) (br_t z (same _)))
      · have c := iv_hi v2 3 (by omega) z
        refine br_f c.2.2 (br_t z (br_t rfl ?_))
        unfold wpY_couldReturn
        exact yt _ (br_f (by decide) (br_f c.2.2 (br_t c.1 (same _))))
      · have m2 : (2 : Int32) * nI i + 1 = nI (2 * i + 1) := by
          have e : (2 : Int32) * nI i = nI (2 * i) := pk_mul 2 i
          rw [e, nI_1]
        refine br_f (nI_pos (by omega)) (br_f (nI_ge (b := 4) hs (by decide)) (br_f (by decide) ?_))
        rw [m2]
        refine xw_could (nI cap) a_stockAt a_askedSet a_endTime a_openSet st q tm HX h hh (2 * i + 1) s (by omega) hs (fun g => br_f (by decide) ?_) (fun g => br_t rfl ?_)
        · exact yw_cbk cap h st q tm R hst Y3 i s hi hs o (fun _ ex gn fa ff fl on pk ou ba ho sp ft => ⟨rfl, cap, h, st, q, tm, R, ⟨rfl, rfl, X3, X4⟩, ⟨rfl, Y2, Y3⟩⟩) (fun ng => absurd g ng)
        · exact yw_cbk cap h st q tm R hst Y3 i s hi hs o (fun g' => absurd g' g) (fun _ ex gn fa ff fl on pk ou ba ho sp ft => ⟨rfl, cap, h, st, q, tm, R, ⟨rfl, rfl, X3, X4⟩, ⟨rfl, Y2, Y3⟩⟩)
