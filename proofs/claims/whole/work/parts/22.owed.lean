theorem i_vc_probe {k : Nat} {u : SX} {v : SY} (I : i_Rel k u v) (hk : k + 5 ≤ 2564) (v1 : Int32) (v2 : Int32) (v3 : Int32) (v4 : Int32) : wpX_probe (fun r u' => wpY_probe (fun r' v' => r' = r ∧ i_Rel (k + 5) u' v') v v1 v2 v3 v4) u v1 v2 v3 v4 := by
  obtain ⟨cap, h, st, q, tm, R, X, Y⟩ := I
  obtain ⟨f_capacity, f_held, a_stockAt, a_askedSet, a_endTime, a_openSet⟩ := u
  obtain ⟨f_most, f_extra, f_gone, f_goneSet, f_goneAt, f_floorAt, f_floorFrom, f_floor, f_total, a_stocks, a_held, a_picks, a_outs, a_backs, a_homes, a_on, a_pick, a_out, a_back, a_home, a_spread⟩ := v
  have HX := iv_xst R X
  obtain ⟨X1, X2, X3, X4⟩ := X
  obtain ⟨Y1, Y2, Y3⟩ := Y
  subst X1 X2 Y1
  have hh := rl_h R
  have hst : ∀ s, s < 4 → a_stocks s = nI (st s) ∧ st s ≤ 3 := fun s hs => ⟨Y2 s hs, R.2.2.2.1 s hs⟩
  unfold wpX_probe
  by_cases bad : v1 < 1 ∨ 15 < v1 ∨ v3 < 1 ∨ 15 < v3 ∨ v2 < 0 ∨ v4 ≤ v2 ∨ ¬ v4 ≤ 8
  · refine xw_bad v1 v2 v3 v4 bad (br_t (by decide) ?_)
    unfold wpY_probe
    exact yw_bad v1 v2 v3 v4 bad (br_f (by decide) ⟨rfl, cap, h, st, q, tm, R, ⟨rfl, rfl, X3, X4⟩, ⟨rfl, Y2, Y3⟩⟩)
  · have b1 : ¬ v1 < 1 := fun z => bad (Or.inl z)
    have b2 : ¬ 15 < v1 := fun z => bad (Or.inr (Or.inl z))
    have b3 : ¬ v3 < 1 := fun z => bad (Or.inr (Or.inr (Or.inl z)))
    have b4 : ¬ 15 < v3 := fun z => bad (Or.inr (Or.inr (Or.inr (Or.inl z))))
    have b5 : ¬ v2 < 0 := fun z => bad (Or.inr (Or.inr (Or.inr (Or.inr (Or.inl z)))))
    have b6 : ¬ v4 ≤ v2 := fun z => bad (Or.inr (Or.inr (Or.inr (Or.inr (Or.inr (Or.inl z))))))
    have b7 : v4 ≤ 8 := Classical.byContradiction fun z => bad (Or.inr (Or.inr (Or.inr (Or.inr (Or.inr (Or.inr z))))))
    obtain ⟨p, hp1, hp, rfl⟩ := tb_arg (a := 1) (b := 15) (by omega) (by omega) (Int32.not_lt.mp b1) (Int32.not_lt.mp b2)
    obtain ⟨b, hb1, hb, rfl⟩ := tb_arg (a := 1) (b := 15) (by omega) (by omega) (Int32.not_lt.mp b3) (Int32.not_lt.mp b4)
    obtain ⟨t, u, htu, hu, rfl, rfl⟩ := tb_tu b5 b6 b7
    have ask : ∀ e, e < 10 → a_askedSet e = nI (q e) := fun e he => (X4 e he).1
    have opn : ∀ e, e < 10 → a_openSet e = nI (q e) := fun e he => (X4 e he).2.1
    have tim : ∀ e, e < 10 → a_endTime e = nI (tm e) := fun e he => (X4 e he).2.2
    have X4' : ∀ i, ∀ e, e < 10 → upd (upd a_askedSet (2 * i) (nI p)) (2 * i + 1) (nI b) e = nI (rl_q q i p b e) ∧ upd (upd a_openSet (2 * i) (nI p)) (2 * i + 1) (nI b) e = nI (rl_q q i p b e) ∧
        upd (upd a_endTime (2 * i) (nI t)) (2 * i + 1) (nI u) e = nI (rl_q tm i t u e) :=
      fun i e he => ⟨rl_upd _ q i p b ask e he, rl_upd _ q i p b opn e he, rl_upd _ tm i t u tim e he⟩
    have c6 := R.2.1
    have Y3' : ∀ i, h.testBit i = false → yw_B h (rl_q q i p b) (rl_q tm i t u) a_held a_picks a_outs a_backs a_homes := by
      intro i fr j hj
      refine ⟨(Y3 j hj).1, fun o => ?_⟩
      have c : ¬ j = i := fun z => by rw [z, fr] at o; cases o
      rw [rl_qn0 q i p b j c, rl_qn1 q i p b j c, rl_qn0 tm i t u j c, rl_qn1 tm i t u j c]
      exact (Y3 j hj).2 o
    refine xw_book cap h st q tm R HX p t b u hp1 (by omega) hb1 (by omega) htu hu (fun f => ?_) (fun lc g => ?_) (fun lc g => ?_)
    · refine br_t (by decide) ?_
      refine yw_probe cap h st q tm R rfl hst Y3 p t b u hp1 (by omega) hb1 (by omega) htu hu (fun _ => ?_) (fun lc => absurd lc (by omega)) (fun lc => absurd lc (by omega))
      exact ⟨rfl, cap, h, st, q, tm, R, ⟨rfl, rfl, X3, X4⟩, ⟨rfl, Y2, Y3⟩⟩
    · have li : tb_lf h < 5 := by omega
      have fr := tb_lf_free h hh li
      have sl := tb_sl (tb_lf h) li
      have hs : h ||| 2 ^ tb_lf h < 32 := Nat.lt_of_lt_of_le (tb_or_lt cap c6 h hh R.2.2.1 (tb_lf h) lc) (tb_cap cap c6)
      refine br_f (nI_pos (by omega)) (nm_r (e' := nI h) (by rw [sl, tb_clr _ hs _ li, tb_c_or h hh _ li fr]) ?_)
      refine yw_probe cap h st q tm R rfl hst Y3 p t b u hp1 (by omega) hb1 (by omega) htu hu (fun f => absurd lc (by omega)) (fun _ _ on pk ou ba ho sp ft => ?_) (fun _ ng => absurd g ng)
      exact ⟨rfl, cap, h, st, _, _, rl_over (tb_lf h) p t b u R fr (by omega) (by omega) (by omega) hu, ⟨rfl, rfl, X3, X4' _⟩, ⟨rfl, Y2, Y3' _ fr⟩⟩
    · have li : tb_lf h < 5 := by omega
      have fr := tb_lf_free h hh li
      refine br_t (by decide) ?_
      refine yw_probe cap h st q tm R rfl hst Y3 p t b u hp1 (by omega) hb1 (by omega) htu hu (fun f => absurd lc (by omega)) (fun _ g' => absurd g' g) (fun _ _ on pk ou ba ho sp ft => ?_)
      exact ⟨rfl, cap, h, st, _, _, rl_over (tb_lf h) p t b u R fr (by omega) (by omega) (by omega) hu, ⟨rfl, rfl, X3, X4' _⟩, ⟨rfl, Y2, Y3' _ fr⟩⟩

theorem i_vc_cancel {k : Nat} {u : SX} {v : SY} (I : i_Rel k u v) (hk : k + 5 ≤ 2564) (v1 : Int32) : wpX_cancel (fun r u' => wpY_cancel (fun r' v' => r' = r ∧ i_Rel (k + 5) u' v') v v1) u v1 := by
  obtain ⟨cap, h, st, q, tm, R, X, Y⟩ := I
  obtain ⟨f_capacity, f_held, a_stockAt, a_askedSet, a_endTime, a_openSet⟩ := u
  obtain ⟨f_most, f_extra, f_gone, f_goneSet, f_goneAt, f_floorAt, f_floorFrom, f_floor, f_total, a_stocks, a_held, a_picks, a_outs, a_backs, a_homes, a_on, a_pick, a_out, a_back, a_home, a_spread⟩ := v
  have HX := iv_xst R X
  obtain ⟨X1, X2, X3, X4⟩ := X
  obtain ⟨Y1, Y2, Y3⟩ := Y
  subst X1 X2 Y1
  have hh := rl_h R
  have hst : ∀ s, s < 4 → a_stocks s = nI (st s) ∧ st s ≤ 3 := fun s hs => ⟨Y2 s hs, R.2.2.2.1 s hs⟩
  have same : ∀ r : Int32, r = r ∧ i_Rel (k + 5) (nI cap, nI h, a_stockAt, a_askedSet, a_endTime, a_openSet) (nI cap, f_extra, f_gone, f_goneSet, f_goneAt, f_floorAt, f_floorFrom, f_floor, f_total, a_stocks, a_held, a_picks, a_outs, a_backs, a_homes, a_on, a_pick, a_out, a_back, a_home, a_spread) :=
    fun r => ⟨rfl, cap, h, st, q, tm, R, ⟨rfl, rfl, X3, X4⟩, ⟨rfl, Y2, Y3⟩⟩
  unfold wpX_cancel
  rcases pk_ix v1 (n := 5) (by omega) with o | o | ⟨i, hi, rfl⟩
  · refine xw_held_out v1 (Or.inl o) (br_t rfl ?_)
    unfold wpY_cancel
    exact yw_there_out v1 (Or.inl o) (br_t rfl (same _))
  · refine xw_held_out v1 (Or.inr o) (br_t rfl ?_)
    unfold wpY_cancel
    exact yw_there_out v1 (Or.inr o) (br_t rfl (same _))
  · refine xw_held (nI cap) a_stockAt a_askedSet a_endTime a_openSet h hh i hi ?_
    cases o : h.testBit i
    · refine br_t rfl ?_
      unfold wpY_cancel
      refine yw_there h (fun j hj => (Y3 j hj).1) i hi ?_
      rw [o]
      exact br_t rfl (same _)
    · have sl := tb_sl i hi
      have v5 : vp_in (nI i) 5 := vp_in_nI hi (by omega)
      have v6 : vp_in (nI i) 6 := vp_in_nI (by omega) (by omega)
      have ci : (nI i).toNatClampNeg = i := nI_clamp (by omega)
      have c32 : tb_c h i < 32 := Nat.lt_of_lt_of_le (tb_c_lt cap R.2.1 h hh R.2.2.1 i hi) (tb_cap cap R.2.1)
      have rg' := rl_drop_rg i hi R
      refine br_f (by decide) (nm_r (e' := nI (tb_c h i)) (by rw [sl]; exact tb_clr h hh i hi) ?_)
      refine xw_good (nI cap) a_stockAt a_askedSet a_endTime a_openSet st q tm HX (tb_c h i) c32 (fun g => br_f (by decide) ?_) (fun g => br_t rfl (nm_r (e' := nI h) (by rw [sl, tb_set _ c32 i hi, tb_or_c h hh i hi o]) ?_))
      · unfold wpY_cancel
        refine yw_there h (fun j hj => (Y3 j hj).1) i hi ?_
        rw [o]
        refine br_f (by decide) (yw_ask h hh q tm Y3 (fun on pk ou ba ho H => ⟨v6, nm_r (e' := upd on i (zi_b false)) (by rw [ci, yw_n0]) ?_⟩))
        refine yw_plain (tb_c h i).testBit q tm (yw_Hc h hh q tm i hi H) rg' st hst (fun _ sp ft => ?_) (fun ng => absurd g ng)
        refine br_f (by decide) ⟨v5, nm_r (e' := upd a_held i (zi_b false)) (by rw [ci, yw_n0]) ⟨rfl, cap, tb_c h i, st, q, tm, rl_drop i hi R g, ⟨rfl, rfl, X3, X4⟩, ⟨rfl, Y2, fun j hj => ?_⟩⟩⟩
        have z := Y3 j hj
        rw [tb_c_bit h hh i hi j (by omega)]
        by_cases c : j = i
        · subst c
          rw [decide_eq_true rfl, Bool.not_true, Bool.and_false]
          exact ⟨pk_us, fun w => by cases w⟩
        · rw [decide_eq_false c, Bool.not_false, Bool.and_true, pk_un c]; exact z
      · unfold wpY_cancel
        refine yw_there h (fun j hj => (Y3 j hj).1) i hi ?_
        rw [o]
        refine br_f (by decide) (yw_ask h hh q tm Y3 (fun on pk ou ba ho H => ⟨v6, nm_r (e' := upd on i (zi_b false)) (by rw [ci, yw_n0]) ?_⟩))
        refine yw_plain (tb_c h i).testBit q tm (yw_Hc h hh q tm i hi H) rg' st hst (fun g' => absurd g' g) (fun _ sp ft => ?_)
        exact br_t rfl ⟨rfl, cap, h, st, q, tm, R, ⟨rfl, rfl, X3, X4⟩, ⟨rfl, Y2, Y3⟩⟩

theorem i_vc_setStock {k : Nat} {u : SX} {v : SY} (I : i_Rel k u v) (hk : k + 5 ≤ 2564) (v1 : Int32) (v2 : Int32) : wpX_setStock (fun r u' => wpY_setStock (fun r' v' => r' = r ∧ i_Rel (k + 5) u' v') v v1 v2) u v1 v2 := by
  obtain ⟨cap, h, st, q, tm, R, X, Y⟩ := I
  obtain ⟨f_capacity, f_held, a_stockAt, a_askedSet, a_endTime, a_openSet⟩ := u
  obtain ⟨f_most, f_extra, f_gone, f_goneSet, f_goneAt, f_floorAt, f_floorFrom, f_floor, f_total, a_stocks, a_held, a_picks, a_outs, a_backs, a_homes, a_on, a_pick, a_out, a_back, a_home, a_spread⟩ := v
  have HX := iv_xst R X
  obtain ⟨X1, X2, X3, X4⟩ := X
  obtain ⟨Y1, Y2, Y3⟩ := Y
  subst X1 X2 Y1
  have hh := rl_h R
  have same : ∀ r : Int32, r = r ∧ i_Rel (k + 5) (nI cap, nI h, a_stockAt, a_askedSet, a_endTime, a_openSet) (nI cap, f_extra, f_gone, f_goneSet, f_goneAt, f_floorAt, f_floorFrom, f_floor, f_total, a_stocks, a_held, a_picks, a_outs, a_backs, a_homes, a_on, a_pick, a_out, a_back, a_home, a_spread) :=
    fun r => ⟨rfl, cap, h, st, q, tm, R, ⟨rfl, rfl, X3, X4⟩, ⟨rfl, Y2, Y3⟩⟩
  unfold wpX_setStock wpX_isStation
  rcases pk_ix v1 (n := 4) (by omega) with o | o | ⟨s, hs, rfl⟩
  · exact br_t o (br_t rfl (br_t o (same _)))
  · have c := iv_hi v1 3 (by omega) o
    exact br_f c.2.2 (br_t o (br_t rfl (br_f c.2.2 (br_t c.1 (same _)))))
  · refine br_f (nI_pos (by omega)) (br_f (nI_ge (b := 4) hs (by decide)) (br_f (by decide) ?_))
    by_cases b1 : v2 < 0
    · exact br_t b1 (br_f (nI_pos (by omega)) (br_f (nI_nlt (a := 3) (by omega) (by omega)) (br_t b1 (same _))))
    by_cases b2 : v2 ≤ 3
    · obtain ⟨n, _, hn, rfl⟩ := tb_arg (a := 0) (b := 3) (by omega) (by omega) (Int32.not_lt.mp b1) b2
      have v4 : vp_in (nI s) 4 := vp_in_nI hs (by omega)
      have cs : (nI s).toNatClampNeg = s := nI_clamp (by omega)
      have X3' : ∀ j, j < 4 → upd a_stockAt s (nI n) j = nI (fp_up st s n j) := by
        intro j hj
        simp only [fp_up]
        by_cases c : j = s
        · subst c; rw [if_pos rfl]; exact pk_us
        · rw [if_neg c, pk_un c]; exact X3 j hj
      have Y2' : ∀ j, j < 4 → upd a_stocks s (nI n) j = nI (fp_up st s n j) := by
        intro j hj
        simp only [fp_up]
        by_cases c : j = s
        · subst c; rw [if_pos rfl]; exact pk_us
        · rw [if_neg c, pk_un c]; exact Y2 j hj
      have le3 : ∀ j, j < 4 → fp_up st s n j ≤ 3 := by
        intro j hj
        simp only [fp_up]
        split
        · exact hn
        · exact R.2.2.2.1 j hj
      have HX' : xw_st (fp_up st s n) q tm (upd a_stockAt s (nI n)) a_endTime a_openSet := ⟨fun j hj => ⟨X3' j hj, le3 j hj⟩, HX.2⟩
      refine br_f b1 (br_t b2 ⟨v4, nm_r (e' := a_stockAt s) (by rw [cs]) ⟨v4, nm_r (e' := upd a_stockAt s (nI n)) (by rw [cs]) ?_⟩⟩)
      refine xw_good (nI cap) _ a_askedSet a_endTime a_openSet (fp_up st s n) q tm HX' h hh (fun g => br_f (by decide) ?_)
        (fun g => br_t rfl ⟨v4, nm_r (e' := a_stockAt) (by rw [cs]; exact xw_back _ _ _) ?_⟩)
      · refine br_f (nI_pos (by omega)) (br_f (nI_nlt (a := 3) (by omega) (by omega)) (br_f b1 (br_t b2 ⟨v4, nm_e ⟨v4, nm_r (e' := upd a_stocks s (nI n)) (by rw [cs]) ?_⟩⟩)))
        refine yw_ask h hh q tm Y3 (fun on pk ou ba ho H => ?_)
        refine yw_plain h.testBit q tm H R.2.2.2.2.2.1 (fp_up st s n) (fun j hj => ⟨Y2' j hj, le3 j hj⟩) (fun _ sp ft => ?_) (fun ng => absurd g ng)
        exact br_f (by decide) ⟨rfl, cap, h, fp_up st s n, q, tm, rl_stock s n hn R g, ⟨rfl, rfl, X3', X4⟩, ⟨rfl, Y2', Y3⟩⟩
      · refine br_f (nI_pos (by omega)) (br_f (nI_nlt (a := 3) (by omega) (by omega)) (br_f b1 (br_t b2 ⟨v4, nm_r (e' := a_stocks s) (by rw [cs]) ⟨v4, nm_r (e' := upd a_stocks s (nI n)) (by rw [cs]) ?_⟩⟩)))
        refine yw_ask h hh q tm Y3 (fun on pk ou ba ho H => ?_)
        refine yw_plain h.testBit q tm H R.2.2.2.2.2.1 (fp_up st s n) (fun j hj => ⟨Y2' j hj, le3 j hj⟩) (fun g' => absurd g' g) (fun _ sp ft => ?_)
        exact br_t rfl ⟨v4, nm_r (e' := a_stocks) (by rw [cs]; exact xw_back _ _ _) ⟨rfl, cap, h, st, q, tm, R, ⟨rfl, rfl, X3, X4⟩, ⟨rfl, Y2, Y3⟩⟩⟩
    · exact br_f b1 (br_f b2 (br_f (nI_pos (by omega)) (br_f (nI_nlt (a := 3) (by omega) (by omega)) (br_f b1 (br_f b2 (same _))))))

theorem i_vc_stock {k : Nat} {u : SX} {v : SY} (I : i_Rel k u v) (hk : k + 5 ≤ 2564) (v1 : Int32) : wpX_stock (fun r => wpY_stock (fun r' => r' = r ∧ i_Rel (k + 5) u v) v v1) u v1 := by
  have I0 : i_Rel (k + 5) u v := I
  obtain ⟨cap, h, st, q, tm, R, X, Y⟩ := I
  obtain ⟨f_capacity, f_held, a_stockAt, a_askedSet, a_endTime, a_openSet⟩ := u
  obtain ⟨f_most, f_extra, f_gone, f_goneSet, f_goneAt, f_floorAt, f_floorFrom, f_floor, f_total, a_stocks, a_held, a_picks, a_outs, a_backs, a_homes, a_on, a_pick, a_out, a_back, a_home, a_spread⟩ := v
  obtain ⟨X1, X2, X3, X4⟩ := X
  obtain ⟨Y1, Y2, Y3⟩ := Y
  unfold wpX_stock wpX_isStation
  rcases pk_ix v1 (n := 4) (by omega) with o | o | ⟨s, hs, rfl⟩
  · exact br_t o (br_t rfl (br_t o ⟨rfl, I0⟩))
  · have c := iv_hi v1 3 (by omega) o
    exact br_f c.2.2 (br_t o (br_t rfl (br_f c.2.2 (br_f c.2.1 ⟨rfl, I0⟩))))
  · have v4 : vp_in (nI s) 4 := vp_in_nI hs (by omega)
    have cs : (nI s).toNatClampNeg = s := nI_clamp (by omega)
    refine br_f (nI_pos (by omega)) (br_f (nI_ge (b := 4) hs (by decide)) (br_f (by decide) ⟨v4, br_f (nI_pos (by omega)) (br_t (nI_le (b := 3) (by omega) (by omega)) ⟨v4, ?_, I0⟩)⟩))
    rw [cs, X3 s hs, Y2 s hs]

theorem i_vc_bookings {k : Nat} {u : SX} {v : SY} (I : i_Rel k u v) (hk : k + 5 ≤ 2564) : wpX_bookings (fun r => wpY_bookings (fun r' => r' = r ∧ i_Rel (k + 5) u v) v) u := by
  have I0 : i_Rel (k + 5) u v := I
  obtain ⟨cap, h, st, q, tm, R, X, Y⟩ := I
  obtain ⟨f_capacity, f_held, a_stockAt, a_askedSet, a_endTime, a_openSet⟩ := u
  obtain ⟨f_most, f_extra, f_gone, f_goneSet, f_goneAt, f_floorAt, f_floorFrom, f_floor, f_total, a_stocks, a_held, a_picks, a_outs, a_backs, a_homes, a_on, a_pick, a_out, a_back, a_home, a_spread⟩ := v
  obtain ⟨X1, X2, X3, X4⟩ := X
  obtain ⟨Y1, Y2, Y3⟩ := Y
  unfold wpX_bookings
  exact yw_bookings h (rl_h R) (fun j hj => (Y3 j hj).1) ⟨X2.symm, I0⟩
