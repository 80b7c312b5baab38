theorem iv_room {cap h : Nat} {st q tm : Nat → Nat} (R : rl_R cap h st q tm) (p t : Nat) (r : Int) (I : ∀ g, g < 32 → xg_sub g h → r ≤ xg_sl st h g p t q tm)
    (J : ∃ g, g < 32 ∧ xg_sub g h ∧ r = xg_sl st h g p t q tm) :
    (∀ z, (∀ g, z ≤ hs_sl (xg_st st) h.testBit (xg_pk q) (xg_ot tm) (xg_bk q) (xg_hm tm) p.testBit t g true) ↔ z ≤ r) ∧ 0 ≤ r ∧ r ≤ 17 := by
  have hh := rl_h R
  obtain ⟨g, h32, sub, e⟩ := J
  have hr : ∀ z, (∀ g, z ≤ hs_sl (xg_st st) h.testBit (xg_pk q) (xg_ot tm) (xg_bk q) (xg_hm tm) p.testBit t g true) ↔ z ≤ r := by
    intro z
    rw [xg_room st h hh p t q tm z]
    constructor
    · intro a; rw [e]; exact a g h32 sub
    · intro a g' g2 s; exact Int.le_trans a (I g' g2 s)
  refine ⟨hr, (hr 0).mp fun g => ?_, ?_⟩
  · exact Int.le_trans (an_good st h.testBit q tm p.testBit t R.2.2.2.2.2.2 g) (hs_sl_mono (xg_st st) (an_st st) _ _ _ _ _ _ _ g)
  · rw [e]; exact (xg_sl_bd st h g p t q tm R.2.2.2.1).2

theorem i_vc_shortage {k : Nat} {u : SX} {v : SY} (I : i_Rel k u v) (hk : k + 5 ≤ 2564) (v1 : Int32) (v2 : Int32) (v3 : Int32) : wpX_shortage (fun r => wpY_shortage (fun r' v' => r' = r ∧ i_Rel (k + 5) u v') v v1 v2 v3) u v1 v2 v3 := by
  obtain ⟨cap, h, st, q, tm, R, X, Y⟩ := I
  obtain ⟨f_capacity, f_held, a_stockAt, a_askedSet, a_endTime, a_openSet⟩ := u
  obtain ⟨f_most, f_extra, f_gone, f_goneSet, f_goneAt, f_floorAt, f_floorFrom, f_floor, f_total, a_stocks, a_held, a_picks, a_outs, a_backs, a_homes, a_on, a_pick, a_out, a_back, a_home, a_spread⟩ := v
  have HX := iv_xst R X
  obtain ⟨X1, X2, X3, X4⟩ := X
  obtain ⟨Y1, Y2, Y3⟩ := Y
  subst X1 X2 Y1
  have hh := rl_h R
  have hst : ∀ s, s < 4 → a_stocks s = nI (st s) ∧ st s ≤ 3 := fun s hs => ⟨Y2 s hs, R.2.2.2.1 s hs⟩
  have same : ∀ r : Int32, r = r ∧ i_Rel (k + 5) (nI cap, nI h, a_stockAt, a_askedSet, a_endTime, a_openSet) (nI cap, f_extra, f_gone, f_goneSet, f_goneAt, f_floorAt, f_floorFrom, f_floor, f_total, a_stocks, a_held, a_picks, a_outs, a_backs, a_homes, a_on, a_pick, a_out, a_back, a_home, a_spread) :=
    fun r => ⟨rfl, cap, h, st, q, tm, R, ⟨rfl, rfl, X3, X4⟩, ⟨rfl, Y2, Y3⟩⟩
  unfold wpX_shortage wpX_isStationSet wpX_isTime
  by_cases b1 : v1 < 1
  · exact br_t b1 (br_t rfl (br_t b1 (same _)))
  refine br_f b1 ?_
  by_cases b2 : 15 < v1
  · exact br_t b2 (br_t rfl (br_f b1 (br_t b2 (same _))))
  refine br_f b2 (br_f (by decide) ?_)
  by_cases b3 : v2 < 0
  · exact br_t b3 (br_t rfl (br_f b1 (br_f b2 (br_t b3 (same _)))))
  refine br_f b3 ?_
  by_cases b4 : 8 < v2
  · exact br_t b4 (br_t rfl (br_f b1 (br_f b2 (br_f b3 (br_t b4 (same _))))))
  refine br_f b4 (br_f (by decide) ?_)
  by_cases b5 : v3 < 0
  · exact br_t b5 (br_f b1 (br_f b2 (br_f b3 (br_f b4 (br_t b5 (same _))))))
  refine br_f b5 ?_
  by_cases b6 : v3 ≤ 9
  · obtain ⟨p, hp1, hp, rfl⟩ := tb_arg (a := 1) (b := 15) (by omega) (by omega) (Int32.not_lt.mp b1) (Int32.not_lt.mp b2)
    obtain ⟨t, _, ht, rfl⟩ := tb_arg (a := 0) (b := 8) (by omega) (by omega) (Int32.not_lt.mp b3) (Int32.not_lt.mp b4)
    obtain ⟨n, _, hn, rfl⟩ := tb_arg (a := 0) (b := 9) (by omega) (by omega) (Int32.not_lt.mp b5) b6
    refine br_t b6 (xw_room (nI cap) a_stockAt a_askedSet a_endTime a_openSet st q tm HX h p t hh (by omega) ht (fun r Ir Jr => ?_))
    obtain ⟨hr, r0, r17⟩ := iv_room R p t r Ir Jr
    have cmp : (nI n ≤ zi_z r) ↔ (n : Int) ≤ r := by rw [zi_n]; exact zi_le (by omega) (by omega) (by omega) (by omega)
    have go : ∀ (x : Int32) (A : Nat), (∀ e : Nat, A ≤ e ↔ (n : Int) - e ≤ r) → nI A = x →
        wpY_shortage (fun r' v' => r' = x ∧ i_Rel (k + 5) (nI cap, nI h, a_stockAt, a_askedSet, a_endTime, a_openSet) v') (nI cap, f_extra, f_gone, f_goneSet, f_goneAt, f_floorAt, f_floorFrom, f_floor, f_total, a_stocks, a_held, a_picks, a_outs, a_backs, a_homes, a_on, a_pick, a_out, a_back, a_home, a_spread) (nI p) (nI t) (nI n) := by
      intro x A hA hx
      exact yw_short cap h st q tm R hst Y3 p t n hp1 (by omega) ht hn r hr r0 A hA
        (fun ex gn gs ga fa ff fl on pk ou ba ho sp ft => ⟨hx, cap, h, st, q, tm, R, ⟨rfl, rfl, X3, X4⟩, ⟨rfl, Y2, Y3⟩⟩)
    by_cases c : (n : Int) ≤ r
    · exact br_t (cmp.mpr c) (go 0 0 (fun e => ⟨fun _ => by omega, fun _ => by omega⟩) nI_0)
    · refine br_f (fun z => c (cmp.mp z)) (go _ ((n : Int) - r).toNat (fun e => ⟨fun _ => by omega, fun _ => by omega⟩) ?_)
      rw [zi_n, zi_n, zi_sub]; exact congrArg zi_z (by omega)
  · exact br_f b6 (br_f b1 (br_f b2 (br_f b3 (br_f b4 (br_f b5 (br_f b6 (same _)))))))

theorem i_vc_spare {k : Nat} {u : SX} {v : SY} (I : i_Rel k u v) (hk : k + 5 ≤ 2564) (v1 : Int32) (v2 : Int32) : wpX_spare (fun r => wpY_spare (fun r' v' => r' = r ∧ i_Rel (k + 5) u v') v v1 v2) u v1 v2 := by
  obtain ⟨cap, h, st, q, tm, R, X, Y⟩ := I
  obtain ⟨f_capacity, f_held, a_stockAt, a_askedSet, a_endTime, a_openSet⟩ := u
  obtain ⟨f_most, f_extra, f_gone, f_goneSet, f_goneAt, f_floorAt, f_floorFrom, f_floor, f_total, a_stocks, a_held, a_picks, a_outs, a_backs, a_homes, a_on, a_pick, a_out, a_back, a_home, a_spread⟩ := v
  have HX := iv_xst R X
  obtain ⟨X1, X2, X3, X4⟩ := X
  obtain ⟨Y1, Y2, Y3⟩ := Y
  subst X1 X2 Y1
  have hh := rl_h R
  have hst : ∀ s, s < 4 → a_stocks s = nI (st s) ∧ st s ≤ 3 := fun s hs => ⟨Y2 s hs, R.2.2.2.1 s hs⟩
  have same : ∀ r : Int32, r = r ∧ i_Rel (k + 5) (nI cap, nI h, a_stockAt, a_askedSet, a_endTime, a_openSet) (nI cap, f_extra, f_gone, f_goneSet, f_goneAt, f_floorAt, f_floorFrom, f_floor, f_total, a_stocks, a_held, a_picks, a_outs, a_backs, a_homes, a_on, a_pick, a_out, a_back, a_home, a_spread) :=
    fun r => ⟨rfl, cap, h, st, q, tm, R, ⟨rfl, rfl, X3, X4⟩, ⟨rfl, Y2, Y3⟩⟩
  unfold wpX_spare wpX_isStation wpX_isTime
  rcases pk_ix v1 (n := 4) (by omega) with o | o | ⟨s, hs, rfl⟩
  · exact br_t o (br_t rfl (br_t o (same _)))
  · have c := iv_hi v1 3 (by omega) o
    exact br_f c.2.2 (br_t o (br_t rfl (br_f c.2.2 (br_t c.1 (same _)))))
  · have s0 : ¬ nI s < 0 := nI_pos (by omega)
    have s3 : ¬ 3 < nI s := nI_nlt (a := 3) (by omega) (by omega)
    refine br_f s0 (br_f (nI_ge (b := 4) hs (by decide)) (br_f (by decide) ?_))
    by_cases b1 : v2 < 0
    · exact br_t b1 (br_t rfl (br_f s0 (br_f s3 (br_t b1 (same _)))))
    refine br_f b1 ?_
    by_cases b2 : 8 < v2
    · exact br_t b2 (br_t rfl (br_f s0 (br_f s3 (br_f b1 (br_f (Int32.not_le.mpr b2) (same _))))))
    · obtain ⟨x, _, hx, rfl⟩ := tb_arg (a := 0) (b := 8) (by omega) (by omega) (Int32.not_lt.mp b1) (Int32.not_lt.mp b2)
      refine br_f b2 (br_f (by decide) ?_)
      have pw := an_pow_lt s hs
      rw [tb_sl s (by omega)]
      refine xw_room (nI cap) a_stockAt a_askedSet a_endTime a_openSet st q tm HX h (2 ^ s) x hh pw.2 hx (fun r Ir Jr => ?_)
      obtain ⟨hr, r0, r17⟩ := iv_room R (2 ^ s) x r Ir Jr
      have r8 : r ≤ 8 := Int.le_trans (Ir 0 (by omega) (fun j _ z => by rw [Nat.zero_testBit] at z; cases z)) (rl_room_le st h s x hs q tm R.2.2.2.1)
      have rA : (r.toNat : Int) = r := by omega
      refine yw_spare cap h st q tm R hst Y3 s x hs hx r.toNat (by omega) (by rw [rA]; exact hr) (fun ex gn gs ga fa ff fl on pk ou ba ho sp ft => ⟨?_, cap, h, st, q, tm, R, ⟨rfl, rfl, X3, X4⟩, ⟨rfl, Y2, Y3⟩⟩)
      rw [zi_n, rA]

theorem i_vc_pickupOf {k : Nat} {u : SX} {v : SY} (I : i_Rel k u v) (hk : k + 5 ≤ 2564) (v1 : Int32) : wpX_pickupOf (fun r u' => wpY_pickupOf (fun r' v' => r' = r ∧ i_Rel (k + 5) u' v') v v1) u v1 := by
  obtain ⟨cap, h, st, q, tm, R, X, Y⟩ := I
  obtain ⟨f_capacity, f_held, a_stockAt, a_askedSet, a_endTime, a_openSet⟩ := u
  obtain ⟨f_most, f_extra, f_gone, f_goneSet, f_goneAt, f_floorAt, f_floorFrom, f_floor, f_total, a_stocks, a_held, a_picks, a_outs, a_backs, a_homes, a_on, a_pick, a_out, a_back, a_home, a_spread⟩ := v
  have HX := iv_xst R X
  obtain ⟨X1, X2, X3, X4⟩ := X
  obtain ⟨Y1, Y2, Y3⟩ := Y
  subst X1 X2 Y1
  have hh := rl_h R
  have hst : ∀ s, s < 4 → a_stocks s = nI (st s) ∧ st s ≤ 3 := fun s hs => ⟨Y2 s hs, R.2.2.2.1 s hs⟩
  have same : ∀ r : Int32, r = r ∧ i_Rel (k + 5) (nI cap, nI h, a_stockAt, a_askedSet, a_endTime, a_openSet) (nI cap, f_extra, f_gone, f_goneSet, f_goneAt, f_floorAt, f_floorFrom, f_floor, f_total, a_stocks, a_held, a_picks, a_outs, a_backs, a_homes, a_on, a_pick, a_out, a_back, a_home, a_spread) :=
    fun r => ⟨rfl, cap, h, st, q, tm, R, ⟨rfl, rfl, X3, X4⟩, ⟨rfl, Y2, Y3⟩⟩
  have rg := R.2.2.2.2.2.1
  have good := R.2.2.2.2.2.2
  unfold wpX_pickupOf
  rcases pk_ix v1 (n := 5) (by omega) with o | o | ⟨i, hi, rfl⟩
  · refine xw_held_out v1 (Or.inl o) (br_t rfl ?_)
    unfold wpY_pickupOf
    exact yw_there_out v1 (Or.inl o) (br_t rfl (same _))
  · refine xw_held_out v1 (Or.inr o) (br_t rfl ?_)
    unfold wpY_pickupOf
    exact yw_there_out v1 (Or.inr o) (br_t rfl (same _))
  · refine xw_held (nI cap) a_stockAt a_askedSet a_endTime a_openSet h hh i hi ?_
    cases o : h.testBit i
    · refine br_t rfl ?_
      unfold wpY_pickupOf
      refine yw_there h (fun j hj => (Y3 j hj).1) i hi ?_
      rw [o]
      exact br_t rfl (same _)
    · have m2 : (2 : Int32) * nI i = nI (2 * i) := pk_mul 2 i
      have d0 : 2 * i / 2 = i := by omega
      have d1 : (2 * i + 1) / 2 = i := by omega
      have i0 := fp_inv st h.testBit q tm rg good (2 * i) (by omega)
      have s0 := fp_ls_spec (fp_n st h.testBit (fp_q st h.testBit q tm (2 * i)) tm (2 * i)) (fp_ex st h.testBit _ tm i0.1 i0.2.1 (2 * i) (by omega) (by rw [d0]; exact o))
      have q1 := fp_q_s st h.testBit q tm (2 * i) (by rw [d0]; exact o)
      have q2 := fp_q_s st h.testBit q tm (2 * i + 1) (by rw [d1]; exact o)
      refine br_f (by decide) ?_
      rw [m2]
      refine xw_first (nI cap) a_stockAt a_askedSet a_endTime a_openSet st q tm HX h hh rg good (2 * i) (by omega) (by rw [d0]; exact o) (fun oS hoS => ?_)
      show wpY_pickupOf _ _ _
      unfold wpY_pickupOf
      refine yw_there h (fun j hj => (Y3 j hj).1) i hi ?_
      rw [o]
      refine br_f (by decide) (yw_first st h hh q tm rg good hst Y3 i hi (fun on pk ou ba ho sp ft H => ⟨vp_in_nI (by omega) (by omega), ?_⟩))
      have pv : pk (nI i).toNatClampNeg = nI (2 ^ fp_ls (fp_n st h.testBit (fp_q st h.testBit q tm (2 * i)) tm (2 * i))) := by
        rw [nI_clamp (by omega), ((H i (by omega)).2 o).1, q2, q1]
        have e1 : ¬ 2 * i = 2 * i + 1 := by omega
        simp only [fp_up, if_neg e1, if_true]
      rw [pv]
      exact yw_stationOf _ s0.1 ⟨rfl, cap, h, st, q, tm, R, ⟨rfl, rfl, X3, fun e he => ⟨(X4 e he).1, (hoS e he).trans (X4 e he).1, (X4 e he).2.2⟩⟩, ⟨rfl, Y2, Y3⟩⟩

theorem i_vc_returnOf {k : Nat} {u : SX} {v : SY} (I : i_Rel k u v) (hk : k + 5 ≤ 2564) (v1 : Int32) : wpX_returnOf (fun r u' => wpY_returnOf (fun r' v' => r' = r ∧ i_Rel (k + 5) u' v') v v1) u v1 := by
  obtain ⟨cap, h, st, q, tm, R, X, Y⟩ := I
  obtain ⟨f_capacity, f_held, a_stockAt, a_askedSet, a_endTime, a_openSet⟩ := u
  obtain ⟨f_most, f_extra, f_gone, f_goneSet, f_goneAt, f_floorAt, f_floorFrom, f_floor, f_total, a_stocks, a_held, a_picks, a_outs, a_backs, a_homes, a_on, a_pick, a_out, a_back, a_home, a_spread⟩ := v
  have HX := iv_xst R X
  obtain ⟨X1, X2, X3, X4⟩ := X
  obtain ⟨Y1, Y2, Y3⟩ := Y
  subst X1 X2 Y1
  have hh := rl_h R
  have hst : ∀ s, s < 4 → a_stocks s = nI (st s) ∧ st s ≤ 3 := fun s hs => ⟨Y2 s hs, R.2.2.2.1 s hs⟩
  have same : ∀ r : Int32, r = r ∧ i_Rel (k + 5) (nI cap, nI h, a_stockAt, a_askedSet, a_endTime, a_openSet) (nI cap, f_extra, f_gone, f_goneSet, f_goneAt, f_floorAt, f_floorFrom, f_floor, f_total, a_stocks, a_held, a_picks, a_outs, a_backs, a_homes, a_on, a_pick, a_out, a_back, a_home, a_spread) :=
    fun r => ⟨rfl, cap, h, st, q, tm, R, ⟨rfl, rfl, X3, X4⟩, ⟨rfl, Y2, Y3⟩⟩
  have rg := R.2.2.2.2.2.1
  have good := R.2.2.2.2.2.2
  unfold wpX_returnOf
  rcases pk_ix v1 (n := 5) (by omega) with o | o | ⟨i, hi, rfl⟩
  · refine xw_held_out v1 (Or.inl o) (br_t rfl ?_)
    unfold wpY_returnOf
    exact yw_there_out v1 (Or.inl o) (br_t rfl (same _))
  · refine xw_held_out v1 (Or.inr o) (br_t rfl ?_)
    unfold wpY_returnOf
    exact yw_there_out v1 (Or.inr o) (br_t rfl (same _))
  · refine xw_held (nI cap) a_stockAt a_askedSet a_endTime a_openSet h hh i hi ?_
    cases o : h.testBit i
    · refine br_t rfl ?_
      unfold wpY_returnOf
      refine yw_there h (fun j hj => (Y3 j hj).1) i hi ?_
      rw [o]
      exact br_t rfl (same _)
    · have m2 : (2 : Int32) * nI i + 1 = nI (2 * i + 1) := by
        have e : (2 : Int32) * nI i = nI (2 * i) := pk_mul 2 i
        rw [e, nI_1]
      have d1 : (2 * i + 1) / 2 = i := by omega
      have i1 := fp_inv st h.testBit q tm rg good (2 * i + 1) (by omega)
      have s1 := fp_ls_spec (fp_n st h.testBit (fp_q st h.testBit q tm (2 * i + 1)) tm (2 * i + 1)) (fp_ex st h.testBit _ tm i1.1 i1.2.1 (2 * i + 1) (by omega) (by rw [d1]; exact o))
      have q2 := fp_q_s st h.testBit q tm (2 * i + 1) (by rw [d1]; exact o)
      refine br_f (by decide) ?_
      rw [m2]
      refine xw_first (nI cap) a_stockAt a_askedSet a_endTime a_openSet st q tm HX h hh rg good (2 * i + 1) (by omega) (by rw [d1]; exact o) (fun oS hoS => ?_)
      show wpY_returnOf _ _ _
      unfold wpY_returnOf
      refine yw_there h (fun j hj => (Y3 j hj).1) i hi ?_
      rw [o]
      refine br_f (by decide) (yw_first st h hh q tm rg good hst Y3 i hi (fun on pk ou ba ho sp ft H => ⟨vp_in_nI (by omega) (by omega), ?_⟩))
      have pv : ba (nI i).toNatClampNeg = nI (2 ^ fp_ls (fp_n st h.testBit (fp_q st h.testBit q tm (2 * i + 1)) tm (2 * i + 1))) := by
        rw [nI_clamp (by omega), ((H i (by omega)).2 o).2.2.1, q2]
        simp only [fp_up, if_true]
      rw [pv]
      exact yw_stationOf _ s1.1 ⟨rfl, cap, h, st, q, tm, R, ⟨rfl, rfl, X3, fun e he => ⟨(X4 e he).1, (hoS e he).trans (X4 e he).1, (X4 e he).2.2⟩⟩, ⟨rfl, Y2, Y3⟩⟩
