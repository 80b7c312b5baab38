-- the reference's first plan, its probe, its counts
theorem fp_q_s (st : Nat → Nat) (on : Nat → Bool) (q tm : Nat → Nat) (e : Nat) (o : on (e / 2) = true) :
    fp_q st on q tm (e + 1) = fp_up (fp_q st on q tm e) e (2 ^ fp_ls (fp_n st on (fp_q st on q tm e) tm e)) := by
  simp only [fp_q, if_pos o]
theorem fp_q_n (st : Nat → Nat) (on : Nat → Bool) (q tm : Nat → Nat) (e : Nat) (o : ¬ on (e / 2) = true) : fp_q st on q tm (e + 1) = fp_q st on q tm e := by
  simp only [fp_q, if_neg o]

def tb_cn (h : Nat) : Nat → Nat
  | 0 => 0
  | d + 1 => tb_cn h d + (h.testBit (4 - d)).toNat
def tb_ln (h : Nat) : Nat → Nat
  | 0 => 5
  | d + 1 => if h.testBit (4 - d) = true then tb_ln h d else 4 - d
theorem tb_cn5 : ∀ h, h < 32 → tb_cn h 5 = tb_pc h ∧ tb_ln h 5 = tb_lf h := by decide +kernel
theorem tb_pc_le : ∀ h, h < 32 → tb_pc h ≤ 5 := by decide +kernel
theorem tb_bo1 : ∀ h, h < 32 → ∀ i, i < 5 → h.testBit i = true → nI (h % 2 ^ i) ||| ((1 : Int32) <<< (nI i &&& 31)) = nI (h % 2 ^ (i + 1)) := by decide +kernel
theorem tb_bo0 : ∀ h, h < 32 → ∀ i, i < 5 → h.testBit i = false → nI (h % 2 ^ i) ||| 0 = nI (h % 2 ^ (i + 1)) := by decide +kernel

section
variable {f_most f_extra f_gone f_goneSet f_goneAt f_floorAt f_floorFrom f_floor f_total : Int32}
  {a_stocks a_held a_picks a_outs a_backs a_homes a_on a_pick a_out a_back a_home a_spread : Nat → Int32}

theorem yw_settleOne {post : SY → Prop} (st : Nat → Nat) (on : Nat → Bool) (q tm : Nat → Nat) (rg : an_rg on q tm) (good : xg_gd st on q tm)
    (hst : ∀ s, s < 4 → a_stocks s = nI (st s) ∧ st s ≤ 3) (j : Nat) (hj : j < 5) (o : on j = true) (H : yw_H on (fp_q st on q tm (2 * j)) tm a_on a_pick a_out a_back a_home)
    (k : ∀ P B sp ft, yw_H on (fp_q st on q tm (2 * j + 1 + 1)) tm a_on P a_out B a_home →
      post (f_most, 0, 0, f_goneSet, f_goneAt, 0, 9, 0, ft, a_stocks, a_held, a_picks, a_outs, a_backs, a_homes, a_on, P, a_out, B, a_home, sp)) :
    wpY_settleOne post (f_most, 0, 0, f_goneSet, f_goneAt, 0, 9, 0, f_total, a_stocks, a_held, a_picks, a_outs, a_backs, a_homes, a_on, a_pick, a_out, a_back, a_home, a_spread) (nI j) := by
  have d0 : 2 * j / 2 = j := by omega
  have d1 : (2 * j + 1) / 2 = j := by omega
  have i0 := fp_inv st on q tm rg good (2 * j) (by omega)
  have i1 := fp_inv st on q tm rg good (2 * j + 1) (by omega)
  have s0 := fp_ls_spec (fp_n st on (fp_q st on q tm (2 * j)) tm (2 * j)) (fp_ex st on _ tm i0.1 i0.2.1 (2 * j) (by omega) (by rw [d0]; exact o))
  have s1 := fp_ls_spec (fp_n st on (fp_q st on q tm (2 * j + 1)) tm (2 * j + 1)) (fp_ex st on _ tm i1.1 i1.2.1 (2 * j + 1) (by omega) (by rw [d1]; exact o))
  have q1 := fp_q_s st on q tm (2 * j) (by rw [d0]; exact o)
  have q2 := fp_q_s st on q tm (2 * j + 1) (by rw [d1]; exact o)
  have vj : vp_in (nI j) 6 := vp_in_nI (by omega) (by omega)
  have cj : (nI j).toNatClampNeg = j := nI_clamp (by omega)
  have hj0 := (H j (by omega)).2 o
  refine ⟨vj, nm_r (e' := nI (fp_q st on q tm (2 * j) (2 * j))) (by rw [cj]; exact hj0.1)
    (yw_12s on (fp_q st on q tm (2 * j)) tm st H i0.1 hst j (by omega) o _ s0.1 s0.2.1 s0.2.2 (fun P sp ft hPj hP => ?_))⟩
  have H1 : yw_H on (fp_q st on q tm (2 * j + 1)) tm a_on P a_out a_back a_home := by
    rw [q1]; exact yw_H_pk on _ tm H j _ P hPj hP
  have hj1 := (H1 j (by omega)).2 o
  unfold wY_settleOne_53
  refine ⟨vj, nm_r (e' := nI (fp_q st on q tm (2 * j + 1) (2 * j + 1))) (by rw [cj]; exact hj1.2.2.1)
    (yw_65s on (fp_q st on q tm (2 * j + 1)) tm st H1 i1.1 hst j (by omega) o _ s1.1 s1.2.1 s1.2.2 (fun B sp2 ft2 hBj hB => ?_))⟩
  refine k P B sp2 ft2 ?_
  rw [q2]; exact yw_H_bk on _ tm H1 j _ B hBj hB

theorem yw_first {post : SY → Prop} (st : Nat → Nat) (h : Nat) (hh : h < 32) (q tm : Nat → Nat) (rg : an_rg h.testBit q tm) (good : xg_gd st h.testBit q tm)
    (hst : ∀ s, s < 4 → a_stocks s = nI (st s) ∧ st s ≤ 3) (B : yw_B h q tm a_held a_picks a_outs a_backs a_homes) (I : Nat) (hI : I < 5)
    (k : ∀ on pk ou ba ho sp ft, yw_H h.testBit (fp_q st h.testBit q tm (2 * I + 1 + 1)) tm on pk ou ba ho →
      post (f_most, 0, 0, f_goneSet, f_goneAt, 0, 9, 0, ft, a_stocks, a_held, a_picks, a_outs, a_backs, a_homes, on, pk, ou, ba, ho, sp)) : wpY_firstPlan post (f_most, f_extra, f_gone, f_goneSet, f_goneAt, f_floorAt, f_floorFrom, f_floor, f_total, a_stocks, a_held, a_picks, a_outs, a_backs, a_homes, a_on, a_pick, a_out, a_back, a_home, a_spread) (nI I) := by
  refine yw_ask h hh q tm B (fun on pk ou ba ho H => ?_)
  have L : ∀ d n pk ba sp ft, d ≤ I + 1 → d < n → yw_H h.testBit (fp_q st h.testBit q tm (2 * (I + 1 - d))) tm on pk ou ba ho →
      wY_firstPlan_6 post (nI I) n (nI (I + 1 - d)) f_most 0 0 f_goneSet f_goneAt 0 9 0 ft a_stocks a_held a_picks a_outs a_backs a_homes on pk ou ba ho sp := by
    intro d
    induction d with
    | zero =>
      intro n pk ba sp ft _ hn H
      obtain ⟨m, rfl⟩ : ∃ m, n = m + 1 := ⟨n - 1, by omega⟩
      have e : 2 * (I + 1 - 0) = 2 * I + 1 + 1 := by omega
      rw [e] at H
      exact br_t (nI_lt (by omega) (by omega)) (k on pk ou ba ho sp ft H)
    | succ d ih =>
      intro n pk ba sp ft hd hn H
      obtain ⟨m, rfl⟩ : ∃ m, n = m + 1 := ⟨n - 1, by omega⟩
      have ih' := fun a b c e => ih m a b c e (by omega) (by omega)
      have e2 : I + 1 - d = I + 1 - (d + 1) + 1 := by omega
      rw [e2] at ih'
      have hi : I + 1 - (d + 1) ≤ I := by omega
      generalize I + 1 - (d + 1) = j at ih' hi H ⊢
      have vj : vp_in (nI j) 5 := vp_in_nI (by omega) (by omega)
      have hb : a_held (nI j).toNatClampNeg = zi_b (h.testBit j) := by rw [nI_clamp (by omega)]; exact (B j (by omega)).1
      have ee : 2 * (j + 1) = 2 * j + 1 + 1 := by omega
      rw [ee] at ih'
      refine br_f (nI_nlt hi (by omega)) (br_f (nI_ge (b := 5) (by omega) (by decide)) ⟨vj, ?_⟩)
      cases o : h.testBit j
      · rw [o] at hb
        have n0 : ¬ h.testBit (2 * j / 2) = true := by
          have z : 2 * j / 2 = j := by omega
          rw [z, o]; decide
        have n1 : ¬ h.testBit ((2 * j + 1) / 2) = true := by
          have z : (2 * j + 1) / 2 = j := by omega
          rw [z, o]; decide
        rw [fp_q_n st h.testBit q tm (2 * j + 1) n1, fp_q_n st h.testBit q tm (2 * j) n0] at ih'
        exact br_t (by rw [hb]; rfl) (nm_r (nI_1 j) (ih' pk ba sp ft H))
      · rw [o] at hb
        refine br_f (by rw [hb]; decide) (yw_settleOne st h.testBit q tm rg good hst j (by omega) o H (fun P B' sp' ft' H' => ?_))
        exact nm_r (nI_1 j) (ih' P B' sp' ft' H')
  have z := L (I + 1) (I + 2) pk ba a_spread f_total (Nat.le_refl _) (by omega) (by rw [Nat.sub_self]; exact H)
  rw [Nat.sub_self] at z
  exact ⟨_, z⟩

theorem yw_stationOf {post : Int32 → Prop} (L : Nat) (hL : L < 4) (k : post (nI L)) : wpY_stationOf post (f_most, f_extra, f_gone, f_goneSet, f_goneAt, f_floorAt, f_floorFrom, f_floor, f_total, a_stocks, a_held, a_picks, a_outs, a_backs, a_homes, a_on, a_pick, a_out, a_back, a_home, a_spread) (nI (2 ^ L)) := by
  rcases hl_lt4 hL with e | e | e | e <;> subst e
  · exact br_t (by decide) k
  · exact br_f (by decide) (br_t (by decide) k)
  · exact br_f (by decide) (br_f (by decide) (br_t (by decide) k))
  · exact br_f (by decide) (br_f (by decide) (br_f (by decide) k))

theorem yw_bookings {post : Int32 → Prop} (h : Nat) (hh : h < 32) (hH : ∀ j, j < 5 → a_held j = zi_b (h.testBit j)) (k : post (nI h)) : wpY_bookings post (f_most, f_extra, f_gone, f_goneSet, f_goneAt, f_floorAt, f_floorFrom, f_floor, f_total, a_stocks, a_held, a_picks, a_outs, a_backs, a_homes, a_on, a_pick, a_out, a_back, a_home, a_spread) := by
  have L : ∀ d n, d ≤ 5 → d < n → wY_bookings_4 post f_most f_extra f_gone f_goneSet f_goneAt f_floorAt f_floorFrom f_floor f_total a_stocks a_held a_picks a_outs a_backs a_homes a_on a_pick a_out a_back a_home a_spread n (nI (h % 2 ^ (5 - d))) (nI (5 - d)) := by
    intro d
    induction d with
    | zero =>
      intro n _ hn
      obtain ⟨m, rfl⟩ : ∃ m, n = m + 1 := ⟨n - 1, by omega⟩
      have e : h % 2 ^ (5 - 0) = h := Nat.mod_eq_of_lt hh
      rw [e]
      exact br_t (by decide) k
    | succ d ih =>
      intro n hd hn
      obtain ⟨m, rfl⟩ : ∃ m, n = m + 1 := ⟨n - 1, by omega⟩
      have ih' := ih m (by omega) (by omega)
      have e1 : 5 - (d + 1) = 4 - d := by omega
      have e2 : 5 - d = 4 - d + 1 := by omega
      rw [e1]
      rw [e2] at ih'
      have hi : 4 - d < 5 := by omega
      generalize 4 - d = i at ih' hi ⊢
      have hb : a_held (nI i).toNatClampNeg = zi_b (h.testBit i) := by rw [nI_clamp (by omega)]; exact hH i hi
      refine br_f (nI_ge (b := 5) hi (by decide)) ⟨vp_in_nI hi (by omega), ?_⟩
      cases o : h.testBit i
      · rw [o] at hb
        exact br_t (by rw [hb]; rfl) (nm_r (tb_bo0 h hh i hi o) (nm_r (nI_1 i) ih'))
      · rw [o] at hb
        exact br_f (by rw [hb]; decide) (nm_r (tb_bo1 h hh i hi o) (nm_r (nI_1 i) ih'))
  have z := L 5 6 (by omega) (by omega)
  have e : h % 2 ^ (5 - 5) = 0 := Nat.mod_one h
  rw [e] at z
  exact ⟨6, z⟩

theorem rl_sw5e (i : Nat) (hi : i < 5) : hs_sw i 5 = i := by
  have n5 : ¬ 5 = i := by omega
  simp only [hs_sw, if_neg n5, if_true]

theorem yw_H5 (h : Nat) (hh : h < 32) (q tm : Nat → Nat) (i p t b u : Nat) (hi : i < 5) (f : h.testBit i = false) (H : yw_H h.testBit q tm a_on a_pick a_out a_back a_home) :
    yw_H (fun j => (h ||| 2 ^ i).testBit (hs_sw i j)) (an_sw i (rl_q q i p b)) (an_sw i (rl_q tm i t u)) (upd a_on 5 (zi_b true)) (upd a_pick 5 (nI p)) (upd a_out 5 (nI t))
      (upd a_back 5 (nI b)) (upd a_home 5 (nI u)) := by
  intro j hj
  rw [an_sw0, an_sw0, an_sw1, an_sw1]
  by_cases c : j = 5
  · subst c
    rw [rl_sw5e i hi, rl_q0, rl_q0, rl_q1, rl_q1]
    refine ⟨?_, fun _ => ⟨pk_us, pk_us, pk_us, pk_us⟩⟩
    have e : (h ||| 2 ^ i).testBit i = true := by have z := rl_sw_5 h i hi; rw [rl_sw5e i hi] at z; exact z
    show _ = zi_b ((h ||| 2 ^ i).testBit (hs_sw i 5))
    rw [rl_sw5e i hi, e]; exact pk_us
  · rw [pk_un c, pk_un c, pk_un c, pk_un c, pk_un c]
    have z := H j hj
    by_cases d : j = i
    · subst d
      have e := rl_sw_i h j hh hi
      refine ⟨?_, fun w => ?_⟩
      · show _ = zi_b ((h ||| 2 ^ j).testBit (hs_sw j j))
        rw [e, z.1, f]
      · exfalso
        have w' : (h ||| 2 ^ j).testBit (hs_sw j j) = true := w
        rw [e] at w'; cases w'
    · have e := rl_sw_j h i j (by omega) d
      refine ⟨?_, fun w => ?_⟩
      · show _ = zi_b ((h ||| 2 ^ i).testBit (hs_sw i j))
        rw [e.2]; exact z.1
      · have w' : (h ||| 2 ^ i).testBit (hs_sw i j) = true := w
        rw [e.2] at w'
        rw [e.1, rl_qn0 q i p b j d, rl_qn1 q i p b j d, rl_qn0 tm i t u j d, rl_qn1 tm i t u j d]
        exact z.2 w'

theorem yw_probe {post : Int32 → SY → Prop} (cap h : Nat) (st q tm : Nat → Nat) (R : rl_R cap h st q tm) (hc : f_most = nI cap)
    (hst : ∀ s, s < 4 → a_stocks s = nI (st s) ∧ st s ≤ 3) (B : yw_B h q tm a_held a_picks a_outs a_backs a_homes)
    (p t b u : Nat) (hp1 : 1 ≤ p) (hp : p < 16) (hb1 : 1 ≤ b) (hb : b < 16) (htu : t < u) (hu : u ≤ 8)
    (kf : cap ≤ tb_lf h → post (-2) (f_most, f_extra, f_gone, f_goneSet, f_goneAt, f_floorAt, f_floorFrom, f_floor, f_total, a_stocks, a_held, a_picks, a_outs, a_backs, a_homes, a_on, a_pick, a_out, a_back, a_home, a_spread))
    (k1 : tb_lf h < cap → xg_gd st (h ||| 2 ^ tb_lf h).testBit (rl_q q (tb_lf h) p b) (rl_q tm (tb_lf h) t u) → ∀ on pk ou ba ho sp ft,
      post (nI (tb_lf h)) (f_most, 0, 0, f_goneSet, f_goneAt, 0, 9, 0, ft, a_stocks, a_held, a_picks, a_outs, a_backs, a_homes, on, pk, ou, ba, ho, sp))
    (k0 : tb_lf h < cap → ¬ xg_gd st (h ||| 2 ^ tb_lf h).testBit (rl_q q (tb_lf h) p b) (rl_q tm (tb_lf h) t u) → ∀ on pk ou ba ho sp ft,
      post (-3) (f_most, 0, 0, f_goneSet, f_goneAt, 0, 9, 0, ft, a_stocks, a_held, a_picks, a_outs, a_backs, a_homes, on, pk, ou, ba, ho, sp)) :
    wpY_probe post (f_most, f_extra, f_gone, f_goneSet, f_goneAt, f_floorAt, f_floorFrom, f_floor, f_total, a_stocks, a_held, a_picks, a_outs, a_backs, a_homes, a_on, a_pick, a_out, a_back, a_home, a_spread) (nI p) (nI t) (nI b) (nI u) := by
  have hh := rl_h R
  have full := tb_full cap R.2.1 R.1 h hh R.2.2.1
  have lf5 := tb_lf_le h hh
  have pc5 := tb_pc_le h hh
  have c6 := R.2.1
  have c5 := tb_cn5 h hh
  refine br_f (nI_nlt (b := 1) hp1 (by omega)) (br_f (nI_nlt (a := 15) (by omega) (by omega)) (br_f (nI_nlt (b := 1) hb1 (by omega)) (br_f (nI_nlt (a := 15) (by omega) (by omega))
    (br_f (nI_pos (by omega)) (br_f (nI_ge htu (by omega)) (br_t (nI_le (b := 8) hu (by omega)) (br_t rfl ?_)))))))
  have L : ∀ r n, r ≤ 5 → r < n → wY_probe_23 post (nI p) (nI t) (nI b) (nI u) f_most f_extra f_gone f_goneSet f_goneAt f_floorAt f_floorFrom f_floor f_total a_stocks a_held a_picks a_outs a_backs a_homes a_on a_pick a_out a_back a_home a_spread n (nI (tb_cn h (5 - r))) (nI (tb_ln h (5 - r))) (zi_z ((r : Int) - 1)) := by
    intro r
    induction r with
    | zero =>
      intro n _ hn
      obtain ⟨m, rfl⟩ : ∃ m, n = m + 1 := ⟨n - 1, by omega⟩
      rw [Nat.sub_zero, c5.1, c5.2]
      refine br_t (by decide) ?_
      by_cases a1 : cap ≤ tb_pc h
      · exact br_t (by rw [hc]; exact nI_le a1 (by omega)) (kf (full.mpr (Or.inl a1)))
      · refine br_f (by rw [hc]; exact nI_ge (by omega) (by omega)) ?_
        by_cases a2 : 5 ≤ tb_lf h
        · exact br_f (nI_ge (a := 4) (by omega) (by omega)) (kf (full.mpr (Or.inr a2)))
        · have lc : tb_lf h < cap := by
            apply Classical.byContradiction
            intro z
            rcases full.mp (by omega) with w | w
            · exact a1 w
            · exact a2 w
          have li : tb_lf h < 5 := by omega
          have free := tb_lf_free h hh li
          refine br_t (nI_le (b := 4) (by omega) (by omega)) (yw_ask h hh q tm B (fun on pk ou ba ho H => ?_))
          refine nm_r (e' := upd on 5 (zi_b true)) (by rw [yw_n1]) (nm_e (nm_e (nm_e (nm_e ?_))))
          have sw := an_swap st (h ||| 2 ^ tb_lf h).testBit (rl_q q (tb_lf h) p b) (rl_q tm (tb_lf h) t u) (tb_lf h) li
          refine yw_plain _ _ _ (yw_H5 h hh q tm (tb_lf h) p t b u li free H) (an_sw_rg _ _ _ (tb_lf h) li (rl_set_rg (tb_lf h) p t b u R hp1 hp hb1 hb (by omega) hu)) st hst
            (fun g sp ft => ?_) (fun g sp ft => ?_)
          · exact br_f (by decide) (k1 lc (sw.mp g) _ _ _ _ _ sp ft)
          · exact br_t rfl (k0 lc (fun w => g (sw.mpr w)) _ _ _ _ _ sp ft)
    | succ r ih =>
      intro n hr hn
      obtain ⟨m, rfl⟩ : ∃ m, n = m + 1 := ⟨n - 1, by omega⟩
      have ih' := ih m (by omega) (by omega)
      have e0 : zi_z (((r + 1 : Nat) : Int) - 1) = nI r := by
        rw [zi_n]; exact congrArg zi_z (by omega)
      have e1 : 5 - (r + 1) = 4 - r := by omega
      have e2 : 5 - r = 4 - r + 1 := by omega
      have e3 : 4 - (4 - r) = r := by omega
      rw [e0, e1]
      rw [e2] at ih'
      simp only [tb_cn, tb_ln, e3] at ih'
      have vr : vp_in (nI r) 5 := vp_in_nI (by omega) (by omega)
      have hb' : a_held (nI r).toNatClampNeg = zi_b (h.testBit r) := by rw [nI_clamp (by omega)]; exact (B r (by omega)).1
      have x7 : nI r + (-1) = zi_z ((r : Int) - 1) := by rw [zi_n, zi_p]
      refine br_f (nI_pos (by omega)) ⟨vr, ?_⟩
      unfold wY_probe_45
      cases o : h.testBit r
      · rw [o] at hb' ih'
        have no : ¬ false = true := by decide
        rw [if_neg no] at ih'
        refine br_t (by rw [hb']; rfl) (nm_r (e' := nI (tb_cn h (4 - r) + Bool.toNat false)) ?_ ⟨vr, br_t (by rw [hb']; rfl) (nm_r x7 ih')⟩)
        exact nI_add _ 0
      · rw [o] at hb' ih'
        rw [if_pos rfl] at ih'
        refine br_f (by rw [hb']; decide) (nm_r (e' := nI (tb_cn h (4 - r) + Bool.toNat true)) ?_ ⟨vr, br_f (by rw [hb']; decide) (nm_r x7 ih')⟩)
        exact nI_add _ 1
  exact ⟨6, L 5 6 (by omega) (by omega)⟩
end
