-- the landed methods, step by step: the first of them only read
def xw_st (st q tm : Nat → Nat) (sa eT oS : Nat → Int32) : Prop :=
  (∀ s, s < 4 → sa s = nI (st s) ∧ st s ≤ 3) ∧ ∀ e, e < 10 → oS e = nI (q e) ∧ q e < 16 ∧ eT e = nI (tm e) ∧ tm e ≤ 8

theorem zi_s (x : Int) : zi_z x + 1 = zi_z (x + 1) := by rw [zi_1, zi_add]
theorem zi_p (x : Int) : zi_z x + (-1) = zi_z (x - 1) := by
  rw [zi_m1, zi_add]; exact congrArg zi_z (by omega)
theorem zi_0le {z : Int} (h1 : -1000 ≤ z) (h2 : z ≤ 1000) : (0 : Int32) ≤ zi_z z ↔ 0 ≤ z := by
  rw [zi_0]; exact zi_le (by omega) (by omega) (by omega) (by omega)

theorem xw_i0 (i : Nat) (hi : i < 5) : ((2 : Int32) * nI i).toNatClampNeg = 2 * i ∧ vp_in ((2 : Int32) * nI i) 10 := by
  have e : (2 : Int32) * nI i = nI (2 * i) := pk_mul 2 i
  rw [e]; exact ⟨nI_clamp (by omega), vp_in_nI (by omega) (by omega)⟩
theorem xw_i1 (i : Nat) (hi : i < 5) : ((2 : Int32) * nI i + 1).toNatClampNeg = 2 * i + 1 ∧ vp_in ((2 : Int32) * nI i + 1) 10 := by
  have e : (2 : Int32) * nI i = nI (2 * i) := pk_mul 2 i
  rw [e, nI_1]; exact ⟨nI_clamp (by omega), vp_in_nI (by omega) (by omega)⟩

section
variable {post : Int32 → Prop} (f_capacity f_held : Int32) (a_stockAt a_askedSet a_endTime a_openSet : Nat → Int32) (st q tm : Nat → Nat)

theorem xw_rs_l (H : xw_st st q tm a_stockAt a_endTime a_openSet) (j grp : Nat) (hj : j < 5) (hg : grp < 32) : ∀ d n, d ≤ 5 → d < n →
    post (zi_b (xg_o grp q tm j d)) →
    wX_returnServes_43 post (nI grp) (nI (q (2 * j + 1))) (nI (tm (2 * j + 1))) f_capacity f_held a_stockAt a_askedSet a_endTime a_openSet n (nI (5 - d)) := by
  intro d
  induction d with
  | zero =>
    intro n _ hn k
    obtain ⟨m, rfl⟩ : ∃ m, n = m + 1 := ⟨n - 1, by omega⟩
    exact br_t (by decide) k
  | succ d ih =>
    intro n hd hn k
    obtain ⟨m, rfl⟩ : ∃ m, n = m + 1 := ⟨n - 1, by omega⟩
    have ih' := ih m (by omega) (by omega)
    have e1 : 5 - (d + 1) = 4 - d := by omega
    have e2 : 5 - d = 4 - d + 1 := by omega
    rw [e1]
    rw [e2] at ih'
    simp only [xg_o] at k
    have hi : 4 - d < 5 := by omega
    generalize 4 - d = i at ih' k hi ⊢
    have b := tb_bit grp hg i hi
    have ix := xw_i0 i hi
    have qi := H.2 (2 * i) (by omega)
    have qj := H.2 (2 * j + 1) (by omega)
    have oe : a_openSet ((2 : Int32) * nI i).toNatClampNeg = nI (q (2 * i)) := by rw [ix.1]; exact qi.1
    have te : a_endTime ((2 : Int32) * nI i).toNatClampNeg = nI (tm (2 * i)) := by rw [ix.1]; exact qi.2.2.1
    have ma : (nI (q (2 * j + 1)) &&& a_openSet ((2 : Int32) * nI i).toNatClampNeg = 0) ↔ hl_meet (xg_bk q j) (xg_pk q i) = false := by
      rw [oe]; exact tb_and _ qj.2.1 _ qi.2.1
    have lt : (a_endTime ((2 : Int32) * nI i).toNatClampNeg < nI (tm (2 * j + 1))) ↔ tm (2 * i) < tm (2 * j + 1) := by
      rw [te]; exact nI_ltI (by have := qi.2.2.2; omega) (by have := qj.2.2.2; omega)
    have g5 : ¬ (5 : Int32) ≤ nI i := nI_ge (b := 5) hi (by decide)
    cases c : grp.testBit i
    · rw [c, Bool.false_and, Bool.false_and, Bool.false_or] at k
      exact br_f g5 (br_f (by rw [b, c]; decide) (nm_r (nI_1 i) (ih' k)))
    · cases m1 : hl_meet (xg_bk q j) (xg_pk q i)
      · rw [m1, Bool.and_false, Bool.false_and, Bool.false_or] at k
        exact br_f g5 (br_t (by rw [b, c]; rfl) ⟨ix.2, br_t (ma.mpr m1) (nm_r (nI_1 i) (ih' k))⟩)
      · have nm : ¬ (nI (q (2 * j + 1)) &&& a_openSet ((2 : Int32) * nI i).toNatClampNeg = 0) := fun z => by rw [ma.mp z] at m1; cases m1
        by_cases l : tm (2 * i) < tm (2 * j + 1)
        · have nl : ¬ xg_hm tm j ≤ xg_ot tm i := by simp only [xg_hm, xg_ot]; omega
          rw [decide_eq_false nl, Bool.and_false, Bool.false_or] at k
          exact br_f g5 (br_t (by rw [b, c]; rfl) ⟨ix.2, br_f nm ⟨ix.2, br_t (lt.mpr l) (nm_r (nI_1 i) (ih' k))⟩⟩)
        · have nl : xg_hm tm j ≤ xg_ot tm i := by simp only [xg_hm, xg_ot]; omega
          rw [c, m1, decide_eq_true nl] at k
          exact br_f g5 (br_t (by rw [b, c]; rfl) ⟨ix.2, br_f nm ⟨ix.2, br_f (fun z => l (lt.mp z)) k⟩⟩)

theorem xw_rs (H : xw_st st q tm a_stockAt a_endTime a_openSet) (j grp pick t : Nat) (hj : j < 5) (hg : grp < 32) (hp : pick < 16) (ht : t ≤ 8)
    (k : post (zi_b (xg_rs grp pick t q tm j))) : wpX_returnServes post (f_capacity, f_held, a_stockAt, a_askedSet, a_endTime, a_openSet) (nI j) (nI grp) (nI pick) (nI t) := by
  have i1 := xw_i1 j hj
  have qj := H.2 (2 * j + 1) (by omega)
  have ma : (nI (q (2 * j + 1)) &&& nI pick = 0) ↔ hl_meet (xg_bk q j) pick.testBit = false := tb_and _ qj.2.1 _ hp
  have lt : (nI t < nI (tm (2 * j + 1))) ↔ t < tm (2 * j + 1) := nI_ltI (by omega) (by have := qj.2.2.2; omega)
  have lp := xw_rs_l (post := post) f_capacity f_held a_stockAt a_askedSet a_endTime a_openSet st q tm H j grp hj hg 5 6 (by omega) (by omega)
  refine ⟨i1.2, nm_r (e' := nI (q (2 * j + 1))) (by rw [i1.1]; exact qj.1) ⟨i1.2, nm_r (e' := nI (tm (2 * j + 1))) (by rw [i1.1]; exact qj.2.2.1) ?_⟩⟩
  simp only [xg_rs] at k
  cases m1 : hl_meet (xg_bk q j) pick.testBit
  · rw [m1, Bool.false_and, Bool.false_or] at k
    exact br_t (ma.mpr m1) ⟨6, lp k⟩
  · have nm : ¬ (nI (q (2 * j + 1)) &&& nI pick = 0) := fun z => by rw [ma.mp z] at m1; cases m1
    by_cases l : t < tm (2 * j + 1)
    · have nl : ¬ xg_hm tm j ≤ t := by simp only [xg_hm]; omega
      rw [decide_eq_false nl, Bool.and_false, Bool.false_or] at k
      exact br_f nm (br_t (lt.mpr l) ⟨6, lp k⟩)
    · have nl : xg_hm tm j ≤ t := by simp only [xg_hm]; omega
      rw [m1, decide_eq_true nl] at k
      exact br_f nm (br_f (fun z => l (lt.mp z)) k)

theorem xw_89 (H : xw_st st q tm a_stockAt a_endTime a_openSet) (h grp pick t : Nat) (hh : h < 32) (hg : grp < 32) (hp : pick < 16) (ht : t ≤ 8) (z : Int)
    (k : post (zi_z (xg_v h grp pick t q tm z 5))) : ∀ d n, d ≤ 5 → d < n →
    wX_slackOf_89 post (nI grp) (nI pick) (nI t) f_capacity (nI h) a_stockAt a_askedSet a_endTime a_openSet n (zi_z (xg_v h grp pick t q tm z (5 - d))) (nI (5 - d)) := by
  intro d
  induction d with
  | zero =>
    intro n _ hn
    obtain ⟨m, rfl⟩ : ∃ m, n = m + 1 := ⟨n - 1, by omega⟩
    exact br_t (by decide) k
  | succ d ih =>
    intro n hd hn
    obtain ⟨m, rfl⟩ : ∃ m, n = m + 1 := ⟨n - 1, by omega⟩
    have ih' := ih m (by omega) (by omega)
    have e1 : 5 - (d + 1) = 4 - d := by omega
    have e2 : 5 - d = 4 - d + 1 := by omega
    rw [e1]
    rw [e2] at ih'
    have hi : 4 - d < 5 := by omega
    generalize 4 - d = i at ih' hi ⊢
    have b := tb_bit h hh i hi
    have g5 : ¬ (5 : Int32) ≤ nI i := nI_ge (b := 5) hi (by decide)
    simp only [xg_v] at ih'
    cases c : h.testBit i
    · have v : hl_t 1 (h.testBit i && xg_rs grp pick t q tm i) = 0 := by rw [c]; rfl
      rw [v, Int.add_zero] at ih'
      exact br_f g5 (br_f (by rw [b, c]; decide) (nm_r (nI_1 i) ih'))
    · refine br_f g5 (br_t (by rw [b, c]; rfl) (xw_rs f_capacity (nI h) a_stockAt a_askedSet a_endTime a_openSet st q tm H i grp pick t hi hg hp ht ?_))
      cases r : xg_rs grp pick t q tm i
      · have v : hl_t 1 (h.testBit i && xg_rs grp pick t q tm i) = 0 := by rw [c, r]; rfl
        rw [v, Int.add_zero] at ih'
        exact br_t rfl (nm_r (nI_1 i) ih')
      · have v : hl_t 1 (h.testBit i && xg_rs grp pick t q tm i) = 1 := by rw [c, r]; rfl
        rw [v] at ih'
        exact br_f (by decide) (nm_r (zi_s _) (nm_r (nI_1 i) ih'))

theorem xw_51 (H : xw_st st q tm a_stockAt a_endTime a_openSet) (h grp pick t r : Nat) (hr : r < 16) (z : Int)
    (k : ∃ n, wX_slackOf_89 post (nI grp) (nI pick) (nI t) f_capacity (nI h) a_stockAt a_askedSet a_endTime a_openSet n (zi_z (xg_w st r z 4)) 0) : ∀ d n, d ≤ 4 → d < n →
    wX_slackOf_51 post (nI grp) (nI pick) (nI t) (nI r) f_capacity (nI h) a_stockAt a_askedSet a_endTime a_openSet n (zi_z (xg_w st r z (4 - d))) (nI (4 - d)) := by
  intro d
  induction d with
  | zero =>
    intro n _ hn
    obtain ⟨m, rfl⟩ : ∃ m, n = m + 1 := ⟨n - 1, by omega⟩
    exact br_t (by decide) k
  | succ d ih =>
    intro n hd hn
    obtain ⟨m, rfl⟩ : ∃ m, n = m + 1 := ⟨n - 1, by omega⟩
    have ih' := ih m (by omega) (by omega)
    have e1 : 4 - (d + 1) = 3 - d := by omega
    have e2 : 4 - d = 3 - d + 1 := by omega
    rw [e1]
    rw [e2] at ih'
    have hi : 3 - d < 4 := by omega
    generalize 3 - d = i at ih' hi ⊢
    have b := tb_bit r (by omega) i (by omega)
    have g5 : ¬ (4 : Int32) ≤ nI i := nI_ge (b := 4) hi (by decide)
    simp only [xg_w] at ih'
    cases c : r.testBit i
    · have v : hl_t (st i : Int) (r.testBit i) = 0 := by rw [c]; rfl
      rw [v, Int.add_zero] at ih'
      exact br_f g5 (br_f (by rw [b, c]; decide) (nm_r (nI_1 i) ih'))
    · have v : hl_t (st i : Int) (r.testBit i) = (st i : Int) := by rw [c]; rfl
      rw [v] at ih'
      refine br_f g5 (br_t (by rw [b, c]; rfl) ⟨vp_in_nI hi (by omega), nm_r (e' := zi_z (xg_w st r z i + st i)) ?_ (nm_r (nI_1 i) ih')⟩)
      rw [nI_clamp (by omega), (H.1 i hi).1, zi_n, zi_add]

theorem xw_9 (H : xw_st st q tm a_stockAt a_endTime a_openSet) (h grp pick t : Nat) (hg : grp < 32) (hp : pick < 16)
    (k : ∃ n, wX_slackOf_51 post (nI grp) (nI pick) (nI t) (nI (xg_r grp pick q 5)) f_capacity (nI h) a_stockAt a_askedSet a_endTime a_openSet n (zi_z (xg_z grp 5)) 0) : ∀ d n, d ≤ 5 → d < n → xg_r grp pick q (5 - d) < 16 →
    wX_slackOf_9 post (nI grp) (nI pick) (nI t) f_capacity (nI h) a_stockAt a_askedSet a_endTime a_openSet n (zi_z (xg_z grp (5 - d))) (nI (xg_r grp pick q (5 - d))) (nI (5 - d)) := by
  intro d
  induction d with
  | zero =>
    intro n _ hn _
    obtain ⟨m, rfl⟩ : ∃ m, n = m + 1 := ⟨n - 1, by omega⟩
    exact br_t (by decide) k
  | succ d ih =>
    intro n hd hn hr
    obtain ⟨m, rfl⟩ : ∃ m, n = m + 1 := ⟨n - 1, by omega⟩
    have ih' := ih m (by omega) (by omega)
    have e1 : 5 - (d + 1) = 4 - d := by omega
    have e2 : 5 - d = 4 - d + 1 := by omega
    rw [e1] at hr ⊢
    rw [e2] at ih'
    have hi : 4 - d < 5 := by omega
    generalize 4 - d = i at ih' hi hr ⊢
    have b := tb_bit grp hg i hi
    have ix := xw_i0 i hi
    have qi := H.2 (2 * i) (by omega)
    have oe : a_openSet ((2 : Int32) * nI i).toNatClampNeg = nI (q (2 * i)) := by rw [ix.1]; exact qi.1
    have g5 : ¬ (5 : Int32) ≤ nI i := nI_ge (b := 5) hi (by decide)
    have o := tb_or _ hr _ qi.2.1
    simp only [xg_r, xg_z] at ih'
    cases c : grp.testBit i
    · have v : hl_t 1 (grp.testBit i) = 0 := by rw [c]; rfl
      have w : ¬ grp.testBit i = true := by rw [c]; decide
      rw [v, Int.sub_zero, if_neg w] at ih'
      exact br_f g5 (br_f (by rw [b, c]; decide) (nm_r (nI_1 i) (ih' hr)))
    · have v : hl_t 1 (grp.testBit i) = 1 := by rw [c]; rfl
      rw [v, if_pos c] at ih'
      refine br_f g5 (br_t (by rw [b, c]; rfl) ⟨ix.2, nm_r (e' := nI (xg_r grp pick q i ||| q (2 * i))) ?_ (nm_r (zi_p _) (nm_r (nI_1 i) (ih' o.2)))⟩)
      rw [oe]; exact o.1

theorem xg_r_lt (grp pick : Nat) (hp : pick < 16) (hq : ∀ e, e < 10 → q e < 16) : ∀ i, i ≤ 5 → xg_r grp pick q i < 16
  | 0, _ => hp
  | i + 1, hi => by
    have ih := xg_r_lt grp pick hp hq i (by omega)
    simp only [xg_r]
    split
    · exact (tb_or _ ih _ (hq (2 * i) (by omega))).2
    · exact ih

theorem xw_slack (H : xw_st st q tm a_stockAt a_endTime a_openSet) (h grp pick t : Nat) (hh : h < 32) (hg : grp < 32) (hp : pick < 16) (ht : t ≤ 8)
    (k : post (zi_z (xg_sl st h grp pick t q tm))) : wpX_slackOf post (f_capacity, nI h, a_stockAt, a_askedSet, a_endTime, a_openSet) (nI grp) (nI pick) (nI t) := by
  have hq : ∀ e, e < 10 → q e < 16 := fun e he => (H.2 e he).2.1
  have r5 := xg_r_lt q grp pick hp hq 5 (by omega)
  have k1 := xw_89 (post := post) f_capacity a_stockAt a_askedSet a_endTime a_openSet st q tm H h grp pick t hh hg hp ht _ k 5 6 (by omega) (by omega)
  have k2 := xw_51 (post := post) f_capacity a_stockAt a_askedSet a_endTime a_openSet st q tm H h grp pick t _ r5 (xg_z grp 5) ⟨6, k1⟩ 4 5 (by omega) (by omega)
  exact ⟨6, xw_9 (post := post) f_capacity a_stockAt a_askedSet a_endTime a_openSet st q tm H h grp pick t hg hp ⟨5, k2⟩ 5 6 (by omega) (by omega) hp⟩

theorem xw_good (H : xw_st st q tm a_stockAt a_endTime a_openSet) (h : Nat) (hh : h < 32) (k1 : xg_gd st h.testBit q tm → post 1) (k0 : ¬ xg_gd st h.testBit q tm → post 0) :
    wpX_hasGoodPlan post (f_capacity, nI h, a_stockAt, a_askedSet, a_endTime, a_openSet) := by
  have bd : ∀ g, -5 ≤ xg_sl st h g 0 0 q tm ∧ xg_sl st h g 0 0 q tm ≤ 17 := fun g => xg_sl_bd st h g 0 0 q tm (fun s hs => (H.1 s hs).2)
  have L : ∀ d n, d ≤ 31 → d < n → (∀ g, 1 ≤ g → g < 32 - d → xg_sub g h → 0 ≤ xg_sl st h g 0 0 q tm) → wX_hasGoodPlan_2 post f_capacity (nI h) a_stockAt a_askedSet a_endTime a_openSet n (nI (32 - d)) := by
    intro d
    induction d with
    | zero =>
      intro n _ hn I
      obtain ⟨m, rfl⟩ : ∃ m, n = m + 1 := ⟨n - 1, by omega⟩
      exact br_t (by decide) (k1 ((xg_gd_iff st h hh q tm).mpr I))
    | succ d ih =>
      intro n hd hn I
      obtain ⟨m, rfl⟩ : ∃ m, n = m + 1 := ⟨n - 1, by omega⟩
      have ih' := ih m (by omega) (by omega)
      have e1 : 32 - (d + 1) = 31 - d := by omega
      have e2 : 32 - d = 31 - d + 1 := by omega
      rw [e1] at I ⊢
      rw [e2] at ih'
      have hi : 31 - d < 32 := by omega
      have hi1 : 1 ≤ 31 - d ∨ 31 - d = 0 := by omega
      generalize 31 - d = i at ih' hi hi1 I ⊢
      have g5 : ¬ (32 : Int32) ≤ nI i := nI_ge (b := 32) hi (by decide)
      have sb := tb_sub i h hi hh
      by_cases c : xg_sub i h
      · refine br_f g5 (br_t (sb.mpr c) (xw_slack f_capacity a_stockAt a_askedSet a_endTime a_openSet st q tm H h i 0 0 hh hi (by omega) (by omega) ?_))
        have b := bd i
        by_cases p : 0 ≤ xg_sl st h i 0 0 q tm
        · refine br_t ((zi_0le (by omega) (by omega)).mpr p) (nm_r (nI_1 i) (ih' fun g g1 g2 s => ?_))
          by_cases e : g = i
          · rw [e]; exact p
          · exact I g g1 (by omega) s
        · refine br_f (fun z => p ((zi_0le (by omega) (by omega)).mp z)) (k0 fun G => p ?_)
          by_cases z : 1 ≤ i
          · exact (xg_gd_iff st h hh q tm).mp G i z hi c
          · have z0 : i = 0 := by omega
            subst z0
            rw [xg_sl_eq st h 0 0 0 q tm hh c, hs_sl_off _ _ _ _ _ _ _ (fun _ => false) _ 0 _ true (fun s => by simp), hs_sl_0 _ _ _ _ _ _ _ _ _ (fun j _ => by simp)]
            omega
      · refine br_f g5 (br_f (fun z => c (sb.mp z)) (nm_r (nI_1 i) (ih' fun g g1 g2 s => ?_)))
        by_cases e : g = i
        · rw [e] at s; exact absurd s c
        · exact I g g1 (by omega) s
  exact ⟨32, L 31 32 (by omega) (by omega) (fun g a b => by omega)⟩

theorem xw_room (H : xw_st st q tm a_stockAt a_endTime a_openSet) (h pick t : Nat) (hh : h < 32) (hp : pick < 16) (ht : t ≤ 8)
    (k : ∀ r : Int, (∀ g, g < 32 → xg_sub g h → r ≤ xg_sl st h g pick t q tm) → (∃ g, g < 32 ∧ xg_sub g h ∧ r = xg_sl st h g pick t q tm) → post (zi_z r)) :
    wpX_roomFor post (f_capacity, nI h, a_stockAt, a_askedSet, a_endTime, a_openSet) (nI pick) (nI t) := by
  have bd : ∀ g, -5 ≤ xg_sl st h g pick t q tm ∧ xg_sl st h g pick t q tm ≤ 17 := fun g => xg_sl_bd st h g pick t q tm (fun s hs => (H.1 s hs).2)
  have L : ∀ d n, d ≤ 31 → d < n → ∀ r : Int, (∀ g, g < 32 - d → xg_sub g h → r ≤ xg_sl st h g pick t q tm) →
      (∃ g, g < 32 - d ∧ xg_sub g h ∧ r = xg_sl st h g pick t q tm) → wX_roomFor_11 post (nI pick) (nI t) f_capacity (nI h) a_stockAt a_askedSet a_endTime a_openSet n (zi_z r) (nI (32 - d)) := by
    intro d
    induction d with
    | zero =>
      intro n _ hn r I J
      obtain ⟨m, rfl⟩ : ∃ m, n = m + 1 := ⟨n - 1, by omega⟩
      exact br_t (by decide) (k r I J)
    | succ d ih =>
      intro n hd hn r I J
      obtain ⟨m, rfl⟩ : ∃ m, n = m + 1 := ⟨n - 1, by omega⟩
      have ih' := ih m (by omega) (by omega)
      have e1 : 32 - (d + 1) = 31 - d := by omega
      have e2 : 32 - d = 31 - d + 1 := by omega
      rw [e1] at I J ⊢
      rw [e2] at ih'
      have hi : 31 - d < 32 := by omega
      generalize 31 - d = i at ih' hi I J ⊢
      have g5 : ¬ (32 : Int32) ≤ nI i := nI_ge (b := 32) hi (by decide)
      have sb := tb_sub i h hi hh
      obtain ⟨g0, a0, b0, c0⟩ := J
      have br := bd g0
      by_cases c : xg_sub i h
      · refine br_f g5 (br_t (sb.mpr c) (xw_slack f_capacity a_stockAt a_askedSet a_endTime a_openSet st q tm H h i pick t hh hi hp ht ?_))
        have b := bd i
        have cmp : (zi_z r ≤ zi_z (xg_sl st h i pick t q tm)) ↔ r ≤ xg_sl st h i pick t q tm := zi_le (by omega) (by omega) (by omega) (by omega)
        by_cases p : r ≤ xg_sl st h i pick t q tm
        · refine br_t (cmp.mpr p) (nm_r (nI_1 i) (ih' r (fun g g2 s => ?_) ⟨g0, by omega, b0, c0⟩))
          by_cases e : g = i
          · rw [e]; exact p
          · exact I g (by omega) s
        · refine br_f (fun z => p (cmp.mp z)) (nm_r (nI_1 i) (ih' _ (fun g g2 s => ?_) ⟨i, by omega, c, rfl⟩))
          by_cases e : g = i
          · rw [e]; omega
          · have := I g (by omega) s
            omega
      · refine br_f g5 (br_f (fun z => c (sb.mp z)) (nm_r (nI_1 i) (ih' r (fun g g2 s => ?_) ⟨g0, by omega, b0, c0⟩)))
        by_cases e : g = i
        · rw [e] at s; exact absurd s c
        · exact I g (by omega) s
  refine xw_slack f_capacity a_stockAt a_askedSet a_endTime a_openSet st q tm H h 0 pick t hh (by omega) hp ht ⟨32, L 31 32 (by omega) (by omega) _ (fun g a s => ?_) ⟨0, by omega, ?_, rfl⟩⟩
  · have e : g = 0 := by omega
    rw [e]; omega
  · intro j _ z; rw [Nat.zero_testBit] at z; cases z
end
