-- how many vehicles are wanting, how many can be spared; the landed methods that book
section
variable {f_most f_extra f_gone f_goneSet f_goneAt f_floorAt f_floorFrom f_floor f_total : Int32}
  {a_stocks a_held a_picks a_outs a_backs a_homes a_on a_pick a_out a_back a_home a_spread : Nat → Int32}

theorem yw_short {post : Int32 → SY → Prop} (cap h : Nat) (st q tm : Nat → Nat) (R : rl_R cap h st q tm)
    (hst : ∀ s, s < 4 → a_stocks s = nI (st s) ∧ st s ≤ 3) (B : yw_B h q tm a_held a_picks a_outs a_backs a_homes)
    (p t n : Nat) (hp1 : 1 ≤ p) (hp : p < 16) (ht : t ≤ 8) (hn : n ≤ 9) (room : Int)
    (hr : ∀ z, (∀ g, z ≤ hs_sl (xg_st st) h.testBit (xg_pk q) (xg_ot tm) (xg_bk q) (xg_hm tm) p.testBit t g true) ↔ z ≤ room) (hr0 : 0 ≤ room)
    (A : Nat) (hA : ∀ e : Nat, A ≤ e ↔ (n : Int) - e ≤ room)
    (k : ∀ ex gn gs ga fa ff fl on pk ou ba ho sp ft, post (nI A) (f_most, ex, gn, gs, ga, fa, ff, fl, ft, a_stocks, a_held, a_picks, a_outs, a_backs, a_homes, on, pk, ou, ba, ho, sp)) :
    wpY_shortage post (f_most, f_extra, f_gone, f_goneSet, f_goneAt, f_floorAt, f_floorFrom, f_floor, f_total, a_stocks, a_held, a_picks, a_outs, a_backs, a_homes, a_on, a_pick, a_out, a_back, a_home, a_spread) (nI p) (nI t) (nI n) := by
  have hh := rl_h R
  have A9 : A ≤ 9 := (hA 9).mpr (by omega)
  have rg := R.2.2.2.2.2.1
  have good := R.2.2.2.2.2.2
  refine br_f (nI_nlt (b := 1) hp1 (by omega)) (br_f (nI_nlt (a := 15) (by omega) (by omega)) (br_f (nI_pos (by omega)) (br_f (nI_nlt (a := 8) ht (by omega))
    (br_f (nI_pos (by omega)) (br_t (nI_le (b := 9) hn (by omega)) (yw_ask h hh q tm B (fun on pk ou ba ho H => ?_)))))))
  by_cases n0 : n = 0
  · subst n0
    have A0 : A = 0 := by
      have z := (hA 0).mpr (by omega)
      omega
    subst A0
    exact ⟨1, br_f (by decide) (yw_plain h.testBit q tm H rg st hst (fun _ sp ft => br_f (by decide) (k _ _ _ _ _ _ _ on pk ou ba ho sp ft)) (fun g => absurd good g))⟩
  · have F : ∀ (e : Nat) (post' : Int32 → SY → Prop) (sp : Nat → Int32) (ft : Int32), e ≤ 8 →
        (A ≤ e → ∀ sp' ft', post' 1 (f_most, nI e, nI n, nI p, nI t, 0, 9, 0, ft', a_stocks, a_held, a_picks, a_outs, a_backs, a_homes, on, pk, ou, ba, ho, sp')) →
        (¬ A ≤ e → ∀ sp' ft', post' 0 (f_most, nI e, nI n, nI p, nI t, 0, 9, 0, ft', a_stocks, a_held, a_picks, a_outs, a_backs, a_homes, on, pk, ou, ba, ho, sp')) →
        wpY_fits post' (f_most, nI e, nI n, nI p, nI t, 0, 9, 0, ft, a_stocks, a_held, a_picks, a_outs, a_backs, a_homes, on, pk, ou, ba, ho, sp) := by
      intro e post' sp ft he y1 y0
      have sh := an_short st h.testBit q tm rg good p t n e hp1 hp ht (by omega) room hr 0 ((0 : Nat) : Int)
      exact yw_fits h.testBit q tm H rg st hst e n p t 0 0 9 he hn hp ht (by omega) (by omega) (by omega) rfl rfl (fun _ => ⟨rfl, rfl⟩) nI_0.symm rfl nI_0.symm
        (fun g => y1 ((hA e).mpr (sh.mp g))) (fun g => y0 (fun z => g (sh.mpr ((hA e).mp z))))
    have L : ∀ d m ex sp ft, d ≤ A → d < m → wY_shortage_55 post m (nI (A - d)) f_most ex (nI n) (nI p) (nI t) 0 9 0 ft a_stocks a_held a_picks a_outs a_backs a_homes on pk ou ba ho sp := by
      intro d
      induction d with
      | zero =>
        intro m ex sp ft _ hm
        obtain ⟨m, rfl⟩ : ∃ w, m = w + 1 := ⟨m - 1, by omega⟩
        rw [Nat.sub_zero]
        by_cases c : 9 ≤ A
        · have e9 : A = 9 := by omega
          subst e9
          exact br_t (nI_le (a := 9) (by omega) (by omega)) (k _ _ _ _ _ _ _ on pk ou ba ho sp ft)
        · exact br_f (nI_ge (b := 9) (by omega) (by decide)) (F A _ sp ft (by omega) (fun _ sp' ft' => br_f (by decide) (k _ _ _ _ _ _ _ on pk ou ba ho sp' ft')) (fun g => absurd (Nat.le_refl A) g))
      | succ d ih =>
        intro m ex sp ft hd hm
        obtain ⟨m, rfl⟩ : ∃ w, m = w + 1 := ⟨m - 1, by omega⟩
        have ih' := fun a b c => ih m a b c (by omega) (by omega)
        have e2 : A - d = A - (d + 1) + 1 := by omega
        rw [e2] at ih'
        have hi : A - (d + 1) < A := by omega
        generalize A - (d + 1) = e at ih' hi ⊢
        exact br_f (nI_ge (b := 9) (by omega) (by decide)) (F e _ sp ft (by omega) (fun g => absurd g (by omega)) (fun _ sp' ft' => br_t rfl (nm_r (nI_1 e) (ih' _ sp' ft'))))
    have z := L A (A + 1) 0 a_spread f_total (Nat.le_refl _) (by omega)
    rw [Nat.sub_self] at z
    exact ⟨_, z⟩

theorem yw_spare {post : Int32 → SY → Prop} (cap h : Nat) (st q tm : Nat → Nat) (R : rl_R cap h st q tm)
    (hst : ∀ s, s < 4 → a_stocks s = nI (st s) ∧ st s ≤ 3) (B : yw_B h q tm a_held a_picks a_outs a_backs a_homes)
    (s x : Nat) (hs : s < 4) (hx : x ≤ 8) (A : Nat) (A8 : A ≤ 8)
    (hr : ∀ z, (∀ g, z ≤ hs_sl (xg_st st) h.testBit (xg_pk q) (xg_ot tm) (xg_bk q) (xg_hm tm) (2 ^ s).testBit x g true) ↔ z ≤ (A : Int))
    (k : ∀ ex gn gs ga fa ff fl on pk ou ba ho sp ft, post (nI A) (f_most, ex, gn, gs, ga, fa, ff, fl, ft, a_stocks, a_held, a_picks, a_outs, a_backs, a_homes, on, pk, ou, ba, ho, sp)) :
    wpY_spare post (f_most, f_extra, f_gone, f_goneSet, f_goneAt, f_floorAt, f_floorFrom, f_floor, f_total, a_stocks, a_held, a_picks, a_outs, a_backs, a_homes, a_on, a_pick, a_out, a_back, a_home, a_spread) (nI s) (nI x) := by
  have hh := rl_h R
  have rg := R.2.2.2.2.2.1
  have good := R.2.2.2.2.2.2
  refine br_f (nI_pos (by omega)) (br_f (nI_nlt (a := 3) (by omega) (by omega)) (br_f (nI_pos (by omega)) (br_t (nI_le (b := 8) hx (by omega)) (yw_ask h hh q tm B (fun on pk ou ba ho H => ?_)))))
  have F : ∀ (e : Nat) (post' : Int32 → SY → Prop) (sp : Nat → Int32) (ft : Int32), 1 ≤ e → e ≤ 9 →
      (e ≤ A → ∀ sp' ft', post' 1 (f_most, 0, 0, f_goneSet, f_goneAt, nI s, nI x, nI e, ft', a_stocks, a_held, a_picks, a_outs, a_backs, a_homes, on, pk, ou, ba, ho, sp')) →
      (¬ e ≤ A → ∀ sp' ft', post' 0 (f_most, 0, 0, f_goneSet, f_goneAt, nI s, nI x, nI e, ft', a_stocks, a_held, a_picks, a_outs, a_backs, a_homes, on, pk, ou, ba, ho, sp')) →
      wpY_fits post' (f_most, 0, 0, f_goneSet, f_goneAt, nI s, nI x, nI e, ft, a_stocks, a_held, a_picks, a_outs, a_backs, a_homes, on, pk, ou, ba, ho, sp) := by
    intro e post' sp ft he1 he9 y1 y0
    have sh := an_spare st h.testBit q tm rg good s x e hs hx he1 (A : Int) hr
    exact yw_fits h.testBit q tm H rg st hst 0 0 0 0 s e x (by omega) (by omega) (by omega) (by omega) hs he9 (by omega) nI_0.symm nI_0.symm (fun z => absurd z (by omega)) rfl rfl rfl
      (fun g => y1 (by have z := sh.mp g; omega)) (fun g => y0 (fun z => g (sh.mpr (by omega))))
  have L : ∀ d m fl sp ft, d ≤ A → d < m → wY_spare_37 post m (nI (A + 1 - d)) f_most 0 0 f_goneSet f_goneAt (nI s) (nI x) fl ft a_stocks a_held a_picks a_outs a_backs a_homes on pk ou ba ho sp := by
    intro d
    induction d with
    | zero =>
      intro m fl sp ft _ hm
      obtain ⟨m, rfl⟩ : ∃ w, m = w + 1 := ⟨m - 1, by omega⟩
      rw [Nat.sub_zero]
      by_cases c : 8 ≤ A
      · have e9 : A = 8 := by omega
        subst e9
        exact br_t (nI_lt (a := 8) (by omega) (by omega)) (k _ _ _ _ _ _ _ on pk ou ba ho sp ft)
      · refine br_f (nI_nlt (a := 8) (by omega) (by omega)) (F (A + 1) _ sp ft (by omega) (by omega) (fun g => absurd g (by omega)) (fun _ sp' ft' => br_t rfl ?_))
        rw [nI_pred]
        exact k _ _ _ _ _ _ _ on pk ou ba ho sp' ft'
    | succ d ih =>
      intro m fl sp ft hd hm
      obtain ⟨m, rfl⟩ : ∃ w, m = w + 1 := ⟨m - 1, by omega⟩
      have ih' := fun a b c => ih m a b c (by omega) (by omega)
      have e2 : A + 1 - d = A + 1 - (d + 1) + 1 := by omega
      rw [e2] at ih'
      have hi : A + 1 - (d + 1) ≤ A := by omega
      have hi1 : 1 ≤ A + 1 - (d + 1) := by omega
      generalize A + 1 - (d + 1) = e at ih' hi hi1 ⊢
      exact br_f (nI_nlt (a := 8) (by omega) (by omega)) (F e _ sp ft hi1 (by omega) (fun _ sp' ft' => br_f (by decide) (nm_r (nI_1 e) (ih' _ sp' ft'))) (fun g => absurd hi g))
  have z := L A (A + 1) 0 a_spread f_total (Nat.le_refl _) (by omega)
  have e1 : A + 1 - A = 1 := by omega
  rw [e1] at z
  exact ⟨_, z⟩

theorem yw_bad {post : Int32 → Prop} (x1 x2 x3 x4 : Int32) (bad : x1 < 1 ∨ 15 < x1 ∨ x3 < 1 ∨ 15 < x3 ∨ x2 < 0 ∨ x4 ≤ x2 ∨ ¬ x4 ≤ 8) (k : post 1) : wpY_badCall post (f_most, f_extra, f_gone, f_goneSet, f_goneAt, f_floorAt, f_floorFrom, f_floor, f_total, a_stocks, a_held, a_picks, a_outs, a_backs, a_homes, a_on, a_pick, a_out, a_back, a_home, a_spread) x1 x2 x3 x4 := by
  by_cases c1 : x1 < 1
  · exact br_t c1 k
  refine br_f c1 ?_
  by_cases c2 : 15 < x1
  · exact br_t c2 k
  refine br_f c2 ?_
  by_cases c3 : x3 < 1
  · exact br_t c3 k
  refine br_f c3 ?_
  by_cases c4 : 15 < x3
  · exact br_t c4 k
  refine br_f c4 ?_
  by_cases c5 : x2 < 0
  · exact br_t c5 k
  refine br_f c5 ?_
  by_cases c6 : x4 ≤ x2
  · exact br_t c6 k
  refine br_f c6 ?_
  rcases bad with z | z | z | z | z | z | z
  · exact absurd z c1
  · exact absurd z c2
  · exact absurd z c3
  · exact absurd z c4
  · exact absurd z c5
  · exact absurd z c6
  · exact br_f z k
end

theorem tb_lf_i : ∀ h, h < 32 → ∀ i, i < 5 → (∀ j, j < i → h.testBit j = true) → h.testBit i = false → tb_lf h = i := by decide +kernel
theorem tb_lf_a : ∀ h, h < 32 → (∀ j, j < 5 → h.testBit j = true) → tb_lf h = 5 := by decide +kernel

theorem tb_tu {x y : Int32} (c5 : ¬ x < 0) (c6 : ¬ y ≤ x) (c7 : y ≤ 8) : ∃ t u : Nat, t < u ∧ u ≤ 8 ∧ x = nI t ∧ y = nI u := by
  have e0 : (0 : Int32).toInt = 0 := by decide
  have e8 : (8 : Int32).toInt = 8 := by decide
  rw [Int32.lt_iff_toInt_lt, e0] at c5
  rw [Int32.le_iff_toInt_le] at c6
  rw [Int32.le_iff_toInt_le, e8] at c7
  refine ⟨x.toInt.toNat, y.toInt.toNat, by omega, by omega, ?_, ?_⟩
  · apply Int32.toInt_inj.mp
    rw [nI_toInt (by omega)]; omega
  · apply Int32.toInt_inj.mp
    rw [nI_toInt (by omega)]; omega

theorem rl_upd (a : Nat → Int32) (q : Nat → Nat) (i p b : Nat) (ha : ∀ e, e < 10 → a e = nI (q e)) : ∀ e, e < 10 → upd (upd a (2 * i) (nI p)) (2 * i + 1) (nI b) e = nI (rl_q q i p b e) := by
  intro e he
  simp only [upd, rl_q, fp_up]
  by_cases c1 : e = 2 * i + 1
  · rw [if_pos c1, if_pos c1]
  · rw [if_neg c1, if_neg c1]
    by_cases c2 : e = 2 * i
    · rw [if_pos c2, if_pos c2]
    · rw [if_neg c2, if_neg c2]; exact ha e he

section
variable {f_capacity f_held : Int32} {a_stockAt a_askedSet a_endTime a_openSet : Nat → Int32}

theorem xw_held_out {post : Int32 → Prop} (x : Int32) (o : x < 0 ∨ nI 5 ≤ x) (k : post 0) : wpX_isHeld post (f_capacity, f_held, a_stockAt, a_askedSet, a_endTime, a_openSet) x := by
  by_cases c : x < 0
  · exact br_t c k
  · exact br_f c (br_t (o.resolve_left c) k)

theorem xw_lf {post : Int32 → Prop} (h : Nat) (hh : h < 32) (k : post (nI (tb_lf h))) : wpX_leastFreeNumber post (f_capacity, nI h, a_stockAt, a_askedSet, a_endTime, a_openSet) := by
  have L : ∀ d n, d ≤ 5 → d < n → (∀ j, j < 5 - d → h.testBit j = true) → wX_leastFreeNumber_2 post f_capacity (nI h) a_stockAt a_askedSet a_endTime a_openSet n (nI (5 - d)) := by
    intro d
    induction d with
    | zero =>
      intro n _ hn I
      obtain ⟨m, rfl⟩ : ∃ m, n = m + 1 := ⟨n - 1, by omega⟩
      rw [tb_lf_a h hh I] at k
      exact br_t (by decide) k
    | succ d ih =>
      intro n hd hn I
      obtain ⟨m, rfl⟩ : ∃ m, n = m + 1 := ⟨n - 1, by omega⟩
      have ih' := ih m (by omega) (by omega)
      have e1 : 5 - (d + 1) = 4 - d := by omega
      have e2 : 5 - d = 4 - d + 1 := by omega
      rw [e1] at I ⊢
      rw [e2] at ih'
      have hi : 4 - d < 5 := by omega
      generalize 4 - d = i at ih' hi I ⊢
      have b := tb_bit h hh i hi
      cases c : h.testBit i
      · rw [tb_lf_i h hh i hi I c] at k
        exact br_f (nI_ge (b := 5) hi (by decide)) (br_t (by rw [b, c]; rfl) k)
      · refine br_f (nI_ge (b := 5) hi (by decide)) (br_f (by rw [b, c]; decide) (nm_r (nI_1 i) (ih' fun j hj => ?_)))
        by_cases e : j = i
        · rw [e]; exact c
        · exact I j (by omega)
  exact ⟨6, L 5 6 (by omega) (by omega) (fun j hj => by omega)⟩

theorem xw_setEnd {post : SX → Prop} (e : Nat) (he : e < 10) (z x y : Int32) (hz : z = nI e)
    (k : post (f_capacity, f_held, a_stockAt, upd a_askedSet e x, upd a_endTime e y, upd a_openSet e x)) : wpX_setEnd post (f_capacity, f_held, a_stockAt, a_askedSet, a_endTime, a_openSet) z x y := by
  subst hz
  have v : vp_in (nI e) 10 := vp_in_nI he (by omega)
  have c : (nI e).toNatClampNeg = e := nI_clamp (by omega)
  exact ⟨v, nm_r (by rw [c]) ⟨v, nm_r (by rw [c]) ⟨v, nm_r (by rw [c]) k⟩⟩⟩

theorem xw_bad {post : Int32 → SX → Prop} (x1 x2 x3 x4 : Int32) (bad : x1 < 1 ∨ 15 < x1 ∨ x3 < 1 ∨ 15 < x3 ∨ x2 < 0 ∨ x4 ≤ x2 ∨ ¬ x4 ≤ 8) (k : post (-1) (f_capacity, f_held, a_stockAt, a_askedSet, a_endTime, a_openSet)) :
    wpX_book post (f_capacity, f_held, a_stockAt, a_askedSet, a_endTime, a_openSet) x1 x2 x3 x4 := by
  by_cases c1 : x1 < 1
  · exact br_t c1 (br_t rfl k)
  refine br_f c1 ?_
  by_cases c2 : 15 < x1
  · exact br_t c2 (br_t rfl k)
  refine br_f c2 (br_f (by decide) ?_)
  by_cases c3 : x3 < 1
  · exact br_t c3 (br_t rfl k)
  refine br_f c3 ?_
  by_cases c4 : 15 < x3
  · exact br_t c4 (br_t rfl k)
  refine br_f c4 (br_f (by decide) ?_)
  by_cases c5 : x2 < 0
  · exact br_t c5 k
  refine br_f c5 ?_
  by_cases c6 : x4 ≤ x2
  · exact br_t c6 k
  refine br_f c6 ?_
  rcases bad with z | z | z | z | z | z | z
  · exact absurd z c1
  · exact absurd z c2
  · exact absurd z c3
  · exact absurd z c4
  · exact absurd z c5
  · exact absurd z c6
  · exact br_f z k

theorem xw_book {post : Int32 → SX → Prop} (cap h : Nat) (st q tm : Nat → Nat) (R : rl_R cap h st q tm) (HX : xw_st st q tm a_stockAt a_endTime a_openSet)
    (p t b u : Nat) (hp1 : 1 ≤ p) (hp : p < 16) (hb1 : 1 ≤ b) (hb : b < 16) (htu : t < u) (hu : u ≤ 8)
    (kf : cap ≤ tb_lf h → post (-2) (nI cap, nI h, a_stockAt, a_askedSet, a_endTime, a_openSet))
    (k1 : tb_lf h < cap → xg_gd st (h ||| 2 ^ tb_lf h).testBit (rl_q q (tb_lf h) p b) (rl_q tm (tb_lf h) t u) →
      post (nI (tb_lf h)) (nI cap, nI (h ||| 2 ^ tb_lf h), a_stockAt, upd (upd a_askedSet (2 * tb_lf h) (nI p)) (2 * tb_lf h + 1) (nI b),
        upd (upd a_endTime (2 * tb_lf h) (nI t)) (2 * tb_lf h + 1) (nI u), upd (upd a_openSet (2 * tb_lf h) (nI p)) (2 * tb_lf h + 1) (nI b)))
    (k0 : tb_lf h < cap → ¬ xg_gd st (h ||| 2 ^ tb_lf h).testBit (rl_q q (tb_lf h) p b) (rl_q tm (tb_lf h) t u) →
      post (-3) (nI cap, nI h, a_stockAt, upd (upd a_askedSet (2 * tb_lf h) (nI p)) (2 * tb_lf h + 1) (nI b),
        upd (upd a_endTime (2 * tb_lf h) (nI t)) (2 * tb_lf h + 1) (nI u), upd (upd a_openSet (2 * tb_lf h) (nI p)) (2 * tb_lf h + 1) (nI b))) :
    wpX_book post (nI cap, nI h, a_stockAt, a_askedSet, a_endTime, a_openSet) (nI p) (nI t) (nI b) (nI u) := by
  have hh := rl_h R
  have c6 := R.2.1
  have lf5 := tb_lf_le h hh
  refine br_f (nI_nlt (b := 1) hp1 (by omega)) (br_f (nI_nlt (a := 15) (by omega) (by omega)) (br_f (by decide) (br_f (nI_nlt (b := 1) hb1 (by omega)) (br_f (nI_nlt (a := 15) (by omega) (by omega))
    (br_f (by decide) (br_f (nI_pos (by omega)) (br_f (nI_ge htu (by omega)) (br_t (nI_le (b := 8) hu (by omega)) (xw_lf h hh ?_)))))))))
  by_cases c : cap ≤ tb_lf h
  · exact br_f (nI_nlt c (by omega)) (kf c)
  have lc : tb_lf h < cap := by omega
  have li : tb_lf h < 5 := by omega
  have free := tb_lf_free h hh li
  generalize tb_lf h = i at k1 k0 lc li free ⊢
  have sl := tb_sl i li
  have m2 : (2 : Int32) * nI i = nI (2 * i) := pk_mul 2 i
  refine br_t (nI_lt lc (by omega)) (xw_setEnd (2 * i) (by omega) _ _ _ m2 (xw_setEnd (2 * i + 1) (by omega) _ _ _ (by rw [m2, nI_1]) ?_))
  have hs : h ||| 2 ^ i < 32 := Nat.lt_of_lt_of_le (tb_or_lt cap c6 h hh R.2.2.1 i lc) (tb_cap cap c6)
  refine nm_r (e' := nI (h ||| 2 ^ i)) (by rw [sl]; exact tb_set h hh i li) ?_
  have HX' : xw_st st (rl_q q i p b) (rl_q tm i t u) a_stockAt (upd (upd a_endTime (2 * i) (nI t)) (2 * i + 1) (nI u)) (upd (upd a_openSet (2 * i) (nI p)) (2 * i + 1) (nI b)) := by
    refine ⟨HX.1, fun e he => ⟨rl_upd a_openSet q i p b (fun e he => (HX.2 e he).1) e he, rl_qb q i p b 16 hp hb (fun e he => (HX.2 e he).2.1) e he,
      rl_upd a_endTime tm i t u (fun e he => (HX.2 e he).2.2.1) e he, ?_⟩⟩
    have z := rl_qb tm i t u 9 (by omega) (by omega) (fun e he => by have := (HX.2 e he).2.2.2; omega) e he
    omega
  refine xw_good (nI cap) a_stockAt _ _ _ st _ _ HX' (h ||| 2 ^ i) hs (fun g => ?_) (fun g => ?_)
  · exact br_f (by decide) (k1 lc g)
  · refine br_t rfl (nm_r (e' := nI h) ?_ (k0 lc g))
    rw [sl, tb_clr (h ||| 2 ^ i) hs i li, tb_c_or h hh i li free]
end
