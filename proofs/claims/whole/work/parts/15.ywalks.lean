-- the reference, step by step
theorem zi_17 : (17 : Int32) = zi_z 17 := by decide

theorem yw_bd (A : Nat → Bool) (tot : Int) (nb k s : Nat) (hs : s < 4) (ok : yq_ok A tot nb) (a : A k = true) : 0 ≤ yq_v tot k s ∧ yq_v tot k s ≤ 60 := by
  have o := ok.2 k a
  have o1 := ok.1
  rcases hl_lt4 hs with e | e | e | e <;> subst e
  · rw [yq_v0]; omega
  · rw [yq_v1]; omega
  · rw [yq_v2]; omega
  · rw [yq_v3]; omega

section
variable {f_most f_extra f_gone f_goneSet f_goneAt f_floorAt f_floorFrom f_floor f_total : Int32}
  {a_stocks a_held a_picks a_outs a_backs a_homes a_on a_pick a_out a_back a_home a_spread : Nat → Int32}

theorem yw_left {post : Int32 → Prop} (tot : Int) (ht : f_total = zi_z tot) (k s : Nat) (hk : k < 5832) (hs : s < 4) (p : post (zi_z (yq_v tot k s))) :
    wpY_left post (f_most, f_extra, f_gone, f_goneSet, f_goneAt, f_floorAt, f_floorFrom, f_floor, f_total, a_stocks, a_held, a_picks, a_outs, a_backs, a_homes, a_on, a_pick, a_out, a_back, a_home, a_spread) (nI k) (nI s) := by
  have r0 : nI k - nI k / 18 * 18 = nI (k % 18) := pk_rem (d := 18) (by omega) (by omega) (by omega)
  have d0 : nI k / 18 = nI (k / 18) := pk_div (d := 18) (by omega) (by omega) (by omega)
  have r1 : nI k / 18 - nI k / 18 / 18 * 18 = nI (k / 18 % 18) := by
    rw [d0]; exact pk_rem (d := 18) (by omega) (by omega) (by omega)
  have d2 : nI k / 324 = nI (k / 324) := pk_div (d := 324) (by omega) (by omega) (by omega)
  have n18 : ¬ (18 : Int32) = 0 := by decide
  have n324 : ¬ (324 : Int32) = 0 := by decide
  refine ⟨n18, nm_r r0 ⟨n18, n18, nm_r r1 ⟨n324, nm_r d2 ?_⟩⟩⟩
  rcases hl_lt4 hs with e | e | e | e <;> subst e
  · rw [yq_v0, ← zi_n] at p
    exact br_t nI_0 p
  · rw [yq_v1, ← zi_n] at p
    exact br_f (by decide) (br_t rfl p)
  · rw [yq_v2, ← zi_n] at p
    exact br_f (by decide) (br_f (by decide) (br_t rfl p))
  · rw [yq_v3, ← zi_sub, ← zi_sub, ← zi_sub, ← zi_n, ← zi_n, ← zi_n, ← ht] at p
    exact br_f (by decide) (br_f (by decide) (br_f (by decide) p))

theorem yw_unit {post : Int32 → Prop} (s : Nat) (hs : s < 4) (p : post (nI (yq_u s))) : wpY_unit post (f_most, f_extra, f_gone, f_goneSet, f_goneAt, f_floorAt, f_floorFrom, f_floor, f_total, a_stocks, a_held, a_picks, a_outs, a_backs, a_homes, a_on, a_pick, a_out, a_back, a_home, a_spread) (nI s) := by
  rcases hl_lt4 hs with e | e | e | e <;> subst e
  · exact br_t nI_0 p
  · exact br_f (by decide) (br_t rfl p)
  · exact br_f (by decide) (br_f (by decide) (br_t rfl p))
  · exact br_f (by decide) (br_f (by decide) (br_f (by decide) p))

theorem yw_settle {post : SY → Prop} (A M : Nat → Bool) (h : yq_sp A M a_spread) (k : ∀ sp, yq_sp M (fun _ => false) sp → post (f_most, f_extra, f_gone, f_goneSet, f_goneAt, f_floorAt, f_floorFrom, f_floor, f_total, a_stocks, a_held, a_picks, a_outs, a_backs, a_homes, a_on, a_pick, a_out, a_back, a_home, sp)) :
    wpY_settle post (f_most, f_extra, f_gone, f_goneSet, f_goneAt, f_floorAt, f_floorFrom, f_floor, f_total, a_stocks, a_held, a_picks, a_outs, a_backs, a_homes, a_on, a_pick, a_out, a_back, a_home, a_spread) := by
  have L : ∀ d n sp, d ≤ 5832 → d < n → yq_se A M (5832 - d) sp → wY_settle_2 post f_most f_extra f_gone f_goneSet f_goneAt f_floorAt f_floorFrom f_floor f_total n (nI (5832 - d)) a_stocks a_held a_picks a_outs a_backs a_homes a_on a_pick a_out a_back a_home sp := by
    intro d
    induction d with
    | zero =>
      intro n sp _ hn I
      obtain ⟨m, rfl⟩ : ∃ m, n = m + 1 := ⟨n - 1, by omega⟩
      exact br_t (nI_le (a := 5832) (by omega) (by omega)) (k sp (yq_se_e A M sp I))
    | succ d ih =>
      intro n sp hd hn I
      obtain ⟨m, rfl⟩ : ∃ m, n = m + 1 := ⟨n - 1, by omega⟩
      have ih' := fun s => ih m s (by omega) (by omega)
      have e1 : 5832 - (d + 1) = 5831 - d := by omega
      have e2 : 5832 - d = 5831 - d + 1 := by omega
      rw [e1] at I ⊢
      rw [e2] at ih'
      have hi : 5831 - d < 5832 := by omega
      generalize 5831 - d = i at ih' hi I ⊢
      have vi : vp_in (nI i) 5832 := vp_in_nI hi (by omega)
      have ci : (nI i).toNatClampNeg = i := nI_clamp (by omega)
      exact br_f (nI_ge (b := 5832) hi (by omega)) ⟨vi, vi, nm_r (e' := upd sp i (sp i >>> ((1 : Int32) &&& 31))) (by rw [ci]) (nm_r (nI_1 i) (ih' _ (yq_se_s A M i sp hi I)))⟩
  exact ⟨5833, L 5832 5833 a_spread (by omega) (by omega) (yq_se_0 A M a_spread h)⟩

theorem yw_b53 {post : SY → Prop} {J2 J11 : Int32 → (Nat → Int32) → (Nat → Int32) → (Nat → Int32) → (Nat → Int32) → (Nat → Int32) → (Nat → Int32) → (Nat → Int32) → (Nat → Int32) → (Nat → Int32) → (Nat → Int32) → (Nat → Int32) → (Nat → Int32) → Prop}
    (x1 : Int32) (i s : Nat) (hs : s < 4) (ht : i + yq_u s < 5832)
    (k : J11 (nI (s + 1)) a_stocks a_held a_picks a_outs a_backs a_homes a_on a_pick a_out a_back a_home (upd a_spread (i + yq_u s) (a_spread (i + yq_u s) ||| 2))) : wY_bring_53 post J2 J11 x1 (nI i) (nI s) f_most f_extra f_gone f_goneSet f_goneAt f_floorAt f_floorFrom f_floor f_total a_stocks a_held a_picks a_outs a_backs a_homes a_on a_pick a_out a_back a_home a_spread := by
  unfold wY_bring_53
  refine yw_unit s hs ?_
  have vi : vp_in (nI (i + yq_u s)) 5832 := vp_in_nI ht (by omega)
  have ci : (nI (i + yq_u s)).toNatClampNeg = i + yq_u s := nI_clamp (by omega)
  exact nm_r (nI_add i (yq_u s)) ⟨vi, vi, nm_r (e' := upd a_spread (i + yq_u s) (a_spread (i + yq_u s) ||| 2)) (by rw [ci]) (nm_r (nI_1 s) k)⟩

theorem yw_b11 {post : SY → Prop} {J2 : Int32 → (Nat → Int32) → (Nat → Int32) → (Nat → Int32) → (Nat → Int32) → (Nat → Int32) → (Nat → Int32) → (Nat → Int32) → (Nat → Int32) → (Nat → Int32) → (Nat → Int32) → (Nat → Int32) → (Nat → Int32) → Prop}
    (A : Nat → Bool) (tot : Int) (nb : Nat) (ok : yq_ok A tot (nb + 1)) (ht : f_total = zi_z tot) (set : Nat) (hset : set < 16) (i : Nat) (hi : i < 5832)
    (k : ∀ sp, yq_I A (fun j s => set.testBit s = true ∧ (s = 3 ∨ yq_v tot j s < 17)) (fun j s => j + yq_u s) (i + 1) 0 sp → J2 (nI (i + 1)) a_stocks a_held a_picks a_outs a_backs a_homes a_on a_pick a_out a_back a_home sp) :
    ∀ d n sp, d ≤ 4 → d < n → yq_I A (fun j s => set.testBit s = true ∧ (s = 3 ∨ yq_v tot j s < 17)) (fun j s => j + yq_u s) i (4 - d) sp →
    wY_bring_11 post J2 (nI set) (nI i) f_most f_extra f_gone f_goneSet f_goneAt f_floorAt f_floorFrom f_floor f_total n (nI (4 - d)) a_stocks a_held a_picks a_outs a_backs a_homes a_on a_pick a_out a_back a_home sp := by
  intro d
  induction d with
  | zero =>
    intro n sp _ hn I
    obtain ⟨m, rfl⟩ : ∃ m, n = m + 1 := ⟨n - 1, by omega⟩
    exact br_t (by decide) (nm_r (nI_1 i) (k sp (yq_I_4 _ _ _ i sp I)))
  | succ d ih =>
    intro n sp hd hn I
    obtain ⟨m, rfl⟩ : ∃ m, n = m + 1 := ⟨n - 1, by omega⟩
    have ih' := fun s => ih m s (by omega) (by omega)
    have e1 : 4 - (d + 1) = 3 - d := by omega
    have e2 : 4 - d = 3 - d + 1 := by omega
    rw [e1] at I ⊢
    rw [e2] at ih'
    have hs : 3 - d < 4 := by omega
    generalize 3 - d = s at ih' hs I ⊢
    have vi : vp_in (nI i) 5832 := vp_in_nI hi (by omega)
    have ci : (nI i).toNatClampNeg = i := nI_clamp (by omega)
    have b := tb_bit set (by omega) s (by omega)
    have g4 : ¬ (4 : Int32) ≤ nI s := nI_ge (b := 4) hs (by decide)
    have bit : (sp (nI i).toNatClampNeg &&& 1 = 1) ↔ A i = true := by rw [ci]; exact yq_I_a _ _ _ i s i sp hi I
    by_cases a : A i = true
    · have o := ok.2 i a
      have tl : i + yq_u s < 5832 := by
        rcases hl_lt4 hs with e | e | e | e <;> subst e <;> simp only [yq_u] <;> simp <;> omega
      cases c : set.testBit s
      · refine br_f g4 ⟨vi, br_t (bit.mpr a) (br_f (by rw [b, c]; decide) (nm_r (nI_1 s) (ih' sp (yq_I_n _ _ _ i s sp (fun z => ?_) I))))⟩
        have z1 := z.1
        rw [c] at z1; cases z1
      · by_cases s3 : s = 3
        · refine br_f g4 ⟨vi, br_t (bit.mpr a) (br_t (by rw [b, c]; rfl) (br_t (by rw [s3]; rfl) (yw_b53 (nI set) i s hs tl ?_)))⟩
          exact ih' _ (yq_I_y _ _ _ i s sp hs a ⟨c, Or.inl s3⟩ tl I)
        · have bd := yw_bd A tot (nb + 1) i s hs ok a
          have n3 : ¬ nI s = 3 := fun z => s3 ((nI_eq (b := 3) (by omega) (by decide)).mp z)
          refine br_f g4 ⟨vi, br_t (bit.mpr a) (br_t (by rw [b, c]; rfl) (br_f n3 (yw_left tot ht i s hi hs ?_)))⟩
          have cmp : ((17 : Int32) ≤ zi_z (yq_v tot i s)) ↔ 17 ≤ yq_v tot i s := by
            rw [zi_17]; exact zi_le (by omega) (by omega) (by omega) (by omega)
          by_cases v : 17 ≤ yq_v tot i s
          · refine br_t (cmp.mpr v) (nm_r (nI_1 s) (ih' sp (yq_I_n _ _ _ i s sp (fun z => ?_) I)))
            rcases z.2 with z2 | z2
            · exact s3 z2
            · omega
          · refine br_f (fun z => v (cmp.mp z)) (yw_b53 (nI set) i s hs tl ?_)
            exact ih' _ (yq_I_y _ _ _ i s sp hs a ⟨c, Or.inr (by omega)⟩ tl I)
    · exact br_f g4 ⟨vi, br_f (fun z => a (bit.mp z)) (nm_r (nI_1 i) (k sp (yq_I_f _ _ _ i s sp a I)))⟩

theorem yw_bring {post : SY → Prop} (G : Prop) (Q : (Nat → Int) → Prop) (nb set : Nat) (hset : set < 16)
    (J : yq_J G (fun v => ∃ s, s < 4 ∧ set.testBit s = true ∧ Q (hl_up v s 1)) (nb + 1) a_spread f_total)
    (k : ∀ sp ft, yq_J G Q nb sp ft → post (f_most, f_extra, f_gone, f_goneSet, f_goneAt, f_floorAt, f_floorFrom, f_floor, ft, a_stocks, a_held, a_picks, a_outs, a_backs, a_homes, a_on, a_pick, a_out, a_back, a_home, sp)) : wpY_bring post (f_most, f_extra, f_gone, f_goneSet, f_goneAt, f_floorAt, f_floorFrom, f_floor, f_total, a_stocks, a_held, a_picks, a_outs, a_backs, a_homes, a_on, a_pick, a_out, a_back, a_home, a_spread) (nI set) := by
  obtain ⟨A, tot, ht, sp0, ok, ex⟩ := J
  have L : ∀ d n sp, d ≤ 5832 → d < n → yq_I A (fun j s => set.testBit s = true ∧ (s = 3 ∨ yq_v tot j s < 17)) (fun j s => j + yq_u s) (5832 - d) 0 sp →
      wY_bring_2 post (nI set) f_most f_extra f_gone f_goneSet f_goneAt f_floorAt f_floorFrom f_floor f_total n (nI (5832 - d)) a_stocks a_held a_picks a_outs a_backs a_homes a_on a_pick a_out a_back a_home sp := by
    intro d
    induction d with
    | zero =>
      intro n sp _ hn I
      obtain ⟨m, rfl⟩ : ∃ m, n = m + 1 := ⟨n - 1, by omega⟩
      obtain ⟨M, hM, hb⟩ := I
      refine br_t (nI_le (a := 5832) (by omega) (by omega)) (yw_settle A M hM fun s' h' => ?_)
      refine nm_r (e' := zi_z (tot + 1)) (by rw [ht, zi_s]) (k s' _ (yq_J_br G set Q nb A tot ok ex M s' _ rfl h' hb))
    | succ d ih =>
      intro n sp hd hn I
      obtain ⟨m, rfl⟩ : ∃ m, n = m + 1 := ⟨n - 1, by omega⟩
      have ih' := fun s => ih m s (by omega) (by omega)
      have e1 : 5832 - (d + 1) = 5831 - d := by omega
      have e2 : 5832 - d = 5831 - d + 1 := by omega
      rw [e1] at I ⊢
      rw [e2] at ih'
      have hi : 5831 - d < 5832 := by omega
      generalize 5831 - d = i at ih' hi I ⊢
      exact br_f (nI_ge (b := 5832) hi (by omega)) ⟨5, yw_b11 A tot nb ok ht set hset i hi ih' 4 5 sp (by omega) (by omega) I⟩
  exact ⟨5833, L 5832 5833 a_spread (by omega) (by omega) (yq_I_0 _ _ _ a_spread sp0)⟩

theorem yw_f11 {post : SY → Prop} {J2 : Int32 → (Nat → Int32) → (Nat → Int32) → (Nat → Int32) → (Nat → Int32) → (Nat → Int32) → (Nat → Int32) → (Nat → Int32) → (Nat → Int32) → (Nat → Int32) → (Nat → Int32) → (Nat → Int32) → (Nat → Int32) → Prop}
    (A : Nat → Bool) (tot : Int) (nb : Nat) (ok : yq_ok A tot nb) (ht : f_total = zi_z tot) (set : Nat) (hset : set < 16) (i : Nat) (hi : i < 5832)
    (k : ∀ sp, yq_I A (fun j s => set.testBit s = true ∧ 0 < yq_v tot j s) (fun j s => j - yq_u s) (i + 1) 0 sp → J2 (nI (i + 1)) a_stocks a_held a_picks a_outs a_backs a_homes a_on a_pick a_out a_back a_home sp) :
    ∀ d n sp, d ≤ 4 → d < n → yq_I A (fun j s => set.testBit s = true ∧ 0 < yq_v tot j s) (fun j s => j - yq_u s) i (4 - d) sp →
    wY_fetch_11 post J2 (nI set) (nI i) f_most f_extra f_gone f_goneSet f_goneAt f_floorAt f_floorFrom f_floor f_total n (nI (4 - d)) a_stocks a_held a_picks a_outs a_backs a_homes a_on a_pick a_out a_back a_home sp := by
  intro d
  induction d with
  | zero =>
    intro n sp _ hn I
    obtain ⟨m, rfl⟩ : ∃ m, n = m + 1 := ⟨n - 1, by omega⟩
    exact br_t (by decide) (nm_r (nI_1 i) (k sp (yq_I_4 _ _ _ i sp I)))
  | succ d ih =>
    intro n sp hd hn I
    obtain ⟨m, rfl⟩ : ∃ m, n = m + 1 := ⟨n - 1, by omega⟩
    have ih' := fun s => ih m s (by omega) (by omega)
    have e1 : 4 - (d + 1) = 3 - d := by omega
    have e2 : 4 - d = 3 - d + 1 := by omega
    rw [e1] at I ⊢
    rw [e2] at ih'
    have hs : 3 - d < 4 := by omega
    generalize 3 - d = s at ih' hs I ⊢
    have vi : vp_in (nI i) 5832 := vp_in_nI hi (by omega)
    have ci : (nI i).toNatClampNeg = i := nI_clamp (by omega)
    have b := tb_bit set (by omega) s (by omega)
    have g4 : ¬ (4 : Int32) ≤ nI s := nI_ge (b := 4) hs (by decide)
    have bit : (sp (nI i).toNatClampNeg &&& 1 = 1) ↔ A i = true := by rw [ci]; exact yq_I_a _ _ _ i s i sp hi I
    by_cases a : A i = true
    · have o := ok.2 i a
      have bd := yw_bd A tot nb i s hs ok a
      cases c : set.testBit s
      · refine br_f g4 ⟨vi, br_t (bit.mpr a) (br_f (by rw [b, c]; decide) (nm_r (nI_1 s) (ih' sp (yq_I_n _ _ _ i s sp (fun z => ?_) I))))⟩
        have z1 := z.1
        rw [c] at z1; cases z1
      · refine br_f g4 ⟨vi, br_t (bit.mpr a) (br_t (by rw [b, c]; rfl) (yw_left tot ht i s hi hs ?_))⟩
        have cmp : (zi_z (yq_v tot i s) ≤ (0 : Int32)) ↔ yq_v tot i s ≤ 0 := by
          rw [zi_0]; exact zi_le (by omega) (by omega) (by omega) (by omega)
        by_cases v : yq_v tot i s ≤ 0
        · refine br_t (cmp.mpr v) (nm_r (nI_1 s) (ih' sp (yq_I_n _ _ _ i s sp (fun z => ?_) I)))
          have z2 := z.2
          omega
        · have ul : yq_u s ≤ i := by
            rcases hl_lt4 hs with e | e | e | e <;> subst e
            · rw [yq_v0] at v; show 1 ≤ i; omega
            · rw [yq_v1] at v; show 18 ≤ i; omega
            · rw [yq_v2] at v; show 324 ≤ i; omega
            · show 0 ≤ i; omega
          have tl : i - yq_u s < 5832 := by omega
          refine br_f (fun z => v (cmp.mp z)) (yw_unit s hs ?_)
          have vj : vp_in (nI (i - yq_u s)) 5832 := vp_in_nI tl (by omega)
          have cj : (nI (i - yq_u s)).toNatClampNeg = i - yq_u s := nI_clamp (by omega)
          refine nm_r (pk_sub ul) ⟨vj, vj, nm_r (e' := upd sp (i - yq_u s) (sp (i - yq_u s) ||| 2)) (by rw [cj]) (nm_r (nI_1 s) ?_)⟩
          exact ih' _ (yq_I_y _ _ _ i s sp hs a ⟨c, by omega⟩ tl I)
    · exact br_f g4 ⟨vi, br_f (fun z => a (bit.mp z)) (nm_r (nI_1 i) (k sp (yq_I_f _ _ _ i s sp a I)))⟩

theorem yw_fetch {post : SY → Prop} (G : Prop) (Q : (Nat → Int) → Prop) (nb set : Nat) (hset : set < 16)
    (J : yq_J G (fun v => ∃ s, s < 4 ∧ set.testBit s = true ∧ 1 ≤ v s ∧ Q (hl_up v s (-1))) nb a_spread f_total)
    (k : ∀ sp ft, yq_J G Q nb sp ft → post (f_most, f_extra, f_gone, f_goneSet, f_goneAt, f_floorAt, f_floorFrom, f_floor, ft, a_stocks, a_held, a_picks, a_outs, a_backs, a_homes, a_on, a_pick, a_out, a_back, a_home, sp)) : wpY_fetch post (f_most, f_extra, f_gone, f_goneSet, f_goneAt, f_floorAt, f_floorFrom, f_floor, f_total, a_stocks, a_held, a_picks, a_outs, a_backs, a_homes, a_on, a_pick, a_out, a_back, a_home, a_spread) (nI set) := by
  obtain ⟨A, tot, ht, sp0, ok, ex⟩ := J
  have L : ∀ d n sp, d ≤ 5832 → d < n → yq_I A (fun j s => set.testBit s = true ∧ 0 < yq_v tot j s) (fun j s => j - yq_u s) (5832 - d) 0 sp →
      wY_fetch_2 post (nI set) f_most f_extra f_gone f_goneSet f_goneAt f_floorAt f_floorFrom f_floor f_total n (nI (5832 - d)) a_stocks a_held a_picks a_outs a_backs a_homes a_on a_pick a_out a_back a_home sp := by
    intro d
    induction d with
    | zero =>
      intro n sp _ hn I
      obtain ⟨m, rfl⟩ : ∃ m, n = m + 1 := ⟨n - 1, by omega⟩
      obtain ⟨M, hM, hb⟩ := I
      refine br_t (nI_le (a := 5832) (by omega) (by omega)) (yw_settle A M hM fun s' h' => ?_)
      refine nm_r (e' := zi_z (tot + -1)) ?_ (k s' _ (yq_J_fe G set Q nb A tot ok ex M s' _ rfl h' hb))
      rw [ht, zi_1, zi_sub]; exact congrArg zi_z (by omega)
    | succ d ih =>
      intro n sp hd hn I
      obtain ⟨m, rfl⟩ : ∃ m, n = m + 1 := ⟨n - 1, by omega⟩
      have ih' := fun s => ih m s (by omega) (by omega)
      have e1 : 5832 - (d + 1) = 5831 - d := by omega
      have e2 : 5832 - d = 5831 - d + 1 := by omega
      rw [e1] at I ⊢
      rw [e2] at ih'
      have hi : 5831 - d < 5832 := by omega
      generalize 5831 - d = i at ih' hi I ⊢
      exact br_f (nI_ge (b := 5832) hi (by omega)) ⟨5, yw_f11 A tot nb ok ht set hset i hi ih' 4 5 sp (by omega) (by omega) I⟩
  exact ⟨5833, L 5832 5833 a_spread (by omega) (by omega) (yq_I_0 _ _ _ a_spread sp0)⟩
end
