-- the reference's question: is there a good plan for the slots that are on, with the further ones and the floor that are asked
def yw_H (on : Nat → Bool) (q tm : Nat → Nat) (a_on a_pick a_out a_back a_home : Nat → Int32) : Prop :=
  ∀ j, j < 6 → a_on j = zi_b (on j) ∧ (on j = true → a_pick j = nI (q (2 * j)) ∧ a_out j = nI (tm (2 * j)) ∧ a_back j = nI (q (2 * j + 1)) ∧ a_home j = nI (tm (2 * j + 1)))

section
variable {f_most f_extra f_gone f_goneSet f_goneAt f_floorAt f_floorFrom f_floor f_total : Int32}
  {a_stocks a_held a_picks a_outs a_backs a_homes a_on a_pick a_out a_back a_home a_spread : Nat → Int32}

-- the floor
theorem yw_83 {post : SY → Prop} (G : Prop) (K : (Nat → Int) → Prop) (nb x s N F : Nat) (hx : x ≤ 8) (hs : s < 4) (hN : N ≤ 9) (hF : F ≤ 9)
    (e1 : f_floorAt = nI s) (e2 : f_floorFrom = nI F) (e3 : f_floor = nI N)
    (J : yq_J G (fun z => (F ≤ x → (N : Int) ≤ z s) ∧ K z) nb a_spread f_total)
    (k : ∀ sp, yq_J G K nb sp f_total → post (f_most, f_extra, f_gone, f_goneSet, f_goneAt, f_floorAt, f_floorFrom, f_floor, f_total, a_stocks, a_held, a_picks, a_outs, a_backs, a_homes, a_on, a_pick, a_out, a_back, a_home, sp)) : ∃ n, wY_pickups_83 post (nI x) f_most f_extra f_gone f_goneSet f_goneAt f_floorAt f_floorFrom f_floor f_total n 0 a_stocks a_held a_picks a_outs a_backs a_homes a_on a_pick a_out a_back a_home a_spread := by
  subst e1
  by_cases c : x < F
  · refine ⟨1, br_f (nI_ge (a := 0) (b := 5832) (by omega) (by omega)) (br_t ?_ (k a_spread (yq_J_congr G _ _ (fun v => ⟨fun z => z.2, fun z => ⟨fun h => by omega, z⟩⟩) nb nb (by omega) _ _ J)))⟩
    rw [e2]; exact nI_lt c (by omega)
  · have nc : ¬ nI x < f_floorFrom := by rw [e2]; exact nI_nlt (by omega) (by omega)
    obtain ⟨A, tot, ht, sp0, ok, ex⟩ := J
    have ex' : yq_ex A tot (fun v => (N : Int) ≤ v s ∧ K v) ↔ G :=
      (yq_ex_congr A tot _ _ (fun v => ⟨fun z => ⟨fun _ => z.1, z.2⟩, fun z => ⟨z.1 (by omega), z.2⟩⟩)).trans ex
    have L : ∀ d n sp, d ≤ 5832 → d < n → yq_fi A tot s N (5832 - d) sp → wY_pickups_83 post (nI x) f_most f_extra f_gone f_goneSet f_goneAt (nI s) f_floorFrom f_floor f_total n (nI (5832 - d)) a_stocks a_held a_picks a_outs a_backs a_homes a_on a_pick a_out a_back a_home sp := by
      intro d
      induction d with
      | zero =>
        intro n sp _ hn I
        obtain ⟨m, rfl⟩ : ∃ m, n = m + 1 := ⟨n - 1, by omega⟩
        exact br_t (nI_le (a := 5832) (by omega) (by omega)) (k sp (yq_J_fl G K nb A tot s N ok ex' sp _ ht I))
      | succ d ih =>
        intro n sp hd hn I
        obtain ⟨m, rfl⟩ : ∃ m, n = m + 1 := ⟨n - 1, by omega⟩
        have ih' := fun s => ih m s (by omega) (by omega)
        have e1' : 5832 - (d + 1) = 5831 - d := by omega
        have e2' : 5832 - d = 5831 - d + 1 := by omega
        rw [e1'] at I ⊢
        rw [e2'] at ih'
        have hi : 5831 - d < 5832 := by omega
        generalize 5831 - d = i at ih' hi I ⊢
        have vi : vp_in (nI i) 5832 := vp_in_nI hi (by omega)
        have ci : (nI i).toNatClampNeg = i := nI_clamp (by omega)
        have bit : sp (nI i).toNatClampNeg = 1 ↔ A i = true := by rw [ci]; exact yq_fi_a A tot s N i sp hi I
        refine br_f (nI_ge (b := 5832) hi (by omega)) (br_f nc ⟨vi, ?_⟩)
        by_cases a : A i = true
        · have bd := yw_bd A tot nb i s hs ok a
          refine br_t (bit.mpr a) (yw_left tot ht i s hi hs ?_)
          have cmp : (f_floor ≤ zi_z (yq_v tot i s)) ↔ (N : Int) ≤ yq_v tot i s := by
            rw [e3, zi_n]; exact zi_le (by omega) (by omega) (by omega) (by omega)
          by_cases v : (N : Int) ≤ yq_v tot i s
          · exact br_t (cmp.mpr v) (nm_r (nI_1 i) (ih' sp (yq_fi_n A tot s N i sp I (fun _ => v))))
          · exact br_f (fun z => v (cmp.mp z)) ⟨vi, nm_r (e' := upd sp i 0) (by rw [ci]) (nm_r (nI_1 i) (ih' _ (yq_fi_y A tot s N i sp I v)))⟩
        · exact br_f (fun z => a (bit.mp z)) (nm_r (nI_1 i) (ih' sp (yq_fi_n A tot s N i sp I (fun z => absurd z a))))
    exact ⟨5833, L 5832 5833 a_spread (by omega) (by omega) (yq_fi_0 A tot s N a_spread sp0)⟩

-- the further ones
theorem yw_45 {post : SY → Prop} (G : Prop) (K : (Nat → Int) → Prop) (nb x M P T : Nat) (hx : x ≤ 8) (hM : M ≤ 9) (hP : P < 16) (hT : T ≤ 8)
    (e1 : f_gone = nI M) (e2 : 0 < M → f_goneSet = nI P ∧ f_goneAt = nI T)
    (k : ∀ sp ft, yq_J G K nb sp ft → ∃ n, wY_pickups_83 post (nI x) f_most f_extra f_gone f_goneSet f_goneAt f_floorAt f_floorFrom f_floor ft n 0 a_stocks a_held a_picks a_outs a_backs a_homes a_on a_pick a_out a_back a_home sp) :
    ∀ d n sp ft, d ≤ (if x = T then M else 0) → d < n → yq_J G (hl_run K (hl_gon P.testBit [] d)) nb sp ft →
    wY_pickups_45 post (nI x) n (nI ((if x = T then M else 0) - d)) f_most f_extra f_gone f_goneSet f_goneAt f_floorAt f_floorFrom f_floor ft a_stocks a_held a_picks a_outs a_backs a_homes a_on a_pick a_out a_back a_home sp := by
  intro d
  induction d with
  | zero =>
    intro n sp ft _ hn J
    obtain ⟨m, rfl⟩ : ∃ m, n = m + 1 := ⟨n - 1, by omega⟩
    have kk := k sp ft J
    rw [Nat.sub_zero]
    by_cases c : x = T
    · rw [if_pos c]
      refine br_t ?_ kk
      rw [e1]; exact nI_le (by omega) (by omega)
    · rw [if_neg c]
      by_cases z : M = 0
      · refine br_t ?_ kk
        rw [e1, z]; exact nI_le (by omega) (by omega)
      · have e := e2 (by omega)
        refine br_f ?_ (br_f (by decide) (br_f ?_ kk))
        · rw [e1]; exact nI_ge (by omega) (by omega)
        · rw [e.2]; exact fun w => c ((nI_eq (by omega) (by omega)).mp w)
  | succ d ih =>
    intro n sp ft hd hn J
    obtain ⟨m, rfl⟩ : ∃ m, n = m + 1 := ⟨n - 1, by omega⟩
    have ih' := fun s f => ih m s f (by omega) (by omega)
    have c : x = T := by
      by_cases c : x = T
      · exact c
      · rw [if_neg c] at hd; omega
    rw [if_pos c] at hd ih' ⊢
    have e := e2 (by omega)
    have s1 : M - d = M - (d + 1) + 1 := by omega
    rw [s1] at ih'
    have hi : M - (d + 1) < M := by omega
    generalize M - (d + 1) = i at ih' hi ⊢
    refine br_f (by rw [e1]; exact nI_ge hi (by omega)) (br_f (nI_ge (b := 9) (by omega) (by decide)) (br_t (by rw [e.2, c]) ?_))
    obtain ⟨eA, eB⟩ := e
    subst eA
    refine yw_fetch G (hl_run K (hl_gon P.testBit [] d)) nb P hP J (fun sp' ft' J' => ?_)
    exact nm_r (nI_1 i) (ih' sp' ft' J')

section
variable (on : Nat → Bool) (q tm : Nat → Nat)

-- what goes out at time x
theorem yw_2 {post : SY → Prop} (H : yw_H on q tm a_on a_pick a_out a_back a_home) (rg : an_rg on q tm) (G : Prop) (K : (Nat → Int) → Prop) (nb x : Nat) (hx : x ≤ 8)
    (k : ∀ sp ft, yq_J G K nb sp ft → ∃ n, wY_pickups_45 post (nI x) n 0 f_most f_extra f_gone f_goneSet f_goneAt f_floorAt f_floorFrom f_floor ft a_stocks a_held a_picks a_outs a_backs a_homes a_on a_pick a_out a_back a_home sp) :
    ∀ d n sp ft, d ≤ 6 → d < n → yq_J G (hl_run K (hl_fes on (xg_ot tm) (xg_pk q) x [] d)) nb sp ft →
    wY_pickups_2 post (nI x) n (nI (6 - d)) f_most f_extra f_gone f_goneSet f_goneAt f_floorAt f_floorFrom f_floor ft a_stocks a_held a_picks a_outs a_backs a_homes a_on a_pick a_out a_back a_home sp := by
  intro d
  induction d with
  | zero =>
    intro n sp ft _ hn J
    obtain ⟨m, rfl⟩ : ∃ m, n = m + 1 := ⟨n - 1, by omega⟩
    exact br_t (by decide) (k sp ft J)
  | succ d ih =>
    intro n sp ft hd hn J
    obtain ⟨m, rfl⟩ : ∃ m, n = m + 1 := ⟨n - 1, by omega⟩
    have ih' := fun s f => ih m s f (by omega) (by omega)
    have s1 : 6 - (d + 1) = 5 - d := by omega
    have s2 : 6 - d = 5 - d + 1 := by omega
    rw [s1]
    rw [s2] at ih'
    simp only [hl_fes] at J
    have hi : 5 - d < 6 := by omega
    generalize 5 - d = i at ih' hi J ⊢
    have vi : vp_in (nI i) 6 := vp_in_nI hi (by omega)
    have ci : (nI i).toNatClampNeg = i := nI_clamp (by omega)
    have h := H i hi
    have o0 : a_on (nI i).toNatClampNeg = zi_b (on i) := by rw [ci]; exact h.1
    refine br_f (nI_ge (b := 6) hi (by decide)) ⟨vi, ?_⟩
    cases o : on i
    · rw [o] at o0
      have n1 : ¬ (on i = true ∧ xg_ot tm i = x) := fun z => by rw [o] at z; cases z.1
      rw [if_neg n1] at J
      exact br_t (by rw [o0]; rfl) (nm_r (nI_1 i) (ih' sp ft J))
    · rw [o] at o0
      have hh := h.2 o
      have r := rg i hi o
      have t0 : a_out (nI i).toNatClampNeg = nI (tm (2 * i)) := by rw [ci]; exact hh.2.1
      have p0 : a_pick (nI i).toNatClampNeg = nI (q (2 * i)) := by rw [ci]; exact hh.1
      refine br_f (by rw [o0]; decide) ⟨vi, ?_⟩
      by_cases c : tm (2 * i) = x
      · have n1 : on i = true ∧ xg_ot tm i = x := ⟨o, c⟩
        rw [if_pos n1] at J
        refine br_t (by rw [t0, c]) ⟨vi, ?_⟩
        rw [p0]
        refine yw_fetch G (hl_run K (hl_fes on (xg_ot tm) (xg_pk q) x [] d)) nb (q (2 * i)) r.2.2.2.1 J (fun sp' ft' J' => ?_)
        exact nm_r (nI_1 i) (ih' sp' ft' J')
      · have n1 : ¬ (on i = true ∧ xg_ot tm i = x) := fun z => c z.2
        rw [if_neg n1] at J
        refine br_f (by rw [t0]; exact fun z => c ((nI_eq (by have := r.1; omega) (by omega)).mp z)) (nm_r (nI_1 i) (ih' sp ft J))

theorem yw_pickups {post : SY → Prop} (H : yw_H on q tm a_on a_pick a_out a_back a_home) (rg : an_rg on q tm) (G : Prop) (K : (Nat → Int) → Prop)
    (nb x M P T s N F : Nat) (hx : x ≤ 8) (hM : M ≤ 9) (hP : P < 16) (hT : T ≤ 8) (hs : s < 4) (hN : N ≤ 9) (hF : F ≤ 9)
    (e1 : f_gone = nI M) (e2 : 0 < M → f_goneSet = nI P ∧ f_goneAt = nI T) (e3 : f_floorAt = nI s) (e4 : f_floorFrom = nI F) (e5 : f_floor = nI N)
    (J : yq_J G (hl_run (hl_run (fun z => (F ≤ x → (N : Int) ≤ z s) ∧ K z) (hl_gon P.testBit [] (if x = T then M else 0))) (hl_fes on (xg_ot tm) (xg_pk q) x [] 6)) nb a_spread f_total)
    (k : ∀ sp ft, yq_J G K nb sp ft → post (f_most, f_extra, f_gone, f_goneSet, f_goneAt, f_floorAt, f_floorFrom, f_floor, ft, a_stocks, a_held, a_picks, a_outs, a_backs, a_homes, a_on, a_pick, a_out, a_back, a_home, sp)) : wpY_pickups post (f_most, f_extra, f_gone, f_goneSet, f_goneAt, f_floorAt, f_floorFrom, f_floor, f_total, a_stocks, a_held, a_picks, a_outs, a_backs, a_homes, a_on, a_pick, a_out, a_back, a_home, a_spread) (nI x) := by
  refine ⟨7, yw_2 on q tm H rg G _ nb x hx (fun sp ft J1 => ?_) 6 7 a_spread f_total (by omega) (by omega) J⟩
  have z := yw_45 (post := post) (f_most := f_most) (f_extra := f_extra) (f_floorAt := f_floorAt) (f_floorFrom := f_floorFrom) (f_floor := f_floor) (a_stocks := a_stocks) (a_held := a_held)
    (a_picks := a_picks) (a_outs := a_outs) (a_backs := a_backs) (a_homes := a_homes) (a_on := a_on) (a_pick := a_pick) (a_out := a_out) (a_back := a_back) (a_home := a_home)
    G (fun z => (F ≤ x → (N : Int) ≤ z s) ∧ K z) nb x M P T hx hM hP hT e1 e2
    (fun sp2 ft2 J2 => yw_83 G K nb x s N F hx hs hN hF e3 e4 e5 J2 (fun sp3 J3 => k sp3 ft2 J3)) (if x = T then M else 0) ((if x = T then M else 0) + 1) sp ft (Nat.le_refl _) (by omega) J1
  rw [Nat.sub_self] at z
  exact ⟨_, z⟩

-- what comes back at time x
theorem yw_129 {post : Int32 → SY → Prop} {J121 : Int32 → Int32 → Int32 → Int32 → Int32 → Int32 → Int32 → Int32 → Int32 → Int32 → (Nat → Int32) → (Nat → Int32) → (Nat → Int32) → (Nat → Int32) → (Nat → Int32) → (Nat → Int32) → (Nat → Int32) → (Nat → Int32) → (Nat → Int32) → (Nat → Int32) → (Nat → Int32) → (Nat → Int32) → Prop}
    (H : yw_H on q tm a_on a_pick a_out a_back a_home) (rg : an_rg on q tm) (G : Prop) (K : (Nat → Int) → Prop) (nb x : Nat) (hx : x ≤ 8)
    (k : ∀ sp ft, yq_J G K nb sp ft → wpY_pickups (fun u => match u with | (f_most, f_extra, f_gone, f_goneSet, f_goneAt, f_floorAt, f_floorFrom, f_floor, ft', a_stocks, a_held, a_picks, a_outs, a_backs, a_homes, a_on, a_pick, a_out, a_back, a_home, a_spread) => ∀ x1_38 : Int32, x1_38 = nI x + 1 → J121 x1_38 f_most f_extra f_gone f_goneSet f_goneAt f_floorAt f_floorFrom f_floor ft' a_stocks a_held a_picks a_outs a_backs a_homes a_on a_pick a_out a_back a_home a_spread) (f_most, f_extra, f_gone, f_goneSet, f_goneAt, f_floorAt, f_floorFrom, f_floor, ft, a_stocks, a_held, a_picks, a_outs, a_backs, a_homes, a_on, a_pick, a_out, a_back, a_home, sp) (nI x)) :
    ∀ d n sp ft, d ≤ 6 → d < n → yq_J G (hl_run K (hl_brs on (xg_hm tm) (xg_bk q) x [] d)) (yq_c on (xg_hm tm) x d + nb) sp ft →
    wY_fits_129 post J121 (nI x) n (nI (6 - d)) f_most f_extra f_gone f_goneSet f_goneAt f_floorAt f_floorFrom f_floor ft a_stocks a_held a_picks a_outs a_backs a_homes a_on a_pick a_out a_back a_home sp := by
  intro d
  induction d with
  | zero =>
    intro n sp ft _ hn J
    obtain ⟨m, rfl⟩ : ∃ m, n = m + 1 := ⟨n - 1, by omega⟩
    refine br_t (by decide) (k sp ft ?_)
    have z : yq_c on (xg_hm tm) x 0 + nb = nb := by simp only [yq_c]; omega
    rw [z] at J; exact J
  | succ d ih =>
    intro n sp ft hd hn J
    obtain ⟨m, rfl⟩ : ∃ m, n = m + 1 := ⟨n - 1, by omega⟩
    have ih' := fun s f => ih m s f (by omega) (by omega)
    have s1 : 6 - (d + 1) = 5 - d := by omega
    have s2 : 6 - d = 5 - d + 1 := by omega
    rw [s1]
    rw [s2] at ih'
    simp only [hl_brs, yq_c] at J
    have hi : 5 - d < 6 := by omega
    generalize 5 - d = i at ih' hi J ⊢
    have vi : vp_in (nI i) 6 := vp_in_nI hi (by omega)
    have ci : (nI i).toNatClampNeg = i := nI_clamp (by omega)
    have h := H i hi
    have o0 : a_on (nI i).toNatClampNeg = zi_b (on i) := by rw [ci]; exact h.1
    refine br_f (nI_ge (b := 6) hi (by decide)) ⟨vi, ?_⟩
    cases o : on i
    · rw [o] at o0
      have n1 : ¬ (on i = true ∧ xg_hm tm i = x) := fun z => by rw [o] at z; cases z.1
      rw [if_neg n1, if_neg n1, Nat.zero_add] at J
      exact br_t (by rw [o0]; rfl) (nm_r (nI_1 i) (ih' sp ft J))
    · rw [o] at o0
      have hh := h.2 o
      have r := rg i hi o
      have t0 : a_home (nI i).toNatClampNeg = nI (tm (2 * i + 1)) := by rw [ci]; exact hh.2.2.2
      have p0 : a_back (nI i).toNatClampNeg = nI (q (2 * i + 1)) := by rw [ci]; exact hh.2.2.1
      refine br_f (by rw [o0]; decide) ⟨vi, ?_⟩
      by_cases c : tm (2 * i + 1) = x
      · have n1 : on i = true ∧ xg_hm tm i = x := ⟨o, c⟩
        rw [if_pos n1, if_pos n1] at J
        have z : 1 + yq_c on (xg_hm tm) x d + nb = (yq_c on (xg_hm tm) x d + nb) + 1 := by omega
        rw [z] at J
        refine br_t (by rw [t0, c]) ⟨vi, ?_⟩
        rw [p0]
        refine yw_bring G (hl_run K (hl_brs on (xg_hm tm) (xg_bk q) x [] d)) _ (q (2 * i + 1)) r.2.2.2.2.2 J (fun sp' ft' J' => ?_)
        exact nm_r (nI_1 i) (ih' sp' ft' J')
      · have n1 : ¬ (on i = true ∧ xg_hm tm i = x) := fun z => c z.2
        rw [if_neg n1, if_neg n1, Nat.zero_add] at J
        refine br_f (by rw [t0]; exact fun z => c ((nI_eq (by have := r.2.1; omega) (by omega)).mp z)) (nm_r (nI_1 i) (ih' sp ft J))

-- the answer
theorem yw_185 {post : Int32 → SY → Prop} (G : Prop) (nb : Nat) (J : yq_J G (fun _ => True) nb a_spread f_total) (k1 : G → post 1 (f_most, f_extra, f_gone, f_goneSet, f_goneAt, f_floorAt, f_floorFrom, f_floor, f_total, a_stocks, a_held, a_picks, a_outs, a_backs, a_homes, a_on, a_pick, a_out, a_back, a_home, a_spread)) (k0 : ¬ G → post 0 (f_most, f_extra, f_gone, f_goneSet, f_goneAt, f_floorAt, f_floorFrom, f_floor, f_total, a_stocks, a_held, a_picks, a_outs, a_backs, a_homes, a_on, a_pick, a_out, a_back, a_home, a_spread)) :
    ∃ n, wY_fits_185 post f_most f_extra f_gone f_goneSet f_goneAt f_floorAt f_floorFrom f_floor f_total a_stocks a_held a_picks a_outs a_backs a_homes a_on a_pick a_out a_back a_home a_spread n 0 0 := by
  have any := yq_J_any G nb a_spread f_total J
  have L1 : ∀ d n, d ≤ 5832 → d < n → G → wY_fits_185 post f_most f_extra f_gone f_goneSet f_goneAt f_floorAt f_floorFrom f_floor f_total a_stocks a_held a_picks a_outs a_backs a_homes a_on a_pick a_out a_back a_home a_spread n 1 (nI (5832 - d)) := by
    intro d
    induction d with
    | zero =>
      intro n _ hn g
      obtain ⟨m, rfl⟩ : ∃ m, n = m + 1 := ⟨n - 1, by omega⟩
      exact br_t (nI_le (a := 5832) (by omega) (by omega)) ⟨rfl, k1 g⟩
    | succ d ih =>
      intro n hd hn g
      obtain ⟨m, rfl⟩ : ∃ m, n = m + 1 := ⟨n - 1, by omega⟩
      have ih' := ih m (by omega) (by omega) g
      have s2 : 5832 - d = 5832 - (d + 1) + 1 := by omega
      rw [s2] at ih'
      exact br_f (nI_ge (b := 5832) (by omega) (by omega)) (br_f (by decide) (nm_r (nI_1 _) ih'))
  have L0 : ∀ d n, d ≤ 5832 → d < n → (∀ i, i < 5832 - d → ¬ a_spread i = 1) → wY_fits_185 post f_most f_extra f_gone f_goneSet f_goneAt f_floorAt f_floorFrom f_floor f_total a_stocks a_held a_picks a_outs a_backs a_homes a_on a_pick a_out a_back a_home a_spread n 0 (nI (5832 - d)) := by
    intro d
    induction d with
    | zero =>
      intro n _ hn I
      obtain ⟨m, rfl⟩ : ∃ m, n = m + 1 := ⟨n - 1, by omega⟩
      refine br_t (nI_le (a := 5832) (by omega) (by omega)) ⟨rfl, k0 fun g => ?_⟩
      obtain ⟨i, hi, e⟩ := any.mpr g
      exact I i (by omega) e
    | succ d ih =>
      intro n hd hn I
      obtain ⟨m, rfl⟩ : ∃ m, n = m + 1 := ⟨n - 1, by omega⟩
      have ih' := ih m (by omega) (by omega)
      have l1' := L1 d m (by omega) (by omega)
      have s2 : 5832 - d = 5832 - (d + 1) + 1 := by omega
      rw [s2] at ih' l1'
      have hi : 5832 - (d + 1) < 5832 := by omega
      generalize 5832 - (d + 1) = i at ih' l1' hi I ⊢
      have vi : vp_in (nI i) 5832 := vp_in_nI hi (by omega)
      have ci : (nI i).toNatClampNeg = i := nI_clamp (by omega)
      refine br_f (nI_ge (b := 5832) hi (by omega)) (br_t rfl ⟨vi, ?_⟩)
      by_cases c : a_spread i = 1
      · exact br_t (by rw [ci]; exact c) (nm_r (nI_1 i) (l1' (any.mp ⟨i, hi, c⟩)))
      · refine br_f (by rw [ci]; exact c) (nm_r (nI_1 i) (ih' fun j hj => ?_))
        by_cases e : j = i
        · rw [e]; exact c
        · exact I j (by omega)
  exact ⟨5833, L0 5832 5833 (by omega) (by omega) (fun i hi => by omega)⟩

theorem yw_fits {post : Int32 → SY → Prop} (H : yw_H on q tm a_on a_pick a_out a_back a_home) (rg : an_rg on q tm) (st : Nat → Nat)
    (hst : ∀ s, s < 4 → a_stocks s = nI (st s) ∧ st s ≤ 3) (E M P T s N F : Nat) (hE : E ≤ 8) (hM : M ≤ 9) (hP : P < 16) (hT : T ≤ 8) (hs : s < 4) (hN : N ≤ 9) (hF : F ≤ 9)
    (e0 : f_extra = nI E) (e1 : f_gone = nI M) (e2 : 0 < M → f_goneSet = nI P ∧ f_goneAt = nI T) (e3 : f_floorAt = nI s) (e4 : f_floorFrom = nI F) (e5 : f_floor = nI N)
    (k1 : fl_ext (fl_go on (xg_pk q) (xg_ot tm) (xg_bk q) (xg_hm tm) M P.testBit T s (N : Int) F 9) E (xg_st st) → ∀ sp ft, post 1 (f_most, f_extra, f_gone, f_goneSet, f_goneAt, f_floorAt, f_floorFrom, f_floor, ft, a_stocks, a_held, a_picks, a_outs, a_backs, a_homes, a_on, a_pick, a_out, a_back, a_home, sp))
    (k0 : ¬ fl_ext (fl_go on (xg_pk q) (xg_ot tm) (xg_bk q) (xg_hm tm) M P.testBit T s (N : Int) F 9) E (xg_st st) → ∀ sp ft, post 0 (f_most, f_extra, f_gone, f_goneSet, f_goneAt, f_floorAt, f_floorFrom, f_floor, ft, a_stocks, a_held, a_picks, a_outs, a_backs, a_homes, a_on, a_pick, a_out, a_back, a_home, sp)) :
    wpY_fits post (f_most, f_extra, f_gone, f_goneSet, f_goneAt, f_floorAt, f_floorFrom, f_floor, f_total, a_stocks, a_held, a_picks, a_outs, a_backs, a_homes, a_on, a_pick, a_out, a_back, a_home, a_spread) := by
  generalize hG : fl_ext (fl_go on (xg_pk q) (xg_ot tm) (xg_bk q) (xg_hm tm) M P.testBit T s (N : Int) F 9) E (xg_st st) = G at k1 k0
  -- the times
  have L2 : ∀ d n sp ft, d ≤ 9 → d < n → yq_J G (fl_go on (xg_pk q) (xg_ot tm) (xg_bk q) (xg_hm tm) M P.testBit T s (N : Int) F d) (yq_n on (xg_hm tm) d) sp ft →
      wY_fits_121 post n (nI (9 - d)) f_most f_extra f_gone f_goneSet f_goneAt f_floorAt f_floorFrom f_floor ft a_stocks a_held a_picks a_outs a_backs a_homes a_on a_pick a_out a_back a_home sp := by
    intro d
    induction d with
    | zero =>
      intro n sp ft _ hn J
      obtain ⟨m, rfl⟩ : ∃ m, n = m + 1 := ⟨n - 1, by omega⟩
      exact br_t (by decide) (yw_185 G _ J (fun g => k1 g sp ft) (fun g => k0 g sp ft))
    | succ d ih =>
      intro n sp ft hd hn J
      obtain ⟨m, rfl⟩ : ∃ m, n = m + 1 := ⟨n - 1, by omega⟩
      have ih' := fun s f => ih m s f (by omega) (by omega)
      have s1 : 9 - (d + 1) = 8 - d := by omega
      have s2 : 9 - d = 8 - d + 1 := by omega
      rw [s1]
      rw [s2] at ih'
      simp only [yq_n] at J
      have hx : 8 - d ≤ 8 := by omega
      refine br_f (nI_nlt (a := 8) (by omega) (by omega)) ⟨7, ?_⟩
      refine yw_129 on q tm H rg G _ (yq_n on (xg_hm tm) d) (8 - d) hx (fun sp1 ft1 J1 => ?_) 6 7 sp ft (by omega) (by omega) J
      refine yw_pickups on q tm H rg G _ _ (8 - d) M P T s N F hx hM hP hT hs hN hF e1 e2 e3 e4 e5 J1 (fun sp2 ft2 J2 => ?_)
      exact nm_r (nI_1 _) (ih' sp2 ft2 J2)
  -- the further vehicles
  have L1 : ∀ d n sp ft, d ≤ E → d < n → yq_J G (fl_ext (fl_go on (xg_pk q) (xg_ot tm) (xg_bk q) (xg_hm tm) M P.testBit T s (N : Int) F 9) d) (d + yq_n on (xg_hm tm) 9) sp ft →
      wY_fits_93 post n (nI (E - d)) f_most f_extra f_gone f_goneSet f_goneAt f_floorAt f_floorFrom f_floor ft a_stocks a_held a_picks a_outs a_backs a_homes a_on a_pick a_out a_back a_home sp := by
    intro d
    induction d with
    | zero =>
      intro n sp ft _ hn J
      obtain ⟨m, rfl⟩ : ∃ m, n = m + 1 := ⟨n - 1, by omega⟩
      rw [Nat.zero_add] at J
      refine br_t (by rw [e0]; exact nI_le (by omega) (by omega)) ⟨10, L2 9 10 sp ft (by omega) (by omega) J⟩
    | succ d ih =>
      intro n sp ft hd hn J
      obtain ⟨m, rfl⟩ : ∃ m, n = m + 1 := ⟨n - 1, by omega⟩
      have ih' := fun s f => ih m s f (by omega) (by omega)
      have s2 : E - d = E - (d + 1) + 1 := by omega
      rw [s2] at ih'
      have hi : E - (d + 1) < E := by omega
      generalize E - (d + 1) = i at ih' hi ⊢
      have z : d + 1 + yq_n on (xg_hm tm) 9 = (d + yq_n on (xg_hm tm) 9) + 1 := by omega
      rw [z] at J
      have J' := yq_J_congr G _ (fun v => ∃ s', s' < 4 ∧ (15 : Nat).testBit s' = true ∧ fl_ext (fl_go on (xg_pk q) (xg_ot tm) (xg_bk q) (xg_hm tm) M P.testBit T s (N : Int) F 9) d (hl_up v s' 1))
        (fun v => ⟨fun ⟨r, a, _, c⟩ => ⟨r, a, by rcases hl_lt4 a with e | e | e | e <;> subst e <;> decide, c⟩, fun ⟨r, a, _, c⟩ => ⟨r, a, decide_eq_true a, c⟩⟩) _ _ (Nat.le_refl _) sp ft J
      refine br_f (by rw [e0]; exact nI_ge hi (by omega)) (br_f (nI_ge (b := 9) (by omega) (by decide)) ?_)
      refine yw_bring G _ _ 15 (by omega) J' (fun sp' ft' J2 => ?_)
      exact nm_r (nI_1 i) (ih' sp' ft' J2)
  -- the empty table, and the stocks
  have h0 := hst 0 (by omega)
  have h1 := hst 1 (by omega)
  have h2 := hst 2 (by omega)
  have h3 := hst 3 (by omega)
  have key : (a_stocks 0 + 18 * a_stocks 1) + 324 * a_stocks 2 = nI (st 0 + 18 * st 1 + 324 * st 2) := by
    rw [h0.1, h1.1, h2.1]
    have a : (18 : Int32) * nI (st 1) = nI (18 * st 1) := pk_mul 18 (st 1)
    have b : (324 : Int32) * nI (st 2) = nI (324 * st 2) := pk_mul 324 (st 2)
    rw [a, b, nI_add, nI_add]
  have tot : ((a_stocks 0 + a_stocks 1) + a_stocks 2) + a_stocks 3 = zi_z ((st 0 : Int) + st 1 + st 2 + st 3) := by
    rw [h0.1, h1.1, h2.1, h3.1, zi_n, zi_n, zi_n, zi_n, zi_add, zi_add, zi_add]
  have L0 : ∀ d n sp, d ≤ 5832 → d < n → (∀ i, i < 5832 - d → sp i = 0) → wY_fits_7 post f_most f_extra f_gone f_goneSet f_goneAt f_floorAt f_floorFrom f_floor 0 n (nI (5832 - d)) a_stocks a_held a_picks a_outs a_backs a_homes a_on a_pick a_out a_back a_home sp := by
    intro d
    induction d with
    | zero =>
      intro n sp _ hn I
      obtain ⟨m, rfl⟩ : ∃ m, n = m + 1 := ⟨n - 1, by omega⟩
      have vk : vp_in ((a_stocks 0 + 18 * a_stocks 1) + 324 * a_stocks 2) 5832 := by rw [key]; exact vp_in_nI (by omega) (by omega)
      refine br_t (nI_le (a := 5832) (by omega) (by omega)) ⟨vk, nm_r (e' := upd sp (st 0 + 18 * st 1 + 324 * st 2) 1) (by rw [key, nI_clamp (by omega)]) (nm_r tot ?_)⟩
      have n9 := yq_n9 on (xg_hm tm)
      have j0 := yq_J_0 st (fun s hs => (hst s hs).2) (fl_ext (fl_go on (xg_pk q) (xg_ot tm) (xg_bk q) (xg_hm tm) M P.testBit T s (N : Int) F 9) E) (E + yq_n on (xg_hm tm) 9) (by omega)
        (upd sp (st 0 + 18 * st 1 + 324 * st 2) 1) _ rfl (fun k hk => by
          by_cases c : k = st 0 + 18 * st 1 + 324 * st 2
          · rw [c, if_pos rfl]; exact pk_us
          · rw [if_neg c, pk_un c]; exact I k (by omega))
      rw [hG] at j0
      have z := L1 E (E + 1) _ _ (Nat.le_refl _) (by omega) j0
      rw [Nat.sub_self] at z
      exact ⟨_, z⟩
    | succ d ih =>
      intro n sp hd hn I
      obtain ⟨m, rfl⟩ : ∃ m, n = m + 1 := ⟨n - 1, by omega⟩
      have ih' := fun s => ih m s (by omega) (by omega)
      have s2 : 5832 - d = 5832 - (d + 1) + 1 := by omega
      rw [s2] at ih'
      have hi : 5832 - (d + 1) < 5832 := by omega
      generalize 5832 - (d + 1) = i at ih' hi I ⊢
      have vi : vp_in (nI i) 5832 := vp_in_nI hi (by omega)
      have ci : (nI i).toNatClampNeg = i := nI_clamp (by omega)
      refine br_f (nI_ge (b := 5832) hi (by omega)) ⟨vi, nm_r (e' := upd sp i 0) (by rw [ci]) (nm_r (nI_1 i) (ih' _ fun j hj => ?_))⟩
      by_cases c : j = i
      · rw [c]; exact pk_us
      · rw [pk_un c]; exact I j (by omega)
  exact ⟨5833, L0 5832 5833 a_spread (by omega) (by omega) (fun i hi => by omega)⟩
end
end
