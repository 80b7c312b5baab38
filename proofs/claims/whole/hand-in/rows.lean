section
theorem pk_us {f : Nat → Int32} {k : Nat} {x : Int32} : upd f k x k = x := if_pos rfl
theorem pk_un {f : Nat → Int32} {k j : Nat} {x : Int32} (h : j ≠ k) : upd f k x j = f j := if_neg h
theorem pk_sub {a b : Nat} (h : b ≤ a) : nI a - nI b = nI (a - b) := by
  obtain ⟨c, rfl⟩ : ∃ c, a = c + b := ⟨a - b, by omega⟩
  rw [← nI_add, Int32.add_sub_cancel, Nat.add_sub_cancel]
theorem pk_m1 (n : Nat) : nI (n + 1) + (-1) = nI n := by
  rw [← nI_1, Int32.add_assoc, show (1 : Int32) + (-1) = 0 from rfl, Int32.add_zero]
theorem pk_mul (a b : Nat) : nI a * nI b = nI (a * b) := (Int32.ofNat_mul a b).symm
theorem pk_div {a d : Nat} (ha : a < 2 ^ 31) (h0 : 0 < d) (hd : d < 2 ^ 31) : nI a / nI d = nI (a / d) := by
  apply Int32.toInt_inj.mp
  rw [lg_idiv_nonneg (by rw [nI_toInt ha]; omega) (by rw [nI_toInt hd]; omega), nI_toInt ha, nI_toInt hd, nI_toInt (Nat.lt_of_le_of_lt (Nat.div_le_self a d) ha)]
  first | rfl | exact (Int.natCast_ediv _ _).symm
theorem pk_rem {a d : Nat} (ha : a < 2 ^ 31) (h0 : 0 < d) (hd : d < 2 ^ 31) : nI a - nI a / nI d * nI d = nI (a % d) := by
  rw [pk_div ha h0 hd, pk_mul, pk_sub (Nat.div_mul_le_self a d)]
  exact congrArg nI (by have := Nat.div_add_mod' a d; omega)
theorem pk_ix (x : Int32) {n : Nat} (hn : n < 2 ^ 31) : x < 0 ∨ nI n ≤ x ∨ ∃ j : Nat, j < n ∧ x = nI j := by
  by_cases h : x < 0
  · exact Or.inl h
  · obtain ⟨j, hj, rfl⟩ := nI_of h
    by_cases h2 : j < n
    · exact Or.inr (Or.inr ⟨j, h2, rfl⟩)
    · exact Or.inr (Or.inl (nI_le (by omega) hj))
theorem pk_le {x y : Int32} {A B : Prop} (a b : Nat) (f : a ≤ b → A) (g : b < a → B) (hx : x = nI a := by rfl) (hy : y = nI b := by rfl) (ha : a < 2 ^ 31 := by omega) (hb : b < 2 ^ 31 := by omega) : (x ≤ y → A) ∧ (¬ x ≤ y → B) := by
  subst hx hy
  rw [nI_leI ha hb]
  exact ⟨f, fun z => g (by omega)⟩
theorem pk_lt {x y : Int32} {A B : Prop} (a b : Nat) (f : a < b → A) (g : b ≤ a → B) (hx : x = nI a := by rfl) (hy : y = nI b := by rfl) (ha : a < 2 ^ 31 := by omega) (hb : b < 2 ^ 31 := by omega) : (x < y → A) ∧ (¬ x < y → B) := by
  subst hx hy
  rw [nI_ltI ha hb]
  exact ⟨f, fun z => g (by omega)⟩
theorem pk_eq {x y : Int32} {A B : Prop} (a b : Nat) (f : a = b → A) (g : a ≠ b → B) (hx : x = nI a := by rfl) (hy : y = nI b := by rfl) (ha : a < 2 ^ 31 := by omega) (hb : b < 2 ^ 31 := by omega) : (x = y → A) ∧ (¬ x = y → B) := by
  subst hx hy
  rw [nI_eq ha hb]
  exact ⟨f, g⟩
theorem pk_in {x : Int32} (n N : Nat) (h : n < N) (hx : x = nI n := by rfl) (hN : N < 2 ^ 31 := by omega) : vp_in x N := by
  subst hx
  exact vp_in_nI h hN
theorem pk_cl {x : Int32} (n : Nat) (hx : x = nI n := by rfl) (h : n < 2 ^ 31 := by omega) : x.toNatClampNeg = n := by
  subst hx
  exact nI_clamp h
end
section
-- a state v (vehicles at stations 0 .. 3), and the cuts that say when some choice of stations serves them all.
def hl_t (x : Int) (b : Bool) : Int := if b = true then x else 0

def hl_w (v : Nat → Int) (R : Nat → Bool) : Int :=
  hl_t (v 0) (R 0) + hl_t (v 1) (R 1) + hl_t (v 2) (R 2) + hl_t (v 3) (R 3)

def hl_meet (B R : Nat → Bool) : Bool := (B 0 && R 0) || (B 1 && R 1) || (B 2 && R 2) || (B 3 && R 3)

def hl_up (v : Nat → Int) (s : Nat) (k : Int) : Nat → Int := fun i => if i = s then v i + k else v i

def hl_run (K : (Nat → Int) → Prop) : List (Bool × Nat × (Nat → Bool)) → (Nat → Int) → Prop
  | [], v => K v
  | (true, _, B) :: r, v => ∃ s, s < 4 ∧ B s = true ∧ hl_run K r (hl_up v s 1)
  | (false, _, B) :: r, v => ∃ s, s < 4 ∧ B s = true ∧ 1 ≤ v s ∧ hl_run K r (hl_up v s (-1))

def hl_cut : List (Bool × Nat × (Nat → Bool)) → (Nat → Bool) → Int → Prop
  | [], R, d => R = (fun _ => false) ∧ d = 0
  | (true, _, B) :: r, R, d => ∃ d0, hl_cut r R d0 ∧ d = d0 - hl_t 1 (hl_meet B R)
  | (false, _, B) :: r, R, d => hl_cut r R d ∨ ∃ R0, hl_cut r R0 (d - 1) ∧ R = (fun s => R0 s || B s)

-- every set of a bring holds a station
def hl_ok : List (Bool × Nat × (Nat → Bool)) → Prop
  | [] => True
  | (true, _, B) :: r => (∃ s, s < 4 ∧ B s = true) ∧ hl_ok r
  | (false, _, _) :: r => hl_ok r

theorem hl_lt4 {s : Nat} (h : s < 4) : s = 0 ∨ s = 1 ∨ s = 2 ∨ s = 3 := by omega

theorem hl_meet_of {B R : Nat → Bool} {s : Nat} (h : s < 4) (hb : B s = true) (hr : R s = true) : hl_meet B R = true := by
  rcases hl_lt4 h with h | h | h | h <;> subst h <;> simp [hl_meet, hb, hr]

theorem hl_of_meet {B R : Nat → Bool} (h : hl_meet B R = true) : ∃ s, s < 4 ∧ B s = true ∧ R s = true := by
  simp only [hl_meet, Bool.or_eq_true, Bool.and_eq_true] at h
  rcases h with ((h | h) | h) | h
  · exact ⟨0, by omega, h.1, h.2⟩
  · exact ⟨1, by omega, h.1, h.2⟩
  · exact ⟨2, by omega, h.1, h.2⟩
  · exact ⟨3, by omega, h.1, h.2⟩

theorem hl_t_bd (x : Int) (b : Bool) (h : 0 ≤ x) : 0 ≤ hl_t x b ∧ hl_t x b ≤ x := by
  cases b <;> simp [hl_t] <;> omega

theorem hl_w_up (v : Nat → Int) (s : Nat) (k : Int) (R : Nat → Bool) (h : s < 4) :
    hl_w (hl_up v s k) R = hl_w v R + hl_t k (R s) := by
  have key : ∀ i, hl_t (hl_up v s k i) (R i) = hl_t (v i) (R i) + (if i = s then hl_t k (R i) else 0) := by
    intro i
    by_cases e : i = s
    · simp only [hl_up, if_pos e]; cases R i <;> simp [hl_t]
    · simp only [hl_up, if_neg e]; omega
  simp only [hl_w, key]
  rcases hl_lt4 h with h | h | h | h <;> subst h <;> simp <;> omega

theorem hl_t_mod (x : Int) (r r' a b : Bool) (h : 0 ≤ x) (h1 : r = (a || b)) (h2 : r' = true → a = true ∧ b = true) :
    hl_t x r + hl_t x r' ≤ hl_t x a + hl_t x b := by
  subst h1
  cases a <;> cases b <;> cases r' <;> simp_all [hl_t] <;> omega

theorem hl_w_mod (v : Nat → Int) (R R' A B : Nat → Bool) (h : ∀ s, s < 4 → 0 ≤ v s) (h1 : ∀ s, R s = (A s || B s))
    (h2 : ∀ s, R' s = true → A s = true ∧ B s = true) : hl_w v R + hl_w v R' ≤ hl_w v A + hl_w v B := by
  have e0 := hl_t_mod (v 0) (R 0) (R' 0) (A 0) (B 0) (h 0 (by omega)) (h1 0) (h2 0)
  have e1 := hl_t_mod (v 1) (R 1) (R' 1) (A 1) (B 1) (h 1 (by omega)) (h1 1) (h2 1)
  have e2 := hl_t_mod (v 2) (R 2) (R' 2) (A 2) (B 2) (h 2 (by omega)) (h1 2) (h2 2)
  have e3 := hl_t_mod (v 3) (R 3) (R' 3) (A 3) (B 3) (h 3 (by omega)) (h1 3) (h2 3)
  simp only [hl_w]; omega

theorem hl_t_mono (x : Int) (a b : Bool) (h : 0 ≤ x) (h1 : a = true → b = true) : hl_t x a ≤ hl_t x b := by
  cases a <;> cases b <;> simp_all [hl_t]

theorem hl_w_mono (v : Nat → Int) (A B : Nat → Bool) (h : ∀ s, s < 4 → 0 ≤ v s) (h1 : ∀ s, s < 4 → A s = true → B s = true) :
    hl_w v A ≤ hl_w v B := by
  have e0 := hl_t_mono (v 0) (A 0) (B 0) (h 0 (by omega)) (h1 0 (by omega))
  have e1 := hl_t_mono (v 1) (A 1) (B 1) (h 1 (by omega)) (h1 1 (by omega))
  have e2 := hl_t_mono (v 2) (A 2) (B 2) (h 2 (by omega)) (h1 2 (by omega))
  have e3 := hl_t_mono (v 3) (A 3) (B 3) (h 3 (by omega)) (h1 3 (by omega))
  simp only [hl_w]; omega

-- the empty choice is a cut
theorem hl_cut_none : ∀ r : List (Bool × Nat × (Nat → Bool)), hl_cut r (fun _ => false) 0
  | [] => ⟨rfl, rfl⟩
  | (true, _, B) :: r => ⟨0, hl_cut_none r, by simp [hl_meet, hl_t]⟩
  | (false, _, _) :: r => Or.inl (hl_cut_none r)

-- two cuts have a union and a meet that together ask no less
theorem hl_sub : ∀ (r : List (Bool × Nat × (Nat → Bool))) (R1 R2 : Nat → Bool) (d1 d2 : Int), hl_cut r R1 d1 → hl_cut r R2 d2 →
    ∃ R d R' d', hl_cut r R d ∧ hl_cut r R' d' ∧ (∀ s, R s = (R1 s || R2 s)) ∧
      (∀ s, R' s = true → R1 s = true ∧ R2 s = true) ∧ d1 + d2 ≤ d + d'
  | [], R1, R2, d1, d2, ⟨h1, e1⟩, ⟨h2, e2⟩ => by
    subst h1; subst h2
    exact ⟨fun _ => false, 0, fun _ => false, 0, ⟨rfl, rfl⟩, ⟨rfl, rfl⟩, fun _ => rfl, fun s hs => by simp at hs, by omega⟩
  | (true, _, B) :: r, R1, R2, d1, d2, ⟨c1, h1, e1⟩, ⟨c2, h2, e2⟩ => by
    obtain ⟨R, d, R', d', a, b, c, e, f⟩ := hl_sub r R1 R2 c1 c2 h1 h2
    refine ⟨R, _, R', _, ⟨d, a, rfl⟩, ⟨d', b, rfl⟩, c, e, ?_⟩
    have k : hl_t 1 (hl_meet B R) + hl_t 1 (hl_meet B R') ≤ hl_t 1 (hl_meet B R1) + hl_t 1 (hl_meet B R2) := by
      have p : hl_meet B R = true → hl_meet B R1 = true ∨ hl_meet B R2 = true := by
        intro hm
        obtain ⟨s, h4, hb, hr⟩ := hl_of_meet hm
        rw [c s, Bool.or_eq_true] at hr
        rcases hr with hr | hr
        · exact Or.inl (hl_meet_of h4 hb hr)
        · exact Or.inr (hl_meet_of h4 hb hr)
      have q : hl_meet B R' = true → hl_meet B R1 = true ∧ hl_meet B R2 = true := by
        intro hm
        obtain ⟨s, h4, hb, hr⟩ := hl_of_meet hm
        exact ⟨hl_meet_of h4 hb (e s hr).1, hl_meet_of h4 hb (e s hr).2⟩
      revert p q
      cases hl_meet B R <;> cases hl_meet B R' <;> cases hl_meet B R1 <;> cases hl_meet B R2 <;> simp [hl_t]
    omega
  | (false, _, B) :: r, R1, R2, d1, d2, h1, h2 => by
    rcases h1 with h1 | ⟨P1, h1, e1⟩ <;> rcases h2 with h2 | ⟨P2, h2, e2⟩
    · obtain ⟨R, d, R', d', a, b, c, e, f⟩ := hl_sub r R1 R2 d1 d2 h1 h2
      exact ⟨R, d, R', d', Or.inl a, Or.inl b, c, e, f⟩
    · obtain ⟨R, d, R', d', a, b, c, e, f⟩ := hl_sub r R1 P2 d1 (d2 - 1) h1 h2
      subst e2
      refine ⟨fun s => R s || B s, d + 1, R', d', Or.inr ⟨R, by rw [Int.add_sub_cancel]; exact a, rfl⟩, Or.inl b, ?_, ?_, by omega⟩
      · intro s; simp only [c s, Bool.or_assoc]
      · intro s hs; simp only [Bool.or_eq_true]; exact ⟨(e s hs).1, Or.inl (e s hs).2⟩
    · obtain ⟨R, d, R', d', a, b, c, e, f⟩ := hl_sub r P1 R2 (d1 - 1) d2 h1 h2
      subst e1
      refine ⟨fun s => R s || B s, d + 1, R', d', Or.inr ⟨R, by rw [Int.add_sub_cancel]; exact a, rfl⟩, Or.inl b, ?_, ?_, by omega⟩
      · intro s; simp only [c s]; cases P1 s <;> cases R2 s <;> cases B s <;> rfl
      · intro s hs; simp only [Bool.or_eq_true]; exact ⟨Or.inl (e s hs).1, (e s hs).2⟩
    · obtain ⟨R, d, R', d', a, b, c, e, f⟩ := hl_sub r P1 P2 (d1 - 1) (d2 - 1) h1 h2
      subst e1; subst e2
      refine ⟨fun s => R s || B s, d + 1, fun s => R' s || B s, d' + 1, Or.inr ⟨R, by rw [Int.add_sub_cancel]; exact a, rfl⟩,
        Or.inr ⟨R', by rw [Int.add_sub_cancel]; exact b, rfl⟩, ?_, ?_, by omega⟩
      · intro s; simp only [c s]; cases P1 s <;> cases P2 s <;> cases B s <;> rfl
      · intro s hs
        simp only [Bool.or_eq_true] at hs ⊢
        rcases hs with hs | hs
        · exact ⟨Or.inl (e s hs).1, Or.inl (e s hs).2⟩
        · exact ⟨Or.inr hs, Or.inr hs⟩

theorem hl_up_nn (v : Nat → Int) (s : Nat) (k : Int) (h : ∀ i, i < 4 → 0 ≤ v i) (hk : 0 ≤ v s + k) : ∀ i, i < 4 → 0 ≤ hl_up v s k i := by
  intro i hi
  simp only [hl_up]
  split
  · next e => subst e; exact hk
  · exact h i hi

-- if each station of B has a cut that it does not ease, one cut is eased by none of them
theorem hl_br_k (r : List (Bool × Nat × (Nat → Bool))) (v : Nat → Int) (B : Nat → Bool) (hv : ∀ s, s < 4 → 0 ≤ v s)
    (h : ∀ R d, hl_cut r R d → d - hl_t 1 (hl_meet B R) ≤ hl_w v R)
    (hb : ∀ s, s < 4 → B s = true → ∃ R d, hl_cut r R d ∧ hl_w v R + hl_t 1 (R s) < d) (s0 : Nat) (hs0 : s0 < 4) (hB : B s0 = true) :
    ∀ k, k ≤ 4 → ∃ R d, hl_cut r R d ∧ hl_w v R + 1 ≤ d ∧ ∀ s, s < k → B s = true → R s = false
  | 0, _ => by
    obtain ⟨R, d, a, b⟩ := hb s0 hs0 hB
    have := (hl_t_bd 1 (R s0) (by omega)).1
    exact ⟨R, d, a, by omega, fun s hs => by omega⟩
  | k + 1, hk => by
    obtain ⟨R, d, a, b, c⟩ := hl_br_k r v B hv h hb s0 hs0 hB k (by omega)
    cases hbk : B k
    · refine ⟨R, d, a, b, fun s hs hbs => ?_⟩
      by_cases e : s = k
      · subst e; rw [hbk] at hbs; cases hbs
      · exact c s (by omega) hbs
    · obtain ⟨Q, q, a2, b2⟩ := hb k (by omega) hbk
      have t1 := (hl_t_bd 1 (hl_meet B Q) (by omega)).2
      have hq := h Q q a2
      have hQk : Q k = false := by
        cases e : Q k
        · rfl
        · rw [e] at b2
          have e1 : hl_t 1 true = 1 := rfl
          omega
      rw [hQk] at b2
      have e0 : hl_t 1 false = 0 := rfl
      obtain ⟨U, du, U', du', x, y, z, w, f⟩ := hl_sub r R Q d q a a2
      have hu := h U du x
      have t2 := (hl_t_bd 1 (hl_meet B U) (by omega)).2
      have m := hl_w_mod v U U' R Q hv z w
      refine ⟨U', du', y, by omega, fun s hs hbs => ?_⟩
      cases e : U' s
      · rfl
      · exfalso
        have ww := w s e
        by_cases ek : s = k
        · subst ek; rw [hQk] at ww; exact absurd ww.2 (by simp)
        · rw [c s (by omega) hbs] at ww; exact absurd ww.1 (by simp)

-- if each station of B that has a vehicle is in a tight cut, one tight cut has them all
theorem hl_fe_k (r : List (Bool × Nat × (Nat → Bool))) (v : Nat → Int) (B : Nat → Bool) (hv : ∀ s, s < 4 → 0 ≤ v s)
    (h : ∀ R d, hl_cut r R d → d ≤ hl_w v R)
    (hb : ∀ s, s < 4 → B s = true → 1 ≤ v s → ∃ R d, hl_cut r R d ∧ hl_w v R + hl_t (-1) (R s) < d) :
    ∀ k, k ≤ 4 → ∃ R d, hl_cut r R d ∧ hl_w v R ≤ d ∧ ∀ s, s < k → B s = true → 1 ≤ v s → R s = true
  | 0, _ => ⟨fun _ => false, 0, hl_cut_none r, by simp [hl_w, hl_t], fun s hs => by omega⟩
  | k + 1, hk => by
    obtain ⟨R, d, a, b, c⟩ := hl_fe_k r v B hv h hb k (by omega)
    by_cases hc : B k = true ∧ 1 ≤ v k
    · obtain ⟨Q, q, a2, b2⟩ := hb k (by omega) hc.1 hc.2
      have hq := h Q q a2
      have hQk : Q k = true := by
        cases e : Q k
        · rw [e] at b2
          have e1 : hl_t (-1) false = 0 := rfl
          omega
        · rfl
      rw [hQk] at b2
      have e0 : hl_t (-1) true = -1 := rfl
      obtain ⟨U, du, U', du', x, y, z, w, f⟩ := hl_sub r R Q d q a a2
      have hu := h U' du' y
      have m := hl_w_mod v U U' R Q hv z w
      refine ⟨U, du, x, by omega, fun s hs hbs hvs => ?_⟩
      rw [z s, Bool.or_eq_true]
      by_cases ek : s = k
      · subst ek; exact Or.inr hQk
      · exact Or.inl (c s (by omega) hbs hvs)
    · refine ⟨R, d, a, b, fun s hs hbs hvs => ?_⟩
      by_cases e : s = k
      · subst e; exact absurd ⟨hbs, hvs⟩ hc
      · exact c s (by omega) hbs hvs

theorem hl_t_add (x : Int) (a b : Bool) (h : 0 ≤ x) : hl_t x a ≤ hl_t x (a || b) := by
  cases a <;> cases b <;> simp [hl_t] <;> omega

theorem hl_w_one (v : Nat → Int) (R B : Nat → Bool) (s : Nat) (hv : ∀ i, i < 4 → 0 ≤ v i) (h : s < 4) (hb : B s = true) (hr : R s = false) :
    hl_w v R + v s ≤ hl_w v (fun i => R i || B i) := by
  have a0 := hl_t_add (v 0) (R 0) (B 0) (hv 0 (by omega))
  have a1 := hl_t_add (v 1) (R 1) (B 1) (hv 1 (by omega))
  have a2 := hl_t_add (v 2) (R 2) (B 2) (hv 2 (by omega))
  have a3 := hl_t_add (v 3) (R 3) (B 3) (hv 3 (by omega))
  have k : hl_t (v s) (R s) + v s ≤ hl_t (v s) (R s || B s) := by rw [hr, hb]; simp [hl_t]
  simp only [hl_w]
  rcases hl_lt4 h with h | h | h | h <;> subst h <;> omega

theorem hl_t_same (x : Int) (a b : Bool) (h : 0 ≤ x) (hc : b = true → 1 ≤ x → a = true) : hl_t x (a || b) ≤ hl_t x a := by
  cases a <;> cases b <;> simp_all [hl_t] <;> omega

theorem hl_hall : ∀ (r : List (Bool × Nat × (Nat → Bool))) (v : Nat → Int), hl_ok r → (∀ s, s < 4 → 0 ≤ v s) →
    (hl_run (fun _ => True) r v ↔ ∀ R d, hl_cut r R d → d ≤ hl_w v R)
  | [], v, _, hv => by
    constructor
    · intro _ R d ⟨e, f⟩; subst e; subst f; simp [hl_w, hl_t]
    · intro _; exact True.intro
  | (true, j, B) :: r, v, ok, hv => by
    obtain ⟨⟨s0, hs0, hB⟩, ok⟩ := ok
    have nn : ∀ s, s < 4 → ∀ i, i < 4 → 0 ≤ hl_up v s 1 i := fun s hs => hl_up_nn v s 1 hv (by have := hv s hs; omega)
    constructor
    · intro ⟨s, hs, hb, hr⟩ R d ⟨d0, hc, e⟩
      have k := (hl_hall r (hl_up v s 1) ok (nn s hs)).mp hr R d0 hc
      rw [hl_w_up v s 1 R hs] at k
      have m : hl_t 1 (R s) ≤ hl_t 1 (hl_meet B R) := hl_t_mono 1 _ _ (by omega) (fun x => hl_meet_of hs hb x)
      omega
    · intro h
      have h' : ∀ R d, hl_cut r R d → d - hl_t 1 (hl_meet B R) ≤ hl_w v R := fun R d hc => h R _ ⟨d, hc, rfl⟩
      apply Classical.byContradiction
      intro no
      have hb : ∀ s, s < 4 → B s = true → ∃ R d, hl_cut r R d ∧ hl_w v R + hl_t 1 (R s) < d := by
        intro s hs hbs
        apply Classical.byContradiction
        intro no2
        apply no
        refine ⟨s, hs, hbs, (hl_hall r (hl_up v s 1) ok (nn s hs)).mpr ?_⟩
        intro R d hc
        rw [hl_w_up v s 1 R hs]
        apply Classical.byContradiction
        intro no3
        exact no2 ⟨R, d, hc, by omega⟩
      obtain ⟨R, d, a, b, c⟩ := hl_br_k r v B hv h' hb s0 hs0 hB 4 (by omega)
      have m : hl_meet B R = false := by
        cases e : hl_meet B R
        · rfl
        · obtain ⟨s, h4, hbs, hr⟩ := hl_of_meet e
          rw [c s h4 hbs] at hr; cases hr
      have k := h' R d a
      rw [m] at k
      have e0 : hl_t 1 false = 0 := rfl
      omega
  | (false, j, B) :: r, v, ok, hv => by
    have nn : ∀ s, s < 4 → 1 ≤ v s → ∀ i, i < 4 → 0 ≤ hl_up v s (-1) i := fun s hs h1 => hl_up_nn v s (-1) hv (by omega)
    constructor
    · intro ⟨s, hs, hb, h1, hr⟩ R d hc
      have k := (hl_hall r (hl_up v s (-1)) ok (nn s hs h1)).mp hr
      rcases hc with hc | ⟨R0, hc, e⟩
      · have k1 := k R d hc
        rw [hl_w_up v s (-1) R hs] at k1
        have m : hl_t (-1) (R s) ≤ 0 := by cases R s <;> simp [hl_t]
        omega
      · have k1 := k R0 (d - 1) hc
        rw [hl_w_up v s (-1) R0 hs] at k1
        subst e
        cases e : R0 s
        · have m := hl_w_one v R0 B s hv hs hb e
          rw [e] at k1
          have e0 : hl_t (-1) false = 0 := rfl
          omega
        · have m : hl_w v R0 ≤ hl_w v (fun i => R0 i || B i) := hl_w_mono v _ _ hv (fun i _ x => by simp [x])
          rw [e] at k1
          have e0 : hl_t (-1) true = -1 := rfl
          omega
    · intro h
      have h1 : ∀ R d, hl_cut r R d → d ≤ hl_w v R := fun R d hc => h R d (Or.inl hc)
      have h2 : ∀ R d, hl_cut r R d → d + 1 ≤ hl_w v (fun s => R s || B s) := fun R d hc =>
        h _ (d + 1) (Or.inr ⟨R, by rw [Int.add_sub_cancel]; exact hc, rfl⟩)
      apply Classical.byContradiction
      intro no
      have hb : ∀ s, s < 4 → B s = true → 1 ≤ v s → ∃ R d, hl_cut r R d ∧ hl_w v R + hl_t (-1) (R s) < d := by
        intro s hs hbs hvs
        apply Classical.byContradiction
        intro no2
        apply no
        refine ⟨s, hs, hbs, hvs, (hl_hall r (hl_up v s (-1)) ok (nn s hs hvs)).mpr ?_⟩
        intro R d hc
        rw [hl_w_up v s (-1) R hs]
        apply Classical.byContradiction
        intro no3
        exact no2 ⟨R, d, hc, by omega⟩
      obtain ⟨R, d, a, b, c⟩ := hl_fe_k r v B hv h1 hb 4 (by omega)
      have k := h2 R d a
      have m0 := hl_t_same (v 0) (R 0) (B 0) (hv 0 (by omega)) (c 0 (by omega))
      have m1 := hl_t_same (v 1) (R 1) (B 1) (hv 1 (by omega)) (c 1 (by omega))
      have m2 := hl_t_same (v 2) (R 2) (B 2) (hv 2 (by omega)) (c 2 (by omega))
      have m3 := hl_t_same (v 3) (R 3) (B 3) (hv 3 (by omega)) (c 3 (by omega))
      simp only [hl_w] at k b
      omega
end
section
def hl_R (g : Nat → Bool) : List (Bool × Nat × (Nat → Bool)) → Nat → Bool
  | [], _ => false
  | (true, _, _) :: r, s => hl_R g r s
  | (false, j, B) :: r, s => hl_R g r s || (g j && B s)

def hl_d (g : Nat → Bool) : List (Bool × Nat × (Nat → Bool)) → Int
  | [] => 0
  | (true, _, B) :: r => hl_d g r - hl_t 1 (hl_meet B (hl_R g r))
  | (false, j, _) :: r => hl_d g r + hl_t 1 (g j)

theorem hl_cut_g (g : Nat → Bool) : ∀ r, hl_cut r (hl_R g r) (hl_d g r)
  | [] => ⟨rfl, rfl⟩
  | (true, _, B) :: r => ⟨hl_d g r, hl_cut_g g r, rfl⟩
  | (false, j, B) :: r => by
    cases e : g j
    · left
      have a : hl_R g ((false, j, B) :: r) = hl_R g r := by funext s; simp [hl_R, e]
      have b : hl_d g ((false, j, B) :: r) = hl_d g r := by simp [hl_d, e, hl_t]
      rw [a, b]; exact hl_cut_g g r
    · right
      refine ⟨hl_R g r, ?_, ?_⟩
      · have b : hl_d g ((false, j, B) :: r) - 1 = hl_d g r := by simp [hl_d, e, hl_t]
        rw [b]; exact hl_cut_g g r
      · funext s; simp [hl_R, e]

-- no fetch's tag stands twice
def hl_nd : List (Bool × Nat × (Nat → Bool)) → Prop
  | [] => True
  | (true, _, _) :: r => hl_nd r
  | (false, j, _) :: r => (∀ o, o ∈ r → o.1 = false → o.2.1 ≠ j) ∧ hl_nd r

theorem hl_g_congr (g h : Nat → Bool) : ∀ r : List (Bool × Nat × (Nat → Bool)), (∀ o, o ∈ r → o.1 = false → g o.2.1 = h o.2.1) →
    hl_R g r = hl_R h r ∧ hl_d g r = hl_d h r
  | [], _ => ⟨rfl, rfl⟩
  | (true, j, B) :: r, hh => by
    obtain ⟨a, b⟩ := hl_g_congr g h r (fun o ho => hh o (List.mem_cons_of_mem _ ho))
    refine ⟨?_, ?_⟩
    · funext s; simp only [hl_R, a]
    · simp only [hl_d, a, b]
  | (false, j, B) :: r, hh => by
    obtain ⟨a, b⟩ := hl_g_congr g h r (fun o ho => hh o (List.mem_cons_of_mem _ ho))
    have c : g j = h j := hh (false, j, B) (List.mem_cons_self ..) rfl
    refine ⟨?_, ?_⟩
    · funext s; simp only [hl_R, a, c]
    · simp only [hl_d, b, c]

theorem hl_cut_to : ∀ (r : List (Bool × Nat × (Nat → Bool))) (R : Nat → Bool) (d : Int), hl_nd r → hl_cut r R d →
    ∃ g, R = hl_R g r ∧ d = hl_d g r
  | [], R, d, _, ⟨a, b⟩ => ⟨fun _ => false, by subst a; rfl, b⟩
  | (true, j, B) :: r, R, d, nd, ⟨d0, a, b⟩ => by
    obtain ⟨g, e, f⟩ := hl_cut_to r R d0 nd a
    refine ⟨g, ?_, ?_⟩
    · rw [e]; rfl
    · rw [b, f, e]; rfl
  | (false, j, B) :: r, R, d, ⟨n1, nd⟩, hc => by
    rcases hc with hc | ⟨R0, hc, e0⟩
    · obtain ⟨g, e, f⟩ := hl_cut_to r R d nd hc
      have k := hl_g_congr g (fun i => if i = j then false else g i) r (fun o ho h1 => by simp [n1 o ho h1])
      refine ⟨fun i => if i = j then false else g i, ?_, ?_⟩
      · rw [e, k.1]; funext s; simp [hl_R]
      · rw [f, k.2]; simp [hl_d, hl_t]
    · obtain ⟨g, e, f⟩ := hl_cut_to r R0 (d - 1) nd hc
      have k := hl_g_congr g (fun i => if i = j then true else g i) r (fun o ho h1 => by simp [n1 o ho h1])
      refine ⟨fun i => if i = j then true else g i, ?_, ?_⟩
      · rw [e0, e, k.1]; funext s; simp [hl_R]
      · have e1 : hl_d (fun i => if i = j then true else g i) ((false, j, B) :: r)
            = hl_d (fun i => if i = j then true else g i) r + 1 := by simp [hl_d, hl_t]
        rw [e1, ← k.2]; omega

theorem hl_hall_g (r : List (Bool × Nat × (Nat → Bool))) (v : Nat → Int) (ok : hl_ok r) (nd : hl_nd r) (hv : ∀ s, s < 4 → 0 ≤ v s) :
    hl_run (fun _ => True) r v ↔ ∀ g, hl_d g r ≤ hl_w v (hl_R g r) := by
  rw [hl_hall r v ok hv]
  constructor
  · intro h g; exact h _ _ (hl_cut_g g r)
  · intro h R d hc
    obtain ⟨g, e, f⟩ := hl_cut_to r R d nd hc
    rw [e, f]; exact h g

-- sums and unions over the slots 0 .. 5, in the order in which the reference's loops go
def hl_sum (f : Nat → Int) : Nat → Int
  | 0 => 0
  | n + 1 => f (5 - n) + hl_sum f n

def hl_orr (f : Nat → Bool) : Nat → Bool
  | 0 => false
  | n + 1 => f (5 - n) || hl_orr f n

theorem hl_sum_congr (f h : Nat → Int) (e : ∀ j, j < 6 → f j = h j) : ∀ n, hl_sum f n = hl_sum h n
  | 0 => rfl
  | n + 1 => by simp only [hl_sum]; rw [e (5 - n) (by omega), hl_sum_congr f h e n]

theorem hl_orr_congr (f h : Nat → Bool) (e : ∀ j, j < 6 → f j = h j) : ∀ n, hl_orr f n = hl_orr h n
  | 0 => rfl
  | n + 1 => by simp only [hl_orr]; rw [e (5 - n) (by omega), hl_orr_congr f h e n]

theorem hl_sum_add (f h : Nat → Int) : ∀ n, hl_sum (fun j => f j + h j) n = hl_sum f n + hl_sum h n
  | 0 => rfl
  | n + 1 => by simp only [hl_sum]; rw [hl_sum_add f h n]; omega

theorem hl_orr_iff (f : Nat → Bool) : hl_orr f 6 = true ↔ ∃ j, j < 6 ∧ f j = true := by
  simp only [hl_orr, Bool.or_eq_true]
  constructor
  · intro h
    rcases h with h | h | h | h | h | h | h
    · exact ⟨0, by omega, h⟩
    · exact ⟨1, by omega, h⟩
    · exact ⟨2, by omega, h⟩
    · exact ⟨3, by omega, h⟩
    · exact ⟨4, by omega, h⟩
    · exact ⟨5, by omega, h⟩
    · cases h
  · intro ⟨j, hj, h⟩
    have : j = 0 ∨ j = 1 ∨ j = 2 ∨ j = 3 ∨ j = 4 ∨ j = 5 := by omega
    rcases this with e | e | e | e | e | e <;> subst e <;> simp [h]

-- the steps of a time: what comes back (slots 5 - n ..), what goes out, the further ones; tl: what comes behind
def hl_brs (on : Nat → Bool) (hm : Nat → Nat) (bk : Nat → Nat → Bool) (x : Nat) (tl : List (Bool × Nat × (Nat → Bool))) :
    Nat → List (Bool × Nat × (Nat → Bool))
  | 0 => tl
  | n + 1 => if on (5 - n) = true ∧ hm (5 - n) = x then (true, 5 - n, bk (5 - n)) :: hl_brs on hm bk x tl n else hl_brs on hm bk x tl n

def hl_fes (on : Nat → Bool) (ot : Nat → Nat) (pk : Nat → Nat → Bool) (x : Nat) (tl : List (Bool × Nat × (Nat → Bool))) :
    Nat → List (Bool × Nat × (Nat → Bool))
  | 0 => tl
  | n + 1 => if on (5 - n) = true ∧ ot (5 - n) = x then (false, 5 - n, pk (5 - n)) :: hl_fes on ot pk x tl n else hl_fes on ot pk x tl n

def hl_gon (P : Nat → Bool) (tl : List (Bool × Nat × (Nat → Bool))) : Nat → List (Bool × Nat × (Nat → Bool))
  | 0 => tl
  | n + 1 => (false, 6 + n, P) :: hl_gon P tl n

def hl_ext (tl : List (Bool × Nat × (Nat → Bool))) : Nat → List (Bool × Nat × (Nat → Bool))
  | 0 => tl
  | n + 1 => (true, 6, fun s => decide (s < 4)) :: hl_ext tl n

-- n times are still to come: 9 - n .. 8
def hl_ops (on : Nat → Bool) (pk : Nat → Nat → Bool) (ot : Nat → Nat) (bk : Nat → Nat → Bool) (hm : Nat → Nat)
    (N : Nat) (P : Nat → Bool) (T : Nat) : Nat → List (Bool × Nat × (Nat → Bool))
  | 0 => []
  | n + 1 => hl_brs on hm bk (8 - n) (hl_fes on ot pk (8 - n) (hl_gon P (hl_ops on pk ot bk hm N P T n) (if 8 - n = T then N else 0)) 6) 6

-- what a choice reaches and asks, step by step
theorem hl_R_brs (g on : Nat → Bool) (hm : Nat → Nat) (bk : Nat → Nat → Bool) (x : Nat) (tl : List (Bool × Nat × (Nat → Bool))) :
    ∀ n, hl_R g (hl_brs on hm bk x tl n) = hl_R g tl
  | 0 => rfl
  | n + 1 => by
    have ih := hl_R_brs g on hm bk x tl n
    simp only [hl_brs]
    split
    · funext s; simp only [hl_R, ih]
    · exact ih

theorem hl_d_brs (g on : Nat → Bool) (hm : Nat → Nat) (bk : Nat → Nat → Bool) (x : Nat) (tl : List (Bool × Nat × (Nat → Bool))) :
    ∀ n, hl_d g (hl_brs on hm bk x tl n) = hl_d g tl -
      hl_sum (fun j => hl_t 1 (on j && decide (hm j = x) && hl_meet (bk j) (hl_R g tl))) n
  | 0 => by simp [hl_brs, hl_sum]
  | n + 1 => by
    have ih := hl_d_brs g on hm bk x tl n
    simp only [hl_brs, hl_sum]
    split
    · next c =>
      simp only [hl_d, hl_R_brs, ih, c.1, c.2, decide_true, Bool.true_and]
      omega
    · next c =>
      have e : (on (5 - n) && decide (hm (5 - n) = x)) = false := by
        cases a : on (5 - n)
        · rfl
        · have : ¬ hm (5 - n) = x := fun z => c ⟨a, z⟩
          simp [this]
      rw [ih, e]; simp [hl_t]

theorem hl_R_fes (g on : Nat → Bool) (ot : Nat → Nat) (pk : Nat → Nat → Bool) (x : Nat) (tl : List (Bool × Nat × (Nat → Bool))) (s : Nat) :
    ∀ n, hl_R g (hl_fes on ot pk x tl n) s = (hl_R g tl s || hl_orr (fun j => on j && decide (ot j = x) && g j && pk j s) n)
  | 0 => by simp [hl_fes, hl_orr]
  | n + 1 => by
    have ih := hl_R_fes g on ot pk x tl s n
    simp only [hl_fes, hl_orr]
    split
    · next c =>
      simp only [hl_R, ih, c.1, c.2, decide_true, Bool.true_and]
      cases hl_R g tl s <;> cases (g (5 - n) && pk (5 - n) s) <;> simp
    · next c =>
      have e : (on (5 - n) && decide (ot (5 - n) = x)) = false := by
        cases a : on (5 - n)
        · rfl
        · have : ¬ ot (5 - n) = x := fun z => c ⟨a, z⟩
          simp [this]
      rw [ih, e]; simp

theorem hl_d_fes (g on : Nat → Bool) (ot : Nat → Nat) (pk : Nat → Nat → Bool) (x : Nat) (tl : List (Bool × Nat × (Nat → Bool))) :
    ∀ n, hl_d g (hl_fes on ot pk x tl n) = hl_d g tl + hl_sum (fun j => hl_t 1 (on j && decide (ot j = x) && g j)) n
  | 0 => by simp [hl_fes, hl_sum]
  | n + 1 => by
    have ih := hl_d_fes g on ot pk x tl n
    simp only [hl_fes, hl_sum]
    split
    · next c =>
      simp only [hl_d, ih, c.1, c.2, decide_true, Bool.true_and]
      omega
    · next c =>
      have e : (on (5 - n) && decide (ot (5 - n) = x)) = false := by
        cases a : on (5 - n)
        · rfl
        · have : ¬ ot (5 - n) = x := fun z => c ⟨a, z⟩
          simp [this]
      rw [ih, e]; simp [hl_t]

-- of the further ones: whether one is chosen, and how many are
def hl_any (g : Nat → Bool) : Nat → Bool
  | 0 => false
  | n + 1 => g (6 + n) || hl_any g n

def hl_cnt (g : Nat → Bool) : Nat → Int
  | 0 => 0
  | n + 1 => hl_t 1 (g (6 + n)) + hl_cnt g n

theorem hl_cnt_le (g : Nat → Bool) : ∀ n, 0 ≤ hl_cnt g n ∧ hl_cnt g n ≤ n ∧ (hl_any g n = false → hl_cnt g n = 0)
  | 0 => ⟨by simp [hl_cnt], by simp [hl_cnt], fun _ => rfl⟩
  | n + 1 => by
    obtain ⟨a, b, c⟩ := hl_cnt_le g n
    have t := hl_t_bd 1 (g (6 + n)) (by omega)
    simp only [hl_cnt, hl_any]
    refine ⟨by omega, by omega, fun h => ?_⟩
    rw [Bool.or_eq_false_iff] at h
    rw [c h.2, h.1]; rfl

theorem hl_R_gon (g P : Nat → Bool) (tl : List (Bool × Nat × (Nat → Bool))) (s : Nat) :
    ∀ n, hl_R g (hl_gon P tl n) s = (hl_R g tl s || (hl_any g n && P s))
  | 0 => by simp [hl_gon, hl_any]
  | n + 1 => by
    simp only [hl_gon, hl_any, hl_R, hl_R_gon g P tl s n]
    cases hl_R g tl s <;> cases hl_any g n <;> cases g (6 + n) <;> cases P s <;> rfl

theorem hl_d_gon (g P : Nat → Bool) (tl : List (Bool × Nat × (Nat → Bool))) :
    ∀ n, hl_d g (hl_gon P tl n) = hl_d g tl + hl_cnt g n
  | 0 => by simp [hl_gon, hl_cnt]
  | n + 1 => by
    simp only [hl_gon, hl_cnt, hl_d, hl_d_gon g P tl n]
    omega

theorem hl_R_ext (g : Nat → Bool) (tl : List (Bool × Nat × (Nat → Bool))) : ∀ n, hl_R g (hl_ext tl n) = hl_R g tl
  | 0 => rfl
  | n + 1 => by
    have ih := hl_R_ext g tl n
    funext s; simp only [hl_ext, hl_R, ih]

theorem hl_d_ext (g : Nat → Bool) (tl : List (Bool × Nat × (Nat → Bool))) :
    ∀ n : Nat, hl_d g (hl_ext tl n) = hl_d g tl - hl_t (n : Int) (hl_meet (fun s => decide (s < 4)) (hl_R g tl))
  | 0 => by cases hl_meet (fun s => decide (s < 4)) (hl_R g tl) <;> simp [hl_ext, hl_t]
  | n + 1 => by
    have ih := hl_d_ext g tl n
    simp only [hl_ext, hl_d, hl_R_ext, ih]
    cases hl_meet (fun s => decide (s < 4)) (hl_R g tl) <;> simp only [hl_t] <;> simp <;> omega

section
variable (on : Nat → Bool) (pk : Nat → Nat → Bool) (ot : Nat → Nat) (bk : Nat → Nat → Bool) (hm : Nat → Nat)
  (N : Nat) (P : Nat → Bool) (T : Nat) (g : Nat → Bool)

-- what is reached by the chosen ones from time y on
def hl_reach (y : Nat) (s : Nat) : Bool :=
  hl_orr (fun j => on j && g j && decide (y ≤ ot j) && pk j s) 6 || (decide (y ≤ T) && hl_any g N && P s)

theorem hl_R_ops (hot : ∀ j, j < 6 → on j = true → ot j ≤ 8) (hT : T ≤ 8) (s : Nat) :
    ∀ n, n ≤ 9 → hl_R g (hl_ops on pk ot bk hm N P T n) s = hl_reach on pk ot N P T g (9 - n) s
  | 0, _ => by
    have h : hl_reach on pk ot N P T g 9 s = false := by
      cases e : hl_reach on pk ot N P T g 9 s
      · rfl
      · simp only [hl_reach, Bool.or_eq_true, hl_orr_iff, Bool.and_eq_true, decide_eq_true_eq] at e
        rcases e with ⟨j, hj, ⟨⟨a, _⟩, b⟩, _⟩ | ⟨⟨a, _⟩, _⟩
        · have := hot j hj a; omega
        · omega
    simp only [hl_ops, hl_R]; exact h.symm
  | n + 1, hn => by
    have ih := hl_R_ops hot hT s n (by omega)
    simp only [hl_ops, hl_R_brs, hl_R_fes, hl_R_gon]
    rw [ih]
    have e9 : 9 - (n + 1) = 8 - n := by omega
    have e8 : 9 - n = 8 - n + 1 := by omega
    rw [e9, e8]
    generalize 8 - n = x
    rw [Bool.eq_iff_iff]
    simp only [hl_reach, Bool.or_eq_true, hl_orr_iff, Bool.and_eq_true, decide_eq_true_eq]
    constructor
    · rintro (((⟨j, hj, ⟨⟨a, b⟩, c⟩, d⟩ | ⟨⟨a, b⟩, c⟩) | ⟨a, b⟩) | ⟨j, hj, ⟨⟨a, b⟩, c⟩, d⟩)
      · exact Or.inl ⟨j, hj, ⟨⟨a, b⟩, by omega⟩, d⟩
      · exact Or.inr ⟨⟨by omega, b⟩, c⟩
      · by_cases e : x = T
        · rw [if_pos e] at a; exact Or.inr ⟨⟨by omega, a⟩, b⟩
        · rw [if_neg e] at a; cases a
      · exact Or.inl ⟨j, hj, ⟨⟨a, c⟩, by omega⟩, d⟩
    · rintro (⟨j, hj, ⟨⟨a, b⟩, c⟩, d⟩ | ⟨⟨a, b⟩, c⟩)
      · by_cases e : ot j = x
        · exact Or.inr ⟨j, hj, ⟨⟨a, e⟩, b⟩, d⟩
        · exact Or.inl (Or.inl (Or.inl ⟨j, hj, ⟨⟨a, b⟩, by omega⟩, d⟩))
      · by_cases e : x = T
        · exact Or.inl (Or.inr ⟨by rw [if_pos e]; exact b, c⟩)
        · exact Or.inl (Or.inl (Or.inr ⟨⟨by omega, b⟩, c⟩))

theorem hl_d_ops (hot : ∀ j, j < 6 → on j = true → ot j ≤ 8) (hhm : ∀ j, j < 6 → on j = true → hm j ≤ 8) (hT : T ≤ 8) :
    ∀ n, n ≤ 9 → hl_d g (hl_ops on pk ot bk hm N P T n) =
      hl_sum (fun j => hl_t 1 (on j && g j && decide (9 - n ≤ ot j))) 6 + hl_t (hl_cnt g N) (decide (9 - n ≤ T)) -
      hl_sum (fun j => hl_t 1 (on j && decide (9 - n ≤ hm j) && hl_meet (bk j) (hl_reach on pk ot N P T g (hm j)))) 6
  | 0, _ => by
    have a : hl_sum (fun j => hl_t 1 (on j && g j && decide (9 - 0 ≤ ot j))) 6 = hl_sum (fun _ => 0) 6 := by
      apply hl_sum_congr
      intro j hj
      cases e : on j
      · simp [hl_t]
      · have := hot j hj e
        have q : ¬ (9 - 0 ≤ ot j) := by omega
        simp [q, hl_t]
    have b : hl_sum (fun j => hl_t 1 (on j && decide (9 - 0 ≤ hm j) && hl_meet (bk j) (hl_reach on pk ot N P T g (hm j)))) 6 = hl_sum (fun _ => 0) 6 := by
      apply hl_sum_congr
      intro j hj
      cases e : on j
      · simp [hl_t]
      · have := hhm j hj e
        have q : ¬ (9 - 0 ≤ hm j) := by omega
        simp [q, hl_t]
    have c : ¬ (9 - 0 ≤ T) := by omega
    rw [a, b]; simp [hl_ops, hl_d, c, hl_t]
  | n + 1, hn => by
    have ih := hl_d_ops hot hhm hT n (by omega)
    have hR : hl_R g (hl_fes on ot pk (8 - n) (hl_gon P (hl_ops on pk ot bk hm N P T n) (if 8 - n = T then N else 0)) 6)
        = hl_reach on pk ot N P T g (8 - n) := by
      funext s
      have k := hl_R_ops on pk ot bk hm N P T g hot hT s (n + 1) hn
      simp only [hl_ops, hl_R_brs] at k
      have e9 : 9 - (n + 1) = 8 - n := by omega
      rw [e9] at k
      exact k
    simp only [hl_ops, hl_d_brs, hl_d_fes, hl_d_gon, hR]
    rw [ih]
    have e9 : 9 - (n + 1) = 8 - n := by omega
    have e8 : 9 - n = 8 - n + 1 := by omega
    rw [e9, e8]
    generalize 8 - n = x
    have a : hl_sum (fun j => hl_t 1 (on j && g j && decide (x ≤ ot j))) 6 =
        hl_sum (fun j => hl_t 1 (on j && g j && decide (x + 1 ≤ ot j))) 6 + hl_sum (fun j => hl_t 1 (on j && decide (ot j = x) && g j)) 6 := by
      rw [← hl_sum_add]
      apply hl_sum_congr
      intro j hj
      rcases Nat.lt_trichotomy (ot j) x with q | q | q
      · have q1 : ¬ (x ≤ ot j) := by omega
        have q2 : ¬ (x + 1 ≤ ot j) := by omega
        have q3 : ¬ (ot j = x) := by omega
        cases on j <;> cases g j <;> simp [q1, q2, q3, hl_t]
      · subst q
        have w : ¬ (ot j + 1 ≤ ot j) := by omega
        cases on j <;> cases g j <;> simp [w, hl_t]
      · have q1 : x ≤ ot j := by omega
        have q2 : x + 1 ≤ ot j := by omega
        have q3 : ¬ (ot j = x) := by omega
        cases on j <;> cases g j <;> simp [q1, q2, q3, hl_t]
    have b : hl_sum (fun j => hl_t 1 (on j && decide (x ≤ hm j) && hl_meet (bk j) (hl_reach on pk ot N P T g (hm j)))) 6 =
        hl_sum (fun j => hl_t 1 (on j && decide (x + 1 ≤ hm j) && hl_meet (bk j) (hl_reach on pk ot N P T g (hm j)))) 6 +
        hl_sum (fun j => hl_t 1 (on j && decide (hm j = x) && hl_meet (bk j) (hl_reach on pk ot N P T g x))) 6 := by
      rw [← hl_sum_add]
      apply hl_sum_congr
      intro j hj
      rcases Nat.lt_trichotomy (hm j) x with q | q | q
      · have q1 : ¬ (x ≤ hm j) := by omega
        have q2 : ¬ (x + 1 ≤ hm j) := by omega
        have q3 : ¬ (hm j = x) := by omega
        simp [q1, q2, q3, hl_t]
      · subst q
        have w : ¬ (hm j + 1 ≤ hm j) := by omega
        simp [w, hl_t]
      · have q1 : x ≤ hm j := by omega
        have q2 : x + 1 ≤ hm j := by omega
        have q3 : ¬ (hm j = x) := by omega
        simp [q1, q2, q3, hl_t]
    have c : hl_t (hl_cnt g N) (decide (x ≤ T)) = hl_t (hl_cnt g N) (decide (x + 1 ≤ T)) + hl_cnt g (if x = T then N else 0) := by
      rcases Nat.lt_trichotomy T x with q | q | q
      · have q1 : ¬ (x ≤ T) := by omega
        have q2 : ¬ (x + 1 ≤ T) := by omega
        have q3 : ¬ (x = T) := by omega
        simp [q1, q2, q3, hl_t, hl_cnt]
      · subst q
        have w : ¬ (T + 1 ≤ T) := by omega
        simp [w, hl_t]
      · have q1 : x ≤ T := by omega
        have q2 : x + 1 ≤ T := by omega
        have q3 : ¬ (x = T) := by omega
        simp [q1, q2, q3, hl_t, hl_cnt]
    rw [a, b, c]; omega
end
end
section
theorem hl_run_congr (K L : (Nat → Int) → Prop) (h : ∀ v, K v ↔ L v) : ∀ (r : List (Bool × Nat × (Nat → Bool))) (v : Nat → Int),
    hl_run K r v ↔ hl_run L r v
  | [], v => h v
  | (true, j, B) :: r, v => by
    simp only [hl_run]
    constructor
    · rintro ⟨s, a, b, c⟩; exact ⟨s, a, b, (hl_run_congr K L h r _).mp c⟩
    · rintro ⟨s, a, b, c⟩; exact ⟨s, a, b, (hl_run_congr K L h r _).mpr c⟩
  | (false, j, B) :: r, v => by
    simp only [hl_run]
    constructor
    · rintro ⟨s, a, b, d, c⟩; exact ⟨s, a, b, d, (hl_run_congr K L h r _).mp c⟩
    · rintro ⟨s, a, b, d, c⟩; exact ⟨s, a, b, d, (hl_run_congr K L h r _).mpr c⟩

theorem hl_run_brs (K : (Nat → Int) → Prop) (on : Nat → Bool) (hm : Nat → Nat) (bk : Nat → Nat → Bool) (x : Nat)
    (tl : List (Bool × Nat × (Nat → Bool))) : ∀ n v, hl_run K (hl_brs on hm bk x tl n) v ↔ hl_run (hl_run K tl) (hl_brs on hm bk x [] n) v
  | 0, v => Iff.rfl
  | n + 1, v => by
    simp only [hl_brs]
    split
    · simp only [hl_run]
      constructor
      · rintro ⟨s, a, b, c⟩; exact ⟨s, a, b, (hl_run_brs K on hm bk x tl n _).mp c⟩
      · rintro ⟨s, a, b, c⟩; exact ⟨s, a, b, (hl_run_brs K on hm bk x tl n _).mpr c⟩
    · exact hl_run_brs K on hm bk x tl n v

theorem hl_run_fes (K : (Nat → Int) → Prop) (on : Nat → Bool) (ot : Nat → Nat) (pk : Nat → Nat → Bool) (x : Nat)
    (tl : List (Bool × Nat × (Nat → Bool))) : ∀ n v, hl_run K (hl_fes on ot pk x tl n) v ↔ hl_run (hl_run K tl) (hl_fes on ot pk x [] n) v
  | 0, v => Iff.rfl
  | n + 1, v => by
    simp only [hl_fes]
    split
    · simp only [hl_run]
      constructor
      · rintro ⟨s, a, b, d, c⟩; exact ⟨s, a, b, d, (hl_run_fes K on ot pk x tl n _).mp c⟩
      · rintro ⟨s, a, b, d, c⟩; exact ⟨s, a, b, d, (hl_run_fes K on ot pk x tl n _).mpr c⟩
    · exact hl_run_fes K on ot pk x tl n v

theorem hl_up_comm (v : Nat → Int) (s i : Nat) (a b : Int) : hl_up (hl_up v s a) i b = hl_up (hl_up v i b) s a := by
  funext k
  simp only [hl_up]
  by_cases e : k = s <;> by_cases f : k = i <;> simp [e, f] <;> (try omega)
  -- k = s and k = i both: v k + a + b = v k + b + a

theorem hl_up_at (v : Nat → Int) (s i : Nat) (a : Int) : hl_up v s a i = v i + (if i = s then a else 0) := by
  simp only [hl_up]; split <;> omega

theorem hl_up_up (v : Nat → Int) (s : Nat) (a b : Int) : hl_up (hl_up v s a) s b = hl_up v s (a + b) := by
  funext k
  simp only [hl_up]
  by_cases e : k = s
  · simp only [e, if_true]; omega
  · simp only [if_neg e]

theorem hl_up_0 (v : Nat → Int) (s : Nat) : hl_up v s 0 = v := by
  funext k
  simp only [hl_up]
  split <;> omega

-- N further ones at s: N must be there, and go
theorem hl_run_gon (K : (Nat → Int) → Prop) (s : Nat) (hs : s < 4) (tl : List (Bool × Nat × (Nat → Bool))) :
    ∀ (n : Nat) (v : Nat → Int), (n = 0 → 0 ≤ v s) → (hl_run K (hl_gon (fun i => decide (i = s)) tl n) v ↔ (n : Int) ≤ v s ∧ hl_run K tl (hl_up v s (-(n : Int))))
  | 0, v, h0 => by
    simp only [hl_gon]
    have e : hl_up v s (-((0 : Nat) : Int)) = v := hl_up_0 v s
    rw [e]
    constructor
    · intro h; exact ⟨by have := h0 rfl; omega, h⟩
    · intro h; exact h.2
  | n + 1, v, h0 => by
    simp only [hl_gon, hl_run, decide_eq_true_eq]
    constructor
    · rintro ⟨i, hi, e, h1, hr⟩
      subst e
      have q : hl_up v i (-1) i = v i - 1 := by simp [hl_up]; omega
      have k := (hl_run_gon K i hs tl n (hl_up v i (-1)) (fun _ => by omega)).mp hr
      rw [hl_up_up, q] at k
      have e : (-1 : Int) + -(n : Int) = -((n + 1 : Nat) : Int) := by omega
      rw [e] at k
      exact ⟨by omega, k.2⟩
    · rintro ⟨h1, hr⟩
      have q : hl_up v s (-1) s = v s - 1 := by simp [hl_up]; omega
      refine ⟨s, hs, rfl, by omega, (hl_run_gon K s hs tl n (hl_up v s (-1)) (fun _ => by omega)).mpr ⟨by omega, ?_⟩⟩
      rw [hl_up_up]
      have e : (-1 : Int) + -(n : Int) = -((n + 1 : Nat) : Int) := by omega
      rw [e]; exact hr

-- a floor N at s is the same as N vehicles fewer at s: kept by fetches ..
theorem fl_fes (s : Nat) (N : Int) (hN : 0 ≤ N) (K L : (Nat → Int) → Prop) (h : ∀ v, K v ↔ N ≤ v s ∧ L (hl_up v s (-N)))
    (on : Nat → Bool) (ot : Nat → Nat) (pk : Nat → Nat → Bool) (x : Nat) :
    ∀ n v, hl_run K (hl_fes on ot pk x [] n) v ↔ N ≤ v s ∧ hl_run L (hl_fes on ot pk x [] n) (hl_up v s (-N))
  | 0, v => h v
  | n + 1, v => by
    have ih := fl_fes s N hN K L h on ot pk x n
    simp only [hl_fes]
    split
    · simp only [hl_run]
      constructor
      · rintro ⟨i, a, b, c, d⟩
        have k := (ih _).mp d
        rw [hl_up_comm] at k
        have q := hl_up_at v i s (-1)
        have q2 := hl_up_at v s i (-N)
        have k1 := k.1
        rw [q] at k1
        refine ⟨?_, i, a, b, ?_, k.2⟩
        · split at k1 <;> omega
        · rw [q2]
          by_cases e : i = s
          · subst e; simp only [if_true] at *; omega
          · rw [if_neg e]; omega
      · rintro ⟨h0, i, a, b, c, d⟩
        have q := hl_up_at v i s (-1)
        have q2 := hl_up_at v s i (-N)
        rw [q2] at c
        rw [hl_up_comm] at d
        refine ⟨i, a, b, ?_, (ih _).mpr ⟨?_, d⟩⟩
        · by_cases e : i = s
          · subst e; rw [if_pos rfl] at c; omega
          · rw [if_neg e] at c; omega
        · rw [q]
          by_cases e : i = s
          · subst e; simp only [if_true] at *; omega
          · rw [if_neg (fun z => e z.symm)]; omega
    · exact ih v

-- .. and by brings
theorem fl_brs (s : Nat) (N : Int) (K L : (Nat → Int) → Prop) (h : ∀ v, N ≤ v s → (K v ↔ L (hl_up v s (-N))))
    (on : Nat → Bool) (hm : Nat → Nat) (bk : Nat → Nat → Bool) (x : Nat) :
    ∀ n v, N ≤ v s → (hl_run K (hl_brs on hm bk x [] n) v ↔ hl_run L (hl_brs on hm bk x [] n) (hl_up v s (-N)))
  | 0, v, hv => h v hv
  | n + 1, v, hv => by
    have ih := fl_brs s N K L h on hm bk x n
    simp only [hl_brs]
    split
    · simp only [hl_run]
      have nn : ∀ i, N ≤ hl_up v i 1 s := by
        intro i; rw [hl_up_at]; split <;> omega
      constructor
      · rintro ⟨i, a, b, d⟩
        have k := (ih _ (nn i)).mp d
        rw [hl_up_comm] at k
        exact ⟨i, a, b, k⟩
      · rintro ⟨i, a, b, d⟩
        rw [hl_up_comm] at d
        exact ⟨i, a, b, (ih _ (nn i)).mpr d⟩
    · exact ih v hv

theorem hl_run_nil (K : (Nat → Int) → Prop) : hl_run K [] = K := by funext v; rfl

theorem hl_run_gns (K : (Nat → Int) → Prop) (P : Nat → Bool) (tl : List (Bool × Nat × (Nat → Bool))) :
    ∀ n v, hl_run K (hl_gon P tl n) v ↔ hl_run (hl_run K tl) (hl_gon P [] n) v
  | 0, v => Iff.rfl
  | n + 1, v => by
    simp only [hl_gon, hl_run]
    constructor
    · rintro ⟨s, a, b, d, c⟩; exact ⟨s, a, b, d, (hl_run_gns K P tl n _).mp c⟩
    · rintro ⟨s, a, b, d, c⟩; exact ⟨s, a, b, d, (hl_run_gns K P tl n _).mpr c⟩

-- the times 9 - n .. 8 as the reference goes through them: what comes back, what goes out, M further ones of P at T, the floor N at s from F on
def fl_go (on : Nat → Bool) (pk : Nat → Nat → Bool) (ot : Nat → Nat) (bk : Nat → Nat → Bool) (hm : Nat → Nat) (M : Nat) (P : Nat → Bool) (T : Nat)
    (s : Nat) (N : Int) (F : Nat) : Nat → (Nat → Int) → Prop
  | 0, _ => True
  | n + 1, v => hl_run (hl_run (hl_run (fun z => (F ≤ 8 - n → N ≤ z s) ∧ fl_go on pk ot bk hm M P T s N F n z) (hl_gon P [] (if 8 - n = T then M else 0)))
      (hl_fes on ot pk (8 - n) [] 6)) (hl_brs on hm bk (8 - n) [] 6) v

section
variable (on : Nat → Bool) (pk : Nat → Nat → Bool) (ot : Nat → Nat) (bk : Nat → Nat → Bool) (hm : Nat → Nat)

-- a floor of N >= 1 at s from time F on asks what N further ones at s at time F ask
theorem fl_eq (P : Nat → Bool) (T : Nat) (s : Nat) (hs : s < 4) (N : Nat) (hN : 1 ≤ N) (F : Nat) (hF : F ≤ 8) : ∀ n, n ≤ 9 →
    (F < 9 - n → ∀ v, (N : Int) ≤ v s → (fl_go on pk ot bk hm 0 P T s N F n v ↔
      hl_run (fun _ => True) (hl_ops on pk ot bk hm N (fun i => decide (i = s)) F n) (hl_up v s (-(N : Int))))) ∧
    (9 - n ≤ F → ∀ v, fl_go on pk ot bk hm 0 P T s N F n v ↔ hl_run (fun _ => True) (hl_ops on pk ot bk hm N (fun i => decide (i = s)) F n) v)
  | 0, _ => ⟨fun _ _ _ => Iff.rfl, fun h => by omega⟩
  | n + 1, hn => by
    obtain ⟨ia, ib⟩ := fl_eq P T s hs N hN F hF n (by omega)
    refine ⟨fun h v hv => ?_, fun h v => ?_⟩
    · have e : ¬ (8 - n = F) := by omega
      simp only [fl_go, hl_ops, ite_self, if_neg e, hl_gon, hl_run_nil]
      rw [hl_run_brs (fun _ => True)]
      refine fl_brs s N _ _ ?_ on hm bk (8 - n) 6 v hv
      intro w hw
      rw [hl_run_fes (fun _ => True)]
      have k := fl_fes s N (by omega) (fun z => (F ≤ 8 - n → (N : Int) ≤ z s) ∧ fl_go on pk ot bk hm 0 P T s N F n z)
        (hl_run (fun _ => True) (hl_ops on pk ot bk hm N (fun i => decide (i = s)) F n))
        (fun z => ⟨fun q => ⟨q.1 (by omega), (ia (by omega) z (q.1 (by omega))).mp q.2⟩,
          fun q => ⟨fun _ => q.1, (ia (by omega) z q.1).mpr q.2⟩⟩) on ot pk (8 - n) 6 w
      rw [k]
      exact ⟨fun q => q.2, fun q => ⟨hw, q⟩⟩
    · simp only [fl_go, hl_ops, ite_self, hl_run_nil]
      rw [hl_run_brs (fun _ => True)]
      refine hl_run_congr _ _ (fun w => ?_) _ v
      rw [hl_run_fes (fun _ => True)]
      refine hl_run_congr _ _ (fun z => ?_) _ w
      by_cases e : 8 - n = F
      · rw [if_pos e, hl_run_gon (fun _ => True) s hs _ N z (fun q => by omega)]
        simp only [hl_gon, hl_run_nil]
        constructor
        · intro q; exact ⟨q.1 (by omega), (ia (by omega) z (q.1 (by omega))).mp q.2⟩
        · intro q; exact ⟨fun _ => q.1, (ia (by omega) z q.1).mpr q.2⟩
      · rw [if_neg e]
        simp only [hl_gon, hl_run_nil]
        constructor
        · intro q; exact (ib (by omega) z).mp q.2
        · intro q; exact ⟨fun q2 => by omega, (ib (by omega) z).mpr q⟩

-- without a floor (F = 9) it is the run itself
theorem fl_plain (M : Nat) (P : Nat → Bool) (T : Nat) (s : Nat) (N : Int) : ∀ n, n ≤ 9 → ∀ v, fl_go on pk ot bk hm M P T s N 9 n v ↔
    hl_run (fun _ => True) (hl_ops on pk ot bk hm M P T n) v
  | 0, _, v => Iff.rfl
  | n + 1, hn, v => by
    have ih := fl_plain M P T s N n (by omega)
    simp only [fl_go, hl_ops]
    rw [hl_run_brs (fun _ => True)]
    refine hl_run_congr _ _ (fun w => ?_) _ v
    rw [hl_run_fes (fun _ => True)]
    refine hl_run_congr _ _ (fun z => ?_) _ w
    rw [hl_run_gns (fun _ => True)]
    refine hl_run_congr _ _ (fun y => ?_) _ z
    constructor
    · intro q; exact (ih y).mp q.2
    · intro q; exact ⟨fun q2 => by omega, (ih y).mpr q⟩

-- the further vehicles first
def fl_ext (K : (Nat → Int) → Prop) : Nat → (Nat → Int) → Prop
  | 0, v => K v
  | n + 1, v => ∃ s, s < 4 ∧ decide (s < 4) = true ∧ fl_ext K n (hl_up v s 1)

theorem fl_ext_run (tl : List (Bool × Nat × (Nat → Bool))) (K : (Nat → Int) → Prop) (h : ∀ v, K v ↔ hl_run (fun _ => True) tl v) :
    ∀ n v, fl_ext K n v ↔ hl_run (fun _ => True) (hl_ext tl n) v
  | 0, v => h v
  | n + 1, v => by
    simp only [fl_ext, hl_ext, hl_run]
    constructor
    · rintro ⟨s, a, b, c⟩; exact ⟨s, a, b, (fl_ext_run tl K h n _).mp c⟩
    · rintro ⟨s, a, b, c⟩; exact ⟨s, a, b, (fl_ext_run tl K h n _).mpr c⟩
end

-- kind and tag together stand once
def hl_n2 : List (Bool × Nat × (Nat → Bool)) → Prop
  | [] => True
  | o :: r => (∀ p, p ∈ r → p.1 = o.1 → p.2.1 ≠ o.2.1) ∧ hl_n2 r

theorem hl_n2_nd : ∀ r, hl_n2 r → hl_nd r
  | [], _ => True.intro
  | (true, _, _) :: r, h => hl_n2_nd r h.2
  | (false, _, _) :: r, h => ⟨fun o ho e => h.1 o ho e, hl_n2_nd r h.2⟩

theorem hl_nd_ext (tl : List (Bool × Nat × (Nat → Bool))) (h : hl_nd tl) : ∀ n, hl_nd (hl_ext tl n)
  | 0 => h
  | n + 1 => hl_nd_ext tl h n

theorem hl_ok_ext (tl : List (Bool × Nat × (Nat → Bool))) (h : hl_ok tl) : ∀ n, hl_ok (hl_ext tl n)
  | 0 => h
  | n + 1 => ⟨⟨0, by omega, by decide⟩, hl_ok_ext tl h n⟩

theorem hl_mem_brs (on : Nat → Bool) (hm : Nat → Nat) (bk : Nat → Nat → Bool) (x : Nat) (tl : List (Bool × Nat × (Nat → Bool)))
    (o : Bool × Nat × (Nat → Bool)) : ∀ n, o ∈ hl_brs on hm bk x tl n → (∃ m, m < n ∧ o = (true, 5 - m, bk (5 - m)) ∧ on (5 - m) = true ∧ hm (5 - m) = x) ∨ o ∈ tl
  | 0, h => Or.inr h
  | n + 1, h => by
    simp only [hl_brs] at h
    split at h
    · next c =>
      rcases List.mem_cons.mp h with h | h
      · exact Or.inl ⟨n, by omega, h, c.1, c.2⟩
      · rcases hl_mem_brs on hm bk x tl o n h with ⟨m, a, b⟩ | h
        · exact Or.inl ⟨m, by omega, b⟩
        · exact Or.inr h
    · rcases hl_mem_brs on hm bk x tl o n h with ⟨m, a, b⟩ | h
      · exact Or.inl ⟨m, by omega, b⟩
      · exact Or.inr h

theorem hl_mem_fes (on : Nat → Bool) (ot : Nat → Nat) (pk : Nat → Nat → Bool) (x : Nat) (tl : List (Bool × Nat × (Nat → Bool)))
    (o : Bool × Nat × (Nat → Bool)) : ∀ n, o ∈ hl_fes on ot pk x tl n → (∃ m, m < n ∧ o = (false, 5 - m, pk (5 - m)) ∧ on (5 - m) = true ∧ ot (5 - m) = x) ∨ o ∈ tl
  | 0, h => Or.inr h
  | n + 1, h => by
    simp only [hl_fes] at h
    split at h
    · next c =>
      rcases List.mem_cons.mp h with h | h
      · exact Or.inl ⟨n, by omega, h, c.1, c.2⟩
      · rcases hl_mem_fes on ot pk x tl o n h with ⟨m, a, b⟩ | h
        · exact Or.inl ⟨m, by omega, b⟩
        · exact Or.inr h
    · rcases hl_mem_fes on ot pk x tl o n h with ⟨m, a, b⟩ | h
      · exact Or.inl ⟨m, by omega, b⟩
      · exact Or.inr h

theorem hl_mem_gon (P : Nat → Bool) (tl : List (Bool × Nat × (Nat → Bool))) (o : Bool × Nat × (Nat → Bool)) :
    ∀ n, o ∈ hl_gon P tl n → (∃ m, m < n ∧ o = (false, 6 + m, P)) ∨ o ∈ tl
  | 0, h => Or.inr h
  | n + 1, h => by
    rcases List.mem_cons.mp h with h | h
    · exact Or.inl ⟨n, by omega, h⟩
    · rcases hl_mem_gon P tl o n h with ⟨m, a, b⟩ | h
      · exact Or.inl ⟨m, by omega, b⟩
      · exact Or.inr h

section
variable (on : Nat → Bool) (pk : Nat → Nat → Bool) (ot : Nat → Nat) (bk : Nat → Nat → Bool) (hm : Nat → Nat)
  (N : Nat) (P : Nat → Bool) (T : Nat)

-- where a step of times 9 - n .. 8 comes from
theorem hl_mem_ops (o : Bool × Nat × (Nat → Bool)) : ∀ n, n ≤ 9 → o ∈ hl_ops on pk ot bk hm N P T n →
    (∃ j, j < 6 ∧ on j = true ∧ o = (true, j, bk j) ∧ 9 - n ≤ hm j) ∨ (∃ j, j < 6 ∧ on j = true ∧ o = (false, j, pk j) ∧ 9 - n ≤ ot j) ∨
    (∃ m, o = (false, 6 + m, P) ∧ 9 - n ≤ T)
  | 0, _, h => by simp [hl_ops] at h
  | n + 1, hn, h => by
    simp only [hl_ops] at h
    rcases hl_mem_brs _ _ _ _ _ _ _ h with ⟨m, a, b, c, d⟩ | h
    · exact Or.inl ⟨5 - m, by omega, c, b, by omega⟩
    · rcases hl_mem_fes _ _ _ _ _ _ _ h with ⟨m, a, b, c, d⟩ | h
      · exact Or.inr (Or.inl ⟨5 - m, by omega, c, b, by omega⟩)
      · rcases hl_mem_gon _ _ _ _ h with ⟨m, a, b⟩ | h
        · refine Or.inr (Or.inr ⟨m, b, ?_⟩)
          by_cases e : 8 - n = T
          · omega
          · rw [if_neg e] at a; omega
        · rcases hl_mem_ops o n (by omega) h with ⟨j, a, b, c, d⟩ | ⟨j, a, b, c, d⟩ | ⟨m, a, b⟩
          · exact Or.inl ⟨j, a, b, c, by omega⟩
          · exact Or.inr (Or.inl ⟨j, a, b, c, by omega⟩)
          · exact Or.inr (Or.inr ⟨m, a, by omega⟩)

theorem hl_ok_ops (hbk : ∀ j, j < 6 → on j = true → ∃ s, s < 4 ∧ bk j s = true) : ∀ n, hl_ok (hl_ops on pk ot bk hm N P T n)
  | 0 => True.intro
  | n + 1 => by
    have ih := hl_ok_ops hbk n
    simp only [hl_ops]
    have g1 : ∀ k, hl_ok (hl_gon P (hl_ops on pk ot bk hm N P T n) k) := by
      intro k
      induction k with
      | zero => exact ih
      | succ k ihk => exact ihk
    have g2 : ∀ tl, hl_ok tl → ∀ k, hl_ok (hl_fes on ot pk (8 - n) tl k) := by
      intro tl h k
      induction k with
      | zero => exact h
      | succ k ihk =>
        simp only [hl_fes]
        split
        · exact ihk
        · exact ihk
    have g3 : ∀ tl, hl_ok tl → ∀ k, hl_ok (hl_brs on hm bk (8 - n) tl k) := by
      intro tl h k
      induction k with
      | zero => exact h
      | succ k ihk =>
        simp only [hl_brs]
        split
        · next c => exact ⟨hbk (5 - k) (by omega) c.1, ihk⟩
        · exact ihk
    exact g3 _ (g2 _ (g1 _) _) _

theorem hl_n2_ops : ∀ n, n ≤ 9 → hl_n2 (hl_ops on pk ot bk hm N P T n)
  | 0, _ => True.intro
  | n + 1, hn => by
    have ih := hl_n2_ops n (by omega)
    have mo := fun o => hl_mem_ops on pk ot bk hm N P T o n (by omega)
    simp only [hl_ops]
    have g1 : ∀ k, (8 - n = T ∨ k = 0) → hl_n2 (hl_gon P (hl_ops on pk ot bk hm N P T n) k) := by
      intro k hk
      induction k with
      | zero => exact ih
      | succ k ihk =>
        refine ⟨fun p hp e1 e2 => ?_, ihk (by omega)⟩
        simp only at e1 e2
        rcases hl_mem_gon _ _ _ _ hp with ⟨m, a, b⟩ | h
        · rw [b] at e2; simp only at e2; omega
        · rcases mo p h with ⟨j, a, b, c, d⟩ | ⟨j, a, b, c, d⟩ | ⟨m, a, b⟩
          · rw [c] at e1; cases e1
          · rw [c] at e2; simp only at e2; omega
          · omega
    have g2 : ∀ k, k ≤ 6 → hl_n2 (hl_fes on ot pk (8 - n) (hl_gon P (hl_ops on pk ot bk hm N P T n) (if 8 - n = T then N else 0)) k) := by
      intro k hk
      induction k with
      | zero => exact g1 _ (by by_cases e : 8 - n = T <;> simp [e])
      | succ k ihk =>
        simp only [hl_fes]
        split
        · next c =>
          refine ⟨fun p hp e1 e2 => ?_, ihk (by omega)⟩
          simp only at e1 e2
          rcases hl_mem_fes _ _ _ _ _ _ _ hp with ⟨m, a, b, _⟩ | h
          · rw [b] at e2; simp only at e2; omega
          · rcases hl_mem_gon _ _ _ _ h with ⟨m, a, b⟩ | h
            · rw [b] at e2; simp only at e2; omega
            · rcases mo p h with ⟨j, a, b, c', d⟩ | ⟨j, a, b, c', d⟩ | ⟨m, a, b⟩
              · rw [c'] at e1; cases e1
              · rw [c'] at e2; simp only at e2; subst e2; omega
              · rw [a] at e2; simp only at e2; omega
        · exact ihk (by omega)
    have g3 : ∀ k, k ≤ 6 → hl_n2 (hl_brs on hm bk (8 - n) (hl_fes on ot pk (8 - n) (hl_gon P (hl_ops on pk ot bk hm N P T n) (if 8 - n = T then N else 0)) 6) k) := by
      intro k hk
      induction k with
      | zero => exact g2 6 (by omega)
      | succ k ihk =>
        simp only [hl_brs]
        split
        · next c =>
          refine ⟨fun p hp e1 e2 => ?_, ihk (by omega)⟩
          simp only at e1 e2
          rcases hl_mem_brs _ _ _ _ _ _ _ hp with ⟨m, a, b, _⟩ | h
          · rw [b] at e2; simp only at e2; omega
          · rcases hl_mem_fes _ _ _ _ _ _ _ h with ⟨m, a, b, _⟩ | h
            · rw [b] at e1; cases e1
            · rcases hl_mem_gon _ _ _ _ h with ⟨m, a, b⟩ | h
              · rw [b] at e1; cases e1
              · rcases mo p h with ⟨j, a, b, c', d⟩ | ⟨j, a, b, c', d⟩ | ⟨m, a, b⟩
                · rw [c'] at e2; simp only at e2; subst e2; omega
                · rw [c'] at e1; cases e1
                · rw [a] at e1; cases e1
        · exact ihk (by omega)
    exact g3 6 (by omega)
end
end
section
def hl_ch (c : Bool → Nat → Nat) : List (Bool × Nat × (Nat → Bool)) → (Nat → Int) → Prop
  | [], _ => True
  | (true, j, B) :: r, v => c true j < 4 ∧ B (c true j) = true ∧ hl_ch c r (hl_up v (c true j) 1)
  | (false, j, B) :: r, v => c false j < 4 ∧ B (c false j) = true ∧ 1 ≤ v (c false j) ∧ hl_ch c r (hl_up v (c false j) (-1))

theorem hl_ch_run (c : Bool → Nat → Nat) : ∀ r v, hl_ch c r v → hl_run (fun _ => True) r v
  | [], _, _ => True.intro
  | (true, j, B) :: r, v, ⟨a, b, d⟩ => ⟨c true j, a, b, hl_ch_run c r _ d⟩
  | (false, j, B) :: r, v, ⟨a, b, e, d⟩ => ⟨c false j, a, b, e, hl_ch_run c r _ d⟩

theorem hl_ch_congr (c d : Bool → Nat → Nat) : ∀ (r : List (Bool × Nat × (Nat → Bool))) v, (∀ o, o ∈ r → c o.1 o.2.1 = d o.1 o.2.1) → hl_ch c r v → hl_ch d r v
  | [], _, _, _ => True.intro
  | (true, j, B) :: r, v, h, ⟨a, b, e⟩ => by
    have q : c true j = d true j := h (true, j, B) (List.mem_cons_self ..)
    rw [q] at a b e
    exact ⟨a, b, hl_ch_congr c d r _ (fun o ho => h o (List.mem_cons_of_mem _ ho)) e⟩
  | (false, j, B) :: r, v, h, ⟨a, b, f, e⟩ => by
    have q : c false j = d false j := h (false, j, B) (List.mem_cons_self ..)
    rw [q] at a b e f
    exact ⟨a, b, f, hl_ch_congr c d r _ (fun o ho => h o (List.mem_cons_of_mem _ ho)) e⟩

theorem hl_run_ch : ∀ (r : List (Bool × Nat × (Nat → Bool))) v, hl_n2 r → hl_run (fun _ => True) r v → ∃ c, hl_ch c r v
  | [], _, _, _ => ⟨fun _ _ => 0, True.intro⟩
  | (true, j, B) :: r, v, ⟨n1, n2⟩, ⟨s, a, b, h⟩ => by
    obtain ⟨c, hc⟩ := hl_run_ch r _ n2 h
    refine ⟨fun k i => if k = true ∧ i = j then s else c k i, ?_⟩
    have e : (if (true : Bool) = true ∧ j = j then s else c true j) = s := by simp
    simp only [hl_ch, and_self, if_true]
    refine ⟨a, b, hl_ch_congr c _ r _ (fun o ho => ?_) hc⟩
    have q : ¬ (o.1 = true ∧ o.2.1 = j) := fun z => n1 o ho z.1 z.2
    rw [if_neg q]
  | (false, j, B) :: r, v, ⟨n1, n2⟩, ⟨s, a, b, f, h⟩ => by
    obtain ⟨c, hc⟩ := hl_run_ch r _ n2 h
    refine ⟨fun k i => if k = false ∧ i = j then s else c k i, ?_⟩
    have e : (if (false : Bool) = false ∧ j = j then s else c false j) = s := by simp
    simp only [hl_ch, and_self, if_true]
    refine ⟨a, b, f, hl_ch_congr c _ r _ (fun o ho => ?_) hc⟩
    have q : ¬ (o.1 = false ∧ o.2.1 = j) := fun z => n1 o ho z.1 z.2
    rw [if_neg q]

theorem hl_ch_mem (c : Bool → Nat → Nat) : ∀ (r : List (Bool × Nat × (Nat → Bool))) v o, hl_ch c r v → o ∈ r → c o.1 o.2.1 < 4 ∧ o.2.2 (c o.1 o.2.1) = true
  | [], _, o, _, h => by simp at h
  | (true, j, B) :: r, v, o, ⟨a, b, d⟩, h => by
    rcases List.mem_cons.mp h with h | h
    · subst h; exact ⟨a, b⟩
    · exact hl_ch_mem c r _ o d h
  | (false, j, B) :: r, v, o, ⟨a, b, e, d⟩, h => by
    rcases List.mem_cons.mp h with h | h
    · subst h; exact ⟨a, b⟩
    · exact hl_ch_mem c r _ o d h

section
variable (c : Bool → Nat → Nat) (on : Nat → Bool) (pk qk : Nat → Nat → Bool) (ot : Nat → Nat) (bk ck : Nat → Nat → Bool) (hm : Nat → Nat)
  (N : Nat) (P : Nat → Bool) (T : Nat)

theorem hl_ch_brs (hb : ∀ j, j < 6 → on j = true → bk j (c true j) = true → ck j (c true j) = true) (x : Nat)
    (tl ul : List (Bool × Nat × (Nat → Bool))) (h : ∀ v, hl_ch c tl v → hl_ch c ul v) :
    ∀ n v, hl_ch c (hl_brs on hm bk x tl n) v → hl_ch c (hl_brs on hm ck x ul n) v
  | 0, v, hv => h v hv
  | n + 1, v, hv => by
    simp only [hl_brs] at hv ⊢
    split at hv
    · next q =>
      rw [if_pos q]
      obtain ⟨a, b, d⟩ := hv
      exact ⟨a, hb (5 - n) (by omega) q.1 b, hl_ch_brs hb x tl ul h n _ d⟩
    · next q =>
      rw [if_neg q]
      exact hl_ch_brs hb x tl ul h n v hv

theorem hl_ch_fes (hp : ∀ j, j < 6 → on j = true → pk j (c false j) = true → qk j (c false j) = true) (x : Nat)
    (tl ul : List (Bool × Nat × (Nat → Bool))) (h : ∀ v, hl_ch c tl v → hl_ch c ul v) :
    ∀ n v, hl_ch c (hl_fes on ot pk x tl n) v → hl_ch c (hl_fes on ot qk x ul n) v
  | 0, v, hv => h v hv
  | n + 1, v, hv => by
    simp only [hl_fes] at hv ⊢
    split at hv
    · next q =>
      rw [if_pos q]
      obtain ⟨a, b, e, d⟩ := hv
      exact ⟨a, hp (5 - n) (by omega) q.1 b, e, hl_ch_fes hp x tl ul h n _ d⟩
    · next q =>
      rw [if_neg q]
      exact hl_ch_fes hp x tl ul h n v hv

theorem hl_ch_gon (tl ul : List (Bool × Nat × (Nat → Bool))) (h : ∀ v, hl_ch c tl v → hl_ch c ul v) :
    ∀ n v, hl_ch c (hl_gon P tl n) v → hl_ch c (hl_gon P ul n) v
  | 0, v, hv => h v hv
  | n + 1, v, ⟨a, b, e, d⟩ => ⟨a, b, e, hl_ch_gon tl ul h n _ d⟩

theorem hl_ch_ops (hp : ∀ j, j < 6 → on j = true → pk j (c false j) = true → qk j (c false j) = true)
    (hb : ∀ j, j < 6 → on j = true → bk j (c true j) = true → ck j (c true j) = true) :
    ∀ n v, hl_ch c (hl_ops on pk ot bk hm N P T n) v → hl_ch c (hl_ops on qk ot ck hm N P T n) v
  | 0, _, _ => True.intro
  | n + 1, v, hv => by
    simp only [hl_ops] at hv ⊢
    exact hl_ch_brs c on bk ck hm hb _ _ _ (fun w => hl_ch_fes c on pk qk ot hp _ _ _
      (fun z => hl_ch_gon c P _ _ (fun y => hl_ch_ops hp hb n y) _ z) _ w) _ v hv

theorem hl_in_fes (j x : Nat) (hj : j < 6) (o1 : on j = true) (o2 : ot j = x) (tl : List (Bool × Nat × (Nat → Bool))) :
    ∀ n, 6 ≤ n + j → n ≤ 6 → (false, j, pk j) ∈ hl_fes on ot pk x tl n
  | 0, h, _ => by omega
  | n + 1, h, hn => by
    simp only [hl_fes]
    by_cases e : 5 - n = j
    · rw [e, if_pos ⟨o1, o2⟩]; exact List.mem_cons_self ..
    · have k := hl_in_fes j x hj o1 o2 tl n (by omega) (by omega)
      split
      · exact List.mem_cons_of_mem _ k
      · exact k

theorem hl_fes_tl (o : Bool × Nat × (Nat → Bool)) (x : Nat) (tl : List (Bool × Nat × (Nat → Bool))) (h : o ∈ tl) : ∀ n, o ∈ hl_fes on ot pk x tl n
  | 0 => h
  | n + 1 => by
    simp only [hl_fes]
    split
    · exact List.mem_cons_of_mem _ (hl_fes_tl o x tl h n)
    · exact hl_fes_tl o x tl h n

theorem hl_in_brs (j x : Nat) (hj : j < 6) (o1 : on j = true) (o2 : hm j = x) (tl : List (Bool × Nat × (Nat → Bool))) :
    ∀ n, 6 ≤ n + j → n ≤ 6 → (true, j, bk j) ∈ hl_brs on hm bk x tl n
  | 0, h, _ => by omega
  | n + 1, h, hn => by
    simp only [hl_brs]
    by_cases e : 5 - n = j
    · rw [e, if_pos ⟨o1, o2⟩]; exact List.mem_cons_self ..
    · have k := hl_in_brs j x hj o1 o2 tl n (by omega) (by omega)
      split
      · exact List.mem_cons_of_mem _ k
      · exact k

theorem hl_brs_tl (o : Bool × Nat × (Nat → Bool)) (x : Nat) (tl : List (Bool × Nat × (Nat → Bool))) (h : o ∈ tl) : ∀ n, o ∈ hl_brs on hm bk x tl n
  | 0 => h
  | n + 1 => by
    simp only [hl_brs]
    split
    · exact List.mem_cons_of_mem _ (hl_brs_tl o x tl h n)
    · exact hl_brs_tl o x tl h n

theorem hl_gon_tl (o : Bool × Nat × (Nat → Bool)) (tl : List (Bool × Nat × (Nat → Bool))) (h : o ∈ tl) : ∀ n, o ∈ hl_gon P tl n
  | 0 => h
  | n + 1 => List.mem_cons_of_mem _ (hl_gon_tl o tl h n)

theorem hl_in_ops (j : Nat) (hj : j < 6) (o1 : on j = true) (h1 : ot j ≤ 8) (h2 : hm j ≤ 8) : ∀ n, n ≤ 9 →
    (9 - n ≤ ot j → (false, j, pk j) ∈ hl_ops on pk ot bk hm N P T n) ∧ (9 - n ≤ hm j → (true, j, bk j) ∈ hl_ops on pk ot bk hm N P T n)
  | 0, _ => ⟨fun h => by omega, fun h => by omega⟩
  | n + 1, hn => by
    obtain ⟨ia, ib⟩ := hl_in_ops j hj o1 h1 h2 n (by omega)
    simp only [hl_ops]
    refine ⟨fun h => hl_brs_tl _ _ _ _ _ _ ?_ _, fun h => ?_⟩
    · by_cases e : ot j = 8 - n
      · exact hl_in_fes on pk ot j (8 - n) hj o1 e _ 6 (by omega) (by omega)
      · exact hl_fes_tl _ _ _ _ _ _ (hl_gon_tl _ _ _ (ia (by omega)) _) _
    · by_cases e : hm j = 8 - n
      · exact hl_in_brs on bk hm j (8 - n) hj o1 e _ 6 (by omega) (by omega)
      · exact hl_brs_tl _ _ _ _ _ _ (hl_fes_tl _ _ _ _ _ _ (hl_gon_tl _ _ _ (ib (by omega)) _) _) _
end

-- some station of slot i's pickup set can be held fast; so can one of its return set
theorem hl_nar_pk (on : Nat → Bool) (pk : Nat → Nat → Bool) (ot : Nat → Nat) (bk : Nat → Nat → Bool) (hm : Nat → Nat) (N : Nat) (P : Nat → Bool) (T : Nat)
    (v : Nat → Int) (i : Nat) (hi : i < 6) (o1 : on i = true) (h1 : ot i ≤ 8) (h2 : hm i ≤ 8) (h : hl_run (fun _ => True) (hl_ops on pk ot bk hm N P T 9) v) :
    ∃ s, s < 4 ∧ pk i s = true ∧ hl_run (fun _ => True) (hl_ops on (fun j => if j = i then (fun k => decide (k = s)) else pk j) ot bk hm N P T 9) v := by
  obtain ⟨c, hc⟩ := hl_run_ch _ v (hl_n2_ops on pk ot bk hm N P T 9 (by omega)) h
  have m := hl_ch_mem c _ v _ hc ((hl_in_ops on pk ot bk hm N P T i hi o1 h1 h2 9 (by omega)).1 (by omega))
  refine ⟨c false i, m.1, m.2, hl_ch_run c _ v (hl_ch_ops c on pk _ ot bk bk hm N P T (fun j hj oj hp => ?_) (fun j _ _ hb => hb) 9 v hc)⟩
  by_cases e : j = i
  · subst e; simp
  · simp only [if_neg e]; exact hp

theorem hl_nar_bk (on : Nat → Bool) (pk : Nat → Nat → Bool) (ot : Nat → Nat) (bk : Nat → Nat → Bool) (hm : Nat → Nat) (N : Nat) (P : Nat → Bool) (T : Nat)
    (v : Nat → Int) (i : Nat) (hi : i < 6) (o1 : on i = true) (h1 : ot i ≤ 8) (h2 : hm i ≤ 8) (h : hl_run (fun _ => True) (hl_ops on pk ot bk hm N P T 9) v) :
    ∃ s, s < 4 ∧ bk i s = true ∧ hl_run (fun _ => True) (hl_ops on pk ot (fun j => if j = i then (fun k => decide (k = s)) else bk j) hm N P T 9) v := by
  obtain ⟨c, hc⟩ := hl_run_ch _ v (hl_n2_ops on pk ot bk hm N P T 9 (by omega)) h
  have m := hl_ch_mem c _ v _ hc ((hl_in_ops on pk ot bk hm N P T i hi o1 h1 h2 9 (by omega)).2 (by omega))
  refine ⟨c true i, m.1, m.2, hl_ch_run c _ v (hl_ch_ops c on pk pk ot bk _ hm N P T (fun j _ _ hp => hp) (fun j hj oj hb => ?_) 9 v hc)⟩
  by_cases e : j = i
  · subst e; simp
  · simp only [if_neg e]; exact hb
end
section
section
variable (st : Nat → Int) (on : Nat → Bool) (pk : Nat → Nat → Bool) (ot : Nat → Nat) (bk : Nat → Nat → Bool) (hm : Nat → Nat)
  (P : Nat → Bool) (T : Nat) (g : Nat → Bool) (a : Bool)

-- what the chosen slots (and, where a, the further ones) reach from time y on
def hs_rc (y : Nat) (s : Nat) : Bool :=
  hl_orr (fun j => on j && g j && decide (y ≤ ot j) && pk j s) 6 || (decide (y ≤ T) && a && P s)

-- vehicles that serve them, less the size of the choice (the further ones not counted)
def hs_sl : Int :=
  hl_w st (hs_rc on pk ot P T g a 0) + hl_sum (fun j => hl_t 1 (on j && hl_meet (bk j) (hs_rc on pk ot P T g a (hm j)))) 6 -
    hl_sum (fun j => hl_t 1 (on j && g j)) 6
end

theorem hs_reach (on : Nat → Bool) (pk : Nat → Nat → Bool) (ot : Nat → Nat) (N : Nat) (P : Nat → Bool) (T : Nat) (g : Nat → Bool) (y : Nat) :
    hl_reach on pk ot N P T g y = hs_rc on pk ot P T g (hl_any g N) y := by
  funext s; rfl

section
variable (st : Nat → Int) (hst : ∀ s, s < 4 → 0 ≤ st s) (on : Nat → Bool) (pk : Nat → Nat → Bool) (ot : Nat → Nat) (bk : Nat → Nat → Bool) (hm : Nat → Nat)
  (P : Nat → Bool) (T : Nat) (hot : ∀ j, j < 6 → on j = true → ot j ≤ 8) (hhm : ∀ j, j < 6 → on j = true → hm j ≤ 8)
  (hbk : ∀ j, j < 6 → on j = true → ∃ s, s < 4 ∧ bk j s = true) (hT : T ≤ 8)

theorem hs_fits (N e : Nat) (hst : ∀ s, s < 4 → 0 ≤ st s) (hot : ∀ j, j < 6 → on j = true → ot j ≤ 8) (hhm : ∀ j, j < 6 → on j = true → hm j ≤ 8)
    (hbk : ∀ j, j < 6 → on j = true → ∃ s, s < 4 ∧ bk j s = true) (hT : T ≤ 8) :
    hl_run (fun _ => True) (hl_ext (hl_ops on pk ot bk hm N P T 9) e) st ↔
      ∀ g, hl_cnt g N - hl_t (e : Int) (hl_meet (fun s => decide (s < 4)) (hs_rc on pk ot P T g (hl_any g N) 0)) ≤
        hs_sl st on pk ot bk hm P T g (hl_any g N) := by
  rw [hl_hall_g _ st (hl_ok_ext _ (hl_ok_ops on pk ot bk hm N P T hbk 9) e)
    (hl_nd_ext _ (hl_n2_nd _ (hl_n2_ops on pk ot bk hm N P T 9 (by omega))) e) hst]
  have key : ∀ g, (hl_d g (hl_ext (hl_ops on pk ot bk hm N P T 9) e) ≤ hl_w st (hl_R g (hl_ext (hl_ops on pk ot bk hm N P T 9) e))) ↔
      hl_cnt g N - hl_t (e : Int) (hl_meet (fun s => decide (s < 4)) (hs_rc on pk ot P T g (hl_any g N) 0)) ≤
        hs_sl st on pk ot bk hm P T g (hl_any g N) := by
    intro g
    have r0 : hl_R g (hl_ops on pk ot bk hm N P T 9) = hs_rc on pk ot P T g (hl_any g N) 0 := by
      rw [← hs_reach]; funext s; exact hl_R_ops on pk ot bk hm N P T g hot hT s 9 (by omega)
    have d0 := hl_d_ops on pk ot bk hm N P T g hot hhm hT 9 (by omega)
    rw [hl_R_ext, hl_d_ext, r0, d0]
    simp only [hs_sl, hs_reach, Nat.sub_self, Nat.zero_le, decide_true, Bool.and_true]
    have e1 : hl_t (hl_cnt g N) true = hl_cnt g N := rfl
    rw [e1]
    constructor <;> intro q <;> omega
  constructor
  · intro h g; exact (key g).mp (h g)
  · intro h g; exact (key g).mpr (h g)

theorem hs_sl_congr_g (g g' : Nat → Bool) (a : Bool) (h : ∀ j, j < 6 → (on j && g j) = (on j && g' j)) :
    hs_sl st on pk ot bk hm P T g a = hs_sl st on pk ot bk hm P T g' a := by
  have r : ∀ y, hs_rc on pk ot P T g a y = hs_rc on pk ot P T g' a y := by
    intro y; funext s
    have o : hl_orr (fun j => on j && g j && decide (y ≤ ot j) && pk j s) 6 = hl_orr (fun j => on j && g' j && decide (y ≤ ot j) && pk j s) 6 :=
      hl_orr_congr _ _ (fun j hj => by rw [h j hj]) 6
    simp only [hs_rc, o]
  have s : hl_sum (fun j => hl_t 1 (on j && g j)) 6 = hl_sum (fun j => hl_t 1 (on j && g' j)) 6 :=
    hl_sum_congr _ _ (fun j hj => by rw [h j hj]) 6
  simp only [hs_sl, r, s]

theorem hs_plain (hst : ∀ s, s < 4 → 0 ≤ st s) (hot : ∀ j, j < 6 → on j = true → ot j ≤ 8) (hhm : ∀ j, j < 6 → on j = true → hm j ≤ 8)
    (hbk : ∀ j, j < 6 → on j = true → ∃ s, s < 4 ∧ bk j s = true) (hT : T ≤ 8) :
    hl_run (fun _ => True) (hl_ops on pk ot bk hm 0 P T 9) st ↔ ∀ g, 0 ≤ hs_sl st on pk ot bk hm P T g false := by
  have k := hs_fits st on pk ot bk hm P T 0 0 hst hot hhm hbk hT
  simp only [hl_ext, hl_cnt, hl_any] at k
  rw [k]
  constructor
  · intro h g
    have q := h g
    cases hl_meet (fun s => decide (s < 4)) (hs_rc on pk ot P T g false 0) <;> simp [hl_t] at q <;> omega
  · intro h g
    have q := h g
    cases hl_meet (fun s => decide (s < 4)) (hs_rc on pk ot P T g false 0) <;> simp [hl_t] <;> omega

theorem hl_all_g : ∀ N : Nat, ∀ g : Nat → Bool, (∀ m, g (6 + m) = true) → hl_cnt g N = N ∧ (1 ≤ N → hl_any g N = true)
  | 0, g, _ => ⟨rfl, fun h => by omega⟩
  | N + 1, g, h => by
    have k := hl_all_g N g h
    refine ⟨?_, fun _ => ?_⟩
    · simp only [hl_cnt, h N, k.1, hl_t, if_true]; omega
    · simp [hl_any, h N]

-- the deficiency form: N >= 1 further ones of the set P at time T, e vehicles more
theorem hs_more (N e : Nat) (hN : 1 ≤ N) (hst : ∀ s, s < 4 → 0 ≤ st s) (hot : ∀ j, j < 6 → on j = true → ot j ≤ 8) (hhm : ∀ j, j < 6 → on j = true → hm j ≤ 8)
    (hbk : ∀ j, j < 6 → on j = true → ∃ s, s < 4 ∧ bk j s = true) (hT : T ≤ 8) (hP : ∃ s, s < 4 ∧ P s = true)
    (good : ∀ g, 0 ≤ hs_sl st on pk ot bk hm P T g false) :
    hl_run (fun _ => True) (hl_ext (hl_ops on pk ot bk hm N P T 9) e) st ↔ ∀ g, (N : Int) - e ≤ hs_sl st on pk ot bk hm P T g true := by
  rw [hs_fits st on pk ot bk hm P T N e hst hot hhm hbk hT]
  have mt : ∀ g, hl_meet (fun s => decide (s < 4)) (hs_rc on pk ot P T g true 0) = true := by
    intro g
    obtain ⟨s, hs, hp⟩ := hP
    exact hl_meet_of hs (by simp [hs]) (by simp [hs_rc, hp])
  have te : hl_t (e : Int) true = e := rfl
  constructor
  · intro h g
    have k := h (fun j => if j < 6 then g j else true)
    have q := hl_all_g N (fun j => if j < 6 then g j else true) (fun m => by simp)
    rw [q.1, q.2 hN, mt, te] at k
    rw [hs_sl_congr_g st on pk ot bk hm P T g (fun j => if j < 6 then g j else true) true (fun j hj => by rw [if_pos hj])]
    exact k
  · intro h g
    have c := hl_cnt_le g N
    cases e1 : hl_any g N
    · have k := good g
      have c0 := c.2.2 e1
      have tb := (hl_t_bd (e : Int) (hl_meet (fun s => decide (s < 4)) (hs_rc on pk ot P T g false 0)) (by omega)).1
      omega
    · have k := h g
      rw [mt, te]
      omega
end

-- slots may be told apart by their contents alone: off slots do not matter
theorem hs_sl_congr (st st' : Nat → Int) (on : Nat → Bool) (pk pk' : Nat → Nat → Bool) (ot ot' : Nat → Nat) (bk bk' : Nat → Nat → Bool) (hm hm' : Nat → Nat)
    (P P' : Nat → Bool) (T : Nat) (g : Nat → Bool) (a : Bool) (h0 : ∀ s, s < 4 → st s = st' s)
    (h1 : ∀ j, j < 6 → on j = true → (∀ s, s < 4 → pk j s = pk' j s) ∧ ot j = ot' j ∧ (∀ s, s < 4 → bk j s = bk' j s) ∧ hm j = hm' j)
    (h2 : a = true → ∀ s, s < 4 → P s = P' s) : hs_sl st on pk ot bk hm P T g a = hs_sl st' on pk' ot' bk' hm' P' T g a := by
  have r : ∀ y s, s < 4 → hs_rc on pk ot P T g a y s = hs_rc on pk' ot' P' T g a y s := by
    intro y s hs
    rw [Bool.eq_iff_iff]
    simp only [hs_rc, Bool.or_eq_true, hl_orr_iff, Bool.and_eq_true, decide_eq_true_eq]
    constructor
    · rintro (⟨j, hj, ⟨⟨x, y⟩, z⟩, w⟩ | ⟨⟨x, y⟩, z⟩)
      · have k := h1 j hj x
        exact Or.inl ⟨j, hj, ⟨⟨x, y⟩, by rw [← k.2.1]; exact z⟩, by rw [← k.1 s hs]; exact w⟩
      · exact Or.inr ⟨⟨x, y⟩, by rw [← h2 y s hs]; exact z⟩
    · rintro (⟨j, hj, ⟨⟨x, y⟩, z⟩, w⟩ | ⟨⟨x, y⟩, z⟩)
      · have k := h1 j hj x
        exact Or.inl ⟨j, hj, ⟨⟨x, y⟩, by rw [k.2.1]; exact z⟩, by rw [k.1 s hs]; exact w⟩
      · exact Or.inr ⟨⟨x, y⟩, by rw [h2 y s hs]; exact z⟩
  have w : hl_w st (hs_rc on pk ot P T g a 0) = hl_w st' (hs_rc on pk' ot' P' T g a 0) := by
    simp only [hl_w, r 0 0 (by omega), r 0 1 (by omega), r 0 2 (by omega), r 0 3 (by omega), h0 0 (by omega), h0 1 (by omega), h0 2 (by omega), h0 3 (by omega)]
  have s : hl_sum (fun j => hl_t 1 (on j && hl_meet (bk j) (hs_rc on pk ot P T g a (hm j)))) 6 =
      hl_sum (fun j => hl_t 1 (on j && hl_meet (bk' j) (hs_rc on pk' ot' P' T g a (hm' j)))) 6 := by
    apply hl_sum_congr
    intro j hj
    cases e : on j
    · rfl
    · have k := h1 j hj e
      simp only [hl_meet, k.2.2.2, r _ 0 (by omega), r _ 1 (by omega), r _ 2 (by omega), r _ 3 (by omega), k.2.2.1 0 (by omega), k.2.2.1 1 (by omega),
        k.2.2.1 2 (by omega), k.2.2.1 3 (by omega)]
  simp only [hs_sl, w, s]

-- slots i and 5 may change places
def hs_sw (i j : Nat) : Nat := if j = i then 5 else if j = 5 then i else j

theorem hs_sw_lt (i j : Nat) (hi : i < 5) (hj : j < 6) : hs_sw i j < 6 := by
  simp only [hs_sw]; split
  · omega
  · split <;> omega

theorem hs_sw_sw (i j : Nat) : hs_sw i (hs_sw i j) = j := by
  simp only [hs_sw]
  by_cases a : j = i
  · by_cases b : (5 : Nat) = i <;> simp [a, b]
  · by_cases b : j = 5
    · simp [a, b]
    · simp [a, b]

theorem hs_sum_sw (f : Nat → Int) (i : Nat) (hi : i < 5) : hl_sum (fun j => f (hs_sw i j)) 6 = hl_sum f 6 := by
  have : i = 0 ∨ i = 1 ∨ i = 2 ∨ i = 3 ∨ i = 4 := by omega
  rcases this with e | e | e | e | e <;> subst e <;> simp [hl_sum, hs_sw] <;> omega

theorem hs_orr_sw (f : Nat → Bool) (i : Nat) (hi : i < 5) : hl_orr (fun j => f (hs_sw i j)) 6 = hl_orr f 6 := by
  rw [Bool.eq_iff_iff, hl_orr_iff, hl_orr_iff]
  constructor
  · rintro ⟨j, hj, h⟩; exact ⟨_, hs_sw_lt i j hi hj, h⟩
  · rintro ⟨j, hj, h⟩; exact ⟨hs_sw i j, hs_sw_lt i j hi hj, by rw [hs_sw_sw]; exact h⟩

theorem hs_sl_sw (st : Nat → Int) (on : Nat → Bool) (pk : Nat → Nat → Bool) (ot : Nat → Nat) (bk : Nat → Nat → Bool) (hm : Nat → Nat)
    (P : Nat → Bool) (T : Nat) (g : Nat → Bool) (a : Bool) (i : Nat) (hi : i < 5) :
    hs_sl st (fun j => on (hs_sw i j)) (fun j => pk (hs_sw i j)) (fun j => ot (hs_sw i j)) (fun j => bk (hs_sw i j)) (fun j => hm (hs_sw i j)) P T
      (fun j => g (hs_sw i j)) a = hs_sl st on pk ot bk hm P T g a := by
  have r : ∀ y, hs_rc (fun j => on (hs_sw i j)) (fun j => pk (hs_sw i j)) (fun j => ot (hs_sw i j)) P T (fun j => g (hs_sw i j)) a y = hs_rc on pk ot P T g a y := by
    intro y; funext s
    simp only [hs_rc]
    congr 1
    exact hs_orr_sw (fun j => on j && g j && decide (y ≤ ot j) && pk j s) i hi
  simp only [hs_sl, r]
  rw [hs_sum_sw (fun j => hl_t 1 (on j && hl_meet (bk j) (hs_rc on pk ot P T g a (hm j)))) i hi, hs_sum_sw (fun j => hl_t 1 (on j && g j)) i hi]
end
section
-- keys of the reference's table: what stands at station s, of tot vehicles in all, at key k
def yq_v (tot : Int) (k : Nat) : Nat → Int := fun s =>
  if s = 0 then ((k % 18 : Nat) : Int) else if s = 1 then ((k / 18 % 18 : Nat) : Int) else if s = 2 then ((k / 324 : Nat) : Int)
  else if s = 3 then tot - ((k % 18 : Nat) : Int) - ((k / 18 % 18 : Nat) : Int) - ((k / 324 : Nat) : Int) else 0

def yq_u (s : Nat) : Nat := if s = 0 then 1 else if s = 1 then 18 else if s = 2 then 324 else 0

def yq_ok (A : Nat → Bool) (tot : Int) (nb : Nat) : Prop :=
  tot + (nb : Int) ≤ 60 ∧ ∀ k, A k = true → k < 5832 ∧ k % 18 + nb ≤ 17 ∧ k / 18 % 18 + nb ≤ 17 ∧ k / 324 + nb ≤ 17 ∧
    ((k % 18 : Nat) : Int) + ((k / 18 % 18 : Nat) : Int) + ((k / 324 : Nat) : Int) ≤ tot

def yq_ex (A : Nat → Bool) (tot : Int) (Q : (Nat → Int) → Prop) : Prop := ∃ k, A k = true ∧ Q (yq_v tot k)

theorem yq_v4 (tot : Int) (k i : Nat) (h : 4 ≤ i) : yq_v tot k i = 0 := by
  have a : ¬ i = 0 := by omega
  have b : ¬ i = 1 := by omega
  have c : ¬ i = 2 := by omega
  have d : ¬ i = 3 := by omega
  simp only [yq_v, if_neg a, if_neg b, if_neg c, if_neg d]

theorem yq_ext (f : Nat → Int) (tot : Int) (k : Nat) (h0 : f 0 = yq_v tot k 0) (h1 : f 1 = yq_v tot k 1) (h2 : f 2 = yq_v tot k 2)
    (h3 : f 3 = yq_v tot k 3) (h4 : ∀ i, 4 ≤ i → f i = 0) : f = yq_v tot k := by
  funext i
  by_cases c : 4 ≤ i
  · rw [h4 i c, yq_v4 tot k i c]
  · have : i = 0 ∨ i = 1 ∨ i = 2 ∨ i = 3 := by omega
    rcases this with e | e | e | e
    · rw [e]; exact h0
    · rw [e]; exact h1
    · rw [e]; exact h2
    · rw [e]; exact h3

theorem yq_v0 (tot : Int) (k : Nat) : yq_v tot k 0 = ((k % 18 : Nat) : Int) := rfl
theorem yq_v1 (tot : Int) (k : Nat) : yq_v tot k 1 = ((k / 18 % 18 : Nat) : Int) := rfl
theorem yq_v2 (tot : Int) (k : Nat) : yq_v tot k 2 = ((k / 324 : Nat) : Int) := rfl
theorem yq_v3 (tot : Int) (k : Nat) : yq_v tot k 3 = tot - ((k % 18 : Nat) : Int) - ((k / 18 % 18 : Nat) : Int) - ((k / 324 : Nat) : Int) := rfl

theorem yq_mv (tot d : Int) (k j s : Nat) (hs : s < 4) (h0 : ((j % 18 : Nat) : Int) = ((k % 18 : Nat) : Int) + (if 0 = s then d else 0))
    (h1 : ((j / 18 % 18 : Nat) : Int) = ((k / 18 % 18 : Nat) : Int) + (if 1 = s then d else 0))
    (h2 : ((j / 324 : Nat) : Int) = ((k / 324 : Nat) : Int) + (if 2 = s then d else 0)) : hl_up (yq_v tot k) s d = yq_v (tot + d) j := by
  apply yq_ext
  · rw [hl_up_at, yq_v0, yq_v0, h0]
  · rw [hl_up_at, yq_v1, yq_v1, h1]
  · rw [hl_up_at, yq_v2, yq_v2, h2]
  · rw [hl_up_at, yq_v3, yq_v3, h0, h1, h2]
    generalize ((k % 18 : Nat) : Int) = x
    generalize ((k / 18 % 18 : Nat) : Int) = y
    generalize ((k / 324 : Nat) : Int) = z
    rcases hl_lt4 hs with e | e | e | e <;> subst e <;> simp <;> omega
  · intro i hi
    rw [hl_up_at, yq_v4 tot k i hi, if_neg (by omega)]; rfl

theorem yq_d0 (k : Nat) (h : k % 18 < 17) : (k + 1) % 18 = k % 18 + 1 ∧ (k + 1) / 18 % 18 = k / 18 % 18 ∧ (k + 1) / 324 = k / 324 := by
  refine ⟨by omega, by omega, by omega⟩
theorem yq_d1 (k : Nat) (h : k / 18 % 18 < 17) : (k + 18) % 18 = k % 18 ∧ (k + 18) / 18 % 18 = k / 18 % 18 + 1 ∧ (k + 18) / 324 = k / 324 := by
  refine ⟨by omega, by omega, by omega⟩
theorem yq_d2 (k : Nat) : (k + 324) % 18 = k % 18 ∧ (k + 324) / 18 % 18 = k / 18 % 18 ∧ (k + 324) / 324 = k / 324 + 1 := by
  refine ⟨by omega, by omega, by omega⟩
theorem yq_f0 (k : Nat) (h : 0 < k % 18) : (k - 1) % 18 + 1 = k % 18 ∧ (k - 1) / 18 % 18 = k / 18 % 18 ∧ (k - 1) / 324 = k / 324 := by
  refine ⟨by omega, by omega, by omega⟩
theorem yq_f1 (k : Nat) (h : 0 < k / 18 % 18) : (k - 18) % 18 = k % 18 ∧ (k - 18) / 18 % 18 + 1 = k / 18 % 18 ∧ (k - 18) / 324 = k / 324 := by
  refine ⟨by omega, by omega, by omega⟩
theorem yq_f2 (k : Nat) (h : 0 < k / 324) : (k - 324) % 18 = k % 18 ∧ (k - 324) / 18 % 18 = k / 18 % 18 ∧ (k - 324) / 324 + 1 = k / 324 := by
  refine ⟨by omega, by omega, by omega⟩

theorem yq_up (tot : Int) (k s : Nat) (hs : s < 4) (h : s = 3 ∨ yq_v tot k s < 17) : hl_up (yq_v tot k) s 1 = yq_v (tot + 1) (k + yq_u s) := by
  rcases hl_lt4 hs with e | e | e | e <;> subst e
  · rw [yq_v0] at h
    have d := yq_d0 k (by omega)
    apply yq_mv tot 1 k (k + 1) 0 hs <;> simp only [d] <;> simp
  · rw [yq_v1] at h
    have d := yq_d1 k (by omega)
    apply yq_mv tot 1 k (k + 18) 1 hs <;> simp only [d] <;> simp
  · rw [yq_v2] at h
    have d := yq_d2 k
    apply yq_mv tot 1 k (k + 324) 2 hs <;> simp only [d] <;> simp
  · apply yq_mv tot 1 k (k + 0) 3 hs <;> simp

theorem yq_dn (tot : Int) (k s : Nat) (hs : s < 4) (h : 0 < yq_v tot k s) : hl_up (yq_v tot k) s (-1) = yq_v (tot + -1) (k - yq_u s) := by
  rcases hl_lt4 hs with e | e | e | e <;> subst e
  · rw [yq_v0] at h
    have d := yq_f0 k (by omega)
    apply yq_mv tot (-1) k (k - 1) 0 hs <;> simp only [← d.1, d.2.1, d.2.2] <;> simp <;> omega
  · rw [yq_v1] at h
    have d := yq_f1 k (by omega)
    apply yq_mv tot (-1) k (k - 18) 1 hs <;> simp only [d.1, ← d.2.1, d.2.2] <;> simp <;> omega
  · rw [yq_v2] at h
    have d := yq_f2 k (by omega)
    apply yq_mv tot (-1) k (k - 324) 2 hs <;> simp only [d.1, d.2.1, ← d.2.2] <;> simp <;> omega
  · apply yq_mv tot (-1) k (k - 0) 3 hs <;> simp

-- a bring, as a step of the table
theorem yq_br (A A' B : Nat → Bool) (tot : Int) (nb : Nat) (ok : yq_ok A tot (nb + 1))
    (h : ∀ k, A' k = true ↔ ∃ j s, s < 4 ∧ A j = true ∧ B s = true ∧ (s = 3 ∨ yq_v tot j s < 17) ∧ k = j + yq_u s) :
    yq_ok A' (tot + 1) nb ∧ ∀ Q, (yq_ex A' (tot + 1) Q ↔ yq_ex A tot (fun v => ∃ s, s < 4 ∧ B s = true ∧ Q (hl_up v s 1))) := by
  have ok1 := ok.1
  refine ⟨⟨by omega, fun k hk => ?_⟩, fun Q => ⟨?_, ?_⟩⟩
  · obtain ⟨j, s, hs, ha, hb, hg, e⟩ := (h k).mp hk
    have o := ok.2 j ha
    subst e
    rcases hl_lt4 hs with e | e | e | e <;> subst e
    · have d := yq_d0 j (by omega)
      show j + 1 < 5832 ∧ (j + 1) % 18 + nb ≤ 17 ∧ (j + 1) / 18 % 18 + nb ≤ 17 ∧ (j + 1) / 324 + nb ≤ 17 ∧ _
      have e1 : (((j + 1) % 18 : Nat) : Int) + (((j + 1) / 18 % 18 : Nat) : Int) + (((j + 1) / 324 : Nat) : Int) ≤ tot + 1 := by
        rw [d.1, d.2.1, d.2.2]; omega
      exact ⟨by omega, by omega, by omega, by omega, e1⟩
    · have d := yq_d1 j (by omega)
      show j + 18 < 5832 ∧ (j + 18) % 18 + nb ≤ 17 ∧ (j + 18) / 18 % 18 + nb ≤ 17 ∧ (j + 18) / 324 + nb ≤ 17 ∧ _
      have e1 : (((j + 18) % 18 : Nat) : Int) + (((j + 18) / 18 % 18 : Nat) : Int) + (((j + 18) / 324 : Nat) : Int) ≤ tot + 1 := by
        rw [d.1, d.2.1, d.2.2]; omega
      exact ⟨by omega, by omega, by omega, by omega, e1⟩
    · have d := yq_d2 j
      show j + 324 < 5832 ∧ (j + 324) % 18 + nb ≤ 17 ∧ (j + 324) / 18 % 18 + nb ≤ 17 ∧ (j + 324) / 324 + nb ≤ 17 ∧ _
      have e1 : (((j + 324) % 18 : Nat) : Int) + (((j + 324) / 18 % 18 : Nat) : Int) + (((j + 324) / 324 : Nat) : Int) ≤ tot + 1 := by
        rw [d.1, d.2.1, d.2.2]; omega
      exact ⟨by omega, by omega, by omega, by omega, e1⟩
    · show j < 5832 ∧ j % 18 + nb ≤ 17 ∧ j / 18 % 18 + nb ≤ 17 ∧ j / 324 + nb ≤ 17 ∧ ((j % 18 : Nat) : Int) + ((j / 18 % 18 : Nat) : Int) + ((j / 324 : Nat) : Int) ≤ tot + 1
      exact ⟨o.1, by omega, by omega, by omega, by omega⟩
  · rintro ⟨k, hk, q⟩
    obtain ⟨j, s, hs, ha, hb, hg, e⟩ := (h k).mp hk
    refine ⟨j, ha, s, hs, hb, ?_⟩
    rw [yq_up tot j s hs hg, ← e]; exact q
  · rintro ⟨j, ha, s, hs, hb, q⟩
    have o := ok.2 j ha
    have hg : s = 3 ∨ yq_v tot j s < 17 := by
      rcases hl_lt4 hs with e | e | e | e <;> subst e
      · right; rw [yq_v0]; omega
      · right; rw [yq_v1]; omega
      · right; rw [yq_v2]; omega
      · left; rfl
    rw [yq_up tot j s hs hg] at q
    exact ⟨_, (h _).mpr ⟨j, s, hs, ha, hb, hg, rfl⟩, q⟩

-- a fetch
theorem yq_fe (A A' B : Nat → Bool) (tot : Int) (nb : Nat) (ok : yq_ok A tot nb)
    (h : ∀ k, A' k = true ↔ ∃ j s, s < 4 ∧ A j = true ∧ B s = true ∧ 0 < yq_v tot j s ∧ k = j - yq_u s) :
    yq_ok A' (tot + -1) nb ∧ ∀ Q, (yq_ex A' (tot + -1) Q ↔ yq_ex A tot (fun v => ∃ s, s < 4 ∧ B s = true ∧ 1 ≤ v s ∧ Q (hl_up v s (-1)))) := by
  have ok1 := ok.1
  refine ⟨⟨by omega, fun k hk => ?_⟩, fun Q => ⟨?_, ?_⟩⟩
  · obtain ⟨j, s, hs, ha, hb, hg, e⟩ := (h k).mp hk
    have o := ok.2 j ha
    subst e
    rcases hl_lt4 hs with e | e | e | e <;> subst e
    · rw [yq_v0] at hg
      have d := yq_f0 j (by omega)
      show j - 1 < 5832 ∧ (j - 1) % 18 + nb ≤ 17 ∧ (j - 1) / 18 % 18 + nb ≤ 17 ∧ (j - 1) / 324 + nb ≤ 17 ∧ _
      have e1 : (((j - 1) % 18 : Nat) : Int) + (((j - 1) / 18 % 18 : Nat) : Int) + (((j - 1) / 324 : Nat) : Int) ≤ tot + -1 := by
        have d1 := d.1
        have o5 := o.2.2.2.2
        rw [d.2.1, d.2.2]; omega
      exact ⟨by omega, by omega, by omega, by omega, e1⟩
    · rw [yq_v1] at hg
      have d := yq_f1 j (by omega)
      show j - 18 < 5832 ∧ (j - 18) % 18 + nb ≤ 17 ∧ (j - 18) / 18 % 18 + nb ≤ 17 ∧ (j - 18) / 324 + nb ≤ 17 ∧ _
      have e1 : (((j - 18) % 18 : Nat) : Int) + (((j - 18) / 18 % 18 : Nat) : Int) + (((j - 18) / 324 : Nat) : Int) ≤ tot + -1 := by
        have d1 := d.2.1
        have o5 := o.2.2.2.2
        rw [d.1, d.2.2]; omega
      exact ⟨by omega, by omega, by omega, by omega, e1⟩
    · rw [yq_v2] at hg
      have d := yq_f2 j (by omega)
      show j - 324 < 5832 ∧ (j - 324) % 18 + nb ≤ 17 ∧ (j - 324) / 18 % 18 + nb ≤ 17 ∧ (j - 324) / 324 + nb ≤ 17 ∧ _
      have e1 : (((j - 324) % 18 : Nat) : Int) + (((j - 324) / 18 % 18 : Nat) : Int) + (((j - 324) / 324 : Nat) : Int) ≤ tot + -1 := by
        have d1 := d.2.2
        have o5 := o.2.2.2.2
        rw [d.1, d.2.1]; omega
      exact ⟨by omega, by omega, by omega, by omega, e1⟩
    · rw [yq_v3] at hg
      show j < 5832 ∧ j % 18 + nb ≤ 17 ∧ j / 18 % 18 + nb ≤ 17 ∧ j / 324 + nb ≤ 17 ∧ ((j % 18 : Nat) : Int) + ((j / 18 % 18 : Nat) : Int) + ((j / 324 : Nat) : Int) ≤ tot + -1
      exact ⟨o.1, by omega, by omega, by omega, by omega⟩
  · rintro ⟨k, hk, q⟩
    obtain ⟨j, s, hs, ha, hb, hg, e⟩ := (h k).mp hk
    refine ⟨j, ha, s, hs, hb, by omega, ?_⟩
    rw [yq_dn tot j s hs hg, ← e]; exact q
  · rintro ⟨j, ha, s, hs, hb, hg, q⟩
    have hg' : 0 < yq_v tot j s := by omega
    rw [yq_dn tot j s hs hg'] at q
    exact ⟨_, (h _).mpr ⟨j, s, hs, ha, hb, hg', rfl⟩, q⟩

-- the floor
theorem yq_fl (A A' : Nat → Bool) (tot : Int) (nb : Nat) (s : Nat) (N : Int) (ok : yq_ok A tot nb)
    (h : ∀ k, A' k = true ↔ A k = true ∧ N ≤ yq_v tot k s) :
    yq_ok A' tot nb ∧ ∀ Q, (yq_ex A' tot Q ↔ yq_ex A tot (fun v => N ≤ v s ∧ Q v)) := by
  refine ⟨⟨ok.1, fun k hk => ok.2 k ((h k).mp hk).1⟩, fun Q => ⟨?_, ?_⟩⟩
  · rintro ⟨k, hk, q⟩; exact ⟨k, ((h k).mp hk).1, ((h k).mp hk).2, q⟩
  · rintro ⟨k, hk, q⟩; exact ⟨k, (h k).mpr ⟨hk, q.1⟩, q.2⟩

theorem yq_ex_congr (A : Nat → Bool) (tot : Int) (Q R : (Nat → Int) → Prop) (h : ∀ v, Q v ↔ R v) : yq_ex A tot Q ↔ yq_ex A tot R := by
  constructor
  · rintro ⟨k, a, b⟩; exact ⟨k, a, (h _).mp b⟩
  · rintro ⟨k, a, b⟩; exact ⟨k, a, (h _).mpr b⟩

theorem yq_ok_le (A : Nat → Bool) (tot : Int) (m n : Nat) (h : n ≤ m) (ok : yq_ok A tot m) : yq_ok A tot n := by
  have ok1 := ok.1
  refine ⟨by omega, fun k hk => ?_⟩
  obtain ⟨a, b, c, d, e⟩ := ok.2 k hk
  exact ⟨a, by omega, by omega, by omega, e⟩

-- how many brings are still to come: at time x from slot 6 - n on; from time 9 - n on
def yq_c (on : Nat → Bool) (hm : Nat → Nat) (x : Nat) : Nat → Nat
  | 0 => 0
  | n + 1 => (if on (5 - n) = true ∧ hm (5 - n) = x then 1 else 0) + yq_c on hm x n

def yq_n (on : Nat → Bool) (hm : Nat → Nat) : Nat → Nat
  | 0 => 0
  | n + 1 => yq_c on hm (8 - n) 6 + yq_n on hm n

def yq_s (on : Nat → Bool) (hm : Nat → Nat) (j : Nat) : Nat → Nat
  | 0 => 0
  | n + 1 => (if on j = true ∧ hm j = 8 - n then 1 else 0) + yq_s on hm j n

theorem yq_s_le (on : Nat → Bool) (hm : Nat → Nat) (j : Nat) : ∀ n, n ≤ 9 → yq_s on hm j n ≤ 1 ∧ (hm j < 9 - n → yq_s on hm j n = 0)
  | 0, _ => ⟨by simp [yq_s], fun _ => rfl⟩
  | n + 1, hn => by
    have ih := yq_s_le on hm j n (by omega)
    simp only [yq_s]
    by_cases c : on j = true ∧ hm j = 8 - n
    · rw [if_pos c]
      have i2 := ih.2 (by omega)
      exact ⟨by omega, fun h => by omega⟩
    · rw [if_neg c]
      refine ⟨by omega, fun h => ?_⟩
      have i2 := ih.2 (by omega)
      omega

theorem yq_n_sum (on : Nat → Bool) (hm : Nat → Nat) : ∀ n, yq_n on hm n =
    yq_s on hm 0 n + yq_s on hm 1 n + yq_s on hm 2 n + yq_s on hm 3 n + yq_s on hm 4 n + yq_s on hm 5 n
  | 0 => rfl
  | n + 1 => by
    have ih := yq_n_sum on hm n
    simp only [yq_n, yq_c, yq_s, Nat.sub_self, Nat.reduceSub]
    rw [ih]
    generalize (if on 0 = true ∧ hm 0 = 8 - n then 1 else 0) = a0
    generalize (if on 1 = true ∧ hm 1 = 8 - n then 1 else 0) = a1
    generalize (if on 2 = true ∧ hm 2 = 8 - n then 1 else 0) = a2
    generalize (if on 3 = true ∧ hm 3 = 8 - n then 1 else 0) = a3
    generalize (if on 4 = true ∧ hm 4 = 8 - n then 1 else 0) = a4
    generalize (if on 5 = true ∧ hm 5 = 8 - n then 1 else 0) = a5
    omega

theorem yq_n9 (on : Nat → Bool) (hm : Nat → Nat) : yq_n on hm 9 ≤ 6 := by
  rw [yq_n_sum]
  have h0 := (yq_s_le on hm 0 9 (by omega)).1
  have h1 := (yq_s_le on hm 1 9 (by omega)).1
  have h2 := (yq_s_le on hm 2 9 (by omega)).1
  have h3 := (yq_s_le on hm 3 9 (by omega)).1
  have h4 := (yq_s_le on hm 4 9 (by omega)).1
  have h5 := (yq_s_le on hm 5 9 (by omega)).1
  omega

-- the key of the stocks
theorem yq_key (a b c d : Nat) (ha : a ≤ 3) (hb : b ≤ 3) (hc : c ≤ 3) (f : Nat → Int) (h0 : f 0 = a) (h1 : f 1 = b) (h2 : f 2 = c) (h3 : f 3 = d)
    (h4 : ∀ i, 4 ≤ i → f i = 0) : f = yq_v ((a : Int) + b + c + d) (a + 18 * b + 324 * c) := by
  have e0 : (a + 18 * b + 324 * c) % 18 = a := by omega
  have e1 : (a + 18 * b + 324 * c) / 18 % 18 = b := by omega
  have e2 : (a + 18 * b + 324 * c) / 324 = c := by omega
  apply yq_ext
  · rw [yq_v0, e0, h0]
  · rw [yq_v1, e1, h1]
  · rw [yq_v2, e2, h2]
  · rw [yq_v3, e0, e1, e2, h3]; omega
  · exact h4
end
section
-- the groups as masks, and what the landed methods count
def xg_st (st : Nat → Nat) : Nat → Int := fun s => if s < 4 then (st s : Int) else 0

def xg_pk (q : Nat → Nat) : Nat → Nat → Bool := fun j s => (q (2 * j)).testBit s
def xg_bk (q : Nat → Nat) : Nat → Nat → Bool := fun j s => (q (2 * j + 1)).testBit s
def xg_ot (tm : Nat → Nat) : Nat → Nat := fun j => tm (2 * j)
def xg_hm (tm : Nat → Nat) : Nat → Nat := fun j => tm (2 * j + 1)

def xg_r (grp pick : Nat) (q : Nat → Nat) : Nat → Nat
  | 0 => pick
  | i + 1 => if grp.testBit i = true then xg_r grp pick q i ||| q (2 * i) else xg_r grp pick q i

def xg_z (grp : Nat) : Nat → Int
  | 0 => 0
  | i + 1 => xg_z grp i - hl_t 1 (grp.testBit i)

def xg_w (st : Nat → Nat) (r : Nat) (z : Int) : Nat → Int
  | 0 => z
  | i + 1 => xg_w st r z i + hl_t (st i : Int) (r.testBit i)

-- from booking 5 - d on
def xg_o (grp : Nat) (q tm : Nat → Nat) (j : Nat) : Nat → Bool
  | 0 => false
  | d + 1 => (grp.testBit (4 - d) && hl_meet (xg_bk q j) (xg_pk q (4 - d)) && decide (xg_hm tm j ≤ xg_ot tm (4 - d))) || xg_o grp q tm j d

def xg_rs (grp pick t : Nat) (q tm : Nat → Nat) (j : Nat) : Bool :=
  (hl_meet (xg_bk q j) pick.testBit && decide (xg_hm tm j ≤ t)) || xg_o grp q tm j 5

def xg_v (h grp pick t : Nat) (q tm : Nat → Nat) (z : Int) : Nat → Int
  | 0 => z
  | i + 1 => xg_v h grp pick t q tm z i + hl_t 1 (h.testBit i && xg_rs grp pick t q tm i)

def xg_sl (st : Nat → Nat) (h grp pick t : Nat) (q tm : Nat → Nat) : Int :=
  xg_v h grp pick t q tm (xg_w st (xg_r grp pick q 5) (xg_z grp 5) 4) 5

theorem xg_sl_bd (st : Nat → Nat) (h grp pick t : Nat) (q tm : Nat → Nat) (hst : ∀ s, s < 4 → st s ≤ 3) :
    -5 ≤ xg_sl st h grp pick t q tm ∧ xg_sl st h grp pick t q tm ≤ 17 := by
  have b : ∀ b : Bool, 0 ≤ hl_t 1 b ∧ hl_t 1 b ≤ 1 := fun b => hl_t_bd 1 b (by omega)
  have c : ∀ s, s < 4 → ∀ b : Bool, 0 ≤ hl_t (st s : Int) b ∧ hl_t (st s : Int) b ≤ 3 := fun s hs b => by
    have k := hl_t_bd (st s : Int) b (by omega)
    have := hst s hs
    omega
  have z0 := b (grp.testBit 0)
  have z1 := b (grp.testBit 1)
  have z2 := b (grp.testBit 2)
  have z3 := b (grp.testBit 3)
  have z4 := b (grp.testBit 4)
  have w0 := c 0 (by omega) ((xg_r grp pick q 5).testBit 0)
  have w1 := c 1 (by omega) ((xg_r grp pick q 5).testBit 1)
  have w2 := c 2 (by omega) ((xg_r grp pick q 5).testBit 2)
  have w3 := c 3 (by omega) ((xg_r grp pick q 5).testBit 3)
  have v0 := b (h.testBit 0 && xg_rs grp pick t q tm 0)
  have v1 := b (h.testBit 1 && xg_rs grp pick t q tm 1)
  have v2 := b (h.testBit 2 && xg_rs grp pick t q tm 2)
  have v3 := b (h.testBit 3 && xg_rs grp pick t q tm 3)
  have v4 := b (h.testBit 4 && xg_rs grp pick t q tm 4)
  simp only [xg_sl, xg_v, xg_w, xg_z]
  omega

theorem hl_meet_iff (B R : Nat → Bool) : hl_meet B R = true ↔ ∃ s, s < 4 ∧ B s = true ∧ R s = true :=
  ⟨hl_of_meet, fun ⟨_, a, b, c⟩ => hl_meet_of a b c⟩

theorem xg_r_bit (grp pick : Nat) (q : Nat → Nat) (s : Nat) : ∀ i, (xg_r grp pick q i).testBit s = true ↔
    pick.testBit s = true ∨ ∃ j, j < i ∧ grp.testBit j = true ∧ (q (2 * j)).testBit s = true
  | 0 => by
    simp only [xg_r]
    constructor
    · intro h; exact Or.inl h
    · rintro (h | ⟨j, hj, _⟩)
      · exact h
      · omega
  | i + 1 => by
    have ih := xg_r_bit grp pick q s i
    simp only [xg_r]
    by_cases c : grp.testBit i = true
    · rw [if_pos c, Nat.testBit_or, Bool.or_eq_true, ih]
      constructor
      · rintro ((h | ⟨j, hj, a⟩) | h)
        · exact Or.inl h
        · exact Or.inr ⟨j, by omega, a⟩
        · exact Or.inr ⟨i, by omega, c, h⟩
      · rintro (h | ⟨j, hj, a⟩)
        · exact Or.inl (Or.inl h)
        · by_cases e : j = i
          · subst e; exact Or.inr a.2
          · exact Or.inl (Or.inr ⟨j, by omega, a⟩)
    · rw [if_neg c, ih]
      constructor
      · rintro (h | ⟨j, hj, a⟩)
        · exact Or.inl h
        · exact Or.inr ⟨j, by omega, a⟩
      · rintro (h | ⟨j, hj, a⟩)
        · exact Or.inl h
        · by_cases e : j = i
          · subst e; exact absurd a.1 c
          · exact Or.inr ⟨j, by omega, a⟩

theorem xg_o_iff (grp : Nat) (q tm : Nat → Nat) (j : Nat) : ∀ d, d ≤ 5 → (xg_o grp q tm j d = true ↔
    ∃ i, 5 - d ≤ i ∧ i < 5 ∧ grp.testBit i = true ∧ hl_meet (xg_bk q j) (xg_pk q i) = true ∧ xg_hm tm j ≤ xg_ot tm i)
  | 0, _ => by
    constructor
    · intro h; cases h
    · rintro ⟨i, a, b, _⟩; omega
  | d + 1, hd => by
    have ih := xg_o_iff grp q tm j d (by omega)
    simp only [xg_o, Bool.or_eq_true, Bool.and_eq_true, decide_eq_true_eq, ih]
    constructor
    · rintro (⟨⟨a, b⟩, c⟩ | ⟨i, a, b⟩)
      · exact ⟨4 - d, by omega, by omega, a, b, c⟩
      · exact ⟨i, by omega, b⟩
    · rintro ⟨i, a, b, c, e, f⟩
      by_cases k : i = 4 - d
      · subst k; exact Or.inl ⟨⟨c, e⟩, f⟩
      · exact Or.inr ⟨i, by omega, b, c, e, f⟩

def xg_sub (grp h : Nat) : Prop := ∀ j, j < 5 → grp.testBit j = true → h.testBit j = true

theorem xg_b5 (h : Nat) (hh : h < 32) (j : Nat) (hj : 5 ≤ j) : h.testBit j = false := by
  apply Nat.testBit_lt_two_pow
  have : 2 ^ 5 ≤ 2 ^ j := Nat.pow_le_pow_right (by omega) hj
  omega

section
variable (st : Nat → Nat) (h grp pick t : Nat) (q tm : Nat → Nat)

theorem xg_rc (hh : h < 32) (sub : xg_sub grp h) (s : Nat) :
    (xg_r grp pick q 5).testBit s = hs_rc h.testBit (xg_pk q) (xg_ot tm) pick.testBit t grp.testBit true 0 s := by
  rw [Bool.eq_iff_iff, xg_r_bit]
  simp only [hs_rc, Bool.or_eq_true, hl_orr_iff, Bool.and_eq_true, decide_eq_true_eq]
  constructor
  · rintro (a | ⟨j, hj, a, b⟩)
    · exact Or.inr ⟨⟨by omega, by trivial⟩, a⟩
    · exact Or.inl ⟨j, by omega, ⟨⟨sub j hj a, a⟩, by omega⟩, b⟩
  · rintro (⟨j, hj, ⟨⟨a, b⟩, _⟩, c⟩ | ⟨_, a⟩)
    · by_cases e : j < 5
      · exact Or.inr ⟨j, e, b, c⟩
      · rw [xg_b5 h hh j (by omega)] at a; cases a
    · exact Or.inl a

theorem xg_rs_eq (hh : h < 32) (sub : xg_sub grp h) (j : Nat) :
    xg_rs grp pick t q tm j = hl_meet (xg_bk q j) (hs_rc h.testBit (xg_pk q) (xg_ot tm) pick.testBit t grp.testBit true (xg_hm tm j)) := by
  rw [Bool.eq_iff_iff]
  simp only [xg_rs, Bool.or_eq_true, Bool.and_eq_true, decide_eq_true_eq, xg_o_iff grp q tm j 5 (by omega), hl_meet_iff, hs_rc, hl_orr_iff]
  constructor
  · rintro (⟨⟨s, a, b, c⟩, d⟩ | ⟨i, _, hi, a, ⟨s, hs, b, c⟩, d⟩)
    · exact ⟨s, a, b, Or.inr ⟨⟨d, by trivial⟩, c⟩⟩
    · exact ⟨s, hs, b, Or.inl ⟨i, by omega, ⟨⟨sub i hi a, a⟩, d⟩, c⟩⟩
  · rintro ⟨s, hs, b, (⟨i, hi, ⟨⟨a, c⟩, d⟩, e⟩ | ⟨⟨a, _⟩, c⟩)⟩
    · by_cases k : i < 5
      · exact Or.inr ⟨i, by omega, k, c, ⟨s, hs, b, e⟩, d⟩
      · rw [xg_b5 h hh i (by omega)] at a; cases a
    · exact Or.inl ⟨⟨s, hs, b, c⟩, a⟩

theorem xg_sl_eq (hh : h < 32) (sub : xg_sub grp h) :
    xg_sl st h grp pick t q tm = hs_sl (xg_st st) h.testBit (xg_pk q) (xg_ot tm) (xg_bk q) (xg_hm tm) pick.testBit t grp.testBit true := by
  have r : ∀ s, hs_rc h.testBit (xg_pk q) (xg_ot tm) pick.testBit t grp.testBit true 0 s = (xg_r grp pick q 5).testBit s :=
    fun s => (xg_rc h grp pick t q tm hh sub s).symm
  have v : ∀ j, hl_meet (xg_bk q j) (hs_rc h.testBit (xg_pk q) (xg_ot tm) pick.testBit t grp.testBit true (xg_hm tm j)) = xg_rs grp pick t q tm j :=
    fun j => (xg_rs_eq h grp pick t q tm hh sub j).symm
  have b : ∀ j, j < 5 → (h.testBit j && grp.testBit j) = grp.testBit j := by
    intro j hj
    cases e : grp.testBit j
    · simp
    · rw [sub j hj e]; rfl
  have h5 : h.testBit 5 = false := xg_b5 h hh 5 (by omega)
  have s0 : xg_st st 0 = (st 0 : Int) := rfl
  have s1 : xg_st st 1 = (st 1 : Int) := rfl
  have s2 : xg_st st 2 = (st 2 : Int) := rfl
  have s3 : xg_st st 3 = (st 3 : Int) := rfl
  simp only [hs_sl, v, hl_w, r, hl_sum, Nat.sub_self, Nat.reduceSub, b 0 (by omega), b 1 (by omega), b 2 (by omega), b 3 (by omega), b 4 (by omega), h5, Bool.false_and,
    s0, s1, s2, s3, xg_sl, xg_v, xg_w, xg_z]
  have f0 : hl_t 1 false = 0 := rfl
  rw [f0]
  omega
end

-- a choice of the five slots as a mask
def xg_m (b0 b1 b2 b3 b4 : Bool) : Nat := b0.toNat + 2 * b1.toNat + 4 * b2.toNat + 8 * b3.toNat + 16 * b4.toNat

theorem xg_m_bit (b0 b1 b2 b3 b4 : Bool) : xg_m b0 b1 b2 b3 b4 < 32 ∧ (xg_m b0 b1 b2 b3 b4).testBit 0 = b0 ∧ (xg_m b0 b1 b2 b3 b4).testBit 1 = b1 ∧
    (xg_m b0 b1 b2 b3 b4).testBit 2 = b2 ∧ (xg_m b0 b1 b2 b3 b4).testBit 3 = b3 ∧ (xg_m b0 b1 b2 b3 b4).testBit 4 = b4 := by
  cases b0 <;> cases b1 <;> cases b2 <;> cases b3 <;> cases b4 <;> decide

theorem xg_mask (h : Nat) (hh : h < 32) (g : Nat → Bool) : ∃ grp, grp < 32 ∧ xg_sub grp h ∧ ∀ j, j < 6 → (h.testBit j && g j) = (h.testBit j && grp.testBit j) := by
  have k := xg_m_bit (h.testBit 0 && g 0) (h.testBit 1 && g 1) (h.testBit 2 && g 2) (h.testBit 3 && g 3) (h.testBit 4 && g 4)
  refine ⟨_, k.1, ?_, ?_⟩
  · intro j hj e
    have : j = 0 ∨ j = 1 ∨ j = 2 ∨ j = 3 ∨ j = 4 := by omega
    rcases this with z | z | z | z | z <;> subst z
    · rw [k.2.1, Bool.and_eq_true] at e; exact e.1
    · rw [k.2.2.1, Bool.and_eq_true] at e; exact e.1
    · rw [k.2.2.2.1, Bool.and_eq_true] at e; exact e.1
    · rw [k.2.2.2.2.1, Bool.and_eq_true] at e; exact e.1
    · rw [k.2.2.2.2.2, Bool.and_eq_true] at e; exact e.1
  · intro j hj
    have : j = 0 ∨ j = 1 ∨ j = 2 ∨ j = 3 ∨ j = 4 ∨ j = 5 := by omega
    rcases this with z | z | z | z | z | z <;> subst z
    · rw [k.2.1]; cases h.testBit 0 <;> rfl
    · rw [k.2.2.1]; cases h.testBit 1 <;> rfl
    · rw [k.2.2.2.1]; cases h.testBit 2 <;> rfl
    · rw [k.2.2.2.2.1]; cases h.testBit 3 <;> rfl
    · rw [k.2.2.2.2.2]; cases h.testBit 4 <;> rfl
    · rw [xg_b5 h hh 5 (by omega)]; rfl

-- there is a good plan
def xg_gd (st : Nat → Nat) (on : Nat → Bool) (q tm : Nat → Nat) : Prop :=
  ∀ g, 0 ≤ hs_sl (xg_st st) on (xg_pk q) (xg_ot tm) (xg_bk q) (xg_hm tm) (fun _ => false) 0 g false

theorem hs_sl_off (st : Nat → Int) (on : Nat → Bool) (pk : Nat → Nat → Bool) (ot : Nat → Nat) (bk : Nat → Nat → Bool) (hm : Nat → Nat)
    (P P' : Nat → Bool) (T T' : Nat) (g : Nat → Bool) (a : Bool) (h : ∀ s, (a && P s) = false) :
    hs_sl st on pk ot bk hm P T g a = hs_sl st on pk ot bk hm P' T' g false := by
  have r : ∀ y, hs_rc on pk ot P T g a y = hs_rc on pk ot P' T' g false y := by
    intro y; funext s
    have k := h s
    simp only [hs_rc, Bool.and_assoc, k, Bool.and_false, Bool.false_and]
  simp only [hs_sl, r]

theorem hs_sl_0 (st : Nat → Int) (on : Nat → Bool) (pk : Nat → Nat → Bool) (ot : Nat → Nat) (bk : Nat → Nat → Bool) (hm : Nat → Nat)
    (P : Nat → Bool) (T : Nat) (g : Nat → Bool) (h : ∀ j, j < 6 → (on j && g j) = false) : hs_sl st on pk ot bk hm P T g false = 0 := by
  have r : ∀ y, hs_rc on pk ot P T g false y = fun _ => false := by
    intro y; funext s
    have o : hl_orr (fun j => on j && g j && decide (y ≤ ot j) && pk j s) 6 = hl_orr (fun _ => false) 6 :=
      hl_orr_congr _ _ (fun j hj => by rw [h j hj]; rfl) 6
    simp only [hs_rc, o]
    simp [hl_orr]
  have s1 : hl_sum (fun j => hl_t 1 (on j && g j)) 6 = hl_sum (fun _ => 0) 6 := hl_sum_congr _ _ (fun j hj => by rw [h j hj]; rfl) 6
  have s2 : hl_sum (fun j => hl_t 1 (on j && hl_meet (bk j) (fun _ => false))) 6 = hl_sum (fun _ => 0) 6 :=
    hl_sum_congr _ _ (fun j hj => by simp [hl_meet, hl_t]) 6
  simp only [hs_sl, r, s1, s2]
  simp [hl_w, hl_t, hl_sum]

-- what hasGoodPlan goes through
theorem xg_gd_iff (st : Nat → Nat) (h : Nat) (hh : h < 32) (q tm : Nat → Nat) :
    xg_gd st h.testBit q tm ↔ ∀ grp, 1 ≤ grp → grp < 32 → xg_sub grp h → 0 ≤ xg_sl st h grp 0 0 q tm := by
  have off : ∀ g, hs_sl (xg_st st) h.testBit (xg_pk q) (xg_ot tm) (xg_bk q) (xg_hm tm) (Nat.testBit 0) 0 g true =
      hs_sl (xg_st st) h.testBit (xg_pk q) (xg_ot tm) (xg_bk q) (xg_hm tm) (fun _ => false) 0 g false :=
    fun g => hs_sl_off _ _ _ _ _ _ _ _ _ _ _ _ (fun s => by simp)
  constructor
  · intro k grp h1 h2 sub
    rw [xg_sl_eq st h grp 0 0 q tm hh sub, off]
    exact k _
  · intro k g
    obtain ⟨grp, h2, sub, e⟩ := xg_mask h hh g
    rw [hs_sl_congr_g _ _ _ _ _ _ _ _ g grp.testBit false e]
    by_cases h1 : 1 ≤ grp
    · rw [← off, ← xg_sl_eq st h grp 0 0 q tm hh sub]
      exact k grp h1 h2 sub
    · have z : grp = 0 := by omega
      subst z
      rw [hs_sl_0 _ _ _ _ _ _ _ _ _ (fun j hj => by simp)]
      omega

-- what roomFor finds
theorem xg_room (st : Nat → Nat) (h : Nat) (hh : h < 32) (pick t : Nat) (q tm : Nat → Nat) (z : Int) :
    (∀ g, z ≤ hs_sl (xg_st st) h.testBit (xg_pk q) (xg_ot tm) (xg_bk q) (xg_hm tm) pick.testBit t g true) ↔
      ∀ grp, grp < 32 → xg_sub grp h → z ≤ xg_sl st h grp pick t q tm := by
  constructor
  · intro k grp h2 sub
    rw [xg_sl_eq st h grp pick t q tm hh sub]; exact k _
  · intro k g
    obtain ⟨grp, h2, sub, e⟩ := xg_mask h hh g
    rw [hs_sl_congr_g _ _ _ _ _ _ _ _ g grp.testBit true e, ← xg_sl_eq st h grp pick t q tm hh sub]
    exact k grp h2 sub

-- further ones reach no less
theorem hs_sl_mono (st : Nat → Int) (hst : ∀ s, s < 4 → 0 ≤ st s) (on : Nat → Bool) (pk : Nat → Nat → Bool) (ot : Nat → Nat) (bk : Nat → Nat → Bool) (hm : Nat → Nat)
    (P : Nat → Bool) (T : Nat) (g : Nat → Bool) : hs_sl st on pk ot bk hm P T g false ≤ hs_sl st on pk ot bk hm P T g true := by
  have r : ∀ y s, hs_rc on pk ot P T g false y s = true → hs_rc on pk ot P T g true y s = true := by
    intro y s k
    simp only [hs_rc, Bool.or_eq_true, Bool.and_false, Bool.false_and] at k ⊢
    rcases k with k | k
    · exact Or.inl k
    · cases k
  have w := hl_w_mono st (hs_rc on pk ot P T g false 0) (hs_rc on pk ot P T g true 0) hst (fun s _ => r 0 s)
  have m : ∀ j, hl_t 1 (on j && hl_meet (bk j) (hs_rc on pk ot P T g false (hm j))) ≤ hl_t 1 (on j && hl_meet (bk j) (hs_rc on pk ot P T g true (hm j))) := by
    intro j
    apply hl_t_mono 1 _ _ (by omega)
    intro k
    rw [Bool.and_eq_true, hl_meet_iff] at k ⊢
    obtain ⟨a, s, b, c, d⟩ := k
    exact ⟨a, s, b, c, r _ s d⟩
  have m0 := m 0
  have m1 := m 1
  have m2 := m 2
  have m3 := m 3
  have m4 := m 4
  have m5 := m 5
  simp only [hs_sl, hl_sum, Nat.sub_self, Nat.reduceSub]
  omega
end
section
-- what the reference's question asks, told by the slack of the choices
def an_rg (on : Nat → Bool) (q tm : Nat → Nat) : Prop :=
  ∀ j, j < 6 → on j = true → tm (2 * j) ≤ 8 ∧ tm (2 * j + 1) ≤ 8 ∧ 1 ≤ q (2 * j) ∧ q (2 * j) < 16 ∧ 1 ≤ q (2 * j + 1) ∧ q (2 * j + 1) < 16

theorem an_bit : ∀ b, b < 16 → 1 ≤ b → ∃ s, s < 4 ∧ b.testBit s = true := by decide

theorem an_st (st : Nat → Nat) : ∀ s, s < 4 → 0 ≤ xg_st st s := by
  intro s hs
  simp only [xg_st, if_pos hs]; omega

theorem an_hbk (on : Nat → Bool) (q tm : Nat → Nat) (rg : an_rg on q tm) : ∀ j, j < 6 → on j = true → ∃ s, s < 4 ∧ xg_bk q j s = true :=
  fun j hj o => an_bit _ (rg j hj o).2.2.2.2.2 (rg j hj o).2.2.2.2.1

theorem an_run (st : Nat → Nat) (on : Nat → Bool) (q tm : Nat → Nat) (rg : an_rg on q tm) :
    hl_run (fun _ => True) (hl_ops on (xg_pk q) (xg_ot tm) (xg_bk q) (xg_hm tm) 0 (Nat.testBit 0) 0 9) (xg_st st) ↔ xg_gd st on q tm := by
  rw [hs_plain (xg_st st) on (xg_pk q) (xg_ot tm) (xg_bk q) (xg_hm tm) (Nat.testBit 0) 0 (an_st st) (fun j hj o => (rg j hj o).1)
    (fun j hj o => (rg j hj o).2.1) (an_hbk on q tm rg) (by omega)]
  constructor
  · intro k g
    rw [← hs_sl_off _ _ _ _ _ _ (Nat.testBit 0) _ 0 _ g false (fun _ => rfl)]; exact k g
  · intro k g
    rw [hs_sl_off _ _ _ _ _ _ (Nat.testBit 0) (fun _ => false) 0 0 g false (fun _ => rfl)]; exact k g

theorem an_plain (st : Nat → Nat) (on : Nat → Bool) (q tm : Nat → Nat) (rg : an_rg on q tm) (s : Nat) (N : Int) :
    fl_ext (fl_go on (xg_pk q) (xg_ot tm) (xg_bk q) (xg_hm tm) 0 (Nat.testBit 0) 0 s N 9 9) 0 (xg_st st) ↔ xg_gd st on q tm :=
  Iff.trans (fl_plain on (xg_pk q) (xg_ot tm) (xg_bk q) (xg_hm tm) 0 (Nat.testBit 0) 0 s N 9 (by omega) (xg_st st)) (an_run st on q tm rg)

theorem an_good (st : Nat → Nat) (on : Nat → Bool) (q tm : Nat → Nat) (P : Nat → Bool) (T : Nat) (good : xg_gd st on q tm) :
    ∀ g, 0 ≤ hs_sl (xg_st st) on (xg_pk q) (xg_ot tm) (xg_bk q) (xg_hm tm) P T g false := by
  intro g
  rw [hs_sl_off _ _ _ _ _ _ P (fun _ => false) T 0 g false (fun _ => rfl)]; exact good g

theorem an_short (st : Nat → Nat) (on : Nat → Bool) (q tm : Nat → Nat) (rg : an_rg on q tm) (good : xg_gd st on q tm) (pick t n e : Nat) (hp1 : 1 ≤ pick) (hp : pick < 16)
    (ht : t ≤ 8) (hn : 1 ≤ n) (room : Int)
    (hr : ∀ z, (∀ g, z ≤ hs_sl (xg_st st) on (xg_pk q) (xg_ot tm) (xg_bk q) (xg_hm tm) pick.testBit t g true) ↔ z ≤ room) (s : Nat) (N : Int) :
    fl_ext (fl_go on (xg_pk q) (xg_ot tm) (xg_bk q) (xg_hm tm) n pick.testBit t s N 9 9) e (xg_st st) ↔ (n : Int) - e ≤ room :=
  Iff.trans (fl_ext_run _ _ (fun v => fl_plain on (xg_pk q) (xg_ot tm) (xg_bk q) (xg_hm tm) n pick.testBit t s N 9 (by omega) v) e (xg_st st))
    (Iff.trans (hs_more (xg_st st) on (xg_pk q) (xg_ot tm) (xg_bk q) (xg_hm tm) pick.testBit t n e hn (an_st st) (fun j hj o => (rg j hj o).1)
      (fun j hj o => (rg j hj o).2.1) (an_hbk on q tm rg) ht (an_bit pick hp hp1) (an_good st on q tm _ _ good)) (hr _))

theorem an_pow (s : Nat) : (fun i => decide (i = s)) = Nat.testBit (2 ^ s) := by
  funext i
  rw [Nat.testBit_two_pow]
  by_cases e : i = s
  · subst e; simp
  · have e' : ¬ s = i := fun z => e z.symm
    simp [e, e']

theorem an_pow_lt (s : Nat) (hs : s < 4) : 1 ≤ 2 ^ s ∧ 2 ^ s < 16 := by
  rcases hl_lt4 hs with e | e | e | e <;> subst e <;> decide

theorem an_spare (st : Nat → Nat) (on : Nat → Bool) (q tm : Nat → Nat) (rg : an_rg on q tm) (good : xg_gd st on q tm) (s x n : Nat) (hs : s < 4)
    (hx : x ≤ 8) (hn : 1 ≤ n) (room : Int)
    (hr : ∀ z, (∀ g, z ≤ hs_sl (xg_st st) on (xg_pk q) (xg_ot tm) (xg_bk q) (xg_hm tm) (2 ^ s).testBit x g true) ↔ z ≤ room) :
    fl_ext (fl_go on (xg_pk q) (xg_ot tm) (xg_bk q) (xg_hm tm) 0 (Nat.testBit 0) 0 s (n : Int) x 9) 0 (xg_st st) ↔ (n : Int) ≤ room := by
  have k := (fl_eq on (xg_pk q) (xg_ot tm) (xg_bk q) (xg_hm tm) (Nat.testBit 0) 0 s hs n hn x hx 9 (by omega)).2 (by omega) (xg_st st)
  rw [an_pow s] at k
  have m := hs_more (xg_st st) on (xg_pk q) (xg_ot tm) (xg_bk q) (xg_hm tm) (2 ^ s).testBit x n 0 hn (an_st st) (fun j hj o => (rg j hj o).1)
      (fun j hj o => (rg j hj o).2.1) (an_hbk on q tm rg) hx (an_bit _ (an_pow_lt s hs).2 (an_pow_lt s hs).1) (an_good st on q tm _ _ good)
  have z : (n : Int) - ((0 : Nat) : Int) = n := by omega
  rw [z] at m
  exact Iff.trans k (Iff.trans m (hr _))

-- slots i and 5 change places
def an_sw (i : Nat) (q : Nat → Nat) : Nat → Nat := fun e => q (2 * hs_sw i (e / 2) + e % 2)

theorem an_sw0 (i : Nat) (q : Nat → Nat) (j : Nat) : an_sw i q (2 * j) = q (2 * hs_sw i j) := by
  simp only [an_sw]
  have a : 2 * j / 2 = j := by omega
  have b : 2 * j % 2 = 0 := by omega
  rw [a, b]; rfl

theorem an_sw1 (i : Nat) (q : Nat → Nat) (j : Nat) : an_sw i q (2 * j + 1) = q (2 * hs_sw i j + 1) := by
  simp only [an_sw]
  have a : (2 * j + 1) / 2 = j := by omega
  have b : (2 * j + 1) % 2 = 1 := by omega
  rw [a, b]

theorem an_swap (st : Nat → Nat) (on : Nat → Bool) (q tm : Nat → Nat) (i : Nat) (hi : i < 5) :
    xg_gd st (fun j => on (hs_sw i j)) (an_sw i q) (an_sw i tm) ↔ xg_gd st on q tm := by
  have e1 : xg_pk (an_sw i q) = fun j => xg_pk q (hs_sw i j) := by funext j s; simp only [xg_pk, an_sw0]
  have e2 : xg_ot (an_sw i tm) = fun j => xg_ot tm (hs_sw i j) := by funext j; simp only [xg_ot, an_sw0]
  have e3 : xg_bk (an_sw i q) = fun j => xg_bk q (hs_sw i j) := by funext j s; simp only [xg_bk, an_sw1]
  have e4 : xg_hm (an_sw i tm) = fun j => xg_hm tm (hs_sw i j) := by funext j; simp only [xg_hm, an_sw1]
  simp only [xg_gd, e1, e2, e3, e4]
  constructor
  · intro k g
    have r := k (fun j => g (hs_sw i j))
    rw [hs_sl_sw _ on (xg_pk q) (xg_ot tm) (xg_bk q) (xg_hm tm) _ _ g false i hi] at r
    exact r
  · intro k g
    have r := k (fun j => g (hs_sw i j))
    rw [← hs_sl_sw _ on (xg_pk q) (xg_ot tm) (xg_bk q) (xg_hm tm) _ _ (fun j => g (hs_sw i j)) false i hi] at r
    simp only [hs_sw_sw] at r
    exact r

theorem an_sw_rg (on : Nat → Bool) (q tm : Nat → Nat) (i : Nat) (hi : i < 5) (rg : an_rg on q tm) : an_rg (fun j => on (hs_sw i j)) (an_sw i q) (an_sw i tm) := by
  intro j hj o
  rw [an_sw0, an_sw0, an_sw1, an_sw1]
  exact rg _ (hs_sw_lt i j hi hj) o

-- off slots do not matter
theorem an_congr (st st' : Nat → Nat) (on : Nat → Bool) (q q' tm tm' : Nat → Nat) (h0 : ∀ s, s < 4 → st s = st' s)
    (h1 : ∀ j, j < 6 → on j = true → q (2 * j) = q' (2 * j) ∧ q (2 * j + 1) = q' (2 * j + 1) ∧ tm (2 * j) = tm' (2 * j) ∧ tm (2 * j + 1) = tm' (2 * j + 1)) :
    xg_gd st on q tm ↔ xg_gd st' on q' tm' := by
  have k : ∀ g, hs_sl (xg_st st) on (xg_pk q) (xg_ot tm) (xg_bk q) (xg_hm tm) (fun _ => false) 0 g false =
      hs_sl (xg_st st') on (xg_pk q') (xg_ot tm') (xg_bk q') (xg_hm tm') (fun _ => false) 0 g false := by
    intro g
    apply hs_sl_congr
    · intro s hs; simp only [xg_st, if_pos hs, h0 s hs]
    · intro j hj o
      obtain ⟨a, b, c, d⟩ := h1 j hj o
      refine ⟨fun s _ => ?_, ?_, fun s _ => ?_, ?_⟩
      · simp only [xg_pk, a]
      · simp only [xg_ot, c]
      · simp only [xg_bk, b]
      · simp only [xg_hm, d]
    · intro z; cases z
  constructor
  · intro a g; rw [← k g]; exact a g
  · intro a g; rw [k g]; exact a g

theorem an_on (st : Nat → Nat) (on on' : Nat → Bool) (q tm : Nat → Nat) (h : ∀ j, j < 6 → on j = on' j) : xg_gd st on q tm ↔ xg_gd st on' q tm := by
  have k : ∀ g, hs_sl (xg_st st) on (xg_pk q) (xg_ot tm) (xg_bk q) (xg_hm tm) (fun _ => false) 0 g false =
      hs_sl (xg_st st) on' (xg_pk q) (xg_ot tm) (xg_bk q) (xg_hm tm) (fun _ => false) 0 g false := by
    intro g
    have r : ∀ y, hs_rc on (xg_pk q) (xg_ot tm) (fun _ => false) 0 g false y = hs_rc on' (xg_pk q) (xg_ot tm) (fun _ => false) 0 g false y := by
      intro y; funext s
      have o : hl_orr (fun j => on j && g j && decide (y ≤ xg_ot tm j) && xg_pk q j s) 6 = hl_orr (fun j => on' j && g j && decide (y ≤ xg_ot tm j) && xg_pk q j s) 6 :=
        hl_orr_congr _ _ (fun j hj => by rw [h j hj]) 6
      simp only [hs_rc, o]
    have s1 : hl_sum (fun j => hl_t 1 (on j && g j)) 6 = hl_sum (fun j => hl_t 1 (on' j && g j)) 6 := hl_sum_congr _ _ (fun j hj => by rw [h j hj]) 6
    have s2 : hl_sum (fun j => hl_t 1 (on j && hl_meet (xg_bk q j) (hs_rc on' (xg_pk q) (xg_ot tm) (fun _ => false) 0 g false (xg_hm tm j)))) 6 =
        hl_sum (fun j => hl_t 1 (on' j && hl_meet (xg_bk q j) (hs_rc on' (xg_pk q) (xg_ot tm) (fun _ => false) 0 g false (xg_hm tm j)))) 6 :=
      hl_sum_congr _ _ (fun j hj => by rw [h j hj]) 6
    simp only [hs_sl, r, s1, s2]
  constructor
  · intro a g; rw [← k g]; exact a g
  · intro a g; rw [k g]; exact a g

-- the first plan: end by end the least station for which there is a good plan
def fp_up (q : Nat → Nat) (e v : Nat) : Nat → Nat := fun i => if i = e then v else q i

noncomputable def fp_ls (Q : Nat → Prop) : Nat :=
  @ite _ (Q 0) (Classical.propDecidable _) 0 (@ite _ (Q 1) (Classical.propDecidable _) 1 (@ite _ (Q 2) (Classical.propDecidable _) 2 3))

theorem fp_ls_spec (Q : Nat → Prop) (h : ∃ s, s < 4 ∧ Q s) : fp_ls Q < 4 ∧ Q (fp_ls Q) ∧ ∀ s, s < fp_ls Q → ¬ Q s := by
  by_cases c0 : Q 0
  · have e : fp_ls Q = 0 := by unfold fp_ls; rw [if_pos c0]
    rw [e]; exact ⟨by omega, c0, fun s hs => by omega⟩
  · by_cases c1 : Q 1
    · have e : fp_ls Q = 1 := by unfold fp_ls; rw [if_neg c0, if_pos c1]
      rw [e]
      refine ⟨by omega, c1, fun s hs => ?_⟩
      have z : s = 0 := by omega
      rw [z]; exact c0
    · by_cases c2 : Q 2
      · have e : fp_ls Q = 2 := by unfold fp_ls; rw [if_neg c0, if_neg c1, if_pos c2]
        rw [e]
        refine ⟨by omega, c2, fun s hs => ?_⟩
        have z : s = 0 ∨ s = 1 := by omega
        rcases z with z | z <;> rw [z]
        · exact c0
        · exact c1
      · have e : fp_ls Q = 3 := by unfold fp_ls; rw [if_neg c0, if_neg c1, if_neg c2]
        rw [e]
        obtain ⟨s, hs, q⟩ := h
        refine ⟨by omega, ?_, fun s hs => ?_⟩
        · rcases hl_lt4 hs with z | z | z | z <;> subst z
          · exact absurd q c0
          · exact absurd q c1
          · exact absurd q c2
          · exact q
        · have z : s = 0 ∨ s = 1 ∨ s = 2 := by omega
          rcases z with z | z | z <;> rw [z]
          · exact c0
          · exact c1
          · exact c2

theorem fp_rg (on : Nat → Bool) (q tm : Nat → Nat) (e s : Nat) (hs : s < 4) (rg : an_rg on q tm) : an_rg on (fp_up q e (2 ^ s)) tm := by
  intro j hj o
  obtain ⟨a, b, c, d, f, g⟩ := rg j hj o
  have p := an_pow_lt s hs
  refine ⟨a, b, ?_, ?_, ?_, ?_⟩
  · simp only [fp_up]; split
    · exact p.1
    · exact c
  · simp only [fp_up]; split
    · exact p.2
    · exact d
  · simp only [fp_up]; split
    · exact p.1
    · exact f
  · simp only [fp_up]; split
    · exact p.2
    · exact g

theorem fp_ex (st : Nat → Nat) (on : Nat → Bool) (q tm : Nat → Nat) (rg : an_rg on q tm) (good : xg_gd st on q tm) (e : Nat) (he : e < 12) (ho : on (e / 2) = true) :
    ∃ s, s < 4 ∧ (q e).testBit s = true ∧ xg_gd st on (fp_up q e (2 ^ s)) tm := by
  have run := (an_run st on q tm rg).mpr good
  have r := rg (e / 2) (by omega) ho
  by_cases c : e % 2 = 0
  · obtain ⟨s, hs, hb, k⟩ := hl_nar_pk on (xg_pk q) (xg_ot tm) (xg_bk q) (xg_hm tm) 0 (Nat.testBit 0) 0 (xg_st st) (e / 2) (by omega) ho r.1 r.2.1 run
    have ee : 2 * (e / 2) = e := by omega
    refine ⟨s, hs, ?_, (an_run st on _ tm (fp_rg on q tm e s hs rg)).mp ?_⟩
    · simp only [xg_pk, ee] at hb; exact hb
    · have p1 : xg_pk (fp_up q e (2 ^ s)) = fun j => if j = e / 2 then (fun k => decide (k = s)) else xg_pk q j := by
        funext j k
        by_cases z : j = e / 2
        · subst z
          simp only [xg_pk, fp_up, ee, if_true]
          exact (congrFun (an_pow s) k).symm
        · have z2 : ¬ 2 * j = e := by omega
          simp only [xg_pk, fp_up, if_neg z, if_neg z2]
      have p2 : xg_bk (fp_up q e (2 ^ s)) = xg_bk q := by
        funext j k
        have z2 : ¬ 2 * j + 1 = e := by omega
        simp only [xg_bk, fp_up, if_neg z2]
      rw [p1, p2]; exact k
  · obtain ⟨s, hs, hb, k⟩ := hl_nar_bk on (xg_pk q) (xg_ot tm) (xg_bk q) (xg_hm tm) 0 (Nat.testBit 0) 0 (xg_st st) (e / 2) (by omega) ho r.1 r.2.1 run
    have ee : 2 * (e / 2) + 1 = e := by omega
    refine ⟨s, hs, ?_, (an_run st on _ tm (fp_rg on q tm e s hs rg)).mp ?_⟩
    · simp only [xg_bk, ee] at hb; exact hb
    · have p1 : xg_bk (fp_up q e (2 ^ s)) = fun j => if j = e / 2 then (fun k => decide (k = s)) else xg_bk q j := by
        funext j k
        by_cases z : j = e / 2
        · subst z
          simp only [xg_bk, fp_up, ee, if_true]
          exact (congrFun (an_pow s) k).symm
        · have z2 : ¬ 2 * j + 1 = e := by omega
          simp only [xg_bk, fp_up, if_neg z, if_neg z2]
      have p2 : xg_pk (fp_up q e (2 ^ s)) = xg_pk q := by
        funext j k
        have z2 : ¬ 2 * j = e := by omega
        simp only [xg_pk, fp_up, if_neg z2]
      rw [p1, p2]; exact k

-- station s of end e is one with a good plan
def fp_n (st : Nat → Nat) (on : Nat → Bool) (q tm : Nat → Nat) (e s : Nat) : Prop := (q e).testBit s = true ∧ xg_gd st on (fp_up q e (2 ^ s)) tm

noncomputable def fp_q (st : Nat → Nat) (on : Nat → Bool) (q tm : Nat → Nat) : Nat → Nat → Nat
  | 0 => q
  | e + 1 => if on (e / 2) = true then fp_up (fp_q st on q tm e) e (2 ^ fp_ls (fp_n st on (fp_q st on q tm e) tm e)) else fp_q st on q tm e

theorem fp_inv (st : Nat → Nat) (on : Nat → Bool) (q tm : Nat → Nat) (rg : an_rg on q tm) (good : xg_gd st on q tm) : ∀ e, e ≤ 12 →
    an_rg on (fp_q st on q tm e) tm ∧ xg_gd st on (fp_q st on q tm e) tm ∧ ∀ i, e ≤ i → fp_q st on q tm e i = q i
  | 0, _ => ⟨rg, good, fun _ _ => rfl⟩
  | e + 1, he => by
    obtain ⟨a, b, c⟩ := fp_inv st on q tm rg good e (by omega)
    simp only [fp_q]
    by_cases o : on (e / 2) = true
    · rw [if_pos o]
      have k := fp_ls_spec (fp_n st on (fp_q st on q tm e) tm e) (fp_ex st on _ tm a b e (by omega) o)
      refine ⟨fp_rg on _ tm e _ k.1 a, k.2.1.2, fun i hi => ?_⟩
      have z : ¬ i = e := by omega
      simp only [fp_up, if_neg z]; exact c i (by omega)
    · rw [if_neg o]; exact ⟨a, b, fun i hi => c i (by omega)⟩
end
section
-- numbers that may be negative
def zi_z (z : Int) : Int32 := Int32.ofInt z

theorem zi_n (n : Nat) : nI n = zi_z (n : Int) := (Int32.ofInt_eq_ofNat (n := n)).symm
theorem zi_add (a b : Int) : zi_z a + zi_z b = zi_z (a + b) := (Int32.ofInt_add a b).symm
theorem zi_sub (a b : Int) : zi_z a - zi_z b = zi_z (a - b) := (Int32.ofInt_sub a b).symm
theorem zi_t {z : Int} (h1 : -1000000 ≤ z) (h2 : z ≤ 1000000) : (zi_z z).toInt = z := Int32.toInt_ofInt_of_le (by omega) (by omega)
theorem zi_lt {a b : Int} (h1 : -1000000 ≤ a) (h2 : a ≤ 1000000) (h3 : -1000000 ≤ b) (h4 : b ≤ 1000000) : zi_z a < zi_z b ↔ a < b := by
  rw [Int32.lt_iff_toInt_lt, zi_t h1 h2, zi_t h3 h4]
theorem zi_le {a b : Int} (h1 : -1000000 ≤ a) (h2 : a ≤ 1000000) (h3 : -1000000 ≤ b) (h4 : b ≤ 1000000) : zi_z a ≤ zi_z b ↔ a ≤ b := by
  rw [Int32.le_iff_toInt_le, zi_t h1 h2, zi_t h3 h4]
theorem zi_0 : (0 : Int32) = zi_z 0 := by decide
theorem zi_1 : (1 : Int32) = zi_z 1 := by decide
theorem zi_m1 : (-1 : Int32) = zi_z (-1) := by decide

-- a truth value as an int
def zi_b (b : Bool) : Int32 := if b = true then 1 else 0
theorem zi_b0 (b : Bool) : zi_b b = 0 ↔ b = false := by cases b <;> decide
theorem zi_b1 (b : Bool) : zi_b b = 1 ↔ b = true := by cases b <;> decide
theorem zi_bt : zi_b true = 1 := rfl
theorem zi_bf : zi_b false = 0 := rfl
theorem zi_vn (b : Bool) : vp_nar .boolean (zi_b b) = zi_b b := by cases b <;> decide
theorem zi_na (b : Bool) : narrow .boolean (.int (zi_b b)) = .int (zi_b b) := by cases b <;> rfl

-- a cell of the table: bit 0, it can be reached now; bit 1, it can be reached behind this step
def yq_md (a m : Bool) : Nat := (if a = true then 1 else 0) + (if m = true then 2 else 0)

theorem yq_md_a (a m : Bool) : (nI (yq_md a m) &&& 1 = 1) ↔ a = true := by cases a <;> cases m <;> decide
theorem yq_md_o (a m : Bool) : nI (yq_md a m) ||| 2 = nI (yq_md a true) := by cases a <;> cases m <;> decide
theorem yq_md_1 (a : Bool) : (nI (yq_md a false) = 1) ↔ a = true := by cases a <;> decide
theorem yq_md_0 : nI (yq_md false false) = 0 := by decide

def yq_sp (A M : Nat → Bool) (sp : Nat → Int32) : Prop := ∀ k, k < 5832 → sp k = nI (yq_md (A k) (M k))

-- the marks: what the keys before i, and the stations before s of key i, have marked
def yq_mb (A : Nat → Bool) (al : Nat → Nat → Prop) (tg : Nat → Nat → Nat) (i s k : Nat) : Prop :=
  ∃ j r, (j < i ∨ (j = i ∧ r < s)) ∧ r < 4 ∧ A j = true ∧ al j r ∧ k = tg j r

section
variable (A : Nat → Bool) (al : Nat → Nat → Prop) (tg : Nat → Nat → Nat)

theorem yq_mb0 (k : Nat) : ¬ yq_mb A al tg 0 0 k := by
  rintro ⟨j, r, h, _⟩; omega

theorem yq_mb_y (i s k : Nat) (hs : s < 4) (ha : A i = true) (hl : al i s) : yq_mb A al tg i (s + 1) k ↔ (yq_mb A al tg i s k ∨ k = tg i s) := by
  constructor
  · rintro ⟨j, r, h, a, b, c, d⟩
    by_cases e : j = i ∧ r = s
    · obtain ⟨e1, e2⟩ := e; subst e1; subst e2; exact Or.inr d
    · exact Or.inl ⟨j, r, by omega, a, b, c, d⟩
  · rintro (⟨j, r, h, a⟩ | h)
    · exact ⟨j, r, by omega, a⟩
    · exact ⟨i, s, by omega, hs, ha, hl, h⟩

theorem yq_mb_n (i s k : Nat) (hl : ¬ al i s) : yq_mb A al tg i (s + 1) k ↔ yq_mb A al tg i s k := by
  constructor
  · rintro ⟨j, r, h, a, b, c, d⟩
    by_cases e : j = i ∧ r = s
    · obtain ⟨e1, e2⟩ := e; subst e1; subst e2; exact absurd c hl
    · exact ⟨j, r, by omega, a, b, c, d⟩
  · rintro ⟨j, r, h, a⟩
    exact ⟨j, r, by omega, a⟩

theorem yq_mb_f (i s k : Nat) (ha : ¬ A i = true) : yq_mb A al tg (i + 1) 0 k ↔ yq_mb A al tg i s k := by
  constructor
  · rintro ⟨j, r, h, a, b, c, d⟩
    have e : ¬ j = i := fun e => ha (e ▸ b)
    exact ⟨j, r, by omega, a, b, c, d⟩
  · rintro ⟨j, r, h, a, b, c, d⟩
    have e : ¬ j = i := fun e => ha (e ▸ b)
    exact ⟨j, r, by omega, a, b, c, d⟩

theorem yq_mb_4 (i k : Nat) : yq_mb A al tg (i + 1) 0 k ↔ yq_mb A al tg i 4 k := by
  constructor
  · rintro ⟨j, r, h, a, b⟩; exact ⟨j, r, by omega, a, b⟩
  · rintro ⟨j, r, h, a, b⟩; exact ⟨j, r, by omega, a, b⟩

theorem yq_mb_e (hA : ∀ k, A k = true → k < 5832) (k : Nat) : yq_mb A al tg 5832 0 k ↔ ∃ j s, s < 4 ∧ A j = true ∧ al j s ∧ k = tg j s := by
  constructor
  · rintro ⟨j, r, h, a, b, c, d⟩; exact ⟨j, r, a, b, c, d⟩
  · rintro ⟨j, r, a, b, c, d⟩; exact ⟨j, r, Or.inl (hA j b), a, b, c, d⟩

-- the table together with its marks
def yq_I (i s : Nat) (sp : Nat → Int32) : Prop := ∃ M, yq_sp A M sp ∧ ∀ k, M k = true ↔ yq_mb A al tg i s k

theorem yq_I_y (i s : Nat) (sp : Nat → Int32) (hs : s < 4) (ha : A i = true) (hl : al i s) (ht : tg i s < 5832) (h : yq_I A al tg i s sp) :
    yq_I A al tg i (s + 1) (upd sp (tg i s) (sp (tg i s) ||| 2)) := by
  obtain ⟨M, a, b⟩ := h
  refine ⟨fun k => M k || decide (k = tg i s), fun k hk => ?_, fun k => ?_⟩
  · by_cases e : k = tg i s
    · rw [e]
      have z : upd sp (tg i s) (sp (tg i s) ||| 2) (tg i s) = sp (tg i s) ||| 2 := if_pos rfl
      rw [z, a _ ht, yq_md_o]; simp
    · have z : upd sp (tg i s) (sp (tg i s) ||| 2) k = sp k := if_neg e
      rw [z, a _ hk]; simp [e]
  · rw [yq_mb_y A al tg i s k hs ha hl, Bool.or_eq_true, b k, decide_eq_true_eq]

theorem yq_I_n (i s : Nat) (sp : Nat → Int32) (hl : ¬ al i s) (h : yq_I A al tg i s sp) : yq_I A al tg i (s + 1) sp := by
  obtain ⟨M, a, b⟩ := h
  exact ⟨M, a, fun k => by rw [b k, yq_mb_n A al tg i s k hl]⟩

theorem yq_I_f (i s : Nat) (sp : Nat → Int32) (ha : ¬ A i = true) (h : yq_I A al tg i s sp) : yq_I A al tg (i + 1) 0 sp := by
  obtain ⟨M, a, b⟩ := h
  exact ⟨M, a, fun k => by rw [b k, yq_mb_f A al tg i s k ha]⟩

theorem yq_I_4 (i : Nat) (sp : Nat → Int32) (h : yq_I A al tg i 4 sp) : yq_I A al tg (i + 1) 0 sp := by
  obtain ⟨M, a, b⟩ := h
  exact ⟨M, a, fun k => by rw [b k, yq_mb_4 A al tg i k]⟩

theorem yq_I_0 (sp : Nat → Int32) (h : yq_sp A (fun _ => false) sp) : yq_I A al tg 0 0 sp :=
  ⟨fun _ => false, h, fun k => ⟨fun z => (by cases z), fun z => absurd z (yq_mb0 A al tg k)⟩⟩

-- bit 0 stays as it is
theorem yq_I_a (i s k : Nat) (sp : Nat → Int32) (hk : k < 5832) (h : yq_I A al tg i s sp) : (sp k &&& 1 = 1) ↔ A k = true := by
  obtain ⟨M, a, b⟩ := h
  rw [a k hk]; exact yq_md_a _ _
end

-- what stands between the steps: some reachable key from which the rest can be done, just when G
def yq_J (G : Prop) (Q : (Nat → Int) → Prop) (nb : Nat) (sp : Nat → Int32) (ft : Int32) : Prop :=
  ∃ A tot, ft = zi_z tot ∧ yq_sp A (fun _ => false) sp ∧ yq_ok A tot nb ∧ (yq_ex A tot Q ↔ G)
end
section
-- small tables: masks of bookings (below 32) and of stations (below 16)
theorem tb_bit : ∀ h, h < 32 → ∀ i, i < 5 → (nI h >>> (nI i &&& 31)) &&& 1 = zi_b (h.testBit i) := by decide +kernel
theorem tb_or : ∀ a, a < 16 → ∀ b, b < 16 → nI a ||| nI b = nI (a ||| b) ∧ a ||| b < 16 := by decide +kernel
theorem tb_and : ∀ a, a < 16 → ∀ b, b < 16 → ((nI a &&& nI b = 0) ↔ hl_meet a.testBit b.testBit = false) := by decide +kernel
theorem tb_sl : ∀ i, i < 5 → (1 : Int32) <<< (nI i &&& 31) = nI (2 ^ i) := by decide +kernel
theorem tb_set : ∀ h, h < 32 → ∀ i, i < 5 → nI h ||| nI (2 ^ i) = nI (h ||| 2 ^ i) := by decide +kernel
def tb_c (h i : Nat) : Nat := h &&& (31 ^^^ 2 ^ i)
theorem tb_clr : ∀ h, h < 32 → ∀ i, i < 5 → nI h &&& (nI (2 ^ i) ^^^ (-1)) = nI (tb_c h i) := by decide +kernel
theorem tb_sub0 : ∀ g, g < 32 → ∀ h, h < 32 → ((nI g &&& (nI h ^^^ (-1)) = 0) ↔ ∀ j, j < 5 → g.testBit j = true → h.testBit j = true) := by decide +kernel
theorem tb_sub (g h : Nat) (hg : g < 32) (hh : h < 32) : (nI g &&& (nI h ^^^ (-1)) = 0) ↔ xg_sub g h := tb_sub0 g hg h hh

theorem tb_c_bit : ∀ h, h < 32 → ∀ i, i < 5 → ∀ j, j < 6 → (tb_c h i).testBit j = (h.testBit j && !decide (j = i)) := by decide +kernel
theorem tb_c_lt : ∀ cap, cap < 6 → ∀ h, h < 32 → h < 2 ^ cap → ∀ i, i < 5 → tb_c h i < 2 ^ cap := by decide +kernel
theorem tb_c_or : ∀ h, h < 32 → ∀ i, i < 5 → h.testBit i = false → tb_c (h ||| 2 ^ i) i = h := by decide +kernel
theorem tb_or_c : ∀ h, h < 32 → ∀ i, i < 5 → h.testBit i = true → tb_c h i ||| 2 ^ i = h := by decide +kernel
theorem tb_or_lt : ∀ cap, cap < 6 → ∀ h, h < 32 → h < 2 ^ cap → ∀ i, i < cap → h ||| 2 ^ i < 2 ^ cap := by decide +kernel
theorem tb_cap : ∀ cap, cap < 6 → 2 ^ cap ≤ 32 := by decide

theorem tb_s_bit (h i j : Nat) : (h ||| 2 ^ i).testBit j = (h.testBit j || decide (i = j)) := by
  rw [Nat.testBit_or, Nat.testBit_two_pow]

-- the least free number, and how many are held
def tb_lf (h : Nat) : Nat :=
  if h.testBit 0 = false then 0 else if h.testBit 1 = false then 1 else if h.testBit 2 = false then 2 else if h.testBit 3 = false then 3 else
  if h.testBit 4 = false then 4 else 5
def tb_pc (h : Nat) : Nat := (h.testBit 0).toNat + (h.testBit 1).toNat + (h.testBit 2).toNat + (h.testBit 3).toNat + (h.testBit 4).toNat
theorem tb_full : ∀ cap, cap < 6 → 1 ≤ cap → ∀ h, h < 32 → h < 2 ^ cap → (cap ≤ tb_lf h ↔ (cap ≤ tb_pc h ∨ 5 ≤ tb_lf h)) := by decide +kernel
theorem tb_lf_free : ∀ h, h < 32 → tb_lf h < 5 → h.testBit (tb_lf h) = false := by decide +kernel
theorem tb_lf_le : ∀ h, h < 32 → tb_lf h ≤ 5 := by decide +kernel

-- an argument that lies in a range is a small number
theorem tb_arg {x : Int32} {a b : Nat} (ha : a < 1000) (hb : b < 1000) (h1 : nI a ≤ x) (h2 : x ≤ nI b) : ∃ n : Nat, a ≤ n ∧ n ≤ b ∧ x = nI n := by
  have e1 : (nI a).toInt = a := nI_toInt (by omega)
  have e2 : (nI b).toInt = b := nI_toInt (by omega)
  rw [Int32.le_iff_toInt_le, e1] at h1
  rw [Int32.le_iff_toInt_le, e2] at h2
  refine ⟨x.toInt.toNat, by omega, by omega, ?_⟩
  apply Int32.toInt_inj.mp
  rw [nI_toInt (by omega)]
  omega
end
section
-- what both states are pictures of: the capacity, the mask of numbers held, the stocks, and for each end its set and its time
def rl_R (cap h : Nat) (st q tm : Nat → Nat) : Prop :=
  1 ≤ cap ∧ cap < 6 ∧ h < 2 ^ cap ∧ (∀ s, s < 4 → st s ≤ 3) ∧ (∀ e, e < 10 → q e < 16 ∧ tm e ≤ 8) ∧ an_rg h.testBit q tm ∧ xg_gd st h.testBit q tm

theorem rl_h {cap h : Nat} {st q tm : Nat → Nat} (r : rl_R cap h st q tm) : h < 32 :=
  Nat.lt_of_lt_of_le r.2.2.1 (tb_cap cap r.2.1)

def rl_q (q : Nat → Nat) (i p b : Nat) : Nat → Nat := fp_up (fp_up q (2 * i) p) (2 * i + 1) b

theorem rl_q0 (q : Nat → Nat) (i p b : Nat) : rl_q q i p b (2 * i) = p := by
  have e : ¬ 2 * i = 2 * i + 1 := by omega
  simp only [rl_q, fp_up, if_neg e, if_true]
theorem rl_q1 (q : Nat → Nat) (i p b : Nat) : rl_q q i p b (2 * i + 1) = b := by
  simp only [rl_q, fp_up, if_true]
theorem rl_qn (q : Nat → Nat) (i p b e : Nat) (h : ¬ e / 2 = i) : rl_q q i p b e = q e := by
  have e1 : ¬ e = 2 * i := by omega
  have e2 : ¬ e = 2 * i + 1 := by omega
  simp only [rl_q, fp_up, if_neg e1, if_neg e2]
theorem rl_qn0 (q : Nat → Nat) (i p b j : Nat) (h : ¬ j = i) : rl_q q i p b (2 * j) = q (2 * j) := rl_qn q i p b _ (by omega)
theorem rl_qn1 (q : Nat → Nat) (i p b j : Nat) (h : ¬ j = i) : rl_q q i p b (2 * j + 1) = q (2 * j + 1) := rl_qn q i p b _ (by omega)

theorem rl_qb (q : Nat → Nat) (i p b B : Nat) (hp : p < B) (hb : b < B) (hq : ∀ e, e < 10 → q e < B) : ∀ e, e < 10 → rl_q q i p b e < B := by
  intro e he
  simp only [rl_q, fp_up]
  split
  · exact hb
  · split
    · exact hp
    · exact hq e he

section
variable {cap h : Nat} {st q tm : Nat → Nat} (i p t b u : Nat)

-- a free number's ends may be written over
theorem rl_over (r : rl_R cap h st q tm) (f : h.testBit i = false) (hp : p < 16) (hb : b < 16) (ht : t ≤ 8) (hu : u ≤ 8) :
    rl_R cap h st (rl_q q i p b) (rl_q tm i t u) := by
  obtain ⟨a1, a2, a3, a4, a5, a6, a7⟩ := r
  have ne : ∀ j, h.testBit j = true → ¬ j = i := fun j o e => by rw [e, f] at o; cases o
  refine ⟨a1, a2, a3, a4, fun e he => ⟨rl_qb q i p b 16 hp hb (fun e he => (a5 e he).1) e he, ?_⟩, ?_, ?_⟩
  · have k := rl_qb tm i t u 9 (by omega) (by omega) (fun e he => by have := (a5 e he).2; omega) e he
    omega
  · intro j hj o
    rw [rl_qn0 q i p b j (ne j o), rl_qn1 q i p b j (ne j o), rl_qn0 tm i t u j (ne j o), rl_qn1 tm i t u j (ne j o)]
    exact a6 j hj o
  · refine (an_congr st st h.testBit q _ tm _ (fun _ _ => rfl) (fun j hj o => ?_)).mp a7
    rw [rl_qn0 q i p b j (ne j o), rl_qn1 q i p b j (ne j o), rl_qn0 tm i t u j (ne j o), rl_qn1 tm i t u j (ne j o)]
    exact ⟨rfl, rfl, rfl, rfl⟩

theorem rl_set_rg (r : rl_R cap h st q tm) (hp1 : 1 ≤ p) (hp : p < 16) (hb1 : 1 ≤ b) (hb : b < 16) (ht : t ≤ 8) (hu : u ≤ 8) :
    an_rg (h ||| 2 ^ i).testBit (rl_q q i p b) (rl_q tm i t u) := by
  intro j hj o
  by_cases e : j = i
  · subst e
    rw [rl_q0, rl_q1, rl_q0, rl_q1]; exact ⟨ht, hu, hp1, hp, hb1, hb⟩
  · rw [rl_qn0 q i p b j e, rl_qn1 q i p b j e, rl_qn0 tm i t u j e, rl_qn1 tm i t u j e]
    have e' : ¬ i = j := fun z => e z.symm
    rw [tb_s_bit, Bool.or_eq_true, decide_eq_true_eq] at o
    exact r.2.2.2.2.2.1 j hj (o.resolve_right e')

theorem rl_set (r : rl_R cap h st q tm) (hi : i < cap) (hp1 : 1 ≤ p) (hp : p < 16) (hb1 : 1 ≤ b) (hb : b < 16) (ht : t ≤ 8) (hu : u ≤ 8)
    (g : xg_gd st (h ||| 2 ^ i).testBit (rl_q q i p b) (rl_q tm i t u)) : rl_R cap (h ||| 2 ^ i) st (rl_q q i p b) (rl_q tm i t u) := by
  have rg := rl_set_rg i p t b u r hp1 hp hb1 hb ht hu
  have hh := rl_h r
  obtain ⟨a1, a2, a3, a4, a5, a6, a7⟩ := r
  refine ⟨a1, a2, tb_or_lt cap a2 h hh a3 i hi, a4, fun e he => ⟨rl_qb q i p b 16 hp hb (fun e he => (a5 e he).1) e he, ?_⟩, rg, g⟩
  have k := rl_qb tm i t u 9 (by omega) (by omega) (fun e he => by have := (a5 e he).2; omega) e he
  omega
end

theorem rl_drop_rg {cap h : Nat} {st q tm : Nat → Nat} (i : Nat) (hi : i < 5) (r : rl_R cap h st q tm) : an_rg (tb_c h i).testBit q tm := by
  intro j hj o
  rw [tb_c_bit h (rl_h r) i hi j hj, Bool.and_eq_true] at o
  exact r.2.2.2.2.2.1 j hj o.1

theorem rl_drop {cap h : Nat} {st q tm : Nat → Nat} (i : Nat) (hi : i < 5) (r : rl_R cap h st q tm) (g : xg_gd st (tb_c h i).testBit q tm) :
    rl_R cap (tb_c h i) st q tm := by
  have rg := rl_drop_rg i hi r
  have hh := rl_h r
  obtain ⟨a1, a2, a3, a4, a5, a6, a7⟩ := r
  exact ⟨a1, a2, tb_c_lt cap a2 h hh a3 i hi, a4, a5, rg, g⟩

theorem rl_stock {cap h : Nat} {st q tm : Nat → Nat} (s n : Nat) (hn : n ≤ 3) (r : rl_R cap h st q tm) (g : xg_gd (fp_up st s n) h.testBit q tm) :
    rl_R cap h (fp_up st s n) q tm := by
  obtain ⟨a1, a2, a3, a4, a5, a6, a7⟩ := r
  refine ⟨a1, a2, a3, fun k hk => ?_, a5, a6, g⟩
  simp only [fp_up]
  split
  · exact hn
  · exact a4 k hk

-- the question that the reference puts for a booking of its slot 5
theorem rl_ask (h i : Nat) (hh : h < 32) (hi : i < 5) (f : h.testBit i = false) (st q tm : Nat → Nat) :
    xg_gd st (fun j => (h ||| 2 ^ i).testBit (hs_sw i j)) (an_sw i q) (an_sw i tm) ↔ xg_gd st (h ||| 2 ^ i).testBit q tm :=
  an_swap st (h ||| 2 ^ i).testBit q tm i hi

theorem rl_sw_i (h i : Nat) (hh : h < 32) (hi : i < 5) : (h ||| 2 ^ i).testBit (hs_sw i i) = false := by
  have e : hs_sw i i = 5 := if_pos rfl
  have n5 : ¬ i = 5 := by omega
  rw [e, tb_s_bit, xg_b5 h hh 5 (by omega), Bool.false_or, decide_eq_false n5]

theorem rl_sw_5 (h i : Nat) (hi : i < 5) : (h ||| 2 ^ i).testBit (hs_sw i 5) = true := by
  have n5 : ¬ 5 = i := by omega
  have e : hs_sw i 5 = i := by simp only [hs_sw, if_neg n5, if_true]
  rw [e, tb_s_bit]; simp

theorem rl_sw_j (h i j : Nat) (hj : j < 5) (n : ¬ j = i) : hs_sw i j = j ∧ (h ||| 2 ^ i).testBit (hs_sw i j) = h.testBit j := by
  have n5 : ¬ j = 5 := by omega
  have e : hs_sw i j = j := by simp only [hs_sw, if_neg n, if_neg n5]
  have n' : ¬ i = j := fun z => n z.symm
  refine ⟨e, ?_⟩
  rw [e, tb_s_bit, decide_eq_false n', Bool.or_false]

-- one more, never brought back: of the empty group alone
theorem rl_room_le (st : Nat → Nat) (h s x : Nat) (hs : s < 4) (q tm : Nat → Nat) (hst : ∀ s, s < 4 → st s ≤ 3) : xg_sl st h 0 (2 ^ s) x q tm ≤ 8 := by
  have b : ∀ b : Bool, 0 ≤ hl_t 1 b ∧ hl_t 1 b ≤ 1 := fun b => hl_t_bd 1 b (by omega)
  have v0 := b (h.testBit 0 && xg_rs 0 (2 ^ s) x q tm 0)
  have v1 := b (h.testBit 1 && xg_rs 0 (2 ^ s) x q tm 1)
  have v2 := b (h.testBit 2 && xg_rs 0 (2 ^ s) x q tm 2)
  have v3 := b (h.testBit 3 && xg_rs 0 (2 ^ s) x q tm 3)
  have v4 := b (h.testBit 4 && xg_rs 0 (2 ^ s) x q tm 4)
  have r : ∀ i, xg_r 0 (2 ^ s) q i = 2 ^ s := by
    intro i
    induction i with
    | zero => rfl
    | succ i ih => simp only [xg_r, Nat.zero_testBit, ih]; rfl
  have z : ∀ i, xg_z 0 i = 0 := by
    intro i
    induction i with
    | zero => rfl
    | succ i ih => simp only [xg_z, Nat.zero_testBit, ih]; rfl
  have w : xg_w st (2 ^ s) 0 4 ≤ 3 := by
    have q0 := hst 0 (by omega)
    have q1 := hst 1 (by omega)
    have q2 := hst 2 (by omega)
    have q3 := hst 3 (by omega)
    simp only [xg_w, Nat.testBit_two_pow, hl_t]
    rcases hl_lt4 hs with e | e | e | e <;> subst e <;> simp <;> omega
  simp only [xg_sl, r, z]
  simp only [xg_v]
  omega

theorem rl_new (cap : Nat) (st : Nat → Nat) (h1 : 1 ≤ cap) (h2 : cap < 6) (hst : ∀ s, s < 4 → st s ≤ 3) : rl_R cap 0 st (fun _ => 0) (fun _ => 0) := by
  refine ⟨h1, h2, Nat.two_pow_pos cap, hst, fun e _ => ⟨by simp, by simp⟩, fun j _ o => ?_, fun g => ?_⟩
  · rw [Nat.zero_testBit] at o; cases o
  · rw [hs_sl_0 _ _ _ _ _ _ _ _ _ (fun j _ => by simp)]; omega

-- where an int lies
theorem rl_cl (x : Int32) (a b : Nat) (ha : a < 1000) (hb : b < 1000) : x < nI a ∨ nI b < x ∨ ∃ n : Nat, a ≤ n ∧ n ≤ b ∧ x = nI n := by
  by_cases c1 : x < nI a
  · exact Or.inl c1
  · by_cases c2 : nI b < x
    · exact Or.inr (Or.inl c2)
    · exact Or.inr (Or.inr (tb_arg ha hb (Int32.not_lt.mp c1) (Int32.not_lt.mp c2)))
end
section
-- the loops over the table
theorem yq_sh (a m : Bool) : nI (yq_md a m) >>> ((1 : Int32) &&& 31) = nI (yq_md m false) := by cases a <;> cases m <;> decide

def yq_se (A M : Nat → Bool) (i : Nat) (sp : Nat → Int32) : Prop :=
  ∀ k, k < 5832 → sp k = nI (if k < i then yq_md (M k) false else yq_md (A k) (M k))

theorem yq_se_0 (A M : Nat → Bool) (sp : Nat → Int32) (h : yq_sp A M sp) : yq_se A M 0 sp := by
  intro k hk
  rw [if_neg (by omega)]; exact h k hk

theorem yq_se_s (A M : Nat → Bool) (i : Nat) (sp : Nat → Int32) (hi : i < 5832) (h : yq_se A M i sp) :
    yq_se A M (i + 1) (upd sp i (sp i >>> ((1 : Int32) &&& 31))) := by
  intro k hk
  by_cases e : k = i
  · subst e
    have z : upd sp k (sp k >>> ((1 : Int32) &&& 31)) k = sp k >>> ((1 : Int32) &&& 31) := if_pos rfl
    rw [z, h k hk, if_neg (by omega), if_pos (by omega), yq_sh]
  · have z : upd sp i (sp i >>> ((1 : Int32) &&& 31)) k = sp k := if_neg e
    rw [z, h k hk]
    by_cases c : k < i
    · rw [if_pos c, if_pos (by omega)]
    · rw [if_neg c, if_neg (by omega)]

theorem yq_se_e (A M : Nat → Bool) (sp : Nat → Int32) (h : yq_se A M 5832 sp) : yq_sp M (fun _ => false) sp := by
  intro k hk
  have z := h k hk
  rw [if_pos hk] at z; exact z

def yq_fi (A : Nat → Bool) (tot : Int) (s : Nat) (N : Int) (i : Nat) (sp : Nat → Int32) : Prop :=
  ∀ k, k < 5832 → sp k = nI (yq_md (if k < i then A k && decide (N ≤ yq_v tot k s) else A k) false)

theorem yq_fi_0 (A : Nat → Bool) (tot : Int) (s : Nat) (N : Int) (sp : Nat → Int32) (h : yq_sp A (fun _ => false) sp) : yq_fi A tot s N 0 sp := by
  intro k hk
  rw [if_neg (by omega)]; exact h k hk

-- the cell goes out where it is set and the floor is not met
theorem yq_fi_y (A : Nat → Bool) (tot : Int) (s : Nat) (N : Int) (i : Nat) (sp : Nat → Int32) (h : yq_fi A tot s N i sp) (c : ¬ N ≤ yq_v tot i s) :
    yq_fi A tot s N (i + 1) (upd sp i 0) := by
  intro k hk
  by_cases e : k = i
  · subst e
    have z : upd sp k 0 k = 0 := if_pos rfl
    rw [z, if_pos (by omega), decide_eq_false c, Bool.and_false]; rfl
  · have z : upd sp i 0 k = sp k := if_neg e
    rw [z, h k hk]
    by_cases d : k < i
    · rw [if_pos d, if_pos (by omega)]
    · rw [if_neg d, if_neg (by omega)]

theorem yq_fi_n (A : Nat → Bool) (tot : Int) (s : Nat) (N : Int) (i : Nat) (sp : Nat → Int32) (h : yq_fi A tot s N i sp) (c : A i = true → N ≤ yq_v tot i s) :
    yq_fi A tot s N (i + 1) sp := by
  intro k hk
  rw [h k hk]
  by_cases e : k = i
  · subst e
    rw [if_neg (by omega), if_pos (by omega)]
    cases a : A k
    · rfl
    · rw [decide_eq_true (c a)]; rfl
  · by_cases d : k < i
    · rw [if_pos d, if_pos (by omega)]
    · rw [if_neg d, if_neg (by omega)]

theorem yq_fi_a (A : Nat → Bool) (tot : Int) (s : Nat) (N : Int) (i : Nat) (sp : Nat → Int32) (hi : i < 5832) (h : yq_fi A tot s N i sp) : sp i = 1 ↔ A i = true := by
  rw [h i hi, if_neg (by omega)]; exact yq_md_1 _

theorem yq_fi_e (A : Nat → Bool) (tot : Int) (s : Nat) (N : Int) (nb : Nat) (sp : Nat → Int32) (ok : yq_ok A tot nb) (h : yq_fi A tot s N 5832 sp) :
    yq_sp (fun k => A k && decide (N ≤ yq_v tot k s)) (fun _ => false) sp := by
  intro k hk
  have z := h k hk
  rw [if_pos hk] at z; exact z

-- a step of the rest
theorem yq_J_br (G : Prop) (set : Nat) (Q : (Nat → Int) → Prop) (nb : Nat) (A : Nat → Bool) (tot : Int) (ok : yq_ok A tot (nb + 1))
    (ex : yq_ex A tot (fun v => ∃ s, s < 4 ∧ set.testBit s = true ∧ Q (hl_up v s 1)) ↔ G) (M : Nat → Bool) (sp : Nat → Int32) (ft : Int32) (hf : ft = zi_z (tot + 1))
    (hs : yq_sp M (fun _ => false) sp) (hM : ∀ k, M k = true ↔ yq_mb A (fun j s => set.testBit s = true ∧ (s = 3 ∨ yq_v tot j s < 17)) (fun j s => j + yq_u s) 5832 0 k) :
    yq_J G Q nb sp ft := by
  have k := yq_br A M set.testBit tot nb ok (fun k => by
    rw [hM k, yq_mb_e _ _ _ (fun k hk => (ok.2 k hk).1)]
    constructor
    · rintro ⟨j, s, a, b, ⟨c, d⟩, e⟩; exact ⟨j, s, a, b, c, d, e⟩
    · rintro ⟨j, s, a, b, c, d, e⟩; exact ⟨j, s, a, b, ⟨c, d⟩, e⟩)
  exact ⟨M, tot + 1, hf, hs, k.1, (k.2 Q).trans ex⟩

theorem yq_J_fe (G : Prop) (set : Nat) (Q : (Nat → Int) → Prop) (nb : Nat) (A : Nat → Bool) (tot : Int) (ok : yq_ok A tot nb)
    (ex : yq_ex A tot (fun v => ∃ s, s < 4 ∧ set.testBit s = true ∧ 1 ≤ v s ∧ Q (hl_up v s (-1))) ↔ G) (M : Nat → Bool) (sp : Nat → Int32) (ft : Int32) (hf : ft = zi_z (tot + -1))
    (hs : yq_sp M (fun _ => false) sp) (hM : ∀ k, M k = true ↔ yq_mb A (fun j s => set.testBit s = true ∧ 0 < yq_v tot j s) (fun j s => j - yq_u s) 5832 0 k) :
    yq_J G Q nb sp ft := by
  have k := yq_fe A M set.testBit tot nb ok (fun k => by
    rw [hM k, yq_mb_e _ _ _ (fun k hk => (ok.2 k hk).1)]
    constructor
    · rintro ⟨j, s, a, b, ⟨c, d⟩, e⟩; exact ⟨j, s, a, b, c, d, e⟩
    · rintro ⟨j, s, a, b, c, d, e⟩; exact ⟨j, s, a, b, ⟨c, d⟩, e⟩)
  exact ⟨M, tot + -1, hf, hs, k.1, (k.2 Q).trans ex⟩

theorem yq_J_fl (G : Prop) (Q : (Nat → Int) → Prop) (nb : Nat) (A : Nat → Bool) (tot : Int) (s : Nat) (N : Int) (ok : yq_ok A tot nb)
    (ex : yq_ex A tot (fun v => N ≤ v s ∧ Q v) ↔ G) (sp : Nat → Int32) (ft : Int32) (hf : ft = zi_z tot) (h : yq_fi A tot s N 5832 sp) : yq_J G Q nb sp ft := by
  have k := yq_fl A (fun k => A k && decide (N ≤ yq_v tot k s)) tot nb s N ok (fun k => by rw [Bool.and_eq_true, decide_eq_true_eq])
  exact ⟨_, tot, hf, yq_fi_e A tot s N nb sp ok h, k.1, (k.2 Q).trans ex⟩

theorem yq_J_congr (G : Prop) (Q R : (Nat → Int) → Prop) (h : ∀ v, Q v ↔ R v) (m n : Nat) (hn : n ≤ m) (sp : Nat → Int32) (ft : Int32) (j : yq_J G Q m sp ft) : yq_J G R n sp ft := by
  obtain ⟨A, tot, a, b, c, d⟩ := j
  exact ⟨A, tot, a, b, yq_ok_le A tot m n hn c, (yq_ex_congr A tot R Q (fun v => (h v).symm)).trans d⟩

-- the start
theorem yq_J_0 (st : Nat → Nat) (hst : ∀ s, s < 4 → st s ≤ 3) (Q : (Nat → Int) → Prop) (nb : Nat) (hnb : nb ≤ 14) (sp : Nat → Int32) (ft : Int32)
    (hf : ft = zi_z ((st 0 : Int) + st 1 + st 2 + st 3))
    (hs : ∀ k, k < 5832 → sp k = if k = st 0 + 18 * st 1 + 324 * st 2 then 1 else 0) : yq_J (Q (xg_st st)) Q nb sp ft := by
  have h0 := hst 0 (by omega)
  have h1 := hst 1 (by omega)
  have h2 := hst 2 (by omega)
  have h3 := hst 3 (by omega)
  have key := yq_key (st 0) (st 1) (st 2) (st 3) h0 h1 h2 (xg_st st) rfl rfl rfl rfl (fun i hi => if_neg (by omega))
  refine ⟨fun k => decide (k = st 0 + 18 * st 1 + 324 * st 2), _, hf, fun k hk => ?_, ⟨by omega, fun k hk => ?_⟩, ?_⟩
  · rw [hs k hk]
    show _ = nI (yq_md (decide (k = st 0 + 18 * st 1 + 324 * st 2)) false)
    by_cases e : k = st 0 + 18 * st 1 + 324 * st 2
    · rw [if_pos e, decide_eq_true e]; decide
    · rw [if_neg e, decide_eq_false e]; decide
  · rw [decide_eq_true_eq] at hk
    subst hk
    have e0 : (st 0 + 18 * st 1 + 324 * st 2) % 18 = st 0 := by omega
    have e1 : (st 0 + 18 * st 1 + 324 * st 2) / 18 % 18 = st 1 := by omega
    have e2 : (st 0 + 18 * st 1 + 324 * st 2) / 324 = st 2 := by omega
    rw [e0, e1, e2]
    exact ⟨by omega, by omega, by omega, by omega, by omega⟩
  · constructor
    · rintro ⟨k, hk, q⟩
      rw [decide_eq_true_eq] at hk
      subst hk
      rw [key]; exact q
    · intro q
      rw [key] at q
      exact ⟨_, decide_eq_true rfl, q⟩

-- the end: some key is set
theorem yq_J_any (G : Prop) (nb : Nat) (sp : Nat → Int32) (ft : Int32) (j : yq_J G (fun _ => True) nb sp ft) : (∃ k, k < 5832 ∧ sp k = 1) ↔ G := by
  obtain ⟨A, tot, a, b, c, d⟩ := j
  rw [← d]
  constructor
  · rintro ⟨k, hk, e⟩
    rw [b k hk, yq_md_1] at e
    exact ⟨k, e, True.intro⟩
  · rintro ⟨k, hk, _⟩
    have l := (c.2 k hk).1
    exact ⟨k, l, by rw [b k l, yq_md_1]; exact hk⟩
end
section
-- the landed methods, step by step: the first of them only read
def xw_st (st q tm : Nat → Nat) (sa eT oS : Nat → Int32) : Prop :=
  (∀ s, s < 4 → sa s = nI (st s) ∧ st s ≤ 3) ∧ ∀ e, e < 10 → oS e = nI (q e) ∧ q e < 16 ∧ eT e = nI (tm e) ∧ tm e ≤ 8

theorem zi_s (x : Int) : zi_z x + 1 = zi_z (x + 1) := by rw [zi_1, zi_add]
theorem zi_p (x : Int) : zi_z x + (-1) = zi_z (x - 1) := by
  rw [zi_m1, zi_add]; exact congrArg zi_z (by omega)
theorem zi_0le {z : Int} (h1 : -1000 ≤ z) (h2 : z ≤ 1000) : (0 : Int32) ≤ zi_z z ↔ 0 ≤ z := by
  rw [zi_0]; exact zi_le (by omega) (by omega) (by omega) (by omega)

theorem xw_i0 (i : Nat) (hi : i < 5) : ((2 : Int32) * nI i).toNatClampNeg = 2 * i ∧ vp_in ((2 : Int32) * nI i) 10 := by
  have e : (2 : Int32) * nI i = nI (2 * i) := pk_mul 2 i
  rw [e]; exact ⟨nI_clamp (by omega), vp_in_nI (by omega) (by omega)⟩
theorem xw_i1 (i : Nat) (hi : i < 5) : ((2 : Int32) * nI i + 1).toNatClampNeg = 2 * i + 1 ∧ vp_in ((2 : Int32) * nI i + 1) 10 := by
  have e : (2 : Int32) * nI i = nI (2 * i) := pk_mul 2 i
  rw [e, nI_1]; exact ⟨nI_clamp (by omega), vp_in_nI (by omega) (by omega)⟩

section
variable {post : Int32 → Prop} (f_capacity f_held : Int32) (a_stockAt a_askedSet a_endTime a_openSet : Nat → Int32) (st q tm : Nat → Nat)

theorem xw_rs_l (H : xw_st st q tm a_stockAt a_endTime a_openSet) (j grp : Nat) (hj : j < 5) (hg : grp < 32) : ∀ d n, d ≤ 5 → d < n →
    post (zi_b (xg_o grp q tm j d)) →
    wX_returnServes_43 post (nI grp) (nI (q (2 * j + 1))) (nI (tm (2 * j + 1))) f_capacity f_held a_stockAt a_askedSet a_endTime a_openSet n (nI (5 - d)) := by
  intro d
  induction d with
  | zero =>
    intro n _ hn k
    obtain ⟨m, rfl⟩ : ∃ m, n = m + 1 := ⟨n - 1, by omega⟩
    exact br_t (by decide) k
  | succ d ih =>
    intro n hd hn k
    obtain ⟨m, rfl⟩ : ∃ m, n = m + 1 := ⟨n - 1, by omega⟩
    have ih' := ih m (by omega) (by omega)
    have e1 : 5 - (d + 1) = 4 - d := by omega
    have e2 : 5 - d = 4 - d + 1 := by omega
    rw [e1]
    rw [e2] at ih'
    simp only [xg_o] at k
    have hi : 4 - d < 5 := by omega
    generalize 4 - d = i at ih' k hi ⊢
    have b := tb_bit grp hg i hi
    have ix := xw_i0 i hi
    have qi := H.2 (2 * i) (by omega)
    have qj := H.2 (2 * j + 1) (by omega)
    have oe : a_openSet ((2 : Int32) * nI i).toNatClampNeg = nI (q (2 * i)) := by rw [ix.1]; exact qi.1
    have te : a_endTime ((2 : Int32) * nI i).toNatClampNeg = nI (tm (2 * i)) := by rw [ix.1]; exact qi.2.2.1
    have ma : (nI (q (2 * j + 1)) &&& a_openSet ((2 : Int32) * nI i).toNatClampNeg = 0) ↔ hl_meet (xg_bk q j) (xg_pk q i) = false := by
      rw [oe]; exact tb_and _ qj.2.1 _ qi.2.1
    have lt : (a_endTime ((2 : Int32) * nI i).toNatClampNeg < nI (tm (2 * j + 1))) ↔ tm (2 * i) < tm (2 * j + 1) := by
      rw [te]; exact nI_ltI (by have := qi.2.2.2; omega) (by have := qj.2.2.2; omega)
    have g5 : ¬ (5 : Int32) ≤ nI i := nI_ge (b := 5) hi (by decide)
    cases c : grp.testBit i
    · rw [c, Bool.false_and, Bool.false_and, Bool.false_or] at k
      exact br_f g5 (br_f (by rw [b, c]; decide) (nm_r (nI_1 i) (ih' k)))
    · cases m1 : hl_meet (xg_bk q j) (xg_pk q i)
      · rw [m1, Bool.and_false, Bool.false_and, Bool.false_or] at k
        exact br_f g5 (br_t (by rw [b, c]; rfl) ⟨ix.2, br_t (ma.mpr m1) (nm_r (nI_1 i) (ih' k))⟩)
      · have nm : ¬ (nI (q (2 * j + 1)) &&& a_openSet ((2 : Int32) * nI i).toNatClampNeg = 0) := fun z => by rw [ma.mp z] at m1; cases m1
        by_cases l : tm (2 * i) < tm (2 * j + 1)
        · have nl : ¬ xg_hm tm j ≤ xg_ot tm i := by simp only [xg_hm, xg_ot]; omega
          rw [decide_eq_false nl, Bool.and_false, Bool.false_or] at k
          exact br_f g5 (br_t (by rw [b, c]; rfl) ⟨ix.2, br_f nm ⟨ix.2, br_t (lt.mpr l) (nm_r (nI_1 i) (ih' k))⟩⟩)
        · have nl : xg_hm tm j ≤ xg_ot tm i := by simp only [xg_hm, xg_ot]; omega
          rw [c, m1, decide_eq_true nl] at k
          exact br_f g5 (br_t (by rw [b, c]; rfl) ⟨ix.2, br_f nm ⟨ix.2, br_f (fun z => l (lt.mp z)) k⟩⟩)

theorem xw_rs (H : xw_st st q tm a_stockAt a_endTime a_openSet) (j grp pick t : Nat) (hj : j < 5) (hg : grp < 32) (hp : pick < 16) (ht : t ≤ 8)
    (k : post (zi_b (xg_rs grp pick t q tm j))) : wpX_returnServes post (f_capacity, f_held, a_stockAt, a_askedSet, a_endTime, a_openSet) (nI j) (nI grp) (nI pick) (nI t) := by
  have i1 := xw_i1 j hj
  have qj := H.2 (2 * j + 1) (by omega)
  have ma : (nI (q (2 * j + 1)) &&& nI pick = 0) ↔ hl_meet (xg_bk q j) pick.testBit = false := tb_and _ qj.2.1 _ hp
  have lt : (nI t < nI (tm (2 * j + 1))) ↔ t < tm (2 * j + 1) := nI_ltI (by omega) (by have := qj.2.2.2; omega)
  have lp := xw_rs_l (post := post) f_capacity f_held a_stockAt a_askedSet a_endTime a_openSet st q tm H j grp hj hg 5 6 (by omega) (by omega)
  refine ⟨i1.2, nm_r (e' := nI (q (2 * j + 1))) (by rw [i1.1]; exact qj.1) ⟨i1.2, nm_r (e' := nI (tm (2 * j + 1))) (by rw [i1.1]; exact qj.2.2.1) ?_⟩⟩
  simp only [xg_rs] at k
  cases m1 : hl_meet (xg_bk q j) pick.testBit
  · rw [m1, Bool.false_and, Bool.false_or] at k
    exact br_t (ma.mpr m1) ⟨6, lp k⟩
  · have nm : ¬ (nI (q (2 * j + 1)) &&& nI pick = 0) := fun z => by rw [ma.mp z] at m1; cases m1
    by_cases l : t < tm (2 * j + 1)
    · have nl : ¬ xg_hm tm j ≤ t := by simp only [xg_hm]; omega
      rw [decide_eq_false nl, Bool.and_false, Bool.false_or] at k
      exact br_f nm (br_t (lt.mpr l) ⟨6, lp k⟩)
    · have nl : xg_hm tm j ≤ t := by simp only [xg_hm]; omega
      rw [m1, decide_eq_true nl] at k
      exact br_f nm (br_f (fun z => l (lt.mp z)) k)

theorem xw_89 (H : xw_st st q tm a_stockAt a_endTime a_openSet) (h grp pick t : Nat) (hh : h < 32) (hg : grp < 32) (hp : pick < 16) (ht : t ≤ 8) (z : Int)
    (k : post (zi_z (xg_v h grp pick t q tm z 5))) : ∀ d n, d ≤ 5 → d < n →
    wX_slackOf_89 post (nI grp) (nI pick) (nI t) f_capacity (nI h) a_stockAt a_askedSet a_endTime a_openSet n (zi_z (xg_v h grp pick t q tm z (5 - d))) (nI (5 - d)) := by
  intro d
  induction d with
  | zero =>
    intro n _ hn
    obtain ⟨m, rfl⟩ : ∃ m, n = m + 1 := ⟨n - 1, by omega⟩
    exact br_t (by decide) k
  | succ d ih =>
    intro n hd hn
    obtain ⟨m, rfl⟩ : ∃ m, n = m + 1 := ⟨n - 1, by omega⟩
    have ih' := ih m (by omega) (by omega)
    have e1 : 5 - (d + 1) = 4 - d := by omega
    have e2 : 5 - d = 4 - d + 1 := by omega
    rw [e1]
    rw [e2] at ih'
    have hi : 4 - d < 5 := by omega
    generalize 4 - d = i at ih' hi ⊢
    have b := tb_bit h hh i hi
    have g5 : ¬ (5 : Int32) ≤ nI i := nI_ge (b := 5) hi (by decide)
    simp only [xg_v] at ih'
    cases c : h.testBit i
    · have v : hl_t 1 (h.testBit i && xg_rs grp pick t q tm i) = 0 := by rw [c]; rfl
      rw [v, Int.add_zero] at ih'
      exact br_f g5 (br_f (by rw [b, c]; decide) (nm_r (nI_1 i) ih'))
    · refine br_f g5 (br_t (by rw [b, c]; rfl) (xw_rs f_capacity (nI h) a_stockAt a_askedSet a_endTime a_openSet st q tm H i grp pick t hi hg hp ht ?_))
      cases r : xg_rs grp pick t q tm i
      · have v : hl_t 1 (h.testBit i && xg_rs grp pick t q tm i) = 0 := by rw [c, r]; rfl
        rw [v, Int.add_zero] at ih'
        exact br_t rfl (nm_r (nI_1 i) ih')
      · have v : hl_t 1 (h.testBit i && xg_rs grp pick t q tm i) = 1 := by rw [c, r]; rfl
        rw [v] at ih'
        exact br_f (by decide) (nm_r (zi_s _) (nm_r (nI_1 i) ih'))

theorem xw_51 (H : xw_st st q tm a_stockAt a_endTime a_openSet) (h grp pick t r : Nat) (hr : r < 16) (z : Int)
    (k : ∃ n, wX_slackOf_89 post (nI grp) (nI pick) (nI t) f_capacity (nI h) a_stockAt a_askedSet a_endTime a_openSet n (zi_z (xg_w st r z 4)) 0) : ∀ d n, d ≤ 4 → d < n →
    wX_slackOf_51 post (nI grp) (nI pick) (nI t) (nI r) f_capacity (nI h) a_stockAt a_askedSet a_endTime a_openSet n (zi_z (xg_w st r z (4 - d))) (nI (4 - d)) := by
  intro d
  induction d with
  | zero =>
    intro n _ hn
    obtain ⟨m, rfl⟩ : ∃ m, n = m + 1 := ⟨n - 1, by omega⟩
    exact br_t (by decide) k
  | succ d ih =>
    intro n hd hn
    obtain ⟨m, rfl⟩ : ∃ m, n = m + 1 := ⟨n - 1, by omega⟩
    have ih' := ih m (by omega) (by omega)
    have e1 : 4 - (d + 1) = 3 - d := by omega
    have e2 : 4 - d = 3 - d + 1 := by omega
    rw [e1]
    rw [e2] at ih'
    have hi : 3 - d < 4 := by omega
    generalize 3 - d = i at ih' hi ⊢
    have b := tb_bit r (by omega) i (by omega)
    have g5 : ¬ (4 : Int32) ≤ nI i := nI_ge (b := 4) hi (by decide)
    simp only [xg_w] at ih'
    cases c : r.testBit i
    · have v : hl_t (st i : Int) (r.testBit i) = 0 := by rw [c]; rfl
      rw [v, Int.add_zero] at ih'
      exact br_f g5 (br_f (by rw [b, c]; decide) (nm_r (nI_1 i) ih'))
    · have v : hl_t (st i : Int) (r.testBit i) = (st i : Int) := by rw [c]; rfl
      rw [v] at ih'
      refine br_f g5 (br_t (by rw [b, c]; rfl) ⟨vp_in_nI hi (by omega), nm_r (e' := zi_z (xg_w st r z i + st i)) ?_ (nm_r (nI_1 i) ih')⟩)
      rw [nI_clamp (by omega), (H.1 i hi).1, zi_n, zi_add]

theorem xw_9 (H : xw_st st q tm a_stockAt a_endTime a_openSet) (h grp pick t : Nat) (hg : grp < 32) (hp : pick < 16)
    (k : ∃ n, wX_slackOf_51 post (nI grp) (nI pick) (nI t) (nI (xg_r grp pick q 5)) f_capacity (nI h) a_stockAt a_askedSet a_endTime a_openSet n (zi_z (xg_z grp 5)) 0) : ∀ d n, d ≤ 5 → d < n → xg_r grp pick q (5 - d) < 16 →
    wX_slackOf_9 post (nI grp) (nI pick) (nI t) f_capacity (nI h) a_stockAt a_askedSet a_endTime a_openSet n (zi_z (xg_z grp (5 - d))) (nI (xg_r grp pick q (5 - d))) (nI (5 - d)) := by
  intro d
  induction d with
  | zero =>
    intro n _ hn _
    obtain ⟨m, rfl⟩ : ∃ m, n = m + 1 := ⟨n - 1, by omega⟩
    exact br_t (by decide) k
  | succ d ih =>
    intro n hd hn hr
    obtain ⟨m, rfl⟩ : ∃ m, n = m + 1 := ⟨n - 1, by omega⟩
    have ih' := ih m (by omega) (by omega)
    have e1 : 5 - (d + 1) = 4 - d := by omega
    have e2 : 5 - d = 4 - d + 1 := by omega
    rw [e1] at hr ⊢
    rw [e2] at ih'
    have hi : 4 - d < 5 := by omega
    generalize 4 - d = i at ih' hi hr ⊢
    have b := tb_bit grp hg i hi
    have ix := xw_i0 i hi
    have qi := H.2 (2 * i) (by omega)
    have oe : a_openSet ((2 : Int32) * nI i).toNatClampNeg = nI (q (2 * i)) := by rw [ix.1]; exact qi.1
    have g5 : ¬ (5 : Int32) ≤ nI i := nI_ge (b := 5) hi (by decide)
    have o := tb_or _ hr _ qi.2.1
    simp only [xg_r, xg_z] at ih'
    cases c : grp.testBit i
    · have v : hl_t 1 (grp.testBit i) = 0 := by rw [c]; rfl
      have w : ¬ grp.testBit i = true := by rw [c]; decide
      rw [v, Int.sub_zero, if_neg w] at ih'
      exact br_f g5 (br_f (by rw [b, c]; decide) (nm_r (nI_1 i) (ih' hr)))
    · have v : hl_t 1 (grp.testBit i) = 1 := by rw [c]; rfl
      rw [v, if_pos c] at ih'
      refine br_f g5 (br_t (by rw [b, c]; rfl) ⟨ix.2, nm_r (e' := nI (xg_r grp pick q i ||| q (2 * i))) ?_ (nm_r (zi_p _) (nm_r (nI_1 i) (ih' o.2)))⟩)
      rw [oe]; exact o.1

theorem xg_r_lt (grp pick : Nat) (hp : pick < 16) (hq : ∀ e, e < 10 → q e < 16) : ∀ i, i ≤ 5 → xg_r grp pick q i < 16
  | 0, _ => hp
  | i + 1, hi => by
    have ih := xg_r_lt grp pick hp hq i (by omega)
    simp only [xg_r]
    split
    · exact (tb_or _ ih _ (hq (2 * i) (by omega))).2
    · exact ih

theorem xw_slack (H : xw_st st q tm a_stockAt a_endTime a_openSet) (h grp pick t : Nat) (hh : h < 32) (hg : grp < 32) (hp : pick < 16) (ht : t ≤ 8)
    (k : post (zi_z (xg_sl st h grp pick t q tm))) : wpX_slackOf post (f_capacity, nI h, a_stockAt, a_askedSet, a_endTime, a_openSet) (nI grp) (nI pick) (nI t) := by
  have hq : ∀ e, e < 10 → q e < 16 := fun e he => (H.2 e he).2.1
  have r5 := xg_r_lt q grp pick hp hq 5 (by omega)
  have k1 := xw_89 (post := post) f_capacity a_stockAt a_askedSet a_endTime a_openSet st q tm H h grp pick t hh hg hp ht _ k 5 6 (by omega) (by omega)
  have k2 := xw_51 (post := post) f_capacity a_stockAt a_askedSet a_endTime a_openSet st q tm H h grp pick t _ r5 (xg_z grp 5) ⟨6, k1⟩ 4 5 (by omega) (by omega)
  exact ⟨6, xw_9 (post := post) f_capacity a_stockAt a_askedSet a_endTime a_openSet st q tm H h grp pick t hg hp ⟨5, k2⟩ 5 6 (by omega) (by omega) hp⟩

theorem xw_good (H : xw_st st q tm a_stockAt a_endTime a_openSet) (h : Nat) (hh : h < 32) (k1 : xg_gd st h.testBit q tm → post 1) (k0 : ¬ xg_gd st h.testBit q tm → post 0) :
    wpX_hasGoodPlan post (f_capacity, nI h, a_stockAt, a_askedSet, a_endTime, a_openSet) := by
  have bd : ∀ g, -5 ≤ xg_sl st h g 0 0 q tm ∧ xg_sl st h g 0 0 q tm ≤ 17 := fun g => xg_sl_bd st h g 0 0 q tm (fun s hs => (H.1 s hs).2)
  have L : ∀ d n, d ≤ 31 → d < n → (∀ g, 1 ≤ g → g < 32 - d → xg_sub g h → 0 ≤ xg_sl st h g 0 0 q tm) → wX_hasGoodPlan_2 post f_capacity (nI h) a_stockAt a_askedSet a_endTime a_openSet n (nI (32 - d)) := by
    intro d
    induction d with
    | zero =>
      intro n _ hn I
      obtain ⟨m, rfl⟩ : ∃ m, n = m + 1 := ⟨n - 1, by omega⟩
      exact br_t (by decide) (k1 ((xg_gd_iff st h hh q tm).mpr I))
    | succ d ih =>
      intro n hd hn I
      obtain ⟨m, rfl⟩ : ∃ m, n = m + 1 := ⟨n - 1, by omega⟩
      have ih' := ih m (by omega) (by omega)
      have e1 : 32 - (d + 1) = 31 - d := by omega
      have e2 : 32 - d = 31 - d + 1 := by omega
      rw [e1] at I ⊢
      rw [e2] at ih'
      have hi : 31 - d < 32 := by omega
      have hi1 : 1 ≤ 31 - d ∨ 31 - d = 0 := by omega
      generalize 31 - d = i at ih' hi hi1 I ⊢
      have g5 : ¬ (32 : Int32) ≤ nI i := nI_ge (b := 32) hi (by decide)
      have sb := tb_sub i h hi hh
      by_cases c : xg_sub i h
      · refine br_f g5 (br_t (sb.mpr c) (xw_slack f_capacity a_stockAt a_askedSet a_endTime a_openSet st q tm H h i 0 0 hh hi (by omega) (by omega) ?_))
        have b := bd i
        by_cases p : 0 ≤ xg_sl st h i 0 0 q tm
        · refine br_t ((zi_0le (by omega) (by omega)).mpr p) (nm_r (nI_1 i) (ih' fun g g1 g2 s => ?_))
          by_cases e : g = i
          · rw [e]; exact p
          · exact I g g1 (by omega) s
        · refine br_f (fun z => p ((zi_0le (by omega) (by omega)).mp z)) (k0 fun G => p ?_)
          by_cases z : 1 ≤ i
          · exact (xg_gd_iff st h hh q tm).mp G i z hi c
          · have z0 : i = 0 := by omega
            subst z0
            rw [xg_sl_eq st h 0 0 0 q tm hh c, hs_sl_off _ _ _ _ _ _ _ (fun _ => false) _ 0 _ true (fun s => by simp), hs_sl_0 _ _ _ _ _ _ _ _ _ (fun j _ => by simp)]
            omega
      · refine br_f g5 (br_f (fun z => c (sb.mp z)) (nm_r (nI_1 i) (ih' fun g g1 g2 s => ?_)))
        by_cases e : g = i
        · rw [e] at s; exact absurd s c
        · exact I g g1 (by omega) s
  exact ⟨32, L 31 32 (by omega) (by omega) (fun g a b => by omega)⟩

theorem xw_room (H : xw_st st q tm a_stockAt a_endTime a_openSet) (h pick t : Nat) (hh : h < 32) (hp : pick < 16) (ht : t ≤ 8)
    (k : ∀ r : Int, (∀ g, g < 32 → xg_sub g h → r ≤ xg_sl st h g pick t q tm) → (∃ g, g < 32 ∧ xg_sub g h ∧ r = xg_sl st h g pick t q tm) → post (zi_z r)) :
    wpX_roomFor post (f_capacity, nI h, a_stockAt, a_askedSet, a_endTime, a_openSet) (nI pick) (nI t) := by
  have bd : ∀ g, -5 ≤ xg_sl st h g pick t q tm ∧ xg_sl st h g pick t q tm ≤ 17 := fun g => xg_sl_bd st h g pick t q tm (fun s hs => (H.1 s hs).2)
  have L : ∀ d n, d ≤ 31 → d < n → ∀ r : Int, (∀ g, g < 32 - d → xg_sub g h → r ≤ xg_sl st h g pick t q tm) →
      (∃ g, g < 32 - d ∧ xg_sub g h ∧ r = xg_sl st h g pick t q tm) → wX_roomFor_11 post (nI pick) (nI t) f_capacity (nI h) a_stockAt a_askedSet a_endTime a_openSet n (zi_z r) (nI (32 - d)) := by
    intro d
    induction d with
    | zero =>
      intro n _ hn r I J
      obtain ⟨m, rfl⟩ : ∃ m, n = m + 1 := ⟨n - 1, by omega⟩
      exact br_t (by decide) (k r I J)
    | succ d ih =>
      intro n hd hn r I J
      obtain ⟨m, rfl⟩ : ∃ m, n = m + 1 := ⟨n - 1, by omega⟩
      have ih' := ih m (by omega) (by omega)
      have e1 : 32 - (d + 1) = 31 - d := by omega
      have e2 : 32 - d = 31 - d + 1 := by omega
      rw [e1] at I J ⊢
      rw [e2] at ih'
      have hi : 31 - d < 32 := by omega
      generalize 31 - d = i at ih' hi I J ⊢
      have g5 : ¬ (32 : Int32) ≤ nI i := nI_ge (b := 32) hi (by decide)
      have sb := tb_sub i h hi hh
      obtain ⟨g0, a0, b0, c0⟩ := J
      have br := bd g0
      by_cases c : xg_sub i h
      · refine br_f g5 (br_t (sb.mpr c) (xw_slack f_capacity a_stockAt a_askedSet a_endTime a_openSet st q tm H h i pick t hh hi hp ht ?_))
        have b := bd i
        have cmp : (zi_z r ≤ zi_z (xg_sl st h i pick t q tm)) ↔ r ≤ xg_sl st h i pick t q tm := zi_le (by omega) (by omega) (by omega) (by omega)
        by_cases p : r ≤ xg_sl st h i pick t q tm
        · refine br_t (cmp.mpr p) (nm_r (nI_1 i) (ih' r (fun g g2 s => ?_) ⟨g0, by omega, b0, c0⟩))
          by_cases e : g = i
          · rw [e]; exact p
          · exact I g (by omega) s
        · refine br_f (fun z => p (cmp.mp z)) (nm_r (nI_1 i) (ih' _ (fun g g2 s => ?_) ⟨i, by omega, c, rfl⟩))
          by_cases e : g = i
          · rw [e]; omega
          · have := I g (by omega) s
            omega
      · refine br_f g5 (br_f (fun z => c (sb.mp z)) (nm_r (nI_1 i) (ih' r (fun g g2 s => ?_) ⟨g0, by omega, b0, c0⟩)))
        by_cases e : g = i
        · rw [e] at s; exact absurd s c
        · exact I g (by omega) s
  refine xw_slack f_capacity a_stockAt a_askedSet a_endTime a_openSet st q tm H h 0 pick t hh (by omega) hp ht ⟨32, L 31 32 (by omega) (by omega) _ (fun g a s => ?_) ⟨0, by omega, ?_, rfl⟩⟩
  · have e : g = 0 := by omega
    rw [e]; omega
  · intro j _ z; rw [Nat.zero_testBit] at z; cases z
end
end
section
-- the landed methods that narrow a set and put it back
theorem xw_up {st q tm : Nat → Nat} {sa eT oS : Nat → Int32} (H : xw_st st q tm sa eT oS) (e s : Nat) (hs : s < 4) :
    xw_st st (fp_up q e (2 ^ s)) tm sa eT (upd oS e (nI (2 ^ s))) := by
  refine ⟨H.1, fun i hi => ?_⟩
  have o := H.2 i hi
  by_cases c : i = e
  · subst c
    simp only [fp_up, if_true]
    exact ⟨pk_us, (an_pow_lt s hs).2, o.2.2⟩
  · simp only [fp_up, if_neg c]
    exact ⟨(pk_un c).trans o.1, o.2⟩

theorem xw_back (a : Nat → Int32) (e : Nat) (x : Int32) : upd (upd a e x) e (a e) = a := by
  funext j
  by_cases c : j = e
  · subst c; exact pk_us
  · rw [pk_un c, pk_un c]

section
variable {post : Int32 → SX → Prop} (f_capacity : Int32) (a_stockAt a_askedSet a_endTime a_openSet : Nat → Int32) (st q tm : Nat → Nat)

theorem xw_could (H : xw_st st q tm a_stockAt a_endTime a_openSet) (h : Nat) (hh : h < 32) (e s : Nat) (he : e < 10) (hs : s < 4)
    (k1 : fp_n st h.testBit q tm e s → post 1 (f_capacity, nI h, a_stockAt, a_askedSet, a_endTime, a_openSet)) (k0 : ¬ fp_n st h.testBit q tm e s → post 0 (f_capacity, nI h, a_stockAt, a_askedSet, a_endTime, a_openSet)) :
    wpX_couldBeAt post (f_capacity, nI h, a_stockAt, a_askedSet, a_endTime, a_openSet) (nI e) (nI s) := by
  have q1 := H.2 e he
  have ce : (nI e).toNatClampNeg = e := nI_clamp (by omega)
  have vi : vp_in (nI e) 10 := vp_in_nI he (by omega)
  have b := tb_bit (q e) (by have := q1.2.1; omega) s (by omega)
  have sl := tb_sl s (by omega)
  refine ⟨vi, nm_r (e' := nI (q e)) (by rw [ce]; exact q1.1) ?_⟩
  cases c : (q e).testBit s
  · exact br_t (by rw [b, c]; rfl) (k0 fun z => by have z1 := z.1; rw [c] at z1; cases z1)
  · refine br_f (by rw [b, c]; decide) ⟨vi, nm_r (e' := upd a_openSet e (nI (2 ^ s))) (by rw [ce, sl]) ?_⟩
    have bk : upd (upd a_openSet e (nI (2 ^ s))) (nI e).toNatClampNeg (nI (q e)) = a_openSet := by
      rw [ce, ← q1.1]; exact xw_back _ _ _
    refine xw_good f_capacity a_stockAt a_askedSet a_endTime _ st _ tm (xw_up H e s hs) h hh (fun G => ?_) (fun G => ?_)
    · exact ⟨vi, nm_r bk ⟨rfl, k1 ⟨c, G⟩⟩⟩
    · exact ⟨vi, nm_r bk ⟨rfl, k0 fun z => G z.2⟩⟩

theorem xw_31 {J4 : Int32 → Int32 → Int32 → Int32 → (Nat → Int32) → (Nat → Int32) → (Nat → Int32) → (Nat → Int32) → Prop} (x1 x2 : Int32)
    (H : xw_st st q tm a_stockAt a_endTime a_openSet) (h : Nat) (hh : h < 32) (e : Nat) (he : e < 10) (L : Nat) (hL : L < 4)
    (hn : fp_n st h.testBit q tm e L) (hm : ∀ s, s < L → ¬ fp_n st h.testBit q tm e s)
    (k : J4 (nI L) (nI (e + 1)) f_capacity (nI h) a_stockAt a_askedSet a_endTime (upd a_openSet e (nI (2 ^ L)))) : ∀ d n, d ≤ L → d < n →
    wX_stationInFirstPlan_31 post J4 x1 x2 (nI e) n (nI (L - d)) f_capacity (nI h) a_stockAt a_askedSet a_endTime a_openSet := by
  intro d
  induction d with
  | zero =>
    intro n _ hn'
    obtain ⟨m, rfl⟩ : ∃ m, n = m + 1 := ⟨n - 1, by omega⟩
    refine br_f (nI_ge (b := 4) (by omega) (by decide)) (xw_could f_capacity a_stockAt a_askedSet a_endTime a_openSet st q tm H h hh e L he hL (fun _ => ?_) (fun z => absurd hn z))
    refine br_f (by decide) ⟨vp_in_nI he (by omega), nm_r (e' := upd a_openSet e (nI (2 ^ L))) ?_ (nm_r (nI_1 e) k)⟩
    rw [nI_clamp (by omega)]
    exact congrArg (upd a_openSet e) (tb_sl L (by omega))
  | succ d ih =>
    intro n hd hn'
    obtain ⟨m, rfl⟩ : ∃ m, n = m + 1 := ⟨n - 1, by omega⟩
    have ih' := ih m (by omega) (by omega)
    have e2 : L - d = L - (d + 1) + 1 := by omega
    rw [e2] at ih'
    have hi : L - (d + 1) < L := by omega
    generalize L - (d + 1) = i at ih' hi ⊢
    refine br_f (nI_ge (b := 4) (by omega) (by decide)) (xw_could f_capacity a_stockAt a_askedSet a_endTime a_openSet st q tm H h hh e i he (by omega) (fun z => absurd z (hm i hi)) (fun _ => ?_))
    exact br_t rfl (nm_r (nI_1 i) ih')

theorem xw_77 (x2 f_held : Int32) (k : ∀ oS : Nat → Int32, (∀ i, i < 10 → oS i = a_askedSet i) → post x2 (f_capacity, f_held, a_stockAt, a_askedSet, a_endTime, oS)) : ∀ d n oS, d ≤ 10 → d < n →
    (∀ i, i < 10 - d → oS i = a_askedSet i) → wX_stationInFirstPlan_77 post x2 f_capacity f_held n (nI (10 - d)) a_stockAt a_askedSet a_endTime oS := by
  intro d
  induction d with
  | zero =>
    intro n oS _ hn I
    obtain ⟨m, rfl⟩ : ∃ m, n = m + 1 := ⟨n - 1, by omega⟩
    exact br_t (by decide) (k oS I)
  | succ d ih =>
    intro n oS hd hn I
    obtain ⟨m, rfl⟩ : ∃ m, n = m + 1 := ⟨n - 1, by omega⟩
    have ih' := fun o => ih m o (by omega) (by omega)
    have e1 : 10 - (d + 1) = 9 - d := by omega
    have e2 : 10 - d = 9 - d + 1 := by omega
    rw [e1] at I ⊢
    rw [e2] at ih'
    have hi : 9 - d < 10 := by omega
    generalize 9 - d = i at ih' hi I ⊢
    have vi : vp_in (nI i) 10 := vp_in_nI hi (by omega)
    have ci : (nI i).toNatClampNeg = i := nI_clamp (by omega)
    refine br_f (nI_ge (b := 10) hi (by decide)) ⟨vi, vi, nm_r (e' := upd oS i (a_askedSet i)) (by rw [ci]) (nm_r (nI_1 i) (ih' _ fun j hj => ?_))⟩
    by_cases c : j = i
    · subst c; exact pk_us
    · rw [pk_un c]; exact I j (by omega)

theorem xw_held {post : Int32 → Prop} (h : Nat) (hh : h < 32) (i : Nat) (hi : i < 5) (k : post (zi_b (h.testBit i))) : wpX_isHeld post (f_capacity, nI h, a_stockAt, a_askedSet, a_endTime, a_openSet) (nI i) := by
  have b := tb_bit h hh i hi
  refine br_f (nI_pos (by omega)) (br_f (nI_ge (b := 5) hi (by decide)) ?_)
  cases c : h.testBit i
  · rw [c] at k; exact br_f (by rw [b, c]; decide) k
  · rw [c] at k; exact br_t (by rw [b, c]; rfl) k

theorem xw_first (H : xw_st st q tm a_stockAt a_endTime a_openSet) (h : Nat) (hh : h < 32) (rg : an_rg h.testBit q tm) (good : xg_gd st h.testBit q tm)
    (E : Nat) (hE : E < 10) (on : h.testBit (E / 2) = true)
    (k : ∀ oS : Nat → Int32, (∀ i, i < 10 → oS i = a_askedSet i) →
      post (nI (fp_ls (fp_n st h.testBit (fp_q st h.testBit q tm E) tm E))) (f_capacity, nI h, a_stockAt, a_askedSet, a_endTime, oS)) :
    wpX_stationInFirstPlan post (f_capacity, nI h, a_stockAt, a_askedSet, a_endTime, a_openSet) (nI E) := by
  have kk : ∀ oS : Nat → Int32, ∃ n, wX_stationInFirstPlan_77 post (nI (fp_ls (fp_n st h.testBit (fp_q st h.testBit q tm E) tm E))) f_capacity (nI h) n 0 a_stockAt a_askedSet a_endTime oS :=
    fun oS => ⟨11, xw_77 f_capacity a_stockAt a_askedSet a_endTime _ (nI h) k 10 11 oS (by omega) (by omega) (fun i hi => by omega)⟩
  have L : ∀ d n (x2 : Int32) (oS : Nat → Int32), d ≤ E → d + 1 < n → xw_st st (fp_q st h.testBit q tm (E - d)) tm a_stockAt a_endTime oS →
      wX_stationInFirstPlan_4 post (nI E) n x2 (nI (E - d)) f_capacity (nI h) a_stockAt a_askedSet a_endTime oS := by
    intro d
    induction d with
    | zero =>
      intro n x2 oS _ hn I
      obtain ⟨m, rfl⟩ : ∃ m, n = m + 1 + 1 := ⟨n - 2, by omega⟩
      have inv := fp_inv st h.testBit q tm rg good E (by omega)
      have sp := fp_ls_spec (fp_n st h.testBit (fp_q st h.testBit q tm E) tm E) (fp_ex st h.testBit _ tm inv.1 inv.2.1 E (by omega) on)
      have dv : nI E / 2 = nI (E / 2) := pk_div (d := 2) (by omega) (by omega) (by omega)
      refine br_f (nI_nlt (by omega) (by omega)) (br_f (nI_ge (b := 10) hE (by decide)) ⟨by decide, ?_⟩)
      rw [Nat.sub_zero]
      rw [Nat.sub_zero] at I
      rw [dv]
      refine xw_held f_capacity a_stockAt a_askedSet a_endTime oS h hh (E / 2) (by omega) ?_
      rw [on]
      refine br_f (by decide) ⟨5, ?_⟩
      have key := xw_31 (post := post) (J4 := wX_stationInFirstPlan_4 post (nI E) (m + 1)) f_capacity a_stockAt a_askedSet a_endTime oS st _ tm (nI E) x2 I h hh E hE _ sp.1 sp.2.1 sp.2.2
        (br_t (nI_lt (by omega) (by omega)) (kk _)) _ 5 (Nat.le_refl _) (by have := sp.1; omega)
      rw [Nat.sub_self] at key
      exact key
    | succ d ih =>
      intro n x2 oS hd hn I
      obtain ⟨m, rfl⟩ : ∃ m, n = m + 1 := ⟨n - 1, by omega⟩
      have ih' := fun x o => ih m x o (by omega) (by omega)
      have e2 : E - d = E - (d + 1) + 1 := by omega
      rw [e2] at ih'
      have hi : E - (d + 1) < E := by omega
      generalize E - (d + 1) = e at ih' hi I ⊢
      have inv := fp_inv st h.testBit q tm rg good e (by omega)
      have dv : nI e / 2 = nI (e / 2) := pk_div (d := 2) (by omega) (by omega) (by omega)
      refine br_f (nI_nlt (by omega) (by omega)) (br_f (nI_ge (b := 10) (by omega) (by decide)) ⟨by decide, ?_⟩)
      rw [dv]
      refine xw_held f_capacity a_stockAt a_askedSet a_endTime oS h hh (e / 2) (by omega) ?_
      simp only [fp_q] at ih'
      cases o : h.testBit (e / 2)
      · have no : ¬ h.testBit (e / 2) = true := by rw [o]; decide
        simp only [if_neg no] at ih'
        exact br_t rfl (nm_r (nI_1 e) (ih' x2 oS I))
      · simp only [if_pos o] at ih'
        have sp := fp_ls_spec (fp_n st h.testBit (fp_q st h.testBit q tm e) tm e) (fp_ex st h.testBit _ tm inv.1 inv.2.1 e (by omega) o)
        refine br_f (by decide) ⟨5, ?_⟩
        have key := xw_31 (post := post) (J4 := wX_stationInFirstPlan_4 post (nI E) m) f_capacity a_stockAt a_askedSet a_endTime oS st _ tm (nI E) x2 I h hh e (by omega) _ sp.1 sp.2.1 sp.2.2
          (ih' _ _ (xw_up I e _ sp.1)) _ 5 (Nat.le_refl _) (by have := sp.1; omega)
        rw [Nat.sub_self] at key
        exact key
  have z := L E (E + 2) (-1) a_openSet (Nat.le_refl _) (by omega) (by rw [Nat.sub_self]; exact H)
  rw [Nat.sub_self] at z
  exact ⟨_, z⟩
end
end
section
-- the reference, step by step
theorem zi_17 : (17 : Int32) = zi_z 17 := by decide

theorem yw_bd (A : Nat → Bool) (tot : Int) (nb k s : Nat) (hs : s < 4) (ok : yq_ok A tot nb) (a : A k = true) : 0 ≤ yq_v tot k s ∧ yq_v tot k s ≤ 60 := by
  have o := ok.2 k a
  have o1 := ok.1
  rcases hl_lt4 hs with e | e | e | e <;> subst e
  · rw [yq_v0]; omega
  · rw [yq_v1]; omega
  · rw [yq_v2]; omega
  · rw [yq_v3]; omega

section
variable {f_most f_extra f_gone f_goneSet f_goneAt f_floorAt f_floorFrom f_floor f_total : Int32}
  {a_stocks a_held a_picks a_outs a_backs a_homes a_on a_pick a_out a_back a_home a_spread : Nat → Int32}

theorem yw_left {post : Int32 → Prop} (tot : Int) (ht : f_total = zi_z tot) (k s : Nat) (hk : k < 5832) (hs : s < 4) (p : post (zi_z (yq_v tot k s))) :
    wpY_left post (f_most, f_extra, f_gone, f_goneSet, f_goneAt, f_floorAt, f_floorFrom, f_floor, f_total, a_stocks, a_held, a_picks, a_outs, a_backs, a_homes, a_on, a_pick, a_out, a_back, a_home, a_spread) (nI k) (nI s) := by
  have r0 : nI k - nI k / 18 * 18 = nI (k % 18) := pk_rem (d := 18) (by omega) (by omega) (by omega)
  have d0 : nI k / 18 = nI (k / 18) := pk_div (d := 18) (by omega) (by omega) (by omega)
  have r1 : nI k / 18 - nI k / 18 / 18 * 18 = nI (k / 18 % 18) := by
    rw [d0]; exact pk_rem (d := 18) (by omega) (by omega) (by omega)
  have d2 : nI k / 324 = nI (k / 324) := pk_div (d := 324) (by omega) (by omega) (by omega)
  have n18 : ¬ (18 : Int32) = 0 := by decide
  have n324 : ¬ (324 : Int32) = 0 := by decide
  refine ⟨n18, nm_r r0 ⟨n18, n18, nm_r r1 ⟨n324, nm_r d2 ?_⟩⟩⟩
  rcases hl_lt4 hs with e | e | e | e <;> subst e
  · rw [yq_v0, ← zi_n] at p
    exact br_t nI_0 p
  · rw [yq_v1, ← zi_n] at p
    exact br_f (by decide) (br_t rfl p)
  · rw [yq_v2, ← zi_n] at p
    exact br_f (by decide) (br_f (by decide) (br_t rfl p))
  · rw [yq_v3, ← zi_sub, ← zi_sub, ← zi_sub, ← zi_n, ← zi_n, ← zi_n, ← ht] at p
    exact br_f (by decide) (br_f (by decide) (br_f (by decide) p))

theorem yw_unit {post : Int32 → Prop} (s : Nat) (hs : s < 4) (p : post (nI (yq_u s))) : wpY_unit post (f_most, f_extra, f_gone, f_goneSet, f_goneAt, f_floorAt, f_floorFrom, f_floor, f_total, a_stocks, a_held, a_picks, a_outs, a_backs, a_homes, a_on, a_pick, a_out, a_back, a_home, a_spread) (nI s) := by
  rcases hl_lt4 hs with e | e | e | e <;> subst e
  · exact br_t nI_0 p
  · exact br_f (by decide) (br_t rfl p)
  · exact br_f (by decide) (br_f (by decide) (br_t rfl p))
  · exact br_f (by decide) (br_f (by decide) (br_f (by decide) p))

theorem yw_settle {post : SY → Prop} (A M : Nat → Bool) (h : yq_sp A M a_spread) (k : ∀ sp, yq_sp M (fun _ => false) sp → post (f_most, f_extra, f_gone, f_goneSet, f_goneAt, f_floorAt, f_floorFrom, f_floor, f_total, a_stocks, a_held, a_picks, a_outs, a_backs, a_homes, a_on, a_pick, a_out, a_back, a_home, sp)) :
    wpY_settle post (f_most, f_extra, f_gone, f_goneSet, f_goneAt, f_floorAt, f_floorFrom, f_floor, f_total, a_stocks, a_held, a_picks, a_outs, a_backs, a_homes, a_on, a_pick, a_out, a_back, a_home, a_spread) := by
  have L : ∀ d n sp, d ≤ 5832 → d < n → yq_se A M (5832 - d) sp → wY_settle_2 post f_most f_extra f_gone f_goneSet f_goneAt f_floorAt f_floorFrom f_floor f_total n (nI (5832 - d)) a_stocks a_held a_picks a_outs a_backs a_homes a_on a_pick a_out a_back a_home sp := by
    intro d
    induction d with
    | zero =>
      intro n sp _ hn I
      obtain ⟨m, rfl⟩ : ∃ m, n = m + 1 := ⟨n - 1, by omega⟩
      exact br_t (nI_le (a := 5832) (by omega) (by omega)) (k sp (yq_se_e A M sp I))
    | succ d ih =>
      intro n sp hd hn I
      obtain ⟨m, rfl⟩ : ∃ m, n = m + 1 := ⟨n - 1, by omega⟩
      have ih' := fun s => ih m s (by omega) (by omega)
      have e1 : 5832 - (d + 1) = 5831 - d := by omega
      have e2 : 5832 - d = 5831 - d + 1 := by omega
      rw [e1] at I ⊢
      rw [e2] at ih'
      have hi : 5831 - d < 5832 := by omega
      generalize 5831 - d = i at ih' hi I ⊢
      have vi : vp_in (nI i) 5832 := vp_in_nI hi (by omega)
      have ci : (nI i).toNatClampNeg = i := nI_clamp (by omega)
      exact br_f (nI_ge (b := 5832) hi (by omega)) ⟨vi, vi, nm_r (e' := upd sp i (sp i >>> ((1 : Int32) &&& 31))) (by rw [ci]) (nm_r (nI_1 i) (ih' _ (yq_se_s A M i sp hi I)))⟩
  exact ⟨5833, L 5832 5833 a_spread (by omega) (by omega) (yq_se_0 A M a_spread h)⟩

theorem yw_b53 {post : SY → Prop} {J2 J11 : Int32 → (Nat → Int32) → (Nat → Int32) → (Nat → Int32) → (Nat → Int32) → (Nat → Int32) → (Nat → Int32) → (Nat → Int32) → (Nat → Int32) → (Nat → Int32) → (Nat → Int32) → (Nat → Int32) → (Nat → Int32) → Prop}
    (x1 : Int32) (i s : Nat) (hs : s < 4) (ht : i + yq_u s < 5832)
    (k : J11 (nI (s + 1)) a_stocks a_held a_picks a_outs a_backs a_homes a_on a_pick a_out a_back a_home (upd a_spread (i + yq_u s) (a_spread (i + yq_u s) ||| 2))) : wY_bring_53 post J2 J11 x1 (nI i) (nI s) f_most f_extra f_gone f_goneSet f_goneAt f_floorAt f_floorFrom f_floor f_total a_stocks a_held a_picks a_outs a_backs a_homes a_on a_pick a_out a_back a_home a_spread := by
  unfold wY_bring_53
  refine yw_unit s hs ?_
  have vi : vp_in (nI (i + yq_u s)) 5832 := vp_in_nI ht (by omega)
  have ci : (nI (i + yq_u s)).toNatClampNeg = i + yq_u s := nI_clamp (by omega)
  exact nm_r (nI_add i (yq_u s)) ⟨vi, vi, nm_r (e' := upd a_spread (i + yq_u s) (a_spread (i + yq_u s) ||| 2)) (by rw [ci]) (nm_r (nI_1 s) k)⟩

theorem yw_b11 {post : SY → Prop} {J2 : Int32 → (Nat → Int32) → (Nat → Int32) → (Nat → Int32) → (Nat → Int32) → (Nat → Int32) → (Nat → Int32) → (Nat → Int32) → (Nat → Int32) → (Nat → Int32) → (Nat → Int32) → (Nat → Int32) → (Nat → Int32) → Prop}
    (A : Nat → Bool) (tot : Int) (nb : Nat) (ok : yq_ok A tot (nb + 1)) (ht : f_total = zi_z tot) (set : Nat) (hset : set < 16) (i : Nat) (hi : i < 5832)
    (k : ∀ sp, yq_I A (fun j s => set.testBit s = true ∧ (s = 3 ∨ yq_v tot j s < 17)) (fun j s => j + yq_u s) (i + 1) 0 sp → J2 (nI (i + 1)) a_stocks a_held a_picks a_outs a_backs a_homes a_on a_pick a_out a_back a_home sp) :
    ∀ d n sp, d ≤ 4 → d < n → yq_I A (fun j s => set.testBit s = true ∧ (s = 3 ∨ yq_v tot j s < 17)) (fun j s => j + yq_u s) i (4 - d) sp →
    wY_bring_11 post J2 (nI set) (nI i) f_most f_extra f_gone f_goneSet f_goneAt f_floorAt f_floorFrom f_floor f_total n (nI (4 - d)) a_stocks a_held a_picks a_outs a_backs a_homes a_on a_pick a_out a_back a_home sp := by
  intro d
  induction d with
  | zero =>
    intro n sp _ hn I
    obtain ⟨m, rfl⟩ : ∃ m, n = m + 1 := ⟨n - 1, by omega⟩
    exact br_t (by decide) (nm_r (nI_1 i) (k sp (yq_I_4 _ _ _ i sp I)))
  | succ d ih =>
    intro n sp hd hn I
    obtain ⟨m, rfl⟩ : ∃ m, n = m + 1 := ⟨n - 1, by omega⟩
    have ih' := fun s => ih m s (by omega) (by omega)
    have e1 : 4 - (d + 1) = 3 - d := by omega
    have e2 : 4 - d = 3 - d + 1 := by omega
    rw [e1] at I ⊢
    rw [e2] at ih'
    have hs : 3 - d < 4 := by omega
    generalize 3 - d = s at ih' hs I ⊢
    have vi : vp_in (nI i) 5832 := vp_in_nI hi (by omega)
    have ci : (nI i).toNatClampNeg = i := nI_clamp (by omega)
    have b := tb_bit set (by omega) s (by omega)
    have g4 : ¬ (4 : Int32) ≤ nI s := nI_ge (b := 4) hs (by decide)
    have bit : (sp (nI i).toNatClampNeg &&& 1 = 1) ↔ A i = true := by rw [ci]; exact yq_I_a _ _ _ i s i sp hi I
    by_cases a : A i = true
    · have o := ok.2 i a
      have tl : i + yq_u s < 5832 := by
        rcases hl_lt4 hs with e | e | e | e <;> subst e <;> simp only [yq_u] <;> simp <;> omega
      cases c : set.testBit s
      · refine br_f g4 ⟨vi, br_t (bit.mpr a) (br_f (by rw [b, c]; decide) (nm_r (nI_1 s) (ih' sp (yq_I_n _ _ _ i s sp (fun z => ?_) I))))⟩
        have z1 := z.1
        rw [c] at z1; cases z1
      · by_cases s3 : s = 3
        · refine br_f g4 ⟨vi, br_t (bit.mpr a) (br_t (by rw [b, c]; rfl) (br_t (by rw [s3]; rfl) (yw_b53 (nI set) i s hs tl ?_)))⟩
          exact ih' _ (yq_I_y _ _ _ i s sp hs a ⟨c, Or.inl s3⟩ tl I)
        · have bd := yw_bd A tot (nb + 1) i s hs ok a
          have n3 : ¬ nI s = 3 := fun z => s3 ((nI_eq (b := 3) (by omega) (by decide)).mp z)
          refine br_f g4 ⟨vi, br_t (bit.mpr a) (br_t (by rw [b, c]; rfl) (br_f n3 (yw_left tot ht i s hi hs ?_)))⟩
          have cmp : ((17 : Int32) ≤ zi_z (yq_v tot i s)) ↔ 17 ≤ yq_v tot i s := by
            rw [zi_17]; exact zi_le (by omega) (by omega) (by omega) (by omega)
          by_cases v : 17 ≤ yq_v tot i s
          · refine br_t (cmp.mpr v) (nm_r (nI_1 s) (ih' sp (yq_I_n _ _ _ i s sp (fun z => ?_) I)))
            rcases z.2 with z2 | z2
            · exact s3 z2
            · omega
          · refine br_f (fun z => v (cmp.mp z)) (yw_b53 (nI set) i s hs tl ?_)
            exact ih' _ (yq_I_y _ _ _ i s sp hs a ⟨c, Or.inr (by omega)⟩ tl I)
    · exact br_f g4 ⟨vi, br_f (fun z => a (bit.mp z)) (nm_r (nI_1 i) (k sp (yq_I_f _ _ _ i s sp a I)))⟩

theorem yw_bring {post : SY → Prop} (G : Prop) (Q : (Nat → Int) → Prop) (nb set : Nat) (hset : set < 16)
    (J : yq_J G (fun v => ∃ s, s < 4 ∧ set.testBit s = true ∧ Q (hl_up v s 1)) (nb + 1) a_spread f_total)
    (k : ∀ sp ft, yq_J G Q nb sp ft → post (f_most, f_extra, f_gone, f_goneSet, f_goneAt, f_floorAt, f_floorFrom, f_floor, ft, a_stocks, a_held, a_picks, a_outs, a_backs, a_homes, a_on, a_pick, a_out, a_back, a_home, sp)) : wpY_bring post (f_most, f_extra, f_gone, f_goneSet, f_goneAt, f_floorAt, f_floorFrom, f_floor, f_total, a_stocks, a_held, a_picks, a_outs, a_backs, a_homes, a_on, a_pick, a_out, a_back, a_home, a_spread) (nI set) := by
  obtain ⟨A, tot, ht, sp0, ok, ex⟩ := J
  have L : ∀ d n sp, d ≤ 5832 → d < n → yq_I A (fun j s => set.testBit s = true ∧ (s = 3 ∨ yq_v tot j s < 17)) (fun j s => j + yq_u s) (5832 - d) 0 sp →
      wY_bring_2 post (nI set) f_most f_extra f_gone f_goneSet f_goneAt f_floorAt f_floorFrom f_floor f_total n (nI (5832 - d)) a_stocks a_held a_picks a_outs a_backs a_homes a_on a_pick a_out a_back a_home sp := by
    intro d
    induction d with
    | zero =>
      intro n sp _ hn I
      obtain ⟨m, rfl⟩ : ∃ m, n = m + 1 := ⟨n - 1, by omega⟩
      obtain ⟨M, hM, hb⟩ := I
      refine br_t (nI_le (a := 5832) (by omega) (by omega)) (yw_settle A M hM fun s' h' => ?_)
      refine nm_r (e' := zi_z (tot + 1)) (by rw [ht, zi_s]) (k s' _ (yq_J_br G set Q nb A tot ok ex M s' _ rfl h' hb))
    | succ d ih =>
      intro n sp hd hn I
      obtain ⟨m, rfl⟩ : ∃ m, n = m + 1 := ⟨n - 1, by omega⟩
      have ih' := fun s => ih m s (by omega) (by omega)
      have e1 : 5832 - (d + 1) = 5831 - d := by omega
      have e2 : 5832 - d = 5831 - d + 1 := by omega
      rw [e1] at I ⊢
      rw [e2] at ih'
      have hi : 5831 - d < 5832 := by omega
      generalize 5831 - d = i at ih' hi I ⊢
      exact br_f (nI_ge (b := 5832) hi (by omega)) ⟨5, yw_b11 A tot nb ok ht set hset i hi ih' 4 5 sp (by omega) (by omega) I⟩
  exact ⟨5833, L 5832 5833 a_spread (by omega) (by omega) (yq_I_0 _ _ _ a_spread sp0)⟩

theorem yw_f11 {post : SY → Prop} {J2 : Int32 → (Nat → Int32) → (Nat → Int32) → (Nat → Int32) → (Nat → Int32) → (Nat → Int32) → (Nat → Int32) → (Nat → Int32) → (Nat → Int32) → (Nat → Int32) → (Nat → Int32) → (Nat → Int32) → (Nat → Int32) → Prop}
    (A : Nat → Bool) (tot : Int) (nb : Nat) (ok : yq_ok A tot nb) (ht : f_total = zi_z tot) (set : Nat) (hset : set < 16) (i : Nat) (hi : i < 5832)
    (k : ∀ sp, yq_I A (fun j s => set.testBit s = true ∧ 0 < yq_v tot j s) (fun j s => j - yq_u s) (i + 1) 0 sp → J2 (nI (i + 1)) a_stocks a_held a_picks a_outs a_backs a_homes a_on a_pick a_out a_back a_home sp) :
    ∀ d n sp, d ≤ 4 → d < n → yq_I A (fun j s => set.testBit s = true ∧ 0 < yq_v tot j s) (fun j s => j - yq_u s) i (4 - d) sp →
    wY_fetch_11 post J2 (nI set) (nI i) f_most f_extra f_gone f_goneSet f_goneAt f_floorAt f_floorFrom f_floor f_total n (nI (4 - d)) a_stocks a_held a_picks a_outs a_backs a_homes a_on a_pick a_out a_back a_home sp := by
  intro d
  induction d with
  | zero =>
    intro n sp _ hn I
    obtain ⟨m, rfl⟩ : ∃ m, n = m + 1 := ⟨n - 1, by omega⟩
    exact br_t (by decide) (nm_r (nI_1 i) (k sp (yq_I_4 _ _ _ i sp I)))
  | succ d ih =>
    intro n sp hd hn I
    obtain ⟨m, rfl⟩ : ∃ m, n = m + 1 := ⟨n - 1, by omega⟩
    have ih' := fun s => ih m s (by omega) (by omega)
    have e1 : 4 - (d + 1) = 3 - d := by omega
    have e2 : 4 - d = 3 - d + 1 := by omega
    rw [e1] at I ⊢
    rw [e2] at ih'
    have hs : 3 - d < 4 := by omega
    generalize 3 - d = s at ih' hs I ⊢
    have vi : vp_in (nI i) 5832 := vp_in_nI hi (by omega)
    have ci : (nI i).toNatClampNeg = i := nI_clamp (by omega)
    have b := tb_bit set (by omega) s (by omega)
    have g4 : ¬ (4 : Int32) ≤ nI s := nI_ge (b := 4) hs (by decide)
    have bit : (sp (nI i).toNatClampNeg &&& 1 = 1) ↔ A i = true := by rw [ci]; exact yq_I_a _ _ _ i s i sp hi I
    by_cases a : A i = true
    · have o := ok.2 i a
      have bd := yw_bd A tot nb i s hs ok a
      cases c : set.testBit s
      · refine br_f g4 ⟨vi, br_t (bit.mpr a) (br_f (by rw [b, c]; decide) (nm_r (nI_1 s) (ih' sp (yq_I_n _ _ _ i s sp (fun z => ?_) I))))⟩
        have z1 := z.1
        rw [c] at z1; cases z1
      · refine br_f g4 ⟨vi, br_t (bit.mpr a) (br_t (by rw [b, c]; rfl) (yw_left tot ht i s hi hs ?_))⟩
        have cmp : (zi_z (yq_v tot i s) ≤ (0 : Int32)) ↔ yq_v tot i s ≤ 0 := by
          rw [zi_0]; exact zi_le (by omega) (by omega) (by omega) (by omega)
        by_cases v : yq_v tot i s ≤ 0
        · refine br_t (cmp.mpr v) (nm_r (nI_1 s) (ih' sp (yq_I_n _ _ _ i s sp (fun z => ?_) I)))
          have z2 := z.2
          omega
        · have ul : yq_u s ≤ i := by
            rcases hl_lt4 hs with e | e | e | e <;> subst e
            · rw [yq_v0] at v; show 1 ≤ i; omega
            · rw [yq_v1] at v; show 18 ≤ i; omega
            · rw [yq_v2] at v; show 324 ≤ i; omega
            · show 0 ≤ i; omega
          have tl : i - yq_u s < 5832 := by omega
          refine br_f (fun z => v (cmp.mp z)) (yw_unit s hs ?_)
          have vj : vp_in (nI (i - yq_u s)) 5832 := vp_in_nI tl (by omega)
          have cj : (nI (i - yq_u s)).toNatClampNeg = i - yq_u s := nI_clamp (by omega)
          refine nm_r (pk_sub ul) ⟨vj, vj, nm_r (e' := upd sp (i - yq_u s) (sp (i - yq_u s) ||| 2)) (by rw [cj]) (nm_r (nI_1 s) ?_)⟩
          exact ih' _ (yq_I_y _ _ _ i s sp hs a ⟨c, by omega⟩ tl I)
    · exact br_f g4 ⟨vi, br_f (fun z => a (bit.mp z)) (nm_r (nI_1 i) (k sp (yq_I_f _ _ _ i s sp a I)))⟩

theorem yw_fetch {post : SY → Prop} (G : Prop) (Q : (Nat → Int) → Prop) (nb set : Nat) (hset : set < 16)
    (J : yq_J G (fun v => ∃ s, s < 4 ∧ set.testBit s = true ∧ 1 ≤ v s ∧ Q (hl_up v s (-1))) nb a_spread f_total)
    (k : ∀ sp ft, yq_J G Q nb sp ft → post (f_most, f_extra, f_gone, f_goneSet, f_goneAt, f_floorAt, f_floorFrom, f_floor, ft, a_stocks, a_held, a_picks, a_outs, a_backs, a_homes, a_on, a_pick, a_out, a_back, a_home, sp)) : wpY_fetch post (f_most, f_extra, f_gone, f_goneSet, f_goneAt, f_floorAt, f_floorFrom, f_floor, f_total, a_stocks, a_held, a_picks, a_outs, a_backs, a_homes, a_on, a_pick, a_out, a_back, a_home, a_spread) (nI set) := by
  obtain ⟨A, tot, ht, sp0, ok, ex⟩ := J
  have L : ∀ d n sp, d ≤ 5832 → d < n → yq_I A (fun j s => set.testBit s = true ∧ 0 < yq_v tot j s) (fun j s => j - yq_u s) (5832 - d) 0 sp →
      wY_fetch_2 post (nI set) f_most f_extra f_gone f_goneSet f_goneAt f_floorAt f_floorFrom f_floor f_total n (nI (5832 - d)) a_stocks a_held a_picks a_outs a_backs a_homes a_on a_pick a_out a_back a_home sp := by
    intro d
    induction d with
    | zero =>
      intro n sp _ hn I
      obtain ⟨m, rfl⟩ : ∃ m, n = m + 1 := ⟨n - 1, by omega⟩
      obtain ⟨M, hM, hb⟩ := I
      refine br_t (nI_le (a := 5832) (by omega) (by omega)) (yw_settle A M hM fun s' h' => ?_)
      refine nm_r (e' := zi_z (tot + -1)) ?_ (k s' _ (yq_J_fe G set Q nb A tot ok ex M s' _ rfl h' hb))
      rw [ht, zi_1, zi_sub]; exact congrArg zi_z (by omega)
    | succ d ih =>
      intro n sp hd hn I
      obtain ⟨m, rfl⟩ : ∃ m, n = m + 1 := ⟨n - 1, by omega⟩
      have ih' := fun s => ih m s (by omega) (by omega)
      have e1 : 5832 - (d + 1) = 5831 - d := by omega
      have e2 : 5832 - d = 5831 - d + 1 := by omega
      rw [e1] at I ⊢
      rw [e2] at ih'
      have hi : 5831 - d < 5832 := by omega
      generalize 5831 - d = i at ih' hi I ⊢
      exact br_f (nI_ge (b := 5832) hi (by omega)) ⟨5, yw_f11 A tot nb ok ht set hset i hi ih' 4 5 sp (by omega) (by omega) I⟩
  exact ⟨5833, L 5832 5833 a_spread (by omega) (by omega) (yq_I_0 _ _ _ a_spread sp0)⟩
end
end
section
-- the reference's question: is there a good plan for the slots that are on, with the further ones and the floor that are asked
def yw_H (on : Nat → Bool) (q tm : Nat → Nat) (a_on a_pick a_out a_back a_home : Nat → Int32) : Prop :=
  ∀ j, j < 6 → a_on j = zi_b (on j) ∧ (on j = true → a_pick j = nI (q (2 * j)) ∧ a_out j = nI (tm (2 * j)) ∧ a_back j = nI (q (2 * j + 1)) ∧ a_home j = nI (tm (2 * j + 1)))

section
variable {f_most f_extra f_gone f_goneSet f_goneAt f_floorAt f_floorFrom f_floor f_total : Int32}
  {a_stocks a_held a_picks a_outs a_backs a_homes a_on a_pick a_out a_back a_home a_spread : Nat → Int32}

-- the floor
theorem yw_83 {post : SY → Prop} (G : Prop) (K : (Nat → Int) → Prop) (nb x s N F : Nat) (hx : x ≤ 8) (hs : s < 4) (hN : N ≤ 9) (hF : F ≤ 9)
    (e1 : f_floorAt = nI s) (e2 : f_floorFrom = nI F) (e3 : f_floor = nI N)
    (J : yq_J G (fun z => (F ≤ x → (N : Int) ≤ z s) ∧ K z) nb a_spread f_total)
    (k : ∀ sp, yq_J G K nb sp f_total → post (f_most, f_extra, f_gone, f_goneSet, f_goneAt, f_floorAt, f_floorFrom, f_floor, f_total, a_stocks, a_held, a_picks, a_outs, a_backs, a_homes, a_on, a_pick, a_out, a_back, a_home, sp)) : ∃ n, wY_pickups_83 post (nI x) f_most f_extra f_gone f_goneSet f_goneAt f_floorAt f_floorFrom f_floor f_total n 0 a_stocks a_held a_picks a_outs a_backs a_homes a_on a_pick a_out a_back a_home a_spread := by
  subst e1
  by_cases c : x < F
  · refine ⟨1, br_f (nI_ge (a := 0) (b := 5832) (by omega) (by omega)) (br_t ?_ (k a_spread (yq_J_congr G _ _ (fun v => ⟨fun z => z.2, fun z => ⟨fun h => by omega, z⟩⟩) nb nb (by omega) _ _ J)))⟩
    rw [e2]; exact nI_lt c (by omega)
  · have nc : ¬ nI x < f_floorFrom := by rw [e2]; exact nI_nlt (by omega) (by omega)
    obtain ⟨A, tot, ht, sp0, ok, ex⟩ := J
    have ex' : yq_ex A tot (fun v => (N : Int) ≤ v s ∧ K v) ↔ G :=
      (yq_ex_congr A tot _ _ (fun v => ⟨fun z => ⟨fun _ => z.1, z.2⟩, fun z => ⟨z.1 (by omega), z.2⟩⟩)).trans ex
    have L : ∀ d n sp, d ≤ 5832 → d < n → yq_fi A tot s N (5832 - d) sp → wY_pickups_83 post (nI x) f_most f_extra f_gone f_goneSet f_goneAt (nI s) f_floorFrom f_floor f_total n (nI (5832 - d)) a_stocks a_held a_picks a_outs a_backs a_homes a_on a_pick a_out a_back a_home sp := by
      intro d
      induction d with
      | zero =>
        intro n sp _ hn I
        obtain ⟨m, rfl⟩ : ∃ m, n = m + 1 := ⟨n - 1, by omega⟩
        exact br_t (nI_le (a := 5832) (by omega) (by omega)) (k sp (yq_J_fl G K nb A tot s N ok ex' sp _ ht I))
      | succ d ih =>
        intro n sp hd hn I
        obtain ⟨m, rfl⟩ : ∃ m, n = m + 1 := ⟨n - 1, by omega⟩
        have ih' := fun s => ih m s (by omega) (by omega)
        have e1' : 5832 - (d + 1) = 5831 - d := by omega
        have e2' : 5832 - d = 5831 - d + 1 := by omega
        rw [e1'] at I ⊢
        rw [e2'] at ih'
        have hi : 5831 - d < 5832 := by omega
        generalize 5831 - d = i at ih' hi I ⊢
        have vi : vp_in (nI i) 5832 := vp_in_nI hi (by omega)
        have ci : (nI i).toNatClampNeg = i := nI_clamp (by omega)
        have bit : sp (nI i).toNatClampNeg = 1 ↔ A i = true := by rw [ci]; exact yq_fi_a A tot s N i sp hi I
        refine br_f (nI_ge (b := 5832) hi (by omega)) (br_f nc ⟨vi, ?_⟩)
        by_cases a : A i = true
        · have bd := yw_bd A tot nb i s hs ok a
          refine br_t (bit.mpr a) (yw_left tot ht i s hi hs ?_)
          have cmp : (f_floor ≤ zi_z (yq_v tot i s)) ↔ (N : Int) ≤ yq_v tot i s := by
            rw [e3, zi_n]; exact zi_le (by omega) (by omega) (by omega) (by omega)
          by_cases v : (N : Int) ≤ yq_v tot i s
          · exact br_t (cmp.mpr v) (nm_r (nI_1 i) (ih' sp (yq_fi_n A tot s N i sp I (fun _ => v))))
          · exact br_f (fun z => v (cmp.mp z)) ⟨vi, nm_r (e' := upd sp i 0) (by rw [ci]) (nm_r (nI_1 i) (ih' _ (yq_fi_y A tot s N i sp I v)))⟩
        · exact br_f (fun z => a (bit.mp z)) (nm_r (nI_1 i) (ih' sp (yq_fi_n A tot s N i sp I (fun z => absurd z a))))
    exact ⟨5833, L 5832 5833 a_spread (by omega) (by omega) (yq_fi_0 A tot s N a_spread sp0)⟩

-- the further ones
theorem yw_45 {post : SY → Prop} (G : Prop) (K : (Nat → Int) → Prop) (nb x M P T : Nat) (hx : x ≤ 8) (hM : M ≤ 9) (hP : P < 16) (hT : T ≤ 8)
    (e1 : f_gone = nI M) (e2 : 0 < M → f_goneSet = nI P ∧ f_goneAt = nI T)
    (k : ∀ sp ft, yq_J G K nb sp ft → ∃ n, wY_pickups_83 post (nI x) f_most f_extra f_gone f_goneSet f_goneAt f_floorAt f_floorFrom f_floor ft n 0 a_stocks a_held a_picks a_outs a_backs a_homes a_on a_pick a_out a_back a_home sp) :
    ∀ d n sp ft, d ≤ (if x = T then M else 0) → d < n → yq_J G (hl_run K (hl_gon P.testBit [] d)) nb sp ft →
    wY_pickups_45 post (nI x) n (nI ((if x = T then M else 0) - d)) f_most f_extra f_gone f_goneSet f_goneAt f_floorAt f_floorFrom f_floor ft a_stocks a_held a_picks a_outs a_backs a_homes a_on a_pick a_out a_back a_home sp := by
  intro d
  induction d with
  | zero =>
    intro n sp ft _ hn J
    obtain ⟨m, rfl⟩ : ∃ m, n = m + 1 := ⟨n - 1, by omega⟩
    have kk := k sp ft J
    rw [Nat.sub_zero]
    by_cases c : x = T
    · rw [if_pos c]
      refine br_t ?_ kk
      rw [e1]; exact nI_le (by omega) (by omega)
    · rw [if_neg c]
      by_cases z : M = 0
      · refine br_t ?_ kk
        rw [e1, z]; exact nI_le (by omega) (by omega)
      · have e := e2 (by omega)
        refine br_f ?_ (br_f (by decide) (br_f ?_ kk))
        · rw [e1]; exact nI_ge (by omega) (by omega)
        · rw [e.2]; exact fun w => c ((nI_eq (by omega) (by omega)).mp w)
  | succ d ih =>
    intro n sp ft hd hn J
    obtain ⟨m, rfl⟩ : ∃ m, n = m + 1 := ⟨n - 1, by omega⟩
    have ih' := fun s f => ih m s f (by omega) (by omega)
    have c : x = T := by
      by_cases c : x = T
      · exact c
      · rw [if_neg c] at hd; omega
    rw [if_pos c] at hd ih' ⊢
    have e := e2 (by omega)
    have s1 : M - d = M - (d + 1) + 1 := by omega
    rw [s1] at ih'
    have hi : M - (d + 1) < M := by omega
    generalize M - (d + 1) = i at ih' hi ⊢
    refine br_f (by rw [e1]; exact nI_ge hi (by omega)) (br_f (nI_ge (b := 9) (by omega) (by decide)) (br_t (by rw [e.2, c]) ?_))
    obtain ⟨eA, eB⟩ := e
    subst eA
    refine yw_fetch G (hl_run K (hl_gon P.testBit [] d)) nb P hP J (fun sp' ft' J' => ?_)
    exact nm_r (nI_1 i) (ih' sp' ft' J')

section
variable (on : Nat → Bool) (q tm : Nat → Nat)

-- what goes out at time x
theorem yw_2 {post : SY → Prop} (H : yw_H on q tm a_on a_pick a_out a_back a_home) (rg : an_rg on q tm) (G : Prop) (K : (Nat → Int) → Prop) (nb x : Nat) (hx : x ≤ 8)
    (k : ∀ sp ft, yq_J G K nb sp ft → ∃ n, wY_pickups_45 post (nI x) n 0 f_most f_extra f_gone f_goneSet f_goneAt f_floorAt f_floorFrom f_floor ft a_stocks a_held a_picks a_outs a_backs a_homes a_on a_pick a_out a_back a_home sp) :
    ∀ d n sp ft, d ≤ 6 → d < n → yq_J G (hl_run K (hl_fes on (xg_ot tm) (xg_pk q) x [] d)) nb sp ft →
    wY_pickups_2 post (nI x) n (nI (6 - d)) f_most f_extra f_gone f_goneSet f_goneAt f_floorAt f_floorFrom f_floor ft a_stocks a_held a_picks a_outs a_backs a_homes a_on a_pick a_out a_back a_home sp := by
  intro d
  induction d with
  | zero =>
    intro n sp ft _ hn J
    obtain ⟨m, rfl⟩ : ∃ m, n = m + 1 := ⟨n - 1, by omega⟩
    exact br_t (by decide) (k sp ft J)
  | succ d ih =>
    intro n sp ft hd hn J
    obtain ⟨m, rfl⟩ : ∃ m, n = m + 1 := ⟨n - 1, by omega⟩
    have ih' := fun s f => ih m s f (by omega) (by omega)
    have s1 : 6 - (d + 1) = 5 - d := by omega
    have s2 : 6 - d = 5 - d + 1 := by omega
    rw [s1]
    rw [s2] at ih'
    simp only [hl_fes] at J
    have hi : 5 - d < 6 := by omega
    generalize 5 - d = i at ih' hi J ⊢
    have vi : vp_in (nI i) 6 := vp_in_nI hi (by omega)
    have ci : (nI i).toNatClampNeg = i := nI_clamp (by omega)
    have h := H i hi
    have o0 : a_on (nI i).toNatClampNeg = zi_b (on i) := by rw [ci]; exact h.1
    refine br_f (nI_ge (b := 6) hi (by decide)) ⟨vi, ?_⟩
    cases o : on i
    · rw [o] at o0
      have n1 : ¬ (on i = true ∧ xg_ot tm i = x) := fun z => by rw [o] at z; cases z.1
      rw [if_neg n1] at J
      exact br_t (by rw [o0]; rfl) (nm_r (nI_1 i) (ih' sp ft J))
    · rw [o] at o0
      have hh := h.2 o
      have r := rg i hi o
      have t0 : a_out (nI i).toNatClampNeg = nI (tm (2 * i)) := by rw [ci]; exact hh.2.1
      have p0 : a_pick (nI i).toNatClampNeg = nI (q (2 * i)) := by rw [ci]; exact hh.1
      refine br_f (by rw [o0]; decide) ⟨vi, ?_⟩
      by_cases c : tm (2 * i) = x
      · have n1 : on i = true ∧ xg_ot tm i = x := ⟨o, c⟩
        rw [if_pos n1] at J
        refine br_t (by rw [t0, c]) ⟨vi, ?_⟩
        rw [p0]
        refine yw_fetch G (hl_run K (hl_fes on (xg_ot tm) (xg_pk q) x [] d)) nb (q (2 * i)) r.2.2.2.1 J (fun sp' ft' J' => ?_)
        exact nm_r (nI_1 i) (ih' sp' ft' J')
      · have n1 : ¬ (on i = true ∧ xg_ot tm i = x) := fun z => c z.2
        rw [if_neg n1] at J
        refine br_f (by rw [t0]; exact fun z => c ((nI_eq (by have := r.1; omega) (by omega)).mp z)) (nm_r (nI_1 i) (ih' sp ft J))

theorem yw_pickups {post : SY → Prop} (H : yw_H on q tm a_on a_pick a_out a_back a_home) (rg : an_rg on q tm) (G : Prop) (K : (Nat → Int) → Prop)
    (nb x M P T s N F : Nat) (hx : x ≤ 8) (hM : M ≤ 9) (hP : P < 16) (hT : T ≤ 8) (hs : s < 4) (hN : N ≤ 9) (hF : F ≤ 9)
    (e1 : f_gone = nI M) (e2 : 0 < M → f_goneSet = nI P ∧ f_goneAt = nI T) (e3 : f_floorAt = nI s) (e4 : f_floorFrom = nI F) (e5 : f_floor = nI N)
    (J : yq_J G (hl_run (hl_run (fun z => (F ≤ x → (N : Int) ≤ z s) ∧ K z) (hl_gon P.testBit [] (if x = T then M else 0))) (hl_fes on (xg_ot tm) (xg_pk q) x [] 6)) nb a_spread f_total)
    (k : ∀ sp ft, yq_J G K nb sp ft → post (f_most, f_extra, f_gone, f_goneSet, f_goneAt, f_floorAt, f_floorFrom, f_floor, ft, a_stocks, a_held, a_picks, a_outs, a_backs, a_homes, a_on, a_pick, a_out, a_back, a_home, sp)) : wpY_pickups post (f_most, f_extra, f_gone, f_goneSet, f_goneAt, f_floorAt, f_floorFrom, f_floor, f_total, a_stocks, a_held, a_picks, a_outs, a_backs, a_homes, a_on, a_pick, a_out, a_back, a_home, a_spread) (nI x) := by
  refine ⟨7, yw_2 on q tm H rg G _ nb x hx (fun sp ft J1 => ?_) 6 7 a_spread f_total (by omega) (by omega) J⟩
  have z := yw_45 (post := post) (f_most := f_most) (f_extra := f_extra) (f_floorAt := f_floorAt) (f_floorFrom := f_floorFrom) (f_floor := f_floor) (a_stocks := a_stocks) (a_held := a_held)
    (a_picks := a_picks) (a_outs := a_outs) (a_backs := a_backs) (a_homes := a_homes) (a_on := a_on) (a_pick := a_pick) (a_out := a_out) (a_back := a_back) (a_home := a_home)
    G (fun z => (F ≤ x → (N : Int) ≤ z s) ∧ K z) nb x M P T hx hM hP hT e1 e2
    (fun sp2 ft2 J2 => yw_83 G K nb x s N F hx hs hN hF e3 e4 e5 J2 (fun sp3 J3 => k sp3 ft2 J3)) (if x = T then M else 0) ((if x = T then M else 0) + 1) sp ft (Nat.le_refl _) (by omega) J1
  rw [Nat.sub_self] at z
  exact ⟨_, z⟩

-- what comes back at time x
theorem yw_129 {post : Int32 → SY → Prop} {J121 : Int32 → Int32 → Int32 → Int32 → Int32 → Int32 → Int32 → Int32 → Int32 → Int32 → (Nat → Int32) → (Nat → Int32) → (Nat → Int32) → (Nat → Int32) → (Nat → Int32) → (Nat → Int32) → (Nat → Int32) → (Nat → Int32) → (Nat → Int32) → (Nat → Int32) → (Nat → Int32) → (Nat → Int32) → Prop}
    (H : yw_H on q tm a_on a_pick a_out a_back a_home) (rg : an_rg on q tm) (G : Prop) (K : (Nat → Int) → Prop) (nb x : Nat) (hx : x ≤ 8)
    (k : ∀ sp ft, yq_J G K nb sp ft → wpY_pickups (fun u => match u with | (f_most, f_extra, f_gone, f_goneSet, f_goneAt, f_floorAt, f_floorFrom, f_floor, ft', a_stocks, a_held, a_picks, a_outs, a_backs, a_homes, a_on, a_pick, a_out, a_back, a_home, a_spread) => ∀ x1_38 : Int32, x1_38 = nI x + 1 → J121 x1_38 f_most f_extra f_gone f_goneSet f_goneAt f_floorAt f_floorFrom f_floor ft' a_stocks a_held a_picks a_outs a_backs a_homes a_on a_pick a_out a_back a_home a_spread) (f_most, f_extra, f_gone, f_goneSet, f_goneAt, f_floorAt, f_floorFrom, f_floor, ft, a_stocks, a_held, a_picks, a_outs, a_backs, a_homes, a_on, a_pick, a_out, a_back, a_home, sp) (nI x)) :
    ∀ d n sp ft, d ≤ 6 → d < n → yq_J G (hl_run K (hl_brs on (xg_hm tm) (xg_bk q) x [] d)) (yq_c on (xg_hm tm) x d + nb) sp ft →
    wY_fits_129 post J121 (nI x) n (nI (6 - d)) f_most f_extra f_gone f_goneSet f_goneAt f_floorAt f_floorFrom f_floor ft a_stocks a_held a_picks a_outs a_backs a_homes a_on a_pick a_out a_back a_home sp := by
  intro d
  induction d with
  | zero =>
    intro n sp ft _ hn J
    obtain ⟨m, rfl⟩ : ∃ m, n = m + 1 := ⟨n - 1, by omega⟩
    refine br_t (by decide) (k sp ft ?_)
    have z : yq_c on (xg_hm tm) x 0 + nb = nb := by simp only [yq_c]; omega
    rw [z] at J; exact J
  | succ d ih =>
    intro n sp ft hd hn J
    obtain ⟨m, rfl⟩ : ∃ m, n = m + 1 := ⟨n - 1, by omega⟩
    have ih' := fun s f => ih m s f (by omega) (by omega)
    have s1 : 6 - (d + 1) = 5 - d := by omega
    have s2 : 6 - d = 5 - d + 1 := by omega
    rw [s1]
    rw [s2] at ih'
    simp only [hl_brs, yq_c] at J
    have hi : 5 - d < 6 := by omega
    generalize 5 - d = i at ih' hi J ⊢
    have vi : vp_in (nI i) 6 := vp_in_nI hi (by omega)
    have ci : (nI i).toNatClampNeg = i := nI_clamp (by omega)
    have h := H i hi
    have o0 : a_on (nI i).toNatClampNeg = zi_b (on i) := by rw [ci]; exact h.1
    refine br_f (nI_ge (b := 6) hi (by decide)) ⟨vi, ?_⟩
    cases o : on i
    · rw [o] at o0
      have n1 : ¬ (on i = true ∧ xg_hm tm i = x) := fun z => by rw [o] at z; cases z.1
      rw [if_neg n1, if_neg n1, Nat.zero_add] at J
      exact br_t (by rw [o0]; rfl) (nm_r (nI_1 i) (ih' sp ft J))
    · rw [o] at o0
      have hh := h.2 o
      have r := rg i hi o
      have t0 : a_home (nI i).toNatClampNeg = nI (tm (2 * i + 1)) := by rw [ci]; exact hh.2.2.2
      have p0 : a_back (nI i).toNatClampNeg = nI (q (2 * i + 1)) := by rw [ci]; exact hh.2.2.1
      refine br_f (by rw [o0]; decide) ⟨vi, ?_⟩
      by_cases c : tm (2 * i + 1) = x
      · have n1 : on i = true ∧ xg_hm tm i = x := ⟨o, c⟩
        rw [if_pos n1, if_pos n1] at J
        have z : 1 + yq_c on (xg_hm tm) x d + nb = (yq_c on (xg_hm tm) x d + nb) + 1 := by omega
        rw [z] at J
        refine br_t (by rw [t0, c]) ⟨vi, ?_⟩
        rw [p0]
        refine yw_bring G (hl_run K (hl_brs on (xg_hm tm) (xg_bk q) x [] d)) _ (q (2 * i + 1)) r.2.2.2.2.2 J (fun sp' ft' J' => ?_)
        exact nm_r (nI_1 i) (ih' sp' ft' J')
      · have n1 : ¬ (on i = true ∧ xg_hm tm i = x) := fun z => c z.2
        rw [if_neg n1, if_neg n1, Nat.zero_add] at J
        refine br_f (by rw [t0]; exact fun z => c ((nI_eq (by have := r.2.1; omega) (by omega)).mp z)) (nm_r (nI_1 i) (ih' sp ft J))

-- the answer
theorem yw_185 {post : Int32 → SY → Prop} (G : Prop) (nb : Nat) (J : yq_J G (fun _ => True) nb a_spread f_total) (k1 : G → post 1 (f_most, f_extra, f_gone, f_goneSet, f_goneAt, f_floorAt, f_floorFrom, f_floor, f_total, a_stocks, a_held, a_picks, a_outs, a_backs, a_homes, a_on, a_pick, a_out, a_back, a_home, a_spread)) (k0 : ¬ G → post 0 (f_most, f_extra, f_gone, f_goneSet, f_goneAt, f_floorAt, f_floorFrom, f_floor, f_total, a_stocks, a_held, a_picks, a_outs, a_backs, a_homes, a_on, a_pick, a_out, a_back, a_home, a_spread)) :
    ∃ n, wY_fits_185 post f_most f_extra f_gone f_goneSet f_goneAt f_floorAt f_floorFrom f_floor f_total a_stocks a_held a_picks a_outs a_backs a_homes a_on a_pick a_out a_back a_home a_spread n 0 0 := by
  have any := yq_J_any G nb a_spread f_total J
  have L1 : ∀ d n, d ≤ 5832 → d < n → G → wY_fits_185 post f_most f_extra f_gone f_goneSet f_goneAt f_floorAt f_floorFrom f_floor f_total a_stocks a_held a_picks a_outs a_backs a_homes a_on a_pick a_out a_back a_home a_spread n 1 (nI (5832 - d)) := by
    intro d
    induction d with
    | zero =>
      intro n _ hn g
      obtain ⟨m, rfl⟩ : ∃ m, n = m + 1 := ⟨n - 1, by omega⟩
      exact br_t (nI_le (a := 5832) (by omega) (by omega)) ⟨rfl, k1 g⟩
    | succ d ih =>
      intro n hd hn g
      obtain ⟨m, rfl⟩ : ∃ m, n = m + 1 := ⟨n - 1, by omega⟩
      have ih' := ih m (by omega) (by omega) g
      have s2 : 5832 - d = 5832 - (d + 1) + 1 := by omega
      rw [s2] at ih'
      exact br_f (nI_ge (b := 5832) (by omega) (by omega)) (br_f (by decide) (nm_r (nI_1 _) ih'))
  have L0 : ∀ d n, d ≤ 5832 → d < n → (∀ i, i < 5832 - d → ¬ a_spread i = 1) → wY_fits_185 post f_most f_extra f_gone f_goneSet f_goneAt f_floorAt f_floorFrom f_floor f_total a_stocks a_held a_picks a_outs a_backs a_homes a_on a_pick a_out a_back a_home a_spread n 0 (nI (5832 - d)) := by
    intro d
    induction d with
    | zero =>
      intro n _ hn I
      obtain ⟨m, rfl⟩ : ∃ m, n = m + 1 := ⟨n - 1, by omega⟩
      refine br_t (nI_le (a := 5832) (by omega) (by omega)) ⟨rfl, k0 fun g => ?_⟩
      obtain ⟨i, hi, e⟩ := any.mpr g
      exact I i (by omega) e
    | succ d ih =>
      intro n hd hn I
      obtain ⟨m, rfl⟩ : ∃ m, n = m + 1 := ⟨n - 1, by omega⟩
      have ih' := ih m (by omega) (by omega)
      have l1' := L1 d m (by omega) (by omega)
      have s2 : 5832 - d = 5832 - (d + 1) + 1 := by omega
      rw [s2] at ih' l1'
      have hi : 5832 - (d + 1) < 5832 := by omega
      generalize 5832 - (d + 1) = i at ih' l1' hi I ⊢
      have vi : vp_in (nI i) 5832 := vp_in_nI hi (by omega)
      have ci : (nI i).toNatClampNeg = i := nI_clamp (by omega)
      refine br_f (nI_ge (b := 5832) hi (by omega)) (br_t rfl ⟨vi, ?_⟩)
      by_cases c : a_spread i = 1
      · exact br_t (by rw [ci]; exact c) (nm_r (nI_1 i) (l1' (any.mp ⟨i, hi, c⟩)))
      · refine br_f (by rw [ci]; exact c) (nm_r (nI_1 i) (ih' fun j hj => ?_))
        by_cases e : j = i
        · rw [e]; exact c
        · exact I j (by omega)
  exact ⟨5833, L0 5832 5833 (by omega) (by omega) (fun i hi => by omega)⟩

theorem yw_fits {post : Int32 → SY → Prop} (H : yw_H on q tm a_on a_pick a_out a_back a_home) (rg : an_rg on q tm) (st : Nat → Nat)
    (hst : ∀ s, s < 4 → a_stocks s = nI (st s) ∧ st s ≤ 3) (E M P T s N F : Nat) (hE : E ≤ 8) (hM : M ≤ 9) (hP : P < 16) (hT : T ≤ 8) (hs : s < 4) (hN : N ≤ 9) (hF : F ≤ 9)
    (e0 : f_extra = nI E) (e1 : f_gone = nI M) (e2 : 0 < M → f_goneSet = nI P ∧ f_goneAt = nI T) (e3 : f_floorAt = nI s) (e4 : f_floorFrom = nI F) (e5 : f_floor = nI N)
    (k1 : fl_ext (fl_go on (xg_pk q) (xg_ot tm) (xg_bk q) (xg_hm tm) M P.testBit T s (N : Int) F 9) E (xg_st st) → ∀ sp ft, post 1 (f_most, f_extra, f_gone, f_goneSet, f_goneAt, f_floorAt, f_floorFrom, f_floor, ft, a_stocks, a_held, a_picks, a_outs, a_backs, a_homes, a_on, a_pick, a_out, a_back, a_home, sp))
    (k0 : ¬ fl_ext (fl_go on (xg_pk q) (xg_ot tm) (xg_bk q) (xg_hm tm) M P.testBit T s (N : Int) F 9) E (xg_st st) → ∀ sp ft, post 0 (f_most, f_extra, f_gone, f_goneSet, f_goneAt, f_floorAt, f_floorFrom, f_floor, ft, a_stocks, a_held, a_picks, a_outs, a_backs, a_homes, a_on, a_pick, a_out, a_back, a_home, sp)) :
    wpY_fits post (f_most, f_extra, f_gone, f_goneSet, f_goneAt, f_floorAt, f_floorFrom, f_floor, f_total, a_stocks, a_held, a_picks, a_outs, a_backs, a_homes, a_on, a_pick, a_out, a_back, a_home, a_spread) := by
  generalize hG : fl_ext (fl_go on (xg_pk q) (xg_ot tm) (xg_bk q) (xg_hm tm) M P.testBit T s (N : Int) F 9) E (xg_st st) = G at k1 k0
  -- the times
  have L2 : ∀ d n sp ft, d ≤ 9 → d < n → yq_J G (fl_go on (xg_pk q) (xg_ot tm) (xg_bk q) (xg_hm tm) M P.testBit T s (N : Int) F d) (yq_n on (xg_hm tm) d) sp ft →
      wY_fits_121 post n (nI (9 - d)) f_most f_extra f_gone f_goneSet f_goneAt f_floorAt f_floorFrom f_floor ft a_stocks a_held a_picks a_outs a_backs a_homes a_on a_pick a_out a_back a_home sp := by
    intro d
    induction d with
    | zero =>
      intro n sp ft _ hn J
      obtain ⟨m, rfl⟩ : ∃ m, n = m + 1 := ⟨n - 1, by omega⟩
      exact br_t (by decide) (yw_185 G _ J (fun g => k1 g sp ft) (fun g => k0 g sp ft))
    | succ d ih =>
      intro n sp ft hd hn J
      obtain ⟨m, rfl⟩ : ∃ m, n = m + 1 := ⟨n - 1, by omega⟩
      have ih' := fun s f => ih m s f (by omega) (by omega)
      have s1 : 9 - (d + 1) = 8 - d := by omega
      have s2 : 9 - d = 8 - d + 1 := by omega
      rw [s1]
      rw [s2] at ih'
      simp only [yq_n] at J
      have hx : 8 - d ≤ 8 := by omega
      refine br_f (nI_nlt (a := 8) (by omega) (by omega)) ⟨7, ?_⟩
      refine yw_129 on q tm H rg G _ (yq_n on (xg_hm tm) d) (8 - d) hx (fun sp1 ft1 J1 => ?_) 6 7 sp ft (by omega) (by omega) J
      refine yw_pickups on q tm H rg G _ _ (8 - d) M P T s N F hx hM hP hT hs hN hF e1 e2 e3 e4 e5 J1 (fun sp2 ft2 J2 => ?_)
      exact nm_r (nI_1 _) (ih' sp2 ft2 J2)
  -- the further vehicles
  have L1 : ∀ d n sp ft, d ≤ E → d < n → yq_J G (fl_ext (fl_go on (xg_pk q) (xg_ot tm) (xg_bk q) (xg_hm tm) M P.testBit T s (N : Int) F 9) d) (d + yq_n on (xg_hm tm) 9) sp ft →
      wY_fits_93 post n (nI (E - d)) f_most f_extra f_gone f_goneSet f_goneAt f_floorAt f_floorFrom f_floor ft a_stocks a_held a_picks a_outs a_backs a_homes a_on a_pick a_out a_back a_home sp := by
    intro d
    induction d with
    | zero =>
      intro n sp ft _ hn J
      obtain ⟨m, rfl⟩ : ∃ m, n = m + 1 := ⟨n - 1, by omega⟩
      rw [Nat.zero_add] at J
      refine br_t (by rw [e0]; exact nI_le (by omega) (by omega)) ⟨10, L2 9 10 sp ft (by omega) (by omega) J⟩
    | succ d ih =>
      intro n sp ft hd hn J
      obtain ⟨m, rfl⟩ : ∃ m, n = m + 1 := ⟨n - 1, by omega⟩
      have ih' := fun s f => ih m s f (by omega) (by omega)
      have s2 : E - d = E - (d + 1) + 1 := by omega
      rw [s2] at ih'
      have hi : E - (d + 1) < E := by omega
      generalize E - (d + 1) = i at ih' hi ⊢
      have z : d + 1 + yq_n on (xg_hm tm) 9 = (d + yq_n on (xg_hm tm) 9) + 1 := by omega
      rw [z] at J
      have J' := yq_J_congr G _ (fun v => ∃ s', s' < 4 ∧ (15 : Nat).testBit s' = true ∧ fl_ext (fl_go on (xg_pk q) (xg_ot tm) (xg_bk q) (xg_hm tm) M P.testBit T s (N : Int) F 9) d (hl_up v s' 1))
        (fun v => ⟨fun ⟨r, a, _, c⟩ => ⟨r, a, by rcases hl_lt4 a with e | e | e | e <;> subst e <;> decide, c⟩, fun ⟨r, a, _, c⟩ => ⟨r, a, decide_eq_true a, c⟩⟩) _ _ (Nat.le_refl _) sp ft J
      refine br_f (by rw [e0]; exact nI_ge hi (by omega)) (br_f (nI_ge (b := 9) (by omega) (by decide)) ?_)
      refine yw_bring G _ _ 15 (by omega) J' (fun sp' ft' J2 => ?_)
      exact nm_r (nI_1 i) (ih' sp' ft' J2)
  -- the empty table, and the stocks
  have h0 := hst 0 (by omega)
  have h1 := hst 1 (by omega)
  have h2 := hst 2 (by omega)
  have h3 := hst 3 (by omega)
  have key : (a_stocks 0 + 18 * a_stocks 1) + 324 * a_stocks 2 = nI (st 0 + 18 * st 1 + 324 * st 2) := by
    rw [h0.1, h1.1, h2.1]
    have a : (18 : Int32) * nI (st 1) = nI (18 * st 1) := pk_mul 18 (st 1)
    have b : (324 : Int32) * nI (st 2) = nI (324 * st 2) := pk_mul 324 (st 2)
    rw [a, b, nI_add, nI_add]
  have tot : ((a_stocks 0 + a_stocks 1) + a_stocks 2) + a_stocks 3 = zi_z ((st 0 : Int) + st 1 + st 2 + st 3) := by
    rw [h0.1, h1.1, h2.1, h3.1, zi_n, zi_n, zi_n, zi_n, zi_add, zi_add, zi_add]
  have L0 : ∀ d n sp, d ≤ 5832 → d < n → (∀ i, i < 5832 - d → sp i = 0) → wY_fits_7 post f_most f_extra f_gone f_goneSet f_goneAt f_floorAt f_floorFrom f_floor 0 n (nI (5832 - d)) a_stocks a_held a_picks a_outs a_backs a_homes a_on a_pick a_out a_back a_home sp := by
    intro d
    induction d with
    | zero =>
      intro n sp _ hn I
      obtain ⟨m, rfl⟩ : ∃ m, n = m + 1 := ⟨n - 1, by omega⟩
      have vk : vp_in ((a_stocks 0 + 18 * a_stocks 1) + 324 * a_stocks 2) 5832 := by rw [key]; exact vp_in_nI (by omega) (by omega)
      refine br_t (nI_le (a := 5832) (by omega) (by omega)) ⟨vk, nm_r (e' := upd sp (st 0 + 18 * st 1 + 324 * st 2) 1) (by rw [key, nI_clamp (by omega)]) (nm_r tot ?_)⟩
      have n9 := yq_n9 on (xg_hm tm)
      have j0 := yq_J_0 st (fun s hs => (hst s hs).2) (fl_ext (fl_go on (xg_pk q) (xg_ot tm) (xg_bk q) (xg_hm tm) M P.testBit T s (N : Int) F 9) E) (E + yq_n on (xg_hm tm) 9) (by omega)
        (upd sp (st 0 + 18 * st 1 + 324 * st 2) 1) _ rfl (fun k hk => by
          by_cases c : k = st 0 + 18 * st 1 + 324 * st 2
          · rw [c, if_pos rfl]; exact pk_us
          · rw [if_neg c, pk_un c]; exact I k (by omega))
      rw [hG] at j0
      have z := L1 E (E + 1) _ _ (Nat.le_refl _) (by omega) j0
      rw [Nat.sub_self] at z
      exact ⟨_, z⟩
    | succ d ih =>
      intro n sp hd hn I
      obtain ⟨m, rfl⟩ : ∃ m, n = m + 1 := ⟨n - 1, by omega⟩
      have ih' := fun s => ih m s (by omega) (by omega)
      have s2 : 5832 - d = 5832 - (d + 1) + 1 := by omega
      rw [s2] at ih'
      have hi : 5832 - (d + 1) < 5832 := by omega
      generalize 5832 - (d + 1) = i at ih' hi I ⊢
      have vi : vp_in (nI i) 5832 := vp_in_nI hi (by omega)
      have ci : (nI i).toNatClampNeg = i := nI_clamp (by omega)
      refine br_f (nI_ge (b := 5832) hi (by omega)) ⟨vi, nm_r (e' := upd sp i 0) (by rw [ci]) (nm_r (nI_1 i) (ih' _ fun j hj => ?_))⟩
      by_cases c : j = i
      · rw [c]; exact pk_us
      · rw [pk_un c]; exact I j (by omega)
  exact ⟨5833, L0 5832 5833 a_spread (by omega) (by omega) (fun i hi => by omega)⟩
end
end
end
section
-- the reference's own methods, each with what it leaves
theorem yw_n1 : vp_nar .boolean 1 = zi_b true := by decide
theorem yw_n0 : vp_nar .boolean 0 = zi_b false := by decide

section
variable {f_most f_extra f_gone f_goneSet f_goneAt f_floorAt f_floorFrom f_floor f_total : Int32}
  {a_stocks a_held a_picks a_outs a_backs a_homes a_on a_pick a_out a_back a_home a_spread : Nat → Int32}

def yw_B (h : Nat) (q tm : Nat → Nat) (a_held a_picks a_outs a_backs a_homes : Nat → Int32) : Prop :=
  ∀ j, j < 5 → a_held j = zi_b (h.testBit j) ∧
    (h.testBit j = true → a_picks j = nI (q (2 * j)) ∧ a_outs j = nI (tm (2 * j)) ∧ a_backs j = nI (q (2 * j + 1)) ∧ a_homes j = nI (tm (2 * j + 1)))

theorem yw_ask {post : SY → Prop} (h : Nat) (hh : h < 32) (q tm : Nat → Nat) (B : yw_B h q tm a_held a_picks a_outs a_backs a_homes)
    (k : ∀ on pk ou ba ho : Nat → Int32, yw_H h.testBit q tm on pk ou ba ho →
      post (f_most, 0, 0, f_goneSet, f_goneAt, 0, 9, 0, f_total, a_stocks, a_held, a_picks, a_outs, a_backs, a_homes, on, pk, ou, ba, ho, a_spread)) : wpY_ask post (f_most, f_extra, f_gone, f_goneSet, f_goneAt, f_floorAt, f_floorFrom, f_floor, f_total, a_stocks, a_held, a_picks, a_outs, a_backs, a_homes, a_on, a_pick, a_out, a_back, a_home, a_spread) := by
  have L : ∀ d n (on pk ou ba ho : Nat → Int32), d ≤ 5 → d < n →
      (∀ j, j < 5 - d → on j = zi_b (h.testBit j) ∧ (h.testBit j = true → pk j = nI (q (2 * j)) ∧ ou j = nI (tm (2 * j)) ∧ ba j = nI (q (2 * j + 1)) ∧ ho j = nI (tm (2 * j + 1)))) →
      wY_ask_2 post f_most f_extra f_gone f_goneSet f_goneAt f_floorAt f_floorFrom f_floor f_total n (nI (5 - d)) a_stocks a_held a_picks a_outs a_backs a_homes on pk ou ba ho a_spread := by
    intro d
    induction d with
    | zero =>
      intro n on pk ou ba ho _ hn I
      obtain ⟨m, rfl⟩ : ∃ m, n = m + 1 := ⟨n - 1, by omega⟩
      refine br_t (by decide) (nm_r (e' := upd on 5 (zi_b false)) (by rw [yw_n0]) (k _ pk ou ba ho fun j hj => ?_))
      by_cases c : j = 5
      · subst c
        have b5 := xg_b5 h hh 5 (by omega)
        refine ⟨by rw [b5]; exact pk_us, fun z => ?_⟩
        rw [b5] at z; cases z
      · have z := I j (by omega)
        exact ⟨(pk_un c).trans z.1, z.2⟩
    | succ d ih =>
      intro n on pk ou ba ho hd hn I
      obtain ⟨m, rfl⟩ : ∃ m, n = m + 1 := ⟨n - 1, by omega⟩
      have ih' := fun a b c e f => ih m a b c e f (by omega) (by omega)
      have e1 : 5 - (d + 1) = 4 - d := by omega
      have e2 : 5 - d = 4 - d + 1 := by omega
      rw [e1] at I ⊢
      rw [e2] at ih'
      have hi : 4 - d < 5 := by omega
      generalize 4 - d = i at ih' hi I ⊢
      have v5 : vp_in (nI i) 5 := vp_in_nI hi (by omega)
      have v6 : vp_in (nI i) 6 := vp_in_nI (by omega) (by omega)
      have ci : (nI i).toNatClampNeg = i := nI_clamp (by omega)
      have b := B i hi
      refine br_f (nI_ge (b := 5) hi (by decide)) ⟨v5, v6, nm_r (e' := upd on i (zi_b (h.testBit i))) (by rw [ci, b.1, zi_vn]) ⟨v5, v6,
        nm_r (e' := upd pk i (a_picks i)) (by rw [ci]) ⟨v5, v6, nm_r (e' := upd ou i (a_outs i)) (by rw [ci]) ⟨v5, v6,
        nm_r (e' := upd ba i (a_backs i)) (by rw [ci]) ⟨v5, v6, nm_r (e' := upd ho i (a_homes i)) (by rw [ci]) (nm_r (nI_1 i) (ih' _ _ _ _ _ fun j hj => ?_))⟩⟩⟩⟩⟩
      by_cases c : j = i
      · subst c
        refine ⟨pk_us, fun z => ?_⟩
        rw [pk_us, pk_us, pk_us, pk_us]; exact b.2 z
      · rw [pk_un c, pk_un c, pk_un c, pk_un c, pk_un c]; exact I j (by omega)
  exact ⟨6, L 5 6 a_on a_pick a_out a_back a_home (by omega) (by omega) (fun j hj => by omega)⟩

theorem yw_there {post : Int32 → Prop} (h : Nat) (hH : ∀ j, j < 5 → a_held j = zi_b (h.testBit j)) (i : Nat) (hi : i < 5) (k : post (zi_b (h.testBit i))) :
    wpY_there post (f_most, f_extra, f_gone, f_goneSet, f_goneAt, f_floorAt, f_floorFrom, f_floor, f_total, a_stocks, a_held, a_picks, a_outs, a_backs, a_homes, a_on, a_pick, a_out, a_back, a_home, a_spread) (nI i) := by
  have e : a_held (nI i).toNatClampNeg = zi_b (h.testBit i) := by rw [nI_clamp (by omega)]; exact hH i hi
  refine br_f (nI_pos (by omega)) (br_f (nI_ge (b := 5) hi (by decide)) ⟨vp_in_nI hi (by omega), ?_⟩)
  cases c : h.testBit i
  · rw [c] at k e; exact br_t (by rw [e]; rfl) k
  · rw [c] at k e; exact br_f (by rw [e]; decide) k

theorem yw_there_out {post : Int32 → Prop} (x : Int32) (o : x < 0 ∨ nI 5 ≤ x) (k : post 0) : wpY_there post (f_most, f_extra, f_gone, f_goneSet, f_goneAt, f_floorAt, f_floorFrom, f_floor, f_total, a_stocks, a_held, a_picks, a_outs, a_backs, a_homes, a_on, a_pick, a_out, a_back, a_home, a_spread) x := by
  by_cases c : x < 0
  · exact br_t c k
  · exact br_f c (br_t (o.resolve_left c) k)

theorem yw_plain {post : Int32 → SY → Prop} (on : Nat → Bool) (q tm : Nat → Nat) (H : yw_H on q tm a_on a_pick a_out a_back a_home) (rg : an_rg on q tm) (st : Nat → Nat)
    (hst : ∀ s, s < 4 → a_stocks s = nI (st s) ∧ st s ≤ 3)
    (k1 : xg_gd st on q tm → ∀ sp ft, post 1 (f_most, 0, 0, f_goneSet, f_goneAt, 0, 9, 0, ft, a_stocks, a_held, a_picks, a_outs, a_backs, a_homes, a_on, a_pick, a_out, a_back, a_home, sp))
    (k0 : ¬ xg_gd st on q tm → ∀ sp ft, post 0 (f_most, 0, 0, f_goneSet, f_goneAt, 0, 9, 0, ft, a_stocks, a_held, a_picks, a_outs, a_backs, a_homes, a_on, a_pick, a_out, a_back, a_home, sp)) :
    wpY_fits post (f_most, 0, 0, f_goneSet, f_goneAt, 0, 9, 0, f_total, a_stocks, a_held, a_picks, a_outs, a_backs, a_homes, a_on, a_pick, a_out, a_back, a_home, a_spread) := by
  have p := an_plain st on q tm rg 0 ((0 : Nat) : Int)
  exact yw_fits on q tm H rg st hst 0 0 0 0 0 0 9 (by omega) (by omega) (by omega) (by omega) (by omega) (by omega) (by omega) nI_0.symm nI_0.symm (fun z => absurd z (by omega))
    nI_0.symm rfl nI_0.symm (fun g => k1 (p.mp g)) (fun g => k0 (fun z => g (p.mpr z)))

-- narrowing an end of slot j
theorem yw_H_pk (on : Nat → Bool) (q tm : Nat → Nat) (H : yw_H on q tm a_on a_pick a_out a_back a_home) (j v : Nat) (P : Nat → Int32) (hj : P j = nI v) (hP : ∀ i, ¬ i = j → P i = a_pick i) :
    yw_H on (fp_up q (2 * j) v) tm a_on P a_out a_back a_home := by
  intro i hi
  have h := H i hi
  refine ⟨h.1, fun o => ?_⟩
  have e1 : ¬ 2 * i + 1 = 2 * j := by omega
  simp only [fp_up, if_neg e1]
  refine ⟨?_, (h.2 o).2⟩
  by_cases c : i = j
  · subst c; rw [if_pos rfl]; exact hj
  · have e2 : ¬ 2 * i = 2 * j := by omega
    rw [if_neg e2, hP i c]; exact (h.2 o).1

theorem yw_H_bk (on : Nat → Bool) (q tm : Nat → Nat) (H : yw_H on q tm a_on a_pick a_out a_back a_home) (j v : Nat) (P : Nat → Int32) (hj : P j = nI v) (hP : ∀ i, ¬ i = j → P i = a_back i) :
    yw_H on (fp_up q (2 * j + 1) v) tm a_on a_pick a_out P a_home := by
  intro i hi
  have h := H i hi
  refine ⟨h.1, fun o => ?_⟩
  have e1 : ¬ 2 * i = 2 * j + 1 := by omega
  simp only [fp_up, if_neg e1]
  have z := h.2 o
  refine ⟨z.1, z.2.1, ?_, z.2.2.2⟩
  by_cases c : i = j
  · subst c; rw [if_pos rfl]; exact hj
  · have e2 : ¬ 2 * i + 1 = 2 * j + 1 := by omega
    rw [if_neg e2, hP i c]; exact z.2.2.1

section
variable (on : Nat → Bool) (q tm st : Nat → Nat)

theorem yw_12 {post : SY → Prop} (H : yw_H on q tm a_on a_pick a_out a_back a_home) (rg : an_rg on q tm) (hst : ∀ s, s < 4 → a_stocks s = nI (st s) ∧ st s ≤ 3)
    (j : Nat) (hj : j < 6) (o : on j = true) (L : Nat) (hL : L < 4) (hn : fp_n st on q tm (2 * j) L) (hm : ∀ s, s < L → ¬ fp_n st on q tm (2 * j) s)
    (k : ∀ P sp ft, P j = nI (2 ^ L) → (∀ i, ¬ i = j → P i = a_pick i) →
      wY_settleOne_53 post (nI j) f_most 0 0 f_goneSet f_goneAt 0 9 0 ft a_stocks a_held a_picks a_outs a_backs a_homes a_on P a_out a_back a_home sp) :
    ∀ d n P sp ft, d ≤ L → d + 1 < n → (∀ i, ¬ i = j → P i = a_pick i) →
    wY_settleOne_12 post (nI j) (nI (q (2 * j))) n 0 (nI (L - d)) f_most 0 0 f_goneSet f_goneAt 0 9 0 ft a_stocks a_held a_picks a_outs a_backs a_homes a_on P a_out a_back a_home sp := by
  have vj : vp_in (nI j) 6 := vp_in_nI hj (by omega)
  have cj : (nI j).toNatClampNeg = j := nI_clamp (by omega)
  have r := rg j hj o
  have up : ∀ (P : Nat → Int32) (x : Int32), (∀ i, ¬ i = j → P i = a_pick i) → ∀ i, ¬ i = j → upd P j x i = a_pick i := fun P x hP i c => (pk_un c).trans (hP i c)
  intro d
  induction d with
  | zero =>
    intro n P sp ft _ hn' hP
    obtain ⟨m, rfl⟩ : ∃ m, n = m + 1 + 1 := ⟨n - 2, by omega⟩
    have b := tb_bit (q (2 * j)) (by omega) L (by omega)
    have c : (q (2 * j)).testBit L = true := hn.1
    rw [Nat.sub_zero]
    refine br_f (nI_ge (b := 4) hL (by decide)) (br_t rfl (br_t (by rw [b, c]; rfl) ⟨vj, nm_r (e' := upd P j (nI (2 ^ L))) (by rw [cj, tb_sl L (by omega)]) ?_⟩))
    refine yw_plain on _ tm (yw_H_pk on q tm H j (2 ^ L) _ pk_us (up P _ hP)) (fp_rg on q tm (2 * j) L hL rg) st hst (fun _ sp' ft' => ?_) (fun g => absurd hn.2 g)
    refine nm_r (nI_1 L) ?_
    have kk := k (upd P j (nI (2 ^ L))) sp' ft' pk_us (up P _ hP)
    by_cases c4 : 4 ≤ L + 1
    · exact br_t (nI_le (a := 4) c4 (by omega)) kk
    · exact br_f (nI_ge (b := 4) (by omega) (by decide)) (br_f (by decide) kk)
  | succ d ih =>
    intro n P sp ft hd hn' hP
    obtain ⟨m, rfl⟩ : ∃ m, n = m + 1 := ⟨n - 1, by omega⟩
    have ih' := fun a b c => ih m a b c (by omega) (by omega)
    have e2 : L - d = L - (d + 1) + 1 := by omega
    rw [e2] at ih'
    have hi : L - (d + 1) < L := by omega
    generalize L - (d + 1) = s at ih' hi ⊢
    have b := tb_bit (q (2 * j)) (by omega) s (by omega)
    cases c : (q (2 * j)).testBit s
    · exact br_f (nI_ge (b := 4) (by omega) (by decide)) (br_t rfl (br_f (by rw [b, c]; decide) (nm_r (nI_1 s) (ih' P sp ft hP))))
    · refine br_f (nI_ge (b := 4) (by omega) (by decide)) (br_t rfl (br_t (by rw [b, c]; rfl) ⟨vj, nm_r (e' := upd P j (nI (2 ^ s))) (by rw [cj, tb_sl s (by omega)]) ?_⟩))
      refine yw_plain on _ tm (yw_H_pk on q tm H j (2 ^ s) _ pk_us (up P _ hP)) (fp_rg on q tm (2 * j) s (by omega) rg) st hst (fun g => absurd ⟨c, g⟩ (hm s hi)) (fun _ sp' ft' => ?_)
      exact nm_r (nI_1 s) (ih' _ sp' ft' (up P _ hP))

theorem yw_65 {post : SY → Prop} (H : yw_H on q tm a_on a_pick a_out a_back a_home) (rg : an_rg on q tm) (hst : ∀ s, s < 4 → a_stocks s = nI (st s) ∧ st s ≤ 3)
    (j : Nat) (hj : j < 6) (o : on j = true) (L : Nat) (hL : L < 4) (hn : fp_n st on q tm (2 * j + 1) L) (hm : ∀ s, s < L → ¬ fp_n st on q tm (2 * j + 1) s)
    (k : ∀ P sp ft, P j = nI (2 ^ L) → (∀ i, ¬ i = j → P i = a_back i) →
      post (f_most, 0, 0, f_goneSet, f_goneAt, 0, 9, 0, ft, a_stocks, a_held, a_picks, a_outs, a_backs, a_homes, a_on, a_pick, a_out, P, a_home, sp)) :
    ∀ d n P sp ft, d ≤ L → d + 1 < n → (∀ i, ¬ i = j → P i = a_back i) →
    wY_settleOne_65 post (nI j) (nI (q (2 * j + 1))) n 0 (nI (L - d)) f_most 0 0 f_goneSet f_goneAt 0 9 0 ft a_stocks a_held a_picks a_outs a_backs a_homes a_on a_pick a_out P a_home sp := by
  have vj : vp_in (nI j) 6 := vp_in_nI hj (by omega)
  have cj : (nI j).toNatClampNeg = j := nI_clamp (by omega)
  have r := rg j hj o
  have up : ∀ (P : Nat → Int32) (x : Int32), (∀ i, ¬ i = j → P i = a_back i) → ∀ i, ¬ i = j → upd P j x i = a_back i := fun P x hP i c => (pk_un c).trans (hP i c)
  intro d
  induction d with
  | zero =>
    intro n P sp ft _ hn' hP
    obtain ⟨m, rfl⟩ : ∃ m, n = m + 1 + 1 := ⟨n - 2, by omega⟩
    have b := tb_bit (q (2 * j + 1)) (by omega) L (by omega)
    have c : (q (2 * j + 1)).testBit L = true := hn.1
    rw [Nat.sub_zero]
    refine br_f (nI_ge (b := 4) hL (by decide)) (br_t rfl (br_t (by rw [b, c]; rfl) ⟨vj, nm_r (e' := upd P j (nI (2 ^ L))) (by rw [cj, tb_sl L (by omega)]) ?_⟩))
    refine yw_plain on _ tm (yw_H_bk on q tm H j (2 ^ L) _ pk_us (up P _ hP)) (fp_rg on q tm (2 * j + 1) L hL rg) st hst (fun _ sp' ft' => ?_) (fun g => absurd hn.2 g)
    refine nm_r (nI_1 L) ?_
    have kk := k (upd P j (nI (2 ^ L))) sp' ft' pk_us (up P _ hP)
    by_cases c4 : 4 ≤ L + 1
    · exact br_t (nI_le (a := 4) c4 (by omega)) kk
    · exact br_f (nI_ge (b := 4) (by omega) (by decide)) (br_f (by decide) kk)
  | succ d ih =>
    intro n P sp ft hd hn' hP
    obtain ⟨m, rfl⟩ : ∃ m, n = m + 1 := ⟨n - 1, by omega⟩
    have ih' := fun a b c => ih m a b c (by omega) (by omega)
    have e2 : L - d = L - (d + 1) + 1 := by omega
    rw [e2] at ih'
    have hi : L - (d + 1) < L := by omega
    generalize L - (d + 1) = s at ih' hi ⊢
    have b := tb_bit (q (2 * j + 1)) (by omega) s (by omega)
    cases c : (q (2 * j + 1)).testBit s
    · exact br_f (nI_ge (b := 4) (by omega) (by decide)) (br_t rfl (br_f (by rw [b, c]; decide) (nm_r (nI_1 s) (ih' P sp ft hP))))
    · refine br_f (nI_ge (b := 4) (by omega) (by decide)) (br_t rfl (br_t (by rw [b, c]; rfl) ⟨vj, nm_r (e' := upd P j (nI (2 ^ s))) (by rw [cj, tb_sl s (by omega)]) ?_⟩))
      refine yw_plain on _ tm (yw_H_bk on q tm H j (2 ^ s) _ pk_us (up P _ hP)) (fp_rg on q tm (2 * j + 1) s (by omega) rg) st hst (fun g => absurd ⟨c, g⟩ (hm s hi)) (fun _ sp' ft' => ?_)
      exact nm_r (nI_1 s) (ih' _ sp' ft' (up P _ hP))

theorem yw_12s {post : SY → Prop} (H : yw_H on q tm a_on a_pick a_out a_back a_home) (rg : an_rg on q tm) (hst : ∀ s, s < 4 → a_stocks s = nI (st s) ∧ st s ≤ 3)
    (j : Nat) (hj : j < 6) (o : on j = true) (L : Nat) (hL : L < 4) (hn : fp_n st on q tm (2 * j) L) (hm : ∀ s, s < L → ¬ fp_n st on q tm (2 * j) s)
    (k : ∀ P sp ft, P j = nI (2 ^ L) → (∀ i, ¬ i = j → P i = a_pick i) → wY_settleOne_53 post (nI j) f_most 0 0 f_goneSet f_goneAt 0 9 0 ft a_stocks a_held a_picks a_outs a_backs a_homes a_on P a_out a_back a_home sp) :
    ∃ n, wY_settleOne_12 post (nI j) (nI (q (2 * j))) n 0 0 f_most 0 0 f_goneSet f_goneAt 0 9 0 f_total a_stocks a_held a_picks a_outs a_backs a_homes a_on a_pick a_out a_back a_home a_spread := by
  have z := yw_12 on q tm st H rg hst j hj o L hL hn hm k L 6 a_pick a_spread f_total (Nat.le_refl _) (by omega) (fun _ _ => rfl)
  rw [Nat.sub_self] at z
  exact ⟨6, z⟩

theorem yw_65s {post : SY → Prop} (H : yw_H on q tm a_on a_pick a_out a_back a_home) (rg : an_rg on q tm) (hst : ∀ s, s < 4 → a_stocks s = nI (st s) ∧ st s ≤ 3)
    (j : Nat) (hj : j < 6) (o : on j = true) (L : Nat) (hL : L < 4) (hn : fp_n st on q tm (2 * j + 1) L) (hm : ∀ s, s < L → ¬ fp_n st on q tm (2 * j + 1) s)
    (k : ∀ P sp ft, P j = nI (2 ^ L) → (∀ i, ¬ i = j → P i = a_back i) → post (f_most, 0, 0, f_goneSet, f_goneAt, 0, 9, 0, ft, a_stocks, a_held, a_picks, a_outs, a_backs, a_homes, a_on, a_pick, a_out, P, a_home, sp)) :
    ∃ n, wY_settleOne_65 post (nI j) (nI (q (2 * j + 1))) n 0 0 f_most 0 0 f_goneSet f_goneAt 0 9 0 f_total a_stocks a_held a_picks a_outs a_backs a_homes a_on a_pick a_out a_back a_home a_spread := by
  have z := yw_65 on q tm st H rg hst j hj o L hL hn hm k L 6 a_back a_spread f_total (Nat.le_refl _) (by omega) (fun _ _ => rfl)
  rw [Nat.sub_self] at z
  exact ⟨6, z⟩
end
end
end
section
-- the reference's first plan, its probe, its counts
theorem fp_q_s (st : Nat → Nat) (on : Nat → Bool) (q tm : Nat → Nat) (e : Nat) (o : on (e / 2) = true) :
    fp_q st on q tm (e + 1) = fp_up (fp_q st on q tm e) e (2 ^ fp_ls (fp_n st on (fp_q st on q tm e) tm e)) := by
  simp only [fp_q, if_pos o]
theorem fp_q_n (st : Nat → Nat) (on : Nat → Bool) (q tm : Nat → Nat) (e : Nat) (o : ¬ on (e / 2) = true) : fp_q st on q tm (e + 1) = fp_q st on q tm e := by
  simp only [fp_q, if_neg o]

def tb_cn (h : Nat) : Nat → Nat
  | 0 => 0
  | d + 1 => tb_cn h d + (h.testBit (4 - d)).toNat
def tb_ln (h : Nat) : Nat → Nat
  | 0 => 5
  | d + 1 => if h.testBit (4 - d) = true then tb_ln h d else 4 - d
theorem tb_cn5 : ∀ h, h < 32 → tb_cn h 5 = tb_pc h ∧ tb_ln h 5 = tb_lf h := by decide +kernel
theorem tb_pc_le : ∀ h, h < 32 → tb_pc h ≤ 5 := by decide +kernel
theorem tb_bo1 : ∀ h, h < 32 → ∀ i, i < 5 → h.testBit i = true → nI (h % 2 ^ i) ||| ((1 : Int32) <<< (nI i &&& 31)) = nI (h % 2 ^ (i + 1)) := by decide +kernel
theorem tb_bo0 : ∀ h, h < 32 → ∀ i, i < 5 → h.testBit i = false → nI (h % 2 ^ i) ||| 0 = nI (h % 2 ^ (i + 1)) := by decide +kernel

section
variable {f_most f_extra f_gone f_goneSet f_goneAt f_floorAt f_floorFrom f_floor f_total : Int32}
  {a_stocks a_held a_picks a_outs a_backs a_homes a_on a_pick a_out a_back a_home a_spread : Nat → Int32}

theorem yw_settleOne {post : SY → Prop} (st : Nat → Nat) (on : Nat → Bool) (q tm : Nat → Nat) (rg : an_rg on q tm) (good : xg_gd st on q tm)
    (hst : ∀ s, s < 4 → a_stocks s = nI (st s) ∧ st s ≤ 3) (j : Nat) (hj : j < 5) (o : on j = true) (H : yw_H on (fp_q st on q tm (2 * j)) tm a_on a_pick a_out a_back a_home)
    (k : ∀ P B sp ft, yw_H on (fp_q st on q tm (2 * j + 1 + 1)) tm a_on P a_out B a_home →
      post (f_most, 0, 0, f_goneSet, f_goneAt, 0, 9, 0, ft, a_stocks, a_held, a_picks, a_outs, a_backs, a_homes, a_on, P, a_out, B, a_home, sp)) :
    wpY_settleOne post (f_most, 0, 0, f_goneSet, f_goneAt, 0, 9, 0, f_total, a_stocks, a_held, a_picks, a_outs, a_backs, a_homes, a_on, a_pick, a_out, a_back, a_home, a_spread) (nI j) := by
  have d0 : 2 * j / 2 = j := by omega
  have d1 : (2 * j + 1) / 2 = j := by omega
  have i0 := fp_inv st on q tm rg good (2 * j) (by omega)
  have i1 := fp_inv st on q tm rg good (2 * j + 1) (by omega)
  have s0 := fp_ls_spec (fp_n st on (fp_q st on q tm (2 * j)) tm (2 * j)) (fp_ex st on _ tm i0.1 i0.2.1 (2 * j) (by omega) (by rw [d0]; exact o))
  have s1 := fp_ls_spec (fp_n st on (fp_q st on q tm (2 * j + 1)) tm (2 * j + 1)) (fp_ex st on _ tm i1.1 i1.2.1 (2 * j + 1) (by omega) (by rw [d1]; exact o))
  have q1 := fp_q_s st on q tm (2 * j) (by rw [d0]; exact o)
  have q2 := fp_q_s st on q tm (2 * j + 1) (by rw [d1]; exact o)
  have vj : vp_in (nI j) 6 := vp_in_nI (by omega) (by omega)
  have cj : (nI j).toNatClampNeg = j := nI_clamp (by omega)
  have hj0 := (H j (by omega)).2 o
  refine ⟨vj, nm_r (e' := nI (fp_q st on q tm (2 * j) (2 * j))) (by rw [cj]; exact hj0.1)
    (yw_12s on (fp_q st on q tm (2 * j)) tm st H i0.1 hst j (by omega) o _ s0.1 s0.2.1 s0.2.2 (fun P sp ft hPj hP => ?_))⟩
  have H1 : yw_H on (fp_q st on q tm (2 * j + 1)) tm a_on P a_out a_back a_home := by
    rw [q1]; exact yw_H_pk on _ tm H j _ P hPj hP
  have hj1 := (H1 j (by omega)).2 o
  unfold wY_settleOne_53
  refine ⟨vj, nm_r (e' := nI (fp_q st on q tm (2 * j + 1) (2 * j + 1))) (by rw [cj]; exact hj1.2.2.1)
    (yw_65s on (fp_q st on q tm (2 * j + 1)) tm st H1 i1.1 hst j (by omega) o _ s1.1 s1.2.1 s1.2.2 (fun B sp2 ft2 hBj hB => ?_))⟩
  refine k P B sp2 ft2 ?_
  rw [q2]; exact yw_H_bk on _ tm H1 j _ B hBj hB

theorem yw_first {post : SY → Prop} (st : Nat → Nat) (h : Nat) (hh : h < 32) (q tm : Nat → Nat) (rg : an_rg h.testBit q tm) (good : xg_gd st h.testBit q tm)
    (hst : ∀ s, s < 4 → a_stocks s = nI (st s) ∧ st s ≤ 3) (B : yw_B h q tm a_held a_picks a_outs a_backs a_homes) (I : Nat) (hI : I < 5)
    (k : ∀ on pk ou ba ho sp ft, yw_H h.testBit (fp_q st h.testBit q tm (2 * I + 1 + 1)) tm on pk ou ba ho →
      post (f_most, 0, 0, f_goneSet, f_goneAt, 0, 9, 0, ft, a_stocks, a_held, a_picks, a_outs, a_backs, a_homes, on, pk, ou, ba, ho, sp)) : wpY_firstPlan post (f_most, f_extra, f_gone, f_goneSet, f_goneAt, f_floorAt, f_floorFrom, f_floor, f_total, a_stocks, a_held, a_picks, a_outs, a_backs, a_homes, a_on, a_pick, a_out, a_back, a_home, a_spread) (nI I) := by
  refine yw_ask h hh q tm B (fun on pk ou ba ho H => ?_)
  have L : ∀ d n pk ba sp ft, d ≤ I + 1 → d < n → yw_H h.testBit (fp_q st h.testBit q tm (2 * (I + 1 - d))) tm on pk ou ba ho →
      wY_firstPlan_6 post (nI I) n (nI (I + 1 - d)) f_most 0 0 f_goneSet f_goneAt 0 9 0 ft a_stocks a_held a_picks a_outs a_backs a_homes on pk ou ba ho sp := by
    intro d
    induction d with
    | zero =>
      intro n pk ba sp ft _ hn H
      obtain ⟨m, rfl⟩ : ∃ m, n = m + 1 := ⟨n - 1, by omega⟩
      have e : 2 * (I + 1 - 0) = 2 * I + 1 + 1 := by omega
      rw [e] at H
      exact br_t (nI_lt (by omega) (by omega)) (k on pk ou ba ho sp ft H)
    | succ d ih =>
      intro n pk ba sp ft hd hn H
      obtain ⟨m, rfl⟩ : ∃ m, n = m + 1 := ⟨n - 1, by omega⟩
      have ih' := fun a b c e => ih m a b c e (by omega) (by omega)
      have e2 : I + 1 - d = I + 1 - (d + 1) + 1 := by omega
      rw [e2] at ih'
      have hi : I + 1 - (d + 1) ≤ I := by omega
      generalize I + 1 - (d + 1) = j at ih' hi H ⊢
      have vj : vp_in (nI j) 5 := vp_in_nI (by omega) (by omega)
      have hb : a_held (nI j).toNatClampNeg = zi_b (h.testBit j) := by rw [nI_clamp (by omega)]; exact (B j (by omega)).1
      have ee : 2 * (j + 1) = 2 * j + 1 + 1 := by omega
      rw [ee] at ih'
      refine br_f (nI_nlt hi (by omega)) (br_f (nI_ge (b := 5) (by omega) (by decide)) ⟨vj, ?_⟩)
      cases o : h.testBit j
      · rw [o] at hb
        have n0 : ¬ h.testBit (2 * j / 2) = true := by
          have z : 2 * j / 2 = j := by omega
          rw [z, o]; decide
        have n1 : ¬ h.testBit ((2 * j + 1) / 2) = true := by
          have z : (2 * j + 1) / 2 = j := by omega
          rw [z, o]; decide
        rw [fp_q_n st h.testBit q tm (2 * j + 1) n1, fp_q_n st h.testBit q tm (2 * j) n0] at ih'
        exact br_t (by rw [hb]; rfl) (nm_r (nI_1 j) (ih' pk ba sp ft H))
      · rw [o] at hb
        refine br_f (by rw [hb]; decide) (yw_settleOne st h.testBit q tm rg good hst j (by omega) o H (fun P B' sp' ft' H' => ?_))
        exact nm_r (nI_1 j) (ih' P B' sp' ft' H')
  have z := L (I + 1) (I + 2) pk ba a_spread f_total (Nat.le_refl _) (by omega) (by rw [Nat.sub_self]; exact H)
  rw [Nat.sub_self] at z
  exact ⟨_, z⟩

theorem yw_stationOf {post : Int32 → Prop} (L : Nat) (hL : L < 4) (k : post (nI L)) : wpY_stationOf post (f_most, f_extra, f_gone, f_goneSet, f_goneAt, f_floorAt, f_floorFrom, f_floor, f_total, a_stocks, a_held, a_picks, a_outs, a_backs, a_homes, a_on, a_pick, a_out, a_back, a_home, a_spread) (nI (2 ^ L)) := by
  rcases hl_lt4 hL with e | e | e | e <;> subst e
  · exact br_t (by decide) k
  · exact br_f (by decide) (br_t (by decide) k)
  · exact br_f (by decide) (br_f (by decide) (br_t (by decide) k))
  · exact br_f (by decide) (br_f (by decide) (br_f (by decide) k))

theorem yw_bookings {post : Int32 → Prop} (h : Nat) (hh : h < 32) (hH : ∀ j, j < 5 → a_held j = zi_b (h.testBit j)) (k : post (nI h)) : wpY_bookings post (f_most, f_extra, f_gone, f_goneSet, f_goneAt, f_floorAt, f_floorFrom, f_floor, f_total, a_stocks, a_held, a_picks, a_outs, a_backs, a_homes, a_on, a_pick, a_out, a_back, a_home, a_spread) := by
  have L : ∀ d n, d ≤ 5 → d < n → wY_bookings_4 post f_most f_extra f_gone f_goneSet f_goneAt f_floorAt f_floorFrom f_floor f_total a_stocks a_held a_picks a_outs a_backs a_homes a_on a_pick a_out a_back a_home a_spread n (nI (h % 2 ^ (5 - d))) (nI (5 - d)) := by
    intro d
    induction d with
    | zero =>
      intro n _ hn
      obtain ⟨m, rfl⟩ : ∃ m, n = m + 1 := ⟨n - 1, by omega⟩
      have e : h % 2 ^ (5 - 0) = h := Nat.mod_eq_of_lt hh
      rw [e]
      exact br_t (by decide) k
    | succ d ih =>
      intro n hd hn
      obtain ⟨m, rfl⟩ : ∃ m, n = m + 1 := ⟨n - 1, by omega⟩
      have ih' := ih m (by omega) (by omega)
      have e1 : 5 - (d + 1) = 4 - d := by omega
      have e2 : 5 - d = 4 - d + 1 := by omega
      rw [e1]
      rw [e2] at ih'
      have hi : 4 - d < 5 := by omega
      generalize 4 - d = i at ih' hi ⊢
      have hb : a_held (nI i).toNatClampNeg = zi_b (h.testBit i) := by rw [nI_clamp (by omega)]; exact hH i hi
      refine br_f (nI_ge (b := 5) hi (by decide)) ⟨vp_in_nI hi (by omega), ?_⟩
      cases o : h.testBit i
      · rw [o] at hb
        exact br_t (by rw [hb]; rfl) (nm_r (tb_bo0 h hh i hi o) (nm_r (nI_1 i) ih'))
      · rw [o] at hb
        exact br_f (by rw [hb]; decide) (nm_r (tb_bo1 h hh i hi o) (nm_r (nI_1 i) ih'))
  have z := L 5 6 (by omega) (by omega)
  have e : h % 2 ^ (5 - 5) = 0 := Nat.mod_one h
  rw [e] at z
  exact ⟨6, z⟩

theorem rl_sw5e (i : Nat) (hi : i < 5) : hs_sw i 5 = i := by
  have n5 : ¬ 5 = i := by omega
  simp only [hs_sw, if_neg n5, if_true]

theorem yw_H5 (h : Nat) (hh : h < 32) (q tm : Nat → Nat) (i p t b u : Nat) (hi : i < 5) (f : h.testBit i = false) (H : yw_H h.testBit q tm a_on a_pick a_out a_back a_home) :
    yw_H (fun j => (h ||| 2 ^ i).testBit (hs_sw i j)) (an_sw i (rl_q q i p b)) (an_sw i (rl_q tm i t u)) (upd a_on 5 (zi_b true)) (upd a_pick 5 (nI p)) (upd a_out 5 (nI t))
      (upd a_back 5 (nI b)) (upd a_home 5 (nI u)) := by
  intro j hj
  rw [an_sw0, an_sw0, an_sw1, an_sw1]
  by_cases c : j = 5
  · subst c
    rw [rl_sw5e i hi, rl_q0, rl_q0, rl_q1, rl_q1]
    refine ⟨?_, fun _ => ⟨pk_us, pk_us, pk_us, pk_us⟩⟩
    have e : (h ||| 2 ^ i).testBit i = true := by have z := rl_sw_5 h i hi; rw [rl_sw5e i hi] at z; exact z
    show _ = zi_b ((h ||| 2 ^ i).testBit (hs_sw i 5))
    rw [rl_sw5e i hi, e]; exact pk_us
  · rw [pk_un c, pk_un c, pk_un c, pk_un c, pk_un c]
    have z := H j hj
    by_cases d : j = i
    · subst d
      have e := rl_sw_i h j hh hi
      refine ⟨?_, fun w => ?_⟩
      · show _ = zi_b ((h ||| 2 ^ j).testBit (hs_sw j j))
        rw [e, z.1, f]
      · exfalso
        have w' : (h ||| 2 ^ j).testBit (hs_sw j j) = true := w
        rw [e] at w'; cases w'
    · have e := rl_sw_j h i j (by omega) d
      refine ⟨?_, fun w => ?_⟩
      · show _ = zi_b ((h ||| 2 ^ i).testBit (hs_sw i j))
        rw [e.2]; exact z.1
      · have w' : (h ||| 2 ^ i).testBit (hs_sw i j) = true := w
        rw [e.2] at w'
        rw [e.1, rl_qn0 q i p b j d, rl_qn1 q i p b j d, rl_qn0 tm i t u j d, rl_qn1 tm i t u j d]
        exact z.2 w'

theorem yw_probe {post : Int32 → SY → Prop} (cap h : Nat) (st q tm : Nat → Nat) (R : rl_R cap h st q tm) (hc : f_most = nI cap)
    (hst : ∀ s, s < 4 → a_stocks s = nI (st s) ∧ st s ≤ 3) (B : yw_B h q tm a_held a_picks a_outs a_backs a_homes)
    (p t b u : Nat) (hp1 : 1 ≤ p) (hp : p < 16) (hb1 : 1 ≤ b) (hb : b < 16) (htu : t < u) (hu : u ≤ 8)
    (kf : cap ≤ tb_lf h → post (-2) (f_most, f_extra, f_gone, f_goneSet, f_goneAt, f_floorAt, f_floorFrom, f_floor, f_total, a_stocks, a_held, a_picks, a_outs, a_backs, a_homes, a_on, a_pick, a_out, a_back, a_home, a_spread))
    (k1 : tb_lf h < cap → xg_gd st (h ||| 2 ^ tb_lf h).testBit (rl_q q (tb_lf h) p b) (rl_q tm (tb_lf h) t u) → ∀ on pk ou ba ho sp ft,
      post (nI (tb_lf h)) (f_most, 0, 0, f_goneSet, f_goneAt, 0, 9, 0, ft, a_stocks, a_held, a_picks, a_outs, a_backs, a_homes, on, pk, ou, ba, ho, sp))
    (k0 : tb_lf h < cap → ¬ xg_gd st (h ||| 2 ^ tb_lf h).testBit (rl_q q (tb_lf h) p b) (rl_q tm (tb_lf h) t u) → ∀ on pk ou ba ho sp ft,
      post (-3) (f_most, 0, 0, f_goneSet, f_goneAt, 0, 9, 0, ft, a_stocks, a_held, a_picks, a_outs, a_backs, a_homes, on, pk, ou, ba, ho, sp)) :
    wpY_probe post (f_most, f_extra, f_gone, f_goneSet, f_goneAt, f_floorAt, f_floorFrom, f_floor, f_total, a_stocks, a_held, a_picks, a_outs, a_backs, a_homes, a_on, a_pick, a_out, a_back, a_home, a_spread) (nI p) (nI t) (nI b) (nI u) := by
  have hh := rl_h R
  have full := tb_full cap R.2.1 R.1 h hh R.2.2.1
  have lf5 := tb_lf_le h hh
  have pc5 := tb_pc_le h hh
  have c6 := R.2.1
  have c5 := tb_cn5 h hh
  refine br_f (nI_nlt (b := 1) hp1 (by omega)) (br_f (nI_nlt (a := 15) (by omega) (by omega)) (br_f (nI_nlt (b := 1) hb1 (by omega)) (br_f (nI_nlt (a := 15) (by omega) (by omega))
    (br_f (nI_pos (by omega)) (br_f (nI_ge htu (by omega)) (br_t (nI_le (b := 8) hu (by omega)) (br_t rfl ?_)))))))
  have L : ∀ r n, r ≤ 5 → r < n → wY_probe_23 post (nI p) (nI t) (nI b) (nI u) f_most f_extra f_gone f_goneSet f_goneAt f_floorAt f_floorFrom f_floor f_total a_stocks a_held a_picks a_outs a_backs a_homes a_on a_pick a_out a_back a_home a_spread n (nI (tb_cn h (5 - r))) (nI (tb_ln h (5 - r))) (zi_z ((r : Int) - 1)) := by
    intro r
    induction r with
    | zero =>
      intro n _ hn
      obtain ⟨m, rfl⟩ : ∃ m, n = m + 1 := ⟨n - 1, by omega⟩
      rw [Nat.sub_zero, c5.1, c5.2]
      refine br_t (by decide) ?_
      by_cases a1 : cap ≤ tb_pc h
      · exact br_t (by rw [hc]; exact nI_le a1 (by omega)) (kf (full.mpr (Or.inl a1)))
      · refine br_f (by rw [hc]; exact nI_ge (by omega) (by omega)) ?_
        by_cases a2 : 5 ≤ tb_lf h
        · exact br_f (nI_ge (a := 4) (by omega) (by omega)) (kf (full.mpr (Or.inr a2)))
        · have lc : tb_lf h < cap := by
            apply Classical.byContradiction
            intro z
            rcases full.mp (by omega) with w | w
            · exact a1 w
            · exact a2 w
          have li : tb_lf h < 5 := by omega
          have free := tb_lf_free h hh li
          refine br_t (nI_le (b := 4) (by omega) (by omega)) (yw_ask h hh q tm B (fun on pk ou ba ho H => ?_))
          refine nm_r (e' := upd on 5 (zi_b true)) (by rw [yw_n1]) (nm_e (nm_e (nm_e (nm_e ?_))))
          have sw := an_swap st (h ||| 2 ^ tb_lf h).testBit (rl_q q (tb_lf h) p b) (rl_q tm (tb_lf h) t u) (tb_lf h) li
          refine yw_plain _ _ _ (yw_H5 h hh q tm (tb_lf h) p t b u li free H) (an_sw_rg _ _ _ (tb_lf h) li (rl_set_rg (tb_lf h) p t b u R hp1 hp hb1 hb (by omega) hu)) st hst
            (fun g sp ft => ?_) (fun g sp ft => ?_)
          · exact br_f (by decide) (k1 lc (sw.mp g) _ _ _ _ _ sp ft)
          · exact br_t rfl (k0 lc (fun w => g (sw.mpr w)) _ _ _ _ _ sp ft)
    | succ r ih =>
      intro n hr hn
      obtain ⟨m, rfl⟩ : ∃ m, n = m + 1 := ⟨n - 1, by omega⟩
      have ih' := ih m (by omega) (by omega)
      have e0 : zi_z (((r + 1 : Nat) : Int) - 1) = nI r := by
        rw [zi_n]; exact congrArg zi_z (by omega)
      have e1 : 5 - (r + 1) = 4 - r := by omega
      have e2 : 5 - r = 4 - r + 1 := by omega
      have e3 : 4 - (4 - r) = r := by omega
      rw [e0, e1]
      rw [e2] at ih'
      simp only [tb_cn, tb_ln, e3] at ih'
      have vr : vp_in (nI r) 5 := vp_in_nI (by omega) (by omega)
      have hb' : a_held (nI r).toNatClampNeg = zi_b (h.testBit r) := by rw [nI_clamp (by omega)]; exact (B r (by omega)).1
      have x7 : nI r + (-1) = zi_z ((r : Int) - 1) := by rw [zi_n, zi_p]
      refine br_f (nI_pos (by omega)) ⟨vr, ?_⟩
      unfold wY_probe_45
      cases o : h.testBit r
      · rw [o] at hb' ih'
        have no : ¬ false = true := by decide
        rw [if_neg no] at ih'
        refine br_t (by rw [hb']; rfl) (nm_r (e' := nI (tb_cn h (4 - r) + Bool.toNat false)) ?_ ⟨vr, br_t (by rw [hb']; rfl) (nm_r x7 ih')⟩)
        exact nI_add _ 0
      · rw [o] at hb' ih'
        rw [if_pos rfl] at ih'
        refine br_f (by rw [hb']; decide) (nm_r (e' := nI (tb_cn h (4 - r) + Bool.toNat true)) ?_ ⟨vr, br_f (by rw [hb']; decide) (nm_r x7 ih')⟩)
        exact nI_add _ 1
  exact ⟨6, L 5 6 (by omega) (by omega)⟩
end
end
section
-- how many vehicles are wanting, how many can be spared; the landed methods that book
section
variable {f_most f_extra f_gone f_goneSet f_goneAt f_floorAt f_floorFrom f_floor f_total : Int32}
  {a_stocks a_held a_picks a_outs a_backs a_homes a_on a_pick a_out a_back a_home a_spread : Nat → Int32}

theorem yw_short {post : Int32 → SY → Prop} (cap h : Nat) (st q tm : Nat → Nat) (R : rl_R cap h st q tm)
    (hst : ∀ s, s < 4 → a_stocks s = nI (st s) ∧ st s ≤ 3) (B : yw_B h q tm a_held a_picks a_outs a_backs a_homes)
    (p t n : Nat) (hp1 : 1 ≤ p) (hp : p < 16) (ht : t ≤ 8) (hn : n ≤ 9) (room : Int)
    (hr : ∀ z, (∀ g, z ≤ hs_sl (xg_st st) h.testBit (xg_pk q) (xg_ot tm) (xg_bk q) (xg_hm tm) p.testBit t g true) ↔ z ≤ room) (hr0 : 0 ≤ room)
    (A : Nat) (hA : ∀ e : Nat, A ≤ e ↔ (n : Int) - e ≤ room)
    (k : ∀ ex gn gs ga fa ff fl on pk ou ba ho sp ft, post (nI A) (f_most, ex, gn, gs, ga, fa, ff, fl, ft, a_stocks, a_held, a_picks, a_outs, a_backs, a_homes, on, pk, ou, ba, ho, sp)) :
    wpY_shortage post (f_most, f_extra, f_gone, f_goneSet, f_goneAt, f_floorAt, f_floorFrom, f_floor, f_total, a_stocks, a_held, a_picks, a_outs, a_backs, a_homes, a_on, a_pick, a_out, a_back, a_home, a_spread) (nI p) (nI t) (nI n) := by
  have hh := rl_h R
  have A9 : A ≤ 9 := (hA 9).mpr (by omega)
  have rg := R.2.2.2.2.2.1
  have good := R.2.2.2.2.2.2
  refine br_f (nI_nlt (b := 1) hp1 (by omega)) (br_f (nI_nlt (a := 15) (by omega) (by omega)) (br_f (nI_pos (by omega)) (br_f (nI_nlt (a := 8) ht (by omega))
    (br_f (nI_pos (by omega)) (br_t (nI_le (b := 9) hn (by omega)) (yw_ask h hh q tm B (fun on pk ou ba ho H => ?_)))))))
  by_cases n0 : n = 0
  · subst n0
    have A0 : A = 0 := by
      have z := (hA 0).mpr (by omega)
      omega
    subst A0
    exact ⟨1, br_f (by decide) (yw_plain h.testBit q tm H rg st hst (fun _ sp ft => br_f (by decide) (k _ _ _ _ _ _ _ on pk ou ba ho sp ft)) (fun g => absurd good g))⟩
  · have F : ∀ (e : Nat) (post' : Int32 → SY → Prop) (sp : Nat → Int32) (ft : Int32), e ≤ 8 →
        (A ≤ e → ∀ sp' ft', post' 1 (f_most, nI e, nI n, nI p, nI t, 0, 9, 0, ft', a_stocks, a_held, a_picks, a_outs, a_backs, a_homes, on, pk, ou, ba, ho, sp')) →
        (¬ A ≤ e → ∀ sp' ft', post' 0 (f_most, nI e, nI n, nI p, nI t, 0, 9, 0, ft', a_stocks, a_held, a_picks, a_outs, a_backs, a_homes, on, pk, ou, ba, ho, sp')) →
        wpY_fits post' (f_most, nI e, nI n, nI p, nI t, 0, 9, 0, ft, a_stocks, a_held, a_picks, a_outs, a_backs, a_homes, on, pk, ou, ba, ho, sp) := by
      intro e post' sp ft he y1 y0
      have sh := an_short st h.testBit q tm rg good p t n e hp1 hp ht (by omega) room hr 0 ((0 : Nat) : Int)
      exact yw_fits h.testBit q tm H rg st hst e n p t 0 0 9 he hn hp ht (by omega) (by omega) (by omega) rfl rfl (fun _ => ⟨rfl, rfl⟩) nI_0.symm rfl nI_0.symm
        (fun g => y1 ((hA e).mpr (sh.mp g))) (fun g => y0 (fun z => g (sh.mpr ((hA e).mp z))))
    have L : ∀ d m ex sp ft, d ≤ A → d < m → wY_shortage_55 post m (nI (A - d)) f_most ex (nI n) (nI p) (nI t) 0 9 0 ft a_stocks a_held a_picks a_outs a_backs a_homes on pk ou ba ho sp := by
      intro d
      induction d with
      | zero =>
        intro m ex sp ft _ hm
        obtain ⟨m, rfl⟩ : ∃ w, m = w + 1 := ⟨m - 1, by omega⟩
        rw [Nat.sub_zero]
        by_cases c : 9 ≤ A
        · have e9 : A = 9 := by omega
          subst e9
          exact br_t (nI_le (a := 9) (by omega) (by omega)) (k _ _ _ _ _ _ _ on pk ou ba ho sp ft)
        · exact br_f (nI_ge (b := 9) (by omega) (by decide)) (F A _ sp ft (by omega) (fun _ sp' ft' => br_f (by decide) (k _ _ _ _ _ _ _ on pk ou ba ho sp' ft')) (fun g => absurd (Nat.le_refl A) g))
      | succ d ih =>
        intro m ex sp ft hd hm
        obtain ⟨m, rfl⟩ : ∃ w, m = w + 1 := ⟨m - 1, by omega⟩
        have ih' := fun a b c => ih m a b c (by omega) (by omega)
        have e2 : A - d = A - (d + 1) + 1 := by omega
        rw [e2] at ih'
        have hi : A - (d + 1) < A := by omega
        generalize A - (d + 1) = e at ih' hi ⊢
        exact br_f (nI_ge (b := 9) (by omega) (by decide)) (F e _ sp ft (by omega) (fun g => absurd g (by omega)) (fun _ sp' ft' => br_t rfl (nm_r (nI_1 e) (ih' _ sp' ft'))))
    have z := L A (A + 1) 0 a_spread f_total (Nat.le_refl _) (by omega)
    rw [Nat.sub_self] at z
    exact ⟨_, z⟩

theorem yw_spare {post : Int32 → SY → Prop} (cap h : Nat) (st q tm : Nat → Nat) (R : rl_R cap h st q tm)
    (hst : ∀ s, s < 4 → a_stocks s = nI (st s) ∧ st s ≤ 3) (B : yw_B h q tm a_held a_picks a_outs a_backs a_homes)
    (s x : Nat) (hs : s < 4) (hx : x ≤ 8) (A : Nat) (A8 : A ≤ 8)
    (hr : ∀ z, (∀ g, z ≤ hs_sl (xg_st st) h.testBit (xg_pk q) (xg_ot tm) (xg_bk q) (xg_hm tm) (2 ^ s).testBit x g true) ↔ z ≤ (A : Int))
    (k : ∀ ex gn gs ga fa ff fl on pk ou ba ho sp ft, post (nI A) (f_most, ex, gn, gs, ga, fa, ff, fl, ft, a_stocks, a_held, a_picks, a_outs, a_backs, a_homes, on, pk, ou, ba, ho, sp)) :
    wpY_spare post (f_most, f_extra, f_gone, f_goneSet, f_goneAt, f_floorAt, f_floorFrom, f_floor, f_total, a_stocks, a_held, a_picks, a_outs, a_backs, a_homes, a_on, a_pick, a_out, a_back, a_home, a_spread) (nI s) (nI x) := by
  have hh := rl_h R
  have rg := R.2.2.2.2.2.1
  have good := R.2.2.2.2.2.2
  refine br_f (nI_pos (by omega)) (br_f (nI_nlt (a := 3) (by omega) (by omega)) (br_f (nI_pos (by omega)) (br_t (nI_le (b := 8) hx (by omega)) (yw_ask h hh q tm B (fun on pk ou ba ho H => ?_)))))
  have F : ∀ (e : Nat) (post' : Int32 → SY → Prop) (sp : Nat → Int32) (ft : Int32), 1 ≤ e → e ≤ 9 →
      (e ≤ A → ∀ sp' ft', post' 1 (f_most, 0, 0, f_goneSet, f_goneAt, nI s, nI x, nI e, ft', a_stocks, a_held, a_picks, a_outs, a_backs, a_homes, on, pk, ou, ba, ho, sp')) →
      (¬ e ≤ A → ∀ sp' ft', post' 0 (f_most, 0, 0, f_goneSet, f_goneAt, nI s, nI x, nI e, ft', a_stocks, a_held, a_picks, a_outs, a_backs, a_homes, on, pk, ou, ba, ho, sp')) →
      wpY_fits post' (f_most, 0, 0, f_goneSet, f_goneAt, nI s, nI x, nI e, ft, a_stocks, a_held, a_picks, a_outs, a_backs, a_homes, on, pk, ou, ba, ho, sp) := by
    intro e post' sp ft he1 he9 y1 y0
    have sh := an_spare st h.testBit q tm rg good s x e hs hx he1 (A : Int) hr
    exact yw_fits h.testBit q tm H rg st hst 0 0 0 0 s e x (by omega) (by omega) (by omega) (by omega) hs he9 (by omega) nI_0.symm nI_0.symm (fun z => absurd z (by omega)) rfl rfl rfl
      (fun g => y1 (by have z := sh.mp g; omega)) (fun g => y0 (fun z => g (sh.mpr (by omega))))
  have L : ∀ d m fl sp ft, d ≤ A → d < m → wY_spare_37 post m (nI (A + 1 - d)) f_most 0 0 f_goneSet f_goneAt (nI s) (nI x) fl ft a_stocks a_held a_picks a_outs a_backs a_homes on pk ou ba ho sp := by
    intro d
    induction d with
    | zero =>
      intro m fl sp ft _ hm
      obtain ⟨m, rfl⟩ : ∃ w, m = w + 1 := ⟨m - 1, by omega⟩
      rw [Nat.sub_zero]
      by_cases c : 8 ≤ A
      · have e9 : A = 8 := by omega
        subst e9
        exact br_t (nI_lt (a := 8) (by omega) (by omega)) (k _ _ _ _ _ _ _ on pk ou ba ho sp ft)
      · refine br_f (nI_nlt (a := 8) (by omega) (by omega)) (F (A + 1) _ sp ft (by omega) (by omega) (fun g => absurd g (by omega)) (fun _ sp' ft' => br_t rfl ?_))
        rw [nI_pred]
        exact k _ _ _ _ _ _ _ on pk ou ba ho sp' ft'
    | succ d ih =>
      intro m fl sp ft hd hm
      obtain ⟨m, rfl⟩ : ∃ w, m = w + 1 := ⟨m - 1, by omega⟩
      have ih' := fun a b c => ih m a b c (by omega) (by omega)
      have e2 : A + 1 - d = A + 1 - (d + 1) + 1 := by omega
      rw [e2] at ih'
      have hi : A + 1 - (d + 1) ≤ A := by omega
      have hi1 : 1 ≤ A + 1 - (d + 1) := by omega
      generalize A + 1 - (d + 1) = e at ih' hi hi1 ⊢
      exact br_f (nI_nlt (a := 8) (by omega) (by omega)) (F e _ sp ft hi1 (by omega) (fun _ sp' ft' => br_f (by decide) (nm_r (nI_1 e) (ih' _ sp' ft'))) (fun g => absurd hi g))
  have z := L A (A + 1) 0 a_spread f_total (Nat.le_refl _) (by omega)
  have e1 : A + 1 - A = 1 := by omega
  rw [e1] at z
  exact ⟨_, z⟩

theorem yw_bad {post : Int32 → Prop} (x1 x2 x3 x4 : Int32) (bad : x1 < 1 ∨ 15 < x1 ∨ x3 < 1 ∨ 15 < x3 ∨ x2 < 0 ∨ x4 ≤ x2 ∨ ¬ x4 ≤ 8) (k : post 1) : wpY_badCall post (f_most, f_extra, f_gone, f_goneSet, f_goneAt, f_floorAt, f_floorFrom, f_floor, f_total, a_stocks, a_held, a_picks, a_outs, a_backs, a_homes, a_on, a_pick, a_out, a_back, a_home, a_spread) x1 x2 x3 x4 := by
  by_cases c1 : x1 < 1
  · exact br_t c1 k
  refine br_f c1 ?_
  by_cases c2 : 15 < x1
  · exact br_t c2 k
  refine br_f c2 ?_
  by_cases c3 : x3 < 1
  · exact br_t c3 k
  refine br_f c3 ?_
  by_cases c4 : 15 < x3
  · exact br_t c4 k
  refine br_f c4 ?_
  by_cases c5 : x2 < 0
  · exact br_t c5 k
  refine br_f c5 ?_
  by_cases c6 : x4 ≤ x2
  · exact br_t c6 k
  refine br_f c6 ?_
  rcases bad with z | z | z | z | z | z | z
  · exact absurd z c1
  · exact absurd z c2
  · exact absurd z c3
  · exact absurd z c4
  · exact absurd z c5
  · exact absurd z c6
  · exact br_f z k
end

theorem tb_lf_i : ∀ h, h < 32 → ∀ i, i < 5 → (∀ j, j < i → h.testBit j = true) → h.testBit i = false → tb_lf h = i := by decide +kernel
theorem tb_lf_a : ∀ h, h < 32 → (∀ j, j < 5 → h.testBit j = true) → tb_lf h = 5 := by decide +kernel

theorem tb_tu {x y : Int32} (c5 : ¬ x < 0) (c6 : ¬ y ≤ x) (c7 : y ≤ 8) : ∃ t u : Nat, t < u ∧ u ≤ 8 ∧ x = nI t ∧ y = nI u := by
  have e0 : (0 : Int32).toInt = 0 := by decide
  have e8 : (8 : Int32).toInt = 8 := by decide
  rw [Int32.lt_iff_toInt_lt, e0] at c5
  rw [Int32.le_iff_toInt_le] at c6
  rw [Int32.le_iff_toInt_le, e8] at c7
  refine ⟨x.toInt.toNat, y.toInt.toNat, by omega, by omega, ?_, ?_⟩
  · apply Int32.toInt_inj.mp
    rw [nI_toInt (by omega)]; omega
  · apply Int32.toInt_inj.mp
    rw [nI_toInt (by omega)]; omega

theorem rl_upd (a : Nat → Int32) (q : Nat → Nat) (i p b : Nat) (ha : ∀ e, e < 10 → a e = nI (q e)) : ∀ e, e < 10 → upd (upd a (2 * i) (nI p)) (2 * i + 1) (nI b) e = nI (rl_q q i p b e) := by
  intro e he
  simp only [upd, rl_q, fp_up]
  by_cases c1 : e = 2 * i + 1
  · rw [if_pos c1, if_pos c1]
  · rw [if_neg c1, if_neg c1]
    by_cases c2 : e = 2 * i
    · rw [if_pos c2, if_pos c2]
    · rw [if_neg c2, if_neg c2]; exact ha e he

section
variable {f_capacity f_held : Int32} {a_stockAt a_askedSet a_endTime a_openSet : Nat → Int32}

theorem xw_held_out {post : Int32 → Prop} (x : Int32) (o : x < 0 ∨ nI 5 ≤ x) (k : post 0) : wpX_isHeld post (f_capacity, f_held, a_stockAt, a_askedSet, a_endTime, a_openSet) x := by
  by_cases c : x < 0
  · exact br_t c k
  · exact br_f c (br_t (o.resolve_left c) k)

theorem xw_lf {post : Int32 → Prop} (h : Nat) (hh : h < 32) (k : post (nI (tb_lf h))) : wpX_leastFreeNumber post (f_capacity, nI h, a_stockAt, a_askedSet, a_endTime, a_openSet) := by
  have L : ∀ d n, d ≤ 5 → d < n → (∀ j, j < 5 - d → h.testBit j = true) → wX_leastFreeNumber_2 post f_capacity (nI h) a_stockAt a_askedSet a_endTime a_openSet n (nI (5 - d)) := by
    intro d
    induction d with
    | zero =>
      intro n _ hn I
      obtain ⟨m, rfl⟩ : ∃ m, n = m + 1 := ⟨n - 1, by omega⟩
      rw [tb_lf_a h hh I] at k
      exact br_t (by decide) k
    | succ d ih =>
      intro n hd hn I
      obtain ⟨m, rfl⟩ : ∃ m, n = m + 1 := ⟨n - 1, by omega⟩
      have ih' := ih m (by omega) (by omega)
      have e1 : 5 - (d + 1) = 4 - d := by omega
      have e2 : 5 - d = 4 - d + 1 := by omega
      rw [e1] at I ⊢
      rw [e2] at ih'
      have hi : 4 - d < 5 := by omega
      generalize 4 - d = i at ih' hi I ⊢
      have b := tb_bit h hh i hi
      cases c : h.testBit i
      · rw [tb_lf_i h hh i hi I c] at k
        exact br_f (nI_ge (b := 5) hi (by decide)) (br_t (by rw [b, c]; rfl) k)
      · refine br_f (nI_ge (b := 5) hi (by decide)) (br_f (by rw [b, c]; decide) (nm_r (nI_1 i) (ih' fun j hj => ?_)))
        by_cases e : j = i
        · rw [e]; exact c
        · exact I j (by omega)
  exact ⟨6, L 5 6 (by omega) (by omega) (fun j hj => by omega)⟩

theorem xw_setEnd {post : SX → Prop} (e : Nat) (he : e < 10) (z x y : Int32) (hz : z = nI e)
    (k : post (f_capacity, f_held, a_stockAt, upd a_askedSet e x, upd a_endTime e y, upd a_openSet e x)) : wpX_setEnd post (f_capacity, f_held, a_stockAt, a_askedSet, a_endTime, a_openSet) z x y := by
  subst hz
  have v : vp_in (nI e) 10 := vp_in_nI he (by omega)
  have c : (nI e).toNatClampNeg = e := nI_clamp (by omega)
  exact ⟨v, nm_r (by rw [c]) ⟨v, nm_r (by rw [c]) ⟨v, nm_r (by rw [c]) k⟩⟩⟩

theorem xw_bad {post : Int32 → SX → Prop} (x1 x2 x3 x4 : Int32) (bad : x1 < 1 ∨ 15 < x1 ∨ x3 < 1 ∨ 15 < x3 ∨ x2 < 0 ∨ x4 ≤ x2 ∨ ¬ x4 ≤ 8) (k : post (-1) (f_capacity, f_held, a_stockAt, a_askedSet, a_endTime, a_openSet)) :
    wpX_book post (f_capacity, f_held, a_stockAt, a_askedSet, a_endTime, a_openSet) x1 x2 x3 x4 := by
  by_cases c1 : x1 < 1
  · exact br_t c1 (br_t rfl k)
  refine br_f c1 ?_
  by_cases c2 : 15 < x1
  · exact br_t c2 (br_t rfl k)
  refine br_f c2 (br_f (by decide) ?_)
  by_cases c3 : x3 < 1
  · exact br_t c3 (br_t rfl k)
  refine br_f c3 ?_
  by_cases c4 : 15 < x3
  · exact br_t c4 (br_t rfl k)
  refine br_f c4 (br_f (by decide) ?_)
  by_cases c5 : x2 < 0
  · exact br_t c5 k
  refine br_f c5 ?_
  by_cases c6 : x4 ≤ x2
  · exact br_t c6 k
  refine br_f c6 ?_
  rcases bad with z | z | z | z | z | z | z
  · exact absurd z c1
  · exact absurd z c2
  · exact absurd z c3
  · exact absurd z c4
  · exact absurd z c5
  · exact absurd z c6
  · exact br_f z k

theorem xw_book {post : Int32 → SX → Prop} (cap h : Nat) (st q tm : Nat → Nat) (R : rl_R cap h st q tm) (HX : xw_st st q tm a_stockAt a_endTime a_openSet)
    (p t b u : Nat) (hp1 : 1 ≤ p) (hp : p < 16) (hb1 : 1 ≤ b) (hb : b < 16) (htu : t < u) (hu : u ≤ 8)
    (kf : cap ≤ tb_lf h → post (-2) (nI cap, nI h, a_stockAt, a_askedSet, a_endTime, a_openSet))
    (k1 : tb_lf h < cap → xg_gd st (h ||| 2 ^ tb_lf h).testBit (rl_q q (tb_lf h) p b) (rl_q tm (tb_lf h) t u) →
      post (nI (tb_lf h)) (nI cap, nI (h ||| 2 ^ tb_lf h), a_stockAt, upd (upd a_askedSet (2 * tb_lf h) (nI p)) (2 * tb_lf h + 1) (nI b),
        upd (upd a_endTime (2 * tb_lf h) (nI t)) (2 * tb_lf h + 1) (nI u), upd (upd a_openSet (2 * tb_lf h) (nI p)) (2 * tb_lf h + 1) (nI b)))
    (k0 : tb_lf h < cap → ¬ xg_gd st (h ||| 2 ^ tb_lf h).testBit (rl_q q (tb_lf h) p b) (rl_q tm (tb_lf h) t u) →
      post (-3) (nI cap, nI h, a_stockAt, upd (upd a_askedSet (2 * tb_lf h) (nI p)) (2 * tb_lf h + 1) (nI b),
        upd (upd a_endTime (2 * tb_lf h) (nI t)) (2 * tb_lf h + 1) (nI u), upd (upd a_openSet (2 * tb_lf h) (nI p)) (2 * tb_lf h + 1) (nI b))) :
    wpX_book post (nI cap, nI h, a_stockAt, a_askedSet, a_endTime, a_openSet) (nI p) (nI t) (nI b) (nI u) := by
  have hh := rl_h R
  have c6 := R.2.1
  have lf5 := tb_lf_le h hh
  refine br_f (nI_nlt (b := 1) hp1 (by omega)) (br_f (nI_nlt (a := 15) (by omega) (by omega)) (br_f (by decide) (br_f (nI_nlt (b := 1) hb1 (by omega)) (br_f (nI_nlt (a := 15) (by omega) (by omega))
    (br_f (by decide) (br_f (nI_pos (by omega)) (br_f (nI_ge htu (by omega)) (br_t (nI_le (b := 8) hu (by omega)) (xw_lf h hh ?_)))))))))
  by_cases c : cap ≤ tb_lf h
  · exact br_f (nI_nlt c (by omega)) (kf c)
  have lc : tb_lf h < cap := by omega
  have li : tb_lf h < 5 := by omega
  have free := tb_lf_free h hh li
  generalize tb_lf h = i at k1 k0 lc li free ⊢
  have sl := tb_sl i li
  have m2 : (2 : Int32) * nI i = nI (2 * i) := pk_mul 2 i
  refine br_t (nI_lt lc (by omega)) (xw_setEnd (2 * i) (by omega) _ _ _ m2 (xw_setEnd (2 * i + 1) (by omega) _ _ _ (by rw [m2, nI_1]) ?_))
  have hs : h ||| 2 ^ i < 32 := Nat.lt_of_lt_of_le (tb_or_lt cap c6 h hh R.2.2.1 i lc) (tb_cap cap c6)
  refine nm_r (e' := nI (h ||| 2 ^ i)) (by rw [sl]; exact tb_set h hh i li) ?_
  have HX' : xw_st st (rl_q q i p b) (rl_q tm i t u) a_stockAt (upd (upd a_endTime (2 * i) (nI t)) (2 * i + 1) (nI u)) (upd (upd a_openSet (2 * i) (nI p)) (2 * i + 1) (nI b)) := by
    refine ⟨HX.1, fun e he => ⟨rl_upd a_openSet q i p b (fun e he => (HX.2 e he).1) e he, rl_qb q i p b 16 hp hb (fun e he => (HX.2 e he).2.1) e he,
      rl_upd a_endTime tm i t u (fun e he => (HX.2 e he).2.2.1) e he, ?_⟩⟩
    have z := rl_qb tm i t u 9 (by omega) (by omega) (fun e he => by have := (HX.2 e he).2.2.2; omega) e he
    omega
  refine xw_good (nI cap) a_stockAt _ _ _ st _ _ HX' (h ||| 2 ^ i) hs (fun g => ?_) (fun g => ?_)
  · exact br_f (by decide) (k1 lc g)
  · refine br_t rfl (nm_r (e' := nI h) ?_ (k0 lc g))
    rw [sl, tb_clr (h ||| 2 ^ i) hs i li, tb_c_or h hh i li free]
end
end
section
-- both states as pictures of one desk
def rl_X (cap h : Nat) (st q tm : Nat → Nat) (u : SX) : Prop := match u with
  | (f_capacity, f_held, a_stockAt, a_askedSet, a_endTime, a_openSet) => f_capacity = nI cap ∧ f_held = nI h ∧ (∀ s, s < 4 → a_stockAt s = nI (st s)) ∧
    ∀ e, e < 10 → a_askedSet e = nI (q e) ∧ a_openSet e = nI (q e) ∧ a_endTime e = nI (tm e)
def rl_Y (cap h : Nat) (st q tm : Nat → Nat) (v : SY) : Prop := match v with
  | (f_most, _, _, _, _, _, _, _, _, a_stocks, a_held, a_picks, a_outs, a_backs, a_homes, _, _, _, _, _, _) =>
    f_most = nI cap ∧ (∀ s, s < 4 → a_stocks s = nI (st s)) ∧ yw_B h q tm a_held a_picks a_outs a_backs a_homes

theorem iv_hi (x : Int32) (b : Nat) (hb : b < 1000) (h : nI (b + 1) ≤ x) : nI b < x ∧ ¬ x ≤ nI b ∧ ¬ x < 0 := by
  have e1 : (nI b).toInt = b := nI_toInt (by omega)
  have e2 : (nI (b + 1)).toInt = ((b + 1 : Nat) : Int) := nI_toInt (by omega)
  have e0 : (0 : Int32).toInt = 0 := by decide
  rw [Int32.le_iff_toInt_le, e2] at h
  rw [Int32.lt_iff_toInt_lt, Int32.le_iff_toInt_le, Int32.lt_iff_toInt_lt, e1, e0]
  exact ⟨by omega, by omega, by omega⟩

theorem iv_up (x : Int32) (a b : Nat) (hb : b < 1000) (hab : a ≤ b) (h : nI b < x) : nI a ≤ x ∧ ¬ x ≤ nI b := by
  have e1 : (nI b).toInt = b := nI_toInt (by omega)
  have e2 : (nI a).toInt = a := nI_toInt (by omega)
  rw [Int32.lt_iff_toInt_lt, e1] at h
  rw [Int32.le_iff_toInt_le, Int32.le_iff_toInt_le, e1, e2]
  exact ⟨by omega, by omega⟩

theorem iv_xst {st q tm : Nat → Nat} {cap h : Nat} {f_capacity f_held : Int32} {a_stockAt a_askedSet a_endTime a_openSet : Nat → Int32} (R : rl_R cap h st q tm) (X : rl_X cap h st q tm (f_capacity, f_held, a_stockAt, a_askedSet, a_endTime, a_openSet)) :
    xw_st st q tm a_stockAt a_endTime a_openSet :=
  ⟨fun s hs => ⟨X.2.2.1 s hs, R.2.2.2.1 s hs⟩, fun e he => ⟨(X.2.2.2 e he).2.1, (R.2.2.2.2.1 e he).1, (X.2.2.2 e he).2.2, (R.2.2.2.2.1 e he).2⟩⟩

section
variable {f_most f_extra f_gone f_goneSet f_goneAt f_floorAt f_floorFrom f_floor f_total : Int32}
  {a_stocks a_held a_picks a_outs a_backs a_homes a_on a_pick a_out a_back a_home a_spread : Nat → Int32}

theorem iv_small (x : Int32) : ∃ n : Nat, n ≤ 3 ∧ (∀ post : Int32 → Prop, post (nI n) → wpX_clamp post x 0 3) ∧
    (∀ (post : Int32 → Prop) (f_most f_extra f_gone f_goneSet f_goneAt f_floorAt f_floorFrom f_floor f_total : Int32) (a_stocks a_held a_picks a_outs a_backs a_homes a_on a_pick a_out a_back a_home a_spread : Nat → Int32), post (nI n) → wpY_small post (f_most, f_extra, f_gone, f_goneSet, f_goneAt, f_floorAt, f_floorFrom, f_floor, f_total, a_stocks, a_held, a_picks, a_outs, a_backs, a_homes, a_on, a_pick, a_out, a_back, a_home, a_spread) x) := by
  rcases rl_cl x 0 3 (by omega) (by omega) with h | h | ⟨n, h0, h3, rfl⟩
  · have c : ¬ (0 : Int32) ≤ x := Int32.not_le.mpr h
    refine ⟨0, by omega, fun post k => br_f c k, ?_⟩
    intros; exact br_f c ‹_›
  · have c := iv_up x 0 3 (by omega) (by omega) h
    refine ⟨3, by omega, fun post k => br_t c.1 (br_f c.2 k), ?_⟩
    intros; exact br_t c.1 (br_f c.2 ‹_›)
  · refine ⟨n, h3, fun post k => br_t (nI_pos' (by omega)) (br_t (nI_le (b := 3) h3 (by omega)) k), ?_⟩
    intros; exact br_t (nI_pos' (by omega)) (br_t (nI_le (b := 3) h3 (by omega)) ‹_›)

theorem iv_cap (x : Int32) : ∃ n : Nat, 1 ≤ n ∧ n < 6 ∧ (∀ post : Int32 → Prop, post (nI n) → wpX_clamp post x 1 5) ∧
    (∀ (post : SY → Prop) (p1 p2 p3 : Int32), wY_init_115 post p1 p2 p3 (nI n) 0 0 0 0 0 0 0 0 0 (fun _ => 0) (fun _ => 0) (fun _ => 0) (fun _ => 0) (fun _ => 0) (fun _ => 0) (fun _ => 0) (fun _ => 0) (fun _ => 0) (fun _ => 0) (fun _ => 0) (fun _ => 0) →
      wpY_init post x p1 p2 p3) := by
  rcases rl_cl x 1 5 (by omega) (by omega) with h | h | ⟨n, h0, h3, rfl⟩
  · have c : ¬ (1 : Int32) ≤ x := Int32.not_le.mpr h
    exact ⟨1, by omega, by omega, fun post k => br_f c k, fun post p1 p2 p3 k => br_f c k⟩
  · have c := iv_up x 1 5 (by omega) (by omega) h
    exact ⟨5, by omega, by omega, fun post k => br_t c.1 (br_f c.2 k), fun post p1 p2 p3 k => br_t c.1 (br_f c.2 k)⟩
  · exact ⟨n, h0, by omega, fun post k => br_t (nI_le (a := 1) h0 (by omega)) (br_t (nI_le (b := 5) h3 (by omega)) k),
      fun post p1 p2 p3 k => br_t (nI_le (a := 1) h0 (by omega)) (br_t (nI_le (b := 5) h3 (by omega)) k)⟩

-- could an end of booking i be at s
theorem yw_cpk {post : Int32 → SY → Prop} (cap h : Nat) (st q tm : Nat → Nat) (R : rl_R cap h st q tm) (hst : ∀ s, s < 4 → a_stocks s = nI (st s) ∧ st s ≤ 3)
    (B : yw_B h q tm a_held a_picks a_outs a_backs a_homes) (i s : Nat) (hi : i < 5) (hs : s < 4) (o : h.testBit i = true)
    (k1 : fp_n st h.testBit q tm (2 * i) s → ∀ ex gn fa ff fl on pk ou ba ho sp ft,
      post 1 (f_most, ex, gn, f_goneSet, f_goneAt, fa, ff, fl, ft, a_stocks, a_held, a_picks, a_outs, a_backs, a_homes, on, pk, ou, ba, ho, sp))
    (k0 : ¬ fp_n st h.testBit q tm (2 * i) s → ∀ ex gn fa ff fl on pk ou ba ho sp ft,
      post 0 (f_most, ex, gn, f_goneSet, f_goneAt, fa, ff, fl, ft, a_stocks, a_held, a_picks, a_outs, a_backs, a_homes, on, pk, ou, ba, ho, sp)) :
    wpY_couldPick post (f_most, f_extra, f_gone, f_goneSet, f_goneAt, f_floorAt, f_floorFrom, f_floor, f_total, a_stocks, a_held, a_picks, a_outs, a_backs, a_homes, a_on, a_pick, a_out, a_back, a_home, a_spread) (nI i) (nI s) := by
  have hh := rl_h R
  have rg := R.2.2.2.2.2.1
  have r := rg i (by omega) o
  have ci : (nI i).toNatClampNeg = i := nI_clamp (by omega)
  have v5 : vp_in (nI i) 5 := vp_in_nI hi (by omega)
  have v6 : vp_in (nI i) 6 := vp_in_nI (by omega) (by omega)
  have bi := (B i hi).2 o
  have b := tb_bit (q (2 * i)) (by omega) s (by omega)
  have pe : a_picks (nI i).toNatClampNeg = nI (q (2 * i)) := by rw [ci]; exact bi.1
  unfold wpY_couldPick
  refine yw_there h (fun j hj => (B j hj).1) i hi ?_
  rw [o]
  refine br_f (by decide) (br_f (nI_pos (by omega)) (br_f (nI_nlt (a := 3) (by omega) (by omega)) ⟨v5, ?_⟩))
  cases c : (q (2 * i)).testBit s
  · exact br_t (by rw [pe, b, c]; rfl) (k0 (fun z => by have z1 := z.1; rw [c] at z1; cases z1) _ _ _ _ _ _ _ _ _ _ _ _)
  · refine br_f (by rw [pe, b, c]; decide) (yw_ask h hh q tm B (fun on pk ou ba ho H => ⟨v6, nm_r (e' := upd pk i (nI (2 ^ s))) (by rw [ci, tb_sl s (by omega)]) ?_⟩))
    refine yw_plain h.testBit _ tm (yw_H_pk h.testBit q tm H i (2 ^ s) _ pk_us (fun j n => pk_un n)) (fp_rg h.testBit q tm (2 * i) s hs rg) st hst (fun g sp ft => ?_) (fun g sp ft => ?_)
    · exact ⟨rfl, k1 ⟨c, g⟩ _ _ _ _ _ _ _ _ _ _ sp ft⟩
    · exact ⟨rfl, k0 (fun z => g z.2) _ _ _ _ _ _ _ _ _ _ sp ft⟩

theorem yw_cbk {post : Int32 → SY → Prop} (cap h : Nat) (st q tm : Nat → Nat) (R : rl_R cap h st q tm) (hst : ∀ s, s < 4 → a_stocks s = nI (st s) ∧ st s ≤ 3)
    (B : yw_B h q tm a_held a_picks a_outs a_backs a_homes) (i s : Nat) (hi : i < 5) (hs : s < 4) (o : h.testBit i = true)
    (k1 : fp_n st h.testBit q tm (2 * i + 1) s → ∀ ex gn fa ff fl on pk ou ba ho sp ft,
      post 1 (f_most, ex, gn, f_goneSet, f_goneAt, fa, ff, fl, ft, a_stocks, a_held, a_picks, a_outs, a_backs, a_homes, on, pk, ou, ba, ho, sp))
    (k0 : ¬ fp_n st h.testBit q tm (2 * i + 1) s → ∀ ex gn fa ff fl on pk ou ba ho sp ft,
      post 0 (f_most, ex, gn, f_goneSet, f_goneAt, fa, ff, fl, ft, a_stocks, a_held, a_picks, a_outs, a_backs, a_homes, on, pk, ou, ba, ho, sp)) :
    wpY_couldReturn post (f_most, f_extra, f_gone, f_goneSet, f_goneAt, f_floorAt, f_floorFrom, f_floor, f_total, a_stocks, a_held, a_picks, a_outs, a_backs, a_homes, a_on, a_pick, a_out, a_back, a_home, a_spread) (nI i) (nI s) := by
  have hh := rl_h R
  have rg := R.2.2.2.2.2.1
  have r := rg i (by omega) o
  have ci : (nI i).toNatClampNeg = i := nI_clamp (by omega)
  have v5 : vp_in (nI i) 5 := vp_in_nI hi (by omega)
  have v6 : vp_in (nI i) 6 := vp_in_nI (by omega) (by omega)
  have bi := (B i hi).2 o
  have b := tb_bit (q (2 * i + 1)) (by omega) s (by omega)
  have pe : a_backs (nI i).toNatClampNeg = nI (q (2 * i + 1)) := by rw [ci]; exact bi.2.2.1
  unfold wpY_couldReturn
  refine yw_there h (fun j hj => (B j hj).1) i hi ?_
  rw [o]
  refine br_f (by decide) (br_f (nI_pos (by omega)) (br_f (nI_nlt (a := 3) (by omega) (by omega)) ⟨v5, ?_⟩))
  cases c : (q (2 * i + 1)).testBit s
  · exact br_t (by rw [pe, b, c]; rfl) (k0 (fun z => by have z1 := z.1; rw [c] at z1; cases z1) _ _ _ _ _ _ _ _ _ _ _ _)
  · refine br_f (by rw [pe, b, c]; decide) (yw_ask h hh q tm B (fun on pk ou ba ho H => ⟨v6, nm_r (e' := upd ba i (nI (2 ^ s))) (by rw [ci, tb_sl s (by omega)]) ?_⟩))
    refine yw_plain h.testBit _ tm (yw_H_bk h.testBit q tm H i (2 ^ s) _ pk_us (fun j n => pk_un n)) (fp_rg h.testBit q tm (2 * i + 1) s hs rg) st hst (fun g sp ft => ?_) (fun g sp ft => ?_)
    · exact ⟨rfl, k1 ⟨c, g⟩ _ _ _ _ _ _ _ _ _ _ sp ft⟩
    · exact ⟨rfl, k0 (fun z => g z.2) _ _ _ _ _ _ _ _ _ _ sp ft⟩

-- cancel's question
theorem yw_Hc (h : Nat) (hh : h < 32) (q tm : Nat → Nat) (i : Nat) (hi : i < 5) (H : yw_H h.testBit q tm a_on a_pick a_out a_back a_home) :
    yw_H (tb_c h i).testBit q tm (upd a_on i (zi_b false)) a_pick a_out a_back a_home := by
  intro j hj
  have z := H j hj
  rw [tb_c_bit h hh i hi j hj]
  by_cases c : j = i
  · subst c
    rw [decide_eq_true rfl, Bool.not_true, Bool.and_false]
    exact ⟨pk_us, fun w => by cases w⟩
  · rw [decide_eq_false c, Bool.not_false, Bool.and_true, pk_un c]; exact z
end
end
section
def i_Rel (k : Nat) (u : SX) (v : SY) : Prop := ∃ (cap h : Nat) (st q tm : Nat → Nat), rl_R cap h st q tm ∧ rl_X cap h st q tm u ∧ rl_Y cap h st q tm v

theorem i_up {k : Nat} {u : SX} {v : SY} (h : i_Rel k u v) : i_Rel (k + 5) u v := h

theorem i_vc0 (k0 : Int32) (k1 : Int32) (k2 : Int32) (k3 : Int32) : wpX_init (fun u => wpY_init (fun v => i_Rel 4 u v) k0 k1 k2 k3) k0 k1 k2 k3 := by
  obtain ⟨c, c1, c6, cX, cY⟩ := iv_cap k0
  obtain ⟨n1, h1, x1, y1⟩ := iv_small k1
  obtain ⟨n2, h2, x2, y2⟩ := iv_small k2
  obtain ⟨n3, h3, x3, y3⟩ := iv_small k3
  unfold wpX_init
  refine cX _ (x1 _ (nm_e (x2 _ (nm_e (x3 _ (nm_e ?_))))))
  refine cY _ _ _ _ ?_
  unfold wY_init_115
  refine y1 _ _ _ _ _ _ _ _ _ _ _ _ _ _ _ _ _ _ _ _ _ _ (nm_e (y2 _ _ _ _ _ _ _ _ _ _ _ _ _ _ _ _ _ _ _ _ _ _ (nm_e (y3 _ _ _ _ _ _ _ _ _ _ _ _ _ _ _ _ _ _ _ _ _ _ (nm_e ?_)))))
  have arr : ∀ s, s < 4 → upd (upd (upd (fun _ => 0) 0 (nI n1)) 1 (nI n2)) 2 (nI n3) s = nI ((fun s => if s = 0 then n1 else if s = 1 then n2 else if s = 2 then n3 else 0) s) := by
    intro s hs
    rcases hl_lt4 hs with e | e | e | e <;> subst e <;> rfl
  refine ⟨c, 0, fun s => if s = 0 then n1 else if s = 1 then n2 else if s = 2 then n3 else 0, fun _ => 0, fun _ => 0, rl_new c _ c1 c6 (fun s hs => ?_),
    ⟨rfl, rfl, arr, fun e he => ⟨rfl, rfl, rfl⟩⟩, ⟨rfl, arr, fun j hj => ⟨?_, fun z => ?_⟩⟩⟩
  · rcases hl_lt4 hs with e | e | e | e <;> subst e
    · exact h1
    · exact h2
    · exact h3
    · exact Nat.zero_le 3
  · rw [Nat.zero_testBit]; rfl
  · rw [Nat.zero_testBit] at z; cases z

theorem i_vc_book {k : Nat} {u : SX} {v : SY} (I : i_Rel k u v) (hk : k + 5 ≤ 2564) (v1 : Int32) (v2 : Int32) (v3 : Int32) (v4 : Int32) : wpX_book (fun r u' => wpY_book (fun r' v' => r' = r ∧ i_Rel (k + 5) u' v') v v1 v2 v3 v4) u v1 v2 v3 v4 := by
  obtain ⟨cap, h, st, q, tm, R, X, Y⟩ := I
  obtain ⟨f_capacity, f_held, a_stockAt, a_askedSet, a_endTime, a_openSet⟩ := u
  obtain ⟨f_most, f_extra, f_gone, f_goneSet, f_goneAt, f_floorAt, f_floorFrom, f_floor, f_total, a_stocks, a_held, a_picks, a_outs, a_backs, a_homes, a_on, a_pick, a_out, a_back, a_home, a_spread⟩ := v
  have HX := iv_xst R X
  obtain ⟨X1, X2, X3, X4⟩ := X
  obtain ⟨Y1, Y2, Y3⟩ := Y
  subst X1 X2 Y1
  have hh := rl_h R
  have hst : ∀ s, s < 4 → a_stocks s = nI (st s) ∧ st s ≤ 3 := fun s hs => ⟨Y2 s hs, R.2.2.2.1 s hs⟩
  by_cases bad : v1 < 1 ∨ 15 < v1 ∨ v3 < 1 ∨ 15 < v3 ∨ v2 < 0 ∨ v4 ≤ v2 ∨ ¬ v4 ≤ 8
  · refine xw_bad v1 v2 v3 v4 bad ?_
    unfold wpY_book wpY_probe
    refine yw_bad v1 v2 v3 v4 bad (br_f (by decide) (br_t (by decide) ⟨rfl, cap, h, st, q, tm, R, ⟨rfl, rfl, X3, X4⟩, ⟨rfl, Y2, Y3⟩⟩))
  · have b1 : ¬ v1 < 1 := fun z => bad (Or.inl z)
    have b2 : ¬ 15 < v1 := fun z => bad (Or.inr (Or.inl z))
    have b3 : ¬ v3 < 1 := fun z => bad (Or.inr (Or.inr (Or.inl z)))
    have b4 : ¬ 15 < v3 := fun z => bad (Or.inr (Or.inr (Or.inr (Or.inl z))))
    have b5 : ¬ v2 < 0 := fun z => bad (Or.inr (Or.inr (Or.inr (Or.inr (Or.inl z)))))
    have b6 : ¬ v4 ≤ v2 := fun z => bad (Or.inr (Or.inr (Or.inr (Or.inr (Or.inr (Or.inl z))))))
    have b7 : v4 ≤ 8 := Classical.byContradiction fun z => bad (Or.inr (Or.inr (Or.inr (Or.inr (Or.inr (Or.inr z))))))
    obtain ⟨p, hp1, hp, rfl⟩ := tb_arg (a := 1) (b := 15) (by omega) (by omega) (Int32.not_lt.mp b1) (Int32.not_lt.mp b2)
    obtain ⟨b, hb1, hb, rfl⟩ := tb_arg (a := 1) (b := 15) (by omega) (by omega) (Int32.not_lt.mp b3) (Int32.not_lt.mp b4)
    obtain ⟨t, u, htu, hu, rfl, rfl⟩ := tb_tu b5 b6 b7
    have ask : ∀ e, e < 10 → a_askedSet e = nI (q e) := fun e he => (X4 e he).1
    have opn : ∀ e, e < 10 → a_openSet e = nI (q e) := fun e he => (X4 e he).2.1
    have tim : ∀ e, e < 10 → a_endTime e = nI (tm e) := fun e he => (X4 e he).2.2
    have X4' : ∀ i, ∀ e, e < 10 → upd (upd a_askedSet (2 * i) (nI p)) (2 * i + 1) (nI b) e = nI (rl_q q i p b e) ∧ upd (upd a_openSet (2 * i) (nI p)) (2 * i + 1) (nI b) e = nI (rl_q q i p b e) ∧
        upd (upd a_endTime (2 * i) (nI t)) (2 * i + 1) (nI u) e = nI (rl_q tm i t u e) :=
      fun i e he => ⟨rl_upd _ q i p b ask e he, rl_upd _ q i p b opn e he, rl_upd _ tm i t u tim e he⟩
    have c6 := R.2.1
    refine xw_book cap h st q tm R HX p t b u hp1 (by omega) hb1 (by omega) htu hu (fun f => ?_) (fun lc g => ?_) (fun lc g => ?_)
    · unfold wpY_book
      refine yw_probe cap h st q tm R rfl hst Y3 p t b u hp1 (by omega) hb1 (by omega) htu hu (fun _ => ?_) (fun lc => absurd lc (by omega)) (fun lc => absurd lc (by omega))
      exact br_t (by decide) ⟨rfl, cap, h, st, q, tm, R, ⟨rfl, rfl, X3, X4⟩, ⟨rfl, Y2, Y3⟩⟩
    · unfold wpY_book
      refine yw_probe cap h st q tm R rfl hst Y3 p t b u hp1 (by omega) hb1 (by omega) htu hu (fun f => absurd lc (by omega)) (fun _ _ on pk ou ba ho sp ft => ?_) (fun _ ng => absurd g ng)
      have li : tb_lf h < 5 := by omega
      have R' := rl_set (tb_lf h) p t b u R lc hp1 (by omega) hb1 (by omega) (by omega) hu g
      generalize tb_lf h = i at lc li R' ⊢
      have v5 : vp_in (nI i) 5 := vp_in_nI li (by omega)
      have ci : (nI i).toNatClampNeg = i := nI_clamp (by omega)
      refine br_f (nI_pos (by omega)) (br_f (nI_ge (b := 5) li (by decide)) ⟨v5, nm_r (e' := upd a_held i (zi_b true)) (by rw [ci, yw_n1]) ⟨v5, nm_r (e' := upd a_picks i (nI p)) (by rw [ci]) ⟨v5,
        nm_r (e' := upd a_outs i (nI t)) (by rw [ci]) ⟨v5, nm_r (e' := upd a_backs i (nI b)) (by rw [ci]) ⟨v5, nm_r (e' := upd a_homes i (nI u)) (by rw [ci]) ?_⟩⟩⟩⟩⟩)
      refine ⟨rfl, cap, h ||| 2 ^ i, st, rl_q q i p b, rl_q tm i t u, R', ⟨rfl, rfl, X3, X4' i⟩, ⟨rfl, Y2, fun j hj => ?_⟩⟩
      by_cases c : j = i
      · subst c
        rw [rl_q0, rl_q0, rl_q1, rl_q1]
        refine ⟨?_, fun _ => ⟨pk_us, pk_us, pk_us, pk_us⟩⟩
        rw [tb_s_bit, decide_eq_true rfl, Bool.or_true]; exact pk_us
      · have c' : ¬ i = j := fun z => c z.symm
        rw [tb_s_bit, decide_eq_false c', Bool.or_false, rl_qn0 q i p b j c, rl_qn1 q i p b j c, rl_qn0 tm i t u j c, rl_qn1 tm i t u j c, pk_un c, pk_un c, pk_un c, pk_un c, pk_un c]
        exact Y3 j hj
    · unfold wpY_book
      refine yw_probe cap h st q tm R rfl hst Y3 p t b u hp1 (by omega) hb1 (by omega) htu hu (fun f => absurd lc (by omega)) (fun _ g' => absurd g' g) (fun _ _ on pk ou ba ho sp ft => ?_)
      have li : tb_lf h < 5 := by omega
      have R' := rl_over (tb_lf h) p t b u R (tb_lf_free h hh li) (by omega) (by omega) (by omega) hu
      have fr := tb_lf_free h hh li
      generalize tb_lf h = i at li R' fr ⊢
      refine br_t (by decide) ⟨rfl, cap, h, st, rl_q q i p b, rl_q tm i t u, R', ⟨rfl, rfl, X3, X4' i⟩, ⟨rfl, Y2, fun j hj => ⟨(Y3 j hj).1, fun o => ?_⟩⟩⟩
      have c : ¬ j = i := fun z => by rw [z, fr] at o; cases o
      rw [rl_qn0 q i p b j c, rl_qn1 q i p b j c, rl_qn0 tm i t u j c, rl_qn1 tm i t u j c]
      exact (Y3 j hj).2 o
end
section
theorem i_vc_probe {k : Nat} {u : SX} {v : SY} (I : i_Rel k u v) (hk : k + 5 ≤ 2564) (v1 : Int32) (v2 : Int32) (v3 : Int32) (v4 : Int32) : wpX_probe (fun r u' => wpY_probe (fun r' v' => r' = r ∧ i_Rel (k + 5) u' v') v v1 v2 v3 v4) u v1 v2 v3 v4 := by
  obtain ⟨cap, h, st, q, tm, R, X, Y⟩ := I
  obtain ⟨f_capacity, f_held, a_stockAt, a_askedSet, a_endTime, a_openSet⟩ := u
  obtain ⟨f_most, f_extra, f_gone, f_goneSet, f_goneAt, f_floorAt, f_floorFrom, f_floor, f_total, a_stocks, a_held, a_picks, a_outs, a_backs, a_homes, a_on, a_pick, a_out, a_back, a_home, a_spread⟩ := v
  have HX := iv_xst R X
  obtain ⟨X1, X2, X3, X4⟩ := X
  obtain ⟨Y1, Y2, Y3⟩ := Y
  subst X1 X2 Y1
  have hh := rl_h R
  have hst : ∀ s, s < 4 → a_stocks s = nI (st s) ∧ st s ≤ 3 := fun s hs => ⟨Y2 s hs, R.2.2.2.1 s hs⟩
  unfold wpX_probe
  by_cases bad : v1 < 1 ∨ 15 < v1 ∨ v3 < 1 ∨ 15 < v3 ∨ v2 < 0 ∨ v4 ≤ v2 ∨ ¬ v4 ≤ 8
  · refine xw_bad v1 v2 v3 v4 bad (br_t (by decide) ?_)
    unfold wpY_probe
    exact yw_bad v1 v2 v3 v4 bad (br_f (by decide) ⟨rfl, cap, h, st, q, tm, R, ⟨rfl, rfl, X3, X4⟩, ⟨rfl, Y2, Y3⟩⟩)
  · have b1 : ¬ v1 < 1 := fun z => bad (Or.inl z)
    have b2 : ¬ 15 < v1 := fun z => bad (Or.inr (Or.inl z))
    have b3 : ¬ v3 < 1 := fun z => bad (Or.inr (Or.inr (Or.inl z)))
    have b4 : ¬ 15 < v3 := fun z => bad (Or.inr (Or.inr (Or.inr (Or.inl z))))
    have b5 : ¬ v2 < 0 := fun z => bad (Or.inr (Or.inr (Or.inr (Or.inr (Or.inl z)))))
    have b6 : ¬ v4 ≤ v2 := fun z => bad (Or.inr (Or.inr (Or.inr (Or.inr (Or.inr (Or.inl z))))))
    have b7 : v4 ≤ 8 := Classical.byContradiction fun z => bad (Or.inr (Or.inr (Or.inr (Or.inr (Or.inr (Or.inr z))))))
    obtain ⟨p, hp1, hp, rfl⟩ := tb_arg (a := 1) (b := 15) (by omega) (by omega) (Int32.not_lt.mp b1) (Int32.not_lt.mp b2)
    obtain ⟨b, hb1, hb, rfl⟩ := tb_arg (a := 1) (b := 15) (by omega) (by omega) (Int32.not_lt.mp b3) (Int32.not_lt.mp b4)
    obtain ⟨t, u, htu, hu, rfl, rfl⟩ := tb_tu b5 b6 b7
    have ask : ∀ e, e < 10 → a_askedSet e = nI (q e) := fun e he => (X4 e he).1
    have opn : ∀ e, e < 10 → a_openSet e = nI (q e) := fun e he => (X4 e he).2.1
    have tim : ∀ e, e < 10 → a_endTime e = nI (tm e) := fun e he => (X4 e he).2.2
    have X4' : ∀ i, ∀ e, e < 10 → upd (upd a_askedSet (2 * i) (nI p)) (2 * i + 1) (nI b) e = nI (rl_q q i p b e) ∧ upd (upd a_openSet (2 * i) (nI p)) (2 * i + 1) (nI b) e = nI (rl_q q i p b e) ∧
        upd (upd a_endTime (2 * i) (nI t)) (2 * i + 1) (nI u) e = nI (rl_q tm i t u e) :=
      fun i e he => ⟨rl_upd _ q i p b ask e he, rl_upd _ q i p b opn e he, rl_upd _ tm i t u tim e he⟩
    have c6 := R.2.1
    have Y3' : ∀ i, h.testBit i = false → yw_B h (rl_q q i p b) (rl_q tm i t u) a_held a_picks a_outs a_backs a_homes := by
      intro i fr j hj
      refine ⟨(Y3 j hj).1, fun o => ?_⟩
      have c : ¬ j = i := fun z => by rw [z, fr] at o; cases o
      rw [rl_qn0 q i p b j c, rl_qn1 q i p b j c, rl_qn0 tm i t u j c, rl_qn1 tm i t u j c]
      exact (Y3 j hj).2 o
    refine xw_book cap h st q tm R HX p t b u hp1 (by omega) hb1 (by omega) htu hu (fun f => ?_) (fun lc g => ?_) (fun lc g => ?_)
    · refine br_t (by decide) ?_
      refine yw_probe cap h st q tm R rfl hst Y3 p t b u hp1 (by omega) hb1 (by omega) htu hu (fun _ => ?_) (fun lc => absurd lc (by omega)) (fun lc => absurd lc (by omega))
      exact ⟨rfl, cap, h, st, q, tm, R, ⟨rfl, rfl, X3, X4⟩, ⟨rfl, Y2, Y3⟩⟩
    · have li : tb_lf h < 5 := by omega
      have fr := tb_lf_free h hh li
      have sl := tb_sl (tb_lf h) li
      have hs : h ||| 2 ^ tb_lf h < 32 := Nat.lt_of_lt_of_le (tb_or_lt cap c6 h hh R.2.2.1 (tb_lf h) lc) (tb_cap cap c6)
      refine br_f (nI_pos (by omega)) (nm_r (e' := nI h) (by rw [sl, tb_clr _ hs _ li, tb_c_or h hh _ li fr]) ?_)
      refine yw_probe cap h st q tm R rfl hst Y3 p t b u hp1 (by omega) hb1 (by omega) htu hu (fun f => absurd lc (by omega)) (fun _ _ on pk ou ba ho sp ft => ?_) (fun _ ng => absurd g ng)
      exact ⟨rfl, cap, h, st, _, _, rl_over (tb_lf h) p t b u R fr (by omega) (by omega) (by omega) hu, ⟨rfl, rfl, X3, X4' _⟩, ⟨rfl, Y2, Y3' _ fr⟩⟩
    · have li : tb_lf h < 5 := by omega
      have fr := tb_lf_free h hh li
      refine br_t (by decide) ?_
      refine yw_probe cap h st q tm R rfl hst Y3 p t b u hp1 (by omega) hb1 (by omega) htu hu (fun f => absurd lc (by omega)) (fun _ g' => absurd g' g) (fun _ _ on pk ou ba ho sp ft => ?_)
      exact ⟨rfl, cap, h, st, _, _, rl_over (tb_lf h) p t b u R fr (by omega) (by omega) (by omega) hu, ⟨rfl, rfl, X3, X4' _⟩, ⟨rfl, Y2, Y3' _ fr⟩⟩

theorem i_vc_cancel {k : Nat} {u : SX} {v : SY} (I : i_Rel k u v) (hk : k + 5 ≤ 2564) (v1 : Int32) : wpX_cancel (fun r u' => wpY_cancel (fun r' v' => r' = r ∧ i_Rel (k + 5) u' v') v v1) u v1 := by
  obtain ⟨cap, h, st, q, tm, R, X, Y⟩ := I
  obtain ⟨f_capacity, f_held, a_stockAt, a_askedSet, a_endTime, a_openSet⟩ := u
  obtain ⟨f_most, f_extra, f_gone, f_goneSet, f_goneAt, f_floorAt, f_floorFrom, f_floor, f_total, a_stocks, a_held, a_picks, a_outs, a_backs, a_homes, a_on, a_pick, a_out, a_back, a_home, a_spread⟩ := v
  have HX := iv_xst R X
  obtain ⟨X1, X2, X3, X4⟩ := X
  obtain ⟨Y1, Y2, Y3⟩ := Y
  subst X1 X2 Y1
  have hh := rl_h R
  have hst : ∀ s, s < 4 → a_stocks s = nI (st s) ∧ st s ≤ 3 := fun s hs => ⟨Y2 s hs, R.2.2.2.1 s hs⟩
  have same : ∀ r : Int32, r = r ∧ i_Rel (k + 5) (nI cap, nI h, a_stockAt, a_askedSet, a_endTime, a_openSet) (nI cap, f_extra, f_gone, f_goneSet, f_goneAt, f_floorAt, f_floorFrom, f_floor, f_total, a_stocks, a_held, a_picks, a_outs, a_backs, a_homes, a_on, a_pick, a_out, a_back, a_home, a_spread) :=
    fun r => ⟨rfl, cap, h, st, q, tm, R, ⟨rfl, rfl, X3, X4⟩, ⟨rfl, Y2, Y3⟩⟩
  unfold wpX_cancel
  rcases pk_ix v1 (n := 5) (by omega) with o | o | ⟨i, hi, rfl⟩
  · refine xw_held_out v1 (Or.inl o) (br_t rfl ?_)
    unfold wpY_cancel
    exact yw_there_out v1 (Or.inl o) (br_t rfl (same _))
  · refine xw_held_out v1 (Or.inr o) (br_t rfl ?_)
    unfold wpY_cancel
    exact yw_there_out v1 (Or.inr o) (br_t rfl (same _))
  · refine xw_held (nI cap) a_stockAt a_askedSet a_endTime a_openSet h hh i hi ?_
    cases o : h.testBit i
    · refine br_t rfl ?_
      unfold wpY_cancel
      refine yw_there h (fun j hj => (Y3 j hj).1) i hi ?_
      rw [o]
      exact br_t rfl (same _)
    · have sl := tb_sl i hi
      have v5 : vp_in (nI i) 5 := vp_in_nI hi (by omega)
      have v6 : vp_in (nI i) 6 := vp_in_nI (by omega) (by omega)
      have ci : (nI i).toNatClampNeg = i := nI_clamp (by omega)
      have c32 : tb_c h i < 32 := Nat.lt_of_lt_of_le (tb_c_lt cap R.2.1 h hh R.2.2.1 i hi) (tb_cap cap R.2.1)
      have rg' := rl_drop_rg i hi R
      refine br_f (by decide) (nm_r (e' := nI (tb_c h i)) (by rw [sl]; exact tb_clr h hh i hi) ?_)
      refine xw_good (nI cap) a_stockAt a_askedSet a_endTime a_openSet st q tm HX (tb_c h i) c32 (fun g => br_f (by decide) ?_) (fun g => br_t rfl (nm_r (e' := nI h) (by rw [sl, tb_set _ c32 i hi, tb_or_c h hh i hi o]) ?_))
      · unfold wpY_cancel
        refine yw_there h (fun j hj => (Y3 j hj).1) i hi ?_
        rw [o]
        refine br_f (by decide) (yw_ask h hh q tm Y3 (fun on pk ou ba ho H => ⟨v6, nm_r (e' := upd on i (zi_b false)) (by rw [ci, yw_n0]) ?_⟩))
        refine yw_plain (tb_c h i).testBit q tm (yw_Hc h hh q tm i hi H) rg' st hst (fun _ sp ft => ?_) (fun ng => absurd g ng)
        refine br_f (by decide) ⟨v5, nm_r (e' := upd a_held i (zi_b false)) (by rw [ci, yw_n0]) ⟨rfl, cap, tb_c h i, st, q, tm, rl_drop i hi R g, ⟨rfl, rfl, X3, X4⟩, ⟨rfl, Y2, fun j hj => ?_⟩⟩⟩
        have z := Y3 j hj
        rw [tb_c_bit h hh i hi j (by omega)]
        by_cases c : j = i
        · subst c
          rw [decide_eq_true rfl, Bool.not_true, Bool.and_false]
          exact ⟨pk_us, fun w => by cases w⟩
        · rw [decide_eq_false c, Bool.not_false, Bool.and_true, pk_un c]; exact z
      · unfold wpY_cancel
        refine yw_there h (fun j hj => (Y3 j hj).1) i hi ?_
        rw [o]
        refine br_f (by decide) (yw_ask h hh q tm Y3 (fun on pk ou ba ho H => ⟨v6, nm_r (e' := upd on i (zi_b false)) (by rw [ci, yw_n0]) ?_⟩))
        refine yw_plain (tb_c h i).testBit q tm (yw_Hc h hh q tm i hi H) rg' st hst (fun g' => absurd g' g) (fun _ sp ft => ?_)
        exact br_t rfl ⟨rfl, cap, h, st, q, tm, R, ⟨rfl, rfl, X3, X4⟩, ⟨rfl, Y2, Y3⟩⟩

theorem i_vc_setStock {k : Nat} {u : SX} {v : SY} (I : i_Rel k u v) (hk : k + 5 ≤ 2564) (v1 : Int32) (v2 : Int32) : wpX_setStock (fun r u' => wpY_setStock (fun r' v' => r' = r ∧ i_Rel (k + 5) u' v') v v1 v2) u v1 v2 := by
  obtain ⟨cap, h, st, q, tm, R, X, Y⟩ := I
  obtain ⟨f_capacity, f_held, a_stockAt, a_askedSet, a_endTime, a_openSet⟩ := u
  obtain ⟨f_most, f_extra, f_gone, f_goneSet, f_goneAt, f_floorAt, f_floorFrom, f_floor, f_total, a_stocks, a_held, a_picks, a_outs, a_backs, a_homes, a_on, a_pick, a_out, a_back, a_home, a_spread⟩ := v
  have HX := iv_xst R X
  obtain ⟨X1, X2, X3, X4⟩ := X
  obtain ⟨Y1, Y2, Y3⟩ := Y
  subst X1 X2 Y1
  have hh := rl_h R
  have same : ∀ r : Int32, r = r ∧ i_Rel (k + 5) (nI cap, nI h, a_stockAt, a_askedSet, a_endTime, a_openSet) (nI cap, f_extra, f_gone, f_goneSet, f_goneAt, f_floorAt, f_floorFrom, f_floor, f_total, a_stocks, a_held, a_picks, a_outs, a_backs, a_homes, a_on, a_pick, a_out, a_back, a_home, a_spread) :=
    fun r => ⟨rfl, cap, h, st, q, tm, R, ⟨rfl, rfl, X3, X4⟩, ⟨rfl, Y2, Y3⟩⟩
  unfold wpX_setStock wpX_isStation
  rcases pk_ix v1 (n := 4) (by omega) with o | o | ⟨s, hs, rfl⟩
  · exact br_t o (br_t rfl (br_t o (same _)))
  · have c := iv_hi v1 3 (by omega) o
    exact br_f c.2.2 (br_t o (br_t rfl (br_f c.2.2 (br_t c.1 (same _)))))
  · refine br_f (nI_pos (by omega)) (br_f (nI_ge (b := 4) hs (by decide)) (br_f (by decide) ?_))
    by_cases b1 : v2 < 0
    · exact br_t b1 (br_f (nI_pos (by omega)) (br_f (nI_nlt (a := 3) (by omega) (by omega)) (br_t b1 (same _))))
    by_cases b2 : v2 ≤ 3
    · obtain ⟨n, _, hn, rfl⟩ := tb_arg (a := 0) (b := 3) (by omega) (by omega) (Int32.not_lt.mp b1) b2
      have v4 : vp_in (nI s) 4 := vp_in_nI hs (by omega)
      have cs : (nI s).toNatClampNeg = s := nI_clamp (by omega)
      have X3' : ∀ j, j < 4 → upd a_stockAt s (nI n) j = nI (fp_up st s n j) := by
        intro j hj
        simp only [fp_up]
        by_cases c : j = s
        · subst c; rw [if_pos rfl]; exact pk_us
        · rw [if_neg c, pk_un c]; exact X3 j hj
      have Y2' : ∀ j, j < 4 → upd a_stocks s (nI n) j = nI (fp_up st s n j) := by
        intro j hj
        simp only [fp_up]
        by_cases c : j = s
        · subst c; rw [if_pos rfl]; exact pk_us
        · rw [if_neg c, pk_un c]; exact Y2 j hj
      have le3 : ∀ j, j < 4 → fp_up st s n j ≤ 3 := by
        intro j hj
        simp only [fp_up]
        split
        · exact hn
        · exact R.2.2.2.1 j hj
      have HX' : xw_st (fp_up st s n) q tm (upd a_stockAt s (nI n)) a_endTime a_openSet := ⟨fun j hj => ⟨X3' j hj, le3 j hj⟩, HX.2⟩
      refine br_f b1 (br_t b2 ⟨v4, nm_r (e' := a_stockAt s) (by rw [cs]) ⟨v4, nm_r (e' := upd a_stockAt s (nI n)) (by rw [cs]) ?_⟩⟩)
      refine xw_good (nI cap) _ a_askedSet a_endTime a_openSet (fp_up st s n) q tm HX' h hh (fun g => br_f (by decide) ?_)
        (fun g => br_t rfl ⟨v4, nm_r (e' := a_stockAt) (by rw [cs]; exact xw_back _ _ _) ?_⟩)
      · refine br_f (nI_pos (by omega)) (br_f (nI_nlt (a := 3) (by omega) (by omega)) (br_f b1 (br_t b2 ⟨v4, nm_e ⟨v4, nm_r (e' := upd a_stocks s (nI n)) (by rw [cs]) ?_⟩⟩)))
        refine yw_ask h hh q tm Y3 (fun on pk ou ba ho H => ?_)
        refine yw_plain h.testBit q tm H R.2.2.2.2.2.1 (fp_up st s n) (fun j hj => ⟨Y2' j hj, le3 j hj⟩) (fun _ sp ft => ?_) (fun ng => absurd g ng)
        exact br_f (by decide) ⟨rfl, cap, h, fp_up st s n, q, tm, rl_stock s n hn R g, ⟨rfl, rfl, X3', X4⟩, ⟨rfl, Y2', Y3⟩⟩
      · refine br_f (nI_pos (by omega)) (br_f (nI_nlt (a := 3) (by omega) (by omega)) (br_f b1 (br_t b2 ⟨v4, nm_r (e' := a_stocks s) (by rw [cs]) ⟨v4, nm_r (e' := upd a_stocks s (nI n)) (by rw [cs]) ?_⟩⟩)))
        refine yw_ask h hh q tm Y3 (fun on pk ou ba ho H => ?_)
        refine yw_plain h.testBit q tm H R.2.2.2.2.2.1 (fp_up st s n) (fun j hj => ⟨Y2' j hj, le3 j hj⟩) (fun g' => absurd g' g) (fun _ sp ft => ?_)
        exact br_t rfl ⟨v4, nm_r (e' := a_stocks) (by rw [cs]; exact xw_back _ _ _) ⟨rfl, cap, h, st, q, tm, R, ⟨rfl, rfl, X3, X4⟩, ⟨rfl, Y2, Y3⟩⟩⟩
    · exact br_f b1 (br_f b2 (br_f (nI_pos (by omega)) (br_f (nI_nlt (a := 3) (by omega) (by omega)) (br_f b1 (br_f b2 (same _))))))

theorem i_vc_stock {k : Nat} {u : SX} {v : SY} (I : i_Rel k u v) (hk : k + 5 ≤ 2564) (v1 : Int32) : wpX_stock (fun r => wpY_stock (fun r' => r' = r ∧ i_Rel (k + 5) u v) v v1) u v1 := by
  have I0 : i_Rel (k + 5) u v := I
  obtain ⟨cap, h, st, q, tm, R, X, Y⟩ := I
  obtain ⟨f_capacity, f_held, a_stockAt, a_askedSet, a_endTime, a_openSet⟩ := u
  obtain ⟨f_most, f_extra, f_gone, f_goneSet, f_goneAt, f_floorAt, f_floorFrom, f_floor, f_total, a_stocks, a_held, a_picks, a_outs, a_backs, a_homes, a_on, a_pick, a_out, a_back, a_home, a_spread⟩ := v
  obtain ⟨X1, X2, X3, X4⟩ := X
  obtain ⟨Y1, Y2, Y3⟩ := Y
  unfold wpX_stock wpX_isStation
  rcases pk_ix v1 (n := 4) (by omega) with o | o | ⟨s, hs, rfl⟩
  · exact br_t o (br_t rfl (br_t o ⟨rfl, I0⟩))
  · have c := iv_hi v1 3 (by omega) o
    exact br_f c.2.2 (br_t o (br_t rfl (br_f c.2.2 (br_f c.2.1 ⟨rfl, I0⟩))))
  · have v4 : vp_in (nI s) 4 := vp_in_nI hs (by omega)
    have cs : (nI s).toNatClampNeg = s := nI_clamp (by omega)
    refine br_f (nI_pos (by omega)) (br_f (nI_ge (b := 4) hs (by decide)) (br_f (by decide) ⟨v4, br_f (nI_pos (by omega)) (br_t (nI_le (b := 3) (by omega) (by omega)) ⟨v4, ?_, I0⟩)⟩))
    rw [cs, X3 s hs, Y2 s hs]

theorem i_vc_bookings {k : Nat} {u : SX} {v : SY} (I : i_Rel k u v) (hk : k + 5 ≤ 2564) : wpX_bookings (fun r => wpY_bookings (fun r' => r' = r ∧ i_Rel (k + 5) u v) v) u := by
  have I0 : i_Rel (k + 5) u v := I
  obtain ⟨cap, h, st, q, tm, R, X, Y⟩ := I
  obtain ⟨f_capacity, f_held, a_stockAt, a_askedSet, a_endTime, a_openSet⟩ := u
  obtain ⟨f_most, f_extra, f_gone, f_goneSet, f_goneAt, f_floorAt, f_floorFrom, f_floor, f_total, a_stocks, a_held, a_picks, a_outs, a_backs, a_homes, a_on, a_pick, a_out, a_back, a_home, a_spread⟩ := v
  obtain ⟨X1, X2, X3, X4⟩ := X
  obtain ⟨Y1, Y2, Y3⟩ := Y
  unfold wpX_bookings
  exact yw_bookings h (rl_h R) (fun j hj => (Y3 j hj).1) ⟨X2.symm, I0⟩
end
section
theorem iv_room {cap h : Nat} {st q tm : Nat → Nat} (R : rl_R cap h st q tm) (p t : Nat) (r : Int) (I : ∀ g, g < 32 → xg_sub g h → r ≤ xg_sl st h g p t q tm)
    (J : ∃ g, g < 32 ∧ xg_sub g h ∧ r = xg_sl st h g p t q tm) :
    (∀ z, (∀ g, z ≤ hs_sl (xg_st st) h.testBit (xg_pk q) (xg_ot tm) (xg_bk q) (xg_hm tm) p.testBit t g true) ↔ z ≤ r) ∧ 0 ≤ r ∧ r ≤ 17 := by
  have hh := rl_h R
  obtain ⟨g, h32, sub, e⟩ := J
  have hr : ∀ z, (∀ g, z ≤ hs_sl (xg_st st) h.testBit (xg_pk q) (xg_ot tm) (xg_bk q) (xg_hm tm) p.testBit t g true) ↔ z ≤ r := by
    intro z
    rw [xg_room st h hh p t q tm z]
    constructor
    · intro a; rw [e]; exact a g h32 sub
    · intro a g' g2 s; exact Int.le_trans a (I g' g2 s)
  refine ⟨hr, (hr 0).mp fun g => ?_, ?_⟩
  · exact Int.le_trans (an_good st h.testBit q tm p.testBit t R.2.2.2.2.2.2 g) (hs_sl_mono (xg_st st) (an_st st) _ _ _ _ _ _ _ g)
  · rw [e]; exact (xg_sl_bd st h g p t q tm R.2.2.2.1).2

theorem i_vc_shortage {k : Nat} {u : SX} {v : SY} (I : i_Rel k u v) (hk : k + 5 ≤ 2564) (v1 : Int32) (v2 : Int32) (v3 : Int32) : wpX_shortage (fun r => wpY_shortage (fun r' v' => r' = r ∧ i_Rel (k + 5) u v') v v1 v2 v3) u v1 v2 v3 := by
  obtain ⟨cap, h, st, q, tm, R, X, Y⟩ := I
  obtain ⟨f_capacity, f_held, a_stockAt, a_askedSet, a_endTime, a_openSet⟩ := u
  obtain ⟨f_most, f_extra, f_gone, f_goneSet, f_goneAt, f_floorAt, f_floorFrom, f_floor, f_total, a_stocks, a_held, a_picks, a_outs, a_backs, a_homes, a_on, a_pick, a_out, a_back, a_home, a_spread⟩ := v
  have HX := iv_xst R X
  obtain ⟨X1, X2, X3, X4⟩ := X
  obtain ⟨Y1, Y2, Y3⟩ := Y
  subst X1 X2 Y1
  have hh := rl_h R
  have hst : ∀ s, s < 4 → a_stocks s = nI (st s) ∧ st s ≤ 3 := fun s hs => ⟨Y2 s hs, R.2.2.2.1 s hs⟩
  have same : ∀ r : Int32, r = r ∧ i_Rel (k + 5) (nI cap, nI h, a_stockAt, a_askedSet, a_endTime, a_openSet) (nI cap, f_extra, f_gone, f_goneSet, f_goneAt, f_floorAt, f_floorFrom, f_floor, f_total, a_stocks, a_held, a_picks, a_outs, a_backs, a_homes, a_on, a_pick, a_out, a_back, a_home, a_spread) :=
    fun r => ⟨rfl, cap, h, st, q, tm, R, ⟨rfl, rfl, X3, X4⟩, ⟨rfl, Y2, Y3⟩⟩
  unfold wpX_shortage wpX_isStationSet wpX_isTime
  by_cases b1 : v1 < 1
  · exact br_t b1 (br_t rfl (br_t b1 (same _)))
  refine br_f b1 ?_
  by_cases b2 : 15 < v1
  · exact br_t b2 (br_t rfl (br_f b1 (br_t b2 (same _))))
  refine br_f b2 (br_f (by decide) ?_)
  by_cases b3 : v2 < 0
  · exact br_t b3 (br_t rfl (br_f b1 (br_f b2 (br_t b3 (same _)))))
  refine br_f b3 ?_
  by_cases b4 : 8 < v2
  · exact br_t b4 (br_t rfl (br_f b1 (br_f b2 (br_f b3 (br_t b4 (same _))))))
  refine br_f b4 (br_f (by decide) ?_)
  by_cases b5 : v3 < 0
  · exact br_t b5 (br_f b1 (br_f b2 (br_f b3 (br_f b4 (br_t b5 (same _))))))
  refine br_f b5 ?_
  by_cases b6 : v3 ≤ 9
  · obtain ⟨p, hp1, hp, rfl⟩ := tb_arg (a := 1) (b := 15) (by omega) (by omega) (Int32.not_lt.mp b1) (Int32.not_lt.mp b2)
    obtain ⟨t, _, ht, rfl⟩ := tb_arg (a := 0) (b := 8) (by omega) (by omega) (Int32.not_lt.mp b3) (Int32.not_lt.mp b4)
    obtain ⟨n, _, hn, rfl⟩ := tb_arg (a := 0) (b := 9) (by omega) (by omega) (Int32.not_lt.mp b5) b6
    refine br_t b6 (xw_room (nI cap) a_stockAt a_askedSet a_endTime a_openSet st q tm HX h p t hh (by omega) ht (fun r Ir Jr => ?_))
    obtain ⟨hr, r0, r17⟩ := iv_room R p t r Ir Jr
    have cmp : (nI n ≤ zi_z r) ↔ (n : Int) ≤ r := by rw [zi_n]; exact zi_le (by omega) (by omega) (by omega) (by omega)
    have go : ∀ (x : Int32) (A : Nat), (∀ e : Nat, A ≤ e ↔ (n : Int) - e ≤ r) → nI A = x →
        wpY_shortage (fun r' v' => r' = x ∧ i_Rel (k + 5) (nI cap, nI h, a_stockAt, a_askedSet, a_endTime, a_openSet) v') (nI cap, f_extra, f_gone, f_goneSet, f_goneAt, f_floorAt, f_floorFrom, f_floor, f_total, a_stocks, a_held, a_picks, a_outs, a_backs, a_homes, a_on, a_pick, a_out, a_back, a_home, a_spread) (nI p) (nI t) (nI n) := by
      intro x A hA hx
      exact yw_short cap h st q tm R hst Y3 p t n hp1 (by omega) ht hn r hr r0 A hA
        (fun ex gn gs ga fa ff fl on pk ou ba ho sp ft => ⟨hx, cap, h, st, q, tm, R, ⟨rfl, rfl, X3, X4⟩, ⟨rfl, Y2, Y3⟩⟩)
    by_cases c : (n : Int) ≤ r
    · exact br_t (cmp.mpr c) (go 0 0 (fun e => ⟨fun _ => by omega, fun _ => by omega⟩) nI_0)
    · refine br_f (fun z => c (cmp.mp z)) (go _ ((n : Int) - r).toNat (fun e => ⟨fun _ => by omega, fun _ => by omega⟩) ?_)
      rw [zi_n, zi_n, zi_sub]; exact congrArg zi_z (by omega)
  · exact br_f b6 (br_f b1 (br_f b2 (br_f b3 (br_f b4 (br_f b5 (br_f b6 (same _)))))))

theorem i_vc_spare {k : Nat} {u : SX} {v : SY} (I : i_Rel k u v) (hk : k + 5 ≤ 2564) (v1 : Int32) (v2 : Int32) : wpX_spare (fun r => wpY_spare (fun r' v' => r' = r ∧ i_Rel (k + 5) u v') v v1 v2) u v1 v2 := by
  obtain ⟨cap, h, st, q, tm, R, X, Y⟩ := I
  obtain ⟨f_capacity, f_held, a_stockAt, a_askedSet, a_endTime, a_openSet⟩ := u
  obtain ⟨f_most, f_extra, f_gone, f_goneSet, f_goneAt, f_floorAt, f_floorFrom, f_floor, f_total, a_stocks, a_held, a_picks, a_outs, a_backs, a_homes, a_on, a_pick, a_out, a_back, a_home, a_spread⟩ := v
  have HX := iv_xst R X
  obtain ⟨X1, X2, X3, X4⟩ := X
  obtain ⟨Y1, Y2, Y3⟩ := Y
  subst X1 X2 Y1
  have hh := rl_h R
  have hst : ∀ s, s < 4 → a_stocks s = nI (st s) ∧ st s ≤ 3 := fun s hs => ⟨Y2 s hs, R.2.2.2.1 s hs⟩
  have same : ∀ r : Int32, r = r ∧ i_Rel (k + 5) (nI cap, nI h, a_stockAt, a_askedSet, a_endTime, a_openSet) (nI cap, f_extra, f_gone, f_goneSet, f_goneAt, f_floorAt, f_floorFrom, f_floor, f_total, a_stocks, a_held, a_picks, a_outs, a_backs, a_homes, a_on, a_pick, a_out, a_back, a_home, a_spread) :=
    fun r => ⟨rfl, cap, h, st, q, tm, R, ⟨rfl, rfl, X3, X4⟩, ⟨rfl, Y2, Y3⟩⟩
  unfold wpX_spare wpX_isStation wpX_isTime
  rcases pk_ix v1 (n := 4) (by omega) with o | o | ⟨s, hs, rfl⟩
  · exact br_t o (br_t rfl (br_t o (same _)))
  · have c := iv_hi v1 3 (by omega) o
    exact br_f c.2.2 (br_t o (br_t rfl (br_f c.2.2 (br_t c.1 (same _)))))
  · have s0 : ¬ nI s < 0 := nI_pos (by omega)
    have s3 : ¬ 3 < nI s := nI_nlt (a := 3) (by omega) (by omega)
    refine br_f s0 (br_f (nI_ge (b := 4) hs (by decide)) (br_f (by decide) ?_))
    by_cases b1 : v2 < 0
    · exact br_t b1 (br_t rfl (br_f s0 (br_f s3 (br_t b1 (same _)))))
    refine br_f b1 ?_
    by_cases b2 : 8 < v2
    · exact br_t b2 (br_t rfl (br_f s0 (br_f s3 (br_f b1 (br_f (Int32.not_le.mpr b2) (same _))))))
    · obtain ⟨x, _, hx, rfl⟩ := tb_arg (a := 0) (b := 8) (by omega) (by omega) (Int32.not_lt.mp b1) (Int32.not_lt.mp b2)
      refine br_f b2 (br_f (by decide) ?_)
      have pw := an_pow_lt s hs
      rw [tb_sl s (by omega)]
      refine xw_room (nI cap) a_stockAt a_askedSet a_endTime a_openSet st q tm HX h (2 ^ s) x hh pw.2 hx (fun r Ir Jr => ?_)
      obtain ⟨hr, r0, r17⟩ := iv_room R (2 ^ s) x r Ir Jr
      have r8 : r ≤ 8 := Int.le_trans (Ir 0 (by omega) (fun j _ z => by rw [Nat.zero_testBit] at z; cases z)) (rl_room_le st h s x hs q tm R.2.2.2.1)
      have rA : (r.toNat : Int) = r := by omega
      refine yw_spare cap h st q tm R hst Y3 s x hs hx r.toNat (by omega) (by rw [rA]; exact hr) (fun ex gn gs ga fa ff fl on pk ou ba ho sp ft => ⟨?_, cap, h, st, q, tm, R, ⟨rfl, rfl, X3, X4⟩, ⟨rfl, Y2, Y3⟩⟩)
      rw [zi_n, rA]

theorem i_vc_pickupOf {k : Nat} {u : SX} {v : SY} (I : i_Rel k u v) (hk : k + 5 ≤ 2564) (v1 : Int32) : wpX_pickupOf (fun r u' => wpY_pickupOf (fun r' v' => r' = r ∧ i_Rel (k + 5) u' v') v v1) u v1 := by
  obtain ⟨cap, h, st, q, tm, R, X, Y⟩ := I
  obtain ⟨f_capacity, f_held, a_stockAt, a_askedSet, a_endTime, a_openSet⟩ := u
  obtain ⟨f_most, f_extra, f_gone, f_goneSet, f_goneAt, f_floorAt, f_floorFrom, f_floor, f_total, a_stocks, a_held, a_picks, a_outs, a_backs, a_homes, a_on, a_pick, a_out, a_back, a_home, a_spread⟩ := v
  have HX := iv_xst R X
  obtain ⟨X1, X2, X3, X4⟩ := X
  obtain ⟨Y1, Y2, Y3⟩ := Y
  subst X1 X2 Y1
  have hh := rl_h R
  have hst : ∀ s, s < 4 → a_stocks s = nI (st s) ∧ st s ≤ 3 := fun s hs => ⟨Y2 s hs, R.2.2.2.1 s hs⟩
  have same : ∀ r : Int32, r = r ∧ i_Rel (k + 5) (nI cap, nI h, a_stockAt, a_askedSet, a_endTime, a_openSet) (nI cap, f_extra, f_gone, f_goneSet, f_goneAt, f_floorAt, f_floorFrom, f_floor, f_total, a_stocks, a_held, a_picks, a_outs, a_backs, a_homes, a_on, a_pick, a_out, a_back, a_home, a_spread) :=
    fun r => ⟨rfl, cap, h, st, q, tm, R, ⟨rfl, rfl, X3, X4⟩, ⟨rfl, Y2, Y3⟩⟩
  have rg := R.2.2.2.2.2.1
  have good := R.2.2.2.2.2.2
  unfold wpX_pickupOf
  rcases pk_ix v1 (n := 5) (by omega) with o | o | ⟨i, hi, rfl⟩
  · refine xw_held_out v1 (Or.inl o) (br_t rfl ?_)
    unfold wpY_pickupOf
    exact yw_there_out v1 (Or.inl o) (br_t rfl (same _))
  · refine xw_held_out v1 (Or.inr o) (br_t rfl ?_)
    unfold wpY_pickupOf
    exact yw_there_out v1 (Or.inr o) (br_t rfl (same _))
  · refine xw_held (nI cap) a_stockAt a_askedSet a_endTime a_openSet h hh i hi ?_
    cases o : h.testBit i
    · refine br_t rfl ?_
      unfold wpY_pickupOf
      refine yw_there h (fun j hj => (Y3 j hj).1) i hi ?_
      rw [o]
      exact br_t rfl (same _)
    · have m2 : (2 : Int32) * nI i = nI (2 * i) := pk_mul 2 i
      have d0 : 2 * i / 2 = i := by omega
      have d1 : (2 * i + 1) / 2 = i := by omega
      have i0 := fp_inv st h.testBit q tm rg good (2 * i) (by omega)
      have s0 := fp_ls_spec (fp_n st h.testBit (fp_q st h.testBit q tm (2 * i)) tm (2 * i)) (fp_ex st h.testBit _ tm i0.1 i0.2.1 (2 * i) (by omega) (by rw [d0]; exact o))
      have q1 := fp_q_s st h.testBit q tm (2 * i) (by rw [d0]; exact o)
      have q2 := fp_q_s st h.testBit q tm (2 * i + 1) (by rw [d1]; exact o)
      refine br_f (by decide) ?_
      rw [m2]
      refine xw_first (nI cap) a_stockAt a_askedSet a_endTime a_openSet st q tm HX h hh rg good (2 * i) (by omega) (by rw [d0]; exact o) (fun oS hoS => ?_)
      show wpY_pickupOf _ _ _
      unfold wpY_pickupOf
      refine yw_there h (fun j hj => (Y3 j hj).1) i hi ?_
      rw [o]
      refine br_f (by decide) (yw_first st h hh q tm rg good hst Y3 i hi (fun on pk ou ba ho sp ft H => ⟨vp_in_nI (by omega) (by omega), ?_⟩))
      have pv : pk (nI i).toNatClampNeg = nI (2 ^ fp_ls (fp_n st h.testBit (fp_q st h.testBit q tm (2 * i)) tm (2 * i))) := by
        rw [nI_clamp (by omega), ((H i (by omega)).2 o).1, q2, q1]
        have e1 : ¬ 2 * i = 2 * i + 1 := by omega
        simp only [fp_up, if_neg e1, if_true]
      rw [pv]
      exact yw_stationOf _ s0.1 ⟨rfl, cap, h, st, q, tm, R, ⟨rfl, rfl, X3, fun e he => ⟨(X4 e he).1, (hoS e he).trans (X4 e he).1, (X4 e he).2.2⟩⟩, ⟨rfl, Y2, Y3⟩⟩

theorem i_vc_returnOf {k : Nat} {u : SX} {v : SY} (I : i_Rel k u v) (hk : k + 5 ≤ 2564) (v1 : Int32) : wpX_returnOf (fun r u' => wpY_returnOf (fun r' v' => r' = r ∧ i_Rel (k + 5) u' v') v v1) u v1 := by
  obtain ⟨cap, h, st, q, tm, R, X, Y⟩ := I
  obtain ⟨f_capacity, f_held, a_stockAt, a_askedSet, a_endTime, a_openSet⟩ := u
  obtain ⟨f_most, f_extra, f_gone, f_goneSet, f_goneAt, f_floorAt, f_floorFrom, f_floor, f_total, a_stocks, a_held, a_picks, a_outs, a_backs, a_homes, a_on, a_pick, a_out, a_back, a_home, a_spread⟩ := v
  have HX := iv_xst R X
  obtain ⟨X1, X2, X3, X4⟩ := X
  obtain ⟨Y1, Y2, Y3⟩ := Y
  subst X1 X2 Y1
  have hh := rl_h R
  have hst : ∀ s, s < 4 → a_stocks s = nI (st s) ∧ st s ≤ 3 := fun s hs => ⟨Y2 s hs, R.2.2.2.1 s hs⟩
  have same : ∀ r : Int32, r = r ∧ i_Rel (k + 5) (nI cap, nI h, a_stockAt, a_askedSet, a_endTime, a_openSet) (nI cap, f_extra, f_gone, f_goneSet, f_goneAt, f_floorAt, f_floorFrom, f_floor, f_total, a_stocks, a_held, a_picks, a_outs, a_backs, a_homes, a_on, a_pick, a_out, a_back, a_home, a_spread) :=
    fun r => ⟨rfl, cap, h, st, q, tm, R, ⟨rfl, rfl, X3, X4⟩, ⟨rfl, Y2, Y3⟩⟩
  have rg := R.2.2.2.2.2.1
  have good := R.2.2.2.2.2.2
  unfold wpX_returnOf
  rcases pk_ix v1 (n := 5) (by omega) with o | o | ⟨i, hi, rfl⟩
  · refine xw_held_out v1 (Or.inl o) (br_t rfl ?_)
    unfold wpY_returnOf
    exact yw_there_out v1 (Or.inl o) (br_t rfl (same _))
  · refine xw_held_out v1 (Or.inr o) (br_t rfl ?_)
    unfold wpY_returnOf
    exact yw_there_out v1 (Or.inr o) (br_t rfl (same _))
  · refine xw_held (nI cap) a_stockAt a_askedSet a_endTime a_openSet h hh i hi ?_
    cases o : h.testBit i
    · refine br_t rfl ?_
      unfold wpY_returnOf
      refine yw_there h (fun j hj => (Y3 j hj).1) i hi ?_
      rw [o]
      exact br_t rfl (same _)
    · have m2 : (2 : Int32) * nI i + 1 = nI (2 * i + 1) := by
        have e : (2 : Int32) * nI i = nI (2 * i) := pk_mul 2 i
        rw [e, nI_1]
      have d1 : (2 * i + 1) / 2 = i := by omega
      have i1 := fp_inv st h.testBit q tm rg good (2 * i + 1) (by omega)
      have s1 := fp_ls_spec (fp_n st h.testBit (fp_q st h.testBit q tm (2 * i + 1)) tm (2 * i + 1)) (fp_ex st h.testBit _ tm i1.1 i1.2.1 (2 * i + 1) (by omega) (by rw [d1]; exact o))
      have q2 := fp_q_s st h.testBit q tm (2 * i + 1) (by rw [d1]; exact o)
      refine br_f (by decide) ?_
      rw [m2]
      refine xw_first (nI cap) a_stockAt a_askedSet a_endTime a_openSet st q tm HX h hh rg good (2 * i + 1) (by omega) (by rw [d1]; exact o) (fun oS hoS => ?_)
      show wpY_returnOf _ _ _
      unfold wpY_returnOf
      refine yw_there h (fun j hj => (Y3 j hj).1) i hi ?_
      rw [o]
      refine br_f (by decide) (yw_first st h hh q tm rg good hst Y3 i hi (fun on pk ou ba ho sp ft H => ⟨vp_in_nI (by omega) (by omega), ?_⟩))
      have pv : ba (nI i).toNatClampNeg = nI (2 ^ fp_ls (fp_n st h.testBit (fp_q st h.testBit q tm (2 * i + 1)) tm (2 * i + 1))) := by
        rw [nI_clamp (by omega), ((H i (by omega)).2 o).2.2.1, q2]
        simp only [fp_up, if_true]
      rw [pv]
      exact yw_stationOf _ s1.1 ⟨rfl, cap, h, st, q, tm, R, ⟨rfl, rfl, X3, fun e he => ⟨(X4 e he).1, (hoS e he).trans (X4 e he).1, (X4 e he).2.2⟩⟩, ⟨rfl, Y2, Y3⟩⟩
end
section
theorem i_vc_couldPick {k : Nat} {u : SX} {v : SY} (I : i_Rel k u v) (hk : k + 5 ≤ 2564) (v1 : Int32) (v2 : Int32) : wpX_couldPick (fun r u' => wpY_couldPick (fun r' v' => r' = r ∧ i_Rel (k + 5) u' v') v v1 v2) u v1 v2 := by
  obtain ⟨cap, h, st, q, tm, R, X, Y⟩ := I
  obtain ⟨f_capacity, f_held, a_stockAt, a_askedSet, a_endTime, a_openSet⟩ := u
  obtain ⟨f_most, f_extra, f_gone, f_goneSet, f_goneAt, f_floorAt, f_floorFrom, f_floor, f_total, a_stocks, a_held, a_picks, a_outs, a_backs, a_homes, a_on, a_pick, a_out, a_back, a_home, a_spread⟩ := v
  have HX := iv_xst R X
  obtain ⟨X1, X2, X3, X4⟩ := X
  obtain ⟨Y1, Y2, Y3⟩ := Y
  subst X1 X2 Y1
  have hh := rl_h R
  have hst : ∀ s, s < 4 → a_stocks s = nI (st s) ∧ st s ≤ 3 := fun s hs => ⟨Y2 s hs, R.2.2.2.1 s hs⟩
  have same : ∀ r : Int32, r = r ∧ i_Rel (k + 5) (nI cap, nI h, a_stockAt, a_askedSet, a_endTime, a_openSet) (nI cap, f_extra, f_gone, f_goneSet, f_goneAt, f_floorAt, f_floorFrom, f_floor, f_total, a_stocks, a_held, a_picks, a_outs, a_backs, a_homes, a_on, a_pick, a_out, a_back, a_home, a_spread) :=
    fun r => ⟨rfl, cap, h, st, q, tm, R, ⟨rfl, rfl, X3, X4⟩, ⟨rfl, Y2, Y3⟩⟩
  unfold wpX_couldPick
  rcases pk_ix v1 (n := 5) (by omega) with o | o | ⟨i, hi, rfl⟩
  · refine xw_held_out v1 (Or.inl o) (br_t rfl ?_)
    unfold wpY_couldPick
    exact yw_there_out v1 (Or.inl o) (br_t rfl (same _))
  · refine xw_held_out v1 (Or.inr o) (br_t rfl ?_)
    unfold wpY_couldPick
    exact yw_there_out v1 (Or.inr o) (br_t rfl (same _))
  · refine xw_held (nI cap) a_stockAt a_askedSet a_endTime a_openSet h hh i hi ?_
    have yt := fun (post : Int32 → Prop) (kk : post (zi_b (h.testBit i))) => yw_there (post := post) (f_most := nI cap) (f_extra := f_extra) (f_gone := f_gone) (f_goneSet := f_goneSet) (f_goneAt := f_goneAt) (f_floorAt := f_floorAt)
      (f_floorFrom := f_floorFrom) (f_floor := f_floor) (f_total := f_total) (a_stocks := a_stocks) (a_picks := a_picks) (a_outs := a_outs) (a_backs := a_backs) (a_homes := a_homes) (a_on := a_on) (a_pick := a_pick)
      (a_out := a_out) (a_back := a_back) (a_home := a_home) (a_spread := a_spread) h (fun j hj => (Y3 j hj).1) i hi kk
    cases o : h.testBit i
    · refine br_t rfl ?_
      unfold wpY_couldPick
      rw [o] at yt
      exact yt _ (br_t rfl (same _))
    · rw [o] at yt
      refine br_f (by decide) ?_
      unfold wpX_isStation
      rcases pk_ix v2 (n := 4) (by omega) with z | z | ⟨s, hs, rfl⟩
      · refine br_t z (br_t rfl ?_)
        unfold wpY_couldPick
        exact yt _ (br_f (by decide) (br_t z (same _)))
      · have c := iv_hi v2 3 (by omega) z
        refine br_f c.2.2 (br_t z (br_t rfl ?_))
        unfold wpY_couldPick
        exact yt _ (br_f (by decide) (br_f c.2.2 (br_t c.1 (same _))))
      · have m2 : (2 : Int32) * nI i = nI (2 * i) := pk_mul 2 i
        refine br_f (nI_pos (by omega)) (br_f (nI_ge (b := 4) hs (by decide)) (br_f (by decide) ?_))
        rw [m2]
        refine xw_could (nI cap) a_stockAt a_askedSet a_endTime a_openSet st q tm HX h hh (2 * i) s (by omega) hs (fun g => br_f (by decide) ?_) (fun g => br_t rfl ?_)
        · exact yw_cpk cap h st q tm R hst Y3 i s hi hs o (fun _ ex gn fa ff fl on pk ou ba ho sp ft => ⟨rfl, cap, h, st, q, tm, R, ⟨rfl, rfl, X3, X4⟩, ⟨rfl, Y2, Y3⟩⟩) (fun ng => absurd g ng)
        · exact yw_cpk cap h st q tm R hst Y3 i s hi hs o (fun g' => absurd g' g) (fun _ ex gn fa ff fl on pk ou ba ho sp ft => ⟨rfl, cap, h, st, q, tm, R, ⟨rfl, rfl, X3, X4⟩, ⟨rfl, Y2, Y3⟩⟩)

theorem i_vc_couldReturn {k : Nat} {u : SX} {v : SY} (I : i_Rel k u v) (hk : k + 5 ≤ 2564) (v1 : Int32) (v2 : Int32) : wpX_couldReturn (fun r u' => wpY_couldReturn (fun r' v' => r' = r ∧ i_Rel (k + 5) u' v') v v1 v2) u v1 v2 := by
  obtain ⟨cap, h, st, q, tm, R, X, Y⟩ := I
  obtain ⟨f_capacity, f_held, a_stockAt, a_askedSet, a_endTime, a_openSet⟩ := u
  obtain ⟨f_most, f_extra, f_gone, f_goneSet, f_goneAt, f_floorAt, f_floorFrom, f_floor, f_total, a_stocks, a_held, a_picks, a_outs, a_backs, a_homes, a_on, a_pick, a_out, a_back, a_home, a_spread⟩ := v
  have HX := iv_xst R X
  obtain ⟨X1, X2, X3, X4⟩ := X
  obtain ⟨Y1, Y2, Y3⟩ := Y
  subst X1 X2 Y1
  have hh := rl_h R
  have hst : ∀ s, s < 4 → a_stocks s = nI (st s) ∧ st s ≤ 3 := fun s hs => ⟨Y2 s hs, R.2.2.2.1 s hs⟩
  have same : ∀ r : Int32, r = r ∧ i_Rel (k + 5) (nI cap, nI h, a_stockAt, a_askedSet, a_endTime, a_openSet) (nI cap, f_extra, f_gone, f_goneSet, f_goneAt, f_floorAt, f_floorFrom, f_floor, f_total, a_stocks, a_held, a_picks, a_outs, a_backs, a_homes, a_on, a_pick, a_out, a_back, a_home, a_spread) :=
    fun r => ⟨rfl, cap, h, st, q, tm, R, ⟨rfl, rfl, X3, X4⟩, ⟨rfl, Y2, Y3⟩⟩
  unfold wpX_couldReturn
  rcases pk_ix v1 (n := 5) (by omega) with o | o | ⟨i, hi, rfl⟩
  · refine xw_held_out v1 (Or.inl o) (br_t rfl ?_)
    unfold wpY_couldReturn
    exact yw_there_out v1 (Or.inl o) (br_t rfl (same _))
  · refine xw_held_out v1 (Or.inr o) (br_t rfl ?_)
    unfold wpY_couldReturn
    exact yw_there_out v1 (Or.inr o) (br_t rfl (same _))
  · refine xw_held (nI cap) a_stockAt a_askedSet a_endTime a_openSet h hh i hi ?_
    have yt := fun (post : Int32 → Prop) (kk : post (zi_b (h.testBit i))) => yw_there (post := post) (f_most := nI cap) (f_extra := f_extra) (f_gone := f_gone) (f_goneSet := f_goneSet) (f_goneAt := f_goneAt) (f_floorAt := f_floorAt)
      (f_floorFrom := f_floorFrom) (f_floor := f_floor) (f_total := f_total) (a_stocks := a_stocks) (a_picks := a_picks) (a_outs := a_outs) (a_backs := a_backs) (a_homes := a_homes) (a_on := a_on) (a_pick := a_pick)
      (a_out := a_out) (a_back := a_back) (a_home := a_home) (a_spread := a_spread) h (fun j hj => (Y3 j hj).1) i hi kk
    cases o : h.testBit i
    · refine br_t rfl ?_
      unfold wpY_couldReturn
      rw [o] at yt
      exact yt _ (br_t rfl (same _))
    · rw [o] at yt
      refine br_f (by decide) ?_
      unfold wpX_isStation
      rcases pk_ix v2 (n := 4) (by omega) with z | z | ⟨s, hs, rfl⟩
      · refine br_t z (br_t rfl ?_)
        unfold wpY_couldReturn
        exact yt _ (br_f (by decide) (br_t z (same _)))
      · have c := iv_hi v2 3 (by omega) z
        refine br_f c.2.2 (br_t z (br_t rfl ?_))
        unfold wpY_couldReturn
        exact yt _ (br_f (by decide) (br_f c.2.2 (br_t c.1 (same _))))
      · have m2 : (2 : Int32) * nI i + 1 = nI (2 * i + 1) := by
          have e : (2 : Int32) * nI i = nI (2 * i) := pk_mul 2 i
          rw [e, nI_1]
        refine br_f (nI_pos (by omega)) (br_f (nI_ge (b := 4) hs (by decide)) (br_f (by decide) ?_))
        rw [m2]
        refine xw_could (nI cap) a_stockAt a_askedSet a_endTime a_openSet st q tm HX h hh (2 * i + 1) s (by omega) hs (fun g => br_f (by decide) ?_) (fun g => br_t rfl ?_)
        · exact yw_cbk cap h st q tm R hst Y3 i s hi hs o (fun _ ex gn fa ff fl on pk ou ba ho sp ft => ⟨rfl, cap, h, st, q, tm, R, ⟨rfl, rfl, X3, X4⟩, ⟨rfl, Y2, Y3⟩⟩) (fun ng => absurd g ng)
        · exact yw_cbk cap h st q tm R hst Y3 i s hi hs o (fun g' => absurd g' g) (fun _ ex gn fa ff fl on pk ou ba ho sp ft => ⟨rfl, cap, h, st, q, tm, R, ⟨rfl, rfl, X3, X4⟩, ⟨rfl, Y2, Y3⟩⟩)
end
