-- a state v (vehicles at stations 0 .. 3), and the cuts that say when some choice of stations serves them all.
def hl_t (x : Int) (b : Bool) : Int := if b = true then x else 0

def hl_w (v : Nat → Int) (R : Nat → Bool) : Int :=
  hl_t (v 0) (R 0) + hl_t (v 1) (R 1) + hl_t (v 2) (R 2) + hl_t (v 3) (R 3)

def hl_meet (B R : Nat → Bool) : Bool := (B 0 && R 0) || (B 1 && R 1) || (B 2 && R 2) || (B 3 && R 3)

def hl_up (v : Nat → Int) (s : Nat) (k : Int) : Nat → Int := fun i => if i = s then v i + k else v i

def hl_run (K : (Nat → Int) → Prop) : List (Bool × Nat × (Nat → Bool)) → (Nat → Int) → Prop
  | [], v => K v
  | (true, _, B) :: r, v => ∃ s, s < 4 ∧ B s = true ∧ hl_run K r (hl_up v s 1)
  | (false, _, B) :: r, v => ∃ s, s < 4 ∧ B s = true ∧ 1 ≤ v s ∧ hl_run K r (hl_up v s (-1))

def hl_cut : List (Bool × Nat × (Nat → Bool)) → (Nat → Bool) → Int → Prop
  | [], R, d => R = (fun _ => false) ∧ d = 0
  | (true, _, B) :: r, R, d => ∃ d0, hl_cut r R d0 ∧ d = d0 - hl_t 1 (hl_meet B R)
  | (false, _, B) :: r, R, d => hl_cut r R d ∨ ∃ R0, hl_cut r R0 (d - 1) ∧ R = (fun s => R0 s || B s)

-- every set of a bring holds a station
def hl_ok : List (Bool × Nat × (Nat → Bool)) → Prop
  | [] => True
  | (true, _, B) :: r => (∃ s, s < 4 ∧ B s = true) ∧ hl_ok r
  | (false, _, _) :: r => hl_ok r

theorem hl_lt4 {s : Nat} (h : s < 4) : s = 0 ∨ s = 1 ∨ s = 2 ∨ s = 3 := by omega

theorem hl_meet_of {B R : Nat → Bool} {s : Nat} (h : s < 4) (hb : B s = true) (hr : R s = true) : hl_meet B R = true := by
  rcases hl_lt4 h with h | h | h | h <;> subst h <;> simp [hl_meet, hb, hr]

theorem hl_of_meet {B R : Nat → Bool} (h : hl_meet B R = true) : ∃ s, s < 4 ∧ B s = true ∧ R s = true := by
  simp only [hl_meet, Bool.or_eq_true, Bool.and_eq_true] at h
  rcases h with ((h | h) | h) | h
  · exact ⟨0, by omega, h.1, h.2⟩
  · exact ⟨1, by omega, h.1, h.2⟩
  · exact ⟨2, by omega, h.1, h.2⟩
  · exact ⟨3, by omega, h.1, h.2⟩

theorem hl_t_bd (x : Int) (b : Bool) (h : 0 ≤ x) : 0 ≤ hl_t x b ∧ hl_t x b ≤ x := by
  cases b <;> simp [hl_t] <;> omega

theorem hl_w_up (v : Nat → Int) (s : Nat) (k : Int) (R : Nat → Bool) (h : s < 4) :
    hl_w (hl_up v s k) R = hl_w v R + hl_t k (R s) := by
  have key : ∀ i, hl_t (hl_up v s k i) (R i) = hl_t (v i) (R i) + (if i = s then hl_t k (R i) else 0) := by
    intro i
    by_cases e : i = s
    · simp only [hl_up, if_pos e]; cases R i <;> simp [hl_t]
    · simp only [hl_up, if_neg e]; omega
  simp only [hl_w, key]
  rcases hl_lt4 h with h | h | h | h <;> subst h <;> simp <;> omega

theorem hl_t_mod (x : Int) (r r' a b : Bool) (h : 0 ≤ x) (h1 : r = (a || b)) (h2 : r' = true → a = true ∧ b = true) :
    hl_t x r + hl_t x r' ≤ hl_t x a + hl_t x b := by
  subst h1
  cases a <;> cases b <;> cases r' <;> simp_all [hl_t] <;> omega

theorem hl_w_mod (v : Nat → Int) (R R' A B : Nat → Bool) (h : ∀ s, s < 4 → 0 ≤ v s) (h1 : ∀ s, R s = (A s || B s))
    (h2 : ∀ s, R' s = true → A s = true ∧ B s = true) : hl_w v R + hl_w v R' ≤ hl_w v A + hl_w v B := by
  have e0 := hl_t_mod (v 0) (R 0) (R' 0) (A 0) (B 0) (h 0 (by omega)) (h1 0) (h2 0)
  have e1 := hl_t_mod (v 1) (R 1) (R' 1) (A 1) (B 1) (h 1 (by omega)) (h1 1) (h2 1)
  have e2 := hl_t_mod (v 2) (R 2) (R' 2) (A 2) (B 2) (h 2 (by omega)) (h1 2) (h2 2)
  have e3 := hl_t_mod (v 3) (R 3) (R' 3) (A 3) (B 3) (h 3 (by omega)) (h1 3) (h2 3)
  simp only [hl_w]; omega

theorem hl_t_mono (x : Int) (a b : Bool) (h : 0 ≤ x) (h1 : a = true → b = true) : hl_t x a ≤ hl_t x b := by
  cases a <;> cases b <;> simp_all [hl_t]

theorem hl_w_mono (v : Nat → Int) (A B : Nat → Bool) (h : ∀ s, s < 4 → 0 ≤ v s) (h1 : ∀ s, s < 4 → A s = true → B s = true) :
    hl_w v A ≤ hl_w v B := by
  have e0 := hl_t_mono (v 0) (A 0) (B 0) (h 0 (by omega)) (h1 0 (by omega))
  have e1 := hl_t_mono (v 1) (A 1) (B 1) (h 1 (by omega)) (h1 1 (by omega))
  have e2 := hl_t_mono (v 2) (A 2) (B 2) (h 2 (by omega)) (h1 2 (by omega))
  have e3 := hl_t_mono (v 3) (A 3) (B 3) (h 3 (by omega)) (h1 3 (by omega))
  simp only [hl_w]; omega

-- the empty choice is a cut
theorem hl_cut_none : ∀ r : List (Bool × Nat × (Nat → Bool)), hl_cut r (fun _ => false) 0
  | [] => ⟨rfl, rfl⟩
  | (true, _, B) :: r => ⟨0, hl_cut_none r, by simp [hl_meet, hl_t]⟩
  | (false, _, _) :: r => Or.inl (hl_cut_none r)

-- two cuts have a union and a meet that together ask no less
theorem hl_sub : ∀ (r : List (Bool × Nat × (Nat → Bool))) (R1 R2 : Nat → Bool) (d1 d2 : Int), hl_cut r R1 d1 → hl_cut r R2 d2 →
    ∃ R d R' d', hl_cut r R d ∧ hl_cut r R' d' ∧ (∀ s, R s = (R1 s || R2 s)) ∧
      (∀ s, R' s = true → R1 s = true ∧ R2 s = true) ∧ d1 + d2 ≤ d + d'
  | [], R1, R2, d1, d2, ⟨h1, e1⟩, ⟨h2, e2⟩ => by
    subst h1; subst h2
    exact ⟨fun _ => false, 0, fun _ => false, 0, ⟨rfl, rfl⟩, ⟨rfl, rfl⟩, fun _ => rfl, fun s hs => by simp at hs, by omega⟩
  | (true, _, B) :: r, R1, R2, d1, d2, ⟨c1, h1, e1⟩, ⟨c2, h2, e2⟩ => by
    obtain ⟨R, d, R', d', a, b, c, e, f⟩ := hl_sub r R1 R2 c1 c2 h1 h2
    refine ⟨R, _, R', _, ⟨d, a, rfl⟩, ⟨d', b, rfl⟩, c, e, ?_⟩
    have k : hl_t 1 (hl_meet B R) + hl_t 1 (hl_meet B R') ≤ hl_t 1 (hl_meet B R1) + hl_t 1 (hl_meet B R2) := by
      have p : hl_meet B R = true → hl_meet B R1 = true ∨ hl_meet B R2 = true := by
        intro hm
        obtain ⟨s, h4, hb, hr⟩ := hl_of_meet hm
        rw [c s, Bool.or_eq_true] at hr
        rcases hr with hr | hr
        · exact Or.inl (hl_meet_of h4 hb hr)
        · exact Or.inr (hl_meet_of h4 hb hr)
      have q : hl_meet B R' = true → hl_meet B R1 = true ∧ hl_meet B R2 = true := by
        intro hm
        obtain ⟨s, h4, hb, hr⟩ := hl_of_meet hm
        exact ⟨hl_meet_of h4 hb (e s hr).1, hl_meet_of h4 hb (e s hr).2⟩
      revert p q
      cases hl_meet B R <;> cases hl_meet B R' <;> cases hl_meet B R1 <;> cases hl_meet B R2 <;> simp [hl_t]
    omega
  | (false, _, B) :: r, R1, R2, d1, d2, h1, h2 => by
    rcases h1 with h1 | ⟨P1, h1, e1⟩ <;> rcases h2 with h2 | ⟨P2, h2, e2⟩
    · obtain ⟨R, d, R', d', a, b, c, e, f⟩ := hl_sub r R1 R2 d1 d2 h1 h2
      exact ⟨R, d, R', d', Or.inl a, Or.inl b, c, e, f⟩
    · obtain ⟨R, d, R', d', a, b, c, e, f⟩ := hl_sub r R1 P2 d1 (d2 - 1) h1 h2
      subst e2
      refine ⟨fun s => R s || B s, d + 1, R', d', Or.inr ⟨R, by rw [Int.add_sub_cancel]; exact a, rfl⟩, Or.inl b, ?_, ?_, by omega⟩
      · intro s; simp only [c s, Bool.or_assoc]
      · intro s hs; simp only [Bool.or_eq_true]; exact ⟨(e s hs).1, Or.inl (e s hs).2⟩
    · obtain ⟨R, d, R', d', a, b, c, e, f⟩ := hl_sub r P1 R2 (d1 - 1) d2 h1 h2
      subst e1
      refine ⟨fun s => R s || B s, d + 1, R', d', Or.inr ⟨R, by rw [Int.add_sub_cancel]; exact a, rfl⟩, Or.inl b, ?_, ?_, by omega⟩
      · intro s; simp only [c s]; cases P1 s <;> cases R2 s <;> cases B s <;> rfl
      · intro s hs; simp only [Bool.or_eq_true]; exact ⟨Or.inl (e s hs).1, (e s hs).2⟩
    · obtain ⟨R, d, R', d', a, b, c, e, f⟩ := hl_sub r P1 P2 (d1 - 1) (d2 - 1) h1 h2
      subst e1; subst e2
      refine ⟨fun s => R s || B s, d + 1, fun s => R' s || B s, d' + 1, Or.inr ⟨R, by rw [Int.add_sub_cancel]; exact a, rfl⟩,
        Or.inr ⟨R', by rw [Int.add_sub_cancel]; exact b, rfl⟩, ?_, ?_, by omega⟩
      · intro s; simp only [c s]; cases P1 s <;> cases P2 s <;> cases B s <;> rfl
      · intro s hs
        simp only [Bool.or_eq_true] at hs ⊢
        rcases hs with hs | hs
        · exact ⟨Or.inl (e s hs).1, Or.inl (e s hs).2⟩
        · exact ⟨Or.inr hs, Or.inr hs⟩

theorem hl_up_nn (v : Nat → Int) (s : Nat) (k : Int) (h : ∀ i, i < 4 → 0 ≤ v i) (hk : 0 ≤ v s + k) : ∀ i, i < 4 → 0 ≤ hl_up v s k i := by
  intro i hi
  simp only [hl_up]
  split
  · next e => subst e; exact hk
  · exact h i hi

-- if each station of B has a cut that it does not ease, one cut is eased by none of them
theorem hl_br_k (r : List (Bool × Nat × (Nat → Bool))) (v : Nat → Int) (B : Nat → Bool) (hv : ∀ s, s < 4 → 0 ≤ v s)
    (h : ∀ R d, hl_cut r R d → d - hl_t 1 (hl_meet B R) ≤ hl_w v R)
    (hb : ∀ s, s < 4 → B s = true → ∃ R d, hl_cut r R d ∧ hl_w v R + hl_t 1 (R s) < d) (s0 : Nat) (hs0 : s0 < 4) (hB : B s0 = true) :
    ∀ k, k ≤ 4 → ∃ R d, hl_cut r R d ∧ hl_w v R + 1 ≤ d ∧ ∀ s, s < k → B s = true → R s = false
  | 0, _ => by
    obtain ⟨R, d, a, b⟩ := hb s0 hs0 hB
    have := (hl_t_bd 1 (R s0) (by omega)).1
    exact ⟨R, d, a, by omega, fun s hs => by omega⟩
  | k + 1, hk => by
    obtain ⟨R, d, a, b, c⟩ := hl_br_k r v B hv h hb s0 hs0 hB k (by omega)
    cases hbk : B k
    · refine ⟨R, d, a, b, fun s hs hbs => ?_⟩
      by_cases e : s = k
      · subst e; rw [hbk] at hbs; cases hbs
      · exact c s (by omega) hbs
    · obtain ⟨Q, q, a2, b2⟩ := hb k (by omega) hbk
      have t1 := (hl_t_bd 1 (hl_meet B Q) (by omega)).2
      have hq := h Q q a2
      have hQk : Q k = false := by
        cases e : Q k
        · rfl
        · rw [e] at b2
          have e1 : hl_t 1 true = 1 := rfl
          omega
      rw [hQk] at b2
      have e0 : hl_t 1 false = 0 := rfl
      obtain ⟨U, du, U', du', x, y, z, w, f⟩ := hl_sub r R Q d q a a2
      have hu := h U du x
      have t2 := (hl_t_bd 1 (hl_meet B U) (by omega)).2
      have m := hl_w_mod v U U' R Q hv z w
      refine ⟨U', du', y, by omega, fun s hs hbs => ?_⟩
      cases e : U' s
      · rfl
      · exfalso
        have ww := w s e
        by_cases ek : s = k
        · subst ek; rw [hQk] at ww; exact absurd ww.2 (by simp)
        · rw [c s (by omega) hbs] at ww; exact absurd ww.1 (by simp)

-- if each station of B that has a vehicle is in a tight cut, one tight cut has them all
theorem hl_fe_k (r : List (Bool × Nat × (Nat → Bool))) (v : Nat → Int) (B : Nat → Bool) (hv : ∀ s, s < 4 → 0 ≤ v s)
    (h : ∀ R d, hl_cut r R d → d ≤ hl_w v R)
    (hb : ∀ s, s < 4 → B s = true → 1 ≤ v s → ∃ R d, hl_cut r R d ∧ hl_w v R + hl_t (-1) (R s) < d) :
    ∀ k, k ≤ 4 → ∃ R d, hl_cut r R d ∧ hl_w v R ≤ d ∧ ∀ s, s < k → B s = true → 1 ≤ v s → R s = true
  | 0, _ => ⟨fun _ => false, 0, hl_cut_none r, by simp [hl_w, hl_t], fun s hs => by omega⟩
  | k + 1, hk => by
    obtain ⟨R, d, a, b, c⟩ := hl_fe_k r v B hv h hb k (by omega)
    by_cases hc : B k = true ∧ 1 ≤ v k
    · obtain ⟨Q, q, a2, b2⟩ := hb k (by omega) hc.1 hc.2
      have hq := h Q q a2
      have hQk : Q k = true := by
        cases e : Q k
        · rw [e] at b2
          have e1 : hl_t (-1) false = 0 := rfl
          omega
        · rfl
      rw [hQk] at b2
      have e0 : hl_t (-1) true = -1 := rfl
      obtain ⟨U, du, U', du', x, y, z, w, f⟩ := hl_sub r R Q d q a a2
      have hu := h U' du' y
      have m := hl_w_mod v U U' R Q hv z w
      refine ⟨U, du, x, by omega, fun s hs hbs hvs => ?_⟩
      rw [z s, Bool.or_eq_true]
      by_cases ek : s = k
      · subst ek; exact Or.inr hQk
      · exact Or.inl (c s (by omega) hbs hvs)
    · refine ⟨R, d, a, b, fun s hs hbs hvs => ?_⟩
      by_cases e : s = k
      · subst e; exact absurd ⟨hbs, hvs⟩ hc
      · exact c s (by omega) hbs hvs

theorem hl_t_add (x : Int) (a b : Bool) (h : 0 ≤ x) : hl_t x a ≤ hl_t x (a || b) := by
  cases a <;> cases b <;> simp [hl_t] <;> omega

theorem hl_w_one (v : Nat → Int) (R B : Nat → Bool) (s : Nat) (hv : ∀ i, i < 4 → 0 ≤ v i) (h : s < 4) (hb : B s = true) (hr : R s = false) :
    hl_w v R + v s ≤ hl_w v (fun i => R i || B i) := by
  have a0 := hl_t_add (v 0) (R 0) (B 0) (hv 0 (by omega))
  have a1 := hl_t_add (v 1) (R 1) (B 1) (hv 1 (by omega))
  have a2 := hl_t_add (v 2) (R 2) (B 2) (hv 2 (by omega))
  have a3 := hl_t_add (v 3) (R 3) (B 3) (hv 3 (by omega))
  have k : hl_t (v s) (R s) + v s ≤ hl_t (v s) (R s || B s) := by rw [hr, hb]; simp [hl_t]
  simp only [hl_w]
  rcases hl_lt4 h with h | h | h | h <;> subst h <;> omega

theorem hl_t_same (x : Int) (a b : Bool) (h : 0 ≤ x) (hc : b = true → 1 ≤ x → a = true) : hl_t x (a || b) ≤ hl_t x a := by
  cases a <;> cases b <;> simp_all [hl_t] <;> omega

theorem hl_hall : ∀ (r : List (Bool × Nat × (Nat → Bool))) (v : Nat → Int), hl_ok r → (∀ s, s < 4 → 0 ≤ v s) →
    (hl_run (fun _ => True) r v ↔ ∀ R d, hl_cut r R d → d ≤ hl_w v R)
  | [], v, _, hv => by
    constructor
    · intro _ R d ⟨e, f⟩; subst e; subst f; simp [hl_w, hl_t]
    · intro _; exact True.intro
  | (true, j, B) :: r, v, ok, hv => by
    obtain ⟨⟨s0, hs0, hB⟩, ok⟩ := ok
    have nn : ∀ s, s < 4 → ∀ i, i < 4 → 0 ≤ hl_up v s 1 i := fun s hs => hl_up_nn v s 1 hv (by have := hv s hs; omega)
    constructor
    · intro ⟨s, hs, hb, hr⟩ R d ⟨d0, hc, e⟩
      have k := (hl_hall r (hl_up v s 1) ok (nn s hs)).mp hr R d0 hc
      rw [hl_w_up v s 1 R hs] at k
      have m : hl_t 1 (R s) ≤ hl_t 1 (hl_meet B R) := hl_t_mono 1 _ _ (by omega) (fun x => hl_meet_of hs hb x)
      omega
    · intro h
      have h' : ∀ R d, hl_cut r R d → d - hl_t 1 (hl_meet B R) ≤ hl_w v R := fun R d hc => h R _ ⟨d, hc, rfl⟩
      apply Classical.byContradiction
      intro no
      have hb : ∀ s, s < 4 → B s = true → ∃ R d, hl_cut r R d ∧ hl_w v R + hl_t 1 (R s) < d := by
        intro s hs hbs
        apply Classical.byContradiction
        intro no2
        apply no
        refine ⟨s, hs, hbs, (hl_hall r (hl_up v s 1) ok (nn s hs)).mpr ?_⟩
        intro R d hc
        rw [hl_w_up v s 1 R hs]
        apply Classical.byContradiction
        intro no3
        exact no2 ⟨R, d, hc, by omega⟩
      obtain ⟨R, d, a, b, c⟩ := hl_br_k r v B hv h' hb s0 hs0 hB 4 (by omega)
      have m : hl_meet B R = false := by
        cases e : hl_meet B R
        · rfl
        · obtain ⟨s, h4, hbs, hr⟩ := hl_of_meet e
          rw [c s h4 hbs] at hr; cases hr
      have k := h' R d a
      rw [m] at k
      have e0 : hl_t 1 false = 0 := rfl
      omega
  | (false, j, B) :: r, v, ok, hv => by
    have nn : ∀ s, s < 4 → 1 ≤ v s → ∀ i, i < 4 → 0 ≤ hl_up v s (-1) i := fun s hs h1 => hl_up_nn v s (-1) hv (by omega)
    constructor
    · intro ⟨s, hs, hb, h1, hr⟩ R d hc
      have k := (hl_hall r (hl_up v s (-1)) ok (nn s hs h1)).mp hr
      rcases hc with hc | ⟨R0, hc, e⟩
      · have k1 := k R d hc
        rw [hl_w_up v s (-1) R hs] at k1
        have m : hl_t (-1) (R s) ≤ 0 := by cases R s <;> simp [hl_t]
        omega
      · have k1 := k R0 (d - 1) hc
        rw [hl_w_up v s (-1) R0 hs] at k1
        subst e
        cases e : R0 s
        · have m := hl_w_one v R0 B s hv hs hb e
          rw [e] at k1
          have e0 : hl_t (-1) false = 0 := rfl
          omega
        · have m : hl_w v R0 ≤ hl_w v (fun i => R0 i || B i) := hl_w_mono v _ _ hv (fun i _ x => by simp [x])
          rw [e] at k1
          have e0 : hl_t (-1) true = -1 := rfl
          omega
    · intro h
      have h1 : ∀ R d, hl_cut r R d → d ≤ hl_w v R := fun R d hc => h R d (Or.inl hc)
      have h2 : ∀ R d, hl_cut r R d → d + 1 ≤ hl_w v (fun s => R s || B s) := fun R d hc =>
        h _ (d + 1) (Or.inr ⟨R, by rw [Int.add_sub_cancel]; exact hc, rfl⟩)
      apply Classical.byContradiction
      intro no
      have hb : ∀ s, s < 4 → B s = true → 1 ≤ v s → ∃ R d, hl_cut r R d ∧ hl_w v R + hl_t (-1) (R s) < d := by
        intro s hs hbs hvs
        apply Classical.byContradiction
        intro no2
        apply no
        refine ⟨s, hs, hbs, hvs, (hl_hall r (hl_up v s (-1)) ok (nn s hs hvs)).mpr ?_⟩
        intro R d hc
        rw [hl_w_up v s (-1) R hs]
        apply Classical.byContradiction
        intro no3
        exact no2 ⟨R, d, hc, by omega⟩
      obtain ⟨R, d, a, b, c⟩ := hl_fe_k r v B hv h1 hb 4 (by omega)
      have k := h2 R d a
      have m0 := hl_t_same (v 0) (R 0) (B 0) (hv 0 (by omega)) (c 0 (by omega))
      have m1 := hl_t_same (v 1) (R 1) (B 1) (hv 1 (by omega)) (c 1 (by omega))
      have m2 := hl_t_same (v 2) (R 2) (B 2) (hv 2 (by omega)) (c 2 (by omega))
      have m3 := hl_t_same (v 3) (R 3) (B 3) (hv 3 (by omega)) (c 3 (by omega))
      simp only [hl_w] at k b
      omega
