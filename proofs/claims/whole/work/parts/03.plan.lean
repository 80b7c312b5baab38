theorem hl_run_congr (K L : (Nat → Int) → Prop) (h : ∀ v, K v ↔ L v) : ∀ (r : List (Bool × Nat × (Nat → Bool))) (v : Nat → Int),
    hl_run K r v ↔ hl_run L r v
  | [], v => h v
  | (true, j, B) :: r, v => by
    simp only [hl_run]
    constructor
    · rintro ⟨s, a, b, c⟩; exact ⟨s, a, b, (hl_run_congr K L h r _).mp c⟩
    · rintro ⟨s, a, b, c⟩; exact ⟨s, a, b, (hl_run_congr K L h r _).mpr c⟩
  | (false, j, B) :: r, v => by
    simp only [hl_run]
    constructor
    · rintro ⟨s, a, b, d, c⟩; exact ⟨s, a, b, d, (hl_run_congr K L h r _).mp c⟩
    · rintro ⟨s, a, b, d, c⟩; exact ⟨s, a, b, d, (hl_run_congr K L h r _).mpr c⟩

theorem hl_run_brs (K : (Nat → Int) → Prop) (on : Nat → Bool) (hm : Nat → Nat) (bk : Nat → Nat → Bool) (x : Nat)
    (tl : List (Bool × Nat × (Nat → Bool))) : ∀ n v, hl_run K (hl_brs on hm bk x tl n) v ↔ hl_run (hl_run K tl) (hl_brs on hm bk x [] n) v
  | 0, v => Iff.rfl
  | n + 1, v => by
    simp only [hl_brs]
    split
    · simp only [hl_run]
      constructor
      · rintro ⟨s, a, b, c⟩; exact ⟨s, a, b, (hl_run_brs K on hm bk x tl n _).mp c⟩
      · rintro ⟨s, a, b, c⟩; exact ⟨s, a, b, (hl_run_brs K on hm bk x tl n _).mpr c⟩
    · exact hl_run_brs K on hm bk x tl n v

theorem hl_run_fes (K : (Nat → Int) → Prop) (on : Nat → Bool) (ot : Nat → Nat) (pk : Nat → Nat → Bool) (x : Nat)
    (tl : List (Bool × Nat × (Nat → Bool))) : ∀ n v, hl_run K (hl_fes on ot pk x tl n) v ↔ hl_run (hl_run K tl) (hl_fes on ot pk x [] n) v
  | 0, v => Iff.rfl
  | n + 1, v => by
    simp only [hl_fes]
    split
    · simp only [hl_run]
      constructor
      · rintro ⟨s, a, b, d, c⟩; exact ⟨s, a, b, d, (hl_run_fes K on ot pk x tl n _).mp c⟩
      · rintro ⟨s, a, b, d, c⟩; exact ⟨s, a, b, d, (hl_run_fes K on ot pk x tl n _).mpr c⟩
    · exact hl_run_fes K on ot pk x tl n v

theorem hl_up_comm (v : Nat → Int) (s i : Nat) (a b : Int) : hl_up (hl_up v s a) i b = hl_up (hl_up v i b) s a := by
  funext k
  simp only [hl_up]
  by_cases e : k = s <;> by_cases f : k = i <;> simp [e, f] <;> (try omega)
  -- k = s and k = i both: v k + a + b = v k + b + a

theorem hl_up_at (v : Nat → Int) (s i : Nat) (a : Int) : hl_up v s a i = v i + (if i = s then a else 0) := by
  simp only [hl_up]; split <;> omega

theorem hl_up_up (v : Nat → Int) (s : Nat) (a b : Int) : hl_up (hl_up v s a) s b = hl_up v s (a + b) := by
  funext k
  simp only [hl_up]
  by_cases e : k = s
  · simp only [e, if_true]; omega
  · simp only [if_neg e]

theorem hl_up_0 (v : Nat → Int) (s : Nat) : hl_up v s 0 = v := by
  funext k
  simp only [hl_up]
  split <;> omega

-- N further ones at s: N must be there, and go
theorem hl_run_gon (K : (Nat → Int) → Prop) (s : Nat) (hs : s < 4) (tl : List (Bool × Nat × (Nat → Bool))) :
    ∀ (n : Nat) (v : Nat → Int), (n = 0 → 0 ≤ v s) → (hl_run K (hl_gon (fun i => decide (i = s)) tl n) v ↔ (n : Int) ≤ v s ∧ hl_run K tl (hl_up v s (-(n : Int))))
  | 0, v, h0 => by
    simp only [hl_gon]
    have e : hl_up v s (-((0 : Nat) : Int)) = v := hl_up_0 v s
    rw [e]
    constructor
    · intro h; exact ⟨by have := h0 rfl; omega, h⟩
    · intro h; exact h.2
  | n + 1, v, h0 => by
    simp only [hl_gon, hl_run, decide_eq_true_eq]
    constructor
    · rintro ⟨i, hi, e, h1, hr⟩
      subst e
      have q : hl_up v i (-1) i = v i - 1 := by simp [hl_up]; omega
      have k := (hl_run_gon K i hs tl n (hl_up v i (-1)) (fun _ => by omega)).mp hr
      rw [hl_up_up, q] at k
      have e : (-1 : Int) + -(n : Int) = -((n + 1 : Nat) : Int) := by omega
      rw [e] at k
      exact ⟨by omega, k.2⟩
    · rintro ⟨h1, hr⟩
      have q : hl_up v s (-1) s = v s - 1 := by simp [hl_up]; omega
      refine ⟨s, hs, rfl, by omega, (hl_run_gon K s hs tl n (hl_up v s (-1)) (fun _ => by omega)).mpr ⟨by omega, ?_⟩⟩
      rw [hl_up_up]
      have e : (-1 : Int) + -(n : Int) = -((n + 1 : Nat) : Int) := by omega
      rw [e]; exact hr

-- a floor N at s is the same as N vehicles fewer at s: kept by fetches ..
theorem fl_fes (s : Nat) (N : Int) (hN : 0 ≤ N) (K L : (Nat → Int) → Prop) (h : ∀ v, K v ↔ N ≤ v s ∧ L (hl_up v s (-N)))
    (on : Nat → Bool) (ot : Nat → Nat) (pk : Nat → Nat → Bool) (x : Nat) :
    ∀ n v, hl_run K (hl_fes on ot pk x [] n) v ↔ N ≤ v s ∧ hl_run L (hl_fes on ot pk x [] n) (hl_up v s (-N))
  | 0, v => h v
  | n + 1, v => by
    have ih := fl_fes s N hN K L h on ot pk x n
    simp only [hl_fes]
    split
    · simp only [hl_run]
      constructor
      · rintro ⟨i, a, b, c, d⟩
        have k := (ih _).mp d
        rw [hl_up_comm] at k
        have q := hl_up_at v i s (-1)
        have q2 := hl_up_at v s i (-N)
        have k1 := k.1
        rw [q] at k1
        refine ⟨?_, i, a, b, ?_, k.2⟩
        · split at k1 <;> omega
        · rw [q2]
          by_cases e : i = s
          · subst e; simp only [if_true] at *; omega
          · rw [if_neg e]; omega
      · rintro ⟨h0, i, a, b, c, d⟩
        have q := hl_up_at v i s (-1)
        have q2 := hl_up_at v s i (-N)
        rw [q2] at c
        rw [hl_up_comm] at d
        refine ⟨i, a, b, ?_, (ih _).mpr ⟨?_, d⟩⟩
        · by_cases e : i = s
          · subst e; rw [if_pos rfl] at c; omega
          · rw [if_neg e] at c; omega
        · rw [q]
          by_cases e : i = s
          · subst e; simp only [if_true] at *; omega
          · rw [if_neg (fun z => e z.symm)]; omega
    · exact ih v

-- .. and by brings
theorem fl_brs (s : Nat) (N : Int) (K L : (Nat → Int) → Prop) (h : ∀ v, N ≤ v s → (K v ↔ L (hl_up v s (-N))))
    (on : Nat → Bool) (hm : Nat → Nat) (bk : Nat → Nat → Bool) (x : Nat) :
    ∀ n v, N ≤ v s → (hl_run K (hl_brs on hm bk x [] n) v ↔ hl_run L (hl_brs on hm bk x [] n) (hl_up v s (-N)))
  | 0, v, hv => h v hv
  | n + 1, v, hv => by
    have ih := fl_brs s N K L h on hm bk x n
    simp only [hl_brs]
    split
    · simp only [hl_run]
      have nn : ∀ i, N ≤ hl_up v i 1 s := by
        intro i; rw [hl_up_at]; split <;> omega
      constructor
      · rintro ⟨i, a, b, d⟩
        have k := (ih _ (nn i)).mp d
        rw [hl_up_comm] at k
        exact ⟨i, a, b, k⟩
      · rintro ⟨i, a, b, d⟩
        rw [hl_up_comm] at d
        exact ⟨i, a, b, (ih _ (nn i)).mpr d⟩
    · exact ih v hv

theorem hl_run_nil (K : (Nat → Int) → Prop) : hl_run K [] = K := by funext v; rfl

theorem hl_run_gns (K : (Nat → Int) → Prop) (P : Nat → Bool) (tl : List (Bool × Nat × (Nat → Bool))) :
    ∀ n v, hl_run K (hl_gon P tl n) v ↔ hl_run (hl_run K tl) (hl_gon P [] n) v
  | 0, v => Iff.rfl
  | n + 1, v => by
    simp only [hl_gon, hl_run]
    constructor
    · rintro ⟨s, a, b, d, c⟩; exact ⟨s, a, b, d, (hl_run_gns K P tl n _).mp c⟩
    · rintro ⟨s, a, b, d, c⟩; exact ⟨s, a, b, d, (hl_run_gns K P tl n _).mpr c⟩

-- the times 9 - n .. 8 as the reference goes through them: what comes back, what goes out, M further ones of P at T, the floor N at s from F on
def fl_go (on : Nat → Bool) (pk : Nat → Nat → Bool) (ot : Nat → Nat) (bk : Nat → Nat → Bool) (hm : Nat → Nat) (M : Nat) (P : Nat → Bool) (T : Nat)
    (s : Nat) (N : Int) (F : Nat) : Nat → (Nat → Int) → Prop
  | 0, _ => True
  | n + 1, v => hl_run (hl_run (hl_run (fun z => (F ≤ 8 - n → N ≤ z s) ∧ fl_go on pk ot bk hm M P T s N F n z) (hl_gon P [] (if 8 - n = T then M else 0)))
      (hl_fes on ot pk (8 - n) [] 6)) (hl_brs on hm bk (8 - n) [] 6) v

section
variable (on : Nat → Bool) (pk : Nat → Nat → Bool) (ot : Nat → Nat) (bk : Nat → Nat → Bool) (hm : Nat → Nat)

-- a floor of N >= 1 at s from time F on asks what N further ones at s at time F ask
theorem fl_eq (P : Nat → Bool) (T : Nat) (s : Nat) (hs : s < 4) (N : Nat) (hN : 1 ≤ N) (F : Nat) (hF : F ≤ 8) : ∀ n, n ≤ 9 →
    (F < 9 - n → ∀ v, (N : Int) ≤ v s → (fl_go on pk ot bk hm 0 P T s N F n v ↔
      hl_run (fun _ => True) (hl_ops on pk ot bk hm N (fun i => decide (i = s)) F n) (hl_up v s (-(N : Int))))) ∧
    (9 - n ≤ F → ∀ v, fl_go on pk ot bk hm 0 P T s N F n v ↔ hl_run (fun _ => True) (hl_ops on pk ot bk hm N (fun i => decide (i = s)) F n) v)
  | 0, _ => ⟨fun _ _ _ => Iff.rfl, fun h => by omega⟩
  | n + 1, hn => by
    obtain ⟨ia, ib⟩ := fl_eq P T s hs N hN F hF n (by omega)
    refine ⟨fun h v hv => ?_, fun h v => ?_⟩
    · have e : ¬ (8 - n = F) := by omega
      simp only [fl_go, hl_ops, ite_self, if_neg e, hl_gon, hl_run_nil]
      rw [hl_run_brs (fun _ => True)]
      refine fl_brs s N _ _ ?_ on hm bk (8 - n) 6 v hv
      intro w hw
      rw [hl_run_fes (fun _ => True)]
      have k := fl_fes s N (by omega) (fun z => (F ≤ 8 - n → (N : Int) ≤ z s) ∧ fl_go on pk ot bk hm 0 P T s N F n z)
        (hl_run (fun _ => True) (hl_ops on pk ot bk hm N (fun i => decide (i = s)) F n))
        (fun z => ⟨fun q => ⟨q.1 (by omega), (ia (by omega) z (q.1 (by omega))).mp q.2⟩,
          fun q => ⟨fun _ => q.1, (ia (by omega) z q.1).mpr q.2⟩⟩) on ot pk (8 - n) 6 w
      rw [k]
      exact ⟨fun q => q.2, fun q => ⟨hw, q⟩⟩
    · simp only [fl_go, hl_ops, ite_self, hl_run_nil]
      rw [hl_run_brs (fun _ => True)]
      refine hl_run_congr _ _ (fun w => ?_) _ v
      rw [hl_run_fes (fun _ => True)]
      refine hl_run_congr _ _ (fun z => ?_) _ w
      by_cases e : 8 - n = F
      · rw [if_pos e, hl_run_gon (fun _ => True) s hs _ N z (fun q => by omega)]
        simp only [hl_gon, hl_run_nil]
        constructor
        · intro q; exact ⟨q.1 (by omega), (ia (by omega) z (q.1 (by omega))).mp q.2⟩
        · intro q; exact ⟨fun _ => q.1, (ia (by omega) z q.1).mpr q.2⟩
      · rw [if_neg e]
        simp only [hl_gon, hl_run_nil]
        constructor
        · intro q; exact (ib (by omega) z).mp q.2
        · intro q; exact ⟨fun q2 => by omega, (ib (by omega) z).mpr q⟩

-- without a floor (F = 9) it is the run itself
theorem fl_plain (M : Nat) (P : Nat → Bool) (T : Nat) (s : Nat) (N : Int) : ∀ n, n ≤ 9 → ∀ v, fl_go on pk ot bk hm M P T s N 9 n v ↔
    hl_run (fun _ => True) (hl_ops on pk ot bk hm M P T n) v
  | 0, _, v => Iff.rfl
  | n + 1, hn, v => by
    have ih := fl_plain M P T s N n (by omega)
    simp only [fl_go, hl_ops]
    rw [hl_run_brs (fun _ => True)]
    refine hl_run_congr _ _ (fun w => ?_) _ v
    rw [hl_run_fes (fun _ => True)]
    refine hl_run_congr _ _ (fun z => ?_) _ w
    rw [hl_run_gns (fun _ => True)]
    refine hl_run_congr _ _ (fun y => ?_) _ z
    constructor
    · intro q; exact (ih y).mp q.2
    · intro q; exact ⟨fun q2 => by omega, (ih y).mpr q⟩

-- the further vehicles first
def fl_ext (K : (Nat → Int) → Prop) : Nat → (Nat → Int) → Prop
  | 0, v => K v
  | n + 1, v => ∃ s, s < 4 ∧ decide (s < 4) = true ∧ fl_ext K n (hl_up v s 1)

theorem fl_ext_run (tl : List (Bool × Nat × (Nat → Bool))) (K : (Nat → Int) → Prop) (h : ∀ v, K v ↔ hl_run (fun _ => True) tl v) :
    ∀ n v, fl_ext K n v ↔ hl_run (fun _ => True) (hl_ext tl n) v
  | 0, v => h v
  | n + 1, v => by
    simp only [fl_ext, hl_ext, hl_run]
    constructor
    · rintro ⟨s, a, b, c⟩; exact ⟨s, a, b, (fl_ext_run tl K h n _).mp c⟩
    · rintro ⟨s, a, b, c⟩; exact ⟨s, a, b, (fl_ext_run tl K h n _).mpr c⟩
end

-- kind and tag together stand once
def hl_n2 : List (Bool × Nat × (Nat → Bool)) → Prop
  | [] => True
  | o :: r => (∀ p, p ∈ r → p.1 = o.1 → p.2.1 ≠ o.2.1) ∧ hl_n2 r

theorem hl_n2_nd : ∀ r, hl_n2 r → hl_nd r
  | [], _ => True.intro
  | (true, _, _) :: r, h => hl_n2_nd r h.2
  | (false, _, _) :: r, h => ⟨fun o ho e => h.1 o ho e, hl_n2_nd r h.2⟩

theorem hl_nd_ext (tl : List (Bool × Nat × (Nat → Bool))) (h : hl_nd tl) : ∀ n, hl_nd (hl_ext tl n)
  | 0 => h
  | n + 1 => hl_nd_ext tl h n

theorem hl_ok_ext (tl : List (Bool × Nat × (Nat → Bool))) (h : hl_ok tl) : ∀ n, hl_ok (hl_ext tl n)
  | 0 => h
  | n + 1 => ⟨⟨0, by omega, by decide⟩, hl_ok_ext tl h n⟩

theorem hl_mem_brs (on : Nat → Bool) (hm : Nat → Nat) (bk : Nat → Nat → Bool) (x : Nat) (tl : List (Bool × Nat × (Nat → Bool)))
    (o : Bool × Nat × (Nat → Bool)) : ∀ n, o ∈ hl_brs on hm bk x tl n → (∃ m, m < n ∧ o = (true, 5 - m, bk (5 - m)) ∧ on (5 - m) = true ∧ hm (5 - m) = x) ∨ o ∈ tl
  | 0, h => Or.inr h
  | n + 1, h => by
    simp only [hl_brs] at h
    split at h
    · next c =>
      rcases List.mem_cons.mp h with h | h
      · exact Or.inl ⟨n, by omega, h, c.1, c.2⟩
      · rcases hl_mem_brs on hm bk x tl o n h with ⟨m, a, b⟩ | h
        · exact Or.inl ⟨m, by omega, b⟩
        · exact Or.inr h
    · rcases hl_mem_brs on hm bk x tl o n h with ⟨m, a, b⟩ | h
      · exact Or.inl ⟨m, by omega, b⟩
      · exact Or.inr h

theorem hl_mem_fes (on : Nat → Bool) (ot : Nat → Nat) (pk : Nat → Nat → Bool) (x : Nat) (tl : List (Bool × Nat × (Nat → Bool)))
    (o : Bool × Nat × (Nat → Bool)) : ∀ n, o ∈ hl_fes on ot pk x tl n → (∃ m, m < n ∧ o = (false, 5 - m, pk (5 - m)) ∧ on (5 - m) = true ∧ ot (5 - m) = x) ∨ o ∈ tl
  | 0, h => Or.inr h
  | n + 1, h => by
    simp only [hl_fes] at h
    split at h
    · next c =>
      rcases List.mem_cons.mp h with h | h
      · exact Or.inl ⟨n, by omega, h, c.1, c.2⟩
      · rcases hl_mem_fes on ot pk x tl o n h with ⟨m, a, b⟩ | h
        · exact Or.inl ⟨m, by omega, b⟩
        · exact Or.inr h
    · rcases hl_mem_fes on ot pk x tl o n h with ⟨m, a, b⟩ | h
      · exact Or.inl ⟨m, by omega, b⟩
      · exact Or.inr h

theorem hl_mem_gon (P : Nat → Bool) (tl : List (Bool × Nat × (Nat → Bool))) (o : Bool × Nat × (Nat → Bool)) :
    ∀ n, o ∈ hl_gon P tl n → (∃ m, m < n ∧ o = (false, 6 + m, P)) ∨ o ∈ tl
  | 0, h => Or.inr h
  | n + 1, h => by
    rcases List.mem_cons.mp h with h | h
    · exact Or.inl ⟨n, by omega, h⟩
    · rcases hl_mem_gon P tl o n h with ⟨m, a, b⟩ | h
      · exact Or.inl ⟨m, by omega, b⟩
      · exact Or.inr h

section
variable (on : Nat → Bool) (pk : Nat → Nat → Bool) (ot : Nat → Nat) (bk : Nat → Nat → Bool) (hm : Nat → Nat)
  (N : Nat) (P : Nat → Bool) (T : Nat)

-- where a step of times 9 - n .. 8 comes from
theorem hl_mem_ops (o : Bool × Nat × (Nat → Bool)) : ∀ n, n ≤ 9 → o ∈ hl_ops on pk ot bk hm N P T n →
    (∃ j, j < 6 ∧ on j = true ∧ o = (true, j, bk j) ∧ 9 - n ≤ hm j) ∨ (∃ j, j < 6 ∧ on j = true ∧ o = (false, j, pk j) ∧ 9 - n ≤ ot j) ∨
    (∃ m, o = (false, 6 + m, P) ∧ 9 - n ≤ T)
  | 0, _, h => by simp [hl_ops] at h
  | n + 1, hn, h => by
    simp only [hl_ops] at h
    rcases hl_mem_brs _ _ _ _ _ _ _ h with ⟨m, a, b, c, d⟩ | h
    · exact Or.inl ⟨5 - m, by omega, c, b, by omega⟩
    · rcases hl_mem_fes _ _ _ _ _ _ _ h with ⟨m, a, b, c, d⟩ | h
      · exact Or.inr (Or.inl ⟨5 - m, by omega, c, b, by omega⟩)
      · rcases hl_mem_gon _ _ _ _ h with ⟨m, a, b⟩ | h
        · refine Or.inr (Or.inr ⟨m, b, ?_⟩)
          by_cases e : 8 - n = T
          · omega
          · rw [if_neg e] at a; omega
        · rcases hl_mem_ops o n (by omega) h with ⟨j, a, b, c, d⟩ | ⟨j, a, b, c, d⟩ | ⟨m, a, b⟩
          · exact Or.inl ⟨j, a, b, c, by omega⟩
          · exact Or.inr (Or.inl ⟨j, a, b, c, by omega⟩)
          · exact Or.inr (Or.inr ⟨m, a, by omega⟩)

theorem hl_ok_ops (hbk : ∀ j, j < 6 → on j = true → ∃ s, s < 4 ∧ bk j s = true) : ∀ n, hl_ok (hl_ops on pk ot bk hm N P T n)
  | 0 => True.intro
  | n + 1 => by
    have ih := hl_ok_ops hbk n
    simp only [hl_ops]
    have g1 : ∀ k, hl_ok (hl_gon P (hl_ops on pk ot bk hm N P T n) k) := by
      intro k
      induction k with
      | zero => exact ih
      | succ k ihk => exact ihk
    have g2 : ∀ tl, hl_ok tl → ∀ k, hl_ok (hl_fes on ot pk (8 - n) tl k) := by
      intro tl h k
      induction k with
      | zero => exact h
      | succ k ihk =>
        simp only [hl_fes]
        split
        · exact ihk
        · exact ihk
    have g3 : ∀ tl, hl_ok tl → ∀ k, hl_ok (hl_brs on hm bk (8 - n) tl k) := by
      intro tl h k
      induction k with
      | zero => exact h
      | succ k ihk =>
        simp only [hl_brs]
        split
        · next c => exact ⟨hbk (5 - k) (by omega) c.1, ihk⟩
        · exact ihk
    exact g3 _ (g2 _ (g1 _) _) _

theorem hl_n2_ops : ∀ n, n ≤ 9 → hl_n2 (hl_ops on pk ot bk hm N P T n)
  | 0, _ => True.intro
  | n + 1, hn => by
    have ih := hl_n2_ops n (by omega)
    have mo := fun o => hl_mem_ops on pk ot bk hm N P T o n (by omega)
    simp only [hl_ops]
    have g1 : ∀ k, (8 - n = T ∨ k = 0) → hl_n2 (hl_gon P (hl_ops on pk ot bk hm N P T n) k) := by
      intro k hk
      induction k with
      | zero => exact ih
      | succ k ihk =>
        refine ⟨fun p hp e1 e2 => ?_, ihk (by omega)⟩
        simp only at e1 e2
        rcases hl_mem_gon _ _ _ _ hp with ⟨m, a, b⟩ | h
        · rw [b] at e2; simp only at e2; omega
        · rcases mo p h with ⟨j, a, b, c, d⟩ | ⟨j, a, b, c, d⟩ | ⟨m, a, b⟩
          · rw [c] at e1; cases e1
          · rw [c] at e2; simp only at e2; omega
          · omega
    have g2 : ∀ k, k ≤ 6 → hl_n2 (hl_fes on ot pk (8 - n) (hl_gon P (hl_ops on pk ot bk hm N P T n) (if 8 - n = T then N else 0)) k) := by
      intro k hk
      induction k with
      | zero => exact g1 _ (by by_cases e : 8 - n = T <;> simp [e])
      | succ k ihk =>
        simp only [hl_fes]
        split
        · next c =>
          refine ⟨fun p hp e1 e2 => ?_, ihk (by omega)⟩
          simp only at e1 e2
          rcases hl_mem_fes _ _ _ _ _ _ _ hp with ⟨m, a, b, _⟩ | h
          · rw [b] at e2; simp only at e2; omega
          · rcases hl_mem_gon _ _ _ _ h with ⟨m, a, b⟩ | h
            · rw [b] at e2; simp only at e2; omega
            · rcases mo p h with ⟨j, a, b, c', d⟩ | ⟨j, a, b, c', d⟩ | ⟨m, a, b⟩
              · rw [c'] at e1; cases e1
              · rw [c'] at e2; simp only at e2; subst e2; omega
              · rw [a] at e2; simp only at e2; omega
        · exact ihk (by omega)
    have g3 : ∀ k, k ≤ 6 → hl_n2 (hl_brs on hm bk (8 - n) (hl_fes on ot pk (8 - n) (hl_gon P (hl_ops on pk ot bk hm N P T n) (if 8 - n = T then N else 0)) 6) k) := by
      intro k hk
      induction k with
      | zero => exact g2 6 (by omega)
      | succ k ihk =>
        simp only [hl_brs]
        split
        · next c =>
          refine ⟨fun p hp e1 e2 => ?_, ihk (by omega)⟩
          simp only at e1 e2
          rcases hl_mem_brs _ _ _ _ _ _ _ hp with ⟨m, a, b, _⟩ | h
          · rw [b] at e2; simp only at e2; omega
          · rcases hl_mem_fes _ _ _ _ _ _ _ h with ⟨m, a, b, _⟩ | h
            · rw [b] at e1; cases e1
            · rcases hl_mem_gon _ _ _ _ h with ⟨m, a, b⟩ | h
              · rw [b] at e1; cases e1
              · rcases mo p h with ⟨j, a, b, c', d⟩ | ⟨j, a, b, c', d⟩ | ⟨m, a, b⟩
                · rw [c'] at e2; simp only at e2; subst e2; omega
                · rw [c'] at e1; cases e1
                · rw [a] at e1; cases e1
        · exact ihk (by omega)
    exact g3 6 (by omega)
end
