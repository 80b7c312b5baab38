-- numbers that may be negative
def zi_z (z : Int) : Int32 := Int32.ofInt z

theorem zi_n (n : Nat) : nI n = zi_z (n : Int) := (Int32.ofInt_eq_ofNat (n := n)).symm
theorem zi_add (a b : Int) : zi_z a + zi_z b = zi_z (a + b) := (Int32.ofInt_add a b).symm
theorem zi_sub (a b : Int) : zi_z a - zi_z b = zi_z (a - b) := (Int32.ofInt_sub a b).symm
theorem zi_t {z : Int} (h1 : -1000000 ≤ z) (h2 : z ≤ 1000000) : (zi_z z).toInt = z := Int32.toInt_ofInt_of_le (by omega) (by omega)
theorem zi_lt {a b : Int} (h1 : -1000000 ≤ a) (h2 : a ≤ 1000000) (h3 : -1000000 ≤ b) (h4 : b ≤ 1000000) : zi_z a < zi_z b ↔ a < b := by
  rw [Int32.lt_iff_toInt_lt, zi_t h1 h2, zi_t h3 h4]
theorem zi_le {a b : Int} (h1 : -1000000 ≤ a) (h2 : a ≤ 1000000) (h3 : -1000000 ≤ b) (h4 : b ≤ 1000000) : zi_z a ≤ zi_z b ↔ a ≤ b := by
  rw [Int32.le_iff_toInt_le, zi_t h1 h2, zi_t h3 h4]
theorem zi_0 : (0 : Int32) = zi_z 0 := by decide
theorem zi_1 : (1 : Int32) = zi_z 1 := by decide
theorem zi_m1 : (-1 : Int32) = zi_z (-1) := by decide

-- a truth value as an int
def zi_b (b : Bool) : Int32 := if b = true then 1 else 0
theorem zi_b0 (b : Bool) : zi_b b = 0 ↔ b = false := by cases b <;> decide
theorem zi_b1 (b : Bool) : zi_b b = 1 ↔ b = true := by cases b <;> decide
theorem zi_bt : zi_b true = 1 := rfl
theorem zi_bf : zi_b false = 0 := rfl
theorem zi_vn (b : Bool) : vp_nar .boolean (zi_b b) = zi_b b := by cases b <;> decide
theorem zi_na (b : Bool) : narrow .boolean (.int (zi_b b)) = .int (zi_b b) := by cases b <;> rfl

-- a cell of the table: bit 0, it can be reached now; bit 1, it can be reached behind this step
def yq_md (a m : Bool) : Nat := (if a = true then 1 else 0) + (if m = true then 2 else 0)

theorem yq_md_a (a m : Bool) : (nI (yq_md a m) &&& 1 = 1) ↔ a = true := by cases a <;> cases m <;> decide
theorem yq_md_o (a m : Bool) : nI (yq_md a m) ||| 2 = nI (yq_md a true) := by cases a <;> cases m <;> decide
theorem yq_md_1 (a : Bool) : (nI (yq_md a false) = 1) ↔ a = true := by cases a <;> decide
theorem yq_md_0 : nI (yq_md false false) = 0 := by decide

def yq_sp (A M : Nat → Bool) (sp : Nat → Int32) : Prop := ∀ k, k < 5832 → sp k = nI (yq_md (A k) (M k))

-- the marks: what the keys before i, and the stations before s of key i, have marked
def yq_mb (A : Nat → Bool) (al : Nat → Nat → Prop) (tg : Nat → Nat → Nat) (i s k : Nat) : Prop :=
  ∃ j r, (j < i ∨ (j = i ∧ r < s)) ∧ r < 4 ∧ A j = true ∧ al j r ∧ k = tg j r

section
variable (A : Nat → Bool) (al : Nat → Nat → Prop) (tg : Nat → Nat → Nat)

theorem yq_mb0 (k : Nat) : ¬ yq_mb A al tg 0 0 k := by
  rintro ⟨j, r, h, _⟩; omega

theorem yq_mb_y (i s k : Nat) (hs : s < 4) (ha : A i = true) (hl : al i s) : yq_mb A al tg i (s + 1) k ↔ (yq_mb A al tg i s k ∨ k = tg i s) := by
  constructor
  · rintro ⟨j, r, h, a, b, c, d⟩
    by_cases e : j = i ∧ r = s
    · obtain ⟨e1, e2⟩ := e; subst e1; subst e2; exact Or.inr d
    · exact Or.inl ⟨j, r, by omega, a, b, c, d⟩
  · rintro (⟨j, r, h, a⟩ | h)
    · exact ⟨j, r, by omega, a⟩
    · exact ⟨i, s, by omega, hs, ha, hl, h⟩

theorem yq_mb_n (i s k : Nat) (hl : ¬ al i s) : yq_mb A al tg i (s + 1) k ↔ yq_mb A al tg i s k := by
  constructor
  · rintro ⟨j, r, h, a, b, c, d⟩
    by_cases e : j = i ∧ r = s
    · obtain ⟨e1, e2⟩ := e; subst e1; subst e2; exact absurd c hl
    · exact ⟨j, r, by omega, a, b, c, d⟩
  · rintro ⟨j, r, h, a⟩
    exact ⟨j, r, by omega, a⟩

theorem yq_mb_f (i s k : Nat) (ha : ¬ A i = true) : yq_mb A al tg (i + 1) 0 k ↔ yq_mb A al tg i s k := by
  constructor
  · rintro ⟨j, r, h, a, b, c, d⟩
    have e : ¬ j = i := fun e => ha (e ▸ b)
    exact ⟨j, r, by omega, a, b, c, d⟩
  · rintro ⟨j, r, h, a, b, c, d⟩
    have e : ¬ j = i := fun e => ha (e ▸ b)
    exact ⟨j, r, by omega, a, b, c, d⟩

theorem yq_mb_4 (i k : Nat) : yq_mb A al tg (i + 1) 0 k ↔ yq_mb A al tg i 4 k := by
  constructor
  · rintro ⟨j, r, h, a, b⟩; exact ⟨j, r, by omega, a, b⟩
  · rintro ⟨j, r, h, a, b⟩; exact ⟨j, r, by omega, a, b⟩

theorem yq_mb_e (hA : ∀ k, A k = true → k < 5832) (k : Nat) : yq_mb A al tg 5832 0 k ↔ ∃ j s, s < 4 ∧ A j = true ∧ al j s ∧ k = tg j s := by
  constructor
  · rintro ⟨j, r, h, a, b, c, d⟩; exact ⟨j, r, a, b, c, d⟩
  · rintro ⟨j, r, a, b, c, d⟩; exact ⟨j, r, Or.inl (hA j b), a, b, c, d⟩

-- the table together with its marks
def yq_I (i s : Nat) (sp : Nat → Int32) : Prop := ∃ M, yq_sp A M sp ∧ ∀ k, M k = true ↔ yq_mb A al tg i s k

theorem yq_I_y (i s : Nat) (sp : Nat → Int32) (hs : s < 4) (ha : A i = true) (hl : al i s) (ht : tg i s < 5832) (h : yq_I A al tg i s sp) :
    yq_I A al tg i (s + 1) (upd sp (tg i s) (sp (tg i s) ||| 2)) := by
  obtain ⟨M, a, b⟩ := h
  refine ⟨fun k => M k || decide (k = tg i s), fun k hk => ?_, fun k => ?_⟩
  · by_cases e : k = tg i s
    · rw [e]
      have z : upd sp (tg i s) (sp (tg i s) ||| 2) (tg i s) = sp (tg i s) ||| 2 := if_pos rfl
      rw [z, a _ ht, yq_md_o]; simp
    · have z : upd sp (tg i s) (sp (tg i s) ||| 2) k = sp k := if_neg e
      rw [z, a _ hk]; simp [e]
  · rw [yq_mb_y A al tg i s k hs ha hl, Bool.or_eq_true, b k, decide_eq_true_eq]

theorem yq_I_n (i s : Nat) (sp : Nat → Int32) (hl : ¬ al i s) (h : yq_I A al tg i s sp) : yq_I A al tg i (s + 1) sp := by
  obtain ⟨M, a, b⟩ := h
  exact ⟨M, a, fun k => by rw [b k, yq_mb_n A al tg i s k hl]⟩

theorem yq_I_f (i s : Nat) (sp : Nat → Int32) (ha : ¬ A i = true) (h : yq_I A al tg i s sp) : yq_I A al tg (i + 1) 0 sp := by
  obtain ⟨M, a, b⟩ := h
  exact ⟨M, a, fun k => by rw [b k, yq_mb_f A al tg i s k ha]⟩

theorem yq_I_4 (i : Nat) (sp : Nat → Int32) (h : yq_I A al tg i 4 sp) : yq_I A al tg (i + 1) 0 sp := by
  obtain ⟨M, a, b⟩ := h
  exact ⟨M, a, fun k => by rw [b k, yq_mb_4 A al tg i k]⟩

theorem yq_I_0 (sp : Nat → Int32) (h : yq_sp A (fun _ => false) sp) : yq_I A al tg 0 0 sp :=
  ⟨fun _ => false, h, fun k => ⟨fun z => (by cases z), fun z => absurd z (yq_mb0 A al tg k)⟩⟩

-- bit 0 stays as it is
theorem yq_I_a (i s k : Nat) (sp : Nat → Int32) (hk : k < 5832) (h : yq_I A al tg i s sp) : (sp k &&& 1 = 1) ↔ A k = true := by
  obtain ⟨M, a, b⟩ := h
  rw [a k hk]; exact yq_md_a _ _
end

-- what stands between the steps: some reachable key from which the rest can be done, just when G
def yq_J (G : Prop) (Q : (Nat → Int) → Prop) (nb : Nat) (sp : Nat → Int32) (ft : Int32) : Prop :=
  ∃ A tot, ft = zi_z tot ∧ yq_sp A (fun _ => false) sp ∧ yq_ok A tot nb ∧ (yq_ex A tot Q ↔ G)
