-- the groups as masks, and what the landed methods count
def xg_st (st : Nat → Nat) : Nat → Int := fun s => if s < 4 then (st s : Int) else 0

def xg_pk (q : Nat → Nat) : Nat → Nat → Bool := fun j s => (q (2 * j)).testBit s
def xg_bk (q : Nat → Nat) : Nat → Nat → Bool := fun j s => (q (2 * j + 1)).testBit s
def xg_ot (tm : Nat → Nat) : Nat → Nat := fun j => tm (2 * j)
def xg_hm (tm : Nat → Nat) : Nat → Nat := fun j => tm (2 * j + 1)

def xg_r (grp pick : Nat) (q : Nat → Nat) : Nat → Nat
  | 0 => pick
  | i + 1 => if grp.testBit i = true then xg_r grp pick q i ||| q (2 * i) else xg_r grp pick q i

def xg_z (grp : Nat) : Nat → Int
  | 0 => 0
  | i + 1 => xg_z grp i - hl_t 1 (grp.testBit i)

def xg_w (st : Nat → Nat) (r : Nat) (z : Int) : Nat → Int
  | 0 => z
  | i + 1 => xg_w st r z i + hl_t (st i : Int) (r.testBit i)

-- from booking 5 - d on
def xg_o (grp : Nat) (q tm : Nat → Nat) (j : Nat) : Nat → Bool
  | 0 => false
  | d + 1 => (grp.testBit (4 - d) && hl_meet (xg_bk q j) (xg_pk q (4 - d)) && decide (xg_hm tm j ≤ xg_ot tm (4 - d))) || xg_o grp q tm j d

def xg_rs (grp pick t : Nat) (q tm : Nat → Nat) (j : Nat) : Bool :=
  (hl_meet (xg_bk q j) pick.testBit && decide (xg_hm tm j ≤ t)) || xg_o grp q tm j 5

def xg_v (h grp pick t : Nat) (q tm : Nat → Nat) (z : Int) : Nat → Int
  | 0 => z
  | i + 1 => xg_v h grp pick t q tm z i + hl_t 1 (h.testBit i && xg_rs grp pick t q tm i)

def xg_sl (st : Nat → Nat) (h grp pick t : Nat) (q tm : Nat → Nat) : Int :=
  xg_v h grp pick t q tm (xg_w st (xg_r grp pick q 5) (xg_z grp 5) 4) 5

theorem xg_sl_bd (st : Nat → Nat) (h grp pick t : Nat) (q tm : Nat → Nat) (hst : ∀ s, s < 4 → st s ≤ 3) :
    -5 ≤ xg_sl st h grp pick t q tm ∧ xg_sl st h grp pick t q tm ≤ 17 := by
  have b : ∀ b : Bool, 0 ≤ hl_t 1 b ∧ hl_t 1 b ≤ 1 := fun b => hl_t_bd 1 b (by omega)
  have c : ∀ s, s < 4 → ∀ b : Bool, 0 ≤ hl_t (st s : Int) b ∧ hl_t (st s : Int) b ≤ 3 := fun s hs b => by
    have k := hl_t_bd (st s : Int) b (by omega)
    have := hst s hs
    omega
  have z0 := b (grp.testBit 0)
  have z1 := b (grp.testBit 1)
  have z2 := b (grp.testBit 2)
  have z3 := b (grp.testBit 3)
  have z4 := b (grp.testBit 4)
  have w0 := c 0 (by omega) ((xg_r grp pick q 5).testBit 0)
  have w1 := c 1 (by omega) ((xg_r grp pick q 5).testBit 1)
  have w2 := c 2 (by omega) ((xg_r grp pick q 5).testBit 2)
  have w3 := c 3 (by omega) ((xg_r grp pick q 5).testBit 3)
  have v0 := b (h.testBit 0 && xg_rs grp pick t q tm 0)
  have v1 := b (h.testBit 1 && xg_rs grp pick t q tm 1)
  have v2 := b (h.testBit 2 && xg_rs grp pick t q tm 2)
  have v3 := b (h.testBit 3 && xg_rs grp pick t q tm 3)
  have v4 := b (h.testBit 4 && xg_rs grp pick t q tm 4)
  simp only [xg_sl, xg_v, xg_w, xg_z]
  omega

theorem hl_meet_iff (B R : Nat → Bool) : hl_meet B R = true ↔ ∃ s, s < 4 ∧ B s = true ∧ R s = true :=
  ⟨hl_of_meet, fun ⟨_, a, b, c⟩ => hl_meet_of a b c⟩

theorem xg_r_bit (grp pick : Nat) (q : Nat → Nat) (s : Nat) : ∀ i, (xg_r grp pick q i).testBit s = true ↔
    pick.testBit s = true ∨ ∃ j, j < i ∧ grp.testBit j = true ∧ (q (2 * j)).testBit s = true
  | 0 => by
    simp only [xg_r]
    constructor
    · intro h; exact Or.inl h
    · rintro (h | ⟨j, hj, _⟩)
      · exact h
      · omega
  | i + 1 => by
    have ih := xg_r_bit grp pick q s i
    simp only [xg_r]
    by_cases c : grp.testBit i = true
    · rw [if_pos c, Nat.testBit_or, Bool.or_eq_true, ih]
      constructor
      · rintro ((h | ⟨j, hj, a⟩) | h)
        · exact Or.inl h
        · exact Or.inr ⟨j, by omega, a⟩
        · exact Or.inr ⟨i, by omega, c, h⟩
      · rintro (h | ⟨j, hj, a⟩)
        · exact Or.inl (Or.inl h)
        · by_cases e : j = i
          · subst e; exact Or.inr a.2
          · exact Or.inl (Or.inr ⟨j, by omega, a⟩)
    · rw [if_neg c, ih]
      constructor
      · rintro (h | ⟨j, hj, a⟩)
        · exact Or.inl h
        · exact Or.inr ⟨j, by omega, a⟩
      · rintro (h | ⟨j, hj, a⟩)
        · exact Or.inl h
        · by_cases e : j = i
          · subst e; exact absurd a.1 c
          · exact Or.inr ⟨j, by omega, a⟩

theorem xg_o_iff (grp : Nat) (q tm : Nat → Nat) (j : Nat) : ∀ d, d ≤ 5 → (xg_o grp q tm j d = true ↔
    ∃ i, 5 - d ≤ i ∧ i < 5 ∧ grp.testBit i = true ∧ hl_meet (xg_bk q j) (xg_pk q i) = true ∧ xg_hm tm j ≤ xg_ot tm i)
  | 0, _ => by
    constructor
    · intro h; cases h
    · rintro ⟨i, a, b, _⟩; omega
  | d + 1, hd => by
    have ih := xg_o_iff grp q tm j d (by omega)
    simp only [xg_o, Bool.or_eq_true, Bool.and_eq_true, decide_eq_true_eq, ih]
    constructor
    · rintro (⟨⟨a, b⟩, c⟩ | ⟨i, a, b⟩)
      · exact ⟨4 - d, by omega, by omega, a, b, c⟩
      · exact ⟨i, by omega, b⟩
    · rintro ⟨i, a, b, c, e, f⟩
      by_cases k : i = 4 - d
      · subst k; exact Or.inl ⟨⟨c, e⟩, f⟩
      · exact Or.inr ⟨i, by omega, b, c, e, f⟩

def xg_sub (grp h : Nat) : Prop := ∀ j, j < 5 → grp.testBit j = true → h.testBit j = true

theorem xg_b5 (h : Nat) (hh : h < 32) (j : Nat) (hj : 5 ≤ j) : h.testBit j = false := by
  apply Nat.testBit_lt_two_pow
  have : 2 ^ 5 ≤ 2 ^ j := Nat.pow_le_pow_right (by omega) hj
  omega

section
variable (st : Nat → Nat) (h grp pick t : Nat) (q tm : Nat → Nat)

theorem xg_rc (hh : h < 32) (sub : xg_sub grp h) (s : Nat) :
    (xg_r grp pick q 5).testBit s = hs_rc h.testBit (xg_pk q) (xg_ot tm) pick.testBit t grp.testBit true 0 s := by
  rw [Bool.eq_iff_iff, xg_r_bit]
  simp only [hs_rc, Bool.or_eq_true, hl_orr_iff, Bool.and_eq_true, decide_eq_true_eq]
  constructor
  · rintro (a | ⟨j, hj, a, b⟩)
    · exact Or.inr ⟨⟨by omega, by trivial⟩, a⟩
    · exact Or.inl ⟨j, by omega, ⟨⟨sub j hj a, a⟩, by omega⟩, b⟩
  · rintro (⟨j, hj, ⟨⟨a, b⟩, _⟩, c⟩ | ⟨_, a⟩)
    · by_cases e : j < 5
      · exact Or.inr ⟨j, e, b, c⟩
      · rw [xg_b5 h hh j (by omega)] at a; cases a
    · exact Or.inl a

theorem xg_rs_eq (hh : h < 32) (sub : xg_sub grp h) (j : Nat) :
    xg_rs grp pick t q tm j = hl_meet (xg_bk q j) (hs_rc h.testBit (xg_pk q) (xg_ot tm) pick.testBit t grp.testBit true (xg_hm tm j)) := by
  rw [Bool.eq_iff_iff]
  simp only [xg_rs, Bool.or_eq_true, Bool.and_eq_true, decide_eq_true_eq, xg_o_iff grp q tm j 5 (by omega), hl_meet_iff, hs_rc, hl_orr_iff]
  constructor
  · rintro (⟨⟨s, a, b, c⟩, d⟩ | ⟨i, _, hi, a, ⟨s, hs, b, c⟩, d⟩)
    · exact ⟨s, a, b, Or.inr ⟨⟨d, by trivial⟩, c⟩⟩
    · exact ⟨s, hs, b, Or.inl ⟨i, by omega, ⟨⟨sub i hi a, a⟩, d⟩, c⟩⟩
  · rintro ⟨s, hs, b, (⟨i, hi, ⟨⟨a, c⟩, d⟩, e⟩ | ⟨⟨a, _⟩, c⟩)⟩
    · by_cases k : i < 5
      · exact Or.inr ⟨i, by omega, k, c, ⟨s, hs, b, e⟩, d⟩
      · rw [xg_b5 h hh i (by omega)] at a; cases a
    · exact Or.inl ⟨⟨s, hs, b, c⟩, a⟩

theorem xg_sl_eq (hh : h < 32) (sub : xg_sub grp h) :
    xg_sl st h grp pick t q tm = hs_sl (xg_st st) h.testBit (xg_pk q) (xg_ot tm) (xg_bk q) (xg_hm tm) pick.testBit t grp.testBit true := by
  have r : ∀ s, hs_rc h.testBit (xg_pk q) (xg_ot tm) pick.testBit t grp.testBit true 0 s = (xg_r grp pick q 5).testBit s :=
    fun s => (xg_rc h grp pick t q tm hh sub s).symm
  have v : ∀ j, hl_meet (xg_bk q j) (hs_rc h.testBit (xg_pk q) (xg_ot tm) pick.testBit t grp.testBit true (xg_hm tm j)) = xg_rs grp pick t q tm j :=
    fun j => (xg_rs_eq h grp pick t q tm hh sub j).symm
  have b : ∀ j, j < 5 → (h.testBit j && grp.testBit j) = grp.testBit j := by
    intro j hj
    cases e : grp.testBit j
    · simp
    · rw [sub j hj e]; rfl
  have h5 : h.testBit 5 = false := xg_b5 h hh 5 (by omega)
  have s0 : xg_st st 0 = (st 0 : Int) := rfl
  have s1 : xg_st st 1 = (st 1 : Int) := rfl
  have s2 : xg_st st 2 = (st 2 : Int) := rfl
  have s3 : xg_st st 3 = (st 3 : Int) := rfl
  simp only [hs_sl, v, hl_w, r, hl_sum, Nat.sub_self, Nat.reduceSub, b 0 (by omega), b 1 (by omega), b 2 (by omega), b 3 (by omega), b 4 (by omega), h5, Bool.false_and,
    s0, s1, s2, s3, xg_sl, xg_v, xg_w, xg_z]
  have f0 : hl_t 1 false = 0 := rfl
  rw [f0]
  omega
end

-- a choice of the five slots as a mask
def xg_m (b0 b1 b2 b3 b4 : Bool) : Nat := b0.toNat + 2 * b1.toNat + 4 * b2.toNat + 8 * b3.toNat + 16 * b4.toNat

theorem xg_m_bit (b0 b1 b2 b3 b4 : Bool) : xg_m b0 b1 b2 b3 b4 < 32 ∧ (xg_m b0 b1 b2 b3 b4).testBit 0 = b0 ∧ (xg_m b0 b1 b2 b3 b4).testBit 1 = b1 ∧
    (xg_m b0 b1 b2 b3 b4).testBit 2 = b2 ∧ (xg_m b0 b1 b2 b3 b4).testBit 3 = b3 ∧ (xg_m b0 b1 b2 b3 b4).testBit 4 = b4 := by
  cases b0 <;> cases b1 <;> cases b2 <;> cases b3 <;> cases b4 <;> decide

theorem xg_mask (h : Nat) (hh : h < 32) (g : Nat → Bool) : ∃ grp, grp < 32 ∧ xg_sub grp h ∧ ∀ j, j < 6 → (h.testBit j && g j) = (h.testBit j && grp.testBit j) := by
  have k := xg_m_bit (h.testBit 0 && g 0) (h.testBit 1 && g 1) (h.testBit 2 && g 2) (h.testBit 3 && g 3) (h.testBit 4 && g 4)
  refine ⟨_, k.1, ?_, ?_⟩
  · intro j hj e
    have : j = 0 ∨ j = 1 ∨ j = 2 ∨ j = 3 ∨ j = 4 := by omega
    rcases this with z | z | z | z | z <;> subst z
    · rw [k.2.1, Bool.and_eq_true] at e; exact e.1
    · rw [k.2.2.1, Bool.and_eq_true] at e; exact e.1
    · rw [k.2.2.2.1, Bool.and_eq_true] at e; exact e.1
    · rw [k.2.2.2.2.1, Bool.and_eq_true] at e; exact e.1
    · rw [k.2.2.2.2.2, Bool.and_eq_true] at e; exact e.1
  · intro j hj
    have : j = 0 ∨ j = 1 ∨ j = 2 ∨ j = 3 ∨ j = 4 ∨ j = 5 := by omega
    rcases this with z | z | z | z | z | z <;> subst z
    · rw [k.2.1]; cases h.testBit 0 <;> rfl
    · rw [k.2.2.1]; cases h.testBit 1 <;> rfl
    · rw [k.2.2.2.1]; cases h.testBit 2 <;> rfl
    · rw [k.2.2.2.2.1]; cases h.testBit 3 <;> rfl
    · rw [k.2.2.2.2.2]; cases h.testBit 4 <;> rfl
    · rw [xg_b5 h hh 5 (by omega)]; rfl

-- there is a good plan
def xg_gd (st : Nat → Nat) (on : Nat → Bool) (q tm : Nat → Nat) : Prop :=
  ∀ g, 0 ≤ hs_sl (xg_st st) on (xg_pk q) (xg_ot tm) (xg_bk q) (xg_hm tm) (fun _ => false) 0 g false

theorem hs_sl_off (st : Nat → Int) (on : Nat → Bool) (pk : Nat → Nat → Bool) (ot : Nat → Nat) (bk : Nat → Nat → Bool) (hm : Nat → Nat)
    (P P' : Nat → Bool) (T T' : Nat) (g : Nat → Bool) (a : Bool) (h : ∀ s, (a && P s) = false) :
    hs_sl st on pk ot bk hm P T g a = hs_sl st on pk ot bk hm P' T' g false := by
  have r : ∀ y, hs_rc on pk ot P T g a y = hs_rc on pk ot P' T' g false y := by
    intro y; funext s
    have k := h s
    simp only [hs_rc, Bool.and_assoc, k, Bool.and_false, Bool.false_and]
  simp only [hs_sl, r]

theorem hs_sl_0 (st : Nat → Int) (on : Nat → Bool) (pk : Nat → Nat → Bool) (ot : Nat → Nat) (bk : Nat → Nat → Bool) (hm : Nat → Nat)
    (P : Nat → Bool) (T : Nat) (g : Nat → Bool) (h : ∀ j, j < 6 → (on j && g j) = false) : hs_sl st on pk ot bk hm P T g false = 0 := by
  have r : ∀ y, hs_rc on pk ot P T g false y = fun _ => false := by
    intro y; funext s
    have o : hl_orr (fun j => on j && g j && decide (y ≤ ot j) && pk j s) 6 = hl_orr (fun _ => false) 6 :=
      hl_orr_congr _ _ (fun j hj => by rw [h j hj]; rfl) 6
    simp only [hs_rc, o]
    simp [hl_orr]
  have s1 : hl_sum (fun j => hl_t 1 (on j && g j)) 6 = hl_sum (fun _ => 0) 6 := hl_sum_congr _ _ (fun j hj => by rw [h j hj]; rfl) 6
  have s2 : hl_sum (fun j => hl_t 1 (on j && hl_meet (bk j) (fun _ => false))) 6 = hl_sum (fun _ => 0) 6 :=
    hl_sum_congr _ _ (fun j hj => by simp [hl_meet, hl_t]) 6
  simp only [hs_sl, r, s1, s2]
  simp [hl_w, hl_t, hl_sum]

-- what hasGoodPlan goes through
theorem xg_gd_iff (st : Nat → Nat) (h : Nat) (hh : h < 32) (q tm : Nat → Nat) :
    xg_gd st h.testBit q tm ↔ ∀ grp, 1 ≤ grp → grp < 32 → xg_sub grp h → 0 ≤ xg_sl st h grp 0 0 q tm := by
  have off : ∀ g, hs_sl (xg_st st) h.testBit (xg_pk q) (xg_ot tm) (xg_bk q) (xg_hm tm) (Nat.testBit 0) 0 g true =
      hs_sl (xg_st st) h.testBit (xg_pk q) (xg_ot tm) (xg_bk q) (xg_hm tm) (fun _ => false) 0 g false :=
    fun g => hs_sl_off _ _ _ _ _ _ _ _ _ _ _ _ (fun s => by simp)
  constructor
  · intro k grp h1 h2 sub
    rw [xg_sl_eq st h grp 0 0 q tm hh sub, off]
    exact k _
  · intro k g
    obtain ⟨grp, h2, sub, e⟩ := xg_mask h hh g
    rw [hs_sl_congr_g _ _ _ _ _ _ _ _ g grp.testBit false e]
    by_cases h1 : 1 ≤ grp
    · rw [← off, ← xg_sl_eq st h grp 0 0 q tm hh sub]
      exact k grp h1 h2 sub
    · have z : grp = 0 := by omega
      subst z
      rw [hs_sl_0 _ _ _ _ _ _ _ _ _ (fun j hj => by simp)]
      omega

-- what roomFor finds
theorem xg_room (st : Nat → Nat) (h : Nat) (hh : h < 32) (pick t : Nat) (q tm : Nat → Nat) (z : Int) :
    (∀ g, z ≤ hs_sl (xg_st st) h.testBit (xg_pk q) (xg_ot tm) (xg_bk q) (xg_hm tm) pick.testBit t g true) ↔
      ∀ grp, grp < 32 → xg_sub grp h → z ≤ xg_sl st h grp pick t q tm := by
  constructor
  · intro k grp h2 sub
    rw [xg_sl_eq st h grp pick t q tm hh sub]; exact k _
  · intro k g
    obtain ⟨grp, h2, sub, e⟩ := xg_mask h hh g
    rw [hs_sl_congr_g _ _ _ _ _ _ _ _ g grp.testBit true e, ← xg_sl_eq st h grp pick t q tm hh sub]
    exact k grp h2 sub

-- further ones reach no less
theorem hs_sl_mono (st : Nat → Int) (hst : ∀ s, s < 4 → 0 ≤ st s) (on : Nat → Bool) (pk : Nat → Nat → Bool) (ot : Nat → Nat) (bk : Nat → Nat → Bool) (hm : Nat → Nat)
    (P : Nat → Bool) (T : Nat) (g : Nat → Bool) : hs_sl st on pk ot bk hm P T g false ≤ hs_sl st on pk ot bk hm P T g true := by
  have r : ∀ y s, hs_rc on pk ot P T g false y s = true → hs_rc on pk ot P T g true y s = true := by
    intro y s k
    simp only [hs_rc, Bool.or_eq_true, Bool.and_false, Bool.false_and] at k ⊢
    rcases k with k | k
    · exact Or.inl k
    · cases k
  have w := hl_w_mono st (hs_rc on pk ot P T g false 0) (hs_rc on pk ot P T g true 0) hst (fun s _ => r 0 s)
  have m : ∀ j, hl_t 1 (on j && hl_meet (bk j) (hs_rc on pk ot P T g false (hm j))) ≤ hl_t 1 (on j && hl_meet (bk j) (hs_rc on pk ot P T g true (hm j))) := by
    intro j
    apply hl_t_mono 1 _ _ (by omega)
    intro k
    rw [Bool.and_eq_true, hl_meet_iff] at k ⊢
    obtain ⟨a, s, b, c, d⟩ := k
    exact ⟨a, s, b, c, r _ s d⟩
  have m0 := m 0
  have m1 := m 1
  have m2 := m 2
  have m3 := m 3
  have m4 := m 4
  have m5 := m 5
  simp only [hs_sl, hl_sum, Nat.sub_self, Nat.reduceSub]
  omega
