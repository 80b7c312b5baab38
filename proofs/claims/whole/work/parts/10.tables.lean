-- small tables: masks of bookings (below 32) and of stations (below 16)
theorem tb_bit : ∀ h, h < 32 → ∀ i, i < 5 → (nI h >>> (nI i &&& 31)) &&& 1 = zi_b (h.testBit i) := by decide +kernel
theorem tb_or : ∀ a, a < 16 → ∀ b, b < 16 → nI a ||| nI b = nI (a ||| b) ∧ a ||| b < 16 := by decide +kernel
theorem tb_and : ∀ a, a < 16 → ∀ b, b < 16 → ((nI a &&& nI b = 0) ↔ hl_meet a.testBit b.testBit = false) := by decide +kernel
theorem tb_sl : ∀ i, i < 5 → (1 : Int32) <<< (nI i &&& 31) = nI (2 ^ i) := by decide +kernel
theorem tb_set : ∀ h, h < 32 → ∀ i, i < 5 → nI h ||| nI (2 ^ i) = nI (h ||| 2 ^ i) := by decide +kernel
def tb_c (h i : Nat) : Nat := h &&& (31 ^^^ 2 ^ i)
theorem tb_clr : ∀ h, h < 32 → ∀ i, i < 5 → nI h &&& (nI (2 ^ i) ^^^ (-1)) = nI (tb_c h i) := by decide +kernel
theorem tb_sub0 : ∀ g, g < 32 → ∀ h, h < 32 → ((nI g &&& (nI h ^^^ (-1)) = 0) ↔ ∀ j, j < 5 → g.testBit j = true → h.testBit j = true) := by decide +kernel
theorem tb_sub (g h : Nat) (hg : g < 32) (hh : h < 32) : (nI g &&& (nI h ^^^ (-1)) = 0) ↔ xg_sub g h := tb_sub0 g hg h hh

theorem tb_c_bit : ∀ h, h < 32 → ∀ i, i < 5 → ∀ j, j < 6 → (tb_c h i).testBit j = (h.testBit j && !decide (j = i)) := by decide +kernel
theorem tb_c_lt : ∀ cap, cap < 6 → ∀ h, h < 32 → h < 2 ^ cap → ∀ i, i < 5 → tb_c h i < 2 ^ cap := by decide +kernel
theorem tb_c_or : ∀ h, h < 32 → ∀ i, i < 5 → h.testBit i = false → tb_c (h ||| 2 ^ i) i = h := by decide +kernel
theorem tb_or_c : ∀ h, h < 32 → ∀ i, i < 5 → h.testBit i = true → tb_c h i ||| 2 ^ i = h := by decide +kernel
theorem tb_or_lt : ∀ cap, cap < 6 → ∀ h, h < 32 → h < 2 ^ cap → ∀ i, i < cap → h ||| 2 ^ i < 2 ^ cap := by decide +kernel
theorem tb_cap : ∀ cap, cap < 6 → 2 ^ cap ≤ 32 := by decide

theorem tb_s_bit (h i j : Nat) : (h ||| 2 ^ i).testBit j = (h.testBit j || decide (i = j)) := by
  rw [Nat.testBit_or, Nat.testBit_two_pow]

-- the least free number, and how many are held
def tb_lf (h : Nat) : Nat :=
  if h.testBit 0 = false then 0 else if h.testBit 1 = false then 1 else if h.testBit 2 = false then 2 else if h.testBit 3 = false then 3 else
  if h.testBit 4 = false then 4 else 5
def tb_pc (h : Nat) : Nat := (h.testBit 0).toNat + (h.testBit 1).toNat + (h.testBit 2).toNat + (h.testBit 3).toNat + (h.testBit 4).toNat
theorem tb_full : ∀ cap, cap < 6 → 1 ≤ cap → ∀ h, h < 32 → h < 2 ^ cap → (cap ≤ tb_lf h ↔ (cap ≤ tb_pc h ∨ 5 ≤ tb_lf h)) := by decide +kernel
theorem tb_lf_free : ∀ h, h < 32 → tb_lf h < 5 → h.testBit (tb_lf h) = false := by decide +kernel
theorem tb_lf_le : ∀ h, h < 32 → tb_lf h ≤ 5 := by decide +kernel

-- an argument that lies in a range is a small number
theorem tb_arg {x : Int32} {a b : Nat} (ha : a < 1000) (hb : b < 1000) (h1 : nI a ≤ x) (h2 : x ≤ nI b) : ∃ n : Nat, a ≤ n ∧ n ≤ b ∧ x = nI n := by
  have e1 : (nI a).toInt = a := nI_toInt (by omega)
  have e2 : (nI b).toInt = b := nI_toInt (by omega)
  rw [Int32.le_iff_toInt_le, e1] at h1
  rw [Int32.le_iff_toInt_le, e2] at h2
  refine ⟨x.toInt.toNat, by omega, by omega, ?_⟩
  apply Int32.toInt_inj.mp
  rw [nI_toInt (by omega)]
  omega
