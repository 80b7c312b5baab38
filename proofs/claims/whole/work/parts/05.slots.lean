section
variable (st : Nat → Int) (on : Nat → Bool) (pk : Nat → Nat → Bool) (ot : Nat → Nat) (bk : Nat → Nat → Bool) (hm : Nat → Nat)
  (P : Nat → Bool) (T : Nat) (g : Nat → Bool) (a : Bool)

-- what the chosen slots (and, where a, the further ones) reach from time y on
def hs_rc (y : Nat) (s : Nat) : Bool :=
  hl_orr (fun j => on j && g j && decide (y ≤ ot j) && pk j s) 6 || (decide (y ≤ T) && a && P s)

-- vehicles that serve them, less the size of the choice (the further ones not counted)
def hs_sl : Int :=
  hl_w st (hs_rc on pk ot P T g a 0) + hl_sum (fun j => hl_t 1 (on j && hl_meet (bk j) (hs_rc on pk ot P T g a (hm j)))) 6 -
    hl_sum (fun j => hl_t 1 (on j && g j)) 6
end

theorem hs_reach (on : Nat → Bool) (pk : Nat → Nat → Bool) (ot : Nat → Nat) (N : Nat) (P : Nat → Bool) (T : Nat) (g : Nat → Bool) (y : Nat) :
    hl_reach on pk ot N P T g y = hs_rc on pk ot P T g (hl_any g N) y := by
  funext s; rfl

section
variable (st : Nat → Int) (hst : ∀ s, s < 4 → 0 ≤ st s) (on : Nat → Bool) (pk : Nat → Nat → Bool) (ot : Nat → Nat) (bk : Nat → Nat → Bool) (hm : Nat → Nat)
  (P : Nat → Bool) (T : Nat) (hot : ∀ j, j < 6 → on j = true → ot j ≤ 8) (hhm : ∀ j, j < 6 → on j = true → hm j ≤ 8)
  (hbk : ∀ j, j < 6 → on j = true → ∃ s, s < 4 ∧ bk j s = true) (hT : T ≤ 8)

theorem hs_fits (N e : Nat) (hst : ∀ s, s < 4 → 0 ≤ st s) (hot : ∀ j, j < 6 → on j = true → ot j ≤ 8) (hhm : ∀ j, j < 6 → on j = true → hm j ≤ 8)
    (hbk : ∀ j, j < 6 → on j = true → ∃ s, s < 4 ∧ bk j s = true) (hT : T ≤ 8) :
    hl_run (fun _ => True) (hl_ext (hl_ops on pk ot bk hm N P T 9) e) st ↔
      ∀ g, hl_cnt g N - hl_t (e : Int) (hl_meet (fun s => decide (s < 4)) (hs_rc on pk ot P T g (hl_any g N) 0)) ≤
        hs_sl st on pk ot bk hm P T g (hl_any g N) := by
  rw [hl_hall_g _ st (hl_ok_ext _ (hl_ok_ops on pk ot bk hm N P T hbk 9) e)
    (hl_nd_ext _ (hl_n2_nd _ (hl_n2_ops on pk ot bk hm N P T 9 (by omega))) e) hst]
  have key : ∀ g, (hl_d g (hl_ext (hl_ops on pk ot bk hm N P T 9) e) ≤ hl_w st (hl_R g (hl_ext (hl_ops on pk ot bk hm N P T 9) e))) ↔
      hl_cnt g N - hl_t (e : Int) (hl_meet (fun s => decide (s < 4)) (hs_rc on pk ot P T g (hl_any g N) 0)) ≤
        hs_sl st on pk ot bk hm P T g (hl_any g N) := by
    intro g
    have r0 : hl_R g (hl_ops on pk ot bk hm N P T 9) = hs_rc on pk ot P T g (hl_any g N) 0 := by
      rw [← hs_reach]; funext s; exact hl_R_ops on pk ot bk hm N P T g hot hT s 9 (by omega)
    have d0 := hl_d_ops on pk ot bk hm N P T g hot hhm hT 9 (by omega)
    rw [hl_R_ext, hl_d_ext, r0, d0]
    simp only [hs_sl, hs_reach, Nat.sub_self, Nat.zero_le, decide_true, Bool.and_true]
    have e1 : hl_t (hl_cnt g N) true = hl_cnt g N := rfl
    rw [e1]
    constructor <;> intro q <;> omega
  constructor
  · intro h g; exact (key g).mp (h g)
  · intro h g; exact (key g).mpr (h g)

theorem hs_sl_congr_g (g g' : Nat → Bool) (a : Bool) (h : ∀ j, j < 6 → (on j && g j) = (on j && g' j)) :
    hs_sl st on pk ot bk hm P T g a = hs_sl st on pk ot bk hm P T g' a := by
  have r : ∀ y, hs_rc on pk ot P T g a y = hs_rc on pk ot P T g' a y := by
    intro y; funext s
    have o : hl_orr (fun j => on j && g j && decide (y ≤ ot j) && pk j s) 6 = hl_orr (fun j => on j && g' j && decide (y ≤ ot j) && pk j s) 6 :=
      hl_orr_congr _ _ (fun j hj => by rw [h j hj]) 6
    simp only [hs_rc, o]
  have s : hl_sum (fun j => hl_t 1 (on j && g j)) 6 = hl_sum (fun j => hl_t 1 (on j && g' j)) 6 :=
    hl_sum_congr _ _ (fun j hj => by rw [h j hj]) 6
  simp only [hs_sl, r, s]

theorem hs_plain (hst : ∀ s, s < 4 → 0 ≤ st s) (hot : ∀ j, j < 6 → on j = true → ot j ≤ 8) (hhm : ∀ j, j < 6 → on j = true → hm j ≤ 8)
    (hbk : ∀ j, j < 6 → on j = true → ∃ s, s < 4 ∧ bk j s = true) (hT : T ≤ 8) :
    hl_run (fun _ => True) (hl_ops on pk ot bk hm 0 P T 9) st ↔ ∀ g, 0 ≤ hs_sl st on pk ot bk hm P T g false := by
  have k := hs_fits st on pk ot bk hm P T 0 0 hst hot hhm hbk hT
  simp only [hl_ext, hl_cnt, hl_any] at k
  rw [k]
  constructor
  · intro h g
    have q := h g
    cases hl_meet (fun s => decide (s < 4)) (hs_rc on pk ot P T g false 0) <;> simp [hl_t] at q <;> omega
  · intro h g
    have q := h g
    cases hl_meet (fun s => decide (s < 4)) (hs_rc on pk ot P T g false 0) <;> simp [hl_t] <;> omega

theorem hl_all_g : ∀ N : Nat, ∀ g : Nat → Bool, (∀ m, g (6 + m) = true) → hl_cnt g N = N ∧ (1 ≤ N → hl_any g N = true)
  | 0, g, _ => ⟨rfl, fun h => by omega⟩
  | N + 1, g, h => by
    have k := hl_all_g N g h
    refine ⟨?_, fun _ => ?_⟩
    · simp only [hl_cnt, h N, k.1, hl_t, if_true]; omega
    · simp [hl_any, h N]

-- the deficiency form: N >= 1 further ones of the set P at time T, e vehicles more
theorem hs_more (N e : Nat) (hN : 1 ≤ N) (hst : ∀ s, s < 4 → 0 ≤ st s) (hot : ∀ j, j < 6 → on j = true → ot j ≤ 8) (hhm : ∀ j, j < 6 → on j = true → hm j ≤ 8)
    (hbk : ∀ j, j < 6 → on j = true → ∃ s, s < 4 ∧ bk j s = true) (hT : T ≤ 8) (hP : ∃ s, s < 4 ∧ P s = true)
    (good : ∀ g, 0 ≤ hs_sl st on pk ot bk hm P T g false) :
    hl_run (fun _ => True) (hl_ext (hl_ops on pk ot bk hm N P T 9) e) st ↔ ∀ g, (N : Int) - e ≤ hs_sl st on pk ot bk hm P T g true := by
  rw [hs_fits st on pk ot bk hm P T N e hst hot hhm hbk hT]
  have mt : ∀ g, hl_meet (fun s => decide (s < 4)) (hs_rc on pk ot P T g true 0) = true := by
    intro g
    obtain ⟨s, hs, hp⟩ := hP
    exact hl_meet_of hs (by simp [hs]) (by simp [hs_rc, hp])
  have te : hl_t (e : Int) true = e := rfl
  constructor
  · intro h g
    have k := h (fun j => if j < 6 then g j else true)
    have q := hl_all_g N (fun j => if j < 6 then g j else true) (fun m => by simp)
    rw [q.1, q.2 hN, mt, te] at k
    rw [hs_sl_congr_g st on pk ot bk hm P T g (fun j => if j < 6 then g j else true) true (fun j hj => by rw [if_pos hj])]
    exact k
  · intro h g
    have c := hl_cnt_le g N
    cases e1 : hl_any g N
    · have k := good g
      have c0 := c.2.2 e1
      have tb := (hl_t_bd (e : Int) (hl_meet (fun s => decide (s < 4)) (hs_rc on pk ot P T g false 0)) (by omega)).1
      omega
    · have k := h g
      rw [mt, te]
      omega
end

-- slots may be told apart by their contents alone: off slots do not matter
theorem hs_sl_congr (st st' : Nat → Int) (on : Nat → Bool) (pk pk' : Nat → Nat → Bool) (ot ot' : Nat → Nat) (bk bk' : Nat → Nat → Bool) (hm hm' : Nat → Nat)
    (P P' : Nat → Bool) (T : Nat) (g : Nat → Bool) (a : Bool) (h0 : ∀ s, s < 4 → st s = st' s)
    (h1 : ∀ j, j < 6 → on j = true → (∀ s, s < 4 → pk j s = pk' j s) ∧ ot j = ot' j ∧ (∀ s, s < 4 → bk j s = bk' j s) ∧ hm j = hm' j)
    (h2 : a = true → ∀ s, s < 4 → P s = P' s) : hs_sl st on pk ot bk hm P T g a = hs_sl st' on pk' ot' bk' hm' P' T g a := by
  have r : ∀ y s, s < 4 → hs_rc on pk ot P T g a y s = hs_rc on pk' ot' P' T g a y s := by
    intro y s hs
    rw [Bool.eq_iff_iff]
    simp only [hs_rc, Bool.or_eq_true, hl_orr_iff, Bool.and_eq_true, decide_eq_true_eq]
    constructor
    · rintro (⟨j, hj, ⟨⟨x, y⟩, z⟩, w⟩ | ⟨⟨x, y⟩, z⟩)
      · have k := h1 j hj x
        exact Or.inl ⟨j, hj, ⟨⟨x, y⟩, by rw [← k.2.1]; exact z⟩, by rw [← k.1 s hs]; exact w⟩
      · exact Or.inr ⟨⟨x, y⟩, by rw [← h2 y s hs]; exact z⟩
    · rintro (⟨j, hj, ⟨⟨x, y⟩, z⟩, w⟩ | ⟨⟨x, y⟩, z⟩)
      · have k := h1 j hj x
        exact Or.inl ⟨j, hj, ⟨⟨x, y⟩, by rw [k.2.1]; exact z⟩, by rw [k.1 s hs]; exact w⟩
      · exact Or.inr ⟨⟨x, y⟩, by rw [h2 y s hs]; exact z⟩
  have w : hl_w st (hs_rc on pk ot P T g a 0) = hl_w st' (hs_rc on pk' ot' P' T g a 0) := by
    simp only [hl_w, r 0 0 (by omega), r 0 1 (by omega), r 0 2 (by omega), r 0 3 (by omega), h0 0 (by omega), h0 1 (by omega), h0 2 (by omega), h0 3 (by omega)]
  have s : hl_sum (fun j => hl_t 1 (on j && hl_meet (bk j) (hs_rc on pk ot P T g a (hm j)))) 6 =
      hl_sum (fun j => hl_t 1 (on j && hl_meet (bk' j) (hs_rc on pk' ot' P' T g a (hm' j)))) 6 := by
    apply hl_sum_congr
    intro j hj
    cases e : on j
    · rfl
    · have k := h1 j hj e
      simp only [hl_meet, k.2.2.2, r _ 0 (by omega), r _ 1 (by omega), r _ 2 (by omega), r _ 3 (by omega), k.2.2.1 0 (by omega), k.2.2.1 1 (by omega),
        k.2.2.1 2 (by omega), k.2.2.1 3 (by omega)]
  simp only [hs_sl, w, s]

-- slots i and 5 may change places
def hs_sw (i j : Nat) : Nat := if j = i then 5 else if j = 5 then i else j

theorem hs_sw_lt (i j : Nat) (hi : i < 5) (hj : j < 6) : hs_sw i j < 6 := by
  simp only [hs_sw]; split
  · omega
  · split <;> omega

theorem hs_sw_sw (i j : Nat) : hs_sw i (hs_sw i j) = j := by
  simp only [hs_sw]
  by_cases a : j = i
  · by_cases b : (5 : Nat) = i <;> simp [a, b]
  · by_cases b : j = 5
    · simp [a, b]
    · simp [a, b]

theorem hs_sum_sw (f : Nat → Int) (i : Nat) (hi : i < 5) : hl_sum (fun j => f (hs_sw i j)) 6 = hl_sum f 6 := by
  have : i = 0 ∨ i = 1 ∨ i = 2 ∨ i = 3 ∨ i = 4 := by omega
  rcases this with e | e | e | e | e <;> subst e <;> simp [hl_sum, hs_sw] <;> omega

theorem hs_orr_sw (f : Nat → Bool) (i : Nat) (hi : i < 5) : hl_orr (fun j => f (hs_sw i j)) 6 = hl_orr f 6 := by
  rw [Bool.eq_iff_iff, hl_orr_iff, hl_orr_iff]
  constructor
  · rintro ⟨j, hj, h⟩; exact ⟨_, hs_sw_lt i j hi hj, h⟩
  · rintro ⟨j, hj, h⟩; exact ⟨hs_sw i j, hs_sw_lt i j hi hj, by rw [hs_sw_sw]; exact h⟩

theorem hs_sl_sw (st : Nat → Int) (on : Nat → Bool) (pk : Nat → Nat → Bool) (ot : Nat → Nat) (bk : Nat → Nat → Bool) (hm : Nat → Nat)
    (P : Nat → Bool) (T : Nat) (g : Nat → Bool) (a : Bool) (i : Nat) (hi : i < 5) :
    hs_sl st (fun j => on (hs_sw i j)) (fun j => pk (hs_sw i j)) (fun j => ot (hs_sw i j)) (fun j => bk (hs_sw i j)) (fun j => hm (hs_sw i j)) P T
      (fun j => g (hs_sw i j)) a = hs_sl st on pk ot bk hm P T g a := by
  have r : ∀ y, hs_rc (fun j => on (hs_sw i j)) (fun j => pk (hs_sw i j)) (fun j => ot (hs_sw i j)) P T (fun j => g (hs_sw i j)) a y = hs_rc on pk ot P T g a y := by
    intro y; funext s
    simp only [hs_rc]
    congr 1
    exact hs_orr_sw (fun j => on j && g j && decide (y ≤ ot j) && pk j s) i hi
  simp only [hs_sl, r]
  rw [hs_sum_sw (fun j => hl_t 1 (on j && hl_meet (bk j) (hs_rc on pk ot P T g a (hm j)))) i hi, hs_sum_sw (fun j => hl_t 1 (on j && g j)) i hi]
