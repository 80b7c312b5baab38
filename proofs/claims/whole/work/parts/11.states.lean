-- what both states are pictures of: the capacity, the mask of numbers held, the stocks, and for each end its set and its time
def rl_R (cap h : Nat) (st q tm : Nat → Nat) : Prop :=
  1 ≤ cap ∧ cap < 6 ∧ h < 2 ^ cap ∧ (∀ s, s < 4 → st s ≤ 3) ∧ (∀ e, e < 10 → q e < 16 ∧ tm e ≤ 8) ∧ an_rg h.testBit q tm ∧ xg_gd st h.testBit q tm

theorem rl_h {cap h : Nat} {st q tm : Nat → Nat} (r : rl_R cap h st q tm) : h < 32 :=
  Nat.lt_of_lt_of_le r.2.2.1 (tb_cap cap r.2.1)

def rl_q (q : Nat → Nat) (i p b : Nat) : Nat → Nat := fp_up (fp_up q (2 * i) p) (2 * i + 1) b

theorem rl_q0 (q : Nat → Nat) (i p b : Nat) : rl_q q i p b (2 * i) = p := by
  have e : ¬ 2 * i = 2 * i + 1 := by omega
  simp only [rl_q, fp_up, if_neg e, if_true]
theorem rl_q1 (q : Nat → Nat) (i p b : Nat) : rl_q q i p b (2 * i + 1) = b := by
  simp only [rl_q, fp_up, if_true]
theorem rl_qn (q : Nat → Nat) (i p b e : Nat) (h : ¬ e / 2 = i) : rl_q q i p b e = q e := by
  have e1 : ¬ e = 2 * i := by omega
  have e2 : ¬ e = 2 * i + 1 := by omega
  simp only [rl_q, fp_up, if_neg e1, if_neg e2]
theorem rl_qn0 (q : Nat → Nat) (i p b j : Nat) (h : ¬ j = i) : rl_q q i p b (2 * j) = q (2 * j) := rl_qn q i p b _ (by omega)
theorem rl_qn1 (q : Nat → Nat) (i p b j : Nat) (h : ¬ j = i) : rl_q q i p b (2 * j + 1) = q (2 * j + 1) := rl_qn q i p b _ (by omega)

theorem rl_qb (q : Nat → Nat) (i p b B : Nat) (hp : p < B) (hb : b < B) (hq : ∀ e, e < 10 → q e < B) : ∀ e, e < 10 → rl_q q i p b e < B := by
  intro e he
  simp only [rl_q, fp_up]
  split
  · exact hb
  · split
    · exact hp
    · exact hq e he

section
variable {cap h : Nat} {st q tm : Nat → Nat} (i p t b u : Nat)

-- a free number's ends may be written over
theorem rl_over (r : rl_R cap h st q tm) (f : h.testBit i = false) (hp : p < 16) (hb : b < 16) (ht : t ≤ 8) (hu : u ≤ 8) :
    rl_R cap h st (rl_q q i p b) (rl_q tm i t u) := by
  obtain ⟨a1, a2, a3, a4, a5, a6, a7⟩ := r
  have ne : ∀ j, h.testBit j = true → ¬ j = i := fun j o e => by rw [e, f] at o; cases o
  refine ⟨a1, a2, a3, a4, fun e he => ⟨rl_qb q i p b 16 hp hb (fun e he => (a5 e he).1) e he, ?_⟩, ?_, ?_⟩
  · have k := rl_qb tm i t u 9 (by omega) (by omega) (fun e he => by have := (a5 e he).2; omega) e he
    omega
  · intro j hj o
    rw [rl_qn0 q i p b j (ne j o), rl_qn1 q i p b j (ne j o), rl_qn0 tm i t u j (ne j o), rl_qn1 tm i t u j (ne j o)]
    exact a6 j hj o
  · refine (an_congr st st h.testBit q _ tm _ (fun _ _ => rfl) (fun j hj o => ?_)).mp a7
    rw [rl_qn0 q i p b j (ne j o), rl_qn1 q i p b j (ne j o), rl_qn0 tm i t u j (ne j o), rl_qn1 tm i t u j (ne j o)]
    exact ⟨rfl, rfl, rfl, rfl⟩

theorem rl_set_rg (r : rl_R cap h st q tm) (hp1 : 1 ≤ p) (hp : p < 16) (hb1 : 1 ≤ b) (hb : b < 16) (ht : t ≤ 8) (hu : u ≤ 8) :
    an_rg (h ||| 2 ^ i).testBit (rl_q q i p b) (rl_q tm i t u) := by
  intro j hj o
  by_cases e : j = i
  · subst e
    rw [rl_q0, rl_q1, rl_q0, rl_q1]; exact ⟨ht, hu, hp1, hp, hb1, hb⟩
  · rw [rl_qn0 q i p b j e, rl_qn1 q i p b j e, rl_qn0 tm i t u j e, rl_qn1 tm i t u j e]
    have e' : ¬ i = j := fun z => e z.symm
    rw [tb_s_bit, Bool.or_eq_true, decide_eq_true_eq] at o
    exact r.2.2.2.2.2.1 j hj (o.resolve_right e')

theorem rl_set (r : rl_R cap h st q tm) (hi : i < cap) (hp1 : 1 ≤ p) (hp : p < 16) (hb1 : 1 ≤ b) (hb : b < 16) (ht : t ≤ 8) (hu : u ≤ 8)
    (g : xg_gd st (h ||| 2 ^ i).testBit (rl_q q i p b) (rl_q tm i t u)) : rl_R cap (h ||| 2 ^ i) st (rl_q q i p b) (rl_q tm i t u) := by
  have rg := rl_set_rg i p t b u r hp1 hp hb1 hb ht hu
  have hh := rl_h r
  obtain ⟨a1, a2, a3, a4, a5, a6, a7⟩ := r
  refine ⟨a1, a2, tb_or_lt cap a2 h hh a3 i hi, a4, fun e he => ⟨rl_qb q i p b 16 hp hb (fun e he => (a5 e he).1) e he, ?_⟩, rg, g⟩
  have k := rl_qb tm i t u 9 (by omega) (by omega) (fun e he => by have := (a5 e he).2; omega) e he
  omega
end

theorem rl_drop_rg {cap h : Nat} {st q tm : Nat → Nat} (i : Nat) (hi : i < 5) (r : rl_R cap h st q tm) : an_rg (tb_c h i).testBit q tm := by
  intro j hj o
  rw [tb_c_bit h (rl_h r) i hi j hj, Bool.and_eq_true] at o
  exact r.2.2.2.2.2.1 j hj o.1

theorem rl_drop {cap h : Nat} {st q tm : Nat → Nat} (i : Nat) (hi : i < 5) (r : rl_R cap h st q tm) (g : xg_gd st (tb_c h i).testBit q tm) :
    rl_R cap (tb_c h i) st q tm := by
  have rg := rl_drop_rg i hi r
  have hh := rl_h r
  obtain ⟨a1, a2, a3, a4, a5, a6, a7⟩ := r
  exact ⟨a1, a2, tb_c_lt cap a2 h hh a3 i hi, a4, a5, rg, g⟩

theorem rl_stock {cap h : Nat} {st q tm : Nat → Nat} (s n : Nat) (hn : n ≤ 3) (r : rl_R cap h st q tm) (g : xg_gd (fp_up st s n) h.testBit q tm) :
    rl_R cap h (fp_up st s n) q tm := by
  obtain ⟨a1, a2, a3, a4, a5, a6, a7⟩ := r
  refine ⟨a1, a2, a3, fun k hk => ?_, a5, a6, g⟩
  simp only [fp_up]
  split
  · exact hn
  · exact a4 k hk

-- the question that the reference puts for a booking of its slot 5
theorem rl_ask (h i : Nat) (hh : h < 32) (hi : i < 5) (f : h.testBit i = false) (st q tm : Nat → Nat) :
    xg_gd st (fun j => (h ||| 2 ^ i).testBit (hs_sw i j)) (an_sw i q) (an_sw i tm) ↔ xg_gd st (h ||| 2 ^ i).testBit q tm :=
  an_swap st (h ||| 2 ^ i).testBit q tm i hi

theorem rl_sw_i (h i : Nat) (hh : h < 32) (hi : i < 5) : (h ||| 2 ^ i).testBit (hs_sw i i) = false := by
  have e : hs_sw i i = 5 := if_pos rfl
  have n5 : ¬ i = 5 := by omega
  rw [e, tb_s_bit, xg_b5 h hh 5 (by omega), Bool.false_or, decide_eq_false n5]

theorem rl_sw_5 (h i : Nat) (hi : i < 5) : (h ||| 2 ^ i).testBit (hs_sw i 5) = true := by
  have n5 : ¬ 5 = i := by omega
  have e : hs_sw i 5 = i := by simp only [hs_sw, if_neg n5, if_true]
  rw [e, tb_s_bit]; simp

theorem rl_sw_j (h i j : Nat) (hj : j < 5) (n : ¬ j = i) : hs_sw i j = j ∧ (h ||| 2 ^ i).testBit (hs_sw i j) = h.testBit j := by
  have n5 : ¬ j = 5 := by omega
  have e : hs_sw i j = j := by simp only [hs_sw, if_neg n, if_neg n5]
  have n' : ¬ i = j := fun z => n z.symm
  refine ⟨e, ?_⟩
  rw [e, tb_s_bit, decide_eq_false n', Bool.or_false]

-- one more, never brought back: of the empty group alone
theorem rl_room_le (st : Nat → Nat) (h s x : Nat) (hs : s < 4) (q tm : Nat → Nat) (hst : ∀ s, s < 4 → st s ≤ 3) : xg_sl st h 0 (2 ^ s) x q tm ≤ 8 := by
  have b : ∀ b : Bool, 0 ≤ hl_t 1 b ∧ hl_t 1 b ≤ 1 := fun b => hl_t_bd 1 b (by omega)
  have v0 := b (h.testBit 0 && xg_rs 0 (2 ^ s) x q tm 0)
  have v1 := b (h.testBit 1 && xg_rs 0 (2 ^ s) x q tm 1)
  have v2 := b (h.testBit 2 && xg_rs 0 (2 ^ s) x q tm 2)
  have v3 := b (h.testBit 3 && xg_rs 0 (2 ^ s) x q tm 3)
  have v4 := b (h.testBit 4 && xg_rs 0 (2 ^ s) x q tm 4)
  have r : ∀ i, xg_r 0 (2 ^ s) q i = 2 ^ s := by
    intro i
    induction i with
    | zero => rfl
    | succ i ih => simp only [xg_r, Nat.zero_testBit, ih]; rfl
  have z : ∀ i, xg_z 0 i = 0 := by
    intro i
    induction i with
    | zero => rfl
    | succ i ih => simp only [xg_z, Nat.zero_testBit, ih]; rfl
  have w : xg_w st (2 ^ s) 0 4 ≤ 3 := by
    have q0 := hst 0 (by omega)
    have q1 := hst 1 (by omega)
    have q2 := hst 2 (by omega)
    have q3 := hst 3 (by omega)
    simp only [xg_w, Nat.testBit_two_pow, hl_t]
    rcases hl_lt4 hs with e | e | e | e <;> subst e <;> simp <;> omega
  simp only [xg_sl, r, z]
  simp only [xg_v]
  omega

theorem rl_new (cap : Nat) (st : Nat → Nat) (h1 : 1 ≤ cap) (h2 : cap < 6) (hst : ∀ s, s < 4 → st s ≤ 3) : rl_R cap 0 st (fun _ => 0) (fun _ => 0) := by
  refine ⟨h1, h2, Nat.two_pow_pos cap, hst, fun e _ => ⟨by simp, by simp⟩, fun j _ o => ?_, fun g => ?_⟩
  · rw [Nat.zero_testBit] at o; cases o
  · rw [hs_sl_0 _ _ _ _ _ _ _ _ _ (fun j _ => by simp)]; omega

-- where an int lies
theorem rl_cl (x : Int32) (a b : Nat) (ha : a < 1000) (hb : b < 1000) : x < nI a ∨ nI b < x ∨ ∃ n : Nat, a ≤ n ∧ n ≤ b ∧ x = nI n := by
  by_cases c1 : x < nI a
  · exact Or.inl c1
  · by_cases c2 : nI b < x
    · exact Or.inr (Or.inl c2)
    · exact Or.inr (Or.inr (tb_arg ha hb (Int32.not_lt.mp c1) (Int32.not_lt.mp c2)))
