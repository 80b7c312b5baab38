-- keys of the reference's table: what stands at station s, of tot vehicles in all, at key k
def yq_v (tot : Int) (k : Nat) : Nat → Int := fun s =>
  if s = 0 then ((k % 18 : Nat) : Int) else if s = 1 then ((k / 18 % 18 : Nat) : Int) else if s = 2 then ((k / 324 : Nat) : Int)
  else if s = 3 then tot - ((k % 18 : Nat) : Int) - ((k / 18 % 18 : Nat) : Int) - ((k / 324 : Nat) : Int) else 0

def yq_u (s : Nat) : Nat := if s = 0 then 1 else if s = 1 then 18 else if s = 2 then 324 else 0

def yq_ok (A : Nat → Bool) (tot : Int) (nb : Nat) : Prop :=
  tot + (nb : Int) ≤ 60 ∧ ∀ k, A k = true → k < 5832 ∧ k % 18 + nb ≤ 17 ∧ k / 18 % 18 + nb ≤ 17 ∧ k / 324 + nb ≤ 17 ∧
    ((k % 18 : Nat) : Int) + ((k / 18 % 18 : Nat) : Int) + ((k / 324 : Nat) : Int) ≤ tot

def yq_ex (A : Nat → Bool) (tot : Int) (Q : (Nat → Int) → Prop) : Prop := ∃ k, A k = true ∧ Q (yq_v tot k)

theorem yq_v4 (tot : Int) (k i : Nat) (h : 4 ≤ i) : yq_v tot k i = 0 := by
  have a : ¬ i = 0 := by omega
  have b : ¬ i = 1 := by omega
  have c : ¬ i = 2 := by omega
  have d : ¬ i = 3 := by omega
  simp only [yq_v, if_neg a, if_neg b, if_neg c, if_neg d]

theorem yq_ext (f : Nat → Int) (tot : Int) (k : Nat) (h0 : f 0 = yq_v tot k 0) (h1 : f 1 = yq_v tot k 1) (h2 : f 2 = yq_v tot k 2)
    (h3 : f 3 = yq_v tot k 3) (h4 : ∀ i, 4 ≤ i → f i = 0) : f = yq_v tot k := by
  funext i
  by_cases c : 4 ≤ i
  · rw [h4 i c, yq_v4 tot k i c]
  · have : i = 0 ∨ i = 1 ∨ i = 2 ∨ i = 3 := by omega
    rcases this with e | e | e | e
    · rw [e]; exact h0
    · rw [e]; exact h1
    · rw [e]; exact h2
    · rw [e]; exact h3

theorem yq_v0 (tot : Int) (k : Nat) : yq_v tot k 0 = ((k % 18 : Nat) : Int) := rfl
theorem yq_v1 (tot : Int) (k : Nat) : yq_v tot k 1 = ((k / 18 % 18 : Nat) : Int) := rfl
theorem yq_v2 (tot : Int) (k : Nat) : yq_v tot k 2 = ((k / 324 : Nat) : Int) := rfl
theorem yq_v3 (tot : Int) (k : Nat) : yq_v tot k 3 = tot - ((k % 18 : Nat) : Int) - ((k / 18 % 18 : Nat) : Int) - ((k / 324 : Nat) : Int) := rfl

theorem yq_mv (tot d : Int) (k j s : Nat) (hs : s < 4) (h0 : ((j % 18 : Nat) : Int) = ((k % 18 : Nat) : Int) + (if 0 = s then d else 0))
    (h1 : ((j / 18 % 18 : Nat) : Int) = ((k / 18 % 18 : Nat) : Int) + (if 1 = s then d else 0))
    (h2 : ((j / 324 : Nat) : Int) = ((k / 324 : Nat) : Int) + (if 2 = s then d else 0)) : hl_up (yq_v tot k) s d = yq_v (tot + d) j := by
  apply yq_ext
  · rw [hl_up_at, yq_v0, yq_v0, h0]
  · rw [hl_up_at, yq_v1, yq_v1, h1]
  · rw [hl_up_at, yq_v2, yq_v2, h2]
  · rw [hl_up_at, yq_v3, yq_v3, h0, h1, h2]
    generalize ((k % 18 : Nat) : Int) = x
    generalize ((k / 18 % 18 : Nat) : Int) = y
    generalize ((k / 324 : Nat) : Int) = z
    rcases hl_lt4 hs with e | e | e | e <;> subst e <;> simp <;> omega
  · intro i hi
    rw [hl_up_at, yq_v4 tot k i hi, if_neg (by omega)]; rfl

theorem yq_d0 (k : Nat) (h : k % 18 < 17) : (k + 1) % 18 = k % 18 + 1 ∧ (k + 1) / 18 % 18 = k / 18 % 18 ∧ (k + 1) / 324 = k / 324 := by
  refine ⟨by omega, by omega, by omega⟩
theorem yq_d1 (k : Nat) (h : k / 18 % 18 < 17) : (k + 18) % 18 = k % 18 ∧ (k + 18) / 18 % 18 = k / 18 % 18 + 1 ∧ (k + 18) / 324 = k / 324 := by
  refine ⟨by omega, by omega, by omega⟩
theorem yq_d2 (k : Nat) : (k + 324) % 18 = k % 18 ∧ (k + 324) / 18 % 18 = k / 18 % 18 ∧ (k + 324) / 324 = k / 324 + 1 := by
  refine ⟨by omega, by omega, by omega⟩
theorem yq_f0 (k : Nat) (h : 0 < k % 18) : (k - 1) % 18 + 1 = k % 18 ∧ (k - 1) / 18 % 18 = k / 18 % 18 ∧ (k - 1) / 324 = k / 324 := by
  refine ⟨by omega, by omega, by omega⟩
theorem yq_f1 (k : Nat) (h : 0 < k / 18 % 18) : (k - 18) % 18 = k % 18 ∧ (k - 18) / 18 % 18 + 1 = k / 18 % 18 ∧ (k - 18) / 324 = k / 324 := by
  refine ⟨by omega, by omega, by omega⟩
theorem yq_f2 (k : Nat) (h : 0 < k / 324) : (k - 324) % 18 = k % 18 ∧ (k - 324) / 18 % 18 = k / 18 % 18 ∧ (k - 324) / 324 + 1 = k / 324 := by
  refine ⟨by omega, by omega, by omega⟩

theorem yq_up (tot : Int) (k s : Nat) (hs : s < 4) (h : s = 3 ∨ yq_v tot k s < 17) : hl_up (yq_v tot k) s 1 = yq_v (tot + 1) (k + yq_u s) := by
  rcases hl_lt4 hs with e | e | e | e <;> subst e
  · rw [yq_v0] at h
    have d := yq_d0 k (by omega)
    apply yq_mv tot 1 k (k + 1) 0 hs <;> simp only [d] <;> simp
  · rw [yq_v1] at h
    have d := yq_d1 k (by omega)
    apply yq_mv tot 1 k (k + 18) 1 hs <;> simp only [d] <;> simp
  · rw [yq_v2] at h
    have d := yq_d2 k
    apply yq_mv tot 1 k (k + 324) 2 hs <;> simp only [d] <;> simp
  · apply yq_mv tot 1 k (k + 0) 3 hs <;> simp

theorem yq_dn (tot : Int) (k s : Nat) (hs : s < 4) (h : 0 < yq_v tot k s) : hl_up (yq_v tot k) s (-1) = yq_v (tot + -1) (k - yq_u s) := by
  rcases hl_lt4 hs with e | e | e | e <;> subst e
  · rw [yq_v0] at h
    have d := yq_f0 k (by omega)
    apply yq_mv tot (-1) k (k - 1) 0 hs <;> simp only [← d.1, d.2.1, d.2.2] <;> simp <;> omega
  · rw [yq_v1] at h
    have d := yq_f1 k (by omega)
    apply yq_mv tot (-1) k (k - 18) 1 hs <;> simp only [d.1, ← d.2.1, d.2.2] <;> simp <;> omega
  · rw [yq_v2] at h
    have d := yq_f2 k (by omega)
    apply yq_mv tot (-1) k (k - 324) 2 hs <;> simp only [d.1, d.2.1, ← d.2.2] <;> simp <;> omega
  · apply yq_mv tot (-1) k (k - 0) 3 hs <;> simp

-- a bring, as a step of the table
theorem yq_br (A A' B : Nat → Bool) (tot : Int) (nb : Nat) (ok : yq_ok A tot (nb + 1))
    (h : ∀ k, A' k = true ↔ ∃ j s, s < 4 ∧ A j = true ∧ B s = true ∧ (s = 3 ∨ yq_v tot j s < 17) ∧ k = j + yq_u s) :
    yq_ok A' (tot + 1) nb ∧ ∀ Q, (yq_ex A' (tot + 1) Q ↔ yq_ex A tot (fun v => ∃ s, s < 4 ∧ B s = true ∧ Q (hl_up v s 1))) := by
  have ok1 := ok.1
  refine ⟨⟨by omega, fun k hk => ?_⟩, fun Q => ⟨?_, ?_⟩⟩
  · obtain ⟨j, s, hs, ha, hb, hg, e⟩ := (h k).mp hk
    have o := ok.2 j ha
    subst e
    rcases hl_lt4 hs with e | e | e | e <;> subst e
    · have d := yq_d0 j (by omega)
      show j + 1 < 5832 ∧ (j + 1) % 18 + nb ≤ 17 ∧ (j + 1) / 18 % 18 + nb ≤ 17 ∧ (j + 1) / 324 + nb ≤ 17 ∧ _
      have e1 : (((j + 1) % 18 : Nat) : Int) + (((j + 1) / 18 % 18 : Nat) : Int) + (((j + 1) / 324 : Nat) : Int) ≤ tot + 1 := by
        rw [d.1, d.2.1, d.2.2]; omega
      exact ⟨by omega, by omega, by omega, by omega, e1⟩
    · have d := yq_d1 j (by omega)
      show j + 18 < 5832 ∧ (j + 18) % 18 + nb ≤ 17 ∧ (j + 18) / 18 % 18 + nb ≤ 17 ∧ (j + 18) / 324 + nb ≤ 17 ∧ _
      have e1 : (((j + 18) % 18 : Nat) : Int) + (((j + 18) / 18 % 18 : Nat) : Int) + (((j + 18) / 324 : Nat) : Int) ≤ tot + 1 := by
        rw [d.1, d.2.1, d.2.2]; omega
      exact ⟨by omega, by omega, by omega, by omega, e1⟩
    · have d := yq_d2 j
      show j + 324 < 5832 ∧ (j + 324) % 18 + nb ≤ 17 ∧ (j + 324) / 18 % 18 + nb ≤ 17 ∧ (j + 324) / 324 + nb ≤ 17 ∧ _
      have e1 : (((j + 324) % 18 : Nat) : Int) + (((j + 324) / 18 % 18 : Nat) : Int) + (((j + 324) / 324 : Nat) : Int) ≤ tot + 1 := by
        rw [d.1, d.2.1, d.2.2]; omega
      exact ⟨by omega, by omega, by omega, by omega, e1⟩
    · show j < 5832 ∧ j % 18 + nb ≤ 17 ∧ j / 18 % 18 + nb ≤ 17 ∧ j / 324 + nb ≤ 17 ∧ ((j % 18 : Nat) : Int) + ((j / 18 % 18 : Nat) : Int) + ((j / 324 : Nat) : Int) ≤ tot + 1
      exact ⟨o.1, by omega, by omega, by omega, by omega⟩
  · rintro ⟨k, hk, q⟩
    obtain ⟨j, s, hs, ha, hb, hg, e⟩ := (h k).mp hk
    refine ⟨j, ha, s, hs, hb, ?_⟩
    rw [yq_up tot j s hs hg, ← e]; exact q
  · rintro ⟨j, ha, s, hs, hb, q⟩
    have o := ok.2 j ha
    have hg : s = 3 ∨ yq_v tot j s < 17 := by
      rcases hl_lt4 hs with e | e | e | e <;> subst e
      · right; rw [yq_v0]; omega
      · right; rw [yq_v1]; omega
      · right; rw [yq_v2]; omega
      · left; rfl
    rw [yq_up tot j s hs hg] at q
    exact ⟨_, (h _).mpr ⟨j, s, hs, ha, hb, hg, rfl⟩, q⟩

-- a fetch
theorem yq_fe (A A' B : Nat → Bool) (tot : Int) (nb : Nat) (ok : yq_ok A tot nb)
    (h : ∀ k, A' k = true ↔ ∃ j s, s < 4 ∧ A j = true ∧ B s = true ∧ 0 < yq_v tot j s ∧ k = j - yq_u s) :
    yq_ok A' (tot + -1) nb ∧ ∀ Q, (yq_ex A' (tot + -1) Q ↔ yq_ex A tot (fun v => ∃ s, s < 4 ∧ B s = true ∧ 1 ≤ v s ∧ Q (hl_up v s (-1)))) := by
  have ok1 := ok.1
  refine ⟨⟨by omega, fun k hk => ?_⟩, fun Q => ⟨?_, ?_⟩⟩
  · obtain ⟨j, s, hs, ha, hb, hg, e⟩ := (h k).mp hk
    have o := ok.2 j ha
    subst e
    rcases hl_lt4 hs with e | e | e | e <;> subst e
    · rw [yq_v0] at hg
      have d := yq_f0 j (by omega)
      show j - 1 < 5832 ∧ (j - 1) % 18 + nb ≤ 17 ∧ (j - 1) / 18 % 18 + nb ≤ 17 ∧ (j - 1) / 324 + nb ≤ 17 ∧ _
      have e1 : (((j - 1) % 18 : Nat) : Int) + (((j - 1) / 18 % 18 : Nat) : Int) + (((j - 1) / 324 : Nat) : Int) ≤ tot + -1 := by
        have d1 := d.1
        have o5 := o.2.2.2.2
        rw [d.2.1, d.2.2]; omega
      exact ⟨by omega, by omega, by omega, by omega, e1⟩
    · rw [yq_v1] at hg
      have d := yq_f1 j (by omega)
      show j - 18 < 5832 ∧ (j - 18) % 18 + nb ≤ 17 ∧ (j - 18) / 18 % 18 + nb ≤ 17 ∧ (j - 18) / 324 + nb ≤ 17 ∧ _
      have e1 : (((j - 18) % 18 : Nat) : Int) + (((j - 18) / 18 % 18 : Nat) : Int) + (((j - 18) / 324 : Nat) : Int) ≤ tot + -1 := by
        have d1 := d.2.1
        have o5 := o.2.2.2.2
        rw [d.1, d.2.2]; omega
      exact ⟨by omega, by omega, by omega, by omega, e1⟩
    · rw [yq_v2] at hg
      have d := yq_f2 j (by omega)
      show j - 324 < 5832 ∧ (j - 324) % 18 + nb ≤ 17 ∧ (j - 324) / 18 % 18 + nb ≤ 17 ∧ (j - 324) / 324 + nb ≤ 17 ∧ _
      have e1 : (((j - 324) % 18 : Nat) : Int) + (((j - 324) / 18 % 18 : Nat) : Int) + (((j - 324) / 324 : Nat) : Int) ≤ tot + -1 := by
        have d1 := d.2.2
        have o5 := o.2.2.2.2
        rw [d.1, d.2.1]; omega
      exact ⟨by omega, by omega, by omega, by omega, e1⟩
    · rw [yq_v3] at hg
      show j < 5832 ∧ j % 18 + nb ≤ 17 ∧ j / 18 % 18 + nb ≤ 17 ∧ j / 324 + nb ≤ 17 ∧ ((j % 18 : Nat) : Int) + ((j / 18 % 18 : Nat) : Int) + ((j / 324 : Nat) : Int) ≤ tot + -1
      exact ⟨o.1, by omega, by omega, by omega, by omega⟩
  · rintro ⟨k, hk, q⟩
    obtain ⟨j, s, hs, ha, hb, hg, e⟩ := (h k).mp hk
    refine ⟨j, ha, s, hs, hb, by omega, ?_⟩
    rw [yq_dn tot j s hs hg, ← e]; exact q
  · rintro ⟨j, ha, s, hs, hb, hg, q⟩
    have hg' : 0 < yq_v tot j s := by omega
    rw [yq_dn tot j s hs hg'] at q
    exact ⟨_, (h _).mpr ⟨j, s, hs, ha, hb, hg', rfl⟩, q⟩

-- the floor
theorem yq_fl (A A' : Nat → Bool) (tot : Int) (nb : Nat) (s : Nat) (N : Int) (ok : yq_ok A tot nb)
    (h : ∀ k, A' k = true ↔ A k = true ∧ N ≤ yq_v tot k s) :
    yq_ok A' tot nb ∧ ∀ Q, (yq_ex A' tot Q ↔ yq_ex A tot (fun v => N ≤ v s ∧ Q v)) := by
  refine ⟨⟨ok.1, fun k hk => ok.2 k ((h k).mp hk).1⟩, fun Q => ⟨?_, ?_⟩⟩
  · rintro ⟨k, hk, q⟩; exact ⟨k, ((h k).mp hk).1, ((h k).mp hk).2, q⟩
  · rintro ⟨k, hk, q⟩; exact ⟨k, (h k).mpr ⟨hk, q.1⟩, q.2⟩

theorem yq_ex_congr (A : Nat → Bool) (tot : Int) (Q R : (Nat → Int) → Prop) (h : ∀ v, Q v ↔ R v) : yq_ex A tot Q ↔ yq_ex A tot R := by
  constructor
  · rintro ⟨k, a, b⟩; exact ⟨k, a, (h _).mp b⟩
  · rintro ⟨k, a, b⟩; exact ⟨k, a, (h _).mpr b⟩

theorem yq_ok_le (A : Nat → Bool) (tot : Int) (m n : Nat) (h : n ≤ m) (ok : yq_ok A tot m) : yq_ok A tot n := by
  have ok1 := ok.1
  refine ⟨by omega, fun k hk => ?_⟩
  obtain ⟨a, b, c, d, e⟩ := ok.2 k hk
  exact ⟨a, by omega, by omega, by omega, e⟩

-- how many brings are still to come: at time x from slot 6 - n on; from time 9 - n on
def yq_c (on : Nat → Bool) (hm : Nat → Nat) (x : Nat) : Nat → Nat
  | 0 => 0
  | n + 1 => (if on (5 - n) = true ∧ hm (5 - n) = x then 1 else 0) + yq_c on hm x n

def yq_n (on : Nat → Bool) (hm : Nat → Nat) : Nat → Nat
  | 0 => 0
  | n + 1 => yq_c on hm (8 - n) 6 + yq_n on hm n

def yq_s (on : Nat → Bool) (hm : Nat → Nat) (j : Nat) : Nat → Nat
  | 0 => 0
  | n + 1 => (if on j = true ∧ hm j = 8 - n then 1 else 0) + yq_s on hm j n

theorem yq_s_le (on : Nat → Bool) (hm : Nat → Nat) (j : Nat) : ∀ n, n ≤ 9 → yq_s on hm j n ≤ 1 ∧ (hm j < 9 - n → yq_s on hm j n = 0)
  | 0, _ => ⟨by simp [yq_s], fun _ => rfl⟩
  | n + 1, hn => by
    have ih := yq_s_le on hm j n (by omega)
    simp only [yq_s]
    by_cases c : on j = true ∧ hm j = 8 - n
    · rw [if_pos c]
      have i2 := ih.2 (by omega)
      exact ⟨by omega, fun h => by omega⟩
    · rw [if_neg c]
      refine ⟨by omega, fun h => ?_⟩
      have i2 := ih.2 (by omega)
      omega

theorem yq_n_sum (on : Nat → Bool) (hm : Nat → Nat) : ∀ n, yq_n on hm n =
    yq_s on hm 0 n + yq_s on hm 1 n + yq_s on hm 2 n + yq_s on hm 3 n + yq_s on hm 4 n + yq_s on hm 5 n
  | 0 => rfl
  | n + 1 => by
    have ih := yq_n_sum on hm n
    simp only [yq_n, yq_c, yq_s, Nat.sub_self, Nat.reduceSub]
    rw [ih]
    generalize (if on 0 = true ∧ hm 0 = 8 - n then 1 else 0) = a0
    generalize (if on 1 = true ∧ hm 1 = 8 - n then 1 else 0) = a1
    generalize (if on 2 = true ∧ hm 2 = 8 - n then 1 else 0) = a2
    generalize (if on 3 = true ∧ hm 3 = 8 - n then 1 else 0) = a3
    generalize (if on 4 = true ∧ hm 4 = 8 - n then 1 else 0) = a4
    generalize (if on 5 = true ∧ hm 5 = 8 - n then 1 else 0) = a5
    omega

theorem yq_n9 (on : Nat → Bool) (hm : Nat → Nat) : yq_n on hm 9 ≤ 6 := by
  rw [yq_n_sum]
  have h0 := (yq_s_le on hm 0 9 (by omega)).1
  have h1 := (yq_s_le on hm 1 9 (by omega)).1
  have h2 := (yq_s_le on hm 2 9 (by omega)).1
  have h3 := (yq_s_le on hm 3 9 (by omega)).1
  have h4 := (yq_s_le on hm 4 9 (by omega)).1
  have h5 := (yq_s_le on hm 5 9 (by omega)).1
  omega

-- the key of the stocks
theorem yq_key (a b c d : Nat) (ha : a ≤ 3) (hb : b ≤ 3) (hc : c ≤ 3) (f : Nat → Int) (h0 : f 0 = a) (h1 : f 1 = b) (h2 : f 2 = c) (h3 : f 3 = d)
    (h4 : ∀ i, 4 ≤ i → f i = 0) : f = yq_v ((a : Int) + b + c + d) (a + 18 * b + 324 * c) := by
  have e0 : (a + 18 * b + 324 * c) % 18 = a := by omega
  have e1 : (a + 18 * b + 324 * c) / 18 % 18 = b := by omega
  have e2 : (a + 18 * b + 324 * c) / 324 = c := by omega
  apply yq_ext
  · rw [yq_v0, e0, h0]
  · rw [yq_v1, e1, h1]
  · rw [yq_v2, e2, h2]
  · rw [yq_v3, e0, e1, e2, h3]; omega
  · exact h4
