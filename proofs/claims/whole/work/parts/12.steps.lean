-- the loops over the table
theorem yq_sh (a m : Bool) : nI (yq_md a m) >>> ((1 : Int32) &&& 31) = nI (yq_md m false) := by cases a <;> cases m <;> decide

def yq_se (A M : Nat → Bool) (i : Nat) (sp : Nat → Int32) : Prop :=
  ∀ k, k < 5832 → sp k = nI (if k < i then yq_md (M k) false else yq_md (A k) (M k))

theorem yq_se_0 (A M : Nat → Bool) (sp : Nat → Int32) (h : yq_sp A M sp) : yq_se A M 0 sp := by
  intro k hk
  rw [if_neg (by omega)]; exact h k hk

theorem yq_se_s (A M : Nat → Bool) (i : Nat) (sp : Nat → Int32) (hi : i < 5832) (h : yq_se A M i sp) :
    yq_se A M (i + 1) (upd sp i (sp i >>> ((1 : Int32) &&& 31))) := by
  intro k hk
  by_cases e : k = i
  · subst e
    have z : upd sp k (sp k >>> ((1 : Int32) &&& 31)) k = sp k >>> ((1 : Int32) &&& 31) := if_pos rfl
    rw [z, h k hk, if_neg (by omega), if_pos (by omega), yq_sh]
  · have z : upd sp i (sp i >>> ((1 : Int32) &&& 31)) k = sp k := if_neg e
    rw [z, h k hk]
    by_cases c : k < i
    · rw [if_pos c, if_pos (by omega)]
    · rw [if_neg c, if_neg (by omega)]

theorem yq_se_e (A M : Nat → Bool) (sp : Nat → Int32) (h : yq_se A M 5832 sp) : yq_sp M (fun _ => false) sp := by
  intro k hk
  have z := h k hk
  rw [if_pos hk] at z; exact z

def yq_fi (A : Nat → Bool) (tot : Int) (s : Nat) (N : Int) (i : Nat) (sp : Nat → Int32) : Prop :=
  ∀ k, k < 5832 → sp k = nI (yq_md (if k < i then A k && decide (N ≤ yq_v tot k s) else A k) false)

theorem yq_fi_0 (A : Nat → Bool) (tot : Int) (s : Nat) (N : Int) (sp : Nat → Int32) (h : yq_sp A (fun _ => false) sp) : yq_fi A tot s N 0 sp := by
  intro k hk
  rw [if_neg (by omega)]; exact h k hk

-- the cell goes out where it is set and the floor is not met
theorem yq_fi_y (A : Nat → Bool) (tot : Int) (s : Nat) (N : Int) (i : Nat) (sp : Nat → Int32) (h : yq_fi A tot s N i sp) (c : ¬ N ≤ yq_v tot i s) :
    yq_fi A tot s N (i + 1) (upd sp i 0) := by
  intro k hk
  by_cases e : k = i
  · subst e
    have z : upd sp k 0 k = 0 := if_pos rfl
    rw [z, if_pos (by omega), decide_eq_false c, Bool.and_false]; rfl
  · have z : upd sp i 0 k = sp k := if_neg e
    rw [z, h k hk]
    by_cases d : k < i
    · rw [if_pos d, if_pos (by omega)]
    · rw [if_neg d, if_neg (by omega)]

theorem yq_fi_n (A : Nat → Bool) (tot : Int) (s : Nat) (N : Int) (i : Nat) (sp : Nat → Int32) (h : yq_fi A tot s N i sp) (c : A i = true → N ≤ yq_v tot i s) :
    yq_fi A tot s N (i + 1) sp := by
  intro k hk
  rw [h k hk]
  by_cases e : k = i
  · subst e
    rw [if_neg (by omega), if_pos (by omega)]
    cases a : A k
    · rfl
    · rw [decide_eq_true (c a)]; rfl
  · by_cases d : k < i
    · rw [if_pos d, if_pos (by omega)]
    · rw [if_neg d, if_neg (by omega)]

theorem yq_fi_a (A : Nat → Bool) (tot : Int) (s : Nat) (N : Int) (i : Nat) (sp : Nat → Int32) (hi : i < 5832) (h : yq_fi A tot s N i sp) : sp i = 1 ↔ A i = true := by
  rw [h i hi, if_neg (by omega)]; exact yq_md_1 _

theorem yq_fi_e (A : Nat → Bool) (tot : Int) (s : Nat) (N : Int) (nb : Nat) (sp : Nat → Int32) (ok : yq_ok A tot nb) (h : yq_fi A tot s N 5832 sp) :
    yq_sp (fun k => A k && decide (N ≤ yq_v tot k s)) (fun _ => false) sp := by
  intro k hk
  have z := h k hk
  rw [if_pos hk] at z; exact z

-- a step of the rest
theorem yq_J_br (G : Prop) (set : Nat) (Q : (Nat → Int) → Prop) (nb : Nat) (A : Nat → Bool) (tot : Int) (ok : yq_ok A tot (nb + 1))
    (ex : yq_ex A tot (fun v => ∃ s, s < 4 ∧ set.testBit s = true ∧ Q (hl_up v s 1)) ↔ G) (M : Nat → Bool) (sp : Nat → Int32) (ft : Int32) (hf : ft = zi_z (tot + 1))
    (hs : yq_sp M (fun _ => false) sp) (hM : ∀ k, M k = true ↔ yq_mb A (fun j s => set.testBit s = true ∧ (s = 3 ∨ yq_v tot j s < 17)) (fun j s => j + yq_u s) 5832 0 k) :
    yq_J G Q nb sp ft := by
  have k := yq_br A M set.testBit tot nb ok (fun k => by
    rw [hM k, yq_mb_e _ _ _ (fun k hk => (ok.2 k hk).1)]
    constructor
    · rintro ⟨j, s, a, b, ⟨c, d⟩, e⟩; exact ⟨j, s, a, b, c, d, e⟩
    · rintro ⟨j, s, a, b, c, d, e⟩; exact ⟨j, s, a, b, ⟨c, d⟩, e⟩)
  exact ⟨M, tot + 1, hf, hs, k.1, (k.2 Q).trans ex⟩

theorem yq_J_fe (G : Prop) (set : Nat) (Q : (Nat → Int) → Prop) (nb : Nat) (A : Nat → Bool) (tot : Int) (ok : yq_ok A tot nb)
    (ex : yq_ex A tot (fun v => ∃ s, s < 4 ∧ set.testBit s = true ∧ 1 ≤ v s ∧ Q (hl_up v s (-1))) ↔ G) (M : Nat → Bool) (sp : Nat → Int32) (ft : Int32) (hf : ft = zi_z (tot + -1))
    (hs : yq_sp M (fun _ => false) sp) (hM : ∀ k, M k = true ↔ yq_mb A (fun j s => set.testBit s = true ∧ 0 < yq_v tot j s) (fun j s => j - yq_u s) 5832 0 k) :
    yq_J G Q nb sp ft := by
  have k := yq_fe A M set.testBit tot nb ok (fun k => by
    rw [hM k, yq_mb_e _ _ _ (fun k hk => (ok.2 k hk).1)]
    constructor
    · rintro ⟨j, s, a, b, ⟨c, d⟩, e⟩; exact ⟨j, s, a, b, c, d, e⟩
    · rintro ⟨j, s, a, b, c, d, e⟩; exact ⟨j, s, a, b, ⟨c, d⟩, e⟩)
  exact ⟨M, tot + -1, hf, hs, k.1, (k.2 Q).trans ex⟩

theorem yq_J_fl (G : Prop) (Q : (Nat → Int) → Prop) (nb : Nat) (A : Nat → Bool) (tot : Int) (s : Nat) (N : Int) (ok : yq_ok A tot nb)
    (ex : yq_ex A tot (fun v => N ≤ v s ∧ Q v) ↔ G) (sp : Nat → Int32) (ft : Int32) (hf : ft = zi_z tot) (h : yq_fi A tot s N 5832 sp) : yq_J G Q nb sp ft := by
  have k := yq_fl A (fun k => A k && decide (N ≤ yq_v tot k s)) tot nb s N ok (fun k => by rw [Bool.and_eq_true, decide_eq_true_eq])
  exact ⟨_, tot, hf, yq_fi_e A tot s N nb sp ok h, k.1, (k.2 Q).trans ex⟩

theorem yq_J_congr (G : Prop) (Q R : (Nat → Int) → Prop) (h : ∀ v, Q v ↔ R v) (m n : Nat) (hn : n ≤ m) (sp : Nat → Int32) (ft : Int32) (j : yq_J G Q m sp ft) : yq_J G R n sp ft := by
  obtain ⟨A, tot, a, b, c, d⟩ := j
  exact ⟨A, tot, a, b, yq_ok_le A tot m n hn c, (yq_ex_congr A tot R Q (fun v => (h v).symm)).trans d⟩

-- the start
theorem yq_J_0 (st : Nat → Nat) (hst : ∀ s, s < 4 → st s ≤ 3) (Q : (Nat → Int) → Prop) (nb : Nat) (hnb : nb ≤ 14) (sp : Nat → Int32) (ft : Int32)
    (hf : ft = zi_z ((st 0 : Int) + st 1 + st 2 + st 3))
    (hs : ∀ k, k < 5832 → sp k = if k = st 0 + 18 * st 1 + 324 * st 2 then 1 else 0) : yq_J (Q (xg_st st)) Q nb sp ft := by
  have h0 := hst 0 (by omega)
  have h1 := hst 1 (by omega)
  have h2 := hst 2 (by omega)
  have h3 := hst 3 (by omega)
  have key := yq_key (st 0) (st 1) (st 2) (st 3) h0 h1 h2 (xg_st st) rfl rfl rfl rfl (fun i hi => if_neg (by omega))
  refine ⟨fun k => decide (k = st 0 + 18 * st 1 + 324 * st 2), _, hf, fun k hk => ?_, ⟨by omega, fun k hk => ?_⟩, ?_⟩
  · rw [hs k hk]
    show _ = nI (yq_md (decide (k = st 0 + 18 * st 1 + 324 * st 2)) false)
    by_cases e : k = st 0 + 18 * st 1 + 324 * st 2
    · rw [if_pos e, decide_eq_true e]; decide
    · rw [if_neg e, decide_eq_false e]; decide
  · rw [decide_eq_true_eq] at hk
    subst hk
    have e0 : (st 0 + 18 * st 1 + 324 * st 2) % 18 = st 0 := by omega
    have e1 : (st 0 + 18 * st 1 + 324 * st 2) / 18 % 18 = st 1 := by omega
    have e2 : (st 0 + 18 * st 1 + 324 * st 2) / 324 = st 2 := by omega
    rw [e0, e1, e2]
    exact ⟨by omega, by omega, by omega, by omega, by omega⟩
  · constructor
    · rintro ⟨k, hk, q⟩
      rw [decide_eq_true_eq] at hk
      subst hk
      rw [key]; exact q
    · intro q
      rw [key] at q
      exact ⟨_, decide_eq_true rfl, q⟩

-- the end: some key is set
theorem yq_J_any (G : Prop) (nb : Nat) (sp : Nat → Int32) (ft : Int32) (j : yq_J G (fun _ => True) nb sp ft) : (∃ k, k < 5832 ∧ sp k = 1) ↔ G := by
  obtain ⟨A, tot, a, b, c, d⟩ := j
  rw [← d]
  constructor
  · rintro ⟨k, hk, e⟩
    rw [b k hk, yq_md_1] at e
    exact ⟨k, e, True.intro⟩
  · rintro ⟨k, hk, _⟩
    have l := (c.2 k hk).1
    exact ⟨k, l, by rw [b k l, yq_md_1]; exact hk⟩
