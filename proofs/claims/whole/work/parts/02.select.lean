def hl_R (g : Nat → Bool) : List (Bool × Nat × (Nat → Bool)) → Nat → Bool
  | [], _ => false
  | (true, _, _) :: r, s => hl_R g r s
  | (false, j, B) :: r, s => hl_R g r s || (g j && B s)

def hl_d (g : Nat → Bool) : List (Bool × Nat × (Nat → Bool)) → Int
  | [] => 0
  | (true, _, B) :: r => hl_d g r - hl_t 1 (hl_meet B (hl_R g r))
  | (false, j, _) :: r => hl_d g r + hl_t 1 (g j)

theorem hl_cut_g (g : Nat → Bool) : ∀ r, hl_cut r (hl_R g r) (hl_d g r)
  | [] => ⟨rfl, rfl⟩
  | (true, _, B) :: r => ⟨hl_d g r, hl_cut_g g r, rfl⟩
  | (false, j, B) :: r => by
    cases e : g j
    · left
      have a : hl_R g ((false, j, B) :: r) = hl_R g r := by funext s; simp [hl_R, e]
      have b : hl_d g ((false, j, B) :: r) = hl_d g r := by simp [hl_d, e, hl_t]
      rw [a, b]; exact hl_cut_g g r
    · right
      refine ⟨hl_R g r, ?_, ?_⟩
      · have b : hl_d g ((false, j, B) :: r) - 1 = hl_d g r := by simp [hl_d, e, hl_t]
        rw [b]; exact hl_cut_g g r
      · funext s; simp [hl_R, e]

-- no fetch's tag stands twice
def hl_nd : List (Bool × Nat × (Nat → Bool)) → Prop
  | [] => True
  | (true, _, _) :: r => hl_nd r
  | (false, j, _) :: r => (∀ o, o ∈ r → o.1 = false → o.2.1 ≠ j) ∧ hl_nd r

theorem hl_g_congr (g h : Nat → Bool) : ∀ r : List (Bool × Nat × (Nat → Bool)), (∀ o, o ∈ r → o.1 = false → g o.2.1 = h o.2.1) →
    hl_R g r = hl_R h r ∧ hl_d g r = hl_d h r
  | [], _ => ⟨rfl, rfl⟩
  | (true, j, B) :: r, hh => by
    obtain ⟨a, b⟩ := hl_g_congr g h r (fun o ho => hh o (List.mem_cons_of_mem _ ho))
    refine ⟨?_, ?_⟩
    · funext s; simp only [hl_R, a]
    · simp only [hl_d, a, b]
  | (false, j, B) :: r, hh => by
    obtain ⟨a, b⟩ := hl_g_congr g h r (fun o ho => hh o (List.mem_cons_of_mem _ ho))
    have c : g j = h j := hh (false, j, B) (List.mem_cons_self ..) rfl
    refine ⟨?_, ?_⟩
    · funext s; simp only [hl_R, a, c]
    · simp only [hl_d, b, c]

theorem hl_cut_to : ∀ (r : List (Bool × Nat × (Nat → Bool))) (R : Nat → Bool) (d : Int), hl_nd r → hl_cut r R d →
    ∃ g, R = hl_R g r ∧ d = hl_d g r
  | [], R, d, _, ⟨a, b⟩ => ⟨fun _ => false, by subst a; rfl, b⟩
  | (true, j, B) :: r, R, d, nd, ⟨d0, a, b⟩ => by
    obtain ⟨g, e, f⟩ := hl_cut_to r R d0 nd a
    refine ⟨g, ?_, ?_⟩
    · rw [e]; rfl
    · rw [b, f, e]; rfl
  | (false, j, B) :: r, R, d, ⟨n1, nd⟩, hc => by
    rcases hc with hc | ⟨R0, hc, e0⟩
    · obtain ⟨g, e, f⟩ := hl_cut_to r R d nd hc
      have k := hl_g_congr g (fun i => if i = j then false else g i) r (fun o ho h1 => by simp [n1 o ho h1])
      refine ⟨fun i => if i = j then false else g i, ?_, ?_⟩
      · rw [e, k.1]; funext s; simp [hl_R]
      · rw [f, k.2]; simp [hl_d, hl_t]
    · obtain ⟨g, e, f⟩ := hl_cut_to r R0 (d - 1) nd hc
      have k := hl_g_congr g (fun i => if i = j then true else g i) r (fun o ho h1 => by simp [n1 o ho h1])
      refine ⟨fun i => if i = j then true else g i, ?_, ?_⟩
      · rw [e0, e, k.1]; funext s; simp [hl_R]
      · have e1 : hl_d (fun i => if i = j then true else g i) ((false, j, B) :: r)
            = hl_d (fun i => if i = j then true else g i) r + 1 := by simp [hl_d, hl_t]
        rw [e1, ← k.2]; omega

theorem hl_hall_g (r : List (Bool × Nat × (Nat → Bool))) (v : Nat → Int) (ok : hl_ok r) (nd : hl_nd r) (hv : ∀ s, s < 4 → 0 ≤ v s) :
    hl_run (fun _ => True) r v ↔ ∀ g, hl_d g r ≤ hl_w v (hl_R g r) := by
  rw [hl_hall r v ok hv]
  constructor
  · intro h g; exact h _ _ (hl_cut_g g r)
  · intro h R d hc
    obtain ⟨g, e, f⟩ := hl_cut_to r R d nd hc
    rw [e, f]; exact h g

-- sums and unions over the slots 0 .. 5, in the order in which the reference's loops go
def hl_sum (f : Nat → Int) : Nat → Int
  | 0 => 0
  | n + 1 => f (5 - n) + hl_sum f n

def hl_orr (f : Nat → Bool) : Nat → Bool
  | 0 => false
  | n + 1 => f (5 - n) || hl_orr f n

theorem hl_sum_congr (f h : Nat → Int) (e : ∀ j, j < 6 → f j = h j) : ∀ n, hl_sum f n = hl_sum h n
  | 0 => rfl
  | n + 1 => by simp only [hl_sum]; rw [e (5 - n) (by omega), hl_sum_congr f h e n]

theorem hl_orr_congr (f h : Nat → Bool) (e : ∀ j, j < 6 → f j = h j) : ∀ n, hl_orr f n = hl_orr h n
  | 0 => rfl
  | n + 1 => by simp only [hl_orr]; rw [e (5 - n) (by omega), hl_orr_congr f h e n]

theorem hl_sum_add (f h : Nat → Int) : ∀ n, hl_sum (fun j => f j + h j) n = hl_sum f n + hl_sum h n
  | 0 => rfl
  | n + 1 => by simp only [hl_sum]; rw [hl_sum_add f h n]; omega

theorem hl_orr_iff (f : Nat → Bool) : hl_orr f 6 = true ↔ ∃ j, j < 6 ∧ f j = true := by
  simp only [hl_orr, Bool.or_eq_true]
  constructor
  · intro h
    rcases h with h | h | h | h | h | h | h
    · exact ⟨0, by omega, h⟩
    · exact ⟨1, by omega, h⟩
    · exact ⟨2, by omega, h⟩
    · exact ⟨3, by omega, h⟩
    · exact ⟨4, by omega, h⟩
    · exact ⟨5, by omega, h⟩
    · cases h
  · intro ⟨j, hj, h⟩
    have : j = 0 ∨ j = 1 ∨ j = 2 ∨ j = 3 ∨ j = 4 ∨ j = 5 := by omega
    rcases this with e | e | e | e | e | e <;> subst e <;> simp [h]

-- the steps of a time: what comes back (slots 5 - n ..), what goes out, the further ones; tl: what comes behind
def hl_brs (on : Nat → Bool) (hm : Nat → Nat) (bk : Nat → Nat → Bool) (x : Nat) (tl : List (Bool × Nat × (Nat → Bool))) :
    Nat → List (Bool × Nat × (Nat → Bool))
  | 0 => tl
  | n + 1 => if on (5 - n) = true ∧ hm (5 - n) = x then (true, 5 - n, bk (5 - n)) :: hl_brs on hm bk x tl n else hl_brs on hm bk x tl n

def hl_fes (on : Nat → Bool) (ot : Nat → Nat) (pk : Nat → Nat → Bool) (x : Nat) (tl : List (Bool × Nat × (Nat → Bool))) :
    Nat → List (Bool × Nat × (Nat → Bool))
  | 0 => tl
  | n + 1 => if on (5 - n) = true ∧ ot (5 - n) = x then (false, 5 - n, pk (5 - n)) :: hl_fes on ot pk x tl n else hl_fes on ot pk x tl n

def hl_gon (P : Nat → Bool) (tl : List (Bool × Nat × (Nat → Bool))) : Nat → List (Bool × Nat × (Nat → Bool))
  | 0 => tl
  | n + 1 => (false, 6 + n, P) :: hl_gon P tl n

def hl_ext (tl : List (Bool × Nat × (Nat → Bool))) : Nat → List (Bool × Nat × (Nat → Bool))
  | 0 => tl
  | n + 1 => (true, 6, fun s => decide (s < 4)) :: hl_ext tl n

-- n times are still to come: 9 - n .. 8
def hl_ops (on : Nat → Bool) (pk : Nat → Nat → Bool) (ot : Nat → Nat) (bk : Nat → Nat → Bool) (hm : Nat → Nat)
    (N : Nat) (P : Nat → Bool) (T : Nat) : Nat → List (Bool × Nat × (Nat → Bool))
  | 0 => []
  | n + 1 => hl_brs on hm bk (8 - n) (hl_fes on ot pk (8 - n) (hl_gon P (hl_ops on pk ot bk hm N P T n) (if 8 - n = T then N else 0)) 6) 6

-- what a choice reaches and asks, step by step
theorem hl_R_brs (g on : Nat → Bool) (hm : Nat → Nat) (bk : Nat → Nat → Bool) (x : Nat) (tl : List (Bool × Nat × (Nat → Bool))) :
    ∀ n, hl_R g (hl_brs on hm bk x tl n) = hl_R g tl
  | 0 => rfl
  | n + 1 => by
    have ih := hl_R_brs g on hm bk x tl n
    simp only [hl_brs]
    split
    · funext s; simp only [hl_R, ih]
    · exact ih

theorem hl_d_brs (g on : Nat → Bool) (hm : Nat → Nat) (bk : Nat → Nat → Bool) (x : Nat) (tl : List (Bool × Nat × (Nat → Bool))) :
    ∀ n, hl_d g (hl_brs on hm bk x tl n) = hl_d g tl -
      hl_sum (fun j => hl_t 1 (on j && decide (hm j = x) && hl_meet (bk j) (hl_R g tl))) n
  | 0 => by simp [hl_brs, hl_sum]
  | n + 1 => by
    have ih := hl_d_brs g on hm bk x tl n
    simp only [hl_brs, hl_sum]
    split
    · next c =>
      simp only [hl_d, hl_R_brs, ih, c.1, c.2, decide_true, Bool.true_and]
      omega
    · next c =>
      have e : (on (5 - n) && decide (hm (5 - n) = x)) = false := by
        cases a : on (5 - n)
        · rfl
        · have : ¬ hm (5 - n) = x := fun z => c ⟨a, z⟩
          simp [this]
      rw [ih, e]; simp [hl_t]

theorem hl_R_fes (g on : Nat → Bool) (ot : Nat → Nat) (pk : Nat → Nat → Bool) (x : Nat) (tl : List (Bool × Nat × (Nat → Bool))) (s : Nat) :
    ∀ n, hl_R g (hl_fes on ot pk x tl n) s = (hl_R g tl s || hl_orr (fun j => on j && decide (ot j = x) && g j && pk j s) n)
  | 0 => by simp [hl_fes, hl_orr]
  | n + 1 => by
    have ih := hl_R_fes g on ot pk x tl s n
    simp only [hl_fes, hl_orr]
    split
    · next c =>
      simp only [hl_R, ih, c.1, c.2, decide_true, Bool.true_and]
      cases hl_R g tl s <;> cases (g (5 - n) && pk (5 - n) s) <;> simp
    · next c =>
      have e : (on (5 - n) && decide (ot (5 - n) = x)) = false := by
        cases a : on (5 - n)
        · rfl
        · have : ¬ ot (5 - n) = x := fun z => c ⟨a, z⟩
          simp [this]
      rw [ih, e]; simp

theorem hl_d_fes (g on : Nat → Bool) (ot : Nat → Nat) (pk : Nat → Nat → Bool) (x : Nat) (tl : List (Bool × Nat × (Nat → Bool))) :
    ∀ n, hl_d g (hl_fes on ot pk x tl n) = hl_d g tl + hl_sum (fun j => hl_t 1 (on j && decide (ot j = x) && g j)) n
  | 0 => by simp [hl_fes, hl_sum]
  | n + 1 => by
    have ih := hl_d_fes g on ot pk x tl n
    simp only [hl_fes, hl_sum]
    split
    · next c =>
      simp only [hl_d, ih, c.1, c.2, decide_true, Bool.true_and]
      omega
    · next c =>
      have e : (on (5 - n) && decide (ot (5 - n) = x)) = false := by
        cases a : on (5 - n)
        · rfl
        · have : ¬ ot (5 - n) = x := fun z => c ⟨a, z⟩
          simp [this]
      rw [ih, e]; simp [hl_t]

-- of the further ones: whether one is chosen, and how many are
def hl_any (g : Nat → Bool) : Nat → Bool
  | 0 => false
  | n + 1 => g (6 + n) || hl_any g n

def hl_cnt (g : Nat → Bool) : Nat → Int
  | 0 => 0
  | n + 1 => hl_t 1 (g (6 + n)) + hl_cnt g n

theorem hl_cnt_le (g : Nat → Bool) : ∀ n, 0 ≤ hl_cnt g n ∧ hl_cnt g n ≤ n ∧ (hl_any g n = false → hl_cnt g n = 0)
  | 0 => ⟨by simp [hl_cnt], by simp [hl_cnt], fun _ => rfl⟩
  | n + 1 => by
    obtain ⟨a, b, c⟩ := hl_cnt_le g n
    have t := hl_t_bd 1 (g (6 + n)) (by omega)
    simp only [hl_cnt, hl_any]
    refine ⟨by omega, by omega, fun h => ?_⟩
    rw [Bool.or_eq_false_iff] at h
    rw [c h.2, h.1]; rfl

theorem hl_R_gon (g P : Nat → Bool) (tl : List (Bool × Nat × (Nat → Bool))) (s : Nat) :
    ∀ n, hl_R g (hl_gon P tl n) s = (hl_R g tl s || (hl_any g n && P s))
  | 0 => by simp [hl_gon, hl_any]
  | n + 1 => by
    simp only [hl_gon, hl_any, hl_R, hl_R_gon g P tl s n]
    cases hl_R g tl s <;> cases hl_any g n <;> cases g (6 + n) <;> cases P s <;> rfl

theorem hl_d_gon (g P : Nat → Bool) (tl : List (Bool × Nat × (Nat → Bool))) :
    ∀ n, hl_d g (hl_gon P tl n) = hl_d g tl + hl_cnt g n
  | 0 => by simp [hl_gon, hl_cnt]
  | n + 1 => by
    simp only [hl_gon, hl_cnt, hl_d, hl_d_gon g P tl n]
    omega

theorem hl_R_ext (g : Nat → Bool) (tl : List (Bool × Nat × (Nat → Bool))) : ∀ n, hl_R g (hl_ext tl n) = hl_R g tl
  | 0 => rfl
  | n + 1 => by
    have ih := hl_R_ext g tl n
    funext s; simp only [hl_ext, hl_R, ih]

theorem hl_d_ext (g : Nat → Bool) (tl : List (Bool × Nat × (Nat → Bool))) :
    ∀ n : Nat, hl_d g (hl_ext tl n) = hl_d g tl - hl_t (n : Int) (hl_meet (fun s => decide (s < 4)) (hl_R g tl))
  | 0 => by cases hl_meet (fun s => decide (s < 4)) (hl_R g tl) <;> simp [hl_ext, hl_t]
  | n + 1 => by
    have ih := hl_d_ext g tl n
    simp only [hl_ext, hl_d, hl_R_ext, ih]
    cases hl_meet (fun s => decide (s < 4)) (hl_R g tl) <;> simp only [hl_t] <;> simp <;> omega

section
variable (on : Nat → Bool) (pk : Nat → Nat → Bool) (ot : Nat → Nat) (bk : Nat → Nat → Bool) (hm : Nat → Nat)
  (N : Nat) (P : Nat → Bool) (T : Nat) (g : Nat → Bool)

-- what is reached by the chosen ones from time y on
def hl_reach (y : Nat) (s : Nat) : Bool :=
  hl_orr (fun j => on j && g j && decide (y ≤ ot j) && pk j s) 6 || (decide (y ≤ T) && hl_any g N && P s)

theorem hl_R_ops (hot : ∀ j, j < 6 → on j = true → ot j ≤ 8) (hT : T ≤ 8) (s : Nat) :
    ∀ n, n ≤ 9 → hl_R g (hl_ops on pk ot bk hm N P T n) s = hl_reach on pk ot N P T g (9 - n) s
  | 0, _ => by
    have h : hl_reach on pk ot N P T g 9 s = false := by
      cases e : hl_reach on pk ot N P T g 9 s
      · rfl
      · simp only [hl_reach, Bool.or_eq_true, hl_orr_iff, Bool.and_eq_true, decide_eq_true_eq] at e
        rcases e with ⟨j, hj, ⟨⟨a, _⟩, b⟩, _⟩ | ⟨⟨a, _⟩, _⟩
        · have := hot j hj a; omega
        · omega
    simp only [hl_ops, hl_R]; exact h.symm
  | n + 1, hn => by
    have ih := hl_R_ops hot hT s n (by omega)
    simp only [hl_ops, hl_R_brs, hl_R_fes, hl_R_gon]
    rw [ih]
    have e9 : 9 - (n + 1) = 8 - n := by omega
    have e8 : 9 - n = 8 - n + 1 := by omega
    rw [e9, e8]
    generalize 8 - n = x
    rw [Bool.eq_iff_iff]
    simp only [hl_reach, Bool.or_eq_true, hl_orr_iff, Bool.and_eq_true, decide_eq_true_eq]
    constructor
    · rintro (((⟨j, hj, ⟨⟨a, b⟩, c⟩, d⟩ | ⟨⟨a, b⟩, c⟩) | ⟨a, b⟩) | ⟨j, hj, ⟨⟨a, b⟩, c⟩, d⟩)
      · exact Or.inl ⟨j, hj, ⟨⟨a, b⟩, by omega⟩, d⟩
      · exact Or.inr ⟨⟨by omega, b⟩, c⟩
      · by_cases e : x = T
        · rw [if_pos e] at a; exact Or.inr ⟨⟨by omega, a⟩, b⟩
        · rw [if_neg e] at a; cases a
      · exact Or.inl ⟨j, hj, ⟨⟨a, c⟩, by omega⟩, d⟩
    · rintro (⟨j, hj, ⟨⟨a, b⟩, c⟩, d⟩ | ⟨⟨a, b⟩, c⟩)
      · by_cases e : ot j = x
        · exact Or.inr ⟨j, hj, ⟨⟨a, e⟩, b⟩, d⟩
        · exact Or.inl (Or.inl (Or.inl ⟨j, hj, ⟨⟨a, b⟩, by omega⟩, d⟩))
      · by_cases e : x = T
        · exact Or.inl (Or.inr ⟨by rw [if_pos e]; exact b, c⟩)
        · exact Or.inl (Or.inl (Or.inr ⟨⟨by omega, b⟩, c⟩))

theorem hl_d_ops (hot : ∀ j, j < 6 → on j = true → ot j ≤ 8) (hhm : ∀ j, j < 6 → on j = true → hm j ≤ 8) (hT : T ≤ 8) :
    ∀ n, n ≤ 9 → hl_d g (hl_ops on pk ot bk hm N P T n) =
      hl_sum (fun j => hl_t 1 (on j && g j && decide (9 - n ≤ ot j))) 6 + hl_t (hl_cnt g N) (decide (9 - n ≤ T)) -
      hl_sum (fun j => hl_t 1 (on j && decide (9 - n ≤ hm j) && hl_meet (bk j) (hl_reach on pk ot N P T g (hm j)))) 6
  | 0, _ => by
    have a : hl_sum (fun j => hl_t 1 (on j && g j && decide (9 - 0 ≤ ot j))) 6 = hl_sum (fun _ => 0) 6 := by
      apply hl_sum_congr
      intro j hj
      cases e : on j
      · simp [hl_t]
      · have := hot j hj e
        have q : ¬ (9 - 0 ≤ ot j) := by omega
        simp [q, hl_t]
    have b : hl_sum (fun j => hl_t 1 (on j && decide (9 - 0 ≤ hm j) && hl_meet (bk j) (hl_reach on pk ot N P T g (hm j)))) 6 = hl_sum (fun _ => 0) 6 := by
      apply hl_sum_congr
      intro j hj
      cases e : on j
      · simp [hl_t]
      · have := hhm j hj e
        have q : ¬ (9 - 0 ≤ hm j) := by omega
        simp [q, hl_t]
    have c : ¬ (9 - 0 ≤ T) := by omega
    rw [a, b]; simp [hl_ops, hl_d, c, hl_t]
  | n + 1, hn => by
    have ih := hl_d_ops hot hhm hT n (by omega)
    have hR : hl_R g (hl_fes on ot pk (8 - n) (hl_gon P (hl_ops on pk ot bk hm N P T n) (if 8 - n = T then N else 0)) 6)
        = hl_reach on pk ot N P T g (8 - n) := by
      funext s
      have k := hl_R_ops on pk ot bk hm N P T g hot hT s (n + 1) hn
      simp only [hl_ops, hl_R_brs] at k
      have e9 : 9 - (n + 1) = 8 - n := by omega
      rw [e9] at k
      exact k
    simp only [hl_ops, hl_d_brs, hl_d_fes, hl_d_gon, hR]
    rw [ih]
    have e9 : 9 - (n + 1) = 8 - n := by omega
    have e8 : 9 - n = 8 - n + 1 := by omega
    rw [e9, e8]
    generalize 8 - n = x
    have a : hl_sum (fun j => hl_t 1 (on j && g j && decide (x ≤ ot j))) 6 =
        hl_sum (fun j => hl_t 1 (on j && g j && decide (x + 1 ≤ ot j))) 6 + hl_sum (fun j => hl_t 1 (on j && decide (ot j = x) && g j)) 6 := by
      rw [← hl_sum_add]
      apply hl_sum_congr
      intro j hj
      rcases Nat.lt_trichotomy (ot j) x with q | q | q
      · have q1 : ¬ (x ≤ ot j) := by omega
        have q2 : ¬ (x + 1 ≤ ot j) := by omega
        have q3 : ¬ (ot j = x) := by omega
        cases on j <;> cases g j <;> simp [q1, q2, q3, hl_t]
      · subst q
        have w : ¬ (ot j + 1 ≤ ot j) := by omega
        cases on j <;> cases g j <;> simp [w, hl_t]
      · have q1 : x ≤ ot j := by omega
        have q2 : x + 1 ≤ ot j := by omega
        have q3 : ¬ (ot j = x) := by omega
        cases on j <;> cases g j <;> simp [q1, q2, q3, hl_t]
    have b : hl_sum (fun j => hl_t 1 (on j && decide (x ≤ hm j) && hl_meet (bk j) (hl_reach on pk ot N P T g (hm j)))) 6 =
        hl_sum (fun j => hl_t 1 (on j && decide (x + 1 ≤ hm j) && hl_meet (bk j) (hl_reach on pk ot N P T g (hm j)))) 6 +
        hl_sum (fun j => hl_t 1 (on j && decide (hm j = x) && hl_meet (bk j) (hl_reach on pk ot N P T g x))) 6 := by
      rw [← hl_sum_add]
      apply hl_sum_congr
      intro j hj
      rcases Nat.lt_trichotomy (hm j) x with q | q | q
      · have q1 : ¬ (x ≤ hm j) := by omega
        have q2 : ¬ (x + 1 ≤ hm j) := by omega
        have q3 : ¬ (hm j = x) := by omega
        simp [q1, q2, q3, hl_t]
      · subst q
        have w : ¬ (hm j + 1 ≤ hm j) := by omega
        simp [w, hl_t]
      · have q1 : x ≤ hm j := by omega
        have q2 : x + 1 ≤ hm j := by omega
        have q3 : ¬ (hm j = x) := by omega
        simp [q1, q2, q3, hl_t]
    have c : hl_t (hl_cnt g N) (decide (x ≤ T)) = hl_t (hl_cnt g N) (decide (x + 1 ≤ T)) + hl_cnt g (if x = T then N else 0) := by
      rcases Nat.lt_trichotomy T x with q | q | q
      · have q1 : ¬ (x ≤ T) := by omega
        have q2 : ¬ (x + 1 ≤ T) := by omega
        have q3 : ¬ (x = T) := by omega
        simp [q1, q2, q3, hl_t, hl_cnt]
      · subst q
        have w : ¬ (T + 1 ≤ T) := by omega
        simp [w, hl_t]
      · have q1 : x ≤ T := by omega
        have q2 : x + 1 ≤ T := by omega
        have q3 : ¬ (x = T) := by omega
        simp [q1, q2, q3, hl_t, hl_cnt]
    rw [a, b, c]; omega
end
