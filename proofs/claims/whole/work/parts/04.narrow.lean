def hl_ch (c : Bool → Nat → Nat) : List (Bool × Nat × (Nat → Bool)) → (Nat → Int) → Prop
  | [], _ => True
  | (true, j, B) :: r, v => c true j < 4 ∧ B (c true j) = true ∧ hl_ch c r (hl_up v (c true j) 1)
  | (false, j, B) :: r, v => c false j < 4 ∧ B (c false j) = true ∧ 1 ≤ v (c false j) ∧ hl_ch c r (hl_up v (c false j) (-1))

theorem hl_ch_run (c : Bool → Nat → Nat) : ∀ r v, hl_ch c r v → hl_run (fun _ => True) r v
  | [], _, _ => True.intro
  | (true, j, B) :: r, v, ⟨a, b, d⟩ => ⟨c true j, a, b, hl_ch_run c r _ d⟩
  | (false, j, B) :: r, v, ⟨a, b, e, d⟩ => ⟨c false j, a, b, e, hl_ch_run c r _ d⟩

theorem hl_ch_congr (c d : Bool → Nat → Nat) : ∀ (r : List (Bool × Nat × (Nat → Bool))) v, (∀ o, o ∈ r → c o.1 o.2.1 = d o.1 o.2.1) → hl_ch c r v → hl_ch d r v
  | [], _, _, _ => True.intro
  | (true, j, B) :: r, v, h, ⟨a, b, e⟩ => by
    have q : c true j = d true j := h (true, j, B) (List.mem_cons_self ..)
    rw [q] at a b e
    exact ⟨a, b, hl_ch_congr c d r _ (fun o ho => h o (List.mem_cons_of_mem _ ho)) e⟩
  | (false, j, B) :: r, v, h, ⟨a, b, f, e⟩ => by
    have q : c false j = d false j := h (false, j, B) (List.mem_cons_self ..)
    rw [q] at a b e f
    exact ⟨a, b, f, hl_ch_congr c d r _ (fun o ho => h o (List.mem_cons_of_mem _ ho)) e⟩

theorem hl_run_ch : ∀ (r : List (Bool × Nat × (Nat → Bool))) v, hl_n2 r → hl_run (fun _ => True) r v → ∃ c, hl_ch c r v
  | [], _, _, _ => ⟨fun _ _ => 0, True.intro⟩
  | (true, j, B) :: r, v, ⟨n1, n2⟩, ⟨s, a, b, h⟩ => by
    obtain ⟨c, hc⟩ := hl_run_ch r _ n2 h
    refine ⟨fun k i => if k = true ∧ i = j then s else c k i, ?_⟩
    have e : (if (true : Bool) = true ∧ j = j then s else c true j) = s := by simp
    simp only [hl_ch, and_self, if_true]
    refine ⟨a, b, hl_ch_congr c _ r _ (fun o ho => ?_) hc⟩
    have q : ¬ (o.1 = true ∧ o.2.1 = j) := fun z => n1 o ho z.1 z.2
    rw [if_neg q]
  | (false, j, B) :: r, v, ⟨n1, n2⟩, ⟨s, a, b, f, h⟩ => by
    obtain ⟨c, hc⟩ := hl_run_ch r _ n2 h
    refine ⟨fun k i => if k = false ∧ i = j then s else c k i, ?_⟩
    have e : (if (false : Bool) = false ∧ j = j then s else c false j) = s := by simp
    simp only [hl_ch, and_self, if_true]
    refine ⟨a, b, f, hl_ch_congr c _ r _ (fun o ho => ?_) hc⟩
    have q : ¬ (o.1 = false ∧ o.2.1 = j) := fun z => n1 o ho z.1 z.2
    rw [if_neg q]

theorem hl_ch_mem (c : Bool → Nat → Nat) : ∀ (r : List (Bool × Nat × (Nat → Bool))) v o, hl_ch c r v → o ∈ r → c o.1 o.2.1 < 4 ∧ o.2.2 (c o.1 o.2.1) = true
  | [], _, o, _, h => by simp at h
  | (true, j, B) :: r, v, o, ⟨a, b, d⟩, h => by
    rcases List.mem_cons.mp h with h | h
    · subst h; exact ⟨a, b⟩
    · exact hl_ch_mem c r _ o d h
  | (false, j, B) :: r, v, o, ⟨a, b, e, d⟩, h => by
    rcases List.mem_cons.mp h with h | h
    · subst h; exact ⟨a, b⟩
    · exact hl_ch_mem c r _ o d h

section
variable (c : Bool → Nat → Nat) (on : Nat → Bool) (pk qk : Nat → Nat → Bool) (ot : Nat → Nat) (bk ck : Nat → Nat → Bool) (hm : Nat → Nat)
  (N : Nat) (P : Nat → Bool) (T : Nat)

theorem hl_ch_brs (hb : ∀ j, j < 6 → on j = true → bk j (c true j) = true → ck j (c true j) = true) (x : Nat)
    (tl ul : List (Bool × Nat × (Nat → Bool))) (h : ∀ v, hl_ch c tl v → hl_ch c ul v) :
    ∀ n v, hl_ch c (hl_brs on hm bk x tl n) v → hl_ch c (hl_brs on hm ck x ul n) v
  | 0, v, hv => h v hv
  | n + 1, v, hv => by
    simp only [hl_brs] at hv ⊢
    split at hv
    · next q =>
      rw [if_pos q]
      obtain ⟨a, b, d⟩ := hv
      exact ⟨a, hb (5 - n) (by omega) q.1 b, hl_ch_brs hb x tl ul h n _ d⟩
    · next q =>
      rw [if_neg q]
      exact hl_ch_brs hb x tl ul h n v hv

theorem hl_ch_fes (hp : ∀ j, j < 6 → on j = true → pk j (c false j) = true → qk j (c false j) = true) (x : Nat)
    (tl ul : List (Bool × Nat × (Nat → Bool))) (h : ∀ v, hl_ch c tl v → hl_ch c ul v) :
    ∀ n v, hl_ch c (hl_fes on ot pk x tl n) v → hl_ch c (hl_fes on ot qk x ul n) v
  | 0, v, hv => h v hv
  | n + 1, v, hv => by
    simp only [hl_fes] at hv ⊢
    split at hv
    · next q =>
      rw [if_pos q]
      obtain ⟨a, b, e, d⟩ := hv
      exact ⟨a, hp (5 - n) (by omega) q.1 b, e, hl_ch_fes hp x tl ul h n _ d⟩
    · next q =>
      rw [if_neg q]
      exact hl_ch_fes hp x tl ul h n v hv

theorem hl_ch_gon (tl ul : List (Bool × Nat × (Nat → Bool))) (h : ∀ v, hl_ch c tl v → hl_ch c ul v) :
    ∀ n v, hl_ch c (hl_gon P tl n) v → hl_ch c (hl_gon P ul n) v
  | 0, v, hv => h v hv
  | n + 1, v, ⟨a, b, e, d⟩ => ⟨a, b, e, hl_ch_gon tl ul h n _ d⟩

theorem hl_ch_ops (hp : ∀ j, j < 6 → on j = true → pk j (c false j) = true → qk j (c false j) = true)
    (hb : ∀ j, j < 6 → on j = true → bk j (c true j) = true → ck j (c true j) = true) :
    ∀ n v, hl_ch c (hl_ops on pk ot bk hm N P T n) v → hl_ch c (hl_ops on qk ot ck hm N P T n) v
  | 0, _, _ => True.intro
  | n + 1, v, hv => by
    simp only [hl_ops] at hv ⊢
    exact hl_ch_brs c on bk ck hm hb _ _ _ (fun w => hl_ch_fes c on pk qk ot hp _ _ _
      (fun z => hl_ch_gon c P _ _ (fun y => hl_ch_ops hp hb n y) _ z) _ w) _ v hv

theorem hl_in_fes (j x : Nat) (hj : j < 6) (o1 : on j = true) (o2 : ot j = x) (tl : List (Bool × Nat × (Nat → Bool))) :
    ∀ n, 6 ≤ n + j → n ≤ 6 → (false, j, pk j) ∈ hl_fes on ot pk x tl n
  | 0, h, _ => by omega
  | n + 1, h, hn => by
    simp only [hl_fes]
    by_cases e : 5 - n = j
    · rw [e, if_pos ⟨o1, o2⟩]; exact List.mem_cons_self ..
    · have k := hl_in_fes j x hj o1 o2 tl n (by omega) (by omega)
      split
      · exact List.mem_cons_of_mem _ k
      · exact k

theorem hl_fes_tl (o : Bool × Nat × (Nat → Bool)) (x : Nat) (tl : List (Bool × Nat × (Nat → Bool))) (h : o ∈ tl) : ∀ n, o ∈ hl_fes on ot pk x tl n
  | 0 => h
  | n + 1 => by
    simp only [hl_fes]
    split
    · exact List.mem_cons_of_mem _ (hl_fes_tl o x tl h n)
    · exact hl_fes_tl o x tl h n

theorem hl_in_brs (j x : Nat) (hj : j < 6) (o1 : on j = true) (o2 : hm j = x) (tl : List (Bool × Nat × (Nat → Bool))) :
    ∀ n, 6 ≤ n + j → n ≤ 6 → (true, j, bk j) ∈ hl_brs on hm bk x tl n
  | 0, h, _ => by omega
  | n + 1, h, hn => by
    simp only [hl_brs]
    by_cases e : 5 - n = j
    · rw [e, if_pos ⟨o1, o2⟩]; exact List.mem_cons_self ..
    · have k := hl_in_brs j x hj o1 o2 tl n (by omega) (by omega)
      split
      · exact List.mem_cons_of_mem _ k
      · exact k

theorem hl_brs_tl (o : Bool × Nat × (Nat → Bool)) (x : Nat) (tl : List (Bool × Nat × (Nat → Bool))) (h : o ∈ tl) : ∀ n, o ∈ hl_brs on hm bk x tl n
  | 0 => h
  | n + 1 => by
    simp only [hl_brs]
    split
    · exact List.mem_cons_of_mem _ (hl_brs_tl o x tl h n)
    · exact hl_brs_tl o x tl h n

theorem hl_gon_tl (o : Bool × Nat × (Nat → Bool)) (tl : List (Bool × Nat × (Nat → Bool))) (h : o ∈ tl) : ∀ n, o ∈ hl_gon P tl n
  | 0 => h
  | n + 1 => List.mem_cons_of_mem _ (hl_gon_tl o tl h n)

theorem hl_in_ops (j : Nat) (hj : j < 6) (o1 : on j = true) (h1 : ot j ≤ 8) (h2 : hm j ≤ 8) : ∀ n, n ≤ 9 →
    (9 - n ≤ ot j → (false, j, pk j) ∈ hl_ops on pk ot bk hm N P T n) ∧ (9 - n ≤ hm j → (true, j, bk j) ∈ hl_ops on pk ot bk hm N P T n)
  | 0, _ => ⟨fun h => by omega, fun h => by omega⟩
  | n + 1, hn => by
    obtain ⟨ia, ib⟩ := hl_in_ops j hj o1 h1 h2 n (by omega)
    simp only [hl_ops]
    refine ⟨fun h => hl_brs_tl _ _ _ _ _ _ ?_ _, fun h => ?_⟩
    · by_cases e : ot j = 8 - n
      · exact hl_in_fes on pk ot j (8 - n) hj o1 e _ 6 (by omega) (by omega)
      · exact hl_fes_tl _ _ _ _ _ _ (hl_gon_tl _ _ _ (ia (by omega)) _) _
    · by_cases e : hm j = 8 - n
      · exact hl_in_brs on bk hm j (8 - n) hj o1 e _ 6 (by omega) (by omega)
      · exact hl_brs_tl _ _ _ _ _ _ (hl_fes_tl _ _ _ _ _ _ (hl_gon_tl _ _ _ (ib (by omega)) _) _) _
end

-- some station of slot i's pickup set can be held fast; so can one of its return set
theorem hl_nar_pk (on : Nat → Bool) (pk : Nat → Nat → Bool) (ot : Nat → Nat) (bk : Nat → Nat → Bool) (hm : Nat → Nat) (N : Nat) (P : Nat → Bool) (T : Nat)
    (v : Nat → Int) (i : Nat) (hi : i < 6) (o1 : on i = true) (h1 : ot i ≤ 8) (h2 : hm i ≤ 8) (h : hl_run (fun _ => True) (hl_ops on pk ot bk hm N P T 9) v) :
    ∃ s, s < 4 ∧ pk i s = true ∧ hl_run (fun _ => True) (hl_ops on (fun j => if j = i then (fun k => decide (k = s)) else pk j) ot bk hm N P T 9) v := by
  obtain ⟨c, hc⟩ := hl_run_ch _ v (hl_n2_ops on pk ot bk hm N P T 9 (by omega)) h
  have m := hl_ch_mem c _ v _ hc ((hl_in_ops on pk ot bk hm N P T i hi o1 h1 h2 9 (by omega)).1 (by omega))
  refine ⟨c false i, m.1, m.2, hl_ch_run c _ v (hl_ch_ops c on pk _ ot bk bk hm N P T (fun j hj oj hp => ?_) (fun j _ _ hb => hb) 9 v hc)⟩
  by_cases e : j = i
  · subst e; simp
  · simp only [if_neg e]; exact hp

theorem hl_nar_bk (on : Nat → Bool) (pk : Nat → Nat → Bool) (ot : Nat → Nat) (bk : Nat → Nat → Bool) (hm : Nat → Nat) (N : Nat) (P : Nat → Bool) (T : Nat)
    (v : Nat → Int) (i : Nat) (hi : i < 6) (o1 : on i = true) (h1 : ot i ≤ 8) (h2 : hm i ≤ 8) (h : hl_run (fun _ => True) (hl_ops on pk ot bk hm N P T 9) v) :
    ∃ s, s < 4 ∧ bk i s = true ∧ hl_run (fun _ => True) (hl_ops on pk ot (fun j => if j = i then (fun k => decide (k = s)) else bk j) hm N P T 9) v := by
  obtain ⟨c, hc⟩ := hl_run_ch _ v (hl_n2_ops on pk ot bk hm N P T 9 (by omega)) h
  have m := hl_ch_mem c _ v _ hc ((hl_in_ops on pk ot bk hm N P T i hi o1 h1 h2 9 (by omega)).2 (by omega))
  refine ⟨c true i, m.1, m.2, hl_ch_run c _ v (hl_ch_ops c on pk pk ot bk _ hm N P T (fun j _ _ hp => hp) (fun j hj oj hb => ?_) 9 v hc)⟩
  by_cases e : j = i
  · subst e; simp
  · simp only [if_neg e]; exact hb
