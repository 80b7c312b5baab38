-- what the reference's question asks, told by the slack of the choices
def an_rg (on : Nat → Bool) (q tm : Nat → Nat) : Prop :=
  ∀ j, j < 6 → on j = true → tm (2 * j) ≤ 8 ∧ tm (2 * j + 1) ≤ 8 ∧ 1 ≤ q (2 * j) ∧ q (2 * j) < 16 ∧ 1 ≤ q (2 * j + 1) ∧ q (2 * j + 1) < 16

theorem an_bit : ∀ b, b < 16 → 1 ≤ b → ∃ s, s < 4 ∧ b.testBit s = true := by decide

theorem an_st (st : Nat → Nat) : ∀ s, s < 4 → 0 ≤ xg_st st s := by
  intro s hs
  simp only [xg_st, if_pos hs]; omega

theorem an_hbk (on : Nat → Bool) (q tm : Nat → Nat) (rg : an_rg on q tm) : ∀ j, j < 6 → on j = true → ∃ s, s < 4 ∧ xg_bk q j s = true :=
  fun j hj o => an_bit _ (rg j hj o).2.2.2.2.2 (rg j hj o).2.2.2.2.1

theorem an_run (st : Nat → Nat) (on : Nat → Bool) (q tm : Nat → Nat) (rg : an_rg on q tm) :
    hl_run (fun _ => True) (hl_ops on (xg_pk q) (xg_ot tm) (xg_bk q) (xg_hm tm) 0 (Nat.testBit 0) 0 9) (xg_st st) ↔ xg_gd st on q tm := by
  rw [hs_plain (xg_st st) on (xg_pk q) (xg_ot tm) (xg_bk q) (xg_hm tm) (Nat.testBit 0) 0 (an_st st) (fun j hj o => (rg j hj o).1)
    (fun j hj o => (rg j hj o).2.1) (an_hbk on q tm rg) (by omega)]
  constructor
  · intro k g
    rw [← hs_sl_off _ _ _ _ _ _ (Nat.testBit 0) _ 0 _ g false (fun _ => rfl)]; exact k g
  · intro k g
    rw [hs_sl_off _ _ _ _ _ _ (Nat.testBit 0) (fun _ => false) 0 0 g false (fun _ => rfl)]; exact k g

theorem an_plain (st : Nat → Nat) (on : Nat → Bool) (q tm : Nat → Nat) (rg : an_rg on q tm) (s : Nat) (N : Int) :
    fl_ext (fl_go on (xg_pk q) (xg_ot tm) (xg_bk q) (xg_hm tm) 0 (Nat.testBit 0) 0 s N 9 9) 0 (xg_st st) ↔ xg_gd st on q tm :=
  Iff.trans (fl_plain on (xg_pk q) (xg_ot tm) (xg_bk q) (xg_hm tm) 0 (Nat.testBit 0) 0 s N 9 (by omega) (xg_st st)) (an_run st on q tm rg)

theorem an_good (st : Nat → Nat) (on : Nat → Bool) (q tm : Nat → Nat) (P : Nat → Bool) (T : Nat) (good : xg_gd st on q tm) :
    ∀ g, 0 ≤ hs_sl (xg_st st) on (xg_pk q) (xg_ot tm) (xg_bk q) (xg_hm tm) P T g false := by
  intro g
  rw [hs_sl_off _ _ _ _ _ _ P (fun _ => false) T 0 g false (fun _ => rfl)]; exact good g

theorem an_short (st : Nat → Nat) (on : Nat → Bool) (q tm : Nat → Nat) (rg : an_rg on q tm) (good : xg_gd st on q tm) (pick t n e : Nat) (hp1 : 1 ≤ pick) (hp : pick < 16)
    (ht : t ≤ 8) (hn : 1 ≤ n) (room : Int)
    (hr : ∀ z, (∀ g, z ≤ hs_sl (xg_st st) on (xg_pk q) (xg_ot tm) (xg_bk q) (xg_hm tm) pick.testBit t g true) ↔ z ≤ room) (s : Nat) (N : Int) :
    fl_ext (fl_go on (xg_pk q) (xg_ot tm) (xg_bk q) (xg_hm tm) n pick.testBit t s N 9 9) e (xg_st st) ↔ (n : Int) - e ≤ room :=
  Iff.trans (fl_ext_run _ _ (fun v => fl_plain on (xg_pk q) (xg_ot tm) (xg_bk q) (xg_hm tm) n pick.testBit t s N 9 (by omega) v) e (xg_st st))
    (Iff.trans (hs_more (xg_st st) on (xg_pk q) (xg_ot tm) (xg_bk q) (xg_hm tm) pick.testBit t n e hn (an_st st) (fun j hj o => (rg j hj o).1)
      (fun j hj o => (rg j hj o).2.1) (an_hbk on q tm rg) ht (an_bit pick hp hp1) (an_good st on q tm _ _ good)) (hr _))

theorem an_pow (s : Nat) : (fun i => decide (i = s)) = Nat.testBit (2 ^ s) := by
  funext i
  rw [Nat.testBit_two_pow]
  by_cases e : i = s
  · subst e; simp
  · have e' : ¬ s = i := fun z => e z.symm
    simp [e, e']

theorem an_pow_lt (s : Nat) (hs : s < 4) : 1 ≤ 2 ^ s ∧ 2 ^ s < 16 := by
  rcases hl_lt4 hs with e | e | e | e <;> subst e <;> decide

theorem an_spare (st : Nat → Nat) (on : Nat → Bool) (q tm : Nat → Nat) (rg : an_rg on q tm) (good : xg_gd st on q tm) (s x n : Nat) (hs : s < 4)
    (hx : x ≤ 8) (hn : 1 ≤ n) (room : Int)
    (hr : ∀ z, (∀ g, z ≤ hs_sl (xg_st st) on (xg_pk q) (xg_ot tm) (xg_bk q) (xg_hm tm) (2 ^ s).testBit x g true) ↔ z ≤ room) :
    fl_ext (fl_go on (xg_pk q) (xg_ot tm) (xg_bk q) (xg_hm tm) 0 (Nat.testBit 0) 0 s (n : Int) x 9) 0 (xg_st st) ↔ (n : Int) ≤ room := by
  have k := (fl_eq on (xg_pk q) (xg_ot tm) (xg_bk q) (xg_hm tm) (Nat.testBit 0) 0 s hs n hn x hx 9 (by omega)).2 (by omega) (xg_st st)
  rw [an_pow s] at k
  have m := hs_more (xg_st st) on (xg_pk q) (xg_ot tm) (xg_bk q) (xg_hm tm) (2 ^ s).testBit x n 0 hn (an_st st) (fun j hj o => (rg j hj o).1)
      (fun j hj o => (rg j hj o).2.1) (an_hbk on q tm rg) hx (an_bit _ (an_pow_lt s hs).2 (an_pow_lt s hs).1) (an_good st on q tm _ _ good)
  have z : (n : Int) - ((0 : Nat) : Int) = n := by omega
  rw [z] at m
  exact Iff.trans k (Iff.trans m (hr _))

-- slots i and 5 change places
def an_sw (i : Nat) (q : Nat → Nat) : Nat → Nat := fun e => q (2 * hs_sw i (e / 2) + e % 2)

theorem an_sw0 (i : Nat) (q : Nat → Nat) (j : Nat) : an_sw i q (2 * j) = q (2 * hs_sw i j) := by
  simp only [an_sw]
  have a : 2 * j / 2 = j := by omega
  have b : 2 * j % 2 = 0 := by omega
  rw [a, b]; rfl

theorem an_sw1 (i : Nat) (q : Nat → Nat) (j : Nat) : an_sw i q (2 * j + 1) = q (2 * hs_sw i j + 1) := by
  simp only [an_sw]
  have a : (2 * j + 1) / 2 = j := by omega
  have b : (2 * j + 1) % 2 = 1 := by omega
  rw [a, b]

theorem an_swap (st : Nat → Nat) (on : Nat → Bool) (q tm : Nat → Nat) (i : Nat) (hi : i < 5) :
    xg_gd st (fun j => on (hs_sw i j)) (an_sw i q) (an_sw i tm) ↔ xg_gd st on q tm := by
  have e1 : xg_pk (an_sw i q) = fun j => xg_pk q (hs_sw i j) := by funext j s; simp only [xg_pk, an_sw0]
  have e2 : xg_ot (an_sw i tm) = fun j => xg_ot tm (hs_sw i j) := by funext j; simp only [xg_ot, an_sw0]
  have e3 : xg_bk (an_sw i q) = fun j => xg_bk q (hs_sw i j) := by funext j s; simp only [xg_bk, an_sw1]
  have e4 : xg_hm (an_sw i tm) = fun j => xg_hm tm (hs_sw i j) := by funext j; simp only [xg_hm, an_sw1]
  simp only [xg_gd, e1, e2, e3, e4]
  constructor
  · intro k g
    have r := k (fun j => g (hs_sw i j))
    rw [hs_sl_sw _ on (xg_pk q) (xg_ot tm) (xg_bk q) (xg_hm tm) _ _ g false i hi] at r
    exact r
  · intro k g
    have r := k (fun j => g (hs_sw i j))
    rw [← hs_sl_sw _ on (xg_pk q) (xg_ot tm) (xg_bk q) (xg_hm tm) _ _ (fun j => g (hs_sw i j)) false i hi] at r
    simp only [hs_sw_sw] at r
    exact r

theorem an_sw_rg (on : Nat → Bool) (q tm : Nat → Nat) (i : Nat) (hi : i < 5) (rg : an_rg on q tm) : an_rg (fun j => on (hs_sw i j)) (an_sw i q) (an_sw i tm) := by
  intro j hj o
  rw [an_sw0, an_sw0, an_sw1, an_sw1]
  exact rg _ (hs_sw_lt i j hi hj) o

-- off slots do not matter
theorem an_congr (st st' : Nat → Nat) (on : Nat → Bool) (q q' tm tm' : Nat → Nat) (h0 : ∀ s, s < 4 → st s = st' s)
    (h1 : ∀ j, j < 6 → on j = true → q (2 * j) = q' (2 * j) ∧ q (2 * j + 1) = q' (2 * j + 1) ∧ tm (2 * j) = tm' (2 * j) ∧ tm (2 * j + 1) = tm' (2 * j + 1)) :
    xg_gd st on q tm ↔ xg_gd st' on q' tm' := by
  have k : ∀ g, hs_sl (xg_st st) on (xg_pk q) (xg_ot tm) (xg_bk q) (xg_hm tm) (fun _ => false) 0 g false =
      hs_sl (xg_st st') on (xg_pk q') (xg_ot tm') (xg_bk q') (xg_hm tm') (fun _ => false) 0 g false := by
    intro g
    apply hs_sl_congr
    · intro s hs; simp only [xg_st, if_pos hs, h0 s hs]
    · intro j hj o
      obtain ⟨a, b, c, d⟩ := h1 j hj o
      refine ⟨fun s _ => ?_, ?_, fun s _ => ?_, ?_⟩
      · simp only [xg_pk, a]
      · simp only [xg_ot, c]
      · simp only [xg_bk, b]
      · simp only [xg_hm, d]
    · intro z; cases z
  constructor
  · intro a g; rw [← k g]; exact a g
  · intro a g; rw [k g]; exact a g

theorem an_on (st : Nat → Nat) (on on' : Nat → Bool) (q tm : Nat → Nat) (h : ∀ j, j < 6 → on j = on' j) : xg_gd st on q tm ↔ xg_gd st on' q tm := by
  have k : ∀ g, hs_sl (xg_st st) on (xg_pk q) (xg_ot tm) (xg_bk q) (xg_hm tm) (fun _ => false) 0 g false =
      hs_sl (xg_st st) on' (xg_pk q) (xg_ot tm) (xg_bk q) (xg_hm tm) (fun _ => false) 0 g false := by
    intro g
    have r : ∀ y, hs_rc on (xg_pk q) (xg_ot tm) (fun _ => false) 0 g false y = hs_rc on' (xg_pk q) (xg_ot tm) (fun _ => false) 0 g false y := by
      intro y; funext s
      have o : hl_orr (fun j => on j && g j && decide (y ≤ xg_ot tm j) && xg_pk q j s) 6 = hl_orr (fun j => on' j && g j && decide (y ≤ xg_ot tm j) && xg_pk q j s) 6 :=
        hl_orr_congr _ _ (fun j hj => by rw [h j hj]) 6
      simp only [hs_rc, o]
    have s1 : hl_sum (fun j => hl_t 1 (on j && g j)) 6 = hl_sum (fun j => hl_t 1 (on' j && g j)) 6 := hl_sum_congr _ _ (fun j hj => by rw [h j hj]) 6
    have s2 : hl_sum (fun j => hl_t 1 (on j && hl_meet (xg_bk q j) (hs_rc on' (xg_pk q) (xg_ot tm) (fun _ => false) 0 g false (xg_hm tm j)))) 6 =
        hl_sum (fun j => hl_t 1 (on' j && hl_meet (xg_bk q j) (hs_rc on' (xg_pk q) (xg_ot tm) (fun _ => false) 0 g false (xg_hm tm j)))) 6 :=
      hl_sum_congr _ _ (fun j hj => by rw [h j hj]) 6
    simp only [hs_sl, r, s1, s2]
  constructor
  · intro a g; rw [← k g]; exact a g
  · intro a g; rw [k g]; exact a g

-- the first plan: end by end the least station for which there is a good plan
def fp_up (q : Nat → Nat) (e v : Nat) : Nat → Nat := fun i => if i = e then v else q i

noncomputable def fp_ls (Q : Nat → Prop) : Nat :=
  @ite _ (Q 0) (Classical.propDecidable _) 0 (@ite _ (Q 1) (Classical.propDecidable _) 1 (@ite _ (Q 2) (Classical.propDecidable _) 2 3))

theorem fp_ls_spec (Q : Nat → Prop) (h : ∃ s, s < 4 ∧ Q s) : fp_ls Q < 4 ∧ Q (fp_ls Q) ∧ ∀ s, s < fp_ls Q → ¬ Q s := by
  by_cases c0 : Q 0
  · have e : fp_ls Q = 0 := by unfold fp_ls; rw [if_pos c0]
    rw [e]; exact ⟨by omega, c0, fun s hs => by omega⟩
  · by_cases c1 : Q 1
    · have e : fp_ls Q = 1 := by unfold fp_ls; rw [if_neg c0, if_pos c1]
      rw [e]
      refine ⟨by omega, c1, fun s hs => ?_⟩
      have z : s = 0 := by omega
      rw [z]; exact c0
    · by_cases c2 : Q 2
      · have e : fp_ls Q = 2 := by unfold fp_ls; rw [if_neg c0, if_neg c1, if_pos c2]
        rw [e]
        refine ⟨by omega, c2, fun s hs => ?_⟩
        have z : s = 0 ∨ s = 1 := by omega
        rcases z with z | z <;> rw [z]
        · exact c0
        · exact c1
      · have e : fp_ls Q = 3 := by unfold fp_ls; rw [if_neg c0, if_neg c1, if_neg c2]
        rw [e]
        obtain ⟨s, hs, q⟩ := h
        refine ⟨by omega, ?_, fun s hs => ?_⟩
        · rcases hl_lt4 hs with z | z | z | z <;> subst z
          · exact absurd q c0
          · exact absurd q c1
          · exact absurd q c2
          · exact q
        · have z : s = 0 ∨ s = 1 ∨ s = 2 := by omega
          rcases z with z | z | z <;> rw [z]
          · exact c0
          · exact c1
          · exact c2

theorem fp_rg (on : Nat → Bool) (q tm : Nat → Nat) (e s : Nat) (hs : s < 4) (rg : an_rg on q tm) : an_rg on (fp_up q e (2 ^ s)) tm := by
  intro j hj o
  obtain ⟨a, b, c, d, f, g⟩ := rg j hj o
  have p := an_pow_lt s hs
  refine ⟨a, b, ?_, ?_, ?_, ?_⟩
  · simp only [fp_up]; split
    · exact p.1
    · exact c
  · simp only [fp_up]; split
    · exact p.2
    · exact d
  · simp only [fp_up]; split
    · exact p.1
    · exact f
  · simp only [fp_up]; split
    · exact p.2
    · exact g

theorem fp_ex (st : Nat → Nat) (on : Nat → Bool) (q tm : Nat → Nat) (rg : an_rg on q tm) (good : xg_gd st on q tm) (e : Nat) (he : e < 12) (ho : on (e / 2) = true) :
    ∃ s, s < 4 ∧ (q e).testBit s = true ∧ xg_gd st on (fp_up q e (2 ^ s)) tm := by
  have run := (an_run st on q tm rg).mpr good
  have r := rg (e / 2) (by omega) ho
  by_cases c : e % 2 = 0
  · obtain ⟨s, hs, hb, k⟩ := hl_nar_pk on (xg_pk q) (xg_ot tm) (xg_bk q) (xg_hm tm) 0 (Nat.testBit 0) 0 (xg_st st) (e / 2) (by omega) ho r.1 r.2.1 run
    have ee : 2 * (e / 2) = e := by omega
    refine ⟨s, hs, ?_, (an_run st on _ tm (fp_rg on q tm e s hs rg)).mp ?_⟩
    · simp only [xg_pk, ee] at hb; exact hb
    · have p1 : xg_pk (fp_up q e (2 ^ s)) = fun j => if j = e / 2 then (fun k => decide (k = s)) else xg_pk q j := by
        funext j k
        by_cases z : j = e / 2
        · subst z
          simp only [xg_pk, fp_up, ee, if_true]
          exact (congrFun (an_pow s) k).symm
        · have z2 : ¬ 2 * j = e := by omega
          simp only [xg_pk, fp_up, if_neg z, if_neg z2]
      have p2 : xg_bk (fp_up q e (2 ^ s)) = xg_bk q := by
        funext j k
        have z2 : ¬ 2 * j + 1 = e := by omega
        simp only [xg_bk, fp_up, if_neg z2]
      rw [p1, p2]; exact k
  · obtain ⟨s, hs, hb, k⟩ := hl_nar_bk on (xg_pk q) (xg_ot tm) (xg_bk q) (xg_hm tm) 0 (Nat.testBit 0) 0 (xg_st st) (e / 2) (by omega) ho r.1 r.2.1 run
    have ee : 2 * (e / 2) + 1 = e := by omega
    refine ⟨s, hs, ?_, (an_run st on _ tm (fp_rg on q tm e s hs rg)).mp ?_⟩
    · simp only [xg_bk, ee] at hb; exact hb
    · have p1 : xg_bk (fp_up q e (2 ^ s)) = fun j => if j = e / 2 then (fun k => decide (k = s)) else xg_bk q j := by
        funext j k
        by_cases z : j = e / 2
        · subst z
          simp only [xg_bk, fp_up, ee, if_true]
          exact (congrFun (an_pow s) k).symm
        · have z2 : ¬ 2 * j + 1 = e := by omega
          simp only [xg_bk, fp_up, if_neg z, if_neg z2]
      have p2 : xg_pk (fp_up q e (2 ^ s)) = xg_pk q := by
        funext j k
        have z2 : ¬ 2 * j = e := by omega
        simp only [xg_pk, fp_up, if_neg z2]
      rw [p1, p2]; exact k

-- station s of end e is one with a good plan
def fp_n (st : Nat → Nat) (on : Nat → Bool) (q tm : Nat → Nat) (e s : Nat) : Prop := (q e).testBit s = true ∧ xg_gd st on (fp_up q e (2 ^ s)) tm

noncomputable def fp_q (st : Nat → Nat) (on : Nat → Bool) (q tm : Nat → Nat) : Nat → Nat → Nat
  | 0 => q
  | e + 1 => if on (e / 2) = true then fp_up (fp_q st on q tm e) e (2 ^ fp_ls (fp_n st on (fp_q st on q tm e) tm e)) else fp_q st on q tm e

theorem fp_inv (st : Nat → Nat) (on : Nat → Bool) (q tm : Nat → Nat) (rg : an_rg on q tm) (good : xg_gd st on q tm) : ∀ e, e ≤ 12 →
    an_rg on (fp_q st on q tm e) tm ∧ xg_gd st on (fp_q st on q tm e) tm ∧ ∀ i, e ≤ i → fp_q st on q tm e i = q i
  | 0, _ => ⟨rg, good, fun _ _ => rfl⟩
  | e + 1, he => by
    obtain ⟨a, b, c⟩ := fp_inv st on q tm rg good e (by omega)
    simp only [fp_q]
    by_cases o : on (e / 2) = true
    · rw [if_pos o]
      have k := fp_ls_spec (fp_n st on (fp_q st on q tm e) tm e) (fp_ex st on _ tm a b e (by omega) o)
      refine ⟨fp_rg on _ tm e _ k.1 a, k.2.1.2, fun i hi => ?_⟩
      have z : ¬ i = e := by omega
      simp only [fp_up, if_neg z]; exact c i (by omega)
    · rw [if_neg o]; exact ⟨a, b, fun i hi => c i (by omega)⟩
