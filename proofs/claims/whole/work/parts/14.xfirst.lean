-- the landed methods that narrow a set and put it back
theorem xw_up {st q tm : Nat → Nat} {sa eT oS : Nat → Int32} (H : xw_st st q tm sa eT oS) (e s : Nat) (hs : s < 4) :
    xw_st st (fp_up q e (2 ^ s)) tm sa eT (upd oS e (nI (2 ^ s))) := by
  refine ⟨H.1, fun i hi => ?_⟩
  have o := H.2 i hi
  by_cases c : i = e
  · subst c
    simp only [fp_up, if_true]
    exact ⟨pk_us, (an_pow_lt s hs).2, o.2.2⟩
  · simp only [fp_up, if_neg c]
    exact ⟨(pk_un c).trans o.1, o.2⟩

theorem xw_back (a : Nat → Int32) (e : Nat) (x : Int32) : upd (upd a e x) e (a e) = a := by
  funext j
  by_cases c : j = e
  · subst c; exact pk_us
  · rw [pk_un c, pk_un c]

section
variable {post : Int32 → SX → Prop} (f_capacity : Int32) (a_stockAt a_askedSet a_endTime a_openSet : Nat → Int32) (st q tm : Nat → Nat)

theorem xw_could (H : xw_st st q tm a_stockAt a_endTime a_openSet) (h : Nat) (hh : h < 32) (e s : Nat) (he : e < 10) (hs : s < 4)
    (k1 : fp_n st h.testBit q tm e s → post 1 (f_capacity, nI h, a_stockAt, a_askedSet, a_endTime, a_openSet)) (k0 : ¬ fp_n st h.testBit q tm e s → post 0 (f_capacity, nI h, a_stockAt, a_askedSet, a_endTime, a_openSet)) :
    wpX_couldBeAt post (f_capacity, nI h, a_stockAt, a_askedSet, a_endTime, a_openSet) (nI e) (nI s) := by
  have q1 := H.2 e he
  have ce : (nI e).toNatClampNeg = e := nI_clamp (by omega)
  have vi : vp_in (nI e) 10 := vp_in_nI he (by omega)
  have b := tb_bit (q e) (by have := q1.2.1; omega) s (by omega)
  have sl := tb_sl s (by omega)
  refine ⟨vi, nm_r (e' := nI (q e)) (by rw [ce]; exact q1.1) ?_⟩
  cases c : (q e).testBit s
  · exact br_t (by rw [b, c]; rfl) (k0 fun z => by have z1 := z.1; rw [c] at z1; cases z1)
  · refine br_f (by rw [b, c]; decide) ⟨vi, nm_r (e' := upd a_openSet e (nI (2 ^ s))) (by rw [ce, sl]) ?_⟩
    have bk : upd (upd a_openSet e (nI (2 ^ s))) (nI e).toNatClampNeg (nI (q e)) = a_openSet := by
      rw [ce, ← q1.1]; exact xw_back _ _ _
    refine xw_good f_capacity a_stockAt a_askedSet a_endTime _ st _ tm (xw_up H e s hs) h hh (fun G => ?_) (fun G => ?_)
    · exact ⟨vi, nm_r bk ⟨rfl, k1 ⟨c, G⟩⟩⟩
    · exact ⟨vi, nm_r bk ⟨rfl, k0 fun z => G z.2⟩⟩

theorem xw_31 {J4 : Int32 → Int32 → Int32 → Int32 → (Nat → Int32) → (Nat → Int32) → (Nat → Int32) → (Nat → Int32) → Prop} (x1 x2 : Int32)
    (H : xw_st st q tm a_stockAt a_endTime a_openSet) (h : Nat) (hh : h < 32) (e : Nat) (he : e < 10) (L : Nat) (hL : L < 4)
    (hn : fp_n st h.testBit q tm e L) (hm : ∀ s, s < L → ¬ fp_n st h.testBit q tm e s)
    (k : J4 (nI L) (nI (e + 1)) f_capacity (nI h) a_stockAt a_askedSet a_endTime (upd a_openSet e (nI (2 ^ L)))) : ∀ d n, d ≤ L → d < n →
    wX_stationInFirstPlan_31 post J4 x1 x2 (nI e) n (nI (L - d)) f_capacity (nI h) a_stockAt a_askedSet a_endTime a_openSet := by
  intro d
  induction d with
  | zero =>
    intro n _ hn'
    obtain ⟨m, rfl⟩ : ∃ m, n = m + 1 := ⟨n - 1, by omega⟩
    refine br_f (nI_ge (b := 4) (by omega) (by decide)) (xw_could f_capacity a_stockAt a_askedSet a_endTime a_openSet st q tm H h hh e L he hL (fun _ => ?_) (fun z => absurd hn z))
    refine br_f (by decide) ⟨vp_in_nI he (by omega), nm_r (e' := upd a_openSet e (nI (2 ^ L))) ?_ (nm_r (nI_1 e) k)⟩
    rw [nI_clamp (by omega)]
    exact congrArg (upd a_openSet e) (tb_sl L (by omega))
  | succ d ih =>
    intro n hd hn'
    obtain ⟨m, rfl⟩ : ∃ m, n = m + 1 := ⟨n - 1, by omega⟩
    have ih' := ih m (by omega) (by omega)
    have e2 : L - d = L - (d + 1) + 1 := by omega
    rw [e2] at ih'
    have hi : L - (d + 1) < L := by omega
    generalize L - (d + 1) = i at ih' hi ⊢
    refine br_f (nI_ge (b := 4) (by omega) (by decide)) (xw_could f_capacity a_stockAt a_askedSet a_endTime a_openSet st q tm H h hh e i he (by omega) (fun z => absurd z (hm i hi)) (fun _ => ?_))
    exact br_t rfl (nm_r (nI_1 i) ih')

theorem xw_77 (x2 f_held : Int32) (k : ∀ oS : Nat → Int32, (∀ i, i < 10 → oS i = a_askedSet i) → post x2 (f_capacity, f_held, a_stockAt, a_askedSet, a_endTime, oS)) : ∀ d n oS, d ≤ 10 → d < n →
    (∀ i, i < 10 - d → oS i = a_askedSet i) → wX_stationInFirstPlan_77 post x2 f_capacity f_held n (nI (10 - d)) a_stockAt a_askedSet a_endTime oS := by
  intro d
  induction d with
  | zero =>
    intro n oS _ hn I
    obtain ⟨m, rfl⟩ : ∃ m, n = m + 1 := ⟨n - 1, by omega⟩
    exact br_t (by decide) (k oS I)
  | succ d ih =>
    intro n oS hd hn I
    obtain ⟨m, rfl⟩ : ∃ m, n = m + 1 := ⟨n - 1, by omega⟩
    have ih' := fun o => ih m o (by omega) (by omega)
    have e1 : 10 - (d + 1) = 9 - d := by omega
    have e2 : 10 - d = 9 - d + 1 := by omega
    rw [e1] at I ⊢
    rw [e2] at ih'
    have hi : 9 - d < 10 := by omega
    generalize 9 - d = i at ih' hi I ⊢
    have vi : vp_in (nI i) 10 := vp_in_nI hi (by omega)
    have ci : (nI i).toNatClampNeg = i := nI_clamp (by omega)
    refine br_f (nI_ge (b := 10) hi (by decide)) ⟨vi, vi, nm_r (e' := upd oS i (a_askedSet i)) (by rw [ci]) (nm_r (nI_1 i) (ih' _ fun j hj => ?_))⟩
    by_cases c : j = i
    · subst c; exact pk_us
    · rw [pk_un c]; exact I j (by omega)

theorem xw_held {post : Int32 → Prop} (h : Nat) (hh : h < 32) (i : Nat) (hi : i < 5) (k : post (zi_b (h.testBit i))) : wpX_isHeld post (f_capacity, nI h, a_stockAt, a_askedSet, a_endTime, a_openSet) (nI i) := by
  have b := tb_bit h hh i hi
  refine br_f (nI_pos (by omega)) (br_f (nI_ge (b := 5) hi (by decide)) ?_)
  cases c : h.testBit i
  · rw [c] at k; exact br_f (by rw [b, c]; decide) k
  · rw [c] at k; exact br_t (by rw [b, c]; rfl) k

theorem xw_first (H : xw_st st q tm a_stockAt a_endTime a_openSet) (h : Nat) (hh : h < 32) (rg : an_rg h.testBit q tm) (good : xg_gd st h.testBit q tm)
    (E : Nat) (hE : E < 10) (on : h.testBit (E / 2) = true)
    (k : ∀ oS : Nat → Int32, (∀ i, i < 10 → oS i = a_askedSet i) →
      post (nI (fp_ls (fp_n st h.testBit (fp_q st h.testBit q tm E) tm E))) (f_capacity, nI h, a_stockAt, a_askedSet, a_endTime, oS)) :
    wpX_stationInFirstPlan post (f_capacity, nI h, a_stockAt, a_askedSet, a_endTime, a_openSet) (nI E) := by
  have kk : ∀ oS : Nat → Int32, ∃ n, wX_stationInFirstPlan_77 post (nI (fp_ls (fp_n st h.testBit (fp_q st h.testBit q tm E) tm E))) f_capacity (nI h) n 0 a_stockAt a_askedSet a_endTime oS :=
    fun oS => ⟨11, xw_77 f_capacity a_stockAt a_askedSet a_endTime _ (nI h) k 10 11 oS (by omega) (by omega) (fun i hi => by omega)⟩
  have L : ∀ d n (x2 : Int32) (oS : Nat → Int32), d ≤ E → d + 1 < n → xw_st st (fp_q st h.testBit q tm (E - d)) tm a_stockAt a_endTime oS →
      wX_stationInFirstPlan_4 post (nI E) n x2 (nI (E - d)) f_capacity (nI h) a_stockAt a_askedSet a_endTime oS := by
    intro d
    induction d with
    | zero =>
      intro n x2 oS _ hn I
      obtain ⟨m, rfl⟩ : ∃ m, n = m + 1 + 1 := ⟨n - 2, by omega⟩
      have inv := fp_inv st h.testBit q tm rg good E (by omega)
      have sp := fp_ls_spec (fp_n st h.testBit (fp_q st h.testBit q tm E) tm E) (fp_ex st h.testBit _ tm inv.1 inv.2.1 E (by omega) on)
      have dv : nI E / 2 = nI (E / 2) := pk_div (d := 2) (by omega) (by omega) (by omega)
      refine br_f (nI_nlt (by omega) (by omega)) (br_f (nI_ge (b := 10) hE (by decide)) ⟨by decide, ?_⟩)
      rw [Nat.sub_zero]
      rw [Nat.sub_zero] at I
      rw [dv]
      refine xw_held f_capacity a_stockAt a_askedSet a_endTime oS h hh (E / 2) (by omega) ?_
      rw [on]
      refine br_f (by decide) ⟨5, ?_⟩
      have key := xw_31 (post := post) (J4 := wX_stationInFirstPlan_4 post (nI E) (m + 1)) f_capacity a_stockAt a_askedSet a_endTime oS st _ tm (nI E) x2 I h hh E hE _ sp.1 sp.2.1 sp.2.2
        (br_t (nI_lt (by omega) (by omega)) (kk _)) _ 5 (Nat.le_refl _) (by have := sp.1; omega)
      rw [Nat.sub_self] at key
      exact key
    | succ d ih =>
      intro n x2 oS hd hn I
      obtain ⟨m, rfl⟩ : ∃ m, n = m + 1 := ⟨n - 1, by omega⟩
      have ih' := fun x o => ih m x o (by omega) (by omega)
      have e2 : E - d = E - (d + 1) + 1 := by omega
      rw [e2] at ih'
      have hi : E - (d + 1) < E := by omega
      generalize E - (d + 1) = e at ih' hi I ⊢
      have inv := fp_inv st h.testBit q tm rg good e (by omega)
      have dv : nI e / 2 = nI (e / 2) := pk_div (d := 2) (by omega) (by omega) (by omega)
      refine br_f (nI_nlt (by omega) (by omega)) (br_f (nI_ge (b := 10) (by omega) (by decide)) ⟨by decide, ?_⟩)
      rw [dv]
      refine xw_held f_capacity a_stockAt a_askedSet a_endTime oS h hh (e / 2) (by omega) ?_
      simp only [fp_q] at ih'
      cases o : h.testBit (e / 2)
      · have no : ¬ h.testBit (e / 2) = true := by rw [o]; decide
        simp only [if_neg no] at ih'
        exact br_t rfl (nm_r (nI_1 e) (ih' x2 oS I))
      · simp only [if_pos o] at ih'
        have sp := fp_ls_spec (fp_n st h.testBit (fp_q st h.testBit q tm e) tm e) (fp_ex st h.testBit _ tm inv.1 inv.2.1 e (by omega) o)
        refine br_f (by decide) ⟨5, ?_⟩
        have key := xw_31 (post := post) (J4 := wX_stationInFirstPlan_4 post (nI E) m) f_capacity a_stockAt a_askedSet a_endTime oS st _ tm (nI E) x2 I h hh e (by omega) _ sp.1 sp.2.1 sp.2.2
          (ih' _ _ (xw_up I e _ sp.1)) _ 5 (Nat.le_refl _) (by have := sp.1; omega)
        rw [Nat.sub_self] at key
        exact key
  have z := L E (E + 2) (-1) a_openSet (Nat.le_refl _) (by omega) (by rw [Nat.sub_self]; exact H)
  rw [Nat.sub_self] at z
  exact ⟨_, z⟩
end
