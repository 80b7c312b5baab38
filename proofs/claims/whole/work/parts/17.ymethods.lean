-- the reference's own methods, each with what it leaves
theorem yw_n1 : vp_nar .boolean 1 = zi_b true := by decide
theorem yw_n0 : vp_nar .boolean 0 = zi_b false := by decide

section
variable {f_most f_extra f_gone f_goneSet f_goneAt f_floorAt f_floorFrom f_floor f_total : Int32}
  {a_stocks a_held a_picks a_outs a_backs a_homes a_on a_pick a_out a_back a_home a_spread : Nat → Int32}

def yw_B (h : Nat) (q tm : Nat → Nat) (a_held a_picks a_outs a_backs a_homes : Nat → Int32) : Prop :=
  ∀ j, j < 5 → a_held j = zi_b (h.testBit j) ∧
    (h.testBit j = true → a_picks j = nI (q (2 * j)) ∧ a_outs j = nI (tm (2 * j)) ∧ a_backs j = nI (q (2 * j + 1)) ∧ a_homes j = nI (tm (2 * j + 1)))

theorem yw_ask {post : SY → Prop} (h : Nat) (hh : h < 32) (q tm : Nat → Nat) (B : yw_B h q tm a_held a_picks a_outs a_backs a_homes)
    (k : ∀ on pk ou ba ho : Nat → Int32, yw_H h.testBit q tm on pk ou ba ho →
      post (f_most, 0, 0, f_goneSet, f_goneAt, 0, 9, 0, f_total, a_stocks, a_held, a_picks, a_outs, a_backs, a_homes, on, pk, ou, ba, ho, a_spread)) : wpY_ask post (f_most, f_extra, f_gone, f_goneSet, f_goneAt, f_floorAt, f_floorFrom, f_floor, f_total, a_stocks, a_held, a_picks, a_outs, a_backs, a_homes, a_on, a_pick, a_out, a_back, a_home, a_spread) := by
  have L : ∀ d n (on pk ou ba ho : Nat → Int32), d ≤ 5 → d < n →
      (∀ j, j < 5 - d → on j = zi_b (h.testBit j) ∧ (h.testBit j = true → pk j = nI (q (2 * j)) ∧ ou j = nI (tm (2 * j)) ∧ ba j = nI (q (2 * j + 1)) ∧ ho j = nI (tm (2 * j + 1)))) →
      wY_ask_2 post f_most f_extra f_gone f_goneSet f_goneAt f_floorAt f_floorFrom f_floor f_total n (nI (5 - d)) a_stocks a_held a_picks a_outs a_backs a_homes on pk ou ba ho a_spread := by
    intro d
    induction d with
    | zero =>
      intro n on pk ou ba ho _ hn I
      obtain ⟨m, rfl⟩ : ∃ m, n = m + 1 := ⟨n - 1, by omega⟩
      refine br_t (by decide) (nm_r (e' := upd on 5 (zi_b false)) (by rw [yw_n0]) (k _ pk ou ba ho fun j hj => ?_))
      by_cases c : j = 5
      · subst c
        have b5 := xg_b5 h hh 5 (by omega)
        refine ⟨by rw [b5]; exact pk_us, fun z => ?_⟩
        rw [b5] at z; cases z
      · have z := I j (by omega)
        exact ⟨(pk_un c).trans z.1, z.2⟩
    | succ d ih =>
      intro n on pk ou ba ho hd hn I
      obtain ⟨m, rfl⟩ : ∃ m, n = m + 1 := ⟨n - 1, by omega⟩
      have ih' := fun a b c e f => ih m a b c e f (by omega) (by omega)
      have e1 : 5 - (d + 1) = 4 - d := by omega
      have e2 : 5 - d = 4 - d + 1 := by omega
      rw [e1] at I ⊢
      rw [e2] at ih'
      have hi : 4 - d < 5 := by omega
      generalize 4 - d = i at ih' hi I ⊢
      have v5 : vp_in (nI i) 5 := vp_in_nI hi (by omega)
      have v6 : vp_in (nI i) 6 := vp_in_nI (by omega) (by omega)
      have ci : (nI i).toNatClampNeg = i := nI_clamp (by omega)
      have b := B i hi
      refine br_f (nI_ge (b := 5) hi (by decide)) ⟨v5, v6, nm_r (e' := upd on i (zi_b (h.testBit i))) (by rw [ci, b.1, zi_vn]) ⟨v5, v6,
        nm_r (e' := upd pk i (a_picks i)) (by rw [ci]) ⟨v5, v6, nm_r (e' := upd ou i (a_outs i)) (by rw [ci]) ⟨v5, v6,
        nm_r (e' := upd ba i (a_backs i)) (by rw [ci]) ⟨v5, v6, nm_r (e' := upd ho i (a_homes i)) (by rw [ci]) (nm_r (nI_1 i) (ih' _ _ _ _ _ fun j hj => ?_))⟩⟩⟩⟩⟩
      by_cases c : j = i
      · subst c
        refine ⟨pk_us, fun z => ?_⟩
        rw [pk_us, pk_us, pk_us, pk_us]; exact b.2 z
      · rw [pk_un c, pk_un c, pk_un c, pk_un c, pk_un c]; exact I j (by omega)
  exact ⟨6, L 5 6 a_on a_pick a_out a_back a_home (by omega) (by omega) (fun j hj => by omega)⟩

theorem yw_there {post : Int32 → Prop} (h : Nat) (hH : ∀ j, j < 5 → a_held j = zi_b (h.testBit j)) (i : Nat) (hi : i < 5) (k : post (zi_b (h.testBit i))) :
    wpY_there post (f_most, f_extra, f_gone, f_goneSet, f_goneAt, f_floorAt, f_floorFrom, f_floor, f_total, a_stocks, a_held, a_picks, a_outs, a_backs, a_homes, a_on, a_pick, a_out, a_back, a_home, a_spread) (nI i) := by
  have e : a_held (nI i).toNatClampNeg = zi_b (h.testBit i) := by rw [nI_clamp (by omega)]; exact hH i hi
  refine br_f (nI_pos (by omega)) (br_f (nI_ge (b := 5) hi (by decide)) ⟨vp_in_nI hi (by omega), ?_⟩)
  cases c : h.testBit i
  · rw [c] at k e; exact br_t (by rw [e]; rfl) k
  · rw [c] at k e; exact br_f (by rw [e]; decide) k

theorem yw_there_out {post : Int32 → Prop} (x : Int32) (o : x < 0 ∨ nI 5 ≤ x) (k : post 0) : wpY_there post (f_most, f_extra, f_gone, f_goneSet, f_goneAt, f_floorAt, f_floorFrom, f_floor, f_total, a_stocks, a_held, a_picks, a_outs, a_backs, a_homes, a_on, a_pick, a_out, a_back, a_home, a_spread) x := by
  by_cases c : x < 0
  · exact br_t c k
  · exact br_f c (br_t (o.resolve_left c) k)

theorem yw_plain {post : Int32 → SY → Prop} (on : Nat → Bool) (q tm : Nat → Nat) (H : yw_H on q tm a_on a_pick a_out a_back a_home) (rg : an_rg on q tm) (st : Nat → Nat)
    (hst : ∀ s, s < 4 → a_stocks s = nI (st s) ∧ st s ≤ 3)
    (k1 : xg_gd st on q tm → ∀ sp ft, post 1 (f_most, 0, 0, f_goneSet, f_goneAt, 0, 9, 0, ft, a_stocks, a_held, a_picks, a_outs, a_backs, a_homes, a_on, a_pick, a_out, a_back, a_home, sp))
    (k0 : ¬ xg_gd st on q tm → ∀ sp ft, post 0 (f_most, 0, 0, f_goneSet, f_goneAt, 0, 9, 0, ft, a_stocks, a_held, a_picks, a_outs, a_backs, a_homes, a_on, a_pick, a_out, a_back, a_home, sp)) :
    wpY_fits post (f_most, 0, 0, f_goneSet, f_goneAt, 0, 9, 0, f_total, a_stocks, a_held, a_picks, a_outs, a_backs, a_homes, a_on, a_pick, a_out, a_back, a_home, a_spread) := by
  have p := an_plain st on q tm rg 0 ((0 : Nat) : Int)
  exact yw_fits on q tm H rg st hst 0 0 0 0 0 0 9 (by omega) (by omega) (by omega) (by omega) (by omega) (by omega) (by omega) nI_0.symm nI_0.symm (fun z => absurd z (by omega))
    nI_0.symm rfl nI_0.symm (fun g => k1 (p.mp g)) (fun g => k0 (fun z => g (p.mpr z)))

-- narrowing an end of slot j
theorem yw_H_pk (on : Nat → Bool) (q tm : Nat → Nat) (H : yw_H on q tm a_on a_pick a_out a_back a_home) (j v : Nat) (P : Nat → Int32) (hj : P j = nI v) (hP : ∀ i, ¬ i = j → P i = a_pick i) :
    yw_H on (fp_up q (2 * j) v) tm a_on P a_out a_back a_home := by
  intro i hi
  have h := H i hi
  refine ⟨h.1, fun o => ?_⟩
  have e1 : ¬ 2 * i + 1 = 2 * j := by omega
  simp only [fp_up, if_neg e1]
  refine ⟨?_, (h.2 o).2⟩
  by_cases c : i = j
  · subst c; rw [if_pos rfl]; exact hj
  · have e2 : ¬ 2 * i = 2 * j := by omega
    rw [if_neg e2, hP i c]; exact (h.2 o).1

theorem yw_H_bk (on : Nat → Bool) (q tm : Nat → Nat) (H : yw_H on q tm a_on a_pick a_out a_back a_home) (j v : Nat) (P : Nat → Int32) (hj : P j = nI v) (hP : ∀ i, ¬ i = j → P i = a_back i) :
    yw_H on (fp_up q (2 * j + 1) v) tm a_on a_pick a_out P a_home := by
  intro i hi
  have h := H i hi
  refine ⟨h.1, fun o => ?_⟩
  have e1 : ¬ 2 * i = 2 * j + 1 := by omega
  simp only [fp_up, if_neg e1]
  have z := h.2 o
  refine ⟨z.1, z.2.1, ?_, z.2.2.2⟩
  by_cases c : i = j
  · subst c; rw [if_pos rfl]; exact hj
  · have e2 : ¬ 2 * i + 1 = 2 * j + 1 := by omega
    rw [if_neg e2, hP i c]; exact z.2.2.1

section
variable (on : Nat → Bool) (q tm st : Nat → Nat)

theorem yw_12 {post : SY → Prop} (H : yw_H on q tm a_on a_pick a_out a_back a_home) (rg : an_rg on q tm) (hst : ∀ s, s < 4 → a_stocks s = nI (st s) ∧ st s ≤ 3)
    (j : Nat) (hj : j < 6) (o : on j = true) (L : Nat) (hL : L < 4) (hn : fp_n st on q tm (2 * j) L) (hm : ∀ s, s < L → ¬ fp_n st on q tm (2 * j) s)
    (k : ∀ P sp ft, P j = nI (2 ^ L) → (∀ i, ¬ i = j → P i = a_pick i) →
      wY_settleOne_53 post (nI j) f_most 0 0 f_goneSet f_goneAt 0 9 0 ft a_stocks a_held a_picks a_outs a_backs a_homes a_on P a_out a_back a_home sp) :
    ∀ d n P sp ft, d ≤ L → d + 1 < n → (∀ i, ¬ i = j → P i = a_pick i) →
    wY_settleOne_12 post (nI j) (nI (q (2 * j))) n 0 (nI (L - d)) f_most 0 0 f_goneSet f_goneAt 0 9 0 ft a_stocks a_held a_picks a_outs a_backs a_homes a_on P a_out a_back a_home sp := by
  have vj : vp_in (nI j) 6 := vp_in_nI hj (by omega)
  have cj : (nI j).toNatClampNeg = j := nI_clamp (by omega)
  have r := rg j hj o
  have up : ∀ (P : Nat → Int32) (x : Int32), (∀ i, ¬ i = j → P i = a_pick i) → ∀ i, ¬ i = j → upd P j x i = a_pick i := fun P x hP i c => (pk_un c).trans (hP i c)
  intro d
  induction d with
  | zero =>
    intro n P sp ft _ hn' hP
    obtain ⟨m, rfl⟩ : ∃ m, n = m + 1 + 1 := ⟨n - 2, by omega⟩
    have b := tb_bit (q (2 * j)) (by omega) L (by omega)
    have c : (q (2 * j)).testBit L = true := hn.1
    rw [Nat.sub_zero]
    refine br_f (nI_ge (b := 4) hL (by decide)) (br_t rfl (br_t (by rw [b, c]; rfl) ⟨vj, nm_r (e' := upd P j (nI (2 ^ L))) (by rw [cj, tb_sl L (by omega)]) ?_⟩))
    refine yw_plain on _ tm (yw_H_pk on q tm H j (2 ^ L) _ pk_us (up P _ hP)) (fp_rg on q tm (2 * j) L hL rg) st hst (fun _ sp' ft' => ?_) (fun g => absurd hn.2 g)
    refine nm_r (nI_1 L) ?_
    have kk := k (upd P j (nI (2 ^ L))) sp' ft' pk_us (up P _ hP)
    by_cases c4 : 4 ≤ L + 1
    · exact br_t (nI_le (a := 4) c4 (by omega)) kk
    · exact br_f (nI_ge (b := 4) (by omega) (by decide)) (br_f (by decide) kk)
  | succ d ih =>
    intro n P sp ft hd hn' hP
    obtain ⟨m, rfl⟩ : ∃ m, n = m + 1 := ⟨n - 1, by omega⟩
    have ih' := fun a b c => ih m a b c (by omega) (by omega)
    have e2 : L - d = L - (d + 1) + 1 := by omega
    rw [e2] at ih'
    have hi : L - (d + 1) < L := by omega
    generalize L - (d + 1) = s at ih' hi ⊢
    have b := tb_bit (q (2 * j)) (by omega) s (by omega)
    cases c : (q (2 * j)).testBit s
    · exact br_f (nI_ge (b := 4) (by omega) (by decide)) (br_t rfl (br_f (by rw [b, c]; decide) (nm_r (nI_1 s) (ih' P sp ft hP))))
    · refine br_f (nI_ge (b := 4) (by omega) (by decide)) (br_t rfl (br_t (by rw [b, c]; rfl) ⟨vj, nm_r (e' := upd P j (nI (2 ^ s))) (by rw [cj, tb_sl s (by omega)]) ?_⟩))
      refine yw_plain on _ tm (yw_H_pk on q tm H j (2 ^ s) _ pk_us (up P _ hP)) (fp_rg on q tm (2 * j) s (by omega) rg) st hst (fun g => absurd ⟨c, g⟩ (hm s hi)) (fun _ sp' ft' => ?_)
      exact nm_r (nI_1 s) (ih' _ sp' ft' (up P _ hP))

theorem yw_65 {post : SY → Prop} (H : yw_H on q tm a_on a_pick a_out a_back a_home) (rg : an_rg on q tm) (hst : ∀ s, s < 4 → a_stocks s = nI (st s) ∧ st s ≤ 3)
    (j : Nat) (hj : j < 6) (o : on j = true) (L : Nat) (hL : L < 4) (hn : fp_n st on q tm (2 * j + 1) L) (hm : ∀ s, s < L → ¬ fp_n st on q tm (2 * j + 1) s)
    (k : ∀ P sp ft, P j = nI (2 ^ L) → (∀ i, ¬ i = j → P i = a_back i) →
      post (f_most, 0, 0, f_goneSet, f_goneAt, 0, 9, 0, ft, a_stocks, a_held, a_picks, a_outs, a_backs, a_homes, a_on, a_pick, a_out, P, a_home, sp)) :
    ∀ d n P sp ft, d ≤ L → d + 1 < n → (∀ i, ¬ i = j → P i = a_back i) →
    wY_settleOne_65 post (nI j) (nI (q (2 * j + 1))) n 0 (nI (L - d)) f_most 0 0 f_goneSet f_goneAt 0 9 0 ft a_stocks a_held a_picks a_outs a_backs a_homes a_on a_pick a_out P a_home sp := by
  have vj : vp_in (nI j) 6 := vp_in_nI hj (by omega)
  have cj : (nI j).toNatClampNeg = j := nI_clamp (by omega)
  have r := rg j hj o
  have up : ∀ (P : Nat → Int32) (x : Int32), (∀ i, ¬ i = j → P i = a_back i) → ∀ i, ¬ i = j → upd P j x i = a_back i := fun P x hP i c => (pk_un c).trans (hP i c)
  intro d
  induction d with
  | zero =>
    intro n P sp ft _ hn' hP
    obtain ⟨m, rfl⟩ : ∃ m, n = m + 1 + 1 := ⟨n - 2, by omega⟩
    have b := tb_bit (q (2 * j + 1)) (by omega) L (by omega)
    have c : (q (2 * j + 1)).testBit L = true := hn.1
    rw [Nat.sub_zero]
    refine br_f (nI_ge (b := 4) hL (by decide)) (br_t rfl (br_t (by rw [b, c]; rfl) ⟨vj, nm_r (e' := upd P j (nI (2 ^ L))) (by rw [cj, tb_sl L (by omega)]) ?_⟩))
    refine yw_plain on _ tm (yw_H_bk on q tm H j (2 ^ L) _ pk_us (up P _ hP)) (fp_rg on q tm (2 * j + 1) L hL rg) st hst (fun _ sp' ft' => ?_) (fun g => absurd hn.2 g)
    refine nm_r (nI_1 L) ?_
    have kk := k (upd P j (nI (2 ^ L))) sp' ft' pk_us (up P _ hP)
    by_cases c4 : 4 ≤ L + 1
    · exact br_t (nI_le (a := 4) c4 (by omega)) kk
    · exact br_f (nI_ge (b := 4) (by omega) (by decide)) (br_f (by decide) kk)
  | succ d ih =>
    intro n P sp ft hd hn' hP
    obtain ⟨m, rfl⟩ : ∃ m, n = m + 1 := ⟨n - 1, by omega⟩
    have ih' := fun a b c => ih m a b c (by omega) (by omega)
    have e2 : L - d = L - (d + 1) + 1 := by omega
    rw [e2] at ih'
    have hi : L - (d + 1) < L := by omega
    generalize L - (d + 1) = s at ih' hi ⊢
    have b := tb_bit (q (2 * j + 1)) (by omega) s (by omega)
    cases c : (q (2 * j + 1)).testBit s
    · exact br_f (nI_ge (b := 4) (by omega) (by decide)) (br_t rfl (br_f (by rw [b, c]; decide) (nm_r (nI_1 s) (ih' P sp ft hP))))
    · refine br_f (nI_ge (b := 4) (by omega) (by decide)) (br_t rfl (br_t (by rw [b, c]; rfl) ⟨vj, nm_r (e' := upd P j (nI (2 ^ s))) (by rw [cj, tb_sl s (by omega)]) ?_⟩))
      refine yw_plain on _ tm (yw_H_bk on q tm H j (2 ^ s) _ pk_us (up P _ hP)) (fp_rg on q tm (2 * j + 1) s (by omega) rg) st hst (fun g => absurd ⟨c, g⟩ (hm s hi)) (fun _ sp' ft' => ?_)
      exact nm_r (nI_1 s) (ih' _ sp' ft' (up P _ hP))

theorem yw_12s {post : SY → Prop} (H : yw_H on q tm a_on a_pick a_out a_back a_home) (rg : an_rg on q tm) (hst : ∀ s, s < 4 → a_stocks s = nI (st s) ∧ st s ≤ 3)
    (j : Nat) (hj : j < 6) (o : on j = true) (L : Nat) (hL : L < 4) (hn : fp_n st on q tm (2 * j) L) (hm : ∀ s, s < L → ¬ fp_n st on q tm (2 * j) s)
    (k : ∀ P sp ft, P j = nI (2 ^ L) → (∀ i, ¬ i = j → P i = a_pick i) → wY_settleOne_53 post (nI j) f_most 0 0 f_goneSet f_goneAt 0 9 0 ft a_stocks a_held a_picks a_outs a_backs a_homes a_on P a_out a_back a_home sp) :
    ∃ n, wY_settleOne_12 post (nI j) (nI (q (2 * j))) n 0 0 f_most 0 0 f_goneSet f_goneAt 0 9 0 f_total a_stocks a_held a_picks a_outs a_backs a_homes a_on a_pick a_out a_back a_home a_spread := by
  have z := yw_12 on q tm st H rg hst j hj o L hL hn hm k L 6 a_pick a_spread f_total (Nat.le_refl _) (by omega) (fun _ _ => rfl)
  rw [Nat.sub_self] at z
  exact ⟨6, z⟩

theorem yw_65s {post : SY → Prop} (H : yw_H on q tm a_on a_pick a_out a_back a_home) (rg : an_rg on q tm) (hst : ∀ s, s < 4 → a_stocks s = nI (st s) ∧ st s ≤ 3)
    (j : Nat) (hj : j < 6) (o : on j = true) (L : Nat) (hL : L < 4) (hn : fp_n st on q tm (2 * j + 1) L) (hm : ∀ s, s < L → ¬ fp_n st on q tm (2 * j + 1) s)
    (k : ∀ P sp ft, P j = nI (2 ^ L) → (∀ i, ¬ i = j → P i = a_back i) → post (f_most, 0, 0, f_goneSet, f_goneAt, 0, 9, 0, ft, a_stocks, a_held, a_picks, a_outs, a_backs, a_homes, a_on, a_pick, a_out, P, a_home, sp)) :
    ∃ n, wY_settleOne_65 post (nI j) (nI (q (2 * j + 1))) n 0 0 f_most 0 0 f_goneSet f_goneAt 0 9 0 f_total a_stocks a_held a_picks a_outs a_backs a_homes a_on a_pick a_out a_back a_home a_spread := by
  have z := yw_65 on q tm st H rg hst j hj o L hL hn hm k L 6 a_back a_spread f_total (Nat.le_refl _) (by omega) (fun _ _ => rfl)
  rw [Nat.sub_self] at z
  exact ⟨6, z⟩
end
end
