-- both states as pictures of one desk
def rl_X (cap h : Nat) (st q tm : Nat → Nat) (u : SX) : Prop := match u with
  | (f_capacity, f_held, a_stockAt, a_askedSet, a_endTime, a_openSet) => f_capacity = nI cap ∧ f_held = nI h ∧ (∀ s, s < 4 → a_stockAt s = nI (st s)) ∧
    ∀ e, e < 10 → a_askedSet e = nI (q e) ∧ a_openSet e = nI (q e) ∧ a_endTime e = nI (tm e)
def rl_Y (cap h : Nat) (st q tm : Nat → Nat) (v : SY) : Prop := match v with
  | (f_most, _, _, _, _, _, _, _, _, a_stocks, a_held, a_picks, a_outs, a_backs, a_homes, _, _, _, _, _, _) =>
    f_most = nI cap ∧ (∀ s, s < 4 → a_stocks s = nI (st s)) ∧ yw_B h q tm a_held a_picks a_outs a_backs a_homes

theorem iv_hi (x : Int32) (b : Nat) (hb : b < 1000) (h : nI (b + 1) ≤ x) : nI b < x ∧ ¬ x ≤ nI b ∧ ¬ x < 0 := by
  have e1 : (nI b).toInt = b := nI_toInt (by omega)
  have e2 : (nI (b + 1)).toInt = ((b + 1 : Nat) : Int) := nI_toInt (by omega)
  have e0 : (0 : Int32).toInt = 0 := by decide
  rw [Int32.le_iff_toInt_le, e2] at h
  rw [Int32.lt_iff_toInt_lt, Int32.le_iff_toInt_le, Int32.lt_iff_toInt_lt, e1, e0]
  exact ⟨by omega, by omega, by omega⟩

theorem iv_up (x : Int32) (a b : Nat) (hb : b < 1000) (hab : a ≤ b) (h : nI b < x) : nI a ≤ x ∧ ¬ x ≤ nI b := by
  have e1 : (nI b).toInt = b := nI_toInt (by omega)
  have e2 : (nI a).toInt = a := nI_toInt (by omega)
  rw [Int32.lt_iff_toInt_lt, e1] at h
  rw [Int32.le_iff_toInt_le, Int32.le_iff_toInt_le, e1, e2]
  exact ⟨by omega, by omega⟩

theorem iv_xst {st q tm : Nat → Nat} {cap h : Nat} {f_capacity f_held : Int32} {a_stockAt a_askedSet a_endTime a_openSet : Nat → Int32} (R : rl_R cap h st q tm) (X : rl_X cap h st q tm (f_capacity, f_held, a_stockAt, a_askedSet, a_endTime, a_openSet)) :
    xw_st st q tm a_stockAt a_endTime a_openSet :=
  ⟨fun s hs => ⟨X.2.2.1 s hs, R.2.2.2.1 s hs⟩, fun e he => ⟨(X.2.2.2 e he).2.1, (R.2.2.2.2.1 e he).1, (X.2.2.2 e he).2.2, (R.2.2.2.2.1 e he).2⟩⟩

section
variable {f_most f_extra f_gone f_goneSet f_goneAt f_floorAt f_floorFrom f_floor f_total : Int32}
  {a_stocks a_held a_picks a_outs a_backs a_homes a_on a_pick a_out a_back a_home a_spread : Nat → Int32}

theorem iv_small (x : Int32) : ∃ n : Nat, n ≤ 3 ∧ (∀ post : Int32 → Prop, post (nI n) → wpX_clamp post x 0 3) ∧
    (∀ (post : Int32 → Prop) (f_most f_extra f_gone f_goneSet f_goneAt f_floorAt f_floorFrom f_floor f_total : Int32) (a_stocks a_held a_picks a_outs a_backs a_homes a_on a_pick a_out a_back a_home a_spread : Nat → Int32), post (nI n) → wpY_small post (f_most, f_extra, f_gone, f_goneSet, f_goneAt, f_floorAt, f_floorFrom, f_floor, f_total, a_stocks, a_held, a_picks, a_outs, a_backs, a_homes, a_on, a_pick, a_out, a_back, a_home, a_spread) x) := by
  rcases rl_cl x 0 3 (by omega) (by omega) with h | h | ⟨n, h0, h3, rfl⟩
  · have c : ¬ (0 : Int32) ≤ x := Int32.not_le.mpr h
    refine ⟨0, by omega, fun post k => br_f c k, ?_⟩
    intros; exact br_f c ‹_›
  · have c := iv_up x 0 3 (by omega) (by omega) h
    refine ⟨3, by omega, fun post k => br_t c.1 (br_f c.2 k), ?_⟩
    intros; exact br_t c.1 (br_f c.2 ‹_›)
  · refine ⟨n, h3, fun post k => br_t (nI_pos' (by omega)) (br_t (nI_le (b := 3) h3 (by omega)) k), ?_⟩
    intros; exact br_t (nI_pos' (by omega)) (br_t (nI_le (b := 3) h3 (by omega)) ‹_›)

theorem iv_cap (x : Int32) : ∃ n : Nat, 1 ≤ n ∧ n < 6 ∧ (∀ post : Int32 → Prop, post (nI n) → wpX_clamp post x 1 5) ∧
    (∀ (post : SY → Prop) (p1 p2 p3 : Int32), wY_init_115 post p1 p2 p3 (nI n) 0 0 0 0 0 0 0 0 0 (fun _ => 0) (fun _ => 0) (fun _ => 0) (fun _ => 0) (fun _ => 0) (fun _ => 0) (fun _ => 0) (fun _ => 0) (fun _ => 0) (fun _ => 0) (fun _ => 0) (fun _ => 0) →
      wpY_init post x p1 p2 p3) := by
  rcases rl_cl x 1 5 (by omega) (by omega) with h | h | ⟨n, h0, h3, rfl⟩
  · have c : ¬ (1 : Int32) ≤ x := Int32.not_le.mpr h
    exact ⟨1, by omega, by omega, fun post k => br_f c k, fun post p1 p2 p3 k => br_f c k⟩
  · have c := iv_up x 1 5 (by omega) (by omega) h
    exact ⟨5, by omega, by omega, fun post k => br_t c.1 (br_f c.2 k), fun post p1 p2 p3 k => br_t c.1 (br_f c.2 k)⟩
  · exact ⟨n, h0, by omega, fun post k => br_t (nI_le (a := 1) h0 (by omega)) (br_t (nI_le (b := 5) h3 (by omega)) k),
      fun post p1 p2 p3 k => br_t (nI_le (a := 1) h0 (by omega)) (br_t (nI_le (b := 5) h3 (by omega)) k)⟩

-- could an end of booking i be at s
theorem yw_cpk {post : Int32 → SY → Prop} (cap h : Nat) (st q tm : Nat → Nat) (R : rl_R cap h st q tm) (hst : ∀ s, s < 4 → a_stocks s = nI (st s) ∧ st s ≤ 3)
    (B : yw_B h q tm a_held a_picks a_outs a_backs a_homes) (i s : Nat) (hi : i < 5) (hs : s < 4) (o : h.testBit i = true)
    (k1 : fp_n st h.testBit q tm (2 * i) s → ∀ ex gn fa ff fl on pk ou ba ho sp ft,
      post 1 (f_most, ex, gn, f_goneSet, f_goneAt, fa, ff, fl, ft, a_stocks, a_held, a_picks, a_outs, a_backs, a_homes, on, pk, ou, ba, ho, sp))
    (k0 : ¬ fp_n st h.testBit q tm (2 * i) s → ∀ ex gn fa ff fl on pk ou ba ho sp ft,
      post 0 (f_most, ex, gn, f_goneSet, f_goneAt, fa, ff, fl, ft, a_stocks, a_held, a_picks, a_outs, a_backs, a_homes, on, pk, ou, ba, ho, sp)) :
    wpY_couldPick post (f_most, f_extra, f_gone, f_goneSet, f_goneAt, f_floorAt, f_floorFrom, f_floor, f_total, a_stocks, a_held, a_picks, a_outs, a_backs, a_homes, a_on, a_pick, a_out, a_back, a_home, a_spread) (nI i) (nI s) := by
  have hh := rl_h R
  have rg := R.2.2.2.2.2.1
  have r := rg i (by omega) o
  have ci : (nI i).toNatClampNeg = i := nI_clamp (by omega)
  have v5 : vp_in (nI i) 5 := vp_in_nI hi (by omega)
  have v6 : vp_in (nI i) 6 := vp_in_nI (by omega) (by omega)
  have bi := (B i hi).2 o
  have b := tb_bit (q (2 * i)) (by omega) s (by omega)
  have pe : a_picks (nI i).toNatClampNeg = nI (q (2 * i)) := by rw [ci]; exact bi.1
  unfold wpY_couldPick
  refine yw_there h (fun j hj => (B j hj).1) i hi ?_
  rw [o]
  refine br_f (by decide) (br_f (nI_pos (by omega)) (br_f (nI_nlt (a := 3) (by omega) (by omega)) ⟨v5, ?_⟩))
  cases c : (q (2 * i)).testBit s
  · exact br_t (by rw [pe, b, c]; rfl) (k0 (fun z => by have z1 := z.1; rw [c] at z1; cases z1) _ _ _ _ _ _ _ _ _ _ _ _)
  · refine br_f (by rw [pe, b, c]; decide) (yw_ask h hh q tm B (fun on pk ou ba ho H => ⟨v6, nm_r (e' := upd pk i (nI (2 ^ s))) (by rw [ci, tb_sl s (by omega)]) ?_⟩))
    refine yw_plain h.testBit _ tm (yw_H_pk h.testBit q tm H i (2 ^ s) _ pk_us (fun j n => pk_un n)) (fp_rg h.testBit q tm (2 * i) s hs rg) st hst (fun g sp ft => ?_) (fun g sp ft => ?_)
    · exact ⟨rfl, k1 ⟨c, g⟩ _ _ _ _ _ _ _ _ _ _ sp ft⟩
    · exact ⟨rfl, k0 (fun z => g z.2) _ _ _ _ _ _ _ _ _ _ sp ft⟩

theorem yw_cbk {post : Int32 → SY → Prop} (cap h : Nat) (st q tm : Nat → Nat) (R : rl_R cap h st q tm) (hst : ∀ s, s < 4 → a_stocks s = nI (st s) ∧ st s ≤ 3)
    (B : yw_B h q tm a_held a_picks a_outs a_backs a_homes) (i s : Nat) (hi : i < 5) (hs : s < 4) (o : h.testBit i = true)
    (k1 : fp_n st h.testBit q tm (2 * i + 1) s → ∀ ex gn fa ff fl on pk ou ba ho sp ft,
      post 1 (f_most, ex, gn, f_goneSet, f_goneAt, fa, ff, fl, ft, a_stocks, a_held, a_picks, a_outs, a_backs, a_homes, on, pk, ou, ba, ho, sp))
    (k0 : ¬ fp_n st h.testBit q tm (2 * i + 1) s → ∀ ex gn fa ff fl on pk ou ba ho sp ft,
      post 0 (f_most, ex, gn, f_goneSet, f_goneAt, fa, ff, fl, ft, a_stocks, a_held, a_picks, a_outs, a_backs, a_homes, on, pk, ou, ba, ho, sp)) :
    wpY_couldReturn post (f_most, f_extra, f_gone, f_goneSet, f_goneAt, f_floorAt, f_floorFrom, f_floor, f_total, a_stocks, a_held, a_picks, a_outs, a_backs, a_homes, a_on, a_pick, a_out, a_back, a_home, a_spread) (nI i) (nI s) := by
  have hh := rl_h R
  have rg := R.2.2.2.2.2.1
  have r := rg i (by omega) o
  have ci : (nI i).toNatClampNeg = i := nI_clamp (by omega)
  have v5 : vp_in (nI i) 5 := vp_in_nI hi (by omega)
  have v6 : vp_in (nI i) 6 := vp_in_nI (by omega) (by omega)
  have bi := (B i hi).2 o
  have b := tb_bit (q (2 * i + 1)) (by omega) s (by omega)
  have pe : a_backs (nI i).toNatClampNeg = nI (q (2 * i + 1)) := by rw [ci]; exact bi.2.2.1
  unfold wpY_couldReturn
  refine yw_there h (fun j hj => (B j hj).1) i hi ?_
  rw [o]
  refine br_f (by decide) (br_f (nI_pos (by omega)) (br_f (nI_nlt (a := 3) (by omega) (by omega)) ⟨v5, ?_⟩))
  cases c : (q (2 * i + 1)).testBit s
  · exact br_t (by rw [pe, b, c]; rfl) (k0 (fun z => by have z1 := z.1; rw [c] at z1; cases z1) _ _ _ _ _ _ _ _ _ _ _ _)
  · refine br_f (by rw [pe, b, c]; decide) (yw_ask h hh q tm B (fun on pk ou ba ho H => ⟨v6, nm_r (e' := upd ba i (nI (2 ^ s))) (by rw [ci, tb_sl s (by omega)]) ?_⟩))
    refine yw_plain h.testBit _ tm (yw_H_bk h.testBit q tm H i (2 ^ s) _ pk_us (fun j n => pk_un n)) (fp_rg h.testBit q tm (2 * i + 1) s hs rg) st hst (fun g sp ft => ?_) (fun g sp ft => ?_)
    · exact ⟨rfl, k1 ⟨c, g⟩ _ _ _ _ _ _ _ _ _ _ sp ft⟩
    · exact ⟨rfl, k0 (fun z => g z.2) _ _ _ _ _ _ _ _ _ _ sp ft⟩

-- cancel's question
theorem yw_Hc (h : Nat) (hh : h < 32) (q tm : Nat → Nat) (i : Nat) (hi : i < 5) (H : yw_H h.testBit q tm a_on a_pick a_out a_back a_home) :
    yw_H (tb_c h i).testBit q tm (upd a_on i (zi_b false)) a_pick a_out a_back a_home := by
  intro j hj
  have z := H j hj
  rw [tb_c_bit h hh i hi j hj]
  by_cases c : j = i
  · subst c
    rw [decide_eq_true rfl, Bool.not_true, Bool.and_false]
    exact ⟨pk_us, fun w => by cases w⟩
  · rw [decide_eq_false c, Bool.not_false, Bool.and_true, pk_un c]; exact z
end
