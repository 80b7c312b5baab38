def i_Rel (k : Nat) (u : SX) (v : SY) : Prop := ∃ (cap h : Nat) (st q tm : Nat → Nat), rl_R cap h st q tm ∧ rl_X cap h st q tm u ∧ rl_Y cap h st q tm v

theorem i_up {k : Nat} {u : SX} {v : SY} (h : i_Rel k u v) : i_Rel (k + 5) u v := h

theorem i_vc0 (k0 : Int32) (k1 : Int32) (k2 : Int32) (k3 : Int32) : wpX_init (fun u => wpY_init (fun v => i_Rel 4 u v) k0 k1 k2 k3) k0 k1 k2 k3 := by
  obtain ⟨c, c1, c6, cX, cY⟩ := iv_cap k0
  obtain ⟨n1, h1, x1, y1⟩ := iv_small k1
  obtain ⟨n2, h2, x2, y2⟩ := iv_small k2
  obtain ⟨n3, h3, x3, y3⟩ := iv_small k3
  unfold wpX_init
  refine cX _ (x1 _ (nm_e (x2 _ (nm_e (x3 _ (nm_e ?_))))))
  refine cY _ _ _ _ ?_
  unfold wY_init_115
  refine y1 _ _ _ _ _ _ _ _ _ _ _ _ _ _ _ _ _ _ _ _ _ _ (nm_e (y2 _ _ _ _ _ _ _ _ _ _ _ _ _ _ _ _ _ _ _ _ _ _ (nm_e (y3 _ _ _ _ _ _ _ _ _ _ _ _ _ _ _ _ _ _ _ _ _ _ (nm_e ?_)))))
  have arr : ∀ s, s < 4 → upd (upd (upd (fun _ => 0) 0 (nI n1)) 1 (nI n2)) 2 (nI n3) s = nI ((fun s => if s = 0 then n1 else if s = 1 then n2 else if s = 2 then n3 else 0) s) := by
    intro s hs
    rcases hl_lt4 hs with e | e | e | e <;> subst e <;> rfl
  refine ⟨c, 0, fun s => if s = 0 then n1 else if s = 1 then n2 else if s = 2 then n3 else 0, fun _ => 0, fun _ => 0, rl_new c _ c1 c6 (fun s hs => ?_),
    ⟨rfl, rfl, arr, fun e he => ⟨rfl, rfl, rfl⟩⟩, ⟨rfl, arr, fun j hj => ⟨?_, fun z => ?_⟩⟩⟩
  · rcases hl_lt4 hs with e | e | e | e <;> subst e
    · exact h1
    · exact h2
    · exact h3
    · exact Nat.zero_le 3
  · rw [Nat.zero_testBit]; rfl
  · rw [Nat.zero_testBit] at z; cases z

theorem i_vc_book {k : Nat} {u : SX} {v : SY} (I : i_Rel k u v) (hk : k + 5 ≤ 2564) (v1 : Int32) (v2 : Int32) (v3 : Int32) (v4 : Int32) : wpX_book (fun r u' => wpY_book (fun r' v' => r' = r ∧ i_Rel (k + 5) u' v') v v1 v2 v3 v4) u v1 v2 v3 v4 := by
  obtain ⟨cap, h, st, q, tm, R, X, Y⟩ := I
  obtain ⟨f_capacity, f_held, a_stockAt, a_askedSet, a_endTime, a_openSet⟩ := u
  obtain ⟨f_most, f_extra, f_gone, f_goneSet, f_goneAt, f_floorAt, f_floorFrom, f_floor, f_total, a_stocks, a_held, a_picks, a_outs, a_backs, a_homes, a_on, a_pick, a_out, a_back, a_home, a_spread⟩ := v
  have HX := iv_xst R X
  obtain ⟨X1, X2, X3, X4⟩ := X
  obtain ⟨Y1, Y2, Y3⟩ := Y
  subst X1 X2 Y1
  have hh := rl_h R
  have hst : ∀ s, s < 4 → a_stocks s = nI (st s) ∧ st s ≤ 3 := fun s hs => ⟨Y2 s hs, R.2.2.2.1 s hs⟩
  by_cases bad : v1 < 1 ∨ 15 < v1 ∨ v3 < 1 ∨ 15 < v3 ∨ v2 < 0 ∨ v4 ≤ v2 ∨ ¬ v4 ≤ 8
  · refine xw_bad v1 v2 v3 v4 bad ?_
    unfold wpY_book wpY_probe
    refine yw_bad v1 v2 v3 v4 bad (br_f (by decide) (br_t (by decide) ⟨rfl, cap, h, st, q, tm, R, ⟨rfl, rfl, X3, X4⟩, ⟨rfl, Y2, Y3⟩⟩))
  · have b1 : ¬ v1 < 1 := fun z => bad (Or.inl z)
    have b2 : ¬ 15 < v1 := fun z => bad (Or.inr (Or.inl z))
    have b3 : ¬ v3 < 1 := fun z => bad (Or.inr (Or.inr (Or.inl z)))
    have b4 : ¬ 15 < v3 := fun z => bad (Or.inr (Or.inr (Or.inr (Or.inl z))))
    have b5 : ¬ v2 < 0 := fun z => bad (Or.inr (Or.inr (Or.inr (Or.inr (Or.inl z)))))
    have b6 : ¬ v4 ≤ v2 := fun z => bad (Or.inr (Or.inr (Or.inr (Or.inr (Or.inr (Or.inl z))))))
    have b7 : v4 ≤ 8 := Classical.byContradiction fun z => bad (Or.inr (Or.inr (Or.inr (Or.inr (Or.inr (Or.inr z))))))
    obtain ⟨p, hp1, hp, rfl⟩ := tb_arg (a := 1) (b := 15) (by omega) (by omega) (Int32.not_lt.mp b1) (Int32.not_lt.mp b2)
    obtain ⟨b, hb1, hb, rfl⟩ := tb_arg (a := 1) (b := 15) (by omega) (by omega) (Int32.not_lt.mp b3) (Int32.not_lt.mp b4)
    obtain ⟨t, u, htu, hu, rfl, rfl⟩ := tb_tu b5 b6 b7
    have ask : ∀ e, e < 10 → a_askedSet e = nI (q e) := fun e he => (X4 e he).1
    have opn : ∀ e, e < 10 → a_openSet e = nI (q e) := fun e he => (X4 e he).2.1
    have tim : ∀ e, e < 10 → a_endTime e = nI (tm e) := fun e he => (X4 e he).2.2
    have X4' : ∀ i, ∀ e, e < 10 → upd (upd a_askedSet (2 * i) (nI p)) (2 * i + 1) (nI b) e = nI (rl_q q i p b e) ∧ upd (upd a_openSet (2 * i) (nI p)) (2 * i + 1) (nI b) e = nI (rl_q q i p b e) ∧
        upd (upd a_endTime (2 * i) (nI t)) (2 * i + 1) (nI u) e = nI (rl_q tm i t u e) :=
      fun i e he => ⟨rl_upd _ q i p b ask e he, rl_upd _ q i p b opn e he, rl_upd _ tm i t u tim e he⟩
    have c6 := R.2.1
    refine xw_book cap h st q tm R HX p t b u hp1 (by omega) hb1 (by omega) htu hu (fun f => ?_) (fun lc g => ?_) (fun lc g => ?_)
    · unfold wpY_book
      refine yw_probe cap h st q tm R rfl hst Y3 p t b u hp1 (by omega) hb1 (by omega) htu hu (fun _ => ?_) (fun lc => absurd lc (by omega)) (fun lc => absurd lc (by omega))
      exact br_t (by decide) ⟨rfl, cap, h, st, q, tm, R, ⟨rfl, rfl, X3, X4⟩, ⟨rfl, Y2, Y3⟩⟩
    · unfold wpY_book
      refine yw_probe cap h st q tm R rfl hst Y3 p t b u hp1 (by omega) hb1 (by omega) htu hu (fun f => absurd lc (by omega)) (fun _ _ on pk ou ba ho sp ft => ?_) (fun _ ng => absurd g ng)
      have li : tb_lf h < 5 := by omega
      have R' := rl_set (tb_lf h) p t b u R lc hp1 (by omega) hb1 (by omega) (by omega) hu g
      generalize tb_lf h = i at lc li R' ⊢
      have v5 : vp_in (nI i) 5 := vp_in_nI li (by omega)
      have ci : (nI i).toNatClampNeg = i := nI_clamp (by omega)
      refine br_f (nI_pos (by omega)) (br_f (nI_ge (b := 5) li (by decide)) ⟨v5, nm_r (e' := upd a_held i (zi_b true)) (by rw [ci, yw_n1]) ⟨v5, nm_r (e' := upd a_picks i (nI p)) (by rw [ci]) ⟨v5,
        nm_r (e' := upd a_outs i (nI t)) (by rw [ci]) ⟨v5, nm_r (e' := upd a_backs i (nI b)) (by rw [ci]) ⟨v5, nm_r (e' := upd a_homes i (nI u)) (by rw [ci]) ?_⟩⟩⟩⟩⟩)
      refine ⟨rfl, cap, h ||| 2 ^ i, st, rl_q q i p b, rl_q tm i t u, R', ⟨rfl, rfl, X3, X4' i⟩, ⟨rfl, Y2, fun j hj => ?_⟩⟩
      by_cases c : j = i
      · subst c
        rw [rl_q0, rl_q0, rl_q1, rl_q1]
        refine ⟨?_, fun _ => ⟨pk_us, pk_us, pk_us, pk_us⟩⟩
        rw [tb_s_bit, decide_eq_true rfl, Bool.or_true]; exact pk_us
      · have c' : ¬ i = j := fun z => c z.symm
        rw [tb_s_bit, decide_eq_false c', Bool.or_false, rl_qn0 q i p b j c, rl_qn1 q i p b j c, rl_qn0 tm i t u j c, rl_qn1 tm i t u j c, pk_un c, pk_un c, pk_un c, pk_un c, pk_un c]
        exact Y3 j hj
    · unfold wpY_book
      refine yw_probe cap h st q tm R rfl hst Y3 p t b u hp1 (by omega) hb1 (by omega) htu hu (fun f => absurd lc (by omega)) (fun _ g' => absurd g' g) (fun _ _ on pk ou ba ho sp ft => ?_)
      have li : tb_lf h < 5 := by omega
      have R' := rl_over (tb_lf h) p t b u R (tb_lf_free h hh li) (by omega) (by omega) (by omega) hu
      have fr := tb_lf_free h hh li
      generalize tb_lf h = i at li R' fr ⊢
      refine br_t (by decide) ⟨rfl, cap, h, st, rl_q q i p b, rl_q tm i t u, R', ⟨rfl, rfl, X3, X4' i⟩, ⟨rfl, Y2, fun j hj => ⟨(Y3 j hj).1, fun o => ?_⟩⟩⟩
      have c : ¬ j = i := fun z => by rw [z, fr] at o; cases o
      rw [rl_qn0 q i p b j c, rl_qn1 q i p b j c, rl_qn0 tm i t u j c, rl_qn1 tm i t u j c]
      exact (Y3 j hj).2 o
