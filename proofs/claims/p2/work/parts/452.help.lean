/-! OWN, written by wip/p2/tools/mkhelp.py: the law's helpers -/
def f_L_advice (N : Nat) (s0 : Ob) (s1 : Ob) (s2 : Ob) (s3 : Ob) (s4 : Ob) (s5 : (Nat → Int64)) (p1 : Int32) : Option (Int32 × Ob × Ob × (Nat → Int64)) := (th (f_X7_advice N s0 s1 s2 s3 s4 p1) (ft_X7_advice N s0 s1 s2 p1) (fun x1 => (some ((0 : Int32), x1.2.1, x1.2.2, (vp_updL s5 0 (x1.1).toInt64)))) (fun e2 => (if e2 = 2 then (some ((1 : Int32), s3, s4, s5)) else none)))
theorem m_L_advice {g : Gp} {a0 : Nat} {a2 : Nat} {r0 : Nat → Nat} {r1 : Nat → Nat} {q1_0 : Nat} {r2 : Nat → Nat} {r3 : Nat → Nat} {r4 : Nat → Nat} {N : Nat} {s0 : Ob} {s1 : Ob} {s2 : Ob} {s3 : Ob} {s4 : Ob} {s5 : (Nat → Int64)} {p1 : Int32} {res : Int32 × Ob × Ob × (Nat → Int64)} (hg : Ok g) (h : f_L_advice N s0 s1 s2 s3 s4 s5 p1 = some res) : Ctw g yL_advice cL_advice 4 (some .int) [(0, 9, 12, 13)] (zrc 7 1 6 167) [.ref a0, .int p1, .ref a2] (wX7 g a0 r0 s0 ++ wX1 g (r0 3) r1 q1_0 s1 ++ wX5 g q1_0 r2 s2 ++ wX0 g (r0 11) r3 (r0 10) s3 ++ wX2 g (r0 10) r4 s4 ++ wAJ g a2 1 s5) (exR (some (.int res.1)) (wX7 g a0 r0 s0 ++ wX1 g (r0 3) r1 q1_0 s1 ++ wX5 g q1_0 r2 s2 ++ wX0 g (r0 11) r3 (r0 10) res.2.1 ++ wX2 g (r0 10) r4 res.2.2.1 ++ wAJ g a2 1 res.2.2.2)) := by
  refine ctw_of rfl hg (by show _ ≤ _; exact Nat.le_of_ble_eq_true rfl) (fun K C Xt X => ?_)
  show Zs K 0 0 (wX7 g a0 r0 s0 ++ wX1 g (r0 3) r1 q1_0 s1 ++ wX5 g q1_0 r2 s2 ++ wX0 g (r0 11) r3 (r0 10) s3 ++ wX2 g (r0 10) r4 s4 ++ wAJ g a2 1 s5) [(0, .ref a0), (1, .int p1), (2, .ref a2)] 0 []
  unfold f_L_advice at h
  refine z_aload_n (pc := 0) (x := a2) C dL_advice_0 (i := 2) rfl rfl ?_
  refine z_iconst (pc := 1) C dL_advice_1 ic_0 ?_
  refine z_aload_n (pc := 2) (x := a0) C dL_advice_2 (i := 0) rfl rfl ?_
  refine z_iload_n (pc := 3) (x := p1) C dL_advice_3 (i := 1) rfl rfl ?_
  rcases th_e h with ⟨x1, hx1, h⟩ | ⟨e2, he2, h⟩
  · refine z_callV (pc := 4) (As := [.int p1]) (rest := [.int (0 : Int32), .ref a2]) (wr := (wAJ g a2 1 s5)) C dL_advice_4 ml_RL_74 wv_X7_advice (m_X7_advice (a0 := a0) (r0 := r0) (r1 := r1) (q1_0 := q1_0) (r2 := r2) (r3 := r3) (r4 := r4) hg hx1) [0, 1, 2, 3, 4, 5, 6, 7, 8, 9, 10, 11, 12, 13, 14, 15, 16, 17, 18, 19] [20] rfl rfl ⟨by decide, by decide⟩ (Nat.le_of_ble_eq_true rfl) ⟨by decide, by decide⟩ rfl rfl rfl rfl rfl rfl rfl (by decide) (ex_k C (cs' := 0) (ss' := 0) (wF := (wX7 g a0 r0 s0 ++ wX1 g (r0 3) r1 q1_0 s1 ++ wX5 g q1_0 r2 s2 ++ wX0 g (r0 11) r3 (r0 10) x1.2.1 ++ wX2 g (r0 10) r4 x1.2.2 ++ wAJ g a2 1 s5)) [1, 2, 3, 4, 5, 6, 7, 8, 9, 10, 11, 12, 13, 14, 15, 16, 17, 18, 19, 20, 0] rfl rfl ?_)
    refine z_i2l (pc := 7) C dL_advice_7 ?_
    refine z_last (pc := 8) C 20 dL_advice_8 rfl (by decide) (ws' := (wX7 g a0 r0 s0 ++ wX1 g (r0 3) r1 q1_0 s1 ++ wX5 g q1_0 r2 s2 ++ wX0 g (r0 11) r3 (r0 10) x1.2.1 ++ wX2 g (r0 10) r4 x1.2.2 ++ wAJ g a2 1 (vp_updL s5 0 (x1.1).toInt64))) rfl ?_
    refine z_goto (pc := 9) C dL_advice_9 (tgt := 15) (by decide) ?_
    refine z_iconst (pc := 15) C dL_advice_15 ic_0 ?_
    exact z_iret C X dL_advice_16 (by rw [← Option.some.inj h]; exact ⟨rfl, rfl⟩) (by decide) (by decide)
  · refine (Decidable.em (e2 = 2)).elim (fun he => ?_) (fun hn => ?_)
    · subst he
      replace h := (ite_e h).1 rfl
      refine z_callVC (pc := 4) (E := "java/lang/IllegalArgumentException") (As := [.int p1]) (rest := [.int (0 : Int32), .ref a2]) (wr := (wX0 g (r0 11) r3 (r0 10) s3 ++ wX2 g (r0 10) r4 s4 ++ wAJ g a2 1 s5)) C Xt dL_advice_4 ml_RL_74 wv_X7_advice (mt_X7_advice (a0 := a0) (r0 := r0) (r1 := r1) (q1_0 := q1_0) (r2 := r2) hg he2) [0, 1, 2, 3, 4, 5, 6, 7, 8, 9, 10, 11, 12, 13, 14, 15, 16] [17, 18, 19, 20] rfl rfl ⟨by decide, by decide⟩ (Nat.le_of_ble_eq_true rfl) ⟨by decide, by decide⟩ rfl rfl rfl rfl rfl rfl rfl (by decide) [] (0, 9, 12, 13) [] rfl (fun z h => nomatch h) (by decide) (by decide) cll_13 cst_2 (fun qx => ?_)
      refine z_sub (ws' := (wX7 g a0 r0 s0 ++ wX1 g (r0 3) r1 q1_0 s1 ++ wX5 g q1_0 r2 s2 ++ wX0 g (r0 11) r3 (r0 10) s3 ++ wX2 g (r0 10) r4 s4 ++ wAJ g a2 1 s5)) C [4, 5, 6, 7, 8, 9, 10, 11, 12, 13, 14, 15, 16, 17, 18, 19, 20, 0, 1, 2, 3] rfl rfl ?_
      refine z_to (ws' := (wX7 g a0 r0 s0 ++ wX1 g (r0 3) r1 q1_0 s1 ++ wX5 g q1_0 r2 s2 ++ wX0 g (r0 11) r3 (r0 10) s3 ++ wX2 g (r0 10) r4 s4 ++ wAJ g a2 1 s5)) (lv' := [(0, .ref a0), (1, .int p1), (2, .ref a2)]) (pc' := 12) (st' := [.ref qx]) (z_widen (cs' := 1) (ss' := 6) (by decide) (by decide) ?_) rfl rfl rfl rfl
      refine z_astore_n (pc := 12) C dL_advice_12 (i := 3) rfl (by decide) (lv' := [(3, .ref qx), (0, .ref a0), (1, .int p1), (2, .ref a2)]) rfl ?_
      refine z_iconst (pc := 13) C dL_advice_13 ic_1 ?_
      exact z_iret C X dL_advice_14 (by rw [← Option.some.inj h]; exact ⟨rfl, rfl⟩) (by decide) (by decide)
    replace h := (ite_e h).2 hn
    exact nomatch h
def f_L_bestMove (N : Nat) (q1_0 : Nat) (q4_0 : Nat) (q5_0 : Nat) (s0 : Ob) (s1 : Ob) (s2 : Ob) (s3 : Ob) (s4 : Ob) (s5 : Ob) (s6 : (Nat → Int64)) (p1 : Int32) : Option (Int32 × Ob × Ob × Ob × (Nat → Int64) × Nat × Nat) := (th (f_X7_bestMove N s0 s1 s2 s3 s4 s5 p1) (ft_X7_bestMove N s0 s1 s2 p1) (fun x1 => (some ((0 : Int32), x1.2.1, x1.2.2.1, x1.2.2.2.1, (vp_updL s6 0 (x1.1).toInt64), (bif x1.2.2.2.2 then q1_0 else q4_0), (bif x1.2.2.2.2 then q1_0 else q5_0)))) (fun e2 => (if e2 = 2 then (some ((1 : Int32), s3, s4, s5, s6, q4_0, q5_0)) else none)))
theorem m_L_bestMove {g : Gp} {a0 : Nat} {a2 : Nat} {r0 : Nat → Nat} {r1 : Nat → Nat} {r2 : Nat → Nat} {r3 : Nat → Nat} {r4 : Nat → Nat} {r5 : Nat → Nat} {N : Nat} {q1_0 : Nat} {q4_0 : Nat} {q5_0 : Nat} {s0 : Ob} {s1 : Ob} {s2 : Ob} {s3 : Ob} {s4 : Ob} {s5 : Ob} {s6 : (Nat → Int64)} {p1 : Int32} {res : Int32 × Ob × Ob × Ob × (Nat → Int64) × Nat × Nat} (hg : Ok g) (h : f_L_bestMove N q1_0 q4_0 q5_0 s0 s1 s2 s3 s4 s5 s6 p1 = some res) : Ctw g yL_bestMove cL_bestMove 4 (some .int) [(0, 9, 12, 13)] (zrc 8 1 6 181) [.ref a0, .int p1, .ref a2] (wX7 g a0 r0 s0 ++ wX1 g (r0 3) r1 q1_0 s1 ++ wX5 g q1_0 r2 s2 ++ wX6 g (r0 12) r3 s3 ++ wX3 g (r3 8) r4 q4_0 s4 ++ wX3 g (r3 9) r5 q5_0 s5 ++ wAJ g a2 1 s6) (exR (some (.int res.1)) (wX7 g a0 r0 s0 ++ wX1 g (r0 3) r1 q1_0 s1 ++ wX5 g q1_0 r2 s2 ++ wX6 g (r0 12) r3 res.2.1 ++ wX3 g (r3 8) r4 res.2.2.2.2.2.1 res.2.2.1 ++ wX3 g (r3 9) r5 res.2.2.2.2.2.2 res.2.2.2.1 ++ wAJ g a2 1 res.2.2.2.2.1)) := by
  refine ctw_of rfl hg (by show _ ≤ _; exact Nat.le_of_ble_eq_true rfl) (fun K C Xt X => ?_)
  show Zs K 0 0 (wX7 g a0 r0 s0 ++ wX1 g (r0 3) r1 q1_0 s1 ++ wX5 g q1_0 r2 s2 ++ wX6 g (r0 12) r3 s3 ++ wX3 g (r3 8) r4 q4_0 s4 ++ wX3 g (r3 9) r5 q5_0 s5 ++ wAJ g a2 1 s6) [(0, .ref a0), (1, .int p1), (2, .ref a2)] 0 []
  unfold f_L_bestMove at h
  refine z_aload_n (pc := 0) (x := a2) C dL_bestMove_0 (i := 2) rfl rfl ?_
  refine z_iconst (pc := 1) C dL_bestMove_1 ic_0 ?_
  refine z_aload_n (pc := 2) (x := a0) C dL_bestMove_2 (i := 0) rfl rfl ?_
  refine z_iload_n (pc := 3) (x := p1) C dL_bestMove_3 (i := 1) rfl rfl ?_
  rcases th_e h with ⟨x1, hx1, h⟩ | ⟨e2, he2, h⟩
  · refine z_callV (pc := 4) (As := [.int p1]) (rest := [.int (0 : Int32), .ref a2]) (wr := (wAJ g a2 1 s6)) C dL_bestMove_4 ml_RL_83 wv_X7_bestMove (m_X7_bestMove (a0 := a0) (r0 := r0) (r1 := r1) (q1_0 := q1_0) (r2 := r2) (r3 := r3) (r4 := r4) (q4_0 := q4_0) (r5 := r5) (q5_0 := q5_0) hg hx1) [0, 1, 2, 3, 4, 5, 6, 7, 8, 9, 10, 11, 12, 13, 14, 15, 16, 17, 18, 19, 20, 21, 22, 23, 24, 25, 26] [27] rfl rfl ⟨by decide, by decide⟩ (Nat.le_of_ble_eq_true rfl) ⟨by decide, by decide⟩ rfl rfl rfl rfl rfl rfl rfl (by decide) (ex_k C (cs' := 0) (ss' := 0) (wF := (wX7 g a0 r0 s0 ++ wX1 g (r0 3) r1 q1_0 s1 ++ wX5 g q1_0 r2 s2 ++ wX6 g (r0 12) r3 x1.2.1 ++ wX3 g (r3 8) r4 (bif x1.2.2.2.2 then q1_0 else q4_0) x1.2.2.1 ++ wX3 g (r3 9) r5 (bif x1.2.2.2.2 then q1_0 else q5_0) x1.2.2.2.1 ++ wAJ g a2 1 s6)) [1, 2, 3, 4, 5, 6, 7, 8, 9, 10, 11, 12, 13, 14, 15, 16, 17, 18, 19, 20, 21, 22, 23, 24, 25, 26, 27, 0] rfl rfl ?_)
    refine z_i2l (pc := 7) C dL_bestMove_7 ?_
    refine z_last (pc := 8) C 27 dL_bestMove_8 rfl (by decide) (ws' := (wX7 g a0 r0 s0 ++ wX1 g (r0 3) r1 q1_0 s1 ++ wX5 g q1_0 r2 s2 ++ wX6 g (r0 12) r3 x1.2.1 ++ wX3 g (r3 8) r4 (bif x1.2.2.2.2 then q1_0 else q4_0) x1.2.2.1 ++ wX3 g (r3 9) r5 (bif x1.2.2.2.2 then q1_0 else q5_0) x1.2.2.2.1 ++ wAJ g a2 1 (vp_updL s6 0 (x1.1).toInt64))) rfl ?_
    refine z_goto (pc := 9) C dL_bestMove_9 (tgt := 15) (by decide) ?_
    refine z_iconst (pc := 15) C dL_bestMove_15 ic_0 ?_
    exact z_iret C X dL_bestMove_16 (by rw [← Option.some.inj h]; exact ⟨rfl, rfl⟩) (by decide) (by decide)
  · refine (Decidable.em (e2 = 2)).elim (fun he => ?_) (fun hn => ?_)
    · subst he
      replace h := (ite_e h).1 rfl
      refine z_callVC (pc := 4) (E := "java/lang/IllegalArgumentException") (As := [.int p1]) (rest := [.int (0 : Int32), .ref a2]) (wr := (wX6 g (r0 12) r3 s3 ++ wX3 g (r3 8) r4 q4_0 s4 ++ wX3 g (r3 9) r5 q5_0 s5 ++ wAJ g a2 1 s6)) C Xt dL_bestMove_4 ml_RL_83 wv_X7_bestMove (mt_X7_bestMove (a0 := a0) (r0 := r0) (r1 := r1) (q1_0 := q1_0) (r2 := r2) hg he2) [0, 1, 2, 3, 4, 5, 6, 7, 8, 9, 10, 11, 12, 13, 14, 15, 16] [17, 18, 19, 20, 21, 22, 23, 24, 25, 26, 27] rfl rfl ⟨by decide, by decide⟩ (Nat.le_of_ble_eq_true rfl) ⟨by decide, by decide⟩ rfl rfl rfl rfl rfl rfl rfl (by decide) [] (0, 9, 12, 13) [] rfl (fun z h => nomatch h) (by decide) (by decide) cll_13 cst_2 (fun qx => ?_)
      refine z_sub (ws' := (wX7 g a0 r0 s0 ++ wX1 g (r0 3) r1 q1_0 s1 ++ wX5 g q1_0 r2 s2 ++ wX6 g (r0 12) r3 s3 ++ wX3 g (r3 8) r4 q4_0 s4 ++ wX3 g (r3 9) r5 q5_0 s5 ++ wAJ g a2 1 s6)) C [11, 12, 13, 14, 15, 16, 17, 18, 19, 20, 21, 22, 23, 24, 25, 26, 27, 0, 1, 2, 3, 4, 5, 6, 7, 8, 9, 10] rfl rfl ?_
      refine z_to (ws' := (wX7 g a0 r0 s0 ++ wX1 g (r0 3) r1 q1_0 s1 ++ wX5 g q1_0 r2 s2 ++ wX6 g (r0 12) r3 s3 ++ wX3 g (r3 8) r4 q4_0 s4 ++ wX3 g (r3 9) r5 q5_0 s5 ++ wAJ g a2 1 s6)) (lv' := [(0, .ref a0), (1, .int p1), (2, .ref a2)]) (pc' := 12) (st' := [.ref qx]) (z_widen (cs' := 1) (ss' := 6) (by decide) (by decide) ?_) rfl rfl rfl rfl
      refine z_astore_n (pc := 12) C dL_bestMove_12 (i := 3) rfl (by decide) (lv' := [(3, .ref qx), (0, .ref a0), (1, .int p1), (2, .ref a2)]) rfl ?_
      refine z_iconst (pc := 13) C dL_bestMove_13 ic_1 ?_
      exact z_iret C X dL_bestMove_14 (by rw [← Option.some.inj h]; exact ⟨rfl, rfl⟩) (by decide) (by decide)
    replace h := (ite_e h).2 hn
    exact nomatch h
def f_L_card (N : Nat) (s0 : Ob) (s1 : Ob) (s2 : Ob) (s3 : (Nat → Int64)) (p1 : Int32) (p2 : Int32) : Option (Int32 × (Nat → Int64)) := (th (f_X7_card N s0 s1 s2 p1 p2) (ft_X7_card N s0 s1 s2 p1 p2) (fun x1 => (some ((0 : Int32), (vp_updL s3 0 (x1).toInt64)))) (fun e2 => (if e2 = 1 then (some ((1 : Int32), s3)) else none)))
theorem m_L_card {g : Gp} {a0 : Nat} {a3 : Nat} {r0 : Nat → Nat} {r1 : Nat → Nat} {q1_0 : Nat} {r2 : Nat → Nat} {N : Nat} {s0 : Ob} {s1 : Ob} {s2 : Ob} {s3 : (Nat → Int64)} {p1 : Int32} {p2 : Int32} {res : Int32 × (Nat → Int64)} (hg : Ok g) (h : f_L_card N s0 s1 s2 s3 p1 p2 = some res) : Ctw g yL_card cL_card 5 (some .int) [(0, 10, 13, 18)] (zrc 9 1 6 148) [.ref a0, .int p1, .int p2, .ref a3] (wX7 g a0 r0 s0 ++ wX1 g (r0 3) r1 q1_0 s1 ++ wX5 g q1_0 r2 s2 ++ wAJ g a3 1 s3) (exR (some (.int res.1)) (wX7 g a0 r0 s0 ++ wX1 g (r0 3) r1 q1_0 s1 ++ wX5 g q1_0 r2 s2 ++ wAJ g a3 1 res.2)) := by
  refine ctw_of rfl hg (by show _ ≤ _; exact Nat.le_of_ble_eq_true rfl) (fun K C Xt X => ?_)
  show Zs K 0 0 (wX7 g a0 r0 s0 ++ wX1 g (r0 3) r1 q1_0 s1 ++ wX5 g q1_0 r2 s2 ++ wAJ g a3 1 s3) [(0, .ref a0), (1, .int p1), (2, .int p2), (3, .ref a3)] 0 []
  unfold f_L_card at h
  refine z_aload_n (pc := 0) (x := a3) C dL_card_0 (i := 3) rfl rfl ?_
  refine z_iconst (pc := 1) C dL_card_1 ic_0 ?_
  refine z_aload_n (pc := 2) (x := a0) C dL_card_2 (i := 0) rfl rfl ?_
  refine z_iload_n (pc := 3) (x := p1) C dL_card_3 (i := 1) rfl rfl ?_
  refine z_iload_n (pc := 4) (x := p2) C dL_card_4 (i := 2) rfl rfl ?_
  rcases th_e h with ⟨x1, hx1, h⟩ | ⟨e2, he2, h⟩
  · refine z_callV (pc := 5) (As := [.int p1, .int p2]) (rest := [.int (0 : Int32), .ref a3]) (wr := (wAJ g a3 1 s3)) C dL_card_5 ml_RL_23 wv_X7_card (m_X7_card (a0 := a0) (r0 := r0) (r1 := r1) (q1_0 := q1_0) (r2 := r2) hg hx1) [0, 1, 2, 3, 4, 5, 6, 7, 8, 9, 10, 11, 12, 13, 14, 15, 16] [17] rfl rfl ⟨by decide, by decide⟩ (Nat.le_of_ble_eq_true rfl) ⟨by decide, by decide⟩ rfl rfl rfl rfl rfl rfl rfl (by decide) (ex_k C (cs' := 0) (ss' := 0) (wF := (wX7 g a0 r0 s0 ++ wX1 g (r0 3) r1 q1_0 s1 ++ wX5 g q1_0 r2 s2 ++ wAJ g a3 1 s3)) [1, 2, 3, 4, 5, 6, 7, 8, 9, 10, 11, 12, 13, 14, 15, 16, 17, 0] rfl rfl ?_)
    refine z_i2l (pc := 8) C dL_card_8 ?_
    refine z_last (pc := 9) C 17 dL_card_9 rfl (by decide) (ws' := (wX7 g a0 r0 s0 ++ wX1 g (r0 3) r1 q1_0 s1 ++ wX5 g q1_0 r2 s2 ++ wAJ g a3 1 (vp_updL s3 0 (x1).toInt64))) rfl ?_
    refine z_goto (pc := 10) C dL_card_10 (tgt := 17) (by decide) ?_
    refine z_iconst (pc := 17) C dL_card_17 ic_0 ?_
    exact z_iret C X dL_card_18 (by rw [← Option.some.inj h]; exact ⟨rfl, rfl⟩) (by decide) (by decide)
  · refine (Decidable.em (e2 = 1)).elim (fun he => ?_) (fun hn => ?_)
    · subst he
      replace h := (ite_e h).1 rfl
      refine z_callVC (pc := 5) (E := "java/lang/IndexOutOfBoundsException") (As := [.int p1, .int p2]) (rest := [.int (0 : Int32), .ref a3]) (wr := (wAJ g a3 1 s3)) C Xt dL_card_5 ml_RL_23 wv_X7_card (mt_X7_card (a0 := a0) (r0 := r0) (r1 := r1) (q1_0 := q1_0) (r2 := r2) hg he2) [0, 1, 2, 3, 4, 5, 6, 7, 8, 9, 10, 11, 12, 13, 14, 15, 16] [17] rfl rfl ⟨by decide, by decide⟩ (Nat.le_of_ble_eq_true rfl) ⟨by decide, by decide⟩ rfl rfl rfl rfl rfl rfl rfl (by decide) [] (0, 10, 13, 18) [] rfl (fun z h => nomatch h) (by decide) (by decide) cll_18 cst_1 (fun qx => ?_)
      refine z_sub (ws' := (wX7 g a0 r0 s0 ++ wX1 g (r0 3) r1 q1_0 s1 ++ wX5 g q1_0 r2 s2 ++ wAJ g a3 1 s3)) C [1, 2, 3, 4, 5, 6, 7, 8, 9, 10, 11, 12, 13, 14, 15, 16, 17, 0] rfl rfl ?_
      refine z_to (ws' := (wX7 g a0 r0 s0 ++ wX1 g (r0 3) r1 q1_0 s1 ++ wX5 g q1_0 r2 s2 ++ wAJ g a3 1 s3)) (lv' := [(0, .ref a0), (1, .int p1), (2, .int p2), (3, .ref a3)]) (pc' := 13) (st' := [.ref qx]) (z_widen (cs' := 1) (ss' := 6) (by decide) (by decide) ?_) rfl rfl rfl rfl
      refine z_astore (pc := 13) C dL_card_13 (by decide) (lv' := [(4, .ref qx), (0, .ref a0), (1, .int p1), (2, .int p2), (3, .ref a3)]) rfl ?_
      refine z_iconst (pc := 15) C dL_card_15 ic_1 ?_
      exact z_iret C X dL_card_16 (by rw [← Option.some.inj h]; exact ⟨rfl, rfl⟩) (by decide) (by decide)
    replace h := (ite_e h).2 hn
    exact nomatch h
def f_L_colorsOf (N : Nat) (s0 : Ob) (s1 : Ob) (s2 : Ob) (s3 : (Nat → Int64)) (p1 : Int32) (p2 : Int32) : Option (Int32 × (Nat → Int64)) := (th (f_X7_colorsOf N s0 s1 s2 p1 p2) (ft_X7_colorsOf N s0 s1 s2 p1 p2) (fun x1 => (some ((0 : Int32), (vp_updL s3 0 (x1).toInt64)))) (fun e2 => (if e2 = 1 then (some ((1 : Int32), s3)) else none)))
theorem m_L_colorsOf {g : Gp} {a0 : Nat} {a3 : Nat} {r0 : Nat → Nat} {r1 : Nat → Nat} {q1_0 : Nat} {r2 : Nat → Nat} {N : Nat} {s0 : Ob} {s1 : Ob} {s2 : Ob} {s3 : (Nat → Int64)} {p1 : Int32} {p2 : Int32} {res : Int32 × (Nat → Int64)} (hg : Ok g) (h : f_L_colorsOf N s0 s1 s2 s3 p1 p2 = some res) : Ctw g yL_colorsOf cL_colorsOf 5 (some .int) [(0, 10, 13, 18)] (zrc 9 1 6 148) [.ref a0, .int p1, .int p2, .ref a3] (wX7 g a0 r0 s0 ++ wX1 g (r0 3) r1 q1_0 s1 ++ wX5 g q1_0 r2 s2 ++ wAJ g a3 1 s3) (exR (some (.int res.1)) (wX7 g a0 r0 s0 ++ wX1 g (r0 3) r1 q1_0 s1 ++ wX5 g q1_0 r2 s2 ++ wAJ g a3 1 res.2)) := by
  refine ctw_of rfl hg (by show _ ≤ _; exact Nat.le_of_ble_eq_true rfl) (fun K C Xt X => ?_)
  show Zs K 0 0 (wX7 g a0 r0 s0 ++ wX1 g (r0 3) r1 q1_0 s1 ++ wX5 g q1_0 r2 s2 ++ wAJ g a3 1 s3) [(0, .ref a0), (1, .int p1), (2, .int p2), (3, .ref a3)] 0 []
  unfold f_L_colorsOf at h
  refine z_aload_n (pc := 0) (x := a3) C dL_colorsOf_0 (i := 3) rfl rfl ?_
  refine z_iconst (pc := 1) C dL_colorsOf_1 ic_0 ?_
  refine z_aload_n (pc := 2) (x := a0) C dL_colorsOf_2 (i := 0) rfl rfl ?_
  refine z_iload_n (pc := 3) (x := p1) C dL_colorsOf_3 (i := 1) rfl rfl ?_
  refine z_iload_n (pc := 4) (x := p2) C dL_colorsOf_4 (i := 2) rfl rfl ?_
  rcases th_e h with ⟨x1, hx1, h⟩ | ⟨e2, he2, h⟩
  · refine z_callV (pc := 5) (As := [.int p1, .int p2]) (rest := [.int (0 : Int32), .ref a3]) (wr := (wAJ g a3 1 s3)) C dL_colorsOf_5 ml_RL_38 wv_X7_colorsOf (m_X7_colorsOf (a0 := a0) (r0 := r0) (r1 := r1) (q1_0 := q1_0) (r2 := r2) hg hx1) [0, 1, 2, 3, 4, 5, 6, 7, 8, 9, 10, 11, 12, 13, 14, 15, 16] [17] rfl rfl ⟨by decide, by decide⟩ (Nat.le_of_ble_eq_true rfl) ⟨by decide, by decide⟩ rfl rfl rfl rfl rfl rfl rfl (by decide) (ex_k C (cs' := 0) (ss' := 0) (wF := (wX7 g a0 r0 s0 ++ wX1 g (r0 3) r1 q1_0 s1 ++ wX5 g q1_0 r2 s2 ++ wAJ g a3 1 s3)) [1, 2, 3, 4, 5, 6, 7, 8, 9, 10, 11, 12, 13, 14, 15, 16, 17, 0] rfl rfl ?_)
    refine z_i2l (pc := 8) C dL_colorsOf_8 ?_
    refine z_last (pc := 9) C 17 dL_colorsOf_9 rfl (by decide) (ws' := (wX7 g a0 r0 s0 ++ wX1 g (r0 3) r1 q1_0 s1 ++ wX5 g q1_0 r2 s2 ++ wAJ g a3 1 (vp_updL s3 0 (x1).toInt64))) rfl ?_
    refine z_goto (pc := 10) C dL_colorsOf_10 (tgt := 17) (by decide) ?_
    refine z_iconst (pc := 17) C dL_colorsOf_17 ic_0 ?_
    exact z_iret C X dL_colorsOf_18 (by rw [← Option.some.inj h]; exact ⟨rfl, rfl⟩) (by decide) (by decide)
  · refine (Decidable.em (e2 = 1)).elim (fun he => ?_) (fun hn => ?_)
    · subst he
      replace h := (ite_e h).1 rfl
      refine z_callVC (pc := 5) (E := "java/lang/IndexOutOfBoundsException") (As := [.int p1, .int p2]) (rest := [.int (0 : Int32), .ref a3]) (wr := (wAJ g a3 1 s3)) C Xt dL_colorsOf_5 ml_RL_38 wv_X7_colorsOf (mt_X7_colorsOf (a0 := a0) (r0 := r0) (r1 := r1) (q1_0 := q1_0) (r2 := r2) hg he2) [0, 1, 2, 3, 4, 5, 6, 7, 8, 9, 10, 11, 12, 13, 14, 15, 16] [17] rfl rfl ⟨by decide, by decide⟩ (Nat.le_of_ble_eq_true rfl) ⟨by decide, by decide⟩ rfl rfl rfl rfl rfl rfl rfl (by decide) [] (0, 10, 13, 18) [] rfl (fun z h => nomatch h) (by decide) (by decide) cll_18 cst_1 (fun qx => ?_)
      refine z_sub (ws' := (wX7 g a0 r0 s0 ++ wX1 g (r0 3) r1 q1_0 s1 ++ wX5 g q1_0 r2 s2 ++ wAJ g a3 1 s3)) C [1, 2, 3, 4, 5, 6, 7, 8, 9, 10, 11, 12, 13, 14, 15, 16, 17, 0] rfl rfl ?_
      refine z_to (ws' := (wX7 g a0 r0 s0 ++ wX1 g (r0 3) r1 q1_0 s1 ++ wX5 g q1_0 r2 s2 ++ wAJ g a3 1 s3)) (lv' := [(0, .ref a0), (1, .int p1), (2, .int p2), (3, .ref a3)]) (pc' := 13) (st' := [.ref qx]) (z_widen (cs' := 1) (ss' := 6) (by decide) (by decide) ?_) rfl rfl rfl rfl
      refine z_astore (pc := 13) C dL_colorsOf_13 (by decide) (lv' := [(4, .ref qx), (0, .ref a0), (1, .int p1), (2, .int p2), (3, .ref a3)]) rfl ?_
      refine z_iconst (pc := 15) C dL_colorsOf_15 ic_1 ?_
      exact z_iret C X dL_colorsOf_16 (by rw [← Option.some.inj h]; exact ⟨rfl, rfl⟩) (by decide) (by decide)
    replace h := (ite_e h).2 hn
    exact nomatch h
def f_L_copies (N : Nat) (s0 : Ob) (s1 : Ob) (s2 : Ob) (s3 : (Nat → Int64)) (p1 : Int32) (p2 : Int32) (p3 : Int32) : Option (Int32 × (Nat → Int64)) := (th (f_X7_copies N s0 s1 s2 p1 p2 p3) (ft_X7_copies N s0 s1 s2 p1 p2 p3) (fun x1 => (some ((0 : Int32), (vp_updL s3 0 (x1).toInt64)))) (fun e2 => (if e2 = 1 then (some ((1 : Int32), s3)) else (if e2 = 2 then (some ((2 : Int32), s3)) else none))))
theorem m_L_copies {g : Gp} {a0 : Nat} {a4 : Nat} {r0 : Nat → Nat} {r1 : Nat → Nat} {q1_0 : Nat} {r2 : Nat → Nat} {N : Nat} {s0 : Ob} {s1 : Ob} {s2 : Ob} {s3 : (Nat → Int64)} {p1 : Int32} {p2 : Int32} {p3 : Int32} {res : Int32 × (Nat → Int64)} (hg : Ok g) (h : f_L_copies N s0 s1 s2 s3 p1 p2 p3 = some res) : Ctw g yL_copies cL_copies 6 (some .int) [(0, 12, 15, 18), (0, 12, 19, 13)] (zrc 8 1 6 128) [.ref a0, .int p1, .int p2, .int p3, .ref a4] (wX7 g a0 r0 s0 ++ wX1 g (r0 3) r1 q1_0 s1 ++ wX5 g q1_0 r2 s2 ++ wAJ g a4 1 s3) (exR (some (.int res.1)) (wX7 g a0 r0 s0 ++ wX1 g (r0 3) r1 q1_0 s1 ++ wX5 g q1_0 r2 s2 ++ wAJ g a4 1 res.2)) := by
  refine ctw_of rfl hg (by show _ ≤ _; exact Nat.le_of_ble_eq_true rfl) (fun K C Xt X => ?_)
  show Zs K 0 0 (wX7 g a0 r0 s0 ++ wX1 g (r0 3) r1 q1_0 s1 ++ wX5 g q1_0 r2 s2 ++ wAJ g a4 1 s3) [(0, .ref a0), (1, .int p1), (2, .int p2), (3, .int p3), (4, .ref a4)] 0 []
  unfold f_L_copies at h
  refine z_aload (pc := 0) (x := a4) C dL_copies_0 rfl ?_
  refine z_iconst (pc := 2) C dL_copies_2 ic_0 ?_
  refine z_aload_n (pc := 3) (x := a0) C dL_copies_3 (i := 0) rfl rfl ?_
  refine z_iload_n (pc := 4) (x := p1) C dL_copies_4 (i := 1) rfl rfl ?_
  refine z_iload_n (pc := 5) (x := p2) C dL_copies_5 (i := 2) rfl rfl ?_
  refine z_iload_n (pc := 6) (x := p3) C dL_copies_6 (i := 3) rfl rfl ?_
  rcases th_e h with ⟨x1, hx1, h⟩ | ⟨e2, he2, h⟩
  · refine z_callV (pc := 7) (As := [.int p1, .int p2, .int p3]) (rest := [.int (0 : Int32), .ref a4]) (wr := (wAJ g a4 1 s3)) C dL_copies_7 ml_RL_27 wv_X7_copies (m_X7_copies (a0 := a0) (r0 := r0) (r1 := r1) (q1_0 := q1_0) (r2 := r2) hg hx1) [0, 1, 2, 3, 4, 5, 6, 7, 8, 9, 10, 11, 12, 13, 14, 15, 16] [17] rfl rfl ⟨by decide, by decide⟩ (Nat.le_of_ble_eq_true rfl) ⟨by decide, by decide⟩ rfl rfl rfl rfl rfl rfl rfl (by decide) (ex_k C (cs' := 0) (ss' := 0) (wF := (wX7 g a0 r0 s0 ++ wX1 g (r0 3) r1 q1_0 s1 ++ wX5 g q1_0 r2 s2 ++ wAJ g a4 1 s3)) [1, 2, 3, 4, 5, 6, 7, 8, 9, 10, 11, 12, 13, 14, 15, 16, 17, 0] rfl rfl ?_)
    refine z_i2l (pc := 10) C dL_copies_10 ?_
    refine z_last (pc := 11) C 17 dL_copies_11 rfl (by decide) (ws' := (wX7 g a0 r0 s0 ++ wX1 g (r0 3) r1 q1_0 s1 ++ wX5 g q1_0 r2 s2 ++ wAJ g a4 1 (vp_updL s3 0 (x1).toInt64))) rfl ?_
    refine z_goto (pc := 12) C dL_copies_12 (tgt := 23) (by decide) ?_
    refine z_iconst (pc := 23) C dL_copies_23 ic_0 ?_
    exact z_iret C X dL_copies_24 (by rw [← Option.some.inj h]; exact ⟨rfl, rfl⟩) (by decide) (by decide)
  · refine (Decidable.em (e2 = 1)).elim (fun he => ?_) (fun hn => ?_)
    · subst he
      replace h := (ite_e h).1 rfl
      refine z_callVC (pc := 7) (E := "java/lang/IndexOutOfBoundsException") (As := [.int p1, .int p2, .int p3]) (rest := [.int (0 : Int32), .ref a4]) (wr := (wAJ g a4 1 s3)) C Xt dL_copies_7 ml_RL_27 wv_X7_copies (mt_X7_copies (a0 := a0) (r0 := r0) (r1 := r1) (q1_0 := q1_0) (r2 := r2) hg he2) [0, 1, 2, 3, 4, 5, 6, 7, 8, 9, 10, 11, 12, 13, 14, 15, 16] [17] rfl rfl ⟨by decide, by decide⟩ (Nat.le_of_ble_eq_true rfl) ⟨by decide, by decide⟩ rfl rfl rfl rfl rfl rfl rfl (by decide) [] (0, 12, 15, 18) [(0, 12, 19, 13)] rfl (fun z h => nomatch h) (by decide) (by decide) cll_18 cst_1 (fun qx => ?_)
      refine z_sub (ws' := (wX7 g a0 r0 s0 ++ wX1 g (r0 3) r1 q1_0 s1 ++ wX5 g q1_0 r2 s2 ++ wAJ g a4 1 s3)) C [1, 2, 3, 4, 5, 6, 7, 8, 9, 10, 11, 12, 13, 14, 15, 16, 17, 0] rfl rfl ?_
      refine z_to (ws' := (wX7 g a0 r0 s0 ++ wX1 g (r0 3) r1 q1_0 s1 ++ wX5 g q1_0 r2 s2 ++ wAJ g a4 1 s3)) (lv' := [(0, .ref a0), (1, .int p1), (2, .int p2), (3, .int p3), (4, .ref a4)]) (pc' := 15) (st' := [.ref qx]) (z_widen (cs' := 1) (ss' := 6) (by decide) (by decide) ?_) rfl rfl rfl rfl
      refine z_astore (pc := 15) C dL_copies_15 (by decide) (lv' := [(5, .ref qx), (0, .ref a0), (1, .int p1), (2, .int p2), (3, .int p3), (4, .ref a4)]) rfl ?_
      refine z_iconst (pc := 17) C dL_copies_17 ic_1 ?_
      exact z_iret C X dL_copies_18 (by rw [← Option.some.inj h]; exact ⟨rfl, rfl⟩) (by decide) (by decide)
    replace h := (ite_e h).2 hn
    refine (Decidable.em (e2 = 2)).elim (fun he => ?_) (fun hn => ?_)
    · subst he
      replace h := (ite_e h).1 rfl
      refine z_callVC (pc := 7) (E := "java/lang/IllegalArgumentException") (As := [.int p1, .int p2, .int p3]) (rest := [.int (0 : Int32), .ref a4]) (wr := (wAJ g a4 1 s3)) C Xt dL_copies_7 ml_RL_27 wv_X7_copies (mt_X7_copies (a0 := a0) (r0 := r0) (r1 := r1) (q1_0 := q1_0) (r2 := r2) hg he2) [0, 1, 2, 3, 4, 5, 6, 7, 8, 9, 10, 11, 12, 13, 14, 15, 16] [17] rfl rfl ⟨by decide, by decide⟩ (Nat.le_of_ble_eq_true rfl) ⟨by decide, by decide⟩ rfl rfl rfl rfl rfl rfl rfl (by decide) [(0, 12, 15, 18)] (0, 12, 19, 13) [] rfl (hp_21 hg) (by decide) (by decide) cll_13 cst_2 (fun qx => ?_)
      refine z_sub (ws' := (wX7 g a0 r0 s0 ++ wX1 g (r0 3) r1 q1_0 s1 ++ wX5 g q1_0 r2 s2 ++ wAJ g a4 1 s3)) C [1, 2, 3, 4, 5, 6, 7, 8, 9, 10, 11, 12, 13, 14, 15, 16, 17, 0] rfl rfl ?_
      refine z_to (ws' := (wX7 g a0 r0 s0 ++ wX1 g (r0 3) r1 q1_0 s1 ++ wX5 g q1_0 r2 s2 ++ wAJ g a4 1 s3)) (lv' := [(0, .ref a0), (1, .int p1), (2, .int p2), (3, .int p3), (4, .ref a4)]) (pc' := 19) (st' := [.ref qx]) (z_widen (cs' := 1) (ss' := 6) (by decide) (by decide) ?_) rfl rfl rfl rfl
      refine z_astore (pc := 19) C dL_copies_19 (by decide) (lv' := [(5, .ref qx), (0, .ref a0), (1, .int p1), (2, .int p2), (3, .int p3), (4, .ref a4)]) rfl ?_
      refine z_iconst (pc := 21) C dL_copies_21 ic_2 ?_
      exact z_iret C X dL_copies_22 (by rw [← Option.some.inj h]; exact ⟨rfl, rfl⟩) (by decide) (by decide)
    replace h := (ite_e h).2 hn
    exact nomatch h
def f_L_count (N : Nat) (s0 : Ob) (s1 : Ob) (s2 : Ob) (s3 : (Nat → Int64)) (p1 : Int32) : Option (Int32 × (Nat → Int64)) := (th (f_X7_count N s0 s1 s2 p1) (ft_X7_count N s0 s1 s2 p1) (fun x1 => (some ((0 : Int32), (vp_updL s3 0 (x1).toInt64)))) (fun e2 => (if e2 = 2 then (some ((1 : Int32), s3)) else none)))
theorem m_L_count {g : Gp} {a0 : Nat} {a2 : Nat} {r0 : Nat → Nat} {r1 : Nat → Nat} {q1_0 : Nat} {r2 : Nat → Nat} {N : Nat} {s0 : Ob} {s1 : Ob} {s2 : Ob} {s3 : (Nat → Int64)} {p1 : Int32} {res : Int32 × (Nat → Int64)} (hg : Ok g) (h : f_L_count N s0 s1 s2 s3 p1 = some res) : Ctw g yL_count cL_count 4 (some .int) [(0, 9, 12, 13)] (zrc 7 1 6 103) [.ref a0, .int p1, .ref a2] (wX7 g a0 r0 s0 ++ wX1 g (r0 3) r1 q1_0 s1 ++ wX5 g q1_0 r2 s2 ++ wAJ g a2 1 s3) (exR (some (.int res.1)) (wX7 g a0 r0 s0 ++ wX1 g (r0 3) r1 q1_0 s1 ++ wX5 g q1_0 r2 s2 ++ wAJ g a2 1 res.2)) := by
  refine ctw_of rfl hg (by show _ ≤ _; exact Nat.le_of_ble_eq_true rfl) (fun K C Xt X => ?_)
  show Zs K 0 0 (wX7 g a0 r0 s0 ++ wX1 g (r0 3) r1 q1_0 s1 ++ wX5 g q1_0 r2 s2 ++ wAJ g a2 1 s3) [(0, .ref a0), (1, .int p1), (2, .ref a2)] 0 []
  unfold f_L_count at h
  refine z_aload_n (pc := 0) (x := a2) C dL_count_0 (i := 2) rfl rfl ?_
  refine z_iconst (pc := 1) C dL_count_1 ic_0 ?_
  refine z_aload_n (pc := 2) (x := a0) C dL_count_2 (i := 0) rfl rfl ?_
  refine z_iload_n (pc := 3) (x := p1) C dL_count_3 (i := 1) rfl rfl ?_
  rcases th_e h with ⟨x1, hx1, h⟩ | ⟨e2, he2, h⟩
  · refine z_callV (pc := 4) (As := [.int p1]) (rest := [.int (0 : Int32), .ref a2]) (wr := (wAJ g a2 1 s3)) C dL_count_4 ml_RL_7 wv_X7_count (m_X7_count (a0 := a0) (r0 := r0) (r1 := r1) (q1_0 := q1_0) (r2 := r2) hg hx1) [0, 1, 2, 3, 4, 5, 6, 7, 8, 9, 10, 11, 12, 13, 14, 15, 16] [17] rfl rfl ⟨by decide, by decide⟩ (Nat.le_of_ble_eq_true rfl) ⟨by decide, by decide⟩ rfl rfl rfl rfl rfl rfl rfl (by decide) (ex_k C (cs' := 0) (ss' := 0) (wF := (wX7 g a0 r0 s0 ++ wX1 g (r0 3) r1 q1_0 s1 ++ wX5 g q1_0 r2 s2 ++ wAJ g a2 1 s3)) [1, 2, 3, 4, 5, 6, 7, 8, 9, 10, 11, 12, 13, 14, 15, 16, 17, 0] rfl rfl ?_)
    refine z_i2l (pc := 7) C dL_count_7 ?_
    refine z_last (pc := 8) C 17 dL_count_8 rfl (by decide) (ws' := (wX7 g a0 r0 s0 ++ wX1 g (r0 3) r1 q1_0 s1 ++ wX5 g q1_0 r2 s2 ++ wAJ g a2 1 (vp_updL s3 0 (x1).toInt64))) rfl ?_
    refine z_goto (pc := 9) C dL_count_9 (tgt := 15) (by decide) ?_
    refine z_iconst (pc := 15) C dL_count_15 ic_0 ?_
    exact z_iret C X dL_count_16 (by rw [← Option.some.inj h]; exact ⟨rfl, rfl⟩) (by decide) (by decide)
  · refine (Decidable.em (e2 = 2)).elim (fun he => ?_) (fun hn => ?_)
    · subst he
      replace h := (ite_e h).1 rfl
      refine z_callVC (pc := 4) (E := "java/lang/IllegalArgumentException") (As := [.int p1]) (rest := [.int (0 : Int32), .ref a2]) (wr := (wAJ g a2 1 s3)) C Xt dL_count_4 ml_RL_7 wv_X7_count (mt_X7_count (a0 := a0) (r0 := r0) (r1 := r1) (q1_0 := q1_0) (r2 := r2) hg he2) [0, 1, 2, 3, 4, 5, 6, 7, 8, 9, 10, 11, 12, 13, 14, 15, 16] [17] rfl rfl ⟨by decide, by decide⟩ (Nat.le_of_ble_eq_true rfl) ⟨by decide, by decide⟩ rfl rfl rfl rfl rfl rfl rfl (by decide) [] (0, 9, 12, 13) [] rfl (fun z h => nomatch h) (by decide) (by decide) cll_13 cst_2 (fun qx => ?_)
      refine z_sub (ws' := (wX7 g a0 r0 s0 ++ wX1 g (r0 3) r1 q1_0 s1 ++ wX5 g q1_0 r2 s2 ++ wAJ g a2 1 s3)) C [1, 2, 3, 4, 5, 6, 7, 8, 9, 10, 11, 12, 13, 14, 15, 16, 17, 0] rfl rfl ?_
      refine z_to (ws' := (wX7 g a0 r0 s0 ++ wX1 g (r0 3) r1 q1_0 s1 ++ wX5 g q1_0 r2 s2 ++ wAJ g a2 1 s3)) (lv' := [(0, .ref a0), (1, .int p1), (2, .ref a2)]) (pc' := 12) (st' := [.ref qx]) (z_widen (cs' := 1) (ss' := 6) (by decide) (by decide) ?_) rfl rfl rfl rfl
      refine z_astore_n (pc := 12) C dL_count_12 (i := 3) rfl (by decide) (lv' := [(3, .ref qx), (0, .ref a0), (1, .int p1), (2, .ref a2)]) rfl ?_
      refine z_iconst (pc := 13) C dL_count_13 ic_1 ?_
      exact z_iret C X dL_count_14 (by rw [← Option.some.inj h]; exact ⟨rfl, rfl⟩) (by decide) (by decide)
    replace h := (ite_e h).2 hn
    exact nomatch h
def f_L_discard (N : Nat) (q1_0 : Nat) (s0 : Ob) (s1 : Ob) (s2 : Ob) (s3 : (Nat → Int64)) (s4 : (Nat → Nat × Ob)) (p1 : Int32) : Option (Int32 × Ob × Ob × (Nat → Int64) × (Nat → Nat × Ob)) := (th (f_X7_discard N q1_0 s0 s1 s2 s4 p1) (ft_X7_discard N s0 s1 s2 p1) (fun x1 => (some ((0 : Int32), x1.2.1, x1.2.2.1, (vp_updL s3 0 (x1.1).toInt64), x1.2.2.2))) (fun e2 => (if e2 = 1 then (some ((1 : Int32), s0, s1, s3, s4)) else none)))
theorem m_L_discard {g : Gp} {a0 : Nat} {a2 : Nat} {r0 : Nat → Nat} {r1 : Nat → Nat} {r2 : Nat → Nat} {f4 : Nat → Option Nat} {pa4 : Nat → Nat} {pr4 : Nat → Nat → Nat} {N : Nat} {q1_0 : Nat} {s0 : Ob} {s1 : Ob} {s2 : Ob} {s3 : (Nat → Int64)} {s4 : (Nat → Nat × Ob)} {p1 : Int32} {res : Int32 × Ob × Ob × (Nat → Int64) × (Nat → Nat × Ob)} (hg : Ok g) (hf4 : ∀ k, k < 20 → f4 k = some (pa4 k)) (h : f_L_discard N q1_0 s0 s1 s2 s3 s4 p1 = some res) : Ctw g yL_discard cL_discard 4 (some .int) [(0, 9, 12, 18)] (zrc 9 1 6 147) [.ref a0, .int p1, .ref a2] (wX7 g a0 r0 s0 ++ wX1 g (r0 3) r1 q1_0 s1 ++ wX5 g q1_0 r2 s2 ++ wAJ g a2 1 s3 ++ wPs g (r0 4) 20 f4 pa4 pr4 s4) (exR (some (.int res.1)) (wX7 g a0 r0 res.2.1 ++ wX1 g (r0 3) r1 q1_0 res.2.2.1 ++ wX5 g q1_0 r2 s2 ++ wAJ g a2 1 res.2.2.2.1 ++ wPs g (r0 4) 20 f4 pa4 pr4 res.2.2.2.2)) := by
  refine ctw_of rfl hg (by show _ ≤ _; exact Nat.le_of_ble_eq_true rfl) (fun K C Xt X => ?_)
  show Zs K 0 0 (wX7 g a0 r0 s0 ++ wX1 g (r0 3) r1 q1_0 s1 ++ wX5 g q1_0 r2 s2 ++ wAJ g a2 1 s3 ++ wPs g (r0 4) 20 f4 pa4 pr4 s4) [(0, .ref a0), (1, .int p1), (2, .ref a2)] 0 []
  unfold f_L_discard at h
  refine z_aload_n (pc := 0) (x := a2) C dL_discard_0 (i := 2) rfl rfl ?_
  refine z_iconst (pc := 1) C dL_discard_1 ic_0 ?_
  refine z_aload_n (pc := 2) (x := a0) C dL_discard_2 (i := 0) rfl rfl ?_
  refine z_iload_n (pc := 3) (x := p1) C dL_discard_3 (i := 1) rfl rfl ?_
  rcases th_e h with ⟨x1, hx1, h⟩ | ⟨e2, he2, h⟩
  · refine z_callVT2 (pc := 4) (As := [.int p1]) (rest := [.int (0 : Int32), .ref a2]) (wr := (wAJ g a2 1 s3)) C dL_discard_4 ml_RL_68 wv_X7_discard (m_X7_discard (a0 := a0) (r0 := r0) (r1 := r1) (r2 := r2) (f3 := f4) (pa3 := pa4) (pr3 := pr4) (q1_0 := q1_0) hg hf4 hx1) [0, 1, 2, 3, 4, 5, 6, 7, 8, 9, 10, 11, 12, 13, 14, 15, 16] [17] rfl rfl ⟨by decide, by decide⟩ (Nat.le_of_ble_eq_true rfl) ⟨by decide, by decide⟩ rfl rfl rfl rfl rfl rfl rfl (by decide) (ex_kT2 C (cs' := 0) (ss' := 0) (A' := (wX7 g a0 r0 x1.2.1 ++ wX1 g (r0 3) r1 q1_0 x1.2.2.1 ++ wX5 g q1_0 r2 s2 ++ wAJ g a2 1 s3)) [1, 2, 3, 4, 5, 6, 7, 8, 9, 10, 11, 12, 13, 14, 15, 16, 17, 0] rfl rfl ?_)
    refine z_i2l (pc := 7) C dL_discard_7 ?_
    refine z_last (pc := 8) C 17 dL_discard_8 rfl (by decide) (ws' := (wX7 g a0 r0 x1.2.1 ++ wX1 g (r0 3) r1 q1_0 x1.2.2.1 ++ wX5 g q1_0 r2 s2 ++ wAJ g a2 1 (vp_updL s3 0 (x1.1).toInt64) ++ wPs g (r0 4) 20 f4 pa4 pr4 x1.2.2.2)) rfl ?_
    refine z_goto (pc := 9) C dL_discard_9 (tgt := 15) (by decide) ?_
    refine z_iconst (pc := 15) C dL_discard_15 ic_0 ?_
    exact z_iret C X dL_discard_16 (by rw [← Option.some.inj h]; exact ⟨rfl, rfl⟩) (by decide) (by decide)
  · refine (Decidable.em (e2 = 1)).elim (fun he => ?_) (fun hn => ?_)
    · subst he
      replace h := (ite_e h).1 rfl
      refine z_callVCT1 (A' := (wX7 g a0 r0 s0 ++ wX1 g (r0 3) r1 q1_0 s1 ++ wX5 g q1_0 r2 s2 ++ wAJ g a2 1 s3)) (pc := 4) (E := "java/lang/IndexOutOfBoundsException") (As := [.int p1]) (rest := [.int (0 : Int32), .ref a2]) (wr := (wAJ g a2 1 s3)) C Xt dL_discard_4 ml_RL_68 wv_X7_discard (mt_X7_discard (a0 := a0) (r0 := r0) (r1 := r1) (q1_0 := q1_0) (r2 := r2) hg he2) [0, 1, 2, 3, 4, 5, 6, 7, 8, 9, 10, 11, 12, 13, 14, 15, 16] [17] [1, 2, 3, 4, 5, 6, 7, 8, 9, 10, 11, 12, 13, 14, 15, 16, 17, 0] rfl rfl ⟨by decide, by decide⟩ (Nat.le_of_ble_eq_true rfl) ⟨by decide, by decide⟩ rfl rfl rfl rfl rfl rfl rfl (by decide) rfl rfl [] (0, 9, 12, 18) [] rfl (fun z h => nomatch h) (by decide) (by decide) cll_18 cst_1 (fun qx => ?_)
      refine z_to (ws' := (wX7 g a0 r0 s0 ++ wX1 g (r0 3) r1 q1_0 s1 ++ wX5 g q1_0 r2 s2 ++ wAJ g a2 1 s3 ++ wPs g (r0 4) 20 f4 pa4 pr4 s4)) (lv' := [(0, .ref a0), (1, .int p1), (2, .ref a2)]) (pc' := 12) (st' := [.ref qx]) (z_widen (cs' := 1) (ss' := 6) (by decide) (by decide) ?_) rfl rfl rfl rfl
      refine z_astore_n (pc := 12) C dL_discard_12 (i := 3) rfl (by decide) (lv' := [(3, .ref qx), (0, .ref a0), (1, .int p1), (2, .ref a2)]) rfl ?_
      refine z_iconst (pc := 13) C dL_discard_13 ic_1 ?_
      exact z_iret C X dL_discard_14 (by rw [← Option.some.inj h]; exact ⟨rfl, rfl⟩) (by decide) (by decide)
    replace h := (ite_e h).2 hn
    exact nomatch h
def f_L_follow (N : Nat) (q1_0 : Nat) (s0 : Ob) (s1 : Ob) (s2 : Ob) (s3 : Ob) (s4 : Ob) (s5 : (Nat → Int64)) (s6 : (Nat → Nat × Ob)) (p1 : Int32) : Option (Int32 × Ob × Ob × Ob × Ob × (Nat → Int64) × (Nat → Nat × Ob)) := (th (f_X7_follow N q1_0 s0 s1 s2 s3 s4 s6 p1) (ft_X7_follow N s0 s1 s2 p1) (fun x1 => (some ((0 : Int32), x1.2.1, x1.2.2.1, x1.2.2.2.1, x1.2.2.2.2.1, (vp_updL s5 0 (x1.1).toInt64), x1.2.2.2.2.2))) (fun e2 => (if e2 = 2 then (some ((1 : Int32), s0, s1, s3, s4, s5, s6)) else none)))
theorem m_L_follow {g : Gp} {a0 : Nat} {a2 : Nat} {r0 : Nat → Nat} {r1 : Nat → Nat} {r2 : Nat → Nat} {r3 : Nat → Nat} {r4 : Nat → Nat} {f6 : Nat → Option Nat} {pa6 : Nat → Nat} {pr6 : Nat → Nat → Nat} {N : Nat} {q1_0 : Nat} {s0 : Ob} {s1 : Ob} {s2 : Ob} {s3 : Ob} {s4 : Ob} {s5 : (Nat → Int64)} {s6 : (Nat → Nat × Ob)} {p1 : Int32} {res : Int32 × Ob × Ob × Ob × Ob × (Nat → Int64) × (Nat → Nat × Ob)} (hg : Ok g) (hf6 : ∀ k, k < 20 → f6 k = some (pa6 k)) (h : f_L_follow N q1_0 s0 s1 s2 s3 s4 s5 s6 p1 = some res) : Ctw g yL_follow cL_follow 4 (some .int) [(0, 9, 12, 13)] (zrc 7 1 6 169) [.ref a0, .int p1, .ref a2] (wX7 g a0 r0 s0 ++ wX1 g (r0 3) r1 q1_0 s1 ++ wX5 g q1_0 r2 s2 ++ wX0 g (r0 11) r3 (r0 10) s3 ++ wX2 g (r0 10) r4 s4 ++ wAJ g a2 1 s5 ++ wPs g (r0 4) 20 f6 pa6 pr6 s6) (exR (some (.int res.1)) (wX7 g a0 r0 res.2.1 ++ wX1 g (r0 3) r1 q1_0 res.2.2.1 ++ wX5 g q1_0 r2 s2 ++ wX0 g (r0 11) r3 (r0 10) res.2.2.2.1 ++ wX2 g (r0 10) r4 res.2.2.2.2.1 ++ wAJ g a2 1 res.2.2.2.2.2.1 ++ wPs g (r0 4) 20 f6 pa6 pr6 res.2.2.2.2.2.2)) := by
  refine ctw_of rfl hg (by show _ ≤ _; exact Nat.le_of_ble_eq_true rfl) (fun K C Xt X => ?_)
  show Zs K 0 0 (wX7 g a0 r0 s0 ++ wX1 g (r0 3) r1 q1_0 s1 ++ wX5 g q1_0 r2 s2 ++ wX0 g (r0 11) r3 (r0 10) s3 ++ wX2 g (r0 10) r4 s4 ++ wAJ g a2 1 s5 ++ wPs g (r0 4) 20 f6 pa6 pr6 s6) [(0, .ref a0), (1, .int p1), (2, .ref a2)] 0 []
  unfold f_L_follow at h
  refine z_aload_n (pc := 0) (x := a2) C dL_follow_0 (i := 2) rfl rfl ?_
  refine z_iconst (pc := 1) C dL_follow_1 ic_0 ?_
  refine z_aload_n (pc := 2) (x := a0) C dL_follow_2 (i := 0) rfl rfl ?_
  refine z_iload_n (pc := 3) (x := p1) C dL_follow_3 (i := 1) rfl rfl ?_
  rcases th_e h with ⟨x1, hx1, h⟩ | ⟨e2, he2, h⟩
  · refine z_callVT2 (pc := 4) (As := [.int p1]) (rest := [.int (0 : Int32), .ref a2]) (wr := (wAJ g a2 1 s5)) C dL_follow_4 ml_RL_77 wv_X7_follow (m_X7_follow (a0 := a0) (r0 := r0) (r1 := r1) (r2 := r2) (r3 := r3) (r4 := r4) (f5 := f6) (pa5 := pa6) (pr5 := pr6) (q1_0 := q1_0) hg hf6 hx1) [0, 1, 2, 3, 4, 5, 6, 7, 8, 9, 10, 11, 12, 13, 14, 15, 16, 17, 18, 19] [20] rfl rfl ⟨by decide, by decide⟩ (Nat.le_of_ble_eq_true rfl) ⟨by decide, by decide⟩ rfl rfl rfl rfl rfl rfl rfl (by decide) (ex_kT2 C (cs' := 0) (ss' := 0) (A' := (wX7 g a0 r0 x1.2.1 ++ wX1 g (r0 3) r1 q1_0 x1.2.2.1 ++ wX5 g q1_0 r2 s2 ++ wX0 g (r0 11) r3 (r0 10) x1.2.2.2.1 ++ wX2 g (r0 10) r4 x1.2.2.2.2.1 ++ wAJ g a2 1 s5)) [1, 2, 3, 4, 5, 6, 7, 8, 9, 10, 11, 12, 13, 14, 15, 16, 17, 18, 19, 20, 0] rfl rfl ?_)
    refine z_i2l (pc := 7) C dL_follow_7 ?_
    refine z_last (pc := 8) C 20 dL_follow_8 rfl (by decide) (ws' := (wX7 g a0 r0 x1.2.1 ++ wX1 g (r0 3) r1 q1_0 x1.2.2.1 ++ wX5 g q1_0 r2 s2 ++ wX0 g (r0 11) r3 (r0 10) x1.2.2.2.1 ++ wX2 g (r0 10) r4 x1.2.2.2.2.1 ++ wAJ g a2 1 (vp_updL s5 0 (x1.1).toInt64) ++ wPs g (r0 4) 20 f6 pa6 pr6 x1.2.2.2.2.2)) rfl ?_
    refine z_goto (pc := 9) C dL_follow_9 (tgt := 15) (by decide) ?_
    refine z_iconst (pc := 15) C dL_follow_15 ic_0 ?_
    exact z_iret C X dL_follow_16 (by rw [← Option.some.inj h]; exact ⟨rfl, rfl⟩) (by decide) (by decide)
  · refine (Decidable.em (e2 = 2)).elim (fun he => ?_) (fun hn => ?_)
    · subst he
      replace h := (ite_e h).1 rfl
      refine z_callVCT1 (A' := (wX7 g a0 r0 s0 ++ wX1 g (r0 3) r1 q1_0 s1 ++ wX5 g q1_0 r2 s2 ++ wX0 g (r0 11) r3 (r0 10) s3 ++ wX2 g (r0 10) r4 s4 ++ wAJ g a2 1 s5)) (pc := 4) (E := "java/lang/IllegalArgumentException") (As := [.int p1]) (rest := [.int (0 : Int32), .ref a2]) (wr := (wX0 g (r0 11) r3 (r0 10) s3 ++ wX2 g (r0 10) r4 s4 ++ wAJ g a2 1 s5)) C Xt dL_follow_4 ml_RL_77 wv_X7_follow (mt_X7_follow (a0 := a0) (r0 := r0) (r1 := r1) (q1_0 := q1_0) (r2 := r2) hg he2) [0, 1, 2, 3, 4, 5, 6, 7, 8, 9, 10, 11, 12, 13, 14, 15, 16] [17, 18, 19, 20] [4, 5, 6, 7, 8, 9, 10, 11, 12, 13, 14, 15, 16, 17, 18, 19, 20, 0, 1, 2, 3] rfl rfl ⟨by decide, by decide⟩ (Nat.le_of_ble_eq_true rfl) ⟨by decide, by decide⟩ rfl rfl rfl rfl rfl rfl rfl (by decide) rfl rfl [] (0, 9, 12, 13) [] rfl (fun z h => nomatch h) (by decide) (by decide) cll_13 cst_2 (fun qx => ?_)
      refine z_to (ws' := (wX7 g a0 r0 s0 ++ wX1 g (r0 3) r1 q1_0 s1 ++ wX5 g q1_0 r2 s2 ++ wX0 g (r0 11) r3 (r0 10) s3 ++ wX2 g (r0 10) r4 s4 ++ wAJ g a2 1 s5 ++ wPs g (r0 4) 20 f6 pa6 pr6 s6)) (lv' := [(0, .ref a0), (1, .int p1), (2, .ref a2)]) (pc' := 12) (st' := [.ref qx]) (z_widen (cs' := 1) (ss' := 6) (by decide) (by decide) ?_) rfl rfl rfl rfl
      refine z_astore_n (pc := 12) C dL_follow_12 (i := 3) rfl (by decide) (lv' := [(3, .ref qx), (0, .ref a0), (1, .int p1), (2, .ref a2)]) rfl ?_
      refine z_iconst (pc := 13) C dL_follow_13 ic_1 ?_
      exact z_iret C X dL_follow_14 (by rw [← Option.some.inj h]; exact ⟨rfl, rfl⟩) (by decide) (by decide)
    replace h := (ite_e h).2 hn
    exact nomatch h
def f_L_hand (N : Nat) (s0 : Ob) (s1 : Ob) (s2 : Ob) (s3 : (Nat → Int64)) (p1 : Int32) : Option (Int32 × (Nat → Int64)) := (th (f_X7_hand N s0 s1 s2 p1) (ft_X7_hand N s0 s1 s2 p1) (fun x1 => (some ((0 : Int32), (vp_updL s3 0 (x1).toInt64)))) (fun e2 => (if e2 = 1 then (some ((1 : Int32), s3)) else none)))
theorem m_L_hand {g : Gp} {a0 : Nat} {a2 : Nat} {r0 : Nat → Nat} {r1 : Nat → Nat} {q1_0 : Nat} {r2 : Nat → Nat} {N : Nat} {s0 : Ob} {s1 : Ob} {s2 : Ob} {s3 : (Nat → Int64)} {p1 : Int32} {res : Int32 × (Nat → Int64)} (hg : Ok g) (h : f_L_hand N s0 s1 s2 s3 p1 = some res) : Ctw g yL_hand cL_hand 4 (some .int) [(0, 9, 12, 18)] (zrc 8 1 6 124) [.ref a0, .int p1, .ref a2] (wX7 g a0 r0 s0 ++ wX1 g (r0 3) r1 q1_0 s1 ++ wX5 g q1_0 r2 s2 ++ wAJ g a2 1 s3) (exR (some (.int res.1)) (wX7 g a0 r0 s0 ++ wX1 g (r0 3) r1 q1_0 s1 ++ wX5 g q1_0 r2 s2 ++ wAJ g a2 1 res.2)) := by
  refine ctw_of rfl hg (by show _ ≤ _; exact Nat.le_of_ble_eq_true rfl) (fun K C Xt X => ?_)
  show Zs K 0 0 (wX7 g a0 r0 s0 ++ wX1 g (r0 3) r1 q1_0 s1 ++ wX5 g q1_0 r2 s2 ++ wAJ g a2 1 s3) [(0, .ref a0), (1, .int p1), (2, .ref a2)] 0 []
  unfold f_L_hand at h
  refine z_aload_n (pc := 0) (x := a2) C dL_hand_0 (i := 2) rfl rfl ?_
  refine z_iconst (pc := 1) C dL_hand_1 ic_0 ?_
  refine z_aload_n (pc := 2) (x := a0) C dL_hand_2 (i := 0) rfl rfl ?_
  refine z_iload_n (pc := 3) (x := p1) C dL_hand_3 (i := 1) rfl rfl ?_
  rcases th_e h with ⟨x1, hx1, h⟩ | ⟨e2, he2, h⟩
  · refine z_callV (pc := 4) (As := [.int p1]) (rest := [.int (0 : Int32), .ref a2]) (wr := (wAJ g a2 1 s3)) C dL_hand_4 ml_RL_20 wv_X7_hand (m_X7_hand (a0 := a0) (r0 := r0) (r1 := r1) (q1_0 := q1_0) (r2 := r2) hg hx1) [0, 1, 2, 3, 4, 5, 6, 7, 8, 9, 10, 11, 12, 13, 14, 15, 16] [17] rfl rfl ⟨by decide, by decide⟩ (Nat.le_of_ble_eq_true rfl) ⟨by decide, by decide⟩ rfl rfl rfl rfl rfl rfl rfl (by decide) (ex_k C (cs' := 0) (ss' := 0) (wF := (wX7 g a0 r0 s0 ++ wX1 g (r0 3) r1 q1_0 s1 ++ wX5 g q1_0 r2 s2 ++ wAJ g a2 1 s3)) [1, 2, 3, 4, 5, 6, 7, 8, 9, 10, 11, 12, 13, 14, 15, 16, 17, 0] rfl rfl ?_)
    refine z_i2l (pc := 7) C dL_hand_7 ?_
    refine z_last (pc := 8) C 17 dL_hand_8 rfl (by decide) (ws' := (wX7 g a0 r0 s0 ++ wX1 g (r0 3) r1 q1_0 s1 ++ wX5 g q1_0 r2 s2 ++ wAJ g a2 1 (vp_updL s3 0 (x1).toInt64))) rfl ?_
    refine z_goto (pc := 9) C dL_hand_9 (tgt := 15) (by decide) ?_
    refine z_iconst (pc := 15) C dL_hand_15 ic_0 ?_
    exact z_iret C X dL_hand_16 (by rw [← Option.some.inj h]; exact ⟨rfl, rfl⟩) (by decide) (by decide)
  · refine (Decidable.em (e2 = 1)).elim (fun he => ?_) (fun hn => ?_)
    · subst he
      replace h := (ite_e h).1 rfl
      refine z_callVC (pc := 4) (E := "java/lang/IndexOutOfBoundsException") (As := [.int p1]) (rest := [.int (0 : Int32), .ref a2]) (wr := (wAJ g a2 1 s3)) C Xt dL_hand_4 ml_RL_20 wv_X7_hand (mt_X7_hand (a0 := a0) (r0 := r0) (r1 := r1) (q1_0 := q1_0) (r2 := r2) hg he2) [0, 1, 2, 3, 4, 5, 6, 7, 8, 9, 10, 11, 12, 13, 14, 15, 16] [17] rfl rfl ⟨by decide, by decide⟩ (Nat.le_of_ble_eq_true rfl) ⟨by decide, by decide⟩ rfl rfl rfl rfl rfl rfl rfl (by decide) [] (0, 9, 12, 18) [] rfl (fun z h => nomatch h) (by decide) (by decide) cll_18 cst_1 (fun qx => ?_)
      refine z_sub (ws' := (wX7 g a0 r0 s0 ++ wX1 g (r0 3) r1 q1_0 s1 ++ wX5 g q1_0 r2 s2 ++ wAJ g a2 1 s3)) C [1, 2, 3, 4, 5, 6, 7, 8, 9, 10, 11, 12, 13, 14, 15, 16, 17, 0] rfl rfl ?_
      refine z_to (ws' := (wX7 g a0 r0 s0 ++ wX1 g (r0 3) r1 q1_0 s1 ++ wX5 g q1_0 r2 s2 ++ wAJ g a2 1 s3)) (lv' := [(0, .ref a0), (1, .int p1), (2, .ref a2)]) (pc' := 12) (st' := [.ref qx]) (z_widen (cs' := 1) (ss' := 6) (by decide) (by decide) ?_) rfl rfl rfl rfl
      refine z_astore_n (pc := 12) C dL_hand_12 (i := 3) rfl (by decide) (lv' := [(3, .ref qx), (0, .ref a0), (1, .int p1), (2, .ref a2)]) rfl ?_
      refine z_iconst (pc := 13) C dL_hand_13 ic_1 ?_
      exact z_iret C X dL_hand_14 (by rw [← Option.some.inj h]; exact ⟨rfl, rfl⟩) (by decide) (by decide)
    replace h := (ite_e h).2 hn
    exact nomatch h
def f_L_hint (N : Nat) (q1_0 : Nat) (s0 : Ob) (s1 : Ob) (s2 : Ob) (s3 : (Nat → Int64)) (s4 : (Nat → Nat × Ob)) (p1 : Int32) (p2 : Int32) (p3 : Int32) : Option (Int32 × Ob × Ob × (Nat → Int64) × (Nat → Nat × Ob)) := (th (f_X7_hint N q1_0 s0 s1 s2 s4 p1 p2 p3) (ft_X7_hint N s0 s1 s2 p1 p2 p3) (fun x1 => (some ((0 : Int32), x1.2.1, x1.2.2.1, (vp_updL s3 0 (x1.1).toInt64), x1.2.2.2))) (fun e2 => (if e2 = 1 then (some ((1 : Int32), s0, s1, s3, s4)) else (if e2 = 2 then (some ((2 : Int32), s0, s1, s3, s4)) else none))))
theorem m_L_hint {g : Gp} {a0 : Nat} {a4 : Nat} {r0 : Nat → Nat} {r1 : Nat → Nat} {r2 : Nat → Nat} {f4 : Nat → Option Nat} {pa4 : Nat → Nat} {pr4 : Nat → Nat → Nat} {N : Nat} {q1_0 : Nat} {s0 : Ob} {s1 : Ob} {s2 : Ob} {s3 : (Nat → Int64)} {s4 : (Nat → Nat × Ob)} {p1 : Int32} {p2 : Int32} {p3 : Int32} {res : Int32 × Ob × Ob × (Nat → Int64) × (Nat → Nat × Ob)} (hg : Ok g) (hf4 : ∀ k, k < 20 → f4 k = some (pa4 k)) (h : f_L_hint N q1_0 s0 s1 s2 s3 s4 p1 p2 p3 = some res) : Ctw g yL_hint cL_hint 6 (some .int) [(0, 12, 15, 18), (0, 12, 19, 13)] (zrc 8 1 6 130) [.ref a0, .int p1, .int p2, .int p3, .ref a4] (wX7 g a0 r0 s0 ++ wX1 g (r0 3) r1 q1_0 s1 ++ wX5 g q1_0 r2 s2 ++ wAJ g a4 1 s3 ++ wPs g (r0 4) 20 f4 pa4 pr4 s4) (exR (some (.int res.1)) (wX7 g a0 r0 res.2.1 ++ wX1 g (r0 3) r1 q1_0 res.2.2.1 ++ wX5 g q1_0 r2 s2 ++ wAJ g a4 1 res.2.2.2.1 ++ wPs g (r0 4) 20 f4 pa4 pr4 res.2.2.2.2)) := by
  refine ctw_of rfl hg (by show _ ≤ _; exact Nat.le_of_ble_eq_true rfl) (fun K C Xt X => ?_)
  show Zs K 0 0 (wX7 g a0 r0 s0 ++ wX1 g (r0 3) r1 q1_0 s1 ++ wX5 g q1_0 r2 s2 ++ wAJ g a4 1 s3 ++ wPs g (r0 4) 20 f4 pa4 pr4 s4) [(0, .ref a0), (1, .int p1), (2, .int p2), (3, .int p3), (4, .ref a4)] 0 []
  unfold f_L_hint at h
  refine z_aload (pc := 0) (x := a4) C dL_hint_0 rfl ?_
  refine z_iconst (pc := 2) C dL_hint_2 ic_0 ?_
  refine z_aload_n (pc := 3) (x := a0) C dL_hint_3 (i := 0) rfl rfl ?_
  refine z_iload_n (pc := 4) (x := p1) C dL_hint_4 (i := 1) rfl rfl ?_
  refine z_iload_n (pc := 5) (x := p2) C dL_hint_5 (i := 2) rfl rfl ?_
  refine z_iload_n (pc := 6) (x := p3) C dL_hint_6 (i := 3) rfl rfl ?_
  rcases th_e h with ⟨x1, hx1, h⟩ | ⟨e2, he2, h⟩
  · refine z_callVT2 (pc := 7) (As := [.int p1, .int p2, .int p3]) (rest := [.int (0 : Int32), .ref a4]) (wr := (wAJ g a4 1 s3)) C dL_hint_7 ml_RL_71 wv_X7_hint (m_X7_hint (a0 := a0) (r0 := r0) (r1 := r1) (r2 := r2) (f3 := f4) (pa3 := pa4) (pr3 := pr4) (q1_0 := q1_0) hg hf4 hx1) [0, 1, 2, 3, 4, 5, 6, 7, 8, 9, 10, 11, 12, 13, 14, 15, 16] [17] rfl rfl ⟨by decide, by decide⟩ (Nat.le_of_ble_eq_true rfl) ⟨by decide, by decide⟩ rfl rfl rfl rfl rfl rfl rfl (by decide) (ex_kT2 C (cs' := 0) (ss' := 0) (A' := (wX7 g a0 r0 x1.2.1 ++ wX1 g (r0 3) r1 q1_0 x1.2.2.1 ++ wX5 g q1_0 r2 s2 ++ wAJ g a4 1 s3)) [1, 2, 3, 4, 5, 6, 7, 8, 9, 10, 11, 12, 13, 14, 15, 16, 17, 0] rfl rfl ?_)
    refine z_i2l (pc := 10) C dL_hint_10 ?_
    refine z_last (pc := 11) C 17 dL_hint_11 rfl (by decide) (ws' := (wX7 g a0 r0 x1.2.1 ++ wX1 g (r0 3) r1 q1_0 x1.2.2.1 ++ wX5 g q1_0 r2 s2 ++ wAJ g a4 1 (vp_updL s3 0 (x1.1).toInt64) ++ wPs g (r0 4) 20 f4 pa4 pr4 x1.2.2.2)) rfl ?_
    refine z_goto (pc := 12) C dL_hint_12 (tgt := 23) (by decide) ?_
    refine z_iconst (pc := 23) C dL_hint_23 ic_0 ?_
    exact z_iret C X dL_hint_24 (by rw [← Option.some.inj h]; exact ⟨rfl, rfl⟩) (by decide) (by decide)
  · refine (Decidable.em (e2 = 1)).elim (fun he => ?_) (fun hn => ?_)
    · subst he
      replace h := (ite_e h).1 rfl
      refine z_callVCT1 (A' := (wX7 g a0 r0 s0 ++ wX1 g (r0 3) r1 q1_0 s1 ++ wX5 g q1_0 r2 s2 ++ wAJ g a4 1 s3)) (pc := 7) (E := "java/lang/IndexOutOfBoundsException") (As := [.int p1, .int p2, .int p3]) (rest := [.int (0 : Int32), .ref a4]) (wr := (wAJ g a4 1 s3)) C Xt dL_hint_7 ml_RL_71 wv_X7_hint (mt_X7_hint (a0 := a0) (r0 := r0) (r1 := r1) (q1_0 := q1_0) (r2 := r2) hg he2) [0, 1, 2, 3, 4, 5, 6, 7, 8, 9, 10, 11, 12, 13, 14, 15, 16] [17] [1, 2, 3, 4, 5, 6, 7, 8, 9, 10, 11, 12, 13, 14, 15, 16, 17, 0] rfl rfl ⟨by decide, by decide⟩ (Nat.le_of_ble_eq_true rfl) ⟨by decide, by decide⟩ rfl rfl rfl rfl rfl rfl rfl (by decide) rfl rfl [] (0, 12, 15, 18) [(0, 12, 19, 13)] rfl (fun z h => nomatch h) (by decide) (by decide) cll_18 cst_1 (fun qx => ?_)
      refine z_to (ws' := (wX7 g a0 r0 s0 ++ wX1 g (r0 3) r1 q1_0 s1 ++ wX5 g q1_0 r2 s2 ++ wAJ g a4 1 s3 ++ wPs g (r0 4) 20 f4 pa4 pr4 s4)) (lv' := [(0, .ref a0), (1, .int p1), (2, .int p2), (3, .int p3), (4, .ref a4)]) (pc' := 15) (st' := [.ref qx]) (z_widen (cs' := 1) (ss' := 6) (by decide) (by decide) ?_) rfl rfl rfl rfl
      refine z_astore (pc := 15) C dL_hint_15 (by decide) (lv' := [(5, .ref qx), (0, .ref a0), (1, .int p1), (2, .int p2), (3, .int p3), (4, .ref a4)]) rfl ?_
      refine z_iconst (pc := 17) C dL_hint_17 ic_1 ?_
      exact z_iret C X dL_hint_18 (by rw [← Option.some.inj h]; exact ⟨rfl, rfl⟩) (by decide) (by decide)
    replace h := (ite_e h).2 hn
    refine (Decidable.em (e2 = 2)).elim (fun he => ?_) (fun hn => ?_)
    · subst he
      replace h := (ite_e h).1 rfl
      refine z_callVCT1 (A' := (wX7 g a0 r0 s0 ++ wX1 g (r0 3) r1 q1_0 s1 ++ wX5 g q1_0 r2 s2 ++ wAJ g a4 1 s3)) (pc := 7) (E := "java/lang/IllegalArgumentException") (As := [.int p1, .int p2, .int p3]) (rest := [.int (0 : Int32), .ref a4]) (wr := (wAJ g a4 1 s3)) C Xt dL_hint_7 ml_RL_71 wv_X7_hint (mt_X7_hint (a0 := a0) (r0 := r0) (r1 := r1) (q1_0 := q1_0) (r2 := r2) hg he2) [0, 1, 2, 3, 4, 5, 6, 7, 8, 9, 10, 11, 12, 13, 14, 15, 16] [17] [1, 2, 3, 4, 5, 6, 7, 8, 9, 10, 11, 12, 13, 14, 15, 16, 17, 0] rfl rfl ⟨by decide, by decide⟩ (Nat.le_of_ble_eq_true rfl) ⟨by decide, by decide⟩ rfl rfl rfl rfl rfl rfl rfl (by decide) rfl rfl [(0, 12, 15, 18)] (0, 12, 19, 13) [] rfl (hp_21 hg) (by decide) (by decide) cll_13 cst_2 (fun qx => ?_)
      refine z_to (ws' := (wX7 g a0 r0 s0 ++ wX1 g (r0 3) r1 q1_0 s1 ++ wX5 g q1_0 r2 s2 ++ wAJ g a4 1 s3 ++ wPs g (r0 4) 20 f4 pa4 pr4 s4)) (lv' := [(0, .ref a0), (1, .int p1), (2, .int p2), (3, .int p3), (4, .ref a4)]) (pc' := 19) (st' := [.ref qx]) (z_widen (cs' := 1) (ss' := 6) (by decide) (by decide) ?_) rfl rfl rfl rfl
      refine z_astore (pc := 19) C dL_hint_19 (by decide) (lv' := [(5, .ref qx), (0, .ref a0), (1, .int p1), (2, .int p2), (3, .int p3), (4, .ref a4)]) rfl ?_
      refine z_iconst (pc := 21) C dL_hint_21 ic_2 ?_
      exact z_iret C X dL_hint_22 (by rw [← Option.some.inj h]; exact ⟨rfl, rfl⟩) (by decide) (by decide)
    replace h := (ite_e h).2 hn
    exact nomatch h
def f_L_isCritical_16 (N : Nat) (s0 : Ob) (s1 : Ob) (s2 : Ob) (p1 : Int32) (p2 : Int32)  (t2 : Int64) (s3 : (Nat → Int64)) : Option (Int32 × (Nat → Int64)) := (some ((0 : Int32), (vp_updL s3 0 t2)))
theorem m_L_isCritical_16 {K : Kt} {g : Gp} {a0 : Nat} {a3 : Nat} {r0 : Nat → Nat} {r1 : Nat → Nat} {q1_0 : Nat} {r2 : Nat → Nat} {N : Nat} {s0 : Ob} {s1 : Ob} {s2 : Ob} {p1 : Int32} {p2 : Int32} {res : Int32 × (Nat → Int64)} (hg : Ok g) (C : Cx K g cL_isCritical RL 5 (zrc 8 1 6 126)) (Xt : Kx K [(0, 17, 20, 18)]) (X : Rx K (exR (some (.int res.1)) (wX7 g a0 r0 s0 ++ wX1 g (r0 3) r1 q1_0 s1 ++ wX5 g q1_0 r2 s2 ++ wAJ g a3 1 res.2)) 1 6 (some .int)) (t2 : Int64) (s3 : (Nat → Int64)) (h : f_L_isCritical_16 N s0 s1 s2 p1 p2 t2 s3 = some res) : Zs K 0 0 (wX7 g a0 r0 s0 ++ wX1 g (r0 3) r1 q1_0 s1 ++ wX5 g q1_0 r2 s2 ++ wAJ g a3 1 s3) [] 16 [.long t2, .int (0 : Int32), .ref a3] := by
  unfold f_L_isCritical_16 at h
  refine z_last (pc := 16) C 17 dL_isCritical_16 rfl (by decide) (ws' := (wX7 g a0 r0 s0 ++ wX1 g (r0 3) r1 q1_0 s1 ++ wX5 g q1_0 r2 s2 ++ wAJ g a3 1 (vp_updL s3 0 t2))) rfl ?_
  refine z_goto (pc := 17) C dL_isCritical_17 (tgt := 24) (by decide) ?_
  refine z_iconst (pc := 24) C dL_isCritical_24 ic_0 ?_
  exact z_iret C X dL_isCritical_25 (by rw [← Option.some.inj h]; exact ⟨rfl, rfl⟩) (by decide) (by decide)
def f_L_isCritical (N : Nat) (s0 : Ob) (s1 : Ob) (s2 : Ob) (s3 : (Nat → Int64)) (p1 : Int32) (p2 : Int32) : Option (Int32 × (Nat → Int64)) := (th (f_X7_isCritical N s0 s1 s2 p1 p2) (ft_X7_isCritical N s0 s1 s2 p1 p2) (fun x1 => (if x1 = 0 then (f_L_isCritical_16 N s0 s1 s2 p1 p2 (0 : Int64) s3) else (f_L_isCritical_16 N s0 s1 s2 p1 p2 (1 : Int64) s3))) (fun e2 => (if e2 = 1 then (some ((1 : Int32), s3)) else none)))
theorem m_L_isCritical {g : Gp} {a0 : Nat} {a3 : Nat} {r0 : Nat → Nat} {r1 : Nat → Nat} {q1_0 : Nat} {r2 : Nat → Nat} {N : Nat} {s0 : Ob} {s1 : Ob} {s2 : Ob} {s3 : (Nat → Int64)} {p1 : Int32} {p2 : Int32} {res : Int32 × (Nat → Int64)} (hg : Ok g) (h : f_L_isCritical N s0 s1 s2 s3 p1 p2 = some res) : Ctw g yL_isCritical cL_isCritical 5 (some .int) [(0, 17, 20, 18)] (zrc 8 1 6 126) [.ref a0, .int p1, .int p2, .ref a3] (wX7 g a0 r0 s0 ++ wX1 g (r0 3) r1 q1_0 s1 ++ wX5 g q1_0 r2 s2 ++ wAJ g a3 1 s3) (exR (some (.int res.1)) (wX7 g a0 r0 s0 ++ wX1 g (r0 3) r1 q1_0 s1 ++ wX5 g q1_0 r2 s2 ++ wAJ g a3 1 res.2)) := by
  refine ctw_of rfl hg (by show _ ≤ _; exact Nat.le_of_ble_eq_true rfl) (fun K C Xt X => ?_)
  show Zs K 0 0 (wX7 g a0 r0 s0 ++ wX1 g (r0 3) r1 q1_0 s1 ++ wX5 g q1_0 r2 s2 ++ wAJ g a3 1 s3) [(0, .ref a0), (1, .int p1), (2, .int p2), (3, .ref a3)] 0 []
  unfold f_L_isCritical at h
  refine z_aload_n (pc := 0) (x := a3) C dL_isCritical_0 (i := 3) rfl rfl ?_
  refine z_iconst (pc := 1) C dL_isCritical_1 ic_0 ?_
  refine z_aload_n (pc := 2) (x := a0) C dL_isCritical_2 (i := 0) rfl rfl ?_
  refine z_iload_n (pc := 3) (x := p1) C dL_isCritical_3 (i := 1) rfl rfl ?_
  refine z_iload_n (pc := 4) (x := p2) C dL_isCritical_4 (i := 2) rfl rfl ?_
  rcases th_e h with ⟨x1, hx1, h⟩ | ⟨e2, he2, h⟩
  · refine z_callV (pc := 5) (As := [.int p1, .int p2]) (rest := [.int (0 : Int32), .ref a3]) (wr := (wAJ g a3 1 s3)) C dL_isCritical_5 ml_RL_35 wv_X7_isCritical (m_X7_isCritical (a0 := a0) (r0 := r0) (r1 := r1) (q1_0 := q1_0) (r2 := r2) hg hx1) [0, 1, 2, 3, 4, 5, 6, 7, 8, 9, 10, 11, 12, 13, 14, 15, 16] [17] rfl rfl ⟨by decide, by decide⟩ (Nat.le_of_ble_eq_true rfl) ⟨by decide, by decide⟩ rfl rfl rfl rfl rfl rfl rfl (by decide) (ex_k C (cs' := 0) (ss' := 0) (wF := (wX7 g a0 r0 s0 ++ wX1 g (r0 3) r1 q1_0 s1 ++ wX5 g q1_0 r2 s2 ++ wAJ g a3 1 s3)) [1, 2, 3, 4, 5, 6, 7, 8, 9, 10, 11, 12, 13, 14, 15, 16, 17, 0] rfl rfl ?_)
    refine z_if_eq (pc := 8) C dL_isCritical_8 (tgt := 15) (by decide) (fun hc => ?_) (fun hc => ?_)
    · replace h := (ite_e h).1 hc
      refine z_lconst (pc := 15) (v := (0 : Int64)) C dL_isCritical_15 rfl ?_
      refine z_lv (lv' := []) [] rfl ?_
      exact m_L_isCritical_16 (a0 := a0) (a3 := a3) (r0 := r0) (r1 := r1) (q1_0 := q1_0) (r2 := r2) hg C Xt X (0 : Int64) s3 h
    · replace h := (ite_e h).2 hc
      refine z_lconst (pc := 11) (v := (1 : Int64)) C dL_isCritical_11 rfl ?_
      refine z_goto (pc := 12) C dL_isCritical_12 (tgt := 16) (by decide) ?_
      refine z_lv (lv' := []) [] rfl ?_
      exact m_L_isCritical_16 (a0 := a0) (a3 := a3) (r0 := r0) (r1 := r1) (q1_0 := q1_0) (r2 := r2) hg C Xt X (1 : Int64) s3 h
  · refine (Decidable.em (e2 = 1)).elim (fun he => ?_) (fun hn => ?_)
    · subst he
      replace h := (ite_e h).1 rfl
      refine z_callVC (pc := 5) (E := "java/lang/IndexOutOfBoundsException") (As := [.int p1, .int p2]) (rest := [.int (0 : Int32), .ref a3]) (wr := (wAJ g a3 1 s3)) C Xt dL_isCritical_5 ml_RL_35 wv_X7_isCritical (mt_X7_isCritical (a0 := a0) (r0 := r0) (r1 := r1) (q1_0 := q1_0) (r2 := r2) hg he2) [0, 1, 2, 3, 4, 5, 6, 7, 8, 9, 10, 11, 12, 13, 14, 15, 16] [17] rfl rfl ⟨by decide, by decide⟩ (Nat.le_of_ble_eq_true rfl) ⟨by decide, by decide⟩ rfl rfl rfl rfl rfl rfl rfl (by decide) [] (0, 17, 20, 18) [] rfl (fun z h => nomatch h) (by decide) (by decide) cll_18 cst_1 (fun qx => ?_)
      refine z_sub (ws' := (wX7 g a0 r0 s0 ++ wX1 g (r0 3) r1 q1_0 s1 ++ wX5 g q1_0 r2 s2 ++ wAJ g a3 1 s3)) C [1, 2, 3, 4, 5, 6, 7, 8, 9, 10, 11, 12, 13, 14, 15, 16, 17, 0] rfl rfl ?_
      refine z_to (ws' := (wX7 g a0 r0 s0 ++ wX1 g (r0 3) r1 q1_0 s1 ++ wX5 g q1_0 r2 s2 ++ wAJ g a3 1 s3)) (lv' := [(0, .ref a0), (1, .int p1), (2, .int p2), (3, .ref a3)]) (pc' := 20) (st' := [.ref qx]) (z_widen (cs' := 1) (ss' := 6) (by decide) (by decide) ?_) rfl rfl rfl rfl
      refine z_astore (pc := 20) C dL_isCritical_20 (by decide) (lv' := [(4, .ref qx), (0, .ref a0), (1, .int p1), (2, .int p2), (3, .ref a3)]) rfl ?_
      refine z_iconst (pc := 22) C dL_isCritical_22 ic_1 ?_
      exact z_iret C X dL_isCritical_23 (by rw [← Option.some.inj h]; exact ⟨rfl, rfl⟩) (by decide) (by decide)
    replace h := (ite_e h).2 hn
    exact nomatch h
def f_L_isTouched_16 (N : Nat) (s0 : Ob) (s1 : Ob) (s2 : Ob) (p1 : Int32) (p2 : Int32)  (t2 : Int64) (s3 : (Nat → Int64)) : Option (Int32 × (Nat → Int64)) := (some ((0 : Int32), (vp_updL s3 0 t2)))
theorem m_L_isTouched_16 {K : Kt} {g : Gp} {a0 : Nat} {a3 : Nat} {r0 : Nat → Nat} {r1 : Nat → Nat} {q1_0 : Nat} {r2 : Nat → Nat} {N : Nat} {s0 : Ob} {s1 : Ob} {s2 : Ob} {p1 : Int32} {p2 : Int32} {res : Int32 × (Nat → Int64)} (hg : Ok g) (C : Cx K g cL_isTouched RL 5 (zrc 9 1 6 148)) (Xt : Kx K [(0, 17, 20, 18)]) (X : Rx K (exR (some (.int res.1)) (wX7 g a0 r0 s0 ++ wX1 g (r0 3) r1 q1_0 s1 ++ wX5 g q1_0 r2 s2 ++ wAJ g a3 1 res.2)) 1 6 (some .int)) (t2 : Int64) (s3 : (Nat → Int64)) (h : f_L_isTouched_16 N s0 s1 s2 p1 p2 t2 s3 = some res) : Zs K 0 0 (wX7 g a0 r0 s0 ++ wX1 g (r0 3) r1 q1_0 s1 ++ wX5 g q1_0 r2 s2 ++ wAJ g a3 1 s3) [] 16 [.long t2, .int (0 : Int32), .ref a3] := by
  unfold f_L_isTouched_16 at h
  refine z_last (pc := 16) C 17 dL_isTouched_16 rfl (by decide) (ws' := (wX7 g a0 r0 s0 ++ wX1 g (r0 3) r1 q1_0 s1 ++ wX5 g q1_0 r2 s2 ++ wAJ g a3 1 (vp_updL s3 0 t2))) rfl ?_
  refine z_goto (pc := 17) C dL_isTouched_17 (tgt := 24) (by decide) ?_
  refine z_iconst (pc := 24) C dL_isTouched_24 ic_0 ?_
  exact z_iret C X dL_isTouched_25 (by rw [← Option.some.inj h]; exact ⟨rfl, rfl⟩) (by decide) (by decide)
def f_L_isTouched (N : Nat) (s0 : Ob) (s1 : Ob) (s2 : Ob) (s3 : (Nat → Int64)) (p1 : Int32) (p2 : Int32) : Option (Int32 × (Nat → Int64)) := (th (f_X7_isTouched N s0 s1 s2 p1 p2) (ft_X7_isTouched N s0 s1 s2 p1 p2) (fun x1 => (if x1 = 0 then (f_L_isTouched_16 N s0 s1 s2 p1 p2 (0 : Int64) s3) else (f_L_isTouched_16 N s0 s1 s2 p1 p2 (1 : Int64) s3))) (fun e2 => (if e2 = 1 then (some ((1 : Int32), s3)) else none)))
theorem m_L_isTouched {g : Gp} {a0 : Nat} {a3 : Nat} {r0 : Nat → Nat} {r1 : Nat → Nat} {q1_0 : Nat} {r2 : Nat → Nat} {N : Nat} {s0 : Ob} {s1 : Ob} {s2 : Ob} {s3 : (Nat → Int64)} {p1 : Int32} {p2 : Int32} {res : Int32 × (Nat → Int64)} (hg : Ok g) (h : f_L_isTouched N s0 s1 s2 s3 p1 p2 = some res) : Ctw g yL_isTouched cL_isTouched 5 (some .int) [(0, 17, 20, 18)] (zrc 9 1 6 148) [.ref a0, .int p1, .int p2, .ref a3] (wX7 g a0 r0 s0 ++ wX1 g (r0 3) r1 q1_0 s1 ++ wX5 g q1_0 r2 s2 ++ wAJ g a3 1 s3) (exR (some (.int res.1)) (wX7 g a0 r0 s0 ++ wX1 g (r0 3) r1 q1_0 s1 ++ wX5 g q1_0 r2 s2 ++ wAJ g a3 1 res.2)) := by
  refine ctw_of rfl hg (by show _ ≤ _; exact Nat.le_of_ble_eq_true rfl) (fun K C Xt X => ?_)
  show Zs K 0 0 (wX7 g a0 r0 s0 ++ wX1 g (r0 3) r1 q1_0 s1 ++ wX5 g q1_0 r2 s2 ++ wAJ g a3 1 s3) [(0, .ref a0), (1, .int p1), (2, .int p2), (3, .ref a3)] 0 []
  unfold f_L_isTouched at h
  refine z_aload_n (pc := 0) (x := a3) C dL_isTouched_0 (i := 3) rfl rfl ?_
  refine z_iconst (pc := 1) C dL_isTouched_1 ic_0 ?_
  refine z_aload_n (pc := 2) (x := a0) C dL_isTouched_2 (i := 0) rfl rfl ?_
  refine z_iload_n (pc := 3) (x := p1) C dL_isTouched_3 (i := 1) rfl rfl ?_
  refine z_iload_n (pc := 4) (x := p2) C dL_isTouched_4 (i := 2) rfl rfl ?_
  rcases th_e h with ⟨x1, hx1, h⟩ | ⟨e2, he2, h⟩
  · refine z_callV (pc := 5) (As := [.int p1, .int p2]) (rest := [.int (0 : Int32), .ref a3]) (wr := (wAJ g a3 1 s3)) C dL_isTouched_5 ml_RL_44 wv_X7_isTouched (m_X7_isTouched (a0 := a0) (r0 := r0) (r1 := r1) (q1_0 := q1_0) (r2 := r2) hg hx1) [0, 1, 2, 3, 4, 5, 6, 7, 8, 9, 10, 11, 12, 13, 14, 15, 16] [17] rfl rfl ⟨by decide, by decide⟩ (Nat.le_of_ble_eq_true rfl) ⟨by decide, by decide⟩ rfl rfl rfl rfl rfl rfl rfl (by decide) (ex_k C (cs' := 0) (ss' := 0) (wF := (wX7 g a0 r0 s0 ++ wX1 g (r0 3) r1 q1_0 s1 ++ wX5 g q1_0 r2 s2 ++ wAJ g a3 1 s3)) [1, 2, 3, 4, 5, 6, 7, 8, 9, 10, 11, 12, 13, 14, 15, 16, 17, 0] rfl rfl ?_)
    refine z_if_eq (pc := 8) C dL_isTouched_8 (tgt := 15) (by decide) (fun hc => ?_) (fun hc => ?_)
    · replace h := (ite_e h).1 hc
      refine z_lconst (pc := 15) (v := (0 : Int64)) C dL_isTouched_15 rfl ?_
      refine z_lv (lv' := []) [] rfl ?_
      exact m_L_isTouched_16 (a0 := a0) (a3 := a3) (r0 := r0) (r1 := r1) (q1_0 := q1_0) (r2 := r2) hg C Xt X (0 : Int64) s3 h
    · replace h := (ite_e h).2 hc
      refine z_lconst (pc := 11) (v := (1 : Int64)) C dL_isTouched_11 rfl ?_
      refine z_goto (pc := 12) C dL_isTouched_12 (tgt := 16) (by decide) ?_
      refine z_lv (lv' := []) [] rfl ?_
      exact m_L_isTouched_16 (a0 := a0) (a3 := a3) (r0 := r0) (r1 := r1) (q1_0 := q1_0) (r2 := r2) hg C Xt X (1 : Int64) s3 h
  · refine (Decidable.em (e2 = 1)).elim (fun he => ?_) (fun hn => ?_)
    · subst he
      replace h := (ite_e h).1 rfl
      refine z_callVC (pc := 5) (E := "java/lang/IndexOutOfBoundsException") (As := [.int p1, .int p2]) (rest := [.int (0 : Int32), .ref a3]) (wr := (wAJ g a3 1 s3)) C Xt dL_isTouched_5 ml_RL_44 wv_X7_isTouched (mt_X7_isTouched (a0 := a0) (r0 := r0) (r1 := r1) (q1_0 := q1_0) (r2 := r2) hg he2) [0, 1, 2, 3, 4, 5, 6, 7, 8, 9, 10, 11, 12, 13, 14, 15, 16] [17] rfl rfl ⟨by decide, by decide⟩ (Nat.le_of_ble_eq_true rfl) ⟨by decide, by decide⟩ rfl rfl rfl rfl rfl rfl rfl (by decide) [] (0, 17, 20, 18) [] rfl (fun z h => nomatch h) (by decide) (by decide) cll_18 cst_1 (fun qx => ?_)
      refine z_sub (ws' := (wX7 g a0 r0 s0 ++ wX1 g (r0 3) r1 q1_0 s1 ++ wX5 g q1_0 r2 s2 ++ wAJ g a3 1 s3)) C [1, 2, 3, 4, 5, 6, 7, 8, 9, 10, 11, 12, 13, 14, 15, 16, 17, 0] rfl rfl ?_
      refine z_to (ws' := (wX7 g a0 r0 s0 ++ wX1 g (r0 3) r1 q1_0 s1 ++ wX5 g q1_0 r2 s2 ++ wAJ g a3 1 s3)) (lv' := [(0, .ref a0), (1, .int p1), (2, .int p2), (3, .ref a3)]) (pc' := 20) (st' := [.ref qx]) (z_widen (cs' := 1) (ss' := 6) (by decide) (by decide) ?_) rfl rfl rfl rfl
      refine z_astore (pc := 20) C dL_isTouched_20 (by decide) (lv' := [(4, .ref qx), (0, .ref a0), (1, .int p1), (2, .int p2), (3, .ref a3)]) rfl ?_
      refine z_iconst (pc := 22) C dL_isTouched_22 ic_1 ?_
      exact z_iret C X dL_isTouched_23 (by rw [← Option.some.inj h]; exact ⟨rfl, rfl⟩) (by decide) (by decide)
    replace h := (ite_e h).2 hn
    exact nomatch h
def f_L_isUseless_16 (N : Nat) (s0 : Ob) (s1 : Ob) (s2 : Ob) (p1 : Int32) (p2 : Int32)  (t2 : Int64) (s3 : (Nat → Int64)) : Option (Int32 × (Nat → Int64)) := (some ((0 : Int32), (vp_updL s3 0 t2)))
theorem m_L_isUseless_16 {K : Kt} {g : Gp} {a0 : Nat} {a3 : Nat} {r0 : Nat → Nat} {r1 : Nat → Nat} {q1_0 : Nat} {r2 : Nat → Nat} {N : Nat} {s0 : Ob} {s1 : Ob} {s2 : Ob} {p1 : Int32} {p2 : Int32} {res : Int32 × (Nat → Int64)} (hg : Ok g) (C : Cx K g cL_isUseless RL 5 (zrc 8 1 6 126)) (Xt : Kx K [(0, 17, 20, 18)]) (X : Rx K (exR (some (.int res.1)) (wX7 g a0 r0 s0 ++ wX1 g (r0 3) r1 q1_0 s1 ++ wX5 g q1_0 r2 s2 ++ wAJ g a3 1 res.2)) 1 6 (some .int)) (t2 : Int64) (s3 : (Nat → Int64)) (h : f_L_isUseless_16 N s0 s1 s2 p1 p2 t2 s3 = some res) : Zs K 0 0 (wX7 g a0 r0 s0 ++ wX1 g (r0 3) r1 q1_0 s1 ++ wX5 g q1_0 r2 s2 ++ wAJ g a3 1 s3) [] 16 [.long t2, .int (0 : Int32), .ref a3] := by
  unfold f_L_isUseless_16 at h
  refine z_last (pc := 16) C 17 dL_isUseless_16 rfl (by decide) (ws' := (wX7 g a0 r0 s0 ++ wX1 g (r0 3) r1 q1_0 s1 ++ wX5 g q1_0 r2 s2 ++ wAJ g a3 1 (vp_updL s3 0 t2))) rfl ?_
  refine z_goto (pc := 17) C dL_isUseless_17 (tgt := 24) (by decide) ?_
  refine z_iconst (pc := 24) C dL_isUseless_24 ic_0 ?_
  exact z_iret C X dL_isUseless_25 (by rw [← Option.some.inj h]; exact ⟨rfl, rfl⟩) (by decide) (by decide)
def f_L_isUseless (N : Nat) (s0 : Ob) (s1 : Ob) (s2 : Ob) (s3 : (Nat → Int64)) (p1 : Int32) (p2 : Int32) : Option (Int32 × (Nat → Int64)) := (th (f_X7_isUseless N s0 s1 s2 p1 p2) (ft_X7_isUseless N s0 s1 s2 p1 p2) (fun x1 => (if x1 = 0 then (f_L_isUseless_16 N s0 s1 s2 p1 p2 (0 : Int64) s3) else (f_L_isUseless_16 N s0 s1 s2 p1 p2 (1 : Int64) s3))) (fun e2 => (if e2 = 1 then (some ((1 : Int32), s3)) else none)))
theorem m_L_isUseless {g : Gp} {a0 : Nat} {a3 : Nat} {r0 : Nat → Nat} {r1 : Nat → Nat} {q1_0 : Nat} {r2 : Nat → Nat} {N : Nat} {s0 : Ob} {s1 : Ob} {s2 : Ob} {s3 : (Nat → Int64)} {p1 : Int32} {p2 : Int32} {res : Int32 × (Nat → Int64)} (hg : Ok g) (h : f_L_isUseless N s0 s1 s2 s3 p1 p2 = some res) : Ctw g yL_isUseless cL_isUseless 5 (some .int) [(0, 17, 20, 18)] (zrc 8 1 6 126) [.ref a0, .int p1, .int p2, .ref a3] (wX7 g a0 r0 s0 ++ wX1 g (r0 3) r1 q1_0 s1 ++ wX5 g q1_0 r2 s2 ++ wAJ g a3 1 s3) (exR (some (.int res.1)) (wX7 g a0 r0 s0 ++ wX1 g (r0 3) r1 q1_0 s1 ++ wX5 g q1_0 r2 s2 ++ wAJ g a3 1 res.2)) := by
  refine ctw_of rfl hg (by show _ ≤ _; exact Nat.le_of_ble_eq_true rfl) (fun K C Xt X => ?_)
  show Zs K 0 0 (wX7 g a0 r0 s0 ++ wX1 g (r0 3) r1 q1_0 s1 ++ wX5 g q1_0 r2 s2 ++ wAJ g a3 1 s3) [(0, .ref a0), (1, .int p1), (2, .int p2), (3, .ref a3)] 0 []
  unfold f_L_isUseless at h
  refine z_aload_n (pc := 0) (x := a3) C dL_isUseless_0 (i := 3) rfl rfl ?_
  refine z_iconst (pc := 1) C dL_isUseless_1 ic_0 ?_
  refine z_aload_n (pc := 2) (x := a0) C dL_isUseless_2 (i := 0) rfl rfl ?_
  refine z_iload_n (pc := 3) (x := p1) C dL_isUseless_3 (i := 1) rfl rfl ?_
  refine z_iload_n (pc := 4) (x := p2) C dL_isUseless_4 (i := 2) rfl rfl ?_
  rcases th_e h with ⟨x1, hx1, h⟩ | ⟨e2, he2, h⟩
  · refine z_callV (pc := 5) (As := [.int p1, .int p2]) (rest := [.int (0 : Int32), .ref a3]) (wr := (wAJ g a3 1 s3)) C dL_isUseless_5 ml_RL_31 wv_X7_isUseless (m_X7_isUseless (a0 := a0) (r0 := r0) (r1 := r1) (q1_0 := q1_0) (r2 := r2) hg hx1) [0, 1, 2, 3, 4, 5, 6, 7, 8, 9, 10, 11, 12, 13, 14, 15, 16] [17] rfl rfl ⟨by decide, by decide⟩ (Nat.le_of_ble_eq_true rfl) ⟨by decide, by decide⟩ rfl rfl rfl rfl rfl rfl rfl (by decide) (ex_k C (cs' := 0) (ss' := 0) (wF := (wX7 g a0 r0 s0 ++ wX1 g (r0 3) r1 q1_0 s1 ++ wX5 g q1_0 r2 s2 ++ wAJ g a3 1 s3)) [1, 2, 3, 4, 5, 6, 7, 8, 9, 10, 11, 12, 13, 14, 15, 16, 17, 0] rfl rfl ?_)
    refine z_if_eq (pc := 8) C dL_isUseless_8 (tgt := 15) (by decide) (fun hc => ?_) (fun hc => ?_)
    · replace h := (ite_e h).1 hc
      refine z_lconst (pc := 15) (v := (0 : Int64)) C dL_isUseless_15 rfl ?_
      refine z_lv (lv' := []) [] rfl ?_
      exact m_L_isUseless_16 (a0 := a0) (a3 := a3) (r0 := r0) (r1 := r1) (q1_0 := q1_0) (r2 := r2) hg C Xt X (0 : Int64) s3 h
    · replace h := (ite_e h).2 hc
      refine z_lconst (pc := 11) (v := (1 : Int64)) C dL_isUseless_11 rfl ?_
      refine z_goto (pc := 12) C dL_isUseless_12 (tgt := 16) (by decide) ?_
      refine z_lv (lv' := []) [] rfl ?_
      exact m_L_isUseless_16 (a0 := a0) (a3 := a3) (r0 := r0) (r1 := r1) (q1_0 := q1_0) (r2 := r2) hg C Xt X (1 : Int64) s3 h
  · refine (Decidable.em (e2 = 1)).elim (fun he => ?_) (fun hn => ?_)
    · subst he
      replace h := (ite_e h).1 rfl
      refine z_callVC (pc := 5) (E := "java/lang/IndexOutOfBoundsException") (As := [.int p1, .int p2]) (rest := [.int (0 : Int32), .ref a3]) (wr := (wAJ g a3 1 s3)) C Xt dL_isUseless_5 ml_RL_31 wv_X7_isUseless (mt_X7_isUseless (a0 := a0) (r0 := r0) (r1 := r1) (q1_0 := q1_0) (r2 := r2) hg he2) [0, 1, 2, 3, 4, 5, 6, 7, 8, 9, 10, 11, 12, 13, 14, 15, 16] [17] rfl rfl ⟨by decide, by decide⟩ (Nat.le_of_ble_eq_true rfl) ⟨by decide, by decide⟩ rfl rfl rfl rfl rfl rfl rfl (by decide) [] (0, 17, 20, 18) [] rfl (fun z h => nomatch h) (by decide) (by decide) cll_18 cst_1 (fun qx => ?_)
      refine z_sub (ws' := (wX7 g a0 r0 s0 ++ wX1 g (r0 3) r1 q1_0 s1 ++ wX5 g q1_0 r2 s2 ++ wAJ g a3 1 s3)) C [1, 2, 3, 4, 5, 6, 7, 8, 9, 10, 11, 12, 13, 14, 15, 16, 17, 0] rfl rfl ?_
      refine z_to (ws' := (wX7 g a0 r0 s0 ++ wX1 g (r0 3) r1 q1_0 s1 ++ wX5 g q1_0 r2 s2 ++ wAJ g a3 1 s3)) (lv' := [(0, .ref a0), (1, .int p1), (2, .int p2), (3, .ref a3)]) (pc' := 20) (st' := [.ref qx]) (z_widen (cs' := 1) (ss' := 6) (by decide) (by decide) ?_) rfl rfl rfl rfl
      refine z_astore (pc := 20) C dL_isUseless_20 (by decide) (lv' := [(4, .ref qx), (0, .ref a0), (1, .int p1), (2, .int p2), (3, .ref a3)]) rfl ?_
      refine z_iconst (pc := 22) C dL_isUseless_22 ic_1 ?_
      exact z_iret C X dL_isUseless_23 (by rw [← Option.some.inj h]; exact ⟨rfl, rfl⟩) (by decide) (by decide)
    replace h := (ite_e h).2 hn
    exact nomatch h
def f_L_knows (N : Nat) (s0 : Ob) (s1 : Ob) (s2 : Ob) (s3 : Ob) (s4 : (Nat → Int64)) (p1 : Int32) (p2 : Int32) : Option (Int32 × Ob × (Nat → Int64)) := (th (f_X7_knows N s0 s1 s2 s3 p1 p2) (ft_X7_knows N s0 s1 s2 p1 p2) (fun x1 => (some ((0 : Int32), x1.2, (vp_updL s4 0 (x1.1).toInt64)))) (fun e2 => (if e2 = 1 then (some ((1 : Int32), s3, s4)) else none)))
theorem m_L_knows {g : Gp} {a0 : Nat} {a3 : Nat} {r0 : Nat → Nat} {r1 : Nat → Nat} {q1_0 : Nat} {r2 : Nat → Nat} {r3 : Nat → Nat} {N : Nat} {s0 : Ob} {s1 : Ob} {s2 : Ob} {s3 : Ob} {s4 : (Nat → Int64)} {p1 : Int32} {p2 : Int32} {res : Int32 × Ob × (Nat → Int64)} (hg : Ok g) (h : f_L_knows N s0 s1 s2 s3 s4 p1 p2 = some res) : Ctw g yL_knows cL_knows 5 (some .int) [(0, 10, 13, 18)] (zrc 9 1 6 149) [.ref a0, .int p1, .int p2, .ref a3] (wX7 g a0 r0 s0 ++ wX1 g (r0 3) r1 q1_0 s1 ++ wX5 g q1_0 r2 s2 ++ wX2 g (r0 10) r3 s3 ++ wAJ g a3 1 s4) (exR (some (.int res.1)) (wX7 g a0 r0 s0 ++ wX1 g (r0 3) r1 q1_0 s1 ++ wX5 g q1_0 r2 s2 ++ wX2 g (r0 10) r3 res.2.1 ++ wAJ g a3 1 res.2.2)) := by
  refine ctw_of rfl hg (by show _ ≤ _; exact Nat.le_of_ble_eq_true rfl) (fun K C Xt X => ?_)
  show Zs K 0 0 (wX7 g a0 r0 s0 ++ wX1 g (r0 3) r1 q1_0 s1 ++ wX5 g q1_0 r2 s2 ++ wX2 g (r0 10) r3 s3 ++ wAJ g a3 1 s4) [(0, .ref a0), (1, .int p1), (2, .int p2), (3, .ref a3)] 0 []
  unfold f_L_knows at h
  refine z_aload_n (pc := 0) (x := a3) C dL_knows_0 (i := 3) rfl rfl ?_
  refine z_iconst (pc := 1) C dL_knows_1 ic_0 ?_
  refine z_aload_n (pc := 2) (x := a0) C dL_knows_2 (i := 0) rfl rfl ?_
  refine z_iload_n (pc := 3) (x := p1) C dL_knows_3 (i := 1) rfl rfl ?_
  refine z_iload_n (pc := 4) (x := p2) C dL_knows_4 (i := 2) rfl rfl ?_
  rcases th_e h with ⟨x1, hx1, h⟩ | ⟨e2, he2, h⟩
  · refine z_callV (pc := 5) (As := [.int p1, .int p2]) (rest := [.int (0 : Int32), .ref a3]) (wr := (wAJ g a3 1 s4)) C dL_knows_5 ml_RL_53 wv_X7_knows (m_X7_knows (a0 := a0) (r0 := r0) (r1 := r1) (q1_0 := q1_0) (r2 := r2) (r3 := r3) hg hx1) [0, 1, 2, 3, 4, 5, 6, 7, 8, 9, 10, 11, 12, 13, 14, 15, 16, 17, 18] [19] rfl rfl ⟨by decide, by decide⟩ (Nat.le_of_ble_eq_true rfl) ⟨by decide, by decide⟩ rfl rfl rfl rfl rfl rfl rfl (by decide) (ex_k C (cs' := 0) (ss' := 0) (wF := (wX7 g a0 r0 s0 ++ wX1 g (r0 3) r1 q1_0 s1 ++ wX5 g q1_0 r2 s2 ++ wX2 g (r0 10) r3 x1.2 ++ wAJ g a3 1 s4)) [1, 2, 3, 4, 5, 6, 7, 8, 9, 10, 11, 12, 13, 14, 15, 16, 17, 18, 19, 0] rfl rfl ?_)
    refine z_i2l (pc := 8) C dL_knows_8 ?_
    refine z_last (pc := 9) C 19 dL_knows_9 rfl (by decide) (ws' := (wX7 g a0 r0 s0 ++ wX1 g (r0 3) r1 q1_0 s1 ++ wX5 g q1_0 r2 s2 ++ wX2 g (r0 10) r3 x1.2 ++ wAJ g a3 1 (vp_updL s4 0 (x1.1).toInt64))) rfl ?_
    refine z_goto (pc := 10) C dL_knows_10 (tgt := 17) (by decide) ?_
    refine z_iconst (pc := 17) C dL_knows_17 ic_0 ?_
    exact z_iret C X dL_knows_18 (by rw [← Option.some.inj h]; exact ⟨rfl, rfl⟩) (by decide) (by decide)
  · refine (Decidable.em (e2 = 1)).elim (fun he => ?_) (fun hn => ?_)
    · subst he
      replace h := (ite_e h).1 rfl
      refine z_callVC (pc := 5) (E := "java/lang/IndexOutOfBoundsException") (As := [.int p1, .int p2]) (rest := [.int (0 : Int32), .ref a3]) (wr := (wX2 g (r0 10) r3 s3 ++ wAJ g a3 1 s4)) C Xt dL_knows_5 ml_RL_53 wv_X7_knows (mt_X7_knows (a0 := a0) (r0 := r0) (r1 := r1) (q1_0 := q1_0) (r2 := r2) hg he2) [0, 1, 2, 3, 4, 5, 6, 7, 8, 9, 10, 11, 12, 13, 14, 15, 16] [17, 18, 19] rfl rfl ⟨by decide, by decide⟩ (Nat.le_of_ble_eq_true rfl) ⟨by decide, by decide⟩ rfl rfl rfl rfl rfl rfl rfl (by decide) [] (0, 10, 13, 18) [] rfl (fun z h => nomatch h) (by decide) (by decide) cll_18 cst_1 (fun qx => ?_)
      refine z_sub (ws' := (wX7 g a0 r0 s0 ++ wX1 g (r0 3) r1 q1_0 s1 ++ wX5 g q1_0 r2 s2 ++ wX2 g (r0 10) r3 s3 ++ wAJ g a3 1 s4)) C [3, 4, 5, 6, 7, 8, 9, 10, 11, 12, 13, 14, 15, 16, 17, 18, 19, 0, 1, 2] rfl rfl ?_
      refine z_to (ws' := (wX7 g a0 r0 s0 ++ wX1 g (r0 3) r1 q1_0 s1 ++ wX5 g q1_0 r2 s2 ++ wX2 g (r0 10) r3 s3 ++ wAJ g a3 1 s4)) (lv' := [(0, .ref a0), (1, .int p1), (2, .int p2), (3, .ref a3)]) (pc' := 13) (st' := [.ref qx]) (z_widen (cs' := 1) (ss' := 6) (by decide) (by decide) ?_) rfl rfl rfl rfl
      refine z_astore (pc := 13) C dL_knows_13 (by decide) (lv' := [(4, .ref qx), (0, .ref a0), (1, .int p1), (2, .int p2), (3, .ref a3)]) rfl ?_
      refine z_iconst (pc := 15) C dL_knows_15 ic_1 ?_
      exact z_iret C X dL_knows_16 (by rw [← Option.some.inj h]; exact ⟨rfl, rfl⟩) (by decide) (by decide)
    replace h := (ite_e h).2 hn
    exact nomatch h
def f_L_logPart (N : Nat) (s0 : Ob) (s1 : Ob) (s2 : (Nat → Int64)) (p1 : Int32) (p2 : Int32) : Option (Int32 × (Nat → Int64)) := (th (f_X7_logPart N s0 s1 p1 p2) (ft_X7_logPart N s0 s1 p1 p2) (fun x1 => (some ((0 : Int32), (vp_updL s2 0 (x1).toInt64)))) (fun e2 => (if e2 = 2 then (some ((1 : Int32), s2)) else none)))
theorem m_L_logPart {g : Gp} {a0 : Nat} {a3 : Nat} {r0 : Nat → Nat} {r1 : Nat → Nat} {q1_0 : Nat} {N : Nat} {s0 : Ob} {s1 : Ob} {s2 : (Nat → Int64)} {p1 : Int32} {p2 : Int32} {res : Int32 × (Nat → Int64)} (hg : Ok g) (h : f_L_logPart N s0 s1 s2 p1 p2 = some res) : Ctw g yL_logPart cL_logPart 5 (some .int) [(0, 10, 13, 13)] (zrc 7 1 6 104) [.ref a0, .int p1, .int p2, .ref a3] (wX7 g a0 r0 s0 ++ wX1 g (r0 3) r1 q1_0 s1 ++ wAJ g a3 1 s2) (exR (some (.int res.1)) (wX7 g a0 r0 s0 ++ wX1 g (r0 3) r1 q1_0 s1 ++ wAJ g a3 1 res.2)) := by
  refine ctw_of rfl hg (by show _ ≤ _; exact Nat.le_of_ble_eq_true rfl) (fun K C Xt X => ?_)
  show Zs K 0 0 (wX7 g a0 r0 s0 ++ wX1 g (r0 3) r1 q1_0 s1 ++ wAJ g a3 1 s2) [(0, .ref a0), (1, .int p1), (2, .int p2), (3, .ref a3)] 0 []
  unfold f_L_logPart at h
  refine z_aload_n (pc := 0) (x := a3) C dL_logPart_0 (i := 3) rfl rfl ?_
  refine z_iconst (pc := 1) C dL_logPart_1 ic_0 ?_
  refine z_aload_n (pc := 2) (x := a0) C dL_logPart_2 (i := 0) rfl rfl ?_
  refine z_iload_n (pc := 3) (x := p1) C dL_logPart_3 (i := 1) rfl rfl ?_
  refine z_iload_n (pc := 4) (x := p2) C dL_logPart_4 (i := 2) rfl rfl ?_
  rcases th_e h with ⟨x1, hx1, h⟩ | ⟨e2, he2, h⟩
  · refine z_callV (pc := 5) (As := [.int p1, .int p2]) (rest := [.int (0 : Int32), .ref a3]) (wr := (wAJ g a3 1 s2)) C dL_logPart_5 ml_RL_89 wv_X7_logPart (m_X7_logPart (a0 := a0) (r0 := r0) (r1 := r1) (q1_0 := q1_0) hg hx1) [0, 1, 2, 3, 4, 5, 6, 7, 8, 9, 10, 11, 12] [13] rfl rfl ⟨by decide, by decide⟩ (Nat.le_of_ble_eq_true rfl) ⟨by decide, by decide⟩ rfl rfl rfl rfl rfl rfl rfl (by decide) (ex_k C (cs' := 0) (ss' := 0) (wF := (wX7 g a0 r0 s0 ++ wX1 g (r0 3) r1 q1_0 s1 ++ wAJ g a3 1 s2)) [1, 2, 3, 4, 5, 6, 7, 8, 9, 10, 11, 12, 13, 0] rfl rfl ?_)
    refine z_i2l (pc := 8) C dL_logPart_8 ?_
    refine z_last (pc := 9) C 13 dL_logPart_9 rfl (by decide) (ws' := (wX7 g a0 r0 s0 ++ wX1 g (r0 3) r1 q1_0 s1 ++ wAJ g a3 1 (vp_updL s2 0 (x1).toInt64))) rfl ?_
    refine z_goto (pc := 10) C dL_logPart_10 (tgt := 17) (by decide) ?_
    refine z_iconst (pc := 17) C dL_logPart_17 ic_0 ?_
    exact z_iret C X dL_logPart_18 (by rw [← Option.some.inj h]; exact ⟨rfl, rfl⟩) (by decide) (by decide)
  · refine (Decidable.em (e2 = 2)).elim (fun he => ?_) (fun hn => ?_)
    · subst he
      replace h := (ite_e h).1 rfl
      refine z_callVC (pc := 5) (E := "java/lang/IllegalArgumentException") (As := [.int p1, .int p2]) (rest := [.int (0 : Int32), .ref a3]) (wr := (wAJ g a3 1 s2)) C Xt dL_logPart_5 ml_RL_89 wv_X7_logPart (mt_X7_logPart (a0 := a0) (r0 := r0) (r1 := r1) (q1_0 := q1_0) hg he2) [0, 1, 2, 3, 4, 5, 6, 7, 8, 9, 10, 11, 12] [13] rfl rfl ⟨by decide, by decide⟩ (Nat.le_of_ble_eq_true rfl) ⟨by decide, by decide⟩ rfl rfl rfl rfl rfl rfl rfl (by decide) [] (0, 10, 13, 13) [] rfl (fun z h => nomatch h) (by decide) (by decide) cll_13 cst_2 (fun qx => ?_)
      refine z_sub (ws' := (wX7 g a0 r0 s0 ++ wX1 g (r0 3) r1 q1_0 s1 ++ wAJ g a3 1 s2)) C [1, 2, 3, 4, 5, 6, 7, 8, 9, 10, 11, 12, 13, 0] rfl rfl ?_
      refine z_to (ws' := (wX7 g a0 r0 s0 ++ wX1 g (r0 3) r1 q1_0 s1 ++ wAJ g a3 1 s2)) (lv' := [(0, .ref a0), (1, .int p1), (2, .int p2), (3, .ref a3)]) (pc' := 13) (st' := [.ref qx]) (z_widen (cs' := 1) (ss' := 6) (by decide) (by decide) ?_) rfl rfl rfl rfl
      refine z_astore (pc := 13) C dL_logPart_13 (by decide) (lv' := [(4, .ref qx), (0, .ref a0), (1, .int p1), (2, .int p2), (3, .ref a3)]) rfl ?_
      refine z_iconst (pc := 15) C dL_logPart_15 ic_1 ?_
      exact z_iret C X dL_logPart_16 (by rw [← Option.some.inj h]; exact ⟨rfl, rfl⟩) (by decide) (by decide)
    replace h := (ite_e h).2 hn
    exact nomatch h
def f_L_pile (N : Nat) (s0 : Ob) (s1 : Ob) (s2 : Ob) (s3 : (Nat → Int64)) (p1 : Int32) : Option (Int32 × (Nat → Int64)) := (th (f_X7_pile N s0 s1 s2 p1) (ft_X7_pile N s0 s1 s2 p1) (fun x1 => (some ((0 : Int32), (vp_updL s3 0 (x1).toInt64)))) (fun e2 => (if e2 = 1 then (some ((1 : Int32), s3)) else none)))
theorem m_L_pile {g : Gp} {a0 : Nat} {a2 : Nat} {r0 : Nat → Nat} {r1 : Nat → Nat} {q1_0 : Nat} {r2 : Nat → Nat} {N : Nat} {s0 : Ob} {s1 : Ob} {s2 : Ob} {s3 : (Nat → Int64)} {p1 : Int32} {res : Int32 × (Nat → Int64)} (hg : Ok g) (h : f_L_pile N s0 s1 s2 s3 p1 = some res) : Ctw g yL_pile cL_pile 4 (some .int) [(0, 9, 12, 18)] (zrc 7 1 6 103) [.ref a0, .int p1, .ref a2] (wX7 g a0 r0 s0 ++ wX1 g (r0 3) r1 q1_0 s1 ++ wX5 g q1_0 r2 s2 ++ wAJ g a2 1 s3) (exR (some (.int res.1)) (wX7 g a0 r0 s0 ++ wX1 g (r0 3) r1 q1_0 s1 ++ wX5 g q1_0 r2 s2 ++ wAJ g a2 1 res.2)) := by
  refine ctw_of rfl hg (by show _ ≤ _; exact Nat.le_of_ble_eq_true rfl) (fun K C Xt X => ?_)
  show Zs K 0 0 (wX7 g a0 r0 s0 ++ wX1 g (r0 3) r1 q1_0 s1 ++ wX5 g q1_0 r2 s2 ++ wAJ g a2 1 s3) [(0, .ref a0), (1, .int p1), (2, .ref a2)] 0 []
  unfold f_L_pile at h
  refine z_aload_n (pc := 0) (x := a2) C dL_pile_0 (i := 2) rfl rfl ?_
  refine z_iconst (pc := 1) C dL_pile_1 ic_0 ?_
  refine z_aload_n (pc := 2) (x := a0) C dL_pile_2 (i := 0) rfl rfl ?_
  refine z_iload_n (pc := 3) (x := p1) C dL_pile_3 (i := 1) rfl rfl ?_
  rcases th_e h with ⟨x1, hx1, h⟩ | ⟨e2, he2, h⟩
  · refine z_callV (pc := 4) (As := [.int p1]) (rest := [.int (0 : Int32), .ref a2]) (wr := (wAJ g a2 1 s3)) C dL_pile_4 ml_RL_15 wv_X7_pile (m_X7_pile (a0 := a0) (r0 := r0) (r1 := r1) (q1_0 := q1_0) (r2 := r2) hg hx1) [0, 1, 2, 3, 4, 5, 6, 7, 8, 9, 10, 11, 12, 13, 14, 15, 16] [17] rfl rfl ⟨by decide, by decide⟩ (Nat.le_of_ble_eq_true rfl) ⟨by decide, by decide⟩ rfl rfl rfl rfl rfl rfl rfl (by decide) (ex_k C (cs' := 0) (ss' := 0) (wF := (wX7 g a0 r0 s0 ++ wX1 g (r0 3) r1 q1_0 s1 ++ wX5 g q1_0 r2 s2 ++ wAJ g a2 1 s3)) [1, 2, 3, 4, 5, 6, 7, 8, 9, 10, 11, 12, 13, 14, 15, 16, 17, 0] rfl rfl ?_)
    refine z_i2l (pc := 7) C dL_pile_7 ?_
    refine z_last (pc := 8) C 17 dL_pile_8 rfl (by decide) (ws' := (wX7 g a0 r0 s0 ++ wX1 g (r0 3) r1 q1_0 s1 ++ wX5 g q1_0 r2 s2 ++ wAJ g a2 1 (vp_updL s3 0 (x1).toInt64))) rfl ?_
    refine z_goto (pc := 9) C dL_pile_9 (tgt := 15) (by decide) ?_
    refine z_iconst (pc := 15) C dL_pile_15 ic_0 ?_
    exact z_iret C X dL_pile_16 (by rw [← Option.some.inj h]; exact ⟨rfl, rfl⟩) (by decide) (by decide)
  · refine (Decidable.em (e2 = 1)).elim (fun he => ?_) (fun hn => ?_)
    · subst he
      replace h := (ite_e h).1 rfl
      refine z_callVC (pc := 4) (E := "java/lang/IndexOutOfBoundsException") (As := [.int p1]) (rest := [.int (0 : Int32), .ref a2]) (wr := (wAJ g a2 1 s3)) C Xt dL_pile_4 ml_RL_15 wv_X7_pile (mt_X7_pile (a0 := a0) (r0 := r0) (r1 := r1) (q1_0 := q1_0) (r2 := r2) hg he2) [0, 1, 2, 3, 4, 5, 6, 7, 8, 9, 10, 11, 12, 13, 14, 15, 16] [17] rfl rfl ⟨by decide, by decide⟩ (Nat.le_of_ble_eq_true rfl) ⟨by decide, by decide⟩ rfl rfl rfl rfl rfl rfl rfl (by decide) [] (0, 9, 12, 18) [] rfl (fun z h => nomatch h) (by decide) (by decide) cll_18 cst_1 (fun qx => ?_)
      refine z_sub (ws' := (wX7 g a0 r0 s0 ++ wX1 g (r0 3) r1 q1_0 s1 ++ wX5 g q1_0 r2 s2 ++ wAJ g a2 1 s3)) C [1, 2, 3, 4, 5, 6, 7, 8, 9, 10, 11, 12, 13, 14, 15, 16, 17, 0] rfl rfl ?_
      refine z_to (ws' := (wX7 g a0 r0 s0 ++ wX1 g (r0 3) r1 q1_0 s1 ++ wX5 g q1_0 r2 s2 ++ wAJ g a2 1 s3)) (lv' := [(0, .ref a0), (1, .int p1), (2, .ref a2)]) (pc' := 12) (st' := [.ref qx]) (z_widen (cs' := 1) (ss' := 6) (by decide) (by decide) ?_) rfl rfl rfl rfl
      refine z_astore_n (pc := 12) C dL_pile_12 (i := 3) rfl (by decide) (lv' := [(3, .ref qx), (0, .ref a0), (1, .int p1), (2, .ref a2)]) rfl ?_
      refine z_iconst (pc := 13) C dL_pile_13 ic_1 ?_
      exact z_iret C X dL_pile_14 (by rw [← Option.some.inj h]; exact ⟨rfl, rfl⟩) (by decide) (by decide)
    replace h := (ite_e h).2 hn
    exact nomatch h
def f_L_play (N : Nat) (q1_0 : Nat) (s0 : Ob) (s1 : Ob) (s2 : Ob) (s3 : (Nat → Int64)) (s4 : (Nat → Nat × Ob)) (p1 : Int32) : Option (Int32 × Ob × Ob × (Nat → Int64) × (Nat → Nat × Ob)) := (th (f_X7_play N q1_0 s0 s1 s2 s4 p1) (ft_X7_play N s0 s1 s2 p1) (fun x1 => (some ((0 : Int32), x1.2.1, x1.2.2.1, (vp_updL s3 0 (x1.1).toInt64), x1.2.2.2))) (fun e2 => (if e2 = 1 then (some ((1 : Int32), s0, s1, s3, s4)) else none)))
theorem m_L_play {g : Gp} {a0 : Nat} {a2 : Nat} {r0 : Nat → Nat} {r1 : Nat → Nat} {r2 : Nat → Nat} {f4 : Nat → Option Nat} {pa4 : Nat → Nat} {pr4 : Nat → Nat → Nat} {N : Nat} {q1_0 : Nat} {s0 : Ob} {s1 : Ob} {s2 : Ob} {s3 : (Nat → Int64)} {s4 : (Nat → Nat × Ob)} {p1 : Int32} {res : Int32 × Ob × Ob × (Nat → Int64) × (Nat → Nat × Ob)} (hg : Ok g) (hf4 : ∀ k, k < 20 → f4 k = some (pa4 k)) (h : f_L_play N q1_0 s0 s1 s2 s3 s4 p1 = some res) : Ctw g yL_play cL_play 4 (some .int) [(0, 9, 12, 18)] (zrc 9 1 6 147) [.ref a0, .int p1, .ref a2] (wX7 g a0 r0 s0 ++ wX1 g (r0 3) r1 q1_0 s1 ++ wX5 g q1_0 r2 s2 ++ wAJ g a2 1 s3 ++ wPs g (r0 4) 20 f4 pa4 pr4 s4) (exR (some (.int res.1)) (wX7 g a0 r0 res.2.1 ++ wX1 g (r0 3) r1 q1_0 res.2.2.1 ++ wX5 g q1_0 r2 s2 ++ wAJ g a2 1 res.2.2.2.1 ++ wPs g (r0 4) 20 f4 pa4 pr4 res.2.2.2.2)) := by
  refine ctw_of rfl hg (by show _ ≤ _; exact Nat.le_of_ble_eq_true rfl) (fun K C Xt X => ?_)
  show Zs K 0 0 (wX7 g a0 r0 s0 ++ wX1 g (r0 3) r1 q1_0 s1 ++ wX5 g q1_0 r2 s2 ++ wAJ g a2 1 s3 ++ wPs g (r0 4) 20 f4 pa4 pr4 s4) [(0, .ref a0), (1, .int p1), (2, .ref a2)] 0 []
  unfold f_L_play at h
  refine z_aload_n (pc := 0) (x := a2) C dL_play_0 (i := 2) rfl rfl ?_
  refine z_iconst (pc := 1) C dL_play_1 ic_0 ?_
  refine z_aload_n (pc := 2) (x := a0) C dL_play_2 (i := 0) rfl rfl ?_
  refine z_iload_n (pc := 3) (x := p1) C dL_play_3 (i := 1) rfl rfl ?_
  rcases th_e h with ⟨x1, hx1, h⟩ | ⟨e2, he2, h⟩
  · refine z_callVT2 (pc := 4) (As := [.int p1]) (rest := [.int (0 : Int32), .ref a2]) (wr := (wAJ g a2 1 s3)) C dL_play_4 ml_RL_65 wv_X7_play (m_X7_play (a0 := a0) (r0 := r0) (r1 := r1) (r2 := r2) (f3 := f4) (pa3 := pa4) (pr3 := pr4) (q1_0 := q1_0) hg hf4 hx1) [0, 1, 2, 3, 4, 5, 6, 7, 8, 9, 10, 11, 12, 13, 14, 15, 16] [17] rfl rfl ⟨by decide, by decide⟩ (Nat.le_of_ble_eq_true rfl) ⟨by decide, by decide⟩ rfl rfl rfl rfl rfl rfl rfl (by decide) (ex_kT2 C (cs' := 0) (ss' := 0) (A' := (wX7 g a0 r0 x1.2.1 ++ wX1 g (r0 3) r1 q1_0 x1.2.2.1 ++ wX5 g q1_0 r2 s2 ++ wAJ g a2 1 s3)) [1, 2, 3, 4, 5, 6, 7, 8, 9, 10, 11, 12, 13, 14, 15, 16, 17, 0] rfl rfl ?_)
    refine z_i2l (pc := 7) C dL_play_7 ?_
    refine z_last (pc := 8) C 17 dL_play_8 rfl (by decide) (ws' := (wX7 g a0 r0 x1.2.1 ++ wX1 g (r0 3) r1 q1_0 x1.2.2.1 ++ wX5 g q1_0 r2 s2 ++ wAJ g a2 1 (vp_updL s3 0 (x1.1).toInt64) ++ wPs g (r0 4) 20 f4 pa4 pr4 x1.2.2.2)) rfl ?_
    refine z_goto (pc := 9) C dL_play_9 (tgt := 15) (by decide) ?_
    refine z_iconst (pc := 15) C dL_play_15 ic_0 ?_
    exact z_iret C X dL_play_16 (by rw [← Option.some.inj h]; exact ⟨rfl, rfl⟩) (by decide) (by decide)
  · refine (Decidable.em (e2 = 1)).elim (fun he => ?_) (fun hn => ?_)
    · subst he
      replace h := (ite_e h).1 rfl
      refine z_callVCT1 (A' := (wX7 g a0 r0 s0 ++ wX1 g (r0 3) r1 q1_0 s1 ++ wX5 g q1_0 r2 s2 ++ wAJ g a2 1 s3)) (pc := 4) (E := "java/lang/IndexOutOfBoundsException") (As := [.int p1]) (rest := [.int (0 : Int32), .ref a2]) (wr := (wAJ g a2 1 s3)) C Xt dL_play_4 ml_RL_65 wv_X7_play (mt_X7_play (a0 := a0) (r0 := r0) (r1 := r1) (q1_0 := q1_0) (r2 := r2) hg he2) [0, 1, 2, 3, 4, 5, 6, 7, 8, 9, 10, 11, 12, 13, 14, 15, 16] [17] [1, 2, 3, 4, 5, 6, 7, 8, 9, 10, 11, 12, 13, 14, 15, 16, 17, 0] rfl rfl ⟨by decide, by decide⟩ (Nat.le_of_ble_eq_true rfl) ⟨by decide, by decide⟩ rfl rfl rfl rfl rfl rfl rfl (by decide) rfl rfl [] (0, 9, 12, 18) [] rfl (fun z h => nomatch h) (by decide) (by decide) cll_18 cst_1 (fun qx => ?_)
      refine z_to (ws' := (wX7 g a0 r0 s0 ++ wX1 g (r0 3) r1 q1_0 s1 ++ wX5 g q1_0 r2 s2 ++ wAJ g a2 1 s3 ++ wPs g (r0 4) 20 f4 pa4 pr4 s4)) (lv' := [(0, .ref a0), (1, .int p1), (2, .ref a2)]) (pc' := 12) (st' := [.ref qx]) (z_widen (cs' := 1) (ss' := 6) (by decide) (by decide) ?_) rfl rfl rfl rfl
      refine z_astore_n (pc := 12) C dL_play_12 (i := 3) rfl (by decide) (lv' := [(3, .ref qx), (0, .ref a0), (1, .int p1), (2, .ref a2)]) rfl ?_
      refine z_iconst (pc := 13) C dL_play_13 ic_1 ?_
      exact z_iret C X dL_play_14 (by rw [← Option.some.inj h]; exact ⟨rfl, rfl⟩) (by decide) (by decide)
    replace h := (ite_e h).2 hn
    exact nomatch h
def f_L_ranksOf (N : Nat) (s0 : Ob) (s1 : Ob) (s2 : Ob) (s3 : (Nat → Int64)) (p1 : Int32) (p2 : Int32) : Option (Int32 × (Nat → Int64)) := (th (f_X7_ranksOf N s0 s1 s2 p1 p2) (ft_X7_ranksOf N s0 s1 s2 p1 p2) (fun x1 => (some ((0 : Int32), (vp_updL s3 0 (x1).toInt64)))) (fun e2 => (if e2 = 1 then (some ((1 : Int32), s3)) else none)))
theorem m_L_ranksOf {g : Gp} {a0 : Nat} {a3 : Nat} {r0 : Nat → Nat} {r1 : Nat → Nat} {q1_0 : Nat} {r2 : Nat → Nat} {N : Nat} {s0 : Ob} {s1 : Ob} {s2 : Ob} {s3 : (Nat → Int64)} {p1 : Int32} {p2 : Int32} {res : Int32 × (Nat → Int64)} (hg : Ok g) (h : f_L_ranksOf N s0 s1 s2 s3 p1 p2 = some res) : Ctw g yL_ranksOf cL_ranksOf 5 (some .int) [(0, 10, 13, 18)] (zrc 9 1 6 148) [.ref a0, .int p1, .int p2, .ref a3] (wX7 g a0 r0 s0 ++ wX1 g (r0 3) r1 q1_0 s1 ++ wX5 g q1_0 r2 s2 ++ wAJ g a3 1 s3) (exR (some (.int res.1)) (wX7 g a0 r0 s0 ++ wX1 g (r0 3) r1 q1_0 s1 ++ wX5 g q1_0 r2 s2 ++ wAJ g a3 1 res.2)) := by
  refine ctw_of rfl hg (by show _ ≤ _; exact Nat.le_of_ble_eq_true rfl) (fun K C Xt X => ?_)
  show Zs K 0 0 (wX7 g a0 r0 s0 ++ wX1 g (r0 3) r1 q1_0 s1 ++ wX5 g q1_0 r2 s2 ++ wAJ g a3 1 s3) [(0, .ref a0), (1, .int p1), (2, .int p2), (3, .ref a3)] 0 []
  unfold f_L_ranksOf at h
  refine z_aload_n (pc := 0) (x := a3) C dL_ranksOf_0 (i := 3) rfl rfl ?_
  refine z_iconst (pc := 1) C dL_ranksOf_1 ic_0 ?_
  refine z_aload_n (pc := 2) (x := a0) C dL_ranksOf_2 (i := 0) rfl rfl ?_
  refine z_iload_n (pc := 3) (x := p1) C dL_ranksOf_3 (i := 1) rfl rfl ?_
  refine z_iload_n (pc := 4) (x := p2) C dL_ranksOf_4 (i := 2) rfl rfl ?_
  rcases th_e h with ⟨x1, hx1, h⟩ | ⟨e2, he2, h⟩
  · refine z_callV (pc := 5) (As := [.int p1, .int p2]) (rest := [.int (0 : Int32), .ref a3]) (wr := (wAJ g a3 1 s3)) C dL_ranksOf_5 ml_RL_41 wv_X7_ranksOf (m_X7_ranksOf (a0 := a0) (r0 := r0) (r1 := r1) (q1_0 := q1_0) (r2 := r2) hg hx1) [0, 1, 2, 3, 4, 5, 6, 7, 8, 9, 10, 11, 12, 13, 14, 15, 16] [17] rfl rfl ⟨by decide, by decide⟩ (Nat.le_of_ble_eq_true rfl) ⟨by decide, by decide⟩ rfl rfl rfl rfl rfl rfl rfl (by decide) (ex_k C (cs' := 0) (ss' := 0) (wF := (wX7 g a0 r0 s0 ++ wX1 g (r0 3) r1 q1_0 s1 ++ wX5 g q1_0 r2 s2 ++ wAJ g a3 1 s3)) [1, 2, 3, 4, 5, 6, 7, 8, 9, 10, 11, 12, 13, 14, 15, 16, 17, 0] rfl rfl ?_)
    refine z_i2l (pc := 8) C dL_ranksOf_8 ?_
    refine z_last (pc := 9) C 17 dL_ranksOf_9 rfl (by decide) (ws' := (wX7 g a0 r0 s0 ++ wX1 g (r0 3) r1 q1_0 s1 ++ wX5 g q1_0 r2 s2 ++ wAJ g a3 1 (vp_updL s3 0 (x1).toInt64))) rfl ?_
    refine z_goto (pc := 10) C dL_ranksOf_10 (tgt := 17) (by decide) ?_
    refine z_iconst (pc := 17) C dL_ranksOf_17 ic_0 ?_
    exact z_iret C X dL_ranksOf_18 (by rw [← Option.some.inj h]; exact ⟨rfl, rfl⟩) (by decide) (by decide)
  · refine (Decidable.em (e2 = 1)).elim (fun he => ?_) (fun hn => ?_)
    · subst he
      replace h := (ite_e h).1 rfl
      refine z_callVC (pc := 5) (E := "java/lang/IndexOutOfBoundsException") (As := [.int p1, .int p2]) (rest := [.int (0 : Int32), .ref a3]) (wr := (wAJ g a3 1 s3)) C Xt dL_ranksOf_5 ml_RL_41 wv_X7_ranksOf (mt_X7_ranksOf (a0 := a0) (r0 := r0) (r1 := r1) (q1_0 := q1_0) (r2 := r2) hg he2) [0, 1, 2, 3, 4, 5, 6, 7, 8, 9, 10, 11, 12, 13, 14, 15, 16] [17] rfl rfl ⟨by decide, by decide⟩ (Nat.le_of_ble_eq_true rfl) ⟨by decide, by decide⟩ rfl rfl rfl rfl rfl rfl rfl (by decide) [] (0, 10, 13, 18) [] rfl (fun z h => nomatch h) (by decide) (by decide) cll_18 cst_1 (fun qx => ?_)
      refine z_sub (ws' := (wX7 g a0 r0 s0 ++ wX1 g (r0 3) r1 q1_0 s1 ++ wX5 g q1_0 r2 s2 ++ wAJ g a3 1 s3)) C [1, 2, 3, 4, 5, 6, 7, 8, 9, 10, 11, 12, 13, 14, 15, 16, 17, 0] rfl rfl ?_
      refine z_to (ws' := (wX7 g a0 r0 s0 ++ wX1 g (r0 3) r1 q1_0 s1 ++ wX5 g q1_0 r2 s2 ++ wAJ g a3 1 s3)) (lv' := [(0, .ref a0), (1, .int p1), (2, .int p2), (3, .ref a3)]) (pc' := 13) (st' := [.ref qx]) (z_widen (cs' := 1) (ss' := 6) (by decide) (by decide) ?_) rfl rfl rfl rfl
      refine z_astore (pc := 13) C dL_ranksOf_13 (by decide) (lv' := [(4, .ref qx), (0, .ref a0), (1, .int p1), (2, .int p2), (3, .ref a3)]) rfl ?_
      refine z_iconst (pc := 15) C dL_ranksOf_15 ic_1 ?_
      exact z_iret C X dL_ranksOf_16 (by rw [← Option.some.inj h]; exact ⟨rfl, rfl⟩) (by decide) (by decide)
    replace h := (ite_e h).2 hn
    exact nomatch h
def f_L_restoreSnapshot (N : Nat) (q1_0 : Nat) (s0 : Ob) (s1 : Ob) (s2 : (Nat → Int64)) (s3 : (Nat → Nat × Ob)) (p1 : Int32) : Option (Int32 × Ob × Ob × (Nat → Int64) × (Nat → Nat × Ob) × Nat) := (th (f_X7_restoreSnapshot N q1_0 s0 s1 s3 p1) (ft_X7_restoreSnapshot N s0 p1) (fun x1 => (some ((0 : Int32), x1.2.1, x1.2.2.1, (vp_updL s2 0 (x1.1).toInt64), x1.2.2.2.1, x1.2.2.2.2))) (fun e2 => (if e2 = 2 then (some ((1 : Int32), s0, s1, s2, s3, q1_0)) else none)))
theorem m_L_restoreSnapshot {g : Gp} {a0 : Nat} {a2 : Nat} {r0 : Nat → Nat} {r1 : Nat → Nat} {f3 : Nat → Option Nat} {pa3 : Nat → Nat} {pr3 : Nat → Nat → Nat} {N : Nat} {q1_0 : Nat} {s0 : Ob} {s1 : Ob} {s2 : (Nat → Int64)} {s3 : (Nat → Nat × Ob)} {p1 : Int32} {res : Int32 × Ob × Ob × (Nat → Int64) × (Nat → Nat × Ob) × Nat} (hg : Ok g) (hf3 : ∀ k, k < 2 → f3 k = some (pa3 k)) (h : f_L_restoreSnapshot N q1_0 s0 s1 s2 s3 p1 = some res) : Ctw g yL_restoreSnapshot cL_restoreSnapshot 4 (some .int) [(0, 9, 12, 13)] (zrc 8 1 6 124) [.ref a0, .int p1, .ref a2] (wX7 g a0 r0 s0 ++ wX1 g (r0 3) r1 q1_0 s1 ++ wAJ g a2 1 s2 ++ wPs g (r0 7) 2 f3 pa3 pr3 s3) (exR (some (.int res.1)) (wX7 g a0 r0 res.2.1 ++ wX1 g (r0 3) r1 res.2.2.2.2.2 res.2.2.1 ++ wAJ g a2 1 res.2.2.2.1 ++ wPs g (r0 7) 2 f3 pa3 pr3 res.2.2.2.2.1)) := by
  refine ctw_of rfl hg (by show _ ≤ _; exact Nat.le_of_ble_eq_true rfl) (fun K C Xt X => ?_)
  show Zs K 0 0 (wX7 g a0 r0 s0 ++ wX1 g (r0 3) r1 q1_0 s1 ++ wAJ g a2 1 s2 ++ wPs g (r0 7) 2 f3 pa3 pr3 s3) [(0, .ref a0), (1, .int p1), (2, .ref a2)] 0 []
  unfold f_L_restoreSnapshot at h
  refine z_aload_n (pc := 0) (x := a2) C dL_restoreSnapshot_0 (i := 2) rfl rfl ?_
  refine z_iconst (pc := 1) C dL_restoreSnapshot_1 ic_0 ?_
  refine z_aload_n (pc := 2) (x := a0) C dL_restoreSnapshot_2 (i := 0) rfl rfl ?_
  refine z_iload_n (pc := 3) (x := p1) C dL_restoreSnapshot_3 (i := 1) rfl rfl ?_
  rcases th_e h with ⟨x1, hx1, h⟩ | ⟨e2, he2, h⟩
  · refine z_callVT2 (pc := 4) (As := [.int p1]) (rest := [.int (0 : Int32), .ref a2]) (wr := (wAJ g a2 1 s2)) C dL_restoreSnapshot_4 ml_RL_99 wv_X7_restoreSnapshot (m_X7_restoreSnapshot (a0 := a0) (r0 := r0) (r1 := r1) (f2 := f3) (pa2 := pa3) (pr2 := pr3) (q1_0 := q1_0) hg hf3 hx1) [0, 1, 2, 3, 4, 5, 6, 7, 8, 9, 10, 11, 12] [13] rfl rfl ⟨by decide, by decide⟩ (Nat.le_of_ble_eq_true rfl) ⟨by decide, by decide⟩ rfl rfl rfl rfl rfl rfl rfl (by decide) (ex_kT2 C (cs' := 0) (ss' := 0) (A' := (wX7 g a0 r0 x1.2.1 ++ wX1 g (r0 3) r1 x1.2.2.2.2 x1.2.2.1 ++ wAJ g a2 1 s2)) [1, 2, 3, 4, 5, 6, 7, 8, 9, 10, 11, 12, 13, 0] rfl rfl ?_)
    refine z_i2l (pc := 7) C dL_restoreSnapshot_7 ?_
    refine z_last (pc := 8) C 13 dL_restoreSnapshot_8 rfl (by decide) (ws' := (wX7 g a0 r0 x1.2.1 ++ wX1 g (r0 3) r1 x1.2.2.2.2 x1.2.2.1 ++ wAJ g a2 1 (vp_updL s2 0 (x1.1).toInt64) ++ wPs g (r0 7) 2 f3 pa3 pr3 x1.2.2.2.1)) rfl ?_
    refine z_goto (pc := 9) C dL_restoreSnapshot_9 (tgt := 15) (by decide) ?_
    refine z_iconst (pc := 15) C dL_restoreSnapshot_15 ic_0 ?_
    exact z_iret C X dL_restoreSnapshot_16 (by rw [← Option.some.inj h]; exact ⟨rfl, rfl⟩) (by decide) (by decide)
  · refine (Decidable.em (e2 = 2)).elim (fun he => ?_) (fun hn => ?_)
    · subst he
      replace h := (ite_e h).1 rfl
      refine z_callVCT1 (A' := (wX7 g a0 r0 s0 ++ wX1 g (r0 3) r1 q1_0 s1 ++ wAJ g a2 1 s2)) (pc := 4) (E := "java/lang/IllegalArgumentException") (As := [.int p1]) (rest := [.int (0 : Int32), .ref a2]) (wr := (wX1 g (r0 3) r1 q1_0 s1 ++ wAJ g a2 1 s2)) C Xt dL_restoreSnapshot_4 ml_RL_99 wv_X7_restoreSnapshot (mt_X7_restoreSnapshot (a0 := a0) (r0 := r0) hg he2) [0, 1, 2, 3] [4, 5, 6, 7, 8, 9, 10, 11, 12, 13] [10, 11, 12, 13, 0, 1, 2, 3, 4, 5, 6, 7, 8, 9] rfl rfl ⟨by decide, by decide⟩ (Nat.le_of_ble_eq_true rfl) ⟨by decide, by decide⟩ rfl rfl rfl rfl rfl rfl rfl (by decide) rfl rfl [] (0, 9, 12, 13) [] rfl (fun z h => nomatch h) (by decide) (by decide) cll_13 cst_2 (fun qx => ?_)
      refine z_to (ws' := (wX7 g a0 r0 s0 ++ wX1 g (r0 3) r1 q1_0 s1 ++ wAJ g a2 1 s2 ++ wPs g (r0 7) 2 f3 pa3 pr3 s3)) (lv' := [(0, .ref a0), (1, .int p1), (2, .ref a2)]) (pc' := 12) (st' := [.ref qx]) (z_widen (cs' := 1) (ss' := 6) (by decide) (by decide) ?_) rfl rfl rfl rfl
      refine z_astore_n (pc := 12) C dL_restoreSnapshot_12 (i := 3) rfl (by decide) (lv' := [(3, .ref qx), (0, .ref a0), (1, .int p1), (2, .ref a2)]) rfl ?_
      refine z_iconst (pc := 13) C dL_restoreSnapshot_13 ic_1 ?_
      exact z_iret C X dL_restoreSnapshot_14 (by rw [← Option.some.inj h]; exact ⟨rfl, rfl⟩) (by decide) (by decide)
    replace h := (ite_e h).2 hn
    exact nomatch h
def f_L_saveSnapshot (N : Nat) (q1_0 : Nat) (s0 : Ob) (s1 : Ob) (s2 : (Nat → Int64)) (s3 : (Nat → Nat × Ob)) (p1 : Int32) : Option (Int32 × Ob × (Nat → Int64) × (Nat → Nat × Ob)) := (th (f_X7_saveSnapshot N q1_0 s0 s1 s3 p1) (ft_X7_saveSnapshot N s0 p1) (fun x1 => (some ((0 : Int32), x1.2.1, (vp_updL s2 0 (x1.1).toInt64), x1.2.2))) (fun e2 => (if e2 = 2 then (some ((1 : Int32), s0, s2, s3)) else none)))
theorem m_L_saveSnapshot {g : Gp} {a0 : Nat} {a2 : Nat} {r0 : Nat → Nat} {r1 : Nat → Nat} {f3 : Nat → Option Nat} {pa3 : Nat → Nat} {pr3 : Nat → Nat → Nat} {N : Nat} {q1_0 : Nat} {s0 : Ob} {s1 : Ob} {s2 : (Nat → Int64)} {s3 : (Nat → Nat × Ob)} {p1 : Int32} {res : Int32 × Ob × (Nat → Int64) × (Nat → Nat × Ob)} (hg : Ok g) (hf3 : ∀ k, k < 2 → f3 k = some (pa3 k)) (h : f_L_saveSnapshot N q1_0 s0 s1 s2 s3 p1 = some res) : Ctw g yL_saveSnapshot cL_saveSnapshot 4 (some .int) [(0, 9, 12, 13)] (zrc 8 1 6 124) [.ref a0, .int p1, .ref a2] (wX7 g a0 r0 s0 ++ wX1 g (r0 3) r1 q1_0 s1 ++ wAJ g a2 1 s2 ++ wPs g (r0 7) 2 f3 pa3 pr3 s3) (exR (some (.int res.1)) (wX7 g a0 r0 res.2.1 ++ wX1 g (r0 3) r1 q1_0 s1 ++ wAJ g a2 1 res.2.2.1 ++ wPs g (r0 7) 2 f3 pa3 pr3 res.2.2.2)) := by
  refine ctw_of rfl hg (by show _ ≤ _; exact Nat.le_of_ble_eq_true rfl) (fun K C Xt X => ?_)
  show Zs K 0 0 (wX7 g a0 r0 s0 ++ wX1 g (r0 3) r1 q1_0 s1 ++ wAJ g a2 1 s2 ++ wPs g (r0 7) 2 f3 pa3 pr3 s3) [(0, .ref a0), (1, .int p1), (2, .ref a2)] 0 []
  unfold f_L_saveSnapshot at h
  refine z_aload_n (pc := 0) (x := a2) C dL_saveSnapshot_0 (i := 2) rfl rfl ?_
  refine z_iconst (pc := 1) C dL_saveSnapshot_1 ic_0 ?_
  refine z_aload_n (pc := 2) (x := a0) C dL_saveSnapshot_2 (i := 0) rfl rfl ?_
  refine z_iload_n (pc := 3) (x := p1) C dL_saveSnapshot_3 (i := 1) rfl rfl ?_
  rcases th_e h with ⟨x1, hx1, h⟩ | ⟨e2, he2, h⟩
  · refine z_callVT2 (pc := 4) (As := [.int p1]) (rest := [.int (0 : Int32), .ref a2]) (wr := (wAJ g a2 1 s2)) C dL_saveSnapshot_4 ml_RL_96 wv_X7_saveSnapshot (m_X7_saveSnapshot (a0 := a0) (r0 := r0) (r1 := r1) (f2 := f3) (pa2 := pa3) (pr2 := pr3) (q1_0 := q1_0) hg hf3 hx1) [0, 1, 2, 3, 4, 5, 6, 7, 8, 9, 10, 11, 12] [13] rfl rfl ⟨by decide, by decide⟩ (Nat.le_of_ble_eq_true rfl) ⟨by decide, by decide⟩ rfl rfl rfl rfl rfl rfl rfl (by decide) (ex_kT2 C (cs' := 0) (ss' := 0) (A' := (wX7 g a0 r0 x1.2.1 ++ wX1 g (r0 3) r1 q1_0 s1 ++ wAJ g a2 1 s2)) [1, 2, 3, 4, 5, 6, 7, 8, 9, 10, 11, 12, 13, 0] rfl rfl ?_)
    refine z_i2l (pc := 7) C dL_saveSnapshot_7 ?_
    refine z_last (pc := 8) C 13 dL_saveSnapshot_8 rfl (by decide) (ws' := (wX7 g a0 r0 x1.2.1 ++ wX1 g (r0 3) r1 q1_0 s1 ++ wAJ g a2 1 (vp_updL s2 0 (x1.1).toInt64) ++ wPs g (r0 7) 2 f3 pa3 pr3 x1.2.2)) rfl ?_
    refine z_goto (pc := 9) C dL_saveSnapshot_9 (tgt := 15) (by decide) ?_
    refine z_iconst (pc := 15) C dL_saveSnapshot_15 ic_0 ?_
    exact z_iret C X dL_saveSnapshot_16 (by rw [← Option.some.inj h]; exact ⟨rfl, rfl⟩) (by decide) (by decide)
  · refine (Decidable.em (e2 = 2)).elim (fun he => ?_) (fun hn => ?_)
    · subst he
      replace h := (ite_e h).1 rfl
      refine z_callVCT1 (A' := (wX7 g a0 r0 s0 ++ wX1 g (r0 3) r1 q1_0 s1 ++ wAJ g a2 1 s2)) (pc := 4) (E := "java/lang/IllegalArgumentException") (As := [.int p1]) (rest := [.int (0 : Int32), .ref a2]) (wr := (wX1 g (r0 3) r1 q1_0 s1 ++ wAJ g a2 1 s2)) C Xt dL_saveSnapshot_4 ml_RL_96 wv_X7_saveSnapshot (mt_X7_saveSnapshot (a0 := a0) (r0 := r0) hg he2) [0, 1, 2, 3] [4, 5, 6, 7, 8, 9, 10, 11, 12, 13] [10, 11, 12, 13, 0, 1, 2, 3, 4, 5, 6, 7, 8, 9] rfl rfl ⟨by decide, by decide⟩ (Nat.le_of_ble_eq_true rfl) ⟨by decide, by decide⟩ rfl rfl rfl rfl rfl rfl rfl (by decide) rfl rfl [] (0, 9, 12, 13) [] rfl (fun z h => nomatch h) (by decide) (by decide) cll_13 cst_2 (fun qx => ?_)
      refine z_to (ws' := (wX7 g a0 r0 s0 ++ wX1 g (r0 3) r1 q1_0 s1 ++ wAJ g a2 1 s2 ++ wPs g (r0 7) 2 f3 pa3 pr3 s3)) (lv' := [(0, .ref a0), (1, .int p1), (2, .ref a2)]) (pc' := 12) (st' := [.ref qx]) (z_widen (cs' := 1) (ss' := 6) (by decide) (by decide) ?_) rfl rfl rfl rfl
      refine z_astore_n (pc := 12) C dL_saveSnapshot_12 (i := 3) rfl (by decide) (lv' := [(3, .ref qx), (0, .ref a0), (1, .int p1), (2, .ref a2)]) rfl ?_
      refine z_iconst (pc := 13) C dL_saveSnapshot_13 ic_1 ?_
      exact z_iret C X dL_saveSnapshot_14 (by rw [← Option.some.inj h]; exact ⟨rfl, rfl⟩) (by decide) (by decide)
    replace h := (ite_e h).2 hn
    exact nomatch h
def f_L_tells (N : Nat) (s0 : Ob) (s1 : Ob) (s2 : Ob) (s3 : Ob) (s4 : (Nat → Int64)) (p1 : Int32) (p2 : Int32) (p3 : Int32) : Option (Int32 × Ob × (Nat → Int64)) := (th (f_X7_tells N s0 s1 s2 s3 p1 p2 p3) (ft_X7_tells N s0 s1 s2 p1 p2 p3) (fun x1 => (some ((0 : Int32), x1.2, (vp_updL s4 0 (x1.1).toInt64)))) (fun e2 => (if e2 = 1 then (some ((1 : Int32), s3, s4)) else (if e2 = 2 then (some ((2 : Int32), s3, s4)) else none))))
theorem m_L_tells {g : Gp} {a0 : Nat} {a4 : Nat} {r0 : Nat → Nat} {r1 : Nat → Nat} {q1_0 : Nat} {r2 : Nat → Nat} {r3 : Nat → Nat} {N : Nat} {s0 : Ob} {s1 : Ob} {s2 : Ob} {s3 : Ob} {s4 : (Nat → Int64)} {p1 : Int32} {p2 : Int32} {p3 : Int32} {res : Int32 × Ob × (Nat → Int64)} (hg : Ok g) (h : f_L_tells N s0 s1 s2 s3 s4 p1 p2 p3 = some res) : Ctw g yL_tells cL_tells 6 (some .int) [(0, 12, 15, 18), (0, 12, 19, 13)] (zrc 8 1 6 129) [.ref a0, .int p1, .int p2, .int p3, .ref a4] (wX7 g a0 r0 s0 ++ wX1 g (r0 3) r1 q1_0 s1 ++ wX5 g q1_0 r2 s2 ++ wX2 g (r0 10) r3 s3 ++ wAJ g a4 1 s4) (exR (some (.int res.1)) (wX7 g a0 r0 s0 ++ wX1 g (r0 3) r1 q1_0 s1 ++ wX5 g q1_0 r2 s2 ++ wX2 g (r0 10) r3 res.2.1 ++ wAJ g a4 1 res.2.2)) := by
  refine ctw_of rfl hg (by show _ ≤ _; exact Nat.le_of_ble_eq_true rfl) (fun K C Xt X => ?_)
  show Zs K 0 0 (wX7 g a0 r0 s0 ++ wX1 g (r0 3) r1 q1_0 s1 ++ wX5 g q1_0 r2 s2 ++ wX2 g (r0 10) r3 s3 ++ wAJ g a4 1 s4) [(0, .ref a0), (1, .int p1), (2, .int p2), (3, .int p3), (4, .ref a4)] 0 []
  unfold f_L_tells at h
  refine z_aload (pc := 0) (x := a4) C dL_tells_0 rfl ?_
  refine z_iconst (pc := 2) C dL_tells_2 ic_0 ?_
  refine z_aload_n (pc := 3) (x := a0) C dL_tells_3 (i := 0) rfl rfl ?_
  refine z_iload_n (pc := 4) (x := p1) C dL_tells_4 (i := 1) rfl rfl ?_
  refine z_iload_n (pc := 5) (x := p2) C dL_tells_5 (i := 2) rfl rfl ?_
  refine z_iload_n (pc := 6) (x := p3) C dL_tells_6 (i := 3) rfl rfl ?_
  rcases th_e h with ⟨x1, hx1, h⟩ | ⟨e2, he2, h⟩
  · refine z_callV (pc := 7) (As := [.int p1, .int p2, .int p3]) (rest := [.int (0 : Int32), .ref a4]) (wr := (wAJ g a4 1 s4)) C dL_tells_7 ml_RL_62 wv_X7_tells (m_X7_tells (a0 := a0) (r0 := r0) (r1 := r1) (q1_0 := q1_0) (r2 := r2) (r3 := r3) hg hx1) [0, 1, 2, 3, 4, 5, 6, 7, 8, 9, 10, 11, 12, 13, 14, 15, 16, 17, 18] [19] rfl rfl ⟨by decide, by decide⟩ (Nat.le_of_ble_eq_true rfl) ⟨by decide, by decide⟩ rfl rfl rfl rfl rfl rfl rfl (by decide) (ex_k C (cs' := 0) (ss' := 0) (wF := (wX7 g a0 r0 s0 ++ wX1 g (r0 3) r1 q1_0 s1 ++ wX5 g q1_0 r2 s2 ++ wX2 g (r0 10) r3 x1.2 ++ wAJ g a4 1 s4)) [1, 2, 3, 4, 5, 6, 7, 8, 9, 10, 11, 12, 13, 14, 15, 16, 17, 18, 19, 0] rfl rfl ?_)
    refine z_i2l (pc := 10) C dL_tells_10 ?_
    refine z_last (pc := 11) C 19 dL_tells_11 rfl (by decide) (ws' := (wX7 g a0 r0 s0 ++ wX1 g (r0 3) r1 q1_0 s1 ++ wX5 g q1_0 r2 s2 ++ wX2 g (r0 10) r3 x1.2 ++ wAJ g a4 1 (vp_updL s4 0 (x1.1).toInt64))) rfl ?_
    refine z_goto (pc := 12) C dL_tells_12 (tgt := 23) (by decide) ?_
    refine z_iconst (pc := 23) C dL_tells_23 ic_0 ?_
    exact z_iret C X dL_tells_24 (by rw [← Option.some.inj h]; exact ⟨rfl, rfl⟩) (by decide) (by decide)
  · refine (Decidable.em (e2 = 1)).elim (fun he => ?_) (fun hn => ?_)
    · subst he
      replace h := (ite_e h).1 rfl
      refine z_callVC (pc := 7) (E := "java/lang/IndexOutOfBoundsException") (As := [.int p1, .int p2, .int p3]) (rest := [.int (0 : Int32), .ref a4]) (wr := (wX2 g (r0 10) r3 s3 ++ wAJ g a4 1 s4)) C Xt dL_tells_7 ml_RL_62 wv_X7_tells (mt_X7_tells (a0 := a0) (r0 := r0) (r1 := r1) (q1_0 := q1_0) (r2 := r2) hg he2) [0, 1, 2, 3, 4, 5, 6, 7, 8, 9, 10, 11, 12, 13, 14, 15, 16] [17, 18, 19] rfl rfl ⟨by decide, by decide⟩ (Nat.le_of_ble_eq_true rfl) ⟨by decide, by decide⟩ rfl rfl rfl rfl rfl rfl rfl (by decide) [] (0, 12, 15, 18) [(0, 12, 19, 13)] rfl (fun z h => nomatch h) (by decide) (by decide) cll_18 cst_1 (fun qx => ?_)
      refine z_sub (ws' := (wX7 g a0 r0 s0 ++ wX1 g (r0 3) r1 q1_0 s1 ++ wX5 g q1_0 r2 s2 ++ wX2 g (r0 10) r3 s3 ++ wAJ g a4 1 s4)) C [3, 4, 5, 6, 7, 8, 9, 10, 11, 12, 13, 14, 15, 16, 17, 18, 19, 0, 1, 2] rfl rfl ?_
      refine z_to (ws' := (wX7 g a0 r0 s0 ++ wX1 g (r0 3) r1 q1_0 s1 ++ wX5 g q1_0 r2 s2 ++ wX2 g (r0 10) r3 s3 ++ wAJ g a4 1 s4)) (lv' := [(0, .ref a0), (1, .int p1), (2, .int p2), (3, .int p3), (4, .ref a4)]) (pc' := 15) (st' := [.ref qx]) (z_widen (cs' := 1) (ss' := 6) (by decide) (by decide) ?_) rfl rfl rfl rfl
      refine z_astore (pc := 15) C dL_tells_15 (by decide) (lv' := [(5, .ref qx), (0, .ref a0), (1, .int p1), (2, .int p2), (3, .int p3), (4, .ref a4)]) rfl ?_
      refine z_iconst (pc := 17) C dL_tells_17 ic_1 ?_
      exact z_iret C X dL_tells_18 (by rw [← Option.some.inj h]; exact ⟨rfl, rfl⟩) (by decide) (by decide)
    replace h := (ite_e h).2 hn
    refine (Decidable.em (e2 = 2)).elim (fun he => ?_) (fun hn => ?_)
    · subst he
      replace h := (ite_e h).1 rfl
      refine z_callVC (pc := 7) (E := "java/lang/IllegalArgumentException") (As := [.int p1, .int p2, .int p3]) (rest := [.int (0 : Int32), .ref a4]) (wr := (wX2 g (r0 10) r3 s3 ++ wAJ g a4 1 s4)) C Xt dL_tells_7 ml_RL_62 wv_X7_tells (mt_X7_tells (a0 := a0) (r0 := r0) (r1 := r1) (q1_0 := q1_0) (r2 := r2) hg he2) [0, 1, 2, 3, 4, 5, 6, 7, 8, 9, 10, 11, 12, 13, 14, 15, 16] [17, 18, 19] rfl rfl ⟨by decide, by decide⟩ (Nat.le_of_ble_eq_true rfl) ⟨by decide, by decide⟩ rfl rfl rfl rfl rfl rfl rfl (by decide) [(0, 12, 15, 18)] (0, 12, 19, 13) [] rfl (hp_21 hg) (by decide) (by decide) cll_13 cst_2 (fun qx => ?_)
      refine z_sub (ws' := (wX7 g a0 r0 s0 ++ wX1 g (r0 3) r1 q1_0 s1 ++ wX5 g q1_0 r2 s2 ++ wX2 g (r0 10) r3 s3 ++ wAJ g a4 1 s4)) C [3, 4, 5, 6, 7, 8, 9, 10, 11, 12, 13, 14, 15, 16, 17, 18, 19, 0, 1, 2] rfl rfl ?_
      refine z_to (ws' := (wX7 g a0 r0 s0 ++ wX1 g (r0 3) r1 q1_0 s1 ++ wX5 g q1_0 r2 s2 ++ wX2 g (r0 10) r3 s3 ++ wAJ g a4 1 s4)) (lv' := [(0, .ref a0), (1, .int p1), (2, .int p2), (3, .int p3), (4, .ref a4)]) (pc' := 19) (st' := [.ref qx]) (z_widen (cs' := 1) (ss' := 6) (by decide) (by decide) ?_) rfl rfl rfl rfl
      refine z_astore (pc := 19) C dL_tells_19 (by decide) (lv' := [(5, .ref qx), (0, .ref a0), (1, .int p1), (2, .int p2), (3, .int p3), (4, .ref a4)]) rfl ?_
      refine z_iconst (pc := 21) C dL_tells_21 ic_2 ?_
      exact z_iret C X dL_tells_22 (by rw [← Option.some.inj h]; exact ⟨rfl, rfl⟩) (by decide) (by decide)
    replace h := (ite_e h).2 hn
    exact nomatch h
def f_L_thinks (N : Nat) (s0 : Ob) (s1 : Ob) (s2 : Ob) (s3 : Ob) (s4 : (Nat → Int64)) (p1 : Int32) (p2 : Int32) : Option (Int32 × Ob × (Nat → Int64)) := (th (f_X7_thinks N s0 s1 s2 s3 p1 p2) (ft_X7_thinks N s0 s1 s2 p1 p2) (fun x1 => (some ((0 : Int32), x1.2, (vp_updL s4 0 (x1.1).toInt64)))) (fun e2 => (if e2 = 1 then (some ((1 : Int32), s3, s4)) else none)))
theorem m_L_thinks {g : Gp} {a0 : Nat} {a3 : Nat} {r0 : Nat → Nat} {r1 : Nat → Nat} {q1_0 : Nat} {r2 : Nat → Nat} {r3 : Nat → Nat} {N : Nat} {s0 : Ob} {s1 : Ob} {s2 : Ob} {s3 : Ob} {s4 : (Nat → Int64)} {p1 : Int32} {p2 : Int32} {res : Int32 × Ob × (Nat → Int64)} (hg : Ok g) (h : f_L_thinks N s0 s1 s2 s3 s4 p1 p2 = some res) : Ctw g yL_thinks cL_thinks 5 (some .int) [(0, 10, 13, 18)] (zrc 9 1 6 148) [.ref a0, .int p1, .int p2, .ref a3] (wX7 g a0 r0 s0 ++ wX1 g (r0 3) r1 q1_0 s1 ++ wX5 g q1_0 r2 s2 ++ wX2 g (r0 10) r3 s3 ++ wAJ g a3 1 s4) (exR (some (.int res.1)) (wX7 g a0 r0 s0 ++ wX1 g (r0 3) r1 q1_0 s1 ++ wX5 g q1_0 r2 s2 ++ wX2 g (r0 10) r3 res.2.1 ++ wAJ g a3 1 res.2.2)) := by
  refine ctw_of rfl hg (by show _ ≤ _; exact Nat.le_of_ble_eq_true rfl) (fun K C Xt X => ?_)
  show Zs K 0 0 (wX7 g a0 r0 s0 ++ wX1 g (r0 3) r1 q1_0 s1 ++ wX5 g q1_0 r2 s2 ++ wX2 g (r0 10) r3 s3 ++ wAJ g a3 1 s4) [(0, .ref a0), (1, .int p1), (2, .int p2), (3, .ref a3)] 0 []
  unfold f_L_thinks at h
  refine z_aload_n (pc := 0) (x := a3) C dL_thinks_0 (i := 3) rfl rfl ?_
  refine z_iconst (pc := 1) C dL_thinks_1 ic_0 ?_
  refine z_aload_n (pc := 2) (x := a0) C dL_thinks_2 (i := 0) rfl rfl ?_
  refine z_iload_n (pc := 3) (x := p1) C dL_thinks_3 (i := 1) rfl rfl ?_
  refine z_iload_n (pc := 4) (x := p2) C dL_thinks_4 (i := 2) rfl rfl ?_
  rcases th_e h with ⟨x1, hx1, h⟩ | ⟨e2, he2, h⟩
  · refine z_callV (pc := 5) (As := [.int p1, .int p2]) (rest := [.int (0 : Int32), .ref a3]) (wr := (wAJ g a3 1 s4)) C dL_thinks_5 ml_RL_47 wv_X7_thinks (m_X7_thinks (a0 := a0) (r0 := r0) (r1 := r1) (q1_0 := q1_0) (r2 := r2) (r3 := r3) hg hx1) [0, 1, 2, 3, 4, 5, 6, 7, 8, 9, 10, 11, 12, 13, 14, 15, 16, 17, 18] [19] rfl rfl ⟨by decide, by decide⟩ (Nat.le_of_ble_eq_true rfl) ⟨by decide, by decide⟩ rfl rfl rfl rfl rfl rfl rfl (by decide) (ex_k C (cs' := 0) (ss' := 0) (wF := (wX7 g a0 r0 s0 ++ wX1 g (r0 3) r1 q1_0 s1 ++ wX5 g q1_0 r2 s2 ++ wX2 g (r0 10) r3 x1.2 ++ wAJ g a3 1 s4)) [1, 2, 3, 4, 5, 6, 7, 8, 9, 10, 11, 12, 13, 14, 15, 16, 17, 18, 19, 0] rfl rfl ?_)
    refine z_i2l (pc := 8) C dL_thinks_8 ?_
    refine z_last (pc := 9) C 19 dL_thinks_9 rfl (by decide) (ws' := (wX7 g a0 r0 s0 ++ wX1 g (r0 3) r1 q1_0 s1 ++ wX5 g q1_0 r2 s2 ++ wX2 g (r0 10) r3 x1.2 ++ wAJ g a3 1 (vp_updL s4 0 (x1.1).toInt64))) rfl ?_
    refine z_goto (pc := 10) C dL_thinks_10 (tgt := 17) (by decide) ?_
    refine z_iconst (pc := 17) C dL_thinks_17 ic_0 ?_
    exact z_iret C X dL_thinks_18 (by rw [← Option.some.inj h]; exact ⟨rfl, rfl⟩) (by decide) (by decide)
  · refine (Decidable.em (e2 = 1)).elim (fun he => ?_) (fun hn => ?_)
    · subst he
      replace h := (ite_e h).1 rfl
      refine z_callVC (pc := 5) (E := "java/lang/IndexOutOfBoundsException") (As := [.int p1, .int p2]) (rest := [.int (0 : Int32), .ref a3]) (wr := (wX2 g (r0 10) r3 s3 ++ wAJ g a3 1 s4)) C Xt dL_thinks_5 ml_RL_47 wv_X7_thinks (mt_X7_thinks (a0 := a0) (r0 := r0) (r1 := r1) (q1_0 := q1_0) (r2 := r2) hg he2) [0, 1, 2, 3, 4, 5, 6, 7, 8, 9, 10, 11, 12, 13, 14, 15, 16] [17, 18, 19] rfl rfl ⟨by decide, by decide⟩ (Nat.le_of_ble_eq_true rfl) ⟨by decide, by decide⟩ rfl rfl rfl rfl rfl rfl rfl (by decide) [] (0, 10, 13, 18) [] rfl (fun z h => nomatch h) (by decide) (by decide) cll_18 cst_1 (fun qx => ?_)
      refine z_sub (ws' := (wX7 g a0 r0 s0 ++ wX1 g (r0 3) r1 q1_0 s1 ++ wX5 g q1_0 r2 s2 ++ wX2 g (r0 10) r3 s3 ++ wAJ g a3 1 s4)) C [3, 4, 5, 6, 7, 8, 9, 10, 11, 12, 13, 14, 15, 16, 17, 18, 19, 0, 1, 2] rfl rfl ?_
      refine z_to (ws' := (wX7 g a0 r0 s0 ++ wX1 g (r0 3) r1 q1_0 s1 ++ wX5 g q1_0 r2 s2 ++ wX2 g (r0 10) r3 s3 ++ wAJ g a3 1 s4)) (lv' := [(0, .ref a0), (1, .int p1), (2, .int p2), (3, .ref a3)]) (pc' := 13) (st' := [.ref qx]) (z_widen (cs' := 1) (ss' := 6) (by decide) (by decide) ?_) rfl rfl rfl rfl
      refine z_astore (pc := 13) C dL_thinks_13 (by decide) (lv' := [(4, .ref qx), (0, .ref a0), (1, .int p1), (2, .int p2), (3, .ref a3)]) rfl ?_
      refine z_iconst (pc := 15) C dL_thinks_15 ic_1 ?_
      exact z_iret C X dL_thinks_16 (by rw [← Option.some.inj h]; exact ⟨rfl, rfl⟩) (by decide) (by decide)
    replace h := (ite_e h).2 hn
    exact nomatch h
def f_L_thought (N : Nat) (s0 : Ob) (s1 : Ob) (s2 : Ob) (s3 : Ob) (s4 : (Nat → Int64)) (p1 : Int32) (p2 : Int32) (p3 : Int32) : Option (Int32 × Ob × (Nat → Int64)) := (th (f_X7_thought N s0 s1 s2 s3 p1 p2 p3) (ft_X7_thought N s0 s1 s2 p1 p2 p3) (fun x1 => (some ((0 : Int32), x1.2, (vp_updL s4 0 (x1.1).toInt64)))) (fun e2 => (if e2 = 1 then (some ((1 : Int32), s3, s4)) else none)))
theorem m_L_thought {g : Gp} {a0 : Nat} {a4 : Nat} {r0 : Nat → Nat} {r1 : Nat → Nat} {q1_0 : Nat} {r2 : Nat → Nat} {r3 : Nat → Nat} {N : Nat} {s0 : Ob} {s1 : Ob} {s2 : Ob} {s3 : Ob} {s4 : (Nat → Int64)} {p1 : Int32} {p2 : Int32} {p3 : Int32} {res : Int32 × Ob × (Nat → Int64)} (hg : Ok g) (h : f_L_thought N s0 s1 s2 s3 s4 p1 p2 p3 = some res) : Ctw g yL_thought cL_thought 6 (some .int) [(0, 12, 15, 18)] (zrc 9 1 6 152) [.ref a0, .int p1, .int p2, .int p3, .ref a4] (wX7 g a0 r0 s0 ++ wX1 g (r0 3) r1 q1_0 s1 ++ wX5 g q1_0 r2 s2 ++ wX2 g (r0 10) r3 s3 ++ wAJ g a4 1 s4) (exR (some (.int res.1)) (wX7 g a0 r0 s0 ++ wX1 g (r0 3) r1 q1_0 s1 ++ wX5 g q1_0 r2 s2 ++ wX2 g (r0 10) r3 res.2.1 ++ wAJ g a4 1 res.2.2)) := by
  refine ctw_of rfl hg (by show _ ≤ _; exact Nat.le_of_ble_eq_true rfl) (fun K C Xt X => ?_)
  show Zs K 0 0 (wX7 g a0 r0 s0 ++ wX1 g (r0 3) r1 q1_0 s1 ++ wX5 g q1_0 r2 s2 ++ wX2 g (r0 10) r3 s3 ++ wAJ g a4 1 s4) [(0, .ref a0), (1, .int p1), (2, .int p2), (3, .int p3), (4, .ref a4)] 0 []
  unfold f_L_thought at h
  refine z_aload (pc := 0) (x := a4) C dL_thought_0 rfl ?_
  refine z_iconst (pc := 2) C dL_thought_2 ic_0 ?_
  refine z_aload_n (pc := 3) (x := a0) C dL_thought_3 (i := 0) rfl rfl ?_
  refine z_iload_n (pc := 4) (x := p1) C dL_thought_4 (i := 1) rfl rfl ?_
  refine z_iload_n (pc := 5) (x := p2) C dL_thought_5 (i := 2) rfl rfl ?_
  refine z_iload_n (pc := 6) (x := p3) C dL_thought_6 (i := 3) rfl rfl ?_
  rcases th_e h with ⟨x1, hx1, h⟩ | ⟨e2, he2, h⟩
  · refine z_callV (pc := 7) (As := [.int p1, .int p2, .int p3]) (rest := [.int (0 : Int32), .ref a4]) (wr := (wAJ g a4 1 s4)) C dL_thought_7 ml_RL_50 wv_X7_thought (m_X7_thought (a0 := a0) (r0 := r0) (r1 := r1) (q1_0 := q1_0) (r2 := r2) (r3 := r3) hg hx1) [0, 1, 2, 3, 4, 5, 6, 7, 8, 9, 10, 11, 12, 13, 14, 15, 16, 17, 18] [19] rfl rfl ⟨by decide, by decide⟩ (Nat.le_of_ble_eq_true rfl) ⟨by decide, by decide⟩ rfl rfl rfl rfl rfl rfl rfl (by decide) (ex_k C (cs' := 0) (ss' := 0) (wF := (wX7 g a0 r0 s0 ++ wX1 g (r0 3) r1 q1_0 s1 ++ wX5 g q1_0 r2 s2 ++ wX2 g (r0 10) r3 x1.2 ++ wAJ g a4 1 s4)) [1, 2, 3, 4, 5, 6, 7, 8, 9, 10, 11, 12, 13, 14, 15, 16, 17, 18, 19, 0] rfl rfl ?_)
    refine z_i2l (pc := 10) C dL_thought_10 ?_
    refine z_last (pc := 11) C 19 dL_thought_11 rfl (by decide) (ws' := (wX7 g a0 r0 s0 ++ wX1 g (r0 3) r1 q1_0 s1 ++ wX5 g q1_0 r2 s2 ++ wX2 g (r0 10) r3 x1.2 ++ wAJ g a4 1 (vp_updL s4 0 (x1.1).toInt64))) rfl ?_
    refine z_goto (pc := 12) C dL_thought_12 (tgt := 19) (by decide) ?_
    refine z_iconst (pc := 19) C dL_thought_19 ic_0 ?_
    exact z_iret C X dL_thought_20 (by rw [← Option.some.inj h]; exact ⟨rfl, rfl⟩) (by decide) (by decide)
  · refine (Decidable.em (e2 = 1)).elim (fun he => ?_) (fun hn => ?_)
    · subst he
      replace h := (ite_e h).1 rfl
      refine z_callVC (pc := 7) (E := "java/lang/IndexOutOfBoundsException") (As := [.int p1, .int p2, .int p3]) (rest := [.int (0 : Int32), .ref a4]) (wr := (wX2 g (r0 10) r3 s3 ++ wAJ g a4 1 s4)) C Xt dL_thought_7 ml_RL_50 wv_X7_thought (mt_X7_thought (a0 := a0) (r0 := r0) (r1 := r1) (q1_0 := q1_0) (r2 := r2) hg he2) [0, 1, 2, 3, 4, 5, 6, 7, 8, 9, 10, 11, 12, 13, 14, 15, 16] [17, 18, 19] rfl rfl ⟨by decide, by decide⟩ (Nat.le_of_ble_eq_true rfl) ⟨by decide, by decide⟩ rfl rfl rfl rfl rfl rfl rfl (by decide) [] (0, 12, 15, 18) [] rfl (fun z h => nomatch h) (by decide) (by decide) cll_18 cst_1 (fun qx => ?_)
      refine z_sub (ws' := (wX7 g a0 r0 s0 ++ wX1 g (r0 3) r1 q1_0 s1 ++ wX5 g q1_0 r2 s2 ++ wX2 g (r0 10) r3 s3 ++ wAJ g a4 1 s4)) C [3, 4, 5, 6, 7, 8, 9, 10, 11, 12, 13, 14, 15, 16, 17, 18, 19, 0, 1, 2] rfl rfl ?_
      refine z_to (ws' := (wX7 g a0 r0 s0 ++ wX1 g (r0 3) r1 q1_0 s1 ++ wX5 g q1_0 r2 s2 ++ wX2 g (r0 10) r3 s3 ++ wAJ g a4 1 s4)) (lv' := [(0, .ref a0), (1, .int p1), (2, .int p2), (3, .int p3), (4, .ref a4)]) (pc' := 15) (st' := [.ref qx]) (z_widen (cs' := 1) (ss' := 6) (by decide) (by decide) ?_) rfl rfl rfl rfl
      refine z_astore (pc := 15) C dL_thought_15 (by decide) (lv' := [(5, .ref qx), (0, .ref a0), (1, .int p1), (2, .int p2), (3, .int p3), (4, .ref a4)]) rfl ?_
      refine z_iconst (pc := 17) C dL_thought_17 ic_1 ?_
      exact z_iret C X dL_thought_18 (by rw [← Option.some.inj h]; exact ⟨rfl, rfl⟩) (by decide) (by decide)
    replace h := (ite_e h).2 hn
    exact nomatch h
def f_L_total (N : Nat) (s0 : Ob) (s1 : Ob) (s2 : (Nat → Int64)) (p1 : Int32) : Option (Int32 × (Nat → Int64)) := (th (f_X7_total N s0 s1 p1) (ft_X7_total N s0 s1 p1) (fun x1 => (some ((0 : Int32), (vp_updL s2 0 (x1).toInt64)))) (fun e2 => (if e2 = 2 then (some ((1 : Int32), s2)) else none)))
theorem m_L_total {g : Gp} {a0 : Nat} {a2 : Nat} {r0 : Nat → Nat} {r1 : Nat → Nat} {q1_0 : Nat} {N : Nat} {s0 : Ob} {s1 : Ob} {s2 : (Nat → Int64)} {p1 : Int32} {res : Int32 × (Nat → Int64)} (hg : Ok g) (h : f_L_total N s0 s1 s2 p1 = some res) : Ctw g yL_total cL_total 4 (some .int) [(0, 9, 12, 13)] (zrc 7 1 6 103) [.ref a0, .int p1, .ref a2] (wX7 g a0 r0 s0 ++ wX1 g (r0 3) r1 q1_0 s1 ++ wAJ g a2 1 s2) (exR (some (.int res.1)) (wX7 g a0 r0 s0 ++ wX1 g (r0 3) r1 q1_0 s1 ++ wAJ g a2 1 res.2)) := by
  refine ctw_of rfl hg (by show _ ≤ _; exact Nat.le_of_ble_eq_true rfl) (fun K C Xt X => ?_)
  show Zs K 0 0 (wX7 g a0 r0 s0 ++ wX1 g (r0 3) r1 q1_0 s1 ++ wAJ g a2 1 s2) [(0, .ref a0), (1, .int p1), (2, .ref a2)] 0 []
  unfold f_L_total at h
  refine z_aload_n (pc := 0) (x := a2) C dL_total_0 (i := 2) rfl rfl ?_
  refine z_iconst (pc := 1) C dL_total_1 ic_0 ?_
  refine z_aload_n (pc := 2) (x := a0) C dL_total_2 (i := 0) rfl rfl ?_
  refine z_iload_n (pc := 3) (x := p1) C dL_total_3 (i := 1) rfl rfl ?_
  rcases th_e h with ⟨x1, hx1, h⟩ | ⟨e2, he2, h⟩
  · refine z_callV (pc := 4) (As := [.int p1]) (rest := [.int (0 : Int32), .ref a2]) (wr := (wAJ g a2 1 s2)) C dL_total_4 ml_RL_86 wv_X7_total (m_X7_total (a0 := a0) (r0 := r0) (r1 := r1) (q1_0 := q1_0) hg hx1) [0, 1, 2, 3, 4, 5, 6, 7, 8, 9, 10, 11, 12] [13] rfl rfl ⟨by decide, by decide⟩ (Nat.le_of_ble_eq_true rfl) ⟨by decide, by decide⟩ rfl rfl rfl rfl rfl rfl rfl (by decide) (ex_k C (cs' := 0) (ss' := 0) (wF := (wX7 g a0 r0 s0 ++ wX1 g (r0 3) r1 q1_0 s1 ++ wAJ g a2 1 s2)) [1, 2, 3, 4, 5, 6, 7, 8, 9, 10, 11, 12, 13, 0] rfl rfl ?_)
    refine z_i2l (pc := 7) C dL_total_7 ?_
    refine z_last (pc := 8) C 13 dL_total_8 rfl (by decide) (ws' := (wX7 g a0 r0 s0 ++ wX1 g (r0 3) r1 q1_0 s1 ++ wAJ g a2 1 (vp_updL s2 0 (x1).toInt64))) rfl ?_
    refine z_goto (pc := 9) C dL_total_9 (tgt := 15) (by decide) ?_
    refine z_iconst (pc := 15) C dL_total_15 ic_0 ?_
    exact z_iret C X dL_total_16 (by rw [← Option.some.inj h]; exact ⟨rfl, rfl⟩) (by decide) (by decide)
  · refine (Decidable.em (e2 = 2)).elim (fun he => ?_) (fun hn => ?_)
    · subst he
      replace h := (ite_e h).1 rfl
      refine z_callVC (pc := 4) (E := "java/lang/IllegalArgumentException") (As := [.int p1]) (rest := [.int (0 : Int32), .ref a2]) (wr := (wAJ g a2 1 s2)) C Xt dL_total_4 ml_RL_86 wv_X7_total (mt_X7_total (a0 := a0) (r0 := r0) (r1 := r1) (q1_0 := q1_0) hg he2) [0, 1, 2, 3, 4, 5, 6, 7, 8, 9, 10, 11, 12] [13] rfl rfl ⟨by decide, by decide⟩ (Nat.le_of_ble_eq_true rfl) ⟨by decide, by decide⟩ rfl rfl rfl rfl rfl rfl rfl (by decide) [] (0, 9, 12, 13) [] rfl (fun z h => nomatch h) (by decide) (by decide) cll_13 cst_2 (fun qx => ?_)
      refine z_sub (ws' := (wX7 g a0 r0 s0 ++ wX1 g (r0 3) r1 q1_0 s1 ++ wAJ g a2 1 s2)) C [1, 2, 3, 4, 5, 6, 7, 8, 9, 10, 11, 12, 13, 0] rfl rfl ?_
      refine z_to (ws' := (wX7 g a0 r0 s0 ++ wX1 g (r0 3) r1 q1_0 s1 ++ wAJ g a2 1 s2)) (lv' := [(0, .ref a0), (1, .int p1), (2, .ref a2)]) (pc' := 12) (st' := [.ref qx]) (z_widen (cs' := 1) (ss' := 6) (by decide) (by decide) ?_) rfl rfl rfl rfl
      refine z_astore_n (pc := 12) C dL_total_12 (i := 3) rfl (by decide) (lv' := [(3, .ref qx), (0, .ref a0), (1, .int p1), (2, .ref a2)]) rfl ?_
      refine z_iconst (pc := 13) C dL_total_13 ic_1 ?_
      exact z_iret C X dL_total_14 (by rw [← Option.some.inj h]; exact ⟨rfl, rfl⟩) (by decide) (by decide)
    replace h := (ite_e h).2 hn
    exact nomatch h
def f_L_touches (N : Nat) (s0 : Ob) (s1 : Ob) (s2 : Ob) (s3 : (Nat → Int64)) (p1 : Int32) (p2 : Int32) (p3 : Int32) : Option (Int32 × (Nat → Int64)) := (th (f_X7_touches N s0 s1 s2 p1 p2 p3) (ft_X7_touches N s0 s1 s2 p1 p2 p3) (fun x1 => (some ((0 : Int32), (vp_updL s3 0 (x1).toInt64)))) (fun e2 => (if e2 = 1 then (some ((1 : Int32), s3)) else (if e2 = 2 then (some ((2 : Int32), s3)) else none))))
theorem m_L_touches {g : Gp} {a0 : Nat} {a4 : Nat} {r0 : Nat → Nat} {r1 : Nat → Nat} {q1_0 : Nat} {r2 : Nat → Nat} {N : Nat} {s0 : Ob} {s1 : Ob} {s2 : Ob} {s3 : (Nat → Int64)} {p1 : Int32} {p2 : Int32} {p3 : Int32} {res : Int32 × (Nat → Int64)} (hg : Ok g) (h : f_L_touches N s0 s1 s2 s3 p1 p2 p3 = some res) : Ctw g yL_touches cL_touches 6 (some .int) [(0, 12, 15, 18), (0, 12, 19, 13)] (zrc 8 1 6 129) [.ref a0, .int p1, .int p2, .int p3, .ref a4] (wX7 g a0 r0 s0 ++ wX1 g (r0 3) r1 q1_0 s1 ++ wX5 g q1_0 r2 s2 ++ wAJ g a4 1 s3) (exR (some (.int res.1)) (wX7 g a0 r0 s0 ++ wX1 g (r0 3) r1 q1_0 s1 ++ wX5 g q1_0 r2 s2 ++ wAJ g a4 1 res.2)) := by
  refine ctw_of rfl hg (by show _ ≤ _; exact Nat.le_of_ble_eq_true rfl) (fun K C Xt X => ?_)
  show Zs K 0 0 (wX7 g a0 r0 s0 ++ wX1 g (r0 3) r1 q1_0 s1 ++ wX5 g q1_0 r2 s2 ++ wAJ g a4 1 s3) [(0, .ref a0), (1, .int p1), (2, .int p2), (3, .int p3), (4, .ref a4)] 0 []
  unfold f_L_touches at h
  refine z_aload (pc := 0) (x := a4) C dL_touches_0 rfl ?_
  refine z_iconst (pc := 2) C dL_touches_2 ic_0 ?_
  refine z_aload_n (pc := 3) (x := a0) C dL_touches_3 (i := 0) rfl rfl ?_
  refine z_iload_n (pc := 4) (x := p1) C dL_touches_4 (i := 1) rfl rfl ?_
  refine z_iload_n (pc := 5) (x := p2) C dL_touches_5 (i := 2) rfl rfl ?_
  refine z_iload_n (pc := 6) (x := p3) C dL_touches_6 (i := 3) rfl rfl ?_
  rcases th_e h with ⟨x1, hx1, h⟩ | ⟨e2, he2, h⟩
  · refine z_callV (pc := 7) (As := [.int p1, .int p2, .int p3]) (rest := [.int (0 : Int32), .ref a4]) (wr := (wAJ g a4 1 s3)) C dL_touches_7 ml_RL_59 wv_X7_touches (m_X7_touches (a0 := a0) (r0 := r0) (r1 := r1) (q1_0 := q1_0) (r2 := r2) hg hx1) [0, 1, 2, 3, 4, 5, 6, 7, 8, 9, 10, 11, 12, 13, 14, 15, 16] [17] rfl rfl ⟨by decide, by decide⟩ (Nat.le_of_ble_eq_true rfl) ⟨by decide, by decide⟩ rfl rfl rfl rfl rfl rfl rfl (by decide) (ex_k C (cs' := 0) (ss' := 0) (wF := (wX7 g a0 r0 s0 ++ wX1 g (r0 3) r1 q1_0 s1 ++ wX5 g q1_0 r2 s2 ++ wAJ g a4 1 s3)) [1, 2, 3, 4, 5, 6, 7, 8, 9, 10, 11, 12, 13, 14, 15, 16, 17, 0] rfl rfl ?_)
    refine z_i2l (pc := 10) C dL_touches_10 ?_
    refine z_last (pc := 11) C 17 dL_touches_11 rfl (by decide) (ws' := (wX7 g a0 r0 s0 ++ wX1 g (r0 3) r1 q1_0 s1 ++ wX5 g q1_0 r2 s2 ++ wAJ g a4 1 (vp_updL s3 0 (x1).toInt64))) rfl ?_
    refine z_goto (pc := 12) C dL_touches_12 (tgt := 23) (by decide) ?_
    refine z_iconst (pc := 23) C dL_touches_23 ic_0 ?_
    exact z_iret C X dL_touches_24 (by rw [← Option.some.inj h]; exact ⟨rfl, rfl⟩) (by decide) (by decide)
  · refine (Decidable.em (e2 = 1)).elim (fun he => ?_) (fun hn => ?_)
    · subst he
      replace h := (ite_e h).1 rfl
      refine z_callVC (pc := 7) (E := "java/lang/IndexOutOfBoundsException") (As := [.int p1, .int p2, .int p3]) (rest := [.int (0 : Int32), .ref a4]) (wr := (wAJ g a4 1 s3)) C Xt dL_touches_7 ml_RL_59 wv_X7_touches (mt_X7_touches (a0 := a0) (r0 := r0) (r1 := r1) (q1_0 := q1_0) (r2 := r2) hg he2) [0, 1, 2, 3, 4, 5, 6, 7, 8, 9, 10, 11, 12, 13, 14, 15, 16] [17] rfl rfl ⟨by decide, by decide⟩ (Nat.le_of_ble_eq_true rfl) ⟨by decide, by decide⟩ rfl rfl rfl rfl rfl rfl rfl (by decide) [] (0, 12, 15, 18) [(0, 12, 19, 13)] rfl (fun z h => nomatch h) (by decide) (by decide) cll_18 cst_1 (fun qx => ?_)
      refine z_sub (ws' := (wX7 g a0 r0 s0 ++ wX1 g (r0 3) r1 q1_0 s1 ++ wX5 g q1_0 r2 s2 ++ wAJ g a4 1 s3)) C [1, 2, 3, 4, 5, 6, 7, 8, 9, 10, 11, 12, 13, 14, 15, 16, 17, 0] rfl rfl ?_
      refine z_to (ws' := (wX7 g a0 r0 s0 ++ wX1 g (r0 3) r1 q1_0 s1 ++ wX5 g q1_0 r2 s2 ++ wAJ g a4 1 s3)) (lv' := [(0, .ref a0), (1, .int p1), (2, .int p2), (3, .int p3), (4, .ref a4)]) (pc' := 15) (st' := [.ref qx]) (z_widen (cs' := 1) (ss' := 6) (by decide) (by decide) ?_) rfl rfl rfl rfl
      refine z_astore (pc := 15) C dL_touches_15 (by decide) (lv' := [(5, .ref qx), (0, .ref a0), (1, .int p1), (2, .int p2), (3, .int p3), (4, .ref a4)]) rfl ?_
      refine z_iconst (pc := 17) C dL_touches_17 ic_1 ?_
      exact z_iret C X dL_touches_18 (by rw [← Option.some.inj h]; exact ⟨rfl, rfl⟩) (by decide) (by decide)
    replace h := (ite_e h).2 hn
    refine (Decidable.em (e2 = 2)).elim (fun he => ?_) (fun hn => ?_)
    · subst he
      replace h := (ite_e h).1 rfl
      refine z_callVC (pc := 7) (E := "java/lang/IllegalArgumentException") (As := [.int p1, .int p2, .int p3]) (rest := [.int (0 : Int32), .ref a4]) (wr := (wAJ g a4 1 s3)) C Xt dL_touches_7 ml_RL_59 wv_X7_touches (mt_X7_touches (a0 := a0) (r0 := r0) (r1 := r1) (q1_0 := q1_0) (r2 := r2) hg he2) [0, 1, 2, 3, 4, 5, 6, 7, 8, 9, 10, 11, 12, 13, 14, 15, 16] [17] rfl rfl ⟨by decide, by decide⟩ (Nat.le_of_ble_eq_true rfl) ⟨by decide, by decide⟩ rfl rfl rfl rfl rfl rfl rfl (by decide) [(0, 12, 15, 18)] (0, 12, 19, 13) [] rfl (hp_21 hg) (by decide) (by decide) cll_13 cst_2 (fun qx => ?_)
      refine z_sub (ws' := (wX7 g a0 r0 s0 ++ wX1 g (r0 3) r1 q1_0 s1 ++ wX5 g q1_0 r2 s2 ++ wAJ g a4 1 s3)) C [1, 2, 3, 4, 5, 6, 7, 8, 9, 10, 11, 12, 13, 14, 15, 16, 17, 0] rfl rfl ?_
      refine z_to (ws' := (wX7 g a0 r0 s0 ++ wX1 g (r0 3) r1 q1_0 s1 ++ wX5 g q1_0 r2 s2 ++ wAJ g a4 1 s3)) (lv' := [(0, .ref a0), (1, .int p1), (2, .int p2), (3, .int p3), (4, .ref a4)]) (pc' := 19) (st' := [.ref qx]) (z_widen (cs' := 1) (ss' := 6) (by decide) (by decide) ?_) rfl rfl rfl rfl
      refine z_astore (pc := 19) C dL_touches_19 (by decide) (lv' := [(5, .ref qx), (0, .ref a0), (1, .int p1), (2, .int p2), (3, .int p3), (4, .ref a4)]) rfl ?_
      refine z_iconst (pc := 21) C dL_touches_21 ic_2 ?_
      exact z_iret C X dL_touches_22 (by rw [← Option.some.inj h]; exact ⟨rfl, rfl⟩) (by decide) (by decide)
    replace h := (ite_e h).2 hn
    exact nomatch h
def f_L_valueBehind (N : Nat) (q1_0 : Nat) (q4_0 : Nat) (q5_0 : Nat) (s0 : Ob) (s1 : Ob) (s2 : Ob) (s3 : Ob) (s4 : Ob) (s5 : Ob) (s6 : (Nat → Int64)) (p1 : Int32) (p2 : Int32) : Option (Int32 × Ob × Ob × Ob × (Nat → Int64) × Nat × Nat) := (th (f_X7_valueBehind N s0 s1 s2 s3 s4 s5 p1 p2) (ft_X7_valueBehind N s0 s1 s2 p1 p2) (fun x1 => (some ((0 : Int32), x1.2.1, x1.2.2.1, x1.2.2.2.1, (vp_updL s6 0 (x1.1).toInt64), (bif x1.2.2.2.2 then q1_0 else q4_0), (bif x1.2.2.2.2 then q1_0 else q5_0)))) (fun e2 => (if e2 = 2 then (some ((1 : Int32), s3, s4, s5, s6, q4_0, q5_0)) else none)))
theorem m_L_valueBehind {g : Gp} {a0 : Nat} {a3 : Nat} {r0 : Nat → Nat} {r1 : Nat → Nat} {r2 : Nat → Nat} {r3 : Nat → Nat} {r4 : Nat → Nat} {r5 : Nat → Nat} {N : Nat} {q1_0 : Nat} {q4_0 : Nat} {q5_0 : Nat} {s0 : Ob} {s1 : Ob} {s2 : Ob} {s3 : Ob} {s4 : Ob} {s5 : Ob} {s6 : (Nat → Int64)} {p1 : Int32} {p2 : Int32} {res : Int32 × Ob × Ob × Ob × (Nat → Int64) × Nat × Nat} (hg : Ok g) (h : f_L_valueBehind N q1_0 q4_0 q5_0 s0 s1 s2 s3 s4 s5 s6 p1 p2 = some res) : Ctw g yL_valueBehind cL_valueBehind 5 (some .int) [(0, 10, 13, 13)] (zrc 7 1 6 157) [.ref a0, .int p1, .int p2, .ref a3] (wX7 g a0 r0 s0 ++ wX1 g (r0 3) r1 q1_0 s1 ++ wX5 g q1_0 r2 s2 ++ wX6 g (r0 12) r3 s3 ++ wX3 g (r3 8) r4 q4_0 s4 ++ wX3 g (r3 9) r5 q5_0 s5 ++ wAJ g a3 1 s6) (exR (some (.int res.1)) (wX7 g a0 r0 s0 ++ wX1 g (r0 3) r1 q1_0 s1 ++ wX5 g q1_0 r2 s2 ++ wX6 g (r0 12) r3 res.2.1 ++ wX3 g (r3 8) r4 res.2.2.2.2.2.1 res.2.2.1 ++ wX3 g (r3 9) r5 res.2.2.2.2.2.2 res.2.2.2.1 ++ wAJ g a3 1 res.2.2.2.2.1)) := by
  refine ctw_of rfl hg (by show _ ≤ _; exact Nat.le_of_ble_eq_true rfl) (fun K C Xt X => ?_)
  show Zs K 0 0 (wX7 g a0 r0 s0 ++ wX1 g (r0 3) r1 q1_0 s1 ++ wX5 g q1_0 r2 s2 ++ wX6 g (r0 12) r3 s3 ++ wX3 g (r3 8) r4 q4_0 s4 ++ wX3 g (r3 9) r5 q5_0 s5 ++ wAJ g a3 1 s6) [(0, .ref a0), (1, .int p1), (2, .int p2), (3, .ref a3)] 0 []
  unfold f_L_valueBehind at h
  refine z_aload_n (pc := 0) (x := a3) C dL_valueBehind_0 (i := 3) rfl rfl ?_
  refine z_iconst (pc := 1) C dL_valueBehind_1 ic_0 ?_
  refine z_aload_n (pc := 2) (x := a0) C dL_valueBehind_2 (i := 0) rfl rfl ?_
  refine z_iload_n (pc := 3) (x := p1) C dL_valueBehind_3 (i := 1) rfl rfl ?_
  refine z_iload_n (pc := 4) (x := p2) C dL_valueBehind_4 (i := 2) rfl rfl ?_
  rcases th_e h with ⟨x1, hx1, h⟩ | ⟨e2, he2, h⟩
  · refine z_callV (pc := 5) (As := [.int p1, .int p2]) (rest := [.int (0 : Int32), .ref a3]) (wr := (wAJ g a3 1 s6)) C dL_valueBehind_5 ml_RL_80 wv_X7_valueBehind (m_X7_valueBehind (a0 := a0) (r0 := r0) (r1 := r1) (q1_0 := q1_0) (r2 := r2) (r3 := r3) (r4 := r4) (q4_0 := q4_0) (r5 := r5) (q5_0 := q5_0) hg hx1) [0, 1, 2, 3, 4, 5, 6, 7, 8, 9, 10, 11, 12, 13, 14, 15, 16, 17, 18, 19, 20, 21, 22, 23, 24, 25, 26] [27] rfl rfl ⟨by decide, by decide⟩ (Nat.le_of_ble_eq_true rfl) ⟨by decide, by decide⟩ rfl rfl rfl rfl rfl rfl rfl (by decide) (ex_k C (cs' := 0) (ss' := 0) (wF := (wX7 g a0 r0 s0 ++ wX1 g (r0 3) r1 q1_0 s1 ++ wX5 g q1_0 r2 s2 ++ wX6 g (r0 12) r3 x1.2.1 ++ wX3 g (r3 8) r4 (bif x1.2.2.2.2 then q1_0 else q4_0) x1.2.2.1 ++ wX3 g (r3 9) r5 (bif x1.2.2.2.2 then q1_0 else q5_0) x1.2.2.2.1 ++ wAJ g a3 1 s6)) [1, 2, 3, 4, 5, 6, 7, 8, 9, 10, 11, 12, 13, 14, 15, 16, 17, 18, 19, 20, 21, 22, 23, 24, 25, 26, 27, 0] rfl rfl ?_)
    refine z_i2l (pc := 8) C dL_valueBehind_8 ?_
    refine z_last (pc := 9) C 27 dL_valueBehind_9 rfl (by decide) (ws' := (wX7 g a0 r0 s0 ++ wX1 g (r0 3) r1 q1_0 s1 ++ wX5 g q1_0 r2 s2 ++ wX6 g (r0 12) r3 x1.2.1 ++ wX3 g (r3 8) r4 (bif x1.2.2.2.2 then q1_0 else q4_0) x1.2.2.1 ++ wX3 g (r3 9) r5 (bif x1.2.2.2.2 then q1_0 else q5_0) x1.2.2.2.1 ++ wAJ g a3 1 (vp_updL s6 0 (x1.1).toInt64))) rfl ?_
    refine z_goto (pc := 10) C dL_valueBehind_10 (tgt := 17) (by decide) ?_
    refine z_iconst (pc := 17) C dL_valueBehind_17 ic_0 ?_
    exact z_iret C X dL_valueBehind_18 (by rw [← Option.some.inj h]; exact ⟨rfl, rfl⟩) (by decide) (by decide)
  · refine (Decidable.em (e2 = 2)).elim (fun he => ?_) (fun hn => ?_)
    · subst he
      replace h := (ite_e h).1 rfl
      refine z_callVC (pc := 5) (E := "java/lang/IllegalArgumentException") (As := [.int p1, .int p2]) (rest := [.int (0 : Int32), .ref a3]) (wr := (wX6 g (r0 12) r3 s3 ++ wX3 g (r3 8) r4 q4_0 s4 ++ wX3 g (r3 9) r5 q5_0 s5 ++ wAJ g a3 1 s6)) C Xt dL_valueBehind_5 ml_RL_80 wv_X7_valueBehind (mt_X7_valueBehind (a0 := a0) (r0 := r0) (r1 := r1) (q1_0 := q1_0) (r2 := r2) hg he2) [0, 1, 2, 3, 4, 5, 6, 7, 8, 9, 10, 11, 12, 13, 14, 15, 16] [17, 18, 19, 20, 21, 22, 23, 24, 25, 26, 27] rfl rfl ⟨by decide, by decide⟩ (Nat.le_of_ble_eq_true rfl) ⟨by decide, by decide⟩ rfl rfl rfl rfl rfl rfl rfl (by decide) [] (0, 10, 13, 13) [] rfl (fun z h => nomatch h) (by decide) (by decide) cll_13 cst_2 (fun qx => ?_)
      refine z_sub (ws' := (wX7 g a0 r0 s0 ++ wX1 g (r0 3) r1 q1_0 s1 ++ wX5 g q1_0 r2 s2 ++ wX6 g (r0 12) r3 s3 ++ wX3 g (r3 8) r4 q4_0 s4 ++ wX3 g (r3 9) r5 q5_0 s5 ++ wAJ g a3 1 s6)) C [11, 12, 13, 14, 15, 16, 17, 18, 19, 20, 21, 22, 23, 24, 25, 26, 27, 0, 1, 2, 3, 4, 5, 6, 7, 8, 9, 10] rfl rfl ?_
      refine z_to (ws' := (wX7 g a0 r0 s0 ++ wX1 g (r0 3) r1 q1_0 s1 ++ wX5 g q1_0 r2 s2 ++ wX6 g (r0 12) r3 s3 ++ wX3 g (r3 8) r4 q4_0 s4 ++ wX3 g (r3 9) r5 q5_0 s5 ++ wAJ g a3 1 s6)) (lv' := [(0, .ref a0), (1, .int p1), (2, .int p2), (3, .ref a3)]) (pc' := 13) (st' := [.ref qx]) (z_widen (cs' := 1) (ss' := 6) (by decide) (by decide) ?_) rfl rfl rfl rfl
      refine z_astore (pc := 13) C dL_valueBehind_13 (by decide) (lv' := [(4, .ref qx), (0, .ref a0), (1, .int p1), (2, .int p2), (3, .ref a3)]) rfl ?_
      refine z_iconst (pc := 15) C dL_valueBehind_15 ic_1 ?_
      exact z_iret C X dL_valueBehind_16 (by rw [← Option.some.inj h]; exact ⟨rfl, rfl⟩) (by decide) (by decide)
    replace h := (ite_e h).2 hn
    exact nomatch h
def f_L_wordsLeft (N : Nat) (s0 : Ob) (s1 : Ob) (s2 : Ob) (s3 : (Nat → Int64)) (p1 : Int32) (p2 : Int32) : Option (Int32 × (Nat → Int64)) := (th (f_X7_wordsLeft N s0 s1 s2 p1 p2) (ft_X7_wordsLeft N s0 s1 s2 p1 p2) (fun x1 => (some ((0 : Int32), (vp_updL s3 0 (x1).toInt64)))) (fun e2 => (if e2 = 2 then (some ((1 : Int32), s3)) else none)))
theorem m_L_wordsLeft {g : Gp} {a0 : Nat} {a3 : Nat} {r0 : Nat → Nat} {r1 : Nat → Nat} {q1_0 : Nat} {r2 : Nat → Nat} {N : Nat} {s0 : Ob} {s1 : Ob} {s2 : Ob} {s3 : (Nat → Int64)} {p1 : Int32} {p2 : Int32} {res : Int32 × (Nat → Int64)} (hg : Ok g) (h : f_L_wordsLeft N s0 s1 s2 s3 p1 p2 = some res) : Ctw g yL_wordsLeft cL_wordsLeft 5 (some .int) [(0, 10, 13, 13)] (zrc 8 1 6 128) [.ref a0, .int p1, .int p2, .ref a3] (wX7 g a0 r0 s0 ++ wX1 g (r0 3) r1 q1_0 s1 ++ wX5 g q1_0 r2 s2 ++ wAJ g a3 1 s3) (exR (some (.int res.1)) (wX7 g a0 r0 s0 ++ wX1 g (r0 3) r1 q1_0 s1 ++ wX5 g q1_0 r2 s2 ++ wAJ g a3 1 res.2)) := by
  refine ctw_of rfl hg (by show _ ≤ _; exact Nat.le_of_ble_eq_true rfl) (fun K C Xt X => ?_)
  show Zs K 0 0 (wX7 g a0 r0 s0 ++ wX1 g (r0 3) r1 q1_0 s1 ++ wX5 g q1_0 r2 s2 ++ wAJ g a3 1 s3) [(0, .ref a0), (1, .int p1), (2, .int p2), (3, .ref a3)] 0 []
  unfold f_L_wordsLeft at h
  refine z_aload_n (pc := 0) (x := a3) C dL_wordsLeft_0 (i := 3) rfl rfl ?_
  refine z_iconst (pc := 1) C dL_wordsLeft_1 ic_0 ?_
  refine z_aload_n (pc := 2) (x := a0) C dL_wordsLeft_2 (i := 0) rfl rfl ?_
  refine z_iload_n (pc := 3) (x := p1) C dL_wordsLeft_3 (i := 1) rfl rfl ?_
  refine z_iload_n (pc := 4) (x := p2) C dL_wordsLeft_4 (i := 2) rfl rfl ?_
  rcases th_e h with ⟨x1, hx1, h⟩ | ⟨e2, he2, h⟩
  · refine z_callV (pc := 5) (As := [.int p1, .int p2]) (rest := [.int (0 : Int32), .ref a3]) (wr := (wAJ g a3 1 s3)) C dL_wordsLeft_5 ml_RL_56 wv_X7_wordsLeft (m_X7_wordsLeft (a0 := a0) (r0 := r0) (r1 := r1) (q1_0 := q1_0) (r2 := r2) hg hx1) [0, 1, 2, 3, 4, 5, 6, 7, 8, 9, 10, 11, 12, 13, 14, 15, 16] [17] rfl rfl ⟨by decide, by decide⟩ (Nat.le_of_ble_eq_true rfl) ⟨by decide, by decide⟩ rfl rfl rfl rfl rfl rfl rfl (by decide) (ex_k C (cs' := 0) (ss' := 0) (wF := (wX7 g a0 r0 s0 ++ wX1 g (r0 3) r1 q1_0 s1 ++ wX5 g q1_0 r2 s2 ++ wAJ g a3 1 s3)) [1, 2, 3, 4, 5, 6, 7, 8, 9, 10, 11, 12, 13, 14, 15, 16, 17, 0] rfl rfl ?_)
    refine z_i2l (pc := 8) C dL_wordsLeft_8 ?_
    refine z_last (pc := 9) C 17 dL_wordsLeft_9 rfl (by decide) (ws' := (wX7 g a0 r0 s0 ++ wX1 g (r0 3) r1 q1_0 s1 ++ wX5 g q1_0 r2 s2 ++ wAJ g a3 1 (vp_updL s3 0 (x1).toInt64))) rfl ?_
    refine z_goto (pc := 10) C dL_wordsLeft_10 (tgt := 17) (by decide) ?_
    refine z_iconst (pc := 17) C dL_wordsLeft_17 ic_0 ?_
    exact z_iret C X dL_wordsLeft_18 (by rw [← Option.some.inj h]; exact ⟨rfl, rfl⟩) (by decide) (by decide)
  · refine (Decidable.em (e2 = 2)).elim (fun he => ?_) (fun hn => ?_)
    · subst he
      replace h := (ite_e h).1 rfl
      refine z_callVC (pc := 5) (E := "java/lang/IllegalArgumentException") (As := [.int p1, .int p2]) (rest := [.int (0 : Int32), .ref a3]) (wr := (wAJ g a3 1 s3)) C Xt dL_wordsLeft_5 ml_RL_56 wv_X7_wordsLeft (mt_X7_wordsLeft (a0 := a0) (r0 := r0) (r1 := r1) (q1_0 := q1_0) (r2 := r2) hg he2) [0, 1, 2, 3, 4, 5, 6, 7, 8, 9, 10, 11, 12, 13, 14, 15, 16] [17] rfl rfl ⟨by decide, by decide⟩ (Nat.le_of_ble_eq_true rfl) ⟨by decide, by decide⟩ rfl rfl rfl rfl rfl rfl rfl (by decide) [] (0, 10, 13, 13) [] rfl (fun z h => nomatch h) (by decide) (by decide) cll_13 cst_2 (fun qx => ?_)
      refine z_sub (ws' := (wX7 g a0 r0 s0 ++ wX1 g (r0 3) r1 q1_0 s1 ++ wX5 g q1_0 r2 s2 ++ wAJ g a3 1 s3)) C [1, 2, 3, 4, 5, 6, 7, 8, 9, 10, 11, 12, 13, 14, 15, 16, 17, 0] rfl rfl ?_
      refine z_to (ws' := (wX7 g a0 r0 s0 ++ wX1 g (r0 3) r1 q1_0 s1 ++ wX5 g q1_0 r2 s2 ++ wAJ g a3 1 s3)) (lv' := [(0, .ref a0), (1, .int p1), (2, .int p2), (3, .ref a3)]) (pc' := 13) (st' := [.ref qx]) (z_widen (cs' := 1) (ss' := 6) (by decide) (by decide) ?_) rfl rfl rfl rfl
      refine z_astore (pc := 13) C dL_wordsLeft_13 (by decide) (lv' := [(4, .ref qx), (0, .ref a0), (1, .int p1), (2, .int p2), (3, .ref a3)]) rfl ?_
      refine z_iconst (pc := 15) C dL_wordsLeft_15 ic_1 ?_
      exact z_iret C X dL_wordsLeft_16 (by rw [← Option.some.inj h]; exact ⟨rfl, rfl⟩) (by decide) (by decide)
    replace h := (ite_e h).2 hn
    exact nomatch h
def f_L_writeHand (N : Nat) (s0 : Ob) (s1 : Ob) (s2 : Ob) (s3 : (Nat → Int64)) (p1 : Int32) (p2 : Int32) : Option (Int32 × Ob × (Nat → Int64)) := (th (f_X7_writeHand N s0 s1 s2 p1 p2) (ft_X7_writeHand N s0 s1 s2 p1 p2) (fun x1 => (some ((0 : Int32), x1.2, (vp_updL s3 0 (x1.1).toInt64)))) (fun e2 => (if e2 = 1 then (some ((1 : Int32), s0, s3)) else none)))
theorem m_L_writeHand {g : Gp} {a0 : Nat} {a3 : Nat} {r0 : Nat → Nat} {r1 : Nat → Nat} {q1_0 : Nat} {r2 : Nat → Nat} {N : Nat} {s0 : Ob} {s1 : Ob} {s2 : Ob} {s3 : (Nat → Int64)} {p1 : Int32} {p2 : Int32} {res : Int32 × Ob × (Nat → Int64)} (hg : Ok g) (h : f_L_writeHand N s0 s1 s2 s3 p1 p2 = some res) : Ctw g yL_writeHand cL_writeHand 5 (some .int) [(0, 10, 13, 18)] (zrc 8 1 6 128) [.ref a0, .int p1, .int p2, .ref a3] (wX7 g a0 r0 s0 ++ wX1 g (r0 3) r1 q1_0 s1 ++ wX5 g q1_0 r2 s2 ++ wAJ g a3 1 s3) (exR (some (.int res.1)) (wX7 g a0 r0 res.2.1 ++ wX1 g (r0 3) r1 q1_0 s1 ++ wX5 g q1_0 r2 s2 ++ wAJ g a3 1 res.2.2)) := by
  refine ctw_of rfl hg (by show _ ≤ _; exact Nat.le_of_ble_eq_true rfl) (fun K C Xt X => ?_)
  show Zs K 0 0 (wX7 g a0 r0 s0 ++ wX1 g (r0 3) r1 q1_0 s1 ++ wX5 g q1_0 r2 s2 ++ wAJ g a3 1 s3) [(0, .ref a0), (1, .int p1), (2, .int p2), (3, .ref a3)] 0 []
  unfold f_L_writeHand at h
  refine z_aload_n (pc := 0) (x := a3) C dL_writeHand_0 (i := 3) rfl rfl ?_
  refine z_iconst (pc := 1) C dL_writeHand_1 ic_0 ?_
  refine z_aload_n (pc := 2) (x := a0) C dL_writeHand_2 (i := 0) rfl rfl ?_
  refine z_iload_n (pc := 3) (x := p1) C dL_writeHand_3 (i := 1) rfl rfl ?_
  refine z_iload_n (pc := 4) (x := p2) C dL_writeHand_4 (i := 2) rfl rfl ?_
  rcases th_e h with ⟨x1, hx1, h⟩ | ⟨e2, he2, h⟩
  · refine z_callV (pc := 5) (As := [.int p1, .int p2]) (rest := [.int (0 : Int32), .ref a3]) (wr := (wAJ g a3 1 s3)) C dL_writeHand_5 ml_RL_92 wv_X7_writeHand (m_X7_writeHand (a0 := a0) (r0 := r0) (r1 := r1) (q1_0 := q1_0) (r2 := r2) hg hx1) [0, 1, 2, 3, 4, 5, 6, 7, 8, 9, 10, 11, 12, 13, 14, 15, 16] [17] rfl rfl ⟨by decide, by decide⟩ (Nat.le_of_ble_eq_true rfl) ⟨by decide, by decide⟩ rfl rfl rfl rfl rfl rfl rfl (by decide) (ex_k C (cs' := 0) (ss' := 0) (wF := (wX7 g a0 r0 x1.2 ++ wX1 g (r0 3) r1 q1_0 s1 ++ wX5 g q1_0 r2 s2 ++ wAJ g a3 1 s3)) [1, 2, 3, 4, 5, 6, 7, 8, 9, 10, 11, 12, 13, 14, 15, 16, 17, 0] rfl rfl ?_)
    refine z_i2l (pc := 8) C dL_writeHand_8 ?_
    refine z_last (pc := 9) C 17 dL_writeHand_9 rfl (by decide) (ws' := (wX7 g a0 r0 x1.2 ++ wX1 g (r0 3) r1 q1_0 s1 ++ wX5 g q1_0 r2 s2 ++ wAJ g a3 1 (vp_updL s3 0 (x1.1).toInt64))) rfl ?_
    refine z_goto (pc := 10) C dL_writeHand_10 (tgt := 17) (by decide) ?_
    refine z_iconst (pc := 17) C dL_writeHand_17 ic_0 ?_
    exact z_iret C X dL_writeHand_18 (by rw [← Option.some.inj h]; exact ⟨rfl, rfl⟩) (by decide) (by decide)
  · refine (Decidable.em (e2 = 1)).elim (fun he => ?_) (fun hn => ?_)
    · subst he
      replace h := (ite_e h).1 rfl
      refine z_callVC (pc := 5) (E := "java/lang/IndexOutOfBoundsException") (As := [.int p1, .int p2]) (rest := [.int (0 : Int32), .ref a3]) (wr := (wAJ g a3 1 s3)) C Xt dL_writeHand_5 ml_RL_92 wv_X7_writeHand (mt_X7_writeHand (a0 := a0) (r0 := r0) (r1 := r1) (q1_0 := q1_0) (r2 := r2) hg he2) [0, 1, 2, 3, 4, 5, 6, 7, 8, 9, 10, 11, 12, 13, 14, 15, 16] [17] rfl rfl ⟨by decide, by decide⟩ (Nat.le_of_ble_eq_true rfl) ⟨by decide, by decide⟩ rfl rfl rfl rfl rfl rfl rfl (by decide) [] (0, 10, 13, 18) [] rfl (fun z h => nomatch h) (by decide) (by decide) cll_18 cst_1 (fun qx => ?_)
      refine z_sub (ws' := (wX7 g a0 r0 s0 ++ wX1 g (r0 3) r1 q1_0 s1 ++ wX5 g q1_0 r2 s2 ++ wAJ g a3 1 s3)) C [1, 2, 3, 4, 5, 6, 7, 8, 9, 10, 11, 12, 13, 14, 15, 16, 17, 0] rfl rfl ?_
      refine z_to (ws' := (wX7 g a0 r0 s0 ++ wX1 g (r0 3) r1 q1_0 s1 ++ wX5 g q1_0 r2 s2 ++ wAJ g a3 1 s3)) (lv' := [(0, .ref a0), (1, .int p1), (2, .int p2), (3, .ref a3)]) (pc' := 13) (st' := [.ref qx]) (z_widen (cs' := 1) (ss' := 6) (by decide) (by decide) ?_) rfl rfl rfl rfl
      refine z_astore (pc := 13) C dL_writeHand_13 (by decide) (lv' := [(4, .ref qx), (0, .ref a0), (1, .int p1), (2, .int p2), (3, .ref a3)]) rfl ?_
      refine z_iconst (pc := 15) C dL_writeHand_15 ic_1 ?_
      exact z_iret C X dL_writeHand_16 (by rw [← Option.some.inj h]; exact ⟨rfl, rfl⟩) (by decide) (by decide)
    replace h := (ite_e h).2 hn
    exact nomatch h
