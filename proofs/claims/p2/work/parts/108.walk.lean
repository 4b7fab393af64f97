/-! OWN, written by wip/whole/tools/mkall.py: what each method does to its cells, and the walk that shows it -/
def f_X7_tells (N : Nat) (s0 : Ob) (s1 : Ob) (s2 : Ob) (s3 : Ob) (p1 : Int32) (p2 : Int32) (p3 : Int32) : Option (Int32 × Ob) := (ob (f_X7_needPlayer N s0 s1 s2 p1) fun x1 => (ob (f_X7_needWord N s0 s1 s2 p2 p3) fun x2 => (ob (f_X2_unseenKinds N s3 s1 s2 p1) fun x3 => (ob (f_X7_kindsOfWord N p2 p3) fun x4 => (ob (f_X2_newlyPlayable N x3.2 s1 s2 p1 x3.1 x4) fun x5 => (some (x5, x3.2)))))))
theorem m_X7_tells {g : Gp} {a0 : Nat} {r0 : Nat → Nat} {r1 : Nat → Nat} {q1_0 : Nat} {r2 : Nat → Nat} {r3 : Nat → Nat} {N : Nat} {s0 : Ob} {s1 : Ob} {s2 : Ob} {s3 : Ob} {p1 : Int32} {p2 : Int32} {p3 : Int32} {res : Int32 × Ob} (hg : Ok g) (h : f_X7_tells N s0 s1 s2 s3 p1 p2 p3 = some res) : Ct g yX7_tells cX7_tells 4 (some .int) (zrm 3 73) [.ref a0, .int p1, .int p2, .int p3] (wX7 g a0 r0 s0 ++ wX1 g (r0 3) r1 q1_0 s1 ++ wX5 g q1_0 r2 s2 ++ wX2 g (r0 10) r3 s3) (exR (some (.int res.1)) (wX7 g a0 r0 s0 ++ wX1 g (r0 3) r1 q1_0 s1 ++ wX5 g q1_0 r2 s2 ++ wX2 g (r0 10) r3 res.2)) := by
  refine ct_of rfl hg (by show _ ≤ _; exact Nat.le_of_ble_eq_true rfl) (fun K C X => ?_)
  show Zs K 0 0 (wX7 g a0 r0 s0 ++ wX1 g (r0 3) r1 q1_0 s1 ++ wX5 g q1_0 r2 s2 ++ wX2 g (r0 10) r3 s3) [(0, .ref a0), (1, .int p1), (2, .int p2), (3, .int p3)] 0 []
  unfold f_X7_tells at h
  refine z_aload_n (pc := 0) (x := a0) C dX7_tells_0 (i := 0) rfl rfl ?_
  refine z_iload_n (pc := 1) (x := p1) C dX7_tells_1 (i := 1) rfl rfl ?_
  replace h := ob_e h
  obtain ⟨x1, hx1, h⟩ := h
  refine z_callV (pc := 2) (As := [.int p1]) (rest := []) (wr := (wX2 g (r0 10) r3 s3)) C dX7_tells_2 ml_RX7_164 wv_X7_needPlayer (m_X7_needPlayer (a0 := a0) (r0 := r0) (r1 := r1) (q1_0 := q1_0) (r2 := r2) hg hx1) [0, 1, 2, 3, 4, 5, 6, 7, 8, 9, 10, 11, 12, 13, 14, 15, 16] [17, 18] rfl rfl ⟨by decide, by decide⟩ (Nat.le_of_ble_eq_true rfl) ⟨by decide, by decide⟩ rfl rfl rfl rfl rfl rfl rfl (by decide) (ex_k C (cs' := 0) (ss' := 0) (wF := (wX7 g a0 r0 s0 ++ wX1 g (r0 3) r1 q1_0 s1 ++ wX5 g q1_0 r2 s2 ++ wX2 g (r0 10) r3 s3)) [2, 3, 4, 5, 6, 7, 8, 9, 10, 11, 12, 13, 14, 15, 16, 17, 18, 0, 1] rfl rfl ?_)
  refine z_aload_n (pc := 5) (x := a0) C dX7_tells_5 (i := 0) rfl rfl ?_
  refine z_iload_n (pc := 6) (x := p2) C dX7_tells_6 (i := 2) rfl rfl ?_
  refine z_iload_n (pc := 7) (x := p3) C dX7_tells_7 (i := 3) rfl rfl ?_
  replace h := ob_e h
  obtain ⟨x2, hx2, h⟩ := h
  refine z_callV (pc := 8) (As := [.int p2, .int p3]) (rest := []) (wr := (wX2 g (r0 10) r3 s3)) C dX7_tells_8 ml_RX7_235 wv_X7_needWord (m_X7_needWord (a0 := a0) (r0 := r0) (r1 := r1) (q1_0 := q1_0) (r2 := r2) hg hx2) [0, 1, 2, 3, 4, 5, 6, 7, 8, 9, 10, 11, 12, 13, 14, 15, 16] [17, 18] rfl rfl ⟨by decide, by decide⟩ (Nat.le_of_ble_eq_true rfl) ⟨by decide, by decide⟩ rfl rfl rfl rfl rfl rfl rfl (by decide) (ex_k C (cs' := 0) (ss' := 0) (wF := (wX7 g a0 r0 s0 ++ wX1 g (r0 3) r1 q1_0 s1 ++ wX5 g q1_0 r2 s2 ++ wX2 g (r0 10) r3 s3)) [2, 3, 4, 5, 6, 7, 8, 9, 10, 11, 12, 13, 14, 15, 16, 17, 18, 0, 1] rfl rfl ?_)
  refine z_aload_n (pc := 11) (x := a0) C dX7_tells_11 (i := 0) rfl rfl ?_
  refine z_get (pc := 12) (v := .ref (r0 10)) C 0 dX7_tells_12 fl_RX7_38 rfl rfl ?_
  refine z_aload_n (pc := 15) (x := a0) C dX7_tells_15 (i := 0) rfl rfl ?_
  refine z_get (pc := 16) (v := .ref (r0 3)) C 0 dX7_tells_16 fl_RX7_67 rfl rfl ?_
  refine z_iload_n (pc := 19) (x := p1) C dX7_tells_19 (i := 1) rfl rfl ?_
  refine z_aload_n (pc := 20) (x := a0) C dX7_tells_20 (i := 0) rfl rfl ?_
  refine z_get (pc := 21) (v := .ref (r0 10)) C 0 dX7_tells_21 fl_RX7_38 rfl rfl ?_
  refine z_aload_n (pc := 24) (x := a0) C dX7_tells_24 (i := 0) rfl rfl ?_
  refine z_get (pc := 25) (v := .ref (r0 3)) C 0 dX7_tells_25 fl_RX7_67 rfl rfl ?_
  refine z_iload_n (pc := 28) (x := p1) C dX7_tells_28 (i := 1) rfl rfl ?_
  replace h := ob_e h
  obtain ⟨x3, hx3, h⟩ := h
  refine z_callV (pc := 29) (As := [.ref (r0 3), .int p1]) (rest := [.int p1, .ref (r0 3), .ref (r0 10)]) (wr := (wX7 g a0 r0 s0)) C dX7_tells_29 ml_RX7_248 wv_X2_unseenKinds (m_X2_unseenKinds (a0 := (r0 10)) (a1 := (r0 3)) (r0 := r3) (r1 := r1) (q1_0 := q1_0) (r2 := r2) hg hx3) [17, 18, 4, 5, 6, 7, 8, 9, 10, 11, 12, 13, 14, 15, 16] [0, 1, 2, 3] rfl rfl ⟨by decide, by decide⟩ (Nat.le_of_ble_eq_true rfl) ⟨by decide, by decide⟩ rfl rfl rfl rfl rfl rfl rfl (by decide) (ex_k C (cs' := 0) (ss' := 0) (wF := (wX7 g a0 r0 s0 ++ wX1 g (r0 3) r1 q1_0 s1 ++ wX5 g q1_0 r2 s2 ++ wX2 g (r0 10) r3 x3.2)) [0, 1, 2, 3, 6, 7, 8, 9, 10, 11, 12, 13, 14, 15, 16, 17, 18, 4, 5] rfl rfl ?_)
  refine z_iload_n (pc := 32) (x := p2) C dX7_tells_32 (i := 2) rfl rfl ?_
  refine z_iload_n (pc := 33) (x := p3) C dX7_tells_33 (i := 3) rfl rfl ?_
  replace h := ob_e h
  obtain ⟨x4, hx4, h⟩ := h
  refine z_callS (pc := 34) (As := [.int p2, .int p3]) (rest := [.int x3.1, .int p1, .ref (r0 3), .ref (r0 10)]) (wr := (wX7 g a0 r0 s0 ++ wX1 g (r0 3) r1 q1_0 s1 ++ wX5 g q1_0 r2 s2 ++ wX2 g (r0 10) r3 x3.2)) C dX7_tells_34 ml_RX7_242 wt_X7_kindsOfWord (m_X7_kindsOfWord hg hx4) [] [0, 1, 2, 3, 4, 5, 6, 7, 8, 9, 10, 11, 12, 13, 14, 15, 16, 17, 18] rfl rfl ⟨by decide, by decide⟩ (Nat.le_of_ble_eq_true rfl) ⟨by decide, by decide⟩ rfl rfl rfl rfl (by decide) (ex_k C (cs' := 0) (ss' := 0) (wF := (wX7 g a0 r0 s0 ++ wX1 g (r0 3) r1 q1_0 s1 ++ wX5 g q1_0 r2 s2 ++ wX2 g (r0 10) r3 x3.2)) [0, 1, 2, 3, 4, 5, 6, 7, 8, 9, 10, 11, 12, 13, 14, 15, 16, 17, 18] rfl rfl ?_)
  replace h := ob_e h
  obtain ⟨x5, hx5, h⟩ := h
  refine z_callV (pc := 37) (As := [.ref (r0 3), .int p1, .int x3.1, .int x4]) (rest := []) (wr := (wX7 g a0 r0 s0)) C dX7_tells_37 ml_RX7_252 wv_X2_newlyPlayable (m_X2_newlyPlayable (a0 := (r0 10)) (a1 := (r0 3)) (r0 := r3) (r1 := r1) (q1_0 := q1_0) (r2 := r2) hg hx5) [17, 18, 4, 5, 6, 7, 8, 9, 10, 11, 12, 13, 14, 15, 16] [0, 1, 2, 3] rfl rfl ⟨by decide, by decide⟩ (Nat.le_of_ble_eq_true rfl) ⟨by decide, by decide⟩ rfl rfl rfl rfl rfl rfl rfl (by decide) (ex_k C (cs' := 0) (ss' := 0) (wF := (wX7 g a0 r0 s0 ++ wX1 g (r0 3) r1 q1_0 s1 ++ wX5 g q1_0 r2 s2 ++ wX2 g (r0 10) r3 x3.2)) [0, 1, 2, 3, 6, 7, 8, 9, 10, 11, 12, 13, 14, 15, 16, 17, 18, 4, 5] rfl rfl ?_)
  exact z_iret C X dX7_tells_40 (by rw [← Option.some.inj h]; exact ⟨rfl, rfl⟩) (by decide) (by decide)
def f_X7_advice_9 (N : Nat) (s0 : Ob) (s1 : Ob) (s2 : Ob) (p1 : Int32)  (s3 : Ob) (s4 : Ob) : Option (Int32 × Ob × Ob) := none
theorem m_X7_advice_9 {K : Kt} {g : Gp} {a0 : Nat} {r0 : Nat → Nat} {r1 : Nat → Nat} {q1_0 : Nat} {r2 : Nat → Nat} {r3 : Nat → Nat} {r4 : Nat → Nat} {N : Nat} {s0 : Ob} {s1 : Ob} {s2 : Ob} {p1 : Int32} {res : Int32 × Ob × Ob} (hg : Ok g) (C : Cx K g cX7_advice RX7 2 (zrm 6 146)) (X : Rx K (exR (some (.int res.1)) (wX7 g a0 r0 s0 ++ wX1 g (r0 3) r1 q1_0 s1 ++ wX5 g q1_0 r2 s2 ++ wX0 g (r0 11) r3 (r0 10) res.2.1 ++ wX2 g (r0 10) r4 res.2.2)) 0 0 (some .int)) (s3 : Ob) (s4 : Ob) (h : f_X7_advice_9 N s0 s1 s2 p1 s3 s4 = some res) : Zs K 0 0 (wX7 g a0 r0 s0 ++ wX1 g (r0 3) r1 q1_0 s1 ++ wX5 g q1_0 r2 s2 ++ wX0 g (r0 11) r3 (r0 10) s3 ++ wX2 g (r0 10) r4 s4) [] 9 [] := by
  unfold f_X7_advice_9 at h
  exact nomatch h
def f_X7_advice (N : Nat) (s0 : Ob) (s1 : Ob) (s2 : Ob) (s3 : Ob) (s4 : Ob) (p1 : Int32) : Option (Int32 × Ob × Ob) := (if p1 < 0 then (f_X7_advice_9 N s0 s1 s2 p1 s3 s4) else (if p1 ≤ (3 : Int32) then (ob (f_X1_isEnded N s1 s2) fun x1 => (if x1 = 0 then (ob (f_X0_advise N s3 s1 s2 s4) fun x2 => (if p1 = (0 : Int32) then (some ((x2.1.1 0), x2.1, x2.2)) else (if p1 = (1 : Int32) then (some ((x2.1.1 1), x2.1, x2.2)) else (if p1 = (2 : Int32) then (some ((x2.1.1 2), x2.1, x2.2)) else (some ((x2.1.1 3), x2.1, x2.2)))))) else (some ((-3 : Int32), s3, s4)))) else (f_X7_advice_9 N s0 s1 s2 p1 s3 s4)))
theorem m_X7_advice {g : Gp} {a0 : Nat} {r0 : Nat → Nat} {r1 : Nat → Nat} {q1_0 : Nat} {r2 : Nat → Nat} {r3 : Nat → Nat} {r4 : Nat → Nat} {N : Nat} {s0 : Ob} {s1 : Ob} {s2 : Ob} {s3 : Ob} {s4 : Ob} {p1 : Int32} {res : Int32 × Ob × Ob} (hg : Ok g) (h : f_X7_advice N s0 s1 s2 s3 s4 p1 = some res) : Ct g yX7_advice cX7_advice 2 (some .int) (zrm 6 146) [.ref a0, .int p1] (wX7 g a0 r0 s0 ++ wX1 g (r0 3) r1 q1_0 s1 ++ wX5 g q1_0 r2 s2 ++ wX0 g (r0 11) r3 (r0 10) s3 ++ wX2 g (r0 10) r4 s4) (exR (some (.int res.1)) (wX7 g a0 r0 s0 ++ wX1 g (r0 3) r1 q1_0 s1 ++ wX5 g q1_0 r2 s2 ++ wX0 g (r0 11) r3 (r0 10) res.2.1 ++ wX2 g (r0 10) r4 res.2.2)) := by
  refine ct_of rfl hg (by show _ ≤ _; exact Nat.le_of_ble_eq_true rfl) (fun K C X => ?_)
  show Zs K 0 0 (wX7 g a0 r0 s0 ++ wX1 g (r0 3) r1 q1_0 s1 ++ wX5 g q1_0 r2 s2 ++ wX0 g (r0 11) r3 (r0 10) s3 ++ wX2 g (r0 10) r4 s4) [(0, .ref a0), (1, .int p1)] 0 []
  unfold f_X7_advice at h
  refine z_iload_n (pc := 0) (x := p1) C dX7_advice_0 (i := 1) rfl rfl ?_
  refine z_if_lt (pc := 1) C dX7_advice_1 (tgt := 9) (by decide) (fun hc => ?_) (fun hc => ?_)
  · replace h := (ite_e h).1 hc
    refine z_lv (lv' := []) [] rfl ?_
    exact m_X7_advice_9 (a0 := a0) (r0 := r0) (r1 := r1) (q1_0 := q1_0) (r2 := r2) (r3 := r3) (r4 := r4) hg C X s3 s4 h
  · replace h := (ite_e h).2 hc
    refine z_iload_n (pc := 4) (x := p1) C dX7_advice_4 (i := 1) rfl rfl ?_
    refine z_iconst (pc := 5) C dX7_advice_5 ic_3 ?_
    refine z_icmp_le (pc := 6) C dX7_advice_6 (tgt := 20) (by decide) (fun hc => ?_) (fun hc => ?_)
    · replace h := (ite_e h).1 hc
      refine z_aload_n (pc := 20) (x := a0) C dX7_advice_20 (i := 0) rfl rfl ?_
      refine z_get (pc := 21) (v := .ref (r0 3)) C 0 dX7_advice_21 fl_RX7_67 rfl rfl ?_
      replace h := ob_e h
      obtain ⟨x1, hx1, h⟩ := h
      refine z_callV (pc := 24) (As := []) (rest := []) (wr := (wX7 g a0 r0 s0 ++ wX0 g (r0 11) r3 (r0 10) s3 ++ wX2 g (r0 10) r4 s4)) C dX7_advice_24 ml_RX7_145 wv_X1_isEnded (m_X1_isEnded (a0 := (r0 3)) (r0 := r1) (q0_0 := q1_0) (r1 := r2) hg hx1) [4, 5, 6, 7, 8, 9, 10, 11, 12, 13, 14, 15, 16] [0, 1, 2, 3, 17, 18, 19] rfl rfl ⟨by decide, by decide⟩ (Nat.le_of_ble_eq_true rfl) ⟨by decide, by decide⟩ rfl rfl rfl rfl rfl rfl rfl (by decide) (ex_k C (cs' := 0) (ss' := 0) (wF := (wX7 g a0 r0 s0 ++ wX1 g (r0 3) r1 q1_0 s1 ++ wX5 g q1_0 r2 s2 ++ wX0 g (r0 11) r3 (r0 10) s3 ++ wX2 g (r0 10) r4 s4)) [0, 1, 2, 3, 7, 8, 9, 10, 11, 12, 13, 14, 15, 16, 17, 18, 19, 4, 5, 6] rfl rfl ?_)
      refine z_if_eq (pc := 27) C dX7_advice_27 (tgt := 33) (by decide) (fun hc => ?_) (fun hc => ?_)
      · replace h := (ite_e h).1 hc
        refine z_aload_n (pc := 33) (x := a0) C dX7_advice_33 (i := 0) rfl rfl ?_
        refine z_get (pc := 34) (v := .ref (r0 11)) C 0 dX7_advice_34 fl_RX7_47 rfl rfl ?_
        refine z_aload_n (pc := 37) (x := a0) C dX7_advice_37 (i := 0) rfl rfl ?_
        refine z_get (pc := 38) (v := .ref (r0 3)) C 0 dX7_advice_38 fl_RX7_67 rfl rfl ?_
        replace h := ob_e h
        obtain ⟨x2, hx2, h⟩ := h
        refine z_callV (pc := 41) (As := [.ref (r0 3)]) (rest := []) (wr := (wX7 g a0 r0 s0)) C dX7_advice_41 ml_RX7_280 wv_X0_advise (m_X0_advise (a0 := (r0 11)) (a1 := (r0 3)) (r0 := r3) (q0_4 := (r0 10)) (r1 := r1) (q1_0 := q1_0) (r2 := r2) (r3 := r4) hg hx2) [17, 4, 5, 6, 7, 8, 9, 10, 11, 12, 13, 14, 15, 16, 18, 19] [0, 1, 2, 3] rfl rfl ⟨by decide, by decide⟩ (Nat.le_of_ble_eq_true rfl) ⟨by decide, by decide⟩ rfl rfl rfl rfl rfl rfl rfl (by decide) (ex_k C (cs' := 0) (ss' := 0) (wF := (wX7 g a0 r0 s0 ++ wX1 g (r0 3) r1 q1_0 s1 ++ wX5 g q1_0 r2 s2 ++ wX0 g (r0 11) r3 (r0 10) x2.1 ++ wX2 g (r0 10) r4 x2.2)) [0, 1, 2, 3, 5, 6, 7, 8, 9, 10, 11, 12, 13, 14, 15, 16, 17, 4, 18, 19] rfl rfl ?_)
        refine z_iload_n (pc := 44) (x := p1) C dX7_advice_44 (i := 1) rfl rfl ?_
        refine (Decidable.em (p1 = (0 : Int32))).elim (fun hc => ?_) (fun hn0 => ?_)
        · refine z_tswIn (pc := 45) C (0 : Int32) dX7_advice_45 hc (by decide) (by decide) (off := 27) rfl (tgt := 72) (by decide) ?_
          replace h := (ite_e h).1 hc
          refine z_aload_n (pc := 72) (x := a0) C dX7_advice_72 (i := 0) rfl rfl ?_
          refine z_get (pc := 73) (v := .ref (r0 11)) C 0 dX7_advice_73 fl_RX7_47 rfl rfl ?_
          refine z_get (pc := 76) (v := .int (x2.1.1 0)) C 17 dX7_advice_76 fl_RX7_284 rfl rfl ?_
          exact z_iret C X dX7_advice_79 (by rw [← Option.some.inj h]; exact ⟨rfl, rfl⟩) (by decide) (by decide)
        replace h := (ite_e h).2 hn0
        refine (Decidable.em (p1 = (1 : Int32))).elim (fun hc => ?_) (fun hn1 => ?_)
        · refine z_tswIn (pc := 45) C (1 : Int32) dX7_advice_45 hc (by decide) (by decide) (off := 35) rfl (tgt := 80) (by decide) ?_
          replace h := (ite_e h).1 hc
          refine z_aload_n (pc := 80) (x := a0) C dX7_advice_80 (i := 0) rfl rfl ?_
          refine z_get (pc := 81) (v := .ref (r0 11)) C 0 dX7_advice_81 fl_RX7_47 rfl rfl ?_
          refine z_get (pc := 84) (v := .int (x2.1.1 1)) C 17 dX7_advice_84 fl_RX7_287 rfl rfl ?_
          exact z_iret C X dX7_advice_87 (by rw [← Option.some.inj h]; exact ⟨rfl, rfl⟩) (by decide) (by decide)
        replace h := (ite_e h).2 hn1
        refine (Decidable.em (p1 = (2 : Int32))).elim (fun hc => ?_) (fun hn2 => ?_)
        · refine z_tswIn (pc := 45) C (2 : Int32) dX7_advice_45 hc (by decide) (by decide) (off := 43) rfl (tgt := 88) (by decide) ?_
          replace h := (ite_e h).1 hc
          refine z_aload_n (pc := 88) (x := a0) C dX7_advice_88 (i := 0) rfl rfl ?_
          refine z_get (pc := 89) (v := .ref (r0 11)) C 0 dX7_advice_89 fl_RX7_47 rfl rfl ?_
          refine z_get (pc := 92) (v := .int (x2.1.1 2)) C 17 dX7_advice_92 fl_RX7_290 rfl rfl ?_
          exact z_iret C X dX7_advice_95 (by rw [← Option.some.inj h]; exact ⟨rfl, rfl⟩) (by decide) (by decide)
        replace h := (ite_e h).2 hn2
        refine z_tswOut (pc := 45) C dX7_advice_45 (by have e0 := lv_neT hn0 (a := 0) (by decide); have e1 := lv_neT hn1 (a := 1) (by decide); have e2 := lv_neT hn2 (a := 2) (by decide); omega) (tgt := 96) (by decide) ?_
        refine z_aload_n (pc := 96) (x := a0) C dX7_advice_96 (i := 0) rfl rfl ?_
        refine z_get (pc := 97) (v := .ref (r0 11)) C 0 dX7_advice_97 fl_RX7_47 rfl rfl ?_
        refine z_get (pc := 100) (v := .int (x2.1.1 3)) C 17 dX7_advice_100 fl_RX7_293 rfl rfl ?_
        exact z_iret C X dX7_advice_103 (by rw [← Option.some.inj h]; exact ⟨rfl, rfl⟩) (by decide) (by decide)
      · replace h := (ite_e h).2 hc
        refine z_bipush (pc := 30) C dX7_advice_30 bp_m3 ?_
        exact z_iret C X dX7_advice_32 (by rw [← Option.some.inj h]; exact ⟨rfl, rfl⟩) (by decide) (by decide)
    · replace h := (ite_e h).2 hc
      refine z_lv (lv' := []) [] rfl ?_
      exact m_X7_advice_9 (a0 := a0) (r0 := r0) (r1 := r1) (q1_0 := q1_0) (r2 := r2) (r3 := r3) (r4 := r4) hg C X s3 s4 h
def f_X7_foreseen_58 (N : Nat) (s0 : Ob) (s2 : Ob) (s3 : Ob)  (s1 : Ob) (s4 : Ob) (s5 : Ob) : Option (Int32 × Ob × Ob × Ob) := (ob (f_X1_score N s1) fun x2 => (some (x2, s1, s4, s5)))
theorem m_X7_foreseen_58 {K : Kt} {g : Gp} {a0 : Nat} {r0 : Nat → Nat} {r1 : Nat → Nat} {q1_0 : Nat} {r2 : Nat → Nat} {q2_0 : Nat} {r3 : Nat → Nat} {r4 : Nat → Nat} {r5 : Nat → Nat} {N : Nat} {s0 : Ob} {s2 : Ob} {s3 : Ob} {res : Int32 × Ob × Ob × Ob} (hg : Ok g) (C : Cx K g cX7_foreseen RX7 2 (zrm 6 146)) (X : Rx K (exR (some (.int res.1)) (wX7 g a0 r0 s0 ++ wX1 g (r0 9) r1 q2_0 res.2.1 ++ wX1 g (r0 3) r2 q2_0 s2 ++ wX5 g q2_0 r3 s3 ++ wX0 g (r0 11) r4 (r0 10) res.2.2.1 ++ wX2 g (r0 10) r5 res.2.2.2)) 0 0 (some .int)) (s1 : Ob) (s4 : Ob) (s5 : Ob) (h : f_X7_foreseen_58 N s0 s2 s3 s1 s4 s5 = some res) : Zs K 0 0 (wX7 g a0 r0 s0 ++ wX1 g (r0 9) r1 q2_0 s1 ++ wX1 g (r0 3) r2 q2_0 s2 ++ wX5 g q2_0 r3 s3 ++ wX0 g (r0 11) r4 (r0 10) s4 ++ wX2 g (r0 10) r5 s5) [(0, .ref a0)] 58 [] := by
  unfold f_X7_foreseen_58 at h
  refine z_aload_n (pc := 58) (x := a0) C dX7_foreseen_58 (i := 0) rfl rfl ?_
  refine z_get (pc := 59) (v := .ref (r0 9)) C 0 dX7_foreseen_59 fl_RX7_71 rfl rfl ?_
  replace h := ob_e h
  obtain ⟨x2, hx2, h⟩ := h
  refine z_callV (pc := 62) (As := []) (rest := []) (wr := (wX7 g a0 r0 s0 ++ wX1 g (r0 3) r2 q2_0 s2 ++ wX5 g q2_0 r3 s3 ++ wX0 g (r0 11) r4 (r0 10) s4 ++ wX2 g (r0 10) r5 s5)) C dX7_foreseen_62 ml_RX7_128 wv_X1_score (m_X1_score (a0 := (r0 9)) (r0 := r1) (q0_0 := q2_0) hg hx2) [4, 5, 6, 7, 8, 9, 10, 11, 12] [0, 1, 2, 3, 13, 14, 15, 16, 17, 18, 19, 20, 21, 22, 23, 24, 25, 26, 27, 28] rfl rfl ⟨by decide, by decide⟩ (Nat.le_of_ble_eq_true rfl) ⟨by decide, by decide⟩ rfl rfl rfl rfl rfl rfl rfl (by decide) (ex_k C (cs' := 0) (ss' := 0) (wF := (wX7 g a0 r0 s0 ++ wX1 g (r0 9) r1 q2_0 s1 ++ wX1 g (r0 3) r2 q2_0 s2 ++ wX5 g q2_0 r3 s3 ++ wX0 g (r0 11) r4 (r0 10) s4 ++ wX2 g (r0 10) r5 s5)) [0, 1, 2, 3, 20, 21, 22, 23, 24, 25, 26, 27, 28, 4, 5, 6, 7, 8, 9, 10, 11, 12, 13, 14, 15, 16, 17, 18, 19] rfl rfl ?_)
  exact z_iret C X dX7_foreseen_65 (by rw [← Option.some.inj h]; exact ⟨rfl, rfl⟩) (by decide) (by decide)
def F_X7_foreseen_13 (N : Nat) (s0 : Ob) (s2 : Ob) (s3 : Ob)  (k13 : Int32 → Ob → Ob → Ob → Option (Int32 × Ob × Ob × Ob)) (v1 : Int32) (s1 : Ob) (s4 : Ob) (s5 : Ob) : Option (Int32 × Ob × Ob × Ob) := (if (300 : Int32) ≤ v1 then (f_X7_foreseen_58 N s0 s2 s3 s1 s4 s5) else (ob (f_X1_isEnded N s1 s3) fun x3 => (if x3 = 0 then (ob (f_X0_advise N s4 s1 s3 s5) fun x4 => (ob (f_X0_takeTurn N x4.1 s1 s3) fun x5 => (k13 (v1 + (1 : Int32)) x5 x4.1 x4.2))) else (f_X7_foreseen_58 N s0 s2 s3 s1 s4 s5))))
def f_X7_foreseen_13 (N : Nat) (s0 : Ob) (s2 : Ob) (s3 : Ob)  : Nat → Int32 → Ob → Ob → Ob → Option (Int32 × Ob × Ob × Ob) := zlp (fun _ _ _ _ => none) (F_X7_foreseen_13 N s0 s2 s3)
theorem m_X7_foreseen_13 {K : Kt} {g : Gp} {a0 : Nat} {r0 : Nat → Nat} {r1 : Nat → Nat} {q1_0 : Nat} {r2 : Nat → Nat} {q2_0 : Nat} {r3 : Nat → Nat} {r4 : Nat → Nat} {r5 : Nat → Nat} {N : Nat} {s0 : Ob} {s2 : Ob} {s3 : Ob} {res : Int32 × Ob × Ob × Ob} (hg : Ok g) (C : Cx K g cX7_foreseen RX7 2 (zrm 6 146)) (X : Rx K (exR (some (.int res.1)) (wX7 g a0 r0 s0 ++ wX1 g (r0 9) r1 q2_0 res.2.1 ++ wX1 g (r0 3) r2 q2_0 s2 ++ wX5 g q2_0 r3 s3 ++ wX0 g (r0 11) r4 (r0 10) res.2.2.1 ++ wX2 g (r0 10) r5 res.2.2.2)) 0 0 (some .int)) : ∀ (n : Nat) (v1 : Int32) (s1 : Ob) (s4 : Ob) (s5 : Ob), f_X7_foreseen_13 N s0 s2 s3 n v1 s1 s4 s5 = some res → Zs K 0 0 (wX7 g a0 r0 s0 ++ wX1 g (r0 9) r1 q2_0 s1 ++ wX1 g (r0 3) r2 q2_0 s2 ++ wX5 g q2_0 r3 s3 ++ wX0 g (r0 11) r4 (r0 10) s4 ++ wX2 g (r0 10) r5 s5) [(0, .ref a0), (1, .int v1)] 13 [] := by
  intro n
  induction n with
  | zero => intro v1 s1 s4 s5 h; exact nomatch (show (none : Option (Int32 × Ob × Ob × Ob)) = some res from h)
  | succ n hk13 =>
    intro v1 s1 s4 s5 h
    replace h : F_X7_foreseen_13 N s0 s2 s3 (f_X7_foreseen_13 N s0 s2 s3 n) v1 s1 s4 s5 = some res := h
    unfold F_X7_foreseen_13 at h
    refine z_iload_n (pc := 13) (x := v1) C dX7_foreseen_13 (i := 1) rfl rfl ?_
    refine z_sipush (pc := 14) C dX7_foreseen_14 sp_300 ?_
    refine z_icmp_ge (pc := 17) C dX7_foreseen_17 (tgt := 58) (by decide) (fun hc => ?_) (fun hc => ?_)
    · replace h := (ite_e h).1 hc
      refine z_lv (lv' := [(0, .ref a0)]) [0] rfl ?_
      exact m_X7_foreseen_58 (a0 := a0) (r0 := r0) (r1 := r1) (q1_0 := q1_0) (r2 := r2) (q2_0 := q2_0) (r3 := r3) (r4 := r4) (r5 := r5) hg C X s1 s4 s5 h
    · replace h := (ite_e h).2 hc
      refine z_aload_n (pc := 20) (x := a0) C dX7_foreseen_20 (i := 0) rfl rfl ?_
      refine z_get (pc := 21) (v := .ref (r0 9)) C 0 dX7_foreseen_21 fl_RX7_71 rfl rfl ?_
      replace h := ob_e h
      obtain ⟨x3, hx3, h⟩ := h
      refine z_callV (pc := 24) (As := []) (rest := []) (wr := (wX7 g a0 r0 s0 ++ wX1 g (r0 3) r2 q2_0 s2 ++ wX0 g (r0 11) r4 (r0 10) s4 ++ wX2 g (r0 10) r5 s5)) C dX7_foreseen_24 ml_RX7_145 wv_X1_isEnded (m_X1_isEnded (a0 := (r0 9)) (r0 := r1) (q0_0 := q2_0) (r1 := r3) hg hx3) [4, 5, 6, 7, 8, 9, 10, 11, 12, 22, 23, 24, 25] [0, 1, 2, 3, 13, 14, 15, 16, 17, 18, 19, 20, 21, 26, 27, 28] rfl rfl ⟨by decide, by decide⟩ (Nat.le_of_ble_eq_true rfl) ⟨by decide, by decide⟩ rfl rfl rfl rfl rfl rfl rfl (by decide) (ex_k C (cs' := 0) (ss' := 0) (wF := (wX7 g a0 r0 s0 ++ wX1 g (r0 9) r1 q2_0 s1 ++ wX1 g (r0 3) r2 q2_0 s2 ++ wX5 g q2_0 r3 s3 ++ wX0 g (r0 11) r4 (r0 10) s4 ++ wX2 g (r0 10) r5 s5)) [0, 1, 2, 3, 16, 17, 18, 19, 20, 21, 22, 23, 24, 4, 5, 6, 7, 8, 9, 10, 11, 12, 25, 26, 27, 28, 13, 14, 15] rfl rfl ?_)
      refine z_if_ne (pc := 27) C dX7_foreseen_27 (tgt := 58) (by decide) (fun hc => ?_) (fun hc => ?_)
      · replace h := (ite_e h).2 hc
        refine z_lv (lv' := [(0, .ref a0)]) [0] rfl ?_
        exact m_X7_foreseen_58 (a0 := a0) (r0 := r0) (r1 := r1) (q1_0 := q1_0) (r2 := r2) (q2_0 := q2_0) (r3 := r3) (r4 := r4) (r5 := r5) hg C X s1 s4 s5 h
      · replace h := (ite_e h).1 hc
        refine z_aload_n (pc := 30) (x := a0) C dX7_foreseen_30 (i := 0) rfl rfl ?_
        refine z_get (pc := 31) (v := .ref (r0 11)) C 0 dX7_foreseen_31 fl_RX7_47 rfl rfl ?_
        refine z_aload_n (pc := 34) (x := a0) C dX7_foreseen_34 (i := 0) rfl rfl ?_
        refine z_get (pc := 35) (v := .ref (r0 9)) C 0 dX7_foreseen_35 fl_RX7_71 rfl rfl ?_
        replace h := ob_e h
        obtain ⟨x4, hx4, h⟩ := h
        refine z_callV (pc := 38) (As := [.ref (r0 9)]) (rest := []) (wr := (wX7 g a0 r0 s0 ++ wX1 g (r0 3) r2 q2_0 s2)) C dX7_foreseen_38 ml_RX7_280 wv_X0_advise (m_X0_advise (a0 := (r0 11)) (a1 := (r0 9)) (r0 := r4) (q0_4 := (r0 10)) (r1 := r1) (q1_0 := q2_0) (r2 := r3) (r3 := r5) hg hx4) [26, 4, 5, 6, 7, 8, 9, 10, 11, 12, 22, 23, 24, 25, 27, 28] [0, 1, 2, 3, 13, 14, 15, 16, 17, 18, 19, 20, 21] rfl rfl ⟨by decide, by decide⟩ (Nat.le_of_ble_eq_true rfl) ⟨by decide, by decide⟩ rfl rfl rfl rfl rfl rfl rfl (by decide) (ex_k C (cs' := 0) (ss' := 0) (wF := (wX7 g a0 r0 s0 ++ wX1 g (r0 9) r1 q2_0 s1 ++ wX1 g (r0 3) r2 q2_0 s2 ++ wX5 g q2_0 r3 s3 ++ wX0 g (r0 11) r4 (r0 10) x4.1 ++ wX2 g (r0 10) r5 x4.2)) [0, 1, 2, 3, 14, 15, 16, 17, 18, 19, 20, 21, 22, 4, 5, 6, 7, 8, 9, 10, 11, 12, 23, 24, 25, 26, 13, 27, 28] rfl rfl ?_)
        refine z_aload_n (pc := 41) (x := a0) C dX7_foreseen_41 (i := 0) rfl rfl ?_
        refine z_get (pc := 42) (v := .ref (r0 11)) C 0 dX7_foreseen_42 fl_RX7_47 rfl rfl ?_
        refine z_aload_n (pc := 45) (x := a0) C dX7_foreseen_45 (i := 0) rfl rfl ?_
        refine z_get (pc := 46) (v := .ref (r0 9)) C 0 dX7_foreseen_46 fl_RX7_71 rfl rfl ?_
        replace h := ob_e h
        obtain ⟨x5, hx5, h⟩ := h
        refine z_callV (pc := 49) (As := [.ref (r0 9)]) (rest := []) (wr := (wX7 g a0 r0 s0 ++ wX1 g (r0 3) r2 q2_0 s2 ++ wX2 g (r0 10) r5 x4.2)) C dX7_foreseen_49 ml_RX7_298 wv_X0_takeTurn (m_X0_takeTurn (a0 := (r0 11)) (a1 := (r0 9)) (r0 := r4) (q0_4 := (r0 10)) (r1 := r1) (q1_0 := q2_0) (r2 := r3) hg hx5) [26, 4, 5, 6, 7, 8, 9, 10, 11, 12, 22, 23, 24, 25] [0, 1, 2, 3, 13, 14, 15, 16, 17, 18, 19, 20, 21, 27, 28] rfl rfl ⟨by decide, by decide⟩ (Nat.le_of_ble_eq_true rfl) ⟨by decide, by decide⟩ rfl rfl rfl rfl rfl rfl rfl (by decide) (ex_k C (cs' := 0) (ss' := 0) (wF := (wX7 g a0 r0 s0 ++ wX1 g (r0 9) r1 q2_0 x5 ++ wX1 g (r0 3) r2 q2_0 s2 ++ wX5 g q2_0 r3 s3 ++ wX0 g (r0 11) r4 (r0 10) x4.1 ++ wX2 g (r0 10) r5 x4.2)) [0, 1, 2, 3, 16, 17, 18, 19, 20, 21, 22, 23, 24, 4, 5, 6, 7, 8, 9, 10, 11, 12, 25, 26, 27, 28, 15, 13, 14] rfl rfl ?_)
        refine z_iinc (pc := 52) C dX7_foreseen_52 rfl (inc_e 1 (1 : Int32) ic_1 v1) (by decide) (lv' := [(1, .int (v1 + (1 : Int32))), (0, .ref a0)]) rfl ?_
        refine z_goto (pc := 55) C dX7_foreseen_55 (tgt := 13) (by decide) ?_
        refine z_lv (lv' := [(0, .ref a0), (1, .int (v1 + (1 : Int32)))]) [1, 0] rfl ?_
        exact hk13 (v1 + (1 : Int32)) x5 x4.1 x4.2 h
def f_X7_foreseen (N : Nat) (s0 : Ob) (s1 : Ob) (s2 : Ob) (s3 : Ob) (s4 : Ob) (s5 : Ob) : Option (Int32 × Ob × Ob × Ob) := (ob (f_X1_copyFrom N s1 s2) fun x1 => (f_X7_foreseen_13 N s0 s2 s3 N (0 : Int32) x1 s4 s5))
theorem m_X7_foreseen {g : Gp} {a0 : Nat} {r0 : Nat → Nat} {r1 : Nat → Nat} {q1_0 : Nat} {r2 : Nat → Nat} {q2_0 : Nat} {r3 : Nat → Nat} {r4 : Nat → Nat} {r5 : Nat → Nat} {N : Nat} {s0 : Ob} {s1 : Ob} {s2 : Ob} {s3 : Ob} {s4 : Ob} {s5 : Ob} {res : Int32 × Ob × Ob × Ob} (hg : Ok g) (h : f_X7_foreseen N s0 s1 s2 s3 s4 s5 = some res) : Ct g yX7_foreseen cX7_foreseen 2 (some .int) (zrm 6 146) [.ref a0] (wX7 g a0 r0 s0 ++ wX1 g (r0 9) r1 q1_0 s1 ++ wX1 g (r0 3) r2 q2_0 s2 ++ wX5 g q2_0 r3 s3 ++ wX0 g (r0 11) r4 (r0 10) s4 ++ wX2 g (r0 10) r5 s5) (exR (some (.int res.1)) (wX7 g a0 r0 s0 ++ wX1 g (r0 9) r1 q2_0 res.2.1 ++ wX1 g (r0 3) r2 q2_0 s2 ++ wX5 g q2_0 r3 s3 ++ wX0 g (r0 11) r4 (r0 10) res.2.2.1 ++ wX2 g (r0 10) r5 res.2.2.2)) := by
  refine ct_of rfl hg (by show _ ≤ _; exact Nat.le_of_ble_eq_true rfl) (fun K C X => ?_)
  show Zs K 0 0 (wX7 g a0 r0 s0 ++ wX1 g (r0 9) r1 q1_0 s1 ++ wX1 g (r0 3) r2 q2_0 s2 ++ wX5 g q2_0 r3 s3 ++ wX0 g (r0 11) r4 (r0 10) s4 ++ wX2 g (r0 10) r5 s5) [(0, .ref a0)] 0 []
  unfold f_X7_foreseen at h
  refine z_aload_n (pc := 0) (x := a0) C dX7_foreseen_0 (i := 0) rfl rfl ?_
  refine z_get (pc := 1) (v := .ref (r0 9)) C 0 dX7_foreseen_1 fl_RX7_71 rfl rfl ?_
  refine z_aload_n (pc := 4) (x := a0) C dX7_foreseen_4 (i := 0) rfl rfl ?_
  refine z_get (pc := 5) (v := .ref (r0 3)) C 0 dX7_foreseen_5 fl_RX7_67 rfl rfl ?_
  replace h := ob_e h
  obtain ⟨x1, hx1, h⟩ := h
  refine z_callV (pc := 8) (As := [.ref (r0 3)]) (rest := []) (wr := (wX7 g a0 r0 s0 ++ wX5 g q2_0 r3 s3 ++ wX0 g (r0 11) r4 (r0 10) s4 ++ wX2 g (r0 10) r5 s5)) C dX7_foreseen_8 ml_RX7_301 wv_X1_copyFrom (m_X1_copyFrom (a0 := (r0 9)) (a1 := (r0 3)) (r0 := r1) (q0_0 := q1_0) (r1 := r2) (q1_0 := q2_0) hg hx1) [4, 5, 6, 7, 8, 9, 10, 11, 12, 13, 14, 15, 16, 17, 18, 19, 20, 21] [0, 1, 2, 3, 22, 23, 24, 25, 26, 27, 28] rfl rfl ⟨by decide, by decide⟩ (Nat.le_of_ble_eq_true rfl) ⟨by decide, by decide⟩ rfl rfl rfl rfl rfl rfl rfl (by decide) (ex_k C (cs' := 0) (ss' := 0) (wF := (wX7 g a0 r0 s0 ++ wX1 g (r0 9) r1 q2_0 x1 ++ wX1 g (r0 3) r2 q2_0 s2 ++ wX5 g q2_0 r3 s3 ++ wX0 g (r0 11) r4 (r0 10) s4 ++ wX2 g (r0 10) r5 s5)) [0, 1, 2, 3, 11, 12, 13, 14, 15, 16, 17, 18, 19, 20, 21, 22, 23, 24, 25, 26, 27, 28, 4, 5, 6, 7, 8, 9, 10] rfl rfl ?_)
  refine z_iconst (pc := 11) C dX7_foreseen_11 ic_0 ?_
  refine z_istore_n (pc := 12) C dX7_foreseen_12 (i := 1) rfl (by decide) (lv' := [(1, .int (0 : Int32)), (0, .ref a0)]) rfl ?_
  refine z_lv (lv' := [(0, .ref a0), (1, .int (0 : Int32))]) [1, 0] rfl ?_
  exact m_X7_foreseen_13 (a0 := a0) (r0 := r0) (r1 := r1) (q1_0 := q1_0) (r2 := r2) (q2_0 := q2_0) (r3 := r3) (r4 := r4) (r5 := r5) hg C X N (0 : Int32) x1 s4 s5 h
def f_X7_bound (N : Nat) (s0 : Ob) (s1 : Ob) (s2 : Ob) : Option (Int32) := (ob (f_X1_reachableScore N s1 s2) fun x1 => (some x1))
theorem m_X7_bound {g : Gp} {a0 : Nat} {r0 : Nat → Nat} {r1 : Nat → Nat} {q1_0 : Nat} {r2 : Nat → Nat} {N : Nat} {s0 : Ob} {s1 : Ob} {s2 : Ob} {res : Int32} (hg : Ok g) (h : f_X7_bound N s0 s1 s2 = some res) : Ct g yX7_bound cX7_bound 1 (some .int) (zrm 2 46) [.ref a0] (wX7 g a0 r0 s0 ++ wX1 g (r0 3) r1 q1_0 s1 ++ wX5 g q1_0 r2 s2) (exR (some (.int res)) (wX7 g a0 r0 s0 ++ wX1 g (r0 3) r1 q1_0 s1 ++ wX5 g q1_0 r2 s2)) := by
  refine ct_of rfl hg (by show _ ≤ _; exact Nat.le_of_ble_eq_true rfl) (fun K C X => ?_)
  show Zs K 0 0 (wX7 g a0 r0 s0 ++ wX1 g (r0 3) r1 q1_0 s1 ++ wX5 g q1_0 r2 s2) [(0, .ref a0)] 0 []
  unfold f_X7_bound at h
  refine z_aload_n (pc := 0) (x := a0) C dX7_bound_0 (i := 0) rfl rfl ?_
  refine z_get (pc := 1) (v := .ref (r0 3)) C 0 dX7_bound_1 fl_RX7_67 rfl rfl ?_
  replace h := ob_e h
  obtain ⟨x1, hx1, h⟩ := h
  refine z_callV (pc := 4) (As := []) (rest := []) (wr := (wX7 g a0 r0 s0)) C dX7_bound_4 ml_RX7_304 wv_X1_reachableScore (m_X1_reachableScore (a0 := (r0 3)) (r0 := r1) (q0_0 := q1_0) (r1 := r2) hg hx1) [4, 5, 6, 7, 8, 9, 10, 11, 12, 13, 14, 15, 16] [0, 1, 2, 3] rfl rfl ⟨by decide, by decide⟩ (Nat.le_of_ble_eq_true rfl) ⟨by decide, by decide⟩ rfl rfl rfl rfl rfl rfl rfl (by decide) (ex_k C (cs' := 0) (ss' := 0) (wF := (wX7 g a0 r0 s0 ++ wX1 g (r0 3) r1 q1_0 s1 ++ wX5 g q1_0 r2 s2)) [0, 1, 2, 3, 4, 5, 6, 7, 8, 9, 10, 11, 12, 13, 14, 15, 16] rfl rfl ?_)
  exact z_iret C X dX7_bound_7 (by rw [← Option.some.inj h]; exact ⟨rfl, rfl⟩) (by decide) (by decide)
def f_X7_pace (N : Nat) (s0 : Ob) (s1 : Ob) (s2 : Ob) : Option (Int32) := (ob (f_X1_score N s1) fun x1 => (ob (f_X1_reachableScore N s1 s2) fun x2 => (some ((((x1 + (s2.1 7)) - (s1.1 1)) + (s2.1 2)) - x2))))
theorem m_X7_pace {g : Gp} {a0 : Nat} {r0 : Nat → Nat} {r1 : Nat → Nat} {q1_0 : Nat} {r2 : Nat → Nat} {N : Nat} {s0 : Ob} {s1 : Ob} {s2 : Ob} {res : Int32} (hg : Ok g) (h : f_X7_pace N s0 s1 s2 = some res) : Ct g yX7_pace cX7_pace 1 (some .int) (zrm 2 46) [.ref a0] (wX7 g a0 r0 s0 ++ wX1 g (r0 3) r1 q1_0 s1 ++ wX5 g q1_0 r2 s2) (exR (some (.int res)) (wX7 g a0 r0 s0 ++ wX1 g (r0 3) r1 q1_0 s1 ++ wX5 g q1_0 r2 s2)) := by
  refine ct_of rfl hg (by show _ ≤ _; exact Nat.le_of_ble_eq_true rfl) (fun K C X => ?_)
  show Zs K 0 0 (wX7 g a0 r0 s0 ++ wX1 g (r0 3) r1 q1_0 s1 ++ wX5 g q1_0 r2 s2) [(0, .ref a0)] 0 []
  unfold f_X7_pace at h
  refine z_aload_n (pc := 0) (x := a0) C dX7_pace_0 (i := 0) rfl rfl ?_
  refine z_get (pc := 1) (v := .ref (r0 3)) C 0 dX7_pace_1 fl_RX7_67 rfl rfl ?_
  replace h := ob_e h
  obtain ⟨x1, hx1, h⟩ := h
  refine z_callV (pc := 4) (As := []) (rest := []) (wr := (wX7 g a0 r0 s0 ++ wX5 g q1_0 r2 s2)) C dX7_pace_4 ml_RX7_128 wv_X1_score (m_X1_score (a0 := (r0 3)) (r0 := r1) (q0_0 := q1_0) hg hx1) [4, 5, 6, 7, 8, 9, 10, 11, 12] [0, 1, 2, 3, 13, 14, 15, 16] rfl rfl ⟨by decide, by decide⟩ (Nat.le_of_ble_eq_true rfl) ⟨by decide, by decide⟩ rfl rfl rfl rfl rfl rfl rfl (by decide) (ex_k C (cs' := 0) (ss' := 0) (wF := (wX7 g a0 r0 s0 ++ wX1 g (r0 3) r1 q1_0 s1 ++ wX5 g q1_0 r2 s2)) [0, 1, 2, 3, 8, 9, 10, 11, 12, 13, 14, 15, 16, 4, 5, 6, 7] rfl rfl ?_)
  refine z_aload_n (pc := 7) (x := a0) C dX7_pace_7 (i := 0) rfl rfl ?_
  refine z_get (pc := 8) (v := .ref (r0 3)) C 0 dX7_pace_8 fl_RX7_67 rfl rfl ?_
  refine z_get (pc := 11) (v := .ref q1_0) C 4 dX7_pace_11 fl_RX7_100 rfl rfl ?_
  refine z_get (pc := 14) (v := .int (s2.1 7)) C 13 dX7_pace_14 fl_RX7_101 rfl rfl ?_
  refine z_iadd (pc := 17) C dX7_pace_17 ?_
  refine z_aload_n (pc := 18) (x := a0) C dX7_pace_18 (i := 0) rfl rfl ?_
  refine z_get (pc := 19) (v := .ref (r0 3)) C 0 dX7_pace_19 fl_RX7_67 rfl rfl ?_
  refine z_get (pc := 22) (v := .int (s1.1 1)) C 4 dX7_pace_22 fl_RX7_119 rfl rfl ?_
  refine z_isub (pc := 25) C dX7_pace_25 ?_
  refine z_aload_n (pc := 26) (x := a0) C dX7_pace_26 (i := 0) rfl rfl ?_
  refine z_get (pc := 27) (v := .ref (r0 3)) C 0 dX7_pace_27 fl_RX7_67 rfl rfl ?_
  refine z_get (pc := 30) (v := .ref q1_0) C 4 dX7_pace_30 fl_RX7_100 rfl rfl ?_
  refine z_get (pc := 33) (v := .int (s2.1 2)) C 13 dX7_pace_33 fl_RX7_113 rfl rfl ?_
  refine z_iadd (pc := 36) C dX7_pace_36 ?_
  refine z_aload_n (pc := 37) (x := a0) C dX7_pace_37 (i := 0) rfl rfl ?_
  refine z_get (pc := 38) (v := .ref (r0 3)) C 0 dX7_pace_38 fl_RX7_67 rfl rfl ?_
  replace h := ob_e h
  obtain ⟨x2, hx2, h⟩ := h
  refine z_callV (pc := 41) (As := []) (rest := [.int (((x1 + (s2.1 7)) - (s1.1 1)) + (s2.1 2))]) (wr := (wX7 g a0 r0 s0)) C dX7_pace_41 ml_RX7_304 wv_X1_reachableScore (m_X1_reachableScore (a0 := (r0 3)) (r0 := r1) (q0_0 := q1_0) (r1 := r2) hg hx2) [4, 5, 6, 7, 8, 9, 10, 11, 12, 13, 14, 15, 16] [0, 1, 2, 3] rfl rfl ⟨by decide, by decide⟩ (Nat.le_of_ble_eq_true rfl) ⟨by decide, by decide⟩ rfl rfl rfl rfl rfl rfl rfl (by decide) (ex_k C (cs' := 0) (ss' := 0) (wF := (wX7 g a0 r0 s0 ++ wX1 g (r0 3) r1 q1_0 s1 ++ wX5 g q1_0 r2 s2)) [0, 1, 2, 3, 4, 5, 6, 7, 8, 9, 10, 11, 12, 13, 14, 15, 16] rfl rfl ?_)
  refine z_isub (pc := 44) C dX7_pace_44 ?_
  exact z_iret C X dX7_pace_45 (by rw [← Option.some.inj h]; exact ⟨rfl, rfl⟩) (by decide) (by decide)
def f_X7_value (N : Nat) (s0 : Ob) (s1 : Ob) (s2 : Ob) (s3 : Ob) (s4 : Ob) (s5 : Ob) : Option (Int32 × Ob × Ob × Ob) := (ob (f_X6_survey N s1 s2 s3 s4 s5) fun x1 => (if (x1.1.1 0) = 0 then (some ((x1.1.1 1), x1.1, x1.2.1, x1.2.2)) else (some ((-8 : Int32), x1.1, x1.2.1, x1.2.2))))
theorem m_X7_value {g : Gp} {a0 : Nat} {r0 : Nat → Nat} {r1 : Nat → Nat} {r2 : Nat → Nat} {q2_0 : Nat} {r3 : Nat → Nat} {q3_0 : Nat} {r4 : Nat → Nat} {q4_0 : Nat} {r5 : Nat → Nat} {N : Nat} {s0 : Ob} {s1 : Ob} {s2 : Ob} {s3 : Ob} {s4 : Ob} {s5 : Ob} {res : Int32 × Ob × Ob × Ob} (hg : Ok g) (h : f_X7_value N s0 s1 s2 s3 s4 s5 = some res) : Ct g yX7_value cX7_value 1 (some .int) (zrm 6 133) [.ref a0] (wX7 g a0 r0 s0 ++ wX6 g (r0 12) r1 s1 ++ wX1 g (r0 3) r2 q2_0 s2 ++ wX3 g (r1 8) r3 q3_0 s3 ++ wX3 g (r1 9) r4 q4_0 s4 ++ wX5 g q2_0 r5 s5) (exR (some (.int res.1)) (wX7 g a0 r0 s0 ++ wX6 g (r0 12) r1 res.2.1 ++ wX1 g (r0 3) r2 q2_0 s2 ++ wX3 g (r1 8) r3 q2_0 res.2.2.1 ++ wX3 g (r1 9) r4 q2_0 res.2.2.2 ++ wX5 g q2_0 r5 s5)) := by
  refine ct_of rfl hg (by show _ ≤ _; exact Nat.le_of_ble_eq_true rfl) (fun K C X => ?_)
  show Zs K 0 0 (wX7 g a0 r0 s0 ++ wX6 g (r0 12) r1 s1 ++ wX1 g (r0 3) r2 q2_0 s2 ++ wX3 g (r1 8) r3 q3_0 s3 ++ wX3 g (r1 9) r4 q4_0 s4 ++ wX5 g q2_0 r5 s5) [(0, .ref a0)] 0 []
  unfold f_X7_value at h
  refine z_aload_n (pc := 0) (x := a0) C dX7_value_0 (i := 0) rfl rfl ?_
  refine z_get (pc := 1) (v := .ref (r0 12)) C 0 dX7_value_1 fl_RX7_54 rfl rfl ?_
  refine z_aload_n (pc := 4) (x := a0) C dX7_value_4 (i := 0) rfl rfl ?_
  refine z_get (pc := 5) (v := .ref (r0 3)) C 0 dX7_value_5 fl_RX7_67 rfl rfl ?_
  replace h := ob_e h
  obtain ⟨x1, hx1, h⟩ := h
  refine z_callV (pc := 8) (As := [.ref (r0 3)]) (rest := []) (wr := (wX7 g a0 r0 s0)) C dX7_value_8 ml_RX7_307 wv_X6_survey (m_X6_survey (a0 := (r0 12)) (a1 := (r0 3)) (r0 := r1) (r1 := r2) (q1_0 := q2_0) (r2 := r3) (q2_0 := q3_0) (r3 := r4) (q3_0 := q4_0) (r4 := r5) hg hx1) [4, 5, 6, 7, 8, 9, 10, 11, 12, 13, 14, 15, 16, 17, 18, 19, 20, 21, 22, 23, 24, 25, 26] [0, 1, 2, 3] rfl rfl ⟨by decide, by decide⟩ (Nat.le_of_ble_eq_true rfl) ⟨by decide, by decide⟩ rfl rfl rfl rfl rfl rfl rfl (by decide) (ex_k C (cs' := 0) (ss' := 0) (wF := (wX7 g a0 r0 s0 ++ wX6 g (r0 12) r1 x1.1 ++ wX1 g (r0 3) r2 q2_0 s2 ++ wX3 g (r1 8) r3 q2_0 x1.2.1 ++ wX3 g (r1 9) r4 q2_0 x1.2.2 ++ wX5 g q2_0 r5 s5)) [0, 1, 2, 3, 4, 5, 6, 7, 8, 9, 10, 11, 12, 13, 14, 15, 16, 17, 18, 19, 20, 21, 22, 23, 24, 25, 26] rfl rfl ?_)
  refine z_aload_n (pc := 11) (x := a0) C dX7_value_11 (i := 0) rfl rfl ?_
  refine z_get (pc := 12) (v := .ref (r0 12)) C 0 dX7_value_12 fl_RX7_54 rfl rfl ?_
  refine z_get (pc := 15) (v := .int (x1.1.1 0)) C 4 dX7_value_15 fl_RX7_310 rfl rfl ?_
  refine z_if_eq (pc := 18) C dX7_value_18 (tgt := 26) (by decide) (fun hc => ?_) (fun hc => ?_)
  · replace h := (ite_e h).1 hc
    refine z_aload_n (pc := 26) (x := a0) C dX7_value_26 (i := 0) rfl rfl ?_
    refine z_get (pc := 27) (v := .ref (r0 12)) C 0 dX7_value_27 fl_RX7_54 rfl rfl ?_
    refine z_get (pc := 30) (v := .int (x1.1.1 1)) C 4 dX7_value_30 fl_RX7_314 rfl rfl ?_
    exact z_iret C X dX7_value_33 (by rw [← Option.some.inj h]; exact ⟨rfl, rfl⟩) (by decide) (by decide)
  · replace h := (ite_e h).2 hc
    refine z_bipush (pc := 21) C dX7_value_21 bp_m8 ?_
    refine z_goto (pc := 23) C dX7_value_23 (tgt := 33) (by decide) ?_
    exact z_iret C X dX7_value_33 (by rw [← Option.some.inj h]; exact ⟨rfl, rfl⟩) (by decide) (by decide)
def f_X7_positions (N : Nat) (s0 : Ob) (s1 : Ob) (s2 : Ob) (s3 : Ob) (s4 : Ob) (s5 : Ob) : Option (Int32 × Ob × Ob × Ob) := (ob (f_X6_survey N s1 s2 s3 s4 s5) fun x1 => (if (x1.1.1 0) = 0 then (some ((x1.1.1 2), x1.1, x1.2.1, x1.2.2)) else (some ((-8 : Int32), x1.1, x1.2.1, x1.2.2))))
theorem m_X7_positions {g : Gp} {a0 : Nat} {r0 : Nat → Nat} {r1 : Nat → Nat} {r2 : Nat → Nat} {q2_0 : Nat} {r3 : Nat → Nat} {q3_0 : Nat} {r4 : Nat → Nat} {q4_0 : Nat} {r5 : Nat → Nat} {N : Nat} {s0 : Ob} {s1 : Ob} {s2 : Ob} {s3 : Ob} {s4 : Ob} {s5 : Ob} {res : Int32 × Ob × Ob × Ob} (hg : Ok g) (h : f_X7_positions N s0 s1 s2 s3 s4 s5 = some res) : Ct g yX7_positions cX7_positions 1 (some .int) (zrm 6 133) [.ref a0] (wX7 g a0 r0 s0 ++ wX6 g (r0 12) r1 s1 ++ wX1 g (r0 3) r2 q2_0 s2 ++ wX3 g (r1 8) r3 q3_0 s3 ++ wX3 g (r1 9) r4 q4_0 s4 ++ wX5 g q2_0 r5 s5) (exR (some (.int res.1)) (wX7 g a0 r0 s0 ++ wX6 g (r0 12) r1 res.2.1 ++ wX1 g (r0 3) r2 q2_0 s2 ++ wX3 g (r1 8) r3 q2_0 res.2.2.1 ++ wX3 g (r1 9) r4 q2_0 res.2.2.2 ++ wX5 g q2_0 r5 s5)) := by
  refine ct_of rfl hg (by show _ ≤ _; exact Nat.le_of_ble_eq_true rfl) (fun K C X => ?_)
  show Zs K 0 0 (wX7 g a0 r0 s0 ++ wX6 g (r0 12) r1 s1 ++ wX1 g (r0 3) r2 q2_0 s2 ++ wX3 g (r1 8) r3 q3_0 s3 ++ wX3 g (r1 9) r4 q4_0 s4 ++ wX5 g q2_0 r5 s5) [(0, .ref a0)] 0 []
  unfold f_X7_positions at h
  refine z_aload_n (pc := 0) (x := a0) C dX7_positions_0 (i := 0) rfl rfl ?_
  refine z_get (pc := 1) (v := .ref (r0 12)) C 0 dX7_positions_1 fl_RX7_54 rfl rfl ?_
  refine z_aload_n (pc := 4) (x := a0) C dX7_positions_4 (i := 0) rfl rfl ?_
  refine z_get (pc := 5) (v := .ref (r0 3)) C 0 dX7_positions_5 fl_RX7_67 rfl rfl ?_
  replace h := ob_e h
  obtain ⟨x1, hx1, h⟩ := h
  refine z_callV (pc := 8) (As := [.ref (r0 3)]) (rest := []) (wr := (wX7 g a0 r0 s0)) C dX7_positions_8 ml_RX7_307 wv_X6_survey (m_X6_survey (a0 := (r0 12)) (a1 := (r0 3)) (r0 := r1) (r1 := r2) (q1_0 := q2_0) (r2 := r3) (q2_0 := q3_0) (r3 := r4) (q3_0 := q4_0) (r4 := r5) hg hx1) [4, 5, 6, 7, 8, 9, 10, 11, 12, 13, 14, 15, 16, 17, 18, 19, 20, 21, 22, 23, 24, 25, 26] [0, 1, 2, 3] rfl rfl ⟨by decide, by decide⟩ (Nat.le_of_ble_eq_true rfl) ⟨by decide, by decide⟩ rfl rfl rfl rfl rfl rfl rfl (by decide) (ex_k C (cs' := 0) (ss' := 0) (wF := (wX7 g a0 r0 s0 ++ wX6 g (r0 12) r1 x1.1 ++ wX1 g (r0 3) r2 q2_0 s2 ++ wX3 g (r1 8) r3 q2_0 x1.2.1 ++ wX3 g (r1 9) r4 q2_0 x1.2.2 ++ wX5 g q2_0 r5 s5)) [0, 1, 2, 3, 4, 5, 6, 7, 8, 9, 10, 11, 12, 13, 14, 15, 16, 17, 18, 19, 20, 21, 22, 23, 24, 25, 26] rfl rfl ?_)
  refine z_aload_n (pc := 11) (x := a0) C dX7_positions_11 (i := 0) rfl rfl ?_
  refine z_get (pc := 12) (v := .ref (r0 12)) C 0 dX7_positions_12 fl_RX7_54 rfl rfl ?_
  refine z_get (pc := 15) (v := .int (x1.1.1 0)) C 4 dX7_positions_15 fl_RX7_310 rfl rfl ?_
  refine z_if_eq (pc := 18) C dX7_positions_18 (tgt := 26) (by decide) (fun hc => ?_) (fun hc => ?_)
  · replace h := (ite_e h).1 hc
    refine z_aload_n (pc := 26) (x := a0) C dX7_positions_26 (i := 0) rfl rfl ?_
    refine z_get (pc := 27) (v := .ref (r0 12)) C 0 dX7_positions_27 fl_RX7_54 rfl rfl ?_
    refine z_get (pc := 30) (v := .int (x1.1.1 2)) C 4 dX7_positions_30 fl_RX7_317 rfl rfl ?_
    exact z_iret C X dX7_positions_33 (by rw [← Option.some.inj h]; exact ⟨rfl, rfl⟩) (by decide) (by decide)
  · replace h := (ite_e h).2 hc
    refine z_bipush (pc := 21) C dX7_positions_21 bp_m8 ?_
    refine z_goto (pc := 23) C dX7_positions_23 (tgt := 33) (by decide) ?_
    exact z_iret C X dX7_positions_33 (by rw [← Option.some.inj h]; exact ⟨rfl, rfl⟩) (by decide) (by decide)
def f_X7_valueBehind_9 (N : Nat) (s0 : Ob) (s1 : Ob) (s2 : Ob) (p1 : Int32) (p2 : Int32)  (s3 : Ob) (s4 : Ob) (s5 : Ob) : Option (Int32 × Ob × Ob × Ob × Bool) := none
theorem m_X7_valueBehind_9 {K : Kt} {g : Gp} {a0 : Nat} {r0 : Nat → Nat} {r1 : Nat → Nat} {q1_0 : Nat} {r2 : Nat → Nat} {r3 : Nat → Nat} {r4 : Nat → Nat} {q4_0 : Nat} {r5 : Nat → Nat} {q5_0 : Nat} {N : Nat} {s0 : Ob} {s1 : Ob} {s2 : Ob} {p1 : Int32} {p2 : Int32} {res : Int32 × Ob × Ob × Ob × Bool} (hg : Ok g) (C : Cx K g cX7_valueBehind RX7 3 (zrm 6 135)) (X : Rx K (exR (some (.int res.1)) (wX7 g a0 r0 s0 ++ wX1 g (r0 3) r1 q1_0 s1 ++ wX5 g q1_0 r2 s2 ++ wX6 g (r0 12) r3 res.2.1 ++ wX3 g (r3 8) r4 (bif res.2.2.2.2 then q1_0 else q4_0) res.2.2.1 ++ wX3 g (r3 9) r5 (bif res.2.2.2.2 then q1_0 else q5_0) res.2.2.2.1)) 0 0 (some .int)) (s3 : Ob) (s4 : Ob) (s5 : Ob) (h : f_X7_valueBehind_9 N s0 s1 s2 p1 p2 s3 s4 s5 = some res) : Zs K 0 0 (wX7 g a0 r0 s0 ++ wX1 g (r0 3) r1 q1_0 s1 ++ wX5 g q1_0 r2 s2 ++ wX6 g (r0 12) r3 s3 ++ wX3 g (r3 8) r4 q4_0 s4 ++ wX3 g (r3 9) r5 q5_0 s5) [] 9 [] := by
  unfold f_X7_valueBehind_9 at h
  exact nomatch h
def f_X7_valueBehind (N : Nat) (s0 : Ob) (s1 : Ob) (s2 : Ob) (s3 : Ob) (s4 : Ob) (s5 : Ob) (p1 : Int32) (p2 : Int32) : Option (Int32 × Ob × Ob × Ob × Bool) := (if p1 < 0 then (f_X7_valueBehind_9 N s0 s1 s2 p1 p2 s3 s4 s5) else (if p1 ≤ (3 : Int32) then (ob (f_X1_isEnded N s1 s2) fun x1 => (if x1 = 0 then (ob (f_X6_surveyBehind N s3 s1 s4 s5 s2 p1 p2) fun x2 => (if x2.1 = 0 then (some ((-7 : Int32), x2.2.1, x2.2.2.1, x2.2.2.2, true)) else (if (x2.2.1.1 0) = 0 then (some ((x2.2.1.1 1), x2.2.1, x2.2.2.1, x2.2.2.2, true)) else (some ((-8 : Int32), x2.2.1, x2.2.2.1, x2.2.2.2, true))))) else (some ((-3 : Int32), s3, s4, s5, false)))) else (f_X7_valueBehind_9 N s0 s1 s2 p1 p2 s3 s4 s5)))
theorem m_X7_valueBehind {g : Gp} {a0 : Nat} {r0 : Nat → Nat} {r1 : Nat → Nat} {q1_0 : Nat} {r2 : Nat → Nat} {r3 : Nat → Nat} {r4 : Nat → Nat} {q4_0 : Nat} {r5 : Nat → Nat} {q5_0 : Nat} {N : Nat} {s0 : Ob} {s1 : Ob} {s2 : Ob} {s3 : Ob} {s4 : Ob} {s5 : Ob} {p1 : Int32} {p2 : Int32} {res : Int32 × Ob × Ob × Ob × Bool} (hg : Ok g) (h : f_X7_valueBehind N s0 s1 s2 s3 s4 s5 p1 p2 = some res) : Ct g yX7_valueBehind cX7_valueBehind 3 (some .int) (zrm 6 135) [.ref a0, .int p1, .int p2] (wX7 g a0 r0 s0 ++ wX1 g (r0 3) r1 q1_0 s1 ++ wX5 g q1_0 r2 s2 ++ wX6 g (r0 12) r3 s3 ++ wX3 g (r3 8) r4 q4_0 s4 ++ wX3 g (r3 9) r5 q5_0 s5) (exR (some (.int res.1)) (wX7 g a0 r0 s0 ++ wX1 g (r0 3) r1 q1_0 s1 ++ wX5 g q1_0 r2 s2 ++ wX6 g (r0 12) r3 res.2.1 ++ wX3 g (r3 8) r4 (bif res.2.2.2.2 then q1_0 else q4_0) res.2.2.1 ++ wX3 g (r3 9) r5 (bif res.2.2.2.2 then q1_0 else q5_0) res.2.2.2.1)) := by
  refine ct_of rfl hg (by show _ ≤ _; exact Nat.le_of_ble_eq_true rfl) (fun K C X => ?_)
  show Zs K 0 0 (wX7 g a0 r0 s0 ++ wX1 g (r0 3) r1 q1_0 s1 ++ wX5 g q1_0 r2 s2 ++ wX6 g (r0 12) r3 s3 ++ wX3 g (r3 8) r4 q4_0 s4 ++ wX3 g (r3 9) r5 q5_0 s5) [(0, .ref a0), (1, .int p1), (2, .int p2)] 0 []
  unfold f_X7_valueBehind at h
  refine z_iload_n (pc := 0) (x := p1) C dX7_valueBehind_0 (i := 1) rfl rfl ?_
  refine z_if_lt (pc := 1) C dX7_valueBehind_1 (tgt := 9) (by decide) (fun hc => ?_) (fun hc => ?_)
  · replace h := (ite_e h).1 hc
    refine z_lv (lv' := []) [] rfl ?_
    exact m_X7_valueBehind_9 (a0 := a0) (r0 := r0) (r1 := r1) (q1_0 := q1_0) (r2 := r2) (r3 := r3) (r4 := r4) (q4_0 := q4_0) (r5 := r5) (q5_0 := q5_0) hg C X s3 s4 s5 h
  · replace h := (ite_e h).2 hc
    refine z_iload_n (pc := 4) (x := p1) C dX7_valueBehind_4 (i := 1) rfl rfl ?_
    refine z_iconst (pc := 5) C dX7_valueBehind_5 ic_3 ?_
    refine z_icmp_le (pc := 6) C dX7_valueBehind_6 (tgt := 20) (by decide) (fun hc => ?_) (fun hc => ?_)
    · replace h := (ite_e h).1 hc
      refine z_aload_n (pc := 20) (x := a0) C dX7_valueBehind_20 (i := 0) rfl rfl ?_
      refine z_get (pc := 21) (v := .ref (r0 3)) C 0 dX7_valueBehind_21 fl_RX7_67 rfl rfl ?_
      replace h := ob_e h
      obtain ⟨x1, hx1, h⟩ := h
      refine z_callV (pc := 24) (As := []) (rest := []) (wr := (wX7 g a0 r0 s0 ++ wX6 g (r0 12) r3 s3 ++ wX3 g (r3 8) r4 q4_0 s4 ++ wX3 g (r3 9) r5 q5_0 s5)) C dX7_valueBehind_24 ml_RX7_145 wv_X1_isEnded (m_X1_isEnded (a0 := (r0 3)) (r0 := r1) (q0_0 := q1_0) (r1 := r2) hg hx1) [4, 5, 6, 7, 8, 9, 10, 11, 12, 13, 14, 15, 16] [0, 1, 2, 3, 17, 18, 19, 20, 21, 22, 23, 24, 25, 26] rfl rfl ⟨by decide, by decide⟩ (Nat.le_of_ble_eq_true rfl) ⟨by decide, by decide⟩ rfl rfl rfl rfl rfl rfl rfl (by decide) (ex_k C (cs' := 0) (ss' := 0) (wF := (wX7 g a0 r0 s0 ++ wX1 g (r0 3) r1 q1_0 s1 ++ wX5 g q1_0 r2 s2 ++ wX6 g (r0 12) r3 s3 ++ wX3 g (r3 8) r4 q4_0 s4 ++ wX3 g (r3 9) r5 q5_0 s5)) [0, 1, 2, 3, 14, 15, 16, 17, 18, 19, 20, 21, 22, 23, 24, 25, 26, 4, 5, 6, 7, 8, 9, 10, 11, 12, 13] rfl rfl ?_)
      refine z_if_eq (pc := 27) C dX7_valueBehind_27 (tgt := 33) (by decide) (fun hc => ?_) (fun hc => ?_)
      · replace h := (ite_e h).1 hc
        refine z_aload_n (pc := 33) (x := a0) C dX7_valueBehind_33 (i := 0) rfl rfl ?_
        refine z_get (pc := 34) (v := .ref (r0 12)) C 0 dX7_valueBehind_34 fl_RX7_54 rfl rfl ?_
        refine z_aload_n (pc := 37) (x := a0) C dX7_valueBehind_37 (i := 0) rfl rfl ?_
        refine z_get (pc := 38) (v := .ref (r0 3)) C 0 dX7_valueBehind_38 fl_RX7_67 rfl rfl ?_
        refine z_iload_n (pc := 41) (x := p1) C dX7_valueBehind_41 (i := 1) rfl rfl ?_
        refine z_iload_n (pc := 42) (x := p2) C dX7_valueBehind_42 (i := 2) rfl rfl ?_
        replace h := ob_e h
        obtain ⟨x2, hx2, h⟩ := h
        refine z_callV (pc := 43) (As := [.ref (r0 3), .int p1, .int p2]) (rest := []) (wr := (wX7 g a0 r0 s0)) C dX7_valueBehind_43 ml_RX7_322 wv_X6_surveyBehind (m_X6_surveyBehind (a0 := (r0 12)) (a1 := (r0 3)) (r0 := r3) (r1 := r1) (q1_0 := q1_0) (r2 := r4) (q2_0 := q4_0) (r3 := r5) (q3_0 := q5_0) (r4 := r2) hg hx2) [17, 18, 19, 20, 4, 5, 6, 7, 8, 9, 10, 11, 12, 21, 22, 23, 24, 25, 26, 13, 14, 15, 16] [0, 1, 2, 3] rfl rfl ⟨by decide, by decide⟩ (Nat.le_of_ble_eq_true rfl) ⟨by decide, by decide⟩ rfl rfl rfl rfl rfl rfl rfl (by decide) (ex_k C (cs' := 0) (ss' := 0) (wF := (wX7 g a0 r0 s0 ++ wX1 g (r0 3) r1 q1_0 s1 ++ wX5 g q1_0 r2 s2 ++ wX6 g (r0 12) r3 x2.2.1 ++ wX3 g (r3 8) r4 q1_0 x2.2.2.1 ++ wX3 g (r3 9) r5 q1_0 x2.2.2.2)) [0, 1, 2, 3, 8, 9, 10, 11, 12, 13, 14, 15, 16, 23, 24, 25, 26, 4, 5, 6, 7, 17, 18, 19, 20, 21, 22] rfl rfl ?_)
        refine z_if_ne (pc := 46) C dX7_valueBehind_46 (tgt := 52) (by decide) (fun hc => ?_) (fun hc => ?_)
        · replace h := (ite_e h).2 hc
          refine z_aload_n (pc := 52) (x := a0) C dX7_valueBehind_52 (i := 0) rfl rfl ?_
          refine z_get (pc := 53) (v := .ref (r0 12)) C 0 dX7_valueBehind_53 fl_RX7_54 rfl rfl ?_
          refine z_get (pc := 56) (v := .int (x2.2.1.1 0)) C 17 dX7_valueBehind_56 fl_RX7_310 rfl rfl ?_
          refine z_if_eq (pc := 59) C dX7_valueBehind_59 (tgt := 67) (by decide) (fun hc => ?_) (fun hc => ?_)
          · replace h := (ite_e h).1 hc
            refine z_aload_n (pc := 67) (x := a0) C dX7_valueBehind_67 (i := 0) rfl rfl ?_
            refine z_get (pc := 68) (v := .ref (r0 12)) C 0 dX7_valueBehind_68 fl_RX7_54 rfl rfl ?_
            refine z_get (pc := 71) (v := .int (x2.2.1.1 1)) C 17 dX7_valueBehind_71 fl_RX7_314 rfl rfl ?_
            exact z_iret C X dX7_valueBehind_74 (by rw [← Option.some.inj h]; exact ⟨rfl, rfl⟩) (by decide) (by decide)
          · replace h := (ite_e h).2 hc
            refine z_bipush (pc := 62) C dX7_valueBehind_62 bp_m8 ?_
            refine z_goto (pc := 64) C dX7_valueBehind_64 (tgt := 74) (by decide) ?_
            exact z_iret C X dX7_valueBehind_74 (by rw [← Option.some.inj h]; exact ⟨rfl, rfl⟩) (by decide) (by decide)
        · replace h := (ite_e h).1 hc
          refine z_bipush (pc := 49) C dX7_valueBehind_49 bp_m7 ?_
          exact z_iret C X dX7_valueBehind_51 (by rw [← Option.some.inj h]; exact ⟨rfl, rfl⟩) (by decide) (by decide)
      · replace h := (ite_e h).2 hc
        refine z_bipush (pc := 30) C dX7_valueBehind_30 bp_m3 ?_
        exact z_iret C X dX7_valueBehind_32 (by rw [← Option.some.inj h]; exact ⟨rfl, rfl⟩) (by decide) (by decide)
    · replace h := (ite_e h).2 hc
      refine z_lv (lv' := []) [] rfl ?_
      exact m_X7_valueBehind_9 (a0 := a0) (r0 := r0) (r1 := r1) (q1_0 := q1_0) (r2 := r2) (r3 := r3) (r4 := r4) (q4_0 := q4_0) (r5 := r5) (q5_0 := q5_0) hg C X s3 s4 s5 h
def f_X7_bestMove_20 (N : Nat) (s0 : Ob) (s1 : Ob) (s2 : Ob) (p1 : Int32)  (s3 : Ob) (s4 : Ob) (s5 : Ob) : Option (Int32 × Ob × Ob × Ob × Bool) := (ob (f_X1_isEnded N s1 s2) fun x1 => (if x1 = 0 then (ob (f_X6_survey N s3 s1 s4 s5 s2) fun x2 => (if (x2.1.1 0) = 0 then (ob (f_X6_findMove N x2.1 s1 x2.2.1 x2.2.2 s2 (x2.1.1 1)) fun x3 => (if p1 = 0 then (some ((x3.1.1 3), x3.1, x3.2.1, x3.2.2, true)) else (some ((x3.1.1 4), x3.1, x3.2.1, x3.2.2, true)))) else (some ((-8 : Int32), x2.1, x2.2.1, x2.2.2, true)))) else (some ((-3 : Int32), s3, s4, s5, false))))
theorem m_X7_bestMove_20 {K : Kt} {g : Gp} {a0 : Nat} {r0 : Nat → Nat} {r1 : Nat → Nat} {q1_0 : Nat} {r2 : Nat → Nat} {r3 : Nat → Nat} {r4 : Nat → Nat} {q4_0 : Nat} {r5 : Nat → Nat} {q5_0 : Nat} {N : Nat} {s0 : Ob} {s1 : Ob} {s2 : Ob} {p1 : Int32} {res : Int32 × Ob × Ob × Ob × Bool} (hg : Ok g) (C : Cx K g cX7_bestMove RX7 2 (zrm 7 160)) (X : Rx K (exR (some (.int res.1)) (wX7 g a0 r0 s0 ++ wX1 g (r0 3) r1 q1_0 s1 ++ wX5 g q1_0 r2 s2 ++ wX6 g (r0 12) r3 res.2.1 ++ wX3 g (r3 8) r4 (bif res.2.2.2.2 then q1_0 else q4_0) res.2.2.1 ++ wX3 g (r3 9) r5 (bif res.2.2.2.2 then q1_0 else q5_0) res.2.2.2.1)) 0 0 (some .int)) (s3 : Ob) (s4 : Ob) (s5 : Ob) (h : f_X7_bestMove_20 N s0 s1 s2 p1 s3 s4 s5 = some res) : Zs K 0 0 (wX7 g a0 r0 s0 ++ wX1 g (r0 3) r1 q1_0 s1 ++ wX5 g q1_0 r2 s2 ++ wX6 g (r0 12) r3 s3 ++ wX3 g (r3 8) r4 q4_0 s4 ++ wX3 g (r3 9) r5 q5_0 s5) [(0, .ref a0), (1, .int p1)] 20 [] := by
  unfold f_X7_bestMove_20 at h
  refine z_aload_n (pc := 20) (x := a0) C dX7_bestMove_20 (i := 0) rfl rfl ?_
  refine z_get (pc := 21) (v := .ref (r0 3)) C 0 dX7_bestMove_21 fl_RX7_67 rfl rfl ?_
  replace h := ob_e h
  obtain ⟨x1, hx1, h⟩ := h
  refine z_callV (pc := 24) (As := []) (rest := []) (wr := (wX7 g a0 r0 s0 ++ wX6 g (r0 12) r3 s3 ++ wX3 g (r3 8) r4 q4_0 s4 ++ wX3 g (r3 9) r5 q5_0 s5)) C dX7_bestMove_24 ml_RX7_145 wv_X1_isEnded (m_X1_isEnded (a0 := (r0 3)) (r0 := r1) (q0_0 := q1_0) (r1 := r2) hg hx1) [4, 5, 6, 7, 8, 9, 10, 11, 12, 13, 14, 15, 16] [0, 1, 2, 3, 17, 18, 19, 20, 21, 22, 23, 24, 25, 26] rfl rfl ⟨by decide, by decide⟩ (Nat.le_of_ble_eq_true rfl) ⟨by decide, by decide⟩ rfl rfl rfl rfl rfl rfl rfl (by decide) (ex_k C (cs' := 0) (ss' := 0) (wF := (wX7 g a0 r0 s0 ++ wX1 g (r0 3) r1 q1_0 s1 ++ wX5 g q1_0 r2 s2 ++ wX6 g (r0 12) r3 s3 ++ wX3 g (r3 8) r4 q4_0 s4 ++ wX3 g (r3 9) r5 q5_0 s5)) [0, 1, 2, 3, 14, 15, 16, 17, 18, 19, 20, 21, 22, 23, 24, 25, 26, 4, 5, 6, 7, 8, 9, 10, 11, 12, 13] rfl rfl ?_)
  refine z_if_eq (pc := 27) C dX7_bestMove_27 (tgt := 33) (by decide) (fun hc => ?_) (fun hc => ?_)
  · replace h := (ite_e h).1 hc
    refine z_aload_n (pc := 33) (x := a0) C dX7_bestMove_33 (i := 0) rfl rfl ?_
    refine z_get (pc := 34) (v := .ref (r0 12)) C 0 dX7_bestMove_34 fl_RX7_54 rfl rfl ?_
    refine z_aload_n (pc := 37) (x := a0) C dX7_bestMove_37 (i := 0) rfl rfl ?_
    refine z_get (pc := 38) (v := .ref (r0 3)) C 0 dX7_bestMove_38 fl_RX7_67 rfl rfl ?_
    replace h := ob_e h
    obtain ⟨x2, hx2, h⟩ := h
    refine z_callV (pc := 41) (As := [.ref (r0 3)]) (rest := []) (wr := (wX7 g a0 r0 s0)) C dX7_bestMove_41 ml_RX7_307 wv_X6_survey (m_X6_survey (a0 := (r0 12)) (a1 := (r0 3)) (r0 := r3) (r1 := r1) (q1_0 := q1_0) (r2 := r4) (q2_0 := q4_0) (r3 := r5) (q3_0 := q5_0) (r4 := r2) hg hx2) [17, 18, 19, 20, 4, 5, 6, 7, 8, 9, 10, 11, 12, 21, 22, 23, 24, 25, 26, 13, 14, 15, 16] [0, 1, 2, 3] rfl rfl ⟨by decide, by decide⟩ (Nat.le_of_ble_eq_true rfl) ⟨by decide, by decide⟩ rfl rfl rfl rfl rfl rfl rfl (by decide) (ex_k C (cs' := 0) (ss' := 0) (wF := (wX7 g a0 r0 s0 ++ wX1 g (r0 3) r1 q1_0 s1 ++ wX5 g q1_0 r2 s2 ++ wX6 g (r0 12) r3 x2.1 ++ wX3 g (r3 8) r4 q1_0 x2.2.1 ++ wX3 g (r3 9) r5 q1_0 x2.2.2)) [0, 1, 2, 3, 8, 9, 10, 11, 12, 13, 14, 15, 16, 23, 24, 25, 26, 4, 5, 6, 7, 17, 18, 19, 20, 21, 22] rfl rfl ?_)
    refine z_aload_n (pc := 44) (x := a0) C dX7_bestMove_44 (i := 0) rfl rfl ?_
    refine z_get (pc := 45) (v := .ref (r0 12)) C 0 dX7_bestMove_45 fl_RX7_54 rfl rfl ?_
    refine z_get (pc := 48) (v := .int (x2.1.1 0)) C 17 dX7_bestMove_48 fl_RX7_310 rfl rfl ?_
    refine z_if_eq (pc := 51) C dX7_bestMove_51 (tgt := 57) (by decide) (fun hc => ?_) (fun hc => ?_)
    · replace h := (ite_e h).1 hc
      refine z_aload_n (pc := 57) (x := a0) C dX7_bestMove_57 (i := 0) rfl rfl ?_
      refine z_get (pc := 58) (v := .ref (r0 12)) C 0 dX7_bestMove_58 fl_RX7_54 rfl rfl ?_
      refine z_aload_n (pc := 61) (x := a0) C dX7_bestMove_61 (i := 0) rfl rfl ?_
      refine z_get (pc := 62) (v := .ref (r0 3)) C 0 dX7_bestMove_62 fl_RX7_67 rfl rfl ?_
      refine z_aload_n (pc := 65) (x := a0) C dX7_bestMove_65 (i := 0) rfl rfl ?_
      refine z_get (pc := 66) (v := .ref (r0 12)) C 0 dX7_bestMove_66 fl_RX7_54 rfl rfl ?_
      refine z_get (pc := 69) (v := .int (x2.1.1 1)) C 17 dX7_bestMove_69 fl_RX7_314 rfl rfl ?_
      replace h := ob_e h
      obtain ⟨x3, hx3, h⟩ := h
      refine z_callV (pc := 72) (As := [.ref (r0 3), .int (x2.1.1 1)]) (rest := []) (wr := (wX7 g a0 r0 s0)) C dX7_bestMove_72 ml_RX7_328 wv_X6_findMove (m_X6_findMove (a0 := (r0 12)) (a1 := (r0 3)) (r0 := r3) (r1 := r1) (q1_0 := q1_0) (r2 := r4) (q2_0 := q1_0) (r3 := r5) (q3_0 := q1_0) (r4 := r2) hg hx3) [17, 18, 19, 20, 4, 5, 6, 7, 8, 9, 10, 11, 12, 21, 22, 23, 24, 25, 26, 13, 14, 15, 16] [0, 1, 2, 3] rfl rfl ⟨by decide, by decide⟩ (Nat.le_of_ble_eq_true rfl) ⟨by decide, by decide⟩ rfl rfl rfl rfl rfl rfl rfl (by decide) (ex_k C (cs' := 0) (ss' := 0) (wF := (wX7 g a0 r0 s0 ++ wX1 g (r0 3) r1 q1_0 s1 ++ wX5 g q1_0 r2 s2 ++ wX6 g (r0 12) r3 x3.1 ++ wX3 g (r3 8) r4 q1_0 x3.2.1 ++ wX3 g (r3 9) r5 q1_0 x3.2.2)) [0, 1, 2, 3, 8, 9, 10, 11, 12, 13, 14, 15, 16, 23, 24, 25, 26, 4, 5, 6, 7, 17, 18, 19, 20, 21, 22] rfl rfl ?_)
      refine z_iload_n (pc := 75) (x := p1) C dX7_bestMove_75 (i := 1) rfl rfl ?_
      refine z_if_ne (pc := 76) C dX7_bestMove_76 (tgt := 89) (by decide) (fun hc => ?_) (fun hc => ?_)
      · replace h := (ite_e h).2 hc
        refine z_aload_n (pc := 89) (x := a0) C dX7_bestMove_89 (i := 0) rfl rfl ?_
        refine z_get (pc := 90) (v := .ref (r0 12)) C 0 dX7_bestMove_90 fl_RX7_54 rfl rfl ?_
        refine z_get (pc := 93) (v := .int (x3.1.1 4)) C 17 dX7_bestMove_93 fl_RX7_335 rfl rfl ?_
        exact z_iret C X dX7_bestMove_96 (by rw [← Option.some.inj h]; exact ⟨rfl, rfl⟩) (by decide) (by decide)
      · replace h := (ite_e h).1 hc
        refine z_aload_n (pc := 79) (x := a0) C dX7_bestMove_79 (i := 0) rfl rfl ?_
        refine z_get (pc := 80) (v := .ref (r0 12)) C 0 dX7_bestMove_80 fl_RX7_54 rfl rfl ?_
        refine z_get (pc := 83) (v := .int (x3.1.1 3)) C 17 dX7_bestMove_83 fl_RX7_332 rfl rfl ?_
        refine z_goto (pc := 86) C dX7_bestMove_86 (tgt := 96) (by decide) ?_
        exact z_iret C X dX7_bestMove_96 (by rw [← Option.some.inj h]; exact ⟨rfl, rfl⟩) (by decide) (by decide)
    · replace h := (ite_e h).2 hc
      refine z_bipush (pc := 54) C dX7_bestMove_54 bp_m8 ?_
      exact z_iret C X dX7_bestMove_56 (by rw [← Option.some.inj h]; exact ⟨rfl, rfl⟩) (by decide) (by decide)
  · replace h := (ite_e h).2 hc
    refine z_bipush (pc := 30) C dX7_bestMove_30 bp_m3 ?_
    exact z_iret C X dX7_bestMove_32 (by rw [← Option.some.inj h]; exact ⟨rfl, rfl⟩) (by decide) (by decide)
def f_X7_bestMove (N : Nat) (s0 : Ob) (s1 : Ob) (s2 : Ob) (s3 : Ob) (s4 : Ob) (s5 : Ob) (p1 : Int32) : Option (Int32 × Ob × Ob × Ob × Bool) := (if p1 = 0 then (f_X7_bestMove_20 N s0 s1 s2 p1 s3 s4 s5) else (if p1 = (1 : Int32) then (f_X7_bestMove_20 N s0 s1 s2 p1 s3 s4 s5) else none))
theorem m_X7_bestMove {g : Gp} {a0 : Nat} {r0 : Nat → Nat} {r1 : Nat → Nat} {q1_0 : Nat} {r2 : Nat → Nat} {r3 : Nat → Nat} {r4 : Nat → Nat} {q4_0 : Nat} {r5 : Nat → Nat} {q5_0 : Nat} {N : Nat} {s0 : Ob} {s1 : Ob} {s2 : Ob} {s3 : Ob} {s4 : Ob} {s5 : Ob} {p1 : Int32} {res : Int32 × Ob × Ob × Ob × Bool} (hg : Ok g) (h : f_X7_bestMove N s0 s1 s2 s3 s4 s5 p1 = some res) : Ct g yX7_bestMove cX7_bestMove 2 (some .int) (zrm 7 160) [.ref a0, .int p1] (wX7 g a0 r0 s0 ++ wX1 g (r0 3) r1 q1_0 s1 ++ wX5 g q1_0 r2 s2 ++ wX6 g (r0 12) r3 s3 ++ wX3 g (r3 8) r4 q4_0 s4 ++ wX3 g (r3 9) r5 q5_0 s5) (exR (some (.int res.1)) (wX7 g a0 r0 s0 ++ wX1 g (r0 3) r1 q1_0 s1 ++ wX5 g q1_0 r2 s2 ++ wX6 g (r0 12) r3 res.2.1 ++ wX3 g (r3 8) r4 (bif res.2.2.2.2 then q1_0 else q4_0) res.2.2.1 ++ wX3 g (r3 9) r5 (bif res.2.2.2.2 then q1_0 else q5_0) res.2.2.2.1)) := by
  refine ct_of rfl hg (by show _ ≤ _; exact Nat.le_of_ble_eq_true rfl) (fun K C X => ?_)
  show Zs K 0 0 (wX7 g a0 r0 s0 ++ wX1 g (r0 3) r1 q1_0 s1 ++ wX5 g q1_0 r2 s2 ++ wX6 g (r0 12) r3 s3 ++ wX3 g (r3 8) r4 q4_0 s4 ++ wX3 g (r3 9) r5 q5_0 s5) [(0, .ref a0), (1, .int p1)] 0 []
  unfold f_X7_bestMove at h
  refine z_iload_n (pc := 0) (x := p1) C dX7_bestMove_0 (i := 1) rfl rfl ?_
  refine z_if_eq (pc := 1) C dX7_bestMove_1 (tgt := 20) (by decide) (fun hc => ?_) (fun hc => ?_)
  · replace h := (ite_e h).1 hc
    exact m_X7_bestMove_20 (a0 := a0) (r0 := r0) (r1 := r1) (q1_0 := q1_0) (r2 := r2) (r3 := r3) (r4 := r4) (q4_0 := q4_0) (r5 := r5) (q5_0 := q5_0) hg C X s3 s4 s5 h
  · replace h := (ite_e h).2 hc
    refine z_iload_n (pc := 4) (x := p1) C dX7_bestMove_4 (i := 1) rfl rfl ?_
    refine z_iconst (pc := 5) C dX7_bestMove_5 ic_1 ?_
    refine z_icmp_eq (pc := 6) C dX7_bestMove_6 (tgt := 20) (by decide) (fun hc => ?_) (fun hc => ?_)
    · replace h := (ite_e h).1 hc
      exact m_X7_bestMove_20 (a0 := a0) (r0 := r0) (r1 := r1) (q1_0 := q1_0) (r2 := r2) (r3 := r3) (r4 := r4) (q4_0 := q4_0) (r5 := r5) (q5_0 := q5_0) hg C X s3 s4 s5 h
    · replace h := (ite_e h).2 hc
      exact nomatch h
def f_X7_total_10 (N : Nat) (s0 : Ob) (s1 : Ob) (p1 : Int32)   : Option (Int32) := none
theorem m_X7_total_10 {K : Kt} {g : Gp} {a0 : Nat} {r0 : Nat → Nat} {r1 : Nat → Nat} {q1_0 : Nat} {N : Nat} {s0 : Ob} {s1 : Ob} {p1 : Int32} {res : Int32} (hg : Ok g) (C : Cx K g cX7_total RX7 2 (zrm 0 0)) (X : Rx K (exR (some (.int res)) (wX7 g a0 r0 s0 ++ wX1 g (r0 3) r1 q1_0 s1)) 0 0 (some .int))  (h : f_X7_total_10 N s0 s1 p1  = some res) : Zs K 0 0 (wX7 g a0 r0 s0 ++ wX1 g (r0 3) r1 q1_0 s1) [] 10 [] := by
  unfold f_X7_total_10 at h
  exact nomatch h
def f_X7_total (N : Nat) (s0 : Ob) (s1 : Ob) (p1 : Int32) : Option (Int32) := (if p1 < 0 then (f_X7_total_10 N s0 s1 p1 ) else (if p1 < (7 : Int32) then (chk (inb p1 7) (some ((s1.2.2.1 7) (p1).toNatClampNeg))) else (f_X7_total_10 N s0 s1 p1 )))
theorem m_X7_total {g : Gp} {a0 : Nat} {r0 : Nat → Nat} {r1 : Nat → Nat} {q1_0 : Nat} {N : Nat} {s0 : Ob} {s1 : Ob} {p1 : Int32} {res : Int32} (hg : Ok g) (h : f_X7_total N s0 s1 p1 = some res) : Ct g yX7_total cX7_total 2 (some .int) (zrm 0 0) [.ref a0, .int p1] (wX7 g a0 r0 s0 ++ wX1 g (r0 3) r1 q1_0 s1) (exR (some (.int res)) (wX7 g a0 r0 s0 ++ wX1 g (r0 3) r1 q1_0 s1)) := by
  refine ct_of rfl hg (by show _ ≤ _; exact Nat.le_of_ble_eq_true rfl) (fun K C X => ?_)
  show Zs K 0 0 (wX7 g a0 r0 s0 ++ wX1 g (r0 3) r1 q1_0 s1) [(0, .ref a0), (1, .int p1)] 0 []
  unfold f_X7_total at h
  refine z_iload_n (pc := 0) (x := p1) C dX7_total_0 (i := 1) rfl rfl ?_
  refine z_if_lt (pc := 1) C dX7_total_1 (tgt := 10) (by decide) (fun hc => ?_) (fun hc => ?_)
  · replace h := (ite_e h).1 hc
    refine z_lv (lv' := []) [] rfl ?_
    exact m_X7_total_10 (a0 := a0) (r0 := r0) (r1 := r1) (q1_0 := q1_0) hg C X  h
  · replace h := (ite_e h).2 hc
    refine z_iload_n (pc := 4) (x := p1) C dX7_total_4 (i := 1) rfl rfl ?_
    refine z_bipush (pc := 5) C dX7_total_5 bp_7 ?_
    refine z_icmp_lt (pc := 7) C dX7_total_7 (tgt := 21) (by decide) (fun hc => ?_) (fun hc => ?_)
    · replace h := (ite_e h).1 hc
      refine z_aload_n (pc := 21) (x := a0) C dX7_total_21 (i := 0) rfl rfl ?_
      refine z_get (pc := 22) (v := .ref (r0 3)) C 0 dX7_total_22 fl_RX7_67 rfl rfl ?_
      refine z_get (pc := 25) (v := .ref (r1 7)) C 4 dX7_total_25 fl_RX7_340 rfl rfl ?_
      refine z_iload_n (pc := 28) (x := p1) C dX7_total_28 (i := 1) rfl rfl ?_
      replace h := chk_e h
      obtain ⟨hb1, h⟩ := h
      refine z_iald (pc := 29) C 5 dX7_total_29 rfl hb1 ?_
      exact z_iret C X dX7_total_30 (by rw [← Option.some.inj h]; exact ⟨rfl, rfl⟩) (by decide) (by decide)
    · replace h := (ite_e h).2 hc
      refine z_lv (lv' := []) [] rfl ?_
      exact m_X7_total_10 (a0 := a0) (r0 := r0) (r1 := r1) (q1_0 := q1_0) hg C X  h
def f_X7_logPart_9 (N : Nat) (s0 : Ob) (s1 : Ob) (p1 : Int32) (p2 : Int32)   : Option (Int32) := none
theorem m_X7_logPart_9 {K : Kt} {g : Gp} {a0 : Nat} {r0 : Nat → Nat} {r1 : Nat → Nat} {q1_0 : Nat} {N : Nat} {s0 : Ob} {s1 : Ob} {p1 : Int32} {p2 : Int32} {res : Int32} (hg : Ok g) (C : Cx K g cX7_logPart RX7 3 (zrm 1 22)) (X : Rx K (exR (some (.int res)) (wX7 g a0 r0 s0 ++ wX1 g (r0 3) r1 q1_0 s1)) 0 0 (some .int))  (h : f_X7_logPart_9 N s0 s1 p1 p2  = some res) : Zs K 0 0 (wX7 g a0 r0 s0 ++ wX1 g (r0 3) r1 q1_0 s1) [] 9 [] := by
  unfold f_X7_logPart_9 at h
  exact nomatch h
def f_X7_logPart (N : Nat) (s0 : Ob) (s1 : Ob) (p1 : Int32) (p2 : Int32) : Option (Int32) := (if p2 < 0 then (f_X7_logPart_9 N s0 s1 p1 p2 ) else (if p2 < (4 : Int32) then (ob (f_X1_loggedPart N s1 p1 p2) fun x1 => (some x1)) else (f_X7_logPart_9 N s0 s1 p1 p2 )))
theorem m_X7_logPart {g : Gp} {a0 : Nat} {r0 : Nat → Nat} {r1 : Nat → Nat} {q1_0 : Nat} {N : Nat} {s0 : Ob} {s1 : Ob} {p1 : Int32} {p2 : Int32} {res : Int32} (hg : Ok g) (h : f_X7_logPart N s0 s1 p1 p2 = some res) : Ct g yX7_logPart cX7_logPart 3 (some .int) (zrm 1 22) [.ref a0, .int p1, .int p2] (wX7 g a0 r0 s0 ++ wX1 g (r0 3) r1 q1_0 s1) (exR (some (.int res)) (wX7 g a0 r0 s0 ++ wX1 g (r0 3) r1 q1_0 s1)) := by
  refine ct_of rfl hg (by show _ ≤ _; exact Nat.le_of_ble_eq_true rfl) (fun K C X => ?_)
  show Zs K 0 0 (wX7 g a0 r0 s0 ++ wX1 g (r0 3) r1 q1_0 s1) [(0, .ref a0), (1, .int p1), (2, .int p2)] 0 []
  unfold f_X7_logPart at h
  refine z_iload_n (pc := 0) (x := p2) C dX7_logPart_0 (i := 2) rfl rfl ?_
  refine z_if_lt (pc := 1) C dX7_logPart_1 (tgt := 9) (by decide) (fun hc => ?_) (fun hc => ?_)
  · replace h := (ite_e h).1 hc
    refine z_lv (lv' := []) [] rfl ?_
    exact m_X7_logPart_9 (a0 := a0) (r0 := r0) (r1 := r1) (q1_0 := q1_0) hg C X  h
  · replace h := (ite_e h).2 hc
    refine z_iload_n (pc := 4) (x := p2) C dX7_logPart_4 (i := 2) rfl rfl ?_
    refine z_iconst (pc := 5) C dX7_logPart_5 ic_4 ?_
    refine z_icmp_lt (pc := 6) C dX7_logPart_6 (tgt := 20) (by decide) (fun hc => ?_) (fun hc => ?_)
    · replace h := (ite_e h).1 hc
      refine z_aload_n (pc := 20) (x := a0) C dX7_logPart_20 (i := 0) rfl rfl ?_
      refine z_get (pc := 21) (v := .ref (r0 3)) C 0 dX7_logPart_21 fl_RX7_67 rfl rfl ?_
      refine z_iload_n (pc := 24) (x := p1) C dX7_logPart_24 (i := 1) rfl rfl ?_
      refine z_iload_n (pc := 25) (x := p2) C dX7_logPart_25 (i := 2) rfl rfl ?_
      replace h := ob_e h
      obtain ⟨x1, hx1, h⟩ := h
      refine z_callV (pc := 26) (As := [.int p1, .int p2]) (rest := []) (wr := (wX7 g a0 r0 s0)) C dX7_logPart_26 ml_RX7_345 wv_X1_loggedPart (m_X1_loggedPart (a0 := (r0 3)) (r0 := r1) (q0_0 := q1_0) hg hx1) [4, 5, 6, 7, 8, 9, 10, 11, 12] [0, 1, 2, 3] rfl rfl ⟨by decide, by decide⟩ (Nat.le_of_ble_eq_true rfl) ⟨by decide, by decide⟩ rfl rfl rfl rfl rfl rfl rfl (by decide) (ex_k C (cs' := 0) (ss' := 0) (wF := (wX7 g a0 r0 s0 ++ wX1 g (r0 3) r1 q1_0 s1)) [0, 1, 2, 3, 4, 5, 6, 7, 8, 9, 10, 11, 12] rfl rfl ?_)
      exact z_iret C X dX7_logPart_29 (by rw [← Option.some.inj h]; exact ⟨rfl, rfl⟩) (by decide) (by decide)
    · replace h := (ite_e h).2 hc
      refine z_lv (lv' := []) [] rfl ?_
      exact m_X7_logPart_9 (a0 := a0) (r0 := r0) (r1 := r1) (q1_0 := q1_0) hg C X  h
def f_X7_write (N : Nat) (s0 : Ob) (p1 : Int32) : Option (Ob) := (if (15 : Int32) ≤ (s0.1 14) then (some s0) else (chk (inb (s0.1 14) 15) (znm (sa s0 13 (upd (s0.2.2.1 13) ((s0.1 14)).toNatClampNeg p1)) fun y2 => (some (si y2 14 ((s0.1 14) + (1 : Int32)))))))
theorem m_X7_write {g : Gp} {a0 : Nat} {r0 : Nat → Nat} {N : Nat} {s0 : Ob} {p1 : Int32} {res : Ob} (hg : Ok g) (h : f_X7_write N s0 p1 = some res) : Ct g yX7_write cX7_write 2 none (zrm 0 0) [.ref a0, .int p1] (wX7 g a0 r0 s0) (exR none (wX7 g a0 r0 res)) := by
  refine ct_of rfl hg (by show _ ≤ _; exact Nat.le_of_ble_eq_true rfl) (fun K C X => ?_)
  show Zs K 0 0 (wX7 g a0 r0 s0) [(0, .ref a0), (1, .int p1)] 0 []
  unfold f_X7_write at h
  refine z_aload_n (pc := 0) (x := a0) C dX7_write_0 (i := 0) rfl rfl ?_
  refine z_get (pc := 1) (v := .int (s0.1 14)) C 0 dX7_write_1 fl_RX7_351 rfl rfl ?_
  refine z_aload_n (pc := 4) (x := a0) C dX7_write_4 (i := 0) rfl rfl ?_
  refine z_get (pc := 5) (v := .ref (r0 13)) C 0 dX7_write_5 fl_RX7_58 rfl rfl ?_
  refine z_alen_int (pc := 8) (v := (15 : Int32)) C 3 dX7_write_8 rfl (by decide) ?_
  refine z_icmp_ge (pc := 9) C dX7_write_9 (tgt := 32) (by decide) (fun hc => ?_) (fun hc => ?_)
  · replace h := (ite_e h).1 hc
    exact z_vret C X dX7_write_32 (by rw [← Option.some.inj h]; exact ⟨rfl, rfl⟩) (by decide) (by decide)
  · replace h := (ite_e h).2 hc
    refine z_aload_n (pc := 12) (x := a0) C dX7_write_12 (i := 0) rfl rfl ?_
    refine z_get (pc := 13) (v := .ref (r0 13)) C 0 dX7_write_13 fl_RX7_58 rfl rfl ?_
    refine z_aload_n (pc := 16) (x := a0) C dX7_write_16 (i := 0) rfl rfl ?_
    refine z_get (pc := 17) (v := .int (s0.1 14)) C 0 dX7_write_17 fl_RX7_351 rfl rfl ?_
    refine z_iload_n (pc := 20) (x := p1) C dX7_write_20 (i := 1) rfl rfl ?_
    replace h := chk_e h
    obtain ⟨hb1, h⟩ := h
    refine z_iast (pc := 21) C 3 dX7_write_21 rfl hb1 (ws' := (wX7 g a0 r0 (sa s0 13 (upd (s0.2.2.1 13) ((s0.1 14)).toNatClampNeg p1)))) rfl ?_
    refine z_aload_n (pc := 22) (x := a0) C dX7_write_22 (i := 0) rfl rfl ?_
    refine z_dup (pc := 23) C dX7_write_23 rfl ?_
    refine z_get (pc := 24) (v := .int (s0.1 14)) C 0 dX7_write_24 fl_RX7_351 rfl rfl ?_
    refine z_iconst (pc := 27) C dX7_write_27 ic_1 ?_
    refine z_iadd (pc := 28) C dX7_write_28 ?_
    replace h := znm_e h
    obtain ⟨y2, hy2, h⟩ := h
    refine z_wsE (ws' := (wX7 g a0 r0 y2)) (by rw [hy2]) ?_
    refine z_put (pc := 29) C 0 dX7_write_29 fp_RX7_351 rfl rfl rfl (zlt_b rfl) (ws' := (wX7 g a0 r0 (si y2 14 ((s0.1 14) + (1 : Int32))))) rfl ?_
    exact z_vret C X dX7_write_32 (by rw [← Option.some.inj h]; exact ⟨rfl, rfl⟩) (by decide) (by decide)
def f_X7_writeOnly_32 (N : Nat) (p1 : Int32) (p2 : Int32)  (t1 : Int32) (s0 : Ob) : Option (Ob) := (ob (f_X7_write N s0 t1) fun x2 => (some x2))
theorem m_X7_writeOnly_32 {K : Kt} {g : Gp} {a0 : Nat} {r0 : Nat → Nat} {N : Nat} {p1 : Int32} {p2 : Int32} {res : Ob} (hg : Ok g) (C : Cx K g cX7_writeOnly RX7 4 (zrm 1 21)) (X : Rx K (exR none (wX7 g a0 r0 res)) 0 0 none) (t1 : Int32) (s0 : Ob) (h : f_X7_writeOnly_32 N p1 p2 t1 s0 = some res) : Zs K 0 0 (wX7 g a0 r0 s0) [] 32 [.int t1, .ref a0] := by
  unfold f_X7_writeOnly_32 at h
  replace h := ob_e h
  obtain ⟨x2, hx2, h⟩ := h
  refine z_callV (pc := 32) (As := [.int t1]) (rest := []) (wr := ([] : va_W)) C dX7_writeOnly_32 ml_RX7_357 wv_X7_write (m_X7_write (a0 := a0) (r0 := r0) hg hx2) [0, 1, 2, 3] [] rfl rfl ⟨by decide, by decide⟩ (Nat.le_of_ble_eq_true rfl) ⟨by decide, by decide⟩ rfl rfl rfl rfl rfl rfl rfl (by decide) (ex_k C (cs' := 0) (ss' := 0) (wF := (wX7 g a0 r0 x2)) [0, 1, 2, 3] rfl rfl ?_)
  exact z_vret C X dX7_writeOnly_35 (by rw [← Option.some.inj h]; exact ⟨rfl, rfl⟩) (by decide) (by decide)
def f_X7_writeOnly_13 (N : Nat) (p1 : Int32) (p2 : Int32)  (t0 : Int32) (s0 : Ob) : Option (Ob) := (if t0 = 0 then (f_X7_writeOnly_32 N p1 p2 (63 : Int32) s0) else (ob (f_J6_bitCount_0f7a4 N (p2 - (1 : Int32))) fun x3 => (f_X7_writeOnly_32 N p1 p2 (p1 + x3) s0)))
theorem m_X7_writeOnly_13 {K : Kt} {g : Gp} {a0 : Nat} {r0 : Nat → Nat} {N : Nat} {p1 : Int32} {p2 : Int32} {res : Ob} (hg : Ok g) (C : Cx K g cX7_writeOnly RX7 4 (zrm 1 21)) (X : Rx K (exR none (wX7 g a0 r0 res)) 0 0 none) (t0 : Int32) (s0 : Ob) (h : f_X7_writeOnly_13 N p1 p2 t0 s0 = some res) : Zs K 0 0 (wX7 g a0 r0 s0) [(0, .ref a0), (1, .int p1), (2, .int p2)] 13 [.int t0] := by
  unfold f_X7_writeOnly_13 at h
  refine z_istore_n (pc := 13) C dX7_writeOnly_13 (i := 3) rfl (by decide) (lv' := [(3, .int t0), (0, .ref a0), (1, .int p1), (2, .int p2)]) rfl ?_
  refine z_aload_n (pc := 14) (x := a0) C dX7_writeOnly_14 (i := 0) rfl rfl ?_
  refine z_iload_n (pc := 15) (x := t0) C dX7_writeOnly_15 (i := 3) rfl rfl ?_
  refine z_if_eq (pc := 16) C dX7_writeOnly_16 (tgt := 30) (by decide) (fun hc => ?_) (fun hc => ?_)
  · replace h := (ite_e h).1 hc
    refine z_bipush (pc := 30) C dX7_writeOnly_30 bp_63 ?_
    refine z_lv (lv' := []) [] rfl ?_
    exact m_X7_writeOnly_32 (a0 := a0) (r0 := r0) hg C X (63 : Int32) s0 h
  · replace h := (ite_e h).2 hc
    refine z_iload_n (pc := 19) (x := p1) C dX7_writeOnly_19 (i := 1) rfl rfl ?_
    refine z_iload_n (pc := 20) (x := p2) C dX7_writeOnly_20 (i := 2) rfl rfl ?_
    refine z_iconst (pc := 21) C dX7_writeOnly_21 ic_1 ?_
    refine z_isub (pc := 22) C dX7_writeOnly_22 ?_
    replace h := ob_e h
    obtain ⟨x3, hx3, h⟩ := h
    refine z_callS (pc := 23) (As := [.int (p2 - (1 : Int32))]) (rest := [.int p1, .ref a0]) (wr := (wX7 g a0 r0 s0)) C dX7_writeOnly_23 ml_RX7_217 wt_J6_bitCount_0f7a4 (m_J6_bitCount_0f7a4 hg hx3) [] [0, 1, 2, 3] rfl rfl ⟨by decide, by decide⟩ (Nat.le_of_ble_eq_true rfl) ⟨by decide, by decide⟩ rfl rfl rfl rfl (by decide) (ex_k C (cs' := 0) (ss' := 0) (wF := (wX7 g a0 r0 s0)) [0, 1, 2, 3] rfl rfl ?_)
    refine z_iadd (pc := 26) C dX7_writeOnly_26 ?_
    refine z_goto (pc := 27) C dX7_writeOnly_27 (tgt := 32) (by decide) ?_
    refine z_lv (lv' := []) [] rfl ?_
    exact m_X7_writeOnly_32 (a0 := a0) (r0 := r0) hg C X (p1 + x3) s0 h
def f_X7_writeOnly (N : Nat) (s0 : Ob) (p1 : Int32) (p2 : Int32) : Option (Ob) := (ob (f_J6_bitCount_0f7a4 N p2) fun x1 => (if x1 = (1 : Int32) then (f_X7_writeOnly_13 N p1 p2 (1 : Int32) s0) else (f_X7_writeOnly_13 N p1 p2 (0 : Int32) s0)))
theorem m_X7_writeOnly {g : Gp} {a0 : Nat} {r0 : Nat → Nat} {N : Nat} {s0 : Ob} {p1 : Int32} {p2 : Int32} {res : Ob} (hg : Ok g) (h : f_X7_writeOnly N s0 p1 p2 = some res) : Ct g yX7_writeOnly cX7_writeOnly 4 none (zrm 1 21) [.ref a0, .int p1, .int p2] (wX7 g a0 r0 s0) (exR none (wX7 g a0 r0 res)) := by
  refine ct_of rfl hg (by show _ ≤ _; exact Nat.le_of_ble_eq_true rfl) (fun K C X => ?_)
  show Zs K 0 0 (wX7 g a0 r0 s0) [(0, .ref a0), (1, .int p1), (2, .int p2)] 0 []
  unfold f_X7_writeOnly at h
  refine z_iload_n (pc := 0) (x := p2) C dX7_writeOnly_0 (i := 2) rfl rfl ?_
  replace h := ob_e h
  obtain ⟨x1, hx1, h⟩ := h
  refine z_callS (pc := 1) (As := [.int p2]) (rest := []) (wr := (wX7 g a0 r0 s0)) C dX7_writeOnly_1 ml_RX7_217 wt_J6_bitCount_0f7a4 (m_J6_bitCount_0f7a4 hg hx1) [] [0, 1, 2, 3] rfl rfl ⟨by decide, by decide⟩ (Nat.le_of_ble_eq_true rfl) ⟨by decide, by decide⟩ rfl rfl rfl rfl (by decide) (ex_k C (cs' := 0) (ss' := 0) (wF := (wX7 g a0 r0 s0)) [0, 1, 2, 3] rfl rfl ?_)
  refine z_iconst (pc := 4) C dX7_writeOnly_4 ic_1 ?_
  refine z_icmp_ne (pc := 5) C dX7_writeOnly_5 (tgt := 12) (by decide) (fun hc => ?_) (fun hc => ?_)
  · replace h := (ite_e h).2 hc
    refine z_iconst (pc := 12) C dX7_writeOnly_12 ic_0 ?_
    exact m_X7_writeOnly_13 (a0 := a0) (r0 := r0) hg C X (0 : Int32) s0 h
  · replace h := (ite_e h).1 hc
    refine z_iconst (pc := 8) C dX7_writeOnly_8 ic_1 ?_
    refine z_goto (pc := 9) C dX7_writeOnly_9 (tgt := 13) (by decide) ?_
    exact m_X7_writeOnly_13 (a0 := a0) (r0 := r0) hg C X (1 : Int32) s0 h
def f_X7_writeHand_74 (N : Nat) (s1 : Ob) (s2 : Ob) (p1 : Int32) (p2 : Int32) (k12 : Int32 → Ob → Option (Int32 × Ob)) (v3 : Int32) (v5 : Int32) (s0 : Ob) : Option (Int32 × Ob) := (ob (f_X7_colorsIn N v5) fun x5 => (ob (f_X7_writeOnly N s0 (97 : Int32) x5) fun x6 => (ob (f_X7_ranksIn N v5) fun x7 => (ob (f_X7_writeOnly N x6 (49 : Int32) x7) fun x8 => (k12 (v3 + (1 : Int32)) x8)))))
theorem m_X7_writeHand_74 {K : Kt} {g : Gp} {a0 : Nat} {r0 : Nat → Nat} {r1 : Nat → Nat} {q1_0 : Nat} {r2 : Nat → Nat} {N : Nat} {s1 : Ob} {s2 : Ob} {p1 : Int32} {p2 : Int32} {res : Int32 × Ob} (hg : Ok g) (C : Cx K g cX7_writeHand RX7 6 (zrm 2 44)) (X : Rx K (exR (some (.int res.1)) (wX7 g a0 r0 res.2 ++ wX1 g (r0 3) r1 q1_0 s1 ++ wX5 g q1_0 r2 s2)) 0 0 (some .int)) {k12 : Int32 → Ob → Option (Int32 × Ob)} (hk12 : ∀ (v3 : Int32) (s0 : Ob), k12 v3 s0 = some res → Zs K 0 0 (wX7 g a0 r0 s0 ++ wX1 g (r0 3) r1 q1_0 s1 ++ wX5 g q1_0 r2 s2) [(0, .ref a0), (1, .int p1), (2, .int p2), (3, .int v3)] 12 []) (v3 : Int32) (v5 : Int32) (s0 : Ob) (h : f_X7_writeHand_74 N s1 s2 p1 p2 k12 v3 v5 s0 = some res) : Zs K 0 0 (wX7 g a0 r0 s0 ++ wX1 g (r0 3) r1 q1_0 s1 ++ wX5 g q1_0 r2 s2) [(0, .ref a0), (1, .int p1), (2, .int p2), (3, .int v3), (5, .int v5)] 74 [] := by
  unfold f_X7_writeHand_74 at h
  refine z_aload_n (pc := 74) (x := a0) C dX7_writeHand_74 (i := 0) rfl rfl ?_
  refine z_bipush (pc := 75) C dX7_writeHand_75 bp_97 ?_
  refine z_iload (pc := 77) (x := v5) C dX7_writeHand_77 rfl ?_
  replace h := ob_e h
  obtain ⟨x5, hx5, h⟩ := h
  refine z_callS (pc := 79) (As := [.int v5]) (rest := [.int (97 : Int32), .ref a0]) (wr := (wX7 g a0 r0 s0 ++ wX1 g (r0 3) r1 q1_0 s1 ++ wX5 g q1_0 r2 s2)) C dX7_writeHand_79 ml_RX7_205 wt_X7_colorsIn (m_X7_colorsIn hg hx5) [] [0, 1, 2, 3, 4, 5, 6, 7, 8, 9, 10, 11, 12, 13, 14, 15, 16] rfl rfl ⟨by decide, by decide⟩ (Nat.le_of_ble_eq_true rfl) ⟨by decide, by decide⟩ rfl rfl rfl rfl (by decide) (ex_k C (cs' := 0) (ss' := 0) (wF := (wX7 g a0 r0 s0 ++ wX1 g (r0 3) r1 q1_0 s1 ++ wX5 g q1_0 r2 s2)) [0, 1, 2, 3, 4, 5, 6, 7, 8, 9, 10, 11, 12, 13, 14, 15, 16] rfl rfl ?_)
  replace h := ob_e h
  obtain ⟨x6, hx6, h⟩ := h
  refine z_callV (pc := 82) (As := [.int (97 : Int32), .int x5]) (rest := []) (wr := (wX1 g (r0 3) r1 q1_0 s1 ++ wX5 g q1_0 r2 s2)) C dX7_writeHand_82 ml_RX7_360 wv_X7_writeOnly (m_X7_writeOnly (a0 := a0) (r0 := r0) hg hx6) [0, 1, 2, 3] [4, 5, 6, 7, 8, 9, 10, 11, 12, 13, 14, 15, 16] rfl rfl ⟨by decide, by decide⟩ (Nat.le_of_ble_eq_true rfl) ⟨by decide, by decide⟩ rfl rfl rfl rfl rfl rfl rfl (by decide) (ex_k C (cs' := 0) (ss' := 0) (wF := (wX7 g a0 r0 x6 ++ wX1 g (r0 3) r1 q1_0 s1 ++ wX5 g q1_0 r2 s2)) [13, 14, 15, 16, 0, 1, 2, 3, 4, 5, 6, 7, 8, 9, 10, 11, 12] rfl rfl ?_)
  refine z_aload_n (pc := 85) (x := a0) C dX7_writeHand_85 (i := 0) rfl rfl ?_
  refine z_bipush (pc := 86) C dX7_writeHand_86 bp_49 ?_
  refine z_iload (pc := 88) (x := v5) C dX7_writeHand_88 rfl ?_
  replace h := ob_e h
  obtain ⟨x7, hx7, h⟩ := h
  refine z_callS (pc := 90) (As := [.int v5]) (rest := [.int (49 : Int32), .ref a0]) (wr := (wX7 g a0 r0 x6 ++ wX1 g (r0 3) r1 q1_0 s1 ++ wX5 g q1_0 r2 s2)) C dX7_writeHand_90 ml_RX7_208 wt_X7_ranksIn (m_X7_ranksIn hg hx7) [] [0, 1, 2, 3, 4, 5, 6, 7, 8, 9, 10, 11, 12, 13, 14, 15, 16] rfl rfl ⟨by decide, by decide⟩ (Nat.le_of_ble_eq_true rfl) ⟨by decide, by decide⟩ rfl rfl rfl rfl (by decide) (ex_k C (cs' := 0) (ss' := 0) (wF := (wX7 g a0 r0 x6 ++ wX1 g (r0 3) r1 q1_0 s1 ++ wX5 g q1_0 r2 s2)) [0, 1, 2, 3, 4, 5, 6, 7, 8, 9, 10, 11, 12, 13, 14, 15, 16] rfl rfl ?_)
  replace h := ob_e h
  obtain ⟨x8, hx8, h⟩ := h
  refine z_callV (pc := 93) (As := [.int (49 : Int32), .int x7]) (rest := []) (wr := (wX1 g (r0 3) r1 q1_0 s1 ++ wX5 g q1_0 r2 s2)) C dX7_writeHand_93 ml_RX7_360 wv_X7_writeOnly (m_X7_writeOnly (a0 := a0) (r0 := r0) hg hx8) [0, 1, 2, 3] [4, 5, 6, 7, 8, 9, 10, 11, 12, 13, 14, 15, 16] rfl rfl ⟨by decide, by decide⟩ (Nat.le_of_ble_eq_true rfl) ⟨by decide, by decide⟩ rfl rfl rfl rfl rfl rfl rfl (by decide) (ex_k C (cs' := 0) (ss' := 0) (wF := (wX7 g a0 r0 x8 ++ wX1 g (r0 3) r1 q1_0 s1 ++ wX5 g q1_0 r2 s2)) [13, 14, 15, 16, 0, 1, 2, 3, 4, 5, 6, 7, 8, 9, 10, 11, 12] rfl rfl ?_)
  refine z_iinc (pc := 96) C dX7_writeHand_96 rfl (inc_e 1 (1 : Int32) ic_1 v3) (by decide) (lv' := [(3, .int (v3 + (1 : Int32))), (0, .ref a0), (1, .int p1), (2, .int p2), (5, .int v5)]) rfl ?_
  refine z_goto (pc := 99) C dX7_writeHand_99 (tgt := 12) (by decide) ?_
  refine z_lv (lv' := [(0, .ref a0), (1, .int p1), (2, .int p2), (3, .int (v3 + (1 : Int32)))]) [1, 2, 3, 0] rfl ?_
  exact hk12 (v3 + (1 : Int32)) x8 h
def f_X7_writeHand_62 (N : Nat) (s1 : Ob) (s2 : Ob) (p1 : Int32) (p2 : Int32) (k12 : Int32 → Ob → Option (Int32 × Ob)) (v3 : Int32) (t0 : Int32) (s0 : Ob) : Option (Int32 × Ob) := (if v3 ≤ 0 then (f_X7_writeHand_74 N s1 s2 p1 p2 k12 v3 t0 s0) else (ob (f_X7_write N s0 (32 : Int32)) fun x9 => (f_X7_writeHand_74 N s1 s2 p1 p2 k12 v3 t0 x9)))
theorem m_X7_writeHand_62 {K : Kt} {g : Gp} {a0 : Nat} {r0 : Nat → Nat} {r1 : Nat → Nat} {q1_0 : Nat} {r2 : Nat → Nat} {N : Nat} {s1 : Ob} {s2 : Ob} {p1 : Int32} {p2 : Int32} {res : Int32 × Ob} (hg : Ok g) (C : Cx K g cX7_writeHand RX7 6 (zrm 2 44)) (X : Rx K (exR (some (.int res.1)) (wX7 g a0 r0 res.2 ++ wX1 g (r0 3) r1 q1_0 s1 ++ wX5 g q1_0 r2 s2)) 0 0 (some .int)) {k12 : Int32 → Ob → Option (Int32 × Ob)} (hk12 : ∀ (v3 : Int32) (s0 : Ob), k12 v3 s0 = some res → Zs K 0 0 (wX7 g a0 r0 s0 ++ wX1 g (r0 3) r1 q1_0 s1 ++ wX5 g q1_0 r2 s2) [(0, .ref a0), (1, .int p1), (2, .int p2), (3, .int v3)] 12 []) (v3 : Int32) (t0 : Int32) (s0 : Ob) (h : f_X7_writeHand_62 N s1 s2 p1 p2 k12 v3 t0 s0 = some res) : Zs K 0 0 (wX7 g a0 r0 s0 ++ wX1 g (r0 3) r1 q1_0 s1 ++ wX5 g q1_0 r2 s2) [(0, .ref a0), (1, .int p1), (2, .int p2), (3, .int v3)] 62 [.int t0] := by
  unfold f_X7_writeHand_62 at h
  refine z_istore (pc := 62) C dX7_writeHand_62 (by decide) (lv' := [(5, .int t0), (0, .ref a0), (1, .int p1), (2, .int p2), (3, .int v3)]) rfl ?_
  refine z_iload_n (pc := 64) (x := v3) C dX7_writeHand_64 (i := 3) rfl rfl ?_
  refine z_if_le (pc := 65) C dX7_writeHand_65 (tgt := 74) (by decide) (fun hc => ?_) (fun hc => ?_)
  · replace h := (ite_e h).1 hc
    refine z_lv (lv' := [(0, .ref a0), (1, .int p1), (2, .int p2), (3, .int v3), (5, .int t0)]) [1, 2, 3, 4, 0] rfl ?_
    exact m_X7_writeHand_74 (a0 := a0) (r0 := r0) (r1 := r1) (q1_0 := q1_0) (r2 := r2) hg C X hk12 v3 t0 s0 h
  · replace h := (ite_e h).2 hc
    refine z_aload_n (pc := 68) (x := a0) C dX7_writeHand_68 (i := 0) rfl rfl ?_
    refine z_bipush (pc := 69) C dX7_writeHand_69 bp_32 ?_
    replace h := ob_e h
    obtain ⟨x9, hx9, h⟩ := h
    refine z_callV (pc := 71) (As := [.int (32 : Int32)]) (rest := []) (wr := (wX1 g (r0 3) r1 q1_0 s1 ++ wX5 g q1_0 r2 s2)) C dX7_writeHand_71 ml_RX7_357 wv_X7_write (m_X7_write (a0 := a0) (r0 := r0) hg hx9) [0, 1, 2, 3] [4, 5, 6, 7, 8, 9, 10, 11, 12, 13, 14, 15, 16] rfl rfl ⟨by decide, by decide⟩ (Nat.le_of_ble_eq_true rfl) ⟨by decide, by decide⟩ rfl rfl rfl rfl rfl rfl rfl (by decide) (ex_k C (cs' := 0) (ss' := 0) (wF := (wX7 g a0 r0 x9 ++ wX1 g (r0 3) r1 q1_0 s1 ++ wX5 g q1_0 r2 s2)) [13, 14, 15, 16, 0, 1, 2, 3, 4, 5, 6, 7, 8, 9, 10, 11, 12] rfl rfl ?_)
    refine z_lv (lv' := [(0, .ref a0), (1, .int p1), (2, .int p2), (3, .int v3), (5, .int t0)]) [1, 2, 3, 4, 0] rfl ?_
    exact m_X7_writeHand_74 (a0 := a0) (r0 := r0) (r1 := r1) (q1_0 := q1_0) (r2 := r2) hg C X hk12 v3 t0 x9 h
def F_X7_writeHand_12 (N : Nat) (s1 : Ob) (s2 : Ob) (p1 : Int32) (p2 : Int32)  (k12 : Int32 → Ob → Option (Int32 × Ob)) (v3 : Int32) (s0 : Ob) : Option (Int32 × Ob) := (ob (f_X1_sizeOf N s1 p1) fun x2 => (if x2 ≤ v3 then (some ((s0.1 14), s0)) else (ob (f_X1_cardAt N s1 p1 v3) fun x3 => (if p2 = 0 then (ob (f_X1_kindsLeftFor N s1 x3) fun x4 => (f_X7_writeHand_62 N s1 s2 p1 p2 k12 v3 x4 s0)) else (ob (f_X1_kindOf N s1 s2 x3) fun x10 => (f_X7_writeHand_62 N s1 s2 p1 p2 k12 v3 ((1 : Int32) <<< (x10 &&& 31)) s0))))))
def f_X7_writeHand_12 (N : Nat) (s1 : Ob) (s2 : Ob) (p1 : Int32) (p2 : Int32)  : Nat → Int32 → Ob → Option (Int32 × Ob) := zlp (fun _ _ => none) (F_X7_writeHand_12 N s1 s2 p1 p2)
theorem m_X7_writeHand_12 {K : Kt} {g : Gp} {a0 : Nat} {r0 : Nat → Nat} {r1 : Nat → Nat} {q1_0 : Nat} {r2 : Nat → Nat} {N : Nat} {s1 : Ob} {s2 : Ob} {p1 : Int32} {p2 : Int32} {res : Int32 × Ob} (hg : Ok g) (C : Cx K g cX7_writeHand RX7 6 (zrm 2 44)) (X : Rx K (exR (some (.int res.1)) (wX7 g a0 r0 res.2 ++ wX1 g (r0 3) r1 q1_0 s1 ++ wX5 g q1_0 r2 s2)) 0 0 (some .int)) : ∀ (n : Nat) (v3 : Int32) (s0 : Ob), f_X7_writeHand_12 N s1 s2 p1 p2 n v3 s0 = some res → Zs K 0 0 (wX7 g a0 r0 s0 ++ wX1 g (r0 3) r1 q1_0 s1 ++ wX5 g q1_0 r2 s2) [(0, .ref a0), (1, .int p1), (2, .int p2), (3, .int v3)] 12 [] := by
  intro n
  induction n with
  | zero => intro v3 s0 h; exact nomatch (show (none : Option (Int32 × Ob)) = some res from h)
  | succ n hk12 =>
    intro v3 s0 h
    replace h : F_X7_writeHand_12 N s1 s2 p1 p2 (f_X7_writeHand_12 N s1 s2 p1 p2 n) v3 s0 = some res := h
    unfold F_X7_writeHand_12 at h
    refine z_iload_n (pc := 12) (x := v3) C dX7_writeHand_12 (i := 3) rfl rfl ?_
    refine z_aload_n (pc := 13) (x := a0) C dX7_writeHand_13 (i := 0) rfl rfl ?_
    refine z_get (pc := 14) (v := .ref (r0 3)) C 0 dX7_writeHand_14 fl_RX7_67 rfl rfl ?_
    refine z_iload_n (pc := 17) (x := p1) C dX7_writeHand_17 (i := 1) rfl rfl ?_
    replace h := ob_e h
    obtain ⟨x2, hx2, h⟩ := h
    refine z_callV (pc := 18) (As := [.int p1]) (rest := [.int v3]) (wr := (wX7 g a0 r0 s0 ++ wX5 g q1_0 r2 s2)) C dX7_writeHand_18 ml_RX7_167 wv_X1_sizeOf (m_X1_sizeOf (a0 := (r0 3)) (r0 := r1) (q0_0 := q1_0) hg hx2) [4, 5, 6, 7, 8, 9, 10, 11, 12] [0, 1, 2, 3, 13, 14, 15, 16] rfl rfl ⟨by decide, by decide⟩ (Nat.le_of_ble_eq_true rfl) ⟨by decide, by decide⟩ rfl rfl rfl rfl rfl rfl rfl (by decide) (ex_k C (cs' := 0) (ss' := 0) (wF := (wX7 g a0 r0 s0 ++ wX1 g (r0 3) r1 q1_0 s1 ++ wX5 g q1_0 r2 s2)) [0, 1, 2, 3, 8, 9, 10, 11, 12, 13, 14, 15, 16, 4, 5, 6, 7] rfl rfl ?_)
    refine z_icmp_ge (pc := 21) C dX7_writeHand_21 (tgt := 102) (by decide) (fun hc => ?_) (fun hc => ?_)
    · replace h := (ite_e h).1 hc
      refine z_aload_n (pc := 102) (x := a0) C dX7_writeHand_102 (i := 0) rfl rfl ?_
      refine z_get (pc := 103) (v := .int (s0.1 14)) C 0 dX7_writeHand_103 fl_RX7_351 rfl rfl ?_
      exact z_iret C X dX7_writeHand_106 (by rw [← Option.some.inj h]; exact ⟨rfl, rfl⟩) (by decide) (by decide)
    · replace h := (ite_e h).2 hc
      refine z_aload_n (pc := 24) (x := a0) C dX7_writeHand_24 (i := 0) rfl rfl ?_
      refine z_get (pc := 25) (v := .ref (r0 3)) C 0 dX7_writeHand_25 fl_RX7_67 rfl rfl ?_
      refine z_iload_n (pc := 28) (x := p1) C dX7_writeHand_28 (i := 1) rfl rfl ?_
      refine z_iload_n (pc := 29) (x := v3) C dX7_writeHand_29 (i := 3) rfl rfl ?_
      replace h := ob_e h
      obtain ⟨x3, hx3, h⟩ := h
      refine z_callV (pc := 30) (As := [.int p1, .int v3]) (rest := []) (wr := (wX7 g a0 r0 s0 ++ wX5 g q1_0 r2 s2)) C dX7_writeHand_30 ml_RX7_354 wv_X1_cardAt (m_X1_cardAt (a0 := (r0 3)) (r0 := r1) (q0_0 := q1_0) hg hx3) [4, 5, 6, 7, 8, 9, 10, 11, 12] [0, 1, 2, 3, 13, 14, 15, 16] rfl rfl ⟨by decide, by decide⟩ (Nat.le_of_ble_eq_true rfl) ⟨by decide, by decide⟩ rfl rfl rfl rfl rfl rfl rfl (by decide) (ex_k C (cs' := 0) (ss' := 0) (wF := (wX7 g a0 r0 s0 ++ wX1 g (r0 3) r1 q1_0 s1 ++ wX5 g q1_0 r2 s2)) [0, 1, 2, 3, 8, 9, 10, 11, 12, 13, 14, 15, 16, 4, 5, 6, 7] rfl rfl ?_)
      refine z_istore (pc := 33) C dX7_writeHand_33 (by decide) (lv' := [(4, .int x3), (0, .ref a0), (1, .int p1), (2, .int p2), (3, .int v3)]) rfl ?_
      refine z_iload_n (pc := 35) (x := p2) C dX7_writeHand_35 (i := 2) rfl rfl ?_
      refine z_if_eq (pc := 36) C dX7_writeHand_36 (tgt := 53) (by decide) (fun hc => ?_) (fun hc => ?_)
      · replace h := (ite_e h).1 hc
        refine z_aload_n (pc := 53) (x := a0) C dX7_writeHand_53 (i := 0) rfl rfl ?_
        refine z_get (pc := 54) (v := .ref (r0 3)) C 0 dX7_writeHand_54 fl_RX7_67 rfl rfl ?_
        refine z_iload (pc := 57) (x := x3) C dX7_writeHand_57 rfl ?_
        replace h := ob_e h
        obtain ⟨x4, hx4, h⟩ := h
        refine z_callV (pc := 59) (As := [.int x3]) (rest := []) (wr := (wX7 g a0 r0 s0 ++ wX5 g q1_0 r2 s2)) C dX7_writeHand_59 ml_RX7_202 wv_X1_kindsLeftFor (m_X1_kindsLeftFor (a0 := (r0 3)) (r0 := r1) (q0_0 := q1_0) hg hx4) [4, 5, 6, 7, 8, 9, 10, 11, 12] [0, 1, 2, 3, 13, 14, 15, 16] rfl rfl ⟨by decide, by decide⟩ (Nat.le_of_ble_eq_true rfl) ⟨by decide, by decide⟩ rfl rfl rfl rfl rfl rfl rfl (by decide) (ex_k C (cs' := 0) (ss' := 0) (wF := (wX7 g a0 r0 s0 ++ wX1 g (r0 3) r1 q1_0 s1 ++ wX5 g q1_0 r2 s2)) [0, 1, 2, 3, 8, 9, 10, 11, 12, 13, 14, 15, 16, 4, 5, 6, 7] rfl rfl ?_)
        refine z_lv (lv' := [(0, .ref a0), (1, .int p1), (2, .int p2), (3, .int v3)]) [1, 2, 3, 4] rfl ?_
        exact m_X7_writeHand_62 (a0 := a0) (r0 := r0) (r1 := r1) (q1_0 := q1_0) (r2 := r2) hg C X hk12 v3 x4 s0 h
      · replace h := (ite_e h).2 hc
        refine z_iconst (pc := 39) C dX7_writeHand_39 ic_1 ?_
        refine z_aload_n (pc := 40) (x := a0) C dX7_writeHand_40 (i := 0) rfl rfl ?_
        refine z_get (pc := 41) (v := .ref (r0 3)) C 0 dX7_writeHand_41 fl_RX7_67 rfl rfl ?_
        refine z_iload (pc := 44) (x := x3) C dX7_writeHand_44 rfl ?_
        replace h := ob_e h
        obtain ⟨x10, hx10, h⟩ := h
        refine z_callV (pc := 46) (As := [.int x3]) (rest := [.int (1 : Int32)]) (wr := (wX7 g a0 r0 s0)) C dX7_writeHand_46 ml_RX7_174 wv_X1_kindOf (m_X1_kindOf (a0 := (r0 3)) (r0 := r1) (q0_0 := q1_0) (r1 := r2) hg hx10) [4, 5, 6, 7, 8, 9, 10, 11, 12, 13, 14, 15, 16] [0, 1, 2, 3] rfl rfl ⟨by decide, by decide⟩ (Nat.le_of_ble_eq_true rfl) ⟨by decide, by decide⟩ rfl rfl rfl rfl rfl rfl rfl (by decide) (ex_k C (cs' := 0) (ss' := 0) (wF := (wX7 g a0 r0 s0 ++ wX1 g (r0 3) r1 q1_0 s1 ++ wX5 g q1_0 r2 s2)) [0, 1, 2, 3, 4, 5, 6, 7, 8, 9, 10, 11, 12, 13, 14, 15, 16] rfl rfl ?_)
        refine z_ishl (pc := 49) C dX7_writeHand_49 ?_
        refine z_goto (pc := 50) C dX7_writeHand_50 (tgt := 62) (by decide) ?_
        refine z_lv (lv' := [(0, .ref a0), (1, .int p1), (2, .int p2), (3, .int v3)]) [1, 2, 3, 4] rfl ?_
        exact m_X7_writeHand_62 (a0 := a0) (r0 := r0) (r1 := r1) (q1_0 := q1_0) (r2 := r2) hg C X hk12 v3 ((1 : Int32) <<< (x10 &&& 31)) s0 h
def f_X7_writeHand (N : Nat) (s0 : Ob) (s1 : Ob) (s2 : Ob) (p1 : Int32) (p2 : Int32) : Option (Int32 × Ob) := (ob (f_X7_needPlayer N s0 s1 s2 p1) fun x1 => (f_X7_writeHand_12 N s1 s2 p1 p2 N (0 : Int32) (si s0 14 (0 : Int32))))
theorem m_X7_writeHand {g : Gp} {a0 : Nat} {r0 : Nat → Nat} {r1 : Nat → Nat} {q1_0 : Nat} {r2 : Nat → Nat} {N : Nat} {s0 : Ob} {s1 : Ob} {s2 : Ob} {p1 : Int32} {p2 : Int32} {res : Int32 × Ob} (hg : Ok g) (h : f_X7_writeHand N s0 s1 s2 p1 p2 = some res) : Ct g yX7_writeHand cX7_writeHand 6 (some .int) (zrm 2 44) [.ref a0, .int p1, .int p2] (wX7 g a0 r0 s0 ++ wX1 g (r0 3) r1 q1_0 s1 ++ wX5 g q1_0 r2 s2) (exR (some (.int res.1)) (wX7 g a0 r0 res.2 ++ wX1 g (r0 3) r1 q1_0 s1 ++ wX5 g q1_0 r2 s2)) := by
  refine ct_of rfl hg (by show _ ≤ _; exact Nat.le_of_ble_eq_true rfl) (fun K C X => ?_)
  show Zs K 0 0 (wX7 g a0 r0 s0 ++ wX1 g (r0 3) r1 q1_0 s1 ++ wX5 g q1_0 r2 s2) [(0, .ref a0), (1, .int p1), (2, .int p2)] 0 []
  unfold f_X7_writeHand at h
  refine z_aload_n (pc := 0) (x := a0) C dX7_writeHand_0 (i := 0) rfl rfl ?_
  refine z_iload_n (pc := 1) (x := p1) C dX7_writeHand_1 (i := 1) rfl rfl ?_
  replace h := ob_e h
  obtain ⟨x1, hx1, h⟩ := h
  refine z_callV (pc := 2) (As := [.int p1]) (rest := []) (wr := ([] : va_W)) C dX7_writeHand_2 ml_RX7_164 wv_X7_needPlayer (m_X7_needPlayer (a0 := a0) (r0 := r0) (r1 := r1) (q1_0 := q1_0) (r2 := r2) hg hx1) [0, 1, 2, 3, 4, 5, 6, 7, 8, 9, 10, 11, 12, 13, 14, 15, 16] [] rfl rfl ⟨by decide, by decide⟩ (Nat.le_of_ble_eq_true rfl) ⟨by decide, by decide⟩ rfl rfl rfl rfl rfl rfl rfl (by decide) (ex_k C (cs' := 0) (ss' := 0) (wF := (wX7 g a0 r0 s0 ++ wX1 g (r0 3) r1 q1_0 s1 ++ wX5 g q1_0 r2 s2)) [0, 1, 2, 3, 4, 5, 6, 7, 8, 9, 10, 11, 12, 13, 14, 15, 16] rfl rfl ?_)
  refine z_aload_n (pc := 5) (x := a0) C dX7_writeHand_5 (i := 0) rfl rfl ?_
  refine z_iconst (pc := 6) C dX7_writeHand_6 ic_0 ?_
  refine z_put (pc := 7) C 0 dX7_writeHand_7 fp_RX7_351 rfl rfl rfl (zlt_b rfl) (ws' := (wX7 g a0 r0 (si s0 14 (0 : Int32)) ++ wX1 g (r0 3) r1 q1_0 s1 ++ wX5 g q1_0 r2 s2)) rfl ?_
  refine z_iconst (pc := 10) C dX7_writeHand_10 ic_0 ?_
  refine z_istore_n (pc := 11) C dX7_writeHand_11 (i := 3) rfl (by decide) (lv' := [(3, .int (0 : Int32)), (0, .ref a0), (1, .int p1), (2, .int p2)]) rfl ?_
  refine z_lv (lv' := [(0, .ref a0), (1, .int p1), (2, .int p2), (3, .int (0 : Int32))]) [1, 2, 3, 0] rfl ?_
  exact m_X7_writeHand_12 (a0 := a0) (r0 := r0) (r1 := r1) (q1_0 := q1_0) (r2 := r2) hg C X N (0 : Int32) (si s0 14 (0 : Int32)) h
def f_X7_outputByte (N : Nat) (s0 : Ob) (p1 : Int32) : Option (Int32) := (if p1 < 0 then (some (-1 : Int32)) else (if (s0.1 14) ≤ p1 then (some (-1 : Int32)) else (if p1 < (15 : Int32) then (chk (inb p1 15) (some ((s0.2.2.1 13) (p1).toNatClampNeg))) else (some (-1 : Int32)))))
theorem m_X7_outputByte {g : Gp} {a0 : Nat} {r0 : Nat → Nat} {N : Nat} {s0 : Ob} {p1 : Int32} {res : Int32} (hg : Ok g) (h : f_X7_outputByte N s0 p1 = some res) : Ct g yX7_outputByte cX7_outputByte 2 (some .int) (zrm 0 0) [.ref a0, .int p1] (wX7 g a0 r0 s0) (exR (some (.int res)) (wX7 g a0 r0 s0)) := by
  refine ct_of rfl hg (by show _ ≤ _; exact Nat.le_of_ble_eq_true rfl) (fun K C X => ?_)
  show Zs K 0 0 (wX7 g a0 r0 s0) [(0, .ref a0), (1, .int p1)] 0 []
  unfold f_X7_outputByte at h
  refine z_iload_n (pc := 0) (x := p1) C dX7_outputByte_0 (i := 1) rfl rfl ?_
  refine z_if_lt (pc := 1) C dX7_outputByte_1 (tgt := 21) (by decide) (fun hc => ?_) (fun hc => ?_)
  · replace h := (ite_e h).1 hc
    refine z_iconst (pc := 21) C dX7_outputByte_21 ic_m1 ?_
    exact z_iret C X dX7_outputByte_22 (by rw [← Option.some.inj h]; exact ⟨rfl, rfl⟩) (by decide) (by decide)
  · replace h := (ite_e h).2 hc
    refine z_iload_n (pc := 4) (x := p1) C dX7_outputByte_4 (i := 1) rfl rfl ?_
    refine z_aload_n (pc := 5) (x := a0) C dX7_outputByte_5 (i := 0) rfl rfl ?_
    refine z_get (pc := 6) (v := .int (s0.1 14)) C 0 dX7_outputByte_6 fl_RX7_351 rfl rfl ?_
    refine z_icmp_ge (pc := 9) C dX7_outputByte_9 (tgt := 21) (by decide) (fun hc => ?_) (fun hc => ?_)
    · replace h := (ite_e h).1 hc
      refine z_iconst (pc := 21) C dX7_outputByte_21 ic_m1 ?_
      exact z_iret C X dX7_outputByte_22 (by rw [← Option.some.inj h]; exact ⟨rfl, rfl⟩) (by decide) (by decide)
    · replace h := (ite_e h).2 hc
      refine z_iload_n (pc := 12) (x := p1) C dX7_outputByte_12 (i := 1) rfl rfl ?_
      refine z_aload_n (pc := 13) (x := a0) C dX7_outputByte_13 (i := 0) rfl rfl ?_
      refine z_get (pc := 14) (v := .ref (r0 13)) C 0 dX7_outputByte_14 fl_RX7_58 rfl rfl ?_
      refine z_alen_int (pc := 17) (v := (15 : Int32)) C 3 dX7_outputByte_17 rfl (by decide) ?_
      refine z_icmp_lt (pc := 18) C dX7_outputByte_18 (tgt := 23) (by decide) (fun hc => ?_) (fun hc => ?_)
      · replace h := (ite_e h).1 hc
        refine z_aload_n (pc := 23) (x := a0) C dX7_outputByte_23 (i := 0) rfl rfl ?_
        refine z_get (pc := 24) (v := .ref (r0 13)) C 0 dX7_outputByte_24 fl_RX7_58 rfl rfl ?_
        refine z_iload_n (pc := 27) (x := p1) C dX7_outputByte_27 (i := 1) rfl rfl ?_
        replace h := chk_e h
        obtain ⟨hb1, h⟩ := h
        refine z_iald (pc := 28) C 3 dX7_outputByte_28 rfl hb1 ?_
        exact z_iret C X dX7_outputByte_29 (by rw [← Option.some.inj h]; exact ⟨rfl, rfl⟩) (by decide) (by decide)
      · replace h := (ite_e h).2 hc
        refine z_iconst (pc := 21) C dX7_outputByte_21 ic_m1 ?_
        exact z_iret C X dX7_outputByte_22 (by rw [← Option.some.inj h]; exact ⟨rfl, rfl⟩) (by decide) (by decide)
def f_X7_needSlot_9 (N : Nat) (s0 : Ob) (p1 : Int32)   : Option (Unit) := none
theorem m_X7_needSlot_9 {K : Kt} {g : Gp} {a0 : Nat} {r0 : Nat → Nat} {N : Nat} {s0 : Ob} {p1 : Int32} {res : Unit} (hg : Ok g) (C : Cx K g cX7_needSlot RX7 2 (zrm 0 0)) (X : Rx K (exR none (wX7 g a0 r0 s0)) 0 0 none)  (h : f_X7_needSlot_9 N s0 p1  = some res) : Zs K 0 0 (wX7 g a0 r0 s0) [] 9 [] := by
  unfold f_X7_needSlot_9 at h
  exact nomatch h
def f_X7_needSlot (N : Nat) (s0 : Ob) (p1 : Int32) : Option (Unit) := (if p1 < 0 then (f_X7_needSlot_9 N s0 p1 ) else (if p1 < (2 : Int32) then (some ()) else (f_X7_needSlot_9 N s0 p1 )))
theorem m_X7_needSlot {g : Gp} {a0 : Nat} {r0 : Nat → Nat} {N : Nat} {s0 : Ob} {p1 : Int32} {res : Unit} (hg : Ok g) (h : f_X7_needSlot N s0 p1 = some res) : Ct g yX7_needSlot cX7_needSlot 2 none (zrm 0 0) [.ref a0, .int p1] (wX7 g a0 r0 s0) (exR none (wX7 g a0 r0 s0)) := by
  refine ct_of rfl hg (by show _ ≤ _; exact Nat.le_of_ble_eq_true rfl) (fun K C X => ?_)
  show Zs K 0 0 (wX7 g a0 r0 s0) [(0, .ref a0), (1, .int p1)] 0 []
  unfold f_X7_needSlot at h
  refine z_iload_n (pc := 0) (x := p1) C dX7_needSlot_0 (i := 1) rfl rfl ?_
  refine z_if_lt (pc := 1) C dX7_needSlot_1 (tgt := 9) (by decide) (fun hc => ?_) (fun hc => ?_)
  · replace h := (ite_e h).1 hc
    refine z_lv (lv' := []) [] rfl ?_
    exact m_X7_needSlot_9 (a0 := a0) (r0 := r0) hg C X  h
  · replace h := (ite_e h).2 hc
    refine z_iload_n (pc := 4) (x := p1) C dX7_needSlot_4 (i := 1) rfl rfl ?_
    refine z_iconst (pc := 5) C dX7_needSlot_5 ic_2 ?_
    refine z_icmp_lt (pc := 6) C dX7_needSlot_6 (tgt := 20) (by decide) (fun hc => ?_) (fun hc => ?_)
    · replace h := (ite_e h).1 hc
      exact z_vret C X dX7_needSlot_20 ⟨rfl, rfl⟩ (by decide) (by decide)
    · replace h := (ite_e h).2 hc
      refine z_lv (lv' := []) [] rfl ?_
      exact m_X7_needSlot_9 (a0 := a0) (r0 := r0) hg C X  h
def f_X8_in (N : Nat) (p0 : Int32) (p1 : Int32) (p2 : Int32) : Option (Int32) := (if p0 < p1 then (some (0 : Int32)) else (if p2 < p0 then (some (0 : Int32)) else (some (1 : Int32))))
theorem m_X8_in {g : Gp}  {N : Nat} {p0 : Int32} {p1 : Int32} {p2 : Int32} {res : Int32} (hg : Ok g) (h : f_X8_in N p0 p1 p2 = some res) : Ct g yX8_in cX8_in 3 (some .boolean) (zrm 0 0) [.int p0, .int p1, .int p2] ([] : va_W) (exR (some (.int res)) ([] : va_W)) := by
  refine ct_of rfl hg (by show _ ≤ _; exact Nat.le_of_ble_eq_true rfl) (fun K C X => ?_)
  show Zs K 0 0 ([] : va_W) [(0, .int p0), (1, .int p1), (2, .int p2)] 0 []
  unfold f_X8_in at h
  refine z_iload_n (pc := 0) (x := p0) C dX8_in_0 (i := 0) rfl rfl ?_
  refine z_iload_n (pc := 1) (x := p1) C dX8_in_1 (i := 1) rfl rfl ?_
  refine z_icmp_lt (pc := 2) C dX8_in_2 (tgt := 14) (by decide) (fun hc => ?_) (fun hc => ?_)
  · replace h := (ite_e h).1 hc
    refine z_iconst (pc := 14) C dX8_in_14 ic_0 ?_
    exact z_zret C X dX8_in_15 rfl (by rw [← Option.some.inj h]; exact ⟨rfl, rfl⟩) (by decide) (by decide)
  · replace h := (ite_e h).2 hc
    refine z_iload_n (pc := 5) (x := p0) C dX8_in_5 (i := 0) rfl rfl ?_
    refine z_iload_n (pc := 6) (x := p2) C dX8_in_6 (i := 2) rfl rfl ?_
    refine z_icmp_gt (pc := 7) C dX8_in_7 (tgt := 14) (by decide) (fun hc => ?_) (fun hc => ?_)
    · replace h := (ite_e h).1 hc
      refine z_iconst (pc := 14) C dX8_in_14 ic_0 ?_
      exact z_zret C X dX8_in_15 rfl (by rw [← Option.some.inj h]; exact ⟨rfl, rfl⟩) (by decide) (by decide)
    · replace h := (ite_e h).2 hc
      refine z_iconst (pc := 10) C dX8_in_10 ic_1 ?_
      refine z_goto (pc := 11) C dX8_in_11 (tgt := 15) (by decide) ?_
      exact z_zret C X dX8_in_15 rfl (by rw [← Option.some.inj h]; exact ⟨rfl, rfl⟩) (by decide) (by decide)
def F_X8_copies_3 (N : Nat) (n0 : Nat) (n1 : Nat) (s0 : (Nat → Int32)) (p1 : Int32) (p3 : Int32)  (k3 : Int32 → (Nat → Int32) → Option ((Nat → Int32))) (v4 : Int32) (s1 : (Nat → Int32)) : Option ((Nat → Int32)) := (if (358 : Int32) ≤ v4 then (some s1) else (chk (inb (((358 : Int32) * p1) + v4) n0) (chk (inb (((358 : Int32) * p3) + v4) n1) (k3 (v4 + (1 : Int32)) (upd s1 ((((358 : Int32) * p3) + v4)).toNatClampNeg (s0 ((((358 : Int32) * p1) + v4)).toNatClampNeg))))))
def f_X8_copies_3 (N : Nat) (n0 : Nat) (n1 : Nat) (s0 : (Nat → Int32)) (p1 : Int32) (p3 : Int32)  : Nat → Int32 → (Nat → Int32) → Option ((Nat → Int32)) := zlp (fun _ _ => none) (F_X8_copies_3 N n0 n1 s0 p1 p3)
theorem m_X8_copies_3 {K : Kt} {g : Gp} {a0 : Nat} {a2 : Nat} {N : Nat} {n0 : Nat} {n1 : Nat} {s0 : (Nat → Int32)} {p1 : Int32} {p3 : Int32} {res : (Nat → Int32)} (hg : Ok g) (C : Cx K g cX8_copies RX8 5 (zrm 0 0)) (X : Rx K (exR none (wA g a0 n0 s0 ++ wA g a2 n1 res)) 0 0 none) : ∀ (n : Nat) (v4 : Int32) (s1 : (Nat → Int32)), f_X8_copies_3 N n0 n1 s0 p1 p3 n v4 s1 = some res → Zs K 0 0 (wA g a0 n0 s0 ++ wA g a2 n1 s1) [(0, .ref a0), (1, .int p1), (2, .ref a2), (3, .int p3), (4, .int v4)] 3 [] := by
  intro n
  induction n with
  | zero => intro v4 s1 h; exact nomatch (show (none : Option ((Nat → Int32))) = some res from h)
  | succ n hk3 =>
    intro v4 s1 h
    replace h : F_X8_copies_3 N n0 n1 s0 p1 p3 (f_X8_copies_3 N n0 n1 s0 p1 p3 n) v4 s1 = some res := h
    unfold F_X8_copies_3 at h
    refine z_iload (pc := 3) (x := v4) C dX8_copies_3 rfl ?_
    refine z_sipush (pc := 5) C dX8_copies_5 sp_358 ?_
    refine z_icmp_ge (pc := 8) C dX8_copies_8 (tgt := 37) (by decide) (fun hc => ?_) (fun hc => ?_)
    · replace h := (ite_e h).1 hc
      exact z_vret C X dX8_copies_37 (by rw [← Option.some.inj h]; exact ⟨rfl, rfl⟩) (by decide) (by decide)
    · replace h := (ite_e h).2 hc
      refine z_aload_n (pc := 11) (x := a2) C dX8_copies_11 (i := 2) rfl rfl ?_
      refine z_sipush (pc := 12) C dX8_copies_12 sp_358 ?_
      refine z_iload_n (pc := 15) (x := p3) C dX8_copies_15 (i := 3) rfl rfl ?_
      refine z_imul (pc := 16) C dX8_copies_16 ?_
      refine z_iload (pc := 17) (x := v4) C dX8_copies_17 rfl ?_
      refine z_iadd (pc := 19) C dX8_copies_19 ?_
      refine z_aload_n (pc := 20) (x := a0) C dX8_copies_20 (i := 0) rfl rfl ?_
      refine z_sipush (pc := 21) C dX8_copies_21 sp_358 ?_
      refine z_iload_n (pc := 24) (x := p1) C dX8_copies_24 (i := 1) rfl rfl ?_
      refine z_imul (pc := 25) C dX8_copies_25 ?_
      refine z_iload (pc := 26) (x := v4) C dX8_copies_26 rfl ?_
      refine z_iadd (pc := 28) C dX8_copies_28 ?_
      replace h := chk_e h
      obtain ⟨hb1, h⟩ := h
      refine z_iald (pc := 29) C 0 dX8_copies_29 rfl hb1 ?_
      replace h := chk_e h
      obtain ⟨hb2, h⟩ := h
      refine z_iast (pc := 30) C 1 dX8_copies_30 rfl hb2 (ws' := (wA g a0 n0 s0 ++ wA g a2 n1 (upd s1 ((((358 : Int32) * p3) + v4)).toNatClampNeg (s0 ((((358 : Int32) * p1) + v4)).toNatClampNeg)))) rfl ?_
      refine z_iinc (pc := 31) C dX8_copies_31 rfl (inc_e 1 (1 : Int32) ic_1 v4) (by decide) (lv' := [(4, .int (v4 + (1 : Int32))), (0, .ref a0), (1, .int p1), (2, .ref a2), (3, .int p3)]) rfl ?_
      refine z_goto (pc := 34) C dX8_copies_34 (tgt := 3) (by decide) ?_
      refine z_lv (lv' := [(0, .ref a0), (1, .int p1), (2, .ref a2), (3, .int p3), (4, .int (v4 + (1 : Int32)))]) [1, 2, 3, 4, 0] rfl ?_
      exact hk3 (v4 + (1 : Int32)) (upd s1 ((((358 : Int32) * p3) + v4)).toNatClampNeg (s0 ((((358 : Int32) * p1) + v4)).toNatClampNeg)) h
def f_X8_copies (N : Nat) (n0 : Nat) (n1 : Nat) (s0 : (Nat → Int32)) (s1 : (Nat → Int32)) (p1 : Int32) (p3 : Int32) : Option ((Nat → Int32)) := (f_X8_copies_3 N n0 n1 s0 p1 p3 N (0 : Int32) s1)
theorem m_X8_copies {g : Gp} {a0 : Nat} {a2 : Nat} {N : Nat} {n0 : Nat} {n1 : Nat} {s0 : (Nat → Int32)} {s1 : (Nat → Int32)} {p1 : Int32} {p3 : Int32} {res : (Nat → Int32)} (hg : Ok g) (h : f_X8_copies N n0 n1 s0 s1 p1 p3 = some res) : Ct g yX8_copies cX8_copies 5 none (zrm 0 0) [.ref a0, .int p1, .ref a2, .int p3] (wA g a0 n0 s0 ++ wA g a2 n1 s1) (exR none (wA g a0 n0 s0 ++ wA g a2 n1 res)) := by
  refine ct_of rfl hg (by show _ ≤ _; exact Nat.le_of_ble_eq_true rfl) (fun K C X => ?_)
  show Zs K 0 0 (wA g a0 n0 s0 ++ wA g a2 n1 s1) [(0, .ref a0), (1, .int p1), (2, .ref a2), (3, .int p3)] 0 []
  unfold f_X8_copies at h
  refine z_iconst (pc := 0) C dX8_copies_0 ic_0 ?_
  refine z_istore (pc := 1) C dX8_copies_1 (by decide) (lv' := [(4, .int (0 : Int32)), (0, .ref a0), (1, .int p1), (2, .ref a2), (3, .int p3)]) rfl ?_
  refine z_lv (lv' := [(0, .ref a0), (1, .int p1), (2, .ref a2), (3, .int p3), (4, .int (0 : Int32))]) [1, 2, 3, 4, 0] rfl ?_
  exact m_X8_copies_3 (a0 := a0) (a2 := a2) hg C X N (0 : Int32) s1 h
