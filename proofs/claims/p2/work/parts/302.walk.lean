/-! OWN, written by wip/whole/tools/mkall.py: walks over strings, and of methods that throw -/
def ft_X7_needWord_57 (N : Nat) (s0 : Ob) (s1 : Ob) (s2 : Ob) (p1 : Int32) (p2 : Int32)  (v3 : Int32) (t0 : Int32) : Option (Nat) := (if v3 = 0 then (if t0 = 0 then (some 2) else none) else none)
theorem mt_X7_needWord_57 {K : Kt} {g : Gp} {a0 : Nat} {r0 : Nat → Nat} {r1 : Nat → Nat} {q1_0 : Nat} {r2 : Nat → Nat} {N : Nat} {s0 : Ob} {s1 : Ob} {s2 : Ob} {p1 : Int32} {p2 : Int32} {res : Nat} (hg : Ok g) (C : Cx K g cX7_needWord RX7 5 (zrt 6 82)) (T : Tt K (xn res) (wX7 g a0 r0 s0 ++ wX1 g (r0 3) r1 q1_0 s1 ++ wX5 g q1_0 r2 s2) 1 6) (v3 : Int32) (t0 : Int32) (h : ft_X7_needWord_57 N s0 s1 s2 p1 p2 v3 t0 = some res) : Zs K 0 0 (wX7 g a0 r0 s0 ++ wX1 g (r0 3) r1 q1_0 s1 ++ wX5 g q1_0 r2 s2) [(3, .int v3)] 57 [.int t0] := by
  unfold ft_X7_needWord_57 at h
  refine z_istore (pc := 57) C dX7_needWord_57 (by decide) (lv' := [(4, .int t0), (3, .int v3)]) rfl ?_
  refine z_iload_n (pc := 59) (x := v3) C dX7_needWord_59 (i := 3) rfl rfl ?_
  refine z_if_ne (pc := 60) C dX7_needWord_60 (tgt := 79) (by decide) (fun hc => ?_) (fun hc => ?_)
  · replace h := (ite_e h).2 hc
    exact nomatch h
  · replace h := (ite_e h).1 hc
    refine z_iload (pc := 63) (x := t0) C dX7_needWord_63 rfl ?_
    refine z_if_ne (pc := 65) C dX7_needWord_65 (tgt := 79) (by decide) (fun hc => ?_) (fun hc => ?_)
    · replace h := (ite_e h).2 hc
      exact nomatch h
    · replace h := (ite_e h).1 hc
      replace h := Option.some.inj h
      subst h
      exact z_thrW (pc := 68) (E := "java/lang/IllegalArgumentException") C T xok_2 (by decide +kernel) wx_RX7_138_142 (str_RX7_373 hg).1 dX7_needWord_68 dX7_needWord_71 dX7_needWord_72 dX7_needWord_75 dX7_needWord_78 (by decide) (Nat.le_of_ble_eq_true rfl) (by decide) (by decide) (by decide) (by decide)
def ft_X7_needWord_56 (N : Nat) (s0 : Ob) (s1 : Ob) (s2 : Ob) (p1 : Int32) (p2 : Int32)  (v3 : Int32) : Option (Nat) := (ft_X7_needWord_57 N s0 s1 s2 p1 p2 v3 (0 : Int32))
theorem mt_X7_needWord_56 {K : Kt} {g : Gp} {a0 : Nat} {r0 : Nat → Nat} {r1 : Nat → Nat} {q1_0 : Nat} {r2 : Nat → Nat} {N : Nat} {s0 : Ob} {s1 : Ob} {s2 : Ob} {p1 : Int32} {p2 : Int32} {res : Nat} (hg : Ok g) (C : Cx K g cX7_needWord RX7 5 (zrt 6 82)) (T : Tt K (xn res) (wX7 g a0 r0 s0 ++ wX1 g (r0 3) r1 q1_0 s1 ++ wX5 g q1_0 r2 s2) 1 6) (v3 : Int32) (h : ft_X7_needWord_56 N s0 s1 s2 p1 p2 v3 = some res) : Zs K 0 0 (wX7 g a0 r0 s0 ++ wX1 g (r0 3) r1 q1_0 s1 ++ wX5 g q1_0 r2 s2) [(3, .int v3)] 56 [] := by
  unfold ft_X7_needWord_56 at h
  refine z_iconst (pc := 56) C dX7_needWord_56 ic_0 ?_
  exact mt_X7_needWord_57 (a0 := a0) (r0 := r0) (r1 := r1) (q1_0 := q1_0) (r2 := r2) hg C T v3 (0 : Int32) h
def ft_X7_needWord_27 (N : Nat) (s0 : Ob) (s1 : Ob) (s2 : Ob) (p1 : Int32) (p2 : Int32)  (t0 : Int32) : Option (Nat) := (if p1 = (1 : Int32) then (if p2 < (1 : Int32) then (ft_X7_needWord_56 N s0 s1 s2 p1 p2 t0) else (if (s2.1 1) < p2 then (ft_X7_needWord_56 N s0 s1 s2 p1 p2 t0) else (ft_X7_needWord_57 N s0 s1 s2 p1 p2 t0 (1 : Int32)))) else (ft_X7_needWord_56 N s0 s1 s2 p1 p2 t0))
theorem mt_X7_needWord_27 {K : Kt} {g : Gp} {a0 : Nat} {r0 : Nat → Nat} {r1 : Nat → Nat} {q1_0 : Nat} {r2 : Nat → Nat} {N : Nat} {s0 : Ob} {s1 : Ob} {s2 : Ob} {p1 : Int32} {p2 : Int32} {res : Nat} (hg : Ok g) (C : Cx K g cX7_needWord RX7 5 (zrt 6 82)) (T : Tt K (xn res) (wX7 g a0 r0 s0 ++ wX1 g (r0 3) r1 q1_0 s1 ++ wX5 g q1_0 r2 s2) 1 6) (t0 : Int32) (h : ft_X7_needWord_27 N s0 s1 s2 p1 p2 t0 = some res) : Zs K 0 0 (wX7 g a0 r0 s0 ++ wX1 g (r0 3) r1 q1_0 s1 ++ wX5 g q1_0 r2 s2) [(0, .ref a0), (1, .int p1), (2, .int p2)] 27 [.int t0] := by
  unfold ft_X7_needWord_27 at h
  refine z_istore_n (pc := 27) C dX7_needWord_27 (i := 3) rfl (by decide) (lv' := [(3, .int t0), (0, .ref a0), (1, .int p1), (2, .int p2)]) rfl ?_
  refine z_iload_n (pc := 28) (x := p1) C dX7_needWord_28 (i := 1) rfl rfl ?_
  refine z_iconst (pc := 29) C dX7_needWord_29 ic_1 ?_
  refine z_icmp_ne (pc := 30) C dX7_needWord_30 (tgt := 56) (by decide) (fun hc => ?_) (fun hc => ?_)
  · replace h := (ite_e h).2 hc
    refine z_lv (lv' := [(3, .int t0)]) [0] rfl ?_
    exact mt_X7_needWord_56 (a0 := a0) (r0 := r0) (r1 := r1) (q1_0 := q1_0) (r2 := r2) hg C T t0 h
  · replace h := (ite_e h).1 hc
    refine z_iload_n (pc := 33) (x := p2) C dX7_needWord_33 (i := 2) rfl rfl ?_
    refine z_iconst (pc := 34) C dX7_needWord_34 ic_1 ?_
    refine z_icmp_lt (pc := 35) C dX7_needWord_35 (tgt := 56) (by decide) (fun hc => ?_) (fun hc => ?_)
    · replace h := (ite_e h).1 hc
      refine z_lv (lv' := [(3, .int t0)]) [0] rfl ?_
      exact mt_X7_needWord_56 (a0 := a0) (r0 := r0) (r1 := r1) (q1_0 := q1_0) (r2 := r2) hg C T t0 h
    · replace h := (ite_e h).2 hc
      refine z_iload_n (pc := 38) (x := p2) C dX7_needWord_38 (i := 2) rfl rfl ?_
      refine z_aload_n (pc := 39) (x := a0) C dX7_needWord_39 (i := 0) rfl rfl ?_
      refine z_get (pc := 40) (v := .ref (r0 3)) C 0 dX7_needWord_40 fl_RX7_67 rfl rfl ?_
      refine z_get (pc := 43) (v := .ref q1_0) C 4 dX7_needWord_43 fl_RX7_100 rfl rfl ?_
      refine z_get (pc := 46) (v := .int (s2.1 1)) C 13 dX7_needWord_46 fl_RX7_110 rfl rfl ?_
      refine z_icmp_gt (pc := 49) C dX7_needWord_49 (tgt := 56) (by decide) (fun hc => ?_) (fun hc => ?_)
      · replace h := (ite_e h).1 hc
        refine z_lv (lv' := [(3, .int t0)]) [0] rfl ?_
        exact mt_X7_needWord_56 (a0 := a0) (r0 := r0) (r1 := r1) (q1_0 := q1_0) (r2 := r2) hg C T t0 h
      · replace h := (ite_e h).2 hc
        refine z_iconst (pc := 52) C dX7_needWord_52 ic_1 ?_
        refine z_goto (pc := 53) C dX7_needWord_53 (tgt := 57) (by decide) ?_
        refine z_lv (lv' := [(3, .int t0)]) [0] rfl ?_
        exact mt_X7_needWord_57 (a0 := a0) (r0 := r0) (r1 := r1) (q1_0 := q1_0) (r2 := r2) hg C T t0 (1 : Int32) h
def ft_X7_needWord_26 (N : Nat) (s0 : Ob) (s1 : Ob) (s2 : Ob) (p1 : Int32) (p2 : Int32)   : Option (Nat) := (ft_X7_needWord_27 N s0 s1 s2 p1 p2 (0 : Int32))
theorem mt_X7_needWord_26 {K : Kt} {g : Gp} {a0 : Nat} {r0 : Nat → Nat} {r1 : Nat → Nat} {q1_0 : Nat} {r2 : Nat → Nat} {N : Nat} {s0 : Ob} {s1 : Ob} {s2 : Ob} {p1 : Int32} {p2 : Int32} {res : Nat} (hg : Ok g) (C : Cx K g cX7_needWord RX7 5 (zrt 6 82)) (T : Tt K (xn res) (wX7 g a0 r0 s0 ++ wX1 g (r0 3) r1 q1_0 s1 ++ wX5 g q1_0 r2 s2) 1 6)  (h : ft_X7_needWord_26 N s0 s1 s2 p1 p2  = some res) : Zs K 0 0 (wX7 g a0 r0 s0 ++ wX1 g (r0 3) r1 q1_0 s1 ++ wX5 g q1_0 r2 s2) [(0, .ref a0), (1, .int p1), (2, .int p2)] 26 [] := by
  unfold ft_X7_needWord_26 at h
  refine z_iconst (pc := 26) C dX7_needWord_26 ic_0 ?_
  exact mt_X7_needWord_27 (a0 := a0) (r0 := r0) (r1 := r1) (q1_0 := q1_0) (r2 := r2) hg C T (0 : Int32) h
def ft_X7_needWord (N : Nat) (s0 : Ob) (s1 : Ob) (s2 : Ob) (p1 : Int32) (p2 : Int32) : Option (Nat) := (if p1 = 0 then (if p2 < 0 then (ft_X7_needWord_26 N s0 s1 s2 p1 p2 ) else (if (s2.1 0) ≤ p2 then (ft_X7_needWord_26 N s0 s1 s2 p1 p2 ) else (ft_X7_needWord_27 N s0 s1 s2 p1 p2 (1 : Int32)))) else (ft_X7_needWord_26 N s0 s1 s2 p1 p2 ))
theorem mt_X7_needWord {g : Gp} {a0 : Nat} {r0 : Nat → Nat} {r1 : Nat → Nat} {q1_0 : Nat} {r2 : Nat → Nat} {N : Nat} {s0 : Ob} {s1 : Ob} {s2 : Ob} {p1 : Int32} {p2 : Int32} {res : Nat} (hg : Ok g) (h : ft_X7_needWord N s0 s1 s2 p1 p2 = some res) : Tx g yX7_needWord cX7_needWord 5 none (zrt 6 82) [.ref a0, .int p1, .int p2] (wX7 g a0 r0 s0 ++ wX1 g (r0 3) r1 q1_0 s1 ++ wX5 g q1_0 r2 s2) (xn res) := by
  refine tx_of rfl hg (by show _ ≤ _; exact Nat.le_of_ble_eq_true rfl) (fun K C T => ?_)
  show Zs K 0 0 (wX7 g a0 r0 s0 ++ wX1 g (r0 3) r1 q1_0 s1 ++ wX5 g q1_0 r2 s2) [(0, .ref a0), (1, .int p1), (2, .int p2)] 0 []
  unfold ft_X7_needWord at h
  refine z_iload_n (pc := 0) (x := p1) C dX7_needWord_0 (i := 1) rfl rfl ?_
  refine z_if_ne (pc := 1) C dX7_needWord_1 (tgt := 26) (by decide) (fun hc => ?_) (fun hc => ?_)
  · replace h := (ite_e h).2 hc
    exact mt_X7_needWord_26 (a0 := a0) (r0 := r0) (r1 := r1) (q1_0 := q1_0) (r2 := r2) hg C T  h
  · replace h := (ite_e h).1 hc
    refine z_iload_n (pc := 4) (x := p2) C dX7_needWord_4 (i := 2) rfl rfl ?_
    refine z_if_lt (pc := 5) C dX7_needWord_5 (tgt := 26) (by decide) (fun hc => ?_) (fun hc => ?_)
    · replace h := (ite_e h).1 hc
      exact mt_X7_needWord_26 (a0 := a0) (r0 := r0) (r1 := r1) (q1_0 := q1_0) (r2 := r2) hg C T  h
    · replace h := (ite_e h).2 hc
      refine z_iload_n (pc := 8) (x := p2) C dX7_needWord_8 (i := 2) rfl rfl ?_
      refine z_aload_n (pc := 9) (x := a0) C dX7_needWord_9 (i := 0) rfl rfl ?_
      refine z_get (pc := 10) (v := .ref (r0 3)) C 0 dX7_needWord_10 fl_RX7_67 rfl rfl ?_
      refine z_get (pc := 13) (v := .ref q1_0) C 4 dX7_needWord_13 fl_RX7_100 rfl rfl ?_
      refine z_get (pc := 16) (v := .int (s2.1 0)) C 13 dX7_needWord_16 fl_RX7_107 rfl rfl ?_
      refine z_icmp_ge (pc := 19) C dX7_needWord_19 (tgt := 26) (by decide) (fun hc => ?_) (fun hc => ?_)
      · replace h := (ite_e h).1 hc
        exact mt_X7_needWord_26 (a0 := a0) (r0 := r0) (r1 := r1) (q1_0 := q1_0) (r2 := r2) hg C T  h
      · replace h := (ite_e h).2 hc
        refine z_iconst (pc := 22) C dX7_needWord_22 ic_1 ?_
        refine z_goto (pc := 23) C dX7_needWord_23 (tgt := 27) (by decide) ?_
        exact mt_X7_needWord_27 (a0 := a0) (r0 := r0) (r1 := r1) (q1_0 := q1_0) (r2 := r2) hg C T (1 : Int32) h
def ft_X7_wordsLeft (N : Nat) (s0 : Ob) (s1 : Ob) (s2 : Ob) (p1 : Int32) (p2 : Int32) : Option (Nat) := (tb (f_X7_needWord N s0 s1 s2 p1 p2) (ft_X7_needWord N s0 s1 s2 p1 p2) fun x1 => (ob (f_X1_timesLeft N s1 p1 p2) fun x2 => none))
theorem mt_X7_wordsLeft {g : Gp} {a0 : Nat} {r0 : Nat → Nat} {r1 : Nat → Nat} {q1_0 : Nat} {r2 : Nat → Nat} {N : Nat} {s0 : Ob} {s1 : Ob} {s2 : Ob} {p1 : Int32} {p2 : Int32} {res : Nat} (hg : Ok g) (h : ft_X7_wordsLeft N s0 s1 s2 p1 p2 = some res) : Tx g yX7_wordsLeft cX7_wordsLeft 3 (some .int) (zrt 7 106) [.ref a0, .int p1, .int p2] (wX7 g a0 r0 s0 ++ wX1 g (r0 3) r1 q1_0 s1 ++ wX5 g q1_0 r2 s2) (xn res) := by
  refine tx_of rfl hg (by show _ ≤ _; exact Nat.le_of_ble_eq_true rfl) (fun K C T => ?_)
  show Zs K 0 0 (wX7 g a0 r0 s0 ++ wX1 g (r0 3) r1 q1_0 s1 ++ wX5 g q1_0 r2 s2) [(0, .ref a0), (1, .int p1), (2, .int p2)] 0 []
  unfold ft_X7_wordsLeft at h
  refine z_aload_n (pc := 0) (x := a0) C dX7_wordsLeft_0 (i := 0) rfl rfl ?_
  refine z_iload_n (pc := 1) (x := p1) C dX7_wordsLeft_1 (i := 1) rfl rfl ?_
  refine z_iload_n (pc := 2) (x := p2) C dX7_wordsLeft_2 (i := 2) rfl rfl ?_
  rcases tb_e h with ⟨x1, hx1, h⟩ | h
  · refine z_callV (pc := 3) (As := [.int p1, .int p2]) (rest := []) (wr := ([] : va_W)) C dX7_wordsLeft_3 ml_RX7_235 wv_X7_needWord (m_X7_needWord (a0 := a0) (r0 := r0) (r1 := r1) (q1_0 := q1_0) (r2 := r2) hg hx1) [0, 1, 2, 3, 4, 5, 6, 7, 8, 9, 10, 11, 12, 13, 14, 15, 16] [] rfl rfl ⟨by decide, by decide⟩ (Nat.le_of_ble_eq_true rfl) ⟨by decide, by decide⟩ rfl rfl rfl rfl rfl rfl rfl (by decide) (ex_k C (cs' := 0) (ss' := 0) (wF := (wX7 g a0 r0 s0 ++ wX1 g (r0 3) r1 q1_0 s1 ++ wX5 g q1_0 r2 s2)) [0, 1, 2, 3, 4, 5, 6, 7, 8, 9, 10, 11, 12, 13, 14, 15, 16] rfl rfl ?_)
    refine z_aload_n (pc := 6) (x := a0) C dX7_wordsLeft_6 (i := 0) rfl rfl ?_
    refine z_get (pc := 7) (v := .ref (r0 3)) C 0 dX7_wordsLeft_7 fl_RX7_67 rfl rfl ?_
    refine z_iload_n (pc := 10) (x := p1) C dX7_wordsLeft_10 (i := 1) rfl rfl ?_
    refine z_iload_n (pc := 11) (x := p2) C dX7_wordsLeft_11 (i := 2) rfl rfl ?_
    replace h := ob_e h
    obtain ⟨x2, hx2, h⟩ := h
    refine z_callV (pc := 12) (As := [.int p1, .int p2]) (rest := []) (wr := (wX7 g a0 r0 s0 ++ wX5 g q1_0 r2 s2)) C dX7_wordsLeft_12 ml_RX7_239 wv_X1_timesLeft (m_X1_timesLeft (a0 := (r0 3)) (r0 := r1) (q0_0 := q1_0) hg hx2) [4, 5, 6, 7, 8, 9, 10, 11, 12] [0, 1, 2, 3, 13, 14, 15, 16] rfl rfl ⟨by decide, by decide⟩ (Nat.le_of_ble_eq_true rfl) ⟨by decide, by decide⟩ rfl rfl rfl rfl rfl rfl rfl (by decide) (ex_k C (cs' := 0) (ss' := 0) (wF := (wX7 g a0 r0 s0 ++ wX1 g (r0 3) r1 q1_0 s1 ++ wX5 g q1_0 r2 s2)) [0, 1, 2, 3, 8, 9, 10, 11, 12, 13, 14, 15, 16, 4, 5, 6, 7] rfl rfl ?_)
    exact nomatch h
  · exact z_callVT (pc := 3) (As := [.int p1, .int p2]) (rest := []) (wr := ([] : va_W)) C T dX7_wordsLeft_3 ml_RX7_235 wv_X7_needWord (mt_X7_needWord (a0 := a0) (r0 := r0) (r1 := r1) (q1_0 := q1_0) (r2 := r2) hg h) [0, 1, 2, 3, 4, 5, 6, 7, 8, 9, 10, 11, 12, 13, 14, 15, 16] [] [0, 1, 2, 3, 4, 5, 6, 7, 8, 9, 10, 11, 12, 13, 14, 15, 16] rfl rfl ⟨by decide, by decide⟩ (Nat.le_of_ble_eq_true rfl) ⟨by decide, by decide⟩ rfl rfl rfl rfl rfl rfl rfl (by decide) rfl (by decide) (by decide)
def ft_X7_touches (N : Nat) (s0 : Ob) (s1 : Ob) (s2 : Ob) (p1 : Int32) (p2 : Int32) (p3 : Int32) : Option (Nat) := (tb (f_X7_needPlayer N s0 s1 s2 p1) (ft_X7_needPlayer N s0 s1 s2 p1) fun x1 => (tb (f_X7_needWord N s0 s1 s2 p2 p3) (ft_X7_needWord N s0 s1 s2 p2 p3) fun x2 => (ob (f_X7_kindsOfWord N p2 p3) fun x3 => (ob (f_X1_touchedPlaces N s1 s2 p1 x3) fun x4 => none))))
theorem mt_X7_touches {g : Gp} {a0 : Nat} {r0 : Nat → Nat} {r1 : Nat → Nat} {q1_0 : Nat} {r2 : Nat → Nat} {N : Nat} {s0 : Ob} {s1 : Ob} {s2 : Ob} {p1 : Int32} {p2 : Int32} {p3 : Int32} {res : Nat} (hg : Ok g) (h : ft_X7_touches N s0 s1 s2 p1 p2 p3 = some res) : Tx g yX7_touches cX7_touches 4 (some .int) (zrt 7 106) [.ref a0, .int p1, .int p2, .int p3] (wX7 g a0 r0 s0 ++ wX1 g (r0 3) r1 q1_0 s1 ++ wX5 g q1_0 r2 s2) (xn res) := by
  refine tx_of rfl hg (by show _ ≤ _; exact Nat.le_of_ble_eq_true rfl) (fun K C T => ?_)
  show Zs K 0 0 (wX7 g a0 r0 s0 ++ wX1 g (r0 3) r1 q1_0 s1 ++ wX5 g q1_0 r2 s2) [(0, .ref a0), (1, .int p1), (2, .int p2), (3, .int p3)] 0 []
  unfold ft_X7_touches at h
  refine z_aload_n (pc := 0) (x := a0) C dX7_touches_0 (i := 0) rfl rfl ?_
  refine z_iload_n (pc := 1) (x := p1) C dX7_touches_1 (i := 1) rfl rfl ?_
  rcases tb_e h with ⟨x1, hx1, h⟩ | h
  · refine z_callV (pc := 2) (As := [.int p1]) (rest := []) (wr := ([] : va_W)) C dX7_touches_2 ml_RX7_164 wv_X7_needPlayer (m_X7_needPlayer (a0 := a0) (r0 := r0) (r1 := r1) (q1_0 := q1_0) (r2 := r2) hg hx1) [0, 1, 2, 3, 4, 5, 6, 7, 8, 9, 10, 11, 12, 13, 14, 15, 16] [] rfl rfl ⟨by decide, by decide⟩ (Nat.le_of_ble_eq_true rfl) ⟨by decide, by decide⟩ rfl rfl rfl rfl rfl rfl rfl (by decide) (ex_k C (cs' := 0) (ss' := 0) (wF := (wX7 g a0 r0 s0 ++ wX1 g (r0 3) r1 q1_0 s1 ++ wX5 g q1_0 r2 s2)) [0, 1, 2, 3, 4, 5, 6, 7, 8, 9, 10, 11, 12, 13, 14, 15, 16] rfl rfl ?_)
    refine z_aload_n (pc := 5) (x := a0) C dX7_touches_5 (i := 0) rfl rfl ?_
    refine z_iload_n (pc := 6) (x := p2) C dX7_touches_6 (i := 2) rfl rfl ?_
    refine z_iload_n (pc := 7) (x := p3) C dX7_touches_7 (i := 3) rfl rfl ?_
    rcases tb_e h with ⟨x2, hx2, h⟩ | h
    · refine z_callV (pc := 8) (As := [.int p2, .int p3]) (rest := []) (wr := ([] : va_W)) C dX7_touches_8 ml_RX7_235 wv_X7_needWord (m_X7_needWord (a0 := a0) (r0 := r0) (r1 := r1) (q1_0 := q1_0) (r2 := r2) hg hx2) [0, 1, 2, 3, 4, 5, 6, 7, 8, 9, 10, 11, 12, 13, 14, 15, 16] [] rfl rfl ⟨by decide, by decide⟩ (Nat.le_of_ble_eq_true rfl) ⟨by decide, by decide⟩ rfl rfl rfl rfl rfl rfl rfl (by decide) (ex_k C (cs' := 0) (ss' := 0) (wF := (wX7 g a0 r0 s0 ++ wX1 g (r0 3) r1 q1_0 s1 ++ wX5 g q1_0 r2 s2)) [0, 1, 2, 3, 4, 5, 6, 7, 8, 9, 10, 11, 12, 13, 14, 15, 16] rfl rfl ?_)
      refine z_aload_n (pc := 11) (x := a0) C dX7_touches_11 (i := 0) rfl rfl ?_
      refine z_get (pc := 12) (v := .ref (r0 3)) C 0 dX7_touches_12 fl_RX7_67 rfl rfl ?_
      refine z_iload_n (pc := 15) (x := p1) C dX7_touches_15 (i := 1) rfl rfl ?_
      refine z_iload_n (pc := 16) (x := p2) C dX7_touches_16 (i := 2) rfl rfl ?_
      refine z_iload_n (pc := 17) (x := p3) C dX7_touches_17 (i := 3) rfl rfl ?_
      replace h := ob_e h
      obtain ⟨x3, hx3, h⟩ := h
      refine z_callS (pc := 18) (As := [.int p2, .int p3]) (rest := [.int p1, .ref (r0 3)]) (wr := (wX7 g a0 r0 s0 ++ wX1 g (r0 3) r1 q1_0 s1 ++ wX5 g q1_0 r2 s2)) C dX7_touches_18 ml_RX7_242 wt_X7_kindsOfWord (m_X7_kindsOfWord hg hx3) [] [0, 1, 2, 3, 4, 5, 6, 7, 8, 9, 10, 11, 12, 13, 14, 15, 16] rfl rfl ⟨by decide, by decide⟩ (Nat.le_of_ble_eq_true rfl) ⟨by decide, by decide⟩ rfl rfl rfl rfl (by decide) (ex_k C (cs' := 0) (ss' := 0) (wF := (wX7 g a0 r0 s0 ++ wX1 g (r0 3) r1 q1_0 s1 ++ wX5 g q1_0 r2 s2)) [0, 1, 2, 3, 4, 5, 6, 7, 8, 9, 10, 11, 12, 13, 14, 15, 16] rfl rfl ?_)
      replace h := ob_e h
      obtain ⟨x4, hx4, h⟩ := h
      refine z_callV (pc := 21) (As := [.int p1, .int x3]) (rest := []) (wr := (wX7 g a0 r0 s0)) C dX7_touches_21 ml_RX7_245 wv_X1_touchedPlaces (m_X1_touchedPlaces (a0 := (r0 3)) (r0 := r1) (q0_0 := q1_0) (r1 := r2) hg hx4) [4, 5, 6, 7, 8, 9, 10, 11, 12, 13, 14, 15, 16] [0, 1, 2, 3] rfl rfl ⟨by decide, by decide⟩ (Nat.le_of_ble_eq_true rfl) ⟨by decide, by decide⟩ rfl rfl rfl rfl rfl rfl rfl (by decide) (ex_k C (cs' := 0) (ss' := 0) (wF := (wX7 g a0 r0 s0 ++ wX1 g (r0 3) r1 q1_0 s1 ++ wX5 g q1_0 r2 s2)) [0, 1, 2, 3, 4, 5, 6, 7, 8, 9, 10, 11, 12, 13, 14, 15, 16] rfl rfl ?_)
      exact nomatch h
    · exact z_callVT (pc := 8) (As := [.int p2, .int p3]) (rest := []) (wr := ([] : va_W)) C T dX7_touches_8 ml_RX7_235 wv_X7_needWord (mt_X7_needWord (a0 := a0) (r0 := r0) (r1 := r1) (q1_0 := q1_0) (r2 := r2) hg h) [0, 1, 2, 3, 4, 5, 6, 7, 8, 9, 10, 11, 12, 13, 14, 15, 16] [] [0, 1, 2, 3, 4, 5, 6, 7, 8, 9, 10, 11, 12, 13, 14, 15, 16] rfl rfl ⟨by decide, by decide⟩ (Nat.le_of_ble_eq_true rfl) ⟨by decide, by decide⟩ rfl rfl rfl rfl rfl rfl rfl (by decide) rfl (by decide) (by decide)
  · exact z_callVT (pc := 2) (As := [.int p1]) (rest := []) (wr := ([] : va_W)) C T dX7_touches_2 ml_RX7_164 wv_X7_needPlayer (mt_X7_needPlayer (a0 := a0) (r0 := r0) (r1 := r1) (q1_0 := q1_0) (r2 := r2) hg h) [0, 1, 2, 3, 4, 5, 6, 7, 8, 9, 10, 11, 12, 13, 14, 15, 16] [] [0, 1, 2, 3, 4, 5, 6, 7, 8, 9, 10, 11, 12, 13, 14, 15, 16] rfl rfl ⟨by decide, by decide⟩ (Nat.le_of_ble_eq_true rfl) ⟨by decide, by decide⟩ rfl rfl rfl rfl rfl rfl rfl (by decide) rfl (by decide) (by decide)
def ft_X7_tells (N : Nat) (s0 : Ob) (s1 : Ob) (s2 : Ob) (p1 : Int32) (p2 : Int32) (p3 : Int32) : Option (Nat) := (tb (f_X7_needPlayer N s0 s1 s2 p1) (ft_X7_needPlayer N s0 s1 s2 p1) fun x1 => (tb (f_X7_needWord N s0 s1 s2 p2 p3) (ft_X7_needWord N s0 s1 s2 p2 p3) fun x2 => none))
theorem mt_X7_tells {g : Gp} {a0 : Nat} {r0 : Nat → Nat} {r1 : Nat → Nat} {q1_0 : Nat} {r2 : Nat → Nat} {N : Nat} {s0 : Ob} {s1 : Ob} {s2 : Ob} {p1 : Int32} {p2 : Int32} {p3 : Int32} {res : Nat} (hg : Ok g) (h : ft_X7_tells N s0 s1 s2 p1 p2 p3 = some res) : Tx g yX7_tells cX7_tells 4 (some .int) (zrt 7 106) [.ref a0, .int p1, .int p2, .int p3] (wX7 g a0 r0 s0 ++ wX1 g (r0 3) r1 q1_0 s1 ++ wX5 g q1_0 r2 s2) (xn res) := by
  refine tx_of rfl hg (by show _ ≤ _; exact Nat.le_of_ble_eq_true rfl) (fun K C T => ?_)
  show Zs K 0 0 (wX7 g a0 r0 s0 ++ wX1 g (r0 3) r1 q1_0 s1 ++ wX5 g q1_0 r2 s2) [(0, .ref a0), (1, .int p1), (2, .int p2), (3, .int p3)] 0 []
  unfold ft_X7_tells at h
  refine z_aload_n (pc := 0) (x := a0) C dX7_tells_0 (i := 0) rfl rfl ?_
  refine z_iload_n (pc := 1) (x := p1) C dX7_tells_1 (i := 1) rfl rfl ?_
  rcases tb_e h with ⟨x1, hx1, h⟩ | h
  · refine z_callV (pc := 2) (As := [.int p1]) (rest := []) (wr := ([] : va_W)) C dX7_tells_2 ml_RX7_164 wv_X7_needPlayer (m_X7_needPlayer (a0 := a0) (r0 := r0) (r1 := r1) (q1_0 := q1_0) (r2 := r2) hg hx1) [0, 1, 2, 3, 4, 5, 6, 7, 8, 9, 10, 11, 12, 13, 14, 15, 16] [] rfl rfl ⟨by decide, by decide⟩ (Nat.le_of_ble_eq_true rfl) ⟨by decide, by decide⟩ rfl rfl rfl rfl rfl rfl rfl (by decide) (ex_k C (cs' := 0) (ss' := 0) (wF := (wX7 g a0 r0 s0 ++ wX1 g (r0 3) r1 q1_0 s1 ++ wX5 g q1_0 r2 s2)) [0, 1, 2, 3, 4, 5, 6, 7, 8, 9, 10, 11, 12, 13, 14, 15, 16] rfl rfl ?_)
    refine z_aload_n (pc := 5) (x := a0) C dX7_tells_5 (i := 0) rfl rfl ?_
    refine z_iload_n (pc := 6) (x := p2) C dX7_tells_6 (i := 2) rfl rfl ?_
    refine z_iload_n (pc := 7) (x := p3) C dX7_tells_7 (i := 3) rfl rfl ?_
    rcases tb_e h with ⟨x2, hx2, h⟩ | h
    · refine z_callV (pc := 8) (As := [.int p2, .int p3]) (rest := []) (wr := ([] : va_W)) C dX7_tells_8 ml_RX7_235 wv_X7_needWord (m_X7_needWord (a0 := a0) (r0 := r0) (r1 := r1) (q1_0 := q1_0) (r2 := r2) hg hx2) [0, 1, 2, 3, 4, 5, 6, 7, 8, 9, 10, 11, 12, 13, 14, 15, 16] [] rfl rfl ⟨by decide, by decide⟩ (Nat.le_of_ble_eq_true rfl) ⟨by decide, by decide⟩ rfl rfl rfl rfl rfl rfl rfl (by decide) (ex_k C (cs' := 0) (ss' := 0) (wF := (wX7 g a0 r0 s0 ++ wX1 g (r0 3) r1 q1_0 s1 ++ wX5 g q1_0 r2 s2)) [0, 1, 2, 3, 4, 5, 6, 7, 8, 9, 10, 11, 12, 13, 14, 15, 16] rfl rfl ?_)
      refine z_aload_n (pc := 11) (x := a0) C dX7_tells_11 (i := 0) rfl rfl ?_
      refine z_get (pc := 12) (v := .ref (r0 10)) C 0 dX7_tells_12 fl_RX7_38 rfl rfl ?_
      refine z_aload_n (pc := 15) (x := a0) C dX7_tells_15 (i := 0) rfl rfl ?_
      refine z_get (pc := 16) (v := .ref (r0 3)) C 0 dX7_tells_16 fl_RX7_67 rfl rfl ?_
      refine z_iload_n (pc := 19) (x := p1) C dX7_tells_19 (i := 1) rfl rfl ?_
      refine z_aload_n (pc := 20) (x := a0) C dX7_tells_20 (i := 0) rfl rfl ?_
      refine z_get (pc := 21) (v := .ref (r0 10)) C 0 dX7_tells_21 fl_RX7_38 rfl rfl ?_
      refine z_aload_n (pc := 24) (x := a0) C dX7_tells_24 (i := 0) rfl rfl ?_
      refine z_get (pc := 25) (v := .ref (r0 3)) C 0 dX7_tells_25 fl_RX7_67 rfl rfl ?_
      refine z_iload_n (pc := 28) (x := p1) C dX7_tells_28 (i := 1) rfl rfl ?_
      exact nomatch h
    · exact z_callVT (pc := 8) (As := [.int p2, .int p3]) (rest := []) (wr := ([] : va_W)) C T dX7_tells_8 ml_RX7_235 wv_X7_needWord (mt_X7_needWord (a0 := a0) (r0 := r0) (r1 := r1) (q1_0 := q1_0) (r2 := r2) hg h) [0, 1, 2, 3, 4, 5, 6, 7, 8, 9, 10, 11, 12, 13, 14, 15, 16] [] [0, 1, 2, 3, 4, 5, 6, 7, 8, 9, 10, 11, 12, 13, 14, 15, 16] rfl rfl ⟨by decide, by decide⟩ (Nat.le_of_ble_eq_true rfl) ⟨by decide, by decide⟩ rfl rfl rfl rfl rfl rfl rfl (by decide) rfl (by decide) (by decide)
  · exact z_callVT (pc := 2) (As := [.int p1]) (rest := []) (wr := ([] : va_W)) C T dX7_tells_2 ml_RX7_164 wv_X7_needPlayer (mt_X7_needPlayer (a0 := a0) (r0 := r0) (r1 := r1) (q1_0 := q1_0) (r2 := r2) hg h) [0, 1, 2, 3, 4, 5, 6, 7, 8, 9, 10, 11, 12, 13, 14, 15, 16] [] [0, 1, 2, 3, 4, 5, 6, 7, 8, 9, 10, 11, 12, 13, 14, 15, 16] rfl rfl ⟨by decide, by decide⟩ (Nat.le_of_ble_eq_true rfl) ⟨by decide, by decide⟩ rfl rfl rfl rfl rfl rfl rfl (by decide) rfl (by decide) (by decide)
def ft_X7_play (N : Nat) (s0 : Ob) (s1 : Ob) (s2 : Ob) (p1 : Int32) : Option (Nat) := (ob (f_X1_isEnded N s1 s2) fun x1 => (if x1 = 0 then (tb (f_X7_needCard N s0 s1 s2 (s1.1 4) p1) (ft_X7_needCard N s0 s1 s2 (s1.1 4) p1) fun x2 => none) else none))
theorem mt_X7_play {g : Gp} {a0 : Nat} {r0 : Nat → Nat} {r1 : Nat → Nat} {q1_0 : Nat} {r2 : Nat → Nat} {N : Nat} {s0 : Ob} {s1 : Ob} {s2 : Ob} {p1 : Int32} {res : Nat} (hg : Ok g) (h : ft_X7_play N s0 s1 s2 p1 = some res) : Tx g yX7_play cX7_play 2 (some .int) (zrt 8 126) [.ref a0, .int p1] (wX7 g a0 r0 s0 ++ wX1 g (r0 3) r1 q1_0 s1 ++ wX5 g q1_0 r2 s2) (xn res) := by
  refine tx_of rfl hg (by show _ ≤ _; exact Nat.le_of_ble_eq_true rfl) (fun K C T => ?_)
  show Zs K 0 0 (wX7 g a0 r0 s0 ++ wX1 g (r0 3) r1 q1_0 s1 ++ wX5 g q1_0 r2 s2) [(0, .ref a0), (1, .int p1)] 0 []
  unfold ft_X7_play at h
  refine z_aload_n (pc := 0) (x := a0) C dX7_play_0 (i := 0) rfl rfl ?_
  refine z_get (pc := 1) (v := .ref (r0 3)) C 0 dX7_play_1 fl_RX7_67 rfl rfl ?_
  replace h := ob_e h
  obtain ⟨x1, hx1, h⟩ := h
  refine z_callV (pc := 4) (As := []) (rest := []) (wr := (wX7 g a0 r0 s0)) C dX7_play_4 ml_RX7_145 wv_X1_isEnded (m_X1_isEnded (a0 := (r0 3)) (r0 := r1) (q0_0 := q1_0) (r1 := r2) hg hx1) [4, 5, 6, 7, 8, 9, 10, 11, 12, 13, 14, 15, 16] [0, 1, 2, 3] rfl rfl ⟨by decide, by decide⟩ (Nat.le_of_ble_eq_true rfl) ⟨by decide, by decide⟩ rfl rfl rfl rfl rfl rfl rfl (by decide) (ex_k C (cs' := 0) (ss' := 0) (wF := (wX7 g a0 r0 s0 ++ wX1 g (r0 3) r1 q1_0 s1 ++ wX5 g q1_0 r2 s2)) [0, 1, 2, 3, 4, 5, 6, 7, 8, 9, 10, 11, 12, 13, 14, 15, 16] rfl rfl ?_)
  refine z_if_eq (pc := 7) C dX7_play_7 (tgt := 13) (by decide) (fun hc => ?_) (fun hc => ?_)
  · replace h := (ite_e h).1 hc
    refine z_aload_n (pc := 13) (x := a0) C dX7_play_13 (i := 0) rfl rfl ?_
    refine z_aload_n (pc := 14) (x := a0) C dX7_play_14 (i := 0) rfl rfl ?_
    refine z_get (pc := 15) (v := .ref (r0 3)) C 0 dX7_play_15 fl_RX7_67 rfl rfl ?_
    refine z_get (pc := 18) (v := .int (s1.1 4)) C 4 dX7_play_18 fl_RX7_149 rfl rfl ?_
    refine z_iload_n (pc := 21) (x := p1) C dX7_play_21 (i := 1) rfl rfl ?_
    rcases tb_e h with ⟨x2, hx2, h⟩ | h
    · refine z_callV (pc := 22) (As := [.int (s1.1 4), .int p1]) (rest := []) (wr := ([] : va_W)) C dX7_play_22 ml_RX7_170 wv_X7_needCard (m_X7_needCard (a0 := a0) (r0 := r0) (r1 := r1) (q1_0 := q1_0) (r2 := r2) hg hx2) [0, 1, 2, 3, 4, 5, 6, 7, 8, 9, 10, 11, 12, 13, 14, 15, 16] [] rfl rfl ⟨by decide, by decide⟩ (Nat.le_of_ble_eq_true rfl) ⟨by decide, by decide⟩ rfl rfl rfl rfl rfl rfl rfl (by decide) (ex_k C (cs' := 0) (ss' := 0) (wF := (wX7 g a0 r0 s0 ++ wX1 g (r0 3) r1 q1_0 s1 ++ wX5 g q1_0 r2 s2)) [0, 1, 2, 3, 4, 5, 6, 7, 8, 9, 10, 11, 12, 13, 14, 15, 16] rfl rfl ?_)
      refine z_pop (pc := 25) C dX7_play_25 rfl ?_
      refine z_aload_n (pc := 26) (x := a0) C dX7_play_26 (i := 0) rfl rfl ?_
      exact nomatch h
    · exact z_callVT (pc := 22) (As := [.int (s1.1 4), .int p1]) (rest := []) (wr := ([] : va_W)) C T dX7_play_22 ml_RX7_170 wv_X7_needCard (mt_X7_needCard (a0 := a0) (r0 := r0) (r1 := r1) (q1_0 := q1_0) (r2 := r2) hg h) [0, 1, 2, 3, 4, 5, 6, 7, 8, 9, 10, 11, 12, 13, 14, 15, 16] [] [0, 1, 2, 3, 4, 5, 6, 7, 8, 9, 10, 11, 12, 13, 14, 15, 16] rfl rfl ⟨by decide, by decide⟩ (Nat.le_of_ble_eq_true rfl) ⟨by decide, by decide⟩ rfl rfl rfl rfl rfl rfl rfl (by decide) rfl (by decide) (by decide)
  · replace h := (ite_e h).2 hc
    refine z_bipush (pc := 10) C dX7_play_10 bp_m3 ?_
    exact nomatch h
def ft_X7_discard (N : Nat) (s0 : Ob) (s1 : Ob) (s2 : Ob) (p1 : Int32) : Option (Nat) := (ob (f_X1_isEnded N s1 s2) fun x1 => (if x1 = 0 then (tb (f_X7_needCard N s0 s1 s2 (s1.1 4) p1) (ft_X7_needCard N s0 s1 s2 (s1.1 4) p1) fun x2 => none) else none))
theorem mt_X7_discard {g : Gp} {a0 : Nat} {r0 : Nat → Nat} {r1 : Nat → Nat} {q1_0 : Nat} {r2 : Nat → Nat} {N : Nat} {s0 : Ob} {s1 : Ob} {s2 : Ob} {p1 : Int32} {res : Nat} (hg : Ok g) (h : ft_X7_discard N s0 s1 s2 p1 = some res) : Tx g yX7_discard cX7_discard 2 (some .int) (zrt 8 126) [.ref a0, .int p1] (wX7 g a0 r0 s0 ++ wX1 g (r0 3) r1 q1_0 s1 ++ wX5 g q1_0 r2 s2) (xn res) := by
  refine tx_of rfl hg (by show _ ≤ _; exact Nat.le_of_ble_eq_true rfl) (fun K C T => ?_)
  show Zs K 0 0 (wX7 g a0 r0 s0 ++ wX1 g (r0 3) r1 q1_0 s1 ++ wX5 g q1_0 r2 s2) [(0, .ref a0), (1, .int p1)] 0 []
  unfold ft_X7_discard at h
  refine z_aload_n (pc := 0) (x := a0) C dX7_discard_0 (i := 0) rfl rfl ?_
  refine z_get (pc := 1) (v := .ref (r0 3)) C 0 dX7_discard_1 fl_RX7_67 rfl rfl ?_
  replace h := ob_e h
  obtain ⟨x1, hx1, h⟩ := h
  refine z_callV (pc := 4) (As := []) (rest := []) (wr := (wX7 g a0 r0 s0)) C dX7_discard_4 ml_RX7_145 wv_X1_isEnded (m_X1_isEnded (a0 := (r0 3)) (r0 := r1) (q0_0 := q1_0) (r1 := r2) hg hx1) [4, 5, 6, 7, 8, 9, 10, 11, 12, 13, 14, 15, 16] [0, 1, 2, 3] rfl rfl ⟨by decide, by decide⟩ (Nat.le_of_ble_eq_true rfl) ⟨by decide, by decide⟩ rfl rfl rfl rfl rfl rfl rfl (by decide) (ex_k C (cs' := 0) (ss' := 0) (wF := (wX7 g a0 r0 s0 ++ wX1 g (r0 3) r1 q1_0 s1 ++ wX5 g q1_0 r2 s2)) [0, 1, 2, 3, 4, 5, 6, 7, 8, 9, 10, 11, 12, 13, 14, 15, 16] rfl rfl ?_)
  refine z_if_eq (pc := 7) C dX7_discard_7 (tgt := 13) (by decide) (fun hc => ?_) (fun hc => ?_)
  · replace h := (ite_e h).1 hc
    refine z_aload_n (pc := 13) (x := a0) C dX7_discard_13 (i := 0) rfl rfl ?_
    refine z_aload_n (pc := 14) (x := a0) C dX7_discard_14 (i := 0) rfl rfl ?_
    refine z_get (pc := 15) (v := .ref (r0 3)) C 0 dX7_discard_15 fl_RX7_67 rfl rfl ?_
    refine z_get (pc := 18) (v := .int (s1.1 4)) C 4 dX7_discard_18 fl_RX7_149 rfl rfl ?_
    refine z_iload_n (pc := 21) (x := p1) C dX7_discard_21 (i := 1) rfl rfl ?_
    rcases tb_e h with ⟨x2, hx2, h⟩ | h
    · refine z_callV (pc := 22) (As := [.int (s1.1 4), .int p1]) (rest := []) (wr := ([] : va_W)) C dX7_discard_22 ml_RX7_170 wv_X7_needCard (m_X7_needCard (a0 := a0) (r0 := r0) (r1 := r1) (q1_0 := q1_0) (r2 := r2) hg hx2) [0, 1, 2, 3, 4, 5, 6, 7, 8, 9, 10, 11, 12, 13, 14, 15, 16] [] rfl rfl ⟨by decide, by decide⟩ (Nat.le_of_ble_eq_true rfl) ⟨by decide, by decide⟩ rfl rfl rfl rfl rfl rfl rfl (by decide) (ex_k C (cs' := 0) (ss' := 0) (wF := (wX7 g a0 r0 s0 ++ wX1 g (r0 3) r1 q1_0 s1 ++ wX5 g q1_0 r2 s2)) [0, 1, 2, 3, 4, 5, 6, 7, 8, 9, 10, 11, 12, 13, 14, 15, 16] rfl rfl ?_)
      refine z_pop (pc := 25) C dX7_discard_25 rfl ?_
      refine z_aload_n (pc := 26) (x := a0) C dX7_discard_26 (i := 0) rfl rfl ?_
      exact nomatch h
    · exact z_callVT (pc := 22) (As := [.int (s1.1 4), .int p1]) (rest := []) (wr := ([] : va_W)) C T dX7_discard_22 ml_RX7_170 wv_X7_needCard (mt_X7_needCard (a0 := a0) (r0 := r0) (r1 := r1) (q1_0 := q1_0) (r2 := r2) hg h) [0, 1, 2, 3, 4, 5, 6, 7, 8, 9, 10, 11, 12, 13, 14, 15, 16] [] [0, 1, 2, 3, 4, 5, 6, 7, 8, 9, 10, 11, 12, 13, 14, 15, 16] rfl rfl ⟨by decide, by decide⟩ (Nat.le_of_ble_eq_true rfl) ⟨by decide, by decide⟩ rfl rfl rfl rfl rfl rfl rfl (by decide) rfl (by decide) (by decide)
  · replace h := (ite_e h).2 hc
    refine z_bipush (pc := 10) C dX7_discard_10 bp_m3 ?_
    exact nomatch h
def ft_X7_hint_41 (N : Nat) (s0 : Ob) (s1 : Ob) (s2 : Ob) (p1 : Int32) (p2 : Int32) (p3 : Int32)  (v4 : Int32) : Option (Nat) := (tb (f_X7_needWord N s0 s1 s2 p2 p3) (ft_X7_needWord N s0 s1 s2 p2 p3) fun x3 => (if v4 = 0 then (if 0 < (s1.1 2) then (ob (f_X1_canBeGiven N s1 s2 p1 p2 p3) fun x4 => (if x4 = 0 then none else none)) else none) else none))
theorem mt_X7_hint_41 {K : Kt} {g : Gp} {a0 : Nat} {r0 : Nat → Nat} {r1 : Nat → Nat} {q1_0 : Nat} {r2 : Nat → Nat} {N : Nat} {s0 : Ob} {s1 : Ob} {s2 : Ob} {p1 : Int32} {p2 : Int32} {p3 : Int32} {res : Nat} (hg : Ok g) (C : Cx K g cX7_hint RX7 5 (zrt 7 106)) (T : Tt K (xn res) (wX7 g a0 r0 s0 ++ wX1 g (r0 3) r1 q1_0 s1 ++ wX5 g q1_0 r2 s2) 1 6) (v4 : Int32) (h : ft_X7_hint_41 N s0 s1 s2 p1 p2 p3 v4 = some res) : Zs K 0 0 (wX7 g a0 r0 s0 ++ wX1 g (r0 3) r1 q1_0 s1 ++ wX5 g q1_0 r2 s2) [(0, .ref a0), (1, .int p1), (2, .int p2), (3, .int p3), (4, .int v4)] 41 [] := by
  unfold ft_X7_hint_41 at h
  refine z_aload_n (pc := 41) (x := a0) C dX7_hint_41 (i := 0) rfl rfl ?_
  refine z_iload_n (pc := 42) (x := p2) C dX7_hint_42 (i := 2) rfl rfl ?_
  refine z_iload_n (pc := 43) (x := p3) C dX7_hint_43 (i := 3) rfl rfl ?_
  rcases tb_e h with ⟨x3, hx3, h⟩ | h
  · refine z_callV (pc := 44) (As := [.int p2, .int p3]) (rest := []) (wr := ([] : va_W)) C dX7_hint_44 ml_RX7_235 wv_X7_needWord (m_X7_needWord (a0 := a0) (r0 := r0) (r1 := r1) (q1_0 := q1_0) (r2 := r2) hg hx3) [0, 1, 2, 3, 4, 5, 6, 7, 8, 9, 10, 11, 12, 13, 14, 15, 16] [] rfl rfl ⟨by decide, by decide⟩ (Nat.le_of_ble_eq_true rfl) ⟨by decide, by decide⟩ rfl rfl rfl rfl rfl rfl rfl (by decide) (ex_k C (cs' := 0) (ss' := 0) (wF := (wX7 g a0 r0 s0 ++ wX1 g (r0 3) r1 q1_0 s1 ++ wX5 g q1_0 r2 s2)) [0, 1, 2, 3, 4, 5, 6, 7, 8, 9, 10, 11, 12, 13, 14, 15, 16] rfl rfl ?_)
    refine z_iload (pc := 47) (x := v4) C dX7_hint_47 rfl ?_
    refine z_if_eq (pc := 49) C dX7_hint_49 (tgt := 55) (by decide) (fun hc => ?_) (fun hc => ?_)
    · replace h := (ite_e h).1 hc
      refine z_aload_n (pc := 55) (x := a0) C dX7_hint_55 (i := 0) rfl rfl ?_
      refine z_get (pc := 56) (v := .ref (r0 3)) C 0 dX7_hint_56 fl_RX7_67 rfl rfl ?_
      refine z_get (pc := 59) (v := .int (s1.1 2)) C 4 dX7_hint_59 fl_RX7_122 rfl rfl ?_
      refine z_if_gt (pc := 62) C dX7_hint_62 (tgt := 68) (by decide) (fun hc => ?_) (fun hc => ?_)
      · replace h := (ite_e h).1 hc
        refine z_aload_n (pc := 68) (x := a0) C dX7_hint_68 (i := 0) rfl rfl ?_
        refine z_get (pc := 69) (v := .ref (r0 3)) C 0 dX7_hint_69 fl_RX7_67 rfl rfl ?_
        refine z_iload_n (pc := 72) (x := p1) C dX7_hint_72 (i := 1) rfl rfl ?_
        refine z_iload_n (pc := 73) (x := p2) C dX7_hint_73 (i := 2) rfl rfl ?_
        refine z_iload_n (pc := 74) (x := p3) C dX7_hint_74 (i := 3) rfl rfl ?_
        replace h := ob_e h
        obtain ⟨x4, hx4, h⟩ := h
        refine z_callV (pc := 75) (As := [.int p1, .int p2, .int p3]) (rest := []) (wr := (wX7 g a0 r0 s0)) C dX7_hint_75 ml_RX7_267 wv_X1_canBeGiven (m_X1_canBeGiven (a0 := (r0 3)) (r0 := r1) (q0_0 := q1_0) (r1 := r2) hg hx4) [4, 5, 6, 7, 8, 9, 10, 11, 12, 13, 14, 15, 16] [0, 1, 2, 3] rfl rfl ⟨by decide, by decide⟩ (Nat.le_of_ble_eq_true rfl) ⟨by decide, by decide⟩ rfl rfl rfl rfl rfl rfl rfl (by decide) (ex_k C (cs' := 0) (ss' := 0) (wF := (wX7 g a0 r0 s0 ++ wX1 g (r0 3) r1 q1_0 s1 ++ wX5 g q1_0 r2 s2)) [0, 1, 2, 3, 4, 5, 6, 7, 8, 9, 10, 11, 12, 13, 14, 15, 16] rfl rfl ?_)
        refine z_if_ne (pc := 78) C dX7_hint_78 (tgt := 84) (by decide) (fun hc => ?_) (fun hc => ?_)
        · replace h := (ite_e h).2 hc
          refine z_aload_n (pc := 84) (x := a0) C dX7_hint_84 (i := 0) rfl rfl ?_
          exact nomatch h
        · replace h := (ite_e h).1 hc
          refine z_bipush (pc := 81) C dX7_hint_81 bp_m5 ?_
          exact nomatch h
      · replace h := (ite_e h).2 hc
        refine z_bipush (pc := 65) C dX7_hint_65 bp_m4 ?_
        exact nomatch h
    · replace h := (ite_e h).2 hc
      refine z_bipush (pc := 52) C dX7_hint_52 bp_m3 ?_
      exact nomatch h
  · exact z_callVT (pc := 44) (As := [.int p2, .int p3]) (rest := []) (wr := ([] : va_W)) C T dX7_hint_44 ml_RX7_235 wv_X7_needWord (mt_X7_needWord (a0 := a0) (r0 := r0) (r1 := r1) (q1_0 := q1_0) (r2 := r2) hg h) [0, 1, 2, 3, 4, 5, 6, 7, 8, 9, 10, 11, 12, 13, 14, 15, 16] [] [0, 1, 2, 3, 4, 5, 6, 7, 8, 9, 10, 11, 12, 13, 14, 15, 16] rfl rfl ⟨by decide, by decide⟩ (Nat.le_of_ble_eq_true rfl) ⟨by decide, by decide⟩ rfl rfl rfl rfl rfl rfl rfl (by decide) rfl (by decide) (by decide)
def ft_X7_hint (N : Nat) (s0 : Ob) (s1 : Ob) (s2 : Ob) (p1 : Int32) (p2 : Int32) (p3 : Int32) : Option (Nat) := (tb (f_X7_needPlayer N s0 s1 s2 p1) (ft_X7_needPlayer N s0 s1 s2 p1) fun x1 => (ob (f_X1_isEnded N s1 s2) fun x2 => (if x2 = 0 then (if p1 = (s1.1 4) then (some 1) else (ft_X7_hint_41 N s0 s1 s2 p1 p2 p3 x2)) else (ft_X7_hint_41 N s0 s1 s2 p1 p2 p3 x2))))
theorem mt_X7_hint {g : Gp} {a0 : Nat} {r0 : Nat → Nat} {r1 : Nat → Nat} {q1_0 : Nat} {r2 : Nat → Nat} {N : Nat} {s0 : Ob} {s1 : Ob} {s2 : Ob} {p1 : Int32} {p2 : Int32} {p3 : Int32} {res : Nat} (hg : Ok g) (h : ft_X7_hint N s0 s1 s2 p1 p2 p3 = some res) : Tx g yX7_hint cX7_hint 5 (some .int) (zrt 7 106) [.ref a0, .int p1, .int p2, .int p3] (wX7 g a0 r0 s0 ++ wX1 g (r0 3) r1 q1_0 s1 ++ wX5 g q1_0 r2 s2) (xn res) := by
  refine tx_of rfl hg (by show _ ≤ _; exact Nat.le_of_ble_eq_true rfl) (fun K C T => ?_)
  show Zs K 0 0 (wX7 g a0 r0 s0 ++ wX1 g (r0 3) r1 q1_0 s1 ++ wX5 g q1_0 r2 s2) [(0, .ref a0), (1, .int p1), (2, .int p2), (3, .int p3)] 0 []
  unfold ft_X7_hint at h
  refine z_aload_n (pc := 0) (x := a0) C dX7_hint_0 (i := 0) rfl rfl ?_
  refine z_iload_n (pc := 1) (x := p1) C dX7_hint_1 (i := 1) rfl rfl ?_
  rcases tb_e h with ⟨x1, hx1, h⟩ | h
  · refine z_callV (pc := 2) (As := [.int p1]) (rest := []) (wr := ([] : va_W)) C dX7_hint_2 ml_RX7_164 wv_X7_needPlayer (m_X7_needPlayer (a0 := a0) (r0 := r0) (r1 := r1) (q1_0 := q1_0) (r2 := r2) hg hx1) [0, 1, 2, 3, 4, 5, 6, 7, 8, 9, 10, 11, 12, 13, 14, 15, 16] [] rfl rfl ⟨by decide, by decide⟩ (Nat.le_of_ble_eq_true rfl) ⟨by decide, by decide⟩ rfl rfl rfl rfl rfl rfl rfl (by decide) (ex_k C (cs' := 0) (ss' := 0) (wF := (wX7 g a0 r0 s0 ++ wX1 g (r0 3) r1 q1_0 s1 ++ wX5 g q1_0 r2 s2)) [0, 1, 2, 3, 4, 5, 6, 7, 8, 9, 10, 11, 12, 13, 14, 15, 16] rfl rfl ?_)
    refine z_aload_n (pc := 5) (x := a0) C dX7_hint_5 (i := 0) rfl rfl ?_
    refine z_get (pc := 6) (v := .ref (r0 3)) C 0 dX7_hint_6 fl_RX7_67 rfl rfl ?_
    replace h := ob_e h
    obtain ⟨x2, hx2, h⟩ := h
    refine z_callV (pc := 9) (As := []) (rest := []) (wr := (wX7 g a0 r0 s0)) C dX7_hint_9 ml_RX7_145 wv_X1_isEnded (m_X1_isEnded (a0 := (r0 3)) (r0 := r1) (q0_0 := q1_0) (r1 := r2) hg hx2) [4, 5, 6, 7, 8, 9, 10, 11, 12, 13, 14, 15, 16] [0, 1, 2, 3] rfl rfl ⟨by decide, by decide⟩ (Nat.le_of_ble_eq_true rfl) ⟨by decide, by decide⟩ rfl rfl rfl rfl rfl rfl rfl (by decide) (ex_k C (cs' := 0) (ss' := 0) (wF := (wX7 g a0 r0 s0 ++ wX1 g (r0 3) r1 q1_0 s1 ++ wX5 g q1_0 r2 s2)) [0, 1, 2, 3, 4, 5, 6, 7, 8, 9, 10, 11, 12, 13, 14, 15, 16] rfl rfl ?_)
    refine z_istore (pc := 12) C dX7_hint_12 (by decide) (lv' := [(4, .int x2), (0, .ref a0), (1, .int p1), (2, .int p2), (3, .int p3)]) rfl ?_
    refine z_iload (pc := 14) (x := x2) C dX7_hint_14 rfl ?_
    refine z_if_ne (pc := 16) C dX7_hint_16 (tgt := 41) (by decide) (fun hc => ?_) (fun hc => ?_)
    · replace h := (ite_e h).2 hc
      refine z_lv (lv' := [(0, .ref a0), (1, .int p1), (2, .int p2), (3, .int p3), (4, .int x2)]) [1, 2, 3, 4, 0] rfl ?_
      exact mt_X7_hint_41 (a0 := a0) (r0 := r0) (r1 := r1) (q1_0 := q1_0) (r2 := r2) hg C T x2 h
    · replace h := (ite_e h).1 hc
      refine z_iload_n (pc := 19) (x := p1) C dX7_hint_19 (i := 1) rfl rfl ?_
      refine z_aload_n (pc := 20) (x := a0) C dX7_hint_20 (i := 0) rfl rfl ?_
      refine z_get (pc := 21) (v := .ref (r0 3)) C 0 dX7_hint_21 fl_RX7_67 rfl rfl ?_
      refine z_get (pc := 24) (v := .int (s1.1 4)) C 4 dX7_hint_24 fl_RX7_149 rfl rfl ?_
      refine z_icmp_ne (pc := 27) C dX7_hint_27 (tgt := 41) (by decide) (fun hc => ?_) (fun hc => ?_)
      · replace h := (ite_e h).2 hc
        refine z_lv (lv' := [(0, .ref a0), (1, .int p1), (2, .int p2), (3, .int p3), (4, .int x2)]) [1, 2, 3, 4, 0] rfl ?_
        exact mt_X7_hint_41 (a0 := a0) (r0 := r0) (r1 := r1) (q1_0 := q1_0) (r2 := r2) hg C T x2 h
      · replace h := (ite_e h).1 hc
        replace h := Option.some.inj h
        subst h
        exact z_thrW (pc := 30) (E := "java/lang/IndexOutOfBoundsException") C T xok_1 (by decide +kernel) wx_RX7_155_159 (str_RX7_265 hg).1 dX7_hint_30 dX7_hint_33 dX7_hint_34 dX7_hint_37 dX7_hint_40 (by decide) (Nat.le_of_ble_eq_true rfl) (by decide) (by decide) (by decide) (by decide)
  · exact z_callVT (pc := 2) (As := [.int p1]) (rest := []) (wr := ([] : va_W)) C T dX7_hint_2 ml_RX7_164 wv_X7_needPlayer (mt_X7_needPlayer (a0 := a0) (r0 := r0) (r1 := r1) (q1_0 := q1_0) (r2 := r2) hg h) [0, 1, 2, 3, 4, 5, 6, 7, 8, 9, 10, 11, 12, 13, 14, 15, 16] [] [0, 1, 2, 3, 4, 5, 6, 7, 8, 9, 10, 11, 12, 13, 14, 15, 16] rfl rfl ⟨by decide, by decide⟩ (Nat.le_of_ble_eq_true rfl) ⟨by decide, by decide⟩ rfl rfl rfl rfl rfl rfl rfl (by decide) rfl (by decide) (by decide)
def ft_X7_advice_9 (N : Nat) (s0 : Ob) (s1 : Ob) (s2 : Ob) (p1 : Int32)   : Option (Nat) := (some 2)
theorem mt_X7_advice_9 {K : Kt} {g : Gp} {a0 : Nat} {r0 : Nat → Nat} {r1 : Nat → Nat} {q1_0 : Nat} {r2 : Nat → Nat} {N : Nat} {s0 : Ob} {s1 : Ob} {s2 : Ob} {p1 : Int32} {res : Nat} (hg : Ok g) (C : Cx K g cX7_advice RX7 2 (zrt 6 82)) (T : Tt K (xn res) (wX7 g a0 r0 s0 ++ wX1 g (r0 3) r1 q1_0 s1 ++ wX5 g q1_0 r2 s2) 1 6)  (h : ft_X7_advice_9 N s0 s1 s2 p1  = some res) : Zs K 0 0 (wX7 g a0 r0 s0 ++ wX1 g (r0 3) r1 q1_0 s1 ++ wX5 g q1_0 r2 s2) [] 9 [] := by
  unfold ft_X7_advice_9 at h
  replace h := Option.some.inj h
  subst h
  exact z_thrW (pc := 9) (E := "java/lang/IllegalArgumentException") C T xok_2 (by decide +kernel) wx_RX7_138_142 (str_RX7_278 hg).1 dX7_advice_9 dX7_advice_12 dX7_advice_13 dX7_advice_16 dX7_advice_19 (by decide) (Nat.le_of_ble_eq_true rfl) (by decide) (by decide) (by decide) (by decide)
def ft_X7_advice (N : Nat) (s0 : Ob) (s1 : Ob) (s2 : Ob) (p1 : Int32) : Option (Nat) := (if p1 < 0 then (ft_X7_advice_9 N s0 s1 s2 p1 ) else (if p1 ≤ (3 : Int32) then (ob (f_X1_isEnded N s1 s2) fun x1 => (if x1 = 0 then none else none)) else (ft_X7_advice_9 N s0 s1 s2 p1 )))
theorem mt_X7_advice {g : Gp} {a0 : Nat} {r0 : Nat → Nat} {r1 : Nat → Nat} {q1_0 : Nat} {r2 : Nat → Nat} {N : Nat} {s0 : Ob} {s1 : Ob} {s2 : Ob} {p1 : Int32} {res : Nat} (hg : Ok g) (h : ft_X7_advice N s0 s1 s2 p1 = some res) : Tx g yX7_advice cX7_advice 2 (some .int) (zrt 6 82) [.ref a0, .int p1] (wX7 g a0 r0 s0 ++ wX1 g (r0 3) r1 q1_0 s1 ++ wX5 g q1_0 r2 s2) (xn res) := by
  refine tx_of rfl hg (by show _ ≤ _; exact Nat.le_of_ble_eq_true rfl) (fun K C T => ?_)
  show Zs K 0 0 (wX7 g a0 r0 s0 ++ wX1 g (r0 3) r1 q1_0 s1 ++ wX5 g q1_0 r2 s2) [(0, .ref a0), (1, .int p1)] 0 []
  unfold ft_X7_advice at h
  refine z_iload_n (pc := 0) (x := p1) C dX7_advice_0 (i := 1) rfl rfl ?_
  refine z_if_lt (pc := 1) C dX7_advice_1 (tgt := 9) (by decide) (fun hc => ?_) (fun hc => ?_)
  · replace h := (ite_e h).1 hc
    refine z_lv (lv' := []) [] rfl ?_
    exact mt_X7_advice_9 (a0 := a0) (r0 := r0) (r1 := r1) (q1_0 := q1_0) (r2 := r2) hg C T  h
  · replace h := (ite_e h).2 hc
    refine z_iload_n (pc := 4) (x := p1) C dX7_advice_4 (i := 1) rfl rfl ?_
    refine z_iconst (pc := 5) C dX7_advice_5 ic_3 ?_
    refine z_icmp_le (pc := 6) C dX7_advice_6 (tgt := 20) (by decide) (fun hc => ?_) (fun hc => ?_)
    · replace h := (ite_e h).1 hc
      refine z_aload_n (pc := 20) (x := a0) C dX7_advice_20 (i := 0) rfl rfl ?_
      refine z_get (pc := 21) (v := .ref (r0 3)) C 0 dX7_advice_21 fl_RX7_67 rfl rfl ?_
      replace h := ob_e h
      obtain ⟨x1, hx1, h⟩ := h
      refine z_callV (pc := 24) (As := []) (rest := []) (wr := (wX7 g a0 r0 s0)) C dX7_advice_24 ml_RX7_145 wv_X1_isEnded (m_X1_isEnded (a0 := (r0 3)) (r0 := r1) (q0_0 := q1_0) (r1 := r2) hg hx1) [4, 5, 6, 7, 8, 9, 10, 11, 12, 13, 14, 15, 16] [0, 1, 2, 3] rfl rfl ⟨by decide, by decide⟩ (Nat.le_of_ble_eq_true rfl) ⟨by decide, by decide⟩ rfl rfl rfl rfl rfl rfl rfl (by decide) (ex_k C (cs' := 0) (ss' := 0) (wF := (wX7 g a0 r0 s0 ++ wX1 g (r0 3) r1 q1_0 s1 ++ wX5 g q1_0 r2 s2)) [0, 1, 2, 3, 4, 5, 6, 7, 8, 9, 10, 11, 12, 13, 14, 15, 16] rfl rfl ?_)
      refine z_if_eq (pc := 27) C dX7_advice_27 (tgt := 33) (by decide) (fun hc => ?_) (fun hc => ?_)
      · replace h := (ite_e h).1 hc
        refine z_aload_n (pc := 33) (x := a0) C dX7_advice_33 (i := 0) rfl rfl ?_
        refine z_get (pc := 34) (v := .ref (r0 11)) C 0 dX7_advice_34 fl_RX7_47 rfl rfl ?_
        refine z_aload_n (pc := 37) (x := a0) C dX7_advice_37 (i := 0) rfl rfl ?_
        refine z_get (pc := 38) (v := .ref (r0 3)) C 0 dX7_advice_38 fl_RX7_67 rfl rfl ?_
        exact nomatch h
      · replace h := (ite_e h).2 hc
        refine z_bipush (pc := 30) C dX7_advice_30 bp_m3 ?_
        exact nomatch h
    · replace h := (ite_e h).2 hc
      refine z_lv (lv' := []) [] rfl ?_
      exact mt_X7_advice_9 (a0 := a0) (r0 := r0) (r1 := r1) (q1_0 := q1_0) (r2 := r2) hg C T  h
def ft_X7_follow_11 (N : Nat) (s0 : Ob) (s1 : Ob) (s2 : Ob) (p1 : Int32)   : Option (Nat) := (some 2)
theorem mt_X7_follow_11 {K : Kt} {g : Gp} {a0 : Nat} {r0 : Nat → Nat} {r1 : Nat → Nat} {q1_0 : Nat} {r2 : Nat → Nat} {N : Nat} {s0 : Ob} {s1 : Ob} {s2 : Ob} {p1 : Int32} {res : Nat} (hg : Ok g) (C : Cx K g cX7_follow RX7 4 (zrt 6 82)) (T : Tt K (xn res) (wX7 g a0 r0 s0 ++ wX1 g (r0 3) r1 q1_0 s1 ++ wX5 g q1_0 r2 s2) 1 6)  (h : ft_X7_follow_11 N s0 s1 s2 p1  = some res) : Zs K 0 0 (wX7 g a0 r0 s0 ++ wX1 g (r0 3) r1 q1_0 s1 ++ wX5 g q1_0 r2 s2) [] 11 [] := by
  unfold ft_X7_follow_11 at h
  replace h := Option.some.inj h
  subst h
  exact z_thrW (pc := 11) (E := "java/lang/IllegalArgumentException") C T xok_2 (by decide +kernel) wx_RX7_138_142 (str_RX7_296 hg).1 dX7_follow_11 dX7_follow_14 dX7_follow_15 dX7_follow_18 dX7_follow_21 (by decide) (Nat.le_of_ble_eq_true rfl) (by decide) (by decide) (by decide) (by decide)
def Ft_X7_follow_26 (N : Nat) (s0 : Ob) (s1 : Ob) (s2 : Ob) (p1 : Int32)  (k26 : Int32 → Int32 → Option (Nat)) (v2 : Int32) (v3 : Int32) : Option (Nat) := (if p1 ≤ v3 then none else (ob (f_X1_isEnded N s1 s2) fun x1 => (if x1 = 0 then none else none)))
def ft_X7_follow_26 (N : Nat) (s0 : Ob) (s1 : Ob) (s2 : Ob) (p1 : Int32)  : Nat → Int32 → Int32 → Option (Nat) := zlp (fun _ _ => none) (Ft_X7_follow_26 N s0 s1 s2 p1)
theorem mt_X7_follow_26 {K : Kt} {g : Gp} {a0 : Nat} {r0 : Nat → Nat} {r1 : Nat → Nat} {q1_0 : Nat} {r2 : Nat → Nat} {N : Nat} {s0 : Ob} {s1 : Ob} {s2 : Ob} {p1 : Int32} {res : Nat} (hg : Ok g) (C : Cx K g cX7_follow RX7 4 (zrt 6 82)) (T : Tt K (xn res) (wX7 g a0 r0 s0 ++ wX1 g (r0 3) r1 q1_0 s1 ++ wX5 g q1_0 r2 s2) 1 6) : ∀ (n : Nat) (v2 : Int32) (v3 : Int32), ft_X7_follow_26 N s0 s1 s2 p1 n v2 v3 = some res → Zs K 0 0 (wX7 g a0 r0 s0 ++ wX1 g (r0 3) r1 q1_0 s1 ++ wX5 g q1_0 r2 s2) [(0, .ref a0), (1, .int p1), (2, .int v2), (3, .int v3)] 26 [] := by
  intro n
  induction n with
  | zero => intro v2 v3 h; exact nomatch (show (none : Option (Nat)) = some res from h)
  | succ n hk26 =>
    intro v2 v3 h
    replace h : Ft_X7_follow_26 N s0 s1 s2 p1 (ft_X7_follow_26 N s0 s1 s2 p1 n) v2 v3 = some res := h
    unfold Ft_X7_follow_26 at h
    refine z_iload_n (pc := 26) (x := v3) C dX7_follow_26 (i := 3) rfl rfl ?_
    refine z_iload_n (pc := 27) (x := p1) C dX7_follow_27 (i := 1) rfl rfl ?_
    refine z_icmp_ge (pc := 28) C dX7_follow_28 (tgt := 76) (by decide) (fun hc => ?_) (fun hc => ?_)
    · replace h := (ite_e h).1 hc
      refine z_iload_n (pc := 76) (x := v2) C dX7_follow_76 (i := 2) rfl rfl ?_
      exact nomatch h
    · replace h := (ite_e h).2 hc
      refine z_aload_n (pc := 31) (x := a0) C dX7_follow_31 (i := 0) rfl rfl ?_
      refine z_get (pc := 32) (v := .ref (r0 3)) C 0 dX7_follow_32 fl_RX7_67 rfl rfl ?_
      replace h := ob_e h
      obtain ⟨x1, hx1, h⟩ := h
      refine z_callV (pc := 35) (As := []) (rest := []) (wr := (wX7 g a0 r0 s0)) C dX7_follow_35 ml_RX7_145 wv_X1_isEnded (m_X1_isEnded (a0 := (r0 3)) (r0 := r1) (q0_0 := q1_0) (r1 := r2) hg hx1) [4, 5, 6, 7, 8, 9, 10, 11, 12, 13, 14, 15, 16] [0, 1, 2, 3] rfl rfl ⟨by decide, by decide⟩ (Nat.le_of_ble_eq_true rfl) ⟨by decide, by decide⟩ rfl rfl rfl rfl rfl rfl rfl (by decide) (ex_k C (cs' := 0) (ss' := 0) (wF := (wX7 g a0 r0 s0 ++ wX1 g (r0 3) r1 q1_0 s1 ++ wX5 g q1_0 r2 s2)) [0, 1, 2, 3, 4, 5, 6, 7, 8, 9, 10, 11, 12, 13, 14, 15, 16] rfl rfl ?_)
      refine z_if_ne (pc := 38) C dX7_follow_38 (tgt := 76) (by decide) (fun hc => ?_) (fun hc => ?_)
      · replace h := (ite_e h).2 hc
        refine z_iload_n (pc := 76) (x := v2) C dX7_follow_76 (i := 2) rfl rfl ?_
        exact nomatch h
      · replace h := (ite_e h).1 hc
        refine z_aload_n (pc := 41) (x := a0) C dX7_follow_41 (i := 0) rfl rfl ?_
        exact nomatch h
def ft_X7_follow (N : Nat) (s0 : Ob) (s1 : Ob) (s2 : Ob) (p1 : Int32) : Option (Nat) := (if p1 < (1 : Int32) then (ft_X7_follow_11 N s0 s1 s2 p1 ) else (if p1 ≤ (100 : Int32) then (ft_X7_follow_26 N s0 s1 s2 p1 N (0 : Int32) (0 : Int32)) else (ft_X7_follow_11 N s0 s1 s2 p1 )))
theorem mt_X7_follow {g : Gp} {a0 : Nat} {r0 : Nat → Nat} {r1 : Nat → Nat} {q1_0 : Nat} {r2 : Nat → Nat} {N : Nat} {s0 : Ob} {s1 : Ob} {s2 : Ob} {p1 : Int32} {res : Nat} (hg : Ok g) (h : ft_X7_follow N s0 s1 s2 p1 = some res) : Tx g yX7_follow cX7_follow 4 (some .int) (zrt 6 82) [.ref a0, .int p1] (wX7 g a0 r0 s0 ++ wX1 g (r0 3) r1 q1_0 s1 ++ wX5 g q1_0 r2 s2) (xn res) := by
  refine tx_of rfl hg (by show _ ≤ _; exact Nat.le_of_ble_eq_true rfl) (fun K C T => ?_)
  show Zs K 0 0 (wX7 g a0 r0 s0 ++ wX1 g (r0 3) r1 q1_0 s1 ++ wX5 g q1_0 r2 s2) [(0, .ref a0), (1, .int p1)] 0 []
  unfold ft_X7_follow at h
  refine z_iload_n (pc := 0) (x := p1) C dX7_follow_0 (i := 1) rfl rfl ?_
  refine z_iconst (pc := 1) C dX7_follow_1 ic_1 ?_
  refine z_icmp_lt (pc := 2) C dX7_follow_2 (tgt := 11) (by decide) (fun hc => ?_) (fun hc => ?_)
  · replace h := (ite_e h).1 hc
    refine z_lv (lv' := []) [] rfl ?_
    exact mt_X7_follow_11 (a0 := a0) (r0 := r0) (r1 := r1) (q1_0 := q1_0) (r2 := r2) hg C T  h
  · replace h := (ite_e h).2 hc
    refine z_iload_n (pc := 5) (x := p1) C dX7_follow_5 (i := 1) rfl rfl ?_
    refine z_bipush (pc := 6) C dX7_follow_6 bp_100 ?_
    refine z_icmp_le (pc := 8) C dX7_follow_8 (tgt := 22) (by decide) (fun hc => ?_) (fun hc => ?_)
    · replace h := (ite_e h).1 hc
      refine z_iconst (pc := 22) C dX7_follow_22 ic_0 ?_
      refine z_istore_n (pc := 23) C dX7_follow_23 (i := 2) rfl (by decide) (lv' := [(2, .int (0 : Int32)), (0, .ref a0), (1, .int p1)]) rfl ?_
      refine z_iconst (pc := 24) C dX7_follow_24 ic_0 ?_
      refine z_istore_n (pc := 25) C dX7_follow_25 (i := 3) rfl (by decide) (lv' := [(3, .int (0 : Int32)), (2, .int (0 : Int32)), (0, .ref a0), (1, .int p1)]) rfl ?_
      refine z_lv (lv' := [(0, .ref a0), (1, .int p1), (2, .int (0 : Int32)), (3, .int (0 : Int32))]) [2, 3, 1, 0] rfl ?_
      exact mt_X7_follow_26 (a0 := a0) (r0 := r0) (r1 := r1) (q1_0 := q1_0) (r2 := r2) hg C T N (0 : Int32) (0 : Int32) h
    · replace h := (ite_e h).2 hc
      refine z_lv (lv' := []) [] rfl ?_
      exact mt_X7_follow_11 (a0 := a0) (r0 := r0) (r1 := r1) (q1_0 := q1_0) (r2 := r2) hg C T  h
def ft_X7_valueBehind_9 (N : Nat) (s0 : Ob) (s1 : Ob) (s2 : Ob) (p1 : Int32) (p2 : Int32)   : Option (Nat) := (some 2)
theorem mt_X7_valueBehind_9 {K : Kt} {g : Gp} {a0 : Nat} {r0 : Nat → Nat} {r1 : Nat → Nat} {q1_0 : Nat} {r2 : Nat → Nat} {N : Nat} {s0 : Ob} {s1 : Ob} {s2 : Ob} {p1 : Int32} {p2 : Int32} {res : Nat} (hg : Ok g) (C : Cx K g cX7_valueBehind RX7 3 (zrt 6 82)) (T : Tt K (xn res) (wX7 g a0 r0 s0 ++ wX1 g (r0 3) r1 q1_0 s1 ++ wX5 g q1_0 r2 s2) 1 6)  (h : ft_X7_valueBehind_9 N s0 s1 s2 p1 p2  = some res) : Zs K 0 0 (wX7 g a0 r0 s0 ++ wX1 g (r0 3) r1 q1_0 s1 ++ wX5 g q1_0 r2 s2) [] 9 [] := by
  unfold ft_X7_valueBehind_9 at h
  replace h := Option.some.inj h
  subst h
  exact z_thrW (pc := 9) (E := "java/lang/IllegalArgumentException") C T xok_2 (by decide +kernel) wx_RX7_138_142 (str_RX7_320 hg).1 dX7_valueBehind_9 dX7_valueBehind_12 dX7_valueBehind_13 dX7_valueBehind_16 dX7_valueBehind_19 (by decide) (Nat.le_of_ble_eq_true rfl) (by decide) (by decide) (by decide) (by decide)
def ft_X7_valueBehind (N : Nat) (s0 : Ob) (s1 : Ob) (s2 : Ob) (p1 : Int32) (p2 : Int32) : Option (Nat) := (if p1 < 0 then (ft_X7_valueBehind_9 N s0 s1 s2 p1 p2 ) else (if p1 ≤ (3 : Int32) then (ob (f_X1_isEnded N s1 s2) fun x1 => (if x1 = 0 then none else none)) else (ft_X7_valueBehind_9 N s0 s1 s2 p1 p2 )))
theorem mt_X7_valueBehind {g : Gp} {a0 : Nat} {r0 : Nat → Nat} {r1 : Nat → Nat} {q1_0 : Nat} {r2 : Nat → Nat} {N : Nat} {s0 : Ob} {s1 : Ob} {s2 : Ob} {p1 : Int32} {p2 : Int32} {res : Nat} (hg : Ok g) (h : ft_X7_valueBehind N s0 s1 s2 p1 p2 = some res) : Tx g yX7_valueBehind cX7_valueBehind 3 (some .int) (zrt 6 82) [.ref a0, .int p1, .int p2] (wX7 g a0 r0 s0 ++ wX1 g (r0 3) r1 q1_0 s1 ++ wX5 g q1_0 r2 s2) (xn res) := by
  refine tx_of rfl hg (by show _ ≤ _; exact Nat.le_of_ble_eq_true rfl) (fun K C T => ?_)
  show Zs K 0 0 (wX7 g a0 r0 s0 ++ wX1 g (r0 3) r1 q1_0 s1 ++ wX5 g q1_0 r2 s2) [(0, .ref a0), (1, .int p1), (2, .int p2)] 0 []
  unfold ft_X7_valueBehind at h
  refine z_iload_n (pc := 0) (x := p1) C dX7_valueBehind_0 (i := 1) rfl rfl ?_
  refine z_if_lt (pc := 1) C dX7_valueBehind_1 (tgt := 9) (by decide) (fun hc => ?_) (fun hc => ?_)
  · replace h := (ite_e h).1 hc
    refine z_lv (lv' := []) [] rfl ?_
    exact mt_X7_valueBehind_9 (a0 := a0) (r0 := r0) (r1 := r1) (q1_0 := q1_0) (r2 := r2) hg C T  h
  · replace h := (ite_e h).2 hc
    refine z_iload_n (pc := 4) (x := p1) C dX7_valueBehind_4 (i := 1) rfl rfl ?_
    refine z_iconst (pc := 5) C dX7_valueBehind_5 ic_3 ?_
    refine z_icmp_le (pc := 6) C dX7_valueBehind_6 (tgt := 20) (by decide) (fun hc => ?_) (fun hc => ?_)
    · replace h := (ite_e h).1 hc
      refine z_aload_n (pc := 20) (x := a0) C dX7_valueBehind_20 (i := 0) rfl rfl ?_
      refine z_get (pc := 21) (v := .ref (r0 3)) C 0 dX7_valueBehind_21 fl_RX7_67 rfl rfl ?_
      replace h := ob_e h
      obtain ⟨x1, hx1, h⟩ := h
      refine z_callV (pc := 24) (As := []) (rest := []) (wr := (wX7 g a0 r0 s0)) C dX7_valueBehind_24 ml_RX7_145 wv_X1_isEnded (m_X1_isEnded (a0 := (r0 3)) (r0 := r1) (q0_0 := q1_0) (r1 := r2) hg hx1) [4, 5, 6, 7, 8, 9, 10, 11, 12, 13, 14, 15, 16] [0, 1, 2, 3] rfl rfl ⟨by decide, by decide⟩ (Nat.le_of_ble_eq_true rfl) ⟨by decide, by decide⟩ rfl rfl rfl rfl rfl rfl rfl (by decide) (ex_k C (cs' := 0) (ss' := 0) (wF := (wX7 g a0 r0 s0 ++ wX1 g (r0 3) r1 q1_0 s1 ++ wX5 g q1_0 r2 s2)) [0, 1, 2, 3, 4, 5, 6, 7, 8, 9, 10, 11, 12, 13, 14, 15, 16] rfl rfl ?_)
      refine z_if_eq (pc := 27) C dX7_valueBehind_27 (tgt := 33) (by decide) (fun hc => ?_) (fun hc => ?_)
      · replace h := (ite_e h).1 hc
        refine z_aload_n (pc := 33) (x := a0) C dX7_valueBehind_33 (i := 0) rfl rfl ?_
        refine z_get (pc := 34) (v := .ref (r0 12)) C 0 dX7_valueBehind_34 fl_RX7_54 rfl rfl ?_
        refine z_aload_n (pc := 37) (x := a0) C dX7_valueBehind_37 (i := 0) rfl rfl ?_
        refine z_get (pc := 38) (v := .ref (r0 3)) C 0 dX7_valueBehind_38 fl_RX7_67 rfl rfl ?_
        refine z_iload_n (pc := 41) (x := p1) C dX7_valueBehind_41 (i := 1) rfl rfl ?_
        refine z_iload_n (pc := 42) (x := p2) C dX7_valueBehind_42 (i := 2) rfl rfl ?_
        exact nomatch h
      · replace h := (ite_e h).2 hc
        refine z_bipush (pc := 30) C dX7_valueBehind_30 bp_m3 ?_
        exact nomatch h
    · replace h := (ite_e h).2 hc
      refine z_lv (lv' := []) [] rfl ?_
      exact mt_X7_valueBehind_9 (a0 := a0) (r0 := r0) (r1 := r1) (q1_0 := q1_0) (r2 := r2) hg C T  h
def ft_X7_bestMove_20 (N : Nat) (s0 : Ob) (s1 : Ob) (s2 : Ob) (p1 : Int32)   : Option (Nat) := (ob (f_X1_isEnded N s1 s2) fun x1 => (if x1 = 0 then none else none))
theorem mt_X7_bestMove_20 {K : Kt} {g : Gp} {a0 : Nat} {r0 : Nat → Nat} {r1 : Nat → Nat} {q1_0 : Nat} {r2 : Nat → Nat} {N : Nat} {s0 : Ob} {s1 : Ob} {s2 : Ob} {p1 : Int32} {res : Nat} (hg : Ok g) (C : Cx K g cX7_bestMove RX7 2 (zrt 6 82)) (T : Tt K (xn res) (wX7 g a0 r0 s0 ++ wX1 g (r0 3) r1 q1_0 s1 ++ wX5 g q1_0 r2 s2) 1 6)  (h : ft_X7_bestMove_20 N s0 s1 s2 p1  = some res) : Zs K 0 0 (wX7 g a0 r0 s0 ++ wX1 g (r0 3) r1 q1_0 s1 ++ wX5 g q1_0 r2 s2) [(0, .ref a0), (1, .int p1)] 20 [] := by
  unfold ft_X7_bestMove_20 at h
  refine z_aload_n (pc := 20) (x := a0) C dX7_bestMove_20 (i := 0) rfl rfl ?_
  refine z_get (pc := 21) (v := .ref (r0 3)) C 0 dX7_bestMove_21 fl_RX7_67 rfl rfl ?_
  replace h := ob_e h
  obtain ⟨x1, hx1, h⟩ := h
  refine z_callV (pc := 24) (As := []) (rest := []) (wr := (wX7 g a0 r0 s0)) C dX7_bestMove_24 ml_RX7_145 wv_X1_isEnded (m_X1_isEnded (a0 := (r0 3)) (r0 := r1) (q0_0 := q1_0) (r1 := r2) hg hx1) [4, 5, 6, 7, 8, 9, 10, 11, 12, 13, 14, 15, 16] [0, 1, 2, 3] rfl rfl ⟨by decide, by decide⟩ (Nat.le_of_ble_eq_true rfl) ⟨by decide, by decide⟩ rfl rfl rfl rfl rfl rfl rfl (by decide) (ex_k C (cs' := 0) (ss' := 0) (wF := (wX7 g a0 r0 s0 ++ wX1 g (r0 3) r1 q1_0 s1 ++ wX5 g q1_0 r2 s2)) [0, 1, 2, 3, 4, 5, 6, 7, 8, 9, 10, 11, 12, 13, 14, 15, 16] rfl rfl ?_)
  refine z_if_eq (pc := 27) C dX7_bestMove_27 (tgt := 33) (by decide) (fun hc => ?_) (fun hc => ?_)
  · replace h := (ite_e h).1 hc
    refine z_aload_n (pc := 33) (x := a0) C dX7_bestMove_33 (i := 0) rfl rfl ?_
    refine z_get (pc := 34) (v := .ref (r0 12)) C 0 dX7_bestMove_34 fl_RX7_54 rfl rfl ?_
    refine z_aload_n (pc := 37) (x := a0) C dX7_bestMove_37 (i := 0) rfl rfl ?_
    refine z_get (pc := 38) (v := .ref (r0 3)) C 0 dX7_bestMove_38 fl_RX7_67 rfl rfl ?_
    exact nomatch h
  · replace h := (ite_e h).2 hc
    refine z_bipush (pc := 30) C dX7_bestMove_30 bp_m3 ?_
    exact nomatch h
def ft_X7_bestMove (N : Nat) (s0 : Ob) (s1 : Ob) (s2 : Ob) (p1 : Int32) : Option (Nat) := (if p1 = 0 then (ft_X7_bestMove_20 N s0 s1 s2 p1 ) else (if p1 = (1 : Int32) then (ft_X7_bestMove_20 N s0 s1 s2 p1 ) else (some 2)))
theorem mt_X7_bestMove {g : Gp} {a0 : Nat} {r0 : Nat → Nat} {r1 : Nat → Nat} {q1_0 : Nat} {r2 : Nat → Nat} {N : Nat} {s0 : Ob} {s1 : Ob} {s2 : Ob} {p1 : Int32} {res : Nat} (hg : Ok g) (h : ft_X7_bestMove N s0 s1 s2 p1 = some res) : Tx g yX7_bestMove cX7_bestMove 2 (some .int) (zrt 6 82) [.ref a0, .int p1] (wX7 g a0 r0 s0 ++ wX1 g (r0 3) r1 q1_0 s1 ++ wX5 g q1_0 r2 s2) (xn res) := by
  refine tx_of rfl hg (by show _ ≤ _; exact Nat.le_of_ble_eq_true rfl) (fun K C T => ?_)
  show Zs K 0 0 (wX7 g a0 r0 s0 ++ wX1 g (r0 3) r1 q1_0 s1 ++ wX5 g q1_0 r2 s2) [(0, .ref a0), (1, .int p1)] 0 []
  unfold ft_X7_bestMove at h
  refine z_iload_n (pc := 0) (x := p1) C dX7_bestMove_0 (i := 1) rfl rfl ?_
  refine z_if_eq (pc := 1) C dX7_bestMove_1 (tgt := 20) (by decide) (fun hc => ?_) (fun hc => ?_)
  · replace h := (ite_e h).1 hc
    exact mt_X7_bestMove_20 (a0 := a0) (r0 := r0) (r1 := r1) (q1_0 := q1_0) (r2 := r2) hg C T  h
  · replace h := (ite_e h).2 hc
    refine z_iload_n (pc := 4) (x := p1) C dX7_bestMove_4 (i := 1) rfl rfl ?_
    refine z_iconst (pc := 5) C dX7_bestMove_5 ic_1 ?_
    refine z_icmp_eq (pc := 6) C dX7_bestMove_6 (tgt := 20) (by decide) (fun hc => ?_) (fun hc => ?_)
    · replace h := (ite_e h).1 hc
      exact mt_X7_bestMove_20 (a0 := a0) (r0 := r0) (r1 := r1) (q1_0 := q1_0) (r2 := r2) hg C T  h
    · replace h := (ite_e h).2 hc
      replace h := Option.some.inj h
      subst h
      exact z_thrW (pc := 9) (E := "java/lang/IllegalArgumentException") C T xok_2 (by decide +kernel) wx_RX7_138_142 (str_RX7_326 hg).1 dX7_bestMove_9 dX7_bestMove_12 dX7_bestMove_13 dX7_bestMove_16 dX7_bestMove_19 (by decide) (Nat.le_of_ble_eq_true rfl) (by decide) (by decide) (by decide) (by decide)
def ft_X7_total_10 (N : Nat) (s0 : Ob) (s1 : Ob) (p1 : Int32)   : Option (Nat) := (some 2)
theorem mt_X7_total_10 {K : Kt} {g : Gp} {a0 : Nat} {r0 : Nat → Nat} {r1 : Nat → Nat} {q1_0 : Nat} {N : Nat} {s0 : Ob} {s1 : Ob} {p1 : Int32} {res : Nat} (hg : Ok g) (C : Cx K g cX7_total RX7 2 (zrt 6 82)) (T : Tt K (xn res) (wX7 g a0 r0 s0 ++ wX1 g (r0 3) r1 q1_0 s1) 1 6)  (h : ft_X7_total_10 N s0 s1 p1  = some res) : Zs K 0 0 (wX7 g a0 r0 s0 ++ wX1 g (r0 3) r1 q1_0 s1) [] 10 [] := by
  unfold ft_X7_total_10 at h
  replace h := Option.some.inj h
  subst h
  exact z_thrW (pc := 10) (E := "java/lang/IllegalArgumentException") C T xok_2 (by decide +kernel) wx_RX7_138_142 (str_RX7_338 hg).1 dX7_total_10 dX7_total_13 dX7_total_14 dX7_total_17 dX7_total_20 (by decide) (Nat.le_of_ble_eq_true rfl) (by decide) (by decide) (by decide) (by decide)
def ft_X7_total (N : Nat) (s0 : Ob) (s1 : Ob) (p1 : Int32) : Option (Nat) := (if p1 < 0 then (ft_X7_total_10 N s0 s1 p1 ) else (if p1 < (7 : Int32) then (chk (inb p1 7) none) else (ft_X7_total_10 N s0 s1 p1 )))
theorem mt_X7_total {g : Gp} {a0 : Nat} {r0 : Nat → Nat} {r1 : Nat → Nat} {q1_0 : Nat} {N : Nat} {s0 : Ob} {s1 : Ob} {p1 : Int32} {res : Nat} (hg : Ok g) (h : ft_X7_total N s0 s1 p1 = some res) : Tx g yX7_total cX7_total 2 (some .int) (zrt 6 82) [.ref a0, .int p1] (wX7 g a0 r0 s0 ++ wX1 g (r0 3) r1 q1_0 s1) (xn res) := by
  refine tx_of rfl hg (by show _ ≤ _; exact Nat.le_of_ble_eq_true rfl) (fun K C T => ?_)
  show Zs K 0 0 (wX7 g a0 r0 s0 ++ wX1 g (r0 3) r1 q1_0 s1) [(0, .ref a0), (1, .int p1)] 0 []
  unfold ft_X7_total at h
  refine z_iload_n (pc := 0) (x := p1) C dX7_total_0 (i := 1) rfl rfl ?_
  refine z_if_lt (pc := 1) C dX7_total_1 (tgt := 10) (by decide) (fun hc => ?_) (fun hc => ?_)
  · replace h := (ite_e h).1 hc
    refine z_lv (lv' := []) [] rfl ?_
    exact mt_X7_total_10 (a0 := a0) (r0 := r0) (r1 := r1) (q1_0 := q1_0) hg C T  h
  · replace h := (ite_e h).2 hc
    refine z_iload_n (pc := 4) (x := p1) C dX7_total_4 (i := 1) rfl rfl ?_
    refine z_bipush (pc := 5) C dX7_total_5 bp_7 ?_
    refine z_icmp_lt (pc := 7) C dX7_total_7 (tgt := 21) (by decide) (fun hc => ?_) (fun hc => ?_)
    · replace h := (ite_e h).1 hc
      refine z_aload_n (pc := 21) (x := a0) C dX7_total_21 (i := 0) rfl rfl ?_
      refine z_get (pc := 22) (v := .ref (r0 3)) C 0 dX7_total_22 fl_RX7_67 rfl rfl ?_
      refine z_get (pc := 25) (v := .ref (r1 7)) C 4 dX7_total_25 fl_RX7_340 rfl rfl ?_
      refine z_iload_n (pc := 28) (x := p1) C dX7_total_28 (i := 1) rfl rfl ?_
      replace h := chk_e h
      obtain ⟨hb1, h⟩ := h
      refine z_iald (pc := 29) C 5 dX7_total_29 rfl hb1 ?_
      exact nomatch h
    · replace h := (ite_e h).2 hc
      refine z_lv (lv' := []) [] rfl ?_
      exact mt_X7_total_10 (a0 := a0) (r0 := r0) (r1 := r1) (q1_0 := q1_0) hg C T  h
def ft_X7_logPart_9 (N : Nat) (s0 : Ob) (s1 : Ob) (p1 : Int32) (p2 : Int32)   : Option (Nat) := (some 2)
theorem mt_X7_logPart_9 {K : Kt} {g : Gp} {a0 : Nat} {r0 : Nat → Nat} {r1 : Nat → Nat} {q1_0 : Nat} {N : Nat} {s0 : Ob} {s1 : Ob} {p1 : Int32} {p2 : Int32} {res : Nat} (hg : Ok g) (C : Cx K g cX7_logPart RX7 3 (zrt 6 82)) (T : Tt K (xn res) (wX7 g a0 r0 s0 ++ wX1 g (r0 3) r1 q1_0 s1) 1 6)  (h : ft_X7_logPart_9 N s0 s1 p1 p2  = some res) : Zs K 0 0 (wX7 g a0 r0 s0 ++ wX1 g (r0 3) r1 q1_0 s1) [] 9 [] := by
  unfold ft_X7_logPart_9 at h
  replace h := Option.some.inj h
  subst h
  exact z_thrW (pc := 9) (E := "java/lang/IllegalArgumentException") C T xok_2 (by decide +kernel) wx_RX7_138_142 (str_RX7_343 hg).1 dX7_logPart_9 dX7_logPart_12 dX7_logPart_13 dX7_logPart_16 dX7_logPart_19 (by decide) (Nat.le_of_ble_eq_true rfl) (by decide) (by decide) (by decide) (by decide)
def ft_X7_logPart (N : Nat) (s0 : Ob) (s1 : Ob) (p1 : Int32) (p2 : Int32) : Option (Nat) := (if p2 < 0 then (ft_X7_logPart_9 N s0 s1 p1 p2 ) else (if p2 < (4 : Int32) then (ob (f_X1_loggedPart N s1 p1 p2) fun x1 => none) else (ft_X7_logPart_9 N s0 s1 p1 p2 )))
theorem mt_X7_logPart {g : Gp} {a0 : Nat} {r0 : Nat → Nat} {r1 : Nat → Nat} {q1_0 : Nat} {N : Nat} {s0 : Ob} {s1 : Ob} {p1 : Int32} {p2 : Int32} {res : Nat} (hg : Ok g) (h : ft_X7_logPart N s0 s1 p1 p2 = some res) : Tx g yX7_logPart cX7_logPart 3 (some .int) (zrt 6 82) [.ref a0, .int p1, .int p2] (wX7 g a0 r0 s0 ++ wX1 g (r0 3) r1 q1_0 s1) (xn res) := by
  refine tx_of rfl hg (by show _ ≤ _; exact Nat.le_of_ble_eq_true rfl) (fun K C T => ?_)
  show Zs K 0 0 (wX7 g a0 r0 s0 ++ wX1 g (r0 3) r1 q1_0 s1) [(0, .ref a0), (1, .int p1), (2, .int p2)] 0 []
  unfold ft_X7_logPart at h
  refine z_iload_n (pc := 0) (x := p2) C dX7_logPart_0 (i := 2) rfl rfl ?_
  refine z_if_lt (pc := 1) C dX7_logPart_1 (tgt := 9) (by decide) (fun hc => ?_) (fun hc => ?_)
  · replace h := (ite_e h).1 hc
    refine z_lv (lv' := []) [] rfl ?_
    exact mt_X7_logPart_9 (a0 := a0) (r0 := r0) (r1 := r1) (q1_0 := q1_0) hg C T  h
  · replace h := (ite_e h).2 hc
    refine z_iload_n (pc := 4) (x := p2) C dX7_logPart_4 (i := 2) rfl rfl ?_
    refine z_iconst (pc := 5) C dX7_logPart_5 ic_4 ?_
    refine z_icmp_lt (pc := 6) C dX7_logPart_6 (tgt := 20) (by decide) (fun hc => ?_) (fun hc => ?_)
    · replace h := (ite_e h).1 hc
      refine z_aload_n (pc := 20) (x := a0) C dX7_logPart_20 (i := 0) rfl rfl ?_
      refine z_get (pc := 21) (v := .ref (r0 3)) C 0 dX7_logPart_21 fl_RX7_67 rfl rfl ?_
      refine z_iload_n (pc := 24) (x := p1) C dX7_logPart_24 (i := 1) rfl rfl ?_
      refine z_iload_n (pc := 25) (x := p2) C dX7_logPart_25 (i := 2) rfl rfl ?_
      replace h := ob_e h
      obtain ⟨x1, hx1, h⟩ := h
      refine z_callV (pc := 26) (As := [.int p1, .int p2]) (rest := []) (wr := (wX7 g a0 r0 s0)) C dX7_logPart_26 ml_RX7_345 wv_X1_loggedPart (m_X1_loggedPart (a0 := (r0 3)) (r0 := r1) (q0_0 := q1_0) hg hx1) [4, 5, 6, 7, 8, 9, 10, 11, 12] [0, 1, 2, 3] rfl rfl ⟨by decide, by decide⟩ (Nat.le_of_ble_eq_true rfl) ⟨by decide, by decide⟩ rfl rfl rfl rfl rfl rfl rfl (by decide) (ex_k C (cs' := 0) (ss' := 0) (wF := (wX7 g a0 r0 s0 ++ wX1 g (r0 3) r1 q1_0 s1)) [0, 1, 2, 3, 4, 5, 6, 7, 8, 9, 10, 11, 12] rfl rfl ?_)
      exact nomatch h
    · replace h := (ite_e h).2 hc
      refine z_lv (lv' := []) [] rfl ?_
      exact mt_X7_logPart_9 (a0 := a0) (r0 := r0) (r1 := r1) (q1_0 := q1_0) hg C T  h
def ft_X7_writeHand (N : Nat) (s0 : Ob) (s1 : Ob) (s2 : Ob) (p1 : Int32) (p2 : Int32) : Option (Nat) := (tb (f_X7_needPlayer N s0 s1 s2 p1) (ft_X7_needPlayer N s0 s1 s2 p1) fun x1 => none)
theorem mt_X7_writeHand {g : Gp} {a0 : Nat} {r0 : Nat → Nat} {r1 : Nat → Nat} {q1_0 : Nat} {r2 : Nat → Nat} {N : Nat} {s0 : Ob} {s1 : Ob} {s2 : Ob} {p1 : Int32} {p2 : Int32} {res : Nat} (hg : Ok g) (h : ft_X7_writeHand N s0 s1 s2 p1 p2 = some res) : Tx g yX7_writeHand cX7_writeHand 6 (some .int) (zrt 7 103) [.ref a0, .int p1, .int p2] (wX7 g a0 r0 s0 ++ wX1 g (r0 3) r1 q1_0 s1 ++ wX5 g q1_0 r2 s2) (xn res) := by
  refine tx_of rfl hg (by show _ ≤ _; exact Nat.le_of_ble_eq_true rfl) (fun K C T => ?_)
  show Zs K 0 0 (wX7 g a0 r0 s0 ++ wX1 g (r0 3) r1 q1_0 s1 ++ wX5 g q1_0 r2 s2) [(0, .ref a0), (1, .int p1), (2, .int p2)] 0 []
  unfold ft_X7_writeHand at h
  refine z_aload_n (pc := 0) (x := a0) C dX7_writeHand_0 (i := 0) rfl rfl ?_
  refine z_iload_n (pc := 1) (x := p1) C dX7_writeHand_1 (i := 1) rfl rfl ?_
  rcases tb_e h with ⟨x1, hx1, h⟩ | h
  · refine z_callV (pc := 2) (As := [.int p1]) (rest := []) (wr := ([] : va_W)) C dX7_writeHand_2 ml_RX7_164 wv_X7_needPlayer (m_X7_needPlayer (a0 := a0) (r0 := r0) (r1 := r1) (q1_0 := q1_0) (r2 := r2) hg hx1) [0, 1, 2, 3, 4, 5, 6, 7, 8, 9, 10, 11, 12, 13, 14, 15, 16] [] rfl rfl ⟨by decide, by decide⟩ (Nat.le_of_ble_eq_true rfl) ⟨by decide, by decide⟩ rfl rfl rfl rfl rfl rfl rfl (by decide) (ex_k C (cs' := 0) (ss' := 0) (wF := (wX7 g a0 r0 s0 ++ wX1 g (r0 3) r1 q1_0 s1 ++ wX5 g q1_0 r2 s2)) [0, 1, 2, 3, 4, 5, 6, 7, 8, 9, 10, 11, 12, 13, 14, 15, 16] rfl rfl ?_)
    refine z_aload_n (pc := 5) (x := a0) C dX7_writeHand_5 (i := 0) rfl rfl ?_
    refine z_iconst (pc := 6) C dX7_writeHand_6 ic_0 ?_
    exact nomatch h
  · exact z_callVT (pc := 2) (As := [.int p1]) (rest := []) (wr := ([] : va_W)) C T dX7_writeHand_2 ml_RX7_164 wv_X7_needPlayer (mt_X7_needPlayer (a0 := a0) (r0 := r0) (r1 := r1) (q1_0 := q1_0) (r2 := r2) hg h) [0, 1, 2, 3, 4, 5, 6, 7, 8, 9, 10, 11, 12, 13, 14, 15, 16] [] [0, 1, 2, 3, 4, 5, 6, 7, 8, 9, 10, 11, 12, 13, 14, 15, 16] rfl rfl ⟨by decide, by decide⟩ (Nat.le_of_ble_eq_true rfl) ⟨by decide, by decide⟩ rfl rfl rfl rfl rfl rfl rfl (by decide) rfl (by decide) (by decide)
def ft_X7_needSlot_9 (N : Nat) (s0 : Ob) (p1 : Int32)   : Option (Nat) := (some 2)
theorem mt_X7_needSlot_9 {K : Kt} {g : Gp} {a0 : Nat} {r0 : Nat → Nat} {N : Nat} {s0 : Ob} {p1 : Int32} {res : Nat} (hg : Ok g) (C : Cx K g cX7_needSlot RX7 2 (zrt 6 82)) (T : Tt K (xn res) (wX7 g a0 r0 s0) 1 6)  (h : ft_X7_needSlot_9 N s0 p1  = some res) : Zs K 0 0 (wX7 g a0 r0 s0) [] 9 [] := by
  unfold ft_X7_needSlot_9 at h
  replace h := Option.some.inj h
  subst h
  exact z_thrW (pc := 9) (E := "java/lang/IllegalArgumentException") C T xok_2 (by decide +kernel) wx_RX7_138_142 (str_RX7_375 hg).1 dX7_needSlot_9 dX7_needSlot_12 dX7_needSlot_13 dX7_needSlot_16 dX7_needSlot_19 (by decide) (Nat.le_of_ble_eq_true rfl) (by decide) (by decide) (by decide) (by decide)
def ft_X7_needSlot (N : Nat) (s0 : Ob) (p1 : Int32) : Option (Nat) := (if p1 < 0 then (ft_X7_needSlot_9 N s0 p1 ) else (if p1 < (2 : Int32) then none else (ft_X7_needSlot_9 N s0 p1 )))
theorem mt_X7_needSlot {g : Gp} {a0 : Nat} {r0 : Nat → Nat} {N : Nat} {s0 : Ob} {p1 : Int32} {res : Nat} (hg : Ok g) (h : ft_X7_needSlot N s0 p1 = some res) : Tx g yX7_needSlot cX7_needSlot 2 none (zrt 6 82) [.ref a0, .int p1] (wX7 g a0 r0 s0) (xn res) := by
  refine tx_of rfl hg (by show _ ≤ _; exact Nat.le_of_ble_eq_true rfl) (fun K C T => ?_)
  show Zs K 0 0 (wX7 g a0 r0 s0) [(0, .ref a0), (1, .int p1)] 0 []
  unfold ft_X7_needSlot at h
  refine z_iload_n (pc := 0) (x := p1) C dX7_needSlot_0 (i := 1) rfl rfl ?_
  refine z_if_lt (pc := 1) C dX7_needSlot_1 (tgt := 9) (by decide) (fun hc => ?_) (fun hc => ?_)
  · replace h := (ite_e h).1 hc
    refine z_lv (lv' := []) [] rfl ?_
    exact mt_X7_needSlot_9 (a0 := a0) (r0 := r0) hg C T  h
  · replace h := (ite_e h).2 hc
    refine z_iload_n (pc := 4) (x := p1) C dX7_needSlot_4 (i := 1) rfl rfl ?_
    refine z_iconst (pc := 5) C dX7_needSlot_5 ic_2 ?_
    refine z_icmp_lt (pc := 6) C dX7_needSlot_6 (tgt := 20) (by decide) (fun hc => ?_) (fun hc => ?_)
    · replace h := (ite_e h).1 hc
      exact nomatch h
    · replace h := (ite_e h).2 hc
      refine z_lv (lv' := []) [] rfl ?_
      exact mt_X7_needSlot_9 (a0 := a0) (r0 := r0) hg C T  h
def ft_X7_saveSnapshot (N : Nat) (s0 : Ob) (p1 : Int32) : Option (Nat) := (tb (f_X7_needSlot N s0 p1) (ft_X7_needSlot N s0 p1) fun x1 => none)
theorem mt_X7_saveSnapshot {g : Gp} {a0 : Nat} {r0 : Nat → Nat} {N : Nat} {s0 : Ob} {p1 : Int32} {res : Nat} (hg : Ok g) (h : ft_X7_saveSnapshot N s0 p1 = some res) : Tx g yX7_saveSnapshot cX7_saveSnapshot 2 (some .int) (zrt 7 103) [.ref a0, .int p1] (wX7 g a0 r0 s0) (xn res) := by
  refine tx_of rfl hg (by show _ ≤ _; exact Nat.le_of_ble_eq_true rfl) (fun K C T => ?_)
  show Zs K 0 0 (wX7 g a0 r0 s0) [(0, .ref a0), (1, .int p1)] 0 []
  unfold ft_X7_saveSnapshot at h
  refine z_aload_n (pc := 0) (x := a0) C dX7_saveSnapshot_0 (i := 0) rfl rfl ?_
  refine z_iload_n (pc := 1) (x := p1) C dX7_saveSnapshot_1 (i := 1) rfl rfl ?_
  rcases tb_e h with ⟨x1, hx1, h⟩ | h
  · refine z_callV (pc := 2) (As := [.int p1]) (rest := []) (wr := ([] : va_W)) C dX7_saveSnapshot_2 ml_RX7_364 wv_X7_needSlot (m_X7_needSlot (a0 := a0) (r0 := r0) hg hx1) [0, 1, 2, 3] [] rfl rfl ⟨by decide, by decide⟩ (Nat.le_of_ble_eq_true rfl) ⟨by decide, by decide⟩ rfl rfl rfl rfl rfl rfl rfl (by decide) (ex_k C (cs' := 0) (ss' := 0) (wF := (wX7 g a0 r0 s0)) [0, 1, 2, 3] rfl rfl ?_)
    refine z_aload_n (pc := 5) (x := a0) C dX7_saveSnapshot_5 (i := 0) rfl rfl ?_
    refine z_get (pc := 6) (v := .ref (r0 7)) C 0 dX7_saveSnapshot_6 fl_RX7_28 rfl rfl ?_
    refine z_iload_n (pc := 9) (x := p1) C dX7_saveSnapshot_9 (i := 1) rfl rfl ?_
    exact nomatch h
  · exact z_callVT (pc := 2) (As := [.int p1]) (rest := []) (wr := ([] : va_W)) C T dX7_saveSnapshot_2 ml_RX7_364 wv_X7_needSlot (mt_X7_needSlot (a0 := a0) (r0 := r0) hg h) [0, 1, 2, 3] [] [0, 1, 2, 3] rfl rfl ⟨by decide, by decide⟩ (Nat.le_of_ble_eq_true rfl) ⟨by decide, by decide⟩ rfl rfl rfl rfl rfl rfl rfl (by decide) rfl (by decide) (by decide)
def ft_X7_restoreSnapshot (N : Nat) (s0 : Ob) (p1 : Int32) : Option (Nat) := (tb (f_X7_needSlot N s0 p1) (ft_X7_needSlot N s0 p1) fun x1 => (chk (inb p1 2) (if ((s0.2.2.1 8) (p1).toNatClampNeg) = 0 then none else none)))
theorem mt_X7_restoreSnapshot {g : Gp} {a0 : Nat} {r0 : Nat → Nat} {N : Nat} {s0 : Ob} {p1 : Int32} {res : Nat} (hg : Ok g) (h : ft_X7_restoreSnapshot N s0 p1 = some res) : Tx g yX7_restoreSnapshot cX7_restoreSnapshot 2 (some .int) (zrt 7 103) [.ref a0, .int p1] (wX7 g a0 r0 s0) (xn res) := by
  refine tx_of rfl hg (by show _ ≤ _; exact Nat.le_of_ble_eq_true rfl) (fun K C T => ?_)
  show Zs K 0 0 (wX7 g a0 r0 s0) [(0, .ref a0), (1, .int p1)] 0 []
  unfold ft_X7_restoreSnapshot at h
  refine z_aload_n (pc := 0) (x := a0) C dX7_restoreSnapshot_0 (i := 0) rfl rfl ?_
  refine z_iload_n (pc := 1) (x := p1) C dX7_restoreSnapshot_1 (i := 1) rfl rfl ?_
  rcases tb_e h with ⟨x1, hx1, h⟩ | h
  · refine z_callV (pc := 2) (As := [.int p1]) (rest := []) (wr := ([] : va_W)) C dX7_restoreSnapshot_2 ml_RX7_364 wv_X7_needSlot (m_X7_needSlot (a0 := a0) (r0 := r0) hg hx1) [0, 1, 2, 3] [] rfl rfl ⟨by decide, by decide⟩ (Nat.le_of_ble_eq_true rfl) ⟨by decide, by decide⟩ rfl rfl rfl rfl rfl rfl rfl (by decide) (ex_k C (cs' := 0) (ss' := 0) (wF := (wX7 g a0 r0 s0)) [0, 1, 2, 3] rfl rfl ?_)
    refine z_aload_n (pc := 5) (x := a0) C dX7_restoreSnapshot_5 (i := 0) rfl rfl ?_
    refine z_get (pc := 6) (v := .ref (r0 8)) C 0 dX7_restoreSnapshot_6 fl_RX7_31 rfl rfl ?_
    refine z_iload_n (pc := 9) (x := p1) C dX7_restoreSnapshot_9 (i := 1) rfl rfl ?_
    replace h := chk_e h
    obtain ⟨hb2, h⟩ := h
    refine z_zald (pc := 10) C 2 dX7_restoreSnapshot_10 rfl hb2 ?_
    refine z_if_ne (pc := 11) C dX7_restoreSnapshot_11 (tgt := 16) (by decide) (fun hc => ?_) (fun hc => ?_)
    · replace h := (ite_e h).2 hc
      refine z_aload_n (pc := 16) (x := a0) C dX7_restoreSnapshot_16 (i := 0) rfl rfl ?_
      refine z_get (pc := 17) (v := .ref (r0 3)) C 0 dX7_restoreSnapshot_17 fl_RX7_67 rfl rfl ?_
      refine z_aload_n (pc := 20) (x := a0) C dX7_restoreSnapshot_20 (i := 0) rfl rfl ?_
      refine z_get (pc := 21) (v := .ref (r0 7)) C 0 dX7_restoreSnapshot_21 fl_RX7_28 rfl rfl ?_
      refine z_iload_n (pc := 24) (x := p1) C dX7_restoreSnapshot_24 (i := 1) rfl rfl ?_
      exact nomatch h
    · replace h := (ite_e h).1 hc
      refine z_iconst (pc := 14) C dX7_restoreSnapshot_14 ic_m1 ?_
      exact nomatch h
  · exact z_callVT (pc := 2) (As := [.int p1]) (rest := []) (wr := ([] : va_W)) C T dX7_restoreSnapshot_2 ml_RX7_364 wv_X7_needSlot (mt_X7_needSlot (a0 := a0) (r0 := r0) hg h) [0, 1, 2, 3] [] [0, 1, 2, 3] rfl rfl ⟨by decide, by decide⟩ (Nat.le_of_ble_eq_true rfl) ⟨by decide, by decide⟩ rfl rfl rfl rfl rfl rfl rfl (by decide) rfl (by decide) (by decide)
