/-! OWN, written by wip/whole/tools/mkall.py: what each method does to its cells, and the walk that shows it -/
def f_X4_readCard_29 (N : Nat) (n1 : Nat) (s1 : (Nat → Int32))  (v1 : Int32) (s0 : Ob) (s2 : Ob) : Option (Ob × Ob) := (ob (f_X4_fail N s0 (1 : Int32) v1) fun x3 => (some (x3, s2)))
theorem m_X4_readCard_29 {K : Kt} {g : Gp} {a0 : Nat} {r0 : Nat → Nat} {q0_0 : Nat} {q0_4 : Nat} {r2 : Nat → Nat} {N : Nat} {n1 : Nat} {s1 : (Nat → Int32)} {res : Ob × Ob} (hg : Ok g) (C : Cx K g cX4_readCard RX4 5 (zrm 2 42)) (X : Rx K (exR none (wX4 g a0 r0 q0_0 q0_4 res.1 ++ wA g q0_4 n1 s1 ++ wX5 g q0_0 r2 res.2)) 0 0 none) (v1 : Int32) (s0 : Ob) (s2 : Ob) (h : f_X4_readCard_29 N n1 s1 v1 s0 s2 = some res) : Zs K 0 0 (wX4 g a0 r0 q0_0 q0_4 s0 ++ wA g q0_4 n1 s1 ++ wX5 g q0_0 r2 s2) [(0, .ref a0), (1, .int v1)] 29 [] := by
  unfold f_X4_readCard_29 at h
  refine z_aload_n (pc := 29) (x := a0) C dX4_readCard_29 (i := 0) rfl rfl ?_
  refine z_iconst (pc := 30) C dX4_readCard_30 ic_1 ?_
  refine z_iload_n (pc := 31) (x := v1) C dX4_readCard_31 (i := 1) rfl rfl ?_
  replace h := ob_e h
  obtain ⟨x3, hx3, h⟩ := h
  refine z_callV (pc := 32) (As := [.int (1 : Int32), .int v1]) (rest := []) (wr := (wA g q0_4 n1 s1 ++ wX5 g q0_0 r2 s2)) C dX4_readCard_32 ml_RX4_62 wv_X4_fail (m_X4_fail (a0 := a0) (r0 := r0) (q0_0 := q0_0) (q0_4 := q0_4) hg hx3) [0] [1, 2, 3, 4, 5] rfl rfl ⟨by decide, by decide⟩ (Nat.le_of_ble_eq_true rfl) ⟨by decide, by decide⟩ rfl rfl rfl rfl rfl rfl rfl (by decide) (ex_k C (cs' := 0) (ss' := 0) (wF := (wX4 g a0 r0 q0_0 q0_4 x3 ++ wA g q0_4 n1 s1 ++ wX5 g q0_0 r2 s2)) [5, 0, 1, 2, 3, 4] rfl rfl ?_)
  exact z_vret C X dX4_readCard_35 (by rw [← Option.some.inj h]; exact ⟨rfl, rfl⟩) (by decide) (by decide)
def f_X4_readCard_119 (N : Nat) (n1 : Nat) (s1 : (Nat → Int32))  (v1 : Int32) (s0 : Ob) (s2 : Ob) : Option (Ob × Ob) := (ob (f_X4_fail N s0 (2 : Int32) v1) fun x9 => (some (x9, s2)))
theorem m_X4_readCard_119 {K : Kt} {g : Gp} {a0 : Nat} {r0 : Nat → Nat} {q0_0 : Nat} {q0_4 : Nat} {r2 : Nat → Nat} {N : Nat} {n1 : Nat} {s1 : (Nat → Int32)} {res : Ob × Ob} (hg : Ok g) (C : Cx K g cX4_readCard RX4 5 (zrm 2 42)) (X : Rx K (exR none (wX4 g a0 r0 q0_0 q0_4 res.1 ++ wA g q0_4 n1 s1 ++ wX5 g q0_0 r2 res.2)) 0 0 none) (v1 : Int32) (s0 : Ob) (s2 : Ob) (h : f_X4_readCard_119 N n1 s1 v1 s0 s2 = some res) : Zs K 0 0 (wX4 g a0 r0 q0_0 q0_4 s0 ++ wA g q0_4 n1 s1 ++ wX5 g q0_0 r2 s2) [(0, .ref a0), (1, .int v1)] 119 [] := by
  unfold f_X4_readCard_119 at h
  refine z_aload_n (pc := 119) (x := a0) C dX4_readCard_119 (i := 0) rfl rfl ?_
  refine z_iconst (pc := 120) C dX4_readCard_120 ic_2 ?_
  refine z_iload_n (pc := 121) (x := v1) C dX4_readCard_121 (i := 1) rfl rfl ?_
  replace h := ob_e h
  obtain ⟨x9, hx9, h⟩ := h
  refine z_callV (pc := 122) (As := [.int (2 : Int32), .int v1]) (rest := []) (wr := (wA g q0_4 n1 s1 ++ wX5 g q0_0 r2 s2)) C dX4_readCard_122 ml_RX4_62 wv_X4_fail (m_X4_fail (a0 := a0) (r0 := r0) (q0_0 := q0_0) (q0_4 := q0_4) hg hx9) [0] [1, 2, 3, 4, 5] rfl rfl ⟨by decide, by decide⟩ (Nat.le_of_ble_eq_true rfl) ⟨by decide, by decide⟩ rfl rfl rfl rfl rfl rfl rfl (by decide) (ex_k C (cs' := 0) (ss' := 0) (wF := (wX4 g a0 r0 q0_0 q0_4 x9 ++ wA g q0_4 n1 s1 ++ wX5 g q0_0 r2 s2)) [5, 0, 1, 2, 3, 4] rfl rfl ?_)
  refine z_goto (pc := 125) C dX4_readCard_125 (tgt := 163) (by decide) ?_
  exact z_vret C X dX4_readCard_163 (by rw [← Option.some.inj h]; exact ⟨rfl, rfl⟩) (by decide) (by decide)
def f_X4_readCard_85 (N : Nat) (n1 : Nat) (s1 : (Nat → Int32))  (v1 : Int32) (v2 : Int32) (v3 : Int32) (t0 : Int32) (s0 : Ob) (s2 : Ob) : Option (Ob × Ob) := (if (s2.1 0) ≤ v2 then (f_X4_readCard_119 N n1 s1 v1 s0 s2) else (if t0 = 0 then (f_X4_readCard_119 N n1 s1 v1 s0 s2) else (if v3 < (1 : Int32) then (f_X4_readCard_119 N n1 s1 v1 s0 s2) else (if v3 ≤ (s2.1 1) then (if (s2.1 7) < (40 : Int32) then (ob (f_X5_addCard N s2 (((v2 * (5 : Int32)) + v3) - (1 : Int32))) fun x10 => (some (s0, x10))) else (ob (f_X4_fail N s0 (3 : Int32) v1) fun x11 => (some (x11, s2)))) else (f_X4_readCard_119 N n1 s1 v1 s0 s2)))))
theorem m_X4_readCard_85 {K : Kt} {g : Gp} {a0 : Nat} {r0 : Nat → Nat} {q0_0 : Nat} {q0_4 : Nat} {r2 : Nat → Nat} {N : Nat} {n1 : Nat} {s1 : (Nat → Int32)} {res : Ob × Ob} (hg : Ok g) (C : Cx K g cX4_readCard RX4 5 (zrm 2 42)) (X : Rx K (exR none (wX4 g a0 r0 q0_0 q0_4 res.1 ++ wA g q0_4 n1 s1 ++ wX5 g q0_0 r2 res.2)) 0 0 none) (v1 : Int32) (v2 : Int32) (v3 : Int32) (t0 : Int32) (s0 : Ob) (s2 : Ob) (h : f_X4_readCard_85 N n1 s1 v1 v2 v3 t0 s0 s2 = some res) : Zs K 0 0 (wX4 g a0 r0 q0_0 q0_4 s0 ++ wA g q0_4 n1 s1 ++ wX5 g q0_0 r2 s2) [(0, .ref a0), (1, .int v1), (2, .int v2), (3, .int v3)] 85 [.int t0] := by
  unfold f_X4_readCard_85 at h
  refine z_istore (pc := 85) C dX4_readCard_85 (by decide) (lv' := [(4, .int t0), (0, .ref a0), (1, .int v1), (2, .int v2), (3, .int v3)]) rfl ?_
  refine z_iload_n (pc := 87) (x := v2) C dX4_readCard_87 (i := 2) rfl rfl ?_
  refine z_aload_n (pc := 88) (x := a0) C dX4_readCard_88 (i := 0) rfl rfl ?_
  refine z_get (pc := 89) (v := .ref q0_0) C 0 dX4_readCard_89 fl_RX4_12 rfl rfl ?_
  refine z_get (pc := 92) (v := .int (s2.1 0)) C 2 dX4_readCard_92 fl_RX4_105 rfl rfl ?_
  refine z_icmp_ge (pc := 95) C dX4_readCard_95 (tgt := 119) (by decide) (fun hc => ?_) (fun hc => ?_)
  · replace h := (ite_e h).1 hc
    refine z_lv (lv' := [(0, .ref a0), (1, .int v1)]) [1, 2] rfl ?_
    exact m_X4_readCard_119 (a0 := a0) (r0 := r0) (q0_0 := q0_0) (q0_4 := q0_4) (r2 := r2) hg C X v1 s0 s2 h
  · replace h := (ite_e h).2 hc
    refine z_iload (pc := 98) (x := t0) C dX4_readCard_98 rfl ?_
    refine z_if_eq (pc := 100) C dX4_readCard_100 (tgt := 119) (by decide) (fun hc => ?_) (fun hc => ?_)
    · replace h := (ite_e h).1 hc
      refine z_lv (lv' := [(0, .ref a0), (1, .int v1)]) [1, 2] rfl ?_
      exact m_X4_readCard_119 (a0 := a0) (r0 := r0) (q0_0 := q0_0) (q0_4 := q0_4) (r2 := r2) hg C X v1 s0 s2 h
    · replace h := (ite_e h).2 hc
      refine z_iload_n (pc := 103) (x := v3) C dX4_readCard_103 (i := 3) rfl rfl ?_
      refine z_iconst (pc := 104) C dX4_readCard_104 ic_1 ?_
      refine z_icmp_lt (pc := 105) C dX4_readCard_105 (tgt := 119) (by decide) (fun hc => ?_) (fun hc => ?_)
      · replace h := (ite_e h).1 hc
        refine z_lv (lv' := [(0, .ref a0), (1, .int v1)]) [1, 2] rfl ?_
        exact m_X4_readCard_119 (a0 := a0) (r0 := r0) (q0_0 := q0_0) (q0_4 := q0_4) (r2 := r2) hg C X v1 s0 s2 h
      · replace h := (ite_e h).2 hc
        refine z_iload_n (pc := 108) (x := v3) C dX4_readCard_108 (i := 3) rfl rfl ?_
        refine z_aload_n (pc := 109) (x := a0) C dX4_readCard_109 (i := 0) rfl rfl ?_
        refine z_get (pc := 110) (v := .ref q0_0) C 0 dX4_readCard_110 fl_RX4_12 rfl rfl ?_
        refine z_get (pc := 113) (v := .int (s2.1 1)) C 2 dX4_readCard_113 fl_RX4_114 rfl rfl ?_
        refine z_icmp_le (pc := 116) C dX4_readCard_116 (tgt := 128) (by decide) (fun hc => ?_) (fun hc => ?_)
        · replace h := (ite_e h).1 hc
          refine z_aload_n (pc := 128) (x := a0) C dX4_readCard_128 (i := 0) rfl rfl ?_
          refine z_get (pc := 129) (v := .ref q0_0) C 0 dX4_readCard_129 fl_RX4_12 rfl rfl ?_
          refine z_get (pc := 132) (v := .int (s2.1 7)) C 2 dX4_readCard_132 fl_RX4_53 rfl rfl ?_
          refine z_bipush (pc := 135) C dX4_readCard_135 bp_40 ?_
          refine z_icmp_lt (pc := 137) C dX4_readCard_137 (tgt := 149) (by decide) (fun hc => ?_) (fun hc => ?_)
          · replace h := (ite_e h).1 hc
            refine z_aload_n (pc := 149) (x := a0) C dX4_readCard_149 (i := 0) rfl rfl ?_
            refine z_get (pc := 150) (v := .ref q0_0) C 0 dX4_readCard_150 fl_RX4_12 rfl rfl ?_
            refine z_iload_n (pc := 153) (x := v2) C dX4_readCard_153 (i := 2) rfl rfl ?_
            refine z_iconst (pc := 154) C dX4_readCard_154 ic_5 ?_
            refine z_imul (pc := 155) C dX4_readCard_155 ?_
            refine z_iload_n (pc := 156) (x := v3) C dX4_readCard_156 (i := 3) rfl rfl ?_
            refine z_iadd (pc := 157) C dX4_readCard_157 ?_
            refine z_iconst (pc := 158) C dX4_readCard_158 ic_1 ?_
            refine z_isub (pc := 159) C dX4_readCard_159 ?_
            replace h := ob_e h
            obtain ⟨x10, hx10, h⟩ := h
            refine z_callV (pc := 160) (As := [.int (((v2 * (5 : Int32)) + v3) - (1 : Int32))]) (rest := []) (wr := (wX4 g a0 r0 q0_0 q0_4 s0 ++ wA g q0_4 n1 s1)) C dX4_readCard_160 ml_RX4_149 wv_X5_addCard (m_X5_addCard (a0 := q0_0) (r0 := r2) hg hx10) [2, 3, 4, 5] [0, 1] rfl rfl ⟨by decide, by decide⟩ (Nat.le_of_ble_eq_true rfl) ⟨by decide, by decide⟩ rfl rfl rfl rfl rfl rfl rfl (by decide) (ex_k C (cs' := 0) (ss' := 0) (wF := (wX4 g a0 r0 q0_0 q0_4 s0 ++ wA g q0_4 n1 s1 ++ wX5 g q0_0 r2 x10)) [0, 1, 2, 3, 4, 5] rfl rfl ?_)
            exact z_vret C X dX4_readCard_163 (by rw [← Option.some.inj h]; exact ⟨rfl, rfl⟩) (by decide) (by decide)
          · replace h := (ite_e h).2 hc
            refine z_aload_n (pc := 140) (x := a0) C dX4_readCard_140 (i := 0) rfl rfl ?_
            refine z_iconst (pc := 141) C dX4_readCard_141 ic_3 ?_
            refine z_iload_n (pc := 142) (x := v1) C dX4_readCard_142 (i := 1) rfl rfl ?_
            replace h := ob_e h
            obtain ⟨x11, hx11, h⟩ := h
            refine z_callV (pc := 143) (As := [.int (3 : Int32), .int v1]) (rest := []) (wr := (wA g q0_4 n1 s1 ++ wX5 g q0_0 r2 s2)) C dX4_readCard_143 ml_RX4_62 wv_X4_fail (m_X4_fail (a0 := a0) (r0 := r0) (q0_0 := q0_0) (q0_4 := q0_4) hg hx11) [0] [1, 2, 3, 4, 5] rfl rfl ⟨by decide, by decide⟩ (Nat.le_of_ble_eq_true rfl) ⟨by decide, by decide⟩ rfl rfl rfl rfl rfl rfl rfl (by decide) (ex_k C (cs' := 0) (ss' := 0) (wF := (wX4 g a0 r0 q0_0 q0_4 x11 ++ wA g q0_4 n1 s1 ++ wX5 g q0_0 r2 s2)) [5, 0, 1, 2, 3, 4] rfl rfl ?_)
            refine z_goto (pc := 146) C dX4_readCard_146 (tgt := 163) (by decide) ?_
            exact z_vret C X dX4_readCard_163 (by rw [← Option.some.inj h]; exact ⟨rfl, rfl⟩) (by decide) (by decide)
        · replace h := (ite_e h).2 hc
          refine z_lv (lv' := [(0, .ref a0), (1, .int v1)]) [1, 2] rfl ?_
          exact m_X4_readCard_119 (a0 := a0) (r0 := r0) (q0_0 := q0_0) (q0_4 := q0_4) (r2 := r2) hg C X v1 s0 s2 h
def f_X4_readCard (N : Nat) (n1 : Nat) (s0 : Ob) (s1 : (Nat → Int32)) (s2 : Ob) : Option (Ob × Ob) := (ob (f_X4_signAt N n1 s0 s1 (s0.1 6)) fun x1 => (ob (f_X4_isLetter N x1) fun x2 => (if x2 = 0 then (f_X4_readCard_29 N n1 s1 (s0.1 6) s0 s2) else (ob (f_X4_signAt N n1 s0 s1 ((s0.1 6) + (1 : Int32))) fun x4 => (ob (f_X4_isDigit N x4) fun x5 => (if x5 = 0 then (f_X4_readCard_29 N n1 s1 (s0.1 6) s0 s2) else (ob (f_X4_signAt N n1 s0 s1 (s0.1 6)) fun x6 => (ob (f_X4_signAt N n1 s0 s1 ((s0.1 6) + (1 : Int32))) fun x7 => (ob (f_X4_skipDigits N n1 (si s0 6 ((s0.1 6) + (1 : Int32))) s1) fun x8 => (if (x8.1 6) = ((s0.1 6) + (2 : Int32)) then (f_X4_readCard_85 N n1 s1 (s0.1 6) (x6 - (97 : Int32)) (x7 - (48 : Int32)) (1 : Int32) x8 s2) else (f_X4_readCard_85 N n1 s1 (s0.1 6) (x6 - (97 : Int32)) (x7 - (48 : Int32)) (0 : Int32) x8 s2)))))))))))
theorem m_X4_readCard {g : Gp} {a0 : Nat} {r0 : Nat → Nat} {q0_0 : Nat} {q0_4 : Nat} {r2 : Nat → Nat} {N : Nat} {n1 : Nat} {s0 : Ob} {s1 : (Nat → Int32)} {s2 : Ob} {res : Ob × Ob} (hg : Ok g) (h : f_X4_readCard N n1 s0 s1 s2 = some res) : Ct g yX4_readCard cX4_readCard 5 none (zrm 2 42) [.ref a0] (wX4 g a0 r0 q0_0 q0_4 s0 ++ wA g q0_4 n1 s1 ++ wX5 g q0_0 r2 s2) (exR none (wX4 g a0 r0 q0_0 q0_4 res.1 ++ wA g q0_4 n1 s1 ++ wX5 g q0_0 r2 res.2)) := by
  refine ct_of rfl hg (by show _ ≤ _; exact Nat.le_of_ble_eq_true rfl) (fun K C X => ?_)
  show Zs K 0 0 (wX4 g a0 r0 q0_0 q0_4 s0 ++ wA g q0_4 n1 s1 ++ wX5 g q0_0 r2 s2) [(0, .ref a0)] 0 []
  unfold f_X4_readCard at h
  refine z_aload_n (pc := 0) (x := a0) C dX4_readCard_0 (i := 0) rfl rfl ?_
  refine z_get (pc := 1) (v := .int (s0.1 6)) C 0 dX4_readCard_1 fl_RX4_41 rfl rfl ?_
  refine z_istore_n (pc := 4) C dX4_readCard_4 (i := 1) rfl (by decide) (lv' := [(1, .int (s0.1 6)), (0, .ref a0)]) rfl ?_
  refine z_aload_n (pc := 5) (x := a0) C dX4_readCard_5 (i := 0) rfl rfl ?_
  refine z_iload_n (pc := 6) (x := (s0.1 6)) C dX4_readCard_6 (i := 1) rfl rfl ?_
  replace h := ob_e h
  obtain ⟨x1, hx1, h⟩ := h
  refine z_callV (pc := 7) (As := [.int (s0.1 6)]) (rest := []) (wr := (wX5 g q0_0 r2 s2)) C dX4_readCard_7 ml_RX4_120 wv_X4_signAt (m_X4_signAt (a0 := a0) (r0 := r0) (q0_0 := q0_0) (q0_4 := q0_4) hg hx1) [0, 1] [2, 3, 4, 5] rfl rfl ⟨by decide, by decide⟩ (Nat.le_of_ble_eq_true rfl) ⟨by decide, by decide⟩ rfl rfl rfl rfl rfl rfl rfl (by decide) (ex_k C (cs' := 0) (ss' := 0) (wF := (wX4 g a0 r0 q0_0 q0_4 s0 ++ wA g q0_4 n1 s1 ++ wX5 g q0_0 r2 s2)) [4, 5, 0, 1, 2, 3] rfl rfl ?_)
  replace h := ob_e h
  obtain ⟨x2, hx2, h⟩ := h
  refine z_callS (pc := 10) (As := [.int x1]) (rest := []) (wr := (wX4 g a0 r0 q0_0 q0_4 s0 ++ wA g q0_4 n1 s1 ++ wX5 g q0_0 r2 s2)) C dX4_readCard_10 ml_RX4_139 wt_X4_isLetter (m_X4_isLetter hg hx2) [] [0, 1, 2, 3, 4, 5] rfl rfl ⟨by decide, by decide⟩ (Nat.le_of_ble_eq_true rfl) ⟨by decide, by decide⟩ rfl rfl rfl rfl (by decide) (ex_k C (cs' := 0) (ss' := 0) (wF := (wX4 g a0 r0 q0_0 q0_4 s0 ++ wA g q0_4 n1 s1 ++ wX5 g q0_0 r2 s2)) [0, 1, 2, 3, 4, 5] rfl rfl ?_)
  refine z_if_eq (pc := 13) C dX4_readCard_13 (tgt := 29) (by decide) (fun hc => ?_) (fun hc => ?_)
  · replace h := (ite_e h).1 hc
    refine z_lv (lv' := [(0, .ref a0), (1, .int (s0.1 6))]) [1, 0] rfl ?_
    exact m_X4_readCard_29 (a0 := a0) (r0 := r0) (q0_0 := q0_0) (q0_4 := q0_4) (r2 := r2) hg C X (s0.1 6) s0 s2 h
  · replace h := (ite_e h).2 hc
    refine z_aload_n (pc := 16) (x := a0) C dX4_readCard_16 (i := 0) rfl rfl ?_
    refine z_iload_n (pc := 17) (x := (s0.1 6)) C dX4_readCard_17 (i := 1) rfl rfl ?_
    refine z_iconst (pc := 18) C dX4_readCard_18 ic_1 ?_
    refine z_iadd (pc := 19) C dX4_readCard_19 ?_
    replace h := ob_e h
    obtain ⟨x4, hx4, h⟩ := h
    refine z_callV (pc := 20) (As := [.int ((s0.1 6) + (1 : Int32))]) (rest := []) (wr := (wX5 g q0_0 r2 s2)) C dX4_readCard_20 ml_RX4_120 wv_X4_signAt (m_X4_signAt (a0 := a0) (r0 := r0) (q0_0 := q0_0) (q0_4 := q0_4) hg hx4) [0, 1] [2, 3, 4, 5] rfl rfl ⟨by decide, by decide⟩ (Nat.le_of_ble_eq_true rfl) ⟨by decide, by decide⟩ rfl rfl rfl rfl rfl rfl rfl (by decide) (ex_k C (cs' := 0) (ss' := 0) (wF := (wX4 g a0 r0 q0_0 q0_4 s0 ++ wA g q0_4 n1 s1 ++ wX5 g q0_0 r2 s2)) [4, 5, 0, 1, 2, 3] rfl rfl ?_)
    replace h := ob_e h
    obtain ⟨x5, hx5, h⟩ := h
    refine z_callS (pc := 23) (As := [.int x4]) (rest := []) (wr := (wX4 g a0 r0 q0_0 q0_4 s0 ++ wA g q0_4 n1 s1 ++ wX5 g q0_0 r2 s2)) C dX4_readCard_23 ml_RX4_143 wt_X4_isDigit (m_X4_isDigit hg hx5) [] [0, 1, 2, 3, 4, 5] rfl rfl ⟨by decide, by decide⟩ (Nat.le_of_ble_eq_true rfl) ⟨by decide, by decide⟩ rfl rfl rfl rfl (by decide) (ex_k C (cs' := 0) (ss' := 0) (wF := (wX4 g a0 r0 q0_0 q0_4 s0 ++ wA g q0_4 n1 s1 ++ wX5 g q0_0 r2 s2)) [0, 1, 2, 3, 4, 5] rfl rfl ?_)
    refine z_if_ne (pc := 26) C dX4_readCard_26 (tgt := 36) (by decide) (fun hc => ?_) (fun hc => ?_)
    · replace h := (ite_e h).2 hc
      refine z_aload_n (pc := 36) (x := a0) C dX4_readCard_36 (i := 0) rfl rfl ?_
      refine z_iload_n (pc := 37) (x := (s0.1 6)) C dX4_readCard_37 (i := 1) rfl rfl ?_
      replace h := ob_e h
      obtain ⟨x6, hx6, h⟩ := h
      refine z_callV (pc := 38) (As := [.int (s0.1 6)]) (rest := []) (wr := (wX5 g q0_0 r2 s2)) C dX4_readCard_38 ml_RX4_120 wv_X4_signAt (m_X4_signAt (a0 := a0) (r0 := r0) (q0_0 := q0_0) (q0_4 := q0_4) hg hx6) [0, 1] [2, 3, 4, 5] rfl rfl ⟨by decide, by decide⟩ (Nat.le_of_ble_eq_true rfl) ⟨by decide, by decide⟩ rfl rfl rfl rfl rfl rfl rfl (by decide) (ex_k C (cs' := 0) (ss' := 0) (wF := (wX4 g a0 r0 q0_0 q0_4 s0 ++ wA g q0_4 n1 s1 ++ wX5 g q0_0 r2 s2)) [4, 5, 0, 1, 2, 3] rfl rfl ?_)
      refine z_bipush (pc := 41) C dX4_readCard_41 bp_97 ?_
      refine z_isub (pc := 43) C dX4_readCard_43 ?_
      refine z_istore_n (pc := 44) C dX4_readCard_44 (i := 2) rfl (by decide) (lv' := [(2, .int (x6 - (97 : Int32))), (1, .int (s0.1 6)), (0, .ref a0)]) rfl ?_
      refine z_aload_n (pc := 45) (x := a0) C dX4_readCard_45 (i := 0) rfl rfl ?_
      refine z_iload_n (pc := 46) (x := (s0.1 6)) C dX4_readCard_46 (i := 1) rfl rfl ?_
      refine z_iconst (pc := 47) C dX4_readCard_47 ic_1 ?_
      refine z_iadd (pc := 48) C dX4_readCard_48 ?_
      replace h := ob_e h
      obtain ⟨x7, hx7, h⟩ := h
      refine z_callV (pc := 49) (As := [.int ((s0.1 6) + (1 : Int32))]) (rest := []) (wr := (wX5 g q0_0 r2 s2)) C dX4_readCard_49 ml_RX4_120 wv_X4_signAt (m_X4_signAt (a0 := a0) (r0 := r0) (q0_0 := q0_0) (q0_4 := q0_4) hg hx7) [0, 1] [2, 3, 4, 5] rfl rfl ⟨by decide, by decide⟩ (Nat.le_of_ble_eq_true rfl) ⟨by decide, by decide⟩ rfl rfl rfl rfl rfl rfl rfl (by decide) (ex_k C (cs' := 0) (ss' := 0) (wF := (wX4 g a0 r0 q0_0 q0_4 s0 ++ wA g q0_4 n1 s1 ++ wX5 g q0_0 r2 s2)) [4, 5, 0, 1, 2, 3] rfl rfl ?_)
      refine z_bipush (pc := 52) C dX4_readCard_52 bp_48 ?_
      refine z_isub (pc := 54) C dX4_readCard_54 ?_
      refine z_istore_n (pc := 55) C dX4_readCard_55 (i := 3) rfl (by decide) (lv' := [(3, .int (x7 - (48 : Int32))), (2, .int (x6 - (97 : Int32))), (1, .int (s0.1 6)), (0, .ref a0)]) rfl ?_
      refine z_aload_n (pc := 56) (x := a0) C dX4_readCard_56 (i := 0) rfl rfl ?_
      refine z_dup (pc := 57) C dX4_readCard_57 rfl ?_
      refine z_get (pc := 58) (v := .int (s0.1 6)) C 0 dX4_readCard_58 fl_RX4_41 rfl rfl ?_
      refine z_iconst (pc := 61) C dX4_readCard_61 ic_1 ?_
      refine z_iadd (pc := 62) C dX4_readCard_62 ?_
      refine z_put (pc := 63) C 0 dX4_readCard_63 fp_RX4_41 rfl rfl rfl (zlt_b rfl) (ws' := (wX4 g a0 r0 q0_0 q0_4 (si s0 6 ((s0.1 6) + (1 : Int32))) ++ wA g q0_4 n1 s1 ++ wX5 g q0_0 r2 s2)) rfl ?_
      refine z_aload_n (pc := 66) (x := a0) C dX4_readCard_66 (i := 0) rfl rfl ?_
      replace h := ob_e h
      obtain ⟨x8, hx8, h⟩ := h
      refine z_callV (pc := 67) (As := []) (rest := []) (wr := (wX5 g q0_0 r2 s2)) C dX4_readCard_67 ml_RX4_146 wv_X4_skipDigits (m_X4_skipDigits (a0 := a0) (r0 := r0) (q0_0 := q0_0) (q0_4 := q0_4) hg hx8) [0, 1] [2, 3, 4, 5] rfl rfl ⟨by decide, by decide⟩ (Nat.le_of_ble_eq_true rfl) ⟨by decide, by decide⟩ rfl rfl rfl rfl rfl rfl rfl (by decide) (ex_k C (cs' := 0) (ss' := 0) (wF := (wX4 g a0 r0 q0_0 q0_4 x8 ++ wA g q0_4 n1 s1 ++ wX5 g q0_0 r2 s2)) [4, 5, 0, 1, 2, 3] rfl rfl ?_)
      refine z_aload_n (pc := 70) (x := a0) C dX4_readCard_70 (i := 0) rfl rfl ?_
      refine z_get (pc := 71) (v := .int (x8.1 6)) C 0 dX4_readCard_71 fl_RX4_41 rfl rfl ?_
      refine z_iload_n (pc := 74) (x := (s0.1 6)) C dX4_readCard_74 (i := 1) rfl rfl ?_
      refine z_iconst (pc := 75) C dX4_readCard_75 ic_2 ?_
      refine z_iadd (pc := 76) C dX4_readCard_76 ?_
      refine z_icmp_ne (pc := 77) C dX4_readCard_77 (tgt := 84) (by decide) (fun hc => ?_) (fun hc => ?_)
      · replace h := (ite_e h).2 hc
        refine z_iconst (pc := 84) C dX4_readCard_84 ic_0 ?_
        refine z_lv (lv' := [(0, .ref a0), (1, .int (s0.1 6)), (2, .int (x6 - (97 : Int32))), (3, .int (x7 - (48 : Int32)))]) [3, 2, 1, 0] rfl ?_
        exact m_X4_readCard_85 (a0 := a0) (r0 := r0) (q0_0 := q0_0) (q0_4 := q0_4) (r2 := r2) hg C X (s0.1 6) (x6 - (97 : Int32)) (x7 - (48 : Int32)) (0 : Int32) x8 s2 h
      · replace h := (ite_e h).1 hc
        refine z_iconst (pc := 80) C dX4_readCard_80 ic_1 ?_
        refine z_goto (pc := 81) C dX4_readCard_81 (tgt := 85) (by decide) ?_
        refine z_lv (lv' := [(0, .ref a0), (1, .int (s0.1 6)), (2, .int (x6 - (97 : Int32))), (3, .int (x7 - (48 : Int32)))]) [3, 2, 1, 0] rfl ?_
        exact m_X4_readCard_85 (a0 := a0) (r0 := r0) (q0_0 := q0_0) (q0_4 := q0_4) (r2 := r2) hg C X (s0.1 6) (x6 - (97 : Int32)) (x7 - (48 : Int32)) (1 : Int32) x8 s2 h
    · replace h := (ite_e h).1 hc
      refine z_lv (lv' := [(0, .ref a0), (1, .int (s0.1 6))]) [1, 0] rfl ?_
      exact m_X4_readCard_29 (a0 := a0) (r0 := r0) (q0_0 := q0_0) (q0_4 := q0_4) (r2 := r2) hg C X (s0.1 6) s0 s2 h
def F_X4_readDeck_14 (N : Nat) (n1 : Nat) (s1 : (Nat → Int32))  (k14 : Int32 → Ob → Ob → Option (Ob × Ob)) (v1 : Int32) (s0 : Ob) (s2 : Ob) : Option (Ob × Ob) := (if (s0.1 5) ≤ v1 then (some (s0, s2)) else (if (s0.1 1) = 0 then (ob (f_X4_signAt N n1 s0 s1 (s0.1 6)) fun x4 => (ob (f_X4_isLetter N x4) fun x5 => (if x5 = 0 then (some (s0, s2)) else (ob (f_X4_readCard N n1 s0 s1 s2) fun x6 => (ob (f_X4_skipSpaces N n1 x6.1 s1) fun x7 => (k14 (v1 + (1 : Int32)) x7 x6.2)))))) else (some (s0, s2))))
def f_X4_readDeck_14 (N : Nat) (n1 : Nat) (s1 : (Nat → Int32))  : Nat → Int32 → Ob → Ob → Option (Ob × Ob) := zlp (fun _ _ _ => none) (F_X4_readDeck_14 N n1 s1)
theorem m_X4_readDeck_14 {K : Kt} {g : Gp} {a0 : Nat} {r0 : Nat → Nat} {q0_0 : Nat} {q0_4 : Nat} {r2 : Nat → Nat} {N : Nat} {n1 : Nat} {s1 : (Nat → Int32)} {res : Ob × Ob} (hg : Ok g) (C : Cx K g cX4_readDeck RX4 2 (zrm 3 66)) (X : Rx K (exR none (wX4 g a0 r0 q0_0 q0_4 res.1 ++ wA g q0_4 n1 s1 ++ wX5 g q0_0 r2 res.2)) 0 0 none) : ∀ (n : Nat) (v1 : Int32) (s0 : Ob) (s2 : Ob), f_X4_readDeck_14 N n1 s1 n v1 s0 s2 = some res → Zs K 0 0 (wX4 g a0 r0 q0_0 q0_4 s0 ++ wA g q0_4 n1 s1 ++ wX5 g q0_0 r2 s2) [(0, .ref a0), (1, .int v1)] 14 [] := by
  intro n
  induction n with
  | zero => intro v1 s0 s2 h; exact nomatch (show (none : Option (Ob × Ob)) = some res from h)
  | succ n hk14 =>
    intro v1 s0 s2 h
    replace h : F_X4_readDeck_14 N n1 s1 (f_X4_readDeck_14 N n1 s1 n) v1 s0 s2 = some res := h
    unfold F_X4_readDeck_14 at h
    refine z_iload_n (pc := 14) (x := v1) C dX4_readDeck_14 (i := 1) rfl rfl ?_
    refine z_aload_n (pc := 15) (x := a0) C dX4_readDeck_15 (i := 0) rfl rfl ?_
    refine z_get (pc := 16) (v := .int (s0.1 5)) C 0 dX4_readDeck_16 fl_RX4_38 rfl rfl ?_
    refine z_icmp_ge (pc := 19) C dX4_readDeck_19 (tgt := 57) (by decide) (fun hc => ?_) (fun hc => ?_)
    · replace h := (ite_e h).1 hc
      exact z_vret C X dX4_readDeck_57 (by rw [← Option.some.inj h]; exact ⟨rfl, rfl⟩) (by decide) (by decide)
    · replace h := (ite_e h).2 hc
      refine z_aload_n (pc := 22) (x := a0) C dX4_readDeck_22 (i := 0) rfl rfl ?_
      refine z_get (pc := 23) (v := .int (s0.1 1)) C 0 dX4_readDeck_23 fl_RX4_26 rfl rfl ?_
      refine z_if_ne (pc := 26) C dX4_readDeck_26 (tgt := 57) (by decide) (fun hc => ?_) (fun hc => ?_)
      · replace h := (ite_e h).2 hc
        exact z_vret C X dX4_readDeck_57 (by rw [← Option.some.inj h]; exact ⟨rfl, rfl⟩) (by decide) (by decide)
      · replace h := (ite_e h).1 hc
        refine z_aload_n (pc := 29) (x := a0) C dX4_readDeck_29 (i := 0) rfl rfl ?_
        refine z_aload_n (pc := 30) (x := a0) C dX4_readDeck_30 (i := 0) rfl rfl ?_
        refine z_get (pc := 31) (v := .int (s0.1 6)) C 0 dX4_readDeck_31 fl_RX4_41 rfl rfl ?_
        replace h := ob_e h
        obtain ⟨x4, hx4, h⟩ := h
        refine z_callV (pc := 34) (As := [.int (s0.1 6)]) (rest := []) (wr := (wX5 g q0_0 r2 s2)) C dX4_readDeck_34 ml_RX4_120 wv_X4_signAt (m_X4_signAt (a0 := a0) (r0 := r0) (q0_0 := q0_0) (q0_4 := q0_4) hg hx4) [0, 1] [2, 3, 4, 5] rfl rfl ⟨by decide, by decide⟩ (Nat.le_of_ble_eq_true rfl) ⟨by decide, by decide⟩ rfl rfl rfl rfl rfl rfl rfl (by decide) (ex_k C (cs' := 0) (ss' := 0) (wF := (wX4 g a0 r0 q0_0 q0_4 s0 ++ wA g q0_4 n1 s1 ++ wX5 g q0_0 r2 s2)) [4, 5, 0, 1, 2, 3] rfl rfl ?_)
        replace h := ob_e h
        obtain ⟨x5, hx5, h⟩ := h
        refine z_callS (pc := 37) (As := [.int x4]) (rest := []) (wr := (wX4 g a0 r0 q0_0 q0_4 s0 ++ wA g q0_4 n1 s1 ++ wX5 g q0_0 r2 s2)) C dX4_readDeck_37 ml_RX4_139 wt_X4_isLetter (m_X4_isLetter hg hx5) [] [0, 1, 2, 3, 4, 5] rfl rfl ⟨by decide, by decide⟩ (Nat.le_of_ble_eq_true rfl) ⟨by decide, by decide⟩ rfl rfl rfl rfl (by decide) (ex_k C (cs' := 0) (ss' := 0) (wF := (wX4 g a0 r0 q0_0 q0_4 s0 ++ wA g q0_4 n1 s1 ++ wX5 g q0_0 r2 s2)) [0, 1, 2, 3, 4, 5] rfl rfl ?_)
        refine z_if_eq (pc := 40) C dX4_readDeck_40 (tgt := 57) (by decide) (fun hc => ?_) (fun hc => ?_)
        · replace h := (ite_e h).1 hc
          exact z_vret C X dX4_readDeck_57 (by rw [← Option.some.inj h]; exact ⟨rfl, rfl⟩) (by decide) (by decide)
        · replace h := (ite_e h).2 hc
          refine z_aload_n (pc := 43) (x := a0) C dX4_readDeck_43 (i := 0) rfl rfl ?_
          replace h := ob_e h
          obtain ⟨x6, hx6, h⟩ := h
          refine z_callV (pc := 44) (As := []) (rest := []) (wr := ([] : va_W)) C dX4_readDeck_44 ml_RX4_136 wv_X4_readCard (m_X4_readCard (a0 := a0) (r0 := r0) (q0_0 := q0_0) (q0_4 := q0_4) (r2 := r2) hg hx6) [0, 1, 2, 3, 4, 5] [] rfl rfl ⟨by decide, by decide⟩ (Nat.le_of_ble_eq_true rfl) ⟨by decide, by decide⟩ rfl rfl rfl rfl rfl rfl rfl (by decide) (ex_k C (cs' := 0) (ss' := 0) (wF := (wX4 g a0 r0 q0_0 q0_4 x6.1 ++ wA g q0_4 n1 s1 ++ wX5 g q0_0 r2 x6.2)) [0, 1, 2, 3, 4, 5] rfl rfl ?_)
          refine z_aload_n (pc := 47) (x := a0) C dX4_readDeck_47 (i := 0) rfl rfl ?_
          replace h := ob_e h
          obtain ⟨x7, hx7, h⟩ := h
          refine z_callV (pc := 48) (As := []) (rest := []) (wr := (wX5 g q0_0 r2 x6.2)) C dX4_readDeck_48 ml_RX4_70 wv_X4_skipSpaces (m_X4_skipSpaces (a0 := a0) (r0 := r0) (q0_0 := q0_0) (q0_4 := q0_4) hg hx7) [0, 1] [2, 3, 4, 5] rfl rfl ⟨by decide, by decide⟩ (Nat.le_of_ble_eq_true rfl) ⟨by decide, by decide⟩ rfl rfl rfl rfl rfl rfl rfl (by decide) (ex_k C (cs' := 0) (ss' := 0) (wF := (wX4 g a0 r0 q0_0 q0_4 x7 ++ wA g q0_4 n1 s1 ++ wX5 g q0_0 r2 x6.2)) [4, 5, 0, 1, 2, 3] rfl rfl ?_)
          refine z_iinc (pc := 51) C dX4_readDeck_51 rfl (inc_e 1 (1 : Int32) ic_1 v1) (by decide) (lv' := [(1, .int (v1 + (1 : Int32))), (0, .ref a0)]) rfl ?_
          refine z_goto (pc := 54) C dX4_readDeck_54 (tgt := 14) (by decide) ?_
          refine z_lv (lv' := [(0, .ref a0), (1, .int (v1 + (1 : Int32)))]) [1, 0] rfl ?_
          exact hk14 (v1 + (1 : Int32)) x7 x6.2 h
def f_X4_readDeck (N : Nat) (n1 : Nat) (s0 : Ob) (s1 : (Nat → Int32)) (s2 : Ob) : Option (Ob × Ob) := (ob (f_X4_skipSpaces N n1 s0 s1) fun x1 => (ob (f_X4_readCard N n1 x1 s1 s2) fun x2 => (ob (f_X4_skipSpaces N n1 x2.1 s1) fun x3 => (f_X4_readDeck_14 N n1 s1 N (0 : Int32) x3 x2.2))))
theorem m_X4_readDeck {g : Gp} {a0 : Nat} {r0 : Nat → Nat} {q0_0 : Nat} {q0_4 : Nat} {r2 : Nat → Nat} {N : Nat} {n1 : Nat} {s0 : Ob} {s1 : (Nat → Int32)} {s2 : Ob} {res : Ob × Ob} (hg : Ok g) (h : f_X4_readDeck N n1 s0 s1 s2 = some res) : Ct g yX4_readDeck cX4_readDeck 2 none (zrm 3 66) [.ref a0] (wX4 g a0 r0 q0_0 q0_4 s0 ++ wA g q0_4 n1 s1 ++ wX5 g q0_0 r2 s2) (exR none (wX4 g a0 r0 q0_0 q0_4 res.1 ++ wA g q0_4 n1 s1 ++ wX5 g q0_0 r2 res.2)) := by
  refine ct_of rfl hg (by show _ ≤ _; exact Nat.le_of_ble_eq_true rfl) (fun K C X => ?_)
  show Zs K 0 0 (wX4 g a0 r0 q0_0 q0_4 s0 ++ wA g q0_4 n1 s1 ++ wX5 g q0_0 r2 s2) [(0, .ref a0)] 0 []
  unfold f_X4_readDeck at h
  refine z_aload_n (pc := 0) (x := a0) C dX4_readDeck_0 (i := 0) rfl rfl ?_
  replace h := ob_e h
  obtain ⟨x1, hx1, h⟩ := h
  refine z_callV (pc := 1) (As := []) (rest := []) (wr := (wX5 g q0_0 r2 s2)) C dX4_readDeck_1 ml_RX4_70 wv_X4_skipSpaces (m_X4_skipSpaces (a0 := a0) (r0 := r0) (q0_0 := q0_0) (q0_4 := q0_4) hg hx1) [0, 1] [2, 3, 4, 5] rfl rfl ⟨by decide, by decide⟩ (Nat.le_of_ble_eq_true rfl) ⟨by decide, by decide⟩ rfl rfl rfl rfl rfl rfl rfl (by decide) (ex_k C (cs' := 0) (ss' := 0) (wF := (wX4 g a0 r0 q0_0 q0_4 x1 ++ wA g q0_4 n1 s1 ++ wX5 g q0_0 r2 s2)) [4, 5, 0, 1, 2, 3] rfl rfl ?_)
  refine z_aload_n (pc := 4) (x := a0) C dX4_readDeck_4 (i := 0) rfl rfl ?_
  replace h := ob_e h
  obtain ⟨x2, hx2, h⟩ := h
  refine z_callV (pc := 5) (As := []) (rest := []) (wr := ([] : va_W)) C dX4_readDeck_5 ml_RX4_136 wv_X4_readCard (m_X4_readCard (a0 := a0) (r0 := r0) (q0_0 := q0_0) (q0_4 := q0_4) (r2 := r2) hg hx2) [0, 1, 2, 3, 4, 5] [] rfl rfl ⟨by decide, by decide⟩ (Nat.le_of_ble_eq_true rfl) ⟨by decide, by decide⟩ rfl rfl rfl rfl rfl rfl rfl (by decide) (ex_k C (cs' := 0) (ss' := 0) (wF := (wX4 g a0 r0 q0_0 q0_4 x2.1 ++ wA g q0_4 n1 s1 ++ wX5 g q0_0 r2 x2.2)) [0, 1, 2, 3, 4, 5] rfl rfl ?_)
  refine z_aload_n (pc := 8) (x := a0) C dX4_readDeck_8 (i := 0) rfl rfl ?_
  replace h := ob_e h
  obtain ⟨x3, hx3, h⟩ := h
  refine z_callV (pc := 9) (As := []) (rest := []) (wr := (wX5 g q0_0 r2 x2.2)) C dX4_readDeck_9 ml_RX4_70 wv_X4_skipSpaces (m_X4_skipSpaces (a0 := a0) (r0 := r0) (q0_0 := q0_0) (q0_4 := q0_4) hg hx3) [0, 1] [2, 3, 4, 5] rfl rfl ⟨by decide, by decide⟩ (Nat.le_of_ble_eq_true rfl) ⟨by decide, by decide⟩ rfl rfl rfl rfl rfl rfl rfl (by decide) (ex_k C (cs' := 0) (ss' := 0) (wF := (wX4 g a0 r0 q0_0 q0_4 x3 ++ wA g q0_4 n1 s1 ++ wX5 g q0_0 r2 x2.2)) [4, 5, 0, 1, 2, 3] rfl rfl ?_)
  refine z_iconst (pc := 12) C dX4_readDeck_12 ic_0 ?_
  refine z_istore_n (pc := 13) C dX4_readDeck_13 (i := 1) rfl (by decide) (lv' := [(1, .int (0 : Int32)), (0, .ref a0)]) rfl ?_
  refine z_lv (lv' := [(0, .ref a0), (1, .int (0 : Int32))]) [1, 0] rfl ?_
  exact m_X4_readDeck_14 (a0 := a0) (r0 := r0) (q0_0 := q0_0) (q0_4 := q0_4) (r2 := r2) hg C X N (0 : Int32) x3 x2.2 h
def f_X4_readTokens (N : Nat) (n1 : Nat) (s0 : Ob) (s1 : (Nat → Int32)) (s2 : Ob) : Option (Ob × Ob) := (ob (f_X4_readNumber N n1 s0 s1 (1 : Int32) (9 : Int32)) fun x1 => (ob (f_X4_readNumber N n1 x1.2 s1 (0 : Int32) x1.1) fun x2 => (znm (si s2 4 x1.1) fun y3 => (some (x2.2, (si y3 5 x2.1))))))
theorem m_X4_readTokens {g : Gp} {a0 : Nat} {r0 : Nat → Nat} {q0_0 : Nat} {q0_4 : Nat} {r2 : Nat → Nat} {N : Nat} {n1 : Nat} {s0 : Ob} {s1 : (Nat → Int32)} {s2 : Ob} {res : Ob × Ob} (hg : Ok g) (h : f_X4_readTokens N n1 s0 s1 s2 = some res) : Ct g yX4_readTokens cX4_readTokens 1 none (zrm 3 67) [.ref a0] (wX4 g a0 r0 q0_0 q0_4 s0 ++ wA g q0_4 n1 s1 ++ wX5 g q0_0 r2 s2) (exR none (wX4 g a0 r0 q0_0 q0_4 res.1 ++ wA g q0_4 n1 s1 ++ wX5 g q0_0 r2 res.2)) := by
  refine ct_of rfl hg (by show _ ≤ _; exact Nat.le_of_ble_eq_true rfl) (fun K C X => ?_)
  show Zs K 0 0 (wX4 g a0 r0 q0_0 q0_4 s0 ++ wA g q0_4 n1 s1 ++ wX5 g q0_0 r2 s2) [(0, .ref a0)] 0 []
  unfold f_X4_readTokens at h
  refine z_aload_n (pc := 0) (x := a0) C dX4_readTokens_0 (i := 0) rfl rfl ?_
  refine z_get (pc := 1) (v := .ref q0_0) C 0 dX4_readTokens_1 fl_RX4_12 rfl rfl ?_
  refine z_aload_n (pc := 4) (x := a0) C dX4_readTokens_4 (i := 0) rfl rfl ?_
  refine z_iconst (pc := 5) C dX4_readTokens_5 ic_1 ?_
  refine z_bipush (pc := 6) C dX4_readTokens_6 bp_9 ?_
  replace h := ob_e h
  obtain ⟨x1, hx1, h⟩ := h
  refine z_callV (pc := 8) (As := [.int (1 : Int32), .int (9 : Int32)]) (rest := [.ref q0_0]) (wr := (wX5 g q0_0 r2 s2)) C dX4_readTokens_8 ml_RX4_97 wv_X4_readNumber (m_X4_readNumber (a0 := a0) (r0 := r0) (q0_0 := q0_0) (q0_4 := q0_4) hg hx1) [0, 1] [2, 3, 4, 5] rfl rfl ⟨by decide, by decide⟩ (Nat.le_of_ble_eq_true rfl) ⟨by decide, by decide⟩ rfl rfl rfl rfl rfl rfl rfl (by decide) (ex_k C (cs' := 0) (ss' := 0) (wF := (wX4 g a0 r0 q0_0 q0_4 x1.2 ++ wA g q0_4 n1 s1 ++ wX5 g q0_0 r2 s2)) [4, 5, 0, 1, 2, 3] rfl rfl ?_)
  refine z_put (pc := 11) C 2 dX4_readTokens_11 fp_RX4_124 rfl rfl rfl (zlt_b rfl) (ws' := (wX4 g a0 r0 q0_0 q0_4 x1.2 ++ wA g q0_4 n1 s1 ++ wX5 g q0_0 r2 (si s2 4 x1.1))) rfl ?_
  refine z_aload_n (pc := 14) (x := a0) C dX4_readTokens_14 (i := 0) rfl rfl ?_
  refine z_get (pc := 15) (v := .ref q0_0) C 0 dX4_readTokens_15 fl_RX4_12 rfl rfl ?_
  refine z_aload_n (pc := 18) (x := a0) C dX4_readTokens_18 (i := 0) rfl rfl ?_
  refine z_iconst (pc := 19) C dX4_readTokens_19 ic_0 ?_
  refine z_aload_n (pc := 20) (x := a0) C dX4_readTokens_20 (i := 0) rfl rfl ?_
  refine z_get (pc := 21) (v := .ref q0_0) C 0 dX4_readTokens_21 fl_RX4_12 rfl rfl ?_
  refine z_get (pc := 24) (v := .int x1.1) C 2 dX4_readTokens_24 fl_RX4_124 rfl rfl ?_
  replace h := ob_e h
  obtain ⟨x2, hx2, h⟩ := h
  refine z_callV (pc := 27) (As := [.int (0 : Int32), .int x1.1]) (rest := [.ref q0_0]) (wr := (wX5 g q0_0 r2 (si s2 4 x1.1))) C dX4_readTokens_27 ml_RX4_97 wv_X4_readNumber (m_X4_readNumber (a0 := a0) (r0 := r0) (q0_0 := q0_0) (q0_4 := q0_4) hg hx2) [0, 1] [2, 3, 4, 5] rfl rfl ⟨by decide, by decide⟩ (Nat.le_of_ble_eq_true rfl) ⟨by decide, by decide⟩ rfl rfl rfl rfl rfl rfl rfl (by decide) (ex_k C (cs' := 0) (ss' := 0) (wF := (wX4 g a0 r0 q0_0 q0_4 x2.2 ++ wA g q0_4 n1 s1 ++ wX5 g q0_0 r2 (si s2 4 x1.1))) [4, 5, 0, 1, 2, 3] rfl rfl ?_)
  replace h := znm_e h
  obtain ⟨y3, hy3, h⟩ := h
  refine z_wsE (ws' := (wX4 g a0 r0 q0_0 q0_4 x2.2 ++ wA g q0_4 n1 s1 ++ wX5 g q0_0 r2 y3)) (by rw [hy3]) ?_
  refine z_put (pc := 30) C 2 dX4_readTokens_30 fp_RX4_127 rfl rfl rfl (zlt_b rfl) (ws' := (wX4 g a0 r0 q0_0 q0_4 x2.2 ++ wA g q0_4 n1 s1 ++ wX5 g q0_0 r2 (si y3 5 x2.1))) rfl ?_
  exact z_vret C X dX4_readTokens_33 (by rw [← Option.some.inj h]; exact ⟨rfl, rfl⟩) (by decide) (by decide)
def f_X4_readTimes (N : Nat) (n1 : Nat) (s0 : Ob) (s1 : (Nat → Int32)) (s2 : Ob) (p1 : Int32) (p2 : Int32) (p3 : Int32) : Option (Ob × Ob) := (ob (f_X4_readNumber N n1 s0 s1 p2 p3) fun x1 => (ob (f_X4_readNumber N n1 x1.2 s1 (0 : Int32) (99 : Int32)) fun x2 => (ob (f_X5_indexOfWord N p1 x1.1) fun x3 => (if (x2.2.1 1) = 0 then (if x3 = (-1 : Int32) then (some (x2.2, s2)) else (chk (inb x3 9) (some (x2.2, (sa s2 10 (upd (s2.2.2.1 10) (x3).toNatClampNeg x2.1)))))) else (some (x2.2, s2))))))
theorem m_X4_readTimes {g : Gp} {a0 : Nat} {r0 : Nat → Nat} {q0_0 : Nat} {q0_4 : Nat} {r2 : Nat → Nat} {N : Nat} {n1 : Nat} {s0 : Ob} {s1 : (Nat → Int32)} {s2 : Ob} {p1 : Int32} {p2 : Int32} {p3 : Int32} {res : Ob × Ob} (hg : Ok g) (h : f_X4_readTimes N n1 s0 s1 s2 p1 p2 p3 = some res) : Ct g yX4_readTimes cX4_readTimes 7 none (zrm 3 67) [.ref a0, .int p1, .int p2, .int p3] (wX4 g a0 r0 q0_0 q0_4 s0 ++ wA g q0_4 n1 s1 ++ wX5 g q0_0 r2 s2) (exR none (wX4 g a0 r0 q0_0 q0_4 res.1 ++ wA g q0_4 n1 s1 ++ wX5 g q0_0 r2 res.2)) := by
  refine ct_of rfl hg (by show _ ≤ _; exact Nat.le_of_ble_eq_true rfl) (fun K C X => ?_)
  show Zs K 0 0 (wX4 g a0 r0 q0_0 q0_4 s0 ++ wA g q0_4 n1 s1 ++ wX5 g q0_0 r2 s2) [(0, .ref a0), (1, .int p1), (2, .int p2), (3, .int p3)] 0 []
  unfold f_X4_readTimes at h
  refine z_aload_n (pc := 0) (x := a0) C dX4_readTimes_0 (i := 0) rfl rfl ?_
  refine z_iload_n (pc := 1) (x := p2) C dX4_readTimes_1 (i := 2) rfl rfl ?_
  refine z_iload_n (pc := 2) (x := p3) C dX4_readTimes_2 (i := 3) rfl rfl ?_
  replace h := ob_e h
  obtain ⟨x1, hx1, h⟩ := h
  refine z_callV (pc := 3) (As := [.int p2, .int p3]) (rest := []) (wr := (wX5 g q0_0 r2 s2)) C dX4_readTimes_3 ml_RX4_97 wv_X4_readNumber (m_X4_readNumber (a0 := a0) (r0 := r0) (q0_0 := q0_0) (q0_4 := q0_4) hg hx1) [0, 1] [2, 3, 4, 5] rfl rfl ⟨by decide, by decide⟩ (Nat.le_of_ble_eq_true rfl) ⟨by decide, by decide⟩ rfl rfl rfl rfl rfl rfl rfl (by decide) (ex_k C (cs' := 0) (ss' := 0) (wF := (wX4 g a0 r0 q0_0 q0_4 x1.2 ++ wA g q0_4 n1 s1 ++ wX5 g q0_0 r2 s2)) [4, 5, 0, 1, 2, 3] rfl rfl ?_)
  refine z_istore (pc := 6) C dX4_readTimes_6 (by decide) (lv' := [(4, .int x1.1), (0, .ref a0), (1, .int p1), (2, .int p2), (3, .int p3)]) rfl ?_
  refine z_aload_n (pc := 8) (x := a0) C dX4_readTimes_8 (i := 0) rfl rfl ?_
  refine z_iconst (pc := 9) C dX4_readTimes_9 ic_0 ?_
  refine z_bipush (pc := 10) C dX4_readTimes_10 bp_99 ?_
  replace h := ob_e h
  obtain ⟨x2, hx2, h⟩ := h
  refine z_callV (pc := 12) (As := [.int (0 : Int32), .int (99 : Int32)]) (rest := []) (wr := (wX5 g q0_0 r2 s2)) C dX4_readTimes_12 ml_RX4_97 wv_X4_readNumber (m_X4_readNumber (a0 := a0) (r0 := r0) (q0_0 := q0_0) (q0_4 := q0_4) hg hx2) [0, 1] [2, 3, 4, 5] rfl rfl ⟨by decide, by decide⟩ (Nat.le_of_ble_eq_true rfl) ⟨by decide, by decide⟩ rfl rfl rfl rfl rfl rfl rfl (by decide) (ex_k C (cs' := 0) (ss' := 0) (wF := (wX4 g a0 r0 q0_0 q0_4 x2.2 ++ wA g q0_4 n1 s1 ++ wX5 g q0_0 r2 s2)) [4, 5, 0, 1, 2, 3] rfl rfl ?_)
  refine z_istore (pc := 15) C dX4_readTimes_15 (by decide) (lv' := [(5, .int x2.1), (4, .int x1.1), (0, .ref a0), (1, .int p1), (2, .int p2), (3, .int p3)]) rfl ?_
  refine z_iload_n (pc := 17) (x := p1) C dX4_readTimes_17 (i := 1) rfl rfl ?_
  refine z_iload (pc := 18) (x := x1.1) C dX4_readTimes_18 rfl ?_
  replace h := ob_e h
  obtain ⟨x3, hx3, h⟩ := h
  refine z_callS (pc := 20) (As := [.int p1, .int x1.1]) (rest := []) (wr := (wX4 g a0 r0 q0_0 q0_4 x2.2 ++ wA g q0_4 n1 s1 ++ wX5 g q0_0 r2 s2)) C dX4_readTimes_20 ml_RX4_130 wt_X5_indexOfWord (m_X5_indexOfWord hg hx3) [] [0, 1, 2, 3, 4, 5] rfl rfl ⟨by decide, by decide⟩ (Nat.le_of_ble_eq_true rfl) ⟨by decide, by decide⟩ rfl rfl rfl rfl (by decide) (ex_k C (cs' := 0) (ss' := 0) (wF := (wX4 g a0 r0 q0_0 q0_4 x2.2 ++ wA g q0_4 n1 s1 ++ wX5 g q0_0 r2 s2)) [0, 1, 2, 3, 4, 5] rfl rfl ?_)
  refine z_istore (pc := 23) C dX4_readTimes_23 (by decide) (lv' := [(6, .int x3), (5, .int x2.1), (4, .int x1.1), (0, .ref a0), (1, .int p1), (2, .int p2), (3, .int p3)]) rfl ?_
  refine z_aload_n (pc := 25) (x := a0) C dX4_readTimes_25 (i := 0) rfl rfl ?_
  refine z_get (pc := 26) (v := .int (x2.2.1 1)) C 0 dX4_readTimes_26 fl_RX4_26 rfl rfl ?_
  refine z_if_ne (pc := 29) C dX4_readTimes_29 (tgt := 50) (by decide) (fun hc => ?_) (fun hc => ?_)
  · replace h := (ite_e h).2 hc
    exact z_vret C X dX4_readTimes_50 (by rw [← Option.some.inj h]; exact ⟨rfl, rfl⟩) (by decide) (by decide)
  · replace h := (ite_e h).1 hc
    refine z_iload (pc := 32) (x := x3) C dX4_readTimes_32 rfl ?_
    refine z_iconst (pc := 34) C dX4_readTimes_34 ic_m1 ?_
    refine z_icmp_eq (pc := 35) C dX4_readTimes_35 (tgt := 50) (by decide) (fun hc => ?_) (fun hc => ?_)
    · replace h := (ite_e h).1 hc
      exact z_vret C X dX4_readTimes_50 (by rw [← Option.some.inj h]; exact ⟨rfl, rfl⟩) (by decide) (by decide)
    · replace h := (ite_e h).2 hc
      refine z_aload_n (pc := 38) (x := a0) C dX4_readTimes_38 (i := 0) rfl rfl ?_
      refine z_get (pc := 39) (v := .ref q0_0) C 0 dX4_readTimes_39 fl_RX4_12 rfl rfl ?_
      refine z_get (pc := 42) (v := .ref (r2 10)) C 2 dX4_readTimes_42 fl_RX4_133 rfl rfl ?_
      refine z_iload (pc := 45) (x := x3) C dX4_readTimes_45 rfl ?_
      refine z_iload (pc := 47) (x := x2.1) C dX4_readTimes_47 rfl ?_
      replace h := chk_e h
      obtain ⟨hb4, h⟩ := h
      refine z_iast (pc := 49) C 5 dX4_readTimes_49 rfl hb4 (ws' := (wX4 g a0 r0 q0_0 q0_4 x2.2 ++ wA g q0_4 n1 s1 ++ wX5 g q0_0 r2 (sa s2 10 (upd (s2.2.2.1 10) (x3).toNatClampNeg x2.1)))) rfl ?_
      exact z_vret C X dX4_readTimes_50 (by rw [← Option.some.inj h]; exact ⟨rfl, rfl⟩) (by decide) (by decide)
def F_X5_exchangeCards_11 (N : Nat) (p1 : Int32)  (k11 : Int64 → Int32 → Ob → Option (Ob)) (v2 : Int64) (v4 : Int32) (s0 : Ob) : Option (Ob) := (if v4 < (1 : Int32) then (some s0) else (znm (((v2 * (1103515245 : Int64)) + (12345 : Int64)) - ((v2 * (1103515245 : Int64)) + (12345 : Int64)) / (2147483648 : Int64) * (2147483648 : Int64)) fun x1 => (chk (decide (¬ ((v4 + (1 : Int32))).toInt64 = 0)) (znm ((x1 / (65536 : Int64)) - (x1 / (65536 : Int64)) / ((v4 + (1 : Int32))).toInt64 * ((v4 + (1 : Int32))).toInt64) fun x3 => (chk (inb v4 40) (chk (inb (x3).toInt32 40) (chk (inb v4 40) (znm (sa s0 8 (upd (s0.2.2.1 8) (v4).toNatClampNeg ((s0.2.2.1 8) ((x3).toInt32).toNatClampNeg))) fun y7 => (chk (inb (x3).toInt32 40) (k11 x1 (v4 + (-1 : Int32)) (sa y7 8 (upd (y7.2.2.1 8) ((x3).toInt32).toNatClampNeg ((s0.2.2.1 8) (v4).toNatClampNeg)))))))))))))
def f_X5_exchangeCards_11 (N : Nat) (p1 : Int32)  : Nat → Int64 → Int32 → Ob → Option (Ob) := zlp (fun _ _ _ => none) (F_X5_exchangeCards_11 N p1)
theorem m_X5_exchangeCards_11 {K : Kt} {g : Gp} {a0 : Nat} {r0 : Nat → Nat} {N : Nat} {p1 : Int32} {res : Ob} (hg : Ok g) (C : Cx K g cX5_exchangeCards RX5 7 (zrm 0 0)) (X : Rx K (exR none (wX5 g a0 r0 res)) 0 0 none) : ∀ (n : Nat) (v2 : Int64) (v4 : Int32) (s0 : Ob), f_X5_exchangeCards_11 N p1 n v2 v4 s0 = some res → Zs K 0 0 (wX5 g a0 r0 s0) [(0, .ref a0), (2, .long v2), (4, .int v4)] 11 [] := by
  intro n
  induction n with
  | zero => intro v2 v4 s0 h; exact nomatch (show (none : Option (Ob)) = some res from h)
  | succ n hk11 =>
    intro v2 v4 s0 h
    replace h : F_X5_exchangeCards_11 N p1 (f_X5_exchangeCards_11 N p1 n) v2 v4 s0 = some res := h
    unfold F_X5_exchangeCards_11 at h
    refine z_iload (pc := 11) (x := v4) C dX5_exchangeCards_11 rfl ?_
    refine z_iconst (pc := 13) C dX5_exchangeCards_13 ic_1 ?_
    refine z_icmp_lt (pc := 14) C dX5_exchangeCards_14 (tgt := 83) (by decide) (fun hc => ?_) (fun hc => ?_)
    · replace h := (ite_e h).1 hc
      exact z_vret C X dX5_exchangeCards_83 (by rw [← Option.some.inj h]; exact ⟨rfl, rfl⟩) (by decide) (by decide)
    · replace h := (ite_e h).2 hc
      refine z_lload_n (pc := 17) (x := v2) C dX5_exchangeCards_17 (i := 2) rfl rfl ?_
      refine z_ldc2 (pc := 18) C dX5_exchangeCards_18 kl_RX5_40 ?_
      refine z_lmul (pc := 21) C dX5_exchangeCards_21 ?_
      refine z_ldc2 (pc := 22) C dX5_exchangeCards_22 kl_RX5_42 ?_
      refine z_ladd (pc := 25) C dX5_exchangeCards_25 ?_
      refine z_ldc2 (pc := 26) C dX5_exchangeCards_26 kl_RX5_44 ?_
      refine z_lrem (pc := 29) C dX5_exchangeCards_29 (by decide) ?_
      replace h := znm_e h
      obtain ⟨x1, hx1, h⟩ := h
      refine z_top2 hx1 ?_
      refine z_lstore_n (pc := 30) C dX5_exchangeCards_30 (i := 2) rfl (by decide) (lv' := [(2, .long x1), (0, .ref a0), (4, .int v4)]) rfl ?_
      refine z_lload_n (pc := 31) (x := x1) C dX5_exchangeCards_31 (i := 2) rfl rfl ?_
      refine z_ldc2 (pc := 32) C dX5_exchangeCards_32 kl_RX5_46 ?_
      refine z_ldiv (pc := 35) C dX5_exchangeCards_35 (by decide) ?_
      refine z_iload (pc := 36) (x := v4) C dX5_exchangeCards_36 rfl ?_
      refine z_iconst (pc := 38) C dX5_exchangeCards_38 ic_1 ?_
      refine z_iadd (pc := 39) C dX5_exchangeCards_39 ?_
      refine z_i2l (pc := 40) C dX5_exchangeCards_40 ?_
      replace h := chk_e h
      obtain ⟨hb2, h⟩ := h
      refine z_lrem (pc := 41) C dX5_exchangeCards_41 (of_decide_eq_true hb2) ?_
      replace h := znm_e h
      obtain ⟨x3, hx3, h⟩ := h
      refine z_top2 hx3 ?_
      refine z_l2i (pc := 42) C dX5_exchangeCards_42 ?_
      refine z_istore (pc := 43) C dX5_exchangeCards_43 (by decide) (lv' := [(5, .int (x3).toInt32), (2, .long x1), (0, .ref a0), (4, .int v4)]) rfl ?_
      refine z_aload_n (pc := 45) (x := a0) C dX5_exchangeCards_45 (i := 0) rfl rfl ?_
      refine z_get (pc := 46) (v := .ref (r0 8)) C 0 dX5_exchangeCards_46 fl_RX5_21 rfl rfl ?_
      refine z_iload (pc := 49) (x := v4) C dX5_exchangeCards_49 rfl ?_
      replace h := chk_e h
      obtain ⟨hb4, h⟩ := h
      refine z_iald (pc := 51) C 1 dX5_exchangeCards_51 rfl hb4 ?_
      refine z_istore (pc := 52) C dX5_exchangeCards_52 (by decide) (lv' := [(6, .int ((s0.2.2.1 8) (v4).toNatClampNeg)), (5, .int (x3).toInt32), (2, .long x1), (0, .ref a0), (4, .int v4)]) rfl ?_
      refine z_aload_n (pc := 54) (x := a0) C dX5_exchangeCards_54 (i := 0) rfl rfl ?_
      refine z_get (pc := 55) (v := .ref (r0 8)) C 0 dX5_exchangeCards_55 fl_RX5_21 rfl rfl ?_
      refine z_iload (pc := 58) (x := v4) C dX5_exchangeCards_58 rfl ?_
      refine z_aload_n (pc := 60) (x := a0) C dX5_exchangeCards_60 (i := 0) rfl rfl ?_
      refine z_get (pc := 61) (v := .ref (r0 8)) C 0 dX5_exchangeCards_61 fl_RX5_21 rfl rfl ?_
      refine z_iload (pc := 64) (x := (x3).toInt32) C dX5_exchangeCards_64 rfl ?_
      replace h := chk_e h
      obtain ⟨hb5, h⟩ := h
      refine z_iald (pc := 66) C 1 dX5_exchangeCards_66 rfl hb5 ?_
      replace h := chk_e h
      obtain ⟨hb6, h⟩ := h
      refine z_iast (pc := 67) C 1 dX5_exchangeCards_67 rfl hb6 (ws' := (wX5 g a0 r0 (sa s0 8 (upd (s0.2.2.1 8) (v4).toNatClampNeg ((s0.2.2.1 8) ((x3).toInt32).toNatClampNeg))))) rfl ?_
      refine z_aload_n (pc := 68) (x := a0) C dX5_exchangeCards_68 (i := 0) rfl rfl ?_
      refine z_get (pc := 69) (v := .ref (r0 8)) C 0 dX5_exchangeCards_69 fl_RX5_21 rfl rfl ?_
      refine z_iload (pc := 72) (x := (x3).toInt32) C dX5_exchangeCards_72 rfl ?_
      refine z_iload (pc := 74) (x := ((s0.2.2.1 8) (v4).toNatClampNeg)) C dX5_exchangeCards_74 rfl ?_
      replace h := znm_e h
      obtain ⟨y7, hy7, h⟩ := h
      refine z_wsE (ws' := (wX5 g a0 r0 y7)) (by rw [hy7]) ?_
      replace h := chk_e h
      obtain ⟨hb8, h⟩ := h
      refine z_iast (pc := 76) C 1 dX5_exchangeCards_76 rfl hb8 (ws' := (wX5 g a0 r0 (sa y7 8 (upd (y7.2.2.1 8) ((x3).toInt32).toNatClampNeg ((s0.2.2.1 8) (v4).toNatClampNeg))))) rfl ?_
      refine z_iinc (pc := 77) C dX5_exchangeCards_77 rfl (inc_e (-1) (-1 : Int32) ic_m1 v4) (by decide) (lv' := [(4, .int (v4 + (-1 : Int32))), (6, .int ((s0.2.2.1 8) (v4).toNatClampNeg)), (5, .int (x3).toInt32), (2, .long x1), (0, .ref a0)]) rfl ?_
      refine z_goto (pc := 80) C dX5_exchangeCards_80 (tgt := 11) (by decide) ?_
      refine z_lv (lv' := [(0, .ref a0), (2, .long x1), (4, .int (v4 + (-1 : Int32)))]) [4, 3, 0] rfl ?_
      exact hk11 x1 (v4 + (-1 : Int32)) (sa y7 8 (upd (y7.2.2.1 8) ((x3).toInt32).toNatClampNeg ((s0.2.2.1 8) (v4).toNatClampNeg))) h
def f_X5_exchangeCards (N : Nat) (s0 : Ob) (p1 : Int32) : Option (Ob) := (f_X5_exchangeCards_11 N p1 N (p1).toInt64 ((s0.1 7) - (1 : Int32)) s0)
theorem m_X5_exchangeCards {g : Gp} {a0 : Nat} {r0 : Nat → Nat} {N : Nat} {s0 : Ob} {p1 : Int32} {res : Ob} (hg : Ok g) (h : f_X5_exchangeCards N s0 p1 = some res) : Ct g yX5_exchangeCards cX5_exchangeCards 7 none (zrm 0 0) [.ref a0, .int p1] (wX5 g a0 r0 s0) (exR none (wX5 g a0 r0 res)) := by
  refine ct_of rfl hg (by show _ ≤ _; exact Nat.le_of_ble_eq_true rfl) (fun K C X => ?_)
  show Zs K 0 0 (wX5 g a0 r0 s0) [(0, .ref a0), (1, .int p1)] 0 []
  unfold f_X5_exchangeCards at h
  refine z_iload_n (pc := 0) (x := p1) C dX5_exchangeCards_0 (i := 1) rfl rfl ?_
  refine z_i2l (pc := 1) C dX5_exchangeCards_1 ?_
  refine z_lstore_n (pc := 2) C dX5_exchangeCards_2 (i := 2) rfl (by decide) (lv' := [(2, .long (p1).toInt64), (0, .ref a0), (1, .int p1)]) rfl ?_
  refine z_aload_n (pc := 3) (x := a0) C dX5_exchangeCards_3 (i := 0) rfl rfl ?_
  refine z_get (pc := 4) (v := .int (s0.1 7)) C 0 dX5_exchangeCards_4 fl_RX5_37 rfl rfl ?_
  refine z_iconst (pc := 7) C dX5_exchangeCards_7 ic_1 ?_
  refine z_isub (pc := 8) C dX5_exchangeCards_8 ?_
  refine z_istore (pc := 9) C dX5_exchangeCards_9 (by decide) (lv' := [(4, .int ((s0.1 7) - (1 : Int32))), (2, .long (p1).toInt64), (0, .ref a0), (1, .int p1)]) rfl ?_
  refine z_lv (lv' := [(0, .ref a0), (2, .long (p1).toInt64), (4, .int ((s0.1 7) - (1 : Int32)))]) [2, 1, 0] rfl ?_
  exact m_X5_exchangeCards_11 (a0 := a0) (r0 := r0) hg C X N (p1).toInt64 ((s0.1 7) - (1 : Int32)) s0 h
def f_X6_clear (N : Nat) (s0 : Ob) (s1 : Ob) (s2 : Ob) : Option (Ob) := (ob (f_J7_fill_53178 N 8192 (s0.2.2.1 7) (0 : Int32)) fun x1 => (znm (sa s0 7 x1) fun y2 => (znm (si y2 0 (0 : Int32)) fun y3 => (znm (si y3 1 (-1 : Int32)) fun y4 => (znm (si y4 2 (0 : Int32)) fun y5 => (znm (si y5 3 (-1 : Int32)) fun y6 => (some (si y6 4 (-1 : Int32)))))))))
theorem m_X6_clear {g : Gp} {a0 : Nat} {a1 : Nat} {r0 : Nat → Nat} {r1 : Nat → Nat} {q1_0 : Nat} {r2 : Nat → Nat} {q2_0 : Nat} {N : Nat} {s0 : Ob} {s1 : Ob} {s2 : Ob} {res : Ob} (hg : Ok g) (h : f_X6_clear N s0 s1 s2 = some res) : Ct g yX6_clear cX6_clear 2 none (zrm 1 23) [.ref a0, .ref a1] (wX6 g a0 r0 s0 ++ wX3 g (r0 8) r1 q1_0 s1 ++ wX3 g (r0 9) r2 q2_0 s2) (exR none (wX6 g a0 r0 res ++ wX3 g (r0 8) r1 a1 s1 ++ wX3 g (r0 9) r2 a1 s2)) := by
  refine ct_of rfl hg (by show _ ≤ _; exact Nat.le_of_ble_eq_true rfl) (fun K C X => ?_)
  show Zs K 0 0 (wX6 g a0 r0 s0 ++ wX3 g (r0 8) r1 q1_0 s1 ++ wX3 g (r0 9) r2 q2_0 s2) [(0, .ref a0), (1, .ref a1)] 0 []
  unfold f_X6_clear at h
  refine z_aload_n (pc := 0) (x := a0) C dX6_clear_0 (i := 0) rfl rfl ?_
  refine z_get (pc := 1) (v := .ref (r0 8)) C 0 dX6_clear_1 fl_RX6_30 rfl rfl ?_
  refine z_aload_n (pc := 4) (x := a1) C dX6_clear_4 (i := 1) rfl rfl ?_
  refine z_put (pc := 5) C 4 dX6_clear_5 fp_RX6_93 rfl rfl rfl (zlt_b rfl) (ws' := (wX6 g a0 r0 s0 ++ wX3 g (r0 8) r1 a1 s1 ++ wX3 g (r0 9) r2 q2_0 s2)) rfl ?_
  refine z_aload_n (pc := 8) (x := a0) C dX6_clear_8 (i := 0) rfl rfl ?_
  refine z_get (pc := 9) (v := .ref (r0 9)) C 0 dX6_clear_9 fl_RX6_34 rfl rfl ?_
  refine z_aload_n (pc := 12) (x := a1) C dX6_clear_12 (i := 1) rfl rfl ?_
  refine z_put (pc := 13) C 7 dX6_clear_13 fp_RX6_93 rfl rfl rfl (zlt_b rfl) (ws' := (wX6 g a0 r0 s0 ++ wX3 g (r0 8) r1 a1 s1 ++ wX3 g (r0 9) r2 a1 s2)) rfl ?_
  refine z_aload_n (pc := 16) (x := a0) C dX6_clear_16 (i := 0) rfl rfl ?_
  refine z_get (pc := 17) (v := .ref (r0 7)) C 0 dX6_clear_17 fl_RX6_19 rfl rfl ?_
  refine z_iconst (pc := 20) C dX6_clear_20 ic_0 ?_
  replace h := ob_e h
  obtain ⟨x1, hx1, h⟩ := h
  refine z_callS (pc := 21) (As := [.ref (r0 7), .int (0 : Int32)]) (rest := []) (wr := (((wX6 g a0 r0 s0).eraseIdx 3) ++ wX3 g (r0 8) r1 a1 s1 ++ wX3 g (r0 9) r2 a1 s2)) C dX6_clear_21 ml_RX6_94 wt_J7_fill_53178 (m_J7_fill_53178 (a0 := (r0 7)) hg hx1) [3] [0, 1, 2, 4, 5, 6, 7, 8, 9] rfl rfl ⟨by decide, by decide⟩ (Nat.le_of_ble_eq_true rfl) ⟨by decide, by decide⟩ rfl rfl rfl rfl (by decide) (ex_k C (cs' := 0) (ss' := 0) (wF := (wX6 g a0 r0 (sa s0 7 x1) ++ wX3 g (r0 8) r1 a1 s1 ++ wX3 g (r0 9) r2 a1 s2)) [0, 1, 2, 9, 3, 4, 5, 6, 7, 8] rfl rfl ?_)
  refine z_aload_n (pc := 24) (x := a0) C dX6_clear_24 (i := 0) rfl rfl ?_
  refine z_iconst (pc := 25) C dX6_clear_25 ic_0 ?_
  replace h := znm_e h
  obtain ⟨y2, hy2, h⟩ := h
  refine z_wsE (ws' := (wX6 g a0 r0 y2 ++ wX3 g (r0 8) r1 a1 s1 ++ wX3 g (r0 9) r2 a1 s2)) (by rw [hy2]) ?_
  refine z_put (pc := 26) C 0 dX6_clear_26 fp_RX6_100 rfl rfl rfl (zlt_b rfl) (ws' := (wX6 g a0 r0 (si y2 0 (0 : Int32)) ++ wX3 g (r0 8) r1 a1 s1 ++ wX3 g (r0 9) r2 a1 s2)) rfl ?_
  refine z_aload_n (pc := 29) (x := a0) C dX6_clear_29 (i := 0) rfl rfl ?_
  refine z_iconst (pc := 30) C dX6_clear_30 ic_m1 ?_
  replace h := znm_e h
  obtain ⟨y3, hy3, h⟩ := h
  refine z_wsE (ws' := (wX6 g a0 r0 y3 ++ wX3 g (r0 8) r1 a1 s1 ++ wX3 g (r0 9) r2 a1 s2)) (by rw [hy3]) ?_
  refine z_put (pc := 31) C 0 dX6_clear_31 fp_RX6_61 rfl rfl rfl (zlt_b rfl) (ws' := (wX6 g a0 r0 (si y3 1 (-1 : Int32)) ++ wX3 g (r0 8) r1 a1 s1 ++ wX3 g (r0 9) r2 a1 s2)) rfl ?_
  refine z_aload_n (pc := 34) (x := a0) C dX6_clear_34 (i := 0) rfl rfl ?_
  refine z_iconst (pc := 35) C dX6_clear_35 ic_0 ?_
  replace h := znm_e h
  obtain ⟨y4, hy4, h⟩ := h
  refine z_wsE (ws' := (wX6 g a0 r0 y4 ++ wX3 g (r0 8) r1 a1 s1 ++ wX3 g (r0 9) r2 a1 s2)) (by rw [hy4]) ?_
  refine z_put (pc := 36) C 0 dX6_clear_36 fp_RX6_90 rfl rfl rfl (zlt_b rfl) (ws' := (wX6 g a0 r0 (si y4 2 (0 : Int32)) ++ wX3 g (r0 8) r1 a1 s1 ++ wX3 g (r0 9) r2 a1 s2)) rfl ?_
  refine z_aload_n (pc := 39) (x := a0) C dX6_clear_39 (i := 0) rfl rfl ?_
  refine z_iconst (pc := 40) C dX6_clear_40 ic_m1 ?_
  replace h := znm_e h
  obtain ⟨y5, hy5, h⟩ := h
  refine z_wsE (ws' := (wX6 g a0 r0 y5 ++ wX3 g (r0 8) r1 a1 s1 ++ wX3 g (r0 9) r2 a1 s2)) (by rw [hy5]) ?_
  refine z_put (pc := 41) C 0 dX6_clear_41 fp_RX6_84 rfl rfl rfl (zlt_b rfl) (ws' := (wX6 g a0 r0 (si y5 3 (-1 : Int32)) ++ wX3 g (r0 8) r1 a1 s1 ++ wX3 g (r0 9) r2 a1 s2)) rfl ?_
  refine z_aload_n (pc := 44) (x := a0) C dX6_clear_44 (i := 0) rfl rfl ?_
  refine z_iconst (pc := 45) C dX6_clear_45 ic_m1 ?_
  replace h := znm_e h
  obtain ⟨y6, hy6, h⟩ := h
  refine z_wsE (ws' := (wX6 g a0 r0 y6 ++ wX3 g (r0 8) r1 a1 s1 ++ wX3 g (r0 9) r2 a1 s2)) (by rw [hy6]) ?_
  refine z_put (pc := 46) C 0 dX6_clear_46 fp_RX6_87 rfl rfl rfl (zlt_b rfl) (ws' := (wX6 g a0 r0 (si y6 4 (-1 : Int32)) ++ wX3 g (r0 8) r1 a1 s1 ++ wX3 g (r0 9) r2 a1 s2)) rfl ?_
  exact z_vret C X dX6_clear_49 (by rw [← Option.some.inj h]; exact ⟨rfl, rfl⟩) (by decide) (by decide)
def F_X6_slotOf_6 (N : Nat) (s0 : Ob) (s1 : Ob) (p1 : Int32)  (k6 : Int64 → Int32 → Option (Int32)) (v2 : Int64) (v4 : Int32) : Option (Int32) := (if (4 : Int32) ≤ v4 then (znm ((v2).toUInt64 >>> (((32 : Int32)).toInt64.toUInt64 &&& Int64.toUInt64 63)).toInt64 fun x1 => (znm ((((v2 ^^^ x1) * (-7046029254386353131 : Int64))).toUInt64 >>> (((51 : Int32)).toInt64.toUInt64 &&& Int64.toUInt64 63)).toInt64 fun x2 => (some (x2).toInt32))) else (znm ((v2).toUInt64 >>> (((29 : Int32)).toInt64.toUInt64 &&& Int64.toUInt64 63)).toInt64 fun x3 => (chk (inb v4 4) (znm (((v2 ^^^ x3) * (-7046029254386353131 : Int64)) + ((s1.2.2.2 1) (v4).toNatClampNeg)) fun x5 => (k6 x5 (v4 + (1 : Int32)))))))
def f_X6_slotOf_6 (N : Nat) (s0 : Ob) (s1 : Ob) (p1 : Int32)  : Nat → Int64 → Int32 → Option (Int32) := zlp (fun _ _ => none) (F_X6_slotOf_6 N s0 s1 p1)
theorem m_X6_slotOf_6 {K : Kt} {g : Gp} {a0 : Nat} {r0 : Nat → Nat} {r1 : Nat → Nat} {qS : Nat} {N : Nat} {s0 : Ob} {s1 : Ob} {p1 : Int32} {res : Int32} (hg : Ok g) (C : Cx K g cX6_slotOf RX6 5 (zrm 0 0)) (X : Rx K (exR (some (.int res)) (wX6 g a0 r0 s0 ++ wX3 g (r0 9) r1 qS s1)) 0 0 (some .int)) : ∀ (n : Nat) (v2 : Int64) (v4 : Int32), f_X6_slotOf_6 N s0 s1 p1 n v2 v4 = some res → Zs K 0 0 (wX6 g a0 r0 s0 ++ wX3 g (r0 9) r1 qS s1) [(0, .ref a0), (2, .long v2), (4, .int v4)] 6 [] := by
  intro n
  induction n with
  | zero => intro v2 v4 h; exact nomatch (show (none : Option (Int32)) = some res from h)
  | succ n hk6 =>
    intro v2 v4 h
    replace h : F_X6_slotOf_6 N s0 s1 p1 (f_X6_slotOf_6 N s0 s1 p1 n) v2 v4 = some res := h
    unfold F_X6_slotOf_6 at h
    refine z_iload (pc := 6) (x := v4) C dX6_slotOf_6 rfl ?_
    refine z_iconst (pc := 8) C dX6_slotOf_8 ic_4 ?_
    refine z_icmp_ge (pc := 9) C dX6_slotOf_9 (tgt := 40) (by decide) (fun hc => ?_) (fun hc => ?_)
    · replace h := (ite_e h).1 hc
      refine z_lload_n (pc := 40) (x := v2) C dX6_slotOf_40 (i := 2) rfl rfl ?_
      refine z_lload_n (pc := 41) (x := v2) C dX6_slotOf_41 (i := 2) rfl rfl ?_
      refine z_bipush (pc := 42) C dX6_slotOf_42 bp_32 ?_
      refine z_lushr (pc := 44) C dX6_slotOf_44 ?_
      replace h := znm_e h
      obtain ⟨x1, hx1, h⟩ := h
      refine z_top2 hx1 ?_
      refine z_lxor (pc := 45) C dX6_slotOf_45 ?_
      refine z_ldc2 (pc := 46) C dX6_slotOf_46 kl_RX6_166 ?_
      refine z_lmul (pc := 49) C dX6_slotOf_49 ?_
      refine z_lstore_n (pc := 50) C dX6_slotOf_50 (i := 2) rfl (by decide) (lv' := [(2, .long ((v2 ^^^ x1) * (-7046029254386353131 : Int64))), (0, .ref a0), (4, .int v4)]) rfl ?_
      refine z_lload_n (pc := 51) (x := ((v2 ^^^ x1) * (-7046029254386353131 : Int64))) C dX6_slotOf_51 (i := 2) rfl rfl ?_
      refine z_bipush (pc := 52) C dX6_slotOf_52 bp_51 ?_
      refine z_lushr (pc := 54) C dX6_slotOf_54 ?_
      replace h := znm_e h
      obtain ⟨x2, hx2, h⟩ := h
      refine z_top2 hx2 ?_
      refine z_l2i (pc := 55) C dX6_slotOf_55 ?_
      exact z_iret C X dX6_slotOf_56 (by rw [← Option.some.inj h]; exact ⟨rfl, rfl⟩) (by decide) (by decide)
    · replace h := (ite_e h).2 hc
      refine z_lload_n (pc := 12) (x := v2) C dX6_slotOf_12 (i := 2) rfl rfl ?_
      refine z_lload_n (pc := 13) (x := v2) C dX6_slotOf_13 (i := 2) rfl rfl ?_
      refine z_bipush (pc := 14) C dX6_slotOf_14 bp_29 ?_
      refine z_lushr (pc := 16) C dX6_slotOf_16 ?_
      replace h := znm_e h
      obtain ⟨x3, hx3, h⟩ := h
      refine z_top2 hx3 ?_
      refine z_lxor (pc := 17) C dX6_slotOf_17 ?_
      refine z_ldc2 (pc := 18) C dX6_slotOf_18 kl_RX6_166 ?_
      refine z_lmul (pc := 21) C dX6_slotOf_21 ?_
      refine z_aload_n (pc := 22) (x := a0) C dX6_slotOf_22 (i := 0) rfl rfl ?_
      refine z_get (pc := 23) (v := .ref (r0 9)) C 0 dX6_slotOf_23 fl_RX6_34 rfl rfl ?_
      refine z_get (pc := 26) (v := .ref (r1 1)) C 4 dX6_slotOf_26 fl_RX6_119 rfl rfl ?_
      refine z_iload (pc := 29) (x := v4) C dX6_slotOf_29 rfl ?_
      replace h := chk_e h
      obtain ⟨hb4, h⟩ := h
      refine z_lald (pc := 31) C 5 dX6_slotOf_31 rfl hb4 ?_
      refine z_ladd (pc := 32) C dX6_slotOf_32 ?_
      replace h := znm_e h
      obtain ⟨x5, hx5, h⟩ := h
      refine z_top2 hx5 ?_
      refine z_lstore_n (pc := 33) C dX6_slotOf_33 (i := 2) rfl (by decide) (lv' := [(2, .long x5), (0, .ref a0), (4, .int v4)]) rfl ?_
      refine z_iinc (pc := 34) C dX6_slotOf_34 rfl (inc_e 1 (1 : Int32) ic_1 v4) (by decide) (lv' := [(4, .int (v4 + (1 : Int32))), (2, .long x5), (0, .ref a0)]) rfl ?_
      refine z_goto (pc := 37) C dX6_slotOf_37 (tgt := 6) (by decide) ?_
      refine z_lv (lv' := [(0, .ref a0), (2, .long x5), (4, .int (v4 + (1 : Int32)))]) [2, 1, 0] rfl ?_
      exact hk6 x5 (v4 + (1 : Int32)) h
def f_X6_slotOf (N : Nat) (s0 : Ob) (s1 : Ob) (p1 : Int32) : Option (Int32) := (f_X6_slotOf_6 N s0 s1 p1 N (p1).toInt64 (0 : Int32))
theorem m_X6_slotOf {g : Gp} {a0 : Nat} {r0 : Nat → Nat} {r1 : Nat → Nat} {qS : Nat} {N : Nat} {s0 : Ob} {s1 : Ob} {p1 : Int32} {res : Int32} (hg : Ok g) (h : f_X6_slotOf N s0 s1 p1 = some res) : Ct g yX6_slotOf cX6_slotOf 5 (some .int) (zrm 0 0) [.ref a0, .int p1] (wX6 g a0 r0 s0 ++ wX3 g (r0 9) r1 qS s1) (exR (some (.int res)) (wX6 g a0 r0 s0 ++ wX3 g (r0 9) r1 qS s1)) := by
  refine ct_of rfl hg (by show _ ≤ _; exact Nat.le_of_ble_eq_true rfl) (fun K C X => ?_)
  show Zs K 0 0 (wX6 g a0 r0 s0 ++ wX3 g (r0 9) r1 qS s1) [(0, .ref a0), (1, .int p1)] 0 []
  unfold f_X6_slotOf at h
  refine z_iload_n (pc := 0) (x := p1) C dX6_slotOf_0 (i := 1) rfl rfl ?_
  refine z_i2l (pc := 1) C dX6_slotOf_1 ?_
  refine z_lstore_n (pc := 2) C dX6_slotOf_2 (i := 2) rfl (by decide) (lv' := [(2, .long (p1).toInt64), (0, .ref a0), (1, .int p1)]) rfl ?_
  refine z_iconst (pc := 3) C dX6_slotOf_3 ic_0 ?_
  refine z_istore (pc := 4) C dX6_slotOf_4 (by decide) (lv' := [(4, .int (0 : Int32)), (2, .long (p1).toInt64), (0, .ref a0), (1, .int p1)]) rfl ?_
  refine z_lv (lv' := [(0, .ref a0), (2, .long (p1).toInt64), (4, .int (0 : Int32))]) [2, 1, 0] rfl ?_
  exact m_X6_slotOf_6 (a0 := a0) (r0 := r0) (r1 := r1) (qS := qS) hg C X N (p1).toInt64 (0 : Int32) h
def f_X6_store (N : Nat) (s0 : Ob) (s1 : Ob) (p1 : Int32) (p2 : Int32) : Option (Ob) := (if (s0.1 2) < (4000 : Int32) then (chk (inb (s0.1 2) 4000) (znm (sa s0 6 (upd (s0.2.2.1 6) ((s0.1 2)).toNatClampNeg p2)) fun y2 => (chk (decide (¬ ((s0.1 2) * (4 : Int32)) < 0)) (chk (decide ((((s0.1 2) * (4 : Int32))).toNatClampNeg + ((4 : Int32)).toNatClampNeg ≤ 16000)) (znm (sb y2 5 (va_cpy (s1.2.2.2 1) (y2.2.2.2 5) 0 (((s0.1 2) * (4 : Int32))).toNatClampNeg 4)) fun y5 => (znm (si y5 2 ((y2.1 2) + (1 : Int32))) fun y6 => (chk (inb p1 8192) (some (sa y6 7 (upd (y6.2.2.1 7) (p1).toNatClampNeg ((y2.1 2) + (1 : Int32)))))))))))) else (some (si s0 0 (1 : Int32))))
theorem m_X6_store {g : Gp} {a0 : Nat} {r0 : Nat → Nat} {r1 : Nat → Nat} {qS : Nat} {N : Nat} {s0 : Ob} {s1 : Ob} {p1 : Int32} {p2 : Int32} {res : Ob} (hg : Ok g) (h : f_X6_store N s0 s1 p1 p2 = some res) : Ct g yX6_store cX6_store 3 none (zrm 1 18) [.ref a0, .int p1, .int p2] (wX6 g a0 r0 s0 ++ wX3 g (r0 9) r1 qS s1) (exR none (wX6 g a0 r0 res ++ wX3 g (r0 9) r1 qS s1)) := by
  refine ct_of rfl hg (by show _ ≤ _; exact Nat.le_of_ble_eq_true rfl) (fun K C X => ?_)
  show Zs K 0 0 (wX6 g a0 r0 s0 ++ wX3 g (r0 9) r1 qS s1) [(0, .ref a0), (1, .int p1), (2, .int p2)] 0 []
  unfold f_X6_store at h
  refine z_aload_n (pc := 0) (x := a0) C dX6_store_0 (i := 0) rfl rfl ?_
  refine z_get (pc := 1) (v := .int (s0.1 2)) C 0 dX6_store_1 fl_RX6_90 rfl rfl ?_
  refine z_sipush (pc := 4) C dX6_store_4 sp_4000 ?_
  refine z_icmp_lt (pc := 7) C dX6_store_7 (tgt := 16) (by decide) (fun hc => ?_) (fun hc => ?_)
  · replace h := (ite_e h).1 hc
    refine z_aload_n (pc := 16) (x := a0) C dX6_store_16 (i := 0) rfl rfl ?_
    refine z_get (pc := 17) (v := .ref (r0 6)) C 0 dX6_store_17 fl_RX6_15 rfl rfl ?_
    refine z_aload_n (pc := 20) (x := a0) C dX6_store_20 (i := 0) rfl rfl ?_
    refine z_get (pc := 21) (v := .int (s0.1 2)) C 0 dX6_store_21 fl_RX6_90 rfl rfl ?_
    refine z_iload_n (pc := 24) (x := p2) C dX6_store_24 (i := 2) rfl rfl ?_
    replace h := chk_e h
    obtain ⟨hb1, h⟩ := h
    refine z_iast (pc := 25) C 2 dX6_store_25 rfl hb1 (ws' := (wX6 g a0 r0 (sa s0 6 (upd (s0.2.2.1 6) ((s0.1 2)).toNatClampNeg p2)) ++ wX3 g (r0 9) r1 qS s1)) rfl ?_
    refine z_aload_n (pc := 26) (x := a0) C dX6_store_26 (i := 0) rfl rfl ?_
    refine z_get (pc := 27) (v := .ref (r0 9)) C 0 dX6_store_27 fl_RX6_34 rfl rfl ?_
    refine z_get (pc := 30) (v := .ref (r1 1)) C 4 dX6_store_30 fl_RX6_119 rfl rfl ?_
    refine z_iconst (pc := 33) C dX6_store_33 ic_0 ?_
    refine z_aload_n (pc := 34) (x := a0) C dX6_store_34 (i := 0) rfl rfl ?_
    refine z_get (pc := 35) (v := .ref (r0 5)) C 0 dX6_store_35 fl_RX6_11 rfl rfl ?_
    refine z_aload_n (pc := 38) (x := a0) C dX6_store_38 (i := 0) rfl rfl ?_
    refine z_get (pc := 39) (v := .int (s0.1 2)) C 0 dX6_store_39 fl_RX6_90 rfl rfl ?_
    refine z_iconst (pc := 42) C dX6_store_42 ic_4 ?_
    refine z_imul (pc := 43) C dX6_store_43 ?_
    refine z_iconst (pc := 44) C dX6_store_44 ic_4 ?_
    replace h := znm_e h
    obtain ⟨y2, hy2, h⟩ := h
    refine z_wsE (ws' := (wX6 g a0 r0 y2 ++ wX3 g (r0 9) r1 qS s1)) (by rw [hy2]) ?_
    replace h := chk_e h
    obtain ⟨hb3, h⟩ := h
    replace h := chk_e h
    obtain ⟨hb4, h⟩ := h
    refine z_copyl (pc := 45) C 5 1 dX6_store_45 wc_RX6_120 rfl rfl (by decide) (of_decide_eq_true hb3) (by decide) (by decide) (of_decide_eq_true hb4) (by decide) (Nat.le_of_ble_eq_true rfl) (ws' := (wX6 g a0 r0 (sb y2 5 (va_cpy (s1.2.2.2 1) (y2.2.2.2 5) 0 (((s0.1 2) * (4 : Int32))).toNatClampNeg 4)) ++ wX3 g (r0 9) r1 qS s1)) rfl ?_
    refine z_aload_n (pc := 48) (x := a0) C dX6_store_48 (i := 0) rfl rfl ?_
    refine z_dup (pc := 49) C dX6_store_49 rfl ?_
    refine z_get (pc := 50) (v := .int (y2.1 2)) C 0 dX6_store_50 fl_RX6_90 rfl rfl ?_
    refine z_iconst (pc := 53) C dX6_store_53 ic_1 ?_
    refine z_iadd (pc := 54) C dX6_store_54 ?_
    replace h := znm_e h
    obtain ⟨y5, hy5, h⟩ := h
    refine z_wsE (ws' := (wX6 g a0 r0 y5 ++ wX3 g (r0 9) r1 qS s1)) (by rw [hy5]) ?_
    refine z_put (pc := 55) C 0 dX6_store_55 fp_RX6_90 rfl rfl rfl (zlt_b rfl) (ws' := (wX6 g a0 r0 (si y5 2 ((y2.1 2) + (1 : Int32))) ++ wX3 g (r0 9) r1 qS s1)) rfl ?_
    refine z_aload_n (pc := 58) (x := a0) C dX6_store_58 (i := 0) rfl rfl ?_
    refine z_get (pc := 59) (v := .ref (r0 7)) C 0 dX6_store_59 fl_RX6_19 rfl rfl ?_
    refine z_iload_n (pc := 62) (x := p1) C dX6_store_62 (i := 1) rfl rfl ?_
    refine z_aload_n (pc := 63) (x := a0) C dX6_store_63 (i := 0) rfl rfl ?_
    refine z_get (pc := 64) (v := .int ((y2.1 2) + (1 : Int32))) C 0 dX6_store_64 fl_RX6_90 rfl rfl ?_
    replace h := znm_e h
    obtain ⟨y6, hy6, h⟩ := h
    refine z_wsE (ws' := (wX6 g a0 r0 y6 ++ wX3 g (r0 9) r1 qS s1)) (by rw [hy6]) ?_
    replace h := chk_e h
    obtain ⟨hb7, h⟩ := h
    refine z_iast (pc := 67) C 3 dX6_store_67 rfl hb7 (ws' := (wX6 g a0 r0 (sa y6 7 (upd (y6.2.2.1 7) (p1).toNatClampNeg ((y2.1 2) + (1 : Int32)))) ++ wX3 g (r0 9) r1 qS s1)) rfl ?_
    exact z_vret C X dX6_store_68 (by rw [← Option.some.inj h]; exact ⟨rfl, rfl⟩) (by decide) (by decide)
  · replace h := (ite_e h).2 hc
    refine z_aload_n (pc := 10) (x := a0) C dX6_store_10 (i := 0) rfl rfl ?_
    refine z_iconst (pc := 11) C dX6_store_11 ic_1 ?_
    refine z_put (pc := 12) C 0 dX6_store_12 fp_RX6_100 rfl rfl rfl (zlt_b rfl) (ws' := (wX6 g a0 r0 (si s0 0 (1 : Int32)) ++ wX3 g (r0 9) r1 qS s1)) rfl ?_
    exact z_vret C X dX6_store_15 (by rw [← Option.some.inj h]; exact ⟨rfl, rfl⟩) (by decide) (by decide)
def F_X6_isStored_25 (N : Nat) (s0 : Ob) (s1 : Ob) (p1 : Int32) (p2 : Int32)  (k25 : Int32 → Option (Int32)) (v3 : Int32) : Option (Int32) := (if (4 : Int32) ≤ v3 then (some (1 : Int32)) else (chk (inb ((p1 * (4 : Int32)) + v3) 16000) (chk (inb v3 4) (if (lg_cmp ((s0.2.2.2 5) (((p1 * (4 : Int32)) + v3)).toNatClampNeg) ((s1.2.2.2 1) (v3).toNatClampNeg)) = 0 then (k25 (v3 + (1 : Int32))) else (some (0 : Int32))))))
def f_X6_isStored_25 (N : Nat) (s0 : Ob) (s1 : Ob) (p1 : Int32) (p2 : Int32)  : Nat → Int32 → Option (Int32) := zlp (fun _ => none) (F_X6_isStored_25 N s0 s1 p1 p2)
theorem m_X6_isStored_25 {K : Kt} {g : Gp} {a0 : Nat} {r0 : Nat → Nat} {r1 : Nat → Nat} {qS : Nat} {N : Nat} {s0 : Ob} {s1 : Ob} {p1 : Int32} {p2 : Int32} {res : Int32} (hg : Ok g) (C : Cx K g cX6_isStored RX6 4 (zrm 0 0)) (X : Rx K (exR (some (.int res)) (wX6 g a0 r0 s0 ++ wX3 g (r0 9) r1 qS s1)) 0 0 (some .boolean)) : ∀ (n : Nat) (v3 : Int32), f_X6_isStored_25 N s0 s1 p1 p2 n v3 = some res → Zs K 0 0 (wX6 g a0 r0 s0 ++ wX3 g (r0 9) r1 qS s1) [(0, .ref a0), (1, .int p1), (3, .int v3)] 25 [] := by
  intro n
  induction n with
  | zero => intro v3 h; exact nomatch (show (none : Option (Int32)) = some res from h)
  | succ n hk25 =>
    intro v3 h
    replace h : F_X6_isStored_25 N s0 s1 p1 p2 (f_X6_isStored_25 N s0 s1 p1 p2 n) v3 = some res := h
    unfold F_X6_isStored_25 at h
    refine z_iload_n (pc := 25) (x := v3) C dX6_isStored_25 (i := 3) rfl rfl ?_
    refine z_iconst (pc := 26) C dX6_isStored_26 ic_4 ?_
    refine z_icmp_ge (pc := 27) C dX6_isStored_27 (tgt := 61) (by decide) (fun hc => ?_) (fun hc => ?_)
    · replace h := (ite_e h).1 hc
      refine z_iconst (pc := 61) C dX6_isStored_61 ic_1 ?_
      exact z_zret C X dX6_isStored_62 rfl (by rw [← Option.some.inj h]; exact ⟨rfl, rfl⟩) (by decide) (by decide)
    · replace h := (ite_e h).2 hc
      refine z_aload_n (pc := 30) (x := a0) C dX6_isStored_30 (i := 0) rfl rfl ?_
      refine z_get (pc := 31) (v := .ref (r0 5)) C 0 dX6_isStored_31 fl_RX6_11 rfl rfl ?_
      refine z_iload_n (pc := 34) (x := p1) C dX6_isStored_34 (i := 1) rfl rfl ?_
      refine z_iconst (pc := 35) C dX6_isStored_35 ic_4 ?_
      refine z_imul (pc := 36) C dX6_isStored_36 ?_
      refine z_iload_n (pc := 37) (x := v3) C dX6_isStored_37 (i := 3) rfl rfl ?_
      refine z_iadd (pc := 38) C dX6_isStored_38 ?_
      replace h := chk_e h
      obtain ⟨hb2, h⟩ := h
      refine z_lald (pc := 39) C 1 dX6_isStored_39 rfl hb2 ?_
      refine z_aload_n (pc := 40) (x := a0) C dX6_isStored_40 (i := 0) rfl rfl ?_
      refine z_get (pc := 41) (v := .ref (r0 9)) C 0 dX6_isStored_41 fl_RX6_34 rfl rfl ?_
      refine z_get (pc := 44) (v := .ref (r1 1)) C 4 dX6_isStored_44 fl_RX6_119 rfl rfl ?_
      refine z_iload_n (pc := 47) (x := v3) C dX6_isStored_47 (i := 3) rfl rfl ?_
      replace h := chk_e h
      obtain ⟨hb3, h⟩ := h
      refine z_lald (pc := 48) C 5 dX6_isStored_48 rfl hb3 ?_
      refine z_lcmp (pc := 49) C dX6_isStored_49 ?_
      refine z_if_eq (pc := 50) C dX6_isStored_50 (tgt := 55) (by decide) (fun hc => ?_) (fun hc => ?_)
      · replace h := (ite_e h).1 hc
        refine z_iinc (pc := 55) C dX6_isStored_55 rfl (inc_e 1 (1 : Int32) ic_1 v3) (by decide) (lv' := [(3, .int (v3 + (1 : Int32))), (0, .ref a0), (1, .int p1)]) rfl ?_
        refine z_goto (pc := 58) C dX6_isStored_58 (tgt := 25) (by decide) ?_
        refine z_lv (lv' := [(0, .ref a0), (1, .int p1), (3, .int (v3 + (1 : Int32)))]) [1, 2, 0] rfl ?_
        exact hk25 (v3 + (1 : Int32)) h
      · replace h := (ite_e h).2 hc
        refine z_iconst (pc := 53) C dX6_isStored_53 ic_0 ?_
        exact z_zret C X dX6_isStored_54 rfl (by rw [← Option.some.inj h]; exact ⟨rfl, rfl⟩) (by decide) (by decide)
def f_X6_isStored (N : Nat) (s0 : Ob) (s1 : Ob) (p1 : Int32) (p2 : Int32) : Option (Int32) := (if p1 < 0 then (some (0 : Int32)) else (if (4000 : Int32) ≤ p1 then (some (0 : Int32)) else (chk (inb p1 4000) (if ((s0.2.2.1 6) (p1).toNatClampNeg) = p2 then (f_X6_isStored_25 N s0 s1 p1 p2 N (0 : Int32)) else (some (0 : Int32))))))
theorem m_X6_isStored {g : Gp} {a0 : Nat} {r0 : Nat → Nat} {r1 : Nat → Nat} {qS : Nat} {N : Nat} {s0 : Ob} {s1 : Ob} {p1 : Int32} {p2 : Int32} {res : Int32} (hg : Ok g) (h : f_X6_isStored N s0 s1 p1 p2 = some res) : Ct g yX6_isStored cX6_isStored 4 (some .boolean) (zrm 0 0) [.ref a0, .int p1, .int p2] (wX6 g a0 r0 s0 ++ wX3 g (r0 9) r1 qS s1) (exR (some (.int res)) (wX6 g a0 r0 s0 ++ wX3 g (r0 9) r1 qS s1)) := by
  refine ct_of rfl hg (by show _ ≤ _; exact Nat.le_of_ble_eq_true rfl) (fun K C X => ?_)
  show Zs K 0 0 (wX6 g a0 r0 s0 ++ wX3 g (r0 9) r1 qS s1) [(0, .ref a0), (1, .int p1), (2, .int p2)] 0 []
  unfold f_X6_isStored at h
  refine z_iload_n (pc := 0) (x := p1) C dX6_isStored_0 (i := 1) rfl rfl ?_
  refine z_if_lt (pc := 1) C dX6_isStored_1 (tgt := 21) (by decide) (fun hc => ?_) (fun hc => ?_)
  · replace h := (ite_e h).1 hc
    refine z_iconst (pc := 21) C dX6_isStored_21 ic_0 ?_
    exact z_zret C X dX6_isStored_22 rfl (by rw [← Option.some.inj h]; exact ⟨rfl, rfl⟩) (by decide) (by decide)
  · replace h := (ite_e h).2 hc
    refine z_iload_n (pc := 4) (x := p1) C dX6_isStored_4 (i := 1) rfl rfl ?_
    refine z_sipush (pc := 5) C dX6_isStored_5 sp_4000 ?_
    refine z_icmp_ge (pc := 8) C dX6_isStored_8 (tgt := 21) (by decide) (fun hc => ?_) (fun hc => ?_)
    · replace h := (ite_e h).1 hc
      refine z_iconst (pc := 21) C dX6_isStored_21 ic_0 ?_
      exact z_zret C X dX6_isStored_22 rfl (by rw [← Option.some.inj h]; exact ⟨rfl, rfl⟩) (by decide) (by decide)
    · replace h := (ite_e h).2 hc
      refine z_aload_n (pc := 11) (x := a0) C dX6_isStored_11 (i := 0) rfl rfl ?_
      refine z_get (pc := 12) (v := .ref (r0 6)) C 0 dX6_isStored_12 fl_RX6_15 rfl rfl ?_
      refine z_iload_n (pc := 15) (x := p1) C dX6_isStored_15 (i := 1) rfl rfl ?_
      replace h := chk_e h
      obtain ⟨hb1, h⟩ := h
      refine z_iald (pc := 16) C 2 dX6_isStored_16 rfl hb1 ?_
      refine z_iload_n (pc := 17) (x := p2) C dX6_isStored_17 (i := 2) rfl rfl ?_
      refine z_icmp_eq (pc := 18) C dX6_isStored_18 (tgt := 23) (by decide) (fun hc => ?_) (fun hc => ?_)
      · replace h := (ite_e h).1 hc
        refine z_iconst (pc := 23) C dX6_isStored_23 ic_0 ?_
        refine z_istore_n (pc := 24) C dX6_isStored_24 (i := 3) rfl (by decide) (lv' := [(3, .int (0 : Int32)), (0, .ref a0), (1, .int p1), (2, .int p2)]) rfl ?_
        refine z_lv (lv' := [(0, .ref a0), (1, .int p1), (3, .int (0 : Int32))]) [1, 2, 0] rfl ?_
        exact m_X6_isStored_25 (a0 := a0) (r0 := r0) (r1 := r1) (qS := qS) hg C X N (0 : Int32) h
      · replace h := (ite_e h).2 hc
        refine z_iconst (pc := 21) C dX6_isStored_21 ic_0 ?_
        exact z_zret C X dX6_isStored_22 rfl (by rw [← Option.some.inj h]; exact ⟨rfl, rfl⟩) (by decide) (by decide)
def F_X6_add_16 (N : Nat) (s1 : Ob)  (k16 : Int32 → Int32 → Int32 → Ob → Option (Ob)) (v1 : Int32) (v2 : Int32) (v3 : Int32) (s0 : Ob) : Option (Ob) := (if (8192 : Int32) ≤ v3 then (some s0) else (chk (inb v2 8192) (if ((s0.2.2.1 7) (v2).toNatClampNeg) = 0 then (ob (f_X6_store N s0 s1 v2 v1) fun x6 => (some x6)) else (chk (inb v2 8192) (ob (f_X6_isStored N s0 s1 (((s0.2.2.1 7) (v2).toNatClampNeg) - (1 : Int32)) v1) fun x5 => (if x5 = 0 then (if (8192 : Int32) ≤ (v2 + (1 : Int32)) then (k16 v1 (0 : Int32) (v3 + (1 : Int32)) s0) else (k16 v1 (v2 + (1 : Int32)) (v3 + (1 : Int32)) s0)) else (some s0)))))))
def f_X6_add_16 (N : Nat) (s1 : Ob)  : Nat → Int32 → Int32 → Int32 → Ob → Option (Ob) := zlp (fun _ _ _ _ => none) (F_X6_add_16 N s1)
theorem m_X6_add_16 {K : Kt} {g : Gp} {a0 : Nat} {r0 : Nat → Nat} {r1 : Nat → Nat} {qS : Nat} {N : Nat} {s1 : Ob} {res : Ob} (hg : Ok g) (C : Cx K g cX6_add RX6 4 (zrm 2 40)) (X : Rx K (exR none (wX6 g a0 r0 res ++ wX3 g (r0 9) r1 qS s1)) 0 0 none) : ∀ (n : Nat) (v1 : Int32) (v2 : Int32) (v3 : Int32) (s0 : Ob), f_X6_add_16 N s1 n v1 v2 v3 s0 = some res → Zs K 0 0 (wX6 g a0 r0 s0 ++ wX3 g (r0 9) r1 qS s1) [(0, .ref a0), (1, .int v1), (2, .int v2), (3, .int v3)] 16 [] := by
  intro n
  induction n with
  | zero => intro v1 v2 v3 s0 h; exact nomatch (show (none : Option (Ob)) = some res from h)
  | succ n hk16 =>
    intro v1 v2 v3 s0 h
    replace h : F_X6_add_16 N s1 (f_X6_add_16 N s1 n) v1 v2 v3 s0 = some res := h
    unfold F_X6_add_16 at h
    refine z_iload_n (pc := 16) (x := v3) C dX6_add_16 (i := 3) rfl rfl ?_
    refine z_sipush (pc := 17) C dX6_add_17 sp_8192 ?_
    refine z_icmp_ge (pc := 20) C dX6_add_20 (tgt := 79) (by decide) (fun hc => ?_) (fun hc => ?_)
    · replace h := (ite_e h).1 hc
      exact z_vret C X dX6_add_79 (by rw [← Option.some.inj h]; exact ⟨rfl, rfl⟩) (by decide) (by decide)
    · replace h := (ite_e h).2 hc
      refine z_aload_n (pc := 23) (x := a0) C dX6_add_23 (i := 0) rfl rfl ?_
      refine z_get (pc := 24) (v := .ref (r0 7)) C 0 dX6_add_24 fl_RX6_19 rfl rfl ?_
      refine z_iload_n (pc := 27) (x := v2) C dX6_add_27 (i := 2) rfl rfl ?_
      replace h := chk_e h
      obtain ⟨hb3, h⟩ := h
      refine z_iald (pc := 28) C 3 dX6_add_28 rfl hb3 ?_
      refine z_if_ne (pc := 29) C dX6_add_29 (tgt := 39) (by decide) (fun hc => ?_) (fun hc => ?_)
      · replace h := (ite_e h).2 hc
        refine z_aload_n (pc := 39) (x := a0) C dX6_add_39 (i := 0) rfl rfl ?_
        refine z_aload_n (pc := 40) (x := a0) C dX6_add_40 (i := 0) rfl rfl ?_
        refine z_get (pc := 41) (v := .ref (r0 7)) C 0 dX6_add_41 fl_RX6_19 rfl rfl ?_
        refine z_iload_n (pc := 44) (x := v2) C dX6_add_44 (i := 2) rfl rfl ?_
        replace h := chk_e h
        obtain ⟨hb4, h⟩ := h
        refine z_iald (pc := 45) C 3 dX6_add_45 rfl hb4 ?_
        refine z_iconst (pc := 46) C dX6_add_46 ic_1 ?_
        refine z_isub (pc := 47) C dX6_add_47 ?_
        refine z_iload_n (pc := 48) (x := v1) C dX6_add_48 (i := 1) rfl rfl ?_
        replace h := ob_e h
        obtain ⟨x5, hx5, h⟩ := h
        refine z_callV (pc := 49) (As := [.int (((s0.2.2.1 7) (v2).toNatClampNeg) - (1 : Int32)), .int v1]) (rest := []) (wr := ([] : va_W)) C dX6_add_49 ml_RX6_163 wv_X6_isStored (m_X6_isStored (a0 := a0) (r0 := r0) (r1 := r1) (qS := qS) hg hx5) [0, 1, 2, 3, 4, 5, 6] [] rfl rfl ⟨by decide, by decide⟩ (Nat.le_of_ble_eq_true rfl) ⟨by decide, by decide⟩ rfl rfl rfl rfl rfl rfl rfl (by decide) (ex_k C (cs' := 0) (ss' := 0) (wF := (wX6 g a0 r0 s0 ++ wX3 g (r0 9) r1 qS s1)) [0, 1, 2, 3, 4, 5, 6] rfl rfl ?_)
        refine z_if_eq (pc := 52) C dX6_add_52 (tgt := 56) (by decide) (fun hc => ?_) (fun hc => ?_)
        · replace h := (ite_e h).1 hc
          refine z_iload_n (pc := 56) (x := v2) C dX6_add_56 (i := 2) rfl rfl ?_
          refine z_iconst (pc := 57) C dX6_add_57 ic_1 ?_
          refine z_iadd (pc := 58) C dX6_add_58 ?_
          refine z_sipush (pc := 59) C dX6_add_59 sp_8192 ?_
          refine z_icmp_ge (pc := 62) C dX6_add_62 (tgt := 71) (by decide) (fun hc => ?_) (fun hc => ?_)
          · replace h := (ite_e h).1 hc
            refine z_iconst (pc := 71) C dX6_add_71 ic_0 ?_
            refine z_istore_n (pc := 72) C dX6_add_72 (i := 2) rfl (by decide) (lv' := [(2, .int (0 : Int32)), (0, .ref a0), (1, .int v1), (3, .int v3)]) rfl ?_
            refine z_iinc (pc := 73) C dX6_add_73 rfl (inc_e 1 (1 : Int32) ic_1 v3) (by decide) (lv' := [(3, .int (v3 + (1 : Int32))), (2, .int (0 : Int32)), (0, .ref a0), (1, .int v1)]) rfl ?_
            refine z_goto (pc := 76) C dX6_add_76 (tgt := 16) (by decide) ?_
            refine z_lv (lv' := [(0, .ref a0), (1, .int v1), (2, .int (0 : Int32)), (3, .int (v3 + (1 : Int32)))]) [2, 3, 1, 0] rfl ?_
            exact hk16 v1 (0 : Int32) (v3 + (1 : Int32)) s0 h
          · replace h := (ite_e h).2 hc
            refine z_iload_n (pc := 65) (x := v2) C dX6_add_65 (i := 2) rfl rfl ?_
            refine z_iconst (pc := 66) C dX6_add_66 ic_1 ?_
            refine z_iadd (pc := 67) C dX6_add_67 ?_
            refine z_goto (pc := 68) C dX6_add_68 (tgt := 72) (by decide) ?_
            refine z_istore_n (pc := 72) C dX6_add_72 (i := 2) rfl (by decide) (lv' := [(2, .int (v2 + (1 : Int32))), (0, .ref a0), (1, .int v1), (3, .int v3)]) rfl ?_
            refine z_iinc (pc := 73) C dX6_add_73 rfl (inc_e 1 (1 : Int32) ic_1 v3) (by decide) (lv' := [(3, .int (v3 + (1 : Int32))), (2, .int (v2 + (1 : Int32))), (0, .ref a0), (1, .int v1)]) rfl ?_
            refine z_goto (pc := 76) C dX6_add_76 (tgt := 16) (by decide) ?_
            refine z_lv (lv' := [(0, .ref a0), (1, .int v1), (2, .int (v2 + (1 : Int32))), (3, .int (v3 + (1 : Int32)))]) [2, 3, 1, 0] rfl ?_
            exact hk16 v1 (v2 + (1 : Int32)) (v3 + (1 : Int32)) s0 h
        · replace h := (ite_e h).2 hc
          exact z_vret C X dX6_add_55 (by rw [← Option.some.inj h]; exact ⟨rfl, rfl⟩) (by decide) (by decide)
      · replace h := (ite_e h).1 hc
        refine z_aload_n (pc := 32) (x := a0) C dX6_add_32 (i := 0) rfl rfl ?_
        refine z_iload_n (pc := 33) (x := v2) C dX6_add_33 (i := 2) rfl rfl ?_
        refine z_iload_n (pc := 34) (x := v1) C dX6_add_34 (i := 1) rfl rfl ?_
        replace h := ob_e h
        obtain ⟨x6, hx6, h⟩ := h
        refine z_callV (pc := 35) (As := [.int v2, .int v1]) (rest := []) (wr := ([] : va_W)) C dX6_add_35 ml_RX6_160 wv_X6_store (m_X6_store (a0 := a0) (r0 := r0) (r1 := r1) (qS := qS) hg hx6) [0, 1, 2, 3, 4, 5, 6] [] rfl rfl ⟨by decide, by decide⟩ (Nat.le_of_ble_eq_true rfl) ⟨by decide, by decide⟩ rfl rfl rfl rfl rfl rfl rfl (by decide) (ex_k C (cs' := 0) (ss' := 0) (wF := (wX6 g a0 r0 x6 ++ wX3 g (r0 9) r1 qS s1)) [0, 1, 2, 3, 4, 5, 6] rfl rfl ?_)
        exact z_vret C X dX6_add_38 (by rw [← Option.some.inj h]; exact ⟨rfl, rfl⟩) (by decide) (by decide)
def f_X6_add (N : Nat) (s0 : Ob) (s1 : Ob) : Option (Ob) := (ob (f_X3_packed N s1) fun x1 => (ob (f_X6_slotOf N s0 s1 x1) fun x2 => (f_X6_add_16 N s1 N x1 x2 (0 : Int32) s0)))
theorem m_X6_add {g : Gp} {a0 : Nat} {r0 : Nat → Nat} {r1 : Nat → Nat} {qS : Nat} {N : Nat} {s0 : Ob} {s1 : Ob} {res : Ob} (hg : Ok g) (h : f_X6_add N s0 s1 = some res) : Ct g yX6_add cX6_add 4 none (zrm 2 40) [.ref a0] (wX6 g a0 r0 s0 ++ wX3 g (r0 9) r1 qS s1) (exR none (wX6 g a0 r0 res ++ wX3 g (r0 9) r1 qS s1)) := by
  refine ct_of rfl hg (by show _ ≤ _; exact Nat.le_of_ble_eq_true rfl) (fun K C X => ?_)
  show Zs K 0 0 (wX6 g a0 r0 s0 ++ wX3 g (r0 9) r1 qS s1) [(0, .ref a0)] 0 []
  unfold f_X6_add at h
  refine z_aload_n (pc := 0) (x := a0) C dX6_add_0 (i := 0) rfl rfl ?_
  refine z_get (pc := 1) (v := .ref (r0 9)) C 0 dX6_add_1 fl_RX6_34 rfl rfl ?_
  replace h := ob_e h
  obtain ⟨x1, hx1, h⟩ := h
  refine z_callV (pc := 4) (As := []) (rest := []) (wr := (wX6 g a0 r0 s0)) C dX6_add_4 ml_RX6_154 wv_X3_packed (m_X3_packed (a0 := (r0 9)) (r0 := r1) (q0_0 := qS) hg hx1) [4, 5, 6] [0, 1, 2, 3] rfl rfl ⟨by decide, by decide⟩ (Nat.le_of_ble_eq_true rfl) ⟨by decide, by decide⟩ rfl rfl rfl rfl rfl rfl rfl (by decide) (ex_k C (cs' := 0) (ss' := 0) (wF := (wX6 g a0 r0 s0 ++ wX3 g (r0 9) r1 qS s1)) [0, 1, 2, 3, 4, 5, 6] rfl rfl ?_)
  refine z_istore_n (pc := 7) C dX6_add_7 (i := 1) rfl (by decide) (lv' := [(1, .int x1), (0, .ref a0)]) rfl ?_
  refine z_aload_n (pc := 8) (x := a0) C dX6_add_8 (i := 0) rfl rfl ?_
  refine z_iload_n (pc := 9) (x := x1) C dX6_add_9 (i := 1) rfl rfl ?_
  replace h := ob_e h
  obtain ⟨x2, hx2, h⟩ := h
  refine z_callV (pc := 10) (As := [.int x1]) (rest := []) (wr := ([] : va_W)) C dX6_add_10 ml_RX6_157 wv_X6_slotOf (m_X6_slotOf (a0 := a0) (r0 := r0) (r1 := r1) (qS := qS) hg hx2) [0, 1, 2, 3, 4, 5, 6] [] rfl rfl ⟨by decide, by decide⟩ (Nat.le_of_ble_eq_true rfl) ⟨by decide, by decide⟩ rfl rfl rfl rfl rfl rfl rfl (by decide) (ex_k C (cs' := 0) (ss' := 0) (wF := (wX6 g a0 r0 s0 ++ wX3 g (r0 9) r1 qS s1)) [0, 1, 2, 3, 4, 5, 6] rfl rfl ?_)
  refine z_istore_n (pc := 13) C dX6_add_13 (i := 2) rfl (by decide) (lv' := [(2, .int x2), (1, .int x1), (0, .ref a0)]) rfl ?_
  refine z_iconst (pc := 14) C dX6_add_14 ic_0 ?_
  refine z_istore_n (pc := 15) C dX6_add_15 (i := 3) rfl (by decide) (lv' := [(3, .int (0 : Int32)), (2, .int x2), (1, .int x1), (0, .ref a0)]) rfl ?_
  refine z_lv (lv' := [(0, .ref a0), (1, .int x1), (2, .int x2), (3, .int (0 : Int32))]) [3, 2, 1, 0] rfl ?_
  exact m_X6_add_16 (a0 := a0) (r0 := r0) (r1 := r1) (qS := qS) hg C X N x1 x2 (0 : Int32) s0 h
def f_X6_addBehind (N : Nat) (s0 : Ob) (s1 : Ob) (s2 : Ob) (s3 : Ob) (p1 : Int32) (p2 : Int32) : Option (Ob × Ob) := (ob (f_X3_isSensible N s1 s2 p1 p2) fun x1 => (if x1 = 0 then (some (s0, s3)) else (ob (f_X3_copyFrom N s3 s1) fun x2 => (ob (f_X3_move N x2 s2 p1 p2) fun x3 => (ob (f_X6_add N s0 x3) fun x4 => (some (x4, x3)))))))
theorem m_X6_addBehind {g : Gp} {a0 : Nat} {r0 : Nat → Nat} {r1 : Nat → Nat} {qS : Nat} {r2 : Nat → Nat} {r3 : Nat → Nat} {N : Nat} {s0 : Ob} {s1 : Ob} {s2 : Ob} {s3 : Ob} {p1 : Int32} {p2 : Int32} {res : Ob × Ob} (hg : Ok g) (h : f_X6_addBehind N s0 s1 s2 s3 p1 p2 = some res) : Ct g yX6_addBehind cX6_addBehind 3 none (zrm 3 63) [.ref a0, .int p1, .int p2] (wX6 g a0 r0 s0 ++ wX3 g (r0 8) r1 qS s1 ++ wX5 g qS r2 s2 ++ wX3 g (r0 9) r3 qS s3) (exR none (wX6 g a0 r0 res.1 ++ wX3 g (r0 8) r1 qS s1 ++ wX5 g qS r2 s2 ++ wX3 g (r0 9) r3 qS res.2)) := by
  refine ct_of rfl hg (by show _ ≤ _; exact Nat.le_of_ble_eq_true rfl) (fun K C X => ?_)
  show Zs K 0 0 (wX6 g a0 r0 s0 ++ wX3 g (r0 8) r1 qS s1 ++ wX5 g qS r2 s2 ++ wX3 g (r0 9) r3 qS s3) [(0, .ref a0), (1, .int p1), (2, .int p2)] 0 []
  unfold f_X6_addBehind at h
  refine z_aload_n (pc := 0) (x := a0) C dX6_addBehind_0 (i := 0) rfl rfl ?_
  refine z_get (pc := 1) (v := .ref (r0 8)) C 0 dX6_addBehind_1 fl_RX6_30 rfl rfl ?_
  refine z_iload_n (pc := 4) (x := p1) C dX6_addBehind_4 (i := 1) rfl rfl ?_
  refine z_iload_n (pc := 5) (x := p2) C dX6_addBehind_5 (i := 2) rfl rfl ?_
  replace h := ob_e h
  obtain ⟨x1, hx1, h⟩ := h
  refine z_callV (pc := 6) (As := [.int p1, .int p2]) (rest := []) (wr := (wX6 g a0 r0 s0 ++ wX3 g (r0 9) r3 qS s3)) C dX6_addBehind_6 ml_RX6_108 wv_X3_isSensible (m_X3_isSensible (a0 := (r0 8)) (r0 := r1) (q0_0 := qS) (r1 := r2) hg hx1) [4, 5, 6, 7, 8, 9, 10] [0, 1, 2, 3, 11, 12, 13] rfl rfl ⟨by decide, by decide⟩ (Nat.le_of_ble_eq_true rfl) ⟨by decide, by decide⟩ rfl rfl rfl rfl rfl rfl rfl (by decide) (ex_k C (cs' := 0) (ss' := 0) (wF := (wX6 g a0 r0 s0 ++ wX3 g (r0 8) r1 qS s1 ++ wX5 g qS r2 s2 ++ wX3 g (r0 9) r3 qS s3)) [0, 1, 2, 3, 7, 8, 9, 10, 11, 12, 13, 4, 5, 6] rfl rfl ?_)
  refine z_if_eq (pc := 9) C dX6_addBehind_9 (tgt := 36) (by decide) (fun hc => ?_) (fun hc => ?_)
  · replace h := (ite_e h).1 hc
    exact z_vret C X dX6_addBehind_36 (by rw [← Option.some.inj h]; exact ⟨rfl, rfl⟩) (by decide) (by decide)
  · replace h := (ite_e h).2 hc
    refine z_aload_n (pc := 12) (x := a0) C dX6_addBehind_12 (i := 0) rfl rfl ?_
    refine z_get (pc := 13) (v := .ref (r0 9)) C 0 dX6_addBehind_13 fl_RX6_34 rfl rfl ?_
    refine z_aload_n (pc := 16) (x := a0) C dX6_addBehind_16 (i := 0) rfl rfl ?_
    refine z_get (pc := 17) (v := .ref (r0 8)) C 0 dX6_addBehind_17 fl_RX6_30 rfl rfl ?_
    replace h := ob_e h
    obtain ⟨x2, hx2, h⟩ := h
    refine z_callV (pc := 20) (As := [.ref (r0 8)]) (rest := []) (wr := (wX6 g a0 r0 s0 ++ wX5 g qS r2 s2)) C dX6_addBehind_20 ml_RX6_150 wv_X3_copyFrom (m_X3_copyFrom (a0 := (r0 9)) (a1 := (r0 8)) (r0 := r3) (q0_0 := qS) (r1 := r1) (q1_0 := qS) hg hx2) [11, 12, 13, 4, 5, 6] [0, 1, 2, 3, 7, 8, 9, 10] rfl rfl ⟨by decide, by decide⟩ (Nat.le_of_ble_eq_true rfl) ⟨by decide, by decide⟩ rfl rfl rfl rfl rfl rfl rfl (by decide) (ex_k C (cs' := 0) (ss' := 0) (wF := (wX6 g a0 r0 s0 ++ wX3 g (r0 8) r1 qS s1 ++ wX5 g qS r2 s2 ++ wX3 g (r0 9) r3 qS x2)) [0, 1, 2, 3, 11, 12, 13, 4, 5, 6, 7, 8, 9, 10] rfl rfl ?_)
    refine z_aload_n (pc := 23) (x := a0) C dX6_addBehind_23 (i := 0) rfl rfl ?_
    refine z_get (pc := 24) (v := .ref (r0 9)) C 0 dX6_addBehind_24 fl_RX6_34 rfl rfl ?_
    refine z_iload_n (pc := 27) (x := p1) C dX6_addBehind_27 (i := 1) rfl rfl ?_
    refine z_iload_n (pc := 28) (x := p2) C dX6_addBehind_28 (i := 2) rfl rfl ?_
    replace h := ob_e h
    obtain ⟨x3, hx3, h⟩ := h
    refine z_callV (pc := 29) (As := [.int p1, .int p2]) (rest := []) (wr := (wX6 g a0 r0 s0 ++ wX3 g (r0 8) r1 qS s1)) C dX6_addBehind_29 ml_RX6_112 wv_X3_move (m_X3_move (a0 := (r0 9)) (r0 := r3) (q0_0 := qS) (r1 := r2) hg hx3) [11, 12, 13, 7, 8, 9, 10] [0, 1, 2, 3, 4, 5, 6] rfl rfl ⟨by decide, by decide⟩ (Nat.le_of_ble_eq_true rfl) ⟨by decide, by decide⟩ rfl rfl rfl rfl rfl rfl rfl (by decide) (ex_k C (cs' := 0) (ss' := 0) (wF := (wX6 g a0 r0 s0 ++ wX3 g (r0 8) r1 qS s1 ++ wX5 g qS r2 s2 ++ wX3 g (r0 9) r3 qS x3)) [0, 1, 2, 3, 4, 5, 6, 10, 11, 12, 13, 7, 8, 9] rfl rfl ?_)
    refine z_aload_n (pc := 32) (x := a0) C dX6_addBehind_32 (i := 0) rfl rfl ?_
    replace h := ob_e h
    obtain ⟨x4, hx4, h⟩ := h
    refine z_callV (pc := 33) (As := []) (rest := []) (wr := (wX3 g (r0 8) r1 qS s1 ++ wX5 g qS r2 s2)) C dX6_addBehind_33 ml_RX6_50 wv_X6_add (m_X6_add (a0 := a0) (r0 := r0) (r1 := r3) (qS := qS) hg hx4) [0, 1, 2, 3, 11, 12, 13] [4, 5, 6, 7, 8, 9, 10] rfl rfl ⟨by decide, by decide⟩ (Nat.le_of_ble_eq_true rfl) ⟨by decide, by decide⟩ rfl rfl rfl rfl rfl rfl rfl (by decide) (ex_k C (cs' := 0) (ss' := 0) (wF := (wX6 g a0 r0 x4 ++ wX3 g (r0 8) r1 qS s1 ++ wX5 g qS r2 s2 ++ wX3 g (r0 9) r3 qS x3)) [7, 8, 9, 10, 0, 1, 2, 3, 4, 5, 6, 11, 12, 13] rfl rfl ?_)
    exact z_vret C X dX6_addBehind_36 (by rw [← Option.some.inj h]; exact ⟨rfl, rfl⟩) (by decide) (by decide)
