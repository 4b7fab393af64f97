/-! OWN, written by wip/whole/tools/mkall.py: walks with new objects, families of games -/
def f_X4_readText_154 (N : Nat) (n2 : Nat) (s1 : (Nat → Int32)) (p1 : Int32)  (s0 : Ob) (s2 : Ob) : Option (Ob × Ob) := (if (s0.1 1) = 0 then (if (s0.1 8) = (-1 : Int32) then (some (s0, s2)) else (ob (f_X5_exchangeCards N s2 (s0.1 8)) fun x8 => (some (s0, x8)))) else (some (s0, s2)))
theorem m_X4_readText_154 {K : Kt} {g : Gp} {a0 : Nat} {r0 : Nat → Nat} {q0_0 : Nat} {q0_4 : Nat} {b2 : Nat} {r2 : Nat → Nat} {N : Nat} {n2 : Nat} {s1 : (Nat → Int32)} {p1 : Int32} {res : Ob × Ob} (hg : Ok g) (C : Cx K g cX4_readText RX4 2 (zrc 6 4 80 129)) (X : Rx K (fun rv w' => rv = none ∧ ∃ (b2 : Nat) (r2 : Nat → Nat), w' = (wX4 g a0 r0 b2 q0_4 res.1 ++ wA g q0_4 n2 s1 ++ wX5 g b2 r2 res.2)) 4 80 none) (s0 : Ob) (s2 : Ob) (h : f_X4_readText_154 N n2 s1 p1 s0 s2 = some res) : Zs K 4 80 (wX4 g a0 r0 b2 q0_4 s0 ++ wA g q0_4 n2 s1 ++ wX5 g b2 r2 s2) [(0, .ref a0)] 154 [] := by
  unfold f_X4_readText_154 at h
  refine z_aload_n (pc := 154) (x := a0) C dX4_readText_154 (i := 0) rfl rfl ?_
  refine z_get (pc := 155) (v := .int (s0.1 1)) C 0 dX4_readText_155 fl_RX4_26 rfl rfl ?_
  refine z_if_ne (pc := 158) C dX4_readText_158 (tgt := 180) (by decide) (fun hc => ?_) (fun hc => ?_)
  · replace h := (ite_e h).2 hc
    exact z_vret C X dX4_readText_180 (by rw [← Option.some.inj h]; exact ⟨rfl, b2, r2, rfl⟩) (by decide) (by decide)
  · replace h := (ite_e h).1 hc
    refine z_aload_n (pc := 161) (x := a0) C dX4_readText_161 (i := 0) rfl rfl ?_
    refine z_get (pc := 162) (v := .int (s0.1 8)) C 0 dX4_readText_162 fl_RX4_44 rfl rfl ?_
    refine z_iconst (pc := 165) C dX4_readText_165 ic_m1 ?_
    refine z_icmp_eq (pc := 166) C dX4_readText_166 (tgt := 180) (by decide) (fun hc => ?_) (fun hc => ?_)
    · replace h := (ite_e h).1 hc
      exact z_vret C X dX4_readText_180 (by rw [← Option.some.inj h]; exact ⟨rfl, b2, r2, rfl⟩) (by decide) (by decide)
    · replace h := (ite_e h).2 hc
      refine z_aload_n (pc := 169) (x := a0) C dX4_readText_169 (i := 0) rfl rfl ?_
      refine z_get (pc := 170) (v := .ref b2) C 0 dX4_readText_170 fl_RX4_12 rfl rfl ?_
      refine z_aload_n (pc := 173) (x := a0) C dX4_readText_173 (i := 0) rfl rfl ?_
      refine z_get (pc := 174) (v := .int (s0.1 8)) C 0 dX4_readText_174 fl_RX4_44 rfl rfl ?_
      replace h := ob_e h
      obtain ⟨x8, hx8, h⟩ := h
      refine z_callV (pc := 177) (As := [.int (s0.1 8)]) (rest := []) (wr := (wX4 g a0 r0 b2 q0_4 s0 ++ wA g q0_4 n2 s1)) C dX4_readText_177 ml_RX4_66 wv_X5_exchangeCards (m_X5_exchangeCards (a0 := b2) (r0 := r2) hg hx8) [2, 3, 4, 5] [0, 1] rfl rfl ⟨by decide, by decide⟩ (Nat.le_of_ble_eq_true rfl) ⟨by decide, by decide⟩ rfl rfl rfl rfl rfl rfl rfl (by decide) (ex_k C (cs' := 4) (ss' := 80) (wF := (wX4 g a0 r0 b2 q0_4 s0 ++ wA g q0_4 n2 s1 ++ wX5 g b2 r2 x8)) [0, 1, 2, 3, 4, 5] rfl rfl ?_)
      exact z_vret C X dX4_readText_180 (by rw [← Option.some.inj h]; exact ⟨rfl, b2, r2, rfl⟩) (by decide) (by decide)
def f_X4_readText_113 (N : Nat) (n2 : Nat) (s1 : (Nat → Int32)) (p1 : Int32)  (s0 : Ob) (s2 : Ob) : Option (Ob × Ob) := (if (s0.1 1) = 0 then (if ((s2.1 2) * (s2.1 3)) ≤ (s2.1 7) then (f_X4_readText_154 N n2 s1 p1 s0 s2) else (ob (f_X4_fail N s0 (4 : Int32) (s0.1 5)) fun x9 => (f_X4_readText_154 N n2 s1 p1 x9 s2))) else (f_X4_readText_154 N n2 s1 p1 s0 s2))
theorem m_X4_readText_113 {K : Kt} {g : Gp} {a0 : Nat} {r0 : Nat → Nat} {q0_0 : Nat} {q0_4 : Nat} {b2 : Nat} {r2 : Nat → Nat} {N : Nat} {n2 : Nat} {s1 : (Nat → Int32)} {p1 : Int32} {res : Ob × Ob} (hg : Ok g) (C : Cx K g cX4_readText RX4 2 (zrc 6 4 80 129)) (X : Rx K (fun rv w' => rv = none ∧ ∃ (b2 : Nat) (r2 : Nat → Nat), w' = (wX4 g a0 r0 b2 q0_4 res.1 ++ wA g q0_4 n2 s1 ++ wX5 g b2 r2 res.2)) 4 80 none) (s0 : Ob) (s2 : Ob) (h : f_X4_readText_113 N n2 s1 p1 s0 s2 = some res) : Zs K 4 80 (wX4 g a0 r0 b2 q0_4 s0 ++ wA g q0_4 n2 s1 ++ wX5 g b2 r2 s2) [(0, .ref a0)] 113 [] := by
  unfold f_X4_readText_113 at h
  refine z_aload_n (pc := 113) (x := a0) C dX4_readText_113 (i := 0) rfl rfl ?_
  refine z_get (pc := 114) (v := .int (s0.1 1)) C 0 dX4_readText_114 fl_RX4_26 rfl rfl ?_
  refine z_if_ne (pc := 117) C dX4_readText_117 (tgt := 154) (by decide) (fun hc => ?_) (fun hc => ?_)
  · replace h := (ite_e h).2 hc
    exact m_X4_readText_154 (a0 := a0) (r0 := r0) (q0_0 := q0_0) (q0_4 := q0_4) (b2 := b2) (r2 := r2) hg C X s0 s2 h
  · replace h := (ite_e h).1 hc
    refine z_aload_n (pc := 120) (x := a0) C dX4_readText_120 (i := 0) rfl rfl ?_
    refine z_get (pc := 121) (v := .ref b2) C 0 dX4_readText_121 fl_RX4_12 rfl rfl ?_
    refine z_get (pc := 124) (v := .int (s2.1 7)) C 2 dX4_readText_124 fl_RX4_53 rfl rfl ?_
    refine z_aload_n (pc := 127) (x := a0) C dX4_readText_127 (i := 0) rfl rfl ?_
    refine z_get (pc := 128) (v := .ref b2) C 0 dX4_readText_128 fl_RX4_12 rfl rfl ?_
    refine z_get (pc := 131) (v := .int (s2.1 2)) C 2 dX4_readText_131 fl_RX4_56 rfl rfl ?_
    refine z_aload_n (pc := 134) (x := a0) C dX4_readText_134 (i := 0) rfl rfl ?_
    refine z_get (pc := 135) (v := .ref b2) C 0 dX4_readText_135 fl_RX4_12 rfl rfl ?_
    refine z_get (pc := 138) (v := .int (s2.1 3)) C 2 dX4_readText_138 fl_RX4_59 rfl rfl ?_
    refine z_imul (pc := 141) C dX4_readText_141 ?_
    refine z_icmp_ge (pc := 142) C dX4_readText_142 (tgt := 154) (by decide) (fun hc => ?_) (fun hc => ?_)
    · replace h := (ite_e h).1 hc
      exact m_X4_readText_154 (a0 := a0) (r0 := r0) (q0_0 := q0_0) (q0_4 := q0_4) (b2 := b2) (r2 := r2) hg C X s0 s2 h
    · replace h := (ite_e h).2 hc
      refine z_aload_n (pc := 145) (x := a0) C dX4_readText_145 (i := 0) rfl rfl ?_
      refine z_iconst (pc := 146) C dX4_readText_146 ic_4 ?_
      refine z_aload_n (pc := 147) (x := a0) C dX4_readText_147 (i := 0) rfl rfl ?_
      refine z_get (pc := 148) (v := .int (s0.1 5)) C 0 dX4_readText_148 fl_RX4_38 rfl rfl ?_
      replace h := ob_e h
      obtain ⟨x9, hx9, h⟩ := h
      refine z_callV (pc := 151) (As := [.int (4 : Int32), .int (s0.1 5)]) (rest := []) (wr := (wA g q0_4 n2 s1 ++ wX5 g b2 r2 s2)) C dX4_readText_151 ml_RX4_62 wv_X4_fail (m_X4_fail (a0 := a0) (r0 := r0) (q0_0 := b2) (q0_4 := q0_4) hg hx9) [0] [1, 2, 3, 4, 5] rfl rfl ⟨by decide, by decide⟩ (Nat.le_of_ble_eq_true rfl) ⟨by decide, by decide⟩ rfl rfl rfl rfl rfl rfl rfl (by decide) (ex_k C (cs' := 4) (ss' := 80) (wF := (wX4 g a0 r0 b2 q0_4 x9 ++ wA g q0_4 n2 s1 ++ wX5 g b2 r2 s2)) [5, 0, 1, 2, 3, 4] rfl rfl ?_)
      exact m_X4_readText_154 (a0 := a0) (r0 := r0) (q0_0 := q0_0) (q0_4 := q0_4) (b2 := b2) (r2 := r2) hg C X x9 s2 h
def F_X4_readText_54 (N : Nat) (n2 : Nat) (s1 : (Nat → Int32)) (p1 : Int32)  (k54 : Ob → Ob → Option (Ob × Ob)) (s0 : Ob) (s2 : Ob) : Option (Ob × Ob) := (if (s0.1 5) < (s0.1 7) then (f_X4_readText_113 N n2 s1 p1 s0 s2) else (ob (f_X4_readStatement N n2 s0 s1 s2) fun x10 => (if (x10.1.1 1) = 0 then (if (x10.1.1 6) < (x10.1.1 5) then (znm (si x10.1 6 ((x10.1.1 6) + (1 : Int32))) fun y11 => (k54 (si y11 7 ((x10.1.1 7) + (1 : Int32))) x10.2)) else (f_X4_readText_113 N n2 s1 p1 x10.1 x10.2)) else (f_X4_readText_113 N n2 s1 p1 x10.1 x10.2))))
def f_X4_readText_54 (N : Nat) (n2 : Nat) (s1 : (Nat → Int32)) (p1 : Int32)  : Nat → Ob → Ob → Option (Ob × Ob) := zlp (fun _ _ => none) (F_X4_readText_54 N n2 s1 p1)
theorem m_X4_readText_54 {K : Kt} {g : Gp} {a0 : Nat} {r0 : Nat → Nat} {q0_0 : Nat} {q0_4 : Nat} {b2 : Nat} {r2 : Nat → Nat} {N : Nat} {n2 : Nat} {s1 : (Nat → Int32)} {p1 : Int32} {res : Ob × Ob} (hg : Ok g) (C : Cx K g cX4_readText RX4 2 (zrc 6 4 80 129)) (X : Rx K (fun rv w' => rv = none ∧ ∃ (b2 : Nat) (r2 : Nat → Nat), w' = (wX4 g a0 r0 b2 q0_4 res.1 ++ wA g q0_4 n2 s1 ++ wX5 g b2 r2 res.2)) 4 80 none) : ∀ (n : Nat) (s0 : Ob) (s2 : Ob), f_X4_readText_54 N n2 s1 p1 n s0 s2 = some res → Zs K 4 80 (wX4 g a0 r0 b2 q0_4 s0 ++ wA g q0_4 n2 s1 ++ wX5 g b2 r2 s2) [(0, .ref a0)] 54 [] := by
  intro n
  induction n with
  | zero => intro s0 s2 h; exact nomatch (show (none : Option (Ob × Ob)) = some res from h)
  | succ n hk54 =>
    intro s0 s2 h
    replace h : F_X4_readText_54 N n2 s1 p1 (f_X4_readText_54 N n2 s1 p1 n) s0 s2 = some res := h
    unfold F_X4_readText_54 at h
    refine z_aload_n (pc := 54) (x := a0) C dX4_readText_54 (i := 0) rfl rfl ?_
    refine z_get (pc := 55) (v := .int (s0.1 7)) C 0 dX4_readText_55 fl_RX4_47 rfl rfl ?_
    refine z_aload_n (pc := 58) (x := a0) C dX4_readText_58 (i := 0) rfl rfl ?_
    refine z_get (pc := 59) (v := .int (s0.1 5)) C 0 dX4_readText_59 fl_RX4_38 rfl rfl ?_
    refine z_icmp_gt (pc := 62) C dX4_readText_62 (tgt := 113) (by decide) (fun hc => ?_) (fun hc => ?_)
    · replace h := (ite_e h).1 hc
      exact m_X4_readText_113 (a0 := a0) (r0 := r0) (q0_0 := q0_0) (q0_4 := q0_4) (b2 := b2) (r2 := r2) hg C X s0 s2 h
    · replace h := (ite_e h).2 hc
      refine z_aload_n (pc := 65) (x := a0) C dX4_readText_65 (i := 0) rfl rfl ?_
      replace h := ob_e h
      obtain ⟨x10, hx10, h⟩ := h
      refine z_callV (pc := 66) (As := []) (rest := []) (wr := ([] : va_W)) C dX4_readText_66 ml_RX4_50 wv_X4_readStatement (m_X4_readStatement (a0 := a0) (r0 := r0) (q0_0 := b2) (q0_4 := q0_4) (r2 := r2) hg hx10) [0, 1, 2, 3, 4, 5] [] rfl rfl ⟨by decide, by decide⟩ (Nat.le_of_ble_eq_true rfl) ⟨by decide, by decide⟩ rfl rfl rfl rfl rfl rfl rfl (by decide) (ex_k C (cs' := 4) (ss' := 80) (wF := (wX4 g a0 r0 b2 q0_4 x10.1 ++ wA g q0_4 n2 s1 ++ wX5 g b2 r2 x10.2)) [0, 1, 2, 3, 4, 5] rfl rfl ?_)
      refine z_aload_n (pc := 69) (x := a0) C dX4_readText_69 (i := 0) rfl rfl ?_
      refine z_get (pc := 70) (v := .int (x10.1.1 1)) C 0 dX4_readText_70 fl_RX4_26 rfl rfl ?_
      refine z_if_ne (pc := 73) C dX4_readText_73 (tgt := 113) (by decide) (fun hc => ?_) (fun hc => ?_)
      · replace h := (ite_e h).2 hc
        exact m_X4_readText_113 (a0 := a0) (r0 := r0) (q0_0 := q0_0) (q0_4 := q0_4) (b2 := b2) (r2 := r2) hg C X x10.1 x10.2 h
      · replace h := (ite_e h).1 hc
        refine z_aload_n (pc := 76) (x := a0) C dX4_readText_76 (i := 0) rfl rfl ?_
        refine z_get (pc := 77) (v := .int (x10.1.1 6)) C 0 dX4_readText_77 fl_RX4_41 rfl rfl ?_
        refine z_aload_n (pc := 80) (x := a0) C dX4_readText_80 (i := 0) rfl rfl ?_
        refine z_get (pc := 81) (v := .int (x10.1.1 5)) C 0 dX4_readText_81 fl_RX4_38 rfl rfl ?_
        refine z_icmp_lt (pc := 84) C dX4_readText_84 (tgt := 90) (by decide) (fun hc => ?_) (fun hc => ?_)
        · replace h := (ite_e h).1 hc
          refine z_aload_n (pc := 90) (x := a0) C dX4_readText_90 (i := 0) rfl rfl ?_
          refine z_dup (pc := 91) C dX4_readText_91 rfl ?_
          refine z_get (pc := 92) (v := .int (x10.1.1 6)) C 0 dX4_readText_92 fl_RX4_41 rfl rfl ?_
          refine z_iconst (pc := 95) C dX4_readText_95 ic_1 ?_
          refine z_iadd (pc := 96) C dX4_readText_96 ?_
          refine z_put (pc := 97) C 0 dX4_readText_97 fp_RX4_41 rfl rfl rfl (zlt_b rfl) (ws' := (wX4 g a0 r0 b2 q0_4 (si x10.1 6 ((x10.1.1 6) + (1 : Int32))) ++ wA g q0_4 n2 s1 ++ wX5 g b2 r2 x10.2)) rfl ?_
          refine z_aload_n (pc := 100) (x := a0) C dX4_readText_100 (i := 0) rfl rfl ?_
          refine z_dup (pc := 101) C dX4_readText_101 rfl ?_
          refine z_get (pc := 102) (v := .int (x10.1.1 7)) C 0 dX4_readText_102 fl_RX4_47 rfl rfl ?_
          refine z_iconst (pc := 105) C dX4_readText_105 ic_1 ?_
          refine z_iadd (pc := 106) C dX4_readText_106 ?_
          replace h := znm_e h
          obtain ⟨y11, hy11, h⟩ := h
          refine z_wsE (ws' := (wX4 g a0 r0 b2 q0_4 y11 ++ wA g q0_4 n2 s1 ++ wX5 g b2 r2 x10.2)) (by rw [hy11]) ?_
          refine z_put (pc := 107) C 0 dX4_readText_107 fp_RX4_47 rfl rfl rfl (zlt_b rfl) (ws' := (wX4 g a0 r0 b2 q0_4 (si y11 7 ((x10.1.1 7) + (1 : Int32))) ++ wA g q0_4 n2 s1 ++ wX5 g b2 r2 x10.2)) rfl ?_
          refine z_goto (pc := 110) C dX4_readText_110 (tgt := 54) (by decide) ?_
          exact hk54 (si y11 7 ((x10.1.1 7) + (1 : Int32))) x10.2 h
        · replace h := (ite_e h).2 hc
          refine z_goto (pc := 87) C dX4_readText_87 (tgt := 113) (by decide) ?_
          exact m_X4_readText_113 (a0 := a0) (r0 := r0) (q0_0 := q0_0) (q0_4 := q0_4) (b2 := b2) (r2 := r2) hg C X x10.1 x10.2 h
def f_X4_readText (N : Nat) (n2 : Nat) (s0 : Ob) (s1 : (Nat → Int32)) (p1 : Int32) : Option (Ob × Ob) := (ob (f_J7_fill_53178 N 9 (fun _ => 0) 99) fun x1 => (znm (si s0 1 (0 : Int32)) fun y2 => (znm (si y2 2 (0 : Int32)) fun y3 => (znm (si y3 3 (-1 : Int32)) fun y4 => (znm (si y4 5 (if (Int32.ofNat n2) < p1 then (Int32.ofNat n2) else p1)) fun y5 => (znm (si y5 6 (0 : Int32)) fun y6 => (znm (si y6 8 (-1 : Int32)) fun y7 => (f_X4_readText_54 N n2 s1 p1 N (si y7 7 (0 : Int32)) (iX5 x1)))))))))
theorem m_X4_readText {g : Gp} {a0 : Nat} {r0 : Nat → Nat} {q0_0 : Nat} {q0_4 : Nat} {N : Nat} {n2 : Nat} {s0 : Ob} {s1 : (Nat → Int32)} {p1 : Int32} {res : Ob × Ob} (hg : Ok g) (h : f_X4_readText N n2 s0 s1 p1 = some res) : Ct g yX4_readText cX4_readText 2 none (zrc 6 4 80 129) [.ref a0, .int p1] (wX4 g a0 r0 q0_0 q0_4 s0 ++ wA g q0_4 n2 s1) (fun rv w' => rv = none ∧ ∃ (b2 : Nat) (r2 : Nat → Nat), w' = (wX4 g a0 r0 b2 q0_4 res.1 ++ wA g q0_4 n2 s1 ++ wX5 g b2 r2 res.2)) := by
  refine ct_of rfl hg (by show _ ≤ _; exact Nat.le_of_ble_eq_true rfl) (fun K C X => ?_)
  show Zs K 0 0 (wX4 g a0 r0 q0_0 q0_4 s0 ++ wA g q0_4 n2 s1) [(0, .ref a0), (1, .int p1)] 0 []
  unfold f_X4_readText at h
  refine z_aload_n (pc := 0) (x := a0) C dX4_readText_0 (i := 0) rfl rfl ?_
  replace h := ob_e h
  obtain ⟨x1, hx1, h⟩ := h
  refine z_new (pc := 1) C dX4_readText_1 (ci := 5) rfl inG5 tyX5_ok wn_RX4_9 (fs := [.int 0, .int 0, .int 0, .int 0, .int 0, .int 0, .int 0, .int 0, .null, .null, .null]) (by decide) (by decide) (by decide) (fun b2 => ?_)
  refine z_dup (pc := 4) C dX4_readText_4 rfl ?_
  refine z_callI (pc := 5) (As := []) (rest := [.ref b2, .ref a0]) (wr := (wX4 g a0 r0 q0_0 q0_4 s0 ++ wA g q0_4 n2 s1)) C dX4_readText_5 ml_RX4_11 wi_X5_init (m_X5_init (x := x1) hg hx1) [2] [0, 1] rfl rfl ⟨by decide, by decide⟩ (Nat.le_of_ble_eq_true rfl) ⟨by decide, by decide⟩ rfl rfl rfl rfl (by decide) (fun rv w' hr => ?_)
  obtain ⟨rfl, r2, rfl⟩ := hr
  refine z_to (ws' := (wX4 g a0 r0 q0_0 q0_4 s0 ++ wA g q0_4 n2 s1 ++ wX5 g b2 r2 (iX5 x1))) (lv' := [(0, .ref a0), (1, .int p1)]) (pc' := 8) (st' := [.ref b2, .ref a0]) (z_widen (cs' := 4) (ss' := 80) (by decide) (by decide) ?_) rfl rfl rfl rfl
  refine z_put (pc := 8) C 0 dX4_readText_8 fp_RX4_12 rfl rfl rfl (zlt_b rfl) (ws' := (wX4 g a0 r0 b2 q0_4 s0 ++ wA g q0_4 n2 s1 ++ wX5 g b2 r2 (iX5 x1))) rfl ?_
  refine z_aload_n (pc := 11) (x := a0) C dX4_readText_11 (i := 0) rfl rfl ?_
  refine z_iconst (pc := 12) C dX4_readText_12 ic_0 ?_
  refine z_put (pc := 13) C 0 dX4_readText_13 fp_RX4_26 rfl rfl rfl (zlt_b rfl) (ws' := (wX4 g a0 r0 b2 q0_4 (si s0 1 (0 : Int32)) ++ wA g q0_4 n2 s1 ++ wX5 g b2 r2 (iX5 x1))) rfl ?_
  refine z_aload_n (pc := 16) (x := a0) C dX4_readText_16 (i := 0) rfl rfl ?_
  refine z_iconst (pc := 17) C dX4_readText_17 ic_0 ?_
  replace h := znm_e h
  obtain ⟨y2, hy2, h⟩ := h
  refine z_wsE (ws' := (wX4 g a0 r0 b2 q0_4 y2 ++ wA g q0_4 n2 s1 ++ wX5 g b2 r2 (iX5 x1))) (by rw [hy2]) ?_
  refine z_put (pc := 18) C 0 dX4_readText_18 fp_RX4_29 rfl rfl rfl (zlt_b rfl) (ws' := (wX4 g a0 r0 b2 q0_4 (si y2 2 (0 : Int32)) ++ wA g q0_4 n2 s1 ++ wX5 g b2 r2 (iX5 x1))) rfl ?_
  refine z_aload_n (pc := 21) (x := a0) C dX4_readText_21 (i := 0) rfl rfl ?_
  refine z_iconst (pc := 22) C dX4_readText_22 ic_m1 ?_
  replace h := znm_e h
  obtain ⟨y3, hy3, h⟩ := h
  refine z_wsE (ws' := (wX4 g a0 r0 b2 q0_4 y3 ++ wA g q0_4 n2 s1 ++ wX5 g b2 r2 (iX5 x1))) (by rw [hy3]) ?_
  refine z_put (pc := 23) C 0 dX4_readText_23 fp_RX4_18 rfl rfl rfl (zlt_b rfl) (ws' := (wX4 g a0 r0 b2 q0_4 (si y3 3 (-1 : Int32)) ++ wA g q0_4 n2 s1 ++ wX5 g b2 r2 (iX5 x1))) rfl ?_
  refine z_aload_n (pc := 26) (x := a0) C dX4_readText_26 (i := 0) rfl rfl ?_
  refine z_iload_n (pc := 27) (x := p1) C dX4_readText_27 (i := 1) rfl rfl ?_
  refine z_aload_n (pc := 28) (x := a0) C dX4_readText_28 (i := 0) rfl rfl ?_
  refine z_get (pc := 29) (v := .ref q0_4) C 0 dX4_readText_29 fl_RX4_22 rfl rfl ?_
  refine z_alen_int (pc := 32) (v := (Int32.ofNat n2)) C 1 dX4_readText_32 rfl rfl ?_
  refine z_mmin (pc := 33) C dX4_readText_33 ml_RX4_32 wm_min (by decide) (Nat.le_of_ble_eq_true rfl) (by decide) (by decide) ?_
  replace h := znm_e h
  obtain ⟨y4, hy4, h⟩ := h
  refine z_wsE (ws' := (wX4 g a0 r0 b2 q0_4 y4 ++ wA g q0_4 n2 s1 ++ wX5 g b2 r2 (iX5 x1))) (by rw [hy4]) ?_
  refine z_put (pc := 36) C 0 dX4_readText_36 fp_RX4_38 rfl rfl rfl (zlt_b rfl) (ws' := (wX4 g a0 r0 b2 q0_4 (si y4 5 (if (Int32.ofNat n2) < p1 then (Int32.ofNat n2) else p1)) ++ wA g q0_4 n2 s1 ++ wX5 g b2 r2 (iX5 x1))) rfl ?_
  refine z_aload_n (pc := 39) (x := a0) C dX4_readText_39 (i := 0) rfl rfl ?_
  refine z_iconst (pc := 40) C dX4_readText_40 ic_0 ?_
  replace h := znm_e h
  obtain ⟨y5, hy5, h⟩ := h
  refine z_wsE (ws' := (wX4 g a0 r0 b2 q0_4 y5 ++ wA g q0_4 n2 s1 ++ wX5 g b2 r2 (iX5 x1))) (by rw [hy5]) ?_
  refine z_put (pc := 41) C 0 dX4_readText_41 fp_RX4_41 rfl rfl rfl (zlt_b rfl) (ws' := (wX4 g a0 r0 b2 q0_4 (si y5 6 (0 : Int32)) ++ wA g q0_4 n2 s1 ++ wX5 g b2 r2 (iX5 x1))) rfl ?_
  refine z_aload_n (pc := 44) (x := a0) C dX4_readText_44 (i := 0) rfl rfl ?_
  refine z_iconst (pc := 45) C dX4_readText_45 ic_m1 ?_
  replace h := znm_e h
  obtain ⟨y6, hy6, h⟩ := h
  refine z_wsE (ws' := (wX4 g a0 r0 b2 q0_4 y6 ++ wA g q0_4 n2 s1 ++ wX5 g b2 r2 (iX5 x1))) (by rw [hy6]) ?_
  refine z_put (pc := 46) C 0 dX4_readText_46 fp_RX4_44 rfl rfl rfl (zlt_b rfl) (ws' := (wX4 g a0 r0 b2 q0_4 (si y6 8 (-1 : Int32)) ++ wA g q0_4 n2 s1 ++ wX5 g b2 r2 (iX5 x1))) rfl ?_
  refine z_aload_n (pc := 49) (x := a0) C dX4_readText_49 (i := 0) rfl rfl ?_
  refine z_iconst (pc := 50) C dX4_readText_50 ic_0 ?_
  replace h := znm_e h
  obtain ⟨y7, hy7, h⟩ := h
  refine z_wsE (ws' := (wX4 g a0 r0 b2 q0_4 y7 ++ wA g q0_4 n2 s1 ++ wX5 g b2 r2 (iX5 x1))) (by rw [hy7]) ?_
  refine z_put (pc := 51) C 0 dX4_readText_51 fp_RX4_47 rfl rfl rfl (zlt_b rfl) (ws' := (wX4 g a0 r0 b2 q0_4 (si y7 7 (0 : Int32)) ++ wA g q0_4 n2 s1 ++ wX5 g b2 r2 (iX5 x1))) rfl ?_
  refine z_lv (lv' := [(0, .ref a0)]) [0] rfl ?_
  exact m_X4_readText_54 (a0 := a0) (r0 := r0) (q0_0 := q0_0) (q0_4 := q0_4) (b2 := b2) (r2 := r2) hg C X N (si y7 7 (0 : Int32)) (iX5 x1) h
def f_X7_load (N : Nat) (s0 : Ob) (s1 : Ob) (s2 : Ob) : Option (Int32 × Ob × Ob × Ob × Ob × Bool) := (ob (f_X4_readText N 600 s1 (s0.2.2.1 0) (s0.1 1)) fun x1 => (if (x1.1.1 1) = 0 then (ob (f_X1_begin N s2 x1.2) fun x2 => (znm (si s0 1 (0 : Int32)) fun y3 => (some ((x1.2.1 7), (si y3 5 (0 : Int32)), x1.1, x2, x1.2, true)))) else (some (((-100 : Int32) - (x1.1.1 2)), (si s0 1 (0 : Int32)), x1.1, s2, x1.2, false))))
theorem m_X7_load {g : Gp} {a0 : Nat} {r0 : Nat → Nat} {r1 : Nat → Nat} {q1_0 : Nat} {r2 : Nat → Nat} {q2_0 : Nat} {N : Nat} {s0 : Ob} {s1 : Ob} {s2 : Ob} {res : Int32 × Ob × Ob × Ob × Ob × Bool} (hg : Ok g) (h : f_X7_load N s0 s1 s2 = some res) : Ct g yX7_load cX7_load 1 (some .int) (zrc 7 4 80 150) [.ref a0] (wX7 g a0 r0 s0 ++ wX4 g (r0 2) r1 q1_0 (r0 0) s1 ++ wX1 g (r0 3) r2 q2_0 s2) (fun rv w' => rv = (some (.int res.1)) ∧ ∃ (b3 : Nat) (r3 : Nat → Nat), w' = (wX7 g a0 r0 res.2.1 ++ wX4 g (r0 2) r1 b3 (r0 0) res.2.2.1 ++ wX1 g (r0 3) r2 (bif res.2.2.2.2.2 then b3 else q2_0) res.2.2.2.1 ++ wX5 g b3 r3 res.2.2.2.2.1)) := by
  refine ct_of rfl hg (by show _ ≤ _; exact Nat.le_of_ble_eq_true rfl) (fun K C X => ?_)
  show Zs K 0 0 (wX7 g a0 r0 s0 ++ wX4 g (r0 2) r1 q1_0 (r0 0) s1 ++ wX1 g (r0 3) r2 q2_0 s2) [(0, .ref a0)] 0 []
  unfold f_X7_load at h
  refine z_aload_n (pc := 0) (x := a0) C dX7_load_0 (i := 0) rfl rfl ?_
  refine z_get (pc := 1) (v := .ref (r0 2)) C 0 dX7_load_1 fl_RX7_18 rfl rfl ?_
  refine z_aload_n (pc := 4) (x := a0) C dX7_load_4 (i := 0) rfl rfl ?_
  refine z_get (pc := 5) (v := .int (s0.1 1)) C 0 dX7_load_5 fl_RX7_76 rfl rfl ?_
  replace h := ob_e h
  obtain ⟨x1, hx1, h⟩ := h
  refine z_callV (pc := 8) (As := [.int (s0.1 1)]) (rest := []) (wr := (((wX7 g a0 r0 s0).eraseIdx 1) ++ wX1 g (r0 3) r2 q2_0 s2)) C dX7_load_8 ml_RX7_80 wv_X4_readText (m_X4_readText (a0 := (r0 2)) (r0 := r1) (q0_0 := q1_0) (q0_4 := (r0 0)) hg hx1) [4, 1] [0, 2, 3, 5, 6, 7, 8, 9, 10, 11, 12, 13] rfl rfl ⟨by decide, by decide⟩ (Nat.le_of_ble_eq_true rfl) ⟨by decide, by decide⟩ rfl rfl rfl rfl rfl rfl rfl (by decide) (fun rv w' hr => ?_)
  obtain ⟨rfl, b3, r3, rfl⟩ := hr
  refine z_to (ws' := _) (lv' := [(0, .ref a0)]) (pc' := 11) (st' := []) (z_widen (cs' := 4) (ss' := 80) (by decide) (by decide) ?_) rfl rfl rfl rfl
  refine z_sub (ws' := (wX7 g a0 r0 s0 ++ wX4 g (r0 2) r1 b3 (r0 0) x1.1 ++ wX1 g (r0 3) r2 q2_0 s2 ++ wX5 g b3 r3 x1.2)) C [0, 13, 1, 2, 12, 3, 4, 5, 6, 7, 8, 9, 10, 11, 14, 15, 16, 17] rfl rfl ?_
  refine z_aload_n (pc := 11) (x := a0) C dX7_load_11 (i := 0) rfl rfl ?_
  refine z_iconst (pc := 12) C dX7_load_12 ic_0 ?_
  refine z_put (pc := 13) C 0 dX7_load_13 fp_RX7_76 rfl rfl rfl (zlt_b rfl) (ws' := (wX7 g a0 r0 (si s0 1 (0 : Int32)) ++ wX4 g (r0 2) r1 b3 (r0 0) x1.1 ++ wX1 g (r0 3) r2 q2_0 s2 ++ wX5 g b3 r3 x1.2)) rfl ?_
  refine z_aload_n (pc := 16) (x := a0) C dX7_load_16 (i := 0) rfl rfl ?_
  refine z_get (pc := 17) (v := .ref (r0 2)) C 0 dX7_load_17 fl_RX7_18 rfl rfl ?_
  refine z_get (pc := 20) (v := .int (x1.1.1 1)) C 4 dX7_load_20 fl_RX7_84 rfl rfl ?_
  refine z_if_eq (pc := 23) C dX7_load_23 (tgt := 37) (by decide) (fun hc => ?_) (fun hc => ?_)
  · replace h := (ite_e h).1 hc
    refine z_aload_n (pc := 37) (x := a0) C dX7_load_37 (i := 0) rfl rfl ?_
    refine z_get (pc := 38) (v := .ref (r0 3)) C 0 dX7_load_38 fl_RX7_67 rfl rfl ?_
    refine z_aload_n (pc := 41) (x := a0) C dX7_load_41 (i := 0) rfl rfl ?_
    refine z_get (pc := 42) (v := .ref (r0 2)) C 0 dX7_load_42 fl_RX7_18 rfl rfl ?_
    refine z_get (pc := 45) (v := .ref b3) C 4 dX7_load_45 fl_RX7_90 rfl rfl ?_
    replace h := ob_e h
    obtain ⟨x2, hx2, h⟩ := h
    refine z_callV (pc := 48) (As := [.ref b3]) (rest := []) (wr := (wX7 g a0 r0 (si s0 1 (0 : Int32)) ++ wX4 g (r0 2) r1 b3 (r0 0) x1.1)) C dX7_load_48 ml_RX7_94 wv_X1_begin (m_X1_begin (a0 := (r0 3)) (a1 := b3) (r0 := r2) (q0_0 := q2_0) (r1 := r3) hg hx2) [5, 6, 7, 8, 9, 10, 11, 12, 13, 14, 15, 16, 17] [0, 1, 2, 3, 4] rfl rfl ⟨by decide, by decide⟩ (Nat.le_of_ble_eq_true rfl) ⟨by decide, by decide⟩ rfl rfl rfl rfl rfl rfl rfl (by decide) (ex_k C (cs' := 4) (ss' := 80) (wF := (wX7 g a0 r0 (si s0 1 (0 : Int32)) ++ wX4 g (r0 2) r1 b3 (r0 0) x1.1 ++ wX1 g (r0 3) r2 b3 x2 ++ wX5 g b3 r3 x1.2)) [0, 1, 2, 3, 4, 5, 6, 7, 8, 9, 10, 11, 12, 13, 14, 15, 16, 17] rfl rfl ?_)
    refine z_aload_n (pc := 51) (x := a0) C dX7_load_51 (i := 0) rfl rfl ?_
    refine z_iconst (pc := 52) C dX7_load_52 ic_0 ?_
    replace h := znm_e h
    obtain ⟨y3, hy3, h⟩ := h
    refine z_wsE (ws' := (wX7 g a0 r0 y3 ++ wX4 g (r0 2) r1 b3 (r0 0) x1.1 ++ wX1 g (r0 3) r2 b3 x2 ++ wX5 g b3 r3 x1.2)) (by rw [hy3]) ?_
    refine z_put (pc := 53) C 0 dX7_load_53 fp_RX7_97 rfl rfl rfl (zlt_b rfl) (ws' := (wX7 g a0 r0 (si y3 5 (0 : Int32)) ++ wX4 g (r0 2) r1 b3 (r0 0) x1.1 ++ wX1 g (r0 3) r2 b3 x2 ++ wX5 g b3 r3 x1.2)) rfl ?_
    refine z_aload_n (pc := 56) (x := a0) C dX7_load_56 (i := 0) rfl rfl ?_
    refine z_get (pc := 57) (v := .ref (r0 3)) C 0 dX7_load_57 fl_RX7_67 rfl rfl ?_
    refine z_get (pc := 60) (v := .ref b3) C 5 dX7_load_60 fl_RX7_100 rfl rfl ?_
    refine z_get (pc := 63) (v := .int (x1.2.1 7)) C 14 dX7_load_63 fl_RX7_101 rfl rfl ?_
    exact z_iret C X dX7_load_66 (by rw [← Option.some.inj h]; exact ⟨rfl, b3, r3, rfl⟩) (by decide) (by decide)
  · replace h := (ite_e h).2 hc
    refine z_bipush (pc := 26) C dX7_load_26 bp_m100 ?_
    refine z_aload_n (pc := 28) (x := a0) C dX7_load_28 (i := 0) rfl rfl ?_
    refine z_get (pc := 29) (v := .ref (r0 2)) C 0 dX7_load_29 fl_RX7_18 rfl rfl ?_
    refine z_get (pc := 32) (v := .int (x1.1.1 2)) C 4 dX7_load_32 fl_RX7_87 rfl rfl ?_
    refine z_isub (pc := 35) C dX7_load_35 ?_
    exact z_iret C X dX7_load_36 (by rw [← Option.some.inj h]; exact ⟨rfl, b3, r3, rfl⟩) (by decide) (by decide)
def f_X7_remember_38 (N : Nat) (q1_0 : Nat) (s1 : Ob)  (t1 : Int32) (s0 : Ob) (s2 : (Nat → Nat × Ob)) : Option (Ob × (Nat → Nat × Ob)) := (znm (if (20 : Int32) < ((s0.1 5) + (1 : Int32)) then (20 : Int32) else ((s0.1 5) + (1 : Int32))) fun x3 => (znm (si s0 6 t1) fun y4 => (some ((si y4 5 x3), s2))))
theorem m_X7_remember_38 {K : Kt} {g : Gp} {a0 : Nat} {r0 : Nat → Nat} {r1 : Nat → Nat} {f2 : Nat → Option Nat} {pa2 : Nat → Nat} {pr2 : Nat → Nat → Nat} {N : Nat} {q1_0 : Nat} {s1 : Ob} {res : Ob × (Nat → Nat × Ob)} (hg : Ok g) (hf2 : ∀ k, k < 20 → f2 k = some (pa2 k)) (C : Cx K g cX7_remember RX7 1 (zrm 2 39)) (X : Rx K (exR none (wX7 g a0 r0 res.1 ++ wX1 g (r0 3) r1 q1_0 s1 ++ wPs g (r0 4) 20 f2 pa2 pr2 res.2)) 0 0 none) (t1 : Int32) (s0 : Ob) (s2 : (Nat → Nat × Ob)) (h : f_X7_remember_38 N q1_0 s1 t1 s0 s2 = some res) : Zs K 0 0 (wX7 g a0 r0 s0 ++ wX1 g (r0 3) r1 q1_0 s1 ++ wPs g (r0 4) 20 f2 pa2 pr2 s2) [(0, .ref a0)] 38 [.int t1, .ref a0] := by
  unfold f_X7_remember_38 at h
  refine z_put (pc := 38) C 0 dX7_remember_38 fp_RX7_348 rfl rfl rfl (zlt_b rfl) (ws' := (wX7 g a0 r0 (si s0 6 t1) ++ wX1 g (r0 3) r1 q1_0 s1 ++ wPs g (r0 4) 20 f2 pa2 pr2 s2)) rfl ?_
  refine z_aload_n (pc := 41) (x := a0) C dX7_remember_41 (i := 0) rfl rfl ?_
  refine z_aload_n (pc := 42) (x := a0) C dX7_remember_42 (i := 0) rfl rfl ?_
  refine z_get (pc := 43) (v := .int (s0.1 5)) C 0 dX7_remember_43 fl_RX7_97 rfl rfl ?_
  refine z_iconst (pc := 46) C dX7_remember_46 ic_1 ?_
  refine z_iadd (pc := 47) C dX7_remember_47 ?_
  refine z_bipush (pc := 48) C dX7_remember_48 bp_20 ?_
  refine z_mmin (pc := 50) C dX7_remember_50 ml_RX7_377 wm_min (by decide) (Nat.le_of_ble_eq_true rfl) (by decide) (by decide) ?_
  replace h := znm_e h
  obtain ⟨x3, hx3, h⟩ := h
  refine z_top1 hx3 ?_
  replace h := znm_e h
  obtain ⟨y4, hy4, h⟩ := h
  refine z_wsE (ws' := (wX7 g a0 r0 y4 ++ wX1 g (r0 3) r1 q1_0 s1 ++ wPs g (r0 4) 20 f2 pa2 pr2 s2)) (by rw [hy4]) ?_
  refine z_put (pc := 53) C 0 dX7_remember_53 fp_RX7_97 rfl rfl rfl (zlt_b rfl) (ws' := (wX7 g a0 r0 (si y4 5 x3) ++ wX1 g (r0 3) r1 q1_0 s1 ++ wPs g (r0 4) 20 f2 pa2 pr2 s2)) rfl ?_
  exact z_vret C X dX7_remember_56 (by rw [← Option.some.inj h]; exact ⟨rfl, rfl⟩) (by decide) (by decide)
def f_X7_remember (N : Nat) (q1_0 : Nat) (s0 : Ob) (s1 : Ob) (s2 : (Nat → Nat × Ob)) : Option (Ob × (Nat → Nat × Ob)) := (chk (inb (s0.1 6) 20) (ob (f_X1_copyFrom N (s2 ((s0.1 6)).toNatClampNeg).2 s1) fun x2 => (if (20 : Int32) ≤ ((s0.1 6) + (1 : Int32)) then (f_X7_remember_38 N q1_0 s1 (0 : Int32) s0 (va_up s2 ((s0.1 6)).toNatClampNeg (q1_0, x2))) else (f_X7_remember_38 N q1_0 s1 ((s0.1 6) + (1 : Int32)) s0 (va_up s2 ((s0.1 6)).toNatClampNeg (q1_0, x2))))))
theorem m_X7_remember {g : Gp} {a0 : Nat} {r0 : Nat → Nat} {r1 : Nat → Nat} {f2 : Nat → Option Nat} {pa2 : Nat → Nat} {pr2 : Nat → Nat → Nat} {N : Nat} {q1_0 : Nat} {s0 : Ob} {s1 : Ob} {s2 : (Nat → Nat × Ob)} {res : Ob × (Nat → Nat × Ob)} (hg : Ok g) (hf2 : ∀ k, k < 20 → f2 k = some (pa2 k)) (h : f_X7_remember N q1_0 s0 s1 s2 = some res) : Ct g yX7_remember cX7_remember 1 none (zrm 2 39) [.ref a0] (wX7 g a0 r0 s0 ++ wX1 g (r0 3) r1 q1_0 s1 ++ wPs g (r0 4) 20 f2 pa2 pr2 s2) (exR none (wX7 g a0 r0 res.1 ++ wX1 g (r0 3) r1 q1_0 s1 ++ wPs g (r0 4) 20 f2 pa2 pr2 res.2)) := by
  refine ct_of rfl hg (by show _ ≤ _; exact Nat.le_of_ble_eq_true rfl) (fun K C X => ?_)
  show Zs K 0 0 (wX7 g a0 r0 s0 ++ wX1 g (r0 3) r1 q1_0 s1 ++ wPs g (r0 4) 20 f2 pa2 pr2 s2) [(0, .ref a0)] 0 []
  unfold f_X7_remember at h
  refine z_aload_n (pc := 0) (x := a0) C dX7_remember_0 (i := 0) rfl rfl ?_
  refine z_get (pc := 1) (v := .ref (r0 4)) C 0 dX7_remember_1 fl_RX7_24 rfl rfl ?_
  refine z_aload_n (pc := 4) (x := a0) C dX7_remember_4 (i := 0) rfl rfl ?_
  refine z_get (pc := 5) (v := .int (s0.1 6)) C 0 dX7_remember_5 fl_RX7_348 rfl rfl ?_
  replace h := chk_e h
  obtain ⟨hb1, h⟩ := h
  refine z_aald (pc := 8) C 13 dX7_remember_8 rfl hb1 (hf2 _ (of_decide_eq_true hb1).2) ?_
  refine z_pout (of_decide_eq_true hb1).2 ?_
  refine z_aload_n (pc := 9) (x := a0) C dX7_remember_9 (i := 0) rfl rfl ?_
  refine z_get (pc := 10) (v := .ref (r0 3)) C 0 dX7_remember_10 fl_RX7_67 rfl rfl ?_
  replace h := ob_e h
  obtain ⟨x2, hx2, h⟩ := h
  refine z_callVT1 (pc := 13) (As := [.ref (r0 3)]) (rest := []) (wr := (wX7 g a0 r0 s0)) C dX7_remember_13 ml_RX7_301 wv_X1_copyFrom (m_X1_copyFrom (a0 := (pa2 ((s0.1 6)).toNatClampNeg)) (a1 := (r0 3)) (r0 := (pr2 ((s0.1 6)).toNatClampNeg)) (q0_0 := (s2 ((s0.1 6)).toNatClampNeg).1) (r1 := r1) (q1_0 := q1_0) hg hx2) [13, 14, 15, 16, 17, 18, 19, 20, 21, 4, 5, 6, 7, 8, 9, 10, 11, 12] [0, 1, 2, 3] rfl rfl ⟨by decide, by decide⟩ (Nat.le_of_ble_eq_true rfl) ⟨by decide, by decide⟩ rfl rfl rfl rfl rfl rfl rfl (by decide) (ex_kT1 C (cs' := 0) (ss' := 0) (A' := (wX7 g a0 r0 s0 ++ wX1 g (r0 3) r1 q1_0 s1 ++ wX1 g (pa2 ((s0.1 6)).toNatClampNeg) (pr2 ((s0.1 6)).toNatClampNeg) q1_0 x2)) [0, 1, 2, 3, 13, 14, 15, 16, 17, 18, 19, 20, 21, 4, 5, 6, 7, 8, 9, 10, 11, 12] rfl rfl ?_)
  refine z_pin (q := q1_0) (S := x2) (of_decide_eq_true hb1).2 ?_
  refine z_aload_n (pc := 16) (x := a0) C dX7_remember_16 (i := 0) rfl rfl ?_
  refine z_aload_n (pc := 17) (x := a0) C dX7_remember_17 (i := 0) rfl rfl ?_
  refine z_get (pc := 18) (v := .int (s0.1 6)) C 0 dX7_remember_18 fl_RX7_348 rfl rfl ?_
  refine z_iconst (pc := 21) C dX7_remember_21 ic_1 ?_
  refine z_iadd (pc := 22) C dX7_remember_22 ?_
  refine z_bipush (pc := 23) C dX7_remember_23 bp_20 ?_
  refine z_icmp_ge (pc := 25) C dX7_remember_25 (tgt := 37) (by decide) (fun hc => ?_) (fun hc => ?_)
  · replace h := (ite_e h).1 hc
    refine z_iconst (pc := 37) C dX7_remember_37 ic_0 ?_
    exact m_X7_remember_38 (a0 := a0) (r0 := r0) (r1 := r1) (q1_0 := q1_0) (f2 := f2) (pa2 := pa2) (pr2 := pr2) hg hf2 C X (0 : Int32) s0 (va_up s2 ((s0.1 6)).toNatClampNeg (q1_0, x2)) h
  · replace h := (ite_e h).2 hc
    refine z_aload_n (pc := 28) (x := a0) C dX7_remember_28 (i := 0) rfl rfl ?_
    refine z_get (pc := 29) (v := .int (s0.1 6)) C 0 dX7_remember_29 fl_RX7_348 rfl rfl ?_
    refine z_iconst (pc := 32) C dX7_remember_32 ic_1 ?_
    refine z_iadd (pc := 33) C dX7_remember_33 ?_
    refine z_goto (pc := 34) C dX7_remember_34 (tgt := 38) (by decide) ?_
    exact m_X7_remember_38 (a0 := a0) (r0 := r0) (r1 := r1) (q1_0 := q1_0) (f2 := f2) (pa2 := pa2) (pr2 := pr2) hg hf2 C X ((s0.1 6) + (1 : Int32)) s0 (va_up s2 ((s0.1 6)).toNatClampNeg (q1_0, x2)) h
def f_X7_play (N : Nat) (q1_0 : Nat) (s0 : Ob) (s1 : Ob) (s2 : Ob) (s3 : (Nat → Nat × Ob)) (p1 : Int32) : Option (Int32 × Ob × Ob × (Nat → Nat × Ob)) := (ob (f_X1_isEnded N s1 s2) fun x1 => (if x1 = 0 then (ob (f_X7_needCard N s0 s1 s2 (s1.1 4) p1) fun x2 => (ob (f_X7_remember N q1_0 s0 s1 s3) fun x3 => (ob (f_X1_playCard N s1 s2 p1) fun x4 => (ob (f_X1_score N x4) fun x5 => (some (x5, x3.1, x4, x3.2)))))) else (some ((-3 : Int32), s0, s1, s3))))
theorem m_X7_play {g : Gp} {a0 : Nat} {r0 : Nat → Nat} {r1 : Nat → Nat} {r2 : Nat → Nat} {f3 : Nat → Option Nat} {pa3 : Nat → Nat} {pr3 : Nat → Nat → Nat} {N : Nat} {q1_0 : Nat} {s0 : Ob} {s1 : Ob} {s2 : Ob} {s3 : (Nat → Nat × Ob)} {p1 : Int32} {res : Int32 × Ob × Ob × (Nat → Nat × Ob)} (hg : Ok g) (hf3 : ∀ k, k < 20 → f3 k = some (pa3 k)) (h : f_X7_play N q1_0 s0 s1 s2 s3 p1 = some res) : Ct g yX7_play cX7_play 2 (some .int) (zrm 5 111) [.ref a0, .int p1] (wX7 g a0 r0 s0 ++ wX1 g (r0 3) r1 q1_0 s1 ++ wX5 g q1_0 r2 s2 ++ wPs g (r0 4) 20 f3 pa3 pr3 s3) (exR (some (.int res.1)) (wX7 g a0 r0 res.2.1 ++ wX1 g (r0 3) r1 q1_0 res.2.2.1 ++ wX5 g q1_0 r2 s2 ++ wPs g (r0 4) 20 f3 pa3 pr3 res.2.2.2)) := by
  refine ct_of rfl hg (by show _ ≤ _; exact Nat.le_of_ble_eq_true rfl) (fun K C X => ?_)
  show Zs K 0 0 (wX7 g a0 r0 s0 ++ wX1 g (r0 3) r1 q1_0 s1 ++ wX5 g q1_0 r2 s2 ++ wPs g (r0 4) 20 f3 pa3 pr3 s3) [(0, .ref a0), (1, .int p1)] 0 []
  unfold f_X7_play at h
  refine z_aload_n (pc := 0) (x := a0) C dX7_play_0 (i := 0) rfl rfl ?_
  refine z_get (pc := 1) (v := .ref (r0 3)) C 0 dX7_play_1 fl_RX7_67 rfl rfl ?_
  replace h := ob_e h
  obtain ⟨x1, hx1, h⟩ := h
  refine z_callVT1 (pc := 4) (As := []) (rest := []) (wr := (wX7 g a0 r0 s0)) C dX7_play_4 ml_RX7_145 wv_X1_isEnded (m_X1_isEnded (a0 := (r0 3)) (r0 := r1) (q0_0 := q1_0) (r1 := r2) hg hx1) [4, 5, 6, 7, 8, 9, 10, 11, 12, 13, 14, 15, 16] [0, 1, 2, 3] rfl rfl ⟨by decide, by decide⟩ (Nat.le_of_ble_eq_true rfl) ⟨by decide, by decide⟩ rfl rfl rfl rfl rfl rfl rfl (by decide) (ex_kT1 C (cs' := 0) (ss' := 0) (A' := (wX7 g a0 r0 s0 ++ wX1 g (r0 3) r1 q1_0 s1 ++ wX5 g q1_0 r2 s2)) [0, 1, 2, 3, 4, 5, 6, 7, 8, 9, 10, 11, 12, 13, 14, 15, 16] rfl rfl ?_)
  refine z_if_eq (pc := 7) C dX7_play_7 (tgt := 13) (by decide) (fun hc => ?_) (fun hc => ?_)
  · replace h := (ite_e h).1 hc
    refine z_aload_n (pc := 13) (x := a0) C dX7_play_13 (i := 0) rfl rfl ?_
    refine z_aload_n (pc := 14) (x := a0) C dX7_play_14 (i := 0) rfl rfl ?_
    refine z_get (pc := 15) (v := .ref (r0 3)) C 0 dX7_play_15 fl_RX7_67 rfl rfl ?_
    refine z_get (pc := 18) (v := .int (s1.1 4)) C 4 dX7_play_18 fl_RX7_149 rfl rfl ?_
    refine z_iload_n (pc := 21) (x := p1) C dX7_play_21 (i := 1) rfl rfl ?_
    replace h := ob_e h
    obtain ⟨x2, hx2, h⟩ := h
    refine z_callVT1 (pc := 22) (As := [.int (s1.1 4), .int p1]) (rest := []) (wr := ([] : va_W)) C dX7_play_22 ml_RX7_170 wv_X7_needCard (m_X7_needCard (a0 := a0) (r0 := r0) (r1 := r1) (q1_0 := q1_0) (r2 := r2) hg hx2) [0, 1, 2, 3, 4, 5, 6, 7, 8, 9, 10, 11, 12, 13, 14, 15, 16] [] rfl rfl ⟨by decide, by decide⟩ (Nat.le_of_ble_eq_true rfl) ⟨by decide, by decide⟩ rfl rfl rfl rfl rfl rfl rfl (by decide) (ex_kT1 C (cs' := 0) (ss' := 0) (A' := (wX7 g a0 r0 s0 ++ wX1 g (r0 3) r1 q1_0 s1 ++ wX5 g q1_0 r2 s2)) [0, 1, 2, 3, 4, 5, 6, 7, 8, 9, 10, 11, 12, 13, 14, 15, 16] rfl rfl ?_)
    refine z_pop (pc := 25) C dX7_play_25 rfl ?_
    refine z_aload_n (pc := 26) (x := a0) C dX7_play_26 (i := 0) rfl rfl ?_
    replace h := ob_e h
    obtain ⟨x3, hx3, h⟩ := h
    refine z_callVT2 (pc := 27) (As := []) (rest := []) (wr := (wX5 g q1_0 r2 s2)) C dX7_play_27 ml_RX7_256 wv_X7_remember (m_X7_remember (a0 := a0) (r0 := r0) (r1 := r1) (f2 := f3) (pa2 := pa3) (pr2 := pr3) (q1_0 := q1_0) hg hf3 hx3) [0, 1, 2, 3, 4, 5, 6, 7, 8, 9, 10, 11, 12] [13, 14, 15, 16] rfl rfl ⟨by decide, by decide⟩ (Nat.le_of_ble_eq_true rfl) ⟨by decide, by decide⟩ rfl rfl rfl rfl rfl rfl rfl (by decide) (ex_kT2 C (cs' := 0) (ss' := 0) (A' := (wX7 g a0 r0 x3.1 ++ wX1 g (r0 3) r1 q1_0 s1 ++ wX5 g q1_0 r2 s2)) [4, 5, 6, 7, 8, 9, 10, 11, 12, 13, 14, 15, 16, 0, 1, 2, 3] rfl rfl ?_)
    refine z_aload_n (pc := 30) (x := a0) C dX7_play_30 (i := 0) rfl rfl ?_
    refine z_get (pc := 31) (v := .ref (r0 3)) C 0 dX7_play_31 fl_RX7_67 rfl rfl ?_
    refine z_iload_n (pc := 34) (x := p1) C dX7_play_34 (i := 1) rfl rfl ?_
    replace h := ob_e h
    obtain ⟨x4, hx4, h⟩ := h
    refine z_callVT1 (pc := 35) (As := [.int p1]) (rest := []) (wr := (wX7 g a0 r0 x3.1)) C dX7_play_35 ml_RX7_259 wv_X1_playCard (m_X1_playCard (a0 := (r0 3)) (r0 := r1) (q0_0 := q1_0) (r1 := r2) hg hx4) [4, 5, 6, 7, 8, 9, 10, 11, 12, 13, 14, 15, 16] [0, 1, 2, 3] rfl rfl ⟨by decide, by decide⟩ (Nat.le_of_ble_eq_true rfl) ⟨by decide, by decide⟩ rfl rfl rfl rfl rfl rfl rfl (by decide) (ex_kT1 C (cs' := 0) (ss' := 0) (A' := (wX7 g a0 r0 x3.1 ++ wX1 g (r0 3) r1 q1_0 x4 ++ wX5 g q1_0 r2 s2)) [0, 1, 2, 3, 4, 5, 6, 7, 8, 9, 10, 11, 12, 13, 14, 15, 16] rfl rfl ?_)
    refine z_aload_n (pc := 38) (x := a0) C dX7_play_38 (i := 0) rfl rfl ?_
    refine z_get (pc := 39) (v := .ref (r0 3)) C 0 dX7_play_39 fl_RX7_67 rfl rfl ?_
    replace h := ob_e h
    obtain ⟨x5, hx5, h⟩ := h
    refine z_callVT1 (pc := 42) (As := []) (rest := []) (wr := (wX7 g a0 r0 x3.1 ++ wX5 g q1_0 r2 s2)) C dX7_play_42 ml_RX7_128 wv_X1_score (m_X1_score (a0 := (r0 3)) (r0 := r1) (q0_0 := q1_0) hg hx5) [4, 5, 6, 7, 8, 9, 10, 11, 12] [0, 1, 2, 3, 13, 14, 15, 16] rfl rfl ⟨by decide, by decide⟩ (Nat.le_of_ble_eq_true rfl) ⟨by decide, by decide⟩ rfl rfl rfl rfl rfl rfl rfl (by decide) (ex_kT1 C (cs' := 0) (ss' := 0) (A' := (wX7 g a0 r0 x3.1 ++ wX1 g (r0 3) r1 q1_0 x4 ++ wX5 g q1_0 r2 s2)) [0, 1, 2, 3, 8, 9, 10, 11, 12, 13, 14, 15, 16, 4, 5, 6, 7] rfl rfl ?_)
    exact z_iret C X dX7_play_45 (by rw [← Option.some.inj h]; exact ⟨rfl, rfl⟩) (by decide) (by decide)
  · replace h := (ite_e h).2 hc
    refine z_bipush (pc := 10) C dX7_play_10 bp_m3 ?_
    exact z_iret C X dX7_play_12 (by rw [← Option.some.inj h]; exact ⟨rfl, rfl⟩) (by decide) (by decide)
def f_X7_discard (N : Nat) (q1_0 : Nat) (s0 : Ob) (s1 : Ob) (s2 : Ob) (s3 : (Nat → Nat × Ob)) (p1 : Int32) : Option (Int32 × Ob × Ob × (Nat → Nat × Ob)) := (ob (f_X1_isEnded N s1 s2) fun x1 => (if x1 = 0 then (ob (f_X7_needCard N s0 s1 s2 (s1.1 4) p1) fun x2 => (ob (f_X7_remember N q1_0 s0 s1 s3) fun x3 => (ob (f_X1_discardCard N s1 s2 p1) fun x4 => (some ((x4.1 2), x3.1, x4, x3.2))))) else (some ((-3 : Int32), s0, s1, s3))))
theorem m_X7_discard {g : Gp} {a0 : Nat} {r0 : Nat → Nat} {r1 : Nat → Nat} {r2 : Nat → Nat} {f3 : Nat → Option Nat} {pa3 : Nat → Nat} {pr3 : Nat → Nat → Nat} {N : Nat} {q1_0 : Nat} {s0 : Ob} {s1 : Ob} {s2 : Ob} {s3 : (Nat → Nat × Ob)} {p1 : Int32} {res : Int32 × Ob × Ob × (Nat → Nat × Ob)} (hg : Ok g) (hf3 : ∀ k, k < 20 → f3 k = some (pa3 k)) (h : f_X7_discard N q1_0 s0 s1 s2 s3 p1 = some res) : Ct g yX7_discard cX7_discard 2 (some .int) (zrm 5 111) [.ref a0, .int p1] (wX7 g a0 r0 s0 ++ wX1 g (r0 3) r1 q1_0 s1 ++ wX5 g q1_0 r2 s2 ++ wPs g (r0 4) 20 f3 pa3 pr3 s3) (exR (some (.int res.1)) (wX7 g a0 r0 res.2.1 ++ wX1 g (r0 3) r1 q1_0 res.2.2.1 ++ wX5 g q1_0 r2 s2 ++ wPs g (r0 4) 20 f3 pa3 pr3 res.2.2.2)) := by
  refine ct_of rfl hg (by show _ ≤ _; exact Nat.le_of_ble_eq_true rfl) (fun K C X => ?_)
  show Zs K 0 0 (wX7 g a0 r0 s0 ++ wX1 g (r0 3) r1 q1_0 s1 ++ wX5 g q1_0 r2 s2 ++ wPs g (r0 4) 20 f3 pa3 pr3 s3) [(0, .ref a0), (1, .int p1)] 0 []
  unfold f_X7_discard at h
  refine z_aload_n (pc := 0) (x := a0) C dX7_discard_0 (i := 0) rfl rfl ?_
  refine z_get (pc := 1) (v := .ref (r0 3)) C 0 dX7_discard_1 fl_RX7_67 rfl rfl ?_
  replace h := ob_e h
  obtain ⟨x1, hx1, h⟩ := h
  refine z_callVT1 (pc := 4) (As := []) (rest := []) (wr := (wX7 g a0 r0 s0)) C dX7_discard_4 ml_RX7_145 wv_X1_isEnded (m_X1_isEnded (a0 := (r0 3)) (r0 := r1) (q0_0 := q1_0) (r1 := r2) hg hx1) [4, 5, 6, 7, 8, 9, 10, 11, 12, 13, 14, 15, 16] [0, 1, 2, 3] rfl rfl ⟨by decide, by decide⟩ (Nat.le_of_ble_eq_true rfl) ⟨by decide, by decide⟩ rfl rfl rfl rfl rfl rfl rfl (by decide) (ex_kT1 C (cs' := 0) (ss' := 0) (A' := (wX7 g a0 r0 s0 ++ wX1 g (r0 3) r1 q1_0 s1 ++ wX5 g q1_0 r2 s2)) [0, 1, 2, 3, 4, 5, 6, 7, 8, 9, 10, 11, 12, 13, 14, 15, 16] rfl rfl ?_)
  refine z_if_eq (pc := 7) C dX7_discard_7 (tgt := 13) (by decide) (fun hc => ?_) (fun hc => ?_)
  · replace h := (ite_e h).1 hc
    refine z_aload_n (pc := 13) (x := a0) C dX7_discard_13 (i := 0) rfl rfl ?_
    refine z_aload_n (pc := 14) (x := a0) C dX7_discard_14 (i := 0) rfl rfl ?_
    refine z_get (pc := 15) (v := .ref (r0 3)) C 0 dX7_discard_15 fl_RX7_67 rfl rfl ?_
    refine z_get (pc := 18) (v := .int (s1.1 4)) C 4 dX7_discard_18 fl_RX7_149 rfl rfl ?_
    refine z_iload_n (pc := 21) (x := p1) C dX7_discard_21 (i := 1) rfl rfl ?_
    replace h := ob_e h
    obtain ⟨x2, hx2, h⟩ := h
    refine z_callVT1 (pc := 22) (As := [.int (s1.1 4), .int p1]) (rest := []) (wr := ([] : va_W)) C dX7_discard_22 ml_RX7_170 wv_X7_needCard (m_X7_needCard (a0 := a0) (r0 := r0) (r1 := r1) (q1_0 := q1_0) (r2 := r2) hg hx2) [0, 1, 2, 3, 4, 5, 6, 7, 8, 9, 10, 11, 12, 13, 14, 15, 16] [] rfl rfl ⟨by decide, by decide⟩ (Nat.le_of_ble_eq_true rfl) ⟨by decide, by decide⟩ rfl rfl rfl rfl rfl rfl rfl (by decide) (ex_kT1 C (cs' := 0) (ss' := 0) (A' := (wX7 g a0 r0 s0 ++ wX1 g (r0 3) r1 q1_0 s1 ++ wX5 g q1_0 r2 s2)) [0, 1, 2, 3, 4, 5, 6, 7, 8, 9, 10, 11, 12, 13, 14, 15, 16] rfl rfl ?_)
    refine z_pop (pc := 25) C dX7_discard_25 rfl ?_
    refine z_aload_n (pc := 26) (x := a0) C dX7_discard_26 (i := 0) rfl rfl ?_
    replace h := ob_e h
    obtain ⟨x3, hx3, h⟩ := h
    refine z_callVT2 (pc := 27) (As := []) (rest := []) (wr := (wX5 g q1_0 r2 s2)) C dX7_discard_27 ml_RX7_256 wv_X7_remember (m_X7_remember (a0 := a0) (r0 := r0) (r1 := r1) (f2 := f3) (pa2 := pa3) (pr2 := pr3) (q1_0 := q1_0) hg hf3 hx3) [0, 1, 2, 3, 4, 5, 6, 7, 8, 9, 10, 11, 12] [13, 14, 15, 16] rfl rfl ⟨by decide, by decide⟩ (Nat.le_of_ble_eq_true rfl) ⟨by decide, by decide⟩ rfl rfl rfl rfl rfl rfl rfl (by decide) (ex_kT2 C (cs' := 0) (ss' := 0) (A' := (wX7 g a0 r0 x3.1 ++ wX1 g (r0 3) r1 q1_0 s1 ++ wX5 g q1_0 r2 s2)) [4, 5, 6, 7, 8, 9, 10, 11, 12, 13, 14, 15, 16, 0, 1, 2, 3] rfl rfl ?_)
    refine z_aload_n (pc := 30) (x := a0) C dX7_discard_30 (i := 0) rfl rfl ?_
    refine z_get (pc := 31) (v := .ref (r0 3)) C 0 dX7_discard_31 fl_RX7_67 rfl rfl ?_
    refine z_iload_n (pc := 34) (x := p1) C dX7_discard_34 (i := 1) rfl rfl ?_
    replace h := ob_e h
    obtain ⟨x4, hx4, h⟩ := h
    refine z_callVT1 (pc := 35) (As := [.int p1]) (rest := []) (wr := (wX7 g a0 r0 x3.1)) C dX7_discard_35 ml_RX7_262 wv_X1_discardCard (m_X1_discardCard (a0 := (r0 3)) (r0 := r1) (q0_0 := q1_0) (r1 := r2) hg hx4) [4, 5, 6, 7, 8, 9, 10, 11, 12, 13, 14, 15, 16] [0, 1, 2, 3] rfl rfl ⟨by decide, by decide⟩ (Nat.le_of_ble_eq_true rfl) ⟨by decide, by decide⟩ rfl rfl rfl rfl rfl rfl rfl (by decide) (ex_kT1 C (cs' := 0) (ss' := 0) (A' := (wX7 g a0 r0 x3.1 ++ wX1 g (r0 3) r1 q1_0 x4 ++ wX5 g q1_0 r2 s2)) [0, 1, 2, 3, 4, 5, 6, 7, 8, 9, 10, 11, 12, 13, 14, 15, 16] rfl rfl ?_)
    refine z_aload_n (pc := 38) (x := a0) C dX7_discard_38 (i := 0) rfl rfl ?_
    refine z_get (pc := 39) (v := .ref (r0 3)) C 0 dX7_discard_39 fl_RX7_67 rfl rfl ?_
    refine z_get (pc := 42) (v := .int (x4.1 2)) C 4 dX7_discard_42 fl_RX7_122 rfl rfl ?_
    exact z_iret C X dX7_discard_45 (by rw [← Option.some.inj h]; exact ⟨rfl, rfl⟩) (by decide) (by decide)
  · replace h := (ite_e h).2 hc
    refine z_bipush (pc := 10) C dX7_discard_10 bp_m3 ?_
    exact z_iret C X dX7_discard_12 (by rw [← Option.some.inj h]; exact ⟨rfl, rfl⟩) (by decide) (by decide)
def f_X7_hint_41 (N : Nat) (q1_0 : Nat) (s2 : Ob) (p1 : Int32) (p2 : Int32) (p3 : Int32)  (v4 : Int32) (s0 : Ob) (s1 : Ob) (s3 : (Nat → Nat × Ob)) : Option (Int32 × Ob × Ob × (Nat → Nat × Ob)) := (ob (f_X7_needWord N s0 s1 s2 p2 p3) fun x3 => (if v4 = 0 then (if 0 < (s1.1 2) then (ob (f_X1_canBeGiven N s1 s2 p1 p2 p3) fun x4 => (if x4 = 0 then (some ((-5 : Int32), s0, s1, s3)) else (ob (f_X7_remember N q1_0 s0 s1 s3) fun x5 => (ob (f_X1_giveHint N s1 s2 p1 p2 p3) fun x6 => (some (x6.1, x5.1, x6.2, x5.2)))))) else (some ((-4 : Int32), s0, s1, s3))) else (some ((-3 : Int32), s0, s1, s3))))
theorem m_X7_hint_41 {K : Kt} {g : Gp} {a0 : Nat} {r0 : Nat → Nat} {r1 : Nat → Nat} {r2 : Nat → Nat} {f3 : Nat → Option Nat} {pa3 : Nat → Nat} {pr3 : Nat → Nat → Nat} {N : Nat} {q1_0 : Nat} {s2 : Ob} {p1 : Int32} {p2 : Int32} {p3 : Int32} {res : Int32 × Ob × Ob × (Nat → Nat × Ob)} (hg : Ok g) (hf3 : ∀ k, k < 20 → f3 k = some (pa3 k)) (C : Cx K g cX7_hint RX7 5 (zrm 3 70)) (X : Rx K (exR (some (.int res.1)) (wX7 g a0 r0 res.2.1 ++ wX1 g (r0 3) r1 q1_0 res.2.2.1 ++ wX5 g q1_0 r2 s2 ++ wPs g (r0 4) 20 f3 pa3 pr3 res.2.2.2)) 0 0 (some .int)) (v4 : Int32) (s0 : Ob) (s1 : Ob) (s3 : (Nat → Nat × Ob)) (h : f_X7_hint_41 N q1_0 s2 p1 p2 p3 v4 s0 s1 s3 = some res) : Zs K 0 0 (wX7 g a0 r0 s0 ++ wX1 g (r0 3) r1 q1_0 s1 ++ wX5 g q1_0 r2 s2 ++ wPs g (r0 4) 20 f3 pa3 pr3 s3) [(0, .ref a0), (1, .int p1), (2, .int p2), (3, .int p3), (4, .int v4)] 41 [] := by
  unfold f_X7_hint_41 at h
  refine z_aload_n (pc := 41) (x := a0) C dX7_hint_41 (i := 0) rfl rfl ?_
  refine z_iload_n (pc := 42) (x := p2) C dX7_hint_42 (i := 2) rfl rfl ?_
  refine z_iload_n (pc := 43) (x := p3) C dX7_hint_43 (i := 3) rfl rfl ?_
  replace h := ob_e h
  obtain ⟨x3, hx3, h⟩ := h
  refine z_callVT1 (pc := 44) (As := [.int p2, .int p3]) (rest := []) (wr := ([] : va_W)) C dX7_hint_44 ml_RX7_235 wv_X7_needWord (m_X7_needWord (a0 := a0) (r0 := r0) (r1 := r1) (q1_0 := q1_0) (r2 := r2) hg hx3) [0, 1, 2, 3, 4, 5, 6, 7, 8, 9, 10, 11, 12, 13, 14, 15, 16] [] rfl rfl ⟨by decide, by decide⟩ (Nat.le_of_ble_eq_true rfl) ⟨by decide, by decide⟩ rfl rfl rfl rfl rfl rfl rfl (by decide) (ex_kT1 C (cs' := 0) (ss' := 0) (A' := (wX7 g a0 r0 s0 ++ wX1 g (r0 3) r1 q1_0 s1 ++ wX5 g q1_0 r2 s2)) [0, 1, 2, 3, 4, 5, 6, 7, 8, 9, 10, 11, 12, 13, 14, 15, 16] rfl rfl ?_)
  refine z_iload (pc := 47) (x := v4) C dX7_hint_47 rfl ?_
  refine z_if_eq (pc := 49) C dX7_hint_49 (tgt := 55) (by decide) (fun hc => ?_) (fun hc => ?_)
  · replace h := (ite_e h).1 hc
    refine z_aload_n (pc := 55) (x := a0) C dX7_hint_55 (i := 0) rfl rfl ?_
    refine z_get (pc := 56) (v := .ref (r0 3)) C 0 dX7_hint_56 fl_RX7_67 rfl rfl ?_
    refine z_get (pc := 59) (v := .int (s1.1 2)) C 4 dX7_hint_59 fl_RX7_122 rfl rfl ?_
    refine z_if_gt (pc := 62) C dX7_hint_62 (tgt := 68) (by decide) (fun hc => ?_) (fun hc => ?_)
    · replace h := (ite_e h).1 hc
      refine z_aload_n (pc := 68) (x := a0) C dX7_hint_68 (i := 0) rfl rfl ?_
      refine z_get (pc := 69) (v := .ref (r0 3)) C 0 dX7_hint_69 fl_RX7_67 rfl rfl ?_
      refine z_iload_n (pc := 72) (x := p1) C dX7_hint_72 (i := 1) rfl rfl ?_
      refine z_iload_n (pc := 73) (x := p2) C dX7_hint_73 (i := 2) rfl rfl ?_
      refine z_iload_n (pc := 74) (x := p3) C dX7_hint_74 (i := 3) rfl rfl ?_
      replace h := ob_e h
      obtain ⟨x4, hx4, h⟩ := h
      refine z_callVT1 (pc := 75) (As := [.int p1, .int p2, .int p3]) (rest := []) (wr := (wX7 g a0 r0 s0)) C dX7_hint_75 ml_RX7_267 wv_X1_canBeGiven (m_X1_canBeGiven (a0 := (r0 3)) (r0 := r1) (q0_0 := q1_0) (r1 := r2) hg hx4) [4, 5, 6, 7, 8, 9, 10, 11, 12, 13, 14, 15, 16] [0, 1, 2, 3] rfl rfl ⟨by decide, by decide⟩ (Nat.le_of_ble_eq_true rfl) ⟨by decide, by decide⟩ rfl rfl rfl rfl rfl rfl rfl (by decide) (ex_kT1 C (cs' := 0) (ss' := 0) (A' := (wX7 g a0 r0 s0 ++ wX1 g (r0 3) r1 q1_0 s1 ++ wX5 g q1_0 r2 s2)) [0, 1, 2, 3, 4, 5, 6, 7, 8, 9, 10, 11, 12, 13, 14, 15, 16] rfl rfl ?_)
      refine z_if_ne (pc := 78) C dX7_hint_78 (tgt := 84) (by decide) (fun hc => ?_) (fun hc => ?_)
      · replace h := (ite_e h).2 hc
        refine z_aload_n (pc := 84) (x := a0) C dX7_hint_84 (i := 0) rfl rfl ?_
        replace h := ob_e h
        obtain ⟨x5, hx5, h⟩ := h
        refine z_callVT2 (pc := 85) (As := []) (rest := []) (wr := (wX5 g q1_0 r2 s2)) C dX7_hint_85 ml_RX7_256 wv_X7_remember (m_X7_remember (a0 := a0) (r0 := r0) (r1 := r1) (f2 := f3) (pa2 := pa3) (pr2 := pr3) (q1_0 := q1_0) hg hf3 hx5) [0, 1, 2, 3, 4, 5, 6, 7, 8, 9, 10, 11, 12] [13, 14, 15, 16] rfl rfl ⟨by decide, by decide⟩ (Nat.le_of_ble_eq_true rfl) ⟨by decide, by decide⟩ rfl rfl rfl rfl rfl rfl rfl (by decide) (ex_kT2 C (cs' := 0) (ss' := 0) (A' := (wX7 g a0 r0 x5.1 ++ wX1 g (r0 3) r1 q1_0 s1 ++ wX5 g q1_0 r2 s2)) [4, 5, 6, 7, 8, 9, 10, 11, 12, 13, 14, 15, 16, 0, 1, 2, 3] rfl rfl ?_)
        refine z_aload_n (pc := 88) (x := a0) C dX7_hint_88 (i := 0) rfl rfl ?_
        refine z_get (pc := 89) (v := .ref (r0 3)) C 0 dX7_hint_89 fl_RX7_67 rfl rfl ?_
        refine z_iload_n (pc := 92) (x := p1) C dX7_hint_92 (i := 1) rfl rfl ?_
        refine z_iload_n (pc := 93) (x := p2) C dX7_hint_93 (i := 2) rfl rfl ?_
        refine z_iload_n (pc := 94) (x := p3) C dX7_hint_94 (i := 3) rfl rfl ?_
        replace h := ob_e h
        obtain ⟨x6, hx6, h⟩ := h
        refine z_callVT1 (pc := 95) (As := [.int p1, .int p2, .int p3]) (rest := []) (wr := (wX7 g a0 r0 x5.1)) C dX7_hint_95 ml_RX7_271 wv_X1_giveHint (m_X1_giveHint (a0 := (r0 3)) (r0 := r1) (q0_0 := q1_0) (r1 := r2) hg hx6) [4, 5, 6, 7, 8, 9, 10, 11, 12, 13, 14, 15, 16] [0, 1, 2, 3] rfl rfl ⟨by decide, by decide⟩ (Nat.le_of_ble_eq_true rfl) ⟨by decide, by decide⟩ rfl rfl rfl rfl rfl rfl rfl (by decide) (ex_kT1 C (cs' := 0) (ss' := 0) (A' := (wX7 g a0 r0 x5.1 ++ wX1 g (r0 3) r1 q1_0 x6.2 ++ wX5 g q1_0 r2 s2)) [0, 1, 2, 3, 4, 5, 6, 7, 8, 9, 10, 11, 12, 13, 14, 15, 16] rfl rfl ?_)
        exact z_iret C X dX7_hint_98 (by rw [← Option.some.inj h]; exact ⟨rfl, rfl⟩) (by decide) (by decide)
      · replace h := (ite_e h).1 hc
        refine z_bipush (pc := 81) C dX7_hint_81 bp_m5 ?_
        exact z_iret C X dX7_hint_83 (by rw [← Option.some.inj h]; exact ⟨rfl, rfl⟩) (by decide) (by decide)
    · replace h := (ite_e h).2 hc
      refine z_bipush (pc := 65) C dX7_hint_65 bp_m4 ?_
      exact z_iret C X dX7_hint_67 (by rw [← Option.some.inj h]; exact ⟨rfl, rfl⟩) (by decide) (by decide)
  · replace h := (ite_e h).2 hc
    refine z_bipush (pc := 52) C dX7_hint_52 bp_m3 ?_
    exact z_iret C X dX7_hint_54 (by rw [← Option.some.inj h]; exact ⟨rfl, rfl⟩) (by decide) (by decide)
def f_X7_hint (N : Nat) (q1_0 : Nat) (s0 : Ob) (s1 : Ob) (s2 : Ob) (s3 : (Nat → Nat × Ob)) (p1 : Int32) (p2 : Int32) (p3 : Int32) : Option (Int32 × Ob × Ob × (Nat → Nat × Ob)) := (ob (f_X7_needPlayer N s0 s1 s2 p1) fun x1 => (ob (f_X1_isEnded N s1 s2) fun x2 => (if x2 = 0 then (if p1 = (s1.1 4) then none else (f_X7_hint_41 N q1_0 s2 p1 p2 p3 x2 s0 s1 s3)) else (f_X7_hint_41 N q1_0 s2 p1 p2 p3 x2 s0 s1 s3))))
theorem m_X7_hint {g : Gp} {a0 : Nat} {r0 : Nat → Nat} {r1 : Nat → Nat} {r2 : Nat → Nat} {f3 : Nat → Option Nat} {pa3 : Nat → Nat} {pr3 : Nat → Nat → Nat} {N : Nat} {q1_0 : Nat} {s0 : Ob} {s1 : Ob} {s2 : Ob} {s3 : (Nat → Nat × Ob)} {p1 : Int32} {p2 : Int32} {p3 : Int32} {res : Int32 × Ob × Ob × (Nat → Nat × Ob)} (hg : Ok g) (hf3 : ∀ k, k < 20 → f3 k = some (pa3 k)) (h : f_X7_hint N q1_0 s0 s1 s2 s3 p1 p2 p3 = some res) : Ct g yX7_hint cX7_hint 5 (some .int) (zrm 3 70) [.ref a0, .int p1, .int p2, .int p3] (wX7 g a0 r0 s0 ++ wX1 g (r0 3) r1 q1_0 s1 ++ wX5 g q1_0 r2 s2 ++ wPs g (r0 4) 20 f3 pa3 pr3 s3) (exR (some (.int res.1)) (wX7 g a0 r0 res.2.1 ++ wX1 g (r0 3) r1 q1_0 res.2.2.1 ++ wX5 g q1_0 r2 s2 ++ wPs g (r0 4) 20 f3 pa3 pr3 res.2.2.2)) := by
  refine ct_of rfl hg (by show _ ≤ _; exact Nat.le_of_ble_eq_true rfl) (fun K C X => ?_)
  show Zs K 0 0 (wX7 g a0 r0 s0 ++ wX1 g (r0 3) r1 q1_0 s1 ++ wX5 g q1_0 r2 s2 ++ wPs g (r0 4) 20 f3 pa3 pr3 s3) [(0, .ref a0), (1, .int p1), (2, .int p2), (3, .int p3)] 0 []
  unfold f_X7_hint at h
  refine z_aload_n (pc := 0) (x := a0) C dX7_hint_0 (i := 0) rfl rfl ?_
  refine z_iload_n (pc := 1) (x := p1) C dX7_hint_1 (i := 1) rfl rfl ?_
  replace h := ob_e h
  obtain ⟨x1, hx1, h⟩ := h
  refine z_callVT1 (pc := 2) (As := [.int p1]) (rest := []) (wr := ([] : va_W)) C dX7_hint_2 ml_RX7_164 wv_X7_needPlayer (m_X7_needPlayer (a0 := a0) (r0 := r0) (r1 := r1) (q1_0 := q1_0) (r2 := r2) hg hx1) [0, 1, 2, 3, 4, 5, 6, 7, 8, 9, 10, 11, 12, 13, 14, 15, 16] [] rfl rfl ⟨by decide, by decide⟩ (Nat.le_of_ble_eq_true rfl) ⟨by decide, by decide⟩ rfl rfl rfl rfl rfl rfl rfl (by decide) (ex_kT1 C (cs' := 0) (ss' := 0) (A' := (wX7 g a0 r0 s0 ++ wX1 g (r0 3) r1 q1_0 s1 ++ wX5 g q1_0 r2 s2)) [0, 1, 2, 3, 4, 5, 6, 7, 8, 9, 10, 11, 12, 13, 14, 15, 16] rfl rfl ?_)
  refine z_aload_n (pc := 5) (x := a0) C dX7_hint_5 (i := 0) rfl rfl ?_
  refine z_get (pc := 6) (v := .ref (r0 3)) C 0 dX7_hint_6 fl_RX7_67 rfl rfl ?_
  replace h := ob_e h
  obtain ⟨x2, hx2, h⟩ := h
  refine z_callVT1 (pc := 9) (As := []) (rest := []) (wr := (wX7 g a0 r0 s0)) C dX7_hint_9 ml_RX7_145 wv_X1_isEnded (m_X1_isEnded (a0 := (r0 3)) (r0 := r1) (q0_0 := q1_0) (r1 := r2) hg hx2) [4, 5, 6, 7, 8, 9, 10, 11, 12, 13, 14, 15, 16] [0, 1, 2, 3] rfl rfl ⟨by decide, by decide⟩ (Nat.le_of_ble_eq_true rfl) ⟨by decide, by decide⟩ rfl rfl rfl rfl rfl rfl rfl (by decide) (ex_kT1 C (cs' := 0) (ss' := 0) (A' := (wX7 g a0 r0 s0 ++ wX1 g (r0 3) r1 q1_0 s1 ++ wX5 g q1_0 r2 s2)) [0, 1, 2, 3, 4, 5, 6, 7, 8, 9, 10, 11, 12, 13, 14, 15, 16] rfl rfl ?_)
  refine z_istore (pc := 12) C dX7_hint_12 (by decide) (lv' := [(4, .int x2), (0, .ref a0), (1, .int p1), (2, .int p2), (3, .int p3)]) rfl ?_
  refine z_iload (pc := 14) (x := x2) C dX7_hint_14 rfl ?_
  refine z_if_ne (pc := 16) C dX7_hint_16 (tgt := 41) (by decide) (fun hc => ?_) (fun hc => ?_)
  · replace h := (ite_e h).2 hc
    refine z_lv (lv' := [(0, .ref a0), (1, .int p1), (2, .int p2), (3, .int p3), (4, .int x2)]) [1, 2, 3, 4, 0] rfl ?_
    exact m_X7_hint_41 (a0 := a0) (r0 := r0) (r1 := r1) (q1_0 := q1_0) (r2 := r2) (f3 := f3) (pa3 := pa3) (pr3 := pr3) hg hf3 C X x2 s0 s1 s3 h
  · replace h := (ite_e h).1 hc
    refine z_iload_n (pc := 19) (x := p1) C dX7_hint_19 (i := 1) rfl rfl ?_
    refine z_aload_n (pc := 20) (x := a0) C dX7_hint_20 (i := 0) rfl rfl ?_
    refine z_get (pc := 21) (v := .ref (r0 3)) C 0 dX7_hint_21 fl_RX7_67 rfl rfl ?_
    refine z_get (pc := 24) (v := .int (s1.1 4)) C 4 dX7_hint_24 fl_RX7_149 rfl rfl ?_
    refine z_icmp_ne (pc := 27) C dX7_hint_27 (tgt := 41) (by decide) (fun hc => ?_) (fun hc => ?_)
    · replace h := (ite_e h).2 hc
      refine z_lv (lv' := [(0, .ref a0), (1, .int p1), (2, .int p2), (3, .int p3), (4, .int x2)]) [1, 2, 3, 4, 0] rfl ?_
      exact m_X7_hint_41 (a0 := a0) (r0 := r0) (r1 := r1) (q1_0 := q1_0) (r2 := r2) (f3 := f3) (pa3 := pa3) (pr3 := pr3) hg hf3 C X x2 s0 s1 s3 h
    · replace h := (ite_e h).1 hc
      exact nomatch h
def f_X7_pass (N : Nat) (q1_0 : Nat) (s0 : Ob) (s1 : Ob) (s2 : Ob) (s3 : (Nat → Nat × Ob)) : Option (Int32 × Ob × Ob × (Nat → Nat × Ob)) := (ob (f_X1_isEnded N s1 s2) fun x1 => (if x1 = 0 then (ob (f_X1_sizeOf N s1 (s1.1 4)) fun x2 => (if x2 ≤ 0 then (ob (f_X7_remember N q1_0 s0 s1 s3) fun x3 => (ob (f_X1_passTurn N s1 s2) fun x4 => (ob (f_X1_isEnded N x4 s2) fun x5 => (if x5 = 0 then (some ((x4.1 4), x3.1, x4, x3.2)) else (some ((-1 : Int32), x3.1, x4, x3.2)))))) else (some ((-6 : Int32), s0, s1, s3)))) else (some ((-3 : Int32), s0, s1, s3))))
theorem m_X7_pass {g : Gp} {a0 : Nat} {r0 : Nat → Nat} {r1 : Nat → Nat} {r2 : Nat → Nat} {f3 : Nat → Option Nat} {pa3 : Nat → Nat} {pr3 : Nat → Nat → Nat} {N : Nat} {q1_0 : Nat} {s0 : Ob} {s1 : Ob} {s2 : Ob} {s3 : (Nat → Nat × Ob)} {res : Int32 × Ob × Ob × (Nat → Nat × Ob)} (hg : Ok g) (hf3 : ∀ k, k < 20 → f3 k = some (pa3 k)) (h : f_X7_pass N q1_0 s0 s1 s2 s3 = some res) : Ct g yX7_pass cX7_pass 1 (some .int) (zrm 3 62) [.ref a0] (wX7 g a0 r0 s0 ++ wX1 g (r0 3) r1 q1_0 s1 ++ wX5 g q1_0 r2 s2 ++ wPs g (r0 4) 20 f3 pa3 pr3 s3) (exR (some (.int res.1)) (wX7 g a0 r0 res.2.1 ++ wX1 g (r0 3) r1 q1_0 res.2.2.1 ++ wX5 g q1_0 r2 s2 ++ wPs g (r0 4) 20 f3 pa3 pr3 res.2.2.2)) := by
  refine ct_of rfl hg (by show _ ≤ _; exact Nat.le_of_ble_eq_true rfl) (fun K C X => ?_)
  show Zs K 0 0 (wX7 g a0 r0 s0 ++ wX1 g (r0 3) r1 q1_0 s1 ++ wX5 g q1_0 r2 s2 ++ wPs g (r0 4) 20 f3 pa3 pr3 s3) [(0, .ref a0)] 0 []
  unfold f_X7_pass at h
  refine z_aload_n (pc := 0) (x := a0) C dX7_pass_0 (i := 0) rfl rfl ?_
  refine z_get (pc := 1) (v := .ref (r0 3)) C 0 dX7_pass_1 fl_RX7_67 rfl rfl ?_
  replace h := ob_e h
  obtain ⟨x1, hx1, h⟩ := h
  refine z_callVT1 (pc := 4) (As := []) (rest := []) (wr := (wX7 g a0 r0 s0)) C dX7_pass_4 ml_RX7_145 wv_X1_isEnded (m_X1_isEnded (a0 := (r0 3)) (r0 := r1) (q0_0 := q1_0) (r1 := r2) hg hx1) [4, 5, 6, 7, 8, 9, 10, 11, 12, 13, 14, 15, 16] [0, 1, 2, 3] rfl rfl ⟨by decide, by decide⟩ (Nat.le_of_ble_eq_true rfl) ⟨by decide, by decide⟩ rfl rfl rfl rfl rfl rfl rfl (by decide) (ex_kT1 C (cs' := 0) (ss' := 0) (A' := (wX7 g a0 r0 s0 ++ wX1 g (r0 3) r1 q1_0 s1 ++ wX5 g q1_0 r2 s2)) [0, 1, 2, 3, 4, 5, 6, 7, 8, 9, 10, 11, 12, 13, 14, 15, 16] rfl rfl ?_)
  refine z_if_eq (pc := 7) C dX7_pass_7 (tgt := 13) (by decide) (fun hc => ?_) (fun hc => ?_)
  · replace h := (ite_e h).1 hc
    refine z_aload_n (pc := 13) (x := a0) C dX7_pass_13 (i := 0) rfl rfl ?_
    refine z_get (pc := 14) (v := .ref (r0 3)) C 0 dX7_pass_14 fl_RX7_67 rfl rfl ?_
    refine z_aload_n (pc := 17) (x := a0) C dX7_pass_17 (i := 0) rfl rfl ?_
    refine z_get (pc := 18) (v := .ref (r0 3)) C 0 dX7_pass_18 fl_RX7_67 rfl rfl ?_
    refine z_get (pc := 21) (v := .int (s1.1 4)) C 4 dX7_pass_21 fl_RX7_149 rfl rfl ?_
    replace h := ob_e h
    obtain ⟨x2, hx2, h⟩ := h
    refine z_callVT1 (pc := 24) (As := [.int (s1.1 4)]) (rest := []) (wr := (wX7 g a0 r0 s0 ++ wX5 g q1_0 r2 s2)) C dX7_pass_24 ml_RX7_167 wv_X1_sizeOf (m_X1_sizeOf (a0 := (r0 3)) (r0 := r1) (q0_0 := q1_0) hg hx2) [4, 5, 6, 7, 8, 9, 10, 11, 12] [0, 1, 2, 3, 13, 14, 15, 16] rfl rfl ⟨by decide, by decide⟩ (Nat.le_of_ble_eq_true rfl) ⟨by decide, by decide⟩ rfl rfl rfl rfl rfl rfl rfl (by decide) (ex_kT1 C (cs' := 0) (ss' := 0) (A' := (wX7 g a0 r0 s0 ++ wX1 g (r0 3) r1 q1_0 s1 ++ wX5 g q1_0 r2 s2)) [0, 1, 2, 3, 8, 9, 10, 11, 12, 13, 14, 15, 16, 4, 5, 6, 7] rfl rfl ?_)
    refine z_if_le (pc := 27) C dX7_pass_27 (tgt := 33) (by decide) (fun hc => ?_) (fun hc => ?_)
    · replace h := (ite_e h).1 hc
      refine z_aload_n (pc := 33) (x := a0) C dX7_pass_33 (i := 0) rfl rfl ?_
      replace h := ob_e h
      obtain ⟨x3, hx3, h⟩ := h
      refine z_callVT2 (pc := 34) (As := []) (rest := []) (wr := (wX5 g q1_0 r2 s2)) C dX7_pass_34 ml_RX7_256 wv_X7_remember (m_X7_remember (a0 := a0) (r0 := r0) (r1 := r1) (f2 := f3) (pa2 := pa3) (pr2 := pr3) (q1_0 := q1_0) hg hf3 hx3) [0, 1, 2, 3, 4, 5, 6, 7, 8, 9, 10, 11, 12] [13, 14, 15, 16] rfl rfl ⟨by decide, by decide⟩ (Nat.le_of_ble_eq_true rfl) ⟨by decide, by decide⟩ rfl rfl rfl rfl rfl rfl rfl (by decide) (ex_kT2 C (cs' := 0) (ss' := 0) (A' := (wX7 g a0 r0 x3.1 ++ wX1 g (r0 3) r1 q1_0 s1 ++ wX5 g q1_0 r2 s2)) [4, 5, 6, 7, 8, 9, 10, 11, 12, 13, 14, 15, 16, 0, 1, 2, 3] rfl rfl ?_)
      refine z_aload_n (pc := 37) (x := a0) C dX7_pass_37 (i := 0) rfl rfl ?_
      refine z_get (pc := 38) (v := .ref (r0 3)) C 0 dX7_pass_38 fl_RX7_67 rfl rfl ?_
      replace h := ob_e h
      obtain ⟨x4, hx4, h⟩ := h
      refine z_callVT1 (pc := 41) (As := []) (rest := []) (wr := (wX7 g a0 r0 x3.1)) C dX7_pass_41 ml_RX7_275 wv_X1_passTurn (m_X1_passTurn (a0 := (r0 3)) (r0 := r1) (q0_0 := q1_0) (r1 := r2) hg hx4) [4, 5, 6, 7, 8, 9, 10, 11, 12, 13, 14, 15, 16] [0, 1, 2, 3] rfl rfl ⟨by decide, by decide⟩ (Nat.le_of_ble_eq_true rfl) ⟨by decide, by decide⟩ rfl rfl rfl rfl rfl rfl rfl (by decide) (ex_kT1 C (cs' := 0) (ss' := 0) (A' := (wX7 g a0 r0 x3.1 ++ wX1 g (r0 3) r1 q1_0 x4 ++ wX5 g q1_0 r2 s2)) [0, 1, 2, 3, 4, 5, 6, 7, 8, 9, 10, 11, 12, 13, 14, 15, 16] rfl rfl ?_)
      refine z_aload_n (pc := 44) (x := a0) C dX7_pass_44 (i := 0) rfl rfl ?_
      refine z_get (pc := 45) (v := .ref (r0 3)) C 0 dX7_pass_45 fl_RX7_67 rfl rfl ?_
      replace h := ob_e h
      obtain ⟨x5, hx5, h⟩ := h
      refine z_callVT1 (pc := 48) (As := []) (rest := []) (wr := (wX7 g a0 r0 x3.1)) C dX7_pass_48 ml_RX7_145 wv_X1_isEnded (m_X1_isEnded (a0 := (r0 3)) (r0 := r1) (q0_0 := q1_0) (r1 := r2) hg hx5) [4, 5, 6, 7, 8, 9, 10, 11, 12, 13, 14, 15, 16] [0, 1, 2, 3] rfl rfl ⟨by decide, by decide⟩ (Nat.le_of_ble_eq_true rfl) ⟨by decide, by decide⟩ rfl rfl rfl rfl rfl rfl rfl (by decide) (ex_kT1 C (cs' := 0) (ss' := 0) (A' := (wX7 g a0 r0 x3.1 ++ wX1 g (r0 3) r1 q1_0 x4 ++ wX5 g q1_0 r2 s2)) [0, 1, 2, 3, 4, 5, 6, 7, 8, 9, 10, 11, 12, 13, 14, 15, 16] rfl rfl ?_)
      refine z_if_eq (pc := 51) C dX7_pass_51 (tgt := 58) (by decide) (fun hc => ?_) (fun hc => ?_)
      · replace h := (ite_e h).1 hc
        refine z_aload_n (pc := 58) (x := a0) C dX7_pass_58 (i := 0) rfl rfl ?_
        refine z_get (pc := 59) (v := .ref (r0 3)) C 0 dX7_pass_59 fl_RX7_67 rfl rfl ?_
        refine z_get (pc := 62) (v := .int (x4.1 4)) C 4 dX7_pass_62 fl_RX7_149 rfl rfl ?_
        exact z_iret C X dX7_pass_65 (by rw [← Option.some.inj h]; exact ⟨rfl, rfl⟩) (by decide) (by decide)
      · replace h := (ite_e h).2 hc
        refine z_iconst (pc := 54) C dX7_pass_54 ic_m1 ?_
        refine z_goto (pc := 55) C dX7_pass_55 (tgt := 65) (by decide) ?_
        exact z_iret C X dX7_pass_65 (by rw [← Option.some.inj h]; exact ⟨rfl, rfl⟩) (by decide) (by decide)
    · replace h := (ite_e h).2 hc
      refine z_bipush (pc := 30) C dX7_pass_30 bp_m6 ?_
      exact z_iret C X dX7_pass_32 (by rw [← Option.some.inj h]; exact ⟨rfl, rfl⟩) (by decide) (by decide)
  · replace h := (ite_e h).2 hc
    refine z_bipush (pc := 10) C dX7_pass_10 bp_m3 ?_
    exact z_iret C X dX7_pass_12 (by rw [← Option.some.inj h]; exact ⟨rfl, rfl⟩) (by decide) (by decide)
def f_X7_follow_11 (N : Nat) (q1_0 : Nat) (s2 : Ob) (p1 : Int32)  (s0 : Ob) (s1 : Ob) (s3 : Ob) (s4 : Ob) (s5 : (Nat → Nat × Ob)) : Option (Int32 × Ob × Ob × Ob × Ob × (Nat → Nat × Ob)) := none
theorem m_X7_follow_11 {K : Kt} {g : Gp} {a0 : Nat} {r0 : Nat → Nat} {r1 : Nat → Nat} {r2 : Nat → Nat} {r3 : Nat → Nat} {r4 : Nat → Nat} {f5 : Nat → Option Nat} {pa5 : Nat → Nat} {pr5 : Nat → Nat → Nat} {N : Nat} {q1_0 : Nat} {s2 : Ob} {p1 : Int32} {res : Int32 × Ob × Ob × Ob × Ob × (Nat → Nat × Ob)} (hg : Ok g) (hf5 : ∀ k, k < 20 → f5 k = some (pa5 k)) (C : Cx K g cX7_follow RX7 4 (zrm 6 146)) (X : Rx K (exR (some (.int res.1)) (wX7 g a0 r0 res.2.1 ++ wX1 g (r0 3) r1 q1_0 res.2.2.1 ++ wX5 g q1_0 r2 s2 ++ wX0 g (r0 11) r3 (r0 10) res.2.2.2.1 ++ wX2 g (r0 10) r4 res.2.2.2.2.1 ++ wPs g (r0 4) 20 f5 pa5 pr5 res.2.2.2.2.2)) 0 0 (some .int)) (s0 : Ob) (s1 : Ob) (s3 : Ob) (s4 : Ob) (s5 : (Nat → Nat × Ob)) (h : f_X7_follow_11 N q1_0 s2 p1 s0 s1 s3 s4 s5 = some res) : Zs K 0 0 (wX7 g a0 r0 s0 ++ wX1 g (r0 3) r1 q1_0 s1 ++ wX5 g q1_0 r2 s2 ++ wX0 g (r0 11) r3 (r0 10) s3 ++ wX2 g (r0 10) r4 s4 ++ wPs g (r0 4) 20 f5 pa5 pr5 s5) [] 11 [] := by
  unfold f_X7_follow_11 at h
  exact nomatch h
def F_X7_follow_26 (N : Nat) (q1_0 : Nat) (s2 : Ob) (p1 : Int32)  (k26 : Int32 → Int32 → Ob → Ob → Ob → Ob → (Nat → Nat × Ob) → Option (Int32 × Ob × Ob × Ob × Ob × (Nat → Nat × Ob))) (v2 : Int32) (v3 : Int32) (s0 : Ob) (s1 : Ob) (s3 : Ob) (s4 : Ob) (s5 : (Nat → Nat × Ob)) : Option (Int32 × Ob × Ob × Ob × Ob × (Nat → Nat × Ob)) := (if p1 ≤ v3 then (some (v2, s0, s1, s3, s4, s5)) else (ob (f_X1_isEnded N s1 s2) fun x1 => (if x1 = 0 then (ob (f_X7_remember N q1_0 s0 s1 s5) fun x2 => (ob (f_X0_advise N s3 s1 s2 s4) fun x3 => (ob (f_X0_takeTurn N x3.1 s1 s2) fun x4 => (k26 (v2 + (1 : Int32)) (v3 + (1 : Int32)) x2.1 x4 x3.1 x3.2 x2.2)))) else (some (v2, s0, s1, s3, s4, s5)))))
def f_X7_follow_26 (N : Nat) (q1_0 : Nat) (s2 : Ob) (p1 : Int32)  : Nat → Int32 → Int32 → Ob → Ob → Ob → Ob → (Nat → Nat × Ob) → Option (Int32 × Ob × Ob × Ob × Ob × (Nat → Nat × Ob)) := zlp (fun _ _ _ _ _ _ _ => none) (F_X7_follow_26 N q1_0 s2 p1)
theorem m_X7_follow_26 {K : Kt} {g : Gp} {a0 : Nat} {r0 : Nat → Nat} {r1 : Nat → Nat} {r2 : Nat → Nat} {r3 : Nat → Nat} {r4 : Nat → Nat} {f5 : Nat → Option Nat} {pa5 : Nat → Nat} {pr5 : Nat → Nat → Nat} {N : Nat} {q1_0 : Nat} {s2 : Ob} {p1 : Int32} {res : Int32 × Ob × Ob × Ob × Ob × (Nat → Nat × Ob)} (hg : Ok g) (hf5 : ∀ k, k < 20 → f5 k = some (pa5 k)) (C : Cx K g cX7_follow RX7 4 (zrm 6 146)) (X : Rx K (exR (some (.int res.1)) (wX7 g a0 r0 res.2.1 ++ wX1 g (r0 3) r1 q1_0 res.2.2.1 ++ wX5 g q1_0 r2 s2 ++ wX0 g (r0 11) r3 (r0 10) res.2.2.2.1 ++ wX2 g (r0 10) r4 res.2.2.2.2.1 ++ wPs g (r0 4) 20 f5 pa5 pr5 res.2.2.2.2.2)) 0 0 (some .int)) : ∀ (n : Nat) (v2 : Int32) (v3 : Int32) (s0 : Ob) (s1 : Ob) (s3 : Ob) (s4 : Ob) (s5 : (Nat → Nat × Ob)), f_X7_follow_26 N q1_0 s2 p1 n v2 v3 s0 s1 s3 s4 s5 = some res → Zs K 0 0 (wX7 g a0 r0 s0 ++ wX1 g (r0 3) r1 q1_0 s1 ++ wX5 g q1_0 r2 s2 ++ wX0 g (r0 11) r3 (r0 10) s3 ++ wX2 g (r0 10) r4 s4 ++ wPs g (r0 4) 20 f5 pa5 pr5 s5) [(0, .ref a0), (1, .int p1), (2, .int v2), (3, .int v3)] 26 [] := by
  intro n
  induction n with
  | zero => intro v2 v3 s0 s1 s3 s4 s5 h; exact nomatch (show (none : Option (Int32 × Ob × Ob × Ob × Ob × (Nat → Nat × Ob))) = some res from h)
  | succ n hk26 =>
    intro v2 v3 s0 s1 s3 s4 s5 h
    replace h : F_X7_follow_26 N q1_0 s2 p1 (f_X7_follow_26 N q1_0 s2 p1 n) v2 v3 s0 s1 s3 s4 s5 = some res := h
    unfold F_X7_follow_26 at h
    refine z_iload_n (pc := 26) (x := v3) C dX7_follow_26 (i := 3) rfl rfl ?_
    refine z_iload_n (pc := 27) (x := p1) C dX7_follow_27 (i := 1) rfl rfl ?_
    refine z_icmp_ge (pc := 28) C dX7_follow_28 (tgt := 76) (by decide) (fun hc => ?_) (fun hc => ?_)
    · replace h := (ite_e h).1 hc
      refine z_iload_n (pc := 76) (x := v2) C dX7_follow_76 (i := 2) rfl rfl ?_
      exact z_iret C X dX7_follow_77 (by rw [← Option.some.inj h]; exact ⟨rfl, rfl⟩) (by decide) (by decide)
    · replace h := (ite_e h).2 hc
      refine z_aload_n (pc := 31) (x := a0) C dX7_follow_31 (i := 0) rfl rfl ?_
      refine z_get (pc := 32) (v := .ref (r0 3)) C 0 dX7_follow_32 fl_RX7_67 rfl rfl ?_
      replace h := ob_e h
      obtain ⟨x1, hx1, h⟩ := h
      refine z_callVT1 (pc := 35) (As := []) (rest := []) (wr := (wX7 g a0 r0 s0 ++ wX0 g (r0 11) r3 (r0 10) s3 ++ wX2 g (r0 10) r4 s4)) C dX7_follow_35 ml_RX7_145 wv_X1_isEnded (m_X1_isEnded (a0 := (r0 3)) (r0 := r1) (q0_0 := q1_0) (r1 := r2) hg hx1) [4, 5, 6, 7, 8, 9, 10, 11, 12, 13, 14, 15, 16] [0, 1, 2, 3, 17, 18, 19] rfl rfl ⟨by decide, by decide⟩ (Nat.le_of_ble_eq_true rfl) ⟨by decide, by decide⟩ rfl rfl rfl rfl rfl rfl rfl (by decide) (ex_kT1 C (cs' := 0) (ss' := 0) (A' := (wX7 g a0 r0 s0 ++ wX1 g (r0 3) r1 q1_0 s1 ++ wX5 g q1_0 r2 s2 ++ wX0 g (r0 11) r3 (r0 10) s3 ++ wX2 g (r0 10) r4 s4)) [0, 1, 2, 3, 7, 8, 9, 10, 11, 12, 13, 14, 15, 16, 17, 18, 19, 4, 5, 6] rfl rfl ?_)
      refine z_if_ne (pc := 38) C dX7_follow_38 (tgt := 76) (by decide) (fun hc => ?_) (fun hc => ?_)
      · replace h := (ite_e h).2 hc
        refine z_iload_n (pc := 76) (x := v2) C dX7_follow_76 (i := 2) rfl rfl ?_
        exact z_iret C X dX7_follow_77 (by rw [← Option.some.inj h]; exact ⟨rfl, rfl⟩) (by decide) (by decide)
      · replace h := (ite_e h).1 hc
        refine z_aload_n (pc := 41) (x := a0) C dX7_follow_41 (i := 0) rfl rfl ?_
        replace h := ob_e h
        obtain ⟨x2, hx2, h⟩ := h
        refine z_callVT2 (pc := 42) (As := []) (rest := []) (wr := (wX5 g q1_0 r2 s2 ++ wX0 g (r0 11) r3 (r0 10) s3 ++ wX2 g (r0 10) r4 s4)) C dX7_follow_42 ml_RX7_256 wv_X7_remember (m_X7_remember (a0 := a0) (r0 := r0) (r1 := r1) (f2 := f5) (pa2 := pa5) (pr2 := pr5) (q1_0 := q1_0) hg hf5 hx2) [0, 1, 2, 3, 4, 5, 6, 7, 8, 9, 10, 11, 12] [13, 14, 15, 16, 17, 18, 19] rfl rfl ⟨by decide, by decide⟩ (Nat.le_of_ble_eq_true rfl) ⟨by decide, by decide⟩ rfl rfl rfl rfl rfl rfl rfl (by decide) (ex_kT2 C (cs' := 0) (ss' := 0) (A' := (wX7 g a0 r0 x2.1 ++ wX1 g (r0 3) r1 q1_0 s1 ++ wX5 g q1_0 r2 s2 ++ wX0 g (r0 11) r3 (r0 10) s3 ++ wX2 g (r0 10) r4 s4)) [7, 8, 9, 10, 11, 12, 13, 14, 15, 16, 17, 18, 19, 0, 1, 2, 3, 4, 5, 6] rfl rfl ?_)
        refine z_aload_n (pc := 45) (x := a0) C dX7_follow_45 (i := 0) rfl rfl ?_
        refine z_get (pc := 46) (v := .ref (r0 11)) C 0 dX7_follow_46 fl_RX7_47 rfl rfl ?_
        refine z_aload_n (pc := 49) (x := a0) C dX7_follow_49 (i := 0) rfl rfl ?_
        refine z_get (pc := 50) (v := .ref (r0 3)) C 0 dX7_follow_50 fl_RX7_67 rfl rfl ?_
        replace h := ob_e h
        obtain ⟨x3, hx3, h⟩ := h
        refine z_callVT1 (pc := 53) (As := [.ref (r0 3)]) (rest := []) (wr := (wX7 g a0 r0 x2.1)) C dX7_follow_53 ml_RX7_280 wv_X0_advise (m_X0_advise (a0 := (r0 11)) (a1 := (r0 3)) (r0 := r3) (q0_4 := (r0 10)) (r1 := r1) (q1_0 := q1_0) (r2 := r2) (r3 := r4) hg hx3) [17, 4, 5, 6, 7, 8, 9, 10, 11, 12, 13, 14, 15, 16, 18, 19] [0, 1, 2, 3] rfl rfl ⟨by decide, by decide⟩ (Nat.le_of_ble_eq_true rfl) ⟨by decide, by decide⟩ rfl rfl rfl rfl rfl rfl rfl (by decide) (ex_kT1 C (cs' := 0) (ss' := 0) (A' := (wX7 g a0 r0 x2.1 ++ wX1 g (r0 3) r1 q1_0 s1 ++ wX5 g q1_0 r2 s2 ++ wX0 g (r0 11) r3 (r0 10) x3.1 ++ wX2 g (r0 10) r4 x3.2)) [0, 1, 2, 3, 5, 6, 7, 8, 9, 10, 11, 12, 13, 14, 15, 16, 17, 4, 18, 19] rfl rfl ?_)
        refine z_aload_n (pc := 56) (x := a0) C dX7_follow_56 (i := 0) rfl rfl ?_
        refine z_get (pc := 57) (v := .ref (r0 11)) C 0 dX7_follow_57 fl_RX7_47 rfl rfl ?_
        refine z_aload_n (pc := 60) (x := a0) C dX7_follow_60 (i := 0) rfl rfl ?_
        refine z_get (pc := 61) (v := .ref (r0 3)) C 0 dX7_follow_61 fl_RX7_67 rfl rfl ?_
        replace h := ob_e h
        obtain ⟨x4, hx4, h⟩ := h
        refine z_callVT1 (pc := 64) (As := [.ref (r0 3)]) (rest := []) (wr := (wX7 g a0 r0 x2.1 ++ wX2 g (r0 10) r4 x3.2)) C dX7_follow_64 ml_RX7_298 wv_X0_takeTurn (m_X0_takeTurn (a0 := (r0 11)) (a1 := (r0 3)) (r0 := r3) (q0_4 := (r0 10)) (r1 := r1) (q1_0 := q1_0) (r2 := r2) hg hx4) [17, 4, 5, 6, 7, 8, 9, 10, 11, 12, 13, 14, 15, 16] [0, 1, 2, 3, 18, 19] rfl rfl ⟨by decide, by decide⟩ (Nat.le_of_ble_eq_true rfl) ⟨by decide, by decide⟩ rfl rfl rfl rfl rfl rfl rfl (by decide) (ex_kT1 C (cs' := 0) (ss' := 0) (A' := (wX7 g a0 r0 x2.1 ++ wX1 g (r0 3) r1 q1_0 x4 ++ wX5 g q1_0 r2 s2 ++ wX0 g (r0 11) r3 (r0 10) x3.1 ++ wX2 g (r0 10) r4 x3.2)) [0, 1, 2, 3, 7, 8, 9, 10, 11, 12, 13, 14, 15, 16, 17, 18, 19, 6, 4, 5] rfl rfl ?_)
        refine z_iinc (pc := 67) C dX7_follow_67 rfl (inc_e 1 (1 : Int32) ic_1 v2) (by decide) (lv' := [(2, .int (v2 + (1 : Int32))), (0, .ref a0), (1, .int p1), (3, .int v3)]) rfl ?_
        refine z_iinc (pc := 70) C dX7_follow_70 rfl (inc_e 1 (1 : Int32) ic_1 v3) (by decide) (lv' := [(3, .int (v3 + (1 : Int32))), (2, .int (v2 + (1 : Int32))), (0, .ref a0), (1, .int p1)]) rfl ?_
        refine z_goto (pc := 73) C dX7_follow_73 (tgt := 26) (by decide) ?_
        refine z_lv (lv' := [(0, .ref a0), (1, .int p1), (2, .int (v2 + (1 : Int32))), (3, .int (v3 + (1 : Int32)))]) [2, 3, 1, 0] rfl ?_
        exact hk26 (v2 + (1 : Int32)) (v3 + (1 : Int32)) x2.1 x4 x3.1 x3.2 x2.2 h
def f_X7_follow (N : Nat) (q1_0 : Nat) (s0 : Ob) (s1 : Ob) (s2 : Ob) (s3 : Ob) (s4 : Ob) (s5 : (Nat → Nat × Ob)) (p1 : Int32) : Option (Int32 × Ob × Ob × Ob × Ob × (Nat → Nat × Ob)) := (if p1 < (1 : Int32) then (f_X7_follow_11 N q1_0 s2 p1 s0 s1 s3 s4 s5) else (if p1 ≤ (100 : Int32) then (f_X7_follow_26 N q1_0 s2 p1 N (0 : Int32) (0 : Int32) s0 s1 s3 s4 s5) else (f_X7_follow_11 N q1_0 s2 p1 s0 s1 s3 s4 s5)))
theorem m_X7_follow {g : Gp} {a0 : Nat} {r0 : Nat → Nat} {r1 : Nat → Nat} {r2 : Nat → Nat} {r3 : Nat → Nat} {r4 : Nat → Nat} {f5 : Nat → Option Nat} {pa5 : Nat → Nat} {pr5 : Nat → Nat → Nat} {N : Nat} {q1_0 : Nat} {s0 : Ob} {s1 : Ob} {s2 : Ob} {s3 : Ob} {s4 : Ob} {s5 : (Nat → Nat × Ob)} {p1 : Int32} {res : Int32 × Ob × Ob × Ob × Ob × (Nat → Nat × Ob)} (hg : Ok g) (hf5 : ∀ k, k < 20 → f5 k = some (pa5 k)) (h : f_X7_follow N q1_0 s0 s1 s2 s3 s4 s5 p1 = some res) : Ct g yX7_follow cX7_follow 4 (some .int) (zrm 6 146) [.ref a0, .int p1] (wX7 g a0 r0 s0 ++ wX1 g (r0 3) r1 q1_0 s1 ++ wX5 g q1_0 r2 s2 ++ wX0 g (r0 11) r3 (r0 10) s3 ++ wX2 g (r0 10) r4 s4 ++ wPs g (r0 4) 20 f5 pa5 pr5 s5) (exR (some (.int res.1)) (wX7 g a0 r0 res.2.1 ++ wX1 g (r0 3) r1 q1_0 res.2.2.1 ++ wX5 g q1_0 r2 s2 ++ wX0 g (r0 11) r3 (r0 10) res.2.2.2.1 ++ wX2 g (r0 10) r4 res.2.2.2.2.1 ++ wPs g (r0 4) 20 f5 pa5 pr5 res.2.2.2.2.2)) := by
  refine ct_of rfl hg (by show _ ≤ _; exact Nat.le_of_ble_eq_true rfl) (fun K C X => ?_)
  show Zs K 0 0 (wX7 g a0 r0 s0 ++ wX1 g (r0 3) r1 q1_0 s1 ++ wX5 g q1_0 r2 s2 ++ wX0 g (r0 11) r3 (r0 10) s3 ++ wX2 g (r0 10) r4 s4 ++ wPs g (r0 4) 20 f5 pa5 pr5 s5) [(0, .ref a0), (1, .int p1)] 0 []
  unfold f_X7_follow at h
  refine z_iload_n (pc := 0) (x := p1) C dX7_follow_0 (i := 1) rfl rfl ?_
  refine z_iconst (pc := 1) C dX7_follow_1 ic_1 ?_
  refine z_icmp_lt (pc := 2) C dX7_follow_2 (tgt := 11) (by decide) (fun hc => ?_) (fun hc => ?_)
  · replace h := (ite_e h).1 hc
    refine z_lv (lv' := []) [] rfl ?_
    exact m_X7_follow_11 (a0 := a0) (r0 := r0) (r1 := r1) (q1_0 := q1_0) (r2 := r2) (r3 := r3) (r4 := r4) (f5 := f5) (pa5 := pa5) (pr5 := pr5) hg hf5 C X s0 s1 s3 s4 s5 h
  · replace h := (ite_e h).2 hc
    refine z_iload_n (pc := 5) (x := p1) C dX7_follow_5 (i := 1) rfl rfl ?_
    refine z_bipush (pc := 6) C dX7_follow_6 bp_100 ?_
    refine z_icmp_le (pc := 8) C dX7_follow_8 (tgt := 22) (by decide) (fun hc => ?_) (fun hc => ?_)
    · replace h := (ite_e h).1 hc
      refine z_iconst (pc := 22) C dX7_follow_22 ic_0 ?_
      refine z_istore_n (pc := 23) C dX7_follow_23 (i := 2) rfl (by decide) (lv' := [(2, .int (0 : Int32)), (0, .ref a0), (1, .int p1)]) rfl ?_
      refine z_iconst (pc := 24) C dX7_follow_24 ic_0 ?_
      refine z_istore_n (pc := 25) C dX7_follow_25 (i := 3) rfl (by decide) (lv' := [(3, .int (0 : Int32)), (2, .int (0 : Int32)), (0, .ref a0), (1, .int p1)]) rfl ?_
      refine z_lv (lv' := [(0, .ref a0), (1, .int p1), (2, .int (0 : Int32)), (3, .int (0 : Int32))]) [2, 3, 1, 0] rfl ?_
      exact m_X7_follow_26 (a0 := a0) (r0 := r0) (r1 := r1) (q1_0 := q1_0) (r2 := r2) (r3 := r3) (r4 := r4) (f5 := f5) (pa5 := pa5) (pr5 := pr5) hg hf5 C X N (0 : Int32) (0 : Int32) s0 s1 s3 s4 s5 h
    · replace h := (ite_e h).2 hc
      refine z_lv (lv' := []) [] rfl ?_
      exact m_X7_follow_11 (a0 := a0) (r0 := r0) (r1 := r1) (q1_0 := q1_0) (r2 := r2) (r3 := r3) (r4 := r4) (f5 := f5) (pa5 := pa5) (pr5 := pr5) hg hf5 C X s0 s1 s3 s4 s5 h
def f_X7_undo_28 (N : Nat) (q1_0 : Nat)  (t1 : Int32) (s0 : Ob) (s1 : Ob) (s2 : (Nat → Nat × Ob)) : Option (Int32 × Ob × Ob × (Nat → Nat × Ob) × Nat) := (znm (si s0 6 t1) fun y1 => (chk (inb (y1.1 6) 20) (ob (f_X1_copyFrom N s1 (s2 ((y1.1 6)).toNatClampNeg).2) fun x3 => (some (((s0.1 5) - (1 : Int32)), (si y1 5 ((s0.1 5) - (1 : Int32))), x3, (va_up s2 ((y1.1 6)).toNatClampNeg ((s2 ((y1.1 6)).toNatClampNeg).1, (s2 ((y1.1 6)).toNatClampNeg).2)), (s2 ((y1.1 6)).toNatClampNeg).1)))))
theorem m_X7_undo_28 {K : Kt} {g : Gp} {a0 : Nat} {r0 : Nat → Nat} {r1 : Nat → Nat} {f2 : Nat → Option Nat} {pa2 : Nat → Nat} {pr2 : Nat → Nat → Nat} {N : Nat} {q1_0 : Nat} {res : Int32 × Ob × Ob × (Nat → Nat × Ob) × Nat} (hg : Ok g) (hf2 : ∀ k, k < 20 → f2 k = some (pa2 k)) (C : Cx K g cX7_undo RX7 1 (zrm 2 39)) (X : Rx K (exR (some (.int res.1)) (wX7 g a0 r0 res.2.1 ++ wX1 g (r0 3) r1 res.2.2.2.2 res.2.2.1 ++ wPs g (r0 4) 20 f2 pa2 pr2 res.2.2.2.1)) 0 0 (some .int)) (t1 : Int32) (s0 : Ob) (s1 : Ob) (s2 : (Nat → Nat × Ob)) (h : f_X7_undo_28 N q1_0 t1 s0 s1 s2 = some res) : Zs K 0 0 (wX7 g a0 r0 s0 ++ wX1 g (r0 3) r1 q1_0 s1 ++ wPs g (r0 4) 20 f2 pa2 pr2 s2) [(0, .ref a0)] 28 [.int t1, .ref a0] := by
  unfold f_X7_undo_28 at h
  refine z_put (pc := 28) C 0 dX7_undo_28 fp_RX7_348 rfl rfl rfl (zlt_b rfl) (ws' := (wX7 g a0 r0 (si s0 6 t1) ++ wX1 g (r0 3) r1 q1_0 s1 ++ wPs g (r0 4) 20 f2 pa2 pr2 s2)) rfl ?_
  refine z_aload_n (pc := 31) (x := a0) C dX7_undo_31 (i := 0) rfl rfl ?_
  refine z_dup (pc := 32) C dX7_undo_32 rfl ?_
  refine z_get (pc := 33) (v := .int (s0.1 5)) C 0 dX7_undo_33 fl_RX7_97 rfl rfl ?_
  refine z_iconst (pc := 36) C dX7_undo_36 ic_1 ?_
  refine z_isub (pc := 37) C dX7_undo_37 ?_
  replace h := znm_e h
  obtain ⟨y1, hy1, h⟩ := h
  refine z_wsE (ws' := (wX7 g a0 r0 y1 ++ wX1 g (r0 3) r1 q1_0 s1 ++ wPs g (r0 4) 20 f2 pa2 pr2 s2)) (by rw [hy1]) ?_
  refine z_put (pc := 38) C 0 dX7_undo_38 fp_RX7_97 rfl rfl rfl (zlt_b rfl) (ws' := (wX7 g a0 r0 (si y1 5 ((s0.1 5) - (1 : Int32))) ++ wX1 g (r0 3) r1 q1_0 s1 ++ wPs g (r0 4) 20 f2 pa2 pr2 s2)) rfl ?_
  refine z_aload_n (pc := 41) (x := a0) C dX7_undo_41 (i := 0) rfl rfl ?_
  refine z_get (pc := 42) (v := .ref (r0 3)) C 0 dX7_undo_42 fl_RX7_67 rfl rfl ?_
  refine z_aload_n (pc := 45) (x := a0) C dX7_undo_45 (i := 0) rfl rfl ?_
  refine z_get (pc := 46) (v := .ref (r0 4)) C 0 dX7_undo_46 fl_RX7_24 rfl rfl ?_
  refine z_aload_n (pc := 49) (x := a0) C dX7_undo_49 (i := 0) rfl rfl ?_
  refine z_get (pc := 50) (v := .int (y1.1 6)) C 0 dX7_undo_50 fl_RX7_348 rfl rfl ?_
  replace h := chk_e h
  obtain ⟨hb2, h⟩ := h
  refine z_aald (pc := 53) C 13 dX7_undo_53 rfl hb2 (hf2 _ (of_decide_eq_true hb2).2) ?_
  refine z_pout (of_decide_eq_true hb2).2 ?_
  replace h := ob_e h
  obtain ⟨x3, hx3, h⟩ := h
  refine z_callVT1 (pc := 54) (As := [.ref (pa2 ((y1.1 6)).toNatClampNeg)]) (rest := []) (wr := (wX7 g a0 r0 (si y1 5 ((s0.1 5) - (1 : Int32))))) C dX7_undo_54 ml_RX7_301 wv_X1_copyFrom (m_X1_copyFrom (a0 := (r0 3)) (a1 := (pa2 ((y1.1 6)).toNatClampNeg)) (r0 := r1) (q0_0 := q1_0) (r1 := (pr2 ((y1.1 6)).toNatClampNeg)) (q1_0 := (s2 ((y1.1 6)).toNatClampNeg).1) hg hx3) [4, 5, 6, 7, 8, 9, 10, 11, 12, 13, 14, 15, 16, 17, 18, 19, 20, 21] [0, 1, 2, 3] rfl rfl ⟨by decide, by decide⟩ (Nat.le_of_ble_eq_true rfl) ⟨by decide, by decide⟩ rfl rfl rfl rfl rfl rfl rfl (by decide) (ex_kT1 C (cs' := 0) (ss' := 0) (A' := (wX7 g a0 r0 (si y1 5 ((s0.1 5) - (1 : Int32))) ++ wX1 g (r0 3) r1 (s2 ((y1.1 6)).toNatClampNeg).1 x3 ++ wX1 g (pa2 ((y1.1 6)).toNatClampNeg) (pr2 ((y1.1 6)).toNatClampNeg) (s2 ((y1.1 6)).toNatClampNeg).1 (s2 ((y1.1 6)).toNatClampNeg).2)) [0, 1, 2, 3, 4, 5, 6, 7, 8, 9, 10, 11, 12, 13, 14, 15, 16, 17, 18, 19, 20, 21] rfl rfl ?_)
  refine z_pin (q := (s2 ((y1.1 6)).toNatClampNeg).1) (S := (s2 ((y1.1 6)).toNatClampNeg).2) (of_decide_eq_true hb2).2 ?_
  refine z_aload_n (pc := 57) (x := a0) C dX7_undo_57 (i := 0) rfl rfl ?_
  refine z_get (pc := 58) (v := .int ((s0.1 5) - (1 : Int32))) C 0 dX7_undo_58 fl_RX7_97 rfl rfl ?_
  exact z_iret C X dX7_undo_61 (by rw [← Option.some.inj h]; exact ⟨rfl, rfl⟩) (by decide) (by decide)
def f_X7_undo (N : Nat) (q1_0 : Nat) (s0 : Ob) (s1 : Ob) (s2 : (Nat → Nat × Ob)) : Option (Int32 × Ob × Ob × (Nat → Nat × Ob) × Nat) := (if 0 < (s0.1 5) then (if (s0.1 6) ≤ 0 then (f_X7_undo_28 N q1_0 (19 : Int32) s0 s1 s2) else (f_X7_undo_28 N q1_0 ((s0.1 6) - (1 : Int32)) s0 s1 s2)) else (some ((-1 : Int32), s0, s1, s2, q1_0)))
theorem m_X7_undo {g : Gp} {a0 : Nat} {r0 : Nat → Nat} {r1 : Nat → Nat} {f2 : Nat → Option Nat} {pa2 : Nat → Nat} {pr2 : Nat → Nat → Nat} {N : Nat} {q1_0 : Nat} {s0 : Ob} {s1 : Ob} {s2 : (Nat → Nat × Ob)} {res : Int32 × Ob × Ob × (Nat → Nat × Ob) × Nat} (hg : Ok g) (hf2 : ∀ k, k < 20 → f2 k = some (pa2 k)) (h : f_X7_undo N q1_0 s0 s1 s2 = some res) : Ct g yX7_undo cX7_undo 1 (some .int) (zrm 2 39) [.ref a0] (wX7 g a0 r0 s0 ++ wX1 g (r0 3) r1 q1_0 s1 ++ wPs g (r0 4) 20 f2 pa2 pr2 s2) (exR (some (.int res.1)) (wX7 g a0 r0 res.2.1 ++ wX1 g (r0 3) r1 res.2.2.2.2 res.2.2.1 ++ wPs g (r0 4) 20 f2 pa2 pr2 res.2.2.2.1)) := by
  refine ct_of rfl hg (by show _ ≤ _; exact Nat.le_of_ble_eq_true rfl) (fun K C X => ?_)
  show Zs K 0 0 (wX7 g a0 r0 s0 ++ wX1 g (r0 3) r1 q1_0 s1 ++ wPs g (r0 4) 20 f2 pa2 pr2 s2) [(0, .ref a0)] 0 []
  unfold f_X7_undo at h
  refine z_aload_n (pc := 0) (x := a0) C dX7_undo_0 (i := 0) rfl rfl ?_
  refine z_get (pc := 1) (v := .int (s0.1 5)) C 0 dX7_undo_1 fl_RX7_97 rfl rfl ?_
  refine z_if_gt (pc := 4) C dX7_undo_4 (tgt := 9) (by decide) (fun hc => ?_) (fun hc => ?_)
  · replace h := (ite_e h).1 hc
    refine z_aload_n (pc := 9) (x := a0) C dX7_undo_9 (i := 0) rfl rfl ?_
    refine z_aload_n (pc := 10) (x := a0) C dX7_undo_10 (i := 0) rfl rfl ?_
    refine z_get (pc := 11) (v := .int (s0.1 6)) C 0 dX7_undo_11 fl_RX7_348 rfl rfl ?_
    refine z_if_le (pc := 14) C dX7_undo_14 (tgt := 26) (by decide) (fun hc => ?_) (fun hc => ?_)
    · replace h := (ite_e h).1 hc
      refine z_bipush (pc := 26) C dX7_undo_26 bp_19 ?_
      exact m_X7_undo_28 (a0 := a0) (r0 := r0) (r1 := r1) (q1_0 := q1_0) (f2 := f2) (pa2 := pa2) (pr2 := pr2) hg hf2 C X (19 : Int32) s0 s1 s2 h
    · replace h := (ite_e h).2 hc
      refine z_aload_n (pc := 17) (x := a0) C dX7_undo_17 (i := 0) rfl rfl ?_
      refine z_get (pc := 18) (v := .int (s0.1 6)) C 0 dX7_undo_18 fl_RX7_348 rfl rfl ?_
      refine z_iconst (pc := 21) C dX7_undo_21 ic_1 ?_
      refine z_isub (pc := 22) C dX7_undo_22 ?_
      refine z_goto (pc := 23) C dX7_undo_23 (tgt := 28) (by decide) ?_
      exact m_X7_undo_28 (a0 := a0) (r0 := r0) (r1 := r1) (q1_0 := q1_0) (f2 := f2) (pa2 := pa2) (pr2 := pr2) hg hf2 C X ((s0.1 6) - (1 : Int32)) s0 s1 s2 h
  · replace h := (ite_e h).2 hc
    refine z_iconst (pc := 7) C dX7_undo_7 ic_m1 ?_
    exact z_iret C X dX7_undo_8 (by rw [← Option.some.inj h]; exact ⟨rfl, rfl⟩) (by decide) (by decide)
def f_X7_saveSnapshot (N : Nat) (q1_0 : Nat) (s0 : Ob) (s1 : Ob) (s2 : (Nat → Nat × Ob)) (p1 : Int32) : Option (Int32 × Ob × (Nat → Nat × Ob)) := (ob (f_X7_needSlot N s0 p1) fun x1 => (chk (inb p1 2) (ob (f_X1_copyFrom N (s2 (p1).toNatClampNeg).2 s1) fun x3 => (chk (inb p1 2) (ob (f_X1_score N s1) fun x5 => (some (x5, (sa s0 8 (upd (s0.2.2.1 8) (p1).toNatClampNeg (vp_nar .boolean (1 : Int32)))), (va_up s2 (p1).toNatClampNeg (q1_0, x3)))))))))
theorem m_X7_saveSnapshot {g : Gp} {a0 : Nat} {r0 : Nat → Nat} {r1 : Nat → Nat} {f2 : Nat → Option Nat} {pa2 : Nat → Nat} {pr2 : Nat → Nat → Nat} {N : Nat} {q1_0 : Nat} {s0 : Ob} {s1 : Ob} {s2 : (Nat → Nat × Ob)} {p1 : Int32} {res : Int32 × Ob × (Nat → Nat × Ob)} (hg : Ok g) (hf2 : ∀ k, k < 2 → f2 k = some (pa2 k)) (h : f_X7_saveSnapshot N q1_0 s0 s1 s2 p1 = some res) : Ct g yX7_saveSnapshot cX7_saveSnapshot 2 (some .int) (zrm 2 39) [.ref a0, .int p1] (wX7 g a0 r0 s0 ++ wX1 g (r0 3) r1 q1_0 s1 ++ wPs g (r0 7) 2 f2 pa2 pr2 s2) (exR (some (.int res.1)) (wX7 g a0 r0 res.2.1 ++ wX1 g (r0 3) r1 q1_0 s1 ++ wPs g (r0 7) 2 f2 pa2 pr2 res.2.2)) := by
  refine ct_of rfl hg (by show _ ≤ _; exact Nat.le_of_ble_eq_true rfl) (fun K C X => ?_)
  show Zs K 0 0 (wX7 g a0 r0 s0 ++ wX1 g (r0 3) r1 q1_0 s1 ++ wPs g (r0 7) 2 f2 pa2 pr2 s2) [(0, .ref a0), (1, .int p1)] 0 []
  unfold f_X7_saveSnapshot at h
  refine z_aload_n (pc := 0) (x := a0) C dX7_saveSnapshot_0 (i := 0) rfl rfl ?_
  refine z_iload_n (pc := 1) (x := p1) C dX7_saveSnapshot_1 (i := 1) rfl rfl ?_
  replace h := ob_e h
  obtain ⟨x1, hx1, h⟩ := h
  refine z_callVT1 (pc := 2) (As := [.int p1]) (rest := []) (wr := (wX1 g (r0 3) r1 q1_0 s1)) C dX7_saveSnapshot_2 ml_RX7_364 wv_X7_needSlot (m_X7_needSlot (a0 := a0) (r0 := r0) hg hx1) [0, 1, 2, 3] [4, 5, 6, 7, 8, 9, 10, 11, 12] rfl rfl ⟨by decide, by decide⟩ (Nat.le_of_ble_eq_true rfl) ⟨by decide, by decide⟩ rfl rfl rfl rfl rfl rfl rfl (by decide) (ex_kT1 C (cs' := 0) (ss' := 0) (A' := (wX7 g a0 r0 s0 ++ wX1 g (r0 3) r1 q1_0 s1)) [9, 10, 11, 12, 0, 1, 2, 3, 4, 5, 6, 7, 8] rfl rfl ?_)
  refine z_aload_n (pc := 5) (x := a0) C dX7_saveSnapshot_5 (i := 0) rfl rfl ?_
  refine z_get (pc := 6) (v := .ref (r0 7)) C 0 dX7_saveSnapshot_6 fl_RX7_28 rfl rfl ?_
  refine z_iload_n (pc := 9) (x := p1) C dX7_saveSnapshot_9 (i := 1) rfl rfl ?_
  replace h := chk_e h
  obtain ⟨hb2, h⟩ := h
  refine z_aald (pc := 10) C 13 dX7_saveSnapshot_10 rfl hb2 (hf2 _ (of_decide_eq_true hb2).2) ?_
  refine z_pout (of_decide_eq_true hb2).2 ?_
  refine z_aload_n (pc := 11) (x := a0) C dX7_saveSnapshot_11 (i := 0) rfl rfl ?_
  refine z_get (pc := 12) (v := .ref (r0 3)) C 0 dX7_saveSnapshot_12 fl_RX7_67 rfl rfl ?_
  replace h := ob_e h
  obtain ⟨x3, hx3, h⟩ := h
  refine z_callVT1 (pc := 15) (As := [.ref (r0 3)]) (rest := []) (wr := (wX7 g a0 r0 s0)) C dX7_saveSnapshot_15 ml_RX7_301 wv_X1_copyFrom (m_X1_copyFrom (a0 := (pa2 (p1).toNatClampNeg)) (a1 := (r0 3)) (r0 := (pr2 (p1).toNatClampNeg)) (q0_0 := (s2 (p1).toNatClampNeg).1) (r1 := r1) (q1_0 := q1_0) hg hx3) [13, 14, 15, 16, 17, 18, 19, 20, 21, 4, 5, 6, 7, 8, 9, 10, 11, 12] [0, 1, 2, 3] rfl rfl ⟨by decide, by decide⟩ (Nat.le_of_ble_eq_true rfl) ⟨by decide, by decide⟩ rfl rfl rfl rfl rfl rfl rfl (by decide) (ex_kT1 C (cs' := 0) (ss' := 0) (A' := (wX7 g a0 r0 s0 ++ wX1 g (r0 3) r1 q1_0 s1 ++ wX1 g (pa2 (p1).toNatClampNeg) (pr2 (p1).toNatClampNeg) q1_0 x3)) [0, 1, 2, 3, 13, 14, 15, 16, 17, 18, 19, 20, 21, 4, 5, 6, 7, 8, 9, 10, 11, 12] rfl rfl ?_)
  refine z_pin (q := q1_0) (S := x3) (of_decide_eq_true hb2).2 ?_
  refine z_aload_n (pc := 18) (x := a0) C dX7_saveSnapshot_18 (i := 0) rfl rfl ?_
  refine z_get (pc := 19) (v := .ref (r0 8)) C 0 dX7_saveSnapshot_19 fl_RX7_31 rfl rfl ?_
  refine z_iload_n (pc := 22) (x := p1) C dX7_saveSnapshot_22 (i := 1) rfl rfl ?_
  refine z_iconst (pc := 23) C dX7_saveSnapshot_23 ic_1 ?_
  replace h := chk_e h
  obtain ⟨hb4, h⟩ := h
  refine z_zast (pc := 24) C 2 dX7_saveSnapshot_24 rfl hb4 (ws' := (wX7 g a0 r0 (sa s0 8 (upd (s0.2.2.1 8) (p1).toNatClampNeg (vp_nar .boolean (1 : Int32)))) ++ wX1 g (r0 3) r1 q1_0 s1 ++ wPs g (r0 7) 2 f2 pa2 pr2 (va_up s2 (p1).toNatClampNeg (q1_0, x3)))) rfl ?_
  refine z_aload_n (pc := 25) (x := a0) C dX7_saveSnapshot_25 (i := 0) rfl rfl ?_
  refine z_get (pc := 26) (v := .ref (r0 3)) C 0 dX7_saveSnapshot_26 fl_RX7_67 rfl rfl ?_
  replace h := ob_e h
  obtain ⟨x5, hx5, h⟩ := h
  refine z_callVT1 (pc := 29) (As := []) (rest := []) (wr := (wX7 g a0 r0 (sa s0 8 (upd (s0.2.2.1 8) (p1).toNatClampNeg (vp_nar .boolean (1 : Int32)))))) C dX7_saveSnapshot_29 ml_RX7_128 wv_X1_score (m_X1_score (a0 := (r0 3)) (r0 := r1) (q0_0 := q1_0) hg hx5) [4, 5, 6, 7, 8, 9, 10, 11, 12] [0, 1, 2, 3] rfl rfl ⟨by decide, by decide⟩ (Nat.le_of_ble_eq_true rfl) ⟨by decide, by decide⟩ rfl rfl rfl rfl rfl rfl rfl (by decide) (ex_kT1 C (cs' := 0) (ss' := 0) (A' := (wX7 g a0 r0 (sa s0 8 (upd (s0.2.2.1 8) (p1).toNatClampNeg (vp_nar .boolean (1 : Int32)))) ++ wX1 g (r0 3) r1 q1_0 s1)) [0, 1, 2, 3, 4, 5, 6, 7, 8, 9, 10, 11, 12] rfl rfl ?_)
  exact z_iret C X dX7_saveSnapshot_32 (by rw [← Option.some.inj h]; exact ⟨rfl, rfl⟩) (by decide) (by decide)
def f_X7_restoreSnapshot (N : Nat) (q1_0 : Nat) (s0 : Ob) (s1 : Ob) (s2 : (Nat → Nat × Ob)) (p1 : Int32) : Option (Int32 × Ob × Ob × (Nat → Nat × Ob) × Nat) := (ob (f_X7_needSlot N s0 p1) fun x1 => (chk (inb p1 2) (if ((s0.2.2.1 8) (p1).toNatClampNeg) = 0 then (some ((-1 : Int32), s0, s1, s2, q1_0)) else (chk (inb p1 2) (ob (f_X1_copyFrom N s1 (s2 (p1).toNatClampNeg).2) fun x4 => (ob (f_X1_score N x4) fun x5 => (some (x5, (si s0 5 (0 : Int32)), x4, (va_up s2 (p1).toNatClampNeg ((s2 (p1).toNatClampNeg).1, (s2 (p1).toNatClampNeg).2)), (s2 (p1).toNatClampNeg).1))))))))
theorem m_X7_restoreSnapshot {g : Gp} {a0 : Nat} {r0 : Nat → Nat} {r1 : Nat → Nat} {f2 : Nat → Option Nat} {pa2 : Nat → Nat} {pr2 : Nat → Nat → Nat} {N : Nat} {q1_0 : Nat} {s0 : Ob} {s1 : Ob} {s2 : (Nat → Nat × Ob)} {p1 : Int32} {res : Int32 × Ob × Ob × (Nat → Nat × Ob) × Nat} (hg : Ok g) (hf2 : ∀ k, k < 2 → f2 k = some (pa2 k)) (h : f_X7_restoreSnapshot N q1_0 s0 s1 s2 p1 = some res) : Ct g yX7_restoreSnapshot cX7_restoreSnapshot 2 (some .int) (zrm 2 39) [.ref a0, .int p1] (wX7 g a0 r0 s0 ++ wX1 g (r0 3) r1 q1_0 s1 ++ wPs g (r0 7) 2 f2 pa2 pr2 s2) (exR (some (.int res.1)) (wX7 g a0 r0 res.2.1 ++ wX1 g (r0 3) r1 res.2.2.2.2 res.2.2.1 ++ wPs g (r0 7) 2 f2 pa2 pr2 res.2.2.2.1)) := by
  refine ct_of rfl hg (by show _ ≤ _; exact Nat.le_of_ble_eq_true rfl) (fun K C X => ?_)
  show Zs K 0 0 (wX7 g a0 r0 s0 ++ wX1 g (r0 3) r1 q1_0 s1 ++ wPs g (r0 7) 2 f2 pa2 pr2 s2) [(0, .ref a0), (1, .int p1)] 0 []
  unfold f_X7_restoreSnapshot at h
  refine z_aload_n (pc := 0) (x := a0) C dX7_restoreSnapshot_0 (i := 0) rfl rfl ?_
  refine z_iload_n (pc := 1) (x := p1) C dX7_restoreSnapshot_1 (i := 1) rfl rfl ?_
  replace h := ob_e h
  obtain ⟨x1, hx1, h⟩ := h
  refine z_callVT1 (pc := 2) (As := [.int p1]) (rest := []) (wr := (wX1 g (r0 3) r1 q1_0 s1)) C dX7_restoreSnapshot_2 ml_RX7_364 wv_X7_needSlot (m_X7_needSlot (a0 := a0) (r0 := r0) hg hx1) [0, 1, 2, 3] [4, 5, 6, 7, 8, 9, 10, 11, 12] rfl rfl ⟨by decide, by decide⟩ (Nat.le_of_ble_eq_true rfl) ⟨by decide, by decide⟩ rfl rfl rfl rfl rfl rfl rfl (by decide) (ex_kT1 C (cs' := 0) (ss' := 0) (A' := (wX7 g a0 r0 s0 ++ wX1 g (r0 3) r1 q1_0 s1)) [9, 10, 11, 12, 0, 1, 2, 3, 4, 5, 6, 7, 8] rfl rfl ?_)
  refine z_aload_n (pc := 5) (x := a0) C dX7_restoreSnapshot_5 (i := 0) rfl rfl ?_
  refine z_get (pc := 6) (v := .ref (r0 8)) C 0 dX7_restoreSnapshot_6 fl_RX7_31 rfl rfl ?_
  refine z_iload_n (pc := 9) (x := p1) C dX7_restoreSnapshot_9 (i := 1) rfl rfl ?_
  replace h := chk_e h
  obtain ⟨hb2, h⟩ := h
  refine z_zald (pc := 10) C 2 dX7_restoreSnapshot_10 rfl hb2 ?_
  refine z_if_ne (pc := 11) C dX7_restoreSnapshot_11 (tgt := 16) (by decide) (fun hc => ?_) (fun hc => ?_)
  · replace h := (ite_e h).2 hc
    refine z_aload_n (pc := 16) (x := a0) C dX7_restoreSnapshot_16 (i := 0) rfl rfl ?_
    refine z_get (pc := 17) (v := .ref (r0 3)) C 0 dX7_restoreSnapshot_17 fl_RX7_67 rfl rfl ?_
    refine z_aload_n (pc := 20) (x := a0) C dX7_restoreSnapshot_20 (i := 0) rfl rfl ?_
    refine z_get (pc := 21) (v := .ref (r0 7)) C 0 dX7_restoreSnapshot_21 fl_RX7_28 rfl rfl ?_
    refine z_iload_n (pc := 24) (x := p1) C dX7_restoreSnapshot_24 (i := 1) rfl rfl ?_
    replace h := chk_e h
    obtain ⟨hb3, h⟩ := h
    refine z_aald (pc := 25) C 13 dX7_restoreSnapshot_25 rfl hb3 (hf2 _ (of_decide_eq_true hb3).2) ?_
    refine z_pout (of_decide_eq_true hb3).2 ?_
    replace h := ob_e h
    obtain ⟨x4, hx4, h⟩ := h
    refine z_callVT1 (pc := 26) (As := [.ref (pa2 (p1).toNatClampNeg)]) (rest := []) (wr := (wX7 g a0 r0 s0)) C dX7_restoreSnapshot_26 ml_RX7_301 wv_X1_copyFrom (m_X1_copyFrom (a0 := (r0 3)) (a1 := (pa2 (p1).toNatClampNeg)) (r0 := r1) (q0_0 := q1_0) (r1 := (pr2 (p1).toNatClampNeg)) (q1_0 := (s2 (p1).toNatClampNeg).1) hg hx4) [4, 5, 6, 7, 8, 9, 10, 11, 12, 13, 14, 15, 16, 17, 18, 19, 20, 21] [0, 1, 2, 3] rfl rfl ⟨by decide, by decide⟩ (Nat.le_of_ble_eq_true rfl) ⟨by decide, by decide⟩ rfl rfl rfl rfl rfl rfl rfl (by decide) (ex_kT1 C (cs' := 0) (ss' := 0) (A' := (wX7 g a0 r0 s0 ++ wX1 g (r0 3) r1 (s2 (p1).toNatClampNeg).1 x4 ++ wX1 g (pa2 (p1).toNatClampNeg) (pr2 (p1).toNatClampNeg) (s2 (p1).toNatClampNeg).1 (s2 (p1).toNatClampNeg).2)) [0, 1, 2, 3, 4, 5, 6, 7, 8, 9, 10, 11, 12, 13, 14, 15, 16, 17, 18, 19, 20, 21] rfl rfl ?_)
    refine z_pin (q := (s2 (p1).toNatClampNeg).1) (S := (s2 (p1).toNatClampNeg).2) (of_decide_eq_true hb3).2 ?_
    refine z_aload_n (pc := 29) (x := a0) C dX7_restoreSnapshot_29 (i := 0) rfl rfl ?_
    refine z_iconst (pc := 30) C dX7_restoreSnapshot_30 ic_0 ?_
    refine z_put (pc := 31) C 0 dX7_restoreSnapshot_31 fp_RX7_97 rfl rfl rfl (zlt_b rfl) (ws' := (wX7 g a0 r0 (si s0 5 (0 : Int32)) ++ wX1 g (r0 3) r1 (s2 (p1).toNatClampNeg).1 x4 ++ wPs g (r0 7) 2 f2 pa2 pr2 (va_up s2 (p1).toNatClampNeg ((s2 (p1).toNatClampNeg).1, (s2 (p1).toNatClampNeg).2)))) rfl ?_
    refine z_aload_n (pc := 34) (x := a0) C dX7_restoreSnapshot_34 (i := 0) rfl rfl ?_
    refine z_get (pc := 35) (v := .ref (r0 3)) C 0 dX7_restoreSnapshot_35 fl_RX7_67 rfl rfl ?_
    replace h := ob_e h
    obtain ⟨x5, hx5, h⟩ := h
    refine z_callVT1 (pc := 38) (As := []) (rest := []) (wr := (wX7 g a0 r0 (si s0 5 (0 : Int32)))) C dX7_restoreSnapshot_38 ml_RX7_128 wv_X1_score (m_X1_score (a0 := (r0 3)) (r0 := r1) (q0_0 := (s2 (p1).toNatClampNeg).1) hg hx5) [4, 5, 6, 7, 8, 9, 10, 11, 12] [0, 1, 2, 3] rfl rfl ⟨by decide, by decide⟩ (Nat.le_of_ble_eq_true rfl) ⟨by decide, by decide⟩ rfl rfl rfl rfl rfl rfl rfl (by decide) (ex_kT1 C (cs' := 0) (ss' := 0) (A' := (wX7 g a0 r0 (si s0 5 (0 : Int32)) ++ wX1 g (r0 3) r1 (s2 (p1).toNatClampNeg).1 x4)) [0, 1, 2, 3, 4, 5, 6, 7, 8, 9, 10, 11, 12] rfl rfl ?_)
    exact z_iret C X dX7_restoreSnapshot_41 (by rw [← Option.some.inj h]; exact ⟨rfl, rfl⟩) (by decide) (by decide)
  · replace h := (ite_e h).1 hc
    refine z_iconst (pc := 14) C dX7_restoreSnapshot_14 ic_m1 ?_
    exact z_iret C X dX7_restoreSnapshot_15 (by rw [← Option.some.inj h]; exact ⟨rfl, rfl⟩) (by decide) (by decide)
