/-! OWN, written by wip/whole/tools/mkall.py: what each method does to its cells, and the walk that shows it -/
def f_X6_spread_162 (N : Nat) (s2 : Ob) (p1 : Int32) (p2 : Int32) (k2 : Int32 → Ob → Ob → Ob → Option (Ob × Ob × Ob)) (v3 : Int32) (s0 : Ob) (s1 : Ob) (s3 : Ob) : Option (Ob × Ob × Ob) := (ob (f_X6_addBehind N s0 s1 s2 s3 (2 : Int32) (-1 : Int32)) fun x8 => (ob (f_X6_addBehind N x8.1 s1 s2 x8.2 (3 : Int32) (-1 : Int32)) fun x9 => (k2 (v3 + (1 : Int32)) x9.1 s1 x9.2)))
theorem m_X6_spread_162 {K : Kt} {g : Gp} {a0 : Nat} {r0 : Nat → Nat} {r1 : Nat → Nat} {qS : Nat} {r2 : Nat → Nat} {r3 : Nat → Nat} {N : Nat} {s2 : Ob} {p1 : Int32} {p2 : Int32} {res : Ob × Ob × Ob} (hg : Ok g) (C : Cx K g cX6_spread RX6 8 (zrm 4 85)) (X : Rx K (exR none (wX6 g a0 r0 res.1 ++ wX3 g (r0 8) r1 qS res.2.1 ++ wX5 g qS r2 s2 ++ wX3 g (r0 9) r3 qS res.2.2)) 0 0 none) {k2 : Int32 → Ob → Ob → Ob → Option (Ob × Ob × Ob)} (hk2 : ∀ (v3 : Int32) (s0 : Ob) (s1 : Ob) (s3 : Ob), k2 v3 s0 s1 s3 = some res → Zs K 0 0 (wX6 g a0 r0 s0 ++ wX3 g (r0 8) r1 qS s1 ++ wX5 g qS r2 s2 ++ wX3 g (r0 9) r3 qS s3) [(0, .ref a0), (2, .int p2), (3, .int v3)] 2 []) (v3 : Int32) (s0 : Ob) (s1 : Ob) (s3 : Ob) (h : f_X6_spread_162 N s2 p1 p2 k2 v3 s0 s1 s3 = some res) : Zs K 0 0 (wX6 g a0 r0 s0 ++ wX3 g (r0 8) r1 qS s1 ++ wX5 g qS r2 s2 ++ wX3 g (r0 9) r3 qS s3) [(0, .ref a0), (2, .int p2), (3, .int v3)] 162 [] := by
  unfold f_X6_spread_162 at h
  refine z_aload_n (pc := 162) (x := a0) C dX6_spread_162 (i := 0) rfl rfl ?_
  refine z_iconst (pc := 163) C dX6_spread_163 ic_2 ?_
  refine z_iconst (pc := 164) C dX6_spread_164 ic_m1 ?_
  replace h := ob_e h
  obtain ⟨x8, hx8, h⟩ := h
  refine z_callV (pc := 165) (As := [.int (2 : Int32), .int (-1 : Int32)]) (rest := []) (wr := ([] : va_W)) C dX6_spread_165 ml_RX6_147 wv_X6_addBehind (m_X6_addBehind (a0 := a0) (r0 := r0) (r1 := r1) (qS := qS) (r2 := r2) (r3 := r3) hg hx8) [0, 1, 2, 3, 4, 5, 6, 7, 8, 9, 10, 11, 12, 13] [] rfl rfl ⟨by decide, by decide⟩ (Nat.le_of_ble_eq_true rfl) ⟨by decide, by decide⟩ rfl rfl rfl rfl rfl rfl rfl (by decide) (ex_k C (cs' := 0) (ss' := 0) (wF := (wX6 g a0 r0 x8.1 ++ wX3 g (r0 8) r1 qS s1 ++ wX5 g qS r2 s2 ++ wX3 g (r0 9) r3 qS x8.2)) [0, 1, 2, 3, 4, 5, 6, 7, 8, 9, 10, 11, 12, 13] rfl rfl ?_)
  refine z_aload_n (pc := 168) (x := a0) C dX6_spread_168 (i := 0) rfl rfl ?_
  refine z_iconst (pc := 169) C dX6_spread_169 ic_3 ?_
  refine z_iconst (pc := 170) C dX6_spread_170 ic_m1 ?_
  replace h := ob_e h
  obtain ⟨x9, hx9, h⟩ := h
  refine z_callV (pc := 171) (As := [.int (3 : Int32), .int (-1 : Int32)]) (rest := []) (wr := ([] : va_W)) C dX6_spread_171 ml_RX6_147 wv_X6_addBehind (m_X6_addBehind (a0 := a0) (r0 := r0) (r1 := r1) (qS := qS) (r2 := r2) (r3 := r3) hg hx9) [0, 1, 2, 3, 4, 5, 6, 7, 8, 9, 10, 11, 12, 13] [] rfl rfl ⟨by decide, by decide⟩ (Nat.le_of_ble_eq_true rfl) ⟨by decide, by decide⟩ rfl rfl rfl rfl rfl rfl rfl (by decide) (ex_k C (cs' := 0) (ss' := 0) (wF := (wX6 g a0 r0 x9.1 ++ wX3 g (r0 8) r1 qS s1 ++ wX5 g qS r2 s2 ++ wX3 g (r0 9) r3 qS x9.2)) [0, 1, 2, 3, 4, 5, 6, 7, 8, 9, 10, 11, 12, 13] rfl rfl ?_)
  refine z_iinc (pc := 174) C dX6_spread_174 rfl (inc_e 1 (1 : Int32) ic_1 v3) (by decide) (lv' := [(3, .int (v3 + (1 : Int32))), (0, .ref a0), (2, .int p2)]) rfl ?_
  refine z_goto (pc := 177) C dX6_spread_177 (tgt := 2) (by decide) ?_
  refine z_lv (lv' := [(0, .ref a0), (2, .int p2), (3, .int (v3 + (1 : Int32)))]) [1, 2, 0] rfl ?_
  exact hk2 (v3 + (1 : Int32)) x9.1 s1 x9.2 h
def F_X6_spread_107 (N : Nat) (s2 : Ob) (p1 : Int32) (p2 : Int32) (k2 : Int32 → Ob → Ob → Ob → Option (Ob × Ob × Ob)) (k107 : Int32 → Int64 → Int32 → Ob → Ob → Ob → Option (Ob × Ob × Ob)) (v3 : Int32) (v4 : Int64) (v6 : Int32) (s0 : Ob) (s1 : Ob) (s3 : Ob) : Option (Ob × Ob × Ob) := (if (5 : Int32) ≤ v6 then (f_X6_spread_162 N s2 p1 p2 k2 v3 s0 s1 s3) else (if (lg_cmp v4 (0 : Int64)) = 0 then (f_X6_spread_162 N s2 p1 p2 k2 v3 s0 s1 s3) else (ob (f_J13_bitCount_95d88 N ((v4 &&& (-v4)) - (1 : Int64))) fun x10 => (ob (f_X6_addBehind N s0 s1 s2 s3 (0 : Int32) x10) fun x11 => (ob (f_X6_addBehind N x11.1 s1 s2 x11.2 (1 : Int32) x10) fun x12 => (k107 v3 (v4 &&& (v4 - (1 : Int64))) (v6 + (1 : Int32)) x12.1 s1 x12.2))))))
def f_X6_spread_107 (N : Nat) (s2 : Ob) (p1 : Int32) (p2 : Int32) (k2 : Int32 → Ob → Ob → Ob → Option (Ob × Ob × Ob)) : Nat → Int32 → Int64 → Int32 → Ob → Ob → Ob → Option (Ob × Ob × Ob) := zlp (fun _ _ _ _ _ _ => none) (F_X6_spread_107 N s2 p1 p2 k2)
theorem m_X6_spread_107 {K : Kt} {g : Gp} {a0 : Nat} {r0 : Nat → Nat} {r1 : Nat → Nat} {qS : Nat} {r2 : Nat → Nat} {r3 : Nat → Nat} {N : Nat} {s2 : Ob} {p1 : Int32} {p2 : Int32} {res : Ob × Ob × Ob} (hg : Ok g) (C : Cx K g cX6_spread RX6 8 (zrm 4 85)) (X : Rx K (exR none (wX6 g a0 r0 res.1 ++ wX3 g (r0 8) r1 qS res.2.1 ++ wX5 g qS r2 s2 ++ wX3 g (r0 9) r3 qS res.2.2)) 0 0 none) {k2 : Int32 → Ob → Ob → Ob → Option (Ob × Ob × Ob)} (hk2 : ∀ (v3 : Int32) (s0 : Ob) (s1 : Ob) (s3 : Ob), k2 v3 s0 s1 s3 = some res → Zs K 0 0 (wX6 g a0 r0 s0 ++ wX3 g (r0 8) r1 qS s1 ++ wX5 g qS r2 s2 ++ wX3 g (r0 9) r3 qS s3) [(0, .ref a0), (2, .int p2), (3, .int v3)] 2 []) : ∀ (n : Nat) (v3 : Int32) (v4 : Int64) (v6 : Int32) (s0 : Ob) (s1 : Ob) (s3 : Ob), f_X6_spread_107 N s2 p1 p2 k2 n v3 v4 v6 s0 s1 s3 = some res → Zs K 0 0 (wX6 g a0 r0 s0 ++ wX3 g (r0 8) r1 qS s1 ++ wX5 g qS r2 s2 ++ wX3 g (r0 9) r3 qS s3) [(0, .ref a0), (2, .int p2), (3, .int v3), (4, .long v4), (6, .int v6)] 107 [] := by
  intro n
  induction n with
  | zero => intro v3 v4 v6 s0 s1 s3 h; exact nomatch (show (none : Option (Ob × Ob × Ob)) = some res from h)
  | succ n hk107 =>
    intro v3 v4 v6 s0 s1 s3 h
    replace h : F_X6_spread_107 N s2 p1 p2 k2 (f_X6_spread_107 N s2 p1 p2 k2 n) v3 v4 v6 s0 s1 s3 = some res := h
    unfold F_X6_spread_107 at h
    refine z_iload (pc := 107) (x := v6) C dX6_spread_107 rfl ?_
    refine z_iconst (pc := 109) C dX6_spread_109 ic_5 ?_
    refine z_icmp_ge (pc := 110) C dX6_spread_110 (tgt := 162) (by decide) (fun hc => ?_) (fun hc => ?_)
    · replace h := (ite_e h).1 hc
      refine z_lv (lv' := [(0, .ref a0), (2, .int p2), (3, .int v3)]) [0, 1, 2] rfl ?_
      exact m_X6_spread_162 (a0 := a0) (r0 := r0) (r1 := r1) (qS := qS) (r2 := r2) (r3 := r3) hg C X hk2 v3 s0 s1 s3 h
    · replace h := (ite_e h).2 hc
      refine z_lload (pc := 113) (x := v4) C dX6_spread_113 rfl ?_
      refine z_lconst (pc := 115) (v := (0 : Int64)) C dX6_spread_115 rfl ?_
      refine z_lcmp (pc := 116) C dX6_spread_116 ?_
      refine z_if_eq (pc := 117) C dX6_spread_117 (tgt := 162) (by decide) (fun hc => ?_) (fun hc => ?_)
      · replace h := (ite_e h).1 hc
        refine z_lv (lv' := [(0, .ref a0), (2, .int p2), (3, .int v3)]) [0, 1, 2] rfl ?_
        exact m_X6_spread_162 (a0 := a0) (r0 := r0) (r1 := r1) (qS := qS) (r2 := r2) (r3 := r3) hg C X hk2 v3 s0 s1 s3 h
      · replace h := (ite_e h).2 hc
        refine z_lload (pc := 120) (x := v4) C dX6_spread_120 rfl ?_
        refine z_lload (pc := 122) (x := v4) C dX6_spread_122 rfl ?_
        refine z_lneg (pc := 124) C dX6_spread_124 ?_
        refine z_land (pc := 125) C dX6_spread_125 ?_
        refine z_lconst (pc := 126) (v := (1 : Int64)) C dX6_spread_126 rfl ?_
        refine z_lsub (pc := 127) C dX6_spread_127 ?_
        replace h := ob_e h
        obtain ⟨x10, hx10, h⟩ := h
        refine z_callS (pc := 128) (As := [.long ((v4 &&& (-v4)) - (1 : Int64))]) (rest := []) (wr := (wX6 g a0 r0 s0 ++ wX3 g (r0 8) r1 qS s1 ++ wX5 g qS r2 s2 ++ wX3 g (r0 9) r3 qS s3)) C dX6_spread_128 ml_RX6_141 wt_J13_bitCount_95d88 (m_J13_bitCount_95d88 hg hx10) [] [0, 1, 2, 3, 4, 5, 6, 7, 8, 9, 10, 11, 12, 13] rfl rfl ⟨by decide, by decide⟩ (Nat.le_of_ble_eq_true rfl) ⟨by decide, by decide⟩ rfl rfl rfl rfl (by decide) (ex_k C (cs' := 0) (ss' := 0) (wF := (wX6 g a0 r0 s0 ++ wX3 g (r0 8) r1 qS s1 ++ wX5 g qS r2 s2 ++ wX3 g (r0 9) r3 qS s3)) [0, 1, 2, 3, 4, 5, 6, 7, 8, 9, 10, 11, 12, 13] rfl rfl ?_)
        refine z_istore (pc := 131) C dX6_spread_131 (by decide) (lv' := [(7, .int x10), (0, .ref a0), (2, .int p2), (3, .int v3), (4, .long v4), (6, .int v6)]) rfl ?_
        refine z_aload_n (pc := 133) (x := a0) C dX6_spread_133 (i := 0) rfl rfl ?_
        refine z_iconst (pc := 134) C dX6_spread_134 ic_0 ?_
        refine z_iload (pc := 135) (x := x10) C dX6_spread_135 rfl ?_
        replace h := ob_e h
        obtain ⟨x11, hx11, h⟩ := h
        refine z_callV (pc := 137) (As := [.int (0 : Int32), .int x10]) (rest := []) (wr := ([] : va_W)) C dX6_spread_137 ml_RX6_147 wv_X6_addBehind (m_X6_addBehind (a0 := a0) (r0 := r0) (r1 := r1) (qS := qS) (r2 := r2) (r3 := r3) hg hx11) [0, 1, 2, 3, 4, 5, 6, 7, 8, 9, 10, 11, 12, 13] [] rfl rfl ⟨by decide, by decide⟩ (Nat.le_of_ble_eq_true rfl) ⟨by decide, by decide⟩ rfl rfl rfl rfl rfl rfl rfl (by decide) (ex_k C (cs' := 0) (ss' := 0) (wF := (wX6 g a0 r0 x11.1 ++ wX3 g (r0 8) r1 qS s1 ++ wX5 g qS r2 s2 ++ wX3 g (r0 9) r3 qS x11.2)) [0, 1, 2, 3, 4, 5, 6, 7, 8, 9, 10, 11, 12, 13] rfl rfl ?_)
        refine z_aload_n (pc := 140) (x := a0) C dX6_spread_140 (i := 0) rfl rfl ?_
        refine z_iconst (pc := 141) C dX6_spread_141 ic_1 ?_
        refine z_iload (pc := 142) (x := x10) C dX6_spread_142 rfl ?_
        replace h := ob_e h
        obtain ⟨x12, hx12, h⟩ := h
        refine z_callV (pc := 144) (As := [.int (1 : Int32), .int x10]) (rest := []) (wr := ([] : va_W)) C dX6_spread_144 ml_RX6_147 wv_X6_addBehind (m_X6_addBehind (a0 := a0) (r0 := r0) (r1 := r1) (qS := qS) (r2 := r2) (r3 := r3) hg hx12) [0, 1, 2, 3, 4, 5, 6, 7, 8, 9, 10, 11, 12, 13] [] rfl rfl ⟨by decide, by decide⟩ (Nat.le_of_ble_eq_true rfl) ⟨by decide, by decide⟩ rfl rfl rfl rfl rfl rfl rfl (by decide) (ex_k C (cs' := 0) (ss' := 0) (wF := (wX6 g a0 r0 x12.1 ++ wX3 g (r0 8) r1 qS s1 ++ wX5 g qS r2 s2 ++ wX3 g (r0 9) r3 qS x12.2)) [0, 1, 2, 3, 4, 5, 6, 7, 8, 9, 10, 11, 12, 13] rfl rfl ?_)
        refine z_lload (pc := 147) (x := v4) C dX6_spread_147 rfl ?_
        refine z_lload (pc := 149) (x := v4) C dX6_spread_149 rfl ?_
        refine z_lconst (pc := 151) (v := (1 : Int64)) C dX6_spread_151 rfl ?_
        refine z_lsub (pc := 152) C dX6_spread_152 ?_
        refine z_land (pc := 153) C dX6_spread_153 ?_
        refine z_lstore (pc := 154) C dX6_spread_154 (by decide) (lv' := [(4, .long (v4 &&& (v4 - (1 : Int64)))), (7, .int x10), (0, .ref a0), (2, .int p2), (3, .int v3), (6, .int v6)]) rfl ?_
        refine z_iinc (pc := 156) C dX6_spread_156 rfl (inc_e 1 (1 : Int32) ic_1 v6) (by decide) (lv' := [(6, .int (v6 + (1 : Int32))), (4, .long (v4 &&& (v4 - (1 : Int64)))), (7, .int x10), (0, .ref a0), (2, .int p2), (3, .int v3)]) rfl ?_
        refine z_goto (pc := 159) C dX6_spread_159 (tgt := 107) (by decide) ?_
        refine z_lv (lv' := [(0, .ref a0), (2, .int p2), (3, .int v3), (4, .long (v4 &&& (v4 - (1 : Int64)))), (6, .int (v6 + (1 : Int32)))]) [3, 4, 5, 1, 0] rfl ?_
        exact hk107 v3 (v4 &&& (v4 - (1 : Int64))) (v6 + (1 : Int32)) x12.1 s1 x12.2 h
def F_X6_spread_2 (N : Nat) (s2 : Ob) (p1 : Int32) (p2 : Int32)  (k2 : Int32 → Ob → Ob → Ob → Option (Ob × Ob × Ob)) (v3 : Int32) (s0 : Ob) (s1 : Ob) (s3 : Ob) : Option (Ob × Ob × Ob) := (if (s0.1 2) ≤ v3 then (some (s0, s1, s3)) else (if (4000 : Int32) ≤ v3 then (some (s0, s1, s3)) else (if (s0.1 0) = 0 then (if p2 ≤ (s0.1 1) then (some (s0, s1, s3)) else (chk (inb v3 4000) (ob (f_X3_unpack N s1 ((s0.2.2.1 6) (v3).toNatClampNeg)) fun x2 => (chk (decide (¬ (v3 * (4 : Int32)) < 0)) (chk (decide (((v3 * (4 : Int32))).toNatClampNeg + ((4 : Int32)).toNatClampNeg ≤ 16000)) (ob (f_X3_points N (sb x2 1 (va_cpy (s0.2.2.2 5) (x2.2.2.2 1) ((v3 * (4 : Int32))).toNatClampNeg 0 4))) fun x5 => (ob (f_X3_isLast N (sb x2 1 (va_cpy (s0.2.2.2 5) (x2.2.2.2 1) ((v3 * (4 : Int32))).toNatClampNeg 0 4)) s2) fun x6 => (if x6 = 0 then (ob (f_X3_cardsInTurn N (sb x2 1 (va_cpy (s0.2.2.2 5) (x2.2.2.2 1) ((v3 * (4 : Int32))).toNatClampNeg 0 4))) fun x7 => (f_X6_spread_107 N s2 p1 p2 k2 N v3 x7 (0 : Int32) (si s0 1 (if (s0.1 1) < x5 then x5 else (s0.1 1))) (sb x2 1 (va_cpy (s0.2.2.2 5) (x2.2.2.2 1) ((v3 * (4 : Int32))).toNatClampNeg 0 4)) s3)) else (k2 (v3 + (1 : Int32)) (si s0 1 (if (s0.1 1) < x5 then x5 else (s0.1 1))) (sb x2 1 (va_cpy (s0.2.2.2 5) (x2.2.2.2 1) ((v3 * (4 : Int32))).toNatClampNeg 0 4)) s3))))))))) else (some (s0, s1, s3)))))
def f_X6_spread_2 (N : Nat) (s2 : Ob) (p1 : Int32) (p2 : Int32)  : Nat → Int32 → Ob → Ob → Ob → Option (Ob × Ob × Ob) := zlp (fun _ _ _ _ => none) (F_X6_spread_2 N s2 p1 p2)
theorem m_X6_spread_2 {K : Kt} {g : Gp} {a0 : Nat} {r0 : Nat → Nat} {r1 : Nat → Nat} {qS : Nat} {r2 : Nat → Nat} {r3 : Nat → Nat} {N : Nat} {s2 : Ob} {p1 : Int32} {p2 : Int32} {res : Ob × Ob × Ob} (hg : Ok g) (C : Cx K g cX6_spread RX6 8 (zrm 4 85)) (X : Rx K (exR none (wX6 g a0 r0 res.1 ++ wX3 g (r0 8) r1 qS res.2.1 ++ wX5 g qS r2 s2 ++ wX3 g (r0 9) r3 qS res.2.2)) 0 0 none) : ∀ (n : Nat) (v3 : Int32) (s0 : Ob) (s1 : Ob) (s3 : Ob), f_X6_spread_2 N s2 p1 p2 n v3 s0 s1 s3 = some res → Zs K 0 0 (wX6 g a0 r0 s0 ++ wX3 g (r0 8) r1 qS s1 ++ wX5 g qS r2 s2 ++ wX3 g (r0 9) r3 qS s3) [(0, .ref a0), (2, .int p2), (3, .int v3)] 2 [] := by
  intro n
  induction n with
  | zero => intro v3 s0 s1 s3 h; exact nomatch (show (none : Option (Ob × Ob × Ob)) = some res from h)
  | succ n hk2 =>
    intro v3 s0 s1 s3 h
    replace h : F_X6_spread_2 N s2 p1 p2 (f_X6_spread_2 N s2 p1 p2 n) v3 s0 s1 s3 = some res := h
    unfold F_X6_spread_2 at h
    refine z_iload_n (pc := 2) (x := v3) C dX6_spread_2 (i := 3) rfl rfl ?_
    refine z_aload_n (pc := 3) (x := a0) C dX6_spread_3 (i := 0) rfl rfl ?_
    refine z_get (pc := 4) (v := .int (s0.1 2)) C 0 dX6_spread_4 fl_RX6_90 rfl rfl ?_
    refine z_icmp_ge (pc := 7) C dX6_spread_7 (tgt := 180) (by decide) (fun hc => ?_) (fun hc => ?_)
    · replace h := (ite_e h).1 hc
      exact z_vret C X dX6_spread_180 (by rw [← Option.some.inj h]; exact ⟨rfl, rfl⟩) (by decide) (by decide)
    · replace h := (ite_e h).2 hc
      refine z_iload_n (pc := 10) (x := v3) C dX6_spread_10 (i := 3) rfl rfl ?_
      refine z_sipush (pc := 11) C dX6_spread_11 sp_4000 ?_
      refine z_icmp_ge (pc := 14) C dX6_spread_14 (tgt := 180) (by decide) (fun hc => ?_) (fun hc => ?_)
      · replace h := (ite_e h).1 hc
        exact z_vret C X dX6_spread_180 (by rw [← Option.some.inj h]; exact ⟨rfl, rfl⟩) (by decide) (by decide)
      · replace h := (ite_e h).2 hc
        refine z_aload_n (pc := 17) (x := a0) C dX6_spread_17 (i := 0) rfl rfl ?_
        refine z_get (pc := 18) (v := .int (s0.1 0)) C 0 dX6_spread_18 fl_RX6_100 rfl rfl ?_
        refine z_if_ne (pc := 21) C dX6_spread_21 (tgt := 180) (by decide) (fun hc => ?_) (fun hc => ?_)
        · replace h := (ite_e h).2 hc
          exact z_vret C X dX6_spread_180 (by rw [← Option.some.inj h]; exact ⟨rfl, rfl⟩) (by decide) (by decide)
        · replace h := (ite_e h).1 hc
          refine z_aload_n (pc := 24) (x := a0) C dX6_spread_24 (i := 0) rfl rfl ?_
          refine z_get (pc := 25) (v := .int (s0.1 1)) C 0 dX6_spread_25 fl_RX6_61 rfl rfl ?_
          refine z_iload_n (pc := 28) (x := p2) C dX6_spread_28 (i := 2) rfl rfl ?_
          refine z_icmp_ge (pc := 29) C dX6_spread_29 (tgt := 180) (by decide) (fun hc => ?_) (fun hc => ?_)
          · replace h := (ite_e h).1 hc
            exact z_vret C X dX6_spread_180 (by rw [← Option.some.inj h]; exact ⟨rfl, rfl⟩) (by decide) (by decide)
          · replace h := (ite_e h).2 hc
            refine z_aload_n (pc := 32) (x := a0) C dX6_spread_32 (i := 0) rfl rfl ?_
            refine z_get (pc := 33) (v := .ref (r0 8)) C 0 dX6_spread_33 fl_RX6_30 rfl rfl ?_
            refine z_aload_n (pc := 36) (x := a0) C dX6_spread_36 (i := 0) rfl rfl ?_
            refine z_get (pc := 37) (v := .ref (r0 6)) C 0 dX6_spread_37 fl_RX6_15 rfl rfl ?_
            refine z_iload_n (pc := 40) (x := v3) C dX6_spread_40 (i := 3) rfl rfl ?_
            replace h := chk_e h
            obtain ⟨hb1, h⟩ := h
            refine z_iald (pc := 41) C 2 dX6_spread_41 rfl hb1 ?_
            replace h := ob_e h
            obtain ⟨x2, hx2, h⟩ := h
            refine z_callV (pc := 42) (As := [.int ((s0.2.2.1 6) (v3).toNatClampNeg)]) (rest := []) (wr := (wX6 g a0 r0 s0 ++ wX5 g qS r2 s2 ++ wX3 g (r0 9) r3 qS s3)) C dX6_spread_42 ml_RX6_115 wv_X3_unpack (m_X3_unpack (a0 := (r0 8)) (r0 := r1) (q0_0 := qS) hg hx2) [4, 5, 6] [0, 1, 2, 3, 7, 8, 9, 10, 11, 12, 13] rfl rfl ⟨by decide, by decide⟩ (Nat.le_of_ble_eq_true rfl) ⟨by decide, by decide⟩ rfl rfl rfl rfl rfl rfl rfl (by decide) (ex_k C (cs' := 0) (ss' := 0) (wF := (wX6 g a0 r0 s0 ++ wX3 g (r0 8) r1 qS x2 ++ wX5 g qS r2 s2 ++ wX3 g (r0 9) r3 qS s3)) [0, 1, 2, 3, 11, 12, 13, 4, 5, 6, 7, 8, 9, 10] rfl rfl ?_)
            refine z_aload_n (pc := 45) (x := a0) C dX6_spread_45 (i := 0) rfl rfl ?_
            refine z_get (pc := 46) (v := .ref (r0 5)) C 0 dX6_spread_46 fl_RX6_11 rfl rfl ?_
            refine z_iload_n (pc := 49) (x := v3) C dX6_spread_49 (i := 3) rfl rfl ?_
            refine z_iconst (pc := 50) C dX6_spread_50 ic_4 ?_
            refine z_imul (pc := 51) C dX6_spread_51 ?_
            refine z_aload_n (pc := 52) (x := a0) C dX6_spread_52 (i := 0) rfl rfl ?_
            refine z_get (pc := 53) (v := .ref (r0 8)) C 0 dX6_spread_53 fl_RX6_30 rfl rfl ?_
            refine z_get (pc := 56) (v := .ref (r1 1)) C 4 dX6_spread_56 fl_RX6_119 rfl rfl ?_
            refine z_iconst (pc := 59) C dX6_spread_59 ic_0 ?_
            refine z_iconst (pc := 60) C dX6_spread_60 ic_4 ?_
            replace h := chk_e h
            obtain ⟨hb3, h⟩ := h
            replace h := chk_e h
            obtain ⟨hb4, h⟩ := h
            refine z_copyl (pc := 61) C 1 5 dX6_spread_61 wc_RX6_120 rfl rfl (of_decide_eq_true hb3) (by decide) (by decide) (of_decide_eq_true hb4) (by decide) (by decide) (Nat.le_of_ble_eq_true rfl) (ws' := (wX6 g a0 r0 s0 ++ wX3 g (r0 8) r1 qS (sb x2 1 (va_cpy (s0.2.2.2 5) (x2.2.2.2 1) ((v3 * (4 : Int32))).toNatClampNeg 0 4)) ++ wX5 g qS r2 s2 ++ wX3 g (r0 9) r3 qS s3)) rfl ?_
            refine z_aload_n (pc := 64) (x := a0) C dX6_spread_64 (i := 0) rfl rfl ?_
            refine z_aload_n (pc := 65) (x := a0) C dX6_spread_65 (i := 0) rfl rfl ?_
            refine z_get (pc := 66) (v := .int (s0.1 1)) C 0 dX6_spread_66 fl_RX6_61 rfl rfl ?_
            refine z_aload_n (pc := 69) (x := a0) C dX6_spread_69 (i := 0) rfl rfl ?_
            refine z_get (pc := 70) (v := .ref (r0 8)) C 0 dX6_spread_70 fl_RX6_30 rfl rfl ?_
            replace h := ob_e h
            obtain ⟨x5, hx5, h⟩ := h
            refine z_callV (pc := 73) (As := []) (rest := [.int (s0.1 1), .ref a0]) (wr := (wX6 g a0 r0 s0 ++ wX5 g qS r2 s2 ++ wX3 g (r0 9) r3 qS s3)) C dX6_spread_73 ml_RX6_126 wv_X3_points (m_X3_points (a0 := (r0 8)) (r0 := r1) (q0_0 := qS) hg hx5) [4, 5, 6] [0, 1, 2, 3, 7, 8, 9, 10, 11, 12, 13] rfl rfl ⟨by decide, by decide⟩ (Nat.le_of_ble_eq_true rfl) ⟨by decide, by decide⟩ rfl rfl rfl rfl rfl rfl rfl (by decide) (ex_k C (cs' := 0) (ss' := 0) (wF := (wX6 g a0 r0 s0 ++ wX3 g (r0 8) r1 qS (sb x2 1 (va_cpy (s0.2.2.2 5) (x2.2.2.2 1) ((v3 * (4 : Int32))).toNatClampNeg 0 4)) ++ wX5 g qS r2 s2 ++ wX3 g (r0 9) r3 qS s3)) [0, 1, 2, 3, 11, 12, 13, 4, 5, 6, 7, 8, 9, 10] rfl rfl ?_)
            refine z_mmax (pc := 76) C dX6_spread_76 ml_RX6_129 wm_max (by decide) (Nat.le_of_ble_eq_true rfl) (by decide) (by decide) ?_
            refine z_put (pc := 79) C 0 dX6_spread_79 fp_RX6_61 rfl rfl rfl (zlt_b rfl) (ws' := (wX6 g a0 r0 (si s0 1 (if (s0.1 1) < x5 then x5 else (s0.1 1))) ++ wX3 g (r0 8) r1 qS (sb x2 1 (va_cpy (s0.2.2.2 5) (x2.2.2.2 1) ((v3 * (4 : Int32))).toNatClampNeg 0 4)) ++ wX5 g qS r2 s2 ++ wX3 g (r0 9) r3 qS s3)) rfl ?_
            refine z_aload_n (pc := 82) (x := a0) C dX6_spread_82 (i := 0) rfl rfl ?_
            refine z_get (pc := 83) (v := .ref (r0 8)) C 0 dX6_spread_83 fl_RX6_30 rfl rfl ?_
            replace h := ob_e h
            obtain ⟨x6, hx6, h⟩ := h
            refine z_callV (pc := 86) (As := []) (rest := []) (wr := (wX6 g a0 r0 (si s0 1 (if (s0.1 1) < x5 then x5 else (s0.1 1))) ++ wX3 g (r0 9) r3 qS s3)) C dX6_spread_86 ml_RX6_134 wv_X3_isLast (m_X3_isLast (a0 := (r0 8)) (r0 := r1) (q0_0 := qS) (r1 := r2) hg hx6) [4, 5, 6, 7, 8, 9, 10] [0, 1, 2, 3, 11, 12, 13] rfl rfl ⟨by decide, by decide⟩ (Nat.le_of_ble_eq_true rfl) ⟨by decide, by decide⟩ rfl rfl rfl rfl rfl rfl rfl (by decide) (ex_k C (cs' := 0) (ss' := 0) (wF := (wX6 g a0 r0 (si s0 1 (if (s0.1 1) < x5 then x5 else (s0.1 1))) ++ wX3 g (r0 8) r1 qS (sb x2 1 (va_cpy (s0.2.2.2 5) (x2.2.2.2 1) ((v3 * (4 : Int32))).toNatClampNeg 0 4)) ++ wX5 g qS r2 s2 ++ wX3 g (r0 9) r3 qS s3)) [0, 1, 2, 3, 7, 8, 9, 10, 11, 12, 13, 4, 5, 6] rfl rfl ?_)
            refine z_if_eq (pc := 89) C dX6_spread_89 (tgt := 95) (by decide) (fun hc => ?_) (fun hc => ?_)
            · replace h := (ite_e h).1 hc
              refine z_aload_n (pc := 95) (x := a0) C dX6_spread_95 (i := 0) rfl rfl ?_
              refine z_get (pc := 96) (v := .ref (r0 8)) C 0 dX6_spread_96 fl_RX6_30 rfl rfl ?_
              replace h := ob_e h
              obtain ⟨x7, hx7, h⟩ := h
              refine z_callV (pc := 99) (As := []) (rest := []) (wr := (wX6 g a0 r0 (si s0 1 (if (s0.1 1) < x5 then x5 else (s0.1 1))) ++ wX5 g qS r2 s2 ++ wX3 g (r0 9) r3 qS s3)) C dX6_spread_99 ml_RX6_137 wv_X3_cardsInTurn (m_X3_cardsInTurn (a0 := (r0 8)) (r0 := r1) (q0_0 := qS) hg hx7) [4, 5, 6] [0, 1, 2, 3, 7, 8, 9, 10, 11, 12, 13] rfl rfl ⟨by decide, by decide⟩ (Nat.le_of_ble_eq_true rfl) ⟨by decide, by decide⟩ rfl rfl rfl rfl rfl rfl rfl (by decide) (ex_k C (cs' := 0) (ss' := 0) (wF := (wX6 g a0 r0 (si s0 1 (if (s0.1 1) < x5 then x5 else (s0.1 1))) ++ wX3 g (r0 8) r1 qS (sb x2 1 (va_cpy (s0.2.2.2 5) (x2.2.2.2 1) ((v3 * (4 : Int32))).toNatClampNeg 0 4)) ++ wX5 g qS r2 s2 ++ wX3 g (r0 9) r3 qS s3)) [0, 1, 2, 3, 11, 12, 13, 4, 5, 6, 7, 8, 9, 10] rfl rfl ?_)
              refine z_lstore (pc := 102) C dX6_spread_102 (by decide) (lv' := [(4, .long x7), (0, .ref a0), (2, .int p2), (3, .int v3)]) rfl ?_
              refine z_iconst (pc := 104) C dX6_spread_104 ic_0 ?_
              refine z_istore (pc := 105) C dX6_spread_105 (by decide) (lv' := [(6, .int (0 : Int32)), (4, .long x7), (0, .ref a0), (2, .int p2), (3, .int v3)]) rfl ?_
              refine z_lv (lv' := [(0, .ref a0), (2, .int p2), (3, .int v3), (4, .long x7), (6, .int (0 : Int32))]) [2, 3, 4, 1, 0] rfl ?_
              exact m_X6_spread_107 (a0 := a0) (r0 := r0) (r1 := r1) (qS := qS) (r2 := r2) (r3 := r3) hg C X hk2 N v3 x7 (0 : Int32) (si s0 1 (if (s0.1 1) < x5 then x5 else (s0.1 1))) (sb x2 1 (va_cpy (s0.2.2.2 5) (x2.2.2.2 1) ((v3 * (4 : Int32))).toNatClampNeg 0 4)) s3 h
            · replace h := (ite_e h).2 hc
              refine z_goto (pc := 92) C dX6_spread_92 (tgt := 174) (by decide) ?_
              refine z_iinc (pc := 174) C dX6_spread_174 rfl (inc_e 1 (1 : Int32) ic_1 v3) (by decide) (lv' := [(3, .int (v3 + (1 : Int32))), (0, .ref a0), (2, .int p2)]) rfl ?_
              refine z_goto (pc := 177) C dX6_spread_177 (tgt := 2) (by decide) ?_
              refine z_lv (lv' := [(0, .ref a0), (2, .int p2), (3, .int (v3 + (1 : Int32)))]) [1, 2, 0] rfl ?_
              exact hk2 (v3 + (1 : Int32)) (si s0 1 (if (s0.1 1) < x5 then x5 else (s0.1 1))) (sb x2 1 (va_cpy (s0.2.2.2 5) (x2.2.2.2 1) ((v3 * (4 : Int32))).toNatClampNeg 0 4)) s3 h
def f_X6_spread (N : Nat) (s0 : Ob) (s1 : Ob) (s2 : Ob) (s3 : Ob) (p1 : Int32) (p2 : Int32) : Option (Ob × Ob × Ob) := (f_X6_spread_2 N s2 p1 p2 N p1 s0 s1 s3)
theorem m_X6_spread {g : Gp} {a0 : Nat} {r0 : Nat → Nat} {r1 : Nat → Nat} {qS : Nat} {r2 : Nat → Nat} {r3 : Nat → Nat} {N : Nat} {s0 : Ob} {s1 : Ob} {s2 : Ob} {s3 : Ob} {p1 : Int32} {p2 : Int32} {res : Ob × Ob × Ob} (hg : Ok g) (h : f_X6_spread N s0 s1 s2 s3 p1 p2 = some res) : Ct g yX6_spread cX6_spread 8 none (zrm 4 85) [.ref a0, .int p1, .int p2] (wX6 g a0 r0 s0 ++ wX3 g (r0 8) r1 qS s1 ++ wX5 g qS r2 s2 ++ wX3 g (r0 9) r3 qS s3) (exR none (wX6 g a0 r0 res.1 ++ wX3 g (r0 8) r1 qS res.2.1 ++ wX5 g qS r2 s2 ++ wX3 g (r0 9) r3 qS res.2.2)) := by
  refine ct_of rfl hg (by show _ ≤ _; exact Nat.le_of_ble_eq_true rfl) (fun K C X => ?_)
  show Zs K 0 0 (wX6 g a0 r0 s0 ++ wX3 g (r0 8) r1 qS s1 ++ wX5 g qS r2 s2 ++ wX3 g (r0 9) r3 qS s3) [(0, .ref a0), (1, .int p1), (2, .int p2)] 0 []
  unfold f_X6_spread at h
  refine z_iload_n (pc := 0) (x := p1) C dX6_spread_0 (i := 1) rfl rfl ?_
  refine z_istore_n (pc := 1) C dX6_spread_1 (i := 3) rfl (by decide) (lv' := [(3, .int p1), (0, .ref a0), (1, .int p1), (2, .int p2)]) rfl ?_
  refine z_lv (lv' := [(0, .ref a0), (2, .int p2), (3, .int p1)]) [1, 3, 0] rfl ?_
  exact m_X6_spread_2 (a0 := a0) (r0 := r0) (r1 := r1) (qS := qS) (r2 := r2) (r3 := r3) hg C X N p1 s0 s1 s3 h
def f_X6_survey (N : Nat) (s0 : Ob) (s1 : Ob) (s2 : Ob) (s3 : Ob) (s4 : Ob) : Option (Ob × Ob × Ob) := (ob (f_X6_clear N s0 s2 s3) fun x1 => (ob (f_X3_takeFrom N s3 s1) fun x2 => (ob (f_X6_add N x1 x2) fun x3 => (ob (f_X1_isEnded N s1 s4) fun x4 => (if x4 = 0 then (ob (f_X6_spread N x3 s2 s4 x2 (0 : Int32) (1000 : Int32)) fun x5 => (some (x5.1, x5.2.1, x5.2.2))) else (ob (f_X1_score N s1) fun x6 => (some ((si x3 1 x6), s2, x2))))))))
theorem m_X6_survey {g : Gp} {a0 : Nat} {a1 : Nat} {r0 : Nat → Nat} {r1 : Nat → Nat} {q1_0 : Nat} {r2 : Nat → Nat} {q2_0 : Nat} {r3 : Nat → Nat} {q3_0 : Nat} {r4 : Nat → Nat} {N : Nat} {s0 : Ob} {s1 : Ob} {s2 : Ob} {s3 : Ob} {s4 : Ob} {res : Ob × Ob × Ob} (hg : Ok g) (h : f_X6_survey N s0 s1 s2 s3 s4 = some res) : Ct g yX6_survey cX6_survey 2 none (zrm 5 112) [.ref a0, .ref a1] (wX6 g a0 r0 s0 ++ wX1 g a1 r1 q1_0 s1 ++ wX3 g (r0 8) r2 q2_0 s2 ++ wX3 g (r0 9) r3 q3_0 s3 ++ wX5 g q1_0 r4 s4) (exR none (wX6 g a0 r0 res.1 ++ wX1 g a1 r1 q1_0 s1 ++ wX3 g (r0 8) r2 q1_0 res.2.1 ++ wX3 g (r0 9) r3 q1_0 res.2.2 ++ wX5 g q1_0 r4 s4)) := by
  refine ct_of rfl hg (by show _ ≤ _; exact Nat.le_of_ble_eq_true rfl) (fun K C X => ?_)
  show Zs K 0 0 (wX6 g a0 r0 s0 ++ wX1 g a1 r1 q1_0 s1 ++ wX3 g (r0 8) r2 q2_0 s2 ++ wX3 g (r0 9) r3 q3_0 s3 ++ wX5 g q1_0 r4 s4) [(0, .ref a0), (1, .ref a1)] 0 []
  unfold f_X6_survey at h
  refine z_aload_n (pc := 0) (x := a0) C dX6_survey_0 (i := 0) rfl rfl ?_
  refine z_aload_n (pc := 1) (x := a1) C dX6_survey_1 (i := 1) rfl rfl ?_
  refine z_get (pc := 2) (v := .ref q1_0) C 4 dX6_survey_2 fl_RX6_37 rfl rfl ?_
  replace h := ob_e h
  obtain ⟨x1, hx1, h⟩ := h
  refine z_callV (pc := 5) (As := [.ref q1_0]) (rest := []) (wr := (wX1 g a1 r1 q1_0 s1 ++ wX5 g q1_0 r4 s4)) C dX6_survey_5 ml_RX6_43 wv_X6_clear (m_X6_clear (a0 := a0) (a1 := q1_0) (r0 := r0) (r1 := r2) (q1_0 := q2_0) (r2 := r3) (q2_0 := q3_0) hg hx1) [0, 1, 2, 3, 13, 14, 15, 16, 17, 18] [4, 5, 6, 7, 8, 9, 10, 11, 12, 19, 20, 21, 22] rfl rfl ⟨by decide, by decide⟩ (Nat.le_of_ble_eq_true rfl) ⟨by decide, by decide⟩ rfl rfl rfl rfl rfl rfl rfl (by decide) (ex_k C (cs' := 0) (ss' := 0) (wF := (wX6 g a0 r0 x1 ++ wX1 g a1 r1 q1_0 s1 ++ wX3 g (r0 8) r2 q1_0 s2 ++ wX3 g (r0 9) r3 q1_0 s3 ++ wX5 g q1_0 r4 s4)) [13, 14, 15, 16, 0, 1, 2, 3, 4, 5, 6, 7, 8, 17, 18, 19, 20, 21, 22, 9, 10, 11, 12] rfl rfl ?_)
  refine z_aload_n (pc := 8) (x := a0) C dX6_survey_8 (i := 0) rfl rfl ?_
  refine z_get (pc := 9) (v := .ref (r0 9)) C 0 dX6_survey_9 fl_RX6_34 rfl rfl ?_
  refine z_aload_n (pc := 12) (x := a1) C dX6_survey_12 (i := 1) rfl rfl ?_
  replace h := ob_e h
  obtain ⟨x2, hx2, h⟩ := h
  refine z_callV (pc := 13) (As := [.ref a1]) (rest := []) (wr := (wX6 g a0 r0 x1 ++ wX3 g (r0 8) r2 q1_0 s2 ++ wX5 g q1_0 r4 s4)) C dX6_survey_13 ml_RX6_46 wv_X3_takeFrom (m_X3_takeFrom (a0 := (r0 9)) (a1 := a1) (r0 := r3) (q0_0 := q1_0) (r1 := r1) (q1_0 := q1_0) hg hx2) [16, 17, 18, 4, 5, 6, 7, 8, 9, 10, 11, 12] [0, 1, 2, 3, 13, 14, 15, 19, 20, 21, 22] rfl rfl ⟨by decide, by decide⟩ (Nat.le_of_ble_eq_true rfl) ⟨by decide, by decide⟩ rfl rfl rfl rfl rfl rfl rfl (by decide) (ex_k C (cs' := 0) (ss' := 0) (wF := (wX6 g a0 r0 x1 ++ wX1 g a1 r1 q1_0 s1 ++ wX3 g (r0 8) r2 q1_0 s2 ++ wX3 g (r0 9) r3 q1_0 x2 ++ wX5 g q1_0 r4 s4)) [0, 1, 2, 3, 14, 15, 16, 17, 18, 19, 20, 21, 22, 4, 5, 6, 11, 12, 13, 7, 8, 9, 10] rfl rfl ?_)
  refine z_aload_n (pc := 16) (x := a0) C dX6_survey_16 (i := 0) rfl rfl ?_
  replace h := ob_e h
  obtain ⟨x3, hx3, h⟩ := h
  refine z_callV (pc := 17) (As := []) (rest := []) (wr := (wX1 g a1 r1 q1_0 s1 ++ wX3 g (r0 8) r2 q1_0 s2 ++ wX5 g q1_0 r4 s4)) C dX6_survey_17 ml_RX6_50 wv_X6_add (m_X6_add (a0 := a0) (r0 := r0) (r1 := r3) (qS := q1_0) hg hx3) [0, 1, 2, 3, 16, 17, 18] [4, 5, 6, 7, 8, 9, 10, 11, 12, 13, 14, 15, 19, 20, 21, 22] rfl rfl ⟨by decide, by decide⟩ (Nat.le_of_ble_eq_true rfl) ⟨by decide, by decide⟩ rfl rfl rfl rfl rfl rfl rfl (by decide) (ex_k C (cs' := 0) (ss' := 0) (wF := (wX6 g a0 r0 x3 ++ wX1 g a1 r1 q1_0 s1 ++ wX3 g (r0 8) r2 q1_0 s2 ++ wX3 g (r0 9) r3 q1_0 x2 ++ wX5 g q1_0 r4 s4)) [16, 17, 18, 19, 0, 1, 2, 3, 4, 5, 6, 7, 8, 9, 10, 11, 20, 21, 22, 12, 13, 14, 15] rfl rfl ?_)
  refine z_aload_n (pc := 20) (x := a1) C dX6_survey_20 (i := 1) rfl rfl ?_
  replace h := ob_e h
  obtain ⟨x4, hx4, h⟩ := h
  refine z_callV (pc := 21) (As := []) (rest := []) (wr := (wX6 g a0 r0 x3 ++ wX3 g (r0 8) r2 q1_0 s2 ++ wX3 g (r0 9) r3 q1_0 x2)) C dX6_survey_21 ml_RX6_53 wv_X1_isEnded (m_X1_isEnded (a0 := a1) (r0 := r1) (q0_0 := q1_0) (r1 := r4) hg hx4) [4, 5, 6, 7, 8, 9, 10, 11, 12, 19, 20, 21, 22] [0, 1, 2, 3, 13, 14, 15, 16, 17, 18] rfl rfl ⟨by decide, by decide⟩ (Nat.le_of_ble_eq_true rfl) ⟨by decide, by decide⟩ rfl rfl rfl rfl rfl rfl rfl (by decide) (ex_k C (cs' := 0) (ss' := 0) (wF := (wX6 g a0 r0 x3 ++ wX1 g a1 r1 q1_0 s1 ++ wX3 g (r0 8) r2 q1_0 s2 ++ wX3 g (r0 9) r3 q1_0 x2 ++ wX5 g q1_0 r4 s4)) [0, 1, 2, 3, 10, 11, 12, 13, 14, 15, 16, 17, 18, 4, 5, 6, 7, 8, 9, 19, 20, 21, 22] rfl rfl ?_)
  refine z_if_eq (pc := 24) C dX6_survey_24 (tgt := 38) (by decide) (fun hc => ?_) (fun hc => ?_)
  · replace h := (ite_e h).1 hc
    refine z_aload_n (pc := 38) (x := a0) C dX6_survey_38 (i := 0) rfl rfl ?_
    refine z_iconst (pc := 39) C dX6_survey_39 ic_0 ?_
    refine z_sipush (pc := 40) C dX6_survey_40 sp_1000 ?_
    replace h := ob_e h
    obtain ⟨x5, hx5, h⟩ := h
    refine z_callV (pc := 43) (As := [.int (0 : Int32), .int (1000 : Int32)]) (rest := []) (wr := (wX1 g a1 r1 q1_0 s1)) C dX6_survey_43 ml_RX6_65 wv_X6_spread (m_X6_spread (a0 := a0) (r0 := r0) (r1 := r2) (qS := q1_0) (r2 := r4) (r3 := r3) hg hx5) [0, 1, 2, 3, 13, 14, 15, 19, 20, 21, 22, 16, 17, 18] [4, 5, 6, 7, 8, 9, 10, 11, 12] rfl rfl ⟨by decide, by decide⟩ (Nat.le_of_ble_eq_true rfl) ⟨by decide, by decide⟩ rfl rfl rfl rfl rfl rfl rfl (by decide) (ex_k C (cs' := 0) (ss' := 0) (wF := (wX6 g a0 r0 x5.1 ++ wX1 g a1 r1 q1_0 s1 ++ wX3 g (r0 8) r2 q1_0 x5.2.1 ++ wX3 g (r0 9) r3 q1_0 x5.2.2 ++ wX5 g q1_0 r4 s4)) [9, 10, 11, 12, 0, 1, 2, 3, 4, 5, 6, 7, 8, 13, 14, 15, 20, 21, 22, 16, 17, 18, 19] rfl rfl ?_)
    exact z_vret C X dX6_survey_46 (by rw [← Option.some.inj h]; exact ⟨rfl, rfl⟩) (by decide) (by decide)
  · replace h := (ite_e h).2 hc
    refine z_aload_n (pc := 27) (x := a0) C dX6_survey_27 (i := 0) rfl rfl ?_
    refine z_aload_n (pc := 28) (x := a1) C dX6_survey_28 (i := 1) rfl rfl ?_
    replace h := ob_e h
    obtain ⟨x6, hx6, h⟩ := h
    refine z_callV (pc := 29) (As := []) (rest := [.ref a0]) (wr := (wX6 g a0 r0 x3 ++ wX3 g (r0 8) r2 q1_0 s2 ++ wX3 g (r0 9) r3 q1_0 x2 ++ wX5 g q1_0 r4 s4)) C dX6_survey_29 ml_RX6_57 wv_X1_score (m_X1_score (a0 := a1) (r0 := r1) (q0_0 := q1_0) hg hx6) [4, 5, 6, 7, 8, 9, 10, 11, 12] [0, 1, 2, 3, 13, 14, 15, 16, 17, 18, 19, 20, 21, 22] rfl rfl ⟨by decide, by decide⟩ (Nat.le_of_ble_eq_true rfl) ⟨by decide, by decide⟩ rfl rfl rfl rfl rfl rfl rfl (by decide) (ex_k C (cs' := 0) (ss' := 0) (wF := (wX6 g a0 r0 x3 ++ wX1 g a1 r1 q1_0 s1 ++ wX3 g (r0 8) r2 q1_0 s2 ++ wX3 g (r0 9) r3 q1_0 x2 ++ wX5 g q1_0 r4 s4)) [0, 1, 2, 3, 14, 15, 16, 17, 18, 19, 20, 21, 22, 4, 5, 6, 7, 8, 9, 10, 11, 12, 13] rfl rfl ?_)
    refine z_put (pc := 32) C 0 dX6_survey_32 fp_RX6_61 rfl rfl rfl (zlt_b rfl) (ws' := (wX6 g a0 r0 (si x3 1 x6) ++ wX1 g a1 r1 q1_0 s1 ++ wX3 g (r0 8) r2 q1_0 s2 ++ wX3 g (r0 9) r3 q1_0 x2 ++ wX5 g q1_0 r4 s4)) rfl ?_
    refine z_goto (pc := 35) C dX6_survey_35 (tgt := 46) (by decide) ?_
    exact z_vret C X dX6_survey_46 (by rw [← Option.some.inj h]; exact ⟨rfl, rfl⟩) (by decide) (by decide)
def f_X6_step (N : Nat) (s0 : Ob) (s1 : Ob) (s2 : Ob) (s3 : Ob) (p2 : Int32) (p3 : Int32) : Option (Int32 × Ob) := (ob (f_X1_cardAt N s1 (s1.1 4) p3) fun x1 => (ob (f_X3_takeFrom N s2 s1) fun x2 => (ob (f_X3_isSensible N x2 s3 p2 x1) fun x3 => (if x3 = 0 then (some ((0 : Int32), x2)) else (ob (f_X3_move N x2 s3 p2 x1) fun x4 => (some ((1 : Int32), x4)))))))
theorem m_X6_step {g : Gp} {a0 : Nat} {a1 : Nat} {r0 : Nat → Nat} {r1 : Nat → Nat} {q1_0 : Nat} {r2 : Nat → Nat} {q2_0 : Nat} {r3 : Nat → Nat} {N : Nat} {s0 : Ob} {s1 : Ob} {s2 : Ob} {s3 : Ob} {p2 : Int32} {p3 : Int32} {res : Int32 × Ob} (hg : Ok g) (h : f_X6_step N s0 s1 s2 s3 p2 p3 = some res) : Ct g yX6_step cX6_step 5 (some .boolean) (zrm 3 58) [.ref a0, .ref a1, .int p2, .int p3] (wX6 g a0 r0 s0 ++ wX1 g a1 r1 q1_0 s1 ++ wX3 g (r0 9) r2 q2_0 s2 ++ wX5 g q2_0 r3 s3) (exR (some (.int res.1)) (wX6 g a0 r0 s0 ++ wX1 g a1 r1 q1_0 s1 ++ wX3 g (r0 9) r2 q2_0 res.2 ++ wX5 g q2_0 r3 s3)) := by
  refine ct_of rfl hg (by show _ ≤ _; exact Nat.le_of_ble_eq_true rfl) (fun K C X => ?_)
  show Zs K 0 0 (wX6 g a0 r0 s0 ++ wX1 g a1 r1 q1_0 s1 ++ wX3 g (r0 9) r2 q2_0 s2 ++ wX5 g q2_0 r3 s3) [(0, .ref a0), (1, .ref a1), (2, .int p2), (3, .int p3)] 0 []
  unfold f_X6_step at h
  refine z_aload_n (pc := 0) (x := a1) C dX6_step_0 (i := 1) rfl rfl ?_
  refine z_aload_n (pc := 1) (x := a1) C dX6_step_1 (i := 1) rfl rfl ?_
  refine z_get (pc := 2) (v := .int (s1.1 4)) C 4 dX6_step_2 fl_RX6_73 rfl rfl ?_
  refine z_iload_n (pc := 5) (x := p3) C dX6_step_5 (i := 3) rfl rfl ?_
  replace h := ob_e h
  obtain ⟨x1, hx1, h⟩ := h
  refine z_callV (pc := 6) (As := [.int (s1.1 4), .int p3]) (rest := []) (wr := (wX6 g a0 r0 s0 ++ wX3 g (r0 9) r2 q2_0 s2 ++ wX5 g q2_0 r3 s3)) C dX6_step_6 ml_RX6_104 wv_X1_cardAt (m_X1_cardAt (a0 := a1) (r0 := r1) (q0_0 := q1_0) hg hx1) [4, 5, 6, 7, 8, 9, 10, 11, 12] [0, 1, 2, 3, 13, 14, 15, 16, 17, 18, 19] rfl rfl ⟨by decide, by decide⟩ (Nat.le_of_ble_eq_true rfl) ⟨by decide, by decide⟩ rfl rfl rfl rfl rfl rfl rfl (by decide) (ex_k C (cs' := 0) (ss' := 0) (wF := (wX6 g a0 r0 s0 ++ wX1 g a1 r1 q1_0 s1 ++ wX3 g (r0 9) r2 q2_0 s2 ++ wX5 g q2_0 r3 s3)) [0, 1, 2, 3, 11, 12, 13, 14, 15, 16, 17, 18, 19, 4, 5, 6, 7, 8, 9, 10] rfl rfl ?_)
  refine z_istore (pc := 9) C dX6_step_9 (by decide) (lv' := [(4, .int x1), (0, .ref a0), (1, .ref a1), (2, .int p2), (3, .int p3)]) rfl ?_
  refine z_aload_n (pc := 11) (x := a0) C dX6_step_11 (i := 0) rfl rfl ?_
  refine z_get (pc := 12) (v := .ref (r0 9)) C 0 dX6_step_12 fl_RX6_34 rfl rfl ?_
  refine z_aload_n (pc := 15) (x := a1) C dX6_step_15 (i := 1) rfl rfl ?_
  replace h := ob_e h
  obtain ⟨x2, hx2, h⟩ := h
  refine z_callV (pc := 16) (As := [.ref a1]) (rest := []) (wr := (wX6 g a0 r0 s0 ++ wX5 g q2_0 r3 s3)) C dX6_step_16 ml_RX6_46 wv_X3_takeFrom (m_X3_takeFrom (a0 := (r0 9)) (a1 := a1) (r0 := r2) (q0_0 := q2_0) (r1 := r1) (q1_0 := q1_0) hg hx2) [13, 14, 15, 4, 5, 6, 7, 8, 9, 10, 11, 12] [0, 1, 2, 3, 16, 17, 18, 19] rfl rfl ⟨by decide, by decide⟩ (Nat.le_of_ble_eq_true rfl) ⟨by decide, by decide⟩ rfl rfl rfl rfl rfl rfl rfl (by decide) (ex_k C (cs' := 0) (ss' := 0) (wF := (wX6 g a0 r0 s0 ++ wX1 g a1 r1 q1_0 s1 ++ wX3 g (r0 9) r2 q2_0 x2 ++ wX5 g q2_0 r3 s3)) [0, 1, 2, 3, 11, 12, 13, 14, 15, 16, 17, 18, 19, 8, 9, 10, 4, 5, 6, 7] rfl rfl ?_)
  refine z_aload_n (pc := 19) (x := a0) C dX6_step_19 (i := 0) rfl rfl ?_
  refine z_get (pc := 20) (v := .ref (r0 9)) C 0 dX6_step_20 fl_RX6_34 rfl rfl ?_
  refine z_iload_n (pc := 23) (x := p2) C dX6_step_23 (i := 2) rfl rfl ?_
  refine z_iload (pc := 24) (x := x1) C dX6_step_24 rfl ?_
  replace h := ob_e h
  obtain ⟨x3, hx3, h⟩ := h
  refine z_callV (pc := 26) (As := [.int p2, .int x1]) (rest := []) (wr := (wX6 g a0 r0 s0 ++ wX1 g a1 r1 q1_0 s1)) C dX6_step_26 ml_RX6_108 wv_X3_isSensible (m_X3_isSensible (a0 := (r0 9)) (r0 := r2) (q0_0 := q2_0) (r1 := r3) hg hx3) [13, 14, 15, 16, 17, 18, 19] [0, 1, 2, 3, 4, 5, 6, 7, 8, 9, 10, 11, 12] rfl rfl ⟨by decide, by decide⟩ (Nat.le_of_ble_eq_true rfl) ⟨by decide, by decide⟩ rfl rfl rfl rfl rfl rfl rfl (by decide) (ex_k C (cs' := 0) (ss' := 0) (wF := (wX6 g a0 r0 s0 ++ wX1 g a1 r1 q1_0 s1 ++ wX3 g (r0 9) r2 q2_0 x2 ++ wX5 g q2_0 r3 s3)) [0, 1, 2, 3, 4, 5, 6, 7, 8, 9, 10, 11, 12, 13, 14, 15, 16, 17, 18, 19] rfl rfl ?_)
  refine z_if_ne (pc := 29) C dX6_step_29 (tgt := 34) (by decide) (fun hc => ?_) (fun hc => ?_)
  · replace h := (ite_e h).2 hc
    refine z_aload_n (pc := 34) (x := a0) C dX6_step_34 (i := 0) rfl rfl ?_
    refine z_get (pc := 35) (v := .ref (r0 9)) C 0 dX6_step_35 fl_RX6_34 rfl rfl ?_
    refine z_iload_n (pc := 38) (x := p2) C dX6_step_38 (i := 2) rfl rfl ?_
    refine z_iload (pc := 39) (x := x1) C dX6_step_39 rfl ?_
    replace h := ob_e h
    obtain ⟨x4, hx4, h⟩ := h
    refine z_callV (pc := 41) (As := [.int p2, .int x1]) (rest := []) (wr := (wX6 g a0 r0 s0 ++ wX1 g a1 r1 q1_0 s1)) C dX6_step_41 ml_RX6_112 wv_X3_move (m_X3_move (a0 := (r0 9)) (r0 := r2) (q0_0 := q2_0) (r1 := r3) hg hx4) [13, 14, 15, 16, 17, 18, 19] [0, 1, 2, 3, 4, 5, 6, 7, 8, 9, 10, 11, 12] rfl rfl ⟨by decide, by decide⟩ (Nat.le_of_ble_eq_true rfl) ⟨by decide, by decide⟩ rfl rfl rfl rfl rfl rfl rfl (by decide) (ex_k C (cs' := 0) (ss' := 0) (wF := (wX6 g a0 r0 s0 ++ wX1 g a1 r1 q1_0 s1 ++ wX3 g (r0 9) r2 q2_0 x4 ++ wX5 g q2_0 r3 s3)) [0, 1, 2, 3, 4, 5, 6, 7, 8, 9, 10, 11, 12, 13, 14, 15, 16, 17, 18, 19] rfl rfl ?_)
    refine z_iconst (pc := 44) C dX6_step_44 ic_1 ?_
    exact z_zret C X dX6_step_45 rfl (by rw [← Option.some.inj h]; exact ⟨rfl, rfl⟩) (by decide) (by decide)
  · replace h := (ite_e h).1 hc
    refine z_iconst (pc := 32) C dX6_step_32 ic_0 ?_
    exact z_zret C X dX6_step_33 rfl (by rw [← Option.some.inj h]; exact ⟨rfl, rfl⟩) (by decide) (by decide)
def f_X6_surveyBehind (N : Nat) (s0 : Ob) (s1 : Ob) (s2 : Ob) (s3 : Ob) (s4 : Ob) (p2 : Int32) (p3 : Int32) : Option (Int32 × Ob × Ob × Ob) := (ob (f_X6_clear N s0 s2 s3) fun x1 => (ob (f_X6_step N x1 s1 s3 s4 p2 p3) fun x2 => (if x2.1 = 0 then (some ((0 : Int32), x1, s2, x2.2)) else (ob (f_X6_add N x1 x2.2) fun x3 => (ob (f_X6_spread N x3 s2 s4 x2.2 (0 : Int32) (1000 : Int32)) fun x4 => (some ((1 : Int32), x4.1, x4.2.1, x4.2.2)))))))
theorem m_X6_surveyBehind {g : Gp} {a0 : Nat} {a1 : Nat} {r0 : Nat → Nat} {r1 : Nat → Nat} {q1_0 : Nat} {r2 : Nat → Nat} {q2_0 : Nat} {r3 : Nat → Nat} {q3_0 : Nat} {r4 : Nat → Nat} {N : Nat} {s0 : Ob} {s1 : Ob} {s2 : Ob} {s3 : Ob} {s4 : Ob} {p2 : Int32} {p3 : Int32} {res : Int32 × Ob × Ob × Ob} (hg : Ok g) (h : f_X6_surveyBehind N s0 s1 s2 s3 s4 p2 p3 = some res) : Ct g yX6_surveyBehind cX6_surveyBehind 4 (some .boolean) (zrm 5 112) [.ref a0, .ref a1, .int p2, .int p3] (wX6 g a0 r0 s0 ++ wX1 g a1 r1 q1_0 s1 ++ wX3 g (r0 8) r2 q2_0 s2 ++ wX3 g (r0 9) r3 q3_0 s3 ++ wX5 g q1_0 r4 s4) (exR (some (.int res.1)) (wX6 g a0 r0 res.2.1 ++ wX1 g a1 r1 q1_0 s1 ++ wX3 g (r0 8) r2 q1_0 res.2.2.1 ++ wX3 g (r0 9) r3 q1_0 res.2.2.2 ++ wX5 g q1_0 r4 s4)) := by
  refine ct_of rfl hg (by show _ ≤ _; exact Nat.le_of_ble_eq_true rfl) (fun K C X => ?_)
  show Zs K 0 0 (wX6 g a0 r0 s0 ++ wX1 g a1 r1 q1_0 s1 ++ wX3 g (r0 8) r2 q2_0 s2 ++ wX3 g (r0 9) r3 q3_0 s3 ++ wX5 g q1_0 r4 s4) [(0, .ref a0), (1, .ref a1), (2, .int p2), (3, .int p3)] 0 []
  unfold f_X6_surveyBehind at h
  refine z_aload_n (pc := 0) (x := a0) C dX6_surveyBehind_0 (i := 0) rfl rfl ?_
  refine z_aload_n (pc := 1) (x := a1) C dX6_surveyBehind_1 (i := 1) rfl rfl ?_
  refine z_get (pc := 2) (v := .ref q1_0) C 4 dX6_surveyBehind_2 fl_RX6_37 rfl rfl ?_
  replace h := ob_e h
  obtain ⟨x1, hx1, h⟩ := h
  refine z_callV (pc := 5) (As := [.ref q1_0]) (rest := []) (wr := (wX1 g a1 r1 q1_0 s1 ++ wX5 g q1_0 r4 s4)) C dX6_surveyBehind_5 ml_RX6_43 wv_X6_clear (m_X6_clear (a0 := a0) (a1 := q1_0) (r0 := r0) (r1 := r2) (q1_0 := q2_0) (r2 := r3) (q2_0 := q3_0) hg hx1) [0, 1, 2, 3, 13, 14, 15, 16, 17, 18] [4, 5, 6, 7, 8, 9, 10, 11, 12, 19, 20, 21, 22] rfl rfl ⟨by decide, by decide⟩ (Nat.le_of_ble_eq_true rfl) ⟨by decide, by decide⟩ rfl rfl rfl rfl rfl rfl rfl (by decide) (ex_k C (cs' := 0) (ss' := 0) (wF := (wX6 g a0 r0 x1 ++ wX1 g a1 r1 q1_0 s1 ++ wX3 g (r0 8) r2 q1_0 s2 ++ wX3 g (r0 9) r3 q1_0 s3 ++ wX5 g q1_0 r4 s4)) [13, 14, 15, 16, 0, 1, 2, 3, 4, 5, 6, 7, 8, 17, 18, 19, 20, 21, 22, 9, 10, 11, 12] rfl rfl ?_)
  refine z_aload_n (pc := 8) (x := a0) C dX6_surveyBehind_8 (i := 0) rfl rfl ?_
  refine z_aload_n (pc := 9) (x := a1) C dX6_surveyBehind_9 (i := 1) rfl rfl ?_
  refine z_iload_n (pc := 10) (x := p2) C dX6_surveyBehind_10 (i := 2) rfl rfl ?_
  refine z_iload_n (pc := 11) (x := p3) C dX6_surveyBehind_11 (i := 3) rfl rfl ?_
  replace h := ob_e h
  obtain ⟨x2, hx2, h⟩ := h
  refine z_callV (pc := 12) (As := [.ref a1, .int p2, .int p3]) (rest := []) (wr := (wX3 g (r0 8) r2 q1_0 s2)) C dX6_surveyBehind_12 ml_RX6_69 wv_X6_step (m_X6_step (a0 := a0) (a1 := a1) (r0 := r0) (r1 := r1) (q1_0 := q1_0) (r2 := r3) (q2_0 := q1_0) (r3 := r4) hg hx2) [0, 1, 2, 3, 4, 5, 6, 7, 8, 9, 10, 11, 12, 16, 17, 18, 19, 20, 21, 22] [13, 14, 15] rfl rfl ⟨by decide, by decide⟩ (Nat.le_of_ble_eq_true rfl) ⟨by decide, by decide⟩ rfl rfl rfl rfl rfl rfl rfl (by decide) (ex_k C (cs' := 0) (ss' := 0) (wF := (wX6 g a0 r0 x1 ++ wX1 g a1 r1 q1_0 s1 ++ wX3 g (r0 8) r2 q1_0 s2 ++ wX3 g (r0 9) r3 q1_0 x2.2 ++ wX5 g q1_0 r4 s4)) [3, 4, 5, 6, 7, 8, 9, 10, 11, 12, 13, 14, 15, 0, 1, 2, 16, 17, 18, 19, 20, 21, 22] rfl rfl ?_)
  refine z_if_ne (pc := 15) C dX6_surveyBehind_15 (tgt := 20) (by decide) (fun hc => ?_) (fun hc => ?_)
  · replace h := (ite_e h).2 hc
    refine z_aload_n (pc := 20) (x := a0) C dX6_surveyBehind_20 (i := 0) rfl rfl ?_
    replace h := ob_e h
    obtain ⟨x3, hx3, h⟩ := h
    refine z_callV (pc := 21) (As := []) (rest := []) (wr := (wX1 g a1 r1 q1_0 s1 ++ wX3 g (r0 8) r2 q1_0 s2 ++ wX5 g q1_0 r4 s4)) C dX6_surveyBehind_21 ml_RX6_50 wv_X6_add (m_X6_add (a0 := a0) (r0 := r0) (r1 := r3) (qS := q1_0) hg hx3) [0, 1, 2, 3, 16, 17, 18] [4, 5, 6, 7, 8, 9, 10, 11, 12, 13, 14, 15, 19, 20, 21, 22] rfl rfl ⟨by decide, by decide⟩ (Nat.le_of_ble_eq_true rfl) ⟨by decide, by decide⟩ rfl rfl rfl rfl rfl rfl rfl (by decide) (ex_k C (cs' := 0) (ss' := 0) (wF := (wX6 g a0 r0 x3 ++ wX1 g a1 r1 q1_0 s1 ++ wX3 g (r0 8) r2 q1_0 s2 ++ wX3 g (r0 9) r3 q1_0 x2.2 ++ wX5 g q1_0 r4 s4)) [16, 17, 18, 19, 0, 1, 2, 3, 4, 5, 6, 7, 8, 9, 10, 11, 20, 21, 22, 12, 13, 14, 15] rfl rfl ?_)
    refine z_aload_n (pc := 24) (x := a0) C dX6_surveyBehind_24 (i := 0) rfl rfl ?_
    refine z_iconst (pc := 25) C dX6_surveyBehind_25 ic_0 ?_
    refine z_sipush (pc := 26) C dX6_surveyBehind_26 sp_1000 ?_
    replace h := ob_e h
    obtain ⟨x4, hx4, h⟩ := h
    refine z_callV (pc := 29) (As := [.int (0 : Int32), .int (1000 : Int32)]) (rest := []) (wr := (wX1 g a1 r1 q1_0 s1)) C dX6_surveyBehind_29 ml_RX6_65 wv_X6_spread (m_X6_spread (a0 := a0) (r0 := r0) (r1 := r2) (qS := q1_0) (r2 := r4) (r3 := r3) hg hx4) [0, 1, 2, 3, 13, 14, 15, 19, 20, 21, 22, 16, 17, 18] [4, 5, 6, 7, 8, 9, 10, 11, 12] rfl rfl ⟨by decide, by decide⟩ (Nat.le_of_ble_eq_true rfl) ⟨by decide, by decide⟩ rfl rfl rfl rfl rfl rfl rfl (by decide) (ex_k C (cs' := 0) (ss' := 0) (wF := (wX6 g a0 r0 x4.1 ++ wX1 g a1 r1 q1_0 s1 ++ wX3 g (r0 8) r2 q1_0 x4.2.1 ++ wX3 g (r0 9) r3 q1_0 x4.2.2 ++ wX5 g q1_0 r4 s4)) [9, 10, 11, 12, 0, 1, 2, 3, 4, 5, 6, 7, 8, 13, 14, 15, 20, 21, 22, 16, 17, 18, 19] rfl rfl ?_)
    refine z_iconst (pc := 32) C dX6_surveyBehind_32 ic_1 ?_
    exact z_zret C X dX6_surveyBehind_33 rfl (by rw [← Option.some.inj h]; exact ⟨rfl, rfl⟩) (by decide) (by decide)
  · replace h := (ite_e h).1 hc
    refine z_iconst (pc := 18) C dX6_surveyBehind_18 ic_0 ?_
    exact z_zret C X dX6_surveyBehind_19 rfl (by rw [← Option.some.inj h]; exact ⟨rfl, rfl⟩) (by decide) (by decide)
def f_X6_reaches (N : Nat) (s0 : Ob) (s1 : Ob) (s2 : Ob) (s3 : Ob) (p1 : Int32) : Option (Int32 × Ob × Ob × Ob) := (ob (f_X6_add N s0 s1) fun x1 => (ob (f_X6_spread N x1 s2 s3 s1 (s0.1 2) p1) fun x2 => (if (x2.1.1 1) < p1 then (some ((0 : Int32), x2.1, x2.2.2, x2.2.1)) else (some ((1 : Int32), x2.1, x2.2.2, x2.2.1)))))
theorem m_X6_reaches {g : Gp} {a0 : Nat} {r0 : Nat → Nat} {r1 : Nat → Nat} {qS : Nat} {r2 : Nat → Nat} {r3 : Nat → Nat} {N : Nat} {s0 : Ob} {s1 : Ob} {s2 : Ob} {s3 : Ob} {p1 : Int32} {res : Int32 × Ob × Ob × Ob} (hg : Ok g) (h : f_X6_reaches N s0 s1 s2 s3 p1 = some res) : Ct g yX6_reaches cX6_reaches 3 (some .boolean) (zrm 5 112) [.ref a0, .int p1] (wX6 g a0 r0 s0 ++ wX3 g (r0 9) r1 qS s1 ++ wX3 g (r0 8) r2 qS s2 ++ wX5 g qS r3 s3) (exR (some (.int res.1)) (wX6 g a0 r0 res.2.1 ++ wX3 g (r0 9) r1 qS res.2.2.1 ++ wX3 g (r0 8) r2 qS res.2.2.2 ++ wX5 g qS r3 s3)) := by
  refine ct_of rfl hg (by show _ ≤ _; exact Nat.le_of_ble_eq_true rfl) (fun K C X => ?_)
  show Zs K 0 0 (wX6 g a0 r0 s0 ++ wX3 g (r0 9) r1 qS s1 ++ wX3 g (r0 8) r2 qS s2 ++ wX5 g qS r3 s3) [(0, .ref a0), (1, .int p1)] 0 []
  unfold f_X6_reaches at h
  refine z_aload_n (pc := 0) (x := a0) C dX6_reaches_0 (i := 0) rfl rfl ?_
  refine z_get (pc := 1) (v := .int (s0.1 2)) C 0 dX6_reaches_1 fl_RX6_90 rfl rfl ?_
  refine z_istore_n (pc := 4) C dX6_reaches_4 (i := 2) rfl (by decide) (lv' := [(2, .int (s0.1 2)), (0, .ref a0), (1, .int p1)]) rfl ?_
  refine z_aload_n (pc := 5) (x := a0) C dX6_reaches_5 (i := 0) rfl rfl ?_
  replace h := ob_e h
  obtain ⟨x1, hx1, h⟩ := h
  refine z_callV (pc := 6) (As := []) (rest := []) (wr := (wX3 g (r0 8) r2 qS s2 ++ wX5 g qS r3 s3)) C dX6_reaches_6 ml_RX6_50 wv_X6_add (m_X6_add (a0 := a0) (r0 := r0) (r1 := r1) (qS := qS) hg hx1) [0, 1, 2, 3, 4, 5, 6] [7, 8, 9, 10, 11, 12, 13] rfl rfl ⟨by decide, by decide⟩ (Nat.le_of_ble_eq_true rfl) ⟨by decide, by decide⟩ rfl rfl rfl rfl rfl rfl rfl (by decide) (ex_k C (cs' := 0) (ss' := 0) (wF := (wX6 g a0 r0 x1 ++ wX3 g (r0 9) r1 qS s1 ++ wX3 g (r0 8) r2 qS s2 ++ wX5 g qS r3 s3)) [7, 8, 9, 10, 11, 12, 13, 0, 1, 2, 3, 4, 5, 6] rfl rfl ?_)
  refine z_aload_n (pc := 9) (x := a0) C dX6_reaches_9 (i := 0) rfl rfl ?_
  refine z_iload_n (pc := 10) (x := (s0.1 2)) C dX6_reaches_10 (i := 2) rfl rfl ?_
  refine z_iload_n (pc := 11) (x := p1) C dX6_reaches_11 (i := 1) rfl rfl ?_
  replace h := ob_e h
  obtain ⟨x2, hx2, h⟩ := h
  refine z_callV (pc := 12) (As := [.int (s0.1 2), .int p1]) (rest := []) (wr := ([] : va_W)) C dX6_reaches_12 ml_RX6_65 wv_X6_spread (m_X6_spread (a0 := a0) (r0 := r0) (r1 := r2) (qS := qS) (r2 := r3) (r3 := r1) hg hx2) [0, 1, 2, 3, 7, 8, 9, 10, 11, 12, 13, 4, 5, 6] [] rfl rfl ⟨by decide, by decide⟩ (Nat.le_of_ble_eq_true rfl) ⟨by decide, by decide⟩ rfl rfl rfl rfl rfl rfl rfl (by decide) (ex_k C (cs' := 0) (ss' := 0) (wF := (wX6 g a0 r0 x2.1 ++ wX3 g (r0 9) r1 qS x2.2.2 ++ wX3 g (r0 8) r2 qS x2.2.1 ++ wX5 g qS r3 s3)) [0, 1, 2, 3, 11, 12, 13, 4, 5, 6, 7, 8, 9, 10] rfl rfl ?_)
  refine z_aload_n (pc := 15) (x := a0) C dX6_reaches_15 (i := 0) rfl rfl ?_
  refine z_get (pc := 16) (v := .int (x2.1.1 1)) C 0 dX6_reaches_16 fl_RX6_61 rfl rfl ?_
  refine z_iload_n (pc := 19) (x := p1) C dX6_reaches_19 (i := 1) rfl rfl ?_
  refine z_icmp_lt (pc := 20) C dX6_reaches_20 (tgt := 27) (by decide) (fun hc => ?_) (fun hc => ?_)
  · replace h := (ite_e h).1 hc
    refine z_iconst (pc := 27) C dX6_reaches_27 ic_0 ?_
    exact z_zret C X dX6_reaches_28 rfl (by rw [← Option.some.inj h]; exact ⟨rfl, rfl⟩) (by decide) (by decide)
  · replace h := (ite_e h).2 hc
    refine z_iconst (pc := 23) C dX6_reaches_23 ic_1 ?_
    refine z_goto (pc := 24) C dX6_reaches_24 (tgt := 28) (by decide) ?_
    exact z_zret C X dX6_reaches_28 rfl (by rw [← Option.some.inj h]; exact ⟨rfl, rfl⟩) (by decide) (by decide)
def f_X6_findMove_96 (N : Nat) (s1 : Ob) (s4 : Ob) (p2 : Int32)  (t1 : Int32) (s0 : Ob) (s2 : Ob) (s3 : Ob) : Option (Ob × Ob × Ob) := (some ((si s0 4 t1), s2, s3))
theorem m_X6_findMove_96 {K : Kt} {g : Gp} {a0 : Nat} {a1 : Nat} {r0 : Nat → Nat} {r1 : Nat → Nat} {q1_0 : Nat} {r2 : Nat → Nat} {q2_0 : Nat} {r3 : Nat → Nat} {q3_0 : Nat} {r4 : Nat → Nat} {N : Nat} {s1 : Ob} {s4 : Ob} {p2 : Int32} {res : Ob × Ob × Ob} (hg : Ok g) (C : Cx K g cX6_findMove RX6 7 (zrm 6 134)) (X : Rx K (exR none (wX6 g a0 r0 res.1 ++ wX1 g a1 r1 q1_0 s1 ++ wX3 g (r0 8) r2 q1_0 res.2.1 ++ wX3 g (r0 9) r3 q1_0 res.2.2 ++ wX5 g q1_0 r4 s4)) 0 0 none) (t1 : Int32) (s0 : Ob) (s2 : Ob) (s3 : Ob) (h : f_X6_findMove_96 N s1 s4 p2 t1 s0 s2 s3 = some res) : Zs K 0 0 (wX6 g a0 r0 s0 ++ wX1 g a1 r1 q1_0 s1 ++ wX3 g (r0 8) r2 q1_0 s2 ++ wX3 g (r0 9) r3 q1_0 s3 ++ wX5 g q1_0 r4 s4) [] 96 [.int t1, .ref a0] := by
  unfold f_X6_findMove_96 at h
  refine z_put (pc := 96) C 0 dX6_findMove_96 fp_RX6_87 rfl rfl rfl (zlt_b rfl) (ws' := (wX6 g a0 r0 (si s0 4 t1) ++ wX1 g a1 r1 q1_0 s1 ++ wX3 g (r0 8) r2 q1_0 s2 ++ wX3 g (r0 9) r3 q1_0 s3 ++ wX5 g q1_0 r4 s4)) rfl ?_
  exact z_vret C X dX6_findMove_99 (by rw [← Option.some.inj h]; exact ⟨rfl, rfl⟩) (by decide) (by decide)
def F_X6_findMove_53 (N : Nat) (s1 : Ob) (s4 : Ob) (p2 : Int32) (k10 : Int32 → Ob → Ob → Ob → Option (Ob × Ob × Ob)) (k53 : Int32 → Int32 → Int32 → Int32 → Ob → Ob → Ob → Option (Ob × Ob × Ob)) (v3 : Int32) (v4 : Int32) (v5 : Int32) (v6 : Int32) (s0 : Ob) (s2 : Ob) (s3 : Ob) : Option (Ob × Ob × Ob) := (if v5 ≤ v6 then (k10 (v3 + (1 : Int32)) s0 s2 s3) else (ob (f_X6_step N s0 s1 s3 s4 v3 v6) fun x2 => (if x2.1 = 0 then (k53 v3 v4 v5 (v6 + (1 : Int32)) s0 s2 x2.2) else (ob (f_X6_reaches N s0 x2.2 s2 s4 p2) fun x3 => (if x3.1 = 0 then (k53 v3 v4 v5 (v6 + (1 : Int32)) x3.2.1 x3.2.2.2 x3.2.2.1) else (if v4 = 0 then (f_X6_findMove_96 N s1 s4 p2 (-1 : Int32) (si x3.2.1 3 v3) x3.2.2.2 x3.2.2.1) else (f_X6_findMove_96 N s1 s4 p2 v6 (si x3.2.1 3 v3) x3.2.2.2 x3.2.2.1)))))))
def f_X6_findMove_53 (N : Nat) (s1 : Ob) (s4 : Ob) (p2 : Int32) (k10 : Int32 → Ob → Ob → Ob → Option (Ob × Ob × Ob)) : Nat → Int32 → Int32 → Int32 → Int32 → Ob → Ob → Ob → Option (Ob × Ob × Ob) := zlp (fun _ _ _ _ _ _ _ => none) (F_X6_findMove_53 N s1 s4 p2 k10)
theorem m_X6_findMove_53 {K : Kt} {g : Gp} {a0 : Nat} {a1 : Nat} {r0 : Nat → Nat} {r1 : Nat → Nat} {q1_0 : Nat} {r2 : Nat → Nat} {q2_0 : Nat} {r3 : Nat → Nat} {q3_0 : Nat} {r4 : Nat → Nat} {N : Nat} {s1 : Ob} {s4 : Ob} {p2 : Int32} {res : Ob × Ob × Ob} (hg : Ok g) (C : Cx K g cX6_findMove RX6 7 (zrm 6 134)) (X : Rx K (exR none (wX6 g a0 r0 res.1 ++ wX1 g a1 r1 q1_0 s1 ++ wX3 g (r0 8) r2 q1_0 res.2.1 ++ wX3 g (r0 9) r3 q1_0 res.2.2 ++ wX5 g q1_0 r4 s4)) 0 0 none) {k10 : Int32 → Ob → Ob → Ob → Option (Ob × Ob × Ob)} (hk10 : ∀ (v3 : Int32) (s0 : Ob) (s2 : Ob) (s3 : Ob), k10 v3 s0 s2 s3 = some res → Zs K 0 0 (wX6 g a0 r0 s0 ++ wX1 g a1 r1 q1_0 s1 ++ wX3 g (r0 8) r2 q1_0 s2 ++ wX3 g (r0 9) r3 q1_0 s3 ++ wX5 g q1_0 r4 s4) [(0, .ref a0), (1, .ref a1), (2, .int p2), (3, .int v3)] 10 []) : ∀ (n : Nat) (v3 : Int32) (v4 : Int32) (v5 : Int32) (v6 : Int32) (s0 : Ob) (s2 : Ob) (s3 : Ob), f_X6_findMove_53 N s1 s4 p2 k10 n v3 v4 v5 v6 s0 s2 s3 = some res → Zs K 0 0 (wX6 g a0 r0 s0 ++ wX1 g a1 r1 q1_0 s1 ++ wX3 g (r0 8) r2 q1_0 s2 ++ wX3 g (r0 9) r3 q1_0 s3 ++ wX5 g q1_0 r4 s4) [(0, .ref a0), (1, .ref a1), (2, .int p2), (3, .int v3), (4, .int v4), (5, .int v5), (6, .int v6)] 53 [] := by
  intro n
  induction n with
  | zero => intro v3 v4 v5 v6 s0 s2 s3 h; exact nomatch (show (none : Option (Ob × Ob × Ob)) = some res from h)
  | succ n hk53 =>
    intro v3 v4 v5 v6 s0 s2 s3 h
    replace h : F_X6_findMove_53 N s1 s4 p2 k10 (f_X6_findMove_53 N s1 s4 p2 k10 n) v3 v4 v5 v6 s0 s2 s3 = some res := h
    unfold F_X6_findMove_53 at h
    refine z_iload (pc := 53) (x := v6) C dX6_findMove_53 rfl ?_
    refine z_iload (pc := 55) (x := v5) C dX6_findMove_55 rfl ?_
    refine z_icmp_ge (pc := 57) C dX6_findMove_57 (tgt := 106) (by decide) (fun hc => ?_) (fun hc => ?_)
    · replace h := (ite_e h).1 hc
      refine z_iinc (pc := 106) C dX6_findMove_106 rfl (inc_e 1 (1 : Int32) ic_1 v3) (by decide) (lv' := [(3, .int (v3 + (1 : Int32))), (0, .ref a0), (1, .ref a1), (2, .int p2), (4, .int v4), (5, .int v5), (6, .int v6)]) rfl ?_
      refine z_goto (pc := 109) C dX6_findMove_109 (tgt := 10) (by decide) ?_
      refine z_lv (lv' := [(0, .ref a0), (1, .ref a1), (2, .int p2), (3, .int (v3 + (1 : Int32)))]) [1, 2, 3, 0] rfl ?_
      exact hk10 (v3 + (1 : Int32)) s0 s2 s3 h
    · replace h := (ite_e h).2 hc
      refine z_aload_n (pc := 60) (x := a0) C dX6_findMove_60 (i := 0) rfl rfl ?_
      refine z_aload_n (pc := 61) (x := a1) C dX6_findMove_61 (i := 1) rfl rfl ?_
      refine z_iload_n (pc := 62) (x := v3) C dX6_findMove_62 (i := 3) rfl rfl ?_
      refine z_iload (pc := 63) (x := v6) C dX6_findMove_63 rfl ?_
      replace h := ob_e h
      obtain ⟨x2, hx2, h⟩ := h
      refine z_callV (pc := 65) (As := [.ref a1, .int v3, .int v6]) (rest := []) (wr := (wX3 g (r0 8) r2 q1_0 s2)) C dX6_findMove_65 ml_RX6_69 wv_X6_step (m_X6_step (a0 := a0) (a1 := a1) (r0 := r0) (r1 := r1) (q1_0 := q1_0) (r2 := r3) (q2_0 := q1_0) (r3 := r4) hg hx2) [0, 1, 2, 3, 4, 5, 6, 7, 8, 9, 10, 11, 12, 16, 17, 18, 19, 20, 21, 22] [13, 14, 15] rfl rfl ⟨by decide, by decide⟩ (Nat.le_of_ble_eq_true rfl) ⟨by decide, by decide⟩ rfl rfl rfl rfl rfl rfl rfl (by decide) (ex_k C (cs' := 0) (ss' := 0) (wF := (wX6 g a0 r0 s0 ++ wX1 g a1 r1 q1_0 s1 ++ wX3 g (r0 8) r2 q1_0 s2 ++ wX3 g (r0 9) r3 q1_0 x2.2 ++ wX5 g q1_0 r4 s4)) [3, 4, 5, 6, 7, 8, 9, 10, 11, 12, 13, 14, 15, 0, 1, 2, 16, 17, 18, 19, 20, 21, 22] rfl rfl ?_)
      refine z_if_eq (pc := 68) C dX6_findMove_68 (tgt := 100) (by decide) (fun hc => ?_) (fun hc => ?_)
      · replace h := (ite_e h).1 hc
        refine z_iinc (pc := 100) C dX6_findMove_100 rfl (inc_e 1 (1 : Int32) ic_1 v6) (by decide) (lv' := [(6, .int (v6 + (1 : Int32))), (0, .ref a0), (1, .ref a1), (2, .int p2), (3, .int v3), (4, .int v4), (5, .int v5)]) rfl ?_
        refine z_goto (pc := 103) C dX6_findMove_103 (tgt := 53) (by decide) ?_
        refine z_lv (lv' := [(0, .ref a0), (1, .ref a1), (2, .int p2), (3, .int v3), (4, .int v4), (5, .int v5), (6, .int (v6 + (1 : Int32)))]) [1, 2, 3, 4, 5, 6, 0] rfl ?_
        exact hk53 v3 v4 v5 (v6 + (1 : Int32)) s0 s2 x2.2 h
      · replace h := (ite_e h).2 hc
        refine z_aload_n (pc := 71) (x := a0) C dX6_findMove_71 (i := 0) rfl rfl ?_
        refine z_iload_n (pc := 72) (x := p2) C dX6_findMove_72 (i := 2) rfl rfl ?_
        replace h := ob_e h
        obtain ⟨x3, hx3, h⟩ := h
        refine z_callV (pc := 73) (As := [.int p2]) (rest := []) (wr := (wX1 g a1 r1 q1_0 s1)) C dX6_findMove_73 ml_RX6_80 wv_X6_reaches (m_X6_reaches (a0 := a0) (r0 := r0) (r1 := r3) (qS := q1_0) (r2 := r2) (r3 := r4) hg hx3) [0, 1, 2, 3, 16, 17, 18, 13, 14, 15, 19, 20, 21, 22] [4, 5, 6, 7, 8, 9, 10, 11, 12] rfl rfl ⟨by decide, by decide⟩ (Nat.le_of_ble_eq_true rfl) ⟨by decide, by decide⟩ rfl rfl rfl rfl rfl rfl rfl (by decide) (ex_k C (cs' := 0) (ss' := 0) (wF := (wX6 g a0 r0 x3.2.1 ++ wX1 g a1 r1 q1_0 s1 ++ wX3 g (r0 8) r2 q1_0 x3.2.2.2 ++ wX3 g (r0 9) r3 q1_0 x3.2.2.1 ++ wX5 g q1_0 r4 s4)) [9, 10, 11, 12, 0, 1, 2, 3, 4, 5, 6, 7, 8, 16, 17, 18, 13, 14, 15, 19, 20, 21, 22] rfl rfl ?_)
        refine z_if_eq (pc := 76) C dX6_findMove_76 (tgt := 100) (by decide) (fun hc => ?_) (fun hc => ?_)
        · replace h := (ite_e h).1 hc
          refine z_iinc (pc := 100) C dX6_findMove_100 rfl (inc_e 1 (1 : Int32) ic_1 v6) (by decide) (lv' := [(6, .int (v6 + (1 : Int32))), (0, .ref a0), (1, .ref a1), (2, .int p2), (3, .int v3), (4, .int v4), (5, .int v5)]) rfl ?_
          refine z_goto (pc := 103) C dX6_findMove_103 (tgt := 53) (by decide) ?_
          refine z_lv (lv' := [(0, .ref a0), (1, .ref a1), (2, .int p2), (3, .int v3), (4, .int v4), (5, .int v5), (6, .int (v6 + (1 : Int32)))]) [1, 2, 3, 4, 5, 6, 0] rfl ?_
          exact hk53 v3 v4 v5 (v6 + (1 : Int32)) x3.2.1 x3.2.2.2 x3.2.2.1 h
        · replace h := (ite_e h).2 hc
          refine z_aload_n (pc := 79) (x := a0) C dX6_findMove_79 (i := 0) rfl rfl ?_
          refine z_iload_n (pc := 80) (x := v3) C dX6_findMove_80 (i := 3) rfl rfl ?_
          refine z_put (pc := 81) C 0 dX6_findMove_81 fp_RX6_84 rfl rfl rfl (zlt_b rfl) (ws' := (wX6 g a0 r0 (si x3.2.1 3 v3) ++ wX1 g a1 r1 q1_0 s1 ++ wX3 g (r0 8) r2 q1_0 x3.2.2.2 ++ wX3 g (r0 9) r3 q1_0 x3.2.2.1 ++ wX5 g q1_0 r4 s4)) rfl ?_
          refine z_aload_n (pc := 84) (x := a0) C dX6_findMove_84 (i := 0) rfl rfl ?_
          refine z_iload (pc := 85) (x := v4) C dX6_findMove_85 rfl ?_
          refine z_if_eq (pc := 87) C dX6_findMove_87 (tgt := 95) (by decide) (fun hc => ?_) (fun hc => ?_)
          · replace h := (ite_e h).1 hc
            refine z_iconst (pc := 95) C dX6_findMove_95 ic_m1 ?_
            refine z_lv (lv' := []) [] rfl ?_
            exact m_X6_findMove_96 (a0 := a0) (a1 := a1) (r0 := r0) (r1 := r1) (q1_0 := q1_0) (r2 := r2) (q2_0 := q2_0) (r3 := r3) (q3_0 := q3_0) (r4 := r4) hg C X (-1 : Int32) (si x3.2.1 3 v3) x3.2.2.2 x3.2.2.1 h
          · replace h := (ite_e h).2 hc
            refine z_iload (pc := 90) (x := v6) C dX6_findMove_90 rfl ?_
            refine z_goto (pc := 92) C dX6_findMove_92 (tgt := 96) (by decide) ?_
            refine z_lv (lv' := []) [] rfl ?_
            exact m_X6_findMove_96 (a0 := a0) (a1 := a1) (r0 := r0) (r1 := r1) (q1_0 := q1_0) (r2 := r2) (q2_0 := q2_0) (r3 := r3) (q3_0 := q3_0) (r4 := r4) hg C X v6 (si x3.2.1 3 v3) x3.2.2.2 x3.2.2.1 h
def f_X6_findMove_29 (N : Nat) (s1 : Ob) (s4 : Ob) (p2 : Int32) (k10 : Int32 → Ob → Ob → Ob → Option (Ob × Ob × Ob)) (v3 : Int32) (t0 : Int32) (s0 : Ob) (s2 : Ob) (s3 : Ob) : Option (Ob × Ob × Ob) := (if t0 = 0 then (f_X6_findMove_53 N s1 s4 p2 k10 N v3 t0 (1 : Int32) (0 : Int32) s0 s2 s3) else (ob (f_X1_sizeOf N s1 (s1.1 4)) fun x4 => (f_X6_findMove_53 N s1 s4 p2 k10 N v3 t0 x4 (0 : Int32) s0 s2 s3)))
theorem m_X6_findMove_29 {K : Kt} {g : Gp} {a0 : Nat} {a1 : Nat} {r0 : Nat → Nat} {r1 : Nat → Nat} {q1_0 : Nat} {r2 : Nat → Nat} {q2_0 : Nat} {r3 : Nat → Nat} {q3_0 : Nat} {r4 : Nat → Nat} {N : Nat} {s1 : Ob} {s4 : Ob} {p2 : Int32} {res : Ob × Ob × Ob} (hg : Ok g) (C : Cx K g cX6_findMove RX6 7 (zrm 6 134)) (X : Rx K (exR none (wX6 g a0 r0 res.1 ++ wX1 g a1 r1 q1_0 s1 ++ wX3 g (r0 8) r2 q1_0 res.2.1 ++ wX3 g (r0 9) r3 q1_0 res.2.2 ++ wX5 g q1_0 r4 s4)) 0 0 none) {k10 : Int32 → Ob → Ob → Ob → Option (Ob × Ob × Ob)} (hk10 : ∀ (v3 : Int32) (s0 : Ob) (s2 : Ob) (s3 : Ob), k10 v3 s0 s2 s3 = some res → Zs K 0 0 (wX6 g a0 r0 s0 ++ wX1 g a1 r1 q1_0 s1 ++ wX3 g (r0 8) r2 q1_0 s2 ++ wX3 g (r0 9) r3 q1_0 s3 ++ wX5 g q1_0 r4 s4) [(0, .ref a0), (1, .ref a1), (2, .int p2), (3, .int v3)] 10 []) (v3 : Int32) (t0 : Int32) (s0 : Ob) (s2 : Ob) (s3 : Ob) (h : f_X6_findMove_29 N s1 s4 p2 k10 v3 t0 s0 s2 s3 = some res) : Zs K 0 0 (wX6 g a0 r0 s0 ++ wX1 g a1 r1 q1_0 s1 ++ wX3 g (r0 8) r2 q1_0 s2 ++ wX3 g (r0 9) r3 q1_0 s3 ++ wX5 g q1_0 r4 s4) [(0, .ref a0), (1, .ref a1), (2, .int p2), (3, .int v3)] 29 [.int t0] := by
  unfold f_X6_findMove_29 at h
  refine z_istore (pc := 29) C dX6_findMove_29 (by decide) (lv' := [(4, .int t0), (0, .ref a0), (1, .ref a1), (2, .int p2), (3, .int v3)]) rfl ?_
  refine z_iload (pc := 31) (x := t0) C dX6_findMove_31 rfl ?_
  refine z_if_eq (pc := 33) C dX6_findMove_33 (tgt := 47) (by decide) (fun hc => ?_) (fun hc => ?_)
  · replace h := (ite_e h).1 hc
    refine z_iconst (pc := 47) C dX6_findMove_47 ic_1 ?_
    refine z_istore (pc := 48) C dX6_findMove_48 (by decide) (lv' := [(5, .int (1 : Int32)), (4, .int t0), (0, .ref a0), (1, .ref a1), (2, .int p2), (3, .int v3)]) rfl ?_
    refine z_iconst (pc := 50) C dX6_findMove_50 ic_0 ?_
    refine z_istore (pc := 51) C dX6_findMove_51 (by decide) (lv' := [(6, .int (0 : Int32)), (5, .int (1 : Int32)), (4, .int t0), (0, .ref a0), (1, .ref a1), (2, .int p2), (3, .int v3)]) rfl ?_
    refine z_lv (lv' := [(0, .ref a0), (1, .ref a1), (2, .int p2), (3, .int v3), (4, .int t0), (5, .int (1 : Int32)), (6, .int (0 : Int32))]) [3, 4, 5, 6, 2, 1, 0] rfl ?_
    exact m_X6_findMove_53 (a0 := a0) (a1 := a1) (r0 := r0) (r1 := r1) (q1_0 := q1_0) (r2 := r2) (q2_0 := q2_0) (r3 := r3) (q3_0 := q3_0) (r4 := r4) hg C X hk10 N v3 t0 (1 : Int32) (0 : Int32) s0 s2 s3 h
  · replace h := (ite_e h).2 hc
    refine z_aload_n (pc := 36) (x := a1) C dX6_findMove_36 (i := 1) rfl rfl ?_
    refine z_aload_n (pc := 37) (x := a1) C dX6_findMove_37 (i := 1) rfl rfl ?_
    refine z_get (pc := 38) (v := .int (s1.1 4)) C 4 dX6_findMove_38 fl_RX6_73 rfl rfl ?_
    replace h := ob_e h
    obtain ⟨x4, hx4, h⟩ := h
    refine z_callV (pc := 41) (As := [.int (s1.1 4)]) (rest := []) (wr := (wX6 g a0 r0 s0 ++ wX3 g (r0 8) r2 q1_0 s2 ++ wX3 g (r0 9) r3 q1_0 s3 ++ wX5 g q1_0 r4 s4)) C dX6_findMove_41 ml_RX6_76 wv_X1_sizeOf (m_X1_sizeOf (a0 := a1) (r0 := r1) (q0_0 := q1_0) hg hx4) [4, 5, 6, 7, 8, 9, 10, 11, 12] [0, 1, 2, 3, 13, 14, 15, 16, 17, 18, 19, 20, 21, 22] rfl rfl ⟨by decide, by decide⟩ (Nat.le_of_ble_eq_true rfl) ⟨by decide, by decide⟩ rfl rfl rfl rfl rfl rfl rfl (by decide) (ex_k C (cs' := 0) (ss' := 0) (wF := (wX6 g a0 r0 s0 ++ wX1 g a1 r1 q1_0 s1 ++ wX3 g (r0 8) r2 q1_0 s2 ++ wX3 g (r0 9) r3 q1_0 s3 ++ wX5 g q1_0 r4 s4)) [0, 1, 2, 3, 14, 15, 16, 17, 18, 19, 20, 21, 22, 4, 5, 6, 7, 8, 9, 10, 11, 12, 13] rfl rfl ?_)
    refine z_goto (pc := 44) C dX6_findMove_44 (tgt := 48) (by decide) ?_
    refine z_istore (pc := 48) C dX6_findMove_48 (by decide) (lv' := [(5, .int x4), (4, .int t0), (0, .ref a0), (1, .ref a1), (2, .int p2), (3, .int v3)]) rfl ?_
    refine z_iconst (pc := 50) C dX6_findMove_50 ic_0 ?_
    refine z_istore (pc := 51) C dX6_findMove_51 (by decide) (lv' := [(6, .int (0 : Int32)), (5, .int x4), (4, .int t0), (0, .ref a0), (1, .ref a1), (2, .int p2), (3, .int v3)]) rfl ?_
    refine z_lv (lv' := [(0, .ref a0), (1, .ref a1), (2, .int p2), (3, .int v3), (4, .int t0), (5, .int x4), (6, .int (0 : Int32))]) [3, 4, 5, 6, 2, 1, 0] rfl ?_
    exact m_X6_findMove_53 (a0 := a0) (a1 := a1) (r0 := r0) (r1 := r1) (q1_0 := q1_0) (r2 := r2) (q2_0 := q2_0) (r3 := r3) (q3_0 := q3_0) (r4 := r4) hg C X hk10 N v3 t0 x4 (0 : Int32) s0 s2 s3 h
def f_X6_findMove_24 (N : Nat) (s1 : Ob) (s4 : Ob) (p2 : Int32) (k10 : Int32 → Ob → Ob → Ob → Option (Ob × Ob × Ob)) (v3 : Int32) (s0 : Ob) (s2 : Ob) (s3 : Ob) : Option (Ob × Ob × Ob) := (f_X6_findMove_29 N s1 s4 p2 k10 v3 (1 : Int32) s0 s2 s3)
theorem m_X6_findMove_24 {K : Kt} {g : Gp} {a0 : Nat} {a1 : Nat} {r0 : Nat → Nat} {r1 : Nat → Nat} {q1_0 : Nat} {r2 : Nat → Nat} {q2_0 : Nat} {r3 : Nat → Nat} {q3_0 : Nat} {r4 : Nat → Nat} {N : Nat} {s1 : Ob} {s4 : Ob} {p2 : Int32} {res : Ob × Ob × Ob} (hg : Ok g) (C : Cx K g cX6_findMove RX6 7 (zrm 6 134)) (X : Rx K (exR none (wX6 g a0 r0 res.1 ++ wX1 g a1 r1 q1_0 s1 ++ wX3 g (r0 8) r2 q1_0 res.2.1 ++ wX3 g (r0 9) r3 q1_0 res.2.2 ++ wX5 g q1_0 r4 s4)) 0 0 none) {k10 : Int32 → Ob → Ob → Ob → Option (Ob × Ob × Ob)} (hk10 : ∀ (v3 : Int32) (s0 : Ob) (s2 : Ob) (s3 : Ob), k10 v3 s0 s2 s3 = some res → Zs K 0 0 (wX6 g a0 r0 s0 ++ wX1 g a1 r1 q1_0 s1 ++ wX3 g (r0 8) r2 q1_0 s2 ++ wX3 g (r0 9) r3 q1_0 s3 ++ wX5 g q1_0 r4 s4) [(0, .ref a0), (1, .ref a1), (2, .int p2), (3, .int v3)] 10 []) (v3 : Int32) (s0 : Ob) (s2 : Ob) (s3 : Ob) (h : f_X6_findMove_24 N s1 s4 p2 k10 v3 s0 s2 s3 = some res) : Zs K 0 0 (wX6 g a0 r0 s0 ++ wX1 g a1 r1 q1_0 s1 ++ wX3 g (r0 8) r2 q1_0 s2 ++ wX3 g (r0 9) r3 q1_0 s3 ++ wX5 g q1_0 r4 s4) [(0, .ref a0), (1, .ref a1), (2, .int p2), (3, .int v3)] 24 [] := by
  unfold f_X6_findMove_24 at h
  refine z_iconst (pc := 24) C dX6_findMove_24 ic_1 ?_
  refine z_goto (pc := 25) C dX6_findMove_25 (tgt := 29) (by decide) ?_
  exact m_X6_findMove_29 (a0 := a0) (a1 := a1) (r0 := r0) (r1 := r1) (q1_0 := q1_0) (r2 := r2) (q2_0 := q2_0) (r3 := r3) (q3_0 := q3_0) (r4 := r4) hg C X hk10 v3 (1 : Int32) s0 s2 s3 h
def F_X6_findMove_10 (N : Nat) (s1 : Ob) (s4 : Ob) (p2 : Int32)  (k10 : Int32 → Ob → Ob → Ob → Option (Ob × Ob × Ob)) (v3 : Int32) (s0 : Ob) (s2 : Ob) (s3 : Ob) : Option (Ob × Ob × Ob) := (if (3 : Int32) < v3 then (some (s0, s2, s3)) else (if v3 = 0 then (f_X6_findMove_24 N s1 s4 p2 k10 v3 s0 s2 s3) else (if v3 = (1 : Int32) then (f_X6_findMove_24 N s1 s4 p2 k10 v3 s0 s2 s3) else (f_X6_findMove_29 N s1 s4 p2 k10 v3 (0 : Int32) s0 s2 s3))))
def f_X6_findMove_10 (N : Nat) (s1 : Ob) (s4 : Ob) (p2 : Int32)  : Nat → Int32 → Ob → Ob → Ob → Option (Ob × Ob × Ob) := zlp (fun _ _ _ _ => none) (F_X6_findMove_10 N s1 s4 p2)
theorem m_X6_findMove_10 {K : Kt} {g : Gp} {a0 : Nat} {a1 : Nat} {r0 : Nat → Nat} {r1 : Nat → Nat} {q1_0 : Nat} {r2 : Nat → Nat} {q2_0 : Nat} {r3 : Nat → Nat} {q3_0 : Nat} {r4 : Nat → Nat} {N : Nat} {s1 : Ob} {s4 : Ob} {p2 : Int32} {res : Ob × Ob × Ob} (hg : Ok g) (C : Cx K g cX6_findMove RX6 7 (zrm 6 134)) (X : Rx K (exR none (wX6 g a0 r0 res.1 ++ wX1 g a1 r1 q1_0 s1 ++ wX3 g (r0 8) r2 q1_0 res.2.1 ++ wX3 g (r0 9) r3 q1_0 res.2.2 ++ wX5 g q1_0 r4 s4)) 0 0 none) : ∀ (n : Nat) (v3 : Int32) (s0 : Ob) (s2 : Ob) (s3 : Ob), f_X6_findMove_10 N s1 s4 p2 n v3 s0 s2 s3 = some res → Zs K 0 0 (wX6 g a0 r0 s0 ++ wX1 g a1 r1 q1_0 s1 ++ wX3 g (r0 8) r2 q1_0 s2 ++ wX3 g (r0 9) r3 q1_0 s3 ++ wX5 g q1_0 r4 s4) [(0, .ref a0), (1, .ref a1), (2, .int p2), (3, .int v3)] 10 [] := by
  intro n
  induction n with
  | zero => intro v3 s0 s2 s3 h; exact nomatch (show (none : Option (Ob × Ob × Ob)) = some res from h)
  | succ n hk10 =>
    intro v3 s0 s2 s3 h
    replace h : F_X6_findMove_10 N s1 s4 p2 (f_X6_findMove_10 N s1 s4 p2 n) v3 s0 s2 s3 = some res := h
    unfold F_X6_findMove_10 at h
    refine z_iload_n (pc := 10) (x := v3) C dX6_findMove_10 (i := 3) rfl rfl ?_
    refine z_iconst (pc := 11) C dX6_findMove_11 ic_3 ?_
    refine z_icmp_gt (pc := 12) C dX6_findMove_12 (tgt := 112) (by decide) (fun hc => ?_) (fun hc => ?_)
    · replace h := (ite_e h).1 hc
      exact z_vret C X dX6_findMove_112 (by rw [← Option.some.inj h]; exact ⟨rfl, rfl⟩) (by decide) (by decide)
    · replace h := (ite_e h).2 hc
      refine z_iload_n (pc := 15) (x := v3) C dX6_findMove_15 (i := 3) rfl rfl ?_
      refine z_if_eq (pc := 16) C dX6_findMove_16 (tgt := 24) (by decide) (fun hc => ?_) (fun hc => ?_)
      · replace h := (ite_e h).1 hc
        exact m_X6_findMove_24 (a0 := a0) (a1 := a1) (r0 := r0) (r1 := r1) (q1_0 := q1_0) (r2 := r2) (q2_0 := q2_0) (r3 := r3) (q3_0 := q3_0) (r4 := r4) hg C X hk10 v3 s0 s2 s3 h
      · replace h := (ite_e h).2 hc
        refine z_iload_n (pc := 19) (x := v3) C dX6_findMove_19 (i := 3) rfl rfl ?_
        refine z_iconst (pc := 20) C dX6_findMove_20 ic_1 ?_
        refine z_icmp_ne (pc := 21) C dX6_findMove_21 (tgt := 28) (by decide) (fun hc => ?_) (fun hc => ?_)
        · replace h := (ite_e h).2 hc
          refine z_iconst (pc := 28) C dX6_findMove_28 ic_0 ?_
          exact m_X6_findMove_29 (a0 := a0) (a1 := a1) (r0 := r0) (r1 := r1) (q1_0 := q1_0) (r2 := r2) (q2_0 := q2_0) (r3 := r3) (q3_0 := q3_0) (r4 := r4) hg C X hk10 v3 (0 : Int32) s0 s2 s3 h
        · replace h := (ite_e h).1 hc
          exact m_X6_findMove_24 (a0 := a0) (a1 := a1) (r0 := r0) (r1 := r1) (q1_0 := q1_0) (r2 := r2) (q2_0 := q2_0) (r3 := r3) (q3_0 := q3_0) (r4 := r4) hg C X hk10 v3 s0 s2 s3 h
def f_X6_findMove (N : Nat) (s0 : Ob) (s1 : Ob) (s2 : Ob) (s3 : Ob) (s4 : Ob) (p2 : Int32) : Option (Ob × Ob × Ob) := (ob (f_X6_clear N s0 s2 s3) fun x1 => (f_X6_findMove_10 N s1 s4 p2 N (0 : Int32) x1 s2 s3))
theorem m_X6_findMove {g : Gp} {a0 : Nat} {a1 : Nat} {r0 : Nat → Nat} {r1 : Nat → Nat} {q1_0 : Nat} {r2 : Nat → Nat} {q2_0 : Nat} {r3 : Nat → Nat} {q3_0 : Nat} {r4 : Nat → Nat} {N : Nat} {s0 : Ob} {s1 : Ob} {s2 : Ob} {s3 : Ob} {s4 : Ob} {p2 : Int32} {res : Ob × Ob × Ob} (hg : Ok g) (h : f_X6_findMove N s0 s1 s2 s3 s4 p2 = some res) : Ct g yX6_findMove cX6_findMove 7 none (zrm 6 134) [.ref a0, .ref a1, .int p2] (wX6 g a0 r0 s0 ++ wX1 g a1 r1 q1_0 s1 ++ wX3 g (r0 8) r2 q2_0 s2 ++ wX3 g (r0 9) r3 q3_0 s3 ++ wX5 g q1_0 r4 s4) (exR none (wX6 g a0 r0 res.1 ++ wX1 g a1 r1 q1_0 s1 ++ wX3 g (r0 8) r2 q1_0 res.2.1 ++ wX3 g (r0 9) r3 q1_0 res.2.2 ++ wX5 g q1_0 r4 s4)) := by
  refine ct_of rfl hg (by show _ ≤ _; exact Nat.le_of_ble_eq_true rfl) (fun K C X => ?_)
  show Zs K 0 0 (wX6 g a0 r0 s0 ++ wX1 g a1 r1 q1_0 s1 ++ wX3 g (r0 8) r2 q2_0 s2 ++ wX3 g (r0 9) r3 q3_0 s3 ++ wX5 g q1_0 r4 s4) [(0, .ref a0), (1, .ref a1), (2, .int p2)] 0 []
  unfold f_X6_findMove at h
  refine z_aload_n (pc := 0) (x := a0) C dX6_findMove_0 (i := 0) rfl rfl ?_
  refine z_aload_n (pc := 1) (x := a1) C dX6_findMove_1 (i := 1) rfl rfl ?_
  refine z_get (pc := 2) (v := .ref q1_0) C 4 dX6_findMove_2 fl_RX6_37 rfl rfl ?_
  replace h := ob_e h
  obtain ⟨x1, hx1, h⟩ := h
  refine z_callV (pc := 5) (As := [.ref q1_0]) (rest := []) (wr := (wX1 g a1 r1 q1_0 s1 ++ wX5 g q1_0 r4 s4)) C dX6_findMove_5 ml_RX6_43 wv_X6_clear (m_X6_clear (a0 := a0) (a1 := q1_0) (r0 := r0) (r1 := r2) (q1_0 := q2_0) (r2 := r3) (q2_0 := q3_0) hg hx1) [0, 1, 2, 3, 13, 14, 15, 16, 17, 18] [4, 5, 6, 7, 8, 9, 10, 11, 12, 19, 20, 21, 22] rfl rfl ⟨by decide, by decide⟩ (Nat.le_of_ble_eq_true rfl) ⟨by decide, by decide⟩ rfl rfl rfl rfl rfl rfl rfl (by decide) (ex_k C (cs' := 0) (ss' := 0) (wF := (wX6 g a0 r0 x1 ++ wX1 g a1 r1 q1_0 s1 ++ wX3 g (r0 8) r2 q1_0 s2 ++ wX3 g (r0 9) r3 q1_0 s3 ++ wX5 g q1_0 r4 s4)) [13, 14, 15, 16, 0, 1, 2, 3, 4, 5, 6, 7, 8, 17, 18, 19, 20, 21, 22, 9, 10, 11, 12] rfl rfl ?_)
  refine z_iconst (pc := 8) C dX6_findMove_8 ic_0 ?_
  refine z_istore_n (pc := 9) C dX6_findMove_9 (i := 3) rfl (by decide) (lv' := [(3, .int (0 : Int32)), (0, .ref a0), (1, .ref a1), (2, .int p2)]) rfl ?_
  refine z_lv (lv' := [(0, .ref a0), (1, .ref a1), (2, .int p2), (3, .int (0 : Int32))]) [1, 2, 3, 0] rfl ?_
  exact m_X6_findMove_10 (a0 := a0) (a1 := a1) (r0 := r0) (r1 := r1) (q1_0 := q1_0) (r2 := r2) (q2_0 := q2_0) (r3 := r3) (q3_0 := q3_0) (r4 := r4) hg C X N (0 : Int32) x1 s2 s3 h
def F_X7_append_52 (N : Nat) (p1 : Int64)  (k52 : Int32 → Ob → Option (Int32 × Ob)) (v4 : Int32) (s0 : Ob) : Option (Int32 × Ob) := (if v4 < 0 then (some ((s0.1 1), s0)) else (znm ((p1).toUInt64 >>> ((v4).toInt64.toUInt64 &&& Int64.toUInt64 63)).toInt64 fun x1 => (if ((x1 &&& (255 : Int64))).toInt32 = 0 then (k52 (v4 + (-8 : Int32)) s0) else (if (600 : Int32) ≤ (s0.1 1) then (k52 (v4 + (-8 : Int32)) s0) else (chk (inb (s0.1 1) 600) (znm (sa s0 0 (upd (s0.2.2.1 0) ((s0.1 1)).toNatClampNeg ((x1 &&& (255 : Int64))).toInt32)) fun y3 => (k52 (v4 + (-8 : Int32)) (si y3 1 ((s0.1 1) + (1 : Int32))))))))))
def f_X7_append_52 (N : Nat) (p1 : Int64)  : Nat → Int32 → Ob → Option (Int32 × Ob) := zlp (fun _ _ => none) (F_X7_append_52 N p1)
theorem m_X7_append_52 {K : Kt} {g : Gp} {a0 : Nat} {r0 : Nat → Nat} {N : Nat} {p1 : Int64} {res : Int32 × Ob} (hg : Ok g) (C : Cx K g cX7_append RX7 6 (zrm 0 0)) (X : Rx K (exR (some (.int res.1)) (wX7 g a0 r0 res.2)) 0 0 (some .int)) : ∀ (n : Nat) (v4 : Int32) (s0 : Ob), f_X7_append_52 N p1 n v4 s0 = some res → Zs K 0 0 (wX7 g a0 r0 s0) [(0, .ref a0), (1, .long p1), (4, .int v4)] 52 [] := by
  intro n
  induction n with
  | zero => intro v4 s0 h; exact nomatch (show (none : Option (Int32 × Ob)) = some res from h)
  | succ n hk52 =>
    intro v4 s0 h
    replace h : F_X7_append_52 N p1 (f_X7_append_52 N p1 n) v4 s0 = some res := h
    unfold F_X7_append_52 at h
    refine z_iload (pc := 52) (x := v4) C dX7_append_52 rfl ?_
    refine z_if_lt (pc := 54) C dX7_append_54 (tgt := 110) (by decide) (fun hc => ?_) (fun hc => ?_)
    · replace h := (ite_e h).1 hc
      refine z_aload_n (pc := 110) (x := a0) C dX7_append_110 (i := 0) rfl rfl ?_
      refine z_get (pc := 111) (v := .int (s0.1 1)) C 0 dX7_append_111 fl_RX7_76 rfl rfl ?_
      exact z_iret C X dX7_append_114 (by rw [← Option.some.inj h]; exact ⟨rfl, rfl⟩) (by decide) (by decide)
    · replace h := (ite_e h).2 hc
      refine z_lload_n (pc := 57) (x := p1) C dX7_append_57 (i := 1) rfl rfl ?_
      refine z_iload (pc := 58) (x := v4) C dX7_append_58 rfl ?_
      refine z_lushr (pc := 60) C dX7_append_60 ?_
      replace h := znm_e h
      obtain ⟨x1, hx1, h⟩ := h
      refine z_top2 hx1 ?_
      refine z_ldc2 (pc := 61) C dX7_append_61 kl_RX7_74 ?_
      refine z_land (pc := 64) C dX7_append_64 ?_
      refine z_l2i (pc := 65) C dX7_append_65 ?_
      refine z_istore (pc := 66) C dX7_append_66 (by decide) (lv' := [(5, .int ((x1 &&& (255 : Int64))).toInt32), (0, .ref a0), (1, .long p1), (4, .int v4)]) rfl ?_
      refine z_iload (pc := 68) (x := ((x1 &&& (255 : Int64))).toInt32) C dX7_append_68 rfl ?_
      refine z_if_eq (pc := 70) C dX7_append_70 (tgt := 104) (by decide) (fun hc => ?_) (fun hc => ?_)
      · replace h := (ite_e h).1 hc
        refine z_iinc (pc := 104) C dX7_append_104 rfl (inc_e (-8) (-8 : Int32) (by decide) v4) (by decide) (lv' := [(4, .int (v4 + (-8 : Int32))), (5, .int ((x1 &&& (255 : Int64))).toInt32), (0, .ref a0), (1, .long p1)]) rfl ?_
        refine z_goto (pc := 107) C dX7_append_107 (tgt := 52) (by decide) ?_
        refine z_lv (lv' := [(0, .ref a0), (1, .long p1), (4, .int (v4 + (-8 : Int32)))]) [2, 3, 0] rfl ?_
        exact hk52 (v4 + (-8 : Int32)) s0 h
      · replace h := (ite_e h).2 hc
        refine z_aload_n (pc := 73) (x := a0) C dX7_append_73 (i := 0) rfl rfl ?_
        refine z_get (pc := 74) (v := .int (s0.1 1)) C 0 dX7_append_74 fl_RX7_76 rfl rfl ?_
        refine z_sipush (pc := 77) C dX7_append_77 sp_600 ?_
        refine z_icmp_ge (pc := 80) C dX7_append_80 (tgt := 104) (by decide) (fun hc => ?_) (fun hc => ?_)
        · replace h := (ite_e h).1 hc
          refine z_iinc (pc := 104) C dX7_append_104 rfl (inc_e (-8) (-8 : Int32) (by decide) v4) (by decide) (lv' := [(4, .int (v4 + (-8 : Int32))), (5, .int ((x1 &&& (255 : Int64))).toInt32), (0, .ref a0), (1, .long p1)]) rfl ?_
          refine z_goto (pc := 107) C dX7_append_107 (tgt := 52) (by decide) ?_
          refine z_lv (lv' := [(0, .ref a0), (1, .long p1), (4, .int (v4 + (-8 : Int32)))]) [2, 3, 0] rfl ?_
          exact hk52 (v4 + (-8 : Int32)) s0 h
        · replace h := (ite_e h).2 hc
          refine z_aload_n (pc := 83) (x := a0) C dX7_append_83 (i := 0) rfl rfl ?_
          refine z_get (pc := 84) (v := .ref (r0 0)) C 0 dX7_append_84 fl_RX7_9 rfl rfl ?_
          refine z_aload_n (pc := 87) (x := a0) C dX7_append_87 (i := 0) rfl rfl ?_
          refine z_get (pc := 88) (v := .int (s0.1 1)) C 0 dX7_append_88 fl_RX7_76 rfl rfl ?_
          refine z_iload (pc := 91) (x := ((x1 &&& (255 : Int64))).toInt32) C dX7_append_91 rfl ?_
          replace h := chk_e h
          obtain ⟨hb2, h⟩ := h
          refine z_iast (pc := 93) C 1 dX7_append_93 rfl hb2 (ws' := (wX7 g a0 r0 (sa s0 0 (upd (s0.2.2.1 0) ((s0.1 1)).toNatClampNeg ((x1 &&& (255 : Int64))).toInt32)))) rfl ?_
          refine z_aload_n (pc := 94) (x := a0) C dX7_append_94 (i := 0) rfl rfl ?_
          refine z_dup (pc := 95) C dX7_append_95 rfl ?_
          refine z_get (pc := 96) (v := .int (s0.1 1)) C 0 dX7_append_96 fl_RX7_76 rfl rfl ?_
          refine z_iconst (pc := 99) C dX7_append_99 ic_1 ?_
          refine z_iadd (pc := 100) C dX7_append_100 ?_
          replace h := znm_e h
          obtain ⟨y3, hy3, h⟩ := h
          refine z_wsE (ws' := (wX7 g a0 r0 y3)) (by rw [hy3]) ?_
          refine z_put (pc := 101) C 0 dX7_append_101 fp_RX7_76 rfl rfl rfl (zlt_b rfl) (ws' := (wX7 g a0 r0 (si y3 1 ((s0.1 1) + (1 : Int32))))) rfl ?_
          refine z_iinc (pc := 104) C dX7_append_104 rfl (inc_e (-8) (-8 : Int32) (by decide) v4) (by decide) (lv' := [(4, .int (v4 + (-8 : Int32))), (5, .int ((x1 &&& (255 : Int64))).toInt32), (0, .ref a0), (1, .long p1)]) rfl ?_
          refine z_goto (pc := 107) C dX7_append_107 (tgt := 52) (by decide) ?_
          refine z_lv (lv' := [(0, .ref a0), (1, .long p1), (4, .int (v4 + (-8 : Int32)))]) [2, 3, 0] rfl ?_
          exact hk52 (v4 + (-8 : Int32)) (si y3 1 ((s0.1 1) + (1 : Int32))) h
def F_X7_append_6 (N : Nat) (p1 : Int64)  (k6 : Int32 → Int32 → Ob → Option (Int32 × Ob)) (v3 : Int32) (v4 : Int32) (s0 : Ob) : Option (Int32 × Ob) := (if v4 < 0 then (if ((s0.1 1) + v3) ≤ (600 : Int32) then (f_X7_append_52 N p1 N (56 : Int32) s0) else (some ((-2 : Int32), s0))) else (znm ((p1).toUInt64 >>> ((v4).toInt64.toUInt64 &&& Int64.toUInt64 63)).toInt64 fun x4 => (if (lg_cmp (x4 &&& (255 : Int64)) (0 : Int64)) = 0 then (k6 v3 (v4 + (-8 : Int32)) s0) else (k6 (v3 + (1 : Int32)) (v4 + (-8 : Int32)) s0))))
def f_X7_append_6 (N : Nat) (p1 : Int64)  : Nat → Int32 → Int32 → Ob → Option (Int32 × Ob) := zlp (fun _ _ _ => none) (F_X7_append_6 N p1)
theorem m_X7_append_6 {K : Kt} {g : Gp} {a0 : Nat} {r0 : Nat → Nat} {N : Nat} {p1 : Int64} {res : Int32 × Ob} (hg : Ok g) (C : Cx K g cX7_append RX7 6 (zrm 0 0)) (X : Rx K (exR (some (.int res.1)) (wX7 g a0 r0 res.2)) 0 0 (some .int)) : ∀ (n : Nat) (v3 : Int32) (v4 : Int32) (s0 : Ob), f_X7_append_6 N p1 n v3 v4 s0 = some res → Zs K 0 0 (wX7 g a0 r0 s0) [(0, .ref a0), (1, .long p1), (3, .int v3), (4, .int v4)] 6 [] := by
  intro n
  induction n with
  | zero => intro v3 v4 s0 h; exact nomatch (show (none : Option (Int32 × Ob)) = some res from h)
  | succ n hk6 =>
    intro v3 v4 s0 h
    replace h : F_X7_append_6 N p1 (f_X7_append_6 N p1 n) v3 v4 s0 = some res := h
    unfold F_X7_append_6 at h
    refine z_iload (pc := 6) (x := v4) C dX7_append_6 rfl ?_
    refine z_if_lt (pc := 8) C dX7_append_8 (tgt := 33) (by decide) (fun hc => ?_) (fun hc => ?_)
    · replace h := (ite_e h).1 hc
      refine z_aload_n (pc := 33) (x := a0) C dX7_append_33 (i := 0) rfl rfl ?_
      refine z_get (pc := 34) (v := .int (s0.1 1)) C 0 dX7_append_34 fl_RX7_76 rfl rfl ?_
      refine z_iload_n (pc := 37) (x := v3) C dX7_append_37 (i := 3) rfl rfl ?_
      refine z_iadd (pc := 38) C dX7_append_38 ?_
      refine z_sipush (pc := 39) C dX7_append_39 sp_600 ?_
      refine z_icmp_le (pc := 42) C dX7_append_42 (tgt := 48) (by decide) (fun hc => ?_) (fun hc => ?_)
      · replace h := (ite_e h).1 hc
        refine z_bipush (pc := 48) C dX7_append_48 bp_56 ?_
        refine z_istore (pc := 50) C dX7_append_50 (by decide) (lv' := [(4, .int (56 : Int32)), (0, .ref a0), (1, .long p1), (3, .int v3)]) rfl ?_
        refine z_lv (lv' := [(0, .ref a0), (1, .long p1), (4, .int (56 : Int32))]) [1, 2, 0] rfl ?_
        exact m_X7_append_52 (a0 := a0) (r0 := r0) hg C X N (56 : Int32) s0 h
      · replace h := (ite_e h).2 hc
        refine z_bipush (pc := 45) C dX7_append_45 bp_m2 ?_
        exact z_iret C X dX7_append_47 (by rw [← Option.some.inj h]; exact ⟨rfl, rfl⟩) (by decide) (by decide)
    · replace h := (ite_e h).2 hc
      refine z_lload_n (pc := 11) (x := p1) C dX7_append_11 (i := 1) rfl rfl ?_
      refine z_iload (pc := 12) (x := v4) C dX7_append_12 rfl ?_
      refine z_lushr (pc := 14) C dX7_append_14 ?_
      replace h := znm_e h
      obtain ⟨x4, hx4, h⟩ := h
      refine z_top2 hx4 ?_
      refine z_ldc2 (pc := 15) C dX7_append_15 kl_RX7_74 ?_
      refine z_land (pc := 18) C dX7_append_18 ?_
      refine z_lconst (pc := 19) (v := (0 : Int64)) C dX7_append_19 rfl ?_
      refine z_lcmp (pc := 20) C dX7_append_20 ?_
      refine z_if_eq (pc := 21) C dX7_append_21 (tgt := 27) (by decide) (fun hc => ?_) (fun hc => ?_)
      · replace h := (ite_e h).1 hc
        refine z_iinc (pc := 27) C dX7_append_27 rfl (inc_e (-8) (-8 : Int32) (by decide) v4) (by decide) (lv' := [(4, .int (v4 + (-8 : Int32))), (0, .ref a0), (1, .long p1), (3, .int v3)]) rfl ?_
        refine z_goto (pc := 30) C dX7_append_30 (tgt := 6) (by decide) ?_
        refine z_lv (lv' := [(0, .ref a0), (1, .long p1), (3, .int v3), (4, .int (v4 + (-8 : Int32)))]) [1, 2, 3, 0] rfl ?_
        exact hk6 v3 (v4 + (-8 : Int32)) s0 h
      · replace h := (ite_e h).2 hc
        refine z_iinc (pc := 24) C dX7_append_24 rfl (inc_e 1 (1 : Int32) ic_1 v3) (by decide) (lv' := [(3, .int (v3 + (1 : Int32))), (0, .ref a0), (1, .long p1), (4, .int v4)]) rfl ?_
        refine z_iinc (pc := 27) C dX7_append_27 rfl (inc_e (-8) (-8 : Int32) (by decide) v4) (by decide) (lv' := [(4, .int (v4 + (-8 : Int32))), (3, .int (v3 + (1 : Int32))), (0, .ref a0), (1, .long p1)]) rfl ?_
        refine z_goto (pc := 30) C dX7_append_30 (tgt := 6) (by decide) ?_
        refine z_lv (lv' := [(0, .ref a0), (1, .long p1), (3, .int (v3 + (1 : Int32))), (4, .int (v4 + (-8 : Int32)))]) [2, 3, 1, 0] rfl ?_
        exact hk6 (v3 + (1 : Int32)) (v4 + (-8 : Int32)) s0 h
def f_X7_append (N : Nat) (s0 : Ob) (p1 : Int64) : Option (Int32 × Ob) := (f_X7_append_6 N p1 N (0 : Int32) (56 : Int32) s0)
theorem m_X7_append {g : Gp} {a0 : Nat} {r0 : Nat → Nat} {N : Nat} {s0 : Ob} {p1 : Int64} {res : Int32 × Ob} (hg : Ok g) (h : f_X7_append N s0 p1 = some res) : Ct g yX7_append cX7_append 6 (some .int) (zrm 0 0) [.ref a0, .long p1] (wX7 g a0 r0 s0) (exR (some (.int res.1)) (wX7 g a0 r0 res.2)) := by
  refine ct_of rfl hg (by show _ ≤ _; exact Nat.le_of_ble_eq_true rfl) (fun K C X => ?_)
  show Zs K 0 0 (wX7 g a0 r0 s0) [(0, .ref a0), (1, .long p1)] 0 []
  unfold f_X7_append at h
  refine z_iconst (pc := 0) C dX7_append_0 ic_0 ?_
  refine z_istore_n (pc := 1) C dX7_append_1 (i := 3) rfl (by decide) (lv' := [(3, .int (0 : Int32)), (0, .ref a0), (1, .long p1)]) rfl ?_
  refine z_bipush (pc := 2) C dX7_append_2 bp_56 ?_
  refine z_istore (pc := 4) C dX7_append_4 (by decide) (lv' := [(4, .int (56 : Int32)), (3, .int (0 : Int32)), (0, .ref a0), (1, .long p1)]) rfl ?_
  refine z_lv (lv' := [(0, .ref a0), (1, .long p1), (3, .int (0 : Int32)), (4, .int (56 : Int32))]) [2, 3, 1, 0] rfl ?_
  exact m_X7_append_6 (a0 := a0) (r0 := r0) hg C X N (0 : Int32) (56 : Int32) s0 h
def f_X7_loadError (N : Nat) (s0 : Ob) (s1 : Ob) : Option (Int32) := (some (s1.1 1))
theorem m_X7_loadError {g : Gp} {a0 : Nat} {r0 : Nat → Nat} {r1 : Nat → Nat} {q1_0 : Nat} {N : Nat} {s0 : Ob} {s1 : Ob} {res : Int32} (hg : Ok g) (h : f_X7_loadError N s0 s1 = some res) : Ct g yX7_loadError cX7_loadError 1 (some .int) (zrm 0 0) [.ref a0] (wX7 g a0 r0 s0 ++ wX4 g (r0 2) r1 q1_0 (r0 0) s1) (exR (some (.int res)) (wX7 g a0 r0 s0 ++ wX4 g (r0 2) r1 q1_0 (r0 0) s1)) := by
  refine ct_of rfl hg (by show _ ≤ _; exact Nat.le_of_ble_eq_true rfl) (fun K C X => ?_)
  show Zs K 0 0 (wX7 g a0 r0 s0 ++ wX4 g (r0 2) r1 q1_0 (r0 0) s1) [(0, .ref a0)] 0 []
  unfold f_X7_loadError at h
  refine z_aload_n (pc := 0) (x := a0) C dX7_loadError_0 (i := 0) rfl rfl ?_
  refine z_get (pc := 1) (v := .ref (r0 2)) C 0 dX7_loadError_1 fl_RX7_18 rfl rfl ?_
  refine z_get (pc := 4) (v := .int (s1.1 1)) C 4 dX7_loadError_4 fl_RX7_84 rfl rfl ?_
  exact z_iret C X dX7_loadError_7 (by rw [← Option.some.inj h]; exact ⟨rfl, rfl⟩) (by decide) (by decide)
def f_X7_loadStatement (N : Nat) (s0 : Ob) (s1 : Ob) : Option (Int32) := (some (s1.1 3))
theorem m_X7_loadStatement {g : Gp} {a0 : Nat} {r0 : Nat → Nat} {r1 : Nat → Nat} {q1_0 : Nat} {N : Nat} {s0 : Ob} {s1 : Ob} {res : Int32} (hg : Ok g) (h : f_X7_loadStatement N s0 s1 = some res) : Ct g yX7_loadStatement cX7_loadStatement 1 (some .int) (zrm 0 0) [.ref a0] (wX7 g a0 r0 s0 ++ wX4 g (r0 2) r1 q1_0 (r0 0) s1) (exR (some (.int res)) (wX7 g a0 r0 s0 ++ wX4 g (r0 2) r1 q1_0 (r0 0) s1)) := by
  refine ct_of rfl hg (by show _ ≤ _; exact Nat.le_of_ble_eq_true rfl) (fun K C X => ?_)
  show Zs K 0 0 (wX7 g a0 r0 s0 ++ wX4 g (r0 2) r1 q1_0 (r0 0) s1) [(0, .ref a0)] 0 []
  unfold f_X7_loadStatement at h
  refine z_aload_n (pc := 0) (x := a0) C dX7_loadStatement_0 (i := 0) rfl rfl ?_
  refine z_get (pc := 1) (v := .ref (r0 2)) C 0 dX7_loadStatement_1 fl_RX7_18 rfl rfl ?_
  refine z_get (pc := 4) (v := .int (s1.1 3)) C 4 dX7_loadStatement_4 fl_RX7_104 rfl rfl ?_
  exact z_iret C X dX7_loadStatement_7 (by rw [← Option.some.inj h]; exact ⟨rfl, rfl⟩) (by decide) (by decide)
def f_X7_count (N : Nat) (s0 : Ob) (s1 : Ob) (s2 : Ob) (p1 : Int32) : Option (Int32) := (if p1 = (0 : Int32) then (some (s2.1 0)) else (if p1 = (1 : Int32) then (some (s2.1 1)) else (if p1 = (2 : Int32) then (some (s2.1 2)) else (if p1 = (3 : Int32) then (some (s2.1 3)) else (if p1 = (4 : Int32) then (some ((s2.1 7) - (s1.1 1))) else (if p1 = (5 : Int32) then (some (s1.1 2)) else (if p1 = (6 : Int32) then (some (s1.1 3)) else (if p1 = (7 : Int32) then (ob (f_X1_score N s1) fun x1 => (some x1)) else (if p1 = (8 : Int32) then (some (s1.1 5)) else (if p1 = (9 : Int32) then (some (s1.1 6)) else (if p1 = (10 : Int32) then (some (s0.1 5)) else none)))))))))))
theorem m_X7_count {g : Gp} {a0 : Nat} {r0 : Nat → Nat} {r1 : Nat → Nat} {q1_0 : Nat} {r2 : Nat → Nat} {N : Nat} {s0 : Ob} {s1 : Ob} {s2 : Ob} {p1 : Int32} {res : Int32} (hg : Ok g) (h : f_X7_count N s0 s1 s2 p1 = some res) : Ct g yX7_count cX7_count 2 (some .int) (zrm 1 22) [.ref a0, .int p1] (wX7 g a0 r0 s0 ++ wX1 g (r0 3) r1 q1_0 s1 ++ wX5 g q1_0 r2 s2) (exR (some (.int res)) (wX7 g a0 r0 s0 ++ wX1 g (r0 3) r1 q1_0 s1 ++ wX5 g q1_0 r2 s2)) := by
  refine ct_of rfl hg (by show _ ≤ _; exact Nat.le_of_ble_eq_true rfl) (fun K C X => ?_)
  show Zs K 0 0 (wX7 g a0 r0 s0 ++ wX1 g (r0 3) r1 q1_0 s1 ++ wX5 g q1_0 r2 s2) [(0, .ref a0), (1, .int p1)] 0 []
  unfold f_X7_count at h
  refine z_iload_n (pc := 0) (x := p1) C dX7_count_0 (i := 1) rfl rfl ?_
  refine (Decidable.em (p1 = (0 : Int32))).elim (fun hc => ?_) (fun hn0 => ?_)
  · refine z_tswIn (pc := 1) C (0 : Int32) dX7_count_1 hc (by decide) (by decide) (off := 59) rfl (tgt := 60) (by decide) ?_
    replace h := (ite_e h).1 hc
    refine z_aload_n (pc := 60) (x := a0) C dX7_count_60 (i := 0) rfl rfl ?_
    refine z_get (pc := 61) (v := .ref (r0 3)) C 0 dX7_count_61 fl_RX7_67 rfl rfl ?_
    refine z_get (pc := 64) (v := .ref q1_0) C 4 dX7_count_64 fl_RX7_100 rfl rfl ?_
    refine z_get (pc := 67) (v := .int (s2.1 0)) C 13 dX7_count_67 fl_RX7_107 rfl rfl ?_
    exact z_iret C X dX7_count_70 (by rw [← Option.some.inj h]; exact ⟨rfl, rfl⟩) (by decide) (by decide)
  replace h := (ite_e h).2 hn0
  refine (Decidable.em (p1 = (1 : Int32))).elim (fun hc => ?_) (fun hn1 => ?_)
  · refine z_tswIn (pc := 1) C (1 : Int32) dX7_count_1 hc (by decide) (by decide) (off := 70) rfl (tgt := 71) (by decide) ?_
    replace h := (ite_e h).1 hc
    refine z_aload_n (pc := 71) (x := a0) C dX7_count_71 (i := 0) rfl rfl ?_
    refine z_get (pc := 72) (v := .ref (r0 3)) C 0 dX7_count_72 fl_RX7_67 rfl rfl ?_
    refine z_get (pc := 75) (v := .ref q1_0) C 4 dX7_count_75 fl_RX7_100 rfl rfl ?_
    refine z_get (pc := 78) (v := .int (s2.1 1)) C 13 dX7_count_78 fl_RX7_110 rfl rfl ?_
    exact z_iret C X dX7_count_81 (by rw [← Option.some.inj h]; exact ⟨rfl, rfl⟩) (by decide) (by decide)
  replace h := (ite_e h).2 hn1
  refine (Decidable.em (p1 = (2 : Int32))).elim (fun hc => ?_) (fun hn2 => ?_)
  · refine z_tswIn (pc := 1) C (2 : Int32) dX7_count_1 hc (by decide) (by decide) (off := 81) rfl (tgt := 82) (by decide) ?_
    replace h := (ite_e h).1 hc
    refine z_aload_n (pc := 82) (x := a0) C dX7_count_82 (i := 0) rfl rfl ?_
    refine z_get (pc := 83) (v := .ref (r0 3)) C 0 dX7_count_83 fl_RX7_67 rfl rfl ?_
    refine z_get (pc := 86) (v := .ref q1_0) C 4 dX7_count_86 fl_RX7_100 rfl rfl ?_
    refine z_get (pc := 89) (v := .int (s2.1 2)) C 13 dX7_count_89 fl_RX7_113 rfl rfl ?_
    exact z_iret C X dX7_count_92 (by rw [← Option.some.inj h]; exact ⟨rfl, rfl⟩) (by decide) (by decide)
  replace h := (ite_e h).2 hn2
  refine (Decidable.em (p1 = (3 : Int32))).elim (fun hc => ?_) (fun hn3 => ?_)
  · refine z_tswIn (pc := 1) C (3 : Int32) dX7_count_1 hc (by decide) (by decide) (off := 92) rfl (tgt := 93) (by decide) ?_
    replace h := (ite_e h).1 hc
    refine z_aload_n (pc := 93) (x := a0) C dX7_count_93 (i := 0) rfl rfl ?_
    refine z_get (pc := 94) (v := .ref (r0 3)) C 0 dX7_count_94 fl_RX7_67 rfl rfl ?_
    refine z_get (pc := 97) (v := .ref q1_0) C 4 dX7_count_97 fl_RX7_100 rfl rfl ?_
    refine z_get (pc := 100) (v := .int (s2.1 3)) C 13 dX7_count_100 fl_RX7_116 rfl rfl ?_
    exact z_iret C X dX7_count_103 (by rw [← Option.some.inj h]; exact ⟨rfl, rfl⟩) (by decide) (by decide)
  replace h := (ite_e h).2 hn3
  refine (Decidable.em (p1 = (4 : Int32))).elim (fun hc => ?_) (fun hn4 => ?_)
  · refine z_tswIn (pc := 1) C (4 : Int32) dX7_count_1 hc (by decide) (by decide) (off := 103) rfl (tgt := 104) (by decide) ?_
    replace h := (ite_e h).1 hc
    refine z_aload_n (pc := 104) (x := a0) C dX7_count_104 (i := 0) rfl rfl ?_
    refine z_get (pc := 105) (v := .ref (r0 3)) C 0 dX7_count_105 fl_RX7_67 rfl rfl ?_
    refine z_get (pc := 108) (v := .ref q1_0) C 4 dX7_count_108 fl_RX7_100 rfl rfl ?_
    refine z_get (pc := 111) (v := .int (s2.1 7)) C 13 dX7_count_111 fl_RX7_101 rfl rfl ?_
    refine z_aload_n (pc := 114) (x := a0) C dX7_count_114 (i := 0) rfl rfl ?_
    refine z_get (pc := 115) (v := .ref (r0 3)) C 0 dX7_count_115 fl_RX7_67 rfl rfl ?_
    refine z_get (pc := 118) (v := .int (s1.1 1)) C 4 dX7_count_118 fl_RX7_119 rfl rfl ?_
    refine z_isub (pc := 121) C dX7_count_121 ?_
    exact z_iret C X dX7_count_122 (by rw [← Option.some.inj h]; exact ⟨rfl, rfl⟩) (by decide) (by decide)
  replace h := (ite_e h).2 hn4
  refine (Decidable.em (p1 = (5 : Int32))).elim (fun hc => ?_) (fun hn5 => ?_)
  · refine z_tswIn (pc := 1) C (5 : Int32) dX7_count_1 hc (by decide) (by decide) (off := 122) rfl (tgt := 123) (by decide) ?_
    replace h := (ite_e h).1 hc
    refine z_aload_n (pc := 123) (x := a0) C dX7_count_123 (i := 0) rfl rfl ?_
    refine z_get (pc := 124) (v := .ref (r0 3)) C 0 dX7_count_124 fl_RX7_67 rfl rfl ?_
    refine z_get (pc := 127) (v := .int (s1.1 2)) C 4 dX7_count_127 fl_RX7_122 rfl rfl ?_
    exact z_iret C X dX7_count_130 (by rw [← Option.some.inj h]; exact ⟨rfl, rfl⟩) (by decide) (by decide)
  replace h := (ite_e h).2 hn5
  refine (Decidable.em (p1 = (6 : Int32))).elim (fun hc => ?_) (fun hn6 => ?_)
  · refine z_tswIn (pc := 1) C (6 : Int32) dX7_count_1 hc (by decide) (by decide) (off := 130) rfl (tgt := 131) (by decide) ?_
    replace h := (ite_e h).1 hc
    refine z_aload_n (pc := 131) (x := a0) C dX7_count_131 (i := 0) rfl rfl ?_
    refine z_get (pc := 132) (v := .ref (r0 3)) C 0 dX7_count_132 fl_RX7_67 rfl rfl ?_
    refine z_get (pc := 135) (v := .int (s1.1 3)) C 4 dX7_count_135 fl_RX7_125 rfl rfl ?_
    exact z_iret C X dX7_count_138 (by rw [← Option.some.inj h]; exact ⟨rfl, rfl⟩) (by decide) (by decide)
  replace h := (ite_e h).2 hn6
  refine (Decidable.em (p1 = (7 : Int32))).elim (fun hc => ?_) (fun hn7 => ?_)
  · refine z_tswIn (pc := 1) C (7 : Int32) dX7_count_1 hc (by decide) (by decide) (off := 138) rfl (tgt := 139) (by decide) ?_
    replace h := (ite_e h).1 hc
    refine z_aload_n (pc := 139) (x := a0) C dX7_count_139 (i := 0) rfl rfl ?_
    refine z_get (pc := 140) (v := .ref (r0 3)) C 0 dX7_count_140 fl_RX7_67 rfl rfl ?_
    replace h := ob_e h
    obtain ⟨x1, hx1, h⟩ := h
    refine z_callV (pc := 143) (As := []) (rest := []) (wr := (wX7 g a0 r0 s0 ++ wX5 g q1_0 r2 s2)) C dX7_count_143 ml_RX7_128 wv_X1_score (m_X1_score (a0 := (r0 3)) (r0 := r1) (q0_0 := q1_0) hg hx1) [4, 5, 6, 7, 8, 9, 10, 11, 12] [0, 1, 2, 3, 13, 14, 15, 16] rfl rfl ⟨by decide, by decide⟩ (Nat.le_of_ble_eq_true rfl) ⟨by decide, by decide⟩ rfl rfl rfl rfl rfl rfl rfl (by decide) (ex_k C (cs' := 0) (ss' := 0) (wF := (wX7 g a0 r0 s0 ++ wX1 g (r0 3) r1 q1_0 s1 ++ wX5 g q1_0 r2 s2)) [0, 1, 2, 3, 8, 9, 10, 11, 12, 13, 14, 15, 16, 4, 5, 6, 7] rfl rfl ?_)
    exact z_iret C X dX7_count_146 (by rw [← Option.some.inj h]; exact ⟨rfl, rfl⟩) (by decide) (by decide)
  replace h := (ite_e h).2 hn7
  refine (Decidable.em (p1 = (8 : Int32))).elim (fun hc => ?_) (fun hn8 => ?_)
  · refine z_tswIn (pc := 1) C (8 : Int32) dX7_count_1 hc (by decide) (by decide) (off := 146) rfl (tgt := 147) (by decide) ?_
    replace h := (ite_e h).1 hc
    refine z_aload_n (pc := 147) (x := a0) C dX7_count_147 (i := 0) rfl rfl ?_
    refine z_get (pc := 148) (v := .ref (r0 3)) C 0 dX7_count_148 fl_RX7_67 rfl rfl ?_
    refine z_get (pc := 151) (v := .int (s1.1 5)) C 4 dX7_count_151 fl_RX7_132 rfl rfl ?_
    exact z_iret C X dX7_count_154 (by rw [← Option.some.inj h]; exact ⟨rfl, rfl⟩) (by decide) (by decide)
  replace h := (ite_e h).2 hn8
  refine (Decidable.em (p1 = (9 : Int32))).elim (fun hc => ?_) (fun hn9 => ?_)
  · refine z_tswIn (pc := 1) C (9 : Int32) dX7_count_1 hc (by decide) (by decide) (off := 154) rfl (tgt := 155) (by decide) ?_
    replace h := (ite_e h).1 hc
    refine z_aload_n (pc := 155) (x := a0) C dX7_count_155 (i := 0) rfl rfl ?_
    refine z_get (pc := 156) (v := .ref (r0 3)) C 0 dX7_count_156 fl_RX7_67 rfl rfl ?_
    refine z_get (pc := 159) (v := .int (s1.1 6)) C 4 dX7_count_159 fl_RX7_135 rfl rfl ?_
    exact z_iret C X dX7_count_162 (by rw [← Option.some.inj h]; exact ⟨rfl, rfl⟩) (by decide) (by decide)
  replace h := (ite_e h).2 hn9
  refine (Decidable.em (p1 = (10 : Int32))).elim (fun hc => ?_) (fun hn10 => ?_)
  · refine z_tswIn (pc := 1) C (10 : Int32) dX7_count_1 hc (by decide) (by decide) (off := 162) rfl (tgt := 163) (by decide) ?_
    replace h := (ite_e h).1 hc
    refine z_aload_n (pc := 163) (x := a0) C dX7_count_163 (i := 0) rfl rfl ?_
    refine z_get (pc := 164) (v := .int (s0.1 5)) C 0 dX7_count_164 fl_RX7_97 rfl rfl ?_
    exact z_iret C X dX7_count_167 (by rw [← Option.some.inj h]; exact ⟨rfl, rfl⟩) (by decide) (by decide)
  replace h := (ite_e h).2 hn10
  refine z_tswOut (pc := 1) C dX7_count_1 (by have e0 := lv_neT hn0 (a := 0) (by decide); have e1 := lv_neT hn1 (a := 1) (by decide); have e2 := lv_neT hn2 (a := 2) (by decide); have e3 := lv_neT hn3 (a := 3) (by decide); have e4 := lv_neT hn4 (a := 4) (by decide); have e5 := lv_neT hn5 (a := 5) (by decide); have e6 := lv_neT hn6 (a := 6) (by decide); have e7 := lv_neT hn7 (a := 7) (by decide); have e8 := lv_neT hn8 (a := 8) (by decide); have e9 := lv_neT hn9 (a := 9) (by decide); have e10 := lv_neT hn10 (a := 10) (by decide); omega) (tgt := 168) (by decide) ?_
  exact nomatch h
def f_X7_turnOf (N : Nat) (s0 : Ob) (s1 : Ob) (s2 : Ob) : Option (Int32) := (ob (f_X1_isEnded N s1 s2) fun x1 => (if x1 = 0 then (some (s1.1 4)) else (some (-1 : Int32))))
theorem m_X7_turnOf {g : Gp} {a0 : Nat} {r0 : Nat → Nat} {r1 : Nat → Nat} {q1_0 : Nat} {r2 : Nat → Nat} {N : Nat} {s0 : Ob} {s1 : Ob} {s2 : Ob} {res : Int32} (hg : Ok g) (h : f_X7_turnOf N s0 s1 s2 = some res) : Ct g yX7_turnOf cX7_turnOf 1 (some .int) (zrm 3 62) [.ref a0] (wX7 g a0 r0 s0 ++ wX1 g (r0 3) r1 q1_0 s1 ++ wX5 g q1_0 r2 s2) (exR (some (.int res)) (wX7 g a0 r0 s0 ++ wX1 g (r0 3) r1 q1_0 s1 ++ wX5 g q1_0 r2 s2)) := by
  refine ct_of rfl hg (by show _ ≤ _; exact Nat.le_of_ble_eq_true rfl) (fun K C X => ?_)
  show Zs K 0 0 (wX7 g a0 r0 s0 ++ wX1 g (r0 3) r1 q1_0 s1 ++ wX5 g q1_0 r2 s2) [(0, .ref a0)] 0 []
  unfold f_X7_turnOf at h
  refine z_aload_n (pc := 0) (x := a0) C dX7_turnOf_0 (i := 0) rfl rfl ?_
  refine z_get (pc := 1) (v := .ref (r0 3)) C 0 dX7_turnOf_1 fl_RX7_67 rfl rfl ?_
  replace h := ob_e h
  obtain ⟨x1, hx1, h⟩ := h
  refine z_callV (pc := 4) (As := []) (rest := []) (wr := (wX7 g a0 r0 s0)) C dX7_turnOf_4 ml_RX7_145 wv_X1_isEnded (m_X1_isEnded (a0 := (r0 3)) (r0 := r1) (q0_0 := q1_0) (r1 := r2) hg hx1) [4, 5, 6, 7, 8, 9, 10, 11, 12, 13, 14, 15, 16] [0, 1, 2, 3] rfl rfl ⟨by decide, by decide⟩ (Nat.le_of_ble_eq_true rfl) ⟨by decide, by decide⟩ rfl rfl rfl rfl rfl rfl rfl (by decide) (ex_k C (cs' := 0) (ss' := 0) (wF := (wX7 g a0 r0 s0 ++ wX1 g (r0 3) r1 q1_0 s1 ++ wX5 g q1_0 r2 s2)) [0, 1, 2, 3, 4, 5, 6, 7, 8, 9, 10, 11, 12, 13, 14, 15, 16] rfl rfl ?_)
  refine z_if_eq (pc := 7) C dX7_turnOf_7 (tgt := 14) (by decide) (fun hc => ?_) (fun hc => ?_)
  · replace h := (ite_e h).1 hc
    refine z_aload_n (pc := 14) (x := a0) C dX7_turnOf_14 (i := 0) rfl rfl ?_
    refine z_get (pc := 15) (v := .ref (r0 3)) C 0 dX7_turnOf_15 fl_RX7_67 rfl rfl ?_
    refine z_get (pc := 18) (v := .int (s1.1 4)) C 4 dX7_turnOf_18 fl_RX7_149 rfl rfl ?_
    exact z_iret C X dX7_turnOf_21 (by rw [← Option.some.inj h]; exact ⟨rfl, rfl⟩) (by decide) (by decide)
  · replace h := (ite_e h).2 hc
    refine z_iconst (pc := 10) C dX7_turnOf_10 ic_m1 ?_
    refine z_goto (pc := 11) C dX7_turnOf_11 (tgt := 21) (by decide) ?_
    exact z_iret C X dX7_turnOf_21 (by rw [← Option.some.inj h]; exact ⟨rfl, rfl⟩) (by decide) (by decide)
def f_X7_over (N : Nat) (s0 : Ob) (s1 : Ob) (s2 : Ob) : Option (Int32) := (ob (f_X1_ending N s1 s2) fun x1 => (some x1))
theorem m_X7_over {g : Gp} {a0 : Nat} {r0 : Nat → Nat} {r1 : Nat → Nat} {q1_0 : Nat} {r2 : Nat → Nat} {N : Nat} {s0 : Ob} {s1 : Ob} {s2 : Ob} {res : Int32} (hg : Ok g) (h : f_X7_over N s0 s1 s2 = some res) : Ct g yX7_over cX7_over 1 (some .int) (zrm 2 42) [.ref a0] (wX7 g a0 r0 s0 ++ wX1 g (r0 3) r1 q1_0 s1 ++ wX5 g q1_0 r2 s2) (exR (some (.int res)) (wX7 g a0 r0 s0 ++ wX1 g (r0 3) r1 q1_0 s1 ++ wX5 g q1_0 r2 s2)) := by
  refine ct_of rfl hg (by show _ ≤ _; exact Nat.le_of_ble_eq_true rfl) (fun K C X => ?_)
  show Zs K 0 0 (wX7 g a0 r0 s0 ++ wX1 g (r0 3) r1 q1_0 s1 ++ wX5 g q1_0 r2 s2) [(0, .ref a0)] 0 []
  unfold f_X7_over at h
  refine z_aload_n (pc := 0) (x := a0) C dX7_over_0 (i := 0) rfl rfl ?_
  refine z_get (pc := 1) (v := .ref (r0 3)) C 0 dX7_over_1 fl_RX7_67 rfl rfl ?_
  replace h := ob_e h
  obtain ⟨x1, hx1, h⟩ := h
  refine z_callV (pc := 4) (As := []) (rest := []) (wr := (wX7 g a0 r0 s0)) C dX7_over_4 ml_RX7_152 wv_X1_ending (m_X1_ending (a0 := (r0 3)) (r0 := r1) (q0_0 := q1_0) (r1 := r2) hg hx1) [4, 5, 6, 7, 8, 9, 10, 11, 12, 13, 14, 15, 16] [0, 1, 2, 3] rfl rfl ⟨by decide, by decide⟩ (Nat.le_of_ble_eq_true rfl) ⟨by decide, by decide⟩ rfl rfl rfl rfl rfl rfl rfl (by decide) (ex_k C (cs' := 0) (ss' := 0) (wF := (wX7 g a0 r0 s0 ++ wX1 g (r0 3) r1 q1_0 s1 ++ wX5 g q1_0 r2 s2)) [0, 1, 2, 3, 4, 5, 6, 7, 8, 9, 10, 11, 12, 13, 14, 15, 16] rfl rfl ?_)
  exact z_iret C X dX7_over_7 (by rw [← Option.some.inj h]; exact ⟨rfl, rfl⟩) (by decide) (by decide)
