/-! OWN, written by wip/whole/tools/mkall.py: what each method does to its cells, and the walk that shows it -/
def F_X8_adds_127 (N : Nat)  (k127 : Int32 → Ob → Option (Ob)) (v5 : Int32) (s0 : Ob) : Option (Ob) := (if (4 : Int32) ≤ v5 then (some (si s0 22 ((s0.1 22) + (1 : Int32)))) else (chk (inb v5 4) (chk (inb (((4 : Int32) * (s0.1 22)) + v5) 16080) (k127 (v5 + (1 : Int32)) (sb s0 19 (vp_updL (s0.2.2.2 19) ((((4 : Int32) * (s0.1 22)) + v5)).toNatClampNeg ((s0.2.2.2 23) (v5).toNatClampNeg)))))))
def f_X8_adds_127 (N : Nat)  : Nat → Int32 → Ob → Option (Ob) := zlp (fun _ _ => none) (F_X8_adds_127 N)
theorem m_X8_adds_127 {K : Kt} {g : Gp} {a0 : Nat} {r0 : Nat → Nat} {N : Nat} {res : Ob} (hg : Ok g) (C : Cx K g cX8_adds RX8 6 (zrm 1 24)) (X : Rx K (exR none (wX8 g a0 r0 res)) 0 0 none) : ∀ (n : Nat) (v5 : Int32) (s0 : Ob), f_X8_adds_127 N n v5 s0 = some res → Zs K 0 0 (wX8 g a0 r0 s0) [(0, .ref a0), (5, .int v5)] 127 [] := by
  intro n
  induction n with
  | zero => intro v5 s0 h; exact nomatch (show (none : Option (Ob)) = some res from h)
  | succ n hk127 =>
    intro v5 s0 h
    replace h : F_X8_adds_127 N (f_X8_adds_127 N n) v5 s0 = some res := h
    unfold F_X8_adds_127 at h
    refine z_iload (pc := 127) (x := v5) C dX8_adds_127 rfl ?_
    refine z_iconst (pc := 129) C dX8_adds_129 ic_4 ?_
    refine z_icmp_ge (pc := 130) C dX8_adds_130 (tgt := 160) (by decide) (fun hc => ?_) (fun hc => ?_)
    · replace h := (ite_e h).1 hc
      refine z_aload_n (pc := 160) (x := a0) C dX8_adds_160 (i := 0) rfl rfl ?_
      refine z_dup (pc := 161) C dX8_adds_161 rfl ?_
      refine z_get (pc := 162) (v := .int (s0.1 22)) C 0 dX8_adds_162 fl_RX8_361 rfl rfl ?_
      refine z_iconst (pc := 165) C dX8_adds_165 ic_1 ?_
      refine z_iadd (pc := 166) C dX8_adds_166 ?_
      refine z_put (pc := 167) C 0 dX8_adds_167 fp_RX8_361 rfl rfl rfl (zlt_b rfl) (ws' := (wX8 g a0 r0 (si s0 22 ((s0.1 22) + (1 : Int32))))) rfl ?_
      exact z_vret C X dX8_adds_170 (by rw [← Option.some.inj h]; exact ⟨rfl, rfl⟩) (by decide) (by decide)
    · replace h := (ite_e h).2 hc
      refine z_aload_n (pc := 133) (x := a0) C dX8_adds_133 (i := 0) rfl rfl ?_
      refine z_get (pc := 134) (v := .ref (r0 19)) C 0 dX8_adds_134 fl_RX8_40 rfl rfl ?_
      refine z_iconst (pc := 137) C dX8_adds_137 ic_4 ?_
      refine z_aload_n (pc := 138) (x := a0) C dX8_adds_138 (i := 0) rfl rfl ?_
      refine z_get (pc := 139) (v := .int (s0.1 22)) C 0 dX8_adds_139 fl_RX8_361 rfl rfl ?_
      refine z_imul (pc := 142) C dX8_adds_142 ?_
      refine z_iload (pc := 143) (x := v5) C dX8_adds_143 rfl ?_
      refine z_iadd (pc := 145) C dX8_adds_145 ?_
      refine z_aload_n (pc := 146) (x := a0) C dX8_adds_146 (i := 0) rfl rfl ?_
      refine z_get (pc := 147) (v := .ref (r0 23)) C 0 dX8_adds_147 fl_RX8_50 rfl rfl ?_
      refine z_iload (pc := 150) (x := v5) C dX8_adds_150 rfl ?_
      replace h := chk_e h
      obtain ⟨hb8, h⟩ := h
      refine z_lald (pc := 152) C 12 dX8_adds_152 rfl hb8 ?_
      replace h := chk_e h
      obtain ⟨hb9, h⟩ := h
      refine z_last (pc := 153) C 9 dX8_adds_153 rfl hb9 (ws' := (wX8 g a0 r0 (sb s0 19 (vp_updL (s0.2.2.2 19) ((((4 : Int32) * (s0.1 22)) + v5)).toNatClampNeg ((s0.2.2.2 23) (v5).toNatClampNeg))))) rfl ?_
      refine z_iinc (pc := 154) C dX8_adds_154 rfl (inc_e 1 (1 : Int32) ic_1 v5) (by decide) (lv' := [(5, .int (v5 + (1 : Int32))), (0, .ref a0)]) rfl ?_
      refine z_goto (pc := 157) C dX8_adds_157 (tgt := 127) (by decide) ?_
      refine z_lv (lv' := [(0, .ref a0), (5, .int (v5 + (1 : Int32)))]) [1, 0] rfl ?_
      exact hk127 (v5 + (1 : Int32)) (sb s0 19 (vp_updL (s0.2.2.2 19) ((((4 : Int32) * (s0.1 22)) + v5)).toNatClampNeg ((s0.2.2.2 23) (v5).toNatClampNeg))) h
def f_X8_adds_91 (N : Nat)  (v1 : Int32) (v4 : Int32) (s0 : Ob) : Option (Ob) := (chk (inb v4 16384) (if ((s0.2.2.1 21) (v4).toNatClampNeg) = (-1 : Int32) then (chk (inb v4 16384) (znm (sa s0 21 (upd (s0.2.2.1 21) (v4).toNatClampNeg (s0.1 22))) fun y6 => (chk (inb (s0.1 22) 4020) (f_X8_adds_127 N N (0 : Int32) (sa y6 20 (upd (y6.2.2.1 20) ((s0.1 22)).toNatClampNeg v1)))))) else (some s0)))
theorem m_X8_adds_91 {K : Kt} {g : Gp} {a0 : Nat} {r0 : Nat → Nat} {N : Nat} {res : Ob} (hg : Ok g) (C : Cx K g cX8_adds RX8 6 (zrm 1 24)) (X : Rx K (exR none (wX8 g a0 r0 res)) 0 0 none) (v1 : Int32) (v4 : Int32) (s0 : Ob) (h : f_X8_adds_91 N v1 v4 s0 = some res) : Zs K 0 0 (wX8 g a0 r0 s0) [(0, .ref a0), (1, .int v1), (4, .int v4)] 91 [] := by
  unfold f_X8_adds_91 at h
  refine z_aload_n (pc := 91) (x := a0) C dX8_adds_91 (i := 0) rfl rfl ?_
  refine z_get (pc := 92) (v := .ref (r0 21)) C 0 dX8_adds_92 fl_RX8_47 rfl rfl ?_
  refine z_iload (pc := 95) (x := v4) C dX8_adds_95 rfl ?_
  replace h := chk_e h
  obtain ⟨hb4, h⟩ := h
  refine z_iald (pc := 97) C 11 dX8_adds_97 rfl hb4 ?_
  refine z_iconst (pc := 98) C dX8_adds_98 ic_m1 ?_
  refine z_icmp_eq (pc := 99) C dX8_adds_99 (tgt := 103) (by decide) (fun hc => ?_) (fun hc => ?_)
  · replace h := (ite_e h).1 hc
    refine z_aload_n (pc := 103) (x := a0) C dX8_adds_103 (i := 0) rfl rfl ?_
    refine z_get (pc := 104) (v := .ref (r0 21)) C 0 dX8_adds_104 fl_RX8_47 rfl rfl ?_
    refine z_iload (pc := 107) (x := v4) C dX8_adds_107 rfl ?_
    refine z_aload_n (pc := 109) (x := a0) C dX8_adds_109 (i := 0) rfl rfl ?_
    refine z_get (pc := 110) (v := .int (s0.1 22)) C 0 dX8_adds_110 fl_RX8_361 rfl rfl ?_
    replace h := chk_e h
    obtain ⟨hb5, h⟩ := h
    refine z_iast (pc := 113) C 11 dX8_adds_113 rfl hb5 (ws' := (wX8 g a0 r0 (sa s0 21 (upd (s0.2.2.1 21) (v4).toNatClampNeg (s0.1 22))))) rfl ?_
    refine z_aload_n (pc := 114) (x := a0) C dX8_adds_114 (i := 0) rfl rfl ?_
    refine z_get (pc := 115) (v := .ref (r0 20)) C 0 dX8_adds_115 fl_RX8_44 rfl rfl ?_
    refine z_aload_n (pc := 118) (x := a0) C dX8_adds_118 (i := 0) rfl rfl ?_
    refine z_get (pc := 119) (v := .int (s0.1 22)) C 0 dX8_adds_119 fl_RX8_361 rfl rfl ?_
    refine z_iload_n (pc := 122) (x := v1) C dX8_adds_122 (i := 1) rfl rfl ?_
    replace h := znm_e h
    obtain ⟨y6, hy6, h⟩ := h
    refine z_wsE (ws' := (wX8 g a0 r0 y6)) (by rw [hy6]) ?_
    replace h := chk_e h
    obtain ⟨hb7, h⟩ := h
    refine z_iast (pc := 123) C 10 dX8_adds_123 rfl hb7 (ws' := (wX8 g a0 r0 (sa y6 20 (upd (y6.2.2.1 20) ((s0.1 22)).toNatClampNeg v1)))) rfl ?_
    refine z_iconst (pc := 124) C dX8_adds_124 ic_0 ?_
    refine z_istore (pc := 125) C dX8_adds_125 (by decide) (lv' := [(5, .int (0 : Int32)), (0, .ref a0), (1, .int v1), (4, .int v4)]) rfl ?_
    refine z_lv (lv' := [(0, .ref a0), (5, .int (0 : Int32))]) [1, 0] rfl ?_
    exact m_X8_adds_127 (a0 := a0) (r0 := r0) hg C X N (0 : Int32) (sa y6 20 (upd (y6.2.2.1 20) ((s0.1 22)).toNatClampNeg v1)) h
  · replace h := (ite_e h).2 hc
    exact z_vret C X dX8_adds_102 (by rw [← Option.some.inj h]; exact ⟨rfl, rfl⟩) (by decide) (by decide)
def F_X8_adds_52 (N : Nat)  (k52 : Int32 → Int32 → Ob → Option (Ob)) (v1 : Int32) (v4 : Int32) (s0 : Ob) : Option (Ob) := (chk (inb v4 16384) (if ((s0.2.2.1 21) (v4).toNatClampNeg) = (-1 : Int32) then (f_X8_adds_91 N v1 v4 s0) else (chk (inb v4 16384) (ob (f_X8_isSame N s0 ((s0.2.2.1 21) (v4).toNatClampNeg) v1) fun x11 => (if x11 = 0 then (k52 v1 ((v4 + (1 : Int32)) &&& (16383 : Int32)) s0) else (f_X8_adds_91 N v1 v4 s0))))))
def f_X8_adds_52 (N : Nat)  : Nat → Int32 → Int32 → Ob → Option (Ob) := zlp (fun _ _ _ => none) (F_X8_adds_52 N)
theorem m_X8_adds_52 {K : Kt} {g : Gp} {a0 : Nat} {r0 : Nat → Nat} {N : Nat} {res : Ob} (hg : Ok g) (C : Cx K g cX8_adds RX8 6 (zrm 1 24)) (X : Rx K (exR none (wX8 g a0 r0 res)) 0 0 none) : ∀ (n : Nat) (v1 : Int32) (v4 : Int32) (s0 : Ob), f_X8_adds_52 N n v1 v4 s0 = some res → Zs K 0 0 (wX8 g a0 r0 s0) [(0, .ref a0), (1, .int v1), (4, .int v4)] 52 [] := by
  intro n
  induction n with
  | zero => intro v1 v4 s0 h; exact nomatch (show (none : Option (Ob)) = some res from h)
  | succ n hk52 =>
    intro v1 v4 s0 h
    replace h : F_X8_adds_52 N (f_X8_adds_52 N n) v1 v4 s0 = some res := h
    unfold F_X8_adds_52 at h
    refine z_aload_n (pc := 52) (x := a0) C dX8_adds_52 (i := 0) rfl rfl ?_
    refine z_get (pc := 53) (v := .ref (r0 21)) C 0 dX8_adds_53 fl_RX8_47 rfl rfl ?_
    refine z_iload (pc := 56) (x := v4) C dX8_adds_56 rfl ?_
    replace h := chk_e h
    obtain ⟨hb3, h⟩ := h
    refine z_iald (pc := 58) C 11 dX8_adds_58 rfl hb3 ?_
    refine z_iconst (pc := 59) C dX8_adds_59 ic_m1 ?_
    refine z_icmp_eq (pc := 60) C dX8_adds_60 (tgt := 91) (by decide) (fun hc => ?_) (fun hc => ?_)
    · replace h := (ite_e h).1 hc
      exact m_X8_adds_91 (a0 := a0) (r0 := r0) hg C X v1 v4 s0 h
    · replace h := (ite_e h).2 hc
      refine z_aload_n (pc := 63) (x := a0) C dX8_adds_63 (i := 0) rfl rfl ?_
      refine z_aload_n (pc := 64) (x := a0) C dX8_adds_64 (i := 0) rfl rfl ?_
      refine z_get (pc := 65) (v := .ref (r0 21)) C 0 dX8_adds_65 fl_RX8_47 rfl rfl ?_
      refine z_iload (pc := 68) (x := v4) C dX8_adds_68 rfl ?_
      replace h := chk_e h
      obtain ⟨hb10, h⟩ := h
      refine z_iald (pc := 70) C 11 dX8_adds_70 rfl hb10 ?_
      refine z_iload_n (pc := 71) (x := v1) C dX8_adds_71 (i := 1) rfl rfl ?_
      replace h := ob_e h
      obtain ⟨x11, hx11, h⟩ := h
      refine z_callV (pc := 72) (As := [.int ((s0.2.2.1 21) (v4).toNatClampNeg), .int v1]) (rest := []) (wr := ([] : va_W)) C dX8_adds_72 ml_RX8_358 wv_X8_isSame (m_X8_isSame (a0 := a0) (r0 := r0) hg hx11) [0, 1, 2, 3, 4, 5, 6, 7, 8, 9, 10, 11, 12, 13, 14] [] rfl rfl ⟨by decide, by decide⟩ (Nat.le_of_ble_eq_true rfl) ⟨by decide, by decide⟩ rfl rfl rfl rfl rfl rfl rfl (by decide) (ex_k C (cs' := 0) (ss' := 0) (wF := (wX8 g a0 r0 s0)) [0, 1, 2, 3, 4, 5, 6, 7, 8, 9, 10, 11, 12, 13, 14] rfl rfl ?_)
      refine z_if_ne (pc := 75) C dX8_adds_75 (tgt := 91) (by decide) (fun hc => ?_) (fun hc => ?_)
      · replace h := (ite_e h).2 hc
        exact m_X8_adds_91 (a0 := a0) (r0 := r0) hg C X v1 v4 s0 h
      · replace h := (ite_e h).1 hc
        refine z_iload (pc := 78) (x := v4) C dX8_adds_78 rfl ?_
        refine z_iconst (pc := 80) C dX8_adds_80 ic_1 ?_
        refine z_iadd (pc := 81) C dX8_adds_81 ?_
        refine z_sipush (pc := 82) C dX8_adds_82 sp_16383 ?_
        refine z_iand (pc := 85) C dX8_adds_85 ?_
        refine z_istore (pc := 86) C dX8_adds_86 (by decide) (lv' := [(4, .int ((v4 + (1 : Int32)) &&& (16383 : Int32))), (0, .ref a0), (1, .int v1)]) rfl ?_
        refine z_goto (pc := 88) C dX8_adds_88 (tgt := 52) (by decide) ?_
        refine z_lv (lv' := [(0, .ref a0), (1, .int v1), (4, .int ((v4 + (1 : Int32)) &&& (16383 : Int32)))]) [1, 2, 0] rfl ?_
        exact hk52 v1 ((v4 + (1 : Int32)) &&& (16383 : Int32)) s0 h
def F_X8_adds_11 (N : Nat)  (k11 : Int32 → Int64 → Int32 → Ob → Option (Ob)) (v1 : Int32) (v2 : Int64) (v4 : Int32) (s0 : Ob) : Option (Ob) := (if (4 : Int32) ≤ v4 then (znm (((v2 * (25214903917 : Int64))).toUInt64 >>> (((40 : Int32)).toInt64.toUInt64 &&& Int64.toUInt64 63)).toInt64 fun x2 => (f_X8_adds_52 N N v1 ((x2).toInt32 &&& (16383 : Int32)) s0)) else (chk (inb v4 4) (k11 v1 ((v2 * (1000003 : Int64)) + ((s0.2.2.2 23) (v4).toNatClampNeg)) (v4 + (1 : Int32)) s0)))
def f_X8_adds_11 (N : Nat)  : Nat → Int32 → Int64 → Int32 → Ob → Option (Ob) := zlp (fun _ _ _ _ => none) (F_X8_adds_11 N)
theorem m_X8_adds_11 {K : Kt} {g : Gp} {a0 : Nat} {r0 : Nat → Nat} {N : Nat} {res : Ob} (hg : Ok g) (C : Cx K g cX8_adds RX8 6 (zrm 1 24)) (X : Rx K (exR none (wX8 g a0 r0 res)) 0 0 none) : ∀ (n : Nat) (v1 : Int32) (v2 : Int64) (v4 : Int32) (s0 : Ob), f_X8_adds_11 N n v1 v2 v4 s0 = some res → Zs K 0 0 (wX8 g a0 r0 s0) [(0, .ref a0), (1, .int v1), (2, .long v2), (4, .int v4)] 11 [] := by
  intro n
  induction n with
  | zero => intro v1 v2 v4 s0 h; exact nomatch (show (none : Option (Ob)) = some res from h)
  | succ n hk11 =>
    intro v1 v2 v4 s0 h
    replace h : F_X8_adds_11 N (f_X8_adds_11 N n) v1 v2 v4 s0 = some res := h
    unfold F_X8_adds_11 at h
    refine z_iload (pc := 11) (x := v4) C dX8_adds_11 rfl ?_
    refine z_iconst (pc := 13) C dX8_adds_13 ic_4 ?_
    refine z_icmp_ge (pc := 14) C dX8_adds_14 (tgt := 37) (by decide) (fun hc => ?_) (fun hc => ?_)
    · replace h := (ite_e h).1 hc
      refine z_lload_n (pc := 37) (x := v2) C dX8_adds_37 (i := 2) rfl rfl ?_
      refine z_ldc2 (pc := 38) C dX8_adds_38 kl_RX8_356 ?_
      refine z_lmul (pc := 41) C dX8_adds_41 ?_
      refine z_bipush (pc := 42) C dX8_adds_42 bp_40 ?_
      refine z_lushr (pc := 44) C dX8_adds_44 ?_
      replace h := znm_e h
      obtain ⟨x2, hx2, h⟩ := h
      refine z_top2 hx2 ?_
      refine z_l2i (pc := 45) C dX8_adds_45 ?_
      refine z_sipush (pc := 46) C dX8_adds_46 sp_16383 ?_
      refine z_iand (pc := 49) C dX8_adds_49 ?_
      refine z_istore (pc := 50) C dX8_adds_50 (by decide) (lv' := [(4, .int ((x2).toInt32 &&& (16383 : Int32))), (0, .ref a0), (1, .int v1), (2, .long v2)]) rfl ?_
      refine z_lv (lv' := [(0, .ref a0), (1, .int v1), (4, .int ((x2).toInt32 &&& (16383 : Int32)))]) [1, 2, 0] rfl ?_
      exact m_X8_adds_52 (a0 := a0) (r0 := r0) hg C X N v1 ((x2).toInt32 &&& (16383 : Int32)) s0 h
    · replace h := (ite_e h).2 hc
      refine z_lload_n (pc := 17) (x := v2) C dX8_adds_17 (i := 2) rfl rfl ?_
      refine z_ldc2 (pc := 18) C dX8_adds_18 kl_RX8_354 ?_
      refine z_lmul (pc := 21) C dX8_adds_21 ?_
      refine z_aload_n (pc := 22) (x := a0) C dX8_adds_22 (i := 0) rfl rfl ?_
      refine z_get (pc := 23) (v := .ref (r0 23)) C 0 dX8_adds_23 fl_RX8_50 rfl rfl ?_
      refine z_iload (pc := 26) (x := v4) C dX8_adds_26 rfl ?_
      replace h := chk_e h
      obtain ⟨hb12, h⟩ := h
      refine z_lald (pc := 28) C 12 dX8_adds_28 rfl hb12 ?_
      refine z_ladd (pc := 29) C dX8_adds_29 ?_
      refine z_lstore_n (pc := 30) C dX8_adds_30 (i := 2) rfl (by decide) (lv' := [(2, .long ((v2 * (1000003 : Int64)) + ((s0.2.2.2 23) (v4).toNatClampNeg))), (0, .ref a0), (1, .int v1), (4, .int v4)]) rfl ?_
      refine z_iinc (pc := 31) C dX8_adds_31 rfl (inc_e 1 (1 : Int32) ic_1 v4) (by decide) (lv' := [(4, .int (v4 + (1 : Int32))), (2, .long ((v2 * (1000003 : Int64)) + ((s0.2.2.2 23) (v4).toNatClampNeg))), (0, .ref a0), (1, .int v1)]) rfl ?_
      refine z_goto (pc := 34) C dX8_adds_34 (tgt := 11) (by decide) ?_
      refine z_lv (lv' := [(0, .ref a0), (1, .int v1), (2, .long ((v2 * (1000003 : Int64)) + ((s0.2.2.2 23) (v4).toNatClampNeg))), (4, .int (v4 + (1 : Int32)))]) [2, 3, 1, 0] rfl ?_
      exact hk11 v1 ((v2 * (1000003 : Int64)) + ((s0.2.2.2 23) (v4).toNatClampNeg)) (v4 + (1 : Int32)) s0 h
def f_X8_adds (N : Nat) (s0 : Ob) : Option (Ob) := (ob (f_X8_packed N s0) fun x1 => (f_X8_adds_11 N N x1 (x1).toInt64 (0 : Int32) s0))
theorem m_X8_adds {g : Gp} {a0 : Nat} {r0 : Nat → Nat} {N : Nat} {s0 : Ob} {res : Ob} (hg : Ok g) (h : f_X8_adds N s0 = some res) : Ct g yX8_adds cX8_adds 6 none (zrm 1 24) [.ref a0] (wX8 g a0 r0 s0) (exR none (wX8 g a0 r0 res)) := by
  refine ct_of rfl hg (by show _ ≤ _; exact Nat.le_of_ble_eq_true rfl) (fun K C X => ?_)
  show Zs K 0 0 (wX8 g a0 r0 s0) [(0, .ref a0)] 0 []
  unfold f_X8_adds at h
  refine z_aload_n (pc := 0) (x := a0) C dX8_adds_0 (i := 0) rfl rfl ?_
  replace h := ob_e h
  obtain ⟨x1, hx1, h⟩ := h
  refine z_callV (pc := 1) (As := []) (rest := []) (wr := ([] : va_W)) C dX8_adds_1 ml_RX8_351 wv_X8_packed (m_X8_packed (a0 := a0) (r0 := r0) hg hx1) [0, 1, 2, 3, 4, 5, 6, 7, 8, 9, 10, 11, 12, 13, 14] [] rfl rfl ⟨by decide, by decide⟩ (Nat.le_of_ble_eq_true rfl) ⟨by decide, by decide⟩ rfl rfl rfl rfl rfl rfl rfl (by decide) (ex_k C (cs' := 0) (ss' := 0) (wF := (wX8 g a0 r0 s0)) [0, 1, 2, 3, 4, 5, 6, 7, 8, 9, 10, 11, 12, 13, 14] rfl rfl ?_)
  refine z_istore_n (pc := 4) C dX8_adds_4 (i := 1) rfl (by decide) (lv' := [(1, .int x1), (0, .ref a0)]) rfl ?_
  refine z_iload_n (pc := 5) (x := x1) C dX8_adds_5 (i := 1) rfl rfl ?_
  refine z_i2l (pc := 6) C dX8_adds_6 ?_
  refine z_lstore_n (pc := 7) C dX8_adds_7 (i := 2) rfl (by decide) (lv' := [(2, .long (x1).toInt64), (1, .int x1), (0, .ref a0)]) rfl ?_
  refine z_iconst (pc := 8) C dX8_adds_8 ic_0 ?_
  refine z_istore (pc := 9) C dX8_adds_9 (by decide) (lv' := [(4, .int (0 : Int32)), (2, .long (x1).toInt64), (1, .int x1), (0, .ref a0)]) rfl ?_
  refine z_lv (lv' := [(0, .ref a0), (1, .int x1), (2, .long (x1).toInt64), (4, .int (0 : Int32))]) [3, 2, 1, 0] rfl ?_
  exact m_X8_adds_11 (a0 := a0) (r0 := r0) hg C X N x1 (x1).toInt64 (0 : Int32) s0 h
def F_X8_isFinal_4 (N : Nat) (s0 : Ob)  (k4 : Int32 → Int32 → Option (Int32)) (v1 : Int32) (v2 : Int32) : Option (Int32) := (if ((s0.2.2.1 0) 0) ≤ v2 then (if v1 = 0 then (if (s0.1 28) = 0 then (some (1 : Int32)) else (some (0 : Int32))) else (some (1 : Int32))) else (if v1 = 0 then (k4 (0 : Int32) (v2 + (1 : Int32))) else (chk (inb v2 4) (if ((s0.2.2.1 24) (v2).toNatClampNeg) = ((s0.2.2.1 0) 1) then (k4 (1 : Int32) (v2 + (1 : Int32))) else (k4 (0 : Int32) (v2 + (1 : Int32)))))))
def f_X8_isFinal_4 (N : Nat) (s0 : Ob)  : Nat → Int32 → Int32 → Option (Int32) := zlp (fun _ _ => none) (F_X8_isFinal_4 N s0)
theorem m_X8_isFinal_4 {K : Kt} {g : Gp} {a0 : Nat} {r0 : Nat → Nat} {N : Nat} {s0 : Ob} {res : Int32} (hg : Ok g) (C : Cx K g cX8_isFinal RX8 3 (zrm 0 0)) (X : Rx K (exR (some (.int res)) (wX8 g a0 r0 s0)) 0 0 (some .boolean)) : ∀ (n : Nat) (v1 : Int32) (v2 : Int32), f_X8_isFinal_4 N s0 n v1 v2 = some res → Zs K 0 0 (wX8 g a0 r0 s0) [(0, .ref a0), (1, .int v1), (2, .int v2)] 4 [] := by
  intro n
  induction n with
  | zero => intro v1 v2 h; exact nomatch (show (none : Option (Int32)) = some res from h)
  | succ n hk4 =>
    intro v1 v2 h
    replace h : F_X8_isFinal_4 N s0 (f_X8_isFinal_4 N s0 n) v1 v2 = some res := h
    unfold F_X8_isFinal_4 at h
    refine z_iload_n (pc := 4) (x := v2) C dX8_isFinal_4 (i := 2) rfl rfl ?_
    refine z_aload_n (pc := 5) (x := a0) C dX8_isFinal_5 (i := 0) rfl rfl ?_
    refine z_get (pc := 6) (v := .ref (r0 0)) C 0 dX8_isFinal_6 fl_RX8_9 rfl rfl ?_
    refine z_iconst (pc := 9) C dX8_isFinal_9 ic_0 ?_
    refine z_iald (pc := 10) C 1 dX8_isFinal_10 rfl (by decide) ?_
    refine z_top1 (v := ((s0.2.2.1 0) 0)) rfl ?_
    refine z_icmp_ge (pc := 11) C dX8_isFinal_11 (tgt := 45) (by decide) (fun hc => ?_) (fun hc => ?_)
    · replace h := (ite_e h).1 hc
      refine z_iload_n (pc := 45) (x := v1) C dX8_isFinal_45 (i := 1) rfl rfl ?_
      refine z_if_ne (pc := 46) C dX8_isFinal_46 (tgt := 56) (by decide) (fun hc => ?_) (fun hc => ?_)
      · replace h := (ite_e h).2 hc
        refine z_iconst (pc := 56) C dX8_isFinal_56 ic_1 ?_
        refine z_goto (pc := 57) C dX8_isFinal_57 (tgt := 61) (by decide) ?_
        exact z_zret C X dX8_isFinal_61 rfl (by rw [← Option.some.inj h]; exact ⟨rfl, rfl⟩) (by decide) (by decide)
      · replace h := (ite_e h).1 hc
        refine z_aload_n (pc := 49) (x := a0) C dX8_isFinal_49 (i := 0) rfl rfl ?_
        refine z_get (pc := 50) (v := .int (s0.1 28)) C 0 dX8_isFinal_50 fl_RX8_340 rfl rfl ?_
        refine z_if_ne (pc := 53) C dX8_isFinal_53 (tgt := 60) (by decide) (fun hc => ?_) (fun hc => ?_)
        · replace h := (ite_e h).2 hc
          refine z_iconst (pc := 60) C dX8_isFinal_60 ic_0 ?_
          exact z_zret C X dX8_isFinal_61 rfl (by rw [← Option.some.inj h]; exact ⟨rfl, rfl⟩) (by decide) (by decide)
        · replace h := (ite_e h).1 hc
          refine z_iconst (pc := 56) C dX8_isFinal_56 ic_1 ?_
          refine z_goto (pc := 57) C dX8_isFinal_57 (tgt := 61) (by decide) ?_
          exact z_zret C X dX8_isFinal_61 rfl (by rw [← Option.some.inj h]; exact ⟨rfl, rfl⟩) (by decide) (by decide)
    · replace h := (ite_e h).2 hc
      refine z_iload_n (pc := 14) (x := v1) C dX8_isFinal_14 (i := 1) rfl rfl ?_
      refine z_if_eq (pc := 15) C dX8_isFinal_15 (tgt := 37) (by decide) (fun hc => ?_) (fun hc => ?_)
      · replace h := (ite_e h).1 hc
        refine z_iconst (pc := 37) C dX8_isFinal_37 ic_0 ?_
        refine z_istore_n (pc := 38) C dX8_isFinal_38 (i := 1) rfl (by decide) (lv' := [(1, .int (0 : Int32)), (0, .ref a0), (2, .int v2)]) rfl ?_
        refine z_iinc (pc := 39) C dX8_isFinal_39 rfl (inc_e 1 (1 : Int32) ic_1 v2) (by decide) (lv' := [(2, .int (v2 + (1 : Int32))), (1, .int (0 : Int32)), (0, .ref a0)]) rfl ?_
        refine z_goto (pc := 42) C dX8_isFinal_42 (tgt := 4) (by decide) ?_
        refine z_lv (lv' := [(0, .ref a0), (1, .int (0 : Int32)), (2, .int (v2 + (1 : Int32)))]) [2, 1, 0] rfl ?_
        exact hk4 (0 : Int32) (v2 + (1 : Int32)) h
      · replace h := (ite_e h).2 hc
        refine z_aload_n (pc := 18) (x := a0) C dX8_isFinal_18 (i := 0) rfl rfl ?_
        refine z_get (pc := 19) (v := .ref (r0 24)) C 0 dX8_isFinal_19 fl_RX8_53 rfl rfl ?_
        refine z_iload_n (pc := 22) (x := v2) C dX8_isFinal_22 (i := 2) rfl rfl ?_
        replace h := chk_e h
        obtain ⟨hb1, h⟩ := h
        refine z_iald (pc := 23) C 13 dX8_isFinal_23 rfl hb1 ?_
        refine z_aload_n (pc := 24) (x := a0) C dX8_isFinal_24 (i := 0) rfl rfl ?_
        refine z_get (pc := 25) (v := .ref (r0 0)) C 0 dX8_isFinal_25 fl_RX8_9 rfl rfl ?_
        refine z_iconst (pc := 28) C dX8_isFinal_28 ic_1 ?_
        refine z_iald (pc := 29) C 1 dX8_isFinal_29 rfl (by decide) ?_
        refine z_top1 (v := ((s0.2.2.1 0) 1)) rfl ?_
        refine z_icmp_ne (pc := 30) C dX8_isFinal_30 (tgt := 37) (by decide) (fun hc => ?_) (fun hc => ?_)
        · replace h := (ite_e h).2 hc
          refine z_iconst (pc := 37) C dX8_isFinal_37 ic_0 ?_
          refine z_istore_n (pc := 38) C dX8_isFinal_38 (i := 1) rfl (by decide) (lv' := [(1, .int (0 : Int32)), (0, .ref a0), (2, .int v2)]) rfl ?_
          refine z_iinc (pc := 39) C dX8_isFinal_39 rfl (inc_e 1 (1 : Int32) ic_1 v2) (by decide) (lv' := [(2, .int (v2 + (1 : Int32))), (1, .int (0 : Int32)), (0, .ref a0)]) rfl ?_
          refine z_goto (pc := 42) C dX8_isFinal_42 (tgt := 4) (by decide) ?_
          refine z_lv (lv' := [(0, .ref a0), (1, .int (0 : Int32)), (2, .int (v2 + (1 : Int32)))]) [2, 1, 0] rfl ?_
          exact hk4 (0 : Int32) (v2 + (1 : Int32)) h
        · replace h := (ite_e h).1 hc
          refine z_iconst (pc := 33) C dX8_isFinal_33 ic_1 ?_
          refine z_goto (pc := 34) C dX8_isFinal_34 (tgt := 38) (by decide) ?_
          refine z_istore_n (pc := 38) C dX8_isFinal_38 (i := 1) rfl (by decide) (lv' := [(1, .int (1 : Int32)), (0, .ref a0), (2, .int v2)]) rfl ?_
          refine z_iinc (pc := 39) C dX8_isFinal_39 rfl (inc_e 1 (1 : Int32) ic_1 v2) (by decide) (lv' := [(2, .int (v2 + (1 : Int32))), (1, .int (1 : Int32)), (0, .ref a0)]) rfl ?_
          refine z_goto (pc := 42) C dX8_isFinal_42 (tgt := 4) (by decide) ?_
          refine z_lv (lv' := [(0, .ref a0), (1, .int (1 : Int32)), (2, .int (v2 + (1 : Int32)))]) [2, 1, 0] rfl ?_
          exact hk4 (1 : Int32) (v2 + (1 : Int32)) h
def f_X8_isFinal (N : Nat) (s0 : Ob) : Option (Int32) := (f_X8_isFinal_4 N s0 N (1 : Int32) (0 : Int32))
theorem m_X8_isFinal {g : Gp} {a0 : Nat} {r0 : Nat → Nat} {N : Nat} {s0 : Ob} {res : Int32} (hg : Ok g) (h : f_X8_isFinal N s0 = some res) : Ct g yX8_isFinal cX8_isFinal 3 (some .boolean) (zrm 0 0) [.ref a0] (wX8 g a0 r0 s0) (exR (some (.int res)) (wX8 g a0 r0 s0)) := by
  refine ct_of rfl hg (by show _ ≤ _; exact Nat.le_of_ble_eq_true rfl) (fun K C X => ?_)
  show Zs K 0 0 (wX8 g a0 r0 s0) [(0, .ref a0)] 0 []
  unfold f_X8_isFinal at h
  refine z_iconst (pc := 0) C dX8_isFinal_0 ic_1 ?_
  refine z_istore_n (pc := 1) C dX8_isFinal_1 (i := 1) rfl (by decide) (lv' := [(1, .int (1 : Int32)), (0, .ref a0)]) rfl ?_
  refine z_iconst (pc := 2) C dX8_isFinal_2 ic_0 ?_
  refine z_istore_n (pc := 3) C dX8_isFinal_3 (i := 2) rfl (by decide) (lv' := [(2, .int (0 : Int32)), (1, .int (1 : Int32)), (0, .ref a0)]) rfl ?_
  refine z_lv (lv' := [(0, .ref a0), (1, .int (1 : Int32)), (2, .int (0 : Int32))]) [2, 1, 0] rfl ?_
  exact m_X8_isFinal_4 (a0 := a0) (r0 := r0) hg C X N (1 : Int32) (0 : Int32) h
def F_X8_scoreMade_4 (N : Nat) (s0 : Ob)  (k4 : Int32 → Int32 → Option (Int32)) (v1 : Int32) (v2 : Int32) : Option (Int32) := (if (4 : Int32) ≤ v2 then (some v1) else (chk (inb v2 4) (k4 (v1 + ((s0.2.2.1 24) (v2).toNatClampNeg)) (v2 + (1 : Int32)))))
def f_X8_scoreMade_4 (N : Nat) (s0 : Ob)  : Nat → Int32 → Int32 → Option (Int32) := zlp (fun _ _ => none) (F_X8_scoreMade_4 N s0)
theorem m_X8_scoreMade_4 {K : Kt} {g : Gp} {a0 : Nat} {r0 : Nat → Nat} {N : Nat} {s0 : Ob} {res : Int32} (hg : Ok g) (C : Cx K g cX8_scoreMade RX8 3 (zrm 0 0)) (X : Rx K (exR (some (.int res)) (wX8 g a0 r0 s0)) 0 0 (some .int)) : ∀ (n : Nat) (v1 : Int32) (v2 : Int32), f_X8_scoreMade_4 N s0 n v1 v2 = some res → Zs K 0 0 (wX8 g a0 r0 s0) [(0, .ref a0), (1, .int v1), (2, .int v2)] 4 [] := by
  intro n
  induction n with
  | zero => intro v1 v2 h; exact nomatch (show (none : Option (Int32)) = some res from h)
  | succ n hk4 =>
    intro v1 v2 h
    replace h : F_X8_scoreMade_4 N s0 (f_X8_scoreMade_4 N s0 n) v1 v2 = some res := h
    unfold F_X8_scoreMade_4 at h
    refine z_iload_n (pc := 4) (x := v2) C dX8_scoreMade_4 (i := 2) rfl rfl ?_
    refine z_iconst (pc := 5) C dX8_scoreMade_5 ic_4 ?_
    refine z_icmp_ge (pc := 6) C dX8_scoreMade_6 (tgt := 24) (by decide) (fun hc => ?_) (fun hc => ?_)
    · replace h := (ite_e h).1 hc
      refine z_iload_n (pc := 24) (x := v1) C dX8_scoreMade_24 (i := 1) rfl rfl ?_
      exact z_iret C X dX8_scoreMade_25 (by rw [← Option.some.inj h]; exact ⟨rfl, rfl⟩) (by decide) (by decide)
    · replace h := (ite_e h).2 hc
      refine z_iload_n (pc := 9) (x := v1) C dX8_scoreMade_9 (i := 1) rfl rfl ?_
      refine z_aload_n (pc := 10) (x := a0) C dX8_scoreMade_10 (i := 0) rfl rfl ?_
      refine z_get (pc := 11) (v := .ref (r0 24)) C 0 dX8_scoreMade_11 fl_RX8_53 rfl rfl ?_
      refine z_iload_n (pc := 14) (x := v2) C dX8_scoreMade_14 (i := 2) rfl rfl ?_
      replace h := chk_e h
      obtain ⟨hb1, h⟩ := h
      refine z_iald (pc := 15) C 13 dX8_scoreMade_15 rfl hb1 ?_
      refine z_iadd (pc := 16) C dX8_scoreMade_16 ?_
      refine z_istore_n (pc := 17) C dX8_scoreMade_17 (i := 1) rfl (by decide) (lv' := [(1, .int (v1 + ((s0.2.2.1 24) (v2).toNatClampNeg))), (0, .ref a0), (2, .int v2)]) rfl ?_
      refine z_iinc (pc := 18) C dX8_scoreMade_18 rfl (inc_e 1 (1 : Int32) ic_1 v2) (by decide) (lv' := [(2, .int (v2 + (1 : Int32))), (1, .int (v1 + ((s0.2.2.1 24) (v2).toNatClampNeg))), (0, .ref a0)]) rfl ?_
      refine z_goto (pc := 21) C dX8_scoreMade_21 (tgt := 4) (by decide) ?_
      refine z_lv (lv' := [(0, .ref a0), (1, .int (v1 + ((s0.2.2.1 24) (v2).toNatClampNeg))), (2, .int (v2 + (1 : Int32)))]) [2, 1, 0] rfl ?_
      exact hk4 (v1 + ((s0.2.2.1 24) (v2).toNatClampNeg)) (v2 + (1 : Int32)) h
def f_X8_scoreMade (N : Nat) (s0 : Ob) : Option (Int32) := (f_X8_scoreMade_4 N s0 N (0 : Int32) (0 : Int32))
theorem m_X8_scoreMade {g : Gp} {a0 : Nat} {r0 : Nat → Nat} {N : Nat} {s0 : Ob} {res : Int32} (hg : Ok g) (h : f_X8_scoreMade N s0 = some res) : Ct g yX8_scoreMade cX8_scoreMade 3 (some .int) (zrm 0 0) [.ref a0] (wX8 g a0 r0 s0) (exR (some (.int res)) (wX8 g a0 r0 s0)) := by
  refine ct_of rfl hg (by show _ ≤ _; exact Nat.le_of_ble_eq_true rfl) (fun K C X => ?_)
  show Zs K 0 0 (wX8 g a0 r0 s0) [(0, .ref a0)] 0 []
  unfold f_X8_scoreMade at h
  refine z_iconst (pc := 0) C dX8_scoreMade_0 ic_0 ?_
  refine z_istore_n (pc := 1) C dX8_scoreMade_1 (i := 1) rfl (by decide) (lv' := [(1, .int (0 : Int32)), (0, .ref a0)]) rfl ?_
  refine z_iconst (pc := 2) C dX8_scoreMade_2 ic_0 ?_
  refine z_istore_n (pc := 3) C dX8_scoreMade_3 (i := 2) rfl (by decide) (lv' := [(2, .int (0 : Int32)), (1, .int (0 : Int32)), (0, .ref a0)]) rfl ?_
  refine z_lv (lv' := [(0, .ref a0), (1, .int (0 : Int32)), (2, .int (0 : Int32))]) [2, 1, 0] rfl ?_
  exact m_X8_scoreMade_4 (a0 := a0) (r0 := r0) hg C X N (0 : Int32) (0 : Int32) h
def f_X8_moves_212 (N : Nat) (p1 : Int32) (p2 : Int32)  (s0 : Ob) : Option (Ob) := (chk (decide (¬ ((s0.2.2.1 0) 2) = 0)) (znm (((s0.1 27) + (1 : Int32)) - ((s0.1 27) + (1 : Int32)) / ((s0.2.2.1 0) 2) * ((s0.2.2.1 0) 2)) fun x2 => (some (si s0 27 x2))))
theorem m_X8_moves_212 {K : Kt} {g : Gp} {a0 : Nat} {r0 : Nat → Nat} {N : Nat} {p1 : Int32} {p2 : Int32} {res : Ob} (hg : Ok g) (C : Cx K g cX8_moves RX8 5 (zrm 1 20)) (X : Rx K (exR none (wX8 g a0 r0 res)) 0 0 none) (s0 : Ob) (h : f_X8_moves_212 N p1 p2 s0 = some res) : Zs K 0 0 (wX8 g a0 r0 s0) [(0, .ref a0)] 212 [] := by
  unfold f_X8_moves_212 at h
  refine z_aload_n (pc := 212) (x := a0) C dX8_moves_212 (i := 0) rfl rfl ?_
  refine z_aload_n (pc := 213) (x := a0) C dX8_moves_213 (i := 0) rfl rfl ?_
  refine z_get (pc := 214) (v := .int (s0.1 27)) C 0 dX8_moves_214 fl_RX8_343 rfl rfl ?_
  refine z_iconst (pc := 217) C dX8_moves_217 ic_1 ?_
  refine z_iadd (pc := 218) C dX8_moves_218 ?_
  refine z_aload_n (pc := 219) (x := a0) C dX8_moves_219 (i := 0) rfl rfl ?_
  refine z_get (pc := 220) (v := .ref (r0 0)) C 0 dX8_moves_220 fl_RX8_9 rfl rfl ?_
  refine z_iconst (pc := 223) C dX8_moves_223 ic_2 ?_
  refine z_iald (pc := 224) C 1 dX8_moves_224 rfl (by decide) ?_
  refine z_top1 (v := ((s0.2.2.1 0) 2)) rfl ?_
  replace h := chk_e h
  obtain ⟨hb1, h⟩ := h
  refine z_irem (pc := 225) C dX8_moves_225 (of_decide_eq_true hb1) ?_
  replace h := znm_e h
  obtain ⟨x2, hx2, h⟩ := h
  refine z_top1 hx2 ?_
  refine z_put (pc := 226) C 0 dX8_moves_226 fp_RX8_343 rfl rfl rfl (zlt_b rfl) (ws' := (wX8 g a0 r0 (si s0 27 x2))) rfl ?_
  exact z_vret C X dX8_moves_229 (by rw [← Option.some.inj h]; exact ⟨rfl, rfl⟩) (by decide) (by decide)
def f_X8_moves_160 (N : Nat) (p1 : Int32) (p2 : Int32)  (v3 : Int32) (t1 : Int32) (t2 : Int32) (s0 : Ob) : Option (Ob) := (if (s0.1 28) = (-1 : Int32) then (if v3 = 0 then (f_X8_moves_212 N p1 p2 (si s0 25 (t1 - t2))) else (if (s0.1 26) = ((s0.2.2.1 0) 4) then (znm (si s0 25 (t1 - t2)) fun y3 => (f_X8_moves_212 N p1 p2 (si y3 28 ((s0.2.2.1 0) 2)))) else (f_X8_moves_212 N p1 p2 (si s0 25 (t1 - t2))))) else (znm (si s0 25 (t1 - t2)) fun y4 => (f_X8_moves_212 N p1 p2 (si y4 28 ((s0.1 28) - (1 : Int32))))))
theorem m_X8_moves_160 {K : Kt} {g : Gp} {a0 : Nat} {r0 : Nat → Nat} {N : Nat} {p1 : Int32} {p2 : Int32} {res : Ob} (hg : Ok g) (C : Cx K g cX8_moves RX8 5 (zrm 1 20)) (X : Rx K (exR none (wX8 g a0 r0 res)) 0 0 none) (v3 : Int32) (t1 : Int32) (t2 : Int32) (s0 : Ob) (h : f_X8_moves_160 N p1 p2 v3 t1 t2 s0 = some res) : Zs K 0 0 (wX8 g a0 r0 s0) [(0, .ref a0), (3, .int v3)] 160 [.int t2, .int t1, .ref a0] := by
  unfold f_X8_moves_160 at h
  refine z_isub (pc := 160) C dX8_moves_160 ?_
  refine z_put (pc := 161) C 0 dX8_moves_161 fp_RX8_349 rfl rfl rfl (zlt_b rfl) (ws' := (wX8 g a0 r0 (si s0 25 (t1 - t2)))) rfl ?_
  refine z_aload_n (pc := 164) (x := a0) C dX8_moves_164 (i := 0) rfl rfl ?_
  refine z_get (pc := 165) (v := .int (s0.1 28)) C 0 dX8_moves_165 fl_RX8_340 rfl rfl ?_
  refine z_iconst (pc := 168) C dX8_moves_168 ic_m1 ?_
  refine z_icmp_eq (pc := 169) C dX8_moves_169 (tgt := 185) (by decide) (fun hc => ?_) (fun hc => ?_)
  · replace h := (ite_e h).1 hc
    refine z_iload_n (pc := 185) (x := v3) C dX8_moves_185 (i := 3) rfl rfl ?_
    refine z_if_eq (pc := 186) C dX8_moves_186 (tgt := 212) (by decide) (fun hc => ?_) (fun hc => ?_)
    · replace h := (ite_e h).1 hc
      refine z_lv (lv' := [(0, .ref a0)]) [0] rfl ?_
      exact m_X8_moves_212 (a0 := a0) (r0 := r0) hg C X (si s0 25 (t1 - t2)) h
    · replace h := (ite_e h).2 hc
      refine z_aload_n (pc := 189) (x := a0) C dX8_moves_189 (i := 0) rfl rfl ?_
      refine z_get (pc := 190) (v := .int (s0.1 26)) C 0 dX8_moves_190 fl_RX8_346 rfl rfl ?_
      refine z_aload_n (pc := 193) (x := a0) C dX8_moves_193 (i := 0) rfl rfl ?_
      refine z_get (pc := 194) (v := .ref (r0 0)) C 0 dX8_moves_194 fl_RX8_9 rfl rfl ?_
      refine z_iconst (pc := 197) C dX8_moves_197 ic_4 ?_
      refine z_iald (pc := 198) C 1 dX8_moves_198 rfl (by decide) ?_
      refine z_top1 (v := ((s0.2.2.1 0) 4)) rfl ?_
      refine z_icmp_ne (pc := 199) C dX8_moves_199 (tgt := 212) (by decide) (fun hc => ?_) (fun hc => ?_)
      · replace h := (ite_e h).2 hc
        refine z_lv (lv' := [(0, .ref a0)]) [0] rfl ?_
        exact m_X8_moves_212 (a0 := a0) (r0 := r0) hg C X (si s0 25 (t1 - t2)) h
      · replace h := (ite_e h).1 hc
        refine z_aload_n (pc := 202) (x := a0) C dX8_moves_202 (i := 0) rfl rfl ?_
        refine z_aload_n (pc := 203) (x := a0) C dX8_moves_203 (i := 0) rfl rfl ?_
        refine z_get (pc := 204) (v := .ref (r0 0)) C 0 dX8_moves_204 fl_RX8_9 rfl rfl ?_
        refine z_iconst (pc := 207) C dX8_moves_207 ic_2 ?_
        refine z_iald (pc := 208) C 1 dX8_moves_208 rfl (by decide) ?_
        refine z_top1 (v := ((s0.2.2.1 0) 2)) rfl ?_
        replace h := znm_e h
        obtain ⟨y3, hy3, h⟩ := h
        refine z_wsE (ws' := (wX8 g a0 r0 y3)) (by rw [hy3]) ?_
        refine z_put (pc := 209) C 0 dX8_moves_209 fp_RX8_340 rfl rfl rfl (zlt_b rfl) (ws' := (wX8 g a0 r0 (si y3 28 ((s0.2.2.1 0) 2)))) rfl ?_
        refine z_lv (lv' := [(0, .ref a0)]) [0] rfl ?_
        exact m_X8_moves_212 (a0 := a0) (r0 := r0) hg C X (si y3 28 ((s0.2.2.1 0) 2)) h
  · replace h := (ite_e h).2 hc
    refine z_aload_n (pc := 172) (x := a0) C dX8_moves_172 (i := 0) rfl rfl ?_
    refine z_dup (pc := 173) C dX8_moves_173 rfl ?_
    refine z_get (pc := 174) (v := .int (s0.1 28)) C 0 dX8_moves_174 fl_RX8_340 rfl rfl ?_
    refine z_iconst (pc := 177) C dX8_moves_177 ic_1 ?_
    refine z_isub (pc := 178) C dX8_moves_178 ?_
    replace h := znm_e h
    obtain ⟨y4, hy4, h⟩ := h
    refine z_wsE (ws' := (wX8 g a0 r0 y4)) (by rw [hy4]) ?_
    refine z_put (pc := 179) C 0 dX8_moves_179 fp_RX8_340 rfl rfl rfl (zlt_b rfl) (ws' := (wX8 g a0 r0 (si y4 28 ((s0.1 28) - (1 : Int32))))) rfl ?_
    refine z_goto (pc := 182) C dX8_moves_182 (tgt := 212) (by decide) ?_
    refine z_lv (lv' := [(0, .ref a0)]) [0] rfl ?_
    exact m_X8_moves_212 (a0 := a0) (r0 := r0) hg C X (si y4 28 ((s0.1 28) - (1 : Int32))) h
def f_X8_moves_145 (N : Nat) (p1 : Int32) (p2 : Int32)  (v3 : Int32) (s0 : Ob) : Option (Ob) := (if p1 = (2 : Int32) then (f_X8_moves_160 N p1 p2 v3 (s0.1 25) (1 : Int32) s0) else (f_X8_moves_160 N p1 p2 v3 (s0.1 25) (0 : Int32) s0))
theorem m_X8_moves_145 {K : Kt} {g : Gp} {a0 : Nat} {r0 : Nat → Nat} {N : Nat} {p1 : Int32} {p2 : Int32} {res : Ob} (hg : Ok g) (C : Cx K g cX8_moves RX8 5 (zrm 1 20)) (X : Rx K (exR none (wX8 g a0 r0 res)) 0 0 none) (v3 : Int32) (s0 : Ob) (h : f_X8_moves_145 N p1 p2 v3 s0 = some res) : Zs K 0 0 (wX8 g a0 r0 s0) [(0, .ref a0), (1, .int p1), (3, .int v3)] 145 [] := by
  unfold f_X8_moves_145 at h
  refine z_aload_n (pc := 145) (x := a0) C dX8_moves_145 (i := 0) rfl rfl ?_
  refine z_dup (pc := 146) C dX8_moves_146 rfl ?_
  refine z_get (pc := 147) (v := .int (s0.1 25)) C 0 dX8_moves_147 fl_RX8_349 rfl rfl ?_
  refine z_iload_n (pc := 150) (x := p1) C dX8_moves_150 (i := 1) rfl rfl ?_
  refine z_iconst (pc := 151) C dX8_moves_151 ic_2 ?_
  refine z_icmp_ne (pc := 152) C dX8_moves_152 (tgt := 159) (by decide) (fun hc => ?_) (fun hc => ?_)
  · replace h := (ite_e h).2 hc
    refine z_iconst (pc := 159) C dX8_moves_159 ic_0 ?_
    refine z_lv (lv' := [(0, .ref a0), (3, .int v3)]) [0, 2] rfl ?_
    exact m_X8_moves_160 (a0 := a0) (r0 := r0) hg C X v3 (s0.1 25) (0 : Int32) s0 h
  · replace h := (ite_e h).1 hc
    refine z_iconst (pc := 155) C dX8_moves_155 ic_1 ?_
    refine z_goto (pc := 156) C dX8_moves_156 (tgt := 160) (by decide) ?_
    refine z_lv (lv' := [(0, .ref a0), (3, .int v3)]) [0, 2] rfl ?_
    exact m_X8_moves_160 (a0 := a0) (r0 := r0) hg C X v3 (s0.1 25) (1 : Int32) s0 h
def f_X8_moves_112 (N : Nat) (p1 : Int32) (p2 : Int32)  (t0 : Int32) (s0 : Ob) : Option (Ob) := (if t0 = 0 then (f_X8_moves_145 N p1 p2 t0 s0) else (chk (inb (s0.1 27) 4) (znm (((s0.2.2.2 23) ((s0.1 27)).toNatClampNeg) ||| ((1 : Int64) <<< (((s0.1 26)).toInt64 &&& 63))) fun x11 => (chk (inb (s0.1 27) 4) (znm (sb s0 23 (vp_updL (s0.2.2.2 23) ((s0.1 27)).toNatClampNeg x11)) fun y13 => (f_X8_moves_145 N p1 p2 t0 (si y13 26 ((s0.1 26) + (1 : Int32)))))))))
theorem m_X8_moves_112 {K : Kt} {g : Gp} {a0 : Nat} {r0 : Nat → Nat} {N : Nat} {p1 : Int32} {p2 : Int32} {res : Ob} (hg : Ok g) (C : Cx K g cX8_moves RX8 5 (zrm 1 20)) (X : Rx K (exR none (wX8 g a0 r0 res)) 0 0 none) (t0 : Int32) (s0 : Ob) (h : f_X8_moves_112 N p1 p2 t0 s0 = some res) : Zs K 0 0 (wX8 g a0 r0 s0) [(0, .ref a0), (1, .int p1)] 112 [.int t0] := by
  unfold f_X8_moves_112 at h
  refine z_istore_n (pc := 112) C dX8_moves_112 (i := 3) rfl (by decide) (lv' := [(3, .int t0), (0, .ref a0), (1, .int p1)]) rfl ?_
  refine z_iload_n (pc := 113) (x := t0) C dX8_moves_113 (i := 3) rfl rfl ?_
  refine z_if_eq (pc := 114) C dX8_moves_114 (tgt := 145) (by decide) (fun hc => ?_) (fun hc => ?_)
  · replace h := (ite_e h).1 hc
    refine z_lv (lv' := [(0, .ref a0), (1, .int p1), (3, .int t0)]) [1, 2, 0] rfl ?_
    exact m_X8_moves_145 (a0 := a0) (r0 := r0) hg C X t0 s0 h
  · replace h := (ite_e h).2 hc
    refine z_aload_n (pc := 117) (x := a0) C dX8_moves_117 (i := 0) rfl rfl ?_
    refine z_get (pc := 118) (v := .ref (r0 23)) C 0 dX8_moves_118 fl_RX8_50 rfl rfl ?_
    refine z_aload_n (pc := 121) (x := a0) C dX8_moves_121 (i := 0) rfl rfl ?_
    refine z_get (pc := 122) (v := .int (s0.1 27)) C 0 dX8_moves_122 fl_RX8_343 rfl rfl ?_
    refine z_dup2 (pc := 125) C dX8_moves_125 rfl rfl ?_
    replace h := chk_e h
    obtain ⟨hb10, h⟩ := h
    refine z_lald (pc := 126) C 12 dX8_moves_126 rfl hb10 ?_
    refine z_lconst (pc := 127) (v := (1 : Int64)) C dX8_moves_127 rfl ?_
    refine z_aload_n (pc := 128) (x := a0) C dX8_moves_128 (i := 0) rfl rfl ?_
    refine z_get (pc := 129) (v := .int (s0.1 26)) C 0 dX8_moves_129 fl_RX8_346 rfl rfl ?_
    refine z_lshl (pc := 132) C dX8_moves_132 ?_
    refine z_lor (pc := 133) C dX8_moves_133 ?_
    replace h := znm_e h
    obtain ⟨x11, hx11, h⟩ := h
    refine z_top2 hx11 ?_
    replace h := chk_e h
    obtain ⟨hb12, h⟩ := h
    refine z_last (pc := 134) C 12 dX8_moves_134 rfl hb12 (ws' := (wX8 g a0 r0 (sb s0 23 (vp_updL (s0.2.2.2 23) ((s0.1 27)).toNatClampNeg x11)))) rfl ?_
    refine z_aload_n (pc := 135) (x := a0) C dX8_moves_135 (i := 0) rfl rfl ?_
    refine z_dup (pc := 136) C dX8_moves_136 rfl ?_
    refine z_get (pc := 137) (v := .int (s0.1 26)) C 0 dX8_moves_137 fl_RX8_346 rfl rfl ?_
    refine z_iconst (pc := 140) C dX8_moves_140 ic_1 ?_
    refine z_iadd (pc := 141) C dX8_moves_141 ?_
    replace h := znm_e h
    obtain ⟨y13, hy13, h⟩ := h
    refine z_wsE (ws' := (wX8 g a0 r0 y13)) (by rw [hy13]) ?_
    refine z_put (pc := 142) C 0 dX8_moves_142 fp_RX8_346 rfl rfl rfl (zlt_b rfl) (ws' := (wX8 g a0 r0 (si y13 26 ((s0.1 26) + (1 : Int32))))) rfl ?_
    refine z_lv (lv' := [(0, .ref a0), (1, .int p1), (3, .int t0)]) [1, 2, 0] rfl ?_
    exact m_X8_moves_145 (a0 := a0) (r0 := r0) hg C X t0 (si y13 26 ((s0.1 26) + (1 : Int32))) h
def f_X8_moves_94 (N : Nat) (p1 : Int32) (p2 : Int32)  (s0 : Ob) : Option (Ob) := (if ((s0.2.2.1 0) 4) ≤ (s0.1 26) then (f_X8_moves_112 N p1 p2 (0 : Int32) s0) else (f_X8_moves_112 N p1 p2 (1 : Int32) s0))
theorem m_X8_moves_94 {K : Kt} {g : Gp} {a0 : Nat} {r0 : Nat → Nat} {N : Nat} {p1 : Int32} {p2 : Int32} {res : Ob} (hg : Ok g) (C : Cx K g cX8_moves RX8 5 (zrm 1 20)) (X : Rx K (exR none (wX8 g a0 r0 res)) 0 0 none) (s0 : Ob) (h : f_X8_moves_94 N p1 p2 s0 = some res) : Zs K 0 0 (wX8 g a0 r0 s0) [(0, .ref a0), (1, .int p1)] 94 [] := by
  unfold f_X8_moves_94 at h
  refine z_aload_n (pc := 94) (x := a0) C dX8_moves_94 (i := 0) rfl rfl ?_
  refine z_get (pc := 95) (v := .int (s0.1 26)) C 0 dX8_moves_95 fl_RX8_346 rfl rfl ?_
  refine z_aload_n (pc := 98) (x := a0) C dX8_moves_98 (i := 0) rfl rfl ?_
  refine z_get (pc := 99) (v := .ref (r0 0)) C 0 dX8_moves_99 fl_RX8_9 rfl rfl ?_
  refine z_iconst (pc := 102) C dX8_moves_102 ic_4 ?_
  refine z_iald (pc := 103) C 1 dX8_moves_103 rfl (by decide) ?_
  refine z_top1 (v := ((s0.2.2.1 0) 4)) rfl ?_
  refine z_icmp_ge (pc := 104) C dX8_moves_104 (tgt := 111) (by decide) (fun hc => ?_) (fun hc => ?_)
  · replace h := (ite_e h).1 hc
    refine z_iconst (pc := 111) C dX8_moves_111 ic_0 ?_
    exact m_X8_moves_112 (a0 := a0) (r0 := r0) hg C X (0 : Int32) s0 h
  · replace h := (ite_e h).2 hc
    refine z_iconst (pc := 107) C dX8_moves_107 ic_1 ?_
    refine z_goto (pc := 108) C dX8_moves_108 (tgt := 112) (by decide) ?_
    exact m_X8_moves_112 (a0 := a0) (r0 := r0) hg C X (1 : Int32) s0 h
def f_X8_moves_74 (N : Nat) (p1 : Int32) (p2 : Int32)  (s0 : Ob) : Option (Ob) := (znm (if ((s0.1 25) + (1 : Int32)) < ((s0.2.2.1 0) 6) then ((s0.1 25) + (1 : Int32)) else ((s0.2.2.1 0) 6)) fun x9 => (f_X8_moves_94 N p1 p2 (si s0 25 x9)))
theorem m_X8_moves_74 {K : Kt} {g : Gp} {a0 : Nat} {r0 : Nat → Nat} {N : Nat} {p1 : Int32} {p2 : Int32} {res : Ob} (hg : Ok g) (C : Cx K g cX8_moves RX8 5 (zrm 1 20)) (X : Rx K (exR none (wX8 g a0 r0 res)) 0 0 none) (s0 : Ob) (h : f_X8_moves_74 N p1 p2 s0 = some res) : Zs K 0 0 (wX8 g a0 r0 s0) [(0, .ref a0), (1, .int p1)] 74 [] := by
  unfold f_X8_moves_74 at h
  refine z_aload_n (pc := 74) (x := a0) C dX8_moves_74 (i := 0) rfl rfl ?_
  refine z_aload_n (pc := 75) (x := a0) C dX8_moves_75 (i := 0) rfl rfl ?_
  refine z_get (pc := 76) (v := .ref (r0 0)) C 0 dX8_moves_76 fl_RX8_9 rfl rfl ?_
  refine z_bipush (pc := 79) C dX8_moves_79 bp_6 ?_
  refine z_iald (pc := 81) C 1 dX8_moves_81 rfl (by decide) ?_
  refine z_top1 (v := ((s0.2.2.1 0) 6)) rfl ?_
  refine z_aload_n (pc := 82) (x := a0) C dX8_moves_82 (i := 0) rfl rfl ?_
  refine z_get (pc := 83) (v := .int (s0.1 25)) C 0 dX8_moves_83 fl_RX8_349 rfl rfl ?_
  refine z_iconst (pc := 86) C dX8_moves_86 ic_1 ?_
  refine z_iadd (pc := 87) C dX8_moves_87 ?_
  refine z_mmin (pc := 88) C dX8_moves_88 ml_RX8_114 wm_min (by decide) (Nat.le_of_ble_eq_true rfl) (by decide) (by decide) ?_
  replace h := znm_e h
  obtain ⟨x9, hx9, h⟩ := h
  refine z_top1 hx9 ?_
  refine z_put (pc := 91) C 0 dX8_moves_91 fp_RX8_349 rfl rfl rfl (zlt_b rfl) (ws' := (wX8 g a0 r0 (si s0 25 x9))) rfl ?_
  exact m_X8_moves_94 (a0 := a0) (r0 := r0) hg C X (si s0 25 x9) h
def f_X8_moves_55 (N : Nat) (p1 : Int32) (p2 : Int32)  (v4 : Int32) (s0 : Ob) : Option (Ob) := (if p1 = (1 : Int32) then (f_X8_moves_74 N p1 p2 s0) else (ob (f_X8_rankOf N v4) fun x14 => (if x14 = ((s0.2.2.1 0) 1) then (f_X8_moves_74 N p1 p2 s0) else (f_X8_moves_94 N p1 p2 s0))))
theorem m_X8_moves_55 {K : Kt} {g : Gp} {a0 : Nat} {r0 : Nat → Nat} {N : Nat} {p1 : Int32} {p2 : Int32} {res : Ob} (hg : Ok g) (C : Cx K g cX8_moves RX8 5 (zrm 1 20)) (X : Rx K (exR none (wX8 g a0 r0 res)) 0 0 none) (v4 : Int32) (s0 : Ob) (h : f_X8_moves_55 N p1 p2 v4 s0 = some res) : Zs K 0 0 (wX8 g a0 r0 s0) [(0, .ref a0), (1, .int p1), (4, .int v4)] 55 [] := by
  unfold f_X8_moves_55 at h
  refine z_iload_n (pc := 55) (x := p1) C dX8_moves_55 (i := 1) rfl rfl ?_
  refine z_iconst (pc := 56) C dX8_moves_56 ic_1 ?_
  refine z_icmp_eq (pc := 57) C dX8_moves_57 (tgt := 74) (by decide) (fun hc => ?_) (fun hc => ?_)
  · replace h := (ite_e h).1 hc
    refine z_lv (lv' := [(0, .ref a0), (1, .int p1)]) [0, 1] rfl ?_
    exact m_X8_moves_74 (a0 := a0) (r0 := r0) hg C X s0 h
  · replace h := (ite_e h).2 hc
    refine z_iload (pc := 60) (x := v4) C dX8_moves_60 rfl ?_
    replace h := ob_e h
    obtain ⟨x14, hx14, h⟩ := h
    refine z_callS (pc := 62) (As := [.int v4]) (rest := []) (wr := (wX8 g a0 r0 s0)) C dX8_moves_62 ml_RX8_74 wt_X8_rankOf (m_X8_rankOf hg hx14) [] [0, 1, 2, 3, 4, 5, 6, 7, 8, 9, 10, 11, 12, 13, 14] rfl rfl ⟨by decide, by decide⟩ (Nat.le_of_ble_eq_true rfl) ⟨by decide, by decide⟩ rfl rfl rfl rfl (by decide) (ex_k C (cs' := 0) (ss' := 0) (wF := (wX8 g a0 r0 s0)) [0, 1, 2, 3, 4, 5, 6, 7, 8, 9, 10, 11, 12, 13, 14] rfl rfl ?_)
    refine z_aload_n (pc := 65) (x := a0) C dX8_moves_65 (i := 0) rfl rfl ?_
    refine z_get (pc := 66) (v := .ref (r0 0)) C 0 dX8_moves_66 fl_RX8_9 rfl rfl ?_
    refine z_iconst (pc := 69) C dX8_moves_69 ic_1 ?_
    refine z_iald (pc := 70) C 1 dX8_moves_70 rfl (by decide) ?_
    refine z_top1 (v := ((s0.2.2.1 0) 1)) rfl ?_
    refine z_icmp_ne (pc := 71) C dX8_moves_71 (tgt := 94) (by decide) (fun hc => ?_) (fun hc => ?_)
    · replace h := (ite_e h).2 hc
      refine z_lv (lv' := [(0, .ref a0), (1, .int p1)]) [0, 1] rfl ?_
      exact m_X8_moves_94 (a0 := a0) (r0 := r0) hg C X s0 h
    · replace h := (ite_e h).1 hc
      refine z_lv (lv' := [(0, .ref a0), (1, .int p1)]) [0, 1] rfl ?_
      exact m_X8_moves_74 (a0 := a0) (r0 := r0) hg C X s0 h
def f_X8_moves (N : Nat) (s0 : Ob) (p1 : Int32) (p2 : Int32) : Option (Ob) := (if (2 : Int32) ≤ p1 then (f_X8_moves_145 N p1 p2 (0 : Int32) s0) else (chk (inb (s0.1 27) 4) (znm (((s0.2.2.2 23) ((s0.1 27)).toNatClampNeg) &&& (((1 : Int64) <<< ((p2).toInt64 &&& 63)) ^^^ (-1 : Int64))) fun x6 => (chk (inb (s0.1 27) 4) (chk (inb ((27 : Int32) + p2) 358) (if p1 = 0 then (ob (f_X8_colorOf N ((s0.2.2.1 0) (((27 : Int32) + p2)).toNatClampNeg)) fun x15 => (chk (inb x15 4) (znm (sb s0 23 (vp_updL (s0.2.2.2 23) ((s0.1 27)).toNatClampNeg x6)) fun y17 => (chk (inb x15 4) (f_X8_moves_55 N p1 p2 ((s0.2.2.1 0) (((27 : Int32) + p2)).toNatClampNeg) (sa y17 24 (upd (y17.2.2.1 24) (x15).toNatClampNeg (((s0.2.2.1 24) (x15).toNatClampNeg) + (1 : Int32))))))))) else (f_X8_moves_55 N p1 p2 ((s0.2.2.1 0) (((27 : Int32) + p2)).toNatClampNeg) (sb s0 23 (vp_updL (s0.2.2.2 23) ((s0.1 27)).toNatClampNeg x6)))))))))
theorem m_X8_moves {g : Gp} {a0 : Nat} {r0 : Nat → Nat} {N : Nat} {s0 : Ob} {p1 : Int32} {p2 : Int32} {res : Ob} (hg : Ok g) (h : f_X8_moves N s0 p1 p2 = some res) : Ct g yX8_moves cX8_moves 5 none (zrm 1 20) [.ref a0, .int p1, .int p2] (wX8 g a0 r0 s0) (exR none (wX8 g a0 r0 res)) := by
  refine ct_of rfl hg (by show _ ≤ _; exact Nat.le_of_ble_eq_true rfl) (fun K C X => ?_)
  show Zs K 0 0 (wX8 g a0 r0 s0) [(0, .ref a0), (1, .int p1), (2, .int p2)] 0 []
  unfold f_X8_moves at h
  refine z_iconst (pc := 0) C dX8_moves_0 ic_0 ?_
  refine z_istore_n (pc := 1) C dX8_moves_1 (i := 3) rfl (by decide) (lv' := [(3, .int (0 : Int32)), (0, .ref a0), (1, .int p1), (2, .int p2)]) rfl ?_
  refine z_iload_n (pc := 2) (x := p1) C dX8_moves_2 (i := 1) rfl rfl ?_
  refine z_iconst (pc := 3) C dX8_moves_3 ic_2 ?_
  refine z_icmp_ge (pc := 4) C dX8_moves_4 (tgt := 145) (by decide) (fun hc => ?_) (fun hc => ?_)
  · replace h := (ite_e h).1 hc
    refine z_lv (lv' := [(0, .ref a0), (1, .int p1), (3, .int (0 : Int32))]) [1, 2, 0] rfl ?_
    exact m_X8_moves_145 (a0 := a0) (r0 := r0) hg C X (0 : Int32) s0 h
  · replace h := (ite_e h).2 hc
    refine z_aload_n (pc := 7) (x := a0) C dX8_moves_7 (i := 0) rfl rfl ?_
    refine z_get (pc := 8) (v := .ref (r0 23)) C 0 dX8_moves_8 fl_RX8_50 rfl rfl ?_
    refine z_aload_n (pc := 11) (x := a0) C dX8_moves_11 (i := 0) rfl rfl ?_
    refine z_get (pc := 12) (v := .int (s0.1 27)) C 0 dX8_moves_12 fl_RX8_343 rfl rfl ?_
    refine z_dup2 (pc := 15) C dX8_moves_15 rfl rfl ?_
    replace h := chk_e h
    obtain ⟨hb5, h⟩ := h
    refine z_lald (pc := 16) C 12 dX8_moves_16 rfl hb5 ?_
    refine z_lconst (pc := 17) (v := (1 : Int64)) C dX8_moves_17 rfl ?_
    refine z_iload_n (pc := 18) (x := p2) C dX8_moves_18 (i := 2) rfl rfl ?_
    refine z_lshl (pc := 19) C dX8_moves_19 ?_
    refine z_ldc2 (pc := 20) C dX8_moves_20 kl_RX8_364 ?_
    refine z_lxor (pc := 23) C dX8_moves_23 ?_
    refine z_land (pc := 24) C dX8_moves_24 ?_
    replace h := znm_e h
    obtain ⟨x6, hx6, h⟩ := h
    refine z_top2 hx6 ?_
    replace h := chk_e h
    obtain ⟨hb7, h⟩ := h
    refine z_last (pc := 25) C 12 dX8_moves_25 rfl hb7 (ws' := (wX8 g a0 r0 (sb s0 23 (vp_updL (s0.2.2.2 23) ((s0.1 27)).toNatClampNeg x6)))) rfl ?_
    refine z_aload_n (pc := 26) (x := a0) C dX8_moves_26 (i := 0) rfl rfl ?_
    refine z_get (pc := 27) (v := .ref (r0 0)) C 0 dX8_moves_27 fl_RX8_9 rfl rfl ?_
    refine z_bipush (pc := 30) C dX8_moves_30 bp_27 ?_
    refine z_iload_n (pc := 32) (x := p2) C dX8_moves_32 (i := 2) rfl rfl ?_
    refine z_iadd (pc := 33) C dX8_moves_33 ?_
    replace h := chk_e h
    obtain ⟨hb8, h⟩ := h
    refine z_iald (pc := 34) C 1 dX8_moves_34 rfl hb8 ?_
    refine z_istore (pc := 35) C dX8_moves_35 (by decide) (lv' := [(4, .int ((s0.2.2.1 0) (((27 : Int32) + p2)).toNatClampNeg)), (3, .int (0 : Int32)), (0, .ref a0), (1, .int p1), (2, .int p2)]) rfl ?_
    refine z_iload_n (pc := 37) (x := p1) C dX8_moves_37 (i := 1) rfl rfl ?_
    refine z_if_ne (pc := 38) C dX8_moves_38 (tgt := 55) (by decide) (fun hc => ?_) (fun hc => ?_)
    · replace h := (ite_e h).2 hc
      refine z_lv (lv' := [(0, .ref a0), (1, .int p1), (4, .int ((s0.2.2.1 0) (((27 : Int32) + p2)).toNatClampNeg))]) [2, 3, 0] rfl ?_
      exact m_X8_moves_55 (a0 := a0) (r0 := r0) hg C X ((s0.2.2.1 0) (((27 : Int32) + p2)).toNatClampNeg) (sb s0 23 (vp_updL (s0.2.2.2 23) ((s0.1 27)).toNatClampNeg x6)) h
    · replace h := (ite_e h).1 hc
      refine z_aload_n (pc := 41) (x := a0) C dX8_moves_41 (i := 0) rfl rfl ?_
      refine z_get (pc := 42) (v := .ref (r0 24)) C 0 dX8_moves_42 fl_RX8_53 rfl rfl ?_
      refine z_iload (pc := 45) (x := ((s0.2.2.1 0) (((27 : Int32) + p2)).toNatClampNeg)) C dX8_moves_45 rfl ?_
      replace h := ob_e h
      obtain ⟨x15, hx15, h⟩ := h
      refine z_callS (pc := 47) (As := [.int ((s0.2.2.1 0) (((27 : Int32) + p2)).toNatClampNeg)]) (rest := [.ref (r0 24)]) (wr := (wX8 g a0 r0 (sb s0 23 (vp_updL (s0.2.2.2 23) ((s0.1 27)).toNatClampNeg x6)))) C dX8_moves_47 ml_RX8_70 wt_X8_colorOf (m_X8_colorOf hg hx15) [] [0, 1, 2, 3, 4, 5, 6, 7, 8, 9, 10, 11, 12, 13, 14] rfl rfl ⟨by decide, by decide⟩ (Nat.le_of_ble_eq_true rfl) ⟨by decide, by decide⟩ rfl rfl rfl rfl (by decide) (ex_k C (cs' := 0) (ss' := 0) (wF := (wX8 g a0 r0 (sb s0 23 (vp_updL (s0.2.2.2 23) ((s0.1 27)).toNatClampNeg x6)))) [0, 1, 2, 3, 4, 5, 6, 7, 8, 9, 10, 11, 12, 13, 14] rfl rfl ?_)
      refine z_dup2 (pc := 50) C dX8_moves_50 rfl rfl ?_
      replace h := chk_e h
      obtain ⟨hb16, h⟩ := h
      refine z_iald (pc := 51) C 13 dX8_moves_51 rfl hb16 ?_
      refine z_iconst (pc := 52) C dX8_moves_52 ic_1 ?_
      refine z_iadd (pc := 53) C dX8_moves_53 ?_
      replace h := znm_e h
      obtain ⟨y17, hy17, h⟩ := h
      refine z_wsE (ws' := (wX8 g a0 r0 y17)) (by rw [hy17]) ?_
      replace h := chk_e h
      obtain ⟨hb18, h⟩ := h
      refine z_iast (pc := 54) C 13 dX8_moves_54 rfl hb18 (ws' := (wX8 g a0 r0 (sa y17 24 (upd (y17.2.2.1 24) (x15).toNatClampNeg (((s0.2.2.1 24) (x15).toNatClampNeg) + (1 : Int32)))))) rfl ?_
      refine z_lv (lv' := [(0, .ref a0), (1, .int p1), (4, .int ((s0.2.2.1 0) (((27 : Int32) + p2)).toNatClampNeg))]) [2, 3, 0] rfl ?_
      exact m_X8_moves_55 (a0 := a0) (r0 := r0) hg C X ((s0.2.2.1 0) (((27 : Int32) + p2)).toNatClampNeg) (sa y17 24 (upd (y17.2.2.1 24) (x15).toNatClampNeg (((s0.2.2.1 24) (x15).toNatClampNeg) + (1 : Int32)))) h
def f_X8_canPlay (N : Nat) (s0 : Ob) (p1 : Int32) : Option (Int32) := (chk (inb ((27 : Int32) + p1) 358) (ob (f_X8_rankOf N ((s0.2.2.1 0) (((27 : Int32) + p1)).toNatClampNeg)) fun x2 => (ob (f_X8_colorOf N ((s0.2.2.1 0) (((27 : Int32) + p1)).toNatClampNeg)) fun x3 => (chk (inb x3 4) (if x2 = (((s0.2.2.1 24) (x3).toNatClampNeg) + (1 : Int32)) then (some (1 : Int32)) else (some (0 : Int32)))))))
theorem m_X8_canPlay {g : Gp} {a0 : Nat} {r0 : Nat → Nat} {N : Nat} {s0 : Ob} {p1 : Int32} {res : Int32} (hg : Ok g) (h : f_X8_canPlay N s0 p1 = some res) : Ct g yX8_canPlay cX8_canPlay 3 (some .boolean) (zrm 1 20) [.ref a0, .int p1] (wX8 g a0 r0 s0) (exR (some (.int res)) (wX8 g a0 r0 s0)) := by
  refine ct_of rfl hg (by show _ ≤ _; exact Nat.le_of_ble_eq_true rfl) (fun K C X => ?_)
  show Zs K 0 0 (wX8 g a0 r0 s0) [(0, .ref a0), (1, .int p1)] 0 []
  unfold f_X8_canPlay at h
  refine z_aload_n (pc := 0) (x := a0) C dX8_canPlay_0 (i := 0) rfl rfl ?_
  refine z_get (pc := 1) (v := .ref (r0 0)) C 0 dX8_canPlay_1 fl_RX8_9 rfl rfl ?_
  refine z_bipush (pc := 4) C dX8_canPlay_4 bp_27 ?_
  refine z_iload_n (pc := 6) (x := p1) C dX8_canPlay_6 (i := 1) rfl rfl ?_
  refine z_iadd (pc := 7) C dX8_canPlay_7 ?_
  replace h := chk_e h
  obtain ⟨hb1, h⟩ := h
  refine z_iald (pc := 8) C 1 dX8_canPlay_8 rfl hb1 ?_
  refine z_istore_n (pc := 9) C dX8_canPlay_9 (i := 2) rfl (by decide) (lv' := [(2, .int ((s0.2.2.1 0) (((27 : Int32) + p1)).toNatClampNeg)), (0, .ref a0), (1, .int p1)]) rfl ?_
  refine z_iload_n (pc := 10) (x := ((s0.2.2.1 0) (((27 : Int32) + p1)).toNatClampNeg)) C dX8_canPlay_10 (i := 2) rfl rfl ?_
  replace h := ob_e h
  obtain ⟨x2, hx2, h⟩ := h
  refine z_callS (pc := 11) (As := [.int ((s0.2.2.1 0) (((27 : Int32) + p1)).toNatClampNeg)]) (rest := []) (wr := (wX8 g a0 r0 s0)) C dX8_canPlay_11 ml_RX8_74 wt_X8_rankOf (m_X8_rankOf hg hx2) [] [0, 1, 2, 3, 4, 5, 6, 7, 8, 9, 10, 11, 12, 13, 14] rfl rfl ⟨by decide, by decide⟩ (Nat.le_of_ble_eq_true rfl) ⟨by decide, by decide⟩ rfl rfl rfl rfl (by decide) (ex_k C (cs' := 0) (ss' := 0) (wF := (wX8 g a0 r0 s0)) [0, 1, 2, 3, 4, 5, 6, 7, 8, 9, 10, 11, 12, 13, 14] rfl rfl ?_)
  refine z_aload_n (pc := 14) (x := a0) C dX8_canPlay_14 (i := 0) rfl rfl ?_
  refine z_get (pc := 15) (v := .ref (r0 24)) C 0 dX8_canPlay_15 fl_RX8_53 rfl rfl ?_
  refine z_iload_n (pc := 18) (x := ((s0.2.2.1 0) (((27 : Int32) + p1)).toNatClampNeg)) C dX8_canPlay_18 (i := 2) rfl rfl ?_
  replace h := ob_e h
  obtain ⟨x3, hx3, h⟩ := h
  refine z_callS (pc := 19) (As := [.int ((s0.2.2.1 0) (((27 : Int32) + p1)).toNatClampNeg)]) (rest := [.ref (r0 24), .int x2]) (wr := (wX8 g a0 r0 s0)) C dX8_canPlay_19 ml_RX8_70 wt_X8_colorOf (m_X8_colorOf hg hx3) [] [0, 1, 2, 3, 4, 5, 6, 7, 8, 9, 10, 11, 12, 13, 14] rfl rfl ⟨by decide, by decide⟩ (Nat.le_of_ble_eq_true rfl) ⟨by decide, by decide⟩ rfl rfl rfl rfl (by decide) (ex_k C (cs' := 0) (ss' := 0) (wF := (wX8 g a0 r0 s0)) [0, 1, 2, 3, 4, 5, 6, 7, 8, 9, 10, 11, 12, 13, 14] rfl rfl ?_)
  replace h := chk_e h
  obtain ⟨hb4, h⟩ := h
  refine z_iald (pc := 22) C 13 dX8_canPlay_22 rfl hb4 ?_
  refine z_iconst (pc := 23) C dX8_canPlay_23 ic_1 ?_
  refine z_iadd (pc := 24) C dX8_canPlay_24 ?_
  refine z_icmp_ne (pc := 25) C dX8_canPlay_25 (tgt := 32) (by decide) (fun hc => ?_) (fun hc => ?_)
  · replace h := (ite_e h).2 hc
    refine z_iconst (pc := 32) C dX8_canPlay_32 ic_0 ?_
    exact z_zret C X dX8_canPlay_33 rfl (by rw [← Option.some.inj h]; exact ⟨rfl, rfl⟩) (by decide) (by decide)
  · replace h := (ite_e h).1 hc
    refine z_iconst (pc := 28) C dX8_canPlay_28 ic_1 ?_
    refine z_goto (pc := 29) C dX8_canPlay_29 (tgt := 33) (by decide) ?_
    exact z_zret C X dX8_canPlay_33 rfl (by rw [← Option.some.inj h]; exact ⟨rfl, rfl⟩) (by decide) (by decide)
def f_X8_goesOn_120 (N : Nat) (p1 : Int32)  (v2 : Int64) (s0 : Ob) : Option (Ob) := (if (lg_cmp v2 (0 : Int64)) = 0 then (ob (f_X8_moves N s0 (3 : Int32) (-1 : Int32)) fun x4 => (ob (f_X8_adds N x4) fun x5 => (some x5))) else (some s0))
theorem m_X8_goesOn_120 {K : Kt} {g : Gp} {a0 : Nat} {r0 : Nat → Nat} {N : Nat} {p1 : Int32} {res : Ob} (hg : Ok g) (C : Cx K g cX8_goesOn RX8 5 (zrm 2 49)) (X : Rx K (exR none (wX8 g a0 r0 res)) 0 0 none) (v2 : Int64) (s0 : Ob) (h : f_X8_goesOn_120 N p1 v2 s0 = some res) : Zs K 0 0 (wX8 g a0 r0 s0) [(0, .ref a0), (2, .long v2)] 120 [] := by
  unfold f_X8_goesOn_120 at h
  refine z_lload_n (pc := 120) (x := v2) C dX8_goesOn_120 (i := 2) rfl rfl ?_
  refine z_lconst (pc := 121) (v := (0 : Int64)) C dX8_goesOn_121 rfl ?_
  refine z_lcmp (pc := 122) C dX8_goesOn_122 ?_
  refine z_if_ne (pc := 123) C dX8_goesOn_123 (tgt := 136) (by decide) (fun hc => ?_) (fun hc => ?_)
  · replace h := (ite_e h).2 hc
    exact z_vret C X dX8_goesOn_136 (by rw [← Option.some.inj h]; exact ⟨rfl, rfl⟩) (by decide) (by decide)
  · replace h := (ite_e h).1 hc
    refine z_aload_n (pc := 126) (x := a0) C dX8_goesOn_126 (i := 0) rfl rfl ?_
    refine z_iconst (pc := 127) C dX8_goesOn_127 ic_3 ?_
    refine z_iconst (pc := 128) C dX8_goesOn_128 ic_m1 ?_
    replace h := ob_e h
    obtain ⟨x4, hx4, h⟩ := h
    refine z_callV (pc := 129) (As := [.int (3 : Int32), .int (-1 : Int32)]) (rest := []) (wr := ([] : va_W)) C dX8_goesOn_129 ml_RX8_375 wv_X8_moves (m_X8_moves (a0 := a0) (r0 := r0) hg hx4) [0, 1, 2, 3, 4, 5, 6, 7, 8, 9, 10, 11, 12, 13, 14] [] rfl rfl ⟨by decide, by decide⟩ (Nat.le_of_ble_eq_true rfl) ⟨by decide, by decide⟩ rfl rfl rfl rfl rfl rfl rfl (by decide) (ex_k C (cs' := 0) (ss' := 0) (wF := (wX8 g a0 r0 x4)) [0, 1, 2, 3, 4, 5, 6, 7, 8, 9, 10, 11, 12, 13, 14] rfl rfl ?_)
    refine z_aload_n (pc := 132) (x := a0) C dX8_goesOn_132 (i := 0) rfl rfl ?_
    replace h := ob_e h
    obtain ⟨x5, hx5, h⟩ := h
    refine z_callV (pc := 133) (As := []) (rest := []) (wr := ([] : va_W)) C dX8_goesOn_133 ml_RX8_379 wv_X8_adds (m_X8_adds (a0 := a0) (r0 := r0) hg hx5) [0, 1, 2, 3, 4, 5, 6, 7, 8, 9, 10, 11, 12, 13, 14] [] rfl rfl ⟨by decide, by decide⟩ (Nat.le_of_ble_eq_true rfl) ⟨by decide, by decide⟩ rfl rfl rfl rfl rfl rfl rfl (by decide) (ex_k C (cs' := 0) (ss' := 0) (wF := (wX8 g a0 r0 x5)) [0, 1, 2, 3, 4, 5, 6, 7, 8, 9, 10, 11, 12, 13, 14] rfl rfl ?_)
    exact z_vret C X dX8_goesOn_136 (by rw [← Option.some.inj h]; exact ⟨rfl, rfl⟩) (by decide) (by decide)
def f_X8_goesOn_76 (N : Nat) (p1 : Int32) (k26 : Int64 → Int32 → Ob → Option (Ob)) (v2 : Int64) (v4 : Int32) (s0 : Ob) : Option (Ob) := (ob (f_X8_moves N s0 (1 : Int32) v4) fun x10 => (ob (f_X8_adds N x10) fun x11 => (ob (f_X8_unpacks N x11 p1) fun x12 => (k26 v2 (v4 + (1 : Int32)) x12))))
theorem m_X8_goesOn_76 {K : Kt} {g : Gp} {a0 : Nat} {r0 : Nat → Nat} {N : Nat} {p1 : Int32} {res : Ob} (hg : Ok g) (C : Cx K g cX8_goesOn RX8 5 (zrm 2 49)) (X : Rx K (exR none (wX8 g a0 r0 res)) 0 0 none) {k26 : Int64 → Int32 → Ob → Option (Ob)} (hk26 : ∀ (v2 : Int64) (v4 : Int32) (s0 : Ob), k26 v2 v4 s0 = some res → Zs K 0 0 (wX8 g a0 r0 s0) [(0, .ref a0), (1, .int p1), (2, .long v2), (4, .int v4)] 26 []) (v2 : Int64) (v4 : Int32) (s0 : Ob) (h : f_X8_goesOn_76 N p1 k26 v2 v4 s0 = some res) : Zs K 0 0 (wX8 g a0 r0 s0) [(0, .ref a0), (1, .int p1), (2, .long v2), (4, .int v4)] 76 [] := by
  unfold f_X8_goesOn_76 at h
  refine z_aload_n (pc := 76) (x := a0) C dX8_goesOn_76 (i := 0) rfl rfl ?_
  refine z_iconst (pc := 77) C dX8_goesOn_77 ic_1 ?_
  refine z_iload (pc := 78) (x := v4) C dX8_goesOn_78 rfl ?_
  replace h := ob_e h
  obtain ⟨x10, hx10, h⟩ := h
  refine z_callV (pc := 80) (As := [.int (1 : Int32), .int v4]) (rest := []) (wr := ([] : va_W)) C dX8_goesOn_80 ml_RX8_375 wv_X8_moves (m_X8_moves (a0 := a0) (r0 := r0) hg hx10) [0, 1, 2, 3, 4, 5, 6, 7, 8, 9, 10, 11, 12, 13, 14] [] rfl rfl ⟨by decide, by decide⟩ (Nat.le_of_ble_eq_true rfl) ⟨by decide, by decide⟩ rfl rfl rfl rfl rfl rfl rfl (by decide) (ex_k C (cs' := 0) (ss' := 0) (wF := (wX8 g a0 r0 x10)) [0, 1, 2, 3, 4, 5, 6, 7, 8, 9, 10, 11, 12, 13, 14] rfl rfl ?_)
  refine z_aload_n (pc := 83) (x := a0) C dX8_goesOn_83 (i := 0) rfl rfl ?_
  replace h := ob_e h
  obtain ⟨x11, hx11, h⟩ := h
  refine z_callV (pc := 84) (As := []) (rest := []) (wr := ([] : va_W)) C dX8_goesOn_84 ml_RX8_379 wv_X8_adds (m_X8_adds (a0 := a0) (r0 := r0) hg hx11) [0, 1, 2, 3, 4, 5, 6, 7, 8, 9, 10, 11, 12, 13, 14] [] rfl rfl ⟨by decide, by decide⟩ (Nat.le_of_ble_eq_true rfl) ⟨by decide, by decide⟩ rfl rfl rfl rfl rfl rfl rfl (by decide) (ex_k C (cs' := 0) (ss' := 0) (wF := (wX8 g a0 r0 x11)) [0, 1, 2, 3, 4, 5, 6, 7, 8, 9, 10, 11, 12, 13, 14] rfl rfl ?_)
  refine z_aload_n (pc := 87) (x := a0) C dX8_goesOn_87 (i := 0) rfl rfl ?_
  refine z_iload_n (pc := 88) (x := p1) C dX8_goesOn_88 (i := 1) rfl rfl ?_
  replace h := ob_e h
  obtain ⟨x12, hx12, h⟩ := h
  refine z_callV (pc := 89) (As := [.int p1]) (rest := []) (wr := ([] : va_W)) C dX8_goesOn_89 ml_RX8_366 wv_X8_unpacks (m_X8_unpacks (a0 := a0) (r0 := r0) hg hx12) [0, 1, 2, 3, 4, 5, 6, 7, 8, 9, 10, 11, 12, 13, 14] [] rfl rfl ⟨by decide, by decide⟩ (Nat.le_of_ble_eq_true rfl) ⟨by decide, by decide⟩ rfl rfl rfl rfl rfl rfl rfl (by decide) (ex_k C (cs' := 0) (ss' := 0) (wF := (wX8 g a0 r0 x12)) [0, 1, 2, 3, 4, 5, 6, 7, 8, 9, 10, 11, 12, 13, 14] rfl rfl ?_)
  refine z_iinc (pc := 92) C dX8_goesOn_92 rfl (inc_e 1 (1 : Int32) ic_1 v4) (by decide) (lv' := [(4, .int (v4 + (1 : Int32))), (0, .ref a0), (1, .int p1), (2, .long v2)]) rfl ?_
  refine z_goto (pc := 95) C dX8_goesOn_95 (tgt := 26) (by decide) ?_
  refine z_lv (lv' := [(0, .ref a0), (1, .int p1), (2, .long v2), (4, .int (v4 + (1 : Int32)))]) [1, 2, 3, 0] rfl ?_
  exact hk26 v2 (v4 + (1 : Int32)) x12 h
def F_X8_goesOn_26 (N : Nat) (p1 : Int32)  (k26 : Int64 → Int32 → Ob → Option (Ob)) (v2 : Int64) (v4 : Int32) (s0 : Ob) : Option (Ob) := (if ((s0.2.2.1 0) 4) ≤ v4 then (if (s0.1 25) ≤ 0 then (f_X8_goesOn_120 N p1 v2 s0) else (ob (f_X8_moves N s0 (2 : Int32) (-1 : Int32)) fun x6 => (ob (f_X8_adds N x6) fun x7 => (ob (f_X8_unpacks N x7 p1) fun x8 => (f_X8_goesOn_120 N p1 v2 x8))))) else (if (lg_cmp ((v2 >>> ((v4).toInt64 &&& 63)) &&& (1 : Int64)) (0 : Int64)) = 0 then (k26 v2 (v4 + (1 : Int32)) s0) else (ob (f_X8_canPlay N s0 v4) fun x9 => (if x9 = 0 then (f_X8_goesOn_76 N p1 k26 v2 v4 s0) else (ob (f_X8_moves N s0 (0 : Int32) v4) fun x13 => (ob (f_X8_adds N x13) fun x14 => (ob (f_X8_unpacks N x14 p1) fun x15 => (f_X8_goesOn_76 N p1 k26 v2 v4 x15))))))))
def f_X8_goesOn_26 (N : Nat) (p1 : Int32)  : Nat → Int64 → Int32 → Ob → Option (Ob) := zlp (fun _ _ _ => none) (F_X8_goesOn_26 N p1)
theorem m_X8_goesOn_26 {K : Kt} {g : Gp} {a0 : Nat} {r0 : Nat → Nat} {N : Nat} {p1 : Int32} {res : Ob} (hg : Ok g) (C : Cx K g cX8_goesOn RX8 5 (zrm 2 49)) (X : Rx K (exR none (wX8 g a0 r0 res)) 0 0 none) : ∀ (n : Nat) (v2 : Int64) (v4 : Int32) (s0 : Ob), f_X8_goesOn_26 N p1 n v2 v4 s0 = some res → Zs K 0 0 (wX8 g a0 r0 s0) [(0, .ref a0), (1, .int p1), (2, .long v2), (4, .int v4)] 26 [] := by
  intro n
  induction n with
  | zero => intro v2 v4 s0 h; exact nomatch (show (none : Option (Ob)) = some res from h)
  | succ n hk26 =>
    intro v2 v4 s0 h
    replace h : F_X8_goesOn_26 N p1 (f_X8_goesOn_26 N p1 n) v2 v4 s0 = some res := h
    unfold F_X8_goesOn_26 at h
    refine z_iload (pc := 26) (x := v4) C dX8_goesOn_26 rfl ?_
    refine z_aload_n (pc := 28) (x := a0) C dX8_goesOn_28 (i := 0) rfl rfl ?_
    refine z_get (pc := 29) (v := .ref (r0 0)) C 0 dX8_goesOn_29 fl_RX8_9 rfl rfl ?_
    refine z_iconst (pc := 32) C dX8_goesOn_32 ic_4 ?_
    refine z_iald (pc := 33) C 1 dX8_goesOn_33 rfl (by decide) ?_
    refine z_top1 (v := ((s0.2.2.1 0) 4)) rfl ?_
    refine z_icmp_ge (pc := 34) C dX8_goesOn_34 (tgt := 98) (by decide) (fun hc => ?_) (fun hc => ?_)
    · replace h := (ite_e h).1 hc
      refine z_aload_n (pc := 98) (x := a0) C dX8_goesOn_98 (i := 0) rfl rfl ?_
      refine z_get (pc := 99) (v := .int (s0.1 25)) C 0 dX8_goesOn_99 fl_RX8_349 rfl rfl ?_
      refine z_if_le (pc := 102) C dX8_goesOn_102 (tgt := 120) (by decide) (fun hc => ?_) (fun hc => ?_)
      · replace h := (ite_e h).1 hc
        refine z_lv (lv' := [(0, .ref a0), (2, .long v2)]) [0, 2] rfl ?_
        exact m_X8_goesOn_120 (a0 := a0) (r0 := r0) hg C X v2 s0 h
      · replace h := (ite_e h).2 hc
        refine z_aload_n (pc := 105) (x := a0) C dX8_goesOn_105 (i := 0) rfl rfl ?_
        refine z_iconst (pc := 106) C dX8_goesOn_106 ic_2 ?_
        refine z_iconst (pc := 107) C dX8_goesOn_107 ic_m1 ?_
        replace h := ob_e h
        obtain ⟨x6, hx6, h⟩ := h
        refine z_callV (pc := 108) (As := [.int (2 : Int32), .int (-1 : Int32)]) (rest := []) (wr := ([] : va_W)) C dX8_goesOn_108 ml_RX8_375 wv_X8_moves (m_X8_moves (a0 := a0) (r0 := r0) hg hx6) [0, 1, 2, 3, 4, 5, 6, 7, 8, 9, 10, 11, 12, 13, 14] [] rfl rfl ⟨by decide, by decide⟩ (Nat.le_of_ble_eq_true rfl) ⟨by decide, by decide⟩ rfl rfl rfl rfl rfl rfl rfl (by decide) (ex_k C (cs' := 0) (ss' := 0) (wF := (wX8 g a0 r0 x6)) [0, 1, 2, 3, 4, 5, 6, 7, 8, 9, 10, 11, 12, 13, 14] rfl rfl ?_)
        refine z_aload_n (pc := 111) (x := a0) C dX8_goesOn_111 (i := 0) rfl rfl ?_
        replace h := ob_e h
        obtain ⟨x7, hx7, h⟩ := h
        refine z_callV (pc := 112) (As := []) (rest := []) (wr := ([] : va_W)) C dX8_goesOn_112 ml_RX8_379 wv_X8_adds (m_X8_adds (a0 := a0) (r0 := r0) hg hx7) [0, 1, 2, 3, 4, 5, 6, 7, 8, 9, 10, 11, 12, 13, 14] [] rfl rfl ⟨by decide, by decide⟩ (Nat.le_of_ble_eq_true rfl) ⟨by decide, by decide⟩ rfl rfl rfl rfl rfl rfl rfl (by decide) (ex_k C (cs' := 0) (ss' := 0) (wF := (wX8 g a0 r0 x7)) [0, 1, 2, 3, 4, 5, 6, 7, 8, 9, 10, 11, 12, 13, 14] rfl rfl ?_)
        refine z_aload_n (pc := 115) (x := a0) C dX8_goesOn_115 (i := 0) rfl rfl ?_
        refine z_iload_n (pc := 116) (x := p1) C dX8_goesOn_116 (i := 1) rfl rfl ?_
        replace h := ob_e h
        obtain ⟨x8, hx8, h⟩ := h
        refine z_callV (pc := 117) (As := [.int p1]) (rest := []) (wr := ([] : va_W)) C dX8_goesOn_117 ml_RX8_366 wv_X8_unpacks (m_X8_unpacks (a0 := a0) (r0 := r0) hg hx8) [0, 1, 2, 3, 4, 5, 6, 7, 8, 9, 10, 11, 12, 13, 14] [] rfl rfl ⟨by decide, by decide⟩ (Nat.le_of_ble_eq_true rfl) ⟨by decide, by decide⟩ rfl rfl rfl rfl rfl rfl rfl (by decide) (ex_k C (cs' := 0) (ss' := 0) (wF := (wX8 g a0 r0 x8)) [0, 1, 2, 3, 4, 5, 6, 7, 8, 9, 10, 11, 12, 13, 14] rfl rfl ?_)
        refine z_lv (lv' := [(0, .ref a0), (2, .long v2)]) [0, 2] rfl ?_
        exact m_X8_goesOn_120 (a0 := a0) (r0 := r0) hg C X v2 x8 h
    · replace h := (ite_e h).2 hc
      refine z_lload_n (pc := 37) (x := v2) C dX8_goesOn_37 (i := 2) rfl rfl ?_
      refine z_iload (pc := 38) (x := v4) C dX8_goesOn_38 rfl ?_
      refine z_lshr (pc := 40) C dX8_goesOn_40 ?_
      refine z_lconst (pc := 41) (v := (1 : Int64)) C dX8_goesOn_41 rfl ?_
      refine z_land (pc := 42) C dX8_goesOn_42 ?_
      refine z_lconst (pc := 43) (v := (0 : Int64)) C dX8_goesOn_43 rfl ?_
      refine z_lcmp (pc := 44) C dX8_goesOn_44 ?_
      refine z_if_ne (pc := 45) C dX8_goesOn_45 (tgt := 51) (by decide) (fun hc => ?_) (fun hc => ?_)
      · replace h := (ite_e h).2 hc
        refine z_aload_n (pc := 51) (x := a0) C dX8_goesOn_51 (i := 0) rfl rfl ?_
        refine z_iload (pc := 52) (x := v4) C dX8_goesOn_52 rfl ?_
        replace h := ob_e h
        obtain ⟨x9, hx9, h⟩ := h
        refine z_callV (pc := 54) (As := [.int v4]) (rest := []) (wr := ([] : va_W)) C dX8_goesOn_54 ml_RX8_372 wv_X8_canPlay (m_X8_canPlay (a0 := a0) (r0 := r0) hg hx9) [0, 1, 2, 3, 4, 5, 6, 7, 8, 9, 10, 11, 12, 13, 14] [] rfl rfl ⟨by decide, by decide⟩ (Nat.le_of_ble_eq_true rfl) ⟨by decide, by decide⟩ rfl rfl rfl rfl rfl rfl rfl (by decide) (ex_k C (cs' := 0) (ss' := 0) (wF := (wX8 g a0 r0 s0)) [0, 1, 2, 3, 4, 5, 6, 7, 8, 9, 10, 11, 12, 13, 14] rfl rfl ?_)
        refine z_if_eq (pc := 57) C dX8_goesOn_57 (tgt := 76) (by decide) (fun hc => ?_) (fun hc => ?_)
        · replace h := (ite_e h).1 hc
          exact m_X8_goesOn_76 (a0 := a0) (r0 := r0) hg C X hk26 v2 v4 s0 h
        · replace h := (ite_e h).2 hc
          refine z_aload_n (pc := 60) (x := a0) C dX8_goesOn_60 (i := 0) rfl rfl ?_
          refine z_iconst (pc := 61) C dX8_goesOn_61 ic_0 ?_
          refine z_iload (pc := 62) (x := v4) C dX8_goesOn_62 rfl ?_
          replace h := ob_e h
          obtain ⟨x13, hx13, h⟩ := h
          refine z_callV (pc := 64) (As := [.int (0 : Int32), .int v4]) (rest := []) (wr := ([] : va_W)) C dX8_goesOn_64 ml_RX8_375 wv_X8_moves (m_X8_moves (a0 := a0) (r0 := r0) hg hx13) [0, 1, 2, 3, 4, 5, 6, 7, 8, 9, 10, 11, 12, 13, 14] [] rfl rfl ⟨by decide, by decide⟩ (Nat.le_of_ble_eq_true rfl) ⟨by decide, by decide⟩ rfl rfl rfl rfl rfl rfl rfl (by decide) (ex_k C (cs' := 0) (ss' := 0) (wF := (wX8 g a0 r0 x13)) [0, 1, 2, 3, 4, 5, 6, 7, 8, 9, 10, 11, 12, 13, 14] rfl rfl ?_)
          refine z_aload_n (pc := 67) (x := a0) C dX8_goesOn_67 (i := 0) rfl rfl ?_
          replace h := ob_e h
          obtain ⟨x14, hx14, h⟩ := h
          refine z_callV (pc := 68) (As := []) (rest := []) (wr := ([] : va_W)) C dX8_goesOn_68 ml_RX8_379 wv_X8_adds (m_X8_adds (a0 := a0) (r0 := r0) hg hx14) [0, 1, 2, 3, 4, 5, 6, 7, 8, 9, 10, 11, 12, 13, 14] [] rfl rfl ⟨by decide, by decide⟩ (Nat.le_of_ble_eq_true rfl) ⟨by decide, by decide⟩ rfl rfl rfl rfl rfl rfl rfl (by decide) (ex_k C (cs' := 0) (ss' := 0) (wF := (wX8 g a0 r0 x14)) [0, 1, 2, 3, 4, 5, 6, 7, 8, 9, 10, 11, 12, 13, 14] rfl rfl ?_)
          refine z_aload_n (pc := 71) (x := a0) C dX8_goesOn_71 (i := 0) rfl rfl ?_
          refine z_iload_n (pc := 72) (x := p1) C dX8_goesOn_72 (i := 1) rfl rfl ?_
          replace h := ob_e h
          obtain ⟨x15, hx15, h⟩ := h
          refine z_callV (pc := 73) (As := [.int p1]) (rest := []) (wr := ([] : va_W)) C dX8_goesOn_73 ml_RX8_366 wv_X8_unpacks (m_X8_unpacks (a0 := a0) (r0 := r0) hg hx15) [0, 1, 2, 3, 4, 5, 6, 7, 8, 9, 10, 11, 12, 13, 14] [] rfl rfl ⟨by decide, by decide⟩ (Nat.le_of_ble_eq_true rfl) ⟨by decide, by decide⟩ rfl rfl rfl rfl rfl rfl rfl (by decide) (ex_k C (cs' := 0) (ss' := 0) (wF := (wX8 g a0 r0 x15)) [0, 1, 2, 3, 4, 5, 6, 7, 8, 9, 10, 11, 12, 13, 14] rfl rfl ?_)
          exact m_X8_goesOn_76 (a0 := a0) (r0 := r0) hg C X hk26 v2 v4 x15 h
      · replace h := (ite_e h).1 hc
        refine z_goto (pc := 48) C dX8_goesOn_48 (tgt := 92) (by decide) ?_
        refine z_iinc (pc := 92) C dX8_goesOn_92 rfl (inc_e 1 (1 : Int32) ic_1 v4) (by decide) (lv' := [(4, .int (v4 + (1 : Int32))), (0, .ref a0), (1, .int p1), (2, .long v2)]) rfl ?_
        refine z_goto (pc := 95) C dX8_goesOn_95 (tgt := 26) (by decide) ?_
        refine z_lv (lv' := [(0, .ref a0), (1, .int p1), (2, .long v2), (4, .int (v4 + (1 : Int32)))]) [1, 2, 3, 0] rfl ?_
        exact hk26 v2 (v4 + (1 : Int32)) s0 h
def f_X8_goesOn (N : Nat) (s0 : Ob) (p1 : Int32) : Option (Ob) := (ob (f_X8_unpacks N s0 p1) fun x1 => (ob (f_X8_isFinal N x1) fun x2 => (if x2 = 0 then (chk (inb (x1.1 27) 4) (f_X8_goesOn_26 N p1 N ((x1.2.2.2 23) ((x1.1 27)).toNatClampNeg) (0 : Int32) x1)) else (some x1))))
theorem m_X8_goesOn {g : Gp} {a0 : Nat} {r0 : Nat → Nat} {N : Nat} {s0 : Ob} {p1 : Int32} {res : Ob} (hg : Ok g) (h : f_X8_goesOn N s0 p1 = some res) : Ct g yX8_goesOn cX8_goesOn 5 none (zrm 2 49) [.ref a0, .int p1] (wX8 g a0 r0 s0) (exR none (wX8 g a0 r0 res)) := by
  refine ct_of rfl hg (by show _ ≤ _; exact Nat.le_of_ble_eq_true rfl) (fun K C X => ?_)
  show Zs K 0 0 (wX8 g a0 r0 s0) [(0, .ref a0), (1, .int p1)] 0 []
  unfold f_X8_goesOn at h
  refine z_aload_n (pc := 0) (x := a0) C dX8_goesOn_0 (i := 0) rfl rfl ?_
  refine z_iload_n (pc := 1) (x := p1) C dX8_goesOn_1 (i := 1) rfl rfl ?_
  replace h := ob_e h
  obtain ⟨x1, hx1, h⟩ := h
  refine z_callV (pc := 2) (As := [.int p1]) (rest := []) (wr := ([] : va_W)) C dX8_goesOn_2 ml_RX8_366 wv_X8_unpacks (m_X8_unpacks (a0 := a0) (r0 := r0) hg hx1) [0, 1, 2, 3, 4, 5, 6, 7, 8, 9, 10, 11, 12, 13, 14] [] rfl rfl ⟨by decide, by decide⟩ (Nat.le_of_ble_eq_true rfl) ⟨by decide, by decide⟩ rfl rfl rfl rfl rfl rfl rfl (by decide) (ex_k C (cs' := 0) (ss' := 0) (wF := (wX8 g a0 r0 x1)) [0, 1, 2, 3, 4, 5, 6, 7, 8, 9, 10, 11, 12, 13, 14] rfl rfl ?_)
  refine z_aload_n (pc := 5) (x := a0) C dX8_goesOn_5 (i := 0) rfl rfl ?_
  replace h := ob_e h
  obtain ⟨x2, hx2, h⟩ := h
  refine z_callV (pc := 6) (As := []) (rest := []) (wr := ([] : va_W)) C dX8_goesOn_6 ml_RX8_369 wv_X8_isFinal (m_X8_isFinal (a0 := a0) (r0 := r0) hg hx2) [0, 1, 2, 3, 4, 5, 6, 7, 8, 9, 10, 11, 12, 13, 14] [] rfl rfl ⟨by decide, by decide⟩ (Nat.le_of_ble_eq_true rfl) ⟨by decide, by decide⟩ rfl rfl rfl rfl rfl rfl rfl (by decide) (ex_k C (cs' := 0) (ss' := 0) (wF := (wX8 g a0 r0 x1)) [0, 1, 2, 3, 4, 5, 6, 7, 8, 9, 10, 11, 12, 13, 14] rfl rfl ?_)
  refine z_if_eq (pc := 9) C dX8_goesOn_9 (tgt := 13) (by decide) (fun hc => ?_) (fun hc => ?_)
  · replace h := (ite_e h).1 hc
    refine z_aload_n (pc := 13) (x := a0) C dX8_goesOn_13 (i := 0) rfl rfl ?_
    refine z_get (pc := 14) (v := .ref (r0 23)) C 0 dX8_goesOn_14 fl_RX8_50 rfl rfl ?_
    refine z_aload_n (pc := 17) (x := a0) C dX8_goesOn_17 (i := 0) rfl rfl ?_
    refine z_get (pc := 18) (v := .int (x1.1 27)) C 0 dX8_goesOn_18 fl_RX8_343 rfl rfl ?_
    replace h := chk_e h
    obtain ⟨hb3, h⟩ := h
    refine z_lald (pc := 21) C 12 dX8_goesOn_21 rfl hb3 ?_
    refine z_lstore_n (pc := 22) C dX8_goesOn_22 (i := 2) rfl (by decide) (lv' := [(2, .long ((x1.2.2.2 23) ((x1.1 27)).toNatClampNeg)), (0, .ref a0), (1, .int p1)]) rfl ?_
    refine z_iconst (pc := 23) C dX8_goesOn_23 ic_0 ?_
    refine z_istore (pc := 24) C dX8_goesOn_24 (by decide) (lv' := [(4, .int (0 : Int32)), (2, .long ((x1.2.2.2 23) ((x1.1 27)).toNatClampNeg)), (0, .ref a0), (1, .int p1)]) rfl ?_
    refine z_lv (lv' := [(0, .ref a0), (1, .int p1), (2, .long ((x1.2.2.2 23) ((x1.1 27)).toNatClampNeg)), (4, .int (0 : Int32))]) [2, 3, 1, 0] rfl ?_
    exact m_X8_goesOn_26 (a0 := a0) (r0 := r0) hg C X N ((x1.2.2.2 23) ((x1.1 27)).toNatClampNeg) (0 : Int32) x1 h
  · replace h := (ite_e h).2 hc
    exact z_vret C X dX8_goesOn_12 (by rw [← Option.some.inj h]; exact ⟨rfl, rfl⟩) (by decide) (by decide)
def F_X8_makesPresent_61 (N : Nat)  (k61 : Int32 → Ob → Option (Ob)) (v1 : Int32) (s0 : Ob) : Option (Ob) := (if (4 : Int32) ≤ v1 then (znm (si s0 25 ((s0.2.2.1 0) 7)) fun y1 => (znm (si y1 26 ((s0.2.2.1 0) 5)) fun y2 => (znm (si y2 27 ((y1.2.2.1 0) 10)) fun y3 => (some (si y3 28 ((y2.2.2.1 0) 9)))))) else (chk (inb ((14 : Int32) + v1) 358) (chk (inb v1 4) (k61 (v1 + (1 : Int32)) (sa s0 24 (upd (s0.2.2.1 24) (v1).toNatClampNeg ((s0.2.2.1 0) (((14 : Int32) + v1)).toNatClampNeg)))))))
def f_X8_makesPresent_61 (N : Nat)  : Nat → Int32 → Ob → Option (Ob) := zlp (fun _ _ => none) (F_X8_makesPresent_61 N)
theorem m_X8_makesPresent_61 {K : Kt} {g : Gp} {a0 : Nat} {r0 : Nat → Nat} {N : Nat} {res : Ob} (hg : Ok g) (C : Cx K g cX8_makesPresent RX8 3 (zrm 1 22)) (X : Rx K (exR none (wX8 g a0 r0 res)) 0 0 none) : ∀ (n : Nat) (v1 : Int32) (s0 : Ob), f_X8_makesPresent_61 N n v1 s0 = some res → Zs K 0 0 (wX8 g a0 r0 s0) [(0, .ref a0), (1, .int v1)] 61 [] := by
  intro n
  induction n with
  | zero => intro v1 s0 h; exact nomatch (show (none : Option (Ob)) = some res from h)
  | succ n hk61 =>
    intro v1 s0 h
    replace h : F_X8_makesPresent_61 N (f_X8_makesPresent_61 N n) v1 s0 = some res := h
    unfold F_X8_makesPresent_61 at h
    refine z_iload_n (pc := 61) (x := v1) C dX8_makesPresent_61 (i := 1) rfl rfl ?_
    refine z_iconst (pc := 62) C dX8_makesPresent_62 ic_4 ?_
    refine z_icmp_ge (pc := 63) C dX8_makesPresent_63 (tgt := 87) (by decide) (fun hc => ?_) (fun hc => ?_)
    · replace h := (ite_e h).1 hc
      refine z_aload_n (pc := 87) (x := a0) C dX8_makesPresent_87 (i := 0) rfl rfl ?_
      refine z_aload_n (pc := 88) (x := a0) C dX8_makesPresent_88 (i := 0) rfl rfl ?_
      refine z_get (pc := 89) (v := .ref (r0 0)) C 0 dX8_makesPresent_89 fl_RX8_9 rfl rfl ?_
      refine z_bipush (pc := 92) C dX8_makesPresent_92 bp_7 ?_
      refine z_iald (pc := 94) C 1 dX8_makesPresent_94 rfl (by decide) ?_
      refine z_top1 (v := ((s0.2.2.1 0) 7)) rfl ?_
      refine z_put (pc := 95) C 0 dX8_makesPresent_95 fp_RX8_349 rfl rfl rfl (zlt_b rfl) (ws' := (wX8 g a0 r0 (si s0 25 ((s0.2.2.1 0) 7)))) rfl ?_
      refine z_aload_n (pc := 98) (x := a0) C dX8_makesPresent_98 (i := 0) rfl rfl ?_
      refine z_aload_n (pc := 99) (x := a0) C dX8_makesPresent_99 (i := 0) rfl rfl ?_
      refine z_get (pc := 100) (v := .ref (r0 0)) C 0 dX8_makesPresent_100 fl_RX8_9 rfl rfl ?_
      refine z_iconst (pc := 103) C dX8_makesPresent_103 ic_5 ?_
      refine z_iald (pc := 104) C 1 dX8_makesPresent_104 rfl (by decide) ?_
      refine z_top1 (v := ((s0.2.2.1 0) 5)) rfl ?_
      replace h := znm_e h
      obtain ⟨y1, hy1, h⟩ := h
      refine z_wsE (ws' := (wX8 g a0 r0 y1)) (by rw [hy1]) ?_
      refine z_put (pc := 105) C 0 dX8_makesPresent_105 fp_RX8_346 rfl rfl rfl (zlt_b rfl) (ws' := (wX8 g a0 r0 (si y1 26 ((s0.2.2.1 0) 5)))) rfl ?_
      refine z_aload_n (pc := 108) (x := a0) C dX8_makesPresent_108 (i := 0) rfl rfl ?_
      refine z_aload_n (pc := 109) (x := a0) C dX8_makesPresent_109 (i := 0) rfl rfl ?_
      refine z_get (pc := 110) (v := .ref (r0 0)) C 0 dX8_makesPresent_110 fl_RX8_9 rfl rfl ?_
      refine z_bipush (pc := 113) C dX8_makesPresent_113 bp_10 ?_
      refine z_iald (pc := 115) C 1 dX8_makesPresent_115 rfl (by decide) ?_
      refine z_top1 (v := ((y1.2.2.1 0) 10)) rfl ?_
      replace h := znm_e h
      obtain ⟨y2, hy2, h⟩ := h
      refine z_wsE (ws' := (wX8 g a0 r0 y2)) (by rw [hy2]) ?_
      refine z_put (pc := 116) C 0 dX8_makesPresent_116 fp_RX8_343 rfl rfl rfl (zlt_b rfl) (ws' := (wX8 g a0 r0 (si y2 27 ((y1.2.2.1 0) 10)))) rfl ?_
      refine z_aload_n (pc := 119) (x := a0) C dX8_makesPresent_119 (i := 0) rfl rfl ?_
      refine z_aload_n (pc := 120) (x := a0) C dX8_makesPresent_120 (i := 0) rfl rfl ?_
      refine z_get (pc := 121) (v := .ref (r0 0)) C 0 dX8_makesPresent_121 fl_RX8_9 rfl rfl ?_
      refine z_bipush (pc := 124) C dX8_makesPresent_124 bp_9 ?_
      refine z_iald (pc := 126) C 1 dX8_makesPresent_126 rfl (by decide) ?_
      refine z_top1 (v := ((y2.2.2.1 0) 9)) rfl ?_
      replace h := znm_e h
      obtain ⟨y3, hy3, h⟩ := h
      refine z_wsE (ws' := (wX8 g a0 r0 y3)) (by rw [hy3]) ?_
      refine z_put (pc := 127) C 0 dX8_makesPresent_127 fp_RX8_340 rfl rfl rfl (zlt_b rfl) (ws' := (wX8 g a0 r0 (si y3 28 ((y2.2.2.1 0) 9)))) rfl ?_
      exact z_vret C X dX8_makesPresent_130 (by rw [← Option.some.inj h]; exact ⟨rfl, rfl⟩) (by decide) (by decide)
    · replace h := (ite_e h).2 hc
      refine z_aload_n (pc := 66) (x := a0) C dX8_makesPresent_66 (i := 0) rfl rfl ?_
      refine z_get (pc := 67) (v := .ref (r0 24)) C 0 dX8_makesPresent_67 fl_RX8_53 rfl rfl ?_
      refine z_iload_n (pc := 70) (x := v1) C dX8_makesPresent_70 (i := 1) rfl rfl ?_
      refine z_aload_n (pc := 71) (x := a0) C dX8_makesPresent_71 (i := 0) rfl rfl ?_
      refine z_get (pc := 72) (v := .ref (r0 0)) C 0 dX8_makesPresent_72 fl_RX8_9 rfl rfl ?_
      refine z_bipush (pc := 75) C dX8_makesPresent_75 bp_14 ?_
      refine z_iload_n (pc := 77) (x := v1) C dX8_makesPresent_77 (i := 1) rfl rfl ?_
      refine z_iadd (pc := 78) C dX8_makesPresent_78 ?_
      replace h := chk_e h
      obtain ⟨hb4, h⟩ := h
      refine z_iald (pc := 79) C 1 dX8_makesPresent_79 rfl hb4 ?_
      replace h := chk_e h
      obtain ⟨hb5, h⟩ := h
      refine z_iast (pc := 80) C 13 dX8_makesPresent_80 rfl hb5 (ws' := (wX8 g a0 r0 (sa s0 24 (upd (s0.2.2.1 24) (v1).toNatClampNeg ((s0.2.2.1 0) (((14 : Int32) + v1)).toNatClampNeg))))) rfl ?_
      refine z_iinc (pc := 81) C dX8_makesPresent_81 rfl (inc_e 1 (1 : Int32) ic_1 v1) (by decide) (lv' := [(1, .int (v1 + (1 : Int32))), (0, .ref a0)]) rfl ?_
      refine z_goto (pc := 84) C dX8_makesPresent_84 (tgt := 61) (by decide) ?_
      refine z_lv (lv' := [(0, .ref a0), (1, .int (v1 + (1 : Int32)))]) [1, 0] rfl ?_
      exact hk61 (v1 + (1 : Int32)) (sa s0 24 (upd (s0.2.2.1 24) (v1).toNatClampNeg ((s0.2.2.1 0) (((14 : Int32) + v1)).toNatClampNeg))) h
def F_X8_makesPresent_16 (N : Nat) (k2 : Int32 → Ob → Option (Ob)) (k16 : Int32 → Int32 → Ob → Option (Ob)) (v1 : Int32) (v2 : Int32) (s0 : Ob) : Option (Ob) := (chk (inb ((187 : Int32) + v1) 358) (if ((s0.2.2.1 0) (((187 : Int32) + v1)).toNatClampNeg) ≤ v2 then (k2 (v1 + (1 : Int32)) s0) else (chk (inb v1 4) (ob (f_X8_held N s0 v1 v2) fun x9 => (znm (((s0.2.2.2 23) (v1).toNatClampNeg) ||| ((1 : Int64) <<< ((x9).toInt64 &&& 63))) fun x10 => (chk (inb v1 4) (k16 v1 (v2 + (1 : Int32)) (sb s0 23 (vp_updL (s0.2.2.2 23) (v1).toNatClampNeg x10)))))))))
def f_X8_makesPresent_16 (N : Nat) (k2 : Int32 → Ob → Option (Ob)) : Nat → Int32 → Int32 → Ob → Option (Ob) := zlp (fun _ _ _ => none) (F_X8_makesPresent_16 N k2)
theorem m_X8_makesPresent_16 {K : Kt} {g : Gp} {a0 : Nat} {r0 : Nat → Nat} {N : Nat} {res : Ob} (hg : Ok g) (C : Cx K g cX8_makesPresent RX8 3 (zrm 1 22)) (X : Rx K (exR none (wX8 g a0 r0 res)) 0 0 none) {k2 : Int32 → Ob → Option (Ob)} (hk2 : ∀ (v1 : Int32) (s0 : Ob), k2 v1 s0 = some res → Zs K 0 0 (wX8 g a0 r0 s0) [(0, .ref a0), (1, .int v1)] 2 []) : ∀ (n : Nat) (v1 : Int32) (v2 : Int32) (s0 : Ob), f_X8_makesPresent_16 N k2 n v1 v2 s0 = some res → Zs K 0 0 (wX8 g a0 r0 s0) [(0, .ref a0), (1, .int v1), (2, .int v2)] 16 [] := by
  intro n
  induction n with
  | zero => intro v1 v2 s0 h; exact nomatch (show (none : Option (Ob)) = some res from h)
  | succ n hk16 =>
    intro v1 v2 s0 h
    replace h : F_X8_makesPresent_16 N k2 (f_X8_makesPresent_16 N k2 n) v1 v2 s0 = some res := h
    unfold F_X8_makesPresent_16 at h
    refine z_iload_n (pc := 16) (x := v2) C dX8_makesPresent_16 (i := 2) rfl rfl ?_
    refine z_aload_n (pc := 17) (x := a0) C dX8_makesPresent_17 (i := 0) rfl rfl ?_
    refine z_get (pc := 18) (v := .ref (r0 0)) C 0 dX8_makesPresent_18 fl_RX8_9 rfl rfl ?_
    refine z_sipush (pc := 21) C dX8_makesPresent_21 sp_187 ?_
    refine z_iload_n (pc := 24) (x := v1) C dX8_makesPresent_24 (i := 1) rfl rfl ?_
    refine z_iadd (pc := 25) C dX8_makesPresent_25 ?_
    replace h := chk_e h
    obtain ⟨hb7, h⟩ := h
    refine z_iald (pc := 26) C 1 dX8_makesPresent_26 rfl hb7 ?_
    refine z_icmp_ge (pc := 27) C dX8_makesPresent_27 (tgt := 53) (by decide) (fun hc => ?_) (fun hc => ?_)
    · replace h := (ite_e h).1 hc
      refine z_iinc (pc := 53) C dX8_makesPresent_53 rfl (inc_e 1 (1 : Int32) ic_1 v1) (by decide) (lv' := [(1, .int (v1 + (1 : Int32))), (0, .ref a0), (2, .int v2)]) rfl ?_
      refine z_goto (pc := 56) C dX8_makesPresent_56 (tgt := 2) (by decide) ?_
      refine z_lv (lv' := [(0, .ref a0), (1, .int (v1 + (1 : Int32)))]) [1, 0] rfl ?_
      exact hk2 (v1 + (1 : Int32)) s0 h
    · replace h := (ite_e h).2 hc
      refine z_aload_n (pc := 30) (x := a0) C dX8_makesPresent_30 (i := 0) rfl rfl ?_
      refine z_get (pc := 31) (v := .ref (r0 23)) C 0 dX8_makesPresent_31 fl_RX8_50 rfl rfl ?_
      refine z_iload_n (pc := 34) (x := v1) C dX8_makesPresent_34 (i := 1) rfl rfl ?_
      refine z_dup2 (pc := 35) C dX8_makesPresent_35 rfl rfl ?_
      replace h := chk_e h
      obtain ⟨hb8, h⟩ := h
      refine z_lald (pc := 36) C 12 dX8_makesPresent_36 rfl hb8 ?_
      refine z_lconst (pc := 37) (v := (1 : Int64)) C dX8_makesPresent_37 rfl ?_
      refine z_aload_n (pc := 38) (x := a0) C dX8_makesPresent_38 (i := 0) rfl rfl ?_
      refine z_iload_n (pc := 39) (x := v1) C dX8_makesPresent_39 (i := 1) rfl rfl ?_
      refine z_iload_n (pc := 40) (x := v2) C dX8_makesPresent_40 (i := 2) rfl rfl ?_
      replace h := ob_e h
      obtain ⟨x9, hx9, h⟩ := h
      refine z_callV (pc := 41) (As := [.int v1, .int v2]) (rest := [.long (1 : Int64), .long ((s0.2.2.2 23) (v1).toNatClampNeg), .int v1, .ref (r0 23)]) (wr := ([] : va_W)) C dX8_makesPresent_41 ml_RX8_217 wv_X8_held (m_X8_held (a0 := a0) (r0 := r0) hg hx9) [0, 1, 2, 3, 4, 5, 6, 7, 8, 9, 10, 11, 12, 13, 14] [] rfl rfl ⟨by decide, by decide⟩ (Nat.le_of_ble_eq_true rfl) ⟨by decide, by decide⟩ rfl rfl rfl rfl rfl rfl rfl (by decide) (ex_k C (cs' := 0) (ss' := 0) (wF := (wX8 g a0 r0 s0)) [0, 1, 2, 3, 4, 5, 6, 7, 8, 9, 10, 11, 12, 13, 14] rfl rfl ?_)
      refine z_lshl (pc := 44) C dX8_makesPresent_44 ?_
      refine z_lor (pc := 45) C dX8_makesPresent_45 ?_
      replace h := znm_e h
      obtain ⟨x10, hx10, h⟩ := h
      refine z_top2 hx10 ?_
      replace h := chk_e h
      obtain ⟨hb11, h⟩ := h
      refine z_last (pc := 46) C 12 dX8_makesPresent_46 rfl hb11 (ws' := (wX8 g a0 r0 (sb s0 23 (vp_updL (s0.2.2.2 23) (v1).toNatClampNeg x10)))) rfl ?_
      refine z_iinc (pc := 47) C dX8_makesPresent_47 rfl (inc_e 1 (1 : Int32) ic_1 v2) (by decide) (lv' := [(2, .int (v2 + (1 : Int32))), (0, .ref a0), (1, .int v1)]) rfl ?_
      refine z_goto (pc := 50) C dX8_makesPresent_50 (tgt := 16) (by decide) ?_
      refine z_lv (lv' := [(0, .ref a0), (1, .int v1), (2, .int (v2 + (1 : Int32)))]) [1, 2, 0] rfl ?_
      exact hk16 v1 (v2 + (1 : Int32)) (sb s0 23 (vp_updL (s0.2.2.2 23) (v1).toNatClampNeg x10)) h
def F_X8_makesPresent_2 (N : Nat)  (k2 : Int32 → Ob → Option (Ob)) (v1 : Int32) (s0 : Ob) : Option (Ob) := (if (4 : Int32) ≤ v1 then (f_X8_makesPresent_61 N N (0 : Int32) s0) else (chk (inb v1 4) (f_X8_makesPresent_16 N k2 N v1 (0 : Int32) (sb s0 23 (vp_updL (s0.2.2.2 23) (v1).toNatClampNeg (0 : Int64))))))
def f_X8_makesPresent_2 (N : Nat)  : Nat → Int32 → Ob → Option (Ob) := zlp (fun _ _ => none) (F_X8_makesPresent_2 N)
theorem m_X8_makesPresent_2 {K : Kt} {g : Gp} {a0 : Nat} {r0 : Nat → Nat} {N : Nat} {res : Ob} (hg : Ok g) (C : Cx K g cX8_makesPresent RX8 3 (zrm 1 22)) (X : Rx K (exR none (wX8 g a0 r0 res)) 0 0 none) : ∀ (n : Nat) (v1 : Int32) (s0 : Ob), f_X8_makesPresent_2 N n v1 s0 = some res → Zs K 0 0 (wX8 g a0 r0 s0) [(0, .ref a0), (1, .int v1)] 2 [] := by
  intro n
  induction n with
  | zero => intro v1 s0 h; exact nomatch (show (none : Option (Ob)) = some res from h)
  | succ n hk2 =>
    intro v1 s0 h
    replace h : F_X8_makesPresent_2 N (f_X8_makesPresent_2 N n) v1 s0 = some res := h
    unfold F_X8_makesPresent_2 at h
    refine z_iload_n (pc := 2) (x := v1) C dX8_makesPresent_2 (i := 1) rfl rfl ?_
    refine z_iconst (pc := 3) C dX8_makesPresent_3 ic_4 ?_
    refine z_icmp_ge (pc := 4) C dX8_makesPresent_4 (tgt := 59) (by decide) (fun hc => ?_) (fun hc => ?_)
    · replace h := (ite_e h).1 hc
      refine z_iconst (pc := 59) C dX8_makesPresent_59 ic_0 ?_
      refine z_istore_n (pc := 60) C dX8_makesPresent_60 (i := 1) rfl (by decide) (lv' := [(1, .int (0 : Int32)), (0, .ref a0)]) rfl ?_
      refine z_lv (lv' := [(0, .ref a0), (1, .int (0 : Int32))]) [1, 0] rfl ?_
      exact m_X8_makesPresent_61 (a0 := a0) (r0 := r0) hg C X N (0 : Int32) s0 h
    · replace h := (ite_e h).2 hc
      refine z_aload_n (pc := 7) (x := a0) C dX8_makesPresent_7 (i := 0) rfl rfl ?_
      refine z_get (pc := 8) (v := .ref (r0 23)) C 0 dX8_makesPresent_8 fl_RX8_50 rfl rfl ?_
      refine z_iload_n (pc := 11) (x := v1) C dX8_makesPresent_11 (i := 1) rfl rfl ?_
      refine z_lconst (pc := 12) (v := (0 : Int64)) C dX8_makesPresent_12 rfl ?_
      replace h := chk_e h
      obtain ⟨hb6, h⟩ := h
      refine z_last (pc := 13) C 12 dX8_makesPresent_13 rfl hb6 (ws' := (wX8 g a0 r0 (sb s0 23 (vp_updL (s0.2.2.2 23) (v1).toNatClampNeg (0 : Int64))))) rfl ?_
      refine z_iconst (pc := 14) C dX8_makesPresent_14 ic_0 ?_
      refine z_istore_n (pc := 15) C dX8_makesPresent_15 (i := 2) rfl (by decide) (lv' := [(2, .int (0 : Int32)), (0, .ref a0), (1, .int v1)]) rfl ?_
      refine z_lv (lv' := [(0, .ref a0), (1, .int v1), (2, .int (0 : Int32))]) [1, 2, 0] rfl ?_
      exact m_X8_makesPresent_16 (a0 := a0) (r0 := r0) hg C X hk2 N v1 (0 : Int32) (sb s0 23 (vp_updL (s0.2.2.2 23) (v1).toNatClampNeg (0 : Int64))) h
def f_X8_makesPresent (N : Nat) (s0 : Ob) : Option (Ob) := (f_X8_makesPresent_2 N N (0 : Int32) s0)
theorem m_X8_makesPresent {g : Gp} {a0 : Nat} {r0 : Nat → Nat} {N : Nat} {s0 : Ob} {res : Ob} (hg : Ok g) (h : f_X8_makesPresent N s0 = some res) : Ct g yX8_makesPresent cX8_makesPresent 3 none (zrm 1 22) [.ref a0] (wX8 g a0 r0 s0) (exR none (wX8 g a0 r0 res)) := by
  refine ct_of rfl hg (by show _ ≤ _; exact Nat.le_of_ble_eq_true rfl) (fun K C X => ?_)
  show Zs K 0 0 (wX8 g a0 r0 s0) [(0, .ref a0)] 0 []
  unfold f_X8_makesPresent at h
  refine z_iconst (pc := 0) C dX8_makesPresent_0 ic_0 ?_
  refine z_istore_n (pc := 1) C dX8_makesPresent_1 (i := 1) rfl (by decide) (lv' := [(1, .int (0 : Int32)), (0, .ref a0)]) rfl ?_
  refine z_lv (lv' := [(0, .ref a0), (1, .int (0 : Int32))]) [1, 0] rfl ?_
  exact m_X8_makesPresent_2 (a0 := a0) (r0 := r0) hg C X N (0 : Int32) s0 h
def F_X8_searches_35 (N : Nat)  (k35 : Int32 → Int32 → Ob → Option (Int32 × Ob)) (v1 : Int32) (v2 : Int32) (s0 : Ob) : Option (Int32 × Ob) := (if (s0.1 22) ≤ v2 then (some (v1, s0)) else (ob (f_X8_goesOn N s0 v2) fun x2 => (if (x2.1 22) ≤ (4000 : Int32) then (ob (f_X8_unpacks N x2 v2) fun x3 => (ob (f_X8_scoreMade N x3) fun x4 => (k35 (if v1 < x4 then x4 else v1) (v2 + (1 : Int32)) x3))) else (some ((-8 : Int32), x2)))))
def f_X8_searches_35 (N : Nat)  : Nat → Int32 → Int32 → Ob → Option (Int32 × Ob) := zlp (fun _ _ _ => none) (F_X8_searches_35 N)
theorem m_X8_searches_35 {K : Kt} {g : Gp} {a0 : Nat} {r0 : Nat → Nat} {N : Nat} {res : Int32 × Ob} (hg : Ok g) (C : Cx K g cX8_searches RX8 3 (zrm 3 73)) (X : Rx K (exR (some (.int res.1)) (wX8 g a0 r0 res.2)) 0 0 (some .int)) : ∀ (n : Nat) (v1 : Int32) (v2 : Int32) (s0 : Ob), f_X8_searches_35 N n v1 v2 s0 = some res → Zs K 0 0 (wX8 g a0 r0 s0) [(0, .ref a0), (1, .int v1), (2, .int v2)] 35 [] := by
  intro n
  induction n with
  | zero => intro v1 v2 s0 h; exact nomatch (show (none : Option (Int32 × Ob)) = some res from h)
  | succ n hk35 =>
    intro v1 v2 s0 h
    replace h : F_X8_searches_35 N (f_X8_searches_35 N n) v1 v2 s0 = some res := h
    unfold F_X8_searches_35 at h
    refine z_iload_n (pc := 35) (x := v2) C dX8_searches_35 (i := 2) rfl rfl ?_
    refine z_aload_n (pc := 36) (x := a0) C dX8_searches_36 (i := 0) rfl rfl ?_
    refine z_get (pc := 37) (v := .int (s0.1 22)) C 0 dX8_searches_37 fl_RX8_361 rfl rfl ?_
    refine z_icmp_ge (pc := 40) C dX8_searches_40 (tgt := 81) (by decide) (fun hc => ?_) (fun hc => ?_)
    · replace h := (ite_e h).1 hc
      refine z_iload_n (pc := 81) (x := v1) C dX8_searches_81 (i := 1) rfl rfl ?_
      exact z_iret C X dX8_searches_82 (by rw [← Option.some.inj h]; exact ⟨rfl, rfl⟩) (by decide) (by decide)
    · replace h := (ite_e h).2 hc
      refine z_aload_n (pc := 43) (x := a0) C dX8_searches_43 (i := 0) rfl rfl ?_
      refine z_iload_n (pc := 44) (x := v2) C dX8_searches_44 (i := 2) rfl rfl ?_
      replace h := ob_e h
      obtain ⟨x2, hx2, h⟩ := h
      refine z_callV (pc := 45) (As := [.int v2]) (rest := []) (wr := ([] : va_W)) C dX8_searches_45 ml_RX8_382 wv_X8_goesOn (m_X8_goesOn (a0 := a0) (r0 := r0) hg hx2) [0, 1, 2, 3, 4, 5, 6, 7, 8, 9, 10, 11, 12, 13, 14] [] rfl rfl ⟨by decide, by decide⟩ (Nat.le_of_ble_eq_true rfl) ⟨by decide, by decide⟩ rfl rfl rfl rfl rfl rfl rfl (by decide) (ex_k C (cs' := 0) (ss' := 0) (wF := (wX8 g a0 r0 x2)) [0, 1, 2, 3, 4, 5, 6, 7, 8, 9, 10, 11, 12, 13, 14] rfl rfl ?_)
      refine z_aload_n (pc := 48) (x := a0) C dX8_searches_48 (i := 0) rfl rfl ?_
      refine z_get (pc := 49) (v := .int (x2.1 22)) C 0 dX8_searches_49 fl_RX8_361 rfl rfl ?_
      refine z_sipush (pc := 52) C dX8_searches_52 sp_4000 ?_
      refine z_icmp_le (pc := 55) C dX8_searches_55 (tgt := 61) (by decide) (fun hc => ?_) (fun hc => ?_)
      · replace h := (ite_e h).1 hc
        refine z_aload_n (pc := 61) (x := a0) C dX8_searches_61 (i := 0) rfl rfl ?_
        refine z_iload_n (pc := 62) (x := v2) C dX8_searches_62 (i := 2) rfl rfl ?_
        replace h := ob_e h
        obtain ⟨x3, hx3, h⟩ := h
        refine z_callV (pc := 63) (As := [.int v2]) (rest := []) (wr := ([] : va_W)) C dX8_searches_63 ml_RX8_366 wv_X8_unpacks (m_X8_unpacks (a0 := a0) (r0 := r0) hg hx3) [0, 1, 2, 3, 4, 5, 6, 7, 8, 9, 10, 11, 12, 13, 14] [] rfl rfl ⟨by decide, by decide⟩ (Nat.le_of_ble_eq_true rfl) ⟨by decide, by decide⟩ rfl rfl rfl rfl rfl rfl rfl (by decide) (ex_k C (cs' := 0) (ss' := 0) (wF := (wX8 g a0 r0 x3)) [0, 1, 2, 3, 4, 5, 6, 7, 8, 9, 10, 11, 12, 13, 14] rfl rfl ?_)
        refine z_iload_n (pc := 66) (x := v1) C dX8_searches_66 (i := 1) rfl rfl ?_
        refine z_aload_n (pc := 67) (x := a0) C dX8_searches_67 (i := 0) rfl rfl ?_
        replace h := ob_e h
        obtain ⟨x4, hx4, h⟩ := h
        refine z_callV (pc := 68) (As := []) (rest := [.int v1]) (wr := ([] : va_W)) C dX8_searches_68 ml_RX8_385 wv_X8_scoreMade (m_X8_scoreMade (a0 := a0) (r0 := r0) hg hx4) [0, 1, 2, 3, 4, 5, 6, 7, 8, 9, 10, 11, 12, 13, 14] [] rfl rfl ⟨by decide, by decide⟩ (Nat.le_of_ble_eq_true rfl) ⟨by decide, by decide⟩ rfl rfl rfl rfl rfl rfl rfl (by decide) (ex_k C (cs' := 0) (ss' := 0) (wF := (wX8 g a0 r0 x3)) [0, 1, 2, 3, 4, 5, 6, 7, 8, 9, 10, 11, 12, 13, 14] rfl rfl ?_)
        refine z_mmax (pc := 71) C dX8_searches_71 ml_RX8_388 wm_max (by decide) (Nat.le_of_ble_eq_true rfl) (by decide) (by decide) ?_
        refine z_istore_n (pc := 74) C dX8_searches_74 (i := 1) rfl (by decide) (lv' := [(1, .int (if v1 < x4 then x4 else v1)), (0, .ref a0), (2, .int v2)]) rfl ?_
        refine z_iinc (pc := 75) C dX8_searches_75 rfl (inc_e 1 (1 : Int32) ic_1 v2) (by decide) (lv' := [(2, .int (v2 + (1 : Int32))), (1, .int (if v1 < x4 then x4 else v1)), (0, .ref a0)]) rfl ?_
        refine z_goto (pc := 78) C dX8_searches_78 (tgt := 35) (by decide) ?_
        refine z_lv (lv' := [(0, .ref a0), (1, .int (if v1 < x4 then x4 else v1)), (2, .int (v2 + (1 : Int32)))]) [2, 1, 0] rfl ?_
        exact hk35 (if v1 < x4 then x4 else v1) (v2 + (1 : Int32)) x3 h
      · replace h := (ite_e h).2 hc
        refine z_bipush (pc := 58) C dX8_searches_58 bp_m8 ?_
        exact z_iret C X dX8_searches_60 (by rw [← Option.some.inj h]; exact ⟨rfl, rfl⟩) (by decide) (by decide)
def F_X8_searches_2 (N : Nat)  (k2 : Int32 → Ob → Option (Int32 × Ob)) (v1 : Int32) (s0 : Ob) : Option (Int32 × Ob) := (if (16384 : Int32) ≤ v1 then (ob (f_X8_adds N (si s0 22 (0 : Int32))) fun x1 => (f_X8_searches_35 N N (0 : Int32) (0 : Int32) x1)) else (chk (inb v1 16384) (k2 (v1 + (1 : Int32)) (sa s0 21 (upd (s0.2.2.1 21) (v1).toNatClampNeg (-1 : Int32))))))
def f_X8_searches_2 (N : Nat)  : Nat → Int32 → Ob → Option (Int32 × Ob) := zlp (fun _ _ => none) (F_X8_searches_2 N)
theorem m_X8_searches_2 {K : Kt} {g : Gp} {a0 : Nat} {r0 : Nat → Nat} {N : Nat} {res : Int32 × Ob} (hg : Ok g) (C : Cx K g cX8_searches RX8 3 (zrm 3 73)) (X : Rx K (exR (some (.int res.1)) (wX8 g a0 r0 res.2)) 0 0 (some .int)) : ∀ (n : Nat) (v1 : Int32) (s0 : Ob), f_X8_searches_2 N n v1 s0 = some res → Zs K 0 0 (wX8 g a0 r0 s0) [(0, .ref a0), (1, .int v1)] 2 [] := by
  intro n
  induction n with
  | zero => intro v1 s0 h; exact nomatch (show (none : Option (Int32 × Ob)) = some res from h)
  | succ n hk2 =>
    intro v1 s0 h
    replace h : F_X8_searches_2 N (f_X8_searches_2 N n) v1 s0 = some res := h
    unfold F_X8_searches_2 at h
    refine z_iload_n (pc := 2) (x := v1) C dX8_searches_2 (i := 1) rfl rfl ?_
    refine z_sipush (pc := 3) C dX8_searches_3 sp_16384 ?_
    refine z_icmp_ge (pc := 6) C dX8_searches_6 (tgt := 22) (by decide) (fun hc => ?_) (fun hc => ?_)
    · replace h := (ite_e h).1 hc
      refine z_aload_n (pc := 22) (x := a0) C dX8_searches_22 (i := 0) rfl rfl ?_
      refine z_iconst (pc := 23) C dX8_searches_23 ic_0 ?_
      refine z_put (pc := 24) C 0 dX8_searches_24 fp_RX8_361 rfl rfl rfl (zlt_b rfl) (ws' := (wX8 g a0 r0 (si s0 22 (0 : Int32)))) rfl ?_
      refine z_aload_n (pc := 27) (x := a0) C dX8_searches_27 (i := 0) rfl rfl ?_
      replace h := ob_e h
      obtain ⟨x1, hx1, h⟩ := h
      refine z_callV (pc := 28) (As := []) (rest := []) (wr := ([] : va_W)) C dX8_searches_28 ml_RX8_379 wv_X8_adds (m_X8_adds (a0 := a0) (r0 := r0) hg hx1) [0, 1, 2, 3, 4, 5, 6, 7, 8, 9, 10, 11, 12, 13, 14] [] rfl rfl ⟨by decide, by decide⟩ (Nat.le_of_ble_eq_true rfl) ⟨by decide, by decide⟩ rfl rfl rfl rfl rfl rfl rfl (by decide) (ex_k C (cs' := 0) (ss' := 0) (wF := (wX8 g a0 r0 x1)) [0, 1, 2, 3, 4, 5, 6, 7, 8, 9, 10, 11, 12, 13, 14] rfl rfl ?_)
      refine z_iconst (pc := 31) C dX8_searches_31 ic_0 ?_
      refine z_istore_n (pc := 32) C dX8_searches_32 (i := 1) rfl (by decide) (lv' := [(1, .int (0 : Int32)), (0, .ref a0)]) rfl ?_
      refine z_iconst (pc := 33) C dX8_searches_33 ic_0 ?_
      refine z_istore_n (pc := 34) C dX8_searches_34 (i := 2) rfl (by decide) (lv' := [(2, .int (0 : Int32)), (1, .int (0 : Int32)), (0, .ref a0)]) rfl ?_
      refine z_lv (lv' := [(0, .ref a0), (1, .int (0 : Int32)), (2, .int (0 : Int32))]) [2, 1, 0] rfl ?_
      exact m_X8_searches_35 (a0 := a0) (r0 := r0) hg C X N (0 : Int32) (0 : Int32) x1 h
    · replace h := (ite_e h).2 hc
      refine z_aload_n (pc := 9) (x := a0) C dX8_searches_9 (i := 0) rfl rfl ?_
      refine z_get (pc := 10) (v := .ref (r0 21)) C 0 dX8_searches_10 fl_RX8_47 rfl rfl ?_
      refine z_iload_n (pc := 13) (x := v1) C dX8_searches_13 (i := 1) rfl rfl ?_
      refine z_iconst (pc := 14) C dX8_searches_14 ic_m1 ?_
      replace h := chk_e h
      obtain ⟨hb5, h⟩ := h
      refine z_iast (pc := 15) C 11 dX8_searches_15 rfl hb5 (ws' := (wX8 g a0 r0 (sa s0 21 (upd (s0.2.2.1 21) (v1).toNatClampNeg (-1 : Int32))))) rfl ?_
      refine z_iinc (pc := 16) C dX8_searches_16 rfl (inc_e 1 (1 : Int32) ic_1 v1) (by decide) (lv' := [(1, .int (v1 + (1 : Int32))), (0, .ref a0)]) rfl ?_
      refine z_goto (pc := 19) C dX8_searches_19 (tgt := 2) (by decide) ?_
      refine z_lv (lv' := [(0, .ref a0), (1, .int (v1 + (1 : Int32)))]) [1, 0] rfl ?_
      exact hk2 (v1 + (1 : Int32)) (sa s0 21 (upd (s0.2.2.1 21) (v1).toNatClampNeg (-1 : Int32))) h
def f_X8_searches (N : Nat) (s0 : Ob) : Option (Int32 × Ob) := (f_X8_searches_2 N N (0 : Int32) s0)
theorem m_X8_searches {g : Gp} {a0 : Nat} {r0 : Nat → Nat} {N : Nat} {s0 : Ob} {res : Int32 × Ob} (hg : Ok g) (h : f_X8_searches N s0 = some res) : Ct g yX8_searches cX8_searches 3 (some .int) (zrm 3 73) [.ref a0] (wX8 g a0 r0 s0) (exR (some (.int res.1)) (wX8 g a0 r0 res.2)) := by
  refine ct_of rfl hg (by show _ ≤ _; exact Nat.le_of_ble_eq_true rfl) (fun K C X => ?_)
  show Zs K 0 0 (wX8 g a0 r0 s0) [(0, .ref a0)] 0 []
  unfold f_X8_searches at h
  refine z_iconst (pc := 0) C dX8_searches_0 ic_0 ?_
  refine z_istore_n (pc := 1) C dX8_searches_1 (i := 1) rfl (by decide) (lv' := [(1, .int (0 : Int32)), (0, .ref a0)]) rfl ?_
  refine z_lv (lv' := [(0, .ref a0), (1, .int (0 : Int32))]) [1, 0] rfl ?_
  exact m_X8_searches_2 (a0 := a0) (r0 := r0) hg C X N (0 : Int32) s0 h
