/-! OWN, written by wip/whole/tools/mkall.py: what each method does to its cells, and the walk that shows it -/
def f_X8_discards (N : Nat) (s0 : Ob) (p1 : Int32) : Option (Ob) := (ob (f_X8_held N s0 ((s0.2.2.1 0) 10) p1) fun x1 => (chk (inb ((27 : Int32) + x1) 358) (ob (f_X8_told N ((s0.2.2.1 0) (((27 : Int32) + x1)).toNatClampNeg)) fun x3 => (ob (f_X8_logs N s0 (1 : Int32) x3 (-1 : Int32)) fun x4 => (ob (f_X8_takesOut N x4 p1) fun x5 => (ob (f_X8_toHeap N x5.2 x5.1) fun x6 => (ob (f_X8_tokenBack N (sa x6 0 (upd (x6.2.2.1 0) 233 (((x6.2.2.1 0) 233) + (1 : Int32))))) fun x7 => (ob (f_X8_endsTurn N x7 (1 : Int32)) fun x8 => (some x8)))))))))
theorem m_X8_discards {g : Gp} {a0 : Nat} {r0 : Nat → Nat} {N : Nat} {s0 : Ob} {p1 : Int32} {res : Ob} (hg : Ok g) (h : f_X8_discards N s0 p1 = some res) : Ct g yX8_discards cX8_discards 2 none (zrm 5 110) [.ref a0, .int p1] (wX8 g a0 r0 s0) (exR none (wX8 g a0 r0 res)) := by
  refine ct_of rfl hg (by show _ ≤ _; exact Nat.le_of_ble_eq_true rfl) (fun K C X => ?_)
  show Zs K 0 0 (wX8 g a0 r0 s0) [(0, .ref a0), (1, .int p1)] 0 []
  unfold f_X8_discards at h
  refine z_aload_n (pc := 0) (x := a0) C dX8_discards_0 (i := 0) rfl rfl ?_
  refine z_iconst (pc := 1) C dX8_discards_1 ic_1 ?_
  refine z_aload_n (pc := 2) (x := a0) C dX8_discards_2 (i := 0) rfl rfl ?_
  refine z_get (pc := 3) (v := .ref (r0 0)) C 0 dX8_discards_3 fl_RX8_9 rfl rfl ?_
  refine z_bipush (pc := 6) C dX8_discards_6 bp_27 ?_
  refine z_aload_n (pc := 8) (x := a0) C dX8_discards_8 (i := 0) rfl rfl ?_
  refine z_aload_n (pc := 9) (x := a0) C dX8_discards_9 (i := 0) rfl rfl ?_
  refine z_get (pc := 10) (v := .ref (r0 0)) C 0 dX8_discards_10 fl_RX8_9 rfl rfl ?_
  refine z_bipush (pc := 13) C dX8_discards_13 bp_10 ?_
  refine z_iald (pc := 15) C 1 dX8_discards_15 rfl (by decide) ?_
  refine z_top1 (v := ((s0.2.2.1 0) 10)) rfl ?_
  refine z_iload_n (pc := 16) (x := p1) C dX8_discards_16 (i := 1) rfl rfl ?_
  replace h := ob_e h
  obtain ⟨x1, hx1, h⟩ := h
  refine z_callV (pc := 17) (As := [.int ((s0.2.2.1 0) 10), .int p1]) (rest := [.int (27 : Int32), .ref (r0 0), .int (1 : Int32), .ref a0]) (wr := ([] : va_W)) C dX8_discards_17 ml_RX8_217 wv_X8_held (m_X8_held (a0 := a0) (r0 := r0) hg hx1) [0, 1, 2, 3, 4, 5, 6, 7, 8, 9, 10, 11, 12, 13, 14] [] rfl rfl ⟨by decide, by decide⟩ (Nat.le_of_ble_eq_true rfl) ⟨by decide, by decide⟩ rfl rfl rfl rfl rfl rfl rfl (by decide) (ex_k C (cs' := 0) (ss' := 0) (wF := (wX8 g a0 r0 s0)) [0, 1, 2, 3, 4, 5, 6, 7, 8, 9, 10, 11, 12, 13, 14] rfl rfl ?_)
  refine z_iadd (pc := 20) C dX8_discards_20 ?_
  replace h := chk_e h
  obtain ⟨hb2, h⟩ := h
  refine z_iald (pc := 21) C 1 dX8_discards_21 rfl hb2 ?_
  replace h := ob_e h
  obtain ⟨x3, hx3, h⟩ := h
  refine z_callS (pc := 22) (As := [.int ((s0.2.2.1 0) (((27 : Int32) + x1)).toNatClampNeg)]) (rest := [.int (1 : Int32), .ref a0]) (wr := (wX8 g a0 r0 s0)) C dX8_discards_22 ml_RX8_220 wt_X8_told (m_X8_told hg hx3) [] [0, 1, 2, 3, 4, 5, 6, 7, 8, 9, 10, 11, 12, 13, 14] rfl rfl ⟨by decide, by decide⟩ (Nat.le_of_ble_eq_true rfl) ⟨by decide, by decide⟩ rfl rfl rfl rfl (by decide) (ex_k C (cs' := 0) (ss' := 0) (wF := (wX8 g a0 r0 s0)) [0, 1, 2, 3, 4, 5, 6, 7, 8, 9, 10, 11, 12, 13, 14] rfl rfl ?_)
  refine z_iconst (pc := 25) C dX8_discards_25 ic_m1 ?_
  replace h := ob_e h
  obtain ⟨x4, hx4, h⟩ := h
  refine z_callV (pc := 26) (As := [.int (1 : Int32), .int x3, .int (-1 : Int32)]) (rest := []) (wr := ([] : va_W)) C dX8_discards_26 ml_RX8_280 wv_X8_logs (m_X8_logs (a0 := a0) (r0 := r0) hg hx4) [0, 1, 2, 3, 4, 5, 6, 7, 8, 9, 10, 11, 12, 13, 14] [] rfl rfl ⟨by decide, by decide⟩ (Nat.le_of_ble_eq_true rfl) ⟨by decide, by decide⟩ rfl rfl rfl rfl rfl rfl rfl (by decide) (ex_k C (cs' := 0) (ss' := 0) (wF := (wX8 g a0 r0 x4)) [0, 1, 2, 3, 4, 5, 6, 7, 8, 9, 10, 11, 12, 13, 14] rfl rfl ?_)
  refine z_aload_n (pc := 29) (x := a0) C dX8_discards_29 (i := 0) rfl rfl ?_
  refine z_aload_n (pc := 30) (x := a0) C dX8_discards_30 (i := 0) rfl rfl ?_
  refine z_iload_n (pc := 31) (x := p1) C dX8_discards_31 (i := 1) rfl rfl ?_
  replace h := ob_e h
  obtain ⟨x5, hx5, h⟩ := h
  refine z_callV (pc := 32) (As := [.int p1]) (rest := [.ref a0]) (wr := ([] : va_W)) C dX8_discards_32 ml_RX8_284 wv_X8_takesOut (m_X8_takesOut (a0 := a0) (r0 := r0) hg hx5) [0, 1, 2, 3, 4, 5, 6, 7, 8, 9, 10, 11, 12, 13, 14] [] rfl rfl ⟨by decide, by decide⟩ (Nat.le_of_ble_eq_true rfl) ⟨by decide, by decide⟩ rfl rfl rfl rfl rfl rfl rfl (by decide) (ex_k C (cs' := 0) (ss' := 0) (wF := (wX8 g a0 r0 x5.2)) [0, 1, 2, 3, 4, 5, 6, 7, 8, 9, 10, 11, 12, 13, 14] rfl rfl ?_)
  replace h := ob_e h
  obtain ⟨x6, hx6, h⟩ := h
  refine z_callV (pc := 35) (As := [.int x5.1]) (rest := []) (wr := ([] : va_W)) C dX8_discards_35 ml_RX8_290 wv_X8_toHeap (m_X8_toHeap (a0 := a0) (r0 := r0) hg hx6) [0, 1, 2, 3, 4, 5, 6, 7, 8, 9, 10, 11, 12, 13, 14] [] rfl rfl ⟨by decide, by decide⟩ (Nat.le_of_ble_eq_true rfl) ⟨by decide, by decide⟩ rfl rfl rfl rfl rfl rfl rfl (by decide) (ex_k C (cs' := 0) (ss' := 0) (wF := (wX8 g a0 r0 x6)) [0, 1, 2, 3, 4, 5, 6, 7, 8, 9, 10, 11, 12, 13, 14] rfl rfl ?_)
  refine z_aload_n (pc := 38) (x := a0) C dX8_discards_38 (i := 0) rfl rfl ?_
  refine z_get (pc := 39) (v := .ref (r0 0)) C 0 dX8_discards_39 fl_RX8_9 rfl rfl ?_
  refine z_sipush (pc := 42) C dX8_discards_42 sp_233 ?_
  refine z_dup2 (pc := 45) C dX8_discards_45 rfl rfl ?_
  refine z_iald (pc := 46) C 1 dX8_discards_46 rfl (by decide) ?_
  refine z_top1 (v := ((x6.2.2.1 0) 233)) rfl ?_
  refine z_iconst (pc := 47) C dX8_discards_47 ic_1 ?_
  refine z_iadd (pc := 48) C dX8_discards_48 ?_
  refine z_iast (pc := 49) C 1 dX8_discards_49 rfl (by decide) (ws' := (wX8 g a0 r0 (sa x6 0 (upd (x6.2.2.1 0) 233 (((x6.2.2.1 0) 233) + (1 : Int32)))))) rfl ?_
  refine z_aload_n (pc := 50) (x := a0) C dX8_discards_50 (i := 0) rfl rfl ?_
  replace h := ob_e h
  obtain ⟨x7, hx7, h⟩ := h
  refine z_callV (pc := 51) (As := []) (rest := []) (wr := ([] : va_W)) C dX8_discards_51 ml_RX8_287 wv_X8_tokenBack (m_X8_tokenBack (a0 := a0) (r0 := r0) hg hx7) [0, 1, 2, 3, 4, 5, 6, 7, 8, 9, 10, 11, 12, 13, 14] [] rfl rfl ⟨by decide, by decide⟩ (Nat.le_of_ble_eq_true rfl) ⟨by decide, by decide⟩ rfl rfl rfl rfl rfl rfl rfl (by decide) (ex_k C (cs' := 0) (ss' := 0) (wF := (wX8 g a0 r0 x7)) [0, 1, 2, 3, 4, 5, 6, 7, 8, 9, 10, 11, 12, 13, 14] rfl rfl ?_)
  refine z_aload_n (pc := 54) (x := a0) C dX8_discards_54 (i := 0) rfl rfl ?_
  refine z_iconst (pc := 55) C dX8_discards_55 ic_1 ?_
  replace h := ob_e h
  obtain ⟨x8, hx8, h⟩ := h
  refine z_callV (pc := 56) (As := [.int (1 : Int32)]) (rest := []) (wr := ([] : va_W)) C dX8_discards_56 ml_RX8_293 wv_X8_endsTurn (m_X8_endsTurn (a0 := a0) (r0 := r0) hg hx8) [0, 1, 2, 3, 4, 5, 6, 7, 8, 9, 10, 11, 12, 13, 14] [] rfl rfl ⟨by decide, by decide⟩ (Nat.le_of_ble_eq_true rfl) ⟨by decide, by decide⟩ rfl rfl rfl rfl rfl rfl rfl (by decide) (ex_k C (cs' := 0) (ss' := 0) (wF := (wX8 g a0 r0 x8)) [0, 1, 2, 3, 4, 5, 6, 7, 8, 9, 10, 11, 12, 13, 14] rfl rfl ?_)
  exact z_vret C X dX8_discards_59 (by rw [← Option.some.inj h]; exact ⟨rfl, rfl⟩) (by decide) (by decide)
def F_X8_hints_43 (N : Nat) (p1 : Int32) (p2 : Int32) (p3 : Int32)  (k43 : Int32 → Int32 → Ob → Option (Int32 × Ob)) (v4 : Int32) (v5 : Int32) (s0 : Ob) : Option (Int32 × Ob) := (chk (inb ((187 : Int32) + p1) 358) (if ((s0.2.2.1 0) (((187 : Int32) + p1)).toNatClampNeg) ≤ v5 then (znm (sa s0 0 (upd (s0.2.2.1 0) 234 (((s0.2.2.1 0) 234) + (1 : Int32)))) fun y8 => (ob (f_X8_endsTurn N (sa y8 0 (upd (y8.2.2.1 0) 236 (((upd (s0.2.2.1 0) 234 (((s0.2.2.1 0) 234) + (1 : Int32))) 236) + v4))) (0 : Int32)) fun x9 => (some (v4, x9)))) else (ob (f_X8_held N s0 p1 v5) fun x10 => (ob (f_X8_colorsBehind N s0 x10 p2 p3) fun x11 => (ob (f_X8_ranksBehind N s0 x10 p2 p3) fun x12 => (chk (inb ((107 : Int32) + x10) 358) (znm (sa s0 0 (upd (s0.2.2.1 0) (((107 : Int32) + x10)).toNatClampNeg x12)) fun y14 => (chk (inb ((67 : Int32) + x10) 358) (ob (f_X8_isTouchedBy N (sa y14 0 (upd (y14.2.2.1 0) (((67 : Int32) + x10)).toNatClampNeg x11)) x10 p2 p3) fun x16 => (if x16 = 0 then (k43 v4 (v5 + (1 : Int32)) (sa y14 0 (upd (y14.2.2.1 0) (((67 : Int32) + x10)).toNatClampNeg x11))) else (znm (sa y14 0 (upd (y14.2.2.1 0) (((67 : Int32) + x10)).toNatClampNeg x11)) fun y17 => (chk (inb ((147 : Int32) + x10) 358) (k43 (v4 + (1 : Int32)) (v5 + (1 : Int32)) (sa y17 0 (upd (y17.2.2.1 0) (((147 : Int32) + x10)).toNatClampNeg (1 : Int32))))))))))))))))
def f_X8_hints_43 (N : Nat) (p1 : Int32) (p2 : Int32) (p3 : Int32)  : Nat → Int32 → Int32 → Ob → Option (Int32 × Ob) := zlp (fun _ _ _ => none) (F_X8_hints_43 N p1 p2 p3)
theorem m_X8_hints_43 {K : Kt} {g : Gp} {a0 : Nat} {r0 : Nat → Nat} {N : Nat} {p1 : Int32} {p2 : Int32} {p3 : Int32} {res : Int32 × Ob} (hg : Ok g) (C : Cx K g cX8_hints RX8 8 (zrm 3 68)) (X : Rx K (exR (some (.int res.1)) (wX8 g a0 r0 res.2)) 0 0 (some .int)) : ∀ (n : Nat) (v4 : Int32) (v5 : Int32) (s0 : Ob), f_X8_hints_43 N p1 p2 p3 n v4 v5 s0 = some res → Zs K 0 0 (wX8 g a0 r0 s0) [(0, .ref a0), (1, .int p1), (2, .int p2), (3, .int p3), (4, .int v4), (5, .int v5)] 43 [] := by
  intro n
  induction n with
  | zero => intro v4 v5 s0 h; exact nomatch (show (none : Option (Int32 × Ob)) = some res from h)
  | succ n hk43 =>
    intro v4 v5 s0 h
    replace h : F_X8_hints_43 N p1 p2 p3 (f_X8_hints_43 N p1 p2 p3 n) v4 v5 s0 = some res := h
    unfold F_X8_hints_43 at h
    refine z_iload (pc := 43) (x := v5) C dX8_hints_43 rfl ?_
    refine z_aload_n (pc := 45) (x := a0) C dX8_hints_45 (i := 0) rfl rfl ?_
    refine z_get (pc := 46) (v := .ref (r0 0)) C 0 dX8_hints_46 fl_RX8_9 rfl rfl ?_
    refine z_sipush (pc := 49) C dX8_hints_49 sp_187 ?_
    refine z_iload_n (pc := 52) (x := p1) C dX8_hints_52 (i := 1) rfl rfl ?_
    refine z_iadd (pc := 53) C dX8_hints_53 ?_
    replace h := chk_e h
    obtain ⟨hb7, h⟩ := h
    refine z_iald (pc := 54) C 1 dX8_hints_54 rfl hb7 ?_
    refine z_icmp_ge (pc := 55) C dX8_hints_55 (tgt := 139) (by decide) (fun hc => ?_) (fun hc => ?_)
    · replace h := (ite_e h).1 hc
      refine z_aload_n (pc := 139) (x := a0) C dX8_hints_139 (i := 0) rfl rfl ?_
      refine z_get (pc := 140) (v := .ref (r0 0)) C 0 dX8_hints_140 fl_RX8_9 rfl rfl ?_
      refine z_sipush (pc := 143) C dX8_hints_143 sp_234 ?_
      refine z_dup2 (pc := 146) C dX8_hints_146 rfl rfl ?_
      refine z_iald (pc := 147) C 1 dX8_hints_147 rfl (by decide) ?_
      refine z_top1 (v := ((s0.2.2.1 0) 234)) rfl ?_
      refine z_iconst (pc := 148) C dX8_hints_148 ic_1 ?_
      refine z_iadd (pc := 149) C dX8_hints_149 ?_
      refine z_iast (pc := 150) C 1 dX8_hints_150 rfl (by decide) (ws' := (wX8 g a0 r0 (sa s0 0 (upd (s0.2.2.1 0) 234 (((s0.2.2.1 0) 234) + (1 : Int32)))))) rfl ?_
      refine z_aload_n (pc := 151) (x := a0) C dX8_hints_151 (i := 0) rfl rfl ?_
      refine z_get (pc := 152) (v := .ref (r0 0)) C 0 dX8_hints_152 fl_RX8_9 rfl rfl ?_
      refine z_sipush (pc := 155) C dX8_hints_155 sp_236 ?_
      refine z_dup2 (pc := 158) C dX8_hints_158 rfl rfl ?_
      refine z_iald (pc := 159) C 1 dX8_hints_159 rfl (by decide) ?_
      refine z_top1 (v := ((upd (s0.2.2.1 0) 234 (((s0.2.2.1 0) 234) + (1 : Int32))) 236)) rfl ?_
      refine z_iload (pc := 160) (x := v4) C dX8_hints_160 rfl ?_
      refine z_iadd (pc := 162) C dX8_hints_162 ?_
      replace h := znm_e h
      obtain ⟨y8, hy8, h⟩ := h
      refine z_wsE (ws' := (wX8 g a0 r0 y8)) (by rw [hy8]) ?_
      refine z_iast (pc := 163) C 1 dX8_hints_163 rfl (by decide) (ws' := (wX8 g a0 r0 (sa y8 0 (upd (y8.2.2.1 0) 236 (((upd (s0.2.2.1 0) 234 (((s0.2.2.1 0) 234) + (1 : Int32))) 236) + v4))))) rfl ?_
      refine z_aload_n (pc := 164) (x := a0) C dX8_hints_164 (i := 0) rfl rfl ?_
      refine z_iconst (pc := 165) C dX8_hints_165 ic_0 ?_
      replace h := ob_e h
      obtain ⟨x9, hx9, h⟩ := h
      refine z_callV (pc := 166) (As := [.int (0 : Int32)]) (rest := []) (wr := ([] : va_W)) C dX8_hints_166 ml_RX8_293 wv_X8_endsTurn (m_X8_endsTurn (a0 := a0) (r0 := r0) hg hx9) [0, 1, 2, 3, 4, 5, 6, 7, 8, 9, 10, 11, 12, 13, 14] [] rfl rfl ⟨by decide, by decide⟩ (Nat.le_of_ble_eq_true rfl) ⟨by decide, by decide⟩ rfl rfl rfl rfl rfl rfl rfl (by decide) (ex_k C (cs' := 0) (ss' := 0) (wF := (wX8 g a0 r0 x9)) [0, 1, 2, 3, 4, 5, 6, 7, 8, 9, 10, 11, 12, 13, 14] rfl rfl ?_)
      refine z_iload (pc := 169) (x := v4) C dX8_hints_169 rfl ?_
      exact z_iret C X dX8_hints_171 (by rw [← Option.some.inj h]; exact ⟨rfl, rfl⟩) (by decide) (by decide)
    · replace h := (ite_e h).2 hc
      refine z_aload_n (pc := 58) (x := a0) C dX8_hints_58 (i := 0) rfl rfl ?_
      refine z_iload_n (pc := 59) (x := p1) C dX8_hints_59 (i := 1) rfl rfl ?_
      refine z_iload (pc := 60) (x := v5) C dX8_hints_60 rfl ?_
      replace h := ob_e h
      obtain ⟨x10, hx10, h⟩ := h
      refine z_callV (pc := 62) (As := [.int p1, .int v5]) (rest := []) (wr := ([] : va_W)) C dX8_hints_62 ml_RX8_217 wv_X8_held (m_X8_held (a0 := a0) (r0 := r0) hg hx10) [0, 1, 2, 3, 4, 5, 6, 7, 8, 9, 10, 11, 12, 13, 14] [] rfl rfl ⟨by decide, by decide⟩ (Nat.le_of_ble_eq_true rfl) ⟨by decide, by decide⟩ rfl rfl rfl rfl rfl rfl rfl (by decide) (ex_k C (cs' := 0) (ss' := 0) (wF := (wX8 g a0 r0 s0)) [0, 1, 2, 3, 4, 5, 6, 7, 8, 9, 10, 11, 12, 13, 14] rfl rfl ?_)
      refine z_istore (pc := 65) C dX8_hints_65 (by decide) (lv' := [(6, .int x10), (0, .ref a0), (1, .int p1), (2, .int p2), (3, .int p3), (4, .int v4), (5, .int v5)]) rfl ?_
      refine z_aload_n (pc := 67) (x := a0) C dX8_hints_67 (i := 0) rfl rfl ?_
      refine z_iload (pc := 68) (x := x10) C dX8_hints_68 rfl ?_
      refine z_iload_n (pc := 70) (x := p2) C dX8_hints_70 (i := 2) rfl rfl ?_
      refine z_iload_n (pc := 71) (x := p3) C dX8_hints_71 (i := 3) rfl rfl ?_
      replace h := ob_e h
      obtain ⟨x11, hx11, h⟩ := h
      refine z_callV (pc := 72) (As := [.int x10, .int p2, .int p3]) (rest := []) (wr := ([] : va_W)) C dX8_hints_72 ml_RX8_271 wv_X8_colorsBehind (m_X8_colorsBehind (a0 := a0) (r0 := r0) hg hx11) [0, 1, 2, 3, 4, 5, 6, 7, 8, 9, 10, 11, 12, 13, 14] [] rfl rfl ⟨by decide, by decide⟩ (Nat.le_of_ble_eq_true rfl) ⟨by decide, by decide⟩ rfl rfl rfl rfl rfl rfl rfl (by decide) (ex_k C (cs' := 0) (ss' := 0) (wF := (wX8 g a0 r0 s0)) [0, 1, 2, 3, 4, 5, 6, 7, 8, 9, 10, 11, 12, 13, 14] rfl rfl ?_)
      refine z_istore (pc := 75) C dX8_hints_75 (by decide) (lv' := [(7, .int x11), (6, .int x10), (0, .ref a0), (1, .int p1), (2, .int p2), (3, .int p3), (4, .int v4), (5, .int v5)]) rfl ?_
      refine z_aload_n (pc := 77) (x := a0) C dX8_hints_77 (i := 0) rfl rfl ?_
      refine z_get (pc := 78) (v := .ref (r0 0)) C 0 dX8_hints_78 fl_RX8_9 rfl rfl ?_
      refine z_bipush (pc := 81) C dX8_hints_81 bp_107 ?_
      refine z_iload (pc := 83) (x := x10) C dX8_hints_83 rfl ?_
      refine z_iadd (pc := 85) C dX8_hints_85 ?_
      refine z_aload_n (pc := 86) (x := a0) C dX8_hints_86 (i := 0) rfl rfl ?_
      refine z_iload (pc := 87) (x := x10) C dX8_hints_87 rfl ?_
      refine z_iload_n (pc := 89) (x := p2) C dX8_hints_89 (i := 2) rfl rfl ?_
      refine z_iload_n (pc := 90) (x := p3) C dX8_hints_90 (i := 3) rfl rfl ?_
      replace h := ob_e h
      obtain ⟨x12, hx12, h⟩ := h
      refine z_callV (pc := 91) (As := [.int x10, .int p2, .int p3]) (rest := [.int ((107 : Int32) + x10), .ref (r0 0)]) (wr := ([] : va_W)) C dX8_hints_91 ml_RX8_274 wv_X8_ranksBehind (m_X8_ranksBehind (a0 := a0) (r0 := r0) hg hx12) [0, 1, 2, 3, 4, 5, 6, 7, 8, 9, 10, 11, 12, 13, 14] [] rfl rfl ⟨by decide, by decide⟩ (Nat.le_of_ble_eq_true rfl) ⟨by decide, by decide⟩ rfl rfl rfl rfl rfl rfl rfl (by decide) (ex_k C (cs' := 0) (ss' := 0) (wF := (wX8 g a0 r0 s0)) [0, 1, 2, 3, 4, 5, 6, 7, 8, 9, 10, 11, 12, 13, 14] rfl rfl ?_)
      replace h := chk_e h
      obtain ⟨hb13, h⟩ := h
      refine z_iast (pc := 94) C 1 dX8_hints_94 rfl hb13 (ws' := (wX8 g a0 r0 (sa s0 0 (upd (s0.2.2.1 0) (((107 : Int32) + x10)).toNatClampNeg x12)))) rfl ?_
      refine z_aload_n (pc := 95) (x := a0) C dX8_hints_95 (i := 0) rfl rfl ?_
      refine z_get (pc := 96) (v := .ref (r0 0)) C 0 dX8_hints_96 fl_RX8_9 rfl rfl ?_
      refine z_bipush (pc := 99) C dX8_hints_99 bp_67 ?_
      refine z_iload (pc := 101) (x := x10) C dX8_hints_101 rfl ?_
      refine z_iadd (pc := 103) C dX8_hints_103 ?_
      refine z_iload (pc := 104) (x := x11) C dX8_hints_104 rfl ?_
      replace h := znm_e h
      obtain ⟨y14, hy14, h⟩ := h
      refine z_wsE (ws' := (wX8 g a0 r0 y14)) (by rw [hy14]) ?_
      replace h := chk_e h
      obtain ⟨hb15, h⟩ := h
      refine z_iast (pc := 106) C 1 dX8_hints_106 rfl hb15 (ws' := (wX8 g a0 r0 (sa y14 0 (upd (y14.2.2.1 0) (((67 : Int32) + x10)).toNatClampNeg x11)))) rfl ?_
      refine z_aload_n (pc := 107) (x := a0) C dX8_hints_107 (i := 0) rfl rfl ?_
      refine z_iload (pc := 108) (x := x10) C dX8_hints_108 rfl ?_
      refine z_iload_n (pc := 110) (x := p2) C dX8_hints_110 (i := 2) rfl rfl ?_
      refine z_iload_n (pc := 111) (x := p3) C dX8_hints_111 (i := 3) rfl rfl ?_
      replace h := ob_e h
      obtain ⟨x16, hx16, h⟩ := h
      refine z_callV (pc := 112) (As := [.int x10, .int p2, .int p3]) (rest := []) (wr := ([] : va_W)) C dX8_hints_112 ml_RX8_261 wv_X8_isTouchedBy (m_X8_isTouchedBy (a0 := a0) (r0 := r0) hg hx16) [0, 1, 2, 3, 4, 5, 6, 7, 8, 9, 10, 11, 12, 13, 14] [] rfl rfl ⟨by decide, by decide⟩ (Nat.le_of_ble_eq_true rfl) ⟨by decide, by decide⟩ rfl rfl rfl rfl rfl rfl rfl (by decide) (ex_k C (cs' := 0) (ss' := 0) (wF := (wX8 g a0 r0 (sa y14 0 (upd (y14.2.2.1 0) (((67 : Int32) + x10)).toNatClampNeg x11)))) [0, 1, 2, 3, 4, 5, 6, 7, 8, 9, 10, 11, 12, 13, 14] rfl rfl ?_)
      refine z_if_eq (pc := 115) C dX8_hints_115 (tgt := 133) (by decide) (fun hc => ?_) (fun hc => ?_)
      · replace h := (ite_e h).1 hc
        refine z_iinc (pc := 133) C dX8_hints_133 rfl (inc_e 1 (1 : Int32) ic_1 v5) (by decide) (lv' := [(5, .int (v5 + (1 : Int32))), (7, .int x11), (6, .int x10), (0, .ref a0), (1, .int p1), (2, .int p2), (3, .int p3), (4, .int v4)]) rfl ?_
        refine z_goto (pc := 136) C dX8_hints_136 (tgt := 43) (by decide) ?_
        refine z_lv (lv' := [(0, .ref a0), (1, .int p1), (2, .int p2), (3, .int p3), (4, .int v4), (5, .int (v5 + (1 : Int32)))]) [3, 4, 5, 6, 7, 0] rfl ?_
        exact hk43 v4 (v5 + (1 : Int32)) (sa y14 0 (upd (y14.2.2.1 0) (((67 : Int32) + x10)).toNatClampNeg x11)) h
      · replace h := (ite_e h).2 hc
        refine z_aload_n (pc := 118) (x := a0) C dX8_hints_118 (i := 0) rfl rfl ?_
        refine z_get (pc := 119) (v := .ref (r0 0)) C 0 dX8_hints_119 fl_RX8_9 rfl rfl ?_
        refine z_sipush (pc := 122) C dX8_hints_122 sp_147 ?_
        refine z_iload (pc := 125) (x := x10) C dX8_hints_125 rfl ?_
        refine z_iadd (pc := 127) C dX8_hints_127 ?_
        refine z_iconst (pc := 128) C dX8_hints_128 ic_1 ?_
        replace h := znm_e h
        obtain ⟨y17, hy17, h⟩ := h
        refine z_wsE (ws' := (wX8 g a0 r0 y17)) (by rw [hy17]) ?_
        replace h := chk_e h
        obtain ⟨hb18, h⟩ := h
        refine z_iast (pc := 129) C 1 dX8_hints_129 rfl hb18 (ws' := (wX8 g a0 r0 (sa y17 0 (upd (y17.2.2.1 0) (((147 : Int32) + x10)).toNatClampNeg (1 : Int32))))) rfl ?_
        refine z_iinc (pc := 130) C dX8_hints_130 rfl (inc_e 1 (1 : Int32) ic_1 v4) (by decide) (lv' := [(4, .int (v4 + (1 : Int32))), (7, .int x11), (6, .int x10), (0, .ref a0), (1, .int p1), (2, .int p2), (3, .int p3), (5, .int v5)]) rfl ?_
        refine z_iinc (pc := 133) C dX8_hints_133 rfl (inc_e 1 (1 : Int32) ic_1 v5) (by decide) (lv' := [(5, .int (v5 + (1 : Int32))), (4, .int (v4 + (1 : Int32))), (7, .int x11), (6, .int x10), (0, .ref a0), (1, .int p1), (2, .int p2), (3, .int p3)]) rfl ?_
        refine z_goto (pc := 136) C dX8_hints_136 (tgt := 43) (by decide) ?_
        refine z_lv (lv' := [(0, .ref a0), (1, .int p1), (2, .int p2), (3, .int p3), (4, .int (v4 + (1 : Int32))), (5, .int (v5 + (1 : Int32)))]) [4, 5, 6, 7, 1, 0] rfl ?_
        exact hk43 (v4 + (1 : Int32)) (v5 + (1 : Int32)) (sa y17 0 (upd (y17.2.2.1 0) (((147 : Int32) + x10)).toNatClampNeg (1 : Int32))) h
def f_X8_hints (N : Nat) (s0 : Ob) (p1 : Int32) (p2 : Int32) (p3 : Int32) : Option (Int32 × Ob) := (ob (f_X8_logs N s0 (2 : Int32) p1 (((10 : Int32) * p2) + p3)) fun x1 => (ob (f_X8_wordAt N p2 p3) fun x2 => (chk (inb x2 358) (znm ((upd (x1.2.2.1 0) 7 (((x1.2.2.1 0) 7) - (1 : Int32))) (x2).toNatClampNeg) fun x4 => (znm (sa x1 0 (upd (x1.2.2.1 0) 7 (((x1.2.2.1 0) 7) - (1 : Int32)))) fun y5 => (chk (inb x2 358) (f_X8_hints_43 N p1 p2 p3 N (0 : Int32) (0 : Int32) (sa y5 0 (upd (y5.2.2.1 0) (x2).toNatClampNeg (x4 - (1 : Int32)))))))))))
theorem m_X8_hints {g : Gp} {a0 : Nat} {r0 : Nat → Nat} {N : Nat} {s0 : Ob} {p1 : Int32} {p2 : Int32} {p3 : Int32} {res : Int32 × Ob} (hg : Ok g) (h : f_X8_hints N s0 p1 p2 p3 = some res) : Ct g yX8_hints cX8_hints 8 (some .int) (zrm 3 68) [.ref a0, .int p1, .int p2, .int p3] (wX8 g a0 r0 s0) (exR (some (.int res.1)) (wX8 g a0 r0 res.2)) := by
  refine ct_of rfl hg (by show _ ≤ _; exact Nat.le_of_ble_eq_true rfl) (fun K C X => ?_)
  show Zs K 0 0 (wX8 g a0 r0 s0) [(0, .ref a0), (1, .int p1), (2, .int p2), (3, .int p3)] 0 []
  unfold f_X8_hints at h
  refine z_aload_n (pc := 0) (x := a0) C dX8_hints_0 (i := 0) rfl rfl ?_
  refine z_iconst (pc := 1) C dX8_hints_1 ic_2 ?_
  refine z_iload_n (pc := 2) (x := p1) C dX8_hints_2 (i := 1) rfl rfl ?_
  refine z_bipush (pc := 3) C dX8_hints_3 bp_10 ?_
  refine z_iload_n (pc := 5) (x := p2) C dX8_hints_5 (i := 2) rfl rfl ?_
  refine z_imul (pc := 6) C dX8_hints_6 ?_
  refine z_iload_n (pc := 7) (x := p3) C dX8_hints_7 (i := 3) rfl rfl ?_
  refine z_iadd (pc := 8) C dX8_hints_8 ?_
  replace h := ob_e h
  obtain ⟨x1, hx1, h⟩ := h
  refine z_callV (pc := 9) (As := [.int (2 : Int32), .int p1, .int (((10 : Int32) * p2) + p3)]) (rest := []) (wr := ([] : va_W)) C dX8_hints_9 ml_RX8_280 wv_X8_logs (m_X8_logs (a0 := a0) (r0 := r0) hg hx1) [0, 1, 2, 3, 4, 5, 6, 7, 8, 9, 10, 11, 12, 13, 14] [] rfl rfl ⟨by decide, by decide⟩ (Nat.le_of_ble_eq_true rfl) ⟨by decide, by decide⟩ rfl rfl rfl rfl rfl rfl rfl (by decide) (ex_k C (cs' := 0) (ss' := 0) (wF := (wX8 g a0 r0 x1)) [0, 1, 2, 3, 4, 5, 6, 7, 8, 9, 10, 11, 12, 13, 14] rfl rfl ?_)
  refine z_aload_n (pc := 12) (x := a0) C dX8_hints_12 (i := 0) rfl rfl ?_
  refine z_get (pc := 13) (v := .ref (r0 0)) C 0 dX8_hints_13 fl_RX8_9 rfl rfl ?_
  refine z_bipush (pc := 16) C dX8_hints_16 bp_7 ?_
  refine z_dup2 (pc := 18) C dX8_hints_18 rfl rfl ?_
  refine z_iald (pc := 19) C 1 dX8_hints_19 rfl (by decide) ?_
  refine z_top1 (v := ((x1.2.2.1 0) 7)) rfl ?_
  refine z_iconst (pc := 20) C dX8_hints_20 ic_1 ?_
  refine z_isub (pc := 21) C dX8_hints_21 ?_
  refine z_iast (pc := 22) C 1 dX8_hints_22 rfl (by decide) (ws' := (wX8 g a0 r0 (sa x1 0 (upd (x1.2.2.1 0) 7 (((x1.2.2.1 0) 7) - (1 : Int32)))))) rfl ?_
  refine z_aload_n (pc := 23) (x := a0) C dX8_hints_23 (i := 0) rfl rfl ?_
  refine z_get (pc := 24) (v := .ref (r0 0)) C 0 dX8_hints_24 fl_RX8_9 rfl rfl ?_
  refine z_iload_n (pc := 27) (x := p2) C dX8_hints_27 (i := 2) rfl rfl ?_
  refine z_iload_n (pc := 28) (x := p3) C dX8_hints_28 (i := 3) rfl rfl ?_
  replace h := ob_e h
  obtain ⟨x2, hx2, h⟩ := h
  refine z_callS (pc := 29) (As := [.int p2, .int p3]) (rest := [.ref (r0 0)]) (wr := (wX8 g a0 r0 (sa x1 0 (upd (x1.2.2.1 0) 7 (((x1.2.2.1 0) 7) - (1 : Int32)))))) C dX8_hints_29 ml_RX8_142 wt_X8_wordAt (m_X8_wordAt hg hx2) [] [0, 1, 2, 3, 4, 5, 6, 7, 8, 9, 10, 11, 12, 13, 14] rfl rfl ⟨by decide, by decide⟩ (Nat.le_of_ble_eq_true rfl) ⟨by decide, by decide⟩ rfl rfl rfl rfl (by decide) (ex_k C (cs' := 0) (ss' := 0) (wF := (wX8 g a0 r0 (sa x1 0 (upd (x1.2.2.1 0) 7 (((x1.2.2.1 0) 7) - (1 : Int32)))))) [0, 1, 2, 3, 4, 5, 6, 7, 8, 9, 10, 11, 12, 13, 14] rfl rfl ?_)
  refine z_dup2 (pc := 32) C dX8_hints_32 rfl rfl ?_
  replace h := chk_e h
  obtain ⟨hb3, h⟩ := h
  refine z_iald (pc := 33) C 1 dX8_hints_33 rfl hb3 ?_
  replace h := znm_e h
  obtain ⟨x4, hx4, h⟩ := h
  refine z_top1 hx4 ?_
  refine z_iconst (pc := 34) C dX8_hints_34 ic_1 ?_
  refine z_isub (pc := 35) C dX8_hints_35 ?_
  replace h := znm_e h
  obtain ⟨y5, hy5, h⟩ := h
  refine z_wsE (ws' := (wX8 g a0 r0 y5)) (by rw [hy5]) ?_
  replace h := chk_e h
  obtain ⟨hb6, h⟩ := h
  refine z_iast (pc := 36) C 1 dX8_hints_36 rfl hb6 (ws' := (wX8 g a0 r0 (sa y5 0 (upd (y5.2.2.1 0) (x2).toNatClampNeg (x4 - (1 : Int32)))))) rfl ?_
  refine z_iconst (pc := 37) C dX8_hints_37 ic_0 ?_
  refine z_istore (pc := 38) C dX8_hints_38 (by decide) (lv' := [(4, .int (0 : Int32)), (0, .ref a0), (1, .int p1), (2, .int p2), (3, .int p3)]) rfl ?_
  refine z_iconst (pc := 40) C dX8_hints_40 ic_0 ?_
  refine z_istore (pc := 41) C dX8_hints_41 (by decide) (lv' := [(5, .int (0 : Int32)), (4, .int (0 : Int32)), (0, .ref a0), (1, .int p1), (2, .int p2), (3, .int p3)]) rfl ?_
  refine z_lv (lv' := [(0, .ref a0), (1, .int p1), (2, .int p2), (3, .int p3), (4, .int (0 : Int32)), (5, .int (0 : Int32))]) [2, 3, 4, 5, 1, 0] rfl ?_
  exact m_X8_hints_43 (a0 := a0) (r0 := r0) hg C X N (0 : Int32) (0 : Int32) (sa y5 0 (upd (y5.2.2.1 0) (x2).toNatClampNeg (x4 - (1 : Int32)))) h
def f_X8_passes (N : Nat) (s0 : Ob) : Option (Ob) := (ob (f_X8_logs N s0 (3 : Int32) (-1 : Int32) (-1 : Int32)) fun x1 => (ob (f_X8_endsTurn N x1 (0 : Int32)) fun x2 => (some x2)))
theorem m_X8_passes {g : Gp} {a0 : Nat} {r0 : Nat → Nat} {N : Nat} {s0 : Ob} {res : Ob} (hg : Ok g) (h : f_X8_passes N s0 = some res) : Ct g yX8_passes cX8_passes 1 none (zrm 2 43) [.ref a0] (wX8 g a0 r0 s0) (exR none (wX8 g a0 r0 res)) := by
  refine ct_of rfl hg (by show _ ≤ _; exact Nat.le_of_ble_eq_true rfl) (fun K C X => ?_)
  show Zs K 0 0 (wX8 g a0 r0 s0) [(0, .ref a0)] 0 []
  unfold f_X8_passes at h
  refine z_aload_n (pc := 0) (x := a0) C dX8_passes_0 (i := 0) rfl rfl ?_
  refine z_iconst (pc := 1) C dX8_passes_1 ic_3 ?_
  refine z_iconst (pc := 2) C dX8_passes_2 ic_m1 ?_
  refine z_iconst (pc := 3) C dX8_passes_3 ic_m1 ?_
  replace h := ob_e h
  obtain ⟨x1, hx1, h⟩ := h
  refine z_callV (pc := 4) (As := [.int (3 : Int32), .int (-1 : Int32), .int (-1 : Int32)]) (rest := []) (wr := ([] : va_W)) C dX8_passes_4 ml_RX8_280 wv_X8_logs (m_X8_logs (a0 := a0) (r0 := r0) hg hx1) [0, 1, 2, 3, 4, 5, 6, 7, 8, 9, 10, 11, 12, 13, 14] [] rfl rfl ⟨by decide, by decide⟩ (Nat.le_of_ble_eq_true rfl) ⟨by decide, by decide⟩ rfl rfl rfl rfl rfl rfl rfl (by decide) (ex_k C (cs' := 0) (ss' := 0) (wF := (wX8 g a0 r0 x1)) [0, 1, 2, 3, 4, 5, 6, 7, 8, 9, 10, 11, 12, 13, 14] rfl rfl ?_)
  refine z_aload_n (pc := 7) (x := a0) C dX8_passes_7 (i := 0) rfl rfl ?_
  refine z_iconst (pc := 8) C dX8_passes_8 ic_0 ?_
  replace h := ob_e h
  obtain ⟨x2, hx2, h⟩ := h
  refine z_callV (pc := 9) (As := [.int (0 : Int32)]) (rest := []) (wr := ([] : va_W)) C dX8_passes_9 ml_RX8_293 wv_X8_endsTurn (m_X8_endsTurn (a0 := a0) (r0 := r0) hg hx2) [0, 1, 2, 3, 4, 5, 6, 7, 8, 9, 10, 11, 12, 13, 14] [] rfl rfl ⟨by decide, by decide⟩ (Nat.le_of_ble_eq_true rfl) ⟨by decide, by decide⟩ rfl rfl rfl rfl rfl rfl rfl (by decide) (ex_k C (cs' := 0) (ss' := 0) (wF := (wX8 g a0 r0 x2)) [0, 1, 2, 3, 4, 5, 6, 7, 8, 9, 10, 11, 12, 13, 14] rfl rfl ?_)
  exact z_vret C X dX8_passes_12 (by rw [← Option.some.inj h]; exact ⟨rfl, rfl⟩) (by decide) (by decide)
def f_X8_isOver (N : Nat) (s0 : Ob) : Option (Int32) := (if ((s0.2.2.1 0) 12) ≤ 0 then (some (0 : Int32)) else (some (1 : Int32)))
theorem m_X8_isOver {g : Gp} {a0 : Nat} {r0 : Nat → Nat} {N : Nat} {s0 : Ob} {res : Int32} (hg : Ok g) (h : f_X8_isOver N s0 = some res) : Ct g yX8_isOver cX8_isOver 1 (some .boolean) (zrm 0 0) [.ref a0] (wX8 g a0 r0 s0) (exR (some (.int res)) (wX8 g a0 r0 s0)) := by
  refine ct_of rfl hg (by show _ ≤ _; exact Nat.le_of_ble_eq_true rfl) (fun K C X => ?_)
  show Zs K 0 0 (wX8 g a0 r0 s0) [(0, .ref a0)] 0 []
  unfold f_X8_isOver at h
  refine z_aload_n (pc := 0) (x := a0) C dX8_isOver_0 (i := 0) rfl rfl ?_
  refine z_get (pc := 1) (v := .ref (r0 0)) C 0 dX8_isOver_1 fl_RX8_9 rfl rfl ?_
  refine z_bipush (pc := 4) C dX8_isOver_4 bp_12 ?_
  refine z_iald (pc := 6) C 1 dX8_isOver_6 rfl (by decide) ?_
  refine z_top1 (v := ((s0.2.2.1 0) 12)) rfl ?_
  refine z_if_le (pc := 7) C dX8_isOver_7 (tgt := 14) (by decide) (fun hc => ?_) (fun hc => ?_)
  · replace h := (ite_e h).1 hc
    refine z_iconst (pc := 14) C dX8_isOver_14 ic_0 ?_
    exact z_zret C X dX8_isOver_15 rfl (by rw [← Option.some.inj h]; exact ⟨rfl, rfl⟩) (by decide) (by decide)
  · replace h := (ite_e h).2 hc
    refine z_iconst (pc := 10) C dX8_isOver_10 ic_1 ?_
    refine z_goto (pc := 11) C dX8_isOver_11 (tgt := 15) (by decide) ?_
    exact z_zret C X dX8_isOver_15 rfl (by rw [← Option.some.inj h]; exact ⟨rfl, rfl⟩) (by decide) (by decide)
def f_X8_play_28 (N : Nat) (p1 : Int32)  (t1 : Int32) (s0 : Ob) : Option (Int32 × Ob) := (ob (f_X8_isThrown N s0 t1 (1 : Int32)) fun x2 => (if x2.1 = 0 then (ob (f_X8_isOver N x2.2) fun x3 => (if x3 = 0 then (ob (f_X8_keeps N x2.2) fun x4 => (ob (f_X8_plays N x4 p1) fun x5 => (ob (f_X8_score N x5) fun x6 => (some (x6, x5))))) else (some ((-3 : Int32), x2.2)))) else (some ((0 : Int32), x2.2))))
theorem m_X8_play_28 {K : Kt} {g : Gp} {a0 : Nat} {r0 : Nat → Nat} {N : Nat} {p1 : Int32} {res : Int32 × Ob} (hg : Ok g) (C : Cx K g cX8_play RX8 2 (zrm 6 134)) (X : Rx K (exR (some (.int res.1)) (wX8 g a0 r0 res.2)) 0 0 (some .int)) (t1 : Int32) (s0 : Ob) (h : f_X8_play_28 N p1 t1 s0 = some res) : Zs K 0 0 (wX8 g a0 r0 s0) [(0, .ref a0), (1, .int p1)] 28 [.int t1, .ref a0] := by
  unfold f_X8_play_28 at h
  refine z_iconst (pc := 28) C dX8_play_28 ic_1 ?_
  replace h := ob_e h
  obtain ⟨x2, hx2, h⟩ := h
  refine z_callV (pc := 29) (As := [.int t1, .int (1 : Int32)]) (rest := []) (wr := ([] : va_W)) C dX8_play_29 ml_RX8_206 wv_X8_isThrown (m_X8_isThrown (a0 := a0) (r0 := r0) hg hx2) [0, 1, 2, 3, 4, 5, 6, 7, 8, 9, 10, 11, 12, 13, 14] [] rfl rfl ⟨by decide, by decide⟩ (Nat.le_of_ble_eq_true rfl) ⟨by decide, by decide⟩ rfl rfl rfl rfl rfl rfl rfl (by decide) (ex_k C (cs' := 0) (ss' := 0) (wF := (wX8 g a0 r0 x2.2)) [0, 1, 2, 3, 4, 5, 6, 7, 8, 9, 10, 11, 12, 13, 14] rfl rfl ?_)
  refine z_if_eq (pc := 32) C dX8_play_32 (tgt := 37) (by decide) (fun hc => ?_) (fun hc => ?_)
  · replace h := (ite_e h).1 hc
    refine z_aload_n (pc := 37) (x := a0) C dX8_play_37 (i := 0) rfl rfl ?_
    replace h := ob_e h
    obtain ⟨x3, hx3, h⟩ := h
    refine z_callV (pc := 38) (As := []) (rest := []) (wr := ([] : va_W)) C dX8_play_38 ml_RX8_299 wv_X8_isOver (m_X8_isOver (a0 := a0) (r0 := r0) hg hx3) [0, 1, 2, 3, 4, 5, 6, 7, 8, 9, 10, 11, 12, 13, 14] [] rfl rfl ⟨by decide, by decide⟩ (Nat.le_of_ble_eq_true rfl) ⟨by decide, by decide⟩ rfl rfl rfl rfl rfl rfl rfl (by decide) (ex_k C (cs' := 0) (ss' := 0) (wF := (wX8 g a0 r0 x2.2)) [0, 1, 2, 3, 4, 5, 6, 7, 8, 9, 10, 11, 12, 13, 14] rfl rfl ?_)
    refine z_if_eq (pc := 41) C dX8_play_41 (tgt := 47) (by decide) (fun hc => ?_) (fun hc => ?_)
    · replace h := (ite_e h).1 hc
      refine z_aload_n (pc := 47) (x := a0) C dX8_play_47 (i := 0) rfl rfl ?_
      replace h := ob_e h
      obtain ⟨x4, hx4, h⟩ := h
      refine z_callV (pc := 48) (As := []) (rest := []) (wr := ([] : va_W)) C dX8_play_48 ml_RX8_302 wv_X8_keeps (m_X8_keeps (a0 := a0) (r0 := r0) hg hx4) [0, 1, 2, 3, 4, 5, 6, 7, 8, 9, 10, 11, 12, 13, 14] [] rfl rfl ⟨by decide, by decide⟩ (Nat.le_of_ble_eq_true rfl) ⟨by decide, by decide⟩ rfl rfl rfl rfl rfl rfl rfl (by decide) (ex_k C (cs' := 0) (ss' := 0) (wF := (wX8 g a0 r0 x4)) [0, 1, 2, 3, 4, 5, 6, 7, 8, 9, 10, 11, 12, 13, 14] rfl rfl ?_)
      refine z_aload_n (pc := 51) (x := a0) C dX8_play_51 (i := 0) rfl rfl ?_
      refine z_iload_n (pc := 52) (x := p1) C dX8_play_52 (i := 1) rfl rfl ?_
      replace h := ob_e h
      obtain ⟨x5, hx5, h⟩ := h
      refine z_callV (pc := 53) (As := [.int p1]) (rest := []) (wr := ([] : va_W)) C dX8_play_53 ml_RX8_305 wv_X8_plays (m_X8_plays (a0 := a0) (r0 := r0) hg hx5) [0, 1, 2, 3, 4, 5, 6, 7, 8, 9, 10, 11, 12, 13, 14] [] rfl rfl ⟨by decide, by decide⟩ (Nat.le_of_ble_eq_true rfl) ⟨by decide, by decide⟩ rfl rfl rfl rfl rfl rfl rfl (by decide) (ex_k C (cs' := 0) (ss' := 0) (wF := (wX8 g a0 r0 x5)) [0, 1, 2, 3, 4, 5, 6, 7, 8, 9, 10, 11, 12, 13, 14] rfl rfl ?_)
      refine z_aload_n (pc := 56) (x := a0) C dX8_play_56 (i := 0) rfl rfl ?_
      replace h := ob_e h
      obtain ⟨x6, hx6, h⟩ := h
      refine z_callV (pc := 57) (As := []) (rest := []) (wr := ([] : va_W)) C dX8_play_57 ml_RX8_210 wv_X8_score (m_X8_score (a0 := a0) (r0 := r0) hg hx6) [0, 1, 2, 3, 4, 5, 6, 7, 8, 9, 10, 11, 12, 13, 14] [] rfl rfl ⟨by decide, by decide⟩ (Nat.le_of_ble_eq_true rfl) ⟨by decide, by decide⟩ rfl rfl rfl rfl rfl rfl rfl (by decide) (ex_k C (cs' := 0) (ss' := 0) (wF := (wX8 g a0 r0 x5)) [0, 1, 2, 3, 4, 5, 6, 7, 8, 9, 10, 11, 12, 13, 14] rfl rfl ?_)
      exact z_iret C X dX8_play_60 (by rw [← Option.some.inj h]; exact ⟨rfl, rfl⟩) (by decide) (by decide)
    · replace h := (ite_e h).2 hc
      refine z_bipush (pc := 44) C dX8_play_44 bp_m3 ?_
      exact z_iret C X dX8_play_46 (by rw [← Option.some.inj h]; exact ⟨rfl, rfl⟩) (by decide) (by decide)
  · replace h := (ite_e h).2 hc
    refine z_iconst (pc := 35) C dX8_play_35 ic_0 ?_
    exact z_iret C X dX8_play_36 (by rw [← Option.some.inj h]; exact ⟨rfl, rfl⟩) (by decide) (by decide)
def f_X8_play_23 (N : Nat) (p1 : Int32)  (s0 : Ob) : Option (Int32 × Ob) := (f_X8_play_28 N p1 (1 : Int32) s0)
theorem m_X8_play_23 {K : Kt} {g : Gp} {a0 : Nat} {r0 : Nat → Nat} {N : Nat} {p1 : Int32} {res : Int32 × Ob} (hg : Ok g) (C : Cx K g cX8_play RX8 2 (zrm 6 134)) (X : Rx K (exR (some (.int res.1)) (wX8 g a0 r0 res.2)) 0 0 (some .int)) (s0 : Ob) (h : f_X8_play_23 N p1 s0 = some res) : Zs K 0 0 (wX8 g a0 r0 s0) [(0, .ref a0), (1, .int p1)] 23 [.ref a0] := by
  unfold f_X8_play_23 at h
  refine z_iconst (pc := 23) C dX8_play_23 ic_1 ?_
  refine z_goto (pc := 24) C dX8_play_24 (tgt := 28) (by decide) ?_
  exact m_X8_play_28 (a0 := a0) (r0 := r0) hg C X (1 : Int32) s0 h
def f_X8_play (N : Nat) (s0 : Ob) (p1 : Int32) : Option (Int32 × Ob) := (ob (f_X8_isOver N s0) fun x1 => (if x1 = 0 then (ob (f_X8_isPlace N s0 ((s0.2.2.1 0) 10) p1) fun x7 => (if x7 = 0 then (f_X8_play_28 N p1 (0 : Int32) s0) else (f_X8_play_23 N p1 s0))) else (f_X8_play_23 N p1 s0)))
theorem m_X8_play {g : Gp} {a0 : Nat} {r0 : Nat → Nat} {N : Nat} {s0 : Ob} {p1 : Int32} {res : Int32 × Ob} (hg : Ok g) (h : f_X8_play N s0 p1 = some res) : Ct g yX8_play cX8_play 2 (some .int) (zrm 6 134) [.ref a0, .int p1] (wX8 g a0 r0 s0) (exR (some (.int res.1)) (wX8 g a0 r0 res.2)) := by
  refine ct_of rfl hg (by show _ ≤ _; exact Nat.le_of_ble_eq_true rfl) (fun K C X => ?_)
  show Zs K 0 0 (wX8 g a0 r0 s0) [(0, .ref a0), (1, .int p1)] 0 []
  unfold f_X8_play at h
  refine z_aload_n (pc := 0) (x := a0) C dX8_play_0 (i := 0) rfl rfl ?_
  refine z_aload_n (pc := 1) (x := a0) C dX8_play_1 (i := 0) rfl rfl ?_
  replace h := ob_e h
  obtain ⟨x1, hx1, h⟩ := h
  refine z_callV (pc := 2) (As := []) (rest := [.ref a0]) (wr := ([] : va_W)) C dX8_play_2 ml_RX8_299 wv_X8_isOver (m_X8_isOver (a0 := a0) (r0 := r0) hg hx1) [0, 1, 2, 3, 4, 5, 6, 7, 8, 9, 10, 11, 12, 13, 14] [] rfl rfl ⟨by decide, by decide⟩ (Nat.le_of_ble_eq_true rfl) ⟨by decide, by decide⟩ rfl rfl rfl rfl rfl rfl rfl (by decide) (ex_k C (cs' := 0) (ss' := 0) (wF := (wX8 g a0 r0 s0)) [0, 1, 2, 3, 4, 5, 6, 7, 8, 9, 10, 11, 12, 13, 14] rfl rfl ?_)
  refine z_if_ne (pc := 5) C dX8_play_5 (tgt := 23) (by decide) (fun hc => ?_) (fun hc => ?_)
  · replace h := (ite_e h).2 hc
    exact m_X8_play_23 (a0 := a0) (r0 := r0) hg C X s0 h
  · replace h := (ite_e h).1 hc
    refine z_aload_n (pc := 8) (x := a0) C dX8_play_8 (i := 0) rfl rfl ?_
    refine z_aload_n (pc := 9) (x := a0) C dX8_play_9 (i := 0) rfl rfl ?_
    refine z_get (pc := 10) (v := .ref (r0 0)) C 0 dX8_play_10 fl_RX8_9 rfl rfl ?_
    refine z_bipush (pc := 13) C dX8_play_13 bp_10 ?_
    refine z_iald (pc := 15) C 1 dX8_play_15 rfl (by decide) ?_
    refine z_top1 (v := ((s0.2.2.1 0) 10)) rfl ?_
    refine z_iload_n (pc := 16) (x := p1) C dX8_play_16 (i := 1) rfl rfl ?_
    replace h := ob_e h
    obtain ⟨x7, hx7, h⟩ := h
    refine z_callV (pc := 17) (As := [.int ((s0.2.2.1 0) 10), .int p1]) (rest := [.ref a0]) (wr := ([] : va_W)) C dX8_play_17 ml_RX8_213 wv_X8_isPlace (m_X8_isPlace (a0 := a0) (r0 := r0) hg hx7) [0, 1, 2, 3, 4, 5, 6, 7, 8, 9, 10, 11, 12, 13, 14] [] rfl rfl ⟨by decide, by decide⟩ (Nat.le_of_ble_eq_true rfl) ⟨by decide, by decide⟩ rfl rfl rfl rfl rfl rfl rfl (by decide) (ex_k C (cs' := 0) (ss' := 0) (wF := (wX8 g a0 r0 s0)) [0, 1, 2, 3, 4, 5, 6, 7, 8, 9, 10, 11, 12, 13, 14] rfl rfl ?_)
    refine z_if_eq (pc := 20) C dX8_play_20 (tgt := 27) (by decide) (fun hc => ?_) (fun hc => ?_)
    · replace h := (ite_e h).1 hc
      refine z_iconst (pc := 27) C dX8_play_27 ic_0 ?_
      exact m_X8_play_28 (a0 := a0) (r0 := r0) hg C X (0 : Int32) s0 h
    · replace h := (ite_e h).2 hc
      exact m_X8_play_23 (a0 := a0) (r0 := r0) hg C X s0 h
def f_X8_discard_28 (N : Nat) (p1 : Int32)  (t1 : Int32) (s0 : Ob) : Option (Int32 × Ob) := (ob (f_X8_isThrown N s0 t1 (1 : Int32)) fun x2 => (if x2.1 = 0 then (ob (f_X8_isOver N x2.2) fun x3 => (if x3 = 0 then (ob (f_X8_keeps N x2.2) fun x4 => (ob (f_X8_discards N x4 p1) fun x5 => (some (((x5.2.2.1 0) 7), x5)))) else (some ((-3 : Int32), x2.2)))) else (some ((0 : Int32), x2.2))))
theorem m_X8_discard_28 {K : Kt} {g : Gp} {a0 : Nat} {r0 : Nat → Nat} {N : Nat} {p1 : Int32} {res : Int32 × Ob} (hg : Ok g) (C : Cx K g cX8_discard RX8 2 (zrm 6 131)) (X : Rx K (exR (some (.int res.1)) (wX8 g a0 r0 res.2)) 0 0 (some .int)) (t1 : Int32) (s0 : Ob) (h : f_X8_discard_28 N p1 t1 s0 = some res) : Zs K 0 0 (wX8 g a0 r0 s0) [(0, .ref a0), (1, .int p1)] 28 [.int t1, .ref a0] := by
  unfold f_X8_discard_28 at h
  refine z_iconst (pc := 28) C dX8_discard_28 ic_1 ?_
  replace h := ob_e h
  obtain ⟨x2, hx2, h⟩ := h
  refine z_callV (pc := 29) (As := [.int t1, .int (1 : Int32)]) (rest := []) (wr := ([] : va_W)) C dX8_discard_29 ml_RX8_206 wv_X8_isThrown (m_X8_isThrown (a0 := a0) (r0 := r0) hg hx2) [0, 1, 2, 3, 4, 5, 6, 7, 8, 9, 10, 11, 12, 13, 14] [] rfl rfl ⟨by decide, by decide⟩ (Nat.le_of_ble_eq_true rfl) ⟨by decide, by decide⟩ rfl rfl rfl rfl rfl rfl rfl (by decide) (ex_k C (cs' := 0) (ss' := 0) (wF := (wX8 g a0 r0 x2.2)) [0, 1, 2, 3, 4, 5, 6, 7, 8, 9, 10, 11, 12, 13, 14] rfl rfl ?_)
  refine z_if_eq (pc := 32) C dX8_discard_32 (tgt := 37) (by decide) (fun hc => ?_) (fun hc => ?_)
  · replace h := (ite_e h).1 hc
    refine z_aload_n (pc := 37) (x := a0) C dX8_discard_37 (i := 0) rfl rfl ?_
    replace h := ob_e h
    obtain ⟨x3, hx3, h⟩ := h
    refine z_callV (pc := 38) (As := []) (rest := []) (wr := ([] : va_W)) C dX8_discard_38 ml_RX8_299 wv_X8_isOver (m_X8_isOver (a0 := a0) (r0 := r0) hg hx3) [0, 1, 2, 3, 4, 5, 6, 7, 8, 9, 10, 11, 12, 13, 14] [] rfl rfl ⟨by decide, by decide⟩ (Nat.le_of_ble_eq_true rfl) ⟨by decide, by decide⟩ rfl rfl rfl rfl rfl rfl rfl (by decide) (ex_k C (cs' := 0) (ss' := 0) (wF := (wX8 g a0 r0 x2.2)) [0, 1, 2, 3, 4, 5, 6, 7, 8, 9, 10, 11, 12, 13, 14] rfl rfl ?_)
    refine z_if_eq (pc := 41) C dX8_discard_41 (tgt := 47) (by decide) (fun hc => ?_) (fun hc => ?_)
    · replace h := (ite_e h).1 hc
      refine z_aload_n (pc := 47) (x := a0) C dX8_discard_47 (i := 0) rfl rfl ?_
      replace h := ob_e h
      obtain ⟨x4, hx4, h⟩ := h
      refine z_callV (pc := 48) (As := []) (rest := []) (wr := ([] : va_W)) C dX8_discard_48 ml_RX8_302 wv_X8_keeps (m_X8_keeps (a0 := a0) (r0 := r0) hg hx4) [0, 1, 2, 3, 4, 5, 6, 7, 8, 9, 10, 11, 12, 13, 14] [] rfl rfl ⟨by decide, by decide⟩ (Nat.le_of_ble_eq_true rfl) ⟨by decide, by decide⟩ rfl rfl rfl rfl rfl rfl rfl (by decide) (ex_k C (cs' := 0) (ss' := 0) (wF := (wX8 g a0 r0 x4)) [0, 1, 2, 3, 4, 5, 6, 7, 8, 9, 10, 11, 12, 13, 14] rfl rfl ?_)
      refine z_aload_n (pc := 51) (x := a0) C dX8_discard_51 (i := 0) rfl rfl ?_
      refine z_iload_n (pc := 52) (x := p1) C dX8_discard_52 (i := 1) rfl rfl ?_
      replace h := ob_e h
      obtain ⟨x5, hx5, h⟩ := h
      refine z_callV (pc := 53) (As := [.int p1]) (rest := []) (wr := ([] : va_W)) C dX8_discard_53 ml_RX8_308 wv_X8_discards (m_X8_discards (a0 := a0) (r0 := r0) hg hx5) [0, 1, 2, 3, 4, 5, 6, 7, 8, 9, 10, 11, 12, 13, 14] [] rfl rfl ⟨by decide, by decide⟩ (Nat.le_of_ble_eq_true rfl) ⟨by decide, by decide⟩ rfl rfl rfl rfl rfl rfl rfl (by decide) (ex_k C (cs' := 0) (ss' := 0) (wF := (wX8 g a0 r0 x5)) [0, 1, 2, 3, 4, 5, 6, 7, 8, 9, 10, 11, 12, 13, 14] rfl rfl ?_)
      refine z_aload_n (pc := 56) (x := a0) C dX8_discard_56 (i := 0) rfl rfl ?_
      refine z_get (pc := 57) (v := .ref (r0 0)) C 0 dX8_discard_57 fl_RX8_9 rfl rfl ?_
      refine z_bipush (pc := 60) C dX8_discard_60 bp_7 ?_
      refine z_iald (pc := 62) C 1 dX8_discard_62 rfl (by decide) ?_
      refine z_top1 (v := ((x5.2.2.1 0) 7)) rfl ?_
      exact z_iret C X dX8_discard_63 (by rw [← Option.some.inj h]; exact ⟨rfl, rfl⟩) (by decide) (by decide)
    · replace h := (ite_e h).2 hc
      refine z_bipush (pc := 44) C dX8_discard_44 bp_m3 ?_
      exact z_iret C X dX8_discard_46 (by rw [← Option.some.inj h]; exact ⟨rfl, rfl⟩) (by decide) (by decide)
  · replace h := (ite_e h).2 hc
    refine z_iconst (pc := 35) C dX8_discard_35 ic_0 ?_
    exact z_iret C X dX8_discard_36 (by rw [← Option.some.inj h]; exact ⟨rfl, rfl⟩) (by decide) (by decide)
def f_X8_discard_23 (N : Nat) (p1 : Int32)  (s0 : Ob) : Option (Int32 × Ob) := (f_X8_discard_28 N p1 (1 : Int32) s0)
theorem m_X8_discard_23 {K : Kt} {g : Gp} {a0 : Nat} {r0 : Nat → Nat} {N : Nat} {p1 : Int32} {res : Int32 × Ob} (hg : Ok g) (C : Cx K g cX8_discard RX8 2 (zrm 6 131)) (X : Rx K (exR (some (.int res.1)) (wX8 g a0 r0 res.2)) 0 0 (some .int)) (s0 : Ob) (h : f_X8_discard_23 N p1 s0 = some res) : Zs K 0 0 (wX8 g a0 r0 s0) [(0, .ref a0), (1, .int p1)] 23 [.ref a0] := by
  unfold f_X8_discard_23 at h
  refine z_iconst (pc := 23) C dX8_discard_23 ic_1 ?_
  refine z_goto (pc := 24) C dX8_discard_24 (tgt := 28) (by decide) ?_
  exact m_X8_discard_28 (a0 := a0) (r0 := r0) hg C X (1 : Int32) s0 h
def f_X8_discard (N : Nat) (s0 : Ob) (p1 : Int32) : Option (Int32 × Ob) := (ob (f_X8_isOver N s0) fun x1 => (if x1 = 0 then (ob (f_X8_isPlace N s0 ((s0.2.2.1 0) 10) p1) fun x6 => (if x6 = 0 then (f_X8_discard_28 N p1 (0 : Int32) s0) else (f_X8_discard_23 N p1 s0))) else (f_X8_discard_23 N p1 s0)))
theorem m_X8_discard {g : Gp} {a0 : Nat} {r0 : Nat → Nat} {N : Nat} {s0 : Ob} {p1 : Int32} {res : Int32 × Ob} (hg : Ok g) (h : f_X8_discard N s0 p1 = some res) : Ct g yX8_discard cX8_discard 2 (some .int) (zrm 6 131) [.ref a0, .int p1] (wX8 g a0 r0 s0) (exR (some (.int res.1)) (wX8 g a0 r0 res.2)) := by
  refine ct_of rfl hg (by show _ ≤ _; exact Nat.le_of_ble_eq_true rfl) (fun K C X => ?_)
  show Zs K 0 0 (wX8 g a0 r0 s0) [(0, .ref a0), (1, .int p1)] 0 []
  unfold f_X8_discard at h
  refine z_aload_n (pc := 0) (x := a0) C dX8_discard_0 (i := 0) rfl rfl ?_
  refine z_aload_n (pc := 1) (x := a0) C dX8_discard_1 (i := 0) rfl rfl ?_
  replace h := ob_e h
  obtain ⟨x1, hx1, h⟩ := h
  refine z_callV (pc := 2) (As := []) (rest := [.ref a0]) (wr := ([] : va_W)) C dX8_discard_2 ml_RX8_299 wv_X8_isOver (m_X8_isOver (a0 := a0) (r0 := r0) hg hx1) [0, 1, 2, 3, 4, 5, 6, 7, 8, 9, 10, 11, 12, 13, 14] [] rfl rfl ⟨by decide, by decide⟩ (Nat.le_of_ble_eq_true rfl) ⟨by decide, by decide⟩ rfl rfl rfl rfl rfl rfl rfl (by decide) (ex_k C (cs' := 0) (ss' := 0) (wF := (wX8 g a0 r0 s0)) [0, 1, 2, 3, 4, 5, 6, 7, 8, 9, 10, 11, 12, 13, 14] rfl rfl ?_)
  refine z_if_ne (pc := 5) C dX8_discard_5 (tgt := 23) (by decide) (fun hc => ?_) (fun hc => ?_)
  · replace h := (ite_e h).2 hc
    exact m_X8_discard_23 (a0 := a0) (r0 := r0) hg C X s0 h
  · replace h := (ite_e h).1 hc
    refine z_aload_n (pc := 8) (x := a0) C dX8_discard_8 (i := 0) rfl rfl ?_
    refine z_aload_n (pc := 9) (x := a0) C dX8_discard_9 (i := 0) rfl rfl ?_
    refine z_get (pc := 10) (v := .ref (r0 0)) C 0 dX8_discard_10 fl_RX8_9 rfl rfl ?_
    refine z_bipush (pc := 13) C dX8_discard_13 bp_10 ?_
    refine z_iald (pc := 15) C 1 dX8_discard_15 rfl (by decide) ?_
    refine z_top1 (v := ((s0.2.2.1 0) 10)) rfl ?_
    refine z_iload_n (pc := 16) (x := p1) C dX8_discard_16 (i := 1) rfl rfl ?_
    replace h := ob_e h
    obtain ⟨x6, hx6, h⟩ := h
    refine z_callV (pc := 17) (As := [.int ((s0.2.2.1 0) 10), .int p1]) (rest := [.ref a0]) (wr := ([] : va_W)) C dX8_discard_17 ml_RX8_213 wv_X8_isPlace (m_X8_isPlace (a0 := a0) (r0 := r0) hg hx6) [0, 1, 2, 3, 4, 5, 6, 7, 8, 9, 10, 11, 12, 13, 14] [] rfl rfl ⟨by decide, by decide⟩ (Nat.le_of_ble_eq_true rfl) ⟨by decide, by decide⟩ rfl rfl rfl rfl rfl rfl rfl (by decide) (ex_k C (cs' := 0) (ss' := 0) (wF := (wX8 g a0 r0 s0)) [0, 1, 2, 3, 4, 5, 6, 7, 8, 9, 10, 11, 12, 13, 14] rfl rfl ?_)
    refine z_if_eq (pc := 20) C dX8_discard_20 (tgt := 27) (by decide) (fun hc => ?_) (fun hc => ?_)
    · replace h := (ite_e h).1 hc
      refine z_iconst (pc := 27) C dX8_discard_27 ic_0 ?_
      exact m_X8_discard_28 (a0 := a0) (r0 := r0) hg C X (0 : Int32) s0 h
    · replace h := (ite_e h).2 hc
      exact m_X8_discard_23 (a0 := a0) (r0 := r0) hg C X s0 h
def f_X8_canSay (N : Nat) (s0 : Ob) (p1 : Int32) (p2 : Int32) (p3 : Int32) : Option (Int32) := (ob (f_X8_wordAt N p2 p3) fun x1 => (chk (inb x1 358) (if ((s0.2.2.1 0) (x1).toNatClampNeg) ≤ 0 then (some (0 : Int32)) else (ob (f_X8_touched N s0 p1 p2 p3) fun x3 => (if x3 = 0 then (some (0 : Int32)) else (some (1 : Int32)))))))
theorem m_X8_canSay {g : Gp} {a0 : Nat} {r0 : Nat → Nat} {N : Nat} {s0 : Ob} {p1 : Int32} {p2 : Int32} {p3 : Int32} {res : Int32} (hg : Ok g) (h : f_X8_canSay N s0 p1 p2 p3 = some res) : Ct g yX8_canSay cX8_canSay 4 (some .boolean) (zrm 3 69) [.ref a0, .int p1, .int p2, .int p3] (wX8 g a0 r0 s0) (exR (some (.int res)) (wX8 g a0 r0 s0)) := by
  refine ct_of rfl hg (by show _ ≤ _; exact Nat.le_of_ble_eq_true rfl) (fun K C X => ?_)
  show Zs K 0 0 (wX8 g a0 r0 s0) [(0, .ref a0), (1, .int p1), (2, .int p2), (3, .int p3)] 0 []
  unfold f_X8_canSay at h
  refine z_aload_n (pc := 0) (x := a0) C dX8_canSay_0 (i := 0) rfl rfl ?_
  refine z_get (pc := 1) (v := .ref (r0 0)) C 0 dX8_canSay_1 fl_RX8_9 rfl rfl ?_
  refine z_iload_n (pc := 4) (x := p2) C dX8_canSay_4 (i := 2) rfl rfl ?_
  refine z_iload_n (pc := 5) (x := p3) C dX8_canSay_5 (i := 3) rfl rfl ?_
  replace h := ob_e h
  obtain ⟨x1, hx1, h⟩ := h
  refine z_callS (pc := 6) (As := [.int p2, .int p3]) (rest := [.ref (r0 0)]) (wr := (wX8 g a0 r0 s0)) C dX8_canSay_6 ml_RX8_142 wt_X8_wordAt (m_X8_wordAt hg hx1) [] [0, 1, 2, 3, 4, 5, 6, 7, 8, 9, 10, 11, 12, 13, 14] rfl rfl ⟨by decide, by decide⟩ (Nat.le_of_ble_eq_true rfl) ⟨by decide, by decide⟩ rfl rfl rfl rfl (by decide) (ex_k C (cs' := 0) (ss' := 0) (wF := (wX8 g a0 r0 s0)) [0, 1, 2, 3, 4, 5, 6, 7, 8, 9, 10, 11, 12, 13, 14] rfl rfl ?_)
  replace h := chk_e h
  obtain ⟨hb2, h⟩ := h
  refine z_iald (pc := 9) C 1 dX8_canSay_9 rfl hb2 ?_
  refine z_if_le (pc := 10) C dX8_canSay_10 (tgt := 27) (by decide) (fun hc => ?_) (fun hc => ?_)
  · replace h := (ite_e h).1 hc
    refine z_iconst (pc := 27) C dX8_canSay_27 ic_0 ?_
    exact z_zret C X dX8_canSay_28 rfl (by rw [← Option.some.inj h]; exact ⟨rfl, rfl⟩) (by decide) (by decide)
  · replace h := (ite_e h).2 hc
    refine z_aload_n (pc := 13) (x := a0) C dX8_canSay_13 (i := 0) rfl rfl ?_
    refine z_iload_n (pc := 14) (x := p1) C dX8_canSay_14 (i := 1) rfl rfl ?_
    refine z_iload_n (pc := 15) (x := p2) C dX8_canSay_15 (i := 2) rfl rfl ?_
    refine z_iload_n (pc := 16) (x := p3) C dX8_canSay_16 (i := 3) rfl rfl ?_
    replace h := ob_e h
    obtain ⟨x3, hx3, h⟩ := h
    refine z_callV (pc := 17) (As := [.int p1, .int p2, .int p3]) (rest := []) (wr := ([] : va_W)) C dX8_canSay_17 ml_RX8_264 wv_X8_touched (m_X8_touched (a0 := a0) (r0 := r0) hg hx3) [0, 1, 2, 3, 4, 5, 6, 7, 8, 9, 10, 11, 12, 13, 14] [] rfl rfl ⟨by decide, by decide⟩ (Nat.le_of_ble_eq_true rfl) ⟨by decide, by decide⟩ rfl rfl rfl rfl rfl rfl rfl (by decide) (ex_k C (cs' := 0) (ss' := 0) (wF := (wX8 g a0 r0 s0)) [0, 1, 2, 3, 4, 5, 6, 7, 8, 9, 10, 11, 12, 13, 14] rfl rfl ?_)
    refine z_if_eq (pc := 20) C dX8_canSay_20 (tgt := 27) (by decide) (fun hc => ?_) (fun hc => ?_)
    · replace h := (ite_e h).1 hc
      refine z_iconst (pc := 27) C dX8_canSay_27 ic_0 ?_
      exact z_zret C X dX8_canSay_28 rfl (by rw [← Option.some.inj h]; exact ⟨rfl, rfl⟩) (by decide) (by decide)
    · replace h := (ite_e h).2 hc
      refine z_iconst (pc := 23) C dX8_canSay_23 ic_1 ?_
      refine z_goto (pc := 24) C dX8_canSay_24 (tgt := 28) (by decide) ?_
      exact z_zret C X dX8_canSay_28 rfl (by rw [← Option.some.inj h]; exact ⟨rfl, rfl⟩) (by decide) (by decide)
def f_X8_hint_32 (N : Nat) (p1 : Int32) (p2 : Int32) (p3 : Int32)  (t1 : Int32) (s0 : Ob) : Option (Int32 × Ob) := (ob (f_X8_isThrown N s0 t1 (1 : Int32)) fun x2 => (if x2.1 = 0 then (ob (f_X8_isWordOf N x2.2 p2 p3) fun x3 => (ob (f_X8_isThrown N x2.2 x3 (2 : Int32)) fun x4 => (if x4.1 = 0 then (ob (f_X8_isOver N x4.2) fun x5 => (if x5 = 0 then (if ((x4.2.2.2.1 0) 7) = 0 then (some ((-4 : Int32), x4.2)) else (ob (f_X8_canSay N x4.2 p1 p2 p3) fun x6 => (if x6 = 0 then (some ((-5 : Int32), x4.2)) else (ob (f_X8_keeps N x4.2) fun x7 => (ob (f_X8_hints N x7 p1 p2 p3) fun x8 => (some (x8.1, x8.2))))))) else (some ((-3 : Int32), x4.2)))) else (some ((0 : Int32), x4.2))))) else (some ((0 : Int32), x2.2))))
theorem m_X8_hint_32 {K : Kt} {g : Gp} {a0 : Nat} {r0 : Nat → Nat} {N : Nat} {p1 : Int32} {p2 : Int32} {p3 : Int32} {res : Int32 × Ob} (hg : Ok g) (C : Cx K g cX8_hint RX8 4 (zrm 4 95)) (X : Rx K (exR (some (.int res.1)) (wX8 g a0 r0 res.2)) 0 0 (some .int)) (t1 : Int32) (s0 : Ob) (h : f_X8_hint_32 N p1 p2 p3 t1 s0 = some res) : Zs K 0 0 (wX8 g a0 r0 s0) [(0, .ref a0), (1, .int p1), (2, .int p2), (3, .int p3)] 32 [.int t1, .ref a0] := by
  unfold f_X8_hint_32 at h
  refine z_iconst (pc := 32) C dX8_hint_32 ic_1 ?_
  replace h := ob_e h
  obtain ⟨x2, hx2, h⟩ := h
  refine z_callV (pc := 33) (As := [.int t1, .int (1 : Int32)]) (rest := []) (wr := ([] : va_W)) C dX8_hint_33 ml_RX8_206 wv_X8_isThrown (m_X8_isThrown (a0 := a0) (r0 := r0) hg hx2) [0, 1, 2, 3, 4, 5, 6, 7, 8, 9, 10, 11, 12, 13, 14] [] rfl rfl ⟨by decide, by decide⟩ (Nat.le_of_ble_eq_true rfl) ⟨by decide, by decide⟩ rfl rfl rfl rfl rfl rfl rfl (by decide) (ex_k C (cs' := 0) (ss' := 0) (wF := (wX8 g a0 r0 x2.2)) [0, 1, 2, 3, 4, 5, 6, 7, 8, 9, 10, 11, 12, 13, 14] rfl rfl ?_)
  refine z_if_ne (pc := 36) C dX8_hint_36 (tgt := 53) (by decide) (fun hc => ?_) (fun hc => ?_)
  · replace h := (ite_e h).2 hc
    refine z_iconst (pc := 53) C dX8_hint_53 ic_0 ?_
    exact z_iret C X dX8_hint_54 (by rw [← Option.some.inj h]; exact ⟨rfl, rfl⟩) (by decide) (by decide)
  · replace h := (ite_e h).1 hc
    refine z_aload_n (pc := 39) (x := a0) C dX8_hint_39 (i := 0) rfl rfl ?_
    refine z_aload_n (pc := 40) (x := a0) C dX8_hint_40 (i := 0) rfl rfl ?_
    refine z_iload_n (pc := 41) (x := p2) C dX8_hint_41 (i := 2) rfl rfl ?_
    refine z_iload_n (pc := 42) (x := p3) C dX8_hint_42 (i := 3) rfl rfl ?_
    replace h := ob_e h
    obtain ⟨x3, hx3, h⟩ := h
    refine z_callV (pc := 43) (As := [.int p2, .int p3]) (rest := [.ref a0]) (wr := ([] : va_W)) C dX8_hint_43 ml_RX8_258 wv_X8_isWordOf (m_X8_isWordOf (a0 := a0) (r0 := r0) hg hx3) [0, 1, 2, 3, 4, 5, 6, 7, 8, 9, 10, 11, 12, 13, 14] [] rfl rfl ⟨by decide, by decide⟩ (Nat.le_of_ble_eq_true rfl) ⟨by decide, by decide⟩ rfl rfl rfl rfl rfl rfl rfl (by decide) (ex_k C (cs' := 0) (ss' := 0) (wF := (wX8 g a0 r0 x2.2)) [0, 1, 2, 3, 4, 5, 6, 7, 8, 9, 10, 11, 12, 13, 14] rfl rfl ?_)
    refine z_iconst (pc := 46) C dX8_hint_46 ic_2 ?_
    replace h := ob_e h
    obtain ⟨x4, hx4, h⟩ := h
    refine z_callV (pc := 47) (As := [.int x3, .int (2 : Int32)]) (rest := []) (wr := ([] : va_W)) C dX8_hint_47 ml_RX8_206 wv_X8_isThrown (m_X8_isThrown (a0 := a0) (r0 := r0) hg hx4) [0, 1, 2, 3, 4, 5, 6, 7, 8, 9, 10, 11, 12, 13, 14] [] rfl rfl ⟨by decide, by decide⟩ (Nat.le_of_ble_eq_true rfl) ⟨by decide, by decide⟩ rfl rfl rfl rfl rfl rfl rfl (by decide) (ex_k C (cs' := 0) (ss' := 0) (wF := (wX8 g a0 r0 x4.2)) [0, 1, 2, 3, 4, 5, 6, 7, 8, 9, 10, 11, 12, 13, 14] rfl rfl ?_)
    refine z_if_eq (pc := 50) C dX8_hint_50 (tgt := 55) (by decide) (fun hc => ?_) (fun hc => ?_)
    · replace h := (ite_e h).1 hc
      refine z_aload_n (pc := 55) (x := a0) C dX8_hint_55 (i := 0) rfl rfl ?_
      replace h := ob_e h
      obtain ⟨x5, hx5, h⟩ := h
      refine z_callV (pc := 56) (As := []) (rest := []) (wr := ([] : va_W)) C dX8_hint_56 ml_RX8_299 wv_X8_isOver (m_X8_isOver (a0 := a0) (r0 := r0) hg hx5) [0, 1, 2, 3, 4, 5, 6, 7, 8, 9, 10, 11, 12, 13, 14] [] rfl rfl ⟨by decide, by decide⟩ (Nat.le_of_ble_eq_true rfl) ⟨by decide, by decide⟩ rfl rfl rfl rfl rfl rfl rfl (by decide) (ex_k C (cs' := 0) (ss' := 0) (wF := (wX8 g a0 r0 x4.2)) [0, 1, 2, 3, 4, 5, 6, 7, 8, 9, 10, 11, 12, 13, 14] rfl rfl ?_)
      refine z_if_eq (pc := 59) C dX8_hint_59 (tgt := 65) (by decide) (fun hc => ?_) (fun hc => ?_)
      · replace h := (ite_e h).1 hc
        refine z_aload_n (pc := 65) (x := a0) C dX8_hint_65 (i := 0) rfl rfl ?_
        refine z_get (pc := 66) (v := .ref (r0 0)) C 0 dX8_hint_66 fl_RX8_9 rfl rfl ?_
        refine z_bipush (pc := 69) C dX8_hint_69 bp_7 ?_
        refine z_iald (pc := 71) C 1 dX8_hint_71 rfl (by decide) ?_
        refine z_top1 (v := ((x4.2.2.2.1 0) 7)) rfl ?_
        refine z_if_ne (pc := 72) C dX8_hint_72 (tgt := 78) (by decide) (fun hc => ?_) (fun hc => ?_)
        · replace h := (ite_e h).2 hc
          refine z_aload_n (pc := 78) (x := a0) C dX8_hint_78 (i := 0) rfl rfl ?_
          refine z_iload_n (pc := 79) (x := p1) C dX8_hint_79 (i := 1) rfl rfl ?_
          refine z_iload_n (pc := 80) (x := p2) C dX8_hint_80 (i := 2) rfl rfl ?_
          refine z_iload_n (pc := 81) (x := p3) C dX8_hint_81 (i := 3) rfl rfl ?_
          replace h := ob_e h
          obtain ⟨x6, hx6, h⟩ := h
          refine z_callV (pc := 82) (As := [.int p1, .int p2, .int p3]) (rest := []) (wr := ([] : va_W)) C dX8_hint_82 ml_RX8_311 wv_X8_canSay (m_X8_canSay (a0 := a0) (r0 := r0) hg hx6) [0, 1, 2, 3, 4, 5, 6, 7, 8, 9, 10, 11, 12, 13, 14] [] rfl rfl ⟨by decide, by decide⟩ (Nat.le_of_ble_eq_true rfl) ⟨by decide, by decide⟩ rfl rfl rfl rfl rfl rfl rfl (by decide) (ex_k C (cs' := 0) (ss' := 0) (wF := (wX8 g a0 r0 x4.2)) [0, 1, 2, 3, 4, 5, 6, 7, 8, 9, 10, 11, 12, 13, 14] rfl rfl ?_)
          refine z_if_ne (pc := 85) C dX8_hint_85 (tgt := 91) (by decide) (fun hc => ?_) (fun hc => ?_)
          · replace h := (ite_e h).2 hc
            refine z_aload_n (pc := 91) (x := a0) C dX8_hint_91 (i := 0) rfl rfl ?_
            replace h := ob_e h
            obtain ⟨x7, hx7, h⟩ := h
            refine z_callV (pc := 92) (As := []) (rest := []) (wr := ([] : va_W)) C dX8_hint_92 ml_RX8_302 wv_X8_keeps (m_X8_keeps (a0 := a0) (r0 := r0) hg hx7) [0, 1, 2, 3, 4, 5, 6, 7, 8, 9, 10, 11, 12, 13, 14] [] rfl rfl ⟨by decide, by decide⟩ (Nat.le_of_ble_eq_true rfl) ⟨by decide, by decide⟩ rfl rfl rfl rfl rfl rfl rfl (by decide) (ex_k C (cs' := 0) (ss' := 0) (wF := (wX8 g a0 r0 x7)) [0, 1, 2, 3, 4, 5, 6, 7, 8, 9, 10, 11, 12, 13, 14] rfl rfl ?_)
            refine z_aload_n (pc := 95) (x := a0) C dX8_hint_95 (i := 0) rfl rfl ?_
            refine z_iload_n (pc := 96) (x := p1) C dX8_hint_96 (i := 1) rfl rfl ?_
            refine z_iload_n (pc := 97) (x := p2) C dX8_hint_97 (i := 2) rfl rfl ?_
            refine z_iload_n (pc := 98) (x := p3) C dX8_hint_98 (i := 3) rfl rfl ?_
            replace h := ob_e h
            obtain ⟨x8, hx8, h⟩ := h
            refine z_callV (pc := 99) (As := [.int p1, .int p2, .int p3]) (rest := []) (wr := ([] : va_W)) C dX8_hint_99 ml_RX8_314 wv_X8_hints (m_X8_hints (a0 := a0) (r0 := r0) hg hx8) [0, 1, 2, 3, 4, 5, 6, 7, 8, 9, 10, 11, 12, 13, 14] [] rfl rfl ⟨by decide, by decide⟩ (Nat.le_of_ble_eq_true rfl) ⟨by decide, by decide⟩ rfl rfl rfl rfl rfl rfl rfl (by decide) (ex_k C (cs' := 0) (ss' := 0) (wF := (wX8 g a0 r0 x8.2)) [0, 1, 2, 3, 4, 5, 6, 7, 8, 9, 10, 11, 12, 13, 14] rfl rfl ?_)
            exact z_iret C X dX8_hint_102 (by rw [← Option.some.inj h]; exact ⟨rfl, rfl⟩) (by decide) (by decide)
          · replace h := (ite_e h).1 hc
            refine z_bipush (pc := 88) C dX8_hint_88 bp_m5 ?_
            exact z_iret C X dX8_hint_90 (by rw [← Option.some.inj h]; exact ⟨rfl, rfl⟩) (by decide) (by decide)
        · replace h := (ite_e h).1 hc
          refine z_bipush (pc := 75) C dX8_hint_75 bp_m4 ?_
          exact z_iret C X dX8_hint_77 (by rw [← Option.some.inj h]; exact ⟨rfl, rfl⟩) (by decide) (by decide)
      · replace h := (ite_e h).2 hc
        refine z_bipush (pc := 62) C dX8_hint_62 bp_m3 ?_
        exact z_iret C X dX8_hint_64 (by rw [← Option.some.inj h]; exact ⟨rfl, rfl⟩) (by decide) (by decide)
    · replace h := (ite_e h).2 hc
      refine z_iconst (pc := 53) C dX8_hint_53 ic_0 ?_
      exact z_iret C X dX8_hint_54 (by rw [← Option.some.inj h]; exact ⟨rfl, rfl⟩) (by decide) (by decide)
def f_X8_hint_31 (N : Nat) (p1 : Int32) (p2 : Int32) (p3 : Int32)  (s0 : Ob) : Option (Int32 × Ob) := (f_X8_hint_32 N p1 p2 p3 (0 : Int32) s0)
theorem m_X8_hint_31 {K : Kt} {g : Gp} {a0 : Nat} {r0 : Nat → Nat} {N : Nat} {p1 : Int32} {p2 : Int32} {p3 : Int32} {res : Int32 × Ob} (hg : Ok g) (C : Cx K g cX8_hint RX8 4 (zrm 4 95)) (X : Rx K (exR (some (.int res.1)) (wX8 g a0 r0 res.2)) 0 0 (some .int)) (s0 : Ob) (h : f_X8_hint_31 N p1 p2 p3 s0 = some res) : Zs K 0 0 (wX8 g a0 r0 s0) [(0, .ref a0), (1, .int p1), (2, .int p2), (3, .int p3)] 31 [.ref a0] := by
  unfold f_X8_hint_31 at h
  refine z_iconst (pc := 31) C dX8_hint_31 ic_0 ?_
  exact m_X8_hint_32 (a0 := a0) (r0 := r0) hg C X (0 : Int32) s0 h
def f_X8_hint_27 (N : Nat) (p1 : Int32) (p2 : Int32) (p3 : Int32)  (s0 : Ob) : Option (Int32 × Ob) := (f_X8_hint_32 N p1 p2 p3 (1 : Int32) s0)
theorem m_X8_hint_27 {K : Kt} {g : Gp} {a0 : Nat} {r0 : Nat → Nat} {N : Nat} {p1 : Int32} {p2 : Int32} {p3 : Int32} {res : Int32 × Ob} (hg : Ok g) (C : Cx K g cX8_hint RX8 4 (zrm 4 95)) (X : Rx K (exR (some (.int res.1)) (wX8 g a0 r0 res.2)) 0 0 (some .int)) (s0 : Ob) (h : f_X8_hint_27 N p1 p2 p3 s0 = some res) : Zs K 0 0 (wX8 g a0 r0 s0) [(0, .ref a0), (1, .int p1), (2, .int p2), (3, .int p3)] 27 [.ref a0] := by
  unfold f_X8_hint_27 at h
  refine z_iconst (pc := 27) C dX8_hint_27 ic_1 ?_
  refine z_goto (pc := 28) C dX8_hint_28 (tgt := 32) (by decide) ?_
  exact m_X8_hint_32 (a0 := a0) (r0 := r0) hg C X (1 : Int32) s0 h
def f_X8_hint (N : Nat) (s0 : Ob) (p1 : Int32) (p2 : Int32) (p3 : Int32) : Option (Int32 × Ob) := (ob (f_X8_isPlayer N s0 p1) fun x1 => (if x1 = 0 then (f_X8_hint_31 N p1 p2 p3 s0) else (ob (f_X8_isOver N s0) fun x9 => (if x9 = 0 then (if p1 = ((s0.2.2.1 0) 10) then (f_X8_hint_31 N p1 p2 p3 s0) else (f_X8_hint_27 N p1 p2 p3 s0)) else (f_X8_hint_27 N p1 p2 p3 s0)))))
theorem m_X8_hint {g : Gp} {a0 : Nat} {r0 : Nat → Nat} {N : Nat} {s0 : Ob} {p1 : Int32} {p2 : Int32} {p3 : Int32} {res : Int32 × Ob} (hg : Ok g) (h : f_X8_hint N s0 p1 p2 p3 = some res) : Ct g yX8_hint cX8_hint 4 (some .int) (zrm 4 95) [.ref a0, .int p1, .int p2, .int p3] (wX8 g a0 r0 s0) (exR (some (.int res.1)) (wX8 g a0 r0 res.2)) := by
  refine ct_of rfl hg (by show _ ≤ _; exact Nat.le_of_ble_eq_true rfl) (fun K C X => ?_)
  show Zs K 0 0 (wX8 g a0 r0 s0) [(0, .ref a0), (1, .int p1), (2, .int p2), (3, .int p3)] 0 []
  unfold f_X8_hint at h
  refine z_aload_n (pc := 0) (x := a0) C dX8_hint_0 (i := 0) rfl rfl ?_
  refine z_aload_n (pc := 1) (x := a0) C dX8_hint_1 (i := 0) rfl rfl ?_
  refine z_iload_n (pc := 2) (x := p1) C dX8_hint_2 (i := 1) rfl rfl ?_
  replace h := ob_e h
  obtain ⟨x1, hx1, h⟩ := h
  refine z_callV (pc := 3) (As := [.int p1]) (rest := [.ref a0]) (wr := ([] : va_W)) C dX8_hint_3 ml_RX8_66 wv_X8_isPlayer (m_X8_isPlayer (a0 := a0) (r0 := r0) hg hx1) [0, 1, 2, 3, 4, 5, 6, 7, 8, 9, 10, 11, 12, 13, 14] [] rfl rfl ⟨by decide, by decide⟩ (Nat.le_of_ble_eq_true rfl) ⟨by decide, by decide⟩ rfl rfl rfl rfl rfl rfl rfl (by decide) (ex_k C (cs' := 0) (ss' := 0) (wF := (wX8 g a0 r0 s0)) [0, 1, 2, 3, 4, 5, 6, 7, 8, 9, 10, 11, 12, 13, 14] rfl rfl ?_)
  refine z_if_eq (pc := 6) C dX8_hint_6 (tgt := 31) (by decide) (fun hc => ?_) (fun hc => ?_)
  · replace h := (ite_e h).1 hc
    exact m_X8_hint_31 (a0 := a0) (r0 := r0) hg C X s0 h
  · replace h := (ite_e h).2 hc
    refine z_aload_n (pc := 9) (x := a0) C dX8_hint_9 (i := 0) rfl rfl ?_
    replace h := ob_e h
    obtain ⟨x9, hx9, h⟩ := h
    refine z_callV (pc := 10) (As := []) (rest := [.ref a0]) (wr := ([] : va_W)) C dX8_hint_10 ml_RX8_299 wv_X8_isOver (m_X8_isOver (a0 := a0) (r0 := r0) hg hx9) [0, 1, 2, 3, 4, 5, 6, 7, 8, 9, 10, 11, 12, 13, 14] [] rfl rfl ⟨by decide, by decide⟩ (Nat.le_of_ble_eq_true rfl) ⟨by decide, by decide⟩ rfl rfl rfl rfl rfl rfl rfl (by decide) (ex_k C (cs' := 0) (ss' := 0) (wF := (wX8 g a0 r0 s0)) [0, 1, 2, 3, 4, 5, 6, 7, 8, 9, 10, 11, 12, 13, 14] rfl rfl ?_)
    refine z_if_ne (pc := 13) C dX8_hint_13 (tgt := 27) (by decide) (fun hc => ?_) (fun hc => ?_)
    · replace h := (ite_e h).2 hc
      exact m_X8_hint_27 (a0 := a0) (r0 := r0) hg C X s0 h
    · replace h := (ite_e h).1 hc
      refine z_iload_n (pc := 16) (x := p1) C dX8_hint_16 (i := 1) rfl rfl ?_
      refine z_aload_n (pc := 17) (x := a0) C dX8_hint_17 (i := 0) rfl rfl ?_
      refine z_get (pc := 18) (v := .ref (r0 0)) C 0 dX8_hint_18 fl_RX8_9 rfl rfl ?_
      refine z_bipush (pc := 21) C dX8_hint_21 bp_10 ?_
      refine z_iald (pc := 23) C 1 dX8_hint_23 rfl (by decide) ?_
      refine z_top1 (v := ((s0.2.2.1 0) 10)) rfl ?_
      refine z_icmp_eq (pc := 24) C dX8_hint_24 (tgt := 31) (by decide) (fun hc => ?_) (fun hc => ?_)
      · replace h := (ite_e h).1 hc
        exact m_X8_hint_31 (a0 := a0) (r0 := r0) hg C X s0 h
      · replace h := (ite_e h).2 hc
        exact m_X8_hint_27 (a0 := a0) (r0 := r0) hg C X s0 h
def f_X8_pass (N : Nat) (s0 : Ob) : Option (Int32 × Ob) := (ob (f_X8_isOver N (si s0 7 (0 : Int32))) fun x1 => (if x1 = 0 then (chk (inb ((187 : Int32) + ((s0.2.2.1 0) 10)) 358) (if ((s0.2.2.1 0) (((187 : Int32) + ((s0.2.2.1 0) 10))).toNatClampNeg) ≤ 0 then (ob (f_X8_keeps N (si s0 7 (0 : Int32))) fun x3 => (ob (f_X8_passes N x3) fun x4 => (ob (f_X8_isOver N x4) fun x5 => (if x5 = 0 then (some (((x4.2.2.1 0) 10), x4)) else (some ((-1 : Int32), x4)))))) else (some ((-6 : Int32), (si s0 7 (0 : Int32)))))) else (some ((-3 : Int32), (si s0 7 (0 : Int32))))))
theorem m_X8_pass {g : Gp} {a0 : Nat} {r0 : Nat → Nat} {N : Nat} {s0 : Ob} {res : Int32 × Ob} (hg : Ok g) (h : f_X8_pass N s0 = some res) : Ct g yX8_pass cX8_pass 1 (some .int) (zrm 3 63) [.ref a0] (wX8 g a0 r0 s0) (exR (some (.int res.1)) (wX8 g a0 r0 res.2)) := by
  refine ct_of rfl hg (by show _ ≤ _; exact Nat.le_of_ble_eq_true rfl) (fun K C X => ?_)
  show Zs K 0 0 (wX8 g a0 r0 s0) [(0, .ref a0)] 0 []
  unfold f_X8_pass at h
  refine z_aload_n (pc := 0) (x := a0) C dX8_pass_0 (i := 0) rfl rfl ?_
  refine z_iconst (pc := 1) C dX8_pass_1 ic_0 ?_
  refine z_put (pc := 2) C 0 dX8_pass_2 fp_RX8_59 rfl rfl rfl (zlt_b rfl) (ws' := (wX8 g a0 r0 (si s0 7 (0 : Int32)))) rfl ?_
  refine z_aload_n (pc := 5) (x := a0) C dX8_pass_5 (i := 0) rfl rfl ?_
  replace h := ob_e h
  obtain ⟨x1, hx1, h⟩ := h
  refine z_callV (pc := 6) (As := []) (rest := []) (wr := ([] : va_W)) C dX8_pass_6 ml_RX8_299 wv_X8_isOver (m_X8_isOver (a0 := a0) (r0 := r0) hg hx1) [0, 1, 2, 3, 4, 5, 6, 7, 8, 9, 10, 11, 12, 13, 14] [] rfl rfl ⟨by decide, by decide⟩ (Nat.le_of_ble_eq_true rfl) ⟨by decide, by decide⟩ rfl rfl rfl rfl rfl rfl rfl (by decide) (ex_k C (cs' := 0) (ss' := 0) (wF := (wX8 g a0 r0 (si s0 7 (0 : Int32)))) [0, 1, 2, 3, 4, 5, 6, 7, 8, 9, 10, 11, 12, 13, 14] rfl rfl ?_)
  refine z_if_eq (pc := 9) C dX8_pass_9 (tgt := 15) (by decide) (fun hc => ?_) (fun hc => ?_)
  · replace h := (ite_e h).1 hc
    refine z_aload_n (pc := 15) (x := a0) C dX8_pass_15 (i := 0) rfl rfl ?_
    refine z_get (pc := 16) (v := .ref (r0 0)) C 0 dX8_pass_16 fl_RX8_9 rfl rfl ?_
    refine z_sipush (pc := 19) C dX8_pass_19 sp_187 ?_
    refine z_aload_n (pc := 22) (x := a0) C dX8_pass_22 (i := 0) rfl rfl ?_
    refine z_get (pc := 23) (v := .ref (r0 0)) C 0 dX8_pass_23 fl_RX8_9 rfl rfl ?_
    refine z_bipush (pc := 26) C dX8_pass_26 bp_10 ?_
    refine z_iald (pc := 28) C 1 dX8_pass_28 rfl (by decide) ?_
    refine z_top1 (v := ((s0.2.2.1 0) 10)) rfl ?_
    refine z_iadd (pc := 29) C dX8_pass_29 ?_
    replace h := chk_e h
    obtain ⟨hb2, h⟩ := h
    refine z_iald (pc := 30) C 1 dX8_pass_30 rfl hb2 ?_
    refine z_if_le (pc := 31) C dX8_pass_31 (tgt := 37) (by decide) (fun hc => ?_) (fun hc => ?_)
    · replace h := (ite_e h).1 hc
      refine z_aload_n (pc := 37) (x := a0) C dX8_pass_37 (i := 0) rfl rfl ?_
      replace h := ob_e h
      obtain ⟨x3, hx3, h⟩ := h
      refine z_callV (pc := 38) (As := []) (rest := []) (wr := ([] : va_W)) C dX8_pass_38 ml_RX8_302 wv_X8_keeps (m_X8_keeps (a0 := a0) (r0 := r0) hg hx3) [0, 1, 2, 3, 4, 5, 6, 7, 8, 9, 10, 11, 12, 13, 14] [] rfl rfl ⟨by decide, by decide⟩ (Nat.le_of_ble_eq_true rfl) ⟨by decide, by decide⟩ rfl rfl rfl rfl rfl rfl rfl (by decide) (ex_k C (cs' := 0) (ss' := 0) (wF := (wX8 g a0 r0 x3)) [0, 1, 2, 3, 4, 5, 6, 7, 8, 9, 10, 11, 12, 13, 14] rfl rfl ?_)
      refine z_aload_n (pc := 41) (x := a0) C dX8_pass_41 (i := 0) rfl rfl ?_
      replace h := ob_e h
      obtain ⟨x4, hx4, h⟩ := h
      refine z_callV (pc := 42) (As := []) (rest := []) (wr := ([] : va_W)) C dX8_pass_42 ml_RX8_317 wv_X8_passes (m_X8_passes (a0 := a0) (r0 := r0) hg hx4) [0, 1, 2, 3, 4, 5, 6, 7, 8, 9, 10, 11, 12, 13, 14] [] rfl rfl ⟨by decide, by decide⟩ (Nat.le_of_ble_eq_true rfl) ⟨by decide, by decide⟩ rfl rfl rfl rfl rfl rfl rfl (by decide) (ex_k C (cs' := 0) (ss' := 0) (wF := (wX8 g a0 r0 x4)) [0, 1, 2, 3, 4, 5, 6, 7, 8, 9, 10, 11, 12, 13, 14] rfl rfl ?_)
      refine z_aload_n (pc := 45) (x := a0) C dX8_pass_45 (i := 0) rfl rfl ?_
      replace h := ob_e h
      obtain ⟨x5, hx5, h⟩ := h
      refine z_callV (pc := 46) (As := []) (rest := []) (wr := ([] : va_W)) C dX8_pass_46 ml_RX8_299 wv_X8_isOver (m_X8_isOver (a0 := a0) (r0 := r0) hg hx5) [0, 1, 2, 3, 4, 5, 6, 7, 8, 9, 10, 11, 12, 13, 14] [] rfl rfl ⟨by decide, by decide⟩ (Nat.le_of_ble_eq_true rfl) ⟨by decide, by decide⟩ rfl rfl rfl rfl rfl rfl rfl (by decide) (ex_k C (cs' := 0) (ss' := 0) (wF := (wX8 g a0 r0 x4)) [0, 1, 2, 3, 4, 5, 6, 7, 8, 9, 10, 11, 12, 13, 14] rfl rfl ?_)
      refine z_if_eq (pc := 49) C dX8_pass_49 (tgt := 56) (by decide) (fun hc => ?_) (fun hc => ?_)
      · replace h := (ite_e h).1 hc
        refine z_aload_n (pc := 56) (x := a0) C dX8_pass_56 (i := 0) rfl rfl ?_
        refine z_get (pc := 57) (v := .ref (r0 0)) C 0 dX8_pass_57 fl_RX8_9 rfl rfl ?_
        refine z_bipush (pc := 60) C dX8_pass_60 bp_10 ?_
        refine z_iald (pc := 62) C 1 dX8_pass_62 rfl (by decide) ?_
        refine z_top1 (v := ((x4.2.2.1 0) 10)) rfl ?_
        exact z_iret C X dX8_pass_63 (by rw [← Option.some.inj h]; exact ⟨rfl, rfl⟩) (by decide) (by decide)
      · replace h := (ite_e h).2 hc
        refine z_iconst (pc := 52) C dX8_pass_52 ic_m1 ?_
        refine z_goto (pc := 53) C dX8_pass_53 (tgt := 63) (by decide) ?_
        exact z_iret C X dX8_pass_63 (by rw [← Option.some.inj h]; exact ⟨rfl, rfl⟩) (by decide) (by decide)
    · replace h := (ite_e h).2 hc
      refine z_bipush (pc := 34) C dX8_pass_34 bp_m6 ?_
      exact z_iret C X dX8_pass_36 (by rw [← Option.some.inj h]; exact ⟨rfl, rfl⟩) (by decide) (by decide)
  · replace h := (ite_e h).2 hc
    refine z_bipush (pc := 12) C dX8_pass_12 bp_m3 ?_
    exact z_iret C X dX8_pass_14 (by rw [← Option.some.inj h]; exact ⟨rfl, rfl⟩) (by decide) (by decide)
def f_X8_advises (N : Nat) (s0 : Ob) (p1 : Int32) (p2 : Int32) (p3 : Int32) (p4 : Int32) : Option (Ob) := (znm (sa s0 18 (upd (s0.2.2.1 18) 0 p1)) fun y1 => (znm (sa y1 18 (upd (y1.2.2.1 18) 1 p2)) fun y2 => (znm (sa y2 18 (upd (y2.2.2.1 18) 2 p3)) fun y3 => (some (sa y3 18 (upd (y3.2.2.1 18) 3 p4))))))
theorem m_X8_advises {g : Gp} {a0 : Nat} {r0 : Nat → Nat} {N : Nat} {s0 : Ob} {p1 : Int32} {p2 : Int32} {p3 : Int32} {p4 : Int32} {res : Ob} (hg : Ok g) (h : f_X8_advises N s0 p1 p2 p3 p4 = some res) : Ct g yX8_advises cX8_advises 5 none (zrm 0 0) [.ref a0, .int p1, .int p2, .int p3, .int p4] (wX8 g a0 r0 s0) (exR none (wX8 g a0 r0 res)) := by
  refine ct_of rfl hg (by show _ ≤ _; exact Nat.le_of_ble_eq_true rfl) (fun K C X => ?_)
  show Zs K 0 0 (wX8 g a0 r0 s0) [(0, .ref a0), (1, .int p1), (2, .int p2), (3, .int p3), (4, .int p4)] 0 []
  unfold f_X8_advises at h
  refine z_aload_n (pc := 0) (x := a0) C dX8_advises_0 (i := 0) rfl rfl ?_
  refine z_get (pc := 1) (v := .ref (r0 18)) C 0 dX8_advises_1 fl_RX8_37 rfl rfl ?_
  refine z_iconst (pc := 4) C dX8_advises_4 ic_0 ?_
  refine z_iload_n (pc := 5) (x := p1) C dX8_advises_5 (i := 1) rfl rfl ?_
  refine z_iast (pc := 6) C 8 dX8_advises_6 rfl (by decide) (ws' := (wX8 g a0 r0 (sa s0 18 (upd (s0.2.2.1 18) 0 p1)))) rfl ?_
  refine z_aload_n (pc := 7) (x := a0) C dX8_advises_7 (i := 0) rfl rfl ?_
  refine z_get (pc := 8) (v := .ref (r0 18)) C 0 dX8_advises_8 fl_RX8_37 rfl rfl ?_
  refine z_iconst (pc := 11) C dX8_advises_11 ic_1 ?_
  refine z_iload_n (pc := 12) (x := p2) C dX8_advises_12 (i := 2) rfl rfl ?_
  replace h := znm_e h
  obtain ⟨y1, hy1, h⟩ := h
  refine z_wsE (ws' := (wX8 g a0 r0 y1)) (by rw [hy1]) ?_
  refine z_iast (pc := 13) C 8 dX8_advises_13 rfl (by decide) (ws' := (wX8 g a0 r0 (sa y1 18 (upd (y1.2.2.1 18) 1 p2)))) rfl ?_
  refine z_aload_n (pc := 14) (x := a0) C dX8_advises_14 (i := 0) rfl rfl ?_
  refine z_get (pc := 15) (v := .ref (r0 18)) C 0 dX8_advises_15 fl_RX8_37 rfl rfl ?_
  refine z_iconst (pc := 18) C dX8_advises_18 ic_2 ?_
  refine z_iload_n (pc := 19) (x := p3) C dX8_advises_19 (i := 3) rfl rfl ?_
  replace h := znm_e h
  obtain ⟨y2, hy2, h⟩ := h
  refine z_wsE (ws' := (wX8 g a0 r0 y2)) (by rw [hy2]) ?_
  refine z_iast (pc := 20) C 8 dX8_advises_20 rfl (by decide) (ws' := (wX8 g a0 r0 (sa y2 18 (upd (y2.2.2.1 18) 2 p3)))) rfl ?_
  refine z_aload_n (pc := 21) (x := a0) C dX8_advises_21 (i := 0) rfl rfl ?_
  refine z_get (pc := 22) (v := .ref (r0 18)) C 0 dX8_advises_22 fl_RX8_37 rfl rfl ?_
  refine z_iconst (pc := 25) C dX8_advises_25 ic_3 ?_
  refine z_iload (pc := 26) (x := p4) C dX8_advises_26 rfl ?_
  replace h := znm_e h
  obtain ⟨y3, hy3, h⟩ := h
  refine z_wsE (ws' := (wX8 g a0 r0 y3)) (by rw [hy3]) ?_
  refine z_iast (pc := 28) C 8 dX8_advises_28 rfl (by decide) (ws' := (wX8 g a0 r0 (sa y3 18 (upd (y3.2.2.1 18) 3 p4)))) rfl ?_
  exact z_vret C X dX8_advises_29 (by rw [← Option.some.inj h]; exact ⟨rfl, rfl⟩) (by decide) (by decide)
def f_X8_findsHint_159 (N : Nat) (p1 : Int32) (k15 : Int32 → Int32 → Int32 → Ob → Option (Int32 × Ob)) (k58 : Int32 → Int32 → Int32 → Int32 → Int32 → Ob → Option (Int32 × Ob)) (v2 : Int32) (v3 : Int32) (v4 : Int32) (v5 : Int32) (v6 : Int32) (v7 : Int32) (v8 : Int32) (t0 : Int32) (s0 : Ob) : Option (Int32 × Ob) := (if t0 ≤ v2 then (k58 v2 v3 v4 v5 (v6 + (1 : Int32)) s0) else (ob (f_X8_advises N s0 (2 : Int32) v5 v7 v8) fun x6 => (k58 t0 (1 : Int32) v4 v5 (v6 + (1 : Int32)) x6)))
theorem m_X8_findsHint_159 {K : Kt} {g : Gp} {a0 : Nat} {r0 : Nat → Nat} {N : Nat} {p1 : Int32} {res : Int32 × Ob} (hg : Ok g) (C : Cx K g cX8_findsHint RX8 10 (zrm 6 149)) (X : Rx K (exR (some (.int res.1)) (wX8 g a0 r0 res.2)) 0 0 (some .boolean)) {k15 : Int32 → Int32 → Int32 → Ob → Option (Int32 × Ob)} {k58 : Int32 → Int32 → Int32 → Int32 → Int32 → Ob → Option (Int32 × Ob)} (hk15 : ∀ (v2 : Int32) (v3 : Int32) (v4 : Int32) (s0 : Ob), k15 v2 v3 v4 s0 = some res → Zs K 0 0 (wX8 g a0 r0 s0) [(0, .ref a0), (1, .int p1), (2, .int v2), (3, .int v3), (4, .int v4)] 15 []) (hk58 : ∀ (v2 : Int32) (v3 : Int32) (v4 : Int32) (v5 : Int32) (v6 : Int32) (s0 : Ob), k58 v2 v3 v4 v5 v6 s0 = some res → Zs K 0 0 (wX8 g a0 r0 s0) [(0, .ref a0), (1, .int p1), (2, .int v2), (3, .int v3), (4, .int v4), (5, .int v5), (6, .int v6)] 58 []) (v2 : Int32) (v3 : Int32) (v4 : Int32) (v5 : Int32) (v6 : Int32) (v7 : Int32) (v8 : Int32) (t0 : Int32) (s0 : Ob) (h : f_X8_findsHint_159 N p1 k15 k58 v2 v3 v4 v5 v6 v7 v8 t0 s0 = some res) : Zs K 0 0 (wX8 g a0 r0 s0) [(0, .ref a0), (1, .int p1), (2, .int v2), (3, .int v3), (4, .int v4), (5, .int v5), (6, .int v6), (7, .int v7), (8, .int v8)] 159 [.int t0] := by
  unfold f_X8_findsHint_159 at h
  refine z_istore (pc := 159) C dX8_findsHint_159 (by decide) (lv' := [(9, .int t0), (0, .ref a0), (1, .int p1), (2, .int v2), (3, .int v3), (4, .int v4), (5, .int v5), (6, .int v6), (7, .int v7), (8, .int v8)]) rfl ?_
  refine z_iload (pc := 161) (x := t0) C dX8_findsHint_161 rfl ?_
  refine z_iload_n (pc := 163) (x := v2) C dX8_findsHint_163 (i := 2) rfl rfl ?_
  refine z_icmp_le (pc := 164) C dX8_findsHint_164 (tgt := 183) (by decide) (fun hc => ?_) (fun hc => ?_)
  · replace h := (ite_e h).1 hc
    refine z_iinc (pc := 183) C dX8_findsHint_183 rfl (inc_e 1 (1 : Int32) ic_1 v6) (by decide) (lv' := [(6, .int (v6 + (1 : Int32))), (9, .int t0), (0, .ref a0), (1, .int p1), (2, .int v2), (3, .int v3), (4, .int v4), (5, .int v5), (7, .int v7), (8, .int v8)]) rfl ?_
    refine z_goto (pc := 186) C dX8_findsHint_186 (tgt := 58) (by decide) ?_
    refine z_lv (lv' := [(0, .ref a0), (1, .int p1), (2, .int v2), (3, .int v3), (4, .int v4), (5, .int v5), (6, .int (v6 + (1 : Int32)))]) [2, 3, 4, 5, 6, 7, 0] rfl ?_
    exact hk58 v2 v3 v4 v5 (v6 + (1 : Int32)) s0 h
  · replace h := (ite_e h).2 hc
    refine z_iload (pc := 167) (x := t0) C dX8_findsHint_167 rfl ?_
    refine z_istore_n (pc := 169) C dX8_findsHint_169 (i := 2) rfl (by decide) (lv' := [(2, .int t0), (9, .int t0), (0, .ref a0), (1, .int p1), (3, .int v3), (4, .int v4), (5, .int v5), (6, .int v6), (7, .int v7), (8, .int v8)]) rfl ?_
    refine z_iconst (pc := 170) C dX8_findsHint_170 ic_1 ?_
    refine z_istore_n (pc := 171) C dX8_findsHint_171 (i := 3) rfl (by decide) (lv' := [(3, .int (1 : Int32)), (2, .int t0), (9, .int t0), (0, .ref a0), (1, .int p1), (4, .int v4), (5, .int v5), (6, .int v6), (7, .int v7), (8, .int v8)]) rfl ?_
    refine z_aload_n (pc := 172) (x := a0) C dX8_findsHint_172 (i := 0) rfl rfl ?_
    refine z_iconst (pc := 173) C dX8_findsHint_173 ic_2 ?_
    refine z_iload (pc := 174) (x := v5) C dX8_findsHint_174 rfl ?_
    refine z_iload (pc := 176) (x := v7) C dX8_findsHint_176 rfl ?_
    refine z_iload (pc := 178) (x := v8) C dX8_findsHint_178 rfl ?_
    replace h := ob_e h
    obtain ⟨x6, hx6, h⟩ := h
    refine z_callV (pc := 180) (As := [.int (2 : Int32), .int v5, .int v7, .int v8]) (rest := []) (wr := ([] : va_W)) C dX8_findsHint_180 ml_RX8_320 wv_X8_advises (m_X8_advises (a0 := a0) (r0 := r0) hg hx6) [0, 1, 2, 3, 4, 5, 6, 7, 8, 9, 10, 11, 12, 13, 14] [] rfl rfl ⟨by decide, by decide⟩ (Nat.le_of_ble_eq_true rfl) ⟨by decide, by decide⟩ rfl rfl rfl rfl rfl rfl rfl (by decide) (ex_k C (cs' := 0) (ss' := 0) (wF := (wX8 g a0 r0 x6)) [0, 1, 2, 3, 4, 5, 6, 7, 8, 9, 10, 11, 12, 13, 14] rfl rfl ?_)
    refine z_iinc (pc := 183) C dX8_findsHint_183 rfl (inc_e 1 (1 : Int32) ic_1 v6) (by decide) (lv' := [(6, .int (v6 + (1 : Int32))), (3, .int (1 : Int32)), (2, .int t0), (9, .int t0), (0, .ref a0), (1, .int p1), (4, .int v4), (5, .int v5), (7, .int v7), (8, .int v8)]) rfl ?_
    refine z_goto (pc := 186) C dX8_findsHint_186 (tgt := 58) (by decide) ?_
    refine z_lv (lv' := [(0, .ref a0), (1, .int p1), (2, .int t0), (3, .int (1 : Int32)), (4, .int v4), (5, .int v5), (6, .int (v6 + (1 : Int32)))]) [4, 5, 2, 1, 6, 7, 0] rfl ?_
    exact hk58 t0 (1 : Int32) v4 v5 (v6 + (1 : Int32)) x6 h
def f_X8_findsHint_141 (N : Nat) (p1 : Int32) (k15 : Int32 → Int32 → Int32 → Ob → Option (Int32 × Ob)) (k58 : Int32 → Int32 → Int32 → Int32 → Int32 → Ob → Option (Int32 × Ob)) (v2 : Int32) (v3 : Int32) (v4 : Int32) (v5 : Int32) (v6 : Int32) (v7 : Int32) (v8 : Int32) (s0 : Ob) : Option (Int32 × Ob) := (if p1 = 0 then (f_X8_findsHint_159 N p1 k15 k58 v2 v3 v4 v5 v6 v7 v8 (0 : Int32) s0) else (ob (f_X8_telling N s0 v5 v7 v8) fun x7 => (f_X8_findsHint_159 N p1 k15 k58 v2 v3 v4 v5 v6 v7 v8 x7 s0)))
theorem m_X8_findsHint_141 {K : Kt} {g : Gp} {a0 : Nat} {r0 : Nat → Nat} {N : Nat} {p1 : Int32} {res : Int32 × Ob} (hg : Ok g) (C : Cx K g cX8_findsHint RX8 10 (zrm 6 149)) (X : Rx K (exR (some (.int res.1)) (wX8 g a0 r0 res.2)) 0 0 (some .boolean)) {k15 : Int32 → Int32 → Int32 → Ob → Option (Int32 × Ob)} {k58 : Int32 → Int32 → Int32 → Int32 → Int32 → Ob → Option (Int32 × Ob)} (hk15 : ∀ (v2 : Int32) (v3 : Int32) (v4 : Int32) (s0 : Ob), k15 v2 v3 v4 s0 = some res → Zs K 0 0 (wX8 g a0 r0 s0) [(0, .ref a0), (1, .int p1), (2, .int v2), (3, .int v3), (4, .int v4)] 15 []) (hk58 : ∀ (v2 : Int32) (v3 : Int32) (v4 : Int32) (v5 : Int32) (v6 : Int32) (s0 : Ob), k58 v2 v3 v4 v5 v6 s0 = some res → Zs K 0 0 (wX8 g a0 r0 s0) [(0, .ref a0), (1, .int p1), (2, .int v2), (3, .int v3), (4, .int v4), (5, .int v5), (6, .int v6)] 58 []) (v2 : Int32) (v3 : Int32) (v4 : Int32) (v5 : Int32) (v6 : Int32) (v7 : Int32) (v8 : Int32) (s0 : Ob) (h : f_X8_findsHint_141 N p1 k15 k58 v2 v3 v4 v5 v6 v7 v8 s0 = some res) : Zs K 0 0 (wX8 g a0 r0 s0) [(0, .ref a0), (1, .int p1), (2, .int v2), (3, .int v3), (4, .int v4), (5, .int v5), (6, .int v6), (7, .int v7), (8, .int v8)] 141 [] := by
  unfold f_X8_findsHint_141 at h
  refine z_iload_n (pc := 141) (x := p1) C dX8_findsHint_141 (i := 1) rfl rfl ?_
  refine z_if_eq (pc := 142) C dX8_findsHint_142 (tgt := 158) (by decide) (fun hc => ?_) (fun hc => ?_)
  · replace h := (ite_e h).1 hc
    refine z_iconst (pc := 158) C dX8_findsHint_158 ic_0 ?_
    exact m_X8_findsHint_159 (a0 := a0) (r0 := r0) hg C X hk15 hk58 v2 v3 v4 v5 v6 v7 v8 (0 : Int32) s0 h
  · replace h := (ite_e h).2 hc
    refine z_aload_n (pc := 145) (x := a0) C dX8_findsHint_145 (i := 0) rfl rfl ?_
    refine z_iload (pc := 146) (x := v5) C dX8_findsHint_146 rfl ?_
    refine z_iload (pc := 148) (x := v7) C dX8_findsHint_148 rfl ?_
    refine z_iload (pc := 150) (x := v8) C dX8_findsHint_150 rfl ?_
    replace h := ob_e h
    obtain ⟨x7, hx7, h⟩ := h
    refine z_callV (pc := 152) (As := [.int v5, .int v7, .int v8]) (rest := []) (wr := ([] : va_W)) C dX8_findsHint_152 ml_RX8_277 wv_X8_telling (m_X8_telling (a0 := a0) (r0 := r0) hg hx7) [0, 1, 2, 3, 4, 5, 6, 7, 8, 9, 10, 11, 12, 13, 14] [] rfl rfl ⟨by decide, by decide⟩ (Nat.le_of_ble_eq_true rfl) ⟨by decide, by decide⟩ rfl rfl rfl rfl rfl rfl rfl (by decide) (ex_k C (cs' := 0) (ss' := 0) (wF := (wX8 g a0 r0 s0)) [0, 1, 2, 3, 4, 5, 6, 7, 8, 9, 10, 11, 12, 13, 14] rfl rfl ?_)
    refine z_goto (pc := 155) C dX8_findsHint_155 (tgt := 159) (by decide) ?_
    exact m_X8_findsHint_159 (a0 := a0) (r0 := r0) hg C X hk15 hk58 v2 v3 v4 v5 v6 v7 v8 x7 s0 h
def f_X8_findsHint_115 (N : Nat) (p1 : Int32) (k15 : Int32 → Int32 → Int32 → Ob → Option (Int32 × Ob)) (k58 : Int32 → Int32 → Int32 → Int32 → Int32 → Ob → Option (Int32 × Ob)) (v2 : Int32) (v3 : Int32) (v4 : Int32) (v5 : Int32) (v6 : Int32) (v7 : Int32) (t0 : Int32) (s0 : Ob) : Option (Int32 × Ob) := (ob (f_X8_canSay N s0 v5 v7 t0) fun x5 => (if x5 = 0 then (k58 v2 v3 v4 v5 (v6 + (1 : Int32)) s0) else (if p1 = 0 then (if v3 = 0 then (f_X8_findsHint_141 N p1 k15 k58 v2 v3 v4 v5 v6 v7 t0 s0) else (k58 v2 v3 v4 v5 (v6 + (1 : Int32)) s0)) else (f_X8_findsHint_141 N p1 k15 k58 v2 v3 v4 v5 v6 v7 t0 s0))))
theorem m_X8_findsHint_115 {K : Kt} {g : Gp} {a0 : Nat} {r0 : Nat → Nat} {N : Nat} {p1 : Int32} {res : Int32 × Ob} (hg : Ok g) (C : Cx K g cX8_findsHint RX8 10 (zrm 6 149)) (X : Rx K (exR (some (.int res.1)) (wX8 g a0 r0 res.2)) 0 0 (some .boolean)) {k15 : Int32 → Int32 → Int32 → Ob → Option (Int32 × Ob)} {k58 : Int32 → Int32 → Int32 → Int32 → Int32 → Ob → Option (Int32 × Ob)} (hk15 : ∀ (v2 : Int32) (v3 : Int32) (v4 : Int32) (s0 : Ob), k15 v2 v3 v4 s0 = some res → Zs K 0 0 (wX8 g a0 r0 s0) [(0, .ref a0), (1, .int p1), (2, .int v2), (3, .int v3), (4, .int v4)] 15 []) (hk58 : ∀ (v2 : Int32) (v3 : Int32) (v4 : Int32) (v5 : Int32) (v6 : Int32) (s0 : Ob), k58 v2 v3 v4 v5 v6 s0 = some res → Zs K 0 0 (wX8 g a0 r0 s0) [(0, .ref a0), (1, .int p1), (2, .int v2), (3, .int v3), (4, .int v4), (5, .int v5), (6, .int v6)] 58 []) (v2 : Int32) (v3 : Int32) (v4 : Int32) (v5 : Int32) (v6 : Int32) (v7 : Int32) (t0 : Int32) (s0 : Ob) (h : f_X8_findsHint_115 N p1 k15 k58 v2 v3 v4 v5 v6 v7 t0 s0 = some res) : Zs K 0 0 (wX8 g a0 r0 s0) [(0, .ref a0), (1, .int p1), (2, .int v2), (3, .int v3), (4, .int v4), (5, .int v5), (6, .int v6), (7, .int v7)] 115 [.int t0] := by
  unfold f_X8_findsHint_115 at h
  refine z_istore (pc := 115) C dX8_findsHint_115 (by decide) (lv' := [(8, .int t0), (0, .ref a0), (1, .int p1), (2, .int v2), (3, .int v3), (4, .int v4), (5, .int v5), (6, .int v6), (7, .int v7)]) rfl ?_
  refine z_aload_n (pc := 117) (x := a0) C dX8_findsHint_117 (i := 0) rfl rfl ?_
  refine z_iload (pc := 118) (x := v5) C dX8_findsHint_118 rfl ?_
  refine z_iload (pc := 120) (x := v7) C dX8_findsHint_120 rfl ?_
  refine z_iload (pc := 122) (x := t0) C dX8_findsHint_122 rfl ?_
  replace h := ob_e h
  obtain ⟨x5, hx5, h⟩ := h
  refine z_callV (pc := 124) (As := [.int v5, .int v7, .int t0]) (rest := []) (wr := ([] : va_W)) C dX8_findsHint_124 ml_RX8_311 wv_X8_canSay (m_X8_canSay (a0 := a0) (r0 := r0) hg hx5) [0, 1, 2, 3, 4, 5, 6, 7, 8, 9, 10, 11, 12, 13, 14] [] rfl rfl ⟨by decide, by decide⟩ (Nat.le_of_ble_eq_true rfl) ⟨by decide, by decide⟩ rfl rfl rfl rfl rfl rfl rfl (by decide) (ex_k C (cs' := 0) (ss' := 0) (wF := (wX8 g a0 r0 s0)) [0, 1, 2, 3, 4, 5, 6, 7, 8, 9, 10, 11, 12, 13, 14] rfl rfl ?_)
  refine z_if_eq (pc := 127) C dX8_findsHint_127 (tgt := 183) (by decide) (fun hc => ?_) (fun hc => ?_)
  · replace h := (ite_e h).1 hc
    refine z_iinc (pc := 183) C dX8_findsHint_183 rfl (inc_e 1 (1 : Int32) ic_1 v6) (by decide) (lv' := [(6, .int (v6 + (1 : Int32))), (8, .int t0), (0, .ref a0), (1, .int p1), (2, .int v2), (3, .int v3), (4, .int v4), (5, .int v5), (7, .int v7)]) rfl ?_
    refine z_goto (pc := 186) C dX8_findsHint_186 (tgt := 58) (by decide) ?_
    refine z_lv (lv' := [(0, .ref a0), (1, .int p1), (2, .int v2), (3, .int v3), (4, .int v4), (5, .int v5), (6, .int (v6 + (1 : Int32)))]) [2, 3, 4, 5, 6, 7, 0] rfl ?_
    exact hk58 v2 v3 v4 v5 (v6 + (1 : Int32)) s0 h
  · replace h := (ite_e h).2 hc
    refine z_iload_n (pc := 130) (x := p1) C dX8_findsHint_130 (i := 1) rfl rfl ?_
    refine z_if_ne (pc := 131) C dX8_findsHint_131 (tgt := 141) (by decide) (fun hc => ?_) (fun hc => ?_)
    · replace h := (ite_e h).2 hc
      refine z_lv (lv' := [(0, .ref a0), (1, .int p1), (2, .int v2), (3, .int v3), (4, .int v4), (5, .int v5), (6, .int v6), (7, .int v7), (8, .int t0)]) [1, 2, 3, 4, 5, 6, 7, 8, 0] rfl ?_
      exact m_X8_findsHint_141 (a0 := a0) (r0 := r0) hg C X hk15 hk58 v2 v3 v4 v5 v6 v7 t0 s0 h
    · replace h := (ite_e h).1 hc
      refine z_iload_n (pc := 134) (x := v3) C dX8_findsHint_134 (i := 3) rfl rfl ?_
      refine z_if_eq (pc := 135) C dX8_findsHint_135 (tgt := 141) (by decide) (fun hc => ?_) (fun hc => ?_)
      · replace h := (ite_e h).1 hc
        refine z_lv (lv' := [(0, .ref a0), (1, .int p1), (2, .int v2), (3, .int v3), (4, .int v4), (5, .int v5), (6, .int v6), (7, .int v7), (8, .int t0)]) [1, 2, 3, 4, 5, 6, 7, 8, 0] rfl ?_
        exact m_X8_findsHint_141 (a0 := a0) (r0 := r0) hg C X hk15 hk58 v2 v3 v4 v5 v6 v7 t0 s0 h
      · replace h := (ite_e h).2 hc
        refine z_goto (pc := 138) C dX8_findsHint_138 (tgt := 183) (by decide) ?_
        refine z_iinc (pc := 183) C dX8_findsHint_183 rfl (inc_e 1 (1 : Int32) ic_1 v6) (by decide) (lv' := [(6, .int (v6 + (1 : Int32))), (8, .int t0), (0, .ref a0), (1, .int p1), (2, .int v2), (3, .int v3), (4, .int v4), (5, .int v5), (7, .int v7)]) rfl ?_
        refine z_goto (pc := 186) C dX8_findsHint_186 (tgt := 58) (by decide) ?_
        refine z_lv (lv' := [(0, .ref a0), (1, .int p1), (2, .int v2), (3, .int v3), (4, .int v4), (5, .int v5), (6, .int (v6 + (1 : Int32)))]) [2, 3, 4, 5, 6, 7, 0] rfl ?_
        exact hk58 v2 v3 v4 v5 (v6 + (1 : Int32)) s0 h
def f_X8_findsHint_92 (N : Nat) (p1 : Int32) (k15 : Int32 → Int32 → Int32 → Ob → Option (Int32 × Ob)) (k58 : Int32 → Int32 → Int32 → Int32 → Int32 → Ob → Option (Int32 × Ob)) (v2 : Int32) (v3 : Int32) (v4 : Int32) (v5 : Int32) (v6 : Int32) (t0 : Int32) (s0 : Ob) : Option (Int32 × Ob) := (if t0 = 0 then (f_X8_findsHint_115 N p1 k15 k58 v2 v3 v4 v5 v6 t0 v6 s0) else (f_X8_findsHint_115 N p1 k15 k58 v2 v3 v4 v5 v6 t0 ((v6 - ((s0.2.2.1 0) 0)) + (1 : Int32)) s0))
theorem m_X8_findsHint_92 {K : Kt} {g : Gp} {a0 : Nat} {r0 : Nat → Nat} {N : Nat} {p1 : Int32} {res : Int32 × Ob} (hg : Ok g) (C : Cx K g cX8_findsHint RX8 10 (zrm 6 149)) (X : Rx K (exR (some (.int res.1)) (wX8 g a0 r0 res.2)) 0 0 (some .boolean)) {k15 : Int32 → Int32 → Int32 → Ob → Option (Int32 × Ob)} {k58 : Int32 → Int32 → Int32 → Int32 → Int32 → Ob → Option (Int32 × Ob)} (hk15 : ∀ (v2 : Int32) (v3 : Int32) (v4 : Int32) (s0 : Ob), k15 v2 v3 v4 s0 = some res → Zs K 0 0 (wX8 g a0 r0 s0) [(0, .ref a0), (1, .int p1), (2, .int v2), (3, .int v3), (4, .int v4)] 15 []) (hk58 : ∀ (v2 : Int32) (v3 : Int32) (v4 : Int32) (v5 : Int32) (v6 : Int32) (s0 : Ob), k58 v2 v3 v4 v5 v6 s0 = some res → Zs K 0 0 (wX8 g a0 r0 s0) [(0, .ref a0), (1, .int p1), (2, .int v2), (3, .int v3), (4, .int v4), (5, .int v5), (6, .int v6)] 58 []) (v2 : Int32) (v3 : Int32) (v4 : Int32) (v5 : Int32) (v6 : Int32) (t0 : Int32) (s0 : Ob) (h : f_X8_findsHint_92 N p1 k15 k58 v2 v3 v4 v5 v6 t0 s0 = some res) : Zs K 0 0 (wX8 g a0 r0 s0) [(0, .ref a0), (1, .int p1), (2, .int v2), (3, .int v3), (4, .int v4), (5, .int v5), (6, .int v6)] 92 [.int t0] := by
  unfold f_X8_findsHint_92 at h
  refine z_istore (pc := 92) C dX8_findsHint_92 (by decide) (lv' := [(7, .int t0), (0, .ref a0), (1, .int p1), (2, .int v2), (3, .int v3), (4, .int v4), (5, .int v5), (6, .int v6)]) rfl ?_
  refine z_iload (pc := 94) (x := t0) C dX8_findsHint_94 rfl ?_
  refine z_if_ne (pc := 96) C dX8_findsHint_96 (tgt := 104) (by decide) (fun hc => ?_) (fun hc => ?_)
  · replace h := (ite_e h).2 hc
    refine z_iload (pc := 104) (x := v6) C dX8_findsHint_104 rfl ?_
    refine z_aload_n (pc := 106) (x := a0) C dX8_findsHint_106 (i := 0) rfl rfl ?_
    refine z_get (pc := 107) (v := .ref (r0 0)) C 0 dX8_findsHint_107 fl_RX8_9 rfl rfl ?_
    refine z_iconst (pc := 110) C dX8_findsHint_110 ic_0 ?_
    refine z_iald (pc := 111) C 1 dX8_findsHint_111 rfl (by decide) ?_
    refine z_top1 (v := ((s0.2.2.1 0) 0)) rfl ?_
    refine z_isub (pc := 112) C dX8_findsHint_112 ?_
    refine z_iconst (pc := 113) C dX8_findsHint_113 ic_1 ?_
    refine z_iadd (pc := 114) C dX8_findsHint_114 ?_
    refine z_lv (lv' := [(0, .ref a0), (1, .int p1), (2, .int v2), (3, .int v3), (4, .int v4), (5, .int v5), (6, .int v6), (7, .int t0)]) [1, 2, 3, 4, 5, 6, 7, 0] rfl ?_
    exact m_X8_findsHint_115 (a0 := a0) (r0 := r0) hg C X hk15 hk58 v2 v3 v4 v5 v6 t0 ((v6 - ((s0.2.2.1 0) 0)) + (1 : Int32)) s0 h
  · replace h := (ite_e h).1 hc
    refine z_iload (pc := 99) (x := v6) C dX8_findsHint_99 rfl ?_
    refine z_goto (pc := 101) C dX8_findsHint_101 (tgt := 115) (by decide) ?_
    refine z_lv (lv' := [(0, .ref a0), (1, .int p1), (2, .int v2), (3, .int v3), (4, .int v4), (5, .int v5), (6, .int v6), (7, .int t0)]) [1, 2, 3, 4, 5, 6, 7, 0] rfl ?_
    exact m_X8_findsHint_115 (a0 := a0) (r0 := r0) hg C X hk15 hk58 v2 v3 v4 v5 v6 t0 v6 s0 h
def F_X8_findsHint_58 (N : Nat) (p1 : Int32) (k15 : Int32 → Int32 → Int32 → Ob → Option (Int32 × Ob)) (k58 : Int32 → Int32 → Int32 → Int32 → Int32 → Ob → Option (Int32 × Ob)) (v2 : Int32) (v3 : Int32) (v4 : Int32) (v5 : Int32) (v6 : Int32) (s0 : Ob) : Option (Int32 × Ob) := (if (((s0.2.2.1 0) 0) + ((s0.2.2.1 0) 1)) ≤ v6 then (k15 v2 v3 (v4 + (1 : Int32)) s0) else (if ((s0.2.2.1 0) 0) ≤ v6 then (f_X8_findsHint_92 N p1 k15 k58 v2 v3 v4 v5 v6 (1 : Int32) s0) else (f_X8_findsHint_92 N p1 k15 k58 v2 v3 v4 v5 v6 (0 : Int32) s0)))
def f_X8_findsHint_58 (N : Nat) (p1 : Int32) (k15 : Int32 → Int32 → Int32 → Ob → Option (Int32 × Ob)) : Nat → Int32 → Int32 → Int32 → Int32 → Int32 → Ob → Option (Int32 × Ob) := zlp (fun _ _ _ _ _ _ => none) (F_X8_findsHint_58 N p1 k15)
theorem m_X8_findsHint_58 {K : Kt} {g : Gp} {a0 : Nat} {r0 : Nat → Nat} {N : Nat} {p1 : Int32} {res : Int32 × Ob} (hg : Ok g) (C : Cx K g cX8_findsHint RX8 10 (zrm 6 149)) (X : Rx K (exR (some (.int res.1)) (wX8 g a0 r0 res.2)) 0 0 (some .boolean)) {k15 : Int32 → Int32 → Int32 → Ob → Option (Int32 × Ob)} (hk15 : ∀ (v2 : Int32) (v3 : Int32) (v4 : Int32) (s0 : Ob), k15 v2 v3 v4 s0 = some res → Zs K 0 0 (wX8 g a0 r0 s0) [(0, .ref a0), (1, .int p1), (2, .int v2), (3, .int v3), (4, .int v4)] 15 []) : ∀ (n : Nat) (v2 : Int32) (v3 : Int32) (v4 : Int32) (v5 : Int32) (v6 : Int32) (s0 : Ob), f_X8_findsHint_58 N p1 k15 n v2 v3 v4 v5 v6 s0 = some res → Zs K 0 0 (wX8 g a0 r0 s0) [(0, .ref a0), (1, .int p1), (2, .int v2), (3, .int v3), (4, .int v4), (5, .int v5), (6, .int v6)] 58 [] := by
  intro n
  induction n with
  | zero => intro v2 v3 v4 v5 v6 s0 h; exact nomatch (show (none : Option (Int32 × Ob)) = some res from h)
  | succ n hk58 =>
    intro v2 v3 v4 v5 v6 s0 h
    replace h : F_X8_findsHint_58 N p1 k15 (f_X8_findsHint_58 N p1 k15 n) v2 v3 v4 v5 v6 s0 = some res := h
    unfold F_X8_findsHint_58 at h
    refine z_iload (pc := 58) (x := v6) C dX8_findsHint_58 rfl ?_
    refine z_aload_n (pc := 60) (x := a0) C dX8_findsHint_60 (i := 0) rfl rfl ?_
    refine z_get (pc := 61) (v := .ref (r0 0)) C 0 dX8_findsHint_61 fl_RX8_9 rfl rfl ?_
    refine z_iconst (pc := 64) C dX8_findsHint_64 ic_0 ?_
    refine z_iald (pc := 65) C 1 dX8_findsHint_65 rfl (by decide) ?_
    refine z_top1 (v := ((s0.2.2.1 0) 0)) rfl ?_
    refine z_aload_n (pc := 66) (x := a0) C dX8_findsHint_66 (i := 0) rfl rfl ?_
    refine z_get (pc := 67) (v := .ref (r0 0)) C 0 dX8_findsHint_67 fl_RX8_9 rfl rfl ?_
    refine z_iconst (pc := 70) C dX8_findsHint_70 ic_1 ?_
    refine z_iald (pc := 71) C 1 dX8_findsHint_71 rfl (by decide) ?_
    refine z_top1 (v := ((s0.2.2.1 0) 1)) rfl ?_
    refine z_iadd (pc := 72) C dX8_findsHint_72 ?_
    refine z_icmp_ge (pc := 73) C dX8_findsHint_73 (tgt := 189) (by decide) (fun hc => ?_) (fun hc => ?_)
    · replace h := (ite_e h).1 hc
      refine z_iinc (pc := 189) C dX8_findsHint_189 rfl (inc_e 1 (1 : Int32) ic_1 v4) (by decide) (lv' := [(4, .int (v4 + (1 : Int32))), (0, .ref a0), (1, .int p1), (2, .int v2), (3, .int v3), (5, .int v5), (6, .int v6)]) rfl ?_
      refine z_goto (pc := 192) C dX8_findsHint_192 (tgt := 15) (by decide) ?_
      refine z_lv (lv' := [(0, .ref a0), (1, .int p1), (2, .int v2), (3, .int v3), (4, .int (v4 + (1 : Int32)))]) [1, 2, 3, 4, 0] rfl ?_
      exact hk15 v2 v3 (v4 + (1 : Int32)) s0 h
    · replace h := (ite_e h).2 hc
      refine z_iload (pc := 76) (x := v6) C dX8_findsHint_76 rfl ?_
      refine z_aload_n (pc := 78) (x := a0) C dX8_findsHint_78 (i := 0) rfl rfl ?_
      refine z_get (pc := 79) (v := .ref (r0 0)) C 0 dX8_findsHint_79 fl_RX8_9 rfl rfl ?_
      refine z_iconst (pc := 82) C dX8_findsHint_82 ic_0 ?_
      refine z_iald (pc := 83) C 1 dX8_findsHint_83 rfl (by decide) ?_
      refine z_top1 (v := ((s0.2.2.1 0) 0)) rfl ?_
      refine z_icmp_ge (pc := 84) C dX8_findsHint_84 (tgt := 91) (by decide) (fun hc => ?_) (fun hc => ?_)
      · replace h := (ite_e h).1 hc
        refine z_iconst (pc := 91) C dX8_findsHint_91 ic_1 ?_
        exact m_X8_findsHint_92 (a0 := a0) (r0 := r0) hg C X hk15 hk58 v2 v3 v4 v5 v6 (1 : Int32) s0 h
      · replace h := (ite_e h).2 hc
        refine z_iconst (pc := 87) C dX8_findsHint_87 ic_0 ?_
        refine z_goto (pc := 88) C dX8_findsHint_88 (tgt := 92) (by decide) ?_
        exact m_X8_findsHint_92 (a0 := a0) (r0 := r0) hg C X hk15 hk58 v2 v3 v4 v5 v6 (0 : Int32) s0 h
def F_X8_findsHint_15 (N : Nat) (p1 : Int32)  (k15 : Int32 → Int32 → Int32 → Ob → Option (Int32 × Ob)) (v2 : Int32) (v3 : Int32) (v4 : Int32) (s0 : Ob) : Option (Int32 × Ob) := (if ((s0.2.2.1 0) 2) ≤ v4 then (chk (zisB v3) (some (v3, s0))) else (if ((s0.2.2.1 0) 7) ≤ 0 then (chk (zisB v3) (some (v3, s0))) else (chk (decide (¬ ((s0.2.2.1 0) 2) = 0)) (znm ((((s0.2.2.1 0) 10) + v4) - (((s0.2.2.1 0) 10) + v4) / ((s0.2.2.1 0) 2) * ((s0.2.2.1 0) 2)) fun x4 => (f_X8_findsHint_58 N p1 k15 N v2 v3 v4 x4 (0 : Int32) s0)))))
def f_X8_findsHint_15 (N : Nat) (p1 : Int32)  : Nat → Int32 → Int32 → Int32 → Ob → Option (Int32 × Ob) := zlp (fun _ _ _ _ => none) (F_X8_findsHint_15 N p1)
theorem m_X8_findsHint_15 {K : Kt} {g : Gp} {a0 : Nat} {r0 : Nat → Nat} {N : Nat} {p1 : Int32} {res : Int32 × Ob} (hg : Ok g) (C : Cx K g cX8_findsHint RX8 10 (zrm 6 149)) (X : Rx K (exR (some (.int res.1)) (wX8 g a0 r0 res.2)) 0 0 (some .boolean)) : ∀ (n : Nat) (v2 : Int32) (v3 : Int32) (v4 : Int32) (s0 : Ob), f_X8_findsHint_15 N p1 n v2 v3 v4 s0 = some res → Zs K 0 0 (wX8 g a0 r0 s0) [(0, .ref a0), (1, .int p1), (2, .int v2), (3, .int v3), (4, .int v4)] 15 [] := by
  intro n
  induction n with
  | zero => intro v2 v3 v4 s0 h; exact nomatch (show (none : Option (Int32 × Ob)) = some res from h)
  | succ n hk15 =>
    intro v2 v3 v4 s0 h
    replace h : F_X8_findsHint_15 N p1 (f_X8_findsHint_15 N p1 n) v2 v3 v4 s0 = some res := h
    unfold F_X8_findsHint_15 at h
    refine z_iload (pc := 15) (x := v4) C dX8_findsHint_15 rfl ?_
    refine z_aload_n (pc := 17) (x := a0) C dX8_findsHint_17 (i := 0) rfl rfl ?_
    refine z_get (pc := 18) (v := .ref (r0 0)) C 0 dX8_findsHint_18 fl_RX8_9 rfl rfl ?_
    refine z_iconst (pc := 21) C dX8_findsHint_21 ic_2 ?_
    refine z_iald (pc := 22) C 1 dX8_findsHint_22 rfl (by decide) ?_
    refine z_top1 (v := ((s0.2.2.1 0) 2)) rfl ?_
    refine z_icmp_ge (pc := 23) C dX8_findsHint_23 (tgt := 195) (by decide) (fun hc => ?_) (fun hc => ?_)
    · replace h := (ite_e h).1 hc
      refine z_iload_n (pc := 195) (x := v3) C dX8_findsHint_195 (i := 3) rfl rfl ?_
      replace h := chk_e h
      obtain ⟨hb1, h⟩ := h
      exact z_zret C X dX8_findsHint_196 (zisB_nar hb1) (by rw [← Option.some.inj h]; exact ⟨rfl, rfl⟩) (by decide) (by decide)
    · replace h := (ite_e h).2 hc
      refine z_aload_n (pc := 26) (x := a0) C dX8_findsHint_26 (i := 0) rfl rfl ?_
      refine z_get (pc := 27) (v := .ref (r0 0)) C 0 dX8_findsHint_27 fl_RX8_9 rfl rfl ?_
      refine z_bipush (pc := 30) C dX8_findsHint_30 bp_7 ?_
      refine z_iald (pc := 32) C 1 dX8_findsHint_32 rfl (by decide) ?_
      refine z_top1 (v := ((s0.2.2.1 0) 7)) rfl ?_
      refine z_if_le (pc := 33) C dX8_findsHint_33 (tgt := 195) (by decide) (fun hc => ?_) (fun hc => ?_)
      · replace h := (ite_e h).1 hc
        refine z_iload_n (pc := 195) (x := v3) C dX8_findsHint_195 (i := 3) rfl rfl ?_
        replace h := chk_e h
        obtain ⟨hb2, h⟩ := h
        exact z_zret C X dX8_findsHint_196 (zisB_nar hb2) (by rw [← Option.some.inj h]; exact ⟨rfl, rfl⟩) (by decide) (by decide)
      · replace h := (ite_e h).2 hc
        refine z_aload_n (pc := 36) (x := a0) C dX8_findsHint_36 (i := 0) rfl rfl ?_
        refine z_get (pc := 37) (v := .ref (r0 0)) C 0 dX8_findsHint_37 fl_RX8_9 rfl rfl ?_
        refine z_bipush (pc := 40) C dX8_findsHint_40 bp_10 ?_
        refine z_iald (pc := 42) C 1 dX8_findsHint_42 rfl (by decide) ?_
        refine z_top1 (v := ((s0.2.2.1 0) 10)) rfl ?_
        refine z_iload (pc := 43) (x := v4) C dX8_findsHint_43 rfl ?_
        refine z_iadd (pc := 45) C dX8_findsHint_45 ?_
        refine z_aload_n (pc := 46) (x := a0) C dX8_findsHint_46 (i := 0) rfl rfl ?_
        refine z_get (pc := 47) (v := .ref (r0 0)) C 0 dX8_findsHint_47 fl_RX8_9 rfl rfl ?_
        refine z_iconst (pc := 50) C dX8_findsHint_50 ic_2 ?_
        refine z_iald (pc := 51) C 1 dX8_findsHint_51 rfl (by decide) ?_
        refine z_top1 (v := ((s0.2.2.1 0) 2)) rfl ?_
        replace h := chk_e h
        obtain ⟨hb3, h⟩ := h
        refine z_irem (pc := 52) C dX8_findsHint_52 (of_decide_eq_true hb3) ?_
        replace h := znm_e h
        obtain ⟨x4, hx4, h⟩ := h
        refine z_top1 hx4 ?_
        refine z_istore (pc := 53) C dX8_findsHint_53 (by decide) (lv' := [(5, .int x4), (0, .ref a0), (1, .int p1), (2, .int v2), (3, .int v3), (4, .int v4)]) rfl ?_
        refine z_iconst (pc := 55) C dX8_findsHint_55 ic_0 ?_
        refine z_istore (pc := 56) C dX8_findsHint_56 (by decide) (lv' := [(6, .int (0 : Int32)), (5, .int x4), (0, .ref a0), (1, .int p1), (2, .int v2), (3, .int v3), (4, .int v4)]) rfl ?_
        refine z_lv (lv' := [(0, .ref a0), (1, .int p1), (2, .int v2), (3, .int v3), (4, .int v4), (5, .int x4), (6, .int (0 : Int32))]) [2, 3, 4, 5, 6, 1, 0] rfl ?_
        exact m_X8_findsHint_58 (a0 := a0) (r0 := r0) hg C X hk15 N v2 v3 v4 x4 (0 : Int32) s0 h
def f_X8_findsHint (N : Nat) (s0 : Ob) (p1 : Int32) : Option (Int32 × Ob) := (if p1 = 0 then (f_X8_findsHint_15 N p1 N (-1 : Int32) (0 : Int32) (1 : Int32) s0) else (f_X8_findsHint_15 N p1 N (0 : Int32) (0 : Int32) (1 : Int32) s0))
theorem m_X8_findsHint {g : Gp} {a0 : Nat} {r0 : Nat → Nat} {N : Nat} {s0 : Ob} {p1 : Int32} {res : Int32 × Ob} (hg : Ok g) (h : f_X8_findsHint N s0 p1 = some res) : Ct g yX8_findsHint cX8_findsHint 10 (some .boolean) (zrm 6 149) [.ref a0, .int p1] (wX8 g a0 r0 s0) (exR (some (.int res.1)) (wX8 g a0 r0 res.2)) := by
  refine ct_of rfl hg (by show _ ≤ _; exact Nat.le_of_ble_eq_true rfl) (fun K C X => ?_)
  show Zs K 0 0 (wX8 g a0 r0 s0) [(0, .ref a0), (1, .int p1)] 0 []
  unfold f_X8_findsHint at h
  refine z_iload_n (pc := 0) (x := p1) C dX8_findsHint_0 (i := 1) rfl rfl ?_
  refine z_if_eq (pc := 1) C dX8_findsHint_1 (tgt := 8) (by decide) (fun hc => ?_) (fun hc => ?_)
  · replace h := (ite_e h).1 hc
    refine z_iconst (pc := 8) C dX8_findsHint_8 ic_m1 ?_
    refine z_istore_n (pc := 9) C dX8_findsHint_9 (i := 2) rfl (by decide) (lv' := [(2, .int (-1 : Int32)), (0, .ref a0), (1, .int p1)]) rfl ?_
    refine z_iconst (pc := 10) C dX8_findsHint_10 ic_0 ?_
    refine z_istore_n (pc := 11) C dX8_findsHint_11 (i := 3) rfl (by decide) (lv' := [(3, .int (0 : Int32)), (2, .int (-1 : Int32)), (0, .ref a0), (1, .int p1)]) rfl ?_
    refine z_iconst (pc := 12) C dX8_findsHint_12 ic_1 ?_
    refine z_istore (pc := 13) C dX8_findsHint_13 (by decide) (lv' := [(4, .int (1 : Int32)), (3, .int (0 : Int32)), (2, .int (-1 : Int32)), (0, .ref a0), (1, .int p1)]) rfl ?_
    refine z_lv (lv' := [(0, .ref a0), (1, .int p1), (2, .int (-1 : Int32)), (3, .int (0 : Int32)), (4, .int (1 : Int32))]) [3, 4, 2, 1, 0] rfl ?_
    exact m_X8_findsHint_15 (a0 := a0) (r0 := r0) hg C X N (-1 : Int32) (0 : Int32) (1 : Int32) s0 h
  · replace h := (ite_e h).2 hc
    refine z_iconst (pc := 4) C dX8_findsHint_4 ic_0 ?_
    refine z_goto (pc := 5) C dX8_findsHint_5 (tgt := 9) (by decide) ?_
    refine z_istore_n (pc := 9) C dX8_findsHint_9 (i := 2) rfl (by decide) (lv' := [(2, .int (0 : Int32)), (0, .ref a0), (1, .int p1)]) rfl ?_
    refine z_iconst (pc := 10) C dX8_findsHint_10 ic_0 ?_
    refine z_istore_n (pc := 11) C dX8_findsHint_11 (i := 3) rfl (by decide) (lv' := [(3, .int (0 : Int32)), (2, .int (0 : Int32)), (0, .ref a0), (1, .int p1)]) rfl ?_
    refine z_iconst (pc := 12) C dX8_findsHint_12 ic_1 ?_
    refine z_istore (pc := 13) C dX8_findsHint_13 (by decide) (lv' := [(4, .int (1 : Int32)), (3, .int (0 : Int32)), (2, .int (0 : Int32)), (0, .ref a0), (1, .int p1)]) rfl ?_
    refine z_lv (lv' := [(0, .ref a0), (1, .int p1), (2, .int (0 : Int32)), (3, .int (0 : Int32)), (4, .int (1 : Int32))]) [3, 4, 2, 1, 0] rfl ?_
    exact m_X8_findsHint_15 (a0 := a0) (r0 := r0) hg C X N (0 : Int32) (0 : Int32) (1 : Int32) s0 h
