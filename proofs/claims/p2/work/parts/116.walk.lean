/-! OWN, written by wip/whole/tools/mkall.py: what each method does to its cells, and the walk that shows it -/
def f_X8_valueNow (N : Nat) (s0 : Ob) : Option (Int32 × Ob) := (ob (f_X8_isOver N (si s0 22 (1 : Int32))) fun x1 => (if x1 = 0 then (ob (f_X8_makesPresent N (si s0 22 (1 : Int32))) fun x2 => (ob (f_X8_searches N x2) fun x3 => (some (x3.1, x3.2)))) else (ob (f_X8_score N (si s0 22 (1 : Int32))) fun x4 => (some (x4, (si s0 22 (1 : Int32)))))))
theorem m_X8_valueNow {g : Gp} {a0 : Nat} {r0 : Nat → Nat} {N : Nat} {s0 : Ob} {res : Int32 × Ob} (hg : Ok g) (h : f_X8_valueNow N s0 = some res) : Ct g yX8_valueNow cX8_valueNow 1 (some .int) (zrm 4 95) [.ref a0] (wX8 g a0 r0 s0) (exR (some (.int res.1)) (wX8 g a0 r0 res.2)) := by
  refine ct_of rfl hg (by show _ ≤ _; exact Nat.le_of_ble_eq_true rfl) (fun K C X => ?_)
  show Zs K 0 0 (wX8 g a0 r0 s0) [(0, .ref a0)] 0 []
  unfold f_X8_valueNow at h
  refine z_aload_n (pc := 0) (x := a0) C dX8_valueNow_0 (i := 0) rfl rfl ?_
  refine z_iconst (pc := 1) C dX8_valueNow_1 ic_1 ?_
  refine z_put (pc := 2) C 0 dX8_valueNow_2 fp_RX8_361 rfl rfl rfl (zlt_b rfl) (ws' := (wX8 g a0 r0 (si s0 22 (1 : Int32)))) rfl ?_
  refine z_aload_n (pc := 5) (x := a0) C dX8_valueNow_5 (i := 0) rfl rfl ?_
  replace h := ob_e h
  obtain ⟨x1, hx1, h⟩ := h
  refine z_callV (pc := 6) (As := []) (rest := []) (wr := ([] : va_W)) C dX8_valueNow_6 ml_RX8_299 wv_X8_isOver (m_X8_isOver (a0 := a0) (r0 := r0) hg hx1) [0, 1, 2, 3, 4, 5, 6, 7, 8, 9, 10, 11, 12, 13, 14] [] rfl rfl ⟨by decide, by decide⟩ (Nat.le_of_ble_eq_true rfl) ⟨by decide, by decide⟩ rfl rfl rfl rfl rfl rfl rfl (by decide) (ex_k C (cs' := 0) (ss' := 0) (wF := (wX8 g a0 r0 (si s0 22 (1 : Int32)))) [0, 1, 2, 3, 4, 5, 6, 7, 8, 9, 10, 11, 12, 13, 14] rfl rfl ?_)
  refine z_if_eq (pc := 9) C dX8_valueNow_9 (tgt := 17) (by decide) (fun hc => ?_) (fun hc => ?_)
  · replace h := (ite_e h).1 hc
    refine z_aload_n (pc := 17) (x := a0) C dX8_valueNow_17 (i := 0) rfl rfl ?_
    replace h := ob_e h
    obtain ⟨x2, hx2, h⟩ := h
    refine z_callV (pc := 18) (As := []) (rest := []) (wr := ([] : va_W)) C dX8_valueNow_18 ml_RX8_391 wv_X8_makesPresent (m_X8_makesPresent (a0 := a0) (r0 := r0) hg hx2) [0, 1, 2, 3, 4, 5, 6, 7, 8, 9, 10, 11, 12, 13, 14] [] rfl rfl ⟨by decide, by decide⟩ (Nat.le_of_ble_eq_true rfl) ⟨by decide, by decide⟩ rfl rfl rfl rfl rfl rfl rfl (by decide) (ex_k C (cs' := 0) (ss' := 0) (wF := (wX8 g a0 r0 x2)) [0, 1, 2, 3, 4, 5, 6, 7, 8, 9, 10, 11, 12, 13, 14] rfl rfl ?_)
    refine z_aload_n (pc := 21) (x := a0) C dX8_valueNow_21 (i := 0) rfl rfl ?_
    replace h := ob_e h
    obtain ⟨x3, hx3, h⟩ := h
    refine z_callV (pc := 22) (As := []) (rest := []) (wr := ([] : va_W)) C dX8_valueNow_22 ml_RX8_394 wv_X8_searches (m_X8_searches (a0 := a0) (r0 := r0) hg hx3) [0, 1, 2, 3, 4, 5, 6, 7, 8, 9, 10, 11, 12, 13, 14] [] rfl rfl ⟨by decide, by decide⟩ (Nat.le_of_ble_eq_true rfl) ⟨by decide, by decide⟩ rfl rfl rfl rfl rfl rfl rfl (by decide) (ex_k C (cs' := 0) (ss' := 0) (wF := (wX8 g a0 r0 x3.2)) [0, 1, 2, 3, 4, 5, 6, 7, 8, 9, 10, 11, 12, 13, 14] rfl rfl ?_)
    exact z_iret C X dX8_valueNow_25 (by rw [← Option.some.inj h]; exact ⟨rfl, rfl⟩) (by decide) (by decide)
  · replace h := (ite_e h).2 hc
    refine z_aload_n (pc := 12) (x := a0) C dX8_valueNow_12 (i := 0) rfl rfl ?_
    replace h := ob_e h
    obtain ⟨x4, hx4, h⟩ := h
    refine z_callV (pc := 13) (As := []) (rest := []) (wr := ([] : va_W)) C dX8_valueNow_13 ml_RX8_210 wv_X8_score (m_X8_score (a0 := a0) (r0 := r0) hg hx4) [0, 1, 2, 3, 4, 5, 6, 7, 8, 9, 10, 11, 12, 13, 14] [] rfl rfl ⟨by decide, by decide⟩ (Nat.le_of_ble_eq_true rfl) ⟨by decide, by decide⟩ rfl rfl rfl rfl rfl rfl rfl (by decide) (ex_k C (cs' := 0) (ss' := 0) (wF := (wX8 g a0 r0 (si s0 22 (1 : Int32)))) [0, 1, 2, 3, 4, 5, 6, 7, 8, 9, 10, 11, 12, 13, 14] rfl rfl ?_)
    exact z_iret C X dX8_valueNow_16 (by rw [← Option.some.inj h]; exact ⟨rfl, rfl⟩) (by decide) (by decide)
def f_X8_value (N : Nat) (s0 : Ob) : Option (Int32 × Ob) := (ob (f_X8_valueNow N (si s0 7 (0 : Int32))) fun x1 => (some (x1.1, x1.2)))
theorem m_X8_value {g : Gp} {a0 : Nat} {r0 : Nat → Nat} {N : Nat} {s0 : Ob} {res : Int32 × Ob} (hg : Ok g) (h : f_X8_value N s0 = some res) : Ct g yX8_value cX8_value 1 (some .int) (zrm 5 115) [.ref a0] (wX8 g a0 r0 s0) (exR (some (.int res.1)) (wX8 g a0 r0 res.2)) := by
  refine ct_of rfl hg (by show _ ≤ _; exact Nat.le_of_ble_eq_true rfl) (fun K C X => ?_)
  show Zs K 0 0 (wX8 g a0 r0 s0) [(0, .ref a0)] 0 []
  unfold f_X8_value at h
  refine z_aload_n (pc := 0) (x := a0) C dX8_value_0 (i := 0) rfl rfl ?_
  refine z_iconst (pc := 1) C dX8_value_1 ic_0 ?_
  refine z_put (pc := 2) C 0 dX8_value_2 fp_RX8_59 rfl rfl rfl (zlt_b rfl) (ws' := (wX8 g a0 r0 (si s0 7 (0 : Int32)))) rfl ?_
  refine z_aload_n (pc := 5) (x := a0) C dX8_value_5 (i := 0) rfl rfl ?_
  replace h := ob_e h
  obtain ⟨x1, hx1, h⟩ := h
  refine z_callV (pc := 6) (As := []) (rest := []) (wr := ([] : va_W)) C dX8_value_6 ml_RX8_397 wv_X8_valueNow (m_X8_valueNow (a0 := a0) (r0 := r0) hg hx1) [0, 1, 2, 3, 4, 5, 6, 7, 8, 9, 10, 11, 12, 13, 14] [] rfl rfl ⟨by decide, by decide⟩ (Nat.le_of_ble_eq_true rfl) ⟨by decide, by decide⟩ rfl rfl rfl rfl rfl rfl rfl (by decide) (ex_k C (cs' := 0) (ss' := 0) (wF := (wX8 g a0 r0 x1.2)) [0, 1, 2, 3, 4, 5, 6, 7, 8, 9, 10, 11, 12, 13, 14] rfl rfl ?_)
  exact z_iret C X dX8_value_9 (by rw [← Option.some.inj h]; exact ⟨rfl, rfl⟩) (by decide) (by decide)
def f_X8_positions (N : Nat) (s0 : Ob) : Option (Int32 × Ob) := (ob (f_X8_valueNow N (si s0 7 (0 : Int32))) fun x1 => (if x1.1 = (-8 : Int32) then (some ((-8 : Int32), x1.2)) else (some ((x1.2.1 22), x1.2))))
theorem m_X8_positions {g : Gp} {a0 : Nat} {r0 : Nat → Nat} {N : Nat} {s0 : Ob} {res : Int32 × Ob} (hg : Ok g) (h : f_X8_positions N s0 = some res) : Ct g yX8_positions cX8_positions 2 (some .int) (zrm 5 115) [.ref a0] (wX8 g a0 r0 s0) (exR (some (.int res.1)) (wX8 g a0 r0 res.2)) := by
  refine ct_of rfl hg (by show _ ≤ _; exact Nat.le_of_ble_eq_true rfl) (fun K C X => ?_)
  show Zs K 0 0 (wX8 g a0 r0 s0) [(0, .ref a0)] 0 []
  unfold f_X8_positions at h
  refine z_aload_n (pc := 0) (x := a0) C dX8_positions_0 (i := 0) rfl rfl ?_
  refine z_iconst (pc := 1) C dX8_positions_1 ic_0 ?_
  refine z_put (pc := 2) C 0 dX8_positions_2 fp_RX8_59 rfl rfl rfl (zlt_b rfl) (ws' := (wX8 g a0 r0 (si s0 7 (0 : Int32)))) rfl ?_
  refine z_aload_n (pc := 5) (x := a0) C dX8_positions_5 (i := 0) rfl rfl ?_
  replace h := ob_e h
  obtain ⟨x1, hx1, h⟩ := h
  refine z_callV (pc := 6) (As := []) (rest := []) (wr := ([] : va_W)) C dX8_positions_6 ml_RX8_397 wv_X8_valueNow (m_X8_valueNow (a0 := a0) (r0 := r0) hg hx1) [0, 1, 2, 3, 4, 5, 6, 7, 8, 9, 10, 11, 12, 13, 14] [] rfl rfl ⟨by decide, by decide⟩ (Nat.le_of_ble_eq_true rfl) ⟨by decide, by decide⟩ rfl rfl rfl rfl rfl rfl rfl (by decide) (ex_k C (cs' := 0) (ss' := 0) (wF := (wX8 g a0 r0 x1.2)) [0, 1, 2, 3, 4, 5, 6, 7, 8, 9, 10, 11, 12, 13, 14] rfl rfl ?_)
  refine z_istore_n (pc := 9) C dX8_positions_9 (i := 1) rfl (by decide) (lv' := [(1, .int x1.1), (0, .ref a0)]) rfl ?_
  refine z_iload_n (pc := 10) (x := x1.1) C dX8_positions_10 (i := 1) rfl rfl ?_
  refine z_bipush (pc := 11) C dX8_positions_11 bp_m8 ?_
  refine z_icmp_ne (pc := 13) C dX8_positions_13 (tgt := 21) (by decide) (fun hc => ?_) (fun hc => ?_)
  · replace h := (ite_e h).2 hc
    refine z_aload_n (pc := 21) (x := a0) C dX8_positions_21 (i := 0) rfl rfl ?_
    refine z_get (pc := 22) (v := .int (x1.2.1 22)) C 0 dX8_positions_22 fl_RX8_361 rfl rfl ?_
    exact z_iret C X dX8_positions_25 (by rw [← Option.some.inj h]; exact ⟨rfl, rfl⟩) (by decide) (by decide)
  · replace h := (ite_e h).1 hc
    refine z_bipush (pc := 16) C dX8_positions_16 bp_m8 ?_
    refine z_goto (pc := 18) C dX8_positions_18 (tgt := 25) (by decide) ?_
    exact z_iret C X dX8_positions_25 (by rw [← Option.some.inj h]; exact ⟨rfl, rfl⟩) (by decide) (by decide)
def f_X8_valueWith_119 (N : Nat) (p1 : Int32) (p2 : Int32)  (v4 : Int32) (t0 : Int32) (s0 : Ob) : Option (Int32 × Ob) := (if t0 = 0 then (some ((-7 : Int32), s0)) else (ob (f_X8_moves N s0 p1 v4) fun x6 => (ob (f_X8_searches N x6) fun x7 => (some (x7.1, x7.2)))))
theorem m_X8_valueWith_119 {K : Kt} {g : Gp} {a0 : Nat} {r0 : Nat → Nat} {N : Nat} {p1 : Int32} {p2 : Int32} {res : Int32 × Ob} (hg : Ok g) (C : Cx K g cX8_valueWith RX8 6 (zrm 4 95)) (X : Rx K (exR (some (.int res.1)) (wX8 g a0 r0 res.2)) 0 0 (some .int)) (v4 : Int32) (t0 : Int32) (s0 : Ob) (h : f_X8_valueWith_119 N p1 p2 v4 t0 s0 = some res) : Zs K 0 0 (wX8 g a0 r0 s0) [(0, .ref a0), (1, .int p1), (4, .int v4)] 119 [.int t0] := by
  unfold f_X8_valueWith_119 at h
  refine z_istore (pc := 119) C dX8_valueWith_119 (by decide) (lv' := [(5, .int t0), (0, .ref a0), (1, .int p1), (4, .int v4)]) rfl ?_
  refine z_iload (pc := 121) (x := t0) C dX8_valueWith_121 rfl ?_
  refine z_if_ne (pc := 123) C dX8_valueWith_123 (tgt := 129) (by decide) (fun hc => ?_) (fun hc => ?_)
  · replace h := (ite_e h).2 hc
    refine z_aload_n (pc := 129) (x := a0) C dX8_valueWith_129 (i := 0) rfl rfl ?_
    refine z_iload_n (pc := 130) (x := p1) C dX8_valueWith_130 (i := 1) rfl rfl ?_
    refine z_iload (pc := 131) (x := v4) C dX8_valueWith_131 rfl ?_
    replace h := ob_e h
    obtain ⟨x6, hx6, h⟩ := h
    refine z_callV (pc := 133) (As := [.int p1, .int v4]) (rest := []) (wr := ([] : va_W)) C dX8_valueWith_133 ml_RX8_375 wv_X8_moves (m_X8_moves (a0 := a0) (r0 := r0) hg hx6) [0, 1, 2, 3, 4, 5, 6, 7, 8, 9, 10, 11, 12, 13, 14] [] rfl rfl ⟨by decide, by decide⟩ (Nat.le_of_ble_eq_true rfl) ⟨by decide, by decide⟩ rfl rfl rfl rfl rfl rfl rfl (by decide) (ex_k C (cs' := 0) (ss' := 0) (wF := (wX8 g a0 r0 x6)) [0, 1, 2, 3, 4, 5, 6, 7, 8, 9, 10, 11, 12, 13, 14] rfl rfl ?_)
    refine z_aload_n (pc := 136) (x := a0) C dX8_valueWith_136 (i := 0) rfl rfl ?_
    replace h := ob_e h
    obtain ⟨x7, hx7, h⟩ := h
    refine z_callV (pc := 137) (As := []) (rest := []) (wr := ([] : va_W)) C dX8_valueWith_137 ml_RX8_394 wv_X8_searches (m_X8_searches (a0 := a0) (r0 := r0) hg hx7) [0, 1, 2, 3, 4, 5, 6, 7, 8, 9, 10, 11, 12, 13, 14] [] rfl rfl ⟨by decide, by decide⟩ (Nat.le_of_ble_eq_true rfl) ⟨by decide, by decide⟩ rfl rfl rfl rfl rfl rfl rfl (by decide) (ex_k C (cs' := 0) (ss' := 0) (wF := (wX8 g a0 r0 x7.2)) [0, 1, 2, 3, 4, 5, 6, 7, 8, 9, 10, 11, 12, 13, 14] rfl rfl ?_)
    exact z_iret C X dX8_valueWith_140 (by rw [← Option.some.inj h]; exact ⟨rfl, rfl⟩) (by decide) (by decide)
  · replace h := (ite_e h).1 hc
    refine z_bipush (pc := 126) C dX8_valueWith_126 bp_m7 ?_
    exact z_iret C X dX8_valueWith_128 (by rw [← Option.some.inj h]; exact ⟨rfl, rfl⟩) (by decide) (by decide)
def f_X8_valueWith_65 (N : Nat) (p1 : Int32) (p2 : Int32)  (v4 : Int32) (s0 : Ob) : Option (Int32 × Ob) := (f_X8_valueWith_119 N p1 p2 v4 (0 : Int32) s0)
theorem m_X8_valueWith_65 {K : Kt} {g : Gp} {a0 : Nat} {r0 : Nat → Nat} {N : Nat} {p1 : Int32} {p2 : Int32} {res : Int32 × Ob} (hg : Ok g) (C : Cx K g cX8_valueWith RX8 6 (zrm 4 95)) (X : Rx K (exR (some (.int res.1)) (wX8 g a0 r0 res.2)) 0 0 (some .int)) (v4 : Int32) (s0 : Ob) (h : f_X8_valueWith_65 N p1 p2 v4 s0 = some res) : Zs K 0 0 (wX8 g a0 r0 s0) [(0, .ref a0), (1, .int p1), (4, .int v4)] 65 [] := by
  unfold f_X8_valueWith_65 at h
  refine z_iconst (pc := 65) C dX8_valueWith_65 ic_0 ?_
  refine z_goto (pc := 66) C dX8_valueWith_66 (tgt := 119) (by decide) ?_
  exact m_X8_valueWith_119 (a0 := a0) (r0 := r0) hg C X v4 (0 : Int32) s0 h
def f_X8_valueWith_42 (N : Nat) (p1 : Int32) (p2 : Int32)  (v3 : Int32) (t0 : Int32) (s0 : Ob) : Option (Int32 × Ob) := (if p1 = 0 then (if v3 = 0 then (f_X8_valueWith_65 N p1 p2 t0 s0) else (ob (f_X8_canPlay N s0 t0) fun x8 => (if x8 = 0 then (f_X8_valueWith_65 N p1 p2 t0 s0) else (f_X8_valueWith_119 N p1 p2 t0 (1 : Int32) s0)))) else (if p1 = (1 : Int32) then (f_X8_valueWith_119 N p1 p2 t0 v3 s0) else (if p1 = (2 : Int32) then (if (s0.1 25) ≤ 0 then (f_X8_valueWith_119 N p1 p2 t0 (0 : Int32) s0) else (f_X8_valueWith_119 N p1 p2 t0 (1 : Int32) s0)) else (chk (inb ((187 : Int32) + (s0.1 27)) 358) (if ((s0.2.2.1 0) (((187 : Int32) + (s0.1 27))).toNatClampNeg) = 0 then (f_X8_valueWith_119 N p1 p2 t0 (1 : Int32) s0) else (f_X8_valueWith_119 N p1 p2 t0 (0 : Int32) s0))))))
theorem m_X8_valueWith_42 {K : Kt} {g : Gp} {a0 : Nat} {r0 : Nat → Nat} {N : Nat} {p1 : Int32} {p2 : Int32} {res : Int32 × Ob} (hg : Ok g) (C : Cx K g cX8_valueWith RX8 6 (zrm 4 95)) (X : Rx K (exR (some (.int res.1)) (wX8 g a0 r0 res.2)) 0 0 (some .int)) (v3 : Int32) (t0 : Int32) (s0 : Ob) (h : f_X8_valueWith_42 N p1 p2 v3 t0 s0 = some res) : Zs K 0 0 (wX8 g a0 r0 s0) [(0, .ref a0), (1, .int p1), (3, .int v3)] 42 [.int t0] := by
  unfold f_X8_valueWith_42 at h
  refine z_istore (pc := 42) C dX8_valueWith_42 (by decide) (lv' := [(4, .int t0), (0, .ref a0), (1, .int p1), (3, .int v3)]) rfl ?_
  refine z_iload_n (pc := 44) (x := p1) C dX8_valueWith_44 (i := 1) rfl rfl ?_
  refine z_if_ne (pc := 45) C dX8_valueWith_45 (tgt := 69) (by decide) (fun hc => ?_) (fun hc => ?_)
  · replace h := (ite_e h).2 hc
    refine z_iload_n (pc := 69) (x := p1) C dX8_valueWith_69 (i := 1) rfl rfl ?_
    refine z_iconst (pc := 70) C dX8_valueWith_70 ic_1 ?_
    refine z_icmp_ne (pc := 71) C dX8_valueWith_71 (tgt := 78) (by decide) (fun hc => ?_) (fun hc => ?_)
    · replace h := (ite_e h).2 hc
      refine z_iload_n (pc := 78) (x := p1) C dX8_valueWith_78 (i := 1) rfl rfl ?_
      refine z_iconst (pc := 79) C dX8_valueWith_79 ic_2 ?_
      refine z_icmp_ne (pc := 80) C dX8_valueWith_80 (tgt := 98) (by decide) (fun hc => ?_) (fun hc => ?_)
      · replace h := (ite_e h).2 hc
        refine z_aload_n (pc := 98) (x := a0) C dX8_valueWith_98 (i := 0) rfl rfl ?_
        refine z_get (pc := 99) (v := .ref (r0 0)) C 0 dX8_valueWith_99 fl_RX8_9 rfl rfl ?_
        refine z_sipush (pc := 102) C dX8_valueWith_102 sp_187 ?_
        refine z_aload_n (pc := 105) (x := a0) C dX8_valueWith_105 (i := 0) rfl rfl ?_
        refine z_get (pc := 106) (v := .int (s0.1 27)) C 0 dX8_valueWith_106 fl_RX8_343 rfl rfl ?_
        refine z_iadd (pc := 109) C dX8_valueWith_109 ?_
        replace h := chk_e h
        obtain ⟨hb5, h⟩ := h
        refine z_iald (pc := 110) C 1 dX8_valueWith_110 rfl hb5 ?_
        refine z_if_ne (pc := 111) C dX8_valueWith_111 (tgt := 118) (by decide) (fun hc => ?_) (fun hc => ?_)
        · replace h := (ite_e h).2 hc
          refine z_iconst (pc := 118) C dX8_valueWith_118 ic_0 ?_
          refine z_lv (lv' := [(0, .ref a0), (1, .int p1), (4, .int t0)]) [1, 2, 0] rfl ?_
          exact m_X8_valueWith_119 (a0 := a0) (r0 := r0) hg C X t0 (0 : Int32) s0 h
        · replace h := (ite_e h).1 hc
          refine z_iconst (pc := 114) C dX8_valueWith_114 ic_1 ?_
          refine z_goto (pc := 115) C dX8_valueWith_115 (tgt := 119) (by decide) ?_
          refine z_lv (lv' := [(0, .ref a0), (1, .int p1), (4, .int t0)]) [1, 2, 0] rfl ?_
          exact m_X8_valueWith_119 (a0 := a0) (r0 := r0) hg C X t0 (1 : Int32) s0 h
      · replace h := (ite_e h).1 hc
        refine z_aload_n (pc := 83) (x := a0) C dX8_valueWith_83 (i := 0) rfl rfl ?_
        refine z_get (pc := 84) (v := .int (s0.1 25)) C 0 dX8_valueWith_84 fl_RX8_349 rfl rfl ?_
        refine z_if_le (pc := 87) C dX8_valueWith_87 (tgt := 94) (by decide) (fun hc => ?_) (fun hc => ?_)
        · replace h := (ite_e h).1 hc
          refine z_iconst (pc := 94) C dX8_valueWith_94 ic_0 ?_
          refine z_goto (pc := 95) C dX8_valueWith_95 (tgt := 119) (by decide) ?_
          refine z_lv (lv' := [(0, .ref a0), (1, .int p1), (4, .int t0)]) [1, 2, 0] rfl ?_
          exact m_X8_valueWith_119 (a0 := a0) (r0 := r0) hg C X t0 (0 : Int32) s0 h
        · replace h := (ite_e h).2 hc
          refine z_iconst (pc := 90) C dX8_valueWith_90 ic_1 ?_
          refine z_goto (pc := 91) C dX8_valueWith_91 (tgt := 119) (by decide) ?_
          refine z_lv (lv' := [(0, .ref a0), (1, .int p1), (4, .int t0)]) [1, 2, 0] rfl ?_
          exact m_X8_valueWith_119 (a0 := a0) (r0 := r0) hg C X t0 (1 : Int32) s0 h
    · replace h := (ite_e h).1 hc
      refine z_iload_n (pc := 74) (x := v3) C dX8_valueWith_74 (i := 3) rfl rfl ?_
      refine z_goto (pc := 75) C dX8_valueWith_75 (tgt := 119) (by decide) ?_
      refine z_lv (lv' := [(0, .ref a0), (1, .int p1), (4, .int t0)]) [1, 2, 0] rfl ?_
      exact m_X8_valueWith_119 (a0 := a0) (r0 := r0) hg C X t0 v3 s0 h
  · replace h := (ite_e h).1 hc
    refine z_iload_n (pc := 48) (x := v3) C dX8_valueWith_48 (i := 3) rfl rfl ?_
    refine z_if_eq (pc := 49) C dX8_valueWith_49 (tgt := 65) (by decide) (fun hc => ?_) (fun hc => ?_)
    · replace h := (ite_e h).1 hc
      refine z_lv (lv' := [(0, .ref a0), (1, .int p1), (4, .int t0)]) [1, 2, 0] rfl ?_
      exact m_X8_valueWith_65 (a0 := a0) (r0 := r0) hg C X t0 s0 h
    · replace h := (ite_e h).2 hc
      refine z_aload_n (pc := 52) (x := a0) C dX8_valueWith_52 (i := 0) rfl rfl ?_
      refine z_iload (pc := 53) (x := t0) C dX8_valueWith_53 rfl ?_
      replace h := ob_e h
      obtain ⟨x8, hx8, h⟩ := h
      refine z_callV (pc := 55) (As := [.int t0]) (rest := []) (wr := ([] : va_W)) C dX8_valueWith_55 ml_RX8_372 wv_X8_canPlay (m_X8_canPlay (a0 := a0) (r0 := r0) hg hx8) [0, 1, 2, 3, 4, 5, 6, 7, 8, 9, 10, 11, 12, 13, 14] [] rfl rfl ⟨by decide, by decide⟩ (Nat.le_of_ble_eq_true rfl) ⟨by decide, by decide⟩ rfl rfl rfl rfl rfl rfl rfl (by decide) (ex_k C (cs' := 0) (ss' := 0) (wF := (wX8 g a0 r0 s0)) [0, 1, 2, 3, 4, 5, 6, 7, 8, 9, 10, 11, 12, 13, 14] rfl rfl ?_)
      refine z_if_eq (pc := 58) C dX8_valueWith_58 (tgt := 65) (by decide) (fun hc => ?_) (fun hc => ?_)
      · replace h := (ite_e h).1 hc
        refine z_lv (lv' := [(0, .ref a0), (1, .int p1), (4, .int t0)]) [1, 2, 0] rfl ?_
        exact m_X8_valueWith_65 (a0 := a0) (r0 := r0) hg C X t0 s0 h
      · replace h := (ite_e h).2 hc
        refine z_iconst (pc := 61) C dX8_valueWith_61 ic_1 ?_
        refine z_goto (pc := 62) C dX8_valueWith_62 (tgt := 119) (by decide) ?_
        refine z_lv (lv' := [(0, .ref a0), (1, .int p1), (4, .int t0)]) [1, 2, 0] rfl ?_
        exact m_X8_valueWith_119 (a0 := a0) (r0 := r0) hg C X t0 (1 : Int32) s0 h
def f_X8_valueWith (N : Nat) (s0 : Ob) (p1 : Int32) (p2 : Int32) : Option (Int32 × Ob) := (ob (f_X8_makesPresent N s0) fun x1 => (chk (inb ((187 : Int32) + (x1.1 27)) 358) (znm (((x1.2.2.1 0) (((187 : Int32) + (x1.1 27))).toNatClampNeg) - (1 : Int32)) fun x3 => (ob (f_X8_in N p2 (0 : Int32) x3) fun x4 => (if x4 = 0 then (f_X8_valueWith_42 N p1 p2 x4 (-1 : Int32) x1) else (ob (f_X8_held N x1 (x1.1 27) p2) fun x9 => (f_X8_valueWith_42 N p1 p2 x4 x9 x1)))))))
theorem m_X8_valueWith {g : Gp} {a0 : Nat} {r0 : Nat → Nat} {N : Nat} {s0 : Ob} {p1 : Int32} {p2 : Int32} {res : Int32 × Ob} (hg : Ok g) (h : f_X8_valueWith N s0 p1 p2 = some res) : Ct g yX8_valueWith cX8_valueWith 6 (some .int) (zrm 4 95) [.ref a0, .int p1, .int p2] (wX8 g a0 r0 s0) (exR (some (.int res.1)) (wX8 g a0 r0 res.2)) := by
  refine ct_of rfl hg (by show _ ≤ _; exact Nat.le_of_ble_eq_true rfl) (fun K C X => ?_)
  show Zs K 0 0 (wX8 g a0 r0 s0) [(0, .ref a0), (1, .int p1), (2, .int p2)] 0 []
  unfold f_X8_valueWith at h
  refine z_aload_n (pc := 0) (x := a0) C dX8_valueWith_0 (i := 0) rfl rfl ?_
  replace h := ob_e h
  obtain ⟨x1, hx1, h⟩ := h
  refine z_callV (pc := 1) (As := []) (rest := []) (wr := ([] : va_W)) C dX8_valueWith_1 ml_RX8_391 wv_X8_makesPresent (m_X8_makesPresent (a0 := a0) (r0 := r0) hg hx1) [0, 1, 2, 3, 4, 5, 6, 7, 8, 9, 10, 11, 12, 13, 14] [] rfl rfl ⟨by decide, by decide⟩ (Nat.le_of_ble_eq_true rfl) ⟨by decide, by decide⟩ rfl rfl rfl rfl rfl rfl rfl (by decide) (ex_k C (cs' := 0) (ss' := 0) (wF := (wX8 g a0 r0 x1)) [0, 1, 2, 3, 4, 5, 6, 7, 8, 9, 10, 11, 12, 13, 14] rfl rfl ?_)
  refine z_iload_n (pc := 4) (x := p2) C dX8_valueWith_4 (i := 2) rfl rfl ?_
  refine z_iconst (pc := 5) C dX8_valueWith_5 ic_0 ?_
  refine z_aload_n (pc := 6) (x := a0) C dX8_valueWith_6 (i := 0) rfl rfl ?_
  refine z_get (pc := 7) (v := .ref (r0 0)) C 0 dX8_valueWith_7 fl_RX8_9 rfl rfl ?_
  refine z_sipush (pc := 10) C dX8_valueWith_10 sp_187 ?_
  refine z_aload_n (pc := 13) (x := a0) C dX8_valueWith_13 (i := 0) rfl rfl ?_
  refine z_get (pc := 14) (v := .int (x1.1 27)) C 0 dX8_valueWith_14 fl_RX8_343 rfl rfl ?_
  refine z_iadd (pc := 17) C dX8_valueWith_17 ?_
  replace h := chk_e h
  obtain ⟨hb2, h⟩ := h
  refine z_iald (pc := 18) C 1 dX8_valueWith_18 rfl hb2 ?_
  refine z_iconst (pc := 19) C dX8_valueWith_19 ic_1 ?_
  refine z_isub (pc := 20) C dX8_valueWith_20 ?_
  replace h := znm_e h
  obtain ⟨x3, hx3, h⟩ := h
  refine z_top1 hx3 ?_
  replace h := ob_e h
  obtain ⟨x4, hx4, h⟩ := h
  refine z_callS (pc := 21) (As := [.int p2, .int (0 : Int32), .int x3]) (rest := []) (wr := (wX8 g a0 r0 x1)) C dX8_valueWith_21 ml_RX8_62 wt_X8_in (m_X8_in hg hx4) [] [0, 1, 2, 3, 4, 5, 6, 7, 8, 9, 10, 11, 12, 13, 14] rfl rfl ⟨by decide, by decide⟩ (Nat.le_of_ble_eq_true rfl) ⟨by decide, by decide⟩ rfl rfl rfl rfl (by decide) (ex_k C (cs' := 0) (ss' := 0) (wF := (wX8 g a0 r0 x1)) [0, 1, 2, 3, 4, 5, 6, 7, 8, 9, 10, 11, 12, 13, 14] rfl rfl ?_)
  refine z_istore_n (pc := 24) C dX8_valueWith_24 (i := 3) rfl (by decide) (lv' := [(3, .int x4), (0, .ref a0), (1, .int p1), (2, .int p2)]) rfl ?_
  refine z_iload_n (pc := 25) (x := x4) C dX8_valueWith_25 (i := 3) rfl rfl ?_
  refine z_if_eq (pc := 26) C dX8_valueWith_26 (tgt := 41) (by decide) (fun hc => ?_) (fun hc => ?_)
  · replace h := (ite_e h).1 hc
    refine z_iconst (pc := 41) C dX8_valueWith_41 ic_m1 ?_
    refine z_lv (lv' := [(0, .ref a0), (1, .int p1), (3, .int x4)]) [1, 2, 0] rfl ?_
    exact m_X8_valueWith_42 (a0 := a0) (r0 := r0) hg C X x4 (-1 : Int32) x1 h
  · replace h := (ite_e h).2 hc
    refine z_aload_n (pc := 29) (x := a0) C dX8_valueWith_29 (i := 0) rfl rfl ?_
    refine z_aload_n (pc := 30) (x := a0) C dX8_valueWith_30 (i := 0) rfl rfl ?_
    refine z_get (pc := 31) (v := .int (x1.1 27)) C 0 dX8_valueWith_31 fl_RX8_343 rfl rfl ?_
    refine z_iload_n (pc := 34) (x := p2) C dX8_valueWith_34 (i := 2) rfl rfl ?_
    replace h := ob_e h
    obtain ⟨x9, hx9, h⟩ := h
    refine z_callV (pc := 35) (As := [.int (x1.1 27), .int p2]) (rest := []) (wr := ([] : va_W)) C dX8_valueWith_35 ml_RX8_217 wv_X8_held (m_X8_held (a0 := a0) (r0 := r0) hg hx9) [0, 1, 2, 3, 4, 5, 6, 7, 8, 9, 10, 11, 12, 13, 14] [] rfl rfl ⟨by decide, by decide⟩ (Nat.le_of_ble_eq_true rfl) ⟨by decide, by decide⟩ rfl rfl rfl rfl rfl rfl rfl (by decide) (ex_k C (cs' := 0) (ss' := 0) (wF := (wX8 g a0 r0 x1)) [0, 1, 2, 3, 4, 5, 6, 7, 8, 9, 10, 11, 12, 13, 14] rfl rfl ?_)
    refine z_goto (pc := 38) C dX8_valueWith_38 (tgt := 42) (by decide) ?_
    refine z_lv (lv' := [(0, .ref a0), (1, .int p1), (3, .int x4)]) [1, 2, 0] rfl ?_
    exact m_X8_valueWith_42 (a0 := a0) (r0 := r0) hg C X x4 x9 x1 h
def f_X8_valueBehind (N : Nat) (s0 : Ob) (p1 : Int32) (p2 : Int32) : Option (Int32 × Ob) := (ob (f_X8_in N p1 (0 : Int32) (3 : Int32)) fun x1 => (ob (f_X8_isThrown N s0 x1 (1 : Int32)) fun x2 => (if x2.1 = 0 then (ob (f_X8_isOver N x2.2) fun x3 => (if x3 = 0 then (ob (f_X8_valueWith N x2.2 p1 p2) fun x4 => (some (x4.1, x4.2))) else (some ((-3 : Int32), x2.2)))) else (some ((0 : Int32), x2.2)))))
theorem m_X8_valueBehind {g : Gp} {a0 : Nat} {r0 : Nat → Nat} {N : Nat} {s0 : Ob} {p1 : Int32} {p2 : Int32} {res : Int32 × Ob} (hg : Ok g) (h : f_X8_valueBehind N s0 p1 p2 = some res) : Ct g yX8_valueBehind cX8_valueBehind 3 (some .int) (zrm 5 120) [.ref a0, .int p1, .int p2] (wX8 g a0 r0 s0) (exR (some (.int res.1)) (wX8 g a0 r0 res.2)) := by
  refine ct_of rfl hg (by show _ ≤ _; exact Nat.le_of_ble_eq_true rfl) (fun K C X => ?_)
  show Zs K 0 0 (wX8 g a0 r0 s0) [(0, .ref a0), (1, .int p1), (2, .int p2)] 0 []
  unfold f_X8_valueBehind at h
  refine z_aload_n (pc := 0) (x := a0) C dX8_valueBehind_0 (i := 0) rfl rfl ?_
  refine z_iload_n (pc := 1) (x := p1) C dX8_valueBehind_1 (i := 1) rfl rfl ?_
  refine z_iconst (pc := 2) C dX8_valueBehind_2 ic_0 ?_
  refine z_iconst (pc := 3) C dX8_valueBehind_3 ic_3 ?_
  replace h := ob_e h
  obtain ⟨x1, hx1, h⟩ := h
  refine z_callS (pc := 4) (As := [.int p1, .int (0 : Int32), .int (3 : Int32)]) (rest := [.ref a0]) (wr := (wX8 g a0 r0 s0)) C dX8_valueBehind_4 ml_RX8_62 wt_X8_in (m_X8_in hg hx1) [] [0, 1, 2, 3, 4, 5, 6, 7, 8, 9, 10, 11, 12, 13, 14] rfl rfl ⟨by decide, by decide⟩ (Nat.le_of_ble_eq_true rfl) ⟨by decide, by decide⟩ rfl rfl rfl rfl (by decide) (ex_k C (cs' := 0) (ss' := 0) (wF := (wX8 g a0 r0 s0)) [0, 1, 2, 3, 4, 5, 6, 7, 8, 9, 10, 11, 12, 13, 14] rfl rfl ?_)
  refine z_iconst (pc := 7) C dX8_valueBehind_7 ic_1 ?_
  replace h := ob_e h
  obtain ⟨x2, hx2, h⟩ := h
  refine z_callV (pc := 8) (As := [.int x1, .int (1 : Int32)]) (rest := []) (wr := ([] : va_W)) C dX8_valueBehind_8 ml_RX8_206 wv_X8_isThrown (m_X8_isThrown (a0 := a0) (r0 := r0) hg hx2) [0, 1, 2, 3, 4, 5, 6, 7, 8, 9, 10, 11, 12, 13, 14] [] rfl rfl ⟨by decide, by decide⟩ (Nat.le_of_ble_eq_true rfl) ⟨by decide, by decide⟩ rfl rfl rfl rfl rfl rfl rfl (by decide) (ex_k C (cs' := 0) (ss' := 0) (wF := (wX8 g a0 r0 x2.2)) [0, 1, 2, 3, 4, 5, 6, 7, 8, 9, 10, 11, 12, 13, 14] rfl rfl ?_)
  refine z_if_eq (pc := 11) C dX8_valueBehind_11 (tgt := 16) (by decide) (fun hc => ?_) (fun hc => ?_)
  · replace h := (ite_e h).1 hc
    refine z_aload_n (pc := 16) (x := a0) C dX8_valueBehind_16 (i := 0) rfl rfl ?_
    replace h := ob_e h
    obtain ⟨x3, hx3, h⟩ := h
    refine z_callV (pc := 17) (As := []) (rest := []) (wr := ([] : va_W)) C dX8_valueBehind_17 ml_RX8_299 wv_X8_isOver (m_X8_isOver (a0 := a0) (r0 := r0) hg hx3) [0, 1, 2, 3, 4, 5, 6, 7, 8, 9, 10, 11, 12, 13, 14] [] rfl rfl ⟨by decide, by decide⟩ (Nat.le_of_ble_eq_true rfl) ⟨by decide, by decide⟩ rfl rfl rfl rfl rfl rfl rfl (by decide) (ex_k C (cs' := 0) (ss' := 0) (wF := (wX8 g a0 r0 x2.2)) [0, 1, 2, 3, 4, 5, 6, 7, 8, 9, 10, 11, 12, 13, 14] rfl rfl ?_)
    refine z_if_eq (pc := 20) C dX8_valueBehind_20 (tgt := 28) (by decide) (fun hc => ?_) (fun hc => ?_)
    · replace h := (ite_e h).1 hc
      refine z_aload_n (pc := 28) (x := a0) C dX8_valueBehind_28 (i := 0) rfl rfl ?_
      refine z_iload_n (pc := 29) (x := p1) C dX8_valueBehind_29 (i := 1) rfl rfl ?_
      refine z_iload_n (pc := 30) (x := p2) C dX8_valueBehind_30 (i := 2) rfl rfl ?_
      replace h := ob_e h
      obtain ⟨x4, hx4, h⟩ := h
      refine z_callV (pc := 31) (As := [.int p1, .int p2]) (rest := []) (wr := ([] : va_W)) C dX8_valueBehind_31 ml_RX8_400 wv_X8_valueWith (m_X8_valueWith (a0 := a0) (r0 := r0) hg hx4) [0, 1, 2, 3, 4, 5, 6, 7, 8, 9, 10, 11, 12, 13, 14] [] rfl rfl ⟨by decide, by decide⟩ (Nat.le_of_ble_eq_true rfl) ⟨by decide, by decide⟩ rfl rfl rfl rfl rfl rfl rfl (by decide) (ex_k C (cs' := 0) (ss' := 0) (wF := (wX8 g a0 r0 x4.2)) [0, 1, 2, 3, 4, 5, 6, 7, 8, 9, 10, 11, 12, 13, 14] rfl rfl ?_)
      exact z_iret C X dX8_valueBehind_34 (by rw [← Option.some.inj h]; exact ⟨rfl, rfl⟩) (by decide) (by decide)
    · replace h := (ite_e h).2 hc
      refine z_bipush (pc := 23) C dX8_valueBehind_23 bp_m3 ?_
      refine z_goto (pc := 25) C dX8_valueBehind_25 (tgt := 34) (by decide) ?_
      exact z_iret C X dX8_valueBehind_34 (by rw [← Option.some.inj h]; exact ⟨rfl, rfl⟩) (by decide) (by decide)
  · replace h := (ite_e h).2 hc
    refine z_iconst (pc := 14) C dX8_valueBehind_14 ic_0 ?_
    exact z_iret C X dX8_valueBehind_15 (by rw [← Option.some.inj h]; exact ⟨rfl, rfl⟩) (by decide) (by decide)
def F_X8_bestMove_77 (N : Nat) (p1 : Int32) (k42 : Int32 → Int32 → Ob → Option (Int32 × Ob)) (k77 : Int32 → Int32 → Int32 → Int32 → Ob → Option (Int32 × Ob)) (v2 : Int32) (v3 : Int32) (v4 : Int32) (v5 : Int32) (s0 : Ob) : Option (Int32 × Ob) := (if v4 ≤ v5 then (k42 v2 (v3 + (1 : Int32)) s0) else (ob (f_X8_valueWith N s0 v3 v5) fun x5 => (if x5.1 = v2 then (if p1 = 0 then (some (v3, x5.2)) else (if (2 : Int32) ≤ v3 then (some ((-1 : Int32), x5.2)) else (some (v5, x5.2)))) else (k77 v2 v3 v4 (v5 + (1 : Int32)) x5.2))))
def f_X8_bestMove_77 (N : Nat) (p1 : Int32) (k42 : Int32 → Int32 → Ob → Option (Int32 × Ob)) : Nat → Int32 → Int32 → Int32 → Int32 → Ob → Option (Int32 × Ob) := zlp (fun _ _ _ _ _ => none) (F_X8_bestMove_77 N p1 k42)
theorem m_X8_bestMove_77 {K : Kt} {g : Gp} {a0 : Nat} {r0 : Nat → Nat} {N : Nat} {p1 : Int32} {res : Int32 × Ob} (hg : Ok g) (C : Cx K g cX8_bestMove RX8 6 (zrm 5 120)) (X : Rx K (exR (some (.int res.1)) (wX8 g a0 r0 res.2)) 0 0 (some .int)) {k42 : Int32 → Int32 → Ob → Option (Int32 × Ob)} (hk42 : ∀ (v2 : Int32) (v3 : Int32) (s0 : Ob), k42 v2 v3 s0 = some res → Zs K 0 0 (wX8 g a0 r0 s0) [(0, .ref a0), (1, .int p1), (2, .int v2), (3, .int v3)] 42 []) : ∀ (n : Nat) (v2 : Int32) (v3 : Int32) (v4 : Int32) (v5 : Int32) (s0 : Ob), f_X8_bestMove_77 N p1 k42 n v2 v3 v4 v5 s0 = some res → Zs K 0 0 (wX8 g a0 r0 s0) [(0, .ref a0), (1, .int p1), (2, .int v2), (3, .int v3), (4, .int v4), (5, .int v5)] 77 [] := by
  intro n
  induction n with
  | zero => intro v2 v3 v4 v5 s0 h; exact nomatch (show (none : Option (Int32 × Ob)) = some res from h)
  | succ n hk77 =>
    intro v2 v3 v4 v5 s0 h
    replace h : F_X8_bestMove_77 N p1 k42 (f_X8_bestMove_77 N p1 k42 n) v2 v3 v4 v5 s0 = some res := h
    unfold F_X8_bestMove_77 at h
    refine z_iload (pc := 77) (x := v5) C dX8_bestMove_77 rfl ?_
    refine z_iload (pc := 79) (x := v4) C dX8_bestMove_79 rfl ?_
    refine z_icmp_ge (pc := 81) C dX8_bestMove_81 (tgt := 121) (by decide) (fun hc => ?_) (fun hc => ?_)
    · replace h := (ite_e h).1 hc
      refine z_iinc (pc := 121) C dX8_bestMove_121 rfl (inc_e 1 (1 : Int32) ic_1 v3) (by decide) (lv' := [(3, .int (v3 + (1 : Int32))), (0, .ref a0), (1, .int p1), (2, .int v2), (4, .int v4), (5, .int v5)]) rfl ?_
      refine z_goto (pc := 124) C dX8_bestMove_124 (tgt := 42) (by decide) ?_
      refine z_lv (lv' := [(0, .ref a0), (1, .int p1), (2, .int v2), (3, .int (v3 + (1 : Int32)))]) [1, 2, 3, 0] rfl ?_
      exact hk42 v2 (v3 + (1 : Int32)) s0 h
    · replace h := (ite_e h).2 hc
      refine z_aload_n (pc := 84) (x := a0) C dX8_bestMove_84 (i := 0) rfl rfl ?_
      refine z_iload_n (pc := 85) (x := v3) C dX8_bestMove_85 (i := 3) rfl rfl ?_
      refine z_iload (pc := 86) (x := v5) C dX8_bestMove_86 rfl ?_
      replace h := ob_e h
      obtain ⟨x5, hx5, h⟩ := h
      refine z_callV (pc := 88) (As := [.int v3, .int v5]) (rest := []) (wr := ([] : va_W)) C dX8_bestMove_88 ml_RX8_400 wv_X8_valueWith (m_X8_valueWith (a0 := a0) (r0 := r0) hg hx5) [0, 1, 2, 3, 4, 5, 6, 7, 8, 9, 10, 11, 12, 13, 14] [] rfl rfl ⟨by decide, by decide⟩ (Nat.le_of_ble_eq_true rfl) ⟨by decide, by decide⟩ rfl rfl rfl rfl rfl rfl rfl (by decide) (ex_k C (cs' := 0) (ss' := 0) (wF := (wX8 g a0 r0 x5.2)) [0, 1, 2, 3, 4, 5, 6, 7, 8, 9, 10, 11, 12, 13, 14] rfl rfl ?_)
      refine z_iload_n (pc := 91) (x := v2) C dX8_bestMove_91 (i := 2) rfl rfl ?_
      refine z_icmp_ne (pc := 92) C dX8_bestMove_92 (tgt := 115) (by decide) (fun hc => ?_) (fun hc => ?_)
      · replace h := (ite_e h).2 hc
        refine z_iinc (pc := 115) C dX8_bestMove_115 rfl (inc_e 1 (1 : Int32) ic_1 v5) (by decide) (lv' := [(5, .int (v5 + (1 : Int32))), (0, .ref a0), (1, .int p1), (2, .int v2), (3, .int v3), (4, .int v4)]) rfl ?_
        refine z_goto (pc := 118) C dX8_bestMove_118 (tgt := 77) (by decide) ?_
        refine z_lv (lv' := [(0, .ref a0), (1, .int p1), (2, .int v2), (3, .int v3), (4, .int v4), (5, .int (v5 + (1 : Int32)))]) [1, 2, 3, 4, 5, 0] rfl ?_
        exact hk77 v2 v3 v4 (v5 + (1 : Int32)) x5.2 h
      · replace h := (ite_e h).1 hc
        refine z_iload_n (pc := 95) (x := p1) C dX8_bestMove_95 (i := 1) rfl rfl ?_
        refine z_if_ne (pc := 96) C dX8_bestMove_96 (tgt := 103) (by decide) (fun hc => ?_) (fun hc => ?_)
        · replace h := (ite_e h).2 hc
          refine z_iload_n (pc := 103) (x := v3) C dX8_bestMove_103 (i := 3) rfl rfl ?_
          refine z_iconst (pc := 104) C dX8_bestMove_104 ic_2 ?_
          refine z_icmp_ge (pc := 105) C dX8_bestMove_105 (tgt := 113) (by decide) (fun hc => ?_) (fun hc => ?_)
          · replace h := (ite_e h).1 hc
            refine z_iconst (pc := 113) C dX8_bestMove_113 ic_m1 ?_
            exact z_iret C X dX8_bestMove_114 (by rw [← Option.some.inj h]; exact ⟨rfl, rfl⟩) (by decide) (by decide)
          · replace h := (ite_e h).2 hc
            refine z_iload (pc := 108) (x := v5) C dX8_bestMove_108 rfl ?_
            refine z_goto (pc := 110) C dX8_bestMove_110 (tgt := 114) (by decide) ?_
            exact z_iret C X dX8_bestMove_114 (by rw [← Option.some.inj h]; exact ⟨rfl, rfl⟩) (by decide) (by decide)
        · replace h := (ite_e h).1 hc
          refine z_iload_n (pc := 99) (x := v3) C dX8_bestMove_99 (i := 3) rfl rfl ?_
          refine z_goto (pc := 100) C dX8_bestMove_100 (tgt := 114) (by decide) ?_
          exact z_iret C X dX8_bestMove_114 (by rw [← Option.some.inj h]; exact ⟨rfl, rfl⟩) (by decide) (by decide)
def F_X8_bestMove_42 (N : Nat) (p1 : Int32)  (k42 : Int32 → Int32 → Ob → Option (Int32 × Ob)) (v2 : Int32) (v3 : Int32) (s0 : Ob) : Option (Int32 × Ob) := (if (3 : Int32) < v3 then (some ((-1 : Int32), s0)) else (if (2 : Int32) ≤ v3 then (f_X8_bestMove_77 N p1 k42 N v2 v3 (1 : Int32) (0 : Int32) s0) else (chk (inb ((187 : Int32) + ((s0.2.2.1 0) 10)) 358) (f_X8_bestMove_77 N p1 k42 N v2 v3 ((s0.2.2.1 0) (((187 : Int32) + ((s0.2.2.1 0) 10))).toNatClampNeg) (0 : Int32) s0))))
def f_X8_bestMove_42 (N : Nat) (p1 : Int32)  : Nat → Int32 → Int32 → Ob → Option (Int32 × Ob) := zlp (fun _ _ _ => none) (F_X8_bestMove_42 N p1)
theorem m_X8_bestMove_42 {K : Kt} {g : Gp} {a0 : Nat} {r0 : Nat → Nat} {N : Nat} {p1 : Int32} {res : Int32 × Ob} (hg : Ok g) (C : Cx K g cX8_bestMove RX8 6 (zrm 5 120)) (X : Rx K (exR (some (.int res.1)) (wX8 g a0 r0 res.2)) 0 0 (some .int)) : ∀ (n : Nat) (v2 : Int32) (v3 : Int32) (s0 : Ob), f_X8_bestMove_42 N p1 n v2 v3 s0 = some res → Zs K 0 0 (wX8 g a0 r0 s0) [(0, .ref a0), (1, .int p1), (2, .int v2), (3, .int v3)] 42 [] := by
  intro n
  induction n with
  | zero => intro v2 v3 s0 h; exact nomatch (show (none : Option (Int32 × Ob)) = some res from h)
  | succ n hk42 =>
    intro v2 v3 s0 h
    replace h : F_X8_bestMove_42 N p1 (f_X8_bestMove_42 N p1 n) v2 v3 s0 = some res := h
    unfold F_X8_bestMove_42 at h
    refine z_iload_n (pc := 42) (x := v3) C dX8_bestMove_42 (i := 3) rfl rfl ?_
    refine z_iconst (pc := 43) C dX8_bestMove_43 ic_3 ?_
    refine z_icmp_gt (pc := 44) C dX8_bestMove_44 (tgt := 127) (by decide) (fun hc => ?_) (fun hc => ?_)
    · replace h := (ite_e h).1 hc
      refine z_iconst (pc := 127) C dX8_bestMove_127 ic_m1 ?_
      exact z_iret C X dX8_bestMove_128 (by rw [← Option.some.inj h]; exact ⟨rfl, rfl⟩) (by decide) (by decide)
    · replace h := (ite_e h).2 hc
      refine z_iload_n (pc := 47) (x := v3) C dX8_bestMove_47 (i := 3) rfl rfl ?_
      refine z_iconst (pc := 48) C dX8_bestMove_48 ic_2 ?_
      refine z_icmp_ge (pc := 49) C dX8_bestMove_49 (tgt := 71) (by decide) (fun hc => ?_) (fun hc => ?_)
      · replace h := (ite_e h).1 hc
        refine z_iconst (pc := 71) C dX8_bestMove_71 ic_1 ?_
        refine z_istore (pc := 72) C dX8_bestMove_72 (by decide) (lv' := [(4, .int (1 : Int32)), (0, .ref a0), (1, .int p1), (2, .int v2), (3, .int v3)]) rfl ?_
        refine z_iconst (pc := 74) C dX8_bestMove_74 ic_0 ?_
        refine z_istore (pc := 75) C dX8_bestMove_75 (by decide) (lv' := [(5, .int (0 : Int32)), (4, .int (1 : Int32)), (0, .ref a0), (1, .int p1), (2, .int v2), (3, .int v3)]) rfl ?_
        refine z_lv (lv' := [(0, .ref a0), (1, .int p1), (2, .int v2), (3, .int v3), (4, .int (1 : Int32)), (5, .int (0 : Int32))]) [2, 3, 4, 5, 1, 0] rfl ?_
        exact m_X8_bestMove_77 (a0 := a0) (r0 := r0) hg C X hk42 N v2 v3 (1 : Int32) (0 : Int32) s0 h
      · replace h := (ite_e h).2 hc
        refine z_aload_n (pc := 52) (x := a0) C dX8_bestMove_52 (i := 0) rfl rfl ?_
        refine z_get (pc := 53) (v := .ref (r0 0)) C 0 dX8_bestMove_53 fl_RX8_9 rfl rfl ?_
        refine z_sipush (pc := 56) C dX8_bestMove_56 sp_187 ?_
        refine z_aload_n (pc := 59) (x := a0) C dX8_bestMove_59 (i := 0) rfl rfl ?_
        refine z_get (pc := 60) (v := .ref (r0 0)) C 0 dX8_bestMove_60 fl_RX8_9 rfl rfl ?_
        refine z_bipush (pc := 63) C dX8_bestMove_63 bp_10 ?_
        refine z_iald (pc := 65) C 1 dX8_bestMove_65 rfl (by decide) ?_
        refine z_top1 (v := ((s0.2.2.1 0) 10)) rfl ?_
        refine z_iadd (pc := 66) C dX8_bestMove_66 ?_
        replace h := chk_e h
        obtain ⟨hb6, h⟩ := h
        refine z_iald (pc := 67) C 1 dX8_bestMove_67 rfl hb6 ?_
        refine z_goto (pc := 68) C dX8_bestMove_68 (tgt := 72) (by decide) ?_
        refine z_istore (pc := 72) C dX8_bestMove_72 (by decide) (lv' := [(4, .int ((s0.2.2.1 0) (((187 : Int32) + ((s0.2.2.1 0) 10))).toNatClampNeg)), (0, .ref a0), (1, .int p1), (2, .int v2), (3, .int v3)]) rfl ?_
        refine z_iconst (pc := 74) C dX8_bestMove_74 ic_0 ?_
        refine z_istore (pc := 75) C dX8_bestMove_75 (by decide) (lv' := [(5, .int (0 : Int32)), (4, .int ((s0.2.2.1 0) (((187 : Int32) + ((s0.2.2.1 0) 10))).toNatClampNeg)), (0, .ref a0), (1, .int p1), (2, .int v2), (3, .int v3)]) rfl ?_
        refine z_lv (lv' := [(0, .ref a0), (1, .int p1), (2, .int v2), (3, .int v3), (4, .int ((s0.2.2.1 0) (((187 : Int32) + ((s0.2.2.1 0) 10))).toNatClampNeg)), (5, .int (0 : Int32))]) [2, 3, 4, 5, 1, 0] rfl ?_
        exact m_X8_bestMove_77 (a0 := a0) (r0 := r0) hg C X hk42 N v2 v3 ((s0.2.2.1 0) (((187 : Int32) + ((s0.2.2.1 0) 10))).toNatClampNeg) (0 : Int32) s0 h
def f_X8_bestMove (N : Nat) (s0 : Ob) (p1 : Int32) : Option (Int32 × Ob) := (ob (f_X8_in N p1 (0 : Int32) (1 : Int32)) fun x1 => (ob (f_X8_isThrown N s0 x1 (1 : Int32)) fun x2 => (if x2.1 = 0 then (ob (f_X8_isOver N x2.2) fun x3 => (if x3 = 0 then (ob (f_X8_valueNow N x2.2) fun x4 => (if x4.1 = (-8 : Int32) then (some ((-8 : Int32), x4.2)) else (f_X8_bestMove_42 N p1 N x4.1 (0 : Int32) x4.2))) else (some ((-3 : Int32), x2.2)))) else (some ((0 : Int32), x2.2)))))
theorem m_X8_bestMove {g : Gp} {a0 : Nat} {r0 : Nat → Nat} {N : Nat} {s0 : Ob} {p1 : Int32} {res : Int32 × Ob} (hg : Ok g) (h : f_X8_bestMove N s0 p1 = some res) : Ct g yX8_bestMove cX8_bestMove 6 (some .int) (zrm 5 120) [.ref a0, .int p1] (wX8 g a0 r0 s0) (exR (some (.int res.1)) (wX8 g a0 r0 res.2)) := by
  refine ct_of rfl hg (by show _ ≤ _; exact Nat.le_of_ble_eq_true rfl) (fun K C X => ?_)
  show Zs K 0 0 (wX8 g a0 r0 s0) [(0, .ref a0), (1, .int p1)] 0 []
  unfold f_X8_bestMove at h
  refine z_aload_n (pc := 0) (x := a0) C dX8_bestMove_0 (i := 0) rfl rfl ?_
  refine z_iload_n (pc := 1) (x := p1) C dX8_bestMove_1 (i := 1) rfl rfl ?_
  refine z_iconst (pc := 2) C dX8_bestMove_2 ic_0 ?_
  refine z_iconst (pc := 3) C dX8_bestMove_3 ic_1 ?_
  replace h := ob_e h
  obtain ⟨x1, hx1, h⟩ := h
  refine z_callS (pc := 4) (As := [.int p1, .int (0 : Int32), .int (1 : Int32)]) (rest := [.ref a0]) (wr := (wX8 g a0 r0 s0)) C dX8_bestMove_4 ml_RX8_62 wt_X8_in (m_X8_in hg hx1) [] [0, 1, 2, 3, 4, 5, 6, 7, 8, 9, 10, 11, 12, 13, 14] rfl rfl ⟨by decide, by decide⟩ (Nat.le_of_ble_eq_true rfl) ⟨by decide, by decide⟩ rfl rfl rfl rfl (by decide) (ex_k C (cs' := 0) (ss' := 0) (wF := (wX8 g a0 r0 s0)) [0, 1, 2, 3, 4, 5, 6, 7, 8, 9, 10, 11, 12, 13, 14] rfl rfl ?_)
  refine z_iconst (pc := 7) C dX8_bestMove_7 ic_1 ?_
  replace h := ob_e h
  obtain ⟨x2, hx2, h⟩ := h
  refine z_callV (pc := 8) (As := [.int x1, .int (1 : Int32)]) (rest := []) (wr := ([] : va_W)) C dX8_bestMove_8 ml_RX8_206 wv_X8_isThrown (m_X8_isThrown (a0 := a0) (r0 := r0) hg hx2) [0, 1, 2, 3, 4, 5, 6, 7, 8, 9, 10, 11, 12, 13, 14] [] rfl rfl ⟨by decide, by decide⟩ (Nat.le_of_ble_eq_true rfl) ⟨by decide, by decide⟩ rfl rfl rfl rfl rfl rfl rfl (by decide) (ex_k C (cs' := 0) (ss' := 0) (wF := (wX8 g a0 r0 x2.2)) [0, 1, 2, 3, 4, 5, 6, 7, 8, 9, 10, 11, 12, 13, 14] rfl rfl ?_)
  refine z_if_eq (pc := 11) C dX8_bestMove_11 (tgt := 16) (by decide) (fun hc => ?_) (fun hc => ?_)
  · replace h := (ite_e h).1 hc
    refine z_aload_n (pc := 16) (x := a0) C dX8_bestMove_16 (i := 0) rfl rfl ?_
    replace h := ob_e h
    obtain ⟨x3, hx3, h⟩ := h
    refine z_callV (pc := 17) (As := []) (rest := []) (wr := ([] : va_W)) C dX8_bestMove_17 ml_RX8_299 wv_X8_isOver (m_X8_isOver (a0 := a0) (r0 := r0) hg hx3) [0, 1, 2, 3, 4, 5, 6, 7, 8, 9, 10, 11, 12, 13, 14] [] rfl rfl ⟨by decide, by decide⟩ (Nat.le_of_ble_eq_true rfl) ⟨by decide, by decide⟩ rfl rfl rfl rfl rfl rfl rfl (by decide) (ex_k C (cs' := 0) (ss' := 0) (wF := (wX8 g a0 r0 x2.2)) [0, 1, 2, 3, 4, 5, 6, 7, 8, 9, 10, 11, 12, 13, 14] rfl rfl ?_)
    refine z_if_eq (pc := 20) C dX8_bestMove_20 (tgt := 26) (by decide) (fun hc => ?_) (fun hc => ?_)
    · replace h := (ite_e h).1 hc
      refine z_aload_n (pc := 26) (x := a0) C dX8_bestMove_26 (i := 0) rfl rfl ?_
      replace h := ob_e h
      obtain ⟨x4, hx4, h⟩ := h
      refine z_callV (pc := 27) (As := []) (rest := []) (wr := ([] : va_W)) C dX8_bestMove_27 ml_RX8_397 wv_X8_valueNow (m_X8_valueNow (a0 := a0) (r0 := r0) hg hx4) [0, 1, 2, 3, 4, 5, 6, 7, 8, 9, 10, 11, 12, 13, 14] [] rfl rfl ⟨by decide, by decide⟩ (Nat.le_of_ble_eq_true rfl) ⟨by decide, by decide⟩ rfl rfl rfl rfl rfl rfl rfl (by decide) (ex_k C (cs' := 0) (ss' := 0) (wF := (wX8 g a0 r0 x4.2)) [0, 1, 2, 3, 4, 5, 6, 7, 8, 9, 10, 11, 12, 13, 14] rfl rfl ?_)
      refine z_istore_n (pc := 30) C dX8_bestMove_30 (i := 2) rfl (by decide) (lv' := [(2, .int x4.1), (0, .ref a0), (1, .int p1)]) rfl ?_
      refine z_iload_n (pc := 31) (x := x4.1) C dX8_bestMove_31 (i := 2) rfl rfl ?_
      refine z_bipush (pc := 32) C dX8_bestMove_32 bp_m8 ?_
      refine z_icmp_ne (pc := 34) C dX8_bestMove_34 (tgt := 40) (by decide) (fun hc => ?_) (fun hc => ?_)
      · replace h := (ite_e h).2 hc
        refine z_iconst (pc := 40) C dX8_bestMove_40 ic_0 ?_
        refine z_istore_n (pc := 41) C dX8_bestMove_41 (i := 3) rfl (by decide) (lv' := [(3, .int (0 : Int32)), (2, .int x4.1), (0, .ref a0), (1, .int p1)]) rfl ?_
        refine z_lv (lv' := [(0, .ref a0), (1, .int p1), (2, .int x4.1), (3, .int (0 : Int32))]) [2, 3, 1, 0] rfl ?_
        exact m_X8_bestMove_42 (a0 := a0) (r0 := r0) hg C X N x4.1 (0 : Int32) x4.2 h
      · replace h := (ite_e h).1 hc
        refine z_bipush (pc := 37) C dX8_bestMove_37 bp_m8 ?_
        exact z_iret C X dX8_bestMove_39 (by rw [← Option.some.inj h]; exact ⟨rfl, rfl⟩) (by decide) (by decide)
    · replace h := (ite_e h).2 hc
      refine z_bipush (pc := 23) C dX8_bestMove_23 bp_m3 ?_
      exact z_iret C X dX8_bestMove_25 (by rw [← Option.some.inj h]; exact ⟨rfl, rfl⟩) (by decide) (by decide)
  · replace h := (ite_e h).2 hc
    refine z_iconst (pc := 14) C dX8_bestMove_14 ic_0 ?_
    exact z_iret C X dX8_bestMove_15 (by rw [← Option.some.inj h]; exact ⟨rfl, rfl⟩) (by decide) (by decide)
def f_X8_total (N : Nat) (s0 : Ob) (p1 : Int32) : Option (Int32 × Ob) := (ob (f_X8_in N p1 (0 : Int32) (6 : Int32)) fun x1 => (ob (f_X8_isThrown N s0 x1 (1 : Int32)) fun x2 => (if x2.1 = 0 then (chk (inb ((231 : Int32) + p1) 358) (some (((x2.2.2.2.1 0) (((231 : Int32) + p1)).toNatClampNeg), x2.2))) else (some ((0 : Int32), x2.2)))))
theorem m_X8_total {g : Gp} {a0 : Nat} {r0 : Nat → Nat} {N : Nat} {s0 : Ob} {p1 : Int32} {res : Int32 × Ob} (hg : Ok g) (h : f_X8_total N s0 p1 = some res) : Ct g yX8_total cX8_total 2 (some .int) (zrm 1 22) [.ref a0, .int p1] (wX8 g a0 r0 s0) (exR (some (.int res.1)) (wX8 g a0 r0 res.2)) := by
  refine ct_of rfl hg (by show _ ≤ _; exact Nat.le_of_ble_eq_true rfl) (fun K C X => ?_)
  show Zs K 0 0 (wX8 g a0 r0 s0) [(0, .ref a0), (1, .int p1)] 0 []
  unfold f_X8_total at h
  refine z_aload_n (pc := 0) (x := a0) C dX8_total_0 (i := 0) rfl rfl ?_
  refine z_iload_n (pc := 1) (x := p1) C dX8_total_1 (i := 1) rfl rfl ?_
  refine z_iconst (pc := 2) C dX8_total_2 ic_0 ?_
  refine z_bipush (pc := 3) C dX8_total_3 bp_6 ?_
  replace h := ob_e h
  obtain ⟨x1, hx1, h⟩ := h
  refine z_callS (pc := 5) (As := [.int p1, .int (0 : Int32), .int (6 : Int32)]) (rest := [.ref a0]) (wr := (wX8 g a0 r0 s0)) C dX8_total_5 ml_RX8_62 wt_X8_in (m_X8_in hg hx1) [] [0, 1, 2, 3, 4, 5, 6, 7, 8, 9, 10, 11, 12, 13, 14] rfl rfl ⟨by decide, by decide⟩ (Nat.le_of_ble_eq_true rfl) ⟨by decide, by decide⟩ rfl rfl rfl rfl (by decide) (ex_k C (cs' := 0) (ss' := 0) (wF := (wX8 g a0 r0 s0)) [0, 1, 2, 3, 4, 5, 6, 7, 8, 9, 10, 11, 12, 13, 14] rfl rfl ?_)
  refine z_iconst (pc := 8) C dX8_total_8 ic_1 ?_
  replace h := ob_e h
  obtain ⟨x2, hx2, h⟩ := h
  refine z_callV (pc := 9) (As := [.int x1, .int (1 : Int32)]) (rest := []) (wr := ([] : va_W)) C dX8_total_9 ml_RX8_206 wv_X8_isThrown (m_X8_isThrown (a0 := a0) (r0 := r0) hg hx2) [0, 1, 2, 3, 4, 5, 6, 7, 8, 9, 10, 11, 12, 13, 14] [] rfl rfl ⟨by decide, by decide⟩ (Nat.le_of_ble_eq_true rfl) ⟨by decide, by decide⟩ rfl rfl rfl rfl rfl rfl rfl (by decide) (ex_k C (cs' := 0) (ss' := 0) (wF := (wX8 g a0 r0 x2.2)) [0, 1, 2, 3, 4, 5, 6, 7, 8, 9, 10, 11, 12, 13, 14] rfl rfl ?_)
  refine z_if_eq (pc := 12) C dX8_total_12 (tgt := 19) (by decide) (fun hc => ?_) (fun hc => ?_)
  · replace h := (ite_e h).1 hc
    refine z_aload_n (pc := 19) (x := a0) C dX8_total_19 (i := 0) rfl rfl ?_
    refine z_get (pc := 20) (v := .ref (r0 0)) C 0 dX8_total_20 fl_RX8_9 rfl rfl ?_
    refine z_sipush (pc := 23) C dX8_total_23 sp_231 ?_
    refine z_iload_n (pc := 26) (x := p1) C dX8_total_26 (i := 1) rfl rfl ?_
    refine z_iadd (pc := 27) C dX8_total_27 ?_
    replace h := chk_e h
    obtain ⟨hb3, h⟩ := h
    refine z_iald (pc := 28) C 1 dX8_total_28 rfl hb3 ?_
    exact z_iret C X dX8_total_29 (by rw [← Option.some.inj h]; exact ⟨rfl, rfl⟩) (by decide) (by decide)
  · replace h := (ite_e h).2 hc
    refine z_iconst (pc := 15) C dX8_total_15 ic_0 ?_
    refine z_goto (pc := 16) C dX8_total_16 (tgt := 29) (by decide) ?_
    exact z_iret C X dX8_total_29 (by rw [← Option.some.inj h]; exact ⟨rfl, rfl⟩) (by decide) (by decide)
def f_X8_logPart (N : Nat) (s0 : Ob) (p1 : Int32) (p2 : Int32) : Option (Int32 × Ob) := (ob (f_X8_in N p2 (0 : Int32) (3 : Int32)) fun x1 => (ob (f_X8_isThrown N s0 x1 (1 : Int32)) fun x2 => (if x2.1 = 0 then (znm (if ((x2.2.2.2.1 0) 13) < (30 : Int32) then ((x2.2.2.2.1 0) 13) else (30 : Int32)) fun x3 => (ob (f_X8_in N p1 (0 : Int32) (x3 - (1 : Int32))) fun x4 => (if x4 = 0 then (some ((-1000 : Int32), x2.2)) else (znm (((((x2.2.2.2.1 0) 13) - (1 : Int32)) - p1) - ((((x2.2.2.2.1 0) 13) - (1 : Int32)) - p1) / (30 : Int32) * (30 : Int32)) fun x5 => (chk (inb (((238 : Int32) + ((4 : Int32) * x5)) + p2) 358) (znm ((x2.2.2.2.1 0) ((((238 : Int32) + ((4 : Int32) * x5)) + p2)).toNatClampNeg) fun x7 => (some (x7, x2.2)))))))) else (some ((0 : Int32), x2.2)))))
theorem m_X8_logPart {g : Gp} {a0 : Nat} {r0 : Nat → Nat} {N : Nat} {s0 : Ob} {p1 : Int32} {p2 : Int32} {res : Int32 × Ob} (hg : Ok g) (h : f_X8_logPart N s0 p1 p2 = some res) : Ct g yX8_logPart cX8_logPart 4 (some .int) (zrm 1 22) [.ref a0, .int p1, .int p2] (wX8 g a0 r0 s0) (exR (some (.int res.1)) (wX8 g a0 r0 res.2)) := by
  refine ct_of rfl hg (by show _ ≤ _; exact Nat.le_of_ble_eq_true rfl) (fun K C X => ?_)
  show Zs K 0 0 (wX8 g a0 r0 s0) [(0, .ref a0), (1, .int p1), (2, .int p2)] 0 []
  unfold f_X8_logPart at h
  refine z_aload_n (pc := 0) (x := a0) C dX8_logPart_0 (i := 0) rfl rfl ?_
  refine z_iload_n (pc := 1) (x := p2) C dX8_logPart_1 (i := 2) rfl rfl ?_
  refine z_iconst (pc := 2) C dX8_logPart_2 ic_0 ?_
  refine z_iconst (pc := 3) C dX8_logPart_3 ic_3 ?_
  replace h := ob_e h
  obtain ⟨x1, hx1, h⟩ := h
  refine z_callS (pc := 4) (As := [.int p2, .int (0 : Int32), .int (3 : Int32)]) (rest := [.ref a0]) (wr := (wX8 g a0 r0 s0)) C dX8_logPart_4 ml_RX8_62 wt_X8_in (m_X8_in hg hx1) [] [0, 1, 2, 3, 4, 5, 6, 7, 8, 9, 10, 11, 12, 13, 14] rfl rfl ⟨by decide, by decide⟩ (Nat.le_of_ble_eq_true rfl) ⟨by decide, by decide⟩ rfl rfl rfl rfl (by decide) (ex_k C (cs' := 0) (ss' := 0) (wF := (wX8 g a0 r0 s0)) [0, 1, 2, 3, 4, 5, 6, 7, 8, 9, 10, 11, 12, 13, 14] rfl rfl ?_)
  refine z_iconst (pc := 7) C dX8_logPart_7 ic_1 ?_
  replace h := ob_e h
  obtain ⟨x2, hx2, h⟩ := h
  refine z_callV (pc := 8) (As := [.int x1, .int (1 : Int32)]) (rest := []) (wr := ([] : va_W)) C dX8_logPart_8 ml_RX8_206 wv_X8_isThrown (m_X8_isThrown (a0 := a0) (r0 := r0) hg hx2) [0, 1, 2, 3, 4, 5, 6, 7, 8, 9, 10, 11, 12, 13, 14] [] rfl rfl ⟨by decide, by decide⟩ (Nat.le_of_ble_eq_true rfl) ⟨by decide, by decide⟩ rfl rfl rfl rfl rfl rfl rfl (by decide) (ex_k C (cs' := 0) (ss' := 0) (wF := (wX8 g a0 r0 x2.2)) [0, 1, 2, 3, 4, 5, 6, 7, 8, 9, 10, 11, 12, 13, 14] rfl rfl ?_)
  refine z_if_eq (pc := 11) C dX8_logPart_11 (tgt := 16) (by decide) (fun hc => ?_) (fun hc => ?_)
  · replace h := (ite_e h).1 hc
    refine z_bipush (pc := 16) C dX8_logPart_16 bp_30 ?_
    refine z_aload_n (pc := 18) (x := a0) C dX8_logPart_18 (i := 0) rfl rfl ?_
    refine z_get (pc := 19) (v := .ref (r0 0)) C 0 dX8_logPart_19 fl_RX8_9 rfl rfl ?_
    refine z_bipush (pc := 22) C dX8_logPart_22 bp_13 ?_
    refine z_iald (pc := 24) C 1 dX8_logPart_24 rfl (by decide) ?_
    refine z_top1 (v := ((x2.2.2.2.1 0) 13)) rfl ?_
    refine z_mmin (pc := 25) C dX8_logPart_25 ml_RX8_114 wm_min (by decide) (Nat.le_of_ble_eq_true rfl) (by decide) (by decide) ?_
    replace h := znm_e h
    obtain ⟨x3, hx3, h⟩ := h
    refine z_top1 hx3 ?_
    refine z_istore_n (pc := 28) C dX8_logPart_28 (i := 3) rfl (by decide) (lv' := [(3, .int x3), (0, .ref a0), (1, .int p1), (2, .int p2)]) rfl ?_
    refine z_iload_n (pc := 29) (x := p1) C dX8_logPart_29 (i := 1) rfl rfl ?_
    refine z_iconst (pc := 30) C dX8_logPart_30 ic_0 ?_
    refine z_iload_n (pc := 31) (x := x3) C dX8_logPart_31 (i := 3) rfl rfl ?_
    refine z_iconst (pc := 32) C dX8_logPart_32 ic_1 ?_
    refine z_isub (pc := 33) C dX8_logPart_33 ?_
    replace h := ob_e h
    obtain ⟨x4, hx4, h⟩ := h
    refine z_callS (pc := 34) (As := [.int p1, .int (0 : Int32), .int (x3 - (1 : Int32))]) (rest := []) (wr := (wX8 g a0 r0 x2.2)) C dX8_logPart_34 ml_RX8_62 wt_X8_in (m_X8_in hg hx4) [] [0, 1, 2, 3, 4, 5, 6, 7, 8, 9, 10, 11, 12, 13, 14] rfl rfl ⟨by decide, by decide⟩ (Nat.le_of_ble_eq_true rfl) ⟨by decide, by decide⟩ rfl rfl rfl rfl (by decide) (ex_k C (cs' := 0) (ss' := 0) (wF := (wX8 g a0 r0 x2.2)) [0, 1, 2, 3, 4, 5, 6, 7, 8, 9, 10, 11, 12, 13, 14] rfl rfl ?_)
    refine z_if_eq (pc := 37) C dX8_logPart_37 (tgt := 70) (by decide) (fun hc => ?_) (fun hc => ?_)
    · replace h := (ite_e h).1 hc
      refine z_sipush (pc := 70) C dX8_logPart_70 sp_m1000 ?_
      exact z_iret C X dX8_logPart_73 (by rw [← Option.some.inj h]; exact ⟨rfl, rfl⟩) (by decide) (by decide)
    · replace h := (ite_e h).2 hc
      refine z_aload_n (pc := 40) (x := a0) C dX8_logPart_40 (i := 0) rfl rfl ?_
      refine z_get (pc := 41) (v := .ref (r0 0)) C 0 dX8_logPart_41 fl_RX8_9 rfl rfl ?_
      refine z_sipush (pc := 44) C dX8_logPart_44 sp_238 ?_
      refine z_iconst (pc := 47) C dX8_logPart_47 ic_4 ?_
      refine z_aload_n (pc := 48) (x := a0) C dX8_logPart_48 (i := 0) rfl rfl ?_
      refine z_get (pc := 49) (v := .ref (r0 0)) C 0 dX8_logPart_49 fl_RX8_9 rfl rfl ?_
      refine z_bipush (pc := 52) C dX8_logPart_52 bp_13 ?_
      refine z_iald (pc := 54) C 1 dX8_logPart_54 rfl (by decide) ?_
      refine z_top1 (v := ((x2.2.2.2.1 0) 13)) rfl ?_
      refine z_iconst (pc := 55) C dX8_logPart_55 ic_1 ?_
      refine z_isub (pc := 56) C dX8_logPart_56 ?_
      refine z_iload_n (pc := 57) (x := p1) C dX8_logPart_57 (i := 1) rfl rfl ?_
      refine z_isub (pc := 58) C dX8_logPart_58 ?_
      refine z_bipush (pc := 59) C dX8_logPart_59 bp_30 ?_
      refine z_irem (pc := 61) C dX8_logPart_61 (by decide) ?_
      replace h := znm_e h
      obtain ⟨x5, hx5, h⟩ := h
      refine z_top1 hx5 ?_
      refine z_imul (pc := 62) C dX8_logPart_62 ?_
      refine z_iadd (pc := 63) C dX8_logPart_63 ?_
      refine z_iload_n (pc := 64) (x := p2) C dX8_logPart_64 (i := 2) rfl rfl ?_
      refine z_iadd (pc := 65) C dX8_logPart_65 ?_
      replace h := chk_e h
      obtain ⟨hb6, h⟩ := h
      refine z_iald (pc := 66) C 1 dX8_logPart_66 rfl hb6 ?_
      replace h := znm_e h
      obtain ⟨x7, hx7, h⟩ := h
      refine z_top1 hx7 ?_
      refine z_goto (pc := 67) C dX8_logPart_67 (tgt := 73) (by decide) ?_
      exact z_iret C X dX8_logPart_73 (by rw [← Option.some.inj h]; exact ⟨rfl, rfl⟩) (by decide) (by decide)
  · replace h := (ite_e h).2 hc
    refine z_iconst (pc := 14) C dX8_logPart_14 ic_0 ?_
    exact z_iret C X dX8_logPart_15 (by rw [← Option.some.inj h]; exact ⟨rfl, rfl⟩) (by decide) (by decide)
def f_X8_puts (N : Nat) (s0 : Ob) (p1 : Int32) : Option (Ob) := (chk (inb (s0.1 30) 20) (znm (sa s0 29 (upd (s0.2.2.1 29) ((s0.1 30)).toNatClampNeg (vp_nar .byte (p1).toInt8.toInt32))) fun y2 => (some (si y2 30 ((s0.1 30) + (1 : Int32))))))
theorem m_X8_puts {g : Gp} {a0 : Nat} {r0 : Nat → Nat} {N : Nat} {s0 : Ob} {p1 : Int32} {res : Ob} (hg : Ok g) (h : f_X8_puts N s0 p1 = some res) : Ct g yX8_puts cX8_puts 2 none (zrm 0 0) [.ref a0, .int p1] (wX8 g a0 r0 s0) (exR none (wX8 g a0 r0 res)) := by
  refine ct_of rfl hg (by show _ ≤ _; exact Nat.le_of_ble_eq_true rfl) (fun K C X => ?_)
  show Zs K 0 0 (wX8 g a0 r0 s0) [(0, .ref a0), (1, .int p1)] 0 []
  unfold f_X8_puts at h
  refine z_aload_n (pc := 0) (x := a0) C dX8_puts_0 (i := 0) rfl rfl ?_
  refine z_get (pc := 1) (v := .ref (r0 29)) C 0 dX8_puts_1 fl_RX8_56 rfl rfl ?_
  refine z_aload_n (pc := 4) (x := a0) C dX8_puts_4 (i := 0) rfl rfl ?_
  refine z_get (pc := 5) (v := .int (s0.1 30)) C 0 dX8_puts_5 fl_RX8_403 rfl rfl ?_
  refine z_iload_n (pc := 8) (x := p1) C dX8_puts_8 (i := 1) rfl rfl ?_
  refine z_i2b (pc := 9) C dX8_puts_9 ?_
  replace h := chk_e h
  obtain ⟨hb1, h⟩ := h
  refine z_bast (pc := 10) C 14 dX8_puts_10 rfl hb1 (ws' := (wX8 g a0 r0 (sa s0 29 (upd (s0.2.2.1 29) ((s0.1 30)).toNatClampNeg (vp_nar .byte (p1).toInt8.toInt32))))) rfl ?_
  refine z_aload_n (pc := 11) (x := a0) C dX8_puts_11 (i := 0) rfl rfl ?_
  refine z_dup (pc := 12) C dX8_puts_12 rfl ?_
  refine z_get (pc := 13) (v := .int (s0.1 30)) C 0 dX8_puts_13 fl_RX8_403 rfl rfl ?_
  refine z_iconst (pc := 16) C dX8_puts_16 ic_1 ?_
  refine z_iadd (pc := 17) C dX8_puts_17 ?_
  replace h := znm_e h
  obtain ⟨y2, hy2, h⟩ := h
  refine z_wsE (ws' := (wX8 g a0 r0 y2)) (by rw [hy2]) ?_
  refine z_put (pc := 18) C 0 dX8_puts_18 fp_RX8_403 rfl rfl rfl (zlt_b rfl) (ws' := (wX8 g a0 r0 (si y2 30 ((s0.1 30) + (1 : Int32))))) rfl ?_
  exact z_vret C X dX8_puts_21 (by rw [← Option.some.inj h]; exact ⟨rfl, rfl⟩) (by decide) (by decide)
def f_X8_only_21 (N : Nat) (p0 : Int32)  (v1 : Int32) : Option (Int32) := (if v1 = (8 : Int32) then (some (-1 : Int32)) else (some v1))
theorem m_X8_only_21 {K : Kt} {g : Gp}  {N : Nat} {p0 : Int32} {res : Int32} (hg : Ok g) (C : Cx K g cX8_only RX8 2 (zrm 0 0)) (X : Rx K (exR (some (.int res)) ([] : va_W)) 0 0 (some .int)) (v1 : Int32) (h : f_X8_only_21 N p0 v1 = some res) : Zs K 0 0 ([] : va_W) [(1, .int v1)] 21 [] := by
  unfold f_X8_only_21 at h
  refine z_iload_n (pc := 21) (x := v1) C dX8_only_21 (i := 1) rfl rfl ?_
  refine z_bipush (pc := 22) C dX8_only_22 bp_8 ?_
  refine z_icmp_ne (pc := 24) C dX8_only_24 (tgt := 31) (by decide) (fun hc => ?_) (fun hc => ?_)
  · replace h := (ite_e h).2 hc
    refine z_iload_n (pc := 31) (x := v1) C dX8_only_31 (i := 1) rfl rfl ?_
    exact z_iret C X dX8_only_32 (by rw [← Option.some.inj h]; exact ⟨rfl, rfl⟩) (by decide) (by decide)
  · replace h := (ite_e h).1 hc
    refine z_iconst (pc := 27) C dX8_only_27 ic_m1 ?_
    refine z_goto (pc := 28) C dX8_only_28 (tgt := 32) (by decide) ?_
    exact z_iret C X dX8_only_32 (by rw [← Option.some.inj h]; exact ⟨rfl, rfl⟩) (by decide) (by decide)
def F_X8_only_2 (N : Nat) (p0 : Int32)  (k2 : Int32 → Option (Int32)) (v1 : Int32) : Option (Int32) := (if (8 : Int32) ≤ v1 then (f_X8_only_21 N p0 v1) else (if p0 = ((1 : Int32) <<< (v1 &&& 31)) then (f_X8_only_21 N p0 v1) else (k2 (v1 + (1 : Int32)))))
def f_X8_only_2 (N : Nat) (p0 : Int32)  : Nat → Int32 → Option (Int32) := zlp (fun _ => none) (F_X8_only_2 N p0)
theorem m_X8_only_2 {K : Kt} {g : Gp}  {N : Nat} {p0 : Int32} {res : Int32} (hg : Ok g) (C : Cx K g cX8_only RX8 2 (zrm 0 0)) (X : Rx K (exR (some (.int res)) ([] : va_W)) 0 0 (some .int)) : ∀ (n : Nat) (v1 : Int32), f_X8_only_2 N p0 n v1 = some res → Zs K 0 0 ([] : va_W) [(0, .int p0), (1, .int v1)] 2 [] := by
  intro n
  induction n with
  | zero => intro v1 h; exact nomatch (show (none : Option (Int32)) = some res from h)
  | succ n hk2 =>
    intro v1 h
    replace h : F_X8_only_2 N p0 (f_X8_only_2 N p0 n) v1 = some res := h
    unfold F_X8_only_2 at h
    refine z_iload_n (pc := 2) (x := v1) C dX8_only_2 (i := 1) rfl rfl ?_
    refine z_bipush (pc := 3) C dX8_only_3 bp_8 ?_
    refine z_icmp_ge (pc := 5) C dX8_only_5 (tgt := 21) (by decide) (fun hc => ?_) (fun hc => ?_)
    · replace h := (ite_e h).1 hc
      refine z_lv (lv' := [(1, .int v1)]) [1] rfl ?_
      exact m_X8_only_21 hg C X v1 h
    · replace h := (ite_e h).2 hc
      refine z_iload_n (pc := 8) (x := p0) C dX8_only_8 (i := 0) rfl rfl ?_
      refine z_iconst (pc := 9) C dX8_only_9 ic_1 ?_
      refine z_iload_n (pc := 10) (x := v1) C dX8_only_10 (i := 1) rfl rfl ?_
      refine z_ishl (pc := 11) C dX8_only_11 ?_
      refine z_icmp_eq (pc := 12) C dX8_only_12 (tgt := 21) (by decide) (fun hc => ?_) (fun hc => ?_)
      · replace h := (ite_e h).1 hc
        refine z_lv (lv' := [(1, .int v1)]) [1] rfl ?_
        exact m_X8_only_21 hg C X v1 h
      · replace h := (ite_e h).2 hc
        refine z_iinc (pc := 15) C dX8_only_15 rfl (inc_e 1 (1 : Int32) ic_1 v1) (by decide) (lv' := [(1, .int (v1 + (1 : Int32))), (0, .int p0)]) rfl ?_
        refine z_goto (pc := 18) C dX8_only_18 (tgt := 2) (by decide) ?_
        refine z_lv (lv' := [(0, .int p0), (1, .int (v1 + (1 : Int32)))]) [1, 0] rfl ?_
        exact hk2 (v1 + (1 : Int32)) h
def f_X8_only (N : Nat) (p0 : Int32) : Option (Int32) := (f_X8_only_2 N p0 N (0 : Int32))
theorem m_X8_only {g : Gp}  {N : Nat} {p0 : Int32} {res : Int32} (hg : Ok g) (h : f_X8_only N p0 = some res) : Ct g yX8_only cX8_only 2 (some .int) (zrm 0 0) [.int p0] ([] : va_W) (exR (some (.int res)) ([] : va_W)) := by
  refine ct_of rfl hg (by show _ ≤ _; exact Nat.le_of_ble_eq_true rfl) (fun K C X => ?_)
  show Zs K 0 0 ([] : va_W) [(0, .int p0)] 0 []
  unfold f_X8_only at h
  refine z_iconst (pc := 0) C dX8_only_0 ic_0 ?_
  refine z_istore_n (pc := 1) C dX8_only_1 (i := 1) rfl (by decide) (lv' := [(1, .int (0 : Int32)), (0, .int p0)]) rfl ?_
  refine z_lv (lv' := [(0, .int p0), (1, .int (0 : Int32))]) [1, 0] rfl ?_
  exact m_X8_only_2 hg C X N (0 : Int32) h
def f_X8_writeHand_163 (N : Nat) (p1 : Int32) (p2 : Int32) (k22 : Int32 → Ob → Option (Int32 × Ob)) (v3 : Int32) (t1 : Int32) (s0 : Ob) : Option (Int32 × Ob) := (ob (f_X8_puts N s0 t1) fun x10 => (k22 (v3 + (1 : Int32)) x10))
theorem m_X8_writeHand_163 {K : Kt} {g : Gp} {a0 : Nat} {r0 : Nat → Nat} {N : Nat} {p1 : Int32} {p2 : Int32} {res : Int32 × Ob} (hg : Ok g) (C : Cx K g cX8_writeHand RX8 7 (zrm 2 43)) (X : Rx K (exR (some (.int res.1)) (wX8 g a0 r0 res.2)) 0 0 (some .int)) {k22 : Int32 → Ob → Option (Int32 × Ob)} (hk22 : ∀ (v3 : Int32) (s0 : Ob), k22 v3 s0 = some res → Zs K 0 0 (wX8 g a0 r0 s0) [(0, .ref a0), (1, .int p1), (2, .int p2), (3, .int v3)] 22 []) (v3 : Int32) (t1 : Int32) (s0 : Ob) (h : f_X8_writeHand_163 N p1 p2 k22 v3 t1 s0 = some res) : Zs K 0 0 (wX8 g a0 r0 s0) [(0, .ref a0), (1, .int p1), (2, .int p2), (3, .int v3)] 163 [.int t1, .ref a0] := by
  unfold f_X8_writeHand_163 at h
  replace h := ob_e h
  obtain ⟨x10, hx10, h⟩ := h
  refine z_callV (pc := 163) (As := [.int t1]) (rest := []) (wr := ([] : va_W)) C dX8_writeHand_163 ml_RX8_409 wv_X8_puts (m_X8_puts (a0 := a0) (r0 := r0) hg hx10) [0, 1, 2, 3, 4, 5, 6, 7, 8, 9, 10, 11, 12, 13, 14] [] rfl rfl ⟨by decide, by decide⟩ (Nat.le_of_ble_eq_true rfl) ⟨by decide, by decide⟩ rfl rfl rfl rfl rfl rfl rfl (by decide) (ex_k C (cs' := 0) (ss' := 0) (wF := (wX8 g a0 r0 x10)) [0, 1, 2, 3, 4, 5, 6, 7, 8, 9, 10, 11, 12, 13, 14] rfl rfl ?_)
  refine z_iinc (pc := 166) C dX8_writeHand_166 rfl (inc_e 1 (1 : Int32) ic_1 v3) (by decide) (lv' := [(3, .int (v3 + (1 : Int32))), (0, .ref a0), (1, .int p1), (2, .int p2)]) rfl ?_
  refine z_goto (pc := 169) C dX8_writeHand_169 (tgt := 22) (by decide) ?_
  refine z_lv (lv' := [(0, .ref a0), (1, .int p1), (2, .int p2), (3, .int (v3 + (1 : Int32)))]) [1, 2, 3, 0] rfl ?_
  exact hk22 (v3 + (1 : Int32)) x10 h
def f_X8_writeHand_143 (N : Nat) (p1 : Int32) (p2 : Int32) (k22 : Int32 → Ob → Option (Int32 × Ob)) (v3 : Int32) (v6 : Int32) (t1 : Int32) (s0 : Ob) : Option (Int32 × Ob) := (ob (f_X8_puts N s0 t1) fun x9 => (if v6 = (-1 : Int32) then (f_X8_writeHand_163 N p1 p2 k22 v3 (63 : Int32) x9) else (f_X8_writeHand_163 N p1 p2 k22 v3 ((49 : Int32) + v6) x9)))
theorem m_X8_writeHand_143 {K : Kt} {g : Gp} {a0 : Nat} {r0 : Nat → Nat} {N : Nat} {p1 : Int32} {p2 : Int32} {res : Int32 × Ob} (hg : Ok g) (C : Cx K g cX8_writeHand RX8 7 (zrm 2 43)) (X : Rx K (exR (some (.int res.1)) (wX8 g a0 r0 res.2)) 0 0 (some .int)) {k22 : Int32 → Ob → Option (Int32 × Ob)} (hk22 : ∀ (v3 : Int32) (s0 : Ob), k22 v3 s0 = some res → Zs K 0 0 (wX8 g a0 r0 s0) [(0, .ref a0), (1, .int p1), (2, .int p2), (3, .int v3)] 22 []) (v3 : Int32) (v6 : Int32) (t1 : Int32) (s0 : Ob) (h : f_X8_writeHand_143 N p1 p2 k22 v3 v6 t1 s0 = some res) : Zs K 0 0 (wX8 g a0 r0 s0) [(0, .ref a0), (1, .int p1), (2, .int p2), (3, .int v3), (6, .int v6)] 143 [.int t1, .ref a0] := by
  unfold f_X8_writeHand_143 at h
  replace h := ob_e h
  obtain ⟨x9, hx9, h⟩ := h
  refine z_callV (pc := 143) (As := [.int t1]) (rest := []) (wr := ([] : va_W)) C dX8_writeHand_143 ml_RX8_409 wv_X8_puts (m_X8_puts (a0 := a0) (r0 := r0) hg hx9) [0, 1, 2, 3, 4, 5, 6, 7, 8, 9, 10, 11, 12, 13, 14] [] rfl rfl ⟨by decide, by decide⟩ (Nat.le_of_ble_eq_true rfl) ⟨by decide, by decide⟩ rfl rfl rfl rfl rfl rfl rfl (by decide) (ex_k C (cs' := 0) (ss' := 0) (wF := (wX8 g a0 r0 x9)) [0, 1, 2, 3, 4, 5, 6, 7, 8, 9, 10, 11, 12, 13, 14] rfl rfl ?_)
  refine z_aload_n (pc := 146) (x := a0) C dX8_writeHand_146 (i := 0) rfl rfl ?_
  refine z_iload (pc := 147) (x := v6) C dX8_writeHand_147 rfl ?_
  refine z_iconst (pc := 149) C dX8_writeHand_149 ic_m1 ?_
  refine z_icmp_ne (pc := 150) C dX8_writeHand_150 (tgt := 158) (by decide) (fun hc => ?_) (fun hc => ?_)
  · replace h := (ite_e h).2 hc
    refine z_bipush (pc := 158) C dX8_writeHand_158 bp_49 ?_
    refine z_iload (pc := 160) (x := v6) C dX8_writeHand_160 rfl ?_
    refine z_iadd (pc := 162) C dX8_writeHand_162 ?_
    refine z_lv (lv' := [(0, .ref a0), (1, .int p1), (2, .int p2), (3, .int v3)]) [0, 1, 2, 3] rfl ?_
    exact m_X8_writeHand_163 (a0 := a0) (r0 := r0) hg C X hk22 v3 ((49 : Int32) + v6) x9 h
  · replace h := (ite_e h).1 hc
    refine z_bipush (pc := 153) C dX8_writeHand_153 bp_63 ?_
    refine z_goto (pc := 155) C dX8_writeHand_155 (tgt := 163) (by decide) ?_
    refine z_lv (lv' := [(0, .ref a0), (1, .int p1), (2, .int p2), (3, .int v3)]) [0, 1, 2, 3] rfl ?_
    exact m_X8_writeHand_163 (a0 := a0) (r0 := r0) hg C X hk22 v3 (63 : Int32) x9 h
def f_X8_writeHand_126 (N : Nat) (p1 : Int32) (p2 : Int32) (k22 : Int32 → Ob → Option (Int32 × Ob)) (v3 : Int32) (v5 : Int32) (v6 : Int32) (s0 : Ob) : Option (Int32 × Ob) := (if v5 = (-1 : Int32) then (f_X8_writeHand_143 N p1 p2 k22 v3 v6 (63 : Int32) s0) else (f_X8_writeHand_143 N p1 p2 k22 v3 v6 ((97 : Int32) + v5) s0))
theorem m_X8_writeHand_126 {K : Kt} {g : Gp} {a0 : Nat} {r0 : Nat → Nat} {N : Nat} {p1 : Int32} {p2 : Int32} {res : Int32 × Ob} (hg : Ok g) (C : Cx K g cX8_writeHand RX8 7 (zrm 2 43)) (X : Rx K (exR (some (.int res.1)) (wX8 g a0 r0 res.2)) 0 0 (some .int)) {k22 : Int32 → Ob → Option (Int32 × Ob)} (hk22 : ∀ (v3 : Int32) (s0 : Ob), k22 v3 s0 = some res → Zs K 0 0 (wX8 g a0 r0 s0) [(0, .ref a0), (1, .int p1), (2, .int p2), (3, .int v3)] 22 []) (v3 : Int32) (v5 : Int32) (v6 : Int32) (s0 : Ob) (h : f_X8_writeHand_126 N p1 p2 k22 v3 v5 v6 s0 = some res) : Zs K 0 0 (wX8 g a0 r0 s0) [(0, .ref a0), (1, .int p1), (2, .int p2), (3, .int v3), (5, .int v5), (6, .int v6)] 126 [] := by
  unfold f_X8_writeHand_126 at h
  refine z_aload_n (pc := 126) (x := a0) C dX8_writeHand_126 (i := 0) rfl rfl ?_
  refine z_iload (pc := 127) (x := v5) C dX8_writeHand_127 rfl ?_
  refine z_iconst (pc := 129) C dX8_writeHand_129 ic_m1 ?_
  refine z_icmp_ne (pc := 130) C dX8_writeHand_130 (tgt := 138) (by decide) (fun hc => ?_) (fun hc => ?_)
  · replace h := (ite_e h).2 hc
    refine z_bipush (pc := 138) C dX8_writeHand_138 bp_97 ?_
    refine z_iload (pc := 140) (x := v5) C dX8_writeHand_140 rfl ?_
    refine z_iadd (pc := 142) C dX8_writeHand_142 ?_
    refine z_lv (lv' := [(0, .ref a0), (1, .int p1), (2, .int p2), (3, .int v3), (6, .int v6)]) [0, 1, 2, 3, 5] rfl ?_
    exact m_X8_writeHand_143 (a0 := a0) (r0 := r0) hg C X hk22 v3 v6 ((97 : Int32) + v5) s0 h
  · replace h := (ite_e h).1 hc
    refine z_bipush (pc := 133) C dX8_writeHand_133 bp_63 ?_
    refine z_goto (pc := 135) C dX8_writeHand_135 (tgt := 143) (by decide) ?_
    refine z_lv (lv' := [(0, .ref a0), (1, .int p1), (2, .int p2), (3, .int v3), (6, .int v6)]) [0, 1, 2, 3, 5] rfl ?_
    exact m_X8_writeHand_143 (a0 := a0) (r0 := r0) hg C X hk22 v3 v6 (63 : Int32) s0 h
def f_X8_writeHand_114 (N : Nat) (p1 : Int32) (p2 : Int32) (k22 : Int32 → Ob → Option (Int32 × Ob)) (v3 : Int32) (v5 : Int32) (t0 : Int32) (s0 : Ob) : Option (Int32 × Ob) := (if v3 ≤ 0 then (f_X8_writeHand_126 N p1 p2 k22 v3 v5 t0 s0) else (ob (f_X8_puts N s0 (32 : Int32)) fun x11 => (f_X8_writeHand_126 N p1 p2 k22 v3 v5 t0 x11)))
theorem m_X8_writeHand_114 {K : Kt} {g : Gp} {a0 : Nat} {r0 : Nat → Nat} {N : Nat} {p1 : Int32} {p2 : Int32} {res : Int32 × Ob} (hg : Ok g) (C : Cx K g cX8_writeHand RX8 7 (zrm 2 43)) (X : Rx K (exR (some (.int res.1)) (wX8 g a0 r0 res.2)) 0 0 (some .int)) {k22 : Int32 → Ob → Option (Int32 × Ob)} (hk22 : ∀ (v3 : Int32) (s0 : Ob), k22 v3 s0 = some res → Zs K 0 0 (wX8 g a0 r0 s0) [(0, .ref a0), (1, .int p1), (2, .int p2), (3, .int v3)] 22 []) (v3 : Int32) (v5 : Int32) (t0 : Int32) (s0 : Ob) (h : f_X8_writeHand_114 N p1 p2 k22 v3 v5 t0 s0 = some res) : Zs K 0 0 (wX8 g a0 r0 s0) [(0, .ref a0), (1, .int p1), (2, .int p2), (3, .int v3), (5, .int v5)] 114 [.int t0] := by
  unfold f_X8_writeHand_114 at h
  refine z_istore (pc := 114) C dX8_writeHand_114 (by decide) (lv' := [(6, .int t0), (0, .ref a0), (1, .int p1), (2, .int p2), (3, .int v3), (5, .int v5)]) rfl ?_
  refine z_iload_n (pc := 116) (x := v3) C dX8_writeHand_116 (i := 3) rfl rfl ?_
  refine z_if_le (pc := 117) C dX8_writeHand_117 (tgt := 126) (by decide) (fun hc => ?_) (fun hc => ?_)
  · replace h := (ite_e h).1 hc
    refine z_lv (lv' := [(0, .ref a0), (1, .int p1), (2, .int p2), (3, .int v3), (5, .int v5), (6, .int t0)]) [1, 2, 3, 4, 5, 0] rfl ?_
    exact m_X8_writeHand_126 (a0 := a0) (r0 := r0) hg C X hk22 v3 v5 t0 s0 h
  · replace h := (ite_e h).2 hc
    refine z_aload_n (pc := 120) (x := a0) C dX8_writeHand_120 (i := 0) rfl rfl ?_
    refine z_bipush (pc := 121) C dX8_writeHand_121 bp_32 ?_
    replace h := ob_e h
    obtain ⟨x11, hx11, h⟩ := h
    refine z_callV (pc := 123) (As := [.int (32 : Int32)]) (rest := []) (wr := ([] : va_W)) C dX8_writeHand_123 ml_RX8_409 wv_X8_puts (m_X8_puts (a0 := a0) (r0 := r0) hg hx11) [0, 1, 2, 3, 4, 5, 6, 7, 8, 9, 10, 11, 12, 13, 14] [] rfl rfl ⟨by decide, by decide⟩ (Nat.le_of_ble_eq_true rfl) ⟨by decide, by decide⟩ rfl rfl rfl rfl rfl rfl rfl (by decide) (ex_k C (cs' := 0) (ss' := 0) (wF := (wX8 g a0 r0 x11)) [0, 1, 2, 3, 4, 5, 6, 7, 8, 9, 10, 11, 12, 13, 14] rfl rfl ?_)
    refine z_lv (lv' := [(0, .ref a0), (1, .int p1), (2, .int p2), (3, .int v3), (5, .int v5), (6, .int t0)]) [1, 2, 3, 4, 5, 0] rfl ?_
    exact m_X8_writeHand_126 (a0 := a0) (r0 := r0) hg C X hk22 v3 v5 t0 x11 h
def f_X8_writeHand_77 (N : Nat) (p1 : Int32) (p2 : Int32) (k22 : Int32 → Ob → Option (Int32 × Ob)) (v3 : Int32) (v4 : Int32) (t0 : Int32) (s0 : Ob) : Option (Int32 × Ob) := (if p2 = 0 then (chk (inb ((107 : Int32) + v4) 358) (ob (f_X8_only N ((s0.2.2.1 0) (((107 : Int32) + v4)).toNatClampNeg)) fun x8 => (f_X8_writeHand_114 N p1 p2 k22 v3 t0 x8 s0))) else (chk (inb ((27 : Int32) + v4) 358) (ob (f_X8_rankOf N ((s0.2.2.1 0) (((27 : Int32) + v4)).toNatClampNeg)) fun x13 => (f_X8_writeHand_114 N p1 p2 k22 v3 t0 (x13 - (1 : Int32)) s0))))
theorem m_X8_writeHand_77 {K : Kt} {g : Gp} {a0 : Nat} {r0 : Nat → Nat} {N : Nat} {p1 : Int32} {p2 : Int32} {res : Int32 × Ob} (hg : Ok g) (C : Cx K g cX8_writeHand RX8 7 (zrm 2 43)) (X : Rx K (exR (some (.int res.1)) (wX8 g a0 r0 res.2)) 0 0 (some .int)) {k22 : Int32 → Ob → Option (Int32 × Ob)} (hk22 : ∀ (v3 : Int32) (s0 : Ob), k22 v3 s0 = some res → Zs K 0 0 (wX8 g a0 r0 s0) [(0, .ref a0), (1, .int p1), (2, .int p2), (3, .int v3)] 22 []) (v3 : Int32) (v4 : Int32) (t0 : Int32) (s0 : Ob) (h : f_X8_writeHand_77 N p1 p2 k22 v3 v4 t0 s0 = some res) : Zs K 0 0 (wX8 g a0 r0 s0) [(0, .ref a0), (1, .int p1), (2, .int p2), (3, .int v3), (4, .int v4)] 77 [.int t0] := by
  unfold f_X8_writeHand_77 at h
  refine z_istore (pc := 77) C dX8_writeHand_77 (by decide) (lv' := [(5, .int t0), (0, .ref a0), (1, .int p1), (2, .int p2), (3, .int v3), (4, .int v4)]) rfl ?_
  refine z_iload_n (pc := 79) (x := p2) C dX8_writeHand_79 (i := 2) rfl rfl ?_
  refine z_if_eq (pc := 80) C dX8_writeHand_80 (tgt := 101) (by decide) (fun hc => ?_) (fun hc => ?_)
  · replace h := (ite_e h).1 hc
    refine z_aload_n (pc := 101) (x := a0) C dX8_writeHand_101 (i := 0) rfl rfl ?_
    refine z_get (pc := 102) (v := .ref (r0 0)) C 0 dX8_writeHand_102 fl_RX8_9 rfl rfl ?_
    refine z_bipush (pc := 105) C dX8_writeHand_105 bp_107 ?_
    refine z_iload (pc := 107) (x := v4) C dX8_writeHand_107 rfl ?_
    refine z_iadd (pc := 109) C dX8_writeHand_109 ?_
    replace h := chk_e h
    obtain ⟨hb7, h⟩ := h
    refine z_iald (pc := 110) C 1 dX8_writeHand_110 rfl hb7 ?_
    replace h := ob_e h
    obtain ⟨x8, hx8, h⟩ := h
    refine z_callS (pc := 111) (As := [.int ((s0.2.2.1 0) (((107 : Int32) + v4)).toNatClampNeg)]) (rest := []) (wr := (wX8 g a0 r0 s0)) C dX8_writeHand_111 ml_RX8_406 wt_X8_only (m_X8_only hg hx8) [] [0, 1, 2, 3, 4, 5, 6, 7, 8, 9, 10, 11, 12, 13, 14] rfl rfl ⟨by decide, by decide⟩ (Nat.le_of_ble_eq_true rfl) ⟨by decide, by decide⟩ rfl rfl rfl rfl (by decide) (ex_k C (cs' := 0) (ss' := 0) (wF := (wX8 g a0 r0 s0)) [0, 1, 2, 3, 4, 5, 6, 7, 8, 9, 10, 11, 12, 13, 14] rfl rfl ?_)
    refine z_lv (lv' := [(0, .ref a0), (1, .int p1), (2, .int p2), (3, .int v3), (5, .int t0)]) [1, 2, 3, 4, 0] rfl ?_
    exact m_X8_writeHand_114 (a0 := a0) (r0 := r0) hg C X hk22 v3 t0 x8 s0 h
  · replace h := (ite_e h).2 hc
    refine z_aload_n (pc := 83) (x := a0) C dX8_writeHand_83 (i := 0) rfl rfl ?_
    refine z_get (pc := 84) (v := .ref (r0 0)) C 0 dX8_writeHand_84 fl_RX8_9 rfl rfl ?_
    refine z_bipush (pc := 87) C dX8_writeHand_87 bp_27 ?_
    refine z_iload (pc := 89) (x := v4) C dX8_writeHand_89 rfl ?_
    refine z_iadd (pc := 91) C dX8_writeHand_91 ?_
    replace h := chk_e h
    obtain ⟨hb12, h⟩ := h
    refine z_iald (pc := 92) C 1 dX8_writeHand_92 rfl hb12 ?_
    replace h := ob_e h
    obtain ⟨x13, hx13, h⟩ := h
    refine z_callS (pc := 93) (As := [.int ((s0.2.2.1 0) (((27 : Int32) + v4)).toNatClampNeg)]) (rest := []) (wr := (wX8 g a0 r0 s0)) C dX8_writeHand_93 ml_RX8_74 wt_X8_rankOf (m_X8_rankOf hg hx13) [] [0, 1, 2, 3, 4, 5, 6, 7, 8, 9, 10, 11, 12, 13, 14] rfl rfl ⟨by decide, by decide⟩ (Nat.le_of_ble_eq_true rfl) ⟨by decide, by decide⟩ rfl rfl rfl rfl (by decide) (ex_k C (cs' := 0) (ss' := 0) (wF := (wX8 g a0 r0 s0)) [0, 1, 2, 3, 4, 5, 6, 7, 8, 9, 10, 11, 12, 13, 14] rfl rfl ?_)
    refine z_iconst (pc := 96) C dX8_writeHand_96 ic_1 ?_
    refine z_isub (pc := 97) C dX8_writeHand_97 ?_
    refine z_goto (pc := 98) C dX8_writeHand_98 (tgt := 114) (by decide) ?_
    refine z_lv (lv' := [(0, .ref a0), (1, .int p1), (2, .int p2), (3, .int v3), (5, .int t0)]) [1, 2, 3, 4, 0] rfl ?_
    exact m_X8_writeHand_114 (a0 := a0) (r0 := r0) hg C X hk22 v3 t0 (x13 - (1 : Int32)) s0 h
def F_X8_writeHand_22 (N : Nat) (p1 : Int32) (p2 : Int32)  (k22 : Int32 → Ob → Option (Int32 × Ob)) (v3 : Int32) (s0 : Ob) : Option (Int32 × Ob) := (chk (inb ((187 : Int32) + p1) 358) (if ((s0.2.2.1 0) (((187 : Int32) + p1)).toNatClampNeg) ≤ v3 then (some ((s0.1 30), s0)) else (ob (f_X8_held N s0 p1 v3) fun x4 => (if p2 = 0 then (chk (inb ((67 : Int32) + x4) 358) (ob (f_X8_only N ((s0.2.2.1 0) (((67 : Int32) + x4)).toNatClampNeg)) fun x6 => (f_X8_writeHand_77 N p1 p2 k22 v3 x4 x6 s0))) else (chk (inb ((27 : Int32) + x4) 358) (ob (f_X8_colorOf N ((s0.2.2.1 0) (((27 : Int32) + x4)).toNatClampNeg)) fun x15 => (f_X8_writeHand_77 N p1 p2 k22 v3 x4 x15 s0)))))))
def f_X8_writeHand_22 (N : Nat) (p1 : Int32) (p2 : Int32)  : Nat → Int32 → Ob → Option (Int32 × Ob) := zlp (fun _ _ => none) (F_X8_writeHand_22 N p1 p2)
theorem m_X8_writeHand_22 {K : Kt} {g : Gp} {a0 : Nat} {r0 : Nat → Nat} {N : Nat} {p1 : Int32} {p2 : Int32} {res : Int32 × Ob} (hg : Ok g) (C : Cx K g cX8_writeHand RX8 7 (zrm 2 43)) (X : Rx K (exR (some (.int res.1)) (wX8 g a0 r0 res.2)) 0 0 (some .int)) : ∀ (n : Nat) (v3 : Int32) (s0 : Ob), f_X8_writeHand_22 N p1 p2 n v3 s0 = some res → Zs K 0 0 (wX8 g a0 r0 s0) [(0, .ref a0), (1, .int p1), (2, .int p2), (3, .int v3)] 22 [] := by
  intro n
  induction n with
  | zero => intro v3 s0 h; exact nomatch (show (none : Option (Int32 × Ob)) = some res from h)
  | succ n hk22 =>
    intro v3 s0 h
    replace h : F_X8_writeHand_22 N p1 p2 (f_X8_writeHand_22 N p1 p2 n) v3 s0 = some res := h
    unfold F_X8_writeHand_22 at h
    refine z_iload_n (pc := 22) (x := v3) C dX8_writeHand_22 (i := 3) rfl rfl ?_
    refine z_aload_n (pc := 23) (x := a0) C dX8_writeHand_23 (i := 0) rfl rfl ?_
    refine z_get (pc := 24) (v := .ref (r0 0)) C 0 dX8_writeHand_24 fl_RX8_9 rfl rfl ?_
    refine z_sipush (pc := 27) C dX8_writeHand_27 sp_187 ?_
    refine z_iload_n (pc := 30) (x := p1) C dX8_writeHand_30 (i := 1) rfl rfl ?_
    refine z_iadd (pc := 31) C dX8_writeHand_31 ?_
    replace h := chk_e h
    obtain ⟨hb3, h⟩ := h
    refine z_iald (pc := 32) C 1 dX8_writeHand_32 rfl hb3 ?_
    refine z_icmp_ge (pc := 33) C dX8_writeHand_33 (tgt := 172) (by decide) (fun hc => ?_) (fun hc => ?_)
    · replace h := (ite_e h).1 hc
      refine z_aload_n (pc := 172) (x := a0) C dX8_writeHand_172 (i := 0) rfl rfl ?_
      refine z_get (pc := 173) (v := .int (s0.1 30)) C 0 dX8_writeHand_173 fl_RX8_403 rfl rfl ?_
      exact z_iret C X dX8_writeHand_176 (by rw [← Option.some.inj h]; exact ⟨rfl, rfl⟩) (by decide) (by decide)
    · replace h := (ite_e h).2 hc
      refine z_aload_n (pc := 36) (x := a0) C dX8_writeHand_36 (i := 0) rfl rfl ?_
      refine z_iload_n (pc := 37) (x := p1) C dX8_writeHand_37 (i := 1) rfl rfl ?_
      refine z_iload_n (pc := 38) (x := v3) C dX8_writeHand_38 (i := 3) rfl rfl ?_
      replace h := ob_e h
      obtain ⟨x4, hx4, h⟩ := h
      refine z_callV (pc := 39) (As := [.int p1, .int v3]) (rest := []) (wr := ([] : va_W)) C dX8_writeHand_39 ml_RX8_217 wv_X8_held (m_X8_held (a0 := a0) (r0 := r0) hg hx4) [0, 1, 2, 3, 4, 5, 6, 7, 8, 9, 10, 11, 12, 13, 14] [] rfl rfl ⟨by decide, by decide⟩ (Nat.le_of_ble_eq_true rfl) ⟨by decide, by decide⟩ rfl rfl rfl rfl rfl rfl rfl (by decide) (ex_k C (cs' := 0) (ss' := 0) (wF := (wX8 g a0 r0 s0)) [0, 1, 2, 3, 4, 5, 6, 7, 8, 9, 10, 11, 12, 13, 14] rfl rfl ?_)
      refine z_istore (pc := 42) C dX8_writeHand_42 (by decide) (lv' := [(4, .int x4), (0, .ref a0), (1, .int p1), (2, .int p2), (3, .int v3)]) rfl ?_
      refine z_iload_n (pc := 44) (x := p2) C dX8_writeHand_44 (i := 2) rfl rfl ?_
      refine z_if_eq (pc := 45) C dX8_writeHand_45 (tgt := 64) (by decide) (fun hc => ?_) (fun hc => ?_)
      · replace h := (ite_e h).1 hc
        refine z_aload_n (pc := 64) (x := a0) C dX8_writeHand_64 (i := 0) rfl rfl ?_
        refine z_get (pc := 65) (v := .ref (r0 0)) C 0 dX8_writeHand_65 fl_RX8_9 rfl rfl ?_
        refine z_bipush (pc := 68) C dX8_writeHand_68 bp_67 ?_
        refine z_iload (pc := 70) (x := x4) C dX8_writeHand_70 rfl ?_
        refine z_iadd (pc := 72) C dX8_writeHand_72 ?_
        replace h := chk_e h
        obtain ⟨hb5, h⟩ := h
        refine z_iald (pc := 73) C 1 dX8_writeHand_73 rfl hb5 ?_
        replace h := ob_e h
        obtain ⟨x6, hx6, h⟩ := h
        refine z_callS (pc := 74) (As := [.int ((s0.2.2.1 0) (((67 : Int32) + x4)).toNatClampNeg)]) (rest := []) (wr := (wX8 g a0 r0 s0)) C dX8_writeHand_74 ml_RX8_406 wt_X8_only (m_X8_only hg hx6) [] [0, 1, 2, 3, 4, 5, 6, 7, 8, 9, 10, 11, 12, 13, 14] rfl rfl ⟨by decide, by decide⟩ (Nat.le_of_ble_eq_true rfl) ⟨by decide, by decide⟩ rfl rfl rfl rfl (by decide) (ex_k C (cs' := 0) (ss' := 0) (wF := (wX8 g a0 r0 s0)) [0, 1, 2, 3, 4, 5, 6, 7, 8, 9, 10, 11, 12, 13, 14] rfl rfl ?_)
        refine z_lv (lv' := [(0, .ref a0), (1, .int p1), (2, .int p2), (3, .int v3), (4, .int x4)]) [1, 2, 3, 4, 0] rfl ?_
        exact m_X8_writeHand_77 (a0 := a0) (r0 := r0) hg C X hk22 v3 x4 x6 s0 h
      · replace h := (ite_e h).2 hc
        refine z_aload_n (pc := 48) (x := a0) C dX8_writeHand_48 (i := 0) rfl rfl ?_
        refine z_get (pc := 49) (v := .ref (r0 0)) C 0 dX8_writeHand_49 fl_RX8_9 rfl rfl ?_
        refine z_bipush (pc := 52) C dX8_writeHand_52 bp_27 ?_
        refine z_iload (pc := 54) (x := x4) C dX8_writeHand_54 rfl ?_
        refine z_iadd (pc := 56) C dX8_writeHand_56 ?_
        replace h := chk_e h
        obtain ⟨hb14, h⟩ := h
        refine z_iald (pc := 57) C 1 dX8_writeHand_57 rfl hb14 ?_
        replace h := ob_e h
        obtain ⟨x15, hx15, h⟩ := h
        refine z_callS (pc := 58) (As := [.int ((s0.2.2.1 0) (((27 : Int32) + x4)).toNatClampNeg)]) (rest := []) (wr := (wX8 g a0 r0 s0)) C dX8_writeHand_58 ml_RX8_70 wt_X8_colorOf (m_X8_colorOf hg hx15) [] [0, 1, 2, 3, 4, 5, 6, 7, 8, 9, 10, 11, 12, 13, 14] rfl rfl ⟨by decide, by decide⟩ (Nat.le_of_ble_eq_true rfl) ⟨by decide, by decide⟩ rfl rfl rfl rfl (by decide) (ex_k C (cs' := 0) (ss' := 0) (wF := (wX8 g a0 r0 s0)) [0, 1, 2, 3, 4, 5, 6, 7, 8, 9, 10, 11, 12, 13, 14] rfl rfl ?_)
        refine z_goto (pc := 61) C dX8_writeHand_61 (tgt := 77) (by decide) ?_
        refine z_lv (lv' := [(0, .ref a0), (1, .int p1), (2, .int p2), (3, .int v3), (4, .int x4)]) [1, 2, 3, 4, 0] rfl ?_
        exact m_X8_writeHand_77 (a0 := a0) (r0 := r0) hg C X hk22 v3 x4 x15 s0 h
def f_X8_writeHand (N : Nat) (s0 : Ob) (p1 : Int32) (p2 : Int32) : Option (Int32 × Ob) := (ob (f_X8_isPlayer N s0 p1) fun x1 => (ob (f_X8_isThrown N s0 x1 (1 : Int32)) fun x2 => (if x2.1 = 0 then (f_X8_writeHand_22 N p1 p2 N (0 : Int32) (si x2.2 30 (0 : Int32))) else (some ((0 : Int32), x2.2)))))
theorem m_X8_writeHand {g : Gp} {a0 : Nat} {r0 : Nat → Nat} {N : Nat} {s0 : Ob} {p1 : Int32} {p2 : Int32} {res : Int32 × Ob} (hg : Ok g) (h : f_X8_writeHand N s0 p1 p2 = some res) : Ct g yX8_writeHand cX8_writeHand 7 (some .int) (zrm 2 43) [.ref a0, .int p1, .int p2] (wX8 g a0 r0 s0) (exR (some (.int res.1)) (wX8 g a0 r0 res.2)) := by
  refine ct_of rfl hg (by show _ ≤ _; exact Nat.le_of_ble_eq_true rfl) (fun K C X => ?_)
  show Zs K 0 0 (wX8 g a0 r0 s0) [(0, .ref a0), (1, .int p1), (2, .int p2)] 0 []
  unfold f_X8_writeHand at h
  refine z_aload_n (pc := 0) (x := a0) C dX8_writeHand_0 (i := 0) rfl rfl ?_
  refine z_aload_n (pc := 1) (x := a0) C dX8_writeHand_1 (i := 0) rfl rfl ?_
  refine z_iload_n (pc := 2) (x := p1) C dX8_writeHand_2 (i := 1) rfl rfl ?_
  replace h := ob_e h
  obtain ⟨x1, hx1, h⟩ := h
  refine z_callV (pc := 3) (As := [.int p1]) (rest := [.ref a0]) (wr := ([] : va_W)) C dX8_writeHand_3 ml_RX8_66 wv_X8_isPlayer (m_X8_isPlayer (a0 := a0) (r0 := r0) hg hx1) [0, 1, 2, 3, 4, 5, 6, 7, 8, 9, 10, 11, 12, 13, 14] [] rfl rfl ⟨by decide, by decide⟩ (Nat.le_of_ble_eq_true rfl) ⟨by decide, by decide⟩ rfl rfl rfl rfl rfl rfl rfl (by decide) (ex_k C (cs' := 0) (ss' := 0) (wF := (wX8 g a0 r0 s0)) [0, 1, 2, 3, 4, 5, 6, 7, 8, 9, 10, 11, 12, 13, 14] rfl rfl ?_)
  refine z_iconst (pc := 6) C dX8_writeHand_6 ic_1 ?_
  replace h := ob_e h
  obtain ⟨x2, hx2, h⟩ := h
  refine z_callV (pc := 7) (As := [.int x1, .int (1 : Int32)]) (rest := []) (wr := ([] : va_W)) C dX8_writeHand_7 ml_RX8_206 wv_X8_isThrown (m_X8_isThrown (a0 := a0) (r0 := r0) hg hx2) [0, 1, 2, 3, 4, 5, 6, 7, 8, 9, 10, 11, 12, 13, 14] [] rfl rfl ⟨by decide, by decide⟩ (Nat.le_of_ble_eq_true rfl) ⟨by decide, by decide⟩ rfl rfl rfl rfl rfl rfl rfl (by decide) (ex_k C (cs' := 0) (ss' := 0) (wF := (wX8 g a0 r0 x2.2)) [0, 1, 2, 3, 4, 5, 6, 7, 8, 9, 10, 11, 12, 13, 14] rfl rfl ?_)
  refine z_if_eq (pc := 10) C dX8_writeHand_10 (tgt := 15) (by decide) (fun hc => ?_) (fun hc => ?_)
  · replace h := (ite_e h).1 hc
    refine z_aload_n (pc := 15) (x := a0) C dX8_writeHand_15 (i := 0) rfl rfl ?_
    refine z_iconst (pc := 16) C dX8_writeHand_16 ic_0 ?_
    refine z_put (pc := 17) C 0 dX8_writeHand_17 fp_RX8_403 rfl rfl rfl (zlt_b rfl) (ws' := (wX8 g a0 r0 (si x2.2 30 (0 : Int32)))) rfl ?_
    refine z_iconst (pc := 20) C dX8_writeHand_20 ic_0 ?_
    refine z_istore_n (pc := 21) C dX8_writeHand_21 (i := 3) rfl (by decide) (lv' := [(3, .int (0 : Int32)), (0, .ref a0), (1, .int p1), (2, .int p2)]) rfl ?_
    refine z_lv (lv' := [(0, .ref a0), (1, .int p1), (2, .int p2), (3, .int (0 : Int32))]) [1, 2, 3, 0] rfl ?_
    exact m_X8_writeHand_22 (a0 := a0) (r0 := r0) hg C X N (0 : Int32) (si x2.2 30 (0 : Int32)) h
  · replace h := (ite_e h).2 hc
    refine z_iconst (pc := 13) C dX8_writeHand_13 ic_0 ?_
    exact z_iret C X dX8_writeHand_14 (by rw [← Option.some.inj h]; exact ⟨rfl, rfl⟩) (by decide) (by decide)
def f_X8_outputByte (N : Nat) (s0 : Ob) (p1 : Int32) : Option (Int32 × Ob) := (ob (f_X8_in N p1 (0 : Int32) ((s0.1 30) - (1 : Int32))) fun x1 => (if x1 = 0 then (some ((-1 : Int32), (si s0 7 (0 : Int32)))) else (chk (inb p1 20) (some (((s0.2.2.1 29) (p1).toNatClampNeg), (si s0 7 (0 : Int32)))))))
theorem m_X8_outputByte {g : Gp} {a0 : Nat} {r0 : Nat → Nat} {N : Nat} {s0 : Ob} {p1 : Int32} {res : Int32 × Ob} (hg : Ok g) (h : f_X8_outputByte N s0 p1 = some res) : Ct g yX8_outputByte cX8_outputByte 2 (some .int) (zrm 1 22) [.ref a0, .int p1] (wX8 g a0 r0 s0) (exR (some (.int res.1)) (wX8 g a0 r0 res.2)) := by
  refine ct_of rfl hg (by show _ ≤ _; exact Nat.le_of_ble_eq_true rfl) (fun K C X => ?_)
  show Zs K 0 0 (wX8 g a0 r0 s0) [(0, .ref a0), (1, .int p1)] 0 []
  unfold f_X8_outputByte at h
  refine z_aload_n (pc := 0) (x := a0) C dX8_outputByte_0 (i := 0) rfl rfl ?_
  refine z_iconst (pc := 1) C dX8_outputByte_1 ic_0 ?_
  refine z_put (pc := 2) C 0 dX8_outputByte_2 fp_RX8_59 rfl rfl rfl (zlt_b rfl) (ws' := (wX8 g a0 r0 (si s0 7 (0 : Int32)))) rfl ?_
  refine z_iload_n (pc := 5) (x := p1) C dX8_outputByte_5 (i := 1) rfl rfl ?_
  refine z_iconst (pc := 6) C dX8_outputByte_6 ic_0 ?_
  refine z_aload_n (pc := 7) (x := a0) C dX8_outputByte_7 (i := 0) rfl rfl ?_
  refine z_get (pc := 8) (v := .int (s0.1 30)) C 0 dX8_outputByte_8 fl_RX8_403 rfl rfl ?_
  refine z_iconst (pc := 11) C dX8_outputByte_11 ic_1 ?_
  refine z_isub (pc := 12) C dX8_outputByte_12 ?_
  replace h := ob_e h
  obtain ⟨x1, hx1, h⟩ := h
  refine z_callS (pc := 13) (As := [.int p1, .int (0 : Int32), .int ((s0.1 30) - (1 : Int32))]) (rest := []) (wr := (wX8 g a0 r0 (si s0 7 (0 : Int32)))) C dX8_outputByte_13 ml_RX8_62 wt_X8_in (m_X8_in hg hx1) [] [0, 1, 2, 3, 4, 5, 6, 7, 8, 9, 10, 11, 12, 13, 14] rfl rfl ⟨by decide, by decide⟩ (Nat.le_of_ble_eq_true rfl) ⟨by decide, by decide⟩ rfl rfl rfl rfl (by decide) (ex_k C (cs' := 0) (ss' := 0) (wF := (wX8 g a0 r0 (si s0 7 (0 : Int32)))) [0, 1, 2, 3, 4, 5, 6, 7, 8, 9, 10, 11, 12, 13, 14] rfl rfl ?_)
  refine z_if_eq (pc := 16) C dX8_outputByte_16 (tgt := 28) (by decide) (fun hc => ?_) (fun hc => ?_)
  · replace h := (ite_e h).1 hc
    refine z_iconst (pc := 28) C dX8_outputByte_28 ic_m1 ?_
    exact z_iret C X dX8_outputByte_29 (by rw [← Option.some.inj h]; exact ⟨rfl, rfl⟩) (by decide) (by decide)
  · replace h := (ite_e h).2 hc
    refine z_aload_n (pc := 19) (x := a0) C dX8_outputByte_19 (i := 0) rfl rfl ?_
    refine z_get (pc := 20) (v := .ref (r0 29)) C 0 dX8_outputByte_20 fl_RX8_56 rfl rfl ?_
    refine z_iload_n (pc := 23) (x := p1) C dX8_outputByte_23 (i := 1) rfl rfl ?_
    replace h := chk_e h
    obtain ⟨hb2, h⟩ := h
    refine z_bald (pc := 24) C 14 dX8_outputByte_24 rfl hb2 ?_
    refine z_goto (pc := 25) C dX8_outputByte_25 (tgt := 29) (by decide) ?_
    exact z_iret C X dX8_outputByte_29 (by rw [← Option.some.inj h]; exact ⟨rfl, rfl⟩) (by decide) (by decide)
def f_X8_saveSnapshot (N : Nat) (s0 : Ob) (p1 : Int32) : Option (Int32 × Ob) := (ob (f_X8_in N p1 (0 : Int32) (1 : Int32)) fun x1 => (ob (f_X8_isThrown N s0 x1 (1 : Int32)) fun x2 => (if x2.1 = 0 then (ob (f_X8_copies N 358 716 (x2.2.2.2.1 0) (x2.2.2.2.1 4) (0 : Int32) p1) fun x3 => (znm (sa x2.2 4 x3) fun y4 => (chk (inb p1 2) (ob (f_X8_score N (sa y4 5 (upd (y4.2.2.1 5) (p1).toNatClampNeg (vp_nar .boolean (1 : Int32))))) fun x6 => (some (x6, (sa y4 5 (upd (y4.2.2.1 5) (p1).toNatClampNeg (vp_nar .boolean (1 : Int32)))))))))) else (some ((0 : Int32), x2.2)))))
theorem m_X8_saveSnapshot {g : Gp} {a0 : Nat} {r0 : Nat → Nat} {N : Nat} {s0 : Ob} {p1 : Int32} {res : Int32 × Ob} (hg : Ok g) (h : f_X8_saveSnapshot N s0 p1 = some res) : Ct g yX8_saveSnapshot cX8_saveSnapshot 2 (some .int) (zrm 1 24) [.ref a0, .int p1] (wX8 g a0 r0 s0) (exR (some (.int res.1)) (wX8 g a0 r0 res.2)) := by
  refine ct_of rfl hg (by show _ ≤ _; exact Nat.le_of_ble_eq_true rfl) (fun K C X => ?_)
  show Zs K 0 0 (wX8 g a0 r0 s0) [(0, .ref a0), (1, .int p1)] 0 []
  unfold f_X8_saveSnapshot at h
  refine z_aload_n (pc := 0) (x := a0) C dX8_saveSnapshot_0 (i := 0) rfl rfl ?_
  refine z_iload_n (pc := 1) (x := p1) C dX8_saveSnapshot_1 (i := 1) rfl rfl ?_
  refine z_iconst (pc := 2) C dX8_saveSnapshot_2 ic_0 ?_
  refine z_iconst (pc := 3) C dX8_saveSnapshot_3 ic_1 ?_
  replace h := ob_e h
  obtain ⟨x1, hx1, h⟩ := h
  refine z_callS (pc := 4) (As := [.int p1, .int (0 : Int32), .int (1 : Int32)]) (rest := [.ref a0]) (wr := (wX8 g a0 r0 s0)) C dX8_saveSnapshot_4 ml_RX8_62 wt_X8_in (m_X8_in hg hx1) [] [0, 1, 2, 3, 4, 5, 6, 7, 8, 9, 10, 11, 12, 13, 14] rfl rfl ⟨by decide, by decide⟩ (Nat.le_of_ble_eq_true rfl) ⟨by decide, by decide⟩ rfl rfl rfl rfl (by decide) (ex_k C (cs' := 0) (ss' := 0) (wF := (wX8 g a0 r0 s0)) [0, 1, 2, 3, 4, 5, 6, 7, 8, 9, 10, 11, 12, 13, 14] rfl rfl ?_)
  refine z_iconst (pc := 7) C dX8_saveSnapshot_7 ic_1 ?_
  replace h := ob_e h
  obtain ⟨x2, hx2, h⟩ := h
  refine z_callV (pc := 8) (As := [.int x1, .int (1 : Int32)]) (rest := []) (wr := ([] : va_W)) C dX8_saveSnapshot_8 ml_RX8_206 wv_X8_isThrown (m_X8_isThrown (a0 := a0) (r0 := r0) hg hx2) [0, 1, 2, 3, 4, 5, 6, 7, 8, 9, 10, 11, 12, 13, 14] [] rfl rfl ⟨by decide, by decide⟩ (Nat.le_of_ble_eq_true rfl) ⟨by decide, by decide⟩ rfl rfl rfl rfl rfl rfl rfl (by decide) (ex_k C (cs' := 0) (ss' := 0) (wF := (wX8 g a0 r0 x2.2)) [0, 1, 2, 3, 4, 5, 6, 7, 8, 9, 10, 11, 12, 13, 14] rfl rfl ?_)
  refine z_if_eq (pc := 11) C dX8_saveSnapshot_11 (tgt := 16) (by decide) (fun hc => ?_) (fun hc => ?_)
  · replace h := (ite_e h).1 hc
    refine z_aload_n (pc := 16) (x := a0) C dX8_saveSnapshot_16 (i := 0) rfl rfl ?_
    refine z_get (pc := 17) (v := .ref (r0 0)) C 0 dX8_saveSnapshot_17 fl_RX8_9 rfl rfl ?_
    refine z_iconst (pc := 20) C dX8_saveSnapshot_20 ic_0 ?_
    refine z_aload_n (pc := 21) (x := a0) C dX8_saveSnapshot_21 (i := 0) rfl rfl ?_
    refine z_get (pc := 22) (v := .ref (r0 4)) C 0 dX8_saveSnapshot_22 fl_RX8_22 rfl rfl ?_
    refine z_iload_n (pc := 25) (x := p1) C dX8_saveSnapshot_25 (i := 1) rfl rfl ?_
    replace h := ob_e h
    obtain ⟨x3, hx3, h⟩ := h
    refine z_callS (pc := 26) (As := [.ref (r0 0), .int (0 : Int32), .ref (r0 4), .int p1]) (rest := []) (wr := ((((wX8 g a0 r0 x2.2).eraseIdx 5).eraseIdx 1))) C dX8_saveSnapshot_26 ml_RX8_197 wt_X8_copies (m_X8_copies (a0 := (r0 0)) (a2 := (r0 4)) hg hx3) [1, 5] [0, 2, 3, 4, 6, 7, 8, 9, 10, 11, 12, 13, 14] rfl rfl ⟨by decide, by decide⟩ (Nat.le_of_ble_eq_true rfl) ⟨by decide, by decide⟩ rfl rfl rfl rfl (by decide) (ex_k C (cs' := 0) (ss' := 0) (wF := (wX8 g a0 r0 (sa x2.2 4 x3))) [0, 13, 1, 2, 3, 14, 4, 5, 6, 7, 8, 9, 10, 11, 12] rfl rfl ?_)
    refine z_aload_n (pc := 29) (x := a0) C dX8_saveSnapshot_29 (i := 0) rfl rfl ?_
    refine z_get (pc := 30) (v := .ref (r0 5)) C 0 dX8_saveSnapshot_30 fl_RX8_25 rfl rfl ?_
    refine z_iload_n (pc := 33) (x := p1) C dX8_saveSnapshot_33 (i := 1) rfl rfl ?_
    refine z_iconst (pc := 34) C dX8_saveSnapshot_34 ic_1 ?_
    replace h := znm_e h
    obtain ⟨y4, hy4, h⟩ := h
    refine z_wsE (ws' := (wX8 g a0 r0 y4)) (by rw [hy4]) ?_
    replace h := chk_e h
    obtain ⟨hb5, h⟩ := h
    refine z_zast (pc := 35) C 6 dX8_saveSnapshot_35 rfl hb5 (ws' := (wX8 g a0 r0 (sa y4 5 (upd (y4.2.2.1 5) (p1).toNatClampNeg (vp_nar .boolean (1 : Int32)))))) rfl ?_
    refine z_aload_n (pc := 36) (x := a0) C dX8_saveSnapshot_36 (i := 0) rfl rfl ?_
    replace h := ob_e h
    obtain ⟨x6, hx6, h⟩ := h
    refine z_callV (pc := 37) (As := []) (rest := []) (wr := ([] : va_W)) C dX8_saveSnapshot_37 ml_RX8_210 wv_X8_score (m_X8_score (a0 := a0) (r0 := r0) hg hx6) [0, 1, 2, 3, 4, 5, 6, 7, 8, 9, 10, 11, 12, 13, 14] [] rfl rfl ⟨by decide, by decide⟩ (Nat.le_of_ble_eq_true rfl) ⟨by decide, by decide⟩ rfl rfl rfl rfl rfl rfl rfl (by decide) (ex_k C (cs' := 0) (ss' := 0) (wF := (wX8 g a0 r0 (sa y4 5 (upd (y4.2.2.1 5) (p1).toNatClampNeg (vp_nar .boolean (1 : Int32)))))) [0, 1, 2, 3, 4, 5, 6, 7, 8, 9, 10, 11, 12, 13, 14] rfl rfl ?_)
    exact z_iret C X dX8_saveSnapshot_40 (by rw [← Option.some.inj h]; exact ⟨rfl, rfl⟩) (by decide) (by decide)
  · replace h := (ite_e h).2 hc
    refine z_iconst (pc := 14) C dX8_saveSnapshot_14 ic_0 ?_
    exact z_iret C X dX8_saveSnapshot_15 (by rw [← Option.some.inj h]; exact ⟨rfl, rfl⟩) (by decide) (by decide)
def f_X8_restoreSnapshot (N : Nat) (s0 : Ob) (p1 : Int32) : Option (Int32 × Ob) := (ob (f_X8_in N p1 (0 : Int32) (1 : Int32)) fun x1 => (ob (f_X8_isThrown N s0 x1 (1 : Int32)) fun x2 => (if x2.1 = 0 then (chk (inb p1 2) (if ((x2.2.2.2.1 5) (p1).toNatClampNeg) = 0 then (some ((-1 : Int32), x2.2)) else (ob (f_X8_copies N 716 358 (x2.2.2.2.1 4) (x2.2.2.2.1 0) p1 (0 : Int32)) fun x4 => (znm (sa x2.2 0 x4) fun y5 => (ob (f_X8_score N (si y5 6 (0 : Int32))) fun x6 => (some (x6, (si y5 6 (0 : Int32))))))))) else (some ((0 : Int32), x2.2)))))
theorem m_X8_restoreSnapshot {g : Gp} {a0 : Nat} {r0 : Nat → Nat} {N : Nat} {s0 : Ob} {p1 : Int32} {res : Int32 × Ob} (hg : Ok g) (h : f_X8_restoreSnapshot N s0 p1 = some res) : Ct g yX8_restoreSnapshot cX8_restoreSnapshot 2 (some .int) (zrm 1 24) [.ref a0, .int p1] (wX8 g a0 r0 s0) (exR (some (.int res.1)) (wX8 g a0 r0 res.2)) := by
  refine ct_of rfl hg (by show _ ≤ _; exact Nat.le_of_ble_eq_true rfl) (fun K C X => ?_)
  show Zs K 0 0 (wX8 g a0 r0 s0) [(0, .ref a0), (1, .int p1)] 0 []
  unfold f_X8_restoreSnapshot at h
  refine z_aload_n (pc := 0) (x := a0) C dX8_restoreSnapshot_0 (i := 0) rfl rfl ?_
  refine z_iload_n (pc := 1) (x := p1) C dX8_restoreSnapshot_1 (i := 1) rfl rfl ?_
  refine z_iconst (pc := 2) C dX8_restoreSnapshot_2 ic_0 ?_
  refine z_iconst (pc := 3) C dX8_restoreSnapshot_3 ic_1 ?_
  replace h := ob_e h
  obtain ⟨x1, hx1, h⟩ := h
  refine z_callS (pc := 4) (As := [.int p1, .int (0 : Int32), .int (1 : Int32)]) (rest := [.ref a0]) (wr := (wX8 g a0 r0 s0)) C dX8_restoreSnapshot_4 ml_RX8_62 wt_X8_in (m_X8_in hg hx1) [] [0, 1, 2, 3, 4, 5, 6, 7, 8, 9, 10, 11, 12, 13, 14] rfl rfl ⟨by decide, by decide⟩ (Nat.le_of_ble_eq_true rfl) ⟨by decide, by decide⟩ rfl rfl rfl rfl (by decide) (ex_k C (cs' := 0) (ss' := 0) (wF := (wX8 g a0 r0 s0)) [0, 1, 2, 3, 4, 5, 6, 7, 8, 9, 10, 11, 12, 13, 14] rfl rfl ?_)
  refine z_iconst (pc := 7) C dX8_restoreSnapshot_7 ic_1 ?_
  replace h := ob_e h
  obtain ⟨x2, hx2, h⟩ := h
  refine z_callV (pc := 8) (As := [.int x1, .int (1 : Int32)]) (rest := []) (wr := ([] : va_W)) C dX8_restoreSnapshot_8 ml_RX8_206 wv_X8_isThrown (m_X8_isThrown (a0 := a0) (r0 := r0) hg hx2) [0, 1, 2, 3, 4, 5, 6, 7, 8, 9, 10, 11, 12, 13, 14] [] rfl rfl ⟨by decide, by decide⟩ (Nat.le_of_ble_eq_true rfl) ⟨by decide, by decide⟩ rfl rfl rfl rfl rfl rfl rfl (by decide) (ex_k C (cs' := 0) (ss' := 0) (wF := (wX8 g a0 r0 x2.2)) [0, 1, 2, 3, 4, 5, 6, 7, 8, 9, 10, 11, 12, 13, 14] rfl rfl ?_)
  refine z_if_eq (pc := 11) C dX8_restoreSnapshot_11 (tgt := 16) (by decide) (fun hc => ?_) (fun hc => ?_)
  · replace h := (ite_e h).1 hc
    refine z_aload_n (pc := 16) (x := a0) C dX8_restoreSnapshot_16 (i := 0) rfl rfl ?_
    refine z_get (pc := 17) (v := .ref (r0 5)) C 0 dX8_restoreSnapshot_17 fl_RX8_25 rfl rfl ?_
    refine z_iload_n (pc := 20) (x := p1) C dX8_restoreSnapshot_20 (i := 1) rfl rfl ?_
    replace h := chk_e h
    obtain ⟨hb3, h⟩ := h
    refine z_zald (pc := 21) C 6 dX8_restoreSnapshot_21 rfl hb3 ?_
    refine z_if_ne (pc := 22) C dX8_restoreSnapshot_22 (tgt := 27) (by decide) (fun hc => ?_) (fun hc => ?_)
    · replace h := (ite_e h).2 hc
      refine z_aload_n (pc := 27) (x := a0) C dX8_restoreSnapshot_27 (i := 0) rfl rfl ?_
      refine z_get (pc := 28) (v := .ref (r0 4)) C 0 dX8_restoreSnapshot_28 fl_RX8_22 rfl rfl ?_
      refine z_iload_n (pc := 31) (x := p1) C dX8_restoreSnapshot_31 (i := 1) rfl rfl ?_
      refine z_aload_n (pc := 32) (x := a0) C dX8_restoreSnapshot_32 (i := 0) rfl rfl ?_
      refine z_get (pc := 33) (v := .ref (r0 0)) C 0 dX8_restoreSnapshot_33 fl_RX8_9 rfl rfl ?_
      refine z_iconst (pc := 36) C dX8_restoreSnapshot_36 ic_0 ?_
      replace h := ob_e h
      obtain ⟨x4, hx4, h⟩ := h
      refine z_callS (pc := 37) (As := [.ref (r0 4), .int p1, .ref (r0 0), .int (0 : Int32)]) (rest := []) (wr := ((((wX8 g a0 r0 x2.2).eraseIdx 5).eraseIdx 1))) C dX8_restoreSnapshot_37 ml_RX8_197 wt_X8_copies (m_X8_copies (a0 := (r0 4)) (a2 := (r0 0)) hg hx4) [5, 1] [0, 2, 3, 4, 6, 7, 8, 9, 10, 11, 12, 13, 14] rfl rfl ⟨by decide, by decide⟩ (Nat.le_of_ble_eq_true rfl) ⟨by decide, by decide⟩ rfl rfl rfl rfl (by decide) (ex_k C (cs' := 0) (ss' := 0) (wF := (wX8 g a0 r0 (sa x2.2 0 x4))) [0, 14, 1, 2, 3, 13, 4, 5, 6, 7, 8, 9, 10, 11, 12] rfl rfl ?_)
      refine z_aload_n (pc := 40) (x := a0) C dX8_restoreSnapshot_40 (i := 0) rfl rfl ?_
      refine z_iconst (pc := 41) C dX8_restoreSnapshot_41 ic_0 ?_
      replace h := znm_e h
      obtain ⟨y5, hy5, h⟩ := h
      refine z_wsE (ws' := (wX8 g a0 r0 y5)) (by rw [hy5]) ?_
      refine z_put (pc := 42) C 0 dX8_restoreSnapshot_42 fp_RX8_200 rfl rfl rfl (zlt_b rfl) (ws' := (wX8 g a0 r0 (si y5 6 (0 : Int32)))) rfl ?_
      refine z_aload_n (pc := 45) (x := a0) C dX8_restoreSnapshot_45 (i := 0) rfl rfl ?_
      replace h := ob_e h
      obtain ⟨x6, hx6, h⟩ := h
      refine z_callV (pc := 46) (As := []) (rest := []) (wr := ([] : va_W)) C dX8_restoreSnapshot_46 ml_RX8_210 wv_X8_score (m_X8_score (a0 := a0) (r0 := r0) hg hx6) [0, 1, 2, 3, 4, 5, 6, 7, 8, 9, 10, 11, 12, 13, 14] [] rfl rfl ⟨by decide, by decide⟩ (Nat.le_of_ble_eq_true rfl) ⟨by decide, by decide⟩ rfl rfl rfl rfl rfl rfl rfl (by decide) (ex_k C (cs' := 0) (ss' := 0) (wF := (wX8 g a0 r0 (si y5 6 (0 : Int32)))) [0, 1, 2, 3, 4, 5, 6, 7, 8, 9, 10, 11, 12, 13, 14] rfl rfl ?_)
      exact z_iret C X dX8_restoreSnapshot_49 (by rw [← Option.some.inj h]; exact ⟨rfl, rfl⟩) (by decide) (by decide)
    · replace h := (ite_e h).1 hc
      refine z_iconst (pc := 25) C dX8_restoreSnapshot_25 ic_m1 ?_
      exact z_iret C X dX8_restoreSnapshot_26 (by rw [← Option.some.inj h]; exact ⟨rfl, rfl⟩) (by decide) (by decide)
  · replace h := (ite_e h).2 hc
    refine z_iconst (pc := 14) C dX8_restoreSnapshot_14 ic_0 ?_
    exact z_iret C X dX8_restoreSnapshot_15 (by rw [← Option.some.inj h]; exact ⟨rfl, rfl⟩) (by decide) (by decide)
