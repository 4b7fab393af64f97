/-! OWN, written by wip/whole/tools/mkall.py: what each method does to its cells, and the walk that shows it -/
def f_X8_isCritical (N : Nat) (s0 : Ob) (p1 : Int32) (p2 : Int32) : Option (Int32 × Ob) := (ob (f_X8_isKind N s0 p1 p2) fun x1 => (ob (f_X8_isThrown N s0 x1 (1 : Int32)) fun x2 => (if x2.1 = 0 then (ob (f_X8_kind N p1 p2) fun x3 => (ob (f_X8_isCriticalKind N x2.2 x3) fun x4 => (if x4 = 0 then (some ((0 : Int32), x2.2)) else (some ((1 : Int32), x2.2))))) else (some ((0 : Int32), x2.2)))))
theorem m_X8_isCritical {g : Gp} {a0 : Nat} {r0 : Nat → Nat} {N : Nat} {s0 : Ob} {p1 : Int32} {p2 : Int32} {res : Int32 × Ob} (hg : Ok g) (h : f_X8_isCritical N s0 p1 p2 = some res) : Ct g yX8_isCritical cX8_isCritical 3 (some .boolean) (zrm 4 89) [.ref a0, .int p1, .int p2] (wX8 g a0 r0 s0) (exR (some (.int res.1)) (wX8 g a0 r0 res.2)) := by
  refine ct_of rfl hg (by show _ ≤ _; exact Nat.le_of_ble_eq_true rfl) (fun K C X => ?_)
  show Zs K 0 0 (wX8 g a0 r0 s0) [(0, .ref a0), (1, .int p1), (2, .int p2)] 0 []
  unfold f_X8_isCritical at h
  refine z_aload_n (pc := 0) (x := a0) C dX8_isCritical_0 (i := 0) rfl rfl ?_
  refine z_aload_n (pc := 1) (x := a0) C dX8_isCritical_1 (i := 0) rfl rfl ?_
  refine z_iload_n (pc := 2) (x := p1) C dX8_isCritical_2 (i := 1) rfl rfl ?_
  refine z_iload_n (pc := 3) (x := p2) C dX8_isCritical_3 (i := 2) rfl rfl ?_
  replace h := ob_e h
  obtain ⟨x1, hx1, h⟩ := h
  refine z_callV (pc := 4) (As := [.int p1, .int p2]) (rest := [.ref a0]) (wr := ([] : va_W)) C dX8_isCritical_4 ml_RX8_223 wv_X8_isKind (m_X8_isKind (a0 := a0) (r0 := r0) hg hx1) [0, 1, 2, 3, 4, 5, 6, 7, 8, 9, 10, 11, 12, 13, 14] [] rfl rfl ⟨by decide, by decide⟩ (Nat.le_of_ble_eq_true rfl) ⟨by decide, by decide⟩ rfl rfl rfl rfl rfl rfl rfl (by decide) (ex_k C (cs' := 0) (ss' := 0) (wF := (wX8 g a0 r0 s0)) [0, 1, 2, 3, 4, 5, 6, 7, 8, 9, 10, 11, 12, 13, 14] rfl rfl ?_)
  refine z_iconst (pc := 7) C dX8_isCritical_7 ic_1 ?_
  replace h := ob_e h
  obtain ⟨x2, hx2, h⟩ := h
  refine z_callV (pc := 8) (As := [.int x1, .int (1 : Int32)]) (rest := []) (wr := ([] : va_W)) C dX8_isCritical_8 ml_RX8_206 wv_X8_isThrown (m_X8_isThrown (a0 := a0) (r0 := r0) hg hx2) [0, 1, 2, 3, 4, 5, 6, 7, 8, 9, 10, 11, 12, 13, 14] [] rfl rfl ⟨by decide, by decide⟩ (Nat.le_of_ble_eq_true rfl) ⟨by decide, by decide⟩ rfl rfl rfl rfl rfl rfl rfl (by decide) (ex_k C (cs' := 0) (ss' := 0) (wF := (wX8 g a0 r0 x2.2)) [0, 1, 2, 3, 4, 5, 6, 7, 8, 9, 10, 11, 12, 13, 14] rfl rfl ?_)
  refine z_if_ne (pc := 11) C dX8_isCritical_11 (tgt := 30) (by decide) (fun hc => ?_) (fun hc => ?_)
  · replace h := (ite_e h).2 hc
    refine z_iconst (pc := 30) C dX8_isCritical_30 ic_0 ?_
    exact z_zret C X dX8_isCritical_31 rfl (by rw [← Option.some.inj h]; exact ⟨rfl, rfl⟩) (by decide) (by decide)
  · replace h := (ite_e h).1 hc
    refine z_aload_n (pc := 14) (x := a0) C dX8_isCritical_14 (i := 0) rfl rfl ?_
    refine z_iload_n (pc := 15) (x := p1) C dX8_isCritical_15 (i := 1) rfl rfl ?_
    refine z_iload_n (pc := 16) (x := p2) C dX8_isCritical_16 (i := 2) rfl rfl ?_
    replace h := ob_e h
    obtain ⟨x3, hx3, h⟩ := h
    refine z_callS (pc := 17) (As := [.int p1, .int p2]) (rest := [.ref a0]) (wr := (wX8 g a0 r0 x2.2)) C dX8_isCritical_17 ml_RX8_136 wt_X8_kind (m_X8_kind hg hx3) [] [0, 1, 2, 3, 4, 5, 6, 7, 8, 9, 10, 11, 12, 13, 14] rfl rfl ⟨by decide, by decide⟩ (Nat.le_of_ble_eq_true rfl) ⟨by decide, by decide⟩ rfl rfl rfl rfl (by decide) (ex_k C (cs' := 0) (ss' := 0) (wF := (wX8 g a0 r0 x2.2)) [0, 1, 2, 3, 4, 5, 6, 7, 8, 9, 10, 11, 12, 13, 14] rfl rfl ?_)
    replace h := ob_e h
    obtain ⟨x4, hx4, h⟩ := h
    refine z_callV (pc := 20) (As := [.int x3]) (rest := []) (wr := ([] : va_W)) C dX8_isCritical_20 ml_RX8_238 wv_X8_isCriticalKind (m_X8_isCriticalKind (a0 := a0) (r0 := r0) hg hx4) [0, 1, 2, 3, 4, 5, 6, 7, 8, 9, 10, 11, 12, 13, 14] [] rfl rfl ⟨by decide, by decide⟩ (Nat.le_of_ble_eq_true rfl) ⟨by decide, by decide⟩ rfl rfl rfl rfl rfl rfl rfl (by decide) (ex_k C (cs' := 0) (ss' := 0) (wF := (wX8 g a0 r0 x2.2)) [0, 1, 2, 3, 4, 5, 6, 7, 8, 9, 10, 11, 12, 13, 14] rfl rfl ?_)
    refine z_if_eq (pc := 23) C dX8_isCritical_23 (tgt := 30) (by decide) (fun hc => ?_) (fun hc => ?_)
    · replace h := (ite_e h).1 hc
      refine z_iconst (pc := 30) C dX8_isCritical_30 ic_0 ?_
      exact z_zret C X dX8_isCritical_31 rfl (by rw [← Option.some.inj h]; exact ⟨rfl, rfl⟩) (by decide) (by decide)
    · replace h := (ite_e h).2 hc
      refine z_iconst (pc := 26) C dX8_isCritical_26 ic_1 ?_
      refine z_goto (pc := 27) C dX8_isCritical_27 (tgt := 31) (by decide) ?_
      exact z_zret C X dX8_isCritical_31 rfl (by rw [← Option.some.inj h]; exact ⟨rfl, rfl⟩) (by decide) (by decide)
def f_X8_colorsOf (N : Nat) (s0 : Ob) (p1 : Int32) (p2 : Int32) : Option (Int32 × Ob) := (ob (f_X8_isPlace N s0 p1 p2) fun x1 => (ob (f_X8_isThrown N s0 x1 (1 : Int32)) fun x2 => (if x2.1 = 0 then (ob (f_X8_held N x2.2 p1 p2) fun x3 => (chk (inb ((67 : Int32) + x3) 358) (some (((x2.2.2.2.1 0) (((67 : Int32) + x3)).toNatClampNeg), x2.2)))) else (some ((0 : Int32), x2.2)))))
theorem m_X8_colorsOf {g : Gp} {a0 : Nat} {r0 : Nat → Nat} {N : Nat} {s0 : Ob} {p1 : Int32} {p2 : Int32} {res : Int32 × Ob} (hg : Ok g) (h : f_X8_colorsOf N s0 p1 p2 = some res) : Ct g yX8_colorsOf cX8_colorsOf 3 (some .int) (zrm 3 65) [.ref a0, .int p1, .int p2] (wX8 g a0 r0 s0) (exR (some (.int res.1)) (wX8 g a0 r0 res.2)) := by
  refine ct_of rfl hg (by show _ ≤ _; exact Nat.le_of_ble_eq_true rfl) (fun K C X => ?_)
  show Zs K 0 0 (wX8 g a0 r0 s0) [(0, .ref a0), (1, .int p1), (2, .int p2)] 0 []
  unfold f_X8_colorsOf at h
  refine z_aload_n (pc := 0) (x := a0) C dX8_colorsOf_0 (i := 0) rfl rfl ?_
  refine z_aload_n (pc := 1) (x := a0) C dX8_colorsOf_1 (i := 0) rfl rfl ?_
  refine z_iload_n (pc := 2) (x := p1) C dX8_colorsOf_2 (i := 1) rfl rfl ?_
  refine z_iload_n (pc := 3) (x := p2) C dX8_colorsOf_3 (i := 2) rfl rfl ?_
  replace h := ob_e h
  obtain ⟨x1, hx1, h⟩ := h
  refine z_callV (pc := 4) (As := [.int p1, .int p2]) (rest := [.ref a0]) (wr := ([] : va_W)) C dX8_colorsOf_4 ml_RX8_213 wv_X8_isPlace (m_X8_isPlace (a0 := a0) (r0 := r0) hg hx1) [0, 1, 2, 3, 4, 5, 6, 7, 8, 9, 10, 11, 12, 13, 14] [] rfl rfl ⟨by decide, by decide⟩ (Nat.le_of_ble_eq_true rfl) ⟨by decide, by decide⟩ rfl rfl rfl rfl rfl rfl rfl (by decide) (ex_k C (cs' := 0) (ss' := 0) (wF := (wX8 g a0 r0 s0)) [0, 1, 2, 3, 4, 5, 6, 7, 8, 9, 10, 11, 12, 13, 14] rfl rfl ?_)
  refine z_iconst (pc := 7) C dX8_colorsOf_7 ic_1 ?_
  replace h := ob_e h
  obtain ⟨x2, hx2, h⟩ := h
  refine z_callV (pc := 8) (As := [.int x1, .int (1 : Int32)]) (rest := []) (wr := ([] : va_W)) C dX8_colorsOf_8 ml_RX8_206 wv_X8_isThrown (m_X8_isThrown (a0 := a0) (r0 := r0) hg hx2) [0, 1, 2, 3, 4, 5, 6, 7, 8, 9, 10, 11, 12, 13, 14] [] rfl rfl ⟨by decide, by decide⟩ (Nat.le_of_ble_eq_true rfl) ⟨by decide, by decide⟩ rfl rfl rfl rfl rfl rfl rfl (by decide) (ex_k C (cs' := 0) (ss' := 0) (wF := (wX8 g a0 r0 x2.2)) [0, 1, 2, 3, 4, 5, 6, 7, 8, 9, 10, 11, 12, 13, 14] rfl rfl ?_)
  refine z_if_eq (pc := 11) C dX8_colorsOf_11 (tgt := 18) (by decide) (fun hc => ?_) (fun hc => ?_)
  · replace h := (ite_e h).1 hc
    refine z_aload_n (pc := 18) (x := a0) C dX8_colorsOf_18 (i := 0) rfl rfl ?_
    refine z_get (pc := 19) (v := .ref (r0 0)) C 0 dX8_colorsOf_19 fl_RX8_9 rfl rfl ?_
    refine z_bipush (pc := 22) C dX8_colorsOf_22 bp_67 ?_
    refine z_aload_n (pc := 24) (x := a0) C dX8_colorsOf_24 (i := 0) rfl rfl ?_
    refine z_iload_n (pc := 25) (x := p1) C dX8_colorsOf_25 (i := 1) rfl rfl ?_
    refine z_iload_n (pc := 26) (x := p2) C dX8_colorsOf_26 (i := 2) rfl rfl ?_
    replace h := ob_e h
    obtain ⟨x3, hx3, h⟩ := h
    refine z_callV (pc := 27) (As := [.int p1, .int p2]) (rest := [.int (67 : Int32), .ref (r0 0)]) (wr := ([] : va_W)) C dX8_colorsOf_27 ml_RX8_217 wv_X8_held (m_X8_held (a0 := a0) (r0 := r0) hg hx3) [0, 1, 2, 3, 4, 5, 6, 7, 8, 9, 10, 11, 12, 13, 14] [] rfl rfl ⟨by decide, by decide⟩ (Nat.le_of_ble_eq_true rfl) ⟨by decide, by decide⟩ rfl rfl rfl rfl rfl rfl rfl (by decide) (ex_k C (cs' := 0) (ss' := 0) (wF := (wX8 g a0 r0 x2.2)) [0, 1, 2, 3, 4, 5, 6, 7, 8, 9, 10, 11, 12, 13, 14] rfl rfl ?_)
    refine z_iadd (pc := 30) C dX8_colorsOf_30 ?_
    replace h := chk_e h
    obtain ⟨hb4, h⟩ := h
    refine z_iald (pc := 31) C 1 dX8_colorsOf_31 rfl hb4 ?_
    exact z_iret C X dX8_colorsOf_32 (by rw [← Option.some.inj h]; exact ⟨rfl, rfl⟩) (by decide) (by decide)
  · replace h := (ite_e h).2 hc
    refine z_iconst (pc := 14) C dX8_colorsOf_14 ic_0 ?_
    refine z_goto (pc := 15) C dX8_colorsOf_15 (tgt := 32) (by decide) ?_
    exact z_iret C X dX8_colorsOf_32 (by rw [← Option.some.inj h]; exact ⟨rfl, rfl⟩) (by decide) (by decide)
def f_X8_ranksOf (N : Nat) (s0 : Ob) (p1 : Int32) (p2 : Int32) : Option (Int32 × Ob) := (ob (f_X8_isPlace N s0 p1 p2) fun x1 => (ob (f_X8_isThrown N s0 x1 (1 : Int32)) fun x2 => (if x2.1 = 0 then (ob (f_X8_held N x2.2 p1 p2) fun x3 => (chk (inb ((107 : Int32) + x3) 358) (some (((x2.2.2.2.1 0) (((107 : Int32) + x3)).toNatClampNeg), x2.2)))) else (some ((0 : Int32), x2.2)))))
theorem m_X8_ranksOf {g : Gp} {a0 : Nat} {r0 : Nat → Nat} {N : Nat} {s0 : Ob} {p1 : Int32} {p2 : Int32} {res : Int32 × Ob} (hg : Ok g) (h : f_X8_ranksOf N s0 p1 p2 = some res) : Ct g yX8_ranksOf cX8_ranksOf 3 (some .int) (zrm 3 65) [.ref a0, .int p1, .int p2] (wX8 g a0 r0 s0) (exR (some (.int res.1)) (wX8 g a0 r0 res.2)) := by
  refine ct_of rfl hg (by show _ ≤ _; exact Nat.le_of_ble_eq_true rfl) (fun K C X => ?_)
  show Zs K 0 0 (wX8 g a0 r0 s0) [(0, .ref a0), (1, .int p1), (2, .int p2)] 0 []
  unfold f_X8_ranksOf at h
  refine z_aload_n (pc := 0) (x := a0) C dX8_ranksOf_0 (i := 0) rfl rfl ?_
  refine z_aload_n (pc := 1) (x := a0) C dX8_ranksOf_1 (i := 0) rfl rfl ?_
  refine z_iload_n (pc := 2) (x := p1) C dX8_ranksOf_2 (i := 1) rfl rfl ?_
  refine z_iload_n (pc := 3) (x := p2) C dX8_ranksOf_3 (i := 2) rfl rfl ?_
  replace h := ob_e h
  obtain ⟨x1, hx1, h⟩ := h
  refine z_callV (pc := 4) (As := [.int p1, .int p2]) (rest := [.ref a0]) (wr := ([] : va_W)) C dX8_ranksOf_4 ml_RX8_213 wv_X8_isPlace (m_X8_isPlace (a0 := a0) (r0 := r0) hg hx1) [0, 1, 2, 3, 4, 5, 6, 7, 8, 9, 10, 11, 12, 13, 14] [] rfl rfl ⟨by decide, by decide⟩ (Nat.le_of_ble_eq_true rfl) ⟨by decide, by decide⟩ rfl rfl rfl rfl rfl rfl rfl (by decide) (ex_k C (cs' := 0) (ss' := 0) (wF := (wX8 g a0 r0 s0)) [0, 1, 2, 3, 4, 5, 6, 7, 8, 9, 10, 11, 12, 13, 14] rfl rfl ?_)
  refine z_iconst (pc := 7) C dX8_ranksOf_7 ic_1 ?_
  replace h := ob_e h
  obtain ⟨x2, hx2, h⟩ := h
  refine z_callV (pc := 8) (As := [.int x1, .int (1 : Int32)]) (rest := []) (wr := ([] : va_W)) C dX8_ranksOf_8 ml_RX8_206 wv_X8_isThrown (m_X8_isThrown (a0 := a0) (r0 := r0) hg hx2) [0, 1, 2, 3, 4, 5, 6, 7, 8, 9, 10, 11, 12, 13, 14] [] rfl rfl ⟨by decide, by decide⟩ (Nat.le_of_ble_eq_true rfl) ⟨by decide, by decide⟩ rfl rfl rfl rfl rfl rfl rfl (by decide) (ex_k C (cs' := 0) (ss' := 0) (wF := (wX8 g a0 r0 x2.2)) [0, 1, 2, 3, 4, 5, 6, 7, 8, 9, 10, 11, 12, 13, 14] rfl rfl ?_)
  refine z_if_eq (pc := 11) C dX8_ranksOf_11 (tgt := 18) (by decide) (fun hc => ?_) (fun hc => ?_)
  · replace h := (ite_e h).1 hc
    refine z_aload_n (pc := 18) (x := a0) C dX8_ranksOf_18 (i := 0) rfl rfl ?_
    refine z_get (pc := 19) (v := .ref (r0 0)) C 0 dX8_ranksOf_19 fl_RX8_9 rfl rfl ?_
    refine z_bipush (pc := 22) C dX8_ranksOf_22 bp_107 ?_
    refine z_aload_n (pc := 24) (x := a0) C dX8_ranksOf_24 (i := 0) rfl rfl ?_
    refine z_iload_n (pc := 25) (x := p1) C dX8_ranksOf_25 (i := 1) rfl rfl ?_
    refine z_iload_n (pc := 26) (x := p2) C dX8_ranksOf_26 (i := 2) rfl rfl ?_
    replace h := ob_e h
    obtain ⟨x3, hx3, h⟩ := h
    refine z_callV (pc := 27) (As := [.int p1, .int p2]) (rest := [.int (107 : Int32), .ref (r0 0)]) (wr := ([] : va_W)) C dX8_ranksOf_27 ml_RX8_217 wv_X8_held (m_X8_held (a0 := a0) (r0 := r0) hg hx3) [0, 1, 2, 3, 4, 5, 6, 7, 8, 9, 10, 11, 12, 13, 14] [] rfl rfl ⟨by decide, by decide⟩ (Nat.le_of_ble_eq_true rfl) ⟨by decide, by decide⟩ rfl rfl rfl rfl rfl rfl rfl (by decide) (ex_k C (cs' := 0) (ss' := 0) (wF := (wX8 g a0 r0 x2.2)) [0, 1, 2, 3, 4, 5, 6, 7, 8, 9, 10, 11, 12, 13, 14] rfl rfl ?_)
    refine z_iadd (pc := 30) C dX8_ranksOf_30 ?_
    replace h := chk_e h
    obtain ⟨hb4, h⟩ := h
    refine z_iald (pc := 31) C 1 dX8_ranksOf_31 rfl hb4 ?_
    exact z_iret C X dX8_ranksOf_32 (by rw [← Option.some.inj h]; exact ⟨rfl, rfl⟩) (by decide) (by decide)
  · replace h := (ite_e h).2 hc
    refine z_iconst (pc := 14) C dX8_ranksOf_14 ic_0 ?_
    refine z_goto (pc := 15) C dX8_ranksOf_15 (tgt := 32) (by decide) ?_
    exact z_iret C X dX8_ranksOf_32 (by rw [← Option.some.inj h]; exact ⟨rfl, rfl⟩) (by decide) (by decide)
def f_X8_isTouched (N : Nat) (s0 : Ob) (p1 : Int32) (p2 : Int32) : Option (Int32 × Ob) := (ob (f_X8_isPlace N s0 p1 p2) fun x1 => (ob (f_X8_isThrown N s0 x1 (1 : Int32)) fun x2 => (if x2.1 = 0 then (ob (f_X8_held N x2.2 p1 p2) fun x3 => (chk (inb ((147 : Int32) + x3) 358) (if ((x2.2.2.2.1 0) (((147 : Int32) + x3)).toNatClampNeg) = (1 : Int32) then (some ((1 : Int32), x2.2)) else (some ((0 : Int32), x2.2))))) else (some ((0 : Int32), x2.2)))))
theorem m_X8_isTouched {g : Gp} {a0 : Nat} {r0 : Nat → Nat} {N : Nat} {s0 : Ob} {p1 : Int32} {p2 : Int32} {res : Int32 × Ob} (hg : Ok g) (h : f_X8_isTouched N s0 p1 p2 = some res) : Ct g yX8_isTouched cX8_isTouched 3 (some .boolean) (zrm 3 65) [.ref a0, .int p1, .int p2] (wX8 g a0 r0 s0) (exR (some (.int res.1)) (wX8 g a0 r0 res.2)) := by
  refine ct_of rfl hg (by show _ ≤ _; exact Nat.le_of_ble_eq_true rfl) (fun K C X => ?_)
  show Zs K 0 0 (wX8 g a0 r0 s0) [(0, .ref a0), (1, .int p1), (2, .int p2)] 0 []
  unfold f_X8_isTouched at h
  refine z_aload_n (pc := 0) (x := a0) C dX8_isTouched_0 (i := 0) rfl rfl ?_
  refine z_aload_n (pc := 1) (x := a0) C dX8_isTouched_1 (i := 0) rfl rfl ?_
  refine z_iload_n (pc := 2) (x := p1) C dX8_isTouched_2 (i := 1) rfl rfl ?_
  refine z_iload_n (pc := 3) (x := p2) C dX8_isTouched_3 (i := 2) rfl rfl ?_
  replace h := ob_e h
  obtain ⟨x1, hx1, h⟩ := h
  refine z_callV (pc := 4) (As := [.int p1, .int p2]) (rest := [.ref a0]) (wr := ([] : va_W)) C dX8_isTouched_4 ml_RX8_213 wv_X8_isPlace (m_X8_isPlace (a0 := a0) (r0 := r0) hg hx1) [0, 1, 2, 3, 4, 5, 6, 7, 8, 9, 10, 11, 12, 13, 14] [] rfl rfl ⟨by decide, by decide⟩ (Nat.le_of_ble_eq_true rfl) ⟨by decide, by decide⟩ rfl rfl rfl rfl rfl rfl rfl (by decide) (ex_k C (cs' := 0) (ss' := 0) (wF := (wX8 g a0 r0 s0)) [0, 1, 2, 3, 4, 5, 6, 7, 8, 9, 10, 11, 12, 13, 14] rfl rfl ?_)
  refine z_iconst (pc := 7) C dX8_isTouched_7 ic_1 ?_
  replace h := ob_e h
  obtain ⟨x2, hx2, h⟩ := h
  refine z_callV (pc := 8) (As := [.int x1, .int (1 : Int32)]) (rest := []) (wr := ([] : va_W)) C dX8_isTouched_8 ml_RX8_206 wv_X8_isThrown (m_X8_isThrown (a0 := a0) (r0 := r0) hg hx2) [0, 1, 2, 3, 4, 5, 6, 7, 8, 9, 10, 11, 12, 13, 14] [] rfl rfl ⟨by decide, by decide⟩ (Nat.le_of_ble_eq_true rfl) ⟨by decide, by decide⟩ rfl rfl rfl rfl rfl rfl rfl (by decide) (ex_k C (cs' := 0) (ss' := 0) (wF := (wX8 g a0 r0 x2.2)) [0, 1, 2, 3, 4, 5, 6, 7, 8, 9, 10, 11, 12, 13, 14] rfl rfl ?_)
  refine z_if_ne (pc := 11) C dX8_isTouched_11 (tgt := 37) (by decide) (fun hc => ?_) (fun hc => ?_)
  · replace h := (ite_e h).2 hc
    refine z_iconst (pc := 37) C dX8_isTouched_37 ic_0 ?_
    exact z_zret C X dX8_isTouched_38 rfl (by rw [← Option.some.inj h]; exact ⟨rfl, rfl⟩) (by decide) (by decide)
  · replace h := (ite_e h).1 hc
    refine z_aload_n (pc := 14) (x := a0) C dX8_isTouched_14 (i := 0) rfl rfl ?_
    refine z_get (pc := 15) (v := .ref (r0 0)) C 0 dX8_isTouched_15 fl_RX8_9 rfl rfl ?_
    refine z_sipush (pc := 18) C dX8_isTouched_18 sp_147 ?_
    refine z_aload_n (pc := 21) (x := a0) C dX8_isTouched_21 (i := 0) rfl rfl ?_
    refine z_iload_n (pc := 22) (x := p1) C dX8_isTouched_22 (i := 1) rfl rfl ?_
    refine z_iload_n (pc := 23) (x := p2) C dX8_isTouched_23 (i := 2) rfl rfl ?_
    replace h := ob_e h
    obtain ⟨x3, hx3, h⟩ := h
    refine z_callV (pc := 24) (As := [.int p1, .int p2]) (rest := [.int (147 : Int32), .ref (r0 0)]) (wr := ([] : va_W)) C dX8_isTouched_24 ml_RX8_217 wv_X8_held (m_X8_held (a0 := a0) (r0 := r0) hg hx3) [0, 1, 2, 3, 4, 5, 6, 7, 8, 9, 10, 11, 12, 13, 14] [] rfl rfl ⟨by decide, by decide⟩ (Nat.le_of_ble_eq_true rfl) ⟨by decide, by decide⟩ rfl rfl rfl rfl rfl rfl rfl (by decide) (ex_k C (cs' := 0) (ss' := 0) (wF := (wX8 g a0 r0 x2.2)) [0, 1, 2, 3, 4, 5, 6, 7, 8, 9, 10, 11, 12, 13, 14] rfl rfl ?_)
    refine z_iadd (pc := 27) C dX8_isTouched_27 ?_
    replace h := chk_e h
    obtain ⟨hb4, h⟩ := h
    refine z_iald (pc := 28) C 1 dX8_isTouched_28 rfl hb4 ?_
    refine z_iconst (pc := 29) C dX8_isTouched_29 ic_1 ?_
    refine z_icmp_ne (pc := 30) C dX8_isTouched_30 (tgt := 37) (by decide) (fun hc => ?_) (fun hc => ?_)
    · replace h := (ite_e h).2 hc
      refine z_iconst (pc := 37) C dX8_isTouched_37 ic_0 ?_
      exact z_zret C X dX8_isTouched_38 rfl (by rw [← Option.some.inj h]; exact ⟨rfl, rfl⟩) (by decide) (by decide)
    · replace h := (ite_e h).1 hc
      refine z_iconst (pc := 33) C dX8_isTouched_33 ic_1 ?_
      refine z_goto (pc := 34) C dX8_isTouched_34 (tgt := 38) (by decide) ?_
      exact z_zret C X dX8_isTouched_38 rfl (by rw [← Option.some.inj h]; exact ⟨rfl, rfl⟩) (by decide) (by decide)
def f_X8_isThought_51 (N : Nat) (s0 : Ob) (p1 : Int32) (p2 : Int32) (p3 : Int32) (p4 : Int32)  (t0 : Int32) : Option (Int32) := (ob (f_X8_inDeck N s0 p2 (0 : Int32)) fun x6 => (chk (inb ((211 : Int32) + p2) 358) (ob (f_X8_inHands N s0 p2 p1) fun x8 => (if x6 ≤ ((((s0.2.2.1 0) (((211 : Int32) + p2)).toNatClampNeg) + t0) + x8) then (some (0 : Int32)) else (some (1 : Int32))))))
theorem m_X8_isThought_51 {K : Kt} {g : Gp} {a0 : Nat} {r0 : Nat → Nat} {N : Nat} {s0 : Ob} {p1 : Int32} {p2 : Int32} {p3 : Int32} {p4 : Int32} {res : Int32} (hg : Ok g) (C : Cx K g cX8_isThought RX8 6 (zrm 2 47)) (X : Rx K (exR (some (.int res)) (wX8 g a0 r0 s0)) 0 0 (some .boolean)) (t0 : Int32) (h : f_X8_isThought_51 N s0 p1 p2 p3 p4 t0 = some res) : Zs K 0 0 (wX8 g a0 r0 s0) [(0, .ref a0), (1, .int p1), (2, .int p2)] 51 [.int t0] := by
  unfold f_X8_isThought_51 at h
  refine z_istore (pc := 51) C dX8_isThought_51 (by decide) (lv' := [(5, .int t0), (0, .ref a0), (1, .int p1), (2, .int p2)]) rfl ?_
  refine z_aload_n (pc := 53) (x := a0) C dX8_isThought_53 (i := 0) rfl rfl ?_
  refine z_iload_n (pc := 54) (x := p2) C dX8_isThought_54 (i := 2) rfl rfl ?_
  refine z_iconst (pc := 55) C dX8_isThought_55 ic_0 ?_
  replace h := ob_e h
  obtain ⟨x6, hx6, h⟩ := h
  refine z_callV (pc := 56) (As := [.int p2, .int (0 : Int32)]) (rest := []) (wr := ([] : va_W)) C dX8_isThought_56 ml_RX8_226 wv_X8_inDeck (m_X8_inDeck (a0 := a0) (r0 := r0) hg hx6) [0, 1, 2, 3, 4, 5, 6, 7, 8, 9, 10, 11, 12, 13, 14] [] rfl rfl ⟨by decide, by decide⟩ (Nat.le_of_ble_eq_true rfl) ⟨by decide, by decide⟩ rfl rfl rfl rfl rfl rfl rfl (by decide) (ex_k C (cs' := 0) (ss' := 0) (wF := (wX8 g a0 r0 s0)) [0, 1, 2, 3, 4, 5, 6, 7, 8, 9, 10, 11, 12, 13, 14] rfl rfl ?_)
  refine z_aload_n (pc := 59) (x := a0) C dX8_isThought_59 (i := 0) rfl rfl ?_
  refine z_get (pc := 60) (v := .ref (r0 0)) C 0 dX8_isThought_60 fl_RX8_9 rfl rfl ?_
  refine z_sipush (pc := 63) C dX8_isThought_63 sp_211 ?_
  refine z_iload_n (pc := 66) (x := p2) C dX8_isThought_66 (i := 2) rfl rfl ?_
  refine z_iadd (pc := 67) C dX8_isThought_67 ?_
  replace h := chk_e h
  obtain ⟨hb7, h⟩ := h
  refine z_iald (pc := 68) C 1 dX8_isThought_68 rfl hb7 ?_
  refine z_iload (pc := 69) (x := t0) C dX8_isThought_69 rfl ?_
  refine z_iadd (pc := 71) C dX8_isThought_71 ?_
  refine z_aload_n (pc := 72) (x := a0) C dX8_isThought_72 (i := 0) rfl rfl ?_
  refine z_iload_n (pc := 73) (x := p2) C dX8_isThought_73 (i := 2) rfl rfl ?_
  refine z_iload_n (pc := 74) (x := p1) C dX8_isThought_74 (i := 1) rfl rfl ?_
  replace h := ob_e h
  obtain ⟨x8, hx8, h⟩ := h
  refine z_callV (pc := 75) (As := [.int p2, .int p1]) (rest := [.int (((s0.2.2.1 0) (((211 : Int32) + p2)).toNatClampNeg) + t0), .int x6]) (wr := ([] : va_W)) C dX8_isThought_75 ml_RX8_229 wv_X8_inHands (m_X8_inHands (a0 := a0) (r0 := r0) hg hx8) [0, 1, 2, 3, 4, 5, 6, 7, 8, 9, 10, 11, 12, 13, 14] [] rfl rfl ⟨by decide, by decide⟩ (Nat.le_of_ble_eq_true rfl) ⟨by decide, by decide⟩ rfl rfl rfl rfl rfl rfl rfl (by decide) (ex_k C (cs' := 0) (ss' := 0) (wF := (wX8 g a0 r0 s0)) [0, 1, 2, 3, 4, 5, 6, 7, 8, 9, 10, 11, 12, 13, 14] rfl rfl ?_)
  refine z_iadd (pc := 78) C dX8_isThought_78 ?_
  refine z_icmp_le (pc := 79) C dX8_isThought_79 (tgt := 86) (by decide) (fun hc => ?_) (fun hc => ?_)
  · replace h := (ite_e h).1 hc
    refine z_iconst (pc := 86) C dX8_isThought_86 ic_0 ?_
    exact z_zret C X dX8_isThought_87 rfl (by rw [← Option.some.inj h]; exact ⟨rfl, rfl⟩) (by decide) (by decide)
  · replace h := (ite_e h).2 hc
    refine z_iconst (pc := 82) C dX8_isThought_82 ic_1 ?_
    refine z_goto (pc := 83) C dX8_isThought_83 (tgt := 87) (by decide) ?_
    exact z_zret C X dX8_isThought_87 rfl (by rw [← Option.some.inj h]; exact ⟨rfl, rfl⟩) (by decide) (by decide)
def f_X8_isThought (N : Nat) (s0 : Ob) (p1 : Int32) (p2 : Int32) (p3 : Int32) (p4 : Int32) : Option (Int32) := (ob (f_X8_colorOf N p2) fun x1 => (if ((p3 >>> (x1 &&& 31)) &&& (1 : Int32)) = 0 then (some (0 : Int32)) else (ob (f_X8_rankOf N p2) fun x2 => (if ((p4 >>> ((x2 - (1 : Int32)) &&& 31)) &&& (1 : Int32)) = 0 then (some (0 : Int32)) else (ob (f_X8_colorOf N p2) fun x3 => (chk (inb ((14 : Int32) + x3) 358) (ob (f_X8_rankOf N p2) fun x5 => (if ((s0.2.2.1 0) (((14 : Int32) + x3)).toNatClampNeg) < x5 then (f_X8_isThought_51 N s0 p1 p2 p3 p4 (0 : Int32)) else (f_X8_isThought_51 N s0 p1 p2 p3 p4 (1 : Int32))))))))))
theorem m_X8_isThought {g : Gp} {a0 : Nat} {r0 : Nat → Nat} {N : Nat} {s0 : Ob} {p1 : Int32} {p2 : Int32} {p3 : Int32} {p4 : Int32} {res : Int32} (hg : Ok g) (h : f_X8_isThought N s0 p1 p2 p3 p4 = some res) : Ct g yX8_isThought cX8_isThought 6 (some .boolean) (zrm 2 47) [.ref a0, .int p1, .int p2, .int p3, .int p4] (wX8 g a0 r0 s0) (exR (some (.int res)) (wX8 g a0 r0 s0)) := by
  refine ct_of rfl hg (by show _ ≤ _; exact Nat.le_of_ble_eq_true rfl) (fun K C X => ?_)
  show Zs K 0 0 (wX8 g a0 r0 s0) [(0, .ref a0), (1, .int p1), (2, .int p2), (3, .int p3), (4, .int p4)] 0 []
  unfold f_X8_isThought at h
  refine z_iload_n (pc := 0) (x := p3) C dX8_isThought_0 (i := 3) rfl rfl ?_
  refine z_iload_n (pc := 1) (x := p2) C dX8_isThought_1 (i := 2) rfl rfl ?_
  replace h := ob_e h
  obtain ⟨x1, hx1, h⟩ := h
  refine z_callS (pc := 2) (As := [.int p2]) (rest := [.int p3]) (wr := (wX8 g a0 r0 s0)) C dX8_isThought_2 ml_RX8_70 wt_X8_colorOf (m_X8_colorOf hg hx1) [] [0, 1, 2, 3, 4, 5, 6, 7, 8, 9, 10, 11, 12, 13, 14] rfl rfl ⟨by decide, by decide⟩ (Nat.le_of_ble_eq_true rfl) ⟨by decide, by decide⟩ rfl rfl rfl rfl (by decide) (ex_k C (cs' := 0) (ss' := 0) (wF := (wX8 g a0 r0 s0)) [0, 1, 2, 3, 4, 5, 6, 7, 8, 9, 10, 11, 12, 13, 14] rfl rfl ?_)
  refine z_ishr (pc := 5) C dX8_isThought_5 ?_
  refine z_iconst (pc := 6) C dX8_isThought_6 ic_1 ?_
  refine z_iand (pc := 7) C dX8_isThought_7 ?_
  refine z_if_eq (pc := 8) C dX8_isThought_8 (tgt := 25) (by decide) (fun hc => ?_) (fun hc => ?_)
  · replace h := (ite_e h).1 hc
    refine z_iconst (pc := 25) C dX8_isThought_25 ic_0 ?_
    exact z_zret C X dX8_isThought_26 rfl (by rw [← Option.some.inj h]; exact ⟨rfl, rfl⟩) (by decide) (by decide)
  · replace h := (ite_e h).2 hc
    refine z_iload (pc := 11) (x := p4) C dX8_isThought_11 rfl ?_
    refine z_iload_n (pc := 13) (x := p2) C dX8_isThought_13 (i := 2) rfl rfl ?_
    replace h := ob_e h
    obtain ⟨x2, hx2, h⟩ := h
    refine z_callS (pc := 14) (As := [.int p2]) (rest := [.int p4]) (wr := (wX8 g a0 r0 s0)) C dX8_isThought_14 ml_RX8_74 wt_X8_rankOf (m_X8_rankOf hg hx2) [] [0, 1, 2, 3, 4, 5, 6, 7, 8, 9, 10, 11, 12, 13, 14] rfl rfl ⟨by decide, by decide⟩ (Nat.le_of_ble_eq_true rfl) ⟨by decide, by decide⟩ rfl rfl rfl rfl (by decide) (ex_k C (cs' := 0) (ss' := 0) (wF := (wX8 g a0 r0 s0)) [0, 1, 2, 3, 4, 5, 6, 7, 8, 9, 10, 11, 12, 13, 14] rfl rfl ?_)
    refine z_iconst (pc := 17) C dX8_isThought_17 ic_1 ?_
    refine z_isub (pc := 18) C dX8_isThought_18 ?_
    refine z_ishr (pc := 19) C dX8_isThought_19 ?_
    refine z_iconst (pc := 20) C dX8_isThought_20 ic_1 ?_
    refine z_iand (pc := 21) C dX8_isThought_21 ?_
    refine z_if_ne (pc := 22) C dX8_isThought_22 (tgt := 27) (by decide) (fun hc => ?_) (fun hc => ?_)
    · replace h := (ite_e h).2 hc
      refine z_aload_n (pc := 27) (x := a0) C dX8_isThought_27 (i := 0) rfl rfl ?_
      refine z_get (pc := 28) (v := .ref (r0 0)) C 0 dX8_isThought_28 fl_RX8_9 rfl rfl ?_
      refine z_bipush (pc := 31) C dX8_isThought_31 bp_14 ?_
      refine z_iload_n (pc := 33) (x := p2) C dX8_isThought_33 (i := 2) rfl rfl ?_
      replace h := ob_e h
      obtain ⟨x3, hx3, h⟩ := h
      refine z_callS (pc := 34) (As := [.int p2]) (rest := [.int (14 : Int32), .ref (r0 0)]) (wr := (wX8 g a0 r0 s0)) C dX8_isThought_34 ml_RX8_70 wt_X8_colorOf (m_X8_colorOf hg hx3) [] [0, 1, 2, 3, 4, 5, 6, 7, 8, 9, 10, 11, 12, 13, 14] rfl rfl ⟨by decide, by decide⟩ (Nat.le_of_ble_eq_true rfl) ⟨by decide, by decide⟩ rfl rfl rfl rfl (by decide) (ex_k C (cs' := 0) (ss' := 0) (wF := (wX8 g a0 r0 s0)) [0, 1, 2, 3, 4, 5, 6, 7, 8, 9, 10, 11, 12, 13, 14] rfl rfl ?_)
      refine z_iadd (pc := 37) C dX8_isThought_37 ?_
      replace h := chk_e h
      obtain ⟨hb4, h⟩ := h
      refine z_iald (pc := 38) C 1 dX8_isThought_38 rfl hb4 ?_
      refine z_iload_n (pc := 39) (x := p2) C dX8_isThought_39 (i := 2) rfl rfl ?_
      replace h := ob_e h
      obtain ⟨x5, hx5, h⟩ := h
      refine z_callS (pc := 40) (As := [.int p2]) (rest := [.int ((s0.2.2.1 0) (((14 : Int32) + x3)).toNatClampNeg)]) (wr := (wX8 g a0 r0 s0)) C dX8_isThought_40 ml_RX8_74 wt_X8_rankOf (m_X8_rankOf hg hx5) [] [0, 1, 2, 3, 4, 5, 6, 7, 8, 9, 10, 11, 12, 13, 14] rfl rfl ⟨by decide, by decide⟩ (Nat.le_of_ble_eq_true rfl) ⟨by decide, by decide⟩ rfl rfl rfl rfl (by decide) (ex_k C (cs' := 0) (ss' := 0) (wF := (wX8 g a0 r0 s0)) [0, 1, 2, 3, 4, 5, 6, 7, 8, 9, 10, 11, 12, 13, 14] rfl rfl ?_)
      refine z_icmp_lt (pc := 43) C dX8_isThought_43 (tgt := 50) (by decide) (fun hc => ?_) (fun hc => ?_)
      · replace h := (ite_e h).1 hc
        refine z_iconst (pc := 50) C dX8_isThought_50 ic_0 ?_
        refine z_lv (lv' := [(0, .ref a0), (1, .int p1), (2, .int p2)]) [0, 1, 2] rfl ?_
        exact m_X8_isThought_51 (a0 := a0) (r0 := r0) hg C X (0 : Int32) h
      · replace h := (ite_e h).2 hc
        refine z_iconst (pc := 46) C dX8_isThought_46 ic_1 ?_
        refine z_goto (pc := 47) C dX8_isThought_47 (tgt := 51) (by decide) ?_
        refine z_lv (lv' := [(0, .ref a0), (1, .int p1), (2, .int p2)]) [0, 1, 2] rfl ?_
        exact m_X8_isThought_51 (a0 := a0) (r0 := r0) hg C X (1 : Int32) h
    · replace h := (ite_e h).1 hc
      refine z_iconst (pc := 25) C dX8_isThought_25 ic_0 ?_
      exact z_zret C X dX8_isThought_26 rfl (by rw [← Option.some.inj h]; exact ⟨rfl, rfl⟩) (by decide) (by decide)
def f_X8_knownOf_53 (N : Nat) (s0 : Ob) (p1 : Int32) (p2 : Int32) (p3 : Int32) (k12 : Int32 → Int32 → Int32 → Int32 → Option (Int32)) (v5 : Int32) (v6 : Int32) (v7 : Int32) (t0 : Int32) : Option (Int32) := (if v5 = 0 then (k12 t0 (0 : Int32) v6 (v7 + (1 : Int32))) else (ob (f_X8_isUselessKind N s0 v7) fun x2 => (if x2 = 0 then (k12 t0 (0 : Int32) v6 (v7 + (1 : Int32))) else (k12 t0 (1 : Int32) v6 (v7 + (1 : Int32))))))
theorem m_X8_knownOf_53 {K : Kt} {g : Gp} {a0 : Nat} {r0 : Nat → Nat} {N : Nat} {s0 : Ob} {p1 : Int32} {p2 : Int32} {p3 : Int32} {res : Int32} (hg : Ok g) (C : Cx K g cX8_knownOf RX8 8 (zrm 3 72)) (X : Rx K (exR (some (.int res)) (wX8 g a0 r0 s0)) 0 0 (some .int)) {k12 : Int32 → Int32 → Int32 → Int32 → Option (Int32)} (hk12 : ∀ (v4 : Int32) (v5 : Int32) (v6 : Int32) (v7 : Int32), k12 v4 v5 v6 v7 = some res → Zs K 0 0 (wX8 g a0 r0 s0) [(0, .ref a0), (1, .int p1), (2, .int p2), (3, .int p3), (4, .int v4), (5, .int v5), (6, .int v6), (7, .int v7)] 12 []) (v5 : Int32) (v6 : Int32) (v7 : Int32) (t0 : Int32) (h : f_X8_knownOf_53 N s0 p1 p2 p3 k12 v5 v6 v7 t0 = some res) : Zs K 0 0 (wX8 g a0 r0 s0) [(0, .ref a0), (1, .int p1), (2, .int p2), (3, .int p3), (5, .int v5), (6, .int v6), (7, .int v7)] 53 [.int t0] := by
  unfold f_X8_knownOf_53 at h
  refine z_istore (pc := 53) C dX8_knownOf_53 (by decide) (lv' := [(4, .int t0), (0, .ref a0), (1, .int p1), (2, .int p2), (3, .int p3), (5, .int v5), (6, .int v6), (7, .int v7)]) rfl ?_
  refine z_iload (pc := 55) (x := v5) C dX8_knownOf_55 rfl ?_
  refine z_if_eq (pc := 57) C dX8_knownOf_57 (tgt := 73) (by decide) (fun hc => ?_) (fun hc => ?_)
  · replace h := (ite_e h).1 hc
    refine z_iconst (pc := 73) C dX8_knownOf_73 ic_0 ?_
    refine z_istore (pc := 74) C dX8_knownOf_74 (by decide) (lv' := [(5, .int (0 : Int32)), (4, .int t0), (0, .ref a0), (1, .int p1), (2, .int p2), (3, .int p3), (6, .int v6), (7, .int v7)]) rfl ?_
    refine z_iinc (pc := 76) C dX8_knownOf_76 rfl (inc_e 1 (1 : Int32) ic_1 v7) (by decide) (lv' := [(7, .int (v7 + (1 : Int32))), (5, .int (0 : Int32)), (4, .int t0), (0, .ref a0), (1, .int p1), (2, .int p2), (3, .int p3), (6, .int v6)]) rfl ?_
    refine z_goto (pc := 79) C dX8_knownOf_79 (tgt := 12) (by decide) ?_
    refine z_lv (lv' := [(0, .ref a0), (1, .int p1), (2, .int p2), (3, .int p3), (4, .int t0), (5, .int (0 : Int32)), (6, .int v6), (7, .int (v7 + (1 : Int32)))]) [3, 4, 5, 6, 2, 1, 7, 0] rfl ?_
    exact hk12 t0 (0 : Int32) v6 (v7 + (1 : Int32)) h
  · replace h := (ite_e h).2 hc
    refine z_aload_n (pc := 60) (x := a0) C dX8_knownOf_60 (i := 0) rfl rfl ?_
    refine z_iload (pc := 61) (x := v7) C dX8_knownOf_61 rfl ?_
    replace h := ob_e h
    obtain ⟨x2, hx2, h⟩ := h
    refine z_callV (pc := 63) (As := [.int v7]) (rest := []) (wr := ([] : va_W)) C dX8_knownOf_63 ml_RX8_235 wv_X8_isUselessKind (m_X8_isUselessKind (a0 := a0) (r0 := r0) hg hx2) [0, 1, 2, 3, 4, 5, 6, 7, 8, 9, 10, 11, 12, 13, 14] [] rfl rfl ⟨by decide, by decide⟩ (Nat.le_of_ble_eq_true rfl) ⟨by decide, by decide⟩ rfl rfl rfl rfl rfl rfl rfl (by decide) (ex_k C (cs' := 0) (ss' := 0) (wF := (wX8 g a0 r0 s0)) [0, 1, 2, 3, 4, 5, 6, 7, 8, 9, 10, 11, 12, 13, 14] rfl rfl ?_)
    refine z_if_eq (pc := 66) C dX8_knownOf_66 (tgt := 73) (by decide) (fun hc => ?_) (fun hc => ?_)
    · replace h := (ite_e h).1 hc
      refine z_iconst (pc := 73) C dX8_knownOf_73 ic_0 ?_
      refine z_istore (pc := 74) C dX8_knownOf_74 (by decide) (lv' := [(5, .int (0 : Int32)), (4, .int t0), (0, .ref a0), (1, .int p1), (2, .int p2), (3, .int p3), (6, .int v6), (7, .int v7)]) rfl ?_
      refine z_iinc (pc := 76) C dX8_knownOf_76 rfl (inc_e 1 (1 : Int32) ic_1 v7) (by decide) (lv' := [(7, .int (v7 + (1 : Int32))), (5, .int (0 : Int32)), (4, .int t0), (0, .ref a0), (1, .int p1), (2, .int p2), (3, .int p3), (6, .int v6)]) rfl ?_
      refine z_goto (pc := 79) C dX8_knownOf_79 (tgt := 12) (by decide) ?_
      refine z_lv (lv' := [(0, .ref a0), (1, .int p1), (2, .int p2), (3, .int p3), (4, .int t0), (5, .int (0 : Int32)), (6, .int v6), (7, .int (v7 + (1 : Int32)))]) [3, 4, 5, 6, 2, 1, 7, 0] rfl ?_
      exact hk12 t0 (0 : Int32) v6 (v7 + (1 : Int32)) h
    · replace h := (ite_e h).2 hc
      refine z_iconst (pc := 69) C dX8_knownOf_69 ic_1 ?_
      refine z_goto (pc := 70) C dX8_knownOf_70 (tgt := 74) (by decide) ?_
      refine z_istore (pc := 74) C dX8_knownOf_74 (by decide) (lv' := [(5, .int (1 : Int32)), (4, .int t0), (0, .ref a0), (1, .int p1), (2, .int p2), (3, .int p3), (6, .int v6), (7, .int v7)]) rfl ?_
      refine z_iinc (pc := 76) C dX8_knownOf_76 rfl (inc_e 1 (1 : Int32) ic_1 v7) (by decide) (lv' := [(7, .int (v7 + (1 : Int32))), (5, .int (1 : Int32)), (4, .int t0), (0, .ref a0), (1, .int p1), (2, .int p2), (3, .int p3), (6, .int v6)]) rfl ?_
      refine z_goto (pc := 79) C dX8_knownOf_79 (tgt := 12) (by decide) ?_
      refine z_lv (lv' := [(0, .ref a0), (1, .int p1), (2, .int p2), (3, .int p3), (4, .int t0), (5, .int (1 : Int32)), (6, .int v6), (7, .int (v7 + (1 : Int32)))]) [3, 4, 5, 6, 2, 1, 7, 0] rfl ?_
      exact hk12 t0 (1 : Int32) v6 (v7 + (1 : Int32)) h
def f_X8_knownOf_52 (N : Nat) (s0 : Ob) (p1 : Int32) (p2 : Int32) (p3 : Int32) (k12 : Int32 → Int32 → Int32 → Int32 → Option (Int32)) (v5 : Int32) (v6 : Int32) (v7 : Int32) : Option (Int32) := (f_X8_knownOf_53 N s0 p1 p2 p3 k12 v5 v6 v7 (0 : Int32))
theorem m_X8_knownOf_52 {K : Kt} {g : Gp} {a0 : Nat} {r0 : Nat → Nat} {N : Nat} {s0 : Ob} {p1 : Int32} {p2 : Int32} {p3 : Int32} {res : Int32} (hg : Ok g) (C : Cx K g cX8_knownOf RX8 8 (zrm 3 72)) (X : Rx K (exR (some (.int res)) (wX8 g a0 r0 s0)) 0 0 (some .int)) {k12 : Int32 → Int32 → Int32 → Int32 → Option (Int32)} (hk12 : ∀ (v4 : Int32) (v5 : Int32) (v6 : Int32) (v7 : Int32), k12 v4 v5 v6 v7 = some res → Zs K 0 0 (wX8 g a0 r0 s0) [(0, .ref a0), (1, .int p1), (2, .int p2), (3, .int p3), (4, .int v4), (5, .int v5), (6, .int v6), (7, .int v7)] 12 []) (v5 : Int32) (v6 : Int32) (v7 : Int32) (h : f_X8_knownOf_52 N s0 p1 p2 p3 k12 v5 v6 v7 = some res) : Zs K 0 0 (wX8 g a0 r0 s0) [(0, .ref a0), (1, .int p1), (2, .int p2), (3, .int p3), (5, .int v5), (6, .int v6), (7, .int v7)] 52 [] := by
  unfold f_X8_knownOf_52 at h
  refine z_iconst (pc := 52) C dX8_knownOf_52 ic_0 ?_
  exact m_X8_knownOf_53 (a0 := a0) (r0 := r0) hg C X hk12 v5 v6 v7 (0 : Int32) h
def F_X8_knownOf_12 (N : Nat) (s0 : Ob) (p1 : Int32) (p2 : Int32) (p3 : Int32)  (k12 : Int32 → Int32 → Int32 → Int32 → Option (Int32)) (v4 : Int32) (v5 : Int32) (v6 : Int32) (v7 : Int32) : Option (Int32) := (if (20 : Int32) ≤ v7 then (if v6 = 0 then (some (0 : Int32)) else (if v4 = 0 then (if v5 = 0 then (some (0 : Int32)) else (some (2 : Int32))) else (some (1 : Int32)))) else (ob (f_X8_isThought N s0 p1 v7 p2 p3) fun x1 => (if x1 = 0 then (k12 v4 v5 v6 (v7 + (1 : Int32))) else (if v4 = 0 then (f_X8_knownOf_52 N s0 p1 p2 p3 k12 v5 (v6 + (1 : Int32)) v7) else (ob (f_X8_isNext N s0 v7) fun x3 => (if x3 = 0 then (f_X8_knownOf_52 N s0 p1 p2 p3 k12 v5 (v6 + (1 : Int32)) v7) else (f_X8_knownOf_53 N s0 p1 p2 p3 k12 v5 (v6 + (1 : Int32)) v7 (1 : Int32))))))))
def f_X8_knownOf_12 (N : Nat) (s0 : Ob) (p1 : Int32) (p2 : Int32) (p3 : Int32)  : Nat → Int32 → Int32 → Int32 → Int32 → Option (Int32) := zlp (fun _ _ _ _ => none) (F_X8_knownOf_12 N s0 p1 p2 p3)
theorem m_X8_knownOf_12 {K : Kt} {g : Gp} {a0 : Nat} {r0 : Nat → Nat} {N : Nat} {s0 : Ob} {p1 : Int32} {p2 : Int32} {p3 : Int32} {res : Int32} (hg : Ok g) (C : Cx K g cX8_knownOf RX8 8 (zrm 3 72)) (X : Rx K (exR (some (.int res)) (wX8 g a0 r0 s0)) 0 0 (some .int)) : ∀ (n : Nat) (v4 : Int32) (v5 : Int32) (v6 : Int32) (v7 : Int32), f_X8_knownOf_12 N s0 p1 p2 p3 n v4 v5 v6 v7 = some res → Zs K 0 0 (wX8 g a0 r0 s0) [(0, .ref a0), (1, .int p1), (2, .int p2), (3, .int p3), (4, .int v4), (5, .int v5), (6, .int v6), (7, .int v7)] 12 [] := by
  intro n
  induction n with
  | zero => intro v4 v5 v6 v7 h; exact nomatch (show (none : Option (Int32)) = some res from h)
  | succ n hk12 =>
    intro v4 v5 v6 v7 h
    replace h : F_X8_knownOf_12 N s0 p1 p2 p3 (f_X8_knownOf_12 N s0 p1 p2 p3 n) v4 v5 v6 v7 = some res := h
    unfold F_X8_knownOf_12 at h
    refine z_iload (pc := 12) (x := v7) C dX8_knownOf_12 rfl ?_
    refine z_bipush (pc := 14) C dX8_knownOf_14 bp_20 ?_
    refine z_icmp_ge (pc := 16) C dX8_knownOf_16 (tgt := 82) (by decide) (fun hc => ?_) (fun hc => ?_)
    · replace h := (ite_e h).1 hc
      refine z_iload (pc := 82) (x := v6) C dX8_knownOf_82 rfl ?_
      refine z_if_ne (pc := 84) C dX8_knownOf_84 (tgt := 91) (by decide) (fun hc => ?_) (fun hc => ?_)
      · replace h := (ite_e h).2 hc
        refine z_iload (pc := 91) (x := v4) C dX8_knownOf_91 rfl ?_
        refine z_if_eq (pc := 93) C dX8_knownOf_93 (tgt := 100) (by decide) (fun hc => ?_) (fun hc => ?_)
        · replace h := (ite_e h).1 hc
          refine z_iload (pc := 100) (x := v5) C dX8_knownOf_100 rfl ?_
          refine z_if_eq (pc := 102) C dX8_knownOf_102 (tgt := 109) (by decide) (fun hc => ?_) (fun hc => ?_)
          · replace h := (ite_e h).1 hc
            refine z_iconst (pc := 109) C dX8_knownOf_109 ic_0 ?_
            exact z_iret C X dX8_knownOf_110 (by rw [← Option.some.inj h]; exact ⟨rfl, rfl⟩) (by decide) (by decide)
          · replace h := (ite_e h).2 hc
            refine z_iconst (pc := 105) C dX8_knownOf_105 ic_2 ?_
            refine z_goto (pc := 106) C dX8_knownOf_106 (tgt := 110) (by decide) ?_
            exact z_iret C X dX8_knownOf_110 (by rw [← Option.some.inj h]; exact ⟨rfl, rfl⟩) (by decide) (by decide)
        · replace h := (ite_e h).2 hc
          refine z_iconst (pc := 96) C dX8_knownOf_96 ic_1 ?_
          refine z_goto (pc := 97) C dX8_knownOf_97 (tgt := 110) (by decide) ?_
          exact z_iret C X dX8_knownOf_110 (by rw [← Option.some.inj h]; exact ⟨rfl, rfl⟩) (by decide) (by decide)
      · replace h := (ite_e h).1 hc
        refine z_iconst (pc := 87) C dX8_knownOf_87 ic_0 ?_
        refine z_goto (pc := 88) C dX8_knownOf_88 (tgt := 110) (by decide) ?_
        exact z_iret C X dX8_knownOf_110 (by rw [← Option.some.inj h]; exact ⟨rfl, rfl⟩) (by decide) (by decide)
    · replace h := (ite_e h).2 hc
      refine z_aload_n (pc := 19) (x := a0) C dX8_knownOf_19 (i := 0) rfl rfl ?_
      refine z_iload_n (pc := 20) (x := p1) C dX8_knownOf_20 (i := 1) rfl rfl ?_
      refine z_iload (pc := 21) (x := v7) C dX8_knownOf_21 rfl ?_
      refine z_iload_n (pc := 23) (x := p2) C dX8_knownOf_23 (i := 2) rfl rfl ?_
      refine z_iload_n (pc := 24) (x := p3) C dX8_knownOf_24 (i := 3) rfl rfl ?_
      replace h := ob_e h
      obtain ⟨x1, hx1, h⟩ := h
      refine z_callV (pc := 25) (As := [.int p1, .int v7, .int p2, .int p3]) (rest := []) (wr := ([] : va_W)) C dX8_knownOf_25 ml_RX8_241 wv_X8_isThought (m_X8_isThought (a0 := a0) (r0 := r0) hg hx1) [0, 1, 2, 3, 4, 5, 6, 7, 8, 9, 10, 11, 12, 13, 14] [] rfl rfl ⟨by decide, by decide⟩ (Nat.le_of_ble_eq_true rfl) ⟨by decide, by decide⟩ rfl rfl rfl rfl rfl rfl rfl (by decide) (ex_k C (cs' := 0) (ss' := 0) (wF := (wX8 g a0 r0 s0)) [0, 1, 2, 3, 4, 5, 6, 7, 8, 9, 10, 11, 12, 13, 14] rfl rfl ?_)
      refine z_if_eq (pc := 28) C dX8_knownOf_28 (tgt := 76) (by decide) (fun hc => ?_) (fun hc => ?_)
      · replace h := (ite_e h).1 hc
        refine z_iinc (pc := 76) C dX8_knownOf_76 rfl (inc_e 1 (1 : Int32) ic_1 v7) (by decide) (lv' := [(7, .int (v7 + (1 : Int32))), (0, .ref a0), (1, .int p1), (2, .int p2), (3, .int p3), (4, .int v4), (5, .int v5), (6, .int v6)]) rfl ?_
        refine z_goto (pc := 79) C dX8_knownOf_79 (tgt := 12) (by decide) ?_
        refine z_lv (lv' := [(0, .ref a0), (1, .int p1), (2, .int p2), (3, .int p3), (4, .int v4), (5, .int v5), (6, .int v6), (7, .int (v7 + (1 : Int32)))]) [1, 2, 3, 4, 5, 6, 7, 0] rfl ?_
        exact hk12 v4 v5 v6 (v7 + (1 : Int32)) h
      · replace h := (ite_e h).2 hc
        refine z_iinc (pc := 31) C dX8_knownOf_31 rfl (inc_e 1 (1 : Int32) ic_1 v6) (by decide) (lv' := [(6, .int (v6 + (1 : Int32))), (0, .ref a0), (1, .int p1), (2, .int p2), (3, .int p3), (4, .int v4), (5, .int v5), (7, .int v7)]) rfl ?_
        refine z_iload (pc := 34) (x := v4) C dX8_knownOf_34 rfl ?_
        refine z_if_eq (pc := 36) C dX8_knownOf_36 (tgt := 52) (by decide) (fun hc => ?_) (fun hc => ?_)
        · replace h := (ite_e h).1 hc
          refine z_lv (lv' := [(0, .ref a0), (1, .int p1), (2, .int p2), (3, .int p3), (5, .int v5), (6, .int (v6 + (1 : Int32))), (7, .int v7)]) [1, 2, 3, 4, 6, 0, 7] rfl ?_
          exact m_X8_knownOf_52 (a0 := a0) (r0 := r0) hg C X hk12 v5 (v6 + (1 : Int32)) v7 h
        · replace h := (ite_e h).2 hc
          refine z_aload_n (pc := 39) (x := a0) C dX8_knownOf_39 (i := 0) rfl rfl ?_
          refine z_iload (pc := 40) (x := v7) C dX8_knownOf_40 rfl ?_
          replace h := ob_e h
          obtain ⟨x3, hx3, h⟩ := h
          refine z_callV (pc := 42) (As := [.int v7]) (rest := []) (wr := ([] : va_W)) C dX8_knownOf_42 ml_RX8_245 wv_X8_isNext (m_X8_isNext (a0 := a0) (r0 := r0) hg hx3) [0, 1, 2, 3, 4, 5, 6, 7, 8, 9, 10, 11, 12, 13, 14] [] rfl rfl ⟨by decide, by decide⟩ (Nat.le_of_ble_eq_true rfl) ⟨by decide, by decide⟩ rfl rfl rfl rfl rfl rfl rfl (by decide) (ex_k C (cs' := 0) (ss' := 0) (wF := (wX8 g a0 r0 s0)) [0, 1, 2, 3, 4, 5, 6, 7, 8, 9, 10, 11, 12, 13, 14] rfl rfl ?_)
          refine z_if_eq (pc := 45) C dX8_knownOf_45 (tgt := 52) (by decide) (fun hc => ?_) (fun hc => ?_)
          · replace h := (ite_e h).1 hc
            refine z_lv (lv' := [(0, .ref a0), (1, .int p1), (2, .int p2), (3, .int p3), (5, .int v5), (6, .int (v6 + (1 : Int32))), (7, .int v7)]) [1, 2, 3, 4, 6, 0, 7] rfl ?_
            exact m_X8_knownOf_52 (a0 := a0) (r0 := r0) hg C X hk12 v5 (v6 + (1 : Int32)) v7 h
          · replace h := (ite_e h).2 hc
            refine z_iconst (pc := 48) C dX8_knownOf_48 ic_1 ?_
            refine z_goto (pc := 49) C dX8_knownOf_49 (tgt := 53) (by decide) ?_
            refine z_lv (lv' := [(0, .ref a0), (1, .int p1), (2, .int p2), (3, .int p3), (5, .int v5), (6, .int (v6 + (1 : Int32))), (7, .int v7)]) [1, 2, 3, 4, 6, 0, 7] rfl ?_
            exact m_X8_knownOf_53 (a0 := a0) (r0 := r0) hg C X hk12 v5 (v6 + (1 : Int32)) v7 (1 : Int32) h
def f_X8_knownOf (N : Nat) (s0 : Ob) (p1 : Int32) (p2 : Int32) (p3 : Int32) : Option (Int32) := (f_X8_knownOf_12 N s0 p1 p2 p3 N (1 : Int32) (1 : Int32) (0 : Int32) (0 : Int32))
theorem m_X8_knownOf {g : Gp} {a0 : Nat} {r0 : Nat → Nat} {N : Nat} {s0 : Ob} {p1 : Int32} {p2 : Int32} {p3 : Int32} {res : Int32} (hg : Ok g) (h : f_X8_knownOf N s0 p1 p2 p3 = some res) : Ct g yX8_knownOf cX8_knownOf 8 (some .int) (zrm 3 72) [.ref a0, .int p1, .int p2, .int p3] (wX8 g a0 r0 s0) (exR (some (.int res)) (wX8 g a0 r0 s0)) := by
  refine ct_of rfl hg (by show _ ≤ _; exact Nat.le_of_ble_eq_true rfl) (fun K C X => ?_)
  show Zs K 0 0 (wX8 g a0 r0 s0) [(0, .ref a0), (1, .int p1), (2, .int p2), (3, .int p3)] 0 []
  unfold f_X8_knownOf at h
  refine z_iconst (pc := 0) C dX8_knownOf_0 ic_1 ?_
  refine z_istore (pc := 1) C dX8_knownOf_1 (by decide) (lv' := [(4, .int (1 : Int32)), (0, .ref a0), (1, .int p1), (2, .int p2), (3, .int p3)]) rfl ?_
  refine z_iconst (pc := 3) C dX8_knownOf_3 ic_1 ?_
  refine z_istore (pc := 4) C dX8_knownOf_4 (by decide) (lv' := [(5, .int (1 : Int32)), (4, .int (1 : Int32)), (0, .ref a0), (1, .int p1), (2, .int p2), (3, .int p3)]) rfl ?_
  refine z_iconst (pc := 6) C dX8_knownOf_6 ic_0 ?_
  refine z_istore (pc := 7) C dX8_knownOf_7 (by decide) (lv' := [(6, .int (0 : Int32)), (5, .int (1 : Int32)), (4, .int (1 : Int32)), (0, .ref a0), (1, .int p1), (2, .int p2), (3, .int p3)]) rfl ?_
  refine z_iconst (pc := 9) C dX8_knownOf_9 ic_0 ?_
  refine z_istore (pc := 10) C dX8_knownOf_10 (by decide) (lv' := [(7, .int (0 : Int32)), (6, .int (0 : Int32)), (5, .int (1 : Int32)), (4, .int (1 : Int32)), (0, .ref a0), (1, .int p1), (2, .int p2), (3, .int p3)]) rfl ?_
  refine z_lv (lv' := [(0, .ref a0), (1, .int p1), (2, .int p2), (3, .int p3), (4, .int (1 : Int32)), (5, .int (1 : Int32)), (6, .int (0 : Int32)), (7, .int (0 : Int32))]) [4, 5, 6, 7, 3, 2, 1, 0] rfl ?_
  exact m_X8_knownOf_12 (a0 := a0) (r0 := r0) hg C X N (1 : Int32) (1 : Int32) (0 : Int32) (0 : Int32) h
def f_X8_known (N : Nat) (s0 : Ob) (p1 : Int32) (p2 : Int32) : Option (Int32) := (ob (f_X8_held N s0 p1 p2) fun x1 => (chk (inb ((67 : Int32) + x1) 358) (chk (inb ((107 : Int32) + x1) 358) (ob (f_X8_knownOf N s0 p1 ((s0.2.2.1 0) (((67 : Int32) + x1)).toNatClampNeg) ((s0.2.2.1 0) (((107 : Int32) + x1)).toNatClampNeg)) fun x4 => (some x4)))))
theorem m_X8_known {g : Gp} {a0 : Nat} {r0 : Nat → Nat} {N : Nat} {s0 : Ob} {p1 : Int32} {p2 : Int32} {res : Int32} (hg : Ok g) (h : f_X8_known N s0 p1 p2 = some res) : Ct g yX8_known cX8_known 4 (some .int) (zrm 4 99) [.ref a0, .int p1, .int p2] (wX8 g a0 r0 s0) (exR (some (.int res)) (wX8 g a0 r0 s0)) := by
  refine ct_of rfl hg (by show _ ≤ _; exact Nat.le_of_ble_eq_true rfl) (fun K C X => ?_)
  show Zs K 0 0 (wX8 g a0 r0 s0) [(0, .ref a0), (1, .int p1), (2, .int p2)] 0 []
  unfold f_X8_known at h
  refine z_aload_n (pc := 0) (x := a0) C dX8_known_0 (i := 0) rfl rfl ?_
  refine z_iload_n (pc := 1) (x := p1) C dX8_known_1 (i := 1) rfl rfl ?_
  refine z_iload_n (pc := 2) (x := p2) C dX8_known_2 (i := 2) rfl rfl ?_
  replace h := ob_e h
  obtain ⟨x1, hx1, h⟩ := h
  refine z_callV (pc := 3) (As := [.int p1, .int p2]) (rest := []) (wr := ([] : va_W)) C dX8_known_3 ml_RX8_217 wv_X8_held (m_X8_held (a0 := a0) (r0 := r0) hg hx1) [0, 1, 2, 3, 4, 5, 6, 7, 8, 9, 10, 11, 12, 13, 14] [] rfl rfl ⟨by decide, by decide⟩ (Nat.le_of_ble_eq_true rfl) ⟨by decide, by decide⟩ rfl rfl rfl rfl rfl rfl rfl (by decide) (ex_k C (cs' := 0) (ss' := 0) (wF := (wX8 g a0 r0 s0)) [0, 1, 2, 3, 4, 5, 6, 7, 8, 9, 10, 11, 12, 13, 14] rfl rfl ?_)
  refine z_istore_n (pc := 6) C dX8_known_6 (i := 3) rfl (by decide) (lv' := [(3, .int x1), (0, .ref a0), (1, .int p1), (2, .int p2)]) rfl ?_
  refine z_aload_n (pc := 7) (x := a0) C dX8_known_7 (i := 0) rfl rfl ?_
  refine z_iload_n (pc := 8) (x := p1) C dX8_known_8 (i := 1) rfl rfl ?_
  refine z_aload_n (pc := 9) (x := a0) C dX8_known_9 (i := 0) rfl rfl ?_
  refine z_get (pc := 10) (v := .ref (r0 0)) C 0 dX8_known_10 fl_RX8_9 rfl rfl ?_
  refine z_bipush (pc := 13) C dX8_known_13 bp_67 ?_
  refine z_iload_n (pc := 15) (x := x1) C dX8_known_15 (i := 3) rfl rfl ?_
  refine z_iadd (pc := 16) C dX8_known_16 ?_
  replace h := chk_e h
  obtain ⟨hb2, h⟩ := h
  refine z_iald (pc := 17) C 1 dX8_known_17 rfl hb2 ?_
  refine z_aload_n (pc := 18) (x := a0) C dX8_known_18 (i := 0) rfl rfl ?_
  refine z_get (pc := 19) (v := .ref (r0 0)) C 0 dX8_known_19 fl_RX8_9 rfl rfl ?_
  refine z_bipush (pc := 22) C dX8_known_22 bp_107 ?_
  refine z_iload_n (pc := 24) (x := x1) C dX8_known_24 (i := 3) rfl rfl ?_
  refine z_iadd (pc := 25) C dX8_known_25 ?_
  replace h := chk_e h
  obtain ⟨hb3, h⟩ := h
  refine z_iald (pc := 26) C 1 dX8_known_26 rfl hb3 ?_
  replace h := ob_e h
  obtain ⟨x4, hx4, h⟩ := h
  refine z_callV (pc := 27) (As := [.int p1, .int ((s0.2.2.1 0) (((67 : Int32) + x1)).toNatClampNeg), .int ((s0.2.2.1 0) (((107 : Int32) + x1)).toNatClampNeg)]) (rest := []) (wr := ([] : va_W)) C dX8_known_27 ml_RX8_248 wv_X8_knownOf (m_X8_knownOf (a0 := a0) (r0 := r0) hg hx4) [0, 1, 2, 3, 4, 5, 6, 7, 8, 9, 10, 11, 12, 13, 14] [] rfl rfl ⟨by decide, by decide⟩ (Nat.le_of_ble_eq_true rfl) ⟨by decide, by decide⟩ rfl rfl rfl rfl rfl rfl rfl (by decide) (ex_k C (cs' := 0) (ss' := 0) (wF := (wX8 g a0 r0 s0)) [0, 1, 2, 3, 4, 5, 6, 7, 8, 9, 10, 11, 12, 13, 14] rfl rfl ?_)
  exact z_iret C X dX8_known_30 (by rw [← Option.some.inj h]; exact ⟨rfl, rfl⟩) (by decide) (by decide)
def F_X8_thoughtAt_14 (N : Nat) (s0 : Ob) (p1 : Int32) (p2 : Int32) (p3 : Int32)  (k14 : Int32 → Int32 → Int32 → Option (Int32)) (v4 : Int32) (v5 : Int32) (v6 : Int32) : Option (Int32) := (if (20 : Int32) ≤ v6 then (if p3 = (-1 : Int32) then (some v5) else (some (-1 : Int32))) else (chk (inb ((67 : Int32) + v4) 358) (chk (inb ((107 : Int32) + v4) 358) (ob (f_X8_isThought N s0 p1 v6 ((s0.2.2.1 0) (((67 : Int32) + v4)).toNatClampNeg) ((s0.2.2.1 0) (((107 : Int32) + v4)).toNatClampNeg)) fun x4 => (if x4 = 0 then (k14 v4 v5 (v6 + (1 : Int32))) else (if v5 = p3 then (ob (f_X8_told N v6) fun x5 => (some x5)) else (k14 v4 (v5 + (1 : Int32)) (v6 + (1 : Int32)))))))))
def f_X8_thoughtAt_14 (N : Nat) (s0 : Ob) (p1 : Int32) (p2 : Int32) (p3 : Int32)  : Nat → Int32 → Int32 → Int32 → Option (Int32) := zlp (fun _ _ _ => none) (F_X8_thoughtAt_14 N s0 p1 p2 p3)
theorem m_X8_thoughtAt_14 {K : Kt} {g : Gp} {a0 : Nat} {r0 : Nat → Nat} {N : Nat} {s0 : Ob} {p1 : Int32} {p2 : Int32} {p3 : Int32} {res : Int32} (hg : Ok g) (C : Cx K g cX8_thoughtAt RX8 7 (zrm 3 72)) (X : Rx K (exR (some (.int res)) (wX8 g a0 r0 s0)) 0 0 (some .int)) : ∀ (n : Nat) (v4 : Int32) (v5 : Int32) (v6 : Int32), f_X8_thoughtAt_14 N s0 p1 p2 p3 n v4 v5 v6 = some res → Zs K 0 0 (wX8 g a0 r0 s0) [(0, .ref a0), (1, .int p1), (3, .int p3), (4, .int v4), (5, .int v5), (6, .int v6)] 14 [] := by
  intro n
  induction n with
  | zero => intro v4 v5 v6 h; exact nomatch (show (none : Option (Int32)) = some res from h)
  | succ n hk14 =>
    intro v4 v5 v6 h
    replace h : F_X8_thoughtAt_14 N s0 p1 p2 p3 (f_X8_thoughtAt_14 N s0 p1 p2 p3 n) v4 v5 v6 = some res := h
    unfold F_X8_thoughtAt_14 at h
    refine z_iload (pc := 14) (x := v6) C dX8_thoughtAt_14 rfl ?_
    refine z_bipush (pc := 16) C dX8_thoughtAt_16 bp_20 ?_
    refine z_icmp_ge (pc := 18) C dX8_thoughtAt_18 (tgt := 75) (by decide) (fun hc => ?_) (fun hc => ?_)
    · replace h := (ite_e h).1 hc
      refine z_iload_n (pc := 75) (x := p3) C dX8_thoughtAt_75 (i := 3) rfl rfl ?_
      refine z_iconst (pc := 76) C dX8_thoughtAt_76 ic_m1 ?_
      refine z_icmp_ne (pc := 77) C dX8_thoughtAt_77 (tgt := 85) (by decide) (fun hc => ?_) (fun hc => ?_)
      · replace h := (ite_e h).2 hc
        refine z_iconst (pc := 85) C dX8_thoughtAt_85 ic_m1 ?_
        exact z_iret C X dX8_thoughtAt_86 (by rw [← Option.some.inj h]; exact ⟨rfl, rfl⟩) (by decide) (by decide)
      · replace h := (ite_e h).1 hc
        refine z_iload (pc := 80) (x := v5) C dX8_thoughtAt_80 rfl ?_
        refine z_goto (pc := 82) C dX8_thoughtAt_82 (tgt := 86) (by decide) ?_
        exact z_iret C X dX8_thoughtAt_86 (by rw [← Option.some.inj h]; exact ⟨rfl, rfl⟩) (by decide) (by decide)
    · replace h := (ite_e h).2 hc
      refine z_aload_n (pc := 21) (x := a0) C dX8_thoughtAt_21 (i := 0) rfl rfl ?_
      refine z_iload_n (pc := 22) (x := p1) C dX8_thoughtAt_22 (i := 1) rfl rfl ?_
      refine z_iload (pc := 23) (x := v6) C dX8_thoughtAt_23 rfl ?_
      refine z_aload_n (pc := 25) (x := a0) C dX8_thoughtAt_25 (i := 0) rfl rfl ?_
      refine z_get (pc := 26) (v := .ref (r0 0)) C 0 dX8_thoughtAt_26 fl_RX8_9 rfl rfl ?_
      refine z_bipush (pc := 29) C dX8_thoughtAt_29 bp_67 ?_
      refine z_iload (pc := 31) (x := v4) C dX8_thoughtAt_31 rfl ?_
      refine z_iadd (pc := 33) C dX8_thoughtAt_33 ?_
      replace h := chk_e h
      obtain ⟨hb2, h⟩ := h
      refine z_iald (pc := 34) C 1 dX8_thoughtAt_34 rfl hb2 ?_
      refine z_aload_n (pc := 35) (x := a0) C dX8_thoughtAt_35 (i := 0) rfl rfl ?_
      refine z_get (pc := 36) (v := .ref (r0 0)) C 0 dX8_thoughtAt_36 fl_RX8_9 rfl rfl ?_
      refine z_bipush (pc := 39) C dX8_thoughtAt_39 bp_107 ?_
      refine z_iload (pc := 41) (x := v4) C dX8_thoughtAt_41 rfl ?_
      refine z_iadd (pc := 43) C dX8_thoughtAt_43 ?_
      replace h := chk_e h
      obtain ⟨hb3, h⟩ := h
      refine z_iald (pc := 44) C 1 dX8_thoughtAt_44 rfl hb3 ?_
      replace h := ob_e h
      obtain ⟨x4, hx4, h⟩ := h
      refine z_callV (pc := 45) (As := [.int p1, .int v6, .int ((s0.2.2.1 0) (((67 : Int32) + v4)).toNatClampNeg), .int ((s0.2.2.1 0) (((107 : Int32) + v4)).toNatClampNeg)]) (rest := []) (wr := ([] : va_W)) C dX8_thoughtAt_45 ml_RX8_241 wv_X8_isThought (m_X8_isThought (a0 := a0) (r0 := r0) hg hx4) [0, 1, 2, 3, 4, 5, 6, 7, 8, 9, 10, 11, 12, 13, 14] [] rfl rfl ⟨by decide, by decide⟩ (Nat.le_of_ble_eq_true rfl) ⟨by decide, by decide⟩ rfl rfl rfl rfl rfl rfl rfl (by decide) (ex_k C (cs' := 0) (ss' := 0) (wF := (wX8 g a0 r0 s0)) [0, 1, 2, 3, 4, 5, 6, 7, 8, 9, 10, 11, 12, 13, 14] rfl rfl ?_)
      refine z_if_ne (pc := 48) C dX8_thoughtAt_48 (tgt := 54) (by decide) (fun hc => ?_) (fun hc => ?_)
      · replace h := (ite_e h).2 hc
        refine z_iload (pc := 54) (x := v5) C dX8_thoughtAt_54 rfl ?_
        refine z_iload_n (pc := 56) (x := p3) C dX8_thoughtAt_56 (i := 3) rfl rfl ?_
        refine z_icmp_ne (pc := 57) C dX8_thoughtAt_57 (tgt := 66) (by decide) (fun hc => ?_) (fun hc => ?_)
        · replace h := (ite_e h).2 hc
          refine z_iinc (pc := 66) C dX8_thoughtAt_66 rfl (inc_e 1 (1 : Int32) ic_1 v5) (by decide) (lv' := [(5, .int (v5 + (1 : Int32))), (0, .ref a0), (1, .int p1), (3, .int p3), (4, .int v4), (6, .int v6)]) rfl ?_
          refine z_iinc (pc := 69) C dX8_thoughtAt_69 rfl (inc_e 1 (1 : Int32) ic_1 v6) (by decide) (lv' := [(6, .int (v6 + (1 : Int32))), (5, .int (v5 + (1 : Int32))), (0, .ref a0), (1, .int p1), (3, .int p3), (4, .int v4)]) rfl ?_
          refine z_goto (pc := 72) C dX8_thoughtAt_72 (tgt := 14) (by decide) ?_
          refine z_lv (lv' := [(0, .ref a0), (1, .int p1), (3, .int p3), (4, .int v4), (5, .int (v5 + (1 : Int32))), (6, .int (v6 + (1 : Int32)))]) [2, 3, 4, 5, 1, 0] rfl ?_
          exact hk14 v4 (v5 + (1 : Int32)) (v6 + (1 : Int32)) h
        · replace h := (ite_e h).1 hc
          refine z_iload (pc := 60) (x := v6) C dX8_thoughtAt_60 rfl ?_
          replace h := ob_e h
          obtain ⟨x5, hx5, h⟩ := h
          refine z_callS (pc := 62) (As := [.int v6]) (rest := []) (wr := (wX8 g a0 r0 s0)) C dX8_thoughtAt_62 ml_RX8_220 wt_X8_told (m_X8_told hg hx5) [] [0, 1, 2, 3, 4, 5, 6, 7, 8, 9, 10, 11, 12, 13, 14] rfl rfl ⟨by decide, by decide⟩ (Nat.le_of_ble_eq_true rfl) ⟨by decide, by decide⟩ rfl rfl rfl rfl (by decide) (ex_k C (cs' := 0) (ss' := 0) (wF := (wX8 g a0 r0 s0)) [0, 1, 2, 3, 4, 5, 6, 7, 8, 9, 10, 11, 12, 13, 14] rfl rfl ?_)
          exact z_iret C X dX8_thoughtAt_65 (by rw [← Option.some.inj h]; exact ⟨rfl, rfl⟩) (by decide) (by decide)
      · replace h := (ite_e h).1 hc
        refine z_goto (pc := 51) C dX8_thoughtAt_51 (tgt := 69) (by decide) ?_
        refine z_iinc (pc := 69) C dX8_thoughtAt_69 rfl (inc_e 1 (1 : Int32) ic_1 v6) (by decide) (lv' := [(6, .int (v6 + (1 : Int32))), (0, .ref a0), (1, .int p1), (3, .int p3), (4, .int v4), (5, .int v5)]) rfl ?_
        refine z_goto (pc := 72) C dX8_thoughtAt_72 (tgt := 14) (by decide) ?_
        refine z_lv (lv' := [(0, .ref a0), (1, .int p1), (3, .int p3), (4, .int v4), (5, .int v5), (6, .int (v6 + (1 : Int32)))]) [1, 2, 3, 4, 5, 0] rfl ?_
        exact hk14 v4 v5 (v6 + (1 : Int32)) h
def f_X8_thoughtAt (N : Nat) (s0 : Ob) (p1 : Int32) (p2 : Int32) (p3 : Int32) : Option (Int32) := (ob (f_X8_held N s0 p1 p2) fun x1 => (f_X8_thoughtAt_14 N s0 p1 p2 p3 N x1 (0 : Int32) (0 : Int32)))
theorem m_X8_thoughtAt {g : Gp} {a0 : Nat} {r0 : Nat → Nat} {N : Nat} {s0 : Ob} {p1 : Int32} {p2 : Int32} {p3 : Int32} {res : Int32} (hg : Ok g) (h : f_X8_thoughtAt N s0 p1 p2 p3 = some res) : Ct g yX8_thoughtAt cX8_thoughtAt 7 (some .int) (zrm 3 72) [.ref a0, .int p1, .int p2, .int p3] (wX8 g a0 r0 s0) (exR (some (.int res)) (wX8 g a0 r0 s0)) := by
  refine ct_of rfl hg (by show _ ≤ _; exact Nat.le_of_ble_eq_true rfl) (fun K C X => ?_)
  show Zs K 0 0 (wX8 g a0 r0 s0) [(0, .ref a0), (1, .int p1), (2, .int p2), (3, .int p3)] 0 []
  unfold f_X8_thoughtAt at h
  refine z_aload_n (pc := 0) (x := a0) C dX8_thoughtAt_0 (i := 0) rfl rfl ?_
  refine z_iload_n (pc := 1) (x := p1) C dX8_thoughtAt_1 (i := 1) rfl rfl ?_
  refine z_iload_n (pc := 2) (x := p2) C dX8_thoughtAt_2 (i := 2) rfl rfl ?_
  replace h := ob_e h
  obtain ⟨x1, hx1, h⟩ := h
  refine z_callV (pc := 3) (As := [.int p1, .int p2]) (rest := []) (wr := ([] : va_W)) C dX8_thoughtAt_3 ml_RX8_217 wv_X8_held (m_X8_held (a0 := a0) (r0 := r0) hg hx1) [0, 1, 2, 3, 4, 5, 6, 7, 8, 9, 10, 11, 12, 13, 14] [] rfl rfl ⟨by decide, by decide⟩ (Nat.le_of_ble_eq_true rfl) ⟨by decide, by decide⟩ rfl rfl rfl rfl rfl rfl rfl (by decide) (ex_k C (cs' := 0) (ss' := 0) (wF := (wX8 g a0 r0 s0)) [0, 1, 2, 3, 4, 5, 6, 7, 8, 9, 10, 11, 12, 13, 14] rfl rfl ?_)
  refine z_istore (pc := 6) C dX8_thoughtAt_6 (by decide) (lv' := [(4, .int x1), (0, .ref a0), (1, .int p1), (2, .int p2), (3, .int p3)]) rfl ?_
  refine z_iconst (pc := 8) C dX8_thoughtAt_8 ic_0 ?_
  refine z_istore (pc := 9) C dX8_thoughtAt_9 (by decide) (lv' := [(5, .int (0 : Int32)), (4, .int x1), (0, .ref a0), (1, .int p1), (2, .int p2), (3, .int p3)]) rfl ?_
  refine z_iconst (pc := 11) C dX8_thoughtAt_11 ic_0 ?_
  refine z_istore (pc := 12) C dX8_thoughtAt_12 (by decide) (lv' := [(6, .int (0 : Int32)), (5, .int (0 : Int32)), (4, .int x1), (0, .ref a0), (1, .int p1), (2, .int p2), (3, .int p3)]) rfl ?_
  refine z_lv (lv' := [(0, .ref a0), (1, .int p1), (3, .int p3), (4, .int x1), (5, .int (0 : Int32)), (6, .int (0 : Int32))]) [3, 4, 6, 2, 1, 0] rfl ?_
  exact m_X8_thoughtAt_14 (a0 := a0) (r0 := r0) hg C X N x1 (0 : Int32) (0 : Int32) h
def f_X8_thinks (N : Nat) (s0 : Ob) (p1 : Int32) (p2 : Int32) : Option (Int32 × Ob) := (ob (f_X8_isPlace N s0 p1 p2) fun x1 => (ob (f_X8_isThrown N s0 x1 (1 : Int32)) fun x2 => (if x2.1 = 0 then (ob (f_X8_thoughtAt N x2.2 p1 p2 (-1 : Int32)) fun x3 => (some (x3, x2.2))) else (some ((0 : Int32), x2.2)))))
theorem m_X8_thinks {g : Gp} {a0 : Nat} {r0 : Nat → Nat} {N : Nat} {s0 : Ob} {p1 : Int32} {p2 : Int32} {res : Int32 × Ob} (hg : Ok g) (h : f_X8_thinks N s0 p1 p2 = some res) : Ct g yX8_thinks cX8_thinks 3 (some .int) (zrm 4 98) [.ref a0, .int p1, .int p2] (wX8 g a0 r0 s0) (exR (some (.int res.1)) (wX8 g a0 r0 res.2)) := by
  refine ct_of rfl hg (by show _ ≤ _; exact Nat.le_of_ble_eq_true rfl) (fun K C X => ?_)
  show Zs K 0 0 (wX8 g a0 r0 s0) [(0, .ref a0), (1, .int p1), (2, .int p2)] 0 []
  unfold f_X8_thinks at h
  refine z_aload_n (pc := 0) (x := a0) C dX8_thinks_0 (i := 0) rfl rfl ?_
  refine z_aload_n (pc := 1) (x := a0) C dX8_thinks_1 (i := 0) rfl rfl ?_
  refine z_iload_n (pc := 2) (x := p1) C dX8_thinks_2 (i := 1) rfl rfl ?_
  refine z_iload_n (pc := 3) (x := p2) C dX8_thinks_3 (i := 2) rfl rfl ?_
  replace h := ob_e h
  obtain ⟨x1, hx1, h⟩ := h
  refine z_callV (pc := 4) (As := [.int p1, .int p2]) (rest := [.ref a0]) (wr := ([] : va_W)) C dX8_thinks_4 ml_RX8_213 wv_X8_isPlace (m_X8_isPlace (a0 := a0) (r0 := r0) hg hx1) [0, 1, 2, 3, 4, 5, 6, 7, 8, 9, 10, 11, 12, 13, 14] [] rfl rfl ⟨by decide, by decide⟩ (Nat.le_of_ble_eq_true rfl) ⟨by decide, by decide⟩ rfl rfl rfl rfl rfl rfl rfl (by decide) (ex_k C (cs' := 0) (ss' := 0) (wF := (wX8 g a0 r0 s0)) [0, 1, 2, 3, 4, 5, 6, 7, 8, 9, 10, 11, 12, 13, 14] rfl rfl ?_)
  refine z_iconst (pc := 7) C dX8_thinks_7 ic_1 ?_
  replace h := ob_e h
  obtain ⟨x2, hx2, h⟩ := h
  refine z_callV (pc := 8) (As := [.int x1, .int (1 : Int32)]) (rest := []) (wr := ([] : va_W)) C dX8_thinks_8 ml_RX8_206 wv_X8_isThrown (m_X8_isThrown (a0 := a0) (r0 := r0) hg hx2) [0, 1, 2, 3, 4, 5, 6, 7, 8, 9, 10, 11, 12, 13, 14] [] rfl rfl ⟨by decide, by decide⟩ (Nat.le_of_ble_eq_true rfl) ⟨by decide, by decide⟩ rfl rfl rfl rfl rfl rfl rfl (by decide) (ex_k C (cs' := 0) (ss' := 0) (wF := (wX8 g a0 r0 x2.2)) [0, 1, 2, 3, 4, 5, 6, 7, 8, 9, 10, 11, 12, 13, 14] rfl rfl ?_)
  refine z_if_eq (pc := 11) C dX8_thinks_11 (tgt := 18) (by decide) (fun hc => ?_) (fun hc => ?_)
  · replace h := (ite_e h).1 hc
    refine z_aload_n (pc := 18) (x := a0) C dX8_thinks_18 (i := 0) rfl rfl ?_
    refine z_iload_n (pc := 19) (x := p1) C dX8_thinks_19 (i := 1) rfl rfl ?_
    refine z_iload_n (pc := 20) (x := p2) C dX8_thinks_20 (i := 2) rfl rfl ?_
    refine z_iconst (pc := 21) C dX8_thinks_21 ic_m1 ?_
    replace h := ob_e h
    obtain ⟨x3, hx3, h⟩ := h
    refine z_callV (pc := 22) (As := [.int p1, .int p2, .int (-1 : Int32)]) (rest := []) (wr := ([] : va_W)) C dX8_thinks_22 ml_RX8_252 wv_X8_thoughtAt (m_X8_thoughtAt (a0 := a0) (r0 := r0) hg hx3) [0, 1, 2, 3, 4, 5, 6, 7, 8, 9, 10, 11, 12, 13, 14] [] rfl rfl ⟨by decide, by decide⟩ (Nat.le_of_ble_eq_true rfl) ⟨by decide, by decide⟩ rfl rfl rfl rfl rfl rfl rfl (by decide) (ex_k C (cs' := 0) (ss' := 0) (wF := (wX8 g a0 r0 x2.2)) [0, 1, 2, 3, 4, 5, 6, 7, 8, 9, 10, 11, 12, 13, 14] rfl rfl ?_)
    exact z_iret C X dX8_thinks_25 (by rw [← Option.some.inj h]; exact ⟨rfl, rfl⟩) (by decide) (by decide)
  · replace h := (ite_e h).2 hc
    refine z_iconst (pc := 14) C dX8_thinks_14 ic_0 ?_
    refine z_goto (pc := 15) C dX8_thinks_15 (tgt := 25) (by decide) ?_
    exact z_iret C X dX8_thinks_25 (by rw [← Option.some.inj h]; exact ⟨rfl, rfl⟩) (by decide) (by decide)
def f_X8_thought (N : Nat) (s0 : Ob) (p1 : Int32) (p2 : Int32) (p3 : Int32) : Option (Int32 × Ob) := (ob (f_X8_isPlace N s0 p1 p2) fun x1 => (ob (f_X8_isThrown N s0 x1 (1 : Int32)) fun x2 => (if x2.1 = 0 then (if 0 ≤ p3 then (ob (f_X8_thoughtAt N x2.2 p1 p2 p3) fun x3 => (some (x3, x2.2))) else (some ((-1 : Int32), x2.2))) else (some ((0 : Int32), x2.2)))))
theorem m_X8_thought {g : Gp} {a0 : Nat} {r0 : Nat → Nat} {N : Nat} {s0 : Ob} {p1 : Int32} {p2 : Int32} {p3 : Int32} {res : Int32 × Ob} (hg : Ok g) (h : f_X8_thought N s0 p1 p2 p3 = some res) : Ct g yX8_thought cX8_thought 4 (some .int) (zrm 4 98) [.ref a0, .int p1, .int p2, .int p3] (wX8 g a0 r0 s0) (exR (some (.int res.1)) (wX8 g a0 r0 res.2)) := by
  refine ct_of rfl hg (by show _ ≤ _; exact Nat.le_of_ble_eq_true rfl) (fun K C X => ?_)
  show Zs K 0 0 (wX8 g a0 r0 s0) [(0, .ref a0), (1, .int p1), (2, .int p2), (3, .int p3)] 0 []
  unfold f_X8_thought at h
  refine z_aload_n (pc := 0) (x := a0) C dX8_thought_0 (i := 0) rfl rfl ?_
  refine z_aload_n (pc := 1) (x := a0) C dX8_thought_1 (i := 0) rfl rfl ?_
  refine z_iload_n (pc := 2) (x := p1) C dX8_thought_2 (i := 1) rfl rfl ?_
  refine z_iload_n (pc := 3) (x := p2) C dX8_thought_3 (i := 2) rfl rfl ?_
  replace h := ob_e h
  obtain ⟨x1, hx1, h⟩ := h
  refine z_callV (pc := 4) (As := [.int p1, .int p2]) (rest := [.ref a0]) (wr := ([] : va_W)) C dX8_thought_4 ml_RX8_213 wv_X8_isPlace (m_X8_isPlace (a0 := a0) (r0 := r0) hg hx1) [0, 1, 2, 3, 4, 5, 6, 7, 8, 9, 10, 11, 12, 13, 14] [] rfl rfl ⟨by decide, by decide⟩ (Nat.le_of_ble_eq_true rfl) ⟨by decide, by decide⟩ rfl rfl rfl rfl rfl rfl rfl (by decide) (ex_k C (cs' := 0) (ss' := 0) (wF := (wX8 g a0 r0 s0)) [0, 1, 2, 3, 4, 5, 6, 7, 8, 9, 10, 11, 12, 13, 14] rfl rfl ?_)
  refine z_iconst (pc := 7) C dX8_thought_7 ic_1 ?_
  replace h := ob_e h
  obtain ⟨x2, hx2, h⟩ := h
  refine z_callV (pc := 8) (As := [.int x1, .int (1 : Int32)]) (rest := []) (wr := ([] : va_W)) C dX8_thought_8 ml_RX8_206 wv_X8_isThrown (m_X8_isThrown (a0 := a0) (r0 := r0) hg hx2) [0, 1, 2, 3, 4, 5, 6, 7, 8, 9, 10, 11, 12, 13, 14] [] rfl rfl ⟨by decide, by decide⟩ (Nat.le_of_ble_eq_true rfl) ⟨by decide, by decide⟩ rfl rfl rfl rfl rfl rfl rfl (by decide) (ex_k C (cs' := 0) (ss' := 0) (wF := (wX8 g a0 r0 x2.2)) [0, 1, 2, 3, 4, 5, 6, 7, 8, 9, 10, 11, 12, 13, 14] rfl rfl ?_)
  refine z_if_eq (pc := 11) C dX8_thought_11 (tgt := 16) (by decide) (fun hc => ?_) (fun hc => ?_)
  · replace h := (ite_e h).1 hc
    refine z_iload_n (pc := 16) (x := p3) C dX8_thought_16 (i := 3) rfl rfl ?_
    refine z_if_ge (pc := 17) C dX8_thought_17 (tgt := 24) (by decide) (fun hc => ?_) (fun hc => ?_)
    · replace h := (ite_e h).1 hc
      refine z_aload_n (pc := 24) (x := a0) C dX8_thought_24 (i := 0) rfl rfl ?_
      refine z_iload_n (pc := 25) (x := p1) C dX8_thought_25 (i := 1) rfl rfl ?_
      refine z_iload_n (pc := 26) (x := p2) C dX8_thought_26 (i := 2) rfl rfl ?_
      refine z_iload_n (pc := 27) (x := p3) C dX8_thought_27 (i := 3) rfl rfl ?_
      replace h := ob_e h
      obtain ⟨x3, hx3, h⟩ := h
      refine z_callV (pc := 28) (As := [.int p1, .int p2, .int p3]) (rest := []) (wr := ([] : va_W)) C dX8_thought_28 ml_RX8_252 wv_X8_thoughtAt (m_X8_thoughtAt (a0 := a0) (r0 := r0) hg hx3) [0, 1, 2, 3, 4, 5, 6, 7, 8, 9, 10, 11, 12, 13, 14] [] rfl rfl ⟨by decide, by decide⟩ (Nat.le_of_ble_eq_true rfl) ⟨by decide, by decide⟩ rfl rfl rfl rfl rfl rfl rfl (by decide) (ex_k C (cs' := 0) (ss' := 0) (wF := (wX8 g a0 r0 x2.2)) [0, 1, 2, 3, 4, 5, 6, 7, 8, 9, 10, 11, 12, 13, 14] rfl rfl ?_)
      exact z_iret C X dX8_thought_31 (by rw [← Option.some.inj h]; exact ⟨rfl, rfl⟩) (by decide) (by decide)
    · replace h := (ite_e h).2 hc
      refine z_iconst (pc := 20) C dX8_thought_20 ic_m1 ?_
      refine z_goto (pc := 21) C dX8_thought_21 (tgt := 31) (by decide) ?_
      exact z_iret C X dX8_thought_31 (by rw [← Option.some.inj h]; exact ⟨rfl, rfl⟩) (by decide) (by decide)
  · replace h := (ite_e h).2 hc
    refine z_iconst (pc := 14) C dX8_thought_14 ic_0 ?_
    exact z_iret C X dX8_thought_15 (by rw [← Option.some.inj h]; exact ⟨rfl, rfl⟩) (by decide) (by decide)
def f_X8_knows (N : Nat) (s0 : Ob) (p1 : Int32) (p2 : Int32) : Option (Int32 × Ob) := (ob (f_X8_isPlace N s0 p1 p2) fun x1 => (ob (f_X8_isThrown N s0 x1 (1 : Int32)) fun x2 => (if x2.1 = 0 then (ob (f_X8_known N x2.2 p1 p2) fun x3 => (some (x3, x2.2))) else (some ((0 : Int32), x2.2)))))
theorem m_X8_knows {g : Gp} {a0 : Nat} {r0 : Nat → Nat} {N : Nat} {s0 : Ob} {p1 : Int32} {p2 : Int32} {res : Int32 × Ob} (hg : Ok g) (h : f_X8_knows N s0 p1 p2 = some res) : Ct g yX8_knows cX8_knows 3 (some .int) (zrm 5 122) [.ref a0, .int p1, .int p2] (wX8 g a0 r0 s0) (exR (some (.int res.1)) (wX8 g a0 r0 res.2)) := by
  refine ct_of rfl hg (by show _ ≤ _; exact Nat.le_of_ble_eq_true rfl) (fun K C X => ?_)
  show Zs K 0 0 (wX8 g a0 r0 s0) [(0, .ref a0), (1, .int p1), (2, .int p2)] 0 []
  unfold f_X8_knows at h
  refine z_aload_n (pc := 0) (x := a0) C dX8_knows_0 (i := 0) rfl rfl ?_
  refine z_aload_n (pc := 1) (x := a0) C dX8_knows_1 (i := 0) rfl rfl ?_
  refine z_iload_n (pc := 2) (x := p1) C dX8_knows_2 (i := 1) rfl rfl ?_
  refine z_iload_n (pc := 3) (x := p2) C dX8_knows_3 (i := 2) rfl rfl ?_
  replace h := ob_e h
  obtain ⟨x1, hx1, h⟩ := h
  refine z_callV (pc := 4) (As := [.int p1, .int p2]) (rest := [.ref a0]) (wr := ([] : va_W)) C dX8_knows_4 ml_RX8_213 wv_X8_isPlace (m_X8_isPlace (a0 := a0) (r0 := r0) hg hx1) [0, 1, 2, 3, 4, 5, 6, 7, 8, 9, 10, 11, 12, 13, 14] [] rfl rfl ⟨by decide, by decide⟩ (Nat.le_of_ble_eq_true rfl) ⟨by decide, by decide⟩ rfl rfl rfl rfl rfl rfl rfl (by decide) (ex_k C (cs' := 0) (ss' := 0) (wF := (wX8 g a0 r0 s0)) [0, 1, 2, 3, 4, 5, 6, 7, 8, 9, 10, 11, 12, 13, 14] rfl rfl ?_)
  refine z_iconst (pc := 7) C dX8_knows_7 ic_1 ?_
  replace h := ob_e h
  obtain ⟨x2, hx2, h⟩ := h
  refine z_callV (pc := 8) (As := [.int x1, .int (1 : Int32)]) (rest := []) (wr := ([] : va_W)) C dX8_knows_8 ml_RX8_206 wv_X8_isThrown (m_X8_isThrown (a0 := a0) (r0 := r0) hg hx2) [0, 1, 2, 3, 4, 5, 6, 7, 8, 9, 10, 11, 12, 13, 14] [] rfl rfl ⟨by decide, by decide⟩ (Nat.le_of_ble_eq_true rfl) ⟨by decide, by decide⟩ rfl rfl rfl rfl rfl rfl rfl (by decide) (ex_k C (cs' := 0) (ss' := 0) (wF := (wX8 g a0 r0 x2.2)) [0, 1, 2, 3, 4, 5, 6, 7, 8, 9, 10, 11, 12, 13, 14] rfl rfl ?_)
  refine z_if_eq (pc := 11) C dX8_knows_11 (tgt := 18) (by decide) (fun hc => ?_) (fun hc => ?_)
  · replace h := (ite_e h).1 hc
    refine z_aload_n (pc := 18) (x := a0) C dX8_knows_18 (i := 0) rfl rfl ?_
    refine z_iload_n (pc := 19) (x := p1) C dX8_knows_19 (i := 1) rfl rfl ?_
    refine z_iload_n (pc := 20) (x := p2) C dX8_knows_20 (i := 2) rfl rfl ?_
    replace h := ob_e h
    obtain ⟨x3, hx3, h⟩ := h
    refine z_callV (pc := 21) (As := [.int p1, .int p2]) (rest := []) (wr := ([] : va_W)) C dX8_knows_21 ml_RX8_255 wv_X8_known (m_X8_known (a0 := a0) (r0 := r0) hg hx3) [0, 1, 2, 3, 4, 5, 6, 7, 8, 9, 10, 11, 12, 13, 14] [] rfl rfl ⟨by decide, by decide⟩ (Nat.le_of_ble_eq_true rfl) ⟨by decide, by decide⟩ rfl rfl rfl rfl rfl rfl rfl (by decide) (ex_k C (cs' := 0) (ss' := 0) (wF := (wX8 g a0 r0 x2.2)) [0, 1, 2, 3, 4, 5, 6, 7, 8, 9, 10, 11, 12, 13, 14] rfl rfl ?_)
    exact z_iret C X dX8_knows_24 (by rw [← Option.some.inj h]; exact ⟨rfl, rfl⟩) (by decide) (by decide)
  · replace h := (ite_e h).2 hc
    refine z_iconst (pc := 14) C dX8_knows_14 ic_0 ?_
    refine z_goto (pc := 15) C dX8_knows_15 (tgt := 24) (by decide) ?_
    exact z_iret C X dX8_knows_24 (by rw [← Option.some.inj h]; exact ⟨rfl, rfl⟩) (by decide) (by decide)
def f_X8_isWordOf_20 (N : Nat) (s0 : Ob) (p1 : Int32) (p2 : Int32)   : Option (Int32) := (if p1 = (1 : Int32) then (ob (f_X8_in N p2 (1 : Int32) ((s0.2.2.1 0) 1)) fun x1 => (if x1 = 0 then (some (0 : Int32)) else (some (1 : Int32)))) else (some (0 : Int32)))
theorem m_X8_isWordOf_20 {K : Kt} {g : Gp} {a0 : Nat} {r0 : Nat → Nat} {N : Nat} {s0 : Ob} {p1 : Int32} {p2 : Int32} {res : Int32} (hg : Ok g) (C : Cx K g cX8_isWordOf RX8 3 (zrm 1 22)) (X : Rx K (exR (some (.int res)) (wX8 g a0 r0 s0)) 0 0 (some .boolean))  (h : f_X8_isWordOf_20 N s0 p1 p2  = some res) : Zs K 0 0 (wX8 g a0 r0 s0) [(0, .ref a0), (1, .int p1), (2, .int p2)] 20 [] := by
  unfold f_X8_isWordOf_20 at h
  refine z_iload_n (pc := 20) (x := p1) C dX8_isWordOf_20 (i := 1) rfl rfl ?_
  refine z_iconst (pc := 21) C dX8_isWordOf_21 ic_1 ?_
  refine z_icmp_ne (pc := 22) C dX8_isWordOf_22 (tgt := 43) (by decide) (fun hc => ?_) (fun hc => ?_)
  · replace h := (ite_e h).2 hc
    refine z_iconst (pc := 43) C dX8_isWordOf_43 ic_0 ?_
    exact z_zret C X dX8_isWordOf_44 rfl (by rw [← Option.some.inj h]; exact ⟨rfl, rfl⟩) (by decide) (by decide)
  · replace h := (ite_e h).1 hc
    refine z_iload_n (pc := 25) (x := p2) C dX8_isWordOf_25 (i := 2) rfl rfl ?_
    refine z_iconst (pc := 26) C dX8_isWordOf_26 ic_1 ?_
    refine z_aload_n (pc := 27) (x := a0) C dX8_isWordOf_27 (i := 0) rfl rfl ?_
    refine z_get (pc := 28) (v := .ref (r0 0)) C 0 dX8_isWordOf_28 fl_RX8_9 rfl rfl ?_
    refine z_iconst (pc := 31) C dX8_isWordOf_31 ic_1 ?_
    refine z_iald (pc := 32) C 1 dX8_isWordOf_32 rfl (by decide) ?_
    refine z_top1 (v := ((s0.2.2.1 0) 1)) rfl ?_
    replace h := ob_e h
    obtain ⟨x1, hx1, h⟩ := h
    refine z_callS (pc := 33) (As := [.int p2, .int (1 : Int32), .int ((s0.2.2.1 0) 1)]) (rest := []) (wr := (wX8 g a0 r0 s0)) C dX8_isWordOf_33 ml_RX8_62 wt_X8_in (m_X8_in hg hx1) [] [0, 1, 2, 3, 4, 5, 6, 7, 8, 9, 10, 11, 12, 13, 14] rfl rfl ⟨by decide, by decide⟩ (Nat.le_of_ble_eq_true rfl) ⟨by decide, by decide⟩ rfl rfl rfl rfl (by decide) (ex_k C (cs' := 0) (ss' := 0) (wF := (wX8 g a0 r0 s0)) [0, 1, 2, 3, 4, 5, 6, 7, 8, 9, 10, 11, 12, 13, 14] rfl rfl ?_)
    refine z_if_eq (pc := 36) C dX8_isWordOf_36 (tgt := 43) (by decide) (fun hc => ?_) (fun hc => ?_)
    · replace h := (ite_e h).1 hc
      refine z_iconst (pc := 43) C dX8_isWordOf_43 ic_0 ?_
      exact z_zret C X dX8_isWordOf_44 rfl (by rw [← Option.some.inj h]; exact ⟨rfl, rfl⟩) (by decide) (by decide)
    · replace h := (ite_e h).2 hc
      refine z_iconst (pc := 39) C dX8_isWordOf_39 ic_1 ?_
      refine z_goto (pc := 40) C dX8_isWordOf_40 (tgt := 44) (by decide) ?_
      exact z_zret C X dX8_isWordOf_44 rfl (by rw [← Option.some.inj h]; exact ⟨rfl, rfl⟩) (by decide) (by decide)
def f_X8_isWordOf (N : Nat) (s0 : Ob) (p1 : Int32) (p2 : Int32) : Option (Int32) := (if p1 = 0 then (ob (f_X8_in N p2 (0 : Int32) (((s0.2.2.1 0) 0) - (1 : Int32))) fun x2 => (if x2 = 0 then (f_X8_isWordOf_20 N s0 p1 p2 ) else (some (1 : Int32)))) else (f_X8_isWordOf_20 N s0 p1 p2 ))
theorem m_X8_isWordOf {g : Gp} {a0 : Nat} {r0 : Nat → Nat} {N : Nat} {s0 : Ob} {p1 : Int32} {p2 : Int32} {res : Int32} (hg : Ok g) (h : f_X8_isWordOf N s0 p1 p2 = some res) : Ct g yX8_isWordOf cX8_isWordOf 3 (some .boolean) (zrm 1 22) [.ref a0, .int p1, .int p2] (wX8 g a0 r0 s0) (exR (some (.int res)) (wX8 g a0 r0 s0)) := by
  refine ct_of rfl hg (by show _ ≤ _; exact Nat.le_of_ble_eq_true rfl) (fun K C X => ?_)
  show Zs K 0 0 (wX8 g a0 r0 s0) [(0, .ref a0), (1, .int p1), (2, .int p2)] 0 []
  unfold f_X8_isWordOf at h
  refine z_iload_n (pc := 0) (x := p1) C dX8_isWordOf_0 (i := 1) rfl rfl ?_
  refine z_if_ne (pc := 1) C dX8_isWordOf_1 (tgt := 20) (by decide) (fun hc => ?_) (fun hc => ?_)
  · replace h := (ite_e h).2 hc
    exact m_X8_isWordOf_20 (a0 := a0) (r0 := r0) hg C X  h
  · replace h := (ite_e h).1 hc
    refine z_iload_n (pc := 4) (x := p2) C dX8_isWordOf_4 (i := 2) rfl rfl ?_
    refine z_iconst (pc := 5) C dX8_isWordOf_5 ic_0 ?_
    refine z_aload_n (pc := 6) (x := a0) C dX8_isWordOf_6 (i := 0) rfl rfl ?_
    refine z_get (pc := 7) (v := .ref (r0 0)) C 0 dX8_isWordOf_7 fl_RX8_9 rfl rfl ?_
    refine z_iconst (pc := 10) C dX8_isWordOf_10 ic_0 ?_
    refine z_iald (pc := 11) C 1 dX8_isWordOf_11 rfl (by decide) ?_
    refine z_top1 (v := ((s0.2.2.1 0) 0)) rfl ?_
    refine z_iconst (pc := 12) C dX8_isWordOf_12 ic_1 ?_
    refine z_isub (pc := 13) C dX8_isWordOf_13 ?_
    replace h := ob_e h
    obtain ⟨x2, hx2, h⟩ := h
    refine z_callS (pc := 14) (As := [.int p2, .int (0 : Int32), .int (((s0.2.2.1 0) 0) - (1 : Int32))]) (rest := []) (wr := (wX8 g a0 r0 s0)) C dX8_isWordOf_14 ml_RX8_62 wt_X8_in (m_X8_in hg hx2) [] [0, 1, 2, 3, 4, 5, 6, 7, 8, 9, 10, 11, 12, 13, 14] rfl rfl ⟨by decide, by decide⟩ (Nat.le_of_ble_eq_true rfl) ⟨by decide, by decide⟩ rfl rfl rfl rfl (by decide) (ex_k C (cs' := 0) (ss' := 0) (wF := (wX8 g a0 r0 s0)) [0, 1, 2, 3, 4, 5, 6, 7, 8, 9, 10, 11, 12, 13, 14] rfl rfl ?_)
    refine z_if_ne (pc := 17) C dX8_isWordOf_17 (tgt := 39) (by decide) (fun hc => ?_) (fun hc => ?_)
    · replace h := (ite_e h).2 hc
      refine z_iconst (pc := 39) C dX8_isWordOf_39 ic_1 ?_
      refine z_goto (pc := 40) C dX8_isWordOf_40 (tgt := 44) (by decide) ?_
      exact z_zret C X dX8_isWordOf_44 rfl (by rw [← Option.some.inj h]; exact ⟨rfl, rfl⟩) (by decide) (by decide)
    · replace h := (ite_e h).1 hc
      exact m_X8_isWordOf_20 (a0 := a0) (r0 := r0) hg C X  h
def f_X8_wordsLeft (N : Nat) (s0 : Ob) (p1 : Int32) (p2 : Int32) : Option (Int32 × Ob) := (ob (f_X8_isWordOf N s0 p1 p2) fun x1 => (ob (f_X8_isThrown N s0 x1 (1 : Int32)) fun x2 => (if x2.1 = 0 then (ob (f_X8_wordAt N p1 p2) fun x3 => (chk (inb x3 358) (some (((x2.2.2.2.1 0) (x3).toNatClampNeg), x2.2)))) else (some ((0 : Int32), x2.2)))))
theorem m_X8_wordsLeft {g : Gp} {a0 : Nat} {r0 : Nat → Nat} {N : Nat} {s0 : Ob} {p1 : Int32} {p2 : Int32} {res : Int32 × Ob} (hg : Ok g) (h : f_X8_wordsLeft N s0 p1 p2 = some res) : Ct g yX8_wordsLeft cX8_wordsLeft 3 (some .int) (zrm 2 44) [.ref a0, .int p1, .int p2] (wX8 g a0 r0 s0) (exR (some (.int res.1)) (wX8 g a0 r0 res.2)) := by
  refine ct_of rfl hg (by show _ ≤ _; exact Nat.le_of_ble_eq_true rfl) (fun K C X => ?_)
  show Zs K 0 0 (wX8 g a0 r0 s0) [(0, .ref a0), (1, .int p1), (2, .int p2)] 0 []
  unfold f_X8_wordsLeft at h
  refine z_aload_n (pc := 0) (x := a0) C dX8_wordsLeft_0 (i := 0) rfl rfl ?_
  refine z_aload_n (pc := 1) (x := a0) C dX8_wordsLeft_1 (i := 0) rfl rfl ?_
  refine z_iload_n (pc := 2) (x := p1) C dX8_wordsLeft_2 (i := 1) rfl rfl ?_
  refine z_iload_n (pc := 3) (x := p2) C dX8_wordsLeft_3 (i := 2) rfl rfl ?_
  replace h := ob_e h
  obtain ⟨x1, hx1, h⟩ := h
  refine z_callV (pc := 4) (As := [.int p1, .int p2]) (rest := [.ref a0]) (wr := ([] : va_W)) C dX8_wordsLeft_4 ml_RX8_258 wv_X8_isWordOf (m_X8_isWordOf (a0 := a0) (r0 := r0) hg hx1) [0, 1, 2, 3, 4, 5, 6, 7, 8, 9, 10, 11, 12, 13, 14] [] rfl rfl ⟨by decide, by decide⟩ (Nat.le_of_ble_eq_true rfl) ⟨by decide, by decide⟩ rfl rfl rfl rfl rfl rfl rfl (by decide) (ex_k C (cs' := 0) (ss' := 0) (wF := (wX8 g a0 r0 s0)) [0, 1, 2, 3, 4, 5, 6, 7, 8, 9, 10, 11, 12, 13, 14] rfl rfl ?_)
  refine z_iconst (pc := 7) C dX8_wordsLeft_7 ic_1 ?_
  replace h := ob_e h
  obtain ⟨x2, hx2, h⟩ := h
  refine z_callV (pc := 8) (As := [.int x1, .int (1 : Int32)]) (rest := []) (wr := ([] : va_W)) C dX8_wordsLeft_8 ml_RX8_206 wv_X8_isThrown (m_X8_isThrown (a0 := a0) (r0 := r0) hg hx2) [0, 1, 2, 3, 4, 5, 6, 7, 8, 9, 10, 11, 12, 13, 14] [] rfl rfl ⟨by decide, by decide⟩ (Nat.le_of_ble_eq_true rfl) ⟨by decide, by decide⟩ rfl rfl rfl rfl rfl rfl rfl (by decide) (ex_k C (cs' := 0) (ss' := 0) (wF := (wX8 g a0 r0 x2.2)) [0, 1, 2, 3, 4, 5, 6, 7, 8, 9, 10, 11, 12, 13, 14] rfl rfl ?_)
  refine z_if_eq (pc := 11) C dX8_wordsLeft_11 (tgt := 18) (by decide) (fun hc => ?_) (fun hc => ?_)
  · replace h := (ite_e h).1 hc
    refine z_aload_n (pc := 18) (x := a0) C dX8_wordsLeft_18 (i := 0) rfl rfl ?_
    refine z_get (pc := 19) (v := .ref (r0 0)) C 0 dX8_wordsLeft_19 fl_RX8_9 rfl rfl ?_
    refine z_iload_n (pc := 22) (x := p1) C dX8_wordsLeft_22 (i := 1) rfl rfl ?_
    refine z_iload_n (pc := 23) (x := p2) C dX8_wordsLeft_23 (i := 2) rfl rfl ?_
    replace h := ob_e h
    obtain ⟨x3, hx3, h⟩ := h
    refine z_callS (pc := 24) (As := [.int p1, .int p2]) (rest := [.ref (r0 0)]) (wr := (wX8 g a0 r0 x2.2)) C dX8_wordsLeft_24 ml_RX8_142 wt_X8_wordAt (m_X8_wordAt hg hx3) [] [0, 1, 2, 3, 4, 5, 6, 7, 8, 9, 10, 11, 12, 13, 14] rfl rfl ⟨by decide, by decide⟩ (Nat.le_of_ble_eq_true rfl) ⟨by decide, by decide⟩ rfl rfl rfl rfl (by decide) (ex_k C (cs' := 0) (ss' := 0) (wF := (wX8 g a0 r0 x2.2)) [0, 1, 2, 3, 4, 5, 6, 7, 8, 9, 10, 11, 12, 13, 14] rfl rfl ?_)
    replace h := chk_e h
    obtain ⟨hb4, h⟩ := h
    refine z_iald (pc := 27) C 1 dX8_wordsLeft_27 rfl hb4 ?_
    exact z_iret C X dX8_wordsLeft_28 (by rw [← Option.some.inj h]; exact ⟨rfl, rfl⟩) (by decide) (by decide)
  · replace h := (ite_e h).2 hc
    refine z_iconst (pc := 14) C dX8_wordsLeft_14 ic_0 ?_
    refine z_goto (pc := 15) C dX8_wordsLeft_15 (tgt := 28) (by decide) ?_
    exact z_iret C X dX8_wordsLeft_28 (by rw [← Option.some.inj h]; exact ⟨rfl, rfl⟩) (by decide) (by decide)
def f_X8_isTouchedBy (N : Nat) (s0 : Ob) (p1 : Int32) (p2 : Int32) (p3 : Int32) : Option (Int32) := (chk (inb ((27 : Int32) + p1) 358) (if p2 = 0 then (ob (f_X8_colorOf N ((s0.2.2.1 0) (((27 : Int32) + p1)).toNatClampNeg)) fun x3 => (if x3 = p3 then (some (1 : Int32)) else (some (0 : Int32)))) else (ob (f_X8_rankOf N ((s0.2.2.1 0) (((27 : Int32) + p1)).toNatClampNeg)) fun x2 => (if x2 = p3 then (some (1 : Int32)) else (some (0 : Int32))))))
theorem m_X8_isTouchedBy {g : Gp} {a0 : Nat} {r0 : Nat → Nat} {N : Nat} {s0 : Ob} {p1 : Int32} {p2 : Int32} {p3 : Int32} {res : Int32} (hg : Ok g) (h : f_X8_isTouchedBy N s0 p1 p2 p3 = some res) : Ct g yX8_isTouchedBy cX8_isTouchedBy 5 (some .boolean) (zrm 1 20) [.ref a0, .int p1, .int p2, .int p3] (wX8 g a0 r0 s0) (exR (some (.int res)) (wX8 g a0 r0 s0)) := by
  refine ct_of rfl hg (by show _ ≤ _; exact Nat.le_of_ble_eq_true rfl) (fun K C X => ?_)
  show Zs K 0 0 (wX8 g a0 r0 s0) [(0, .ref a0), (1, .int p1), (2, .int p2), (3, .int p3)] 0 []
  unfold f_X8_isTouchedBy at h
  refine z_aload_n (pc := 0) (x := a0) C dX8_isTouchedBy_0 (i := 0) rfl rfl ?_
  refine z_get (pc := 1) (v := .ref (r0 0)) C 0 dX8_isTouchedBy_1 fl_RX8_9 rfl rfl ?_
  refine z_bipush (pc := 4) C dX8_isTouchedBy_4 bp_27 ?_
  refine z_iload_n (pc := 6) (x := p1) C dX8_isTouchedBy_6 (i := 1) rfl rfl ?_
  refine z_iadd (pc := 7) C dX8_isTouchedBy_7 ?_
  replace h := chk_e h
  obtain ⟨hb1, h⟩ := h
  refine z_iald (pc := 8) C 1 dX8_isTouchedBy_8 rfl hb1 ?_
  refine z_istore (pc := 9) C dX8_isTouchedBy_9 (by decide) (lv' := [(4, .int ((s0.2.2.1 0) (((27 : Int32) + p1)).toNatClampNeg)), (0, .ref a0), (1, .int p1), (2, .int p2), (3, .int p3)]) rfl ?_
  refine z_iload_n (pc := 11) (x := p2) C dX8_isTouchedBy_11 (i := 2) rfl rfl ?_
  refine z_if_ne (pc := 12) C dX8_isTouchedBy_12 (tgt := 32) (by decide) (fun hc => ?_) (fun hc => ?_)
  · replace h := (ite_e h).2 hc
    refine z_iload (pc := 32) (x := ((s0.2.2.1 0) (((27 : Int32) + p1)).toNatClampNeg)) C dX8_isTouchedBy_32 rfl ?_
    replace h := ob_e h
    obtain ⟨x2, hx2, h⟩ := h
    refine z_callS (pc := 34) (As := [.int ((s0.2.2.1 0) (((27 : Int32) + p1)).toNatClampNeg)]) (rest := []) (wr := (wX8 g a0 r0 s0)) C dX8_isTouchedBy_34 ml_RX8_74 wt_X8_rankOf (m_X8_rankOf hg hx2) [] [0, 1, 2, 3, 4, 5, 6, 7, 8, 9, 10, 11, 12, 13, 14] rfl rfl ⟨by decide, by decide⟩ (Nat.le_of_ble_eq_true rfl) ⟨by decide, by decide⟩ rfl rfl rfl rfl (by decide) (ex_k C (cs' := 0) (ss' := 0) (wF := (wX8 g a0 r0 s0)) [0, 1, 2, 3, 4, 5, 6, 7, 8, 9, 10, 11, 12, 13, 14] rfl rfl ?_)
    refine z_iload_n (pc := 37) (x := p3) C dX8_isTouchedBy_37 (i := 3) rfl rfl ?_
    refine z_icmp_ne (pc := 38) C dX8_isTouchedBy_38 (tgt := 45) (by decide) (fun hc => ?_) (fun hc => ?_)
    · replace h := (ite_e h).2 hc
      refine z_iconst (pc := 45) C dX8_isTouchedBy_45 ic_0 ?_
      exact z_zret C X dX8_isTouchedBy_46 rfl (by rw [← Option.some.inj h]; exact ⟨rfl, rfl⟩) (by decide) (by decide)
    · replace h := (ite_e h).1 hc
      refine z_iconst (pc := 41) C dX8_isTouchedBy_41 ic_1 ?_
      refine z_goto (pc := 42) C dX8_isTouchedBy_42 (tgt := 46) (by decide) ?_
      exact z_zret C X dX8_isTouchedBy_46 rfl (by rw [← Option.some.inj h]; exact ⟨rfl, rfl⟩) (by decide) (by decide)
  · replace h := (ite_e h).1 hc
    refine z_iload (pc := 15) (x := ((s0.2.2.1 0) (((27 : Int32) + p1)).toNatClampNeg)) C dX8_isTouchedBy_15 rfl ?_
    replace h := ob_e h
    obtain ⟨x3, hx3, h⟩ := h
    refine z_callS (pc := 17) (As := [.int ((s0.2.2.1 0) (((27 : Int32) + p1)).toNatClampNeg)]) (rest := []) (wr := (wX8 g a0 r0 s0)) C dX8_isTouchedBy_17 ml_RX8_70 wt_X8_colorOf (m_X8_colorOf hg hx3) [] [0, 1, 2, 3, 4, 5, 6, 7, 8, 9, 10, 11, 12, 13, 14] rfl rfl ⟨by decide, by decide⟩ (Nat.le_of_ble_eq_true rfl) ⟨by decide, by decide⟩ rfl rfl rfl rfl (by decide) (ex_k C (cs' := 0) (ss' := 0) (wF := (wX8 g a0 r0 s0)) [0, 1, 2, 3, 4, 5, 6, 7, 8, 9, 10, 11, 12, 13, 14] rfl rfl ?_)
    refine z_iload_n (pc := 20) (x := p3) C dX8_isTouchedBy_20 (i := 3) rfl rfl ?_
    refine z_icmp_ne (pc := 21) C dX8_isTouchedBy_21 (tgt := 28) (by decide) (fun hc => ?_) (fun hc => ?_)
    · replace h := (ite_e h).2 hc
      refine z_iconst (pc := 28) C dX8_isTouchedBy_28 ic_0 ?_
      refine z_goto (pc := 29) C dX8_isTouchedBy_29 (tgt := 46) (by decide) ?_
      exact z_zret C X dX8_isTouchedBy_46 rfl (by rw [← Option.some.inj h]; exact ⟨rfl, rfl⟩) (by decide) (by decide)
    · replace h := (ite_e h).1 hc
      refine z_iconst (pc := 24) C dX8_isTouchedBy_24 ic_1 ?_
      refine z_goto (pc := 25) C dX8_isTouchedBy_25 (tgt := 46) (by decide) ?_
      exact z_zret C X dX8_isTouchedBy_46 rfl (by rw [← Option.some.inj h]; exact ⟨rfl, rfl⟩) (by decide) (by decide)
def F_X8_touched_6 (N : Nat) (s0 : Ob) (p1 : Int32) (p2 : Int32) (p3 : Int32)  (k6 : Int32 → Int32 → Option (Int32)) (v4 : Int32) (v5 : Int32) : Option (Int32) := (chk (inb ((187 : Int32) + p1) 358) (if ((s0.2.2.1 0) (((187 : Int32) + p1)).toNatClampNeg) ≤ v5 then (some v4) else (ob (f_X8_held N s0 p1 v5) fun x2 => (ob (f_X8_isTouchedBy N s0 x2 p2 p3) fun x3 => (if x3 = 0 then (k6 (v4 ||| (0 : Int32)) (v5 + (1 : Int32))) else (k6 (v4 ||| ((1 : Int32) <<< (v5 &&& 31))) (v5 + (1 : Int32))))))))
def f_X8_touched_6 (N : Nat) (s0 : Ob) (p1 : Int32) (p2 : Int32) (p3 : Int32)  : Nat → Int32 → Int32 → Option (Int32) := zlp (fun _ _ => none) (F_X8_touched_6 N s0 p1 p2 p3)
theorem m_X8_touched_6 {K : Kt} {g : Gp} {a0 : Nat} {r0 : Nat → Nat} {N : Nat} {s0 : Ob} {p1 : Int32} {p2 : Int32} {p3 : Int32} {res : Int32} (hg : Ok g) (C : Cx K g cX8_touched RX8 6 (zrm 2 44)) (X : Rx K (exR (some (.int res)) (wX8 g a0 r0 s0)) 0 0 (some .int)) : ∀ (n : Nat) (v4 : Int32) (v5 : Int32), f_X8_touched_6 N s0 p1 p2 p3 n v4 v5 = some res → Zs K 0 0 (wX8 g a0 r0 s0) [(0, .ref a0), (1, .int p1), (2, .int p2), (3, .int p3), (4, .int v4), (5, .int v5)] 6 [] := by
  intro n
  induction n with
  | zero => intro v4 v5 h; exact nomatch (show (none : Option (Int32)) = some res from h)
  | succ n hk6 =>
    intro v4 v5 h
    replace h : F_X8_touched_6 N s0 p1 p2 p3 (f_X8_touched_6 N s0 p1 p2 p3 n) v4 v5 = some res := h
    unfold F_X8_touched_6 at h
    refine z_iload (pc := 6) (x := v5) C dX8_touched_6 rfl ?_
    refine z_aload_n (pc := 8) (x := a0) C dX8_touched_8 (i := 0) rfl rfl ?_
    refine z_get (pc := 9) (v := .ref (r0 0)) C 0 dX8_touched_9 fl_RX8_9 rfl rfl ?_
    refine z_sipush (pc := 12) C dX8_touched_12 sp_187 ?_
    refine z_iload_n (pc := 15) (x := p1) C dX8_touched_15 (i := 1) rfl rfl ?_
    refine z_iadd (pc := 16) C dX8_touched_16 ?_
    replace h := chk_e h
    obtain ⟨hb1, h⟩ := h
    refine z_iald (pc := 17) C 1 dX8_touched_17 rfl hb1 ?_
    refine z_icmp_ge (pc := 18) C dX8_touched_18 (tgt := 56) (by decide) (fun hc => ?_) (fun hc => ?_)
    · replace h := (ite_e h).1 hc
      refine z_iload (pc := 56) (x := v4) C dX8_touched_56 rfl ?_
      exact z_iret C X dX8_touched_58 (by rw [← Option.some.inj h]; exact ⟨rfl, rfl⟩) (by decide) (by decide)
    · replace h := (ite_e h).2 hc
      refine z_iload (pc := 21) (x := v4) C dX8_touched_21 rfl ?_
      refine z_aload_n (pc := 23) (x := a0) C dX8_touched_23 (i := 0) rfl rfl ?_
      refine z_aload_n (pc := 24) (x := a0) C dX8_touched_24 (i := 0) rfl rfl ?_
      refine z_iload_n (pc := 25) (x := p1) C dX8_touched_25 (i := 1) rfl rfl ?_
      refine z_iload (pc := 26) (x := v5) C dX8_touched_26 rfl ?_
      replace h := ob_e h
      obtain ⟨x2, hx2, h⟩ := h
      refine z_callV (pc := 28) (As := [.int p1, .int v5]) (rest := [.ref a0, .int v4]) (wr := ([] : va_W)) C dX8_touched_28 ml_RX8_217 wv_X8_held (m_X8_held (a0 := a0) (r0 := r0) hg hx2) [0, 1, 2, 3, 4, 5, 6, 7, 8, 9, 10, 11, 12, 13, 14] [] rfl rfl ⟨by decide, by decide⟩ (Nat.le_of_ble_eq_true rfl) ⟨by decide, by decide⟩ rfl rfl rfl rfl rfl rfl rfl (by decide) (ex_k C (cs' := 0) (ss' := 0) (wF := (wX8 g a0 r0 s0)) [0, 1, 2, 3, 4, 5, 6, 7, 8, 9, 10, 11, 12, 13, 14] rfl rfl ?_)
      refine z_iload_n (pc := 31) (x := p2) C dX8_touched_31 (i := 2) rfl rfl ?_
      refine z_iload_n (pc := 32) (x := p3) C dX8_touched_32 (i := 3) rfl rfl ?_
      replace h := ob_e h
      obtain ⟨x3, hx3, h⟩ := h
      refine z_callV (pc := 33) (As := [.int x2, .int p2, .int p3]) (rest := [.int v4]) (wr := ([] : va_W)) C dX8_touched_33 ml_RX8_261 wv_X8_isTouchedBy (m_X8_isTouchedBy (a0 := a0) (r0 := r0) hg hx3) [0, 1, 2, 3, 4, 5, 6, 7, 8, 9, 10, 11, 12, 13, 14] [] rfl rfl ⟨by decide, by decide⟩ (Nat.le_of_ble_eq_true rfl) ⟨by decide, by decide⟩ rfl rfl rfl rfl rfl rfl rfl (by decide) (ex_k C (cs' := 0) (ss' := 0) (wF := (wX8 g a0 r0 s0)) [0, 1, 2, 3, 4, 5, 6, 7, 8, 9, 10, 11, 12, 13, 14] rfl rfl ?_)
      refine z_if_eq (pc := 36) C dX8_touched_36 (tgt := 46) (by decide) (fun hc => ?_) (fun hc => ?_)
      · replace h := (ite_e h).1 hc
        refine z_iconst (pc := 46) C dX8_touched_46 ic_0 ?_
        refine z_ior (pc := 47) C dX8_touched_47 ?_
        refine z_istore (pc := 48) C dX8_touched_48 (by decide) (lv' := [(4, .int (v4 ||| (0 : Int32))), (0, .ref a0), (1, .int p1), (2, .int p2), (3, .int p3), (5, .int v5)]) rfl ?_
        refine z_iinc (pc := 50) C dX8_touched_50 rfl (inc_e 1 (1 : Int32) ic_1 v5) (by decide) (lv' := [(5, .int (v5 + (1 : Int32))), (4, .int (v4 ||| (0 : Int32))), (0, .ref a0), (1, .int p1), (2, .int p2), (3, .int p3)]) rfl ?_
        refine z_goto (pc := 53) C dX8_touched_53 (tgt := 6) (by decide) ?_
        refine z_lv (lv' := [(0, .ref a0), (1, .int p1), (2, .int p2), (3, .int p3), (4, .int (v4 ||| (0 : Int32))), (5, .int (v5 + (1 : Int32)))]) [2, 3, 4, 5, 1, 0] rfl ?_
        exact hk6 (v4 ||| (0 : Int32)) (v5 + (1 : Int32)) h
      · replace h := (ite_e h).2 hc
        refine z_iconst (pc := 39) C dX8_touched_39 ic_1 ?_
        refine z_iload (pc := 40) (x := v5) C dX8_touched_40 rfl ?_
        refine z_ishl (pc := 42) C dX8_touched_42 ?_
        refine z_goto (pc := 43) C dX8_touched_43 (tgt := 47) (by decide) ?_
        refine z_ior (pc := 47) C dX8_touched_47 ?_
        refine z_istore (pc := 48) C dX8_touched_48 (by decide) (lv' := [(4, .int (v4 ||| ((1 : Int32) <<< (v5 &&& 31)))), (0, .ref a0), (1, .int p1), (2, .int p2), (3, .int p3), (5, .int v5)]) rfl ?_
        refine z_iinc (pc := 50) C dX8_touched_50 rfl (inc_e 1 (1 : Int32) ic_1 v5) (by decide) (lv' := [(5, .int (v5 + (1 : Int32))), (4, .int (v4 ||| ((1 : Int32) <<< (v5 &&& 31)))), (0, .ref a0), (1, .int p1), (2, .int p2), (3, .int p3)]) rfl ?_
        refine z_goto (pc := 53) C dX8_touched_53 (tgt := 6) (by decide) ?_
        refine z_lv (lv' := [(0, .ref a0), (1, .int p1), (2, .int p2), (3, .int p3), (4, .int (v4 ||| ((1 : Int32) <<< (v5 &&& 31)))), (5, .int (v5 + (1 : Int32)))]) [2, 3, 4, 5, 1, 0] rfl ?_
        exact hk6 (v4 ||| ((1 : Int32) <<< (v5 &&& 31))) (v5 + (1 : Int32)) h
def f_X8_touched (N : Nat) (s0 : Ob) (p1 : Int32) (p2 : Int32) (p3 : Int32) : Option (Int32) := (f_X8_touched_6 N s0 p1 p2 p3 N (0 : Int32) (0 : Int32))
theorem m_X8_touched {g : Gp} {a0 : Nat} {r0 : Nat → Nat} {N : Nat} {s0 : Ob} {p1 : Int32} {p2 : Int32} {p3 : Int32} {res : Int32} (hg : Ok g) (h : f_X8_touched N s0 p1 p2 p3 = some res) : Ct g yX8_touched cX8_touched 6 (some .int) (zrm 2 44) [.ref a0, .int p1, .int p2, .int p3] (wX8 g a0 r0 s0) (exR (some (.int res)) (wX8 g a0 r0 s0)) := by
  refine ct_of rfl hg (by show _ ≤ _; exact Nat.le_of_ble_eq_true rfl) (fun K C X => ?_)
  show Zs K 0 0 (wX8 g a0 r0 s0) [(0, .ref a0), (1, .int p1), (2, .int p2), (3, .int p3)] 0 []
  unfold f_X8_touched at h
  refine z_iconst (pc := 0) C dX8_touched_0 ic_0 ?_
  refine z_istore (pc := 1) C dX8_touched_1 (by decide) (lv' := [(4, .int (0 : Int32)), (0, .ref a0), (1, .int p1), (2, .int p2), (3, .int p3)]) rfl ?_
  refine z_iconst (pc := 3) C dX8_touched_3 ic_0 ?_
  refine z_istore (pc := 4) C dX8_touched_4 (by decide) (lv' := [(5, .int (0 : Int32)), (4, .int (0 : Int32)), (0, .ref a0), (1, .int p1), (2, .int p2), (3, .int p3)]) rfl ?_
  refine z_lv (lv' := [(0, .ref a0), (1, .int p1), (2, .int p2), (3, .int p3), (4, .int (0 : Int32)), (5, .int (0 : Int32))]) [2, 3, 4, 5, 1, 0] rfl ?_
  exact m_X8_touched_6 (a0 := a0) (r0 := r0) hg C X N (0 : Int32) (0 : Int32) h
def f_X8_touches (N : Nat) (s0 : Ob) (p1 : Int32) (p2 : Int32) (p3 : Int32) : Option (Int32 × Ob) := (ob (f_X8_isPlayer N s0 p1) fun x1 => (ob (f_X8_isThrown N s0 x1 (1 : Int32)) fun x2 => (if x2.1 = 0 then (ob (f_X8_isWordOf N x2.2 p2 p3) fun x3 => (ob (f_X8_isThrown N x2.2 x3 (2 : Int32)) fun x4 => (if x4.1 = 0 then (ob (f_X8_touched N x4.2 p1 p2 p3) fun x5 => (some (x5, x4.2))) else (some ((0 : Int32), x4.2))))) else (some ((0 : Int32), x2.2)))))
theorem m_X8_touches {g : Gp} {a0 : Nat} {r0 : Nat → Nat} {N : Nat} {s0 : Ob} {p1 : Int32} {p2 : Int32} {p3 : Int32} {res : Int32 × Ob} (hg : Ok g) (h : f_X8_touches N s0 p1 p2 p3 = some res) : Ct g yX8_touches cX8_touches 4 (some .int) (zrm 3 69) [.ref a0, .int p1, .int p2, .int p3] (wX8 g a0 r0 s0) (exR (some (.int res.1)) (wX8 g a0 r0 res.2)) := by
  refine ct_of rfl hg (by show _ ≤ _; exact Nat.le_of_ble_eq_true rfl) (fun K C X => ?_)
  show Zs K 0 0 (wX8 g a0 r0 s0) [(0, .ref a0), (1, .int p1), (2, .int p2), (3, .int p3)] 0 []
  unfold f_X8_touches at h
  refine z_aload_n (pc := 0) (x := a0) C dX8_touches_0 (i := 0) rfl rfl ?_
  refine z_aload_n (pc := 1) (x := a0) C dX8_touches_1 (i := 0) rfl rfl ?_
  refine z_iload_n (pc := 2) (x := p1) C dX8_touches_2 (i := 1) rfl rfl ?_
  replace h := ob_e h
  obtain ⟨x1, hx1, h⟩ := h
  refine z_callV (pc := 3) (As := [.int p1]) (rest := [.ref a0]) (wr := ([] : va_W)) C dX8_touches_3 ml_RX8_66 wv_X8_isPlayer (m_X8_isPlayer (a0 := a0) (r0 := r0) hg hx1) [0, 1, 2, 3, 4, 5, 6, 7, 8, 9, 10, 11, 12, 13, 14] [] rfl rfl ⟨by decide, by decide⟩ (Nat.le_of_ble_eq_true rfl) ⟨by decide, by decide⟩ rfl rfl rfl rfl rfl rfl rfl (by decide) (ex_k C (cs' := 0) (ss' := 0) (wF := (wX8 g a0 r0 s0)) [0, 1, 2, 3, 4, 5, 6, 7, 8, 9, 10, 11, 12, 13, 14] rfl rfl ?_)
  refine z_iconst (pc := 6) C dX8_touches_6 ic_1 ?_
  replace h := ob_e h
  obtain ⟨x2, hx2, h⟩ := h
  refine z_callV (pc := 7) (As := [.int x1, .int (1 : Int32)]) (rest := []) (wr := ([] : va_W)) C dX8_touches_7 ml_RX8_206 wv_X8_isThrown (m_X8_isThrown (a0 := a0) (r0 := r0) hg hx2) [0, 1, 2, 3, 4, 5, 6, 7, 8, 9, 10, 11, 12, 13, 14] [] rfl rfl ⟨by decide, by decide⟩ (Nat.le_of_ble_eq_true rfl) ⟨by decide, by decide⟩ rfl rfl rfl rfl rfl rfl rfl (by decide) (ex_k C (cs' := 0) (ss' := 0) (wF := (wX8 g a0 r0 x2.2)) [0, 1, 2, 3, 4, 5, 6, 7, 8, 9, 10, 11, 12, 13, 14] rfl rfl ?_)
  refine z_if_ne (pc := 10) C dX8_touches_10 (tgt := 27) (by decide) (fun hc => ?_) (fun hc => ?_)
  · replace h := (ite_e h).2 hc
    refine z_iconst (pc := 27) C dX8_touches_27 ic_0 ?_
    refine z_goto (pc := 28) C dX8_touches_28 (tgt := 38) (by decide) ?_
    exact z_iret C X dX8_touches_38 (by rw [← Option.some.inj h]; exact ⟨rfl, rfl⟩) (by decide) (by decide)
  · replace h := (ite_e h).1 hc
    refine z_aload_n (pc := 13) (x := a0) C dX8_touches_13 (i := 0) rfl rfl ?_
    refine z_aload_n (pc := 14) (x := a0) C dX8_touches_14 (i := 0) rfl rfl ?_
    refine z_iload_n (pc := 15) (x := p2) C dX8_touches_15 (i := 2) rfl rfl ?_
    refine z_iload_n (pc := 16) (x := p3) C dX8_touches_16 (i := 3) rfl rfl ?_
    replace h := ob_e h
    obtain ⟨x3, hx3, h⟩ := h
    refine z_callV (pc := 17) (As := [.int p2, .int p3]) (rest := [.ref a0]) (wr := ([] : va_W)) C dX8_touches_17 ml_RX8_258 wv_X8_isWordOf (m_X8_isWordOf (a0 := a0) (r0 := r0) hg hx3) [0, 1, 2, 3, 4, 5, 6, 7, 8, 9, 10, 11, 12, 13, 14] [] rfl rfl ⟨by decide, by decide⟩ (Nat.le_of_ble_eq_true rfl) ⟨by decide, by decide⟩ rfl rfl rfl rfl rfl rfl rfl (by decide) (ex_k C (cs' := 0) (ss' := 0) (wF := (wX8 g a0 r0 x2.2)) [0, 1, 2, 3, 4, 5, 6, 7, 8, 9, 10, 11, 12, 13, 14] rfl rfl ?_)
    refine z_iconst (pc := 20) C dX8_touches_20 ic_2 ?_
    replace h := ob_e h
    obtain ⟨x4, hx4, h⟩ := h
    refine z_callV (pc := 21) (As := [.int x3, .int (2 : Int32)]) (rest := []) (wr := ([] : va_W)) C dX8_touches_21 ml_RX8_206 wv_X8_isThrown (m_X8_isThrown (a0 := a0) (r0 := r0) hg hx4) [0, 1, 2, 3, 4, 5, 6, 7, 8, 9, 10, 11, 12, 13, 14] [] rfl rfl ⟨by decide, by decide⟩ (Nat.le_of_ble_eq_true rfl) ⟨by decide, by decide⟩ rfl rfl rfl rfl rfl rfl rfl (by decide) (ex_k C (cs' := 0) (ss' := 0) (wF := (wX8 g a0 r0 x4.2)) [0, 1, 2, 3, 4, 5, 6, 7, 8, 9, 10, 11, 12, 13, 14] rfl rfl ?_)
    refine z_if_eq (pc := 24) C dX8_touches_24 (tgt := 31) (by decide) (fun hc => ?_) (fun hc => ?_)
    · replace h := (ite_e h).1 hc
      refine z_aload_n (pc := 31) (x := a0) C dX8_touches_31 (i := 0) rfl rfl ?_
      refine z_iload_n (pc := 32) (x := p1) C dX8_touches_32 (i := 1) rfl rfl ?_
      refine z_iload_n (pc := 33) (x := p2) C dX8_touches_33 (i := 2) rfl rfl ?_
      refine z_iload_n (pc := 34) (x := p3) C dX8_touches_34 (i := 3) rfl rfl ?_
      replace h := ob_e h
      obtain ⟨x5, hx5, h⟩ := h
      refine z_callV (pc := 35) (As := [.int p1, .int p2, .int p3]) (rest := []) (wr := ([] : va_W)) C dX8_touches_35 ml_RX8_264 wv_X8_touched (m_X8_touched (a0 := a0) (r0 := r0) hg hx5) [0, 1, 2, 3, 4, 5, 6, 7, 8, 9, 10, 11, 12, 13, 14] [] rfl rfl ⟨by decide, by decide⟩ (Nat.le_of_ble_eq_true rfl) ⟨by decide, by decide⟩ rfl rfl rfl rfl rfl rfl rfl (by decide) (ex_k C (cs' := 0) (ss' := 0) (wF := (wX8 g a0 r0 x4.2)) [0, 1, 2, 3, 4, 5, 6, 7, 8, 9, 10, 11, 12, 13, 14] rfl rfl ?_)
      exact z_iret C X dX8_touches_38 (by rw [← Option.some.inj h]; exact ⟨rfl, rfl⟩) (by decide) (by decide)
    · replace h := (ite_e h).2 hc
      refine z_iconst (pc := 27) C dX8_touches_27 ic_0 ?_
      refine z_goto (pc := 28) C dX8_touches_28 (tgt := 38) (by decide) ?_
      exact z_iret C X dX8_touches_38 (by rw [← Option.some.inj h]; exact ⟨rfl, rfl⟩) (by decide) (by decide)
def f_X8_leaves (N : Nat) (s0 : Ob) (p1 : Int32) (p2 : Int32) (p3 : Int32) : Option (Int32) := (if p3 = 0 then (some (p1 &&& (p2 ^^^ (-1 : Int32)))) else (some (p1 &&& p2)))
theorem m_X8_leaves {g : Gp} {a0 : Nat} {r0 : Nat → Nat} {N : Nat} {s0 : Ob} {p1 : Int32} {p2 : Int32} {p3 : Int32} {res : Int32} (hg : Ok g) (h : f_X8_leaves N s0 p1 p2 p3 = some res) : Ct g yX8_leaves cX8_leaves 4 (some .int) (zrm 0 0) [.ref a0, .int p1, .int p2, .int p3] (wX8 g a0 r0 s0) (exR (some (.int res)) (wX8 g a0 r0 s0)) := by
  refine ct_of rfl hg (by show _ ≤ _; exact Nat.le_of_ble_eq_true rfl) (fun K C X => ?_)
  show Zs K 0 0 (wX8 g a0 r0 s0) [(0, .ref a0), (1, .int p1), (2, .int p2), (3, .int p3)] 0 []
  unfold f_X8_leaves at h
  refine z_iload_n (pc := 0) (x := p3) C dX8_leaves_0 (i := 3) rfl rfl ?_
  refine z_if_eq (pc := 1) C dX8_leaves_1 (tgt := 10) (by decide) (fun hc => ?_) (fun hc => ?_)
  · replace h := (ite_e h).1 hc
    refine z_iload_n (pc := 10) (x := p1) C dX8_leaves_10 (i := 1) rfl rfl ?_
    refine z_iload_n (pc := 11) (x := p2) C dX8_leaves_11 (i := 2) rfl rfl ?_
    refine z_iconst (pc := 12) C dX8_leaves_12 ic_m1 ?_
    refine z_ixor (pc := 13) C dX8_leaves_13 ?_
    refine z_iand (pc := 14) C dX8_leaves_14 ?_
    exact z_iret C X dX8_leaves_15 (by rw [← Option.some.inj h]; exact ⟨rfl, rfl⟩) (by decide) (by decide)
  · replace h := (ite_e h).2 hc
    refine z_iload_n (pc := 4) (x := p1) C dX8_leaves_4 (i := 1) rfl rfl ?_
    refine z_iload_n (pc := 5) (x := p2) C dX8_leaves_5 (i := 2) rfl rfl ?_
    refine z_iand (pc := 6) C dX8_leaves_6 ?_
    refine z_goto (pc := 7) C dX8_leaves_7 (tgt := 15) (by decide) ?_
    exact z_iret C X dX8_leaves_15 (by rw [← Option.some.inj h]; exact ⟨rfl, rfl⟩) (by decide) (by decide)
def f_X8_colorsBehind (N : Nat) (s0 : Ob) (p1 : Int32) (p2 : Int32) (p3 : Int32) : Option (Int32) := (chk (inb ((67 : Int32) + p1) 358) (if p2 = 0 then (ob (f_X8_isTouchedBy N s0 p1 p2 p3) fun x2 => (ob (f_X8_leaves N s0 ((s0.2.2.1 0) (((67 : Int32) + p1)).toNatClampNeg) ((1 : Int32) <<< (p3 &&& 31)) x2) fun x3 => (some x3))) else (some ((s0.2.2.1 0) (((67 : Int32) + p1)).toNatClampNeg))))
theorem m_X8_colorsBehind {g : Gp} {a0 : Nat} {r0 : Nat → Nat} {N : Nat} {s0 : Ob} {p1 : Int32} {p2 : Int32} {p3 : Int32} {res : Int32} (hg : Ok g) (h : f_X8_colorsBehind N s0 p1 p2 p3 = some res) : Ct g yX8_colorsBehind cX8_colorsBehind 5 (some .int) (zrm 2 44) [.ref a0, .int p1, .int p2, .int p3] (wX8 g a0 r0 s0) (exR (some (.int res)) (wX8 g a0 r0 s0)) := by
  refine ct_of rfl hg (by show _ ≤ _; exact Nat.le_of_ble_eq_true rfl) (fun K C X => ?_)
  show Zs K 0 0 (wX8 g a0 r0 s0) [(0, .ref a0), (1, .int p1), (2, .int p2), (3, .int p3)] 0 []
  unfold f_X8_colorsBehind at h
  refine z_aload_n (pc := 0) (x := a0) C dX8_colorsBehind_0 (i := 0) rfl rfl ?_
  refine z_get (pc := 1) (v := .ref (r0 0)) C 0 dX8_colorsBehind_1 fl_RX8_9 rfl rfl ?_
  refine z_bipush (pc := 4) C dX8_colorsBehind_4 bp_67 ?_
  refine z_iload_n (pc := 6) (x := p1) C dX8_colorsBehind_6 (i := 1) rfl rfl ?_
  refine z_iadd (pc := 7) C dX8_colorsBehind_7 ?_
  replace h := chk_e h
  obtain ⟨hb1, h⟩ := h
  refine z_iald (pc := 8) C 1 dX8_colorsBehind_8 rfl hb1 ?_
  refine z_istore (pc := 9) C dX8_colorsBehind_9 (by decide) (lv' := [(4, .int ((s0.2.2.1 0) (((67 : Int32) + p1)).toNatClampNeg)), (0, .ref a0), (1, .int p1), (2, .int p2), (3, .int p3)]) rfl ?_
  refine z_iload_n (pc := 11) (x := p2) C dX8_colorsBehind_11 (i := 2) rfl rfl ?_
  refine z_if_ne (pc := 12) C dX8_colorsBehind_12 (tgt := 34) (by decide) (fun hc => ?_) (fun hc => ?_)
  · replace h := (ite_e h).2 hc
    refine z_iload (pc := 34) (x := ((s0.2.2.1 0) (((67 : Int32) + p1)).toNatClampNeg)) C dX8_colorsBehind_34 rfl ?_
    exact z_iret C X dX8_colorsBehind_36 (by rw [← Option.some.inj h]; exact ⟨rfl, rfl⟩) (by decide) (by decide)
  · replace h := (ite_e h).1 hc
    refine z_aload_n (pc := 15) (x := a0) C dX8_colorsBehind_15 (i := 0) rfl rfl ?_
    refine z_iload (pc := 16) (x := ((s0.2.2.1 0) (((67 : Int32) + p1)).toNatClampNeg)) C dX8_colorsBehind_16 rfl ?_
    refine z_iconst (pc := 18) C dX8_colorsBehind_18 ic_1 ?_
    refine z_iload_n (pc := 19) (x := p3) C dX8_colorsBehind_19 (i := 3) rfl rfl ?_
    refine z_ishl (pc := 20) C dX8_colorsBehind_20 ?_
    refine z_aload_n (pc := 21) (x := a0) C dX8_colorsBehind_21 (i := 0) rfl rfl ?_
    refine z_iload_n (pc := 22) (x := p1) C dX8_colorsBehind_22 (i := 1) rfl rfl ?_
    refine z_iload_n (pc := 23) (x := p2) C dX8_colorsBehind_23 (i := 2) rfl rfl ?_
    refine z_iload_n (pc := 24) (x := p3) C dX8_colorsBehind_24 (i := 3) rfl rfl ?_
    replace h := ob_e h
    obtain ⟨x2, hx2, h⟩ := h
    refine z_callV (pc := 25) (As := [.int p1, .int p2, .int p3]) (rest := [.int ((1 : Int32) <<< (p3 &&& 31)), .int ((s0.2.2.1 0) (((67 : Int32) + p1)).toNatClampNeg), .ref a0]) (wr := ([] : va_W)) C dX8_colorsBehind_25 ml_RX8_261 wv_X8_isTouchedBy (m_X8_isTouchedBy (a0 := a0) (r0 := r0) hg hx2) [0, 1, 2, 3, 4, 5, 6, 7, 8, 9, 10, 11, 12, 13, 14] [] rfl rfl ⟨by decide, by decide⟩ (Nat.le_of_ble_eq_true rfl) ⟨by decide, by decide⟩ rfl rfl rfl rfl rfl rfl rfl (by decide) (ex_k C (cs' := 0) (ss' := 0) (wF := (wX8 g a0 r0 s0)) [0, 1, 2, 3, 4, 5, 6, 7, 8, 9, 10, 11, 12, 13, 14] rfl rfl ?_)
    replace h := ob_e h
    obtain ⟨x3, hx3, h⟩ := h
    refine z_callV (pc := 28) (As := [.int ((s0.2.2.1 0) (((67 : Int32) + p1)).toNatClampNeg), .int ((1 : Int32) <<< (p3 &&& 31)), .int x2]) (rest := []) (wr := ([] : va_W)) C dX8_colorsBehind_28 ml_RX8_267 wv_X8_leaves (m_X8_leaves (a0 := a0) (r0 := r0) hg hx3) [0, 1, 2, 3, 4, 5, 6, 7, 8, 9, 10, 11, 12, 13, 14] [] rfl rfl ⟨by decide, by decide⟩ (Nat.le_of_ble_eq_true rfl) ⟨by decide, by decide⟩ rfl rfl rfl rfl rfl rfl rfl (by decide) (ex_k C (cs' := 0) (ss' := 0) (wF := (wX8 g a0 r0 s0)) [0, 1, 2, 3, 4, 5, 6, 7, 8, 9, 10, 11, 12, 13, 14] rfl rfl ?_)
    refine z_goto (pc := 31) C dX8_colorsBehind_31 (tgt := 36) (by decide) ?_
    exact z_iret C X dX8_colorsBehind_36 (by rw [← Option.some.inj h]; exact ⟨rfl, rfl⟩) (by decide) (by decide)
