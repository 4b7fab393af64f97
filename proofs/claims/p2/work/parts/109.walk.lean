/-! OWN, written by wip/whole/tools/mkall.py: what each method does to its cells, and the walk that shows it -/
def f_X8_isThrown_10 (N : Nat) (p1 : Int32) (p2 : Int32)  (t1 : Int32) (s0 : Ob) : Option (Int32 × Ob) := (if p1 = 0 then (some ((1 : Int32), (si s0 7 t1))) else (some ((0 : Int32), (si s0 7 t1))))
theorem m_X8_isThrown_10 {K : Kt} {g : Gp} {a0 : Nat} {r0 : Nat → Nat} {N : Nat} {p1 : Int32} {p2 : Int32} {res : Int32 × Ob} (hg : Ok g) (C : Cx K g cX8_isThrown RX8 3 (zrm 0 0)) (X : Rx K (exR (some (.int res.1)) (wX8 g a0 r0 res.2)) 0 0 (some .boolean)) (t1 : Int32) (s0 : Ob) (h : f_X8_isThrown_10 N p1 p2 t1 s0 = some res) : Zs K 0 0 (wX8 g a0 r0 s0) [(1, .int p1)] 10 [.int t1, .ref a0] := by
  unfold f_X8_isThrown_10 at h
  refine z_put (pc := 10) C 0 dX8_isThrown_10 fp_RX8_59 rfl rfl rfl (zlt_b rfl) (ws' := (wX8 g a0 r0 (si s0 7 t1))) rfl ?_
  refine z_iload_n (pc := 13) (x := p1) C dX8_isThrown_13 (i := 1) rfl rfl ?_
  refine z_if_ne (pc := 14) C dX8_isThrown_14 (tgt := 21) (by decide) (fun hc => ?_) (fun hc => ?_)
  · replace h := (ite_e h).2 hc
    refine z_iconst (pc := 21) C dX8_isThrown_21 ic_0 ?_
    exact z_zret C X dX8_isThrown_22 rfl (by rw [← Option.some.inj h]; exact ⟨rfl, rfl⟩) (by decide) (by decide)
  · replace h := (ite_e h).1 hc
    refine z_iconst (pc := 17) C dX8_isThrown_17 ic_1 ?_
    refine z_goto (pc := 18) C dX8_isThrown_18 (tgt := 22) (by decide) ?_
    exact z_zret C X dX8_isThrown_22 rfl (by rw [← Option.some.inj h]; exact ⟨rfl, rfl⟩) (by decide) (by decide)
def f_X8_isThrown (N : Nat) (s0 : Ob) (p1 : Int32) (p2 : Int32) : Option (Int32 × Ob) := (if p1 = 0 then (f_X8_isThrown_10 N p1 p2 p2 s0) else (f_X8_isThrown_10 N p1 p2 (0 : Int32) s0))
theorem m_X8_isThrown {g : Gp} {a0 : Nat} {r0 : Nat → Nat} {N : Nat} {s0 : Ob} {p1 : Int32} {p2 : Int32} {res : Int32 × Ob} (hg : Ok g) (h : f_X8_isThrown N s0 p1 p2 = some res) : Ct g yX8_isThrown cX8_isThrown 3 (some .boolean) (zrm 0 0) [.ref a0, .int p1, .int p2] (wX8 g a0 r0 s0) (exR (some (.int res.1)) (wX8 g a0 r0 res.2)) := by
  refine ct_of rfl hg (by show _ ≤ _; exact Nat.le_of_ble_eq_true rfl) (fun K C X => ?_)
  show Zs K 0 0 (wX8 g a0 r0 s0) [(0, .ref a0), (1, .int p1), (2, .int p2)] 0 []
  unfold f_X8_isThrown at h
  refine z_aload_n (pc := 0) (x := a0) C dX8_isThrown_0 (i := 0) rfl rfl ?_
  refine z_iload_n (pc := 1) (x := p1) C dX8_isThrown_1 (i := 1) rfl rfl ?_
  refine z_if_eq (pc := 2) C dX8_isThrown_2 (tgt := 9) (by decide) (fun hc => ?_) (fun hc => ?_)
  · replace h := (ite_e h).1 hc
    refine z_iload_n (pc := 9) (x := p2) C dX8_isThrown_9 (i := 2) rfl rfl ?_
    refine z_lv (lv' := [(1, .int p1)]) [1] rfl ?_
    exact m_X8_isThrown_10 (a0 := a0) (r0 := r0) hg C X p2 s0 h
  · replace h := (ite_e h).2 hc
    refine z_iconst (pc := 5) C dX8_isThrown_5 ic_0 ?_
    refine z_goto (pc := 6) C dX8_isThrown_6 (tgt := 10) (by decide) ?_
    refine z_lv (lv' := [(1, .int p1)]) [1] rfl ?_
    exact m_X8_isThrown_10 (a0 := a0) (r0 := r0) hg C X (0 : Int32) s0 h
def f_X8_isPlayer (N : Nat) (s0 : Ob) (p1 : Int32) : Option (Int32) := (ob (f_X8_in N p1 (0 : Int32) (((s0.2.2.1 0) 2) - (1 : Int32))) fun x1 => (chk (zisB x1) (some x1)))
theorem m_X8_isPlayer {g : Gp} {a0 : Nat} {r0 : Nat → Nat} {N : Nat} {s0 : Ob} {p1 : Int32} {res : Int32} (hg : Ok g) (h : f_X8_isPlayer N s0 p1 = some res) : Ct g yX8_isPlayer cX8_isPlayer 2 (some .boolean) (zrm 1 22) [.ref a0, .int p1] (wX8 g a0 r0 s0) (exR (some (.int res)) (wX8 g a0 r0 s0)) := by
  refine ct_of rfl hg (by show _ ≤ _; exact Nat.le_of_ble_eq_true rfl) (fun K C X => ?_)
  show Zs K 0 0 (wX8 g a0 r0 s0) [(0, .ref a0), (1, .int p1)] 0 []
  unfold f_X8_isPlayer at h
  refine z_iload_n (pc := 0) (x := p1) C dX8_isPlayer_0 (i := 1) rfl rfl ?_
  refine z_iconst (pc := 1) C dX8_isPlayer_1 ic_0 ?_
  refine z_aload_n (pc := 2) (x := a0) C dX8_isPlayer_2 (i := 0) rfl rfl ?_
  refine z_get (pc := 3) (v := .ref (r0 0)) C 0 dX8_isPlayer_3 fl_RX8_9 rfl rfl ?_
  refine z_iconst (pc := 6) C dX8_isPlayer_6 ic_2 ?_
  refine z_iald (pc := 7) C 1 dX8_isPlayer_7 rfl (by decide) ?_
  refine z_top1 (v := ((s0.2.2.1 0) 2)) rfl ?_
  refine z_iconst (pc := 8) C dX8_isPlayer_8 ic_1 ?_
  refine z_isub (pc := 9) C dX8_isPlayer_9 ?_
  replace h := ob_e h
  obtain ⟨x1, hx1, h⟩ := h
  refine z_callS (pc := 10) (As := [.int p1, .int (0 : Int32), .int (((s0.2.2.1 0) 2) - (1 : Int32))]) (rest := []) (wr := (wX8 g a0 r0 s0)) C dX8_isPlayer_10 ml_RX8_62 wt_X8_in (m_X8_in hg hx1) [] [0, 1, 2, 3, 4, 5, 6, 7, 8, 9, 10, 11, 12, 13, 14] rfl rfl ⟨by decide, by decide⟩ (Nat.le_of_ble_eq_true rfl) ⟨by decide, by decide⟩ rfl rfl rfl rfl (by decide) (ex_k C (cs' := 0) (ss' := 0) (wF := (wX8 g a0 r0 s0)) [0, 1, 2, 3, 4, 5, 6, 7, 8, 9, 10, 11, 12, 13, 14] rfl rfl ?_)
  replace h := chk_e h
  obtain ⟨hb2, h⟩ := h
  exact z_zret C X dX8_isPlayer_13 (zisB_nar hb2) (by rw [← Option.some.inj h]; exact ⟨rfl, rfl⟩) (by decide) (by decide)
def f_X8_isPlace (N : Nat) (s0 : Ob) (p1 : Int32) (p2 : Int32) : Option (Int32) := (ob (f_X8_isPlayer N s0 p1) fun x1 => (if x1 = 0 then (some (0 : Int32)) else (chk (inb ((187 : Int32) + p1) 358) (ob (f_X8_in N p2 (0 : Int32) (((s0.2.2.1 0) (((187 : Int32) + p1)).toNatClampNeg) - (1 : Int32))) fun x3 => (if x3 = 0 then (some (0 : Int32)) else (some (1 : Int32)))))))
theorem m_X8_isPlace {g : Gp} {a0 : Nat} {r0 : Nat → Nat} {N : Nat} {s0 : Ob} {p1 : Int32} {p2 : Int32} {res : Int32} (hg : Ok g) (h : f_X8_isPlace N s0 p1 p2 = some res) : Ct g yX8_isPlace cX8_isPlace 3 (some .boolean) (zrm 2 43) [.ref a0, .int p1, .int p2] (wX8 g a0 r0 s0) (exR (some (.int res)) (wX8 g a0 r0 s0)) := by
  refine ct_of rfl hg (by show _ ≤ _; exact Nat.le_of_ble_eq_true rfl) (fun K C X => ?_)
  show Zs K 0 0 (wX8 g a0 r0 s0) [(0, .ref a0), (1, .int p1), (2, .int p2)] 0 []
  unfold f_X8_isPlace at h
  refine z_aload_n (pc := 0) (x := a0) C dX8_isPlace_0 (i := 0) rfl rfl ?_
  refine z_iload_n (pc := 1) (x := p1) C dX8_isPlace_1 (i := 1) rfl rfl ?_
  replace h := ob_e h
  obtain ⟨x1, hx1, h⟩ := h
  refine z_callV (pc := 2) (As := [.int p1]) (rest := []) (wr := ([] : va_W)) C dX8_isPlace_2 ml_RX8_66 wv_X8_isPlayer (m_X8_isPlayer (a0 := a0) (r0 := r0) hg hx1) [0, 1, 2, 3, 4, 5, 6, 7, 8, 9, 10, 11, 12, 13, 14] [] rfl rfl ⟨by decide, by decide⟩ (Nat.le_of_ble_eq_true rfl) ⟨by decide, by decide⟩ rfl rfl rfl rfl rfl rfl rfl (by decide) (ex_k C (cs' := 0) (ss' := 0) (wF := (wX8 g a0 r0 s0)) [0, 1, 2, 3, 4, 5, 6, 7, 8, 9, 10, 11, 12, 13, 14] rfl rfl ?_)
  refine z_if_eq (pc := 5) C dX8_isPlace_5 (tgt := 32) (by decide) (fun hc => ?_) (fun hc => ?_)
  · replace h := (ite_e h).1 hc
    refine z_iconst (pc := 32) C dX8_isPlace_32 ic_0 ?_
    exact z_zret C X dX8_isPlace_33 rfl (by rw [← Option.some.inj h]; exact ⟨rfl, rfl⟩) (by decide) (by decide)
  · replace h := (ite_e h).2 hc
    refine z_iload_n (pc := 8) (x := p2) C dX8_isPlace_8 (i := 2) rfl rfl ?_
    refine z_iconst (pc := 9) C dX8_isPlace_9 ic_0 ?_
    refine z_aload_n (pc := 10) (x := a0) C dX8_isPlace_10 (i := 0) rfl rfl ?_
    refine z_get (pc := 11) (v := .ref (r0 0)) C 0 dX8_isPlace_11 fl_RX8_9 rfl rfl ?_
    refine z_sipush (pc := 14) C dX8_isPlace_14 sp_187 ?_
    refine z_iload_n (pc := 17) (x := p1) C dX8_isPlace_17 (i := 1) rfl rfl ?_
    refine z_iadd (pc := 18) C dX8_isPlace_18 ?_
    replace h := chk_e h
    obtain ⟨hb2, h⟩ := h
    refine z_iald (pc := 19) C 1 dX8_isPlace_19 rfl hb2 ?_
    refine z_iconst (pc := 20) C dX8_isPlace_20 ic_1 ?_
    refine z_isub (pc := 21) C dX8_isPlace_21 ?_
    replace h := ob_e h
    obtain ⟨x3, hx3, h⟩ := h
    refine z_callS (pc := 22) (As := [.int p2, .int (0 : Int32), .int (((s0.2.2.1 0) (((187 : Int32) + p1)).toNatClampNeg) - (1 : Int32))]) (rest := []) (wr := (wX8 g a0 r0 s0)) C dX8_isPlace_22 ml_RX8_62 wt_X8_in (m_X8_in hg hx3) [] [0, 1, 2, 3, 4, 5, 6, 7, 8, 9, 10, 11, 12, 13, 14] rfl rfl ⟨by decide, by decide⟩ (Nat.le_of_ble_eq_true rfl) ⟨by decide, by decide⟩ rfl rfl rfl rfl (by decide) (ex_k C (cs' := 0) (ss' := 0) (wF := (wX8 g a0 r0 s0)) [0, 1, 2, 3, 4, 5, 6, 7, 8, 9, 10, 11, 12, 13, 14] rfl rfl ?_)
    refine z_if_eq (pc := 25) C dX8_isPlace_25 (tgt := 32) (by decide) (fun hc => ?_) (fun hc => ?_)
    · replace h := (ite_e h).1 hc
      refine z_iconst (pc := 32) C dX8_isPlace_32 ic_0 ?_
      exact z_zret C X dX8_isPlace_33 rfl (by rw [← Option.some.inj h]; exact ⟨rfl, rfl⟩) (by decide) (by decide)
    · replace h := (ite_e h).2 hc
      refine z_iconst (pc := 28) C dX8_isPlace_28 ic_1 ?_
      refine z_goto (pc := 29) C dX8_isPlace_29 (tgt := 33) (by decide) ?_
      exact z_zret C X dX8_isPlace_33 rfl (by rw [← Option.some.inj h]; exact ⟨rfl, rfl⟩) (by decide) (by decide)
def f_X8_held (N : Nat) (s0 : Ob) (p1 : Int32) (p2 : Int32) : Option (Int32) := (chk (inb (((191 : Int32) + ((5 : Int32) * p1)) + p2) 358) (znm ((s0.2.2.1 0) ((((191 : Int32) + ((5 : Int32) * p1)) + p2)).toNatClampNeg) fun x2 => (some x2)))
theorem m_X8_held {g : Gp} {a0 : Nat} {r0 : Nat → Nat} {N : Nat} {s0 : Ob} {p1 : Int32} {p2 : Int32} {res : Int32} (hg : Ok g) (h : f_X8_held N s0 p1 p2 = some res) : Ct g yX8_held cX8_held 3 (some .int) (zrm 0 0) [.ref a0, .int p1, .int p2] (wX8 g a0 r0 s0) (exR (some (.int res)) (wX8 g a0 r0 s0)) := by
  refine ct_of rfl hg (by show _ ≤ _; exact Nat.le_of_ble_eq_true rfl) (fun K C X => ?_)
  show Zs K 0 0 (wX8 g a0 r0 s0) [(0, .ref a0), (1, .int p1), (2, .int p2)] 0 []
  unfold f_X8_held at h
  refine z_aload_n (pc := 0) (x := a0) C dX8_held_0 (i := 0) rfl rfl ?_
  refine z_get (pc := 1) (v := .ref (r0 0)) C 0 dX8_held_1 fl_RX8_9 rfl rfl ?_
  refine z_sipush (pc := 4) C dX8_held_4 sp_191 ?_
  refine z_iconst (pc := 7) C dX8_held_7 ic_5 ?_
  refine z_iload_n (pc := 8) (x := p1) C dX8_held_8 (i := 1) rfl rfl ?_
  refine z_imul (pc := 9) C dX8_held_9 ?_
  refine z_iadd (pc := 10) C dX8_held_10 ?_
  refine z_iload_n (pc := 11) (x := p2) C dX8_held_11 (i := 2) rfl rfl ?_
  refine z_iadd (pc := 12) C dX8_held_12 ?_
  replace h := chk_e h
  obtain ⟨hb1, h⟩ := h
  refine z_iald (pc := 13) C 1 dX8_held_13 rfl hb1 ?_
  replace h := znm_e h
  obtain ⟨x2, hx2, h⟩ := h
  refine z_top1 hx2 ?_
  exact z_iret C X dX8_held_14 (by rw [← Option.some.inj h]; exact ⟨rfl, rfl⟩) (by decide) (by decide)
def f_X8_kind (N : Nat) (p0 : Int32) (p1 : Int32) : Option (Int32) := (some ((((5 : Int32) * p0) + p1) - (1 : Int32)))
theorem m_X8_kind {g : Gp}  {N : Nat} {p0 : Int32} {p1 : Int32} {res : Int32} (hg : Ok g) (h : f_X8_kind N p0 p1 = some res) : Ct g yX8_kind cX8_kind 2 (some .int) (zrm 0 0) [.int p0, .int p1] ([] : va_W) (exR (some (.int res)) ([] : va_W)) := by
  refine ct_of rfl hg (by show _ ≤ _; exact Nat.le_of_ble_eq_true rfl) (fun K C X => ?_)
  show Zs K 0 0 ([] : va_W) [(0, .int p0), (1, .int p1)] 0 []
  unfold f_X8_kind at h
  refine z_iconst (pc := 0) C dX8_kind_0 ic_5 ?_
  refine z_iload_n (pc := 1) (x := p0) C dX8_kind_1 (i := 0) rfl rfl ?_
  refine z_imul (pc := 2) C dX8_kind_2 ?_
  refine z_iload_n (pc := 3) (x := p1) C dX8_kind_3 (i := 1) rfl rfl ?_
  refine z_iadd (pc := 4) C dX8_kind_4 ?_
  refine z_iconst (pc := 5) C dX8_kind_5 ic_1 ?_
  refine z_isub (pc := 6) C dX8_kind_6 ?_
  exact z_iret C X dX8_kind_7 (by rw [← Option.some.inj h]; exact ⟨rfl, rfl⟩) (by decide) (by decide)
def f_X8_colorOf (N : Nat) (p0 : Int32) : Option (Int32) := (some (p0 / (5 : Int32)))
theorem m_X8_colorOf {g : Gp}  {N : Nat} {p0 : Int32} {res : Int32} (hg : Ok g) (h : f_X8_colorOf N p0 = some res) : Ct g yX8_colorOf cX8_colorOf 1 (some .int) (zrm 0 0) [.int p0] ([] : va_W) (exR (some (.int res)) ([] : va_W)) := by
  refine ct_of rfl hg (by show _ ≤ _; exact Nat.le_of_ble_eq_true rfl) (fun K C X => ?_)
  show Zs K 0 0 ([] : va_W) [(0, .int p0)] 0 []
  unfold f_X8_colorOf at h
  refine z_iload_n (pc := 0) (x := p0) C dX8_colorOf_0 (i := 0) rfl rfl ?_
  refine z_iconst (pc := 1) C dX8_colorOf_1 ic_5 ?_
  refine z_idiv (pc := 2) C dX8_colorOf_2 (by decide) ?_
  exact z_iret C X dX8_colorOf_3 (by rw [← Option.some.inj h]; exact ⟨rfl, rfl⟩) (by decide) (by decide)
def f_X8_rankOf (N : Nat) (p0 : Int32) : Option (Int32) := (some ((p0 - p0 / (5 : Int32) * (5 : Int32)) + (1 : Int32)))
theorem m_X8_rankOf {g : Gp}  {N : Nat} {p0 : Int32} {res : Int32} (hg : Ok g) (h : f_X8_rankOf N p0 = some res) : Ct g yX8_rankOf cX8_rankOf 1 (some .int) (zrm 0 0) [.int p0] ([] : va_W) (exR (some (.int res)) ([] : va_W)) := by
  refine ct_of rfl hg (by show _ ≤ _; exact Nat.le_of_ble_eq_true rfl) (fun K C X => ?_)
  show Zs K 0 0 ([] : va_W) [(0, .int p0)] 0 []
  unfold f_X8_rankOf at h
  refine z_iload_n (pc := 0) (x := p0) C dX8_rankOf_0 (i := 0) rfl rfl ?_
  refine z_iconst (pc := 1) C dX8_rankOf_1 ic_5 ?_
  refine z_irem (pc := 2) C dX8_rankOf_2 (by decide) ?_
  refine z_iconst (pc := 3) C dX8_rankOf_3 ic_1 ?_
  refine z_iadd (pc := 4) C dX8_rankOf_4 ?_
  exact z_iret C X dX8_rankOf_5 (by rw [← Option.some.inj h]; exact ⟨rfl, rfl⟩) (by decide) (by decide)
def f_X8_told (N : Nat) (p0 : Int32) : Option (Int32) := (ob (f_X8_colorOf N p0) fun x1 => (ob (f_X8_rankOf N p0) fun x2 => (some (((10 : Int32) * x1) + x2))))
theorem m_X8_told {g : Gp}  {N : Nat} {p0 : Int32} {res : Int32} (hg : Ok g) (h : f_X8_told N p0 = some res) : Ct g yX8_told cX8_told 1 (some .int) (zrm 1 20) [.int p0] ([] : va_W) (exR (some (.int res)) ([] : va_W)) := by
  refine ct_of rfl hg (by show _ ≤ _; exact Nat.le_of_ble_eq_true rfl) (fun K C X => ?_)
  show Zs K 0 0 ([] : va_W) [(0, .int p0)] 0 []
  unfold f_X8_told at h
  refine z_bipush (pc := 0) C dX8_told_0 bp_10 ?_
  refine z_iload_n (pc := 2) (x := p0) C dX8_told_2 (i := 0) rfl rfl ?_
  replace h := ob_e h
  obtain ⟨x1, hx1, h⟩ := h
  refine z_callS (pc := 3) (As := [.int p0]) (rest := [.int (10 : Int32)]) (wr := ([] : va_W)) C dX8_told_3 ml_RX8_70 wt_X8_colorOf (m_X8_colorOf hg hx1) [] [] rfl rfl ⟨by decide, by decide⟩ (Nat.le_of_ble_eq_true rfl) ⟨by decide, by decide⟩ rfl rfl rfl rfl (by decide) (ex_k C (cs' := 0) (ss' := 0) (wF := ([] : va_W)) [] rfl rfl ?_)
  refine z_imul (pc := 6) C dX8_told_6 ?_
  refine z_iload_n (pc := 7) (x := p0) C dX8_told_7 (i := 0) rfl rfl ?_
  replace h := ob_e h
  obtain ⟨x2, hx2, h⟩ := h
  refine z_callS (pc := 8) (As := [.int p0]) (rest := [.int ((10 : Int32) * x1)]) (wr := ([] : va_W)) C dX8_told_8 ml_RX8_74 wt_X8_rankOf (m_X8_rankOf hg hx2) [] [] rfl rfl ⟨by decide, by decide⟩ (Nat.le_of_ble_eq_true rfl) ⟨by decide, by decide⟩ rfl rfl rfl rfl (by decide) (ex_k C (cs' := 0) (ss' := 0) (wF := ([] : va_W)) [] rfl rfl ?_)
  refine z_iadd (pc := 11) C dX8_told_11 ?_
  exact z_iret C X dX8_told_12 (by rw [← Option.some.inj h]; exact ⟨rfl, rfl⟩) (by decide) (by decide)
def f_X8_isKind (N : Nat) (s0 : Ob) (p1 : Int32) (p2 : Int32) : Option (Int32) := (ob (f_X8_in N p1 (0 : Int32) (((s0.2.2.1 0) 0) - (1 : Int32))) fun x1 => (if x1 = 0 then (some (0 : Int32)) else (ob (f_X8_in N p2 (1 : Int32) ((s0.2.2.1 0) 1)) fun x2 => (if x2 = 0 then (some (0 : Int32)) else (some (1 : Int32))))))
theorem m_X8_isKind {g : Gp} {a0 : Nat} {r0 : Nat → Nat} {N : Nat} {s0 : Ob} {p1 : Int32} {p2 : Int32} {res : Int32} (hg : Ok g) (h : f_X8_isKind N s0 p1 p2 = some res) : Ct g yX8_isKind cX8_isKind 3 (some .boolean) (zrm 1 22) [.ref a0, .int p1, .int p2] (wX8 g a0 r0 s0) (exR (some (.int res)) (wX8 g a0 r0 s0)) := by
  refine ct_of rfl hg (by show _ ≤ _; exact Nat.le_of_ble_eq_true rfl) (fun K C X => ?_)
  show Zs K 0 0 (wX8 g a0 r0 s0) [(0, .ref a0), (1, .int p1), (2, .int p2)] 0 []
  unfold f_X8_isKind at h
  refine z_iload_n (pc := 0) (x := p1) C dX8_isKind_0 (i := 1) rfl rfl ?_
  refine z_iconst (pc := 1) C dX8_isKind_1 ic_0 ?_
  refine z_aload_n (pc := 2) (x := a0) C dX8_isKind_2 (i := 0) rfl rfl ?_
  refine z_get (pc := 3) (v := .ref (r0 0)) C 0 dX8_isKind_3 fl_RX8_9 rfl rfl ?_
  refine z_iconst (pc := 6) C dX8_isKind_6 ic_0 ?_
  refine z_iald (pc := 7) C 1 dX8_isKind_7 rfl (by decide) ?_
  refine z_top1 (v := ((s0.2.2.1 0) 0)) rfl ?_
  refine z_iconst (pc := 8) C dX8_isKind_8 ic_1 ?_
  refine z_isub (pc := 9) C dX8_isKind_9 ?_
  replace h := ob_e h
  obtain ⟨x1, hx1, h⟩ := h
  refine z_callS (pc := 10) (As := [.int p1, .int (0 : Int32), .int (((s0.2.2.1 0) 0) - (1 : Int32))]) (rest := []) (wr := (wX8 g a0 r0 s0)) C dX8_isKind_10 ml_RX8_62 wt_X8_in (m_X8_in hg hx1) [] [0, 1, 2, 3, 4, 5, 6, 7, 8, 9, 10, 11, 12, 13, 14] rfl rfl ⟨by decide, by decide⟩ (Nat.le_of_ble_eq_true rfl) ⟨by decide, by decide⟩ rfl rfl rfl rfl (by decide) (ex_k C (cs' := 0) (ss' := 0) (wF := (wX8 g a0 r0 s0)) [0, 1, 2, 3, 4, 5, 6, 7, 8, 9, 10, 11, 12, 13, 14] rfl rfl ?_)
  refine z_if_eq (pc := 13) C dX8_isKind_13 (tgt := 34) (by decide) (fun hc => ?_) (fun hc => ?_)
  · replace h := (ite_e h).1 hc
    refine z_iconst (pc := 34) C dX8_isKind_34 ic_0 ?_
    exact z_zret C X dX8_isKind_35 rfl (by rw [← Option.some.inj h]; exact ⟨rfl, rfl⟩) (by decide) (by decide)
  · replace h := (ite_e h).2 hc
    refine z_iload_n (pc := 16) (x := p2) C dX8_isKind_16 (i := 2) rfl rfl ?_
    refine z_iconst (pc := 17) C dX8_isKind_17 ic_1 ?_
    refine z_aload_n (pc := 18) (x := a0) C dX8_isKind_18 (i := 0) rfl rfl ?_
    refine z_get (pc := 19) (v := .ref (r0 0)) C 0 dX8_isKind_19 fl_RX8_9 rfl rfl ?_
    refine z_iconst (pc := 22) C dX8_isKind_22 ic_1 ?_
    refine z_iald (pc := 23) C 1 dX8_isKind_23 rfl (by decide) ?_
    refine z_top1 (v := ((s0.2.2.1 0) 1)) rfl ?_
    replace h := ob_e h
    obtain ⟨x2, hx2, h⟩ := h
    refine z_callS (pc := 24) (As := [.int p2, .int (1 : Int32), .int ((s0.2.2.1 0) 1)]) (rest := []) (wr := (wX8 g a0 r0 s0)) C dX8_isKind_24 ml_RX8_62 wt_X8_in (m_X8_in hg hx2) [] [0, 1, 2, 3, 4, 5, 6, 7, 8, 9, 10, 11, 12, 13, 14] rfl rfl ⟨by decide, by decide⟩ (Nat.le_of_ble_eq_true rfl) ⟨by decide, by decide⟩ rfl rfl rfl rfl (by decide) (ex_k C (cs' := 0) (ss' := 0) (wF := (wX8 g a0 r0 s0)) [0, 1, 2, 3, 4, 5, 6, 7, 8, 9, 10, 11, 12, 13, 14] rfl rfl ?_)
    refine z_if_eq (pc := 27) C dX8_isKind_27 (tgt := 34) (by decide) (fun hc => ?_) (fun hc => ?_)
    · replace h := (ite_e h).1 hc
      refine z_iconst (pc := 34) C dX8_isKind_34 ic_0 ?_
      exact z_zret C X dX8_isKind_35 rfl (by rw [← Option.some.inj h]; exact ⟨rfl, rfl⟩) (by decide) (by decide)
    · replace h := (ite_e h).2 hc
      refine z_iconst (pc := 30) C dX8_isKind_30 ic_1 ?_
      refine z_goto (pc := 31) C dX8_isKind_31 (tgt := 35) (by decide) ?_
      exact z_zret C X dX8_isKind_35 rfl (by rw [← Option.some.inj h]; exact ⟨rfl, rfl⟩) (by decide) (by decide)
def f_X8_byteOf (N : Nat) (p0 : Int64) (p2 : Int32) : Option (Int32) := (znm ((p0 >>> ((((8 : Int32) * ((7 : Int32) - p2))).toInt64 &&& 63)) &&& (255 : Int64)) fun x1 => (some (x1).toInt32))
theorem m_X8_byteOf {g : Gp}  {N : Nat} {p0 : Int64} {p2 : Int32} {res : Int32} (hg : Ok g) (h : f_X8_byteOf N p0 p2 = some res) : Ct g yX8_byteOf cX8_byteOf 3 (some .int) (zrm 0 0) [.long p0, .int p2] ([] : va_W) (exR (some (.int res)) ([] : va_W)) := by
  refine ct_of rfl hg (by show _ ≤ _; exact Nat.le_of_ble_eq_true rfl) (fun K C X => ?_)
  show Zs K 0 0 ([] : va_W) [(0, .long p0), (2, .int p2)] 0 []
  unfold f_X8_byteOf at h
  refine z_lload_n (pc := 0) (x := p0) C dX8_byteOf_0 (i := 0) rfl rfl ?_
  refine z_bipush (pc := 1) C dX8_byteOf_1 bp_8 ?_
  refine z_bipush (pc := 3) C dX8_byteOf_3 bp_7 ?_
  refine z_iload_n (pc := 5) (x := p2) C dX8_byteOf_5 (i := 2) rfl rfl ?_
  refine z_isub (pc := 6) C dX8_byteOf_6 ?_
  refine z_imul (pc := 7) C dX8_byteOf_7 ?_
  refine z_lshr (pc := 8) C dX8_byteOf_8 ?_
  refine z_ldc2 (pc := 9) C dX8_byteOf_9 kl_RX8_77 ?_
  refine z_land (pc := 12) C dX8_byteOf_12 ?_
  replace h := znm_e h
  obtain ⟨x1, hx1, h⟩ := h
  refine z_top2 hx1 ?_
  refine z_l2i (pc := 13) C dX8_byteOf_13 ?_
  exact z_iret C X dX8_byteOf_14 (by rw [← Option.some.inj h]; exact ⟨rfl, rfl⟩) (by decide) (by decide)
def F_X8_append_58 (N : Nat) (p1 : Int64)  (k58 : Int32 → Ob → Option (Int32 × Ob)) (v4 : Int32) (s0 : Ob) : Option (Int32 × Ob) := (if (8 : Int32) ≤ v4 then (some ((s0.1 9), s0)) else (ob (f_X8_byteOf N p1 v4) fun x1 => (if x1 = 0 then (k58 (v4 + (1 : Int32)) s0) else (ob (f_X8_byteOf N p1 v4) fun x2 => (chk (inb (s0.1 9) 600) (znm (sa s0 8 (upd (s0.2.2.1 8) ((s0.1 9)).toNatClampNeg (vp_nar .byte (x2).toInt8.toInt32))) fun y4 => (k58 (v4 + (1 : Int32)) (si y4 9 ((s0.1 9) + (1 : Int32))))))))))
def f_X8_append_58 (N : Nat) (p1 : Int64)  : Nat → Int32 → Ob → Option (Int32 × Ob) := zlp (fun _ _ => none) (F_X8_append_58 N p1)
theorem m_X8_append_58 {K : Kt} {g : Gp} {a0 : Nat} {r0 : Nat → Nat} {N : Nat} {p1 : Int64} {res : Int32 × Ob} (hg : Ok g) (C : Cx K g cX8_append RX8 5 (zrm 1 22)) (X : Rx K (exR (some (.int res.1)) (wX8 g a0 r0 res.2)) 0 0 (some .int)) : ∀ (n : Nat) (v4 : Int32) (s0 : Ob), f_X8_append_58 N p1 n v4 s0 = some res → Zs K 0 0 (wX8 g a0 r0 s0) [(0, .ref a0), (1, .long p1), (4, .int v4)] 58 [] := by
  intro n
  induction n with
  | zero => intro v4 s0 h; exact nomatch (show (none : Option (Int32 × Ob)) = some res from h)
  | succ n hk58 =>
    intro v4 s0 h
    replace h : F_X8_append_58 N p1 (f_X8_append_58 N p1 n) v4 s0 = some res := h
    unfold F_X8_append_58 at h
    refine z_iload (pc := 58) (x := v4) C dX8_append_58 rfl ?_
    refine z_bipush (pc := 60) C dX8_append_60 bp_8 ?_
    refine z_icmp_ge (pc := 62) C dX8_append_62 (tgt := 106) (by decide) (fun hc => ?_) (fun hc => ?_)
    · replace h := (ite_e h).1 hc
      refine z_aload_n (pc := 106) (x := a0) C dX8_append_106 (i := 0) rfl rfl ?_
      refine z_get (pc := 107) (v := .int (s0.1 9)) C 0 dX8_append_107 fl_RX8_83 rfl rfl ?_
      exact z_iret C X dX8_append_110 (by rw [← Option.some.inj h]; exact ⟨rfl, rfl⟩) (by decide) (by decide)
    · replace h := (ite_e h).2 hc
      refine z_lload_n (pc := 65) (x := p1) C dX8_append_65 (i := 1) rfl rfl ?_
      refine z_iload (pc := 66) (x := v4) C dX8_append_66 rfl ?_
      replace h := ob_e h
      obtain ⟨x1, hx1, h⟩ := h
      refine z_callS (pc := 68) (As := [.long p1, .int v4]) (rest := []) (wr := (wX8 g a0 r0 s0)) C dX8_append_68 ml_RX8_79 wt_X8_byteOf (m_X8_byteOf hg hx1) [] [0, 1, 2, 3, 4, 5, 6, 7, 8, 9, 10, 11, 12, 13, 14] rfl rfl ⟨by decide, by decide⟩ (Nat.le_of_ble_eq_true rfl) ⟨by decide, by decide⟩ rfl rfl rfl rfl (by decide) (ex_k C (cs' := 0) (ss' := 0) (wF := (wX8 g a0 r0 s0)) [0, 1, 2, 3, 4, 5, 6, 7, 8, 9, 10, 11, 12, 13, 14] rfl rfl ?_)
      refine z_if_eq (pc := 71) C dX8_append_71 (tgt := 100) (by decide) (fun hc => ?_) (fun hc => ?_)
      · replace h := (ite_e h).1 hc
        refine z_iinc (pc := 100) C dX8_append_100 rfl (inc_e 1 (1 : Int32) ic_1 v4) (by decide) (lv' := [(4, .int (v4 + (1 : Int32))), (0, .ref a0), (1, .long p1)]) rfl ?_
        refine z_goto (pc := 103) C dX8_append_103 (tgt := 58) (by decide) ?_
        refine z_lv (lv' := [(0, .ref a0), (1, .long p1), (4, .int (v4 + (1 : Int32)))]) [1, 2, 0] rfl ?_
        exact hk58 (v4 + (1 : Int32)) s0 h
      · replace h := (ite_e h).2 hc
        refine z_aload_n (pc := 74) (x := a0) C dX8_append_74 (i := 0) rfl rfl ?_
        refine z_get (pc := 75) (v := .ref (r0 8)) C 0 dX8_append_75 fl_RX8_29 rfl rfl ?_
        refine z_aload_n (pc := 78) (x := a0) C dX8_append_78 (i := 0) rfl rfl ?_
        refine z_get (pc := 79) (v := .int (s0.1 9)) C 0 dX8_append_79 fl_RX8_83 rfl rfl ?_
        refine z_lload_n (pc := 82) (x := p1) C dX8_append_82 (i := 1) rfl rfl ?_
        refine z_iload (pc := 83) (x := v4) C dX8_append_83 rfl ?_
        replace h := ob_e h
        obtain ⟨x2, hx2, h⟩ := h
        refine z_callS (pc := 85) (As := [.long p1, .int v4]) (rest := [.int (s0.1 9), .ref (r0 8)]) (wr := (wX8 g a0 r0 s0)) C dX8_append_85 ml_RX8_79 wt_X8_byteOf (m_X8_byteOf hg hx2) [] [0, 1, 2, 3, 4, 5, 6, 7, 8, 9, 10, 11, 12, 13, 14] rfl rfl ⟨by decide, by decide⟩ (Nat.le_of_ble_eq_true rfl) ⟨by decide, by decide⟩ rfl rfl rfl rfl (by decide) (ex_k C (cs' := 0) (ss' := 0) (wF := (wX8 g a0 r0 s0)) [0, 1, 2, 3, 4, 5, 6, 7, 8, 9, 10, 11, 12, 13, 14] rfl rfl ?_)
        refine z_i2b (pc := 88) C dX8_append_88 ?_
        replace h := chk_e h
        obtain ⟨hb3, h⟩ := h
        refine z_bast (pc := 89) C 7 dX8_append_89 rfl hb3 (ws' := (wX8 g a0 r0 (sa s0 8 (upd (s0.2.2.1 8) ((s0.1 9)).toNatClampNeg (vp_nar .byte (x2).toInt8.toInt32))))) rfl ?_
        refine z_aload_n (pc := 90) (x := a0) C dX8_append_90 (i := 0) rfl rfl ?_
        refine z_dup (pc := 91) C dX8_append_91 rfl ?_
        refine z_get (pc := 92) (v := .int (s0.1 9)) C 0 dX8_append_92 fl_RX8_83 rfl rfl ?_
        refine z_iconst (pc := 95) C dX8_append_95 ic_1 ?_
        refine z_iadd (pc := 96) C dX8_append_96 ?_
        replace h := znm_e h
        obtain ⟨y4, hy4, h⟩ := h
        refine z_wsE (ws' := (wX8 g a0 r0 y4)) (by rw [hy4]) ?_
        refine z_put (pc := 97) C 0 dX8_append_97 fp_RX8_83 rfl rfl rfl (zlt_b rfl) (ws' := (wX8 g a0 r0 (si y4 9 ((s0.1 9) + (1 : Int32))))) rfl ?_
        refine z_iinc (pc := 100) C dX8_append_100 rfl (inc_e 1 (1 : Int32) ic_1 v4) (by decide) (lv' := [(4, .int (v4 + (1 : Int32))), (0, .ref a0), (1, .long p1)]) rfl ?_
        refine z_goto (pc := 103) C dX8_append_103 (tgt := 58) (by decide) ?_
        refine z_lv (lv' := [(0, .ref a0), (1, .long p1), (4, .int (v4 + (1 : Int32)))]) [1, 2, 0] rfl ?_
        exact hk58 (v4 + (1 : Int32)) (si y4 9 ((s0.1 9) + (1 : Int32))) h
def F_X8_append_10 (N : Nat) (p1 : Int64)  (k10 : Int32 → Int32 → Ob → Option (Int32 × Ob)) (v3 : Int32) (v4 : Int32) (s0 : Ob) : Option (Int32 × Ob) := (if (8 : Int32) ≤ v4 then (if ((s0.1 9) + v3) ≤ (600 : Int32) then (f_X8_append_58 N p1 N (0 : Int32) s0) else (some ((-2 : Int32), s0))) else (ob (f_X8_byteOf N p1 v4) fun x5 => (if x5 = 0 then (k10 (v3 + (0 : Int32)) (v4 + (1 : Int32)) s0) else (k10 (v3 + (1 : Int32)) (v4 + (1 : Int32)) s0))))
def f_X8_append_10 (N : Nat) (p1 : Int64)  : Nat → Int32 → Int32 → Ob → Option (Int32 × Ob) := zlp (fun _ _ _ => none) (F_X8_append_10 N p1)
theorem m_X8_append_10 {K : Kt} {g : Gp} {a0 : Nat} {r0 : Nat → Nat} {N : Nat} {p1 : Int64} {res : Int32 × Ob} (hg : Ok g) (C : Cx K g cX8_append RX8 5 (zrm 1 22)) (X : Rx K (exR (some (.int res.1)) (wX8 g a0 r0 res.2)) 0 0 (some .int)) : ∀ (n : Nat) (v3 : Int32) (v4 : Int32) (s0 : Ob), f_X8_append_10 N p1 n v3 v4 s0 = some res → Zs K 0 0 (wX8 g a0 r0 s0) [(0, .ref a0), (1, .long p1), (3, .int v3), (4, .int v4)] 10 [] := by
  intro n
  induction n with
  | zero => intro v3 v4 s0 h; exact nomatch (show (none : Option (Int32 × Ob)) = some res from h)
  | succ n hk10 =>
    intro v3 v4 s0 h
    replace h : F_X8_append_10 N p1 (f_X8_append_10 N p1 n) v3 v4 s0 = some res := h
    unfold F_X8_append_10 at h
    refine z_iload (pc := 10) (x := v4) C dX8_append_10 rfl ?_
    refine z_bipush (pc := 12) C dX8_append_12 bp_8 ?_
    refine z_icmp_ge (pc := 14) C dX8_append_14 (tgt := 40) (by decide) (fun hc => ?_) (fun hc => ?_)
    · replace h := (ite_e h).1 hc
      refine z_aload_n (pc := 40) (x := a0) C dX8_append_40 (i := 0) rfl rfl ?_
      refine z_get (pc := 41) (v := .int (s0.1 9)) C 0 dX8_append_41 fl_RX8_83 rfl rfl ?_
      refine z_iload_n (pc := 44) (x := v3) C dX8_append_44 (i := 3) rfl rfl ?_
      refine z_iadd (pc := 45) C dX8_append_45 ?_
      refine z_sipush (pc := 46) C dX8_append_46 sp_600 ?_
      refine z_icmp_le (pc := 49) C dX8_append_49 (tgt := 55) (by decide) (fun hc => ?_) (fun hc => ?_)
      · replace h := (ite_e h).1 hc
        refine z_iconst (pc := 55) C dX8_append_55 ic_0 ?_
        refine z_istore (pc := 56) C dX8_append_56 (by decide) (lv' := [(4, .int (0 : Int32)), (0, .ref a0), (1, .long p1), (3, .int v3)]) rfl ?_
        refine z_lv (lv' := [(0, .ref a0), (1, .long p1), (4, .int (0 : Int32))]) [1, 2, 0] rfl ?_
        exact m_X8_append_58 (a0 := a0) (r0 := r0) hg C X N (0 : Int32) s0 h
      · replace h := (ite_e h).2 hc
        refine z_bipush (pc := 52) C dX8_append_52 bp_m2 ?_
        exact z_iret C X dX8_append_54 (by rw [← Option.some.inj h]; exact ⟨rfl, rfl⟩) (by decide) (by decide)
    · replace h := (ite_e h).2 hc
      refine z_iload_n (pc := 17) (x := v3) C dX8_append_17 (i := 3) rfl rfl ?_
      refine z_lload_n (pc := 18) (x := p1) C dX8_append_18 (i := 1) rfl rfl ?_
      refine z_iload (pc := 19) (x := v4) C dX8_append_19 rfl ?_
      replace h := ob_e h
      obtain ⟨x5, hx5, h⟩ := h
      refine z_callS (pc := 21) (As := [.long p1, .int v4]) (rest := [.int v3]) (wr := (wX8 g a0 r0 s0)) C dX8_append_21 ml_RX8_79 wt_X8_byteOf (m_X8_byteOf hg hx5) [] [0, 1, 2, 3, 4, 5, 6, 7, 8, 9, 10, 11, 12, 13, 14] rfl rfl ⟨by decide, by decide⟩ (Nat.le_of_ble_eq_true rfl) ⟨by decide, by decide⟩ rfl rfl rfl rfl (by decide) (ex_k C (cs' := 0) (ss' := 0) (wF := (wX8 g a0 r0 s0)) [0, 1, 2, 3, 4, 5, 6, 7, 8, 9, 10, 11, 12, 13, 14] rfl rfl ?_)
      refine z_if_ne (pc := 24) C dX8_append_24 (tgt := 31) (by decide) (fun hc => ?_) (fun hc => ?_)
      · replace h := (ite_e h).2 hc
        refine z_iconst (pc := 31) C dX8_append_31 ic_1 ?_
        refine z_iadd (pc := 32) C dX8_append_32 ?_
        refine z_istore_n (pc := 33) C dX8_append_33 (i := 3) rfl (by decide) (lv' := [(3, .int (v3 + (1 : Int32))), (0, .ref a0), (1, .long p1), (4, .int v4)]) rfl ?_
        refine z_iinc (pc := 34) C dX8_append_34 rfl (inc_e 1 (1 : Int32) ic_1 v4) (by decide) (lv' := [(4, .int (v4 + (1 : Int32))), (3, .int (v3 + (1 : Int32))), (0, .ref a0), (1, .long p1)]) rfl ?_
        refine z_goto (pc := 37) C dX8_append_37 (tgt := 10) (by decide) ?_
        refine z_lv (lv' := [(0, .ref a0), (1, .long p1), (3, .int (v3 + (1 : Int32))), (4, .int (v4 + (1 : Int32)))]) [2, 3, 1, 0] rfl ?_
        exact hk10 (v3 + (1 : Int32)) (v4 + (1 : Int32)) s0 h
      · replace h := (ite_e h).1 hc
        refine z_iconst (pc := 27) C dX8_append_27 ic_0 ?_
        refine z_goto (pc := 28) C dX8_append_28 (tgt := 32) (by decide) ?_
        refine z_iadd (pc := 32) C dX8_append_32 ?_
        refine z_istore_n (pc := 33) C dX8_append_33 (i := 3) rfl (by decide) (lv' := [(3, .int (v3 + (0 : Int32))), (0, .ref a0), (1, .long p1), (4, .int v4)]) rfl ?_
        refine z_iinc (pc := 34) C dX8_append_34 rfl (inc_e 1 (1 : Int32) ic_1 v4) (by decide) (lv' := [(4, .int (v4 + (1 : Int32))), (3, .int (v3 + (0 : Int32))), (0, .ref a0), (1, .long p1)]) rfl ?_
        refine z_goto (pc := 37) C dX8_append_37 (tgt := 10) (by decide) ?_
        refine z_lv (lv' := [(0, .ref a0), (1, .long p1), (3, .int (v3 + (0 : Int32))), (4, .int (v4 + (1 : Int32)))]) [2, 3, 1, 0] rfl ?_
        exact hk10 (v3 + (0 : Int32)) (v4 + (1 : Int32)) s0 h
def f_X8_append (N : Nat) (s0 : Ob) (p1 : Int64) : Option (Int32 × Ob) := (f_X8_append_10 N p1 N (0 : Int32) (0 : Int32) (si s0 7 (0 : Int32)))
theorem m_X8_append {g : Gp} {a0 : Nat} {r0 : Nat → Nat} {N : Nat} {s0 : Ob} {p1 : Int64} {res : Int32 × Ob} (hg : Ok g) (h : f_X8_append N s0 p1 = some res) : Ct g yX8_append cX8_append 5 (some .int) (zrm 1 22) [.ref a0, .long p1] (wX8 g a0 r0 s0) (exR (some (.int res.1)) (wX8 g a0 r0 res.2)) := by
  refine ct_of rfl hg (by show _ ≤ _; exact Nat.le_of_ble_eq_true rfl) (fun K C X => ?_)
  show Zs K 0 0 (wX8 g a0 r0 s0) [(0, .ref a0), (1, .long p1)] 0 []
  unfold f_X8_append at h
  refine z_aload_n (pc := 0) (x := a0) C dX8_append_0 (i := 0) rfl rfl ?_
  refine z_iconst (pc := 1) C dX8_append_1 ic_0 ?_
  refine z_put (pc := 2) C 0 dX8_append_2 fp_RX8_59 rfl rfl rfl (zlt_b rfl) (ws' := (wX8 g a0 r0 (si s0 7 (0 : Int32)))) rfl ?_
  refine z_iconst (pc := 5) C dX8_append_5 ic_0 ?_
  refine z_istore_n (pc := 6) C dX8_append_6 (i := 3) rfl (by decide) (lv' := [(3, .int (0 : Int32)), (0, .ref a0), (1, .long p1)]) rfl ?_
  refine z_iconst (pc := 7) C dX8_append_7 ic_0 ?_
  refine z_istore (pc := 8) C dX8_append_8 (by decide) (lv' := [(4, .int (0 : Int32)), (3, .int (0 : Int32)), (0, .ref a0), (1, .long p1)]) rfl ?_
  refine z_lv (lv' := [(0, .ref a0), (1, .long p1), (3, .int (0 : Int32)), (4, .int (0 : Int32))]) [2, 3, 1, 0] rfl ?_
  exact m_X8_append_10 (a0 := a0) (r0 := r0) hg C X N (0 : Int32) (0 : Int32) (si s0 7 (0 : Int32)) h
def f_X8_here (N : Nat) (s0 : Ob) : Option (Int32) := (if (s0.1 9) ≤ (s0.1 10) then (some (-1 : Int32)) else (chk (inb (s0.1 10) 600) (some (((s0.2.2.1 8) ((s0.1 10)).toNatClampNeg) &&& (255 : Int32)))))
theorem m_X8_here {g : Gp} {a0 : Nat} {r0 : Nat → Nat} {N : Nat} {s0 : Ob} {res : Int32} (hg : Ok g) (h : f_X8_here N s0 = some res) : Ct g yX8_here cX8_here 1 (some .int) (zrm 0 0) [.ref a0] (wX8 g a0 r0 s0) (exR (some (.int res)) (wX8 g a0 r0 s0)) := by
  refine ct_of rfl hg (by show _ ≤ _; exact Nat.le_of_ble_eq_true rfl) (fun K C X => ?_)
  show Zs K 0 0 (wX8 g a0 r0 s0) [(0, .ref a0)] 0 []
  unfold f_X8_here at h
  refine z_aload_n (pc := 0) (x := a0) C dX8_here_0 (i := 0) rfl rfl ?_
  refine z_get (pc := 1) (v := .int (s0.1 10)) C 0 dX8_here_1 fl_RX8_86 rfl rfl ?_
  refine z_aload_n (pc := 4) (x := a0) C dX8_here_4 (i := 0) rfl rfl ?_
  refine z_get (pc := 5) (v := .int (s0.1 9)) C 0 dX8_here_5 fl_RX8_83 rfl rfl ?_
  refine z_icmp_ge (pc := 8) C dX8_here_8 (tgt := 27) (by decide) (fun hc => ?_) (fun hc => ?_)
  · replace h := (ite_e h).1 hc
    refine z_iconst (pc := 27) C dX8_here_27 ic_m1 ?_
    exact z_iret C X dX8_here_28 (by rw [← Option.some.inj h]; exact ⟨rfl, rfl⟩) (by decide) (by decide)
  · replace h := (ite_e h).2 hc
    refine z_aload_n (pc := 11) (x := a0) C dX8_here_11 (i := 0) rfl rfl ?_
    refine z_get (pc := 12) (v := .ref (r0 8)) C 0 dX8_here_12 fl_RX8_29 rfl rfl ?_
    refine z_aload_n (pc := 15) (x := a0) C dX8_here_15 (i := 0) rfl rfl ?_
    refine z_get (pc := 16) (v := .int (s0.1 10)) C 0 dX8_here_16 fl_RX8_86 rfl rfl ?_
    replace h := chk_e h
    obtain ⟨hb1, h⟩ := h
    refine z_bald (pc := 19) C 7 dX8_here_19 rfl hb1 ?_
    refine z_sipush (pc := 20) C dX8_here_20 sp_255 ?_
    refine z_iand (pc := 23) C dX8_here_23 ?_
    refine z_goto (pc := 24) C dX8_here_24 (tgt := 28) (by decide) ?_
    exact z_iret C X dX8_here_28 (by rw [← Option.some.inj h]; exact ⟨rfl, rfl⟩) (by decide) (by decide)
def F_X8_next_0 (N : Nat)  (k0 : Ob → Option (Int32 × Ob)) (s0 : Ob) : Option (Int32 × Ob) := (ob (f_X8_here N s0) fun x1 => (if x1 = (32 : Int32) then (k0 (si s0 10 ((s0.1 10) + (1 : Int32)))) else (ob (f_X8_here N (si s0 11 (s0.1 10))) fun x2 => (some (x2, (si s0 11 (s0.1 10)))))))
def f_X8_next_0 (N : Nat)  : Nat → Ob → Option (Int32 × Ob) := zlp (fun _ => none) (F_X8_next_0 N)
theorem m_X8_next_0 {K : Kt} {g : Gp} {a0 : Nat} {r0 : Nat → Nat} {N : Nat} {res : Int32 × Ob} (hg : Ok g) (C : Cx K g cX8_next RX8 1 (zrm 1 20)) (X : Rx K (exR (some (.int res.1)) (wX8 g a0 r0 res.2)) 0 0 (some .int)) : ∀ (n : Nat) (s0 : Ob), f_X8_next_0 N n s0 = some res → Zs K 0 0 (wX8 g a0 r0 s0) [(0, .ref a0)] 0 [] := by
  intro n
  induction n with
  | zero => intro s0 h; exact nomatch (show (none : Option (Int32 × Ob)) = some res from h)
  | succ n hk0 =>
    intro s0 h
    replace h : F_X8_next_0 N (f_X8_next_0 N n) s0 = some res := h
    unfold F_X8_next_0 at h
    refine z_aload_n (pc := 0) (x := a0) C dX8_next_0 (i := 0) rfl rfl ?_
    replace h := ob_e h
    obtain ⟨x1, hx1, h⟩ := h
    refine z_callV (pc := 1) (As := []) (rest := []) (wr := ([] : va_W)) C dX8_next_1 ml_RX8_89 wv_X8_here (m_X8_here (a0 := a0) (r0 := r0) hg hx1) [0, 1, 2, 3, 4, 5, 6, 7, 8, 9, 10, 11, 12, 13, 14] [] rfl rfl ⟨by decide, by decide⟩ (Nat.le_of_ble_eq_true rfl) ⟨by decide, by decide⟩ rfl rfl rfl rfl rfl rfl rfl (by decide) (ex_k C (cs' := 0) (ss' := 0) (wF := (wX8 g a0 r0 s0)) [0, 1, 2, 3, 4, 5, 6, 7, 8, 9, 10, 11, 12, 13, 14] rfl rfl ?_)
    refine z_bipush (pc := 4) C dX8_next_4 bp_32 ?_
    refine z_icmp_ne (pc := 6) C dX8_next_6 (tgt := 22) (by decide) (fun hc => ?_) (fun hc => ?_)
    · replace h := (ite_e h).2 hc
      refine z_aload_n (pc := 22) (x := a0) C dX8_next_22 (i := 0) rfl rfl ?_
      refine z_aload_n (pc := 23) (x := a0) C dX8_next_23 (i := 0) rfl rfl ?_
      refine z_get (pc := 24) (v := .int (s0.1 10)) C 0 dX8_next_24 fl_RX8_86 rfl rfl ?_
      refine z_put (pc := 27) C 0 dX8_next_27 fp_RX8_93 rfl rfl rfl (zlt_b rfl) (ws' := (wX8 g a0 r0 (si s0 11 (s0.1 10)))) rfl ?_
      refine z_aload_n (pc := 30) (x := a0) C dX8_next_30 (i := 0) rfl rfl ?_
      replace h := ob_e h
      obtain ⟨x2, hx2, h⟩ := h
      refine z_callV (pc := 31) (As := []) (rest := []) (wr := ([] : va_W)) C dX8_next_31 ml_RX8_89 wv_X8_here (m_X8_here (a0 := a0) (r0 := r0) hg hx2) [0, 1, 2, 3, 4, 5, 6, 7, 8, 9, 10, 11, 12, 13, 14] [] rfl rfl ⟨by decide, by decide⟩ (Nat.le_of_ble_eq_true rfl) ⟨by decide, by decide⟩ rfl rfl rfl rfl rfl rfl rfl (by decide) (ex_k C (cs' := 0) (ss' := 0) (wF := (wX8 g a0 r0 (si s0 11 (s0.1 10)))) [0, 1, 2, 3, 4, 5, 6, 7, 8, 9, 10, 11, 12, 13, 14] rfl rfl ?_)
      exact z_iret C X dX8_next_34 (by rw [← Option.some.inj h]; exact ⟨rfl, rfl⟩) (by decide) (by decide)
    · replace h := (ite_e h).1 hc
      refine z_aload_n (pc := 9) (x := a0) C dX8_next_9 (i := 0) rfl rfl ?_
      refine z_dup (pc := 10) C dX8_next_10 rfl ?_
      refine z_get (pc := 11) (v := .int (s0.1 10)) C 0 dX8_next_11 fl_RX8_86 rfl rfl ?_
      refine z_iconst (pc := 14) C dX8_next_14 ic_1 ?_
      refine z_iadd (pc := 15) C dX8_next_15 ?_
      refine z_put (pc := 16) C 0 dX8_next_16 fp_RX8_86 rfl rfl rfl (zlt_b rfl) (ws' := (wX8 g a0 r0 (si s0 10 ((s0.1 10) + (1 : Int32))))) rfl ?_
      refine z_goto (pc := 19) C dX8_next_19 (tgt := 0) (by decide) ?_
      exact hk0 (si s0 10 ((s0.1 10) + (1 : Int32))) h
def f_X8_next (N : Nat) (s0 : Ob) : Option (Int32 × Ob) := (f_X8_next_0 N N s0)
theorem m_X8_next {g : Gp} {a0 : Nat} {r0 : Nat → Nat} {N : Nat} {s0 : Ob} {res : Int32 × Ob} (hg : Ok g) (h : f_X8_next N s0 = some res) : Ct g yX8_next cX8_next 1 (some .int) (zrm 1 20) [.ref a0] (wX8 g a0 r0 s0) (exR (some (.int res.1)) (wX8 g a0 r0 res.2)) := by
  refine ct_of rfl hg (by show _ ≤ _; exact Nat.le_of_ble_eq_true rfl) (fun K C X => ?_)
  show Zs K 0 0 (wX8 g a0 r0 s0) [(0, .ref a0)] 0 []
  unfold f_X8_next at h
  exact m_X8_next_0 (a0 := a0) (r0 := r0) hg C X N s0 h
def f_X8_fails (N : Nat) (s0 : Ob) (p1 : Int32) : Option (Ob) := (if (s0.1 12) = 0 then (znm (si s0 12 p1) fun y1 => (some (si y1 13 (s0.1 11)))) else (some s0))
theorem m_X8_fails {g : Gp} {a0 : Nat} {r0 : Nat → Nat} {N : Nat} {s0 : Ob} {p1 : Int32} {res : Ob} (hg : Ok g) (h : f_X8_fails N s0 p1 = some res) : Ct g yX8_fails cX8_fails 2 none (zrm 0 0) [.ref a0, .int p1] (wX8 g a0 r0 s0) (exR none (wX8 g a0 r0 res)) := by
  refine ct_of rfl hg (by show _ ≤ _; exact Nat.le_of_ble_eq_true rfl) (fun K C X => ?_)
  show Zs K 0 0 (wX8 g a0 r0 s0) [(0, .ref a0), (1, .int p1)] 0 []
  unfold f_X8_fails at h
  refine z_aload_n (pc := 0) (x := a0) C dX8_fails_0 (i := 0) rfl rfl ?_
  refine z_get (pc := 1) (v := .int (s0.1 12)) C 0 dX8_fails_1 fl_RX8_96 rfl rfl ?_
  refine z_if_ne (pc := 4) C dX8_fails_4 (tgt := 20) (by decide) (fun hc => ?_) (fun hc => ?_)
  · replace h := (ite_e h).2 hc
    exact z_vret C X dX8_fails_20 (by rw [← Option.some.inj h]; exact ⟨rfl, rfl⟩) (by decide) (by decide)
  · replace h := (ite_e h).1 hc
    refine z_aload_n (pc := 7) (x := a0) C dX8_fails_7 (i := 0) rfl rfl ?_
    refine z_iload_n (pc := 8) (x := p1) C dX8_fails_8 (i := 1) rfl rfl ?_
    refine z_put (pc := 9) C 0 dX8_fails_9 fp_RX8_96 rfl rfl rfl (zlt_b rfl) (ws' := (wX8 g a0 r0 (si s0 12 p1))) rfl ?_
    refine z_aload_n (pc := 12) (x := a0) C dX8_fails_12 (i := 0) rfl rfl ?_
    refine z_aload_n (pc := 13) (x := a0) C dX8_fails_13 (i := 0) rfl rfl ?_
    refine z_get (pc := 14) (v := .int (s0.1 11)) C 0 dX8_fails_14 fl_RX8_93 rfl rfl ?_
    replace h := znm_e h
    obtain ⟨y1, hy1, h⟩ := h
    refine z_wsE (ws' := (wX8 g a0 r0 y1)) (by rw [hy1]) ?_
    refine z_put (pc := 17) C 0 dX8_fails_17 fp_RX8_99 rfl rfl rfl (zlt_b rfl) (ws' := (wX8 g a0 r0 (si y1 13 (s0.1 11)))) rfl ?_
    exact z_vret C X dX8_fails_20 (by rw [← Option.some.inj h]; exact ⟨rfl, rfl⟩) (by decide) (by decide)
def F_X8_reads_5 (N : Nat)  (k5 : Ob → Option (Ob)) (s0 : Ob) : Option (Ob) := (ob (f_X8_here N s0) fun x2 => (ob (f_X8_in N x2 (97 : Int32) (122 : Int32)) fun x3 => (if x3 = 0 then (some s0) else (k5 (si s0 10 ((s0.1 10) + (1 : Int32)))))))
def f_X8_reads_5 (N : Nat)  : Nat → Ob → Option (Ob) := zlp (fun _ => none) (F_X8_reads_5 N)
theorem m_X8_reads_5 {K : Kt} {g : Gp} {a0 : Nat} {r0 : Nat → Nat} {N : Nat} {res : Ob} (hg : Ok g) (C : Cx K g cX8_reads RX8 1 (zrm 2 40)) (X : Rx K (exR none (wX8 g a0 r0 res)) 0 0 none) : ∀ (n : Nat) (s0 : Ob), f_X8_reads_5 N n s0 = some res → Zs K 0 0 (wX8 g a0 r0 s0) [(0, .ref a0)] 5 [] := by
  intro n
  induction n with
  | zero => intro s0 h; exact nomatch (show (none : Option (Ob)) = some res from h)
  | succ n hk5 =>
    intro s0 h
    replace h : F_X8_reads_5 N (f_X8_reads_5 N n) s0 = some res := h
    unfold F_X8_reads_5 at h
    refine z_aload_n (pc := 5) (x := a0) C dX8_reads_5 (i := 0) rfl rfl ?_
    replace h := ob_e h
    obtain ⟨x2, hx2, h⟩ := h
    refine z_callV (pc := 6) (As := []) (rest := []) (wr := ([] : va_W)) C dX8_reads_6 ml_RX8_89 wv_X8_here (m_X8_here (a0 := a0) (r0 := r0) hg hx2) [0, 1, 2, 3, 4, 5, 6, 7, 8, 9, 10, 11, 12, 13, 14] [] rfl rfl ⟨by decide, by decide⟩ (Nat.le_of_ble_eq_true rfl) ⟨by decide, by decide⟩ rfl rfl rfl rfl rfl rfl rfl (by decide) (ex_k C (cs' := 0) (ss' := 0) (wF := (wX8 g a0 r0 s0)) [0, 1, 2, 3, 4, 5, 6, 7, 8, 9, 10, 11, 12, 13, 14] rfl rfl ?_)
    refine z_bipush (pc := 9) C dX8_reads_9 bp_97 ?_
    refine z_bipush (pc := 11) C dX8_reads_11 bp_122 ?_
    replace h := ob_e h
    obtain ⟨x3, hx3, h⟩ := h
    refine z_callS (pc := 13) (As := [.int x2, .int (97 : Int32), .int (122 : Int32)]) (rest := []) (wr := (wX8 g a0 r0 s0)) C dX8_reads_13 ml_RX8_62 wt_X8_in (m_X8_in hg hx3) [] [0, 1, 2, 3, 4, 5, 6, 7, 8, 9, 10, 11, 12, 13, 14] rfl rfl ⟨by decide, by decide⟩ (Nat.le_of_ble_eq_true rfl) ⟨by decide, by decide⟩ rfl rfl rfl rfl (by decide) (ex_k C (cs' := 0) (ss' := 0) (wF := (wX8 g a0 r0 s0)) [0, 1, 2, 3, 4, 5, 6, 7, 8, 9, 10, 11, 12, 13, 14] rfl rfl ?_)
    refine z_if_eq (pc := 16) C dX8_reads_16 (tgt := 32) (by decide) (fun hc => ?_) (fun hc => ?_)
    · replace h := (ite_e h).1 hc
      exact z_vret C X dX8_reads_32 (by rw [← Option.some.inj h]; exact ⟨rfl, rfl⟩) (by decide) (by decide)
    · replace h := (ite_e h).2 hc
      refine z_aload_n (pc := 19) (x := a0) C dX8_reads_19 (i := 0) rfl rfl ?_
      refine z_dup (pc := 20) C dX8_reads_20 rfl ?_
      refine z_get (pc := 21) (v := .int (s0.1 10)) C 0 dX8_reads_21 fl_RX8_86 rfl rfl ?_
      refine z_iconst (pc := 24) C dX8_reads_24 ic_1 ?_
      refine z_iadd (pc := 25) C dX8_reads_25 ?_
      refine z_put (pc := 26) C 0 dX8_reads_26 fp_RX8_86 rfl rfl rfl (zlt_b rfl) (ws' := (wX8 g a0 r0 (si s0 10 ((s0.1 10) + (1 : Int32))))) rfl ?_
      refine z_goto (pc := 29) C dX8_reads_29 (tgt := 5) (by decide) ?_
      exact hk5 (si s0 10 ((s0.1 10) + (1 : Int32))) h
def f_X8_reads (N : Nat) (s0 : Ob) : Option (Ob) := (ob (f_X8_next N s0) fun x1 => (f_X8_reads_5 N N x1.2))
theorem m_X8_reads {g : Gp} {a0 : Nat} {r0 : Nat → Nat} {N : Nat} {s0 : Ob} {res : Ob} (hg : Ok g) (h : f_X8_reads N s0 = some res) : Ct g yX8_reads cX8_reads 1 none (zrm 2 40) [.ref a0] (wX8 g a0 r0 s0) (exR none (wX8 g a0 r0 res)) := by
  refine ct_of rfl hg (by show _ ≤ _; exact Nat.le_of_ble_eq_true rfl) (fun K C X => ?_)
  show Zs K 0 0 (wX8 g a0 r0 s0) [(0, .ref a0)] 0 []
  unfold f_X8_reads at h
  refine z_aload_n (pc := 0) (x := a0) C dX8_reads_0 (i := 0) rfl rfl ?_
  replace h := ob_e h
  obtain ⟨x1, hx1, h⟩ := h
  refine z_callV (pc := 1) (As := []) (rest := []) (wr := ([] : va_W)) C dX8_reads_1 ml_RX8_102 wv_X8_next (m_X8_next (a0 := a0) (r0 := r0) hg hx1) [0, 1, 2, 3, 4, 5, 6, 7, 8, 9, 10, 11, 12, 13, 14] [] rfl rfl ⟨by decide, by decide⟩ (Nat.le_of_ble_eq_true rfl) ⟨by decide, by decide⟩ rfl rfl rfl rfl rfl rfl rfl (by decide) (ex_k C (cs' := 0) (ss' := 0) (wF := (wX8 g a0 r0 x1.2)) [0, 1, 2, 3, 4, 5, 6, 7, 8, 9, 10, 11, 12, 13, 14] rfl rfl ?_)
  refine z_pop (pc := 4) C dX8_reads_4 rfl ?_
  exact m_X8_reads_5 (a0 := a0) (r0 := r0) hg C X N x1.2 h
def F_X8_digits_2 (N : Nat)  (k2 : Int32 → Ob → Option (Int32 × Ob)) (v1 : Int32) (s0 : Ob) : Option (Int32 × Ob) := (ob (f_X8_here N s0) fun x1 => (ob (f_X8_in N x1 (48 : Int32) (57 : Int32)) fun x2 => (if x2 = 0 then (some (v1, s0)) else (ob (f_X8_here N s0) fun x3 => (znm (if ((((10 : Int32) * v1) + x3) - (48 : Int32)) < (10000000 : Int32) then ((((10 : Int32) * v1) + x3) - (48 : Int32)) else (10000000 : Int32)) fun x4 => (k2 x4 (si s0 10 ((s0.1 10) + (1 : Int32)))))))))
def f_X8_digits_2 (N : Nat)  : Nat → Int32 → Ob → Option (Int32 × Ob) := zlp (fun _ _ => none) (F_X8_digits_2 N)
theorem m_X8_digits_2 {K : Kt} {g : Gp} {a0 : Nat} {r0 : Nat → Nat} {N : Nat} {res : Int32 × Ob} (hg : Ok g) (C : Cx K g cX8_digits RX8 2 (zrm 1 22)) (X : Rx K (exR (some (.int res.1)) (wX8 g a0 r0 res.2)) 0 0 (some .int)) : ∀ (n : Nat) (v1 : Int32) (s0 : Ob), f_X8_digits_2 N n v1 s0 = some res → Zs K 0 0 (wX8 g a0 r0 s0) [(0, .ref a0), (1, .int v1)] 2 [] := by
  intro n
  induction n with
  | zero => intro v1 s0 h; exact nomatch (show (none : Option (Int32 × Ob)) = some res from h)
  | succ n hk2 =>
    intro v1 s0 h
    replace h : F_X8_digits_2 N (f_X8_digits_2 N n) v1 s0 = some res := h
    unfold F_X8_digits_2 at h
    refine z_aload_n (pc := 2) (x := a0) C dX8_digits_2 (i := 0) rfl rfl ?_
    replace h := ob_e h
    obtain ⟨x1, hx1, h⟩ := h
    refine z_callV (pc := 3) (As := []) (rest := []) (wr := ([] : va_W)) C dX8_digits_3 ml_RX8_89 wv_X8_here (m_X8_here (a0 := a0) (r0 := r0) hg hx1) [0, 1, 2, 3, 4, 5, 6, 7, 8, 9, 10, 11, 12, 13, 14] [] rfl rfl ⟨by decide, by decide⟩ (Nat.le_of_ble_eq_true rfl) ⟨by decide, by decide⟩ rfl rfl rfl rfl rfl rfl rfl (by decide) (ex_k C (cs' := 0) (ss' := 0) (wF := (wX8 g a0 r0 s0)) [0, 1, 2, 3, 4, 5, 6, 7, 8, 9, 10, 11, 12, 13, 14] rfl rfl ?_)
    refine z_bipush (pc := 6) C dX8_digits_6 bp_48 ?_
    refine z_bipush (pc := 8) C dX8_digits_8 bp_57 ?_
    replace h := ob_e h
    obtain ⟨x2, hx2, h⟩ := h
    refine z_callS (pc := 10) (As := [.int x1, .int (48 : Int32), .int (57 : Int32)]) (rest := []) (wr := (wX8 g a0 r0 s0)) C dX8_digits_10 ml_RX8_62 wt_X8_in (m_X8_in hg hx2) [] [0, 1, 2, 3, 4, 5, 6, 7, 8, 9, 10, 11, 12, 13, 14] rfl rfl ⟨by decide, by decide⟩ (Nat.le_of_ble_eq_true rfl) ⟨by decide, by decide⟩ rfl rfl rfl rfl (by decide) (ex_k C (cs' := 0) (ss' := 0) (wF := (wX8 g a0 r0 s0)) [0, 1, 2, 3, 4, 5, 6, 7, 8, 9, 10, 11, 12, 13, 14] rfl rfl ?_)
    refine z_if_eq (pc := 13) C dX8_digits_13 (tgt := 47) (by decide) (fun hc => ?_) (fun hc => ?_)
    · replace h := (ite_e h).1 hc
      refine z_iload_n (pc := 47) (x := v1) C dX8_digits_47 (i := 1) rfl rfl ?_
      exact z_iret C X dX8_digits_48 (by rw [← Option.some.inj h]; exact ⟨rfl, rfl⟩) (by decide) (by decide)
    · replace h := (ite_e h).2 hc
      refine z_ldc (pc := 16) C dX8_digits_16 ki_RX8_113 ?_
      refine z_bipush (pc := 18) C dX8_digits_18 bp_10 ?_
      refine z_iload_n (pc := 20) (x := v1) C dX8_digits_20 (i := 1) rfl rfl ?_
      refine z_imul (pc := 21) C dX8_digits_21 ?_
      refine z_aload_n (pc := 22) (x := a0) C dX8_digits_22 (i := 0) rfl rfl ?_
      replace h := ob_e h
      obtain ⟨x3, hx3, h⟩ := h
      refine z_callV (pc := 23) (As := []) (rest := [.int ((10 : Int32) * v1), .int (10000000 : Int32)]) (wr := ([] : va_W)) C dX8_digits_23 ml_RX8_89 wv_X8_here (m_X8_here (a0 := a0) (r0 := r0) hg hx3) [0, 1, 2, 3, 4, 5, 6, 7, 8, 9, 10, 11, 12, 13, 14] [] rfl rfl ⟨by decide, by decide⟩ (Nat.le_of_ble_eq_true rfl) ⟨by decide, by decide⟩ rfl rfl rfl rfl rfl rfl rfl (by decide) (ex_k C (cs' := 0) (ss' := 0) (wF := (wX8 g a0 r0 s0)) [0, 1, 2, 3, 4, 5, 6, 7, 8, 9, 10, 11, 12, 13, 14] rfl rfl ?_)
      refine z_iadd (pc := 26) C dX8_digits_26 ?_
      refine z_bipush (pc := 27) C dX8_digits_27 bp_48 ?_
      refine z_isub (pc := 29) C dX8_digits_29 ?_
      refine z_mmin (pc := 30) C dX8_digits_30 ml_RX8_114 wm_min (by decide) (Nat.le_of_ble_eq_true rfl) (by decide) (by decide) ?_
      replace h := znm_e h
      obtain ⟨x4, hx4, h⟩ := h
      refine z_top1 hx4 ?_
      refine z_istore_n (pc := 33) C dX8_digits_33 (i := 1) rfl (by decide) (lv' := [(1, .int x4), (0, .ref a0)]) rfl ?_
      refine z_aload_n (pc := 34) (x := a0) C dX8_digits_34 (i := 0) rfl rfl ?_
      refine z_dup (pc := 35) C dX8_digits_35 rfl ?_
      refine z_get (pc := 36) (v := .int (s0.1 10)) C 0 dX8_digits_36 fl_RX8_86 rfl rfl ?_
      refine z_iconst (pc := 39) C dX8_digits_39 ic_1 ?_
      refine z_iadd (pc := 40) C dX8_digits_40 ?_
      refine z_put (pc := 41) C 0 dX8_digits_41 fp_RX8_86 rfl rfl rfl (zlt_b rfl) (ws' := (wX8 g a0 r0 (si s0 10 ((s0.1 10) + (1 : Int32))))) rfl ?_
      refine z_goto (pc := 44) C dX8_digits_44 (tgt := 2) (by decide) ?_
      refine z_lv (lv' := [(0, .ref a0), (1, .int x4)]) [1, 0] rfl ?_
      exact hk2 x4 (si s0 10 ((s0.1 10) + (1 : Int32))) h
def f_X8_digits (N : Nat) (s0 : Ob) : Option (Int32 × Ob) := (f_X8_digits_2 N N (0 : Int32) s0)
theorem m_X8_digits {g : Gp} {a0 : Nat} {r0 : Nat → Nat} {N : Nat} {s0 : Ob} {res : Int32 × Ob} (hg : Ok g) (h : f_X8_digits N s0 = some res) : Ct g yX8_digits cX8_digits 2 (some .int) (zrm 1 22) [.ref a0] (wX8 g a0 r0 s0) (exR (some (.int res.1)) (wX8 g a0 r0 res.2)) := by
  refine ct_of rfl hg (by show _ ≤ _; exact Nat.le_of_ble_eq_true rfl) (fun K C X => ?_)
  show Zs K 0 0 (wX8 g a0 r0 s0) [(0, .ref a0)] 0 []
  unfold f_X8_digits at h
  refine z_iconst (pc := 0) C dX8_digits_0 ic_0 ?_
  refine z_istore_n (pc := 1) C dX8_digits_1 (i := 1) rfl (by decide) (lv' := [(1, .int (0 : Int32)), (0, .ref a0)]) rfl ?_
  refine z_lv (lv' := [(0, .ref a0), (1, .int (0 : Int32))]) [1, 0] rfl ?_
  exact m_X8_digits_2 (a0 := a0) (r0 := r0) hg C X N (0 : Int32) s0 h
def f_X8_number (N : Nat) (s0 : Ob) (p1 : Int32) (p2 : Int32) : Option (Int32 × Ob) := (if (s0.1 12) = 0 then (ob (f_X8_next N s0) fun x1 => (ob (f_X8_in N x1.1 (48 : Int32) (57 : Int32)) fun x2 => (if x2 = 0 then (ob (f_X8_fails N x1.2 (1 : Int32)) fun x6 => (some (p1, x6))) else (ob (f_X8_digits N x1.2) fun x3 => (ob (f_X8_in N x3.1 p1 p2) fun x4 => (if x4 = 0 then (ob (f_X8_fails N x3.2 (2 : Int32)) fun x5 => (some (p1, x5))) else (some (x3.1, x3.2)))))))) else (some (p1, s0)))
theorem m_X8_number {g : Gp} {a0 : Nat} {r0 : Nat → Nat} {N : Nat} {s0 : Ob} {p1 : Int32} {p2 : Int32} {res : Int32 × Ob} (hg : Ok g) (h : f_X8_number N s0 p1 p2 = some res) : Ct g yX8_number cX8_number 4 (some .int) (zrm 2 43) [.ref a0, .int p1, .int p2] (wX8 g a0 r0 s0) (exR (some (.int res.1)) (wX8 g a0 r0 res.2)) := by
  refine ct_of rfl hg (by show _ ≤ _; exact Nat.le_of_ble_eq_true rfl) (fun K C X => ?_)
  show Zs K 0 0 (wX8 g a0 r0 s0) [(0, .ref a0), (1, .int p1), (2, .int p2)] 0 []
  unfold f_X8_number at h
  refine z_aload_n (pc := 0) (x := a0) C dX8_number_0 (i := 0) rfl rfl ?_
  refine z_get (pc := 1) (v := .int (s0.1 12)) C 0 dX8_number_1 fl_RX8_96 rfl rfl ?_
  refine z_if_eq (pc := 4) C dX8_number_4 (tgt := 9) (by decide) (fun hc => ?_) (fun hc => ?_)
  · replace h := (ite_e h).1 hc
    refine z_aload_n (pc := 9) (x := a0) C dX8_number_9 (i := 0) rfl rfl ?_
    replace h := ob_e h
    obtain ⟨x1, hx1, h⟩ := h
    refine z_callV (pc := 10) (As := []) (rest := []) (wr := ([] : va_W)) C dX8_number_10 ml_RX8_102 wv_X8_next (m_X8_next (a0 := a0) (r0 := r0) hg hx1) [0, 1, 2, 3, 4, 5, 6, 7, 8, 9, 10, 11, 12, 13, 14] [] rfl rfl ⟨by decide, by decide⟩ (Nat.le_of_ble_eq_true rfl) ⟨by decide, by decide⟩ rfl rfl rfl rfl rfl rfl rfl (by decide) (ex_k C (cs' := 0) (ss' := 0) (wF := (wX8 g a0 r0 x1.2)) [0, 1, 2, 3, 4, 5, 6, 7, 8, 9, 10, 11, 12, 13, 14] rfl rfl ?_)
    refine z_bipush (pc := 13) C dX8_number_13 bp_48 ?_
    refine z_bipush (pc := 15) C dX8_number_15 bp_57 ?_
    replace h := ob_e h
    obtain ⟨x2, hx2, h⟩ := h
    refine z_callS (pc := 17) (As := [.int x1.1, .int (48 : Int32), .int (57 : Int32)]) (rest := []) (wr := (wX8 g a0 r0 x1.2)) C dX8_number_17 ml_RX8_62 wt_X8_in (m_X8_in hg hx2) [] [0, 1, 2, 3, 4, 5, 6, 7, 8, 9, 10, 11, 12, 13, 14] rfl rfl ⟨by decide, by decide⟩ (Nat.le_of_ble_eq_true rfl) ⟨by decide, by decide⟩ rfl rfl rfl rfl (by decide) (ex_k C (cs' := 0) (ss' := 0) (wF := (wX8 g a0 r0 x1.2)) [0, 1, 2, 3, 4, 5, 6, 7, 8, 9, 10, 11, 12, 13, 14] rfl rfl ?_)
    refine z_if_ne (pc := 20) C dX8_number_20 (tgt := 30) (by decide) (fun hc => ?_) (fun hc => ?_)
    · replace h := (ite_e h).2 hc
      refine z_aload_n (pc := 30) (x := a0) C dX8_number_30 (i := 0) rfl rfl ?_
      replace h := ob_e h
      obtain ⟨x3, hx3, h⟩ := h
      refine z_callV (pc := 31) (As := []) (rest := []) (wr := ([] : va_W)) C dX8_number_31 ml_RX8_124 wv_X8_digits (m_X8_digits (a0 := a0) (r0 := r0) hg hx3) [0, 1, 2, 3, 4, 5, 6, 7, 8, 9, 10, 11, 12, 13, 14] [] rfl rfl ⟨by decide, by decide⟩ (Nat.le_of_ble_eq_true rfl) ⟨by decide, by decide⟩ rfl rfl rfl rfl rfl rfl rfl (by decide) (ex_k C (cs' := 0) (ss' := 0) (wF := (wX8 g a0 r0 x3.2)) [0, 1, 2, 3, 4, 5, 6, 7, 8, 9, 10, 11, 12, 13, 14] rfl rfl ?_)
      refine z_istore_n (pc := 34) C dX8_number_34 (i := 3) rfl (by decide) (lv' := [(3, .int x3.1), (0, .ref a0), (1, .int p1), (2, .int p2)]) rfl ?_
      refine z_iload_n (pc := 35) (x := x3.1) C dX8_number_35 (i := 3) rfl rfl ?_
      refine z_iload_n (pc := 36) (x := p1) C dX8_number_36 (i := 1) rfl rfl ?_
      refine z_iload_n (pc := 37) (x := p2) C dX8_number_37 (i := 2) rfl rfl ?_
      replace h := ob_e h
      obtain ⟨x4, hx4, h⟩ := h
      refine z_callS (pc := 38) (As := [.int x3.1, .int p1, .int p2]) (rest := []) (wr := (wX8 g a0 r0 x3.2)) C dX8_number_38 ml_RX8_62 wt_X8_in (m_X8_in hg hx4) [] [0, 1, 2, 3, 4, 5, 6, 7, 8, 9, 10, 11, 12, 13, 14] rfl rfl ⟨by decide, by decide⟩ (Nat.le_of_ble_eq_true rfl) ⟨by decide, by decide⟩ rfl rfl rfl rfl (by decide) (ex_k C (cs' := 0) (ss' := 0) (wF := (wX8 g a0 r0 x3.2)) [0, 1, 2, 3, 4, 5, 6, 7, 8, 9, 10, 11, 12, 13, 14] rfl rfl ?_)
      refine z_if_ne (pc := 41) C dX8_number_41 (tgt := 51) (by decide) (fun hc => ?_) (fun hc => ?_)
      · replace h := (ite_e h).2 hc
        refine z_iload_n (pc := 51) (x := x3.1) C dX8_number_51 (i := 3) rfl rfl ?_
        exact z_iret C X dX8_number_52 (by rw [← Option.some.inj h]; exact ⟨rfl, rfl⟩) (by decide) (by decide)
      · replace h := (ite_e h).1 hc
        refine z_aload_n (pc := 44) (x := a0) C dX8_number_44 (i := 0) rfl rfl ?_
        refine z_iconst (pc := 45) C dX8_number_45 ic_2 ?_
        replace h := ob_e h
        obtain ⟨x5, hx5, h⟩ := h
        refine z_callV (pc := 46) (As := [.int (2 : Int32)]) (rest := []) (wr := ([] : va_W)) C dX8_number_46 ml_RX8_120 wv_X8_fails (m_X8_fails (a0 := a0) (r0 := r0) hg hx5) [0, 1, 2, 3, 4, 5, 6, 7, 8, 9, 10, 11, 12, 13, 14] [] rfl rfl ⟨by decide, by decide⟩ (Nat.le_of_ble_eq_true rfl) ⟨by decide, by decide⟩ rfl rfl rfl rfl rfl rfl rfl (by decide) (ex_k C (cs' := 0) (ss' := 0) (wF := (wX8 g a0 r0 x5)) [0, 1, 2, 3, 4, 5, 6, 7, 8, 9, 10, 11, 12, 13, 14] rfl rfl ?_)
        refine z_iload_n (pc := 49) (x := p1) C dX8_number_49 (i := 1) rfl rfl ?_
        exact z_iret C X dX8_number_50 (by rw [← Option.some.inj h]; exact ⟨rfl, rfl⟩) (by decide) (by decide)
    · replace h := (ite_e h).1 hc
      refine z_aload_n (pc := 23) (x := a0) C dX8_number_23 (i := 0) rfl rfl ?_
      refine z_iconst (pc := 24) C dX8_number_24 ic_1 ?_
      replace h := ob_e h
      obtain ⟨x6, hx6, h⟩ := h
      refine z_callV (pc := 25) (As := [.int (1 : Int32)]) (rest := []) (wr := ([] : va_W)) C dX8_number_25 ml_RX8_120 wv_X8_fails (m_X8_fails (a0 := a0) (r0 := r0) hg hx6) [0, 1, 2, 3, 4, 5, 6, 7, 8, 9, 10, 11, 12, 13, 14] [] rfl rfl ⟨by decide, by decide⟩ (Nat.le_of_ble_eq_true rfl) ⟨by decide, by decide⟩ rfl rfl rfl rfl rfl rfl rfl (by decide) (ex_k C (cs' := 0) (ss' := 0) (wF := (wX8 g a0 r0 x6)) [0, 1, 2, 3, 4, 5, 6, 7, 8, 9, 10, 11, 12, 13, 14] rfl rfl ?_)
      refine z_iload_n (pc := 28) (x := p1) C dX8_number_28 (i := 1) rfl rfl ?_
      exact z_iret C X dX8_number_29 (by rw [← Option.some.inj h]; exact ⟨rfl, rfl⟩) (by decide) (by decide)
  · replace h := (ite_e h).2 hc
    refine z_iload_n (pc := 7) (x := p1) C dX8_number_7 (i := 1) rfl rfl ?_
    exact z_iret C X dX8_number_8 (by rw [← Option.some.inj h]; exact ⟨rfl, rfl⟩) (by decide) (by decide)
def f_X8_gamePart_12 (N : Nat)  (s0 : Ob) : Option (Ob) := (ob (f_X8_number N s0 (1 : Int32) (4 : Int32)) fun x1 => (ob (f_X8_number N (sa x1.2 1 (upd (x1.2.2.2.1 1) 0 x1.1)) (1 : Int32) (5 : Int32)) fun x2 => (ob (f_X8_number N (sa x2.2 1 (upd (x2.2.2.2.1 1) 1 x2.1)) (2 : Int32) (4 : Int32)) fun x3 => (ob (f_X8_number N (sa x3.2 1 (upd (x3.2.2.2.1 1) 2 x3.1)) (1 : Int32) (5 : Int32)) fun x4 => (some (sa x4.2 1 (upd (x4.2.2.2.1 1) 3 x4.1)))))))
theorem m_X8_gamePart_12 {K : Kt} {g : Gp} {a0 : Nat} {r0 : Nat → Nat} {N : Nat} {res : Ob} (hg : Ok g) (C : Cx K g cX8_gamePart RX8 1 (zrm 3 66)) (X : Rx K (exR none (wX8 g a0 r0 res)) 0 0 none) (s0 : Ob) (h : f_X8_gamePart_12 N s0 = some res) : Zs K 0 0 (wX8 g a0 r0 s0) [(0, .ref a0)] 12 [] := by
  unfold f_X8_gamePart_12 at h
  refine z_aload_n (pc := 12) (x := a0) C dX8_gamePart_12 (i := 0) rfl rfl ?_
  refine z_get (pc := 13) (v := .ref (r0 1)) C 0 dX8_gamePart_13 fl_RX8_13 rfl rfl ?_
  refine z_iconst (pc := 16) C dX8_gamePart_16 ic_0 ?_
  refine z_aload_n (pc := 17) (x := a0) C dX8_gamePart_17 (i := 0) rfl rfl ?_
  refine z_iconst (pc := 18) C dX8_gamePart_18 ic_1 ?_
  refine z_iconst (pc := 19) C dX8_gamePart_19 ic_4 ?_
  replace h := ob_e h
  obtain ⟨x1, hx1, h⟩ := h
  refine z_callV (pc := 20) (As := [.int (1 : Int32), .int (4 : Int32)]) (rest := [.int (0 : Int32), .ref (r0 1)]) (wr := ([] : va_W)) C dX8_gamePart_20 ml_RX8_130 wv_X8_number (m_X8_number (a0 := a0) (r0 := r0) hg hx1) [0, 1, 2, 3, 4, 5, 6, 7, 8, 9, 10, 11, 12, 13, 14] [] rfl rfl ⟨by decide, by decide⟩ (Nat.le_of_ble_eq_true rfl) ⟨by decide, by decide⟩ rfl rfl rfl rfl rfl rfl rfl (by decide) (ex_k C (cs' := 0) (ss' := 0) (wF := (wX8 g a0 r0 x1.2)) [0, 1, 2, 3, 4, 5, 6, 7, 8, 9, 10, 11, 12, 13, 14] rfl rfl ?_)
  refine z_iast (pc := 23) C 2 dX8_gamePart_23 rfl (by decide) (ws' := (wX8 g a0 r0 (sa x1.2 1 (upd (x1.2.2.2.1 1) 0 x1.1)))) rfl ?_
  refine z_aload_n (pc := 24) (x := a0) C dX8_gamePart_24 (i := 0) rfl rfl ?_
  refine z_get (pc := 25) (v := .ref (r0 1)) C 0 dX8_gamePart_25 fl_RX8_13 rfl rfl ?_
  refine z_iconst (pc := 28) C dX8_gamePart_28 ic_1 ?_
  refine z_aload_n (pc := 29) (x := a0) C dX8_gamePart_29 (i := 0) rfl rfl ?_
  refine z_iconst (pc := 30) C dX8_gamePart_30 ic_1 ?_
  refine z_iconst (pc := 31) C dX8_gamePart_31 ic_5 ?_
  replace h := ob_e h
  obtain ⟨x2, hx2, h⟩ := h
  refine z_callV (pc := 32) (As := [.int (1 : Int32), .int (5 : Int32)]) (rest := [.int (1 : Int32), .ref (r0 1)]) (wr := ([] : va_W)) C dX8_gamePart_32 ml_RX8_130 wv_X8_number (m_X8_number (a0 := a0) (r0 := r0) hg hx2) [0, 1, 2, 3, 4, 5, 6, 7, 8, 9, 10, 11, 12, 13, 14] [] rfl rfl ⟨by decide, by decide⟩ (Nat.le_of_ble_eq_true rfl) ⟨by decide, by decide⟩ rfl rfl rfl rfl rfl rfl rfl (by decide) (ex_k C (cs' := 0) (ss' := 0) (wF := (wX8 g a0 r0 x2.2)) [0, 1, 2, 3, 4, 5, 6, 7, 8, 9, 10, 11, 12, 13, 14] rfl rfl ?_)
  refine z_iast (pc := 35) C 2 dX8_gamePart_35 rfl (by decide) (ws' := (wX8 g a0 r0 (sa x2.2 1 (upd (x2.2.2.2.1 1) 1 x2.1)))) rfl ?_
  refine z_aload_n (pc := 36) (x := a0) C dX8_gamePart_36 (i := 0) rfl rfl ?_
  refine z_get (pc := 37) (v := .ref (r0 1)) C 0 dX8_gamePart_37 fl_RX8_13 rfl rfl ?_
  refine z_iconst (pc := 40) C dX8_gamePart_40 ic_2 ?_
  refine z_aload_n (pc := 41) (x := a0) C dX8_gamePart_41 (i := 0) rfl rfl ?_
  refine z_iconst (pc := 42) C dX8_gamePart_42 ic_2 ?_
  refine z_iconst (pc := 43) C dX8_gamePart_43 ic_4 ?_
  replace h := ob_e h
  obtain ⟨x3, hx3, h⟩ := h
  refine z_callV (pc := 44) (As := [.int (2 : Int32), .int (4 : Int32)]) (rest := [.int (2 : Int32), .ref (r0 1)]) (wr := ([] : va_W)) C dX8_gamePart_44 ml_RX8_130 wv_X8_number (m_X8_number (a0 := a0) (r0 := r0) hg hx3) [0, 1, 2, 3, 4, 5, 6, 7, 8, 9, 10, 11, 12, 13, 14] [] rfl rfl ⟨by decide, by decide⟩ (Nat.le_of_ble_eq_true rfl) ⟨by decide, by decide⟩ rfl rfl rfl rfl rfl rfl rfl (by decide) (ex_k C (cs' := 0) (ss' := 0) (wF := (wX8 g a0 r0 x3.2)) [0, 1, 2, 3, 4, 5, 6, 7, 8, 9, 10, 11, 12, 13, 14] rfl rfl ?_)
  refine z_iast (pc := 47) C 2 dX8_gamePart_47 rfl (by decide) (ws' := (wX8 g a0 r0 (sa x3.2 1 (upd (x3.2.2.2.1 1) 2 x3.1)))) rfl ?_
  refine z_aload_n (pc := 48) (x := a0) C dX8_gamePart_48 (i := 0) rfl rfl ?_
  refine z_get (pc := 49) (v := .ref (r0 1)) C 0 dX8_gamePart_49 fl_RX8_13 rfl rfl ?_
  refine z_iconst (pc := 52) C dX8_gamePart_52 ic_3 ?_
  refine z_aload_n (pc := 53) (x := a0) C dX8_gamePart_53 (i := 0) rfl rfl ?_
  refine z_iconst (pc := 54) C dX8_gamePart_54 ic_1 ?_
  refine z_iconst (pc := 55) C dX8_gamePart_55 ic_5 ?_
  replace h := ob_e h
  obtain ⟨x4, hx4, h⟩ := h
  refine z_callV (pc := 56) (As := [.int (1 : Int32), .int (5 : Int32)]) (rest := [.int (3 : Int32), .ref (r0 1)]) (wr := ([] : va_W)) C dX8_gamePart_56 ml_RX8_130 wv_X8_number (m_X8_number (a0 := a0) (r0 := r0) hg hx4) [0, 1, 2, 3, 4, 5, 6, 7, 8, 9, 10, 11, 12, 13, 14] [] rfl rfl ⟨by decide, by decide⟩ (Nat.le_of_ble_eq_true rfl) ⟨by decide, by decide⟩ rfl rfl rfl rfl rfl rfl rfl (by decide) (ex_k C (cs' := 0) (ss' := 0) (wF := (wX8 g a0 r0 x4.2)) [0, 1, 2, 3, 4, 5, 6, 7, 8, 9, 10, 11, 12, 13, 14] rfl rfl ?_)
  refine z_iast (pc := 59) C 2 dX8_gamePart_59 rfl (by decide) (ws' := (wX8 g a0 r0 (sa x4.2 1 (upd (x4.2.2.2.1 1) 3 x4.1)))) rfl ?_
  exact z_vret C X dX8_gamePart_60 (by rw [← Option.some.inj h]; exact ⟨rfl, rfl⟩) (by decide) (by decide)
def f_X8_gamePart (N : Nat) (s0 : Ob) : Option (Ob) := (if (s0.1 14) ≤ 0 then (f_X8_gamePart_12 N s0) else (ob (f_X8_fails N s0 (1 : Int32)) fun x5 => (f_X8_gamePart_12 N x5)))
theorem m_X8_gamePart {g : Gp} {a0 : Nat} {r0 : Nat → Nat} {N : Nat} {s0 : Ob} {res : Ob} (hg : Ok g) (h : f_X8_gamePart N s0 = some res) : Ct g yX8_gamePart cX8_gamePart 1 none (zrm 3 66) [.ref a0] (wX8 g a0 r0 s0) (exR none (wX8 g a0 r0 res)) := by
  refine ct_of rfl hg (by show _ ≤ _; exact Nat.le_of_ble_eq_true rfl) (fun K C X => ?_)
  show Zs K 0 0 (wX8 g a0 r0 s0) [(0, .ref a0)] 0 []
  unfold f_X8_gamePart at h
  refine z_aload_n (pc := 0) (x := a0) C dX8_gamePart_0 (i := 0) rfl rfl ?_
  refine z_get (pc := 1) (v := .int (s0.1 14)) C 0 dX8_gamePart_1 fl_RX8_127 rfl rfl ?_
  refine z_if_le (pc := 4) C dX8_gamePart_4 (tgt := 12) (by decide) (fun hc => ?_) (fun hc => ?_)
  · replace h := (ite_e h).1 hc
    exact m_X8_gamePart_12 (a0 := a0) (r0 := r0) hg C X s0 h
  · replace h := (ite_e h).2 hc
    refine z_aload_n (pc := 7) (x := a0) C dX8_gamePart_7 (i := 0) rfl rfl ?_
    refine z_iconst (pc := 8) C dX8_gamePart_8 ic_1 ?_
    replace h := ob_e h
    obtain ⟨x5, hx5, h⟩ := h
    refine z_callV (pc := 9) (As := [.int (1 : Int32)]) (rest := []) (wr := ([] : va_W)) C dX8_gamePart_9 ml_RX8_120 wv_X8_fails (m_X8_fails (a0 := a0) (r0 := r0) hg hx5) [0, 1, 2, 3, 4, 5, 6, 7, 8, 9, 10, 11, 12, 13, 14] [] rfl rfl ⟨by decide, by decide⟩ (Nat.le_of_ble_eq_true rfl) ⟨by decide, by decide⟩ rfl rfl rfl rfl rfl rfl rfl (by decide) (ex_k C (cs' := 0) (ss' := 0) (wF := (wX8 g a0 r0 x5)) [0, 1, 2, 3, 4, 5, 6, 7, 8, 9, 10, 11, 12, 13, 14] rfl rfl ?_)
    exact m_X8_gamePart_12 (a0 := a0) (r0 := r0) hg C X x5 h
def f_X8_cardPart_53 (N : Nat)  (s0 : Ob) : Option (Ob) := (ob (f_X8_fails N s0 (1 : Int32)) fun x2 => (some x2))
theorem m_X8_cardPart_53 {K : Kt} {g : Gp} {a0 : Nat} {r0 : Nat → Nat} {N : Nat} {res : Ob} (hg : Ok g) (C : Cx K g cX8_cardPart RX8 3 (zrm 3 60)) (X : Rx K (exR none (wX8 g a0 r0 res)) 0 0 none) (s0 : Ob) (h : f_X8_cardPart_53 N s0 = some res) : Zs K 0 0 (wX8 g a0 r0 s0) [(0, .ref a0)] 53 [] := by
  unfold f_X8_cardPart_53 at h
  refine z_aload_n (pc := 53) (x := a0) C dX8_cardPart_53 (i := 0) rfl rfl ?_
  refine z_iconst (pc := 54) C dX8_cardPart_54 ic_1 ?_
  replace h := ob_e h
  obtain ⟨x2, hx2, h⟩ := h
  refine z_callV (pc := 55) (As := [.int (1 : Int32)]) (rest := []) (wr := ([] : va_W)) C dX8_cardPart_55 ml_RX8_120 wv_X8_fails (m_X8_fails (a0 := a0) (r0 := r0) hg hx2) [0, 1, 2, 3, 4, 5, 6, 7, 8, 9, 10, 11, 12, 13, 14] [] rfl rfl ⟨by decide, by decide⟩ (Nat.le_of_ble_eq_true rfl) ⟨by decide, by decide⟩ rfl rfl rfl rfl rfl rfl rfl (by decide) (ex_k C (cs' := 0) (ss' := 0) (wF := (wX8 g a0 r0 x2)) [0, 1, 2, 3, 4, 5, 6, 7, 8, 9, 10, 11, 12, 13, 14] rfl rfl ?_)
  exact z_vret C X dX8_cardPart_58 (by rw [← Option.some.inj h]; exact ⟨rfl, rfl⟩) (by decide) (by decide)
def f_X8_cardPart_112 (N : Nat)  (v1 : Int32) (v2 : Int32) (s0 : Ob) : Option (Ob) := (if (s0.1 12) = 0 then (ob (f_X8_kind N v1 v2) fun x7 => (chk (inb ((27 : Int32) + ((s0.2.2.1 1) 4)) 358) (znm ((upd (s0.2.2.1 1) (((27 : Int32) + ((s0.2.2.1 1) 4))).toNatClampNeg x7) 4) fun x9 => (znm (sa s0 1 (upd (s0.2.2.1 1) (((27 : Int32) + ((s0.2.2.1 1) 4))).toNatClampNeg x7)) fun y10 => (some (sa y10 1 (upd (y10.2.2.1 1) 4 (x9 + (1 : Int32))))))))) else (some s0))
theorem m_X8_cardPart_112 {K : Kt} {g : Gp} {a0 : Nat} {r0 : Nat → Nat} {N : Nat} {res : Ob} (hg : Ok g) (C : Cx K g cX8_cardPart RX8 3 (zrm 3 60)) (X : Rx K (exR none (wX8 g a0 r0 res)) 0 0 none) (v1 : Int32) (v2 : Int32) (s0 : Ob) (h : f_X8_cardPart_112 N v1 v2 s0 = some res) : Zs K 0 0 (wX8 g a0 r0 s0) [(0, .ref a0), (1, .int v1), (2, .int v2)] 112 [] := by
  unfold f_X8_cardPart_112 at h
  refine z_aload_n (pc := 112) (x := a0) C dX8_cardPart_112 (i := 0) rfl rfl ?_
  refine z_get (pc := 113) (v := .int (s0.1 12)) C 0 dX8_cardPart_113 fl_RX8_96 rfl rfl ?_
  refine z_if_eq (pc := 116) C dX8_cardPart_116 (tgt := 120) (by decide) (fun hc => ?_) (fun hc => ?_)
  · replace h := (ite_e h).1 hc
    refine z_aload_n (pc := 120) (x := a0) C dX8_cardPart_120 (i := 0) rfl rfl ?_
    refine z_get (pc := 121) (v := .ref (r0 1)) C 0 dX8_cardPart_121 fl_RX8_13 rfl rfl ?_
    refine z_bipush (pc := 124) C dX8_cardPart_124 bp_27 ?_
    refine z_aload_n (pc := 126) (x := a0) C dX8_cardPart_126 (i := 0) rfl rfl ?_
    refine z_get (pc := 127) (v := .ref (r0 1)) C 0 dX8_cardPart_127 fl_RX8_13 rfl rfl ?_
    refine z_iconst (pc := 130) C dX8_cardPart_130 ic_4 ?_
    refine z_iald (pc := 131) C 2 dX8_cardPart_131 rfl (by decide) ?_
    refine z_top1 (v := ((s0.2.2.1 1) 4)) rfl ?_
    refine z_iadd (pc := 132) C dX8_cardPart_132 ?_
    refine z_iload_n (pc := 133) (x := v1) C dX8_cardPart_133 (i := 1) rfl rfl ?_
    refine z_iload_n (pc := 134) (x := v2) C dX8_cardPart_134 (i := 2) rfl rfl ?_
    replace h := ob_e h
    obtain ⟨x7, hx7, h⟩ := h
    refine z_callS (pc := 135) (As := [.int v1, .int v2]) (rest := [.int ((27 : Int32) + ((s0.2.2.1 1) 4)), .ref (r0 1)]) (wr := (wX8 g a0 r0 s0)) C dX8_cardPart_135 ml_RX8_136 wt_X8_kind (m_X8_kind hg hx7) [] [0, 1, 2, 3, 4, 5, 6, 7, 8, 9, 10, 11, 12, 13, 14] rfl rfl ⟨by decide, by decide⟩ (Nat.le_of_ble_eq_true rfl) ⟨by decide, by decide⟩ rfl rfl rfl rfl (by decide) (ex_k C (cs' := 0) (ss' := 0) (wF := (wX8 g a0 r0 s0)) [0, 1, 2, 3, 4, 5, 6, 7, 8, 9, 10, 11, 12, 13, 14] rfl rfl ?_)
    replace h := chk_e h
    obtain ⟨hb8, h⟩ := h
    refine z_iast (pc := 138) C 2 dX8_cardPart_138 rfl hb8 (ws' := (wX8 g a0 r0 (sa s0 1 (upd (s0.2.2.1 1) (((27 : Int32) + ((s0.2.2.1 1) 4))).toNatClampNeg x7)))) rfl ?_
    refine z_aload_n (pc := 139) (x := a0) C dX8_cardPart_139 (i := 0) rfl rfl ?_
    refine z_get (pc := 140) (v := .ref (r0 1)) C 0 dX8_cardPart_140 fl_RX8_13 rfl rfl ?_
    refine z_iconst (pc := 143) C dX8_cardPart_143 ic_4 ?_
    refine z_dup2 (pc := 144) C dX8_cardPart_144 rfl rfl ?_
    refine z_iald (pc := 145) C 2 dX8_cardPart_145 rfl (by decide) ?_
    refine z_top1 (v := ((upd (s0.2.2.1 1) (((27 : Int32) + ((s0.2.2.1 1) 4))).toNatClampNeg x7) 4)) rfl ?_
    replace h := znm_e h
    obtain ⟨x9, hx9, h⟩ := h
    refine z_top1 hx9 ?_
    refine z_iconst (pc := 146) C dX8_cardPart_146 ic_1 ?_
    refine z_iadd (pc := 147) C dX8_cardPart_147 ?_
    replace h := znm_e h
    obtain ⟨y10, hy10, h⟩ := h
    refine z_wsE (ws' := (wX8 g a0 r0 y10)) (by rw [hy10]) ?_
    refine z_iast (pc := 148) C 2 dX8_cardPart_148 rfl (by decide) (ws' := (wX8 g a0 r0 (sa y10 1 (upd (y10.2.2.1 1) 4 (x9 + (1 : Int32)))))) rfl ?_
    exact z_vret C X dX8_cardPart_149 (by rw [← Option.some.inj h]; exact ⟨rfl, rfl⟩) (by decide) (by decide)
  · replace h := (ite_e h).2 hc
    exact z_vret C X dX8_cardPart_119 (by rw [← Option.some.inj h]; exact ⟨rfl, rfl⟩) (by decide) (by decide)
def f_X8_cardPart_88 (N : Nat)  (v1 : Int32) (v2 : Int32) (s0 : Ob) : Option (Ob) := (ob (f_X8_fails N s0 (2 : Int32)) fun x6 => (f_X8_cardPart_112 N v1 v2 x6))
theorem m_X8_cardPart_88 {K : Kt} {g : Gp} {a0 : Nat} {r0 : Nat → Nat} {N : Nat} {res : Ob} (hg : Ok g) (C : Cx K g cX8_cardPart RX8 3 (zrm 3 60)) (X : Rx K (exR none (wX8 g a0 r0 res)) 0 0 none) (v1 : Int32) (v2 : Int32) (s0 : Ob) (h : f_X8_cardPart_88 N v1 v2 s0 = some res) : Zs K 0 0 (wX8 g a0 r0 s0) [(0, .ref a0), (1, .int v1), (2, .int v2)] 88 [] := by
  unfold f_X8_cardPart_88 at h
  refine z_aload_n (pc := 88) (x := a0) C dX8_cardPart_88 (i := 0) rfl rfl ?_
  refine z_iconst (pc := 89) C dX8_cardPart_89 ic_2 ?_
  replace h := ob_e h
  obtain ⟨x6, hx6, h⟩ := h
  refine z_callV (pc := 90) (As := [.int (2 : Int32)]) (rest := []) (wr := ([] : va_W)) C dX8_cardPart_90 ml_RX8_120 wv_X8_fails (m_X8_fails (a0 := a0) (r0 := r0) hg hx6) [0, 1, 2, 3, 4, 5, 6, 7, 8, 9, 10, 11, 12, 13, 14] [] rfl rfl ⟨by decide, by decide⟩ (Nat.le_of_ble_eq_true rfl) ⟨by decide, by decide⟩ rfl rfl rfl rfl rfl rfl rfl (by decide) (ex_k C (cs' := 0) (ss' := 0) (wF := (wX8 g a0 r0 x6)) [0, 1, 2, 3, 4, 5, 6, 7, 8, 9, 10, 11, 12, 13, 14] rfl rfl ?_)
  refine z_goto (pc := 93) C dX8_cardPart_93 (tgt := 112) (by decide) ?_
  exact m_X8_cardPart_112 (a0 := a0) (r0 := r0) hg C X v1 v2 x6 h
def f_X8_cardPart_33 (N : Nat)  (t0 : Int32) (s0 : Ob) : Option (Ob) := (if t0 = (-1 : Int32) then (f_X8_cardPart_53 N s0) else (ob (f_X8_here N s0) fun x3 => (ob (f_X8_in N x3 (48 : Int32) (57 : Int32)) fun x4 => (if x4 = 0 then (f_X8_cardPart_53 N s0) else (ob (f_X8_digits N s0) fun x5 => (if ((x5.2.2.2.1 1) 0) ≤ t0 then (f_X8_cardPart_88 N t0 x5.1 x5.2) else (ob (f_X8_in N x5.1 (1 : Int32) ((x5.2.2.2.1 1) 1)) fun x11 => (if x11 = 0 then (f_X8_cardPart_88 N t0 x5.1 x5.2) else (if ((x5.2.2.2.1 1) 4) = (40 : Int32) then (ob (f_X8_fails N x5.2 (3 : Int32)) fun x12 => (f_X8_cardPart_112 N t0 x5.1 x12)) else (f_X8_cardPart_112 N t0 x5.1 x5.2))))))))))
theorem m_X8_cardPart_33 {K : Kt} {g : Gp} {a0 : Nat} {r0 : Nat → Nat} {N : Nat} {res : Ob} (hg : Ok g) (C : Cx K g cX8_cardPart RX8 3 (zrm 3 60)) (X : Rx K (exR none (wX8 g a0 r0 res)) 0 0 none) (t0 : Int32) (s0 : Ob) (h : f_X8_cardPart_33 N t0 s0 = some res) : Zs K 0 0 (wX8 g a0 r0 s0) [(0, .ref a0)] 33 [.int t0] := by
  unfold f_X8_cardPart_33 at h
  refine z_istore_n (pc := 33) C dX8_cardPart_33 (i := 1) rfl (by decide) (lv' := [(1, .int t0), (0, .ref a0)]) rfl ?_
  refine z_iload_n (pc := 34) (x := t0) C dX8_cardPart_34 (i := 1) rfl rfl ?_
  refine z_iconst (pc := 35) C dX8_cardPart_35 ic_m1 ?_
  refine z_icmp_eq (pc := 36) C dX8_cardPart_36 (tgt := 53) (by decide) (fun hc => ?_) (fun hc => ?_)
  · replace h := (ite_e h).1 hc
    refine z_lv (lv' := [(0, .ref a0)]) [1] rfl ?_
    exact m_X8_cardPart_53 (a0 := a0) (r0 := r0) hg C X s0 h
  · replace h := (ite_e h).2 hc
    refine z_aload_n (pc := 39) (x := a0) C dX8_cardPart_39 (i := 0) rfl rfl ?_
    replace h := ob_e h
    obtain ⟨x3, hx3, h⟩ := h
    refine z_callV (pc := 40) (As := []) (rest := []) (wr := ([] : va_W)) C dX8_cardPart_40 ml_RX8_89 wv_X8_here (m_X8_here (a0 := a0) (r0 := r0) hg hx3) [0, 1, 2, 3, 4, 5, 6, 7, 8, 9, 10, 11, 12, 13, 14] [] rfl rfl ⟨by decide, by decide⟩ (Nat.le_of_ble_eq_true rfl) ⟨by decide, by decide⟩ rfl rfl rfl rfl rfl rfl rfl (by decide) (ex_k C (cs' := 0) (ss' := 0) (wF := (wX8 g a0 r0 s0)) [0, 1, 2, 3, 4, 5, 6, 7, 8, 9, 10, 11, 12, 13, 14] rfl rfl ?_)
    refine z_bipush (pc := 43) C dX8_cardPart_43 bp_48 ?_
    refine z_bipush (pc := 45) C dX8_cardPart_45 bp_57 ?_
    replace h := ob_e h
    obtain ⟨x4, hx4, h⟩ := h
    refine z_callS (pc := 47) (As := [.int x3, .int (48 : Int32), .int (57 : Int32)]) (rest := []) (wr := (wX8 g a0 r0 s0)) C dX8_cardPart_47 ml_RX8_62 wt_X8_in (m_X8_in hg hx4) [] [0, 1, 2, 3, 4, 5, 6, 7, 8, 9, 10, 11, 12, 13, 14] rfl rfl ⟨by decide, by decide⟩ (Nat.le_of_ble_eq_true rfl) ⟨by decide, by decide⟩ rfl rfl rfl rfl (by decide) (ex_k C (cs' := 0) (ss' := 0) (wF := (wX8 g a0 r0 s0)) [0, 1, 2, 3, 4, 5, 6, 7, 8, 9, 10, 11, 12, 13, 14] rfl rfl ?_)
    refine z_if_ne (pc := 50) C dX8_cardPart_50 (tgt := 59) (by decide) (fun hc => ?_) (fun hc => ?_)
    · replace h := (ite_e h).2 hc
      refine z_aload_n (pc := 59) (x := a0) C dX8_cardPart_59 (i := 0) rfl rfl ?_
      replace h := ob_e h
      obtain ⟨x5, hx5, h⟩ := h
      refine z_callV (pc := 60) (As := []) (rest := []) (wr := ([] : va_W)) C dX8_cardPart_60 ml_RX8_124 wv_X8_digits (m_X8_digits (a0 := a0) (r0 := r0) hg hx5) [0, 1, 2, 3, 4, 5, 6, 7, 8, 9, 10, 11, 12, 13, 14] [] rfl rfl ⟨by decide, by decide⟩ (Nat.le_of_ble_eq_true rfl) ⟨by decide, by decide⟩ rfl rfl rfl rfl rfl rfl rfl (by decide) (ex_k C (cs' := 0) (ss' := 0) (wF := (wX8 g a0 r0 x5.2)) [0, 1, 2, 3, 4, 5, 6, 7, 8, 9, 10, 11, 12, 13, 14] rfl rfl ?_)
      refine z_istore_n (pc := 63) C dX8_cardPart_63 (i := 2) rfl (by decide) (lv' := [(2, .int x5.1), (1, .int t0), (0, .ref a0)]) rfl ?_
      refine z_iload_n (pc := 64) (x := t0) C dX8_cardPart_64 (i := 1) rfl rfl ?_
      refine z_aload_n (pc := 65) (x := a0) C dX8_cardPart_65 (i := 0) rfl rfl ?_
      refine z_get (pc := 66) (v := .ref (r0 1)) C 0 dX8_cardPart_66 fl_RX8_13 rfl rfl ?_
      refine z_iconst (pc := 69) C dX8_cardPart_69 ic_0 ?_
      refine z_iald (pc := 70) C 2 dX8_cardPart_70 rfl (by decide) ?_
      refine z_top1 (v := ((x5.2.2.2.1 1) 0)) rfl ?_
      refine z_icmp_ge (pc := 71) C dX8_cardPart_71 (tgt := 88) (by decide) (fun hc => ?_) (fun hc => ?_)
      · replace h := (ite_e h).1 hc
        refine z_lv (lv' := [(0, .ref a0), (1, .int t0), (2, .int x5.1)]) [2, 1, 0] rfl ?_
        exact m_X8_cardPart_88 (a0 := a0) (r0 := r0) hg C X t0 x5.1 x5.2 h
      · replace h := (ite_e h).2 hc
        refine z_iload_n (pc := 74) (x := x5.1) C dX8_cardPart_74 (i := 2) rfl rfl ?_
        refine z_iconst (pc := 75) C dX8_cardPart_75 ic_1 ?_
        refine z_aload_n (pc := 76) (x := a0) C dX8_cardPart_76 (i := 0) rfl rfl ?_
        refine z_get (pc := 77) (v := .ref (r0 1)) C 0 dX8_cardPart_77 fl_RX8_13 rfl rfl ?_
        refine z_iconst (pc := 80) C dX8_cardPart_80 ic_1 ?_
        refine z_iald (pc := 81) C 2 dX8_cardPart_81 rfl (by decide) ?_
        refine z_top1 (v := ((x5.2.2.2.1 1) 1)) rfl ?_
        replace h := ob_e h
        obtain ⟨x11, hx11, h⟩ := h
        refine z_callS (pc := 82) (As := [.int x5.1, .int (1 : Int32), .int ((x5.2.2.2.1 1) 1)]) (rest := []) (wr := (wX8 g a0 r0 x5.2)) C dX8_cardPart_82 ml_RX8_62 wt_X8_in (m_X8_in hg hx11) [] [0, 1, 2, 3, 4, 5, 6, 7, 8, 9, 10, 11, 12, 13, 14] rfl rfl ⟨by decide, by decide⟩ (Nat.le_of_ble_eq_true rfl) ⟨by decide, by decide⟩ rfl rfl rfl rfl (by decide) (ex_k C (cs' := 0) (ss' := 0) (wF := (wX8 g a0 r0 x5.2)) [0, 1, 2, 3, 4, 5, 6, 7, 8, 9, 10, 11, 12, 13, 14] rfl rfl ?_)
        refine z_if_ne (pc := 85) C dX8_cardPart_85 (tgt := 96) (by decide) (fun hc => ?_) (fun hc => ?_)
        · replace h := (ite_e h).2 hc
          refine z_aload_n (pc := 96) (x := a0) C dX8_cardPart_96 (i := 0) rfl rfl ?_
          refine z_get (pc := 97) (v := .ref (r0 1)) C 0 dX8_cardPart_97 fl_RX8_13 rfl rfl ?_
          refine z_iconst (pc := 100) C dX8_cardPart_100 ic_4 ?_
          refine z_iald (pc := 101) C 2 dX8_cardPart_101 rfl (by decide) ?_
          refine z_top1 (v := ((x5.2.2.2.1 1) 4)) rfl ?_
          refine z_bipush (pc := 102) C dX8_cardPart_102 bp_40 ?_
          refine z_icmp_ne (pc := 104) C dX8_cardPart_104 (tgt := 112) (by decide) (fun hc => ?_) (fun hc => ?_)
          · replace h := (ite_e h).2 hc
            refine z_lv (lv' := [(0, .ref a0), (1, .int t0), (2, .int x5.1)]) [2, 1, 0] rfl ?_
            exact m_X8_cardPart_112 (a0 := a0) (r0 := r0) hg C X t0 x5.1 x5.2 h
          · replace h := (ite_e h).1 hc
            refine z_aload_n (pc := 107) (x := a0) C dX8_cardPart_107 (i := 0) rfl rfl ?_
            refine z_iconst (pc := 108) C dX8_cardPart_108 ic_3 ?_
            replace h := ob_e h
            obtain ⟨x12, hx12, h⟩ := h
            refine z_callV (pc := 109) (As := [.int (3 : Int32)]) (rest := []) (wr := ([] : va_W)) C dX8_cardPart_109 ml_RX8_120 wv_X8_fails (m_X8_fails (a0 := a0) (r0 := r0) hg hx12) [0, 1, 2, 3, 4, 5, 6, 7, 8, 9, 10, 11, 12, 13, 14] [] rfl rfl ⟨by decide, by decide⟩ (Nat.le_of_ble_eq_true rfl) ⟨by decide, by decide⟩ rfl rfl rfl rfl rfl rfl rfl (by decide) (ex_k C (cs' := 0) (ss' := 0) (wF := (wX8 g a0 r0 x12)) [0, 1, 2, 3, 4, 5, 6, 7, 8, 9, 10, 11, 12, 13, 14] rfl rfl ?_)
            refine z_lv (lv' := [(0, .ref a0), (1, .int t0), (2, .int x5.1)]) [2, 1, 0] rfl ?_
            exact m_X8_cardPart_112 (a0 := a0) (r0 := r0) hg C X t0 x5.1 x12 h
        · replace h := (ite_e h).1 hc
          refine z_lv (lv' := [(0, .ref a0), (1, .int t0), (2, .int x5.1)]) [2, 1, 0] rfl ?_
          exact m_X8_cardPart_88 (a0 := a0) (r0 := r0) hg C X t0 x5.1 x5.2 h
    · replace h := (ite_e h).1 hc
      refine z_lv (lv' := [(0, .ref a0)]) [1] rfl ?_
      exact m_X8_cardPart_53 (a0 := a0) (r0 := r0) hg C X s0 h
def f_X8_cardPart (N : Nat) (s0 : Ob) : Option (Ob) := (ob (f_X8_reads N s0) fun x1 => (if ((x1.1 10) - (x1.1 11)) = (1 : Int32) then (chk (inb (x1.1 11) 600) (f_X8_cardPart_33 N (((x1.2.2.1 8) ((x1.1 11)).toNatClampNeg) - (97 : Int32)) x1)) else (f_X8_cardPart_33 N (-1 : Int32) x1)))
theorem m_X8_cardPart {g : Gp} {a0 : Nat} {r0 : Nat → Nat} {N : Nat} {s0 : Ob} {res : Ob} (hg : Ok g) (h : f_X8_cardPart N s0 = some res) : Ct g yX8_cardPart cX8_cardPart 3 none (zrm 3 60) [.ref a0] (wX8 g a0 r0 s0) (exR none (wX8 g a0 r0 res)) := by
  refine ct_of rfl hg (by show _ ≤ _; exact Nat.le_of_ble_eq_true rfl) (fun K C X => ?_)
  show Zs K 0 0 (wX8 g a0 r0 s0) [(0, .ref a0)] 0 []
  unfold f_X8_cardPart at h
  refine z_aload_n (pc := 0) (x := a0) C dX8_cardPart_0 (i := 0) rfl rfl ?_
  replace h := ob_e h
  obtain ⟨x1, hx1, h⟩ := h
  refine z_callV (pc := 1) (As := []) (rest := []) (wr := ([] : va_W)) C dX8_cardPart_1 ml_RX8_133 wv_X8_reads (m_X8_reads (a0 := a0) (r0 := r0) hg hx1) [0, 1, 2, 3, 4, 5, 6, 7, 8, 9, 10, 11, 12, 13, 14] [] rfl rfl ⟨by decide, by decide⟩ (Nat.le_of_ble_eq_true rfl) ⟨by decide, by decide⟩ rfl rfl rfl rfl rfl rfl rfl (by decide) (ex_k C (cs' := 0) (ss' := 0) (wF := (wX8 g a0 r0 x1)) [0, 1, 2, 3, 4, 5, 6, 7, 8, 9, 10, 11, 12, 13, 14] rfl rfl ?_)
  refine z_aload_n (pc := 4) (x := a0) C dX8_cardPart_4 (i := 0) rfl rfl ?_
  refine z_get (pc := 5) (v := .int (x1.1 10)) C 0 dX8_cardPart_5 fl_RX8_86 rfl rfl ?_
  refine z_aload_n (pc := 8) (x := a0) C dX8_cardPart_8 (i := 0) rfl rfl ?_
  refine z_get (pc := 9) (v := .int (x1.1 11)) C 0 dX8_cardPart_9 fl_RX8_93 rfl rfl ?_
  refine z_isub (pc := 12) C dX8_cardPart_12 ?_
  refine z_iconst (pc := 13) C dX8_cardPart_13 ic_1 ?_
  refine z_icmp_ne (pc := 14) C dX8_cardPart_14 (tgt := 32) (by decide) (fun hc => ?_) (fun hc => ?_)
  · replace h := (ite_e h).2 hc
    refine z_iconst (pc := 32) C dX8_cardPart_32 ic_m1 ?_
    exact m_X8_cardPart_33 (a0 := a0) (r0 := r0) hg C X (-1 : Int32) x1 h
  · replace h := (ite_e h).1 hc
    refine z_aload_n (pc := 17) (x := a0) C dX8_cardPart_17 (i := 0) rfl rfl ?_
    refine z_get (pc := 18) (v := .ref (r0 8)) C 0 dX8_cardPart_18 fl_RX8_29 rfl rfl ?_
    refine z_aload_n (pc := 21) (x := a0) C dX8_cardPart_21 (i := 0) rfl rfl ?_
    refine z_get (pc := 22) (v := .int (x1.1 11)) C 0 dX8_cardPart_22 fl_RX8_93 rfl rfl ?_
    replace h := chk_e h
    obtain ⟨hb13, h⟩ := h
    refine z_bald (pc := 25) C 7 dX8_cardPart_25 rfl hb13 ?_
    refine z_bipush (pc := 26) C dX8_cardPart_26 bp_97 ?_
    refine z_isub (pc := 28) C dX8_cardPart_28 ?_
    refine z_goto (pc := 29) C dX8_cardPart_29 (tgt := 33) (by decide) ?_
    exact m_X8_cardPart_33 (a0 := a0) (r0 := r0) hg C X (((x1.2.2.1 8) ((x1.1 11)).toNatClampNeg) - (97 : Int32)) x1 h
def F_X8_deckPart_0 (N : Nat)  (k0 : Ob → Option (Ob)) (s0 : Ob) : Option (Ob) := (ob (f_X8_cardPart N s0) fun x1 => (if (x1.1 12) = 0 then (ob (f_X8_next N x1) fun x2 => (ob (f_X8_in N x2.1 (97 : Int32) (122 : Int32)) fun x3 => (if x3 = 0 then (some x2.2) else (k0 x2.2)))) else (some x1)))
def f_X8_deckPart_0 (N : Nat)  : Nat → Ob → Option (Ob) := zlp (fun _ => none) (F_X8_deckPart_0 N)
theorem m_X8_deckPart_0 {K : Kt} {g : Gp} {a0 : Nat} {r0 : Nat → Nat} {N : Nat} {res : Ob} (hg : Ok g) (C : Cx K g cX8_deckPart RX8 1 (zrm 4 82)) (X : Rx K (exR none (wX8 g a0 r0 res)) 0 0 none) : ∀ (n : Nat) (s0 : Ob), f_X8_deckPart_0 N n s0 = some res → Zs K 0 0 (wX8 g a0 r0 s0) [(0, .ref a0)] 0 [] := by
  intro n
  induction n with
  | zero => intro s0 h; exact nomatch (show (none : Option (Ob)) = some res from h)
  | succ n hk0 =>
    intro s0 h
    replace h : F_X8_deckPart_0 N (f_X8_deckPart_0 N n) s0 = some res := h
    unfold F_X8_deckPart_0 at h
    refine z_aload_n (pc := 0) (x := a0) C dX8_deckPart_0 (i := 0) rfl rfl ?_
    replace h := ob_e h
    obtain ⟨x1, hx1, h⟩ := h
    refine z_callV (pc := 1) (As := []) (rest := []) (wr := ([] : va_W)) C dX8_deckPart_1 ml_RX8_139 wv_X8_cardPart (m_X8_cardPart (a0 := a0) (r0 := r0) hg hx1) [0, 1, 2, 3, 4, 5, 6, 7, 8, 9, 10, 11, 12, 13, 14] [] rfl rfl ⟨by decide, by decide⟩ (Nat.le_of_ble_eq_true rfl) ⟨by decide, by decide⟩ rfl rfl rfl rfl rfl rfl rfl (by decide) (ex_k C (cs' := 0) (ss' := 0) (wF := (wX8 g a0 r0 x1)) [0, 1, 2, 3, 4, 5, 6, 7, 8, 9, 10, 11, 12, 13, 14] rfl rfl ?_)
    refine z_aload_n (pc := 4) (x := a0) C dX8_deckPart_4 (i := 0) rfl rfl ?_
    refine z_get (pc := 5) (v := .int (x1.1 12)) C 0 dX8_deckPart_5 fl_RX8_96 rfl rfl ?_
    refine z_if_ne (pc := 8) C dX8_deckPart_8 (tgt := 25) (by decide) (fun hc => ?_) (fun hc => ?_)
    · replace h := (ite_e h).2 hc
      exact z_vret C X dX8_deckPart_25 (by rw [← Option.some.inj h]; exact ⟨rfl, rfl⟩) (by decide) (by decide)
    · replace h := (ite_e h).1 hc
      refine z_aload_n (pc := 11) (x := a0) C dX8_deckPart_11 (i := 0) rfl rfl ?_
      replace h := ob_e h
      obtain ⟨x2, hx2, h⟩ := h
      refine z_callV (pc := 12) (As := []) (rest := []) (wr := ([] : va_W)) C dX8_deckPart_12 ml_RX8_102 wv_X8_next (m_X8_next (a0 := a0) (r0 := r0) hg hx2) [0, 1, 2, 3, 4, 5, 6, 7, 8, 9, 10, 11, 12, 13, 14] [] rfl rfl ⟨by decide, by decide⟩ (Nat.le_of_ble_eq_true rfl) ⟨by decide, by decide⟩ rfl rfl rfl rfl rfl rfl rfl (by decide) (ex_k C (cs' := 0) (ss' := 0) (wF := (wX8 g a0 r0 x2.2)) [0, 1, 2, 3, 4, 5, 6, 7, 8, 9, 10, 11, 12, 13, 14] rfl rfl ?_)
      refine z_bipush (pc := 15) C dX8_deckPart_15 bp_97 ?_
      refine z_bipush (pc := 17) C dX8_deckPart_17 bp_122 ?_
      replace h := ob_e h
      obtain ⟨x3, hx3, h⟩ := h
      refine z_callS (pc := 19) (As := [.int x2.1, .int (97 : Int32), .int (122 : Int32)]) (rest := []) (wr := (wX8 g a0 r0 x2.2)) C dX8_deckPart_19 ml_RX8_62 wt_X8_in (m_X8_in hg hx3) [] [0, 1, 2, 3, 4, 5, 6, 7, 8, 9, 10, 11, 12, 13, 14] rfl rfl ⟨by decide, by decide⟩ (Nat.le_of_ble_eq_true rfl) ⟨by decide, by decide⟩ rfl rfl rfl rfl (by decide) (ex_k C (cs' := 0) (ss' := 0) (wF := (wX8 g a0 r0 x2.2)) [0, 1, 2, 3, 4, 5, 6, 7, 8, 9, 10, 11, 12, 13, 14] rfl rfl ?_)
      refine z_if_ne (pc := 22) C dX8_deckPart_22 (tgt := 0) (by decide) (fun hc => ?_) (fun hc => ?_)
      · replace h := (ite_e h).2 hc
        exact hk0 x2.2 h
      · replace h := (ite_e h).1 hc
        exact z_vret C X dX8_deckPart_25 (by rw [← Option.some.inj h]; exact ⟨rfl, rfl⟩) (by decide) (by decide)
def f_X8_deckPart (N : Nat) (s0 : Ob) : Option (Ob) := (f_X8_deckPart_0 N N s0)
theorem m_X8_deckPart {g : Gp} {a0 : Nat} {r0 : Nat → Nat} {N : Nat} {s0 : Ob} {res : Ob} (hg : Ok g) (h : f_X8_deckPart N s0 = some res) : Ct g yX8_deckPart cX8_deckPart 1 none (zrm 4 82) [.ref a0] (wX8 g a0 r0 s0) (exR none (wX8 g a0 r0 res)) := by
  refine ct_of rfl hg (by show _ ≤ _; exact Nat.le_of_ble_eq_true rfl) (fun K C X => ?_)
  show Zs K 0 0 (wX8 g a0 r0 s0) [(0, .ref a0)] 0 []
  unfold f_X8_deckPart at h
  exact m_X8_deckPart_0 (a0 := a0) (r0 := r0) hg C X N s0 h
def f_X8_wordAt (N : Nat) (p0 : Int32) (p1 : Int32) : Option (Int32) := (if p0 = 0 then (some ((18 : Int32) + p1)) else (some (((22 : Int32) + p1) - (1 : Int32))))
theorem m_X8_wordAt {g : Gp}  {N : Nat} {p0 : Int32} {p1 : Int32} {res : Int32} (hg : Ok g) (h : f_X8_wordAt N p0 p1 = some res) : Ct g yX8_wordAt cX8_wordAt 2 (some .int) (zrm 0 0) [.int p0, .int p1] ([] : va_W) (exR (some (.int res)) ([] : va_W)) := by
  refine ct_of rfl hg (by show _ ≤ _; exact Nat.le_of_ble_eq_true rfl) (fun K C X => ?_)
  show Zs K 0 0 ([] : va_W) [(0, .int p0), (1, .int p1)] 0 []
  unfold f_X8_wordAt at h
  refine z_iload_n (pc := 0) (x := p0) C dX8_wordAt_0 (i := 0) rfl rfl ?_
  refine z_if_ne (pc := 1) C dX8_wordAt_1 (tgt := 11) (by decide) (fun hc => ?_) (fun hc => ?_)
  · replace h := (ite_e h).2 hc
    refine z_bipush (pc := 11) C dX8_wordAt_11 bp_22 ?_
    refine z_iload_n (pc := 13) (x := p1) C dX8_wordAt_13 (i := 1) rfl rfl ?_
    refine z_iadd (pc := 14) C dX8_wordAt_14 ?_
    refine z_iconst (pc := 15) C dX8_wordAt_15 ic_1 ?_
    refine z_isub (pc := 16) C dX8_wordAt_16 ?_
    exact z_iret C X dX8_wordAt_17 (by rw [← Option.some.inj h]; exact ⟨rfl, rfl⟩) (by decide) (by decide)
  · replace h := (ite_e h).1 hc
    refine z_bipush (pc := 4) C dX8_wordAt_4 bp_18 ?_
    refine z_iload_n (pc := 6) (x := p1) C dX8_wordAt_6 (i := 1) rfl rfl ?_
    refine z_iadd (pc := 7) C dX8_wordAt_7 ?_
    refine z_goto (pc := 8) C dX8_wordAt_8 (tgt := 17) (by decide) ?_
    exact z_iret C X dX8_wordAt_17 (by rw [← Option.some.inj h]; exact ⟨rfl, rfl⟩) (by decide) (by decide)
def f_X8_wordPart_45 (N : Nat) (p1 : Int32)  (v2 : Int32) (t1 : Int32) (s0 : Ob) : Option (Ob) := (ob (f_X8_wordAt N t1 v2) fun x2 => (ob (f_X8_number N s0 (0 : Int32) (99 : Int32)) fun x3 => (chk (inb x2 358) (some (sa x3.2 1 (upd (x3.2.2.2.1 1) (x2).toNatClampNeg x3.1))))))
theorem m_X8_wordPart_45 {K : Kt} {g : Gp} {a0 : Nat} {r0 : Nat → Nat} {N : Nat} {p1 : Int32} {res : Ob} (hg : Ok g) (C : Cx K g cX8_wordPart RX8 3 (zrm 3 66)) (X : Rx K (exR none (wX8 g a0 r0 res)) 0 0 none) (v2 : Int32) (t1 : Int32) (s0 : Ob) (h : f_X8_wordPart_45 N p1 v2 t1 s0 = some res) : Zs K 0 0 (wX8 g a0 r0 s0) [(0, .ref a0), (2, .int v2)] 45 [.int t1, .ref (r0 1)] := by
  unfold f_X8_wordPart_45 at h
  refine z_iload_n (pc := 45) (x := v2) C dX8_wordPart_45 (i := 2) rfl rfl ?_
  replace h := ob_e h
  obtain ⟨x2, hx2, h⟩ := h
  refine z_callS (pc := 46) (As := [.int t1, .int v2]) (rest := [.ref (r0 1)]) (wr := (wX8 g a0 r0 s0)) C dX8_wordPart_46 ml_RX8_142 wt_X8_wordAt (m_X8_wordAt hg hx2) [] [0, 1, 2, 3, 4, 5, 6, 7, 8, 9, 10, 11, 12, 13, 14] rfl rfl ⟨by decide, by decide⟩ (Nat.le_of_ble_eq_true rfl) ⟨by decide, by decide⟩ rfl rfl rfl rfl (by decide) (ex_k C (cs' := 0) (ss' := 0) (wF := (wX8 g a0 r0 s0)) [0, 1, 2, 3, 4, 5, 6, 7, 8, 9, 10, 11, 12, 13, 14] rfl rfl ?_)
  refine z_aload_n (pc := 49) (x := a0) C dX8_wordPart_49 (i := 0) rfl rfl ?_
  refine z_iconst (pc := 50) C dX8_wordPart_50 ic_0 ?_
  refine z_bipush (pc := 51) C dX8_wordPart_51 bp_99 ?_
  replace h := ob_e h
  obtain ⟨x3, hx3, h⟩ := h
  refine z_callV (pc := 53) (As := [.int (0 : Int32), .int (99 : Int32)]) (rest := [.int x2, .ref (r0 1)]) (wr := ([] : va_W)) C dX8_wordPart_53 ml_RX8_130 wv_X8_number (m_X8_number (a0 := a0) (r0 := r0) hg hx3) [0, 1, 2, 3, 4, 5, 6, 7, 8, 9, 10, 11, 12, 13, 14] [] rfl rfl ⟨by decide, by decide⟩ (Nat.le_of_ble_eq_true rfl) ⟨by decide, by decide⟩ rfl rfl rfl rfl rfl rfl rfl (by decide) (ex_k C (cs' := 0) (ss' := 0) (wF := (wX8 g a0 r0 x3.2)) [0, 1, 2, 3, 4, 5, 6, 7, 8, 9, 10, 11, 12, 13, 14] rfl rfl ?_)
  replace h := chk_e h
  obtain ⟨hb4, h⟩ := h
  refine z_iast (pc := 56) C 2 dX8_wordPart_56 rfl hb4 (ws' := (wX8 g a0 r0 (sa x3.2 1 (upd (x3.2.2.2.1 1) (x2).toNatClampNeg x3.1)))) rfl ?_
  exact z_vret C X dX8_wordPart_57 (by rw [← Option.some.inj h]; exact ⟨rfl, rfl⟩) (by decide) (by decide)
def f_X8_wordPart_31 (N : Nat) (p1 : Int32)  (t0 : Int32) (s0 : Ob) : Option (Ob) := (if p1 = 0 then (f_X8_wordPart_45 N p1 t0 (1 : Int32) s0) else (f_X8_wordPart_45 N p1 t0 (0 : Int32) s0))
theorem m_X8_wordPart_31 {K : Kt} {g : Gp} {a0 : Nat} {r0 : Nat → Nat} {N : Nat} {p1 : Int32} {res : Ob} (hg : Ok g) (C : Cx K g cX8_wordPart RX8 3 (zrm 3 66)) (X : Rx K (exR none (wX8 g a0 r0 res)) 0 0 none) (t0 : Int32) (s0 : Ob) (h : f_X8_wordPart_31 N p1 t0 s0 = some res) : Zs K 0 0 (wX8 g a0 r0 s0) [(0, .ref a0), (1, .int p1)] 31 [.int t0] := by
  unfold f_X8_wordPart_31 at h
  refine z_istore_n (pc := 31) C dX8_wordPart_31 (i := 2) rfl (by decide) (lv' := [(2, .int t0), (0, .ref a0), (1, .int p1)]) rfl ?_
  refine z_aload_n (pc := 32) (x := a0) C dX8_wordPart_32 (i := 0) rfl rfl ?_
  refine z_get (pc := 33) (v := .ref (r0 1)) C 0 dX8_wordPart_33 fl_RX8_13 rfl rfl ?_
  refine z_iload_n (pc := 36) (x := p1) C dX8_wordPart_36 (i := 1) rfl rfl ?_
  refine z_if_eq (pc := 37) C dX8_wordPart_37 (tgt := 44) (by decide) (fun hc => ?_) (fun hc => ?_)
  · replace h := (ite_e h).1 hc
    refine z_iconst (pc := 44) C dX8_wordPart_44 ic_1 ?_
    refine z_lv (lv' := [(0, .ref a0), (2, .int t0)]) [1, 0] rfl ?_
    exact m_X8_wordPart_45 (a0 := a0) (r0 := r0) hg C X t0 (1 : Int32) s0 h
  · replace h := (ite_e h).2 hc
    refine z_iconst (pc := 40) C dX8_wordPart_40 ic_0 ?_
    refine z_goto (pc := 41) C dX8_wordPart_41 (tgt := 45) (by decide) ?_
    refine z_lv (lv' := [(0, .ref a0), (2, .int t0)]) [1, 0] rfl ?_
    exact m_X8_wordPart_45 (a0 := a0) (r0 := r0) hg C X t0 (0 : Int32) s0 h
def f_X8_wordPart (N : Nat) (s0 : Ob) (p1 : Int32) : Option (Ob) := (if p1 = 0 then (ob (f_X8_number N s0 (1 : Int32) ((s0.2.2.1 1) 1)) fun x1 => (f_X8_wordPart_31 N p1 x1.1 x1.2)) else (ob (f_X8_number N s0 (0 : Int32) (((s0.2.2.1 1) 0) - (1 : Int32))) fun x5 => (f_X8_wordPart_31 N p1 x5.1 x5.2)))
theorem m_X8_wordPart {g : Gp} {a0 : Nat} {r0 : Nat → Nat} {N : Nat} {s0 : Ob} {p1 : Int32} {res : Ob} (hg : Ok g) (h : f_X8_wordPart N s0 p1 = some res) : Ct g yX8_wordPart cX8_wordPart 3 none (zrm 3 66) [.ref a0, .int p1] (wX8 g a0 r0 s0) (exR none (wX8 g a0 r0 res)) := by
  refine ct_of rfl hg (by show _ ≤ _; exact Nat.le_of_ble_eq_true rfl) (fun K C X => ?_)
  show Zs K 0 0 (wX8 g a0 r0 s0) [(0, .ref a0), (1, .int p1)] 0 []
  unfold f_X8_wordPart at h
  refine z_iload_n (pc := 0) (x := p1) C dX8_wordPart_0 (i := 1) rfl rfl ?_
  refine z_if_eq (pc := 1) C dX8_wordPart_1 (tgt := 20) (by decide) (fun hc => ?_) (fun hc => ?_)
  · replace h := (ite_e h).1 hc
    refine z_aload_n (pc := 20) (x := a0) C dX8_wordPart_20 (i := 0) rfl rfl ?_
    refine z_iconst (pc := 21) C dX8_wordPart_21 ic_1 ?_
    refine z_aload_n (pc := 22) (x := a0) C dX8_wordPart_22 (i := 0) rfl rfl ?_
    refine z_get (pc := 23) (v := .ref (r0 1)) C 0 dX8_wordPart_23 fl_RX8_13 rfl rfl ?_
    refine z_iconst (pc := 26) C dX8_wordPart_26 ic_1 ?_
    refine z_iald (pc := 27) C 2 dX8_wordPart_27 rfl (by decide) ?_
    refine z_top1 (v := ((s0.2.2.1 1) 1)) rfl ?_
    replace h := ob_e h
    obtain ⟨x1, hx1, h⟩ := h
    refine z_callV (pc := 28) (As := [.int (1 : Int32), .int ((s0.2.2.1 1) 1)]) (rest := []) (wr := ([] : va_W)) C dX8_wordPart_28 ml_RX8_130 wv_X8_number (m_X8_number (a0 := a0) (r0 := r0) hg hx1) [0, 1, 2, 3, 4, 5, 6, 7, 8, 9, 10, 11, 12, 13, 14] [] rfl rfl ⟨by decide, by decide⟩ (Nat.le_of_ble_eq_true rfl) ⟨by decide, by decide⟩ rfl rfl rfl rfl rfl rfl rfl (by decide) (ex_k C (cs' := 0) (ss' := 0) (wF := (wX8 g a0 r0 x1.2)) [0, 1, 2, 3, 4, 5, 6, 7, 8, 9, 10, 11, 12, 13, 14] rfl rfl ?_)
    exact m_X8_wordPart_31 (a0 := a0) (r0 := r0) hg C X x1.1 x1.2 h
  · replace h := (ite_e h).2 hc
    refine z_aload_n (pc := 4) (x := a0) C dX8_wordPart_4 (i := 0) rfl rfl ?_
    refine z_iconst (pc := 5) C dX8_wordPart_5 ic_0 ?_
    refine z_aload_n (pc := 6) (x := a0) C dX8_wordPart_6 (i := 0) rfl rfl ?_
    refine z_get (pc := 7) (v := .ref (r0 1)) C 0 dX8_wordPart_7 fl_RX8_13 rfl rfl ?_
    refine z_iconst (pc := 10) C dX8_wordPart_10 ic_0 ?_
    refine z_iald (pc := 11) C 2 dX8_wordPart_11 rfl (by decide) ?_
    refine z_top1 (v := ((s0.2.2.1 1) 0)) rfl ?_
    refine z_iconst (pc := 12) C dX8_wordPart_12 ic_1 ?_
    refine z_isub (pc := 13) C dX8_wordPart_13 ?_
    replace h := ob_e h
    obtain ⟨x5, hx5, h⟩ := h
    refine z_callV (pc := 14) (As := [.int (0 : Int32), .int (((s0.2.2.1 1) 0) - (1 : Int32))]) (rest := []) (wr := ([] : va_W)) C dX8_wordPart_14 ml_RX8_130 wv_X8_number (m_X8_number (a0 := a0) (r0 := r0) hg hx5) [0, 1, 2, 3, 4, 5, 6, 7, 8, 9, 10, 11, 12, 13, 14] [] rfl rfl ⟨by decide, by decide⟩ (Nat.le_of_ble_eq_true rfl) ⟨by decide, by decide⟩ rfl rfl rfl rfl rfl rfl rfl (by decide) (ex_k C (cs' := 0) (ss' := 0) (wF := (wX8 g a0 r0 x5.2)) [0, 1, 2, 3, 4, 5, 6, 7, 8, 9, 10, 11, 12, 13, 14] rfl rfl ?_)
    refine z_goto (pc := 17) C dX8_wordPart_17 (tgt := 31) (by decide) ?_
    exact m_X8_wordPart_31 (a0 := a0) (r0 := r0) hg C X x5.1 x5.2 h
def f_X8_isMore (N : Nat) (s0 : Ob) : Option (Int32 × Ob) := (if (s0.1 12) = 0 then (ob (f_X8_next N s0) fun x1 => (if 0 ≤ x1.1 then (ob (f_X8_here N x1.2) fun x2 => (if x2 = (59 : Int32) then (znm (si x1.2 10 ((x1.2.1 10) + (1 : Int32))) fun y3 => (some ((1 : Int32), (si y3 14 ((x1.2.1 14) + (1 : Int32)))))) else (ob (f_X8_fails N x1.2 (1 : Int32)) fun x4 => (some ((0 : Int32), x4))))) else (some ((0 : Int32), x1.2)))) else (some ((0 : Int32), s0)))
theorem m_X8_isMore {g : Gp} {a0 : Nat} {r0 : Nat → Nat} {N : Nat} {s0 : Ob} {res : Int32 × Ob} (hg : Ok g) (h : f_X8_isMore N s0 = some res) : Ct g yX8_isMore cX8_isMore 1 (some .boolean) (zrm 2 40) [.ref a0] (wX8 g a0 r0 s0) (exR (some (.int res.1)) (wX8 g a0 r0 res.2)) := by
  refine ct_of rfl hg (by show _ ≤ _; exact Nat.le_of_ble_eq_true rfl) (fun K C X => ?_)
  show Zs K 0 0 (wX8 g a0 r0 s0) [(0, .ref a0)] 0 []
  unfold f_X8_isMore at h
  refine z_aload_n (pc := 0) (x := a0) C dX8_isMore_0 (i := 0) rfl rfl ?_
  refine z_get (pc := 1) (v := .int (s0.1 12)) C 0 dX8_isMore_1 fl_RX8_96 rfl rfl ?_
  refine z_if_ne (pc := 4) C dX8_isMore_4 (tgt := 14) (by decide) (fun hc => ?_) (fun hc => ?_)
  · replace h := (ite_e h).2 hc
    refine z_iconst (pc := 14) C dX8_isMore_14 ic_0 ?_
    exact z_zret C X dX8_isMore_15 rfl (by rw [← Option.some.inj h]; exact ⟨rfl, rfl⟩) (by decide) (by decide)
  · replace h := (ite_e h).1 hc
    refine z_aload_n (pc := 7) (x := a0) C dX8_isMore_7 (i := 0) rfl rfl ?_
    replace h := ob_e h
    obtain ⟨x1, hx1, h⟩ := h
    refine z_callV (pc := 8) (As := []) (rest := []) (wr := ([] : va_W)) C dX8_isMore_8 ml_RX8_102 wv_X8_next (m_X8_next (a0 := a0) (r0 := r0) hg hx1) [0, 1, 2, 3, 4, 5, 6, 7, 8, 9, 10, 11, 12, 13, 14] [] rfl rfl ⟨by decide, by decide⟩ (Nat.le_of_ble_eq_true rfl) ⟨by decide, by decide⟩ rfl rfl rfl rfl rfl rfl rfl (by decide) (ex_k C (cs' := 0) (ss' := 0) (wF := (wX8 g a0 r0 x1.2)) [0, 1, 2, 3, 4, 5, 6, 7, 8, 9, 10, 11, 12, 13, 14] rfl rfl ?_)
    refine z_if_ge (pc := 11) C dX8_isMore_11 (tgt := 16) (by decide) (fun hc => ?_) (fun hc => ?_)
    · replace h := (ite_e h).1 hc
      refine z_aload_n (pc := 16) (x := a0) C dX8_isMore_16 (i := 0) rfl rfl ?_
      replace h := ob_e h
      obtain ⟨x2, hx2, h⟩ := h
      refine z_callV (pc := 17) (As := []) (rest := []) (wr := ([] : va_W)) C dX8_isMore_17 ml_RX8_89 wv_X8_here (m_X8_here (a0 := a0) (r0 := r0) hg hx2) [0, 1, 2, 3, 4, 5, 6, 7, 8, 9, 10, 11, 12, 13, 14] [] rfl rfl ⟨by decide, by decide⟩ (Nat.le_of_ble_eq_true rfl) ⟨by decide, by decide⟩ rfl rfl rfl rfl rfl rfl rfl (by decide) (ex_k C (cs' := 0) (ss' := 0) (wF := (wX8 g a0 r0 x1.2)) [0, 1, 2, 3, 4, 5, 6, 7, 8, 9, 10, 11, 12, 13, 14] rfl rfl ?_)
      refine z_bipush (pc := 20) C dX8_isMore_20 bp_59 ?_
      refine z_icmp_eq (pc := 22) C dX8_isMore_22 (tgt := 32) (by decide) (fun hc => ?_) (fun hc => ?_)
      · replace h := (ite_e h).1 hc
        refine z_aload_n (pc := 32) (x := a0) C dX8_isMore_32 (i := 0) rfl rfl ?_
        refine z_dup (pc := 33) C dX8_isMore_33 rfl ?_
        refine z_get (pc := 34) (v := .int (x1.2.1 10)) C 0 dX8_isMore_34 fl_RX8_86 rfl rfl ?_
        refine z_iconst (pc := 37) C dX8_isMore_37 ic_1 ?_
        refine z_iadd (pc := 38) C dX8_isMore_38 ?_
        refine z_put (pc := 39) C 0 dX8_isMore_39 fp_RX8_86 rfl rfl rfl (zlt_b rfl) (ws' := (wX8 g a0 r0 (si x1.2 10 ((x1.2.1 10) + (1 : Int32))))) rfl ?_
        refine z_aload_n (pc := 42) (x := a0) C dX8_isMore_42 (i := 0) rfl rfl ?_
        refine z_dup (pc := 43) C dX8_isMore_43 rfl ?_
        refine z_get (pc := 44) (v := .int (x1.2.1 14)) C 0 dX8_isMore_44 fl_RX8_127 rfl rfl ?_
        refine z_iconst (pc := 47) C dX8_isMore_47 ic_1 ?_
        refine z_iadd (pc := 48) C dX8_isMore_48 ?_
        replace h := znm_e h
        obtain ⟨y3, hy3, h⟩ := h
        refine z_wsE (ws' := (wX8 g a0 r0 y3)) (by rw [hy3]) ?_
        refine z_put (pc := 49) C 0 dX8_isMore_49 fp_RX8_127 rfl rfl rfl (zlt_b rfl) (ws' := (wX8 g a0 r0 (si y3 14 ((x1.2.1 14) + (1 : Int32))))) rfl ?_
        refine z_iconst (pc := 52) C dX8_isMore_52 ic_1 ?_
        exact z_zret C X dX8_isMore_53 rfl (by rw [← Option.some.inj h]; exact ⟨rfl, rfl⟩) (by decide) (by decide)
      · replace h := (ite_e h).2 hc
        refine z_aload_n (pc := 25) (x := a0) C dX8_isMore_25 (i := 0) rfl rfl ?_
        refine z_iconst (pc := 26) C dX8_isMore_26 ic_1 ?_
        replace h := ob_e h
        obtain ⟨x4, hx4, h⟩ := h
        refine z_callV (pc := 27) (As := [.int (1 : Int32)]) (rest := []) (wr := ([] : va_W)) C dX8_isMore_27 ml_RX8_120 wv_X8_fails (m_X8_fails (a0 := a0) (r0 := r0) hg hx4) [0, 1, 2, 3, 4, 5, 6, 7, 8, 9, 10, 11, 12, 13, 14] [] rfl rfl ⟨by decide, by decide⟩ (Nat.le_of_ble_eq_true rfl) ⟨by decide, by decide⟩ rfl rfl rfl rfl rfl rfl rfl (by decide) (ex_k C (cs' := 0) (ss' := 0) (wF := (wX8 g a0 r0 x4)) [0, 1, 2, 3, 4, 5, 6, 7, 8, 9, 10, 11, 12, 13, 14] rfl rfl ?_)
        refine z_iconst (pc := 30) C dX8_isMore_30 ic_0 ?_
        exact z_zret C X dX8_isMore_31 rfl (by rw [← Option.some.inj h]; exact ⟨rfl, rfl⟩) (by decide) (by decide)
    · replace h := (ite_e h).2 hc
      refine z_iconst (pc := 14) C dX8_isMore_14 ic_0 ?_
      exact z_zret C X dX8_isMore_15 rfl (by rw [← Option.some.inj h]; exact ⟨rfl, rfl⟩) (by decide) (by decide)
