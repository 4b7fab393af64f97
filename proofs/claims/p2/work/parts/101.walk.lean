/-! OWN, written by wip/whole/tools/mkall.py: what each method does to its cells, and the walk that shows it -/
def f_X1_discardCard (N : Nat) (s0 : Ob) (s1 : Ob) (p1 : Int32) : Option (Ob) := (ob (f_X1_takeCard N s0 p1) fun x1 => (ob (f_X1_kindOf N x1.2 s1 x1.1) fun x2 => (ob (f_X1_putOnHeap N x1.2 s1 x2) fun x3 => (ob (f_X1_returnToken N x3 s1) fun x4 => (ob (f_X7_codeOf N x2) fun x5 => (ob (f_X1_writeLog N (sa x4 7 (upd (x4.2.2.1 7) 2 (((x4.2.2.1 7) 2) + (1 : Int32)))) (1 : Int32) x5 (-1 : Int32)) fun x6 => (ob (f_X1_drawCard N x6 s1 (x6.1 4)) fun x7 => (ob (f_X1_endTurn N x7 s1) fun x8 => (some x8)))))))))
theorem m_X1_discardCard {g : Gp} {a0 : Nat} {r0 : Nat → Nat} {q0_0 : Nat} {r1 : Nat → Nat} {N : Nat} {s0 : Ob} {s1 : Ob} {p1 : Int32} {res : Ob} (hg : Ok g) (h : f_X1_discardCard N s0 s1 p1 = some res) : Ct g yX1_discardCard cX1_discardCard 3 none (zrm 4 89) [.ref a0, .int p1] (wX1 g a0 r0 q0_0 s0 ++ wX5 g q0_0 r1 s1) (exR none (wX1 g a0 r0 q0_0 res ++ wX5 g q0_0 r1 s1)) := by
  refine ct_of rfl hg (by show _ ≤ _; exact Nat.le_of_ble_eq_true rfl) (fun K C X => ?_)
  show Zs K 0 0 (wX1 g a0 r0 q0_0 s0 ++ wX5 g q0_0 r1 s1) [(0, .ref a0), (1, .int p1)] 0 []
  unfold f_X1_discardCard at h
  refine z_aload_n (pc := 0) (x := a0) C dX1_discardCard_0 (i := 0) rfl rfl ?_
  refine z_aload_n (pc := 1) (x := a0) C dX1_discardCard_1 (i := 0) rfl rfl ?_
  refine z_iload_n (pc := 2) (x := p1) C dX1_discardCard_2 (i := 1) rfl rfl ?_
  replace h := ob_e h
  obtain ⟨x1, hx1, h⟩ := h
  refine z_callV (pc := 3) (As := [.int p1]) (rest := [.ref a0]) (wr := (wX5 g q0_0 r1 s1)) C dX1_discardCard_3 ml_RX1_159 wv_X1_takeCard (m_X1_takeCard (a0 := a0) (r0 := r0) (q0_0 := q0_0) hg hx1) [0, 1, 2, 3, 4, 5, 6, 7, 8] [9, 10, 11, 12] rfl rfl ⟨by decide, by decide⟩ (Nat.le_of_ble_eq_true rfl) ⟨by decide, by decide⟩ rfl rfl rfl rfl rfl rfl rfl (by decide) (ex_k C (cs' := 0) (ss' := 0) (wF := (wX1 g a0 r0 q0_0 x1.2 ++ wX5 g q0_0 r1 s1)) [4, 5, 6, 7, 8, 9, 10, 11, 12, 0, 1, 2, 3] rfl rfl ?_)
  replace h := ob_e h
  obtain ⟨x2, hx2, h⟩ := h
  refine z_callV (pc := 6) (As := [.int x1.1]) (rest := []) (wr := ([] : va_W)) C dX1_discardCard_6 ml_RX1_127 wv_X1_kindOf (m_X1_kindOf (a0 := a0) (r0 := r0) (q0_0 := q0_0) (r1 := r1) hg hx2) [0, 1, 2, 3, 4, 5, 6, 7, 8, 9, 10, 11, 12] [] rfl rfl ⟨by decide, by decide⟩ (Nat.le_of_ble_eq_true rfl) ⟨by decide, by decide⟩ rfl rfl rfl rfl rfl rfl rfl (by decide) (ex_k C (cs' := 0) (ss' := 0) (wF := (wX1 g a0 r0 q0_0 x1.2 ++ wX5 g q0_0 r1 s1)) [0, 1, 2, 3, 4, 5, 6, 7, 8, 9, 10, 11, 12] rfl rfl ?_)
  refine z_istore_n (pc := 9) C dX1_discardCard_9 (i := 2) rfl (by decide) (lv' := [(2, .int x2), (0, .ref a0), (1, .int p1)]) rfl ?_
  refine z_aload_n (pc := 10) (x := a0) C dX1_discardCard_10 (i := 0) rfl rfl ?_
  refine z_iload_n (pc := 11) (x := x2) C dX1_discardCard_11 (i := 2) rfl rfl ?_
  replace h := ob_e h
  obtain ⟨x3, hx3, h⟩ := h
  refine z_callV (pc := 12) (As := [.int x2]) (rest := []) (wr := ([] : va_W)) C dX1_discardCard_12 ml_RX1_175 wv_X1_putOnHeap (m_X1_putOnHeap (a0 := a0) (r0 := r0) (q0_0 := q0_0) (r1 := r1) hg hx3) [0, 1, 2, 3, 4, 5, 6, 7, 8, 9, 10, 11, 12] [] rfl rfl ⟨by decide, by decide⟩ (Nat.le_of_ble_eq_true rfl) ⟨by decide, by decide⟩ rfl rfl rfl rfl rfl rfl rfl (by decide) (ex_k C (cs' := 0) (ss' := 0) (wF := (wX1 g a0 r0 q0_0 x3 ++ wX5 g q0_0 r1 s1)) [0, 1, 2, 3, 4, 5, 6, 7, 8, 9, 10, 11, 12] rfl rfl ?_)
  refine z_aload_n (pc := 15) (x := a0) C dX1_discardCard_15 (i := 0) rfl rfl ?_
  replace h := ob_e h
  obtain ⟨x4, hx4, h⟩ := h
  refine z_callV (pc := 16) (As := []) (rest := []) (wr := ([] : va_W)) C dX1_discardCard_16 ml_RX1_165 wv_X1_returnToken (m_X1_returnToken (a0 := a0) (r0 := r0) (q0_0 := q0_0) (r1 := r1) hg hx4) [0, 1, 2, 3, 4, 5, 6, 7, 8, 9, 10, 11, 12] [] rfl rfl ⟨by decide, by decide⟩ (Nat.le_of_ble_eq_true rfl) ⟨by decide, by decide⟩ rfl rfl rfl rfl rfl rfl rfl (by decide) (ex_k C (cs' := 0) (ss' := 0) (wF := (wX1 g a0 r0 q0_0 x4 ++ wX5 g q0_0 r1 s1)) [0, 1, 2, 3, 4, 5, 6, 7, 8, 9, 10, 11, 12] rfl rfl ?_)
  refine z_aload_n (pc := 19) (x := a0) C dX1_discardCard_19 (i := 0) rfl rfl ?_
  refine z_get (pc := 20) (v := .ref (r0 7)) C 0 dX1_discardCard_20 fl_RX1_11 rfl rfl ?_
  refine z_iconst (pc := 23) C dX1_discardCard_23 ic_2 ?_
  refine z_dup2 (pc := 24) C dX1_discardCard_24 rfl rfl ?_
  refine z_iald (pc := 25) C 1 dX1_discardCard_25 rfl (by decide) ?_
  refine z_top1 (v := ((x4.2.2.1 7) 2)) rfl ?_
  refine z_iconst (pc := 26) C dX1_discardCard_26 ic_1 ?_
  refine z_iadd (pc := 27) C dX1_discardCard_27 ?_
  refine z_iast (pc := 28) C 1 dX1_discardCard_28 rfl (by decide) (ws' := (wX1 g a0 r0 q0_0 (sa x4 7 (upd (x4.2.2.1 7) 2 (((x4.2.2.1 7) 2) + (1 : Int32)))) ++ wX5 g q0_0 r1 s1)) rfl ?_
  refine z_aload_n (pc := 29) (x := a0) C dX1_discardCard_29 (i := 0) rfl rfl ?_
  refine z_iconst (pc := 30) C dX1_discardCard_30 ic_1 ?_
  refine z_iload_n (pc := 31) (x := x2) C dX1_discardCard_31 (i := 2) rfl rfl ?_
  replace h := ob_e h
  obtain ⟨x5, hx5, h⟩ := h
  refine z_callSN (pc := 32) (As := [.int x2]) (rest := [.int (1 : Int32), .ref a0]) (wr := (wX1 g a0 r0 q0_0 (sa x4 7 (upd (x4.2.2.1 7) 2 (((x4.2.2.1 7) 2) + (1 : Int32)))) ++ wX5 g q0_0 r1 s1)) C dX1_discardCard_32 mn_RX1_168 wt_X7_codeOf (m_X7_codeOf hg hx5) [] [0, 1, 2, 3, 4, 5, 6, 7, 8, 9, 10, 11, 12] rfl rfl ⟨by decide, by decide⟩ (Nat.le_of_ble_eq_true rfl) ⟨by decide, by decide⟩ rfl rfl rfl rfl (by decide) (ex_k C (cs' := 0) (ss' := 0) (wF := (wX1 g a0 r0 q0_0 (sa x4 7 (upd (x4.2.2.1 7) 2 (((x4.2.2.1 7) 2) + (1 : Int32)))) ++ wX5 g q0_0 r1 s1)) [0, 1, 2, 3, 4, 5, 6, 7, 8, 9, 10, 11, 12] rfl rfl ?_)
  refine z_iconst (pc := 35) C dX1_discardCard_35 ic_m1 ?_
  replace h := ob_e h
  obtain ⟨x6, hx6, h⟩ := h
  refine z_callV (pc := 36) (As := [.int (1 : Int32), .int x5, .int (-1 : Int32)]) (rest := []) (wr := (wX5 g q0_0 r1 s1)) C dX1_discardCard_36 ml_RX1_171 wv_X1_writeLog (m_X1_writeLog (a0 := a0) (r0 := r0) (q0_0 := q0_0) hg hx6) [0, 1, 2, 3, 4, 5, 6, 7, 8] [9, 10, 11, 12] rfl rfl ⟨by decide, by decide⟩ (Nat.le_of_ble_eq_true rfl) ⟨by decide, by decide⟩ rfl rfl rfl rfl rfl rfl rfl (by decide) (ex_k C (cs' := 0) (ss' := 0) (wF := (wX1 g a0 r0 q0_0 x6 ++ wX5 g q0_0 r1 s1)) [4, 5, 6, 7, 8, 9, 10, 11, 12, 0, 1, 2, 3] rfl rfl ?_)
  refine z_aload_n (pc := 39) (x := a0) C dX1_discardCard_39 (i := 0) rfl rfl ?_
  refine z_aload_n (pc := 40) (x := a0) C dX1_discardCard_40 (i := 0) rfl rfl ?_
  refine z_get (pc := 41) (v := .int (x6.1 4)) C 0 dX1_discardCard_41 fl_RX1_52 rfl rfl ?_
  replace h := ob_e h
  obtain ⟨x7, hx7, h⟩ := h
  refine z_callV (pc := 44) (As := [.int (x6.1 4)]) (rest := []) (wr := ([] : va_W)) C dX1_discardCard_44 ml_RX1_94 wv_X1_drawCard (m_X1_drawCard (a0 := a0) (r0 := r0) (q0_0 := q0_0) (r1 := r1) hg hx7) [0, 1, 2, 3, 4, 5, 6, 7, 8, 9, 10, 11, 12] [] rfl rfl ⟨by decide, by decide⟩ (Nat.le_of_ble_eq_true rfl) ⟨by decide, by decide⟩ rfl rfl rfl rfl rfl rfl rfl (by decide) (ex_k C (cs' := 0) (ss' := 0) (wF := (wX1 g a0 r0 q0_0 x7 ++ wX5 g q0_0 r1 s1)) [0, 1, 2, 3, 4, 5, 6, 7, 8, 9, 10, 11, 12] rfl rfl ?_)
  refine z_aload_n (pc := 47) (x := a0) C dX1_discardCard_47 (i := 0) rfl rfl ?_
  replace h := ob_e h
  obtain ⟨x8, hx8, h⟩ := h
  refine z_callV (pc := 48) (As := []) (rest := []) (wr := ([] : va_W)) C dX1_discardCard_48 ml_RX1_178 wv_X1_endTurn (m_X1_endTurn (a0 := a0) (r0 := r0) (q0_0 := q0_0) (r1 := r1) hg hx8) [0, 1, 2, 3, 4, 5, 6, 7, 8, 9, 10, 11, 12] [] rfl rfl ⟨by decide, by decide⟩ (Nat.le_of_ble_eq_true rfl) ⟨by decide, by decide⟩ rfl rfl rfl rfl rfl rfl rfl (by decide) (ex_k C (cs' := 0) (ss' := 0) (wF := (wX1 g a0 r0 q0_0 x8 ++ wX5 g q0_0 r1 s1)) [0, 1, 2, 3, 4, 5, 6, 7, 8, 9, 10, 11, 12] rfl rfl ?_)
  exact z_vret C X dX1_discardCard_51 (by rw [← Option.some.inj h]; exact ⟨rfl, rfl⟩) (by decide) (by decide)
def f_X7_kindsOfWord (N : Nat) (p0 : Int32) (p1 : Int32) : Option (Int32) := (if p0 = 0 then (some ((31 : Int32) <<< ((p1 * (5 : Int32)) &&& 31))) else (some ((33825 : Int32) <<< ((p1 - (1 : Int32)) &&& 31))))
theorem m_X7_kindsOfWord {g : Gp}  {N : Nat} {p0 : Int32} {p1 : Int32} {res : Int32} (hg : Ok g) (h : f_X7_kindsOfWord N p0 p1 = some res) : Ct g yX7_kindsOfWord cX7_kindsOfWord 2 (some .int) (zrm 0 0) [.int p0, .int p1] ([] : va_W) (exR (some (.int res)) ([] : va_W)) := by
  refine ct_of rfl hg (by show _ ≤ _; exact Nat.le_of_ble_eq_true rfl) (fun K C X => ?_)
  show Zs K 0 0 ([] : va_W) [(0, .int p0), (1, .int p1)] 0 []
  unfold f_X7_kindsOfWord at h
  refine z_iload_n (pc := 0) (x := p0) C dX7_kindsOfWord_0 (i := 0) rfl rfl ?_
  refine z_if_ne (pc := 1) C dX7_kindsOfWord_1 (tgt := 13) (by decide) (fun hc => ?_) (fun hc => ?_)
  · replace h := (ite_e h).2 hc
    refine z_ldcw (pc := 13) C dX7_kindsOfWord_13 ki_RX7_382 ?_
    refine z_iload_n (pc := 16) (x := p1) C dX7_kindsOfWord_16 (i := 1) rfl rfl ?_
    refine z_iconst (pc := 17) C dX7_kindsOfWord_17 ic_1 ?_
    refine z_isub (pc := 18) C dX7_kindsOfWord_18 ?_
    refine z_ishl (pc := 19) C dX7_kindsOfWord_19 ?_
    exact z_iret C X dX7_kindsOfWord_20 (by rw [← Option.some.inj h]; exact ⟨rfl, rfl⟩) (by decide) (by decide)
  · replace h := (ite_e h).1 hc
    refine z_bipush (pc := 4) C dX7_kindsOfWord_4 bp_31 ?_
    refine z_iload_n (pc := 6) (x := p1) C dX7_kindsOfWord_6 (i := 1) rfl rfl ?_
    refine z_iconst (pc := 7) C dX7_kindsOfWord_7 ic_5 ?_
    refine z_imul (pc := 8) C dX7_kindsOfWord_8 ?_
    refine z_ishl (pc := 9) C dX7_kindsOfWord_9 ?_
    refine z_goto (pc := 10) C dX7_kindsOfWord_10 (tgt := 20) (by decide) ?_
    exact z_iret C X dX7_kindsOfWord_20 (by rw [← Option.some.inj h]; exact ⟨rfl, rfl⟩) (by decide) (by decide)
def f_X7_isIn (N : Nat) (p0 : Int32) (p1 : Int32) : Option (Int32) := (if ((p1 >>> (p0 &&& 31)) &&& (1 : Int32)) = 0 then (some (0 : Int32)) else (some (1 : Int32)))
theorem m_X7_isIn {g : Gp}  {N : Nat} {p0 : Int32} {p1 : Int32} {res : Int32} (hg : Ok g) (h : f_X7_isIn N p0 p1 = some res) : Ct g yX7_isIn cX7_isIn 2 (some .boolean) (zrm 0 0) [.int p0, .int p1] ([] : va_W) (exR (some (.int res)) ([] : va_W)) := by
  refine ct_of rfl hg (by show _ ≤ _; exact Nat.le_of_ble_eq_true rfl) (fun K C X => ?_)
  show Zs K 0 0 ([] : va_W) [(0, .int p0), (1, .int p1)] 0 []
  unfold f_X7_isIn at h
  refine z_iload_n (pc := 0) (x := p1) C dX7_isIn_0 (i := 1) rfl rfl ?_
  refine z_iload_n (pc := 1) (x := p0) C dX7_isIn_1 (i := 0) rfl rfl ?_
  refine z_ishr (pc := 2) C dX7_isIn_2 ?_
  refine z_iconst (pc := 3) C dX7_isIn_3 ic_1 ?_
  refine z_iand (pc := 4) C dX7_isIn_4 ?_
  refine z_if_eq (pc := 5) C dX7_isIn_5 (tgt := 12) (by decide) (fun hc => ?_) (fun hc => ?_)
  · replace h := (ite_e h).1 hc
    refine z_iconst (pc := 12) C dX7_isIn_12 ic_0 ?_
    exact z_zret C X dX7_isIn_13 rfl (by rw [← Option.some.inj h]; exact ⟨rfl, rfl⟩) (by decide) (by decide)
  · replace h := (ite_e h).2 hc
    refine z_iconst (pc := 8) C dX7_isIn_8 ic_1 ?_
    refine z_goto (pc := 9) C dX7_isIn_9 (tgt := 13) (by decide) ?_
    exact z_zret C X dX7_isIn_13 rfl (by rw [← Option.some.inj h]; exact ⟨rfl, rfl⟩) (by decide) (by decide)
def f_X1_learn_56 (N : Nat) (s1 : Ob) (p1 : Int32) (p2 : Int32)  (v3 : Int32) (t1 : Int32) (t2 : Int32) (t3 : Int32) (s0 : Ob) : Option (Int32 × Ob) := (chk (inb t1 40) (chk (zisB v3) (some (v3, (sa s0 14 (upd (s0.2.2.1 14) (t1).toNatClampNeg (t2 &&& t3)))))))
theorem m_X1_learn_56 {K : Kt} {g : Gp} {a0 : Nat} {r0 : Nat → Nat} {q0_0 : Nat} {r1 : Nat → Nat} {N : Nat} {s1 : Ob} {p1 : Int32} {p2 : Int32} {res : Int32 × Ob} (hg : Ok g) (C : Cx K g cX1_learn RX1 4 (zrm 1 21)) (X : Rx K (exR (some (.int res.1)) (wX1 g a0 r0 q0_0 res.2 ++ wX5 g q0_0 r1 s1)) 0 0 (some .boolean)) (v3 : Int32) (t1 : Int32) (t2 : Int32) (t3 : Int32) (s0 : Ob) (h : f_X1_learn_56 N s1 p1 p2 v3 t1 t2 t3 s0 = some res) : Zs K 0 0 (wX1 g a0 r0 q0_0 s0 ++ wX5 g q0_0 r1 s1) [(3, .int v3)] 56 [.int t3, .int t2, .int t1, .ref (r0 14)] := by
  unfold f_X1_learn_56 at h
  refine z_iand (pc := 56) C dX1_learn_56 ?_
  replace h := chk_e h
  obtain ⟨hb4, h⟩ := h
  refine z_iast (pc := 57) C 7 dX1_learn_57 rfl hb4 (ws' := (wX1 g a0 r0 q0_0 (sa s0 14 (upd (s0.2.2.1 14) (t1).toNatClampNeg (t2 &&& t3))) ++ wX5 g q0_0 r1 s1)) rfl ?_
  refine z_iload_n (pc := 58) (x := v3) C dX1_learn_58 (i := 3) rfl rfl ?_
  replace h := chk_e h
  obtain ⟨hb5, h⟩ := h
  exact z_zret C X dX1_learn_59 (zisB_nar hb5) (by rw [← Option.some.inj h]; exact ⟨rfl, rfl⟩) (by decide) (by decide)
def f_X1_learn_38 (N : Nat) (s1 : Ob) (p1 : Int32) (p2 : Int32)  (v3 : Int32) (s0 : Ob) : Option (Int32 × Ob) := (chk (inb p1 40) (if v3 = 0 then (f_X1_learn_56 N s1 p1 p2 v3 p1 ((s0.2.2.1 14) (p1).toNatClampNeg) (p2 ^^^ (-1 : Int32)) s0) else (f_X1_learn_56 N s1 p1 p2 v3 p1 ((s0.2.2.1 14) (p1).toNatClampNeg) p2 s0)))
theorem m_X1_learn_38 {K : Kt} {g : Gp} {a0 : Nat} {r0 : Nat → Nat} {q0_0 : Nat} {r1 : Nat → Nat} {N : Nat} {s1 : Ob} {p1 : Int32} {p2 : Int32} {res : Int32 × Ob} (hg : Ok g) (C : Cx K g cX1_learn RX1 4 (zrm 1 21)) (X : Rx K (exR (some (.int res.1)) (wX1 g a0 r0 q0_0 res.2 ++ wX5 g q0_0 r1 s1)) 0 0 (some .boolean)) (v3 : Int32) (s0 : Ob) (h : f_X1_learn_38 N s1 p1 p2 v3 s0 = some res) : Zs K 0 0 (wX1 g a0 r0 q0_0 s0 ++ wX5 g q0_0 r1 s1) [(0, .ref a0), (1, .int p1), (2, .int p2), (3, .int v3)] 38 [] := by
  unfold f_X1_learn_38 at h
  refine z_aload_n (pc := 38) (x := a0) C dX1_learn_38 (i := 0) rfl rfl ?_
  refine z_get (pc := 39) (v := .ref (r0 14)) C 0 dX1_learn_39 fl_RX1_32 rfl rfl ?_
  refine z_iload_n (pc := 42) (x := p1) C dX1_learn_42 (i := 1) rfl rfl ?_
  refine z_dup2 (pc := 43) C dX1_learn_43 rfl rfl ?_
  replace h := chk_e h
  obtain ⟨hb3, h⟩ := h
  refine z_iald (pc := 44) C 7 dX1_learn_44 rfl hb3 ?_
  refine z_iload_n (pc := 45) (x := v3) C dX1_learn_45 (i := 3) rfl rfl ?_
  refine z_if_eq (pc := 46) C dX1_learn_46 (tgt := 53) (by decide) (fun hc => ?_) (fun hc => ?_)
  · replace h := (ite_e h).1 hc
    refine z_iload_n (pc := 53) (x := p2) C dX1_learn_53 (i := 2) rfl rfl ?_
    refine z_iconst (pc := 54) C dX1_learn_54 ic_m1 ?_
    refine z_ixor (pc := 55) C dX1_learn_55 ?_
    refine z_lv (lv' := [(3, .int v3)]) [3] rfl ?_
    exact m_X1_learn_56 (a0 := a0) (r0 := r0) (q0_0 := q0_0) (r1 := r1) hg C X v3 p1 ((s0.2.2.1 14) (p1).toNatClampNeg) (p2 ^^^ (-1 : Int32)) s0 h
  · replace h := (ite_e h).2 hc
    refine z_iload_n (pc := 49) (x := p2) C dX1_learn_49 (i := 2) rfl rfl ?_
    refine z_goto (pc := 50) C dX1_learn_50 (tgt := 56) (by decide) ?_
    refine z_lv (lv' := [(3, .int v3)]) [3] rfl ?_
    exact m_X1_learn_56 (a0 := a0) (r0 := r0) (q0_0 := q0_0) (r1 := r1) hg C X v3 p1 ((s0.2.2.1 14) (p1).toNatClampNeg) p2 s0 h
def f_X1_learn (N : Nat) (s0 : Ob) (s1 : Ob) (p1 : Int32) (p2 : Int32) : Option (Int32 × Ob) := (if p1 < 0 then (some ((0 : Int32), s0)) else (if p1 < (40 : Int32) then (ob (f_X1_kindOf N s0 s1 p1) fun x1 => (ob (f_X7_isIn N x1 p2) fun x2 => (if x2 = 0 then (f_X1_learn_38 N s1 p1 p2 x2 s0) else (f_X1_learn_38 N s1 p1 p2 x2 (sl s0 8 ((s0.2.1 8) ||| ((1 : Int64) <<< ((p1).toInt64 &&& 63)))))))) else (some ((0 : Int32), s0))))
theorem m_X1_learn {g : Gp} {a0 : Nat} {r0 : Nat → Nat} {q0_0 : Nat} {r1 : Nat → Nat} {N : Nat} {s0 : Ob} {s1 : Ob} {p1 : Int32} {p2 : Int32} {res : Int32 × Ob} (hg : Ok g) (h : f_X1_learn N s0 s1 p1 p2 = some res) : Ct g yX1_learn cX1_learn 4 (some .boolean) (zrm 1 21) [.ref a0, .int p1, .int p2] (wX1 g a0 r0 q0_0 s0 ++ wX5 g q0_0 r1 s1) (exR (some (.int res.1)) (wX1 g a0 r0 q0_0 res.2 ++ wX5 g q0_0 r1 s1)) := by
  refine ct_of rfl hg (by show _ ≤ _; exact Nat.le_of_ble_eq_true rfl) (fun K C X => ?_)
  show Zs K 0 0 (wX1 g a0 r0 q0_0 s0 ++ wX5 g q0_0 r1 s1) [(0, .ref a0), (1, .int p1), (2, .int p2)] 0 []
  unfold f_X1_learn at h
  refine z_iload_n (pc := 0) (x := p1) C dX1_learn_0 (i := 1) rfl rfl ?_
  refine z_if_lt (pc := 1) C dX1_learn_1 (tgt := 10) (by decide) (fun hc => ?_) (fun hc => ?_)
  · replace h := (ite_e h).1 hc
    refine z_iconst (pc := 10) C dX1_learn_10 ic_0 ?_
    exact z_zret C X dX1_learn_11 rfl (by rw [← Option.some.inj h]; exact ⟨rfl, rfl⟩) (by decide) (by decide)
  · replace h := (ite_e h).2 hc
    refine z_iload_n (pc := 4) (x := p1) C dX1_learn_4 (i := 1) rfl rfl ?_
    refine z_bipush (pc := 5) C dX1_learn_5 bp_40 ?_
    refine z_icmp_lt (pc := 7) C dX1_learn_7 (tgt := 12) (by decide) (fun hc => ?_) (fun hc => ?_)
    · replace h := (ite_e h).1 hc
      refine z_aload_n (pc := 12) (x := a0) C dX1_learn_12 (i := 0) rfl rfl ?_
      refine z_iload_n (pc := 13) (x := p1) C dX1_learn_13 (i := 1) rfl rfl ?_
      replace h := ob_e h
      obtain ⟨x1, hx1, h⟩ := h
      refine z_callV (pc := 14) (As := [.int p1]) (rest := []) (wr := ([] : va_W)) C dX1_learn_14 ml_RX1_127 wv_X1_kindOf (m_X1_kindOf (a0 := a0) (r0 := r0) (q0_0 := q0_0) (r1 := r1) hg hx1) [0, 1, 2, 3, 4, 5, 6, 7, 8, 9, 10, 11, 12] [] rfl rfl ⟨by decide, by decide⟩ (Nat.le_of_ble_eq_true rfl) ⟨by decide, by decide⟩ rfl rfl rfl rfl rfl rfl rfl (by decide) (ex_k C (cs' := 0) (ss' := 0) (wF := (wX1 g a0 r0 q0_0 s0 ++ wX5 g q0_0 r1 s1)) [0, 1, 2, 3, 4, 5, 6, 7, 8, 9, 10, 11, 12] rfl rfl ?_)
      refine z_iload_n (pc := 17) (x := p2) C dX1_learn_17 (i := 2) rfl rfl ?_
      replace h := ob_e h
      obtain ⟨x2, hx2, h⟩ := h
      refine z_callSN (pc := 18) (As := [.int x1, .int p2]) (rest := []) (wr := (wX1 g a0 r0 q0_0 s0 ++ wX5 g q0_0 r1 s1)) C dX1_learn_18 mn_RX1_146 wt_X7_isIn (m_X7_isIn hg hx2) [] [0, 1, 2, 3, 4, 5, 6, 7, 8, 9, 10, 11, 12] rfl rfl ⟨by decide, by decide⟩ (Nat.le_of_ble_eq_true rfl) ⟨by decide, by decide⟩ rfl rfl rfl rfl (by decide) (ex_k C (cs' := 0) (ss' := 0) (wF := (wX1 g a0 r0 q0_0 s0 ++ wX5 g q0_0 r1 s1)) [0, 1, 2, 3, 4, 5, 6, 7, 8, 9, 10, 11, 12] rfl rfl ?_)
      refine z_istore_n (pc := 21) C dX1_learn_21 (i := 3) rfl (by decide) (lv' := [(3, .int x2), (0, .ref a0), (1, .int p1), (2, .int p2)]) rfl ?_
      refine z_iload_n (pc := 22) (x := x2) C dX1_learn_22 (i := 3) rfl rfl ?_
      refine z_if_eq (pc := 23) C dX1_learn_23 (tgt := 38) (by decide) (fun hc => ?_) (fun hc => ?_)
      · replace h := (ite_e h).1 hc
        refine z_lv (lv' := [(0, .ref a0), (1, .int p1), (2, .int p2), (3, .int x2)]) [1, 2, 3, 0] rfl ?_
        exact m_X1_learn_38 (a0 := a0) (r0 := r0) (q0_0 := q0_0) (r1 := r1) hg C X x2 s0 h
      · replace h := (ite_e h).2 hc
        refine z_aload_n (pc := 26) (x := a0) C dX1_learn_26 (i := 0) rfl rfl ?_
        refine z_dup (pc := 27) C dX1_learn_27 rfl ?_
        refine z_get (pc := 28) (v := .long (s0.2.1 8)) C 0 dX1_learn_28 fl_RX1_61 rfl rfl ?_
        refine z_lconst (pc := 31) (v := (1 : Int64)) C dX1_learn_31 rfl ?_
        refine z_iload_n (pc := 32) (x := p1) C dX1_learn_32 (i := 1) rfl rfl ?_
        refine z_lshl (pc := 33) C dX1_learn_33 ?_
        refine z_lor (pc := 34) C dX1_learn_34 ?_
        refine z_put (pc := 35) C 0 dX1_learn_35 fp_RX1_61 rfl rfl rfl (zlt_b rfl) (ws' := (wX1 g a0 r0 q0_0 (sl s0 8 ((s0.2.1 8) ||| ((1 : Int64) <<< ((p1).toInt64 &&& 63)))) ++ wX5 g q0_0 r1 s1)) rfl ?_
        refine z_lv (lv' := [(0, .ref a0), (1, .int p1), (2, .int p2), (3, .int x2)]) [1, 2, 3, 0] rfl ?_
        exact m_X1_learn_38 (a0 := a0) (r0 := r0) (q0_0 := q0_0) (r1 := r1) hg C X x2 (sl s0 8 ((s0.2.1 8) ||| ((1 : Int64) <<< ((p1).toInt64 &&& 63)))) h
    · replace h := (ite_e h).2 hc
      refine z_iconst (pc := 10) C dX1_learn_10 ic_0 ?_
      exact z_zret C X dX1_learn_11 rfl (by rw [← Option.some.inj h]; exact ⟨rfl, rfl⟩) (by decide) (by decide)
def f_X5_indexOfWord (N : Nat) (p0 : Int32) (p1 : Int32) : Option (Int32) := (if p0 = 0 then (if p1 < 0 then (some (-1 : Int32)) else (if (4 : Int32) ≤ p1 then (some (-1 : Int32)) else (some p1))) else (if p1 < (1 : Int32) then (some (-1 : Int32)) else (if (5 : Int32) < p1 then (some (-1 : Int32)) else (some (((4 : Int32) + p1) - (1 : Int32))))))
theorem m_X5_indexOfWord {g : Gp}  {N : Nat} {p0 : Int32} {p1 : Int32} {res : Int32} (hg : Ok g) (h : f_X5_indexOfWord N p0 p1 = some res) : Ct g yX5_indexOfWord cX5_indexOfWord 2 (some .int) (zrm 0 0) [.int p0, .int p1] ([] : va_W) (exR (some (.int res)) ([] : va_W)) := by
  refine ct_of rfl hg (by show _ ≤ _; exact Nat.le_of_ble_eq_true rfl) (fun K C X => ?_)
  show Zs K 0 0 ([] : va_W) [(0, .int p0), (1, .int p1)] 0 []
  unfold f_X5_indexOfWord at h
  refine z_iload_n (pc := 0) (x := p0) C dX5_indexOfWord_0 (i := 0) rfl rfl ?_
  refine z_if_ne (pc := 1) C dX5_indexOfWord_1 (tgt := 19) (by decide) (fun hc => ?_) (fun hc => ?_)
  · replace h := (ite_e h).2 hc
    refine z_iload_n (pc := 19) (x := p1) C dX5_indexOfWord_19 (i := 1) rfl rfl ?_
    refine z_iconst (pc := 20) C dX5_indexOfWord_20 ic_1 ?_
    refine z_icmp_lt (pc := 21) C dX5_indexOfWord_21 (tgt := 37) (by decide) (fun hc => ?_) (fun hc => ?_)
    · replace h := (ite_e h).1 hc
      refine z_iconst (pc := 37) C dX5_indexOfWord_37 ic_m1 ?_
      exact z_iret C X dX5_indexOfWord_38 (by rw [← Option.some.inj h]; exact ⟨rfl, rfl⟩) (by decide) (by decide)
    · replace h := (ite_e h).2 hc
      refine z_iload_n (pc := 24) (x := p1) C dX5_indexOfWord_24 (i := 1) rfl rfl ?_
      refine z_iconst (pc := 25) C dX5_indexOfWord_25 ic_5 ?_
      refine z_icmp_gt (pc := 26) C dX5_indexOfWord_26 (tgt := 37) (by decide) (fun hc => ?_) (fun hc => ?_)
      · replace h := (ite_e h).1 hc
        refine z_iconst (pc := 37) C dX5_indexOfWord_37 ic_m1 ?_
        exact z_iret C X dX5_indexOfWord_38 (by rw [← Option.some.inj h]; exact ⟨rfl, rfl⟩) (by decide) (by decide)
      · replace h := (ite_e h).2 hc
        refine z_iconst (pc := 29) C dX5_indexOfWord_29 ic_4 ?_
        refine z_iload_n (pc := 30) (x := p1) C dX5_indexOfWord_30 (i := 1) rfl rfl ?_
        refine z_iadd (pc := 31) C dX5_indexOfWord_31 ?_
        refine z_iconst (pc := 32) C dX5_indexOfWord_32 ic_1 ?_
        refine z_isub (pc := 33) C dX5_indexOfWord_33 ?_
        refine z_goto (pc := 34) C dX5_indexOfWord_34 (tgt := 38) (by decide) ?_
        exact z_iret C X dX5_indexOfWord_38 (by rw [← Option.some.inj h]; exact ⟨rfl, rfl⟩) (by decide) (by decide)
  · replace h := (ite_e h).1 hc
    refine z_iload_n (pc := 4) (x := p1) C dX5_indexOfWord_4 (i := 1) rfl rfl ?_
    refine z_if_lt (pc := 5) C dX5_indexOfWord_5 (tgt := 17) (by decide) (fun hc => ?_) (fun hc => ?_)
    · replace h := (ite_e h).1 hc
      refine z_iconst (pc := 17) C dX5_indexOfWord_17 ic_m1 ?_
      exact z_iret C X dX5_indexOfWord_18 (by rw [← Option.some.inj h]; exact ⟨rfl, rfl⟩) (by decide) (by decide)
    · replace h := (ite_e h).2 hc
      refine z_iload_n (pc := 8) (x := p1) C dX5_indexOfWord_8 (i := 1) rfl rfl ?_
      refine z_iconst (pc := 9) C dX5_indexOfWord_9 ic_4 ?_
      refine z_icmp_ge (pc := 10) C dX5_indexOfWord_10 (tgt := 17) (by decide) (fun hc => ?_) (fun hc => ?_)
      · replace h := (ite_e h).1 hc
        refine z_iconst (pc := 17) C dX5_indexOfWord_17 ic_m1 ?_
        exact z_iret C X dX5_indexOfWord_18 (by rw [← Option.some.inj h]; exact ⟨rfl, rfl⟩) (by decide) (by decide)
      · replace h := (ite_e h).2 hc
        refine z_iload_n (pc := 13) (x := p1) C dX5_indexOfWord_13 (i := 1) rfl rfl ?_
        refine z_goto (pc := 14) C dX5_indexOfWord_14 (tgt := 18) (by decide) ?_
        exact z_iret C X dX5_indexOfWord_18 (by rw [← Option.some.inj h]; exact ⟨rfl, rfl⟩) (by decide) (by decide)
def f_X1_giveHint_72 (N : Nat) (s1 : Ob) (p1 : Int32) (p2 : Int32) (p3 : Int32)  (v5 : Int32) (s0 : Ob) : Option (Int32 × Ob) := (znm (si s0 2 ((s0.1 2) - (1 : Int32))) fun y4 => (znm (sa y4 7 (upd (y4.2.2.1 7) 3 (((s0.2.2.1 7) 3) + (1 : Int32)))) fun y5 => (ob (f_X1_writeLog N (sa y5 7 (upd (y5.2.2.1 7) 5 (((upd (y4.2.2.1 7) 3 (((s0.2.2.1 7) 3) + (1 : Int32))) 5) + v5))) (2 : Int32) p1 (((10 : Int32) * p2) + p3)) fun x6 => (ob (f_X1_endTurn N x6 s1) fun x7 => (some (v5, x7))))))
theorem m_X1_giveHint_72 {K : Kt} {g : Gp} {a0 : Nat} {r0 : Nat → Nat} {q0_0 : Nat} {r1 : Nat → Nat} {N : Nat} {s1 : Ob} {p1 : Int32} {p2 : Int32} {p3 : Int32} {res : Int32 × Ob} (hg : Ok g) (C : Cx K g cX1_giveHint RX1 7 (zrm 2 44)) (X : Rx K (exR (some (.int res.1)) (wX1 g a0 r0 q0_0 res.2 ++ wX5 g q0_0 r1 s1)) 0 0 (some .int)) (v5 : Int32) (s0 : Ob) (h : f_X1_giveHint_72 N s1 p1 p2 p3 v5 s0 = some res) : Zs K 0 0 (wX1 g a0 r0 q0_0 s0 ++ wX5 g q0_0 r1 s1) [(0, .ref a0), (1, .int p1), (2, .int p2), (3, .int p3), (5, .int v5)] 72 [] := by
  unfold f_X1_giveHint_72 at h
  refine z_aload_n (pc := 72) (x := a0) C dX1_giveHint_72 (i := 0) rfl rfl ?_
  refine z_dup (pc := 73) C dX1_giveHint_73 rfl ?_
  refine z_get (pc := 74) (v := .int (s0.1 2)) C 0 dX1_giveHint_74 fl_RX1_46 rfl rfl ?_
  refine z_iconst (pc := 77) C dX1_giveHint_77 ic_1 ?_
  refine z_isub (pc := 78) C dX1_giveHint_78 ?_
  refine z_put (pc := 79) C 0 dX1_giveHint_79 fp_RX1_46 rfl rfl rfl (zlt_b rfl) (ws' := (wX1 g a0 r0 q0_0 (si s0 2 ((s0.1 2) - (1 : Int32))) ++ wX5 g q0_0 r1 s1)) rfl ?_
  refine z_aload_n (pc := 82) (x := a0) C dX1_giveHint_82 (i := 0) rfl rfl ?_
  refine z_get (pc := 83) (v := .ref (r0 7)) C 0 dX1_giveHint_83 fl_RX1_11 rfl rfl ?_
  refine z_iconst (pc := 86) C dX1_giveHint_86 ic_3 ?_
  refine z_dup2 (pc := 87) C dX1_giveHint_87 rfl rfl ?_
  refine z_iald (pc := 88) C 1 dX1_giveHint_88 rfl (by decide) ?_
  refine z_top1 (v := ((s0.2.2.1 7) 3)) rfl ?_
  refine z_iconst (pc := 89) C dX1_giveHint_89 ic_1 ?_
  refine z_iadd (pc := 90) C dX1_giveHint_90 ?_
  replace h := znm_e h
  obtain ⟨y4, hy4, h⟩ := h
  refine z_wsE (ws' := (wX1 g a0 r0 q0_0 y4 ++ wX5 g q0_0 r1 s1)) (by rw [hy4]) ?_
  refine z_iast (pc := 91) C 1 dX1_giveHint_91 rfl (by decide) (ws' := (wX1 g a0 r0 q0_0 (sa y4 7 (upd (y4.2.2.1 7) 3 (((s0.2.2.1 7) 3) + (1 : Int32)))) ++ wX5 g q0_0 r1 s1)) rfl ?_
  refine z_aload_n (pc := 92) (x := a0) C dX1_giveHint_92 (i := 0) rfl rfl ?_
  refine z_get (pc := 93) (v := .ref (r0 7)) C 0 dX1_giveHint_93 fl_RX1_11 rfl rfl ?_
  refine z_iconst (pc := 96) C dX1_giveHint_96 ic_5 ?_
  refine z_dup2 (pc := 97) C dX1_giveHint_97 rfl rfl ?_
  refine z_iald (pc := 98) C 1 dX1_giveHint_98 rfl (by decide) ?_
  refine z_top1 (v := ((upd (y4.2.2.1 7) 3 (((s0.2.2.1 7) 3) + (1 : Int32))) 5)) rfl ?_
  refine z_iload (pc := 99) (x := v5) C dX1_giveHint_99 rfl ?_
  refine z_iadd (pc := 101) C dX1_giveHint_101 ?_
  replace h := znm_e h
  obtain ⟨y5, hy5, h⟩ := h
  refine z_wsE (ws' := (wX1 g a0 r0 q0_0 y5 ++ wX5 g q0_0 r1 s1)) (by rw [hy5]) ?_
  refine z_iast (pc := 102) C 1 dX1_giveHint_102 rfl (by decide) (ws' := (wX1 g a0 r0 q0_0 (sa y5 7 (upd (y5.2.2.1 7) 5 (((upd (y4.2.2.1 7) 3 (((s0.2.2.1 7) 3) + (1 : Int32))) 5) + v5))) ++ wX5 g q0_0 r1 s1)) rfl ?_
  refine z_aload_n (pc := 103) (x := a0) C dX1_giveHint_103 (i := 0) rfl rfl ?_
  refine z_iconst (pc := 104) C dX1_giveHint_104 ic_2 ?_
  refine z_iload_n (pc := 105) (x := p1) C dX1_giveHint_105 (i := 1) rfl rfl ?_
  refine z_bipush (pc := 106) C dX1_giveHint_106 bp_10 ?_
  refine z_iload_n (pc := 108) (x := p2) C dX1_giveHint_108 (i := 2) rfl rfl ?_
  refine z_imul (pc := 109) C dX1_giveHint_109 ?_
  refine z_iload_n (pc := 110) (x := p3) C dX1_giveHint_110 (i := 3) rfl rfl ?_
  refine z_iadd (pc := 111) C dX1_giveHint_111 ?_
  replace h := ob_e h
  obtain ⟨x6, hx6, h⟩ := h
  refine z_callV (pc := 112) (As := [.int (2 : Int32), .int p1, .int (((10 : Int32) * p2) + p3)]) (rest := []) (wr := (wX5 g q0_0 r1 s1)) C dX1_giveHint_112 ml_RX1_171 wv_X1_writeLog (m_X1_writeLog (a0 := a0) (r0 := r0) (q0_0 := q0_0) hg hx6) [0, 1, 2, 3, 4, 5, 6, 7, 8] [9, 10, 11, 12] rfl rfl ⟨by decide, by decide⟩ (Nat.le_of_ble_eq_true rfl) ⟨by decide, by decide⟩ rfl rfl rfl rfl rfl rfl rfl (by decide) (ex_k C (cs' := 0) (ss' := 0) (wF := (wX1 g a0 r0 q0_0 x6 ++ wX5 g q0_0 r1 s1)) [4, 5, 6, 7, 8, 9, 10, 11, 12, 0, 1, 2, 3] rfl rfl ?_)
  refine z_aload_n (pc := 115) (x := a0) C dX1_giveHint_115 (i := 0) rfl rfl ?_
  replace h := ob_e h
  obtain ⟨x7, hx7, h⟩ := h
  refine z_callV (pc := 116) (As := []) (rest := []) (wr := ([] : va_W)) C dX1_giveHint_116 ml_RX1_178 wv_X1_endTurn (m_X1_endTurn (a0 := a0) (r0 := r0) (q0_0 := q0_0) (r1 := r1) hg hx7) [0, 1, 2, 3, 4, 5, 6, 7, 8, 9, 10, 11, 12] [] rfl rfl ⟨by decide, by decide⟩ (Nat.le_of_ble_eq_true rfl) ⟨by decide, by decide⟩ rfl rfl rfl rfl rfl rfl rfl (by decide) (ex_k C (cs' := 0) (ss' := 0) (wF := (wX1 g a0 r0 q0_0 x7 ++ wX5 g q0_0 r1 s1)) [0, 1, 2, 3, 4, 5, 6, 7, 8, 9, 10, 11, 12] rfl rfl ?_)
  refine z_iload (pc := 119) (x := v5) C dX1_giveHint_119 rfl ?_
  exact z_iret C X dX1_giveHint_121 (by rw [← Option.some.inj h]; exact ⟨rfl, rfl⟩) (by decide) (by decide)
def F_X1_giveHint_13 (N : Nat) (s1 : Ob) (p1 : Int32) (p2 : Int32) (p3 : Int32)  (k13 : Int32 → Int32 → Int32 → Ob → Option (Int32 × Ob)) (v4 : Int32) (v5 : Int32) (v6 : Int32) (s0 : Ob) : Option (Int32 × Ob) := (ob (f_X1_sizeOf N s0 p1) fun x2 => (if x2 ≤ v6 then (ob (f_X5_indexOfWord N p2 p3) fun x3 => (if x3 = (-1 : Int32) then (f_X1_giveHint_72 N s1 p1 p2 p3 v5 s0) else (chk (inb x3 9) (chk (inb x3 9) (f_X1_giveHint_72 N s1 p1 p2 p3 v5 (sa s0 13 (upd (s0.2.2.1 13) (x3).toNatClampNeg (((s0.2.2.1 13) (x3).toNatClampNeg) - (1 : Int32))))))))) else (ob (f_X1_cardAt N s0 p1 v6) fun x10 => (ob (f_X1_learn N s0 s1 x10 v4) fun x11 => (if x11.1 = 0 then (k13 v4 v5 (v6 + (1 : Int32)) x11.2) else (k13 v4 (v5 + (1 : Int32)) (v6 + (1 : Int32)) x11.2))))))
def f_X1_giveHint_13 (N : Nat) (s1 : Ob) (p1 : Int32) (p2 : Int32) (p3 : Int32)  : Nat → Int32 → Int32 → Int32 → Ob → Option (Int32 × Ob) := zlp (fun _ _ _ _ => none) (F_X1_giveHint_13 N s1 p1 p2 p3)
theorem m_X1_giveHint_13 {K : Kt} {g : Gp} {a0 : Nat} {r0 : Nat → Nat} {q0_0 : Nat} {r1 : Nat → Nat} {N : Nat} {s1 : Ob} {p1 : Int32} {p2 : Int32} {p3 : Int32} {res : Int32 × Ob} (hg : Ok g) (C : Cx K g cX1_giveHint RX1 7 (zrm 2 44)) (X : Rx K (exR (some (.int res.1)) (wX1 g a0 r0 q0_0 res.2 ++ wX5 g q0_0 r1 s1)) 0 0 (some .int)) : ∀ (n : Nat) (v4 : Int32) (v5 : Int32) (v6 : Int32) (s0 : Ob), f_X1_giveHint_13 N s1 p1 p2 p3 n v4 v5 v6 s0 = some res → Zs K 0 0 (wX1 g a0 r0 q0_0 s0 ++ wX5 g q0_0 r1 s1) [(0, .ref a0), (1, .int p1), (2, .int p2), (3, .int p3), (4, .int v4), (5, .int v5), (6, .int v6)] 13 [] := by
  intro n
  induction n with
  | zero => intro v4 v5 v6 s0 h; exact nomatch (show (none : Option (Int32 × Ob)) = some res from h)
  | succ n hk13 =>
    intro v4 v5 v6 s0 h
    replace h : F_X1_giveHint_13 N s1 p1 p2 p3 (f_X1_giveHint_13 N s1 p1 p2 p3 n) v4 v5 v6 s0 = some res := h
    unfold F_X1_giveHint_13 at h
    refine z_iload (pc := 13) (x := v6) C dX1_giveHint_13 rfl ?_
    refine z_aload_n (pc := 15) (x := a0) C dX1_giveHint_15 (i := 0) rfl rfl ?_
    refine z_iload_n (pc := 16) (x := p1) C dX1_giveHint_16 (i := 1) rfl rfl ?_
    replace h := ob_e h
    obtain ⟨x2, hx2, h⟩ := h
    refine z_callV (pc := 17) (As := [.int p1]) (rest := [.int v6]) (wr := (wX5 g q0_0 r1 s1)) C dX1_giveHint_17 ml_RX1_120 wv_X1_sizeOf (m_X1_sizeOf (a0 := a0) (r0 := r0) (q0_0 := q0_0) hg hx2) [0, 1, 2, 3, 4, 5, 6, 7, 8] [9, 10, 11, 12] rfl rfl ⟨by decide, by decide⟩ (Nat.le_of_ble_eq_true rfl) ⟨by decide, by decide⟩ rfl rfl rfl rfl rfl rfl rfl (by decide) (ex_k C (cs' := 0) (ss' := 0) (wF := (wX1 g a0 r0 q0_0 s0 ++ wX5 g q0_0 r1 s1)) [4, 5, 6, 7, 8, 9, 10, 11, 12, 0, 1, 2, 3] rfl rfl ?_)
    refine z_icmp_ge (pc := 20) C dX1_giveHint_20 (tgt := 48) (by decide) (fun hc => ?_) (fun hc => ?_)
    · replace h := (ite_e h).1 hc
      refine z_iload_n (pc := 48) (x := p2) C dX1_giveHint_48 (i := 2) rfl rfl ?_
      refine z_iload_n (pc := 49) (x := p3) C dX1_giveHint_49 (i := 3) rfl rfl ?_
      replace h := ob_e h
      obtain ⟨x3, hx3, h⟩ := h
      refine z_callS (pc := 50) (As := [.int p2, .int p3]) (rest := []) (wr := (wX1 g a0 r0 q0_0 s0 ++ wX5 g q0_0 r1 s1)) C dX1_giveHint_50 ml_RX1_116 wt_X5_indexOfWord (m_X5_indexOfWord hg hx3) [] [0, 1, 2, 3, 4, 5, 6, 7, 8, 9, 10, 11, 12] rfl rfl ⟨by decide, by decide⟩ (Nat.le_of_ble_eq_true rfl) ⟨by decide, by decide⟩ rfl rfl rfl rfl (by decide) (ex_k C (cs' := 0) (ss' := 0) (wF := (wX1 g a0 r0 q0_0 s0 ++ wX5 g q0_0 r1 s1)) [0, 1, 2, 3, 4, 5, 6, 7, 8, 9, 10, 11, 12] rfl rfl ?_)
      refine z_istore (pc := 53) C dX1_giveHint_53 (by decide) (lv' := [(6, .int x3), (0, .ref a0), (1, .int p1), (2, .int p2), (3, .int p3), (4, .int v4), (5, .int v5)]) rfl ?_
      refine z_iload (pc := 55) (x := x3) C dX1_giveHint_55 rfl ?_
      refine z_iconst (pc := 57) C dX1_giveHint_57 ic_m1 ?_
      refine z_icmp_eq (pc := 58) C dX1_giveHint_58 (tgt := 72) (by decide) (fun hc => ?_) (fun hc => ?_)
      · replace h := (ite_e h).1 hc
        refine z_lv (lv' := [(0, .ref a0), (1, .int p1), (2, .int p2), (3, .int p3), (5, .int v5)]) [1, 2, 3, 4, 6] rfl ?_
        exact m_X1_giveHint_72 (a0 := a0) (r0 := r0) (q0_0 := q0_0) (r1 := r1) hg C X v5 s0 h
      · replace h := (ite_e h).2 hc
        refine z_aload_n (pc := 61) (x := a0) C dX1_giveHint_61 (i := 0) rfl rfl ?_
        refine z_get (pc := 62) (v := .ref (r0 13)) C 0 dX1_giveHint_62 fl_RX1_29 rfl rfl ?_
        refine z_iload (pc := 65) (x := x3) C dX1_giveHint_65 rfl ?_
        refine z_dup2 (pc := 67) C dX1_giveHint_67 rfl rfl ?_
        replace h := chk_e h
        obtain ⟨hb8, h⟩ := h
        refine z_iald (pc := 68) C 6 dX1_giveHint_68 rfl hb8 ?_
        refine z_iconst (pc := 69) C dX1_giveHint_69 ic_1 ?_
        refine z_isub (pc := 70) C dX1_giveHint_70 ?_
        replace h := chk_e h
        obtain ⟨hb9, h⟩ := h
        refine z_iast (pc := 71) C 6 dX1_giveHint_71 rfl hb9 (ws' := (wX1 g a0 r0 q0_0 (sa s0 13 (upd (s0.2.2.1 13) (x3).toNatClampNeg (((s0.2.2.1 13) (x3).toNatClampNeg) - (1 : Int32)))) ++ wX5 g q0_0 r1 s1)) rfl ?_
        refine z_lv (lv' := [(0, .ref a0), (1, .int p1), (2, .int p2), (3, .int p3), (5, .int v5)]) [1, 2, 3, 4, 6] rfl ?_
        exact m_X1_giveHint_72 (a0 := a0) (r0 := r0) (q0_0 := q0_0) (r1 := r1) hg C X v5 (sa s0 13 (upd (s0.2.2.1 13) (x3).toNatClampNeg (((s0.2.2.1 13) (x3).toNatClampNeg) - (1 : Int32)))) h
    · replace h := (ite_e h).2 hc
      refine z_aload_n (pc := 23) (x := a0) C dX1_giveHint_23 (i := 0) rfl rfl ?_
      refine z_aload_n (pc := 24) (x := a0) C dX1_giveHint_24 (i := 0) rfl rfl ?_
      refine z_iload_n (pc := 25) (x := p1) C dX1_giveHint_25 (i := 1) rfl rfl ?_
      refine z_iload (pc := 26) (x := v6) C dX1_giveHint_26 rfl ?_
      replace h := ob_e h
      obtain ⟨x10, hx10, h⟩ := h
      refine z_callV (pc := 28) (As := [.int p1, .int v6]) (rest := [.ref a0]) (wr := (wX5 g q0_0 r1 s1)) C dX1_giveHint_28 ml_RX1_124 wv_X1_cardAt (m_X1_cardAt (a0 := a0) (r0 := r0) (q0_0 := q0_0) hg hx10) [0, 1, 2, 3, 4, 5, 6, 7, 8] [9, 10, 11, 12] rfl rfl ⟨by decide, by decide⟩ (Nat.le_of_ble_eq_true rfl) ⟨by decide, by decide⟩ rfl rfl rfl rfl rfl rfl rfl (by decide) (ex_k C (cs' := 0) (ss' := 0) (wF := (wX1 g a0 r0 q0_0 s0 ++ wX5 g q0_0 r1 s1)) [4, 5, 6, 7, 8, 9, 10, 11, 12, 0, 1, 2, 3] rfl rfl ?_)
      refine z_iload (pc := 31) (x := v4) C dX1_giveHint_31 rfl ?_
      replace h := ob_e h
      obtain ⟨x11, hx11, h⟩ := h
      refine z_callV (pc := 33) (As := [.int x10, .int v4]) (rest := []) (wr := ([] : va_W)) C dX1_giveHint_33 ml_RX1_181 wv_X1_learn (m_X1_learn (a0 := a0) (r0 := r0) (q0_0 := q0_0) (r1 := r1) hg hx11) [0, 1, 2, 3, 4, 5, 6, 7, 8, 9, 10, 11, 12] [] rfl rfl ⟨by decide, by decide⟩ (Nat.le_of_ble_eq_true rfl) ⟨by decide, by decide⟩ rfl rfl rfl rfl rfl rfl rfl (by decide) (ex_k C (cs' := 0) (ss' := 0) (wF := (wX1 g a0 r0 q0_0 x11.2 ++ wX5 g q0_0 r1 s1)) [0, 1, 2, 3, 4, 5, 6, 7, 8, 9, 10, 11, 12] rfl rfl ?_)
      refine z_if_eq (pc := 36) C dX1_giveHint_36 (tgt := 42) (by decide) (fun hc => ?_) (fun hc => ?_)
      · replace h := (ite_e h).1 hc
        refine z_iinc (pc := 42) C dX1_giveHint_42 rfl (inc_e 1 (1 : Int32) ic_1 v6) (by decide) (lv' := [(6, .int (v6 + (1 : Int32))), (0, .ref a0), (1, .int p1), (2, .int p2), (3, .int p3), (4, .int v4), (5, .int v5)]) rfl ?_
        refine z_goto (pc := 45) C dX1_giveHint_45 (tgt := 13) (by decide) ?_
        refine z_lv (lv' := [(0, .ref a0), (1, .int p1), (2, .int p2), (3, .int p3), (4, .int v4), (5, .int v5), (6, .int (v6 + (1 : Int32)))]) [1, 2, 3, 4, 5, 6, 0] rfl ?_
        exact hk13 v4 v5 (v6 + (1 : Int32)) x11.2 h
      · replace h := (ite_e h).2 hc
        refine z_iinc (pc := 39) C dX1_giveHint_39 rfl (inc_e 1 (1 : Int32) ic_1 v5) (by decide) (lv' := [(5, .int (v5 + (1 : Int32))), (0, .ref a0), (1, .int p1), (2, .int p2), (3, .int p3), (4, .int v4), (6, .int v6)]) rfl ?_
        refine z_iinc (pc := 42) C dX1_giveHint_42 rfl (inc_e 1 (1 : Int32) ic_1 v6) (by decide) (lv' := [(6, .int (v6 + (1 : Int32))), (5, .int (v5 + (1 : Int32))), (0, .ref a0), (1, .int p1), (2, .int p2), (3, .int p3), (4, .int v4)]) rfl ?_
        refine z_goto (pc := 45) C dX1_giveHint_45 (tgt := 13) (by decide) ?_
        refine z_lv (lv' := [(0, .ref a0), (1, .int p1), (2, .int p2), (3, .int p3), (4, .int v4), (5, .int (v5 + (1 : Int32))), (6, .int (v6 + (1 : Int32)))]) [2, 3, 4, 5, 6, 1, 0] rfl ?_
        exact hk13 v4 (v5 + (1 : Int32)) (v6 + (1 : Int32)) x11.2 h
def f_X1_giveHint (N : Nat) (s0 : Ob) (s1 : Ob) (p1 : Int32) (p2 : Int32) (p3 : Int32) : Option (Int32 × Ob) := (ob (f_X7_kindsOfWord N p2 p3) fun x1 => (f_X1_giveHint_13 N s1 p1 p2 p3 N x1 (0 : Int32) (0 : Int32) s0))
theorem m_X1_giveHint {g : Gp} {a0 : Nat} {r0 : Nat → Nat} {q0_0 : Nat} {r1 : Nat → Nat} {N : Nat} {s0 : Ob} {s1 : Ob} {p1 : Int32} {p2 : Int32} {p3 : Int32} {res : Int32 × Ob} (hg : Ok g) (h : f_X1_giveHint N s0 s1 p1 p2 p3 = some res) : Ct g yX1_giveHint cX1_giveHint 7 (some .int) (zrm 2 44) [.ref a0, .int p1, .int p2, .int p3] (wX1 g a0 r0 q0_0 s0 ++ wX5 g q0_0 r1 s1) (exR (some (.int res.1)) (wX1 g a0 r0 q0_0 res.2 ++ wX5 g q0_0 r1 s1)) := by
  refine ct_of rfl hg (by show _ ≤ _; exact Nat.le_of_ble_eq_true rfl) (fun K C X => ?_)
  show Zs K 0 0 (wX1 g a0 r0 q0_0 s0 ++ wX5 g q0_0 r1 s1) [(0, .ref a0), (1, .int p1), (2, .int p2), (3, .int p3)] 0 []
  unfold f_X1_giveHint at h
  refine z_iload_n (pc := 0) (x := p2) C dX1_giveHint_0 (i := 2) rfl rfl ?_
  refine z_iload_n (pc := 1) (x := p3) C dX1_giveHint_1 (i := 3) rfl rfl ?_
  replace h := ob_e h
  obtain ⟨x1, hx1, h⟩ := h
  refine z_callSN (pc := 2) (As := [.int p2, .int p3]) (rest := []) (wr := (wX1 g a0 r0 q0_0 s0 ++ wX5 g q0_0 r1 s1)) C dX1_giveHint_2 mn_RX1_153 wt_X7_kindsOfWord (m_X7_kindsOfWord hg hx1) [] [0, 1, 2, 3, 4, 5, 6, 7, 8, 9, 10, 11, 12] rfl rfl ⟨by decide, by decide⟩ (Nat.le_of_ble_eq_true rfl) ⟨by decide, by decide⟩ rfl rfl rfl rfl (by decide) (ex_k C (cs' := 0) (ss' := 0) (wF := (wX1 g a0 r0 q0_0 s0 ++ wX5 g q0_0 r1 s1)) [0, 1, 2, 3, 4, 5, 6, 7, 8, 9, 10, 11, 12] rfl rfl ?_)
  refine z_istore (pc := 5) C dX1_giveHint_5 (by decide) (lv' := [(4, .int x1), (0, .ref a0), (1, .int p1), (2, .int p2), (3, .int p3)]) rfl ?_
  refine z_iconst (pc := 7) C dX1_giveHint_7 ic_0 ?_
  refine z_istore (pc := 8) C dX1_giveHint_8 (by decide) (lv' := [(5, .int (0 : Int32)), (4, .int x1), (0, .ref a0), (1, .int p1), (2, .int p2), (3, .int p3)]) rfl ?_
  refine z_iconst (pc := 10) C dX1_giveHint_10 ic_0 ?_
  refine z_istore (pc := 11) C dX1_giveHint_11 (by decide) (lv' := [(6, .int (0 : Int32)), (5, .int (0 : Int32)), (4, .int x1), (0, .ref a0), (1, .int p1), (2, .int p2), (3, .int p3)]) rfl ?_
  refine z_lv (lv' := [(0, .ref a0), (1, .int p1), (2, .int p2), (3, .int p3), (4, .int x1), (5, .int (0 : Int32)), (6, .int (0 : Int32))]) [3, 4, 5, 6, 2, 1, 0] rfl ?_
  exact m_X1_giveHint_13 (a0 := a0) (r0 := r0) (q0_0 := q0_0) (r1 := r1) hg C X N x1 (0 : Int32) (0 : Int32) s0 h
def f_X1_passTurn (N : Nat) (s0 : Ob) (s1 : Ob) : Option (Ob) := (ob (f_X1_writeLog N s0 (3 : Int32) (-1 : Int32) (-1 : Int32)) fun x1 => (ob (f_X1_endTurn N x1 s1) fun x2 => (some x2)))
theorem m_X1_passTurn {g : Gp} {a0 : Nat} {r0 : Nat → Nat} {q0_0 : Nat} {r1 : Nat → Nat} {N : Nat} {s0 : Ob} {s1 : Ob} {res : Ob} (hg : Ok g) (h : f_X1_passTurn N s0 s1 = some res) : Ct g yX1_passTurn cX1_passTurn 1 none (zrm 1 24) [.ref a0] (wX1 g a0 r0 q0_0 s0 ++ wX5 g q0_0 r1 s1) (exR none (wX1 g a0 r0 q0_0 res ++ wX5 g q0_0 r1 s1)) := by
  refine ct_of rfl hg (by show _ ≤ _; exact Nat.le_of_ble_eq_true rfl) (fun K C X => ?_)
  show Zs K 0 0 (wX1 g a0 r0 q0_0 s0 ++ wX5 g q0_0 r1 s1) [(0, .ref a0)] 0 []
  unfold f_X1_passTurn at h
  refine z_aload_n (pc := 0) (x := a0) C dX1_passTurn_0 (i := 0) rfl rfl ?_
  refine z_iconst (pc := 1) C dX1_passTurn_1 ic_3 ?_
  refine z_iconst (pc := 2) C dX1_passTurn_2 ic_m1 ?_
  refine z_iconst (pc := 3) C dX1_passTurn_3 ic_m1 ?_
  replace h := ob_e h
  obtain ⟨x1, hx1, h⟩ := h
  refine z_callV (pc := 4) (As := [.int (3 : Int32), .int (-1 : Int32), .int (-1 : Int32)]) (rest := []) (wr := (wX5 g q0_0 r1 s1)) C dX1_passTurn_4 ml_RX1_171 wv_X1_writeLog (m_X1_writeLog (a0 := a0) (r0 := r0) (q0_0 := q0_0) hg hx1) [0, 1, 2, 3, 4, 5, 6, 7, 8] [9, 10, 11, 12] rfl rfl ⟨by decide, by decide⟩ (Nat.le_of_ble_eq_true rfl) ⟨by decide, by decide⟩ rfl rfl rfl rfl rfl rfl rfl (by decide) (ex_k C (cs' := 0) (ss' := 0) (wF := (wX1 g a0 r0 q0_0 x1 ++ wX5 g q0_0 r1 s1)) [4, 5, 6, 7, 8, 9, 10, 11, 12, 0, 1, 2, 3] rfl rfl ?_)
  refine z_aload_n (pc := 7) (x := a0) C dX1_passTurn_7 (i := 0) rfl rfl ?_
  replace h := ob_e h
  obtain ⟨x2, hx2, h⟩ := h
  refine z_callV (pc := 8) (As := []) (rest := []) (wr := ([] : va_W)) C dX1_passTurn_8 ml_RX1_178 wv_X1_endTurn (m_X1_endTurn (a0 := a0) (r0 := r0) (q0_0 := q0_0) (r1 := r1) hg hx2) [0, 1, 2, 3, 4, 5, 6, 7, 8, 9, 10, 11, 12] [] rfl rfl ⟨by decide, by decide⟩ (Nat.le_of_ble_eq_true rfl) ⟨by decide, by decide⟩ rfl rfl rfl rfl rfl rfl rfl (by decide) (ex_k C (cs' := 0) (ss' := 0) (wF := (wX1 g a0 r0 q0_0 x2 ++ wX5 g q0_0 r1 s1)) [0, 1, 2, 3, 4, 5, 6, 7, 8, 9, 10, 11, 12] rfl rfl ?_)
  exact z_vret C X dX1_passTurn_11 (by rw [← Option.some.inj h]; exact ⟨rfl, rfl⟩) (by decide) (by decide)
def f_X0_takeTurn (N : Nat) (s0 : Ob) (s1 : Ob) (s2 : Ob) : Option (Ob) := (if (s0.1 0) = (0 : Int32) then (ob (f_X1_playCard N s1 s2 (s0.1 1)) fun x1 => (some x1)) else (if (s0.1 0) = (1 : Int32) then (ob (f_X1_discardCard N s1 s2 (s0.1 1)) fun x2 => (some x2)) else (if (s0.1 0) = (2 : Int32) then (ob (f_X1_giveHint N s1 s2 (s0.1 1) (s0.1 2) (s0.1 3)) fun x3 => (some x3.2)) else (ob (f_X1_passTurn N s1 s2) fun x4 => (some x4)))))
theorem m_X0_takeTurn {g : Gp} {a0 : Nat} {a1 : Nat} {r0 : Nat → Nat} {q0_4 : Nat} {r1 : Nat → Nat} {q1_0 : Nat} {r2 : Nat → Nat} {N : Nat} {s0 : Ob} {s1 : Ob} {s2 : Ob} {res : Ob} (hg : Ok g) (h : f_X0_takeTurn N s0 s1 s2 = some res) : Ct g yX0_takeTurn cX0_takeTurn 2 none (zrm 5 111) [.ref a0, .ref a1] (wX0 g a0 r0 q0_4 s0 ++ wX1 g a1 r1 q1_0 s1 ++ wX5 g q1_0 r2 s2) (exR none (wX0 g a0 r0 q0_4 s0 ++ wX1 g a1 r1 q1_0 res ++ wX5 g q1_0 r2 s2)) := by
  refine ct_of rfl hg (by show _ ≤ _; exact Nat.le_of_ble_eq_true rfl) (fun K C X => ?_)
  show Zs K 0 0 (wX0 g a0 r0 q0_4 s0 ++ wX1 g a1 r1 q1_0 s1 ++ wX5 g q1_0 r2 s2) [(0, .ref a0), (1, .ref a1)] 0 []
  unfold f_X0_takeTurn at h
  refine z_aload_n (pc := 0) (x := a0) C dX0_takeTurn_0 (i := 0) rfl rfl ?_
  refine z_get (pc := 1) (v := .int (s0.1 0)) C 0 dX0_takeTurn_1 fl_RX0_15 rfl rfl ?_
  refine (Decidable.em ((s0.1 0) = (0 : Int32))).elim (fun hc => ?_) (fun hn0 => ?_)
  · refine z_tswIn (pc := 4) C (0 : Int32) dX0_takeTurn_4 hc (by decide) (by decide) (off := 28) rfl (tgt := 32) (by decide) ?_
    replace h := (ite_e h).1 hc
    refine z_aload_n (pc := 32) (x := a1) C dX0_takeTurn_32 (i := 1) rfl rfl ?_
    refine z_aload_n (pc := 33) (x := a0) C dX0_takeTurn_33 (i := 0) rfl rfl ?_
    refine z_get (pc := 34) (v := .int (s0.1 1)) C 0 dX0_takeTurn_34 fl_RX0_19 rfl rfl ?_
    replace h := ob_e h
    obtain ⟨x1, hx1, h⟩ := h
    refine z_callV (pc := 37) (As := [.int (s0.1 1)]) (rest := []) (wr := (wX0 g a0 r0 q0_4 s0)) C dX0_takeTurn_37 ml_RX0_22 wv_X1_playCard (m_X1_playCard (a0 := a1) (r0 := r1) (q0_0 := q1_0) (r1 := r2) hg hx1) [1, 2, 3, 4, 5, 6, 7, 8, 9, 10, 11, 12, 13] [0] rfl rfl ⟨by decide, by decide⟩ (Nat.le_of_ble_eq_true rfl) ⟨by decide, by decide⟩ rfl rfl rfl rfl rfl rfl rfl (by decide) (ex_k C (cs' := 0) (ss' := 0) (wF := (wX0 g a0 r0 q0_4 s0 ++ wX1 g a1 r1 q1_0 x1 ++ wX5 g q1_0 r2 s2)) [0, 1, 2, 3, 4, 5, 6, 7, 8, 9, 10, 11, 12, 13] rfl rfl ?_)
    refine z_goto (pc := 40) C dX0_takeTurn_40 (tgt := 78) (by decide) ?_
    exact z_vret C X dX0_takeTurn_78 (by rw [← Option.some.inj h]; exact ⟨rfl, rfl⟩) (by decide) (by decide)
  replace h := (ite_e h).2 hn0
  refine (Decidable.em ((s0.1 0) = (1 : Int32))).elim (fun hc => ?_) (fun hn1 => ?_)
  · refine z_tswIn (pc := 4) C (1 : Int32) dX0_takeTurn_4 hc (by decide) (by decide) (off := 39) rfl (tgt := 43) (by decide) ?_
    replace h := (ite_e h).1 hc
    refine z_aload_n (pc := 43) (x := a1) C dX0_takeTurn_43 (i := 1) rfl rfl ?_
    refine z_aload_n (pc := 44) (x := a0) C dX0_takeTurn_44 (i := 0) rfl rfl ?_
    refine z_get (pc := 45) (v := .int (s0.1 1)) C 0 dX0_takeTurn_45 fl_RX0_19 rfl rfl ?_
    replace h := ob_e h
    obtain ⟨x2, hx2, h⟩ := h
    refine z_callV (pc := 48) (As := [.int (s0.1 1)]) (rest := []) (wr := (wX0 g a0 r0 q0_4 s0)) C dX0_takeTurn_48 ml_RX0_28 wv_X1_discardCard (m_X1_discardCard (a0 := a1) (r0 := r1) (q0_0 := q1_0) (r1 := r2) hg hx2) [1, 2, 3, 4, 5, 6, 7, 8, 9, 10, 11, 12, 13] [0] rfl rfl ⟨by decide, by decide⟩ (Nat.le_of_ble_eq_true rfl) ⟨by decide, by decide⟩ rfl rfl rfl rfl rfl rfl rfl (by decide) (ex_k C (cs' := 0) (ss' := 0) (wF := (wX0 g a0 r0 q0_4 s0 ++ wX1 g a1 r1 q1_0 x2 ++ wX5 g q1_0 r2 s2)) [0, 1, 2, 3, 4, 5, 6, 7, 8, 9, 10, 11, 12, 13] rfl rfl ?_)
    refine z_goto (pc := 51) C dX0_takeTurn_51 (tgt := 78) (by decide) ?_
    exact z_vret C X dX0_takeTurn_78 (by rw [← Option.some.inj h]; exact ⟨rfl, rfl⟩) (by decide) (by decide)
  replace h := (ite_e h).2 hn1
  refine (Decidable.em ((s0.1 0) = (2 : Int32))).elim (fun hc => ?_) (fun hn2 => ?_)
  · refine z_tswIn (pc := 4) C (2 : Int32) dX0_takeTurn_4 hc (by decide) (by decide) (off := 50) rfl (tgt := 54) (by decide) ?_
    replace h := (ite_e h).1 hc
    refine z_aload_n (pc := 54) (x := a1) C dX0_takeTurn_54 (i := 1) rfl rfl ?_
    refine z_aload_n (pc := 55) (x := a0) C dX0_takeTurn_55 (i := 0) rfl rfl ?_
    refine z_get (pc := 56) (v := .int (s0.1 1)) C 0 dX0_takeTurn_56 fl_RX0_19 rfl rfl ?_
    refine z_aload_n (pc := 59) (x := a0) C dX0_takeTurn_59 (i := 0) rfl rfl ?_
    refine z_get (pc := 60) (v := .int (s0.1 2)) C 0 dX0_takeTurn_60 fl_RX0_31 rfl rfl ?_
    refine z_aload_n (pc := 63) (x := a0) C dX0_takeTurn_63 (i := 0) rfl rfl ?_
    refine z_get (pc := 64) (v := .int (s0.1 3)) C 0 dX0_takeTurn_64 fl_RX0_34 rfl rfl ?_
    replace h := ob_e h
    obtain ⟨x3, hx3, h⟩ := h
    refine z_callV (pc := 67) (As := [.int (s0.1 1), .int (s0.1 2), .int (s0.1 3)]) (rest := []) (wr := (wX0 g a0 r0 q0_4 s0)) C dX0_takeTurn_67 ml_RX0_37 wv_X1_giveHint (m_X1_giveHint (a0 := a1) (r0 := r1) (q0_0 := q1_0) (r1 := r2) hg hx3) [1, 2, 3, 4, 5, 6, 7, 8, 9, 10, 11, 12, 13] [0] rfl rfl ⟨by decide, by decide⟩ (Nat.le_of_ble_eq_true rfl) ⟨by decide, by decide⟩ rfl rfl rfl rfl rfl rfl rfl (by decide) (ex_k C (cs' := 0) (ss' := 0) (wF := (wX0 g a0 r0 q0_4 s0 ++ wX1 g a1 r1 q1_0 x3.2 ++ wX5 g q1_0 r2 s2)) [0, 1, 2, 3, 4, 5, 6, 7, 8, 9, 10, 11, 12, 13] rfl rfl ?_)
    refine z_pop (pc := 70) C dX0_takeTurn_70 rfl ?_
    refine z_goto (pc := 71) C dX0_takeTurn_71 (tgt := 78) (by decide) ?_
    exact z_vret C X dX0_takeTurn_78 (by rw [← Option.some.inj h]; exact ⟨rfl, rfl⟩) (by decide) (by decide)
  replace h := (ite_e h).2 hn2
  refine z_tswOut (pc := 4) C dX0_takeTurn_4 (by have e0 := lv_neT hn0 (a := 0) (by decide); have e1 := lv_neT hn1 (a := 1) (by decide); have e2 := lv_neT hn2 (a := 2) (by decide); omega) (tgt := 74) (by decide) ?_
  refine z_aload_n (pc := 74) (x := a1) C dX0_takeTurn_74 (i := 1) rfl rfl ?_
  replace h := ob_e h
  obtain ⟨x4, hx4, h⟩ := h
  refine z_callV (pc := 75) (As := []) (rest := []) (wr := (wX0 g a0 r0 q0_4 s0)) C dX0_takeTurn_75 ml_RX0_41 wv_X1_passTurn (m_X1_passTurn (a0 := a1) (r0 := r1) (q0_0 := q1_0) (r1 := r2) hg hx4) [1, 2, 3, 4, 5, 6, 7, 8, 9, 10, 11, 12, 13] [0] rfl rfl ⟨by decide, by decide⟩ (Nat.le_of_ble_eq_true rfl) ⟨by decide, by decide⟩ rfl rfl rfl rfl rfl rfl rfl (by decide) (ex_k C (cs' := 0) (ss' := 0) (wF := (wX0 g a0 r0 q0_4 s0 ++ wX1 g a1 r1 q1_0 x4 ++ wX5 g q1_0 r2 s2)) [0, 1, 2, 3, 4, 5, 6, 7, 8, 9, 10, 11, 12, 13] rfl rfl ?_)
  exact z_vret C X dX0_takeTurn_78 (by rw [← Option.some.inj h]; exact ⟨rfl, rfl⟩) (by decide) (by decide)
def F_X1_playableKinds_4 (N : Nat) (s0 : Ob) (s1 : Ob)  (k4 : Int32 → Int32 → Option (Int32)) (v1 : Int32) (v2 : Int32) : Option (Int32) := (if (s1.1 0) ≤ v2 then (some v1) else (ob (f_X1_topOf N s0 v2) fun x1 => (znm ((((1 : Int32) <<< (x1 &&& 31)) &&& (31 : Int32)) <<< ((v2 * (5 : Int32)) &&& 31)) fun x2 => (k4 (v1 ||| x2) (v2 + (1 : Int32))))))
def f_X1_playableKinds_4 (N : Nat) (s0 : Ob) (s1 : Ob)  : Nat → Int32 → Int32 → Option (Int32) := zlp (fun _ _ => none) (F_X1_playableKinds_4 N s0 s1)
theorem m_X1_playableKinds_4 {K : Kt} {g : Gp} {a0 : Nat} {r0 : Nat → Nat} {q0_0 : Nat} {r1 : Nat → Nat} {N : Nat} {s0 : Ob} {s1 : Ob} {res : Int32} (hg : Ok g) (C : Cx K g cX1_playableKinds RX1 3 (zrm 1 21)) (X : Rx K (exR (some (.int res)) (wX1 g a0 r0 q0_0 s0 ++ wX5 g q0_0 r1 s1)) 0 0 (some .int)) : ∀ (n : Nat) (v1 : Int32) (v2 : Int32), f_X1_playableKinds_4 N s0 s1 n v1 v2 = some res → Zs K 0 0 (wX1 g a0 r0 q0_0 s0 ++ wX5 g q0_0 r1 s1) [(0, .ref a0), (1, .int v1), (2, .int v2)] 4 [] := by
  intro n
  induction n with
  | zero => intro v1 v2 h; exact nomatch (show (none : Option (Int32)) = some res from h)
  | succ n hk4 =>
    intro v1 v2 h
    replace h : F_X1_playableKinds_4 N s0 s1 (f_X1_playableKinds_4 N s0 s1 n) v1 v2 = some res := h
    unfold F_X1_playableKinds_4 at h
    refine z_iload_n (pc := 4) (x := v2) C dX1_playableKinds_4 (i := 2) rfl rfl ?_
    refine z_aload_n (pc := 5) (x := a0) C dX1_playableKinds_5 (i := 0) rfl rfl ?_
    refine z_get (pc := 6) (v := .ref q0_0) C 0 dX1_playableKinds_6 fl_RX1_38 rfl rfl ?_
    refine z_get (pc := 9) (v := .int (s1.1 0)) C 9 dX1_playableKinds_9 fl_RX1_104 rfl rfl ?_
    refine z_icmp_ge (pc := 12) C dX1_playableKinds_12 (tgt := 38) (by decide) (fun hc => ?_) (fun hc => ?_)
    · replace h := (ite_e h).1 hc
      refine z_iload_n (pc := 38) (x := v1) C dX1_playableKinds_38 (i := 1) rfl rfl ?_
      exact z_iret C X dX1_playableKinds_39 (by rw [← Option.some.inj h]; exact ⟨rfl, rfl⟩) (by decide) (by decide)
    · replace h := (ite_e h).2 hc
      refine z_iload_n (pc := 15) (x := v1) C dX1_playableKinds_15 (i := 1) rfl rfl ?_
      refine z_iconst (pc := 16) C dX1_playableKinds_16 ic_1 ?_
      refine z_aload_n (pc := 17) (x := a0) C dX1_playableKinds_17 (i := 0) rfl rfl ?_
      refine z_iload_n (pc := 18) (x := v2) C dX1_playableKinds_18 (i := 2) rfl rfl ?_
      replace h := ob_e h
      obtain ⟨x1, hx1, h⟩ := h
      refine z_callV (pc := 19) (As := [.int v2]) (rest := [.int (1 : Int32), .int v1]) (wr := (wX5 g q0_0 r1 s1)) C dX1_playableKinds_19 ml_RX1_133 wv_X1_topOf (m_X1_topOf (a0 := a0) (r0 := r0) (q0_0 := q0_0) hg hx1) [0, 1, 2, 3, 4, 5, 6, 7, 8] [9, 10, 11, 12] rfl rfl ⟨by decide, by decide⟩ (Nat.le_of_ble_eq_true rfl) ⟨by decide, by decide⟩ rfl rfl rfl rfl rfl rfl rfl (by decide) (ex_k C (cs' := 0) (ss' := 0) (wF := (wX1 g a0 r0 q0_0 s0 ++ wX5 g q0_0 r1 s1)) [4, 5, 6, 7, 8, 9, 10, 11, 12, 0, 1, 2, 3] rfl rfl ?_)
      refine z_ishl (pc := 22) C dX1_playableKinds_22 ?_
      refine z_bipush (pc := 23) C dX1_playableKinds_23 bp_31 ?_
      refine z_iand (pc := 25) C dX1_playableKinds_25 ?_
      refine z_iload_n (pc := 26) (x := v2) C dX1_playableKinds_26 (i := 2) rfl rfl ?_
      refine z_iconst (pc := 27) C dX1_playableKinds_27 ic_5 ?_
      refine z_imul (pc := 28) C dX1_playableKinds_28 ?_
      refine z_ishl (pc := 29) C dX1_playableKinds_29 ?_
      replace h := znm_e h
      obtain ⟨x2, hx2, h⟩ := h
      refine z_top1 hx2 ?_
      refine z_ior (pc := 30) C dX1_playableKinds_30 ?_
      refine z_istore_n (pc := 31) C dX1_playableKinds_31 (i := 1) rfl (by decide) (lv' := [(1, .int (v1 ||| x2)), (0, .ref a0), (2, .int v2)]) rfl ?_
      refine z_iinc (pc := 32) C dX1_playableKinds_32 rfl (inc_e 1 (1 : Int32) ic_1 v2) (by decide) (lv' := [(2, .int (v2 + (1 : Int32))), (1, .int (v1 ||| x2)), (0, .ref a0)]) rfl ?_
      refine z_goto (pc := 35) C dX1_playableKinds_35 (tgt := 4) (by decide) ?_
      refine z_lv (lv' := [(0, .ref a0), (1, .int (v1 ||| x2)), (2, .int (v2 + (1 : Int32)))]) [2, 1, 0] rfl ?_
      exact hk4 (v1 ||| x2) (v2 + (1 : Int32)) h
def f_X1_playableKinds (N : Nat) (s0 : Ob) (s1 : Ob) : Option (Int32) := (f_X1_playableKinds_4 N s0 s1 N (0 : Int32) (0 : Int32))
theorem m_X1_playableKinds {g : Gp} {a0 : Nat} {r0 : Nat → Nat} {q0_0 : Nat} {r1 : Nat → Nat} {N : Nat} {s0 : Ob} {s1 : Ob} {res : Int32} (hg : Ok g) (h : f_X1_playableKinds N s0 s1 = some res) : Ct g yX1_playableKinds cX1_playableKinds 3 (some .int) (zrm 1 21) [.ref a0] (wX1 g a0 r0 q0_0 s0 ++ wX5 g q0_0 r1 s1) (exR (some (.int res)) (wX1 g a0 r0 q0_0 s0 ++ wX5 g q0_0 r1 s1)) := by
  refine ct_of rfl hg (by show _ ≤ _; exact Nat.le_of_ble_eq_true rfl) (fun K C X => ?_)
  show Zs K 0 0 (wX1 g a0 r0 q0_0 s0 ++ wX5 g q0_0 r1 s1) [(0, .ref a0)] 0 []
  unfold f_X1_playableKinds at h
  refine z_iconst (pc := 0) C dX1_playableKinds_0 ic_0 ?_
  refine z_istore_n (pc := 1) C dX1_playableKinds_1 (i := 1) rfl (by decide) (lv' := [(1, .int (0 : Int32)), (0, .ref a0)]) rfl ?_
  refine z_iconst (pc := 2) C dX1_playableKinds_2 ic_0 ?_
  refine z_istore_n (pc := 3) C dX1_playableKinds_3 (i := 2) rfl (by decide) (lv' := [(2, .int (0 : Int32)), (1, .int (0 : Int32)), (0, .ref a0)]) rfl ?_
  refine z_lv (lv' := [(0, .ref a0), (1, .int (0 : Int32)), (2, .int (0 : Int32))]) [2, 1, 0] rfl ?_
  exact m_X1_playableKinds_4 (a0 := a0) (r0 := r0) (q0_0 := q0_0) (r1 := r1) hg C X N (0 : Int32) (0 : Int32) h
def f_X5_copiesOf (N : Nat) (s0 : Ob) (p1 : Int32) : Option (Int32) := (if p1 < 0 then (some (0 : Int32)) else (if (20 : Int32) ≤ p1 then (some (0 : Int32)) else (chk (inb p1 20) (some ((s0.2.2.1 9) (p1).toNatClampNeg)))))
theorem m_X5_copiesOf {g : Gp} {a0 : Nat} {r0 : Nat → Nat} {N : Nat} {s0 : Ob} {p1 : Int32} {res : Int32} (hg : Ok g) (h : f_X5_copiesOf N s0 p1 = some res) : Ct g yX5_copiesOf cX5_copiesOf 2 (some .int) (zrm 0 0) [.ref a0, .int p1] (wX5 g a0 r0 s0) (exR (some (.int res)) (wX5 g a0 r0 s0)) := by
  refine ct_of rfl hg (by show _ ≤ _; exact Nat.le_of_ble_eq_true rfl) (fun K C X => ?_)
  show Zs K 0 0 (wX5 g a0 r0 s0) [(0, .ref a0), (1, .int p1)] 0 []
  unfold f_X5_copiesOf at h
  refine z_iload_n (pc := 0) (x := p1) C dX5_copiesOf_0 (i := 1) rfl rfl ?_
  refine z_if_lt (pc := 1) C dX5_copiesOf_1 (tgt := 19) (by decide) (fun hc => ?_) (fun hc => ?_)
  · replace h := (ite_e h).1 hc
    refine z_iconst (pc := 19) C dX5_copiesOf_19 ic_0 ?_
    exact z_iret C X dX5_copiesOf_20 (by rw [← Option.some.inj h]; exact ⟨rfl, rfl⟩) (by decide) (by decide)
  · replace h := (ite_e h).2 hc
    refine z_iload_n (pc := 4) (x := p1) C dX5_copiesOf_4 (i := 1) rfl rfl ?_
    refine z_bipush (pc := 5) C dX5_copiesOf_5 bp_20 ?_
    refine z_icmp_ge (pc := 7) C dX5_copiesOf_7 (tgt := 19) (by decide) (fun hc => ?_) (fun hc => ?_)
    · replace h := (ite_e h).1 hc
      refine z_iconst (pc := 19) C dX5_copiesOf_19 ic_0 ?_
      exact z_iret C X dX5_copiesOf_20 (by rw [← Option.some.inj h]; exact ⟨rfl, rfl⟩) (by decide) (by decide)
    · replace h := (ite_e h).2 hc
      refine z_aload_n (pc := 10) (x := a0) C dX5_copiesOf_10 (i := 0) rfl rfl ?_
      refine z_get (pc := 11) (v := .ref (r0 9)) C 0 dX5_copiesOf_11 fl_RX5_25 rfl rfl ?_
      refine z_iload_n (pc := 14) (x := p1) C dX5_copiesOf_14 (i := 1) rfl rfl ?_
      replace h := chk_e h
      obtain ⟨hb1, h⟩ := h
      refine z_iald (pc := 15) C 2 dX5_copiesOf_15 rfl hb1 ?_
      refine z_goto (pc := 16) C dX5_copiesOf_16 (tgt := 20) (by decide) ?_
      exact z_iret C X dX5_copiesOf_20 (by rw [← Option.some.inj h]; exact ⟨rfl, rfl⟩) (by decide) (by decide)
def f_X1_inHeap (N : Nat) (s0 : Ob) (p1 : Int32) : Option (Int32) := (if p1 < 0 then (some (0 : Int32)) else (if (20 : Int32) ≤ p1 then (some (0 : Int32)) else (chk (inb p1 20) (some ((s0.2.2.1 12) (p1).toNatClampNeg)))))
theorem m_X1_inHeap {g : Gp} {a0 : Nat} {r0 : Nat → Nat} {q0_0 : Nat} {N : Nat} {s0 : Ob} {p1 : Int32} {res : Int32} (hg : Ok g) (h : f_X1_inHeap N s0 p1 = some res) : Ct g yX1_inHeap cX1_inHeap 2 (some .int) (zrm 0 0) [.ref a0, .int p1] (wX1 g a0 r0 q0_0 s0) (exR (some (.int res)) (wX1 g a0 r0 q0_0 s0)) := by
  refine ct_of rfl hg (by show _ ≤ _; exact Nat.le_of_ble_eq_true rfl) (fun K C X => ?_)
  show Zs K 0 0 (wX1 g a0 r0 q0_0 s0) [(0, .ref a0), (1, .int p1)] 0 []
  unfold f_X1_inHeap at h
  refine z_iload_n (pc := 0) (x := p1) C dX1_inHeap_0 (i := 1) rfl rfl ?_
  refine z_if_lt (pc := 1) C dX1_inHeap_1 (tgt := 19) (by decide) (fun hc => ?_) (fun hc => ?_)
  · replace h := (ite_e h).1 hc
    refine z_iconst (pc := 19) C dX1_inHeap_19 ic_0 ?_
    exact z_iret C X dX1_inHeap_20 (by rw [← Option.some.inj h]; exact ⟨rfl, rfl⟩) (by decide) (by decide)
  · replace h := (ite_e h).2 hc
    refine z_iload_n (pc := 4) (x := p1) C dX1_inHeap_4 (i := 1) rfl rfl ?_
    refine z_bipush (pc := 5) C dX1_inHeap_5 bp_20 ?_
    refine z_icmp_ge (pc := 7) C dX1_inHeap_7 (tgt := 19) (by decide) (fun hc => ?_) (fun hc => ?_)
    · replace h := (ite_e h).1 hc
      refine z_iconst (pc := 19) C dX1_inHeap_19 ic_0 ?_
      exact z_iret C X dX1_inHeap_20 (by rw [← Option.some.inj h]; exact ⟨rfl, rfl⟩) (by decide) (by decide)
    · replace h := (ite_e h).2 hc
      refine z_aload_n (pc := 10) (x := a0) C dX1_inHeap_10 (i := 0) rfl rfl ?_
      refine z_get (pc := 11) (v := .ref (r0 12)) C 0 dX1_inHeap_11 fl_RX1_24 rfl rfl ?_
      refine z_iload_n (pc := 14) (x := p1) C dX1_inHeap_14 (i := 1) rfl rfl ?_
      replace h := chk_e h
      obtain ⟨hb1, h⟩ := h
      refine z_iald (pc := 15) C 5 dX1_inHeap_15 rfl hb1 ?_
      refine z_goto (pc := 16) C dX1_inHeap_16 (tgt := 20) (by decide) ?_
      exact z_iret C X dX1_inHeap_20 (by rw [← Option.some.inj h]; exact ⟨rfl, rfl⟩) (by decide) (by decide)
def f_X1_isOnPile (N : Nat) (s0 : Ob) (p1 : Int32) : Option (Int32) := (ob (f_X1_topOf N s0 (p1 / (5 : Int32))) fun x1 => (if x1 ≤ (p1 - p1 / (5 : Int32) * (5 : Int32)) then (some (0 : Int32)) else (some (1 : Int32))))
theorem m_X1_isOnPile {g : Gp} {a0 : Nat} {r0 : Nat → Nat} {q0_0 : Nat} {N : Nat} {s0 : Ob} {p1 : Int32} {res : Int32} (hg : Ok g) (h : f_X1_isOnPile N s0 p1 = some res) : Ct g yX1_isOnPile cX1_isOnPile 2 (some .boolean) (zrm 1 21) [.ref a0, .int p1] (wX1 g a0 r0 q0_0 s0) (exR (some (.int res)) (wX1 g a0 r0 q0_0 s0)) := by
  refine ct_of rfl hg (by show _ ≤ _; exact Nat.le_of_ble_eq_true rfl) (fun K C X => ?_)
  show Zs K 0 0 (wX1 g a0 r0 q0_0 s0) [(0, .ref a0), (1, .int p1)] 0 []
  unfold f_X1_isOnPile at h
  refine z_aload_n (pc := 0) (x := a0) C dX1_isOnPile_0 (i := 0) rfl rfl ?_
  refine z_iload_n (pc := 1) (x := p1) C dX1_isOnPile_1 (i := 1) rfl rfl ?_
  refine z_iconst (pc := 2) C dX1_isOnPile_2 ic_5 ?_
  refine z_idiv (pc := 3) C dX1_isOnPile_3 (by decide) ?_
  replace h := ob_e h
  obtain ⟨x1, hx1, h⟩ := h
  refine z_callV (pc := 4) (As := [.int (p1 / (5 : Int32))]) (rest := []) (wr := ([] : va_W)) C dX1_isOnPile_4 ml_RX1_133 wv_X1_topOf (m_X1_topOf (a0 := a0) (r0 := r0) (q0_0 := q0_0) hg hx1) [0, 1, 2, 3, 4, 5, 6, 7, 8] [] rfl rfl ⟨by decide, by decide⟩ (Nat.le_of_ble_eq_true rfl) ⟨by decide, by decide⟩ rfl rfl rfl rfl rfl rfl rfl (by decide) (ex_k C (cs' := 0) (ss' := 0) (wF := (wX1 g a0 r0 q0_0 s0)) [0, 1, 2, 3, 4, 5, 6, 7, 8] rfl rfl ?_)
  refine z_iload_n (pc := 7) (x := p1) C dX1_isOnPile_7 (i := 1) rfl rfl ?_
  refine z_iconst (pc := 8) C dX1_isOnPile_8 ic_5 ?_
  refine z_irem (pc := 9) C dX1_isOnPile_9 (by decide) ?_
  refine z_icmp_le (pc := 10) C dX1_isOnPile_10 (tgt := 17) (by decide) (fun hc => ?_) (fun hc => ?_)
  · replace h := (ite_e h).1 hc
    refine z_iconst (pc := 17) C dX1_isOnPile_17 ic_0 ?_
    exact z_zret C X dX1_isOnPile_18 rfl (by rw [← Option.some.inj h]; exact ⟨rfl, rfl⟩) (by decide) (by decide)
  · replace h := (ite_e h).2 hc
    refine z_iconst (pc := 13) C dX1_isOnPile_13 ic_1 ?_
    refine z_goto (pc := 14) C dX1_isOnPile_14 (tgt := 18) (by decide) ?_
    exact z_zret C X dX1_isOnPile_18 rfl (by rw [← Option.some.inj h]; exact ⟨rfl, rfl⟩) (by decide) (by decide)
def F_X2_unseenKinds_120 (N : Nat) (s1 : Ob) (s2 : Ob) (p2 : Int32)  (k120 : Int32 → Int32 → Ob → Option (Int32 × Ob)) (v3 : Int32) (v4 : Int32) (s0 : Ob) : Option (Int32 × Ob) := (if (20 : Int32) ≤ v4 then (some (v3, s0)) else (chk (inb v4 20) (if ((s0.2.2.1 0) (v4).toNatClampNeg) ≤ 0 then (k120 v3 (v4 + (1 : Int32)) s0) else (k120 (v3 ||| ((1 : Int32) <<< (v4 &&& 31))) (v4 + (1 : Int32)) s0))))
def f_X2_unseenKinds_120 (N : Nat) (s1 : Ob) (s2 : Ob) (p2 : Int32)  : Nat → Int32 → Int32 → Ob → Option (Int32 × Ob) := zlp (fun _ _ _ => none) (F_X2_unseenKinds_120 N s1 s2 p2)
theorem m_X2_unseenKinds_120 {K : Kt} {g : Gp} {a0 : Nat} {a1 : Nat} {r0 : Nat → Nat} {r1 : Nat → Nat} {q1_0 : Nat} {r2 : Nat → Nat} {N : Nat} {s1 : Ob} {s2 : Ob} {p2 : Int32} {res : Int32 × Ob} (hg : Ok g) (C : Cx K g cX2_unseenKinds RX2 6 (zrm 2 42)) (X : Rx K (exR (some (.int res.1)) (wX2 g a0 r0 res.2 ++ wX1 g a1 r1 q1_0 s1 ++ wX5 g q1_0 r2 s2)) 0 0 (some .int)) : ∀ (n : Nat) (v3 : Int32) (v4 : Int32) (s0 : Ob), f_X2_unseenKinds_120 N s1 s2 p2 n v3 v4 s0 = some res → Zs K 0 0 (wX2 g a0 r0 s0 ++ wX1 g a1 r1 q1_0 s1 ++ wX5 g q1_0 r2 s2) [(0, .ref a0), (3, .int v3), (4, .int v4)] 120 [] := by
  intro n
  induction n with
  | zero => intro v3 v4 s0 h; exact nomatch (show (none : Option (Int32 × Ob)) = some res from h)
  | succ n hk120 =>
    intro v3 v4 s0 h
    replace h : F_X2_unseenKinds_120 N s1 s2 p2 (f_X2_unseenKinds_120 N s1 s2 p2 n) v3 v4 s0 = some res := h
    unfold F_X2_unseenKinds_120 at h
    refine z_iload (pc := 120) (x := v4) C dX2_unseenKinds_120 rfl ?_
    refine z_bipush (pc := 122) C dX2_unseenKinds_122 bp_20 ?_
    refine z_icmp_ge (pc := 124) C dX2_unseenKinds_124 (tgt := 150) (by decide) (fun hc => ?_) (fun hc => ?_)
    · replace h := (ite_e h).1 hc
      refine z_iload_n (pc := 150) (x := v3) C dX2_unseenKinds_150 (i := 3) rfl rfl ?_
      exact z_iret C X dX2_unseenKinds_151 (by rw [← Option.some.inj h]; exact ⟨rfl, rfl⟩) (by decide) (by decide)
    · replace h := (ite_e h).2 hc
      refine z_aload_n (pc := 127) (x := a0) C dX2_unseenKinds_127 (i := 0) rfl rfl ?_
      refine z_get (pc := 128) (v := .ref (r0 0)) C 0 dX2_unseenKinds_128 fl_RX2_9 rfl rfl ?_
      refine z_iload (pc := 131) (x := v4) C dX2_unseenKinds_131 rfl ?_
      replace h := chk_e h
      obtain ⟨hb1, h⟩ := h
      refine z_iald (pc := 133) C 1 dX2_unseenKinds_133 rfl hb1 ?_
      refine z_if_le (pc := 134) C dX2_unseenKinds_134 (tgt := 144) (by decide) (fun hc => ?_) (fun hc => ?_)
      · replace h := (ite_e h).1 hc
        refine z_iinc (pc := 144) C dX2_unseenKinds_144 rfl (inc_e 1 (1 : Int32) ic_1 v4) (by decide) (lv' := [(4, .int (v4 + (1 : Int32))), (0, .ref a0), (3, .int v3)]) rfl ?_
        refine z_goto (pc := 147) C dX2_unseenKinds_147 (tgt := 120) (by decide) ?_
        refine z_lv (lv' := [(0, .ref a0), (3, .int v3), (4, .int (v4 + (1 : Int32)))]) [1, 2, 0] rfl ?_
        exact hk120 v3 (v4 + (1 : Int32)) s0 h
      · replace h := (ite_e h).2 hc
        refine z_iload_n (pc := 137) (x := v3) C dX2_unseenKinds_137 (i := 3) rfl rfl ?_
        refine z_iconst (pc := 138) C dX2_unseenKinds_138 ic_1 ?_
        refine z_iload (pc := 139) (x := v4) C dX2_unseenKinds_139 rfl ?_
        refine z_ishl (pc := 141) C dX2_unseenKinds_141 ?_
        refine z_ior (pc := 142) C dX2_unseenKinds_142 ?_
        refine z_istore_n (pc := 143) C dX2_unseenKinds_143 (i := 3) rfl (by decide) (lv' := [(3, .int (v3 ||| ((1 : Int32) <<< (v4 &&& 31)))), (0, .ref a0), (4, .int v4)]) rfl ?_
        refine z_iinc (pc := 144) C dX2_unseenKinds_144 rfl (inc_e 1 (1 : Int32) ic_1 v4) (by decide) (lv' := [(4, .int (v4 + (1 : Int32))), (3, .int (v3 ||| ((1 : Int32) <<< (v4 &&& 31)))), (0, .ref a0)]) rfl ?_
        refine z_goto (pc := 147) C dX2_unseenKinds_147 (tgt := 120) (by decide) ?_
        refine z_lv (lv' := [(0, .ref a0), (3, .int (v3 ||| ((1 : Int32) <<< (v4 &&& 31)))), (4, .int (v4 + (1 : Int32)))]) [2, 1, 0] rfl ?_
        exact hk120 (v3 ||| ((1 : Int32) <<< (v4 &&& 31))) (v4 + (1 : Int32)) s0 h
def F_X2_unseenKinds_64 (N : Nat) (s1 : Ob) (s2 : Ob) (p2 : Int32) (k50 : Int32 → Ob → Option (Int32 × Ob)) (k64 : Int32 → Int32 → Ob → Option (Int32 × Ob)) (v3 : Int32) (v4 : Int32) (s0 : Ob) : Option (Int32 × Ob) := (if v3 = p2 then (k50 (v3 + (1 : Int32)) s0) else (ob (f_X1_sizeOf N s1 v3) fun x2 => (if x2 ≤ v4 then (k50 (v3 + (1 : Int32)) s0) else (ob (f_X1_cardAt N s1 v3 v4) fun x3 => (ob (f_X1_kindOf N s1 s2 x3) fun x4 => (chk (inb x4 20) (chk (inb x4 20) (k64 v3 (v4 + (1 : Int32)) (sa s0 0 (upd (s0.2.2.1 0) (x4).toNatClampNeg (((s0.2.2.1 0) (x4).toNatClampNeg) - (1 : Int32))))))))))))
def f_X2_unseenKinds_64 (N : Nat) (s1 : Ob) (s2 : Ob) (p2 : Int32) (k50 : Int32 → Ob → Option (Int32 × Ob)) : Nat → Int32 → Int32 → Ob → Option (Int32 × Ob) := zlp (fun _ _ _ => none) (F_X2_unseenKinds_64 N s1 s2 p2 k50)
theorem m_X2_unseenKinds_64 {K : Kt} {g : Gp} {a0 : Nat} {a1 : Nat} {r0 : Nat → Nat} {r1 : Nat → Nat} {q1_0 : Nat} {r2 : Nat → Nat} {N : Nat} {s1 : Ob} {s2 : Ob} {p2 : Int32} {res : Int32 × Ob} (hg : Ok g) (C : Cx K g cX2_unseenKinds RX2 6 (zrm 2 42)) (X : Rx K (exR (some (.int res.1)) (wX2 g a0 r0 res.2 ++ wX1 g a1 r1 q1_0 s1 ++ wX5 g q1_0 r2 s2)) 0 0 (some .int)) {k50 : Int32 → Ob → Option (Int32 × Ob)} (hk50 : ∀ (v3 : Int32) (s0 : Ob), k50 v3 s0 = some res → Zs K 0 0 (wX2 g a0 r0 s0 ++ wX1 g a1 r1 q1_0 s1 ++ wX5 g q1_0 r2 s2) [(0, .ref a0), (1, .ref a1), (2, .int p2), (3, .int v3)] 50 []) : ∀ (n : Nat) (v3 : Int32) (v4 : Int32) (s0 : Ob), f_X2_unseenKinds_64 N s1 s2 p2 k50 n v3 v4 s0 = some res → Zs K 0 0 (wX2 g a0 r0 s0 ++ wX1 g a1 r1 q1_0 s1 ++ wX5 g q1_0 r2 s2) [(0, .ref a0), (1, .ref a1), (2, .int p2), (3, .int v3), (4, .int v4)] 64 [] := by
  intro n
  induction n with
  | zero => intro v3 v4 s0 h; exact nomatch (show (none : Option (Int32 × Ob)) = some res from h)
  | succ n hk64 =>
    intro v3 v4 s0 h
    replace h : F_X2_unseenKinds_64 N s1 s2 p2 k50 (f_X2_unseenKinds_64 N s1 s2 p2 k50 n) v3 v4 s0 = some res := h
    unfold F_X2_unseenKinds_64 at h
    refine z_iload_n (pc := 64) (x := v3) C dX2_unseenKinds_64 (i := 3) rfl rfl ?_
    refine z_iload_n (pc := 65) (x := p2) C dX2_unseenKinds_65 (i := 2) rfl rfl ?_
    refine z_icmp_eq (pc := 66) C dX2_unseenKinds_66 (tgt := 109) (by decide) (fun hc => ?_) (fun hc => ?_)
    · replace h := (ite_e h).1 hc
      refine z_iinc (pc := 109) C dX2_unseenKinds_109 rfl (inc_e 1 (1 : Int32) ic_1 v3) (by decide) (lv' := [(3, .int (v3 + (1 : Int32))), (0, .ref a0), (1, .ref a1), (2, .int p2), (4, .int v4)]) rfl ?_
      refine z_goto (pc := 112) C dX2_unseenKinds_112 (tgt := 50) (by decide) ?_
      refine z_lv (lv' := [(0, .ref a0), (1, .ref a1), (2, .int p2), (3, .int (v3 + (1 : Int32)))]) [1, 2, 3, 0] rfl ?_
      exact hk50 (v3 + (1 : Int32)) s0 h
    · replace h := (ite_e h).2 hc
      refine z_iload (pc := 69) (x := v4) C dX2_unseenKinds_69 rfl ?_
      refine z_aload_n (pc := 71) (x := a1) C dX2_unseenKinds_71 (i := 1) rfl rfl ?_
      refine z_iload_n (pc := 72) (x := v3) C dX2_unseenKinds_72 (i := 3) rfl rfl ?_
      replace h := ob_e h
      obtain ⟨x2, hx2, h⟩ := h
      refine z_callV (pc := 73) (As := [.int v3]) (rest := [.int v4]) (wr := (wX2 g a0 r0 s0 ++ wX5 g q1_0 r2 s2)) C dX2_unseenKinds_73 ml_RX2_38 wv_X1_sizeOf (m_X1_sizeOf (a0 := a1) (r0 := r1) (q0_0 := q1_0) hg hx2) [2, 3, 4, 5, 6, 7, 8, 9, 10] [0, 1, 11, 12, 13, 14] rfl rfl ⟨by decide, by decide⟩ (Nat.le_of_ble_eq_true rfl) ⟨by decide, by decide⟩ rfl rfl rfl rfl rfl rfl rfl (by decide) (ex_k C (cs' := 0) (ss' := 0) (wF := (wX2 g a0 r0 s0 ++ wX1 g a1 r1 q1_0 s1 ++ wX5 g q1_0 r2 s2)) [0, 1, 6, 7, 8, 9, 10, 11, 12, 13, 14, 2, 3, 4, 5] rfl rfl ?_)
      refine z_icmp_ge (pc := 76) C dX2_unseenKinds_76 (tgt := 109) (by decide) (fun hc => ?_) (fun hc => ?_)
      · replace h := (ite_e h).1 hc
        refine z_iinc (pc := 109) C dX2_unseenKinds_109 rfl (inc_e 1 (1 : Int32) ic_1 v3) (by decide) (lv' := [(3, .int (v3 + (1 : Int32))), (0, .ref a0), (1, .ref a1), (2, .int p2), (4, .int v4)]) rfl ?_
        refine z_goto (pc := 112) C dX2_unseenKinds_112 (tgt := 50) (by decide) ?_
        refine z_lv (lv' := [(0, .ref a0), (1, .ref a1), (2, .int p2), (3, .int (v3 + (1 : Int32)))]) [1, 2, 3, 0] rfl ?_
        exact hk50 (v3 + (1 : Int32)) s0 h
      · replace h := (ite_e h).2 hc
        refine z_aload_n (pc := 79) (x := a1) C dX2_unseenKinds_79 (i := 1) rfl rfl ?_
        refine z_aload_n (pc := 80) (x := a1) C dX2_unseenKinds_80 (i := 1) rfl rfl ?_
        refine z_iload_n (pc := 81) (x := v3) C dX2_unseenKinds_81 (i := 3) rfl rfl ?_
        refine z_iload (pc := 82) (x := v4) C dX2_unseenKinds_82 rfl ?_
        replace h := ob_e h
        obtain ⟨x3, hx3, h⟩ := h
        refine z_callV (pc := 84) (As := [.int v3, .int v4]) (rest := [.ref a1]) (wr := (wX2 g a0 r0 s0 ++ wX5 g q1_0 r2 s2)) C dX2_unseenKinds_84 ml_RX2_41 wv_X1_cardAt (m_X1_cardAt (a0 := a1) (r0 := r1) (q0_0 := q1_0) hg hx3) [2, 3, 4, 5, 6, 7, 8, 9, 10] [0, 1, 11, 12, 13, 14] rfl rfl ⟨by decide, by decide⟩ (Nat.le_of_ble_eq_true rfl) ⟨by decide, by decide⟩ rfl rfl rfl rfl rfl rfl rfl (by decide) (ex_k C (cs' := 0) (ss' := 0) (wF := (wX2 g a0 r0 s0 ++ wX1 g a1 r1 q1_0 s1 ++ wX5 g q1_0 r2 s2)) [0, 1, 6, 7, 8, 9, 10, 11, 12, 13, 14, 2, 3, 4, 5] rfl rfl ?_)
        replace h := ob_e h
        obtain ⟨x4, hx4, h⟩ := h
        refine z_callV (pc := 87) (As := [.int x3]) (rest := []) (wr := (wX2 g a0 r0 s0)) C dX2_unseenKinds_87 ml_RX2_45 wv_X1_kindOf (m_X1_kindOf (a0 := a1) (r0 := r1) (q0_0 := q1_0) (r1 := r2) hg hx4) [2, 3, 4, 5, 6, 7, 8, 9, 10, 11, 12, 13, 14] [0, 1] rfl rfl ⟨by decide, by decide⟩ (Nat.le_of_ble_eq_true rfl) ⟨by decide, by decide⟩ rfl rfl rfl rfl rfl rfl rfl (by decide) (ex_k C (cs' := 0) (ss' := 0) (wF := (wX2 g a0 r0 s0 ++ wX1 g a1 r1 q1_0 s1 ++ wX5 g q1_0 r2 s2)) [0, 1, 2, 3, 4, 5, 6, 7, 8, 9, 10, 11, 12, 13, 14] rfl rfl ?_)
        refine z_istore (pc := 90) C dX2_unseenKinds_90 (by decide) (lv' := [(5, .int x4), (0, .ref a0), (1, .ref a1), (2, .int p2), (3, .int v3), (4, .int v4)]) rfl ?_
        refine z_aload_n (pc := 92) (x := a0) C dX2_unseenKinds_92 (i := 0) rfl rfl ?_
        refine z_get (pc := 93) (v := .ref (r0 0)) C 0 dX2_unseenKinds_93 fl_RX2_9 rfl rfl ?_
        refine z_iload (pc := 96) (x := x4) C dX2_unseenKinds_96 rfl ?_
        refine z_dup2 (pc := 98) C dX2_unseenKinds_98 rfl rfl ?_
        replace h := chk_e h
        obtain ⟨hb5, h⟩ := h
        refine z_iald (pc := 99) C 1 dX2_unseenKinds_99 rfl hb5 ?_
        refine z_iconst (pc := 100) C dX2_unseenKinds_100 ic_1 ?_
        refine z_isub (pc := 101) C dX2_unseenKinds_101 ?_
        replace h := chk_e h
        obtain ⟨hb6, h⟩ := h
        refine z_iast (pc := 102) C 1 dX2_unseenKinds_102 rfl hb6 (ws' := (wX2 g a0 r0 (sa s0 0 (upd (s0.2.2.1 0) (x4).toNatClampNeg (((s0.2.2.1 0) (x4).toNatClampNeg) - (1 : Int32)))) ++ wX1 g a1 r1 q1_0 s1 ++ wX5 g q1_0 r2 s2)) rfl ?_
        refine z_iinc (pc := 103) C dX2_unseenKinds_103 rfl (inc_e 1 (1 : Int32) ic_1 v4) (by decide) (lv' := [(4, .int (v4 + (1 : Int32))), (5, .int x4), (0, .ref a0), (1, .ref a1), (2, .int p2), (3, .int v3)]) rfl ?_
        refine z_goto (pc := 106) C dX2_unseenKinds_106 (tgt := 64) (by decide) ?_
        refine z_lv (lv' := [(0, .ref a0), (1, .ref a1), (2, .int p2), (3, .int v3), (4, .int (v4 + (1 : Int32)))]) [2, 3, 4, 5, 0] rfl ?_
        exact hk64 v3 (v4 + (1 : Int32)) (sa s0 0 (upd (s0.2.2.1 0) (x4).toNatClampNeg (((s0.2.2.1 0) (x4).toNatClampNeg) - (1 : Int32)))) h
def F_X2_unseenKinds_50 (N : Nat) (s1 : Ob) (s2 : Ob) (p2 : Int32)  (k50 : Int32 → Ob → Option (Int32 × Ob)) (v3 : Int32) (s0 : Ob) : Option (Int32 × Ob) := (if (s2.1 2) ≤ v3 then (f_X2_unseenKinds_120 N s1 s2 p2 N (0 : Int32) (0 : Int32) s0) else (f_X2_unseenKinds_64 N s1 s2 p2 k50 N v3 (0 : Int32) s0))
def f_X2_unseenKinds_50 (N : Nat) (s1 : Ob) (s2 : Ob) (p2 : Int32)  : Nat → Int32 → Ob → Option (Int32 × Ob) := zlp (fun _ _ => none) (F_X2_unseenKinds_50 N s1 s2 p2)
theorem m_X2_unseenKinds_50 {K : Kt} {g : Gp} {a0 : Nat} {a1 : Nat} {r0 : Nat → Nat} {r1 : Nat → Nat} {q1_0 : Nat} {r2 : Nat → Nat} {N : Nat} {s1 : Ob} {s2 : Ob} {p2 : Int32} {res : Int32 × Ob} (hg : Ok g) (C : Cx K g cX2_unseenKinds RX2 6 (zrm 2 42)) (X : Rx K (exR (some (.int res.1)) (wX2 g a0 r0 res.2 ++ wX1 g a1 r1 q1_0 s1 ++ wX5 g q1_0 r2 s2)) 0 0 (some .int)) : ∀ (n : Nat) (v3 : Int32) (s0 : Ob), f_X2_unseenKinds_50 N s1 s2 p2 n v3 s0 = some res → Zs K 0 0 (wX2 g a0 r0 s0 ++ wX1 g a1 r1 q1_0 s1 ++ wX5 g q1_0 r2 s2) [(0, .ref a0), (1, .ref a1), (2, .int p2), (3, .int v3)] 50 [] := by
  intro n
  induction n with
  | zero => intro v3 s0 h; exact nomatch (show (none : Option (Int32 × Ob)) = some res from h)
  | succ n hk50 =>
    intro v3 s0 h
    replace h : F_X2_unseenKinds_50 N s1 s2 p2 (f_X2_unseenKinds_50 N s1 s2 p2 n) v3 s0 = some res := h
    unfold F_X2_unseenKinds_50 at h
    refine z_iload_n (pc := 50) (x := v3) C dX2_unseenKinds_50 (i := 3) rfl rfl ?_
    refine z_aload_n (pc := 51) (x := a1) C dX2_unseenKinds_51 (i := 1) rfl rfl ?_
    refine z_get (pc := 52) (v := .ref q1_0) C 2 dX2_unseenKinds_52 fl_RX2_15 rfl rfl ?_
    refine z_get (pc := 55) (v := .int (s2.1 2)) C 11 dX2_unseenKinds_55 fl_RX2_34 rfl rfl ?_
    refine z_icmp_ge (pc := 58) C dX2_unseenKinds_58 (tgt := 115) (by decide) (fun hc => ?_) (fun hc => ?_)
    · replace h := (ite_e h).1 hc
      refine z_iconst (pc := 115) C dX2_unseenKinds_115 ic_0 ?_
      refine z_istore_n (pc := 116) C dX2_unseenKinds_116 (i := 3) rfl (by decide) (lv' := [(3, .int (0 : Int32)), (0, .ref a0), (1, .ref a1), (2, .int p2)]) rfl ?_
      refine z_iconst (pc := 117) C dX2_unseenKinds_117 ic_0 ?_
      refine z_istore (pc := 118) C dX2_unseenKinds_118 (by decide) (lv' := [(4, .int (0 : Int32)), (3, .int (0 : Int32)), (0, .ref a0), (1, .ref a1), (2, .int p2)]) rfl ?_
      refine z_lv (lv' := [(0, .ref a0), (3, .int (0 : Int32)), (4, .int (0 : Int32))]) [2, 1, 0] rfl ?_
      exact m_X2_unseenKinds_120 (a0 := a0) (a1 := a1) (r0 := r0) (r1 := r1) (q1_0 := q1_0) (r2 := r2) hg C X N (0 : Int32) (0 : Int32) s0 h
    · replace h := (ite_e h).2 hc
      refine z_iconst (pc := 61) C dX2_unseenKinds_61 ic_0 ?_
      refine z_istore (pc := 62) C dX2_unseenKinds_62 (by decide) (lv' := [(4, .int (0 : Int32)), (0, .ref a0), (1, .ref a1), (2, .int p2), (3, .int v3)]) rfl ?_
      refine z_lv (lv' := [(0, .ref a0), (1, .ref a1), (2, .int p2), (3, .int v3), (4, .int (0 : Int32))]) [1, 2, 3, 4, 0] rfl ?_
      exact m_X2_unseenKinds_64 (a0 := a0) (a1 := a1) (r0 := r0) (r1 := r1) (q1_0 := q1_0) (r2 := r2) hg C X hk50 N v3 (0 : Int32) s0 h
def f_X2_unseenKinds_40 (N : Nat) (s1 : Ob) (s2 : Ob) (p2 : Int32) (k2 : Int32 → Ob → Option (Int32 × Ob)) (v3 : Int32) (t1 : Int32) (t2 : Int32) (t3 : Int32) (s0 : Ob) : Option (Int32 × Ob) := (chk (inb t1 20) (k2 (v3 + (1 : Int32)) (sa s0 0 (upd (s0.2.2.1 0) (t1).toNatClampNeg (t2 - t3)))))
theorem m_X2_unseenKinds_40 {K : Kt} {g : Gp} {a0 : Nat} {a1 : Nat} {r0 : Nat → Nat} {r1 : Nat → Nat} {q1_0 : Nat} {r2 : Nat → Nat} {N : Nat} {s1 : Ob} {s2 : Ob} {p2 : Int32} {res : Int32 × Ob} (hg : Ok g) (C : Cx K g cX2_unseenKinds RX2 6 (zrm 2 42)) (X : Rx K (exR (some (.int res.1)) (wX2 g a0 r0 res.2 ++ wX1 g a1 r1 q1_0 s1 ++ wX5 g q1_0 r2 s2)) 0 0 (some .int)) {k2 : Int32 → Ob → Option (Int32 × Ob)} (hk2 : ∀ (v3 : Int32) (s0 : Ob), k2 v3 s0 = some res → Zs K 0 0 (wX2 g a0 r0 s0 ++ wX1 g a1 r1 q1_0 s1 ++ wX5 g q1_0 r2 s2) [(0, .ref a0), (1, .ref a1), (2, .int p2), (3, .int v3)] 2 []) (v3 : Int32) (t1 : Int32) (t2 : Int32) (t3 : Int32) (s0 : Ob) (h : f_X2_unseenKinds_40 N s1 s2 p2 k2 v3 t1 t2 t3 s0 = some res) : Zs K 0 0 (wX2 g a0 r0 s0 ++ wX1 g a1 r1 q1_0 s1 ++ wX5 g q1_0 r2 s2) [(0, .ref a0), (1, .ref a1), (2, .int p2), (3, .int v3)] 40 [.int t3, .int t2, .int t1, .ref (r0 0)] := by
  unfold f_X2_unseenKinds_40 at h
  refine z_isub (pc := 40) C dX2_unseenKinds_40 ?_
  replace h := chk_e h
  obtain ⟨hb10, h⟩ := h
  refine z_iast (pc := 41) C 1 dX2_unseenKinds_41 rfl hb10 (ws' := (wX2 g a0 r0 (sa s0 0 (upd (s0.2.2.1 0) (t1).toNatClampNeg (t2 - t3))) ++ wX1 g a1 r1 q1_0 s1 ++ wX5 g q1_0 r2 s2)) rfl ?_
  refine z_iinc (pc := 42) C dX2_unseenKinds_42 rfl (inc_e 1 (1 : Int32) ic_1 v3) (by decide) (lv' := [(3, .int (v3 + (1 : Int32))), (0, .ref a0), (1, .ref a1), (2, .int p2)]) rfl ?_
  refine z_goto (pc := 45) C dX2_unseenKinds_45 (tgt := 2) (by decide) ?_
  refine z_lv (lv' := [(0, .ref a0), (1, .ref a1), (2, .int p2), (3, .int (v3 + (1 : Int32)))]) [1, 2, 3, 0] rfl ?_
  exact hk2 (v3 + (1 : Int32)) (sa s0 0 (upd (s0.2.2.1 0) (t1).toNatClampNeg (t2 - t3))) h
def F_X2_unseenKinds_2 (N : Nat) (s1 : Ob) (s2 : Ob) (p2 : Int32)  (k2 : Int32 → Ob → Option (Int32 × Ob)) (v3 : Int32) (s0 : Ob) : Option (Int32 × Ob) := (if (20 : Int32) ≤ v3 then (f_X2_unseenKinds_50 N s1 s2 p2 N (0 : Int32) s0) else (ob (f_X5_copiesOf N s2 v3) fun x7 => (ob (f_X1_inHeap N s1 v3) fun x8 => (ob (f_X1_isOnPile N s1 v3) fun x9 => (if x9 = 0 then (f_X2_unseenKinds_40 N s1 s2 p2 k2 v3 v3 (x7 - x8) (0 : Int32) s0) else (f_X2_unseenKinds_40 N s1 s2 p2 k2 v3 v3 (x7 - x8) (1 : Int32) s0))))))
def f_X2_unseenKinds_2 (N : Nat) (s1 : Ob) (s2 : Ob) (p2 : Int32)  : Nat → Int32 → Ob → Option (Int32 × Ob) := zlp (fun _ _ => none) (F_X2_unseenKinds_2 N s1 s2 p2)
theorem m_X2_unseenKinds_2 {K : Kt} {g : Gp} {a0 : Nat} {a1 : Nat} {r0 : Nat → Nat} {r1 : Nat → Nat} {q1_0 : Nat} {r2 : Nat → Nat} {N : Nat} {s1 : Ob} {s2 : Ob} {p2 : Int32} {res : Int32 × Ob} (hg : Ok g) (C : Cx K g cX2_unseenKinds RX2 6 (zrm 2 42)) (X : Rx K (exR (some (.int res.1)) (wX2 g a0 r0 res.2 ++ wX1 g a1 r1 q1_0 s1 ++ wX5 g q1_0 r2 s2)) 0 0 (some .int)) : ∀ (n : Nat) (v3 : Int32) (s0 : Ob), f_X2_unseenKinds_2 N s1 s2 p2 n v3 s0 = some res → Zs K 0 0 (wX2 g a0 r0 s0 ++ wX1 g a1 r1 q1_0 s1 ++ wX5 g q1_0 r2 s2) [(0, .ref a0), (1, .ref a1), (2, .int p2), (3, .int v3)] 2 [] := by
  intro n
  induction n with
  | zero => intro v3 s0 h; exact nomatch (show (none : Option (Int32 × Ob)) = some res from h)
  | succ n hk2 =>
    intro v3 s0 h
    replace h : F_X2_unseenKinds_2 N s1 s2 p2 (f_X2_unseenKinds_2 N s1 s2 p2 n) v3 s0 = some res := h
    unfold F_X2_unseenKinds_2 at h
    refine z_iload_n (pc := 2) (x := v3) C dX2_unseenKinds_2 (i := 3) rfl rfl ?_
    refine z_bipush (pc := 3) C dX2_unseenKinds_3 bp_20 ?_
    refine z_icmp_ge (pc := 5) C dX2_unseenKinds_5 (tgt := 48) (by decide) (fun hc => ?_) (fun hc => ?_)
    · replace h := (ite_e h).1 hc
      refine z_iconst (pc := 48) C dX2_unseenKinds_48 ic_0 ?_
      refine z_istore_n (pc := 49) C dX2_unseenKinds_49 (i := 3) rfl (by decide) (lv' := [(3, .int (0 : Int32)), (0, .ref a0), (1, .ref a1), (2, .int p2)]) rfl ?_
      refine z_lv (lv' := [(0, .ref a0), (1, .ref a1), (2, .int p2), (3, .int (0 : Int32))]) [1, 2, 3, 0] rfl ?_
      exact m_X2_unseenKinds_50 (a0 := a0) (a1 := a1) (r0 := r0) (r1 := r1) (q1_0 := q1_0) (r2 := r2) hg C X N (0 : Int32) s0 h
    · replace h := (ite_e h).2 hc
      refine z_aload_n (pc := 8) (x := a0) C dX2_unseenKinds_8 (i := 0) rfl rfl ?_
      refine z_get (pc := 9) (v := .ref (r0 0)) C 0 dX2_unseenKinds_9 fl_RX2_9 rfl rfl ?_
      refine z_iload_n (pc := 12) (x := v3) C dX2_unseenKinds_12 (i := 3) rfl rfl ?_
      refine z_aload_n (pc := 13) (x := a1) C dX2_unseenKinds_13 (i := 1) rfl rfl ?_
      refine z_get (pc := 14) (v := .ref q1_0) C 2 dX2_unseenKinds_14 fl_RX2_15 rfl rfl ?_
      refine z_iload_n (pc := 17) (x := v3) C dX2_unseenKinds_17 (i := 3) rfl rfl ?_
      replace h := ob_e h
      obtain ⟨x7, hx7, h⟩ := h
      refine z_callV (pc := 18) (As := [.int v3]) (rest := [.int v3, .ref (r0 0)]) (wr := (wX2 g a0 r0 s0 ++ wX1 g a1 r1 q1_0 s1)) C dX2_unseenKinds_18 ml_RX2_21 wv_X5_copiesOf (m_X5_copiesOf (a0 := q1_0) (r0 := r2) hg hx7) [11, 12, 13, 14] [0, 1, 2, 3, 4, 5, 6, 7, 8, 9, 10] rfl rfl ⟨by decide, by decide⟩ (Nat.le_of_ble_eq_true rfl) ⟨by decide, by decide⟩ rfl rfl rfl rfl rfl rfl rfl (by decide) (ex_k C (cs' := 0) (ss' := 0) (wF := (wX2 g a0 r0 s0 ++ wX1 g a1 r1 q1_0 s1 ++ wX5 g q1_0 r2 s2)) [0, 1, 2, 3, 4, 5, 6, 7, 8, 9, 10, 11, 12, 13, 14] rfl rfl ?_)
      refine z_aload_n (pc := 21) (x := a1) C dX2_unseenKinds_21 (i := 1) rfl rfl ?_
      refine z_iload_n (pc := 22) (x := v3) C dX2_unseenKinds_22 (i := 3) rfl rfl ?_
      replace h := ob_e h
      obtain ⟨x8, hx8, h⟩ := h
      refine z_callV (pc := 23) (As := [.int v3]) (rest := [.int x7, .int v3, .ref (r0 0)]) (wr := (wX2 g a0 r0 s0 ++ wX5 g q1_0 r2 s2)) C dX2_unseenKinds_23 ml_RX2_27 wv_X1_inHeap (m_X1_inHeap (a0 := a1) (r0 := r1) (q0_0 := q1_0) hg hx8) [2, 3, 4, 5, 6, 7, 8, 9, 10] [0, 1, 11, 12, 13, 14] rfl rfl ⟨by decide, by decide⟩ (Nat.le_of_ble_eq_true rfl) ⟨by decide, by decide⟩ rfl rfl rfl rfl rfl rfl rfl (by decide) (ex_k C (cs' := 0) (ss' := 0) (wF := (wX2 g a0 r0 s0 ++ wX1 g a1 r1 q1_0 s1 ++ wX5 g q1_0 r2 s2)) [0, 1, 6, 7, 8, 9, 10, 11, 12, 13, 14, 2, 3, 4, 5] rfl rfl ?_)
      refine z_isub (pc := 26) C dX2_unseenKinds_26 ?_
      refine z_aload_n (pc := 27) (x := a1) C dX2_unseenKinds_27 (i := 1) rfl rfl ?_
      refine z_iload_n (pc := 28) (x := v3) C dX2_unseenKinds_28 (i := 3) rfl rfl ?_
      replace h := ob_e h
      obtain ⟨x9, hx9, h⟩ := h
      refine z_callV (pc := 29) (As := [.int v3]) (rest := [.int (x7 - x8), .int v3, .ref (r0 0)]) (wr := (wX2 g a0 r0 s0 ++ wX5 g q1_0 r2 s2)) C dX2_unseenKinds_29 ml_RX2_30 wv_X1_isOnPile (m_X1_isOnPile (a0 := a1) (r0 := r1) (q0_0 := q1_0) hg hx9) [2, 3, 4, 5, 6, 7, 8, 9, 10] [0, 1, 11, 12, 13, 14] rfl rfl ⟨by decide, by decide⟩ (Nat.le_of_ble_eq_true rfl) ⟨by decide, by decide⟩ rfl rfl rfl rfl rfl rfl rfl (by decide) (ex_k C (cs' := 0) (ss' := 0) (wF := (wX2 g a0 r0 s0 ++ wX1 g a1 r1 q1_0 s1 ++ wX5 g q1_0 r2 s2)) [0, 1, 6, 7, 8, 9, 10, 11, 12, 13, 14, 2, 3, 4, 5] rfl rfl ?_)
      refine z_if_eq (pc := 32) C dX2_unseenKinds_32 (tgt := 39) (by decide) (fun hc => ?_) (fun hc => ?_)
      · replace h := (ite_e h).1 hc
        refine z_iconst (pc := 39) C dX2_unseenKinds_39 ic_0 ?_
        exact m_X2_unseenKinds_40 (a0 := a0) (a1 := a1) (r0 := r0) (r1 := r1) (q1_0 := q1_0) (r2 := r2) hg C X hk2 v3 v3 (x7 - x8) (0 : Int32) s0 h
      · replace h := (ite_e h).2 hc
        refine z_iconst (pc := 35) C dX2_unseenKinds_35 ic_1 ?_
        refine z_goto (pc := 36) C dX2_unseenKinds_36 (tgt := 40) (by decide) ?_
        exact m_X2_unseenKinds_40 (a0 := a0) (a1 := a1) (r0 := r0) (r1 := r1) (q1_0 := q1_0) (r2 := r2) hg C X hk2 v3 v3 (x7 - x8) (1 : Int32) s0 h
def f_X2_unseenKinds (N : Nat) (s0 : Ob) (s1 : Ob) (s2 : Ob) (p2 : Int32) : Option (Int32 × Ob) := (f_X2_unseenKinds_2 N s1 s2 p2 N (0 : Int32) s0)
theorem m_X2_unseenKinds {g : Gp} {a0 : Nat} {a1 : Nat} {r0 : Nat → Nat} {r1 : Nat → Nat} {q1_0 : Nat} {r2 : Nat → Nat} {N : Nat} {s0 : Ob} {s1 : Ob} {s2 : Ob} {p2 : Int32} {res : Int32 × Ob} (hg : Ok g) (h : f_X2_unseenKinds N s0 s1 s2 p2 = some res) : Ct g yX2_unseenKinds cX2_unseenKinds 6 (some .int) (zrm 2 42) [.ref a0, .ref a1, .int p2] (wX2 g a0 r0 s0 ++ wX1 g a1 r1 q1_0 s1 ++ wX5 g q1_0 r2 s2) (exR (some (.int res.1)) (wX2 g a0 r0 res.2 ++ wX1 g a1 r1 q1_0 s1 ++ wX5 g q1_0 r2 s2)) := by
  refine ct_of rfl hg (by show _ ≤ _; exact Nat.le_of_ble_eq_true rfl) (fun K C X => ?_)
  show Zs K 0 0 (wX2 g a0 r0 s0 ++ wX1 g a1 r1 q1_0 s1 ++ wX5 g q1_0 r2 s2) [(0, .ref a0), (1, .ref a1), (2, .int p2)] 0 []
  unfold f_X2_unseenKinds at h
  refine z_iconst (pc := 0) C dX2_unseenKinds_0 ic_0 ?_
  refine z_istore_n (pc := 1) C dX2_unseenKinds_1 (i := 3) rfl (by decide) (lv' := [(3, .int (0 : Int32)), (0, .ref a0), (1, .ref a1), (2, .int p2)]) rfl ?_
  refine z_lv (lv' := [(0, .ref a0), (1, .ref a1), (2, .int p2), (3, .int (0 : Int32))]) [1, 2, 3, 0] rfl ?_
  exact m_X2_unseenKinds_2 (a0 := a0) (a1 := a1) (r0 := r0) (r1 := r1) (q1_0 := q1_0) (r2 := r2) hg C X N (0 : Int32) s0 h
def f_X1_kindsLeftFor (N : Nat) (s0 : Ob) (p1 : Int32) : Option (Int32) := (if p1 < 0 then (some (0 : Int32)) else (if (40 : Int32) ≤ p1 then (some (0 : Int32)) else (chk (inb p1 40) (some ((s0.2.2.1 14) (p1).toNatClampNeg)))))
theorem m_X1_kindsLeftFor {g : Gp} {a0 : Nat} {r0 : Nat → Nat} {q0_0 : Nat} {N : Nat} {s0 : Ob} {p1 : Int32} {res : Int32} (hg : Ok g) (h : f_X1_kindsLeftFor N s0 p1 = some res) : Ct g yX1_kindsLeftFor cX1_kindsLeftFor 2 (some .int) (zrm 0 0) [.ref a0, .int p1] (wX1 g a0 r0 q0_0 s0) (exR (some (.int res)) (wX1 g a0 r0 q0_0 s0)) := by
  refine ct_of rfl hg (by show _ ≤ _; exact Nat.le_of_ble_eq_true rfl) (fun K C X => ?_)
  show Zs K 0 0 (wX1 g a0 r0 q0_0 s0) [(0, .ref a0), (1, .int p1)] 0 []
  unfold f_X1_kindsLeftFor at h
  refine z_iload_n (pc := 0) (x := p1) C dX1_kindsLeftFor_0 (i := 1) rfl rfl ?_
  refine z_if_lt (pc := 1) C dX1_kindsLeftFor_1 (tgt := 19) (by decide) (fun hc => ?_) (fun hc => ?_)
  · replace h := (ite_e h).1 hc
    refine z_iconst (pc := 19) C dX1_kindsLeftFor_19 ic_0 ?_
    exact z_iret C X dX1_kindsLeftFor_20 (by rw [← Option.some.inj h]; exact ⟨rfl, rfl⟩) (by decide) (by decide)
  · replace h := (ite_e h).2 hc
    refine z_iload_n (pc := 4) (x := p1) C dX1_kindsLeftFor_4 (i := 1) rfl rfl ?_
    refine z_bipush (pc := 5) C dX1_kindsLeftFor_5 bp_40 ?_
    refine z_icmp_ge (pc := 7) C dX1_kindsLeftFor_7 (tgt := 19) (by decide) (fun hc => ?_) (fun hc => ?_)
    · replace h := (ite_e h).1 hc
      refine z_iconst (pc := 19) C dX1_kindsLeftFor_19 ic_0 ?_
      exact z_iret C X dX1_kindsLeftFor_20 (by rw [← Option.some.inj h]; exact ⟨rfl, rfl⟩) (by decide) (by decide)
    · replace h := (ite_e h).2 hc
      refine z_aload_n (pc := 10) (x := a0) C dX1_kindsLeftFor_10 (i := 0) rfl rfl ?_
      refine z_get (pc := 11) (v := .ref (r0 14)) C 0 dX1_kindsLeftFor_11 fl_RX1_32 rfl rfl ?_
      refine z_iload_n (pc := 14) (x := p1) C dX1_kindsLeftFor_14 (i := 1) rfl rfl ?_
      replace h := chk_e h
      obtain ⟨hb1, h⟩ := h
      refine z_iald (pc := 15) C 7 dX1_kindsLeftFor_15 rfl hb1 ?_
      refine z_goto (pc := 16) C dX1_kindsLeftFor_16 (tgt := 20) (by decide) ?_
      exact z_iret C X dX1_kindsLeftFor_20 (by rw [← Option.some.inj h]; exact ⟨rfl, rfl⟩) (by decide) (by decide)
def f_X7_areAllIn (N : Nat) (p0 : Int32) (p1 : Int32) : Option (Int32) := (if p0 = 0 then (some (0 : Int32)) else (if (p0 &&& (p1 ^^^ (-1 : Int32))) = 0 then (some (1 : Int32)) else (some (0 : Int32))))
theorem m_X7_areAllIn {g : Gp}  {N : Nat} {p0 : Int32} {p1 : Int32} {res : Int32} (hg : Ok g) (h : f_X7_areAllIn N p0 p1 = some res) : Ct g yX7_areAllIn cX7_areAllIn 2 (some .boolean) (zrm 0 0) [.int p0, .int p1] ([] : va_W) (exR (some (.int res)) ([] : va_W)) := by
  refine ct_of rfl hg (by show _ ≤ _; exact Nat.le_of_ble_eq_true rfl) (fun K C X => ?_)
  show Zs K 0 0 ([] : va_W) [(0, .int p0), (1, .int p1)] 0 []
  unfold f_X7_areAllIn at h
  refine z_iload_n (pc := 0) (x := p0) C dX7_areAllIn_0 (i := 0) rfl rfl ?_
  refine z_if_eq (pc := 1) C dX7_areAllIn_1 (tgt := 16) (by decide) (fun hc => ?_) (fun hc => ?_)
  · replace h := (ite_e h).1 hc
    refine z_iconst (pc := 16) C dX7_areAllIn_16 ic_0 ?_
    exact z_zret C X dX7_areAllIn_17 rfl (by rw [← Option.some.inj h]; exact ⟨rfl, rfl⟩) (by decide) (by decide)
  · replace h := (ite_e h).2 hc
    refine z_iload_n (pc := 4) (x := p0) C dX7_areAllIn_4 (i := 0) rfl rfl ?_
    refine z_iload_n (pc := 5) (x := p1) C dX7_areAllIn_5 (i := 1) rfl rfl ?_
    refine z_iconst (pc := 6) C dX7_areAllIn_6 ic_m1 ?_
    refine z_ixor (pc := 7) C dX7_areAllIn_7 ?_
    refine z_iand (pc := 8) C dX7_areAllIn_8 ?_
    refine z_if_ne (pc := 9) C dX7_areAllIn_9 (tgt := 16) (by decide) (fun hc => ?_) (fun hc => ?_)
    · replace h := (ite_e h).2 hc
      refine z_iconst (pc := 16) C dX7_areAllIn_16 ic_0 ?_
      exact z_zret C X dX7_areAllIn_17 rfl (by rw [← Option.some.inj h]; exact ⟨rfl, rfl⟩) (by decide) (by decide)
    · replace h := (ite_e h).1 hc
      refine z_iconst (pc := 12) C dX7_areAllIn_12 ic_1 ?_
      refine z_goto (pc := 13) C dX7_areAllIn_13 (tgt := 17) (by decide) ?_
      exact z_zret C X dX7_areAllIn_17 rfl (by rw [← Option.some.inj h]; exact ⟨rfl, rfl⟩) (by decide) (by decide)
def F_X0_firstKnown_16 (N : Nat) (s0 : Ob) (s1 : Ob) (s3 : Ob) (p2 : Int32)  (k16 : Int32 → Int32 → Ob → Option (Int32 × Ob)) (v3 : Int32) (v4 : Int32) (s2 : Ob) : Option (Int32 × Ob) := (ob (f_X1_sizeOf N s1 (s1.1 4)) fun x2 => (if x2 ≤ v4 then (some ((-1 : Int32), s2)) else (ob (f_X1_cardAt N s1 (s1.1 4) v4) fun x3 => (ob (f_X1_kindsLeftFor N s1 x3) fun x4 => (ob (f_X7_areAllIn N (v3 &&& x4) p2) fun x5 => (if x5 = 0 then (k16 v3 (v4 + (1 : Int32)) s2) else (some (v4, s2))))))))
def f_X0_firstKnown_16 (N : Nat) (s0 : Ob) (s1 : Ob) (s3 : Ob) (p2 : Int32)  : Nat → Int32 → Int32 → Ob → Option (Int32 × Ob) := zlp (fun _ _ _ => none) (F_X0_firstKnown_16 N s0 s1 s3 p2)
theorem m_X0_firstKnown_16 {K : Kt} {g : Gp} {a0 : Nat} {a1 : Nat} {r0 : Nat → Nat} {q0_4 : Nat} {r1 : Nat → Nat} {q1_0 : Nat} {r2 : Nat → Nat} {r3 : Nat → Nat} {N : Nat} {s0 : Ob} {s1 : Ob} {s3 : Ob} {p2 : Int32} {res : Int32 × Ob} (hg : Ok g) (C : Cx K g cX0_firstKnown RX0 6 (zrm 3 67)) (X : Rx K (exR (some (.int res.1)) (wX0 g a0 r0 q0_4 s0 ++ wX1 g a1 r1 q1_0 s1 ++ wX2 g q0_4 r2 res.2 ++ wX5 g q1_0 r3 s3)) 0 0 (some .int)) : ∀ (n : Nat) (v3 : Int32) (v4 : Int32) (s2 : Ob), f_X0_firstKnown_16 N s0 s1 s3 p2 n v3 v4 s2 = some res → Zs K 0 0 (wX0 g a0 r0 q0_4 s0 ++ wX1 g a1 r1 q1_0 s1 ++ wX2 g q0_4 r2 s2 ++ wX5 g q1_0 r3 s3) [(1, .ref a1), (2, .int p2), (3, .int v3), (4, .int v4)] 16 [] := by
  intro n
  induction n with
  | zero => intro v3 v4 s2 h; exact nomatch (show (none : Option (Int32 × Ob)) = some res from h)
  | succ n hk16 =>
    intro v3 v4 s2 h
    replace h : F_X0_firstKnown_16 N s0 s1 s3 p2 (f_X0_firstKnown_16 N s0 s1 s3 p2 n) v3 v4 s2 = some res := h
    unfold F_X0_firstKnown_16 at h
    refine z_iload (pc := 16) (x := v4) C dX0_firstKnown_16 rfl ?_
    refine z_aload_n (pc := 18) (x := a1) C dX0_firstKnown_18 (i := 1) rfl rfl ?_
    refine z_aload_n (pc := 19) (x := a1) C dX0_firstKnown_19 (i := 1) rfl rfl ?_
    refine z_get (pc := 20) (v := .int (s1.1 4)) C 1 dX0_firstKnown_20 fl_RX0_70 rfl rfl ?_
    replace h := ob_e h
    obtain ⟨x2, hx2, h⟩ := h
    refine z_callV (pc := 23) (As := [.int (s1.1 4)]) (rest := [.int v4]) (wr := (wX0 g a0 r0 q0_4 s0 ++ wX2 g q0_4 r2 s2 ++ wX5 g q1_0 r3 s3)) C dX0_firstKnown_23 ml_RX0_73 wv_X1_sizeOf (m_X1_sizeOf (a0 := a1) (r0 := r1) (q0_0 := q1_0) hg hx2) [1, 2, 3, 4, 5, 6, 7, 8, 9] [0, 10, 11, 12, 13, 14, 15] rfl rfl ⟨by decide, by decide⟩ (Nat.le_of_ble_eq_true rfl) ⟨by decide, by decide⟩ rfl rfl rfl rfl rfl rfl rfl (by decide) (ex_k C (cs' := 0) (ss' := 0) (wF := (wX0 g a0 r0 q0_4 s0 ++ wX1 g a1 r1 q1_0 s1 ++ wX2 g q0_4 r2 s2 ++ wX5 g q1_0 r3 s3)) [0, 7, 8, 9, 10, 11, 12, 13, 14, 15, 1, 2, 3, 4, 5, 6] rfl rfl ?_)
    refine z_icmp_ge (pc := 26) C dX0_firstKnown_26 (tgt := 65) (by decide) (fun hc => ?_) (fun hc => ?_)
    · replace h := (ite_e h).1 hc
      refine z_iconst (pc := 65) C dX0_firstKnown_65 ic_m1 ?_
      exact z_iret C X dX0_firstKnown_66 (by rw [← Option.some.inj h]; exact ⟨rfl, rfl⟩) (by decide) (by decide)
    · replace h := (ite_e h).2 hc
      refine z_aload_n (pc := 29) (x := a1) C dX0_firstKnown_29 (i := 1) rfl rfl ?_
      refine z_aload_n (pc := 30) (x := a1) C dX0_firstKnown_30 (i := 1) rfl rfl ?_
      refine z_get (pc := 31) (v := .int (s1.1 4)) C 1 dX0_firstKnown_31 fl_RX0_70 rfl rfl ?_
      refine z_iload (pc := 34) (x := v4) C dX0_firstKnown_34 rfl ?_
      replace h := ob_e h
      obtain ⟨x3, hx3, h⟩ := h
      refine z_callV (pc := 36) (As := [.int (s1.1 4), .int v4]) (rest := []) (wr := (wX0 g a0 r0 q0_4 s0 ++ wX2 g q0_4 r2 s2 ++ wX5 g q1_0 r3 s3)) C dX0_firstKnown_36 ml_RX0_113 wv_X1_cardAt (m_X1_cardAt (a0 := a1) (r0 := r1) (q0_0 := q1_0) hg hx3) [1, 2, 3, 4, 5, 6, 7, 8, 9] [0, 10, 11, 12, 13, 14, 15] rfl rfl ⟨by decide, by decide⟩ (Nat.le_of_ble_eq_true rfl) ⟨by decide, by decide⟩ rfl rfl rfl rfl rfl rfl rfl (by decide) (ex_k C (cs' := 0) (ss' := 0) (wF := (wX0 g a0 r0 q0_4 s0 ++ wX1 g a1 r1 q1_0 s1 ++ wX2 g q0_4 r2 s2 ++ wX5 g q1_0 r3 s3)) [0, 7, 8, 9, 10, 11, 12, 13, 14, 15, 1, 2, 3, 4, 5, 6] rfl rfl ?_)
      refine z_istore (pc := 39) C dX0_firstKnown_39 (by decide) (lv' := [(5, .int x3), (1, .ref a1), (2, .int p2), (3, .int v3), (4, .int v4)]) rfl ?_
      refine z_iload_n (pc := 41) (x := v3) C dX0_firstKnown_41 (i := 3) rfl rfl ?_
      refine z_aload_n (pc := 42) (x := a1) C dX0_firstKnown_42 (i := 1) rfl rfl ?_
      refine z_iload (pc := 43) (x := x3) C dX0_firstKnown_43 rfl ?_
      replace h := ob_e h
      obtain ⟨x4, hx4, h⟩ := h
      refine z_callV (pc := 45) (As := [.int x3]) (rest := [.int v3]) (wr := (wX0 g a0 r0 q0_4 s0 ++ wX2 g q0_4 r2 s2 ++ wX5 g q1_0 r3 s3)) C dX0_firstKnown_45 ml_RX0_116 wv_X1_kindsLeftFor (m_X1_kindsLeftFor (a0 := a1) (r0 := r1) (q0_0 := q1_0) hg hx4) [1, 2, 3, 4, 5, 6, 7, 8, 9] [0, 10, 11, 12, 13, 14, 15] rfl rfl ⟨by decide, by decide⟩ (Nat.le_of_ble_eq_true rfl) ⟨by decide, by decide⟩ rfl rfl rfl rfl rfl rfl rfl (by decide) (ex_k C (cs' := 0) (ss' := 0) (wF := (wX0 g a0 r0 q0_4 s0 ++ wX1 g a1 r1 q1_0 s1 ++ wX2 g q0_4 r2 s2 ++ wX5 g q1_0 r3 s3)) [0, 7, 8, 9, 10, 11, 12, 13, 14, 15, 1, 2, 3, 4, 5, 6] rfl rfl ?_)
      refine z_iand (pc := 48) C dX0_firstKnown_48 ?_
      refine z_iload_n (pc := 49) (x := p2) C dX0_firstKnown_49 (i := 2) rfl rfl ?_
      replace h := ob_e h
      obtain ⟨x5, hx5, h⟩ := h
      refine z_callSN (pc := 50) (As := [.int (v3 &&& x4), .int p2]) (rest := []) (wr := (wX0 g a0 r0 q0_4 s0 ++ wX1 g a1 r1 q1_0 s1 ++ wX2 g q0_4 r2 s2 ++ wX5 g q1_0 r3 s3)) C dX0_firstKnown_50 mn_RX0_119 wt_X7_areAllIn (m_X7_areAllIn hg hx5) [] [0, 1, 2, 3, 4, 5, 6, 7, 8, 9, 10, 11, 12, 13, 14, 15] rfl rfl ⟨by decide, by decide⟩ (Nat.le_of_ble_eq_true rfl) ⟨by decide, by decide⟩ rfl rfl rfl rfl (by decide) (ex_k C (cs' := 0) (ss' := 0) (wF := (wX0 g a0 r0 q0_4 s0 ++ wX1 g a1 r1 q1_0 s1 ++ wX2 g q0_4 r2 s2 ++ wX5 g q1_0 r3 s3)) [0, 1, 2, 3, 4, 5, 6, 7, 8, 9, 10, 11, 12, 13, 14, 15] rfl rfl ?_)
      refine z_if_eq (pc := 53) C dX0_firstKnown_53 (tgt := 59) (by decide) (fun hc => ?_) (fun hc => ?_)
      · replace h := (ite_e h).1 hc
        refine z_iinc (pc := 59) C dX0_firstKnown_59 rfl (inc_e 1 (1 : Int32) ic_1 v4) (by decide) (lv' := [(4, .int (v4 + (1 : Int32))), (5, .int x3), (1, .ref a1), (2, .int p2), (3, .int v3)]) rfl ?_
        refine z_goto (pc := 62) C dX0_firstKnown_62 (tgt := 16) (by decide) ?_
        refine z_lv (lv' := [(1, .ref a1), (2, .int p2), (3, .int v3), (4, .int (v4 + (1 : Int32)))]) [2, 3, 4, 0] rfl ?_
        exact hk16 v3 (v4 + (1 : Int32)) s2 h
      · replace h := (ite_e h).2 hc
        refine z_iload (pc := 56) (x := v4) C dX0_firstKnown_56 rfl ?_
        exact z_iret C X dX0_firstKnown_58 (by rw [← Option.some.inj h]; exact ⟨rfl, rfl⟩) (by decide) (by decide)
def f_X0_firstKnown (N : Nat) (s0 : Ob) (s1 : Ob) (s2 : Ob) (s3 : Ob) (p2 : Int32) : Option (Int32 × Ob) := (ob (f_X2_unseenKinds N s2 s1 s3 (s1.1 4)) fun x1 => (f_X0_firstKnown_16 N s0 s1 s3 p2 N x1.1 (0 : Int32) x1.2))
theorem m_X0_firstKnown {g : Gp} {a0 : Nat} {a1 : Nat} {r0 : Nat → Nat} {q0_4 : Nat} {r1 : Nat → Nat} {q1_0 : Nat} {r2 : Nat → Nat} {r3 : Nat → Nat} {N : Nat} {s0 : Ob} {s1 : Ob} {s2 : Ob} {s3 : Ob} {p2 : Int32} {res : Int32 × Ob} (hg : Ok g) (h : f_X0_firstKnown N s0 s1 s2 s3 p2 = some res) : Ct g yX0_firstKnown cX0_firstKnown 6 (some .int) (zrm 3 67) [.ref a0, .ref a1, .int p2] (wX0 g a0 r0 q0_4 s0 ++ wX1 g a1 r1 q1_0 s1 ++ wX2 g q0_4 r2 s2 ++ wX5 g q1_0 r3 s3) (exR (some (.int res.1)) (wX0 g a0 r0 q0_4 s0 ++ wX1 g a1 r1 q1_0 s1 ++ wX2 g q0_4 r2 res.2 ++ wX5 g q1_0 r3 s3)) := by
  refine ct_of rfl hg (by show _ ≤ _; exact Nat.le_of_ble_eq_true rfl) (fun K C X => ?_)
  show Zs K 0 0 (wX0 g a0 r0 q0_4 s0 ++ wX1 g a1 r1 q1_0 s1 ++ wX2 g q0_4 r2 s2 ++ wX5 g q1_0 r3 s3) [(0, .ref a0), (1, .ref a1), (2, .int p2)] 0 []
  unfold f_X0_firstKnown at h
  refine z_aload_n (pc := 0) (x := a0) C dX0_firstKnown_0 (i := 0) rfl rfl ?_
  refine z_get (pc := 1) (v := .ref q0_4) C 0 dX0_firstKnown_1 fl_RX0_9 rfl rfl ?_
  refine z_aload_n (pc := 4) (x := a1) C dX0_firstKnown_4 (i := 1) rfl rfl ?_
  refine z_aload_n (pc := 5) (x := a1) C dX0_firstKnown_5 (i := 1) rfl rfl ?_
  refine z_get (pc := 6) (v := .int (s1.1 4)) C 1 dX0_firstKnown_6 fl_RX0_70 rfl rfl ?_
  replace h := ob_e h
  obtain ⟨x1, hx1, h⟩ := h
  refine z_callV (pc := 9) (As := [.ref a1, .int (s1.1 4)]) (rest := []) (wr := (wX0 g a0 r0 q0_4 s0)) C dX0_firstKnown_9 ml_RX0_86 wv_X2_unseenKinds (m_X2_unseenKinds (a0 := q0_4) (a1 := a1) (r0 := r2) (r1 := r1) (q1_0 := q1_0) (r2 := r3) hg hx1) [10, 11, 1, 2, 3, 4, 5, 6, 7, 8, 9, 12, 13, 14, 15] [0] rfl rfl ⟨by decide, by decide⟩ (Nat.le_of_ble_eq_true rfl) ⟨by decide, by decide⟩ rfl rfl rfl rfl rfl rfl rfl (by decide) (ex_k C (cs' := 0) (ss' := 0) (wF := (wX0 g a0 r0 q0_4 s0 ++ wX1 g a1 r1 q1_0 s1 ++ wX2 g q0_4 r2 x1.2 ++ wX5 g q1_0 r3 s3)) [0, 3, 4, 5, 6, 7, 8, 9, 10, 11, 1, 2, 12, 13, 14, 15] rfl rfl ?_)
  refine z_istore_n (pc := 12) C dX0_firstKnown_12 (i := 3) rfl (by decide) (lv' := [(3, .int x1.1), (0, .ref a0), (1, .ref a1), (2, .int p2)]) rfl ?_
  refine z_iconst (pc := 13) C dX0_firstKnown_13 ic_0 ?_
  refine z_istore (pc := 14) C dX0_firstKnown_14 (by decide) (lv' := [(4, .int (0 : Int32)), (3, .int x1.1), (0, .ref a0), (1, .ref a1), (2, .int p2)]) rfl ?_
  refine z_lv (lv' := [(1, .ref a1), (2, .int p2), (3, .int x1.1), (4, .int (0 : Int32))]) [3, 4, 1, 0] rfl ?_
  exact m_X0_firstKnown_16 (a0 := a0) (a1 := a1) (r0 := r0) (q0_4 := q0_4) (r1 := r1) (q1_0 := q1_0) (r2 := r2) (r3 := r3) hg C X N x1.1 (0 : Int32) x1.2 h
def f_X0_choose (N : Nat) (s0 : Ob) (p1 : Int32) (p2 : Int32) : Option (Ob) := (znm (si s0 0 p1) fun y1 => (znm (si y1 1 p2) fun y2 => (znm (si y2 2 (-1 : Int32)) fun y3 => (some (si y3 3 (-1 : Int32))))))
theorem m_X0_choose {g : Gp} {a0 : Nat} {r0 : Nat → Nat} {q0_4 : Nat} {N : Nat} {s0 : Ob} {p1 : Int32} {p2 : Int32} {res : Ob} (hg : Ok g) (h : f_X0_choose N s0 p1 p2 = some res) : Ct g yX0_choose cX0_choose 3 none (zrm 0 0) [.ref a0, .int p1, .int p2] (wX0 g a0 r0 q0_4 s0) (exR none (wX0 g a0 r0 q0_4 res)) := by
  refine ct_of rfl hg (by show _ ≤ _; exact Nat.le_of_ble_eq_true rfl) (fun K C X => ?_)
  show Zs K 0 0 (wX0 g a0 r0 q0_4 s0) [(0, .ref a0), (1, .int p1), (2, .int p2)] 0 []
  unfold f_X0_choose at h
  refine z_aload_n (pc := 0) (x := a0) C dX0_choose_0 (i := 0) rfl rfl ?_
  refine z_iload_n (pc := 1) (x := p1) C dX0_choose_1 (i := 1) rfl rfl ?_
  refine z_put (pc := 2) C 0 dX0_choose_2 fp_RX0_15 rfl rfl rfl (zlt_b rfl) (ws' := (wX0 g a0 r0 q0_4 (si s0 0 p1))) rfl ?_
  refine z_aload_n (pc := 5) (x := a0) C dX0_choose_5 (i := 0) rfl rfl ?_
  refine z_iload_n (pc := 6) (x := p2) C dX0_choose_6 (i := 2) rfl rfl ?_
  replace h := znm_e h
  obtain ⟨y1, hy1, h⟩ := h
  refine z_wsE (ws' := (wX0 g a0 r0 q0_4 y1)) (by rw [hy1]) ?_
  refine z_put (pc := 7) C 0 dX0_choose_7 fp_RX0_19 rfl rfl rfl (zlt_b rfl) (ws' := (wX0 g a0 r0 q0_4 (si y1 1 p2))) rfl ?_
  refine z_aload_n (pc := 10) (x := a0) C dX0_choose_10 (i := 0) rfl rfl ?_
  refine z_iconst (pc := 11) C dX0_choose_11 ic_m1 ?_
  replace h := znm_e h
  obtain ⟨y2, hy2, h⟩ := h
  refine z_wsE (ws' := (wX0 g a0 r0 q0_4 y2)) (by rw [hy2]) ?_
  refine z_put (pc := 12) C 0 dX0_choose_12 fp_RX0_31 rfl rfl rfl (zlt_b rfl) (ws' := (wX0 g a0 r0 q0_4 (si y2 2 (-1 : Int32)))) rfl ?_
  refine z_aload_n (pc := 15) (x := a0) C dX0_choose_15 (i := 0) rfl rfl ?_
  refine z_iconst (pc := 16) C dX0_choose_16 ic_m1 ?_
  replace h := znm_e h
  obtain ⟨y3, hy3, h⟩ := h
  refine z_wsE (ws' := (wX0 g a0 r0 q0_4 y3)) (by rw [hy3]) ?_
  refine z_put (pc := 17) C 0 dX0_choose_17 fp_RX0_34 rfl rfl rfl (zlt_b rfl) (ws' := (wX0 g a0 r0 q0_4 (si y3 3 (-1 : Int32)))) rfl ?_
  exact z_vret C X dX0_choose_20 (by rw [← Option.some.inj h]; exact ⟨rfl, rfl⟩) (by decide) (by decide)
