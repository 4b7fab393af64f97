/-! OWN, written by wip/whole/tools/mkall.py: what each method does to its cells, and the walk that shows it -/
def F_X3_unpack_42 (N : Nat) (p1 : Int32)  (k42 : Int32 → Ob → Option (Ob)) (v2 : Int32) (s0 : Ob) : Option (Ob) := (if (4 : Int32) ≤ v2 then (some s0) else (znm ((p1 >>> (((24 : Int32) - ((3 : Int32) * v2)) &&& 31)) &&& (7 : Int32)) fun x4 => (chk (inb v2 4) (k42 (v2 + (1 : Int32)) (sa s0 2 (upd (s0.2.2.1 2) (v2).toNatClampNeg x4))))))
def f_X3_unpack_42 (N : Nat) (p1 : Int32)  : Nat → Int32 → Ob → Option (Ob) := zlp (fun _ _ => none) (F_X3_unpack_42 N p1)
theorem m_X3_unpack_42 {K : Kt} {g : Gp} {a0 : Nat} {r0 : Nat → Nat} {q0_0 : Nat} {N : Nat} {p1 : Int32} {res : Ob} (hg : Ok g) (C : Cx K g cX3_unpack RX3 3 (zrm 0 0)) (X : Rx K (exR none (wX3 g a0 r0 q0_0 res)) 0 0 none) : ∀ (n : Nat) (v2 : Int32) (s0 : Ob), f_X3_unpack_42 N p1 n v2 s0 = some res → Zs K 0 0 (wX3 g a0 r0 q0_0 s0) [(0, .ref a0), (1, .int p1), (2, .int v2)] 42 [] := by
  intro n
  induction n with
  | zero => intro v2 s0 h; exact nomatch (show (none : Option (Ob)) = some res from h)
  | succ n hk42 =>
    intro v2 s0 h
    replace h : F_X3_unpack_42 N p1 (f_X3_unpack_42 N p1 n) v2 s0 = some res := h
    unfold F_X3_unpack_42 at h
    refine z_iload_n (pc := 42) (x := v2) C dX3_unpack_42 (i := 2) rfl rfl ?_
    refine z_iconst (pc := 43) C dX3_unpack_43 ic_4 ?_
    refine z_icmp_ge (pc := 44) C dX3_unpack_44 (tgt := 70) (by decide) (fun hc => ?_) (fun hc => ?_)
    · replace h := (ite_e h).1 hc
      exact z_vret C X dX3_unpack_70 (by rw [← Option.some.inj h]; exact ⟨rfl, rfl⟩) (by decide) (by decide)
    · replace h := (ite_e h).2 hc
      refine z_aload_n (pc := 47) (x := a0) C dX3_unpack_47 (i := 0) rfl rfl ?_
      refine z_get (pc := 48) (v := .ref (r0 2)) C 0 dX3_unpack_48 fl_RX3_15 rfl rfl ?_
      refine z_iload_n (pc := 51) (x := v2) C dX3_unpack_51 (i := 2) rfl rfl ?_
      refine z_iload_n (pc := 52) (x := p1) C dX3_unpack_52 (i := 1) rfl rfl ?_
      refine z_bipush (pc := 53) C dX3_unpack_53 bp_24 ?_
      refine z_iconst (pc := 55) C dX3_unpack_55 ic_3 ?_
      refine z_iload_n (pc := 56) (x := v2) C dX3_unpack_56 (i := 2) rfl rfl ?_
      refine z_imul (pc := 57) C dX3_unpack_57 ?_
      refine z_isub (pc := 58) C dX3_unpack_58 ?_
      refine z_ishr (pc := 59) C dX3_unpack_59 ?_
      refine z_bipush (pc := 60) C dX3_unpack_60 bp_7 ?_
      refine z_iand (pc := 62) C dX3_unpack_62 ?_
      replace h := znm_e h
      obtain ⟨x4, hx4, h⟩ := h
      refine z_top1 hx4 ?_
      replace h := chk_e h
      obtain ⟨hb5, h⟩ := h
      refine z_iast (pc := 63) C 2 dX3_unpack_63 rfl hb5 (ws' := (wX3 g a0 r0 q0_0 (sa s0 2 (upd (s0.2.2.1 2) (v2).toNatClampNeg x4)))) rfl ?_
      refine z_iinc (pc := 64) C dX3_unpack_64 rfl (inc_e 1 (1 : Int32) ic_1 v2) (by decide) (lv' := [(2, .int (v2 + (1 : Int32))), (0, .ref a0), (1, .int p1)]) rfl ?_
      refine z_goto (pc := 67) C dX3_unpack_67 (tgt := 42) (by decide) ?_
      refine z_lv (lv' := [(0, .ref a0), (1, .int p1), (2, .int (v2 + (1 : Int32)))]) [1, 2, 0] rfl ?_
      exact hk42 (v2 + (1 : Int32)) (sa s0 2 (upd (s0.2.2.1 2) (v2).toNatClampNeg x4)) h
def f_X3_unpack (N : Nat) (s0 : Ob) (p1 : Int32) : Option (Ob) := (znm (si s0 6 ((p1 &&& (7 : Int32)) - (1 : Int32))) fun y1 => (znm (si y1 5 ((p1 >>> ((3 : Int32) &&& 31)) &&& (3 : Int32))) fun y2 => (znm (si y2 4 ((p1 >>> ((5 : Int32) &&& 31)) &&& (63 : Int32))) fun y3 => (f_X3_unpack_42 N p1 N (0 : Int32) (si y3 3 ((p1 >>> ((11 : Int32) &&& 31)) &&& (15 : Int32)))))))
theorem m_X3_unpack {g : Gp} {a0 : Nat} {r0 : Nat → Nat} {q0_0 : Nat} {N : Nat} {s0 : Ob} {p1 : Int32} {res : Ob} (hg : Ok g) (h : f_X3_unpack N s0 p1 = some res) : Ct g yX3_unpack cX3_unpack 3 none (zrm 0 0) [.ref a0, .int p1] (wX3 g a0 r0 q0_0 s0) (exR none (wX3 g a0 r0 q0_0 res)) := by
  refine ct_of rfl hg (by show _ ≤ _; exact Nat.le_of_ble_eq_true rfl) (fun K C X => ?_)
  show Zs K 0 0 (wX3 g a0 r0 q0_0 s0) [(0, .ref a0), (1, .int p1)] 0 []
  unfold f_X3_unpack at h
  refine z_aload_n (pc := 0) (x := a0) C dX3_unpack_0 (i := 0) rfl rfl ?_
  refine z_iload_n (pc := 1) (x := p1) C dX3_unpack_1 (i := 1) rfl rfl ?_
  refine z_bipush (pc := 2) C dX3_unpack_2 bp_7 ?_
  refine z_iand (pc := 4) C dX3_unpack_4 ?_
  refine z_iconst (pc := 5) C dX3_unpack_5 ic_1 ?_
  refine z_isub (pc := 6) C dX3_unpack_6 ?_
  refine z_put (pc := 7) C 0 dX3_unpack_7 fp_RX3_33 rfl rfl rfl (zlt_b rfl) (ws' := (wX3 g a0 r0 q0_0 (si s0 6 ((p1 &&& (7 : Int32)) - (1 : Int32))))) rfl ?_
  refine z_aload_n (pc := 10) (x := a0) C dX3_unpack_10 (i := 0) rfl rfl ?_
  refine z_iload_n (pc := 11) (x := p1) C dX3_unpack_11 (i := 1) rfl rfl ?_
  refine z_iconst (pc := 12) C dX3_unpack_12 ic_3 ?_
  refine z_ishr (pc := 13) C dX3_unpack_13 ?_
  refine z_iconst (pc := 14) C dX3_unpack_14 ic_3 ?_
  refine z_iand (pc := 15) C dX3_unpack_15 ?_
  replace h := znm_e h
  obtain ⟨y1, hy1, h⟩ := h
  refine z_wsE (ws' := (wX3 g a0 r0 q0_0 y1)) (by rw [hy1]) ?_
  refine z_put (pc := 16) C 0 dX3_unpack_16 fp_RX3_30 rfl rfl rfl (zlt_b rfl) (ws' := (wX3 g a0 r0 q0_0 (si y1 5 ((p1 >>> ((3 : Int32) &&& 31)) &&& (3 : Int32))))) rfl ?_
  refine z_aload_n (pc := 19) (x := a0) C dX3_unpack_19 (i := 0) rfl rfl ?_
  refine z_iload_n (pc := 20) (x := p1) C dX3_unpack_20 (i := 1) rfl rfl ?_
  refine z_iconst (pc := 21) C dX3_unpack_21 ic_5 ?_
  refine z_ishr (pc := 22) C dX3_unpack_22 ?_
  refine z_bipush (pc := 23) C dX3_unpack_23 bp_63 ?_
  refine z_iand (pc := 25) C dX3_unpack_25 ?_
  replace h := znm_e h
  obtain ⟨y2, hy2, h⟩ := h
  refine z_wsE (ws' := (wX3 g a0 r0 q0_0 y2)) (by rw [hy2]) ?_
  refine z_put (pc := 26) C 0 dX3_unpack_26 fp_RX3_27 rfl rfl rfl (zlt_b rfl) (ws' := (wX3 g a0 r0 q0_0 (si y2 4 ((p1 >>> ((5 : Int32) &&& 31)) &&& (63 : Int32))))) rfl ?_
  refine z_aload_n (pc := 29) (x := a0) C dX3_unpack_29 (i := 0) rfl rfl ?_
  refine z_iload_n (pc := 30) (x := p1) C dX3_unpack_30 (i := 1) rfl rfl ?_
  refine z_bipush (pc := 31) C dX3_unpack_31 bp_11 ?_
  refine z_ishr (pc := 33) C dX3_unpack_33 ?_
  refine z_bipush (pc := 34) C dX3_unpack_34 bp_15 ?_
  refine z_iand (pc := 36) C dX3_unpack_36 ?_
  replace h := znm_e h
  obtain ⟨y3, hy3, h⟩ := h
  refine z_wsE (ws' := (wX3 g a0 r0 q0_0 y3)) (by rw [hy3]) ?_
  refine z_put (pc := 37) C 0 dX3_unpack_37 fp_RX3_23 rfl rfl rfl (zlt_b rfl) (ws' := (wX3 g a0 r0 q0_0 (si y3 3 ((p1 >>> ((11 : Int32) &&& 31)) &&& (15 : Int32))))) rfl ?_
  refine z_iconst (pc := 40) C dX3_unpack_40 ic_0 ?_
  refine z_istore_n (pc := 41) C dX3_unpack_41 (i := 2) rfl (by decide) (lv' := [(2, .int (0 : Int32)), (0, .ref a0), (1, .int p1)]) rfl ?_
  refine z_lv (lv' := [(0, .ref a0), (1, .int p1), (2, .int (0 : Int32))]) [1, 2, 0] rfl ?_
  exact m_X3_unpack_42 (a0 := a0) (r0 := r0) (q0_0 := q0_0) hg C X N (0 : Int32) (si y3 3 ((p1 >>> ((11 : Int32) &&& 31)) &&& (15 : Int32))) h
def f_X3_points (N : Nat) (s0 : Ob) : Option (Int32) := (znm (((((s0.2.2.1 2) 0) + ((s0.2.2.1 2) 1)) + ((s0.2.2.1 2) 2)) + ((s0.2.2.1 2) 3)) fun x1 => (some x1))
theorem m_X3_points {g : Gp} {a0 : Nat} {r0 : Nat → Nat} {q0_0 : Nat} {N : Nat} {s0 : Ob} {res : Int32} (hg : Ok g) (h : f_X3_points N s0 = some res) : Ct g yX3_points cX3_points 1 (some .int) (zrm 0 0) [.ref a0] (wX3 g a0 r0 q0_0 s0) (exR (some (.int res)) (wX3 g a0 r0 q0_0 s0)) := by
  refine ct_of rfl hg (by show _ ≤ _; exact Nat.le_of_ble_eq_true rfl) (fun K C X => ?_)
  show Zs K 0 0 (wX3 g a0 r0 q0_0 s0) [(0, .ref a0)] 0 []
  unfold f_X3_points at h
  refine z_aload_n (pc := 0) (x := a0) C dX3_points_0 (i := 0) rfl rfl ?_
  refine z_get (pc := 1) (v := .ref (r0 2)) C 0 dX3_points_1 fl_RX3_15 rfl rfl ?_
  refine z_iconst (pc := 4) C dX3_points_4 ic_0 ?_
  refine z_iald (pc := 5) C 2 dX3_points_5 rfl (by decide) ?_
  refine z_top1 (v := ((s0.2.2.1 2) 0)) rfl ?_
  refine z_aload_n (pc := 6) (x := a0) C dX3_points_6 (i := 0) rfl rfl ?_
  refine z_get (pc := 7) (v := .ref (r0 2)) C 0 dX3_points_7 fl_RX3_15 rfl rfl ?_
  refine z_iconst (pc := 10) C dX3_points_10 ic_1 ?_
  refine z_iald (pc := 11) C 2 dX3_points_11 rfl (by decide) ?_
  refine z_top1 (v := ((s0.2.2.1 2) 1)) rfl ?_
  refine z_iadd (pc := 12) C dX3_points_12 ?_
  refine z_aload_n (pc := 13) (x := a0) C dX3_points_13 (i := 0) rfl rfl ?_
  refine z_get (pc := 14) (v := .ref (r0 2)) C 0 dX3_points_14 fl_RX3_15 rfl rfl ?_
  refine z_iconst (pc := 17) C dX3_points_17 ic_2 ?_
  refine z_iald (pc := 18) C 2 dX3_points_18 rfl (by decide) ?_
  refine z_top1 (v := ((s0.2.2.1 2) 2)) rfl ?_
  refine z_iadd (pc := 19) C dX3_points_19 ?_
  refine z_aload_n (pc := 20) (x := a0) C dX3_points_20 (i := 0) rfl rfl ?_
  refine z_get (pc := 21) (v := .ref (r0 2)) C 0 dX3_points_21 fl_RX3_15 rfl rfl ?_
  refine z_iconst (pc := 24) C dX3_points_24 ic_3 ?_
  refine z_iald (pc := 25) C 2 dX3_points_25 rfl (by decide) ?_
  refine z_top1 (v := ((s0.2.2.1 2) 3)) rfl ?_
  refine z_iadd (pc := 26) C dX3_points_26 ?_
  replace h := znm_e h
  obtain ⟨x1, hx1, h⟩ := h
  refine z_top1 hx1 ?_
  exact z_iret C X dX3_points_27 (by rw [← Option.some.inj h]; exact ⟨rfl, rfl⟩) (by decide) (by decide)
def f_X3_isLast (N : Nat) (s0 : Ob) (s1 : Ob) : Option (Int32) := (if (s0.1 6) = 0 then (some (1 : Int32)) else (ob (f_X3_points N s0) fun x1 => (if x1 < ((s1.1 0) * (s1.1 1)) then (some (0 : Int32)) else (some (1 : Int32)))))
theorem m_X3_isLast {g : Gp} {a0 : Nat} {r0 : Nat → Nat} {q0_0 : Nat} {r1 : Nat → Nat} {N : Nat} {s0 : Ob} {s1 : Ob} {res : Int32} (hg : Ok g) (h : f_X3_isLast N s0 s1 = some res) : Ct g yX3_isLast cX3_isLast 1 (some .boolean) (zrm 1 20) [.ref a0] (wX3 g a0 r0 q0_0 s0 ++ wX5 g q0_0 r1 s1) (exR (some (.int res)) (wX3 g a0 r0 q0_0 s0 ++ wX5 g q0_0 r1 s1)) := by
  refine ct_of rfl hg (by show _ ≤ _; exact Nat.le_of_ble_eq_true rfl) (fun K C X => ?_)
  show Zs K 0 0 (wX3 g a0 r0 q0_0 s0 ++ wX5 g q0_0 r1 s1) [(0, .ref a0)] 0 []
  unfold f_X3_isLast at h
  refine z_aload_n (pc := 0) (x := a0) C dX3_isLast_0 (i := 0) rfl rfl ?_
  refine z_get (pc := 1) (v := .int (s0.1 6)) C 0 dX3_isLast_1 fl_RX3_33 rfl rfl ?_
  refine z_if_eq (pc := 4) C dX3_isLast_4 (tgt := 29) (by decide) (fun hc => ?_) (fun hc => ?_)
  · replace h := (ite_e h).1 hc
    refine z_iconst (pc := 29) C dX3_isLast_29 ic_1 ?_
    refine z_goto (pc := 30) C dX3_isLast_30 (tgt := 34) (by decide) ?_
    exact z_zret C X dX3_isLast_34 rfl (by rw [← Option.some.inj h]; exact ⟨rfl, rfl⟩) (by decide) (by decide)
  · replace h := (ite_e h).2 hc
    refine z_aload_n (pc := 7) (x := a0) C dX3_isLast_7 (i := 0) rfl rfl ?_
    replace h := ob_e h
    obtain ⟨x1, hx1, h⟩ := h
    refine z_callV (pc := 8) (As := []) (rest := []) (wr := (wX5 g q0_0 r1 s1)) C dX3_isLast_8 ml_RX3_59 wv_X3_points (m_X3_points (a0 := a0) (r0 := r0) (q0_0 := q0_0) hg hx1) [0, 1, 2] [3, 4, 5, 6] rfl rfl ⟨by decide, by decide⟩ (Nat.le_of_ble_eq_true rfl) ⟨by decide, by decide⟩ rfl rfl rfl rfl rfl rfl rfl (by decide) (ex_k C (cs' := 0) (ss' := 0) (wF := (wX3 g a0 r0 q0_0 s0 ++ wX5 g q0_0 r1 s1)) [4, 5, 6, 0, 1, 2, 3] rfl rfl ?_)
    refine z_aload_n (pc := 11) (x := a0) C dX3_isLast_11 (i := 0) rfl rfl ?_
    refine z_get (pc := 12) (v := .ref q0_0) C 0 dX3_isLast_12 fl_RX3_19 rfl rfl ?_
    refine z_get (pc := 15) (v := .int (s1.1 0)) C 3 dX3_isLast_15 fl_RX3_63 rfl rfl ?_
    refine z_aload_n (pc := 18) (x := a0) C dX3_isLast_18 (i := 0) rfl rfl ?_
    refine z_get (pc := 19) (v := .ref q0_0) C 0 dX3_isLast_19 fl_RX3_19 rfl rfl ?_
    refine z_get (pc := 22) (v := .int (s1.1 1)) C 3 dX3_isLast_22 fl_RX3_68 rfl rfl ?_
    refine z_imul (pc := 25) C dX3_isLast_25 ?_
    refine z_icmp_lt (pc := 26) C dX3_isLast_26 (tgt := 33) (by decide) (fun hc => ?_) (fun hc => ?_)
    · replace h := (ite_e h).1 hc
      refine z_iconst (pc := 33) C dX3_isLast_33 ic_0 ?_
      exact z_zret C X dX3_isLast_34 rfl (by rw [← Option.some.inj h]; exact ⟨rfl, rfl⟩) (by decide) (by decide)
    · replace h := (ite_e h).2 hc
      refine z_iconst (pc := 29) C dX3_isLast_29 ic_1 ?_
      refine z_goto (pc := 30) C dX3_isLast_30 (tgt := 34) (by decide) ?_
      exact z_zret C X dX3_isLast_34 rfl (by rw [← Option.some.inj h]; exact ⟨rfl, rfl⟩) (by decide) (by decide)
def f_X3_cardsInTurn (N : Nat) (s0 : Ob) : Option (Int64) := (chk (inb (s0.1 5) 4) (some ((s0.2.2.2 1) ((s0.1 5)).toNatClampNeg)))
theorem m_X3_cardsInTurn {g : Gp} {a0 : Nat} {r0 : Nat → Nat} {q0_0 : Nat} {N : Nat} {s0 : Ob} {res : Int64} (hg : Ok g) (h : f_X3_cardsInTurn N s0 = some res) : Ct g yX3_cardsInTurn cX3_cardsInTurn 1 (some .long) (zrm 0 0) [.ref a0] (wX3 g a0 r0 q0_0 s0) (exR (some (.long res)) (wX3 g a0 r0 q0_0 s0)) := by
  refine ct_of rfl hg (by show _ ≤ _; exact Nat.le_of_ble_eq_true rfl) (fun K C X => ?_)
  show Zs K 0 0 (wX3 g a0 r0 q0_0 s0) [(0, .ref a0)] 0 []
  unfold f_X3_cardsInTurn at h
  refine z_aload_n (pc := 0) (x := a0) C dX3_cardsInTurn_0 (i := 0) rfl rfl ?_
  refine z_get (pc := 1) (v := .ref (r0 1)) C 0 dX3_cardsInTurn_1 fl_RX3_9 rfl rfl ?_
  refine z_aload_n (pc := 4) (x := a0) C dX3_cardsInTurn_4 (i := 0) rfl rfl ?_
  refine z_get (pc := 5) (v := .int (s0.1 5)) C 0 dX3_cardsInTurn_5 fl_RX3_30 rfl rfl ?_
  replace h := chk_e h
  obtain ⟨hb1, h⟩ := h
  refine z_lald (pc := 8) C 1 dX3_cardsInTurn_8 rfl hb1 ?_
  exact z_lret C X dX3_cardsInTurn_9 (by rw [← Option.some.inj h]; exact ⟨rfl, rfl⟩) (by decide) (by decide)
def f_X3_holds (N : Nat) (s0 : Ob) (p1 : Int32) : Option (Int32) := (if p1 < 0 then (some (0 : Int32)) else (if (40 : Int32) ≤ p1 then (some (0 : Int32)) else (chk (inb (s0.1 5) 4) (znm ((((s0.2.2.2 1) ((s0.1 5)).toNatClampNeg) >>> ((p1).toInt64 &&& 63)) &&& (1 : Int64)) fun x2 => (if (lg_cmp x2 (0 : Int64)) = 0 then (some (0 : Int32)) else (some (1 : Int32)))))))
theorem m_X3_holds {g : Gp} {a0 : Nat} {r0 : Nat → Nat} {q0_0 : Nat} {N : Nat} {s0 : Ob} {p1 : Int32} {res : Int32} (hg : Ok g) (h : f_X3_holds N s0 p1 = some res) : Ct g yX3_holds cX3_holds 2 (some .boolean) (zrm 0 0) [.ref a0, .int p1] (wX3 g a0 r0 q0_0 s0) (exR (some (.int res)) (wX3 g a0 r0 q0_0 s0)) := by
  refine ct_of rfl hg (by show _ ≤ _; exact Nat.le_of_ble_eq_true rfl) (fun K C X => ?_)
  show Zs K 0 0 (wX3 g a0 r0 q0_0 s0) [(0, .ref a0), (1, .int p1)] 0 []
  unfold f_X3_holds at h
  refine z_iload_n (pc := 0) (x := p1) C dX3_holds_0 (i := 1) rfl rfl ?_
  refine z_if_lt (pc := 1) C dX3_holds_1 (tgt := 32) (by decide) (fun hc => ?_) (fun hc => ?_)
  · replace h := (ite_e h).1 hc
    refine z_iconst (pc := 32) C dX3_holds_32 ic_0 ?_
    exact z_zret C X dX3_holds_33 rfl (by rw [← Option.some.inj h]; exact ⟨rfl, rfl⟩) (by decide) (by decide)
  · replace h := (ite_e h).2 hc
    refine z_iload_n (pc := 4) (x := p1) C dX3_holds_4 (i := 1) rfl rfl ?_
    refine z_bipush (pc := 5) C dX3_holds_5 bp_40 ?_
    refine z_icmp_ge (pc := 7) C dX3_holds_7 (tgt := 32) (by decide) (fun hc => ?_) (fun hc => ?_)
    · replace h := (ite_e h).1 hc
      refine z_iconst (pc := 32) C dX3_holds_32 ic_0 ?_
      exact z_zret C X dX3_holds_33 rfl (by rw [← Option.some.inj h]; exact ⟨rfl, rfl⟩) (by decide) (by decide)
    · replace h := (ite_e h).2 hc
      refine z_aload_n (pc := 10) (x := a0) C dX3_holds_10 (i := 0) rfl rfl ?_
      refine z_get (pc := 11) (v := .ref (r0 1)) C 0 dX3_holds_11 fl_RX3_9 rfl rfl ?_
      refine z_aload_n (pc := 14) (x := a0) C dX3_holds_14 (i := 0) rfl rfl ?_
      refine z_get (pc := 15) (v := .int (s0.1 5)) C 0 dX3_holds_15 fl_RX3_30 rfl rfl ?_
      replace h := chk_e h
      obtain ⟨hb1, h⟩ := h
      refine z_lald (pc := 18) C 1 dX3_holds_18 rfl hb1 ?_
      refine z_iload_n (pc := 19) (x := p1) C dX3_holds_19 (i := 1) rfl rfl ?_
      refine z_lshr (pc := 20) C dX3_holds_20 ?_
      refine z_lconst (pc := 21) (v := (1 : Int64)) C dX3_holds_21 rfl ?_
      refine z_land (pc := 22) C dX3_holds_22 ?_
      replace h := znm_e h
      obtain ⟨x2, hx2, h⟩ := h
      refine z_top2 hx2 ?_
      refine z_lconst (pc := 23) (v := (0 : Int64)) C dX3_holds_23 rfl ?_
      refine z_lcmp (pc := 24) C dX3_holds_24 ?_
      refine z_if_eq (pc := 25) C dX3_holds_25 (tgt := 32) (by decide) (fun hc => ?_) (fun hc => ?_)
      · replace h := (ite_e h).1 hc
        refine z_iconst (pc := 32) C dX3_holds_32 ic_0 ?_
        exact z_zret C X dX3_holds_33 rfl (by rw [← Option.some.inj h]; exact ⟨rfl, rfl⟩) (by decide) (by decide)
      · replace h := (ite_e h).2 hc
        refine z_iconst (pc := 28) C dX3_holds_28 ic_1 ?_
        refine z_goto (pc := 29) C dX3_holds_29 (tgt := 33) (by decide) ?_
        exact z_zret C X dX3_holds_33 rfl (by rw [← Option.some.inj h]; exact ⟨rfl, rfl⟩) (by decide) (by decide)
def f_X3_isNext (N : Nat) (s0 : Ob) (p1 : Int32) : Option (Int32) := (chk (inb (p1 / (5 : Int32)) 4) (if ((s0.2.2.1 2) ((p1 / (5 : Int32))).toNatClampNeg) = (p1 - p1 / (5 : Int32) * (5 : Int32)) then (some (1 : Int32)) else (some (0 : Int32))))
theorem m_X3_isNext {g : Gp} {a0 : Nat} {r0 : Nat → Nat} {q0_0 : Nat} {N : Nat} {s0 : Ob} {p1 : Int32} {res : Int32} (hg : Ok g) (h : f_X3_isNext N s0 p1 = some res) : Ct g yX3_isNext cX3_isNext 2 (some .boolean) (zrm 0 0) [.ref a0, .int p1] (wX3 g a0 r0 q0_0 s0) (exR (some (.int res)) (wX3 g a0 r0 q0_0 s0)) := by
  refine ct_of rfl hg (by show _ ≤ _; exact Nat.le_of_ble_eq_true rfl) (fun K C X => ?_)
  show Zs K 0 0 (wX3 g a0 r0 q0_0 s0) [(0, .ref a0), (1, .int p1)] 0 []
  unfold f_X3_isNext at h
  refine z_aload_n (pc := 0) (x := a0) C dX3_isNext_0 (i := 0) rfl rfl ?_
  refine z_get (pc := 1) (v := .ref (r0 2)) C 0 dX3_isNext_1 fl_RX3_15 rfl rfl ?_
  refine z_iload_n (pc := 4) (x := p1) C dX3_isNext_4 (i := 1) rfl rfl ?_
  refine z_iconst (pc := 5) C dX3_isNext_5 ic_5 ?_
  refine z_idiv (pc := 6) C dX3_isNext_6 (by decide) ?_
  replace h := chk_e h
  obtain ⟨hb1, h⟩ := h
  refine z_iald (pc := 7) C 2 dX3_isNext_7 rfl hb1 ?_
  refine z_iload_n (pc := 8) (x := p1) C dX3_isNext_8 (i := 1) rfl rfl ?_
  refine z_iconst (pc := 9) C dX3_isNext_9 ic_5 ?_
  refine z_irem (pc := 10) C dX3_isNext_10 (by decide) ?_
  refine z_icmp_ne (pc := 11) C dX3_isNext_11 (tgt := 18) (by decide) (fun hc => ?_) (fun hc => ?_)
  · replace h := (ite_e h).2 hc
    refine z_iconst (pc := 18) C dX3_isNext_18 ic_0 ?_
    exact z_zret C X dX3_isNext_19 rfl (by rw [← Option.some.inj h]; exact ⟨rfl, rfl⟩) (by decide) (by decide)
  · replace h := (ite_e h).1 hc
    refine z_iconst (pc := 14) C dX3_isNext_14 ic_1 ?_
    refine z_goto (pc := 15) C dX3_isNext_15 (tgt := 19) (by decide) ?_
    exact z_zret C X dX3_isNext_19 rfl (by rw [← Option.some.inj h]; exact ⟨rfl, rfl⟩) (by decide) (by decide)
def f_X3_isSensible (N : Nat) (s0 : Ob) (s1 : Ob) (p1 : Int32) (p2 : Int32) : Option (Int32) := (if p1 = (0 : Int32) then (ob (f_X3_holds N s0 p2) fun x1 => (if x1 = 0 then (some (0 : Int32)) else (chk (inb p2 40) (ob (f_X3_isNext N s0 ((s1.2.2.1 8) (p2).toNatClampNeg)) fun x3 => (if x3 = 0 then (some (0 : Int32)) else (some (1 : Int32))))))) else (if p1 = (1 : Int32) then (ob (f_X3_holds N s0 p2) fun x4 => (chk (zisB x4) (some x4))) else (if p1 = (2 : Int32) then (if (s0.1 3) ≤ 0 then (some (0 : Int32)) else (some (1 : Int32))) else (chk (inb (s0.1 5) 4) (if (lg_cmp ((s0.2.2.2 1) ((s0.1 5)).toNatClampNeg) (0 : Int64)) = 0 then (some (1 : Int32)) else (some (0 : Int32)))))))
theorem m_X3_isSensible {g : Gp} {a0 : Nat} {r0 : Nat → Nat} {q0_0 : Nat} {r1 : Nat → Nat} {N : Nat} {s0 : Ob} {s1 : Ob} {p1 : Int32} {p2 : Int32} {res : Int32} (hg : Ok g) (h : f_X3_isSensible N s0 s1 p1 p2 = some res) : Ct g yX3_isSensible cX3_isSensible 3 (some .boolean) (zrm 1 21) [.ref a0, .int p1, .int p2] (wX3 g a0 r0 q0_0 s0 ++ wX5 g q0_0 r1 s1) (exR (some (.int res)) (wX3 g a0 r0 q0_0 s0 ++ wX5 g q0_0 r1 s1)) := by
  refine ct_of rfl hg (by show _ ≤ _; exact Nat.le_of_ble_eq_true rfl) (fun K C X => ?_)
  show Zs K 0 0 (wX3 g a0 r0 q0_0 s0 ++ wX5 g q0_0 r1 s1) [(0, .ref a0), (1, .int p1), (2, .int p2)] 0 []
  unfold f_X3_isSensible at h
  refine z_iload_n (pc := 0) (x := p1) C dX3_isSensible_0 (i := 1) rfl rfl ?_
  refine (Decidable.em (p1 = (0 : Int32))).elim (fun hc => ?_) (fun hn0 => ?_)
  · refine z_tswIn (pc := 1) C (0 : Int32) dX3_isSensible_1 hc (by decide) (by decide) (off := 27) rfl (tgt := 28) (by decide) ?_
    replace h := (ite_e h).1 hc
    refine z_aload_n (pc := 28) (x := a0) C dX3_isSensible_28 (i := 0) rfl rfl ?_
    refine z_iload_n (pc := 29) (x := p2) C dX3_isSensible_29 (i := 2) rfl rfl ?_
    replace h := ob_e h
    obtain ⟨x1, hx1, h⟩ := h
    refine z_callV (pc := 30) (As := [.int p2]) (rest := []) (wr := (wX5 g q0_0 r1 s1)) C dX3_isSensible_30 ml_RX3_71 wv_X3_holds (m_X3_holds (a0 := a0) (r0 := r0) (q0_0 := q0_0) hg hx1) [0, 1, 2] [3, 4, 5, 6] rfl rfl ⟨by decide, by decide⟩ (Nat.le_of_ble_eq_true rfl) ⟨by decide, by decide⟩ rfl rfl rfl rfl rfl rfl rfl (by decide) (ex_k C (cs' := 0) (ss' := 0) (wF := (wX3 g a0 r0 q0_0 s0 ++ wX5 g q0_0 r1 s1)) [4, 5, 6, 0, 1, 2, 3] rfl rfl ?_)
    refine z_if_eq (pc := 33) C dX3_isSensible_33 (tgt := 56) (by decide) (fun hc => ?_) (fun hc => ?_)
    · replace h := (ite_e h).1 hc
      refine z_iconst (pc := 56) C dX3_isSensible_56 ic_0 ?_
      exact z_zret C X dX3_isSensible_57 rfl (by rw [← Option.some.inj h]; exact ⟨rfl, rfl⟩) (by decide) (by decide)
    · replace h := (ite_e h).2 hc
      refine z_aload_n (pc := 36) (x := a0) C dX3_isSensible_36 (i := 0) rfl rfl ?_
      refine z_aload_n (pc := 37) (x := a0) C dX3_isSensible_37 (i := 0) rfl rfl ?_
      refine z_get (pc := 38) (v := .ref q0_0) C 0 dX3_isSensible_38 fl_RX3_19 rfl rfl ?_
      refine z_get (pc := 41) (v := .ref (r1 8)) C 3 dX3_isSensible_41 fl_RX3_75 rfl rfl ?_
      refine z_iload_n (pc := 44) (x := p2) C dX3_isSensible_44 (i := 2) rfl rfl ?_
      replace h := chk_e h
      obtain ⟨hb2, h⟩ := h
      refine z_iald (pc := 45) C 4 dX3_isSensible_45 rfl hb2 ?_
      replace h := ob_e h
      obtain ⟨x3, hx3, h⟩ := h
      refine z_callV (pc := 46) (As := [.int ((s1.2.2.1 8) (p2).toNatClampNeg)]) (rest := []) (wr := (wX5 g q0_0 r1 s1)) C dX3_isSensible_46 ml_RX3_78 wv_X3_isNext (m_X3_isNext (a0 := a0) (r0 := r0) (q0_0 := q0_0) hg hx3) [0, 1, 2] [3, 4, 5, 6] rfl rfl ⟨by decide, by decide⟩ (Nat.le_of_ble_eq_true rfl) ⟨by decide, by decide⟩ rfl rfl rfl rfl rfl rfl rfl (by decide) (ex_k C (cs' := 0) (ss' := 0) (wF := (wX3 g a0 r0 q0_0 s0 ++ wX5 g q0_0 r1 s1)) [4, 5, 6, 0, 1, 2, 3] rfl rfl ?_)
      refine z_if_eq (pc := 49) C dX3_isSensible_49 (tgt := 56) (by decide) (fun hc => ?_) (fun hc => ?_)
      · replace h := (ite_e h).1 hc
        refine z_iconst (pc := 56) C dX3_isSensible_56 ic_0 ?_
        exact z_zret C X dX3_isSensible_57 rfl (by rw [← Option.some.inj h]; exact ⟨rfl, rfl⟩) (by decide) (by decide)
      · replace h := (ite_e h).2 hc
        refine z_iconst (pc := 52) C dX3_isSensible_52 ic_1 ?_
        refine z_goto (pc := 53) C dX3_isSensible_53 (tgt := 57) (by decide) ?_
        exact z_zret C X dX3_isSensible_57 rfl (by rw [← Option.some.inj h]; exact ⟨rfl, rfl⟩) (by decide) (by decide)
  replace h := (ite_e h).2 hn0
  refine (Decidable.em (p1 = (1 : Int32))).elim (fun hc => ?_) (fun hn1 => ?_)
  · refine z_tswIn (pc := 1) C (1 : Int32) dX3_isSensible_1 hc (by decide) (by decide) (off := 57) rfl (tgt := 58) (by decide) ?_
    replace h := (ite_e h).1 hc
    refine z_aload_n (pc := 58) (x := a0) C dX3_isSensible_58 (i := 0) rfl rfl ?_
    refine z_iload_n (pc := 59) (x := p2) C dX3_isSensible_59 (i := 2) rfl rfl ?_
    replace h := ob_e h
    obtain ⟨x4, hx4, h⟩ := h
    refine z_callV (pc := 60) (As := [.int p2]) (rest := []) (wr := (wX5 g q0_0 r1 s1)) C dX3_isSensible_60 ml_RX3_71 wv_X3_holds (m_X3_holds (a0 := a0) (r0 := r0) (q0_0 := q0_0) hg hx4) [0, 1, 2] [3, 4, 5, 6] rfl rfl ⟨by decide, by decide⟩ (Nat.le_of_ble_eq_true rfl) ⟨by decide, by decide⟩ rfl rfl rfl rfl rfl rfl rfl (by decide) (ex_k C (cs' := 0) (ss' := 0) (wF := (wX3 g a0 r0 q0_0 s0 ++ wX5 g q0_0 r1 s1)) [4, 5, 6, 0, 1, 2, 3] rfl rfl ?_)
    replace h := chk_e h
    obtain ⟨hb5, h⟩ := h
    exact z_zret C X dX3_isSensible_63 (zisB_nar hb5) (by rw [← Option.some.inj h]; exact ⟨rfl, rfl⟩) (by decide) (by decide)
  replace h := (ite_e h).2 hn1
  refine (Decidable.em (p1 = (2 : Int32))).elim (fun hc => ?_) (fun hn2 => ?_)
  · refine z_tswIn (pc := 1) C (2 : Int32) dX3_isSensible_1 hc (by decide) (by decide) (off := 63) rfl (tgt := 64) (by decide) ?_
    replace h := (ite_e h).1 hc
    refine z_aload_n (pc := 64) (x := a0) C dX3_isSensible_64 (i := 0) rfl rfl ?_
    refine z_get (pc := 65) (v := .int (s0.1 3)) C 0 dX3_isSensible_65 fl_RX3_23 rfl rfl ?_
    refine z_if_le (pc := 68) C dX3_isSensible_68 (tgt := 75) (by decide) (fun hc => ?_) (fun hc => ?_)
    · replace h := (ite_e h).1 hc
      refine z_iconst (pc := 75) C dX3_isSensible_75 ic_0 ?_
      exact z_zret C X dX3_isSensible_76 rfl (by rw [← Option.some.inj h]; exact ⟨rfl, rfl⟩) (by decide) (by decide)
    · replace h := (ite_e h).2 hc
      refine z_iconst (pc := 71) C dX3_isSensible_71 ic_1 ?_
      refine z_goto (pc := 72) C dX3_isSensible_72 (tgt := 76) (by decide) ?_
      exact z_zret C X dX3_isSensible_76 rfl (by rw [← Option.some.inj h]; exact ⟨rfl, rfl⟩) (by decide) (by decide)
  replace h := (ite_e h).2 hn2
  refine z_tswOut (pc := 1) C dX3_isSensible_1 (by have e0 := lv_neT hn0 (a := 0) (by decide); have e1 := lv_neT hn1 (a := 1) (by decide); have e2 := lv_neT hn2 (a := 2) (by decide); omega) (tgt := 77) (by decide) ?_
  refine z_aload_n (pc := 77) (x := a0) C dX3_isSensible_77 (i := 0) rfl rfl ?_
  refine z_get (pc := 78) (v := .ref (r0 1)) C 0 dX3_isSensible_78 fl_RX3_9 rfl rfl ?_
  refine z_aload_n (pc := 81) (x := a0) C dX3_isSensible_81 (i := 0) rfl rfl ?_
  refine z_get (pc := 82) (v := .int (s0.1 5)) C 0 dX3_isSensible_82 fl_RX3_30 rfl rfl ?_
  replace h := chk_e h
  obtain ⟨hb6, h⟩ := h
  refine z_lald (pc := 85) C 1 dX3_isSensible_85 rfl hb6 ?_
  refine z_lconst (pc := 86) (v := (0 : Int64)) C dX3_isSensible_86 rfl ?_
  refine z_lcmp (pc := 87) C dX3_isSensible_87 ?_
  refine z_if_ne (pc := 88) C dX3_isSensible_88 (tgt := 95) (by decide) (fun hc => ?_) (fun hc => ?_)
  · replace h := (ite_e h).2 hc
    refine z_iconst (pc := 95) C dX3_isSensible_95 ic_0 ?_
    exact z_zret C X dX3_isSensible_96 rfl (by rw [← Option.some.inj h]; exact ⟨rfl, rfl⟩) (by decide) (by decide)
  · replace h := (ite_e h).1 hc
    refine z_iconst (pc := 91) C dX3_isSensible_91 ic_1 ?_
    refine z_goto (pc := 92) C dX3_isSensible_92 (tgt := 96) (by decide) ?_
    exact z_zret C X dX3_isSensible_96 rfl (by rw [← Option.some.inj h]; exact ⟨rfl, rfl⟩) (by decide) (by decide)
def f_X3_putOnPile (N : Nat) (s0 : Ob) (s1 : Ob) (p1 : Int32) : Option (Ob) := (chk (inb (p1 / (5 : Int32)) 4) (chk (inb (p1 / (5 : Int32)) 4) (chk (inb (p1 / (5 : Int32)) 4) (znm ((upd (s0.2.2.1 2) ((p1 / (5 : Int32))).toNatClampNeg (((s0.2.2.1 2) ((p1 / (5 : Int32))).toNatClampNeg) + (1 : Int32))) ((p1 / (5 : Int32))).toNatClampNeg) fun x4 => (if x4 = (s1.1 1) then (znm (if (s1.1 4) < ((s0.1 3) + (1 : Int32)) then (s1.1 4) else ((s0.1 3) + (1 : Int32))) fun x5 => (znm (sa s0 2 (upd (s0.2.2.1 2) ((p1 / (5 : Int32))).toNatClampNeg (((s0.2.2.1 2) ((p1 / (5 : Int32))).toNatClampNeg) + (1 : Int32)))) fun y6 => (some (si y6 3 x5)))) else (some (sa s0 2 (upd (s0.2.2.1 2) ((p1 / (5 : Int32))).toNatClampNeg (((s0.2.2.1 2) ((p1 / (5 : Int32))).toNatClampNeg) + (1 : Int32))))))))))
theorem m_X3_putOnPile {g : Gp} {a0 : Nat} {r0 : Nat → Nat} {q0_0 : Nat} {r1 : Nat → Nat} {N : Nat} {s0 : Ob} {s1 : Ob} {p1 : Int32} {res : Ob} (hg : Ok g) (h : f_X3_putOnPile N s0 s1 p1 = some res) : Ct g yX3_putOnPile cX3_putOnPile 3 none (zrm 1 14) [.ref a0, .int p1] (wX3 g a0 r0 q0_0 s0 ++ wX5 g q0_0 r1 s1) (exR none (wX3 g a0 r0 q0_0 res ++ wX5 g q0_0 r1 s1)) := by
  refine ct_of rfl hg (by show _ ≤ _; exact Nat.le_of_ble_eq_true rfl) (fun K C X => ?_)
  show Zs K 0 0 (wX3 g a0 r0 q0_0 s0 ++ wX5 g q0_0 r1 s1) [(0, .ref a0), (1, .int p1)] 0 []
  unfold f_X3_putOnPile at h
  refine z_iload_n (pc := 0) (x := p1) C dX3_putOnPile_0 (i := 1) rfl rfl ?_
  refine z_iconst (pc := 1) C dX3_putOnPile_1 ic_5 ?_
  refine z_idiv (pc := 2) C dX3_putOnPile_2 (by decide) ?_
  refine z_istore_n (pc := 3) C dX3_putOnPile_3 (i := 2) rfl (by decide) (lv' := [(2, .int (p1 / (5 : Int32))), (0, .ref a0), (1, .int p1)]) rfl ?_
  refine z_aload_n (pc := 4) (x := a0) C dX3_putOnPile_4 (i := 0) rfl rfl ?_
  refine z_get (pc := 5) (v := .ref (r0 2)) C 0 dX3_putOnPile_5 fl_RX3_15 rfl rfl ?_
  refine z_iload_n (pc := 8) (x := (p1 / (5 : Int32))) C dX3_putOnPile_8 (i := 2) rfl rfl ?_
  refine z_dup2 (pc := 9) C dX3_putOnPile_9 rfl rfl ?_
  replace h := chk_e h
  obtain ⟨hb1, h⟩ := h
  refine z_iald (pc := 10) C 2 dX3_putOnPile_10 rfl hb1 ?_
  refine z_iconst (pc := 11) C dX3_putOnPile_11 ic_1 ?_
  refine z_iadd (pc := 12) C dX3_putOnPile_12 ?_
  replace h := chk_e h
  obtain ⟨hb2, h⟩ := h
  refine z_iast (pc := 13) C 2 dX3_putOnPile_13 rfl hb2 (ws' := (wX3 g a0 r0 q0_0 (sa s0 2 (upd (s0.2.2.1 2) ((p1 / (5 : Int32))).toNatClampNeg (((s0.2.2.1 2) ((p1 / (5 : Int32))).toNatClampNeg) + (1 : Int32)))) ++ wX5 g q0_0 r1 s1)) rfl ?_
  refine z_aload_n (pc := 14) (x := a0) C dX3_putOnPile_14 (i := 0) rfl rfl ?_
  refine z_get (pc := 15) (v := .ref (r0 2)) C 0 dX3_putOnPile_15 fl_RX3_15 rfl rfl ?_
  refine z_iload_n (pc := 18) (x := (p1 / (5 : Int32))) C dX3_putOnPile_18 (i := 2) rfl rfl ?_
  replace h := chk_e h
  obtain ⟨hb3, h⟩ := h
  refine z_iald (pc := 19) C 2 dX3_putOnPile_19 rfl hb3 ?_
  replace h := znm_e h
  obtain ⟨x4, hx4, h⟩ := h
  refine z_top1 hx4 ?_
  refine z_aload_n (pc := 20) (x := a0) C dX3_putOnPile_20 (i := 0) rfl rfl ?_
  refine z_get (pc := 21) (v := .ref q0_0) C 0 dX3_putOnPile_21 fl_RX3_19 rfl rfl ?_
  refine z_get (pc := 24) (v := .int (s1.1 1)) C 3 dX3_putOnPile_24 fl_RX3_68 rfl rfl ?_
  refine z_icmp_ne (pc := 27) C dX3_putOnPile_27 (tgt := 50) (by decide) (fun hc => ?_) (fun hc => ?_)
  · replace h := (ite_e h).2 hc
    exact z_vret C X dX3_putOnPile_50 (by rw [← Option.some.inj h]; exact ⟨rfl, rfl⟩) (by decide) (by decide)
  · replace h := (ite_e h).1 hc
    refine z_aload_n (pc := 30) (x := a0) C dX3_putOnPile_30 (i := 0) rfl rfl ?_
    refine z_aload_n (pc := 31) (x := a0) C dX3_putOnPile_31 (i := 0) rfl rfl ?_
    refine z_get (pc := 32) (v := .int (s0.1 3)) C 0 dX3_putOnPile_32 fl_RX3_23 rfl rfl ?_
    refine z_iconst (pc := 35) C dX3_putOnPile_35 ic_1 ?_
    refine z_iadd (pc := 36) C dX3_putOnPile_36 ?_
    refine z_aload_n (pc := 37) (x := a0) C dX3_putOnPile_37 (i := 0) rfl rfl ?_
    refine z_get (pc := 38) (v := .ref q0_0) C 0 dX3_putOnPile_38 fl_RX3_19 rfl rfl ?_
    refine z_get (pc := 41) (v := .int (s1.1 4)) C 3 dX3_putOnPile_41 fl_RX3_88 rfl rfl ?_
    refine z_mmin (pc := 44) C dX3_putOnPile_44 ml_RX3_91 wm_min (by decide) (Nat.le_of_ble_eq_true rfl) (by decide) (by decide) ?_
    replace h := znm_e h
    obtain ⟨x5, hx5, h⟩ := h
    refine z_top1 hx5 ?_
    replace h := znm_e h
    obtain ⟨y6, hy6, h⟩ := h
    refine z_wsE (ws' := (wX3 g a0 r0 q0_0 y6 ++ wX5 g q0_0 r1 s1)) (by rw [hy6]) ?_
    refine z_put (pc := 47) C 0 dX3_putOnPile_47 fp_RX3_23 rfl rfl rfl (zlt_b rfl) (ws' := (wX3 g a0 r0 q0_0 (si y6 3 x5) ++ wX5 g q0_0 r1 s1)) rfl ?_
    exact z_vret C X dX3_putOnPile_50 (by rw [← Option.some.inj h]; exact ⟨rfl, rfl⟩) (by decide) (by decide)
def f_X3_exchangeCard (N : Nat) (s0 : Ob) (s1 : Ob) (p1 : Int32) : Option (Ob) := (chk (inb (s0.1 5) 4) (znm (((s0.2.2.2 1) ((s0.1 5)).toNatClampNeg) &&& (((1 : Int64) <<< ((p1).toInt64 &&& 63)) ^^^ (-1 : Int64))) fun x2 => (chk (inb (s0.1 5) 4) (if (s1.1 7) ≤ (s0.1 4) then (some (sb s0 1 (vp_updL (s0.2.2.2 1) ((s0.1 5)).toNatClampNeg x2))) else (chk (inb (s0.1 5) 4) (znm ((vp_updL (s0.2.2.2 1) ((s0.1 5)).toNatClampNeg x2) ((s0.1 5)).toNatClampNeg) fun x5 => (znm (sb s0 1 (vp_updL (s0.2.2.2 1) ((s0.1 5)).toNatClampNeg x2)) fun y6 => (chk (inb (s0.1 5) 4) (znm (sb y6 1 (vp_updL (y6.2.2.2 1) ((s0.1 5)).toNatClampNeg (x5 ||| ((1 : Int64) <<< (((s0.1 4)).toInt64 &&& 63))))) fun y8 => (some (si y8 4 ((y6.1 4) + (1 : Int32)))))))))))))
theorem m_X3_exchangeCard {g : Gp} {a0 : Nat} {r0 : Nat → Nat} {q0_0 : Nat} {r1 : Nat → Nat} {N : Nat} {s0 : Ob} {s1 : Ob} {p1 : Int32} {res : Ob} (hg : Ok g) (h : f_X3_exchangeCard N s0 s1 p1 = some res) : Ct g yX3_exchangeCard cX3_exchangeCard 2 none (zrm 0 0) [.ref a0, .int p1] (wX3 g a0 r0 q0_0 s0 ++ wX5 g q0_0 r1 s1) (exR none (wX3 g a0 r0 q0_0 res ++ wX5 g q0_0 r1 s1)) := by
  refine ct_of rfl hg (by show _ ≤ _; exact Nat.le_of_ble_eq_true rfl) (fun K C X => ?_)
  show Zs K 0 0 (wX3 g a0 r0 q0_0 s0 ++ wX5 g q0_0 r1 s1) [(0, .ref a0), (1, .int p1)] 0 []
  unfold f_X3_exchangeCard at h
  refine z_aload_n (pc := 0) (x := a0) C dX3_exchangeCard_0 (i := 0) rfl rfl ?_
  refine z_get (pc := 1) (v := .ref (r0 1)) C 0 dX3_exchangeCard_1 fl_RX3_9 rfl rfl ?_
  refine z_aload_n (pc := 4) (x := a0) C dX3_exchangeCard_4 (i := 0) rfl rfl ?_
  refine z_get (pc := 5) (v := .int (s0.1 5)) C 0 dX3_exchangeCard_5 fl_RX3_30 rfl rfl ?_
  refine z_dup2 (pc := 8) C dX3_exchangeCard_8 rfl rfl ?_
  replace h := chk_e h
  obtain ⟨hb1, h⟩ := h
  refine z_lald (pc := 9) C 1 dX3_exchangeCard_9 rfl hb1 ?_
  refine z_lconst (pc := 10) (v := (1 : Int64)) C dX3_exchangeCard_10 rfl ?_
  refine z_iload_n (pc := 11) (x := p1) C dX3_exchangeCard_11 (i := 1) rfl rfl ?_
  refine z_lshl (pc := 12) C dX3_exchangeCard_12 ?_
  refine z_ldc2 (pc := 13) C dX3_exchangeCard_13 kl_RX3_102 ?_
  refine z_lxor (pc := 16) C dX3_exchangeCard_16 ?_
  refine z_land (pc := 17) C dX3_exchangeCard_17 ?_
  replace h := znm_e h
  obtain ⟨x2, hx2, h⟩ := h
  refine z_top2 hx2 ?_
  replace h := chk_e h
  obtain ⟨hb3, h⟩ := h
  refine z_last (pc := 18) C 1 dX3_exchangeCard_18 rfl hb3 (ws' := (wX3 g a0 r0 q0_0 (sb s0 1 (vp_updL (s0.2.2.2 1) ((s0.1 5)).toNatClampNeg x2)) ++ wX5 g q0_0 r1 s1)) rfl ?_
  refine z_aload_n (pc := 19) (x := a0) C dX3_exchangeCard_19 (i := 0) rfl rfl ?_
  refine z_get (pc := 20) (v := .int (s0.1 4)) C 0 dX3_exchangeCard_20 fl_RX3_27 rfl rfl ?_
  refine z_aload_n (pc := 23) (x := a0) C dX3_exchangeCard_23 (i := 0) rfl rfl ?_
  refine z_get (pc := 24) (v := .ref q0_0) C 0 dX3_exchangeCard_24 fl_RX3_19 rfl rfl ?_
  refine z_get (pc := 27) (v := .int (s1.1 7)) C 3 dX3_exchangeCard_27 fl_RX3_96 rfl rfl ?_
  refine z_icmp_ge (pc := 30) C dX3_exchangeCard_30 (tgt := 61) (by decide) (fun hc => ?_) (fun hc => ?_)
  · replace h := (ite_e h).1 hc
    exact z_vret C X dX3_exchangeCard_61 (by rw [← Option.some.inj h]; exact ⟨rfl, rfl⟩) (by decide) (by decide)
  · replace h := (ite_e h).2 hc
    refine z_aload_n (pc := 33) (x := a0) C dX3_exchangeCard_33 (i := 0) rfl rfl ?_
    refine z_get (pc := 34) (v := .ref (r0 1)) C 0 dX3_exchangeCard_34 fl_RX3_9 rfl rfl ?_
    refine z_aload_n (pc := 37) (x := a0) C dX3_exchangeCard_37 (i := 0) rfl rfl ?_
    refine z_get (pc := 38) (v := .int (s0.1 5)) C 0 dX3_exchangeCard_38 fl_RX3_30 rfl rfl ?_
    refine z_dup2 (pc := 41) C dX3_exchangeCard_41 rfl rfl ?_
    replace h := chk_e h
    obtain ⟨hb4, h⟩ := h
    refine z_lald (pc := 42) C 1 dX3_exchangeCard_42 rfl hb4 ?_
    replace h := znm_e h
    obtain ⟨x5, hx5, h⟩ := h
    refine z_top2 hx5 ?_
    refine z_lconst (pc := 43) (v := (1 : Int64)) C dX3_exchangeCard_43 rfl ?_
    refine z_aload_n (pc := 44) (x := a0) C dX3_exchangeCard_44 (i := 0) rfl rfl ?_
    refine z_get (pc := 45) (v := .int (s0.1 4)) C 0 dX3_exchangeCard_45 fl_RX3_27 rfl rfl ?_
    refine z_lshl (pc := 48) C dX3_exchangeCard_48 ?_
    refine z_lor (pc := 49) C dX3_exchangeCard_49 ?_
    replace h := znm_e h
    obtain ⟨y6, hy6, h⟩ := h
    refine z_wsE (ws' := (wX3 g a0 r0 q0_0 y6 ++ wX5 g q0_0 r1 s1)) (by rw [hy6]) ?_
    replace h := chk_e h
    obtain ⟨hb7, h⟩ := h
    refine z_last (pc := 50) C 1 dX3_exchangeCard_50 rfl hb7 (ws' := (wX3 g a0 r0 q0_0 (sb y6 1 (vp_updL (y6.2.2.2 1) ((s0.1 5)).toNatClampNeg (x5 ||| ((1 : Int64) <<< (((s0.1 4)).toInt64 &&& 63))))) ++ wX5 g q0_0 r1 s1)) rfl ?_
    refine z_aload_n (pc := 51) (x := a0) C dX3_exchangeCard_51 (i := 0) rfl rfl ?_
    refine z_dup (pc := 52) C dX3_exchangeCard_52 rfl ?_
    refine z_get (pc := 53) (v := .int (y6.1 4)) C 0 dX3_exchangeCard_53 fl_RX3_27 rfl rfl ?_
    refine z_iconst (pc := 56) C dX3_exchangeCard_56 ic_1 ?_
    refine z_iadd (pc := 57) C dX3_exchangeCard_57 ?_
    replace h := znm_e h
    obtain ⟨y8, hy8, h⟩ := h
    refine z_wsE (ws' := (wX3 g a0 r0 q0_0 y8 ++ wX5 g q0_0 r1 s1)) (by rw [hy8]) ?_
    refine z_put (pc := 58) C 0 dX3_exchangeCard_58 fp_RX3_27 rfl rfl rfl (zlt_b rfl) (ws' := (wX3 g a0 r0 q0_0 (si y8 4 ((y6.1 4) + (1 : Int32))) ++ wX5 g q0_0 r1 s1)) rfl ?_
    exact z_vret C X dX3_exchangeCard_61 (by rw [← Option.some.inj h]; exact ⟨rfl, rfl⟩) (by decide) (by decide)
def f_X3_move_153 (N : Nat) (s1 : Ob) (p1 : Int32) (p2 : Int32)  (t1 : Int32) (s0 : Ob) : Option (Ob) := (some (si s0 5 t1))
theorem m_X3_move_153 {K : Kt} {g : Gp} {a0 : Nat} {r0 : Nat → Nat} {q0_0 : Nat} {r1 : Nat → Nat} {N : Nat} {s1 : Ob} {p1 : Int32} {p2 : Int32} {res : Ob} (hg : Ok g) (C : Cx K g cX3_move RX3 3 (zrm 2 36)) (X : Rx K (exR none (wX3 g a0 r0 q0_0 res ++ wX5 g q0_0 r1 s1)) 0 0 none) (t1 : Int32) (s0 : Ob) (h : f_X3_move_153 N s1 p1 p2 t1 s0 = some res) : Zs K 0 0 (wX3 g a0 r0 q0_0 s0 ++ wX5 g q0_0 r1 s1) [] 153 [.int t1, .ref a0] := by
  unfold f_X3_move_153 at h
  refine z_put (pc := 153) C 0 dX3_move_153 fp_RX3_30 rfl rfl rfl (zlt_b rfl) (ws' := (wX3 g a0 r0 q0_0 (si s0 5 t1) ++ wX5 g q0_0 r1 s1)) rfl ?_
  exact z_vret C X dX3_move_156 (by rw [← Option.some.inj h]; exact ⟨rfl, rfl⟩) (by decide) (by decide)
def f_X3_move_126 (N : Nat) (s1 : Ob) (p1 : Int32) (p2 : Int32)  (s0 : Ob) : Option (Ob) := (if (s1.1 2) ≤ ((s0.1 5) + (1 : Int32)) then (f_X3_move_153 N s1 p1 p2 (0 : Int32) s0) else (f_X3_move_153 N s1 p1 p2 ((s0.1 5) + (1 : Int32)) s0))
theorem m_X3_move_126 {K : Kt} {g : Gp} {a0 : Nat} {r0 : Nat → Nat} {q0_0 : Nat} {r1 : Nat → Nat} {N : Nat} {s1 : Ob} {p1 : Int32} {p2 : Int32} {res : Ob} (hg : Ok g) (C : Cx K g cX3_move RX3 3 (zrm 2 36)) (X : Rx K (exR none (wX3 g a0 r0 q0_0 res ++ wX5 g q0_0 r1 s1)) 0 0 none) (s0 : Ob) (h : f_X3_move_126 N s1 p1 p2 s0 = some res) : Zs K 0 0 (wX3 g a0 r0 q0_0 s0 ++ wX5 g q0_0 r1 s1) [(0, .ref a0)] 126 [] := by
  unfold f_X3_move_126 at h
  refine z_aload_n (pc := 126) (x := a0) C dX3_move_126 (i := 0) rfl rfl ?_
  refine z_aload_n (pc := 127) (x := a0) C dX3_move_127 (i := 0) rfl rfl ?_
  refine z_get (pc := 128) (v := .int (s0.1 5)) C 0 dX3_move_128 fl_RX3_30 rfl rfl ?_
  refine z_iconst (pc := 131) C dX3_move_131 ic_1 ?_
  refine z_iadd (pc := 132) C dX3_move_132 ?_
  refine z_aload_n (pc := 133) (x := a0) C dX3_move_133 (i := 0) rfl rfl ?_
  refine z_get (pc := 134) (v := .ref q0_0) C 0 dX3_move_134 fl_RX3_19 rfl rfl ?_
  refine z_get (pc := 137) (v := .int (s1.1 2)) C 3 dX3_move_137 fl_RX3_99 rfl rfl ?_
  refine z_icmp_ge (pc := 140) C dX3_move_140 (tgt := 152) (by decide) (fun hc => ?_) (fun hc => ?_)
  · replace h := (ite_e h).1 hc
    refine z_iconst (pc := 152) C dX3_move_152 ic_0 ?_
    refine z_lv (lv' := []) [] rfl ?_
    exact m_X3_move_153 (a0 := a0) (r0 := r0) (q0_0 := q0_0) (r1 := r1) hg C X (0 : Int32) s0 h
  · replace h := (ite_e h).2 hc
    refine z_aload_n (pc := 143) (x := a0) C dX3_move_143 (i := 0) rfl rfl ?_
    refine z_get (pc := 144) (v := .int (s0.1 5)) C 0 dX3_move_144 fl_RX3_30 rfl rfl ?_
    refine z_iconst (pc := 147) C dX3_move_147 ic_1 ?_
    refine z_iadd (pc := 148) C dX3_move_148 ?_
    refine z_goto (pc := 149) C dX3_move_149 (tgt := 153) (by decide) ?_
    refine z_lv (lv' := []) [] rfl ?_
    exact m_X3_move_153 (a0 := a0) (r0 := r0) (q0_0 := q0_0) (r1 := r1) hg C X ((s0.1 5) + (1 : Int32)) s0 h
def f_X3_move_73 (N : Nat) (s1 : Ob) (p1 : Int32) (p2 : Int32)  (s0 : Ob) : Option (Ob) := (if (s0.1 6) ≤ 0 then (if (s0.1 6) = (-1 : Int32) then (if (s0.1 4) < (s1.1 7) then (f_X3_move_126 N s1 p1 p2 s0) else (f_X3_move_126 N s1 p1 p2 (si s0 6 (s1.1 2)))) else (f_X3_move_126 N s1 p1 p2 s0)) else (f_X3_move_126 N s1 p1 p2 (si s0 6 ((s0.1 6) - (1 : Int32)))))
theorem m_X3_move_73 {K : Kt} {g : Gp} {a0 : Nat} {r0 : Nat → Nat} {q0_0 : Nat} {r1 : Nat → Nat} {N : Nat} {s1 : Ob} {p1 : Int32} {p2 : Int32} {res : Ob} (hg : Ok g) (C : Cx K g cX3_move RX3 3 (zrm 2 36)) (X : Rx K (exR none (wX3 g a0 r0 q0_0 res ++ wX5 g q0_0 r1 s1)) 0 0 none) (s0 : Ob) (h : f_X3_move_73 N s1 p1 p2 s0 = some res) : Zs K 0 0 (wX3 g a0 r0 q0_0 s0 ++ wX5 g q0_0 r1 s1) [(0, .ref a0)] 73 [] := by
  unfold f_X3_move_73 at h
  refine z_aload_n (pc := 73) (x := a0) C dX3_move_73 (i := 0) rfl rfl ?_
  refine z_get (pc := 74) (v := .int (s0.1 6)) C 0 dX3_move_74 fl_RX3_33 rfl rfl ?_
  refine z_if_le (pc := 77) C dX3_move_77 (tgt := 93) (by decide) (fun hc => ?_) (fun hc => ?_)
  · replace h := (ite_e h).1 hc
    refine z_aload_n (pc := 93) (x := a0) C dX3_move_93 (i := 0) rfl rfl ?_
    refine z_get (pc := 94) (v := .int (s0.1 6)) C 0 dX3_move_94 fl_RX3_33 rfl rfl ?_
    refine z_iconst (pc := 97) C dX3_move_97 ic_m1 ?_
    refine z_icmp_ne (pc := 98) C dX3_move_98 (tgt := 126) (by decide) (fun hc => ?_) (fun hc => ?_)
    · replace h := (ite_e h).2 hc
      exact m_X3_move_126 (a0 := a0) (r0 := r0) (q0_0 := q0_0) (r1 := r1) hg C X s0 h
    · replace h := (ite_e h).1 hc
      refine z_aload_n (pc := 101) (x := a0) C dX3_move_101 (i := 0) rfl rfl ?_
      refine z_get (pc := 102) (v := .int (s0.1 4)) C 0 dX3_move_102 fl_RX3_27 rfl rfl ?_
      refine z_aload_n (pc := 105) (x := a0) C dX3_move_105 (i := 0) rfl rfl ?_
      refine z_get (pc := 106) (v := .ref q0_0) C 0 dX3_move_106 fl_RX3_19 rfl rfl ?_
      refine z_get (pc := 109) (v := .int (s1.1 7)) C 3 dX3_move_109 fl_RX3_96 rfl rfl ?_
      refine z_icmp_lt (pc := 112) C dX3_move_112 (tgt := 126) (by decide) (fun hc => ?_) (fun hc => ?_)
      · replace h := (ite_e h).1 hc
        exact m_X3_move_126 (a0 := a0) (r0 := r0) (q0_0 := q0_0) (r1 := r1) hg C X s0 h
      · replace h := (ite_e h).2 hc
        refine z_aload_n (pc := 115) (x := a0) C dX3_move_115 (i := 0) rfl rfl ?_
        refine z_aload_n (pc := 116) (x := a0) C dX3_move_116 (i := 0) rfl rfl ?_
        refine z_get (pc := 117) (v := .ref q0_0) C 0 dX3_move_117 fl_RX3_19 rfl rfl ?_
        refine z_get (pc := 120) (v := .int (s1.1 2)) C 3 dX3_move_120 fl_RX3_99 rfl rfl ?_
        refine z_put (pc := 123) C 0 dX3_move_123 fp_RX3_33 rfl rfl rfl (zlt_b rfl) (ws' := (wX3 g a0 r0 q0_0 (si s0 6 (s1.1 2)) ++ wX5 g q0_0 r1 s1)) rfl ?_
        exact m_X3_move_126 (a0 := a0) (r0 := r0) (q0_0 := q0_0) (r1 := r1) hg C X (si s0 6 (s1.1 2)) h
  · replace h := (ite_e h).2 hc
    refine z_aload_n (pc := 80) (x := a0) C dX3_move_80 (i := 0) rfl rfl ?_
    refine z_dup (pc := 81) C dX3_move_81 rfl ?_
    refine z_get (pc := 82) (v := .int (s0.1 6)) C 0 dX3_move_82 fl_RX3_33 rfl rfl ?_
    refine z_iconst (pc := 85) C dX3_move_85 ic_1 ?_
    refine z_isub (pc := 86) C dX3_move_86 ?_
    refine z_put (pc := 87) C 0 dX3_move_87 fp_RX3_33 rfl rfl rfl (zlt_b rfl) (ws' := (wX3 g a0 r0 q0_0 (si s0 6 ((s0.1 6) - (1 : Int32))) ++ wX5 g q0_0 r1 s1)) rfl ?_
    refine z_goto (pc := 90) C dX3_move_90 (tgt := 126) (by decide) ?_
    exact m_X3_move_126 (a0 := a0) (r0 := r0) (q0_0 := q0_0) (r1 := r1) hg C X (si s0 6 ((s0.1 6) - (1 : Int32))) h
def f_X3_move (N : Nat) (s0 : Ob) (s1 : Ob) (p1 : Int32) (p2 : Int32) : Option (Ob) := (if p1 = 0 then (chk (inb p2 40) (ob (f_X3_putOnPile N s0 s1 ((s1.2.2.1 8) (p2).toNatClampNeg)) fun x4 => (ob (f_X3_exchangeCard N x4 s1 p2) fun x5 => (f_X3_move_73 N s1 p1 p2 x5)))) else (if p1 = (1 : Int32) then (znm (if (s1.1 4) < ((s0.1 3) + (1 : Int32)) then (s1.1 4) else ((s0.1 3) + (1 : Int32))) fun x1 => (ob (f_X3_exchangeCard N (si s0 3 x1) s1 p2) fun x2 => (f_X3_move_73 N s1 p1 p2 x2))) else (if p1 = (2 : Int32) then (f_X3_move_73 N s1 p1 p2 (si s0 3 ((s0.1 3) - (1 : Int32)))) else (f_X3_move_73 N s1 p1 p2 s0))))
theorem m_X3_move {g : Gp} {a0 : Nat} {r0 : Nat → Nat} {q0_0 : Nat} {r1 : Nat → Nat} {N : Nat} {s0 : Ob} {s1 : Ob} {p1 : Int32} {p2 : Int32} {res : Ob} (hg : Ok g) (h : f_X3_move N s0 s1 p1 p2 = some res) : Ct g yX3_move cX3_move 3 none (zrm 2 36) [.ref a0, .int p1, .int p2] (wX3 g a0 r0 q0_0 s0 ++ wX5 g q0_0 r1 s1) (exR none (wX3 g a0 r0 q0_0 res ++ wX5 g q0_0 r1 s1)) := by
  refine ct_of rfl hg (by show _ ≤ _; exact Nat.le_of_ble_eq_true rfl) (fun K C X => ?_)
  show Zs K 0 0 (wX3 g a0 r0 q0_0 s0 ++ wX5 g q0_0 r1 s1) [(0, .ref a0), (1, .int p1), (2, .int p2)] 0 []
  unfold f_X3_move at h
  refine z_iload_n (pc := 0) (x := p1) C dX3_move_0 (i := 1) rfl rfl ?_
  refine z_if_ne (pc := 1) C dX3_move_1 (tgt := 25) (by decide) (fun hc => ?_) (fun hc => ?_)
  · replace h := (ite_e h).2 hc
    refine z_iload_n (pc := 25) (x := p1) C dX3_move_25 (i := 1) rfl rfl ?_
    refine z_iconst (pc := 26) C dX3_move_26 ic_1 ?_
    refine z_icmp_ne (pc := 27) C dX3_move_27 (tgt := 58) (by decide) (fun hc => ?_) (fun hc => ?_)
    · replace h := (ite_e h).2 hc
      refine z_iload_n (pc := 58) (x := p1) C dX3_move_58 (i := 1) rfl rfl ?_
      refine z_iconst (pc := 59) C dX3_move_59 ic_2 ?_
      refine z_icmp_ne (pc := 60) C dX3_move_60 (tgt := 73) (by decide) (fun hc => ?_) (fun hc => ?_)
      · replace h := (ite_e h).2 hc
        refine z_lv (lv' := [(0, .ref a0)]) [0] rfl ?_
        exact m_X3_move_73 (a0 := a0) (r0 := r0) (q0_0 := q0_0) (r1 := r1) hg C X s0 h
      · replace h := (ite_e h).1 hc
        refine z_aload_n (pc := 63) (x := a0) C dX3_move_63 (i := 0) rfl rfl ?_
        refine z_dup (pc := 64) C dX3_move_64 rfl ?_
        refine z_get (pc := 65) (v := .int (s0.1 3)) C 0 dX3_move_65 fl_RX3_23 rfl rfl ?_
        refine z_iconst (pc := 68) C dX3_move_68 ic_1 ?_
        refine z_isub (pc := 69) C dX3_move_69 ?_
        refine z_put (pc := 70) C 0 dX3_move_70 fp_RX3_23 rfl rfl rfl (zlt_b rfl) (ws' := (wX3 g a0 r0 q0_0 (si s0 3 ((s0.1 3) - (1 : Int32))) ++ wX5 g q0_0 r1 s1)) rfl ?_
        refine z_lv (lv' := [(0, .ref a0)]) [0] rfl ?_
        exact m_X3_move_73 (a0 := a0) (r0 := r0) (q0_0 := q0_0) (r1 := r1) hg C X (si s0 3 ((s0.1 3) - (1 : Int32))) h
    · replace h := (ite_e h).1 hc
      refine z_aload_n (pc := 30) (x := a0) C dX3_move_30 (i := 0) rfl rfl ?_
      refine z_aload_n (pc := 31) (x := a0) C dX3_move_31 (i := 0) rfl rfl ?_
      refine z_get (pc := 32) (v := .int (s0.1 3)) C 0 dX3_move_32 fl_RX3_23 rfl rfl ?_
      refine z_iconst (pc := 35) C dX3_move_35 ic_1 ?_
      refine z_iadd (pc := 36) C dX3_move_36 ?_
      refine z_aload_n (pc := 37) (x := a0) C dX3_move_37 (i := 0) rfl rfl ?_
      refine z_get (pc := 38) (v := .ref q0_0) C 0 dX3_move_38 fl_RX3_19 rfl rfl ?_
      refine z_get (pc := 41) (v := .int (s1.1 4)) C 3 dX3_move_41 fl_RX3_88 rfl rfl ?_
      refine z_mmin (pc := 44) C dX3_move_44 ml_RX3_91 wm_min (by decide) (Nat.le_of_ble_eq_true rfl) (by decide) (by decide) ?_
      replace h := znm_e h
      obtain ⟨x1, hx1, h⟩ := h
      refine z_top1 hx1 ?_
      refine z_put (pc := 47) C 0 dX3_move_47 fp_RX3_23 rfl rfl rfl (zlt_b rfl) (ws' := (wX3 g a0 r0 q0_0 (si s0 3 x1) ++ wX5 g q0_0 r1 s1)) rfl ?_
      refine z_aload_n (pc := 50) (x := a0) C dX3_move_50 (i := 0) rfl rfl ?_
      refine z_iload_n (pc := 51) (x := p2) C dX3_move_51 (i := 2) rfl rfl ?_
      replace h := ob_e h
      obtain ⟨x2, hx2, h⟩ := h
      refine z_callV (pc := 52) (As := [.int p2]) (rest := []) (wr := ([] : va_W)) C dX3_move_52 ml_RX3_85 wv_X3_exchangeCard (m_X3_exchangeCard (a0 := a0) (r0 := r0) (q0_0 := q0_0) (r1 := r1) hg hx2) [0, 1, 2, 3, 4, 5, 6] [] rfl rfl ⟨by decide, by decide⟩ (Nat.le_of_ble_eq_true rfl) ⟨by decide, by decide⟩ rfl rfl rfl rfl rfl rfl rfl (by decide) (ex_k C (cs' := 0) (ss' := 0) (wF := (wX3 g a0 r0 q0_0 x2 ++ wX5 g q0_0 r1 s1)) [0, 1, 2, 3, 4, 5, 6] rfl rfl ?_)
      refine z_goto (pc := 55) C dX3_move_55 (tgt := 73) (by decide) ?_
      refine z_lv (lv' := [(0, .ref a0)]) [0] rfl ?_
      exact m_X3_move_73 (a0 := a0) (r0 := r0) (q0_0 := q0_0) (r1 := r1) hg C X x2 h
  · replace h := (ite_e h).1 hc
    refine z_aload_n (pc := 4) (x := a0) C dX3_move_4 (i := 0) rfl rfl ?_
    refine z_aload_n (pc := 5) (x := a0) C dX3_move_5 (i := 0) rfl rfl ?_
    refine z_get (pc := 6) (v := .ref q0_0) C 0 dX3_move_6 fl_RX3_19 rfl rfl ?_
    refine z_get (pc := 9) (v := .ref (r1 8)) C 3 dX3_move_9 fl_RX3_75 rfl rfl ?_
    refine z_iload_n (pc := 12) (x := p2) C dX3_move_12 (i := 2) rfl rfl ?_
    replace h := chk_e h
    obtain ⟨hb3, h⟩ := h
    refine z_iald (pc := 13) C 4 dX3_move_13 rfl hb3 ?_
    replace h := ob_e h
    obtain ⟨x4, hx4, h⟩ := h
    refine z_callV (pc := 14) (As := [.int ((s1.2.2.1 8) (p2).toNatClampNeg)]) (rest := []) (wr := ([] : va_W)) C dX3_move_14 ml_RX3_81 wv_X3_putOnPile (m_X3_putOnPile (a0 := a0) (r0 := r0) (q0_0 := q0_0) (r1 := r1) hg hx4) [0, 1, 2, 3, 4, 5, 6] [] rfl rfl ⟨by decide, by decide⟩ (Nat.le_of_ble_eq_true rfl) ⟨by decide, by decide⟩ rfl rfl rfl rfl rfl rfl rfl (by decide) (ex_k C (cs' := 0) (ss' := 0) (wF := (wX3 g a0 r0 q0_0 x4 ++ wX5 g q0_0 r1 s1)) [0, 1, 2, 3, 4, 5, 6] rfl rfl ?_)
    refine z_aload_n (pc := 17) (x := a0) C dX3_move_17 (i := 0) rfl rfl ?_
    refine z_iload_n (pc := 18) (x := p2) C dX3_move_18 (i := 2) rfl rfl ?_
    replace h := ob_e h
    obtain ⟨x5, hx5, h⟩ := h
    refine z_callV (pc := 19) (As := [.int p2]) (rest := []) (wr := ([] : va_W)) C dX3_move_19 ml_RX3_85 wv_X3_exchangeCard (m_X3_exchangeCard (a0 := a0) (r0 := r0) (q0_0 := q0_0) (r1 := r1) hg hx5) [0, 1, 2, 3, 4, 5, 6] [] rfl rfl ⟨by decide, by decide⟩ (Nat.le_of_ble_eq_true rfl) ⟨by decide, by decide⟩ rfl rfl rfl rfl rfl rfl rfl (by decide) (ex_k C (cs' := 0) (ss' := 0) (wF := (wX3 g a0 r0 q0_0 x5 ++ wX5 g q0_0 r1 s1)) [0, 1, 2, 3, 4, 5, 6] rfl rfl ?_)
    refine z_goto (pc := 22) C dX3_move_22 (tgt := 73) (by decide) ?_
    refine z_lv (lv' := [(0, .ref a0)]) [0] rfl ?_
    exact m_X3_move_73 (a0 := a0) (r0 := r0) (q0_0 := q0_0) (r1 := r1) hg C X x5 h
def f_X4_signAt (N : Nat) (n1 : Nat) (s0 : Ob) (s1 : (Nat → Int32)) (p1 : Int32) : Option (Int32) := (if p1 < 0 then (some (-1 : Int32)) else (if (s0.1 5) ≤ p1 then (some (-1 : Int32)) else (if (Int32.ofNat n1) ≤ p1 then (some (-1 : Int32)) else (chk (inb p1 n1) (some (s1 (p1).toNatClampNeg))))))
theorem m_X4_signAt {g : Gp} {a0 : Nat} {r0 : Nat → Nat} {q0_0 : Nat} {q0_4 : Nat} {N : Nat} {n1 : Nat} {s0 : Ob} {s1 : (Nat → Int32)} {p1 : Int32} {res : Int32} (hg : Ok g) (h : f_X4_signAt N n1 s0 s1 p1 = some res) : Ct g yX4_signAt cX4_signAt 2 (some .int) (zrm 0 0) [.ref a0, .int p1] (wX4 g a0 r0 q0_0 q0_4 s0 ++ wA g q0_4 n1 s1) (exR (some (.int res)) (wX4 g a0 r0 q0_0 q0_4 s0 ++ wA g q0_4 n1 s1)) := by
  refine ct_of rfl hg (by show _ ≤ _; exact Nat.le_of_ble_eq_true rfl) (fun K C X => ?_)
  show Zs K 0 0 (wX4 g a0 r0 q0_0 q0_4 s0 ++ wA g q0_4 n1 s1) [(0, .ref a0), (1, .int p1)] 0 []
  unfold f_X4_signAt at h
  refine z_iload_n (pc := 0) (x := p1) C dX4_signAt_0 (i := 1) rfl rfl ?_
  refine z_if_lt (pc := 1) C dX4_signAt_1 (tgt := 30) (by decide) (fun hc => ?_) (fun hc => ?_)
  · replace h := (ite_e h).1 hc
    refine z_iconst (pc := 30) C dX4_signAt_30 ic_m1 ?_
    exact z_iret C X dX4_signAt_31 (by rw [← Option.some.inj h]; exact ⟨rfl, rfl⟩) (by decide) (by decide)
  · replace h := (ite_e h).2 hc
    refine z_iload_n (pc := 4) (x := p1) C dX4_signAt_4 (i := 1) rfl rfl ?_
    refine z_aload_n (pc := 5) (x := a0) C dX4_signAt_5 (i := 0) rfl rfl ?_
    refine z_get (pc := 6) (v := .int (s0.1 5)) C 0 dX4_signAt_6 fl_RX4_38 rfl rfl ?_
    refine z_icmp_ge (pc := 9) C dX4_signAt_9 (tgt := 30) (by decide) (fun hc => ?_) (fun hc => ?_)
    · replace h := (ite_e h).1 hc
      refine z_iconst (pc := 30) C dX4_signAt_30 ic_m1 ?_
      exact z_iret C X dX4_signAt_31 (by rw [← Option.some.inj h]; exact ⟨rfl, rfl⟩) (by decide) (by decide)
    · replace h := (ite_e h).2 hc
      refine z_iload_n (pc := 12) (x := p1) C dX4_signAt_12 (i := 1) rfl rfl ?_
      refine z_aload_n (pc := 13) (x := a0) C dX4_signAt_13 (i := 0) rfl rfl ?_
      refine z_get (pc := 14) (v := .ref q0_4) C 0 dX4_signAt_14 fl_RX4_22 rfl rfl ?_
      refine z_alen_int (pc := 17) (v := (Int32.ofNat n1)) C 1 dX4_signAt_17 rfl rfl ?_
      refine z_icmp_ge (pc := 18) C dX4_signAt_18 (tgt := 30) (by decide) (fun hc => ?_) (fun hc => ?_)
      · replace h := (ite_e h).1 hc
        refine z_iconst (pc := 30) C dX4_signAt_30 ic_m1 ?_
        exact z_iret C X dX4_signAt_31 (by rw [← Option.some.inj h]; exact ⟨rfl, rfl⟩) (by decide) (by decide)
      · replace h := (ite_e h).2 hc
        refine z_aload_n (pc := 21) (x := a0) C dX4_signAt_21 (i := 0) rfl rfl ?_
        refine z_get (pc := 22) (v := .ref q0_4) C 0 dX4_signAt_22 fl_RX4_22 rfl rfl ?_
        refine z_iload_n (pc := 25) (x := p1) C dX4_signAt_25 (i := 1) rfl rfl ?_
        replace h := chk_e h
        obtain ⟨hb1, h⟩ := h
        refine z_iald (pc := 26) C 1 dX4_signAt_26 rfl hb1 ?_
        refine z_goto (pc := 27) C dX4_signAt_27 (tgt := 31) (by decide) ?_
        exact z_iret C X dX4_signAt_31 (by rw [← Option.some.inj h]; exact ⟨rfl, rfl⟩) (by decide) (by decide)
def F_X4_skipSpaces_5 (N : Nat) (n1 : Nat) (s1 : (Nat → Int32))  (k5 : Int32 → Ob → Option (Ob)) (v1 : Int32) (s0 : Ob) : Option (Ob) := (if (s0.1 5) ≤ v1 then (some s0) else (ob (f_X4_signAt N n1 s0 s1 v1) fun x1 => (if x1 = (32 : Int32) then (k5 (v1 + (1 : Int32)) (si s0 6 ((s0.1 6) + (1 : Int32)))) else (some s0))))
def f_X4_skipSpaces_5 (N : Nat) (n1 : Nat) (s1 : (Nat → Int32))  : Nat → Int32 → Ob → Option (Ob) := zlp (fun _ _ => none) (F_X4_skipSpaces_5 N n1 s1)
theorem m_X4_skipSpaces_5 {K : Kt} {g : Gp} {a0 : Nat} {r0 : Nat → Nat} {q0_0 : Nat} {q0_4 : Nat} {N : Nat} {n1 : Nat} {s1 : (Nat → Int32)} {res : Ob} (hg : Ok g) (C : Cx K g cX4_skipSpaces RX4 2 (zrm 1 21)) (X : Rx K (exR none (wX4 g a0 r0 q0_0 q0_4 res ++ wA g q0_4 n1 s1)) 0 0 none) : ∀ (n : Nat) (v1 : Int32) (s0 : Ob), f_X4_skipSpaces_5 N n1 s1 n v1 s0 = some res → Zs K 0 0 (wX4 g a0 r0 q0_0 q0_4 s0 ++ wA g q0_4 n1 s1) [(0, .ref a0), (1, .int v1)] 5 [] := by
  intro n
  induction n with
  | zero => intro v1 s0 h; exact nomatch (show (none : Option (Ob)) = some res from h)
  | succ n hk5 =>
    intro v1 s0 h
    replace h : F_X4_skipSpaces_5 N n1 s1 (f_X4_skipSpaces_5 N n1 s1 n) v1 s0 = some res := h
    unfold F_X4_skipSpaces_5 at h
    refine z_iload_n (pc := 5) (x := v1) C dX4_skipSpaces_5 (i := 1) rfl rfl ?_
    refine z_aload_n (pc := 6) (x := a0) C dX4_skipSpaces_6 (i := 0) rfl rfl ?_
    refine z_get (pc := 7) (v := .int (s0.1 5)) C 0 dX4_skipSpaces_7 fl_RX4_38 rfl rfl ?_
    refine z_icmp_ge (pc := 10) C dX4_skipSpaces_10 (tgt := 39) (by decide) (fun hc => ?_) (fun hc => ?_)
    · replace h := (ite_e h).1 hc
      exact z_vret C X dX4_skipSpaces_39 (by rw [← Option.some.inj h]; exact ⟨rfl, rfl⟩) (by decide) (by decide)
    · replace h := (ite_e h).2 hc
      refine z_aload_n (pc := 13) (x := a0) C dX4_skipSpaces_13 (i := 0) rfl rfl ?_
      refine z_iload_n (pc := 14) (x := v1) C dX4_skipSpaces_14 (i := 1) rfl rfl ?_
      replace h := ob_e h
      obtain ⟨x1, hx1, h⟩ := h
      refine z_callV (pc := 15) (As := [.int v1]) (rest := []) (wr := ([] : va_W)) C dX4_skipSpaces_15 ml_RX4_120 wv_X4_signAt (m_X4_signAt (a0 := a0) (r0 := r0) (q0_0 := q0_0) (q0_4 := q0_4) hg hx1) [0, 1] [] rfl rfl ⟨by decide, by decide⟩ (Nat.le_of_ble_eq_true rfl) ⟨by decide, by decide⟩ rfl rfl rfl rfl rfl rfl rfl (by decide) (ex_k C (cs' := 0) (ss' := 0) (wF := (wX4 g a0 r0 q0_0 q0_4 s0 ++ wA g q0_4 n1 s1)) [0, 1] rfl rfl ?_)
      refine z_bipush (pc := 18) C dX4_skipSpaces_18 bp_32 ?_
      refine z_icmp_ne (pc := 20) C dX4_skipSpaces_20 (tgt := 39) (by decide) (fun hc => ?_) (fun hc => ?_)
      · replace h := (ite_e h).2 hc
        exact z_vret C X dX4_skipSpaces_39 (by rw [← Option.some.inj h]; exact ⟨rfl, rfl⟩) (by decide) (by decide)
      · replace h := (ite_e h).1 hc
        refine z_aload_n (pc := 23) (x := a0) C dX4_skipSpaces_23 (i := 0) rfl rfl ?_
        refine z_dup (pc := 24) C dX4_skipSpaces_24 rfl ?_
        refine z_get (pc := 25) (v := .int (s0.1 6)) C 0 dX4_skipSpaces_25 fl_RX4_41 rfl rfl ?_
        refine z_iconst (pc := 28) C dX4_skipSpaces_28 ic_1 ?_
        refine z_iadd (pc := 29) C dX4_skipSpaces_29 ?_
        refine z_put (pc := 30) C 0 dX4_skipSpaces_30 fp_RX4_41 rfl rfl rfl (zlt_b rfl) (ws' := (wX4 g a0 r0 q0_0 q0_4 (si s0 6 ((s0.1 6) + (1 : Int32))) ++ wA g q0_4 n1 s1)) rfl ?_
        refine z_iinc (pc := 33) C dX4_skipSpaces_33 rfl (inc_e 1 (1 : Int32) ic_1 v1) (by decide) (lv' := [(1, .int (v1 + (1 : Int32))), (0, .ref a0)]) rfl ?_
        refine z_goto (pc := 36) C dX4_skipSpaces_36 (tgt := 5) (by decide) ?_
        refine z_lv (lv' := [(0, .ref a0), (1, .int (v1 + (1 : Int32)))]) [1, 0] rfl ?_
        exact hk5 (v1 + (1 : Int32)) (si s0 6 ((s0.1 6) + (1 : Int32))) h
def f_X4_skipSpaces (N : Nat) (n1 : Nat) (s0 : Ob) (s1 : (Nat → Int32)) : Option (Ob) := (f_X4_skipSpaces_5 N n1 s1 N (s0.1 6) s0)
theorem m_X4_skipSpaces {g : Gp} {a0 : Nat} {r0 : Nat → Nat} {q0_0 : Nat} {q0_4 : Nat} {N : Nat} {n1 : Nat} {s0 : Ob} {s1 : (Nat → Int32)} {res : Ob} (hg : Ok g) (h : f_X4_skipSpaces N n1 s0 s1 = some res) : Ct g yX4_skipSpaces cX4_skipSpaces 2 none (zrm 1 21) [.ref a0] (wX4 g a0 r0 q0_0 q0_4 s0 ++ wA g q0_4 n1 s1) (exR none (wX4 g a0 r0 q0_0 q0_4 res ++ wA g q0_4 n1 s1)) := by
  refine ct_of rfl hg (by show _ ≤ _; exact Nat.le_of_ble_eq_true rfl) (fun K C X => ?_)
  show Zs K 0 0 (wX4 g a0 r0 q0_0 q0_4 s0 ++ wA g q0_4 n1 s1) [(0, .ref a0)] 0 []
  unfold f_X4_skipSpaces at h
  refine z_aload_n (pc := 0) (x := a0) C dX4_skipSpaces_0 (i := 0) rfl rfl ?_
  refine z_get (pc := 1) (v := .int (s0.1 6)) C 0 dX4_skipSpaces_1 fl_RX4_41 rfl rfl ?_
  refine z_istore_n (pc := 4) C dX4_skipSpaces_4 (i := 1) rfl (by decide) (lv' := [(1, .int (s0.1 6)), (0, .ref a0)]) rfl ?_
  refine z_lv (lv' := [(0, .ref a0), (1, .int (s0.1 6))]) [1, 0] rfl ?_
  exact m_X4_skipSpaces_5 (a0 := a0) (r0 := r0) (q0_0 := q0_0) (q0_4 := q0_4) hg C X N (s0.1 6) s0 h
def f_X4_isLetter (N : Nat) (p0 : Int32) : Option (Int32) := (if p0 < (97 : Int32) then (some (0 : Int32)) else (if (122 : Int32) < p0 then (some (0 : Int32)) else (some (1 : Int32))))
theorem m_X4_isLetter {g : Gp}  {N : Nat} {p0 : Int32} {res : Int32} (hg : Ok g) (h : f_X4_isLetter N p0 = some res) : Ct g yX4_isLetter cX4_isLetter 1 (some .boolean) (zrm 0 0) [.int p0] ([] : va_W) (exR (some (.int res)) ([] : va_W)) := by
  refine ct_of rfl hg (by show _ ≤ _; exact Nat.le_of_ble_eq_true rfl) (fun K C X => ?_)
  show Zs K 0 0 ([] : va_W) [(0, .int p0)] 0 []
  unfold f_X4_isLetter at h
  refine z_iload_n (pc := 0) (x := p0) C dX4_isLetter_0 (i := 0) rfl rfl ?_
  refine z_bipush (pc := 1) C dX4_isLetter_1 bp_97 ?_
  refine z_icmp_lt (pc := 3) C dX4_isLetter_3 (tgt := 16) (by decide) (fun hc => ?_) (fun hc => ?_)
  · replace h := (ite_e h).1 hc
    refine z_iconst (pc := 16) C dX4_isLetter_16 ic_0 ?_
    exact z_zret C X dX4_isLetter_17 rfl (by rw [← Option.some.inj h]; exact ⟨rfl, rfl⟩) (by decide) (by decide)
  · replace h := (ite_e h).2 hc
    refine z_iload_n (pc := 6) (x := p0) C dX4_isLetter_6 (i := 0) rfl rfl ?_
    refine z_bipush (pc := 7) C dX4_isLetter_7 bp_122 ?_
    refine z_icmp_gt (pc := 9) C dX4_isLetter_9 (tgt := 16) (by decide) (fun hc => ?_) (fun hc => ?_)
    · replace h := (ite_e h).1 hc
      refine z_iconst (pc := 16) C dX4_isLetter_16 ic_0 ?_
      exact z_zret C X dX4_isLetter_17 rfl (by rw [← Option.some.inj h]; exact ⟨rfl, rfl⟩) (by decide) (by decide)
    · replace h := (ite_e h).2 hc
      refine z_iconst (pc := 12) C dX4_isLetter_12 ic_1 ?_
      refine z_goto (pc := 13) C dX4_isLetter_13 (tgt := 17) (by decide) ?_
      exact z_zret C X dX4_isLetter_17 rfl (by rw [← Option.some.inj h]; exact ⟨rfl, rfl⟩) (by decide) (by decide)
def F_X4_skipLetters_5 (N : Nat) (n1 : Nat) (s1 : (Nat → Int32))  (k5 : Int32 → Ob → Option (Ob)) (v1 : Int32) (s0 : Ob) : Option (Ob) := (if (s0.1 5) ≤ v1 then (some s0) else (ob (f_X4_signAt N n1 s0 s1 v1) fun x1 => (ob (f_X4_isLetter N x1) fun x2 => (if x2 = 0 then (some s0) else (k5 (v1 + (1 : Int32)) (si s0 6 ((s0.1 6) + (1 : Int32))))))))
def f_X4_skipLetters_5 (N : Nat) (n1 : Nat) (s1 : (Nat → Int32))  : Nat → Int32 → Ob → Option (Ob) := zlp (fun _ _ => none) (F_X4_skipLetters_5 N n1 s1)
theorem m_X4_skipLetters_5 {K : Kt} {g : Gp} {a0 : Nat} {r0 : Nat → Nat} {q0_0 : Nat} {q0_4 : Nat} {N : Nat} {n1 : Nat} {s1 : (Nat → Int32)} {res : Ob} (hg : Ok g) (C : Cx K g cX4_skipLetters RX4 2 (zrm 1 21)) (X : Rx K (exR none (wX4 g a0 r0 q0_0 q0_4 res ++ wA g q0_4 n1 s1)) 0 0 none) : ∀ (n : Nat) (v1 : Int32) (s0 : Ob), f_X4_skipLetters_5 N n1 s1 n v1 s0 = some res → Zs K 0 0 (wX4 g a0 r0 q0_0 q0_4 s0 ++ wA g q0_4 n1 s1) [(0, .ref a0), (1, .int v1)] 5 [] := by
  intro n
  induction n with
  | zero => intro v1 s0 h; exact nomatch (show (none : Option (Ob)) = some res from h)
  | succ n hk5 =>
    intro v1 s0 h
    replace h : F_X4_skipLetters_5 N n1 s1 (f_X4_skipLetters_5 N n1 s1 n) v1 s0 = some res := h
    unfold F_X4_skipLetters_5 at h
    refine z_iload_n (pc := 5) (x := v1) C dX4_skipLetters_5 (i := 1) rfl rfl ?_
    refine z_aload_n (pc := 6) (x := a0) C dX4_skipLetters_6 (i := 0) rfl rfl ?_
    refine z_get (pc := 7) (v := .int (s0.1 5)) C 0 dX4_skipLetters_7 fl_RX4_38 rfl rfl ?_
    refine z_icmp_ge (pc := 10) C dX4_skipLetters_10 (tgt := 40) (by decide) (fun hc => ?_) (fun hc => ?_)
    · replace h := (ite_e h).1 hc
      exact z_vret C X dX4_skipLetters_40 (by rw [← Option.some.inj h]; exact ⟨rfl, rfl⟩) (by decide) (by decide)
    · replace h := (ite_e h).2 hc
      refine z_aload_n (pc := 13) (x := a0) C dX4_skipLetters_13 (i := 0) rfl rfl ?_
      refine z_iload_n (pc := 14) (x := v1) C dX4_skipLetters_14 (i := 1) rfl rfl ?_
      replace h := ob_e h
      obtain ⟨x1, hx1, h⟩ := h
      refine z_callV (pc := 15) (As := [.int v1]) (rest := []) (wr := ([] : va_W)) C dX4_skipLetters_15 ml_RX4_120 wv_X4_signAt (m_X4_signAt (a0 := a0) (r0 := r0) (q0_0 := q0_0) (q0_4 := q0_4) hg hx1) [0, 1] [] rfl rfl ⟨by decide, by decide⟩ (Nat.le_of_ble_eq_true rfl) ⟨by decide, by decide⟩ rfl rfl rfl rfl rfl rfl rfl (by decide) (ex_k C (cs' := 0) (ss' := 0) (wF := (wX4 g a0 r0 q0_0 q0_4 s0 ++ wA g q0_4 n1 s1)) [0, 1] rfl rfl ?_)
      replace h := ob_e h
      obtain ⟨x2, hx2, h⟩ := h
      refine z_callS (pc := 18) (As := [.int x1]) (rest := []) (wr := (wX4 g a0 r0 q0_0 q0_4 s0 ++ wA g q0_4 n1 s1)) C dX4_skipLetters_18 ml_RX4_139 wt_X4_isLetter (m_X4_isLetter hg hx2) [] [0, 1] rfl rfl ⟨by decide, by decide⟩ (Nat.le_of_ble_eq_true rfl) ⟨by decide, by decide⟩ rfl rfl rfl rfl (by decide) (ex_k C (cs' := 0) (ss' := 0) (wF := (wX4 g a0 r0 q0_0 q0_4 s0 ++ wA g q0_4 n1 s1)) [0, 1] rfl rfl ?_)
      refine z_if_eq (pc := 21) C dX4_skipLetters_21 (tgt := 40) (by decide) (fun hc => ?_) (fun hc => ?_)
      · replace h := (ite_e h).1 hc
        exact z_vret C X dX4_skipLetters_40 (by rw [← Option.some.inj h]; exact ⟨rfl, rfl⟩) (by decide) (by decide)
      · replace h := (ite_e h).2 hc
        refine z_aload_n (pc := 24) (x := a0) C dX4_skipLetters_24 (i := 0) rfl rfl ?_
        refine z_dup (pc := 25) C dX4_skipLetters_25 rfl ?_
        refine z_get (pc := 26) (v := .int (s0.1 6)) C 0 dX4_skipLetters_26 fl_RX4_41 rfl rfl ?_
        refine z_iconst (pc := 29) C dX4_skipLetters_29 ic_1 ?_
        refine z_iadd (pc := 30) C dX4_skipLetters_30 ?_
        refine z_put (pc := 31) C 0 dX4_skipLetters_31 fp_RX4_41 rfl rfl rfl (zlt_b rfl) (ws' := (wX4 g a0 r0 q0_0 q0_4 (si s0 6 ((s0.1 6) + (1 : Int32))) ++ wA g q0_4 n1 s1)) rfl ?_
        refine z_iinc (pc := 34) C dX4_skipLetters_34 rfl (inc_e 1 (1 : Int32) ic_1 v1) (by decide) (lv' := [(1, .int (v1 + (1 : Int32))), (0, .ref a0)]) rfl ?_
        refine z_goto (pc := 37) C dX4_skipLetters_37 (tgt := 5) (by decide) ?_
        refine z_lv (lv' := [(0, .ref a0), (1, .int (v1 + (1 : Int32)))]) [1, 0] rfl ?_
        exact hk5 (v1 + (1 : Int32)) (si s0 6 ((s0.1 6) + (1 : Int32))) h
def f_X4_skipLetters (N : Nat) (n1 : Nat) (s0 : Ob) (s1 : (Nat → Int32)) : Option (Ob) := (f_X4_skipLetters_5 N n1 s1 N (s0.1 6) s0)
theorem m_X4_skipLetters {g : Gp} {a0 : Nat} {r0 : Nat → Nat} {q0_0 : Nat} {q0_4 : Nat} {N : Nat} {n1 : Nat} {s0 : Ob} {s1 : (Nat → Int32)} {res : Ob} (hg : Ok g) (h : f_X4_skipLetters N n1 s0 s1 = some res) : Ct g yX4_skipLetters cX4_skipLetters 2 none (zrm 1 21) [.ref a0] (wX4 g a0 r0 q0_0 q0_4 s0 ++ wA g q0_4 n1 s1) (exR none (wX4 g a0 r0 q0_0 q0_4 res ++ wA g q0_4 n1 s1)) := by
  refine ct_of rfl hg (by show _ ≤ _; exact Nat.le_of_ble_eq_true rfl) (fun K C X => ?_)
  show Zs K 0 0 (wX4 g a0 r0 q0_0 q0_4 s0 ++ wA g q0_4 n1 s1) [(0, .ref a0)] 0 []
  unfold f_X4_skipLetters at h
  refine z_aload_n (pc := 0) (x := a0) C dX4_skipLetters_0 (i := 0) rfl rfl ?_
  refine z_get (pc := 1) (v := .int (s0.1 6)) C 0 dX4_skipLetters_1 fl_RX4_41 rfl rfl ?_
  refine z_istore_n (pc := 4) C dX4_skipLetters_4 (i := 1) rfl (by decide) (lv' := [(1, .int (s0.1 6)), (0, .ref a0)]) rfl ?_
  refine z_lv (lv' := [(0, .ref a0), (1, .int (s0.1 6))]) [1, 0] rfl ?_
  exact m_X4_skipLetters_5 (a0 := a0) (r0 := r0) (q0_0 := q0_0) (q0_4 := q0_4) hg C X N (s0.1 6) s0 h
def f_X4_isDigit (N : Nat) (p0 : Int32) : Option (Int32) := (if p0 < (48 : Int32) then (some (0 : Int32)) else (if (57 : Int32) < p0 then (some (0 : Int32)) else (some (1 : Int32))))
theorem m_X4_isDigit {g : Gp}  {N : Nat} {p0 : Int32} {res : Int32} (hg : Ok g) (h : f_X4_isDigit N p0 = some res) : Ct g yX4_isDigit cX4_isDigit 1 (some .boolean) (zrm 0 0) [.int p0] ([] : va_W) (exR (some (.int res)) ([] : va_W)) := by
  refine ct_of rfl hg (by show _ ≤ _; exact Nat.le_of_ble_eq_true rfl) (fun K C X => ?_)
  show Zs K 0 0 ([] : va_W) [(0, .int p0)] 0 []
  unfold f_X4_isDigit at h
  refine z_iload_n (pc := 0) (x := p0) C dX4_isDigit_0 (i := 0) rfl rfl ?_
  refine z_bipush (pc := 1) C dX4_isDigit_1 bp_48 ?_
  refine z_icmp_lt (pc := 3) C dX4_isDigit_3 (tgt := 16) (by decide) (fun hc => ?_) (fun hc => ?_)
  · replace h := (ite_e h).1 hc
    refine z_iconst (pc := 16) C dX4_isDigit_16 ic_0 ?_
    exact z_zret C X dX4_isDigit_17 rfl (by rw [← Option.some.inj h]; exact ⟨rfl, rfl⟩) (by decide) (by decide)
  · replace h := (ite_e h).2 hc
    refine z_iload_n (pc := 6) (x := p0) C dX4_isDigit_6 (i := 0) rfl rfl ?_
    refine z_bipush (pc := 7) C dX4_isDigit_7 bp_57 ?_
    refine z_icmp_gt (pc := 9) C dX4_isDigit_9 (tgt := 16) (by decide) (fun hc => ?_) (fun hc => ?_)
    · replace h := (ite_e h).1 hc
      refine z_iconst (pc := 16) C dX4_isDigit_16 ic_0 ?_
      exact z_zret C X dX4_isDigit_17 rfl (by rw [← Option.some.inj h]; exact ⟨rfl, rfl⟩) (by decide) (by decide)
    · replace h := (ite_e h).2 hc
      refine z_iconst (pc := 12) C dX4_isDigit_12 ic_1 ?_
      refine z_goto (pc := 13) C dX4_isDigit_13 (tgt := 17) (by decide) ?_
      exact z_zret C X dX4_isDigit_17 rfl (by rw [← Option.some.inj h]; exact ⟨rfl, rfl⟩) (by decide) (by decide)
def F_X4_skipDigits_5 (N : Nat) (n1 : Nat) (s1 : (Nat → Int32))  (k5 : Int32 → Ob → Option (Ob)) (v1 : Int32) (s0 : Ob) : Option (Ob) := (if (s0.1 5) ≤ v1 then (some s0) else (ob (f_X4_signAt N n1 s0 s1 v1) fun x1 => (ob (f_X4_isDigit N x1) fun x2 => (if x2 = 0 then (some s0) else (k5 (v1 + (1 : Int32)) (si s0 6 ((s0.1 6) + (1 : Int32))))))))
def f_X4_skipDigits_5 (N : Nat) (n1 : Nat) (s1 : (Nat → Int32))  : Nat → Int32 → Ob → Option (Ob) := zlp (fun _ _ => none) (F_X4_skipDigits_5 N n1 s1)
theorem m_X4_skipDigits_5 {K : Kt} {g : Gp} {a0 : Nat} {r0 : Nat → Nat} {q0_0 : Nat} {q0_4 : Nat} {N : Nat} {n1 : Nat} {s1 : (Nat → Int32)} {res : Ob} (hg : Ok g) (C : Cx K g cX4_skipDigits RX4 2 (zrm 1 21)) (X : Rx K (exR none (wX4 g a0 r0 q0_0 q0_4 res ++ wA g q0_4 n1 s1)) 0 0 none) : ∀ (n : Nat) (v1 : Int32) (s0 : Ob), f_X4_skipDigits_5 N n1 s1 n v1 s0 = some res → Zs K 0 0 (wX4 g a0 r0 q0_0 q0_4 s0 ++ wA g q0_4 n1 s1) [(0, .ref a0), (1, .int v1)] 5 [] := by
  intro n
  induction n with
  | zero => intro v1 s0 h; exact nomatch (show (none : Option (Ob)) = some res from h)
  | succ n hk5 =>
    intro v1 s0 h
    replace h : F_X4_skipDigits_5 N n1 s1 (f_X4_skipDigits_5 N n1 s1 n) v1 s0 = some res := h
    unfold F_X4_skipDigits_5 at h
    refine z_iload_n (pc := 5) (x := v1) C dX4_skipDigits_5 (i := 1) rfl rfl ?_
    refine z_aload_n (pc := 6) (x := a0) C dX4_skipDigits_6 (i := 0) rfl rfl ?_
    refine z_get (pc := 7) (v := .int (s0.1 5)) C 0 dX4_skipDigits_7 fl_RX4_38 rfl rfl ?_
    refine z_icmp_ge (pc := 10) C dX4_skipDigits_10 (tgt := 40) (by decide) (fun hc => ?_) (fun hc => ?_)
    · replace h := (ite_e h).1 hc
      exact z_vret C X dX4_skipDigits_40 (by rw [← Option.some.inj h]; exact ⟨rfl, rfl⟩) (by decide) (by decide)
    · replace h := (ite_e h).2 hc
      refine z_aload_n (pc := 13) (x := a0) C dX4_skipDigits_13 (i := 0) rfl rfl ?_
      refine z_iload_n (pc := 14) (x := v1) C dX4_skipDigits_14 (i := 1) rfl rfl ?_
      replace h := ob_e h
      obtain ⟨x1, hx1, h⟩ := h
      refine z_callV (pc := 15) (As := [.int v1]) (rest := []) (wr := ([] : va_W)) C dX4_skipDigits_15 ml_RX4_120 wv_X4_signAt (m_X4_signAt (a0 := a0) (r0 := r0) (q0_0 := q0_0) (q0_4 := q0_4) hg hx1) [0, 1] [] rfl rfl ⟨by decide, by decide⟩ (Nat.le_of_ble_eq_true rfl) ⟨by decide, by decide⟩ rfl rfl rfl rfl rfl rfl rfl (by decide) (ex_k C (cs' := 0) (ss' := 0) (wF := (wX4 g a0 r0 q0_0 q0_4 s0 ++ wA g q0_4 n1 s1)) [0, 1] rfl rfl ?_)
      replace h := ob_e h
      obtain ⟨x2, hx2, h⟩ := h
      refine z_callS (pc := 18) (As := [.int x1]) (rest := []) (wr := (wX4 g a0 r0 q0_0 q0_4 s0 ++ wA g q0_4 n1 s1)) C dX4_skipDigits_18 ml_RX4_143 wt_X4_isDigit (m_X4_isDigit hg hx2) [] [0, 1] rfl rfl ⟨by decide, by decide⟩ (Nat.le_of_ble_eq_true rfl) ⟨by decide, by decide⟩ rfl rfl rfl rfl (by decide) (ex_k C (cs' := 0) (ss' := 0) (wF := (wX4 g a0 r0 q0_0 q0_4 s0 ++ wA g q0_4 n1 s1)) [0, 1] rfl rfl ?_)
      refine z_if_eq (pc := 21) C dX4_skipDigits_21 (tgt := 40) (by decide) (fun hc => ?_) (fun hc => ?_)
      · replace h := (ite_e h).1 hc
        exact z_vret C X dX4_skipDigits_40 (by rw [← Option.some.inj h]; exact ⟨rfl, rfl⟩) (by decide) (by decide)
      · replace h := (ite_e h).2 hc
        refine z_aload_n (pc := 24) (x := a0) C dX4_skipDigits_24 (i := 0) rfl rfl ?_
        refine z_dup (pc := 25) C dX4_skipDigits_25 rfl ?_
        refine z_get (pc := 26) (v := .int (s0.1 6)) C 0 dX4_skipDigits_26 fl_RX4_41 rfl rfl ?_
        refine z_iconst (pc := 29) C dX4_skipDigits_29 ic_1 ?_
        refine z_iadd (pc := 30) C dX4_skipDigits_30 ?_
        refine z_put (pc := 31) C 0 dX4_skipDigits_31 fp_RX4_41 rfl rfl rfl (zlt_b rfl) (ws' := (wX4 g a0 r0 q0_0 q0_4 (si s0 6 ((s0.1 6) + (1 : Int32))) ++ wA g q0_4 n1 s1)) rfl ?_
        refine z_iinc (pc := 34) C dX4_skipDigits_34 rfl (inc_e 1 (1 : Int32) ic_1 v1) (by decide) (lv' := [(1, .int (v1 + (1 : Int32))), (0, .ref a0)]) rfl ?_
        refine z_goto (pc := 37) C dX4_skipDigits_37 (tgt := 5) (by decide) ?_
        refine z_lv (lv' := [(0, .ref a0), (1, .int (v1 + (1 : Int32)))]) [1, 0] rfl ?_
        exact hk5 (v1 + (1 : Int32)) (si s0 6 ((s0.1 6) + (1 : Int32))) h
def f_X4_skipDigits (N : Nat) (n1 : Nat) (s0 : Ob) (s1 : (Nat → Int32)) : Option (Ob) := (f_X4_skipDigits_5 N n1 s1 N (s0.1 6) s0)
theorem m_X4_skipDigits {g : Gp} {a0 : Nat} {r0 : Nat → Nat} {q0_0 : Nat} {q0_4 : Nat} {N : Nat} {n1 : Nat} {s0 : Ob} {s1 : (Nat → Int32)} {res : Ob} (hg : Ok g) (h : f_X4_skipDigits N n1 s0 s1 = some res) : Ct g yX4_skipDigits cX4_skipDigits 2 none (zrm 1 21) [.ref a0] (wX4 g a0 r0 q0_0 q0_4 s0 ++ wA g q0_4 n1 s1) (exR none (wX4 g a0 r0 q0_0 q0_4 res ++ wA g q0_4 n1 s1)) := by
  refine ct_of rfl hg (by show _ ≤ _; exact Nat.le_of_ble_eq_true rfl) (fun K C X => ?_)
  show Zs K 0 0 (wX4 g a0 r0 q0_0 q0_4 s0 ++ wA g q0_4 n1 s1) [(0, .ref a0)] 0 []
  unfold f_X4_skipDigits at h
  refine z_aload_n (pc := 0) (x := a0) C dX4_skipDigits_0 (i := 0) rfl rfl ?_
  refine z_get (pc := 1) (v := .int (s0.1 6)) C 0 dX4_skipDigits_1 fl_RX4_41 rfl rfl ?_
  refine z_istore_n (pc := 4) C dX4_skipDigits_4 (i := 1) rfl (by decide) (lv' := [(1, .int (s0.1 6)), (0, .ref a0)]) rfl ?_
  refine z_lv (lv' := [(0, .ref a0), (1, .int (s0.1 6))]) [1, 0] rfl ?_
  exact m_X4_skipDigits_5 (a0 := a0) (r0 := r0) (q0_0 := q0_0) (q0_4 := q0_4) hg C X N (s0.1 6) s0 h
def f_X4_fail (N : Nat) (s0 : Ob) (p1 : Int32) (p2 : Int32) : Option (Ob) := (znm (si s0 1 p1) fun y1 => (znm (si y1 2 p2) fun y2 => (some (si y2 3 (y1.1 7)))))
theorem m_X4_fail {g : Gp} {a0 : Nat} {r0 : Nat → Nat} {q0_0 : Nat} {q0_4 : Nat} {N : Nat} {s0 : Ob} {p1 : Int32} {p2 : Int32} {res : Ob} (hg : Ok g) (h : f_X4_fail N s0 p1 p2 = some res) : Ct g yX4_fail cX4_fail 3 none (zrm 0 0) [.ref a0, .int p1, .int p2] (wX4 g a0 r0 q0_0 q0_4 s0) (exR none (wX4 g a0 r0 q0_0 q0_4 res)) := by
  refine ct_of rfl hg (by show _ ≤ _; exact Nat.le_of_ble_eq_true rfl) (fun K C X => ?_)
  show Zs K 0 0 (wX4 g a0 r0 q0_0 q0_4 s0) [(0, .ref a0), (1, .int p1), (2, .int p2)] 0 []
  unfold f_X4_fail at h
  refine z_aload_n (pc := 0) (x := a0) C dX4_fail_0 (i := 0) rfl rfl ?_
  refine z_iload_n (pc := 1) (x := p1) C dX4_fail_1 (i := 1) rfl rfl ?_
  refine z_put (pc := 2) C 0 dX4_fail_2 fp_RX4_26 rfl rfl rfl (zlt_b rfl) (ws' := (wX4 g a0 r0 q0_0 q0_4 (si s0 1 p1))) rfl ?_
  refine z_aload_n (pc := 5) (x := a0) C dX4_fail_5 (i := 0) rfl rfl ?_
  refine z_iload_n (pc := 6) (x := p2) C dX4_fail_6 (i := 2) rfl rfl ?_
  replace h := znm_e h
  obtain ⟨y1, hy1, h⟩ := h
  refine z_wsE (ws' := (wX4 g a0 r0 q0_0 q0_4 y1)) (by rw [hy1]) ?_
  refine z_put (pc := 7) C 0 dX4_fail_7 fp_RX4_29 rfl rfl rfl (zlt_b rfl) (ws' := (wX4 g a0 r0 q0_0 q0_4 (si y1 2 p2))) rfl ?_
  refine z_aload_n (pc := 10) (x := a0) C dX4_fail_10 (i := 0) rfl rfl ?_
  refine z_aload_n (pc := 11) (x := a0) C dX4_fail_11 (i := 0) rfl rfl ?_
  refine z_get (pc := 12) (v := .int (y1.1 7)) C 0 dX4_fail_12 fl_RX4_47 rfl rfl ?_
  replace h := znm_e h
  obtain ⟨y2, hy2, h⟩ := h
  refine z_wsE (ws' := (wX4 g a0 r0 q0_0 q0_4 y2)) (by rw [hy2]) ?_
  refine z_put (pc := 15) C 0 dX4_fail_15 fp_RX4_18 rfl rfl rfl (zlt_b rfl) (ws' := (wX4 g a0 r0 q0_0 q0_4 (si y2 3 (y1.1 7)))) rfl ?_
  exact z_vret C X dX4_fail_18 (by rw [← Option.some.inj h]; exact ⟨rfl, rfl⟩) (by decide) (by decide)
def f_X4_readNumber_93 (N : Nat) (n1 : Nat) (s1 : (Nat → Int32)) (p1 : Int32) (p2 : Int32)  (v3 : Int32) (s0 : Ob) : Option (Int32 × Ob) := (ob (f_X4_fail N s0 (2 : Int32) v3) fun x3 => (some (p1, x3)))
theorem m_X4_readNumber_93 {K : Kt} {g : Gp} {a0 : Nat} {r0 : Nat → Nat} {q0_0 : Nat} {q0_4 : Nat} {N : Nat} {n1 : Nat} {s1 : (Nat → Int32)} {p1 : Int32} {p2 : Int32} {res : Int32 × Ob} (hg : Ok g) (C : Cx K g cX4_readNumber RX4 6 (zrm 2 42)) (X : Rx K (exR (some (.int res.1)) (wX4 g a0 r0 q0_0 q0_4 res.2 ++ wA g q0_4 n1 s1)) 0 0 (some .int)) (v3 : Int32) (s0 : Ob) (h : f_X4_readNumber_93 N n1 s1 p1 p2 v3 s0 = some res) : Zs K 0 0 (wX4 g a0 r0 q0_0 q0_4 s0 ++ wA g q0_4 n1 s1) [(0, .ref a0), (1, .int p1), (3, .int v3)] 93 [] := by
  unfold f_X4_readNumber_93 at h
  refine z_aload_n (pc := 93) (x := a0) C dX4_readNumber_93 (i := 0) rfl rfl ?_
  refine z_iconst (pc := 94) C dX4_readNumber_94 ic_2 ?_
  refine z_iload_n (pc := 95) (x := v3) C dX4_readNumber_95 (i := 3) rfl rfl ?_
  replace h := ob_e h
  obtain ⟨x3, hx3, h⟩ := h
  refine z_callV (pc := 96) (As := [.int (2 : Int32), .int v3]) (rest := []) (wr := (wA g q0_4 n1 s1)) C dX4_readNumber_96 ml_RX4_62 wv_X4_fail (m_X4_fail (a0 := a0) (r0 := r0) (q0_0 := q0_0) (q0_4 := q0_4) hg hx3) [0] [1] rfl rfl ⟨by decide, by decide⟩ (Nat.le_of_ble_eq_true rfl) ⟨by decide, by decide⟩ rfl rfl rfl rfl rfl rfl rfl (by decide) (ex_k C (cs' := 0) (ss' := 0) (wF := (wX4 g a0 r0 q0_0 q0_4 x3 ++ wA g q0_4 n1 s1)) [1, 0] rfl rfl ?_)
  refine z_iload_n (pc := 99) (x := p1) C dX4_readNumber_99 (i := 1) rfl rfl ?_
  exact z_iret C X dX4_readNumber_100 (by rw [← Option.some.inj h]; exact ⟨rfl, rfl⟩) (by decide) (by decide)
def F_X4_readNumber_44 (N : Nat) (n1 : Nat) (s1 : (Nat → Int32)) (p1 : Int32) (p2 : Int32)  (k44 : Int32 → Int32 → Int32 → Ob → Option (Int32 × Ob)) (v3 : Int32) (v4 : Int32) (v5 : Int32) (s0 : Ob) : Option (Int32 × Ob) := (if (s0.1 6) ≤ v5 then (if v4 < p1 then (f_X4_readNumber_93 N n1 s1 p1 p2 v3 s0) else (if v4 ≤ p2 then (some (v4, s0)) else (f_X4_readNumber_93 N n1 s1 p1 p2 v3 s0))) else (ob (f_X4_signAt N n1 s0 s1 v5) fun x4 => (znm (if (10000000 : Int32) < ((((10 : Int32) * v4) + x4) - (48 : Int32)) then (10000000 : Int32) else ((((10 : Int32) * v4) + x4) - (48 : Int32))) fun x5 => (k44 v3 x5 (v5 + (1 : Int32)) s0))))
def f_X4_readNumber_44 (N : Nat) (n1 : Nat) (s1 : (Nat → Int32)) (p1 : Int32) (p2 : Int32)  : Nat → Int32 → Int32 → Int32 → Ob → Option (Int32 × Ob) := zlp (fun _ _ _ _ => none) (F_X4_readNumber_44 N n1 s1 p1 p2)
theorem m_X4_readNumber_44 {K : Kt} {g : Gp} {a0 : Nat} {r0 : Nat → Nat} {q0_0 : Nat} {q0_4 : Nat} {N : Nat} {n1 : Nat} {s1 : (Nat → Int32)} {p1 : Int32} {p2 : Int32} {res : Int32 × Ob} (hg : Ok g) (C : Cx K g cX4_readNumber RX4 6 (zrm 2 42)) (X : Rx K (exR (some (.int res.1)) (wX4 g a0 r0 q0_0 q0_4 res.2 ++ wA g q0_4 n1 s1)) 0 0 (some .int)) : ∀ (n : Nat) (v3 : Int32) (v4 : Int32) (v5 : Int32) (s0 : Ob), f_X4_readNumber_44 N n1 s1 p1 p2 n v3 v4 v5 s0 = some res → Zs K 0 0 (wX4 g a0 r0 q0_0 q0_4 s0 ++ wA g q0_4 n1 s1) [(0, .ref a0), (1, .int p1), (2, .int p2), (3, .int v3), (4, .int v4), (5, .int v5)] 44 [] := by
  intro n
  induction n with
  | zero => intro v3 v4 v5 s0 h; exact nomatch (show (none : Option (Int32 × Ob)) = some res from h)
  | succ n hk44 =>
    intro v3 v4 v5 s0 h
    replace h : F_X4_readNumber_44 N n1 s1 p1 p2 (f_X4_readNumber_44 N n1 s1 p1 p2 n) v3 v4 v5 s0 = some res := h
    unfold F_X4_readNumber_44 at h
    refine z_iload (pc := 44) (x := v5) C dX4_readNumber_44 rfl ?_
    refine z_aload_n (pc := 46) (x := a0) C dX4_readNumber_46 (i := 0) rfl rfl ?_
    refine z_get (pc := 47) (v := .int (s0.1 6)) C 0 dX4_readNumber_47 fl_RX4_41 rfl rfl ?_
    refine z_icmp_ge (pc := 50) C dX4_readNumber_50 (tgt := 81) (by decide) (fun hc => ?_) (fun hc => ?_)
    · replace h := (ite_e h).1 hc
      refine z_iload (pc := 81) (x := v4) C dX4_readNumber_81 rfl ?_
      refine z_iload_n (pc := 83) (x := p1) C dX4_readNumber_83 (i := 1) rfl rfl ?_
      refine z_icmp_lt (pc := 84) C dX4_readNumber_84 (tgt := 93) (by decide) (fun hc => ?_) (fun hc => ?_)
      · replace h := (ite_e h).1 hc
        refine z_lv (lv' := [(0, .ref a0), (1, .int p1), (3, .int v3)]) [0, 1, 3] rfl ?_
        exact m_X4_readNumber_93 (a0 := a0) (r0 := r0) (q0_0 := q0_0) (q0_4 := q0_4) hg C X v3 s0 h
      · replace h := (ite_e h).2 hc
        refine z_iload (pc := 87) (x := v4) C dX4_readNumber_87 rfl ?_
        refine z_iload_n (pc := 89) (x := p2) C dX4_readNumber_89 (i := 2) rfl rfl ?_
        refine z_icmp_le (pc := 90) C dX4_readNumber_90 (tgt := 101) (by decide) (fun hc => ?_) (fun hc => ?_)
        · replace h := (ite_e h).1 hc
          refine z_iload (pc := 101) (x := v4) C dX4_readNumber_101 rfl ?_
          exact z_iret C X dX4_readNumber_103 (by rw [← Option.some.inj h]; exact ⟨rfl, rfl⟩) (by decide) (by decide)
        · replace h := (ite_e h).2 hc
          refine z_lv (lv' := [(0, .ref a0), (1, .int p1), (3, .int v3)]) [0, 1, 3] rfl ?_
          exact m_X4_readNumber_93 (a0 := a0) (r0 := r0) (q0_0 := q0_0) (q0_4 := q0_4) hg C X v3 s0 h
    · replace h := (ite_e h).2 hc
      refine z_bipush (pc := 53) C dX4_readNumber_53 bp_10 ?_
      refine z_iload (pc := 55) (x := v4) C dX4_readNumber_55 rfl ?_
      refine z_imul (pc := 57) C dX4_readNumber_57 ?_
      refine z_aload_n (pc := 58) (x := a0) C dX4_readNumber_58 (i := 0) rfl rfl ?_
      refine z_iload (pc := 59) (x := v5) C dX4_readNumber_59 rfl ?_
      replace h := ob_e h
      obtain ⟨x4, hx4, h⟩ := h
      refine z_callV (pc := 61) (As := [.int v5]) (rest := [.int ((10 : Int32) * v4)]) (wr := ([] : va_W)) C dX4_readNumber_61 ml_RX4_120 wv_X4_signAt (m_X4_signAt (a0 := a0) (r0 := r0) (q0_0 := q0_0) (q0_4 := q0_4) hg hx4) [0, 1] [] rfl rfl ⟨by decide, by decide⟩ (Nat.le_of_ble_eq_true rfl) ⟨by decide, by decide⟩ rfl rfl rfl rfl rfl rfl rfl (by decide) (ex_k C (cs' := 0) (ss' := 0) (wF := (wX4 g a0 r0 q0_0 q0_4 s0 ++ wA g q0_4 n1 s1)) [0, 1] rfl rfl ?_)
      refine z_iadd (pc := 64) C dX4_readNumber_64 ?_
      refine z_bipush (pc := 65) C dX4_readNumber_65 bp_48 ?_
      refine z_isub (pc := 67) C dX4_readNumber_67 ?_
      refine z_ldc (pc := 68) C dX4_readNumber_68 ki_RX4_152 ?_
      refine z_mmin (pc := 70) C dX4_readNumber_70 ml_RX4_32 wm_min (by decide) (Nat.le_of_ble_eq_true rfl) (by decide) (by decide) ?_
      replace h := znm_e h
      obtain ⟨x5, hx5, h⟩ := h
      refine z_top1 hx5 ?_
      refine z_istore (pc := 73) C dX4_readNumber_73 (by decide) (lv' := [(4, .int x5), (0, .ref a0), (1, .int p1), (2, .int p2), (3, .int v3), (5, .int v5)]) rfl ?_
      refine z_iinc (pc := 75) C dX4_readNumber_75 rfl (inc_e 1 (1 : Int32) ic_1 v5) (by decide) (lv' := [(5, .int (v5 + (1 : Int32))), (4, .int x5), (0, .ref a0), (1, .int p1), (2, .int p2), (3, .int v3)]) rfl ?_
      refine z_goto (pc := 78) C dX4_readNumber_78 (tgt := 44) (by decide) ?_
      refine z_lv (lv' := [(0, .ref a0), (1, .int p1), (2, .int p2), (3, .int v3), (4, .int x5), (5, .int (v5 + (1 : Int32)))]) [2, 3, 4, 5, 1, 0] rfl ?_
      exact hk44 v3 x5 (v5 + (1 : Int32)) s0 h
def f_X4_readNumber (N : Nat) (n1 : Nat) (s0 : Ob) (s1 : (Nat → Int32)) (p1 : Int32) (p2 : Int32) : Option (Int32 × Ob) := (if (s0.1 1) = 0 then (ob (f_X4_skipSpaces N n1 s0 s1) fun x1 => (ob (f_X4_skipDigits N n1 x1 s1) fun x2 => (if (x2.1 6) = (x1.1 6) then (ob (f_X4_fail N x2 (1 : Int32) (x1.1 6)) fun x6 => (some (p1, x6))) else (f_X4_readNumber_44 N n1 s1 p1 p2 N (x1.1 6) (0 : Int32) (x1.1 6) x2)))) else (some (p1, s0)))
theorem m_X4_readNumber {g : Gp} {a0 : Nat} {r0 : Nat → Nat} {q0_0 : Nat} {q0_4 : Nat} {N : Nat} {n1 : Nat} {s0 : Ob} {s1 : (Nat → Int32)} {p1 : Int32} {p2 : Int32} {res : Int32 × Ob} (hg : Ok g) (h : f_X4_readNumber N n1 s0 s1 p1 p2 = some res) : Ct g yX4_readNumber cX4_readNumber 6 (some .int) (zrm 2 42) [.ref a0, .int p1, .int p2] (wX4 g a0 r0 q0_0 q0_4 s0 ++ wA g q0_4 n1 s1) (exR (some (.int res.1)) (wX4 g a0 r0 q0_0 q0_4 res.2 ++ wA g q0_4 n1 s1)) := by
  refine ct_of rfl hg (by show _ ≤ _; exact Nat.le_of_ble_eq_true rfl) (fun K C X => ?_)
  show Zs K 0 0 (wX4 g a0 r0 q0_0 q0_4 s0 ++ wA g q0_4 n1 s1) [(0, .ref a0), (1, .int p1), (2, .int p2)] 0 []
  unfold f_X4_readNumber at h
  refine z_aload_n (pc := 0) (x := a0) C dX4_readNumber_0 (i := 0) rfl rfl ?_
  refine z_get (pc := 1) (v := .int (s0.1 1)) C 0 dX4_readNumber_1 fl_RX4_26 rfl rfl ?_
  refine z_if_eq (pc := 4) C dX4_readNumber_4 (tgt := 9) (by decide) (fun hc => ?_) (fun hc => ?_)
  · replace h := (ite_e h).1 hc
    refine z_aload_n (pc := 9) (x := a0) C dX4_readNumber_9 (i := 0) rfl rfl ?_
    replace h := ob_e h
    obtain ⟨x1, hx1, h⟩ := h
    refine z_callV (pc := 10) (As := []) (rest := []) (wr := ([] : va_W)) C dX4_readNumber_10 ml_RX4_70 wv_X4_skipSpaces (m_X4_skipSpaces (a0 := a0) (r0 := r0) (q0_0 := q0_0) (q0_4 := q0_4) hg hx1) [0, 1] [] rfl rfl ⟨by decide, by decide⟩ (Nat.le_of_ble_eq_true rfl) ⟨by decide, by decide⟩ rfl rfl rfl rfl rfl rfl rfl (by decide) (ex_k C (cs' := 0) (ss' := 0) (wF := (wX4 g a0 r0 q0_0 q0_4 x1 ++ wA g q0_4 n1 s1)) [0, 1] rfl rfl ?_)
    refine z_aload_n (pc := 13) (x := a0) C dX4_readNumber_13 (i := 0) rfl rfl ?_
    refine z_get (pc := 14) (v := .int (x1.1 6)) C 0 dX4_readNumber_14 fl_RX4_41 rfl rfl ?_
    refine z_istore_n (pc := 17) C dX4_readNumber_17 (i := 3) rfl (by decide) (lv' := [(3, .int (x1.1 6)), (0, .ref a0), (1, .int p1), (2, .int p2)]) rfl ?_
    refine z_aload_n (pc := 18) (x := a0) C dX4_readNumber_18 (i := 0) rfl rfl ?_
    replace h := ob_e h
    obtain ⟨x2, hx2, h⟩ := h
    refine z_callV (pc := 19) (As := []) (rest := []) (wr := ([] : va_W)) C dX4_readNumber_19 ml_RX4_146 wv_X4_skipDigits (m_X4_skipDigits (a0 := a0) (r0 := r0) (q0_0 := q0_0) (q0_4 := q0_4) hg hx2) [0, 1] [] rfl rfl ⟨by decide, by decide⟩ (Nat.le_of_ble_eq_true rfl) ⟨by decide, by decide⟩ rfl rfl rfl rfl rfl rfl rfl (by decide) (ex_k C (cs' := 0) (ss' := 0) (wF := (wX4 g a0 r0 q0_0 q0_4 x2 ++ wA g q0_4 n1 s1)) [0, 1] rfl rfl ?_)
    refine z_aload_n (pc := 22) (x := a0) C dX4_readNumber_22 (i := 0) rfl rfl ?_
    refine z_get (pc := 23) (v := .int (x2.1 6)) C 0 dX4_readNumber_23 fl_RX4_41 rfl rfl ?_
    refine z_iload_n (pc := 26) (x := (x1.1 6)) C dX4_readNumber_26 (i := 3) rfl rfl ?_
    refine z_icmp_ne (pc := 27) C dX4_readNumber_27 (tgt := 38) (by decide) (fun hc => ?_) (fun hc => ?_)
    · replace h := (ite_e h).2 hc
      refine z_iconst (pc := 38) C dX4_readNumber_38 ic_0 ?_
      refine z_istore (pc := 39) C dX4_readNumber_39 (by decide) (lv' := [(4, .int (0 : Int32)), (3, .int (x1.1 6)), (0, .ref a0), (1, .int p1), (2, .int p2)]) rfl ?_
      refine z_iload_n (pc := 41) (x := (x1.1 6)) C dX4_readNumber_41 (i := 3) rfl rfl ?_
      refine z_istore (pc := 42) C dX4_readNumber_42 (by decide) (lv' := [(5, .int (x1.1 6)), (4, .int (0 : Int32)), (3, .int (x1.1 6)), (0, .ref a0), (1, .int p1), (2, .int p2)]) rfl ?_
      refine z_lv (lv' := [(0, .ref a0), (1, .int p1), (2, .int p2), (3, .int (x1.1 6)), (4, .int (0 : Int32)), (5, .int (x1.1 6))]) [3, 4, 5, 2, 1, 0] rfl ?_
      exact m_X4_readNumber_44 (a0 := a0) (r0 := r0) (q0_0 := q0_0) (q0_4 := q0_4) hg C X N (x1.1 6) (0 : Int32) (x1.1 6) x2 h
    · replace h := (ite_e h).1 hc
      refine z_aload_n (pc := 30) (x := a0) C dX4_readNumber_30 (i := 0) rfl rfl ?_
      refine z_iconst (pc := 31) C dX4_readNumber_31 ic_1 ?_
      refine z_iload_n (pc := 32) (x := (x1.1 6)) C dX4_readNumber_32 (i := 3) rfl rfl ?_
      replace h := ob_e h
      obtain ⟨x6, hx6, h⟩ := h
      refine z_callV (pc := 33) (As := [.int (1 : Int32), .int (x1.1 6)]) (rest := []) (wr := (wA g q0_4 n1 s1)) C dX4_readNumber_33 ml_RX4_62 wv_X4_fail (m_X4_fail (a0 := a0) (r0 := r0) (q0_0 := q0_0) (q0_4 := q0_4) hg hx6) [0] [1] rfl rfl ⟨by decide, by decide⟩ (Nat.le_of_ble_eq_true rfl) ⟨by decide, by decide⟩ rfl rfl rfl rfl rfl rfl rfl (by decide) (ex_k C (cs' := 0) (ss' := 0) (wF := (wX4 g a0 r0 q0_0 q0_4 x6 ++ wA g q0_4 n1 s1)) [1, 0] rfl rfl ?_)
      refine z_iload_n (pc := 36) (x := p1) C dX4_readNumber_36 (i := 1) rfl rfl ?_
      exact z_iret C X dX4_readNumber_37 (by rw [← Option.some.inj h]; exact ⟨rfl, rfl⟩) (by decide) (by decide)
  · replace h := (ite_e h).2 hc
    refine z_iload_n (pc := 7) (x := p1) C dX4_readNumber_7 (i := 1) rfl rfl ?_
    exact z_iret C X dX4_readNumber_8 (by rw [← Option.some.inj h]; exact ⟨rfl, rfl⟩) (by decide) (by decide)
def f_X4_readGame (N : Nat) (n1 : Nat) (s0 : Ob) (s1 : (Nat → Int32)) (s2 : Ob) : Option (Ob × Ob) := (ob (f_X4_readNumber N n1 s0 s1 (1 : Int32) (4 : Int32)) fun x1 => (ob (f_X4_readNumber N n1 x1.2 s1 (1 : Int32) (5 : Int32)) fun x2 => (znm (si s2 0 x1.1) fun y3 => (ob (f_X4_readNumber N n1 x2.2 s1 (2 : Int32) (4 : Int32)) fun x4 => (znm (si y3 1 x2.1) fun y5 => (ob (f_X4_readNumber N n1 x4.2 s1 (1 : Int32) (5 : Int32)) fun x6 => (znm (si y5 2 x4.1) fun y7 => (some (x6.2, (si y7 3 x6.1))))))))))
theorem m_X4_readGame {g : Gp} {a0 : Nat} {r0 : Nat → Nat} {q0_0 : Nat} {q0_4 : Nat} {r2 : Nat → Nat} {N : Nat} {n1 : Nat} {s0 : Ob} {s1 : (Nat → Int32)} {s2 : Ob} {res : Ob × Ob} (hg : Ok g) (h : f_X4_readGame N n1 s0 s1 s2 = some res) : Ct g yX4_readGame cX4_readGame 1 none (zrm 3 67) [.ref a0] (wX4 g a0 r0 q0_0 q0_4 s0 ++ wA g q0_4 n1 s1 ++ wX5 g q0_0 r2 s2) (exR none (wX4 g a0 r0 q0_0 q0_4 res.1 ++ wA g q0_4 n1 s1 ++ wX5 g q0_0 r2 res.2)) := by
  refine ct_of rfl hg (by show _ ≤ _; exact Nat.le_of_ble_eq_true rfl) (fun K C X => ?_)
  show Zs K 0 0 (wX4 g a0 r0 q0_0 q0_4 s0 ++ wA g q0_4 n1 s1 ++ wX5 g q0_0 r2 s2) [(0, .ref a0)] 0 []
  unfold f_X4_readGame at h
  refine z_aload_n (pc := 0) (x := a0) C dX4_readGame_0 (i := 0) rfl rfl ?_
  refine z_get (pc := 1) (v := .ref q0_0) C 0 dX4_readGame_1 fl_RX4_12 rfl rfl ?_
  refine z_aload_n (pc := 4) (x := a0) C dX4_readGame_4 (i := 0) rfl rfl ?_
  refine z_iconst (pc := 5) C dX4_readGame_5 ic_1 ?_
  refine z_iconst (pc := 6) C dX4_readGame_6 ic_4 ?_
  replace h := ob_e h
  obtain ⟨x1, hx1, h⟩ := h
  refine z_callV (pc := 7) (As := [.int (1 : Int32), .int (4 : Int32)]) (rest := [.ref q0_0]) (wr := (wX5 g q0_0 r2 s2)) C dX4_readGame_7 ml_RX4_97 wv_X4_readNumber (m_X4_readNumber (a0 := a0) (r0 := r0) (q0_0 := q0_0) (q0_4 := q0_4) hg hx1) [0, 1] [2, 3, 4, 5] rfl rfl ⟨by decide, by decide⟩ (Nat.le_of_ble_eq_true rfl) ⟨by decide, by decide⟩ rfl rfl rfl rfl rfl rfl rfl (by decide) (ex_k C (cs' := 0) (ss' := 0) (wF := (wX4 g a0 r0 q0_0 q0_4 x1.2 ++ wA g q0_4 n1 s1 ++ wX5 g q0_0 r2 s2)) [4, 5, 0, 1, 2, 3] rfl rfl ?_)
  refine z_put (pc := 10) C 2 dX4_readGame_10 fp_RX4_105 rfl rfl rfl (zlt_b rfl) (ws' := (wX4 g a0 r0 q0_0 q0_4 x1.2 ++ wA g q0_4 n1 s1 ++ wX5 g q0_0 r2 (si s2 0 x1.1))) rfl ?_
  refine z_aload_n (pc := 13) (x := a0) C dX4_readGame_13 (i := 0) rfl rfl ?_
  refine z_get (pc := 14) (v := .ref q0_0) C 0 dX4_readGame_14 fl_RX4_12 rfl rfl ?_
  refine z_aload_n (pc := 17) (x := a0) C dX4_readGame_17 (i := 0) rfl rfl ?_
  refine z_iconst (pc := 18) C dX4_readGame_18 ic_1 ?_
  refine z_iconst (pc := 19) C dX4_readGame_19 ic_5 ?_
  replace h := ob_e h
  obtain ⟨x2, hx2, h⟩ := h
  refine z_callV (pc := 20) (As := [.int (1 : Int32), .int (5 : Int32)]) (rest := [.ref q0_0]) (wr := (wX5 g q0_0 r2 (si s2 0 x1.1))) C dX4_readGame_20 ml_RX4_97 wv_X4_readNumber (m_X4_readNumber (a0 := a0) (r0 := r0) (q0_0 := q0_0) (q0_4 := q0_4) hg hx2) [0, 1] [2, 3, 4, 5] rfl rfl ⟨by decide, by decide⟩ (Nat.le_of_ble_eq_true rfl) ⟨by decide, by decide⟩ rfl rfl rfl rfl rfl rfl rfl (by decide) (ex_k C (cs' := 0) (ss' := 0) (wF := (wX4 g a0 r0 q0_0 q0_4 x2.2 ++ wA g q0_4 n1 s1 ++ wX5 g q0_0 r2 (si s2 0 x1.1))) [4, 5, 0, 1, 2, 3] rfl rfl ?_)
  replace h := znm_e h
  obtain ⟨y3, hy3, h⟩ := h
  refine z_wsE (ws' := (wX4 g a0 r0 q0_0 q0_4 x2.2 ++ wA g q0_4 n1 s1 ++ wX5 g q0_0 r2 y3)) (by rw [hy3]) ?_
  refine z_put (pc := 23) C 2 dX4_readGame_23 fp_RX4_114 rfl rfl rfl (zlt_b rfl) (ws' := (wX4 g a0 r0 q0_0 q0_4 x2.2 ++ wA g q0_4 n1 s1 ++ wX5 g q0_0 r2 (si y3 1 x2.1))) rfl ?_
  refine z_aload_n (pc := 26) (x := a0) C dX4_readGame_26 (i := 0) rfl rfl ?_
  refine z_get (pc := 27) (v := .ref q0_0) C 0 dX4_readGame_27 fl_RX4_12 rfl rfl ?_
  refine z_aload_n (pc := 30) (x := a0) C dX4_readGame_30 (i := 0) rfl rfl ?_
  refine z_iconst (pc := 31) C dX4_readGame_31 ic_2 ?_
  refine z_iconst (pc := 32) C dX4_readGame_32 ic_4 ?_
  replace h := ob_e h
  obtain ⟨x4, hx4, h⟩ := h
  refine z_callV (pc := 33) (As := [.int (2 : Int32), .int (4 : Int32)]) (rest := [.ref q0_0]) (wr := (wX5 g q0_0 r2 (si y3 1 x2.1))) C dX4_readGame_33 ml_RX4_97 wv_X4_readNumber (m_X4_readNumber (a0 := a0) (r0 := r0) (q0_0 := q0_0) (q0_4 := q0_4) hg hx4) [0, 1] [2, 3, 4, 5] rfl rfl ⟨by decide, by decide⟩ (Nat.le_of_ble_eq_true rfl) ⟨by decide, by decide⟩ rfl rfl rfl rfl rfl rfl rfl (by decide) (ex_k C (cs' := 0) (ss' := 0) (wF := (wX4 g a0 r0 q0_0 q0_4 x4.2 ++ wA g q0_4 n1 s1 ++ wX5 g q0_0 r2 (si y3 1 x2.1))) [4, 5, 0, 1, 2, 3] rfl rfl ?_)
  replace h := znm_e h
  obtain ⟨y5, hy5, h⟩ := h
  refine z_wsE (ws' := (wX4 g a0 r0 q0_0 q0_4 x4.2 ++ wA g q0_4 n1 s1 ++ wX5 g q0_0 r2 y5)) (by rw [hy5]) ?_
  refine z_put (pc := 36) C 2 dX4_readGame_36 fp_RX4_56 rfl rfl rfl (zlt_b rfl) (ws' := (wX4 g a0 r0 q0_0 q0_4 x4.2 ++ wA g q0_4 n1 s1 ++ wX5 g q0_0 r2 (si y5 2 x4.1))) rfl ?_
  refine z_aload_n (pc := 39) (x := a0) C dX4_readGame_39 (i := 0) rfl rfl ?_
  refine z_get (pc := 40) (v := .ref q0_0) C 0 dX4_readGame_40 fl_RX4_12 rfl rfl ?_
  refine z_aload_n (pc := 43) (x := a0) C dX4_readGame_43 (i := 0) rfl rfl ?_
  refine z_iconst (pc := 44) C dX4_readGame_44 ic_1 ?_
  refine z_iconst (pc := 45) C dX4_readGame_45 ic_5 ?_
  replace h := ob_e h
  obtain ⟨x6, hx6, h⟩ := h
  refine z_callV (pc := 46) (As := [.int (1 : Int32), .int (5 : Int32)]) (rest := [.ref q0_0]) (wr := (wX5 g q0_0 r2 (si y5 2 x4.1))) C dX4_readGame_46 ml_RX4_97 wv_X4_readNumber (m_X4_readNumber (a0 := a0) (r0 := r0) (q0_0 := q0_0) (q0_4 := q0_4) hg hx6) [0, 1] [2, 3, 4, 5] rfl rfl ⟨by decide, by decide⟩ (Nat.le_of_ble_eq_true rfl) ⟨by decide, by decide⟩ rfl rfl rfl rfl rfl rfl rfl (by decide) (ex_k C (cs' := 0) (ss' := 0) (wF := (wX4 g a0 r0 q0_0 q0_4 x6.2 ++ wA g q0_4 n1 s1 ++ wX5 g q0_0 r2 (si y5 2 x4.1))) [4, 5, 0, 1, 2, 3] rfl rfl ?_)
  replace h := znm_e h
  obtain ⟨y7, hy7, h⟩ := h
  refine z_wsE (ws' := (wX4 g a0 r0 q0_0 q0_4 x6.2 ++ wA g q0_4 n1 s1 ++ wX5 g q0_0 r2 y7)) (by rw [hy7]) ?_
  refine z_put (pc := 49) C 2 dX4_readGame_49 fp_RX4_59 rfl rfl rfl (zlt_b rfl) (ws' := (wX4 g a0 r0 q0_0 q0_4 x6.2 ++ wA g q0_4 n1 s1 ++ wX5 g q0_0 r2 (si y7 3 x6.1))) rfl ?_
  exact z_vret C X dX4_readGame_52 (by rw [← Option.some.inj h]; exact ⟨rfl, rfl⟩) (by decide) (by decide)
def f_X5_addCard (N : Nat) (s0 : Ob) (p1 : Int32) : Option (Ob) := (if (40 : Int32) ≤ (s0.1 7) then (some s0) else (if p1 < 0 then (some s0) else (if (20 : Int32) ≤ p1 then (some s0) else (chk (inb (s0.1 7) 40) (chk (inb p1 20) (znm (sa s0 8 (upd (s0.2.2.1 8) ((s0.1 7)).toNatClampNeg p1)) fun y3 => (chk (inb p1 20) (znm (sa y3 9 (upd (y3.2.2.1 9) (p1).toNatClampNeg (((s0.2.2.1 9) (p1).toNatClampNeg) + (1 : Int32)))) fun y5 => (some (si y5 7 ((y3.1 7) + (1 : Int32))))))))))))
theorem m_X5_addCard {g : Gp} {a0 : Nat} {r0 : Nat → Nat} {N : Nat} {s0 : Ob} {p1 : Int32} {res : Ob} (hg : Ok g) (h : f_X5_addCard N s0 p1 = some res) : Ct g yX5_addCard cX5_addCard 2 none (zrm 0 0) [.ref a0, .int p1] (wX5 g a0 r0 s0) (exR none (wX5 g a0 r0 res)) := by
  refine ct_of rfl hg (by show _ ≤ _; exact Nat.le_of_ble_eq_true rfl) (fun K C X => ?_)
  show Zs K 0 0 (wX5 g a0 r0 s0) [(0, .ref a0), (1, .int p1)] 0 []
  unfold f_X5_addCard at h
  refine z_aload_n (pc := 0) (x := a0) C dX5_addCard_0 (i := 0) rfl rfl ?_
  refine z_get (pc := 1) (v := .int (s0.1 7)) C 0 dX5_addCard_1 fl_RX5_37 rfl rfl ?_
  refine z_bipush (pc := 4) C dX5_addCard_4 bp_40 ?_
  refine z_icmp_ge (pc := 6) C dX5_addCard_6 (tgt := 49) (by decide) (fun hc => ?_) (fun hc => ?_)
  · replace h := (ite_e h).1 hc
    exact z_vret C X dX5_addCard_49 (by rw [← Option.some.inj h]; exact ⟨rfl, rfl⟩) (by decide) (by decide)
  · replace h := (ite_e h).2 hc
    refine z_iload_n (pc := 9) (x := p1) C dX5_addCard_9 (i := 1) rfl rfl ?_
    refine z_if_lt (pc := 10) C dX5_addCard_10 (tgt := 49) (by decide) (fun hc => ?_) (fun hc => ?_)
    · replace h := (ite_e h).1 hc
      exact z_vret C X dX5_addCard_49 (by rw [← Option.some.inj h]; exact ⟨rfl, rfl⟩) (by decide) (by decide)
    · replace h := (ite_e h).2 hc
      refine z_iload_n (pc := 13) (x := p1) C dX5_addCard_13 (i := 1) rfl rfl ?_
      refine z_bipush (pc := 14) C dX5_addCard_14 bp_20 ?_
      refine z_icmp_ge (pc := 16) C dX5_addCard_16 (tgt := 49) (by decide) (fun hc => ?_) (fun hc => ?_)
      · replace h := (ite_e h).1 hc
        exact z_vret C X dX5_addCard_49 (by rw [← Option.some.inj h]; exact ⟨rfl, rfl⟩) (by decide) (by decide)
      · replace h := (ite_e h).2 hc
        refine z_aload_n (pc := 19) (x := a0) C dX5_addCard_19 (i := 0) rfl rfl ?_
        refine z_get (pc := 20) (v := .ref (r0 8)) C 0 dX5_addCard_20 fl_RX5_21 rfl rfl ?_
        refine z_aload_n (pc := 23) (x := a0) C dX5_addCard_23 (i := 0) rfl rfl ?_
        refine z_get (pc := 24) (v := .int (s0.1 7)) C 0 dX5_addCard_24 fl_RX5_37 rfl rfl ?_
        refine z_iload_n (pc := 27) (x := p1) C dX5_addCard_27 (i := 1) rfl rfl ?_
        replace h := chk_e h
        obtain ⟨hb1, h⟩ := h
        refine z_iast (pc := 28) C 1 dX5_addCard_28 rfl hb1 (ws' := (wX5 g a0 r0 (sa s0 8 (upd (s0.2.2.1 8) ((s0.1 7)).toNatClampNeg p1)))) rfl ?_
        refine z_aload_n (pc := 29) (x := a0) C dX5_addCard_29 (i := 0) rfl rfl ?_
        refine z_get (pc := 30) (v := .ref (r0 9)) C 0 dX5_addCard_30 fl_RX5_25 rfl rfl ?_
        refine z_iload_n (pc := 33) (x := p1) C dX5_addCard_33 (i := 1) rfl rfl ?_
        refine z_dup2 (pc := 34) C dX5_addCard_34 rfl rfl ?_
        replace h := chk_e h
        obtain ⟨hb2, h⟩ := h
        refine z_iald (pc := 35) C 2 dX5_addCard_35 rfl hb2 ?_
        refine z_iconst (pc := 36) C dX5_addCard_36 ic_1 ?_
        refine z_iadd (pc := 37) C dX5_addCard_37 ?_
        replace h := znm_e h
        obtain ⟨y3, hy3, h⟩ := h
        refine z_wsE (ws' := (wX5 g a0 r0 y3)) (by rw [hy3]) ?_
        replace h := chk_e h
        obtain ⟨hb4, h⟩ := h
        refine z_iast (pc := 38) C 2 dX5_addCard_38 rfl hb4 (ws' := (wX5 g a0 r0 (sa y3 9 (upd (y3.2.2.1 9) (p1).toNatClampNeg (((s0.2.2.1 9) (p1).toNatClampNeg) + (1 : Int32)))))) rfl ?_
        refine z_aload_n (pc := 39) (x := a0) C dX5_addCard_39 (i := 0) rfl rfl ?_
        refine z_dup (pc := 40) C dX5_addCard_40 rfl ?_
        refine z_get (pc := 41) (v := .int (y3.1 7)) C 0 dX5_addCard_41 fl_RX5_37 rfl rfl ?_
        refine z_iconst (pc := 44) C dX5_addCard_44 ic_1 ?_
        refine z_iadd (pc := 45) C dX5_addCard_45 ?_
        replace h := znm_e h
        obtain ⟨y5, hy5, h⟩ := h
        refine z_wsE (ws' := (wX5 g a0 r0 y5)) (by rw [hy5]) ?_
        refine z_put (pc := 46) C 0 dX5_addCard_46 fp_RX5_37 rfl rfl rfl (zlt_b rfl) (ws' := (wX5 g a0 r0 (si y5 7 ((y3.1 7) + (1 : Int32))))) rfl ?_
        exact z_vret C X dX5_addCard_49 (by rw [← Option.some.inj h]; exact ⟨rfl, rfl⟩) (by decide) (by decide)
