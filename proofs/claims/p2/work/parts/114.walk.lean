/-! OWN, written by wip/whole/tools/mkall.py: what each method does to its cells, and the walk that shows it -/
def F_X8_placeWith_10 (N : Nat) (s0 : Ob) (p1 : Int32)  (k10 : Int32 → Int32 → Option (Int32)) (v2 : Int32) (v3 : Int32) : Option (Int32) := (chk (inb ((187 : Int32) + v2) 358) (if ((s0.2.2.1 0) (((187 : Int32) + v2)).toNatClampNeg) ≤ v3 then (some (-1 : Int32)) else (if p1 = (-1 : Int32) then (ob (f_X8_held N s0 v2 v3) fun x3 => (chk (inb ((147 : Int32) + x3) 358) (if ((s0.2.2.1 0) (((147 : Int32) + x3)).toNatClampNeg) = 0 then (some v3) else (k10 v2 (v3 + (1 : Int32)))))) else (ob (f_X8_known N s0 v2 v3) fun x2 => (if x2 = p1 then (some v3) else (k10 v2 (v3 + (1 : Int32))))))))
def f_X8_placeWith_10 (N : Nat) (s0 : Ob) (p1 : Int32)  : Nat → Int32 → Int32 → Option (Int32) := zlp (fun _ _ => none) (F_X8_placeWith_10 N s0 p1)
theorem m_X8_placeWith_10 {K : Kt} {g : Gp} {a0 : Nat} {r0 : Nat → Nat} {N : Nat} {s0 : Ob} {p1 : Int32} {res : Int32} (hg : Ok g) (C : Cx K g cX8_placeWith RX8 4 (zrm 5 122)) (X : Rx K (exR (some (.int res)) (wX8 g a0 r0 s0)) 0 0 (some .int)) : ∀ (n : Nat) (v2 : Int32) (v3 : Int32), f_X8_placeWith_10 N s0 p1 n v2 v3 = some res → Zs K 0 0 (wX8 g a0 r0 s0) [(0, .ref a0), (1, .int p1), (2, .int v2), (3, .int v3)] 10 [] := by
  intro n
  induction n with
  | zero => intro v2 v3 h; exact nomatch (show (none : Option (Int32)) = some res from h)
  | succ n hk10 =>
    intro v2 v3 h
    replace h : F_X8_placeWith_10 N s0 p1 (f_X8_placeWith_10 N s0 p1 n) v2 v3 = some res := h
    unfold F_X8_placeWith_10 at h
    refine z_iload_n (pc := 10) (x := v3) C dX8_placeWith_10 (i := 3) rfl rfl ?_
    refine z_aload_n (pc := 11) (x := a0) C dX8_placeWith_11 (i := 0) rfl rfl ?_
    refine z_get (pc := 12) (v := .ref (r0 0)) C 0 dX8_placeWith_12 fl_RX8_9 rfl rfl ?_
    refine z_sipush (pc := 15) C dX8_placeWith_15 sp_187 ?_
    refine z_iload_n (pc := 18) (x := v2) C dX8_placeWith_18 (i := 2) rfl rfl ?_
    refine z_iadd (pc := 19) C dX8_placeWith_19 ?_
    replace h := chk_e h
    obtain ⟨hb1, h⟩ := h
    refine z_iald (pc := 20) C 1 dX8_placeWith_20 rfl hb1 ?_
    refine z_icmp_ge (pc := 21) C dX8_placeWith_21 (tgt := 68) (by decide) (fun hc => ?_) (fun hc => ?_)
    · replace h := (ite_e h).1 hc
      refine z_iconst (pc := 68) C dX8_placeWith_68 ic_m1 ?_
      exact z_iret C X dX8_placeWith_69 (by rw [← Option.some.inj h]; exact ⟨rfl, rfl⟩) (by decide) (by decide)
    · replace h := (ite_e h).2 hc
      refine z_iload_n (pc := 24) (x := p1) C dX8_placeWith_24 (i := 1) rfl rfl ?_
      refine z_iconst (pc := 25) C dX8_placeWith_25 ic_m1 ?_
      refine z_icmp_ne (pc := 26) C dX8_placeWith_26 (tgt := 50) (by decide) (fun hc => ?_) (fun hc => ?_)
      · replace h := (ite_e h).2 hc
        refine z_aload_n (pc := 50) (x := a0) C dX8_placeWith_50 (i := 0) rfl rfl ?_
        refine z_iload_n (pc := 51) (x := v2) C dX8_placeWith_51 (i := 2) rfl rfl ?_
        refine z_iload_n (pc := 52) (x := v3) C dX8_placeWith_52 (i := 3) rfl rfl ?_
        replace h := ob_e h
        obtain ⟨x2, hx2, h⟩ := h
        refine z_callV (pc := 53) (As := [.int v2, .int v3]) (rest := []) (wr := ([] : va_W)) C dX8_placeWith_53 ml_RX8_255 wv_X8_known (m_X8_known (a0 := a0) (r0 := r0) hg hx2) [0, 1, 2, 3, 4, 5, 6, 7, 8, 9, 10, 11, 12, 13, 14] [] rfl rfl ⟨by decide, by decide⟩ (Nat.le_of_ble_eq_true rfl) ⟨by decide, by decide⟩ rfl rfl rfl rfl rfl rfl rfl (by decide) (ex_k C (cs' := 0) (ss' := 0) (wF := (wX8 g a0 r0 s0)) [0, 1, 2, 3, 4, 5, 6, 7, 8, 9, 10, 11, 12, 13, 14] rfl rfl ?_)
        refine z_iload_n (pc := 56) (x := p1) C dX8_placeWith_56 (i := 1) rfl rfl ?_
        refine z_icmp_ne (pc := 57) C dX8_placeWith_57 (tgt := 62) (by decide) (fun hc => ?_) (fun hc => ?_)
        · replace h := (ite_e h).2 hc
          refine z_iinc (pc := 62) C dX8_placeWith_62 rfl (inc_e 1 (1 : Int32) ic_1 v3) (by decide) (lv' := [(3, .int (v3 + (1 : Int32))), (0, .ref a0), (1, .int p1), (2, .int v2)]) rfl ?_
          refine z_goto (pc := 65) C dX8_placeWith_65 (tgt := 10) (by decide) ?_
          refine z_lv (lv' := [(0, .ref a0), (1, .int p1), (2, .int v2), (3, .int (v3 + (1 : Int32)))]) [1, 2, 3, 0] rfl ?_
          exact hk10 v2 (v3 + (1 : Int32)) h
        · replace h := (ite_e h).1 hc
          refine z_iload_n (pc := 60) (x := v3) C dX8_placeWith_60 (i := 3) rfl rfl ?_
          exact z_iret C X dX8_placeWith_61 (by rw [← Option.some.inj h]; exact ⟨rfl, rfl⟩) (by decide) (by decide)
      · replace h := (ite_e h).1 hc
        refine z_aload_n (pc := 29) (x := a0) C dX8_placeWith_29 (i := 0) rfl rfl ?_
        refine z_get (pc := 30) (v := .ref (r0 0)) C 0 dX8_placeWith_30 fl_RX8_9 rfl rfl ?_
        refine z_sipush (pc := 33) C dX8_placeWith_33 sp_147 ?_
        refine z_aload_n (pc := 36) (x := a0) C dX8_placeWith_36 (i := 0) rfl rfl ?_
        refine z_iload_n (pc := 37) (x := v2) C dX8_placeWith_37 (i := 2) rfl rfl ?_
        refine z_iload_n (pc := 38) (x := v3) C dX8_placeWith_38 (i := 3) rfl rfl ?_
        replace h := ob_e h
        obtain ⟨x3, hx3, h⟩ := h
        refine z_callV (pc := 39) (As := [.int v2, .int v3]) (rest := [.int (147 : Int32), .ref (r0 0)]) (wr := ([] : va_W)) C dX8_placeWith_39 ml_RX8_217 wv_X8_held (m_X8_held (a0 := a0) (r0 := r0) hg hx3) [0, 1, 2, 3, 4, 5, 6, 7, 8, 9, 10, 11, 12, 13, 14] [] rfl rfl ⟨by decide, by decide⟩ (Nat.le_of_ble_eq_true rfl) ⟨by decide, by decide⟩ rfl rfl rfl rfl rfl rfl rfl (by decide) (ex_k C (cs' := 0) (ss' := 0) (wF := (wX8 g a0 r0 s0)) [0, 1, 2, 3, 4, 5, 6, 7, 8, 9, 10, 11, 12, 13, 14] rfl rfl ?_)
        refine z_iadd (pc := 42) C dX8_placeWith_42 ?_
        replace h := chk_e h
        obtain ⟨hb4, h⟩ := h
        refine z_iald (pc := 43) C 1 dX8_placeWith_43 rfl hb4 ?_
        refine z_if_ne (pc := 44) C dX8_placeWith_44 (tgt := 62) (by decide) (fun hc => ?_) (fun hc => ?_)
        · replace h := (ite_e h).2 hc
          refine z_iinc (pc := 62) C dX8_placeWith_62 rfl (inc_e 1 (1 : Int32) ic_1 v3) (by decide) (lv' := [(3, .int (v3 + (1 : Int32))), (0, .ref a0), (1, .int p1), (2, .int v2)]) rfl ?_
          refine z_goto (pc := 65) C dX8_placeWith_65 (tgt := 10) (by decide) ?_
          refine z_lv (lv' := [(0, .ref a0), (1, .int p1), (2, .int v2), (3, .int (v3 + (1 : Int32)))]) [1, 2, 3, 0] rfl ?_
          exact hk10 v2 (v3 + (1 : Int32)) h
        · replace h := (ite_e h).1 hc
          refine z_goto (pc := 47) C dX8_placeWith_47 (tgt := 60) (by decide) ?_
          refine z_iload_n (pc := 60) (x := v3) C dX8_placeWith_60 (i := 3) rfl rfl ?_
          exact z_iret C X dX8_placeWith_61 (by rw [← Option.some.inj h]; exact ⟨rfl, rfl⟩) (by decide) (by decide)
def f_X8_placeWith (N : Nat) (s0 : Ob) (p1 : Int32) : Option (Int32) := (f_X8_placeWith_10 N s0 p1 N ((s0.2.2.1 0) 10) (0 : Int32))
theorem m_X8_placeWith {g : Gp} {a0 : Nat} {r0 : Nat → Nat} {N : Nat} {s0 : Ob} {p1 : Int32} {res : Int32} (hg : Ok g) (h : f_X8_placeWith N s0 p1 = some res) : Ct g yX8_placeWith cX8_placeWith 4 (some .int) (zrm 5 122) [.ref a0, .int p1] (wX8 g a0 r0 s0) (exR (some (.int res)) (wX8 g a0 r0 s0)) := by
  refine ct_of rfl hg (by show _ ≤ _; exact Nat.le_of_ble_eq_true rfl) (fun K C X => ?_)
  show Zs K 0 0 (wX8 g a0 r0 s0) [(0, .ref a0), (1, .int p1)] 0 []
  unfold f_X8_placeWith at h
  refine z_aload_n (pc := 0) (x := a0) C dX8_placeWith_0 (i := 0) rfl rfl ?_
  refine z_get (pc := 1) (v := .ref (r0 0)) C 0 dX8_placeWith_1 fl_RX8_9 rfl rfl ?_
  refine z_bipush (pc := 4) C dX8_placeWith_4 bp_10 ?_
  refine z_iald (pc := 6) C 1 dX8_placeWith_6 rfl (by decide) ?_
  refine z_top1 (v := ((s0.2.2.1 0) 10)) rfl ?_
  refine z_istore_n (pc := 7) C dX8_placeWith_7 (i := 2) rfl (by decide) (lv' := [(2, .int ((s0.2.2.1 0) 10)), (0, .ref a0), (1, .int p1)]) rfl ?_
  refine z_iconst (pc := 8) C dX8_placeWith_8 ic_0 ?_
  refine z_istore_n (pc := 9) C dX8_placeWith_9 (i := 3) rfl (by decide) (lv' := [(3, .int (0 : Int32)), (2, .int ((s0.2.2.1 0) 10)), (0, .ref a0), (1, .int p1)]) rfl ?_
  refine z_lv (lv' := [(0, .ref a0), (1, .int p1), (2, .int ((s0.2.2.1 0) 10)), (3, .int (0 : Int32))]) [2, 3, 1, 0] rfl ?_
  exact m_X8_placeWith_10 (a0 := a0) (r0 := r0) hg C X N ((s0.2.2.1 0) 10) (0 : Int32) h
def f_X8_findsAdvice_49 (N : Nat)  (t0 : Int32) (s0 : Ob) : Option (Ob) := (if t0 = (-1 : Int32) then (ob (f_X8_findsHint N s0 (0 : Int32)) fun x4 => (if x4.1 = 0 then (chk (inb ((187 : Int32) + ((x4.2.2.2.1 0) 10)) 358) (if ((x4.2.2.2.1 0) (((187 : Int32) + ((x4.2.2.2.1 0) 10))).toNatClampNeg) = 0 then (ob (f_X8_advises N x4.2 (3 : Int32) (-1 : Int32) (-1 : Int32) (-1 : Int32)) fun x7 => (some x7)) else (ob (f_X8_advises N x4.2 (1 : Int32) (0 : Int32) (-1 : Int32) (-1 : Int32)) fun x6 => (some x6)))) else (some x4.2))) else (ob (f_X8_advises N s0 (1 : Int32) t0 (-1 : Int32) (-1 : Int32)) fun x8 => (some x8)))
theorem m_X8_findsAdvice_49 {K : Kt} {g : Gp} {a0 : Nat} {r0 : Nat → Nat} {N : Nat} {res : Ob} (hg : Ok g) (C : Cx K g cX8_findsAdvice RX8 2 (zrm 7 178)) (X : Rx K (exR none (wX8 g a0 r0 res)) 0 0 none) (t0 : Int32) (s0 : Ob) (h : f_X8_findsAdvice_49 N t0 s0 = some res) : Zs K 0 0 (wX8 g a0 r0 s0) [(0, .ref a0)] 49 [.int t0] := by
  unfold f_X8_findsAdvice_49 at h
  refine z_istore_n (pc := 49) C dX8_findsAdvice_49 (i := 1) rfl (by decide) (lv' := [(1, .int t0), (0, .ref a0)]) rfl ?_
  refine z_iload_n (pc := 50) (x := t0) C dX8_findsAdvice_50 (i := 1) rfl rfl ?_
  refine z_iconst (pc := 51) C dX8_findsAdvice_51 ic_m1 ?_
  refine z_icmp_eq (pc := 52) C dX8_findsAdvice_52 (tgt := 64) (by decide) (fun hc => ?_) (fun hc => ?_)
  · replace h := (ite_e h).1 hc
    refine z_aload_n (pc := 64) (x := a0) C dX8_findsAdvice_64 (i := 0) rfl rfl ?_
    refine z_iconst (pc := 65) C dX8_findsAdvice_65 ic_0 ?_
    replace h := ob_e h
    obtain ⟨x4, hx4, h⟩ := h
    refine z_callV (pc := 66) (As := [.int (0 : Int32)]) (rest := []) (wr := ([] : va_W)) C dX8_findsAdvice_66 ml_RX8_327 wv_X8_findsHint (m_X8_findsHint (a0 := a0) (r0 := r0) hg hx4) [0, 1, 2, 3, 4, 5, 6, 7, 8, 9, 10, 11, 12, 13, 14] [] rfl rfl ⟨by decide, by decide⟩ (Nat.le_of_ble_eq_true rfl) ⟨by decide, by decide⟩ rfl rfl rfl rfl rfl rfl rfl (by decide) (ex_k C (cs' := 0) (ss' := 0) (wF := (wX8 g a0 r0 x4.2)) [0, 1, 2, 3, 4, 5, 6, 7, 8, 9, 10, 11, 12, 13, 14] rfl rfl ?_)
    refine z_if_eq (pc := 69) C dX8_findsAdvice_69 (tgt := 73) (by decide) (fun hc => ?_) (fun hc => ?_)
    · replace h := (ite_e h).1 hc
      refine z_aload_n (pc := 73) (x := a0) C dX8_findsAdvice_73 (i := 0) rfl rfl ?_
      refine z_get (pc := 74) (v := .ref (r0 0)) C 0 dX8_findsAdvice_74 fl_RX8_9 rfl rfl ?_
      refine z_sipush (pc := 77) C dX8_findsAdvice_77 sp_187 ?_
      refine z_aload_n (pc := 80) (x := a0) C dX8_findsAdvice_80 (i := 0) rfl rfl ?_
      refine z_get (pc := 81) (v := .ref (r0 0)) C 0 dX8_findsAdvice_81 fl_RX8_9 rfl rfl ?_
      refine z_bipush (pc := 84) C dX8_findsAdvice_84 bp_10 ?_
      refine z_iald (pc := 86) C 1 dX8_findsAdvice_86 rfl (by decide) ?_
      refine z_top1 (v := ((x4.2.2.2.1 0) 10)) rfl ?_
      refine z_iadd (pc := 87) C dX8_findsAdvice_87 ?_
      replace h := chk_e h
      obtain ⟨hb5, h⟩ := h
      refine z_iald (pc := 88) C 1 dX8_findsAdvice_88 rfl hb5 ?_
      refine z_if_ne (pc := 89) C dX8_findsAdvice_89 (tgt := 103) (by decide) (fun hc => ?_) (fun hc => ?_)
      · replace h := (ite_e h).2 hc
        refine z_aload_n (pc := 103) (x := a0) C dX8_findsAdvice_103 (i := 0) rfl rfl ?_
        refine z_iconst (pc := 104) C dX8_findsAdvice_104 ic_1 ?_
        refine z_iconst (pc := 105) C dX8_findsAdvice_105 ic_0 ?_
        refine z_iconst (pc := 106) C dX8_findsAdvice_106 ic_m1 ?_
        refine z_iconst (pc := 107) C dX8_findsAdvice_107 ic_m1 ?_
        replace h := ob_e h
        obtain ⟨x6, hx6, h⟩ := h
        refine z_callV (pc := 108) (As := [.int (1 : Int32), .int (0 : Int32), .int (-1 : Int32), .int (-1 : Int32)]) (rest := []) (wr := ([] : va_W)) C dX8_findsAdvice_108 ml_RX8_320 wv_X8_advises (m_X8_advises (a0 := a0) (r0 := r0) hg hx6) [0, 1, 2, 3, 4, 5, 6, 7, 8, 9, 10, 11, 12, 13, 14] [] rfl rfl ⟨by decide, by decide⟩ (Nat.le_of_ble_eq_true rfl) ⟨by decide, by decide⟩ rfl rfl rfl rfl rfl rfl rfl (by decide) (ex_k C (cs' := 0) (ss' := 0) (wF := (wX8 g a0 r0 x6)) [0, 1, 2, 3, 4, 5, 6, 7, 8, 9, 10, 11, 12, 13, 14] rfl rfl ?_)
        exact z_vret C X dX8_findsAdvice_111 (by rw [← Option.some.inj h]; exact ⟨rfl, rfl⟩) (by decide) (by decide)
      · replace h := (ite_e h).1 hc
        refine z_aload_n (pc := 92) (x := a0) C dX8_findsAdvice_92 (i := 0) rfl rfl ?_
        refine z_iconst (pc := 93) C dX8_findsAdvice_93 ic_3 ?_
        refine z_iconst (pc := 94) C dX8_findsAdvice_94 ic_m1 ?_
        refine z_iconst (pc := 95) C dX8_findsAdvice_95 ic_m1 ?_
        refine z_iconst (pc := 96) C dX8_findsAdvice_96 ic_m1 ?_
        replace h := ob_e h
        obtain ⟨x7, hx7, h⟩ := h
        refine z_callV (pc := 97) (As := [.int (3 : Int32), .int (-1 : Int32), .int (-1 : Int32), .int (-1 : Int32)]) (rest := []) (wr := ([] : va_W)) C dX8_findsAdvice_97 ml_RX8_320 wv_X8_advises (m_X8_advises (a0 := a0) (r0 := r0) hg hx7) [0, 1, 2, 3, 4, 5, 6, 7, 8, 9, 10, 11, 12, 13, 14] [] rfl rfl ⟨by decide, by decide⟩ (Nat.le_of_ble_eq_true rfl) ⟨by decide, by decide⟩ rfl rfl rfl rfl rfl rfl rfl (by decide) (ex_k C (cs' := 0) (ss' := 0) (wF := (wX8 g a0 r0 x7)) [0, 1, 2, 3, 4, 5, 6, 7, 8, 9, 10, 11, 12, 13, 14] rfl rfl ?_)
        refine z_goto (pc := 100) C dX8_findsAdvice_100 (tgt := 111) (by decide) ?_
        exact z_vret C X dX8_findsAdvice_111 (by rw [← Option.some.inj h]; exact ⟨rfl, rfl⟩) (by decide) (by decide)
    · replace h := (ite_e h).2 hc
      exact z_vret C X dX8_findsAdvice_72 (by rw [← Option.some.inj h]; exact ⟨rfl, rfl⟩) (by decide) (by decide)
  · replace h := (ite_e h).2 hc
    refine z_aload_n (pc := 55) (x := a0) C dX8_findsAdvice_55 (i := 0) rfl rfl ?_
    refine z_iconst (pc := 56) C dX8_findsAdvice_56 ic_1 ?_
    refine z_iload_n (pc := 57) (x := t0) C dX8_findsAdvice_57 (i := 1) rfl rfl ?_
    refine z_iconst (pc := 58) C dX8_findsAdvice_58 ic_m1 ?_
    refine z_iconst (pc := 59) C dX8_findsAdvice_59 ic_m1 ?_
    replace h := ob_e h
    obtain ⟨x8, hx8, h⟩ := h
    refine z_callV (pc := 60) (As := [.int (1 : Int32), .int t0, .int (-1 : Int32), .int (-1 : Int32)]) (rest := []) (wr := ([] : va_W)) C dX8_findsAdvice_60 ml_RX8_320 wv_X8_advises (m_X8_advises (a0 := a0) (r0 := r0) hg hx8) [0, 1, 2, 3, 4, 5, 6, 7, 8, 9, 10, 11, 12, 13, 14] [] rfl rfl ⟨by decide, by decide⟩ (Nat.le_of_ble_eq_true rfl) ⟨by decide, by decide⟩ rfl rfl rfl rfl rfl rfl rfl (by decide) (ex_k C (cs' := 0) (ss' := 0) (wF := (wX8 g a0 r0 x8)) [0, 1, 2, 3, 4, 5, 6, 7, 8, 9, 10, 11, 12, 13, 14] rfl rfl ?_)
    exact z_vret C X dX8_findsAdvice_63 (by rw [← Option.some.inj h]; exact ⟨rfl, rfl⟩) (by decide) (by decide)
def f_X8_findsAdvice (N : Nat) (s0 : Ob) : Option (Ob) := (ob (f_X8_placeWith N s0 (1 : Int32)) fun x1 => (if x1 = (-1 : Int32) then (ob (f_X8_findsHint N s0 (1 : Int32)) fun x2 => (if x2.1 = 0 then (ob (f_X8_placeWith N x2.2 (2 : Int32)) fun x3 => (if x3 = (-1 : Int32) then (ob (f_X8_placeWith N x2.2 (-1 : Int32)) fun x9 => (f_X8_findsAdvice_49 N x9 x2.2)) else (f_X8_findsAdvice_49 N x3 x2.2))) else (some x2.2))) else (ob (f_X8_advises N s0 (0 : Int32) x1 (-1 : Int32) (-1 : Int32)) fun x10 => (some x10))))
theorem m_X8_findsAdvice {g : Gp} {a0 : Nat} {r0 : Nat → Nat} {N : Nat} {s0 : Ob} {res : Ob} (hg : Ok g) (h : f_X8_findsAdvice N s0 = some res) : Ct g yX8_findsAdvice cX8_findsAdvice 2 none (zrm 7 178) [.ref a0] (wX8 g a0 r0 s0) (exR none (wX8 g a0 r0 res)) := by
  refine ct_of rfl hg (by show _ ≤ _; exact Nat.le_of_ble_eq_true rfl) (fun K C X => ?_)
  show Zs K 0 0 (wX8 g a0 r0 s0) [(0, .ref a0)] 0 []
  unfold f_X8_findsAdvice at h
  refine z_aload_n (pc := 0) (x := a0) C dX8_findsAdvice_0 (i := 0) rfl rfl ?_
  refine z_iconst (pc := 1) C dX8_findsAdvice_1 ic_1 ?_
  replace h := ob_e h
  obtain ⟨x1, hx1, h⟩ := h
  refine z_callV (pc := 2) (As := [.int (1 : Int32)]) (rest := []) (wr := ([] : va_W)) C dX8_findsAdvice_2 ml_RX8_324 wv_X8_placeWith (m_X8_placeWith (a0 := a0) (r0 := r0) hg hx1) [0, 1, 2, 3, 4, 5, 6, 7, 8, 9, 10, 11, 12, 13, 14] [] rfl rfl ⟨by decide, by decide⟩ (Nat.le_of_ble_eq_true rfl) ⟨by decide, by decide⟩ rfl rfl rfl rfl rfl rfl rfl (by decide) (ex_k C (cs' := 0) (ss' := 0) (wF := (wX8 g a0 r0 s0)) [0, 1, 2, 3, 4, 5, 6, 7, 8, 9, 10, 11, 12, 13, 14] rfl rfl ?_)
  refine z_istore_n (pc := 5) C dX8_findsAdvice_5 (i := 1) rfl (by decide) (lv' := [(1, .int x1), (0, .ref a0)]) rfl ?_
  refine z_iload_n (pc := 6) (x := x1) C dX8_findsAdvice_6 (i := 1) rfl rfl ?_
  refine z_iconst (pc := 7) C dX8_findsAdvice_7 ic_m1 ?_
  refine z_icmp_eq (pc := 8) C dX8_findsAdvice_8 (tgt := 20) (by decide) (fun hc => ?_) (fun hc => ?_)
  · replace h := (ite_e h).1 hc
    refine z_aload_n (pc := 20) (x := a0) C dX8_findsAdvice_20 (i := 0) rfl rfl ?_
    refine z_iconst (pc := 21) C dX8_findsAdvice_21 ic_1 ?_
    replace h := ob_e h
    obtain ⟨x2, hx2, h⟩ := h
    refine z_callV (pc := 22) (As := [.int (1 : Int32)]) (rest := []) (wr := ([] : va_W)) C dX8_findsAdvice_22 ml_RX8_327 wv_X8_findsHint (m_X8_findsHint (a0 := a0) (r0 := r0) hg hx2) [0, 1, 2, 3, 4, 5, 6, 7, 8, 9, 10, 11, 12, 13, 14] [] rfl rfl ⟨by decide, by decide⟩ (Nat.le_of_ble_eq_true rfl) ⟨by decide, by decide⟩ rfl rfl rfl rfl rfl rfl rfl (by decide) (ex_k C (cs' := 0) (ss' := 0) (wF := (wX8 g a0 r0 x2.2)) [0, 1, 2, 3, 4, 5, 6, 7, 8, 9, 10, 11, 12, 13, 14] rfl rfl ?_)
    refine z_if_eq (pc := 25) C dX8_findsAdvice_25 (tgt := 29) (by decide) (fun hc => ?_) (fun hc => ?_)
    · replace h := (ite_e h).1 hc
      refine z_aload_n (pc := 29) (x := a0) C dX8_findsAdvice_29 (i := 0) rfl rfl ?_
      refine z_iconst (pc := 30) C dX8_findsAdvice_30 ic_2 ?_
      replace h := ob_e h
      obtain ⟨x3, hx3, h⟩ := h
      refine z_callV (pc := 31) (As := [.int (2 : Int32)]) (rest := []) (wr := ([] : va_W)) C dX8_findsAdvice_31 ml_RX8_324 wv_X8_placeWith (m_X8_placeWith (a0 := a0) (r0 := r0) hg hx3) [0, 1, 2, 3, 4, 5, 6, 7, 8, 9, 10, 11, 12, 13, 14] [] rfl rfl ⟨by decide, by decide⟩ (Nat.le_of_ble_eq_true rfl) ⟨by decide, by decide⟩ rfl rfl rfl rfl rfl rfl rfl (by decide) (ex_k C (cs' := 0) (ss' := 0) (wF := (wX8 g a0 r0 x2.2)) [0, 1, 2, 3, 4, 5, 6, 7, 8, 9, 10, 11, 12, 13, 14] rfl rfl ?_)
      refine z_istore_n (pc := 34) C dX8_findsAdvice_34 (i := 1) rfl (by decide) (lv' := [(1, .int x3), (0, .ref a0)]) rfl ?_
      refine z_iload_n (pc := 35) (x := x3) C dX8_findsAdvice_35 (i := 1) rfl rfl ?_
      refine z_iconst (pc := 36) C dX8_findsAdvice_36 ic_m1 ?_
      refine z_icmp_ne (pc := 37) C dX8_findsAdvice_37 (tgt := 48) (by decide) (fun hc => ?_) (fun hc => ?_)
      · replace h := (ite_e h).2 hc
        refine z_iload_n (pc := 48) (x := x3) C dX8_findsAdvice_48 (i := 1) rfl rfl ?_
        refine z_lv (lv' := [(0, .ref a0)]) [1] rfl ?_
        exact m_X8_findsAdvice_49 (a0 := a0) (r0 := r0) hg C X x3 x2.2 h
      · replace h := (ite_e h).1 hc
        refine z_aload_n (pc := 40) (x := a0) C dX8_findsAdvice_40 (i := 0) rfl rfl ?_
        refine z_iconst (pc := 41) C dX8_findsAdvice_41 ic_m1 ?_
        replace h := ob_e h
        obtain ⟨x9, hx9, h⟩ := h
        refine z_callV (pc := 42) (As := [.int (-1 : Int32)]) (rest := []) (wr := ([] : va_W)) C dX8_findsAdvice_42 ml_RX8_324 wv_X8_placeWith (m_X8_placeWith (a0 := a0) (r0 := r0) hg hx9) [0, 1, 2, 3, 4, 5, 6, 7, 8, 9, 10, 11, 12, 13, 14] [] rfl rfl ⟨by decide, by decide⟩ (Nat.le_of_ble_eq_true rfl) ⟨by decide, by decide⟩ rfl rfl rfl rfl rfl rfl rfl (by decide) (ex_k C (cs' := 0) (ss' := 0) (wF := (wX8 g a0 r0 x2.2)) [0, 1, 2, 3, 4, 5, 6, 7, 8, 9, 10, 11, 12, 13, 14] rfl rfl ?_)
        refine z_goto (pc := 45) C dX8_findsAdvice_45 (tgt := 49) (by decide) ?_
        refine z_lv (lv' := [(0, .ref a0)]) [1] rfl ?_
        exact m_X8_findsAdvice_49 (a0 := a0) (r0 := r0) hg C X x9 x2.2 h
    · replace h := (ite_e h).2 hc
      exact z_vret C X dX8_findsAdvice_28 (by rw [← Option.some.inj h]; exact ⟨rfl, rfl⟩) (by decide) (by decide)
  · replace h := (ite_e h).2 hc
    refine z_aload_n (pc := 11) (x := a0) C dX8_findsAdvice_11 (i := 0) rfl rfl ?_
    refine z_iconst (pc := 12) C dX8_findsAdvice_12 ic_0 ?_
    refine z_iload_n (pc := 13) (x := x1) C dX8_findsAdvice_13 (i := 1) rfl rfl ?_
    refine z_iconst (pc := 14) C dX8_findsAdvice_14 ic_m1 ?_
    refine z_iconst (pc := 15) C dX8_findsAdvice_15 ic_m1 ?_
    replace h := ob_e h
    obtain ⟨x10, hx10, h⟩ := h
    refine z_callV (pc := 16) (As := [.int (0 : Int32), .int x1, .int (-1 : Int32), .int (-1 : Int32)]) (rest := []) (wr := ([] : va_W)) C dX8_findsAdvice_16 ml_RX8_320 wv_X8_advises (m_X8_advises (a0 := a0) (r0 := r0) hg hx10) [0, 1, 2, 3, 4, 5, 6, 7, 8, 9, 10, 11, 12, 13, 14] [] rfl rfl ⟨by decide, by decide⟩ (Nat.le_of_ble_eq_true rfl) ⟨by decide, by decide⟩ rfl rfl rfl rfl rfl rfl rfl (by decide) (ex_k C (cs' := 0) (ss' := 0) (wF := (wX8 g a0 r0 x10)) [0, 1, 2, 3, 4, 5, 6, 7, 8, 9, 10, 11, 12, 13, 14] rfl rfl ?_)
    exact z_vret C X dX8_findsAdvice_19 (by rw [← Option.some.inj h]; exact ⟨rfl, rfl⟩) (by decide) (by decide)
def f_X8_advice (N : Nat) (s0 : Ob) (p1 : Int32) : Option (Int32 × Ob) := (ob (f_X8_in N p1 (0 : Int32) (3 : Int32)) fun x1 => (ob (f_X8_isThrown N s0 x1 (1 : Int32)) fun x2 => (if x2.1 = 0 then (ob (f_X8_isOver N x2.2) fun x3 => (if x3 = 0 then (ob (f_X8_findsAdvice N x2.2) fun x4 => (chk (inb p1 4) (some (((x4.2.2.1 18) (p1).toNatClampNeg), x4)))) else (some ((-3 : Int32), x2.2)))) else (some ((0 : Int32), x2.2)))))
theorem m_X8_advice {g : Gp} {a0 : Nat} {r0 : Nat → Nat} {N : Nat} {s0 : Ob} {p1 : Int32} {res : Int32 × Ob} (hg : Ok g) (h : f_X8_advice N s0 p1 = some res) : Ct g yX8_advice cX8_advice 2 (some .int) (zrm 8 199) [.ref a0, .int p1] (wX8 g a0 r0 s0) (exR (some (.int res.1)) (wX8 g a0 r0 res.2)) := by
  refine ct_of rfl hg (by show _ ≤ _; exact Nat.le_of_ble_eq_true rfl) (fun K C X => ?_)
  show Zs K 0 0 (wX8 g a0 r0 s0) [(0, .ref a0), (1, .int p1)] 0 []
  unfold f_X8_advice at h
  refine z_aload_n (pc := 0) (x := a0) C dX8_advice_0 (i := 0) rfl rfl ?_
  refine z_iload_n (pc := 1) (x := p1) C dX8_advice_1 (i := 1) rfl rfl ?_
  refine z_iconst (pc := 2) C dX8_advice_2 ic_0 ?_
  refine z_iconst (pc := 3) C dX8_advice_3 ic_3 ?_
  replace h := ob_e h
  obtain ⟨x1, hx1, h⟩ := h
  refine z_callS (pc := 4) (As := [.int p1, .int (0 : Int32), .int (3 : Int32)]) (rest := [.ref a0]) (wr := (wX8 g a0 r0 s0)) C dX8_advice_4 ml_RX8_62 wt_X8_in (m_X8_in hg hx1) [] [0, 1, 2, 3, 4, 5, 6, 7, 8, 9, 10, 11, 12, 13, 14] rfl rfl ⟨by decide, by decide⟩ (Nat.le_of_ble_eq_true rfl) ⟨by decide, by decide⟩ rfl rfl rfl rfl (by decide) (ex_k C (cs' := 0) (ss' := 0) (wF := (wX8 g a0 r0 s0)) [0, 1, 2, 3, 4, 5, 6, 7, 8, 9, 10, 11, 12, 13, 14] rfl rfl ?_)
  refine z_iconst (pc := 7) C dX8_advice_7 ic_1 ?_
  replace h := ob_e h
  obtain ⟨x2, hx2, h⟩ := h
  refine z_callV (pc := 8) (As := [.int x1, .int (1 : Int32)]) (rest := []) (wr := ([] : va_W)) C dX8_advice_8 ml_RX8_206 wv_X8_isThrown (m_X8_isThrown (a0 := a0) (r0 := r0) hg hx2) [0, 1, 2, 3, 4, 5, 6, 7, 8, 9, 10, 11, 12, 13, 14] [] rfl rfl ⟨by decide, by decide⟩ (Nat.le_of_ble_eq_true rfl) ⟨by decide, by decide⟩ rfl rfl rfl rfl rfl rfl rfl (by decide) (ex_k C (cs' := 0) (ss' := 0) (wF := (wX8 g a0 r0 x2.2)) [0, 1, 2, 3, 4, 5, 6, 7, 8, 9, 10, 11, 12, 13, 14] rfl rfl ?_)
  refine z_if_eq (pc := 11) C dX8_advice_11 (tgt := 16) (by decide) (fun hc => ?_) (fun hc => ?_)
  · replace h := (ite_e h).1 hc
    refine z_aload_n (pc := 16) (x := a0) C dX8_advice_16 (i := 0) rfl rfl ?_
    replace h := ob_e h
    obtain ⟨x3, hx3, h⟩ := h
    refine z_callV (pc := 17) (As := []) (rest := []) (wr := ([] : va_W)) C dX8_advice_17 ml_RX8_299 wv_X8_isOver (m_X8_isOver (a0 := a0) (r0 := r0) hg hx3) [0, 1, 2, 3, 4, 5, 6, 7, 8, 9, 10, 11, 12, 13, 14] [] rfl rfl ⟨by decide, by decide⟩ (Nat.le_of_ble_eq_true rfl) ⟨by decide, by decide⟩ rfl rfl rfl rfl rfl rfl rfl (by decide) (ex_k C (cs' := 0) (ss' := 0) (wF := (wX8 g a0 r0 x2.2)) [0, 1, 2, 3, 4, 5, 6, 7, 8, 9, 10, 11, 12, 13, 14] rfl rfl ?_)
    refine z_if_eq (pc := 20) C dX8_advice_20 (tgt := 26) (by decide) (fun hc => ?_) (fun hc => ?_)
    · replace h := (ite_e h).1 hc
      refine z_aload_n (pc := 26) (x := a0) C dX8_advice_26 (i := 0) rfl rfl ?_
      replace h := ob_e h
      obtain ⟨x4, hx4, h⟩ := h
      refine z_callV (pc := 27) (As := []) (rest := []) (wr := ([] : va_W)) C dX8_advice_27 ml_RX8_331 wv_X8_findsAdvice (m_X8_findsAdvice (a0 := a0) (r0 := r0) hg hx4) [0, 1, 2, 3, 4, 5, 6, 7, 8, 9, 10, 11, 12, 13, 14] [] rfl rfl ⟨by decide, by decide⟩ (Nat.le_of_ble_eq_true rfl) ⟨by decide, by decide⟩ rfl rfl rfl rfl rfl rfl rfl (by decide) (ex_k C (cs' := 0) (ss' := 0) (wF := (wX8 g a0 r0 x4)) [0, 1, 2, 3, 4, 5, 6, 7, 8, 9, 10, 11, 12, 13, 14] rfl rfl ?_)
      refine z_aload_n (pc := 30) (x := a0) C dX8_advice_30 (i := 0) rfl rfl ?_
      refine z_get (pc := 31) (v := .ref (r0 18)) C 0 dX8_advice_31 fl_RX8_37 rfl rfl ?_
      refine z_iload_n (pc := 34) (x := p1) C dX8_advice_34 (i := 1) rfl rfl ?_
      replace h := chk_e h
      obtain ⟨hb5, h⟩ := h
      refine z_iald (pc := 35) C 8 dX8_advice_35 rfl hb5 ?_
      exact z_iret C X dX8_advice_36 (by rw [← Option.some.inj h]; exact ⟨rfl, rfl⟩) (by decide) (by decide)
    · replace h := (ite_e h).2 hc
      refine z_bipush (pc := 23) C dX8_advice_23 bp_m3 ?_
      exact z_iret C X dX8_advice_25 (by rw [← Option.some.inj h]; exact ⟨rfl, rfl⟩) (by decide) (by decide)
  · replace h := (ite_e h).2 hc
    refine z_iconst (pc := 14) C dX8_advice_14 ic_0 ?_
    exact z_iret C X dX8_advice_15 (by rw [← Option.some.inj h]; exact ⟨rfl, rfl⟩) (by decide) (by decide)
def f_X8_follows (N : Nat) (s0 : Ob) : Option (Ob) := (ob (f_X8_findsAdvice N s0) fun x1 => (if ((x1.2.2.1 18) 0) = (0 : Int32) then (ob (f_X8_plays N x1 ((x1.2.2.1 18) 1)) fun x2 => (some x2)) else (if ((x1.2.2.1 18) 0) = (1 : Int32) then (ob (f_X8_discards N x1 ((x1.2.2.1 18) 1)) fun x3 => (some x3)) else (if ((x1.2.2.1 18) 0) = (2 : Int32) then (ob (f_X8_hints N x1 ((x1.2.2.1 18) 1) ((x1.2.2.1 18) 2) ((x1.2.2.1 18) 3)) fun x4 => (some x4.2)) else (ob (f_X8_passes N x1) fun x5 => (some x5))))))
theorem m_X8_follows {g : Gp} {a0 : Nat} {r0 : Nat → Nat} {N : Nat} {s0 : Ob} {res : Ob} (hg : Ok g) (h : f_X8_follows N s0 = some res) : Ct g yX8_follows cX8_follows 2 none (zrm 8 199) [.ref a0] (wX8 g a0 r0 s0) (exR none (wX8 g a0 r0 res)) := by
  refine ct_of rfl hg (by show _ ≤ _; exact Nat.le_of_ble_eq_true rfl) (fun K C X => ?_)
  show Zs K 0 0 (wX8 g a0 r0 s0) [(0, .ref a0)] 0 []
  unfold f_X8_follows at h
  refine z_aload_n (pc := 0) (x := a0) C dX8_follows_0 (i := 0) rfl rfl ?_
  replace h := ob_e h
  obtain ⟨x1, hx1, h⟩ := h
  refine z_callV (pc := 1) (As := []) (rest := []) (wr := ([] : va_W)) C dX8_follows_1 ml_RX8_331 wv_X8_findsAdvice (m_X8_findsAdvice (a0 := a0) (r0 := r0) hg hx1) [0, 1, 2, 3, 4, 5, 6, 7, 8, 9, 10, 11, 12, 13, 14] [] rfl rfl ⟨by decide, by decide⟩ (Nat.le_of_ble_eq_true rfl) ⟨by decide, by decide⟩ rfl rfl rfl rfl rfl rfl rfl (by decide) (ex_k C (cs' := 0) (ss' := 0) (wF := (wX8 g a0 r0 x1)) [0, 1, 2, 3, 4, 5, 6, 7, 8, 9, 10, 11, 12, 13, 14] rfl rfl ?_)
  refine z_aload_n (pc := 4) (x := a0) C dX8_follows_4 (i := 0) rfl rfl ?_
  refine z_get (pc := 5) (v := .ref (r0 18)) C 0 dX8_follows_5 fl_RX8_37 rfl rfl ?_
  refine z_iconst (pc := 8) C dX8_follows_8 ic_0 ?_
  refine z_iald (pc := 9) C 8 dX8_follows_9 rfl (by decide) ?_
  refine z_top1 (v := ((x1.2.2.1 18) 0)) rfl ?_
  refine (Decidable.em (((x1.2.2.1 18) 0) = (0 : Int32))).elim (fun hc => ?_) (fun hn0 => ?_)
  · refine z_tswIn (pc := 10) C (0 : Int32) dX8_follows_10 hc (by decide) (by decide) (off := 26) rfl (tgt := 36) (by decide) ?_
    replace h := (ite_e h).1 hc
    refine z_aload_n (pc := 36) (x := a0) C dX8_follows_36 (i := 0) rfl rfl ?_
    refine z_aload_n (pc := 37) (x := a0) C dX8_follows_37 (i := 0) rfl rfl ?_
    refine z_get (pc := 38) (v := .ref (r0 18)) C 0 dX8_follows_38 fl_RX8_37 rfl rfl ?_
    refine z_iconst (pc := 41) C dX8_follows_41 ic_1 ?_
    refine z_iald (pc := 42) C 8 dX8_follows_42 rfl (by decide) ?_
    refine z_top1 (v := ((x1.2.2.1 18) 1)) rfl ?_
    replace h := ob_e h
    obtain ⟨x2, hx2, h⟩ := h
    refine z_callV (pc := 43) (As := [.int ((x1.2.2.1 18) 1)]) (rest := []) (wr := ([] : va_W)) C dX8_follows_43 ml_RX8_305 wv_X8_plays (m_X8_plays (a0 := a0) (r0 := r0) hg hx2) [0, 1, 2, 3, 4, 5, 6, 7, 8, 9, 10, 11, 12, 13, 14] [] rfl rfl ⟨by decide, by decide⟩ (Nat.le_of_ble_eq_true rfl) ⟨by decide, by decide⟩ rfl rfl rfl rfl rfl rfl rfl (by decide) (ex_k C (cs' := 0) (ss' := 0) (wF := (wX8 g a0 r0 x2)) [0, 1, 2, 3, 4, 5, 6, 7, 8, 9, 10, 11, 12, 13, 14] rfl rfl ?_)
    refine z_goto (pc := 46) C dX8_follows_46 (tgt := 92) (by decide) ?_
    exact z_vret C X dX8_follows_92 (by rw [← Option.some.inj h]; exact ⟨rfl, rfl⟩) (by decide) (by decide)
  replace h := (ite_e h).2 hn0
  refine (Decidable.em (((x1.2.2.1 18) 0) = (1 : Int32))).elim (fun hc => ?_) (fun hn1 => ?_)
  · refine z_tswIn (pc := 10) C (1 : Int32) dX8_follows_10 hc (by decide) (by decide) (off := 39) rfl (tgt := 49) (by decide) ?_
    replace h := (ite_e h).1 hc
    refine z_aload_n (pc := 49) (x := a0) C dX8_follows_49 (i := 0) rfl rfl ?_
    refine z_aload_n (pc := 50) (x := a0) C dX8_follows_50 (i := 0) rfl rfl ?_
    refine z_get (pc := 51) (v := .ref (r0 18)) C 0 dX8_follows_51 fl_RX8_37 rfl rfl ?_
    refine z_iconst (pc := 54) C dX8_follows_54 ic_1 ?_
    refine z_iald (pc := 55) C 8 dX8_follows_55 rfl (by decide) ?_
    refine z_top1 (v := ((x1.2.2.1 18) 1)) rfl ?_
    replace h := ob_e h
    obtain ⟨x3, hx3, h⟩ := h
    refine z_callV (pc := 56) (As := [.int ((x1.2.2.1 18) 1)]) (rest := []) (wr := ([] : va_W)) C dX8_follows_56 ml_RX8_308 wv_X8_discards (m_X8_discards (a0 := a0) (r0 := r0) hg hx3) [0, 1, 2, 3, 4, 5, 6, 7, 8, 9, 10, 11, 12, 13, 14] [] rfl rfl ⟨by decide, by decide⟩ (Nat.le_of_ble_eq_true rfl) ⟨by decide, by decide⟩ rfl rfl rfl rfl rfl rfl rfl (by decide) (ex_k C (cs' := 0) (ss' := 0) (wF := (wX8 g a0 r0 x3)) [0, 1, 2, 3, 4, 5, 6, 7, 8, 9, 10, 11, 12, 13, 14] rfl rfl ?_)
    refine z_goto (pc := 59) C dX8_follows_59 (tgt := 92) (by decide) ?_
    exact z_vret C X dX8_follows_92 (by rw [← Option.some.inj h]; exact ⟨rfl, rfl⟩) (by decide) (by decide)
  replace h := (ite_e h).2 hn1
  refine (Decidable.em (((x1.2.2.1 18) 0) = (2 : Int32))).elim (fun hc => ?_) (fun hn2 => ?_)
  · refine z_tswIn (pc := 10) C (2 : Int32) dX8_follows_10 hc (by decide) (by decide) (off := 52) rfl (tgt := 62) (by decide) ?_
    replace h := (ite_e h).1 hc
    refine z_aload_n (pc := 62) (x := a0) C dX8_follows_62 (i := 0) rfl rfl ?_
    refine z_aload_n (pc := 63) (x := a0) C dX8_follows_63 (i := 0) rfl rfl ?_
    refine z_get (pc := 64) (v := .ref (r0 18)) C 0 dX8_follows_64 fl_RX8_37 rfl rfl ?_
    refine z_iconst (pc := 67) C dX8_follows_67 ic_1 ?_
    refine z_iald (pc := 68) C 8 dX8_follows_68 rfl (by decide) ?_
    refine z_top1 (v := ((x1.2.2.1 18) 1)) rfl ?_
    refine z_aload_n (pc := 69) (x := a0) C dX8_follows_69 (i := 0) rfl rfl ?_
    refine z_get (pc := 70) (v := .ref (r0 18)) C 0 dX8_follows_70 fl_RX8_37 rfl rfl ?_
    refine z_iconst (pc := 73) C dX8_follows_73 ic_2 ?_
    refine z_iald (pc := 74) C 8 dX8_follows_74 rfl (by decide) ?_
    refine z_top1 (v := ((x1.2.2.1 18) 2)) rfl ?_
    refine z_aload_n (pc := 75) (x := a0) C dX8_follows_75 (i := 0) rfl rfl ?_
    refine z_get (pc := 76) (v := .ref (r0 18)) C 0 dX8_follows_76 fl_RX8_37 rfl rfl ?_
    refine z_iconst (pc := 79) C dX8_follows_79 ic_3 ?_
    refine z_iald (pc := 80) C 8 dX8_follows_80 rfl (by decide) ?_
    refine z_top1 (v := ((x1.2.2.1 18) 3)) rfl ?_
    replace h := ob_e h
    obtain ⟨x4, hx4, h⟩ := h
    refine z_callV (pc := 81) (As := [.int ((x1.2.2.1 18) 1), .int ((x1.2.2.1 18) 2), .int ((x1.2.2.1 18) 3)]) (rest := []) (wr := ([] : va_W)) C dX8_follows_81 ml_RX8_314 wv_X8_hints (m_X8_hints (a0 := a0) (r0 := r0) hg hx4) [0, 1, 2, 3, 4, 5, 6, 7, 8, 9, 10, 11, 12, 13, 14] [] rfl rfl ⟨by decide, by decide⟩ (Nat.le_of_ble_eq_true rfl) ⟨by decide, by decide⟩ rfl rfl rfl rfl rfl rfl rfl (by decide) (ex_k C (cs' := 0) (ss' := 0) (wF := (wX8 g a0 r0 x4.2)) [0, 1, 2, 3, 4, 5, 6, 7, 8, 9, 10, 11, 12, 13, 14] rfl rfl ?_)
    refine z_istore_n (pc := 84) C dX8_follows_84 (i := 1) rfl (by decide) (lv' := [(1, .int x4.1), (0, .ref a0)]) rfl ?_
    refine z_goto (pc := 85) C dX8_follows_85 (tgt := 92) (by decide) ?_
    exact z_vret C X dX8_follows_92 (by rw [← Option.some.inj h]; exact ⟨rfl, rfl⟩) (by decide) (by decide)
  replace h := (ite_e h).2 hn2
  refine z_tswOut (pc := 10) C dX8_follows_10 (by have e0 := lv_neT hn0 (a := 0) (by decide); have e1 := lv_neT hn1 (a := 1) (by decide); have e2 := lv_neT hn2 (a := 2) (by decide); omega) (tgt := 88) (by decide) ?_
  refine z_aload_n (pc := 88) (x := a0) C dX8_follows_88 (i := 0) rfl rfl ?_
  replace h := ob_e h
  obtain ⟨x5, hx5, h⟩ := h
  refine z_callV (pc := 89) (As := []) (rest := []) (wr := ([] : va_W)) C dX8_follows_89 ml_RX8_317 wv_X8_passes (m_X8_passes (a0 := a0) (r0 := r0) hg hx5) [0, 1, 2, 3, 4, 5, 6, 7, 8, 9, 10, 11, 12, 13, 14] [] rfl rfl ⟨by decide, by decide⟩ (Nat.le_of_ble_eq_true rfl) ⟨by decide, by decide⟩ rfl rfl rfl rfl rfl rfl rfl (by decide) (ex_k C (cs' := 0) (ss' := 0) (wF := (wX8 g a0 r0 x5)) [0, 1, 2, 3, 4, 5, 6, 7, 8, 9, 10, 11, 12, 13, 14] rfl rfl ?_)
  exact z_vret C X dX8_follows_92 (by rw [← Option.some.inj h]; exact ⟨rfl, rfl⟩) (by decide) (by decide)
def F_X8_follow_19 (N : Nat) (p1 : Int32)  (k19 : Int32 → Ob → Option (Int32 × Ob)) (v2 : Int32) (s0 : Ob) : Option (Int32 × Ob) := (if p1 ≤ v2 then (some (v2, s0)) else (ob (f_X8_isOver N s0) fun x3 => (if x3 = 0 then (ob (f_X8_keeps N s0) fun x4 => (ob (f_X8_follows N x4) fun x5 => (k19 (v2 + (1 : Int32)) x5))) else (some (v2, s0)))))
def f_X8_follow_19 (N : Nat) (p1 : Int32)  : Nat → Int32 → Ob → Option (Int32 × Ob) := zlp (fun _ _ => none) (F_X8_follow_19 N p1)
theorem m_X8_follow_19 {K : Kt} {g : Gp} {a0 : Nat} {r0 : Nat → Nat} {N : Nat} {p1 : Int32} {res : Int32 × Ob} (hg : Ok g) (C : Cx K g cX8_follow RX8 3 (zrm 9 220)) (X : Rx K (exR (some (.int res.1)) (wX8 g a0 r0 res.2)) 0 0 (some .int)) : ∀ (n : Nat) (v2 : Int32) (s0 : Ob), f_X8_follow_19 N p1 n v2 s0 = some res → Zs K 0 0 (wX8 g a0 r0 s0) [(0, .ref a0), (1, .int p1), (2, .int v2)] 19 [] := by
  intro n
  induction n with
  | zero => intro v2 s0 h; exact nomatch (show (none : Option (Int32 × Ob)) = some res from h)
  | succ n hk19 =>
    intro v2 s0 h
    replace h : F_X8_follow_19 N p1 (f_X8_follow_19 N p1 n) v2 s0 = some res := h
    unfold F_X8_follow_19 at h
    refine z_iload_n (pc := 19) (x := v2) C dX8_follow_19 (i := 2) rfl rfl ?_
    refine z_iload_n (pc := 20) (x := p1) C dX8_follow_20 (i := 1) rfl rfl ?_
    refine z_icmp_ge (pc := 21) C dX8_follow_21 (tgt := 45) (by decide) (fun hc => ?_) (fun hc => ?_)
    · replace h := (ite_e h).1 hc
      refine z_iload_n (pc := 45) (x := v2) C dX8_follow_45 (i := 2) rfl rfl ?_
      exact z_iret C X dX8_follow_46 (by rw [← Option.some.inj h]; exact ⟨rfl, rfl⟩) (by decide) (by decide)
    · replace h := (ite_e h).2 hc
      refine z_aload_n (pc := 24) (x := a0) C dX8_follow_24 (i := 0) rfl rfl ?_
      replace h := ob_e h
      obtain ⟨x3, hx3, h⟩ := h
      refine z_callV (pc := 25) (As := []) (rest := []) (wr := ([] : va_W)) C dX8_follow_25 ml_RX8_299 wv_X8_isOver (m_X8_isOver (a0 := a0) (r0 := r0) hg hx3) [0, 1, 2, 3, 4, 5, 6, 7, 8, 9, 10, 11, 12, 13, 14] [] rfl rfl ⟨by decide, by decide⟩ (Nat.le_of_ble_eq_true rfl) ⟨by decide, by decide⟩ rfl rfl rfl rfl rfl rfl rfl (by decide) (ex_k C (cs' := 0) (ss' := 0) (wF := (wX8 g a0 r0 s0)) [0, 1, 2, 3, 4, 5, 6, 7, 8, 9, 10, 11, 12, 13, 14] rfl rfl ?_)
      refine z_if_ne (pc := 28) C dX8_follow_28 (tgt := 45) (by decide) (fun hc => ?_) (fun hc => ?_)
      · replace h := (ite_e h).2 hc
        refine z_iload_n (pc := 45) (x := v2) C dX8_follow_45 (i := 2) rfl rfl ?_
        exact z_iret C X dX8_follow_46 (by rw [← Option.some.inj h]; exact ⟨rfl, rfl⟩) (by decide) (by decide)
      · replace h := (ite_e h).1 hc
        refine z_aload_n (pc := 31) (x := a0) C dX8_follow_31 (i := 0) rfl rfl ?_
        replace h := ob_e h
        obtain ⟨x4, hx4, h⟩ := h
        refine z_callV (pc := 32) (As := []) (rest := []) (wr := ([] : va_W)) C dX8_follow_32 ml_RX8_302 wv_X8_keeps (m_X8_keeps (a0 := a0) (r0 := r0) hg hx4) [0, 1, 2, 3, 4, 5, 6, 7, 8, 9, 10, 11, 12, 13, 14] [] rfl rfl ⟨by decide, by decide⟩ (Nat.le_of_ble_eq_true rfl) ⟨by decide, by decide⟩ rfl rfl rfl rfl rfl rfl rfl (by decide) (ex_k C (cs' := 0) (ss' := 0) (wF := (wX8 g a0 r0 x4)) [0, 1, 2, 3, 4, 5, 6, 7, 8, 9, 10, 11, 12, 13, 14] rfl rfl ?_)
        refine z_aload_n (pc := 35) (x := a0) C dX8_follow_35 (i := 0) rfl rfl ?_
        replace h := ob_e h
        obtain ⟨x5, hx5, h⟩ := h
        refine z_callV (pc := 36) (As := []) (rest := []) (wr := ([] : va_W)) C dX8_follow_36 ml_RX8_334 wv_X8_follows (m_X8_follows (a0 := a0) (r0 := r0) hg hx5) [0, 1, 2, 3, 4, 5, 6, 7, 8, 9, 10, 11, 12, 13, 14] [] rfl rfl ⟨by decide, by decide⟩ (Nat.le_of_ble_eq_true rfl) ⟨by decide, by decide⟩ rfl rfl rfl rfl rfl rfl rfl (by decide) (ex_k C (cs' := 0) (ss' := 0) (wF := (wX8 g a0 r0 x5)) [0, 1, 2, 3, 4, 5, 6, 7, 8, 9, 10, 11, 12, 13, 14] rfl rfl ?_)
        refine z_iinc (pc := 39) C dX8_follow_39 rfl (inc_e 1 (1 : Int32) ic_1 v2) (by decide) (lv' := [(2, .int (v2 + (1 : Int32))), (0, .ref a0), (1, .int p1)]) rfl ?_
        refine z_goto (pc := 42) C dX8_follow_42 (tgt := 19) (by decide) ?_
        refine z_lv (lv' := [(0, .ref a0), (1, .int p1), (2, .int (v2 + (1 : Int32)))]) [1, 2, 0] rfl ?_
        exact hk19 (v2 + (1 : Int32)) x5 h
def f_X8_follow (N : Nat) (s0 : Ob) (p1 : Int32) : Option (Int32 × Ob) := (ob (f_X8_in N p1 (1 : Int32) (100 : Int32)) fun x1 => (ob (f_X8_isThrown N s0 x1 (1 : Int32)) fun x2 => (if x2.1 = 0 then (f_X8_follow_19 N p1 N (0 : Int32) x2.2) else (some ((0 : Int32), x2.2)))))
theorem m_X8_follow {g : Gp} {a0 : Nat} {r0 : Nat → Nat} {N : Nat} {s0 : Ob} {p1 : Int32} {res : Int32 × Ob} (hg : Ok g) (h : f_X8_follow N s0 p1 = some res) : Ct g yX8_follow cX8_follow 3 (some .int) (zrm 9 220) [.ref a0, .int p1] (wX8 g a0 r0 s0) (exR (some (.int res.1)) (wX8 g a0 r0 res.2)) := by
  refine ct_of rfl hg (by show _ ≤ _; exact Nat.le_of_ble_eq_true rfl) (fun K C X => ?_)
  show Zs K 0 0 (wX8 g a0 r0 s0) [(0, .ref a0), (1, .int p1)] 0 []
  unfold f_X8_follow at h
  refine z_aload_n (pc := 0) (x := a0) C dX8_follow_0 (i := 0) rfl rfl ?_
  refine z_iload_n (pc := 1) (x := p1) C dX8_follow_1 (i := 1) rfl rfl ?_
  refine z_iconst (pc := 2) C dX8_follow_2 ic_1 ?_
  refine z_bipush (pc := 3) C dX8_follow_3 bp_100 ?_
  replace h := ob_e h
  obtain ⟨x1, hx1, h⟩ := h
  refine z_callS (pc := 5) (As := [.int p1, .int (1 : Int32), .int (100 : Int32)]) (rest := [.ref a0]) (wr := (wX8 g a0 r0 s0)) C dX8_follow_5 ml_RX8_62 wt_X8_in (m_X8_in hg hx1) [] [0, 1, 2, 3, 4, 5, 6, 7, 8, 9, 10, 11, 12, 13, 14] rfl rfl ⟨by decide, by decide⟩ (Nat.le_of_ble_eq_true rfl) ⟨by decide, by decide⟩ rfl rfl rfl rfl (by decide) (ex_k C (cs' := 0) (ss' := 0) (wF := (wX8 g a0 r0 s0)) [0, 1, 2, 3, 4, 5, 6, 7, 8, 9, 10, 11, 12, 13, 14] rfl rfl ?_)
  refine z_iconst (pc := 8) C dX8_follow_8 ic_1 ?_
  replace h := ob_e h
  obtain ⟨x2, hx2, h⟩ := h
  refine z_callV (pc := 9) (As := [.int x1, .int (1 : Int32)]) (rest := []) (wr := ([] : va_W)) C dX8_follow_9 ml_RX8_206 wv_X8_isThrown (m_X8_isThrown (a0 := a0) (r0 := r0) hg hx2) [0, 1, 2, 3, 4, 5, 6, 7, 8, 9, 10, 11, 12, 13, 14] [] rfl rfl ⟨by decide, by decide⟩ (Nat.le_of_ble_eq_true rfl) ⟨by decide, by decide⟩ rfl rfl rfl rfl rfl rfl rfl (by decide) (ex_k C (cs' := 0) (ss' := 0) (wF := (wX8 g a0 r0 x2.2)) [0, 1, 2, 3, 4, 5, 6, 7, 8, 9, 10, 11, 12, 13, 14] rfl rfl ?_)
  refine z_if_eq (pc := 12) C dX8_follow_12 (tgt := 17) (by decide) (fun hc => ?_) (fun hc => ?_)
  · replace h := (ite_e h).1 hc
    refine z_iconst (pc := 17) C dX8_follow_17 ic_0 ?_
    refine z_istore_n (pc := 18) C dX8_follow_18 (i := 2) rfl (by decide) (lv' := [(2, .int (0 : Int32)), (0, .ref a0), (1, .int p1)]) rfl ?_
    refine z_lv (lv' := [(0, .ref a0), (1, .int p1), (2, .int (0 : Int32))]) [1, 2, 0] rfl ?_
    exact m_X8_follow_19 (a0 := a0) (r0 := r0) hg C X N (0 : Int32) x2.2 h
  · replace h := (ite_e h).2 hc
    refine z_iconst (pc := 15) C dX8_follow_15 ic_0 ?_
    exact z_iret C X dX8_follow_16 (by rw [← Option.some.inj h]; exact ⟨rfl, rfl⟩) (by decide) (by decide)
def f_X8_foreseen_44 (N : Nat)  (s0 : Ob) : Option (Int32 × Ob) := (ob (f_X8_score N s0) fun x3 => (ob (f_X8_copies N 358 358 (s0.2.2.1 2) (s0.2.2.1 0) (0 : Int32) (0 : Int32)) fun x4 => (some (x3, (sa s0 0 x4)))))
theorem m_X8_foreseen_44 {K : Kt} {g : Gp} {a0 : Nat} {r0 : Nat → Nat} {N : Nat} {res : Int32 × Ob} (hg : Ok g) (C : Cx K g cX8_foreseen RX8 2 (zrm 9 220)) (X : Rx K (exR (some (.int res.1)) (wX8 g a0 r0 res.2)) 0 0 (some .int)) (s0 : Ob) (h : f_X8_foreseen_44 N s0 = some res) : Zs K 0 0 (wX8 g a0 r0 s0) [(0, .ref a0)] 44 [] := by
  unfold f_X8_foreseen_44 at h
  refine z_aload_n (pc := 44) (x := a0) C dX8_foreseen_44 (i := 0) rfl rfl ?_
  replace h := ob_e h
  obtain ⟨x3, hx3, h⟩ := h
  refine z_callV (pc := 45) (As := []) (rest := []) (wr := ([] : va_W)) C dX8_foreseen_45 ml_RX8_210 wv_X8_score (m_X8_score (a0 := a0) (r0 := r0) hg hx3) [0, 1, 2, 3, 4, 5, 6, 7, 8, 9, 10, 11, 12, 13, 14] [] rfl rfl ⟨by decide, by decide⟩ (Nat.le_of_ble_eq_true rfl) ⟨by decide, by decide⟩ rfl rfl rfl rfl rfl rfl rfl (by decide) (ex_k C (cs' := 0) (ss' := 0) (wF := (wX8 g a0 r0 s0)) [0, 1, 2, 3, 4, 5, 6, 7, 8, 9, 10, 11, 12, 13, 14] rfl rfl ?_)
  refine z_istore_n (pc := 48) C dX8_foreseen_48 (i := 1) rfl (by decide) (lv' := [(1, .int x3), (0, .ref a0)]) rfl ?_
  refine z_aload_n (pc := 49) (x := a0) C dX8_foreseen_49 (i := 0) rfl rfl ?_
  refine z_get (pc := 50) (v := .ref (r0 2)) C 0 dX8_foreseen_50 fl_RX8_16 rfl rfl ?_
  refine z_iconst (pc := 53) C dX8_foreseen_53 ic_0 ?_
  refine z_aload_n (pc := 54) (x := a0) C dX8_foreseen_54 (i := 0) rfl rfl ?_
  refine z_get (pc := 55) (v := .ref (r0 0)) C 0 dX8_foreseen_55 fl_RX8_9 rfl rfl ?_
  refine z_iconst (pc := 58) C dX8_foreseen_58 ic_0 ?_
  replace h := ob_e h
  obtain ⟨x4, hx4, h⟩ := h
  refine z_callS (pc := 59) (As := [.ref (r0 2), .int (0 : Int32), .ref (r0 0), .int (0 : Int32)]) (rest := []) (wr := ((((wX8 g a0 r0 s0).eraseIdx 3).eraseIdx 1))) C dX8_foreseen_59 ml_RX8_197 wt_X8_copies (m_X8_copies (a0 := (r0 2)) (a2 := (r0 0)) hg hx4) [3, 1] [0, 2, 4, 5, 6, 7, 8, 9, 10, 11, 12, 13, 14] rfl rfl ⟨by decide, by decide⟩ (Nat.le_of_ble_eq_true rfl) ⟨by decide, by decide⟩ rfl rfl rfl rfl (by decide) (ex_k C (cs' := 0) (ss' := 0) (wF := (wX8 g a0 r0 (sa s0 0 x4))) [0, 14, 1, 13, 2, 3, 4, 5, 6, 7, 8, 9, 10, 11, 12] rfl rfl ?_)
  refine z_iload_n (pc := 62) (x := x3) C dX8_foreseen_62 (i := 1) rfl rfl ?_
  exact z_iret C X dX8_foreseen_63 (by rw [← Option.some.inj h]; exact ⟨rfl, rfl⟩) (by decide) (by decide)
def F_X8_foreseen_20 (N : Nat)  (k20 : Int32 → Ob → Option (Int32 × Ob)) (v1 : Int32) (s0 : Ob) : Option (Int32 × Ob) := (if (300 : Int32) ≤ v1 then (f_X8_foreseen_44 N s0) else (ob (f_X8_isOver N s0) fun x5 => (if x5 = 0 then (ob (f_X8_follows N s0) fun x6 => (k20 (v1 + (1 : Int32)) x6)) else (f_X8_foreseen_44 N s0))))
def f_X8_foreseen_20 (N : Nat)  : Nat → Int32 → Ob → Option (Int32 × Ob) := zlp (fun _ _ => none) (F_X8_foreseen_20 N)
theorem m_X8_foreseen_20 {K : Kt} {g : Gp} {a0 : Nat} {r0 : Nat → Nat} {N : Nat} {res : Int32 × Ob} (hg : Ok g) (C : Cx K g cX8_foreseen RX8 2 (zrm 9 220)) (X : Rx K (exR (some (.int res.1)) (wX8 g a0 r0 res.2)) 0 0 (some .int)) : ∀ (n : Nat) (v1 : Int32) (s0 : Ob), f_X8_foreseen_20 N n v1 s0 = some res → Zs K 0 0 (wX8 g a0 r0 s0) [(0, .ref a0), (1, .int v1)] 20 [] := by
  intro n
  induction n with
  | zero => intro v1 s0 h; exact nomatch (show (none : Option (Int32 × Ob)) = some res from h)
  | succ n hk20 =>
    intro v1 s0 h
    replace h : F_X8_foreseen_20 N (f_X8_foreseen_20 N n) v1 s0 = some res := h
    unfold F_X8_foreseen_20 at h
    refine z_iload_n (pc := 20) (x := v1) C dX8_foreseen_20 (i := 1) rfl rfl ?_
    refine z_sipush (pc := 21) C dX8_foreseen_21 sp_300 ?_
    refine z_icmp_ge (pc := 24) C dX8_foreseen_24 (tgt := 44) (by decide) (fun hc => ?_) (fun hc => ?_)
    · replace h := (ite_e h).1 hc
      refine z_lv (lv' := [(0, .ref a0)]) [0] rfl ?_
      exact m_X8_foreseen_44 (a0 := a0) (r0 := r0) hg C X s0 h
    · replace h := (ite_e h).2 hc
      refine z_aload_n (pc := 27) (x := a0) C dX8_foreseen_27 (i := 0) rfl rfl ?_
      replace h := ob_e h
      obtain ⟨x5, hx5, h⟩ := h
      refine z_callV (pc := 28) (As := []) (rest := []) (wr := ([] : va_W)) C dX8_foreseen_28 ml_RX8_299 wv_X8_isOver (m_X8_isOver (a0 := a0) (r0 := r0) hg hx5) [0, 1, 2, 3, 4, 5, 6, 7, 8, 9, 10, 11, 12, 13, 14] [] rfl rfl ⟨by decide, by decide⟩ (Nat.le_of_ble_eq_true rfl) ⟨by decide, by decide⟩ rfl rfl rfl rfl rfl rfl rfl (by decide) (ex_k C (cs' := 0) (ss' := 0) (wF := (wX8 g a0 r0 s0)) [0, 1, 2, 3, 4, 5, 6, 7, 8, 9, 10, 11, 12, 13, 14] rfl rfl ?_)
      refine z_if_ne (pc := 31) C dX8_foreseen_31 (tgt := 44) (by decide) (fun hc => ?_) (fun hc => ?_)
      · replace h := (ite_e h).2 hc
        refine z_lv (lv' := [(0, .ref a0)]) [0] rfl ?_
        exact m_X8_foreseen_44 (a0 := a0) (r0 := r0) hg C X s0 h
      · replace h := (ite_e h).1 hc
        refine z_aload_n (pc := 34) (x := a0) C dX8_foreseen_34 (i := 0) rfl rfl ?_
        replace h := ob_e h
        obtain ⟨x6, hx6, h⟩ := h
        refine z_callV (pc := 35) (As := []) (rest := []) (wr := ([] : va_W)) C dX8_foreseen_35 ml_RX8_334 wv_X8_follows (m_X8_follows (a0 := a0) (r0 := r0) hg hx6) [0, 1, 2, 3, 4, 5, 6, 7, 8, 9, 10, 11, 12, 13, 14] [] rfl rfl ⟨by decide, by decide⟩ (Nat.le_of_ble_eq_true rfl) ⟨by decide, by decide⟩ rfl rfl rfl rfl rfl rfl rfl (by decide) (ex_k C (cs' := 0) (ss' := 0) (wF := (wX8 g a0 r0 x6)) [0, 1, 2, 3, 4, 5, 6, 7, 8, 9, 10, 11, 12, 13, 14] rfl rfl ?_)
        refine z_iinc (pc := 38) C dX8_foreseen_38 rfl (inc_e 1 (1 : Int32) ic_1 v1) (by decide) (lv' := [(1, .int (v1 + (1 : Int32))), (0, .ref a0)]) rfl ?_
        refine z_goto (pc := 41) C dX8_foreseen_41 (tgt := 20) (by decide) ?_
        refine z_lv (lv' := [(0, .ref a0), (1, .int (v1 + (1 : Int32)))]) [1, 0] rfl ?_
        exact hk20 (v1 + (1 : Int32)) x6 h
def f_X8_foreseen (N : Nat) (s0 : Ob) : Option (Int32 × Ob) := (znm (si s0 7 (0 : Int32)) fun y1 => (ob (f_X8_copies N 358 358 (y1.2.2.1 0) (y1.2.2.1 2) (0 : Int32) (0 : Int32)) fun x2 => (f_X8_foreseen_20 N N (0 : Int32) (sa y1 2 x2))))
theorem m_X8_foreseen {g : Gp} {a0 : Nat} {r0 : Nat → Nat} {N : Nat} {s0 : Ob} {res : Int32 × Ob} (hg : Ok g) (h : f_X8_foreseen N s0 = some res) : Ct g yX8_foreseen cX8_foreseen 2 (some .int) (zrm 9 220) [.ref a0] (wX8 g a0 r0 s0) (exR (some (.int res.1)) (wX8 g a0 r0 res.2)) := by
  refine ct_of rfl hg (by show _ ≤ _; exact Nat.le_of_ble_eq_true rfl) (fun K C X => ?_)
  show Zs K 0 0 (wX8 g a0 r0 s0) [(0, .ref a0)] 0 []
  unfold f_X8_foreseen at h
  refine z_aload_n (pc := 0) (x := a0) C dX8_foreseen_0 (i := 0) rfl rfl ?_
  refine z_iconst (pc := 1) C dX8_foreseen_1 ic_0 ?_
  refine z_put (pc := 2) C 0 dX8_foreseen_2 fp_RX8_59 rfl rfl rfl (zlt_b rfl) (ws' := (wX8 g a0 r0 (si s0 7 (0 : Int32)))) rfl ?_
  refine z_aload_n (pc := 5) (x := a0) C dX8_foreseen_5 (i := 0) rfl rfl ?_
  refine z_get (pc := 6) (v := .ref (r0 0)) C 0 dX8_foreseen_6 fl_RX8_9 rfl rfl ?_
  refine z_iconst (pc := 9) C dX8_foreseen_9 ic_0 ?_
  refine z_aload_n (pc := 10) (x := a0) C dX8_foreseen_10 (i := 0) rfl rfl ?_
  refine z_get (pc := 11) (v := .ref (r0 2)) C 0 dX8_foreseen_11 fl_RX8_16 rfl rfl ?_
  refine z_iconst (pc := 14) C dX8_foreseen_14 ic_0 ?_
  replace h := znm_e h
  obtain ⟨y1, hy1, h⟩ := h
  refine z_wsE (ws' := (wX8 g a0 r0 y1)) (by rw [hy1]) ?_
  replace h := ob_e h
  obtain ⟨x2, hx2, h⟩ := h
  refine z_callS (pc := 15) (As := [.ref (r0 0), .int (0 : Int32), .ref (r0 2), .int (0 : Int32)]) (rest := []) (wr := ((((wX8 g a0 r0 y1).eraseIdx 3).eraseIdx 1))) C dX8_foreseen_15 ml_RX8_197 wt_X8_copies (m_X8_copies (a0 := (r0 0)) (a2 := (r0 2)) hg hx2) [1, 3] [0, 2, 4, 5, 6, 7, 8, 9, 10, 11, 12, 13, 14] rfl rfl ⟨by decide, by decide⟩ (Nat.le_of_ble_eq_true rfl) ⟨by decide, by decide⟩ rfl rfl rfl rfl (by decide) (ex_k C (cs' := 0) (ss' := 0) (wF := (wX8 g a0 r0 (sa y1 2 x2))) [0, 13, 1, 14, 2, 3, 4, 5, 6, 7, 8, 9, 10, 11, 12] rfl rfl ?_)
  refine z_iconst (pc := 18) C dX8_foreseen_18 ic_0 ?_
  refine z_istore_n (pc := 19) C dX8_foreseen_19 (i := 1) rfl (by decide) (lv' := [(1, .int (0 : Int32)), (0, .ref a0)]) rfl ?_
  refine z_lv (lv' := [(0, .ref a0), (1, .int (0 : Int32))]) [1, 0] rfl ?_
  exact m_X8_foreseen_20 (a0 := a0) (r0 := r0) hg C X N (0 : Int32) (sa y1 2 x2) h
def f_X8_boundOf_54 (N : Nat) (s0 : Ob) (k4 : Int32 → Int32 → Option (Int32)) (v1 : Int32) (v2 : Int32) (v3 : Int32) : Option (Int32) := (k4 (v1 + v3) (v2 + (1 : Int32)))
theorem m_X8_boundOf_54 {K : Kt} {g : Gp} {a0 : Nat} {r0 : Nat → Nat} {N : Nat} {s0 : Ob} {res : Int32} (hg : Ok g) (C : Cx K g cX8_boundOf RX8 4 (zrm 2 45)) (X : Rx K (exR (some (.int res)) (wX8 g a0 r0 s0)) 0 0 (some .int)) {k4 : Int32 → Int32 → Option (Int32)} (hk4 : ∀ (v1 : Int32) (v2 : Int32), k4 v1 v2 = some res → Zs K 0 0 (wX8 g a0 r0 s0) [(0, .ref a0), (1, .int v1), (2, .int v2)] 4 []) (v1 : Int32) (v2 : Int32) (v3 : Int32) (h : f_X8_boundOf_54 N s0 k4 v1 v2 v3 = some res) : Zs K 0 0 (wX8 g a0 r0 s0) [(0, .ref a0), (1, .int v1), (2, .int v2), (3, .int v3)] 54 [] := by
  unfold f_X8_boundOf_54 at h
  refine z_iload_n (pc := 54) (x := v1) C dX8_boundOf_54 (i := 1) rfl rfl ?_
  refine z_iload_n (pc := 55) (x := v3) C dX8_boundOf_55 (i := 3) rfl rfl ?_
  refine z_iadd (pc := 56) C dX8_boundOf_56 ?_
  refine z_istore_n (pc := 57) C dX8_boundOf_57 (i := 1) rfl (by decide) (lv' := [(1, .int (v1 + v3)), (0, .ref a0), (2, .int v2), (3, .int v3)]) rfl ?_
  refine z_iinc (pc := 58) C dX8_boundOf_58 rfl (inc_e 1 (1 : Int32) ic_1 v2) (by decide) (lv' := [(2, .int (v2 + (1 : Int32))), (1, .int (v1 + v3)), (0, .ref a0), (3, .int v3)]) rfl ?_
  refine z_goto (pc := 61) C dX8_boundOf_61 (tgt := 4) (by decide) ?_
  refine z_lv (lv' := [(0, .ref a0), (1, .int (v1 + v3)), (2, .int (v2 + (1 : Int32)))]) [2, 1, 0] rfl ?_
  exact hk4 (v1 + v3) (v2 + (1 : Int32)) h
def F_X8_boundOf_24 (N : Nat) (s0 : Ob) (k4 : Int32 → Int32 → Option (Int32)) (k24 : Int32 → Int32 → Int32 → Option (Int32)) (v1 : Int32) (v2 : Int32) (v3 : Int32) : Option (Int32) := (if ((s0.2.2.1 0) 1) ≤ v3 then (f_X8_boundOf_54 N s0 k4 v1 v2 v3) else (ob (f_X8_kind N v2 (v3 + (1 : Int32))) fun x2 => (ob (f_X8_isGone N s0 x2) fun x3 => (if x3 = 0 then (k24 v1 v2 (v3 + (1 : Int32))) else (f_X8_boundOf_54 N s0 k4 v1 v2 v3)))))
def f_X8_boundOf_24 (N : Nat) (s0 : Ob) (k4 : Int32 → Int32 → Option (Int32)) : Nat → Int32 → Int32 → Int32 → Option (Int32) := zlp (fun _ _ _ => none) (F_X8_boundOf_24 N s0 k4)
theorem m_X8_boundOf_24 {K : Kt} {g : Gp} {a0 : Nat} {r0 : Nat → Nat} {N : Nat} {s0 : Ob} {res : Int32} (hg : Ok g) (C : Cx K g cX8_boundOf RX8 4 (zrm 2 45)) (X : Rx K (exR (some (.int res)) (wX8 g a0 r0 s0)) 0 0 (some .int)) {k4 : Int32 → Int32 → Option (Int32)} (hk4 : ∀ (v1 : Int32) (v2 : Int32), k4 v1 v2 = some res → Zs K 0 0 (wX8 g a0 r0 s0) [(0, .ref a0), (1, .int v1), (2, .int v2)] 4 []) : ∀ (n : Nat) (v1 : Int32) (v2 : Int32) (v3 : Int32), f_X8_boundOf_24 N s0 k4 n v1 v2 v3 = some res → Zs K 0 0 (wX8 g a0 r0 s0) [(0, .ref a0), (1, .int v1), (2, .int v2), (3, .int v3)] 24 [] := by
  intro n
  induction n with
  | zero => intro v1 v2 v3 h; exact nomatch (show (none : Option (Int32)) = some res from h)
  | succ n hk24 =>
    intro v1 v2 v3 h
    replace h : F_X8_boundOf_24 N s0 k4 (f_X8_boundOf_24 N s0 k4 n) v1 v2 v3 = some res := h
    unfold F_X8_boundOf_24 at h
    refine z_iload_n (pc := 24) (x := v3) C dX8_boundOf_24 (i := 3) rfl rfl ?_
    refine z_aload_n (pc := 25) (x := a0) C dX8_boundOf_25 (i := 0) rfl rfl ?_
    refine z_get (pc := 26) (v := .ref (r0 0)) C 0 dX8_boundOf_26 fl_RX8_9 rfl rfl ?_
    refine z_iconst (pc := 29) C dX8_boundOf_29 ic_1 ?_
    refine z_iald (pc := 30) C 1 dX8_boundOf_30 rfl (by decide) ?_
    refine z_top1 (v := ((s0.2.2.1 0) 1)) rfl ?_
    refine z_icmp_ge (pc := 31) C dX8_boundOf_31 (tgt := 54) (by decide) (fun hc => ?_) (fun hc => ?_)
    · replace h := (ite_e h).1 hc
      exact m_X8_boundOf_54 (a0 := a0) (r0 := r0) hg C X hk4 v1 v2 v3 h
    · replace h := (ite_e h).2 hc
      refine z_aload_n (pc := 34) (x := a0) C dX8_boundOf_34 (i := 0) rfl rfl ?_
      refine z_iload_n (pc := 35) (x := v2) C dX8_boundOf_35 (i := 2) rfl rfl ?_
      refine z_iload_n (pc := 36) (x := v3) C dX8_boundOf_36 (i := 3) rfl rfl ?_
      refine z_iconst (pc := 37) C dX8_boundOf_37 ic_1 ?_
      refine z_iadd (pc := 38) C dX8_boundOf_38 ?_
      replace h := ob_e h
      obtain ⟨x2, hx2, h⟩ := h
      refine z_callS (pc := 39) (As := [.int v2, .int (v3 + (1 : Int32))]) (rest := [.ref a0]) (wr := (wX8 g a0 r0 s0)) C dX8_boundOf_39 ml_RX8_136 wt_X8_kind (m_X8_kind hg hx2) [] [0, 1, 2, 3, 4, 5, 6, 7, 8, 9, 10, 11, 12, 13, 14] rfl rfl ⟨by decide, by decide⟩ (Nat.le_of_ble_eq_true rfl) ⟨by decide, by decide⟩ rfl rfl rfl rfl (by decide) (ex_k C (cs' := 0) (ss' := 0) (wF := (wX8 g a0 r0 s0)) [0, 1, 2, 3, 4, 5, 6, 7, 8, 9, 10, 11, 12, 13, 14] rfl rfl ?_)
      replace h := ob_e h
      obtain ⟨x3, hx3, h⟩ := h
      refine z_callV (pc := 42) (As := [.int x2]) (rest := []) (wr := ([] : va_W)) C dX8_boundOf_42 ml_RX8_232 wv_X8_isGone (m_X8_isGone (a0 := a0) (r0 := r0) hg hx3) [0, 1, 2, 3, 4, 5, 6, 7, 8, 9, 10, 11, 12, 13, 14] [] rfl rfl ⟨by decide, by decide⟩ (Nat.le_of_ble_eq_true rfl) ⟨by decide, by decide⟩ rfl rfl rfl rfl rfl rfl rfl (by decide) (ex_k C (cs' := 0) (ss' := 0) (wF := (wX8 g a0 r0 s0)) [0, 1, 2, 3, 4, 5, 6, 7, 8, 9, 10, 11, 12, 13, 14] rfl rfl ?_)
      refine z_if_ne (pc := 45) C dX8_boundOf_45 (tgt := 54) (by decide) (fun hc => ?_) (fun hc => ?_)
      · replace h := (ite_e h).2 hc
        exact m_X8_boundOf_54 (a0 := a0) (r0 := r0) hg C X hk4 v1 v2 v3 h
      · replace h := (ite_e h).1 hc
        refine z_iinc (pc := 48) C dX8_boundOf_48 rfl (inc_e 1 (1 : Int32) ic_1 v3) (by decide) (lv' := [(3, .int (v3 + (1 : Int32))), (0, .ref a0), (1, .int v1), (2, .int v2)]) rfl ?_
        refine z_goto (pc := 51) C dX8_boundOf_51 (tgt := 24) (by decide) ?_
        refine z_lv (lv' := [(0, .ref a0), (1, .int v1), (2, .int v2), (3, .int (v3 + (1 : Int32)))]) [1, 2, 3, 0] rfl ?_
        exact hk24 v1 v2 (v3 + (1 : Int32)) h
def F_X8_boundOf_4 (N : Nat) (s0 : Ob)  (k4 : Int32 → Int32 → Option (Int32)) (v1 : Int32) (v2 : Int32) : Option (Int32) := (if ((s0.2.2.1 0) 0) ≤ v2 then (some v1) else (chk (inb ((14 : Int32) + v2) 358) (f_X8_boundOf_24 N s0 k4 N v1 v2 ((s0.2.2.1 0) (((14 : Int32) + v2)).toNatClampNeg))))
def f_X8_boundOf_4 (N : Nat) (s0 : Ob)  : Nat → Int32 → Int32 → Option (Int32) := zlp (fun _ _ => none) (F_X8_boundOf_4 N s0)
theorem m_X8_boundOf_4 {K : Kt} {g : Gp} {a0 : Nat} {r0 : Nat → Nat} {N : Nat} {s0 : Ob} {res : Int32} (hg : Ok g) (C : Cx K g cX8_boundOf RX8 4 (zrm 2 45)) (X : Rx K (exR (some (.int res)) (wX8 g a0 r0 s0)) 0 0 (some .int)) : ∀ (n : Nat) (v1 : Int32) (v2 : Int32), f_X8_boundOf_4 N s0 n v1 v2 = some res → Zs K 0 0 (wX8 g a0 r0 s0) [(0, .ref a0), (1, .int v1), (2, .int v2)] 4 [] := by
  intro n
  induction n with
  | zero => intro v1 v2 h; exact nomatch (show (none : Option (Int32)) = some res from h)
  | succ n hk4 =>
    intro v1 v2 h
    replace h : F_X8_boundOf_4 N s0 (f_X8_boundOf_4 N s0 n) v1 v2 = some res := h
    unfold F_X8_boundOf_4 at h
    refine z_iload_n (pc := 4) (x := v2) C dX8_boundOf_4 (i := 2) rfl rfl ?_
    refine z_aload_n (pc := 5) (x := a0) C dX8_boundOf_5 (i := 0) rfl rfl ?_
    refine z_get (pc := 6) (v := .ref (r0 0)) C 0 dX8_boundOf_6 fl_RX8_9 rfl rfl ?_
    refine z_iconst (pc := 9) C dX8_boundOf_9 ic_0 ?_
    refine z_iald (pc := 10) C 1 dX8_boundOf_10 rfl (by decide) ?_
    refine z_top1 (v := ((s0.2.2.1 0) 0)) rfl ?_
    refine z_icmp_ge (pc := 11) C dX8_boundOf_11 (tgt := 64) (by decide) (fun hc => ?_) (fun hc => ?_)
    · replace h := (ite_e h).1 hc
      refine z_iload_n (pc := 64) (x := v1) C dX8_boundOf_64 (i := 1) rfl rfl ?_
      exact z_iret C X dX8_boundOf_65 (by rw [← Option.some.inj h]; exact ⟨rfl, rfl⟩) (by decide) (by decide)
    · replace h := (ite_e h).2 hc
      refine z_aload_n (pc := 14) (x := a0) C dX8_boundOf_14 (i := 0) rfl rfl ?_
      refine z_get (pc := 15) (v := .ref (r0 0)) C 0 dX8_boundOf_15 fl_RX8_9 rfl rfl ?_
      refine z_bipush (pc := 18) C dX8_boundOf_18 bp_14 ?_
      refine z_iload_n (pc := 20) (x := v2) C dX8_boundOf_20 (i := 2) rfl rfl ?_
      refine z_iadd (pc := 21) C dX8_boundOf_21 ?_
      replace h := chk_e h
      obtain ⟨hb1, h⟩ := h
      refine z_iald (pc := 22) C 1 dX8_boundOf_22 rfl hb1 ?_
      refine z_istore_n (pc := 23) C dX8_boundOf_23 (i := 3) rfl (by decide) (lv' := [(3, .int ((s0.2.2.1 0) (((14 : Int32) + v2)).toNatClampNeg)), (0, .ref a0), (1, .int v1), (2, .int v2)]) rfl ?_
      refine z_lv (lv' := [(0, .ref a0), (1, .int v1), (2, .int v2), (3, .int ((s0.2.2.1 0) (((14 : Int32) + v2)).toNatClampNeg))]) [1, 2, 3, 0] rfl ?_
      exact m_X8_boundOf_24 (a0 := a0) (r0 := r0) hg C X hk4 N v1 v2 ((s0.2.2.1 0) (((14 : Int32) + v2)).toNatClampNeg) h
def f_X8_boundOf (N : Nat) (s0 : Ob) : Option (Int32) := (f_X8_boundOf_4 N s0 N (0 : Int32) (0 : Int32))
theorem m_X8_boundOf {g : Gp} {a0 : Nat} {r0 : Nat → Nat} {N : Nat} {s0 : Ob} {res : Int32} (hg : Ok g) (h : f_X8_boundOf N s0 = some res) : Ct g yX8_boundOf cX8_boundOf 4 (some .int) (zrm 2 45) [.ref a0] (wX8 g a0 r0 s0) (exR (some (.int res)) (wX8 g a0 r0 s0)) := by
  refine ct_of rfl hg (by show _ ≤ _; exact Nat.le_of_ble_eq_true rfl) (fun K C X => ?_)
  show Zs K 0 0 (wX8 g a0 r0 s0) [(0, .ref a0)] 0 []
  unfold f_X8_boundOf at h
  refine z_iconst (pc := 0) C dX8_boundOf_0 ic_0 ?_
  refine z_istore_n (pc := 1) C dX8_boundOf_1 (i := 1) rfl (by decide) (lv' := [(1, .int (0 : Int32)), (0, .ref a0)]) rfl ?_
  refine z_iconst (pc := 2) C dX8_boundOf_2 ic_0 ?_
  refine z_istore_n (pc := 3) C dX8_boundOf_3 (i := 2) rfl (by decide) (lv' := [(2, .int (0 : Int32)), (1, .int (0 : Int32)), (0, .ref a0)]) rfl ?_
  refine z_lv (lv' := [(0, .ref a0), (1, .int (0 : Int32)), (2, .int (0 : Int32))]) [2, 1, 0] rfl ?_
  exact m_X8_boundOf_4 (a0 := a0) (r0 := r0) hg C X N (0 : Int32) (0 : Int32) h
def f_X8_bound (N : Nat) (s0 : Ob) : Option (Int32 × Ob) := (ob (f_X8_boundOf N (si s0 7 (0 : Int32))) fun x1 => (some (x1, (si s0 7 (0 : Int32)))))
theorem m_X8_bound {g : Gp} {a0 : Nat} {r0 : Nat → Nat} {N : Nat} {s0 : Ob} {res : Int32 × Ob} (hg : Ok g) (h : f_X8_bound N s0 = some res) : Ct g yX8_bound cX8_bound 1 (some .int) (zrm 3 68) [.ref a0] (wX8 g a0 r0 s0) (exR (some (.int res.1)) (wX8 g a0 r0 res.2)) := by
  refine ct_of rfl hg (by show _ ≤ _; exact Nat.le_of_ble_eq_true rfl) (fun K C X => ?_)
  show Zs K 0 0 (wX8 g a0 r0 s0) [(0, .ref a0)] 0 []
  unfold f_X8_bound at h
  refine z_aload_n (pc := 0) (x := a0) C dX8_bound_0 (i := 0) rfl rfl ?_
  refine z_iconst (pc := 1) C dX8_bound_1 ic_0 ?_
  refine z_put (pc := 2) C 0 dX8_bound_2 fp_RX8_59 rfl rfl rfl (zlt_b rfl) (ws' := (wX8 g a0 r0 (si s0 7 (0 : Int32)))) rfl ?_
  refine z_aload_n (pc := 5) (x := a0) C dX8_bound_5 (i := 0) rfl rfl ?_
  replace h := ob_e h
  obtain ⟨x1, hx1, h⟩ := h
  refine z_callV (pc := 6) (As := []) (rest := []) (wr := ([] : va_W)) C dX8_bound_6 ml_RX8_337 wv_X8_boundOf (m_X8_boundOf (a0 := a0) (r0 := r0) hg hx1) [0, 1, 2, 3, 4, 5, 6, 7, 8, 9, 10, 11, 12, 13, 14] [] rfl rfl ⟨by decide, by decide⟩ (Nat.le_of_ble_eq_true rfl) ⟨by decide, by decide⟩ rfl rfl rfl rfl rfl rfl rfl (by decide) (ex_k C (cs' := 0) (ss' := 0) (wF := (wX8 g a0 r0 (si s0 7 (0 : Int32)))) [0, 1, 2, 3, 4, 5, 6, 7, 8, 9, 10, 11, 12, 13, 14] rfl rfl ?_)
  exact z_iret C X dX8_bound_9 (by rw [← Option.some.inj h]; exact ⟨rfl, rfl⟩) (by decide) (by decide)
def f_X8_pace (N : Nat) (s0 : Ob) : Option (Int32 × Ob) := (ob (f_X8_score N (si s0 7 (0 : Int32))) fun x1 => (ob (f_X8_boundOf N (si s0 7 (0 : Int32))) fun x2 => (znm ((((x1 + ((s0.2.2.1 0) 4)) - ((s0.2.2.1 0) 5)) + ((s0.2.2.1 0) 2)) - x2) fun x3 => (some (x3, (si s0 7 (0 : Int32)))))))
theorem m_X8_pace {g : Gp} {a0 : Nat} {r0 : Nat → Nat} {N : Nat} {s0 : Ob} {res : Int32 × Ob} (hg : Ok g) (h : f_X8_pace N s0 = some res) : Ct g yX8_pace cX8_pace 1 (some .int) (zrm 3 68) [.ref a0] (wX8 g a0 r0 s0) (exR (some (.int res.1)) (wX8 g a0 r0 res.2)) := by
  refine ct_of rfl hg (by show _ ≤ _; exact Nat.le_of_ble_eq_true rfl) (fun K C X => ?_)
  show Zs K 0 0 (wX8 g a0 r0 s0) [(0, .ref a0)] 0 []
  unfold f_X8_pace at h
  refine z_aload_n (pc := 0) (x := a0) C dX8_pace_0 (i := 0) rfl rfl ?_
  refine z_iconst (pc := 1) C dX8_pace_1 ic_0 ?_
  refine z_put (pc := 2) C 0 dX8_pace_2 fp_RX8_59 rfl rfl rfl (zlt_b rfl) (ws' := (wX8 g a0 r0 (si s0 7 (0 : Int32)))) rfl ?_
  refine z_aload_n (pc := 5) (x := a0) C dX8_pace_5 (i := 0) rfl rfl ?_
  replace h := ob_e h
  obtain ⟨x1, hx1, h⟩ := h
  refine z_callV (pc := 6) (As := []) (rest := []) (wr := ([] : va_W)) C dX8_pace_6 ml_RX8_210 wv_X8_score (m_X8_score (a0 := a0) (r0 := r0) hg hx1) [0, 1, 2, 3, 4, 5, 6, 7, 8, 9, 10, 11, 12, 13, 14] [] rfl rfl ⟨by decide, by decide⟩ (Nat.le_of_ble_eq_true rfl) ⟨by decide, by decide⟩ rfl rfl rfl rfl rfl rfl rfl (by decide) (ex_k C (cs' := 0) (ss' := 0) (wF := (wX8 g a0 r0 (si s0 7 (0 : Int32)))) [0, 1, 2, 3, 4, 5, 6, 7, 8, 9, 10, 11, 12, 13, 14] rfl rfl ?_)
  refine z_aload_n (pc := 9) (x := a0) C dX8_pace_9 (i := 0) rfl rfl ?_
  refine z_get (pc := 10) (v := .ref (r0 0)) C 0 dX8_pace_10 fl_RX8_9 rfl rfl ?_
  refine z_iconst (pc := 13) C dX8_pace_13 ic_4 ?_
  refine z_iald (pc := 14) C 1 dX8_pace_14 rfl (by decide) ?_
  refine z_top1 (v := ((s0.2.2.1 0) 4)) rfl ?_
  refine z_iadd (pc := 15) C dX8_pace_15 ?_
  refine z_aload_n (pc := 16) (x := a0) C dX8_pace_16 (i := 0) rfl rfl ?_
  refine z_get (pc := 17) (v := .ref (r0 0)) C 0 dX8_pace_17 fl_RX8_9 rfl rfl ?_
  refine z_iconst (pc := 20) C dX8_pace_20 ic_5 ?_
  refine z_iald (pc := 21) C 1 dX8_pace_21 rfl (by decide) ?_
  refine z_top1 (v := ((s0.2.2.1 0) 5)) rfl ?_
  refine z_isub (pc := 22) C dX8_pace_22 ?_
  refine z_aload_n (pc := 23) (x := a0) C dX8_pace_23 (i := 0) rfl rfl ?_
  refine z_get (pc := 24) (v := .ref (r0 0)) C 0 dX8_pace_24 fl_RX8_9 rfl rfl ?_
  refine z_iconst (pc := 27) C dX8_pace_27 ic_2 ?_
  refine z_iald (pc := 28) C 1 dX8_pace_28 rfl (by decide) ?_
  refine z_top1 (v := ((s0.2.2.1 0) 2)) rfl ?_
  refine z_iadd (pc := 29) C dX8_pace_29 ?_
  refine z_aload_n (pc := 30) (x := a0) C dX8_pace_30 (i := 0) rfl rfl ?_
  replace h := ob_e h
  obtain ⟨x2, hx2, h⟩ := h
  refine z_callV (pc := 31) (As := []) (rest := [.int (((x1 + ((s0.2.2.1 0) 4)) - ((s0.2.2.1 0) 5)) + ((s0.2.2.1 0) 2))]) (wr := ([] : va_W)) C dX8_pace_31 ml_RX8_337 wv_X8_boundOf (m_X8_boundOf (a0 := a0) (r0 := r0) hg hx2) [0, 1, 2, 3, 4, 5, 6, 7, 8, 9, 10, 11, 12, 13, 14] [] rfl rfl ⟨by decide, by decide⟩ (Nat.le_of_ble_eq_true rfl) ⟨by decide, by decide⟩ rfl rfl rfl rfl rfl rfl rfl (by decide) (ex_k C (cs' := 0) (ss' := 0) (wF := (wX8 g a0 r0 (si s0 7 (0 : Int32)))) [0, 1, 2, 3, 4, 5, 6, 7, 8, 9, 10, 11, 12, 13, 14] rfl rfl ?_)
  refine z_isub (pc := 34) C dX8_pace_34 ?_
  replace h := znm_e h
  obtain ⟨x3, hx3, h⟩ := h
  refine z_top1 hx3 ?_
  exact z_iret C X dX8_pace_35 (by rw [← Option.some.inj h]; exact ⟨rfl, rfl⟩) (by decide) (by decide)
def F_X8_packed_38 (N : Nat) (s0 : Ob)  (k38 : Int32 → Int32 → Option (Int32)) (v1 : Int32) (v2 : Int32) : Option (Int32) := (if (4 : Int32) ≤ v2 then (some v1) else (chk (inb v2 4) (k38 (((8 : Int32) * v1) + ((s0.2.2.1 24) (v2).toNatClampNeg)) (v2 + (1 : Int32)))))
def f_X8_packed_38 (N : Nat) (s0 : Ob)  : Nat → Int32 → Int32 → Option (Int32) := zlp (fun _ _ => none) (F_X8_packed_38 N s0)
theorem m_X8_packed_38 {K : Kt} {g : Gp} {a0 : Nat} {r0 : Nat → Nat} {N : Nat} {s0 : Ob} {res : Int32} (hg : Ok g) (C : Cx K g cX8_packed RX8 3 (zrm 0 0)) (X : Rx K (exR (some (.int res)) (wX8 g a0 r0 s0)) 0 0 (some .int)) : ∀ (n : Nat) (v1 : Int32) (v2 : Int32), f_X8_packed_38 N s0 n v1 v2 = some res → Zs K 0 0 (wX8 g a0 r0 s0) [(0, .ref a0), (1, .int v1), (2, .int v2)] 38 [] := by
  intro n
  induction n with
  | zero => intro v1 v2 h; exact nomatch (show (none : Option (Int32)) = some res from h)
  | succ n hk38 =>
    intro v1 v2 h
    replace h : F_X8_packed_38 N s0 (f_X8_packed_38 N s0 n) v1 v2 = some res := h
    unfold F_X8_packed_38 at h
    refine z_iload_n (pc := 38) (x := v2) C dX8_packed_38 (i := 2) rfl rfl ?_
    refine z_iconst (pc := 39) C dX8_packed_39 ic_4 ?_
    refine z_icmp_ge (pc := 40) C dX8_packed_40 (tgt := 61) (by decide) (fun hc => ?_) (fun hc => ?_)
    · replace h := (ite_e h).1 hc
      refine z_iload_n (pc := 61) (x := v1) C dX8_packed_61 (i := 1) rfl rfl ?_
      exact z_iret C X dX8_packed_62 (by rw [← Option.some.inj h]; exact ⟨rfl, rfl⟩) (by decide) (by decide)
    · replace h := (ite_e h).2 hc
      refine z_bipush (pc := 43) C dX8_packed_43 bp_8 ?_
      refine z_iload_n (pc := 45) (x := v1) C dX8_packed_45 (i := 1) rfl rfl ?_
      refine z_imul (pc := 46) C dX8_packed_46 ?_
      refine z_aload_n (pc := 47) (x := a0) C dX8_packed_47 (i := 0) rfl rfl ?_
      refine z_get (pc := 48) (v := .ref (r0 24)) C 0 dX8_packed_48 fl_RX8_53 rfl rfl ?_
      refine z_iload_n (pc := 51) (x := v2) C dX8_packed_51 (i := 2) rfl rfl ?_
      replace h := chk_e h
      obtain ⟨hb2, h⟩ := h
      refine z_iald (pc := 52) C 13 dX8_packed_52 rfl hb2 ?_
      refine z_iadd (pc := 53) C dX8_packed_53 ?_
      refine z_istore_n (pc := 54) C dX8_packed_54 (i := 1) rfl (by decide) (lv' := [(1, .int (((8 : Int32) * v1) + ((s0.2.2.1 24) (v2).toNatClampNeg))), (0, .ref a0), (2, .int v2)]) rfl ?_
      refine z_iinc (pc := 55) C dX8_packed_55 rfl (inc_e 1 (1 : Int32) ic_1 v2) (by decide) (lv' := [(2, .int (v2 + (1 : Int32))), (1, .int (((8 : Int32) * v1) + ((s0.2.2.1 24) (v2).toNatClampNeg))), (0, .ref a0)]) rfl ?_
      refine z_goto (pc := 58) C dX8_packed_58 (tgt := 38) (by decide) ?_
      refine z_lv (lv' := [(0, .ref a0), (1, .int (((8 : Int32) * v1) + ((s0.2.2.1 24) (v2).toNatClampNeg))), (2, .int (v2 + (1 : Int32)))]) [2, 1, 0] rfl ?_
      exact hk38 (((8 : Int32) * v1) + ((s0.2.2.1 24) (v2).toNatClampNeg)) (v2 + (1 : Int32)) h
def f_X8_packed (N : Nat) (s0 : Ob) : Option (Int32) := (znm ((64 : Int32) * (((4 : Int32) * ((s0.1 28) + (1 : Int32))) + (s0.1 27))) fun x1 => (f_X8_packed_38 N s0 N (((16 : Int32) * (x1 + (s0.1 26))) + (s0.1 25)) (0 : Int32)))
theorem m_X8_packed {g : Gp} {a0 : Nat} {r0 : Nat → Nat} {N : Nat} {s0 : Ob} {res : Int32} (hg : Ok g) (h : f_X8_packed N s0 = some res) : Ct g yX8_packed cX8_packed 3 (some .int) (zrm 0 0) [.ref a0] (wX8 g a0 r0 s0) (exR (some (.int res)) (wX8 g a0 r0 s0)) := by
  refine ct_of rfl hg (by show _ ≤ _; exact Nat.le_of_ble_eq_true rfl) (fun K C X => ?_)
  show Zs K 0 0 (wX8 g a0 r0 s0) [(0, .ref a0)] 0 []
  unfold f_X8_packed at h
  refine z_aload_n (pc := 0) (x := a0) C dX8_packed_0 (i := 0) rfl rfl ?_
  refine z_get (pc := 1) (v := .int (s0.1 28)) C 0 dX8_packed_1 fl_RX8_340 rfl rfl ?_
  refine z_iconst (pc := 4) C dX8_packed_4 ic_1 ?_
  refine z_iadd (pc := 5) C dX8_packed_5 ?_
  refine z_istore_n (pc := 6) C dX8_packed_6 (i := 1) rfl (by decide) (lv' := [(1, .int ((s0.1 28) + (1 : Int32))), (0, .ref a0)]) rfl ?_
  refine z_iconst (pc := 7) C dX8_packed_7 ic_4 ?_
  refine z_iload_n (pc := 8) (x := ((s0.1 28) + (1 : Int32))) C dX8_packed_8 (i := 1) rfl rfl ?_
  refine z_imul (pc := 9) C dX8_packed_9 ?_
  refine z_aload_n (pc := 10) (x := a0) C dX8_packed_10 (i := 0) rfl rfl ?_
  refine z_get (pc := 11) (v := .int (s0.1 27)) C 0 dX8_packed_11 fl_RX8_343 rfl rfl ?_
  refine z_iadd (pc := 14) C dX8_packed_14 ?_
  refine z_istore_n (pc := 15) C dX8_packed_15 (i := 1) rfl (by decide) (lv' := [(1, .int (((4 : Int32) * ((s0.1 28) + (1 : Int32))) + (s0.1 27))), (0, .ref a0)]) rfl ?_
  refine z_bipush (pc := 16) C dX8_packed_16 bp_64 ?_
  refine z_iload_n (pc := 18) (x := (((4 : Int32) * ((s0.1 28) + (1 : Int32))) + (s0.1 27))) C dX8_packed_18 (i := 1) rfl rfl ?_
  refine z_imul (pc := 19) C dX8_packed_19 ?_
  replace h := znm_e h
  obtain ⟨x1, hx1, h⟩ := h
  refine z_top1 hx1 ?_
  refine z_aload_n (pc := 20) (x := a0) C dX8_packed_20 (i := 0) rfl rfl ?_
  refine z_get (pc := 21) (v := .int (s0.1 26)) C 0 dX8_packed_21 fl_RX8_346 rfl rfl ?_
  refine z_iadd (pc := 24) C dX8_packed_24 ?_
  refine z_istore_n (pc := 25) C dX8_packed_25 (i := 1) rfl (by decide) (lv' := [(1, .int (x1 + (s0.1 26))), (0, .ref a0)]) rfl ?_
  refine z_bipush (pc := 26) C dX8_packed_26 bp_16 ?_
  refine z_iload_n (pc := 28) (x := (x1 + (s0.1 26))) C dX8_packed_28 (i := 1) rfl rfl ?_
  refine z_imul (pc := 29) C dX8_packed_29 ?_
  refine z_aload_n (pc := 30) (x := a0) C dX8_packed_30 (i := 0) rfl rfl ?_
  refine z_get (pc := 31) (v := .int (s0.1 25)) C 0 dX8_packed_31 fl_RX8_349 rfl rfl ?_
  refine z_iadd (pc := 34) C dX8_packed_34 ?_
  refine z_istore_n (pc := 35) C dX8_packed_35 (i := 1) rfl (by decide) (lv' := [(1, .int (((16 : Int32) * (x1 + (s0.1 26))) + (s0.1 25))), (0, .ref a0)]) rfl ?_
  refine z_iconst (pc := 36) C dX8_packed_36 ic_0 ?_
  refine z_istore_n (pc := 37) C dX8_packed_37 (i := 2) rfl (by decide) (lv' := [(2, .int (0 : Int32)), (1, .int (((16 : Int32) * (x1 + (s0.1 26))) + (s0.1 25))), (0, .ref a0)]) rfl ?_
  refine z_lv (lv' := [(0, .ref a0), (1, .int (((16 : Int32) * (x1 + (s0.1 26))) + (s0.1 25))), (2, .int (0 : Int32))]) [2, 1, 0] rfl ?_
  exact m_X8_packed_38 (a0 := a0) (r0 := r0) hg C X N (((16 : Int32) * (x1 + (s0.1 26))) + (s0.1 25)) (0 : Int32) h
def F_X8_unpacks_77 (N : Nat) (p1 : Int32)  (k77 : Int32 → Ob → Option (Ob)) (v3 : Int32) (s0 : Ob) : Option (Ob) := (if (4 : Int32) ≤ v3 then (some s0) else (chk (inb (((4 : Int32) * p1) + v3) 16080) (chk (inb v3 4) (k77 (v3 + (1 : Int32)) (sb s0 23 (vp_updL (s0.2.2.2 23) (v3).toNatClampNeg ((s0.2.2.2 19) ((((4 : Int32) * p1) + v3)).toNatClampNeg)))))))
def f_X8_unpacks_77 (N : Nat) (p1 : Int32)  : Nat → Int32 → Ob → Option (Ob) := zlp (fun _ _ => none) (F_X8_unpacks_77 N p1)
theorem m_X8_unpacks_77 {K : Kt} {g : Gp} {a0 : Nat} {r0 : Nat → Nat} {N : Nat} {p1 : Int32} {res : Ob} (hg : Ok g) (C : Cx K g cX8_unpacks RX8 4 (zrm 0 0)) (X : Rx K (exR none (wX8 g a0 r0 res)) 0 0 none) : ∀ (n : Nat) (v3 : Int32) (s0 : Ob), f_X8_unpacks_77 N p1 n v3 s0 = some res → Zs K 0 0 (wX8 g a0 r0 s0) [(0, .ref a0), (1, .int p1), (3, .int v3)] 77 [] := by
  intro n
  induction n with
  | zero => intro v3 s0 h; exact nomatch (show (none : Option (Ob)) = some res from h)
  | succ n hk77 =>
    intro v3 s0 h
    replace h : F_X8_unpacks_77 N p1 (f_X8_unpacks_77 N p1 n) v3 s0 = some res := h
    unfold F_X8_unpacks_77 at h
    refine z_iload_n (pc := 77) (x := v3) C dX8_unpacks_77 (i := 3) rfl rfl ?_
    refine z_iconst (pc := 78) C dX8_unpacks_78 ic_4 ?_
    refine z_icmp_ge (pc := 79) C dX8_unpacks_79 (tgt := 104) (by decide) (fun hc => ?_) (fun hc => ?_)
    · replace h := (ite_e h).1 hc
      exact z_vret C X dX8_unpacks_104 (by rw [← Option.some.inj h]; exact ⟨rfl, rfl⟩) (by decide) (by decide)
    · replace h := (ite_e h).2 hc
      refine z_aload_n (pc := 82) (x := a0) C dX8_unpacks_82 (i := 0) rfl rfl ?_
      refine z_get (pc := 83) (v := .ref (r0 23)) C 0 dX8_unpacks_83 fl_RX8_50 rfl rfl ?_
      refine z_iload_n (pc := 86) (x := v3) C dX8_unpacks_86 (i := 3) rfl rfl ?_
      refine z_aload_n (pc := 87) (x := a0) C dX8_unpacks_87 (i := 0) rfl rfl ?_
      refine z_get (pc := 88) (v := .ref (r0 19)) C 0 dX8_unpacks_88 fl_RX8_40 rfl rfl ?_
      refine z_iconst (pc := 91) C dX8_unpacks_91 ic_4 ?_
      refine z_iload_n (pc := 92) (x := p1) C dX8_unpacks_92 (i := 1) rfl rfl ?_
      refine z_imul (pc := 93) C dX8_unpacks_93 ?_
      refine z_iload_n (pc := 94) (x := v3) C dX8_unpacks_94 (i := 3) rfl rfl ?_
      refine z_iadd (pc := 95) C dX8_unpacks_95 ?_
      replace h := chk_e h
      obtain ⟨hb7, h⟩ := h
      refine z_lald (pc := 96) C 9 dX8_unpacks_96 rfl hb7 ?_
      replace h := chk_e h
      obtain ⟨hb8, h⟩ := h
      refine z_last (pc := 97) C 12 dX8_unpacks_97 rfl hb8 (ws' := (wX8 g a0 r0 (sb s0 23 (vp_updL (s0.2.2.2 23) (v3).toNatClampNeg ((s0.2.2.2 19) ((((4 : Int32) * p1) + v3)).toNatClampNeg))))) rfl ?_
      refine z_iinc (pc := 98) C dX8_unpacks_98 rfl (inc_e 1 (1 : Int32) ic_1 v3) (by decide) (lv' := [(3, .int (v3 + (1 : Int32))), (0, .ref a0), (1, .int p1)]) rfl ?_
      refine z_goto (pc := 101) C dX8_unpacks_101 (tgt := 77) (by decide) ?_
      refine z_lv (lv' := [(0, .ref a0), (1, .int p1), (3, .int (v3 + (1 : Int32)))]) [1, 2, 0] rfl ?_
      exact hk77 (v3 + (1 : Int32)) (sb s0 23 (vp_updL (s0.2.2.2 23) (v3).toNatClampNeg ((s0.2.2.2 19) ((((4 : Int32) * p1) + v3)).toNatClampNeg))) h
def F_X8_unpacks_9 (N : Nat) (p1 : Int32)  (k9 : Int32 → Int32 → Ob → Option (Ob)) (v2 : Int32) (v3 : Int32) (s0 : Ob) : Option (Ob) := (if v3 < 0 then (znm ((v2 / (16 : Int32)) - (v2 / (16 : Int32)) / (64 : Int32) * (64 : Int32)) fun x2 => (znm (si s0 25 (v2 - v2 / (16 : Int32) * (16 : Int32))) fun y3 => (znm ((v2 / (1024 : Int32)) - (v2 / (1024 : Int32)) / (4 : Int32) * (4 : Int32)) fun x4 => (znm (si y3 26 x2) fun y5 => (znm (si y5 27 x4) fun y6 => (f_X8_unpacks_77 N p1 N (0 : Int32) (si y6 28 ((v2 / (4096 : Int32)) - (1 : Int32))))))))) else (chk (inb v3 4) (k9 (v2 / (8 : Int32)) (v3 + (-1 : Int32)) (sa s0 24 (upd (s0.2.2.1 24) (v3).toNatClampNeg (v2 - v2 / (8 : Int32) * (8 : Int32)))))))
def f_X8_unpacks_9 (N : Nat) (p1 : Int32)  : Nat → Int32 → Int32 → Ob → Option (Ob) := zlp (fun _ _ _ => none) (F_X8_unpacks_9 N p1)
theorem m_X8_unpacks_9 {K : Kt} {g : Gp} {a0 : Nat} {r0 : Nat → Nat} {N : Nat} {p1 : Int32} {res : Ob} (hg : Ok g) (C : Cx K g cX8_unpacks RX8 4 (zrm 0 0)) (X : Rx K (exR none (wX8 g a0 r0 res)) 0 0 none) : ∀ (n : Nat) (v2 : Int32) (v3 : Int32) (s0 : Ob), f_X8_unpacks_9 N p1 n v2 v3 s0 = some res → Zs K 0 0 (wX8 g a0 r0 s0) [(0, .ref a0), (1, .int p1), (2, .int v2), (3, .int v3)] 9 [] := by
  intro n
  induction n with
  | zero => intro v2 v3 s0 h; exact nomatch (show (none : Option (Ob)) = some res from h)
  | succ n hk9 =>
    intro v2 v3 s0 h
    replace h : F_X8_unpacks_9 N p1 (f_X8_unpacks_9 N p1 n) v2 v3 s0 = some res := h
    unfold F_X8_unpacks_9 at h
    refine z_iload_n (pc := 9) (x := v3) C dX8_unpacks_9 (i := 3) rfl rfl ?_
    refine z_if_lt (pc := 10) C dX8_unpacks_10 (tgt := 34) (by decide) (fun hc => ?_) (fun hc => ?_)
    · replace h := (ite_e h).1 hc
      refine z_aload_n (pc := 34) (x := a0) C dX8_unpacks_34 (i := 0) rfl rfl ?_
      refine z_iload_n (pc := 35) (x := v2) C dX8_unpacks_35 (i := 2) rfl rfl ?_
      refine z_bipush (pc := 36) C dX8_unpacks_36 bp_16 ?_
      refine z_irem (pc := 38) C dX8_unpacks_38 (by decide) ?_
      refine z_put (pc := 39) C 0 dX8_unpacks_39 fp_RX8_349 rfl rfl rfl (zlt_b rfl) (ws' := (wX8 g a0 r0 (si s0 25 (v2 - v2 / (16 : Int32) * (16 : Int32))))) rfl ?_
      refine z_aload_n (pc := 42) (x := a0) C dX8_unpacks_42 (i := 0) rfl rfl ?_
      refine z_iload_n (pc := 43) (x := v2) C dX8_unpacks_43 (i := 2) rfl rfl ?_
      refine z_bipush (pc := 44) C dX8_unpacks_44 bp_16 ?_
      refine z_idiv (pc := 46) C dX8_unpacks_46 (by decide) ?_
      refine z_bipush (pc := 47) C dX8_unpacks_47 bp_64 ?_
      refine z_irem (pc := 49) C dX8_unpacks_49 (by decide) ?_
      replace h := znm_e h
      obtain ⟨x2, hx2, h⟩ := h
      refine z_top1 hx2 ?_
      replace h := znm_e h
      obtain ⟨y3, hy3, h⟩ := h
      refine z_wsE (ws' := (wX8 g a0 r0 y3)) (by rw [hy3]) ?_
      refine z_put (pc := 50) C 0 dX8_unpacks_50 fp_RX8_346 rfl rfl rfl (zlt_b rfl) (ws' := (wX8 g a0 r0 (si y3 26 x2))) rfl ?_
      refine z_aload_n (pc := 53) (x := a0) C dX8_unpacks_53 (i := 0) rfl rfl ?_
      refine z_iload_n (pc := 54) (x := v2) C dX8_unpacks_54 (i := 2) rfl rfl ?_
      refine z_sipush (pc := 55) C dX8_unpacks_55 sp_1024 ?_
      refine z_idiv (pc := 58) C dX8_unpacks_58 (by decide) ?_
      refine z_iconst (pc := 59) C dX8_unpacks_59 ic_4 ?_
      refine z_irem (pc := 60) C dX8_unpacks_60 (by decide) ?_
      replace h := znm_e h
      obtain ⟨x4, hx4, h⟩ := h
      refine z_top1 hx4 ?_
      replace h := znm_e h
      obtain ⟨y5, hy5, h⟩ := h
      refine z_wsE (ws' := (wX8 g a0 r0 y5)) (by rw [hy5]) ?_
      refine z_put (pc := 61) C 0 dX8_unpacks_61 fp_RX8_343 rfl rfl rfl (zlt_b rfl) (ws' := (wX8 g a0 r0 (si y5 27 x4))) rfl ?_
      refine z_aload_n (pc := 64) (x := a0) C dX8_unpacks_64 (i := 0) rfl rfl ?_
      refine z_iload_n (pc := 65) (x := v2) C dX8_unpacks_65 (i := 2) rfl rfl ?_
      refine z_sipush (pc := 66) C dX8_unpacks_66 sp_4096 ?_
      refine z_idiv (pc := 69) C dX8_unpacks_69 (by decide) ?_
      refine z_iconst (pc := 70) C dX8_unpacks_70 ic_1 ?_
      refine z_isub (pc := 71) C dX8_unpacks_71 ?_
      replace h := znm_e h
      obtain ⟨y6, hy6, h⟩ := h
      refine z_wsE (ws' := (wX8 g a0 r0 y6)) (by rw [hy6]) ?_
      refine z_put (pc := 72) C 0 dX8_unpacks_72 fp_RX8_340 rfl rfl rfl (zlt_b rfl) (ws' := (wX8 g a0 r0 (si y6 28 ((v2 / (4096 : Int32)) - (1 : Int32))))) rfl ?_
      refine z_iconst (pc := 75) C dX8_unpacks_75 ic_0 ?_
      refine z_istore_n (pc := 76) C dX8_unpacks_76 (i := 3) rfl (by decide) (lv' := [(3, .int (0 : Int32)), (0, .ref a0), (1, .int p1), (2, .int v2)]) rfl ?_
      refine z_lv (lv' := [(0, .ref a0), (1, .int p1), (3, .int (0 : Int32))]) [1, 2, 0] rfl ?_
      exact m_X8_unpacks_77 (a0 := a0) (r0 := r0) hg C X N (0 : Int32) (si y6 28 ((v2 / (4096 : Int32)) - (1 : Int32))) h
    · replace h := (ite_e h).2 hc
      refine z_aload_n (pc := 13) (x := a0) C dX8_unpacks_13 (i := 0) rfl rfl ?_
      refine z_get (pc := 14) (v := .ref (r0 24)) C 0 dX8_unpacks_14 fl_RX8_53 rfl rfl ?_
      refine z_iload_n (pc := 17) (x := v3) C dX8_unpacks_17 (i := 3) rfl rfl ?_
      refine z_iload_n (pc := 18) (x := v2) C dX8_unpacks_18 (i := 2) rfl rfl ?_
      refine z_bipush (pc := 19) C dX8_unpacks_19 bp_8 ?_
      refine z_irem (pc := 21) C dX8_unpacks_21 (by decide) ?_
      replace h := chk_e h
      obtain ⟨hb9, h⟩ := h
      refine z_iast (pc := 22) C 13 dX8_unpacks_22 rfl hb9 (ws' := (wX8 g a0 r0 (sa s0 24 (upd (s0.2.2.1 24) (v3).toNatClampNeg (v2 - v2 / (8 : Int32) * (8 : Int32)))))) rfl ?_
      refine z_iload_n (pc := 23) (x := v2) C dX8_unpacks_23 (i := 2) rfl rfl ?_
      refine z_bipush (pc := 24) C dX8_unpacks_24 bp_8 ?_
      refine z_idiv (pc := 26) C dX8_unpacks_26 (by decide) ?_
      refine z_istore_n (pc := 27) C dX8_unpacks_27 (i := 2) rfl (by decide) (lv' := [(2, .int (v2 / (8 : Int32))), (0, .ref a0), (1, .int p1), (3, .int v3)]) rfl ?_
      refine z_iinc (pc := 28) C dX8_unpacks_28 rfl (inc_e (-1) (-1 : Int32) ic_m1 v3) (by decide) (lv' := [(3, .int (v3 + (-1 : Int32))), (2, .int (v2 / (8 : Int32))), (0, .ref a0), (1, .int p1)]) rfl ?_
      refine z_goto (pc := 31) C dX8_unpacks_31 (tgt := 9) (by decide) ?_
      refine z_lv (lv' := [(0, .ref a0), (1, .int p1), (2, .int (v2 / (8 : Int32))), (3, .int (v3 + (-1 : Int32)))]) [2, 3, 1, 0] rfl ?_
      exact hk9 (v2 / (8 : Int32)) (v3 + (-1 : Int32)) (sa s0 24 (upd (s0.2.2.1 24) (v3).toNatClampNeg (v2 - v2 / (8 : Int32) * (8 : Int32)))) h
def f_X8_unpacks (N : Nat) (s0 : Ob) (p1 : Int32) : Option (Ob) := (chk (inb p1 4020) (f_X8_unpacks_9 N p1 N ((s0.2.2.1 20) (p1).toNatClampNeg) (3 : Int32) s0))
theorem m_X8_unpacks {g : Gp} {a0 : Nat} {r0 : Nat → Nat} {N : Nat} {s0 : Ob} {p1 : Int32} {res : Ob} (hg : Ok g) (h : f_X8_unpacks N s0 p1 = some res) : Ct g yX8_unpacks cX8_unpacks 4 none (zrm 0 0) [.ref a0, .int p1] (wX8 g a0 r0 s0) (exR none (wX8 g a0 r0 res)) := by
  refine ct_of rfl hg (by show _ ≤ _; exact Nat.le_of_ble_eq_true rfl) (fun K C X => ?_)
  show Zs K 0 0 (wX8 g a0 r0 s0) [(0, .ref a0), (1, .int p1)] 0 []
  unfold f_X8_unpacks at h
  refine z_aload_n (pc := 0) (x := a0) C dX8_unpacks_0 (i := 0) rfl rfl ?_
  refine z_get (pc := 1) (v := .ref (r0 20)) C 0 dX8_unpacks_1 fl_RX8_44 rfl rfl ?_
  refine z_iload_n (pc := 4) (x := p1) C dX8_unpacks_4 (i := 1) rfl rfl ?_
  replace h := chk_e h
  obtain ⟨hb1, h⟩ := h
  refine z_iald (pc := 5) C 10 dX8_unpacks_5 rfl hb1 ?_
  refine z_istore_n (pc := 6) C dX8_unpacks_6 (i := 2) rfl (by decide) (lv' := [(2, .int ((s0.2.2.1 20) (p1).toNatClampNeg)), (0, .ref a0), (1, .int p1)]) rfl ?_
  refine z_iconst (pc := 7) C dX8_unpacks_7 ic_3 ?_
  refine z_istore_n (pc := 8) C dX8_unpacks_8 (i := 3) rfl (by decide) (lv' := [(3, .int (3 : Int32)), (2, .int ((s0.2.2.1 20) (p1).toNatClampNeg)), (0, .ref a0), (1, .int p1)]) rfl ?_
  refine z_lv (lv' := [(0, .ref a0), (1, .int p1), (2, .int ((s0.2.2.1 20) (p1).toNatClampNeg)), (3, .int (3 : Int32))]) [2, 3, 1, 0] rfl ?_
  exact m_X8_unpacks_9 (a0 := a0) (r0 := r0) hg C X N ((s0.2.2.1 20) (p1).toNatClampNeg) (3 : Int32) s0 h
def F_X8_isSame_19 (N : Nat) (s0 : Ob) (p1 : Int32) (p2 : Int32)  (k19 : Int32 → Int32 → Option (Int32)) (v3 : Int32) (v4 : Int32) : Option (Int32) := (if (4 : Int32) ≤ v4 then (chk (zisB v3) (some v3)) else (if v3 = 0 then (chk (zisB v3) (some v3)) else (chk (inb (((4 : Int32) * p1) + v4) 16080) (chk (inb v4 4) (if (lg_cmp ((s0.2.2.2 19) ((((4 : Int32) * p1) + v4)).toNatClampNeg) ((s0.2.2.2 23) (v4).toNatClampNeg)) = 0 then (k19 (1 : Int32) (v4 + (1 : Int32))) else (k19 (0 : Int32) (v4 + (1 : Int32))))))))
def f_X8_isSame_19 (N : Nat) (s0 : Ob) (p1 : Int32) (p2 : Int32)  : Nat → Int32 → Int32 → Option (Int32) := zlp (fun _ _ => none) (F_X8_isSame_19 N s0 p1 p2)
theorem m_X8_isSame_19 {K : Kt} {g : Gp} {a0 : Nat} {r0 : Nat → Nat} {N : Nat} {s0 : Ob} {p1 : Int32} {p2 : Int32} {res : Int32} (hg : Ok g) (C : Cx K g cX8_isSame RX8 5 (zrm 0 0)) (X : Rx K (exR (some (.int res)) (wX8 g a0 r0 s0)) 0 0 (some .boolean)) : ∀ (n : Nat) (v3 : Int32) (v4 : Int32), f_X8_isSame_19 N s0 p1 p2 n v3 v4 = some res → Zs K 0 0 (wX8 g a0 r0 s0) [(0, .ref a0), (1, .int p1), (3, .int v3), (4, .int v4)] 19 [] := by
  intro n
  induction n with
  | zero => intro v3 v4 h; exact nomatch (show (none : Option (Int32)) = some res from h)
  | succ n hk19 =>
    intro v3 v4 h
    replace h : F_X8_isSame_19 N s0 p1 p2 (f_X8_isSame_19 N s0 p1 p2 n) v3 v4 = some res := h
    unfold F_X8_isSame_19 at h
    refine z_iload (pc := 19) (x := v4) C dX8_isSame_19 rfl ?_
    refine z_iconst (pc := 21) C dX8_isSame_21 ic_4 ?_
    refine z_icmp_ge (pc := 22) C dX8_isSame_22 (tgt := 63) (by decide) (fun hc => ?_) (fun hc => ?_)
    · replace h := (ite_e h).1 hc
      refine z_iload_n (pc := 63) (x := v3) C dX8_isSame_63 (i := 3) rfl rfl ?_
      replace h := chk_e h
      obtain ⟨hb2, h⟩ := h
      exact z_zret C X dX8_isSame_64 (zisB_nar hb2) (by rw [← Option.some.inj h]; exact ⟨rfl, rfl⟩) (by decide) (by decide)
    · replace h := (ite_e h).2 hc
      refine z_iload_n (pc := 25) (x := v3) C dX8_isSame_25 (i := 3) rfl rfl ?_
      refine z_if_eq (pc := 26) C dX8_isSame_26 (tgt := 63) (by decide) (fun hc => ?_) (fun hc => ?_)
      · replace h := (ite_e h).1 hc
        refine z_iload_n (pc := 63) (x := v3) C dX8_isSame_63 (i := 3) rfl rfl ?_
        replace h := chk_e h
        obtain ⟨hb3, h⟩ := h
        exact z_zret C X dX8_isSame_64 (zisB_nar hb3) (by rw [← Option.some.inj h]; exact ⟨rfl, rfl⟩) (by decide) (by decide)
      · replace h := (ite_e h).2 hc
        refine z_aload_n (pc := 29) (x := a0) C dX8_isSame_29 (i := 0) rfl rfl ?_
        refine z_get (pc := 30) (v := .ref (r0 19)) C 0 dX8_isSame_30 fl_RX8_40 rfl rfl ?_
        refine z_iconst (pc := 33) C dX8_isSame_33 ic_4 ?_
        refine z_iload_n (pc := 34) (x := p1) C dX8_isSame_34 (i := 1) rfl rfl ?_
        refine z_imul (pc := 35) C dX8_isSame_35 ?_
        refine z_iload (pc := 36) (x := v4) C dX8_isSame_36 rfl ?_
        refine z_iadd (pc := 38) C dX8_isSame_38 ?_
        replace h := chk_e h
        obtain ⟨hb4, h⟩ := h
        refine z_lald (pc := 39) C 9 dX8_isSame_39 rfl hb4 ?_
        refine z_aload_n (pc := 40) (x := a0) C dX8_isSame_40 (i := 0) rfl rfl ?_
        refine z_get (pc := 41) (v := .ref (r0 23)) C 0 dX8_isSame_41 fl_RX8_50 rfl rfl ?_
        refine z_iload (pc := 44) (x := v4) C dX8_isSame_44 rfl ?_
        replace h := chk_e h
        obtain ⟨hb5, h⟩ := h
        refine z_lald (pc := 46) C 12 dX8_isSame_46 rfl hb5 ?_
        refine z_lcmp (pc := 47) C dX8_isSame_47 ?_
        refine z_if_ne (pc := 48) C dX8_isSame_48 (tgt := 55) (by decide) (fun hc => ?_) (fun hc => ?_)
        · replace h := (ite_e h).2 hc
          refine z_iconst (pc := 55) C dX8_isSame_55 ic_0 ?_
          refine z_istore_n (pc := 56) C dX8_isSame_56 (i := 3) rfl (by decide) (lv' := [(3, .int (0 : Int32)), (0, .ref a0), (1, .int p1), (4, .int v4)]) rfl ?_
          refine z_iinc (pc := 57) C dX8_isSame_57 rfl (inc_e 1 (1 : Int32) ic_1 v4) (by decide) (lv' := [(4, .int (v4 + (1 : Int32))), (3, .int (0 : Int32)), (0, .ref a0), (1, .int p1)]) rfl ?_
          refine z_goto (pc := 60) C dX8_isSame_60 (tgt := 19) (by decide) ?_
          refine z_lv (lv' := [(0, .ref a0), (1, .int p1), (3, .int (0 : Int32)), (4, .int (v4 + (1 : Int32)))]) [2, 3, 1, 0] rfl ?_
          exact hk19 (0 : Int32) (v4 + (1 : Int32)) h
        · replace h := (ite_e h).1 hc
          refine z_iconst (pc := 51) C dX8_isSame_51 ic_1 ?_
          refine z_goto (pc := 52) C dX8_isSame_52 (tgt := 56) (by decide) ?_
          refine z_istore_n (pc := 56) C dX8_isSame_56 (i := 3) rfl (by decide) (lv' := [(3, .int (1 : Int32)), (0, .ref a0), (1, .int p1), (4, .int v4)]) rfl ?_
          refine z_iinc (pc := 57) C dX8_isSame_57 rfl (inc_e 1 (1 : Int32) ic_1 v4) (by decide) (lv' := [(4, .int (v4 + (1 : Int32))), (3, .int (1 : Int32)), (0, .ref a0), (1, .int p1)]) rfl ?_
          refine z_goto (pc := 60) C dX8_isSame_60 (tgt := 19) (by decide) ?_
          refine z_lv (lv' := [(0, .ref a0), (1, .int p1), (3, .int (1 : Int32)), (4, .int (v4 + (1 : Int32)))]) [2, 3, 1, 0] rfl ?_
          exact hk19 (1 : Int32) (v4 + (1 : Int32)) h
def f_X8_isSame (N : Nat) (s0 : Ob) (p1 : Int32) (p2 : Int32) : Option (Int32) := (chk (inb p1 4020) (if ((s0.2.2.1 20) (p1).toNatClampNeg) = p2 then (f_X8_isSame_19 N s0 p1 p2 N (1 : Int32) (0 : Int32)) else (f_X8_isSame_19 N s0 p1 p2 N (0 : Int32) (0 : Int32))))
theorem m_X8_isSame {g : Gp} {a0 : Nat} {r0 : Nat → Nat} {N : Nat} {s0 : Ob} {p1 : Int32} {p2 : Int32} {res : Int32} (hg : Ok g) (h : f_X8_isSame N s0 p1 p2 = some res) : Ct g yX8_isSame cX8_isSame 5 (some .boolean) (zrm 0 0) [.ref a0, .int p1, .int p2] (wX8 g a0 r0 s0) (exR (some (.int res)) (wX8 g a0 r0 s0)) := by
  refine ct_of rfl hg (by show _ ≤ _; exact Nat.le_of_ble_eq_true rfl) (fun K C X => ?_)
  show Zs K 0 0 (wX8 g a0 r0 s0) [(0, .ref a0), (1, .int p1), (2, .int p2)] 0 []
  unfold f_X8_isSame at h
  refine z_aload_n (pc := 0) (x := a0) C dX8_isSame_0 (i := 0) rfl rfl ?_
  refine z_get (pc := 1) (v := .ref (r0 20)) C 0 dX8_isSame_1 fl_RX8_44 rfl rfl ?_
  refine z_iload_n (pc := 4) (x := p1) C dX8_isSame_4 (i := 1) rfl rfl ?_
  replace h := chk_e h
  obtain ⟨hb1, h⟩ := h
  refine z_iald (pc := 5) C 10 dX8_isSame_5 rfl hb1 ?_
  refine z_iload_n (pc := 6) (x := p2) C dX8_isSame_6 (i := 2) rfl rfl ?_
  refine z_icmp_ne (pc := 7) C dX8_isSame_7 (tgt := 14) (by decide) (fun hc => ?_) (fun hc => ?_)
  · replace h := (ite_e h).2 hc
    refine z_iconst (pc := 14) C dX8_isSame_14 ic_0 ?_
    refine z_istore_n (pc := 15) C dX8_isSame_15 (i := 3) rfl (by decide) (lv' := [(3, .int (0 : Int32)), (0, .ref a0), (1, .int p1), (2, .int p2)]) rfl ?_
    refine z_iconst (pc := 16) C dX8_isSame_16 ic_0 ?_
    refine z_istore (pc := 17) C dX8_isSame_17 (by decide) (lv' := [(4, .int (0 : Int32)), (3, .int (0 : Int32)), (0, .ref a0), (1, .int p1), (2, .int p2)]) rfl ?_
    refine z_lv (lv' := [(0, .ref a0), (1, .int p1), (3, .int (0 : Int32)), (4, .int (0 : Int32))]) [2, 3, 1, 0] rfl ?_
    exact m_X8_isSame_19 (a0 := a0) (r0 := r0) hg C X N (0 : Int32) (0 : Int32) h
  · replace h := (ite_e h).1 hc
    refine z_iconst (pc := 10) C dX8_isSame_10 ic_1 ?_
    refine z_goto (pc := 11) C dX8_isSame_11 (tgt := 15) (by decide) ?_
    refine z_istore_n (pc := 15) C dX8_isSame_15 (i := 3) rfl (by decide) (lv' := [(3, .int (1 : Int32)), (0, .ref a0), (1, .int p1), (2, .int p2)]) rfl ?_
    refine z_iconst (pc := 16) C dX8_isSame_16 ic_0 ?_
    refine z_istore (pc := 17) C dX8_isSame_17 (by decide) (lv' := [(4, .int (0 : Int32)), (3, .int (1 : Int32)), (0, .ref a0), (1, .int p1), (2, .int p2)]) rfl ?_
    refine z_lv (lv' := [(0, .ref a0), (1, .int p1), (3, .int (1 : Int32)), (4, .int (0 : Int32))]) [2, 3, 1, 0] rfl ?_
    exact m_X8_isSame_19 (a0 := a0) (r0 := r0) hg C X N (1 : Int32) (0 : Int32) h
