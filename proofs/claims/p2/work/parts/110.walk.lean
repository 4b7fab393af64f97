/-! OWN, written by wip/whole/tools/mkall.py: what each method does to its cells, and the walk that shows it -/
def F_X8_shuffles_15 (N : Nat)  (k15 : Int64 → Int32 → Ob → Option (Ob)) (v1 : Int64) (v3 : Int32) (s0 : Ob) : Option (Ob) := (if v3 ≤ 0 then (some s0) else (if (s0.1 15) = (-1 : Int32) then (some s0) else (znm (((v1 * (1103515245 : Int64)) + (12345 : Int64)) - ((v1 * (1103515245 : Int64)) + (12345 : Int64)) / (2147483648 : Int64) * (2147483648 : Int64)) fun x1 => (chk (decide (¬ ((v3 + (1 : Int32))).toInt64 = 0)) (znm ((x1 / (65536 : Int64)) - (x1 / (65536 : Int64)) / ((v3 + (1 : Int32))).toInt64 * ((v3 + (1 : Int32))).toInt64) fun x3 => (chk (inb ((27 : Int32) + v3) 358) (chk (inb ((27 : Int32) + (x3).toInt32) 358) (chk (inb ((27 : Int32) + v3) 358) (znm (sa s0 1 (upd (s0.2.2.1 1) (((27 : Int32) + v3)).toNatClampNeg ((s0.2.2.1 1) (((27 : Int32) + (x3).toInt32)).toNatClampNeg))) fun y7 => (chk (inb ((27 : Int32) + (x3).toInt32) 358) (k15 x1 (v3 + (-1 : Int32)) (sa y7 1 (upd (y7.2.2.1 1) (((27 : Int32) + (x3).toInt32)).toNatClampNeg ((s0.2.2.1 1) (((27 : Int32) + v3)).toNatClampNeg))))))))))))))
def f_X8_shuffles_15 (N : Nat)  : Nat → Int64 → Int32 → Ob → Option (Ob) := zlp (fun _ _ _ => none) (F_X8_shuffles_15 N)
theorem m_X8_shuffles_15 {K : Kt} {g : Gp} {a0 : Nat} {r0 : Nat → Nat} {N : Nat} {res : Ob} (hg : Ok g) (C : Cx K g cX8_shuffles RX8 6 (zrm 0 0)) (X : Rx K (exR none (wX8 g a0 r0 res)) 0 0 none) : ∀ (n : Nat) (v1 : Int64) (v3 : Int32) (s0 : Ob), f_X8_shuffles_15 N n v1 v3 s0 = some res → Zs K 0 0 (wX8 g a0 r0 s0) [(0, .ref a0), (1, .long v1), (3, .int v3)] 15 [] := by
  intro n
  induction n with
  | zero => intro v1 v3 s0 h; exact nomatch (show (none : Option (Ob)) = some res from h)
  | succ n hk15 =>
    intro v1 v3 s0 h
    replace h : F_X8_shuffles_15 N (f_X8_shuffles_15 N n) v1 v3 s0 = some res := h
    unfold F_X8_shuffles_15 at h
    refine z_iload_n (pc := 15) (x := v3) C dX8_shuffles_15 (i := 3) rfl rfl ?_
    refine z_if_le (pc := 16) C dX8_shuffles_16 (tgt := 102) (by decide) (fun hc => ?_) (fun hc => ?_)
    · replace h := (ite_e h).1 hc
      exact z_vret C X dX8_shuffles_102 (by rw [← Option.some.inj h]; exact ⟨rfl, rfl⟩) (by decide) (by decide)
    · replace h := (ite_e h).2 hc
      refine z_aload_n (pc := 19) (x := a0) C dX8_shuffles_19 (i := 0) rfl rfl ?_
      refine z_get (pc := 20) (v := .int (s0.1 15)) C 0 dX8_shuffles_20 fl_RX8_174 rfl rfl ?_
      refine z_iconst (pc := 23) C dX8_shuffles_23 ic_m1 ?_
      refine z_icmp_eq (pc := 24) C dX8_shuffles_24 (tgt := 102) (by decide) (fun hc => ?_) (fun hc => ?_)
      · replace h := (ite_e h).1 hc
        exact z_vret C X dX8_shuffles_102 (by rw [← Option.some.inj h]; exact ⟨rfl, rfl⟩) (by decide) (by decide)
      · replace h := (ite_e h).2 hc
        refine z_lload_n (pc := 27) (x := v1) C dX8_shuffles_27 (i := 1) rfl rfl ?_
        refine z_ldc2 (pc := 28) C dX8_shuffles_28 kl_RX8_177 ?_
        refine z_lmul (pc := 31) C dX8_shuffles_31 ?_
        refine z_ldc2 (pc := 32) C dX8_shuffles_32 kl_RX8_179 ?_
        refine z_ladd (pc := 35) C dX8_shuffles_35 ?_
        refine z_ldc2 (pc := 36) C dX8_shuffles_36 kl_RX8_181 ?_
        refine z_lrem (pc := 39) C dX8_shuffles_39 (by decide) ?_
        replace h := znm_e h
        obtain ⟨x1, hx1, h⟩ := h
        refine z_top2 hx1 ?_
        refine z_lstore_n (pc := 40) C dX8_shuffles_40 (i := 1) rfl (by decide) (lv' := [(1, .long x1), (0, .ref a0), (3, .int v3)]) rfl ?_
        refine z_lload_n (pc := 41) (x := x1) C dX8_shuffles_41 (i := 1) rfl rfl ?_
        refine z_ldc2 (pc := 42) C dX8_shuffles_42 kl_RX8_183 ?_
        refine z_ldiv (pc := 45) C dX8_shuffles_45 (by decide) ?_
        refine z_iload_n (pc := 46) (x := v3) C dX8_shuffles_46 (i := 3) rfl rfl ?_
        refine z_iconst (pc := 47) C dX8_shuffles_47 ic_1 ?_
        refine z_iadd (pc := 48) C dX8_shuffles_48 ?_
        refine z_i2l (pc := 49) C dX8_shuffles_49 ?_
        replace h := chk_e h
        obtain ⟨hb2, h⟩ := h
        refine z_lrem (pc := 50) C dX8_shuffles_50 (of_decide_eq_true hb2) ?_
        replace h := znm_e h
        obtain ⟨x3, hx3, h⟩ := h
        refine z_top2 hx3 ?_
        refine z_l2i (pc := 51) C dX8_shuffles_51 ?_
        refine z_istore (pc := 52) C dX8_shuffles_52 (by decide) (lv' := [(4, .int (x3).toInt32), (1, .long x1), (0, .ref a0), (3, .int v3)]) rfl ?_
        refine z_aload_n (pc := 54) (x := a0) C dX8_shuffles_54 (i := 0) rfl rfl ?_
        refine z_get (pc := 55) (v := .ref (r0 1)) C 0 dX8_shuffles_55 fl_RX8_13 rfl rfl ?_
        refine z_bipush (pc := 58) C dX8_shuffles_58 bp_27 ?_
        refine z_iload_n (pc := 60) (x := v3) C dX8_shuffles_60 (i := 3) rfl rfl ?_
        refine z_iadd (pc := 61) C dX8_shuffles_61 ?_
        replace h := chk_e h
        obtain ⟨hb4, h⟩ := h
        refine z_iald (pc := 62) C 2 dX8_shuffles_62 rfl hb4 ?_
        refine z_istore (pc := 63) C dX8_shuffles_63 (by decide) (lv' := [(5, .int ((s0.2.2.1 1) (((27 : Int32) + v3)).toNatClampNeg)), (4, .int (x3).toInt32), (1, .long x1), (0, .ref a0), (3, .int v3)]) rfl ?_
        refine z_aload_n (pc := 65) (x := a0) C dX8_shuffles_65 (i := 0) rfl rfl ?_
        refine z_get (pc := 66) (v := .ref (r0 1)) C 0 dX8_shuffles_66 fl_RX8_13 rfl rfl ?_
        refine z_bipush (pc := 69) C dX8_shuffles_69 bp_27 ?_
        refine z_iload_n (pc := 71) (x := v3) C dX8_shuffles_71 (i := 3) rfl rfl ?_
        refine z_iadd (pc := 72) C dX8_shuffles_72 ?_
        refine z_aload_n (pc := 73) (x := a0) C dX8_shuffles_73 (i := 0) rfl rfl ?_
        refine z_get (pc := 74) (v := .ref (r0 1)) C 0 dX8_shuffles_74 fl_RX8_13 rfl rfl ?_
        refine z_bipush (pc := 77) C dX8_shuffles_77 bp_27 ?_
        refine z_iload (pc := 79) (x := (x3).toInt32) C dX8_shuffles_79 rfl ?_
        refine z_iadd (pc := 81) C dX8_shuffles_81 ?_
        replace h := chk_e h
        obtain ⟨hb5, h⟩ := h
        refine z_iald (pc := 82) C 2 dX8_shuffles_82 rfl hb5 ?_
        replace h := chk_e h
        obtain ⟨hb6, h⟩ := h
        refine z_iast (pc := 83) C 2 dX8_shuffles_83 rfl hb6 (ws' := (wX8 g a0 r0 (sa s0 1 (upd (s0.2.2.1 1) (((27 : Int32) + v3)).toNatClampNeg ((s0.2.2.1 1) (((27 : Int32) + (x3).toInt32)).toNatClampNeg))))) rfl ?_
        refine z_aload_n (pc := 84) (x := a0) C dX8_shuffles_84 (i := 0) rfl rfl ?_
        refine z_get (pc := 85) (v := .ref (r0 1)) C 0 dX8_shuffles_85 fl_RX8_13 rfl rfl ?_
        refine z_bipush (pc := 88) C dX8_shuffles_88 bp_27 ?_
        refine z_iload (pc := 90) (x := (x3).toInt32) C dX8_shuffles_90 rfl ?_
        refine z_iadd (pc := 92) C dX8_shuffles_92 ?_
        refine z_iload (pc := 93) (x := ((s0.2.2.1 1) (((27 : Int32) + v3)).toNatClampNeg)) C dX8_shuffles_93 rfl ?_
        replace h := znm_e h
        obtain ⟨y7, hy7, h⟩ := h
        refine z_wsE (ws' := (wX8 g a0 r0 y7)) (by rw [hy7]) ?_
        replace h := chk_e h
        obtain ⟨hb8, h⟩ := h
        refine z_iast (pc := 95) C 2 dX8_shuffles_95 rfl hb8 (ws' := (wX8 g a0 r0 (sa y7 1 (upd (y7.2.2.1 1) (((27 : Int32) + (x3).toInt32)).toNatClampNeg ((s0.2.2.1 1) (((27 : Int32) + v3)).toNatClampNeg))))) rfl ?_
        refine z_iinc (pc := 96) C dX8_shuffles_96 rfl (inc_e (-1) (-1 : Int32) ic_m1 v3) (by decide) (lv' := [(3, .int (v3 + (-1 : Int32))), (5, .int ((s0.2.2.1 1) (((27 : Int32) + v3)).toNatClampNeg)), (4, .int (x3).toInt32), (1, .long x1), (0, .ref a0)]) rfl ?_
        refine z_goto (pc := 99) C dX8_shuffles_99 (tgt := 15) (by decide) ?_
        refine z_lv (lv' := [(0, .ref a0), (1, .long x1), (3, .int (v3 + (-1 : Int32)))]) [4, 3, 0] rfl ?_
        exact hk15 x1 (v3 + (-1 : Int32)) (sa y7 1 (upd (y7.2.2.1 1) (((27 : Int32) + (x3).toInt32)).toNatClampNeg ((s0.2.2.1 1) (((27 : Int32) + v3)).toNatClampNeg))) h
def f_X8_shuffles (N : Nat) (s0 : Ob) : Option (Ob) := (f_X8_shuffles_15 N N ((s0.1 15)).toInt64 (((s0.2.2.1 1) 4) - (1 : Int32)) s0)
theorem m_X8_shuffles {g : Gp} {a0 : Nat} {r0 : Nat → Nat} {N : Nat} {s0 : Ob} {res : Ob} (hg : Ok g) (h : f_X8_shuffles N s0 = some res) : Ct g yX8_shuffles cX8_shuffles 6 none (zrm 0 0) [.ref a0] (wX8 g a0 r0 s0) (exR none (wX8 g a0 r0 res)) := by
  refine ct_of rfl hg (by show _ ≤ _; exact Nat.le_of_ble_eq_true rfl) (fun K C X => ?_)
  show Zs K 0 0 (wX8 g a0 r0 s0) [(0, .ref a0)] 0 []
  unfold f_X8_shuffles at h
  refine z_aload_n (pc := 0) (x := a0) C dX8_shuffles_0 (i := 0) rfl rfl ?_
  refine z_get (pc := 1) (v := .int (s0.1 15)) C 0 dX8_shuffles_1 fl_RX8_174 rfl rfl ?_
  refine z_i2l (pc := 4) C dX8_shuffles_4 ?_
  refine z_lstore_n (pc := 5) C dX8_shuffles_5 (i := 1) rfl (by decide) (lv' := [(1, .long ((s0.1 15)).toInt64), (0, .ref a0)]) rfl ?_
  refine z_aload_n (pc := 6) (x := a0) C dX8_shuffles_6 (i := 0) rfl rfl ?_
  refine z_get (pc := 7) (v := .ref (r0 1)) C 0 dX8_shuffles_7 fl_RX8_13 rfl rfl ?_
  refine z_iconst (pc := 10) C dX8_shuffles_10 ic_4 ?_
  refine z_iald (pc := 11) C 2 dX8_shuffles_11 rfl (by decide) ?_
  refine z_top1 (v := ((s0.2.2.1 1) 4)) rfl ?_
  refine z_iconst (pc := 12) C dX8_shuffles_12 ic_1 ?_
  refine z_isub (pc := 13) C dX8_shuffles_13 ?_
  refine z_istore_n (pc := 14) C dX8_shuffles_14 (i := 3) rfl (by decide) (lv' := [(3, .int (((s0.2.2.1 1) 4) - (1 : Int32))), (1, .long ((s0.1 15)).toInt64), (0, .ref a0)]) rfl ?_
  refine z_lv (lv' := [(0, .ref a0), (1, .long ((s0.1 15)).toInt64), (3, .int (((s0.2.2.1 1) 4) - (1 : Int32)))]) [2, 1, 0] rfl ?_
  exact m_X8_shuffles_15 (a0 := a0) (r0 := r0) hg C X N ((s0.1 15)).toInt64 (((s0.2.2.1 1) 4) - (1 : Int32)) s0 h
def f_X8_draws (N : Nat) (s0 : Ob) (p1 : Int32) : Option (Ob) := (if ((s0.2.2.1 0) 4) ≤ ((s0.2.2.1 0) 5) then (some s0) else (chk (inb ((187 : Int32) + p1) 358) (znm (((191 : Int32) + ((5 : Int32) * p1)) + ((s0.2.2.1 0) (((187 : Int32) + p1)).toNatClampNeg)) fun x2 => (chk (inb x2 358) (chk (inb ((187 : Int32) + p1) 358) (znm ((upd (s0.2.2.1 0) (x2).toNatClampNeg ((s0.2.2.1 0) 5)) (((187 : Int32) + p1)).toNatClampNeg) fun x5 => (znm (sa s0 0 (upd (s0.2.2.1 0) (x2).toNatClampNeg ((s0.2.2.1 0) 5))) fun y6 => (chk (inb ((187 : Int32) + p1) 358) (znm ((upd (y6.2.2.1 0) (((187 : Int32) + p1)).toNatClampNeg (x5 + (1 : Int32))) 5) fun x8 => (znm (sa y6 0 (upd (y6.2.2.1 0) (((187 : Int32) + p1)).toNatClampNeg (x5 + (1 : Int32)))) fun y9 => (some (sa y9 0 (upd (y9.2.2.1 0) 5 (x8 + (1 : Int32)))))))))))))))
theorem m_X8_draws {g : Gp} {a0 : Nat} {r0 : Nat → Nat} {N : Nat} {s0 : Ob} {p1 : Int32} {res : Ob} (hg : Ok g) (h : f_X8_draws N s0 p1 = some res) : Ct g yX8_draws cX8_draws 2 none (zrm 0 0) [.ref a0, .int p1] (wX8 g a0 r0 s0) (exR none (wX8 g a0 r0 res)) := by
  refine ct_of rfl hg (by show _ ≤ _; exact Nat.le_of_ble_eq_true rfl) (fun K C X => ?_)
  show Zs K 0 0 (wX8 g a0 r0 s0) [(0, .ref a0), (1, .int p1)] 0 []
  unfold f_X8_draws at h
  refine z_aload_n (pc := 0) (x := a0) C dX8_draws_0 (i := 0) rfl rfl ?_
  refine z_get (pc := 1) (v := .ref (r0 0)) C 0 dX8_draws_1 fl_RX8_9 rfl rfl ?_
  refine z_iconst (pc := 4) C dX8_draws_4 ic_5 ?_
  refine z_iald (pc := 5) C 1 dX8_draws_5 rfl (by decide) ?_
  refine z_top1 (v := ((s0.2.2.1 0) 5)) rfl ?_
  refine z_aload_n (pc := 6) (x := a0) C dX8_draws_6 (i := 0) rfl rfl ?_
  refine z_get (pc := 7) (v := .ref (r0 0)) C 0 dX8_draws_7 fl_RX8_9 rfl rfl ?_
  refine z_iconst (pc := 10) C dX8_draws_10 ic_4 ?_
  refine z_iald (pc := 11) C 1 dX8_draws_11 rfl (by decide) ?_
  refine z_top1 (v := ((s0.2.2.1 0) 4)) rfl ?_
  refine z_icmp_ge (pc := 12) C dX8_draws_12 (tgt := 68) (by decide) (fun hc => ?_) (fun hc => ?_)
  · replace h := (ite_e h).1 hc
    exact z_vret C X dX8_draws_68 (by rw [← Option.some.inj h]; exact ⟨rfl, rfl⟩) (by decide) (by decide)
  · replace h := (ite_e h).2 hc
    refine z_aload_n (pc := 15) (x := a0) C dX8_draws_15 (i := 0) rfl rfl ?_
    refine z_get (pc := 16) (v := .ref (r0 0)) C 0 dX8_draws_16 fl_RX8_9 rfl rfl ?_
    refine z_sipush (pc := 19) C dX8_draws_19 sp_191 ?_
    refine z_iconst (pc := 22) C dX8_draws_22 ic_5 ?_
    refine z_iload_n (pc := 23) (x := p1) C dX8_draws_23 (i := 1) rfl rfl ?_
    refine z_imul (pc := 24) C dX8_draws_24 ?_
    refine z_iadd (pc := 25) C dX8_draws_25 ?_
    refine z_aload_n (pc := 26) (x := a0) C dX8_draws_26 (i := 0) rfl rfl ?_
    refine z_get (pc := 27) (v := .ref (r0 0)) C 0 dX8_draws_27 fl_RX8_9 rfl rfl ?_
    refine z_sipush (pc := 30) C dX8_draws_30 sp_187 ?_
    refine z_iload_n (pc := 33) (x := p1) C dX8_draws_33 (i := 1) rfl rfl ?_
    refine z_iadd (pc := 34) C dX8_draws_34 ?_
    replace h := chk_e h
    obtain ⟨hb1, h⟩ := h
    refine z_iald (pc := 35) C 1 dX8_draws_35 rfl hb1 ?_
    refine z_iadd (pc := 36) C dX8_draws_36 ?_
    replace h := znm_e h
    obtain ⟨x2, hx2, h⟩ := h
    refine z_top1 hx2 ?_
    refine z_aload_n (pc := 37) (x := a0) C dX8_draws_37 (i := 0) rfl rfl ?_
    refine z_get (pc := 38) (v := .ref (r0 0)) C 0 dX8_draws_38 fl_RX8_9 rfl rfl ?_
    refine z_iconst (pc := 41) C dX8_draws_41 ic_5 ?_
    refine z_iald (pc := 42) C 1 dX8_draws_42 rfl (by decide) ?_
    refine z_top1 (v := ((s0.2.2.1 0) 5)) rfl ?_
    replace h := chk_e h
    obtain ⟨hb3, h⟩ := h
    refine z_iast (pc := 43) C 1 dX8_draws_43 rfl hb3 (ws' := (wX8 g a0 r0 (sa s0 0 (upd (s0.2.2.1 0) (x2).toNatClampNeg ((s0.2.2.1 0) 5))))) rfl ?_
    refine z_aload_n (pc := 44) (x := a0) C dX8_draws_44 (i := 0) rfl rfl ?_
    refine z_get (pc := 45) (v := .ref (r0 0)) C 0 dX8_draws_45 fl_RX8_9 rfl rfl ?_
    refine z_sipush (pc := 48) C dX8_draws_48 sp_187 ?_
    refine z_iload_n (pc := 51) (x := p1) C dX8_draws_51 (i := 1) rfl rfl ?_
    refine z_iadd (pc := 52) C dX8_draws_52 ?_
    refine z_dup2 (pc := 53) C dX8_draws_53 rfl rfl ?_
    replace h := chk_e h
    obtain ⟨hb4, h⟩ := h
    refine z_iald (pc := 54) C 1 dX8_draws_54 rfl hb4 ?_
    replace h := znm_e h
    obtain ⟨x5, hx5, h⟩ := h
    refine z_top1 hx5 ?_
    refine z_iconst (pc := 55) C dX8_draws_55 ic_1 ?_
    refine z_iadd (pc := 56) C dX8_draws_56 ?_
    replace h := znm_e h
    obtain ⟨y6, hy6, h⟩ := h
    refine z_wsE (ws' := (wX8 g a0 r0 y6)) (by rw [hy6]) ?_
    replace h := chk_e h
    obtain ⟨hb7, h⟩ := h
    refine z_iast (pc := 57) C 1 dX8_draws_57 rfl hb7 (ws' := (wX8 g a0 r0 (sa y6 0 (upd (y6.2.2.1 0) (((187 : Int32) + p1)).toNatClampNeg (x5 + (1 : Int32)))))) rfl ?_
    refine z_aload_n (pc := 58) (x := a0) C dX8_draws_58 (i := 0) rfl rfl ?_
    refine z_get (pc := 59) (v := .ref (r0 0)) C 0 dX8_draws_59 fl_RX8_9 rfl rfl ?_
    refine z_iconst (pc := 62) C dX8_draws_62 ic_5 ?_
    refine z_dup2 (pc := 63) C dX8_draws_63 rfl rfl ?_
    refine z_iald (pc := 64) C 1 dX8_draws_64 rfl (by decide) ?_
    refine z_top1 (v := ((upd (y6.2.2.1 0) (((187 : Int32) + p1)).toNatClampNeg (x5 + (1 : Int32))) 5)) rfl ?_
    replace h := znm_e h
    obtain ⟨x8, hx8, h⟩ := h
    refine z_top1 hx8 ?_
    refine z_iconst (pc := 65) C dX8_draws_65 ic_1 ?_
    refine z_iadd (pc := 66) C dX8_draws_66 ?_
    replace h := znm_e h
    obtain ⟨y9, hy9, h⟩ := h
    refine z_wsE (ws' := (wX8 g a0 r0 y9)) (by rw [hy9]) ?_
    refine z_iast (pc := 67) C 1 dX8_draws_67 rfl (by decide) (ws' := (wX8 g a0 r0 (sa y9 0 (upd (y9.2.2.1 0) 5 (x8 + (1 : Int32)))))) rfl ?_
    exact z_vret C X dX8_draws_68 (by rw [← Option.some.inj h]; exact ⟨rfl, rfl⟩) (by decide) (by decide)
def f_X8_loadError (N : Nat) (s0 : Ob) : Option (Int32 × Ob) := (some ((s0.1 16), (si s0 7 (0 : Int32))))
theorem m_X8_loadError {g : Gp} {a0 : Nat} {r0 : Nat → Nat} {N : Nat} {s0 : Ob} {res : Int32 × Ob} (hg : Ok g) (h : f_X8_loadError N s0 = some res) : Ct g yX8_loadError cX8_loadError 1 (some .int) (zrm 0 0) [.ref a0] (wX8 g a0 r0 s0) (exR (some (.int res.1)) (wX8 g a0 r0 res.2)) := by
  refine ct_of rfl hg (by show _ ≤ _; exact Nat.le_of_ble_eq_true rfl) (fun K C X => ?_)
  show Zs K 0 0 (wX8 g a0 r0 s0) [(0, .ref a0)] 0 []
  unfold f_X8_loadError at h
  refine z_aload_n (pc := 0) (x := a0) C dX8_loadError_0 (i := 0) rfl rfl ?_
  refine z_iconst (pc := 1) C dX8_loadError_1 ic_0 ?_
  refine z_put (pc := 2) C 0 dX8_loadError_2 fp_RX8_59 rfl rfl rfl (zlt_b rfl) (ws' := (wX8 g a0 r0 (si s0 7 (0 : Int32)))) rfl ?_
  refine z_aload_n (pc := 5) (x := a0) C dX8_loadError_5 (i := 0) rfl rfl ?_
  refine z_get (pc := 6) (v := .int (s0.1 16)) C 0 dX8_loadError_6 fl_RX8_191 rfl rfl ?_
  exact z_iret C X dX8_loadError_9 (by rw [← Option.some.inj h]; exact ⟨rfl, rfl⟩) (by decide) (by decide)
def f_X8_loadStatement (N : Nat) (s0 : Ob) : Option (Int32 × Ob) := (some ((s0.1 17), (si s0 7 (0 : Int32))))
theorem m_X8_loadStatement {g : Gp} {a0 : Nat} {r0 : Nat → Nat} {N : Nat} {s0 : Ob} {res : Int32 × Ob} (hg : Ok g) (h : f_X8_loadStatement N s0 = some res) : Ct g yX8_loadStatement cX8_loadStatement 1 (some .int) (zrm 0 0) [.ref a0] (wX8 g a0 r0 s0) (exR (some (.int res.1)) (wX8 g a0 r0 res.2)) := by
  refine ct_of rfl hg (by show _ ≤ _; exact Nat.le_of_ble_eq_true rfl) (fun K C X => ?_)
  show Zs K 0 0 (wX8 g a0 r0 s0) [(0, .ref a0)] 0 []
  unfold f_X8_loadStatement at h
  refine z_aload_n (pc := 0) (x := a0) C dX8_loadStatement_0 (i := 0) rfl rfl ?_
  refine z_iconst (pc := 1) C dX8_loadStatement_1 ic_0 ?_
  refine z_put (pc := 2) C 0 dX8_loadStatement_2 fp_RX8_59 rfl rfl rfl (zlt_b rfl) (ws' := (wX8 g a0 r0 (si s0 7 (0 : Int32)))) rfl ?_
  refine z_aload_n (pc := 5) (x := a0) C dX8_loadStatement_5 (i := 0) rfl rfl ?_
  refine z_get (pc := 6) (v := .int (s0.1 17)) C 0 dX8_loadStatement_6 fl_RX8_33 rfl rfl ?_
  exact z_iret C X dX8_loadStatement_9 (by rw [← Option.some.inj h]; exact ⟨rfl, rfl⟩) (by decide) (by decide)
def F_X8_score_4 (N : Nat) (s0 : Ob)  (k4 : Int32 → Int32 → Option (Int32)) (v1 : Int32) (v2 : Int32) : Option (Int32) := (if (4 : Int32) ≤ v2 then (some v1) else (chk (inb ((14 : Int32) + v2) 358) (k4 (v1 + ((s0.2.2.1 0) (((14 : Int32) + v2)).toNatClampNeg)) (v2 + (1 : Int32)))))
def f_X8_score_4 (N : Nat) (s0 : Ob)  : Nat → Int32 → Int32 → Option (Int32) := zlp (fun _ _ => none) (F_X8_score_4 N s0)
theorem m_X8_score_4 {K : Kt} {g : Gp} {a0 : Nat} {r0 : Nat → Nat} {N : Nat} {s0 : Ob} {res : Int32} (hg : Ok g) (C : Cx K g cX8_score RX8 3 (zrm 0 0)) (X : Rx K (exR (some (.int res)) (wX8 g a0 r0 s0)) 0 0 (some .int)) : ∀ (n : Nat) (v1 : Int32) (v2 : Int32), f_X8_score_4 N s0 n v1 v2 = some res → Zs K 0 0 (wX8 g a0 r0 s0) [(0, .ref a0), (1, .int v1), (2, .int v2)] 4 [] := by
  intro n
  induction n with
  | zero => intro v1 v2 h; exact nomatch (show (none : Option (Int32)) = some res from h)
  | succ n hk4 =>
    intro v1 v2 h
    replace h : F_X8_score_4 N s0 (f_X8_score_4 N s0 n) v1 v2 = some res := h
    unfold F_X8_score_4 at h
    refine z_iload_n (pc := 4) (x := v2) C dX8_score_4 (i := 2) rfl rfl ?_
    refine z_iconst (pc := 5) C dX8_score_5 ic_4 ?_
    refine z_icmp_ge (pc := 6) C dX8_score_6 (tgt := 27) (by decide) (fun hc => ?_) (fun hc => ?_)
    · replace h := (ite_e h).1 hc
      refine z_iload_n (pc := 27) (x := v1) C dX8_score_27 (i := 1) rfl rfl ?_
      exact z_iret C X dX8_score_28 (by rw [← Option.some.inj h]; exact ⟨rfl, rfl⟩) (by decide) (by decide)
    · replace h := (ite_e h).2 hc
      refine z_iload_n (pc := 9) (x := v1) C dX8_score_9 (i := 1) rfl rfl ?_
      refine z_aload_n (pc := 10) (x := a0) C dX8_score_10 (i := 0) rfl rfl ?_
      refine z_get (pc := 11) (v := .ref (r0 0)) C 0 dX8_score_11 fl_RX8_9 rfl rfl ?_
      refine z_bipush (pc := 14) C dX8_score_14 bp_14 ?_
      refine z_iload_n (pc := 16) (x := v2) C dX8_score_16 (i := 2) rfl rfl ?_
      refine z_iadd (pc := 17) C dX8_score_17 ?_
      replace h := chk_e h
      obtain ⟨hb1, h⟩ := h
      refine z_iald (pc := 18) C 1 dX8_score_18 rfl hb1 ?_
      refine z_iadd (pc := 19) C dX8_score_19 ?_
      refine z_istore_n (pc := 20) C dX8_score_20 (i := 1) rfl (by decide) (lv' := [(1, .int (v1 + ((s0.2.2.1 0) (((14 : Int32) + v2)).toNatClampNeg))), (0, .ref a0), (2, .int v2)]) rfl ?_
      refine z_iinc (pc := 21) C dX8_score_21 rfl (inc_e 1 (1 : Int32) ic_1 v2) (by decide) (lv' := [(2, .int (v2 + (1 : Int32))), (1, .int (v1 + ((s0.2.2.1 0) (((14 : Int32) + v2)).toNatClampNeg))), (0, .ref a0)]) rfl ?_
      refine z_goto (pc := 24) C dX8_score_24 (tgt := 4) (by decide) ?_
      refine z_lv (lv' := [(0, .ref a0), (1, .int (v1 + ((s0.2.2.1 0) (((14 : Int32) + v2)).toNatClampNeg))), (2, .int (v2 + (1 : Int32)))]) [2, 1, 0] rfl ?_
      exact hk4 (v1 + ((s0.2.2.1 0) (((14 : Int32) + v2)).toNatClampNeg)) (v2 + (1 : Int32)) h
def f_X8_score (N : Nat) (s0 : Ob) : Option (Int32) := (f_X8_score_4 N s0 N (0 : Int32) (0 : Int32))
theorem m_X8_score {g : Gp} {a0 : Nat} {r0 : Nat → Nat} {N : Nat} {s0 : Ob} {res : Int32} (hg : Ok g) (h : f_X8_score N s0 = some res) : Ct g yX8_score cX8_score 3 (some .int) (zrm 0 0) [.ref a0] (wX8 g a0 r0 s0) (exR (some (.int res)) (wX8 g a0 r0 s0)) := by
  refine ct_of rfl hg (by show _ ≤ _; exact Nat.le_of_ble_eq_true rfl) (fun K C X => ?_)
  show Zs K 0 0 (wX8 g a0 r0 s0) [(0, .ref a0)] 0 []
  unfold f_X8_score at h
  refine z_iconst (pc := 0) C dX8_score_0 ic_0 ?_
  refine z_istore_n (pc := 1) C dX8_score_1 (i := 1) rfl (by decide) (lv' := [(1, .int (0 : Int32)), (0, .ref a0)]) rfl ?_
  refine z_iconst (pc := 2) C dX8_score_2 ic_0 ?_
  refine z_istore_n (pc := 3) C dX8_score_3 (i := 2) rfl (by decide) (lv' := [(2, .int (0 : Int32)), (1, .int (0 : Int32)), (0, .ref a0)]) rfl ?_
  refine z_lv (lv' := [(0, .ref a0), (1, .int (0 : Int32)), (2, .int (0 : Int32))]) [2, 1, 0] rfl ?_
  exact m_X8_score_4 (a0 := a0) (r0 := r0) hg C X N (0 : Int32) (0 : Int32) h
def f_X8_count (N : Nat) (s0 : Ob) (p1 : Int32) : Option (Int32 × Ob) := (ob (f_X8_in N p1 (0 : Int32) (10 : Int32)) fun x1 => (ob (f_X8_isThrown N s0 x1 (1 : Int32)) fun x2 => (if x2.1 = 0 then (if p1 = (4 : Int32) then (some ((((x2.2.2.2.1 0) 4) - ((x2.2.2.2.1 0) 5)), x2.2)) else (if p1 = (5 : Int32) then (some (((x2.2.2.2.1 0) 7), x2.2)) else (if p1 = (6 : Int32) then (some (((x2.2.2.2.1 0) 8), x2.2)) else (if p1 = (7 : Int32) then (ob (f_X8_score N x2.2) fun x3 => (some (x3, x2.2))) else (if p1 = (8 : Int32) then (some (((x2.2.2.2.1 0) 11), x2.2)) else (if p1 = (9 : Int32) then (some (((x2.2.2.2.1 0) 9), x2.2)) else (if p1 = (10 : Int32) then (some ((x2.2.1 6), x2.2)) else (chk (inb p1 358) (some (((x2.2.2.2.1 0) (p1).toNatClampNeg), x2.2)))))))))) else (some ((0 : Int32), x2.2)))))
theorem m_X8_count {g : Gp} {a0 : Nat} {r0 : Nat → Nat} {N : Nat} {s0 : Ob} {p1 : Int32} {res : Int32 × Ob} (hg : Ok g) (h : f_X8_count N s0 p1 = some res) : Ct g yX8_count cX8_count 2 (some .int) (zrm 1 22) [.ref a0, .int p1] (wX8 g a0 r0 s0) (exR (some (.int res.1)) (wX8 g a0 r0 res.2)) := by
  refine ct_of rfl hg (by show _ ≤ _; exact Nat.le_of_ble_eq_true rfl) (fun K C X => ?_)
  show Zs K 0 0 (wX8 g a0 r0 s0) [(0, .ref a0), (1, .int p1)] 0 []
  unfold f_X8_count at h
  refine z_aload_n (pc := 0) (x := a0) C dX8_count_0 (i := 0) rfl rfl ?_
  refine z_iload_n (pc := 1) (x := p1) C dX8_count_1 (i := 1) rfl rfl ?_
  refine z_iconst (pc := 2) C dX8_count_2 ic_0 ?_
  refine z_bipush (pc := 3) C dX8_count_3 bp_10 ?_
  replace h := ob_e h
  obtain ⟨x1, hx1, h⟩ := h
  refine z_callS (pc := 5) (As := [.int p1, .int (0 : Int32), .int (10 : Int32)]) (rest := [.ref a0]) (wr := (wX8 g a0 r0 s0)) C dX8_count_5 ml_RX8_62 wt_X8_in (m_X8_in hg hx1) [] [0, 1, 2, 3, 4, 5, 6, 7, 8, 9, 10, 11, 12, 13, 14] rfl rfl ⟨by decide, by decide⟩ (Nat.le_of_ble_eq_true rfl) ⟨by decide, by decide⟩ rfl rfl rfl rfl (by decide) (ex_k C (cs' := 0) (ss' := 0) (wF := (wX8 g a0 r0 s0)) [0, 1, 2, 3, 4, 5, 6, 7, 8, 9, 10, 11, 12, 13, 14] rfl rfl ?_)
  refine z_iconst (pc := 8) C dX8_count_8 ic_1 ?_
  replace h := ob_e h
  obtain ⟨x2, hx2, h⟩ := h
  refine z_callV (pc := 9) (As := [.int x1, .int (1 : Int32)]) (rest := []) (wr := ([] : va_W)) C dX8_count_9 ml_RX8_206 wv_X8_isThrown (m_X8_isThrown (a0 := a0) (r0 := r0) hg hx2) [0, 1, 2, 3, 4, 5, 6, 7, 8, 9, 10, 11, 12, 13, 14] [] rfl rfl ⟨by decide, by decide⟩ (Nat.le_of_ble_eq_true rfl) ⟨by decide, by decide⟩ rfl rfl rfl rfl rfl rfl rfl (by decide) (ex_k C (cs' := 0) (ss' := 0) (wF := (wX8 g a0 r0 x2.2)) [0, 1, 2, 3, 4, 5, 6, 7, 8, 9, 10, 11, 12, 13, 14] rfl rfl ?_)
  refine z_if_eq (pc := 12) C dX8_count_12 (tgt := 17) (by decide) (fun hc => ?_) (fun hc => ?_)
  · replace h := (ite_e h).1 hc
    refine z_iload_n (pc := 17) (x := p1) C dX8_count_17 (i := 1) rfl rfl ?_
    refine (Decidable.em (p1 = (4 : Int32))).elim (fun hc => ?_) (fun hn4 => ?_)
    · refine z_tswIn (pc := 18) C (4 : Int32) dX8_count_18 hc (by decide) (by decide) (off := 42) rfl (tgt := 60) (by decide) ?_
      replace h := (ite_e h).1 hc
      refine z_aload_n (pc := 60) (x := a0) C dX8_count_60 (i := 0) rfl rfl ?_
      refine z_get (pc := 61) (v := .ref (r0 0)) C 0 dX8_count_61 fl_RX8_9 rfl rfl ?_
      refine z_iconst (pc := 64) C dX8_count_64 ic_4 ?_
      refine z_iald (pc := 65) C 1 dX8_count_65 rfl (by decide) ?_
      refine z_top1 (v := ((x2.2.2.2.1 0) 4)) rfl ?_
      refine z_aload_n (pc := 66) (x := a0) C dX8_count_66 (i := 0) rfl rfl ?_
      refine z_get (pc := 67) (v := .ref (r0 0)) C 0 dX8_count_67 fl_RX8_9 rfl rfl ?_
      refine z_iconst (pc := 70) C dX8_count_70 ic_5 ?_
      refine z_iald (pc := 71) C 1 dX8_count_71 rfl (by decide) ?_
      refine z_top1 (v := ((x2.2.2.2.1 0) 5)) rfl ?_
      refine z_isub (pc := 72) C dX8_count_72 ?_
      exact z_iret C X dX8_count_73 (by rw [← Option.some.inj h]; exact ⟨rfl, rfl⟩) (by decide) (by decide)
    replace h := (ite_e h).2 hn4
    refine (Decidable.em (p1 = (5 : Int32))).elim (fun hc => ?_) (fun hn5 => ?_)
    · refine z_tswIn (pc := 18) C (5 : Int32) dX8_count_18 hc (by decide) (by decide) (off := 56) rfl (tgt := 74) (by decide) ?_
      replace h := (ite_e h).1 hc
      refine z_aload_n (pc := 74) (x := a0) C dX8_count_74 (i := 0) rfl rfl ?_
      refine z_get (pc := 75) (v := .ref (r0 0)) C 0 dX8_count_75 fl_RX8_9 rfl rfl ?_
      refine z_bipush (pc := 78) C dX8_count_78 bp_7 ?_
      refine z_iald (pc := 80) C 1 dX8_count_80 rfl (by decide) ?_
      refine z_top1 (v := ((x2.2.2.2.1 0) 7)) rfl ?_
      exact z_iret C X dX8_count_81 (by rw [← Option.some.inj h]; exact ⟨rfl, rfl⟩) (by decide) (by decide)
    replace h := (ite_e h).2 hn5
    refine (Decidable.em (p1 = (6 : Int32))).elim (fun hc => ?_) (fun hn6 => ?_)
    · refine z_tswIn (pc := 18) C (6 : Int32) dX8_count_18 hc (by decide) (by decide) (off := 64) rfl (tgt := 82) (by decide) ?_
      replace h := (ite_e h).1 hc
      refine z_aload_n (pc := 82) (x := a0) C dX8_count_82 (i := 0) rfl rfl ?_
      refine z_get (pc := 83) (v := .ref (r0 0)) C 0 dX8_count_83 fl_RX8_9 rfl rfl ?_
      refine z_bipush (pc := 86) C dX8_count_86 bp_8 ?_
      refine z_iald (pc := 88) C 1 dX8_count_88 rfl (by decide) ?_
      refine z_top1 (v := ((x2.2.2.2.1 0) 8)) rfl ?_
      exact z_iret C X dX8_count_89 (by rw [← Option.some.inj h]; exact ⟨rfl, rfl⟩) (by decide) (by decide)
    replace h := (ite_e h).2 hn6
    refine (Decidable.em (p1 = (7 : Int32))).elim (fun hc => ?_) (fun hn7 => ?_)
    · refine z_tswIn (pc := 18) C (7 : Int32) dX8_count_18 hc (by decide) (by decide) (off := 72) rfl (tgt := 90) (by decide) ?_
      replace h := (ite_e h).1 hc
      refine z_aload_n (pc := 90) (x := a0) C dX8_count_90 (i := 0) rfl rfl ?_
      replace h := ob_e h
      obtain ⟨x3, hx3, h⟩ := h
      refine z_callV (pc := 91) (As := []) (rest := []) (wr := ([] : va_W)) C dX8_count_91 ml_RX8_210 wv_X8_score (m_X8_score (a0 := a0) (r0 := r0) hg hx3) [0, 1, 2, 3, 4, 5, 6, 7, 8, 9, 10, 11, 12, 13, 14] [] rfl rfl ⟨by decide, by decide⟩ (Nat.le_of_ble_eq_true rfl) ⟨by decide, by decide⟩ rfl rfl rfl rfl rfl rfl rfl (by decide) (ex_k C (cs' := 0) (ss' := 0) (wF := (wX8 g a0 r0 x2.2)) [0, 1, 2, 3, 4, 5, 6, 7, 8, 9, 10, 11, 12, 13, 14] rfl rfl ?_)
      exact z_iret C X dX8_count_94 (by rw [← Option.some.inj h]; exact ⟨rfl, rfl⟩) (by decide) (by decide)
    replace h := (ite_e h).2 hn7
    refine (Decidable.em (p1 = (8 : Int32))).elim (fun hc => ?_) (fun hn8 => ?_)
    · refine z_tswIn (pc := 18) C (8 : Int32) dX8_count_18 hc (by decide) (by decide) (off := 77) rfl (tgt := 95) (by decide) ?_
      replace h := (ite_e h).1 hc
      refine z_aload_n (pc := 95) (x := a0) C dX8_count_95 (i := 0) rfl rfl ?_
      refine z_get (pc := 96) (v := .ref (r0 0)) C 0 dX8_count_96 fl_RX8_9 rfl rfl ?_
      refine z_bipush (pc := 99) C dX8_count_99 bp_11 ?_
      refine z_iald (pc := 101) C 1 dX8_count_101 rfl (by decide) ?_
      refine z_top1 (v := ((x2.2.2.2.1 0) 11)) rfl ?_
      exact z_iret C X dX8_count_102 (by rw [← Option.some.inj h]; exact ⟨rfl, rfl⟩) (by decide) (by decide)
    replace h := (ite_e h).2 hn8
    refine (Decidable.em (p1 = (9 : Int32))).elim (fun hc => ?_) (fun hn9 => ?_)
    · refine z_tswIn (pc := 18) C (9 : Int32) dX8_count_18 hc (by decide) (by decide) (off := 85) rfl (tgt := 103) (by decide) ?_
      replace h := (ite_e h).1 hc
      refine z_aload_n (pc := 103) (x := a0) C dX8_count_103 (i := 0) rfl rfl ?_
      refine z_get (pc := 104) (v := .ref (r0 0)) C 0 dX8_count_104 fl_RX8_9 rfl rfl ?_
      refine z_bipush (pc := 107) C dX8_count_107 bp_9 ?_
      refine z_iald (pc := 109) C 1 dX8_count_109 rfl (by decide) ?_
      refine z_top1 (v := ((x2.2.2.2.1 0) 9)) rfl ?_
      exact z_iret C X dX8_count_110 (by rw [← Option.some.inj h]; exact ⟨rfl, rfl⟩) (by decide) (by decide)
    replace h := (ite_e h).2 hn9
    refine (Decidable.em (p1 = (10 : Int32))).elim (fun hc => ?_) (fun hn10 => ?_)
    · refine z_tswIn (pc := 18) C (10 : Int32) dX8_count_18 hc (by decide) (by decide) (off := 93) rfl (tgt := 111) (by decide) ?_
      replace h := (ite_e h).1 hc
      refine z_aload_n (pc := 111) (x := a0) C dX8_count_111 (i := 0) rfl rfl ?_
      refine z_get (pc := 112) (v := .int (x2.2.1 6)) C 0 dX8_count_112 fl_RX8_200 rfl rfl ?_
      exact z_iret C X dX8_count_115 (by rw [← Option.some.inj h]; exact ⟨rfl, rfl⟩) (by decide) (by decide)
    replace h := (ite_e h).2 hn10
    refine z_tswOut (pc := 18) C dX8_count_18 (by have e4 := lv_neT hn4 (a := 4) (by decide); have e5 := lv_neT hn5 (a := 5) (by decide); have e6 := lv_neT hn6 (a := 6) (by decide); have e7 := lv_neT hn7 (a := 7) (by decide); have e8 := lv_neT hn8 (a := 8) (by decide); have e9 := lv_neT hn9 (a := 9) (by decide); have e10 := lv_neT hn10 (a := 10) (by decide); omega) (tgt := 116) (by decide) ?_
    refine z_aload_n (pc := 116) (x := a0) C dX8_count_116 (i := 0) rfl rfl ?_
    refine z_get (pc := 117) (v := .ref (r0 0)) C 0 dX8_count_117 fl_RX8_9 rfl rfl ?_
    refine z_iload_n (pc := 120) (x := p1) C dX8_count_120 (i := 1) rfl rfl ?_
    replace h := chk_e h
    obtain ⟨hb4, h⟩ := h
    refine z_iald (pc := 121) C 1 dX8_count_121 rfl hb4 ?_
    exact z_iret C X dX8_count_122 (by rw [← Option.some.inj h]; exact ⟨rfl, rfl⟩) (by decide) (by decide)
  · replace h := (ite_e h).2 hc
    refine z_iconst (pc := 15) C dX8_count_15 ic_0 ?_
    exact z_iret C X dX8_count_16 (by rw [← Option.some.inj h]; exact ⟨rfl, rfl⟩) (by decide) (by decide)
def f_X8_turnOf (N : Nat) (s0 : Ob) : Option (Int32 × Ob) := (if ((s0.2.2.1 0) 12) = 0 then (some (((s0.2.2.1 0) 10), (si s0 7 (0 : Int32)))) else (some ((-1 : Int32), (si s0 7 (0 : Int32)))))
theorem m_X8_turnOf {g : Gp} {a0 : Nat} {r0 : Nat → Nat} {N : Nat} {s0 : Ob} {res : Int32 × Ob} (hg : Ok g) (h : f_X8_turnOf N s0 = some res) : Ct g yX8_turnOf cX8_turnOf 1 (some .int) (zrm 0 0) [.ref a0] (wX8 g a0 r0 s0) (exR (some (.int res.1)) (wX8 g a0 r0 res.2)) := by
  refine ct_of rfl hg (by show _ ≤ _; exact Nat.le_of_ble_eq_true rfl) (fun K C X => ?_)
  show Zs K 0 0 (wX8 g a0 r0 s0) [(0, .ref a0)] 0 []
  unfold f_X8_turnOf at h
  refine z_aload_n (pc := 0) (x := a0) C dX8_turnOf_0 (i := 0) rfl rfl ?_
  refine z_iconst (pc := 1) C dX8_turnOf_1 ic_0 ?_
  refine z_put (pc := 2) C 0 dX8_turnOf_2 fp_RX8_59 rfl rfl rfl (zlt_b rfl) (ws' := (wX8 g a0 r0 (si s0 7 (0 : Int32)))) rfl ?_
  refine z_aload_n (pc := 5) (x := a0) C dX8_turnOf_5 (i := 0) rfl rfl ?_
  refine z_get (pc := 6) (v := .ref (r0 0)) C 0 dX8_turnOf_6 fl_RX8_9 rfl rfl ?_
  refine z_bipush (pc := 9) C dX8_turnOf_9 bp_12 ?_
  refine z_iald (pc := 11) C 1 dX8_turnOf_11 rfl (by decide) ?_
  refine z_top1 (v := ((s0.2.2.1 0) 12)) rfl ?_
  refine z_if_ne (pc := 12) C dX8_turnOf_12 (tgt := 25) (by decide) (fun hc => ?_) (fun hc => ?_)
  · replace h := (ite_e h).2 hc
    refine z_iconst (pc := 25) C dX8_turnOf_25 ic_m1 ?_
    exact z_iret C X dX8_turnOf_26 (by rw [← Option.some.inj h]; exact ⟨rfl, rfl⟩) (by decide) (by decide)
  · replace h := (ite_e h).1 hc
    refine z_aload_n (pc := 15) (x := a0) C dX8_turnOf_15 (i := 0) rfl rfl ?_
    refine z_get (pc := 16) (v := .ref (r0 0)) C 0 dX8_turnOf_16 fl_RX8_9 rfl rfl ?_
    refine z_bipush (pc := 19) C dX8_turnOf_19 bp_10 ?_
    refine z_iald (pc := 21) C 1 dX8_turnOf_21 rfl (by decide) ?_
    refine z_top1 (v := ((s0.2.2.1 0) 10)) rfl ?_
    refine z_goto (pc := 22) C dX8_turnOf_22 (tgt := 26) (by decide) ?_
    exact z_iret C X dX8_turnOf_26 (by rw [← Option.some.inj h]; exact ⟨rfl, rfl⟩) (by decide) (by decide)
def f_X8_over (N : Nat) (s0 : Ob) : Option (Int32 × Ob) := (some (((s0.2.2.1 0) 12), (si s0 7 (0 : Int32))))
theorem m_X8_over {g : Gp} {a0 : Nat} {r0 : Nat → Nat} {N : Nat} {s0 : Ob} {res : Int32 × Ob} (hg : Ok g) (h : f_X8_over N s0 = some res) : Ct g yX8_over cX8_over 1 (some .int) (zrm 0 0) [.ref a0] (wX8 g a0 r0 s0) (exR (some (.int res.1)) (wX8 g a0 r0 res.2)) := by
  refine ct_of rfl hg (by show _ ≤ _; exact Nat.le_of_ble_eq_true rfl) (fun K C X => ?_)
  show Zs K 0 0 (wX8 g a0 r0 s0) [(0, .ref a0)] 0 []
  unfold f_X8_over at h
  refine z_aload_n (pc := 0) (x := a0) C dX8_over_0 (i := 0) rfl rfl ?_
  refine z_iconst (pc := 1) C dX8_over_1 ic_0 ?_
  refine z_put (pc := 2) C 0 dX8_over_2 fp_RX8_59 rfl rfl rfl (zlt_b rfl) (ws' := (wX8 g a0 r0 (si s0 7 (0 : Int32)))) rfl ?_
  refine z_aload_n (pc := 5) (x := a0) C dX8_over_5 (i := 0) rfl rfl ?_
  refine z_get (pc := 6) (v := .ref (r0 0)) C 0 dX8_over_6 fl_RX8_9 rfl rfl ?_
  refine z_bipush (pc := 9) C dX8_over_9 bp_12 ?_
  refine z_iald (pc := 11) C 1 dX8_over_11 rfl (by decide) ?_
  refine z_top1 (v := ((s0.2.2.1 0) 12)) rfl ?_
  exact z_iret C X dX8_over_12 (by rw [← Option.some.inj h]; exact ⟨rfl, rfl⟩) (by decide) (by decide)
def f_X8_pile (N : Nat) (s0 : Ob) (p1 : Int32) : Option (Int32 × Ob) := (ob (f_X8_in N p1 (0 : Int32) (((s0.2.2.1 0) 0) - (1 : Int32))) fun x1 => (ob (f_X8_isThrown N s0 x1 (1 : Int32)) fun x2 => (if x2.1 = 0 then (chk (inb ((14 : Int32) + p1) 358) (some (((x2.2.2.2.1 0) (((14 : Int32) + p1)).toNatClampNeg), x2.2))) else (some ((0 : Int32), x2.2)))))
theorem m_X8_pile {g : Gp} {a0 : Nat} {r0 : Nat → Nat} {N : Nat} {s0 : Ob} {p1 : Int32} {res : Int32 × Ob} (hg : Ok g) (h : f_X8_pile N s0 p1 = some res) : Ct g yX8_pile cX8_pile 2 (some .int) (zrm 1 22) [.ref a0, .int p1] (wX8 g a0 r0 s0) (exR (some (.int res.1)) (wX8 g a0 r0 res.2)) := by
  refine ct_of rfl hg (by show _ ≤ _; exact Nat.le_of_ble_eq_true rfl) (fun K C X => ?_)
  show Zs K 0 0 (wX8 g a0 r0 s0) [(0, .ref a0), (1, .int p1)] 0 []
  unfold f_X8_pile at h
  refine z_aload_n (pc := 0) (x := a0) C dX8_pile_0 (i := 0) rfl rfl ?_
  refine z_iload_n (pc := 1) (x := p1) C dX8_pile_1 (i := 1) rfl rfl ?_
  refine z_iconst (pc := 2) C dX8_pile_2 ic_0 ?_
  refine z_aload_n (pc := 3) (x := a0) C dX8_pile_3 (i := 0) rfl rfl ?_
  refine z_get (pc := 4) (v := .ref (r0 0)) C 0 dX8_pile_4 fl_RX8_9 rfl rfl ?_
  refine z_iconst (pc := 7) C dX8_pile_7 ic_0 ?_
  refine z_iald (pc := 8) C 1 dX8_pile_8 rfl (by decide) ?_
  refine z_top1 (v := ((s0.2.2.1 0) 0)) rfl ?_
  refine z_iconst (pc := 9) C dX8_pile_9 ic_1 ?_
  refine z_isub (pc := 10) C dX8_pile_10 ?_
  replace h := ob_e h
  obtain ⟨x1, hx1, h⟩ := h
  refine z_callS (pc := 11) (As := [.int p1, .int (0 : Int32), .int (((s0.2.2.1 0) 0) - (1 : Int32))]) (rest := [.ref a0]) (wr := (wX8 g a0 r0 s0)) C dX8_pile_11 ml_RX8_62 wt_X8_in (m_X8_in hg hx1) [] [0, 1, 2, 3, 4, 5, 6, 7, 8, 9, 10, 11, 12, 13, 14] rfl rfl ⟨by decide, by decide⟩ (Nat.le_of_ble_eq_true rfl) ⟨by decide, by decide⟩ rfl rfl rfl rfl (by decide) (ex_k C (cs' := 0) (ss' := 0) (wF := (wX8 g a0 r0 s0)) [0, 1, 2, 3, 4, 5, 6, 7, 8, 9, 10, 11, 12, 13, 14] rfl rfl ?_)
  refine z_iconst (pc := 14) C dX8_pile_14 ic_1 ?_
  replace h := ob_e h
  obtain ⟨x2, hx2, h⟩ := h
  refine z_callV (pc := 15) (As := [.int x1, .int (1 : Int32)]) (rest := []) (wr := ([] : va_W)) C dX8_pile_15 ml_RX8_206 wv_X8_isThrown (m_X8_isThrown (a0 := a0) (r0 := r0) hg hx2) [0, 1, 2, 3, 4, 5, 6, 7, 8, 9, 10, 11, 12, 13, 14] [] rfl rfl ⟨by decide, by decide⟩ (Nat.le_of_ble_eq_true rfl) ⟨by decide, by decide⟩ rfl rfl rfl rfl rfl rfl rfl (by decide) (ex_k C (cs' := 0) (ss' := 0) (wF := (wX8 g a0 r0 x2.2)) [0, 1, 2, 3, 4, 5, 6, 7, 8, 9, 10, 11, 12, 13, 14] rfl rfl ?_)
  refine z_if_eq (pc := 18) C dX8_pile_18 (tgt := 25) (by decide) (fun hc => ?_) (fun hc => ?_)
  · replace h := (ite_e h).1 hc
    refine z_aload_n (pc := 25) (x := a0) C dX8_pile_25 (i := 0) rfl rfl ?_
    refine z_get (pc := 26) (v := .ref (r0 0)) C 0 dX8_pile_26 fl_RX8_9 rfl rfl ?_
    refine z_bipush (pc := 29) C dX8_pile_29 bp_14 ?_
    refine z_iload_n (pc := 31) (x := p1) C dX8_pile_31 (i := 1) rfl rfl ?_
    refine z_iadd (pc := 32) C dX8_pile_32 ?_
    replace h := chk_e h
    obtain ⟨hb3, h⟩ := h
    refine z_iald (pc := 33) C 1 dX8_pile_33 rfl hb3 ?_
    exact z_iret C X dX8_pile_34 (by rw [← Option.some.inj h]; exact ⟨rfl, rfl⟩) (by decide) (by decide)
  · replace h := (ite_e h).2 hc
    refine z_iconst (pc := 21) C dX8_pile_21 ic_0 ?_
    refine z_goto (pc := 22) C dX8_pile_22 (tgt := 34) (by decide) ?_
    exact z_iret C X dX8_pile_34 (by rw [← Option.some.inj h]; exact ⟨rfl, rfl⟩) (by decide) (by decide)
def f_X8_hand (N : Nat) (s0 : Ob) (p1 : Int32) : Option (Int32 × Ob) := (ob (f_X8_isPlayer N s0 p1) fun x1 => (ob (f_X8_isThrown N s0 x1 (1 : Int32)) fun x2 => (if x2.1 = 0 then (chk (inb ((187 : Int32) + p1) 358) (some (((x2.2.2.2.1 0) (((187 : Int32) + p1)).toNatClampNeg), x2.2))) else (some ((0 : Int32), x2.2)))))
theorem m_X8_hand {g : Gp} {a0 : Nat} {r0 : Nat → Nat} {N : Nat} {s0 : Ob} {p1 : Int32} {res : Int32 × Ob} (hg : Ok g) (h : f_X8_hand N s0 p1 = some res) : Ct g yX8_hand cX8_hand 2 (some .int) (zrm 2 43) [.ref a0, .int p1] (wX8 g a0 r0 s0) (exR (some (.int res.1)) (wX8 g a0 r0 res.2)) := by
  refine ct_of rfl hg (by show _ ≤ _; exact Nat.le_of_ble_eq_true rfl) (fun K C X => ?_)
  show Zs K 0 0 (wX8 g a0 r0 s0) [(0, .ref a0), (1, .int p1)] 0 []
  unfold f_X8_hand at h
  refine z_aload_n (pc := 0) (x := a0) C dX8_hand_0 (i := 0) rfl rfl ?_
  refine z_aload_n (pc := 1) (x := a0) C dX8_hand_1 (i := 0) rfl rfl ?_
  refine z_iload_n (pc := 2) (x := p1) C dX8_hand_2 (i := 1) rfl rfl ?_
  replace h := ob_e h
  obtain ⟨x1, hx1, h⟩ := h
  refine z_callV (pc := 3) (As := [.int p1]) (rest := [.ref a0]) (wr := ([] : va_W)) C dX8_hand_3 ml_RX8_66 wv_X8_isPlayer (m_X8_isPlayer (a0 := a0) (r0 := r0) hg hx1) [0, 1, 2, 3, 4, 5, 6, 7, 8, 9, 10, 11, 12, 13, 14] [] rfl rfl ⟨by decide, by decide⟩ (Nat.le_of_ble_eq_true rfl) ⟨by decide, by decide⟩ rfl rfl rfl rfl rfl rfl rfl (by decide) (ex_k C (cs' := 0) (ss' := 0) (wF := (wX8 g a0 r0 s0)) [0, 1, 2, 3, 4, 5, 6, 7, 8, 9, 10, 11, 12, 13, 14] rfl rfl ?_)
  refine z_iconst (pc := 6) C dX8_hand_6 ic_1 ?_
  replace h := ob_e h
  obtain ⟨x2, hx2, h⟩ := h
  refine z_callV (pc := 7) (As := [.int x1, .int (1 : Int32)]) (rest := []) (wr := ([] : va_W)) C dX8_hand_7 ml_RX8_206 wv_X8_isThrown (m_X8_isThrown (a0 := a0) (r0 := r0) hg hx2) [0, 1, 2, 3, 4, 5, 6, 7, 8, 9, 10, 11, 12, 13, 14] [] rfl rfl ⟨by decide, by decide⟩ (Nat.le_of_ble_eq_true rfl) ⟨by decide, by decide⟩ rfl rfl rfl rfl rfl rfl rfl (by decide) (ex_k C (cs' := 0) (ss' := 0) (wF := (wX8 g a0 r0 x2.2)) [0, 1, 2, 3, 4, 5, 6, 7, 8, 9, 10, 11, 12, 13, 14] rfl rfl ?_)
  refine z_if_eq (pc := 10) C dX8_hand_10 (tgt := 17) (by decide) (fun hc => ?_) (fun hc => ?_)
  · replace h := (ite_e h).1 hc
    refine z_aload_n (pc := 17) (x := a0) C dX8_hand_17 (i := 0) rfl rfl ?_
    refine z_get (pc := 18) (v := .ref (r0 0)) C 0 dX8_hand_18 fl_RX8_9 rfl rfl ?_
    refine z_sipush (pc := 21) C dX8_hand_21 sp_187 ?_
    refine z_iload_n (pc := 24) (x := p1) C dX8_hand_24 (i := 1) rfl rfl ?_
    refine z_iadd (pc := 25) C dX8_hand_25 ?_
    replace h := chk_e h
    obtain ⟨hb3, h⟩ := h
    refine z_iald (pc := 26) C 1 dX8_hand_26 rfl hb3 ?_
    exact z_iret C X dX8_hand_27 (by rw [← Option.some.inj h]; exact ⟨rfl, rfl⟩) (by decide) (by decide)
  · replace h := (ite_e h).2 hc
    refine z_iconst (pc := 13) C dX8_hand_13 ic_0 ?_
    refine z_goto (pc := 14) C dX8_hand_14 (tgt := 27) (by decide) ?_
    exact z_iret C X dX8_hand_27 (by rw [← Option.some.inj h]; exact ⟨rfl, rfl⟩) (by decide) (by decide)
def f_X8_card (N : Nat) (s0 : Ob) (p1 : Int32) (p2 : Int32) : Option (Int32 × Ob) := (ob (f_X8_isPlace N s0 p1 p2) fun x1 => (ob (f_X8_isThrown N s0 x1 (1 : Int32)) fun x2 => (if x2.1 = 0 then (ob (f_X8_held N x2.2 p1 p2) fun x3 => (chk (inb ((27 : Int32) + x3) 358) (ob (f_X8_told N ((x2.2.2.2.1 0) (((27 : Int32) + x3)).toNatClampNeg)) fun x5 => (some (x5, x2.2))))) else (some ((0 : Int32), x2.2)))))
theorem m_X8_card {g : Gp} {a0 : Nat} {r0 : Nat → Nat} {N : Nat} {s0 : Ob} {p1 : Int32} {p2 : Int32} {res : Int32 × Ob} (hg : Ok g) (h : f_X8_card N s0 p1 p2 = some res) : Ct g yX8_card cX8_card 3 (some .int) (zrm 3 65) [.ref a0, .int p1, .int p2] (wX8 g a0 r0 s0) (exR (some (.int res.1)) (wX8 g a0 r0 res.2)) := by
  refine ct_of rfl hg (by show _ ≤ _; exact Nat.le_of_ble_eq_true rfl) (fun K C X => ?_)
  show Zs K 0 0 (wX8 g a0 r0 s0) [(0, .ref a0), (1, .int p1), (2, .int p2)] 0 []
  unfold f_X8_card at h
  refine z_aload_n (pc := 0) (x := a0) C dX8_card_0 (i := 0) rfl rfl ?_
  refine z_aload_n (pc := 1) (x := a0) C dX8_card_1 (i := 0) rfl rfl ?_
  refine z_iload_n (pc := 2) (x := p1) C dX8_card_2 (i := 1) rfl rfl ?_
  refine z_iload_n (pc := 3) (x := p2) C dX8_card_3 (i := 2) rfl rfl ?_
  replace h := ob_e h
  obtain ⟨x1, hx1, h⟩ := h
  refine z_callV (pc := 4) (As := [.int p1, .int p2]) (rest := [.ref a0]) (wr := ([] : va_W)) C dX8_card_4 ml_RX8_213 wv_X8_isPlace (m_X8_isPlace (a0 := a0) (r0 := r0) hg hx1) [0, 1, 2, 3, 4, 5, 6, 7, 8, 9, 10, 11, 12, 13, 14] [] rfl rfl ⟨by decide, by decide⟩ (Nat.le_of_ble_eq_true rfl) ⟨by decide, by decide⟩ rfl rfl rfl rfl rfl rfl rfl (by decide) (ex_k C (cs' := 0) (ss' := 0) (wF := (wX8 g a0 r0 s0)) [0, 1, 2, 3, 4, 5, 6, 7, 8, 9, 10, 11, 12, 13, 14] rfl rfl ?_)
  refine z_iconst (pc := 7) C dX8_card_7 ic_1 ?_
  replace h := ob_e h
  obtain ⟨x2, hx2, h⟩ := h
  refine z_callV (pc := 8) (As := [.int x1, .int (1 : Int32)]) (rest := []) (wr := ([] : va_W)) C dX8_card_8 ml_RX8_206 wv_X8_isThrown (m_X8_isThrown (a0 := a0) (r0 := r0) hg hx2) [0, 1, 2, 3, 4, 5, 6, 7, 8, 9, 10, 11, 12, 13, 14] [] rfl rfl ⟨by decide, by decide⟩ (Nat.le_of_ble_eq_true rfl) ⟨by decide, by decide⟩ rfl rfl rfl rfl rfl rfl rfl (by decide) (ex_k C (cs' := 0) (ss' := 0) (wF := (wX8 g a0 r0 x2.2)) [0, 1, 2, 3, 4, 5, 6, 7, 8, 9, 10, 11, 12, 13, 14] rfl rfl ?_)
  refine z_if_eq (pc := 11) C dX8_card_11 (tgt := 18) (by decide) (fun hc => ?_) (fun hc => ?_)
  · replace h := (ite_e h).1 hc
    refine z_aload_n (pc := 18) (x := a0) C dX8_card_18 (i := 0) rfl rfl ?_
    refine z_get (pc := 19) (v := .ref (r0 0)) C 0 dX8_card_19 fl_RX8_9 rfl rfl ?_
    refine z_bipush (pc := 22) C dX8_card_22 bp_27 ?_
    refine z_aload_n (pc := 24) (x := a0) C dX8_card_24 (i := 0) rfl rfl ?_
    refine z_iload_n (pc := 25) (x := p1) C dX8_card_25 (i := 1) rfl rfl ?_
    refine z_iload_n (pc := 26) (x := p2) C dX8_card_26 (i := 2) rfl rfl ?_
    replace h := ob_e h
    obtain ⟨x3, hx3, h⟩ := h
    refine z_callV (pc := 27) (As := [.int p1, .int p2]) (rest := [.int (27 : Int32), .ref (r0 0)]) (wr := ([] : va_W)) C dX8_card_27 ml_RX8_217 wv_X8_held (m_X8_held (a0 := a0) (r0 := r0) hg hx3) [0, 1, 2, 3, 4, 5, 6, 7, 8, 9, 10, 11, 12, 13, 14] [] rfl rfl ⟨by decide, by decide⟩ (Nat.le_of_ble_eq_true rfl) ⟨by decide, by decide⟩ rfl rfl rfl rfl rfl rfl rfl (by decide) (ex_k C (cs' := 0) (ss' := 0) (wF := (wX8 g a0 r0 x2.2)) [0, 1, 2, 3, 4, 5, 6, 7, 8, 9, 10, 11, 12, 13, 14] rfl rfl ?_)
    refine z_iadd (pc := 30) C dX8_card_30 ?_
    replace h := chk_e h
    obtain ⟨hb4, h⟩ := h
    refine z_iald (pc := 31) C 1 dX8_card_31 rfl hb4 ?_
    replace h := ob_e h
    obtain ⟨x5, hx5, h⟩ := h
    refine z_callS (pc := 32) (As := [.int ((x2.2.2.2.1 0) (((27 : Int32) + x3)).toNatClampNeg)]) (rest := []) (wr := (wX8 g a0 r0 x2.2)) C dX8_card_32 ml_RX8_220 wt_X8_told (m_X8_told hg hx5) [] [0, 1, 2, 3, 4, 5, 6, 7, 8, 9, 10, 11, 12, 13, 14] rfl rfl ⟨by decide, by decide⟩ (Nat.le_of_ble_eq_true rfl) ⟨by decide, by decide⟩ rfl rfl rfl rfl (by decide) (ex_k C (cs' := 0) (ss' := 0) (wF := (wX8 g a0 r0 x2.2)) [0, 1, 2, 3, 4, 5, 6, 7, 8, 9, 10, 11, 12, 13, 14] rfl rfl ?_)
    exact z_iret C X dX8_card_35 (by rw [← Option.some.inj h]; exact ⟨rfl, rfl⟩) (by decide) (by decide)
  · replace h := (ite_e h).2 hc
    refine z_iconst (pc := 14) C dX8_card_14 ic_0 ?_
    refine z_goto (pc := 15) C dX8_card_15 (tgt := 35) (by decide) ?_
    exact z_iret C X dX8_card_35 (by rw [← Option.some.inj h]; exact ⟨rfl, rfl⟩) (by decide) (by decide)
def f_X8_drawn (N : Nat) (s0 : Ob) (p1 : Int32) : Option (Int32 × Ob) := (ob (f_X8_in N p1 (0 : Int32) ((((s0.2.2.1 0) 4) - ((s0.2.2.1 0) 5)) - (1 : Int32))) fun x1 => (if x1 = 0 then (some ((-1 : Int32), (si s0 7 (0 : Int32)))) else (chk (inb (((27 : Int32) + ((s0.2.2.1 0) 5)) + p1) 358) (znm ((s0.2.2.1 0) ((((27 : Int32) + ((s0.2.2.1 0) 5)) + p1)).toNatClampNeg) fun x3 => (ob (f_X8_told N x3) fun x4 => (some (x4, (si s0 7 (0 : Int32)))))))))
theorem m_X8_drawn {g : Gp} {a0 : Nat} {r0 : Nat → Nat} {N : Nat} {s0 : Ob} {p1 : Int32} {res : Int32 × Ob} (hg : Ok g) (h : f_X8_drawn N s0 p1 = some res) : Ct g yX8_drawn cX8_drawn 2 (some .int) (zrm 2 40) [.ref a0, .int p1] (wX8 g a0 r0 s0) (exR (some (.int res.1)) (wX8 g a0 r0 res.2)) := by
  refine ct_of rfl hg (by show _ ≤ _; exact Nat.le_of_ble_eq_true rfl) (fun K C X => ?_)
  show Zs K 0 0 (wX8 g a0 r0 s0) [(0, .ref a0), (1, .int p1)] 0 []
  unfold f_X8_drawn at h
  refine z_aload_n (pc := 0) (x := a0) C dX8_drawn_0 (i := 0) rfl rfl ?_
  refine z_iconst (pc := 1) C dX8_drawn_1 ic_0 ?_
  refine z_put (pc := 2) C 0 dX8_drawn_2 fp_RX8_59 rfl rfl rfl (zlt_b rfl) (ws' := (wX8 g a0 r0 (si s0 7 (0 : Int32)))) rfl ?_
  refine z_iload_n (pc := 5) (x := p1) C dX8_drawn_5 (i := 1) rfl rfl ?_
  refine z_iconst (pc := 6) C dX8_drawn_6 ic_0 ?_
  refine z_aload_n (pc := 7) (x := a0) C dX8_drawn_7 (i := 0) rfl rfl ?_
  refine z_get (pc := 8) (v := .ref (r0 0)) C 0 dX8_drawn_8 fl_RX8_9 rfl rfl ?_
  refine z_iconst (pc := 11) C dX8_drawn_11 ic_4 ?_
  refine z_iald (pc := 12) C 1 dX8_drawn_12 rfl (by decide) ?_
  refine z_top1 (v := ((s0.2.2.1 0) 4)) rfl ?_
  refine z_aload_n (pc := 13) (x := a0) C dX8_drawn_13 (i := 0) rfl rfl ?_
  refine z_get (pc := 14) (v := .ref (r0 0)) C 0 dX8_drawn_14 fl_RX8_9 rfl rfl ?_
  refine z_iconst (pc := 17) C dX8_drawn_17 ic_5 ?_
  refine z_iald (pc := 18) C 1 dX8_drawn_18 rfl (by decide) ?_
  refine z_top1 (v := ((s0.2.2.1 0) 5)) rfl ?_
  refine z_isub (pc := 19) C dX8_drawn_19 ?_
  refine z_iconst (pc := 20) C dX8_drawn_20 ic_1 ?_
  refine z_isub (pc := 21) C dX8_drawn_21 ?_
  replace h := ob_e h
  obtain ⟨x1, hx1, h⟩ := h
  refine z_callS (pc := 22) (As := [.int p1, .int (0 : Int32), .int ((((s0.2.2.1 0) 4) - ((s0.2.2.1 0) 5)) - (1 : Int32))]) (rest := []) (wr := (wX8 g a0 r0 (si s0 7 (0 : Int32)))) C dX8_drawn_22 ml_RX8_62 wt_X8_in (m_X8_in hg hx1) [] [0, 1, 2, 3, 4, 5, 6, 7, 8, 9, 10, 11, 12, 13, 14] rfl rfl ⟨by decide, by decide⟩ (Nat.le_of_ble_eq_true rfl) ⟨by decide, by decide⟩ rfl rfl rfl rfl (by decide) (ex_k C (cs' := 0) (ss' := 0) (wF := (wX8 g a0 r0 (si s0 7 (0 : Int32)))) [0, 1, 2, 3, 4, 5, 6, 7, 8, 9, 10, 11, 12, 13, 14] rfl rfl ?_)
  refine z_if_eq (pc := 25) C dX8_drawn_25 (tgt := 50) (by decide) (fun hc => ?_) (fun hc => ?_)
  · replace h := (ite_e h).1 hc
    refine z_iconst (pc := 50) C dX8_drawn_50 ic_m1 ?_
    exact z_iret C X dX8_drawn_51 (by rw [← Option.some.inj h]; exact ⟨rfl, rfl⟩) (by decide) (by decide)
  · replace h := (ite_e h).2 hc
    refine z_aload_n (pc := 28) (x := a0) C dX8_drawn_28 (i := 0) rfl rfl ?_
    refine z_get (pc := 29) (v := .ref (r0 0)) C 0 dX8_drawn_29 fl_RX8_9 rfl rfl ?_
    refine z_bipush (pc := 32) C dX8_drawn_32 bp_27 ?_
    refine z_aload_n (pc := 34) (x := a0) C dX8_drawn_34 (i := 0) rfl rfl ?_
    refine z_get (pc := 35) (v := .ref (r0 0)) C 0 dX8_drawn_35 fl_RX8_9 rfl rfl ?_
    refine z_iconst (pc := 38) C dX8_drawn_38 ic_5 ?_
    refine z_iald (pc := 39) C 1 dX8_drawn_39 rfl (by decide) ?_
    refine z_top1 (v := ((s0.2.2.1 0) 5)) rfl ?_
    refine z_iadd (pc := 40) C dX8_drawn_40 ?_
    refine z_iload_n (pc := 41) (x := p1) C dX8_drawn_41 (i := 1) rfl rfl ?_
    refine z_iadd (pc := 42) C dX8_drawn_42 ?_
    replace h := chk_e h
    obtain ⟨hb2, h⟩ := h
    refine z_iald (pc := 43) C 1 dX8_drawn_43 rfl hb2 ?_
    replace h := znm_e h
    obtain ⟨x3, hx3, h⟩ := h
    refine z_top1 hx3 ?_
    replace h := ob_e h
    obtain ⟨x4, hx4, h⟩ := h
    refine z_callS (pc := 44) (As := [.int x3]) (rest := []) (wr := (wX8 g a0 r0 (si s0 7 (0 : Int32)))) C dX8_drawn_44 ml_RX8_220 wt_X8_told (m_X8_told hg hx4) [] [0, 1, 2, 3, 4, 5, 6, 7, 8, 9, 10, 11, 12, 13, 14] rfl rfl ⟨by decide, by decide⟩ (Nat.le_of_ble_eq_true rfl) ⟨by decide, by decide⟩ rfl rfl rfl rfl (by decide) (ex_k C (cs' := 0) (ss' := 0) (wF := (wX8 g a0 r0 (si s0 7 (0 : Int32)))) [0, 1, 2, 3, 4, 5, 6, 7, 8, 9, 10, 11, 12, 13, 14] rfl rfl ?_)
    refine z_goto (pc := 47) C dX8_drawn_47 (tgt := 51) (by decide) ?_
    exact z_iret C X dX8_drawn_51 (by rw [← Option.some.inj h]; exact ⟨rfl, rfl⟩) (by decide) (by decide)
def F_X8_inDeck_5 (N : Nat) (s0 : Ob) (p1 : Int32) (p2 : Int32)  (k5 : Int32 → Int32 → Option (Int32)) (v3 : Int32) (v4 : Int32) : Option (Int32) := (if ((s0.2.2.1 0) 4) ≤ v4 then (some v3) else (chk (inb ((27 : Int32) + v4) 358) (if ((s0.2.2.1 0) (((27 : Int32) + v4)).toNatClampNeg) = p1 then (k5 (v3 + (1 : Int32)) (v4 + (1 : Int32))) else (k5 (v3 + (0 : Int32)) (v4 + (1 : Int32))))))
def f_X8_inDeck_5 (N : Nat) (s0 : Ob) (p1 : Int32) (p2 : Int32)  : Nat → Int32 → Int32 → Option (Int32) := zlp (fun _ _ => none) (F_X8_inDeck_5 N s0 p1 p2)
theorem m_X8_inDeck_5 {K : Kt} {g : Gp} {a0 : Nat} {r0 : Nat → Nat} {N : Nat} {s0 : Ob} {p1 : Int32} {p2 : Int32} {res : Int32} (hg : Ok g) (C : Cx K g cX8_inDeck RX8 5 (zrm 0 0)) (X : Rx K (exR (some (.int res)) (wX8 g a0 r0 s0)) 0 0 (some .int)) : ∀ (n : Nat) (v3 : Int32) (v4 : Int32), f_X8_inDeck_5 N s0 p1 p2 n v3 v4 = some res → Zs K 0 0 (wX8 g a0 r0 s0) [(0, .ref a0), (1, .int p1), (3, .int v3), (4, .int v4)] 5 [] := by
  intro n
  induction n with
  | zero => intro v3 v4 h; exact nomatch (show (none : Option (Int32)) = some res from h)
  | succ n hk5 =>
    intro v3 v4 h
    replace h : F_X8_inDeck_5 N s0 p1 p2 (f_X8_inDeck_5 N s0 p1 p2 n) v3 v4 = some res := h
    unfold F_X8_inDeck_5 at h
    refine z_iload (pc := 5) (x := v4) C dX8_inDeck_5 rfl ?_
    refine z_aload_n (pc := 7) (x := a0) C dX8_inDeck_7 (i := 0) rfl rfl ?_
    refine z_get (pc := 8) (v := .ref (r0 0)) C 0 dX8_inDeck_8 fl_RX8_9 rfl rfl ?_
    refine z_iconst (pc := 11) C dX8_inDeck_11 ic_4 ?_
    refine z_iald (pc := 12) C 1 dX8_inDeck_12 rfl (by decide) ?_
    refine z_top1 (v := ((s0.2.2.1 0) 4)) rfl ?_
    refine z_icmp_ge (pc := 13) C dX8_inDeck_13 (tgt := 44) (by decide) (fun hc => ?_) (fun hc => ?_)
    · replace h := (ite_e h).1 hc
      refine z_iload_n (pc := 44) (x := v3) C dX8_inDeck_44 (i := 3) rfl rfl ?_
      exact z_iret C X dX8_inDeck_45 (by rw [← Option.some.inj h]; exact ⟨rfl, rfl⟩) (by decide) (by decide)
    · replace h := (ite_e h).2 hc
      refine z_iload_n (pc := 16) (x := v3) C dX8_inDeck_16 (i := 3) rfl rfl ?_
      refine z_aload_n (pc := 17) (x := a0) C dX8_inDeck_17 (i := 0) rfl rfl ?_
      refine z_get (pc := 18) (v := .ref (r0 0)) C 0 dX8_inDeck_18 fl_RX8_9 rfl rfl ?_
      refine z_bipush (pc := 21) C dX8_inDeck_21 bp_27 ?_
      refine z_iload (pc := 23) (x := v4) C dX8_inDeck_23 rfl ?_
      refine z_iadd (pc := 25) C dX8_inDeck_25 ?_
      replace h := chk_e h
      obtain ⟨hb1, h⟩ := h
      refine z_iald (pc := 26) C 1 dX8_inDeck_26 rfl hb1 ?_
      refine z_iload_n (pc := 27) (x := p1) C dX8_inDeck_27 (i := 1) rfl rfl ?_
      refine z_icmp_ne (pc := 28) C dX8_inDeck_28 (tgt := 35) (by decide) (fun hc => ?_) (fun hc => ?_)
      · replace h := (ite_e h).2 hc
        refine z_iconst (pc := 35) C dX8_inDeck_35 ic_0 ?_
        refine z_iadd (pc := 36) C dX8_inDeck_36 ?_
        refine z_istore_n (pc := 37) C dX8_inDeck_37 (i := 3) rfl (by decide) (lv' := [(3, .int (v3 + (0 : Int32))), (0, .ref a0), (1, .int p1), (4, .int v4)]) rfl ?_
        refine z_iinc (pc := 38) C dX8_inDeck_38 rfl (inc_e 1 (1 : Int32) ic_1 v4) (by decide) (lv' := [(4, .int (v4 + (1 : Int32))), (3, .int (v3 + (0 : Int32))), (0, .ref a0), (1, .int p1)]) rfl ?_
        refine z_goto (pc := 41) C dX8_inDeck_41 (tgt := 5) (by decide) ?_
        refine z_lv (lv' := [(0, .ref a0), (1, .int p1), (3, .int (v3 + (0 : Int32))), (4, .int (v4 + (1 : Int32)))]) [2, 3, 1, 0] rfl ?_
        exact hk5 (v3 + (0 : Int32)) (v4 + (1 : Int32)) h
      · replace h := (ite_e h).1 hc
        refine z_iconst (pc := 31) C dX8_inDeck_31 ic_1 ?_
        refine z_goto (pc := 32) C dX8_inDeck_32 (tgt := 36) (by decide) ?_
        refine z_iadd (pc := 36) C dX8_inDeck_36 ?_
        refine z_istore_n (pc := 37) C dX8_inDeck_37 (i := 3) rfl (by decide) (lv' := [(3, .int (v3 + (1 : Int32))), (0, .ref a0), (1, .int p1), (4, .int v4)]) rfl ?_
        refine z_iinc (pc := 38) C dX8_inDeck_38 rfl (inc_e 1 (1 : Int32) ic_1 v4) (by decide) (lv' := [(4, .int (v4 + (1 : Int32))), (3, .int (v3 + (1 : Int32))), (0, .ref a0), (1, .int p1)]) rfl ?_
        refine z_goto (pc := 41) C dX8_inDeck_41 (tgt := 5) (by decide) ?_
        refine z_lv (lv' := [(0, .ref a0), (1, .int p1), (3, .int (v3 + (1 : Int32))), (4, .int (v4 + (1 : Int32)))]) [2, 3, 1, 0] rfl ?_
        exact hk5 (v3 + (1 : Int32)) (v4 + (1 : Int32)) h
def f_X8_inDeck (N : Nat) (s0 : Ob) (p1 : Int32) (p2 : Int32) : Option (Int32) := (f_X8_inDeck_5 N s0 p1 p2 N (0 : Int32) p2)
theorem m_X8_inDeck {g : Gp} {a0 : Nat} {r0 : Nat → Nat} {N : Nat} {s0 : Ob} {p1 : Int32} {p2 : Int32} {res : Int32} (hg : Ok g) (h : f_X8_inDeck N s0 p1 p2 = some res) : Ct g yX8_inDeck cX8_inDeck 5 (some .int) (zrm 0 0) [.ref a0, .int p1, .int p2] (wX8 g a0 r0 s0) (exR (some (.int res)) (wX8 g a0 r0 s0)) := by
  refine ct_of rfl hg (by show _ ≤ _; exact Nat.le_of_ble_eq_true rfl) (fun K C X => ?_)
  show Zs K 0 0 (wX8 g a0 r0 s0) [(0, .ref a0), (1, .int p1), (2, .int p2)] 0 []
  unfold f_X8_inDeck at h
  refine z_iconst (pc := 0) C dX8_inDeck_0 ic_0 ?_
  refine z_istore_n (pc := 1) C dX8_inDeck_1 (i := 3) rfl (by decide) (lv' := [(3, .int (0 : Int32)), (0, .ref a0), (1, .int p1), (2, .int p2)]) rfl ?_
  refine z_iload_n (pc := 2) (x := p2) C dX8_inDeck_2 (i := 2) rfl rfl ?_
  refine z_istore (pc := 3) C dX8_inDeck_3 (by decide) (lv' := [(4, .int p2), (3, .int (0 : Int32)), (0, .ref a0), (1, .int p1), (2, .int p2)]) rfl ?_
  refine z_lv (lv' := [(0, .ref a0), (1, .int p1), (3, .int (0 : Int32)), (4, .int p2)]) [2, 3, 1, 0] rfl ?_
  exact m_X8_inDeck_5 (a0 := a0) (r0 := r0) hg C X N (0 : Int32) p2 h
def F_X8_inHands_19 (N : Nat) (s0 : Ob) (p1 : Int32) (p2 : Int32) (k5 : Int32 → Int32 → Option (Int32)) (k19 : Int32 → Int32 → Int32 → Option (Int32)) (v3 : Int32) (v4 : Int32) (v5 : Int32) : Option (Int32) := (chk (inb ((187 : Int32) + v4) 358) (if ((s0.2.2.1 0) (((187 : Int32) + v4)).toNatClampNeg) ≤ v5 then (k5 v3 (v4 + (1 : Int32))) else (if v4 = p2 then (k19 (v3 + (0 : Int32)) v4 (v5 + (1 : Int32))) else (ob (f_X8_held N s0 v4 v5) fun x2 => (chk (inb ((27 : Int32) + x2) 358) (if ((s0.2.2.1 0) (((27 : Int32) + x2)).toNatClampNeg) = p1 then (k19 (v3 + (1 : Int32)) v4 (v5 + (1 : Int32))) else (k19 (v3 + (0 : Int32)) v4 (v5 + (1 : Int32)))))))))
def f_X8_inHands_19 (N : Nat) (s0 : Ob) (p1 : Int32) (p2 : Int32) (k5 : Int32 → Int32 → Option (Int32)) : Nat → Int32 → Int32 → Int32 → Option (Int32) := zlp (fun _ _ _ => none) (F_X8_inHands_19 N s0 p1 p2 k5)
theorem m_X8_inHands_19 {K : Kt} {g : Gp} {a0 : Nat} {r0 : Nat → Nat} {N : Nat} {s0 : Ob} {p1 : Int32} {p2 : Int32} {res : Int32} (hg : Ok g) (C : Cx K g cX8_inHands RX8 6 (zrm 1 22)) (X : Rx K (exR (some (.int res)) (wX8 g a0 r0 s0)) 0 0 (some .int)) {k5 : Int32 → Int32 → Option (Int32)} (hk5 : ∀ (v3 : Int32) (v4 : Int32), k5 v3 v4 = some res → Zs K 0 0 (wX8 g a0 r0 s0) [(0, .ref a0), (1, .int p1), (2, .int p2), (3, .int v3), (4, .int v4)] 5 []) : ∀ (n : Nat) (v3 : Int32) (v4 : Int32) (v5 : Int32), f_X8_inHands_19 N s0 p1 p2 k5 n v3 v4 v5 = some res → Zs K 0 0 (wX8 g a0 r0 s0) [(0, .ref a0), (1, .int p1), (2, .int p2), (3, .int v3), (4, .int v4), (5, .int v5)] 19 [] := by
  intro n
  induction n with
  | zero => intro v3 v4 v5 h; exact nomatch (show (none : Option (Int32)) = some res from h)
  | succ n hk19 =>
    intro v3 v4 v5 h
    replace h : F_X8_inHands_19 N s0 p1 p2 k5 (f_X8_inHands_19 N s0 p1 p2 k5 n) v3 v4 v5 = some res := h
    unfold F_X8_inHands_19 at h
    refine z_iload (pc := 19) (x := v5) C dX8_inHands_19 rfl ?_
    refine z_aload_n (pc := 21) (x := a0) C dX8_inHands_21 (i := 0) rfl rfl ?_
    refine z_get (pc := 22) (v := .ref (r0 0)) C 0 dX8_inHands_22 fl_RX8_9 rfl rfl ?_
    refine z_sipush (pc := 25) C dX8_inHands_25 sp_187 ?_
    refine z_iload (pc := 28) (x := v4) C dX8_inHands_28 rfl ?_
    refine z_iadd (pc := 30) C dX8_inHands_30 ?_
    replace h := chk_e h
    obtain ⟨hb1, h⟩ := h
    refine z_iald (pc := 31) C 1 dX8_inHands_31 rfl hb1 ?_
    refine z_icmp_ge (pc := 32) C dX8_inHands_32 (tgt := 75) (by decide) (fun hc => ?_) (fun hc => ?_)
    · replace h := (ite_e h).1 hc
      refine z_iinc (pc := 75) C dX8_inHands_75 rfl (inc_e 1 (1 : Int32) ic_1 v4) (by decide) (lv' := [(4, .int (v4 + (1 : Int32))), (0, .ref a0), (1, .int p1), (2, .int p2), (3, .int v3), (5, .int v5)]) rfl ?_
      refine z_goto (pc := 78) C dX8_inHands_78 (tgt := 5) (by decide) ?_
      refine z_lv (lv' := [(0, .ref a0), (1, .int p1), (2, .int p2), (3, .int v3), (4, .int (v4 + (1 : Int32)))]) [1, 2, 3, 4, 0] rfl ?_
      exact hk5 v3 (v4 + (1 : Int32)) h
    · replace h := (ite_e h).2 hc
      refine z_iload_n (pc := 35) (x := v3) C dX8_inHands_35 (i := 3) rfl rfl ?_
      refine z_iload (pc := 36) (x := v4) C dX8_inHands_36 rfl ?_
      refine z_iload_n (pc := 38) (x := p2) C dX8_inHands_38 (i := 2) rfl rfl ?_
      refine z_icmp_eq (pc := 39) C dX8_inHands_39 (tgt := 66) (by decide) (fun hc => ?_) (fun hc => ?_)
      · replace h := (ite_e h).1 hc
        refine z_iconst (pc := 66) C dX8_inHands_66 ic_0 ?_
        refine z_iadd (pc := 67) C dX8_inHands_67 ?_
        refine z_istore_n (pc := 68) C dX8_inHands_68 (i := 3) rfl (by decide) (lv' := [(3, .int (v3 + (0 : Int32))), (0, .ref a0), (1, .int p1), (2, .int p2), (4, .int v4), (5, .int v5)]) rfl ?_
        refine z_iinc (pc := 69) C dX8_inHands_69 rfl (inc_e 1 (1 : Int32) ic_1 v5) (by decide) (lv' := [(5, .int (v5 + (1 : Int32))), (3, .int (v3 + (0 : Int32))), (0, .ref a0), (1, .int p1), (2, .int p2), (4, .int v4)]) rfl ?_
        refine z_goto (pc := 72) C dX8_inHands_72 (tgt := 19) (by decide) ?_
        refine z_lv (lv' := [(0, .ref a0), (1, .int p1), (2, .int p2), (3, .int (v3 + (0 : Int32))), (4, .int v4), (5, .int (v5 + (1 : Int32)))]) [2, 3, 4, 1, 5, 0] rfl ?_
        exact hk19 (v3 + (0 : Int32)) v4 (v5 + (1 : Int32)) h
      · replace h := (ite_e h).2 hc
        refine z_aload_n (pc := 42) (x := a0) C dX8_inHands_42 (i := 0) rfl rfl ?_
        refine z_get (pc := 43) (v := .ref (r0 0)) C 0 dX8_inHands_43 fl_RX8_9 rfl rfl ?_
        refine z_bipush (pc := 46) C dX8_inHands_46 bp_27 ?_
        refine z_aload_n (pc := 48) (x := a0) C dX8_inHands_48 (i := 0) rfl rfl ?_
        refine z_iload (pc := 49) (x := v4) C dX8_inHands_49 rfl ?_
        refine z_iload (pc := 51) (x := v5) C dX8_inHands_51 rfl ?_
        replace h := ob_e h
        obtain ⟨x2, hx2, h⟩ := h
        refine z_callV (pc := 53) (As := [.int v4, .int v5]) (rest := [.int (27 : Int32), .ref (r0 0), .int v3]) (wr := ([] : va_W)) C dX8_inHands_53 ml_RX8_217 wv_X8_held (m_X8_held (a0 := a0) (r0 := r0) hg hx2) [0, 1, 2, 3, 4, 5, 6, 7, 8, 9, 10, 11, 12, 13, 14] [] rfl rfl ⟨by decide, by decide⟩ (Nat.le_of_ble_eq_true rfl) ⟨by decide, by decide⟩ rfl rfl rfl rfl rfl rfl rfl (by decide) (ex_k C (cs' := 0) (ss' := 0) (wF := (wX8 g a0 r0 s0)) [0, 1, 2, 3, 4, 5, 6, 7, 8, 9, 10, 11, 12, 13, 14] rfl rfl ?_)
        refine z_iadd (pc := 56) C dX8_inHands_56 ?_
        replace h := chk_e h
        obtain ⟨hb3, h⟩ := h
        refine z_iald (pc := 57) C 1 dX8_inHands_57 rfl hb3 ?_
        refine z_iload_n (pc := 58) (x := p1) C dX8_inHands_58 (i := 1) rfl rfl ?_
        refine z_icmp_ne (pc := 59) C dX8_inHands_59 (tgt := 66) (by decide) (fun hc => ?_) (fun hc => ?_)
        · replace h := (ite_e h).2 hc
          refine z_iconst (pc := 66) C dX8_inHands_66 ic_0 ?_
          refine z_iadd (pc := 67) C dX8_inHands_67 ?_
          refine z_istore_n (pc := 68) C dX8_inHands_68 (i := 3) rfl (by decide) (lv' := [(3, .int (v3 + (0 : Int32))), (0, .ref a0), (1, .int p1), (2, .int p2), (4, .int v4), (5, .int v5)]) rfl ?_
          refine z_iinc (pc := 69) C dX8_inHands_69 rfl (inc_e 1 (1 : Int32) ic_1 v5) (by decide) (lv' := [(5, .int (v5 + (1 : Int32))), (3, .int (v3 + (0 : Int32))), (0, .ref a0), (1, .int p1), (2, .int p2), (4, .int v4)]) rfl ?_
          refine z_goto (pc := 72) C dX8_inHands_72 (tgt := 19) (by decide) ?_
          refine z_lv (lv' := [(0, .ref a0), (1, .int p1), (2, .int p2), (3, .int (v3 + (0 : Int32))), (4, .int v4), (5, .int (v5 + (1 : Int32)))]) [2, 3, 4, 1, 5, 0] rfl ?_
          exact hk19 (v3 + (0 : Int32)) v4 (v5 + (1 : Int32)) h
        · replace h := (ite_e h).1 hc
          refine z_iconst (pc := 62) C dX8_inHands_62 ic_1 ?_
          refine z_goto (pc := 63) C dX8_inHands_63 (tgt := 67) (by decide) ?_
          refine z_iadd (pc := 67) C dX8_inHands_67 ?_
          refine z_istore_n (pc := 68) C dX8_inHands_68 (i := 3) rfl (by decide) (lv' := [(3, .int (v3 + (1 : Int32))), (0, .ref a0), (1, .int p1), (2, .int p2), (4, .int v4), (5, .int v5)]) rfl ?_
          refine z_iinc (pc := 69) C dX8_inHands_69 rfl (inc_e 1 (1 : Int32) ic_1 v5) (by decide) (lv' := [(5, .int (v5 + (1 : Int32))), (3, .int (v3 + (1 : Int32))), (0, .ref a0), (1, .int p1), (2, .int p2), (4, .int v4)]) rfl ?_
          refine z_goto (pc := 72) C dX8_inHands_72 (tgt := 19) (by decide) ?_
          refine z_lv (lv' := [(0, .ref a0), (1, .int p1), (2, .int p2), (3, .int (v3 + (1 : Int32))), (4, .int v4), (5, .int (v5 + (1 : Int32)))]) [2, 3, 4, 1, 5, 0] rfl ?_
          exact hk19 (v3 + (1 : Int32)) v4 (v5 + (1 : Int32)) h
def F_X8_inHands_5 (N : Nat) (s0 : Ob) (p1 : Int32) (p2 : Int32)  (k5 : Int32 → Int32 → Option (Int32)) (v3 : Int32) (v4 : Int32) : Option (Int32) := (if ((s0.2.2.1 0) 2) ≤ v4 then (some v3) else (f_X8_inHands_19 N s0 p1 p2 k5 N v3 v4 (0 : Int32)))
def f_X8_inHands_5 (N : Nat) (s0 : Ob) (p1 : Int32) (p2 : Int32)  : Nat → Int32 → Int32 → Option (Int32) := zlp (fun _ _ => none) (F_X8_inHands_5 N s0 p1 p2)
theorem m_X8_inHands_5 {K : Kt} {g : Gp} {a0 : Nat} {r0 : Nat → Nat} {N : Nat} {s0 : Ob} {p1 : Int32} {p2 : Int32} {res : Int32} (hg : Ok g) (C : Cx K g cX8_inHands RX8 6 (zrm 1 22)) (X : Rx K (exR (some (.int res)) (wX8 g a0 r0 s0)) 0 0 (some .int)) : ∀ (n : Nat) (v3 : Int32) (v4 : Int32), f_X8_inHands_5 N s0 p1 p2 n v3 v4 = some res → Zs K 0 0 (wX8 g a0 r0 s0) [(0, .ref a0), (1, .int p1), (2, .int p2), (3, .int v3), (4, .int v4)] 5 [] := by
  intro n
  induction n with
  | zero => intro v3 v4 h; exact nomatch (show (none : Option (Int32)) = some res from h)
  | succ n hk5 =>
    intro v3 v4 h
    replace h : F_X8_inHands_5 N s0 p1 p2 (f_X8_inHands_5 N s0 p1 p2 n) v3 v4 = some res := h
    unfold F_X8_inHands_5 at h
    refine z_iload (pc := 5) (x := v4) C dX8_inHands_5 rfl ?_
    refine z_aload_n (pc := 7) (x := a0) C dX8_inHands_7 (i := 0) rfl rfl ?_
    refine z_get (pc := 8) (v := .ref (r0 0)) C 0 dX8_inHands_8 fl_RX8_9 rfl rfl ?_
    refine z_iconst (pc := 11) C dX8_inHands_11 ic_2 ?_
    refine z_iald (pc := 12) C 1 dX8_inHands_12 rfl (by decide) ?_
    refine z_top1 (v := ((s0.2.2.1 0) 2)) rfl ?_
    refine z_icmp_ge (pc := 13) C dX8_inHands_13 (tgt := 81) (by decide) (fun hc => ?_) (fun hc => ?_)
    · replace h := (ite_e h).1 hc
      refine z_iload_n (pc := 81) (x := v3) C dX8_inHands_81 (i := 3) rfl rfl ?_
      exact z_iret C X dX8_inHands_82 (by rw [← Option.some.inj h]; exact ⟨rfl, rfl⟩) (by decide) (by decide)
    · replace h := (ite_e h).2 hc
      refine z_iconst (pc := 16) C dX8_inHands_16 ic_0 ?_
      refine z_istore (pc := 17) C dX8_inHands_17 (by decide) (lv' := [(5, .int (0 : Int32)), (0, .ref a0), (1, .int p1), (2, .int p2), (3, .int v3), (4, .int v4)]) rfl ?_
      refine z_lv (lv' := [(0, .ref a0), (1, .int p1), (2, .int p2), (3, .int v3), (4, .int v4), (5, .int (0 : Int32))]) [1, 2, 3, 4, 5, 0] rfl ?_
      exact m_X8_inHands_19 (a0 := a0) (r0 := r0) hg C X hk5 N v3 v4 (0 : Int32) h
def f_X8_inHands (N : Nat) (s0 : Ob) (p1 : Int32) (p2 : Int32) : Option (Int32) := (f_X8_inHands_5 N s0 p1 p2 N (0 : Int32) (0 : Int32))
theorem m_X8_inHands {g : Gp} {a0 : Nat} {r0 : Nat → Nat} {N : Nat} {s0 : Ob} {p1 : Int32} {p2 : Int32} {res : Int32} (hg : Ok g) (h : f_X8_inHands N s0 p1 p2 = some res) : Ct g yX8_inHands cX8_inHands 6 (some .int) (zrm 1 22) [.ref a0, .int p1, .int p2] (wX8 g a0 r0 s0) (exR (some (.int res)) (wX8 g a0 r0 s0)) := by
  refine ct_of rfl hg (by show _ ≤ _; exact Nat.le_of_ble_eq_true rfl) (fun K C X => ?_)
  show Zs K 0 0 (wX8 g a0 r0 s0) [(0, .ref a0), (1, .int p1), (2, .int p2)] 0 []
  unfold f_X8_inHands at h
  refine z_iconst (pc := 0) C dX8_inHands_0 ic_0 ?_
  refine z_istore_n (pc := 1) C dX8_inHands_1 (i := 3) rfl (by decide) (lv' := [(3, .int (0 : Int32)), (0, .ref a0), (1, .int p1), (2, .int p2)]) rfl ?_
  refine z_iconst (pc := 2) C dX8_inHands_2 ic_0 ?_
  refine z_istore (pc := 3) C dX8_inHands_3 (by decide) (lv' := [(4, .int (0 : Int32)), (3, .int (0 : Int32)), (0, .ref a0), (1, .int p1), (2, .int p2)]) rfl ?_
  refine z_lv (lv' := [(0, .ref a0), (1, .int p1), (2, .int p2), (3, .int (0 : Int32)), (4, .int (0 : Int32))]) [2, 3, 4, 1, 0] rfl ?_
  exact m_X8_inHands_5 (a0 := a0) (r0 := r0) hg C X N (0 : Int32) (0 : Int32) h
def f_X8_copies_ (N : Nat) (s0 : Ob) (p1 : Int32) (p2 : Int32) (p3 : Int32) : Option (Int32 × Ob) := (ob (f_X8_isKind N s0 p1 p2) fun x1 => (ob (f_X8_isThrown N s0 x1 (1 : Int32)) fun x2 => (if x2.1 = 0 then (ob (f_X8_in N p3 (0 : Int32) (3 : Int32)) fun x3 => (ob (f_X8_isThrown N x2.2 x3 (2 : Int32)) fun x4 => (if x4.1 = 0 then (ob (f_X8_kind N p1 p2) fun x5 => (if p3 = (0 : Int32) then (ob (f_X8_inDeck N x4.2 x5 (0 : Int32)) fun x6 => (some (x6, x4.2))) else (if p3 = (1 : Int32) then (chk (inb ((211 : Int32) + x5) 358) (some (((x4.2.2.2.1 0) (((211 : Int32) + x5)).toNatClampNeg), x4.2))) else (if p3 = (2 : Int32) then (ob (f_X8_inHands N x4.2 x5 (-1 : Int32)) fun x8 => (some (x8, x4.2))) else (ob (f_X8_inDeck N x4.2 x5 ((x4.2.2.2.1 0) 5)) fun x9 => (some (x9, x4.2))))))) else (some ((0 : Int32), x4.2))))) else (some ((0 : Int32), x2.2)))))
theorem m_X8_copies_ {g : Gp} {a0 : Nat} {r0 : Nat → Nat} {N : Nat} {s0 : Ob} {p1 : Int32} {p2 : Int32} {p3 : Int32} {res : Int32 × Ob} (hg : Ok g) (h : f_X8_copies_ N s0 p1 p2 p3 = some res) : Ct g yX8_copies_ cX8_copies_ 5 (some .int) (zrm 2 47) [.ref a0, .int p1, .int p2, .int p3] (wX8 g a0 r0 s0) (exR (some (.int res.1)) (wX8 g a0 r0 res.2)) := by
  refine ct_of rfl hg (by show _ ≤ _; exact Nat.le_of_ble_eq_true rfl) (fun K C X => ?_)
  show Zs K 0 0 (wX8 g a0 r0 s0) [(0, .ref a0), (1, .int p1), (2, .int p2), (3, .int p3)] 0 []
  unfold f_X8_copies_ at h
  refine z_aload_n (pc := 0) (x := a0) C dX8_copies__0 (i := 0) rfl rfl ?_
  refine z_aload_n (pc := 1) (x := a0) C dX8_copies__1 (i := 0) rfl rfl ?_
  refine z_iload_n (pc := 2) (x := p1) C dX8_copies__2 (i := 1) rfl rfl ?_
  refine z_iload_n (pc := 3) (x := p2) C dX8_copies__3 (i := 2) rfl rfl ?_
  replace h := ob_e h
  obtain ⟨x1, hx1, h⟩ := h
  refine z_callV (pc := 4) (As := [.int p1, .int p2]) (rest := [.ref a0]) (wr := ([] : va_W)) C dX8_copies__4 ml_RX8_223 wv_X8_isKind (m_X8_isKind (a0 := a0) (r0 := r0) hg hx1) [0, 1, 2, 3, 4, 5, 6, 7, 8, 9, 10, 11, 12, 13, 14] [] rfl rfl ⟨by decide, by decide⟩ (Nat.le_of_ble_eq_true rfl) ⟨by decide, by decide⟩ rfl rfl rfl rfl rfl rfl rfl (by decide) (ex_k C (cs' := 0) (ss' := 0) (wF := (wX8 g a0 r0 s0)) [0, 1, 2, 3, 4, 5, 6, 7, 8, 9, 10, 11, 12, 13, 14] rfl rfl ?_)
  refine z_iconst (pc := 7) C dX8_copies__7 ic_1 ?_
  replace h := ob_e h
  obtain ⟨x2, hx2, h⟩ := h
  refine z_callV (pc := 8) (As := [.int x1, .int (1 : Int32)]) (rest := []) (wr := ([] : va_W)) C dX8_copies__8 ml_RX8_206 wv_X8_isThrown (m_X8_isThrown (a0 := a0) (r0 := r0) hg hx2) [0, 1, 2, 3, 4, 5, 6, 7, 8, 9, 10, 11, 12, 13, 14] [] rfl rfl ⟨by decide, by decide⟩ (Nat.le_of_ble_eq_true rfl) ⟨by decide, by decide⟩ rfl rfl rfl rfl rfl rfl rfl (by decide) (ex_k C (cs' := 0) (ss' := 0) (wF := (wX8 g a0 r0 x2.2)) [0, 1, 2, 3, 4, 5, 6, 7, 8, 9, 10, 11, 12, 13, 14] rfl rfl ?_)
  refine z_if_ne (pc := 11) C dX8_copies__11 (tgt := 28) (by decide) (fun hc => ?_) (fun hc => ?_)
  · replace h := (ite_e h).2 hc
    refine z_iconst (pc := 28) C dX8_copies__28 ic_0 ?_
    exact z_iret C X dX8_copies__29 (by rw [← Option.some.inj h]; exact ⟨rfl, rfl⟩) (by decide) (by decide)
  · replace h := (ite_e h).1 hc
    refine z_aload_n (pc := 14) (x := a0) C dX8_copies__14 (i := 0) rfl rfl ?_
    refine z_iload_n (pc := 15) (x := p3) C dX8_copies__15 (i := 3) rfl rfl ?_
    refine z_iconst (pc := 16) C dX8_copies__16 ic_0 ?_
    refine z_iconst (pc := 17) C dX8_copies__17 ic_3 ?_
    replace h := ob_e h
    obtain ⟨x3, hx3, h⟩ := h
    refine z_callS (pc := 18) (As := [.int p3, .int (0 : Int32), .int (3 : Int32)]) (rest := [.ref a0]) (wr := (wX8 g a0 r0 x2.2)) C dX8_copies__18 ml_RX8_62 wt_X8_in (m_X8_in hg hx3) [] [0, 1, 2, 3, 4, 5, 6, 7, 8, 9, 10, 11, 12, 13, 14] rfl rfl ⟨by decide, by decide⟩ (Nat.le_of_ble_eq_true rfl) ⟨by decide, by decide⟩ rfl rfl rfl rfl (by decide) (ex_k C (cs' := 0) (ss' := 0) (wF := (wX8 g a0 r0 x2.2)) [0, 1, 2, 3, 4, 5, 6, 7, 8, 9, 10, 11, 12, 13, 14] rfl rfl ?_)
    refine z_iconst (pc := 21) C dX8_copies__21 ic_2 ?_
    replace h := ob_e h
    obtain ⟨x4, hx4, h⟩ := h
    refine z_callV (pc := 22) (As := [.int x3, .int (2 : Int32)]) (rest := []) (wr := ([] : va_W)) C dX8_copies__22 ml_RX8_206 wv_X8_isThrown (m_X8_isThrown (a0 := a0) (r0 := r0) hg hx4) [0, 1, 2, 3, 4, 5, 6, 7, 8, 9, 10, 11, 12, 13, 14] [] rfl rfl ⟨by decide, by decide⟩ (Nat.le_of_ble_eq_true rfl) ⟨by decide, by decide⟩ rfl rfl rfl rfl rfl rfl rfl (by decide) (ex_k C (cs' := 0) (ss' := 0) (wF := (wX8 g a0 r0 x4.2)) [0, 1, 2, 3, 4, 5, 6, 7, 8, 9, 10, 11, 12, 13, 14] rfl rfl ?_)
    refine z_if_eq (pc := 25) C dX8_copies__25 (tgt := 30) (by decide) (fun hc => ?_) (fun hc => ?_)
    · replace h := (ite_e h).1 hc
      refine z_iload_n (pc := 30) (x := p1) C dX8_copies__30 (i := 1) rfl rfl ?_
      refine z_iload_n (pc := 31) (x := p2) C dX8_copies__31 (i := 2) rfl rfl ?_
      replace h := ob_e h
      obtain ⟨x5, hx5, h⟩ := h
      refine z_callS (pc := 32) (As := [.int p1, .int p2]) (rest := []) (wr := (wX8 g a0 r0 x4.2)) C dX8_copies__32 ml_RX8_136 wt_X8_kind (m_X8_kind hg hx5) [] [0, 1, 2, 3, 4, 5, 6, 7, 8, 9, 10, 11, 12, 13, 14] rfl rfl ⟨by decide, by decide⟩ (Nat.le_of_ble_eq_true rfl) ⟨by decide, by decide⟩ rfl rfl rfl rfl (by decide) (ex_k C (cs' := 0) (ss' := 0) (wF := (wX8 g a0 r0 x4.2)) [0, 1, 2, 3, 4, 5, 6, 7, 8, 9, 10, 11, 12, 13, 14] rfl rfl ?_)
      refine z_istore (pc := 35) C dX8_copies__35 (by decide) (lv' := [(4, .int x5), (0, .ref a0), (1, .int p1), (2, .int p2), (3, .int p3)]) rfl ?_
      refine z_iload_n (pc := 37) (x := p3) C dX8_copies__37 (i := 3) rfl rfl ?_
      refine (Decidable.em (p3 = (0 : Int32))).elim (fun hc => ?_) (fun hn0 => ?_)
      · refine z_tswIn (pc := 38) C (0 : Int32) dX8_copies__38 hc (by decide) (by decide) (off := 26) rfl (tgt := 64) (by decide) ?_
        replace h := (ite_e h).1 hc
        refine z_aload_n (pc := 64) (x := a0) C dX8_copies__64 (i := 0) rfl rfl ?_
        refine z_iload (pc := 65) (x := x5) C dX8_copies__65 rfl ?_
        refine z_iconst (pc := 67) C dX8_copies__67 ic_0 ?_
        replace h := ob_e h
        obtain ⟨x6, hx6, h⟩ := h
        refine z_callV (pc := 68) (As := [.int x5, .int (0 : Int32)]) (rest := []) (wr := ([] : va_W)) C dX8_copies__68 ml_RX8_226 wv_X8_inDeck (m_X8_inDeck (a0 := a0) (r0 := r0) hg hx6) [0, 1, 2, 3, 4, 5, 6, 7, 8, 9, 10, 11, 12, 13, 14] [] rfl rfl ⟨by decide, by decide⟩ (Nat.le_of_ble_eq_true rfl) ⟨by decide, by decide⟩ rfl rfl rfl rfl rfl rfl rfl (by decide) (ex_k C (cs' := 0) (ss' := 0) (wF := (wX8 g a0 r0 x4.2)) [0, 1, 2, 3, 4, 5, 6, 7, 8, 9, 10, 11, 12, 13, 14] rfl rfl ?_)
        exact z_iret C X dX8_copies__71 (by rw [← Option.some.inj h]; exact ⟨rfl, rfl⟩) (by decide) (by decide)
      replace h := (ite_e h).2 hn0
      refine (Decidable.em (p3 = (1 : Int32))).elim (fun hc => ?_) (fun hn1 => ?_)
      · refine z_tswIn (pc := 38) C (1 : Int32) dX8_copies__38 hc (by decide) (by decide) (off := 34) rfl (tgt := 72) (by decide) ?_
        replace h := (ite_e h).1 hc
        refine z_aload_n (pc := 72) (x := a0) C dX8_copies__72 (i := 0) rfl rfl ?_
        refine z_get (pc := 73) (v := .ref (r0 0)) C 0 dX8_copies__73 fl_RX8_9 rfl rfl ?_
        refine z_sipush (pc := 76) C dX8_copies__76 sp_211 ?_
        refine z_iload (pc := 79) (x := x5) C dX8_copies__79 rfl ?_
        refine z_iadd (pc := 81) C dX8_copies__81 ?_
        replace h := chk_e h
        obtain ⟨hb7, h⟩ := h
        refine z_iald (pc := 82) C 1 dX8_copies__82 rfl hb7 ?_
        exact z_iret C X dX8_copies__83 (by rw [← Option.some.inj h]; exact ⟨rfl, rfl⟩) (by decide) (by decide)
      replace h := (ite_e h).2 hn1
      refine (Decidable.em (p3 = (2 : Int32))).elim (fun hc => ?_) (fun hn2 => ?_)
      · refine z_tswIn (pc := 38) C (2 : Int32) dX8_copies__38 hc (by decide) (by decide) (off := 46) rfl (tgt := 84) (by decide) ?_
        replace h := (ite_e h).1 hc
        refine z_aload_n (pc := 84) (x := a0) C dX8_copies__84 (i := 0) rfl rfl ?_
        refine z_iload (pc := 85) (x := x5) C dX8_copies__85 rfl ?_
        refine z_iconst (pc := 87) C dX8_copies__87 ic_m1 ?_
        replace h := ob_e h
        obtain ⟨x8, hx8, h⟩ := h
        refine z_callV (pc := 88) (As := [.int x5, .int (-1 : Int32)]) (rest := []) (wr := ([] : va_W)) C dX8_copies__88 ml_RX8_229 wv_X8_inHands (m_X8_inHands (a0 := a0) (r0 := r0) hg hx8) [0, 1, 2, 3, 4, 5, 6, 7, 8, 9, 10, 11, 12, 13, 14] [] rfl rfl ⟨by decide, by decide⟩ (Nat.le_of_ble_eq_true rfl) ⟨by decide, by decide⟩ rfl rfl rfl rfl rfl rfl rfl (by decide) (ex_k C (cs' := 0) (ss' := 0) (wF := (wX8 g a0 r0 x4.2)) [0, 1, 2, 3, 4, 5, 6, 7, 8, 9, 10, 11, 12, 13, 14] rfl rfl ?_)
        exact z_iret C X dX8_copies__91 (by rw [← Option.some.inj h]; exact ⟨rfl, rfl⟩) (by decide) (by decide)
      replace h := (ite_e h).2 hn2
      refine z_tswOut (pc := 38) C dX8_copies__38 (by have e0 := lv_neT hn0 (a := 0) (by decide); have e1 := lv_neT hn1 (a := 1) (by decide); have e2 := lv_neT hn2 (a := 2) (by decide); omega) (tgt := 92) (by decide) ?_
      refine z_aload_n (pc := 92) (x := a0) C dX8_copies__92 (i := 0) rfl rfl ?_
      refine z_iload (pc := 93) (x := x5) C dX8_copies__93 rfl ?_
      refine z_aload_n (pc := 95) (x := a0) C dX8_copies__95 (i := 0) rfl rfl ?_
      refine z_get (pc := 96) (v := .ref (r0 0)) C 0 dX8_copies__96 fl_RX8_9 rfl rfl ?_
      refine z_iconst (pc := 99) C dX8_copies__99 ic_5 ?_
      refine z_iald (pc := 100) C 1 dX8_copies__100 rfl (by decide) ?_
      refine z_top1 (v := ((x4.2.2.2.1 0) 5)) rfl ?_
      replace h := ob_e h
      obtain ⟨x9, hx9, h⟩ := h
      refine z_callV (pc := 101) (As := [.int x5, .int ((x4.2.2.2.1 0) 5)]) (rest := []) (wr := ([] : va_W)) C dX8_copies__101 ml_RX8_226 wv_X8_inDeck (m_X8_inDeck (a0 := a0) (r0 := r0) hg hx9) [0, 1, 2, 3, 4, 5, 6, 7, 8, 9, 10, 11, 12, 13, 14] [] rfl rfl ⟨by decide, by decide⟩ (Nat.le_of_ble_eq_true rfl) ⟨by decide, by decide⟩ rfl rfl rfl rfl rfl rfl rfl (by decide) (ex_k C (cs' := 0) (ss' := 0) (wF := (wX8 g a0 r0 x4.2)) [0, 1, 2, 3, 4, 5, 6, 7, 8, 9, 10, 11, 12, 13, 14] rfl rfl ?_)
      exact z_iret C X dX8_copies__104 (by rw [← Option.some.inj h]; exact ⟨rfl, rfl⟩) (by decide) (by decide)
    · replace h := (ite_e h).2 hc
      refine z_iconst (pc := 28) C dX8_copies__28 ic_0 ?_
      exact z_iret C X dX8_copies__29 (by rw [← Option.some.inj h]; exact ⟨rfl, rfl⟩) (by decide) (by decide)
def f_X8_isGone (N : Nat) (s0 : Ob) (p1 : Int32) : Option (Int32) := (ob (f_X8_inDeck N s0 p1 (0 : Int32)) fun x1 => (chk (inb ((211 : Int32) + p1) 358) (if x1 = ((s0.2.2.1 0) (((211 : Int32) + p1)).toNatClampNeg) then (some (1 : Int32)) else (some (0 : Int32)))))
theorem m_X8_isGone {g : Gp} {a0 : Nat} {r0 : Nat → Nat} {N : Nat} {s0 : Ob} {p1 : Int32} {res : Int32} (hg : Ok g) (h : f_X8_isGone N s0 p1 = some res) : Ct g yX8_isGone cX8_isGone 2 (some .boolean) (zrm 1 24) [.ref a0, .int p1] (wX8 g a0 r0 s0) (exR (some (.int res)) (wX8 g a0 r0 s0)) := by
  refine ct_of rfl hg (by show _ ≤ _; exact Nat.le_of_ble_eq_true rfl) (fun K C X => ?_)
  show Zs K 0 0 (wX8 g a0 r0 s0) [(0, .ref a0), (1, .int p1)] 0 []
  unfold f_X8_isGone at h
  refine z_aload_n (pc := 0) (x := a0) C dX8_isGone_0 (i := 0) rfl rfl ?_
  refine z_iload_n (pc := 1) (x := p1) C dX8_isGone_1 (i := 1) rfl rfl ?_
  refine z_iconst (pc := 2) C dX8_isGone_2 ic_0 ?_
  replace h := ob_e h
  obtain ⟨x1, hx1, h⟩ := h
  refine z_callV (pc := 3) (As := [.int p1, .int (0 : Int32)]) (rest := []) (wr := ([] : va_W)) C dX8_isGone_3 ml_RX8_226 wv_X8_inDeck (m_X8_inDeck (a0 := a0) (r0 := r0) hg hx1) [0, 1, 2, 3, 4, 5, 6, 7, 8, 9, 10, 11, 12, 13, 14] [] rfl rfl ⟨by decide, by decide⟩ (Nat.le_of_ble_eq_true rfl) ⟨by decide, by decide⟩ rfl rfl rfl rfl rfl rfl rfl (by decide) (ex_k C (cs' := 0) (ss' := 0) (wF := (wX8 g a0 r0 s0)) [0, 1, 2, 3, 4, 5, 6, 7, 8, 9, 10, 11, 12, 13, 14] rfl rfl ?_)
  refine z_aload_n (pc := 6) (x := a0) C dX8_isGone_6 (i := 0) rfl rfl ?_
  refine z_get (pc := 7) (v := .ref (r0 0)) C 0 dX8_isGone_7 fl_RX8_9 rfl rfl ?_
  refine z_sipush (pc := 10) C dX8_isGone_10 sp_211 ?_
  refine z_iload_n (pc := 13) (x := p1) C dX8_isGone_13 (i := 1) rfl rfl ?_
  refine z_iadd (pc := 14) C dX8_isGone_14 ?_
  replace h := chk_e h
  obtain ⟨hb2, h⟩ := h
  refine z_iald (pc := 15) C 1 dX8_isGone_15 rfl hb2 ?_
  refine z_icmp_ne (pc := 16) C dX8_isGone_16 (tgt := 23) (by decide) (fun hc => ?_) (fun hc => ?_)
  · replace h := (ite_e h).2 hc
    refine z_iconst (pc := 23) C dX8_isGone_23 ic_0 ?_
    exact z_zret C X dX8_isGone_24 rfl (by rw [← Option.some.inj h]; exact ⟨rfl, rfl⟩) (by decide) (by decide)
  · replace h := (ite_e h).1 hc
    refine z_iconst (pc := 19) C dX8_isGone_19 ic_1 ?_
    refine z_goto (pc := 20) C dX8_isGone_20 (tgt := 24) (by decide) ?_
    exact z_zret C X dX8_isGone_24 rfl (by rw [← Option.some.inj h]; exact ⟨rfl, rfl⟩) (by decide) (by decide)
def F_X8_isUselessKind_35 (N : Nat) (s0 : Ob) (p1 : Int32)  (k35 : Int32 → Int32 → Option (Int32)) (v2 : Int32) (v3 : Int32) : Option (Int32) := (ob (f_X8_rankOf N p1) fun x5 => (if x5 < v3 then (some (0 : Int32)) else (ob (f_X8_kind N v2 v3) fun x6 => (ob (f_X8_isGone N s0 x6) fun x7 => (if x7 = 0 then (k35 v2 (v3 + (1 : Int32))) else (some (1 : Int32)))))))
def f_X8_isUselessKind_35 (N : Nat) (s0 : Ob) (p1 : Int32)  : Nat → Int32 → Int32 → Option (Int32) := zlp (fun _ _ => none) (F_X8_isUselessKind_35 N s0 p1)
theorem m_X8_isUselessKind_35 {K : Kt} {g : Gp} {a0 : Nat} {r0 : Nat → Nat} {N : Nat} {s0 : Ob} {p1 : Int32} {res : Int32} (hg : Ok g) (C : Cx K g cX8_isUselessKind RX8 4 (zrm 2 45)) (X : Rx K (exR (some (.int res)) (wX8 g a0 r0 s0)) 0 0 (some .boolean)) : ∀ (n : Nat) (v2 : Int32) (v3 : Int32), f_X8_isUselessKind_35 N s0 p1 n v2 v3 = some res → Zs K 0 0 (wX8 g a0 r0 s0) [(0, .ref a0), (1, .int p1), (2, .int v2), (3, .int v3)] 35 [] := by
  intro n
  induction n with
  | zero => intro v2 v3 h; exact nomatch (show (none : Option (Int32)) = some res from h)
  | succ n hk35 =>
    intro v2 v3 h
    replace h : F_X8_isUselessKind_35 N s0 p1 (f_X8_isUselessKind_35 N s0 p1 n) v2 v3 = some res := h
    unfold F_X8_isUselessKind_35 at h
    refine z_iload_n (pc := 35) (x := v3) C dX8_isUselessKind_35 (i := 3) rfl rfl ?_
    refine z_iload_n (pc := 36) (x := p1) C dX8_isUselessKind_36 (i := 1) rfl rfl ?_
    replace h := ob_e h
    obtain ⟨x5, hx5, h⟩ := h
    refine z_callS (pc := 37) (As := [.int p1]) (rest := [.int v3]) (wr := (wX8 g a0 r0 s0)) C dX8_isUselessKind_37 ml_RX8_74 wt_X8_rankOf (m_X8_rankOf hg hx5) [] [0, 1, 2, 3, 4, 5, 6, 7, 8, 9, 10, 11, 12, 13, 14] rfl rfl ⟨by decide, by decide⟩ (Nat.le_of_ble_eq_true rfl) ⟨by decide, by decide⟩ rfl rfl rfl rfl (by decide) (ex_k C (cs' := 0) (ss' := 0) (wF := (wX8 g a0 r0 s0)) [0, 1, 2, 3, 4, 5, 6, 7, 8, 9, 10, 11, 12, 13, 14] rfl rfl ?_)
    refine z_icmp_gt (pc := 40) C dX8_isUselessKind_40 (tgt := 63) (by decide) (fun hc => ?_) (fun hc => ?_)
    · replace h := (ite_e h).1 hc
      refine z_iconst (pc := 63) C dX8_isUselessKind_63 ic_0 ?_
      exact z_zret C X dX8_isUselessKind_64 rfl (by rw [← Option.some.inj h]; exact ⟨rfl, rfl⟩) (by decide) (by decide)
    · replace h := (ite_e h).2 hc
      refine z_aload_n (pc := 43) (x := a0) C dX8_isUselessKind_43 (i := 0) rfl rfl ?_
      refine z_iload_n (pc := 44) (x := v2) C dX8_isUselessKind_44 (i := 2) rfl rfl ?_
      refine z_iload_n (pc := 45) (x := v3) C dX8_isUselessKind_45 (i := 3) rfl rfl ?_
      replace h := ob_e h
      obtain ⟨x6, hx6, h⟩ := h
      refine z_callS (pc := 46) (As := [.int v2, .int v3]) (rest := [.ref a0]) (wr := (wX8 g a0 r0 s0)) C dX8_isUselessKind_46 ml_RX8_136 wt_X8_kind (m_X8_kind hg hx6) [] [0, 1, 2, 3, 4, 5, 6, 7, 8, 9, 10, 11, 12, 13, 14] rfl rfl ⟨by decide, by decide⟩ (Nat.le_of_ble_eq_true rfl) ⟨by decide, by decide⟩ rfl rfl rfl rfl (by decide) (ex_k C (cs' := 0) (ss' := 0) (wF := (wX8 g a0 r0 s0)) [0, 1, 2, 3, 4, 5, 6, 7, 8, 9, 10, 11, 12, 13, 14] rfl rfl ?_)
      replace h := ob_e h
      obtain ⟨x7, hx7, h⟩ := h
      refine z_callV (pc := 49) (As := [.int x6]) (rest := []) (wr := ([] : va_W)) C dX8_isUselessKind_49 ml_RX8_232 wv_X8_isGone (m_X8_isGone (a0 := a0) (r0 := r0) hg hx7) [0, 1, 2, 3, 4, 5, 6, 7, 8, 9, 10, 11, 12, 13, 14] [] rfl rfl ⟨by decide, by decide⟩ (Nat.le_of_ble_eq_true rfl) ⟨by decide, by decide⟩ rfl rfl rfl rfl rfl rfl rfl (by decide) (ex_k C (cs' := 0) (ss' := 0) (wF := (wX8 g a0 r0 s0)) [0, 1, 2, 3, 4, 5, 6, 7, 8, 9, 10, 11, 12, 13, 14] rfl rfl ?_)
      refine z_if_eq (pc := 52) C dX8_isUselessKind_52 (tgt := 57) (by decide) (fun hc => ?_) (fun hc => ?_)
      · replace h := (ite_e h).1 hc
        refine z_iinc (pc := 57) C dX8_isUselessKind_57 rfl (inc_e 1 (1 : Int32) ic_1 v3) (by decide) (lv' := [(3, .int (v3 + (1 : Int32))), (0, .ref a0), (1, .int p1), (2, .int v2)]) rfl ?_
        refine z_goto (pc := 60) C dX8_isUselessKind_60 (tgt := 35) (by decide) ?_
        refine z_lv (lv' := [(0, .ref a0), (1, .int p1), (2, .int v2), (3, .int (v3 + (1 : Int32)))]) [1, 2, 3, 0] rfl ?_
        exact hk35 v2 (v3 + (1 : Int32)) h
      · replace h := (ite_e h).2 hc
        refine z_iconst (pc := 55) C dX8_isUselessKind_55 ic_1 ?_
        exact z_zret C X dX8_isUselessKind_56 rfl (by rw [← Option.some.inj h]; exact ⟨rfl, rfl⟩) (by decide) (by decide)
def f_X8_isUselessKind (N : Nat) (s0 : Ob) (p1 : Int32) : Option (Int32) := (ob (f_X8_colorOf N p1) fun x1 => (ob (f_X8_rankOf N p1) fun x2 => (chk (inb ((14 : Int32) + x1) 358) (if ((s0.2.2.1 0) (((14 : Int32) + x1)).toNatClampNeg) < x2 then (chk (inb ((14 : Int32) + x1) 358) (f_X8_isUselessKind_35 N s0 p1 N x1 (((s0.2.2.1 0) (((14 : Int32) + x1)).toNatClampNeg) + (1 : Int32)))) else (some (1 : Int32))))))
theorem m_X8_isUselessKind {g : Gp} {a0 : Nat} {r0 : Nat → Nat} {N : Nat} {s0 : Ob} {p1 : Int32} {res : Int32} (hg : Ok g) (h : f_X8_isUselessKind N s0 p1 = some res) : Ct g yX8_isUselessKind cX8_isUselessKind 4 (some .boolean) (zrm 2 45) [.ref a0, .int p1] (wX8 g a0 r0 s0) (exR (some (.int res)) (wX8 g a0 r0 s0)) := by
  refine ct_of rfl hg (by show _ ≤ _; exact Nat.le_of_ble_eq_true rfl) (fun K C X => ?_)
  show Zs K 0 0 (wX8 g a0 r0 s0) [(0, .ref a0), (1, .int p1)] 0 []
  unfold f_X8_isUselessKind at h
  refine z_iload_n (pc := 0) (x := p1) C dX8_isUselessKind_0 (i := 1) rfl rfl ?_
  replace h := ob_e h
  obtain ⟨x1, hx1, h⟩ := h
  refine z_callS (pc := 1) (As := [.int p1]) (rest := []) (wr := (wX8 g a0 r0 s0)) C dX8_isUselessKind_1 ml_RX8_70 wt_X8_colorOf (m_X8_colorOf hg hx1) [] [0, 1, 2, 3, 4, 5, 6, 7, 8, 9, 10, 11, 12, 13, 14] rfl rfl ⟨by decide, by decide⟩ (Nat.le_of_ble_eq_true rfl) ⟨by decide, by decide⟩ rfl rfl rfl rfl (by decide) (ex_k C (cs' := 0) (ss' := 0) (wF := (wX8 g a0 r0 s0)) [0, 1, 2, 3, 4, 5, 6, 7, 8, 9, 10, 11, 12, 13, 14] rfl rfl ?_)
  refine z_istore_n (pc := 4) C dX8_isUselessKind_4 (i := 2) rfl (by decide) (lv' := [(2, .int x1), (0, .ref a0), (1, .int p1)]) rfl ?_
  refine z_iload_n (pc := 5) (x := p1) C dX8_isUselessKind_5 (i := 1) rfl rfl ?_
  replace h := ob_e h
  obtain ⟨x2, hx2, h⟩ := h
  refine z_callS (pc := 6) (As := [.int p1]) (rest := []) (wr := (wX8 g a0 r0 s0)) C dX8_isUselessKind_6 ml_RX8_74 wt_X8_rankOf (m_X8_rankOf hg hx2) [] [0, 1, 2, 3, 4, 5, 6, 7, 8, 9, 10, 11, 12, 13, 14] rfl rfl ⟨by decide, by decide⟩ (Nat.le_of_ble_eq_true rfl) ⟨by decide, by decide⟩ rfl rfl rfl rfl (by decide) (ex_k C (cs' := 0) (ss' := 0) (wF := (wX8 g a0 r0 s0)) [0, 1, 2, 3, 4, 5, 6, 7, 8, 9, 10, 11, 12, 13, 14] rfl rfl ?_)
  refine z_aload_n (pc := 9) (x := a0) C dX8_isUselessKind_9 (i := 0) rfl rfl ?_
  refine z_get (pc := 10) (v := .ref (r0 0)) C 0 dX8_isUselessKind_10 fl_RX8_9 rfl rfl ?_
  refine z_bipush (pc := 13) C dX8_isUselessKind_13 bp_14 ?_
  refine z_iload_n (pc := 15) (x := x1) C dX8_isUselessKind_15 (i := 2) rfl rfl ?_
  refine z_iadd (pc := 16) C dX8_isUselessKind_16 ?_
  replace h := chk_e h
  obtain ⟨hb3, h⟩ := h
  refine z_iald (pc := 17) C 1 dX8_isUselessKind_17 rfl hb3 ?_
  refine z_icmp_gt (pc := 18) C dX8_isUselessKind_18 (tgt := 23) (by decide) (fun hc => ?_) (fun hc => ?_)
  · replace h := (ite_e h).1 hc
    refine z_aload_n (pc := 23) (x := a0) C dX8_isUselessKind_23 (i := 0) rfl rfl ?_
    refine z_get (pc := 24) (v := .ref (r0 0)) C 0 dX8_isUselessKind_24 fl_RX8_9 rfl rfl ?_
    refine z_bipush (pc := 27) C dX8_isUselessKind_27 bp_14 ?_
    refine z_iload_n (pc := 29) (x := x1) C dX8_isUselessKind_29 (i := 2) rfl rfl ?_
    refine z_iadd (pc := 30) C dX8_isUselessKind_30 ?_
    replace h := chk_e h
    obtain ⟨hb4, h⟩ := h
    refine z_iald (pc := 31) C 1 dX8_isUselessKind_31 rfl hb4 ?_
    refine z_iconst (pc := 32) C dX8_isUselessKind_32 ic_1 ?_
    refine z_iadd (pc := 33) C dX8_isUselessKind_33 ?_
    refine z_istore_n (pc := 34) C dX8_isUselessKind_34 (i := 3) rfl (by decide) (lv' := [(3, .int (((s0.2.2.1 0) (((14 : Int32) + x1)).toNatClampNeg) + (1 : Int32))), (2, .int x1), (0, .ref a0), (1, .int p1)]) rfl ?_
    refine z_lv (lv' := [(0, .ref a0), (1, .int p1), (2, .int x1), (3, .int (((s0.2.2.1 0) (((14 : Int32) + x1)).toNatClampNeg) + (1 : Int32)))]) [2, 3, 1, 0] rfl ?_
    exact m_X8_isUselessKind_35 (a0 := a0) (r0 := r0) hg C X N x1 (((s0.2.2.1 0) (((14 : Int32) + x1)).toNatClampNeg) + (1 : Int32)) h
  · replace h := (ite_e h).2 hc
    refine z_iconst (pc := 21) C dX8_isUselessKind_21 ic_1 ?_
    exact z_zret C X dX8_isUselessKind_22 rfl (by rw [← Option.some.inj h]; exact ⟨rfl, rfl⟩) (by decide) (by decide)
def f_X8_isCriticalKind (N : Nat) (s0 : Ob) (p1 : Int32) : Option (Int32) := (ob (f_X8_isUselessKind N s0 p1) fun x1 => (if x1 = 0 then (ob (f_X8_inDeck N s0 p1 (0 : Int32)) fun x2 => (chk (inb ((211 : Int32) + p1) 358) (if (x2 - ((s0.2.2.1 0) (((211 : Int32) + p1)).toNatClampNeg)) = (1 : Int32) then (some (1 : Int32)) else (some (0 : Int32))))) else (some (0 : Int32))))
theorem m_X8_isCriticalKind {g : Gp} {a0 : Nat} {r0 : Nat → Nat} {N : Nat} {s0 : Ob} {p1 : Int32} {res : Int32} (hg : Ok g) (h : f_X8_isCriticalKind N s0 p1 = some res) : Ct g yX8_isCriticalKind cX8_isCriticalKind 2 (some .boolean) (zrm 3 68) [.ref a0, .int p1] (wX8 g a0 r0 s0) (exR (some (.int res)) (wX8 g a0 r0 s0)) := by
  refine ct_of rfl hg (by show _ ≤ _; exact Nat.le_of_ble_eq_true rfl) (fun K C X => ?_)
  show Zs K 0 0 (wX8 g a0 r0 s0) [(0, .ref a0), (1, .int p1)] 0 []
  unfold f_X8_isCriticalKind at h
  refine z_aload_n (pc := 0) (x := a0) C dX8_isCriticalKind_0 (i := 0) rfl rfl ?_
  refine z_iload_n (pc := 1) (x := p1) C dX8_isCriticalKind_1 (i := 1) rfl rfl ?_
  replace h := ob_e h
  obtain ⟨x1, hx1, h⟩ := h
  refine z_callV (pc := 2) (As := [.int p1]) (rest := []) (wr := ([] : va_W)) C dX8_isCriticalKind_2 ml_RX8_235 wv_X8_isUselessKind (m_X8_isUselessKind (a0 := a0) (r0 := r0) hg hx1) [0, 1, 2, 3, 4, 5, 6, 7, 8, 9, 10, 11, 12, 13, 14] [] rfl rfl ⟨by decide, by decide⟩ (Nat.le_of_ble_eq_true rfl) ⟨by decide, by decide⟩ rfl rfl rfl rfl rfl rfl rfl (by decide) (ex_k C (cs' := 0) (ss' := 0) (wF := (wX8 g a0 r0 s0)) [0, 1, 2, 3, 4, 5, 6, 7, 8, 9, 10, 11, 12, 13, 14] rfl rfl ?_)
  refine z_if_ne (pc := 5) C dX8_isCriticalKind_5 (tgt := 33) (by decide) (fun hc => ?_) (fun hc => ?_)
  · replace h := (ite_e h).2 hc
    refine z_iconst (pc := 33) C dX8_isCriticalKind_33 ic_0 ?_
    exact z_zret C X dX8_isCriticalKind_34 rfl (by rw [← Option.some.inj h]; exact ⟨rfl, rfl⟩) (by decide) (by decide)
  · replace h := (ite_e h).1 hc
    refine z_aload_n (pc := 8) (x := a0) C dX8_isCriticalKind_8 (i := 0) rfl rfl ?_
    refine z_iload_n (pc := 9) (x := p1) C dX8_isCriticalKind_9 (i := 1) rfl rfl ?_
    refine z_iconst (pc := 10) C dX8_isCriticalKind_10 ic_0 ?_
    replace h := ob_e h
    obtain ⟨x2, hx2, h⟩ := h
    refine z_callV (pc := 11) (As := [.int p1, .int (0 : Int32)]) (rest := []) (wr := ([] : va_W)) C dX8_isCriticalKind_11 ml_RX8_226 wv_X8_inDeck (m_X8_inDeck (a0 := a0) (r0 := r0) hg hx2) [0, 1, 2, 3, 4, 5, 6, 7, 8, 9, 10, 11, 12, 13, 14] [] rfl rfl ⟨by decide, by decide⟩ (Nat.le_of_ble_eq_true rfl) ⟨by decide, by decide⟩ rfl rfl rfl rfl rfl rfl rfl (by decide) (ex_k C (cs' := 0) (ss' := 0) (wF := (wX8 g a0 r0 s0)) [0, 1, 2, 3, 4, 5, 6, 7, 8, 9, 10, 11, 12, 13, 14] rfl rfl ?_)
    refine z_aload_n (pc := 14) (x := a0) C dX8_isCriticalKind_14 (i := 0) rfl rfl ?_
    refine z_get (pc := 15) (v := .ref (r0 0)) C 0 dX8_isCriticalKind_15 fl_RX8_9 rfl rfl ?_
    refine z_sipush (pc := 18) C dX8_isCriticalKind_18 sp_211 ?_
    refine z_iload_n (pc := 21) (x := p1) C dX8_isCriticalKind_21 (i := 1) rfl rfl ?_
    refine z_iadd (pc := 22) C dX8_isCriticalKind_22 ?_
    replace h := chk_e h
    obtain ⟨hb3, h⟩ := h
    refine z_iald (pc := 23) C 1 dX8_isCriticalKind_23 rfl hb3 ?_
    refine z_isub (pc := 24) C dX8_isCriticalKind_24 ?_
    refine z_iconst (pc := 25) C dX8_isCriticalKind_25 ic_1 ?_
    refine z_icmp_ne (pc := 26) C dX8_isCriticalKind_26 (tgt := 33) (by decide) (fun hc => ?_) (fun hc => ?_)
    · replace h := (ite_e h).2 hc
      refine z_iconst (pc := 33) C dX8_isCriticalKind_33 ic_0 ?_
      exact z_zret C X dX8_isCriticalKind_34 rfl (by rw [← Option.some.inj h]; exact ⟨rfl, rfl⟩) (by decide) (by decide)
    · replace h := (ite_e h).1 hc
      refine z_iconst (pc := 29) C dX8_isCriticalKind_29 ic_1 ?_
      refine z_goto (pc := 30) C dX8_isCriticalKind_30 (tgt := 34) (by decide) ?_
      exact z_zret C X dX8_isCriticalKind_34 rfl (by rw [← Option.some.inj h]; exact ⟨rfl, rfl⟩) (by decide) (by decide)
def f_X8_isNext (N : Nat) (s0 : Ob) (p1 : Int32) : Option (Int32) := (ob (f_X8_rankOf N p1) fun x1 => (ob (f_X8_colorOf N p1) fun x2 => (chk (inb ((14 : Int32) + x2) 358) (if x1 = (((s0.2.2.1 0) (((14 : Int32) + x2)).toNatClampNeg) + (1 : Int32)) then (some (1 : Int32)) else (some (0 : Int32))))))
theorem m_X8_isNext {g : Gp} {a0 : Nat} {r0 : Nat → Nat} {N : Nat} {s0 : Ob} {p1 : Int32} {res : Int32} (hg : Ok g) (h : f_X8_isNext N s0 p1 = some res) : Ct g yX8_isNext cX8_isNext 2 (some .boolean) (zrm 1 20) [.ref a0, .int p1] (wX8 g a0 r0 s0) (exR (some (.int res)) (wX8 g a0 r0 s0)) := by
  refine ct_of rfl hg (by show _ ≤ _; exact Nat.le_of_ble_eq_true rfl) (fun K C X => ?_)
  show Zs K 0 0 (wX8 g a0 r0 s0) [(0, .ref a0), (1, .int p1)] 0 []
  unfold f_X8_isNext at h
  refine z_iload_n (pc := 0) (x := p1) C dX8_isNext_0 (i := 1) rfl rfl ?_
  replace h := ob_e h
  obtain ⟨x1, hx1, h⟩ := h
  refine z_callS (pc := 1) (As := [.int p1]) (rest := []) (wr := (wX8 g a0 r0 s0)) C dX8_isNext_1 ml_RX8_74 wt_X8_rankOf (m_X8_rankOf hg hx1) [] [0, 1, 2, 3, 4, 5, 6, 7, 8, 9, 10, 11, 12, 13, 14] rfl rfl ⟨by decide, by decide⟩ (Nat.le_of_ble_eq_true rfl) ⟨by decide, by decide⟩ rfl rfl rfl rfl (by decide) (ex_k C (cs' := 0) (ss' := 0) (wF := (wX8 g a0 r0 s0)) [0, 1, 2, 3, 4, 5, 6, 7, 8, 9, 10, 11, 12, 13, 14] rfl rfl ?_)
  refine z_aload_n (pc := 4) (x := a0) C dX8_isNext_4 (i := 0) rfl rfl ?_
  refine z_get (pc := 5) (v := .ref (r0 0)) C 0 dX8_isNext_5 fl_RX8_9 rfl rfl ?_
  refine z_bipush (pc := 8) C dX8_isNext_8 bp_14 ?_
  refine z_iload_n (pc := 10) (x := p1) C dX8_isNext_10 (i := 1) rfl rfl ?_
  replace h := ob_e h
  obtain ⟨x2, hx2, h⟩ := h
  refine z_callS (pc := 11) (As := [.int p1]) (rest := [.int (14 : Int32), .ref (r0 0), .int x1]) (wr := (wX8 g a0 r0 s0)) C dX8_isNext_11 ml_RX8_70 wt_X8_colorOf (m_X8_colorOf hg hx2) [] [0, 1, 2, 3, 4, 5, 6, 7, 8, 9, 10, 11, 12, 13, 14] rfl rfl ⟨by decide, by decide⟩ (Nat.le_of_ble_eq_true rfl) ⟨by decide, by decide⟩ rfl rfl rfl rfl (by decide) (ex_k C (cs' := 0) (ss' := 0) (wF := (wX8 g a0 r0 s0)) [0, 1, 2, 3, 4, 5, 6, 7, 8, 9, 10, 11, 12, 13, 14] rfl rfl ?_)
  refine z_iadd (pc := 14) C dX8_isNext_14 ?_
  replace h := chk_e h
  obtain ⟨hb3, h⟩ := h
  refine z_iald (pc := 15) C 1 dX8_isNext_15 rfl hb3 ?_
  refine z_iconst (pc := 16) C dX8_isNext_16 ic_1 ?_
  refine z_iadd (pc := 17) C dX8_isNext_17 ?_
  refine z_icmp_ne (pc := 18) C dX8_isNext_18 (tgt := 25) (by decide) (fun hc => ?_) (fun hc => ?_)
  · replace h := (ite_e h).2 hc
    refine z_iconst (pc := 25) C dX8_isNext_25 ic_0 ?_
    exact z_zret C X dX8_isNext_26 rfl (by rw [← Option.some.inj h]; exact ⟨rfl, rfl⟩) (by decide) (by decide)
  · replace h := (ite_e h).1 hc
    refine z_iconst (pc := 21) C dX8_isNext_21 ic_1 ?_
    refine z_goto (pc := 22) C dX8_isNext_22 (tgt := 26) (by decide) ?_
    exact z_zret C X dX8_isNext_26 rfl (by rw [← Option.some.inj h]; exact ⟨rfl, rfl⟩) (by decide) (by decide)
def f_X8_isUseless (N : Nat) (s0 : Ob) (p1 : Int32) (p2 : Int32) : Option (Int32 × Ob) := (ob (f_X8_isKind N s0 p1 p2) fun x1 => (ob (f_X8_isThrown N s0 x1 (1 : Int32)) fun x2 => (if x2.1 = 0 then (ob (f_X8_kind N p1 p2) fun x3 => (ob (f_X8_isUselessKind N x2.2 x3) fun x4 => (if x4 = 0 then (some ((0 : Int32), x2.2)) else (some ((1 : Int32), x2.2))))) else (some ((0 : Int32), x2.2)))))
theorem m_X8_isUseless {g : Gp} {a0 : Nat} {r0 : Nat → Nat} {N : Nat} {s0 : Ob} {p1 : Int32} {p2 : Int32} {res : Int32 × Ob} (hg : Ok g) (h : f_X8_isUseless N s0 p1 p2 = some res) : Ct g yX8_isUseless cX8_isUseless 3 (some .boolean) (zrm 3 68) [.ref a0, .int p1, .int p2] (wX8 g a0 r0 s0) (exR (some (.int res.1)) (wX8 g a0 r0 res.2)) := by
  refine ct_of rfl hg (by show _ ≤ _; exact Nat.le_of_ble_eq_true rfl) (fun K C X => ?_)
  show Zs K 0 0 (wX8 g a0 r0 s0) [(0, .ref a0), (1, .int p1), (2, .int p2)] 0 []
  unfold f_X8_isUseless at h
  refine z_aload_n (pc := 0) (x := a0) C dX8_isUseless_0 (i := 0) rfl rfl ?_
  refine z_aload_n (pc := 1) (x := a0) C dX8_isUseless_1 (i := 0) rfl rfl ?_
  refine z_iload_n (pc := 2) (x := p1) C dX8_isUseless_2 (i := 1) rfl rfl ?_
  refine z_iload_n (pc := 3) (x := p2) C dX8_isUseless_3 (i := 2) rfl rfl ?_
  replace h := ob_e h
  obtain ⟨x1, hx1, h⟩ := h
  refine z_callV (pc := 4) (As := [.int p1, .int p2]) (rest := [.ref a0]) (wr := ([] : va_W)) C dX8_isUseless_4 ml_RX8_223 wv_X8_isKind (m_X8_isKind (a0 := a0) (r0 := r0) hg hx1) [0, 1, 2, 3, 4, 5, 6, 7, 8, 9, 10, 11, 12, 13, 14] [] rfl rfl ⟨by decide, by decide⟩ (Nat.le_of_ble_eq_true rfl) ⟨by decide, by decide⟩ rfl rfl rfl rfl rfl rfl rfl (by decide) (ex_k C (cs' := 0) (ss' := 0) (wF := (wX8 g a0 r0 s0)) [0, 1, 2, 3, 4, 5, 6, 7, 8, 9, 10, 11, 12, 13, 14] rfl rfl ?_)
  refine z_iconst (pc := 7) C dX8_isUseless_7 ic_1 ?_
  replace h := ob_e h
  obtain ⟨x2, hx2, h⟩ := h
  refine z_callV (pc := 8) (As := [.int x1, .int (1 : Int32)]) (rest := []) (wr := ([] : va_W)) C dX8_isUseless_8 ml_RX8_206 wv_X8_isThrown (m_X8_isThrown (a0 := a0) (r0 := r0) hg hx2) [0, 1, 2, 3, 4, 5, 6, 7, 8, 9, 10, 11, 12, 13, 14] [] rfl rfl ⟨by decide, by decide⟩ (Nat.le_of_ble_eq_true rfl) ⟨by decide, by decide⟩ rfl rfl rfl rfl rfl rfl rfl (by decide) (ex_k C (cs' := 0) (ss' := 0) (wF := (wX8 g a0 r0 x2.2)) [0, 1, 2, 3, 4, 5, 6, 7, 8, 9, 10, 11, 12, 13, 14] rfl rfl ?_)
  refine z_if_ne (pc := 11) C dX8_isUseless_11 (tgt := 30) (by decide) (fun hc => ?_) (fun hc => ?_)
  · replace h := (ite_e h).2 hc
    refine z_iconst (pc := 30) C dX8_isUseless_30 ic_0 ?_
    exact z_zret C X dX8_isUseless_31 rfl (by rw [← Option.some.inj h]; exact ⟨rfl, rfl⟩) (by decide) (by decide)
  · replace h := (ite_e h).1 hc
    refine z_aload_n (pc := 14) (x := a0) C dX8_isUseless_14 (i := 0) rfl rfl ?_
    refine z_iload_n (pc := 15) (x := p1) C dX8_isUseless_15 (i := 1) rfl rfl ?_
    refine z_iload_n (pc := 16) (x := p2) C dX8_isUseless_16 (i := 2) rfl rfl ?_
    replace h := ob_e h
    obtain ⟨x3, hx3, h⟩ := h
    refine z_callS (pc := 17) (As := [.int p1, .int p2]) (rest := [.ref a0]) (wr := (wX8 g a0 r0 x2.2)) C dX8_isUseless_17 ml_RX8_136 wt_X8_kind (m_X8_kind hg hx3) [] [0, 1, 2, 3, 4, 5, 6, 7, 8, 9, 10, 11, 12, 13, 14] rfl rfl ⟨by decide, by decide⟩ (Nat.le_of_ble_eq_true rfl) ⟨by decide, by decide⟩ rfl rfl rfl rfl (by decide) (ex_k C (cs' := 0) (ss' := 0) (wF := (wX8 g a0 r0 x2.2)) [0, 1, 2, 3, 4, 5, 6, 7, 8, 9, 10, 11, 12, 13, 14] rfl rfl ?_)
    replace h := ob_e h
    obtain ⟨x4, hx4, h⟩ := h
    refine z_callV (pc := 20) (As := [.int x3]) (rest := []) (wr := ([] : va_W)) C dX8_isUseless_20 ml_RX8_235 wv_X8_isUselessKind (m_X8_isUselessKind (a0 := a0) (r0 := r0) hg hx4) [0, 1, 2, 3, 4, 5, 6, 7, 8, 9, 10, 11, 12, 13, 14] [] rfl rfl ⟨by decide, by decide⟩ (Nat.le_of_ble_eq_true rfl) ⟨by decide, by decide⟩ rfl rfl rfl rfl rfl rfl rfl (by decide) (ex_k C (cs' := 0) (ss' := 0) (wF := (wX8 g a0 r0 x2.2)) [0, 1, 2, 3, 4, 5, 6, 7, 8, 9, 10, 11, 12, 13, 14] rfl rfl ?_)
    refine z_if_eq (pc := 23) C dX8_isUseless_23 (tgt := 30) (by decide) (fun hc => ?_) (fun hc => ?_)
    · replace h := (ite_e h).1 hc
      refine z_iconst (pc := 30) C dX8_isUseless_30 ic_0 ?_
      exact z_zret C X dX8_isUseless_31 rfl (by rw [← Option.some.inj h]; exact ⟨rfl, rfl⟩) (by decide) (by decide)
    · replace h := (ite_e h).2 hc
      refine z_iconst (pc := 26) C dX8_isUseless_26 ic_1 ?_
      refine z_goto (pc := 27) C dX8_isUseless_27 (tgt := 31) (by decide) ?_
      exact z_zret C X dX8_isUseless_31 rfl (by rw [← Option.some.inj h]; exact ⟨rfl, rfl⟩) (by decide) (by decide)
