/-! OWN, written by wip/whole/tools/mkall.py: what each method does to its cells, and the walk that shows it -/
def F_J7_fill_53178_5 (N : Nat) (n0 : Nat) (p1 : Int32)  (k5 : Int32 → Int32 → (Nat → Int32) → Option ((Nat → Int32))) (v2 : Int32) (v3 : Int32) (s0 : (Nat → Int32)) : Option ((Nat → Int32)) := (if v3 ≤ v2 then (some s0) else (chk (inb v2 n0) (k5 (v2 + (1 : Int32)) v3 (upd s0 (v2).toNatClampNeg p1))))
def f_J7_fill_53178_5 (N : Nat) (n0 : Nat) (p1 : Int32)  : Nat → Int32 → Int32 → (Nat → Int32) → Option ((Nat → Int32)) := zlp (fun _ _ _ => none) (F_J7_fill_53178_5 N n0 p1)
theorem m_J7_fill_53178_5 {K : Kt} {g : Gp} {a0 : Nat} {N : Nat} {n0 : Nat} {p1 : Int32} {res : (Nat → Int32)} (hg : Ok g) (C : Cx K g cJ7_fill_53178 RJ7 4 (zrm 0 0)) (X : Rx K (exR none (wA g a0 n0 res)) 0 0 none) : ∀ (n : Nat) (v2 : Int32) (v3 : Int32) (s0 : (Nat → Int32)), f_J7_fill_53178_5 N n0 p1 n v2 v3 s0 = some res → Zs K 0 0 (wA g a0 n0 s0) [(0, .ref a0), (1, .int p1), (2, .int v2), (3, .int v3)] 5 [] := by
  intro n
  induction n with
  | zero => intro v2 v3 s0 h; exact nomatch (show (none : Option ((Nat → Int32))) = some res from h)
  | succ n hk5 =>
    intro v2 v3 s0 h
    replace h : F_J7_fill_53178_5 N n0 p1 (f_J7_fill_53178_5 N n0 p1 n) v2 v3 s0 = some res := h
    unfold F_J7_fill_53178_5 at h
    refine z_iload_n (pc := 5) (x := v2) C dJ7_fill_53178_5 (i := 2) rfl rfl ?_
    refine z_iload_n (pc := 6) (x := v3) C dJ7_fill_53178_6 (i := 3) rfl rfl ?_
    refine z_icmp_ge (pc := 7) C dJ7_fill_53178_7 (tgt := 20) (by decide) (fun hc => ?_) (fun hc => ?_)
    · replace h := (ite_e h).1 hc
      exact z_vret C X dJ7_fill_53178_20 (by rw [← Option.some.inj h]; exact ⟨rfl, rfl⟩) (by decide) (by decide)
    · replace h := (ite_e h).2 hc
      refine z_aload_n (pc := 10) (x := a0) C dJ7_fill_53178_10 (i := 0) rfl rfl ?_
      refine z_iload_n (pc := 11) (x := v2) C dJ7_fill_53178_11 (i := 2) rfl rfl ?_
      refine z_iload_n (pc := 12) (x := p1) C dJ7_fill_53178_12 (i := 1) rfl rfl ?_
      replace h := chk_e h
      obtain ⟨hb1, h⟩ := h
      refine z_iast (pc := 13) C 0 dJ7_fill_53178_13 rfl hb1 (ws' := (wA g a0 n0 (upd s0 (v2).toNatClampNeg p1))) rfl ?_
      refine z_iinc (pc := 14) C dJ7_fill_53178_14 rfl (inc_e 1 (1 : Int32) ic_1 v2) (by decide) (lv' := [(2, .int (v2 + (1 : Int32))), (0, .ref a0), (1, .int p1), (3, .int v3)]) rfl ?_
      refine z_goto (pc := 17) C dJ7_fill_53178_17 (tgt := 5) (by decide) ?_
      refine z_lv (lv' := [(0, .ref a0), (1, .int p1), (2, .int (v2 + (1 : Int32))), (3, .int v3)]) [1, 2, 0, 3] rfl ?_
      exact hk5 (v2 + (1 : Int32)) v3 (upd s0 (v2).toNatClampNeg p1) h
def f_J7_fill_53178 (N : Nat) (n0 : Nat) (s0 : (Nat → Int32)) (p1 : Int32) : Option ((Nat → Int32)) := (f_J7_fill_53178_5 N n0 p1 N (0 : Int32) (Int32.ofNat n0) s0)
theorem m_J7_fill_53178 {g : Gp} {a0 : Nat} {N : Nat} {n0 : Nat} {s0 : (Nat → Int32)} {p1 : Int32} {res : (Nat → Int32)} (hg : Ok g) (h : f_J7_fill_53178 N n0 s0 p1 = some res) : Ct g yJ7_fill_53178 cJ7_fill_53178 4 none (zrm 0 0) [.ref a0, .int p1] (wA g a0 n0 s0) (exR none (wA g a0 n0 res)) := by
  refine ct_of rfl hg (by show _ ≤ _; exact Nat.le_of_ble_eq_true rfl) (fun K C X => ?_)
  show Zs K 0 0 (wA g a0 n0 s0) [(0, .ref a0), (1, .int p1)] 0 []
  unfold f_J7_fill_53178 at h
  refine z_iconst (pc := 0) C dJ7_fill_53178_0 ic_0 ?_
  refine z_istore_n (pc := 1) C dJ7_fill_53178_1 (i := 2) rfl (by decide) (lv' := [(2, .int (0 : Int32)), (0, .ref a0), (1, .int p1)]) rfl ?_
  refine z_aload_n (pc := 2) (x := a0) C dJ7_fill_53178_2 (i := 0) rfl rfl ?_
  refine z_alen_int (pc := 3) (v := (Int32.ofNat n0)) C 0 dJ7_fill_53178_3 rfl rfl ?_
  refine z_istore_n (pc := 4) C dJ7_fill_53178_4 (i := 3) rfl (by decide) (lv' := [(3, .int (Int32.ofNat n0)), (2, .int (0 : Int32)), (0, .ref a0), (1, .int p1)]) rfl ?_
  refine z_lv (lv' := [(0, .ref a0), (1, .int p1), (2, .int (0 : Int32)), (3, .int (Int32.ofNat n0))]) [2, 3, 1, 0] rfl ?_
  exact m_J7_fill_53178_5 (a0 := a0) hg C X N (0 : Int32) (Int32.ofNat n0) s0 h
def f_J13_bitCount_95d88 (N : Nat) (p0 : Int64) : Option (Int32) := (znm ((p0).toUInt64 >>> (((1 : Int32)).toInt64.toUInt64 &&& Int64.toUInt64 63)).toInt64 fun x1 => (znm ((p0 - (x1 &&& (6148914691236517205 : Int64))) &&& (3689348814741910323 : Int64)) fun x2 => (znm (((p0 - (x1 &&& (6148914691236517205 : Int64)))).toUInt64 >>> (((2 : Int32)).toInt64.toUInt64 &&& Int64.toUInt64 63)).toInt64 fun x3 => (znm (((x2 + (x3 &&& (3689348814741910323 : Int64)))).toUInt64 >>> (((4 : Int32)).toInt64.toUInt64 &&& Int64.toUInt64 63)).toInt64 fun x4 => (znm (((x2 + (x3 &&& (3689348814741910323 : Int64))) + x4) &&& (1085102592571150095 : Int64)) fun x5 => (znm ((x5).toUInt64 >>> (((8 : Int32)).toInt64.toUInt64 &&& Int64.toUInt64 63)).toInt64 fun x6 => (znm (((x5 + x6)).toUInt64 >>> (((16 : Int32)).toInt64.toUInt64 &&& Int64.toUInt64 63)).toInt64 fun x7 => (znm ((((x5 + x6) + x7)).toUInt64 >>> (((32 : Int32)).toInt64.toUInt64 &&& Int64.toUInt64 63)).toInt64 fun x8 => (some (((((x5 + x6) + x7) + x8)).toInt32 &&& (127 : Int32)))))))))))
theorem m_J13_bitCount_95d88 {g : Gp}  {N : Nat} {p0 : Int64} {res : Int32} (hg : Ok g) (h : f_J13_bitCount_95d88 N p0 = some res) : Ct g yJ13_bitCount_95d88 cJ13_bitCount_95d88 2 (some .int) (zrm 0 0) [.long p0] ([] : va_W) (exR (some (.int res)) ([] : va_W)) := by
  refine ct_of rfl hg (by show _ ≤ _; exact Nat.le_of_ble_eq_true rfl) (fun K C X => ?_)
  show Zs K 0 0 ([] : va_W) [(0, .long p0)] 0 []
  unfold f_J13_bitCount_95d88 at h
  refine z_lload_n (pc := 0) (x := p0) C dJ13_bitCount_95d88_0 (i := 0) rfl rfl ?_
  refine z_lload_n (pc := 1) (x := p0) C dJ13_bitCount_95d88_1 (i := 0) rfl rfl ?_
  refine z_iconst (pc := 2) C dJ13_bitCount_95d88_2 ic_1 ?_
  refine z_lushr (pc := 3) C dJ13_bitCount_95d88_3 ?_
  replace h := znm_e h
  obtain ⟨x1, hx1, h⟩ := h
  refine z_top2 hx1 ?_
  refine z_ldc2 (pc := 4) C dJ13_bitCount_95d88_4 kl_RJ13_314 ?_
  refine z_land (pc := 7) C dJ13_bitCount_95d88_7 ?_
  refine z_lsub (pc := 8) C dJ13_bitCount_95d88_8 ?_
  refine z_lstore_n (pc := 9) C dJ13_bitCount_95d88_9 (i := 0) rfl (by decide) (lv' := [(0, .long (p0 - (x1 &&& (6148914691236517205 : Int64))))]) rfl ?_
  refine z_lload_n (pc := 10) (x := (p0 - (x1 &&& (6148914691236517205 : Int64)))) C dJ13_bitCount_95d88_10 (i := 0) rfl rfl ?_
  refine z_ldc2 (pc := 11) C dJ13_bitCount_95d88_11 kl_RJ13_316 ?_
  refine z_land (pc := 14) C dJ13_bitCount_95d88_14 ?_
  replace h := znm_e h
  obtain ⟨x2, hx2, h⟩ := h
  refine z_top2 hx2 ?_
  refine z_lload_n (pc := 15) (x := (p0 - (x1 &&& (6148914691236517205 : Int64)))) C dJ13_bitCount_95d88_15 (i := 0) rfl rfl ?_
  refine z_iconst (pc := 16) C dJ13_bitCount_95d88_16 ic_2 ?_
  refine z_lushr (pc := 17) C dJ13_bitCount_95d88_17 ?_
  replace h := znm_e h
  obtain ⟨x3, hx3, h⟩ := h
  refine z_top2 hx3 ?_
  refine z_ldc2 (pc := 18) C dJ13_bitCount_95d88_18 kl_RJ13_316 ?_
  refine z_land (pc := 21) C dJ13_bitCount_95d88_21 ?_
  refine z_ladd (pc := 22) C dJ13_bitCount_95d88_22 ?_
  refine z_lstore_n (pc := 23) C dJ13_bitCount_95d88_23 (i := 0) rfl (by decide) (lv' := [(0, .long (x2 + (x3 &&& (3689348814741910323 : Int64))))]) rfl ?_
  refine z_lload_n (pc := 24) (x := (x2 + (x3 &&& (3689348814741910323 : Int64)))) C dJ13_bitCount_95d88_24 (i := 0) rfl rfl ?_
  refine z_lload_n (pc := 25) (x := (x2 + (x3 &&& (3689348814741910323 : Int64)))) C dJ13_bitCount_95d88_25 (i := 0) rfl rfl ?_
  refine z_iconst (pc := 26) C dJ13_bitCount_95d88_26 ic_4 ?_
  refine z_lushr (pc := 27) C dJ13_bitCount_95d88_27 ?_
  replace h := znm_e h
  obtain ⟨x4, hx4, h⟩ := h
  refine z_top2 hx4 ?_
  refine z_ladd (pc := 28) C dJ13_bitCount_95d88_28 ?_
  refine z_ldc2 (pc := 29) C dJ13_bitCount_95d88_29 kl_RJ13_318 ?_
  refine z_land (pc := 32) C dJ13_bitCount_95d88_32 ?_
  replace h := znm_e h
  obtain ⟨x5, hx5, h⟩ := h
  refine z_top2 hx5 ?_
  refine z_lstore_n (pc := 33) C dJ13_bitCount_95d88_33 (i := 0) rfl (by decide) (lv' := [(0, .long x5)]) rfl ?_
  refine z_lload_n (pc := 34) (x := x5) C dJ13_bitCount_95d88_34 (i := 0) rfl rfl ?_
  refine z_lload_n (pc := 35) (x := x5) C dJ13_bitCount_95d88_35 (i := 0) rfl rfl ?_
  refine z_bipush (pc := 36) C dJ13_bitCount_95d88_36 bp_8 ?_
  refine z_lushr (pc := 38) C dJ13_bitCount_95d88_38 ?_
  replace h := znm_e h
  obtain ⟨x6, hx6, h⟩ := h
  refine z_top2 hx6 ?_
  refine z_ladd (pc := 39) C dJ13_bitCount_95d88_39 ?_
  refine z_lstore_n (pc := 40) C dJ13_bitCount_95d88_40 (i := 0) rfl (by decide) (lv' := [(0, .long (x5 + x6))]) rfl ?_
  refine z_lload_n (pc := 41) (x := (x5 + x6)) C dJ13_bitCount_95d88_41 (i := 0) rfl rfl ?_
  refine z_lload_n (pc := 42) (x := (x5 + x6)) C dJ13_bitCount_95d88_42 (i := 0) rfl rfl ?_
  refine z_bipush (pc := 43) C dJ13_bitCount_95d88_43 bp_16 ?_
  refine z_lushr (pc := 45) C dJ13_bitCount_95d88_45 ?_
  replace h := znm_e h
  obtain ⟨x7, hx7, h⟩ := h
  refine z_top2 hx7 ?_
  refine z_ladd (pc := 46) C dJ13_bitCount_95d88_46 ?_
  refine z_lstore_n (pc := 47) C dJ13_bitCount_95d88_47 (i := 0) rfl (by decide) (lv' := [(0, .long ((x5 + x6) + x7))]) rfl ?_
  refine z_lload_n (pc := 48) (x := ((x5 + x6) + x7)) C dJ13_bitCount_95d88_48 (i := 0) rfl rfl ?_
  refine z_lload_n (pc := 49) (x := ((x5 + x6) + x7)) C dJ13_bitCount_95d88_49 (i := 0) rfl rfl ?_
  refine z_bipush (pc := 50) C dJ13_bitCount_95d88_50 bp_32 ?_
  refine z_lushr (pc := 52) C dJ13_bitCount_95d88_52 ?_
  replace h := znm_e h
  obtain ⟨x8, hx8, h⟩ := h
  refine z_top2 hx8 ?_
  refine z_ladd (pc := 53) C dJ13_bitCount_95d88_53 ?_
  refine z_lstore_n (pc := 54) C dJ13_bitCount_95d88_54 (i := 0) rfl (by decide) (lv' := [(0, .long (((x5 + x6) + x7) + x8))]) rfl ?_
  refine z_lload_n (pc := 55) (x := (((x5 + x6) + x7) + x8)) C dJ13_bitCount_95d88_55 (i := 0) rfl rfl ?_
  refine z_l2i (pc := 56) C dJ13_bitCount_95d88_56 ?_
  refine z_bipush (pc := 57) C dJ13_bitCount_95d88_57 bp_127 ?_
  refine z_iand (pc := 59) C dJ13_bitCount_95d88_59 ?_
  exact z_iret C X dJ13_bitCount_95d88_60 (by rw [← Option.some.inj h]; exact ⟨rfl, rfl⟩) (by decide) (by decide)
def f_J6_bitCount_0f7a4 (N : Nat) (p0 : Int32) : Option (Int32) := (znm ((p0).toUInt32 >>> (((1 : Int32)).toUInt32 &&& Int32.toUInt32 31)).toInt32 fun x1 => (znm (((p0 - (x1 &&& (1431655765 : Int32)))).toUInt32 >>> (((2 : Int32)).toUInt32 &&& Int32.toUInt32 31)).toInt32 fun x2 => (znm (((p0 - (x1 &&& (1431655765 : Int32))) &&& (858993459 : Int32)) + (x2 &&& (858993459 : Int32))) fun x3 => (znm ((x3).toUInt32 >>> (((4 : Int32)).toUInt32 &&& Int32.toUInt32 31)).toInt32 fun x4 => (znm ((((x3 + x4) &&& (252645135 : Int32))).toUInt32 >>> (((8 : Int32)).toUInt32 &&& Int32.toUInt32 31)).toInt32 fun x5 => (znm (((((x3 + x4) &&& (252645135 : Int32)) + x5)).toUInt32 >>> (((16 : Int32)).toUInt32 &&& Int32.toUInt32 31)).toInt32 fun x6 => (some (((((x3 + x4) &&& (252645135 : Int32)) + x5) + x6) &&& (63 : Int32)))))))))
theorem m_J6_bitCount_0f7a4 {g : Gp}  {N : Nat} {p0 : Int32} {res : Int32} (hg : Ok g) (h : f_J6_bitCount_0f7a4 N p0 = some res) : Ct g yJ6_bitCount_0f7a4 cJ6_bitCount_0f7a4 1 (some .int) (zrm 0 0) [.int p0] ([] : va_W) (exR (some (.int res)) ([] : va_W)) := by
  refine ct_of rfl hg (by show _ ≤ _; exact Nat.le_of_ble_eq_true rfl) (fun K C X => ?_)
  show Zs K 0 0 ([] : va_W) [(0, .int p0)] 0 []
  unfold f_J6_bitCount_0f7a4 at h
  refine z_iload_n (pc := 0) (x := p0) C dJ6_bitCount_0f7a4_0 (i := 0) rfl rfl ?_
  refine z_iload_n (pc := 1) (x := p0) C dJ6_bitCount_0f7a4_1 (i := 0) rfl rfl ?_
  refine z_iconst (pc := 2) C dJ6_bitCount_0f7a4_2 ic_1 ?_
  refine z_iushr (pc := 3) C dJ6_bitCount_0f7a4_3 ?_
  replace h := znm_e h
  obtain ⟨x1, hx1, h⟩ := h
  refine z_top1 hx1 ?_
  refine z_ldcw (pc := 4) C dJ6_bitCount_0f7a4_4 ki_RJ6_265 ?_
  refine z_iand (pc := 7) C dJ6_bitCount_0f7a4_7 ?_
  refine z_isub (pc := 8) C dJ6_bitCount_0f7a4_8 ?_
  refine z_istore_n (pc := 9) C dJ6_bitCount_0f7a4_9 (i := 0) rfl (by decide) (lv' := [(0, .int (p0 - (x1 &&& (1431655765 : Int32))))]) rfl ?_
  refine z_iload_n (pc := 10) (x := (p0 - (x1 &&& (1431655765 : Int32)))) C dJ6_bitCount_0f7a4_10 (i := 0) rfl rfl ?_
  refine z_ldcw (pc := 11) C dJ6_bitCount_0f7a4_11 ki_RJ6_266 ?_
  refine z_iand (pc := 14) C dJ6_bitCount_0f7a4_14 ?_
  refine z_iload_n (pc := 15) (x := (p0 - (x1 &&& (1431655765 : Int32)))) C dJ6_bitCount_0f7a4_15 (i := 0) rfl rfl ?_
  refine z_iconst (pc := 16) C dJ6_bitCount_0f7a4_16 ic_2 ?_
  refine z_iushr (pc := 17) C dJ6_bitCount_0f7a4_17 ?_
  replace h := znm_e h
  obtain ⟨x2, hx2, h⟩ := h
  refine z_top1 hx2 ?_
  refine z_ldcw (pc := 18) C dJ6_bitCount_0f7a4_18 ki_RJ6_266 ?_
  refine z_iand (pc := 21) C dJ6_bitCount_0f7a4_21 ?_
  refine z_iadd (pc := 22) C dJ6_bitCount_0f7a4_22 ?_
  replace h := znm_e h
  obtain ⟨x3, hx3, h⟩ := h
  refine z_top1 hx3 ?_
  refine z_istore_n (pc := 23) C dJ6_bitCount_0f7a4_23 (i := 0) rfl (by decide) (lv' := [(0, .int x3)]) rfl ?_
  refine z_iload_n (pc := 24) (x := x3) C dJ6_bitCount_0f7a4_24 (i := 0) rfl rfl ?_
  refine z_iload_n (pc := 25) (x := x3) C dJ6_bitCount_0f7a4_25 (i := 0) rfl rfl ?_
  refine z_iconst (pc := 26) C dJ6_bitCount_0f7a4_26 ic_4 ?_
  refine z_iushr (pc := 27) C dJ6_bitCount_0f7a4_27 ?_
  replace h := znm_e h
  obtain ⟨x4, hx4, h⟩ := h
  refine z_top1 hx4 ?_
  refine z_iadd (pc := 28) C dJ6_bitCount_0f7a4_28 ?_
  refine z_ldcw (pc := 29) C dJ6_bitCount_0f7a4_29 ki_RJ6_267 ?_
  refine z_iand (pc := 32) C dJ6_bitCount_0f7a4_32 ?_
  refine z_istore_n (pc := 33) C dJ6_bitCount_0f7a4_33 (i := 0) rfl (by decide) (lv' := [(0, .int ((x3 + x4) &&& (252645135 : Int32)))]) rfl ?_
  refine z_iload_n (pc := 34) (x := ((x3 + x4) &&& (252645135 : Int32))) C dJ6_bitCount_0f7a4_34 (i := 0) rfl rfl ?_
  refine z_iload_n (pc := 35) (x := ((x3 + x4) &&& (252645135 : Int32))) C dJ6_bitCount_0f7a4_35 (i := 0) rfl rfl ?_
  refine z_bipush (pc := 36) C dJ6_bitCount_0f7a4_36 bp_8 ?_
  refine z_iushr (pc := 38) C dJ6_bitCount_0f7a4_38 ?_
  replace h := znm_e h
  obtain ⟨x5, hx5, h⟩ := h
  refine z_top1 hx5 ?_
  refine z_iadd (pc := 39) C dJ6_bitCount_0f7a4_39 ?_
  refine z_istore_n (pc := 40) C dJ6_bitCount_0f7a4_40 (i := 0) rfl (by decide) (lv' := [(0, .int (((x3 + x4) &&& (252645135 : Int32)) + x5))]) rfl ?_
  refine z_iload_n (pc := 41) (x := (((x3 + x4) &&& (252645135 : Int32)) + x5)) C dJ6_bitCount_0f7a4_41 (i := 0) rfl rfl ?_
  refine z_iload_n (pc := 42) (x := (((x3 + x4) &&& (252645135 : Int32)) + x5)) C dJ6_bitCount_0f7a4_42 (i := 0) rfl rfl ?_
  refine z_bipush (pc := 43) C dJ6_bitCount_0f7a4_43 bp_16 ?_
  refine z_iushr (pc := 45) C dJ6_bitCount_0f7a4_45 ?_
  replace h := znm_e h
  obtain ⟨x6, hx6, h⟩ := h
  refine z_top1 hx6 ?_
  refine z_iadd (pc := 46) C dJ6_bitCount_0f7a4_46 ?_
  refine z_istore_n (pc := 47) C dJ6_bitCount_0f7a4_47 (i := 0) rfl (by decide) (lv' := [(0, .int ((((x3 + x4) &&& (252645135 : Int32)) + x5) + x6))]) rfl ?_
  refine z_iload_n (pc := 48) (x := ((((x3 + x4) &&& (252645135 : Int32)) + x5) + x6)) C dJ6_bitCount_0f7a4_48 (i := 0) rfl rfl ?_
  refine z_bipush (pc := 49) C dJ6_bitCount_0f7a4_49 bp_63 ?_
  refine z_iand (pc := 51) C dJ6_bitCount_0f7a4_51 ?_
  exact z_iret C X dJ6_bitCount_0f7a4_52 (by rw [← Option.some.inj h]; exact ⟨rfl, rfl⟩) (by decide) (by decide)
def f_X1_cardAt (N : Nat) (s0 : Ob) (p1 : Int32) (p2 : Int32) : Option (Int32) := (if p1 < 0 then (some (-1 : Int32)) else (if (4 : Int32) ≤ p1 then (some (-1 : Int32)) else (if p2 < 0 then (some (-1 : Int32)) else (chk (inb p1 4) (if p2 < ((s0.2.2.1 10) (p1).toNatClampNeg) then (if (20 : Int32) ≤ ((p1 * (5 : Int32)) + p2) then (some (-1 : Int32)) else (chk (inb ((p1 * (5 : Int32)) + p2) 20) (some ((s0.2.2.1 9) (((p1 * (5 : Int32)) + p2)).toNatClampNeg)))) else (some (-1 : Int32)))))))
theorem m_X1_cardAt {g : Gp} {a0 : Nat} {r0 : Nat → Nat} {q0_0 : Nat} {N : Nat} {s0 : Ob} {p1 : Int32} {p2 : Int32} {res : Int32} (hg : Ok g) (h : f_X1_cardAt N s0 p1 p2 = some res) : Ct g yX1_cardAt cX1_cardAt 4 (some .int) (zrm 0 0) [.ref a0, .int p1, .int p2] (wX1 g a0 r0 q0_0 s0) (exR (some (.int res)) (wX1 g a0 r0 q0_0 s0)) := by
  refine ct_of rfl hg (by show _ ≤ _; exact Nat.le_of_ble_eq_true rfl) (fun K C X => ?_)
  show Zs K 0 0 (wX1 g a0 r0 q0_0 s0) [(0, .ref a0), (1, .int p1), (2, .int p2)] 0 []
  unfold f_X1_cardAt at h
  refine z_iload_n (pc := 0) (x := p1) C dX1_cardAt_0 (i := 1) rfl rfl ?_
  refine z_if_lt (pc := 1) C dX1_cardAt_1 (tgt := 23) (by decide) (fun hc => ?_) (fun hc => ?_)
  · replace h := (ite_e h).1 hc
    refine z_iconst (pc := 23) C dX1_cardAt_23 ic_m1 ?_
    exact z_iret C X dX1_cardAt_24 (by rw [← Option.some.inj h]; exact ⟨rfl, rfl⟩) (by decide) (by decide)
  · replace h := (ite_e h).2 hc
    refine z_iload_n (pc := 4) (x := p1) C dX1_cardAt_4 (i := 1) rfl rfl ?_
    refine z_iconst (pc := 5) C dX1_cardAt_5 ic_4 ?_
    refine z_icmp_ge (pc := 6) C dX1_cardAt_6 (tgt := 23) (by decide) (fun hc => ?_) (fun hc => ?_)
    · replace h := (ite_e h).1 hc
      refine z_iconst (pc := 23) C dX1_cardAt_23 ic_m1 ?_
      exact z_iret C X dX1_cardAt_24 (by rw [← Option.some.inj h]; exact ⟨rfl, rfl⟩) (by decide) (by decide)
    · replace h := (ite_e h).2 hc
      refine z_iload_n (pc := 9) (x := p2) C dX1_cardAt_9 (i := 2) rfl rfl ?_
      refine z_if_lt (pc := 10) C dX1_cardAt_10 (tgt := 23) (by decide) (fun hc => ?_) (fun hc => ?_)
      · replace h := (ite_e h).1 hc
        refine z_iconst (pc := 23) C dX1_cardAt_23 ic_m1 ?_
        exact z_iret C X dX1_cardAt_24 (by rw [← Option.some.inj h]; exact ⟨rfl, rfl⟩) (by decide) (by decide)
      · replace h := (ite_e h).2 hc
        refine z_iload_n (pc := 13) (x := p2) C dX1_cardAt_13 (i := 2) rfl rfl ?_
        refine z_aload_n (pc := 14) (x := a0) C dX1_cardAt_14 (i := 0) rfl rfl ?_
        refine z_get (pc := 15) (v := .ref (r0 10)) C 0 dX1_cardAt_15 fl_RX1_18 rfl rfl ?_
        refine z_iload_n (pc := 18) (x := p1) C dX1_cardAt_18 (i := 1) rfl rfl ?_
        replace h := chk_e h
        obtain ⟨hb1, h⟩ := h
        refine z_iald (pc := 19) C 3 dX1_cardAt_19 rfl hb1 ?_
        refine z_icmp_lt (pc := 20) C dX1_cardAt_20 (tgt := 25) (by decide) (fun hc => ?_) (fun hc => ?_)
        · replace h := (ite_e h).1 hc
          refine z_iload_n (pc := 25) (x := p1) C dX1_cardAt_25 (i := 1) rfl rfl ?_
          refine z_iconst (pc := 26) C dX1_cardAt_26 ic_5 ?_
          refine z_imul (pc := 27) C dX1_cardAt_27 ?_
          refine z_iload_n (pc := 28) (x := p2) C dX1_cardAt_28 (i := 2) rfl rfl ?_
          refine z_iadd (pc := 29) C dX1_cardAt_29 ?_
          refine z_istore_n (pc := 30) C dX1_cardAt_30 (i := 3) rfl (by decide) (lv' := [(3, .int ((p1 * (5 : Int32)) + p2)), (0, .ref a0), (1, .int p1), (2, .int p2)]) rfl ?_
          refine z_iload_n (pc := 31) (x := ((p1 * (5 : Int32)) + p2)) C dX1_cardAt_31 (i := 3) rfl rfl ?_
          refine z_aload_n (pc := 32) (x := a0) C dX1_cardAt_32 (i := 0) rfl rfl ?_
          refine z_get (pc := 33) (v := .ref (r0 9)) C 0 dX1_cardAt_33 fl_RX1_15 rfl rfl ?_
          refine z_alen_int (pc := 36) (v := (20 : Int32)) C 2 dX1_cardAt_36 rfl (by decide) ?_
          refine z_icmp_ge (pc := 37) C dX1_cardAt_37 (tgt := 49) (by decide) (fun hc => ?_) (fun hc => ?_)
          · replace h := (ite_e h).1 hc
            refine z_iconst (pc := 49) C dX1_cardAt_49 ic_m1 ?_
            exact z_iret C X dX1_cardAt_50 (by rw [← Option.some.inj h]; exact ⟨rfl, rfl⟩) (by decide) (by decide)
          · replace h := (ite_e h).2 hc
            refine z_aload_n (pc := 40) (x := a0) C dX1_cardAt_40 (i := 0) rfl rfl ?_
            refine z_get (pc := 41) (v := .ref (r0 9)) C 0 dX1_cardAt_41 fl_RX1_15 rfl rfl ?_
            refine z_iload_n (pc := 44) (x := ((p1 * (5 : Int32)) + p2)) C dX1_cardAt_44 (i := 3) rfl rfl ?_
            replace h := chk_e h
            obtain ⟨hb2, h⟩ := h
            refine z_iald (pc := 45) C 2 dX1_cardAt_45 rfl hb2 ?_
            refine z_goto (pc := 46) C dX1_cardAt_46 (tgt := 50) (by decide) ?_
            exact z_iret C X dX1_cardAt_50 (by rw [← Option.some.inj h]; exact ⟨rfl, rfl⟩) (by decide) (by decide)
        · replace h := (ite_e h).2 hc
          refine z_iconst (pc := 23) C dX1_cardAt_23 ic_m1 ?_
          exact z_iret C X dX1_cardAt_24 (by rw [← Option.some.inj h]; exact ⟨rfl, rfl⟩) (by decide) (by decide)
def F_X1_takeCard_19 (N : Nat) (p1 : Int32)  (k19 : Int32 → Int32 → Ob → Option (Int32 × Ob)) (v2 : Int32) (v3 : Int32) (s0 : Ob) : Option (Int32 × Ob) := (chk (inb (s0.1 4) 4) (if ((s0.2.2.1 10) ((s0.1 4)).toNatClampNeg) ≤ (v3 + (1 : Int32)) then (chk (inb (s0.1 4) 4) (chk (inb (s0.1 4) 4) (some (v2, (sa s0 10 (upd (s0.2.2.1 10) ((s0.1 4)).toNatClampNeg (((s0.2.2.1 10) ((s0.1 4)).toNatClampNeg) - (1 : Int32)))))))) else (chk (inb ((((s0.1 4) * (5 : Int32)) + v3) + (1 : Int32)) 20) (znm ((s0.2.2.1 9) (((((s0.1 4) * (5 : Int32)) + v3) + (1 : Int32))).toNatClampNeg) fun x6 => (chk (inb (((s0.1 4) * (5 : Int32)) + v3) 20) (k19 v2 (v3 + (1 : Int32)) (sa s0 9 (upd (s0.2.2.1 9) ((((s0.1 4) * (5 : Int32)) + v3)).toNatClampNeg x6))))))))
def f_X1_takeCard_19 (N : Nat) (p1 : Int32)  : Nat → Int32 → Int32 → Ob → Option (Int32 × Ob) := zlp (fun _ _ _ => none) (F_X1_takeCard_19 N p1)
theorem m_X1_takeCard_19 {K : Kt} {g : Gp} {a0 : Nat} {r0 : Nat → Nat} {q0_0 : Nat} {N : Nat} {p1 : Int32} {res : Int32 × Ob} (hg : Ok g) (C : Cx K g cX1_takeCard RX1 4 (zrm 1 23)) (X : Rx K (exR (some (.int res.1)) (wX1 g a0 r0 q0_0 res.2)) 0 0 (some .int)) : ∀ (n : Nat) (v2 : Int32) (v3 : Int32) (s0 : Ob), f_X1_takeCard_19 N p1 n v2 v3 s0 = some res → Zs K 0 0 (wX1 g a0 r0 q0_0 s0) [(0, .ref a0), (2, .int v2), (3, .int v3)] 19 [] := by
  intro n
  induction n with
  | zero => intro v2 v3 s0 h; exact nomatch (show (none : Option (Int32 × Ob)) = some res from h)
  | succ n hk19 =>
    intro v2 v3 s0 h
    replace h : F_X1_takeCard_19 N p1 (f_X1_takeCard_19 N p1 n) v2 v3 s0 = some res := h
    unfold F_X1_takeCard_19 at h
    refine z_iload_n (pc := 19) (x := v3) C dX1_takeCard_19 (i := 3) rfl rfl ?_
    refine z_iconst (pc := 20) C dX1_takeCard_20 ic_1 ?_
    refine z_iadd (pc := 21) C dX1_takeCard_21 ?_
    refine z_aload_n (pc := 22) (x := a0) C dX1_takeCard_22 (i := 0) rfl rfl ?_
    refine z_get (pc := 23) (v := .ref (r0 10)) C 0 dX1_takeCard_23 fl_RX1_18 rfl rfl ?_
    refine z_aload_n (pc := 26) (x := a0) C dX1_takeCard_26 (i := 0) rfl rfl ?_
    refine z_get (pc := 27) (v := .int (s0.1 4)) C 0 dX1_takeCard_27 fl_RX1_52 rfl rfl ?_
    replace h := chk_e h
    obtain ⟨hb2, h⟩ := h
    refine z_iald (pc := 30) C 3 dX1_takeCard_30 rfl hb2 ?_
    refine z_icmp_ge (pc := 31) C dX1_takeCard_31 (tgt := 68) (by decide) (fun hc => ?_) (fun hc => ?_)
    · replace h := (ite_e h).1 hc
      refine z_aload_n (pc := 68) (x := a0) C dX1_takeCard_68 (i := 0) rfl rfl ?_
      refine z_get (pc := 69) (v := .ref (r0 10)) C 0 dX1_takeCard_69 fl_RX1_18 rfl rfl ?_
      refine z_aload_n (pc := 72) (x := a0) C dX1_takeCard_72 (i := 0) rfl rfl ?_
      refine z_get (pc := 73) (v := .int (s0.1 4)) C 0 dX1_takeCard_73 fl_RX1_52 rfl rfl ?_
      refine z_dup2 (pc := 76) C dX1_takeCard_76 rfl rfl ?_
      replace h := chk_e h
      obtain ⟨hb3, h⟩ := h
      refine z_iald (pc := 77) C 3 dX1_takeCard_77 rfl hb3 ?_
      refine z_iconst (pc := 78) C dX1_takeCard_78 ic_1 ?_
      refine z_isub (pc := 79) C dX1_takeCard_79 ?_
      replace h := chk_e h
      obtain ⟨hb4, h⟩ := h
      refine z_iast (pc := 80) C 3 dX1_takeCard_80 rfl hb4 (ws' := (wX1 g a0 r0 q0_0 (sa s0 10 (upd (s0.2.2.1 10) ((s0.1 4)).toNatClampNeg (((s0.2.2.1 10) ((s0.1 4)).toNatClampNeg) - (1 : Int32)))))) rfl ?_
      refine z_iload_n (pc := 81) (x := v2) C dX1_takeCard_81 (i := 2) rfl rfl ?_
      exact z_iret C X dX1_takeCard_82 (by rw [← Option.some.inj h]; exact ⟨rfl, rfl⟩) (by decide) (by decide)
    · replace h := (ite_e h).2 hc
      refine z_aload_n (pc := 34) (x := a0) C dX1_takeCard_34 (i := 0) rfl rfl ?_
      refine z_get (pc := 35) (v := .ref (r0 9)) C 0 dX1_takeCard_35 fl_RX1_15 rfl rfl ?_
      refine z_aload_n (pc := 38) (x := a0) C dX1_takeCard_38 (i := 0) rfl rfl ?_
      refine z_get (pc := 39) (v := .int (s0.1 4)) C 0 dX1_takeCard_39 fl_RX1_52 rfl rfl ?_
      refine z_iconst (pc := 42) C dX1_takeCard_42 ic_5 ?_
      refine z_imul (pc := 43) C dX1_takeCard_43 ?_
      refine z_iload_n (pc := 44) (x := v3) C dX1_takeCard_44 (i := 3) rfl rfl ?_
      refine z_iadd (pc := 45) C dX1_takeCard_45 ?_
      refine z_aload_n (pc := 46) (x := a0) C dX1_takeCard_46 (i := 0) rfl rfl ?_
      refine z_get (pc := 47) (v := .ref (r0 9)) C 0 dX1_takeCard_47 fl_RX1_15 rfl rfl ?_
      refine z_aload_n (pc := 50) (x := a0) C dX1_takeCard_50 (i := 0) rfl rfl ?_
      refine z_get (pc := 51) (v := .int (s0.1 4)) C 0 dX1_takeCard_51 fl_RX1_52 rfl rfl ?_
      refine z_iconst (pc := 54) C dX1_takeCard_54 ic_5 ?_
      refine z_imul (pc := 55) C dX1_takeCard_55 ?_
      refine z_iload_n (pc := 56) (x := v3) C dX1_takeCard_56 (i := 3) rfl rfl ?_
      refine z_iadd (pc := 57) C dX1_takeCard_57 ?_
      refine z_iconst (pc := 58) C dX1_takeCard_58 ic_1 ?_
      refine z_iadd (pc := 59) C dX1_takeCard_59 ?_
      replace h := chk_e h
      obtain ⟨hb5, h⟩ := h
      refine z_iald (pc := 60) C 2 dX1_takeCard_60 rfl hb5 ?_
      replace h := znm_e h
      obtain ⟨x6, hx6, h⟩ := h
      refine z_top1 hx6 ?_
      replace h := chk_e h
      obtain ⟨hb7, h⟩ := h
      refine z_iast (pc := 61) C 2 dX1_takeCard_61 rfl hb7 (ws' := (wX1 g a0 r0 q0_0 (sa s0 9 (upd (s0.2.2.1 9) ((((s0.1 4) * (5 : Int32)) + v3)).toNatClampNeg x6)))) rfl ?_
      refine z_iinc (pc := 62) C dX1_takeCard_62 rfl (inc_e 1 (1 : Int32) ic_1 v3) (by decide) (lv' := [(3, .int (v3 + (1 : Int32))), (0, .ref a0), (2, .int v2)]) rfl ?_
      refine z_goto (pc := 65) C dX1_takeCard_65 (tgt := 19) (by decide) ?_
      refine z_lv (lv' := [(0, .ref a0), (2, .int v2), (3, .int (v3 + (1 : Int32)))]) [1, 2, 0] rfl ?_
      exact hk19 v2 (v3 + (1 : Int32)) (sa s0 9 (upd (s0.2.2.1 9) ((((s0.1 4) * (5 : Int32)) + v3)).toNatClampNeg x6)) h
def f_X1_takeCard (N : Nat) (s0 : Ob) (p1 : Int32) : Option (Int32 × Ob) := (ob (f_X1_cardAt N s0 (s0.1 4) p1) fun x1 => (if x1 = (-1 : Int32) then (some ((-1 : Int32), s0)) else (f_X1_takeCard_19 N p1 N x1 p1 s0)))
theorem m_X1_takeCard {g : Gp} {a0 : Nat} {r0 : Nat → Nat} {q0_0 : Nat} {N : Nat} {s0 : Ob} {p1 : Int32} {res : Int32 × Ob} (hg : Ok g) (h : f_X1_takeCard N s0 p1 = some res) : Ct g yX1_takeCard cX1_takeCard 4 (some .int) (zrm 1 23) [.ref a0, .int p1] (wX1 g a0 r0 q0_0 s0) (exR (some (.int res.1)) (wX1 g a0 r0 q0_0 res.2)) := by
  refine ct_of rfl hg (by show _ ≤ _; exact Nat.le_of_ble_eq_true rfl) (fun K C X => ?_)
  show Zs K 0 0 (wX1 g a0 r0 q0_0 s0) [(0, .ref a0), (1, .int p1)] 0 []
  unfold f_X1_takeCard at h
  refine z_aload_n (pc := 0) (x := a0) C dX1_takeCard_0 (i := 0) rfl rfl ?_
  refine z_aload_n (pc := 1) (x := a0) C dX1_takeCard_1 (i := 0) rfl rfl ?_
  refine z_get (pc := 2) (v := .int (s0.1 4)) C 0 dX1_takeCard_2 fl_RX1_52 rfl rfl ?_
  refine z_iload_n (pc := 5) (x := p1) C dX1_takeCard_5 (i := 1) rfl rfl ?_
  replace h := ob_e h
  obtain ⟨x1, hx1, h⟩ := h
  refine z_callV (pc := 6) (As := [.int (s0.1 4), .int p1]) (rest := []) (wr := ([] : va_W)) C dX1_takeCard_6 ml_RX1_124 wv_X1_cardAt (m_X1_cardAt (a0 := a0) (r0 := r0) (q0_0 := q0_0) hg hx1) [0, 1, 2, 3, 4, 5, 6, 7, 8] [] rfl rfl ⟨by decide, by decide⟩ (Nat.le_of_ble_eq_true rfl) ⟨by decide, by decide⟩ rfl rfl rfl rfl rfl rfl rfl (by decide) (ex_k C (cs' := 0) (ss' := 0) (wF := (wX1 g a0 r0 q0_0 s0)) [0, 1, 2, 3, 4, 5, 6, 7, 8] rfl rfl ?_)
  refine z_istore_n (pc := 9) C dX1_takeCard_9 (i := 2) rfl (by decide) (lv' := [(2, .int x1), (0, .ref a0), (1, .int p1)]) rfl ?_
  refine z_iload_n (pc := 10) (x := x1) C dX1_takeCard_10 (i := 2) rfl rfl ?_
  refine z_iconst (pc := 11) C dX1_takeCard_11 ic_m1 ?_
  refine z_icmp_ne (pc := 12) C dX1_takeCard_12 (tgt := 17) (by decide) (fun hc => ?_) (fun hc => ?_)
  · replace h := (ite_e h).2 hc
    refine z_iload_n (pc := 17) (x := p1) C dX1_takeCard_17 (i := 1) rfl rfl ?_
    refine z_istore_n (pc := 18) C dX1_takeCard_18 (i := 3) rfl (by decide) (lv' := [(3, .int p1), (2, .int x1), (0, .ref a0), (1, .int p1)]) rfl ?_
    refine z_lv (lv' := [(0, .ref a0), (2, .int x1), (3, .int p1)]) [2, 1, 0] rfl ?_
    exact m_X1_takeCard_19 (a0 := a0) (r0 := r0) (q0_0 := q0_0) hg C X N x1 p1 s0 h
  · replace h := (ite_e h).1 hc
    refine z_iconst (pc := 15) C dX1_takeCard_15 ic_m1 ?_
    exact z_iret C X dX1_takeCard_16 (by rw [← Option.some.inj h]; exact ⟨rfl, rfl⟩) (by decide) (by decide)
def f_X1_kindOf (N : Nat) (s0 : Ob) (s1 : Ob) (p1 : Int32) : Option (Int32) := (if p1 < 0 then (some (0 : Int32)) else (if (40 : Int32) ≤ p1 then (some (0 : Int32)) else (chk (inb p1 40) (some ((s1.2.2.1 8) (p1).toNatClampNeg)))))
theorem m_X1_kindOf {g : Gp} {a0 : Nat} {r0 : Nat → Nat} {q0_0 : Nat} {r1 : Nat → Nat} {N : Nat} {s0 : Ob} {s1 : Ob} {p1 : Int32} {res : Int32} (hg : Ok g) (h : f_X1_kindOf N s0 s1 p1 = some res) : Ct g yX1_kindOf cX1_kindOf 2 (some .int) (zrm 0 0) [.ref a0, .int p1] (wX1 g a0 r0 q0_0 s0 ++ wX5 g q0_0 r1 s1) (exR (some (.int res)) (wX1 g a0 r0 q0_0 s0 ++ wX5 g q0_0 r1 s1)) := by
  refine ct_of rfl hg (by show _ ≤ _; exact Nat.le_of_ble_eq_true rfl) (fun K C X => ?_)
  show Zs K 0 0 (wX1 g a0 r0 q0_0 s0 ++ wX5 g q0_0 r1 s1) [(0, .ref a0), (1, .int p1)] 0 []
  unfold f_X1_kindOf at h
  refine z_iload_n (pc := 0) (x := p1) C dX1_kindOf_0 (i := 1) rfl rfl ?_
  refine z_if_lt (pc := 1) C dX1_kindOf_1 (tgt := 22) (by decide) (fun hc => ?_) (fun hc => ?_)
  · replace h := (ite_e h).1 hc
    refine z_iconst (pc := 22) C dX1_kindOf_22 ic_0 ?_
    exact z_iret C X dX1_kindOf_23 (by rw [← Option.some.inj h]; exact ⟨rfl, rfl⟩) (by decide) (by decide)
  · replace h := (ite_e h).2 hc
    refine z_iload_n (pc := 4) (x := p1) C dX1_kindOf_4 (i := 1) rfl rfl ?_
    refine z_bipush (pc := 5) C dX1_kindOf_5 bp_40 ?_
    refine z_icmp_ge (pc := 7) C dX1_kindOf_7 (tgt := 22) (by decide) (fun hc => ?_) (fun hc => ?_)
    · replace h := (ite_e h).1 hc
      refine z_iconst (pc := 22) C dX1_kindOf_22 ic_0 ?_
      exact z_iret C X dX1_kindOf_23 (by rw [← Option.some.inj h]; exact ⟨rfl, rfl⟩) (by decide) (by decide)
    · replace h := (ite_e h).2 hc
      refine z_aload_n (pc := 10) (x := a0) C dX1_kindOf_10 (i := 0) rfl rfl ?_
      refine z_get (pc := 11) (v := .ref q0_0) C 0 dX1_kindOf_11 fl_RX1_38 rfl rfl ?_
      refine z_get (pc := 14) (v := .ref (r1 8)) C 9 dX1_kindOf_14 fl_RX1_113 rfl rfl ?_
      refine z_iload_n (pc := 17) (x := p1) C dX1_kindOf_17 (i := 1) rfl rfl ?_
      replace h := chk_e h
      obtain ⟨hb1, h⟩ := h
      refine z_iald (pc := 18) C 10 dX1_kindOf_18 rfl hb1 ?_
      refine z_goto (pc := 19) C dX1_kindOf_19 (tgt := 23) (by decide) ?_
      exact z_iret C X dX1_kindOf_23 (by rw [← Option.some.inj h]; exact ⟨rfl, rfl⟩) (by decide) (by decide)
def f_X1_topOf (N : Nat) (s0 : Ob) (p1 : Int32) : Option (Int32) := (if p1 < 0 then (some (0 : Int32)) else (if (4 : Int32) ≤ p1 then (some (0 : Int32)) else (chk (inb p1 4) (some ((s0.2.2.1 11) (p1).toNatClampNeg)))))
theorem m_X1_topOf {g : Gp} {a0 : Nat} {r0 : Nat → Nat} {q0_0 : Nat} {N : Nat} {s0 : Ob} {p1 : Int32} {res : Int32} (hg : Ok g) (h : f_X1_topOf N s0 p1 = some res) : Ct g yX1_topOf cX1_topOf 2 (some .int) (zrm 0 0) [.ref a0, .int p1] (wX1 g a0 r0 q0_0 s0) (exR (some (.int res)) (wX1 g a0 r0 q0_0 s0)) := by
  refine ct_of rfl hg (by show _ ≤ _; exact Nat.le_of_ble_eq_true rfl) (fun K C X => ?_)
  show Zs K 0 0 (wX1 g a0 r0 q0_0 s0) [(0, .ref a0), (1, .int p1)] 0 []
  unfold f_X1_topOf at h
  refine z_iload_n (pc := 0) (x := p1) C dX1_topOf_0 (i := 1) rfl rfl ?_
  refine z_if_lt (pc := 1) C dX1_topOf_1 (tgt := 18) (by decide) (fun hc => ?_) (fun hc => ?_)
  · replace h := (ite_e h).1 hc
    refine z_iconst (pc := 18) C dX1_topOf_18 ic_0 ?_
    exact z_iret C X dX1_topOf_19 (by rw [← Option.some.inj h]; exact ⟨rfl, rfl⟩) (by decide) (by decide)
  · replace h := (ite_e h).2 hc
    refine z_iload_n (pc := 4) (x := p1) C dX1_topOf_4 (i := 1) rfl rfl ?_
    refine z_iconst (pc := 5) C dX1_topOf_5 ic_4 ?_
    refine z_icmp_ge (pc := 6) C dX1_topOf_6 (tgt := 18) (by decide) (fun hc => ?_) (fun hc => ?_)
    · replace h := (ite_e h).1 hc
      refine z_iconst (pc := 18) C dX1_topOf_18 ic_0 ?_
      exact z_iret C X dX1_topOf_19 (by rw [← Option.some.inj h]; exact ⟨rfl, rfl⟩) (by decide) (by decide)
    · replace h := (ite_e h).2 hc
      refine z_aload_n (pc := 9) (x := a0) C dX1_topOf_9 (i := 0) rfl rfl ?_
      refine z_get (pc := 10) (v := .ref (r0 11)) C 0 dX1_topOf_10 fl_RX1_21 rfl rfl ?_
      refine z_iload_n (pc := 13) (x := p1) C dX1_topOf_13 (i := 1) rfl rfl ?_
      replace h := chk_e h
      obtain ⟨hb1, h⟩ := h
      refine z_iald (pc := 14) C 4 dX1_topOf_14 rfl hb1 ?_
      refine z_goto (pc := 15) C dX1_topOf_15 (tgt := 19) (by decide) ?_
      exact z_iret C X dX1_topOf_19 (by rw [← Option.some.inj h]; exact ⟨rfl, rfl⟩) (by decide) (by decide)
def f_X1_canGoOnPile (N : Nat) (s0 : Ob) (p1 : Int32) : Option (Int32) := (ob (f_X1_topOf N s0 (p1 / (5 : Int32))) fun x1 => (if x1 = (p1 - p1 / (5 : Int32) * (5 : Int32)) then (some (1 : Int32)) else (some (0 : Int32))))
theorem m_X1_canGoOnPile {g : Gp} {a0 : Nat} {r0 : Nat → Nat} {q0_0 : Nat} {N : Nat} {s0 : Ob} {p1 : Int32} {res : Int32} (hg : Ok g) (h : f_X1_canGoOnPile N s0 p1 = some res) : Ct g yX1_canGoOnPile cX1_canGoOnPile 2 (some .boolean) (zrm 1 21) [.ref a0, .int p1] (wX1 g a0 r0 q0_0 s0) (exR (some (.int res)) (wX1 g a0 r0 q0_0 s0)) := by
  refine ct_of rfl hg (by show _ ≤ _; exact Nat.le_of_ble_eq_true rfl) (fun K C X => ?_)
  show Zs K 0 0 (wX1 g a0 r0 q0_0 s0) [(0, .ref a0), (1, .int p1)] 0 []
  unfold f_X1_canGoOnPile at h
  refine z_aload_n (pc := 0) (x := a0) C dX1_canGoOnPile_0 (i := 0) rfl rfl ?_
  refine z_iload_n (pc := 1) (x := p1) C dX1_canGoOnPile_1 (i := 1) rfl rfl ?_
  refine z_iconst (pc := 2) C dX1_canGoOnPile_2 ic_5 ?_
  refine z_idiv (pc := 3) C dX1_canGoOnPile_3 (by decide) ?_
  replace h := ob_e h
  obtain ⟨x1, hx1, h⟩ := h
  refine z_callV (pc := 4) (As := [.int (p1 / (5 : Int32))]) (rest := []) (wr := ([] : va_W)) C dX1_canGoOnPile_4 ml_RX1_133 wv_X1_topOf (m_X1_topOf (a0 := a0) (r0 := r0) (q0_0 := q0_0) hg hx1) [0, 1, 2, 3, 4, 5, 6, 7, 8] [] rfl rfl ⟨by decide, by decide⟩ (Nat.le_of_ble_eq_true rfl) ⟨by decide, by decide⟩ rfl rfl rfl rfl rfl rfl rfl (by decide) (ex_k C (cs' := 0) (ss' := 0) (wF := (wX1 g a0 r0 q0_0 s0)) [0, 1, 2, 3, 4, 5, 6, 7, 8] rfl rfl ?_)
  refine z_iload_n (pc := 7) (x := p1) C dX1_canGoOnPile_7 (i := 1) rfl rfl ?_
  refine z_iconst (pc := 8) C dX1_canGoOnPile_8 ic_5 ?_
  refine z_irem (pc := 9) C dX1_canGoOnPile_9 (by decide) ?_
  refine z_icmp_ne (pc := 10) C dX1_canGoOnPile_10 (tgt := 17) (by decide) (fun hc => ?_) (fun hc => ?_)
  · replace h := (ite_e h).2 hc
    refine z_iconst (pc := 17) C dX1_canGoOnPile_17 ic_0 ?_
    exact z_zret C X dX1_canGoOnPile_18 rfl (by rw [← Option.some.inj h]; exact ⟨rfl, rfl⟩) (by decide) (by decide)
  · replace h := (ite_e h).1 hc
    refine z_iconst (pc := 13) C dX1_canGoOnPile_13 ic_1 ?_
    refine z_goto (pc := 14) C dX1_canGoOnPile_14 (tgt := 18) (by decide) ?_
    exact z_zret C X dX1_canGoOnPile_18 rfl (by rw [← Option.some.inj h]; exact ⟨rfl, rfl⟩) (by decide) (by decide)
def f_X1_returnToken (N : Nat) (s0 : Ob) (s1 : Ob) : Option (Ob) := (if (s1.1 4) ≤ (s0.1 2) then (some s0) else (znm (si s0 2 ((s0.1 2) + (1 : Int32))) fun y1 => (some (sa y1 7 (upd (y1.2.2.1 7) 4 (((s0.2.2.1 7) 4) + (1 : Int32)))))))
theorem m_X1_returnToken {g : Gp} {a0 : Nat} {r0 : Nat → Nat} {q0_0 : Nat} {r1 : Nat → Nat} {N : Nat} {s0 : Ob} {s1 : Ob} {res : Ob} (hg : Ok g) (h : f_X1_returnToken N s0 s1 = some res) : Ct g yX1_returnToken cX1_returnToken 1 none (zrm 0 0) [.ref a0] (wX1 g a0 r0 q0_0 s0 ++ wX5 g q0_0 r1 s1) (exR none (wX1 g a0 r0 q0_0 res ++ wX5 g q0_0 r1 s1)) := by
  refine ct_of rfl hg (by show _ ≤ _; exact Nat.le_of_ble_eq_true rfl) (fun K C X => ?_)
  show Zs K 0 0 (wX1 g a0 r0 q0_0 s0 ++ wX5 g q0_0 r1 s1) [(0, .ref a0)] 0 []
  unfold f_X1_returnToken at h
  refine z_aload_n (pc := 0) (x := a0) C dX1_returnToken_0 (i := 0) rfl rfl ?_
  refine z_get (pc := 1) (v := .int (s0.1 2)) C 0 dX1_returnToken_1 fl_RX1_46 rfl rfl ?_
  refine z_aload_n (pc := 4) (x := a0) C dX1_returnToken_4 (i := 0) rfl rfl ?_
  refine z_get (pc := 5) (v := .ref q0_0) C 0 dX1_returnToken_5 fl_RX1_38 rfl rfl ?_
  refine z_get (pc := 8) (v := .int (s1.1 4)) C 9 dX1_returnToken_8 fl_RX1_187 rfl rfl ?_
  refine z_icmp_ge (pc := 11) C dX1_returnToken_11 (tgt := 34) (by decide) (fun hc => ?_) (fun hc => ?_)
  · replace h := (ite_e h).1 hc
    exact z_vret C X dX1_returnToken_34 (by rw [← Option.some.inj h]; exact ⟨rfl, rfl⟩) (by decide) (by decide)
  · replace h := (ite_e h).2 hc
    refine z_aload_n (pc := 14) (x := a0) C dX1_returnToken_14 (i := 0) rfl rfl ?_
    refine z_dup (pc := 15) C dX1_returnToken_15 rfl ?_
    refine z_get (pc := 16) (v := .int (s0.1 2)) C 0 dX1_returnToken_16 fl_RX1_46 rfl rfl ?_
    refine z_iconst (pc := 19) C dX1_returnToken_19 ic_1 ?_
    refine z_iadd (pc := 20) C dX1_returnToken_20 ?_
    refine z_put (pc := 21) C 0 dX1_returnToken_21 fp_RX1_46 rfl rfl rfl (zlt_b rfl) (ws' := (wX1 g a0 r0 q0_0 (si s0 2 ((s0.1 2) + (1 : Int32))) ++ wX5 g q0_0 r1 s1)) rfl ?_
    refine z_aload_n (pc := 24) (x := a0) C dX1_returnToken_24 (i := 0) rfl rfl ?_
    refine z_get (pc := 25) (v := .ref (r0 7)) C 0 dX1_returnToken_25 fl_RX1_11 rfl rfl ?_
    refine z_iconst (pc := 28) C dX1_returnToken_28 ic_4 ?_
    refine z_dup2 (pc := 29) C dX1_returnToken_29 rfl rfl ?_
    refine z_iald (pc := 30) C 1 dX1_returnToken_30 rfl (by decide) ?_
    refine z_top1 (v := ((s0.2.2.1 7) 4)) rfl ?_
    refine z_iconst (pc := 31) C dX1_returnToken_31 ic_1 ?_
    refine z_iadd (pc := 32) C dX1_returnToken_32 ?_
    replace h := znm_e h
    obtain ⟨y1, hy1, h⟩ := h
    refine z_wsE (ws' := (wX1 g a0 r0 q0_0 y1 ++ wX5 g q0_0 r1 s1)) (by rw [hy1]) ?_
    refine z_iast (pc := 33) C 1 dX1_returnToken_33 rfl (by decide) (ws' := (wX1 g a0 r0 q0_0 (sa y1 7 (upd (y1.2.2.1 7) 4 (((s0.2.2.1 7) 4) + (1 : Int32)))) ++ wX5 g q0_0 r1 s1)) rfl ?_
    exact z_vret C X dX1_returnToken_34 (by rw [← Option.some.inj h]; exact ⟨rfl, rfl⟩) (by decide) (by decide)
def f_X7_codeOf (N : Nat) (p0 : Int32) : Option (Int32) := (znm (((10 : Int32) * (p0 / (5 : Int32))) + (p0 - p0 / (5 : Int32) * (5 : Int32))) fun x1 => (some (x1 + (1 : Int32))))
theorem m_X7_codeOf {g : Gp}  {N : Nat} {p0 : Int32} {res : Int32} (hg : Ok g) (h : f_X7_codeOf N p0 = some res) : Ct g yX7_codeOf cX7_codeOf 1 (some .int) (zrm 0 0) [.int p0] ([] : va_W) (exR (some (.int res)) ([] : va_W)) := by
  refine ct_of rfl hg (by show _ ≤ _; exact Nat.le_of_ble_eq_true rfl) (fun K C X => ?_)
  show Zs K 0 0 ([] : va_W) [(0, .int p0)] 0 []
  unfold f_X7_codeOf at h
  refine z_bipush (pc := 0) C dX7_codeOf_0 bp_10 ?_
  refine z_iload_n (pc := 2) (x := p0) C dX7_codeOf_2 (i := 0) rfl rfl ?_
  refine z_iconst (pc := 3) C dX7_codeOf_3 ic_5 ?_
  refine z_idiv (pc := 4) C dX7_codeOf_4 (by decide) ?_
  refine z_imul (pc := 5) C dX7_codeOf_5 ?_
  refine z_iload_n (pc := 6) (x := p0) C dX7_codeOf_6 (i := 0) rfl rfl ?_
  refine z_iconst (pc := 7) C dX7_codeOf_7 ic_5 ?_
  refine z_irem (pc := 8) C dX7_codeOf_8 (by decide) ?_
  refine z_iadd (pc := 9) C dX7_codeOf_9 ?_
  replace h := znm_e h
  obtain ⟨x1, hx1, h⟩ := h
  refine z_top1 hx1 ?_
  refine z_iconst (pc := 10) C dX7_codeOf_10 ic_1 ?_
  refine z_iadd (pc := 11) C dX7_codeOf_11 ?_
  exact z_iret C X dX7_codeOf_12 (by rw [← Option.some.inj h]; exact ⟨rfl, rfl⟩) (by decide) (by decide)
def f_X1_writeLog (N : Nat) (s0 : Ob) (p1 : Int32) (p2 : Int32) (p3 : Int32) : Option (Ob) := (chk (inb (((s0.1 5) - (s0.1 5) / (30 : Int32) * (30 : Int32)) * (4 : Int32)) 120) (znm ((((s0.1 5) - (s0.1 5) / (30 : Int32) * (30 : Int32)) * (4 : Int32)) + (1 : Int32)) fun x2 => (znm (sa s0 15 (upd (s0.2.2.1 15) ((((s0.1 5) - (s0.1 5) / (30 : Int32) * (30 : Int32)) * (4 : Int32))).toNatClampNeg (s0.1 4))) fun y3 => (chk (inb x2 120) (znm ((((s0.1 5) - (s0.1 5) / (30 : Int32) * (30 : Int32)) * (4 : Int32)) + (2 : Int32)) fun x5 => (znm (sa y3 15 (upd (y3.2.2.1 15) (x2).toNatClampNeg p1)) fun y6 => (chk (inb x5 120) (znm ((((s0.1 5) - (s0.1 5) / (30 : Int32) * (30 : Int32)) * (4 : Int32)) + (3 : Int32)) fun x8 => (znm (sa y6 15 (upd (y6.2.2.1 15) (x5).toNatClampNeg p2)) fun y9 => (chk (inb x8 120) (some (sa y9 15 (upd (y9.2.2.1 15) (x8).toNatClampNeg p3)))))))))))))
theorem m_X1_writeLog {g : Gp} {a0 : Nat} {r0 : Nat → Nat} {q0_0 : Nat} {N : Nat} {s0 : Ob} {p1 : Int32} {p2 : Int32} {p3 : Int32} {res : Ob} (hg : Ok g) (h : f_X1_writeLog N s0 p1 p2 p3 = some res) : Ct g yX1_writeLog cX1_writeLog 5 none (zrm 0 0) [.ref a0, .int p1, .int p2, .int p3] (wX1 g a0 r0 q0_0 s0) (exR none (wX1 g a0 r0 q0_0 res)) := by
  refine ct_of rfl hg (by show _ ≤ _; exact Nat.le_of_ble_eq_true rfl) (fun K C X => ?_)
  show Zs K 0 0 (wX1 g a0 r0 q0_0 s0) [(0, .ref a0), (1, .int p1), (2, .int p2), (3, .int p3)] 0 []
  unfold f_X1_writeLog at h
  refine z_aload_n (pc := 0) (x := a0) C dX1_writeLog_0 (i := 0) rfl rfl ?_
  refine z_get (pc := 1) (v := .int (s0.1 5)) C 0 dX1_writeLog_1 fl_RX1_55 rfl rfl ?_
  refine z_bipush (pc := 4) C dX1_writeLog_4 bp_30 ?_
  refine z_irem (pc := 6) C dX1_writeLog_6 (by decide) ?_
  refine z_iconst (pc := 7) C dX1_writeLog_7 ic_4 ?_
  refine z_imul (pc := 8) C dX1_writeLog_8 ?_
  refine z_istore (pc := 9) C dX1_writeLog_9 (by decide) (lv' := [(4, .int (((s0.1 5) - (s0.1 5) / (30 : Int32) * (30 : Int32)) * (4 : Int32))), (0, .ref a0), (1, .int p1), (2, .int p2), (3, .int p3)]) rfl ?_
  refine z_aload_n (pc := 11) (x := a0) C dX1_writeLog_11 (i := 0) rfl rfl ?_
  refine z_get (pc := 12) (v := .ref (r0 15)) C 0 dX1_writeLog_12 fl_RX1_35 rfl rfl ?_
  refine z_iload (pc := 15) (x := (((s0.1 5) - (s0.1 5) / (30 : Int32) * (30 : Int32)) * (4 : Int32))) C dX1_writeLog_15 rfl ?_
  refine z_aload_n (pc := 17) (x := a0) C dX1_writeLog_17 (i := 0) rfl rfl ?_
  refine z_get (pc := 18) (v := .int (s0.1 4)) C 0 dX1_writeLog_18 fl_RX1_52 rfl rfl ?_
  replace h := chk_e h
  obtain ⟨hb1, h⟩ := h
  refine z_iast (pc := 21) C 8 dX1_writeLog_21 rfl hb1 (ws' := (wX1 g a0 r0 q0_0 (sa s0 15 (upd (s0.2.2.1 15) ((((s0.1 5) - (s0.1 5) / (30 : Int32) * (30 : Int32)) * (4 : Int32))).toNatClampNeg (s0.1 4))))) rfl ?_
  refine z_aload_n (pc := 22) (x := a0) C dX1_writeLog_22 (i := 0) rfl rfl ?_
  refine z_get (pc := 23) (v := .ref (r0 15)) C 0 dX1_writeLog_23 fl_RX1_35 rfl rfl ?_
  refine z_iload (pc := 26) (x := (((s0.1 5) - (s0.1 5) / (30 : Int32) * (30 : Int32)) * (4 : Int32))) C dX1_writeLog_26 rfl ?_
  refine z_iconst (pc := 28) C dX1_writeLog_28 ic_1 ?_
  refine z_iadd (pc := 29) C dX1_writeLog_29 ?_
  replace h := znm_e h
  obtain ⟨x2, hx2, h⟩ := h
  refine z_top1 hx2 ?_
  refine z_iload_n (pc := 30) (x := p1) C dX1_writeLog_30 (i := 1) rfl rfl ?_
  replace h := znm_e h
  obtain ⟨y3, hy3, h⟩ := h
  refine z_wsE (ws' := (wX1 g a0 r0 q0_0 y3)) (by rw [hy3]) ?_
  replace h := chk_e h
  obtain ⟨hb4, h⟩ := h
  refine z_iast (pc := 31) C 8 dX1_writeLog_31 rfl hb4 (ws' := (wX1 g a0 r0 q0_0 (sa y3 15 (upd (y3.2.2.1 15) (x2).toNatClampNeg p1)))) rfl ?_
  refine z_aload_n (pc := 32) (x := a0) C dX1_writeLog_32 (i := 0) rfl rfl ?_
  refine z_get (pc := 33) (v := .ref (r0 15)) C 0 dX1_writeLog_33 fl_RX1_35 rfl rfl ?_
  refine z_iload (pc := 36) (x := (((s0.1 5) - (s0.1 5) / (30 : Int32) * (30 : Int32)) * (4 : Int32))) C dX1_writeLog_36 rfl ?_
  refine z_iconst (pc := 38) C dX1_writeLog_38 ic_2 ?_
  refine z_iadd (pc := 39) C dX1_writeLog_39 ?_
  replace h := znm_e h
  obtain ⟨x5, hx5, h⟩ := h
  refine z_top1 hx5 ?_
  refine z_iload_n (pc := 40) (x := p2) C dX1_writeLog_40 (i := 2) rfl rfl ?_
  replace h := znm_e h
  obtain ⟨y6, hy6, h⟩ := h
  refine z_wsE (ws' := (wX1 g a0 r0 q0_0 y6)) (by rw [hy6]) ?_
  replace h := chk_e h
  obtain ⟨hb7, h⟩ := h
  refine z_iast (pc := 41) C 8 dX1_writeLog_41 rfl hb7 (ws' := (wX1 g a0 r0 q0_0 (sa y6 15 (upd (y6.2.2.1 15) (x5).toNatClampNeg p2)))) rfl ?_
  refine z_aload_n (pc := 42) (x := a0) C dX1_writeLog_42 (i := 0) rfl rfl ?_
  refine z_get (pc := 43) (v := .ref (r0 15)) C 0 dX1_writeLog_43 fl_RX1_35 rfl rfl ?_
  refine z_iload (pc := 46) (x := (((s0.1 5) - (s0.1 5) / (30 : Int32) * (30 : Int32)) * (4 : Int32))) C dX1_writeLog_46 rfl ?_
  refine z_iconst (pc := 48) C dX1_writeLog_48 ic_3 ?_
  refine z_iadd (pc := 49) C dX1_writeLog_49 ?_
  replace h := znm_e h
  obtain ⟨x8, hx8, h⟩ := h
  refine z_top1 hx8 ?_
  refine z_iload_n (pc := 50) (x := p3) C dX1_writeLog_50 (i := 3) rfl rfl ?_
  replace h := znm_e h
  obtain ⟨y9, hy9, h⟩ := h
  refine z_wsE (ws' := (wX1 g a0 r0 q0_0 y9)) (by rw [hy9]) ?_
  replace h := chk_e h
  obtain ⟨hb10, h⟩ := h
  refine z_iast (pc := 51) C 8 dX1_writeLog_51 rfl hb10 (ws' := (wX1 g a0 r0 q0_0 (sa y9 15 (upd (y9.2.2.1 15) (x8).toNatClampNeg p3)))) rfl ?_
  exact z_vret C X dX1_writeLog_52 (by rw [← Option.some.inj h]; exact ⟨rfl, rfl⟩) (by decide) (by decide)
def f_X1_notInHeap (N : Nat) (s0 : Ob) (s1 : Ob) (p1 : Int32) : Option (Int32) := (if p1 < 0 then (some (0 : Int32)) else (if (20 : Int32) ≤ p1 then (some (0 : Int32)) else (chk (inb p1 20) (chk (inb p1 20) (znm (((s1.2.2.1 9) (p1).toNatClampNeg) - ((s0.2.2.1 12) (p1).toNatClampNeg)) fun x3 => (some x3))))))
theorem m_X1_notInHeap {g : Gp} {a0 : Nat} {r0 : Nat → Nat} {q0_0 : Nat} {r1 : Nat → Nat} {N : Nat} {s0 : Ob} {s1 : Ob} {p1 : Int32} {res : Int32} (hg : Ok g) (h : f_X1_notInHeap N s0 s1 p1 = some res) : Ct g yX1_notInHeap cX1_notInHeap 2 (some .int) (zrm 0 0) [.ref a0, .int p1] (wX1 g a0 r0 q0_0 s0 ++ wX5 g q0_0 r1 s1) (exR (some (.int res)) (wX1 g a0 r0 q0_0 s0 ++ wX5 g q0_0 r1 s1)) := by
  refine ct_of rfl hg (by show _ ≤ _; exact Nat.le_of_ble_eq_true rfl) (fun K C X => ?_)
  show Zs K 0 0 (wX1 g a0 r0 q0_0 s0 ++ wX5 g q0_0 r1 s1) [(0, .ref a0), (1, .int p1)] 0 []
  unfold f_X1_notInHeap at h
  refine z_iload_n (pc := 0) (x := p1) C dX1_notInHeap_0 (i := 1) rfl rfl ?_
  refine z_if_lt (pc := 1) C dX1_notInHeap_1 (tgt := 29) (by decide) (fun hc => ?_) (fun hc => ?_)
  · replace h := (ite_e h).1 hc
    refine z_iconst (pc := 29) C dX1_notInHeap_29 ic_0 ?_
    exact z_iret C X dX1_notInHeap_30 (by rw [← Option.some.inj h]; exact ⟨rfl, rfl⟩) (by decide) (by decide)
  · replace h := (ite_e h).2 hc
    refine z_iload_n (pc := 4) (x := p1) C dX1_notInHeap_4 (i := 1) rfl rfl ?_
    refine z_bipush (pc := 5) C dX1_notInHeap_5 bp_20 ?_
    refine z_icmp_ge (pc := 7) C dX1_notInHeap_7 (tgt := 29) (by decide) (fun hc => ?_) (fun hc => ?_)
    · replace h := (ite_e h).1 hc
      refine z_iconst (pc := 29) C dX1_notInHeap_29 ic_0 ?_
      exact z_iret C X dX1_notInHeap_30 (by rw [← Option.some.inj h]; exact ⟨rfl, rfl⟩) (by decide) (by decide)
    · replace h := (ite_e h).2 hc
      refine z_aload_n (pc := 10) (x := a0) C dX1_notInHeap_10 (i := 0) rfl rfl ?_
      refine z_get (pc := 11) (v := .ref q0_0) C 0 dX1_notInHeap_11 fl_RX1_38 rfl rfl ?_
      refine z_get (pc := 14) (v := .ref (r1 9)) C 9 dX1_notInHeap_14 fl_RX1_130 rfl rfl ?_
      refine z_iload_n (pc := 17) (x := p1) C dX1_notInHeap_17 (i := 1) rfl rfl ?_
      replace h := chk_e h
      obtain ⟨hb1, h⟩ := h
      refine z_iald (pc := 18) C 11 dX1_notInHeap_18 rfl hb1 ?_
      refine z_aload_n (pc := 19) (x := a0) C dX1_notInHeap_19 (i := 0) rfl rfl ?_
      refine z_get (pc := 20) (v := .ref (r0 12)) C 0 dX1_notInHeap_20 fl_RX1_24 rfl rfl ?_
      refine z_iload_n (pc := 23) (x := p1) C dX1_notInHeap_23 (i := 1) rfl rfl ?_
      replace h := chk_e h
      obtain ⟨hb2, h⟩ := h
      refine z_iald (pc := 24) C 5 dX1_notInHeap_24 rfl hb2 ?_
      refine z_isub (pc := 25) C dX1_notInHeap_25 ?_
      replace h := znm_e h
      obtain ⟨x3, hx3, h⟩ := h
      refine z_top1 hx3 ?_
      refine z_goto (pc := 26) C dX1_notInHeap_26 (tgt := 30) (by decide) ?_
      exact z_iret C X dX1_notInHeap_30 (by rw [← Option.some.inj h]; exact ⟨rfl, rfl⟩) (by decide) (by decide)
def F_X1_reachableTop_27 (N : Nat) (s0 : Ob) (s1 : Ob) (p1 : Int32)  (k27 : Int32 → Int32 → Int32 → Option (Int32)) (v2 : Int32) (v3 : Int32) (v4 : Int32) : Option (Int32) := (if (v3 + (s1.1 1)) ≤ v4 then (some v2) else (if (20 : Int32) ≤ v4 then (some v2) else (chk (inb v4 20) (chk (inb v4 20) (if ((s1.2.2.1 9) (v4).toNatClampNeg) ≤ ((s0.2.2.1 12) (v4).toNatClampNeg) then (some v2) else (k27 (v2 + (1 : Int32)) v3 (v4 + (1 : Int32))))))))
def f_X1_reachableTop_27 (N : Nat) (s0 : Ob) (s1 : Ob) (p1 : Int32)  : Nat → Int32 → Int32 → Int32 → Option (Int32) := zlp (fun _ _ _ => none) (F_X1_reachableTop_27 N s0 s1 p1)
theorem m_X1_reachableTop_27 {K : Kt} {g : Gp} {a0 : Nat} {r0 : Nat → Nat} {q0_0 : Nat} {r1 : Nat → Nat} {N : Nat} {s0 : Ob} {s1 : Ob} {p1 : Int32} {res : Int32} (hg : Ok g) (C : Cx K g cX1_reachableTop RX1 5 (zrm 0 0)) (X : Rx K (exR (some (.int res)) (wX1 g a0 r0 q0_0 s0 ++ wX5 g q0_0 r1 s1)) 0 0 (some .int)) : ∀ (n : Nat) (v2 : Int32) (v3 : Int32) (v4 : Int32), f_X1_reachableTop_27 N s0 s1 p1 n v2 v3 v4 = some res → Zs K 0 0 (wX1 g a0 r0 q0_0 s0 ++ wX5 g q0_0 r1 s1) [(0, .ref a0), (2, .int v2), (3, .int v3), (4, .int v4)] 27 [] := by
  intro n
  induction n with
  | zero => intro v2 v3 v4 h; exact nomatch (show (none : Option (Int32)) = some res from h)
  | succ n hk27 =>
    intro v2 v3 v4 h
    replace h : F_X1_reachableTop_27 N s0 s1 p1 (f_X1_reachableTop_27 N s0 s1 p1 n) v2 v3 v4 = some res := h
    unfold F_X1_reachableTop_27 at h
    refine z_iload (pc := 27) (x := v4) C dX1_reachableTop_27 rfl ?_
    refine z_iload_n (pc := 29) (x := v3) C dX1_reachableTop_29 (i := 3) rfl rfl ?_
    refine z_aload_n (pc := 30) (x := a0) C dX1_reachableTop_30 (i := 0) rfl rfl ?_
    refine z_get (pc := 31) (v := .ref q0_0) C 0 dX1_reachableTop_31 fl_RX1_38 rfl rfl ?_
    refine z_get (pc := 34) (v := .int (s1.1 1)) C 9 dX1_reachableTop_34 fl_RX1_107 rfl rfl ?_
    refine z_iadd (pc := 37) C dX1_reachableTop_37 ?_
    refine z_icmp_ge (pc := 38) C dX1_reachableTop_38 (tgt := 77) (by decide) (fun hc => ?_) (fun hc => ?_)
    · replace h := (ite_e h).1 hc
      refine z_iload_n (pc := 77) (x := v2) C dX1_reachableTop_77 (i := 2) rfl rfl ?_
      exact z_iret C X dX1_reachableTop_78 (by rw [← Option.some.inj h]; exact ⟨rfl, rfl⟩) (by decide) (by decide)
    · replace h := (ite_e h).2 hc
      refine z_iload (pc := 41) (x := v4) C dX1_reachableTop_41 rfl ?_
      refine z_bipush (pc := 43) C dX1_reachableTop_43 bp_20 ?_
      refine z_icmp_ge (pc := 45) C dX1_reachableTop_45 (tgt := 77) (by decide) (fun hc => ?_) (fun hc => ?_)
      · replace h := (ite_e h).1 hc
        refine z_iload_n (pc := 77) (x := v2) C dX1_reachableTop_77 (i := 2) rfl rfl ?_
        exact z_iret C X dX1_reachableTop_78 (by rw [← Option.some.inj h]; exact ⟨rfl, rfl⟩) (by decide) (by decide)
      · replace h := (ite_e h).2 hc
        refine z_aload_n (pc := 48) (x := a0) C dX1_reachableTop_48 (i := 0) rfl rfl ?_
        refine z_get (pc := 49) (v := .ref (r0 12)) C 0 dX1_reachableTop_49 fl_RX1_24 rfl rfl ?_
        refine z_iload (pc := 52) (x := v4) C dX1_reachableTop_52 rfl ?_
        replace h := chk_e h
        obtain ⟨hb2, h⟩ := h
        refine z_iald (pc := 54) C 5 dX1_reachableTop_54 rfl hb2 ?_
        refine z_aload_n (pc := 55) (x := a0) C dX1_reachableTop_55 (i := 0) rfl rfl ?_
        refine z_get (pc := 56) (v := .ref q0_0) C 0 dX1_reachableTop_56 fl_RX1_38 rfl rfl ?_
        refine z_get (pc := 59) (v := .ref (r1 9)) C 9 dX1_reachableTop_59 fl_RX1_130 rfl rfl ?_
        refine z_iload (pc := 62) (x := v4) C dX1_reachableTop_62 rfl ?_
        replace h := chk_e h
        obtain ⟨hb3, h⟩ := h
        refine z_iald (pc := 64) C 11 dX1_reachableTop_64 rfl hb3 ?_
        refine z_icmp_ge (pc := 65) C dX1_reachableTop_65 (tgt := 77) (by decide) (fun hc => ?_) (fun hc => ?_)
        · replace h := (ite_e h).1 hc
          refine z_iload_n (pc := 77) (x := v2) C dX1_reachableTop_77 (i := 2) rfl rfl ?_
          exact z_iret C X dX1_reachableTop_78 (by rw [← Option.some.inj h]; exact ⟨rfl, rfl⟩) (by decide) (by decide)
        · replace h := (ite_e h).2 hc
          refine z_iinc (pc := 68) C dX1_reachableTop_68 rfl (inc_e 1 (1 : Int32) ic_1 v2) (by decide) (lv' := [(2, .int (v2 + (1 : Int32))), (0, .ref a0), (3, .int v3), (4, .int v4)]) rfl ?_
          refine z_iinc (pc := 71) C dX1_reachableTop_71 rfl (inc_e 1 (1 : Int32) ic_1 v4) (by decide) (lv' := [(4, .int (v4 + (1 : Int32))), (2, .int (v2 + (1 : Int32))), (0, .ref a0), (3, .int v3)]) rfl ?_
          refine z_goto (pc := 74) C dX1_reachableTop_74 (tgt := 27) (by decide) ?_
          refine z_lv (lv' := [(0, .ref a0), (2, .int (v2 + (1 : Int32))), (3, .int v3), (4, .int (v4 + (1 : Int32)))]) [2, 1, 3, 0] rfl ?_
          exact hk27 (v2 + (1 : Int32)) v3 (v4 + (1 : Int32)) h
def f_X1_reachableTop (N : Nat) (s0 : Ob) (s1 : Ob) (p1 : Int32) : Option (Int32) := (if p1 < 0 then (some (0 : Int32)) else (if p1 < (4 : Int32) then (chk (inb p1 4) (f_X1_reachableTop_27 N s0 s1 p1 N ((s0.2.2.1 11) (p1).toNatClampNeg) (p1 * (5 : Int32)) ((p1 * (5 : Int32)) + ((s0.2.2.1 11) (p1).toNatClampNeg)))) else (some (0 : Int32))))
theorem m_X1_reachableTop {g : Gp} {a0 : Nat} {r0 : Nat → Nat} {q0_0 : Nat} {r1 : Nat → Nat} {N : Nat} {s0 : Ob} {s1 : Ob} {p1 : Int32} {res : Int32} (hg : Ok g) (h : f_X1_reachableTop N s0 s1 p1 = some res) : Ct g yX1_reachableTop cX1_reachableTop 5 (some .int) (zrm 0 0) [.ref a0, .int p1] (wX1 g a0 r0 q0_0 s0 ++ wX5 g q0_0 r1 s1) (exR (some (.int res)) (wX1 g a0 r0 q0_0 s0 ++ wX5 g q0_0 r1 s1)) := by
  refine ct_of rfl hg (by show _ ≤ _; exact Nat.le_of_ble_eq_true rfl) (fun K C X => ?_)
  show Zs K 0 0 (wX1 g a0 r0 q0_0 s0 ++ wX5 g q0_0 r1 s1) [(0, .ref a0), (1, .int p1)] 0 []
  unfold f_X1_reachableTop at h
  refine z_iload_n (pc := 0) (x := p1) C dX1_reachableTop_0 (i := 1) rfl rfl ?_
  refine z_if_lt (pc := 1) C dX1_reachableTop_1 (tgt := 9) (by decide) (fun hc => ?_) (fun hc => ?_)
  · replace h := (ite_e h).1 hc
    refine z_iconst (pc := 9) C dX1_reachableTop_9 ic_0 ?_
    exact z_iret C X dX1_reachableTop_10 (by rw [← Option.some.inj h]; exact ⟨rfl, rfl⟩) (by decide) (by decide)
  · replace h := (ite_e h).2 hc
    refine z_iload_n (pc := 4) (x := p1) C dX1_reachableTop_4 (i := 1) rfl rfl ?_
    refine z_iconst (pc := 5) C dX1_reachableTop_5 ic_4 ?_
    refine z_icmp_lt (pc := 6) C dX1_reachableTop_6 (tgt := 11) (by decide) (fun hc => ?_) (fun hc => ?_)
    · replace h := (ite_e h).1 hc
      refine z_aload_n (pc := 11) (x := a0) C dX1_reachableTop_11 (i := 0) rfl rfl ?_
      refine z_get (pc := 12) (v := .ref (r0 11)) C 0 dX1_reachableTop_12 fl_RX1_21 rfl rfl ?_
      refine z_iload_n (pc := 15) (x := p1) C dX1_reachableTop_15 (i := 1) rfl rfl ?_
      replace h := chk_e h
      obtain ⟨hb1, h⟩ := h
      refine z_iald (pc := 16) C 4 dX1_reachableTop_16 rfl hb1 ?_
      refine z_istore_n (pc := 17) C dX1_reachableTop_17 (i := 2) rfl (by decide) (lv' := [(2, .int ((s0.2.2.1 11) (p1).toNatClampNeg)), (0, .ref a0), (1, .int p1)]) rfl ?_
      refine z_iload_n (pc := 18) (x := p1) C dX1_reachableTop_18 (i := 1) rfl rfl ?_
      refine z_iconst (pc := 19) C dX1_reachableTop_19 ic_5 ?_
      refine z_imul (pc := 20) C dX1_reachableTop_20 ?_
      refine z_istore_n (pc := 21) C dX1_reachableTop_21 (i := 3) rfl (by decide) (lv' := [(3, .int (p1 * (5 : Int32))), (2, .int ((s0.2.2.1 11) (p1).toNatClampNeg)), (0, .ref a0), (1, .int p1)]) rfl ?_
      refine z_iload_n (pc := 22) (x := (p1 * (5 : Int32))) C dX1_reachableTop_22 (i := 3) rfl rfl ?_
      refine z_iload_n (pc := 23) (x := ((s0.2.2.1 11) (p1).toNatClampNeg)) C dX1_reachableTop_23 (i := 2) rfl rfl ?_
      refine z_iadd (pc := 24) C dX1_reachableTop_24 ?_
      refine z_istore (pc := 25) C dX1_reachableTop_25 (by decide) (lv' := [(4, .int ((p1 * (5 : Int32)) + ((s0.2.2.1 11) (p1).toNatClampNeg))), (3, .int (p1 * (5 : Int32))), (2, .int ((s0.2.2.1 11) (p1).toNatClampNeg)), (0, .ref a0), (1, .int p1)]) rfl ?_
      refine z_lv (lv' := [(0, .ref a0), (2, .int ((s0.2.2.1 11) (p1).toNatClampNeg)), (3, .int (p1 * (5 : Int32))), (4, .int ((p1 * (5 : Int32)) + ((s0.2.2.1 11) (p1).toNatClampNeg)))]) [3, 2, 1, 0] rfl ?_
      exact m_X1_reachableTop_27 (a0 := a0) (r0 := r0) (q0_0 := q0_0) (r1 := r1) hg C X N ((s0.2.2.1 11) (p1).toNatClampNeg) (p1 * (5 : Int32)) ((p1 * (5 : Int32)) + ((s0.2.2.1 11) (p1).toNatClampNeg)) h
    · replace h := (ite_e h).2 hc
      refine z_iconst (pc := 9) C dX1_reachableTop_9 ic_0 ?_
      exact z_iret C X dX1_reachableTop_10 (by rw [← Option.some.inj h]; exact ⟨rfl, rfl⟩) (by decide) (by decide)
def f_X1_isOfUse (N : Nat) (s0 : Ob) (s1 : Ob) (p1 : Int32) : Option (Int32) := (ob (f_X1_topOf N s0 (p1 / (5 : Int32))) fun x1 => (if (p1 - p1 / (5 : Int32) * (5 : Int32)) < x1 then (some (0 : Int32)) else (ob (f_X1_reachableTop N s0 s1 (p1 / (5 : Int32))) fun x2 => (if x2 ≤ (p1 - p1 / (5 : Int32) * (5 : Int32)) then (some (0 : Int32)) else (some (1 : Int32))))))
theorem m_X1_isOfUse {g : Gp} {a0 : Nat} {r0 : Nat → Nat} {q0_0 : Nat} {r1 : Nat → Nat} {N : Nat} {s0 : Ob} {s1 : Ob} {p1 : Int32} {res : Int32} (hg : Ok g) (h : f_X1_isOfUse N s0 s1 p1 = some res) : Ct g yX1_isOfUse cX1_isOfUse 4 (some .boolean) (zrm 1 24) [.ref a0, .int p1] (wX1 g a0 r0 q0_0 s0 ++ wX5 g q0_0 r1 s1) (exR (some (.int res)) (wX1 g a0 r0 q0_0 s0 ++ wX5 g q0_0 r1 s1)) := by
  refine ct_of rfl hg (by show _ ≤ _; exact Nat.le_of_ble_eq_true rfl) (fun K C X => ?_)
  show Zs K 0 0 (wX1 g a0 r0 q0_0 s0 ++ wX5 g q0_0 r1 s1) [(0, .ref a0), (1, .int p1)] 0 []
  unfold f_X1_isOfUse at h
  refine z_iload_n (pc := 0) (x := p1) C dX1_isOfUse_0 (i := 1) rfl rfl ?_
  refine z_iconst (pc := 1) C dX1_isOfUse_1 ic_5 ?_
  refine z_irem (pc := 2) C dX1_isOfUse_2 (by decide) ?_
  refine z_istore_n (pc := 3) C dX1_isOfUse_3 (i := 2) rfl (by decide) (lv' := [(2, .int (p1 - p1 / (5 : Int32) * (5 : Int32))), (0, .ref a0), (1, .int p1)]) rfl ?_
  refine z_iload_n (pc := 4) (x := p1) C dX1_isOfUse_4 (i := 1) rfl rfl ?_
  refine z_iconst (pc := 5) C dX1_isOfUse_5 ic_5 ?_
  refine z_idiv (pc := 6) C dX1_isOfUse_6 (by decide) ?_
  refine z_istore_n (pc := 7) C dX1_isOfUse_7 (i := 3) rfl (by decide) (lv' := [(3, .int (p1 / (5 : Int32))), (2, .int (p1 - p1 / (5 : Int32) * (5 : Int32))), (0, .ref a0), (1, .int p1)]) rfl ?_
  refine z_iload_n (pc := 8) (x := (p1 - p1 / (5 : Int32) * (5 : Int32))) C dX1_isOfUse_8 (i := 2) rfl rfl ?_
  refine z_aload_n (pc := 9) (x := a0) C dX1_isOfUse_9 (i := 0) rfl rfl ?_
  refine z_iload_n (pc := 10) (x := (p1 / (5 : Int32))) C dX1_isOfUse_10 (i := 3) rfl rfl ?_
  replace h := ob_e h
  obtain ⟨x1, hx1, h⟩ := h
  refine z_callV (pc := 11) (As := [.int (p1 / (5 : Int32))]) (rest := [.int (p1 - p1 / (5 : Int32) * (5 : Int32))]) (wr := (wX5 g q0_0 r1 s1)) C dX1_isOfUse_11 ml_RX1_133 wv_X1_topOf (m_X1_topOf (a0 := a0) (r0 := r0) (q0_0 := q0_0) hg hx1) [0, 1, 2, 3, 4, 5, 6, 7, 8] [9, 10, 11, 12] rfl rfl ⟨by decide, by decide⟩ (Nat.le_of_ble_eq_true rfl) ⟨by decide, by decide⟩ rfl rfl rfl rfl rfl rfl rfl (by decide) (ex_k C (cs' := 0) (ss' := 0) (wF := (wX1 g a0 r0 q0_0 s0 ++ wX5 g q0_0 r1 s1)) [4, 5, 6, 7, 8, 9, 10, 11, 12, 0, 1, 2, 3] rfl rfl ?_)
  refine z_icmp_lt (pc := 14) C dX1_isOfUse_14 (tgt := 30) (by decide) (fun hc => ?_) (fun hc => ?_)
  · replace h := (ite_e h).1 hc
    refine z_iconst (pc := 30) C dX1_isOfUse_30 ic_0 ?_
    exact z_zret C X dX1_isOfUse_31 rfl (by rw [← Option.some.inj h]; exact ⟨rfl, rfl⟩) (by decide) (by decide)
  · replace h := (ite_e h).2 hc
    refine z_iload_n (pc := 17) (x := (p1 - p1 / (5 : Int32) * (5 : Int32))) C dX1_isOfUse_17 (i := 2) rfl rfl ?_
    refine z_aload_n (pc := 18) (x := a0) C dX1_isOfUse_18 (i := 0) rfl rfl ?_
    refine z_iload_n (pc := 19) (x := (p1 / (5 : Int32))) C dX1_isOfUse_19 (i := 3) rfl rfl ?_
    replace h := ob_e h
    obtain ⟨x2, hx2, h⟩ := h
    refine z_callV (pc := 20) (As := [.int (p1 / (5 : Int32))]) (rest := [.int (p1 - p1 / (5 : Int32) * (5 : Int32))]) (wr := ([] : va_W)) C dX1_isOfUse_20 ml_RX1_136 wv_X1_reachableTop (m_X1_reachableTop (a0 := a0) (r0 := r0) (q0_0 := q0_0) (r1 := r1) hg hx2) [0, 1, 2, 3, 4, 5, 6, 7, 8, 9, 10, 11, 12] [] rfl rfl ⟨by decide, by decide⟩ (Nat.le_of_ble_eq_true rfl) ⟨by decide, by decide⟩ rfl rfl rfl rfl rfl rfl rfl (by decide) (ex_k C (cs' := 0) (ss' := 0) (wF := (wX1 g a0 r0 q0_0 s0 ++ wX5 g q0_0 r1 s1)) [0, 1, 2, 3, 4, 5, 6, 7, 8, 9, 10, 11, 12] rfl rfl ?_)
    refine z_icmp_ge (pc := 23) C dX1_isOfUse_23 (tgt := 30) (by decide) (fun hc => ?_) (fun hc => ?_)
    · replace h := (ite_e h).1 hc
      refine z_iconst (pc := 30) C dX1_isOfUse_30 ic_0 ?_
      exact z_zret C X dX1_isOfUse_31 rfl (by rw [← Option.some.inj h]; exact ⟨rfl, rfl⟩) (by decide) (by decide)
    · replace h := (ite_e h).2 hc
      refine z_iconst (pc := 26) C dX1_isOfUse_26 ic_1 ?_
      refine z_goto (pc := 27) C dX1_isOfUse_27 (tgt := 31) (by decide) ?_
      exact z_zret C X dX1_isOfUse_31 rfl (by rw [← Option.some.inj h]; exact ⟨rfl, rfl⟩) (by decide) (by decide)
def f_X1_isLastOne (N : Nat) (s0 : Ob) (s1 : Ob) (p1 : Int32) : Option (Int32) := (ob (f_X1_notInHeap N s0 s1 p1) fun x1 => (if x1 = (1 : Int32) then (ob (f_X1_isOfUse N s0 s1 p1) fun x2 => (if x2 = 0 then (some (0 : Int32)) else (some (1 : Int32)))) else (some (0 : Int32))))
theorem m_X1_isLastOne {g : Gp} {a0 : Nat} {r0 : Nat → Nat} {q0_0 : Nat} {r1 : Nat → Nat} {N : Nat} {s0 : Ob} {s1 : Ob} {p1 : Int32} {res : Int32} (hg : Ok g) (h : f_X1_isLastOne N s0 s1 p1 = some res) : Ct g yX1_isLastOne cX1_isLastOne 2 (some .boolean) (zrm 2 47) [.ref a0, .int p1] (wX1 g a0 r0 q0_0 s0 ++ wX5 g q0_0 r1 s1) (exR (some (.int res)) (wX1 g a0 r0 q0_0 s0 ++ wX5 g q0_0 r1 s1)) := by
  refine ct_of rfl hg (by show _ ≤ _; exact Nat.le_of_ble_eq_true rfl) (fun K C X => ?_)
  show Zs K 0 0 (wX1 g a0 r0 q0_0 s0 ++ wX5 g q0_0 r1 s1) [(0, .ref a0), (1, .int p1)] 0 []
  unfold f_X1_isLastOne at h
  refine z_aload_n (pc := 0) (x := a0) C dX1_isLastOne_0 (i := 0) rfl rfl ?_
  refine z_iload_n (pc := 1) (x := p1) C dX1_isLastOne_1 (i := 1) rfl rfl ?_
  replace h := ob_e h
  obtain ⟨x1, hx1, h⟩ := h
  refine z_callV (pc := 2) (As := [.int p1]) (rest := []) (wr := ([] : va_W)) C dX1_isLastOne_2 ml_RX1_139 wv_X1_notInHeap (m_X1_notInHeap (a0 := a0) (r0 := r0) (q0_0 := q0_0) (r1 := r1) hg hx1) [0, 1, 2, 3, 4, 5, 6, 7, 8, 9, 10, 11, 12] [] rfl rfl ⟨by decide, by decide⟩ (Nat.le_of_ble_eq_true rfl) ⟨by decide, by decide⟩ rfl rfl rfl rfl rfl rfl rfl (by decide) (ex_k C (cs' := 0) (ss' := 0) (wF := (wX1 g a0 r0 q0_0 s0 ++ wX5 g q0_0 r1 s1)) [0, 1, 2, 3, 4, 5, 6, 7, 8, 9, 10, 11, 12] rfl rfl ?_)
  refine z_iconst (pc := 5) C dX1_isLastOne_5 ic_1 ?_
  refine z_icmp_ne (pc := 6) C dX1_isLastOne_6 (tgt := 21) (by decide) (fun hc => ?_) (fun hc => ?_)
  · replace h := (ite_e h).2 hc
    refine z_iconst (pc := 21) C dX1_isLastOne_21 ic_0 ?_
    exact z_zret C X dX1_isLastOne_22 rfl (by rw [← Option.some.inj h]; exact ⟨rfl, rfl⟩) (by decide) (by decide)
  · replace h := (ite_e h).1 hc
    refine z_aload_n (pc := 9) (x := a0) C dX1_isLastOne_9 (i := 0) rfl rfl ?_
    refine z_iload_n (pc := 10) (x := p1) C dX1_isLastOne_10 (i := 1) rfl rfl ?_
    replace h := ob_e h
    obtain ⟨x2, hx2, h⟩ := h
    refine z_callV (pc := 11) (As := [.int p1]) (rest := []) (wr := ([] : va_W)) C dX1_isLastOne_11 ml_RX1_142 wv_X1_isOfUse (m_X1_isOfUse (a0 := a0) (r0 := r0) (q0_0 := q0_0) (r1 := r1) hg hx2) [0, 1, 2, 3, 4, 5, 6, 7, 8, 9, 10, 11, 12] [] rfl rfl ⟨by decide, by decide⟩ (Nat.le_of_ble_eq_true rfl) ⟨by decide, by decide⟩ rfl rfl rfl rfl rfl rfl rfl (by decide) (ex_k C (cs' := 0) (ss' := 0) (wF := (wX1 g a0 r0 q0_0 s0 ++ wX5 g q0_0 r1 s1)) [0, 1, 2, 3, 4, 5, 6, 7, 8, 9, 10, 11, 12] rfl rfl ?_)
    refine z_if_eq (pc := 14) C dX1_isLastOne_14 (tgt := 21) (by decide) (fun hc => ?_) (fun hc => ?_)
    · replace h := (ite_e h).1 hc
      refine z_iconst (pc := 21) C dX1_isLastOne_21 ic_0 ?_
      exact z_zret C X dX1_isLastOne_22 rfl (by rw [← Option.some.inj h]; exact ⟨rfl, rfl⟩) (by decide) (by decide)
    · replace h := (ite_e h).2 hc
      refine z_iconst (pc := 17) C dX1_isLastOne_17 ic_1 ?_
      refine z_goto (pc := 18) C dX1_isLastOne_18 (tgt := 22) (by decide) ?_
      exact z_zret C X dX1_isLastOne_22 rfl (by rw [← Option.some.inj h]; exact ⟨rfl, rfl⟩) (by decide) (by decide)
def f_X1_putOnHeap_19 (N : Nat) (s1 : Ob) (p1 : Int32)  (s0 : Ob) : Option (Ob) := (chk (inb p1 20) (chk (inb p1 20) (some (sa s0 12 (upd (s0.2.2.1 12) (p1).toNatClampNeg (((s0.2.2.1 12) (p1).toNatClampNeg) + (1 : Int32)))))))
theorem m_X1_putOnHeap_19 {K : Kt} {g : Gp} {a0 : Nat} {r0 : Nat → Nat} {q0_0 : Nat} {r1 : Nat → Nat} {N : Nat} {s1 : Ob} {p1 : Int32} {res : Ob} (hg : Ok g) (C : Cx K g cX1_putOnHeap RX1 2 (zrm 3 68)) (X : Rx K (exR none (wX1 g a0 r0 q0_0 res ++ wX5 g q0_0 r1 s1)) 0 0 none) (s0 : Ob) (h : f_X1_putOnHeap_19 N s1 p1 s0 = some res) : Zs K 0 0 (wX1 g a0 r0 q0_0 s0 ++ wX5 g q0_0 r1 s1) [(0, .ref a0), (1, .int p1)] 19 [] := by
  unfold f_X1_putOnHeap_19 at h
  refine z_aload_n (pc := 19) (x := a0) C dX1_putOnHeap_19 (i := 0) rfl rfl ?_
  refine z_get (pc := 20) (v := .ref (r0 12)) C 0 dX1_putOnHeap_20 fl_RX1_24 rfl rfl ?_
  refine z_iload_n (pc := 23) (x := p1) C dX1_putOnHeap_23 (i := 1) rfl rfl ?_
  refine z_dup2 (pc := 24) C dX1_putOnHeap_24 rfl rfl ?_
  replace h := chk_e h
  obtain ⟨hb2, h⟩ := h
  refine z_iald (pc := 25) C 5 dX1_putOnHeap_25 rfl hb2 ?_
  refine z_iconst (pc := 26) C dX1_putOnHeap_26 ic_1 ?_
  refine z_iadd (pc := 27) C dX1_putOnHeap_27 ?_
  replace h := chk_e h
  obtain ⟨hb3, h⟩ := h
  refine z_iast (pc := 28) C 5 dX1_putOnHeap_28 rfl hb3 (ws' := (wX1 g a0 r0 q0_0 (sa s0 12 (upd (s0.2.2.1 12) (p1).toNatClampNeg (((s0.2.2.1 12) (p1).toNatClampNeg) + (1 : Int32)))) ++ wX5 g q0_0 r1 s1)) rfl ?_
  exact z_vret C X dX1_putOnHeap_29 (by rw [← Option.some.inj h]; exact ⟨rfl, rfl⟩) (by decide) (by decide)
def f_X1_putOnHeap (N : Nat) (s0 : Ob) (s1 : Ob) (p1 : Int32) : Option (Ob) := (ob (f_X1_isLastOne N s0 s1 p1) fun x1 => (if x1 = 0 then (f_X1_putOnHeap_19 N s1 p1 s0) else (f_X1_putOnHeap_19 N s1 p1 (sa s0 7 (upd (s0.2.2.1 7) 6 (((s0.2.2.1 7) 6) + (1 : Int32)))))))
theorem m_X1_putOnHeap {g : Gp} {a0 : Nat} {r0 : Nat → Nat} {q0_0 : Nat} {r1 : Nat → Nat} {N : Nat} {s0 : Ob} {s1 : Ob} {p1 : Int32} {res : Ob} (hg : Ok g) (h : f_X1_putOnHeap N s0 s1 p1 = some res) : Ct g yX1_putOnHeap cX1_putOnHeap 2 none (zrm 3 68) [.ref a0, .int p1] (wX1 g a0 r0 q0_0 s0 ++ wX5 g q0_0 r1 s1) (exR none (wX1 g a0 r0 q0_0 res ++ wX5 g q0_0 r1 s1)) := by
  refine ct_of rfl hg (by show _ ≤ _; exact Nat.le_of_ble_eq_true rfl) (fun K C X => ?_)
  show Zs K 0 0 (wX1 g a0 r0 q0_0 s0 ++ wX5 g q0_0 r1 s1) [(0, .ref a0), (1, .int p1)] 0 []
  unfold f_X1_putOnHeap at h
  refine z_aload_n (pc := 0) (x := a0) C dX1_putOnHeap_0 (i := 0) rfl rfl ?_
  refine z_iload_n (pc := 1) (x := p1) C dX1_putOnHeap_1 (i := 1) rfl rfl ?_
  replace h := ob_e h
  obtain ⟨x1, hx1, h⟩ := h
  refine z_callV (pc := 2) (As := [.int p1]) (rest := []) (wr := ([] : va_W)) C dX1_putOnHeap_2 ml_RX1_184 wv_X1_isLastOne (m_X1_isLastOne (a0 := a0) (r0 := r0) (q0_0 := q0_0) (r1 := r1) hg hx1) [0, 1, 2, 3, 4, 5, 6, 7, 8, 9, 10, 11, 12] [] rfl rfl ⟨by decide, by decide⟩ (Nat.le_of_ble_eq_true rfl) ⟨by decide, by decide⟩ rfl rfl rfl rfl rfl rfl rfl (by decide) (ex_k C (cs' := 0) (ss' := 0) (wF := (wX1 g a0 r0 q0_0 s0 ++ wX5 g q0_0 r1 s1)) [0, 1, 2, 3, 4, 5, 6, 7, 8, 9, 10, 11, 12] rfl rfl ?_)
  refine z_if_eq (pc := 5) C dX1_putOnHeap_5 (tgt := 19) (by decide) (fun hc => ?_) (fun hc => ?_)
  · replace h := (ite_e h).1 hc
    exact m_X1_putOnHeap_19 (a0 := a0) (r0 := r0) (q0_0 := q0_0) (r1 := r1) hg C X s0 h
  · replace h := (ite_e h).2 hc
    refine z_aload_n (pc := 8) (x := a0) C dX1_putOnHeap_8 (i := 0) rfl rfl ?_
    refine z_get (pc := 9) (v := .ref (r0 7)) C 0 dX1_putOnHeap_9 fl_RX1_11 rfl rfl ?_
    refine z_bipush (pc := 12) C dX1_putOnHeap_12 bp_6 ?_
    refine z_dup2 (pc := 14) C dX1_putOnHeap_14 rfl rfl ?_
    refine z_iald (pc := 15) C 1 dX1_putOnHeap_15 rfl (by decide) ?_
    refine z_top1 (v := ((s0.2.2.1 7) 6)) rfl ?_
    refine z_iconst (pc := 16) C dX1_putOnHeap_16 ic_1 ?_
    refine z_iadd (pc := 17) C dX1_putOnHeap_17 ?_
    refine z_iast (pc := 18) C 1 dX1_putOnHeap_18 rfl (by decide) (ws' := (wX1 g a0 r0 q0_0 (sa s0 7 (upd (s0.2.2.1 7) 6 (((s0.2.2.1 7) 6) + (1 : Int32)))) ++ wX5 g q0_0 r1 s1)) rfl ?_
    exact m_X1_putOnHeap_19 (a0 := a0) (r0 := r0) (q0_0 := q0_0) (r1 := r1) hg C X (sa s0 7 (upd (s0.2.2.1 7) 6 (((s0.2.2.1 7) 6) + (1 : Int32)))) h
def f_X1_sizeOf (N : Nat) (s0 : Ob) (p1 : Int32) : Option (Int32) := (if p1 < 0 then (some (0 : Int32)) else (if (4 : Int32) ≤ p1 then (some (0 : Int32)) else (chk (inb p1 4) (some ((s0.2.2.1 10) (p1).toNatClampNeg)))))
theorem m_X1_sizeOf {g : Gp} {a0 : Nat} {r0 : Nat → Nat} {q0_0 : Nat} {N : Nat} {s0 : Ob} {p1 : Int32} {res : Int32} (hg : Ok g) (h : f_X1_sizeOf N s0 p1 = some res) : Ct g yX1_sizeOf cX1_sizeOf 2 (some .int) (zrm 0 0) [.ref a0, .int p1] (wX1 g a0 r0 q0_0 s0) (exR (some (.int res)) (wX1 g a0 r0 q0_0 s0)) := by
  refine ct_of rfl hg (by show _ ≤ _; exact Nat.le_of_ble_eq_true rfl) (fun K C X => ?_)
  show Zs K 0 0 (wX1 g a0 r0 q0_0 s0) [(0, .ref a0), (1, .int p1)] 0 []
  unfold f_X1_sizeOf at h
  refine z_iload_n (pc := 0) (x := p1) C dX1_sizeOf_0 (i := 1) rfl rfl ?_
  refine z_if_lt (pc := 1) C dX1_sizeOf_1 (tgt := 18) (by decide) (fun hc => ?_) (fun hc => ?_)
  · replace h := (ite_e h).1 hc
    refine z_iconst (pc := 18) C dX1_sizeOf_18 ic_0 ?_
    exact z_iret C X dX1_sizeOf_19 (by rw [← Option.some.inj h]; exact ⟨rfl, rfl⟩) (by decide) (by decide)
  · replace h := (ite_e h).2 hc
    refine z_iload_n (pc := 4) (x := p1) C dX1_sizeOf_4 (i := 1) rfl rfl ?_
    refine z_iconst (pc := 5) C dX1_sizeOf_5 ic_4 ?_
    refine z_icmp_ge (pc := 6) C dX1_sizeOf_6 (tgt := 18) (by decide) (fun hc => ?_) (fun hc => ?_)
    · replace h := (ite_e h).1 hc
      refine z_iconst (pc := 18) C dX1_sizeOf_18 ic_0 ?_
      exact z_iret C X dX1_sizeOf_19 (by rw [← Option.some.inj h]; exact ⟨rfl, rfl⟩) (by decide) (by decide)
    · replace h := (ite_e h).2 hc
      refine z_aload_n (pc := 9) (x := a0) C dX1_sizeOf_9 (i := 0) rfl rfl ?_
      refine z_get (pc := 10) (v := .ref (r0 10)) C 0 dX1_sizeOf_10 fl_RX1_18 rfl rfl ?_
      refine z_iload_n (pc := 13) (x := p1) C dX1_sizeOf_13 (i := 1) rfl rfl ?_
      replace h := chk_e h
      obtain ⟨hb1, h⟩ := h
      refine z_iald (pc := 14) C 3 dX1_sizeOf_14 rfl hb1 ?_
      refine z_goto (pc := 15) C dX1_sizeOf_15 (tgt := 19) (by decide) ?_
      exact z_iret C X dX1_sizeOf_19 (by rw [← Option.some.inj h]; exact ⟨rfl, rfl⟩) (by decide) (by decide)
def f_X1_drawCard (N : Nat) (s0 : Ob) (s1 : Ob) (p1 : Int32) : Option (Ob) := (ob (f_X1_sizeOf N s0 p1) fun x1 => (if (s1.1 7) ≤ (s0.1 1) then (some s0) else (if (4 : Int32) ≤ p1 then (some s0) else (if (5 : Int32) ≤ x1 then (some s0) else (chk (inb ((p1 * (5 : Int32)) + x1) 20) (chk (inb p1 4) (znm (sa s0 9 (upd (s0.2.2.1 9) (((p1 * (5 : Int32)) + x1)).toNatClampNeg (s0.1 1))) fun y4 => (chk (inb p1 4) (znm (sa y4 10 (upd (y4.2.2.1 10) (p1).toNatClampNeg (((s0.2.2.1 10) (p1).toNatClampNeg) + (1 : Int32)))) fun y6 => (some (si y6 1 ((y4.1 1) + (1 : Int32)))))))))))))
theorem m_X1_drawCard {g : Gp} {a0 : Nat} {r0 : Nat → Nat} {q0_0 : Nat} {r1 : Nat → Nat} {N : Nat} {s0 : Ob} {s1 : Ob} {p1 : Int32} {res : Ob} (hg : Ok g) (h : f_X1_drawCard N s0 s1 p1 = some res) : Ct g yX1_drawCard cX1_drawCard 3 none (zrm 1 21) [.ref a0, .int p1] (wX1 g a0 r0 q0_0 s0 ++ wX5 g q0_0 r1 s1) (exR none (wX1 g a0 r0 q0_0 res ++ wX5 g q0_0 r1 s1)) := by
  refine ct_of rfl hg (by show _ ≤ _; exact Nat.le_of_ble_eq_true rfl) (fun K C X => ?_)
  show Zs K 0 0 (wX1 g a0 r0 q0_0 s0 ++ wX5 g q0_0 r1 s1) [(0, .ref a0), (1, .int p1)] 0 []
  unfold f_X1_drawCard at h
  refine z_aload_n (pc := 0) (x := a0) C dX1_drawCard_0 (i := 0) rfl rfl ?_
  refine z_iload_n (pc := 1) (x := p1) C dX1_drawCard_1 (i := 1) rfl rfl ?_
  replace h := ob_e h
  obtain ⟨x1, hx1, h⟩ := h
  refine z_callV (pc := 2) (As := [.int p1]) (rest := []) (wr := (wX5 g q0_0 r1 s1)) C dX1_drawCard_2 ml_RX1_120 wv_X1_sizeOf (m_X1_sizeOf (a0 := a0) (r0 := r0) (q0_0 := q0_0) hg hx1) [0, 1, 2, 3, 4, 5, 6, 7, 8] [9, 10, 11, 12] rfl rfl ⟨by decide, by decide⟩ (Nat.le_of_ble_eq_true rfl) ⟨by decide, by decide⟩ rfl rfl rfl rfl rfl rfl rfl (by decide) (ex_k C (cs' := 0) (ss' := 0) (wF := (wX1 g a0 r0 q0_0 s0 ++ wX5 g q0_0 r1 s1)) [4, 5, 6, 7, 8, 9, 10, 11, 12, 0, 1, 2, 3] rfl rfl ?_)
  refine z_istore_n (pc := 5) C dX1_drawCard_5 (i := 2) rfl (by decide) (lv' := [(2, .int x1), (0, .ref a0), (1, .int p1)]) rfl ?_
  refine z_aload_n (pc := 6) (x := a0) C dX1_drawCard_6 (i := 0) rfl rfl ?_
  refine z_get (pc := 7) (v := .int (s0.1 1)) C 0 dX1_drawCard_7 fl_RX1_42 rfl rfl ?_
  refine z_aload_n (pc := 10) (x := a0) C dX1_drawCard_10 (i := 0) rfl rfl ?_
  refine z_get (pc := 11) (v := .ref q0_0) C 0 dX1_drawCard_11 fl_RX1_38 rfl rfl ?_
  refine z_get (pc := 14) (v := .int (s1.1 7)) C 9 dX1_drawCard_14 fl_RX1_98 rfl rfl ?_
  refine z_icmp_ge (pc := 17) C dX1_drawCard_17 (tgt := 64) (by decide) (fun hc => ?_) (fun hc => ?_)
  · replace h := (ite_e h).1 hc
    exact z_vret C X dX1_drawCard_64 (by rw [← Option.some.inj h]; exact ⟨rfl, rfl⟩) (by decide) (by decide)
  · replace h := (ite_e h).2 hc
    refine z_iload_n (pc := 20) (x := p1) C dX1_drawCard_20 (i := 1) rfl rfl ?_
    refine z_iconst (pc := 21) C dX1_drawCard_21 ic_4 ?_
    refine z_icmp_ge (pc := 22) C dX1_drawCard_22 (tgt := 64) (by decide) (fun hc => ?_) (fun hc => ?_)
    · replace h := (ite_e h).1 hc
      exact z_vret C X dX1_drawCard_64 (by rw [← Option.some.inj h]; exact ⟨rfl, rfl⟩) (by decide) (by decide)
    · replace h := (ite_e h).2 hc
      refine z_iload_n (pc := 25) (x := x1) C dX1_drawCard_25 (i := 2) rfl rfl ?_
      refine z_iconst (pc := 26) C dX1_drawCard_26 ic_5 ?_
      refine z_icmp_ge (pc := 27) C dX1_drawCard_27 (tgt := 64) (by decide) (fun hc => ?_) (fun hc => ?_)
      · replace h := (ite_e h).1 hc
        exact z_vret C X dX1_drawCard_64 (by rw [← Option.some.inj h]; exact ⟨rfl, rfl⟩) (by decide) (by decide)
      · replace h := (ite_e h).2 hc
        refine z_aload_n (pc := 30) (x := a0) C dX1_drawCard_30 (i := 0) rfl rfl ?_
        refine z_get (pc := 31) (v := .ref (r0 9)) C 0 dX1_drawCard_31 fl_RX1_15 rfl rfl ?_
        refine z_iload_n (pc := 34) (x := p1) C dX1_drawCard_34 (i := 1) rfl rfl ?_
        refine z_iconst (pc := 35) C dX1_drawCard_35 ic_5 ?_
        refine z_imul (pc := 36) C dX1_drawCard_36 ?_
        refine z_iload_n (pc := 37) (x := x1) C dX1_drawCard_37 (i := 2) rfl rfl ?_
        refine z_iadd (pc := 38) C dX1_drawCard_38 ?_
        refine z_aload_n (pc := 39) (x := a0) C dX1_drawCard_39 (i := 0) rfl rfl ?_
        refine z_get (pc := 40) (v := .int (s0.1 1)) C 0 dX1_drawCard_40 fl_RX1_42 rfl rfl ?_
        replace h := chk_e h
        obtain ⟨hb2, h⟩ := h
        refine z_iast (pc := 43) C 2 dX1_drawCard_43 rfl hb2 (ws' := (wX1 g a0 r0 q0_0 (sa s0 9 (upd (s0.2.2.1 9) (((p1 * (5 : Int32)) + x1)).toNatClampNeg (s0.1 1))) ++ wX5 g q0_0 r1 s1)) rfl ?_
        refine z_aload_n (pc := 44) (x := a0) C dX1_drawCard_44 (i := 0) rfl rfl ?_
        refine z_get (pc := 45) (v := .ref (r0 10)) C 0 dX1_drawCard_45 fl_RX1_18 rfl rfl ?_
        refine z_iload_n (pc := 48) (x := p1) C dX1_drawCard_48 (i := 1) rfl rfl ?_
        refine z_dup2 (pc := 49) C dX1_drawCard_49 rfl rfl ?_
        replace h := chk_e h
        obtain ⟨hb3, h⟩ := h
        refine z_iald (pc := 50) C 3 dX1_drawCard_50 rfl hb3 ?_
        refine z_iconst (pc := 51) C dX1_drawCard_51 ic_1 ?_
        refine z_iadd (pc := 52) C dX1_drawCard_52 ?_
        replace h := znm_e h
        obtain ⟨y4, hy4, h⟩ := h
        refine z_wsE (ws' := (wX1 g a0 r0 q0_0 y4 ++ wX5 g q0_0 r1 s1)) (by rw [hy4]) ?_
        replace h := chk_e h
        obtain ⟨hb5, h⟩ := h
        refine z_iast (pc := 53) C 3 dX1_drawCard_53 rfl hb5 (ws' := (wX1 g a0 r0 q0_0 (sa y4 10 (upd (y4.2.2.1 10) (p1).toNatClampNeg (((s0.2.2.1 10) (p1).toNatClampNeg) + (1 : Int32)))) ++ wX5 g q0_0 r1 s1)) rfl ?_
        refine z_aload_n (pc := 54) (x := a0) C dX1_drawCard_54 (i := 0) rfl rfl ?_
        refine z_dup (pc := 55) C dX1_drawCard_55 rfl ?_
        refine z_get (pc := 56) (v := .int (y4.1 1)) C 0 dX1_drawCard_56 fl_RX1_42 rfl rfl ?_
        refine z_iconst (pc := 59) C dX1_drawCard_59 ic_1 ?_
        refine z_iadd (pc := 60) C dX1_drawCard_60 ?_
        replace h := znm_e h
        obtain ⟨y6, hy6, h⟩ := h
        refine z_wsE (ws' := (wX1 g a0 r0 q0_0 y6 ++ wX5 g q0_0 r1 s1)) (by rw [hy6]) ?_
        refine z_put (pc := 61) C 0 dX1_drawCard_61 fp_RX1_42 rfl rfl rfl (zlt_b rfl) (ws' := (wX1 g a0 r0 q0_0 (si y6 1 ((y4.1 1) + (1 : Int32))) ++ wX5 g q0_0 r1 s1)) rfl ?_
        exact z_vret C X dX1_drawCard_64 (by rw [← Option.some.inj h]; exact ⟨rfl, rfl⟩) (by decide) (by decide)
def f_X1_endTurn_80 (N : Nat) (s1 : Ob)  (t1 : Int32) (s0 : Ob) : Option (Ob) := (znm (si s0 4 t1) fun y1 => (some (si y1 5 ((s0.1 5) + (1 : Int32)))))
theorem m_X1_endTurn_80 {K : Kt} {g : Gp} {a0 : Nat} {r0 : Nat → Nat} {q0_0 : Nat} {r1 : Nat → Nat} {N : Nat} {s1 : Ob} {res : Ob} (hg : Ok g) (C : Cx K g cX1_endTurn RX1 1 (zrm 0 0)) (X : Rx K (exR none (wX1 g a0 r0 q0_0 res ++ wX5 g q0_0 r1 s1)) 0 0 none) (t1 : Int32) (s0 : Ob) (h : f_X1_endTurn_80 N s1 t1 s0 = some res) : Zs K 0 0 (wX1 g a0 r0 q0_0 s0 ++ wX5 g q0_0 r1 s1) [(0, .ref a0)] 80 [.int t1, .ref a0] := by
  unfold f_X1_endTurn_80 at h
  refine z_put (pc := 80) C 0 dX1_endTurn_80 fp_RX1_52 rfl rfl rfl (zlt_b rfl) (ws' := (wX1 g a0 r0 q0_0 (si s0 4 t1) ++ wX5 g q0_0 r1 s1)) rfl ?_
  refine z_aload_n (pc := 83) (x := a0) C dX1_endTurn_83 (i := 0) rfl rfl ?_
  refine z_dup (pc := 84) C dX1_endTurn_84 rfl ?_
  refine z_get (pc := 85) (v := .int (s0.1 5)) C 0 dX1_endTurn_85 fl_RX1_55 rfl rfl ?_
  refine z_iconst (pc := 88) C dX1_endTurn_88 ic_1 ?_
  refine z_iadd (pc := 89) C dX1_endTurn_89 ?_
  replace h := znm_e h
  obtain ⟨y1, hy1, h⟩ := h
  refine z_wsE (ws' := (wX1 g a0 r0 q0_0 y1 ++ wX5 g q0_0 r1 s1)) (by rw [hy1]) ?_
  refine z_put (pc := 90) C 0 dX1_endTurn_90 fp_RX1_55 rfl rfl rfl (zlt_b rfl) (ws' := (wX1 g a0 r0 q0_0 (si y1 5 ((s0.1 5) + (1 : Int32))) ++ wX5 g q0_0 r1 s1)) rfl ?_
  exact z_vret C X dX1_endTurn_93 (by rw [← Option.some.inj h]; exact ⟨rfl, rfl⟩) (by decide) (by decide)
def f_X1_endTurn_53 (N : Nat) (s1 : Ob)  (s0 : Ob) : Option (Ob) := (if (s1.1 2) ≤ ((s0.1 4) + (1 : Int32)) then (f_X1_endTurn_80 N s1 (0 : Int32) s0) else (f_X1_endTurn_80 N s1 ((s0.1 4) + (1 : Int32)) s0))
theorem m_X1_endTurn_53 {K : Kt} {g : Gp} {a0 : Nat} {r0 : Nat → Nat} {q0_0 : Nat} {r1 : Nat → Nat} {N : Nat} {s1 : Ob} {res : Ob} (hg : Ok g) (C : Cx K g cX1_endTurn RX1 1 (zrm 0 0)) (X : Rx K (exR none (wX1 g a0 r0 q0_0 res ++ wX5 g q0_0 r1 s1)) 0 0 none) (s0 : Ob) (h : f_X1_endTurn_53 N s1 s0 = some res) : Zs K 0 0 (wX1 g a0 r0 q0_0 s0 ++ wX5 g q0_0 r1 s1) [(0, .ref a0)] 53 [] := by
  unfold f_X1_endTurn_53 at h
  refine z_aload_n (pc := 53) (x := a0) C dX1_endTurn_53 (i := 0) rfl rfl ?_
  refine z_aload_n (pc := 54) (x := a0) C dX1_endTurn_54 (i := 0) rfl rfl ?_
  refine z_get (pc := 55) (v := .int (s0.1 4)) C 0 dX1_endTurn_55 fl_RX1_52 rfl rfl ?_
  refine z_iconst (pc := 58) C dX1_endTurn_58 ic_1 ?_
  refine z_iadd (pc := 59) C dX1_endTurn_59 ?_
  refine z_aload_n (pc := 60) (x := a0) C dX1_endTurn_60 (i := 0) rfl rfl ?_
  refine z_get (pc := 61) (v := .ref q0_0) C 0 dX1_endTurn_61 fl_RX1_38 rfl rfl ?_
  refine z_get (pc := 64) (v := .int (s1.1 2)) C 9 dX1_endTurn_64 fl_RX1_88 rfl rfl ?_
  refine z_icmp_ge (pc := 67) C dX1_endTurn_67 (tgt := 79) (by decide) (fun hc => ?_) (fun hc => ?_)
  · replace h := (ite_e h).1 hc
    refine z_iconst (pc := 79) C dX1_endTurn_79 ic_0 ?_
    exact m_X1_endTurn_80 (a0 := a0) (r0 := r0) (q0_0 := q0_0) (r1 := r1) hg C X (0 : Int32) s0 h
  · replace h := (ite_e h).2 hc
    refine z_aload_n (pc := 70) (x := a0) C dX1_endTurn_70 (i := 0) rfl rfl ?_
    refine z_get (pc := 71) (v := .int (s0.1 4)) C 0 dX1_endTurn_71 fl_RX1_52 rfl rfl ?_
    refine z_iconst (pc := 74) C dX1_endTurn_74 ic_1 ?_
    refine z_iadd (pc := 75) C dX1_endTurn_75 ?_
    refine z_goto (pc := 76) C dX1_endTurn_76 (tgt := 80) (by decide) ?_
    exact m_X1_endTurn_80 (a0 := a0) (r0 := r0) (q0_0 := q0_0) (r1 := r1) hg C X ((s0.1 4) + (1 : Int32)) s0 h
def f_X1_endTurn (N : Nat) (s0 : Ob) (s1 : Ob) : Option (Ob) := (if (s0.1 6) ≤ 0 then (if (s0.1 6) = (-1 : Int32) then (if (s0.1 1) < (s1.1 7) then (f_X1_endTurn_53 N s1 s0) else (f_X1_endTurn_53 N s1 (si s0 6 (s1.1 2)))) else (f_X1_endTurn_53 N s1 s0)) else (f_X1_endTurn_53 N s1 (si s0 6 ((s0.1 6) - (1 : Int32)))))
theorem m_X1_endTurn {g : Gp} {a0 : Nat} {r0 : Nat → Nat} {q0_0 : Nat} {r1 : Nat → Nat} {N : Nat} {s0 : Ob} {s1 : Ob} {res : Ob} (hg : Ok g) (h : f_X1_endTurn N s0 s1 = some res) : Ct g yX1_endTurn cX1_endTurn 1 none (zrm 0 0) [.ref a0] (wX1 g a0 r0 q0_0 s0 ++ wX5 g q0_0 r1 s1) (exR none (wX1 g a0 r0 q0_0 res ++ wX5 g q0_0 r1 s1)) := by
  refine ct_of rfl hg (by show _ ≤ _; exact Nat.le_of_ble_eq_true rfl) (fun K C X => ?_)
  show Zs K 0 0 (wX1 g a0 r0 q0_0 s0 ++ wX5 g q0_0 r1 s1) [(0, .ref a0)] 0 []
  unfold f_X1_endTurn at h
  refine z_aload_n (pc := 0) (x := a0) C dX1_endTurn_0 (i := 0) rfl rfl ?_
  refine z_get (pc := 1) (v := .int (s0.1 6)) C 0 dX1_endTurn_1 fl_RX1_58 rfl rfl ?_
  refine z_if_le (pc := 4) C dX1_endTurn_4 (tgt := 20) (by decide) (fun hc => ?_) (fun hc => ?_)
  · replace h := (ite_e h).1 hc
    refine z_aload_n (pc := 20) (x := a0) C dX1_endTurn_20 (i := 0) rfl rfl ?_
    refine z_get (pc := 21) (v := .int (s0.1 6)) C 0 dX1_endTurn_21 fl_RX1_58 rfl rfl ?_
    refine z_iconst (pc := 24) C dX1_endTurn_24 ic_m1 ?_
    refine z_icmp_ne (pc := 25) C dX1_endTurn_25 (tgt := 53) (by decide) (fun hc => ?_) (fun hc => ?_)
    · replace h := (ite_e h).2 hc
      exact m_X1_endTurn_53 (a0 := a0) (r0 := r0) (q0_0 := q0_0) (r1 := r1) hg C X s0 h
    · replace h := (ite_e h).1 hc
      refine z_aload_n (pc := 28) (x := a0) C dX1_endTurn_28 (i := 0) rfl rfl ?_
      refine z_get (pc := 29) (v := .int (s0.1 1)) C 0 dX1_endTurn_29 fl_RX1_42 rfl rfl ?_
      refine z_aload_n (pc := 32) (x := a0) C dX1_endTurn_32 (i := 0) rfl rfl ?_
      refine z_get (pc := 33) (v := .ref q0_0) C 0 dX1_endTurn_33 fl_RX1_38 rfl rfl ?_
      refine z_get (pc := 36) (v := .int (s1.1 7)) C 9 dX1_endTurn_36 fl_RX1_98 rfl rfl ?_
      refine z_icmp_lt (pc := 39) C dX1_endTurn_39 (tgt := 53) (by decide) (fun hc => ?_) (fun hc => ?_)
      · replace h := (ite_e h).1 hc
        exact m_X1_endTurn_53 (a0 := a0) (r0 := r0) (q0_0 := q0_0) (r1 := r1) hg C X s0 h
      · replace h := (ite_e h).2 hc
        refine z_aload_n (pc := 42) (x := a0) C dX1_endTurn_42 (i := 0) rfl rfl ?_
        refine z_aload_n (pc := 43) (x := a0) C dX1_endTurn_43 (i := 0) rfl rfl ?_
        refine z_get (pc := 44) (v := .ref q0_0) C 0 dX1_endTurn_44 fl_RX1_38 rfl rfl ?_
        refine z_get (pc := 47) (v := .int (s1.1 2)) C 9 dX1_endTurn_47 fl_RX1_88 rfl rfl ?_
        refine z_put (pc := 50) C 0 dX1_endTurn_50 fp_RX1_58 rfl rfl rfl (zlt_b rfl) (ws' := (wX1 g a0 r0 q0_0 (si s0 6 (s1.1 2)) ++ wX5 g q0_0 r1 s1)) rfl ?_
        exact m_X1_endTurn_53 (a0 := a0) (r0 := r0) (q0_0 := q0_0) (r1 := r1) hg C X (si s0 6 (s1.1 2)) h
  · replace h := (ite_e h).2 hc
    refine z_aload_n (pc := 7) (x := a0) C dX1_endTurn_7 (i := 0) rfl rfl ?_
    refine z_dup (pc := 8) C dX1_endTurn_8 rfl ?_
    refine z_get (pc := 9) (v := .int (s0.1 6)) C 0 dX1_endTurn_9 fl_RX1_58 rfl rfl ?_
    refine z_iconst (pc := 12) C dX1_endTurn_12 ic_1 ?_
    refine z_isub (pc := 13) C dX1_endTurn_13 ?_
    refine z_put (pc := 14) C 0 dX1_endTurn_14 fp_RX1_58 rfl rfl rfl (zlt_b rfl) (ws' := (wX1 g a0 r0 q0_0 (si s0 6 ((s0.1 6) - (1 : Int32))) ++ wX5 g q0_0 r1 s1)) rfl ?_
    refine z_goto (pc := 17) C dX1_endTurn_17 (tgt := 53) (by decide) ?_
    exact m_X1_endTurn_53 (a0 := a0) (r0 := r0) (q0_0 := q0_0) (r1 := r1) hg C X (si s0 6 ((s0.1 6) - (1 : Int32))) h
def f_X1_playCard_107 (N : Nat) (s1 : Ob) (p1 : Int32)  (s0 : Ob) : Option (Ob) := (ob (f_X1_drawCard N s0 s1 (s0.1 4)) fun x8 => (ob (f_X1_endTurn N x8 s1) fun x9 => (some x9)))
theorem m_X1_playCard_107 {K : Kt} {g : Gp} {a0 : Nat} {r0 : Nat → Nat} {q0_0 : Nat} {r1 : Nat → Nat} {N : Nat} {s1 : Ob} {p1 : Int32} {res : Ob} (hg : Ok g) (C : Cx K g cX1_playCard RX1 3 (zrm 4 89)) (X : Rx K (exR none (wX1 g a0 r0 q0_0 res ++ wX5 g q0_0 r1 s1)) 0 0 none) (s0 : Ob) (h : f_X1_playCard_107 N s1 p1 s0 = some res) : Zs K 0 0 (wX1 g a0 r0 q0_0 s0 ++ wX5 g q0_0 r1 s1) [(0, .ref a0)] 107 [] := by
  unfold f_X1_playCard_107 at h
  refine z_aload_n (pc := 107) (x := a0) C dX1_playCard_107 (i := 0) rfl rfl ?_
  refine z_aload_n (pc := 108) (x := a0) C dX1_playCard_108 (i := 0) rfl rfl ?_
  refine z_get (pc := 109) (v := .int (s0.1 4)) C 0 dX1_playCard_109 fl_RX1_52 rfl rfl ?_
  replace h := ob_e h
  obtain ⟨x8, hx8, h⟩ := h
  refine z_callV (pc := 112) (As := [.int (s0.1 4)]) (rest := []) (wr := ([] : va_W)) C dX1_playCard_112 ml_RX1_94 wv_X1_drawCard (m_X1_drawCard (a0 := a0) (r0 := r0) (q0_0 := q0_0) (r1 := r1) hg hx8) [0, 1, 2, 3, 4, 5, 6, 7, 8, 9, 10, 11, 12] [] rfl rfl ⟨by decide, by decide⟩ (Nat.le_of_ble_eq_true rfl) ⟨by decide, by decide⟩ rfl rfl rfl rfl rfl rfl rfl (by decide) (ex_k C (cs' := 0) (ss' := 0) (wF := (wX1 g a0 r0 q0_0 x8 ++ wX5 g q0_0 r1 s1)) [0, 1, 2, 3, 4, 5, 6, 7, 8, 9, 10, 11, 12] rfl rfl ?_)
  refine z_aload_n (pc := 115) (x := a0) C dX1_playCard_115 (i := 0) rfl rfl ?_
  replace h := ob_e h
  obtain ⟨x9, hx9, h⟩ := h
  refine z_callV (pc := 116) (As := []) (rest := []) (wr := ([] : va_W)) C dX1_playCard_116 ml_RX1_178 wv_X1_endTurn (m_X1_endTurn (a0 := a0) (r0 := r0) (q0_0 := q0_0) (r1 := r1) hg hx9) [0, 1, 2, 3, 4, 5, 6, 7, 8, 9, 10, 11, 12] [] rfl rfl ⟨by decide, by decide⟩ (Nat.le_of_ble_eq_true rfl) ⟨by decide, by decide⟩ rfl rfl rfl rfl rfl rfl rfl (by decide) (ex_k C (cs' := 0) (ss' := 0) (wF := (wX1 g a0 r0 q0_0 x9 ++ wX5 g q0_0 r1 s1)) [0, 1, 2, 3, 4, 5, 6, 7, 8, 9, 10, 11, 12] rfl rfl ?_)
  exact z_vret C X dX1_playCard_119 (by rw [← Option.some.inj h]; exact ⟨rfl, rfl⟩) (by decide) (by decide)
def f_X1_playCard_59 (N : Nat) (s1 : Ob) (p1 : Int32)  (v2 : Int32) (s0 : Ob) : Option (Ob) := (ob (f_X7_codeOf N v2) fun x13 => (ob (f_X1_writeLog N s0 (0 : Int32) x13 (-1 : Int32)) fun x14 => (f_X1_playCard_107 N s1 p1 x14)))
theorem m_X1_playCard_59 {K : Kt} {g : Gp} {a0 : Nat} {r0 : Nat → Nat} {q0_0 : Nat} {r1 : Nat → Nat} {N : Nat} {s1 : Ob} {p1 : Int32} {res : Ob} (hg : Ok g) (C : Cx K g cX1_playCard RX1 3 (zrm 4 89)) (X : Rx K (exR none (wX1 g a0 r0 q0_0 res ++ wX5 g q0_0 r1 s1)) 0 0 none) (v2 : Int32) (s0 : Ob) (h : f_X1_playCard_59 N s1 p1 v2 s0 = some res) : Zs K 0 0 (wX1 g a0 r0 q0_0 s0 ++ wX5 g q0_0 r1 s1) [(0, .ref a0), (2, .int v2)] 59 [] := by
  unfold f_X1_playCard_59 at h
  refine z_aload_n (pc := 59) (x := a0) C dX1_playCard_59 (i := 0) rfl rfl ?_
  refine z_iconst (pc := 60) C dX1_playCard_60 ic_0 ?_
  refine z_iload_n (pc := 61) (x := v2) C dX1_playCard_61 (i := 2) rfl rfl ?_
  replace h := ob_e h
  obtain ⟨x13, hx13, h⟩ := h
  refine z_callSN (pc := 62) (As := [.int v2]) (rest := [.int (0 : Int32), .ref a0]) (wr := (wX1 g a0 r0 q0_0 s0 ++ wX5 g q0_0 r1 s1)) C dX1_playCard_62 mn_RX1_168 wt_X7_codeOf (m_X7_codeOf hg hx13) [] [0, 1, 2, 3, 4, 5, 6, 7, 8, 9, 10, 11, 12] rfl rfl ⟨by decide, by decide⟩ (Nat.le_of_ble_eq_true rfl) ⟨by decide, by decide⟩ rfl rfl rfl rfl (by decide) (ex_k C (cs' := 0) (ss' := 0) (wF := (wX1 g a0 r0 q0_0 s0 ++ wX5 g q0_0 r1 s1)) [0, 1, 2, 3, 4, 5, 6, 7, 8, 9, 10, 11, 12] rfl rfl ?_)
  refine z_iconst (pc := 65) C dX1_playCard_65 ic_m1 ?_
  replace h := ob_e h
  obtain ⟨x14, hx14, h⟩ := h
  refine z_callV (pc := 66) (As := [.int (0 : Int32), .int x13, .int (-1 : Int32)]) (rest := []) (wr := (wX5 g q0_0 r1 s1)) C dX1_playCard_66 ml_RX1_171 wv_X1_writeLog (m_X1_writeLog (a0 := a0) (r0 := r0) (q0_0 := q0_0) hg hx14) [0, 1, 2, 3, 4, 5, 6, 7, 8] [9, 10, 11, 12] rfl rfl ⟨by decide, by decide⟩ (Nat.le_of_ble_eq_true rfl) ⟨by decide, by decide⟩ rfl rfl rfl rfl rfl rfl rfl (by decide) (ex_k C (cs' := 0) (ss' := 0) (wF := (wX1 g a0 r0 q0_0 x14 ++ wX5 g q0_0 r1 s1)) [4, 5, 6, 7, 8, 9, 10, 11, 12, 0, 1, 2, 3] rfl rfl ?_)
  refine z_goto (pc := 69) C dX1_playCard_69 (tgt := 107) (by decide) ?_
  refine z_lv (lv' := [(0, .ref a0)]) [0] rfl ?_
  exact m_X1_playCard_107 (a0 := a0) (r0 := r0) (q0_0 := q0_0) (r1 := r1) hg C X x14 h
def f_X1_playCard (N : Nat) (s0 : Ob) (s1 : Ob) (p1 : Int32) : Option (Ob) := (ob (f_X1_takeCard N s0 p1) fun x1 => (ob (f_X1_kindOf N x1.2 s1 x1.1) fun x2 => (ob (f_X1_canGoOnPile N x1.2 x2) fun x3 => (if x3 = 0 then (ob (f_X1_putOnHeap N x1.2 s1 x2) fun x4 => (znm (si x4 3 ((x4.1 3) - (1 : Int32))) fun y5 => (ob (f_X7_codeOf N x2) fun x6 => (ob (f_X1_writeLog N (sa y5 7 (upd (y5.2.2.1 7) 1 (((x4.2.2.1 7) 1) + (1 : Int32)))) (4 : Int32) x6 (-1 : Int32)) fun x7 => (f_X1_playCard_107 N s1 p1 x7))))) else (chk (inb (x2 / (5 : Int32)) 4) (chk (inb (x2 / (5 : Int32)) 4) (znm (sa x1.2 11 (upd (x1.2.2.2.1 11) ((x2 / (5 : Int32))).toNatClampNeg (((x1.2.2.2.1 11) ((x2 / (5 : Int32))).toNatClampNeg) + (1 : Int32)))) fun y12 => (if ((x2 - x2 / (5 : Int32) * (5 : Int32)) + (1 : Int32)) = (s1.1 1) then (ob (f_X1_returnToken N (sa y12 7 (upd (y12.2.2.1 7) 0 (((x1.2.2.2.1 7) 0) + (1 : Int32)))) s1) fun x15 => (f_X1_playCard_59 N s1 p1 x2 x15)) else (f_X1_playCard_59 N s1 p1 x2 (sa y12 7 (upd (y12.2.2.1 7) 0 (((x1.2.2.2.1 7) 0) + (1 : Int32)))))))))))))
theorem m_X1_playCard {g : Gp} {a0 : Nat} {r0 : Nat → Nat} {q0_0 : Nat} {r1 : Nat → Nat} {N : Nat} {s0 : Ob} {s1 : Ob} {p1 : Int32} {res : Ob} (hg : Ok g) (h : f_X1_playCard N s0 s1 p1 = some res) : Ct g yX1_playCard cX1_playCard 3 none (zrm 4 89) [.ref a0, .int p1] (wX1 g a0 r0 q0_0 s0 ++ wX5 g q0_0 r1 s1) (exR none (wX1 g a0 r0 q0_0 res ++ wX5 g q0_0 r1 s1)) := by
  refine ct_of rfl hg (by show _ ≤ _; exact Nat.le_of_ble_eq_true rfl) (fun K C X => ?_)
  show Zs K 0 0 (wX1 g a0 r0 q0_0 s0 ++ wX5 g q0_0 r1 s1) [(0, .ref a0), (1, .int p1)] 0 []
  unfold f_X1_playCard at h
  refine z_aload_n (pc := 0) (x := a0) C dX1_playCard_0 (i := 0) rfl rfl ?_
  refine z_aload_n (pc := 1) (x := a0) C dX1_playCard_1 (i := 0) rfl rfl ?_
  refine z_iload_n (pc := 2) (x := p1) C dX1_playCard_2 (i := 1) rfl rfl ?_
  replace h := ob_e h
  obtain ⟨x1, hx1, h⟩ := h
  refine z_callV (pc := 3) (As := [.int p1]) (rest := [.ref a0]) (wr := (wX5 g q0_0 r1 s1)) C dX1_playCard_3 ml_RX1_159 wv_X1_takeCard (m_X1_takeCard (a0 := a0) (r0 := r0) (q0_0 := q0_0) hg hx1) [0, 1, 2, 3, 4, 5, 6, 7, 8] [9, 10, 11, 12] rfl rfl ⟨by decide, by decide⟩ (Nat.le_of_ble_eq_true rfl) ⟨by decide, by decide⟩ rfl rfl rfl rfl rfl rfl rfl (by decide) (ex_k C (cs' := 0) (ss' := 0) (wF := (wX1 g a0 r0 q0_0 x1.2 ++ wX5 g q0_0 r1 s1)) [4, 5, 6, 7, 8, 9, 10, 11, 12, 0, 1, 2, 3] rfl rfl ?_)
  replace h := ob_e h
  obtain ⟨x2, hx2, h⟩ := h
  refine z_callV (pc := 6) (As := [.int x1.1]) (rest := []) (wr := ([] : va_W)) C dX1_playCard_6 ml_RX1_127 wv_X1_kindOf (m_X1_kindOf (a0 := a0) (r0 := r0) (q0_0 := q0_0) (r1 := r1) hg hx2) [0, 1, 2, 3, 4, 5, 6, 7, 8, 9, 10, 11, 12] [] rfl rfl ⟨by decide, by decide⟩ (Nat.le_of_ble_eq_true rfl) ⟨by decide, by decide⟩ rfl rfl rfl rfl rfl rfl rfl (by decide) (ex_k C (cs' := 0) (ss' := 0) (wF := (wX1 g a0 r0 q0_0 x1.2 ++ wX5 g q0_0 r1 s1)) [0, 1, 2, 3, 4, 5, 6, 7, 8, 9, 10, 11, 12] rfl rfl ?_)
  refine z_istore_n (pc := 9) C dX1_playCard_9 (i := 2) rfl (by decide) (lv' := [(2, .int x2), (0, .ref a0), (1, .int p1)]) rfl ?_
  refine z_aload_n (pc := 10) (x := a0) C dX1_playCard_10 (i := 0) rfl rfl ?_
  refine z_iload_n (pc := 11) (x := x2) C dX1_playCard_11 (i := 2) rfl rfl ?_
  replace h := ob_e h
  obtain ⟨x3, hx3, h⟩ := h
  refine z_callV (pc := 12) (As := [.int x2]) (rest := []) (wr := (wX5 g q0_0 r1 s1)) C dX1_playCard_12 ml_RX1_162 wv_X1_canGoOnPile (m_X1_canGoOnPile (a0 := a0) (r0 := r0) (q0_0 := q0_0) hg hx3) [0, 1, 2, 3, 4, 5, 6, 7, 8] [9, 10, 11, 12] rfl rfl ⟨by decide, by decide⟩ (Nat.le_of_ble_eq_true rfl) ⟨by decide, by decide⟩ rfl rfl rfl rfl rfl rfl rfl (by decide) (ex_k C (cs' := 0) (ss' := 0) (wF := (wX1 g a0 r0 q0_0 x1.2 ++ wX5 g q0_0 r1 s1)) [4, 5, 6, 7, 8, 9, 10, 11, 12, 0, 1, 2, 3] rfl rfl ?_)
  refine z_if_eq (pc := 15) C dX1_playCard_15 (tgt := 72) (by decide) (fun hc => ?_) (fun hc => ?_)
  · replace h := (ite_e h).1 hc
    refine z_aload_n (pc := 72) (x := a0) C dX1_playCard_72 (i := 0) rfl rfl ?_
    refine z_iload_n (pc := 73) (x := x2) C dX1_playCard_73 (i := 2) rfl rfl ?_
    replace h := ob_e h
    obtain ⟨x4, hx4, h⟩ := h
    refine z_callV (pc := 74) (As := [.int x2]) (rest := []) (wr := ([] : va_W)) C dX1_playCard_74 ml_RX1_175 wv_X1_putOnHeap (m_X1_putOnHeap (a0 := a0) (r0 := r0) (q0_0 := q0_0) (r1 := r1) hg hx4) [0, 1, 2, 3, 4, 5, 6, 7, 8, 9, 10, 11, 12] [] rfl rfl ⟨by decide, by decide⟩ (Nat.le_of_ble_eq_true rfl) ⟨by decide, by decide⟩ rfl rfl rfl rfl rfl rfl rfl (by decide) (ex_k C (cs' := 0) (ss' := 0) (wF := (wX1 g a0 r0 q0_0 x4 ++ wX5 g q0_0 r1 s1)) [0, 1, 2, 3, 4, 5, 6, 7, 8, 9, 10, 11, 12] rfl rfl ?_)
    refine z_aload_n (pc := 77) (x := a0) C dX1_playCard_77 (i := 0) rfl rfl ?_
    refine z_dup (pc := 78) C dX1_playCard_78 rfl ?_
    refine z_get (pc := 79) (v := .int (x4.1 3)) C 0 dX1_playCard_79 fl_RX1_49 rfl rfl ?_
    refine z_iconst (pc := 82) C dX1_playCard_82 ic_1 ?_
    refine z_isub (pc := 83) C dX1_playCard_83 ?_
    refine z_put (pc := 84) C 0 dX1_playCard_84 fp_RX1_49 rfl rfl rfl (zlt_b rfl) (ws' := (wX1 g a0 r0 q0_0 (si x4 3 ((x4.1 3) - (1 : Int32))) ++ wX5 g q0_0 r1 s1)) rfl ?_
    refine z_aload_n (pc := 87) (x := a0) C dX1_playCard_87 (i := 0) rfl rfl ?_
    refine z_get (pc := 88) (v := .ref (r0 7)) C 0 dX1_playCard_88 fl_RX1_11 rfl rfl ?_
    refine z_iconst (pc := 91) C dX1_playCard_91 ic_1 ?_
    refine z_dup2 (pc := 92) C dX1_playCard_92 rfl rfl ?_
    refine z_iald (pc := 93) C 1 dX1_playCard_93 rfl (by decide) ?_
    refine z_top1 (v := ((x4.2.2.1 7) 1)) rfl ?_
    refine z_iconst (pc := 94) C dX1_playCard_94 ic_1 ?_
    refine z_iadd (pc := 95) C dX1_playCard_95 ?_
    replace h := znm_e h
    obtain ⟨y5, hy5, h⟩ := h
    refine z_wsE (ws' := (wX1 g a0 r0 q0_0 y5 ++ wX5 g q0_0 r1 s1)) (by rw [hy5]) ?_
    refine z_iast (pc := 96) C 1 dX1_playCard_96 rfl (by decide) (ws' := (wX1 g a0 r0 q0_0 (sa y5 7 (upd (y5.2.2.1 7) 1 (((x4.2.2.1 7) 1) + (1 : Int32)))) ++ wX5 g q0_0 r1 s1)) rfl ?_
    refine z_aload_n (pc := 97) (x := a0) C dX1_playCard_97 (i := 0) rfl rfl ?_
    refine z_iconst (pc := 98) C dX1_playCard_98 ic_4 ?_
    refine z_iload_n (pc := 99) (x := x2) C dX1_playCard_99 (i := 2) rfl rfl ?_
    replace h := ob_e h
    obtain ⟨x6, hx6, h⟩ := h
    refine z_callSN (pc := 100) (As := [.int x2]) (rest := [.int (4 : Int32), .ref a0]) (wr := (wX1 g a0 r0 q0_0 (sa y5 7 (upd (y5.2.2.1 7) 1 (((x4.2.2.1 7) 1) + (1 : Int32)))) ++ wX5 g q0_0 r1 s1)) C dX1_playCard_100 mn_RX1_168 wt_X7_codeOf (m_X7_codeOf hg hx6) [] [0, 1, 2, 3, 4, 5, 6, 7, 8, 9, 10, 11, 12] rfl rfl ⟨by decide, by decide⟩ (Nat.le_of_ble_eq_true rfl) ⟨by decide, by decide⟩ rfl rfl rfl rfl (by decide) (ex_k C (cs' := 0) (ss' := 0) (wF := (wX1 g a0 r0 q0_0 (sa y5 7 (upd (y5.2.2.1 7) 1 (((x4.2.2.1 7) 1) + (1 : Int32)))) ++ wX5 g q0_0 r1 s1)) [0, 1, 2, 3, 4, 5, 6, 7, 8, 9, 10, 11, 12] rfl rfl ?_)
    refine z_iconst (pc := 103) C dX1_playCard_103 ic_m1 ?_
    replace h := ob_e h
    obtain ⟨x7, hx7, h⟩ := h
    refine z_callV (pc := 104) (As := [.int (4 : Int32), .int x6, .int (-1 : Int32)]) (rest := []) (wr := (wX5 g q0_0 r1 s1)) C dX1_playCard_104 ml_RX1_171 wv_X1_writeLog (m_X1_writeLog (a0 := a0) (r0 := r0) (q0_0 := q0_0) hg hx7) [0, 1, 2, 3, 4, 5, 6, 7, 8] [9, 10, 11, 12] rfl rfl ⟨by decide, by decide⟩ (Nat.le_of_ble_eq_true rfl) ⟨by decide, by decide⟩ rfl rfl rfl rfl rfl rfl rfl (by decide) (ex_k C (cs' := 0) (ss' := 0) (wF := (wX1 g a0 r0 q0_0 x7 ++ wX5 g q0_0 r1 s1)) [4, 5, 6, 7, 8, 9, 10, 11, 12, 0, 1, 2, 3] rfl rfl ?_)
    refine z_lv (lv' := [(0, .ref a0)]) [1] rfl ?_
    exact m_X1_playCard_107 (a0 := a0) (r0 := r0) (q0_0 := q0_0) (r1 := r1) hg C X x7 h
  · replace h := (ite_e h).2 hc
    refine z_aload_n (pc := 18) (x := a0) C dX1_playCard_18 (i := 0) rfl rfl ?_
    refine z_get (pc := 19) (v := .ref (r0 11)) C 0 dX1_playCard_19 fl_RX1_21 rfl rfl ?_
    refine z_iload_n (pc := 22) (x := x2) C dX1_playCard_22 (i := 2) rfl rfl ?_
    refine z_iconst (pc := 23) C dX1_playCard_23 ic_5 ?_
    refine z_idiv (pc := 24) C dX1_playCard_24 (by decide) ?_
    refine z_dup2 (pc := 25) C dX1_playCard_25 rfl rfl ?_
    replace h := chk_e h
    obtain ⟨hb10, h⟩ := h
    refine z_iald (pc := 26) C 4 dX1_playCard_26 rfl hb10 ?_
    refine z_iconst (pc := 27) C dX1_playCard_27 ic_1 ?_
    refine z_iadd (pc := 28) C dX1_playCard_28 ?_
    replace h := chk_e h
    obtain ⟨hb11, h⟩ := h
    refine z_iast (pc := 29) C 4 dX1_playCard_29 rfl hb11 (ws' := (wX1 g a0 r0 q0_0 (sa x1.2 11 (upd (x1.2.2.2.1 11) ((x2 / (5 : Int32))).toNatClampNeg (((x1.2.2.2.1 11) ((x2 / (5 : Int32))).toNatClampNeg) + (1 : Int32)))) ++ wX5 g q0_0 r1 s1)) rfl ?_
    refine z_aload_n (pc := 30) (x := a0) C dX1_playCard_30 (i := 0) rfl rfl ?_
    refine z_get (pc := 31) (v := .ref (r0 7)) C 0 dX1_playCard_31 fl_RX1_11 rfl rfl ?_
    refine z_iconst (pc := 34) C dX1_playCard_34 ic_0 ?_
    refine z_dup2 (pc := 35) C dX1_playCard_35 rfl rfl ?_
    refine z_iald (pc := 36) C 1 dX1_playCard_36 rfl (by decide) ?_
    refine z_top1 (v := ((x1.2.2.2.1 7) 0)) rfl ?_
    refine z_iconst (pc := 37) C dX1_playCard_37 ic_1 ?_
    refine z_iadd (pc := 38) C dX1_playCard_38 ?_
    replace h := znm_e h
    obtain ⟨y12, hy12, h⟩ := h
    refine z_wsE (ws' := (wX1 g a0 r0 q0_0 y12 ++ wX5 g q0_0 r1 s1)) (by rw [hy12]) ?_
    refine z_iast (pc := 39) C 1 dX1_playCard_39 rfl (by decide) (ws' := (wX1 g a0 r0 q0_0 (sa y12 7 (upd (y12.2.2.1 7) 0 (((x1.2.2.2.1 7) 0) + (1 : Int32)))) ++ wX5 g q0_0 r1 s1)) rfl ?_
    refine z_iload_n (pc := 40) (x := x2) C dX1_playCard_40 (i := 2) rfl rfl ?_
    refine z_iconst (pc := 41) C dX1_playCard_41 ic_5 ?_
    refine z_irem (pc := 42) C dX1_playCard_42 (by decide) ?_
    refine z_iconst (pc := 43) C dX1_playCard_43 ic_1 ?_
    refine z_iadd (pc := 44) C dX1_playCard_44 ?_
    refine z_aload_n (pc := 45) (x := a0) C dX1_playCard_45 (i := 0) rfl rfl ?_
    refine z_get (pc := 46) (v := .ref q0_0) C 0 dX1_playCard_46 fl_RX1_38 rfl rfl ?_
    refine z_get (pc := 49) (v := .int (s1.1 1)) C 9 dX1_playCard_49 fl_RX1_107 rfl rfl ?_
    refine z_icmp_ne (pc := 52) C dX1_playCard_52 (tgt := 59) (by decide) (fun hc => ?_) (fun hc => ?_)
    · replace h := (ite_e h).2 hc
      refine z_lv (lv' := [(0, .ref a0), (2, .int x2)]) [1, 0] rfl ?_
      exact m_X1_playCard_59 (a0 := a0) (r0 := r0) (q0_0 := q0_0) (r1 := r1) hg C X x2 (sa y12 7 (upd (y12.2.2.1 7) 0 (((x1.2.2.2.1 7) 0) + (1 : Int32)))) h
    · replace h := (ite_e h).1 hc
      refine z_aload_n (pc := 55) (x := a0) C dX1_playCard_55 (i := 0) rfl rfl ?_
      replace h := ob_e h
      obtain ⟨x15, hx15, h⟩ := h
      refine z_callV (pc := 56) (As := []) (rest := []) (wr := ([] : va_W)) C dX1_playCard_56 ml_RX1_165 wv_X1_returnToken (m_X1_returnToken (a0 := a0) (r0 := r0) (q0_0 := q0_0) (r1 := r1) hg hx15) [0, 1, 2, 3, 4, 5, 6, 7, 8, 9, 10, 11, 12] [] rfl rfl ⟨by decide, by decide⟩ (Nat.le_of_ble_eq_true rfl) ⟨by decide, by decide⟩ rfl rfl rfl rfl rfl rfl rfl (by decide) (ex_k C (cs' := 0) (ss' := 0) (wF := (wX1 g a0 r0 q0_0 x15 ++ wX5 g q0_0 r1 s1)) [0, 1, 2, 3, 4, 5, 6, 7, 8, 9, 10, 11, 12] rfl rfl ?_)
      refine z_lv (lv' := [(0, .ref a0), (2, .int x2)]) [1, 0] rfl ?_
      exact m_X1_playCard_59 (a0 := a0) (r0 := r0) (q0_0 := q0_0) (r1 := r1) hg C X x2 x15 h
