/-! OWN, written -/
def F_J7_fill_53178_5 (N : Nat) (n0 : Nat) (p1 : Int32)  (k5 : Int32 → Int32 → (Nat → Int32) → Option ((Nat → Int32))) (v2 : Int32) (v3 : Int32) (s0 : (Nat → Int32)) : Option ((Nat → Int32)) := (if v3 ≤ v2 then (some s0) else (chk (inb v2 n0) (k5 (v2 + (1 : Int32)) v3 (upd s0 (v2).toNatClampNeg p1))))
def f_J7_fill_53178_5 (N : Nat) (n0 : Nat) (p1 : Int32)  : Nat → Int32 → Int32 → (Nat → Int32) → Option ((Nat → Int32)) := zlp (fun _ _ _ => none) (F_J7_fill_53178_5 N n0 p1)
theorem m_J7_fill_53178_5 {K : Kt} {g : Gp} {a0 : Nat} {N : Nat} {n0 : Nat} {p1 : Int32} {res : (Nat → Int32)} (hg : Ok g) (C : Cx K g cJ7_fill_53178 RJ7 4 (zrm 0 0)) (X : Rx K (exR none (wA g a0 n0 res)) 0 0 none) : ∀ (n : Nat) (v2 : Int32) (v3 : Int32) (s0 : (Nat → Int32)), f_J7_fill_53178_5 N n0 p1 n v2 v3 s0 = some res → Zs K 0 0 (wA g a0 n0 s0) [(0, .ref a0), (1, .int p1), (2, .int v2), (3, .int v3)] 5 [] := by
  intro n
  induction n with
  | zero => intro v2 v3 s0 h; exact nomatch (show (none : Option ((Nat → Int32))) = some res from h)
  | succ n hk5 =>
    intro v2 v3 s0 h
    replace h : F_J7_fill_53178_5 N n0 p1 (f_J7_fill_53178_5 N n0 p1 n) v2 v3 s0 = some res := h
    unfold F_J7_fill_53178_5 at h
    refine z_iload_n (pc := 5) (x := v2) C dJ7_fill_53178_5 (i := 2) rfl rfl ?_
    refine z_iload_n (pc := 6) (x := v3) C dJ7_fill_53178_6 (i := 3) rfl rfl ?_
    refine z_icmp_ge (pc := 7) C dJ7_fill_53178_7 (tgt := 20) (by decide) (fun hc => ?_) (fun hc => ?_)
    · replace h := (ite_e h).1 hc
      exact z_vret C X dJ7_fill_53178_20 (by rw [← Option.some.inj h]; exact ⟨rfl, rfl⟩) (by decide) (by decide)
    · replace h := (ite_e h).2 hc
      refine z_aload_n (pc := 10) (x := a0) C dJ7_fill_53178_10 (i := 0) rfl rfl ?_
      refine z_iload_n (pc := 11) (x := v2) C dJ7_fill_53178_11 (i := 2) rfl rfl ?_
      refine z_iload_n (pc := 12) (x := p1) C dJ7_fill_53178_12 (i := 1) rfl rfl ?_
      replace h := chk_e h
      obtain ⟨hb1, h⟩ := h
      refine z_iast (pc := 13) C 0 dJ7_fill_53178_13 rfl hb1 (ws' := (wA g a0 n0 (upd s0 (v2).toNatClampNeg p1))) rfl ?_
      refine z_iinc (pc := 14) C dJ7_fill_53178_14 rfl (inc_e 1 (1 : Int32) ic_1 v2) (by decide) (lv' := [(2, .int (v2 + (1 : Int32))), (0, .ref a0), (1, .int p1), (3, .int v3)]) rfl ?_
      refine z_goto (pc := 17) C dJ7_fill_53178_17 (tgt := 5) (by decide) ?_
      refine z_lv (lv' := [(0, .ref a0), (1, .int p1), (2, .int (v2 + (1 : Int32))), (3, .int v3)]) [1, 2, 0, 3] rfl ?_
      exact hk5 (v2 + (1 : Int32)) v3 (upd s0 (v2).toNatClampNeg p1) h
def f_J7_fill_53178 (N : Nat) (n0 : Nat) (s0 : (Nat → Int32)) (p1 : Int32) : Option ((Nat → Int32)) := (f_J7_fill_53178_5 N n0 p1 N (0 : Int32) (Int32.ofNat n0) s0)
theorem m_J7_fill_53178 {g : Gp} {a0 : Nat} {N : Nat} {n0 : Nat} {s0 : (Nat → Int32)} {p1 : Int32} {res : (Nat → Int32)} (hg : Ok g) (h : f_J7_fill_53178 N n0 s0 p1 = some res) : Ct g yJ7_fill_53178 cJ7_fill_53178 4 none (zrm 0 0) [.ref a0, .int p1] (wA g a0 n0 s0) (exR none (wA g a0 n0 res)) := by
  refine ct_of rfl hg (by show _ ≤ _; exact Nat.le_of_ble_eq_true rfl) (fun K C X => ?_)
  show Zs K 0 0 (wA g a0 n0 s0) [(0, .ref a0), (1, .int p1)] 0 []
  unfold f_J7_fill_53178 at h
  refine z_iconst (pc := 0) C dJ7_fill_53178_0 ic_0 ?_
  refine z_istore_n (pc := 1) C dJ7_fill_53178_1 (i := 2) rfl (by decide) (lv' := [(2, .int (0 : Int32)), (0, .ref a0), (1, .int p1)]) rfl ?_
  refine z_aload_n (pc := 2) (x := a0) C dJ7_fill_53178_2 (i := 0) rfl rfl ?_
  refine z_alen_int (pc := 3) (v := (Int32.ofNat n0)) C 0 dJ7_fill_53178_3 rfl rfl ?_
  refine z_istore_n (pc := 4) C dJ7_fill_53178_4 (i := 3) rfl (by decide) (lv' := [(3, .int (Int32.ofNat n0)), (2, .int (0 : Int32)), (0, .ref a0), (1, .int p1)]) rfl ?_
  refine z_lv (lv' := [(0, .ref a0), (1, .int p1), (2, .int (0 : Int32)), (3, .int (Int32.ofNat n0))]) [2, 3, 1, 0] rfl ?_
  exact m_J7_fill_53178_5 (a0 := a0) hg C X N (0 : Int32) (Int32.ofNat n0) s0 h
def f_J13_bitCount_95d88 (N : Nat) (p0 : Int64) : Option (Int32) := (znm ((p0).toUInt64 >>> (((1 : Int32)).toInt64.toUInt64 &&& Int64.toUInt64 63)).toInt64 fun x1 => (znm ((p0 - (x1 &&& (6148914691236517205 : Int64))) &&& (3689348814741910323 : Int64)) fun x2 => (znm (((p0 - (x1 &&& (6148914691236517205 : Int64)))).toUInt64 >>> (((2 : Int32)).toInt64.toUInt64 &&& Int64.toUInt64 63)).toInt64 fun x3 => (znm (((x2 + (x3 &&& (3689348814741910323 : Int64)))).toUInt64 >>> (((4 : Int32)).toInt64.toUInt64 &&& Int64.toUInt64 63)).toInt64 fun x4 => (znm (((x2 + (x3 &&& (3689348814741910323 : Int64))) + x4) &&& (1085102592571150095 : Int64)) fun x5 => (znm ((x5).toUInt64 >>> (((8 : Int32)).toInt64.toUInt64 &&& Int64.toUInt64 63)).toInt64 fun x6 => (znm (((x5 + x6)).toUInt64 >>> (((16 : Int32)).toInt64.toUInt64 &&& Int64.toUInt64 63)).toInt64 fun x7 => (znm ((((x5 + x6) + x7)).toUInt64 >>> (((32 : Int32)).toInt64.toUInt64 &&& Int64.toUInt64 63)).toInt64 fun x8 => (some (((((x5 + x6) + x7) + x8)).toInt32 &&& (127 : Int32)))))))))))
theorem m_J13_bitCount_95d88 {g : Gp}  {N : Nat} {p0 : Int64} {res : Int32} (hg : Ok g) (h : f_J13_bitCount_95d88 N p0 = some res) : Ct g yJ13_bitCount_95d88 cJ13_bitCount_95d88 2 (some .int) (zrm 0 0) [.long p0] ([] : va_W) (exR (some (.int res)) ([] : va_W)) := by
  refine ct_of rfl hg (by show _ ≤ _; exact Nat.le_of_ble_eq_true rfl) (fun K C X => ?_)
  show Zs K 0 0 ([] : va_W) [(0, .long p0)] 0 []
  unfold f_J13_bitCount_95d88 at h
  refine z_lload_n (pc := 0) (x := p0) C dJ13_bitCount_95d88_0 (i := 0) rfl rfl ?_
  refine z_lload_n (pc := 1) (x := p0) C dJ13_bitCount_95d88_1 (i := 0) rfl rfl ?_
  refine z_iconst (pc := 2) C dJ13_bitCount_95d88_2 ic_1 ?_
  refine z_lushr (pc := 3) C dJ13_bitCount_95d88_3 ?_
  replace h := znm_e h
  obtain ⟨x1, hx1, h⟩ := h
  refine z_top2 hx1 ?_
  refine z_ldc2 (pc := 4) C dJ13_bitCount_95d88_4 kl_RJ13_314 ?_
  refine z_land (pc := 7) C dJ13_bitCount_95d88_7 ?_
  refine z_lsub (pc := 8) C dJ13_bitCount_95d88_8 ?_
  refine z_lstore_n (pc := 9) C dJ13_bitCount_95d88_9 (i := 0) rfl (by decide) (lv' := [(0, .long (p0 - (x1 &&& (6148914691236517205 : Int64))))]) rfl ?_
  refine z_lload_n (pc := 10) (x := (p0 - (x1 &&& (6148914691236517205 : Int64)))) C dJ13_bitCount_95d88_10 (i := 0) rfl rfl ?_
  refine z_ldc2 (pc := 11) C dJ13_bitCount_95d88_11 kl_RJ13_316 ?_
  refine z_land (pc := 14) C dJ13_bitCount_95d88_14 ?_
  replace h := znm_e h
  obtain ⟨x2, hx2, h⟩ := h
  refine z_top2 hx2 ?_
  refine z_lload_n (pc := 15) (x := (p0 - (x1 &&& (6148914691236517205 : Int64)))) C dJ13_bitCount_95d88_15 (i := 0) rfl rfl ?_
  refine z_iconst (pc := 16) C dJ13_bitCount_95d88_16 ic_2 ?_
  refine z_lushr (pc := 17) C dJ13_bitCount_95d88_17 ?_
  replace h := znm_e h
  obtain ⟨x3, hx3, h⟩ := h
  refine z_top2 hx3 ?_
  refine z_ldc2 (pc := 18) C dJ13_bitCount_95d88_18 kl_RJ13_316 ?_
  refine z_land (pc := 21) C dJ13_bitCount_95d88_21 ?_
  refine z_ladd (pc := 22) C dJ13_bitCount_95d88_22 ?_
  refine z_lstore_n (pc := 23) C dJ13_bitCount_95d88_23 (i := 0) rfl (by decide) (lv' := [(0, .long (x2 + (x3 &&& (3689348814741910323 : Int64))))]) rfl ?_
  refine z_lload_n (pc := 24) (x := (x2 + (x3 &&& (3689348814741910323 : Int64)))) C dJ13_bitCount_95d88_24 (i := 0) rfl rfl ?_
  refine z_lload_n (pc := 25) (x := (x2 + (x3 &&& (3689348814741910323 : Int64)))) C dJ13_bitCount_95d88_25 (i := 0) rfl rfl ?_
  refine z_iconst (pc := 26) C dJ13_bitCount_95d88_26 ic_4 ?_
  refine z_lushr (pc := 27) C dJ13_bitCount_95d88_27 ?_
  replace h := znm_e h
  obtain ⟨x4, hx4, h⟩ := h
  refine z_top2 hx4 ?_
  refine z_ladd (pc := 28) C dJ13_bitCount_95d88_28 ?_
  refine z_ldc2 (pc := 29) C dJ13_bitCount_95d88_29 kl_RJ13_318 ?_
  refine z_land (pc := 32) C dJ13_bitCount_95d88_32 ?_
  replace h := znm_e h
  obtain ⟨x5, hx5, h⟩ := h
  refine z_top2 hx5 ?_
  refine z_lstore_n (pc := 33) C dJ13_bitCount_95d88_33 (i := 0) rfl (by decide) (lv' := [(0, .long x5)]) rfl ?_
  refine z_lload_n (pc := 34) (x := x5) C dJ13_bitCount_95d88_34 (i := 0) rfl rfl ?_
  refine z_lload_n (pc := 35) (x := x5) C dJ13_bitCount_95d88_35 (i := 0) rfl rfl ?_
  refine z_bipush (pc := 36) C dJ13_bitCount_95d88_36 bp_8 ?_
  refine z_lushr (pc := 38) C dJ13_bitCount_95d88_38 ?_
  replace h := znm_e h
  obtain ⟨x6, hx6, h⟩ := h
  refine z_top2 hx6 ?_
  refine z_ladd (pc := 39) C dJ13_bitCount_95d88_39 ?_
  refine z_lstore_n (pc := 40) C dJ13_bitCount_95d88_40 (i := 0) rfl (by decide) (lv' := [(0, .long (x5 + x6))]) rfl ?_
  refine z_lload_n (pc := 41) (x := (x5 + x6)) C dJ13_bitCount_95d88_41 (i := 0) rfl rfl ?_
  refine z_lload_n (pc := 42) (x := (x5 + x6)) C dJ13_bitCount_95d88_42 (i := 0) rfl rfl ?_
  refine z_bipush (pc := 43) C dJ13_bitCount_95d88_43 bp_16 ?_
  refine z_lushr (pc := 45) C dJ13_bitCount_95d88_45 ?_
  replace h := znm_e h
  obtain ⟨x7, hx7, h⟩ := h
  refine z_top2 hx7 ?_
  refine z_ladd (pc := 46) C dJ13_bitCount_95d88_46 ?_
  refine z_lstore_n (pc := 47) C dJ13_bitCount_95d88_47 (i := 0) rfl (by decide) (lv' := [(0, .long ((x5 + x6) + x7))]) rfl ?_
  refine z_lload_n (pc := 48) (x := ((x5 + x6) + x7)) C dJ13_bitCount_95d88_48 (i := 0) rfl rfl ?_
  refine z_lload_n (pc := 49) (x := ((x5 + x6) + x7)) C dJ13_bitCount_95d88_49 (i := 0) rfl rfl ?_
  refine z_bipush (pc := 50) C dJ13_bitCount_95d88_50 bp_32 ?_
  refine z_lushr (pc := 52) C dJ13_bitCount_95d88_52 ?_
  replace h := znm_e h
  obtain ⟨x8, hx8, h⟩ := h
  refine z_top2 hx8 ?_
  refine z_ladd (pc := 53) C dJ13_bitCount_95d88_53 ?_
  refine z_lstore_n (pc := 54) C dJ13_bitCount_95d88_54 (i := 0) rfl (by decide) (lv' := [(0, .long (((x5 + x6) + x7) + x8))]) rfl ?_
  refine z_lload_n (pc := 55) (x := (((x5 + x6) + x7) + x8)) C dJ13_bitCount_95d88_55 (i := 0) rfl rfl ?_
  refine z_l2i (pc := 56) C dJ13_bitCount_95d88_56 ?_
  refine z_bipush (pc := 57) C dJ13_bitCount_95d88_57 bp_127 ?_
  refine z_iand (pc := 59) C dJ13_bitCount_95d88_59 ?_
  exact z_iret C X dJ13_bitCount_95d88_60 (by rw [← Option.some.inj h]; exact ⟨rfl, rfl⟩) (by decide) (by decide)
def f_J6_bitCount_0f7a4 (N : Nat) (p0 : Int32) : Option (Int32) := (znm ((p0).toUInt32 >>> (((1 : Int32)).toUInt32 &&& Int32.toUInt32 31)).toInt32 fun x1 => (znm (((p0 - (x1 &&& (1431655765 : Int32)))).toUInt32 >>> (((2 : Int32)).toUInt32 &&& Int32.toUInt32 31)).toInt32 fun x2 => (znm (((p0 - (x1 &&& (1431655765 : Int32))) &&& (858993459 : Int32)) + (x2 &&& (858993459 : Int32))) fun x3 => (znm ((x3).toUInt32 >>> (((4 : Int32)).toUInt32 &&& Int32.toUInt32 31)).toInt32 fun x4 => (znm ((((x3 + x4) &&& (252645135 : Int32))).toUInt32 >>> (((8 : Int32)).toUInt32 &&& Int32.toUInt32 31)).toInt32 fun x5 => (znm (((((x3 + x4) &&& (252645135 : Int32)) + x5)).toUInt32 >>> (((16 : Int32)).toUInt32 &&& Int32.toUInt32 31)).toInt32 fun x6 => (some (((((x3 + x4) &&& (252645135 : Int32)) + x5) + x6) &&& (63 : Int32)))))))))
theorem m_J6_bitCount_0f7a4 {g : Gp}  {N : Nat} {p0 : Int32} {res : Int32} (hg : Ok g) (h : f_J6_bitCount_0f7a4 N p0 = some res) : Ct g yJ6_bitCount_0f7a4 cJ6_bitCount_0f7a4 1 (some .int) (zrm 0 0) [.int p0] ([] : va_W) (exR (some (.int res)) ([] : va_W)) := by
  refine ct_of rfl hg (by show _ ≤ _; exact Nat.le_of_ble_eq_true rfl) (fun K C X => ?_)
  show Zs K 0 0 ([] : va_W) [(0, .int p0)] 0 []
  unfold f_J6_bitCount_0f7a4 at h
  refine z_iload_n (pc := 0) (x := p0) C dJ6_bitCount_0f7a4_0 (i := 0) rfl rfl ?_
  refine z_iload_n (pc := 1) (x := p0) C dJ6_bitCount_0f7a4_1 (i := 0) rfl rfl ?_
  refine z_iconst (pc := 2) C dJ6_bitCount_0f7a4_2 ic_1 ?_
  refine z_iushr (pc := 3) C dJ6_bitCount_0f7a4_3 ?_
  replace h := znm_e h
  obtain ⟨x1, hx1, h⟩ := h
  refine z_top1 hx1 ?_
  refine z_ldcw (pc := 4) C dJ6_bitCount_0f7a4_4 ki_RJ6_265 ?_
  refine z_iand (pc := 7) C dJ6_bitCount_0f7a4_7 ?_
  refine z_isub (pc := 8) C dJ6_bitCount_0f7a4_8 ?_
  refine z_istore_n (pc := 9) C dJ6_bitCount_0f7a4_9 (i := 0) rfl (by decide) (lv' := [(0, .int (p0 - (x1 &&& (1431655765 : Int32))))]) rfl ?_
  refine z_iload_n (pc := 10) (x := (p0 - (x1 &&& (1431655765 : Int32)))) C dJ6_bitCount_0f7a4_10 (i := 0) rfl rfl ?_
  refine z_ldcw (pc := 11) C dJ6_bitCount_0f7a4_11 ki_RJ6_266 ?_
  refine z_iand (pc := 14) C dJ6_bitCount_0f7a4_14 ?_
  refine z_iload_n (pc := 15) (x := (p0 - (x1 &&& (1431655765 : Int32)))) C dJ6_bitCount_0f7a4_15 (i := 0) rfl rfl ?_
  refine z_iconst (pc := 16) C dJ6_bitCount_0f7a4_16 ic_2 ?_
  refine z_iushr (pc := 17) C dJ6_bitCount_0f7a4_17 ?_
  replace h := znm_e h
  obtain ⟨x2, hx2, h⟩ := h
  refine z_top1 hx2 ?_
  refine z_ldcw (pc := 18) C dJ6_bitCount_0f7a4_18 ki_RJ6_266 ?_
  refine z_iand (pc := 21) C dJ6_bitCount_0f7a4_21 ?_
  refine z_iadd (pc := 22) C dJ6_bitCount_0f7a4_22 ?_
  replace h := znm_e h
  obtain ⟨x3, hx3, h⟩ := h
  refine z_top1 hx3 ?_
  refine z_istore_n (pc := 23) C dJ6_bitCount_0f7a4_23 (i := 0) rfl (by decide) (lv' := [(0, .int x3)]) rfl ?_
  refine z_iload_n (pc := 24) (x := x3) C dJ6_bitCount_0f7a4_24 (i := 0) rfl rfl ?_
  refine z_iload_n (pc := 25) (x := x3) C dJ6_bitCount_0f7a4_25 (i := 0) rfl rfl ?_
  refine z_iconst (pc := 26) C dJ6_bitCount_0f7a4_26 ic_4 ?_
  refine z_iushr (pc := 27) C dJ6_bitCount_0f7a4_27 ?_
  replace h := znm_e h
  obtain ⟨x4, hx4, h⟩ := h
  refine z_top1 hx4 ?_
  refine z_iadd (pc := 28) C dJ6_bitCount_0f7a4_28 ?_
  refine z_ldcw (pc := 29) C dJ6_bitCount_0f7a4_29 ki_RJ6_267 ?_
  refine z_iand (pc := 32) C dJ6_bitCount_0f7a4_32 ?_
  refine z_istore_n (pc := 33) C dJ6_bitCount_0f7a4_33 (i := 0) rfl (by decide) (lv' := [(0, .int ((x3 + x4) &&& (252645135 : Int32)))]) rfl ?_
  refine z_iload_n (pc := 34) (x := ((x3 + x4) &&& (252645135 : Int32))) C dJ6_bitCount_0f7a4_34 (i := 0) rfl rfl ?_
  refine z_iload_n (pc := 35) (x := ((x3 + x4) &&& (252645135 : Int32))) C dJ6_bitCount_0f7a4_35 (i := 0) rfl rfl ?_
  refine z_bipush (pc := 36) C dJ6_bitCount_0f7a4_36 bp_8 ?_
  refine z_iushr (pc := 38) C dJ6_bitCount_0f7a4_38 ?_
  replace h := znm_e h
  obtain ⟨x5, hx5, h⟩ := h
  refine z_top1 hx5 ?_
  refine z_iadd (pc := 39) C dJ6_bitCount_0f7a4_39 ?_
  refine z_istore_n (pc := 40) C dJ6_bitCount_0f7a4_40 (i := 0) rfl (by decide) (lv' := [(0, .int (((x3 + x4) &&& (252645135 : Int32)) + x5))]) rfl ?_
  refine z_iload_n (pc := 41) (x := (((x3 + x4) &&& (252645135 : Int32)) + x5)) C dJ6_bitCount_0f7a4_41 (i := 0) rfl rfl ?_
  refine z_iload_n (pc := 42) (x := (((x3 + x4) &&& (252645135 : Int32)) + x5)) C dJ6_bitCount_0f7a4_42 (i := 0) rfl rfl ?_
  refine z_bipush (pc := 43) C dJ6_bitCount_0f7a4_43 bp_16 ?_
  refine z_iushr (pc := 45) C dJ6_bitCount_0f7a4_45 ?_
  replace h := znm_e h
  obtain ⟨x6, hx6, h⟩ := h
  refine z_top1 hx6 ?_
  refine z_iadd (pc := 46) C dJ6_bitCount_0f7a4_46 ?_
  refine z_istore_n (pc := 47) C dJ6_bitCount_0f7a4_47 (i := 0) rfl (by decide) (lv' := [(0, .int ((((x3 + x4) &&& (252645135 : Int32)) + x5) + x6))]) rfl ?_
  refine z_iload_n (pc := 48) (x := ((((x3 + x4) &&& (252645135 : Int32)) + x5) + x6)) C dJ6_bitCount_0f7a4_48 (i := 0) rfl rfl ?_
  refine z_bipush (pc := 49) C dJ6_bitCount_0f7a4_49 bp_63 ?_
  refine z_iand (pc := 51) C dJ6_bitCount_0f7a4_51 ?_
  exact z_iret C X dJ6_bitCount_0f7a4_52 (by rw [← Option.some.inj h]; exact ⟨rfl, rfl⟩) (by decide) (by decide)
def f_X1_cardAt (N : Nat) (s0 : Ob) (p1 : Int32) (p2 : Int32) : Option (Int32) := (if p1 < 0 then (some (-1 : Int32)) else (if (4 : Int32) ≤ p1 then (some (-1 : Int32)) else (if p2 < 0 then (some (-1 : Int32)) else (chk (inb p1 4) (if p2 < ((s0.2.2.1 10) (p1).toNatClampNeg) then (if (20 : Int32) ≤ ((p1 * (5 : Int32)) + p2) then (some (-1 : Int32)) else (chk (inb ((p1 * (5 : Int32)) + p2) 20) (some ((s0.2.2.1 9) (((p1 * (5 : Int32)) + p2)).toNatClampNeg)))) else (some (-1 : Int32)))))))
theorem m_X1_cardAt {g : Gp} {a0 : Nat} {r0 : Nat → Nat} {q0_0 : Nat} {N : Nat} {s0 : Ob} {p1 : Int32} {p2 : Int32} {res : Int32} (hg : Ok g) (h : f_X1_cardAt N s0 p1 p2 = some res) : Ct g yX1_cardAt cX1_cardAt 4 (some .int) (zrm 0 0) [.ref a0, .int p1, .int p2] (wX1 g a0 r0 q0_0 s0) (exR (some (.int res)) (wX1 g a0 r0 q0_0 s0)) := by
  refine ct_of rfl hg (by show _ ≤ _; exact Nat.le_of_ble_eq_true rfl) (fun K C X => ?_)
  show Zs K 0 0 (wX1 g a0 r0 q0_0 s0) [(0, .ref a0), (1, .int p1), (2, .int p2)] 0 []
  unfold f_X1_cardAt at h
  refine z_iload_n (pc := 0) (x := p1) C dX1_cardAt_0 (i := 1) rfl rfl ?_
  refine z_if_lt (pc := 1) C dX1_cardAt_1 (tgt := 23) (by decide) (fun hc => ?_) (fun hc => ?_)
  · replace h := (ite_e h).1 hc
    refine z_iconst (pc := 23) C dX1_cardAt_23 ic_m1 ?_
    exact z_iret C X dX1_cardAt_24 (by rw [← Option.some.inj h]; exact ⟨rfl, rfl⟩) (by decide) (by decide)
  · replace h := (ite_e h).2 hc
    refine z_iload_n (pc := 4) (x := p1) C dX1_cardAt_4 (i := 1) rfl rfl ?_
    refine z_iconst (pc := 5) C dX1_cardAt_5 ic_4 ?_
    refine z_icmp_ge (pc := 6) C dX1_cardAt_6 (tgt := 23) (by decide) (fun hc => ?_) (fun hc => ?_)
    · replace h := (ite_e h).1 hc
      refine z_iconst (pc := 23) C dX1_cardAt_23 ic_m1 ?_
      exact z_iret C X dX1_cardAt_24 (by rw [← Option.some.inj h]; exact ⟨rfl, rfl⟩) (by decide) (by decide)
    · replace h := (ite_e h).2 hc
      refine z_iload_n (pc := 9) (x := p2) C dX1_cardAt_9 (i := 2) rfl rfl ?_
      refine z_if_lt (pc := 10) C dX1_cardAt_10 (tgt := 23) (by decide) (fun hc => ?_) (fun hc => ?_)
      · replace h := (ite_e h).1 hc
        refine z_iconst (pc := 23) C dX1_cardAt_23 ic_m1 ?_
        exact z_iret C X dX1_cardAt_24 (by rw [← Option.some.inj h]; exact ⟨rfl, rfl⟩) (by decide) (by decide)
      · replace h := (ite_e h).2 hc
        refine z_iload_n (pc := 13) (x := p2) C dX1_cardAt_13 (i := 2) rfl rfl ?_
        refine z_aload_n (pc := 14) (x := a0) C dX1_cardAt_14 (i := 0) rfl rfl ?_
        refine z_get (pc := 15) (v := .ref (r0 10)) C 0 dX1_cardAt_15 fl_RX1_18 rfl rfl ?_
        refine z_iload_n (pc := 18) (x := p1) C dX1_cardAt_18 (i := 1) rfl rfl ?_
        replace h := chk_e h
        obtain ⟨hb1, h⟩ := h
        refine z_iald (pc := 19) C 3 dX1_cardAt_19 rfl hb1 ?_
        refine z_icmp_lt (pc := 20) C dX1_cardAt_20 (tgt := 25) (by decide) (fun hc => ?_) (fun hc => ?_)
        · replace h := (ite_e h).1 hc
          refine z_iload_n (pc := 25) (x := p1) C dX1_cardAt_25 (i := 1) rfl rfl ?_
          refine z_iconst (pc := 26) C dX1_cardAt_26 ic_5 ?_
          refine z_imul (pc := 27) C dX1_cardAt_27 ?_
          refine z_iload_n (pc := 28) (x := p2) C dX1_cardAt_28 (i := 2) rfl rfl ?_
          refine z_iadd (pc := 29) C dX1_cardAt_29 ?_
          refine z_istore_n (pc := 30) C dX1_cardAt_30 (i := 3) rfl (by decide) (lv' := [(3, .int ((p1 * (5 : Int32)) + p2)), (0, .ref a0), (1, .int p1), (2, .int p2)]) rfl ?_
          refine z_iload_n (pc := 31) (x := ((p1 * (5 : Int32)) + p2)) C dX1_cardAt_31 (i := 3) rfl rfl ?_
          refine z_aload_n (pc := 32) (x := a0) C dX1_cardAt_32 (i := 0) rfl rfl ?_
          refine z_get (pc := 33) (v := .ref (r0 9)) C 0 dX1_cardAt_33 fl_RX1_15 rfl rfl ?_
          refine z_alen_int (pc := 36) (v := (20 : Int32)) C 2 dX1_cardAt_36 rfl (by decide) ?_
          refine z_icmp_ge (pc := 37) C dX1_cardAt_37 (tgt := 49) (by decide) (fun hc => ?_) (fun hc => ?_)
          · replace h := (ite_e h).1 hc
            refine z_iconst (pc := 49) C dX1_cardAt_49 ic_m1 ?_
            exact z_iret C X dX1_cardAt_50 (by rw [← Option.some.inj h]; exact ⟨rfl, rfl⟩) (by decide) (by decide)
          · replace h := (ite_e h).2 hc
            refine z_aload_n (pc := 40) (x := a0) C dX1_cardAt_40 (i := 0) rfl rfl ?_
            refine z_get (pc := 41) (v := .ref (r0 9)) C 0 dX1_cardAt_41 fl_RX1_15 rfl rfl ?_
            refine z_iload_n (pc := 44) (x := ((p1 * (5 : Int32)) + p2)) C dX1_cardAt_44 (i := 3) rfl rfl ?_
            replace h := chk_e h
            obtain ⟨hb2, h⟩ := h
            refine z_iald (pc := 45) C 2 dX1_cardAt_45 rfl hb2 ?_
            refine z_goto (pc := 46) C dX1_cardAt_46 (tgt := 50) (by decide) ?_
            exact z_iret C X dX1_cardAt_50 (by rw [← Option.some.inj h]; exact ⟨rfl, rfl⟩) (by decide) (by decide)
        · replace h := (ite_e h).2 hc
          refine z_iconst (pc := 23) C dX1_cardAt_23 ic_m1 ?_
          exact z_iret C X dX1_cardAt_24 (by rw [← Option.some.inj h]; exact ⟨rfl, rfl⟩) (by decide) (by decide)
def F_X1_takeCard_19 (N : Nat) (p1 : Int32)  (k19 : Int32 → Int32 → Ob → Option (Int32 × Ob)) (v2 : Int32) (v3 : Int32) (s0 : Ob) : Option (Int32 × Ob) := (chk (inb (s0.1 4) 4) (if ((s0.2.2.1 10) ((s0.1 4)).toNatClampNeg) ≤ (v3 + (1 : Int32)) then (chk (inb (s0.1 4) 4) (chk (inb (s0.1 4) 4) (some (v2, (sa s0 10 (upd (s0.2.2.1 10) ((s0.1 4)).toNatClampNeg (((s0.2.2.1 10) ((s0.1 4)).toNatClampNeg) - (1 : Int32)))))))) else (chk (inb ((((s0.1 4) * (5 : Int32)) + v3) + (1 : Int32)) 20) (znm ((s0.2.2.1 9) (((((s0.1 4) * (5 : Int32)) + v3) + (1 : Int32))).toNatClampNeg) fun x6 => (chk (inb (((s0.1 4) * (5 : Int32)) + v3) 20) (k19 v2 (v3 + (1 : Int32)) (sa s0 9 (upd (s0.2.2.1 9) ((((s0.1 4) * (5 : Int32)) + v3)).toNatClampNeg x6))))))))
def f_X1_takeCard_19 (N : Nat) (p1 : Int32)  : Nat → Int32 → Int32 → Ob → Option (Int32 × Ob) := zlp (fun _ _ _ => none) (F_X1_takeCard_19 N p1)
theorem m_X1_takeCard_19 {K : Kt} {g : Gp} {a0 : Nat} {r0 : Nat → Nat} {q0_0 : Nat} {N : Nat} {p1 : Int32} {res : Int32 × Ob} (hg : Ok g) (C : Cx K g cX1_takeCard RX1 4 (zrm 1 23)) (X : Rx K (exR (some (.int res.1)) (wX1 g a0 r0 q0_0 res.2)) 0 0 (some .int)) : ∀ (n : Nat) (v2 : Int32) (v3 : Int32) (s0 : Ob), f_X1_takeCard_19 N p1 n v2 v3 s0 = some res → Zs K 0 0 (wX1 g a0 r0 q0_0 s0) [(0, .ref a0), (2, .int v2), (3, .int v3)] 19 [] := by
  intro n
  induction n with
  | zero => intro v2 v3 s0 h; exact nomatch (show (none : Option (Int32 × Ob)) = some res from h)
  | succ n hk19 =>
    intro v2 v3 s0 h
    replace h : F_X1_takeCard_19 N p1 (f_X1_takeCard_19 N p1 n) v2 v3 s0 = some res := h
    unfold F_X1_takeCard_19 at h
    refine z_iload_n (pc := 19) (x := v3) C dX1_takeCard_19 (i := 3) rfl rfl ?_
    refine z_iconst (pc := 20) C dX1_takeCard_20 ic_1 ?_
    refine z_iadd (pc := 21) C dX1_takeCard_21 ?_
    refine z_aload_n (pc := 22) (x := a0) C dX1_takeCard_22 (i := 0) rfl rfl ?_
    refine z_get (pc := 23) (v := .ref (r0 10)) C 0 dX1_takeCard_23 fl_RX1_18 rfl rfl ?_
    refine z_aload_n (pc := 26) (x := a0) C dX1_takeCard_26 (i := 0) rfl rfl ?_
    refine z_get (pc := 27) (v := .int (s0.1 4)) C 0 dX1_takeCard_27 fl_RX1_52 rfl rfl ?_
    replace h := chk_e h
    obtain ⟨hb2, h⟩ := h
    refine z_iald (pc := 30) C 3 dX1_takeCard_30 rfl hb2 ?_
    refine z_icmp_ge (pc := 31) C dX1_takeCard_31 (tgt := 68) (by decide) (fun hc => ?_) (fun hc => ?_)
    · replace h := (ite_e h).1 hc
      refine z_aload_n (pc := 68) (x := a0) C dX1_takeCard_68 (i := 0) rfl rfl ?_
      refine z_get (pc := 69) (v := .ref (r0 10)) C 0 dX1_takeCard_69 fl_RX1_18 rfl rfl ?_
      refine z_aload_n (pc := 72) (x := a0) C dX1_takeCard_72 (i := 0) rfl rfl ?_
      refine z_get (pc := 73) (v := .int (s0.1 4)) C 0 dX1_takeCard_73 fl_RX1_52 rfl rfl ?_
      refine z_dup2 (pc := 76) C dX1_takeCard_76 rfl rfl ?_
      replace h := chk_e h
      obtain ⟨hb3, h⟩ := h
      refine z_iald (pc := 77) C 3 dX1_takeCard_77 rfl hb3 ?_
      refine z_iconst (pc := 78) C dX1_takeCard_78 ic_1 ?_
      refine z_isub (pc := 79) C dX1_takeCard_79 ?_
      replace h := chk_e h
      obtain ⟨hb4, h⟩ := h
      refine z_iast (pc := 80) C 3 dX1_takeCard_80 rfl hb4 (ws' := (wX1 g a0 r0 q0_0 (sa s0 10 (upd (s0.2.2.1 10) ((s0.1 4)).toNatClampNeg (((s0.2.2.1 10) ((s0.1 4)).toNatClampNeg) - (1 : Int32)))))) rfl ?_
      refine z_iload_n (pc := 81) (x := v2) C dX1_takeCard_81 (i := 2) rfl rfl ?_
      exact z_iret C X dX1_takeCard_82 (by rw [← Option.some.inj h]; exact ⟨rfl, rfl⟩) (by decide) (by decide)
    · replace h := (ite_e h).2 hc
      refine z_aload_n (pc := 34) (x := a0) C dX1_takeCard_34 (i := 0) rfl rfl ?_
      refine z_get (pc := 35) (v := .ref (r0 9)) C 0 dX1_takeCard_35 fl_RX1_15 rfl rfl ?_
      refine z_aload_n (pc := 38) (x := a0) C dX1_takeCard_38 (i := 0) rfl rfl ?_
      refine z_get (pc := 39) (v := .int (s0.1 4)) C 0 dX1_takeCard_39 fl_RX1_52 rfl rfl ?_
      refine z_iconst (pc := 42) C dX1_takeCard_42 ic_5 ?_
      refine z_imul (pc := 43) C dX1_takeCard_43 ?_
      refine z_iload_n (pc := 44) (x := v3) C dX1_takeCard_44 (i := 3) rfl rfl ?_
      refine z_iadd (pc := 45) C dX1_takeCard_45 ?_
      refine z_aload_n (pc := 46) (x := a0) C dX1_takeCard_46 (i := 0) rfl rfl ?_
      refine z_get (pc := 47) (v := .ref (r0 9)) C 0 dX1_takeCard_47 fl_RX1_15 rfl rfl ?_
      refine z_aload_n (pc := 50) (x := a0) C dX1_takeCard_50 (i := 0) rfl rfl ?_
      refine z_get (pc := 51) (v := .int (s0.1 4)) C 0 dX1_takeCard_51 fl_RX1_52 rfl rfl ?_
      refine z_iconst (pc := 54) C dX1_takeCard_54 ic_5 ?_
      refine z_imul (pc := 55) C dX1_takeCard_55 ?_
      refine z_iload_n (pc := 56) (x := v3) C dX1_takeCard_56 (i := 3) rfl rfl ?_
      refine z_iadd (pc := 57) C dX1_takeCard_57 ?_
      refine z_iconst (pc := 58) C dX1_takeCard_58 ic_1 ?_
      refine z_iadd (pc := 59) C dX1_takeCard_59 ?_
      replace h := chk_e h
      obtain ⟨hb5, h⟩ := h
      refine z_iald (pc := 60) C 2 dX1_takeCard_60 rfl hb5 ?_
      replace h := znm_e h
      obtain ⟨x6, hx6, h⟩ := h
      refine z_top1 hx6 ?_
      replace h := chk_e h
      obtain ⟨hb7, h⟩ := h
      refine z_iast (pc := 61) C 2 dX1_takeCard_61 rfl hb7 (ws' := (wX1 g a0 r0 q0_0 (sa s0 9 (upd (s0.2.2.1 9) ((((s0.1 4) * (5 : Int32)) + v3)).toNatClampNeg x6)))) rfl ?_
      refine z_iinc (pc := 62) C dX1_takeCard_62 rfl (inc_e 1 (1 : Int32) ic_1 v3) (by decide) (lv' := [(3, .int (v3 + (1 : Int32))), (0, .ref a0), (2, .int v2)]) rfl ?_
      refine z_goto (pc := 65) C dX1_takeCard_65 (tgt := 19) (by decide) ?_
      refine z_lv (lv' := [(0, .ref a0), (2, .int v2), (3, .int (v3 + (1 : Int32)))]) [1, 2, 0] rfl ?_
      exact hk19 v2 (v3 + (1 : Int32)) (sa s0 9 (upd (s0.2.2.1 9) ((((s0.1 4) * (5 : Int32)) + v3)).toNatClampNeg x6)) h
def f_X1_takeCard (N : Nat) (s0 : Ob) (p1 : Int32) : Option (Int32 × Ob) := (ob (f_X1_cardAt N s0 (s0.1 4) p1) fun x1 => (if x1 = (-1 : Int32) then (some ((-1 : Int32), s0)) else (f_X1_takeCard_19 N p1 N x1 p1 s0)))
theorem m_X1_takeCard {g : Gp} {a0 : Nat} {r0 : Nat → Nat} {q0_0 : Nat} {N : Nat} {s0 : Ob} {p1 : Int32} {res : Int32 × Ob} (hg : Ok g) (h : f_X1_takeCard N s0 p1 = some res) : Ct g yX1_takeCard cX1_takeCard 4 (some .int) (zrm 1 23) [.ref a0, .int p1] (wX1 g a0 r0 q0_0 s0) (exR (some (.int res.1)) (wX1 g a0 r0 q0_0 res.2)) := by
  refine ct_of rfl hg (by show _ ≤ _; exact Nat.le_of_ble_eq_true rfl) (fun K C X => ?_)
  show Zs K 0 0 (wX1 g a0 r0 q0_0 s0) [(0, .ref a0), (1, .int p1)] 0 []
  unfold f_X1_takeCard at h
  refine z_aload_n (pc := 0) (x := a0) C dX1_takeCard_0 (i := 0) rfl rfl ?_
  refine z_aload_n (pc := 1) (x := a0) C dX1_takeCard_1 (i := 0) rfl rfl ?_
  refine z_get (pc := 2) (v := .int (s0.1 4)) C 0 dX1_takeCard_2 fl_RX1_52 rfl rfl ?_
  refine z_iload_n (pc := 5) (x := p1) C dX1_takeCard_5 (i := 1) rfl rfl ?_
  replace h := ob_e h
  obtain ⟨x1, hx1, h⟩ := h
  refine z_callV (pc := 6) (As := [.int (s0.1 4), .int p1]) (rest := []) (wr := ([] : va_W)) C dX1_takeCard_6 ml_RX1_124 wv_X1_cardAt (m_X1_cardAt (a0 := a0) (r0 := r0) (q0_0 := q0_0) hg hx1) [0, 1, 2, 3, 4, 5, 6, 7, 8] [] rfl rfl ⟨by decide, by decide⟩ (Nat.le_of_ble_eq_true rfl) ⟨by decide, by decide⟩ rfl rfl rfl rfl rfl rfl rfl (by decide) (ex_k C (cs' := 0) (ss' := 0) (wF := (wX1 g a0 r0 q0_0 s0)) [0, 1, 2, 3, 4, 5, 6, 7, 8] rfl rfl ?_)
  refine z_istore_n (pc := 9) C dX1_takeCard_9 (i := 2) rfl (by decide) (lv' := [(2, .int x1), (0, .ref a0), (1, .int p1)]) rfl ?_
  refine z_iload_n (pc := 10) (x := x1) C dX1_takeCard_10 (i := 2) rfl rfl ?_
  refine z_iconst (pc := 11) C dX1_takeCard_11 ic_m1 ?_
  refine z_icmp_ne (pc := 12) C dX1_takeCard_12 (tgt := 17) (by decide) (fun hc => ?_) (fun hc => ?_)
  · replace h := (ite_e h).2 hc
    refine z_iload_n (pc := 17) (x := p1) C dX1_takeCard_17 (i := 1) rfl rfl ?_
    refine z_istore_n (pc := 18) C dX1_takeCard_18 (i := 3) rfl (by decide) (lv' := [(3, .int p1), (2, .int x1), (0, .ref a0), (1, .int p1)]) rfl ?_
    refine z_lv (lv' := [(0, .ref a0), (2, .int x1), (3, .int p1)]) [2, 1, 0] rfl ?_
    exact m_X1_takeCard_19 (a0 := a0) (r0 := r0) (q0_0 := q0_0) hg C X N x1 p1 s0 h
  · replace h := (ite_e h).1 hc
    refine z_iconst (pc := 15) C dX1_takeCard_15 ic_m1 ?_
    exact z_iret C X dX1_takeCard_16 (by rw [← Option.some.inj h]; exact ⟨rfl, rfl⟩) (by decide) (by decide)
def f_X1_kindOf (N : Nat) (s0 : Ob) (s1 : Ob) (p1 : Int32) : Option (Int32) := (if p1 < 0 then (some (0 : Int32)) else (if (40 : Int32) ≤ p1 then (some (0 : Int32)) else (chk (inb p1 40) (some ((s1.2.2.1 8) (p1).toNatClampNeg)))))
theorem m_X1_kindOf {g : Gp} {a0 : Nat} {r0 : Nat → Nat} {q0_0 : Nat} {r1 : Nat → Nat} {N : Nat} {s0 : Ob} {s1 : Ob} {p1 : Int32} {res : Int32} (hg : Ok g) (h : f_X1_kindOf N s0 s1 p1 = some res) : Ct g yX1_kindOf cX1_kindOf 2 (some .int) (zrm 0 0) [.ref a0, .int p1] (wX1 g a0 r0 q0_0 s0 ++ wX5 g q0_0 r1 s1) (exR (some (.int res)) (wX1 g a0 r0 q0_0 s0 ++ wX5 g q0_0 r1 s1)) := by
  refine ct_of rfl hg (by show _ ≤ _; exact Nat.le_of_ble_eq_true rfl) (fun K C X => ?_)
  show Zs K 0 0 (wX1 g a0 r0 q0_0 s0 ++ wX5 g q0_0 r1 s1) [(0, .ref a0), (1, .int p1)] 0 []
  unfold f_X1_kindOf at h
  refine z_iload_n (pc := 0) (x := p1) C dX1_kindOf_0 (i := 1) rfl rfl ?_
  refine z_if_lt (pc := 1) C dX1_kindOf_1 (tgt := 22) (by decide) (fun hc => ?_) (fun hc => ?_)
  · replace h := (ite_e h).1 hc
    refine z_iconst (pc := 22) C dX1_kindOf_22 ic_0 ?_
    exact z_iret C X dX1_kindOf_23 (by rw [← Option.some.inj h]; exact ⟨rfl, rfl⟩) (by decide) (by decide)
  · replace h := (ite_e h).2 hc
    refine z_iload_n (pc := 4) (x := p1) C dX1_kindOf_4 (i := 1) rfl rfl ?_
    refine z_bipush (pc := 5) C dX1_kindOf_5 bp_40 ?_
    refine z_icmp_ge (pc := 7) C dX1_kindOf_7 (tgt := 22) (by decide) (fun hc => ?_) (fun hc => ?_)
    · replace h := (ite_e h).1 hc
      refine z_iconst (pc := 22) C dX1_kindOf_22 ic_0 ?_
      exact z_iret C X dX1_kindOf_23 (by rw [← Option.some.inj h]; exact ⟨rfl, rfl⟩) (by decide) (by decide)
    · replace h := (ite_e h).2 hc
      refine z_aload_n (pc := 10) (x := a0) C dX1_kindOf_10 (i := 0) rfl rfl ?_
      refine z_get (pc := 11) (v := .ref q0_0) C 0 dX1_kindOf_11 fl_RX1_38 rfl rfl ?_
      refine z_get (pc := 14) (v := .ref (r1 8)) C 9 dX1_kindOf_14 fl_RX1_113 rfl rfl ?_
      refine z_iload_n (pc := 17) (x := p1) C dX1_kindOf_17 (i := 1) rfl rfl ?_
      replace h := chk_e h
      obtain ⟨hb1, h⟩ := h
      refine z_iald (pc := 18) C 10 dX1_kindOf_18 rfl hb1 ?_
      refine z_goto (pc := 19) C dX1_kindOf_19 (tgt := 23) (by decide) ?_
      exact z_iret C X dX1_kindOf_23 (by rw [← Option.some.inj h]; exact ⟨rfl, rfl⟩) (by decide) (by decide)
def f_X1_topOf (N : Nat) (s0 : Ob) (p1 : Int32) : Option (Int32) := (if p1 < 0 then (some (0 : Int32)) else (if (4 : Int32) ≤ p1 then (some (0 : Int32)) else (chk (inb p1 4) (some ((s0.2.2.1 11) (p1).toNatClampNeg)))))
theorem m_X1_topOf {g : Gp} {a0 : Nat} {r0 : Nat → Nat} {q0_0 : Nat} {N : Nat} {s0 : Ob} {p1 : Int32} {res : Int32} (hg : Ok g) (h : f_X1_topOf N s0 p1 = some res) : Ct g yX1_topOf cX1_topOf 2 (some .int) (zrm 0 0) [.ref a0, .int p1] (wX1 g a0 r0 q0_0 s0) (exR (some (.int res)) (wX1 g a0 r0 q0_0 s0)) := by
  refine ct_of rfl hg (by show _ ≤ _; exact Nat.le_of_ble_eq_true rfl) (fun K C X => ?_)
  show Zs K 0 0 (wX1 g a0 r0 q0_0 s0) [(0, .ref a0), (1, .int p1)] 0 []
  unfold f_X1_topOf at h
  refine z_iload_n (pc := 0) (x := p1) C dX1_topOf_0 (i := 1) rfl rfl ?_
  refine z_if_lt (pc := 1) C dX1_topOf_1 (tgt := 18) (by decide) (fun hc => ?_) (fun hc => ?_)
  · replace h := (ite_e h).1 hc
    refine z_iconst (pc := 18) C dX1_topOf_18 ic_0 ?_
    exact z_iret C X dX1_topOf_19 (by rw [← Option.some.inj h]; exact ⟨rfl, rfl⟩) (by decide) (by decide)
  · replace h := (ite_e h).2 hc
    refine z_iload_n (pc := 4) (x := p1) C dX1_topOf_4 (i := 1) rfl rfl ?_
    refine z_iconst (pc := 5) C dX1_topOf_5 ic_4 ?_
    refine z_icmp_ge (pc := 6) C dX1_topOf_6 (tgt := 18) (by decide) (fun hc => ?_) (fun hc => ?_)
    · replace h := (ite_e h).1 hc
      refine z_iconst (pc := 18) C dX1_topOf_18 ic_0 ?_
      exact z_iret C X dX1_topOf_19 (by rw [← Option.some.inj h]; exact ⟨rfl, rfl⟩) (by decide) (by decide)
    · replace h := (ite_e h).2 hc
      refine z_aload_n (pc := 9) (x := a0) C dX1_topOf_9 (i := 0) rfl rfl ?_
      refine z_get (pc := 10) (v := .ref (r0 11)) C 0 dX1_topOf_10 fl_RX1_21 rfl rfl ?_
      refine z_iload_n (pc := 13) (x := p1) C dX1_topOf_13 (i := 1) rfl rfl ?_
      replace h := chk_e h
      obtain ⟨hb1, h⟩ := h
      refine z_iald (pc := 14) C 4 dX1_topOf_14 rfl hb1 ?_
      refine z_goto (pc := 15) C dX1_topOf_15 (tgt := 19) (by decide) ?_
      exact z_iret C X dX1_topOf_19 (by rw [← Option.some.inj h]; exact ⟨rfl, rfl⟩) (by decide) (by decide)
def f_X1_canGoOnPile (N : Nat) (s0 : Ob) (p1 : Int32) : Option (Int32) := (ob (f_X1_topOf N s0 (p1 / (5 : Int32))) fun x1 => (if x1 = (p1 - p1 / (5 : Int32) * (5 : Int32)) then (some (1 : Int32)) else (some (0 : Int32))))
theorem m_X1_canGoOnPile {g : Gp} {a0 : Nat} {r0 : Nat → Nat} {q0_0 : Nat} {N : Nat} {s0 : Ob} {p1 : Int32} {res : Int32} (hg : Ok g) (h : f_X1_canGoOnPile N s0 p1 = some res) : Ct g yX1_canGoOnPile cX1_canGoOnPile 2 (some .boolean) (zrm 1 21) [.ref a0, .int p1] (wX1 g a0 r0 q0_0 s0) (exR (some (.int res)) (wX1 g a0 r0 q0_0 s0)) := by
  refine ct_of rfl hg (by show _ ≤ _; exact Nat.le_of_ble_eq_true rfl) (fun K C X => ?_)
  show Zs K 0 0 (wX1 g a0 r0 q0_0 s0) [(0, .ref a0), (1, .int p1)] 0 []
  unfold f_X1_canGoOnPile at h
  refine z_aload_n (pc := 0) (x := a0) C dX1_canGoOnPile_0 (i := 0) rfl rfl ?_
  refine z_iload_n (pc := 1) (x := p1) C dX1_canGoOnPile_1 (i := 1) rfl rfl ?_
  refine z_iconst (pc := 2) C dX1_canGoOnPile_2 ic_5 ?_
  refine z_idiv (pc := 3) C dX1_canGoOnPile_3 (by decide) ?_
  replace h := ob_e h
  obtain ⟨x1, hx1, h⟩ := h
  refine z_callV (pc := 4) (As := [.int (p1 / (5 : Int32))]) (rest := []) (wr := ([] : va_W)) C dX1_canGoOnPile_4 ml_RX1_133 wv_X1_topOf (m_X1_topOf (a0 := a0) (r0 := r0) (q0_0 := q0_0) hg hx1) [0, 1, 2, 3, 4, 5, 6, 7, 8] [] rfl rfl ⟨by decide, by decide⟩ (Nat.le_of_ble_eq_true rfl) ⟨by decide, by decide⟩ rfl rfl rfl rfl rfl rfl rfl (by decide) (ex_k C (cs' := 0) (ss' := 0) (wF := (wX1 g a0 r0 q0_0 s0)) [0, 1, 2, 3, 4, 5, 6, 7, 8] rfl rfl ?_)
  refine z_iload_n (pc := 7) (x := p1) C dX1_canGoOnPile_7 (i := 1) rfl rfl ?_
  refine z_iconst (pc := 8) C dX1_canGoOnPile_8 ic_5 ?_
  refine z_irem (pc := 9) C dX1_canGoOnPile_9 (by decide) ?_
  refine z_icmp_ne (pc := 10) C dX1_canGoOnPile_10 (tgt := 17) (by decide) (fun hc => ?_) (fun hc => ?_)
  · replace h := (ite_e h).2 hc
    refine z_iconst (pc := 17) C dX1_canGoOnPile_17 ic_0 ?_
    exact z_zret C X dX1_canGoOnPile_18 rfl (by rw [← Option.some.inj h]; exact ⟨rfl, rfl⟩) (by decide) (by decide)
  · replace h := (ite_e h).1 hc
    refine z_iconst (pc := 13) C dX1_canGoOnPile_13 ic_1 ?_
    refine z_goto (pc := 14) C dX1_canGoOnPile_14 (tgt := 18) (by decide) ?_
    exact z_zret C X dX1_canGoOnPile_18 rfl (by rw [← Option.some.inj h]; exact ⟨rfl, rfl⟩) (by decide) (by decide)
def f_X1_returnToken (N : Nat) (s0 : Ob) (s1 : Ob) : Option (Ob) := (if (s1.1 4) ≤ (s0.1 2) then (some s0) else (znm (si s0 2 ((s0.1 2) + (1 : Int32))) fun y1 => (some (sa y1 7 (upd (y1.2.2.1 7) 4 (((s0.2.2.1 7) 4) + (1 : Int32)))))))
theorem m_X1_returnToken {g : Gp} {a0 : Nat} {r0 : Nat → Nat} {q0_0 : Nat} {r1 : Nat → Nat} {N : Nat} {s0 : Ob} {s1 : Ob} {res : Ob} (hg : Ok g) (h : f_X1_returnToken N s0 s1 = some res) : Ct g yX1_returnToken cX1_returnToken 1 none (zrm 0 0) [.ref a0] (wX1 g a0 r0 q0_0 s0 ++ wX5 g q0_0 r1 s1) (exR none (wX1 g a0 r0 q0_0 res ++ wX5 g q0_0 r1 s1)) := by
  refine ct_of rfl hg (by show _ ≤ _; exact Nat.le_of_ble_eq_true rfl) (fun K C X => ?_)
  show Zs K 0 0 (wX1 g a0 r0 q0_0 s0 ++ wX5 g q0_0 r1 s1) [(0, .ref a0)] 0 []
  unfold f_X1_returnToken at h
  refine z_aload_n (pc := 0) (x := a0) C dX1_returnToken_0 (i := 0) rfl rfl ?_
  refine z_get (pc := 1) (v := .int (s0.1 2)) C 0 dX1_returnToken_1 fl_RX1_46 rfl rfl ?_
  refine z_aload_n (pc := 4) (x := a0) C dX1_returnToken_4 (i := 0) rfl rfl ?_
  refine z_get (pc := 5) (v := .ref q0_0) C 0 dX1_returnToken_5 fl_RX1_38 rfl rfl ?_
  refine z_get (pc := 8) (v := .int (s1.1 4)) C 9 dX1_returnToken_8 fl_RX1_187 rfl rfl ?_
  refine z_icmp_ge (pc := 11) C dX1_returnToken_11 (tgt := 34) (by decide) (fun hc => ?_) (fun hc => ?_)
  · replace h := (ite_e h).1 hc
    exact z_vret C X dX1_returnToken_34 (by rw [← Option.some.inj h]; exact ⟨rfl, rfl⟩) (by decide) (by decide)
  · replace h := (ite_e h).2 hc
    refine z_aload_n (pc := 14) (x := a0) C dX1_returnToken_14 (i := 0) rfl rfl ?_
    refine z_dup (pc := 15) C dX1_returnToken_15 rfl ?_
    refine z_get (pc := 16) (v := .int (s0.1 2)) C 0 dX1_returnToken_16 fl_RX1_46 rfl rfl ?_
    refine z_iconst (pc := 19) C dX1_returnToken_19 ic_1 ?_
    refine z_iadd (pc := 20) C dX1_returnToken_20 ?_
    refine z_put (pc := 21) C 0 dX1_returnToken_21 fp_RX1_46 rfl rfl rfl (zlt_b rfl) (ws' := (wX1 g a0 r0 q0_0 (si s0 2 ((s0.1 2) + (1 : Int32))) ++ wX5 g q0_0 r1 s1)) rfl ?_
    refine z_aload_n (pc := 24) (x := a0) C dX1_returnToken_24 (i := 0) rfl rfl ?_
    refine z_get (pc := 25) (v := .ref (r0 7)) C 0 dX1_returnToken_25 fl_RX1_11 rfl rfl ?_
    refine z_iconst (pc := 28) C dX1_returnToken_28 ic_4 ?_
    refine z_dup2 (pc := 29) C dX1_returnToken_29 rfl rfl ?_
    refine z_iald (pc := 30) C 1 dX1_returnToken_30 rfl (by decide) ?_
    refine z_iconst (pc := 31) C dX1_returnToken_31 ic_1 ?_
    refine z_iadd (pc := 32) C dX1_returnToken_32 ?_
    replace h := znm_e h
    obtain ⟨y1, hy1, h⟩ := h
    refine z_wsE (ws' := (wX1 g a0 r0 q0_0 y1 ++ wX5 g q0_0 r1 s1)) (by rw [hy1]) ?_
    refine z_iast (pc := 33) C 1 dX1_returnToken_33 rfl (by decide) (ws' := (wX1 g a0 r0 q0_0 (sa y1 7 (upd (y1.2.2.1 7) 4 (((s0.2.2.1 7) 4) + (1 : Int32)))) ++ wX5 g q0_0 r1 s1)) rfl ?_
    exact z_vret C X dX1_returnToken_34 (by rw [← Option.some.inj h]; exact ⟨rfl, rfl⟩) (by decide) (by decide)
def f_X7_codeOf (N : Nat) (p0 : Int32) : Option (Int32) := (znm (((10 : Int32) * (p0 / (5 : Int32))) + (p0 - p0 / (5 : Int32) * (5 : Int32))) fun x1 => (some (x1 + (1 : Int32))))
theorem m_X7_codeOf {g : Gp}  {N : Nat} {p0 : Int32} {res : Int32} (hg : Ok g) (h : f_X7_codeOf N p0 = some res) : Ct g yX7_codeOf cX7_codeOf 1 (some .int) (zrm 0 0) [.int p0] ([] : va_W) (exR (some (.int res)) ([] : va_W)) := by
  refine ct_of rfl hg (by show _ ≤ _; exact Nat.le_of_ble_eq_true rfl) (fun K C X => ?_)
  show Zs K 0 0 ([] : va_W) [(0, .int p0)] 0 []
  unfold f_X7_codeOf at h
  refine z_bipush (pc := 0) C dX7_codeOf_0 bp_10 ?_
  refine z_iload_n (pc := 2) (x := p0) C dX7_codeOf_2 (i := 0) rfl rfl ?_
  refine z_iconst (pc := 3) C dX7_codeOf_3 ic_5 ?_
  refine z_idiv (pc := 4) C dX7_codeOf_4 (by decide) ?_
  refine z_imul (pc := 5) C dX7_codeOf_5 ?_
  refine z_iload_n (pc := 6) (x := p0) C dX7_codeOf_6 (i := 0) rfl rfl ?_
  refine z_iconst (pc := 7) C dX7_codeOf_7 ic_5 ?_
  refine z_irem (pc := 8) C dX7_codeOf_8 (by decide) ?_
  refine z_iadd (pc := 9) C dX7_codeOf_9 ?_
  replace h := znm_e h
  obtain ⟨x1, hx1, h⟩ := h
  refine z_top1 hx1 ?_
  refine z_iconst (pc := 10) C dX7_codeOf_10 ic_1 ?_
  refine z_iadd (pc := 11) C dX7_codeOf_11 ?_
  exact z_iret C X dX7_codeOf_12 (by rw [← Option.some.inj h]; exact ⟨rfl, rfl⟩) (by decide) (by decide)
def f_X1_writeLog (N : Nat) (s0 : Ob) (p1 : Int32) (p2 : Int32) (p3 : Int32) : Option (Ob) := (chk (inb (((s0.1 5) - (s0.1 5) / (30 : Int32) * (30 : Int32)) * (4 : Int32)) 120) (znm ((((s0.1 5) - (s0.1 5) / (30 : Int32) * (30 : Int32)) * (4 : Int32)) + (1 : Int32)) fun x2 => (znm (sa s0 15 (upd (s0.2.2.1 15) ((((s0.1 5) - (s0.1 5) / (30 : Int32) * (30 : Int32)) * (4 : Int32))).toNatClampNeg (s0.1 4))) fun y3 => (chk (inb x2 120) (znm ((((s0.1 5) - (s0.1 5) / (30 : Int32) * (30 : Int32)) * (4 : Int32)) + (2 : Int32)) fun x5 => (znm (sa y3 15 (upd (y3.2.2.1 15) (x2).toNatClampNeg p1)) fun y6 => (chk (inb x5 120) (znm ((((s0.1 5) - (s0.1 5) / (30 : Int32) * (30 : Int32)) * (4 : Int32)) + (3 : Int32)) fun x8 => (znm (sa y6 15 (upd (y6.2.2.1 15) (x5).toNatClampNeg p2)) fun y9 => (chk (inb x8 120) (some (sa y9 15 (upd (y9.2.2.1 15) (x8).toNatClampNeg p3)))))))))))))
theorem m_X1_writeLog {g : Gp} {a0 : Nat} {r0 : Nat → Nat} {q0_0 : Nat} {N : Nat} {s0 : Ob} {p1 : Int32} {p2 : Int32} {p3 : Int32} {res : Ob} (hg : Ok g) (h : f_X1_writeLog N s0 p1 p2 p3 = some res) : Ct g yX1_writeLog cX1_writeLog 5 none (zrm 0 0) [.ref a0, .int p1, .int p2, .int p3] (wX1 g a0 r0 q0_0 s0) (exR none (wX1 g a0 r0 q0_0 res)) := by
  refine ct_of rfl hg (by show _ ≤ _; exact Nat.le_of_ble_eq_true rfl) (fun K C X => ?_)
  show Zs K 0 0 (wX1 g a0 r0 q0_0 s0) [(0, .ref a0), (1, .int p1), (2, .int p2), (3, .int p3)] 0 []
  unfold f_X1_writeLog at h
  refine z_aload_n (pc := 0) (x := a0) C dX1_writeLog_0 (i := 0) rfl rfl ?_
  refine z_get (pc := 1) (v := .int (s0.1 5)) C 0 dX1_writeLog_1 fl_RX1_55 rfl rfl ?_
  refine z_bipush (pc := 4) C dX1_writeLog_4 bp_30 ?_
  refine z_irem (pc := 6) C dX1_writeLog_6 (by decide) ?_
  refine z_iconst (pc := 7) C dX1_writeLog_7 ic_4 ?_
  refine z_imul (pc := 8) C dX1_writeLog_8 ?_
  refine z_istore (pc := 9) C dX1_writeLog_9 (by decide) (lv' := [(4, .int (((s0.1 5) - (s0.1 5) / (30 : Int32) * (30 : Int32)) * (4 : Int32))), (0, .ref a0), (1, .int p1), (2, .int p2), (3, .int p3)]) rfl ?_
  refine z_aload_n (pc := 11) (x := a0) C dX1_writeLog_11 (i := 0) rfl rfl ?_
  refine z_get (pc := 12) (v := .ref (r0 15)) C 0 dX1_writeLog_12 fl_RX1_35 rfl rfl ?_
  refine z_iload (pc := 15) (x := (((s0.1 5) - (s0.1 5) / (30 : Int32) * (30 : Int32)) * (4 : Int32))) C dX1_writeLog_15 rfl ?_
  refine z_aload_n (pc := 17) (x := a0) C dX1_writeLog_17 (i := 0) rfl rfl ?_
  refine z_get (pc := 18) (v := .int (s0.1 4)) C 0 dX1_writeLog_18 fl_RX1_52 rfl rfl ?_
  replace h := chk_e h
  obtain ⟨hb1, h⟩ := h
  refine z_iast (pc := 21) C 8 dX1_writeLog_21 rfl hb1 (ws' := (wX1 g a0 r0 q0_0 (sa s0 15 (upd (s0.2.2.1 15) ((((s0.1 5) - (s0.1 5) / (30 : Int32) * (30 : Int32)) * (4 : Int32))).toNatClampNeg (s0.1 4))))) rfl ?_
  refine z_aload_n (pc := 22) (x := a0) C dX1_writeLog_22 (i := 0) rfl rfl ?_
  refine z_get (pc := 23) (v := .ref (r0 15)) C 0 dX1_writeLog_23 fl_RX1_35 rfl rfl ?_
  refine z_iload (pc := 26) (x := (((s0.1 5) - (s0.1 5) / (30 : Int32) * (30 : Int32)) * (4 : Int32))) C dX1_writeLog_26 rfl ?_
  refine z_iconst (pc := 28) C dX1_writeLog_28 ic_1 ?_
  refine z_iadd (pc := 29) C dX1_writeLog_29 ?_
  replace h := znm_e h
  obtain ⟨x2, hx2, h⟩ := h
  refine z_top1 hx2 ?_
  refine z_iload_n (pc := 30) (x := p1) C dX1_writeLog_30 (i := 1) rfl rfl ?_
  replace h := znm_e h
  obtain ⟨y3, hy3, h⟩ := h
  refine z_wsE (ws' := (wX1 g a0 r0 q0_0 y3)) (by rw [hy3]) ?_
  replace h := chk_e h
  obtain ⟨hb4, h⟩ := h
  refine z_iast (pc := 31) C 8 dX1_writeLog_31 rfl hb4 (ws' := (wX1 g a0 r0 q0_0 (sa y3 15 (upd (y3.2.2.1 15) (x2).toNatClampNeg p1)))) rfl ?_
  refine z_aload_n (pc := 32) (x := a0) C dX1_writeLog_32 (i := 0) rfl rfl ?_
  refine z_get (pc := 33) (v := .ref (r0 15)) C 0 dX1_writeLog_33 fl_RX1_35 rfl rfl ?_
  refine z_iload (pc := 36) (x := (((s0.1 5) - (s0.1 5) / (30 : Int32) * (30 : Int32)) * (4 : Int32))) C dX1_writeLog_36 rfl ?_
  refine z_iconst (pc := 38) C dX1_writeLog_38 ic_2 ?_
  refine z_iadd (pc := 39) C dX1_writeLog_39 ?_
  replace h := znm_e h
  obtain ⟨x5, hx5, h⟩ := h
  refine z_top1 hx5 ?_
  refine z_iload_n (pc := 40) (x := p2) C dX1_writeLog_40 (i := 2) rfl rfl ?_
  replace h := znm_e h
  obtain ⟨y6, hy6, h⟩ := h
  refine z_wsE (ws' := (wX1 g a0 r0 q0_0 y6)) (by rw [hy6]) ?_
  replace h := chk_e h
  obtain ⟨hb7, h⟩ := h
  refine z_iast (pc := 41) C 8 dX1_writeLog_41 rfl hb7 (ws' := (wX1 g a0 r0 q0_0 (sa y6 15 (upd (y6.2.2.1 15) (x5).toNatClampNeg p2)))) rfl ?_
  refine z_aload_n (pc := 42) (x := a0) C dX1_writeLog_42 (i := 0) rfl rfl ?_
  refine z_get (pc := 43) (v := .ref (r0 15)) C 0 dX1_writeLog_43 fl_RX1_35 rfl rfl ?_
  refine z_iload (pc := 46) (x := (((s0.1 5) - (s0.1 5) / (30 : Int32) * (30 : Int32)) * (4 : Int32))) C dX1_writeLog_46 rfl ?_
  refine z_iconst (pc := 48) C dX1_writeLog_48 ic_3 ?_
  refine z_iadd (pc := 49) C dX1_writeLog_49 ?_
  replace h := znm_e h
  obtain ⟨x8, hx8, h⟩ := h
  refine z_top1 hx8 ?_
  refine z_iload_n (pc := 50) (x := p3) C dX1_writeLog_50 (i := 3) rfl rfl ?_
  replace h := znm_e h
  obtain ⟨y9, hy9, h⟩ := h
  refine z_wsE (ws' := (wX1 g a0 r0 q0_0 y9)) (by rw [hy9]) ?_
  replace h := chk_e h
  obtain ⟨hb10, h⟩ := h
  refine z_iast (pc := 51) C 8 dX1_writeLog_51 rfl hb10 (ws' := (wX1 g a0 r0 q0_0 (sa y9 15 (upd (y9.2.2.1 15) (x8).toNatClampNeg p3)))) rfl ?_
  exact z_vret C X dX1_writeLog_52 (by rw [← Option.some.inj h]; exact ⟨rfl, rfl⟩) (by decide) (by decide)
def f_X1_notInHeap (N : Nat) (s0 : Ob) (s1 : Ob) (p1 : Int32) : Option (Int32) := (if p1 < 0 then (some (0 : Int32)) else (if (20 : Int32) ≤ p1 then (some (0 : Int32)) else (chk (inb p1 20) (chk (inb p1 20) (znm (((s1.2.2.1 9) (p1).toNatClampNeg) - ((s0.2.2.1 12) (p1).toNatClampNeg)) fun x3 => (some x3))))))
theorem m_X1_notInHeap {g : Gp} {a0 : Nat} {r0 : Nat → Nat} {q0_0 : Nat} {r1 : Nat → Nat} {N : Nat} {s0 : Ob} {s1 : Ob} {p1 : Int32} {res : Int32} (hg : Ok g) (h : f_X1_notInHeap N s0 s1 p1 = some res) : Ct g yX1_notInHeap cX1_notInHeap 2 (some .int) (zrm 0 0) [.ref a0, .int p1] (wX1 g a0 r0 q0_0 s0 ++ wX5 g q0_0 r1 s1) (exR (some (.int res)) (wX1 g a0 r0 q0_0 s0 ++ wX5 g q0_0 r1 s1)) := by
  refine ct_of rfl hg (by show _ ≤ _; exact Nat.le_of_ble_eq_true rfl) (fun K C X => ?_)
  show Zs K 0 0 (wX1 g a0 r0 q0_0 s0 ++ wX5 g q0_0 r1 s1) [(0, .ref a0), (1, .int p1)] 0 []
  unfold f_X1_notInHeap at h
  refine z_iload_n (pc := 0) (x := p1) C dX1_notInHeap_0 (i := 1) rfl rfl ?_
  refine z_if_lt (pc := 1) C dX1_notInHeap_1 (tgt := 29) (by decide) (fun hc => ?_) (fun hc => ?_)
  · replace h := (ite_e h).1 hc
    refine z_iconst (pc := 29) C dX1_notInHeap_29 ic_0 ?_
    exact z_iret C X dX1_notInHeap_30 (by rw [← Option.some.inj h]; exact ⟨rfl, rfl⟩) (by decide) (by decide)
  · replace h := (ite_e h).2 hc
    refine z_iload_n (pc := 4) (x := p1) C dX1_notInHeap_4 (i := 1) rfl rfl ?_
    refine z_bipush (pc := 5) C dX1_notInHeap_5 bp_20 ?_
    refine z_icmp_ge (pc := 7) C dX1_notInHeap_7 (tgt := 29) (by decide) (fun hc => ?_) (fun hc => ?_)
    · replace h := (ite_e h).1 hc
      refine z_iconst (pc := 29) C dX1_notInHeap_29 ic_0 ?_
      exact z_iret C X dX1_notInHeap_30 (by rw [← Option.some.inj h]; exact ⟨rfl, rfl⟩) (by decide) (by decide)
    · replace h := (ite_e h).2 hc
      refine z_aload_n (pc := 10) (x := a0) C dX1_notInHeap_10 (i := 0) rfl rfl ?_
      refine z_get (pc := 11) (v := .ref q0_0) C 0 dX1_notInHeap_11 fl_RX1_38 rfl rfl ?_
      refine z_get (pc := 14) (v := .ref (r1 9)) C 9 dX1_notInHeap_14 fl_RX1_130 rfl rfl ?_
      refine z_iload_n (pc := 17) (x := p1) C dX1_notInHeap_17 (i := 1) rfl rfl ?_
      replace h := chk_e h
      obtain ⟨hb1, h⟩ := h
      refine z_iald (pc := 18) C 11 dX1_notInHeap_18 rfl hb1 ?_
      refine z_aload_n (pc := 19) (x := a0) C dX1_notInHeap_19 (i := 0) rfl rfl ?_
      refine z_get (pc := 20) (v := .ref (r0 12)) C 0 dX1_notInHeap_20 fl_RX1_24 rfl rfl ?_
      refine z_iload_n (pc := 23) (x := p1) C dX1_notInHeap_23 (i := 1) rfl rfl ?_
      replace h := chk_e h
      obtain ⟨hb2, h⟩ := h
      refine z_iald (pc := 24) C 5 dX1_notInHeap_24 rfl hb2 ?_
      refine z_isub (pc := 25) C dX1_notInHeap_25 ?_
      replace h := znm_e h
      obtain ⟨x3, hx3, h⟩ := h
      refine z_top1 hx3 ?_
      refine z_goto (pc := 26) C dX1_notInHeap_26 (tgt := 30) (by decide) ?_
      exact z_iret C X dX1_notInHeap_30 (by rw [← Option.some.inj h]; exact ⟨rfl, rfl⟩) (by decide) (by decide)
def F_X1_reachableTop_27 (N : Nat) (s0 : Ob) (s1 : Ob) (p1 : Int32)  (k27 : Int32 → Int32 → Int32 → Option (Int32)) (v2 : Int32) (v3 : Int32) (v4 : Int32) : Option (Int32) := (if (v3 + (s1.1 1)) ≤ v4 then (some v2) else (if (20 : Int32) ≤ v4 then (some v2) else (chk (inb v4 20) (chk (inb v4 20) (if ((s1.2.2.1 9) (v4).toNatClampNeg) ≤ ((s0.2.2.1 12) (v4).toNatClampNeg) then (some v2) else (k27 (v2 + (1 : Int32)) v3 (v4 + (1 : Int32))))))))
def f_X1_reachableTop_27 (N : Nat) (s0 : Ob) (s1 : Ob) (p1 : Int32)  : Nat → Int32 → Int32 → Int32 → Option (Int32) := zlp (fun _ _ _ => none) (F_X1_reachableTop_27 N s0 s1 p1)
theorem m_X1_reachableTop_27 {K : Kt} {g : Gp} {a0 : Nat} {r0 : Nat → Nat} {q0_0 : Nat} {r1 : Nat → Nat} {N : Nat} {s0 : Ob} {s1 : Ob} {p1 : Int32} {res : Int32} (hg : Ok g) (C : Cx K g cX1_reachableTop RX1 5 (zrm 0 0)) (X : Rx K (exR (some (.int res)) (wX1 g a0 r0 q0_0 s0 ++ wX5 g q0_0 r1 s1)) 0 0 (some .int)) : ∀ (n : Nat) (v2 : Int32) (v3 : Int32) (v4 : Int32), f_X1_reachableTop_27 N s0 s1 p1 n v2 v3 v4 = some res → Zs K 0 0 (wX1 g a0 r0 q0_0 s0 ++ wX5 g q0_0 r1 s1) [(0, .ref a0), (2, .int v2), (3, .int v3), (4, .int v4)] 27 [] := by
  intro n
  induction n with
  | zero => intro v2 v3 v4 h; exact nomatch (show (none : Option (Int32)) = some res from h)
  | succ n hk27 =>
    intro v2 v3 v4 h
    replace h : F_X1_reachableTop_27 N s0 s1 p1 (f_X1_reachableTop_27 N s0 s1 p1 n) v2 v3 v4 = some res := h
    unfold F_X1_reachableTop_27 at h
    refine z_iload (pc := 27) (x := v4) C dX1_reachableTop_27 rfl ?_
    refine z_iload_n (pc := 29) (x := v3) C dX1_reachableTop_29 (i := 3) rfl rfl ?_
    refine z_aload_n (pc := 30) (x := a0) C dX1_reachableTop_30 (i := 0) rfl rfl ?_
    refine z_get (pc := 31) (v := .ref q0_0) C 0 dX1_reachableTop_31 fl_RX1_38 rfl rfl ?_
    refine z_get (pc := 34) (v := .int (s1.1 1)) C 9 dX1_reachableTop_34 fl_RX1_107 rfl rfl ?_
    refine z_iadd (pc := 37) C dX1_reachableTop_37 ?_
    refine z_icmp_ge (pc := 38) C dX1_reachableTop_38 (tgt := 77) (by decide) (fun hc => ?_) (fun hc => ?_)
    · replace h := (ite_e h).1 hc
      refine z_iload_n (pc := 77) (x := v2) C dX1_reachableTop_77 (i := 2) rfl rfl ?_
      exact z_iret C X dX1_reachableTop_78 (by rw [← Option.some.inj h]; exact ⟨rfl, rfl⟩) (by decide) (by decide)
    · replace h := (ite_e h).2 hc
      refine z_iload (pc := 41) (x := v4) C dX1_reachableTop_41 rfl ?_
      refine z_bipush (pc := 43) C dX1_reachableTop_43 bp_20 ?_
      refine z_icmp_ge (pc := 45) C dX1_reachableTop_45 (tgt := 77) (by decide) (fun hc => ?_) (fun hc => ?_)
      · replace h := (ite_e h).1 hc
        refine z_iload_n (pc := 77) (x := v2) C dX1_reachableTop_77 (i := 2) rfl rfl ?_
        exact z_iret C X dX1_reachableTop_78 (by rw [← Option.some.inj h]; exact ⟨rfl, rfl⟩) (by decide) (by decide)
      · replace h := (ite_e h).2 hc
        refine z_aload_n (pc := 48) (x := a0) C dX1_reachableTop_48 (i := 0) rfl rfl ?_
        refine z_get (pc := 49) (v := .ref (r0 12)) C 0 dX1_reachableTop_49 fl_RX1_24 rfl rfl ?_
        refine z_iload (pc := 52) (x := v4) C dX1_reachableTop_52 rfl ?_
        replace h := chk_e h
        obtain ⟨hb2, h⟩ := h
        refine z_iald (pc := 54) C 5 dX1_reachableTop_54 rfl hb2 ?_
        refine z_aload_n (pc := 55) (x := a0) C dX1_reachableTop_55 (i := 0) rfl rfl ?_
        refine z_get (pc := 56) (v := .ref q0_0) C 0 dX1_reachableTop_56 fl_RX1_38 rfl rfl ?_
        refine z_get (pc := 59) (v := .ref (r1 9)) C 9 dX1_reachableTop_59 fl_RX1_130 rfl rfl ?_
        refine z_iload (pc := 62) (x := v4) C dX1_reachableTop_62 rfl ?_
        replace h := chk_e h
        obtain ⟨hb3, h⟩ := h
        refine z_iald (pc := 64) C 11 dX1_reachableTop_64 rfl hb3 ?_
        refine z_icmp_ge (pc := 65) C dX1_reachableTop_65 (tgt := 77) (by decide) (fun hc => ?_) (fun hc => ?_)
        · replace h := (ite_e h).1 hc
          refine z_iload_n (pc := 77) (x := v2) C dX1_reachableTop_77 (i := 2) rfl rfl ?_
          exact z_iret C X dX1_reachableTop_78 (by rw [← Option.some.inj h]; exact ⟨rfl, rfl⟩) (by decide) (by decide)
        · replace h := (ite_e h).2 hc
          refine z_iinc (pc := 68) C dX1_reachableTop_68 rfl (inc_e 1 (1 : Int32) ic_1 v2) (by decide) (lv' := [(2, .int (v2 + (1 : Int32))), (0, .ref a0), (3, .int v3), (4, .int v4)]) rfl ?_
          refine z_iinc (pc := 71) C dX1_reachableTop_71 rfl (inc_e 1 (1 : Int32) ic_1 v4) (by decide) (lv' := [(4, .int (v4 + (1 : Int32))), (2, .int (v2 + (1 : Int32))), (0, .ref a0), (3, .int v3)]) rfl ?_
          refine z_goto (pc := 74) C dX1_reachableTop_74 (tgt := 27) (by decide) ?_
          refine z_lv (lv' := [(0, .ref a0), (2, .int (v2 + (1 : Int32))), (3, .int v3), (4, .int (v4 + (1 : Int32)))]) [2, 1, 3, 0] rfl ?_
          exact hk27 (v2 + (1 : Int32)) v3 (v4 + (1 : Int32)) h
def f_X1_reachableTop (N : Nat) (s0 : Ob) (s1 : Ob) (p1 : Int32) : Option (Int32) := (if p1 < 0 then (some (0 : Int32)) else (if p1 < (4 : Int32) then (chk (inb p1 4) (f_X1_reachableTop_27 N s0 s1 p1 N ((s0.2.2.1 11) (p1).toNatClampNeg) (p1 * (5 : Int32)) ((p1 * (5 : Int32)) + ((s0.2.2.1 11) (p1).toNatClampNeg)))) else (some (0 : Int32))))
theorem m_X1_reachableTop {g : Gp} {a0 : Nat} {r0 : Nat → Nat} {q0_0 : Nat} {r1 : Nat → Nat} {N : Nat} {s0 : Ob} {s1 : Ob} {p1 : Int32} {res : Int32} (hg : Ok g) (h : f_X1_reachableTop N s0 s1 p1 = some res) : Ct g yX1_reachableTop cX1_reachableTop 5 (some .int) (zrm 0 0) [.ref a0, .int p1] (wX1 g a0 r0 q0_0 s0 ++ wX5 g q0_0 r1 s1) (exR (some (.int res)) (wX1 g a0 r0 q0_0 s0 ++ wX5 g q0_0 r1 s1)) := by
  refine ct_of rfl hg (by show _ ≤ _; exact Nat.le_of_ble_eq_true rfl) (fun K C X => ?_)
  show Zs K 0 0 (wX1 g a0 r0 q0_0 s0 ++ wX5 g q0_0 r1 s1) [(0, .ref a0), (1, .int p1)] 0 []
  unfold f_X1_reachableTop at h
  refine z_iload_n (pc := 0) (x := p1) C dX1_reachableTop_0 (i := 1) rfl rfl ?_
  refine z_if_lt (pc := 1) C dX1_reachableTop_1 (tgt := 9) (by decide) (fun hc => ?_) (fun hc => ?_)
  · replace h := (ite_e h).1 hc
    refine z_iconst (pc := 9) C dX1_reachableTop_9 ic_0 ?_
    exact z_iret C X dX1_reachableTop_10 (by rw [← Option.some.inj h]; exact ⟨rfl, rfl⟩) (by decide) (by decide)
  · replace h := (ite_e h).2 hc
    refine z_iload_n (pc := 4) (x := p1) C dX1_reachableTop_4 (i := 1) rfl rfl ?_
    refine z_iconst (pc := 5) C dX1_reachableTop_5 ic_4 ?_
    refine z_icmp_lt (pc := 6) C dX1_reachableTop_6 (tgt := 11) (by decide) (fun hc => ?_) (fun hc => ?_)
    · replace h := (ite_e h).1 hc
      refine z_aload_n (pc := 11) (x := a0) C dX1_reachableTop_11 (i := 0) rfl rfl ?_
      refine z_get (pc := 12) (v := .ref (r0 11)) C 0 dX1_reachableTop_12 fl_RX1_21 rfl rfl ?_
      refine z_iload_n (pc := 15) (x := p1) C dX1_reachableTop_15 (i := 1) rfl rfl ?_
      replace h := chk_e h
      obtain ⟨hb1, h⟩ := h
      refine z_iald (pc := 16) C 4 dX1_reachableTop_16 rfl hb1 ?_
      refine z_istore_n (pc := 17) C dX1_reachableTop_17 (i := 2) rfl (by decide) (lv' := [(2, .int ((s0.2.2.1 11) (p1).toNatClampNeg)), (0, .ref a0), (1, .int p1)]) rfl ?_
      refine z_iload_n (pc := 18) (x := p1) C dX1_reachableTop_18 (i := 1) rfl rfl ?_
      refine z_iconst (pc := 19) C dX1_reachableTop_19 ic_5 ?_
      refine z_imul (pc := 20) C dX1_reachableTop_20 ?_
      refine z_istore_n (pc := 21) C dX1_reachableTop_21 (i := 3) rfl (by decide) (lv' := [(3, .int (p1 * (5 : Int32))), (2, .int ((s0.2.2.1 11) (p1).toNatClampNeg)), (0, .ref a0), (1, .int p1)]) rfl ?_
      refine z_iload_n (pc := 22) (x := (p1 * (5 : Int32))) C dX1_reachableTop_22 (i := 3) rfl rfl ?_
      refine z_iload_n (pc := 23) (x := ((s0.2.2.1 11) (p1).toNatClampNeg)) C dX1_reachableTop_23 (i := 2) rfl rfl ?_
      refine z_iadd (pc := 24) C dX1_reachableTop_24 ?_
      refine z_istore (pc := 25) C dX1_reachableTop_25 (by decide) (lv' := [(4, .int ((p1 * (5 : Int32)) + ((s0.2.2.1 11) (p1).toNatClampNeg))), (3, .int (p1 * (5 : Int32))), (2, .int ((s0.2.2.1 11) (p1).toNatClampNeg)), (0, .ref a0), (1, .int p1)]) rfl ?_
      refine z_lv (lv' := [(0, .ref a0), (2, .int ((s0.2.2.1 11) (p1).toNatClampNeg)), (3, .int (p1 * (5 : Int32))), (4, .int ((p1 * (5 : Int32)) + ((s0.2.2.1 11) (p1).toNatClampNeg)))]) [3, 2, 1, 0] rfl ?_
      exact m_X1_reachableTop_27 (a0 := a0) (r0 := r0) (q0_0 := q0_0) (r1 := r1) hg C X N ((s0.2.2.1 11) (p1).toNatClampNeg) (p1 * (5 : Int32)) ((p1 * (5 : Int32)) + ((s0.2.2.1 11) (p1).toNatClampNeg)) h
    · replace h := (ite_e h).2 hc
      refine z_iconst (pc := 9) C dX1_reachableTop_9 ic_0 ?_
      exact z_iret C X dX1_reachableTop_10 (by rw [← Option.some.inj h]; exact ⟨rfl, rfl⟩) (by decide) (by decide)
def f_X1_isOfUse (N : Nat) (s0 : Ob) (s1 : Ob) (p1 : Int32) : Option (Int32) := (ob (f_X1_topOf N s0 (p1 / (5 : Int32))) fun x1 => (if (p1 - p1 / (5 : Int32) * (5 : Int32)) < x1 then (some (0 : Int32)) else (ob (f_X1_reachableTop N s0 s1 (p1 / (5 : Int32))) fun x2 => (if x2 ≤ (p1 - p1 / (5 : Int32) * (5 : Int32)) then (some (0 : Int32)) else (some (1 : Int32))))))
theorem m_X1_isOfUse {g : Gp} {a0 : Nat} {r0 : Nat → Nat} {q0_0 : Nat} {r1 : Nat → Nat} {N : Nat} {s0 : Ob} {s1 : Ob} {p1 : Int32} {res : Int32} (hg : Ok g) (h : f_X1_isOfUse N s0 s1 p1 = some res) : Ct g yX1_isOfUse cX1_isOfUse 4 (some .boolean) (zrm 1 24) [.ref a0, .int p1] (wX1 g a0 r0 q0_0 s0 ++ wX5 g q0_0 r1 s1) (exR (some (.int res)) (wX1 g a0 r0 q0_0 s0 ++ wX5 g q0_0 r1 s1)) := by
  refine ct_of rfl hg (by show _ ≤ _; exact Nat.le_of_ble_eq_true rfl) (fun K C X => ?_)
  show Zs K 0 0 (wX1 g a0 r0 q0_0 s0 ++ wX5 g q0_0 r1 s1) [(0, .ref a0), (1, .int p1)] 0 []
  unfold f_X1_isOfUse at h
  refine z_iload_n (pc := 0) (x := p1) C dX1_isOfUse_0 (i := 1) rfl rfl ?_
  refine z_iconst (pc := 1) C dX1_isOfUse_1 ic_5 ?_
  refine z_irem (pc := 2) C dX1_isOfUse_2 (by decide) ?_
  refine z_istore_n (pc := 3) C dX1_isOfUse_3 (i := 2) rfl (by decide) (lv' := [(2, .int (p1 - p1 / (5 : Int32) * (5 : Int32))), (0, .ref a0), (1, .int p1)]) rfl ?_
  refine z_iload_n (pc := 4) (x := p1) C dX1_isOfUse_4 (i := 1) rfl rfl ?_
  refine z_iconst (pc := 5) C dX1_isOfUse_5 ic_5 ?_
  refine z_idiv (pc := 6) C dX1_isOfUse_6 (by decide) ?_
  refine z_istore_n (pc := 7) C dX1_isOfUse_7 (i := 3) rfl (by decide) (lv' := [(3, .int (p1 / (5 : Int32))), (2, .int (p1 - p1 / (5 : Int32) * (5 : Int32))), (0, .ref a0), (1, .int p1)]) rfl ?_
  refine z_iload_n (pc := 8) (x := (p1 - p1 / (5 : Int32) * (5 : Int32))) C dX1_isOfUse_8 (i := 2) rfl rfl ?_
  refine z_aload_n (pc := 9) (x := a0) C dX1_isOfUse_9 (i := 0) rfl rfl ?_
  refine z_iload_n (pc := 10) (x := (p1 / (5 : Int32))) C dX1_isOfUse_10 (i := 3) rfl rfl ?_
  replace h := ob_e h
  obtain ⟨x1, hx1, h⟩ := h
  refine z_callV (pc := 11) (As := [.int (p1 / (5 : Int32))]) (rest := [.int (p1 - p1 / (5 : Int32) * (5 : Int32))]) (wr := (wX5 g q0_0 r1 s1)) C dX1_isOfUse_11 ml_RX1_133 wv_X1_topOf (m_X1_topOf (a0 := a0) (r0 := r0) (q0_0 := q0_0) hg hx1) [0, 1, 2, 3, 4, 5, 6, 7, 8] [9, 10, 11, 12] rfl rfl ⟨by decide, by decide⟩ (Nat.le_of_ble_eq_true rfl) ⟨by decide, by decide⟩ rfl rfl rfl rfl rfl rfl rfl (by decide) (ex_k C (cs' := 0) (ss' := 0) (wF := (wX1 g a0 r0 q0_0 s0 ++ wX5 g q0_0 r1 s1)) [4, 5, 6, 7, 8, 9, 10, 11, 12, 0, 1, 2, 3] rfl rfl ?_)
  refine z_icmp_lt (pc := 14) C dX1_isOfUse_14 (tgt := 30) (by decide) (fun hc => ?_) (fun hc => ?_)
  · replace h := (ite_e h).1 hc
    refine z_iconst (pc := 30) C dX1_isOfUse_30 ic_0 ?_
    exact z_zret C X dX1_isOfUse_31 rfl (by rw [← Option.some.inj h]; exact ⟨rfl, rfl⟩) (by decide) (by decide)
  · replace h := (ite_e h).2 hc
    refine z_iload_n (pc := 17) (x := (p1 - p1 / (5 : Int32) * (5 : Int32))) C dX1_isOfUse_17 (i := 2) rfl rfl ?_
    refine z_aload_n (pc := 18) (x := a0) C dX1_isOfUse_18 (i := 0) rfl rfl ?_
    refine z_iload_n (pc := 19) (x := (p1 / (5 : Int32))) C dX1_isOfUse_19 (i := 3) rfl rfl ?_
    replace h := ob_e h
    obtain ⟨x2, hx2, h⟩ := h
    refine z_callV (pc := 20) (As := [.int (p1 / (5 : Int32))]) (rest := [.int (p1 - p1 / (5 : Int32) * (5 : Int32))]) (wr := ([] : va_W)) C dX1_isOfUse_20 ml_RX1_136 wv_X1_reachableTop (m_X1_reachableTop (a0 := a0) (r0 := r0) (q0_0 := q0_0) (r1 := r1) hg hx2) [0, 1, 2, 3, 4, 5, 6, 7, 8, 9, 10, 11, 12] [] rfl rfl ⟨by decide, by decide⟩ (Nat.le_of_ble_eq_true rfl) ⟨by decide, by decide⟩ rfl rfl rfl rfl rfl rfl rfl (by decide) (ex_k C (cs' := 0) (ss' := 0) (wF := (wX1 g a0 r0 q0_0 s0 ++ wX5 g q0_0 r1 s1)) [0, 1, 2, 3, 4, 5, 6, 7, 8, 9, 10, 11, 12] rfl rfl ?_)
    refine z_icmp_ge (pc := 23) C dX1_isOfUse_23 (tgt := 30) (by decide) (fun hc => ?_) (fun hc => ?_)
    · replace h := (ite_e h).1 hc
      refine z_iconst (pc := 30) C dX1_isOfUse_30 ic_0 ?_
      exact z_zret C X dX1_isOfUse_31 rfl (by rw [← Option.some.inj h]; exact ⟨rfl, rfl⟩) (by decide) (by decide)
    · replace h := (ite_e h).2 hc
      refine z_iconst (pc := 26) C dX1_isOfUse_26 ic_1 ?_
      refine z_goto (pc := 27) C dX1_isOfUse_27 (tgt := 31) (by decide) ?_
      exact z_zret C X dX1_isOfUse_31 rfl (by rw [← Option.some.inj h]; exact ⟨rfl, rfl⟩) (by decide) (by decide)
def f_X1_isLastOne (N : Nat) (s0 : Ob) (s1 : Ob) (p1 : Int32) : Option (Int32) := (ob (f_X1_notInHeap N s0 s1 p1) fun x1 => (if x1 = (1 : Int32) then (ob (f_X1_isOfUse N s0 s1 p1) fun x2 => (if x2 = 0 then (some (0 : Int32)) else (some (1 : Int32)))) else (some (0 : Int32))))
theorem m_X1_isLastOne {g : Gp} {a0 : Nat} {r0 : Nat → Nat} {q0_0 : Nat} {r1 : Nat → Nat} {N : Nat} {s0 : Ob} {s1 : Ob} {p1 : Int32} {res : Int32} (hg : Ok g) (h : f_X1_isLastOne N s0 s1 p1 = some res) : Ct g yX1_isLastOne cX1_isLastOne 2 (some .boolean) (zrm 2 47) [.ref a0, .int p1] (wX1 g a0 r0 q0_0 s0 ++ wX5 g q0_0 r1 s1) (exR (some (.int res)) (wX1 g a0 r0 q0_0 s0 ++ wX5 g q0_0 r1 s1)) := by
  refine ct_of rfl hg (by show _ ≤ _; exact Nat.le_of_ble_eq_true rfl) (fun K C X => ?_)
  show Zs K 0 0 (wX1 g a0 r0 q0_0 s0 ++ wX5 g q0_0 r1 s1) [(0, .ref a0), (1, .int p1)] 0 []
  unfold f_X1_isLastOne at h
  refine z_aload_n (pc := 0) (x := a0) C dX1_isLastOne_0 (i := 0) rfl rfl ?_
  refine z_iload_n (pc := 1) (x := p1) C dX1_isLastOne_1 (i := 1) rfl rfl ?_
  replace h := ob_e h
  obtain ⟨x1, hx1, h⟩ := h
  refine z_callV (pc := 2) (As := [.int p1]) (rest := []) (wr := ([] : va_W)) C dX1_isLastOne_2 ml_RX1_139 wv_X1_notInHeap (m_X1_notInHeap (a0 := a0) (r0 := r0) (q0_0 := q0_0) (r1 := r1) hg hx1) [0, 1, 2, 3, 4, 5, 6, 7, 8, 9, 10, 11, 12] [] rfl rfl ⟨by decide, by decide⟩ (Nat.le_of_ble_eq_true rfl) ⟨by decide, by decide⟩ rfl rfl rfl rfl rfl rfl rfl (by decide) (ex_k C (cs' := 0) (ss' := 0) (wF := (wX1 g a0 r0 q0_0 s0 ++ wX5 g q0_0 r1 s1)) [0, 1, 2, 3, 4, 5, 6, 7, 8, 9, 10, 11, 12] rfl rfl ?_)
  refine z_iconst (pc := 5) C dX1_isLastOne_5 ic_1 ?_
  refine z_icmp_ne (pc := 6) C dX1_isLastOne_6 (tgt := 21) (by decide) (fun hc => ?_) (fun hc => ?_)
  · replace h := (ite_e h).2 hc
    refine z_iconst (pc := 21) C dX1_isLastOne_21 ic_0 ?_
    exact z_zret C X dX1_isLastOne_22 rfl (by rw [← Option.some.inj h]; exact ⟨rfl, rfl⟩) (by decide) (by decide)
  · replace h := (ite_e h).1 hc
    refine z_aload_n (pc := 9) (x := a0) C dX1_isLastOne_9 (i := 0) rfl rfl ?_
    refine z_iload_n (pc := 10) (x := p1) C dX1_isLastOne_10 (i := 1) rfl rfl ?_
    replace h := ob_e h
    obtain ⟨x2, hx2, h⟩ := h
    refine z_callV (pc := 11) (As := [.int p1]) (rest := []) (wr := ([] : va_W)) C dX1_isLastOne_11 ml_RX1_142 wv_X1_isOfUse (m_X1_isOfUse (a0 := a0) (r0 := r0) (q0_0 := q0_0) (r1 := r1) hg hx2) [0, 1, 2, 3, 4, 5, 6, 7, 8, 9, 10, 11, 12] [] rfl rfl ⟨by decide, by decide⟩ (Nat.le_of_ble_eq_true rfl) ⟨by decide, by decide⟩ rfl rfl rfl rfl rfl rfl rfl (by decide) (ex_k C (cs' := 0) (ss' := 0) (wF := (wX1 g a0 r0 q0_0 s0 ++ wX5 g q0_0 r1 s1)) [0, 1, 2, 3, 4, 5, 6, 7, 8, 9, 10, 11, 12] rfl rfl ?_)
    refine z_if_eq (pc := 14) C dX1_isLastOne_14 (tgt := 21) (by decide) (fun hc => ?_) (fun hc => ?_)
    · replace h := (ite_e h).1 hc
      refine z_iconst (pc := 21) C dX1_isLastOne_21 ic_0 ?_
      exact z_zret C X dX1_isLastOne_22 rfl (by rw [← Option.some.inj h]; exact ⟨rfl, rfl⟩) (by decide) (by decide)
    · replace h := (ite_e h).2 hc
      refine z_iconst (pc := 17) C dX1_isLastOne_17 ic_1 ?_
      refine z_goto (pc := 18) C dX1_isLastOne_18 (tgt := 22) (by decide) ?_
      exact z_zret C X dX1_isLastOne_22 rfl (by rw [← Option.some.inj h]; exact ⟨rfl, rfl⟩) (by decide) (by decide)
def f_X1_putOnHeap_19 (N : Nat) (s1 : Ob) (p1 : Int32)  (s0 : Ob) : Option (Ob) := (chk (inb p1 20) (chk (inb p1 20) (some (sa s0 12 (upd (s0.2.2.1 12) (p1).toNatClampNeg (((s0.2.2.1 12) (p1).toNatClampNeg) + (1 : Int32)))))))
theorem m_X1_putOnHeap_19 {K : Kt} {g : Gp} {a0 : Nat} {r0 : Nat → Nat} {q0_0 : Nat} {r1 : Nat → Nat} {N : Nat} {s1 : Ob} {p1 : Int32} {res : Ob} (hg : Ok g) (C : Cx K g cX1_putOnHeap RX1 2 (zrm 3 68)) (X : Rx K (exR none (wX1 g a0 r0 q0_0 res ++ wX5 g q0_0 r1 s1)) 0 0 none) (s0 : Ob) (h : f_X1_putOnHeap_19 N s1 p1 s0 = some res) : Zs K 0 0 (wX1 g a0 r0 q0_0 s0 ++ wX5 g q0_0 r1 s1) [(0, .ref a0), (1, .int p1)] 19 [] := by
  unfold f_X1_putOnHeap_19 at h
  refine z_aload_n (pc := 19) (x := a0) C dX1_putOnHeap_19 (i := 0) rfl rfl ?_
  refine z_get (pc := 20) (v := .ref (r0 12)) C 0 dX1_putOnHeap_20 fl_RX1_24 rfl rfl ?_
  refine z_iload_n (pc := 23) (x := p1) C dX1_putOnHeap_23 (i := 1) rfl rfl ?_
  refine z_dup2 (pc := 24) C dX1_putOnHeap_24 rfl rfl ?_
  replace h := chk_e h
  obtain ⟨hb2, h⟩ := h
  refine z_iald (pc := 25) C 5 dX1_putOnHeap_25 rfl hb2 ?_
  refine z_iconst (pc := 26) C dX1_putOnHeap_26 ic_1 ?_
  refine z_iadd (pc := 27) C dX1_putOnHeap_27 ?_
  replace h := chk_e h
  obtain ⟨hb3, h⟩ := h
  refine z_iast (pc := 28) C 5 dX1_putOnHeap_28 rfl hb3 (ws' := (wX1 g a0 r0 q0_0 (sa s0 12 (upd (s0.2.2.1 12) (p1).toNatClampNeg (((s0.2.2.1 12) (p1).toNatClampNeg) + (1 : Int32)))) ++ wX5 g q0_0 r1 s1)) rfl ?_
  exact z_vret C X dX1_putOnHeap_29 (by rw [← Option.some.inj h]; exact ⟨rfl, rfl⟩) (by decide) (by decide)
def f_X1_putOnHeap (N : Nat) (s0 : Ob) (s1 : Ob) (p1 : Int32) : Option (Ob) := (ob (f_X1_isLastOne N s0 s1 p1) fun x1 => (if x1 = 0 then (f_X1_putOnHeap_19 N s1 p1 s0) else (f_X1_putOnHeap_19 N s1 p1 (sa s0 7 (upd (s0.2.2.1 7) 6 (((s0.2.2.1 7) 6) + (1 : Int32)))))))
theorem m_X1_putOnHeap {g : Gp} {a0 : Nat} {r0 : Nat → Nat} {q0_0 : Nat} {r1 : Nat → Nat} {N : Nat} {s0 : Ob} {s1 : Ob} {p1 : Int32} {res : Ob} (hg : Ok g) (h : f_X1_putOnHeap N s0 s1 p1 = some res) : Ct g yX1_putOnHeap cX1_putOnHeap 2 none (zrm 3 68) [.ref a0, .int p1] (wX1 g a0 r0 q0_0 s0 ++ wX5 g q0_0 r1 s1) (exR none (wX1 g a0 r0 q0_0 res ++ wX5 g q0_0 r1 s1)) := by
  refine ct_of rfl hg (by show _ ≤ _; exact Nat.le_of_ble_eq_true rfl) (fun K C X => ?_)
  show Zs K 0 0 (wX1 g a0 r0 q0_0 s0 ++ wX5 g q0_0 r1 s1) [(0, .ref a0), (1, .int p1)] 0 []
  unfold f_X1_putOnHeap at h
  refine z_aload_n (pc := 0) (x := a0) C dX1_putOnHeap_0 (i := 0) rfl rfl ?_
  refine z_iload_n (pc := 1) (x := p1) C dX1_putOnHeap_1 (i := 1) rfl rfl ?_
  replace h := ob_e h
  obtain ⟨x1, hx1, h⟩ := h
  refine z_callV (pc := 2) (As := [.int p1]) (rest := []) (wr := ([] : va_W)) C dX1_putOnHeap_2 ml_RX1_184 wv_X1_isLastOne (m_X1_isLastOne (a0 := a0) (r0 := r0) (q0_0 := q0_0) (r1 := r1) hg hx1) [0, 1, 2, 3, 4, 5, 6, 7, 8, 9, 10, 11, 12] [] rfl rfl ⟨by decide, by decide⟩ (Nat.le_of_ble_eq_true rfl) ⟨by decide, by decide⟩ rfl rfl rfl rfl rfl rfl rfl (by decide) (ex_k C (cs' := 0) (ss' := 0) (wF := (wX1 g a0 r0 q0_0 s0 ++ wX5 g q0_0 r1 s1)) [0, 1, 2, 3, 4, 5, 6, 7, 8, 9, 10, 11, 12] rfl rfl ?_)
  refine z_if_eq (pc := 5) C dX1_putOnHeap_5 (tgt := 19) (by decide) (fun hc => ?_) (fun hc => ?_)
  · replace h := (ite_e h).1 hc
    exact m_X1_putOnHeap_19 (a0 := a0) (r0 := r0) (q0_0 := q0_0) (r1 := r1) hg C X s0 h
  · replace h := (ite_e h).2 hc
    refine z_aload_n (pc := 8) (x := a0) C dX1_putOnHeap_8 (i := 0) rfl rfl ?_
    refine z_get (pc := 9) (v := .ref (r0 7)) C 0 dX1_putOnHeap_9 fl_RX1_11 rfl rfl ?_
    refine z_bipush (pc := 12) C dX1_putOnHeap_12 bp_6 ?_
    refine z_dup2 (pc := 14) C dX1_putOnHeap_14 rfl rfl ?_
    refine z_iald (pc := 15) C 1 dX1_putOnHeap_15 rfl (by decide) ?_
    refine z_iconst (pc := 16) C dX1_putOnHeap_16 ic_1 ?_
    refine z_iadd (pc := 17) C dX1_putOnHeap_17 ?_
    refine z_iast (pc := 18) C 1 dX1_putOnHeap_18 rfl (by decide) (ws' := (wX1 g a0 r0 q0_0 (sa s0 7 (upd (s0.2.2.1 7) 6 (((s0.2.2.1 7) 6) + (1 : Int32)))) ++ wX5 g q0_0 r1 s1)) rfl ?_
    exact m_X1_putOnHeap_19 (a0 := a0) (r0 := r0) (q0_0 := q0_0) (r1 := r1) hg C X (sa s0 7 (upd (s0.2.2.1 7) 6 (((s0.2.2.1 7) 6) + (1 : Int32)))) h
def f_X1_sizeOf (N : Nat) (s0 : Ob) (p1 : Int32) : Option (Int32) := (if p1 < 0 then (some (0 : Int32)) else (if (4 : Int32) ≤ p1 then (some (0 : Int32)) else (chk (inb p1 4) (some ((s0.2.2.1 10) (p1).toNatClampNeg)))))
theorem m_X1_sizeOf {g : Gp} {a0 : Nat} {r0 : Nat → Nat} {q0_0 : Nat} {N : Nat} {s0 : Ob} {p1 : Int32} {res : Int32} (hg : Ok g) (h : f_X1_sizeOf N s0 p1 = some res) : Ct g yX1_sizeOf cX1_sizeOf 2 (some .int) (zrm 0 0) [.ref a0, .int p1] (wX1 g a0 r0 q0_0 s0) (exR (some (.int res)) (wX1 g a0 r0 q0_0 s0)) := by
  refine ct_of rfl hg (by show _ ≤ _; exact Nat.le_of_ble_eq_true rfl) (fun K C X => ?_)
  show Zs K 0 0 (wX1 g a0 r0 q0_0 s0) [(0, .ref a0), (1, .int p1)] 0 []
  unfold f_X1_sizeOf at h
  refine z_iload_n (pc := 0) (x := p1) C dX1_sizeOf_0 (i := 1) rfl rfl ?_
  refine z_if_lt (pc := 1) C dX1_sizeOf_1 (tgt := 18) (by decide) (fun hc => ?_) (fun hc => ?_)
  · replace h := (ite_e h).1 hc
    refine z_iconst (pc := 18) C dX1_sizeOf_18 ic_0 ?_
    exact z_iret C X dX1_sizeOf_19 (by rw [← Option.some.inj h]; exact ⟨rfl, rfl⟩) (by decide) (by decide)
  · replace h := (ite_e h).2 hc
    refine z_iload_n (pc := 4) (x := p1) C dX1_sizeOf_4 (i := 1) rfl rfl ?_
    refine z_iconst (pc := 5) C dX1_sizeOf_5 ic_4 ?_
    refine z_icmp_ge (pc := 6) C dX1_sizeOf_6 (tgt := 18) (by decide) (fun hc => ?_) (fun hc => ?_)
    · replace h := (ite_e h).1 hc
      refine z_iconst (pc := 18) C dX1_sizeOf_18 ic_0 ?_
      exact z_iret C X dX1_sizeOf_19 (by rw [← Option.some.inj h]; exact ⟨rfl, rfl⟩) (by decide) (by decide)
    · replace h := (ite_e h).2 hc
      refine z_aload_n (pc := 9) (x := a0) C dX1_sizeOf_9 (i := 0) rfl rfl ?_
      refine z_get (pc := 10) (v := .ref (r0 10)) C 0 dX1_sizeOf_10 fl_RX1_18 rfl rfl ?_
      refine z_iload_n (pc := 13) (x := p1) C dX1_sizeOf_13 (i := 1) rfl rfl ?_
      replace h := chk_e h
      obtain ⟨hb1, h⟩ := h
      refine z_iald (pc := 14) C 3 dX1_sizeOf_14 rfl hb1 ?_
      refine z_goto (pc := 15) C dX1_sizeOf_15 (tgt := 19) (by decide) ?_
      exact z_iret C X dX1_sizeOf_19 (by rw [← Option.some.inj h]; exact ⟨rfl, rfl⟩) (by decide) (by decide)
def f_X1_drawCard (N : Nat) (s0 : Ob) (s1 : Ob) (p1 : Int32) : Option (Ob) := (ob (f_X1_sizeOf N s0 p1) fun x1 => (if (s1.1 7) ≤ (s0.1 1) then (some s0) else (if (4 : Int32) ≤ p1 then (some s0) else (if (5 : Int32) ≤ x1 then (some s0) else (chk (inb ((p1 * (5 : Int32)) + x1) 20) (chk (inb p1 4) (znm (sa s0 9 (upd (s0.2.2.1 9) (((p1 * (5 : Int32)) + x1)).toNatClampNeg (s0.1 1))) fun y4 => (chk (inb p1 4) (znm (sa y4 10 (upd (y4.2.2.1 10) (p1).toNatClampNeg (((s0.2.2.1 10) (p1).toNatClampNeg) + (1 : Int32)))) fun y6 => (some (si y6 1 ((y4.1 1) + (1 : Int32)))))))))))))
theorem m_X1_drawCard {g : Gp} {a0 : Nat} {r0 : Nat → Nat} {q0_0 : Nat} {r1 : Nat → Nat} {N : Nat} {s0 : Ob} {s1 : Ob} {p1 : Int32} {res : Ob} (hg : Ok g) (h : f_X1_drawCard N s0 s1 p1 = some res) : Ct g yX1_drawCard cX1_drawCard 3 none (zrm 1 21) [.ref a0, .int p1] (wX1 g a0 r0 q0_0 s0 ++ wX5 g q0_0 r1 s1) (exR none (wX1 g a0 r0 q0_0 res ++ wX5 g q0_0 r1 s1)) := by
  refine ct_of rfl hg (by show _ ≤ _; exact Nat.le_of_ble_eq_true rfl) (fun K C X => ?_)
  show Zs K 0 0 (wX1 g a0 r0 q0_0 s0 ++ wX5 g q0_0 r1 s1) [(0, .ref a0), (1, .int p1)] 0 []
  unfold f_X1_drawCard at h
  refine z_aload_n (pc := 0) (x := a0) C dX1_drawCard_0 (i := 0) rfl rfl ?_
  refine z_iload_n (pc := 1) (x := p1) C dX1_drawCard_1 (i := 1) rfl rfl ?_
  replace h := ob_e h
  obtain ⟨x1, hx1, h⟩ := h
  refine z_callV (pc := 2) (As := [.int p1]) (rest := []) (wr := (wX5 g q0_0 r1 s1)) C dX1_drawCard_2 ml_RX1_120 wv_X1_sizeOf (m_X1_sizeOf (a0 := a0) (r0 := r0) (q0_0 := q0_0) hg hx1) [0, 1, 2, 3, 4, 5, 6, 7, 8] [9, 10, 11, 12] rfl rfl ⟨by decide, by decide⟩ (Nat.le_of_ble_eq_true rfl) ⟨by decide, by decide⟩ rfl rfl rfl rfl rfl rfl rfl (by decide) (ex_k C (cs' := 0) (ss' := 0) (wF := (wX1 g a0 r0 q0_0 s0 ++ wX5 g q0_0 r1 s1)) [4, 5, 6, 7, 8, 9, 10, 11, 12, 0, 1, 2, 3] rfl rfl ?_)
  refine z_istore_n (pc := 5) C dX1_drawCard_5 (i := 2) rfl (by decide) (lv' := [(2, .int x1), (0, .ref a0), (1, .int p1)]) rfl ?_
  refine z_aload_n (pc := 6) (x := a0) C dX1_drawCard_6 (i := 0) rfl rfl ?_
  refine z_get (pc := 7) (v := .int (s0.1 1)) C 0 dX1_drawCard_7 fl_RX1_42 rfl rfl ?_
  refine z_aload_n (pc := 10) (x := a0) C dX1_drawCard_10 (i := 0) rfl rfl ?_
  refine z_get (pc := 11) (v := .ref q0_0) C 0 dX1_drawCard_11 fl_RX1_38 rfl rfl ?_
  refine z_get (pc := 14) (v := .int (s1.1 7)) C 9 dX1_drawCard_14 fl_RX1_98 rfl rfl ?_
  refine z_icmp_ge (pc := 17) C dX1_drawCard_17 (tgt := 64) (by decide) (fun hc => ?_) (fun hc => ?_)
  · replace h := (ite_e h).1 hc
    exact z_vret C X dX1_drawCard_64 (by rw [← Option.some.inj h]; exact ⟨rfl, rfl⟩) (by decide) (by decide)
  · replace h := (ite_e h).2 hc
    refine z_iload_n (pc := 20) (x := p1) C dX1_drawCard_20 (i := 1) rfl rfl ?_
    refine z_iconst (pc := 21) C dX1_drawCard_21 ic_4 ?_
    refine z_icmp_ge (pc := 22) C dX1_drawCard_22 (tgt := 64) (by decide) (fun hc => ?_) (fun hc => ?_)
    · replace h := (ite_e h).1 hc
      exact z_vret C X dX1_drawCard_64 (by rw [← Option.some.inj h]; exact ⟨rfl, rfl⟩) (by decide) (by decide)
    · replace h := (ite_e h).2 hc
      refine z_iload_n (pc := 25) (x := x1) C dX1_drawCard_25 (i := 2) rfl rfl ?_
      refine z_iconst (pc := 26) C dX1_drawCard_26 ic_5 ?_
      refine z_icmp_ge (pc := 27) C dX1_drawCard_27 (tgt := 64) (by decide) (fun hc => ?_) (fun hc => ?_)
      · replace h := (ite_e h).1 hc
        exact z_vret C X dX1_drawCard_64 (by rw [← Option.some.inj h]; exact ⟨rfl, rfl⟩) (by decide) (by decide)
      · replace h := (ite_e h).2 hc
        refine z_aload_n (pc := 30) (x := a0) C dX1_drawCard_30 (i := 0) rfl rfl ?_
        refine z_get (pc := 31) (v := .ref (r0 9)) C 0 dX1_drawCard_31 fl_RX1_15 rfl rfl ?_
        refine z_iload_n (pc := 34) (x := p1) C dX1_drawCard_34 (i := 1) rfl rfl ?_
        refine z_iconst (pc := 35) C dX1_drawCard_35 ic_5 ?_
        refine z_imul (pc := 36) C dX1_drawCard_36 ?_
        refine z_iload_n (pc := 37) (x := x1) C dX1_drawCard_37 (i := 2) rfl rfl ?_
        refine z_iadd (pc := 38) C dX1_drawCard_38 ?_
        refine z_aload_n (pc := 39) (x := a0) C dX1_drawCard_39 (i := 0) rfl rfl ?_
        refine z_get (pc := 40) (v := .int (s0.1 1)) C 0 dX1_drawCard_40 fl_RX1_42 rfl rfl ?_
        replace h := chk_e h
        obtain ⟨hb2, h⟩ := h
        refine z_iast (pc := 43) C 2 dX1_drawCard_43 rfl hb2 (ws' := (wX1 g a0 r0 q0_0 (sa s0 9 (upd (s0.2.2.1 9) (((p1 * (5 : Int32)) + x1)).toNatClampNeg (s0.1 1))) ++ wX5 g q0_0 r1 s1)) rfl ?_
        refine z_aload_n (pc := 44) (x := a0) C dX1_drawCard_44 (i := 0) rfl rfl ?_
        refine z_get (pc := 45) (v := .ref (r0 10)) C 0 dX1_drawCard_45 fl_RX1_18 rfl rfl ?_
        refine z_iload_n (pc := 48) (x := p1) C dX1_drawCard_48 (i := 1) rfl rfl ?_
        refine z_dup2 (pc := 49) C dX1_drawCard_49 rfl rfl ?_
        replace h := chk_e h
        obtain ⟨hb3, h⟩ := h
        refine z_iald (pc := 50) C 3 dX1_drawCard_50 rfl hb3 ?_
        refine z_iconst (pc := 51) C dX1_drawCard_51 ic_1 ?_
        refine z_iadd (pc := 52) C dX1_drawCard_52 ?_
        replace h := znm_e h
        obtain ⟨y4, hy4, h⟩ := h
        refine z_wsE (ws' := (wX1 g a0 r0 q0_0 y4 ++ wX5 g q0_0 r1 s1)) (by rw [hy4]) ?_
        replace h := chk_e h
        obtain ⟨hb5, h⟩ := h
        refine z_iast (pc := 53) C 3 dX1_drawCard_53 rfl hb5 (ws' := (wX1 g a0 r0 q0_0 (sa y4 10 (upd (y4.2.2.1 10) (p1).toNatClampNeg (((s0.2.2.1 10) (p1).toNatClampNeg) + (1 : Int32)))) ++ wX5 g q0_0 r1 s1)) rfl ?_
        refine z_aload_n (pc := 54) (x := a0) C dX1_drawCard_54 (i := 0) rfl rfl ?_
        refine z_dup (pc := 55) C dX1_drawCard_55 rfl ?_
        refine z_get (pc := 56) (v := .int (y4.1 1)) C 0 dX1_drawCard_56 fl_RX1_42 rfl rfl ?_
        refine z_iconst (pc := 59) C dX1_drawCard_59 ic_1 ?_
        refine z_iadd (pc := 60) C dX1_drawCard_60 ?_
        replace h := znm_e h
        obtain ⟨y6, hy6, h⟩ := h
        refine z_wsE (ws' := (wX1 g a0 r0 q0_0 y6 ++ wX5 g q0_0 r1 s1)) (by rw [hy6]) ?_
        refine z_put (pc := 61) C 0 dX1_drawCard_61 fp_RX1_42 rfl rfl rfl (zlt_b rfl) (ws' := (wX1 g a0 r0 q0_0 (si y6 1 ((y4.1 1) + (1 : Int32))) ++ wX5 g q0_0 r1 s1)) rfl ?_
        exact z_vret C X dX1_drawCard_64 (by rw [← Option.some.inj h]; exact ⟨rfl, rfl⟩) (by decide) (by decide)
def f_X1_endTurn_80 (N : Nat) (s1 : Ob)  (t1 : Int32) (s0 : Ob) : Option (Ob) := (znm (si s0 4 t1) fun y1 => (some (si y1 5 ((s0.1 5) + (1 : Int32)))))
theorem m_X1_endTurn_80 {K : Kt} {g : Gp} {a0 : Nat} {r0 : Nat → Nat} {q0_0 : Nat} {r1 : Nat → Nat} {N : Nat} {s1 : Ob} {res : Ob} (hg : Ok g) (C : Cx K g cX1_endTurn RX1 1 (zrm 0 0)) (X : Rx K (exR none (wX1 g a0 r0 q0_0 res ++ wX5 g q0_0 r1 s1)) 0 0 none) (t1 : Int32) (s0 : Ob) (h : f_X1_endTurn_80 N s1 t1 s0 = some res) : Zs K 0 0 (wX1 g a0 r0 q0_0 s0 ++ wX5 g q0_0 r1 s1) [(0, .ref a0)] 80 [.int t1, .ref a0] := by
  unfold f_X1_endTurn_80 at h
  refine z_put (pc := 80) C 0 dX1_endTurn_80 fp_RX1_52 rfl rfl rfl (zlt_b rfl) (ws' := (wX1 g a0 r0 q0_0 (si s0 4 t1) ++ wX5 g q0_0 r1 s1)) rfl ?_
  refine z_aload_n (pc := 83) (x := a0) C dX1_endTurn_83 (i := 0) rfl rfl ?_
  refine z_dup (pc := 84) C dX1_endTurn_84 rfl ?_
  refine z_get (pc := 85) (v := .int (s0.1 5)) C 0 dX1_endTurn_85 fl_RX1_55 rfl rfl ?_
  refine z_iconst (pc := 88) C dX1_endTurn_88 ic_1 ?_
  refine z_iadd (pc := 89) C dX1_endTurn_89 ?_
  replace h := znm_e h
  obtain ⟨y1, hy1, h⟩ := h
  refine z_wsE (ws' := (wX1 g a0 r0 q0_0 y1 ++ wX5 g q0_0 r1 s1)) (by rw [hy1]) ?_
  refine z_put (pc := 90) C 0 dX1_endTurn_90 fp_RX1_55 rfl rfl rfl (zlt_b rfl) (ws' := (wX1 g a0 r0 q0_0 (si y1 5 ((s0.1 5) + (1 : Int32))) ++ wX5 g q0_0 r1 s1)) rfl ?_
  exact z_vret C X dX1_endTurn_93 (by rw [← Option.some.inj h]; exact ⟨rfl, rfl⟩) (by decide) (by decide)
def f_X1_endTurn_53 (N : Nat) (s1 : Ob)  (s0 : Ob) : Option (Ob) := (if (s1.1 2) ≤ ((s0.1 4) + (1 : Int32)) then (f_X1_endTurn_80 N s1 (0 : Int32) s0) else (f_X1_endTurn_80 N s1 ((s0.1 4) + (1 : Int32)) s0))
theorem m_X1_endTurn_53 {K : Kt} {g : Gp} {a0 : Nat} {r0 : Nat → Nat} {q0_0 : Nat} {r1 : Nat → Nat} {N : Nat} {s1 : Ob} {res : Ob} (hg : Ok g) (C : Cx K g cX1_endTurn RX1 1 (zrm 0 0)) (X : Rx K (exR none (wX1 g a0 r0 q0_0 res ++ wX5 g q0_0 r1 s1)) 0 0 none) (s0 : Ob) (h : f_X1_endTurn_53 N s1 s0 = some res) : Zs K 0 0 (wX1 g a0 r0 q0_0 s0 ++ wX5 g q0_0 r1 s1) [(0, .ref a0)] 53 [] := by
  unfold f_X1_endTurn_53 at h
  refine z_aload_n (pc := 53) (x := a0) C dX1_endTurn_53 (i := 0) rfl rfl ?_
  refine z_aload_n (pc := 54) (x := a0) C dX1_endTurn_54 (i := 0) rfl rfl ?_
  refine z_get (pc := 55) (v := .int (s0.1 4)) C 0 dX1_endTurn_55 fl_RX1_52 rfl rfl ?_
  refine z_iconst (pc := 58) C dX1_endTurn_58 ic_1 ?_
  refine z_iadd (pc := 59) C dX1_endTurn_59 ?_
  refine z_aload_n (pc := 60) (x := a0) C dX1_endTurn_60 (i := 0) rfl rfl ?_
  refine z_get (pc := 61) (v := .ref q0_0) C 0 dX1_endTurn_61 fl_RX1_38 rfl rfl ?_
  refine z_get (pc := 64) (v := .int (s1.1 2)) C 9 dX1_endTurn_64 fl_RX1_88 rfl rfl ?_
  refine z_icmp_ge (pc := 67) C dX1_endTurn_67 (tgt := 79) (by decide) (fun hc => ?_) (fun hc => ?_)
  · replace h := (ite_e h).1 hc
    refine z_iconst (pc := 79) C dX1_endTurn_79 ic_0 ?_
    exact m_X1_endTurn_80 (a0 := a0) (r0 := r0) (q0_0 := q0_0) (r1 := r1) hg C X (0 : Int32) s0 h
  · replace h := (ite_e h).2 hc
    refine z_aload_n (pc := 70) (x := a0) C dX1_endTurn_70 (i := 0) rfl rfl ?_
    refine z_get (pc := 71) (v := .int (s0.1 4)) C 0 dX1_endTurn_71 fl_RX1_52 rfl rfl ?_
    refine z_iconst (pc := 74) C dX1_endTurn_74 ic_1 ?_
    refine z_iadd (pc := 75) C dX1_endTurn_75 ?_
    refine z_goto (pc := 76) C dX1_endTurn_76 (tgt := 80) (by decide) ?_
    exact m_X1_endTurn_80 (a0 := a0) (r0 := r0) (q0_0 := q0_0) (r1 := r1) hg C X ((s0.1 4) + (1 : Int32)) s0 h
def f_X1_endTurn (N : Nat) (s0 : Ob) (s1 : Ob) : Option (Ob) := (if (s0.1 6) ≤ 0 then (if (s0.1 6) = (-1 : Int32) then (if (s0.1 1) < (s1.1 7) then (f_X1_endTurn_53 N s1 s0) else (f_X1_endTurn_53 N s1 (si s0 6 (s1.1 2)))) else (f_X1_endTurn_53 N s1 s0)) else (f_X1_endTurn_53 N s1 (si s0 6 ((s0.1 6) - (1 : Int32)))))
theorem m_X1_endTurn {g : Gp} {a0 : Nat} {r0 : Nat → Nat} {q0_0 : Nat} {r1 : Nat → Nat} {N : Nat} {s0 : Ob} {s1 : Ob} {res : Ob} (hg : Ok g) (h : f_X1_endTurn N s0 s1 = some res) : Ct g yX1_endTurn cX1_endTurn 1 none (zrm 0 0) [.ref a0] (wX1 g a0 r0 q0_0 s0 ++ wX5 g q0_0 r1 s1) (exR none (wX1 g a0 r0 q0_0 res ++ wX5 g q0_0 r1 s1)) := by
  refine ct_of rfl hg (by show _ ≤ _; exact Nat.le_of_ble_eq_true rfl) (fun K C X => ?_)
  show Zs K 0 0 (wX1 g a0 r0 q0_0 s0 ++ wX5 g q0_0 r1 s1) [(0, .ref a0)] 0 []
  unfold f_X1_endTurn at h
  refine z_aload_n (pc := 0) (x := a0) C dX1_endTurn_0 (i := 0) rfl rfl ?_
  refine z_get (pc := 1) (v := .int (s0.1 6)) C 0 dX1_endTurn_1 fl_RX1_58 rfl rfl ?_
  refine z_if_le (pc := 4) C dX1_endTurn_4 (tgt := 20) (by decide) (fun hc => ?_) (fun hc => ?_)
  · replace h := (ite_e h).1 hc
    refine z_aload_n (pc := 20) (x := a0) C dX1_endTurn_20 (i := 0) rfl rfl ?_
    refine z_get (pc := 21) (v := .int (s0.1 6)) C 0 dX1_endTurn_21 fl_RX1_58 rfl rfl ?_
    refine z_iconst (pc := 24) C dX1_endTurn_24 ic_m1 ?_
    refine z_icmp_ne (pc := 25) C dX1_endTurn_25 (tgt := 53) (by decide) (fun hc => ?_) (fun hc => ?_)
    · replace h := (ite_e h).2 hc
      exact m_X1_endTurn_53 (a0 := a0) (r0 := r0) (q0_0 := q0_0) (r1 := r1) hg C X s0 h
    · replace h := (ite_e h).1 hc
      refine z_aload_n (pc := 28) (x := a0) C dX1_endTurn_28 (i := 0) rfl rfl ?_
      refine z_get (pc := 29) (v := .int (s0.1 1)) C 0 dX1_endTurn_29 fl_RX1_42 rfl rfl ?_
      refine z_aload_n (pc := 32) (x := a0) C dX1_endTurn_32 (i := 0) rfl rfl ?_
      refine z_get (pc := 33) (v := .ref q0_0) C 0 dX1_endTurn_33 fl_RX1_38 rfl rfl ?_
      refine z_get (pc := 36) (v := .int (s1.1 7)) C 9 dX1_endTurn_36 fl_RX1_98 rfl rfl ?_
      refine z_icmp_lt (pc := 39) C dX1_endTurn_39 (tgt := 53) (by decide) (fun hc => ?_) (fun hc => ?_)
      · replace h := (ite_e h).1 hc
        exact m_X1_endTurn_53 (a0 := a0) (r0 := r0) (q0_0 := q0_0) (r1 := r1) hg C X s0 h
      · replace h := (ite_e h).2 hc
        refine z_aload_n (pc := 42) (x := a0) C dX1_endTurn_42 (i := 0) rfl rfl ?_
        refine z_aload_n (pc := 43) (x := a0) C dX1_endTurn_43 (i := 0) rfl rfl ?_
        refine z_get (pc := 44) (v := .ref q0_0) C 0 dX1_endTurn_44 fl_RX1_38 rfl rfl ?_
        refine z_get (pc := 47) (v := .int (s1.1 2)) C 9 dX1_endTurn_47 fl_RX1_88 rfl rfl ?_
        refine z_put (pc := 50) C 0 dX1_endTurn_50 fp_RX1_58 rfl rfl rfl (zlt_b rfl) (ws' := (wX1 g a0 r0 q0_0 (si s0 6 (s1.1 2)) ++ wX5 g q0_0 r1 s1)) rfl ?_
        exact m_X1_endTurn_53 (a0 := a0) (r0 := r0) (q0_0 := q0_0) (r1 := r1) hg C X (si s0 6 (s1.1 2)) h
  · replace h := (ite_e h).2 hc
    refine z_aload_n (pc := 7) (x := a0) C dX1_endTurn_7 (i := 0) rfl rfl ?_
    refine z_dup (pc := 8) C dX1_endTurn_8 rfl ?_
    refine z_get (pc := 9) (v := .int (s0.1 6)) C 0 dX1_endTurn_9 fl_RX1_58 rfl rfl ?_
    refine z_iconst (pc := 12) C dX1_endTurn_12 ic_1 ?_
    refine z_isub (pc := 13) C dX1_endTurn_13 ?_
    refine z_put (pc := 14) C 0 dX1_endTurn_14 fp_RX1_58 rfl rfl rfl (zlt_b rfl) (ws' := (wX1 g a0 r0 q0_0 (si s0 6 ((s0.1 6) - (1 : Int32))) ++ wX5 g q0_0 r1 s1)) rfl ?_
    refine z_goto (pc := 17) C dX1_endTurn_17 (tgt := 53) (by decide) ?_
    exact m_X1_endTurn_53 (a0 := a0) (r0 := r0) (q0_0 := q0_0) (r1 := r1) hg C X (si s0 6 ((s0.1 6) - (1 : Int32))) h
def f_X1_playCard_107 (N : Nat) (s1 : Ob) (p1 : Int32)  (s0 : Ob) : Option (Ob) := (ob (f_X1_drawCard N s0 s1 (s0.1 4)) fun x8 => (ob (f_X1_endTurn N x8 s1) fun x9 => (some x9)))
theorem m_X1_playCard_107 {K : Kt} {g : Gp} {a0 : Nat} {r0 : Nat → Nat} {q0_0 : Nat} {r1 : Nat → Nat} {N : Nat} {s1 : Ob} {p1 : Int32} {res : Ob} (hg : Ok g) (C : Cx K g cX1_playCard RX1 3 (zrm 4 89)) (X : Rx K (exR none (wX1 g a0 r0 q0_0 res ++ wX5 g q0_0 r1 s1)) 0 0 none) (s0 : Ob) (h : f_X1_playCard_107 N s1 p1 s0 = some res) : Zs K 0 0 (wX1 g a0 r0 q0_0 s0 ++ wX5 g q0_0 r1 s1) [(0, .ref a0)] 107 [] := by
  unfold f_X1_playCard_107 at h
  refine z_aload_n (pc := 107) (x := a0) C dX1_playCard_107 (i := 0) rfl rfl ?_
  refine z_aload_n (pc := 108) (x := a0) C dX1_playCard_108 (i := 0) rfl rfl ?_
  refine z_get (pc := 109) (v := .int (s0.1 4)) C 0 dX1_playCard_109 fl_RX1_52 rfl rfl ?_
  replace h := ob_e h
  obtain ⟨x8, hx8, h⟩ := h
  refine z_callV (pc := 112) (As := [.int (s0.1 4)]) (rest := []) (wr := ([] : va_W)) C dX1_playCard_112 ml_RX1_94 wv_X1_drawCard (m_X1_drawCard (a0 := a0) (r0 := r0) (q0_0 := q0_0) (r1 := r1) hg hx8) [0, 1, 2, 3, 4, 5, 6, 7, 8, 9, 10, 11, 12] [] rfl rfl ⟨by decide, by decide⟩ (Nat.le_of_ble_eq_true rfl) ⟨by decide, by decide⟩ rfl rfl rfl rfl rfl rfl rfl (by decide) (ex_k C (cs' := 0) (ss' := 0) (wF := (wX1 g a0 r0 q0_0 x8 ++ wX5 g q0_0 r1 s1)) [0, 1, 2, 3, 4, 5, 6, 7, 8, 9, 10, 11, 12] rfl rfl ?_)
  refine z_aload_n (pc := 115) (x := a0) C dX1_playCard_115 (i := 0) rfl rfl ?_
  replace h := ob_e h
  obtain ⟨x9, hx9, h⟩ := h
  refine z_callV (pc := 116) (As := []) (rest := []) (wr := ([] : va_W)) C dX1_playCard_116 ml_RX1_178 wv_X1_endTurn (m_X1_endTurn (a0 := a0) (r0 := r0) (q0_0 := q0_0) (r1 := r1) hg hx9) [0, 1, 2, 3, 4, 5, 6, 7, 8, 9, 10, 11, 12] [] rfl rfl ⟨by decide, by decide⟩ (Nat.le_of_ble_eq_true rfl) ⟨by decide, by decide⟩ rfl rfl rfl rfl rfl rfl rfl (by decide) (ex_k C (cs' := 0) (ss' := 0) (wF := (wX1 g a0 r0 q0_0 x9 ++ wX5 g q0_0 r1 s1)) [0, 1, 2, 3, 4, 5, 6, 7, 8, 9, 10, 11, 12] rfl rfl ?_)
  exact z_vret C X dX1_playCard_119 (by rw [← Option.some.inj h]; exact ⟨rfl, rfl⟩) (by decide) (by decide)
def f_X1_playCard_59 (N : Nat) (s1 : Ob) (p1 : Int32)  (v2 : Int32) (s0 : Ob) : Option (Ob) := (ob (f_X7_codeOf N v2) fun x13 => (ob (f_X1_writeLog N s0 (0 : Int32) x13 (-1 : Int32)) fun x14 => (f_X1_playCard_107 N s1 p1 x14)))
theorem m_X1_playCard_59 {K : Kt} {g : Gp} {a0 : Nat} {r0 : Nat → Nat} {q0_0 : Nat} {r1 : Nat → Nat} {N : Nat} {s1 : Ob} {p1 : Int32} {res : Ob} (hg : Ok g) (C : Cx K g cX1_playCard RX1 3 (zrm 4 89)) (X : Rx K (exR none (wX1 g a0 r0 q0_0 res ++ wX5 g q0_0 r1 s1)) 0 0 none) (v2 : Int32) (s0 : Ob) (h : f_X1_playCard_59 N s1 p1 v2 s0 = some res) : Zs K 0 0 (wX1 g a0 r0 q0_0 s0 ++ wX5 g q0_0 r1 s1) [(0, .ref a0), (2, .int v2)] 59 [] := by
  unfold f_X1_playCard_59 at h
  refine z_aload_n (pc := 59) (x := a0) C dX1_playCard_59 (i := 0) rfl rfl ?_
  refine z_iconst (pc := 60) C dX1_playCard_60 ic_0 ?_
  refine z_iload_n (pc := 61) (x := v2) C dX1_playCard_61 (i := 2) rfl rfl ?_
  replace h := ob_e h
  obtain ⟨x13, hx13, h⟩ := h
  refine z_callSN (pc := 62) (As := [.int v2]) (rest := [.int (0 : Int32), .ref a0]) (wr := (wX1 g a0 r0 q0_0 s0 ++ wX5 g q0_0 r1 s1)) C dX1_playCard_62 mn_RX1_168 wt_X7_codeOf (m_X7_codeOf hg hx13) [] [0, 1, 2, 3, 4, 5, 6, 7, 8, 9, 10, 11, 12] rfl rfl ⟨by decide, by decide⟩ (Nat.le_of_ble_eq_true rfl) ⟨by decide, by decide⟩ rfl rfl rfl rfl (by decide) (ex_k C (cs' := 0) (ss' := 0) (wF := (wX1 g a0 r0 q0_0 s0 ++ wX5 g q0_0 r1 s1)) [0, 1, 2, 3, 4, 5, 6, 7, 8, 9, 10, 11, 12] rfl rfl ?_)
  refine z_iconst (pc := 65) C dX1_playCard_65 ic_m1 ?_
  replace h := ob_e h
  obtain ⟨x14, hx14, h⟩ := h
  refine z_callV (pc := 66) (As := [.int (0 : Int32), .int x13, .int (-1 : Int32)]) (rest := []) (wr := (wX5 g q0_0 r1 s1)) C dX1_playCard_66 ml_RX1_171 wv_X1_writeLog (m_X1_writeLog (a0 := a0) (r0 := r0) (q0_0 := q0_0) hg hx14) [0, 1, 2, 3, 4, 5, 6, 7, 8] [9, 10, 11, 12] rfl rfl ⟨by decide, by decide⟩ (Nat.le_of_ble_eq_true rfl) ⟨by decide, by decide⟩ rfl rfl rfl rfl rfl rfl rfl (by decide) (ex_k C (cs' := 0) (ss' := 0) (wF := (wX1 g a0 r0 q0_0 x14 ++ wX5 g q0_0 r1 s1)) [4, 5, 6, 7, 8, 9, 10, 11, 12, 0, 1, 2, 3] rfl rfl ?_)
  refine z_goto (pc := 69) C dX1_playCard_69 (tgt := 107) (by decide) ?_
  refine z_lv (lv' := [(0, .ref a0)]) [0] rfl ?_
  exact m_X1_playCard_107 (a0 := a0) (r0 := r0) (q0_0 := q0_0) (r1 := r1) hg C X x14 h
def f_X1_playCard (N : Nat) (s0 : Ob) (s1 : Ob) (p1 : Int32) : Option (Ob) := (ob (f_X1_takeCard N s0 p1) fun x1 => (ob (f_X1_kindOf N x1.2 s1 x1.1) fun x2 => (ob (f_X1_canGoOnPile N x1.2 x2) fun x3 => (if x3 = 0 then (ob (f_X1_putOnHeap N x1.2 s1 x2) fun x4 => (znm (si x4 3 ((x4.1 3) - (1 : Int32))) fun y5 => (ob (f_X7_codeOf N x2) fun x6 => (ob (f_X1_writeLog N (sa y5 7 (upd (y5.2.2.1 7) 1 (((x4.2.2.1 7) 1) + (1 : Int32)))) (4 : Int32) x6 (-1 : Int32)) fun x7 => (f_X1_playCard_107 N s1 p1 x7))))) else (chk (inb (x2 / (5 : Int32)) 4) (chk (inb (x2 / (5 : Int32)) 4) (znm (sa x1.2 11 (upd (x1.2.2.2.1 11) ((x2 / (5 : Int32))).toNatClampNeg (((x1.2.2.2.1 11) ((x2 / (5 : Int32))).toNatClampNeg) + (1 : Int32)))) fun y12 => (if ((x2 - x2 / (5 : Int32) * (5 : Int32)) + (1 : Int32)) = (s1.1 1) then (ob (f_X1_returnToken N (sa y12 7 (upd (y12.2.2.1 7) 0 (((x1.2.2.2.1 7) 0) + (1 : Int32)))) s1) fun x15 => (f_X1_playCard_59 N s1 p1 x2 x15)) else (f_X1_playCard_59 N s1 p1 x2 (sa y12 7 (upd (y12.2.2.1 7) 0 (((x1.2.2.2.1 7) 0) + (1 : Int32)))))))))))))
theorem m_X1_playCard {g : Gp} {a0 : Nat} {r0 : Nat → Nat} {q0_0 : Nat} {r1 : Nat → Nat} {N : Nat} {s0 : Ob} {s1 : Ob} {p1 : Int32} {res : Ob} (hg : Ok g) (h : f_X1_playCard N s0 s1 p1 = some res) : Ct g yX1_playCard cX1_playCard 3 none (zrm 4 89) [.ref a0, .int p1] (wX1 g a0 r0 q0_0 s0 ++ wX5 g q0_0 r1 s1) (exR none (wX1 g a0 r0 q0_0 res ++ wX5 g q0_0 r1 s1)) := by
  refine ct_of rfl hg (by show _ ≤ _; exact Nat.le_of_ble_eq_true rfl) (fun K C X => ?_)
  show Zs K 0 0 (wX1 g a0 r0 q0_0 s0 ++ wX5 g q0_0 r1 s1) [(0, .ref a0), (1, .int p1)] 0 []
  unfold f_X1_playCard at h
  refine z_aload_n (pc := 0) (x := a0) C dX1_playCard_0 (i := 0) rfl rfl ?_
  refine z_aload_n (pc := 1) (x := a0) C dX1_playCard_1 (i := 0) rfl rfl ?_
  refine z_iload_n (pc := 2) (x := p1) C dX1_playCard_2 (i := 1) rfl rfl ?_
  replace h := ob_e h
  obtain ⟨x1, hx1, h⟩ := h
  refine z_callV (pc := 3) (As := [.int p1]) (rest := [.ref a0]) (wr := (wX5 g q0_0 r1 s1)) C dX1_playCard_3 ml_RX1_159 wv_X1_takeCard (m_X1_takeCard (a0 := a0) (r0 := r0) (q0_0 := q0_0) hg hx1) [0, 1, 2, 3, 4, 5, 6, 7, 8] [9, 10, 11, 12] rfl rfl ⟨by decide, by decide⟩ (Nat.le_of_ble_eq_true rfl) ⟨by decide, by decide⟩ rfl rfl rfl rfl rfl rfl rfl (by decide) (ex_k C (cs' := 0) (ss' := 0) (wF := (wX1 g a0 r0 q0_0 x1.2 ++ wX5 g q0_0 r1 s1)) [4, 5, 6, 7, 8, 9, 10, 11, 12, 0, 1, 2, 3] rfl rfl ?_)
  replace h := ob_e h
  obtain ⟨x2, hx2, h⟩ := h
  refine z_callV (pc := 6) (As := [.int x1.1]) (rest := []) (wr := ([] : va_W)) C dX1_playCard_6 ml_RX1_127 wv_X1_kindOf (m_X1_kindOf (a0 := a0) (r0 := r0) (q0_0 := q0_0) (r1 := r1) hg hx2) [0, 1, 2, 3, 4, 5, 6, 7, 8, 9, 10, 11, 12] [] rfl rfl ⟨by decide, by decide⟩ (Nat.le_of_ble_eq_true rfl) ⟨by decide, by decide⟩ rfl rfl rfl rfl rfl rfl rfl (by decide) (ex_k C (cs' := 0) (ss' := 0) (wF := (wX1 g a0 r0 q0_0 x1.2 ++ wX5 g q0_0 r1 s1)) [0, 1, 2, 3, 4, 5, 6, 7, 8, 9, 10, 11, 12] rfl rfl ?_)
  refine z_istore_n (pc := 9) C dX1_playCard_9 (i := 2) rfl (by decide) (lv' := [(2, .int x2), (0, .ref a0), (1, .int p1)]) rfl ?_
  refine z_aload_n (pc := 10) (x := a0) C dX1_playCard_10 (i := 0) rfl rfl ?_
  refine z_iload_n (pc := 11) (x := x2) C dX1_playCard_11 (i := 2) rfl rfl ?_
  replace h := ob_e h
  obtain ⟨x3, hx3, h⟩ := h
  refine z_callV (pc := 12) (As := [.int x2]) (rest := []) (wr := (wX5 g q0_0 r1 s1)) C dX1_playCard_12 ml_RX1_162 wv_X1_canGoOnPile (m_X1_canGoOnPile (a0 := a0) (r0 := r0) (q0_0 := q0_0) hg hx3) [0, 1, 2, 3, 4, 5, 6, 7, 8] [9, 10, 11, 12] rfl rfl ⟨by decide, by decide⟩ (Nat.le_of_ble_eq_true rfl) ⟨by decide, by decide⟩ rfl rfl rfl rfl rfl rfl rfl (by decide) (ex_k C (cs' := 0) (ss' := 0) (wF := (wX1 g a0 r0 q0_0 x1.2 ++ wX5 g q0_0 r1 s1)) [4, 5, 6, 7, 8, 9, 10, 11, 12, 0, 1, 2, 3] rfl rfl ?_)
  refine z_if_eq (pc := 15) C dX1_playCard_15 (tgt := 72) (by decide) (fun hc => ?_) (fun hc => ?_)
  · replace h := (ite_e h).1 hc
    refine z_aload_n (pc := 72) (x := a0) C dX1_playCard_72 (i := 0) rfl rfl ?_
    refine z_iload_n (pc := 73) (x := x2) C dX1_playCard_73 (i := 2) rfl rfl ?_
    replace h := ob_e h
    obtain ⟨x4, hx4, h⟩ := h
    refine z_callV (pc := 74) (As := [.int x2]) (rest := []) (wr := ([] : va_W)) C dX1_playCard_74 ml_RX1_175 wv_X1_putOnHeap (m_X1_putOnHeap (a0 := a0) (r0 := r0) (q0_0 := q0_0) (r1 := r1) hg hx4) [0, 1, 2, 3, 4, 5, 6, 7, 8, 9, 10, 11, 12] [] rfl rfl ⟨by decide, by decide⟩ (Nat.le_of_ble_eq_true rfl) ⟨by decide, by decide⟩ rfl rfl rfl rfl rfl rfl rfl (by decide) (ex_k C (cs' := 0) (ss' := 0) (wF := (wX1 g a0 r0 q0_0 x4 ++ wX5 g q0_0 r1 s1)) [0, 1, 2, 3, 4, 5, 6, 7, 8, 9, 10, 11, 12] rfl rfl ?_)
    refine z_aload_n (pc := 77) (x := a0) C dX1_playCard_77 (i := 0) rfl rfl ?_
    refine z_dup (pc := 78) C dX1_playCard_78 rfl ?_
    refine z_get (pc := 79) (v := .int (x4.1 3)) C 0 dX1_playCard_79 fl_RX1_49 rfl rfl ?_
    refine z_iconst (pc := 82) C dX1_playCard_82 ic_1 ?_
    refine z_isub (pc := 83) C dX1_playCard_83 ?_
    refine z_put (pc := 84) C 0 dX1_playCard_84 fp_RX1_49 rfl rfl rfl (zlt_b rfl) (ws' := (wX1 g a0 r0 q0_0 (si x4 3 ((x4.1 3) - (1 : Int32))) ++ wX5 g q0_0 r1 s1)) rfl ?_
    refine z_aload_n (pc := 87) (x := a0) C dX1_playCard_87 (i := 0) rfl rfl ?_
    refine z_get (pc := 88) (v := .ref (r0 7)) C 0 dX1_playCard_88 fl_RX1_11 rfl rfl ?_
    refine z_iconst (pc := 91) C dX1_playCard_91 ic_1 ?_
    refine z_dup2 (pc := 92) C dX1_playCard_92 rfl rfl ?_
    refine z_iald (pc := 93) C 1 dX1_playCard_93 rfl (by decide) ?_
    refine z_iconst (pc := 94) C dX1_playCard_94 ic_1 ?_
    refine z_iadd (pc := 95) C dX1_playCard_95 ?_
    replace h := znm_e h
    obtain ⟨y5, hy5, h⟩ := h
    refine z_wsE (ws' := (wX1 g a0 r0 q0_0 y5 ++ wX5 g q0_0 r1 s1)) (by rw [hy5]) ?_
    refine z_iast (pc := 96) C 1 dX1_playCard_96 rfl (by decide) (ws' := (wX1 g a0 r0 q0_0 (sa y5 7 (upd (y5.2.2.1 7) 1 (((x4.2.2.1 7) 1) + (1 : Int32)))) ++ wX5 g q0_0 r1 s1)) rfl ?_
    refine z_aload_n (pc := 97) (x := a0) C dX1_playCard_97 (i := 0) rfl rfl ?_
    refine z_iconst (pc := 98) C dX1_playCard_98 ic_4 ?_
    refine z_iload_n (pc := 99) (x := x2) C dX1_playCard_99 (i := 2) rfl rfl ?_
    replace h := ob_e h
    obtain ⟨x6, hx6, h⟩ := h
    refine z_callSN (pc := 100) (As := [.int x2]) (rest := [.int (4 : Int32), .ref a0]) (wr := (wX1 g a0 r0 q0_0 (sa y5 7 (upd (y5.2.2.1 7) 1 (((x4.2.2.1 7) 1) + (1 : Int32)))) ++ wX5 g q0_0 r1 s1)) C dX1_playCard_100 mn_RX1_168 wt_X7_codeOf (m_X7_codeOf hg hx6) [] [0, 1, 2, 3, 4, 5, 6, 7, 8, 9, 10, 11, 12] rfl rfl ⟨by decide, by decide⟩ (Nat.le_of_ble_eq_true rfl) ⟨by decide, by decide⟩ rfl rfl rfl rfl (by decide) (ex_k C (cs' := 0) (ss' := 0) (wF := (wX1 g a0 r0 q0_0 (sa y5 7 (upd (y5.2.2.1 7) 1 (((x4.2.2.1 7) 1) + (1 : Int32)))) ++ wX5 g q0_0 r1 s1)) [0, 1, 2, 3, 4, 5, 6, 7, 8, 9, 10, 11, 12] rfl rfl ?_)
    refine z_iconst (pc := 103) C dX1_playCard_103 ic_m1 ?_
    replace h := ob_e h
    obtain ⟨x7, hx7, h⟩ := h
    refine z_callV (pc := 104) (As := [.int (4 : Int32), .int x6, .int (-1 : Int32)]) (rest := []) (wr := (wX5 g q0_0 r1 s1)) C dX1_playCard_104 ml_RX1_171 wv_X1_writeLog (m_X1_writeLog (a0 := a0) (r0 := r0) (q0_0 := q0_0) hg hx7) [0, 1, 2, 3, 4, 5, 6, 7, 8] [9, 10, 11, 12] rfl rfl ⟨by decide, by decide⟩ (Nat.le_of_ble_eq_true rfl) ⟨by decide, by decide⟩ rfl rfl rfl rfl rfl rfl rfl (by decide) (ex_k C (cs' := 0) (ss' := 0) (wF := (wX1 g a0 r0 q0_0 x7 ++ wX5 g q0_0 r1 s1)) [4, 5, 6, 7, 8, 9, 10, 11, 12, 0, 1, 2, 3] rfl rfl ?_)
    refine z_lv (lv' := [(0, .ref a0)]) [1] rfl ?_
    exact m_X1_playCard_107 (a0 := a0) (r0 := r0) (q0_0 := q0_0) (r1 := r1) hg C X x7 h
  · replace h := (ite_e h).2 hc
    refine z_aload_n (pc := 18) (x := a0) C dX1_playCard_18 (i := 0) rfl rfl ?_
    refine z_get (pc := 19) (v := .ref (r0 11)) C 0 dX1_playCard_19 fl_RX1_21 rfl rfl ?_
    refine z_iload_n (pc := 22) (x := x2) C dX1_playCard_22 (i := 2) rfl rfl ?_
    refine z_iconst (pc := 23) C dX1_playCard_23 ic_5 ?_
    refine z_idiv (pc := 24) C dX1_playCard_24 (by decide) ?_
    refine z_dup2 (pc := 25) C dX1_playCard_25 rfl rfl ?_
    replace h := chk_e h
    obtain ⟨hb10, h⟩ := h
    refine z_iald (pc := 26) C 4 dX1_playCard_26 rfl hb10 ?_
    refine z_iconst (pc := 27) C dX1_playCard_27 ic_1 ?_
    refine z_iadd (pc := 28) C dX1_playCard_28 ?_
    replace h := chk_e h
    obtain ⟨hb11, h⟩ := h
    refine z_iast (pc := 29) C 4 dX1_playCard_29 rfl hb11 (ws' := (wX1 g a0 r0 q0_0 (sa x1.2 11 (upd (x1.2.2.2.1 11) ((x2 / (5 : Int32))).toNatClampNeg (((x1.2.2.2.1 11) ((x2 / (5 : Int32))).toNatClampNeg) + (1 : Int32)))) ++ wX5 g q0_0 r1 s1)) rfl ?_
    refine z_aload_n (pc := 30) (x := a0) C dX1_playCard_30 (i := 0) rfl rfl ?_
    refine z_get (pc := 31) (v := .ref (r0 7)) C 0 dX1_playCard_31 fl_RX1_11 rfl rfl ?_
    refine z_iconst (pc := 34) C dX1_playCard_34 ic_0 ?_
    refine z_dup2 (pc := 35) C dX1_playCard_35 rfl rfl ?_
    refine z_iald (pc := 36) C 1 dX1_playCard_36 rfl (by decide) ?_
    refine z_iconst (pc := 37) C dX1_playCard_37 ic_1 ?_
    refine z_iadd (pc := 38) C dX1_playCard_38 ?_
    replace h := znm_e h
    obtain ⟨y12, hy12, h⟩ := h
    refine z_wsE (ws' := (wX1 g a0 r0 q0_0 y12 ++ wX5 g q0_0 r1 s1)) (by rw [hy12]) ?_
    refine z_iast (pc := 39) C 1 dX1_playCard_39 rfl (by decide) (ws' := (wX1 g a0 r0 q0_0 (sa y12 7 (upd (y12.2.2.1 7) 0 (((x1.2.2.2.1 7) 0) + (1 : Int32)))) ++ wX5 g q0_0 r1 s1)) rfl ?_
    refine z_iload_n (pc := 40) (x := x2) C dX1_playCard_40 (i := 2) rfl rfl ?_
    refine z_iconst (pc := 41) C dX1_playCard_41 ic_5 ?_
    refine z_irem (pc := 42) C dX1_playCard_42 (by decide) ?_
    refine z_iconst (pc := 43) C dX1_playCard_43 ic_1 ?_
    refine z_iadd (pc := 44) C dX1_playCard_44 ?_
    refine z_aload_n (pc := 45) (x := a0) C dX1_playCard_45 (i := 0) rfl rfl ?_
    refine z_get (pc := 46) (v := .ref q0_0) C 0 dX1_playCard_46 fl_RX1_38 rfl rfl ?_
    refine z_get (pc := 49) (v := .int (s1.1 1)) C 9 dX1_playCard_49 fl_RX1_107 rfl rfl ?_
    refine z_icmp_ne (pc := 52) C dX1_playCard_52 (tgt := 59) (by decide) (fun hc => ?_) (fun hc => ?_)
    · replace h := (ite_e h).2 hc
      refine z_lv (lv' := [(0, .ref a0), (2, .int x2)]) [1, 0] rfl ?_
      exact m_X1_playCard_59 (a0 := a0) (r0 := r0) (q0_0 := q0_0) (r1 := r1) hg C X x2 (sa y12 7 (upd (y12.2.2.1 7) 0 (((x1.2.2.2.1 7) 0) + (1 : Int32)))) h
    · replace h := (ite_e h).1 hc
      refine z_aload_n (pc := 55) (x := a0) C dX1_playCard_55 (i := 0) rfl rfl ?_
      replace h := ob_e h
      obtain ⟨x15, hx15, h⟩ := h
      refine z_callV (pc := 56) (As := []) (rest := []) (wr := ([] : va_W)) C dX1_playCard_56 ml_RX1_165 wv_X1_returnToken (m_X1_returnToken (a0 := a0) (r0 := r0) (q0_0 := q0_0) (r1 := r1) hg hx15) [0, 1, 2, 3, 4, 5, 6, 7, 8, 9, 10, 11, 12] [] rfl rfl ⟨by decide, by decide⟩ (Nat.le_of_ble_eq_true rfl) ⟨by decide, by decide⟩ rfl rfl rfl rfl rfl rfl rfl (by decide) (ex_k C (cs' := 0) (ss' := 0) (wF := (wX1 g a0 r0 q0_0 x15 ++ wX5 g q0_0 r1 s1)) [0, 1, 2, 3, 4, 5, 6, 7, 8, 9, 10, 11, 12] rfl rfl ?_)
      refine z_lv (lv' := [(0, .ref a0), (2, .int x2)]) [1, 0] rfl ?_
      exact m_X1_playCard_59 (a0 := a0) (r0 := r0) (q0_0 := q0_0) (r1 := r1) hg C X x2 x15 h
def f_X1_discardCard (N : Nat) (s0 : Ob) (s1 : Ob) (p1 : Int32) : Option (Ob) := (ob (f_X1_takeCard N s0 p1) fun x1 => (ob (f_X1_kindOf N x1.2 s1 x1.1) fun x2 => (ob (f_X1_putOnHeap N x1.2 s1 x2) fun x3 => (ob (f_X1_returnToken N x3 s1) fun x4 => (ob (f_X7_codeOf N x2) fun x5 => (ob (f_X1_writeLog N (sa x4 7 (upd (x4.2.2.1 7) 2 (((x4.2.2.1 7) 2) + (1 : Int32)))) (1 : Int32) x5 (-1 : Int32)) fun x6 => (ob (f_X1_drawCard N x6 s1 (x6.1 4)) fun x7 => (ob (f_X1_endTurn N x7 s1) fun x8 => (some x8)))))))))
theorem m_X1_discardCard {g : Gp} {a0 : Nat} {r0 : Nat → Nat} {q0_0 : Nat} {r1 : Nat → Nat} {N : Nat} {s0 : Ob} {s1 : Ob} {p1 : Int32} {res : Ob} (hg : Ok g) (h : f_X1_discardCard N s0 s1 p1 = some res) : Ct g yX1_discardCard cX1_discardCard 3 none (zrm 4 89) [.ref a0, .int p1] (wX1 g a0 r0 q0_0 s0 ++ wX5 g q0_0 r1 s1) (exR none (wX1 g a0 r0 q0_0 res ++ wX5 g q0_0 r1 s1)) := by
  refine ct_of rfl hg (by show _ ≤ _; exact Nat.le_of_ble_eq_true rfl) (fun K C X => ?_)
  show Zs K 0 0 (wX1 g a0 r0 q0_0 s0 ++ wX5 g q0_0 r1 s1) [(0, .ref a0), (1, .int p1)] 0 []
  unfold f_X1_discardCard at h
  refine z_aload_n (pc := 0) (x := a0) C dX1_discardCard_0 (i := 0) rfl rfl ?_
  refine z_aload_n (pc := 1) (x := a0) C dX1_discardCard_1 (i := 0) rfl rfl ?_
  refine z_iload_n (pc := 2) (x := p1) C dX1_discardCard_2 (i := 1) rfl rfl ?_
  replace h := ob_e h
  obtain ⟨x1, hx1, h⟩ := h
  refine z_callV (pc := 3) (As := [.int p1]) (rest := [.ref a0]) (wr := (wX5 g q0_0 r1 s1)) C dX1_discardCard_3 ml_RX1_159 wv_X1_takeCard (m_X1_takeCard (a0 := a0) (r0 := r0) (q0_0 := q0_0) hg hx1) [0, 1, 2, 3, 4, 5, 6, 7, 8] [9, 10, 11, 12] rfl rfl ⟨by decide, by decide⟩ (Nat.le_of_ble_eq_true rfl) ⟨by decide, by decide⟩ rfl rfl rfl rfl rfl rfl rfl (by decide) (ex_k C (cs' := 0) (ss' := 0) (wF := (wX1 g a0 r0 q0_0 x1.2 ++ wX5 g q0_0 r1 s1)) [4, 5, 6, 7, 8, 9, 10, 11, 12, 0, 1, 2, 3] rfl rfl ?_)
  replace h := ob_e h
  obtain ⟨x2, hx2, h⟩ := h
  refine z_callV (pc := 6) (As := [.int x1.1]) (rest := []) (wr := ([] : va_W)) C dX1_discardCard_6 ml_RX1_127 wv_X1_kindOf (m_X1_kindOf (a0 := a0) (r0 := r0) (q0_0 := q0_0) (r1 := r1) hg hx2) [0, 1, 2, 3, 4, 5, 6, 7, 8, 9, 10, 11, 12] [] rfl rfl ⟨by decide, by decide⟩ (Nat.le_of_ble_eq_true rfl) ⟨by decide, by decide⟩ rfl rfl rfl rfl rfl rfl rfl (by decide) (ex_k C (cs' := 0) (ss' := 0) (wF := (wX1 g a0 r0 q0_0 x1.2 ++ wX5 g q0_0 r1 s1)) [0, 1, 2, 3, 4, 5, 6, 7, 8, 9, 10, 11, 12] rfl rfl ?_)
  refine z_istore_n (pc := 9) C dX1_discardCard_9 (i := 2) rfl (by decide) (lv' := [(2, .int x2), (0, .ref a0), (1, .int p1)]) rfl ?_
  refine z_aload_n (pc := 10) (x := a0) C dX1_discardCard_10 (i := 0) rfl rfl ?_
  refine z_iload_n (pc := 11) (x := x2) C dX1_discardCard_11 (i := 2) rfl rfl ?_
  replace h := ob_e h
  obtain ⟨x3, hx3, h⟩ := h
  refine z_callV (pc := 12) (As := [.int x2]) (rest := []) (wr := ([] : va_W)) C dX1_discardCard_12 ml_RX1_175 wv_X1_putOnHeap (m_X1_putOnHeap (a0 := a0) (r0 := r0) (q0_0 := q0_0) (r1 := r1) hg hx3) [0, 1, 2, 3, 4, 5, 6, 7, 8, 9, 10, 11, 12] [] rfl rfl ⟨by decide, by decide⟩ (Nat.le_of_ble_eq_true rfl) ⟨by decide, by decide⟩ rfl rfl rfl rfl rfl rfl rfl (by decide) (ex_k C (cs' := 0) (ss' := 0) (wF := (wX1 g a0 r0 q0_0 x3 ++ wX5 g q0_0 r1 s1)) [0, 1, 2, 3, 4, 5, 6, 7, 8, 9, 10, 11, 12] rfl rfl ?_)
  refine z_aload_n (pc := 15) (x := a0) C dX1_discardCard_15 (i := 0) rfl rfl ?_
  replace h := ob_e h
  obtain ⟨x4, hx4, h⟩ := h
  refine z_callV (pc := 16) (As := []) (rest := []) (wr := ([] : va_W)) C dX1_discardCard_16 ml_RX1_165 wv_X1_returnToken (m_X1_returnToken (a0 := a0) (r0 := r0) (q0_0 := q0_0) (r1 := r1) hg hx4) [0, 1, 2, 3, 4, 5, 6, 7, 8, 9, 10, 11, 12] [] rfl rfl ⟨by decide, by decide⟩ (Nat.le_of_ble_eq_true rfl) ⟨by decide, by decide⟩ rfl rfl rfl rfl rfl rfl rfl (by decide) (ex_k C (cs' := 0) (ss' := 0) (wF := (wX1 g a0 r0 q0_0 x4 ++ wX5 g q0_0 r1 s1)) [0, 1, 2, 3, 4, 5, 6, 7, 8, 9, 10, 11, 12] rfl rfl ?_)
  refine z_aload_n (pc := 19) (x := a0) C dX1_discardCard_19 (i := 0) rfl rfl ?_
  refine z_get (pc := 20) (v := .ref (r0 7)) C 0 dX1_discardCard_20 fl_RX1_11 rfl rfl ?_
  refine z_iconst (pc := 23) C dX1_discardCard_23 ic_2 ?_
  refine z_dup2 (pc := 24) C dX1_discardCard_24 rfl rfl ?_
  refine z_iald (pc := 25) C 1 dX1_discardCard_25 rfl (by decide) ?_
  refine z_iconst (pc := 26) C dX1_discardCard_26 ic_1 ?_
  refine z_iadd (pc := 27) C dX1_discardCard_27 ?_
  refine z_iast (pc := 28) C 1 dX1_discardCard_28 rfl (by decide) (ws' := (wX1 g a0 r0 q0_0 (sa x4 7 (upd (x4.2.2.1 7) 2 (((x4.2.2.1 7) 2) + (1 : Int32)))) ++ wX5 g q0_0 r1 s1)) rfl ?_
  refine z_aload_n (pc := 29) (x := a0) C dX1_discardCard_29 (i := 0) rfl rfl ?_
  refine z_iconst (pc := 30) C dX1_discardCard_30 ic_1 ?_
  refine z_iload_n (pc := 31) (x := x2) C dX1_discardCard_31 (i := 2) rfl rfl ?_
  replace h := ob_e h
  obtain ⟨x5, hx5, h⟩ := h
  refine z_callSN (pc := 32) (As := [.int x2]) (rest := [.int (1 : Int32), .ref a0]) (wr := (wX1 g a0 r0 q0_0 (sa x4 7 (upd (x4.2.2.1 7) 2 (((x4.2.2.1 7) 2) + (1 : Int32)))) ++ wX5 g q0_0 r1 s1)) C dX1_discardCard_32 mn_RX1_168 wt_X7_codeOf (m_X7_codeOf hg hx5) [] [0, 1, 2, 3, 4, 5, 6, 7, 8, 9, 10, 11, 12] rfl rfl ⟨by decide, by decide⟩ (Nat.le_of_ble_eq_true rfl) ⟨by decide, by decide⟩ rfl rfl rfl rfl (by decide) (ex_k C (cs' := 0) (ss' := 0) (wF := (wX1 g a0 r0 q0_0 (sa x4 7 (upd (x4.2.2.1 7) 2 (((x4.2.2.1 7) 2) + (1 : Int32)))) ++ wX5 g q0_0 r1 s1)) [0, 1, 2, 3, 4, 5, 6, 7, 8, 9, 10, 11, 12] rfl rfl ?_)
  refine z_iconst (pc := 35) C dX1_discardCard_35 ic_m1 ?_
  replace h := ob_e h
  obtain ⟨x6, hx6, h⟩ := h
  refine z_callV (pc := 36) (As := [.int (1 : Int32), .int x5, .int (-1 : Int32)]) (rest := []) (wr := (wX5 g q0_0 r1 s1)) C dX1_discardCard_36 ml_RX1_171 wv_X1_writeLog (m_X1_writeLog (a0 := a0) (r0 := r0) (q0_0 := q0_0) hg hx6) [0, 1, 2, 3, 4, 5, 6, 7, 8] [9, 10, 11, 12] rfl rfl ⟨by decide, by decide⟩ (Nat.le_of_ble_eq_true rfl) ⟨by decide, by decide⟩ rfl rfl rfl rfl rfl rfl rfl (by decide) (ex_k C (cs' := 0) (ss' := 0) (wF := (wX1 g a0 r0 q0_0 x6 ++ wX5 g q0_0 r1 s1)) [4, 5, 6, 7, 8, 9, 10, 11, 12, 0, 1, 2, 3] rfl rfl ?_)
  refine z_aload_n (pc := 39) (x := a0) C dX1_discardCard_39 (i := 0) rfl rfl ?_
  refine z_aload_n (pc := 40) (x := a0) C dX1_discardCard_40 (i := 0) rfl rfl ?_
  refine z_get (pc := 41) (v := .int (x6.1 4)) C 0 dX1_discardCard_41 fl_RX1_52 rfl rfl ?_
  replace h := ob_e h
  obtain ⟨x7, hx7, h⟩ := h
  refine z_callV (pc := 44) (As := [.int (x6.1 4)]) (rest := []) (wr := ([] : va_W)) C dX1_discardCard_44 ml_RX1_94 wv_X1_drawCard (m_X1_drawCard (a0 := a0) (r0 := r0) (q0_0 := q0_0) (r1 := r1) hg hx7) [0, 1, 2, 3, 4, 5, 6, 7, 8, 9, 10, 11, 12] [] rfl rfl ⟨by decide, by decide⟩ (Nat.le_of_ble_eq_true rfl) ⟨by decide, by decide⟩ rfl rfl rfl rfl rfl rfl rfl (by decide) (ex_k C (cs' := 0) (ss' := 0) (wF := (wX1 g a0 r0 q0_0 x7 ++ wX5 g q0_0 r1 s1)) [0, 1, 2, 3, 4, 5, 6, 7, 8, 9, 10, 11, 12] rfl rfl ?_)
  refine z_aload_n (pc := 47) (x := a0) C dX1_discardCard_47 (i := 0) rfl rfl ?_
  replace h := ob_e h
  obtain ⟨x8, hx8, h⟩ := h
  refine z_callV (pc := 48) (As := []) (rest := []) (wr := ([] : va_W)) C dX1_discardCard_48 ml_RX1_178 wv_X1_endTurn (m_X1_endTurn (a0 := a0) (r0 := r0) (q0_0 := q0_0) (r1 := r1) hg hx8) [0, 1, 2, 3, 4, 5, 6, 7, 8, 9, 10, 11, 12] [] rfl rfl ⟨by decide, by decide⟩ (Nat.le_of_ble_eq_true rfl) ⟨by decide, by decide⟩ rfl rfl rfl rfl rfl rfl rfl (by decide) (ex_k C (cs' := 0) (ss' := 0) (wF := (wX1 g a0 r0 q0_0 x8 ++ wX5 g q0_0 r1 s1)) [0, 1, 2, 3, 4, 5, 6, 7, 8, 9, 10, 11, 12] rfl rfl ?_)
  exact z_vret C X dX1_discardCard_51 (by rw [← Option.some.inj h]; exact ⟨rfl, rfl⟩) (by decide) (by decide)
def f_X7_kindsOfWord (N : Nat) (p0 : Int32) (p1 : Int32) : Option (Int32) := (if p0 = 0 then (some ((31 : Int32) <<< ((p1 * (5 : Int32)) &&& 31))) else (some ((33825 : Int32) <<< ((p1 - (1 : Int32)) &&& 31))))
theorem m_X7_kindsOfWord {g : Gp}  {N : Nat} {p0 : Int32} {p1 : Int32} {res : Int32} (hg : Ok g) (h : f_X7_kindsOfWord N p0 p1 = some res) : Ct g yX7_kindsOfWord cX7_kindsOfWord 2 (some .int) (zrm 0 0) [.int p0, .int p1] ([] : va_W) (exR (some (.int res)) ([] : va_W)) := by
  refine ct_of rfl hg (by show _ ≤ _; exact Nat.le_of_ble_eq_true rfl) (fun K C X => ?_)
  show Zs K 0 0 ([] : va_W) [(0, .int p0), (1, .int p1)] 0 []
  unfold f_X7_kindsOfWord at h
  refine z_iload_n (pc := 0) (x := p0) C dX7_kindsOfWord_0 (i := 0) rfl rfl ?_
  refine z_if_ne (pc := 1) C dX7_kindsOfWord_1 (tgt := 13) (by decide) (fun hc => ?_) (fun hc => ?_)
  · replace h := (ite_e h).2 hc
    refine z_ldcw (pc := 13) C dX7_kindsOfWord_13 ki_RX7_382 ?_
    refine z_iload_n (pc := 16) (x := p1) C dX7_kindsOfWord_16 (i := 1) rfl rfl ?_
    refine z_iconst (pc := 17) C dX7_kindsOfWord_17 ic_1 ?_
    refine z_isub (pc := 18) C dX7_kindsOfWord_18 ?_
    refine z_ishl (pc := 19) C dX7_kindsOfWord_19 ?_
    exact z_iret C X dX7_kindsOfWord_20 (by rw [← Option.some.inj h]; exact ⟨rfl, rfl⟩) (by decide) (by decide)
  · replace h := (ite_e h).1 hc
    refine z_bipush (pc := 4) C dX7_kindsOfWord_4 bp_31 ?_
    refine z_iload_n (pc := 6) (x := p1) C dX7_kindsOfWord_6 (i := 1) rfl rfl ?_
    refine z_iconst (pc := 7) C dX7_kindsOfWord_7 ic_5 ?_
    refine z_imul (pc := 8) C dX7_kindsOfWord_8 ?_
    refine z_ishl (pc := 9) C dX7_kindsOfWord_9 ?_
    refine z_goto (pc := 10) C dX7_kindsOfWord_10 (tgt := 20) (by decide) ?_
    exact z_iret C X dX7_kindsOfWord_20 (by rw [← Option.some.inj h]; exact ⟨rfl, rfl⟩) (by decide) (by decide)
def f_X7_isIn (N : Nat) (p0 : Int32) (p1 : Int32) : Option (Int32) := (if ((p1 >>> (p0 &&& 31)) &&& (1 : Int32)) = 0 then (some (0 : Int32)) else (some (1 : Int32)))
theorem m_X7_isIn {g : Gp}  {N : Nat} {p0 : Int32} {p1 : Int32} {res : Int32} (hg : Ok g) (h : f_X7_isIn N p0 p1 = some res) : Ct g yX7_isIn cX7_isIn 2 (some .boolean) (zrm 0 0) [.int p0, .int p1] ([] : va_W) (exR (some (.int res)) ([] : va_W)) := by
  refine ct_of rfl hg (by show _ ≤ _; exact Nat.le_of_ble_eq_true rfl) (fun K C X => ?_)
  show Zs K 0 0 ([] : va_W) [(0, .int p0), (1, .int p1)] 0 []
  unfold f_X7_isIn at h
  refine z_iload_n (pc := 0) (x := p1) C dX7_isIn_0 (i := 1) rfl rfl ?_
  refine z_iload_n (pc := 1) (x := p0) C dX7_isIn_1 (i := 0) rfl rfl ?_
  refine z_ishr (pc := 2) C dX7_isIn_2 ?_
  refine z_iconst (pc := 3) C dX7_isIn_3 ic_1 ?_
  refine z_iand (pc := 4) C dX7_isIn_4 ?_
  refine z_if_eq (pc := 5) C dX7_isIn_5 (tgt := 12) (by decide) (fun hc => ?_) (fun hc => ?_)
  · replace h := (ite_e h).1 hc
    refine z_iconst (pc := 12) C dX7_isIn_12 ic_0 ?_
    exact z_zret C X dX7_isIn_13 rfl (by rw [← Option.some.inj h]; exact ⟨rfl, rfl⟩) (by decide) (by decide)
  · replace h := (ite_e h).2 hc
    refine z_iconst (pc := 8) C dX7_isIn_8 ic_1 ?_
    refine z_goto (pc := 9) C dX7_isIn_9 (tgt := 13) (by decide) ?_
    exact z_zret C X dX7_isIn_13 rfl (by rw [← Option.some.inj h]; exact ⟨rfl, rfl⟩) (by decide) (by decide)
def f_X1_learn_56 (N : Nat) (s1 : Ob) (p1 : Int32) (p2 : Int32)  (v3 : Int32) (t1 : Int32) (t2 : Int32) (t3 : Int32) (s0 : Ob) : Option (Int32 × Ob) := (chk (inb t1 40) (chk (zisB v3) (some (v3, (sa s0 14 (upd (s0.2.2.1 14) (t1).toNatClampNeg (t2 &&& t3)))))))
theorem m_X1_learn_56 {K : Kt} {g : Gp} {a0 : Nat} {r0 : Nat → Nat} {q0_0 : Nat} {r1 : Nat → Nat} {N : Nat} {s1 : Ob} {p1 : Int32} {p2 : Int32} {res : Int32 × Ob} (hg : Ok g) (C : Cx K g cX1_learn RX1 4 (zrm 1 21)) (X : Rx K (exR (some (.int res.1)) (wX1 g a0 r0 q0_0 res.2 ++ wX5 g q0_0 r1 s1)) 0 0 (some .boolean)) (v3 : Int32) (t1 : Int32) (t2 : Int32) (t3 : Int32) (s0 : Ob) (h : f_X1_learn_56 N s1 p1 p2 v3 t1 t2 t3 s0 = some res) : Zs K 0 0 (wX1 g a0 r0 q0_0 s0 ++ wX5 g q0_0 r1 s1) [(3, .int v3)] 56 [.int t3, .int t2, .int t1, .ref (r0 14)] := by
  unfold f_X1_learn_56 at h
  refine z_iand (pc := 56) C dX1_learn_56 ?_
  replace h := chk_e h
  obtain ⟨hb4, h⟩ := h
  refine z_iast (pc := 57) C 7 dX1_learn_57 rfl hb4 (ws' := (wX1 g a0 r0 q0_0 (sa s0 14 (upd (s0.2.2.1 14) (t1).toNatClampNeg (t2 &&& t3))) ++ wX5 g q0_0 r1 s1)) rfl ?_
  refine z_iload_n (pc := 58) (x := v3) C dX1_learn_58 (i := 3) rfl rfl ?_
  replace h := chk_e h
  obtain ⟨hb5, h⟩ := h
  exact z_zret C X dX1_learn_59 (zisB_nar hb5) (by rw [← Option.some.inj h]; exact ⟨rfl, rfl⟩) (by decide) (by decide)
def f_X1_learn_38 (N : Nat) (s1 : Ob) (p1 : Int32) (p2 : Int32)  (v3 : Int32) (s0 : Ob) : Option (Int32 × Ob) := (chk (inb p1 40) (if v3 = 0 then (f_X1_learn_56 N s1 p1 p2 v3 p1 ((s0.2.2.1 14) (p1).toNatClampNeg) (p2 ^^^ (-1 : Int32)) s0) else (f_X1_learn_56 N s1 p1 p2 v3 p1 ((s0.2.2.1 14) (p1).toNatClampNeg) p2 s0)))
theorem m_X1_learn_38 {K : Kt} {g : Gp} {a0 : Nat} {r0 : Nat → Nat} {q0_0 : Nat} {r1 : Nat → Nat} {N : Nat} {s1 : Ob} {p1 : Int32} {p2 : Int32} {res : Int32 × Ob} (hg : Ok g) (C : Cx K g cX1_learn RX1 4 (zrm 1 21)) (X : Rx K (exR (some (.int res.1)) (wX1 g a0 r0 q0_0 res.2 ++ wX5 g q0_0 r1 s1)) 0 0 (some .boolean)) (v3 : Int32) (s0 : Ob) (h : f_X1_learn_38 N s1 p1 p2 v3 s0 = some res) : Zs K 0 0 (wX1 g a0 r0 q0_0 s0 ++ wX5 g q0_0 r1 s1) [(0, .ref a0), (1, .int p1), (2, .int p2), (3, .int v3)] 38 [] := by
  unfold f_X1_learn_38 at h
  refine z_aload_n (pc := 38) (x := a0) C dX1_learn_38 (i := 0) rfl rfl ?_
  refine z_get (pc := 39) (v := .ref (r0 14)) C 0 dX1_learn_39 fl_RX1_32 rfl rfl ?_
  refine z_iload_n (pc := 42) (x := p1) C dX1_learn_42 (i := 1) rfl rfl ?_
  refine z_dup2 (pc := 43) C dX1_learn_43 rfl rfl ?_
  replace h := chk_e h
  obtain ⟨hb3, h⟩ := h
  refine z_iald (pc := 44) C 7 dX1_learn_44 rfl hb3 ?_
  refine z_iload_n (pc := 45) (x := v3) C dX1_learn_45 (i := 3) rfl rfl ?_
  refine z_if_eq (pc := 46) C dX1_learn_46 (tgt := 53) (by decide) (fun hc => ?_) (fun hc => ?_)
  · replace h := (ite_e h).1 hc
    refine z_iload_n (pc := 53) (x := p2) C dX1_learn_53 (i := 2) rfl rfl ?_
    refine z_iconst (pc := 54) C dX1_learn_54 ic_m1 ?_
    refine z_ixor (pc := 55) C dX1_learn_55 ?_
    refine z_lv (lv' := [(3, .int v3)]) [3] rfl ?_
    exact m_X1_learn_56 (a0 := a0) (r0 := r0) (q0_0 := q0_0) (r1 := r1) hg C X v3 p1 ((s0.2.2.1 14) (p1).toNatClampNeg) (p2 ^^^ (-1 : Int32)) s0 h
  · replace h := (ite_e h).2 hc
    refine z_iload_n (pc := 49) (x := p2) C dX1_learn_49 (i := 2) rfl rfl ?_
    refine z_goto (pc := 50) C dX1_learn_50 (tgt := 56) (by decide) ?_
    refine z_lv (lv' := [(3, .int v3)]) [3] rfl ?_
    exact m_X1_learn_56 (a0 := a0) (r0 := r0) (q0_0 := q0_0) (r1 := r1) hg C X v3 p1 ((s0.2.2.1 14) (p1).toNatClampNeg) p2 s0 h
def f_X1_learn (N : Nat) (s0 : Ob) (s1 : Ob) (p1 : Int32) (p2 : Int32) : Option (Int32 × Ob) := (if p1 < 0 then (some ((0 : Int32), s0)) else (if p1 < (40 : Int32) then (ob (f_X1_kindOf N s0 s1 p1) fun x1 => (ob (f_X7_isIn N x1 p2) fun x2 => (if x2 = 0 then (f_X1_learn_38 N s1 p1 p2 x2 s0) else (f_X1_learn_38 N s1 p1 p2 x2 (sl s0 8 ((s0.2.1 8) ||| ((1 : Int64) <<< ((p1).toInt64 &&& 63)))))))) else (some ((0 : Int32), s0))))
theorem m_X1_learn {g : Gp} {a0 : Nat} {r0 : Nat → Nat} {q0_0 : Nat} {r1 : Nat → Nat} {N : Nat} {s0 : Ob} {s1 : Ob} {p1 : Int32} {p2 : Int32} {res : Int32 × Ob} (hg : Ok g) (h : f_X1_learn N s0 s1 p1 p2 = some res) : Ct g yX1_learn cX1_learn 4 (some .boolean) (zrm 1 21) [.ref a0, .int p1, .int p2] (wX1 g a0 r0 q0_0 s0 ++ wX5 g q0_0 r1 s1) (exR (some (.int res.1)) (wX1 g a0 r0 q0_0 res.2 ++ wX5 g q0_0 r1 s1)) := by
  refine ct_of rfl hg (by show _ ≤ _; exact Nat.le_of_ble_eq_true rfl) (fun K C X => ?_)
  show Zs K 0 0 (wX1 g a0 r0 q0_0 s0 ++ wX5 g q0_0 r1 s1) [(0, .ref a0), (1, .int p1), (2, .int p2)] 0 []
  unfold f_X1_learn at h
  refine z_iload_n (pc := 0) (x := p1) C dX1_learn_0 (i := 1) rfl rfl ?_
  refine z_if_lt (pc := 1) C dX1_learn_1 (tgt := 10) (by decide) (fun hc => ?_) (fun hc => ?_)
  · replace h := (ite_e h).1 hc
    refine z_iconst (pc := 10) C dX1_learn_10 ic_0 ?_
    exact z_zret C X dX1_learn_11 rfl (by rw [← Option.some.inj h]; exact ⟨rfl, rfl⟩) (by decide) (by decide)
  · replace h := (ite_e h).2 hc
    refine z_iload_n (pc := 4) (x := p1) C dX1_learn_4 (i := 1) rfl rfl ?_
    refine z_bipush (pc := 5) C dX1_learn_5 bp_40 ?_
    refine z_icmp_lt (pc := 7) C dX1_learn_7 (tgt := 12) (by decide) (fun hc => ?_) (fun hc => ?_)
    · replace h := (ite_e h).1 hc
      refine z_aload_n (pc := 12) (x := a0) C dX1_learn_12 (i := 0) rfl rfl ?_
      refine z_iload_n (pc := 13) (x := p1) C dX1_learn_13 (i := 1) rfl rfl ?_
      replace h := ob_e h
      obtain ⟨x1, hx1, h⟩ := h
      refine z_callV (pc := 14) (As := [.int p1]) (rest := []) (wr := ([] : va_W)) C dX1_learn_14 ml_RX1_127 wv_X1_kindOf (m_X1_kindOf (a0 := a0) (r0 := r0) (q0_0 := q0_0) (r1 := r1) hg hx1) [0, 1, 2, 3, 4, 5, 6, 7, 8, 9, 10, 11, 12] [] rfl rfl ⟨by decide, by decide⟩ (Nat.le_of_ble_eq_true rfl) ⟨by decide, by decide⟩ rfl rfl rfl rfl rfl rfl rfl (by decide) (ex_k C (cs' := 0) (ss' := 0) (wF := (wX1 g a0 r0 q0_0 s0 ++ wX5 g q0_0 r1 s1)) [0, 1, 2, 3, 4, 5, 6, 7, 8, 9, 10, 11, 12] rfl rfl ?_)
      refine z_iload_n (pc := 17) (x := p2) C dX1_learn_17 (i := 2) rfl rfl ?_
      replace h := ob_e h
      obtain ⟨x2, hx2, h⟩ := h
      refine z_callSN (pc := 18) (As := [.int x1, .int p2]) (rest := []) (wr := (wX1 g a0 r0 q0_0 s0 ++ wX5 g q0_0 r1 s1)) C dX1_learn_18 mn_RX1_146 wt_X7_isIn (m_X7_isIn hg hx2) [] [0, 1, 2, 3, 4, 5, 6, 7, 8, 9, 10, 11, 12] rfl rfl ⟨by decide, by decide⟩ (Nat.le_of_ble_eq_true rfl) ⟨by decide, by decide⟩ rfl rfl rfl rfl (by decide) (ex_k C (cs' := 0) (ss' := 0) (wF := (wX1 g a0 r0 q0_0 s0 ++ wX5 g q0_0 r1 s1)) [0, 1, 2, 3, 4, 5, 6, 7, 8, 9, 10, 11, 12] rfl rfl ?_)
      refine z_istore_n (pc := 21) C dX1_learn_21 (i := 3) rfl (by decide) (lv' := [(3, .int x2), (0, .ref a0), (1, .int p1), (2, .int p2)]) rfl ?_
      refine z_iload_n (pc := 22) (x := x2) C dX1_learn_22 (i := 3) rfl rfl ?_
      refine z_if_eq (pc := 23) C dX1_learn_23 (tgt := 38) (by decide) (fun hc => ?_) (fun hc => ?_)
      · replace h := (ite_e h).1 hc
        refine z_lv (lv' := [(0, .ref a0), (1, .int p1), (2, .int p2), (3, .int x2)]) [1, 2, 3, 0] rfl ?_
        exact m_X1_learn_38 (a0 := a0) (r0 := r0) (q0_0 := q0_0) (r1 := r1) hg C X x2 s0 h
      · replace h := (ite_e h).2 hc
        refine z_aload_n (pc := 26) (x := a0) C dX1_learn_26 (i := 0) rfl rfl ?_
        refine z_dup (pc := 27) C dX1_learn_27 rfl ?_
        refine z_get (pc := 28) (v := .long (s0.2.1 8)) C 0 dX1_learn_28 fl_RX1_61 rfl rfl ?_
        refine z_lconst (pc := 31) (v := (1 : Int64)) C dX1_learn_31 rfl ?_
        refine z_iload_n (pc := 32) (x := p1) C dX1_learn_32 (i := 1) rfl rfl ?_
        refine z_lshl (pc := 33) C dX1_learn_33 ?_
        refine z_lor (pc := 34) C dX1_learn_34 ?_
        refine z_put (pc := 35) C 0 dX1_learn_35 fp_RX1_61 rfl rfl rfl (zlt_b rfl) (ws' := (wX1 g a0 r0 q0_0 (sl s0 8 ((s0.2.1 8) ||| ((1 : Int64) <<< ((p1).toInt64 &&& 63)))) ++ wX5 g q0_0 r1 s1)) rfl ?_
        refine z_lv (lv' := [(0, .ref a0), (1, .int p1), (2, .int p2), (3, .int x2)]) [1, 2, 3, 0] rfl ?_
        exact m_X1_learn_38 (a0 := a0) (r0 := r0) (q0_0 := q0_0) (r1 := r1) hg C X x2 (sl s0 8 ((s0.2.1 8) ||| ((1 : Int64) <<< ((p1).toInt64 &&& 63)))) h
    · replace h := (ite_e h).2 hc
      refine z_iconst (pc := 10) C dX1_learn_10 ic_0 ?_
      exact z_zret C X dX1_learn_11 rfl (by rw [← Option.some.inj h]; exact ⟨rfl, rfl⟩) (by decide) (by decide)
def f_X5_indexOfWord (N : Nat) (p0 : Int32) (p1 : Int32) : Option (Int32) := (if p0 = 0 then (if p1 < 0 then (some (-1 : Int32)) else (if (4 : Int32) ≤ p1 then (some (-1 : Int32)) else (some p1))) else (if p1 < (1 : Int32) then (some (-1 : Int32)) else (if (5 : Int32) < p1 then (some (-1 : Int32)) else (some (((4 : Int32) + p1) - (1 : Int32))))))
theorem m_X5_indexOfWord {g : Gp}  {N : Nat} {p0 : Int32} {p1 : Int32} {res : Int32} (hg : Ok g) (h : f_X5_indexOfWord N p0 p1 = some res) : Ct g yX5_indexOfWord cX5_indexOfWord 2 (some .int) (zrm 0 0) [.int p0, .int p1] ([] : va_W) (exR (some (.int res)) ([] : va_W)) := by
  refine ct_of rfl hg (by show _ ≤ _; exact Nat.le_of_ble_eq_true rfl) (fun K C X => ?_)
  show Zs K 0 0 ([] : va_W) [(0, .int p0), (1, .int p1)] 0 []
  unfold f_X5_indexOfWord at h
  refine z_iload_n (pc := 0) (x := p0) C dX5_indexOfWord_0 (i := 0) rfl rfl ?_
  refine z_if_ne (pc := 1) C dX5_indexOfWord_1 (tgt := 19) (by decide) (fun hc => ?_) (fun hc => ?_)
  · replace h := (ite_e h).2 hc
    refine z_iload_n (pc := 19) (x := p1) C dX5_indexOfWord_19 (i := 1) rfl rfl ?_
    refine z_iconst (pc := 20) C dX5_indexOfWord_20 ic_1 ?_
    refine z_icmp_lt (pc := 21) C dX5_indexOfWord_21 (tgt := 37) (by decide) (fun hc => ?_) (fun hc => ?_)
    · replace h := (ite_e h).1 hc
      refine z_iconst (pc := 37) C dX5_indexOfWord_37 ic_m1 ?_
      exact z_iret C X dX5_indexOfWord_38 (by rw [← Option.some.inj h]; exact ⟨rfl, rfl⟩) (by decide) (by decide)
    · replace h := (ite_e h).2 hc
      refine z_iload_n (pc := 24) (x := p1) C dX5_indexOfWord_24 (i := 1) rfl rfl ?_
      refine z_iconst (pc := 25) C dX5_indexOfWord_25 ic_5 ?_
      refine z_icmp_gt (pc := 26) C dX5_indexOfWord_26 (tgt := 37) (by decide) (fun hc => ?_) (fun hc => ?_)
      · replace h := (ite_e h).1 hc
        refine z_iconst (pc := 37) C dX5_indexOfWord_37 ic_m1 ?_
        exact z_iret C X dX5_indexOfWord_38 (by rw [← Option.some.inj h]; exact ⟨rfl, rfl⟩) (by decide) (by decide)
      · replace h := (ite_e h).2 hc
        refine z_iconst (pc := 29) C dX5_indexOfWord_29 ic_4 ?_
        refine z_iload_n (pc := 30) (x := p1) C dX5_indexOfWord_30 (i := 1) rfl rfl ?_
        refine z_iadd (pc := 31) C dX5_indexOfWord_31 ?_
        refine z_iconst (pc := 32) C dX5_indexOfWord_32 ic_1 ?_
        refine z_isub (pc := 33) C dX5_indexOfWord_33 ?_
        refine z_goto (pc := 34) C dX5_indexOfWord_34 (tgt := 38) (by decide) ?_
        exact z_iret C X dX5_indexOfWord_38 (by rw [← Option.some.inj h]; exact ⟨rfl, rfl⟩) (by decide) (by decide)
  · replace h := (ite_e h).1 hc
    refine z_iload_n (pc := 4) (x := p1) C dX5_indexOfWord_4 (i := 1) rfl rfl ?_
    refine z_if_lt (pc := 5) C dX5_indexOfWord_5 (tgt := 17) (by decide) (fun hc => ?_) (fun hc => ?_)
    · replace h := (ite_e h).1 hc
      refine z_iconst (pc := 17) C dX5_indexOfWord_17 ic_m1 ?_
      exact z_iret C X dX5_indexOfWord_18 (by rw [← Option.some.inj h]; exact ⟨rfl, rfl⟩) (by decide) (by decide)
    · replace h := (ite_e h).2 hc
      refine z_iload_n (pc := 8) (x := p1) C dX5_indexOfWord_8 (i := 1) rfl rfl ?_
      refine z_iconst (pc := 9) C dX5_indexOfWord_9 ic_4 ?_
      refine z_icmp_ge (pc := 10) C dX5_indexOfWord_10 (tgt := 17) (by decide) (fun hc => ?_) (fun hc => ?_)
      · replace h := (ite_e h).1 hc
        refine z_iconst (pc := 17) C dX5_indexOfWord_17 ic_m1 ?_
        exact z_iret C X dX5_indexOfWord_18 (by rw [← Option.some.inj h]; exact ⟨rfl, rfl⟩) (by decide) (by decide)
      · replace h := (ite_e h).2 hc
        refine z_iload_n (pc := 13) (x := p1) C dX5_indexOfWord_13 (i := 1) rfl rfl ?_
        refine z_goto (pc := 14) C dX5_indexOfWord_14 (tgt := 18) (by decide) ?_
        exact z_iret C X dX5_indexOfWord_18 (by rw [← Option.some.inj h]; exact ⟨rfl, rfl⟩) (by decide) (by decide)
def f_X1_giveHint_72 (N : Nat) (s1 : Ob) (p1 : Int32) (p2 : Int32) (p3 : Int32)  (v5 : Int32) (s0 : Ob) : Option (Int32 × Ob) := (znm (si s0 2 ((s0.1 2) - (1 : Int32))) fun y4 => (znm (sa y4 7 (upd (y4.2.2.1 7) 3 (((s0.2.2.1 7) 3) + (1 : Int32)))) fun y5 => (ob (f_X1_writeLog N (sa y5 7 (upd (y5.2.2.1 7) 5 (((upd (y4.2.2.1 7) 3 (((s0.2.2.1 7) 3) + (1 : Int32))) 5) + v5))) (2 : Int32) p1 (((10 : Int32) * p2) + p3)) fun x6 => (ob (f_X1_endTurn N x6 s1) fun x7 => (some (v5, x7))))))
theorem m_X1_giveHint_72 {K : Kt} {g : Gp} {a0 : Nat} {r0 : Nat → Nat} {q0_0 : Nat} {r1 : Nat → Nat} {N : Nat} {s1 : Ob} {p1 : Int32} {p2 : Int32} {p3 : Int32} {res : Int32 × Ob} (hg : Ok g) (C : Cx K g cX1_giveHint RX1 7 (zrm 2 44)) (X : Rx K (exR (some (.int res.1)) (wX1 g a0 r0 q0_0 res.2 ++ wX5 g q0_0 r1 s1)) 0 0 (some .int)) (v5 : Int32) (s0 : Ob) (h : f_X1_giveHint_72 N s1 p1 p2 p3 v5 s0 = some res) : Zs K 0 0 (wX1 g a0 r0 q0_0 s0 ++ wX5 g q0_0 r1 s1) [(0, .ref a0), (1, .int p1), (2, .int p2), (3, .int p3), (5, .int v5)] 72 [] := by
  unfold f_X1_giveHint_72 at h
  refine z_aload_n (pc := 72) (x := a0) C dX1_giveHint_72 (i := 0) rfl rfl ?_
  refine z_dup (pc := 73) C dX1_giveHint_73 rfl ?_
  refine z_get (pc := 74) (v := .int (s0.1 2)) C 0 dX1_giveHint_74 fl_RX1_46 rfl rfl ?_
  refine z_iconst (pc := 77) C dX1_giveHint_77 ic_1 ?_
  refine z_isub (pc := 78) C dX1_giveHint_78 ?_
  refine z_put (pc := 79) C 0 dX1_giveHint_79 fp_RX1_46 rfl rfl rfl (zlt_b rfl) (ws' := (wX1 g a0 r0 q0_0 (si s0 2 ((s0.1 2) - (1 : Int32))) ++ wX5 g q0_0 r1 s1)) rfl ?_
  refine z_aload_n (pc := 82) (x := a0) C dX1_giveHint_82 (i := 0) rfl rfl ?_
  refine z_get (pc := 83) (v := .ref (r0 7)) C 0 dX1_giveHint_83 fl_RX1_11 rfl rfl ?_
  refine z_iconst (pc := 86) C dX1_giveHint_86 ic_3 ?_
  refine z_dup2 (pc := 87) C dX1_giveHint_87 rfl rfl ?_
  refine z_iald (pc := 88) C 1 dX1_giveHint_88 rfl (by decide) ?_
  refine z_iconst (pc := 89) C dX1_giveHint_89 ic_1 ?_
  refine z_iadd (pc := 90) C dX1_giveHint_90 ?_
  replace h := znm_e h
  obtain ⟨y4, hy4, h⟩ := h
  refine z_wsE (ws' := (wX1 g a0 r0 q0_0 y4 ++ wX5 g q0_0 r1 s1)) (by rw [hy4]) ?_
  refine z_iast (pc := 91) C 1 dX1_giveHint_91 rfl (by decide) (ws' := (wX1 g a0 r0 q0_0 (sa y4 7 (upd (y4.2.2.1 7) 3 (((s0.2.2.1 7) 3) + (1 : Int32)))) ++ wX5 g q0_0 r1 s1)) rfl ?_
  refine z_aload_n (pc := 92) (x := a0) C dX1_giveHint_92 (i := 0) rfl rfl ?_
  refine z_get (pc := 93) (v := .ref (r0 7)) C 0 dX1_giveHint_93 fl_RX1_11 rfl rfl ?_
  refine z_iconst (pc := 96) C dX1_giveHint_96 ic_5 ?_
  refine z_dup2 (pc := 97) C dX1_giveHint_97 rfl rfl ?_
  refine z_iald (pc := 98) C 1 dX1_giveHint_98 rfl (by decide) ?_
  refine z_iload (pc := 99) (x := v5) C dX1_giveHint_99 rfl ?_
  refine z_iadd (pc := 101) C dX1_giveHint_101 ?_
  replace h := znm_e h
  obtain ⟨y5, hy5, h⟩ := h
  refine z_wsE (ws' := (wX1 g a0 r0 q0_0 y5 ++ wX5 g q0_0 r1 s1)) (by rw [hy5]) ?_
  refine z_iast (pc := 102) C 1 dX1_giveHint_102 rfl (by decide) (ws' := (wX1 g a0 r0 q0_0 (sa y5 7 (upd (y5.2.2.1 7) 5 (((upd (y4.2.2.1 7) 3 (((s0.2.2.1 7) 3) + (1 : Int32))) 5) + v5))) ++ wX5 g q0_0 r1 s1)) rfl ?_
  refine z_aload_n (pc := 103) (x := a0) C dX1_giveHint_103 (i := 0) rfl rfl ?_
  refine z_iconst (pc := 104) C dX1_giveHint_104 ic_2 ?_
  refine z_iload_n (pc := 105) (x := p1) C dX1_giveHint_105 (i := 1) rfl rfl ?_
  refine z_bipush (pc := 106) C dX1_giveHint_106 bp_10 ?_
  refine z_iload_n (pc := 108) (x := p2) C dX1_giveHint_108 (i := 2) rfl rfl ?_
  refine z_imul (pc := 109) C dX1_giveHint_109 ?_
  refine z_iload_n (pc := 110) (x := p3) C dX1_giveHint_110 (i := 3) rfl rfl ?_
  refine z_iadd (pc := 111) C dX1_giveHint_111 ?_
  replace h := ob_e h
  obtain ⟨x6, hx6, h⟩ := h
  refine z_callV (pc := 112) (As := [.int (2 : Int32), .int p1, .int (((10 : Int32) * p2) + p3)]) (rest := []) (wr := (wX5 g q0_0 r1 s1)) C dX1_giveHint_112 ml_RX1_171 wv_X1_writeLog (m_X1_writeLog (a0 := a0) (r0 := r0) (q0_0 := q0_0) hg hx6) [0, 1, 2, 3, 4, 5, 6, 7, 8] [9, 10, 11, 12] rfl rfl ⟨by decide, by decide⟩ (Nat.le_of_ble_eq_true rfl) ⟨by decide, by decide⟩ rfl rfl rfl rfl rfl rfl rfl (by decide) (ex_k C (cs' := 0) (ss' := 0) (wF := (wX1 g a0 r0 q0_0 x6 ++ wX5 g q0_0 r1 s1)) [4, 5, 6, 7, 8, 9, 10, 11, 12, 0, 1, 2, 3] rfl rfl ?_)
  refine z_aload_n (pc := 115) (x := a0) C dX1_giveHint_115 (i := 0) rfl rfl ?_
  replace h := ob_e h
  obtain ⟨x7, hx7, h⟩ := h
  refine z_callV (pc := 116) (As := []) (rest := []) (wr := ([] : va_W)) C dX1_giveHint_116 ml_RX1_178 wv_X1_endTurn (m_X1_endTurn (a0 := a0) (r0 := r0) (q0_0 := q0_0) (r1 := r1) hg hx7) [0, 1, 2, 3, 4, 5, 6, 7, 8, 9, 10, 11, 12] [] rfl rfl ⟨by decide, by decide⟩ (Nat.le_of_ble_eq_true rfl) ⟨by decide, by decide⟩ rfl rfl rfl rfl rfl rfl rfl (by decide) (ex_k C (cs' := 0) (ss' := 0) (wF := (wX1 g a0 r0 q0_0 x7 ++ wX5 g q0_0 r1 s1)) [0, 1, 2, 3, 4, 5, 6, 7, 8, 9, 10, 11, 12] rfl rfl ?_)
  refine z_iload (pc := 119) (x := v5) C dX1_giveHint_119 rfl ?_
  exact z_iret C X dX1_giveHint_121 (by rw [← Option.some.inj h]; exact ⟨rfl, rfl⟩) (by decide) (by decide)
def F_X1_giveHint_13 (N : Nat) (s1 : Ob) (p1 : Int32) (p2 : Int32) (p3 : Int32)  (k13 : Int32 → Int32 → Int32 → Ob → Option (Int32 × Ob)) (v4 : Int32) (v5 : Int32) (v6 : Int32) (s0 : Ob) : Option (Int32 × Ob) := (ob (f_X1_sizeOf N s0 p1) fun x2 => (if x2 ≤ v6 then (ob (f_X5_indexOfWord N p2 p3) fun x3 => (if x3 = (-1 : Int32) then (f_X1_giveHint_72 N s1 p1 p2 p3 v5 s0) else (chk (inb x3 9) (chk (inb x3 9) (f_X1_giveHint_72 N s1 p1 p2 p3 v5 (sa s0 13 (upd (s0.2.2.1 13) (x3).toNatClampNeg (((s0.2.2.1 13) (x3).toNatClampNeg) - (1 : Int32))))))))) else (ob (f_X1_cardAt N s0 p1 v6) fun x10 => (ob (f_X1_learn N s0 s1 x10 v4) fun x11 => (if x11.1 = 0 then (k13 v4 v5 (v6 + (1 : Int32)) x11.2) else (k13 v4 (v5 + (1 : Int32)) (v6 + (1 : Int32)) x11.2))))))
def f_X1_giveHint_13 (N : Nat) (s1 : Ob) (p1 : Int32) (p2 : Int32) (p3 : Int32)  : Nat → Int32 → Int32 → Int32 → Ob → Option (Int32 × Ob) := zlp (fun _ _ _ _ => none) (F_X1_giveHint_13 N s1 p1 p2 p3)
theorem m_X1_giveHint_13 {K : Kt} {g : Gp} {a0 : Nat} {r0 : Nat → Nat} {q0_0 : Nat} {r1 : Nat → Nat} {N : Nat} {s1 : Ob} {p1 : Int32} {p2 : Int32} {p3 : Int32} {res : Int32 × Ob} (hg : Ok g) (C : Cx K g cX1_giveHint RX1 7 (zrm 2 44)) (X : Rx K (exR (some (.int res.1)) (wX1 g a0 r0 q0_0 res.2 ++ wX5 g q0_0 r1 s1)) 0 0 (some .int)) : ∀ (n : Nat) (v4 : Int32) (v5 : Int32) (v6 : Int32) (s0 : Ob), f_X1_giveHint_13 N s1 p1 p2 p3 n v4 v5 v6 s0 = some res → Zs K 0 0 (wX1 g a0 r0 q0_0 s0 ++ wX5 g q0_0 r1 s1) [(0, .ref a0), (1, .int p1), (2, .int p2), (3, .int p3), (4, .int v4), (5, .int v5), (6, .int v6)] 13 [] := by
  intro n
  induction n with
  | zero => intro v4 v5 v6 s0 h; exact nomatch (show (none : Option (Int32 × Ob)) = some res from h)
  | succ n hk13 =>
    intro v4 v5 v6 s0 h
    replace h : F_X1_giveHint_13 N s1 p1 p2 p3 (f_X1_giveHint_13 N s1 p1 p2 p3 n) v4 v5 v6 s0 = some res := h
    unfold F_X1_giveHint_13 at h
    refine z_iload (pc := 13) (x := v6) C dX1_giveHint_13 rfl ?_
    refine z_aload_n (pc := 15) (x := a0) C dX1_giveHint_15 (i := 0) rfl rfl ?_
    refine z_iload_n (pc := 16) (x := p1) C dX1_giveHint_16 (i := 1) rfl rfl ?_
    replace h := ob_e h
    obtain ⟨x2, hx2, h⟩ := h
    refine z_callV (pc := 17) (As := [.int p1]) (rest := [.int v6]) (wr := (wX5 g q0_0 r1 s1)) C dX1_giveHint_17 ml_RX1_120 wv_X1_sizeOf (m_X1_sizeOf (a0 := a0) (r0 := r0) (q0_0 := q0_0) hg hx2) [0, 1, 2, 3, 4, 5, 6, 7, 8] [9, 10, 11, 12] rfl rfl ⟨by decide, by decide⟩ (Nat.le_of_ble_eq_true rfl) ⟨by decide, by decide⟩ rfl rfl rfl rfl rfl rfl rfl (by decide) (ex_k C (cs' := 0) (ss' := 0) (wF := (wX1 g a0 r0 q0_0 s0 ++ wX5 g q0_0 r1 s1)) [4, 5, 6, 7, 8, 9, 10, 11, 12, 0, 1, 2, 3] rfl rfl ?_)
    refine z_icmp_ge (pc := 20) C dX1_giveHint_20 (tgt := 48) (by decide) (fun hc => ?_) (fun hc => ?_)
    · replace h := (ite_e h).1 hc
      refine z_iload_n (pc := 48) (x := p2) C dX1_giveHint_48 (i := 2) rfl rfl ?_
      refine z_iload_n (pc := 49) (x := p3) C dX1_giveHint_49 (i := 3) rfl rfl ?_
      replace h := ob_e h
      obtain ⟨x3, hx3, h⟩ := h
      refine z_callS (pc := 50) (As := [.int p2, .int p3]) (rest := []) (wr := (wX1 g a0 r0 q0_0 s0 ++ wX5 g q0_0 r1 s1)) C dX1_giveHint_50 ml_RX1_116 wt_X5_indexOfWord (m_X5_indexOfWord hg hx3) [] [0, 1, 2, 3, 4, 5, 6, 7, 8, 9, 10, 11, 12] rfl rfl ⟨by decide, by decide⟩ (Nat.le_of_ble_eq_true rfl) ⟨by decide, by decide⟩ rfl rfl rfl rfl (by decide) (ex_k C (cs' := 0) (ss' := 0) (wF := (wX1 g a0 r0 q0_0 s0 ++ wX5 g q0_0 r1 s1)) [0, 1, 2, 3, 4, 5, 6, 7, 8, 9, 10, 11, 12] rfl rfl ?_)
      refine z_istore (pc := 53) C dX1_giveHint_53 (by decide) (lv' := [(6, .int x3), (0, .ref a0), (1, .int p1), (2, .int p2), (3, .int p3), (4, .int v4), (5, .int v5)]) rfl ?_
      refine z_iload (pc := 55) (x := x3) C dX1_giveHint_55 rfl ?_
      refine z_iconst (pc := 57) C dX1_giveHint_57 ic_m1 ?_
      refine z_icmp_eq (pc := 58) C dX1_giveHint_58 (tgt := 72) (by decide) (fun hc => ?_) (fun hc => ?_)
      · replace h := (ite_e h).1 hc
        refine z_lv (lv' := [(0, .ref a0), (1, .int p1), (2, .int p2), (3, .int p3), (5, .int v5)]) [1, 2, 3, 4, 6] rfl ?_
        exact m_X1_giveHint_72 (a0 := a0) (r0 := r0) (q0_0 := q0_0) (r1 := r1) hg C X v5 s0 h
      · replace h := (ite_e h).2 hc
        refine z_aload_n (pc := 61) (x := a0) C dX1_giveHint_61 (i := 0) rfl rfl ?_
        refine z_get (pc := 62) (v := .ref (r0 13)) C 0 dX1_giveHint_62 fl_RX1_29 rfl rfl ?_
        refine z_iload (pc := 65) (x := x3) C dX1_giveHint_65 rfl ?_
        refine z_dup2 (pc := 67) C dX1_giveHint_67 rfl rfl ?_
        replace h := chk_e h
        obtain ⟨hb8, h⟩ := h
        refine z_iald (pc := 68) C 6 dX1_giveHint_68 rfl hb8 ?_
        refine z_iconst (pc := 69) C dX1_giveHint_69 ic_1 ?_
        refine z_isub (pc := 70) C dX1_giveHint_70 ?_
        replace h := chk_e h
        obtain ⟨hb9, h⟩ := h
        refine z_iast (pc := 71) C 6 dX1_giveHint_71 rfl hb9 (ws' := (wX1 g a0 r0 q0_0 (sa s0 13 (upd (s0.2.2.1 13) (x3).toNatClampNeg (((s0.2.2.1 13) (x3).toNatClampNeg) - (1 : Int32)))) ++ wX5 g q0_0 r1 s1)) rfl ?_
        refine z_lv (lv' := [(0, .ref a0), (1, .int p1), (2, .int p2), (3, .int p3), (5, .int v5)]) [1, 2, 3, 4, 6] rfl ?_
        exact m_X1_giveHint_72 (a0 := a0) (r0 := r0) (q0_0 := q0_0) (r1 := r1) hg C X v5 (sa s0 13 (upd (s0.2.2.1 13) (x3).toNatClampNeg (((s0.2.2.1 13) (x3).toNatClampNeg) - (1 : Int32)))) h
    · replace h := (ite_e h).2 hc
      refine z_aload_n (pc := 23) (x := a0) C dX1_giveHint_23 (i := 0) rfl rfl ?_
      refine z_aload_n (pc := 24) (x := a0) C dX1_giveHint_24 (i := 0) rfl rfl ?_
      refine z_iload_n (pc := 25) (x := p1) C dX1_giveHint_25 (i := 1) rfl rfl ?_
      refine z_iload (pc := 26) (x := v6) C dX1_giveHint_26 rfl ?_
      replace h := ob_e h
      obtain ⟨x10, hx10, h⟩ := h
      refine z_callV (pc := 28) (As := [.int p1, .int v6]) (rest := [.ref a0]) (wr := (wX5 g q0_0 r1 s1)) C dX1_giveHint_28 ml_RX1_124 wv_X1_cardAt (m_X1_cardAt (a0 := a0) (r0 := r0) (q0_0 := q0_0) hg hx10) [0, 1, 2, 3, 4, 5, 6, 7, 8] [9, 10, 11, 12] rfl rfl ⟨by decide, by decide⟩ (Nat.le_of_ble_eq_true rfl) ⟨by decide, by decide⟩ rfl rfl rfl rfl rfl rfl rfl (by decide) (ex_k C (cs' := 0) (ss' := 0) (wF := (wX1 g a0 r0 q0_0 s0 ++ wX5 g q0_0 r1 s1)) [4, 5, 6, 7, 8, 9, 10, 11, 12, 0, 1, 2, 3] rfl rfl ?_)
      refine z_iload (pc := 31) (x := v4) C dX1_giveHint_31 rfl ?_
      replace h := ob_e h
      obtain ⟨x11, hx11, h⟩ := h
      refine z_callV (pc := 33) (As := [.int x10, .int v4]) (rest := []) (wr := ([] : va_W)) C dX1_giveHint_33 ml_RX1_181 wv_X1_learn (m_X1_learn (a0 := a0) (r0 := r0) (q0_0 := q0_0) (r1 := r1) hg hx11) [0, 1, 2, 3, 4, 5, 6, 7, 8, 9, 10, 11, 12] [] rfl rfl ⟨by decide, by decide⟩ (Nat.le_of_ble_eq_true rfl) ⟨by decide, by decide⟩ rfl rfl rfl rfl rfl rfl rfl (by decide) (ex_k C (cs' := 0) (ss' := 0) (wF := (wX1 g a0 r0 q0_0 x11.2 ++ wX5 g q0_0 r1 s1)) [0, 1, 2, 3, 4, 5, 6, 7, 8, 9, 10, 11, 12] rfl rfl ?_)
      refine z_if_eq (pc := 36) C dX1_giveHint_36 (tgt := 42) (by decide) (fun hc => ?_) (fun hc => ?_)
      · replace h := (ite_e h).1 hc
        refine z_iinc (pc := 42) C dX1_giveHint_42 rfl (inc_e 1 (1 : Int32) ic_1 v6) (by decide) (lv' := [(6, .int (v6 + (1 : Int32))), (0, .ref a0), (1, .int p1), (2, .int p2), (3, .int p3), (4, .int v4), (5, .int v5)]) rfl ?_
        refine z_goto (pc := 45) C dX1_giveHint_45 (tgt := 13) (by decide) ?_
        refine z_lv (lv' := [(0, .ref a0), (1, .int p1), (2, .int p2), (3, .int p3), (4, .int v4), (5, .int v5), (6, .int (v6 + (1 : Int32)))]) [1, 2, 3, 4, 5, 6, 0] rfl ?_
        exact hk13 v4 v5 (v6 + (1 : Int32)) x11.2 h
      · replace h := (ite_e h).2 hc
        refine z_iinc (pc := 39) C dX1_giveHint_39 rfl (inc_e 1 (1 : Int32) ic_1 v5) (by decide) (lv' := [(5, .int (v5 + (1 : Int32))), (0, .ref a0), (1, .int p1), (2, .int p2), (3, .int p3), (4, .int v4), (6, .int v6)]) rfl ?_
        refine z_iinc (pc := 42) C dX1_giveHint_42 rfl (inc_e 1 (1 : Int32) ic_1 v6) (by decide) (lv' := [(6, .int (v6 + (1 : Int32))), (5, .int (v5 + (1 : Int32))), (0, .ref a0), (1, .int p1), (2, .int p2), (3, .int p3), (4, .int v4)]) rfl ?_
        refine z_goto (pc := 45) C dX1_giveHint_45 (tgt := 13) (by decide) ?_
        refine z_lv (lv' := [(0, .ref a0), (1, .int p1), (2, .int p2), (3, .int p3), (4, .int v4), (5, .int (v5 + (1 : Int32))), (6, .int (v6 + (1 : Int32)))]) [2, 3, 4, 5, 6, 1, 0] rfl ?_
        exact hk13 v4 (v5 + (1 : Int32)) (v6 + (1 : Int32)) x11.2 h
def f_X1_giveHint (N : Nat) (s0 : Ob) (s1 : Ob) (p1 : Int32) (p2 : Int32) (p3 : Int32) : Option (Int32 × Ob) := (ob (f_X7_kindsOfWord N p2 p3) fun x1 => (f_X1_giveHint_13 N s1 p1 p2 p3 N x1 (0 : Int32) (0 : Int32) s0))
theorem m_X1_giveHint {g : Gp} {a0 : Nat} {r0 : Nat → Nat} {q0_0 : Nat} {r1 : Nat → Nat} {N : Nat} {s0 : Ob} {s1 : Ob} {p1 : Int32} {p2 : Int32} {p3 : Int32} {res : Int32 × Ob} (hg : Ok g) (h : f_X1_giveHint N s0 s1 p1 p2 p3 = some res) : Ct g yX1_giveHint cX1_giveHint 7 (some .int) (zrm 2 44) [.ref a0, .int p1, .int p2, .int p3] (wX1 g a0 r0 q0_0 s0 ++ wX5 g q0_0 r1 s1) (exR (some (.int res.1)) (wX1 g a0 r0 q0_0 res.2 ++ wX5 g q0_0 r1 s1)) := by
  refine ct_of rfl hg (by show _ ≤ _; exact Nat.le_of_ble_eq_true rfl) (fun K C X => ?_)
  show Zs K 0 0 (wX1 g a0 r0 q0_0 s0 ++ wX5 g q0_0 r1 s1) [(0, .ref a0), (1, .int p1), (2, .int p2), (3, .int p3)] 0 []
  unfold f_X1_giveHint at h
  refine z_iload_n (pc := 0) (x := p2) C dX1_giveHint_0 (i := 2) rfl rfl ?_
  refine z_iload_n (pc := 1) (x := p3) C dX1_giveHint_1 (i := 3) rfl rfl ?_
  replace h := ob_e h
  obtain ⟨x1, hx1, h⟩ := h
  refine z_callSN (pc := 2) (As := [.int p2, .int p3]) (rest := []) (wr := (wX1 g a0 r0 q0_0 s0 ++ wX5 g q0_0 r1 s1)) C dX1_giveHint_2 mn_RX1_153 wt_X7_kindsOfWord (m_X7_kindsOfWord hg hx1) [] [0, 1, 2, 3, 4, 5, 6, 7, 8, 9, 10, 11, 12] rfl rfl ⟨by decide, by decide⟩ (Nat.le_of_ble_eq_true rfl) ⟨by decide, by decide⟩ rfl rfl rfl rfl (by decide) (ex_k C (cs' := 0) (ss' := 0) (wF := (wX1 g a0 r0 q0_0 s0 ++ wX5 g q0_0 r1 s1)) [0, 1, 2, 3, 4, 5, 6, 7, 8, 9, 10, 11, 12] rfl rfl ?_)
  refine z_istore (pc := 5) C dX1_giveHint_5 (by decide) (lv' := [(4, .int x1), (0, .ref a0), (1, .int p1), (2, .int p2), (3, .int p3)]) rfl ?_
  refine z_iconst (pc := 7) C dX1_giveHint_7 ic_0 ?_
  refine z_istore (pc := 8) C dX1_giveHint_8 (by decide) (lv' := [(5, .int (0 : Int32)), (4, .int x1), (0, .ref a0), (1, .int p1), (2, .int p2), (3, .int p3)]) rfl ?_
  refine z_iconst (pc := 10) C dX1_giveHint_10 ic_0 ?_
  refine z_istore (pc := 11) C dX1_giveHint_11 (by decide) (lv' := [(6, .int (0 : Int32)), (5, .int (0 : Int32)), (4, .int x1), (0, .ref a0), (1, .int p1), (2, .int p2), (3, .int p3)]) rfl ?_
  refine z_lv (lv' := [(0, .ref a0), (1, .int p1), (2, .int p2), (3, .int p3), (4, .int x1), (5, .int (0 : Int32)), (6, .int (0 : Int32))]) [3, 4, 5, 6, 2, 1, 0] rfl ?_
  exact m_X1_giveHint_13 (a0 := a0) (r0 := r0) (q0_0 := q0_0) (r1 := r1) hg C X N x1 (0 : Int32) (0 : Int32) s0 h
def f_X1_passTurn (N : Nat) (s0 : Ob) (s1 : Ob) : Option (Ob) := (ob (f_X1_writeLog N s0 (3 : Int32) (-1 : Int32) (-1 : Int32)) fun x1 => (ob (f_X1_endTurn N x1 s1) fun x2 => (some x2)))
theorem m_X1_passTurn {g : Gp} {a0 : Nat} {r0 : Nat → Nat} {q0_0 : Nat} {r1 : Nat → Nat} {N : Nat} {s0 : Ob} {s1 : Ob} {res : Ob} (hg : Ok g) (h : f_X1_passTurn N s0 s1 = some res) : Ct g yX1_passTurn cX1_passTurn 1 none (zrm 1 24) [.ref a0] (wX1 g a0 r0 q0_0 s0 ++ wX5 g q0_0 r1 s1) (exR none (wX1 g a0 r0 q0_0 res ++ wX5 g q0_0 r1 s1)) := by
  refine ct_of rfl hg (by show _ ≤ _; exact Nat.le_of_ble_eq_true rfl) (fun K C X => ?_)
  show Zs K 0 0 (wX1 g a0 r0 q0_0 s0 ++ wX5 g q0_0 r1 s1) [(0, .ref a0)] 0 []
  unfold f_X1_passTurn at h
  refine z_aload_n (pc := 0) (x := a0) C dX1_passTurn_0 (i := 0) rfl rfl ?_
  refine z_iconst (pc := 1) C dX1_passTurn_1 ic_3 ?_
  refine z_iconst (pc := 2) C dX1_passTurn_2 ic_m1 ?_
  refine z_iconst (pc := 3) C dX1_passTurn_3 ic_m1 ?_
  replace h := ob_e h
  obtain ⟨x1, hx1, h⟩ := h
  refine z_callV (pc := 4) (As := [.int (3 : Int32), .int (-1 : Int32), .int (-1 : Int32)]) (rest := []) (wr := (wX5 g q0_0 r1 s1)) C dX1_passTurn_4 ml_RX1_171 wv_X1_writeLog (m_X1_writeLog (a0 := a0) (r0 := r0) (q0_0 := q0_0) hg hx1) [0, 1, 2, 3, 4, 5, 6, 7, 8] [9, 10, 11, 12] rfl rfl ⟨by decide, by decide⟩ (Nat.le_of_ble_eq_true rfl) ⟨by decide, by decide⟩ rfl rfl rfl rfl rfl rfl rfl (by decide) (ex_k C (cs' := 0) (ss' := 0) (wF := (wX1 g a0 r0 q0_0 x1 ++ wX5 g q0_0 r1 s1)) [4, 5, 6, 7, 8, 9, 10, 11, 12, 0, 1, 2, 3] rfl rfl ?_)
  refine z_aload_n (pc := 7) (x := a0) C dX1_passTurn_7 (i := 0) rfl rfl ?_
  replace h := ob_e h
  obtain ⟨x2, hx2, h⟩ := h
  refine z_callV (pc := 8) (As := []) (rest := []) (wr := ([] : va_W)) C dX1_passTurn_8 ml_RX1_178 wv_X1_endTurn (m_X1_endTurn (a0 := a0) (r0 := r0) (q0_0 := q0_0) (r1 := r1) hg hx2) [0, 1, 2, 3, 4, 5, 6, 7, 8, 9, 10, 11, 12] [] rfl rfl ⟨by decide, by decide⟩ (Nat.le_of_ble_eq_true rfl) ⟨by decide, by decide⟩ rfl rfl rfl rfl rfl rfl rfl (by decide) (ex_k C (cs' := 0) (ss' := 0) (wF := (wX1 g a0 r0 q0_0 x2 ++ wX5 g q0_0 r1 s1)) [0, 1, 2, 3, 4, 5, 6, 7, 8, 9, 10, 11, 12] rfl rfl ?_)
  exact z_vret C X dX1_passTurn_11 (by rw [← Option.some.inj h]; exact ⟨rfl, rfl⟩) (by decide) (by decide)
def f_X0_takeTurn (N : Nat) (s0 : Ob) (s1 : Ob) (s2 : Ob) : Option (Ob) := (if (s0.1 0) = (0 : Int32) then (ob (f_X1_playCard N s1 s2 (s0.1 1)) fun x1 => (some x1)) else (if (s0.1 0) = (1 : Int32) then (ob (f_X1_discardCard N s1 s2 (s0.1 1)) fun x2 => (some x2)) else (if (s0.1 0) = (2 : Int32) then (ob (f_X1_giveHint N s1 s2 (s0.1 1) (s0.1 2) (s0.1 3)) fun x3 => (some x3.2)) else (ob (f_X1_passTurn N s1 s2) fun x4 => (some x4)))))
theorem m_X0_takeTurn {g : Gp} {a0 : Nat} {a1 : Nat} {r0 : Nat → Nat} {q0_4 : Nat} {r1 : Nat → Nat} {q1_0 : Nat} {r2 : Nat → Nat} {N : Nat} {s0 : Ob} {s1 : Ob} {s2 : Ob} {res : Ob} (hg : Ok g) (h : f_X0_takeTurn N s0 s1 s2 = some res) : Ct g yX0_takeTurn cX0_takeTurn 2 none (zrm 5 111) [.ref a0, .ref a1] (wX0 g a0 r0 q0_4 s0 ++ wX1 g a1 r1 q1_0 s1 ++ wX5 g q1_0 r2 s2) (exR none (wX0 g a0 r0 q0_4 s0 ++ wX1 g a1 r1 q1_0 res ++ wX5 g q1_0 r2 s2)) := by
  refine ct_of rfl hg (by show _ ≤ _; exact Nat.le_of_ble_eq_true rfl) (fun K C X => ?_)
  show Zs K 0 0 (wX0 g a0 r0 q0_4 s0 ++ wX1 g a1 r1 q1_0 s1 ++ wX5 g q1_0 r2 s2) [(0, .ref a0), (1, .ref a1)] 0 []
  unfold f_X0_takeTurn at h
  refine z_aload_n (pc := 0) (x := a0) C dX0_takeTurn_0 (i := 0) rfl rfl ?_
  refine z_get (pc := 1) (v := .int (s0.1 0)) C 0 dX0_takeTurn_1 fl_RX0_15 rfl rfl ?_
  refine (Decidable.em ((s0.1 0) = (0 : Int32))).elim (fun hc => ?_) (fun hn0 => ?_)
  · refine z_tswIn (pc := 4) C (0 : Int32) dX0_takeTurn_4 hc (by decide) (by decide) (off := 28) rfl (tgt := 32) (by decide) ?_
    replace h := (ite_e h).1 hc
    refine z_aload_n (pc := 32) (x := a1) C dX0_takeTurn_32 (i := 1) rfl rfl ?_
    refine z_aload_n (pc := 33) (x := a0) C dX0_takeTurn_33 (i := 0) rfl rfl ?_
    refine z_get (pc := 34) (v := .int (s0.1 1)) C 0 dX0_takeTurn_34 fl_RX0_19 rfl rfl ?_
    replace h := ob_e h
    obtain ⟨x1, hx1, h⟩ := h
    refine z_callV (pc := 37) (As := [.int (s0.1 1)]) (rest := []) (wr := (wX0 g a0 r0 q0_4 s0)) C dX0_takeTurn_37 ml_RX0_22 wv_X1_playCard (m_X1_playCard (a0 := a1) (r0 := r1) (q0_0 := q1_0) (r1 := r2) hg hx1) [1, 2, 3, 4, 5, 6, 7, 8, 9, 10, 11, 12, 13] [0] rfl rfl ⟨by decide, by decide⟩ (Nat.le_of_ble_eq_true rfl) ⟨by decide, by decide⟩ rfl rfl rfl rfl rfl rfl rfl (by decide) (ex_k C (cs' := 0) (ss' := 0) (wF := (wX0 g a0 r0 q0_4 s0 ++ wX1 g a1 r1 q1_0 x1 ++ wX5 g q1_0 r2 s2)) [0, 1, 2, 3, 4, 5, 6, 7, 8, 9, 10, 11, 12, 13] rfl rfl ?_)
    refine z_goto (pc := 40) C dX0_takeTurn_40 (tgt := 78) (by decide) ?_
    exact z_vret C X dX0_takeTurn_78 (by rw [← Option.some.inj h]; exact ⟨rfl, rfl⟩) (by decide) (by decide)
  replace h := (ite_e h).2 hn0
  refine (Decidable.em ((s0.1 0) = (1 : Int32))).elim (fun hc => ?_) (fun hn1 => ?_)
  · refine z_tswIn (pc := 4) C (1 : Int32) dX0_takeTurn_4 hc (by decide) (by decide) (off := 39) rfl (tgt := 43) (by decide) ?_
    replace h := (ite_e h).1 hc
    refine z_aload_n (pc := 43) (x := a1) C dX0_takeTurn_43 (i := 1) rfl rfl ?_
    refine z_aload_n (pc := 44) (x := a0) C dX0_takeTurn_44 (i := 0) rfl rfl ?_
    refine z_get (pc := 45) (v := .int (s0.1 1)) C 0 dX0_takeTurn_45 fl_RX0_19 rfl rfl ?_
    replace h := ob_e h
    obtain ⟨x2, hx2, h⟩ := h
    refine z_callV (pc := 48) (As := [.int (s0.1 1)]) (rest := []) (wr := (wX0 g a0 r0 q0_4 s0)) C dX0_takeTurn_48 ml_RX0_28 wv_X1_discardCard (m_X1_discardCard (a0 := a1) (r0 := r1) (q0_0 := q1_0) (r1 := r2) hg hx2) [1, 2, 3, 4, 5, 6, 7, 8, 9, 10, 11, 12, 13] [0] rfl rfl ⟨by decide, by decide⟩ (Nat.le_of_ble_eq_true rfl) ⟨by decide, by decide⟩ rfl rfl rfl rfl rfl rfl rfl (by decide) (ex_k C (cs' := 0) (ss' := 0) (wF := (wX0 g a0 r0 q0_4 s0 ++ wX1 g a1 r1 q1_0 x2 ++ wX5 g q1_0 r2 s2)) [0, 1, 2, 3, 4, 5, 6, 7, 8, 9, 10, 11, 12, 13] rfl rfl ?_)
    refine z_goto (pc := 51) C dX0_takeTurn_51 (tgt := 78) (by decide) ?_
    exact z_vret C X dX0_takeTurn_78 (by rw [← Option.some.inj h]; exact ⟨rfl, rfl⟩) (by decide) (by decide)
  replace h := (ite_e h).2 hn1
  refine (Decidable.em ((s0.1 0) = (2 : Int32))).elim (fun hc => ?_) (fun hn2 => ?_)
  · refine z_tswIn (pc := 4) C (2 : Int32) dX0_takeTurn_4 hc (by decide) (by decide) (off := 50) rfl (tgt := 54) (by decide) ?_
    replace h := (ite_e h).1 hc
    refine z_aload_n (pc := 54) (x := a1) C dX0_takeTurn_54 (i := 1) rfl rfl ?_
    refine z_aload_n (pc := 55) (x := a0) C dX0_takeTurn_55 (i := 0) rfl rfl ?_
    refine z_get (pc := 56) (v := .int (s0.1 1)) C 0 dX0_takeTurn_56 fl_RX0_19 rfl rfl ?_
    refine z_aload_n (pc := 59) (x := a0) C dX0_takeTurn_59 (i := 0) rfl rfl ?_
    refine z_get (pc := 60) (v := .int (s0.1 2)) C 0 dX0_takeTurn_60 fl_RX0_31 rfl rfl ?_
    refine z_aload_n (pc := 63) (x := a0) C dX0_takeTurn_63 (i := 0) rfl rfl ?_
    refine z_get (pc := 64) (v := .int (s0.1 3)) C 0 dX0_takeTurn_64 fl_RX0_34 rfl rfl ?_
    replace h := ob_e h
    obtain ⟨x3, hx3, h⟩ := h
    refine z_callV (pc := 67) (As := [.int (s0.1 1), .int (s0.1 2), .int (s0.1 3)]) (rest := []) (wr := (wX0 g a0 r0 q0_4 s0)) C dX0_takeTurn_67 ml_RX0_37 wv_X1_giveHint (m_X1_giveHint (a0 := a1) (r0 := r1) (q0_0 := q1_0) (r1 := r2) hg hx3) [1, 2, 3, 4, 5, 6, 7, 8, 9, 10, 11, 12, 13] [0] rfl rfl ⟨by decide, by decide⟩ (Nat.le_of_ble_eq_true rfl) ⟨by decide, by decide⟩ rfl rfl rfl rfl rfl rfl rfl (by decide) (ex_k C (cs' := 0) (ss' := 0) (wF := (wX0 g a0 r0 q0_4 s0 ++ wX1 g a1 r1 q1_0 x3.2 ++ wX5 g q1_0 r2 s2)) [0, 1, 2, 3, 4, 5, 6, 7, 8, 9, 10, 11, 12, 13] rfl rfl ?_)
    refine z_pop (pc := 70) C dX0_takeTurn_70 rfl ?_
    refine z_goto (pc := 71) C dX0_takeTurn_71 (tgt := 78) (by decide) ?_
    exact z_vret C X dX0_takeTurn_78 (by rw [← Option.some.inj h]; exact ⟨rfl, rfl⟩) (by decide) (by decide)
  replace h := (ite_e h).2 hn2
  refine z_tswOut (pc := 4) C dX0_takeTurn_4 (by have e0 := lv_neT hn0 (a := 0) (by decide); have e1 := lv_neT hn1 (a := 1) (by decide); have e2 := lv_neT hn2 (a := 2) (by decide); omega) (tgt := 74) (by decide) ?_
  refine z_aload_n (pc := 74) (x := a1) C dX0_takeTurn_74 (i := 1) rfl rfl ?_
  replace h := ob_e h
  obtain ⟨x4, hx4, h⟩ := h
  refine z_callV (pc := 75) (As := []) (rest := []) (wr := (wX0 g a0 r0 q0_4 s0)) C dX0_takeTurn_75 ml_RX0_41 wv_X1_passTurn (m_X1_passTurn (a0 := a1) (r0 := r1) (q0_0 := q1_0) (r1 := r2) hg hx4) [1, 2, 3, 4, 5, 6, 7, 8, 9, 10, 11, 12, 13] [0] rfl rfl ⟨by decide, by decide⟩ (Nat.le_of_ble_eq_true rfl) ⟨by decide, by decide⟩ rfl rfl rfl rfl rfl rfl rfl (by decide) (ex_k C (cs' := 0) (ss' := 0) (wF := (wX0 g a0 r0 q0_4 s0 ++ wX1 g a1 r1 q1_0 x4 ++ wX5 g q1_0 r2 s2)) [0, 1, 2, 3, 4, 5, 6, 7, 8, 9, 10, 11, 12, 13] rfl rfl ?_)
  exact z_vret C X dX0_takeTurn_78 (by rw [← Option.some.inj h]; exact ⟨rfl, rfl⟩) (by decide) (by decide)
def F_X1_playableKinds_4 (N : Nat) (s0 : Ob) (s1 : Ob)  (k4 : Int32 → Int32 → Option (Int32)) (v1 : Int32) (v2 : Int32) : Option (Int32) := (if (s1.1 0) ≤ v2 then (some v1) else (ob (f_X1_topOf N s0 v2) fun x1 => (znm ((((1 : Int32) <<< (x1 &&& 31)) &&& (31 : Int32)) <<< ((v2 * (5 : Int32)) &&& 31)) fun x2 => (k4 (v1 ||| x2) (v2 + (1 : Int32))))))
def f_X1_playableKinds_4 (N : Nat) (s0 : Ob) (s1 : Ob)  : Nat → Int32 → Int32 → Option (Int32) := zlp (fun _ _ => none) (F_X1_playableKinds_4 N s0 s1)
theorem m_X1_playableKinds_4 {K : Kt} {g : Gp} {a0 : Nat} {r0 : Nat → Nat} {q0_0 : Nat} {r1 : Nat → Nat} {N : Nat} {s0 : Ob} {s1 : Ob} {res : Int32} (hg : Ok g) (C : Cx K g cX1_playableKinds RX1 3 (zrm 1 21)) (X : Rx K (exR (some (.int res)) (wX1 g a0 r0 q0_0 s0 ++ wX5 g q0_0 r1 s1)) 0 0 (some .int)) : ∀ (n : Nat) (v1 : Int32) (v2 : Int32), f_X1_playableKinds_4 N s0 s1 n v1 v2 = some res → Zs K 0 0 (wX1 g a0 r0 q0_0 s0 ++ wX5 g q0_0 r1 s1) [(0, .ref a0), (1, .int v1), (2, .int v2)] 4 [] := by
  intro n
  induction n with
  | zero => intro v1 v2 h; exact nomatch (show (none : Option (Int32)) = some res from h)
  | succ n hk4 =>
    intro v1 v2 h
    replace h : F_X1_playableKinds_4 N s0 s1 (f_X1_playableKinds_4 N s0 s1 n) v1 v2 = some res := h
    unfold F_X1_playableKinds_4 at h
    refine z_iload_n (pc := 4) (x := v2) C dX1_playableKinds_4 (i := 2) rfl rfl ?_
    refine z_aload_n (pc := 5) (x := a0) C dX1_playableKinds_5 (i := 0) rfl rfl ?_
    refine z_get (pc := 6) (v := .ref q0_0) C 0 dX1_playableKinds_6 fl_RX1_38 rfl rfl ?_
    refine z_get (pc := 9) (v := .int (s1.1 0)) C 9 dX1_playableKinds_9 fl_RX1_104 rfl rfl ?_
    refine z_icmp_ge (pc := 12) C dX1_playableKinds_12 (tgt := 38) (by decide) (fun hc => ?_) (fun hc => ?_)
    · replace h := (ite_e h).1 hc
      refine z_iload_n (pc := 38) (x := v1) C dX1_playableKinds_38 (i := 1) rfl rfl ?_
      exact z_iret C X dX1_playableKinds_39 (by rw [← Option.some.inj h]; exact ⟨rfl, rfl⟩) (by decide) (by decide)
    · replace h := (ite_e h).2 hc
      refine z_iload_n (pc := 15) (x := v1) C dX1_playableKinds_15 (i := 1) rfl rfl ?_
      refine z_iconst (pc := 16) C dX1_playableKinds_16 ic_1 ?_
      refine z_aload_n (pc := 17) (x := a0) C dX1_playableKinds_17 (i := 0) rfl rfl ?_
      refine z_iload_n (pc := 18) (x := v2) C dX1_playableKinds_18 (i := 2) rfl rfl ?_
      replace h := ob_e h
      obtain ⟨x1, hx1, h⟩ := h
      refine z_callV (pc := 19) (As := [.int v2]) (rest := [.int (1 : Int32), .int v1]) (wr := (wX5 g q0_0 r1 s1)) C dX1_playableKinds_19 ml_RX1_133 wv_X1_topOf (m_X1_topOf (a0 := a0) (r0 := r0) (q0_0 := q0_0) hg hx1) [0, 1, 2, 3, 4, 5, 6, 7, 8] [9, 10, 11, 12] rfl rfl ⟨by decide, by decide⟩ (Nat.le_of_ble_eq_true rfl) ⟨by decide, by decide⟩ rfl rfl rfl rfl rfl rfl rfl (by decide) (ex_k C (cs' := 0) (ss' := 0) (wF := (wX1 g a0 r0 q0_0 s0 ++ wX5 g q0_0 r1 s1)) [4, 5, 6, 7, 8, 9, 10, 11, 12, 0, 1, 2, 3] rfl rfl ?_)
      refine z_ishl (pc := 22) C dX1_playableKinds_22 ?_
      refine z_bipush (pc := 23) C dX1_playableKinds_23 bp_31 ?_
      refine z_iand (pc := 25) C dX1_playableKinds_25 ?_
      refine z_iload_n (pc := 26) (x := v2) C dX1_playableKinds_26 (i := 2) rfl rfl ?_
      refine z_iconst (pc := 27) C dX1_playableKinds_27 ic_5 ?_
      refine z_imul (pc := 28) C dX1_playableKinds_28 ?_
      refine z_ishl (pc := 29) C dX1_playableKinds_29 ?_
      replace h := znm_e h
      obtain ⟨x2, hx2, h⟩ := h
      refine z_top1 hx2 ?_
      refine z_ior (pc := 30) C dX1_playableKinds_30 ?_
      refine z_istore_n (pc := 31) C dX1_playableKinds_31 (i := 1) rfl (by decide) (lv' := [(1, .int (v1 ||| x2)), (0, .ref a0), (2, .int v2)]) rfl ?_
      refine z_iinc (pc := 32) C dX1_playableKinds_32 rfl (inc_e 1 (1 : Int32) ic_1 v2) (by decide) (lv' := [(2, .int (v2 + (1 : Int32))), (1, .int (v1 ||| x2)), (0, .ref a0)]) rfl ?_
      refine z_goto (pc := 35) C dX1_playableKinds_35 (tgt := 4) (by decide) ?_
      refine z_lv (lv' := [(0, .ref a0), (1, .int (v1 ||| x2)), (2, .int (v2 + (1 : Int32)))]) [2, 1, 0] rfl ?_
      exact hk4 (v1 ||| x2) (v2 + (1 : Int32)) h
def f_X1_playableKinds (N : Nat) (s0 : Ob) (s1 : Ob) : Option (Int32) := (f_X1_playableKinds_4 N s0 s1 N (0 : Int32) (0 : Int32))
theorem m_X1_playableKinds {g : Gp} {a0 : Nat} {r0 : Nat → Nat} {q0_0 : Nat} {r1 : Nat → Nat} {N : Nat} {s0 : Ob} {s1 : Ob} {res : Int32} (hg : Ok g) (h : f_X1_playableKinds N s0 s1 = some res) : Ct g yX1_playableKinds cX1_playableKinds 3 (some .int) (zrm 1 21) [.ref a0] (wX1 g a0 r0 q0_0 s0 ++ wX5 g q0_0 r1 s1) (exR (some (.int res)) (wX1 g a0 r0 q0_0 s0 ++ wX5 g q0_0 r1 s1)) := by
  refine ct_of rfl hg (by show _ ≤ _; exact Nat.le_of_ble_eq_true rfl) (fun K C X => ?_)
  show Zs K 0 0 (wX1 g a0 r0 q0_0 s0 ++ wX5 g q0_0 r1 s1) [(0, .ref a0)] 0 []
  unfold f_X1_playableKinds at h
  refine z_iconst (pc := 0) C dX1_playableKinds_0 ic_0 ?_
  refine z_istore_n (pc := 1) C dX1_playableKinds_1 (i := 1) rfl (by decide) (lv' := [(1, .int (0 : Int32)), (0, .ref a0)]) rfl ?_
  refine z_iconst (pc := 2) C dX1_playableKinds_2 ic_0 ?_
  refine z_istore_n (pc := 3) C dX1_playableKinds_3 (i := 2) rfl (by decide) (lv' := [(2, .int (0 : Int32)), (1, .int (0 : Int32)), (0, .ref a0)]) rfl ?_
  refine z_lv (lv' := [(0, .ref a0), (1, .int (0 : Int32)), (2, .int (0 : Int32))]) [2, 1, 0] rfl ?_
  exact m_X1_playableKinds_4 (a0 := a0) (r0 := r0) (q0_0 := q0_0) (r1 := r1) hg C X N (0 : Int32) (0 : Int32) h
def f_X5_copiesOf (N : Nat) (s0 : Ob) (p1 : Int32) : Option (Int32) := (if p1 < 0 then (some (0 : Int32)) else (if (20 : Int32) ≤ p1 then (some (0 : Int32)) else (chk (inb p1 20) (some ((s0.2.2.1 9) (p1).toNatClampNeg)))))
theorem m_X5_copiesOf {g : Gp} {a0 : Nat} {r0 : Nat → Nat} {N : Nat} {s0 : Ob} {p1 : Int32} {res : Int32} (hg : Ok g) (h : f_X5_copiesOf N s0 p1 = some res) : Ct g yX5_copiesOf cX5_copiesOf 2 (some .int) (zrm 0 0) [.ref a0, .int p1] (wX5 g a0 r0 s0) (exR (some (.int res)) (wX5 g a0 r0 s0)) := by
  refine ct_of rfl hg (by show _ ≤ _; exact Nat.le_of_ble_eq_true rfl) (fun K C X => ?_)
  show Zs K 0 0 (wX5 g a0 r0 s0) [(0, .ref a0), (1, .int p1)] 0 []
  unfold f_X5_copiesOf at h
  refine z_iload_n (pc := 0) (x := p1) C dX5_copiesOf_0 (i := 1) rfl rfl ?_
  refine z_if_lt (pc := 1) C dX5_copiesOf_1 (tgt := 19) (by decide) (fun hc => ?_) (fun hc => ?_)
  · replace h := (ite_e h).1 hc
    refine z_iconst (pc := 19) C dX5_copiesOf_19 ic_0 ?_
    exact z_iret C X dX5_copiesOf_20 (by rw [← Option.some.inj h]; exact ⟨rfl, rfl⟩) (by decide) (by decide)
  · replace h := (ite_e h).2 hc
    refine z_iload_n (pc := 4) (x := p1) C dX5_copiesOf_4 (i := 1) rfl rfl ?_
    refine z_bipush (pc := 5) C dX5_copiesOf_5 bp_20 ?_
    refine z_icmp_ge (pc := 7) C dX5_copiesOf_7 (tgt := 19) (by decide) (fun hc => ?_) (fun hc => ?_)
    · replace h := (ite_e h).1 hc
      refine z_iconst (pc := 19) C dX5_copiesOf_19 ic_0 ?_
      exact z_iret C X dX5_copiesOf_20 (by rw [← Option.some.inj h]; exact ⟨rfl, rfl⟩) (by decide) (by decide)
    · replace h := (ite_e h).2 hc
      refine z_aload_n (pc := 10) (x := a0) C dX5_copiesOf_10 (i := 0) rfl rfl ?_
      refine z_get (pc := 11) (v := .ref (r0 9)) C 0 dX5_copiesOf_11 fl_RX5_25 rfl rfl ?_
      refine z_iload_n (pc := 14) (x := p1) C dX5_copiesOf_14 (i := 1) rfl rfl ?_
      replace h := chk_e h
      obtain ⟨hb1, h⟩ := h
      refine z_iald (pc := 15) C 2 dX5_copiesOf_15 rfl hb1 ?_
      refine z_goto (pc := 16) C dX5_copiesOf_16 (tgt := 20) (by decide) ?_
      exact z_iret C X dX5_copiesOf_20 (by rw [← Option.some.inj h]; exact ⟨rfl, rfl⟩) (by decide) (by decide)
def f_X1_inHeap (N : Nat) (s0 : Ob) (p1 : Int32) : Option (Int32) := (if p1 < 0 then (some (0 : Int32)) else (if (20 : Int32) ≤ p1 then (some (0 : Int32)) else (chk (inb p1 20) (some ((s0.2.2.1 12) (p1).toNatClampNeg)))))
theorem m_X1_inHeap {g : Gp} {a0 : Nat} {r0 : Nat → Nat} {q0_0 : Nat} {N : Nat} {s0 : Ob} {p1 : Int32} {res : Int32} (hg : Ok g) (h : f_X1_inHeap N s0 p1 = some res) : Ct g yX1_inHeap cX1_inHeap 2 (some .int) (zrm 0 0) [.ref a0, .int p1] (wX1 g a0 r0 q0_0 s0) (exR (some (.int res)) (wX1 g a0 r0 q0_0 s0)) := by
  refine ct_of rfl hg (by show _ ≤ _; exact Nat.le_of_ble_eq_true rfl) (fun K C X => ?_)
  show Zs K 0 0 (wX1 g a0 r0 q0_0 s0) [(0, .ref a0), (1, .int p1)] 0 []
  unfold f_X1_inHeap at h
  refine z_iload_n (pc := 0) (x := p1) C dX1_inHeap_0 (i := 1) rfl rfl ?_
  refine z_if_lt (pc := 1) C dX1_inHeap_1 (tgt := 19) (by decide) (fun hc => ?_) (fun hc => ?_)
  · replace h := (ite_e h).1 hc
    refine z_iconst (pc := 19) C dX1_inHeap_19 ic_0 ?_
    exact z_iret C X dX1_inHeap_20 (by rw [← Option.some.inj h]; exact ⟨rfl, rfl⟩) (by decide) (by decide)
  · replace h := (ite_e h).2 hc
    refine z_iload_n (pc := 4) (x := p1) C dX1_inHeap_4 (i := 1) rfl rfl ?_
    refine z_bipush (pc := 5) C dX1_inHeap_5 bp_20 ?_
    refine z_icmp_ge (pc := 7) C dX1_inHeap_7 (tgt := 19) (by decide) (fun hc => ?_) (fun hc => ?_)
    · replace h := (ite_e h).1 hc
      refine z_iconst (pc := 19) C dX1_inHeap_19 ic_0 ?_
      exact z_iret C X dX1_inHeap_20 (by rw [← Option.some.inj h]; exact ⟨rfl, rfl⟩) (by decide) (by decide)
    · replace h := (ite_e h).2 hc
      refine z_aload_n (pc := 10) (x := a0) C dX1_inHeap_10 (i := 0) rfl rfl ?_
      refine z_get (pc := 11) (v := .ref (r0 12)) C 0 dX1_inHeap_11 fl_RX1_24 rfl rfl ?_
      refine z_iload_n (pc := 14) (x := p1) C dX1_inHeap_14 (i := 1) rfl rfl ?_
      replace h := chk_e h
      obtain ⟨hb1, h⟩ := h
      refine z_iald (pc := 15) C 5 dX1_inHeap_15 rfl hb1 ?_
      refine z_goto (pc := 16) C dX1_inHeap_16 (tgt := 20) (by decide) ?_
      exact z_iret C X dX1_inHeap_20 (by rw [← Option.some.inj h]; exact ⟨rfl, rfl⟩) (by decide) (by decide)
def f_X1_isOnPile (N : Nat) (s0 : Ob) (p1 : Int32) : Option (Int32) := (ob (f_X1_topOf N s0 (p1 / (5 : Int32))) fun x1 => (if x1 ≤ (p1 - p1 / (5 : Int32) * (5 : Int32)) then (some (0 : Int32)) else (some (1 : Int32))))
theorem m_X1_isOnPile {g : Gp} {a0 : Nat} {r0 : Nat → Nat} {q0_0 : Nat} {N : Nat} {s0 : Ob} {p1 : Int32} {res : Int32} (hg : Ok g) (h : f_X1_isOnPile N s0 p1 = some res) : Ct g yX1_isOnPile cX1_isOnPile 2 (some .boolean) (zrm 1 21) [.ref a0, .int p1] (wX1 g a0 r0 q0_0 s0) (exR (some (.int res)) (wX1 g a0 r0 q0_0 s0)) := by
  refine ct_of rfl hg (by show _ ≤ _; exact Nat.le_of_ble_eq_true rfl) (fun K C X => ?_)
  show Zs K 0 0 (wX1 g a0 r0 q0_0 s0) [(0, .ref a0), (1, .int p1)] 0 []
  unfold f_X1_isOnPile at h
  refine z_aload_n (pc := 0) (x := a0) C dX1_isOnPile_0 (i := 0) rfl rfl ?_
  refine z_iload_n (pc := 1) (x := p1) C dX1_isOnPile_1 (i := 1) rfl rfl ?_
  refine z_iconst (pc := 2) C dX1_isOnPile_2 ic_5 ?_
  refine z_idiv (pc := 3) C dX1_isOnPile_3 (by decide) ?_
  replace h := ob_e h
  obtain ⟨x1, hx1, h⟩ := h
  refine z_callV (pc := 4) (As := [.int (p1 / (5 : Int32))]) (rest := []) (wr := ([] : va_W)) C dX1_isOnPile_4 ml_RX1_133 wv_X1_topOf (m_X1_topOf (a0 := a0) (r0 := r0) (q0_0 := q0_0) hg hx1) [0, 1, 2, 3, 4, 5, 6, 7, 8] [] rfl rfl ⟨by decide, by decide⟩ (Nat.le_of_ble_eq_true rfl) ⟨by decide, by decide⟩ rfl rfl rfl rfl rfl rfl rfl (by decide) (ex_k C (cs' := 0) (ss' := 0) (wF := (wX1 g a0 r0 q0_0 s0)) [0, 1, 2, 3, 4, 5, 6, 7, 8] rfl rfl ?_)
  refine z_iload_n (pc := 7) (x := p1) C dX1_isOnPile_7 (i := 1) rfl rfl ?_
  refine z_iconst (pc := 8) C dX1_isOnPile_8 ic_5 ?_
  refine z_irem (pc := 9) C dX1_isOnPile_9 (by decide) ?_
  refine z_icmp_le (pc := 10) C dX1_isOnPile_10 (tgt := 17) (by decide) (fun hc => ?_) (fun hc => ?_)
  · replace h := (ite_e h).1 hc
    refine z_iconst (pc := 17) C dX1_isOnPile_17 ic_0 ?_
    exact z_zret C X dX1_isOnPile_18 rfl (by rw [← Option.some.inj h]; exact ⟨rfl, rfl⟩) (by decide) (by decide)
  · replace h := (ite_e h).2 hc
    refine z_iconst (pc := 13) C dX1_isOnPile_13 ic_1 ?_
    refine z_goto (pc := 14) C dX1_isOnPile_14 (tgt := 18) (by decide) ?_
    exact z_zret C X dX1_isOnPile_18 rfl (by rw [← Option.some.inj h]; exact ⟨rfl, rfl⟩) (by decide) (by decide)
def F_X2_unseenKinds_120 (N : Nat) (s1 : Ob) (s2 : Ob) (p2 : Int32)  (k120 : Int32 → Int32 → Ob → Option (Int32 × Ob)) (v3 : Int32) (v4 : Int32) (s0 : Ob) : Option (Int32 × Ob) := (if (20 : Int32) ≤ v4 then (some (v3, s0)) else (chk (inb v4 20) (if ((s0.2.2.1 0) (v4).toNatClampNeg) ≤ 0 then (k120 v3 (v4 + (1 : Int32)) s0) else (k120 (v3 ||| ((1 : Int32) <<< (v4 &&& 31))) (v4 + (1 : Int32)) s0))))
def f_X2_unseenKinds_120 (N : Nat) (s1 : Ob) (s2 : Ob) (p2 : Int32)  : Nat → Int32 → Int32 → Ob → Option (Int32 × Ob) := zlp (fun _ _ _ => none) (F_X2_unseenKinds_120 N s1 s2 p2)
theorem m_X2_unseenKinds_120 {K : Kt} {g : Gp} {a0 : Nat} {a1 : Nat} {r0 : Nat → Nat} {r1 : Nat → Nat} {q1_0 : Nat} {r2 : Nat → Nat} {N : Nat} {s1 : Ob} {s2 : Ob} {p2 : Int32} {res : Int32 × Ob} (hg : Ok g) (C : Cx K g cX2_unseenKinds RX2 6 (zrm 2 42)) (X : Rx K (exR (some (.int res.1)) (wX2 g a0 r0 res.2 ++ wX1 g a1 r1 q1_0 s1 ++ wX5 g q1_0 r2 s2)) 0 0 (some .int)) : ∀ (n : Nat) (v3 : Int32) (v4 : Int32) (s0 : Ob), f_X2_unseenKinds_120 N s1 s2 p2 n v3 v4 s0 = some res → Zs K 0 0 (wX2 g a0 r0 s0 ++ wX1 g a1 r1 q1_0 s1 ++ wX5 g q1_0 r2 s2) [(0, .ref a0), (3, .int v3), (4, .int v4)] 120 [] := by
  intro n
  induction n with
  | zero => intro v3 v4 s0 h; exact nomatch (show (none : Option (Int32 × Ob)) = some res from h)
  | succ n hk120 =>
    intro v3 v4 s0 h
    replace h : F_X2_unseenKinds_120 N s1 s2 p2 (f_X2_unseenKinds_120 N s1 s2 p2 n) v3 v4 s0 = some res := h
    unfold F_X2_unseenKinds_120 at h
    refine z_iload (pc := 120) (x := v4) C dX2_unseenKinds_120 rfl ?_
    refine z_bipush (pc := 122) C dX2_unseenKinds_122 bp_20 ?_
    refine z_icmp_ge (pc := 124) C dX2_unseenKinds_124 (tgt := 150) (by decide) (fun hc => ?_) (fun hc => ?_)
    · replace h := (ite_e h).1 hc
      refine z_iload_n (pc := 150) (x := v3) C dX2_unseenKinds_150 (i := 3) rfl rfl ?_
      exact z_iret C X dX2_unseenKinds_151 (by rw [← Option.some.inj h]; exact ⟨rfl, rfl⟩) (by decide) (by decide)
    · replace h := (ite_e h).2 hc
      refine z_aload_n (pc := 127) (x := a0) C dX2_unseenKinds_127 (i := 0) rfl rfl ?_
      refine z_get (pc := 128) (v := .ref (r0 0)) C 0 dX2_unseenKinds_128 fl_RX2_9 rfl rfl ?_
      refine z_iload (pc := 131) (x := v4) C dX2_unseenKinds_131 rfl ?_
      replace h := chk_e h
      obtain ⟨hb1, h⟩ := h
      refine z_iald (pc := 133) C 1 dX2_unseenKinds_133 rfl hb1 ?_
      refine z_if_le (pc := 134) C dX2_unseenKinds_134 (tgt := 144) (by decide) (fun hc => ?_) (fun hc => ?_)
      · replace h := (ite_e h).1 hc
        refine z_iinc (pc := 144) C dX2_unseenKinds_144 rfl (inc_e 1 (1 : Int32) ic_1 v4) (by decide) (lv' := [(4, .int (v4 + (1 : Int32))), (0, .ref a0), (3, .int v3)]) rfl ?_
        refine z_goto (pc := 147) C dX2_unseenKinds_147 (tgt := 120) (by decide) ?_
        refine z_lv (lv' := [(0, .ref a0), (3, .int v3), (4, .int (v4 + (1 : Int32)))]) [1, 2, 0] rfl ?_
        exact hk120 v3 (v4 + (1 : Int32)) s0 h
      · replace h := (ite_e h).2 hc
        refine z_iload_n (pc := 137) (x := v3) C dX2_unseenKinds_137 (i := 3) rfl rfl ?_
        refine z_iconst (pc := 138) C dX2_unseenKinds_138 ic_1 ?_
        refine z_iload (pc := 139) (x := v4) C dX2_unseenKinds_139 rfl ?_
        refine z_ishl (pc := 141) C dX2_unseenKinds_141 ?_
        refine z_ior (pc := 142) C dX2_unseenKinds_142 ?_
        refine z_istore_n (pc := 143) C dX2_unseenKinds_143 (i := 3) rfl (by decide) (lv' := [(3, .int (v3 ||| ((1 : Int32) <<< (v4 &&& 31)))), (0, .ref a0), (4, .int v4)]) rfl ?_
        refine z_iinc (pc := 144) C dX2_unseenKinds_144 rfl (inc_e 1 (1 : Int32) ic_1 v4) (by decide) (lv' := [(4, .int (v4 + (1 : Int32))), (3, .int (v3 ||| ((1 : Int32) <<< (v4 &&& 31)))), (0, .ref a0)]) rfl ?_
        refine z_goto (pc := 147) C dX2_unseenKinds_147 (tgt := 120) (by decide) ?_
        refine z_lv (lv' := [(0, .ref a0), (3, .int (v3 ||| ((1 : Int32) <<< (v4 &&& 31)))), (4, .int (v4 + (1 : Int32)))]) [2, 1, 0] rfl ?_
        exact hk120 (v3 ||| ((1 : Int32) <<< (v4 &&& 31))) (v4 + (1 : Int32)) s0 h
def F_X2_unseenKinds_64 (N : Nat) (s1 : Ob) (s2 : Ob) (p2 : Int32) (k50 : Int32 → Ob → Option (Int32 × Ob)) (k64 : Int32 → Int32 → Ob → Option (Int32 × Ob)) (v3 : Int32) (v4 : Int32) (s0 : Ob) : Option (Int32 × Ob) := (if v3 = p2 then (k50 (v3 + (1 : Int32)) s0) else (ob (f_X1_sizeOf N s1 v3) fun x2 => (if x2 ≤ v4 then (k50 (v3 + (1 : Int32)) s0) else (ob (f_X1_cardAt N s1 v3 v4) fun x3 => (ob (f_X1_kindOf N s1 s2 x3) fun x4 => (chk (inb x4 20) (chk (inb x4 20) (k64 v3 (v4 + (1 : Int32)) (sa s0 0 (upd (s0.2.2.1 0) (x4).toNatClampNeg (((s0.2.2.1 0) (x4).toNatClampNeg) - (1 : Int32))))))))))))
def f_X2_unseenKinds_64 (N : Nat) (s1 : Ob) (s2 : Ob) (p2 : Int32) (k50 : Int32 → Ob → Option (Int32 × Ob)) : Nat → Int32 → Int32 → Ob → Option (Int32 × Ob) := zlp (fun _ _ _ => none) (F_X2_unseenKinds_64 N s1 s2 p2 k50)
theorem m_X2_unseenKinds_64 {K : Kt} {g : Gp} {a0 : Nat} {a1 : Nat} {r0 : Nat → Nat} {r1 : Nat → Nat} {q1_0 : Nat} {r2 : Nat → Nat} {N : Nat} {s1 : Ob} {s2 : Ob} {p2 : Int32} {res : Int32 × Ob} (hg : Ok g) (C : Cx K g cX2_unseenKinds RX2 6 (zrm 2 42)) (X : Rx K (exR (some (.int res.1)) (wX2 g a0 r0 res.2 ++ wX1 g a1 r1 q1_0 s1 ++ wX5 g q1_0 r2 s2)) 0 0 (some .int)) {k50 : Int32 → Ob → Option (Int32 × Ob)} (hk50 : ∀ (v3 : Int32) (s0 : Ob), k50 v3 s0 = some res → Zs K 0 0 (wX2 g a0 r0 s0 ++ wX1 g a1 r1 q1_0 s1 ++ wX5 g q1_0 r2 s2) [(0, .ref a0), (1, .ref a1), (2, .int p2), (3, .int v3)] 50 []) : ∀ (n : Nat) (v3 : Int32) (v4 : Int32) (s0 : Ob), f_X2_unseenKinds_64 N s1 s2 p2 k50 n v3 v4 s0 = some res → Zs K 0 0 (wX2 g a0 r0 s0 ++ wX1 g a1 r1 q1_0 s1 ++ wX5 g q1_0 r2 s2) [(0, .ref a0), (1, .ref a1), (2, .int p2), (3, .int v3), (4, .int v4)] 64 [] := by
  intro n
  induction n with
  | zero => intro v3 v4 s0 h; exact nomatch (show (none : Option (Int32 × Ob)) = some res from h)
  | succ n hk64 =>
    intro v3 v4 s0 h
    replace h : F_X2_unseenKinds_64 N s1 s2 p2 k50 (f_X2_unseenKinds_64 N s1 s2 p2 k50 n) v3 v4 s0 = some res := h
    unfold F_X2_unseenKinds_64 at h
    refine z_iload_n (pc := 64) (x := v3) C dX2_unseenKinds_64 (i := 3) rfl rfl ?_
    refine z_iload_n (pc := 65) (x := p2) C dX2_unseenKinds_65 (i := 2) rfl rfl ?_
    refine z_icmp_eq (pc := 66) C dX2_unseenKinds_66 (tgt := 109) (by decide) (fun hc => ?_) (fun hc => ?_)
    · replace h := (ite_e h).1 hc
      refine z_iinc (pc := 109) C dX2_unseenKinds_109 rfl (inc_e 1 (1 : Int32) ic_1 v3) (by decide) (lv' := [(3, .int (v3 + (1 : Int32))), (0, .ref a0), (1, .ref a1), (2, .int p2), (4, .int v4)]) rfl ?_
      refine z_goto (pc := 112) C dX2_unseenKinds_112 (tgt := 50) (by decide) ?_
      refine z_lv (lv' := [(0, .ref a0), (1, .ref a1), (2, .int p2), (3, .int (v3 + (1 : Int32)))]) [1, 2, 3, 0] rfl ?_
      exact hk50 (v3 + (1 : Int32)) s0 h
    · replace h := (ite_e h).2 hc
      refine z_iload (pc := 69) (x := v4) C dX2_unseenKinds_69 rfl ?_
      refine z_aload_n (pc := 71) (x := a1) C dX2_unseenKinds_71 (i := 1) rfl rfl ?_
      refine z_iload_n (pc := 72) (x := v3) C dX2_unseenKinds_72 (i := 3) rfl rfl ?_
      replace h := ob_e h
      obtain ⟨x2, hx2, h⟩ := h
      refine z_callV (pc := 73) (As := [.int v3]) (rest := [.int v4]) (wr := (wX2 g a0 r0 s0 ++ wX5 g q1_0 r2 s2)) C dX2_unseenKinds_73 ml_RX2_38 wv_X1_sizeOf (m_X1_sizeOf (a0 := a1) (r0 := r1) (q0_0 := q1_0) hg hx2) [2, 3, 4, 5, 6, 7, 8, 9, 10] [0, 1, 11, 12, 13, 14] rfl rfl ⟨by decide, by decide⟩ (Nat.le_of_ble_eq_true rfl) ⟨by decide, by decide⟩ rfl rfl rfl rfl rfl rfl rfl (by decide) (ex_k C (cs' := 0) (ss' := 0) (wF := (wX2 g a0 r0 s0 ++ wX1 g a1 r1 q1_0 s1 ++ wX5 g q1_0 r2 s2)) [0, 1, 6, 7, 8, 9, 10, 11, 12, 13, 14, 2, 3, 4, 5] rfl rfl ?_)
      refine z_icmp_ge (pc := 76) C dX2_unseenKinds_76 (tgt := 109) (by decide) (fun hc => ?_) (fun hc => ?_)
      · replace h := (ite_e h).1 hc
        refine z_iinc (pc := 109) C dX2_unseenKinds_109 rfl (inc_e 1 (1 : Int32) ic_1 v3) (by decide) (lv' := [(3, .int (v3 + (1 : Int32))), (0, .ref a0), (1, .ref a1), (2, .int p2), (4, .int v4)]) rfl ?_
        refine z_goto (pc := 112) C dX2_unseenKinds_112 (tgt := 50) (by decide) ?_
        refine z_lv (lv' := [(0, .ref a0), (1, .ref a1), (2, .int p2), (3, .int (v3 + (1 : Int32)))]) [1, 2, 3, 0] rfl ?_
        exact hk50 (v3 + (1 : Int32)) s0 h
      · replace h := (ite_e h).2 hc
        refine z_aload_n (pc := 79) (x := a1) C dX2_unseenKinds_79 (i := 1) rfl rfl ?_
        refine z_aload_n (pc := 80) (x := a1) C dX2_unseenKinds_80 (i := 1) rfl rfl ?_
        refine z_iload_n (pc := 81) (x := v3) C dX2_unseenKinds_81 (i := 3) rfl rfl ?_
        refine z_iload (pc := 82) (x := v4) C dX2_unseenKinds_82 rfl ?_
        replace h := ob_e h
        obtain ⟨x3, hx3, h⟩ := h
        refine z_callV (pc := 84) (As := [.int v3, .int v4]) (rest := [.ref a1]) (wr := (wX2 g a0 r0 s0 ++ wX5 g q1_0 r2 s2)) C dX2_unseenKinds_84 ml_RX2_41 wv_X1_cardAt (m_X1_cardAt (a0 := a1) (r0 := r1) (q0_0 := q1_0) hg hx3) [2, 3, 4, 5, 6, 7, 8, 9, 10] [0, 1, 11, 12, 13, 14] rfl rfl ⟨by decide, by decide⟩ (Nat.le_of_ble_eq_true rfl) ⟨by decide, by decide⟩ rfl rfl rfl rfl rfl rfl rfl (by decide) (ex_k C (cs' := 0) (ss' := 0) (wF := (wX2 g a0 r0 s0 ++ wX1 g a1 r1 q1_0 s1 ++ wX5 g q1_0 r2 s2)) [0, 1, 6, 7, 8, 9, 10, 11, 12, 13, 14, 2, 3, 4, 5] rfl rfl ?_)
        replace h := ob_e h
        obtain ⟨x4, hx4, h⟩ := h
        refine z_callV (pc := 87) (As := [.int x3]) (rest := []) (wr := (wX2 g a0 r0 s0)) C dX2_unseenKinds_87 ml_RX2_45 wv_X1_kindOf (m_X1_kindOf (a0 := a1) (r0 := r1) (q0_0 := q1_0) (r1 := r2) hg hx4) [2, 3, 4, 5, 6, 7, 8, 9, 10, 11, 12, 13, 14] [0, 1] rfl rfl ⟨by decide, by decide⟩ (Nat.le_of_ble_eq_true rfl) ⟨by decide, by decide⟩ rfl rfl rfl rfl rfl rfl rfl (by decide) (ex_k C (cs' := 0) (ss' := 0) (wF := (wX2 g a0 r0 s0 ++ wX1 g a1 r1 q1_0 s1 ++ wX5 g q1_0 r2 s2)) [0, 1, 2, 3, 4, 5, 6, 7, 8, 9, 10, 11, 12, 13, 14] rfl rfl ?_)
        refine z_istore (pc := 90) C dX2_unseenKinds_90 (by decide) (lv' := [(5, .int x4), (0, .ref a0), (1, .ref a1), (2, .int p2), (3, .int v3), (4, .int v4)]) rfl ?_
        refine z_aload_n (pc := 92) (x := a0) C dX2_unseenKinds_92 (i := 0) rfl rfl ?_
        refine z_get (pc := 93) (v := .ref (r0 0)) C 0 dX2_unseenKinds_93 fl_RX2_9 rfl rfl ?_
        refine z_iload (pc := 96) (x := x4) C dX2_unseenKinds_96 rfl ?_
        refine z_dup2 (pc := 98) C dX2_unseenKinds_98 rfl rfl ?_
        replace h := chk_e h
        obtain ⟨hb5, h⟩ := h
        refine z_iald (pc := 99) C 1 dX2_unseenKinds_99 rfl hb5 ?_
        refine z_iconst (pc := 100) C dX2_unseenKinds_100 ic_1 ?_
        refine z_isub (pc := 101) C dX2_unseenKinds_101 ?_
        replace h := chk_e h
        obtain ⟨hb6, h⟩ := h
        refine z_iast (pc := 102) C 1 dX2_unseenKinds_102 rfl hb6 (ws' := (wX2 g a0 r0 (sa s0 0 (upd (s0.2.2.1 0) (x4).toNatClampNeg (((s0.2.2.1 0) (x4).toNatClampNeg) - (1 : Int32)))) ++ wX1 g a1 r1 q1_0 s1 ++ wX5 g q1_0 r2 s2)) rfl ?_
        refine z_iinc (pc := 103) C dX2_unseenKinds_103 rfl (inc_e 1 (1 : Int32) ic_1 v4) (by decide) (lv' := [(4, .int (v4 + (1 : Int32))), (5, .int x4), (0, .ref a0), (1, .ref a1), (2, .int p2), (3, .int v3)]) rfl ?_
        refine z_goto (pc := 106) C dX2_unseenKinds_106 (tgt := 64) (by decide) ?_
        refine z_lv (lv' := [(0, .ref a0), (1, .ref a1), (2, .int p2), (3, .int v3), (4, .int (v4 + (1 : Int32)))]) [2, 3, 4, 5, 0] rfl ?_
        exact hk64 v3 (v4 + (1 : Int32)) (sa s0 0 (upd (s0.2.2.1 0) (x4).toNatClampNeg (((s0.2.2.1 0) (x4).toNatClampNeg) - (1 : Int32)))) h
def F_X2_unseenKinds_50 (N : Nat) (s1 : Ob) (s2 : Ob) (p2 : Int32)  (k50 : Int32 → Ob → Option (Int32 × Ob)) (v3 : Int32) (s0 : Ob) : Option (Int32 × Ob) := (if (s2.1 2) ≤ v3 then (f_X2_unseenKinds_120 N s1 s2 p2 N (0 : Int32) (0 : Int32) s0) else (f_X2_unseenKinds_64 N s1 s2 p2 k50 N v3 (0 : Int32) s0))
def f_X2_unseenKinds_50 (N : Nat) (s1 : Ob) (s2 : Ob) (p2 : Int32)  : Nat → Int32 → Ob → Option (Int32 × Ob) := zlp (fun _ _ => none) (F_X2_unseenKinds_50 N s1 s2 p2)
theorem m_X2_unseenKinds_50 {K : Kt} {g : Gp} {a0 : Nat} {a1 : Nat} {r0 : Nat → Nat} {r1 : Nat → Nat} {q1_0 : Nat} {r2 : Nat → Nat} {N : Nat} {s1 : Ob} {s2 : Ob} {p2 : Int32} {res : Int32 × Ob} (hg : Ok g) (C : Cx K g cX2_unseenKinds RX2 6 (zrm 2 42)) (X : Rx K (exR (some (.int res.1)) (wX2 g a0 r0 res.2 ++ wX1 g a1 r1 q1_0 s1 ++ wX5 g q1_0 r2 s2)) 0 0 (some .int)) : ∀ (n : Nat) (v3 : Int32) (s0 : Ob), f_X2_unseenKinds_50 N s1 s2 p2 n v3 s0 = some res → Zs K 0 0 (wX2 g a0 r0 s0 ++ wX1 g a1 r1 q1_0 s1 ++ wX5 g q1_0 r2 s2) [(0, .ref a0), (1, .ref a1), (2, .int p2), (3, .int v3)] 50 [] := by
  intro n
  induction n with
  | zero => intro v3 s0 h; exact nomatch (show (none : Option (Int32 × Ob)) = some res from h)
  | succ n hk50 =>
    intro v3 s0 h
    replace h : F_X2_unseenKinds_50 N s1 s2 p2 (f_X2_unseenKinds_50 N s1 s2 p2 n) v3 s0 = some res := h
    unfold F_X2_unseenKinds_50 at h
    refine z_iload_n (pc := 50) (x := v3) C dX2_unseenKinds_50 (i := 3) rfl rfl ?_
    refine z_aload_n (pc := 51) (x := a1) C dX2_unseenKinds_51 (i := 1) rfl rfl ?_
    refine z_get (pc := 52) (v := .ref q1_0) C 2 dX2_unseenKinds_52 fl_RX2_15 rfl rfl ?_
    refine z_get (pc := 55) (v := .int (s2.1 2)) C 11 dX2_unseenKinds_55 fl_RX2_34 rfl rfl ?_
    refine z_icmp_ge (pc := 58) C dX2_unseenKinds_58 (tgt := 115) (by decide) (fun hc => ?_) (fun hc => ?_)
    · replace h := (ite_e h).1 hc
      refine z_iconst (pc := 115) C dX2_unseenKinds_115 ic_0 ?_
      refine z_istore_n (pc := 116) C dX2_unseenKinds_116 (i := 3) rfl (by decide) (lv' := [(3, .int (0 : Int32)), (0, .ref a0), (1, .ref a1), (2, .int p2)]) rfl ?_
      refine z_iconst (pc := 117) C dX2_unseenKinds_117 ic_0 ?_
      refine z_istore (pc := 118) C dX2_unseenKinds_118 (by decide) (lv' := [(4, .int (0 : Int32)), (3, .int (0 : Int32)), (0, .ref a0), (1, .ref a1), (2, .int p2)]) rfl ?_
      refine z_lv (lv' := [(0, .ref a0), (3, .int (0 : Int32)), (4, .int (0 : Int32))]) [2, 1, 0] rfl ?_
      exact m_X2_unseenKinds_120 (a0 := a0) (a1 := a1) (r0 := r0) (r1 := r1) (q1_0 := q1_0) (r2 := r2) hg C X N (0 : Int32) (0 : Int32) s0 h
    · replace h := (ite_e h).2 hc
      refine z_iconst (pc := 61) C dX2_unseenKinds_61 ic_0 ?_
      refine z_istore (pc := 62) C dX2_unseenKinds_62 (by decide) (lv' := [(4, .int (0 : Int32)), (0, .ref a0), (1, .ref a1), (2, .int p2), (3, .int v3)]) rfl ?_
      refine z_lv (lv' := [(0, .ref a0), (1, .ref a1), (2, .int p2), (3, .int v3), (4, .int (0 : Int32))]) [1, 2, 3, 4, 0] rfl ?_
      exact m_X2_unseenKinds_64 (a0 := a0) (a1 := a1) (r0 := r0) (r1 := r1) (q1_0 := q1_0) (r2 := r2) hg C X hk50 N v3 (0 : Int32) s0 h
def f_X2_unseenKinds_40 (N : Nat) (s1 : Ob) (s2 : Ob) (p2 : Int32) (k2 : Int32 → Ob → Option (Int32 × Ob)) (v3 : Int32) (t1 : Int32) (t2 : Int32) (t3 : Int32) (s0 : Ob) : Option (Int32 × Ob) := (chk (inb t1 20) (k2 (v3 + (1 : Int32)) (sa s0 0 (upd (s0.2.2.1 0) (t1).toNatClampNeg (t2 - t3)))))
theorem m_X2_unseenKinds_40 {K : Kt} {g : Gp} {a0 : Nat} {a1 : Nat} {r0 : Nat → Nat} {r1 : Nat → Nat} {q1_0 : Nat} {r2 : Nat → Nat} {N : Nat} {s1 : Ob} {s2 : Ob} {p2 : Int32} {res : Int32 × Ob} (hg : Ok g) (C : Cx K g cX2_unseenKinds RX2 6 (zrm 2 42)) (X : Rx K (exR (some (.int res.1)) (wX2 g a0 r0 res.2 ++ wX1 g a1 r1 q1_0 s1 ++ wX5 g q1_0 r2 s2)) 0 0 (some .int)) {k2 : Int32 → Ob → Option (Int32 × Ob)} (hk2 : ∀ (v3 : Int32) (s0 : Ob), k2 v3 s0 = some res → Zs K 0 0 (wX2 g a0 r0 s0 ++ wX1 g a1 r1 q1_0 s1 ++ wX5 g q1_0 r2 s2) [(0, .ref a0), (1, .ref a1), (2, .int p2), (3, .int v3)] 2 []) (v3 : Int32) (t1 : Int32) (t2 : Int32) (t3 : Int32) (s0 : Ob) (h : f_X2_unseenKinds_40 N s1 s2 p2 k2 v3 t1 t2 t3 s0 = some res) : Zs K 0 0 (wX2 g a0 r0 s0 ++ wX1 g a1 r1 q1_0 s1 ++ wX5 g q1_0 r2 s2) [(0, .ref a0), (1, .ref a1), (2, .int p2), (3, .int v3)] 40 [.int t3, .int t2, .int t1, .ref (r0 0)] := by
  unfold f_X2_unseenKinds_40 at h
  refine z_isub (pc := 40) C dX2_unseenKinds_40 ?_
  replace h := chk_e h
  obtain ⟨hb10, h⟩ := h
  refine z_iast (pc := 41) C 1 dX2_unseenKinds_41 rfl hb10 (ws' := (wX2 g a0 r0 (sa s0 0 (upd (s0.2.2.1 0) (t1).toNatClampNeg (t2 - t3))) ++ wX1 g a1 r1 q1_0 s1 ++ wX5 g q1_0 r2 s2)) rfl ?_
  refine z_iinc (pc := 42) C dX2_unseenKinds_42 rfl (inc_e 1 (1 : Int32) ic_1 v3) (by decide) (lv' := [(3, .int (v3 + (1 : Int32))), (0, .ref a0), (1, .ref a1), (2, .int p2)]) rfl ?_
  refine z_goto (pc := 45) C dX2_unseenKinds_45 (tgt := 2) (by decide) ?_
  refine z_lv (lv' := [(0, .ref a0), (1, .ref a1), (2, .int p2), (3, .int (v3 + (1 : Int32)))]) [1, 2, 3, 0] rfl ?_
  exact hk2 (v3 + (1 : Int32)) (sa s0 0 (upd (s0.2.2.1 0) (t1).toNatClampNeg (t2 - t3))) h
def F_X2_unseenKinds_2 (N : Nat) (s1 : Ob) (s2 : Ob) (p2 : Int32)  (k2 : Int32 → Ob → Option (Int32 × Ob)) (v3 : Int32) (s0 : Ob) : Option (Int32 × Ob) := (if (20 : Int32) ≤ v3 then (f_X2_unseenKinds_50 N s1 s2 p2 N (0 : Int32) s0) else (ob (f_X5_copiesOf N s2 v3) fun x7 => (ob (f_X1_inHeap N s1 v3) fun x8 => (ob (f_X1_isOnPile N s1 v3) fun x9 => (if x9 = 0 then (f_X2_unseenKinds_40 N s1 s2 p2 k2 v3 v3 (x7 - x8) (0 : Int32) s0) else (f_X2_unseenKinds_40 N s1 s2 p2 k2 v3 v3 (x7 - x8) (1 : Int32) s0))))))
def f_X2_unseenKinds_2 (N : Nat) (s1 : Ob) (s2 : Ob) (p2 : Int32)  : Nat → Int32 → Ob → Option (Int32 × Ob) := zlp (fun _ _ => none) (F_X2_unseenKinds_2 N s1 s2 p2)
theorem m_X2_unseenKinds_2 {K : Kt} {g : Gp} {a0 : Nat} {a1 : Nat} {r0 : Nat → Nat} {r1 : Nat → Nat} {q1_0 : Nat} {r2 : Nat → Nat} {N : Nat} {s1 : Ob} {s2 : Ob} {p2 : Int32} {res : Int32 × Ob} (hg : Ok g) (C : Cx K g cX2_unseenKinds RX2 6 (zrm 2 42)) (X : Rx K (exR (some (.int res.1)) (wX2 g a0 r0 res.2 ++ wX1 g a1 r1 q1_0 s1 ++ wX5 g q1_0 r2 s2)) 0 0 (some .int)) : ∀ (n : Nat) (v3 : Int32) (s0 : Ob), f_X2_unseenKinds_2 N s1 s2 p2 n v3 s0 = some res → Zs K 0 0 (wX2 g a0 r0 s0 ++ wX1 g a1 r1 q1_0 s1 ++ wX5 g q1_0 r2 s2) [(0, .ref a0), (1, .ref a1), (2, .int p2), (3, .int v3)] 2 [] := by
  intro n
  induction n with
  | zero => intro v3 s0 h; exact nomatch (show (none : Option (Int32 × Ob)) = some res from h)
  | succ n hk2 =>
    intro v3 s0 h
    replace h : F_X2_unseenKinds_2 N s1 s2 p2 (f_X2_unseenKinds_2 N s1 s2 p2 n) v3 s0 = some res := h
    unfold F_X2_unseenKinds_2 at h
    refine z_iload_n (pc := 2) (x := v3) C dX2_unseenKinds_2 (i := 3) rfl rfl ?_
    refine z_bipush (pc := 3) C dX2_unseenKinds_3 bp_20 ?_
    refine z_icmp_ge (pc := 5) C dX2_unseenKinds_5 (tgt := 48) (by decide) (fun hc => ?_) (fun hc => ?_)
    · replace h := (ite_e h).1 hc
      refine z_iconst (pc := 48) C dX2_unseenKinds_48 ic_0 ?_
      refine z_istore_n (pc := 49) C dX2_unseenKinds_49 (i := 3) rfl (by decide) (lv' := [(3, .int (0 : Int32)), (0, .ref a0), (1, .ref a1), (2, .int p2)]) rfl ?_
      refine z_lv (lv' := [(0, .ref a0), (1, .ref a1), (2, .int p2), (3, .int (0 : Int32))]) [1, 2, 3, 0] rfl ?_
      exact m_X2_unseenKinds_50 (a0 := a0) (a1 := a1) (r0 := r0) (r1 := r1) (q1_0 := q1_0) (r2 := r2) hg C X N (0 : Int32) s0 h
    · replace h := (ite_e h).2 hc
      refine z_aload_n (pc := 8) (x := a0) C dX2_unseenKinds_8 (i := 0) rfl rfl ?_
      refine z_get (pc := 9) (v := .ref (r0 0)) C 0 dX2_unseenKinds_9 fl_RX2_9 rfl rfl ?_
      refine z_iload_n (pc := 12) (x := v3) C dX2_unseenKinds_12 (i := 3) rfl rfl ?_
      refine z_aload_n (pc := 13) (x := a1) C dX2_unseenKinds_13 (i := 1) rfl rfl ?_
      refine z_get (pc := 14) (v := .ref q1_0) C 2 dX2_unseenKinds_14 fl_RX2_15 rfl rfl ?_
      refine z_iload_n (pc := 17) (x := v3) C dX2_unseenKinds_17 (i := 3) rfl rfl ?_
      replace h := ob_e h
      obtain ⟨x7, hx7, h⟩ := h
      refine z_callV (pc := 18) (As := [.int v3]) (rest := [.int v3, .ref (r0 0)]) (wr := (wX2 g a0 r0 s0 ++ wX1 g a1 r1 q1_0 s1)) C dX2_unseenKinds_18 ml_RX2_21 wv_X5_copiesOf (m_X5_copiesOf (a0 := q1_0) (r0 := r2) hg hx7) [11, 12, 13, 14] [0, 1, 2, 3, 4, 5, 6, 7, 8, 9, 10] rfl rfl ⟨by decide, by decide⟩ (Nat.le_of_ble_eq_true rfl) ⟨by decide, by decide⟩ rfl rfl rfl rfl rfl rfl rfl (by decide) (ex_k C (cs' := 0) (ss' := 0) (wF := (wX2 g a0 r0 s0 ++ wX1 g a1 r1 q1_0 s1 ++ wX5 g q1_0 r2 s2)) [0, 1, 2, 3, 4, 5, 6, 7, 8, 9, 10, 11, 12, 13, 14] rfl rfl ?_)
      refine z_aload_n (pc := 21) (x := a1) C dX2_unseenKinds_21 (i := 1) rfl rfl ?_
      refine z_iload_n (pc := 22) (x := v3) C dX2_unseenKinds_22 (i := 3) rfl rfl ?_
      replace h := ob_e h
      obtain ⟨x8, hx8, h⟩ := h
      refine z_callV (pc := 23) (As := [.int v3]) (rest := [.int x7, .int v3, .ref (r0 0)]) (wr := (wX2 g a0 r0 s0 ++ wX5 g q1_0 r2 s2)) C dX2_unseenKinds_23 ml_RX2_27 wv_X1_inHeap (m_X1_inHeap (a0 := a1) (r0 := r1) (q0_0 := q1_0) hg hx8) [2, 3, 4, 5, 6, 7, 8, 9, 10] [0, 1, 11, 12, 13, 14] rfl rfl ⟨by decide, by decide⟩ (Nat.le_of_ble_eq_true rfl) ⟨by decide, by decide⟩ rfl rfl rfl rfl rfl rfl rfl (by decide) (ex_k C (cs' := 0) (ss' := 0) (wF := (wX2 g a0 r0 s0 ++ wX1 g a1 r1 q1_0 s1 ++ wX5 g q1_0 r2 s2)) [0, 1, 6, 7, 8, 9, 10, 11, 12, 13, 14, 2, 3, 4, 5] rfl rfl ?_)
      refine z_isub (pc := 26) C dX2_unseenKinds_26 ?_
      refine z_aload_n (pc := 27) (x := a1) C dX2_unseenKinds_27 (i := 1) rfl rfl ?_
      refine z_iload_n (pc := 28) (x := v3) C dX2_unseenKinds_28 (i := 3) rfl rfl ?_
      replace h := ob_e h
      obtain ⟨x9, hx9, h⟩ := h
      refine z_callV (pc := 29) (As := [.int v3]) (rest := [.int (x7 - x8), .int v3, .ref (r0 0)]) (wr := (wX2 g a0 r0 s0 ++ wX5 g q1_0 r2 s2)) C dX2_unseenKinds_29 ml_RX2_30 wv_X1_isOnPile (m_X1_isOnPile (a0 := a1) (r0 := r1) (q0_0 := q1_0) hg hx9) [2, 3, 4, 5, 6, 7, 8, 9, 10] [0, 1, 11, 12, 13, 14] rfl rfl ⟨by decide, by decide⟩ (Nat.le_of_ble_eq_true rfl) ⟨by decide, by decide⟩ rfl rfl rfl rfl rfl rfl rfl (by decide) (ex_k C (cs' := 0) (ss' := 0) (wF := (wX2 g a0 r0 s0 ++ wX1 g a1 r1 q1_0 s1 ++ wX5 g q1_0 r2 s2)) [0, 1, 6, 7, 8, 9, 10, 11, 12, 13, 14, 2, 3, 4, 5] rfl rfl ?_)
      refine z_if_eq (pc := 32) C dX2_unseenKinds_32 (tgt := 39) (by decide) (fun hc => ?_) (fun hc => ?_)
      · replace h := (ite_e h).1 hc
        refine z_iconst (pc := 39) C dX2_unseenKinds_39 ic_0 ?_
        exact m_X2_unseenKinds_40 (a0 := a0) (a1 := a1) (r0 := r0) (r1 := r1) (q1_0 := q1_0) (r2 := r2) hg C X hk2 v3 v3 (x7 - x8) (0 : Int32) s0 h
      · replace h := (ite_e h).2 hc
        refine z_iconst (pc := 35) C dX2_unseenKinds_35 ic_1 ?_
        refine z_goto (pc := 36) C dX2_unseenKinds_36 (tgt := 40) (by decide) ?_
        exact m_X2_unseenKinds_40 (a0 := a0) (a1 := a1) (r0 := r0) (r1 := r1) (q1_0 := q1_0) (r2 := r2) hg C X hk2 v3 v3 (x7 - x8) (1 : Int32) s0 h
def f_X2_unseenKinds (N : Nat) (s0 : Ob) (s1 : Ob) (s2 : Ob) (p2 : Int32) : Option (Int32 × Ob) := (f_X2_unseenKinds_2 N s1 s2 p2 N (0 : Int32) s0)
theorem m_X2_unseenKinds {g : Gp} {a0 : Nat} {a1 : Nat} {r0 : Nat → Nat} {r1 : Nat → Nat} {q1_0 : Nat} {r2 : Nat → Nat} {N : Nat} {s0 : Ob} {s1 : Ob} {s2 : Ob} {p2 : Int32} {res : Int32 × Ob} (hg : Ok g) (h : f_X2_unseenKinds N s0 s1 s2 p2 = some res) : Ct g yX2_unseenKinds cX2_unseenKinds 6 (some .int) (zrm 2 42) [.ref a0, .ref a1, .int p2] (wX2 g a0 r0 s0 ++ wX1 g a1 r1 q1_0 s1 ++ wX5 g q1_0 r2 s2) (exR (some (.int res.1)) (wX2 g a0 r0 res.2 ++ wX1 g a1 r1 q1_0 s1 ++ wX5 g q1_0 r2 s2)) := by
  refine ct_of rfl hg (by show _ ≤ _; exact Nat.le_of_ble_eq_true rfl) (fun K C X => ?_)
  show Zs K 0 0 (wX2 g a0 r0 s0 ++ wX1 g a1 r1 q1_0 s1 ++ wX5 g q1_0 r2 s2) [(0, .ref a0), (1, .ref a1), (2, .int p2)] 0 []
  unfold f_X2_unseenKinds at h
  refine z_iconst (pc := 0) C dX2_unseenKinds_0 ic_0 ?_
  refine z_istore_n (pc := 1) C dX2_unseenKinds_1 (i := 3) rfl (by decide) (lv' := [(3, .int (0 : Int32)), (0, .ref a0), (1, .ref a1), (2, .int p2)]) rfl ?_
  refine z_lv (lv' := [(0, .ref a0), (1, .ref a1), (2, .int p2), (3, .int (0 : Int32))]) [1, 2, 3, 0] rfl ?_
  exact m_X2_unseenKinds_2 (a0 := a0) (a1 := a1) (r0 := r0) (r1 := r1) (q1_0 := q1_0) (r2 := r2) hg C X N (0 : Int32) s0 h
def f_X1_kindsLeftFor (N : Nat) (s0 : Ob) (p1 : Int32) : Option (Int32) := (if p1 < 0 then (some (0 : Int32)) else (if (40 : Int32) ≤ p1 then (some (0 : Int32)) else (chk (inb p1 40) (some ((s0.2.2.1 14) (p1).toNatClampNeg)))))
theorem m_X1_kindsLeftFor {g : Gp} {a0 : Nat} {r0 : Nat → Nat} {q0_0 : Nat} {N : Nat} {s0 : Ob} {p1 : Int32} {res : Int32} (hg : Ok g) (h : f_X1_kindsLeftFor N s0 p1 = some res) : Ct g yX1_kindsLeftFor cX1_kindsLeftFor 2 (some .int) (zrm 0 0) [.ref a0, .int p1] (wX1 g a0 r0 q0_0 s0) (exR (some (.int res)) (wX1 g a0 r0 q0_0 s0)) := by
  refine ct_of rfl hg (by show _ ≤ _; exact Nat.le_of_ble_eq_true rfl) (fun K C X => ?_)
  show Zs K 0 0 (wX1 g a0 r0 q0_0 s0) [(0, .ref a0), (1, .int p1)] 0 []
  unfold f_X1_kindsLeftFor at h
  refine z_iload_n (pc := 0) (x := p1) C dX1_kindsLeftFor_0 (i := 1) rfl rfl ?_
  refine z_if_lt (pc := 1) C dX1_kindsLeftFor_1 (tgt := 19) (by decide) (fun hc => ?_) (fun hc => ?_)
  · replace h := (ite_e h).1 hc
    refine z_iconst (pc := 19) C dX1_kindsLeftFor_19 ic_0 ?_
    exact z_iret C X dX1_kindsLeftFor_20 (by rw [← Option.some.inj h]; exact ⟨rfl, rfl⟩) (by decide) (by decide)
  · replace h := (ite_e h).2 hc
    refine z_iload_n (pc := 4) (x := p1) C dX1_kindsLeftFor_4 (i := 1) rfl rfl ?_
    refine z_bipush (pc := 5) C dX1_kindsLeftFor_5 bp_40 ?_
    refine z_icmp_ge (pc := 7) C dX1_kindsLeftFor_7 (tgt := 19) (by decide) (fun hc => ?_) (fun hc => ?_)
    · replace h := (ite_e h).1 hc
      refine z_iconst (pc := 19) C dX1_kindsLeftFor_19 ic_0 ?_
      exact z_iret C X dX1_kindsLeftFor_20 (by rw [← Option.some.inj h]; exact ⟨rfl, rfl⟩) (by decide) (by decide)
    · replace h := (ite_e h).2 hc
      refine z_aload_n (pc := 10) (x := a0) C dX1_kindsLeftFor_10 (i := 0) rfl rfl ?_
      refine z_get (pc := 11) (v := .ref (r0 14)) C 0 dX1_kindsLeftFor_11 fl_RX1_32 rfl rfl ?_
      refine z_iload_n (pc := 14) (x := p1) C dX1_kindsLeftFor_14 (i := 1) rfl rfl ?_
      replace h := chk_e h
      obtain ⟨hb1, h⟩ := h
      refine z_iald (pc := 15) C 7 dX1_kindsLeftFor_15 rfl hb1 ?_
      refine z_goto (pc := 16) C dX1_kindsLeftFor_16 (tgt := 20) (by decide) ?_
      exact z_iret C X dX1_kindsLeftFor_20 (by rw [← Option.some.inj h]; exact ⟨rfl, rfl⟩) (by decide) (by decide)
def f_X7_areAllIn (N : Nat) (p0 : Int32) (p1 : Int32) : Option (Int32) := (if p0 = 0 then (some (0 : Int32)) else (if (p0 &&& (p1 ^^^ (-1 : Int32))) = 0 then (some (1 : Int32)) else (some (0 : Int32))))
theorem m_X7_areAllIn {g : Gp}  {N : Nat} {p0 : Int32} {p1 : Int32} {res : Int32} (hg : Ok g) (h : f_X7_areAllIn N p0 p1 = some res) : Ct g yX7_areAllIn cX7_areAllIn 2 (some .boolean) (zrm 0 0) [.int p0, .int p1] ([] : va_W) (exR (some (.int res)) ([] : va_W)) := by
  refine ct_of rfl hg (by show _ ≤ _; exact Nat.le_of_ble_eq_true rfl) (fun K C X => ?_)
  show Zs K 0 0 ([] : va_W) [(0, .int p0), (1, .int p1)] 0 []
  unfold f_X7_areAllIn at h
  refine z_iload_n (pc := 0) (x := p0) C dX7_areAllIn_0 (i := 0) rfl rfl ?_
  refine z_if_eq (pc := 1) C dX7_areAllIn_1 (tgt := 16) (by decide) (fun hc => ?_) (fun hc => ?_)
  · replace h := (ite_e h).1 hc
    refine z_iconst (pc := 16) C dX7_areAllIn_16 ic_0 ?_
    exact z_zret C X dX7_areAllIn_17 rfl (by rw [← Option.some.inj h]; exact ⟨rfl, rfl⟩) (by decide) (by decide)
  · replace h := (ite_e h).2 hc
    refine z_iload_n (pc := 4) (x := p0) C dX7_areAllIn_4 (i := 0) rfl rfl ?_
    refine z_iload_n (pc := 5) (x := p1) C dX7_areAllIn_5 (i := 1) rfl rfl ?_
    refine z_iconst (pc := 6) C dX7_areAllIn_6 ic_m1 ?_
    refine z_ixor (pc := 7) C dX7_areAllIn_7 ?_
    refine z_iand (pc := 8) C dX7_areAllIn_8 ?_
    refine z_if_ne (pc := 9) C dX7_areAllIn_9 (tgt := 16) (by decide) (fun hc => ?_) (fun hc => ?_)
    · replace h := (ite_e h).2 hc
      refine z_iconst (pc := 16) C dX7_areAllIn_16 ic_0 ?_
      exact z_zret C X dX7_areAllIn_17 rfl (by rw [← Option.some.inj h]; exact ⟨rfl, rfl⟩) (by decide) (by decide)
    · replace h := (ite_e h).1 hc
      refine z_iconst (pc := 12) C dX7_areAllIn_12 ic_1 ?_
      refine z_goto (pc := 13) C dX7_areAllIn_13 (tgt := 17) (by decide) ?_
      exact z_zret C X dX7_areAllIn_17 rfl (by rw [← Option.some.inj h]; exact ⟨rfl, rfl⟩) (by decide) (by decide)
def F_X0_firstKnown_16 (N : Nat) (s0 : Ob) (s1 : Ob) (s3 : Ob) (p2 : Int32)  (k16 : Int32 → Int32 → Ob → Option (Int32 × Ob)) (v3 : Int32) (v4 : Int32) (s2 : Ob) : Option (Int32 × Ob) := (ob (f_X1_sizeOf N s1 (s1.1 4)) fun x2 => (if x2 ≤ v4 then (some ((-1 : Int32), s2)) else (ob (f_X1_cardAt N s1 (s1.1 4) v4) fun x3 => (ob (f_X1_kindsLeftFor N s1 x3) fun x4 => (ob (f_X7_areAllIn N (v3 &&& x4) p2) fun x5 => (if x5 = 0 then (k16 v3 (v4 + (1 : Int32)) s2) else (some (v4, s2))))))))
def f_X0_firstKnown_16 (N : Nat) (s0 : Ob) (s1 : Ob) (s3 : Ob) (p2 : Int32)  : Nat → Int32 → Int32 → Ob → Option (Int32 × Ob) := zlp (fun _ _ _ => none) (F_X0_firstKnown_16 N s0 s1 s3 p2)
theorem m_X0_firstKnown_16 {K : Kt} {g : Gp} {a0 : Nat} {a1 : Nat} {r0 : Nat → Nat} {q0_4 : Nat} {r1 : Nat → Nat} {q1_0 : Nat} {r2 : Nat → Nat} {r3 : Nat → Nat} {N : Nat} {s0 : Ob} {s1 : Ob} {s3 : Ob} {p2 : Int32} {res : Int32 × Ob} (hg : Ok g) (C : Cx K g cX0_firstKnown RX0 6 (zrm 3 67)) (X : Rx K (exR (some (.int res.1)) (wX0 g a0 r0 q0_4 s0 ++ wX1 g a1 r1 q1_0 s1 ++ wX2 g q0_4 r2 res.2 ++ wX5 g q1_0 r3 s3)) 0 0 (some .int)) : ∀ (n : Nat) (v3 : Int32) (v4 : Int32) (s2 : Ob), f_X0_firstKnown_16 N s0 s1 s3 p2 n v3 v4 s2 = some res → Zs K 0 0 (wX0 g a0 r0 q0_4 s0 ++ wX1 g a1 r1 q1_0 s1 ++ wX2 g q0_4 r2 s2 ++ wX5 g q1_0 r3 s3) [(1, .ref a1), (2, .int p2), (3, .int v3), (4, .int v4)] 16 [] := by
  intro n
  induction n with
  | zero => intro v3 v4 s2 h; exact nomatch (show (none : Option (Int32 × Ob)) = some res from h)
  | succ n hk16 =>
    intro v3 v4 s2 h
    replace h : F_X0_firstKnown_16 N s0 s1 s3 p2 (f_X0_firstKnown_16 N s0 s1 s3 p2 n) v3 v4 s2 = some res := h
    unfold F_X0_firstKnown_16 at h
    refine z_iload (pc := 16) (x := v4) C dX0_firstKnown_16 rfl ?_
    refine z_aload_n (pc := 18) (x := a1) C dX0_firstKnown_18 (i := 1) rfl rfl ?_
    refine z_aload_n (pc := 19) (x := a1) C dX0_firstKnown_19 (i := 1) rfl rfl ?_
    refine z_get (pc := 20) (v := .int (s1.1 4)) C 1 dX0_firstKnown_20 fl_RX0_70 rfl rfl ?_
    replace h := ob_e h
    obtain ⟨x2, hx2, h⟩ := h
    refine z_callV (pc := 23) (As := [.int (s1.1 4)]) (rest := [.int v4]) (wr := (wX0 g a0 r0 q0_4 s0 ++ wX2 g q0_4 r2 s2 ++ wX5 g q1_0 r3 s3)) C dX0_firstKnown_23 ml_RX0_73 wv_X1_sizeOf (m_X1_sizeOf (a0 := a1) (r0 := r1) (q0_0 := q1_0) hg hx2) [1, 2, 3, 4, 5, 6, 7, 8, 9] [0, 10, 11, 12, 13, 14, 15] rfl rfl ⟨by decide, by decide⟩ (Nat.le_of_ble_eq_true rfl) ⟨by decide, by decide⟩ rfl rfl rfl rfl rfl rfl rfl (by decide) (ex_k C (cs' := 0) (ss' := 0) (wF := (wX0 g a0 r0 q0_4 s0 ++ wX1 g a1 r1 q1_0 s1 ++ wX2 g q0_4 r2 s2 ++ wX5 g q1_0 r3 s3)) [0, 7, 8, 9, 10, 11, 12, 13, 14, 15, 1, 2, 3, 4, 5, 6] rfl rfl ?_)
    refine z_icmp_ge (pc := 26) C dX0_firstKnown_26 (tgt := 65) (by decide) (fun hc => ?_) (fun hc => ?_)
    · replace h := (ite_e h).1 hc
      refine z_iconst (pc := 65) C dX0_firstKnown_65 ic_m1 ?_
      exact z_iret C X dX0_firstKnown_66 (by rw [← Option.some.inj h]; exact ⟨rfl, rfl⟩) (by decide) (by decide)
    · replace h := (ite_e h).2 hc
      refine z_aload_n (pc := 29) (x := a1) C dX0_firstKnown_29 (i := 1) rfl rfl ?_
      refine z_aload_n (pc := 30) (x := a1) C dX0_firstKnown_30 (i := 1) rfl rfl ?_
      refine z_get (pc := 31) (v := .int (s1.1 4)) C 1 dX0_firstKnown_31 fl_RX0_70 rfl rfl ?_
      refine z_iload (pc := 34) (x := v4) C dX0_firstKnown_34 rfl ?_
      replace h := ob_e h
      obtain ⟨x3, hx3, h⟩ := h
      refine z_callV (pc := 36) (As := [.int (s1.1 4), .int v4]) (rest := []) (wr := (wX0 g a0 r0 q0_4 s0 ++ wX2 g q0_4 r2 s2 ++ wX5 g q1_0 r3 s3)) C dX0_firstKnown_36 ml_RX0_113 wv_X1_cardAt (m_X1_cardAt (a0 := a1) (r0 := r1) (q0_0 := q1_0) hg hx3) [1, 2, 3, 4, 5, 6, 7, 8, 9] [0, 10, 11, 12, 13, 14, 15] rfl rfl ⟨by decide, by decide⟩ (Nat.le_of_ble_eq_true rfl) ⟨by decide, by decide⟩ rfl rfl rfl rfl rfl rfl rfl (by decide) (ex_k C (cs' := 0) (ss' := 0) (wF := (wX0 g a0 r0 q0_4 s0 ++ wX1 g a1 r1 q1_0 s1 ++ wX2 g q0_4 r2 s2 ++ wX5 g q1_0 r3 s3)) [0, 7, 8, 9, 10, 11, 12, 13, 14, 15, 1, 2, 3, 4, 5, 6] rfl rfl ?_)
      refine z_istore (pc := 39) C dX0_firstKnown_39 (by decide) (lv' := [(5, .int x3), (1, .ref a1), (2, .int p2), (3, .int v3), (4, .int v4)]) rfl ?_
      refine z_iload_n (pc := 41) (x := v3) C dX0_firstKnown_41 (i := 3) rfl rfl ?_
      refine z_aload_n (pc := 42) (x := a1) C dX0_firstKnown_42 (i := 1) rfl rfl ?_
      refine z_iload (pc := 43) (x := x3) C dX0_firstKnown_43 rfl ?_
      replace h := ob_e h
      obtain ⟨x4, hx4, h⟩ := h
      refine z_callV (pc := 45) (As := [.int x3]) (rest := [.int v3]) (wr := (wX0 g a0 r0 q0_4 s0 ++ wX2 g q0_4 r2 s2 ++ wX5 g q1_0 r3 s3)) C dX0_firstKnown_45 ml_RX0_116 wv_X1_kindsLeftFor (m_X1_kindsLeftFor (a0 := a1) (r0 := r1) (q0_0 := q1_0) hg hx4) [1, 2, 3, 4, 5, 6, 7, 8, 9] [0, 10, 11, 12, 13, 14, 15] rfl rfl ⟨by decide, by decide⟩ (Nat.le_of_ble_eq_true rfl) ⟨by decide, by decide⟩ rfl rfl rfl rfl rfl rfl rfl (by decide) (ex_k C (cs' := 0) (ss' := 0) (wF := (wX0 g a0 r0 q0_4 s0 ++ wX1 g a1 r1 q1_0 s1 ++ wX2 g q0_4 r2 s2 ++ wX5 g q1_0 r3 s3)) [0, 7, 8, 9, 10, 11, 12, 13, 14, 15, 1, 2, 3, 4, 5, 6] rfl rfl ?_)
      refine z_iand (pc := 48) C dX0_firstKnown_48 ?_
      refine z_iload_n (pc := 49) (x := p2) C dX0_firstKnown_49 (i := 2) rfl rfl ?_
      replace h := ob_e h
      obtain ⟨x5, hx5, h⟩ := h
      refine z_callSN (pc := 50) (As := [.int (v3 &&& x4), .int p2]) (rest := []) (wr := (wX0 g a0 r0 q0_4 s0 ++ wX1 g a1 r1 q1_0 s1 ++ wX2 g q0_4 r2 s2 ++ wX5 g q1_0 r3 s3)) C dX0_firstKnown_50 mn_RX0_119 wt_X7_areAllIn (m_X7_areAllIn hg hx5) [] [0, 1, 2, 3, 4, 5, 6, 7, 8, 9, 10, 11, 12, 13, 14, 15] rfl rfl ⟨by decide, by decide⟩ (Nat.le_of_ble_eq_true rfl) ⟨by decide, by decide⟩ rfl rfl rfl rfl (by decide) (ex_k C (cs' := 0) (ss' := 0) (wF := (wX0 g a0 r0 q0_4 s0 ++ wX1 g a1 r1 q1_0 s1 ++ wX2 g q0_4 r2 s2 ++ wX5 g q1_0 r3 s3)) [0, 1, 2, 3, 4, 5, 6, 7, 8, 9, 10, 11, 12, 13, 14, 15] rfl rfl ?_)
      refine z_if_eq (pc := 53) C dX0_firstKnown_53 (tgt := 59) (by decide) (fun hc => ?_) (fun hc => ?_)
      · replace h := (ite_e h).1 hc
        refine z_iinc (pc := 59) C dX0_firstKnown_59 rfl (inc_e 1 (1 : Int32) ic_1 v4) (by decide) (lv' := [(4, .int (v4 + (1 : Int32))), (5, .int x3), (1, .ref a1), (2, .int p2), (3, .int v3)]) rfl ?_
        refine z_goto (pc := 62) C dX0_firstKnown_62 (tgt := 16) (by decide) ?_
        refine z_lv (lv' := [(1, .ref a1), (2, .int p2), (3, .int v3), (4, .int (v4 + (1 : Int32)))]) [2, 3, 4, 0] rfl ?_
        exact hk16 v3 (v4 + (1 : Int32)) s2 h
      · replace h := (ite_e h).2 hc
        refine z_iload (pc := 56) (x := v4) C dX0_firstKnown_56 rfl ?_
        exact z_iret C X dX0_firstKnown_58 (by rw [← Option.some.inj h]; exact ⟨rfl, rfl⟩) (by decide) (by decide)
def f_X0_firstKnown (N : Nat) (s0 : Ob) (s1 : Ob) (s2 : Ob) (s3 : Ob) (p2 : Int32) : Option (Int32 × Ob) := (ob (f_X2_unseenKinds N s2 s1 s3 (s1.1 4)) fun x1 => (f_X0_firstKnown_16 N s0 s1 s3 p2 N x1.1 (0 : Int32) x1.2))
theorem m_X0_firstKnown {g : Gp} {a0 : Nat} {a1 : Nat} {r0 : Nat → Nat} {q0_4 : Nat} {r1 : Nat → Nat} {q1_0 : Nat} {r2 : Nat → Nat} {r3 : Nat → Nat} {N : Nat} {s0 : Ob} {s1 : Ob} {s2 : Ob} {s3 : Ob} {p2 : Int32} {res : Int32 × Ob} (hg : Ok g) (h : f_X0_firstKnown N s0 s1 s2 s3 p2 = some res) : Ct g yX0_firstKnown cX0_firstKnown 6 (some .int) (zrm 3 67) [.ref a0, .ref a1, .int p2] (wX0 g a0 r0 q0_4 s0 ++ wX1 g a1 r1 q1_0 s1 ++ wX2 g q0_4 r2 s2 ++ wX5 g q1_0 r3 s3) (exR (some (.int res.1)) (wX0 g a0 r0 q0_4 s0 ++ wX1 g a1 r1 q1_0 s1 ++ wX2 g q0_4 r2 res.2 ++ wX5 g q1_0 r3 s3)) := by
  refine ct_of rfl hg (by show _ ≤ _; exact Nat.le_of_ble_eq_true rfl) (fun K C X => ?_)
  show Zs K 0 0 (wX0 g a0 r0 q0_4 s0 ++ wX1 g a1 r1 q1_0 s1 ++ wX2 g q0_4 r2 s2 ++ wX5 g q1_0 r3 s3) [(0, .ref a0), (1, .ref a1), (2, .int p2)] 0 []
  unfold f_X0_firstKnown at h
  refine z_aload_n (pc := 0) (x := a0) C dX0_firstKnown_0 (i := 0) rfl rfl ?_
  refine z_get (pc := 1) (v := .ref q0_4) C 0 dX0_firstKnown_1 fl_RX0_9 rfl rfl ?_
  refine z_aload_n (pc := 4) (x := a1) C dX0_firstKnown_4 (i := 1) rfl rfl ?_
  refine z_aload_n (pc := 5) (x := a1) C dX0_firstKnown_5 (i := 1) rfl rfl ?_
  refine z_get (pc := 6) (v := .int (s1.1 4)) C 1 dX0_firstKnown_6 fl_RX0_70 rfl rfl ?_
  replace h := ob_e h
  obtain ⟨x1, hx1, h⟩ := h
  refine z_callV (pc := 9) (As := [.ref a1, .int (s1.1 4)]) (rest := []) (wr := (wX0 g a0 r0 q0_4 s0)) C dX0_firstKnown_9 ml_RX0_86 wv_X2_unseenKinds (m_X2_unseenKinds (a0 := q0_4) (a1 := a1) (r0 := r2) (r1 := r1) (q1_0 := q1_0) (r2 := r3) hg hx1) [10, 11, 1, 2, 3, 4, 5, 6, 7, 8, 9, 12, 13, 14, 15] [0] rfl rfl ⟨by decide, by decide⟩ (Nat.le_of_ble_eq_true rfl) ⟨by decide, by decide⟩ rfl rfl rfl rfl rfl rfl rfl (by decide) (ex_k C (cs' := 0) (ss' := 0) (wF := (wX0 g a0 r0 q0_4 s0 ++ wX1 g a1 r1 q1_0 s1 ++ wX2 g q0_4 r2 x1.2 ++ wX5 g q1_0 r3 s3)) [0, 3, 4, 5, 6, 7, 8, 9, 10, 11, 1, 2, 12, 13, 14, 15] rfl rfl ?_)
  refine z_istore_n (pc := 12) C dX0_firstKnown_12 (i := 3) rfl (by decide) (lv' := [(3, .int x1.1), (0, .ref a0), (1, .ref a1), (2, .int p2)]) rfl ?_
  refine z_iconst (pc := 13) C dX0_firstKnown_13 ic_0 ?_
  refine z_istore (pc := 14) C dX0_firstKnown_14 (by decide) (lv' := [(4, .int (0 : Int32)), (3, .int x1.1), (0, .ref a0), (1, .ref a1), (2, .int p2)]) rfl ?_
  refine z_lv (lv' := [(1, .ref a1), (2, .int p2), (3, .int x1.1), (4, .int (0 : Int32))]) [3, 4, 1, 0] rfl ?_
  exact m_X0_firstKnown_16 (a0 := a0) (a1 := a1) (r0 := r0) (q0_4 := q0_4) (r1 := r1) (q1_0 := q1_0) (r2 := r2) (r3 := r3) hg C X N x1.1 (0 : Int32) x1.2 h
def f_X0_choose (N : Nat) (s0 : Ob) (p1 : Int32) (p2 : Int32) : Option (Ob) := (znm (si s0 0 p1) fun y1 => (znm (si y1 1 p2) fun y2 => (znm (si y2 2 (-1 : Int32)) fun y3 => (some (si y3 3 (-1 : Int32))))))
theorem m_X0_choose {g : Gp} {a0 : Nat} {r0 : Nat → Nat} {q0_4 : Nat} {N : Nat} {s0 : Ob} {p1 : Int32} {p2 : Int32} {res : Ob} (hg : Ok g) (h : f_X0_choose N s0 p1 p2 = some res) : Ct g yX0_choose cX0_choose 3 none (zrm 0 0) [.ref a0, .int p1, .int p2] (wX0 g a0 r0 q0_4 s0) (exR none (wX0 g a0 r0 q0_4 res)) := by
  refine ct_of rfl hg (by show _ ≤ _; exact Nat.le_of_ble_eq_true rfl) (fun K C X => ?_)
  show Zs K 0 0 (wX0 g a0 r0 q0_4 s0) [(0, .ref a0), (1, .int p1), (2, .int p2)] 0 []
  unfold f_X0_choose at h
  refine z_aload_n (pc := 0) (x := a0) C dX0_choose_0 (i := 0) rfl rfl ?_
  refine z_iload_n (pc := 1) (x := p1) C dX0_choose_1 (i := 1) rfl rfl ?_
  refine z_put (pc := 2) C 0 dX0_choose_2 fp_RX0_15 rfl rfl rfl (zlt_b rfl) (ws' := (wX0 g a0 r0 q0_4 (si s0 0 p1))) rfl ?_
  refine z_aload_n (pc := 5) (x := a0) C dX0_choose_5 (i := 0) rfl rfl ?_
  refine z_iload_n (pc := 6) (x := p2) C dX0_choose_6 (i := 2) rfl rfl ?_
  replace h := znm_e h
  obtain ⟨y1, hy1, h⟩ := h
  refine z_wsE (ws' := (wX0 g a0 r0 q0_4 y1)) (by rw [hy1]) ?_
  refine z_put (pc := 7) C 0 dX0_choose_7 fp_RX0_19 rfl rfl rfl (zlt_b rfl) (ws' := (wX0 g a0 r0 q0_4 (si y1 1 p2))) rfl ?_
  refine z_aload_n (pc := 10) (x := a0) C dX0_choose_10 (i := 0) rfl rfl ?_
  refine z_iconst (pc := 11) C dX0_choose_11 ic_m1 ?_
  replace h := znm_e h
  obtain ⟨y2, hy2, h⟩ := h
  refine z_wsE (ws' := (wX0 g a0 r0 q0_4 y2)) (by rw [hy2]) ?_
  refine z_put (pc := 12) C 0 dX0_choose_12 fp_RX0_31 rfl rfl rfl (zlt_b rfl) (ws' := (wX0 g a0 r0 q0_4 (si y2 2 (-1 : Int32)))) rfl ?_
  refine z_aload_n (pc := 15) (x := a0) C dX0_choose_15 (i := 0) rfl rfl ?_
  refine z_iconst (pc := 16) C dX0_choose_16 ic_m1 ?_
  replace h := znm_e h
  obtain ⟨y3, hy3, h⟩ := h
  refine z_wsE (ws' := (wX0 g a0 r0 q0_4 y3)) (by rw [hy3]) ?_
  refine z_put (pc := 17) C 0 dX0_choose_17 fp_RX0_34 rfl rfl rfl (zlt_b rfl) (ws' := (wX0 g a0 r0 q0_4 (si y3 3 (-1 : Int32)))) rfl ?_
  exact z_vret C X dX0_choose_20 (by rw [← Option.some.inj h]; exact ⟨rfl, rfl⟩) (by decide) (by decide)
def f_X1_timesLeft (N : Nat) (s0 : Ob) (p1 : Int32) (p2 : Int32) : Option (Int32) := (ob (f_X5_indexOfWord N p1 p2) fun x1 => (if x1 = (-1 : Int32) then (some (0 : Int32)) else (chk (inb x1 9) (some ((s0.2.2.1 13) (x1).toNatClampNeg)))))
theorem m_X1_timesLeft {g : Gp} {a0 : Nat} {r0 : Nat → Nat} {q0_0 : Nat} {N : Nat} {s0 : Ob} {p1 : Int32} {p2 : Int32} {res : Int32} (hg : Ok g) (h : f_X1_timesLeft N s0 p1 p2 = some res) : Ct g yX1_timesLeft cX1_timesLeft 4 (some .int) (zrm 1 21) [.ref a0, .int p1, .int p2] (wX1 g a0 r0 q0_0 s0) (exR (some (.int res)) (wX1 g a0 r0 q0_0 s0)) := by
  refine ct_of rfl hg (by show _ ≤ _; exact Nat.le_of_ble_eq_true rfl) (fun K C X => ?_)
  show Zs K 0 0 (wX1 g a0 r0 q0_0 s0) [(0, .ref a0), (1, .int p1), (2, .int p2)] 0 []
  unfold f_X1_timesLeft at h
  refine z_iload_n (pc := 0) (x := p1) C dX1_timesLeft_0 (i := 1) rfl rfl ?_
  refine z_iload_n (pc := 1) (x := p2) C dX1_timesLeft_1 (i := 2) rfl rfl ?_
  replace h := ob_e h
  obtain ⟨x1, hx1, h⟩ := h
  refine z_callS (pc := 2) (As := [.int p1, .int p2]) (rest := []) (wr := (wX1 g a0 r0 q0_0 s0)) C dX1_timesLeft_2 ml_RX1_116 wt_X5_indexOfWord (m_X5_indexOfWord hg hx1) [] [0, 1, 2, 3, 4, 5, 6, 7, 8] rfl rfl ⟨by decide, by decide⟩ (Nat.le_of_ble_eq_true rfl) ⟨by decide, by decide⟩ rfl rfl rfl rfl (by decide) (ex_k C (cs' := 0) (ss' := 0) (wF := (wX1 g a0 r0 q0_0 s0)) [0, 1, 2, 3, 4, 5, 6, 7, 8] rfl rfl ?_)
  refine z_istore_n (pc := 5) C dX1_timesLeft_5 (i := 3) rfl (by decide) (lv' := [(3, .int x1), (0, .ref a0), (1, .int p1), (2, .int p2)]) rfl ?_
  refine z_iload_n (pc := 6) (x := x1) C dX1_timesLeft_6 (i := 3) rfl rfl ?_
  refine z_iconst (pc := 7) C dX1_timesLeft_7 ic_m1 ?_
  refine z_icmp_eq (pc := 8) C dX1_timesLeft_8 (tgt := 20) (by decide) (fun hc => ?_) (fun hc => ?_)
  · replace h := (ite_e h).1 hc
    refine z_iconst (pc := 20) C dX1_timesLeft_20 ic_0 ?_
    exact z_iret C X dX1_timesLeft_21 (by rw [← Option.some.inj h]; exact ⟨rfl, rfl⟩) (by decide) (by decide)
  · replace h := (ite_e h).2 hc
    refine z_aload_n (pc := 11) (x := a0) C dX1_timesLeft_11 (i := 0) rfl rfl ?_
    refine z_get (pc := 12) (v := .ref (r0 13)) C 0 dX1_timesLeft_12 fl_RX1_29 rfl rfl ?_
    refine z_iload_n (pc := 15) (x := x1) C dX1_timesLeft_15 (i := 3) rfl rfl ?_
    replace h := chk_e h
    obtain ⟨hb2, h⟩ := h
    refine z_iald (pc := 16) C 6 dX1_timesLeft_16 rfl hb2 ?_
    refine z_goto (pc := 17) C dX1_timesLeft_17 (tgt := 21) (by decide) ?_
    exact z_iret C X dX1_timesLeft_21 (by rw [← Option.some.inj h]; exact ⟨rfl, rfl⟩) (by decide) (by decide)
def F_X1_touchedPlaces_5 (N : Nat) (s0 : Ob) (s1 : Ob) (p1 : Int32) (p2 : Int32)  (k5 : Int32 → Int32 → Option (Int32)) (v3 : Int32) (v4 : Int32) : Option (Int32) := (ob (f_X1_sizeOf N s0 p1) fun x1 => (if x1 ≤ v4 then (some v3) else (ob (f_X1_cardAt N s0 p1 v4) fun x2 => (ob (f_X1_kindOf N s0 s1 x2) fun x3 => (ob (f_X7_isIn N x3 p2) fun x4 => (if x4 = 0 then (k5 v3 (v4 + (1 : Int32))) else (k5 (v3 ||| ((1 : Int32) <<< (v4 &&& 31))) (v4 + (1 : Int32)))))))))
def f_X1_touchedPlaces_5 (N : Nat) (s0 : Ob) (s1 : Ob) (p1 : Int32) (p2 : Int32)  : Nat → Int32 → Int32 → Option (Int32) := zlp (fun _ _ => none) (F_X1_touchedPlaces_5 N s0 s1 p1 p2)
theorem m_X1_touchedPlaces_5 {K : Kt} {g : Gp} {a0 : Nat} {r0 : Nat → Nat} {q0_0 : Nat} {r1 : Nat → Nat} {N : Nat} {s0 : Ob} {s1 : Ob} {p1 : Int32} {p2 : Int32} {res : Int32} (hg : Ok g) (C : Cx K g cX1_touchedPlaces RX1 5 (zrm 1 23)) (X : Rx K (exR (some (.int res)) (wX1 g a0 r0 q0_0 s0 ++ wX5 g q0_0 r1 s1)) 0 0 (some .int)) : ∀ (n : Nat) (v3 : Int32) (v4 : Int32), f_X1_touchedPlaces_5 N s0 s1 p1 p2 n v3 v4 = some res → Zs K 0 0 (wX1 g a0 r0 q0_0 s0 ++ wX5 g q0_0 r1 s1) [(0, .ref a0), (1, .int p1), (2, .int p2), (3, .int v3), (4, .int v4)] 5 [] := by
  intro n
  induction n with
  | zero => intro v3 v4 h; exact nomatch (show (none : Option (Int32)) = some res from h)
  | succ n hk5 =>
    intro v3 v4 h
    replace h : F_X1_touchedPlaces_5 N s0 s1 p1 p2 (f_X1_touchedPlaces_5 N s0 s1 p1 p2 n) v3 v4 = some res := h
    unfold F_X1_touchedPlaces_5 at h
    refine z_iload (pc := 5) (x := v4) C dX1_touchedPlaces_5 rfl ?_
    refine z_aload_n (pc := 7) (x := a0) C dX1_touchedPlaces_7 (i := 0) rfl rfl ?_
    refine z_iload_n (pc := 8) (x := p1) C dX1_touchedPlaces_8 (i := 1) rfl rfl ?_
    replace h := ob_e h
    obtain ⟨x1, hx1, h⟩ := h
    refine z_callV (pc := 9) (As := [.int p1]) (rest := [.int v4]) (wr := (wX5 g q0_0 r1 s1)) C dX1_touchedPlaces_9 ml_RX1_120 wv_X1_sizeOf (m_X1_sizeOf (a0 := a0) (r0 := r0) (q0_0 := q0_0) hg hx1) [0, 1, 2, 3, 4, 5, 6, 7, 8] [9, 10, 11, 12] rfl rfl ⟨by decide, by decide⟩ (Nat.le_of_ble_eq_true rfl) ⟨by decide, by decide⟩ rfl rfl rfl rfl rfl rfl rfl (by decide) (ex_k C (cs' := 0) (ss' := 0) (wF := (wX1 g a0 r0 q0_0 s0 ++ wX5 g q0_0 r1 s1)) [4, 5, 6, 7, 8, 9, 10, 11, 12, 0, 1, 2, 3] rfl rfl ?_)
    refine z_icmp_ge (pc := 12) C dX1_touchedPlaces_12 (tgt := 46) (by decide) (fun hc => ?_) (fun hc => ?_)
    · replace h := (ite_e h).1 hc
      refine z_iload_n (pc := 46) (x := v3) C dX1_touchedPlaces_46 (i := 3) rfl rfl ?_
      exact z_iret C X dX1_touchedPlaces_47 (by rw [← Option.some.inj h]; exact ⟨rfl, rfl⟩) (by decide) (by decide)
    · replace h := (ite_e h).2 hc
      refine z_aload_n (pc := 15) (x := a0) C dX1_touchedPlaces_15 (i := 0) rfl rfl ?_
      refine z_aload_n (pc := 16) (x := a0) C dX1_touchedPlaces_16 (i := 0) rfl rfl ?_
      refine z_iload_n (pc := 17) (x := p1) C dX1_touchedPlaces_17 (i := 1) rfl rfl ?_
      refine z_iload (pc := 18) (x := v4) C dX1_touchedPlaces_18 rfl ?_
      replace h := ob_e h
      obtain ⟨x2, hx2, h⟩ := h
      refine z_callV (pc := 20) (As := [.int p1, .int v4]) (rest := [.ref a0]) (wr := (wX5 g q0_0 r1 s1)) C dX1_touchedPlaces_20 ml_RX1_124 wv_X1_cardAt (m_X1_cardAt (a0 := a0) (r0 := r0) (q0_0 := q0_0) hg hx2) [0, 1, 2, 3, 4, 5, 6, 7, 8] [9, 10, 11, 12] rfl rfl ⟨by decide, by decide⟩ (Nat.le_of_ble_eq_true rfl) ⟨by decide, by decide⟩ rfl rfl rfl rfl rfl rfl rfl (by decide) (ex_k C (cs' := 0) (ss' := 0) (wF := (wX1 g a0 r0 q0_0 s0 ++ wX5 g q0_0 r1 s1)) [4, 5, 6, 7, 8, 9, 10, 11, 12, 0, 1, 2, 3] rfl rfl ?_)
      replace h := ob_e h
      obtain ⟨x3, hx3, h⟩ := h
      refine z_callV (pc := 23) (As := [.int x2]) (rest := []) (wr := ([] : va_W)) C dX1_touchedPlaces_23 ml_RX1_127 wv_X1_kindOf (m_X1_kindOf (a0 := a0) (r0 := r0) (q0_0 := q0_0) (r1 := r1) hg hx3) [0, 1, 2, 3, 4, 5, 6, 7, 8, 9, 10, 11, 12] [] rfl rfl ⟨by decide, by decide⟩ (Nat.le_of_ble_eq_true rfl) ⟨by decide, by decide⟩ rfl rfl rfl rfl rfl rfl rfl (by decide) (ex_k C (cs' := 0) (ss' := 0) (wF := (wX1 g a0 r0 q0_0 s0 ++ wX5 g q0_0 r1 s1)) [0, 1, 2, 3, 4, 5, 6, 7, 8, 9, 10, 11, 12] rfl rfl ?_)
      refine z_iload_n (pc := 26) (x := p2) C dX1_touchedPlaces_26 (i := 2) rfl rfl ?_
      replace h := ob_e h
      obtain ⟨x4, hx4, h⟩ := h
      refine z_callSN (pc := 27) (As := [.int x3, .int p2]) (rest := []) (wr := (wX1 g a0 r0 q0_0 s0 ++ wX5 g q0_0 r1 s1)) C dX1_touchedPlaces_27 mn_RX1_146 wt_X7_isIn (m_X7_isIn hg hx4) [] [0, 1, 2, 3, 4, 5, 6, 7, 8, 9, 10, 11, 12] rfl rfl ⟨by decide, by decide⟩ (Nat.le_of_ble_eq_true rfl) ⟨by decide, by decide⟩ rfl rfl rfl rfl (by decide) (ex_k C (cs' := 0) (ss' := 0) (wF := (wX1 g a0 r0 q0_0 s0 ++ wX5 g q0_0 r1 s1)) [0, 1, 2, 3, 4, 5, 6, 7, 8, 9, 10, 11, 12] rfl rfl ?_)
      refine z_if_eq (pc := 30) C dX1_touchedPlaces_30 (tgt := 40) (by decide) (fun hc => ?_) (fun hc => ?_)
      · replace h := (ite_e h).1 hc
        refine z_iinc (pc := 40) C dX1_touchedPlaces_40 rfl (inc_e 1 (1 : Int32) ic_1 v4) (by decide) (lv' := [(4, .int (v4 + (1 : Int32))), (0, .ref a0), (1, .int p1), (2, .int p2), (3, .int v3)]) rfl ?_
        refine z_goto (pc := 43) C dX1_touchedPlaces_43 (tgt := 5) (by decide) ?_
        refine z_lv (lv' := [(0, .ref a0), (1, .int p1), (2, .int p2), (3, .int v3), (4, .int (v4 + (1 : Int32)))]) [1, 2, 3, 4, 0] rfl ?_
        exact hk5 v3 (v4 + (1 : Int32)) h
      · replace h := (ite_e h).2 hc
        refine z_iload_n (pc := 33) (x := v3) C dX1_touchedPlaces_33 (i := 3) rfl rfl ?_
        refine z_iconst (pc := 34) C dX1_touchedPlaces_34 ic_1 ?_
        refine z_iload (pc := 35) (x := v4) C dX1_touchedPlaces_35 rfl ?_
        refine z_ishl (pc := 37) C dX1_touchedPlaces_37 ?_
        refine z_ior (pc := 38) C dX1_touchedPlaces_38 ?_
        refine z_istore_n (pc := 39) C dX1_touchedPlaces_39 (i := 3) rfl (by decide) (lv' := [(3, .int (v3 ||| ((1 : Int32) <<< (v4 &&& 31)))), (0, .ref a0), (1, .int p1), (2, .int p2), (4, .int v4)]) rfl ?_
        refine z_iinc (pc := 40) C dX1_touchedPlaces_40 rfl (inc_e 1 (1 : Int32) ic_1 v4) (by decide) (lv' := [(4, .int (v4 + (1 : Int32))), (3, .int (v3 ||| ((1 : Int32) <<< (v4 &&& 31)))), (0, .ref a0), (1, .int p1), (2, .int p2)]) rfl ?_
        refine z_goto (pc := 43) C dX1_touchedPlaces_43 (tgt := 5) (by decide) ?_
        refine z_lv (lv' := [(0, .ref a0), (1, .int p1), (2, .int p2), (3, .int (v3 ||| ((1 : Int32) <<< (v4 &&& 31)))), (4, .int (v4 + (1 : Int32)))]) [2, 3, 4, 1, 0] rfl ?_
        exact hk5 (v3 ||| ((1 : Int32) <<< (v4 &&& 31))) (v4 + (1 : Int32)) h
def f_X1_touchedPlaces (N : Nat) (s0 : Ob) (s1 : Ob) (p1 : Int32) (p2 : Int32) : Option (Int32) := (f_X1_touchedPlaces_5 N s0 s1 p1 p2 N (0 : Int32) (0 : Int32))
theorem m_X1_touchedPlaces {g : Gp} {a0 : Nat} {r0 : Nat → Nat} {q0_0 : Nat} {r1 : Nat → Nat} {N : Nat} {s0 : Ob} {s1 : Ob} {p1 : Int32} {p2 : Int32} {res : Int32} (hg : Ok g) (h : f_X1_touchedPlaces N s0 s1 p1 p2 = some res) : Ct g yX1_touchedPlaces cX1_touchedPlaces 5 (some .int) (zrm 1 23) [.ref a0, .int p1, .int p2] (wX1 g a0 r0 q0_0 s0 ++ wX5 g q0_0 r1 s1) (exR (some (.int res)) (wX1 g a0 r0 q0_0 s0 ++ wX5 g q0_0 r1 s1)) := by
  refine ct_of rfl hg (by show _ ≤ _; exact Nat.le_of_ble_eq_true rfl) (fun K C X => ?_)
  show Zs K 0 0 (wX1 g a0 r0 q0_0 s0 ++ wX5 g q0_0 r1 s1) [(0, .ref a0), (1, .int p1), (2, .int p2)] 0 []
  unfold f_X1_touchedPlaces at h
  refine z_iconst (pc := 0) C dX1_touchedPlaces_0 ic_0 ?_
  refine z_istore_n (pc := 1) C dX1_touchedPlaces_1 (i := 3) rfl (by decide) (lv' := [(3, .int (0 : Int32)), (0, .ref a0), (1, .int p1), (2, .int p2)]) rfl ?_
  refine z_iconst (pc := 2) C dX1_touchedPlaces_2 ic_0 ?_
  refine z_istore (pc := 3) C dX1_touchedPlaces_3 (by decide) (lv' := [(4, .int (0 : Int32)), (3, .int (0 : Int32)), (0, .ref a0), (1, .int p1), (2, .int p2)]) rfl ?_
  refine z_lv (lv' := [(0, .ref a0), (1, .int p1), (2, .int p2), (3, .int (0 : Int32)), (4, .int (0 : Int32))]) [2, 3, 4, 1, 0] rfl ?_
  exact m_X1_touchedPlaces_5 (a0 := a0) (r0 := r0) (q0_0 := q0_0) (r1 := r1) hg C X N (0 : Int32) (0 : Int32) h
def f_X1_canBeGiven (N : Nat) (s0 : Ob) (s1 : Ob) (p1 : Int32) (p2 : Int32) (p3 : Int32) : Option (Int32) := (if (s0.1 2) ≤ 0 then (some (0 : Int32)) else (if p1 = (s0.1 4) then (some (0 : Int32)) else (ob (f_X1_timesLeft N s0 p2 p3) fun x1 => (if x1 ≤ 0 then (some (0 : Int32)) else (ob (f_X7_kindsOfWord N p2 p3) fun x2 => (ob (f_X1_touchedPlaces N s0 s1 p1 x2) fun x3 => (if x3 = 0 then (some (0 : Int32)) else (some (1 : Int32)))))))))
theorem m_X1_canBeGiven {g : Gp} {a0 : Nat} {r0 : Nat → Nat} {q0_0 : Nat} {r1 : Nat → Nat} {N : Nat} {s0 : Ob} {s1 : Ob} {p1 : Int32} {p2 : Int32} {p3 : Int32} {res : Int32} (hg : Ok g) (h : f_X1_canBeGiven N s0 s1 p1 p2 p3 = some res) : Ct g yX1_canBeGiven cX1_canBeGiven 4 (some .boolean) (zrm 2 47) [.ref a0, .int p1, .int p2, .int p3] (wX1 g a0 r0 q0_0 s0 ++ wX5 g q0_0 r1 s1) (exR (some (.int res)) (wX1 g a0 r0 q0_0 s0 ++ wX5 g q0_0 r1 s1)) := by
  refine ct_of rfl hg (by show _ ≤ _; exact Nat.le_of_ble_eq_true rfl) (fun K C X => ?_)
  show Zs K 0 0 (wX1 g a0 r0 q0_0 s0 ++ wX5 g q0_0 r1 s1) [(0, .ref a0), (1, .int p1), (2, .int p2), (3, .int p3)] 0 []
  unfold f_X1_canBeGiven at h
  refine z_aload_n (pc := 0) (x := a0) C dX1_canBeGiven_0 (i := 0) rfl rfl ?_
  refine z_get (pc := 1) (v := .int (s0.1 2)) C 0 dX1_canBeGiven_1 fl_RX1_46 rfl rfl ?_
  refine z_if_le (pc := 4) C dX1_canBeGiven_4 (tgt := 41) (by decide) (fun hc => ?_) (fun hc => ?_)
  · replace h := (ite_e h).1 hc
    refine z_iconst (pc := 41) C dX1_canBeGiven_41 ic_0 ?_
    exact z_zret C X dX1_canBeGiven_42 rfl (by rw [← Option.some.inj h]; exact ⟨rfl, rfl⟩) (by decide) (by decide)
  · replace h := (ite_e h).2 hc
    refine z_iload_n (pc := 7) (x := p1) C dX1_canBeGiven_7 (i := 1) rfl rfl ?_
    refine z_aload_n (pc := 8) (x := a0) C dX1_canBeGiven_8 (i := 0) rfl rfl ?_
    refine z_get (pc := 9) (v := .int (s0.1 4)) C 0 dX1_canBeGiven_9 fl_RX1_52 rfl rfl ?_
    refine z_icmp_eq (pc := 12) C dX1_canBeGiven_12 (tgt := 41) (by decide) (fun hc => ?_) (fun hc => ?_)
    · replace h := (ite_e h).1 hc
      refine z_iconst (pc := 41) C dX1_canBeGiven_41 ic_0 ?_
      exact z_zret C X dX1_canBeGiven_42 rfl (by rw [← Option.some.inj h]; exact ⟨rfl, rfl⟩) (by decide) (by decide)
    · replace h := (ite_e h).2 hc
      refine z_aload_n (pc := 15) (x := a0) C dX1_canBeGiven_15 (i := 0) rfl rfl ?_
      refine z_iload_n (pc := 16) (x := p2) C dX1_canBeGiven_16 (i := 2) rfl rfl ?_
      refine z_iload_n (pc := 17) (x := p3) C dX1_canBeGiven_17 (i := 3) rfl rfl ?_
      replace h := ob_e h
      obtain ⟨x1, hx1, h⟩ := h
      refine z_callV (pc := 18) (As := [.int p2, .int p3]) (rest := []) (wr := (wX5 g q0_0 r1 s1)) C dX1_canBeGiven_18 ml_RX1_150 wv_X1_timesLeft (m_X1_timesLeft (a0 := a0) (r0 := r0) (q0_0 := q0_0) hg hx1) [0, 1, 2, 3, 4, 5, 6, 7, 8] [9, 10, 11, 12] rfl rfl ⟨by decide, by decide⟩ (Nat.le_of_ble_eq_true rfl) ⟨by decide, by decide⟩ rfl rfl rfl rfl rfl rfl rfl (by decide) (ex_k C (cs' := 0) (ss' := 0) (wF := (wX1 g a0 r0 q0_0 s0 ++ wX5 g q0_0 r1 s1)) [4, 5, 6, 7, 8, 9, 10, 11, 12, 0, 1, 2, 3] rfl rfl ?_)
      refine z_if_le (pc := 21) C dX1_canBeGiven_21 (tgt := 41) (by decide) (fun hc => ?_) (fun hc => ?_)
      · replace h := (ite_e h).1 hc
        refine z_iconst (pc := 41) C dX1_canBeGiven_41 ic_0 ?_
        exact z_zret C X dX1_canBeGiven_42 rfl (by rw [← Option.some.inj h]; exact ⟨rfl, rfl⟩) (by decide) (by decide)
      · replace h := (ite_e h).2 hc
        refine z_aload_n (pc := 24) (x := a0) C dX1_canBeGiven_24 (i := 0) rfl rfl ?_
        refine z_iload_n (pc := 25) (x := p1) C dX1_canBeGiven_25 (i := 1) rfl rfl ?_
        refine z_iload_n (pc := 26) (x := p2) C dX1_canBeGiven_26 (i := 2) rfl rfl ?_
        refine z_iload_n (pc := 27) (x := p3) C dX1_canBeGiven_27 (i := 3) rfl rfl ?_
        replace h := ob_e h
        obtain ⟨x2, hx2, h⟩ := h
        refine z_callSN (pc := 28) (As := [.int p2, .int p3]) (rest := [.int p1, .ref a0]) (wr := (wX1 g a0 r0 q0_0 s0 ++ wX5 g q0_0 r1 s1)) C dX1_canBeGiven_28 mn_RX1_153 wt_X7_kindsOfWord (m_X7_kindsOfWord hg hx2) [] [0, 1, 2, 3, 4, 5, 6, 7, 8, 9, 10, 11, 12] rfl rfl ⟨by decide, by decide⟩ (Nat.le_of_ble_eq_true rfl) ⟨by decide, by decide⟩ rfl rfl rfl rfl (by decide) (ex_k C (cs' := 0) (ss' := 0) (wF := (wX1 g a0 r0 q0_0 s0 ++ wX5 g q0_0 r1 s1)) [0, 1, 2, 3, 4, 5, 6, 7, 8, 9, 10, 11, 12] rfl rfl ?_)
        replace h := ob_e h
        obtain ⟨x3, hx3, h⟩ := h
        refine z_callV (pc := 31) (As := [.int p1, .int x2]) (rest := []) (wr := ([] : va_W)) C dX1_canBeGiven_31 ml_RX1_156 wv_X1_touchedPlaces (m_X1_touchedPlaces (a0 := a0) (r0 := r0) (q0_0 := q0_0) (r1 := r1) hg hx3) [0, 1, 2, 3, 4, 5, 6, 7, 8, 9, 10, 11, 12] [] rfl rfl ⟨by decide, by decide⟩ (Nat.le_of_ble_eq_true rfl) ⟨by decide, by decide⟩ rfl rfl rfl rfl rfl rfl rfl (by decide) (ex_k C (cs' := 0) (ss' := 0) (wF := (wX1 g a0 r0 q0_0 s0 ++ wX5 g q0_0 r1 s1)) [0, 1, 2, 3, 4, 5, 6, 7, 8, 9, 10, 11, 12] rfl rfl ?_)
        refine z_if_eq (pc := 34) C dX1_canBeGiven_34 (tgt := 41) (by decide) (fun hc => ?_) (fun hc => ?_)
        · replace h := (ite_e h).1 hc
          refine z_iconst (pc := 41) C dX1_canBeGiven_41 ic_0 ?_
          exact z_zret C X dX1_canBeGiven_42 rfl (by rw [← Option.some.inj h]; exact ⟨rfl, rfl⟩) (by decide) (by decide)
        · replace h := (ite_e h).2 hc
          refine z_iconst (pc := 37) C dX1_canBeGiven_37 ic_1 ?_
          refine z_goto (pc := 38) C dX1_canBeGiven_38 (tgt := 42) (by decide) ?_
          exact z_zret C X dX1_canBeGiven_42 rfl (by rw [← Option.some.inj h]; exact ⟨rfl, rfl⟩) (by decide) (by decide)
def f_X2_newlyPlayable_66 (N : Nat) (s0 : Ob) (s1 : Ob) (s2 : Ob) (p2 : Int32) (p3 : Int32) (p4 : Int32) (k12 : Int32 → Int32 → Int32 → Option (Int32)) (v5 : Int32) (v6 : Int32) (v7 : Int32) (v9 : Int32) (t0 : Int32) (t1 : Int32) : Option (Int32) := (ob (f_X7_areAllIn N (t0 &&& t1) v5) fun x7 => (if x7 = 0 then (k12 v5 v6 (v7 + (1 : Int32))) else (ob (f_X7_areAllIn N v9 v5) fun x8 => (if x8 = 0 then (k12 v5 (v6 + (1 : Int32)) (v7 + (1 : Int32))) else (k12 v5 v6 (v7 + (1 : Int32)))))))
theorem m_X2_newlyPlayable_66 {K : Kt} {g : Gp} {a0 : Nat} {a1 : Nat} {r0 : Nat → Nat} {r1 : Nat → Nat} {q1_0 : Nat} {r2 : Nat → Nat} {N : Nat} {s0 : Ob} {s1 : Ob} {s2 : Ob} {p2 : Int32} {p3 : Int32} {p4 : Int32} {res : Int32} (hg : Ok g) (C : Cx K g cX2_newlyPlayable RX2 11 (zrm 2 43)) (X : Rx K (exR (some (.int res)) (wX2 g a0 r0 s0 ++ wX1 g a1 r1 q1_0 s1 ++ wX5 g q1_0 r2 s2)) 0 0 (some .int)) {k12 : Int32 → Int32 → Int32 → Option (Int32)} (hk12 : ∀ (v5 : Int32) (v6 : Int32) (v7 : Int32), k12 v5 v6 v7 = some res → Zs K 0 0 (wX2 g a0 r0 s0 ++ wX1 g a1 r1 q1_0 s1 ++ wX5 g q1_0 r2 s2) [(1, .ref a1), (2, .int p2), (3, .int p3), (4, .int p4), (5, .int v5), (6, .int v6), (7, .int v7)] 12 []) (v5 : Int32) (v6 : Int32) (v7 : Int32) (v9 : Int32) (t0 : Int32) (t1 : Int32) (h : f_X2_newlyPlayable_66 N s0 s1 s2 p2 p3 p4 k12 v5 v6 v7 v9 t0 t1 = some res) : Zs K 0 0 (wX2 g a0 r0 s0 ++ wX1 g a1 r1 q1_0 s1 ++ wX5 g q1_0 r2 s2) [(1, .ref a1), (2, .int p2), (3, .int p3), (4, .int p4), (5, .int v5), (6, .int v6), (7, .int v7), (9, .int v9)] 66 [.int t1, .int t0] := by
  unfold f_X2_newlyPlayable_66 at h
  refine z_iand (pc := 66) C dX2_newlyPlayable_66 ?_
  refine z_istore (pc := 67) C dX2_newlyPlayable_67 (by decide) (lv' := [(10, .int (t0 &&& t1)), (1, .ref a1), (2, .int p2), (3, .int p3), (4, .int p4), (5, .int v5), (6, .int v6), (7, .int v7), (9, .int v9)]) rfl ?_
  refine z_iload (pc := 69) (x := (t0 &&& t1)) C dX2_newlyPlayable_69 rfl ?_
  refine z_iload (pc := 71) (x := v5) C dX2_newlyPlayable_71 rfl ?_
  replace h := ob_e h
  obtain ⟨x7, hx7, h⟩ := h
  refine z_callSN (pc := 73) (As := [.int (t0 &&& t1), .int v5]) (rest := []) (wr := (wX2 g a0 r0 s0 ++ wX1 g a1 r1 q1_0 s1 ++ wX5 g q1_0 r2 s2)) C dX2_newlyPlayable_73 mn_RX2_59 wt_X7_areAllIn (m_X7_areAllIn hg hx7) [] [0, 1, 2, 3, 4, 5, 6, 7, 8, 9, 10, 11, 12, 13, 14] rfl rfl ⟨by decide, by decide⟩ (Nat.le_of_ble_eq_true rfl) ⟨by decide, by decide⟩ rfl rfl rfl rfl (by decide) (ex_k C (cs' := 0) (ss' := 0) (wF := (wX2 g a0 r0 s0 ++ wX1 g a1 r1 q1_0 s1 ++ wX5 g q1_0 r2 s2)) [0, 1, 2, 3, 4, 5, 6, 7, 8, 9, 10, 11, 12, 13, 14] rfl rfl ?_)
  refine z_if_eq (pc := 76) C dX2_newlyPlayable_76 (tgt := 92) (by decide) (fun hc => ?_) (fun hc => ?_)
  · replace h := (ite_e h).1 hc
    refine z_iinc (pc := 92) C dX2_newlyPlayable_92 rfl (inc_e 1 (1 : Int32) ic_1 v7) (by decide) (lv' := [(7, .int (v7 + (1 : Int32))), (10, .int (t0 &&& t1)), (1, .ref a1), (2, .int p2), (3, .int p3), (4, .int p4), (5, .int v5), (6, .int v6), (9, .int v9)]) rfl ?_
    refine z_goto (pc := 95) C dX2_newlyPlayable_95 (tgt := 12) (by decide) ?_
    refine z_lv (lv' := [(1, .ref a1), (2, .int p2), (3, .int p3), (4, .int p4), (5, .int v5), (6, .int v6), (7, .int (v7 + (1 : Int32)))]) [2, 3, 4, 5, 6, 7, 0] rfl ?_
    exact hk12 v5 v6 (v7 + (1 : Int32)) h
  · replace h := (ite_e h).2 hc
    refine z_iload (pc := 79) (x := v9) C dX2_newlyPlayable_79 rfl ?_
    refine z_iload (pc := 81) (x := v5) C dX2_newlyPlayable_81 rfl ?_
    replace h := ob_e h
    obtain ⟨x8, hx8, h⟩ := h
    refine z_callSN (pc := 83) (As := [.int v9, .int v5]) (rest := []) (wr := (wX2 g a0 r0 s0 ++ wX1 g a1 r1 q1_0 s1 ++ wX5 g q1_0 r2 s2)) C dX2_newlyPlayable_83 mn_RX2_59 wt_X7_areAllIn (m_X7_areAllIn hg hx8) [] [0, 1, 2, 3, 4, 5, 6, 7, 8, 9, 10, 11, 12, 13, 14] rfl rfl ⟨by decide, by decide⟩ (Nat.le_of_ble_eq_true rfl) ⟨by decide, by decide⟩ rfl rfl rfl rfl (by decide) (ex_k C (cs' := 0) (ss' := 0) (wF := (wX2 g a0 r0 s0 ++ wX1 g a1 r1 q1_0 s1 ++ wX5 g q1_0 r2 s2)) [0, 1, 2, 3, 4, 5, 6, 7, 8, 9, 10, 11, 12, 13, 14] rfl rfl ?_)
    refine z_if_ne (pc := 86) C dX2_newlyPlayable_86 (tgt := 92) (by decide) (fun hc => ?_) (fun hc => ?_)
    · replace h := (ite_e h).2 hc
      refine z_iinc (pc := 92) C dX2_newlyPlayable_92 rfl (inc_e 1 (1 : Int32) ic_1 v7) (by decide) (lv' := [(7, .int (v7 + (1 : Int32))), (10, .int (t0 &&& t1)), (1, .ref a1), (2, .int p2), (3, .int p3), (4, .int p4), (5, .int v5), (6, .int v6), (9, .int v9)]) rfl ?_
      refine z_goto (pc := 95) C dX2_newlyPlayable_95 (tgt := 12) (by decide) ?_
      refine z_lv (lv' := [(1, .ref a1), (2, .int p2), (3, .int p3), (4, .int p4), (5, .int v5), (6, .int v6), (7, .int (v7 + (1 : Int32)))]) [2, 3, 4, 5, 6, 7, 0] rfl ?_
      exact hk12 v5 v6 (v7 + (1 : Int32)) h
    · replace h := (ite_e h).1 hc
      refine z_iinc (pc := 89) C dX2_newlyPlayable_89 rfl (inc_e 1 (1 : Int32) ic_1 v6) (by decide) (lv' := [(6, .int (v6 + (1 : Int32))), (10, .int (t0 &&& t1)), (1, .ref a1), (2, .int p2), (3, .int p3), (4, .int p4), (5, .int v5), (7, .int v7), (9, .int v9)]) rfl ?_
      refine z_iinc (pc := 92) C dX2_newlyPlayable_92 rfl (inc_e 1 (1 : Int32) ic_1 v7) (by decide) (lv' := [(7, .int (v7 + (1 : Int32))), (6, .int (v6 + (1 : Int32))), (10, .int (t0 &&& t1)), (1, .ref a1), (2, .int p2), (3, .int p3), (4, .int p4), (5, .int v5), (9, .int v9)]) rfl ?_
      refine z_goto (pc := 95) C dX2_newlyPlayable_95 (tgt := 12) (by decide) ?_
      refine z_lv (lv' := [(1, .ref a1), (2, .int p2), (3, .int p3), (4, .int p4), (5, .int v5), (6, .int (v6 + (1 : Int32))), (7, .int (v7 + (1 : Int32)))]) [3, 4, 5, 6, 7, 1, 0] rfl ?_
      exact hk12 v5 (v6 + (1 : Int32)) (v7 + (1 : Int32)) h
def F_X2_newlyPlayable_12 (N : Nat) (s0 : Ob) (s1 : Ob) (s2 : Ob) (p2 : Int32) (p3 : Int32) (p4 : Int32)  (k12 : Int32 → Int32 → Int32 → Option (Int32)) (v5 : Int32) (v6 : Int32) (v7 : Int32) : Option (Int32) := (ob (f_X1_sizeOf N s1 p2) fun x2 => (if x2 ≤ v7 then (some v6) else (ob (f_X1_cardAt N s1 p2 v7) fun x3 => (ob (f_X1_kindsLeftFor N s1 x3) fun x4 => (ob (f_X1_kindOf N s1 s2 x3) fun x5 => (ob (f_X7_isIn N x5 p4) fun x6 => (if x6 = 0 then (f_X2_newlyPlayable_66 N s0 s1 s2 p2 p3 p4 k12 v5 v6 v7 (p3 &&& x4) (p3 &&& x4) (p4 ^^^ (-1 : Int32))) else (f_X2_newlyPlayable_66 N s0 s1 s2 p2 p3 p4 k12 v5 v6 v7 (p3 &&& x4) (p3 &&& x4) p4))))))))
def f_X2_newlyPlayable_12 (N : Nat) (s0 : Ob) (s1 : Ob) (s2 : Ob) (p2 : Int32) (p3 : Int32) (p4 : Int32)  : Nat → Int32 → Int32 → Int32 → Option (Int32) := zlp (fun _ _ _ => none) (F_X2_newlyPlayable_12 N s0 s1 s2 p2 p3 p4)
theorem m_X2_newlyPlayable_12 {K : Kt} {g : Gp} {a0 : Nat} {a1 : Nat} {r0 : Nat → Nat} {r1 : Nat → Nat} {q1_0 : Nat} {r2 : Nat → Nat} {N : Nat} {s0 : Ob} {s1 : Ob} {s2 : Ob} {p2 : Int32} {p3 : Int32} {p4 : Int32} {res : Int32} (hg : Ok g) (C : Cx K g cX2_newlyPlayable RX2 11 (zrm 2 43)) (X : Rx K (exR (some (.int res)) (wX2 g a0 r0 s0 ++ wX1 g a1 r1 q1_0 s1 ++ wX5 g q1_0 r2 s2)) 0 0 (some .int)) : ∀ (n : Nat) (v5 : Int32) (v6 : Int32) (v7 : Int32), f_X2_newlyPlayable_12 N s0 s1 s2 p2 p3 p4 n v5 v6 v7 = some res → Zs K 0 0 (wX2 g a0 r0 s0 ++ wX1 g a1 r1 q1_0 s1 ++ wX5 g q1_0 r2 s2) [(1, .ref a1), (2, .int p2), (3, .int p3), (4, .int p4), (5, .int v5), (6, .int v6), (7, .int v7)] 12 [] := by
  intro n
  induction n with
  | zero => intro v5 v6 v7 h; exact nomatch (show (none : Option (Int32)) = some res from h)
  | succ n hk12 =>
    intro v5 v6 v7 h
    replace h : F_X2_newlyPlayable_12 N s0 s1 s2 p2 p3 p4 (f_X2_newlyPlayable_12 N s0 s1 s2 p2 p3 p4 n) v5 v6 v7 = some res := h
    unfold F_X2_newlyPlayable_12 at h
    refine z_iload (pc := 12) (x := v7) C dX2_newlyPlayable_12 rfl ?_
    refine z_aload_n (pc := 14) (x := a1) C dX2_newlyPlayable_14 (i := 1) rfl rfl ?_
    refine z_iload_n (pc := 15) (x := p2) C dX2_newlyPlayable_15 (i := 2) rfl rfl ?_
    replace h := ob_e h
    obtain ⟨x2, hx2, h⟩ := h
    refine z_callV (pc := 16) (As := [.int p2]) (rest := [.int v7]) (wr := (wX2 g a0 r0 s0 ++ wX5 g q1_0 r2 s2)) C dX2_newlyPlayable_16 ml_RX2_38 wv_X1_sizeOf (m_X1_sizeOf (a0 := a1) (r0 := r1) (q0_0 := q1_0) hg hx2) [2, 3, 4, 5, 6, 7, 8, 9, 10] [0, 1, 11, 12, 13, 14] rfl rfl ⟨by decide, by decide⟩ (Nat.le_of_ble_eq_true rfl) ⟨by decide, by decide⟩ rfl rfl rfl rfl rfl rfl rfl (by decide) (ex_k C (cs' := 0) (ss' := 0) (wF := (wX2 g a0 r0 s0 ++ wX1 g a1 r1 q1_0 s1 ++ wX5 g q1_0 r2 s2)) [0, 1, 6, 7, 8, 9, 10, 11, 12, 13, 14, 2, 3, 4, 5] rfl rfl ?_)
    refine z_icmp_ge (pc := 19) C dX2_newlyPlayable_19 (tgt := 98) (by decide) (fun hc => ?_) (fun hc => ?_)
    · replace h := (ite_e h).1 hc
      refine z_iload (pc := 98) (x := v6) C dX2_newlyPlayable_98 rfl ?_
      exact z_iret C X dX2_newlyPlayable_100 (by rw [← Option.some.inj h]; exact ⟨rfl, rfl⟩) (by decide) (by decide)
    · replace h := (ite_e h).2 hc
      refine z_aload_n (pc := 22) (x := a1) C dX2_newlyPlayable_22 (i := 1) rfl rfl ?_
      refine z_iload_n (pc := 23) (x := p2) C dX2_newlyPlayable_23 (i := 2) rfl rfl ?_
      refine z_iload (pc := 24) (x := v7) C dX2_newlyPlayable_24 rfl ?_
      replace h := ob_e h
      obtain ⟨x3, hx3, h⟩ := h
      refine z_callV (pc := 26) (As := [.int p2, .int v7]) (rest := []) (wr := (wX2 g a0 r0 s0 ++ wX5 g q1_0 r2 s2)) C dX2_newlyPlayable_26 ml_RX2_41 wv_X1_cardAt (m_X1_cardAt (a0 := a1) (r0 := r1) (q0_0 := q1_0) hg hx3) [2, 3, 4, 5, 6, 7, 8, 9, 10] [0, 1, 11, 12, 13, 14] rfl rfl ⟨by decide, by decide⟩ (Nat.le_of_ble_eq_true rfl) ⟨by decide, by decide⟩ rfl rfl rfl rfl rfl rfl rfl (by decide) (ex_k C (cs' := 0) (ss' := 0) (wF := (wX2 g a0 r0 s0 ++ wX1 g a1 r1 q1_0 s1 ++ wX5 g q1_0 r2 s2)) [0, 1, 6, 7, 8, 9, 10, 11, 12, 13, 14, 2, 3, 4, 5] rfl rfl ?_)
      refine z_istore (pc := 29) C dX2_newlyPlayable_29 (by decide) (lv' := [(8, .int x3), (1, .ref a1), (2, .int p2), (3, .int p3), (4, .int p4), (5, .int v5), (6, .int v6), (7, .int v7)]) rfl ?_
      refine z_iload_n (pc := 31) (x := p3) C dX2_newlyPlayable_31 (i := 3) rfl rfl ?_
      refine z_aload_n (pc := 32) (x := a1) C dX2_newlyPlayable_32 (i := 1) rfl rfl ?_
      refine z_iload (pc := 33) (x := x3) C dX2_newlyPlayable_33 rfl ?_
      replace h := ob_e h
      obtain ⟨x4, hx4, h⟩ := h
      refine z_callV (pc := 35) (As := [.int x3]) (rest := [.int p3]) (wr := (wX2 g a0 r0 s0 ++ wX5 g q1_0 r2 s2)) C dX2_newlyPlayable_35 ml_RX2_52 wv_X1_kindsLeftFor (m_X1_kindsLeftFor (a0 := a1) (r0 := r1) (q0_0 := q1_0) hg hx4) [2, 3, 4, 5, 6, 7, 8, 9, 10] [0, 1, 11, 12, 13, 14] rfl rfl ⟨by decide, by decide⟩ (Nat.le_of_ble_eq_true rfl) ⟨by decide, by decide⟩ rfl rfl rfl rfl rfl rfl rfl (by decide) (ex_k C (cs' := 0) (ss' := 0) (wF := (wX2 g a0 r0 s0 ++ wX1 g a1 r1 q1_0 s1 ++ wX5 g q1_0 r2 s2)) [0, 1, 6, 7, 8, 9, 10, 11, 12, 13, 14, 2, 3, 4, 5] rfl rfl ?_)
      refine z_iand (pc := 38) C dX2_newlyPlayable_38 ?_
      refine z_istore (pc := 39) C dX2_newlyPlayable_39 (by decide) (lv' := [(9, .int (p3 &&& x4)), (8, .int x3), (1, .ref a1), (2, .int p2), (3, .int p3), (4, .int p4), (5, .int v5), (6, .int v6), (7, .int v7)]) rfl ?_
      refine z_iload (pc := 41) (x := (p3 &&& x4)) C dX2_newlyPlayable_41 rfl ?_
      refine z_aload_n (pc := 43) (x := a1) C dX2_newlyPlayable_43 (i := 1) rfl rfl ?_
      refine z_iload (pc := 44) (x := x3) C dX2_newlyPlayable_44 rfl ?_
      replace h := ob_e h
      obtain ⟨x5, hx5, h⟩ := h
      refine z_callV (pc := 46) (As := [.int x3]) (rest := [.int (p3 &&& x4)]) (wr := (wX2 g a0 r0 s0)) C dX2_newlyPlayable_46 ml_RX2_45 wv_X1_kindOf (m_X1_kindOf (a0 := a1) (r0 := r1) (q0_0 := q1_0) (r1 := r2) hg hx5) [2, 3, 4, 5, 6, 7, 8, 9, 10, 11, 12, 13, 14] [0, 1] rfl rfl ⟨by decide, by decide⟩ (Nat.le_of_ble_eq_true rfl) ⟨by decide, by decide⟩ rfl rfl rfl rfl rfl rfl rfl (by decide) (ex_k C (cs' := 0) (ss' := 0) (wF := (wX2 g a0 r0 s0 ++ wX1 g a1 r1 q1_0 s1 ++ wX5 g q1_0 r2 s2)) [0, 1, 2, 3, 4, 5, 6, 7, 8, 9, 10, 11, 12, 13, 14] rfl rfl ?_)
      refine z_iload (pc := 49) (x := p4) C dX2_newlyPlayable_49 rfl ?_
      replace h := ob_e h
      obtain ⟨x6, hx6, h⟩ := h
      refine z_callSN (pc := 51) (As := [.int x5, .int p4]) (rest := [.int (p3 &&& x4)]) (wr := (wX2 g a0 r0 s0 ++ wX1 g a1 r1 q1_0 s1 ++ wX5 g q1_0 r2 s2)) C dX2_newlyPlayable_51 mn_RX2_55 wt_X7_isIn (m_X7_isIn hg hx6) [] [0, 1, 2, 3, 4, 5, 6, 7, 8, 9, 10, 11, 12, 13, 14] rfl rfl ⟨by decide, by decide⟩ (Nat.le_of_ble_eq_true rfl) ⟨by decide, by decide⟩ rfl rfl rfl rfl (by decide) (ex_k C (cs' := 0) (ss' := 0) (wF := (wX2 g a0 r0 s0 ++ wX1 g a1 r1 q1_0 s1 ++ wX5 g q1_0 r2 s2)) [0, 1, 2, 3, 4, 5, 6, 7, 8, 9, 10, 11, 12, 13, 14] rfl rfl ?_)
      refine z_if_eq (pc := 54) C dX2_newlyPlayable_54 (tgt := 62) (by decide) (fun hc => ?_) (fun hc => ?_)
      · replace h := (ite_e h).1 hc
        refine z_iload (pc := 62) (x := p4) C dX2_newlyPlayable_62 rfl ?_
        refine z_iconst (pc := 64) C dX2_newlyPlayable_64 ic_m1 ?_
        refine z_ixor (pc := 65) C dX2_newlyPlayable_65 ?_
        refine z_lv (lv' := [(1, .ref a1), (2, .int p2), (3, .int p3), (4, .int p4), (5, .int v5), (6, .int v6), (7, .int v7), (9, .int (p3 &&& x4))]) [2, 3, 4, 5, 6, 7, 8, 0] rfl ?_
        exact m_X2_newlyPlayable_66 (a0 := a0) (a1 := a1) (r0 := r0) (r1 := r1) (q1_0 := q1_0) (r2 := r2) hg C X hk12 v5 v6 v7 (p3 &&& x4) (p3 &&& x4) (p4 ^^^ (-1 : Int32)) h
      · replace h := (ite_e h).2 hc
        refine z_iload (pc := 57) (x := p4) C dX2_newlyPlayable_57 rfl ?_
        refine z_goto (pc := 59) C dX2_newlyPlayable_59 (tgt := 66) (by decide) ?_
        refine z_lv (lv' := [(1, .ref a1), (2, .int p2), (3, .int p3), (4, .int p4), (5, .int v5), (6, .int v6), (7, .int v7), (9, .int (p3 &&& x4))]) [2, 3, 4, 5, 6, 7, 8, 0] rfl ?_
        exact m_X2_newlyPlayable_66 (a0 := a0) (a1 := a1) (r0 := r0) (r1 := r1) (q1_0 := q1_0) (r2 := r2) hg C X hk12 v5 v6 v7 (p3 &&& x4) (p3 &&& x4) p4 h
def f_X2_newlyPlayable (N : Nat) (s0 : Ob) (s1 : Ob) (s2 : Ob) (p2 : Int32) (p3 : Int32) (p4 : Int32) : Option (Int32) := (ob (f_X1_playableKinds N s1 s2) fun x1 => (f_X2_newlyPlayable_12 N s0 s1 s2 p2 p3 p4 N x1 (0 : Int32) (0 : Int32)))
theorem m_X2_newlyPlayable {g : Gp} {a0 : Nat} {a1 : Nat} {r0 : Nat → Nat} {r1 : Nat → Nat} {q1_0 : Nat} {r2 : Nat → Nat} {N : Nat} {s0 : Ob} {s1 : Ob} {s2 : Ob} {p2 : Int32} {p3 : Int32} {p4 : Int32} {res : Int32} (hg : Ok g) (h : f_X2_newlyPlayable N s0 s1 s2 p2 p3 p4 = some res) : Ct g yX2_newlyPlayable cX2_newlyPlayable 11 (some .int) (zrm 2 43) [.ref a0, .ref a1, .int p2, .int p3, .int p4] (wX2 g a0 r0 s0 ++ wX1 g a1 r1 q1_0 s1 ++ wX5 g q1_0 r2 s2) (exR (some (.int res)) (wX2 g a0 r0 s0 ++ wX1 g a1 r1 q1_0 s1 ++ wX5 g q1_0 r2 s2)) := by
  refine ct_of rfl hg (by show _ ≤ _; exact Nat.le_of_ble_eq_true rfl) (fun K C X => ?_)
  show Zs K 0 0 (wX2 g a0 r0 s0 ++ wX1 g a1 r1 q1_0 s1 ++ wX5 g q1_0 r2 s2) [(0, .ref a0), (1, .ref a1), (2, .int p2), (3, .int p3), (4, .int p4)] 0 []
  unfold f_X2_newlyPlayable at h
  refine z_aload_n (pc := 0) (x := a1) C dX2_newlyPlayable_0 (i := 1) rfl rfl ?_
  replace h := ob_e h
  obtain ⟨x1, hx1, h⟩ := h
  refine z_callV (pc := 1) (As := []) (rest := []) (wr := (wX2 g a0 r0 s0)) C dX2_newlyPlayable_1 ml_RX2_48 wv_X1_playableKinds (m_X1_playableKinds (a0 := a1) (r0 := r1) (q0_0 := q1_0) (r1 := r2) hg hx1) [2, 3, 4, 5, 6, 7, 8, 9, 10, 11, 12, 13, 14] [0, 1] rfl rfl ⟨by decide, by decide⟩ (Nat.le_of_ble_eq_true rfl) ⟨by decide, by decide⟩ rfl rfl rfl rfl rfl rfl rfl (by decide) (ex_k C (cs' := 0) (ss' := 0) (wF := (wX2 g a0 r0 s0 ++ wX1 g a1 r1 q1_0 s1 ++ wX5 g q1_0 r2 s2)) [0, 1, 2, 3, 4, 5, 6, 7, 8, 9, 10, 11, 12, 13, 14] rfl rfl ?_)
  refine z_istore (pc := 4) C dX2_newlyPlayable_4 (by decide) (lv' := [(5, .int x1), (0, .ref a0), (1, .ref a1), (2, .int p2), (3, .int p3), (4, .int p4)]) rfl ?_
  refine z_iconst (pc := 6) C dX2_newlyPlayable_6 ic_0 ?_
  refine z_istore (pc := 7) C dX2_newlyPlayable_7 (by decide) (lv' := [(6, .int (0 : Int32)), (5, .int x1), (0, .ref a0), (1, .ref a1), (2, .int p2), (3, .int p3), (4, .int p4)]) rfl ?_
  refine z_iconst (pc := 9) C dX2_newlyPlayable_9 ic_0 ?_
  refine z_istore (pc := 10) C dX2_newlyPlayable_10 (by decide) (lv' := [(7, .int (0 : Int32)), (6, .int (0 : Int32)), (5, .int x1), (0, .ref a0), (1, .ref a1), (2, .int p2), (3, .int p3), (4, .int p4)]) rfl ?_
  refine z_lv (lv' := [(1, .ref a1), (2, .int p2), (3, .int p3), (4, .int p4), (5, .int x1), (6, .int (0 : Int32)), (7, .int (0 : Int32))]) [4, 5, 6, 7, 2, 1, 0] rfl ?_
  exact m_X2_newlyPlayable_12 (a0 := a0) (a1 := a1) (r0 := r0) (r1 := r1) (q1_0 := q1_0) (r2 := r2) hg C X N x1 (0 : Int32) (0 : Int32) h
def f_X0_weighHint (N : Nat) (s0 : Ob) (s1 : Ob) (s2 : Ob) (s3 : Ob) (p2 : Int32) (p3 : Int32) (p4 : Int32) (p5 : Int32) : Option (Ob) := (ob (f_X1_canBeGiven N s1 s2 p2 p4 p5) fun x1 => (if x1 = 0 then (some s0) else (ob (f_X7_kindsOfWord N p4 p5) fun x2 => (ob (f_X2_newlyPlayable N s3 s1 s2 p2 p3 x2) fun x3 => (if x3 ≤ (s0.1 5) then (some s0) else (znm (si s0 5 x3) fun y4 => (znm (si y4 0 (2 : Int32)) fun y5 => (znm (si y5 1 p2) fun y6 => (znm (si y6 2 p4) fun y7 => (some (si y7 3 p5)))))))))))
theorem m_X0_weighHint {g : Gp} {a0 : Nat} {a1 : Nat} {r0 : Nat → Nat} {q0_4 : Nat} {r1 : Nat → Nat} {q1_0 : Nat} {r2 : Nat → Nat} {r3 : Nat → Nat} {N : Nat} {s0 : Ob} {s1 : Ob} {s2 : Ob} {s3 : Ob} {p2 : Int32} {p3 : Int32} {p4 : Int32} {p5 : Int32} {res : Ob} (hg : Ok g) (h : f_X0_weighHint N s0 s1 s2 s3 p2 p3 p4 p5 = some res) : Ct g yX0_weighHint cX0_weighHint 7 none (zrm 3 73) [.ref a0, .ref a1, .int p2, .int p3, .int p4, .int p5] (wX0 g a0 r0 q0_4 s0 ++ wX1 g a1 r1 q1_0 s1 ++ wX5 g q1_0 r2 s2 ++ wX2 g q0_4 r3 s3) (exR none (wX0 g a0 r0 q0_4 res ++ wX1 g a1 r1 q1_0 s1 ++ wX5 g q1_0 r2 s2 ++ wX2 g q0_4 r3 s3)) := by
  refine ct_of rfl hg (by show _ ≤ _; exact Nat.le_of_ble_eq_true rfl) (fun K C X => ?_)
  show Zs K 0 0 (wX0 g a0 r0 q0_4 s0 ++ wX1 g a1 r1 q1_0 s1 ++ wX5 g q1_0 r2 s2 ++ wX2 g q0_4 r3 s3) [(0, .ref a0), (1, .ref a1), (2, .int p2), (3, .int p3), (4, .int p4), (5, .int p5)] 0 []
  unfold f_X0_weighHint at h
  refine z_aload_n (pc := 0) (x := a1) C dX0_weighHint_0 (i := 1) rfl rfl ?_
  refine z_iload_n (pc := 1) (x := p2) C dX0_weighHint_1 (i := 2) rfl rfl ?_
  refine z_iload (pc := 2) (x := p4) C dX0_weighHint_2 rfl ?_
  refine z_iload (pc := 4) (x := p5) C dX0_weighHint_4 rfl ?_
  replace h := ob_e h
  obtain ⟨x1, hx1, h⟩ := h
  refine z_callV (pc := 6) (As := [.int p2, .int p4, .int p5]) (rest := []) (wr := (wX0 g a0 r0 q0_4 s0 ++ wX2 g q0_4 r3 s3)) C dX0_weighHint_6 ml_RX0_101 wv_X1_canBeGiven (m_X1_canBeGiven (a0 := a1) (r0 := r1) (q0_0 := q1_0) (r1 := r2) hg hx1) [1, 2, 3, 4, 5, 6, 7, 8, 9, 10, 11, 12, 13] [0, 14, 15] rfl rfl ⟨by decide, by decide⟩ (Nat.le_of_ble_eq_true rfl) ⟨by decide, by decide⟩ rfl rfl rfl rfl rfl rfl rfl (by decide) (ex_k C (cs' := 0) (ss' := 0) (wF := (wX0 g a0 r0 q0_4 s0 ++ wX1 g a1 r1 q1_0 s1 ++ wX5 g q1_0 r2 s2 ++ wX2 g q0_4 r3 s3)) [0, 3, 4, 5, 6, 7, 8, 9, 10, 11, 12, 13, 14, 15, 1, 2] rfl rfl ?_)
  refine z_if_ne (pc := 9) C dX0_weighHint_9 (tgt := 13) (by decide) (fun hc => ?_) (fun hc => ?_)
  · replace h := (ite_e h).2 hc
    refine z_aload_n (pc := 13) (x := a0) C dX0_weighHint_13 (i := 0) rfl rfl ?_
    refine z_get (pc := 14) (v := .ref q0_4) C 0 dX0_weighHint_14 fl_RX0_9 rfl rfl ?_
    refine z_aload_n (pc := 17) (x := a1) C dX0_weighHint_17 (i := 1) rfl rfl ?_
    refine z_iload_n (pc := 18) (x := p2) C dX0_weighHint_18 (i := 2) rfl rfl ?_
    refine z_iload_n (pc := 19) (x := p3) C dX0_weighHint_19 (i := 3) rfl rfl ?_
    refine z_iload (pc := 20) (x := p4) C dX0_weighHint_20 rfl ?_
    refine z_iload (pc := 22) (x := p5) C dX0_weighHint_22 rfl ?_
    replace h := ob_e h
    obtain ⟨x2, hx2, h⟩ := h
    refine z_callSN (pc := 24) (As := [.int p4, .int p5]) (rest := [.int p3, .int p2, .ref a1, .ref q0_4]) (wr := (wX0 g a0 r0 q0_4 s0 ++ wX1 g a1 r1 q1_0 s1 ++ wX5 g q1_0 r2 s2 ++ wX2 g q0_4 r3 s3)) C dX0_weighHint_24 mn_RX0_105 wt_X7_kindsOfWord (m_X7_kindsOfWord hg hx2) [] [0, 1, 2, 3, 4, 5, 6, 7, 8, 9, 10, 11, 12, 13, 14, 15] rfl rfl ⟨by decide, by decide⟩ (Nat.le_of_ble_eq_true rfl) ⟨by decide, by decide⟩ rfl rfl rfl rfl (by decide) (ex_k C (cs' := 0) (ss' := 0) (wF := (wX0 g a0 r0 q0_4 s0 ++ wX1 g a1 r1 q1_0 s1 ++ wX5 g q1_0 r2 s2 ++ wX2 g q0_4 r3 s3)) [0, 1, 2, 3, 4, 5, 6, 7, 8, 9, 10, 11, 12, 13, 14, 15] rfl rfl ?_)
    replace h := ob_e h
    obtain ⟨x3, hx3, h⟩ := h
    refine z_callV (pc := 27) (As := [.ref a1, .int p2, .int p3, .int x2]) (rest := []) (wr := (wX0 g a0 r0 q0_4 s0)) C dX0_weighHint_27 ml_RX0_109 wv_X2_newlyPlayable (m_X2_newlyPlayable (a0 := q0_4) (a1 := a1) (r0 := r3) (r1 := r1) (q1_0 := q1_0) (r2 := r2) hg hx3) [14, 15, 1, 2, 3, 4, 5, 6, 7, 8, 9, 10, 11, 12, 13] [0] rfl rfl ⟨by decide, by decide⟩ (Nat.le_of_ble_eq_true rfl) ⟨by decide, by decide⟩ rfl rfl rfl rfl rfl rfl rfl (by decide) (ex_k C (cs' := 0) (ss' := 0) (wF := (wX0 g a0 r0 q0_4 s0 ++ wX1 g a1 r1 q1_0 s1 ++ wX5 g q1_0 r2 s2 ++ wX2 g q0_4 r3 s3)) [0, 3, 4, 5, 6, 7, 8, 9, 10, 11, 12, 13, 14, 15, 1, 2] rfl rfl ?_)
    refine z_istore (pc := 30) C dX0_weighHint_30 (by decide) (lv' := [(6, .int x3), (0, .ref a0), (1, .ref a1), (2, .int p2), (3, .int p3), (4, .int p4), (5, .int p5)]) rfl ?_
    refine z_iload (pc := 32) (x := x3) C dX0_weighHint_32 rfl ?_
    refine z_aload_n (pc := 34) (x := a0) C dX0_weighHint_34 (i := 0) rfl rfl ?_
    refine z_get (pc := 35) (v := .int (s0.1 5)) C 0 dX0_weighHint_35 fl_RX0_60 rfl rfl ?_
    refine z_icmp_le (pc := 38) C dX0_weighHint_38 (tgt := 69) (by decide) (fun hc => ?_) (fun hc => ?_)
    · replace h := (ite_e h).1 hc
      exact z_vret C X dX0_weighHint_69 (by rw [← Option.some.inj h]; exact ⟨rfl, rfl⟩) (by decide) (by decide)
    · replace h := (ite_e h).2 hc
      refine z_aload_n (pc := 41) (x := a0) C dX0_weighHint_41 (i := 0) rfl rfl ?_
      refine z_iload (pc := 42) (x := x3) C dX0_weighHint_42 rfl ?_
      refine z_put (pc := 44) C 0 dX0_weighHint_44 fp_RX0_60 rfl rfl rfl (zlt_b rfl) (ws' := (wX0 g a0 r0 q0_4 (si s0 5 x3) ++ wX1 g a1 r1 q1_0 s1 ++ wX5 g q1_0 r2 s2 ++ wX2 g q0_4 r3 s3)) rfl ?_
      refine z_aload_n (pc := 47) (x := a0) C dX0_weighHint_47 (i := 0) rfl rfl ?_
      refine z_iconst (pc := 48) C dX0_weighHint_48 ic_2 ?_
      replace h := znm_e h
      obtain ⟨y4, hy4, h⟩ := h
      refine z_wsE (ws' := (wX0 g a0 r0 q0_4 y4 ++ wX1 g a1 r1 q1_0 s1 ++ wX5 g q1_0 r2 s2 ++ wX2 g q0_4 r3 s3)) (by rw [hy4]) ?_
      refine z_put (pc := 49) C 0 dX0_weighHint_49 fp_RX0_15 rfl rfl rfl (zlt_b rfl) (ws' := (wX0 g a0 r0 q0_4 (si y4 0 (2 : Int32)) ++ wX1 g a1 r1 q1_0 s1 ++ wX5 g q1_0 r2 s2 ++ wX2 g q0_4 r3 s3)) rfl ?_
      refine z_aload_n (pc := 52) (x := a0) C dX0_weighHint_52 (i := 0) rfl rfl ?_
      refine z_iload_n (pc := 53) (x := p2) C dX0_weighHint_53 (i := 2) rfl rfl ?_
      replace h := znm_e h
      obtain ⟨y5, hy5, h⟩ := h
      refine z_wsE (ws' := (wX0 g a0 r0 q0_4 y5 ++ wX1 g a1 r1 q1_0 s1 ++ wX5 g q1_0 r2 s2 ++ wX2 g q0_4 r3 s3)) (by rw [hy5]) ?_
      refine z_put (pc := 54) C 0 dX0_weighHint_54 fp_RX0_19 rfl rfl rfl (zlt_b rfl) (ws' := (wX0 g a0 r0 q0_4 (si y5 1 p2) ++ wX1 g a1 r1 q1_0 s1 ++ wX5 g q1_0 r2 s2 ++ wX2 g q0_4 r3 s3)) rfl ?_
      refine z_aload_n (pc := 57) (x := a0) C dX0_weighHint_57 (i := 0) rfl rfl ?_
      refine z_iload (pc := 58) (x := p4) C dX0_weighHint_58 rfl ?_
      replace h := znm_e h
      obtain ⟨y6, hy6, h⟩ := h
      refine z_wsE (ws' := (wX0 g a0 r0 q0_4 y6 ++ wX1 g a1 r1 q1_0 s1 ++ wX5 g q1_0 r2 s2 ++ wX2 g q0_4 r3 s3)) (by rw [hy6]) ?_
      refine z_put (pc := 60) C 0 dX0_weighHint_60 fp_RX0_31 rfl rfl rfl (zlt_b rfl) (ws' := (wX0 g a0 r0 q0_4 (si y6 2 p4) ++ wX1 g a1 r1 q1_0 s1 ++ wX5 g q1_0 r2 s2 ++ wX2 g q0_4 r3 s3)) rfl ?_
      refine z_aload_n (pc := 63) (x := a0) C dX0_weighHint_63 (i := 0) rfl rfl ?_
      refine z_iload (pc := 64) (x := p5) C dX0_weighHint_64 rfl ?_
      replace h := znm_e h
      obtain ⟨y7, hy7, h⟩ := h
      refine z_wsE (ws' := (wX0 g a0 r0 q0_4 y7 ++ wX1 g a1 r1 q1_0 s1 ++ wX5 g q1_0 r2 s2 ++ wX2 g q0_4 r3 s3)) (by rw [hy7]) ?_
      refine z_put (pc := 66) C 0 dX0_weighHint_66 fp_RX0_34 rfl rfl rfl (zlt_b rfl) (ws' := (wX0 g a0 r0 q0_4 (si y7 3 p5) ++ wX1 g a1 r1 q1_0 s1 ++ wX5 g q1_0 r2 s2 ++ wX2 g q0_4 r3 s3)) rfl ?_
      exact z_vret C X dX0_weighHint_69 (by rw [← Option.some.inj h]; exact ⟨rfl, rfl⟩) (by decide) (by decide)
  · replace h := (ite_e h).1 hc
    exact z_vret C X dX0_weighHint_12 (by rw [← Option.some.inj h]; exact ⟨rfl, rfl⟩) (by decide) (by decide)
def F_X0_chooseHint_90 (N : Nat) (s1 : Ob) (s2 : Ob) (k12 : Int32 → Int32 → Ob → Ob → Option (Ob × Ob)) (k90 : Int32 → Int32 → Int32 → Int32 → Ob → Ob → Option (Ob × Ob)) (v2 : Int32) (v3 : Int32) (v4 : Int32) (v5 : Int32) (s0 : Ob) (s3 : Ob) : Option (Ob × Ob) := (if (s2.1 1) < v5 then (k12 v2 (v3 + (1 : Int32)) s0 s3) else (ob (f_X0_weighHint N s0 s1 s2 s3 v2 v4 (1 : Int32) v5) fun x2 => (k90 v2 v3 v4 (v5 + (1 : Int32)) x2 s3)))
def f_X0_chooseHint_90 (N : Nat) (s1 : Ob) (s2 : Ob) (k12 : Int32 → Int32 → Ob → Ob → Option (Ob × Ob)) : Nat → Int32 → Int32 → Int32 → Int32 → Ob → Ob → Option (Ob × Ob) := zlp (fun _ _ _ _ _ _ => none) (F_X0_chooseHint_90 N s1 s2 k12)
theorem m_X0_chooseHint_90 {K : Kt} {g : Gp} {a0 : Nat} {a1 : Nat} {r0 : Nat → Nat} {q0_4 : Nat} {r1 : Nat → Nat} {q1_0 : Nat} {r2 : Nat → Nat} {r3 : Nat → Nat} {N : Nat} {s1 : Ob} {s2 : Ob} {res : Ob × Ob} (hg : Ok g) (C : Cx K g cX0_chooseHint RX0 6 (zrm 4 99)) (X : Rx K (exR none (wX0 g a0 r0 q0_4 res.1 ++ wX1 g a1 r1 q1_0 s1 ++ wX5 g q1_0 r2 s2 ++ wX2 g q0_4 r3 res.2)) 0 0 none) {k12 : Int32 → Int32 → Ob → Ob → Option (Ob × Ob)} (hk12 : ∀ (v2 : Int32) (v3 : Int32) (s0 : Ob) (s3 : Ob), k12 v2 v3 s0 s3 = some res → Zs K 0 0 (wX0 g a0 r0 q0_4 s0 ++ wX1 g a1 r1 q1_0 s1 ++ wX5 g q1_0 r2 s2 ++ wX2 g q0_4 r3 s3) [(0, .ref a0), (1, .ref a1), (2, .int v2), (3, .int v3)] 12 []) : ∀ (n : Nat) (v2 : Int32) (v3 : Int32) (v4 : Int32) (v5 : Int32) (s0 : Ob) (s3 : Ob), f_X0_chooseHint_90 N s1 s2 k12 n v2 v3 v4 v5 s0 s3 = some res → Zs K 0 0 (wX0 g a0 r0 q0_4 s0 ++ wX1 g a1 r1 q1_0 s1 ++ wX5 g q1_0 r2 s2 ++ wX2 g q0_4 r3 s3) [(0, .ref a0), (1, .ref a1), (2, .int v2), (3, .int v3), (4, .int v4), (5, .int v5)] 90 [] := by
  intro n
  induction n with
  | zero => intro v2 v3 v4 v5 s0 s3 h; exact nomatch (show (none : Option (Ob × Ob)) = some res from h)
  | succ n hk90 =>
    intro v2 v3 v4 v5 s0 s3 h
    replace h : F_X0_chooseHint_90 N s1 s2 k12 (f_X0_chooseHint_90 N s1 s2 k12 n) v2 v3 v4 v5 s0 s3 = some res := h
    unfold F_X0_chooseHint_90 at h
    refine z_iload (pc := 90) (x := v5) C dX0_chooseHint_90 rfl ?_
    refine z_aload_n (pc := 92) (x := a1) C dX0_chooseHint_92 (i := 1) rfl rfl ?_
    refine z_get (pc := 93) (v := .ref q1_0) C 1 dX0_chooseHint_93 fl_RX0_77 rfl rfl ?_
    refine z_get (pc := 96) (v := .int (s2.1 1)) C 10 dX0_chooseHint_96 fl_RX0_98 rfl rfl ?_
    refine z_icmp_gt (pc := 99) C dX0_chooseHint_99 (tgt := 119) (by decide) (fun hc => ?_) (fun hc => ?_)
    · replace h := (ite_e h).1 hc
      refine z_iinc (pc := 119) C dX0_chooseHint_119 rfl (inc_e 1 (1 : Int32) ic_1 v3) (by decide) (lv' := [(3, .int (v3 + (1 : Int32))), (0, .ref a0), (1, .ref a1), (2, .int v2), (4, .int v4), (5, .int v5)]) rfl ?_
      refine z_goto (pc := 122) C dX0_chooseHint_122 (tgt := 12) (by decide) ?_
      refine z_lv (lv' := [(0, .ref a0), (1, .ref a1), (2, .int v2), (3, .int (v3 + (1 : Int32)))]) [1, 2, 3, 0] rfl ?_
      exact hk12 v2 (v3 + (1 : Int32)) s0 s3 h
    · replace h := (ite_e h).2 hc
      refine z_aload_n (pc := 102) (x := a0) C dX0_chooseHint_102 (i := 0) rfl rfl ?_
      refine z_aload_n (pc := 103) (x := a1) C dX0_chooseHint_103 (i := 1) rfl rfl ?_
      refine z_iload_n (pc := 104) (x := v2) C dX0_chooseHint_104 (i := 2) rfl rfl ?_
      refine z_iload (pc := 105) (x := v4) C dX0_chooseHint_105 rfl ?_
      refine z_iconst (pc := 107) C dX0_chooseHint_107 ic_1 ?_
      refine z_iload (pc := 108) (x := v5) C dX0_chooseHint_108 rfl ?_
      replace h := ob_e h
      obtain ⟨x2, hx2, h⟩ := h
      refine z_callV (pc := 110) (As := [.ref a1, .int v2, .int v4, .int (1 : Int32), .int v5]) (rest := []) (wr := ([] : va_W)) C dX0_chooseHint_110 ml_RX0_94 wv_X0_weighHint (m_X0_weighHint (a0 := a0) (a1 := a1) (r0 := r0) (q0_4 := q0_4) (r1 := r1) (q1_0 := q1_0) (r2 := r2) (r3 := r3) hg hx2) [0, 1, 2, 3, 4, 5, 6, 7, 8, 9, 10, 11, 12, 13, 14, 15] [] rfl rfl ⟨by decide, by decide⟩ (Nat.le_of_ble_eq_true rfl) ⟨by decide, by decide⟩ rfl rfl rfl rfl rfl rfl rfl (by decide) (ex_k C (cs' := 0) (ss' := 0) (wF := (wX0 g a0 r0 q0_4 x2 ++ wX1 g a1 r1 q1_0 s1 ++ wX5 g q1_0 r2 s2 ++ wX2 g q0_4 r3 s3)) [0, 1, 2, 3, 4, 5, 6, 7, 8, 9, 10, 11, 12, 13, 14, 15] rfl rfl ?_)
      refine z_iinc (pc := 113) C dX0_chooseHint_113 rfl (inc_e 1 (1 : Int32) ic_1 v5) (by decide) (lv' := [(5, .int (v5 + (1 : Int32))), (0, .ref a0), (1, .ref a1), (2, .int v2), (3, .int v3), (4, .int v4)]) rfl ?_
      refine z_goto (pc := 116) C dX0_chooseHint_116 (tgt := 90) (by decide) ?_
      refine z_lv (lv' := [(0, .ref a0), (1, .ref a1), (2, .int v2), (3, .int v3), (4, .int v4), (5, .int (v5 + (1 : Int32)))]) [1, 2, 3, 4, 5, 0] rfl ?_
      exact hk90 v2 v3 v4 (v5 + (1 : Int32)) x2 s3 h
def F_X0_chooseHint_58 (N : Nat) (s1 : Ob) (s2 : Ob) (k12 : Int32 → Int32 → Ob → Ob → Option (Ob × Ob)) (k58 : Int32 → Int32 → Int32 → Int32 → Ob → Ob → Option (Ob × Ob)) (v2 : Int32) (v3 : Int32) (v4 : Int32) (v5 : Int32) (s0 : Ob) (s3 : Ob) : Option (Ob × Ob) := (if (s2.1 0) ≤ v5 then (f_X0_chooseHint_90 N s1 s2 k12 N v2 v3 v4 (1 : Int32) s0 s3) else (ob (f_X0_weighHint N s0 s1 s2 s3 v2 v4 (0 : Int32) v5) fun x3 => (k58 v2 v3 v4 (v5 + (1 : Int32)) x3 s3)))
def f_X0_chooseHint_58 (N : Nat) (s1 : Ob) (s2 : Ob) (k12 : Int32 → Int32 → Ob → Ob → Option (Ob × Ob)) : Nat → Int32 → Int32 → Int32 → Int32 → Ob → Ob → Option (Ob × Ob) := zlp (fun _ _ _ _ _ _ => none) (F_X0_chooseHint_58 N s1 s2 k12)
theorem m_X0_chooseHint_58 {K : Kt} {g : Gp} {a0 : Nat} {a1 : Nat} {r0 : Nat → Nat} {q0_4 : Nat} {r1 : Nat → Nat} {q1_0 : Nat} {r2 : Nat → Nat} {r3 : Nat → Nat} {N : Nat} {s1 : Ob} {s2 : Ob} {res : Ob × Ob} (hg : Ok g) (C : Cx K g cX0_chooseHint RX0 6 (zrm 4 99)) (X : Rx K (exR none (wX0 g a0 r0 q0_4 res.1 ++ wX1 g a1 r1 q1_0 s1 ++ wX5 g q1_0 r2 s2 ++ wX2 g q0_4 r3 res.2)) 0 0 none) {k12 : Int32 → Int32 → Ob → Ob → Option (Ob × Ob)} (hk12 : ∀ (v2 : Int32) (v3 : Int32) (s0 : Ob) (s3 : Ob), k12 v2 v3 s0 s3 = some res → Zs K 0 0 (wX0 g a0 r0 q0_4 s0 ++ wX1 g a1 r1 q1_0 s1 ++ wX5 g q1_0 r2 s2 ++ wX2 g q0_4 r3 s3) [(0, .ref a0), (1, .ref a1), (2, .int v2), (3, .int v3)] 12 []) : ∀ (n : Nat) (v2 : Int32) (v3 : Int32) (v4 : Int32) (v5 : Int32) (s0 : Ob) (s3 : Ob), f_X0_chooseHint_58 N s1 s2 k12 n v2 v3 v4 v5 s0 s3 = some res → Zs K 0 0 (wX0 g a0 r0 q0_4 s0 ++ wX1 g a1 r1 q1_0 s1 ++ wX5 g q1_0 r2 s2 ++ wX2 g q0_4 r3 s3) [(0, .ref a0), (1, .ref a1), (2, .int v2), (3, .int v3), (4, .int v4), (5, .int v5)] 58 [] := by
  intro n
  induction n with
  | zero => intro v2 v3 v4 v5 s0 s3 h; exact nomatch (show (none : Option (Ob × Ob)) = some res from h)
  | succ n hk58 =>
    intro v2 v3 v4 v5 s0 s3 h
    replace h : F_X0_chooseHint_58 N s1 s2 k12 (f_X0_chooseHint_58 N s1 s2 k12 n) v2 v3 v4 v5 s0 s3 = some res := h
    unfold F_X0_chooseHint_58 at h
    refine z_iload (pc := 58) (x := v5) C dX0_chooseHint_58 rfl ?_
    refine z_aload_n (pc := 60) (x := a1) C dX0_chooseHint_60 (i := 1) rfl rfl ?_
    refine z_get (pc := 61) (v := .ref q1_0) C 1 dX0_chooseHint_61 fl_RX0_77 rfl rfl ?_
    refine z_get (pc := 64) (v := .int (s2.1 0)) C 10 dX0_chooseHint_64 fl_RX0_91 rfl rfl ?_
    refine z_icmp_ge (pc := 67) C dX0_chooseHint_67 (tgt := 87) (by decide) (fun hc => ?_) (fun hc => ?_)
    · replace h := (ite_e h).1 hc
      refine z_iconst (pc := 87) C dX0_chooseHint_87 ic_1 ?_
      refine z_istore (pc := 88) C dX0_chooseHint_88 (by decide) (lv' := [(5, .int (1 : Int32)), (0, .ref a0), (1, .ref a1), (2, .int v2), (3, .int v3), (4, .int v4)]) rfl ?_
      refine z_lv (lv' := [(0, .ref a0), (1, .ref a1), (2, .int v2), (3, .int v3), (4, .int v4), (5, .int (1 : Int32))]) [1, 2, 3, 4, 5, 0] rfl ?_
      exact m_X0_chooseHint_90 (a0 := a0) (a1 := a1) (r0 := r0) (q0_4 := q0_4) (r1 := r1) (q1_0 := q1_0) (r2 := r2) (r3 := r3) hg C X hk12 N v2 v3 v4 (1 : Int32) s0 s3 h
    · replace h := (ite_e h).2 hc
      refine z_aload_n (pc := 70) (x := a0) C dX0_chooseHint_70 (i := 0) rfl rfl ?_
      refine z_aload_n (pc := 71) (x := a1) C dX0_chooseHint_71 (i := 1) rfl rfl ?_
      refine z_iload_n (pc := 72) (x := v2) C dX0_chooseHint_72 (i := 2) rfl rfl ?_
      refine z_iload (pc := 73) (x := v4) C dX0_chooseHint_73 rfl ?_
      refine z_iconst (pc := 75) C dX0_chooseHint_75 ic_0 ?_
      refine z_iload (pc := 76) (x := v5) C dX0_chooseHint_76 rfl ?_
      replace h := ob_e h
      obtain ⟨x3, hx3, h⟩ := h
      refine z_callV (pc := 78) (As := [.ref a1, .int v2, .int v4, .int (0 : Int32), .int v5]) (rest := []) (wr := ([] : va_W)) C dX0_chooseHint_78 ml_RX0_94 wv_X0_weighHint (m_X0_weighHint (a0 := a0) (a1 := a1) (r0 := r0) (q0_4 := q0_4) (r1 := r1) (q1_0 := q1_0) (r2 := r2) (r3 := r3) hg hx3) [0, 1, 2, 3, 4, 5, 6, 7, 8, 9, 10, 11, 12, 13, 14, 15] [] rfl rfl ⟨by decide, by decide⟩ (Nat.le_of_ble_eq_true rfl) ⟨by decide, by decide⟩ rfl rfl rfl rfl rfl rfl rfl (by decide) (ex_k C (cs' := 0) (ss' := 0) (wF := (wX0 g a0 r0 q0_4 x3 ++ wX1 g a1 r1 q1_0 s1 ++ wX5 g q1_0 r2 s2 ++ wX2 g q0_4 r3 s3)) [0, 1, 2, 3, 4, 5, 6, 7, 8, 9, 10, 11, 12, 13, 14, 15] rfl rfl ?_)
      refine z_iinc (pc := 81) C dX0_chooseHint_81 rfl (inc_e 1 (1 : Int32) ic_1 v5) (by decide) (lv' := [(5, .int (v5 + (1 : Int32))), (0, .ref a0), (1, .ref a1), (2, .int v2), (3, .int v3), (4, .int v4)]) rfl ?_
      refine z_goto (pc := 84) C dX0_chooseHint_84 (tgt := 58) (by decide) ?_
      refine z_lv (lv' := [(0, .ref a0), (1, .ref a1), (2, .int v2), (3, .int v3), (4, .int v4), (5, .int (v5 + (1 : Int32)))]) [1, 2, 3, 4, 5, 0] rfl ?_
      exact hk58 v2 v3 v4 (v5 + (1 : Int32)) x3 s3 h
def f_X0_chooseHint_43 (N : Nat) (s1 : Ob) (s2 : Ob) (k12 : Int32 → Int32 → Ob → Ob → Option (Ob × Ob)) (v3 : Int32) (t0 : Int32) (s0 : Ob) (s3 : Ob) : Option (Ob × Ob) := (ob (f_X2_unseenKinds N s3 s1 s2 t0) fun x1 => (f_X0_chooseHint_58 N s1 s2 k12 N t0 v3 x1.1 (0 : Int32) s0 x1.2))
theorem m_X0_chooseHint_43 {K : Kt} {g : Gp} {a0 : Nat} {a1 : Nat} {r0 : Nat → Nat} {q0_4 : Nat} {r1 : Nat → Nat} {q1_0 : Nat} {r2 : Nat → Nat} {r3 : Nat → Nat} {N : Nat} {s1 : Ob} {s2 : Ob} {res : Ob × Ob} (hg : Ok g) (C : Cx K g cX0_chooseHint RX0 6 (zrm 4 99)) (X : Rx K (exR none (wX0 g a0 r0 q0_4 res.1 ++ wX1 g a1 r1 q1_0 s1 ++ wX5 g q1_0 r2 s2 ++ wX2 g q0_4 r3 res.2)) 0 0 none) {k12 : Int32 → Int32 → Ob → Ob → Option (Ob × Ob)} (hk12 : ∀ (v2 : Int32) (v3 : Int32) (s0 : Ob) (s3 : Ob), k12 v2 v3 s0 s3 = some res → Zs K 0 0 (wX0 g a0 r0 q0_4 s0 ++ wX1 g a1 r1 q1_0 s1 ++ wX5 g q1_0 r2 s2 ++ wX2 g q0_4 r3 s3) [(0, .ref a0), (1, .ref a1), (2, .int v2), (3, .int v3)] 12 []) (v3 : Int32) (t0 : Int32) (s0 : Ob) (s3 : Ob) (h : f_X0_chooseHint_43 N s1 s2 k12 v3 t0 s0 s3 = some res) : Zs K 0 0 (wX0 g a0 r0 q0_4 s0 ++ wX1 g a1 r1 q1_0 s1 ++ wX5 g q1_0 r2 s2 ++ wX2 g q0_4 r3 s3) [(0, .ref a0), (1, .ref a1), (3, .int v3)] 43 [.int t0] := by
  unfold f_X0_chooseHint_43 at h
  refine z_istore_n (pc := 43) C dX0_chooseHint_43 (i := 2) rfl (by decide) (lv' := [(2, .int t0), (0, .ref a0), (1, .ref a1), (3, .int v3)]) rfl ?_
  refine z_aload_n (pc := 44) (x := a0) C dX0_chooseHint_44 (i := 0) rfl rfl ?_
  refine z_get (pc := 45) (v := .ref q0_4) C 0 dX0_chooseHint_45 fl_RX0_9 rfl rfl ?_
  refine z_aload_n (pc := 48) (x := a1) C dX0_chooseHint_48 (i := 1) rfl rfl ?_
  refine z_iload_n (pc := 49) (x := t0) C dX0_chooseHint_49 (i := 2) rfl rfl ?_
  replace h := ob_e h
  obtain ⟨x1, hx1, h⟩ := h
  refine z_callV (pc := 50) (As := [.ref a1, .int t0]) (rest := []) (wr := (wX0 g a0 r0 q0_4 s0)) C dX0_chooseHint_50 ml_RX0_86 wv_X2_unseenKinds (m_X2_unseenKinds (a0 := q0_4) (a1 := a1) (r0 := r3) (r1 := r1) (q1_0 := q1_0) (r2 := r2) hg hx1) [14, 15, 1, 2, 3, 4, 5, 6, 7, 8, 9, 10, 11, 12, 13] [0] rfl rfl ⟨by decide, by decide⟩ (Nat.le_of_ble_eq_true rfl) ⟨by decide, by decide⟩ rfl rfl rfl rfl rfl rfl rfl (by decide) (ex_k C (cs' := 0) (ss' := 0) (wF := (wX0 g a0 r0 q0_4 s0 ++ wX1 g a1 r1 q1_0 s1 ++ wX5 g q1_0 r2 s2 ++ wX2 g q0_4 r3 x1.2)) [0, 3, 4, 5, 6, 7, 8, 9, 10, 11, 12, 13, 14, 15, 1, 2] rfl rfl ?_)
  refine z_istore (pc := 53) C dX0_chooseHint_53 (by decide) (lv' := [(4, .int x1.1), (2, .int t0), (0, .ref a0), (1, .ref a1), (3, .int v3)]) rfl ?_
  refine z_iconst (pc := 55) C dX0_chooseHint_55 ic_0 ?_
  refine z_istore (pc := 56) C dX0_chooseHint_56 (by decide) (lv' := [(5, .int (0 : Int32)), (4, .int x1.1), (2, .int t0), (0, .ref a0), (1, .ref a1), (3, .int v3)]) rfl ?_
  refine z_lv (lv' := [(0, .ref a0), (1, .ref a1), (2, .int t0), (3, .int v3), (4, .int x1.1), (5, .int (0 : Int32))]) [3, 4, 2, 5, 1, 0] rfl ?_
  exact m_X0_chooseHint_58 (a0 := a0) (a1 := a1) (r0 := r0) (q0_4 := q0_4) (r1 := r1) (q1_0 := q1_0) (r2 := r2) (r3 := r3) hg C X hk12 N t0 v3 x1.1 (0 : Int32) s0 x1.2 h
def F_X0_chooseHint_12 (N : Nat) (s1 : Ob) (s2 : Ob)  (k12 : Int32 → Int32 → Ob → Ob → Option (Ob × Ob)) (v2 : Int32) (v3 : Int32) (s0 : Ob) (s3 : Ob) : Option (Ob × Ob) := (if (s2.1 2) ≤ v3 then (some (s0, s3)) else (if (s2.1 2) ≤ (v2 + (1 : Int32)) then (f_X0_chooseHint_43 N s1 s2 k12 v3 (0 : Int32) s0 s3) else (f_X0_chooseHint_43 N s1 s2 k12 v3 (v2 + (1 : Int32)) s0 s3)))
def f_X0_chooseHint_12 (N : Nat) (s1 : Ob) (s2 : Ob)  : Nat → Int32 → Int32 → Ob → Ob → Option (Ob × Ob) := zlp (fun _ _ _ _ => none) (F_X0_chooseHint_12 N s1 s2)
theorem m_X0_chooseHint_12 {K : Kt} {g : Gp} {a0 : Nat} {a1 : Nat} {r0 : Nat → Nat} {q0_4 : Nat} {r1 : Nat → Nat} {q1_0 : Nat} {r2 : Nat → Nat} {r3 : Nat → Nat} {N : Nat} {s1 : Ob} {s2 : Ob} {res : Ob × Ob} (hg : Ok g) (C : Cx K g cX0_chooseHint RX0 6 (zrm 4 99)) (X : Rx K (exR none (wX0 g a0 r0 q0_4 res.1 ++ wX1 g a1 r1 q1_0 s1 ++ wX5 g q1_0 r2 s2 ++ wX2 g q0_4 r3 res.2)) 0 0 none) : ∀ (n : Nat) (v2 : Int32) (v3 : Int32) (s0 : Ob) (s3 : Ob), f_X0_chooseHint_12 N s1 s2 n v2 v3 s0 s3 = some res → Zs K 0 0 (wX0 g a0 r0 q0_4 s0 ++ wX1 g a1 r1 q1_0 s1 ++ wX5 g q1_0 r2 s2 ++ wX2 g q0_4 r3 s3) [(0, .ref a0), (1, .ref a1), (2, .int v2), (3, .int v3)] 12 [] := by
  intro n
  induction n with
  | zero => intro v2 v3 s0 s3 h; exact nomatch (show (none : Option (Ob × Ob)) = some res from h)
  | succ n hk12 =>
    intro v2 v3 s0 s3 h
    replace h : F_X0_chooseHint_12 N s1 s2 (f_X0_chooseHint_12 N s1 s2 n) v2 v3 s0 s3 = some res := h
    unfold F_X0_chooseHint_12 at h
    refine z_iload_n (pc := 12) (x := v3) C dX0_chooseHint_12 (i := 3) rfl rfl ?_
    refine z_aload_n (pc := 13) (x := a1) C dX0_chooseHint_13 (i := 1) rfl rfl ?_
    refine z_get (pc := 14) (v := .ref q1_0) C 1 dX0_chooseHint_14 fl_RX0_77 rfl rfl ?_
    refine z_get (pc := 17) (v := .int (s2.1 2)) C 10 dX0_chooseHint_17 fl_RX0_81 rfl rfl ?_
    refine z_icmp_ge (pc := 20) C dX0_chooseHint_20 (tgt := 125) (by decide) (fun hc => ?_) (fun hc => ?_)
    · replace h := (ite_e h).1 hc
      exact z_vret C X dX0_chooseHint_125 (by rw [← Option.some.inj h]; exact ⟨rfl, rfl⟩) (by decide) (by decide)
    · replace h := (ite_e h).2 hc
      refine z_iload_n (pc := 23) (x := v2) C dX0_chooseHint_23 (i := 2) rfl rfl ?_
      refine z_iconst (pc := 24) C dX0_chooseHint_24 ic_1 ?_
      refine z_iadd (pc := 25) C dX0_chooseHint_25 ?_
      refine z_aload_n (pc := 26) (x := a1) C dX0_chooseHint_26 (i := 1) rfl rfl ?_
      refine z_get (pc := 27) (v := .ref q1_0) C 1 dX0_chooseHint_27 fl_RX0_77 rfl rfl ?_
      refine z_get (pc := 30) (v := .int (s2.1 2)) C 10 dX0_chooseHint_30 fl_RX0_81 rfl rfl ?_
      refine z_icmp_ge (pc := 33) C dX0_chooseHint_33 (tgt := 42) (by decide) (fun hc => ?_) (fun hc => ?_)
      · replace h := (ite_e h).1 hc
        refine z_iconst (pc := 42) C dX0_chooseHint_42 ic_0 ?_
        refine z_lv (lv' := [(0, .ref a0), (1, .ref a1), (3, .int v3)]) [0, 1, 3] rfl ?_
        exact m_X0_chooseHint_43 (a0 := a0) (a1 := a1) (r0 := r0) (q0_4 := q0_4) (r1 := r1) (q1_0 := q1_0) (r2 := r2) (r3 := r3) hg C X hk12 v3 (0 : Int32) s0 s3 h
      · replace h := (ite_e h).2 hc
        refine z_iload_n (pc := 36) (x := v2) C dX0_chooseHint_36 (i := 2) rfl rfl ?_
        refine z_iconst (pc := 37) C dX0_chooseHint_37 ic_1 ?_
        refine z_iadd (pc := 38) C dX0_chooseHint_38 ?_
        refine z_goto (pc := 39) C dX0_chooseHint_39 (tgt := 43) (by decide) ?_
        refine z_lv (lv' := [(0, .ref a0), (1, .ref a1), (3, .int v3)]) [0, 1, 3] rfl ?_
        exact m_X0_chooseHint_43 (a0 := a0) (a1 := a1) (r0 := r0) (q0_4 := q0_4) (r1 := r1) (q1_0 := q1_0) (r2 := r2) (r3 := r3) hg C X hk12 v3 (v2 + (1 : Int32)) s0 s3 h
def f_X0_chooseHint (N : Nat) (s0 : Ob) (s1 : Ob) (s2 : Ob) (s3 : Ob) : Option (Ob × Ob) := (f_X0_chooseHint_12 N s1 s2 N (s1.1 4) (1 : Int32) (si s0 5 (-1 : Int32)) s3)
theorem m_X0_chooseHint {g : Gp} {a0 : Nat} {a1 : Nat} {r0 : Nat → Nat} {q0_4 : Nat} {r1 : Nat → Nat} {q1_0 : Nat} {r2 : Nat → Nat} {r3 : Nat → Nat} {N : Nat} {s0 : Ob} {s1 : Ob} {s2 : Ob} {s3 : Ob} {res : Ob × Ob} (hg : Ok g) (h : f_X0_chooseHint N s0 s1 s2 s3 = some res) : Ct g yX0_chooseHint cX0_chooseHint 6 none (zrm 4 99) [.ref a0, .ref a1] (wX0 g a0 r0 q0_4 s0 ++ wX1 g a1 r1 q1_0 s1 ++ wX5 g q1_0 r2 s2 ++ wX2 g q0_4 r3 s3) (exR none (wX0 g a0 r0 q0_4 res.1 ++ wX1 g a1 r1 q1_0 s1 ++ wX5 g q1_0 r2 s2 ++ wX2 g q0_4 r3 res.2)) := by
  refine ct_of rfl hg (by show _ ≤ _; exact Nat.le_of_ble_eq_true rfl) (fun K C X => ?_)
  show Zs K 0 0 (wX0 g a0 r0 q0_4 s0 ++ wX1 g a1 r1 q1_0 s1 ++ wX5 g q1_0 r2 s2 ++ wX2 g q0_4 r3 s3) [(0, .ref a0), (1, .ref a1)] 0 []
  unfold f_X0_chooseHint at h
  refine z_aload_n (pc := 0) (x := a0) C dX0_chooseHint_0 (i := 0) rfl rfl ?_
  refine z_iconst (pc := 1) C dX0_chooseHint_1 ic_m1 ?_
  refine z_put (pc := 2) C 0 dX0_chooseHint_2 fp_RX0_60 rfl rfl rfl (zlt_b rfl) (ws' := (wX0 g a0 r0 q0_4 (si s0 5 (-1 : Int32)) ++ wX1 g a1 r1 q1_0 s1 ++ wX5 g q1_0 r2 s2 ++ wX2 g q0_4 r3 s3)) rfl ?_
  refine z_aload_n (pc := 5) (x := a1) C dX0_chooseHint_5 (i := 1) rfl rfl ?_
  refine z_get (pc := 6) (v := .int (s1.1 4)) C 1 dX0_chooseHint_6 fl_RX0_70 rfl rfl ?_
  refine z_istore_n (pc := 9) C dX0_chooseHint_9 (i := 2) rfl (by decide) (lv' := [(2, .int (s1.1 4)), (0, .ref a0), (1, .ref a1)]) rfl ?_
  refine z_iconst (pc := 10) C dX0_chooseHint_10 ic_1 ?_
  refine z_istore_n (pc := 11) C dX0_chooseHint_11 (i := 3) rfl (by decide) (lv' := [(3, .int (1 : Int32)), (2, .int (s1.1 4)), (0, .ref a0), (1, .ref a1)]) rfl ?_
  refine z_lv (lv' := [(0, .ref a0), (1, .ref a1), (2, .int (s1.1 4)), (3, .int (1 : Int32))]) [2, 3, 1, 0] rfl ?_
  exact m_X0_chooseHint_12 (a0 := a0) (a1 := a1) (r0 := r0) (q0_4 := q0_4) (r1 := r1) (q1_0 := q1_0) (r2 := r2) (r3 := r3) hg C X N (s1.1 4) (1 : Int32) (si s0 5 (-1 : Int32)) s3 h
def F_X1_uselessKinds_4 (N : Nat) (s0 : Ob) (s1 : Ob)  (k4 : Int32 → Int32 → Option (Int32)) (v1 : Int32) (v2 : Int32) : Option (Int32) := (if (s1.1 0) ≤ v2 then (some v1) else (ob (f_X1_reachableTop N s0 s1 v2) fun x1 => (ob (f_X1_topOf N s0 v2) fun x2 => (znm ((((1 : Int32) <<< (x1 &&& 31)) - ((1 : Int32) <<< (x2 &&& 31))) ^^^ (-1 : Int32)) fun x3 => (k4 (v1 ||| (((31 : Int32) &&& x3) <<< ((v2 * (5 : Int32)) &&& 31))) (v2 + (1 : Int32)))))))
def f_X1_uselessKinds_4 (N : Nat) (s0 : Ob) (s1 : Ob)  : Nat → Int32 → Int32 → Option (Int32) := zlp (fun _ _ => none) (F_X1_uselessKinds_4 N s0 s1)
theorem m_X1_uselessKinds_4 {K : Kt} {g : Gp} {a0 : Nat} {r0 : Nat → Nat} {q0_0 : Nat} {r1 : Nat → Nat} {N : Nat} {s0 : Ob} {s1 : Ob} {res : Int32} (hg : Ok g) (C : Cx K g cX1_uselessKinds RX1 4 (zrm 1 24)) (X : Rx K (exR (some (.int res)) (wX1 g a0 r0 q0_0 s0 ++ wX5 g q0_0 r1 s1)) 0 0 (some .int)) : ∀ (n : Nat) (v1 : Int32) (v2 : Int32), f_X1_uselessKinds_4 N s0 s1 n v1 v2 = some res → Zs K 0 0 (wX1 g a0 r0 q0_0 s0 ++ wX5 g q0_0 r1 s1) [(0, .ref a0), (1, .int v1), (2, .int v2)] 4 [] := by
  intro n
  induction n with
  | zero => intro v1 v2 h; exact nomatch (show (none : Option (Int32)) = some res from h)
  | succ n hk4 =>
    intro v1 v2 h
    replace h : F_X1_uselessKinds_4 N s0 s1 (f_X1_uselessKinds_4 N s0 s1 n) v1 v2 = some res := h
    unfold F_X1_uselessKinds_4 at h
    refine z_iload_n (pc := 4) (x := v2) C dX1_uselessKinds_4 (i := 2) rfl rfl ?_
    refine z_aload_n (pc := 5) (x := a0) C dX1_uselessKinds_5 (i := 0) rfl rfl ?_
    refine z_get (pc := 6) (v := .ref q0_0) C 0 dX1_uselessKinds_6 fl_RX1_38 rfl rfl ?_
    refine z_get (pc := 9) (v := .int (s1.1 0)) C 9 dX1_uselessKinds_9 fl_RX1_104 rfl rfl ?_
    refine z_icmp_ge (pc := 12) C dX1_uselessKinds_12 (tgt := 50) (by decide) (fun hc => ?_) (fun hc => ?_)
    · replace h := (ite_e h).1 hc
      refine z_iload_n (pc := 50) (x := v1) C dX1_uselessKinds_50 (i := 1) rfl rfl ?_
      exact z_iret C X dX1_uselessKinds_51 (by rw [← Option.some.inj h]; exact ⟨rfl, rfl⟩) (by decide) (by decide)
    · replace h := (ite_e h).2 hc
      refine z_iconst (pc := 15) C dX1_uselessKinds_15 ic_1 ?_
      refine z_aload_n (pc := 16) (x := a0) C dX1_uselessKinds_16 (i := 0) rfl rfl ?_
      refine z_iload_n (pc := 17) (x := v2) C dX1_uselessKinds_17 (i := 2) rfl rfl ?_
      replace h := ob_e h
      obtain ⟨x1, hx1, h⟩ := h
      refine z_callV (pc := 18) (As := [.int v2]) (rest := [.int (1 : Int32)]) (wr := ([] : va_W)) C dX1_uselessKinds_18 ml_RX1_136 wv_X1_reachableTop (m_X1_reachableTop (a0 := a0) (r0 := r0) (q0_0 := q0_0) (r1 := r1) hg hx1) [0, 1, 2, 3, 4, 5, 6, 7, 8, 9, 10, 11, 12] [] rfl rfl ⟨by decide, by decide⟩ (Nat.le_of_ble_eq_true rfl) ⟨by decide, by decide⟩ rfl rfl rfl rfl rfl rfl rfl (by decide) (ex_k C (cs' := 0) (ss' := 0) (wF := (wX1 g a0 r0 q0_0 s0 ++ wX5 g q0_0 r1 s1)) [0, 1, 2, 3, 4, 5, 6, 7, 8, 9, 10, 11, 12] rfl rfl ?_)
      refine z_ishl (pc := 21) C dX1_uselessKinds_21 ?_
      refine z_iconst (pc := 22) C dX1_uselessKinds_22 ic_1 ?_
      refine z_aload_n (pc := 23) (x := a0) C dX1_uselessKinds_23 (i := 0) rfl rfl ?_
      refine z_iload_n (pc := 24) (x := v2) C dX1_uselessKinds_24 (i := 2) rfl rfl ?_
      replace h := ob_e h
      obtain ⟨x2, hx2, h⟩ := h
      refine z_callV (pc := 25) (As := [.int v2]) (rest := [.int (1 : Int32), .int ((1 : Int32) <<< (x1 &&& 31))]) (wr := (wX5 g q0_0 r1 s1)) C dX1_uselessKinds_25 ml_RX1_133 wv_X1_topOf (m_X1_topOf (a0 := a0) (r0 := r0) (q0_0 := q0_0) hg hx2) [0, 1, 2, 3, 4, 5, 6, 7, 8] [9, 10, 11, 12] rfl rfl ⟨by decide, by decide⟩ (Nat.le_of_ble_eq_true rfl) ⟨by decide, by decide⟩ rfl rfl rfl rfl rfl rfl rfl (by decide) (ex_k C (cs' := 0) (ss' := 0) (wF := (wX1 g a0 r0 q0_0 s0 ++ wX5 g q0_0 r1 s1)) [4, 5, 6, 7, 8, 9, 10, 11, 12, 0, 1, 2, 3] rfl rfl ?_)
      refine z_ishl (pc := 28) C dX1_uselessKinds_28 ?_
      refine z_isub (pc := 29) C dX1_uselessKinds_29 ?_
      refine z_istore_n (pc := 30) C dX1_uselessKinds_30 (i := 3) rfl (by decide) (lv' := [(3, .int (((1 : Int32) <<< (x1 &&& 31)) - ((1 : Int32) <<< (x2 &&& 31)))), (0, .ref a0), (1, .int v1), (2, .int v2)]) rfl ?_
      refine z_iload_n (pc := 31) (x := v1) C dX1_uselessKinds_31 (i := 1) rfl rfl ?_
      refine z_bipush (pc := 32) C dX1_uselessKinds_32 bp_31 ?_
      refine z_iload_n (pc := 34) (x := (((1 : Int32) <<< (x1 &&& 31)) - ((1 : Int32) <<< (x2 &&& 31)))) C dX1_uselessKinds_34 (i := 3) rfl rfl ?_
      refine z_iconst (pc := 35) C dX1_uselessKinds_35 ic_m1 ?_
      refine z_ixor (pc := 36) C dX1_uselessKinds_36 ?_
      replace h := znm_e h
      obtain ⟨x3, hx3, h⟩ := h
      refine z_top1 hx3 ?_
      refine z_iand (pc := 37) C dX1_uselessKinds_37 ?_
      refine z_iload_n (pc := 38) (x := v2) C dX1_uselessKinds_38 (i := 2) rfl rfl ?_
      refine z_iconst (pc := 39) C dX1_uselessKinds_39 ic_5 ?_
      refine z_imul (pc := 40) C dX1_uselessKinds_40 ?_
      refine z_ishl (pc := 41) C dX1_uselessKinds_41 ?_
      refine z_ior (pc := 42) C dX1_uselessKinds_42 ?_
      refine z_istore_n (pc := 43) C dX1_uselessKinds_43 (i := 1) rfl (by decide) (lv' := [(1, .int (v1 ||| (((31 : Int32) &&& x3) <<< ((v2 * (5 : Int32)) &&& 31)))), (3, .int (((1 : Int32) <<< (x1 &&& 31)) - ((1 : Int32) <<< (x2 &&& 31)))), (0, .ref a0), (2, .int v2)]) rfl ?_
      refine z_iinc (pc := 44) C dX1_uselessKinds_44 rfl (inc_e 1 (1 : Int32) ic_1 v2) (by decide) (lv' := [(2, .int (v2 + (1 : Int32))), (1, .int (v1 ||| (((31 : Int32) &&& x3) <<< ((v2 * (5 : Int32)) &&& 31)))), (3, .int (((1 : Int32) <<< (x1 &&& 31)) - ((1 : Int32) <<< (x2 &&& 31)))), (0, .ref a0)]) rfl ?_
      refine z_goto (pc := 47) C dX1_uselessKinds_47 (tgt := 4) (by decide) ?_
      refine z_lv (lv' := [(0, .ref a0), (1, .int (v1 ||| (((31 : Int32) &&& x3) <<< ((v2 * (5 : Int32)) &&& 31)))), (2, .int (v2 + (1 : Int32)))]) [3, 1, 0] rfl ?_
      exact hk4 (v1 ||| (((31 : Int32) &&& x3) <<< ((v2 * (5 : Int32)) &&& 31))) (v2 + (1 : Int32)) h
def f_X1_uselessKinds (N : Nat) (s0 : Ob) (s1 : Ob) : Option (Int32) := (f_X1_uselessKinds_4 N s0 s1 N (0 : Int32) (0 : Int32))
theorem m_X1_uselessKinds {g : Gp} {a0 : Nat} {r0 : Nat → Nat} {q0_0 : Nat} {r1 : Nat → Nat} {N : Nat} {s0 : Ob} {s1 : Ob} {res : Int32} (hg : Ok g) (h : f_X1_uselessKinds N s0 s1 = some res) : Ct g yX1_uselessKinds cX1_uselessKinds 4 (some .int) (zrm 1 24) [.ref a0] (wX1 g a0 r0 q0_0 s0 ++ wX5 g q0_0 r1 s1) (exR (some (.int res)) (wX1 g a0 r0 q0_0 s0 ++ wX5 g q0_0 r1 s1)) := by
  refine ct_of rfl hg (by show _ ≤ _; exact Nat.le_of_ble_eq_true rfl) (fun K C X => ?_)
  show Zs K 0 0 (wX1 g a0 r0 q0_0 s0 ++ wX5 g q0_0 r1 s1) [(0, .ref a0)] 0 []
  unfold f_X1_uselessKinds at h
  refine z_iconst (pc := 0) C dX1_uselessKinds_0 ic_0 ?_
  refine z_istore_n (pc := 1) C dX1_uselessKinds_1 (i := 1) rfl (by decide) (lv' := [(1, .int (0 : Int32)), (0, .ref a0)]) rfl ?_
  refine z_iconst (pc := 2) C dX1_uselessKinds_2 ic_0 ?_
  refine z_istore_n (pc := 3) C dX1_uselessKinds_3 (i := 2) rfl (by decide) (lv' := [(2, .int (0 : Int32)), (1, .int (0 : Int32)), (0, .ref a0)]) rfl ?_
  refine z_lv (lv' := [(0, .ref a0), (1, .int (0 : Int32)), (2, .int (0 : Int32))]) [2, 1, 0] rfl ?_
  exact m_X1_uselessKinds_4 (a0 := a0) (r0 := r0) (q0_0 := q0_0) (r1 := r1) hg C X N (0 : Int32) (0 : Int32) h
def f_X1_wasTouched (N : Nat) (s0 : Ob) (p1 : Int32) : Option (Int32) := (if (lg_cmp (((s0.2.1 8) >>> ((p1).toInt64 &&& 63)) &&& (1 : Int64)) (0 : Int64)) = 0 then (some (0 : Int32)) else (some (1 : Int32)))
theorem m_X1_wasTouched {g : Gp} {a0 : Nat} {r0 : Nat → Nat} {q0_0 : Nat} {N : Nat} {s0 : Ob} {p1 : Int32} {res : Int32} (hg : Ok g) (h : f_X1_wasTouched N s0 p1 = some res) : Ct g yX1_wasTouched cX1_wasTouched 2 (some .boolean) (zrm 0 0) [.ref a0, .int p1] (wX1 g a0 r0 q0_0 s0) (exR (some (.int res)) (wX1 g a0 r0 q0_0 s0)) := by
  refine ct_of rfl hg (by show _ ≤ _; exact Nat.le_of_ble_eq_true rfl) (fun K C X => ?_)
  show Zs K 0 0 (wX1 g a0 r0 q0_0 s0) [(0, .ref a0), (1, .int p1)] 0 []
  unfold f_X1_wasTouched at h
  refine z_aload_n (pc := 0) (x := a0) C dX1_wasTouched_0 (i := 0) rfl rfl ?_
  refine z_get (pc := 1) (v := .long (s0.2.1 8)) C 0 dX1_wasTouched_1 fl_RX1_61 rfl rfl ?_
  refine z_iload_n (pc := 4) (x := p1) C dX1_wasTouched_4 (i := 1) rfl rfl ?_
  refine z_lshr (pc := 5) C dX1_wasTouched_5 ?_
  refine z_lconst (pc := 6) (v := (1 : Int64)) C dX1_wasTouched_6 rfl ?_
  refine z_land (pc := 7) C dX1_wasTouched_7 ?_
  refine z_lconst (pc := 8) (v := (0 : Int64)) C dX1_wasTouched_8 rfl ?_
  refine z_lcmp (pc := 9) C dX1_wasTouched_9 ?_
  refine z_if_eq (pc := 10) C dX1_wasTouched_10 (tgt := 17) (by decide) (fun hc => ?_) (fun hc => ?_)
  · replace h := (ite_e h).1 hc
    refine z_iconst (pc := 17) C dX1_wasTouched_17 ic_0 ?_
    exact z_zret C X dX1_wasTouched_18 rfl (by rw [← Option.some.inj h]; exact ⟨rfl, rfl⟩) (by decide) (by decide)
  · replace h := (ite_e h).2 hc
    refine z_iconst (pc := 13) C dX1_wasTouched_13 ic_1 ?_
    refine z_goto (pc := 14) C dX1_wasTouched_14 (tgt := 18) (by decide) ?_
    exact z_zret C X dX1_wasTouched_18 rfl (by rw [← Option.some.inj h]; exact ⟨rfl, rfl⟩) (by decide) (by decide)
def F_X0_firstUntouched_2 (N : Nat) (s0 : Ob) (s1 : Ob)  (k2 : Int32 → Option (Int32)) (v2 : Int32) : Option (Int32) := (ob (f_X1_sizeOf N s1 (s1.1 4)) fun x1 => (if x1 ≤ v2 then (some (-1 : Int32)) else (ob (f_X1_cardAt N s1 (s1.1 4) v2) fun x2 => (ob (f_X1_wasTouched N s1 x2) fun x3 => (if x3 = 0 then (some v2) else (k2 (v2 + (1 : Int32))))))))
def f_X0_firstUntouched_2 (N : Nat) (s0 : Ob) (s1 : Ob)  : Nat → Int32 → Option (Int32) := zlp (fun _ => none) (F_X0_firstUntouched_2 N s0 s1)
theorem m_X0_firstUntouched_2 {K : Kt} {g : Gp} {a0 : Nat} {a1 : Nat} {r0 : Nat → Nat} {q0_4 : Nat} {r1 : Nat → Nat} {q1_0 : Nat} {N : Nat} {s0 : Ob} {s1 : Ob} {res : Int32} (hg : Ok g) (C : Cx K g cX0_firstUntouched RX0 3 (zrm 1 23)) (X : Rx K (exR (some (.int res)) (wX0 g a0 r0 q0_4 s0 ++ wX1 g a1 r1 q1_0 s1)) 0 0 (some .int)) : ∀ (n : Nat) (v2 : Int32), f_X0_firstUntouched_2 N s0 s1 n v2 = some res → Zs K 0 0 (wX0 g a0 r0 q0_4 s0 ++ wX1 g a1 r1 q1_0 s1) [(1, .ref a1), (2, .int v2)] 2 [] := by
  intro n
  induction n with
  | zero => intro v2 h; exact nomatch (show (none : Option (Int32)) = some res from h)
  | succ n hk2 =>
    intro v2 h
    replace h : F_X0_firstUntouched_2 N s0 s1 (f_X0_firstUntouched_2 N s0 s1 n) v2 = some res := h
    unfold F_X0_firstUntouched_2 at h
    refine z_iload_n (pc := 2) (x := v2) C dX0_firstUntouched_2 (i := 2) rfl rfl ?_
    refine z_aload_n (pc := 3) (x := a1) C dX0_firstUntouched_3 (i := 1) rfl rfl ?_
    refine z_aload_n (pc := 4) (x := a1) C dX0_firstUntouched_4 (i := 1) rfl rfl ?_
    refine z_get (pc := 5) (v := .int (s1.1 4)) C 1 dX0_firstUntouched_5 fl_RX0_70 rfl rfl ?_
    replace h := ob_e h
    obtain ⟨x1, hx1, h⟩ := h
    refine z_callV (pc := 8) (As := [.int (s1.1 4)]) (rest := [.int v2]) (wr := (wX0 g a0 r0 q0_4 s0)) C dX0_firstUntouched_8 ml_RX0_73 wv_X1_sizeOf (m_X1_sizeOf (a0 := a1) (r0 := r1) (q0_0 := q1_0) hg hx1) [1, 2, 3, 4, 5, 6, 7, 8, 9] [0] rfl rfl ⟨by decide, by decide⟩ (Nat.le_of_ble_eq_true rfl) ⟨by decide, by decide⟩ rfl rfl rfl rfl rfl rfl rfl (by decide) (ex_k C (cs' := 0) (ss' := 0) (wF := (wX0 g a0 r0 q0_4 s0 ++ wX1 g a1 r1 q1_0 s1)) [0, 1, 2, 3, 4, 5, 6, 7, 8, 9] rfl rfl ?_)
    refine z_icmp_ge (pc := 11) C dX0_firstUntouched_11 (tgt := 38) (by decide) (fun hc => ?_) (fun hc => ?_)
    · replace h := (ite_e h).1 hc
      refine z_iconst (pc := 38) C dX0_firstUntouched_38 ic_m1 ?_
      exact z_iret C X dX0_firstUntouched_39 (by rw [← Option.some.inj h]; exact ⟨rfl, rfl⟩) (by decide) (by decide)
    · replace h := (ite_e h).2 hc
      refine z_aload_n (pc := 14) (x := a1) C dX0_firstUntouched_14 (i := 1) rfl rfl ?_
      refine z_aload_n (pc := 15) (x := a1) C dX0_firstUntouched_15 (i := 1) rfl rfl ?_
      refine z_aload_n (pc := 16) (x := a1) C dX0_firstUntouched_16 (i := 1) rfl rfl ?_
      refine z_get (pc := 17) (v := .int (s1.1 4)) C 1 dX0_firstUntouched_17 fl_RX0_70 rfl rfl ?_
      refine z_iload_n (pc := 20) (x := v2) C dX0_firstUntouched_20 (i := 2) rfl rfl ?_
      replace h := ob_e h
      obtain ⟨x2, hx2, h⟩ := h
      refine z_callV (pc := 21) (As := [.int (s1.1 4), .int v2]) (rest := [.ref a1]) (wr := (wX0 g a0 r0 q0_4 s0)) C dX0_firstUntouched_21 ml_RX0_113 wv_X1_cardAt (m_X1_cardAt (a0 := a1) (r0 := r1) (q0_0 := q1_0) hg hx2) [1, 2, 3, 4, 5, 6, 7, 8, 9] [0] rfl rfl ⟨by decide, by decide⟩ (Nat.le_of_ble_eq_true rfl) ⟨by decide, by decide⟩ rfl rfl rfl rfl rfl rfl rfl (by decide) (ex_k C (cs' := 0) (ss' := 0) (wF := (wX0 g a0 r0 q0_4 s0 ++ wX1 g a1 r1 q1_0 s1)) [0, 1, 2, 3, 4, 5, 6, 7, 8, 9] rfl rfl ?_)
      replace h := ob_e h
      obtain ⟨x3, hx3, h⟩ := h
      refine z_callV (pc := 24) (As := [.int x2]) (rest := []) (wr := (wX0 g a0 r0 q0_4 s0)) C dX0_firstUntouched_24 ml_RX0_123 wv_X1_wasTouched (m_X1_wasTouched (a0 := a1) (r0 := r1) (q0_0 := q1_0) hg hx3) [1, 2, 3, 4, 5, 6, 7, 8, 9] [0] rfl rfl ⟨by decide, by decide⟩ (Nat.le_of_ble_eq_true rfl) ⟨by decide, by decide⟩ rfl rfl rfl rfl rfl rfl rfl (by decide) (ex_k C (cs' := 0) (ss' := 0) (wF := (wX0 g a0 r0 q0_4 s0 ++ wX1 g a1 r1 q1_0 s1)) [0, 1, 2, 3, 4, 5, 6, 7, 8, 9] rfl rfl ?_)
      refine z_if_ne (pc := 27) C dX0_firstUntouched_27 (tgt := 32) (by decide) (fun hc => ?_) (fun hc => ?_)
      · replace h := (ite_e h).2 hc
        refine z_iinc (pc := 32) C dX0_firstUntouched_32 rfl (inc_e 1 (1 : Int32) ic_1 v2) (by decide) (lv' := [(2, .int (v2 + (1 : Int32))), (1, .ref a1)]) rfl ?_
        refine z_goto (pc := 35) C dX0_firstUntouched_35 (tgt := 2) (by decide) ?_
        refine z_lv (lv' := [(1, .ref a1), (2, .int (v2 + (1 : Int32)))]) [1, 0] rfl ?_
        exact hk2 (v2 + (1 : Int32)) h
      · replace h := (ite_e h).1 hc
        refine z_iload_n (pc := 30) (x := v2) C dX0_firstUntouched_30 (i := 2) rfl rfl ?_
        exact z_iret C X dX0_firstUntouched_31 (by rw [← Option.some.inj h]; exact ⟨rfl, rfl⟩) (by decide) (by decide)
def f_X0_firstUntouched (N : Nat) (s0 : Ob) (s1 : Ob) : Option (Int32) := (f_X0_firstUntouched_2 N s0 s1 N (0 : Int32))
theorem m_X0_firstUntouched {g : Gp} {a0 : Nat} {a1 : Nat} {r0 : Nat → Nat} {q0_4 : Nat} {r1 : Nat → Nat} {q1_0 : Nat} {N : Nat} {s0 : Ob} {s1 : Ob} {res : Int32} (hg : Ok g) (h : f_X0_firstUntouched N s0 s1 = some res) : Ct g yX0_firstUntouched cX0_firstUntouched 3 (some .int) (zrm 1 23) [.ref a0, .ref a1] (wX0 g a0 r0 q0_4 s0 ++ wX1 g a1 r1 q1_0 s1) (exR (some (.int res)) (wX0 g a0 r0 q0_4 s0 ++ wX1 g a1 r1 q1_0 s1)) := by
  refine ct_of rfl hg (by show _ ≤ _; exact Nat.le_of_ble_eq_true rfl) (fun K C X => ?_)
  show Zs K 0 0 (wX0 g a0 r0 q0_4 s0 ++ wX1 g a1 r1 q1_0 s1) [(0, .ref a0), (1, .ref a1)] 0 []
  unfold f_X0_firstUntouched at h
  refine z_iconst (pc := 0) C dX0_firstUntouched_0 ic_0 ?_
  refine z_istore_n (pc := 1) C dX0_firstUntouched_1 (i := 2) rfl (by decide) (lv' := [(2, .int (0 : Int32)), (0, .ref a0), (1, .ref a1)]) rfl ?_
  refine z_lv (lv' := [(1, .ref a1), (2, .int (0 : Int32))]) [2, 0] rfl ?_
  exact m_X0_firstUntouched_2 (a0 := a0) (a1 := a1) (r0 := r0) (q0_4 := q0_4) (r1 := r1) (q1_0 := q1_0) hg C X N (0 : Int32) h
def f_X0_advise_99 (N : Nat) (s1 : Ob) (s2 : Ob)  (s0 : Ob) (s3 : Ob) : Option (Ob × Ob) := (if (s0.1 5) = (-1 : Int32) then (ob (f_X0_choose N s0 (3 : Int32) (-1 : Int32)) fun x6 => (some (x6, s3))) else (some (s0, s3)))
theorem m_X0_advise_99 {K : Kt} {g : Gp} {a0 : Nat} {a1 : Nat} {r0 : Nat → Nat} {q0_4 : Nat} {r1 : Nat → Nat} {q1_0 : Nat} {r2 : Nat → Nat} {r3 : Nat → Nat} {N : Nat} {s1 : Ob} {s2 : Ob} {res : Ob × Ob} (hg : Ok g) (C : Cx K g cX0_advise RX0 3 (zrm 5 124)) (X : Rx K (exR none (wX0 g a0 r0 q0_4 res.1 ++ wX1 g a1 r1 q1_0 s1 ++ wX5 g q1_0 r2 s2 ++ wX2 g q0_4 r3 res.2)) 0 0 none) (s0 : Ob) (s3 : Ob) (h : f_X0_advise_99 N s1 s2 s0 s3 = some res) : Zs K 0 0 (wX0 g a0 r0 q0_4 s0 ++ wX1 g a1 r1 q1_0 s1 ++ wX5 g q1_0 r2 s2 ++ wX2 g q0_4 r3 s3) [(0, .ref a0)] 99 [] := by
  unfold f_X0_advise_99 at h
  refine z_aload_n (pc := 99) (x := a0) C dX0_advise_99 (i := 0) rfl rfl ?_
  refine z_get (pc := 100) (v := .int (s0.1 5)) C 0 dX0_advise_100 fl_RX0_60 rfl rfl ?_
  refine z_iconst (pc := 103) C dX0_advise_103 ic_m1 ?_
  refine z_icmp_ne (pc := 104) C dX0_advise_104 (tgt := 113) (by decide) (fun hc => ?_) (fun hc => ?_)
  · replace h := (ite_e h).2 hc
    exact z_vret C X dX0_advise_113 (by rw [← Option.some.inj h]; exact ⟨rfl, rfl⟩) (by decide) (by decide)
  · replace h := (ite_e h).1 hc
    refine z_aload_n (pc := 107) (x := a0) C dX0_advise_107 (i := 0) rfl rfl ?_
    refine z_iconst (pc := 108) C dX0_advise_108 ic_3 ?_
    refine z_iconst (pc := 109) C dX0_advise_109 ic_m1 ?_
    replace h := ob_e h
    obtain ⟨x6, hx6, h⟩ := h
    refine z_callV (pc := 110) (As := [.int (3 : Int32), .int (-1 : Int32)]) (rest := []) (wr := (wX1 g a1 r1 q1_0 s1 ++ wX5 g q1_0 r2 s2 ++ wX2 g q0_4 r3 s3)) C dX0_advise_110 ml_RX0_52 wv_X0_choose (m_X0_choose (a0 := a0) (r0 := r0) (q0_4 := q0_4) hg hx6) [0] [1, 2, 3, 4, 5, 6, 7, 8, 9, 10, 11, 12, 13, 14, 15] rfl rfl ⟨by decide, by decide⟩ (Nat.le_of_ble_eq_true rfl) ⟨by decide, by decide⟩ rfl rfl rfl rfl rfl rfl rfl (by decide) (ex_k C (cs' := 0) (ss' := 0) (wF := (wX0 g a0 r0 q0_4 x6 ++ wX1 g a1 r1 q1_0 s1 ++ wX5 g q1_0 r2 s2 ++ wX2 g q0_4 r3 s3)) [15, 0, 1, 2, 3, 4, 5, 6, 7, 8, 9, 10, 11, 12, 13, 14] rfl rfl ?_)
    exact z_vret C X dX0_advise_113 (by rw [← Option.some.inj h]; exact ⟨rfl, rfl⟩) (by decide) (by decide)
def f_X0_advise_57 (N : Nat) (s1 : Ob) (s2 : Ob)  (v2 : Int32) (s0 : Ob) (s3 : Ob) : Option (Ob × Ob) := (if v2 = (-1 : Int32) then (if (s0.1 5) = (-1 : Int32) then (ob (f_X1_sizeOf N s1 (s1.1 4)) fun x7 => (if x7 ≤ 0 then (f_X0_advise_99 N s1 s2 s0 s3) else (ob (f_X0_choose N s0 (1 : Int32) (0 : Int32)) fun x8 => (some (x8, s3))))) else (f_X0_advise_99 N s1 s2 s0 s3)) else (ob (f_X0_choose N s0 (1 : Int32) v2) fun x9 => (some (x9, s3))))
theorem m_X0_advise_57 {K : Kt} {g : Gp} {a0 : Nat} {a1 : Nat} {r0 : Nat → Nat} {q0_4 : Nat} {r1 : Nat → Nat} {q1_0 : Nat} {r2 : Nat → Nat} {r3 : Nat → Nat} {N : Nat} {s1 : Ob} {s2 : Ob} {res : Ob × Ob} (hg : Ok g) (C : Cx K g cX0_advise RX0 3 (zrm 5 124)) (X : Rx K (exR none (wX0 g a0 r0 q0_4 res.1 ++ wX1 g a1 r1 q1_0 s1 ++ wX5 g q1_0 r2 s2 ++ wX2 g q0_4 r3 res.2)) 0 0 none) (v2 : Int32) (s0 : Ob) (s3 : Ob) (h : f_X0_advise_57 N s1 s2 v2 s0 s3 = some res) : Zs K 0 0 (wX0 g a0 r0 q0_4 s0 ++ wX1 g a1 r1 q1_0 s1 ++ wX5 g q1_0 r2 s2 ++ wX2 g q0_4 r3 s3) [(0, .ref a0), (1, .ref a1), (2, .int v2)] 57 [] := by
  unfold f_X0_advise_57 at h
  refine z_iload_n (pc := 57) (x := v2) C dX0_advise_57 (i := 2) rfl rfl ?_
  refine z_iconst (pc := 58) C dX0_advise_58 ic_m1 ?_
  refine z_icmp_eq (pc := 59) C dX0_advise_59 (tgt := 71) (by decide) (fun hc => ?_) (fun hc => ?_)
  · replace h := (ite_e h).1 hc
    refine z_aload_n (pc := 71) (x := a0) C dX0_advise_71 (i := 0) rfl rfl ?_
    refine z_get (pc := 72) (v := .int (s0.1 5)) C 0 dX0_advise_72 fl_RX0_60 rfl rfl ?_
    refine z_iconst (pc := 75) C dX0_advise_75 ic_m1 ?_
    refine z_icmp_ne (pc := 76) C dX0_advise_76 (tgt := 99) (by decide) (fun hc => ?_) (fun hc => ?_)
    · replace h := (ite_e h).2 hc
      refine z_lv (lv' := [(0, .ref a0)]) [0] rfl ?_
      exact m_X0_advise_99 (a0 := a0) (a1 := a1) (r0 := r0) (q0_4 := q0_4) (r1 := r1) (q1_0 := q1_0) (r2 := r2) (r3 := r3) hg C X s0 s3 h
    · replace h := (ite_e h).1 hc
      refine z_aload_n (pc := 79) (x := a1) C dX0_advise_79 (i := 1) rfl rfl ?_
      refine z_aload_n (pc := 80) (x := a1) C dX0_advise_80 (i := 1) rfl rfl ?_
      refine z_get (pc := 81) (v := .int (s1.1 4)) C 1 dX0_advise_81 fl_RX0_70 rfl rfl ?_
      replace h := ob_e h
      obtain ⟨x7, hx7, h⟩ := h
      refine z_callV (pc := 84) (As := [.int (s1.1 4)]) (rest := []) (wr := (wX0 g a0 r0 q0_4 s0 ++ wX5 g q1_0 r2 s2 ++ wX2 g q0_4 r3 s3)) C dX0_advise_84 ml_RX0_73 wv_X1_sizeOf (m_X1_sizeOf (a0 := a1) (r0 := r1) (q0_0 := q1_0) hg hx7) [1, 2, 3, 4, 5, 6, 7, 8, 9] [0, 10, 11, 12, 13, 14, 15] rfl rfl ⟨by decide, by decide⟩ (Nat.le_of_ble_eq_true rfl) ⟨by decide, by decide⟩ rfl rfl rfl rfl rfl rfl rfl (by decide) (ex_k C (cs' := 0) (ss' := 0) (wF := (wX0 g a0 r0 q0_4 s0 ++ wX1 g a1 r1 q1_0 s1 ++ wX5 g q1_0 r2 s2 ++ wX2 g q0_4 r3 s3)) [0, 7, 8, 9, 10, 11, 12, 13, 14, 15, 1, 2, 3, 4, 5, 6] rfl rfl ?_)
      refine z_if_le (pc := 87) C dX0_advise_87 (tgt := 99) (by decide) (fun hc => ?_) (fun hc => ?_)
      · replace h := (ite_e h).1 hc
        refine z_lv (lv' := [(0, .ref a0)]) [0] rfl ?_
        exact m_X0_advise_99 (a0 := a0) (a1 := a1) (r0 := r0) (q0_4 := q0_4) (r1 := r1) (q1_0 := q1_0) (r2 := r2) (r3 := r3) hg C X s0 s3 h
      · replace h := (ite_e h).2 hc
        refine z_aload_n (pc := 90) (x := a0) C dX0_advise_90 (i := 0) rfl rfl ?_
        refine z_iconst (pc := 91) C dX0_advise_91 ic_1 ?_
        refine z_iconst (pc := 92) C dX0_advise_92 ic_0 ?_
        replace h := ob_e h
        obtain ⟨x8, hx8, h⟩ := h
        refine z_callV (pc := 93) (As := [.int (1 : Int32), .int (0 : Int32)]) (rest := []) (wr := (wX1 g a1 r1 q1_0 s1 ++ wX5 g q1_0 r2 s2 ++ wX2 g q0_4 r3 s3)) C dX0_advise_93 ml_RX0_52 wv_X0_choose (m_X0_choose (a0 := a0) (r0 := r0) (q0_4 := q0_4) hg hx8) [0] [1, 2, 3, 4, 5, 6, 7, 8, 9, 10, 11, 12, 13, 14, 15] rfl rfl ⟨by decide, by decide⟩ (Nat.le_of_ble_eq_true rfl) ⟨by decide, by decide⟩ rfl rfl rfl rfl rfl rfl rfl (by decide) (ex_k C (cs' := 0) (ss' := 0) (wF := (wX0 g a0 r0 q0_4 x8 ++ wX1 g a1 r1 q1_0 s1 ++ wX5 g q1_0 r2 s2 ++ wX2 g q0_4 r3 s3)) [15, 0, 1, 2, 3, 4, 5, 6, 7, 8, 9, 10, 11, 12, 13, 14] rfl rfl ?_)
        refine z_goto (pc := 96) C dX0_advise_96 (tgt := 113) (by decide) ?_
        exact z_vret C X dX0_advise_113 (by rw [← Option.some.inj h]; exact ⟨rfl, rfl⟩) (by decide) (by decide)
  · replace h := (ite_e h).2 hc
    refine z_aload_n (pc := 62) (x := a0) C dX0_advise_62 (i := 0) rfl rfl ?_
    refine z_iconst (pc := 63) C dX0_advise_63 ic_1 ?_
    refine z_iload_n (pc := 64) (x := v2) C dX0_advise_64 (i := 2) rfl rfl ?_
    replace h := ob_e h
    obtain ⟨x9, hx9, h⟩ := h
    refine z_callV (pc := 65) (As := [.int (1 : Int32), .int v2]) (rest := []) (wr := (wX1 g a1 r1 q1_0 s1 ++ wX5 g q1_0 r2 s2 ++ wX2 g q0_4 r3 s3)) C dX0_advise_65 ml_RX0_52 wv_X0_choose (m_X0_choose (a0 := a0) (r0 := r0) (q0_4 := q0_4) hg hx9) [0] [1, 2, 3, 4, 5, 6, 7, 8, 9, 10, 11, 12, 13, 14, 15] rfl rfl ⟨by decide, by decide⟩ (Nat.le_of_ble_eq_true rfl) ⟨by decide, by decide⟩ rfl rfl rfl rfl rfl rfl rfl (by decide) (ex_k C (cs' := 0) (ss' := 0) (wF := (wX0 g a0 r0 q0_4 x9 ++ wX1 g a1 r1 q1_0 s1 ++ wX5 g q1_0 r2 s2 ++ wX2 g q0_4 r3 s3)) [15, 0, 1, 2, 3, 4, 5, 6, 7, 8, 9, 10, 11, 12, 13, 14] rfl rfl ?_)
    refine z_goto (pc := 68) C dX0_advise_68 (tgt := 113) (by decide) ?_
    exact z_vret C X dX0_advise_113 (by rw [← Option.some.inj h]; exact ⟨rfl, rfl⟩) (by decide) (by decide)
def f_X0_advise (N : Nat) (s0 : Ob) (s1 : Ob) (s2 : Ob) (s3 : Ob) : Option (Ob × Ob) := (ob (f_X1_playableKinds N s1 s2) fun x1 => (ob (f_X0_firstKnown N s0 s1 s3 s2 x1) fun x2 => (if x2.1 = (-1 : Int32) then (ob (f_X0_chooseHint N s0 s1 s2 x2.2) fun x3 => (if (x3.1.1 5) < (1 : Int32) then (ob (f_X1_uselessKinds N s1 s2) fun x4 => (ob (f_X0_firstKnown N x3.1 s1 x3.2 s2 x4) fun x5 => (if x5.1 = (-1 : Int32) then (ob (f_X0_firstUntouched N x3.1 s1) fun x10 => (f_X0_advise_57 N s1 s2 x10 x3.1 x5.2)) else (f_X0_advise_57 N s1 s2 x5.1 x3.1 x5.2)))) else (some (x3.1, x3.2)))) else (ob (f_X0_choose N s0 (0 : Int32) x2.1) fun x11 => (some (x11, x2.2))))))
theorem m_X0_advise {g : Gp} {a0 : Nat} {a1 : Nat} {r0 : Nat → Nat} {q0_4 : Nat} {r1 : Nat → Nat} {q1_0 : Nat} {r2 : Nat → Nat} {r3 : Nat → Nat} {N : Nat} {s0 : Ob} {s1 : Ob} {s2 : Ob} {s3 : Ob} {res : Ob × Ob} (hg : Ok g) (h : f_X0_advise N s0 s1 s2 s3 = some res) : Ct g yX0_advise cX0_advise 3 none (zrm 5 124) [.ref a0, .ref a1] (wX0 g a0 r0 q0_4 s0 ++ wX1 g a1 r1 q1_0 s1 ++ wX5 g q1_0 r2 s2 ++ wX2 g q0_4 r3 s3) (exR none (wX0 g a0 r0 q0_4 res.1 ++ wX1 g a1 r1 q1_0 s1 ++ wX5 g q1_0 r2 s2 ++ wX2 g q0_4 r3 res.2)) := by
  refine ct_of rfl hg (by show _ ≤ _; exact Nat.le_of_ble_eq_true rfl) (fun K C X => ?_)
  show Zs K 0 0 (wX0 g a0 r0 q0_4 s0 ++ wX1 g a1 r1 q1_0 s1 ++ wX5 g q1_0 r2 s2 ++ wX2 g q0_4 r3 s3) [(0, .ref a0), (1, .ref a1)] 0 []
  unfold f_X0_advise at h
  refine z_aload_n (pc := 0) (x := a0) C dX0_advise_0 (i := 0) rfl rfl ?_
  refine z_aload_n (pc := 1) (x := a1) C dX0_advise_1 (i := 1) rfl rfl ?_
  refine z_aload_n (pc := 2) (x := a1) C dX0_advise_2 (i := 1) rfl rfl ?_
  replace h := ob_e h
  obtain ⟨x1, hx1, h⟩ := h
  refine z_callV (pc := 3) (As := []) (rest := [.ref a1, .ref a0]) (wr := (wX0 g a0 r0 q0_4 s0 ++ wX2 g q0_4 r3 s3)) C dX0_advise_3 ml_RX0_44 wv_X1_playableKinds (m_X1_playableKinds (a0 := a1) (r0 := r1) (q0_0 := q1_0) (r1 := r2) hg hx1) [1, 2, 3, 4, 5, 6, 7, 8, 9, 10, 11, 12, 13] [0, 14, 15] rfl rfl ⟨by decide, by decide⟩ (Nat.le_of_ble_eq_true rfl) ⟨by decide, by decide⟩ rfl rfl rfl rfl rfl rfl rfl (by decide) (ex_k C (cs' := 0) (ss' := 0) (wF := (wX0 g a0 r0 q0_4 s0 ++ wX1 g a1 r1 q1_0 s1 ++ wX5 g q1_0 r2 s2 ++ wX2 g q0_4 r3 s3)) [0, 3, 4, 5, 6, 7, 8, 9, 10, 11, 12, 13, 14, 15, 1, 2] rfl rfl ?_)
  replace h := ob_e h
  obtain ⟨x2, hx2, h⟩ := h
  refine z_callV (pc := 6) (As := [.ref a1, .int x1]) (rest := []) (wr := ([] : va_W)) C dX0_advise_6 ml_RX0_48 wv_X0_firstKnown (m_X0_firstKnown (a0 := a0) (a1 := a1) (r0 := r0) (q0_4 := q0_4) (r1 := r1) (q1_0 := q1_0) (r2 := r3) (r3 := r2) hg hx2) [0, 1, 2, 3, 4, 5, 6, 7, 8, 9, 14, 15, 10, 11, 12, 13] [] rfl rfl ⟨by decide, by decide⟩ (Nat.le_of_ble_eq_true rfl) ⟨by decide, by decide⟩ rfl rfl rfl rfl rfl rfl rfl (by decide) (ex_k C (cs' := 0) (ss' := 0) (wF := (wX0 g a0 r0 q0_4 s0 ++ wX1 g a1 r1 q1_0 s1 ++ wX5 g q1_0 r2 s2 ++ wX2 g q0_4 r3 x2.2)) [0, 1, 2, 3, 4, 5, 6, 7, 8, 9, 12, 13, 14, 15, 10, 11] rfl rfl ?_)
  refine z_istore_n (pc := 9) C dX0_advise_9 (i := 2) rfl (by decide) (lv' := [(2, .int x2.1), (0, .ref a0), (1, .ref a1)]) rfl ?_
  refine z_iload_n (pc := 10) (x := x2.1) C dX0_advise_10 (i := 2) rfl rfl ?_
  refine z_iconst (pc := 11) C dX0_advise_11 ic_m1 ?_
  refine z_icmp_eq (pc := 12) C dX0_advise_12 (tgt := 22) (by decide) (fun hc => ?_) (fun hc => ?_)
  · replace h := (ite_e h).1 hc
    refine z_aload_n (pc := 22) (x := a0) C dX0_advise_22 (i := 0) rfl rfl ?_
    refine z_aload_n (pc := 23) (x := a1) C dX0_advise_23 (i := 1) rfl rfl ?_
    replace h := ob_e h
    obtain ⟨x3, hx3, h⟩ := h
    refine z_callV (pc := 24) (As := [.ref a1]) (rest := []) (wr := ([] : va_W)) C dX0_advise_24 ml_RX0_56 wv_X0_chooseHint (m_X0_chooseHint (a0 := a0) (a1 := a1) (r0 := r0) (q0_4 := q0_4) (r1 := r1) (q1_0 := q1_0) (r2 := r2) (r3 := r3) hg hx3) [0, 1, 2, 3, 4, 5, 6, 7, 8, 9, 10, 11, 12, 13, 14, 15] [] rfl rfl ⟨by decide, by decide⟩ (Nat.le_of_ble_eq_true rfl) ⟨by decide, by decide⟩ rfl rfl rfl rfl rfl rfl rfl (by decide) (ex_k C (cs' := 0) (ss' := 0) (wF := (wX0 g a0 r0 q0_4 x3.1 ++ wX1 g a1 r1 q1_0 s1 ++ wX5 g q1_0 r2 s2 ++ wX2 g q0_4 r3 x3.2)) [0, 1, 2, 3, 4, 5, 6, 7, 8, 9, 10, 11, 12, 13, 14, 15] rfl rfl ?_)
    refine z_aload_n (pc := 27) (x := a0) C dX0_advise_27 (i := 0) rfl rfl ?_
    refine z_get (pc := 28) (v := .int (x3.1.1 5)) C 0 dX0_advise_28 fl_RX0_60 rfl rfl ?_
    refine z_iconst (pc := 31) C dX0_advise_31 ic_1 ?_
    refine z_icmp_lt (pc := 32) C dX0_advise_32 (tgt := 36) (by decide) (fun hc => ?_) (fun hc => ?_)
    · replace h := (ite_e h).1 hc
      refine z_aload_n (pc := 36) (x := a0) C dX0_advise_36 (i := 0) rfl rfl ?_
      refine z_aload_n (pc := 37) (x := a1) C dX0_advise_37 (i := 1) rfl rfl ?_
      refine z_aload_n (pc := 38) (x := a1) C dX0_advise_38 (i := 1) rfl rfl ?_
      replace h := ob_e h
      obtain ⟨x4, hx4, h⟩ := h
      refine z_callV (pc := 39) (As := []) (rest := [.ref a1, .ref a0]) (wr := (wX0 g a0 r0 q0_4 x3.1 ++ wX2 g q0_4 r3 x3.2)) C dX0_advise_39 ml_RX0_63 wv_X1_uselessKinds (m_X1_uselessKinds (a0 := a1) (r0 := r1) (q0_0 := q1_0) (r1 := r2) hg hx4) [1, 2, 3, 4, 5, 6, 7, 8, 9, 10, 11, 12, 13] [0, 14, 15] rfl rfl ⟨by decide, by decide⟩ (Nat.le_of_ble_eq_true rfl) ⟨by decide, by decide⟩ rfl rfl rfl rfl rfl rfl rfl (by decide) (ex_k C (cs' := 0) (ss' := 0) (wF := (wX0 g a0 r0 q0_4 x3.1 ++ wX1 g a1 r1 q1_0 s1 ++ wX5 g q1_0 r2 s2 ++ wX2 g q0_4 r3 x3.2)) [0, 3, 4, 5, 6, 7, 8, 9, 10, 11, 12, 13, 14, 15, 1, 2] rfl rfl ?_)
      replace h := ob_e h
      obtain ⟨x5, hx5, h⟩ := h
      refine z_callV (pc := 42) (As := [.ref a1, .int x4]) (rest := []) (wr := ([] : va_W)) C dX0_advise_42 ml_RX0_48 wv_X0_firstKnown (m_X0_firstKnown (a0 := a0) (a1 := a1) (r0 := r0) (q0_4 := q0_4) (r1 := r1) (q1_0 := q1_0) (r2 := r3) (r3 := r2) hg hx5) [0, 1, 2, 3, 4, 5, 6, 7, 8, 9, 14, 15, 10, 11, 12, 13] [] rfl rfl ⟨by decide, by decide⟩ (Nat.le_of_ble_eq_true rfl) ⟨by decide, by decide⟩ rfl rfl rfl rfl rfl rfl rfl (by decide) (ex_k C (cs' := 0) (ss' := 0) (wF := (wX0 g a0 r0 q0_4 x3.1 ++ wX1 g a1 r1 q1_0 s1 ++ wX5 g q1_0 r2 s2 ++ wX2 g q0_4 r3 x5.2)) [0, 1, 2, 3, 4, 5, 6, 7, 8, 9, 12, 13, 14, 15, 10, 11] rfl rfl ?_)
      refine z_istore_n (pc := 45) C dX0_advise_45 (i := 2) rfl (by decide) (lv' := [(2, .int x5.1), (0, .ref a0), (1, .ref a1)]) rfl ?_
      refine z_iload_n (pc := 46) (x := x5.1) C dX0_advise_46 (i := 2) rfl rfl ?_
      refine z_iconst (pc := 47) C dX0_advise_47 ic_m1 ?_
      refine z_icmp_ne (pc := 48) C dX0_advise_48 (tgt := 57) (by decide) (fun hc => ?_) (fun hc => ?_)
      · replace h := (ite_e h).2 hc
        refine z_lv (lv' := [(0, .ref a0), (1, .ref a1), (2, .int x5.1)]) [1, 2, 0] rfl ?_
        exact m_X0_advise_57 (a0 := a0) (a1 := a1) (r0 := r0) (q0_4 := q0_4) (r1 := r1) (q1_0 := q1_0) (r2 := r2) (r3 := r3) hg C X x5.1 x3.1 x5.2 h
      · replace h := (ite_e h).1 hc
        refine z_aload_n (pc := 51) (x := a0) C dX0_advise_51 (i := 0) rfl rfl ?_
        refine z_aload_n (pc := 52) (x := a1) C dX0_advise_52 (i := 1) rfl rfl ?_
        replace h := ob_e h
        obtain ⟨x10, hx10, h⟩ := h
        refine z_callV (pc := 53) (As := [.ref a1]) (rest := []) (wr := (wX5 g q1_0 r2 s2 ++ wX2 g q0_4 r3 x5.2)) C dX0_advise_53 ml_RX0_66 wv_X0_firstUntouched (m_X0_firstUntouched (a0 := a0) (a1 := a1) (r0 := r0) (q0_4 := q0_4) (r1 := r1) (q1_0 := q1_0) hg hx10) [0, 1, 2, 3, 4, 5, 6, 7, 8, 9] [10, 11, 12, 13, 14, 15] rfl rfl ⟨by decide, by decide⟩ (Nat.le_of_ble_eq_true rfl) ⟨by decide, by decide⟩ rfl rfl rfl rfl rfl rfl rfl (by decide) (ex_k C (cs' := 0) (ss' := 0) (wF := (wX0 g a0 r0 q0_4 x3.1 ++ wX1 g a1 r1 q1_0 s1 ++ wX5 g q1_0 r2 s2 ++ wX2 g q0_4 r3 x5.2)) [6, 7, 8, 9, 10, 11, 12, 13, 14, 15, 0, 1, 2, 3, 4, 5] rfl rfl ?_)
        refine z_istore_n (pc := 56) C dX0_advise_56 (i := 2) rfl (by decide) (lv' := [(2, .int x10), (0, .ref a0), (1, .ref a1)]) rfl ?_
        refine z_lv (lv' := [(0, .ref a0), (1, .ref a1), (2, .int x10)]) [1, 2, 0] rfl ?_
        exact m_X0_advise_57 (a0 := a0) (a1 := a1) (r0 := r0) (q0_4 := q0_4) (r1 := r1) (q1_0 := q1_0) (r2 := r2) (r3 := r3) hg C X x10 x3.1 x5.2 h
    · replace h := (ite_e h).2 hc
      exact z_vret C X dX0_advise_35 (by rw [← Option.some.inj h]; exact ⟨rfl, rfl⟩) (by decide) (by decide)
  · replace h := (ite_e h).2 hc
    refine z_aload_n (pc := 15) (x := a0) C dX0_advise_15 (i := 0) rfl rfl ?_
    refine z_iconst (pc := 16) C dX0_advise_16 ic_0 ?_
    refine z_iload_n (pc := 17) (x := x2.1) C dX0_advise_17 (i := 2) rfl rfl ?_
    replace h := ob_e h
    obtain ⟨x11, hx11, h⟩ := h
    refine z_callV (pc := 18) (As := [.int (0 : Int32), .int x2.1]) (rest := []) (wr := (wX1 g a1 r1 q1_0 s1 ++ wX5 g q1_0 r2 s2 ++ wX2 g q0_4 r3 x2.2)) C dX0_advise_18 ml_RX0_52 wv_X0_choose (m_X0_choose (a0 := a0) (r0 := r0) (q0_4 := q0_4) hg hx11) [0] [1, 2, 3, 4, 5, 6, 7, 8, 9, 10, 11, 12, 13, 14, 15] rfl rfl ⟨by decide, by decide⟩ (Nat.le_of_ble_eq_true rfl) ⟨by decide, by decide⟩ rfl rfl rfl rfl rfl rfl rfl (by decide) (ex_k C (cs' := 0) (ss' := 0) (wF := (wX0 g a0 r0 q0_4 x11 ++ wX1 g a1 r1 q1_0 s1 ++ wX5 g q1_0 r2 s2 ++ wX2 g q0_4 r3 x2.2)) [15, 0, 1, 2, 3, 4, 5, 6, 7, 8, 9, 10, 11, 12, 13, 14] rfl rfl ?_)
    exact z_vret C X dX0_advise_21 (by rw [← Option.some.inj h]; exact ⟨rfl, rfl⟩) (by decide) (by decide)
def f_X1_copyFrom (N : Nat) (s0 : Ob) (s1 : Ob) : Option (Ob) := (znm (si s0 1 (s1.1 1)) fun y1 => (znm (si y1 2 (s1.1 2)) fun y2 => (znm (si y2 3 (s1.1 3)) fun y3 => (znm (si y3 4 (s1.1 4)) fun y4 => (znm (si y4 5 (s1.1 5)) fun y5 => (znm (si y5 6 (s1.1 6)) fun y6 => (znm (sl y6 8 (s1.2.1 8)) fun y7 => (znm (sa y7 7 (va_cpy (s1.2.2.1 7) (y7.2.2.1 7) 0 0 7)) fun y8 => (znm (sa y8 9 (va_cpy (s1.2.2.1 9) (y8.2.2.1 9) 0 0 20)) fun y9 => (znm (sa y9 10 (va_cpy (s1.2.2.1 10) (y9.2.2.1 10) 0 0 4)) fun y10 => (znm (sa y10 11 (va_cpy (s1.2.2.1 11) (y10.2.2.1 11) 0 0 4)) fun y11 => (znm (sa y11 12 (va_cpy (s1.2.2.1 12) (y11.2.2.1 12) 0 0 20)) fun y12 => (znm (sa y12 13 (va_cpy (s1.2.2.1 13) (y12.2.2.1 13) 0 0 9)) fun y13 => (znm (sa y13 14 (va_cpy (s1.2.2.1 14) (y13.2.2.1 14) 0 0 40)) fun y14 => (some (sa y14 15 (va_cpy (s1.2.2.1 15) (y14.2.2.1 15) 0 0 120)))))))))))))))))
theorem m_X1_copyFrom {g : Gp} {a0 : Nat} {a1 : Nat} {r0 : Nat → Nat} {q0_0 : Nat} {r1 : Nat → Nat} {q1_0 : Nat} {N : Nat} {s0 : Ob} {s1 : Ob} {res : Ob} (hg : Ok g) (h : f_X1_copyFrom N s0 s1 = some res) : Ct g yX1_copyFrom cX1_copyFrom 2 none (zrm 1 18) [.ref a0, .ref a1] (wX1 g a0 r0 q0_0 s0 ++ wX1 g a1 r1 q1_0 s1) (exR none (wX1 g a0 r0 q1_0 res ++ wX1 g a1 r1 q1_0 s1)) := by
  refine ct_of rfl hg (by show _ ≤ _; exact Nat.le_of_ble_eq_true rfl) (fun K C X => ?_)
  show Zs K 0 0 (wX1 g a0 r0 q0_0 s0 ++ wX1 g a1 r1 q1_0 s1) [(0, .ref a0), (1, .ref a1)] 0 []
  unfold f_X1_copyFrom at h
  refine z_aload_n (pc := 0) (x := a0) C dX1_copyFrom_0 (i := 0) rfl rfl ?_
  refine z_aload_n (pc := 1) (x := a1) C dX1_copyFrom_1 (i := 1) rfl rfl ?_
  refine z_get (pc := 2) (v := .ref q1_0) C 9 dX1_copyFrom_2 fl_RX1_38 rfl rfl ?_
  refine z_put (pc := 5) C 0 dX1_copyFrom_5 fp_RX1_38 rfl rfl rfl (zlt_b rfl) (ws' := (wX1 g a0 r0 q1_0 s0 ++ wX1 g a1 r1 q1_0 s1)) rfl ?_
  refine z_aload_n (pc := 8) (x := a0) C dX1_copyFrom_8 (i := 0) rfl rfl ?_
  refine z_aload_n (pc := 9) (x := a1) C dX1_copyFrom_9 (i := 1) rfl rfl ?_
  refine z_get (pc := 10) (v := .int (s1.1 1)) C 9 dX1_copyFrom_10 fl_RX1_42 rfl rfl ?_
  refine z_put (pc := 13) C 0 dX1_copyFrom_13 fp_RX1_42 rfl rfl rfl (zlt_b rfl) (ws' := (wX1 g a0 r0 q1_0 (si s0 1 (s1.1 1)) ++ wX1 g a1 r1 q1_0 s1)) rfl ?_
  refine z_aload_n (pc := 16) (x := a0) C dX1_copyFrom_16 (i := 0) rfl rfl ?_
  refine z_aload_n (pc := 17) (x := a1) C dX1_copyFrom_17 (i := 1) rfl rfl ?_
  refine z_get (pc := 18) (v := .int (s1.1 2)) C 9 dX1_copyFrom_18 fl_RX1_46 rfl rfl ?_
  replace h := znm_e h
  obtain ⟨y1, hy1, h⟩ := h
  refine z_wsE (ws' := (wX1 g a0 r0 q1_0 y1 ++ wX1 g a1 r1 q1_0 s1)) (by rw [hy1]) ?_
  refine z_put (pc := 21) C 0 dX1_copyFrom_21 fp_RX1_46 rfl rfl rfl (zlt_b rfl) (ws' := (wX1 g a0 r0 q1_0 (si y1 2 (s1.1 2)) ++ wX1 g a1 r1 q1_0 s1)) rfl ?_
  refine z_aload_n (pc := 24) (x := a0) C dX1_copyFrom_24 (i := 0) rfl rfl ?_
  refine z_aload_n (pc := 25) (x := a1) C dX1_copyFrom_25 (i := 1) rfl rfl ?_
  refine z_get (pc := 26) (v := .int (s1.1 3)) C 9 dX1_copyFrom_26 fl_RX1_49 rfl rfl ?_
  replace h := znm_e h
  obtain ⟨y2, hy2, h⟩ := h
  refine z_wsE (ws' := (wX1 g a0 r0 q1_0 y2 ++ wX1 g a1 r1 q1_0 s1)) (by rw [hy2]) ?_
  refine z_put (pc := 29) C 0 dX1_copyFrom_29 fp_RX1_49 rfl rfl rfl (zlt_b rfl) (ws' := (wX1 g a0 r0 q1_0 (si y2 3 (s1.1 3)) ++ wX1 g a1 r1 q1_0 s1)) rfl ?_
  refine z_aload_n (pc := 32) (x := a0) C dX1_copyFrom_32 (i := 0) rfl rfl ?_
  refine z_aload_n (pc := 33) (x := a1) C dX1_copyFrom_33 (i := 1) rfl rfl ?_
  refine z_get (pc := 34) (v := .int (s1.1 4)) C 9 dX1_copyFrom_34 fl_RX1_52 rfl rfl ?_
  replace h := znm_e h
  obtain ⟨y3, hy3, h⟩ := h
  refine z_wsE (ws' := (wX1 g a0 r0 q1_0 y3 ++ wX1 g a1 r1 q1_0 s1)) (by rw [hy3]) ?_
  refine z_put (pc := 37) C 0 dX1_copyFrom_37 fp_RX1_52 rfl rfl rfl (zlt_b rfl) (ws' := (wX1 g a0 r0 q1_0 (si y3 4 (s1.1 4)) ++ wX1 g a1 r1 q1_0 s1)) rfl ?_
  refine z_aload_n (pc := 40) (x := a0) C dX1_copyFrom_40 (i := 0) rfl rfl ?_
  refine z_aload_n (pc := 41) (x := a1) C dX1_copyFrom_41 (i := 1) rfl rfl ?_
  refine z_get (pc := 42) (v := .int (s1.1 5)) C 9 dX1_copyFrom_42 fl_RX1_55 rfl rfl ?_
  replace h := znm_e h
  obtain ⟨y4, hy4, h⟩ := h
  refine z_wsE (ws' := (wX1 g a0 r0 q1_0 y4 ++ wX1 g a1 r1 q1_0 s1)) (by rw [hy4]) ?_
  refine z_put (pc := 45) C 0 dX1_copyFrom_45 fp_RX1_55 rfl rfl rfl (zlt_b rfl) (ws' := (wX1 g a0 r0 q1_0 (si y4 5 (s1.1 5)) ++ wX1 g a1 r1 q1_0 s1)) rfl ?_
  refine z_aload_n (pc := 48) (x := a0) C dX1_copyFrom_48 (i := 0) rfl rfl ?_
  refine z_aload_n (pc := 49) (x := a1) C dX1_copyFrom_49 (i := 1) rfl rfl ?_
  refine z_get (pc := 50) (v := .int (s1.1 6)) C 9 dX1_copyFrom_50 fl_RX1_58 rfl rfl ?_
  replace h := znm_e h
  obtain ⟨y5, hy5, h⟩ := h
  refine z_wsE (ws' := (wX1 g a0 r0 q1_0 y5 ++ wX1 g a1 r1 q1_0 s1)) (by rw [hy5]) ?_
  refine z_put (pc := 53) C 0 dX1_copyFrom_53 fp_RX1_58 rfl rfl rfl (zlt_b rfl) (ws' := (wX1 g a0 r0 q1_0 (si y5 6 (s1.1 6)) ++ wX1 g a1 r1 q1_0 s1)) rfl ?_
  refine z_aload_n (pc := 56) (x := a0) C dX1_copyFrom_56 (i := 0) rfl rfl ?_
  refine z_aload_n (pc := 57) (x := a1) C dX1_copyFrom_57 (i := 1) rfl rfl ?_
  refine z_get (pc := 58) (v := .long (s1.2.1 8)) C 9 dX1_copyFrom_58 fl_RX1_61 rfl rfl ?_
  replace h := znm_e h
  obtain ⟨y6, hy6, h⟩ := h
  refine z_wsE (ws' := (wX1 g a0 r0 q1_0 y6 ++ wX1 g a1 r1 q1_0 s1)) (by rw [hy6]) ?_
  refine z_put (pc := 61) C 0 dX1_copyFrom_61 fp_RX1_61 rfl rfl rfl (zlt_b rfl) (ws' := (wX1 g a0 r0 q1_0 (sl y6 8 (s1.2.1 8)) ++ wX1 g a1 r1 q1_0 s1)) rfl ?_
  refine z_aload_n (pc := 64) (x := a1) C dX1_copyFrom_64 (i := 1) rfl rfl ?_
  refine z_get (pc := 65) (v := .ref (r1 7)) C 9 dX1_copyFrom_65 fl_RX1_11 rfl rfl ?_
  refine z_iconst (pc := 68) C dX1_copyFrom_68 ic_0 ?_
  refine z_aload_n (pc := 69) (x := a0) C dX1_copyFrom_69 (i := 0) rfl rfl ?_
  refine z_get (pc := 70) (v := .ref (r0 7)) C 0 dX1_copyFrom_70 fl_RX1_11 rfl rfl ?_
  refine z_iconst (pc := 73) C dX1_copyFrom_73 ic_0 ?_
  refine z_bipush (pc := 74) C dX1_copyFrom_74 bp_7 ?_
  replace h := znm_e h
  obtain ⟨y7, hy7, h⟩ := h
  refine z_wsE (ws' := (wX1 g a0 r0 q1_0 y7 ++ wX1 g a1 r1 q1_0 s1)) (by rw [hy7]) ?_
  refine z_copyi (pc := 76) C 10 1 dX1_copyFrom_76 wc_RX1_65 rfl rfl (by decide) (by decide) (by decide) (by decide) (by decide) (by decide) (Nat.le_of_ble_eq_true rfl) (ws' := (wX1 g a0 r0 q1_0 (sa y7 7 (va_cpy (s1.2.2.1 7) (y7.2.2.1 7) 0 0 7)) ++ wX1 g a1 r1 q1_0 s1)) rfl ?_
  refine z_aload_n (pc := 79) (x := a1) C dX1_copyFrom_79 (i := 1) rfl rfl ?_
  refine z_get (pc := 80) (v := .ref (r1 9)) C 9 dX1_copyFrom_80 fl_RX1_15 rfl rfl ?_
  refine z_iconst (pc := 83) C dX1_copyFrom_83 ic_0 ?_
  refine z_aload_n (pc := 84) (x := a0) C dX1_copyFrom_84 (i := 0) rfl rfl ?_
  refine z_get (pc := 85) (v := .ref (r0 9)) C 0 dX1_copyFrom_85 fl_RX1_15 rfl rfl ?_
  refine z_iconst (pc := 88) C dX1_copyFrom_88 ic_0 ?_
  refine z_bipush (pc := 89) C dX1_copyFrom_89 bp_20 ?_
  replace h := znm_e h
  obtain ⟨y8, hy8, h⟩ := h
  refine z_wsE (ws' := (wX1 g a0 r0 q1_0 y8 ++ wX1 g a1 r1 q1_0 s1)) (by rw [hy8]) ?_
  refine z_copyi (pc := 91) C 11 2 dX1_copyFrom_91 wc_RX1_65 rfl rfl (by decide) (by decide) (by decide) (by decide) (by decide) (by decide) (Nat.le_of_ble_eq_true rfl) (ws' := (wX1 g a0 r0 q1_0 (sa y8 9 (va_cpy (s1.2.2.1 9) (y8.2.2.1 9) 0 0 20)) ++ wX1 g a1 r1 q1_0 s1)) rfl ?_
  refine z_aload_n (pc := 94) (x := a1) C dX1_copyFrom_94 (i := 1) rfl rfl ?_
  refine z_get (pc := 95) (v := .ref (r1 10)) C 9 dX1_copyFrom_95 fl_RX1_18 rfl rfl ?_
  refine z_iconst (pc := 98) C dX1_copyFrom_98 ic_0 ?_
  refine z_aload_n (pc := 99) (x := a0) C dX1_copyFrom_99 (i := 0) rfl rfl ?_
  refine z_get (pc := 100) (v := .ref (r0 10)) C 0 dX1_copyFrom_100 fl_RX1_18 rfl rfl ?_
  refine z_iconst (pc := 103) C dX1_copyFrom_103 ic_0 ?_
  refine z_iconst (pc := 104) C dX1_copyFrom_104 ic_4 ?_
  replace h := znm_e h
  obtain ⟨y9, hy9, h⟩ := h
  refine z_wsE (ws' := (wX1 g a0 r0 q1_0 y9 ++ wX1 g a1 r1 q1_0 s1)) (by rw [hy9]) ?_
  refine z_copyi (pc := 105) C 12 3 dX1_copyFrom_105 wc_RX1_65 rfl rfl (by decide) (by decide) (by decide) (by decide) (by decide) (by decide) (Nat.le_of_ble_eq_true rfl) (ws' := (wX1 g a0 r0 q1_0 (sa y9 10 (va_cpy (s1.2.2.1 10) (y9.2.2.1 10) 0 0 4)) ++ wX1 g a1 r1 q1_0 s1)) rfl ?_
  refine z_aload_n (pc := 108) (x := a1) C dX1_copyFrom_108 (i := 1) rfl rfl ?_
  refine z_get (pc := 109) (v := .ref (r1 11)) C 9 dX1_copyFrom_109 fl_RX1_21 rfl rfl ?_
  refine z_iconst (pc := 112) C dX1_copyFrom_112 ic_0 ?_
  refine z_aload_n (pc := 113) (x := a0) C dX1_copyFrom_113 (i := 0) rfl rfl ?_
  refine z_get (pc := 114) (v := .ref (r0 11)) C 0 dX1_copyFrom_114 fl_RX1_21 rfl rfl ?_
  refine z_iconst (pc := 117) C dX1_copyFrom_117 ic_0 ?_
  refine z_iconst (pc := 118) C dX1_copyFrom_118 ic_4 ?_
  replace h := znm_e h
  obtain ⟨y10, hy10, h⟩ := h
  refine z_wsE (ws' := (wX1 g a0 r0 q1_0 y10 ++ wX1 g a1 r1 q1_0 s1)) (by rw [hy10]) ?_
  refine z_copyi (pc := 119) C 13 4 dX1_copyFrom_119 wc_RX1_65 rfl rfl (by decide) (by decide) (by decide) (by decide) (by decide) (by decide) (Nat.le_of_ble_eq_true rfl) (ws' := (wX1 g a0 r0 q1_0 (sa y10 11 (va_cpy (s1.2.2.1 11) (y10.2.2.1 11) 0 0 4)) ++ wX1 g a1 r1 q1_0 s1)) rfl ?_
  refine z_aload_n (pc := 122) (x := a1) C dX1_copyFrom_122 (i := 1) rfl rfl ?_
  refine z_get (pc := 123) (v := .ref (r1 12)) C 9 dX1_copyFrom_123 fl_RX1_24 rfl rfl ?_
  refine z_iconst (pc := 126) C dX1_copyFrom_126 ic_0 ?_
  refine z_aload_n (pc := 127) (x := a0) C dX1_copyFrom_127 (i := 0) rfl rfl ?_
  refine z_get (pc := 128) (v := .ref (r0 12)) C 0 dX1_copyFrom_128 fl_RX1_24 rfl rfl ?_
  refine z_iconst (pc := 131) C dX1_copyFrom_131 ic_0 ?_
  refine z_bipush (pc := 132) C dX1_copyFrom_132 bp_20 ?_
  replace h := znm_e h
  obtain ⟨y11, hy11, h⟩ := h
  refine z_wsE (ws' := (wX1 g a0 r0 q1_0 y11 ++ wX1 g a1 r1 q1_0 s1)) (by rw [hy11]) ?_
  refine z_copyi (pc := 134) C 14 5 dX1_copyFrom_134 wc_RX1_65 rfl rfl (by decide) (by decide) (by decide) (by decide) (by decide) (by decide) (Nat.le_of_ble_eq_true rfl) (ws' := (wX1 g a0 r0 q1_0 (sa y11 12 (va_cpy (s1.2.2.1 12) (y11.2.2.1 12) 0 0 20)) ++ wX1 g a1 r1 q1_0 s1)) rfl ?_
  refine z_aload_n (pc := 137) (x := a1) C dX1_copyFrom_137 (i := 1) rfl rfl ?_
  refine z_get (pc := 138) (v := .ref (r1 13)) C 9 dX1_copyFrom_138 fl_RX1_29 rfl rfl ?_
  refine z_iconst (pc := 141) C dX1_copyFrom_141 ic_0 ?_
  refine z_aload_n (pc := 142) (x := a0) C dX1_copyFrom_142 (i := 0) rfl rfl ?_
  refine z_get (pc := 143) (v := .ref (r0 13)) C 0 dX1_copyFrom_143 fl_RX1_29 rfl rfl ?_
  refine z_iconst (pc := 146) C dX1_copyFrom_146 ic_0 ?_
  refine z_bipush (pc := 147) C dX1_copyFrom_147 bp_9 ?_
  replace h := znm_e h
  obtain ⟨y12, hy12, h⟩ := h
  refine z_wsE (ws' := (wX1 g a0 r0 q1_0 y12 ++ wX1 g a1 r1 q1_0 s1)) (by rw [hy12]) ?_
  refine z_copyi (pc := 149) C 15 6 dX1_copyFrom_149 wc_RX1_65 rfl rfl (by decide) (by decide) (by decide) (by decide) (by decide) (by decide) (Nat.le_of_ble_eq_true rfl) (ws' := (wX1 g a0 r0 q1_0 (sa y12 13 (va_cpy (s1.2.2.1 13) (y12.2.2.1 13) 0 0 9)) ++ wX1 g a1 r1 q1_0 s1)) rfl ?_
  refine z_aload_n (pc := 152) (x := a1) C dX1_copyFrom_152 (i := 1) rfl rfl ?_
  refine z_get (pc := 153) (v := .ref (r1 14)) C 9 dX1_copyFrom_153 fl_RX1_32 rfl rfl ?_
  refine z_iconst (pc := 156) C dX1_copyFrom_156 ic_0 ?_
  refine z_aload_n (pc := 157) (x := a0) C dX1_copyFrom_157 (i := 0) rfl rfl ?_
  refine z_get (pc := 158) (v := .ref (r0 14)) C 0 dX1_copyFrom_158 fl_RX1_32 rfl rfl ?_
  refine z_iconst (pc := 161) C dX1_copyFrom_161 ic_0 ?_
  refine z_bipush (pc := 162) C dX1_copyFrom_162 bp_40 ?_
  replace h := znm_e h
  obtain ⟨y13, hy13, h⟩ := h
  refine z_wsE (ws' := (wX1 g a0 r0 q1_0 y13 ++ wX1 g a1 r1 q1_0 s1)) (by rw [hy13]) ?_
  refine z_copyi (pc := 164) C 16 7 dX1_copyFrom_164 wc_RX1_65 rfl rfl (by decide) (by decide) (by decide) (by decide) (by decide) (by decide) (Nat.le_of_ble_eq_true rfl) (ws' := (wX1 g a0 r0 q1_0 (sa y13 14 (va_cpy (s1.2.2.1 14) (y13.2.2.1 14) 0 0 40)) ++ wX1 g a1 r1 q1_0 s1)) rfl ?_
  refine z_aload_n (pc := 167) (x := a1) C dX1_copyFrom_167 (i := 1) rfl rfl ?_
  refine z_get (pc := 168) (v := .ref (r1 15)) C 9 dX1_copyFrom_168 fl_RX1_35 rfl rfl ?_
  refine z_iconst (pc := 171) C dX1_copyFrom_171 ic_0 ?_
  refine z_aload_n (pc := 172) (x := a0) C dX1_copyFrom_172 (i := 0) rfl rfl ?_
  refine z_get (pc := 173) (v := .ref (r0 15)) C 0 dX1_copyFrom_173 fl_RX1_35 rfl rfl ?_
  refine z_iconst (pc := 176) C dX1_copyFrom_176 ic_0 ?_
  refine z_bipush (pc := 177) C dX1_copyFrom_177 bp_120 ?_
  replace h := znm_e h
  obtain ⟨y14, hy14, h⟩ := h
  refine z_wsE (ws' := (wX1 g a0 r0 q1_0 y14 ++ wX1 g a1 r1 q1_0 s1)) (by rw [hy14]) ?_
  refine z_copyi (pc := 179) C 17 8 dX1_copyFrom_179 wc_RX1_65 rfl rfl (by decide) (by decide) (by decide) (by decide) (by decide) (by decide) (Nat.le_of_ble_eq_true rfl) (ws' := (wX1 g a0 r0 q1_0 (sa y14 15 (va_cpy (s1.2.2.1 15) (y14.2.2.1 15) 0 0 120)) ++ wX1 g a1 r1 q1_0 s1)) rfl ?_
  exact z_vret C X dX1_copyFrom_182 (by rw [← Option.some.inj h]; exact ⟨rfl, rfl⟩) (by decide) (by decide)
def F_X5_allKinds_4 (N : Nat) (s0 : Ob)  (k4 : Int32 → Int32 → Option (Int32)) (v1 : Int32) (v2 : Int32) : Option (Int32) := (if (s0.1 0) ≤ v2 then (some v1) else (znm ((((1 : Int32) <<< ((s0.1 1) &&& 31)) - (1 : Int32)) <<< ((v2 * (5 : Int32)) &&& 31)) fun x1 => (k4 (v1 ||| x1) (v2 + (1 : Int32)))))
def f_X5_allKinds_4 (N : Nat) (s0 : Ob)  : Nat → Int32 → Int32 → Option (Int32) := zlp (fun _ _ => none) (F_X5_allKinds_4 N s0)
theorem m_X5_allKinds_4 {K : Kt} {g : Gp} {a0 : Nat} {r0 : Nat → Nat} {N : Nat} {s0 : Ob} {res : Int32} (hg : Ok g) (C : Cx K g cX5_allKinds RX5 3 (zrm 0 0)) (X : Rx K (exR (some (.int res)) (wX5 g a0 r0 s0)) 0 0 (some .int)) : ∀ (n : Nat) (v1 : Int32) (v2 : Int32), f_X5_allKinds_4 N s0 n v1 v2 = some res → Zs K 0 0 (wX5 g a0 r0 s0) [(0, .ref a0), (1, .int v1), (2, .int v2)] 4 [] := by
  intro n
  induction n with
  | zero => intro v1 v2 h; exact nomatch (show (none : Option (Int32)) = some res from h)
  | succ n hk4 =>
    intro v1 v2 h
    replace h : F_X5_allKinds_4 N s0 (f_X5_allKinds_4 N s0 n) v1 v2 = some res := h
    unfold F_X5_allKinds_4 at h
    refine z_iload_n (pc := 4) (x := v2) C dX5_allKinds_4 (i := 2) rfl rfl ?_
    refine z_aload_n (pc := 5) (x := a0) C dX5_allKinds_5 (i := 0) rfl rfl ?_
    refine z_get (pc := 6) (v := .int (s0.1 0)) C 0 dX5_allKinds_6 fl_RX5_48 rfl rfl ?_
    refine z_icmp_ge (pc := 9) C dX5_allKinds_9 (tgt := 33) (by decide) (fun hc => ?_) (fun hc => ?_)
    · replace h := (ite_e h).1 hc
      refine z_iload_n (pc := 33) (x := v1) C dX5_allKinds_33 (i := 1) rfl rfl ?_
      exact z_iret C X dX5_allKinds_34 (by rw [← Option.some.inj h]; exact ⟨rfl, rfl⟩) (by decide) (by decide)
    · replace h := (ite_e h).2 hc
      refine z_iload_n (pc := 12) (x := v1) C dX5_allKinds_12 (i := 1) rfl rfl ?_
      refine z_iconst (pc := 13) C dX5_allKinds_13 ic_1 ?_
      refine z_aload_n (pc := 14) (x := a0) C dX5_allKinds_14 (i := 0) rfl rfl ?_
      refine z_get (pc := 15) (v := .int (s0.1 1)) C 0 dX5_allKinds_15 fl_RX5_51 rfl rfl ?_
      refine z_ishl (pc := 18) C dX5_allKinds_18 ?_
      refine z_iconst (pc := 19) C dX5_allKinds_19 ic_1 ?_
      refine z_isub (pc := 20) C dX5_allKinds_20 ?_
      refine z_iload_n (pc := 21) (x := v2) C dX5_allKinds_21 (i := 2) rfl rfl ?_
      refine z_iconst (pc := 22) C dX5_allKinds_22 ic_5 ?_
      refine z_imul (pc := 23) C dX5_allKinds_23 ?_
      refine z_ishl (pc := 24) C dX5_allKinds_24 ?_
      replace h := znm_e h
      obtain ⟨x1, hx1, h⟩ := h
      refine z_top1 hx1 ?_
      refine z_ior (pc := 25) C dX5_allKinds_25 ?_
      refine z_istore_n (pc := 26) C dX5_allKinds_26 (i := 1) rfl (by decide) (lv' := [(1, .int (v1 ||| x1)), (0, .ref a0), (2, .int v2)]) rfl ?_
      refine z_iinc (pc := 27) C dX5_allKinds_27 rfl (inc_e 1 (1 : Int32) ic_1 v2) (by decide) (lv' := [(2, .int (v2 + (1 : Int32))), (1, .int (v1 ||| x1)), (0, .ref a0)]) rfl ?_
      refine z_goto (pc := 30) C dX5_allKinds_30 (tgt := 4) (by decide) ?_
      refine z_lv (lv' := [(0, .ref a0), (1, .int (v1 ||| x1)), (2, .int (v2 + (1 : Int32)))]) [2, 1, 0] rfl ?_
      exact hk4 (v1 ||| x1) (v2 + (1 : Int32)) h
def f_X5_allKinds (N : Nat) (s0 : Ob) : Option (Int32) := (f_X5_allKinds_4 N s0 N (0 : Int32) (0 : Int32))
theorem m_X5_allKinds {g : Gp} {a0 : Nat} {r0 : Nat → Nat} {N : Nat} {s0 : Ob} {res : Int32} (hg : Ok g) (h : f_X5_allKinds N s0 = some res) : Ct g yX5_allKinds cX5_allKinds 3 (some .int) (zrm 0 0) [.ref a0] (wX5 g a0 r0 s0) (exR (some (.int res)) (wX5 g a0 r0 s0)) := by
  refine ct_of rfl hg (by show _ ≤ _; exact Nat.le_of_ble_eq_true rfl) (fun K C X => ?_)
  show Zs K 0 0 (wX5 g a0 r0 s0) [(0, .ref a0)] 0 []
  unfold f_X5_allKinds at h
  refine z_iconst (pc := 0) C dX5_allKinds_0 ic_0 ?_
  refine z_istore_n (pc := 1) C dX5_allKinds_1 (i := 1) rfl (by decide) (lv' := [(1, .int (0 : Int32)), (0, .ref a0)]) rfl ?_
  refine z_iconst (pc := 2) C dX5_allKinds_2 ic_0 ?_
  refine z_istore_n (pc := 3) C dX5_allKinds_3 (i := 2) rfl (by decide) (lv' := [(2, .int (0 : Int32)), (1, .int (0 : Int32)), (0, .ref a0)]) rfl ?_
  refine z_lv (lv' := [(0, .ref a0), (1, .int (0 : Int32)), (2, .int (0 : Int32))]) [2, 1, 0] rfl ?_
  exact m_X5_allKinds_4 (a0 := a0) (r0 := r0) hg C X N (0 : Int32) (0 : Int32) h
def f_X1_begin_180 (N : Nat) (s1 : Ob)  (t1 : Int32) (s0 : Ob) : Option (Ob) := (some (si s0 6 t1))
theorem m_X1_begin_180 {K : Kt} {g : Gp} {a0 : Nat} {a1 : Nat} {r0 : Nat → Nat} {q0_0 : Nat} {r1 : Nat → Nat} {N : Nat} {s1 : Ob} {res : Ob} (hg : Ok g) (C : Cx K g cX1_begin RX1 4 (zrm 2 43)) (X : Rx K (exR none (wX1 g a0 r0 a1 res ++ wX5 g a1 r1 s1)) 0 0 none) (t1 : Int32) (s0 : Ob) (h : f_X1_begin_180 N s1 t1 s0 = some res) : Zs K 0 0 (wX1 g a0 r0 a1 s0 ++ wX5 g a1 r1 s1) [] 180 [.int t1, .ref a0] := by
  unfold f_X1_begin_180 at h
  refine z_put (pc := 180) C 0 dX1_begin_180 fp_RX1_58 rfl rfl rfl (zlt_b rfl) (ws' := (wX1 g a0 r0 a1 (si s0 6 t1) ++ wX5 g a1 r1 s1)) rfl ?_
  exact z_vret C X dX1_begin_183 (by rw [← Option.some.inj h]; exact ⟨rfl, rfl⟩) (by decide) (by decide)
def F_X1_begin_126 (N : Nat) (s1 : Ob) (k113 : Int32 → Ob → Option (Ob)) (k126 : Int32 → Int32 → Ob → Option (Ob)) (v2 : Int32) (v3 : Int32) (s0 : Ob) : Option (Ob) := (if (s1.1 3) ≤ v3 then (k113 (v2 + (1 : Int32)) s0) else (ob (f_X1_drawCard N s0 s1 v2) fun x18 => (k126 v2 (v3 + (1 : Int32)) x18)))
def f_X1_begin_126 (N : Nat) (s1 : Ob) (k113 : Int32 → Ob → Option (Ob)) : Nat → Int32 → Int32 → Ob → Option (Ob) := zlp (fun _ _ _ => none) (F_X1_begin_126 N s1 k113)
theorem m_X1_begin_126 {K : Kt} {g : Gp} {a0 : Nat} {a1 : Nat} {r0 : Nat → Nat} {q0_0 : Nat} {r1 : Nat → Nat} {N : Nat} {s1 : Ob} {res : Ob} (hg : Ok g) (C : Cx K g cX1_begin RX1 4 (zrm 2 43)) (X : Rx K (exR none (wX1 g a0 r0 a1 res ++ wX5 g a1 r1 s1)) 0 0 none) {k113 : Int32 → Ob → Option (Ob)} (hk113 : ∀ (v2 : Int32) (s0 : Ob), k113 v2 s0 = some res → Zs K 0 0 (wX1 g a0 r0 a1 s0 ++ wX5 g a1 r1 s1) [(0, .ref a0), (2, .int v2)] 113 []) : ∀ (n : Nat) (v2 : Int32) (v3 : Int32) (s0 : Ob), f_X1_begin_126 N s1 k113 n v2 v3 s0 = some res → Zs K 0 0 (wX1 g a0 r0 a1 s0 ++ wX5 g a1 r1 s1) [(0, .ref a0), (2, .int v2), (3, .int v3)] 126 [] := by
  intro n
  induction n with
  | zero => intro v2 v3 s0 h; exact nomatch (show (none : Option (Ob)) = some res from h)
  | succ n hk126 =>
    intro v2 v3 s0 h
    replace h : F_X1_begin_126 N s1 k113 (f_X1_begin_126 N s1 k113 n) v2 v3 s0 = some res := h
    unfold F_X1_begin_126 at h
    refine z_iload_n (pc := 126) (x := v3) C dX1_begin_126 (i := 3) rfl rfl ?_
    refine z_aload_n (pc := 127) (x := a0) C dX1_begin_127 (i := 0) rfl rfl ?_
    refine z_get (pc := 128) (v := .ref a1) C 0 dX1_begin_128 fl_RX1_38 rfl rfl ?_
    refine z_get (pc := 131) (v := .int (s1.1 3)) C 9 dX1_begin_131 fl_RX1_91 rfl rfl ?_
    refine z_icmp_ge (pc := 134) C dX1_begin_134 (tgt := 148) (by decide) (fun hc => ?_) (fun hc => ?_)
    · replace h := (ite_e h).1 hc
      refine z_iinc (pc := 148) C dX1_begin_148 rfl (inc_e 1 (1 : Int32) ic_1 v2) (by decide) (lv' := [(2, .int (v2 + (1 : Int32))), (0, .ref a0), (3, .int v3)]) rfl ?_
      refine z_goto (pc := 151) C dX1_begin_151 (tgt := 113) (by decide) ?_
      refine z_lv (lv' := [(0, .ref a0), (2, .int (v2 + (1 : Int32)))]) [1, 0] rfl ?_
      exact hk113 (v2 + (1 : Int32)) s0 h
    · replace h := (ite_e h).2 hc
      refine z_aload_n (pc := 137) (x := a0) C dX1_begin_137 (i := 0) rfl rfl ?_
      refine z_iload_n (pc := 138) (x := v2) C dX1_begin_138 (i := 2) rfl rfl ?_
      replace h := ob_e h
      obtain ⟨x18, hx18, h⟩ := h
      refine z_callV (pc := 139) (As := [.int v2]) (rest := []) (wr := ([] : va_W)) C dX1_begin_139 ml_RX1_94 wv_X1_drawCard (m_X1_drawCard (a0 := a0) (r0 := r0) (q0_0 := a1) (r1 := r1) hg hx18) [0, 1, 2, 3, 4, 5, 6, 7, 8, 9, 10, 11, 12] [] rfl rfl ⟨by decide, by decide⟩ (Nat.le_of_ble_eq_true rfl) ⟨by decide, by decide⟩ rfl rfl rfl rfl rfl rfl rfl (by decide) (ex_k C (cs' := 0) (ss' := 0) (wF := (wX1 g a0 r0 a1 x18 ++ wX5 g a1 r1 s1)) [0, 1, 2, 3, 4, 5, 6, 7, 8, 9, 10, 11, 12] rfl rfl ?_)
      refine z_iinc (pc := 142) C dX1_begin_142 rfl (inc_e 1 (1 : Int32) ic_1 v3) (by decide) (lv' := [(3, .int (v3 + (1 : Int32))), (0, .ref a0), (2, .int v2)]) rfl ?_
      refine z_goto (pc := 145) C dX1_begin_145 (tgt := 126) (by decide) ?_
      refine z_lv (lv' := [(0, .ref a0), (2, .int v2), (3, .int (v3 + (1 : Int32)))]) [1, 2, 0] rfl ?_
      exact hk126 v2 (v3 + (1 : Int32)) x18 h
def F_X1_begin_113 (N : Nat) (s1 : Ob)  (k113 : Int32 → Ob → Option (Ob)) (v2 : Int32) (s0 : Ob) : Option (Ob) := (if (s1.1 2) ≤ v2 then (if (s0.1 1) < (s1.1 7) then (f_X1_begin_180 N s1 (-1 : Int32) s0) else (f_X1_begin_180 N s1 (s1.1 2) s0)) else (f_X1_begin_126 N s1 k113 N v2 (0 : Int32) s0))
def f_X1_begin_113 (N : Nat) (s1 : Ob)  : Nat → Int32 → Ob → Option (Ob) := zlp (fun _ _ => none) (F_X1_begin_113 N s1)
theorem m_X1_begin_113 {K : Kt} {g : Gp} {a0 : Nat} {a1 : Nat} {r0 : Nat → Nat} {q0_0 : Nat} {r1 : Nat → Nat} {N : Nat} {s1 : Ob} {res : Ob} (hg : Ok g) (C : Cx K g cX1_begin RX1 4 (zrm 2 43)) (X : Rx K (exR none (wX1 g a0 r0 a1 res ++ wX5 g a1 r1 s1)) 0 0 none) : ∀ (n : Nat) (v2 : Int32) (s0 : Ob), f_X1_begin_113 N s1 n v2 s0 = some res → Zs K 0 0 (wX1 g a0 r0 a1 s0 ++ wX5 g a1 r1 s1) [(0, .ref a0), (2, .int v2)] 113 [] := by
  intro n
  induction n with
  | zero => intro v2 s0 h; exact nomatch (show (none : Option (Ob)) = some res from h)
  | succ n hk113 =>
    intro v2 s0 h
    replace h : F_X1_begin_113 N s1 (f_X1_begin_113 N s1 n) v2 s0 = some res := h
    unfold F_X1_begin_113 at h
    refine z_iload_n (pc := 113) (x := v2) C dX1_begin_113 (i := 2) rfl rfl ?_
    refine z_aload_n (pc := 114) (x := a0) C dX1_begin_114 (i := 0) rfl rfl ?_
    refine z_get (pc := 115) (v := .ref a1) C 0 dX1_begin_115 fl_RX1_38 rfl rfl ?_
    refine z_get (pc := 118) (v := .int (s1.1 2)) C 9 dX1_begin_118 fl_RX1_88 rfl rfl ?_
    refine z_icmp_ge (pc := 121) C dX1_begin_121 (tgt := 154) (by decide) (fun hc => ?_) (fun hc => ?_)
    · replace h := (ite_e h).1 hc
      refine z_aload_n (pc := 154) (x := a0) C dX1_begin_154 (i := 0) rfl rfl ?_
      refine z_aload_n (pc := 155) (x := a0) C dX1_begin_155 (i := 0) rfl rfl ?_
      refine z_get (pc := 156) (v := .int (s0.1 1)) C 0 dX1_begin_156 fl_RX1_42 rfl rfl ?_
      refine z_aload_n (pc := 159) (x := a0) C dX1_begin_159 (i := 0) rfl rfl ?_
      refine z_get (pc := 160) (v := .ref a1) C 0 dX1_begin_160 fl_RX1_38 rfl rfl ?_
      refine z_get (pc := 163) (v := .int (s1.1 7)) C 9 dX1_begin_163 fl_RX1_98 rfl rfl ?_
      refine z_icmp_lt (pc := 166) C dX1_begin_166 (tgt := 179) (by decide) (fun hc => ?_) (fun hc => ?_)
      · replace h := (ite_e h).1 hc
        refine z_iconst (pc := 179) C dX1_begin_179 ic_m1 ?_
        refine z_lv (lv' := []) [] rfl ?_
        exact m_X1_begin_180 (a0 := a0) (a1 := a1) (r0 := r0) (q0_0 := q0_0) (r1 := r1) hg C X (-1 : Int32) s0 h
      · replace h := (ite_e h).2 hc
        refine z_aload_n (pc := 169) (x := a0) C dX1_begin_169 (i := 0) rfl rfl ?_
        refine z_get (pc := 170) (v := .ref a1) C 0 dX1_begin_170 fl_RX1_38 rfl rfl ?_
        refine z_get (pc := 173) (v := .int (s1.1 2)) C 9 dX1_begin_173 fl_RX1_88 rfl rfl ?_
        refine z_goto (pc := 176) C dX1_begin_176 (tgt := 180) (by decide) ?_
        refine z_lv (lv' := []) [] rfl ?_
        exact m_X1_begin_180 (a0 := a0) (a1 := a1) (r0 := r0) (q0_0 := q0_0) (r1 := r1) hg C X (s1.1 2) s0 h
    · replace h := (ite_e h).2 hc
      refine z_iconst (pc := 124) C dX1_begin_124 ic_0 ?_
      refine z_istore_n (pc := 125) C dX1_begin_125 (i := 3) rfl (by decide) (lv' := [(3, .int (0 : Int32)), (0, .ref a0), (2, .int v2)]) rfl ?_
      refine z_lv (lv' := [(0, .ref a0), (2, .int v2), (3, .int (0 : Int32))]) [1, 2, 0] rfl ?_
      exact m_X1_begin_126 (a0 := a0) (a1 := a1) (r0 := r0) (q0_0 := q0_0) (r1 := r1) hg C X hk113 N v2 (0 : Int32) s0 h
def f_X1_begin (N : Nat) (s0 : Ob) (s1 : Ob) : Option (Ob) := (znm (si s0 1 (0 : Int32)) fun y1 => (znm (si y1 2 (s1.1 5)) fun y2 => (znm (si y2 3 (s1.1 6)) fun y3 => (znm (si y3 4 (0 : Int32)) fun y4 => (znm (si y4 5 (0 : Int32)) fun y5 => (znm (sl y5 8 (0 : Int64)) fun y6 => (ob (f_J7_fill_53178 N 7 (y6.2.2.1 7) (0 : Int32)) fun x7 => (znm (sa y6 7 x7) fun y8 => (ob (f_J7_fill_53178 N 4 (y8.2.2.1 10) (0 : Int32)) fun x9 => (znm (sa y8 10 x9) fun y10 => (ob (f_J7_fill_53178 N 4 (y10.2.2.1 11) (0 : Int32)) fun x11 => (znm (sa y10 11 x11) fun y12 => (ob (f_J7_fill_53178 N 20 (y12.2.2.1 12) (0 : Int32)) fun x13 => (ob (f_X5_allKinds N s1) fun x14 => (znm (sa y12 12 x13) fun y15 => (ob (f_J7_fill_53178 N 40 (y15.2.2.1 14) x14) fun x16 => (znm (sa y15 14 x16) fun y17 => (f_X1_begin_113 N s1 N (0 : Int32) (sa y17 13 (va_cpy (s1.2.2.1 10) (y17.2.2.1 13) 0 0 9))))))))))))))))))))
theorem m_X1_begin {g : Gp} {a0 : Nat} {a1 : Nat} {r0 : Nat → Nat} {q0_0 : Nat} {r1 : Nat → Nat} {N : Nat} {s0 : Ob} {s1 : Ob} {res : Ob} (hg : Ok g) (h : f_X1_begin N s0 s1 = some res) : Ct g yX1_begin cX1_begin 4 none (zrm 2 43) [.ref a0, .ref a1] (wX1 g a0 r0 q0_0 s0 ++ wX5 g a1 r1 s1) (exR none (wX1 g a0 r0 a1 res ++ wX5 g a1 r1 s1)) := by
  refine ct_of rfl hg (by show _ ≤ _; exact Nat.le_of_ble_eq_true rfl) (fun K C X => ?_)
  show Zs K 0 0 (wX1 g a0 r0 q0_0 s0 ++ wX5 g a1 r1 s1) [(0, .ref a0), (1, .ref a1)] 0 []
  unfold f_X1_begin at h
  refine z_aload_n (pc := 0) (x := a0) C dX1_begin_0 (i := 0) rfl rfl ?_
  refine z_aload_n (pc := 1) (x := a1) C dX1_begin_1 (i := 1) rfl rfl ?_
  refine z_put (pc := 2) C 0 dX1_begin_2 fp_RX1_38 rfl rfl rfl (zlt_b rfl) (ws' := (wX1 g a0 r0 a1 s0 ++ wX5 g a1 r1 s1)) rfl ?_
  refine z_aload_n (pc := 5) (x := a0) C dX1_begin_5 (i := 0) rfl rfl ?_
  refine z_iconst (pc := 6) C dX1_begin_6 ic_0 ?_
  refine z_put (pc := 7) C 0 dX1_begin_7 fp_RX1_42 rfl rfl rfl (zlt_b rfl) (ws' := (wX1 g a0 r0 a1 (si s0 1 (0 : Int32)) ++ wX5 g a1 r1 s1)) rfl ?_
  refine z_aload_n (pc := 10) (x := a0) C dX1_begin_10 (i := 0) rfl rfl ?_
  refine z_aload_n (pc := 11) (x := a0) C dX1_begin_11 (i := 0) rfl rfl ?_
  refine z_get (pc := 12) (v := .ref a1) C 0 dX1_begin_12 fl_RX1_38 rfl rfl ?_
  refine z_get (pc := 15) (v := .int (s1.1 5)) C 9 dX1_begin_15 fl_RX1_71 rfl rfl ?_
  replace h := znm_e h
  obtain ⟨y1, hy1, h⟩ := h
  refine z_wsE (ws' := (wX1 g a0 r0 a1 y1 ++ wX5 g a1 r1 s1)) (by rw [hy1]) ?_
  refine z_put (pc := 18) C 0 dX1_begin_18 fp_RX1_46 rfl rfl rfl (zlt_b rfl) (ws' := (wX1 g a0 r0 a1 (si y1 2 (s1.1 5)) ++ wX5 g a1 r1 s1)) rfl ?_
  refine z_aload_n (pc := 21) (x := a0) C dX1_begin_21 (i := 0) rfl rfl ?_
  refine z_aload_n (pc := 22) (x := a0) C dX1_begin_22 (i := 0) rfl rfl ?_
  refine z_get (pc := 23) (v := .ref a1) C 0 dX1_begin_23 fl_RX1_38 rfl rfl ?_
  refine z_get (pc := 26) (v := .int (s1.1 6)) C 9 dX1_begin_26 fl_RX1_74 rfl rfl ?_
  replace h := znm_e h
  obtain ⟨y2, hy2, h⟩ := h
  refine z_wsE (ws' := (wX1 g a0 r0 a1 y2 ++ wX5 g a1 r1 s1)) (by rw [hy2]) ?_
  refine z_put (pc := 29) C 0 dX1_begin_29 fp_RX1_49 rfl rfl rfl (zlt_b rfl) (ws' := (wX1 g a0 r0 a1 (si y2 3 (s1.1 6)) ++ wX5 g a1 r1 s1)) rfl ?_
  refine z_aload_n (pc := 32) (x := a0) C dX1_begin_32 (i := 0) rfl rfl ?_
  refine z_iconst (pc := 33) C dX1_begin_33 ic_0 ?_
  replace h := znm_e h
  obtain ⟨y3, hy3, h⟩ := h
  refine z_wsE (ws' := (wX1 g a0 r0 a1 y3 ++ wX5 g a1 r1 s1)) (by rw [hy3]) ?_
  refine z_put (pc := 34) C 0 dX1_begin_34 fp_RX1_52 rfl rfl rfl (zlt_b rfl) (ws' := (wX1 g a0 r0 a1 (si y3 4 (0 : Int32)) ++ wX5 g a1 r1 s1)) rfl ?_
  refine z_aload_n (pc := 37) (x := a0) C dX1_begin_37 (i := 0) rfl rfl ?_
  refine z_iconst (pc := 38) C dX1_begin_38 ic_0 ?_
  replace h := znm_e h
  obtain ⟨y4, hy4, h⟩ := h
  refine z_wsE (ws' := (wX1 g a0 r0 a1 y4 ++ wX5 g a1 r1 s1)) (by rw [hy4]) ?_
  refine z_put (pc := 39) C 0 dX1_begin_39 fp_RX1_55 rfl rfl rfl (zlt_b rfl) (ws' := (wX1 g a0 r0 a1 (si y4 5 (0 : Int32)) ++ wX5 g a1 r1 s1)) rfl ?_
  refine z_aload_n (pc := 42) (x := a0) C dX1_begin_42 (i := 0) rfl rfl ?_
  refine z_lconst (pc := 43) (v := (0 : Int64)) C dX1_begin_43 rfl ?_
  replace h := znm_e h
  obtain ⟨y5, hy5, h⟩ := h
  refine z_wsE (ws' := (wX1 g a0 r0 a1 y5 ++ wX5 g a1 r1 s1)) (by rw [hy5]) ?_
  refine z_put (pc := 44) C 0 dX1_begin_44 fp_RX1_61 rfl rfl rfl (zlt_b rfl) (ws' := (wX1 g a0 r0 a1 (sl y5 8 (0 : Int64)) ++ wX5 g a1 r1 s1)) rfl ?_
  refine z_aload_n (pc := 47) (x := a0) C dX1_begin_47 (i := 0) rfl rfl ?_
  refine z_get (pc := 48) (v := .ref (r0 7)) C 0 dX1_begin_48 fl_RX1_11 rfl rfl ?_
  refine z_iconst (pc := 51) C dX1_begin_51 ic_0 ?_
  replace h := znm_e h
  obtain ⟨y6, hy6, h⟩ := h
  refine z_wsE (ws' := (wX1 g a0 r0 a1 y6 ++ wX5 g a1 r1 s1)) (by rw [hy6]) ?_
  replace h := ob_e h
  obtain ⟨x7, hx7, h⟩ := h
  refine z_callS (pc := 52) (As := [.ref (r0 7), .int (0 : Int32)]) (rest := []) (wr := (((wX1 g a0 r0 a1 y6).eraseIdx 1) ++ wX5 g a1 r1 s1)) C dX1_begin_52 ml_RX1_77 wt_J7_fill_53178 (m_J7_fill_53178 (a0 := (r0 7)) hg hx7) [1] [0, 2, 3, 4, 5, 6, 7, 8, 9, 10, 11, 12] rfl rfl ⟨by decide, by decide⟩ (Nat.le_of_ble_eq_true rfl) ⟨by decide, by decide⟩ rfl rfl rfl rfl (by decide) (ex_k C (cs' := 0) (ss' := 0) (wF := (wX1 g a0 r0 a1 (sa y6 7 x7) ++ wX5 g a1 r1 s1)) [0, 12, 1, 2, 3, 4, 5, 6, 7, 8, 9, 10, 11] rfl rfl ?_)
  refine z_aload_n (pc := 55) (x := a0) C dX1_begin_55 (i := 0) rfl rfl ?_
  refine z_get (pc := 56) (v := .ref (r0 10)) C 0 dX1_begin_56 fl_RX1_18 rfl rfl ?_
  refine z_iconst (pc := 59) C dX1_begin_59 ic_0 ?_
  replace h := znm_e h
  obtain ⟨y8, hy8, h⟩ := h
  refine z_wsE (ws' := (wX1 g a0 r0 a1 y8 ++ wX5 g a1 r1 s1)) (by rw [hy8]) ?_
  replace h := ob_e h
  obtain ⟨x9, hx9, h⟩ := h
  refine z_callS (pc := 60) (As := [.ref (r0 10), .int (0 : Int32)]) (rest := []) (wr := (((wX1 g a0 r0 a1 y8).eraseIdx 3) ++ wX5 g a1 r1 s1)) C dX1_begin_60 ml_RX1_77 wt_J7_fill_53178 (m_J7_fill_53178 (a0 := (r0 10)) hg hx9) [3] [0, 1, 2, 4, 5, 6, 7, 8, 9, 10, 11, 12] rfl rfl ⟨by decide, by decide⟩ (Nat.le_of_ble_eq_true rfl) ⟨by decide, by decide⟩ rfl rfl rfl rfl (by decide) (ex_k C (cs' := 0) (ss' := 0) (wF := (wX1 g a0 r0 a1 (sa y8 10 x9) ++ wX5 g a1 r1 s1)) [0, 1, 2, 12, 3, 4, 5, 6, 7, 8, 9, 10, 11] rfl rfl ?_)
  refine z_aload_n (pc := 63) (x := a0) C dX1_begin_63 (i := 0) rfl rfl ?_
  refine z_get (pc := 64) (v := .ref (r0 11)) C 0 dX1_begin_64 fl_RX1_21 rfl rfl ?_
  refine z_iconst (pc := 67) C dX1_begin_67 ic_0 ?_
  replace h := znm_e h
  obtain ⟨y10, hy10, h⟩ := h
  refine z_wsE (ws' := (wX1 g a0 r0 a1 y10 ++ wX5 g a1 r1 s1)) (by rw [hy10]) ?_
  replace h := ob_e h
  obtain ⟨x11, hx11, h⟩ := h
  refine z_callS (pc := 68) (As := [.ref (r0 11), .int (0 : Int32)]) (rest := []) (wr := (((wX1 g a0 r0 a1 y10).eraseIdx 4) ++ wX5 g a1 r1 s1)) C dX1_begin_68 ml_RX1_77 wt_J7_fill_53178 (m_J7_fill_53178 (a0 := (r0 11)) hg hx11) [4] [0, 1, 2, 3, 5, 6, 7, 8, 9, 10, 11, 12] rfl rfl ⟨by decide, by decide⟩ (Nat.le_of_ble_eq_true rfl) ⟨by decide, by decide⟩ rfl rfl rfl rfl (by decide) (ex_k C (cs' := 0) (ss' := 0) (wF := (wX1 g a0 r0 a1 (sa y10 11 x11) ++ wX5 g a1 r1 s1)) [0, 1, 2, 3, 12, 4, 5, 6, 7, 8, 9, 10, 11] rfl rfl ?_)
  refine z_aload_n (pc := 71) (x := a0) C dX1_begin_71 (i := 0) rfl rfl ?_
  refine z_get (pc := 72) (v := .ref (r0 12)) C 0 dX1_begin_72 fl_RX1_24 rfl rfl ?_
  refine z_iconst (pc := 75) C dX1_begin_75 ic_0 ?_
  replace h := znm_e h
  obtain ⟨y12, hy12, h⟩ := h
  refine z_wsE (ws' := (wX1 g a0 r0 a1 y12 ++ wX5 g a1 r1 s1)) (by rw [hy12]) ?_
  replace h := ob_e h
  obtain ⟨x13, hx13, h⟩ := h
  refine z_callS (pc := 76) (As := [.ref (r0 12), .int (0 : Int32)]) (rest := []) (wr := (((wX1 g a0 r0 a1 y12).eraseIdx 5) ++ wX5 g a1 r1 s1)) C dX1_begin_76 ml_RX1_77 wt_J7_fill_53178 (m_J7_fill_53178 (a0 := (r0 12)) hg hx13) [5] [0, 1, 2, 3, 4, 6, 7, 8, 9, 10, 11, 12] rfl rfl ⟨by decide, by decide⟩ (Nat.le_of_ble_eq_true rfl) ⟨by decide, by decide⟩ rfl rfl rfl rfl (by decide) (ex_k C (cs' := 0) (ss' := 0) (wF := (wX1 g a0 r0 a1 (sa y12 12 x13) ++ wX5 g a1 r1 s1)) [0, 1, 2, 3, 4, 12, 5, 6, 7, 8, 9, 10, 11] rfl rfl ?_)
  refine z_aload_n (pc := 79) (x := a0) C dX1_begin_79 (i := 0) rfl rfl ?_
  refine z_get (pc := 80) (v := .ref (r0 14)) C 0 dX1_begin_80 fl_RX1_32 rfl rfl ?_
  refine z_aload_n (pc := 83) (x := a0) C dX1_begin_83 (i := 0) rfl rfl ?_
  refine z_get (pc := 84) (v := .ref a1) C 0 dX1_begin_84 fl_RX1_38 rfl rfl ?_
  replace h := ob_e h
  obtain ⟨x14, hx14, h⟩ := h
  refine z_callV (pc := 87) (As := []) (rest := [.ref (r0 14)]) (wr := (wX1 g a0 r0 a1 (sa y12 12 x13))) C dX1_begin_87 ml_RX1_83 wv_X5_allKinds (m_X5_allKinds (a0 := a1) (r0 := r1) hg hx14) [9, 10, 11, 12] [0, 1, 2, 3, 4, 5, 6, 7, 8] rfl rfl ⟨by decide, by decide⟩ (Nat.le_of_ble_eq_true rfl) ⟨by decide, by decide⟩ rfl rfl rfl rfl rfl rfl rfl (by decide) (ex_k C (cs' := 0) (ss' := 0) (wF := (wX1 g a0 r0 a1 (sa y12 12 x13) ++ wX5 g a1 r1 s1)) [0, 1, 2, 3, 4, 5, 6, 7, 8, 9, 10, 11, 12] rfl rfl ?_)
  replace h := znm_e h
  obtain ⟨y15, hy15, h⟩ := h
  refine z_wsE (ws' := (wX1 g a0 r0 a1 y15 ++ wX5 g a1 r1 s1)) (by rw [hy15]) ?_
  replace h := ob_e h
  obtain ⟨x16, hx16, h⟩ := h
  refine z_callS (pc := 90) (As := [.ref (r0 14), .int x14]) (rest := []) (wr := (((wX1 g a0 r0 a1 y15).eraseIdx 7) ++ wX5 g a1 r1 s1)) C dX1_begin_90 ml_RX1_77 wt_J7_fill_53178 (m_J7_fill_53178 (a0 := (r0 14)) hg hx16) [7] [0, 1, 2, 3, 4, 5, 6, 8, 9, 10, 11, 12] rfl rfl ⟨by decide, by decide⟩ (Nat.le_of_ble_eq_true rfl) ⟨by decide, by decide⟩ rfl rfl rfl rfl (by decide) (ex_k C (cs' := 0) (ss' := 0) (wF := (wX1 g a0 r0 a1 (sa y15 14 x16) ++ wX5 g a1 r1 s1)) [0, 1, 2, 3, 4, 5, 6, 12, 7, 8, 9, 10, 11] rfl rfl ?_)
  refine z_aload_n (pc := 93) (x := a0) C dX1_begin_93 (i := 0) rfl rfl ?_
  refine z_get (pc := 94) (v := .ref a1) C 0 dX1_begin_94 fl_RX1_38 rfl rfl ?_
  refine z_get (pc := 97) (v := .ref (r1 10)) C 9 dX1_begin_97 fl_RX1_87 rfl rfl ?_
  refine z_iconst (pc := 100) C dX1_begin_100 ic_0 ?_
  refine z_aload_n (pc := 101) (x := a0) C dX1_begin_101 (i := 0) rfl rfl ?_
  refine z_get (pc := 102) (v := .ref (r0 13)) C 0 dX1_begin_102 fl_RX1_29 rfl rfl ?_
  refine z_iconst (pc := 105) C dX1_begin_105 ic_0 ?_
  refine z_bipush (pc := 106) C dX1_begin_106 bp_9 ?_
  replace h := znm_e h
  obtain ⟨y17, hy17, h⟩ := h
  refine z_wsE (ws' := (wX1 g a0 r0 a1 y17 ++ wX5 g a1 r1 s1)) (by rw [hy17]) ?_
  refine z_copyi (pc := 108) C 12 6 dX1_begin_108 wc_RX1_65 rfl rfl (by decide) (by decide) (by decide) (by decide) (by decide) (by decide) (Nat.le_of_ble_eq_true rfl) (ws' := (wX1 g a0 r0 a1 (sa y17 13 (va_cpy (s1.2.2.1 10) (y17.2.2.1 13) 0 0 9)) ++ wX5 g a1 r1 s1)) rfl ?_
  refine z_iconst (pc := 111) C dX1_begin_111 ic_0 ?_
  refine z_istore_n (pc := 112) C dX1_begin_112 (i := 2) rfl (by decide) (lv' := [(2, .int (0 : Int32)), (0, .ref a0), (1, .ref a1)]) rfl ?_
  refine z_lv (lv' := [(0, .ref a0), (2, .int (0 : Int32))]) [1, 0] rfl ?_
  exact m_X1_begin_113 (a0 := a0) (a1 := a1) (r0 := r0) (q0_0 := q0_0) (r1 := r1) hg C X N (0 : Int32) (sa y17 13 (va_cpy (s1.2.2.1 10) (y17.2.2.1 13) 0 0 9)) h
def F_X1_score_4 (N : Nat) (s0 : Ob)  (k4 : Int32 → Int32 → Option (Int32)) (v1 : Int32) (v2 : Int32) : Option (Int32) := (if (4 : Int32) ≤ v2 then (some v1) else (chk (inb v2 4) (k4 (v1 + ((s0.2.2.1 11) (v2).toNatClampNeg)) (v2 + (1 : Int32)))))
def f_X1_score_4 (N : Nat) (s0 : Ob)  : Nat → Int32 → Int32 → Option (Int32) := zlp (fun _ _ => none) (F_X1_score_4 N s0)
theorem m_X1_score_4 {K : Kt} {g : Gp} {a0 : Nat} {r0 : Nat → Nat} {q0_0 : Nat} {N : Nat} {s0 : Ob} {res : Int32} (hg : Ok g) (C : Cx K g cX1_score RX1 3 (zrm 0 0)) (X : Rx K (exR (some (.int res)) (wX1 g a0 r0 q0_0 s0)) 0 0 (some .int)) : ∀ (n : Nat) (v1 : Int32) (v2 : Int32), f_X1_score_4 N s0 n v1 v2 = some res → Zs K 0 0 (wX1 g a0 r0 q0_0 s0) [(0, .ref a0), (1, .int v1), (2, .int v2)] 4 [] := by
  intro n
  induction n with
  | zero => intro v1 v2 h; exact nomatch (show (none : Option (Int32)) = some res from h)
  | succ n hk4 =>
    intro v1 v2 h
    replace h : F_X1_score_4 N s0 (f_X1_score_4 N s0 n) v1 v2 = some res := h
    unfold F_X1_score_4 at h
    refine z_iload_n (pc := 4) (x := v2) C dX1_score_4 (i := 2) rfl rfl ?_
    refine z_iconst (pc := 5) C dX1_score_5 ic_4 ?_
    refine z_icmp_ge (pc := 6) C dX1_score_6 (tgt := 24) (by decide) (fun hc => ?_) (fun hc => ?_)
    · replace h := (ite_e h).1 hc
      refine z_iload_n (pc := 24) (x := v1) C dX1_score_24 (i := 1) rfl rfl ?_
      exact z_iret C X dX1_score_25 (by rw [← Option.some.inj h]; exact ⟨rfl, rfl⟩) (by decide) (by decide)
    · replace h := (ite_e h).2 hc
      refine z_iload_n (pc := 9) (x := v1) C dX1_score_9 (i := 1) rfl rfl ?_
      refine z_aload_n (pc := 10) (x := a0) C dX1_score_10 (i := 0) rfl rfl ?_
      refine z_get (pc := 11) (v := .ref (r0 11)) C 0 dX1_score_11 fl_RX1_21 rfl rfl ?_
      refine z_iload_n (pc := 14) (x := v2) C dX1_score_14 (i := 2) rfl rfl ?_
      replace h := chk_e h
      obtain ⟨hb1, h⟩ := h
      refine z_iald (pc := 15) C 4 dX1_score_15 rfl hb1 ?_
      refine z_iadd (pc := 16) C dX1_score_16 ?_
      refine z_istore_n (pc := 17) C dX1_score_17 (i := 1) rfl (by decide) (lv' := [(1, .int (v1 + ((s0.2.2.1 11) (v2).toNatClampNeg))), (0, .ref a0), (2, .int v2)]) rfl ?_
      refine z_iinc (pc := 18) C dX1_score_18 rfl (inc_e 1 (1 : Int32) ic_1 v2) (by decide) (lv' := [(2, .int (v2 + (1 : Int32))), (1, .int (v1 + ((s0.2.2.1 11) (v2).toNatClampNeg))), (0, .ref a0)]) rfl ?_
      refine z_goto (pc := 21) C dX1_score_21 (tgt := 4) (by decide) ?_
      refine z_lv (lv' := [(0, .ref a0), (1, .int (v1 + ((s0.2.2.1 11) (v2).toNatClampNeg))), (2, .int (v2 + (1 : Int32)))]) [2, 1, 0] rfl ?_
      exact hk4 (v1 + ((s0.2.2.1 11) (v2).toNatClampNeg)) (v2 + (1 : Int32)) h
def f_X1_score (N : Nat) (s0 : Ob) : Option (Int32) := (f_X1_score_4 N s0 N (0 : Int32) (0 : Int32))
theorem m_X1_score {g : Gp} {a0 : Nat} {r0 : Nat → Nat} {q0_0 : Nat} {N : Nat} {s0 : Ob} {res : Int32} (hg : Ok g) (h : f_X1_score N s0 = some res) : Ct g yX1_score cX1_score 3 (some .int) (zrm 0 0) [.ref a0] (wX1 g a0 r0 q0_0 s0) (exR (some (.int res)) (wX1 g a0 r0 q0_0 s0)) := by
  refine ct_of rfl hg (by show _ ≤ _; exact Nat.le_of_ble_eq_true rfl) (fun K C X => ?_)
  show Zs K 0 0 (wX1 g a0 r0 q0_0 s0) [(0, .ref a0)] 0 []
  unfold f_X1_score at h
  refine z_iconst (pc := 0) C dX1_score_0 ic_0 ?_
  refine z_istore_n (pc := 1) C dX1_score_1 (i := 1) rfl (by decide) (lv' := [(1, .int (0 : Int32)), (0, .ref a0)]) rfl ?_
  refine z_iconst (pc := 2) C dX1_score_2 ic_0 ?_
  refine z_istore_n (pc := 3) C dX1_score_3 (i := 2) rfl (by decide) (lv' := [(2, .int (0 : Int32)), (1, .int (0 : Int32)), (0, .ref a0)]) rfl ?_
  refine z_lv (lv' := [(0, .ref a0), (1, .int (0 : Int32)), (2, .int (0 : Int32))]) [2, 1, 0] rfl ?_
  exact m_X1_score_4 (a0 := a0) (r0 := r0) (q0_0 := q0_0) hg C X N (0 : Int32) (0 : Int32) h
def f_X1_ending (N : Nat) (s0 : Ob) (s1 : Ob) : Option (Int32) := (if (s1.1 2) = 0 then (some (3 : Int32)) else (if 0 < (s0.1 3) then (ob (f_X1_score N s0) fun x1 => (if x1 < ((s1.1 0) * (s1.1 1)) then (if (s0.1 6) = 0 then (some (3 : Int32)) else (some (0 : Int32))) else (some (2 : Int32)))) else (some (1 : Int32))))
theorem m_X1_ending {g : Gp} {a0 : Nat} {r0 : Nat → Nat} {q0_0 : Nat} {r1 : Nat → Nat} {N : Nat} {s0 : Ob} {s1 : Ob} {res : Int32} (hg : Ok g) (h : f_X1_ending N s0 s1 = some res) : Ct g yX1_ending cX1_ending 1 (some .int) (zrm 1 22) [.ref a0] (wX1 g a0 r0 q0_0 s0 ++ wX5 g q0_0 r1 s1) (exR (some (.int res)) (wX1 g a0 r0 q0_0 s0 ++ wX5 g q0_0 r1 s1)) := by
  refine ct_of rfl hg (by show _ ≤ _; exact Nat.le_of_ble_eq_true rfl) (fun K C X => ?_)
  show Zs K 0 0 (wX1 g a0 r0 q0_0 s0 ++ wX5 g q0_0 r1 s1) [(0, .ref a0)] 0 []
  unfold f_X1_ending at h
  refine z_aload_n (pc := 0) (x := a0) C dX1_ending_0 (i := 0) rfl rfl ?_
  refine z_get (pc := 1) (v := .ref q0_0) C 0 dX1_ending_1 fl_RX1_38 rfl rfl ?_
  refine z_get (pc := 4) (v := .int (s1.1 2)) C 9 dX1_ending_4 fl_RX1_88 rfl rfl ?_
  refine z_if_ne (pc := 7) C dX1_ending_7 (tgt := 12) (by decide) (fun hc => ?_) (fun hc => ?_)
  · replace h := (ite_e h).2 hc
    refine z_aload_n (pc := 12) (x := a0) C dX1_ending_12 (i := 0) rfl rfl ?_
    refine z_get (pc := 13) (v := .int (s0.1 3)) C 0 dX1_ending_13 fl_RX1_49 rfl rfl ?_
    refine z_if_gt (pc := 16) C dX1_ending_16 (tgt := 21) (by decide) (fun hc => ?_) (fun hc => ?_)
    · replace h := (ite_e h).1 hc
      refine z_aload_n (pc := 21) (x := a0) C dX1_ending_21 (i := 0) rfl rfl ?_
      replace h := ob_e h
      obtain ⟨x1, hx1, h⟩ := h
      refine z_callV (pc := 22) (As := []) (rest := []) (wr := (wX5 g q0_0 r1 s1)) C dX1_ending_22 ml_RX1_101 wv_X1_score (m_X1_score (a0 := a0) (r0 := r0) (q0_0 := q0_0) hg hx1) [0, 1, 2, 3, 4, 5, 6, 7, 8] [9, 10, 11, 12] rfl rfl ⟨by decide, by decide⟩ (Nat.le_of_ble_eq_true rfl) ⟨by decide, by decide⟩ rfl rfl rfl rfl rfl rfl rfl (by decide) (ex_k C (cs' := 0) (ss' := 0) (wF := (wX1 g a0 r0 q0_0 s0 ++ wX5 g q0_0 r1 s1)) [4, 5, 6, 7, 8, 9, 10, 11, 12, 0, 1, 2, 3] rfl rfl ?_)
      refine z_aload_n (pc := 25) (x := a0) C dX1_ending_25 (i := 0) rfl rfl ?_
      refine z_get (pc := 26) (v := .ref q0_0) C 0 dX1_ending_26 fl_RX1_38 rfl rfl ?_
      refine z_get (pc := 29) (v := .int (s1.1 0)) C 9 dX1_ending_29 fl_RX1_104 rfl rfl ?_
      refine z_aload_n (pc := 32) (x := a0) C dX1_ending_32 (i := 0) rfl rfl ?_
      refine z_get (pc := 33) (v := .ref q0_0) C 0 dX1_ending_33 fl_RX1_38 rfl rfl ?_
      refine z_get (pc := 36) (v := .int (s1.1 1)) C 9 dX1_ending_36 fl_RX1_107 rfl rfl ?_
      refine z_imul (pc := 39) C dX1_ending_39 ?_
      refine z_icmp_lt (pc := 40) C dX1_ending_40 (tgt := 45) (by decide) (fun hc => ?_) (fun hc => ?_)
      · replace h := (ite_e h).1 hc
        refine z_aload_n (pc := 45) (x := a0) C dX1_ending_45 (i := 0) rfl rfl ?_
        refine z_get (pc := 46) (v := .int (s0.1 6)) C 0 dX1_ending_46 fl_RX1_58 rfl rfl ?_
        refine z_if_ne (pc := 49) C dX1_ending_49 (tgt := 56) (by decide) (fun hc => ?_) (fun hc => ?_)
        · replace h := (ite_e h).2 hc
          refine z_iconst (pc := 56) C dX1_ending_56 ic_0 ?_
          exact z_iret C X dX1_ending_57 (by rw [← Option.some.inj h]; exact ⟨rfl, rfl⟩) (by decide) (by decide)
        · replace h := (ite_e h).1 hc
          refine z_iconst (pc := 52) C dX1_ending_52 ic_3 ?_
          refine z_goto (pc := 53) C dX1_ending_53 (tgt := 57) (by decide) ?_
          exact z_iret C X dX1_ending_57 (by rw [← Option.some.inj h]; exact ⟨rfl, rfl⟩) (by decide) (by decide)
      · replace h := (ite_e h).2 hc
        refine z_iconst (pc := 43) C dX1_ending_43 ic_2 ?_
        exact z_iret C X dX1_ending_44 (by rw [← Option.some.inj h]; exact ⟨rfl, rfl⟩) (by decide) (by decide)
    · replace h := (ite_e h).2 hc
      refine z_iconst (pc := 19) C dX1_ending_19 ic_1 ?_
      exact z_iret C X dX1_ending_20 (by rw [← Option.some.inj h]; exact ⟨rfl, rfl⟩) (by decide) (by decide)
  · replace h := (ite_e h).1 hc
    refine z_iconst (pc := 10) C dX1_ending_10 ic_3 ?_
    exact z_iret C X dX1_ending_11 (by rw [← Option.some.inj h]; exact ⟨rfl, rfl⟩) (by decide) (by decide)
def f_X1_isEnded (N : Nat) (s0 : Ob) (s1 : Ob) : Option (Int32) := (ob (f_X1_ending N s0 s1) fun x1 => (if x1 = 0 then (some (0 : Int32)) else (some (1 : Int32))))
theorem m_X1_isEnded {g : Gp} {a0 : Nat} {r0 : Nat → Nat} {q0_0 : Nat} {r1 : Nat → Nat} {N : Nat} {s0 : Ob} {s1 : Ob} {res : Int32} (hg : Ok g) (h : f_X1_isEnded N s0 s1 = some res) : Ct g yX1_isEnded cX1_isEnded 1 (some .boolean) (zrm 2 42) [.ref a0] (wX1 g a0 r0 q0_0 s0 ++ wX5 g q0_0 r1 s1) (exR (some (.int res)) (wX1 g a0 r0 q0_0 s0 ++ wX5 g q0_0 r1 s1)) := by
  refine ct_of rfl hg (by show _ ≤ _; exact Nat.le_of_ble_eq_true rfl) (fun K C X => ?_)
  show Zs K 0 0 (wX1 g a0 r0 q0_0 s0 ++ wX5 g q0_0 r1 s1) [(0, .ref a0)] 0 []
  unfold f_X1_isEnded at h
  refine z_aload_n (pc := 0) (x := a0) C dX1_isEnded_0 (i := 0) rfl rfl ?_
  replace h := ob_e h
  obtain ⟨x1, hx1, h⟩ := h
  refine z_callV (pc := 1) (As := []) (rest := []) (wr := ([] : va_W)) C dX1_isEnded_1 ml_RX1_110 wv_X1_ending (m_X1_ending (a0 := a0) (r0 := r0) (q0_0 := q0_0) (r1 := r1) hg hx1) [0, 1, 2, 3, 4, 5, 6, 7, 8, 9, 10, 11, 12] [] rfl rfl ⟨by decide, by decide⟩ (Nat.le_of_ble_eq_true rfl) ⟨by decide, by decide⟩ rfl rfl rfl rfl rfl rfl rfl (by decide) (ex_k C (cs' := 0) (ss' := 0) (wF := (wX1 g a0 r0 q0_0 s0 ++ wX5 g q0_0 r1 s1)) [0, 1, 2, 3, 4, 5, 6, 7, 8, 9, 10, 11, 12] rfl rfl ?_)
  refine z_if_eq (pc := 4) C dX1_isEnded_4 (tgt := 11) (by decide) (fun hc => ?_) (fun hc => ?_)
  · replace h := (ite_e h).1 hc
    refine z_iconst (pc := 11) C dX1_isEnded_11 ic_0 ?_
    exact z_zret C X dX1_isEnded_12 rfl (by rw [← Option.some.inj h]; exact ⟨rfl, rfl⟩) (by decide) (by decide)
  · replace h := (ite_e h).2 hc
    refine z_iconst (pc := 7) C dX1_isEnded_7 ic_1 ?_
    refine z_goto (pc := 8) C dX1_isEnded_8 (tgt := 12) (by decide) ?_
    exact z_zret C X dX1_isEnded_12 rfl (by rw [← Option.some.inj h]; exact ⟨rfl, rfl⟩) (by decide) (by decide)
def f_X1_loggedPart (N : Nat) (s0 : Ob) (p1 : Int32) (p2 : Int32) : Option (Int32) := (if p1 < 0 then (some (-1000 : Int32)) else (if (30 : Int32) ≤ p1 then (some (-1000 : Int32)) else (if p1 < (s0.1 5) then (znm ((((s0.1 5) - (1 : Int32)) - p1) - (((s0.1 5) - (1 : Int32)) - p1) / (30 : Int32) * (30 : Int32)) fun x1 => (chk (inb ((x1 * (4 : Int32)) + p2) 120) (some ((s0.2.2.1 15) (((x1 * (4 : Int32)) + p2)).toNatClampNeg)))) else (some (-1000 : Int32)))))
theorem m_X1_loggedPart {g : Gp} {a0 : Nat} {r0 : Nat → Nat} {q0_0 : Nat} {N : Nat} {s0 : Ob} {p1 : Int32} {p2 : Int32} {res : Int32} (hg : Ok g) (h : f_X1_loggedPart N s0 p1 p2 = some res) : Ct g yX1_loggedPart cX1_loggedPart 3 (some .int) (zrm 0 0) [.ref a0, .int p1, .int p2] (wX1 g a0 r0 q0_0 s0) (exR (some (.int res)) (wX1 g a0 r0 q0_0 s0)) := by
  refine ct_of rfl hg (by show _ ≤ _; exact Nat.le_of_ble_eq_true rfl) (fun K C X => ?_)
  show Zs K 0 0 (wX1 g a0 r0 q0_0 s0) [(0, .ref a0), (1, .int p1), (2, .int p2)] 0 []
  unfold f_X1_loggedPart at h
  refine z_iload_n (pc := 0) (x := p1) C dX1_loggedPart_0 (i := 1) rfl rfl ?_
  refine z_if_lt (pc := 1) C dX1_loggedPart_1 (tgt := 18) (by decide) (fun hc => ?_) (fun hc => ?_)
  · replace h := (ite_e h).1 hc
    refine z_sipush (pc := 18) C dX1_loggedPart_18 sp_m1000 ?_
    exact z_iret C X dX1_loggedPart_21 (by rw [← Option.some.inj h]; exact ⟨rfl, rfl⟩) (by decide) (by decide)
  · replace h := (ite_e h).2 hc
    refine z_iload_n (pc := 4) (x := p1) C dX1_loggedPart_4 (i := 1) rfl rfl ?_
    refine z_bipush (pc := 5) C dX1_loggedPart_5 bp_30 ?_
    refine z_icmp_ge (pc := 7) C dX1_loggedPart_7 (tgt := 18) (by decide) (fun hc => ?_) (fun hc => ?_)
    · replace h := (ite_e h).1 hc
      refine z_sipush (pc := 18) C dX1_loggedPart_18 sp_m1000 ?_
      exact z_iret C X dX1_loggedPart_21 (by rw [← Option.some.inj h]; exact ⟨rfl, rfl⟩) (by decide) (by decide)
    · replace h := (ite_e h).2 hc
      refine z_iload_n (pc := 10) (x := p1) C dX1_loggedPart_10 (i := 1) rfl rfl ?_
      refine z_aload_n (pc := 11) (x := a0) C dX1_loggedPart_11 (i := 0) rfl rfl ?_
      refine z_get (pc := 12) (v := .int (s0.1 5)) C 0 dX1_loggedPart_12 fl_RX1_55 rfl rfl ?_
      refine z_icmp_lt (pc := 15) C dX1_loggedPart_15 (tgt := 22) (by decide) (fun hc => ?_) (fun hc => ?_)
      · replace h := (ite_e h).1 hc
        refine z_aload_n (pc := 22) (x := a0) C dX1_loggedPart_22 (i := 0) rfl rfl ?_
        refine z_get (pc := 23) (v := .ref (r0 15)) C 0 dX1_loggedPart_23 fl_RX1_35 rfl rfl ?_
        refine z_aload_n (pc := 26) (x := a0) C dX1_loggedPart_26 (i := 0) rfl rfl ?_
        refine z_get (pc := 27) (v := .int (s0.1 5)) C 0 dX1_loggedPart_27 fl_RX1_55 rfl rfl ?_
        refine z_iconst (pc := 30) C dX1_loggedPart_30 ic_1 ?_
        refine z_isub (pc := 31) C dX1_loggedPart_31 ?_
        refine z_iload_n (pc := 32) (x := p1) C dX1_loggedPart_32 (i := 1) rfl rfl ?_
        refine z_isub (pc := 33) C dX1_loggedPart_33 ?_
        refine z_bipush (pc := 34) C dX1_loggedPart_34 bp_30 ?_
        refine z_irem (pc := 36) C dX1_loggedPart_36 (by decide) ?_
        replace h := znm_e h
        obtain ⟨x1, hx1, h⟩ := h
        refine z_top1 hx1 ?_
        refine z_iconst (pc := 37) C dX1_loggedPart_37 ic_4 ?_
        refine z_imul (pc := 38) C dX1_loggedPart_38 ?_
        refine z_iload_n (pc := 39) (x := p2) C dX1_loggedPart_39 (i := 2) rfl rfl ?_
        refine z_iadd (pc := 40) C dX1_loggedPart_40 ?_
        replace h := chk_e h
        obtain ⟨hb2, h⟩ := h
        refine z_iald (pc := 41) C 8 dX1_loggedPart_41 rfl hb2 ?_
        exact z_iret C X dX1_loggedPart_42 (by rw [← Option.some.inj h]; exact ⟨rfl, rfl⟩) (by decide) (by decide)
      · replace h := (ite_e h).2 hc
        refine z_sipush (pc := 18) C dX1_loggedPart_18 sp_m1000 ?_
        exact z_iret C X dX1_loggedPart_21 (by rw [← Option.some.inj h]; exact ⟨rfl, rfl⟩) (by decide) (by decide)
def f_X3_copyFrom (N : Nat) (s0 : Ob) (s1 : Ob) : Option (Ob) := (znm (si s0 3 (s1.1 3)) fun y1 => (znm (si y1 4 (s1.1 4)) fun y2 => (znm (si y2 5 (s1.1 5)) fun y3 => (znm (si y3 6 (s1.1 6)) fun y4 => (znm (sb y4 1 (va_cpy (s1.2.2.2 1) (y4.2.2.2 1) 0 0 4)) fun y5 => (some (sa y5 2 (va_cpy (s1.2.2.1 2) (y5.2.2.1 2) 0 0 4))))))))
theorem m_X3_copyFrom {g : Gp} {a0 : Nat} {a1 : Nat} {r0 : Nat → Nat} {q0_0 : Nat} {r1 : Nat → Nat} {q1_0 : Nat} {N : Nat} {s0 : Ob} {s1 : Ob} {res : Ob} (hg : Ok g) (h : f_X3_copyFrom N s0 s1 = some res) : Ct g yX3_copyFrom cX3_copyFrom 2 none (zrm 1 18) [.ref a0, .ref a1] (wX3 g a0 r0 q0_0 s0 ++ wX3 g a1 r1 q1_0 s1) (exR none (wX3 g a0 r0 q0_0 res ++ wX3 g a1 r1 q1_0 s1)) := by
  refine ct_of rfl hg (by show _ ≤ _; exact Nat.le_of_ble_eq_true rfl) (fun K C X => ?_)
  show Zs K 0 0 (wX3 g a0 r0 q0_0 s0 ++ wX3 g a1 r1 q1_0 s1) [(0, .ref a0), (1, .ref a1)] 0 []
  unfold f_X3_copyFrom at h
  refine z_aload_n (pc := 0) (x := a0) C dX3_copyFrom_0 (i := 0) rfl rfl ?_
  refine z_aload_n (pc := 1) (x := a1) C dX3_copyFrom_1 (i := 1) rfl rfl ?_
  refine z_get (pc := 2) (v := .int (s1.1 3)) C 3 dX3_copyFrom_2 fl_RX3_23 rfl rfl ?_
  refine z_put (pc := 5) C 0 dX3_copyFrom_5 fp_RX3_23 rfl rfl rfl (zlt_b rfl) (ws' := (wX3 g a0 r0 q0_0 (si s0 3 (s1.1 3)) ++ wX3 g a1 r1 q1_0 s1)) rfl ?_
  refine z_aload_n (pc := 8) (x := a0) C dX3_copyFrom_8 (i := 0) rfl rfl ?_
  refine z_aload_n (pc := 9) (x := a1) C dX3_copyFrom_9 (i := 1) rfl rfl ?_
  refine z_get (pc := 10) (v := .int (s1.1 4)) C 3 dX3_copyFrom_10 fl_RX3_27 rfl rfl ?_
  replace h := znm_e h
  obtain ⟨y1, hy1, h⟩ := h
  refine z_wsE (ws' := (wX3 g a0 r0 q0_0 y1 ++ wX3 g a1 r1 q1_0 s1)) (by rw [hy1]) ?_
  refine z_put (pc := 13) C 0 dX3_copyFrom_13 fp_RX3_27 rfl rfl rfl (zlt_b rfl) (ws' := (wX3 g a0 r0 q0_0 (si y1 4 (s1.1 4)) ++ wX3 g a1 r1 q1_0 s1)) rfl ?_
  refine z_aload_n (pc := 16) (x := a0) C dX3_copyFrom_16 (i := 0) rfl rfl ?_
  refine z_aload_n (pc := 17) (x := a1) C dX3_copyFrom_17 (i := 1) rfl rfl ?_
  refine z_get (pc := 18) (v := .int (s1.1 5)) C 3 dX3_copyFrom_18 fl_RX3_30 rfl rfl ?_
  replace h := znm_e h
  obtain ⟨y2, hy2, h⟩ := h
  refine z_wsE (ws' := (wX3 g a0 r0 q0_0 y2 ++ wX3 g a1 r1 q1_0 s1)) (by rw [hy2]) ?_
  refine z_put (pc := 21) C 0 dX3_copyFrom_21 fp_RX3_30 rfl rfl rfl (zlt_b rfl) (ws' := (wX3 g a0 r0 q0_0 (si y2 5 (s1.1 5)) ++ wX3 g a1 r1 q1_0 s1)) rfl ?_
  refine z_aload_n (pc := 24) (x := a0) C dX3_copyFrom_24 (i := 0) rfl rfl ?_
  refine z_aload_n (pc := 25) (x := a1) C dX3_copyFrom_25 (i := 1) rfl rfl ?_
  refine z_get (pc := 26) (v := .int (s1.1 6)) C 3 dX3_copyFrom_26 fl_RX3_33 rfl rfl ?_
  replace h := znm_e h
  obtain ⟨y3, hy3, h⟩ := h
  refine z_wsE (ws' := (wX3 g a0 r0 q0_0 y3 ++ wX3 g a1 r1 q1_0 s1)) (by rw [hy3]) ?_
  refine z_put (pc := 29) C 0 dX3_copyFrom_29 fp_RX3_33 rfl rfl rfl (zlt_b rfl) (ws' := (wX3 g a0 r0 q0_0 (si y3 6 (s1.1 6)) ++ wX3 g a1 r1 q1_0 s1)) rfl ?_
  refine z_aload_n (pc := 32) (x := a1) C dX3_copyFrom_32 (i := 1) rfl rfl ?_
  refine z_get (pc := 33) (v := .ref (r1 1)) C 3 dX3_copyFrom_33 fl_RX3_9 rfl rfl ?_
  refine z_iconst (pc := 36) C dX3_copyFrom_36 ic_0 ?_
  refine z_aload_n (pc := 37) (x := a0) C dX3_copyFrom_37 (i := 0) rfl rfl ?_
  refine z_get (pc := 38) (v := .ref (r0 1)) C 0 dX3_copyFrom_38 fl_RX3_9 rfl rfl ?_
  refine z_iconst (pc := 41) C dX3_copyFrom_41 ic_0 ?_
  refine z_iconst (pc := 42) C dX3_copyFrom_42 ic_4 ?_
  replace h := znm_e h
  obtain ⟨y4, hy4, h⟩ := h
  refine z_wsE (ws' := (wX3 g a0 r0 q0_0 y4 ++ wX3 g a1 r1 q1_0 s1)) (by rw [hy4]) ?_
  refine z_copyl (pc := 43) C 4 1 dX3_copyFrom_43 wc_RX3_36 rfl rfl (by decide) (by decide) (by decide) (by decide) (by decide) (by decide) (Nat.le_of_ble_eq_true rfl) (ws' := (wX3 g a0 r0 q0_0 (sb y4 1 (va_cpy (s1.2.2.2 1) (y4.2.2.2 1) 0 0 4)) ++ wX3 g a1 r1 q1_0 s1)) rfl ?_
  refine z_aload_n (pc := 46) (x := a1) C dX3_copyFrom_46 (i := 1) rfl rfl ?_
  refine z_get (pc := 47) (v := .ref (r1 2)) C 3 dX3_copyFrom_47 fl_RX3_15 rfl rfl ?_
  refine z_iconst (pc := 50) C dX3_copyFrom_50 ic_0 ?_
  refine z_aload_n (pc := 51) (x := a0) C dX3_copyFrom_51 (i := 0) rfl rfl ?_
  refine z_get (pc := 52) (v := .ref (r0 2)) C 0 dX3_copyFrom_52 fl_RX3_15 rfl rfl ?_
  refine z_iconst (pc := 55) C dX3_copyFrom_55 ic_0 ?_
  refine z_iconst (pc := 56) C dX3_copyFrom_56 ic_4 ?_
  replace h := znm_e h
  obtain ⟨y5, hy5, h⟩ := h
  refine z_wsE (ws' := (wX3 g a0 r0 q0_0 y5 ++ wX3 g a1 r1 q1_0 s1)) (by rw [hy5]) ?_
  refine z_copyi (pc := 57) C 5 2 dX3_copyFrom_57 wc_RX3_36 rfl rfl (by decide) (by decide) (by decide) (by decide) (by decide) (by decide) (Nat.le_of_ble_eq_true rfl) (ws' := (wX3 g a0 r0 q0_0 (sa y5 2 (va_cpy (s1.2.2.1 2) (y5.2.2.1 2) 0 0 4)) ++ wX3 g a1 r1 q1_0 s1)) rfl ?_
  exact z_vret C X dX3_copyFrom_60 (by rw [← Option.some.inj h]; exact ⟨rfl, rfl⟩) (by decide) (by decide)
def F_X3_takeFrom_72 (N : Nat) (s1 : Ob) (k58 : Int32 → Ob → Option (Ob)) (k72 : Int32 → Int32 → Ob → Option (Ob)) (v2 : Int32) (v3 : Int32) (s0 : Ob) : Option (Ob) := (ob (f_X1_sizeOf N s1 v2) fun x5 => (if x5 ≤ v3 then (k58 (v2 + (1 : Int32)) s0) else (chk (inb v2 4) (ob (f_X1_cardAt N s1 v2 v3) fun x7 => (znm (((s0.2.2.2 1) (v2).toNatClampNeg) ||| ((1 : Int64) <<< ((x7).toInt64 &&& 63))) fun x8 => (chk (inb v2 4) (k72 v2 (v3 + (1 : Int32)) (sb s0 1 (vp_updL (s0.2.2.2 1) (v2).toNatClampNeg x8)))))))))
def f_X3_takeFrom_72 (N : Nat) (s1 : Ob) (k58 : Int32 → Ob → Option (Ob)) : Nat → Int32 → Int32 → Ob → Option (Ob) := zlp (fun _ _ _ => none) (F_X3_takeFrom_72 N s1 k58)
theorem m_X3_takeFrom_72 {K : Kt} {g : Gp} {a0 : Nat} {a1 : Nat} {r0 : Nat → Nat} {q0_0 : Nat} {r1 : Nat → Nat} {q1_0 : Nat} {N : Nat} {s1 : Ob} {res : Ob} (hg : Ok g) (C : Cx K g cX3_takeFrom RX3 4 (zrm 1 23)) (X : Rx K (exR none (wX3 g a0 r0 q0_0 res ++ wX1 g a1 r1 q1_0 s1)) 0 0 none) {k58 : Int32 → Ob → Option (Ob)} (hk58 : ∀ (v2 : Int32) (s0 : Ob), k58 v2 s0 = some res → Zs K 0 0 (wX3 g a0 r0 q0_0 s0 ++ wX1 g a1 r1 q1_0 s1) [(0, .ref a0), (1, .ref a1), (2, .int v2)] 58 []) : ∀ (n : Nat) (v2 : Int32) (v3 : Int32) (s0 : Ob), f_X3_takeFrom_72 N s1 k58 n v2 v3 s0 = some res → Zs K 0 0 (wX3 g a0 r0 q0_0 s0 ++ wX1 g a1 r1 q1_0 s1) [(0, .ref a0), (1, .ref a1), (2, .int v2), (3, .int v3)] 72 [] := by
  intro n
  induction n with
  | zero => intro v2 v3 s0 h; exact nomatch (show (none : Option (Ob)) = some res from h)
  | succ n hk72 =>
    intro v2 v3 s0 h
    replace h : F_X3_takeFrom_72 N s1 k58 (f_X3_takeFrom_72 N s1 k58 n) v2 v3 s0 = some res := h
    unfold F_X3_takeFrom_72 at h
    refine z_iload_n (pc := 72) (x := v3) C dX3_takeFrom_72 (i := 3) rfl rfl ?_
    refine z_aload_n (pc := 73) (x := a1) C dX3_takeFrom_73 (i := 1) rfl rfl ?_
    refine z_iload_n (pc := 74) (x := v2) C dX3_takeFrom_74 (i := 2) rfl rfl ?_
    replace h := ob_e h
    obtain ⟨x5, hx5, h⟩ := h
    refine z_callV (pc := 75) (As := [.int v2]) (rest := [.int v3]) (wr := (wX3 g a0 r0 q0_0 s0)) C dX3_takeFrom_75 ml_RX3_52 wv_X1_sizeOf (m_X1_sizeOf (a0 := a1) (r0 := r1) (q0_0 := q1_0) hg hx5) [3, 4, 5, 6, 7, 8, 9, 10, 11] [0, 1, 2] rfl rfl ⟨by decide, by decide⟩ (Nat.le_of_ble_eq_true rfl) ⟨by decide, by decide⟩ rfl rfl rfl rfl rfl rfl rfl (by decide) (ex_k C (cs' := 0) (ss' := 0) (wF := (wX3 g a0 r0 q0_0 s0 ++ wX1 g a1 r1 q1_0 s1)) [0, 1, 2, 3, 4, 5, 6, 7, 8, 9, 10, 11] rfl rfl ?_)
    refine z_icmp_ge (pc := 78) C dX3_takeFrom_78 (tgt := 104) (by decide) (fun hc => ?_) (fun hc => ?_)
    · replace h := (ite_e h).1 hc
      refine z_iinc (pc := 104) C dX3_takeFrom_104 rfl (inc_e 1 (1 : Int32) ic_1 v2) (by decide) (lv' := [(2, .int (v2 + (1 : Int32))), (0, .ref a0), (1, .ref a1), (3, .int v3)]) rfl ?_
      refine z_goto (pc := 107) C dX3_takeFrom_107 (tgt := 58) (by decide) ?_
      refine z_lv (lv' := [(0, .ref a0), (1, .ref a1), (2, .int (v2 + (1 : Int32)))]) [1, 2, 0] rfl ?_
      exact hk58 (v2 + (1 : Int32)) s0 h
    · replace h := (ite_e h).2 hc
      refine z_aload_n (pc := 81) (x := a0) C dX3_takeFrom_81 (i := 0) rfl rfl ?_
      refine z_get (pc := 82) (v := .ref (r0 1)) C 0 dX3_takeFrom_82 fl_RX3_9 rfl rfl ?_
      refine z_iload_n (pc := 85) (x := v2) C dX3_takeFrom_85 (i := 2) rfl rfl ?_
      refine z_dup2 (pc := 86) C dX3_takeFrom_86 rfl rfl ?_
      replace h := chk_e h
      obtain ⟨hb6, h⟩ := h
      refine z_lald (pc := 87) C 1 dX3_takeFrom_87 rfl hb6 ?_
      refine z_lconst (pc := 88) (v := (1 : Int64)) C dX3_takeFrom_88 rfl ?_
      refine z_aload_n (pc := 89) (x := a1) C dX3_takeFrom_89 (i := 1) rfl rfl ?_
      refine z_iload_n (pc := 90) (x := v2) C dX3_takeFrom_90 (i := 2) rfl rfl ?_
      refine z_iload_n (pc := 91) (x := v3) C dX3_takeFrom_91 (i := 3) rfl rfl ?_
      replace h := ob_e h
      obtain ⟨x7, hx7, h⟩ := h
      refine z_callV (pc := 92) (As := [.int v2, .int v3]) (rest := [.long (1 : Int64), .long ((s0.2.2.2 1) (v2).toNatClampNeg), .int v2, .ref (r0 1)]) (wr := (wX3 g a0 r0 q0_0 s0)) C dX3_takeFrom_92 ml_RX3_55 wv_X1_cardAt (m_X1_cardAt (a0 := a1) (r0 := r1) (q0_0 := q1_0) hg hx7) [3, 4, 5, 6, 7, 8, 9, 10, 11] [0, 1, 2] rfl rfl ⟨by decide, by decide⟩ (Nat.le_of_ble_eq_true rfl) ⟨by decide, by decide⟩ rfl rfl rfl rfl rfl rfl rfl (by decide) (ex_k C (cs' := 0) (ss' := 0) (wF := (wX3 g a0 r0 q0_0 s0 ++ wX1 g a1 r1 q1_0 s1)) [0, 1, 2, 3, 4, 5, 6, 7, 8, 9, 10, 11] rfl rfl ?_)
      refine z_lshl (pc := 95) C dX3_takeFrom_95 ?_
      refine z_lor (pc := 96) C dX3_takeFrom_96 ?_
      replace h := znm_e h
      obtain ⟨x8, hx8, h⟩ := h
      refine z_top2 hx8 ?_
      replace h := chk_e h
      obtain ⟨hb9, h⟩ := h
      refine z_last (pc := 97) C 1 dX3_takeFrom_97 rfl hb9 (ws' := (wX3 g a0 r0 q0_0 (sb s0 1 (vp_updL (s0.2.2.2 1) (v2).toNatClampNeg x8)) ++ wX1 g a1 r1 q1_0 s1)) rfl ?_
      refine z_iinc (pc := 98) C dX3_takeFrom_98 rfl (inc_e 1 (1 : Int32) ic_1 v3) (by decide) (lv' := [(3, .int (v3 + (1 : Int32))), (0, .ref a0), (1, .ref a1), (2, .int v2)]) rfl ?_
      refine z_goto (pc := 101) C dX3_takeFrom_101 (tgt := 72) (by decide) ?_
      refine z_lv (lv' := [(0, .ref a0), (1, .ref a1), (2, .int v2), (3, .int (v3 + (1 : Int32)))]) [1, 2, 3, 0] rfl ?_
      exact hk72 v2 (v3 + (1 : Int32)) (sb s0 1 (vp_updL (s0.2.2.2 1) (v2).toNatClampNeg x8)) h
def F_X3_takeFrom_58 (N : Nat) (s1 : Ob)  (k58 : Int32 → Ob → Option (Ob)) (v2 : Int32) (s0 : Ob) : Option (Ob) := (if (4 : Int32) ≤ v2 then (some s0) else (chk (inb v2 4) (f_X3_takeFrom_72 N s1 k58 N v2 (0 : Int32) (sb s0 1 (vp_updL (s0.2.2.2 1) (v2).toNatClampNeg (0 : Int64))))))
def f_X3_takeFrom_58 (N : Nat) (s1 : Ob)  : Nat → Int32 → Ob → Option (Ob) := zlp (fun _ _ => none) (F_X3_takeFrom_58 N s1)
theorem m_X3_takeFrom_58 {K : Kt} {g : Gp} {a0 : Nat} {a1 : Nat} {r0 : Nat → Nat} {q0_0 : Nat} {r1 : Nat → Nat} {q1_0 : Nat} {N : Nat} {s1 : Ob} {res : Ob} (hg : Ok g) (C : Cx K g cX3_takeFrom RX3 4 (zrm 1 23)) (X : Rx K (exR none (wX3 g a0 r0 q0_0 res ++ wX1 g a1 r1 q1_0 s1)) 0 0 none) : ∀ (n : Nat) (v2 : Int32) (s0 : Ob), f_X3_takeFrom_58 N s1 n v2 s0 = some res → Zs K 0 0 (wX3 g a0 r0 q0_0 s0 ++ wX1 g a1 r1 q1_0 s1) [(0, .ref a0), (1, .ref a1), (2, .int v2)] 58 [] := by
  intro n
  induction n with
  | zero => intro v2 s0 h; exact nomatch (show (none : Option (Ob)) = some res from h)
  | succ n hk58 =>
    intro v2 s0 h
    replace h : F_X3_takeFrom_58 N s1 (f_X3_takeFrom_58 N s1 n) v2 s0 = some res := h
    unfold F_X3_takeFrom_58 at h
    refine z_iload_n (pc := 58) (x := v2) C dX3_takeFrom_58 (i := 2) rfl rfl ?_
    refine z_iconst (pc := 59) C dX3_takeFrom_59 ic_4 ?_
    refine z_icmp_ge (pc := 60) C dX3_takeFrom_60 (tgt := 110) (by decide) (fun hc => ?_) (fun hc => ?_)
    · replace h := (ite_e h).1 hc
      exact z_vret C X dX3_takeFrom_110 (by rw [← Option.some.inj h]; exact ⟨rfl, rfl⟩) (by decide) (by decide)
    · replace h := (ite_e h).2 hc
      refine z_aload_n (pc := 63) (x := a0) C dX3_takeFrom_63 (i := 0) rfl rfl ?_
      refine z_get (pc := 64) (v := .ref (r0 1)) C 0 dX3_takeFrom_64 fl_RX3_9 rfl rfl ?_
      refine z_iload_n (pc := 67) (x := v2) C dX3_takeFrom_67 (i := 2) rfl rfl ?_
      refine z_lconst (pc := 68) (v := (0 : Int64)) C dX3_takeFrom_68 rfl ?_
      replace h := chk_e h
      obtain ⟨hb4, h⟩ := h
      refine z_last (pc := 69) C 1 dX3_takeFrom_69 rfl hb4 (ws' := (wX3 g a0 r0 q0_0 (sb s0 1 (vp_updL (s0.2.2.2 1) (v2).toNatClampNeg (0 : Int64))) ++ wX1 g a1 r1 q1_0 s1)) rfl ?_
      refine z_iconst (pc := 70) C dX3_takeFrom_70 ic_0 ?_
      refine z_istore_n (pc := 71) C dX3_takeFrom_71 (i := 3) rfl (by decide) (lv' := [(3, .int (0 : Int32)), (0, .ref a0), (1, .ref a1), (2, .int v2)]) rfl ?_
      refine z_lv (lv' := [(0, .ref a0), (1, .ref a1), (2, .int v2), (3, .int (0 : Int32))]) [1, 2, 3, 0] rfl ?_
      exact m_X3_takeFrom_72 (a0 := a0) (a1 := a1) (r0 := r0) (q0_0 := q0_0) (r1 := r1) (q1_0 := q1_0) hg C X hk58 N v2 (0 : Int32) (sb s0 1 (vp_updL (s0.2.2.2 1) (v2).toNatClampNeg (0 : Int64))) h
def F_X3_takeFrom_34 (N : Nat) (s1 : Ob)  (k34 : Int32 → Ob → Option (Ob)) (v2 : Int32) (s0 : Ob) : Option (Ob) := (if (4 : Int32) ≤ v2 then (f_X3_takeFrom_58 N s1 N (0 : Int32) s0) else (ob (f_X1_topOf N s1 v2) fun x10 => (chk (inb v2 4) (k34 (v2 + (1 : Int32)) (sa s0 2 (upd (s0.2.2.1 2) (v2).toNatClampNeg x10))))))
def f_X3_takeFrom_34 (N : Nat) (s1 : Ob)  : Nat → Int32 → Ob → Option (Ob) := zlp (fun _ _ => none) (F_X3_takeFrom_34 N s1)
theorem m_X3_takeFrom_34 {K : Kt} {g : Gp} {a0 : Nat} {a1 : Nat} {r0 : Nat → Nat} {q0_0 : Nat} {r1 : Nat → Nat} {q1_0 : Nat} {N : Nat} {s1 : Ob} {res : Ob} (hg : Ok g) (C : Cx K g cX3_takeFrom RX3 4 (zrm 1 23)) (X : Rx K (exR none (wX3 g a0 r0 q0_0 res ++ wX1 g a1 r1 q1_0 s1)) 0 0 none) : ∀ (n : Nat) (v2 : Int32) (s0 : Ob), f_X3_takeFrom_34 N s1 n v2 s0 = some res → Zs K 0 0 (wX3 g a0 r0 q0_0 s0 ++ wX1 g a1 r1 q1_0 s1) [(0, .ref a0), (1, .ref a1), (2, .int v2)] 34 [] := by
  intro n
  induction n with
  | zero => intro v2 s0 h; exact nomatch (show (none : Option (Ob)) = some res from h)
  | succ n hk34 =>
    intro v2 s0 h
    replace h : F_X3_takeFrom_34 N s1 (f_X3_takeFrom_34 N s1 n) v2 s0 = some res := h
    unfold F_X3_takeFrom_34 at h
    refine z_iload_n (pc := 34) (x := v2) C dX3_takeFrom_34 (i := 2) rfl rfl ?_
    refine z_iconst (pc := 35) C dX3_takeFrom_35 ic_4 ?_
    refine z_icmp_ge (pc := 36) C dX3_takeFrom_36 (tgt := 56) (by decide) (fun hc => ?_) (fun hc => ?_)
    · replace h := (ite_e h).1 hc
      refine z_iconst (pc := 56) C dX3_takeFrom_56 ic_0 ?_
      refine z_istore_n (pc := 57) C dX3_takeFrom_57 (i := 2) rfl (by decide) (lv' := [(2, .int (0 : Int32)), (0, .ref a0), (1, .ref a1)]) rfl ?_
      refine z_lv (lv' := [(0, .ref a0), (1, .ref a1), (2, .int (0 : Int32))]) [1, 2, 0] rfl ?_
      exact m_X3_takeFrom_58 (a0 := a0) (a1 := a1) (r0 := r0) (q0_0 := q0_0) (r1 := r1) (q1_0 := q1_0) hg C X N (0 : Int32) s0 h
    · replace h := (ite_e h).2 hc
      refine z_aload_n (pc := 39) (x := a0) C dX3_takeFrom_39 (i := 0) rfl rfl ?_
      refine z_get (pc := 40) (v := .ref (r0 2)) C 0 dX3_takeFrom_40 fl_RX3_15 rfl rfl ?_
      refine z_iload_n (pc := 43) (x := v2) C dX3_takeFrom_43 (i := 2) rfl rfl ?_
      refine z_aload_n (pc := 44) (x := a1) C dX3_takeFrom_44 (i := 1) rfl rfl ?_
      refine z_iload_n (pc := 45) (x := v2) C dX3_takeFrom_45 (i := 2) rfl rfl ?_
      replace h := ob_e h
      obtain ⟨x10, hx10, h⟩ := h
      refine z_callV (pc := 46) (As := [.int v2]) (rest := [.int v2, .ref (r0 2)]) (wr := (wX3 g a0 r0 q0_0 s0)) C dX3_takeFrom_46 ml_RX3_48 wv_X1_topOf (m_X1_topOf (a0 := a1) (r0 := r1) (q0_0 := q1_0) hg hx10) [3, 4, 5, 6, 7, 8, 9, 10, 11] [0, 1, 2] rfl rfl ⟨by decide, by decide⟩ (Nat.le_of_ble_eq_true rfl) ⟨by decide, by decide⟩ rfl rfl rfl rfl rfl rfl rfl (by decide) (ex_k C (cs' := 0) (ss' := 0) (wF := (wX3 g a0 r0 q0_0 s0 ++ wX1 g a1 r1 q1_0 s1)) [0, 1, 2, 3, 4, 5, 6, 7, 8, 9, 10, 11] rfl rfl ?_)
      replace h := chk_e h
      obtain ⟨hb11, h⟩ := h
      refine z_iast (pc := 49) C 2 dX3_takeFrom_49 rfl hb11 (ws' := (wX3 g a0 r0 q0_0 (sa s0 2 (upd (s0.2.2.1 2) (v2).toNatClampNeg x10)) ++ wX1 g a1 r1 q1_0 s1)) rfl ?_
      refine z_iinc (pc := 50) C dX3_takeFrom_50 rfl (inc_e 1 (1 : Int32) ic_1 v2) (by decide) (lv' := [(2, .int (v2 + (1 : Int32))), (0, .ref a0), (1, .ref a1)]) rfl ?_
      refine z_goto (pc := 53) C dX3_takeFrom_53 (tgt := 34) (by decide) ?_
      refine z_lv (lv' := [(0, .ref a0), (1, .ref a1), (2, .int (v2 + (1 : Int32)))]) [1, 2, 0] rfl ?_
      exact hk34 (v2 + (1 : Int32)) (sa s0 2 (upd (s0.2.2.1 2) (v2).toNatClampNeg x10)) h
def f_X3_takeFrom (N : Nat) (s0 : Ob) (s1 : Ob) : Option (Ob) := (znm (si s0 3 (s1.1 2)) fun y1 => (znm (si y1 4 (s1.1 1)) fun y2 => (znm (si y2 5 (s1.1 4)) fun y3 => (f_X3_takeFrom_34 N s1 N (0 : Int32) (si y3 6 (s1.1 6))))))
theorem m_X3_takeFrom {g : Gp} {a0 : Nat} {a1 : Nat} {r0 : Nat → Nat} {q0_0 : Nat} {r1 : Nat → Nat} {q1_0 : Nat} {N : Nat} {s0 : Ob} {s1 : Ob} {res : Ob} (hg : Ok g) (h : f_X3_takeFrom N s0 s1 = some res) : Ct g yX3_takeFrom cX3_takeFrom 4 none (zrm 1 23) [.ref a0, .ref a1] (wX3 g a0 r0 q0_0 s0 ++ wX1 g a1 r1 q1_0 s1) (exR none (wX3 g a0 r0 q0_0 res ++ wX1 g a1 r1 q1_0 s1)) := by
  refine ct_of rfl hg (by show _ ≤ _; exact Nat.le_of_ble_eq_true rfl) (fun K C X => ?_)
  show Zs K 0 0 (wX3 g a0 r0 q0_0 s0 ++ wX1 g a1 r1 q1_0 s1) [(0, .ref a0), (1, .ref a1)] 0 []
  unfold f_X3_takeFrom at h
  refine z_aload_n (pc := 0) (x := a0) C dX3_takeFrom_0 (i := 0) rfl rfl ?_
  refine z_aload_n (pc := 1) (x := a1) C dX3_takeFrom_1 (i := 1) rfl rfl ?_
  refine z_get (pc := 2) (v := .int (s1.1 2)) C 3 dX3_takeFrom_2 fl_RX3_42 rfl rfl ?_
  refine z_put (pc := 5) C 0 dX3_takeFrom_5 fp_RX3_23 rfl rfl rfl (zlt_b rfl) (ws' := (wX3 g a0 r0 q0_0 (si s0 3 (s1.1 2)) ++ wX1 g a1 r1 q1_0 s1)) rfl ?_
  refine z_aload_n (pc := 8) (x := a0) C dX3_takeFrom_8 (i := 0) rfl rfl ?_
  refine z_aload_n (pc := 9) (x := a1) C dX3_takeFrom_9 (i := 1) rfl rfl ?_
  refine z_get (pc := 10) (v := .int (s1.1 1)) C 3 dX3_takeFrom_10 fl_RX3_45 rfl rfl ?_
  replace h := znm_e h
  obtain ⟨y1, hy1, h⟩ := h
  refine z_wsE (ws' := (wX3 g a0 r0 q0_0 y1 ++ wX1 g a1 r1 q1_0 s1)) (by rw [hy1]) ?_
  refine z_put (pc := 13) C 0 dX3_takeFrom_13 fp_RX3_27 rfl rfl rfl (zlt_b rfl) (ws' := (wX3 g a0 r0 q0_0 (si y1 4 (s1.1 1)) ++ wX1 g a1 r1 q1_0 s1)) rfl ?_
  refine z_aload_n (pc := 16) (x := a0) C dX3_takeFrom_16 (i := 0) rfl rfl ?_
  refine z_aload_n (pc := 17) (x := a1) C dX3_takeFrom_17 (i := 1) rfl rfl ?_
  refine z_get (pc := 18) (v := .int (s1.1 4)) C 3 dX3_takeFrom_18 fl_RX3_46 rfl rfl ?_
  replace h := znm_e h
  obtain ⟨y2, hy2, h⟩ := h
  refine z_wsE (ws' := (wX3 g a0 r0 q0_0 y2 ++ wX1 g a1 r1 q1_0 s1)) (by rw [hy2]) ?_
  refine z_put (pc := 21) C 0 dX3_takeFrom_21 fp_RX3_30 rfl rfl rfl (zlt_b rfl) (ws' := (wX3 g a0 r0 q0_0 (si y2 5 (s1.1 4)) ++ wX1 g a1 r1 q1_0 s1)) rfl ?_
  refine z_aload_n (pc := 24) (x := a0) C dX3_takeFrom_24 (i := 0) rfl rfl ?_
  refine z_aload_n (pc := 25) (x := a1) C dX3_takeFrom_25 (i := 1) rfl rfl ?_
  refine z_get (pc := 26) (v := .int (s1.1 6)) C 3 dX3_takeFrom_26 fl_RX3_47 rfl rfl ?_
  replace h := znm_e h
  obtain ⟨y3, hy3, h⟩ := h
  refine z_wsE (ws' := (wX3 g a0 r0 q0_0 y3 ++ wX1 g a1 r1 q1_0 s1)) (by rw [hy3]) ?_
  refine z_put (pc := 29) C 0 dX3_takeFrom_29 fp_RX3_33 rfl rfl rfl (zlt_b rfl) (ws' := (wX3 g a0 r0 q0_0 (si y3 6 (s1.1 6)) ++ wX1 g a1 r1 q1_0 s1)) rfl ?_
  refine z_iconst (pc := 32) C dX3_takeFrom_32 ic_0 ?_
  refine z_istore_n (pc := 33) C dX3_takeFrom_33 (i := 2) rfl (by decide) (lv' := [(2, .int (0 : Int32)), (0, .ref a0), (1, .ref a1)]) rfl ?_
  refine z_lv (lv' := [(0, .ref a0), (1, .ref a1), (2, .int (0 : Int32))]) [1, 2, 0] rfl ?_
  exact m_X3_takeFrom_34 (a0 := a0) (a1 := a1) (r0 := r0) (q0_0 := q0_0) (r1 := r1) (q1_0 := q1_0) hg C X N (0 : Int32) (si y3 6 (s1.1 6)) h
def F_X3_packed_4 (N : Nat) (s0 : Ob)  (k4 : Int32 → Int32 → Option (Int32)) (v1 : Int32) (v2 : Int32) : Option (Int32) := (if (4 : Int32) ≤ v2 then (znm (((v1 <<< ((4 : Int32) &&& 31)) ||| (s0.1 3)) <<< ((6 : Int32) &&& 31)) fun x1 => (znm ((((x1 ||| (s0.1 4)) <<< ((2 : Int32) &&& 31)) ||| (s0.1 5)) <<< ((3 : Int32) &&& 31)) fun x2 => (some (x2 ||| ((s0.1 6) + (1 : Int32)))))) else (chk (inb v2 4) (k4 ((v1 <<< ((3 : Int32) &&& 31)) ||| ((s0.2.2.1 2) (v2).toNatClampNeg)) (v2 + (1 : Int32)))))
def f_X3_packed_4 (N : Nat) (s0 : Ob)  : Nat → Int32 → Int32 → Option (Int32) := zlp (fun _ _ => none) (F_X3_packed_4 N s0)
theorem m_X3_packed_4 {K : Kt} {g : Gp} {a0 : Nat} {r0 : Nat → Nat} {q0_0 : Nat} {N : Nat} {s0 : Ob} {res : Int32} (hg : Ok g) (C : Cx K g cX3_packed RX3 3 (zrm 0 0)) (X : Rx K (exR (some (.int res)) (wX3 g a0 r0 q0_0 s0)) 0 0 (some .int)) : ∀ (n : Nat) (v1 : Int32) (v2 : Int32), f_X3_packed_4 N s0 n v1 v2 = some res → Zs K 0 0 (wX3 g a0 r0 q0_0 s0) [(0, .ref a0), (1, .int v1), (2, .int v2)] 4 [] := by
  intro n
  induction n with
  | zero => intro v1 v2 h; exact nomatch (show (none : Option (Int32)) = some res from h)
  | succ n hk4 =>
    intro v1 v2 h
    replace h : F_X3_packed_4 N s0 (f_X3_packed_4 N s0 n) v1 v2 = some res := h
    unfold F_X3_packed_4 at h
    refine z_iload_n (pc := 4) (x := v2) C dX3_packed_4 (i := 2) rfl rfl ?_
    refine z_iconst (pc := 5) C dX3_packed_5 ic_4 ?_
    refine z_icmp_ge (pc := 6) C dX3_packed_6 (tgt := 26) (by decide) (fun hc => ?_) (fun hc => ?_)
    · replace h := (ite_e h).1 hc
      refine z_iload_n (pc := 26) (x := v1) C dX3_packed_26 (i := 1) rfl rfl ?_
      refine z_iconst (pc := 27) C dX3_packed_27 ic_4 ?_
      refine z_ishl (pc := 28) C dX3_packed_28 ?_
      refine z_aload_n (pc := 29) (x := a0) C dX3_packed_29 (i := 0) rfl rfl ?_
      refine z_get (pc := 30) (v := .int (s0.1 3)) C 0 dX3_packed_30 fl_RX3_23 rfl rfl ?_
      refine z_ior (pc := 33) C dX3_packed_33 ?_
      refine z_bipush (pc := 34) C dX3_packed_34 bp_6 ?_
      refine z_ishl (pc := 36) C dX3_packed_36 ?_
      replace h := znm_e h
      obtain ⟨x1, hx1, h⟩ := h
      refine z_top1 hx1 ?_
      refine z_aload_n (pc := 37) (x := a0) C dX3_packed_37 (i := 0) rfl rfl ?_
      refine z_get (pc := 38) (v := .int (s0.1 4)) C 0 dX3_packed_38 fl_RX3_27 rfl rfl ?_
      refine z_ior (pc := 41) C dX3_packed_41 ?_
      refine z_iconst (pc := 42) C dX3_packed_42 ic_2 ?_
      refine z_ishl (pc := 43) C dX3_packed_43 ?_
      refine z_aload_n (pc := 44) (x := a0) C dX3_packed_44 (i := 0) rfl rfl ?_
      refine z_get (pc := 45) (v := .int (s0.1 5)) C 0 dX3_packed_45 fl_RX3_30 rfl rfl ?_
      refine z_ior (pc := 48) C dX3_packed_48 ?_
      refine z_iconst (pc := 49) C dX3_packed_49 ic_3 ?_
      refine z_ishl (pc := 50) C dX3_packed_50 ?_
      replace h := znm_e h
      obtain ⟨x2, hx2, h⟩ := h
      refine z_top1 hx2 ?_
      refine z_aload_n (pc := 51) (x := a0) C dX3_packed_51 (i := 0) rfl rfl ?_
      refine z_get (pc := 52) (v := .int (s0.1 6)) C 0 dX3_packed_52 fl_RX3_33 rfl rfl ?_
      refine z_iconst (pc := 55) C dX3_packed_55 ic_1 ?_
      refine z_iadd (pc := 56) C dX3_packed_56 ?_
      refine z_ior (pc := 57) C dX3_packed_57 ?_
      exact z_iret C X dX3_packed_58 (by rw [← Option.some.inj h]; exact ⟨rfl, rfl⟩) (by decide) (by decide)
    · replace h := (ite_e h).2 hc
      refine z_iload_n (pc := 9) (x := v1) C dX3_packed_9 (i := 1) rfl rfl ?_
      refine z_iconst (pc := 10) C dX3_packed_10 ic_3 ?_
      refine z_ishl (pc := 11) C dX3_packed_11 ?_
      refine z_aload_n (pc := 12) (x := a0) C dX3_packed_12 (i := 0) rfl rfl ?_
      refine z_get (pc := 13) (v := .ref (r0 2)) C 0 dX3_packed_13 fl_RX3_15 rfl rfl ?_
      refine z_iload_n (pc := 16) (x := v2) C dX3_packed_16 (i := 2) rfl rfl ?_
      replace h := chk_e h
      obtain ⟨hb3, h⟩ := h
      refine z_iald (pc := 17) C 2 dX3_packed_17 rfl hb3 ?_
      refine z_ior (pc := 18) C dX3_packed_18 ?_
      refine z_istore_n (pc := 19) C dX3_packed_19 (i := 1) rfl (by decide) (lv' := [(1, .int ((v1 <<< ((3 : Int32) &&& 31)) ||| ((s0.2.2.1 2) (v2).toNatClampNeg))), (0, .ref a0), (2, .int v2)]) rfl ?_
      refine z_iinc (pc := 20) C dX3_packed_20 rfl (inc_e 1 (1 : Int32) ic_1 v2) (by decide) (lv' := [(2, .int (v2 + (1 : Int32))), (1, .int ((v1 <<< ((3 : Int32) &&& 31)) ||| ((s0.2.2.1 2) (v2).toNatClampNeg))), (0, .ref a0)]) rfl ?_
      refine z_goto (pc := 23) C dX3_packed_23 (tgt := 4) (by decide) ?_
      refine z_lv (lv' := [(0, .ref a0), (1, .int ((v1 <<< ((3 : Int32) &&& 31)) ||| ((s0.2.2.1 2) (v2).toNatClampNeg))), (2, .int (v2 + (1 : Int32)))]) [2, 1, 0] rfl ?_
      exact hk4 ((v1 <<< ((3 : Int32) &&& 31)) ||| ((s0.2.2.1 2) (v2).toNatClampNeg)) (v2 + (1 : Int32)) h
def f_X3_packed (N : Nat) (s0 : Ob) : Option (Int32) := (f_X3_packed_4 N s0 N (0 : Int32) (0 : Int32))
theorem m_X3_packed {g : Gp} {a0 : Nat} {r0 : Nat → Nat} {q0_0 : Nat} {N : Nat} {s0 : Ob} {res : Int32} (hg : Ok g) (h : f_X3_packed N s0 = some res) : Ct g yX3_packed cX3_packed 3 (some .int) (zrm 0 0) [.ref a0] (wX3 g a0 r0 q0_0 s0) (exR (some (.int res)) (wX3 g a0 r0 q0_0 s0)) := by
  refine ct_of rfl hg (by show _ ≤ _; exact Nat.le_of_ble_eq_true rfl) (fun K C X => ?_)
  show Zs K 0 0 (wX3 g a0 r0 q0_0 s0) [(0, .ref a0)] 0 []
  unfold f_X3_packed at h
  refine z_iconst (pc := 0) C dX3_packed_0 ic_0 ?_
  refine z_istore_n (pc := 1) C dX3_packed_1 (i := 1) rfl (by decide) (lv' := [(1, .int (0 : Int32)), (0, .ref a0)]) rfl ?_
  refine z_iconst (pc := 2) C dX3_packed_2 ic_0 ?_
  refine z_istore_n (pc := 3) C dX3_packed_3 (i := 2) rfl (by decide) (lv' := [(2, .int (0 : Int32)), (1, .int (0 : Int32)), (0, .ref a0)]) rfl ?_
  refine z_lv (lv' := [(0, .ref a0), (1, .int (0 : Int32)), (2, .int (0 : Int32))]) [2, 1, 0] rfl ?_
  exact m_X3_packed_4 (a0 := a0) (r0 := r0) (q0_0 := q0_0) hg C X N (0 : Int32) (0 : Int32) h
def F_X3_unpack_42 (N : Nat) (p1 : Int32)  (k42 : Int32 → Ob → Option (Ob)) (v2 : Int32) (s0 : Ob) : Option (Ob) := (if (4 : Int32) ≤ v2 then (some s0) else (znm ((p1 >>> (((24 : Int32) - ((3 : Int32) * v2)) &&& 31)) &&& (7 : Int32)) fun x4 => (chk (inb v2 4) (k42 (v2 + (1 : Int32)) (sa s0 2 (upd (s0.2.2.1 2) (v2).toNatClampNeg x4))))))
def f_X3_unpack_42 (N : Nat) (p1 : Int32)  : Nat → Int32 → Ob → Option (Ob) := zlp (fun _ _ => none) (F_X3_unpack_42 N p1)
theorem m_X3_unpack_42 {K : Kt} {g : Gp} {a0 : Nat} {r0 : Nat → Nat} {q0_0 : Nat} {N : Nat} {p1 : Int32} {res : Ob} (hg : Ok g) (C : Cx K g cX3_unpack RX3 3 (zrm 0 0)) (X : Rx K (exR none (wX3 g a0 r0 q0_0 res)) 0 0 none) : ∀ (n : Nat) (v2 : Int32) (s0 : Ob), f_X3_unpack_42 N p1 n v2 s0 = some res → Zs K 0 0 (wX3 g a0 r0 q0_0 s0) [(0, .ref a0), (1, .int p1), (2, .int v2)] 42 [] := by
  intro n
  induction n with
  | zero => intro v2 s0 h; exact nomatch (show (none : Option (Ob)) = some res from h)
  | succ n hk42 =>
    intro v2 s0 h
    replace h : F_X3_unpack_42 N p1 (f_X3_unpack_42 N p1 n) v2 s0 = some res := h
    unfold F_X3_unpack_42 at h
    refine z_iload_n (pc := 42) (x := v2) C dX3_unpack_42 (i := 2) rfl rfl ?_
    refine z_iconst (pc := 43) C dX3_unpack_43 ic_4 ?_
    refine z_icmp_ge (pc := 44) C dX3_unpack_44 (tgt := 70) (by decide) (fun hc => ?_) (fun hc => ?_)
    · replace h := (ite_e h).1 hc
      exact z_vret C X dX3_unpack_70 (by rw [← Option.some.inj h]; exact ⟨rfl, rfl⟩) (by decide) (by decide)
    · replace h := (ite_e h).2 hc
      refine z_aload_n (pc := 47) (x := a0) C dX3_unpack_47 (i := 0) rfl rfl ?_
      refine z_get (pc := 48) (v := .ref (r0 2)) C 0 dX3_unpack_48 fl_RX3_15 rfl rfl ?_
      refine z_iload_n (pc := 51) (x := v2) C dX3_unpack_51 (i := 2) rfl rfl ?_
      refine z_iload_n (pc := 52) (x := p1) C dX3_unpack_52 (i := 1) rfl rfl ?_
      refine z_bipush (pc := 53) C dX3_unpack_53 bp_24 ?_
      refine z_iconst (pc := 55) C dX3_unpack_55 ic_3 ?_
      refine z_iload_n (pc := 56) (x := v2) C dX3_unpack_56 (i := 2) rfl rfl ?_
      refine z_imul (pc := 57) C dX3_unpack_57 ?_
      refine z_isub (pc := 58) C dX3_unpack_58 ?_
      refine z_ishr (pc := 59) C dX3_unpack_59 ?_
      refine z_bipush (pc := 60) C dX3_unpack_60 bp_7 ?_
      refine z_iand (pc := 62) C dX3_unpack_62 ?_
      replace h := znm_e h
      obtain ⟨x4, hx4, h⟩ := h
      refine z_top1 hx4 ?_
      replace h := chk_e h
      obtain ⟨hb5, h⟩ := h
      refine z_iast (pc := 63) C 2 dX3_unpack_63 rfl hb5 (ws' := (wX3 g a0 r0 q0_0 (sa s0 2 (upd (s0.2.2.1 2) (v2).toNatClampNeg x4)))) rfl ?_
      refine z_iinc (pc := 64) C dX3_unpack_64 rfl (inc_e 1 (1 : Int32) ic_1 v2) (by decide) (lv' := [(2, .int (v2 + (1 : Int32))), (0, .ref a0), (1, .int p1)]) rfl ?_
      refine z_goto (pc := 67) C dX3_unpack_67 (tgt := 42) (by decide) ?_
      refine z_lv (lv' := [(0, .ref a0), (1, .int p1), (2, .int (v2 + (1 : Int32)))]) [1, 2, 0] rfl ?_
      exact hk42 (v2 + (1 : Int32)) (sa s0 2 (upd (s0.2.2.1 2) (v2).toNatClampNeg x4)) h
def f_X3_unpack (N : Nat) (s0 : Ob) (p1 : Int32) : Option (Ob) := (znm (si s0 6 ((p1 &&& (7 : Int32)) - (1 : Int32))) fun y1 => (znm (si y1 5 ((p1 >>> ((3 : Int32) &&& 31)) &&& (3 : Int32))) fun y2 => (znm (si y2 4 ((p1 >>> ((5 : Int32) &&& 31)) &&& (63 : Int32))) fun y3 => (f_X3_unpack_42 N p1 N (0 : Int32) (si y3 3 ((p1 >>> ((11 : Int32) &&& 31)) &&& (15 : Int32)))))))
theorem m_X3_unpack {g : Gp} {a0 : Nat} {r0 : Nat → Nat} {q0_0 : Nat} {N : Nat} {s0 : Ob} {p1 : Int32} {res : Ob} (hg : Ok g) (h : f_X3_unpack N s0 p1 = some res) : Ct g yX3_unpack cX3_unpack 3 none (zrm 0 0) [.ref a0, .int p1] (wX3 g a0 r0 q0_0 s0) (exR none (wX3 g a0 r0 q0_0 res)) := by
  refine ct_of rfl hg (by show _ ≤ _; exact Nat.le_of_ble_eq_true rfl) (fun K C X => ?_)
  show Zs K 0 0 (wX3 g a0 r0 q0_0 s0) [(0, .ref a0), (1, .int p1)] 0 []
  unfold f_X3_unpack at h
  refine z_aload_n (pc := 0) (x := a0) C dX3_unpack_0 (i := 0) rfl rfl ?_
  refine z_iload_n (pc := 1) (x := p1) C dX3_unpack_1 (i := 1) rfl rfl ?_
  refine z_bipush (pc := 2) C dX3_unpack_2 bp_7 ?_
  refine z_iand (pc := 4) C dX3_unpack_4 ?_
  refine z_iconst (pc := 5) C dX3_unpack_5 ic_1 ?_
  refine z_isub (pc := 6) C dX3_unpack_6 ?_
  refine z_put (pc := 7) C 0 dX3_unpack_7 fp_RX3_33 rfl rfl rfl (zlt_b rfl) (ws' := (wX3 g a0 r0 q0_0 (si s0 6 ((p1 &&& (7 : Int32)) - (1 : Int32))))) rfl ?_
  refine z_aload_n (pc := 10) (x := a0) C dX3_unpack_10 (i := 0) rfl rfl ?_
  refine z_iload_n (pc := 11) (x := p1) C dX3_unpack_11 (i := 1) rfl rfl ?_
  refine z_iconst (pc := 12) C dX3_unpack_12 ic_3 ?_
  refine z_ishr (pc := 13) C dX3_unpack_13 ?_
  refine z_iconst (pc := 14) C dX3_unpack_14 ic_3 ?_
  refine z_iand (pc := 15) C dX3_unpack_15 ?_
  replace h := znm_e h
  obtain ⟨y1, hy1, h⟩ := h
  refine z_wsE (ws' := (wX3 g a0 r0 q0_0 y1)) (by rw [hy1]) ?_
  refine z_put (pc := 16) C 0 dX3_unpack_16 fp_RX3_30 rfl rfl rfl (zlt_b rfl) (ws' := (wX3 g a0 r0 q0_0 (si y1 5 ((p1 >>> ((3 : Int32) &&& 31)) &&& (3 : Int32))))) rfl ?_
  refine z_aload_n (pc := 19) (x := a0) C dX3_unpack_19 (i := 0) rfl rfl ?_
  refine z_iload_n (pc := 20) (x := p1) C dX3_unpack_20 (i := 1) rfl rfl ?_
  refine z_iconst (pc := 21) C dX3_unpack_21 ic_5 ?_
  refine z_ishr (pc := 22) C dX3_unpack_22 ?_
  refine z_bipush (pc := 23) C dX3_unpack_23 bp_63 ?_
  refine z_iand (pc := 25) C dX3_unpack_25 ?_
  replace h := znm_e h
  obtain ⟨y2, hy2, h⟩ := h
  refine z_wsE (ws' := (wX3 g a0 r0 q0_0 y2)) (by rw [hy2]) ?_
  refine z_put (pc := 26) C 0 dX3_unpack_26 fp_RX3_27 rfl rfl rfl (zlt_b rfl) (ws' := (wX3 g a0 r0 q0_0 (si y2 4 ((p1 >>> ((5 : Int32) &&& 31)) &&& (63 : Int32))))) rfl ?_
  refine z_aload_n (pc := 29) (x := a0) C dX3_unpack_29 (i := 0) rfl rfl ?_
  refine z_iload_n (pc := 30) (x := p1) C dX3_unpack_30 (i := 1) rfl rfl ?_
  refine z_bipush (pc := 31) C dX3_unpack_31 bp_11 ?_
  refine z_ishr (pc := 33) C dX3_unpack_33 ?_
  refine z_bipush (pc := 34) C dX3_unpack_34 bp_15 ?_
  refine z_iand (pc := 36) C dX3_unpack_36 ?_
  replace h := znm_e h
  obtain ⟨y3, hy3, h⟩ := h
  refine z_wsE (ws' := (wX3 g a0 r0 q0_0 y3)) (by rw [hy3]) ?_
  refine z_put (pc := 37) C 0 dX3_unpack_37 fp_RX3_23 rfl rfl rfl (zlt_b rfl) (ws' := (wX3 g a0 r0 q0_0 (si y3 3 ((p1 >>> ((11 : Int32) &&& 31)) &&& (15 : Int32))))) rfl ?_
  refine z_iconst (pc := 40) C dX3_unpack_40 ic_0 ?_
  refine z_istore_n (pc := 41) C dX3_unpack_41 (i := 2) rfl (by decide) (lv' := [(2, .int (0 : Int32)), (0, .ref a0), (1, .int p1)]) rfl ?_
  refine z_lv (lv' := [(0, .ref a0), (1, .int p1), (2, .int (0 : Int32))]) [1, 2, 0] rfl ?_
  exact m_X3_unpack_42 (a0 := a0) (r0 := r0) (q0_0 := q0_0) hg C X N (0 : Int32) (si y3 3 ((p1 >>> ((11 : Int32) &&& 31)) &&& (15 : Int32))) h
def f_X3_points (N : Nat) (s0 : Ob) : Option (Int32) := (znm (((((s0.2.2.1 2) 0) + ((s0.2.2.1 2) 1)) + ((s0.2.2.1 2) 2)) + ((s0.2.2.1 2) 3)) fun x1 => (some x1))
theorem m_X3_points {g : Gp} {a0 : Nat} {r0 : Nat → Nat} {q0_0 : Nat} {N : Nat} {s0 : Ob} {res : Int32} (hg : Ok g) (h : f_X3_points N s0 = some res) : Ct g yX3_points cX3_points 1 (some .int) (zrm 0 0) [.ref a0] (wX3 g a0 r0 q0_0 s0) (exR (some (.int res)) (wX3 g a0 r0 q0_0 s0)) := by
  refine ct_of rfl hg (by show _ ≤ _; exact Nat.le_of_ble_eq_true rfl) (fun K C X => ?_)
  show Zs K 0 0 (wX3 g a0 r0 q0_0 s0) [(0, .ref a0)] 0 []
  unfold f_X3_points at h
  refine z_aload_n (pc := 0) (x := a0) C dX3_points_0 (i := 0) rfl rfl ?_
  refine z_get (pc := 1) (v := .ref (r0 2)) C 0 dX3_points_1 fl_RX3_15 rfl rfl ?_
  refine z_iconst (pc := 4) C dX3_points_4 ic_0 ?_
  refine z_iald (pc := 5) C 2 dX3_points_5 rfl (by decide) ?_
  refine z_aload_n (pc := 6) (x := a0) C dX3_points_6 (i := 0) rfl rfl ?_
  refine z_get (pc := 7) (v := .ref (r0 2)) C 0 dX3_points_7 fl_RX3_15 rfl rfl ?_
  refine z_iconst (pc := 10) C dX3_points_10 ic_1 ?_
  refine z_iald (pc := 11) C 2 dX3_points_11 rfl (by decide) ?_
  refine z_iadd (pc := 12) C dX3_points_12 ?_
  refine z_aload_n (pc := 13) (x := a0) C dX3_points_13 (i := 0) rfl rfl ?_
  refine z_get (pc := 14) (v := .ref (r0 2)) C 0 dX3_points_14 fl_RX3_15 rfl rfl ?_
  refine z_iconst (pc := 17) C dX3_points_17 ic_2 ?_
  refine z_iald (pc := 18) C 2 dX3_points_18 rfl (by decide) ?_
  refine z_iadd (pc := 19) C dX3_points_19 ?_
  refine z_aload_n (pc := 20) (x := a0) C dX3_points_20 (i := 0) rfl rfl ?_
  refine z_get (pc := 21) (v := .ref (r0 2)) C 0 dX3_points_21 fl_RX3_15 rfl rfl ?_
  refine z_iconst (pc := 24) C dX3_points_24 ic_3 ?_
  refine z_iald (pc := 25) C 2 dX3_points_25 rfl (by decide) ?_
  refine z_iadd (pc := 26) C dX3_points_26 ?_
  replace h := znm_e h
  obtain ⟨x1, hx1, h⟩ := h
  refine z_top1 hx1 ?_
  exact z_iret C X dX3_points_27 (by rw [← Option.some.inj h]; exact ⟨rfl, rfl⟩) (by decide) (by decide)
def f_X3_isLast (N : Nat) (s0 : Ob) (s1 : Ob) : Option (Int32) := (if (s0.1 6) = 0 then (some (1 : Int32)) else (ob (f_X3_points N s0) fun x1 => (if x1 < ((s1.1 0) * (s1.1 1)) then (some (0 : Int32)) else (some (1 : Int32)))))
theorem m_X3_isLast {g : Gp} {a0 : Nat} {r0 : Nat → Nat} {q0_0 : Nat} {r1 : Nat → Nat} {N : Nat} {s0 : Ob} {s1 : Ob} {res : Int32} (hg : Ok g) (h : f_X3_isLast N s0 s1 = some res) : Ct g yX3_isLast cX3_isLast 1 (some .boolean) (zrm 1 20) [.ref a0] (wX3 g a0 r0 q0_0 s0 ++ wX5 g q0_0 r1 s1) (exR (some (.int res)) (wX3 g a0 r0 q0_0 s0 ++ wX5 g q0_0 r1 s1)) := by
  refine ct_of rfl hg (by show _ ≤ _; exact Nat.le_of_ble_eq_true rfl) (fun K C X => ?_)
  show Zs K 0 0 (wX3 g a0 r0 q0_0 s0 ++ wX5 g q0_0 r1 s1) [(0, .ref a0)] 0 []
  unfold f_X3_isLast at h
  refine z_aload_n (pc := 0) (x := a0) C dX3_isLast_0 (i := 0) rfl rfl ?_
  refine z_get (pc := 1) (v := .int (s0.1 6)) C 0 dX3_isLast_1 fl_RX3_33 rfl rfl ?_
  refine z_if_eq (pc := 4) C dX3_isLast_4 (tgt := 29) (by decide) (fun hc => ?_) (fun hc => ?_)
  · replace h := (ite_e h).1 hc
    refine z_iconst (pc := 29) C dX3_isLast_29 ic_1 ?_
    refine z_goto (pc := 30) C dX3_isLast_30 (tgt := 34) (by decide) ?_
    exact z_zret C X dX3_isLast_34 rfl (by rw [← Option.some.inj h]; exact ⟨rfl, rfl⟩) (by decide) (by decide)
  · replace h := (ite_e h).2 hc
    refine z_aload_n (pc := 7) (x := a0) C dX3_isLast_7 (i := 0) rfl rfl ?_
    replace h := ob_e h
    obtain ⟨x1, hx1, h⟩ := h
    refine z_callV (pc := 8) (As := []) (rest := []) (wr := (wX5 g q0_0 r1 s1)) C dX3_isLast_8 ml_RX3_59 wv_X3_points (m_X3_points (a0 := a0) (r0 := r0) (q0_0 := q0_0) hg hx1) [0, 1, 2] [3, 4, 5, 6] rfl rfl ⟨by decide, by decide⟩ (Nat.le_of_ble_eq_true rfl) ⟨by decide, by decide⟩ rfl rfl rfl rfl rfl rfl rfl (by decide) (ex_k C (cs' := 0) (ss' := 0) (wF := (wX3 g a0 r0 q0_0 s0 ++ wX5 g q0_0 r1 s1)) [4, 5, 6, 0, 1, 2, 3] rfl rfl ?_)
    refine z_aload_n (pc := 11) (x := a0) C dX3_isLast_11 (i := 0) rfl rfl ?_
    refine z_get (pc := 12) (v := .ref q0_0) C 0 dX3_isLast_12 fl_RX3_19 rfl rfl ?_
    refine z_get (pc := 15) (v := .int (s1.1 0)) C 3 dX3_isLast_15 fl_RX3_63 rfl rfl ?_
    refine z_aload_n (pc := 18) (x := a0) C dX3_isLast_18 (i := 0) rfl rfl ?_
    refine z_get (pc := 19) (v := .ref q0_0) C 0 dX3_isLast_19 fl_RX3_19 rfl rfl ?_
    refine z_get (pc := 22) (v := .int (s1.1 1)) C 3 dX3_isLast_22 fl_RX3_68 rfl rfl ?_
    refine z_imul (pc := 25) C dX3_isLast_25 ?_
    refine z_icmp_lt (pc := 26) C dX3_isLast_26 (tgt := 33) (by decide) (fun hc => ?_) (fun hc => ?_)
    · replace h := (ite_e h).1 hc
      refine z_iconst (pc := 33) C dX3_isLast_33 ic_0 ?_
      exact z_zret C X dX3_isLast_34 rfl (by rw [← Option.some.inj h]; exact ⟨rfl, rfl⟩) (by decide) (by decide)
    · replace h := (ite_e h).2 hc
      refine z_iconst (pc := 29) C dX3_isLast_29 ic_1 ?_
      refine z_goto (pc := 30) C dX3_isLast_30 (tgt := 34) (by decide) ?_
      exact z_zret C X dX3_isLast_34 rfl (by rw [← Option.some.inj h]; exact ⟨rfl, rfl⟩) (by decide) (by decide)
def f_X3_cardsInTurn (N : Nat) (s0 : Ob) : Option (Int64) := (chk (inb (s0.1 5) 4) (some ((s0.2.2.2 1) ((s0.1 5)).toNatClampNeg)))
theorem m_X3_cardsInTurn {g : Gp} {a0 : Nat} {r0 : Nat → Nat} {q0_0 : Nat} {N : Nat} {s0 : Ob} {res : Int64} (hg : Ok g) (h : f_X3_cardsInTurn N s0 = some res) : Ct g yX3_cardsInTurn cX3_cardsInTurn 1 (some .long) (zrm 0 0) [.ref a0] (wX3 g a0 r0 q0_0 s0) (exR (some (.long res)) (wX3 g a0 r0 q0_0 s0)) := by
  refine ct_of rfl hg (by show _ ≤ _; exact Nat.le_of_ble_eq_true rfl) (fun K C X => ?_)
  show Zs K 0 0 (wX3 g a0 r0 q0_0 s0) [(0, .ref a0)] 0 []
  unfold f_X3_cardsInTurn at h
  refine z_aload_n (pc := 0) (x := a0) C dX3_cardsInTurn_0 (i := 0) rfl rfl ?_
  refine z_get (pc := 1) (v := .ref (r0 1)) C 0 dX3_cardsInTurn_1 fl_RX3_9 rfl rfl ?_
  refine z_aload_n (pc := 4) (x := a0) C dX3_cardsInTurn_4 (i := 0) rfl rfl ?_
  refine z_get (pc := 5) (v := .int (s0.1 5)) C 0 dX3_cardsInTurn_5 fl_RX3_30 rfl rfl ?_
  replace h := chk_e h
  obtain ⟨hb1, h⟩ := h
  refine z_lald (pc := 8) C 1 dX3_cardsInTurn_8 rfl hb1 ?_
  exact z_lret C X dX3_cardsInTurn_9 (by rw [← Option.some.inj h]; exact ⟨rfl, rfl⟩) (by decide) (by decide)
def f_X3_holds (N : Nat) (s0 : Ob) (p1 : Int32) : Option (Int32) := (if p1 < 0 then (some (0 : Int32)) else (if (40 : Int32) ≤ p1 then (some (0 : Int32)) else (chk (inb (s0.1 5) 4) (znm ((((s0.2.2.2 1) ((s0.1 5)).toNatClampNeg) >>> ((p1).toInt64 &&& 63)) &&& (1 : Int64)) fun x2 => (if (lg_cmp x2 (0 : Int64)) = 0 then (some (0 : Int32)) else (some (1 : Int32)))))))
theorem m_X3_holds {g : Gp} {a0 : Nat} {r0 : Nat → Nat} {q0_0 : Nat} {N : Nat} {s0 : Ob} {p1 : Int32} {res : Int32} (hg : Ok g) (h : f_X3_holds N s0 p1 = some res) : Ct g yX3_holds cX3_holds 2 (some .boolean) (zrm 0 0) [.ref a0, .int p1] (wX3 g a0 r0 q0_0 s0) (exR (some (.int res)) (wX3 g a0 r0 q0_0 s0)) := by
  refine ct_of rfl hg (by show _ ≤ _; exact Nat.le_of_ble_eq_true rfl) (fun K C X => ?_)
  show Zs K 0 0 (wX3 g a0 r0 q0_0 s0) [(0, .ref a0), (1, .int p1)] 0 []
  unfold f_X3_holds at h
  refine z_iload_n (pc := 0) (x := p1) C dX3_holds_0 (i := 1) rfl rfl ?_
  refine z_if_lt (pc := 1) C dX3_holds_1 (tgt := 32) (by decide) (fun hc => ?_) (fun hc => ?_)
  · replace h := (ite_e h).1 hc
    refine z_iconst (pc := 32) C dX3_holds_32 ic_0 ?_
    exact z_zret C X dX3_holds_33 rfl (by rw [← Option.some.inj h]; exact ⟨rfl, rfl⟩) (by decide) (by decide)
  · replace h := (ite_e h).2 hc
    refine z_iload_n (pc := 4) (x := p1) C dX3_holds_4 (i := 1) rfl rfl ?_
    refine z_bipush (pc := 5) C dX3_holds_5 bp_40 ?_
    refine z_icmp_ge (pc := 7) C dX3_holds_7 (tgt := 32) (by decide) (fun hc => ?_) (fun hc => ?_)
    · replace h := (ite_e h).1 hc
      refine z_iconst (pc := 32) C dX3_holds_32 ic_0 ?_
      exact z_zret C X dX3_holds_33 rfl (by rw [← Option.some.inj h]; exact ⟨rfl, rfl⟩) (by decide) (by decide)
    · replace h := (ite_e h).2 hc
      refine z_aload_n (pc := 10) (x := a0) C dX3_holds_10 (i := 0) rfl rfl ?_
      refine z_get (pc := 11) (v := .ref (r0 1)) C 0 dX3_holds_11 fl_RX3_9 rfl rfl ?_
      refine z_aload_n (pc := 14) (x := a0) C dX3_holds_14 (i := 0) rfl rfl ?_
      refine z_get (pc := 15) (v := .int (s0.1 5)) C 0 dX3_holds_15 fl_RX3_30 rfl rfl ?_
      replace h := chk_e h
      obtain ⟨hb1, h⟩ := h
      refine z_lald (pc := 18) C 1 dX3_holds_18 rfl hb1 ?_
      refine z_iload_n (pc := 19) (x := p1) C dX3_holds_19 (i := 1) rfl rfl ?_
      refine z_lshr (pc := 20) C dX3_holds_20 ?_
      refine z_lconst (pc := 21) (v := (1 : Int64)) C dX3_holds_21 rfl ?_
      refine z_land (pc := 22) C dX3_holds_22 ?_
      replace h := znm_e h
      obtain ⟨x2, hx2, h⟩ := h
      refine z_top2 hx2 ?_
      refine z_lconst (pc := 23) (v := (0 : Int64)) C dX3_holds_23 rfl ?_
      refine z_lcmp (pc := 24) C dX3_holds_24 ?_
      refine z_if_eq (pc := 25) C dX3_holds_25 (tgt := 32) (by decide) (fun hc => ?_) (fun hc => ?_)
      · replace h := (ite_e h).1 hc
        refine z_iconst (pc := 32) C dX3_holds_32 ic_0 ?_
        exact z_zret C X dX3_holds_33 rfl (by rw [← Option.some.inj h]; exact ⟨rfl, rfl⟩) (by decide) (by decide)
      · replace h := (ite_e h).2 hc
        refine z_iconst (pc := 28) C dX3_holds_28 ic_1 ?_
        refine z_goto (pc := 29) C dX3_holds_29 (tgt := 33) (by decide) ?_
        exact z_zret C X dX3_holds_33 rfl (by rw [← Option.some.inj h]; exact ⟨rfl, rfl⟩) (by decide) (by decide)
def f_X3_isNext (N : Nat) (s0 : Ob) (p1 : Int32) : Option (Int32) := (chk (inb (p1 / (5 : Int32)) 4) (if ((s0.2.2.1 2) ((p1 / (5 : Int32))).toNatClampNeg) = (p1 - p1 / (5 : Int32) * (5 : Int32)) then (some (1 : Int32)) else (some (0 : Int32))))
theorem m_X3_isNext {g : Gp} {a0 : Nat} {r0 : Nat → Nat} {q0_0 : Nat} {N : Nat} {s0 : Ob} {p1 : Int32} {res : Int32} (hg : Ok g) (h : f_X3_isNext N s0 p1 = some res) : Ct g yX3_isNext cX3_isNext 2 (some .boolean) (zrm 0 0) [.ref a0, .int p1] (wX3 g a0 r0 q0_0 s0) (exR (some (.int res)) (wX3 g a0 r0 q0_0 s0)) := by
  refine ct_of rfl hg (by show _ ≤ _; exact Nat.le_of_ble_eq_true rfl) (fun K C X => ?_)
  show Zs K 0 0 (wX3 g a0 r0 q0_0 s0) [(0, .ref a0), (1, .int p1)] 0 []
  unfold f_X3_isNext at h
  refine z_aload_n (pc := 0) (x := a0) C dX3_isNext_0 (i := 0) rfl rfl ?_
  refine z_get (pc := 1) (v := .ref (r0 2)) C 0 dX3_isNext_1 fl_RX3_15 rfl rfl ?_
  refine z_iload_n (pc := 4) (x := p1) C dX3_isNext_4 (i := 1) rfl rfl ?_
  refine z_iconst (pc := 5) C dX3_isNext_5 ic_5 ?_
  refine z_idiv (pc := 6) C dX3_isNext_6 (by decide) ?_
  replace h := chk_e h
  obtain ⟨hb1, h⟩ := h
  refine z_iald (pc := 7) C 2 dX3_isNext_7 rfl hb1 ?_
  refine z_iload_n (pc := 8) (x := p1) C dX3_isNext_8 (i := 1) rfl rfl ?_
  refine z_iconst (pc := 9) C dX3_isNext_9 ic_5 ?_
  refine z_irem (pc := 10) C dX3_isNext_10 (by decide) ?_
  refine z_icmp_ne (pc := 11) C dX3_isNext_11 (tgt := 18) (by decide) (fun hc => ?_) (fun hc => ?_)
  · replace h := (ite_e h).2 hc
    refine z_iconst (pc := 18) C dX3_isNext_18 ic_0 ?_
    exact z_zret C X dX3_isNext_19 rfl (by rw [← Option.some.inj h]; exact ⟨rfl, rfl⟩) (by decide) (by decide)
  · replace h := (ite_e h).1 hc
    refine z_iconst (pc := 14) C dX3_isNext_14 ic_1 ?_
    refine z_goto (pc := 15) C dX3_isNext_15 (tgt := 19) (by decide) ?_
    exact z_zret C X dX3_isNext_19 rfl (by rw [← Option.some.inj h]; exact ⟨rfl, rfl⟩) (by decide) (by decide)
def f_X3_isSensible (N : Nat) (s0 : Ob) (s1 : Ob) (p1 : Int32) (p2 : Int32) : Option (Int32) := (if p1 = (0 : Int32) then (ob (f_X3_holds N s0 p2) fun x1 => (if x1 = 0 then (some (0 : Int32)) else (chk (inb p2 40) (ob (f_X3_isNext N s0 ((s1.2.2.1 8) (p2).toNatClampNeg)) fun x3 => (if x3 = 0 then (some (0 : Int32)) else (some (1 : Int32))))))) else (if p1 = (1 : Int32) then (ob (f_X3_holds N s0 p2) fun x4 => (chk (zisB x4) (some x4))) else (if p1 = (2 : Int32) then (if (s0.1 3) ≤ 0 then (some (0 : Int32)) else (some (1 : Int32))) else (chk (inb (s0.1 5) 4) (if (lg_cmp ((s0.2.2.2 1) ((s0.1 5)).toNatClampNeg) (0 : Int64)) = 0 then (some (1 : Int32)) else (some (0 : Int32)))))))
theorem m_X3_isSensible {g : Gp} {a0 : Nat} {r0 : Nat → Nat} {q0_0 : Nat} {r1 : Nat → Nat} {N : Nat} {s0 : Ob} {s1 : Ob} {p1 : Int32} {p2 : Int32} {res : Int32} (hg : Ok g) (h : f_X3_isSensible N s0 s1 p1 p2 = some res) : Ct g yX3_isSensible cX3_isSensible 3 (some .boolean) (zrm 1 21) [.ref a0, .int p1, .int p2] (wX3 g a0 r0 q0_0 s0 ++ wX5 g q0_0 r1 s1) (exR (some (.int res)) (wX3 g a0 r0 q0_0 s0 ++ wX5 g q0_0 r1 s1)) := by
  refine ct_of rfl hg (by show _ ≤ _; exact Nat.le_of_ble_eq_true rfl) (fun K C X => ?_)
  show Zs K 0 0 (wX3 g a0 r0 q0_0 s0 ++ wX5 g q0_0 r1 s1) [(0, .ref a0), (1, .int p1), (2, .int p2)] 0 []
  unfold f_X3_isSensible at h
  refine z_iload_n (pc := 0) (x := p1) C dX3_isSensible_0 (i := 1) rfl rfl ?_
  refine (Decidable.em (p1 = (0 : Int32))).elim (fun hc => ?_) (fun hn0 => ?_)
  · refine z_tswIn (pc := 1) C (0 : Int32) dX3_isSensible_1 hc (by decide) (by decide) (off := 27) rfl (tgt := 28) (by decide) ?_
    replace h := (ite_e h).1 hc
    refine z_aload_n (pc := 28) (x := a0) C dX3_isSensible_28 (i := 0) rfl rfl ?_
    refine z_iload_n (pc := 29) (x := p2) C dX3_isSensible_29 (i := 2) rfl rfl ?_
    replace h := ob_e h
    obtain ⟨x1, hx1, h⟩ := h
    refine z_callV (pc := 30) (As := [.int p2]) (rest := []) (wr := (wX5 g q0_0 r1 s1)) C dX3_isSensible_30 ml_RX3_71 wv_X3_holds (m_X3_holds (a0 := a0) (r0 := r0) (q0_0 := q0_0) hg hx1) [0, 1, 2] [3, 4, 5, 6] rfl rfl ⟨by decide, by decide⟩ (Nat.le_of_ble_eq_true rfl) ⟨by decide, by decide⟩ rfl rfl rfl rfl rfl rfl rfl (by decide) (ex_k C (cs' := 0) (ss' := 0) (wF := (wX3 g a0 r0 q0_0 s0 ++ wX5 g q0_0 r1 s1)) [4, 5, 6, 0, 1, 2, 3] rfl rfl ?_)
    refine z_if_eq (pc := 33) C dX3_isSensible_33 (tgt := 56) (by decide) (fun hc => ?_) (fun hc => ?_)
    · replace h := (ite_e h).1 hc
      refine z_iconst (pc := 56) C dX3_isSensible_56 ic_0 ?_
      exact z_zret C X dX3_isSensible_57 rfl (by rw [← Option.some.inj h]; exact ⟨rfl, rfl⟩) (by decide) (by decide)
    · replace h := (ite_e h).2 hc
      refine z_aload_n (pc := 36) (x := a0) C dX3_isSensible_36 (i := 0) rfl rfl ?_
      refine z_aload_n (pc := 37) (x := a0) C dX3_isSensible_37 (i := 0) rfl rfl ?_
      refine z_get (pc := 38) (v := .ref q0_0) C 0 dX3_isSensible_38 fl_RX3_19 rfl rfl ?_
      refine z_get (pc := 41) (v := .ref (r1 8)) C 3 dX3_isSensible_41 fl_RX3_75 rfl rfl ?_
      refine z_iload_n (pc := 44) (x := p2) C dX3_isSensible_44 (i := 2) rfl rfl ?_
      replace h := chk_e h
      obtain ⟨hb2, h⟩ := h
      refine z_iald (pc := 45) C 4 dX3_isSensible_45 rfl hb2 ?_
      replace h := ob_e h
      obtain ⟨x3, hx3, h⟩ := h
      refine z_callV (pc := 46) (As := [.int ((s1.2.2.1 8) (p2).toNatClampNeg)]) (rest := []) (wr := (wX5 g q0_0 r1 s1)) C dX3_isSensible_46 ml_RX3_78 wv_X3_isNext (m_X3_isNext (a0 := a0) (r0 := r0) (q0_0 := q0_0) hg hx3) [0, 1, 2] [3, 4, 5, 6] rfl rfl ⟨by decide, by decide⟩ (Nat.le_of_ble_eq_true rfl) ⟨by decide, by decide⟩ rfl rfl rfl rfl rfl rfl rfl (by decide) (ex_k C (cs' := 0) (ss' := 0) (wF := (wX3 g a0 r0 q0_0 s0 ++ wX5 g q0_0 r1 s1)) [4, 5, 6, 0, 1, 2, 3] rfl rfl ?_)
      refine z_if_eq (pc := 49) C dX3_isSensible_49 (tgt := 56) (by decide) (fun hc => ?_) (fun hc => ?_)
      · replace h := (ite_e h).1 hc
        refine z_iconst (pc := 56) C dX3_isSensible_56 ic_0 ?_
        exact z_zret C X dX3_isSensible_57 rfl (by rw [← Option.some.inj h]; exact ⟨rfl, rfl⟩) (by decide) (by decide)
      · replace h := (ite_e h).2 hc
        refine z_iconst (pc := 52) C dX3_isSensible_52 ic_1 ?_
        refine z_goto (pc := 53) C dX3_isSensible_53 (tgt := 57) (by decide) ?_
        exact z_zret C X dX3_isSensible_57 rfl (by rw [← Option.some.inj h]; exact ⟨rfl, rfl⟩) (by decide) (by decide)
  replace h := (ite_e h).2 hn0
  refine (Decidable.em (p1 = (1 : Int32))).elim (fun hc => ?_) (fun hn1 => ?_)
  · refine z_tswIn (pc := 1) C (1 : Int32) dX3_isSensible_1 hc (by decide) (by decide) (off := 57) rfl (tgt := 58) (by decide) ?_
    replace h := (ite_e h).1 hc
    refine z_aload_n (pc := 58) (x := a0) C dX3_isSensible_58 (i := 0) rfl rfl ?_
    refine z_iload_n (pc := 59) (x := p2) C dX3_isSensible_59 (i := 2) rfl rfl ?_
    replace h := ob_e h
    obtain ⟨x4, hx4, h⟩ := h
    refine z_callV (pc := 60) (As := [.int p2]) (rest := []) (wr := (wX5 g q0_0 r1 s1)) C dX3_isSensible_60 ml_RX3_71 wv_X3_holds (m_X3_holds (a0 := a0) (r0 := r0) (q0_0 := q0_0) hg hx4) [0, 1, 2] [3, 4, 5, 6] rfl rfl ⟨by decide, by decide⟩ (Nat.le_of_ble_eq_true rfl) ⟨by decide, by decide⟩ rfl rfl rfl rfl rfl rfl rfl (by decide) (ex_k C (cs' := 0) (ss' := 0) (wF := (wX3 g a0 r0 q0_0 s0 ++ wX5 g q0_0 r1 s1)) [4, 5, 6, 0, 1, 2, 3] rfl rfl ?_)
    replace h := chk_e h
    obtain ⟨hb5, h⟩ := h
    exact z_zret C X dX3_isSensible_63 (zisB_nar hb5) (by rw [← Option.some.inj h]; exact ⟨rfl, rfl⟩) (by decide) (by decide)
  replace h := (ite_e h).2 hn1
  refine (Decidable.em (p1 = (2 : Int32))).elim (fun hc => ?_) (fun hn2 => ?_)
  · refine z_tswIn (pc := 1) C (2 : Int32) dX3_isSensible_1 hc (by decide) (by decide) (off := 63) rfl (tgt := 64) (by decide) ?_
    replace h := (ite_e h).1 hc
    refine z_aload_n (pc := 64) (x := a0) C dX3_isSensible_64 (i := 0) rfl rfl ?_
    refine z_get (pc := 65) (v := .int (s0.1 3)) C 0 dX3_isSensible_65 fl_RX3_23 rfl rfl ?_
    refine z_if_le (pc := 68) C dX3_isSensible_68 (tgt := 75) (by decide) (fun hc => ?_) (fun hc => ?_)
    · replace h := (ite_e h).1 hc
      refine z_iconst (pc := 75) C dX3_isSensible_75 ic_0 ?_
      exact z_zret C X dX3_isSensible_76 rfl (by rw [← Option.some.inj h]; exact ⟨rfl, rfl⟩) (by decide) (by decide)
    · replace h := (ite_e h).2 hc
      refine z_iconst (pc := 71) C dX3_isSensible_71 ic_1 ?_
      refine z_goto (pc := 72) C dX3_isSensible_72 (tgt := 76) (by decide) ?_
      exact z_zret C X dX3_isSensible_76 rfl (by rw [← Option.some.inj h]; exact ⟨rfl, rfl⟩) (by decide) (by decide)
  replace h := (ite_e h).2 hn2
  refine z_tswOut (pc := 1) C dX3_isSensible_1 (by have e0 := lv_neT hn0 (a := 0) (by decide); have e1 := lv_neT hn1 (a := 1) (by decide); have e2 := lv_neT hn2 (a := 2) (by decide); omega) (tgt := 77) (by decide) ?_
  refine z_aload_n (pc := 77) (x := a0) C dX3_isSensible_77 (i := 0) rfl rfl ?_
  refine z_get (pc := 78) (v := .ref (r0 1)) C 0 dX3_isSensible_78 fl_RX3_9 rfl rfl ?_
  refine z_aload_n (pc := 81) (x := a0) C dX3_isSensible_81 (i := 0) rfl rfl ?_
  refine z_get (pc := 82) (v := .int (s0.1 5)) C 0 dX3_isSensible_82 fl_RX3_30 rfl rfl ?_
  replace h := chk_e h
  obtain ⟨hb6, h⟩ := h
  refine z_lald (pc := 85) C 1 dX3_isSensible_85 rfl hb6 ?_
  refine z_lconst (pc := 86) (v := (0 : Int64)) C dX3_isSensible_86 rfl ?_
  refine z_lcmp (pc := 87) C dX3_isSensible_87 ?_
  refine z_if_ne (pc := 88) C dX3_isSensible_88 (tgt := 95) (by decide) (fun hc => ?_) (fun hc => ?_)
  · replace h := (ite_e h).2 hc
    refine z_iconst (pc := 95) C dX3_isSensible_95 ic_0 ?_
    exact z_zret C X dX3_isSensible_96 rfl (by rw [← Option.some.inj h]; exact ⟨rfl, rfl⟩) (by decide) (by decide)
  · replace h := (ite_e h).1 hc
    refine z_iconst (pc := 91) C dX3_isSensible_91 ic_1 ?_
    refine z_goto (pc := 92) C dX3_isSensible_92 (tgt := 96) (by decide) ?_
    exact z_zret C X dX3_isSensible_96 rfl (by rw [← Option.some.inj h]; exact ⟨rfl, rfl⟩) (by decide) (by decide)
def f_X3_putOnPile (N : Nat) (s0 : Ob) (s1 : Ob) (p1 : Int32) : Option (Ob) := (chk (inb (p1 / (5 : Int32)) 4) (chk (inb (p1 / (5 : Int32)) 4) (chk (inb (p1 / (5 : Int32)) 4) (znm ((upd (s0.2.2.1 2) ((p1 / (5 : Int32))).toNatClampNeg (((s0.2.2.1 2) ((p1 / (5 : Int32))).toNatClampNeg) + (1 : Int32))) ((p1 / (5 : Int32))).toNatClampNeg) fun x4 => (if x4 = (s1.1 1) then (znm (if (s1.1 4) < ((s0.1 3) + (1 : Int32)) then (s1.1 4) else ((s0.1 3) + (1 : Int32))) fun x5 => (znm (sa s0 2 (upd (s0.2.2.1 2) ((p1 / (5 : Int32))).toNatClampNeg (((s0.2.2.1 2) ((p1 / (5 : Int32))).toNatClampNeg) + (1 : Int32)))) fun y6 => (some (si y6 3 x5)))) else (some (sa s0 2 (upd (s0.2.2.1 2) ((p1 / (5 : Int32))).toNatClampNeg (((s0.2.2.1 2) ((p1 / (5 : Int32))).toNatClampNeg) + (1 : Int32))))))))))
theorem m_X3_putOnPile {g : Gp} {a0 : Nat} {r0 : Nat → Nat} {q0_0 : Nat} {r1 : Nat → Nat} {N : Nat} {s0 : Ob} {s1 : Ob} {p1 : Int32} {res : Ob} (hg : Ok g) (h : f_X3_putOnPile N s0 s1 p1 = some res) : Ct g yX3_putOnPile cX3_putOnPile 3 none (zrm 1 14) [.ref a0, .int p1] (wX3 g a0 r0 q0_0 s0 ++ wX5 g q0_0 r1 s1) (exR none (wX3 g a0 r0 q0_0 res ++ wX5 g q0_0 r1 s1)) := by
  refine ct_of rfl hg (by show _ ≤ _; exact Nat.le_of_ble_eq_true rfl) (fun K C X => ?_)
  show Zs K 0 0 (wX3 g a0 r0 q0_0 s0 ++ wX5 g q0_0 r1 s1) [(0, .ref a0), (1, .int p1)] 0 []
  unfold f_X3_putOnPile at h
  refine z_iload_n (pc := 0) (x := p1) C dX3_putOnPile_0 (i := 1) rfl rfl ?_
  refine z_iconst (pc := 1) C dX3_putOnPile_1 ic_5 ?_
  refine z_idiv (pc := 2) C dX3_putOnPile_2 (by decide) ?_
  refine z_istore_n (pc := 3) C dX3_putOnPile_3 (i := 2) rfl (by decide) (lv' := [(2, .int (p1 / (5 : Int32))), (0, .ref a0), (1, .int p1)]) rfl ?_
  refine z_aload_n (pc := 4) (x := a0) C dX3_putOnPile_4 (i := 0) rfl rfl ?_
  refine z_get (pc := 5) (v := .ref (r0 2)) C 0 dX3_putOnPile_5 fl_RX3_15 rfl rfl ?_
  refine z_iload_n (pc := 8) (x := (p1 / (5 : Int32))) C dX3_putOnPile_8 (i := 2) rfl rfl ?_
  refine z_dup2 (pc := 9) C dX3_putOnPile_9 rfl rfl ?_
  replace h := chk_e h
  obtain ⟨hb1, h⟩ := h
  refine z_iald (pc := 10) C 2 dX3_putOnPile_10 rfl hb1 ?_
  refine z_iconst (pc := 11) C dX3_putOnPile_11 ic_1 ?_
  refine z_iadd (pc := 12) C dX3_putOnPile_12 ?_
  replace h := chk_e h
  obtain ⟨hb2, h⟩ := h
  refine z_iast (pc := 13) C 2 dX3_putOnPile_13 rfl hb2 (ws' := (wX3 g a0 r0 q0_0 (sa s0 2 (upd (s0.2.2.1 2) ((p1 / (5 : Int32))).toNatClampNeg (((s0.2.2.1 2) ((p1 / (5 : Int32))).toNatClampNeg) + (1 : Int32)))) ++ wX5 g q0_0 r1 s1)) rfl ?_
  refine z_aload_n (pc := 14) (x := a0) C dX3_putOnPile_14 (i := 0) rfl rfl ?_
  refine z_get (pc := 15) (v := .ref (r0 2)) C 0 dX3_putOnPile_15 fl_RX3_15 rfl rfl ?_
  refine z_iload_n (pc := 18) (x := (p1 / (5 : Int32))) C dX3_putOnPile_18 (i := 2) rfl rfl ?_
  replace h := chk_e h
  obtain ⟨hb3, h⟩ := h
  refine z_iald (pc := 19) C 2 dX3_putOnPile_19 rfl hb3 ?_
  replace h := znm_e h
  obtain ⟨x4, hx4, h⟩ := h
  refine z_top1 hx4 ?_
  refine z_aload_n (pc := 20) (x := a0) C dX3_putOnPile_20 (i := 0) rfl rfl ?_
  refine z_get (pc := 21) (v := .ref q0_0) C 0 dX3_putOnPile_21 fl_RX3_19 rfl rfl ?_
  refine z_get (pc := 24) (v := .int (s1.1 1)) C 3 dX3_putOnPile_24 fl_RX3_68 rfl rfl ?_
  refine z_icmp_ne (pc := 27) C dX3_putOnPile_27 (tgt := 50) (by decide) (fun hc => ?_) (fun hc => ?_)
  · replace h := (ite_e h).2 hc
    exact z_vret C X dX3_putOnPile_50 (by rw [← Option.some.inj h]; exact ⟨rfl, rfl⟩) (by decide) (by decide)
  · replace h := (ite_e h).1 hc
    refine z_aload_n (pc := 30) (x := a0) C dX3_putOnPile_30 (i := 0) rfl rfl ?_
    refine z_aload_n (pc := 31) (x := a0) C dX3_putOnPile_31 (i := 0) rfl rfl ?_
    refine z_get (pc := 32) (v := .int (s0.1 3)) C 0 dX3_putOnPile_32 fl_RX3_23 rfl rfl ?_
    refine z_iconst (pc := 35) C dX3_putOnPile_35 ic_1 ?_
    refine z_iadd (pc := 36) C dX3_putOnPile_36 ?_
    refine z_aload_n (pc := 37) (x := a0) C dX3_putOnPile_37 (i := 0) rfl rfl ?_
    refine z_get (pc := 38) (v := .ref q0_0) C 0 dX3_putOnPile_38 fl_RX3_19 rfl rfl ?_
    refine z_get (pc := 41) (v := .int (s1.1 4)) C 3 dX3_putOnPile_41 fl_RX3_88 rfl rfl ?_
    refine z_mmin (pc := 44) C dX3_putOnPile_44 ml_RX3_91 wm_min (by decide) (Nat.le_of_ble_eq_true rfl) (by decide) (by decide) ?_
    replace h := znm_e h
    obtain ⟨x5, hx5, h⟩ := h
    refine z_top1 hx5 ?_
    replace h := znm_e h
    obtain ⟨y6, hy6, h⟩ := h
    refine z_wsE (ws' := (wX3 g a0 r0 q0_0 y6 ++ wX5 g q0_0 r1 s1)) (by rw [hy6]) ?_
    refine z_put (pc := 47) C 0 dX3_putOnPile_47 fp_RX3_23 rfl rfl rfl (zlt_b rfl) (ws' := (wX3 g a0 r0 q0_0 (si y6 3 x5) ++ wX5 g q0_0 r1 s1)) rfl ?_
    exact z_vret C X dX3_putOnPile_50 (by rw [← Option.some.inj h]; exact ⟨rfl, rfl⟩) (by decide) (by decide)
def f_X3_exchangeCard (N : Nat) (s0 : Ob) (s1 : Ob) (p1 : Int32) : Option (Ob) := (chk (inb (s0.1 5) 4) (znm (((s0.2.2.2 1) ((s0.1 5)).toNatClampNeg) &&& (((1 : Int64) <<< ((p1).toInt64 &&& 63)) ^^^ (-1 : Int64))) fun x2 => (chk (inb (s0.1 5) 4) (if (s1.1 7) ≤ (s0.1 4) then (some (sb s0 1 (vp_updL (s0.2.2.2 1) ((s0.1 5)).toNatClampNeg x2))) else (chk (inb (s0.1 5) 4) (znm ((vp_updL (s0.2.2.2 1) ((s0.1 5)).toNatClampNeg x2) ((s0.1 5)).toNatClampNeg) fun x5 => (znm (sb s0 1 (vp_updL (s0.2.2.2 1) ((s0.1 5)).toNatClampNeg x2)) fun y6 => (chk (inb (s0.1 5) 4) (znm (sb y6 1 (vp_updL (y6.2.2.2 1) ((s0.1 5)).toNatClampNeg (x5 ||| ((1 : Int64) <<< (((s0.1 4)).toInt64 &&& 63))))) fun y8 => (some (si y8 4 ((y6.1 4) + (1 : Int32)))))))))))))
theorem m_X3_exchangeCard {g : Gp} {a0 : Nat} {r0 : Nat → Nat} {q0_0 : Nat} {r1 : Nat → Nat} {N : Nat} {s0 : Ob} {s1 : Ob} {p1 : Int32} {res : Ob} (hg : Ok g) (h : f_X3_exchangeCard N s0 s1 p1 = some res) : Ct g yX3_exchangeCard cX3_exchangeCard 2 none (zrm 0 0) [.ref a0, .int p1] (wX3 g a0 r0 q0_0 s0 ++ wX5 g q0_0 r1 s1) (exR none (wX3 g a0 r0 q0_0 res ++ wX5 g q0_0 r1 s1)) := by
  refine ct_of rfl hg (by show _ ≤ _; exact Nat.le_of_ble_eq_true rfl) (fun K C X => ?_)
  show Zs K 0 0 (wX3 g a0 r0 q0_0 s0 ++ wX5 g q0_0 r1 s1) [(0, .ref a0), (1, .int p1)] 0 []
  unfold f_X3_exchangeCard at h
  refine z_aload_n (pc := 0) (x := a0) C dX3_exchangeCard_0 (i := 0) rfl rfl ?_
  refine z_get (pc := 1) (v := .ref (r0 1)) C 0 dX3_exchangeCard_1 fl_RX3_9 rfl rfl ?_
  refine z_aload_n (pc := 4) (x := a0) C dX3_exchangeCard_4 (i := 0) rfl rfl ?_
  refine z_get (pc := 5) (v := .int (s0.1 5)) C 0 dX3_exchangeCard_5 fl_RX3_30 rfl rfl ?_
  refine z_dup2 (pc := 8) C dX3_exchangeCard_8 rfl rfl ?_
  replace h := chk_e h
  obtain ⟨hb1, h⟩ := h
  refine z_lald (pc := 9) C 1 dX3_exchangeCard_9 rfl hb1 ?_
  refine z_lconst (pc := 10) (v := (1 : Int64)) C dX3_exchangeCard_10 rfl ?_
  refine z_iload_n (pc := 11) (x := p1) C dX3_exchangeCard_11 (i := 1) rfl rfl ?_
  refine z_lshl (pc := 12) C dX3_exchangeCard_12 ?_
  refine z_ldc2 (pc := 13) C dX3_exchangeCard_13 kl_RX3_102 ?_
  refine z_lxor (pc := 16) C dX3_exchangeCard_16 ?_
  refine z_land (pc := 17) C dX3_exchangeCard_17 ?_
  replace h := znm_e h
  obtain ⟨x2, hx2, h⟩ := h
  refine z_top2 hx2 ?_
  replace h := chk_e h
  obtain ⟨hb3, h⟩ := h
  refine z_last (pc := 18) C 1 dX3_exchangeCard_18 rfl hb3 (ws' := (wX3 g a0 r0 q0_0 (sb s0 1 (vp_updL (s0.2.2.2 1) ((s0.1 5)).toNatClampNeg x2)) ++ wX5 g q0_0 r1 s1)) rfl ?_
  refine z_aload_n (pc := 19) (x := a0) C dX3_exchangeCard_19 (i := 0) rfl rfl ?_
  refine z_get (pc := 20) (v := .int (s0.1 4)) C 0 dX3_exchangeCard_20 fl_RX3_27 rfl rfl ?_
  refine z_aload_n (pc := 23) (x := a0) C dX3_exchangeCard_23 (i := 0) rfl rfl ?_
  refine z_get (pc := 24) (v := .ref q0_0) C 0 dX3_exchangeCard_24 fl_RX3_19 rfl rfl ?_
  refine z_get (pc := 27) (v := .int (s1.1 7)) C 3 dX3_exchangeCard_27 fl_RX3_96 rfl rfl ?_
  refine z_icmp_ge (pc := 30) C dX3_exchangeCard_30 (tgt := 61) (by decide) (fun hc => ?_) (fun hc => ?_)
  · replace h := (ite_e h).1 hc
    exact z_vret C X dX3_exchangeCard_61 (by rw [← Option.some.inj h]; exact ⟨rfl, rfl⟩) (by decide) (by decide)
  · replace h := (ite_e h).2 hc
    refine z_aload_n (pc := 33) (x := a0) C dX3_exchangeCard_33 (i := 0) rfl rfl ?_
    refine z_get (pc := 34) (v := .ref (r0 1)) C 0 dX3_exchangeCard_34 fl_RX3_9 rfl rfl ?_
    refine z_aload_n (pc := 37) (x := a0) C dX3_exchangeCard_37 (i := 0) rfl rfl ?_
    refine z_get (pc := 38) (v := .int (s0.1 5)) C 0 dX3_exchangeCard_38 fl_RX3_30 rfl rfl ?_
    refine z_dup2 (pc := 41) C dX3_exchangeCard_41 rfl rfl ?_
    replace h := chk_e h
    obtain ⟨hb4, h⟩ := h
    refine z_lald (pc := 42) C 1 dX3_exchangeCard_42 rfl hb4 ?_
    replace h := znm_e h
    obtain ⟨x5, hx5, h⟩ := h
    refine z_top2 hx5 ?_
    refine z_lconst (pc := 43) (v := (1 : Int64)) C dX3_exchangeCard_43 rfl ?_
    refine z_aload_n (pc := 44) (x := a0) C dX3_exchangeCard_44 (i := 0) rfl rfl ?_
    refine z_get (pc := 45) (v := .int (s0.1 4)) C 0 dX3_exchangeCard_45 fl_RX3_27 rfl rfl ?_
    refine z_lshl (pc := 48) C dX3_exchangeCard_48 ?_
    refine z_lor (pc := 49) C dX3_exchangeCard_49 ?_
    replace h := znm_e h
    obtain ⟨y6, hy6, h⟩ := h
    refine z_wsE (ws' := (wX3 g a0 r0 q0_0 y6 ++ wX5 g q0_0 r1 s1)) (by rw [hy6]) ?_
    replace h := chk_e h
    obtain ⟨hb7, h⟩ := h
    refine z_last (pc := 50) C 1 dX3_exchangeCard_50 rfl hb7 (ws' := (wX3 g a0 r0 q0_0 (sb y6 1 (vp_updL (y6.2.2.2 1) ((s0.1 5)).toNatClampNeg (x5 ||| ((1 : Int64) <<< (((s0.1 4)).toInt64 &&& 63))))) ++ wX5 g q0_0 r1 s1)) rfl ?_
    refine z_aload_n (pc := 51) (x := a0) C dX3_exchangeCard_51 (i := 0) rfl rfl ?_
    refine z_dup (pc := 52) C dX3_exchangeCard_52 rfl ?_
    refine z_get (pc := 53) (v := .int (y6.1 4)) C 0 dX3_exchangeCard_53 fl_RX3_27 rfl rfl ?_
    refine z_iconst (pc := 56) C dX3_exchangeCard_56 ic_1 ?_
    refine z_iadd (pc := 57) C dX3_exchangeCard_57 ?_
    replace h := znm_e h
    obtain ⟨y8, hy8, h⟩ := h
    refine z_wsE (ws' := (wX3 g a0 r0 q0_0 y8 ++ wX5 g q0_0 r1 s1)) (by rw [hy8]) ?_
    refine z_put (pc := 58) C 0 dX3_exchangeCard_58 fp_RX3_27 rfl rfl rfl (zlt_b rfl) (ws' := (wX3 g a0 r0 q0_0 (si y8 4 ((y6.1 4) + (1 : Int32))) ++ wX5 g q0_0 r1 s1)) rfl ?_
    exact z_vret C X dX3_exchangeCard_61 (by rw [← Option.some.inj h]; exact ⟨rfl, rfl⟩) (by decide) (by decide)
def f_X3_move_153 (N : Nat) (s1 : Ob) (p1 : Int32) (p2 : Int32)  (t1 : Int32) (s0 : Ob) : Option (Ob) := (some (si s0 5 t1))
theorem m_X3_move_153 {K : Kt} {g : Gp} {a0 : Nat} {r0 : Nat → Nat} {q0_0 : Nat} {r1 : Nat → Nat} {N : Nat} {s1 : Ob} {p1 : Int32} {p2 : Int32} {res : Ob} (hg : Ok g) (C : Cx K g cX3_move RX3 3 (zrm 2 36)) (X : Rx K (exR none (wX3 g a0 r0 q0_0 res ++ wX5 g q0_0 r1 s1)) 0 0 none) (t1 : Int32) (s0 : Ob) (h : f_X3_move_153 N s1 p1 p2 t1 s0 = some res) : Zs K 0 0 (wX3 g a0 r0 q0_0 s0 ++ wX5 g q0_0 r1 s1) [] 153 [.int t1, .ref a0] := by
  unfold f_X3_move_153 at h
  refine z_put (pc := 153) C 0 dX3_move_153 fp_RX3_30 rfl rfl rfl (zlt_b rfl) (ws' := (wX3 g a0 r0 q0_0 (si s0 5 t1) ++ wX5 g q0_0 r1 s1)) rfl ?_
  exact z_vret C X dX3_move_156 (by rw [← Option.some.inj h]; exact ⟨rfl, rfl⟩) (by decide) (by decide)
def f_X3_move_126 (N : Nat) (s1 : Ob) (p1 : Int32) (p2 : Int32)  (s0 : Ob) : Option (Ob) := (if (s1.1 2) ≤ ((s0.1 5) + (1 : Int32)) then (f_X3_move_153 N s1 p1 p2 (0 : Int32) s0) else (f_X3_move_153 N s1 p1 p2 ((s0.1 5) + (1 : Int32)) s0))
theorem m_X3_move_126 {K : Kt} {g : Gp} {a0 : Nat} {r0 : Nat → Nat} {q0_0 : Nat} {r1 : Nat → Nat} {N : Nat} {s1 : Ob} {p1 : Int32} {p2 : Int32} {res : Ob} (hg : Ok g) (C : Cx K g cX3_move RX3 3 (zrm 2 36)) (X : Rx K (exR none (wX3 g a0 r0 q0_0 res ++ wX5 g q0_0 r1 s1)) 0 0 none) (s0 : Ob) (h : f_X3_move_126 N s1 p1 p2 s0 = some res) : Zs K 0 0 (wX3 g a0 r0 q0_0 s0 ++ wX5 g q0_0 r1 s1) [(0, .ref a0)] 126 [] := by
  unfold f_X3_move_126 at h
  refine z_aload_n (pc := 126) (x := a0) C dX3_move_126 (i := 0) rfl rfl ?_
  refine z_aload_n (pc := 127) (x := a0) C dX3_move_127 (i := 0) rfl rfl ?_
  refine z_get (pc := 128) (v := .int (s0.1 5)) C 0 dX3_move_128 fl_RX3_30 rfl rfl ?_
  refine z_iconst (pc := 131) C dX3_move_131 ic_1 ?_
  refine z_iadd (pc := 132) C dX3_move_132 ?_
  refine z_aload_n (pc := 133) (x := a0) C dX3_move_133 (i := 0) rfl rfl ?_
  refine z_get (pc := 134) (v := .ref q0_0) C 0 dX3_move_134 fl_RX3_19 rfl rfl ?_
  refine z_get (pc := 137) (v := .int (s1.1 2)) C 3 dX3_move_137 fl_RX3_99 rfl rfl ?_
  refine z_icmp_ge (pc := 140) C dX3_move_140 (tgt := 152) (by decide) (fun hc => ?_) (fun hc => ?_)
  · replace h := (ite_e h).1 hc
    refine z_iconst (pc := 152) C dX3_move_152 ic_0 ?_
    refine z_lv (lv' := []) [] rfl ?_
    exact m_X3_move_153 (a0 := a0) (r0 := r0) (q0_0 := q0_0) (r1 := r1) hg C X (0 : Int32) s0 h
  · replace h := (ite_e h).2 hc
    refine z_aload_n (pc := 143) (x := a0) C dX3_move_143 (i := 0) rfl rfl ?_
    refine z_get (pc := 144) (v := .int (s0.1 5)) C 0 dX3_move_144 fl_RX3_30 rfl rfl ?_
    refine z_iconst (pc := 147) C dX3_move_147 ic_1 ?_
    refine z_iadd (pc := 148) C dX3_move_148 ?_
    refine z_goto (pc := 149) C dX3_move_149 (tgt := 153) (by decide) ?_
    refine z_lv (lv' := []) [] rfl ?_
    exact m_X3_move_153 (a0 := a0) (r0 := r0) (q0_0 := q0_0) (r1 := r1) hg C X ((s0.1 5) + (1 : Int32)) s0 h
def f_X3_move_73 (N : Nat) (s1 : Ob) (p1 : Int32) (p2 : Int32)  (s0 : Ob) : Option (Ob) := (if (s0.1 6) ≤ 0 then (if (s0.1 6) = (-1 : Int32) then (if (s0.1 4) < (s1.1 7) then (f_X3_move_126 N s1 p1 p2 s0) else (f_X3_move_126 N s1 p1 p2 (si s0 6 (s1.1 2)))) else (f_X3_move_126 N s1 p1 p2 s0)) else (f_X3_move_126 N s1 p1 p2 (si s0 6 ((s0.1 6) - (1 : Int32)))))
theorem m_X3_move_73 {K : Kt} {g : Gp} {a0 : Nat} {r0 : Nat → Nat} {q0_0 : Nat} {r1 : Nat → Nat} {N : Nat} {s1 : Ob} {p1 : Int32} {p2 : Int32} {res : Ob} (hg : Ok g) (C : Cx K g cX3_move RX3 3 (zrm 2 36)) (X : Rx K (exR none (wX3 g a0 r0 q0_0 res ++ wX5 g q0_0 r1 s1)) 0 0 none) (s0 : Ob) (h : f_X3_move_73 N s1 p1 p2 s0 = some res) : Zs K 0 0 (wX3 g a0 r0 q0_0 s0 ++ wX5 g q0_0 r1 s1) [(0, .ref a0)] 73 [] := by
  unfold f_X3_move_73 at h
  refine z_aload_n (pc := 73) (x := a0) C dX3_move_73 (i := 0) rfl rfl ?_
  refine z_get (pc := 74) (v := .int (s0.1 6)) C 0 dX3_move_74 fl_RX3_33 rfl rfl ?_
  refine z_if_le (pc := 77) C dX3_move_77 (tgt := 93) (by decide) (fun hc => ?_) (fun hc => ?_)
  · replace h := (ite_e h).1 hc
    refine z_aload_n (pc := 93) (x := a0) C dX3_move_93 (i := 0) rfl rfl ?_
    refine z_get (pc := 94) (v := .int (s0.1 6)) C 0 dX3_move_94 fl_RX3_33 rfl rfl ?_
    refine z_iconst (pc := 97) C dX3_move_97 ic_m1 ?_
    refine z_icmp_ne (pc := 98) C dX3_move_98 (tgt := 126) (by decide) (fun hc => ?_) (fun hc => ?_)
    · replace h := (ite_e h).2 hc
      exact m_X3_move_126 (a0 := a0) (r0 := r0) (q0_0 := q0_0) (r1 := r1) hg C X s0 h
    · replace h := (ite_e h).1 hc
      refine z_aload_n (pc := 101) (x := a0) C dX3_move_101 (i := 0) rfl rfl ?_
      refine z_get (pc := 102) (v := .int (s0.1 4)) C 0 dX3_move_102 fl_RX3_27 rfl rfl ?_
      refine z_aload_n (pc := 105) (x := a0) C dX3_move_105 (i := 0) rfl rfl ?_
      refine z_get (pc := 106) (v := .ref q0_0) C 0 dX3_move_106 fl_RX3_19 rfl rfl ?_
      refine z_get (pc := 109) (v := .int (s1.1 7)) C 3 dX3_move_109 fl_RX3_96 rfl rfl ?_
      refine z_icmp_lt (pc := 112) C dX3_move_112 (tgt := 126) (by decide) (fun hc => ?_) (fun hc => ?_)
      · replace h := (ite_e h).1 hc
        exact m_X3_move_126 (a0 := a0) (r0 := r0) (q0_0 := q0_0) (r1 := r1) hg C X s0 h
      · replace h := (ite_e h).2 hc
        refine z_aload_n (pc := 115) (x := a0) C dX3_move_115 (i := 0) rfl rfl ?_
        refine z_aload_n (pc := 116) (x := a0) C dX3_move_116 (i := 0) rfl rfl ?_
        refine z_get (pc := 117) (v := .ref q0_0) C 0 dX3_move_117 fl_RX3_19 rfl rfl ?_
        refine z_get (pc := 120) (v := .int (s1.1 2)) C 3 dX3_move_120 fl_RX3_99 rfl rfl ?_
        refine z_put (pc := 123) C 0 dX3_move_123 fp_RX3_33 rfl rfl rfl (zlt_b rfl) (ws' := (wX3 g a0 r0 q0_0 (si s0 6 (s1.1 2)) ++ wX5 g q0_0 r1 s1)) rfl ?_
        exact m_X3_move_126 (a0 := a0) (r0 := r0) (q0_0 := q0_0) (r1 := r1) hg C X (si s0 6 (s1.1 2)) h
  · replace h := (ite_e h).2 hc
    refine z_aload_n (pc := 80) (x := a0) C dX3_move_80 (i := 0) rfl rfl ?_
    refine z_dup (pc := 81) C dX3_move_81 rfl ?_
    refine z_get (pc := 82) (v := .int (s0.1 6)) C 0 dX3_move_82 fl_RX3_33 rfl rfl ?_
    refine z_iconst (pc := 85) C dX3_move_85 ic_1 ?_
    refine z_isub (pc := 86) C dX3_move_86 ?_
    refine z_put (pc := 87) C 0 dX3_move_87 fp_RX3_33 rfl rfl rfl (zlt_b rfl) (ws' := (wX3 g a0 r0 q0_0 (si s0 6 ((s0.1 6) - (1 : Int32))) ++ wX5 g q0_0 r1 s1)) rfl ?_
    refine z_goto (pc := 90) C dX3_move_90 (tgt := 126) (by decide) ?_
    exact m_X3_move_126 (a0 := a0) (r0 := r0) (q0_0 := q0_0) (r1 := r1) hg C X (si s0 6 ((s0.1 6) - (1 : Int32))) h
def f_X3_move (N : Nat) (s0 : Ob) (s1 : Ob) (p1 : Int32) (p2 : Int32) : Option (Ob) := (if p1 = 0 then (chk (inb p2 40) (ob (f_X3_putOnPile N s0 s1 ((s1.2.2.1 8) (p2).toNatClampNeg)) fun x4 => (ob (f_X3_exchangeCard N x4 s1 p2) fun x5 => (f_X3_move_73 N s1 p1 p2 x5)))) else (if p1 = (1 : Int32) then (znm (if (s1.1 4) < ((s0.1 3) + (1 : Int32)) then (s1.1 4) else ((s0.1 3) + (1 : Int32))) fun x1 => (ob (f_X3_exchangeCard N (si s0 3 x1) s1 p2) fun x2 => (f_X3_move_73 N s1 p1 p2 x2))) else (if p1 = (2 : Int32) then (f_X3_move_73 N s1 p1 p2 (si s0 3 ((s0.1 3) - (1 : Int32)))) else (f_X3_move_73 N s1 p1 p2 s0))))
theorem m_X3_move {g : Gp} {a0 : Nat} {r0 : Nat → Nat} {q0_0 : Nat} {r1 : Nat → Nat} {N : Nat} {s0 : Ob} {s1 : Ob} {p1 : Int32} {p2 : Int32} {res : Ob} (hg : Ok g) (h : f_X3_move N s0 s1 p1 p2 = some res) : Ct g yX3_move cX3_move 3 none (zrm 2 36) [.ref a0, .int p1, .int p2] (wX3 g a0 r0 q0_0 s0 ++ wX5 g q0_0 r1 s1) (exR none (wX3 g a0 r0 q0_0 res ++ wX5 g q0_0 r1 s1)) := by
  refine ct_of rfl hg (by show _ ≤ _; exact Nat.le_of_ble_eq_true rfl) (fun K C X => ?_)
  show Zs K 0 0 (wX3 g a0 r0 q0_0 s0 ++ wX5 g q0_0 r1 s1) [(0, .ref a0), (1, .int p1), (2, .int p2)] 0 []
  unfold f_X3_move at h
  refine z_iload_n (pc := 0) (x := p1) C dX3_move_0 (i := 1) rfl rfl ?_
  refine z_if_ne (pc := 1) C dX3_move_1 (tgt := 25) (by decide) (fun hc => ?_) (fun hc => ?_)
  · replace h := (ite_e h).2 hc
    refine z_iload_n (pc := 25) (x := p1) C dX3_move_25 (i := 1) rfl rfl ?_
    refine z_iconst (pc := 26) C dX3_move_26 ic_1 ?_
    refine z_icmp_ne (pc := 27) C dX3_move_27 (tgt := 58) (by decide) (fun hc => ?_) (fun hc => ?_)
    · replace h := (ite_e h).2 hc
      refine z_iload_n (pc := 58) (x := p1) C dX3_move_58 (i := 1) rfl rfl ?_
      refine z_iconst (pc := 59) C dX3_move_59 ic_2 ?_
      refine z_icmp_ne (pc := 60) C dX3_move_60 (tgt := 73) (by decide) (fun hc => ?_) (fun hc => ?_)
      · replace h := (ite_e h).2 hc
        refine z_lv (lv' := [(0, .ref a0)]) [0] rfl ?_
        exact m_X3_move_73 (a0 := a0) (r0 := r0) (q0_0 := q0_0) (r1 := r1) hg C X s0 h
      · replace h := (ite_e h).1 hc
        refine z_aload_n (pc := 63) (x := a0) C dX3_move_63 (i := 0) rfl rfl ?_
        refine z_dup (pc := 64) C dX3_move_64 rfl ?_
        refine z_get (pc := 65) (v := .int (s0.1 3)) C 0 dX3_move_65 fl_RX3_23 rfl rfl ?_
        refine z_iconst (pc := 68) C dX3_move_68 ic_1 ?_
        refine z_isub (pc := 69) C dX3_move_69 ?_
        refine z_put (pc := 70) C 0 dX3_move_70 fp_RX3_23 rfl rfl rfl (zlt_b rfl) (ws' := (wX3 g a0 r0 q0_0 (si s0 3 ((s0.1 3) - (1 : Int32))) ++ wX5 g q0_0 r1 s1)) rfl ?_
        refine z_lv (lv' := [(0, .ref a0)]) [0] rfl ?_
        exact m_X3_move_73 (a0 := a0) (r0 := r0) (q0_0 := q0_0) (r1 := r1) hg C X (si s0 3 ((s0.1 3) - (1 : Int32))) h
    · replace h := (ite_e h).1 hc
      refine z_aload_n (pc := 30) (x := a0) C dX3_move_30 (i := 0) rfl rfl ?_
      refine z_aload_n (pc := 31) (x := a0) C dX3_move_31 (i := 0) rfl rfl ?_
      refine z_get (pc := 32) (v := .int (s0.1 3)) C 0 dX3_move_32 fl_RX3_23 rfl rfl ?_
      refine z_iconst (pc := 35) C dX3_move_35 ic_1 ?_
      refine z_iadd (pc := 36) C dX3_move_36 ?_
      refine z_aload_n (pc := 37) (x := a0) C dX3_move_37 (i := 0) rfl rfl ?_
      refine z_get (pc := 38) (v := .ref q0_0) C 0 dX3_move_38 fl_RX3_19 rfl rfl ?_
      refine z_get (pc := 41) (v := .int (s1.1 4)) C 3 dX3_move_41 fl_RX3_88 rfl rfl ?_
      refine z_mmin (pc := 44) C dX3_move_44 ml_RX3_91 wm_min (by decide) (Nat.le_of_ble_eq_true rfl) (by decide) (by decide) ?_
      replace h := znm_e h
      obtain ⟨x1, hx1, h⟩ := h
      refine z_top1 hx1 ?_
      refine z_put (pc := 47) C 0 dX3_move_47 fp_RX3_23 rfl rfl rfl (zlt_b rfl) (ws' := (wX3 g a0 r0 q0_0 (si s0 3 x1) ++ wX5 g q0_0 r1 s1)) rfl ?_
      refine z_aload_n (pc := 50) (x := a0) C dX3_move_50 (i := 0) rfl rfl ?_
      refine z_iload_n (pc := 51) (x := p2) C dX3_move_51 (i := 2) rfl rfl ?_
      replace h := ob_e h
      obtain ⟨x2, hx2, h⟩ := h
      refine z_callV (pc := 52) (As := [.int p2]) (rest := []) (wr := ([] : va_W)) C dX3_move_52 ml_RX3_85 wv_X3_exchangeCard (m_X3_exchangeCard (a0 := a0) (r0 := r0) (q0_0 := q0_0) (r1 := r1) hg hx2) [0, 1, 2, 3, 4, 5, 6] [] rfl rfl ⟨by decide, by decide⟩ (Nat.le_of_ble_eq_true rfl) ⟨by decide, by decide⟩ rfl rfl rfl rfl rfl rfl rfl (by decide) (ex_k C (cs' := 0) (ss' := 0) (wF := (wX3 g a0 r0 q0_0 x2 ++ wX5 g q0_0 r1 s1)) [0, 1, 2, 3, 4, 5, 6] rfl rfl ?_)
      refine z_goto (pc := 55) C dX3_move_55 (tgt := 73) (by decide) ?_
      refine z_lv (lv' := [(0, .ref a0)]) [0] rfl ?_
      exact m_X3_move_73 (a0 := a0) (r0 := r0) (q0_0 := q0_0) (r1 := r1) hg C X x2 h
  · replace h := (ite_e h).1 hc
    refine z_aload_n (pc := 4) (x := a0) C dX3_move_4 (i := 0) rfl rfl ?_
    refine z_aload_n (pc := 5) (x := a0) C dX3_move_5 (i := 0) rfl rfl ?_
    refine z_get (pc := 6) (v := .ref q0_0) C 0 dX3_move_6 fl_RX3_19 rfl rfl ?_
    refine z_get (pc := 9) (v := .ref (r1 8)) C 3 dX3_move_9 fl_RX3_75 rfl rfl ?_
    refine z_iload_n (pc := 12) (x := p2) C dX3_move_12 (i := 2) rfl rfl ?_
    replace h := chk_e h
    obtain ⟨hb3, h⟩ := h
    refine z_iald (pc := 13) C 4 dX3_move_13 rfl hb3 ?_
    replace h := ob_e h
    obtain ⟨x4, hx4, h⟩ := h
    refine z_callV (pc := 14) (As := [.int ((s1.2.2.1 8) (p2).toNatClampNeg)]) (rest := []) (wr := ([] : va_W)) C dX3_move_14 ml_RX3_81 wv_X3_putOnPile (m_X3_putOnPile (a0 := a0) (r0 := r0) (q0_0 := q0_0) (r1 := r1) hg hx4) [0, 1, 2, 3, 4, 5, 6] [] rfl rfl ⟨by decide, by decide⟩ (Nat.le_of_ble_eq_true rfl) ⟨by decide, by decide⟩ rfl rfl rfl rfl rfl rfl rfl (by decide) (ex_k C (cs' := 0) (ss' := 0) (wF := (wX3 g a0 r0 q0_0 x4 ++ wX5 g q0_0 r1 s1)) [0, 1, 2, 3, 4, 5, 6] rfl rfl ?_)
    refine z_aload_n (pc := 17) (x := a0) C dX3_move_17 (i := 0) rfl rfl ?_
    refine z_iload_n (pc := 18) (x := p2) C dX3_move_18 (i := 2) rfl rfl ?_
    replace h := ob_e h
    obtain ⟨x5, hx5, h⟩ := h
    refine z_callV (pc := 19) (As := [.int p2]) (rest := []) (wr := ([] : va_W)) C dX3_move_19 ml_RX3_85 wv_X3_exchangeCard (m_X3_exchangeCard (a0 := a0) (r0 := r0) (q0_0 := q0_0) (r1 := r1) hg hx5) [0, 1, 2, 3, 4, 5, 6] [] rfl rfl ⟨by decide, by decide⟩ (Nat.le_of_ble_eq_true rfl) ⟨by decide, by decide⟩ rfl rfl rfl rfl rfl rfl rfl (by decide) (ex_k C (cs' := 0) (ss' := 0) (wF := (wX3 g a0 r0 q0_0 x5 ++ wX5 g q0_0 r1 s1)) [0, 1, 2, 3, 4, 5, 6] rfl rfl ?_)
    refine z_goto (pc := 22) C dX3_move_22 (tgt := 73) (by decide) ?_
    refine z_lv (lv' := [(0, .ref a0)]) [0] rfl ?_
    exact m_X3_move_73 (a0 := a0) (r0 := r0) (q0_0 := q0_0) (r1 := r1) hg C X x5 h
def f_X6_clear (N : Nat) (s0 : Ob) (s1 : Ob) (s2 : Ob) : Option (Ob) := (ob (f_J7_fill_53178 N 8192 (s0.2.2.1 7) (0 : Int32)) fun x1 => (znm (sa s0 7 x1) fun y2 => (znm (si y2 0 (0 : Int32)) fun y3 => (znm (si y3 1 (-1 : Int32)) fun y4 => (znm (si y4 2 (0 : Int32)) fun y5 => (znm (si y5 3 (-1 : Int32)) fun y6 => (some (si y6 4 (-1 : Int32)))))))))
theorem m_X6_clear {g : Gp} {a0 : Nat} {a1 : Nat} {r0 : Nat → Nat} {r1 : Nat → Nat} {q1_0 : Nat} {r2 : Nat → Nat} {q2_0 : Nat} {N : Nat} {s0 : Ob} {s1 : Ob} {s2 : Ob} {res : Ob} (hg : Ok g) (h : f_X6_clear N s0 s1 s2 = some res) : Ct g yX6_clear cX6_clear 2 none (zrm 1 23) [.ref a0, .ref a1] (wX6 g a0 r0 s0 ++ wX3 g (r0 8) r1 q1_0 s1 ++ wX3 g (r0 9) r2 q2_0 s2) (exR none (wX6 g a0 r0 res ++ wX3 g (r0 8) r1 a1 s1 ++ wX3 g (r0 9) r2 a1 s2)) := by
  refine ct_of rfl hg (by show _ ≤ _; exact Nat.le_of_ble_eq_true rfl) (fun K C X => ?_)
  show Zs K 0 0 (wX6 g a0 r0 s0 ++ wX3 g (r0 8) r1 q1_0 s1 ++ wX3 g (r0 9) r2 q2_0 s2) [(0, .ref a0), (1, .ref a1)] 0 []
  unfold f_X6_clear at h
  refine z_aload_n (pc := 0) (x := a0) C dX6_clear_0 (i := 0) rfl rfl ?_
  refine z_get (pc := 1) (v := .ref (r0 8)) C 0 dX6_clear_1 fl_RX6_30 rfl rfl ?_
  refine z_aload_n (pc := 4) (x := a1) C dX6_clear_4 (i := 1) rfl rfl ?_
  refine z_put (pc := 5) C 4 dX6_clear_5 fp_RX6_93 rfl rfl rfl (zlt_b rfl) (ws' := (wX6 g a0 r0 s0 ++ wX3 g (r0 8) r1 a1 s1 ++ wX3 g (r0 9) r2 q2_0 s2)) rfl ?_
  refine z_aload_n (pc := 8) (x := a0) C dX6_clear_8 (i := 0) rfl rfl ?_
  refine z_get (pc := 9) (v := .ref (r0 9)) C 0 dX6_clear_9 fl_RX6_34 rfl rfl ?_
  refine z_aload_n (pc := 12) (x := a1) C dX6_clear_12 (i := 1) rfl rfl ?_
  refine z_put (pc := 13) C 7 dX6_clear_13 fp_RX6_93 rfl rfl rfl (zlt_b rfl) (ws' := (wX6 g a0 r0 s0 ++ wX3 g (r0 8) r1 a1 s1 ++ wX3 g (r0 9) r2 a1 s2)) rfl ?_
  refine z_aload_n (pc := 16) (x := a0) C dX6_clear_16 (i := 0) rfl rfl ?_
  refine z_get (pc := 17) (v := .ref (r0 7)) C 0 dX6_clear_17 fl_RX6_19 rfl rfl ?_
  refine z_iconst (pc := 20) C dX6_clear_20 ic_0 ?_
  replace h := ob_e h
  obtain ⟨x1, hx1, h⟩ := h
  refine z_callS (pc := 21) (As := [.ref (r0 7), .int (0 : Int32)]) (rest := []) (wr := (((wX6 g a0 r0 s0).eraseIdx 3) ++ wX3 g (r0 8) r1 a1 s1 ++ wX3 g (r0 9) r2 a1 s2)) C dX6_clear_21 ml_RX6_94 wt_J7_fill_53178 (m_J7_fill_53178 (a0 := (r0 7)) hg hx1) [3] [0, 1, 2, 4, 5, 6, 7, 8, 9] rfl rfl ⟨by decide, by decide⟩ (Nat.le_of_ble_eq_true rfl) ⟨by decide, by decide⟩ rfl rfl rfl rfl (by decide) (ex_k C (cs' := 0) (ss' := 0) (wF := (wX6 g a0 r0 (sa s0 7 x1) ++ wX3 g (r0 8) r1 a1 s1 ++ wX3 g (r0 9) r2 a1 s2)) [0, 1, 2, 9, 3, 4, 5, 6, 7, 8] rfl rfl ?_)
  refine z_aload_n (pc := 24) (x := a0) C dX6_clear_24 (i := 0) rfl rfl ?_
  refine z_iconst (pc := 25) C dX6_clear_25 ic_0 ?_
  replace h := znm_e h
  obtain ⟨y2, hy2, h⟩ := h
  refine z_wsE (ws' := (wX6 g a0 r0 y2 ++ wX3 g (r0 8) r1 a1 s1 ++ wX3 g (r0 9) r2 a1 s2)) (by rw [hy2]) ?_
  refine z_put (pc := 26) C 0 dX6_clear_26 fp_RX6_100 rfl rfl rfl (zlt_b rfl) (ws' := (wX6 g a0 r0 (si y2 0 (0 : Int32)) ++ wX3 g (r0 8) r1 a1 s1 ++ wX3 g (r0 9) r2 a1 s2)) rfl ?_
  refine z_aload_n (pc := 29) (x := a0) C dX6_clear_29 (i := 0) rfl rfl ?_
  refine z_iconst (pc := 30) C dX6_clear_30 ic_m1 ?_
  replace h := znm_e h
  obtain ⟨y3, hy3, h⟩ := h
  refine z_wsE (ws' := (wX6 g a0 r0 y3 ++ wX3 g (r0 8) r1 a1 s1 ++ wX3 g (r0 9) r2 a1 s2)) (by rw [hy3]) ?_
  refine z_put (pc := 31) C 0 dX6_clear_31 fp_RX6_61 rfl rfl rfl (zlt_b rfl) (ws' := (wX6 g a0 r0 (si y3 1 (-1 : Int32)) ++ wX3 g (r0 8) r1 a1 s1 ++ wX3 g (r0 9) r2 a1 s2)) rfl ?_
  refine z_aload_n (pc := 34) (x := a0) C dX6_clear_34 (i := 0) rfl rfl ?_
  refine z_iconst (pc := 35) C dX6_clear_35 ic_0 ?_
  replace h := znm_e h
  obtain ⟨y4, hy4, h⟩ := h
  refine z_wsE (ws' := (wX6 g a0 r0 y4 ++ wX3 g (r0 8) r1 a1 s1 ++ wX3 g (r0 9) r2 a1 s2)) (by rw [hy4]) ?_
  refine z_put (pc := 36) C 0 dX6_clear_36 fp_RX6_90 rfl rfl rfl (zlt_b rfl) (ws' := (wX6 g a0 r0 (si y4 2 (0 : Int32)) ++ wX3 g (r0 8) r1 a1 s1 ++ wX3 g (r0 9) r2 a1 s2)) rfl ?_
  refine z_aload_n (pc := 39) (x := a0) C dX6_clear_39 (i := 0) rfl rfl ?_
  refine z_iconst (pc := 40) C dX6_clear_40 ic_m1 ?_
  replace h := znm_e h
  obtain ⟨y5, hy5, h⟩ := h
  refine z_wsE (ws' := (wX6 g a0 r0 y5 ++ wX3 g (r0 8) r1 a1 s1 ++ wX3 g (r0 9) r2 a1 s2)) (by rw [hy5]) ?_
  refine z_put (pc := 41) C 0 dX6_clear_41 fp_RX6_84 rfl rfl rfl (zlt_b rfl) (ws' := (wX6 g a0 r0 (si y5 3 (-1 : Int32)) ++ wX3 g (r0 8) r1 a1 s1 ++ wX3 g (r0 9) r2 a1 s2)) rfl ?_
  refine z_aload_n (pc := 44) (x := a0) C dX6_clear_44 (i := 0) rfl rfl ?_
  refine z_iconst (pc := 45) C dX6_clear_45 ic_m1 ?_
  replace h := znm_e h
  obtain ⟨y6, hy6, h⟩ := h
  refine z_wsE (ws' := (wX6 g a0 r0 y6 ++ wX3 g (r0 8) r1 a1 s1 ++ wX3 g (r0 9) r2 a1 s2)) (by rw [hy6]) ?_
  refine z_put (pc := 46) C 0 dX6_clear_46 fp_RX6_87 rfl rfl rfl (zlt_b rfl) (ws' := (wX6 g a0 r0 (si y6 4 (-1 : Int32)) ++ wX3 g (r0 8) r1 a1 s1 ++ wX3 g (r0 9) r2 a1 s2)) rfl ?_
  exact z_vret C X dX6_clear_49 (by rw [← Option.some.inj h]; exact ⟨rfl, rfl⟩) (by decide) (by decide)
def F_X6_slotOf_6 (N : Nat) (s0 : Ob) (s1 : Ob) (p1 : Int32)  (k6 : Int64 → Int32 → Option (Int32)) (v2 : Int64) (v4 : Int32) : Option (Int32) := (if (4 : Int32) ≤ v4 then (znm ((v2).toUInt64 >>> (((32 : Int32)).toInt64.toUInt64 &&& Int64.toUInt64 63)).toInt64 fun x1 => (znm ((((v2 ^^^ x1) * (-7046029254386353131 : Int64))).toUInt64 >>> (((51 : Int32)).toInt64.toUInt64 &&& Int64.toUInt64 63)).toInt64 fun x2 => (some (x2).toInt32))) else (znm ((v2).toUInt64 >>> (((29 : Int32)).toInt64.toUInt64 &&& Int64.toUInt64 63)).toInt64 fun x3 => (chk (inb v4 4) (znm (((v2 ^^^ x3) * (-7046029254386353131 : Int64)) + ((s1.2.2.2 1) (v4).toNatClampNeg)) fun x5 => (k6 x5 (v4 + (1 : Int32)))))))
def f_X6_slotOf_6 (N : Nat) (s0 : Ob) (s1 : Ob) (p1 : Int32)  : Nat → Int64 → Int32 → Option (Int32) := zlp (fun _ _ => none) (F_X6_slotOf_6 N s0 s1 p1)
theorem m_X6_slotOf_6 {K : Kt} {g : Gp} {a0 : Nat} {r0 : Nat → Nat} {r1 : Nat → Nat} {qS : Nat} {N : Nat} {s0 : Ob} {s1 : Ob} {p1 : Int32} {res : Int32} (hg : Ok g) (C : Cx K g cX6_slotOf RX6 5 (zrm 0 0)) (X : Rx K (exR (some (.int res)) (wX6 g a0 r0 s0 ++ wX3 g (r0 9) r1 qS s1)) 0 0 (some .int)) : ∀ (n : Nat) (v2 : Int64) (v4 : Int32), f_X6_slotOf_6 N s0 s1 p1 n v2 v4 = some res → Zs K 0 0 (wX6 g a0 r0 s0 ++ wX3 g (r0 9) r1 qS s1) [(0, .ref a0), (2, .long v2), (4, .int v4)] 6 [] := by
  intro n
  induction n with
  | zero => intro v2 v4 h; exact nomatch (show (none : Option (Int32)) = some res from h)
  | succ n hk6 =>
    intro v2 v4 h
    replace h : F_X6_slotOf_6 N s0 s1 p1 (f_X6_slotOf_6 N s0 s1 p1 n) v2 v4 = some res := h
    unfold F_X6_slotOf_6 at h
    refine z_iload (pc := 6) (x := v4) C dX6_slotOf_6 rfl ?_
    refine z_iconst (pc := 8) C dX6_slotOf_8 ic_4 ?_
    refine z_icmp_ge (pc := 9) C dX6_slotOf_9 (tgt := 40) (by decide) (fun hc => ?_) (fun hc => ?_)
    · replace h := (ite_e h).1 hc
      refine z_lload_n (pc := 40) (x := v2) C dX6_slotOf_40 (i := 2) rfl rfl ?_
      refine z_lload_n (pc := 41) (x := v2) C dX6_slotOf_41 (i := 2) rfl rfl ?_
      refine z_bipush (pc := 42) C dX6_slotOf_42 bp_32 ?_
      refine z_lushr (pc := 44) C dX6_slotOf_44 ?_
      replace h := znm_e h
      obtain ⟨x1, hx1, h⟩ := h
      refine z_top2 hx1 ?_
      refine z_lxor (pc := 45) C dX6_slotOf_45 ?_
      refine z_ldc2 (pc := 46) C dX6_slotOf_46 kl_RX6_166 ?_
      refine z_lmul (pc := 49) C dX6_slotOf_49 ?_
      refine z_lstore_n (pc := 50) C dX6_slotOf_50 (i := 2) rfl (by decide) (lv' := [(2, .long ((v2 ^^^ x1) * (-7046029254386353131 : Int64))), (0, .ref a0), (4, .int v4)]) rfl ?_
      refine z_lload_n (pc := 51) (x := ((v2 ^^^ x1) * (-7046029254386353131 : Int64))) C dX6_slotOf_51 (i := 2) rfl rfl ?_
      refine z_bipush (pc := 52) C dX6_slotOf_52 bp_51 ?_
      refine z_lushr (pc := 54) C dX6_slotOf_54 ?_
      replace h := znm_e h
      obtain ⟨x2, hx2, h⟩ := h
      refine z_top2 hx2 ?_
      refine z_l2i (pc := 55) C dX6_slotOf_55 ?_
      exact z_iret C X dX6_slotOf_56 (by rw [← Option.some.inj h]; exact ⟨rfl, rfl⟩) (by decide) (by decide)
    · replace h := (ite_e h).2 hc
      refine z_lload_n (pc := 12) (x := v2) C dX6_slotOf_12 (i := 2) rfl rfl ?_
      refine z_lload_n (pc := 13) (x := v2) C dX6_slotOf_13 (i := 2) rfl rfl ?_
      refine z_bipush (pc := 14) C dX6_slotOf_14 bp_29 ?_
      refine z_lushr (pc := 16) C dX6_slotOf_16 ?_
      replace h := znm_e h
      obtain ⟨x3, hx3, h⟩ := h
      refine z_top2 hx3 ?_
      refine z_lxor (pc := 17) C dX6_slotOf_17 ?_
      refine z_ldc2 (pc := 18) C dX6_slotOf_18 kl_RX6_166 ?_
      refine z_lmul (pc := 21) C dX6_slotOf_21 ?_
      refine z_aload_n (pc := 22) (x := a0) C dX6_slotOf_22 (i := 0) rfl rfl ?_
      refine z_get (pc := 23) (v := .ref (r0 9)) C 0 dX6_slotOf_23 fl_RX6_34 rfl rfl ?_
      refine z_get (pc := 26) (v := .ref (r1 1)) C 4 dX6_slotOf_26 fl_RX6_119 rfl rfl ?_
      refine z_iload (pc := 29) (x := v4) C dX6_slotOf_29 rfl ?_
      replace h := chk_e h
      obtain ⟨hb4, h⟩ := h
      refine z_lald (pc := 31) C 5 dX6_slotOf_31 rfl hb4 ?_
      refine z_ladd (pc := 32) C dX6_slotOf_32 ?_
      replace h := znm_e h
      obtain ⟨x5, hx5, h⟩ := h
      refine z_top2 hx5 ?_
      refine z_lstore_n (pc := 33) C dX6_slotOf_33 (i := 2) rfl (by decide) (lv' := [(2, .long x5), (0, .ref a0), (4, .int v4)]) rfl ?_
      refine z_iinc (pc := 34) C dX6_slotOf_34 rfl (inc_e 1 (1 : Int32) ic_1 v4) (by decide) (lv' := [(4, .int (v4 + (1 : Int32))), (2, .long x5), (0, .ref a0)]) rfl ?_
      refine z_goto (pc := 37) C dX6_slotOf_37 (tgt := 6) (by decide) ?_
      refine z_lv (lv' := [(0, .ref a0), (2, .long x5), (4, .int (v4 + (1 : Int32)))]) [2, 1, 0] rfl ?_
      exact hk6 x5 (v4 + (1 : Int32)) h
def f_X6_slotOf (N : Nat) (s0 : Ob) (s1 : Ob) (p1 : Int32) : Option (Int32) := (f_X6_slotOf_6 N s0 s1 p1 N (p1).toInt64 (0 : Int32))
theorem m_X6_slotOf {g : Gp} {a0 : Nat} {r0 : Nat → Nat} {r1 : Nat → Nat} {qS : Nat} {N : Nat} {s0 : Ob} {s1 : Ob} {p1 : Int32} {res : Int32} (hg : Ok g) (h : f_X6_slotOf N s0 s1 p1 = some res) : Ct g yX6_slotOf cX6_slotOf 5 (some .int) (zrm 0 0) [.ref a0, .int p1] (wX6 g a0 r0 s0 ++ wX3 g (r0 9) r1 qS s1) (exR (some (.int res)) (wX6 g a0 r0 s0 ++ wX3 g (r0 9) r1 qS s1)) := by
  refine ct_of rfl hg (by show _ ≤ _; exact Nat.le_of_ble_eq_true rfl) (fun K C X => ?_)
  show Zs K 0 0 (wX6 g a0 r0 s0 ++ wX3 g (r0 9) r1 qS s1) [(0, .ref a0), (1, .int p1)] 0 []
  unfold f_X6_slotOf at h
  refine z_iload_n (pc := 0) (x := p1) C dX6_slotOf_0 (i := 1) rfl rfl ?_
  refine z_i2l (pc := 1) C dX6_slotOf_1 ?_
  refine z_lstore_n (pc := 2) C dX6_slotOf_2 (i := 2) rfl (by decide) (lv' := [(2, .long (p1).toInt64), (0, .ref a0), (1, .int p1)]) rfl ?_
  refine z_iconst (pc := 3) C dX6_slotOf_3 ic_0 ?_
  refine z_istore (pc := 4) C dX6_slotOf_4 (by decide) (lv' := [(4, .int (0 : Int32)), (2, .long (p1).toInt64), (0, .ref a0), (1, .int p1)]) rfl ?_
  refine z_lv (lv' := [(0, .ref a0), (2, .long (p1).toInt64), (4, .int (0 : Int32))]) [2, 1, 0] rfl ?_
  exact m_X6_slotOf_6 (a0 := a0) (r0 := r0) (r1 := r1) (qS := qS) hg C X N (p1).toInt64 (0 : Int32) h
def f_X6_store (N : Nat) (s0 : Ob) (s1 : Ob) (p1 : Int32) (p2 : Int32) : Option (Ob) := (if (s0.1 2) < (4000 : Int32) then (chk (inb (s0.1 2) 4000) (znm (sa s0 6 (upd (s0.2.2.1 6) ((s0.1 2)).toNatClampNeg p2)) fun y2 => (chk (decide (¬ ((s0.1 2) * (4 : Int32)) < 0)) (chk (decide ((((s0.1 2) * (4 : Int32))).toNatClampNeg + ((4 : Int32)).toNatClampNeg ≤ 16000)) (znm (sb y2 5 (va_cpy (s1.2.2.2 1) (y2.2.2.2 5) 0 (((s0.1 2) * (4 : Int32))).toNatClampNeg 4)) fun y5 => (znm (si y5 2 ((y2.1 2) + (1 : Int32))) fun y6 => (chk (inb p1 8192) (some (sa y6 7 (upd (y6.2.2.1 7) (p1).toNatClampNeg ((y2.1 2) + (1 : Int32)))))))))))) else (some (si s0 0 (1 : Int32))))
theorem m_X6_store {g : Gp} {a0 : Nat} {r0 : Nat → Nat} {r1 : Nat → Nat} {qS : Nat} {N : Nat} {s0 : Ob} {s1 : Ob} {p1 : Int32} {p2 : Int32} {res : Ob} (hg : Ok g) (h : f_X6_store N s0 s1 p1 p2 = some res) : Ct g yX6_store cX6_store 3 none (zrm 1 18) [.ref a0, .int p1, .int p2] (wX6 g a0 r0 s0 ++ wX3 g (r0 9) r1 qS s1) (exR none (wX6 g a0 r0 res ++ wX3 g (r0 9) r1 qS s1)) := by
  refine ct_of rfl hg (by show _ ≤ _; exact Nat.le_of_ble_eq_true rfl) (fun K C X => ?_)
  show Zs K 0 0 (wX6 g a0 r0 s0 ++ wX3 g (r0 9) r1 qS s1) [(0, .ref a0), (1, .int p1), (2, .int p2)] 0 []
  unfold f_X6_store at h
  refine z_aload_n (pc := 0) (x := a0) C dX6_store_0 (i := 0) rfl rfl ?_
  refine z_get (pc := 1) (v := .int (s0.1 2)) C 0 dX6_store_1 fl_RX6_90 rfl rfl ?_
  refine z_sipush (pc := 4) C dX6_store_4 sp_4000 ?_
  refine z_icmp_lt (pc := 7) C dX6_store_7 (tgt := 16) (by decide) (fun hc => ?_) (fun hc => ?_)
  · replace h := (ite_e h).1 hc
    refine z_aload_n (pc := 16) (x := a0) C dX6_store_16 (i := 0) rfl rfl ?_
    refine z_get (pc := 17) (v := .ref (r0 6)) C 0 dX6_store_17 fl_RX6_15 rfl rfl ?_
    refine z_aload_n (pc := 20) (x := a0) C dX6_store_20 (i := 0) rfl rfl ?_
    refine z_get (pc := 21) (v := .int (s0.1 2)) C 0 dX6_store_21 fl_RX6_90 rfl rfl ?_
    refine z_iload_n (pc := 24) (x := p2) C dX6_store_24 (i := 2) rfl rfl ?_
    replace h := chk_e h
    obtain ⟨hb1, h⟩ := h
    refine z_iast (pc := 25) C 2 dX6_store_25 rfl hb1 (ws' := (wX6 g a0 r0 (sa s0 6 (upd (s0.2.2.1 6) ((s0.1 2)).toNatClampNeg p2)) ++ wX3 g (r0 9) r1 qS s1)) rfl ?_
    refine z_aload_n (pc := 26) (x := a0) C dX6_store_26 (i := 0) rfl rfl ?_
    refine z_get (pc := 27) (v := .ref (r0 9)) C 0 dX6_store_27 fl_RX6_34 rfl rfl ?_
    refine z_get (pc := 30) (v := .ref (r1 1)) C 4 dX6_store_30 fl_RX6_119 rfl rfl ?_
    refine z_iconst (pc := 33) C dX6_store_33 ic_0 ?_
    refine z_aload_n (pc := 34) (x := a0) C dX6_store_34 (i := 0) rfl rfl ?_
    refine z_get (pc := 35) (v := .ref (r0 5)) C 0 dX6_store_35 fl_RX6_11 rfl rfl ?_
    refine z_aload_n (pc := 38) (x := a0) C dX6_store_38 (i := 0) rfl rfl ?_
    refine z_get (pc := 39) (v := .int (s0.1 2)) C 0 dX6_store_39 fl_RX6_90 rfl rfl ?_
    refine z_iconst (pc := 42) C dX6_store_42 ic_4 ?_
    refine z_imul (pc := 43) C dX6_store_43 ?_
    refine z_iconst (pc := 44) C dX6_store_44 ic_4 ?_
    replace h := znm_e h
    obtain ⟨y2, hy2, h⟩ := h
    refine z_wsE (ws' := (wX6 g a0 r0 y2 ++ wX3 g (r0 9) r1 qS s1)) (by rw [hy2]) ?_
    replace h := chk_e h
    obtain ⟨hb3, h⟩ := h
    replace h := chk_e h
    obtain ⟨hb4, h⟩ := h
    refine z_copyl (pc := 45) C 5 1 dX6_store_45 wc_RX6_120 rfl rfl (by decide) (of_decide_eq_true hb3) (by decide) (by decide) (of_decide_eq_true hb4) (by decide) (Nat.le_of_ble_eq_true rfl) (ws' := (wX6 g a0 r0 (sb y2 5 (va_cpy (s1.2.2.2 1) (y2.2.2.2 5) 0 (((s0.1 2) * (4 : Int32))).toNatClampNeg 4)) ++ wX3 g (r0 9) r1 qS s1)) rfl ?_
    refine z_aload_n (pc := 48) (x := a0) C dX6_store_48 (i := 0) rfl rfl ?_
    refine z_dup (pc := 49) C dX6_store_49 rfl ?_
    refine z_get (pc := 50) (v := .int (y2.1 2)) C 0 dX6_store_50 fl_RX6_90 rfl rfl ?_
    refine z_iconst (pc := 53) C dX6_store_53 ic_1 ?_
    refine z_iadd (pc := 54) C dX6_store_54 ?_
    replace h := znm_e h
    obtain ⟨y5, hy5, h⟩ := h
    refine z_wsE (ws' := (wX6 g a0 r0 y5 ++ wX3 g (r0 9) r1 qS s1)) (by rw [hy5]) ?_
    refine z_put (pc := 55) C 0 dX6_store_55 fp_RX6_90 rfl rfl rfl (zlt_b rfl) (ws' := (wX6 g a0 r0 (si y5 2 ((y2.1 2) + (1 : Int32))) ++ wX3 g (r0 9) r1 qS s1)) rfl ?_
    refine z_aload_n (pc := 58) (x := a0) C dX6_store_58 (i := 0) rfl rfl ?_
    refine z_get (pc := 59) (v := .ref (r0 7)) C 0 dX6_store_59 fl_RX6_19 rfl rfl ?_
    refine z_iload_n (pc := 62) (x := p1) C dX6_store_62 (i := 1) rfl rfl ?_
    refine z_aload_n (pc := 63) (x := a0) C dX6_store_63 (i := 0) rfl rfl ?_
    refine z_get (pc := 64) (v := .int ((y2.1 2) + (1 : Int32))) C 0 dX6_store_64 fl_RX6_90 rfl rfl ?_
    replace h := znm_e h
    obtain ⟨y6, hy6, h⟩ := h
    refine z_wsE (ws' := (wX6 g a0 r0 y6 ++ wX3 g (r0 9) r1 qS s1)) (by rw [hy6]) ?_
    replace h := chk_e h
    obtain ⟨hb7, h⟩ := h
    refine z_iast (pc := 67) C 3 dX6_store_67 rfl hb7 (ws' := (wX6 g a0 r0 (sa y6 7 (upd (y6.2.2.1 7) (p1).toNatClampNeg ((y2.1 2) + (1 : Int32)))) ++ wX3 g (r0 9) r1 qS s1)) rfl ?_
    exact z_vret C X dX6_store_68 (by rw [← Option.some.inj h]; exact ⟨rfl, rfl⟩) (by decide) (by decide)
  · replace h := (ite_e h).2 hc
    refine z_aload_n (pc := 10) (x := a0) C dX6_store_10 (i := 0) rfl rfl ?_
    refine z_iconst (pc := 11) C dX6_store_11 ic_1 ?_
    refine z_put (pc := 12) C 0 dX6_store_12 fp_RX6_100 rfl rfl rfl (zlt_b rfl) (ws' := (wX6 g a0 r0 (si s0 0 (1 : Int32)) ++ wX3 g (r0 9) r1 qS s1)) rfl ?_
    exact z_vret C X dX6_store_15 (by rw [← Option.some.inj h]; exact ⟨rfl, rfl⟩) (by decide) (by decide)
def F_X6_isStored_25 (N : Nat) (s0 : Ob) (s1 : Ob) (p1 : Int32) (p2 : Int32)  (k25 : Int32 → Option (Int32)) (v3 : Int32) : Option (Int32) := (if (4 : Int32) ≤ v3 then (some (1 : Int32)) else (chk (inb ((p1 * (4 : Int32)) + v3) 16000) (chk (inb v3 4) (if (lg_cmp ((s0.2.2.2 5) (((p1 * (4 : Int32)) + v3)).toNatClampNeg) ((s1.2.2.2 1) (v3).toNatClampNeg)) = 0 then (k25 (v3 + (1 : Int32))) else (some (0 : Int32))))))
def f_X6_isStored_25 (N : Nat) (s0 : Ob) (s1 : Ob) (p1 : Int32) (p2 : Int32)  : Nat → Int32 → Option (Int32) := zlp (fun _ => none) (F_X6_isStored_25 N s0 s1 p1 p2)
theorem m_X6_isStored_25 {K : Kt} {g : Gp} {a0 : Nat} {r0 : Nat → Nat} {r1 : Nat → Nat} {qS : Nat} {N : Nat} {s0 : Ob} {s1 : Ob} {p1 : Int32} {p2 : Int32} {res : Int32} (hg : Ok g) (C : Cx K g cX6_isStored RX6 4 (zrm 0 0)) (X : Rx K (exR (some (.int res)) (wX6 g a0 r0 s0 ++ wX3 g (r0 9) r1 qS s1)) 0 0 (some .boolean)) : ∀ (n : Nat) (v3 : Int32), f_X6_isStored_25 N s0 s1 p1 p2 n v3 = some res → Zs K 0 0 (wX6 g a0 r0 s0 ++ wX3 g (r0 9) r1 qS s1) [(0, .ref a0), (1, .int p1), (3, .int v3)] 25 [] := by
  intro n
  induction n with
  | zero => intro v3 h; exact nomatch (show (none : Option (Int32)) = some res from h)
  | succ n hk25 =>
    intro v3 h
    replace h : F_X6_isStored_25 N s0 s1 p1 p2 (f_X6_isStored_25 N s0 s1 p1 p2 n) v3 = some res := h
    unfold F_X6_isStored_25 at h
    refine z_iload_n (pc := 25) (x := v3) C dX6_isStored_25 (i := 3) rfl rfl ?_
    refine z_iconst (pc := 26) C dX6_isStored_26 ic_4 ?_
    refine z_icmp_ge (pc := 27) C dX6_isStored_27 (tgt := 61) (by decide) (fun hc => ?_) (fun hc => ?_)
    · replace h := (ite_e h).1 hc
      refine z_iconst (pc := 61) C dX6_isStored_61 ic_1 ?_
      exact z_zret C X dX6_isStored_62 rfl (by rw [← Option.some.inj h]; exact ⟨rfl, rfl⟩) (by decide) (by decide)
    · replace h := (ite_e h).2 hc
      refine z_aload_n (pc := 30) (x := a0) C dX6_isStored_30 (i := 0) rfl rfl ?_
      refine z_get (pc := 31) (v := .ref (r0 5)) C 0 dX6_isStored_31 fl_RX6_11 rfl rfl ?_
      refine z_iload_n (pc := 34) (x := p1) C dX6_isStored_34 (i := 1) rfl rfl ?_
      refine z_iconst (pc := 35) C dX6_isStored_35 ic_4 ?_
      refine z_imul (pc := 36) C dX6_isStored_36 ?_
      refine z_iload_n (pc := 37) (x := v3) C dX6_isStored_37 (i := 3) rfl rfl ?_
      refine z_iadd (pc := 38) C dX6_isStored_38 ?_
      replace h := chk_e h
      obtain ⟨hb2, h⟩ := h
      refine z_lald (pc := 39) C 1 dX6_isStored_39 rfl hb2 ?_
      refine z_aload_n (pc := 40) (x := a0) C dX6_isStored_40 (i := 0) rfl rfl ?_
      refine z_get (pc := 41) (v := .ref (r0 9)) C 0 dX6_isStored_41 fl_RX6_34 rfl rfl ?_
      refine z_get (pc := 44) (v := .ref (r1 1)) C 4 dX6_isStored_44 fl_RX6_119 rfl rfl ?_
      refine z_iload_n (pc := 47) (x := v3) C dX6_isStored_47 (i := 3) rfl rfl ?_
      replace h := chk_e h
      obtain ⟨hb3, h⟩ := h
      refine z_lald (pc := 48) C 5 dX6_isStored_48 rfl hb3 ?_
      refine z_lcmp (pc := 49) C dX6_isStored_49 ?_
      refine z_if_eq (pc := 50) C dX6_isStored_50 (tgt := 55) (by decide) (fun hc => ?_) (fun hc => ?_)
      · replace h := (ite_e h).1 hc
        refine z_iinc (pc := 55) C dX6_isStored_55 rfl (inc_e 1 (1 : Int32) ic_1 v3) (by decide) (lv' := [(3, .int (v3 + (1 : Int32))), (0, .ref a0), (1, .int p1)]) rfl ?_
        refine z_goto (pc := 58) C dX6_isStored_58 (tgt := 25) (by decide) ?_
        refine z_lv (lv' := [(0, .ref a0), (1, .int p1), (3, .int (v3 + (1 : Int32)))]) [1, 2, 0] rfl ?_
        exact hk25 (v3 + (1 : Int32)) h
      · replace h := (ite_e h).2 hc
        refine z_iconst (pc := 53) C dX6_isStored_53 ic_0 ?_
        exact z_zret C X dX6_isStored_54 rfl (by rw [← Option.some.inj h]; exact ⟨rfl, rfl⟩) (by decide) (by decide)
def f_X6_isStored (N : Nat) (s0 : Ob) (s1 : Ob) (p1 : Int32) (p2 : Int32) : Option (Int32) := (if p1 < 0 then (some (0 : Int32)) else (if (4000 : Int32) ≤ p1 then (some (0 : Int32)) else (chk (inb p1 4000) (if ((s0.2.2.1 6) (p1).toNatClampNeg) = p2 then (f_X6_isStored_25 N s0 s1 p1 p2 N (0 : Int32)) else (some (0 : Int32))))))
theorem m_X6_isStored {g : Gp} {a0 : Nat} {r0 : Nat → Nat} {r1 : Nat → Nat} {qS : Nat} {N : Nat} {s0 : Ob} {s1 : Ob} {p1 : Int32} {p2 : Int32} {res : Int32} (hg : Ok g) (h : f_X6_isStored N s0 s1 p1 p2 = some res) : Ct g yX6_isStored cX6_isStored 4 (some .boolean) (zrm 0 0) [.ref a0, .int p1, .int p2] (wX6 g a0 r0 s0 ++ wX3 g (r0 9) r1 qS s1) (exR (some (.int res)) (wX6 g a0 r0 s0 ++ wX3 g (r0 9) r1 qS s1)) := by
  refine ct_of rfl hg (by show _ ≤ _; exact Nat.le_of_ble_eq_true rfl) (fun K C X => ?_)
  show Zs K 0 0 (wX6 g a0 r0 s0 ++ wX3 g (r0 9) r1 qS s1) [(0, .ref a0), (1, .int p1), (2, .int p2)] 0 []
  unfold f_X6_isStored at h
  refine z_iload_n (pc := 0) (x := p1) C dX6_isStored_0 (i := 1) rfl rfl ?_
  refine z_if_lt (pc := 1) C dX6_isStored_1 (tgt := 21) (by decide) (fun hc => ?_) (fun hc => ?_)
  · replace h := (ite_e h).1 hc
    refine z_iconst (pc := 21) C dX6_isStored_21 ic_0 ?_
    exact z_zret C X dX6_isStored_22 rfl (by rw [← Option.some.inj h]; exact ⟨rfl, rfl⟩) (by decide) (by decide)
  · replace h := (ite_e h).2 hc
    refine z_iload_n (pc := 4) (x := p1) C dX6_isStored_4 (i := 1) rfl rfl ?_
    refine z_sipush (pc := 5) C dX6_isStored_5 sp_4000 ?_
    refine z_icmp_ge (pc := 8) C dX6_isStored_8 (tgt := 21) (by decide) (fun hc => ?_) (fun hc => ?_)
    · replace h := (ite_e h).1 hc
      refine z_iconst (pc := 21) C dX6_isStored_21 ic_0 ?_
      exact z_zret C X dX6_isStored_22 rfl (by rw [← Option.some.inj h]; exact ⟨rfl, rfl⟩) (by decide) (by decide)
    · replace h := (ite_e h).2 hc
      refine z_aload_n (pc := 11) (x := a0) C dX6_isStored_11 (i := 0) rfl rfl ?_
      refine z_get (pc := 12) (v := .ref (r0 6)) C 0 dX6_isStored_12 fl_RX6_15 rfl rfl ?_
      refine z_iload_n (pc := 15) (x := p1) C dX6_isStored_15 (i := 1) rfl rfl ?_
      replace h := chk_e h
      obtain ⟨hb1, h⟩ := h
      refine z_iald (pc := 16) C 2 dX6_isStored_16 rfl hb1 ?_
      refine z_iload_n (pc := 17) (x := p2) C dX6_isStored_17 (i := 2) rfl rfl ?_
      refine z_icmp_eq (pc := 18) C dX6_isStored_18 (tgt := 23) (by decide) (fun hc => ?_) (fun hc => ?_)
      · replace h := (ite_e h).1 hc
        refine z_iconst (pc := 23) C dX6_isStored_23 ic_0 ?_
        refine z_istore_n (pc := 24) C dX6_isStored_24 (i := 3) rfl (by decide) (lv' := [(3, .int (0 : Int32)), (0, .ref a0), (1, .int p1), (2, .int p2)]) rfl ?_
        refine z_lv (lv' := [(0, .ref a0), (1, .int p1), (3, .int (0 : Int32))]) [1, 2, 0] rfl ?_
        exact m_X6_isStored_25 (a0 := a0) (r0 := r0) (r1 := r1) (qS := qS) hg C X N (0 : Int32) h
      · replace h := (ite_e h).2 hc
        refine z_iconst (pc := 21) C dX6_isStored_21 ic_0 ?_
        exact z_zret C X dX6_isStored_22 rfl (by rw [← Option.some.inj h]; exact ⟨rfl, rfl⟩) (by decide) (by decide)
def F_X6_add_16 (N : Nat) (s1 : Ob)  (k16 : Int32 → Int32 → Int32 → Ob → Option (Ob)) (v1 : Int32) (v2 : Int32) (v3 : Int32) (s0 : Ob) : Option (Ob) := (if (8192 : Int32) ≤ v3 then (some s0) else (chk (inb v2 8192) (if ((s0.2.2.1 7) (v2).toNatClampNeg) = 0 then (ob (f_X6_store N s0 s1 v2 v1) fun x6 => (some x6)) else (chk (inb v2 8192) (ob (f_X6_isStored N s0 s1 (((s0.2.2.1 7) (v2).toNatClampNeg) - (1 : Int32)) v1) fun x5 => (if x5 = 0 then (if (8192 : Int32) ≤ (v2 + (1 : Int32)) then (k16 v1 (0 : Int32) (v3 + (1 : Int32)) s0) else (k16 v1 (v2 + (1 : Int32)) (v3 + (1 : Int32)) s0)) else (some s0)))))))
def f_X6_add_16 (N : Nat) (s1 : Ob)  : Nat → Int32 → Int32 → Int32 → Ob → Option (Ob) := zlp (fun _ _ _ _ => none) (F_X6_add_16 N s1)
theorem m_X6_add_16 {K : Kt} {g : Gp} {a0 : Nat} {r0 : Nat → Nat} {r1 : Nat → Nat} {qS : Nat} {N : Nat} {s1 : Ob} {res : Ob} (hg : Ok g) (C : Cx K g cX6_add RX6 4 (zrm 2 40)) (X : Rx K (exR none (wX6 g a0 r0 res ++ wX3 g (r0 9) r1 qS s1)) 0 0 none) : ∀ (n : Nat) (v1 : Int32) (v2 : Int32) (v3 : Int32) (s0 : Ob), f_X6_add_16 N s1 n v1 v2 v3 s0 = some res → Zs K 0 0 (wX6 g a0 r0 s0 ++ wX3 g (r0 9) r1 qS s1) [(0, .ref a0), (1, .int v1), (2, .int v2), (3, .int v3)] 16 [] := by
  intro n
  induction n with
  | zero => intro v1 v2 v3 s0 h; exact nomatch (show (none : Option (Ob)) = some res from h)
  | succ n hk16 =>
    intro v1 v2 v3 s0 h
    replace h : F_X6_add_16 N s1 (f_X6_add_16 N s1 n) v1 v2 v3 s0 = some res := h
    unfold F_X6_add_16 at h
    refine z_iload_n (pc := 16) (x := v3) C dX6_add_16 (i := 3) rfl rfl ?_
    refine z_sipush (pc := 17) C dX6_add_17 sp_8192 ?_
    refine z_icmp_ge (pc := 20) C dX6_add_20 (tgt := 79) (by decide) (fun hc => ?_) (fun hc => ?_)
    · replace h := (ite_e h).1 hc
      exact z_vret C X dX6_add_79 (by rw [← Option.some.inj h]; exact ⟨rfl, rfl⟩) (by decide) (by decide)
    · replace h := (ite_e h).2 hc
      refine z_aload_n (pc := 23) (x := a0) C dX6_add_23 (i := 0) rfl rfl ?_
      refine z_get (pc := 24) (v := .ref (r0 7)) C 0 dX6_add_24 fl_RX6_19 rfl rfl ?_
      refine z_iload_n (pc := 27) (x := v2) C dX6_add_27 (i := 2) rfl rfl ?_
      replace h := chk_e h
      obtain ⟨hb3, h⟩ := h
      refine z_iald (pc := 28) C 3 dX6_add_28 rfl hb3 ?_
      refine z_if_ne (pc := 29) C dX6_add_29 (tgt := 39) (by decide) (fun hc => ?_) (fun hc => ?_)
      · replace h := (ite_e h).2 hc
        refine z_aload_n (pc := 39) (x := a0) C dX6_add_39 (i := 0) rfl rfl ?_
        refine z_aload_n (pc := 40) (x := a0) C dX6_add_40 (i := 0) rfl rfl ?_
        refine z_get (pc := 41) (v := .ref (r0 7)) C 0 dX6_add_41 fl_RX6_19 rfl rfl ?_
        refine z_iload_n (pc := 44) (x := v2) C dX6_add_44 (i := 2) rfl rfl ?_
        replace h := chk_e h
        obtain ⟨hb4, h⟩ := h
        refine z_iald (pc := 45) C 3 dX6_add_45 rfl hb4 ?_
        refine z_iconst (pc := 46) C dX6_add_46 ic_1 ?_
        refine z_isub (pc := 47) C dX6_add_47 ?_
        refine z_iload_n (pc := 48) (x := v1) C dX6_add_48 (i := 1) rfl rfl ?_
        replace h := ob_e h
        obtain ⟨x5, hx5, h⟩ := h
        refine z_callV (pc := 49) (As := [.int (((s0.2.2.1 7) (v2).toNatClampNeg) - (1 : Int32)), .int v1]) (rest := []) (wr := ([] : va_W)) C dX6_add_49 ml_RX6_163 wv_X6_isStored (m_X6_isStored (a0 := a0) (r0 := r0) (r1 := r1) (qS := qS) hg hx5) [0, 1, 2, 3, 4, 5, 6] [] rfl rfl ⟨by decide, by decide⟩ (Nat.le_of_ble_eq_true rfl) ⟨by decide, by decide⟩ rfl rfl rfl rfl rfl rfl rfl (by decide) (ex_k C (cs' := 0) (ss' := 0) (wF := (wX6 g a0 r0 s0 ++ wX3 g (r0 9) r1 qS s1)) [0, 1, 2, 3, 4, 5, 6] rfl rfl ?_)
        refine z_if_eq (pc := 52) C dX6_add_52 (tgt := 56) (by decide) (fun hc => ?_) (fun hc => ?_)
        · replace h := (ite_e h).1 hc
          refine z_iload_n (pc := 56) (x := v2) C dX6_add_56 (i := 2) rfl rfl ?_
          refine z_iconst (pc := 57) C dX6_add_57 ic_1 ?_
          refine z_iadd (pc := 58) C dX6_add_58 ?_
          refine z_sipush (pc := 59) C dX6_add_59 sp_8192 ?_
          refine z_icmp_ge (pc := 62) C dX6_add_62 (tgt := 71) (by decide) (fun hc => ?_) (fun hc => ?_)
          · replace h := (ite_e h).1 hc
            refine z_iconst (pc := 71) C dX6_add_71 ic_0 ?_
            refine z_istore_n (pc := 72) C dX6_add_72 (i := 2) rfl (by decide) (lv' := [(2, .int (0 : Int32)), (0, .ref a0), (1, .int v1), (3, .int v3)]) rfl ?_
            refine z_iinc (pc := 73) C dX6_add_73 rfl (inc_e 1 (1 : Int32) ic_1 v3) (by decide) (lv' := [(3, .int (v3 + (1 : Int32))), (2, .int (0 : Int32)), (0, .ref a0), (1, .int v1)]) rfl ?_
            refine z_goto (pc := 76) C dX6_add_76 (tgt := 16) (by decide) ?_
            refine z_lv (lv' := [(0, .ref a0), (1, .int v1), (2, .int (0 : Int32)), (3, .int (v3 + (1 : Int32)))]) [2, 3, 1, 0] rfl ?_
            exact hk16 v1 (0 : Int32) (v3 + (1 : Int32)) s0 h
          · replace h := (ite_e h).2 hc
            refine z_iload_n (pc := 65) (x := v2) C dX6_add_65 (i := 2) rfl rfl ?_
            refine z_iconst (pc := 66) C dX6_add_66 ic_1 ?_
            refine z_iadd (pc := 67) C dX6_add_67 ?_
            refine z_goto (pc := 68) C dX6_add_68 (tgt := 72) (by decide) ?_
            refine z_istore_n (pc := 72) C dX6_add_72 (i := 2) rfl (by decide) (lv' := [(2, .int (v2 + (1 : Int32))), (0, .ref a0), (1, .int v1), (3, .int v3)]) rfl ?_
            refine z_iinc (pc := 73) C dX6_add_73 rfl (inc_e 1 (1 : Int32) ic_1 v3) (by decide) (lv' := [(3, .int (v3 + (1 : Int32))), (2, .int (v2 + (1 : Int32))), (0, .ref a0), (1, .int v1)]) rfl ?_
            refine z_goto (pc := 76) C dX6_add_76 (tgt := 16) (by decide) ?_
            refine z_lv (lv' := [(0, .ref a0), (1, .int v1), (2, .int (v2 + (1 : Int32))), (3, .int (v3 + (1 : Int32)))]) [2, 3, 1, 0] rfl ?_
            exact hk16 v1 (v2 + (1 : Int32)) (v3 + (1 : Int32)) s0 h
        · replace h := (ite_e h).2 hc
          exact z_vret C X dX6_add_55 (by rw [← Option.some.inj h]; exact ⟨rfl, rfl⟩) (by decide) (by decide)
      · replace h := (ite_e h).1 hc
        refine z_aload_n (pc := 32) (x := a0) C dX6_add_32 (i := 0) rfl rfl ?_
        refine z_iload_n (pc := 33) (x := v2) C dX6_add_33 (i := 2) rfl rfl ?_
        refine z_iload_n (pc := 34) (x := v1) C dX6_add_34 (i := 1) rfl rfl ?_
        replace h := ob_e h
        obtain ⟨x6, hx6, h⟩ := h
        refine z_callV (pc := 35) (As := [.int v2, .int v1]) (rest := []) (wr := ([] : va_W)) C dX6_add_35 ml_RX6_160 wv_X6_store (m_X6_store (a0 := a0) (r0 := r0) (r1 := r1) (qS := qS) hg hx6) [0, 1, 2, 3, 4, 5, 6] [] rfl rfl ⟨by decide, by decide⟩ (Nat.le_of_ble_eq_true rfl) ⟨by decide, by decide⟩ rfl rfl rfl rfl rfl rfl rfl (by decide) (ex_k C (cs' := 0) (ss' := 0) (wF := (wX6 g a0 r0 x6 ++ wX3 g (r0 9) r1 qS s1)) [0, 1, 2, 3, 4, 5, 6] rfl rfl ?_)
        exact z_vret C X dX6_add_38 (by rw [← Option.some.inj h]; exact ⟨rfl, rfl⟩) (by decide) (by decide)
def f_X6_add (N : Nat) (s0 : Ob) (s1 : Ob) : Option (Ob) := (ob (f_X3_packed N s1) fun x1 => (ob (f_X6_slotOf N s0 s1 x1) fun x2 => (f_X6_add_16 N s1 N x1 x2 (0 : Int32) s0)))
theorem m_X6_add {g : Gp} {a0 : Nat} {r0 : Nat → Nat} {r1 : Nat → Nat} {qS : Nat} {N : Nat} {s0 : Ob} {s1 : Ob} {res : Ob} (hg : Ok g) (h : f_X6_add N s0 s1 = some res) : Ct g yX6_add cX6_add 4 none (zrm 2 40) [.ref a0] (wX6 g a0 r0 s0 ++ wX3 g (r0 9) r1 qS s1) (exR none (wX6 g a0 r0 res ++ wX3 g (r0 9) r1 qS s1)) := by
  refine ct_of rfl hg (by show _ ≤ _; exact Nat.le_of_ble_eq_true rfl) (fun K C X => ?_)
  show Zs K 0 0 (wX6 g a0 r0 s0 ++ wX3 g (r0 9) r1 qS s1) [(0, .ref a0)] 0 []
  unfold f_X6_add at h
  refine z_aload_n (pc := 0) (x := a0) C dX6_add_0 (i := 0) rfl rfl ?_
  refine z_get (pc := 1) (v := .ref (r0 9)) C 0 dX6_add_1 fl_RX6_34 rfl rfl ?_
  replace h := ob_e h
  obtain ⟨x1, hx1, h⟩ := h
  refine z_callV (pc := 4) (As := []) (rest := []) (wr := (wX6 g a0 r0 s0)) C dX6_add_4 ml_RX6_154 wv_X3_packed (m_X3_packed (a0 := (r0 9)) (r0 := r1) (q0_0 := qS) hg hx1) [4, 5, 6] [0, 1, 2, 3] rfl rfl ⟨by decide, by decide⟩ (Nat.le_of_ble_eq_true rfl) ⟨by decide, by decide⟩ rfl rfl rfl rfl rfl rfl rfl (by decide) (ex_k C (cs' := 0) (ss' := 0) (wF := (wX6 g a0 r0 s0 ++ wX3 g (r0 9) r1 qS s1)) [0, 1, 2, 3, 4, 5, 6] rfl rfl ?_)
  refine z_istore_n (pc := 7) C dX6_add_7 (i := 1) rfl (by decide) (lv' := [(1, .int x1), (0, .ref a0)]) rfl ?_
  refine z_aload_n (pc := 8) (x := a0) C dX6_add_8 (i := 0) rfl rfl ?_
  refine z_iload_n (pc := 9) (x := x1) C dX6_add_9 (i := 1) rfl rfl ?_
  replace h := ob_e h
  obtain ⟨x2, hx2, h⟩ := h
  refine z_callV (pc := 10) (As := [.int x1]) (rest := []) (wr := ([] : va_W)) C dX6_add_10 ml_RX6_157 wv_X6_slotOf (m_X6_slotOf (a0 := a0) (r0 := r0) (r1 := r1) (qS := qS) hg hx2) [0, 1, 2, 3, 4, 5, 6] [] rfl rfl ⟨by decide, by decide⟩ (Nat.le_of_ble_eq_true rfl) ⟨by decide, by decide⟩ rfl rfl rfl rfl rfl rfl rfl (by decide) (ex_k C (cs' := 0) (ss' := 0) (wF := (wX6 g a0 r0 s0 ++ wX3 g (r0 9) r1 qS s1)) [0, 1, 2, 3, 4, 5, 6] rfl rfl ?_)
  refine z_istore_n (pc := 13) C dX6_add_13 (i := 2) rfl (by decide) (lv' := [(2, .int x2), (1, .int x1), (0, .ref a0)]) rfl ?_
  refine z_iconst (pc := 14) C dX6_add_14 ic_0 ?_
  refine z_istore_n (pc := 15) C dX6_add_15 (i := 3) rfl (by decide) (lv' := [(3, .int (0 : Int32)), (2, .int x2), (1, .int x1), (0, .ref a0)]) rfl ?_
  refine z_lv (lv' := [(0, .ref a0), (1, .int x1), (2, .int x2), (3, .int (0 : Int32))]) [3, 2, 1, 0] rfl ?_
  exact m_X6_add_16 (a0 := a0) (r0 := r0) (r1 := r1) (qS := qS) hg C X N x1 x2 (0 : Int32) s0 h
def f_X6_addBehind (N : Nat) (s0 : Ob) (s1 : Ob) (s2 : Ob) (s3 : Ob) (p1 : Int32) (p2 : Int32) : Option (Ob × Ob) := (ob (f_X3_isSensible N s1 s2 p1 p2) fun x1 => (if x1 = 0 then (some (s0, s3)) else (ob (f_X3_copyFrom N s3 s1) fun x2 => (ob (f_X3_move N x2 s2 p1 p2) fun x3 => (ob (f_X6_add N s0 x3) fun x4 => (some (x4, x3)))))))
theorem m_X6_addBehind {g : Gp} {a0 : Nat} {r0 : Nat → Nat} {r1 : Nat → Nat} {qS : Nat} {r2 : Nat → Nat} {r3 : Nat → Nat} {N : Nat} {s0 : Ob} {s1 : Ob} {s2 : Ob} {s3 : Ob} {p1 : Int32} {p2 : Int32} {res : Ob × Ob} (hg : Ok g) (h : f_X6_addBehind N s0 s1 s2 s3 p1 p2 = some res) : Ct g yX6_addBehind cX6_addBehind 3 none (zrm 3 63) [.ref a0, .int p1, .int p2] (wX6 g a0 r0 s0 ++ wX3 g (r0 8) r1 qS s1 ++ wX5 g qS r2 s2 ++ wX3 g (r0 9) r3 qS s3) (exR none (wX6 g a0 r0 res.1 ++ wX3 g (r0 8) r1 qS s1 ++ wX5 g qS r2 s2 ++ wX3 g (r0 9) r3 qS res.2)) := by
  refine ct_of rfl hg (by show _ ≤ _; exact Nat.le_of_ble_eq_true rfl) (fun K C X => ?_)
  show Zs K 0 0 (wX6 g a0 r0 s0 ++ wX3 g (r0 8) r1 qS s1 ++ wX5 g qS r2 s2 ++ wX3 g (r0 9) r3 qS s3) [(0, .ref a0), (1, .int p1), (2, .int p2)] 0 []
  unfold f_X6_addBehind at h
  refine z_aload_n (pc := 0) (x := a0) C dX6_addBehind_0 (i := 0) rfl rfl ?_
  refine z_get (pc := 1) (v := .ref (r0 8)) C 0 dX6_addBehind_1 fl_RX6_30 rfl rfl ?_
  refine z_iload_n (pc := 4) (x := p1) C dX6_addBehind_4 (i := 1) rfl rfl ?_
  refine z_iload_n (pc := 5) (x := p2) C dX6_addBehind_5 (i := 2) rfl rfl ?_
  replace h := ob_e h
  obtain ⟨x1, hx1, h⟩ := h
  refine z_callV (pc := 6) (As := [.int p1, .int p2]) (rest := []) (wr := (wX6 g a0 r0 s0 ++ wX3 g (r0 9) r3 qS s3)) C dX6_addBehind_6 ml_RX6_108 wv_X3_isSensible (m_X3_isSensible (a0 := (r0 8)) (r0 := r1) (q0_0 := qS) (r1 := r2) hg hx1) [4, 5, 6, 7, 8, 9, 10] [0, 1, 2, 3, 11, 12, 13] rfl rfl ⟨by decide, by decide⟩ (Nat.le_of_ble_eq_true rfl) ⟨by decide, by decide⟩ rfl rfl rfl rfl rfl rfl rfl (by decide) (ex_k C (cs' := 0) (ss' := 0) (wF := (wX6 g a0 r0 s0 ++ wX3 g (r0 8) r1 qS s1 ++ wX5 g qS r2 s2 ++ wX3 g (r0 9) r3 qS s3)) [0, 1, 2, 3, 7, 8, 9, 10, 11, 12, 13, 4, 5, 6] rfl rfl ?_)
  refine z_if_eq (pc := 9) C dX6_addBehind_9 (tgt := 36) (by decide) (fun hc => ?_) (fun hc => ?_)
  · replace h := (ite_e h).1 hc
    exact z_vret C X dX6_addBehind_36 (by rw [← Option.some.inj h]; exact ⟨rfl, rfl⟩) (by decide) (by decide)
  · replace h := (ite_e h).2 hc
    refine z_aload_n (pc := 12) (x := a0) C dX6_addBehind_12 (i := 0) rfl rfl ?_
    refine z_get (pc := 13) (v := .ref (r0 9)) C 0 dX6_addBehind_13 fl_RX6_34 rfl rfl ?_
    refine z_aload_n (pc := 16) (x := a0) C dX6_addBehind_16 (i := 0) rfl rfl ?_
    refine z_get (pc := 17) (v := .ref (r0 8)) C 0 dX6_addBehind_17 fl_RX6_30 rfl rfl ?_
    replace h := ob_e h
    obtain ⟨x2, hx2, h⟩ := h
    refine z_callV (pc := 20) (As := [.ref (r0 8)]) (rest := []) (wr := (wX6 g a0 r0 s0 ++ wX5 g qS r2 s2)) C dX6_addBehind_20 ml_RX6_150 wv_X3_copyFrom (m_X3_copyFrom (a0 := (r0 9)) (a1 := (r0 8)) (r0 := r3) (q0_0 := qS) (r1 := r1) (q1_0 := qS) hg hx2) [11, 12, 13, 4, 5, 6] [0, 1, 2, 3, 7, 8, 9, 10] rfl rfl ⟨by decide, by decide⟩ (Nat.le_of_ble_eq_true rfl) ⟨by decide, by decide⟩ rfl rfl rfl rfl rfl rfl rfl (by decide) (ex_k C (cs' := 0) (ss' := 0) (wF := (wX6 g a0 r0 s0 ++ wX3 g (r0 8) r1 qS s1 ++ wX5 g qS r2 s2 ++ wX3 g (r0 9) r3 qS x2)) [0, 1, 2, 3, 11, 12, 13, 4, 5, 6, 7, 8, 9, 10] rfl rfl ?_)
    refine z_aload_n (pc := 23) (x := a0) C dX6_addBehind_23 (i := 0) rfl rfl ?_
    refine z_get (pc := 24) (v := .ref (r0 9)) C 0 dX6_addBehind_24 fl_RX6_34 rfl rfl ?_
    refine z_iload_n (pc := 27) (x := p1) C dX6_addBehind_27 (i := 1) rfl rfl ?_
    refine z_iload_n (pc := 28) (x := p2) C dX6_addBehind_28 (i := 2) rfl rfl ?_
    replace h := ob_e h
    obtain ⟨x3, hx3, h⟩ := h
    refine z_callV (pc := 29) (As := [.int p1, .int p2]) (rest := []) (wr := (wX6 g a0 r0 s0 ++ wX3 g (r0 8) r1 qS s1)) C dX6_addBehind_29 ml_RX6_112 wv_X3_move (m_X3_move (a0 := (r0 9)) (r0 := r3) (q0_0 := qS) (r1 := r2) hg hx3) [11, 12, 13, 7, 8, 9, 10] [0, 1, 2, 3, 4, 5, 6] rfl rfl ⟨by decide, by decide⟩ (Nat.le_of_ble_eq_true rfl) ⟨by decide, by decide⟩ rfl rfl rfl rfl rfl rfl rfl (by decide) (ex_k C (cs' := 0) (ss' := 0) (wF := (wX6 g a0 r0 s0 ++ wX3 g (r0 8) r1 qS s1 ++ wX5 g qS r2 s2 ++ wX3 g (r0 9) r3 qS x3)) [0, 1, 2, 3, 4, 5, 6, 10, 11, 12, 13, 7, 8, 9] rfl rfl ?_)
    refine z_aload_n (pc := 32) (x := a0) C dX6_addBehind_32 (i := 0) rfl rfl ?_
    replace h := ob_e h
    obtain ⟨x4, hx4, h⟩ := h
    refine z_callV (pc := 33) (As := []) (rest := []) (wr := (wX3 g (r0 8) r1 qS s1 ++ wX5 g qS r2 s2)) C dX6_addBehind_33 ml_RX6_50 wv_X6_add (m_X6_add (a0 := a0) (r0 := r0) (r1 := r3) (qS := qS) hg hx4) [0, 1, 2, 3, 11, 12, 13] [4, 5, 6, 7, 8, 9, 10] rfl rfl ⟨by decide, by decide⟩ (Nat.le_of_ble_eq_true rfl) ⟨by decide, by decide⟩ rfl rfl rfl rfl rfl rfl rfl (by decide) (ex_k C (cs' := 0) (ss' := 0) (wF := (wX6 g a0 r0 x4 ++ wX3 g (r0 8) r1 qS s1 ++ wX5 g qS r2 s2 ++ wX3 g (r0 9) r3 qS x3)) [7, 8, 9, 10, 0, 1, 2, 3, 4, 5, 6, 11, 12, 13] rfl rfl ?_)
    exact z_vret C X dX6_addBehind_36 (by rw [← Option.some.inj h]; exact ⟨rfl, rfl⟩) (by decide) (by decide)
def f_X6_spread_162 (N : Nat) (s2 : Ob) (p1 : Int32) (p2 : Int32) (k2 : Int32 → Ob → Ob → Ob → Option (Ob × Ob × Ob)) (v3 : Int32) (s0 : Ob) (s1 : Ob) (s3 : Ob) : Option (Ob × Ob × Ob) := (ob (f_X6_addBehind N s0 s1 s2 s3 (2 : Int32) (-1 : Int32)) fun x8 => (ob (f_X6_addBehind N x8.1 s1 s2 x8.2 (3 : Int32) (-1 : Int32)) fun x9 => (k2 (v3 + (1 : Int32)) x9.1 s1 x9.2)))
theorem m_X6_spread_162 {K : Kt} {g : Gp} {a0 : Nat} {r0 : Nat → Nat} {r1 : Nat → Nat} {qS : Nat} {r2 : Nat → Nat} {r3 : Nat → Nat} {N : Nat} {s2 : Ob} {p1 : Int32} {p2 : Int32} {res : Ob × Ob × Ob} (hg : Ok g) (C : Cx K g cX6_spread RX6 8 (zrm 4 85)) (X : Rx K (exR none (wX6 g a0 r0 res.1 ++ wX3 g (r0 8) r1 qS res.2.1 ++ wX5 g qS r2 s2 ++ wX3 g (r0 9) r3 qS res.2.2)) 0 0 none) {k2 : Int32 → Ob → Ob → Ob → Option (Ob × Ob × Ob)} (hk2 : ∀ (v3 : Int32) (s0 : Ob) (s1 : Ob) (s3 : Ob), k2 v3 s0 s1 s3 = some res → Zs K 0 0 (wX6 g a0 r0 s0 ++ wX3 g (r0 8) r1 qS s1 ++ wX5 g qS r2 s2 ++ wX3 g (r0 9) r3 qS s3) [(0, .ref a0), (2, .int p2), (3, .int v3)] 2 []) (v3 : Int32) (s0 : Ob) (s1 : Ob) (s3 : Ob) (h : f_X6_spread_162 N s2 p1 p2 k2 v3 s0 s1 s3 = some res) : Zs K 0 0 (wX6 g a0 r0 s0 ++ wX3 g (r0 8) r1 qS s1 ++ wX5 g qS r2 s2 ++ wX3 g (r0 9) r3 qS s3) [(0, .ref a0), (2, .int p2), (3, .int v3)] 162 [] := by
  unfold f_X6_spread_162 at h
  refine z_aload_n (pc := 162) (x := a0) C dX6_spread_162 (i := 0) rfl rfl ?_
  refine z_iconst (pc := 163) C dX6_spread_163 ic_2 ?_
  refine z_iconst (pc := 164) C dX6_spread_164 ic_m1 ?_
  replace h := ob_e h
  obtain ⟨x8, hx8, h⟩ := h
  refine z_callV (pc := 165) (As := [.int (2 : Int32), .int (-1 : Int32)]) (rest := []) (wr := ([] : va_W)) C dX6_spread_165 ml_RX6_147 wv_X6_addBehind (m_X6_addBehind (a0 := a0) (r0 := r0) (r1 := r1) (qS := qS) (r2 := r2) (r3 := r3) hg hx8) [0, 1, 2, 3, 4, 5, 6, 7, 8, 9, 10, 11, 12, 13] [] rfl rfl ⟨by decide, by decide⟩ (Nat.le_of_ble_eq_true rfl) ⟨by decide, by decide⟩ rfl rfl rfl rfl rfl rfl rfl (by decide) (ex_k C (cs' := 0) (ss' := 0) (wF := (wX6 g a0 r0 x8.1 ++ wX3 g (r0 8) r1 qS s1 ++ wX5 g qS r2 s2 ++ wX3 g (r0 9) r3 qS x8.2)) [0, 1, 2, 3, 4, 5, 6, 7, 8, 9, 10, 11, 12, 13] rfl rfl ?_)
  refine z_aload_n (pc := 168) (x := a0) C dX6_spread_168 (i := 0) rfl rfl ?_
  refine z_iconst (pc := 169) C dX6_spread_169 ic_3 ?_
  refine z_iconst (pc := 170) C dX6_spread_170 ic_m1 ?_
  replace h := ob_e h
  obtain ⟨x9, hx9, h⟩ := h
  refine z_callV (pc := 171) (As := [.int (3 : Int32), .int (-1 : Int32)]) (rest := []) (wr := ([] : va_W)) C dX6_spread_171 ml_RX6_147 wv_X6_addBehind (m_X6_addBehind (a0 := a0) (r0 := r0) (r1 := r1) (qS := qS) (r2 := r2) (r3 := r3) hg hx9) [0, 1, 2, 3, 4, 5, 6, 7, 8, 9, 10, 11, 12, 13] [] rfl rfl ⟨by decide, by decide⟩ (Nat.le_of_ble_eq_true rfl) ⟨by decide, by decide⟩ rfl rfl rfl rfl rfl rfl rfl (by decide) (ex_k C (cs' := 0) (ss' := 0) (wF := (wX6 g a0 r0 x9.1 ++ wX3 g (r0 8) r1 qS s1 ++ wX5 g qS r2 s2 ++ wX3 g (r0 9) r3 qS x9.2)) [0, 1, 2, 3, 4, 5, 6, 7, 8, 9, 10, 11, 12, 13] rfl rfl ?_)
  refine z_iinc (pc := 174) C dX6_spread_174 rfl (inc_e 1 (1 : Int32) ic_1 v3) (by decide) (lv' := [(3, .int (v3 + (1 : Int32))), (0, .ref a0), (2, .int p2)]) rfl ?_
  refine z_goto (pc := 177) C dX6_spread_177 (tgt := 2) (by decide) ?_
  refine z_lv (lv' := [(0, .ref a0), (2, .int p2), (3, .int (v3 + (1 : Int32)))]) [1, 2, 0] rfl ?_
  exact hk2 (v3 + (1 : Int32)) x9.1 s1 x9.2 h
def F_X6_spread_107 (N : Nat) (s2 : Ob) (p1 : Int32) (p2 : Int32) (k2 : Int32 → Ob → Ob → Ob → Option (Ob × Ob × Ob)) (k107 : Int32 → Int64 → Int32 → Ob → Ob → Ob → Option (Ob × Ob × Ob)) (v3 : Int32) (v4 : Int64) (v6 : Int32) (s0 : Ob) (s1 : Ob) (s3 : Ob) : Option (Ob × Ob × Ob) := (if (5 : Int32) ≤ v6 then (f_X6_spread_162 N s2 p1 p2 k2 v3 s0 s1 s3) else (if (lg_cmp v4 (0 : Int64)) = 0 then (f_X6_spread_162 N s2 p1 p2 k2 v3 s0 s1 s3) else (ob (f_J13_bitCount_95d88 N ((v4 &&& (-v4)) - (1 : Int64))) fun x10 => (ob (f_X6_addBehind N s0 s1 s2 s3 (0 : Int32) x10) fun x11 => (ob (f_X6_addBehind N x11.1 s1 s2 x11.2 (1 : Int32) x10) fun x12 => (k107 v3 (v4 &&& (v4 - (1 : Int64))) (v6 + (1 : Int32)) x12.1 s1 x12.2))))))
def f_X6_spread_107 (N : Nat) (s2 : Ob) (p1 : Int32) (p2 : Int32) (k2 : Int32 → Ob → Ob → Ob → Option (Ob × Ob × Ob)) : Nat → Int32 → Int64 → Int32 → Ob → Ob → Ob → Option (Ob × Ob × Ob) := zlp (fun _ _ _ _ _ _ => none) (F_X6_spread_107 N s2 p1 p2 k2)
theorem m_X6_spread_107 {K : Kt} {g : Gp} {a0 : Nat} {r0 : Nat → Nat} {r1 : Nat → Nat} {qS : Nat} {r2 : Nat → Nat} {r3 : Nat → Nat} {N : Nat} {s2 : Ob} {p1 : Int32} {p2 : Int32} {res : Ob × Ob × Ob} (hg : Ok g) (C : Cx K g cX6_spread RX6 8 (zrm 4 85)) (X : Rx K (exR none (wX6 g a0 r0 res.1 ++ wX3 g (r0 8) r1 qS res.2.1 ++ wX5 g qS r2 s2 ++ wX3 g (r0 9) r3 qS res.2.2)) 0 0 none) {k2 : Int32 → Ob → Ob → Ob → Option (Ob × Ob × Ob)} (hk2 : ∀ (v3 : Int32) (s0 : Ob) (s1 : Ob) (s3 : Ob), k2 v3 s0 s1 s3 = some res → Zs K 0 0 (wX6 g a0 r0 s0 ++ wX3 g (r0 8) r1 qS s1 ++ wX5 g qS r2 s2 ++ wX3 g (r0 9) r3 qS s3) [(0, .ref a0), (2, .int p2), (3, .int v3)] 2 []) : ∀ (n : Nat) (v3 : Int32) (v4 : Int64) (v6 : Int32) (s0 : Ob) (s1 : Ob) (s3 : Ob), f_X6_spread_107 N s2 p1 p2 k2 n v3 v4 v6 s0 s1 s3 = some res → Zs K 0 0 (wX6 g a0 r0 s0 ++ wX3 g (r0 8) r1 qS s1 ++ wX5 g qS r2 s2 ++ wX3 g (r0 9) r3 qS s3) [(0, .ref a0), (2, .int p2), (3, .int v3), (4, .long v4), (6, .int v6)] 107 [] := by
  intro n
  induction n with
  | zero => intro v3 v4 v6 s0 s1 s3 h; exact nomatch (show (none : Option (Ob × Ob × Ob)) = some res from h)
  | succ n hk107 =>
    intro v3 v4 v6 s0 s1 s3 h
    replace h : F_X6_spread_107 N s2 p1 p2 k2 (f_X6_spread_107 N s2 p1 p2 k2 n) v3 v4 v6 s0 s1 s3 = some res := h
    unfold F_X6_spread_107 at h
    refine z_iload (pc := 107) (x := v6) C dX6_spread_107 rfl ?_
    refine z_iconst (pc := 109) C dX6_spread_109 ic_5 ?_
    refine z_icmp_ge (pc := 110) C dX6_spread_110 (tgt := 162) (by decide) (fun hc => ?_) (fun hc => ?_)
    · replace h := (ite_e h).1 hc
      refine z_lv (lv' := [(0, .ref a0), (2, .int p2), (3, .int v3)]) [0, 1, 2] rfl ?_
      exact m_X6_spread_162 (a0 := a0) (r0 := r0) (r1 := r1) (qS := qS) (r2 := r2) (r3 := r3) hg C X hk2 v3 s0 s1 s3 h
    · replace h := (ite_e h).2 hc
      refine z_lload (pc := 113) (x := v4) C dX6_spread_113 rfl ?_
      refine z_lconst (pc := 115) (v := (0 : Int64)) C dX6_spread_115 rfl ?_
      refine z_lcmp (pc := 116) C dX6_spread_116 ?_
      refine z_if_eq (pc := 117) C dX6_spread_117 (tgt := 162) (by decide) (fun hc => ?_) (fun hc => ?_)
      · replace h := (ite_e h).1 hc
        refine z_lv (lv' := [(0, .ref a0), (2, .int p2), (3, .int v3)]) [0, 1, 2] rfl ?_
        exact m_X6_spread_162 (a0 := a0) (r0 := r0) (r1 := r1) (qS := qS) (r2 := r2) (r3 := r3) hg C X hk2 v3 s0 s1 s3 h
      · replace h := (ite_e h).2 hc
        refine z_lload (pc := 120) (x := v4) C dX6_spread_120 rfl ?_
        refine z_lload (pc := 122) (x := v4) C dX6_spread_122 rfl ?_
        refine z_lneg (pc := 124) C dX6_spread_124 ?_
        refine z_land (pc := 125) C dX6_spread_125 ?_
        refine z_lconst (pc := 126) (v := (1 : Int64)) C dX6_spread_126 rfl ?_
        refine z_lsub (pc := 127) C dX6_spread_127 ?_
        replace h := ob_e h
        obtain ⟨x10, hx10, h⟩ := h
        refine z_callS (pc := 128) (As := [.long ((v4 &&& (-v4)) - (1 : Int64))]) (rest := []) (wr := (wX6 g a0 r0 s0 ++ wX3 g (r0 8) r1 qS s1 ++ wX5 g qS r2 s2 ++ wX3 g (r0 9) r3 qS s3)) C dX6_spread_128 ml_RX6_141 wt_J13_bitCount_95d88 (m_J13_bitCount_95d88 hg hx10) [] [0, 1, 2, 3, 4, 5, 6, 7, 8, 9, 10, 11, 12, 13] rfl rfl ⟨by decide, by decide⟩ (Nat.le_of_ble_eq_true rfl) ⟨by decide, by decide⟩ rfl rfl rfl rfl (by decide) (ex_k C (cs' := 0) (ss' := 0) (wF := (wX6 g a0 r0 s0 ++ wX3 g (r0 8) r1 qS s1 ++ wX5 g qS r2 s2 ++ wX3 g (r0 9) r3 qS s3)) [0, 1, 2, 3, 4, 5, 6, 7, 8, 9, 10, 11, 12, 13] rfl rfl ?_)
        refine z_istore (pc := 131) C dX6_spread_131 (by decide) (lv' := [(7, .int x10), (0, .ref a0), (2, .int p2), (3, .int v3), (4, .long v4), (6, .int v6)]) rfl ?_
        refine z_aload_n (pc := 133) (x := a0) C dX6_spread_133 (i := 0) rfl rfl ?_
        refine z_iconst (pc := 134) C dX6_spread_134 ic_0 ?_
        refine z_iload (pc := 135) (x := x10) C dX6_spread_135 rfl ?_
        replace h := ob_e h
        obtain ⟨x11, hx11, h⟩ := h
        refine z_callV (pc := 137) (As := [.int (0 : Int32), .int x10]) (rest := []) (wr := ([] : va_W)) C dX6_spread_137 ml_RX6_147 wv_X6_addBehind (m_X6_addBehind (a0 := a0) (r0 := r0) (r1 := r1) (qS := qS) (r2 := r2) (r3 := r3) hg hx11) [0, 1, 2, 3, 4, 5, 6, 7, 8, 9, 10, 11, 12, 13] [] rfl rfl ⟨by decide, by decide⟩ (Nat.le_of_ble_eq_true rfl) ⟨by decide, by decide⟩ rfl rfl rfl rfl rfl rfl rfl (by decide) (ex_k C (cs' := 0) (ss' := 0) (wF := (wX6 g a0 r0 x11.1 ++ wX3 g (r0 8) r1 qS s1 ++ wX5 g qS r2 s2 ++ wX3 g (r0 9) r3 qS x11.2)) [0, 1, 2, 3, 4, 5, 6, 7, 8, 9, 10, 11, 12, 13] rfl rfl ?_)
        refine z_aload_n (pc := 140) (x := a0) C dX6_spread_140 (i := 0) rfl rfl ?_
        refine z_iconst (pc := 141) C dX6_spread_141 ic_1 ?_
        refine z_iload (pc := 142) (x := x10) C dX6_spread_142 rfl ?_
        replace h := ob_e h
        obtain ⟨x12, hx12, h⟩ := h
        refine z_callV (pc := 144) (As := [.int (1 : Int32), .int x10]) (rest := []) (wr := ([] : va_W)) C dX6_spread_144 ml_RX6_147 wv_X6_addBehind (m_X6_addBehind (a0 := a0) (r0 := r0) (r1 := r1) (qS := qS) (r2 := r2) (r3 := r3) hg hx12) [0, 1, 2, 3, 4, 5, 6, 7, 8, 9, 10, 11, 12, 13] [] rfl rfl ⟨by decide, by decide⟩ (Nat.le_of_ble_eq_true rfl) ⟨by decide, by decide⟩ rfl rfl rfl rfl rfl rfl rfl (by decide) (ex_k C (cs' := 0) (ss' := 0) (wF := (wX6 g a0 r0 x12.1 ++ wX3 g (r0 8) r1 qS s1 ++ wX5 g qS r2 s2 ++ wX3 g (r0 9) r3 qS x12.2)) [0, 1, 2, 3, 4, 5, 6, 7, 8, 9, 10, 11, 12, 13] rfl rfl ?_)
        refine z_lload (pc := 147) (x := v4) C dX6_spread_147 rfl ?_
        refine z_lload (pc := 149) (x := v4) C dX6_spread_149 rfl ?_
        refine z_lconst (pc := 151) (v := (1 : Int64)) C dX6_spread_151 rfl ?_
        refine z_lsub (pc := 152) C dX6_spread_152 ?_
        refine z_land (pc := 153) C dX6_spread_153 ?_
        refine z_lstore (pc := 154) C dX6_spread_154 (by decide) (lv' := [(4, .long (v4 &&& (v4 - (1 : Int64)))), (7, .int x10), (0, .ref a0), (2, .int p2), (3, .int v3), (6, .int v6)]) rfl ?_
        refine z_iinc (pc := 156) C dX6_spread_156 rfl (inc_e 1 (1 : Int32) ic_1 v6) (by decide) (lv' := [(6, .int (v6 + (1 : Int32))), (4, .long (v4 &&& (v4 - (1 : Int64)))), (7, .int x10), (0, .ref a0), (2, .int p2), (3, .int v3)]) rfl ?_
        refine z_goto (pc := 159) C dX6_spread_159 (tgt := 107) (by decide) ?_
        refine z_lv (lv' := [(0, .ref a0), (2, .int p2), (3, .int v3), (4, .long (v4 &&& (v4 - (1 : Int64)))), (6, .int (v6 + (1 : Int32)))]) [3, 4, 5, 1, 0] rfl ?_
        exact hk107 v3 (v4 &&& (v4 - (1 : Int64))) (v6 + (1 : Int32)) x12.1 s1 x12.2 h
def F_X6_spread_2 (N : Nat) (s2 : Ob) (p1 : Int32) (p2 : Int32)  (k2 : Int32 → Ob → Ob → Ob → Option (Ob × Ob × Ob)) (v3 : Int32) (s0 : Ob) (s1 : Ob) (s3 : Ob) : Option (Ob × Ob × Ob) := (if (s0.1 2) ≤ v3 then (some (s0, s1, s3)) else (if (4000 : Int32) ≤ v3 then (some (s0, s1, s3)) else (if (s0.1 0) = 0 then (if p2 ≤ (s0.1 1) then (some (s0, s1, s3)) else (chk (inb v3 4000) (ob (f_X3_unpack N s1 ((s0.2.2.1 6) (v3).toNatClampNeg)) fun x2 => (chk (decide (¬ (v3 * (4 : Int32)) < 0)) (chk (decide (((v3 * (4 : Int32))).toNatClampNeg + ((4 : Int32)).toNatClampNeg ≤ 16000)) (ob (f_X3_points N (sb x2 1 (va_cpy (s0.2.2.2 5) (x2.2.2.2 1) ((v3 * (4 : Int32))).toNatClampNeg 0 4))) fun x5 => (ob (f_X3_isLast N (sb x2 1 (va_cpy (s0.2.2.2 5) (x2.2.2.2 1) ((v3 * (4 : Int32))).toNatClampNeg 0 4)) s2) fun x6 => (if x6 = 0 then (ob (f_X3_cardsInTurn N (sb x2 1 (va_cpy (s0.2.2.2 5) (x2.2.2.2 1) ((v3 * (4 : Int32))).toNatClampNeg 0 4))) fun x7 => (f_X6_spread_107 N s2 p1 p2 k2 N v3 x7 (0 : Int32) (si s0 1 (if (s0.1 1) < x5 then x5 else (s0.1 1))) (sb x2 1 (va_cpy (s0.2.2.2 5) (x2.2.2.2 1) ((v3 * (4 : Int32))).toNatClampNeg 0 4)) s3)) else (k2 (v3 + (1 : Int32)) (si s0 1 (if (s0.1 1) < x5 then x5 else (s0.1 1))) (sb x2 1 (va_cpy (s0.2.2.2 5) (x2.2.2.2 1) ((v3 * (4 : Int32))).toNatClampNeg 0 4)) s3))))))))) else (some (s0, s1, s3)))))
def f_X6_spread_2 (N : Nat) (s2 : Ob) (p1 : Int32) (p2 : Int32)  : Nat → Int32 → Ob → Ob → Ob → Option (Ob × Ob × Ob) := zlp (fun _ _ _ _ => none) (F_X6_spread_2 N s2 p1 p2)
theorem m_X6_spread_2 {K : Kt} {g : Gp} {a0 : Nat} {r0 : Nat → Nat} {r1 : Nat → Nat} {qS : Nat} {r2 : Nat → Nat} {r3 : Nat → Nat} {N : Nat} {s2 : Ob} {p1 : Int32} {p2 : Int32} {res : Ob × Ob × Ob} (hg : Ok g) (C : Cx K g cX6_spread RX6 8 (zrm 4 85)) (X : Rx K (exR none (wX6 g a0 r0 res.1 ++ wX3 g (r0 8) r1 qS res.2.1 ++ wX5 g qS r2 s2 ++ wX3 g (r0 9) r3 qS res.2.2)) 0 0 none) : ∀ (n : Nat) (v3 : Int32) (s0 : Ob) (s1 : Ob) (s3 : Ob), f_X6_spread_2 N s2 p1 p2 n v3 s0 s1 s3 = some res → Zs K 0 0 (wX6 g a0 r0 s0 ++ wX3 g (r0 8) r1 qS s1 ++ wX5 g qS r2 s2 ++ wX3 g (r0 9) r3 qS s3) [(0, .ref a0), (2, .int p2), (3, .int v3)] 2 [] := by
  intro n
  induction n with
  | zero => intro v3 s0 s1 s3 h; exact nomatch (show (none : Option (Ob × Ob × Ob)) = some res from h)
  | succ n hk2 =>
    intro v3 s0 s1 s3 h
    replace h : F_X6_spread_2 N s2 p1 p2 (f_X6_spread_2 N s2 p1 p2 n) v3 s0 s1 s3 = some res := h
    unfold F_X6_spread_2 at h
    refine z_iload_n (pc := 2) (x := v3) C dX6_spread_2 (i := 3) rfl rfl ?_
    refine z_aload_n (pc := 3) (x := a0) C dX6_spread_3 (i := 0) rfl rfl ?_
    refine z_get (pc := 4) (v := .int (s0.1 2)) C 0 dX6_spread_4 fl_RX6_90 rfl rfl ?_
    refine z_icmp_ge (pc := 7) C dX6_spread_7 (tgt := 180) (by decide) (fun hc => ?_) (fun hc => ?_)
    · replace h := (ite_e h).1 hc
      exact z_vret C X dX6_spread_180 (by rw [← Option.some.inj h]; exact ⟨rfl, rfl⟩) (by decide) (by decide)
    · replace h := (ite_e h).2 hc
      refine z_iload_n (pc := 10) (x := v3) C dX6_spread_10 (i := 3) rfl rfl ?_
      refine z_sipush (pc := 11) C dX6_spread_11 sp_4000 ?_
      refine z_icmp_ge (pc := 14) C dX6_spread_14 (tgt := 180) (by decide) (fun hc => ?_) (fun hc => ?_)
      · replace h := (ite_e h).1 hc
        exact z_vret C X dX6_spread_180 (by rw [← Option.some.inj h]; exact ⟨rfl, rfl⟩) (by decide) (by decide)
      · replace h := (ite_e h).2 hc
        refine z_aload_n (pc := 17) (x := a0) C dX6_spread_17 (i := 0) rfl rfl ?_
        refine z_get (pc := 18) (v := .int (s0.1 0)) C 0 dX6_spread_18 fl_RX6_100 rfl rfl ?_
        refine z_if_ne (pc := 21) C dX6_spread_21 (tgt := 180) (by decide) (fun hc => ?_) (fun hc => ?_)
        · replace h := (ite_e h).2 hc
          exact z_vret C X dX6_spread_180 (by rw [← Option.some.inj h]; exact ⟨rfl, rfl⟩) (by decide) (by decide)
        · replace h := (ite_e h).1 hc
          refine z_aload_n (pc := 24) (x := a0) C dX6_spread_24 (i := 0) rfl rfl ?_
          refine z_get (pc := 25) (v := .int (s0.1 1)) C 0 dX6_spread_25 fl_RX6_61 rfl rfl ?_
          refine z_iload_n (pc := 28) (x := p2) C dX6_spread_28 (i := 2) rfl rfl ?_
          refine z_icmp_ge (pc := 29) C dX6_spread_29 (tgt := 180) (by decide) (fun hc => ?_) (fun hc => ?_)
          · replace h := (ite_e h).1 hc
            exact z_vret C X dX6_spread_180 (by rw [← Option.some.inj h]; exact ⟨rfl, rfl⟩) (by decide) (by decide)
          · replace h := (ite_e h).2 hc
            refine z_aload_n (pc := 32) (x := a0) C dX6_spread_32 (i := 0) rfl rfl ?_
            refine z_get (pc := 33) (v := .ref (r0 8)) C 0 dX6_spread_33 fl_RX6_30 rfl rfl ?_
            refine z_aload_n (pc := 36) (x := a0) C dX6_spread_36 (i := 0) rfl rfl ?_
            refine z_get (pc := 37) (v := .ref (r0 6)) C 0 dX6_spread_37 fl_RX6_15 rfl rfl ?_
            refine z_iload_n (pc := 40) (x := v3) C dX6_spread_40 (i := 3) rfl rfl ?_
            replace h := chk_e h
            obtain ⟨hb1, h⟩ := h
            refine z_iald (pc := 41) C 2 dX6_spread_41 rfl hb1 ?_
            replace h := ob_e h
            obtain ⟨x2, hx2, h⟩ := h
            refine z_callV (pc := 42) (As := [.int ((s0.2.2.1 6) (v3).toNatClampNeg)]) (rest := []) (wr := (wX6 g a0 r0 s0 ++ wX5 g qS r2 s2 ++ wX3 g (r0 9) r3 qS s3)) C dX6_spread_42 ml_RX6_115 wv_X3_unpack (m_X3_unpack (a0 := (r0 8)) (r0 := r1) (q0_0 := qS) hg hx2) [4, 5, 6] [0, 1, 2, 3, 7, 8, 9, 10, 11, 12, 13] rfl rfl ⟨by decide, by decide⟩ (Nat.le_of_ble_eq_true rfl) ⟨by decide, by decide⟩ rfl rfl rfl rfl rfl rfl rfl (by decide) (ex_k C (cs' := 0) (ss' := 0) (wF := (wX6 g a0 r0 s0 ++ wX3 g (r0 8) r1 qS x2 ++ wX5 g qS r2 s2 ++ wX3 g (r0 9) r3 qS s3)) [0, 1, 2, 3, 11, 12, 13, 4, 5, 6, 7, 8, 9, 10] rfl rfl ?_)
            refine z_aload_n (pc := 45) (x := a0) C dX6_spread_45 (i := 0) rfl rfl ?_
            refine z_get (pc := 46) (v := .ref (r0 5)) C 0 dX6_spread_46 fl_RX6_11 rfl rfl ?_
            refine z_iload_n (pc := 49) (x := v3) C dX6_spread_49 (i := 3) rfl rfl ?_
            refine z_iconst (pc := 50) C dX6_spread_50 ic_4 ?_
            refine z_imul (pc := 51) C dX6_spread_51 ?_
            refine z_aload_n (pc := 52) (x := a0) C dX6_spread_52 (i := 0) rfl rfl ?_
            refine z_get (pc := 53) (v := .ref (r0 8)) C 0 dX6_spread_53 fl_RX6_30 rfl rfl ?_
            refine z_get (pc := 56) (v := .ref (r1 1)) C 4 dX6_spread_56 fl_RX6_119 rfl rfl ?_
            refine z_iconst (pc := 59) C dX6_spread_59 ic_0 ?_
            refine z_iconst (pc := 60) C dX6_spread_60 ic_4 ?_
            replace h := chk_e h
            obtain ⟨hb3, h⟩ := h
            replace h := chk_e h
            obtain ⟨hb4, h⟩ := h
            refine z_copyl (pc := 61) C 1 5 dX6_spread_61 wc_RX6_120 rfl rfl (of_decide_eq_true hb3) (by decide) (by decide) (of_decide_eq_true hb4) (by decide) (by decide) (Nat.le_of_ble_eq_true rfl) (ws' := (wX6 g a0 r0 s0 ++ wX3 g (r0 8) r1 qS (sb x2 1 (va_cpy (s0.2.2.2 5) (x2.2.2.2 1) ((v3 * (4 : Int32))).toNatClampNeg 0 4)) ++ wX5 g qS r2 s2 ++ wX3 g (r0 9) r3 qS s3)) rfl ?_
            refine z_aload_n (pc := 64) (x := a0) C dX6_spread_64 (i := 0) rfl rfl ?_
            refine z_aload_n (pc := 65) (x := a0) C dX6_spread_65 (i := 0) rfl rfl ?_
            refine z_get (pc := 66) (v := .int (s0.1 1)) C 0 dX6_spread_66 fl_RX6_61 rfl rfl ?_
            refine z_aload_n (pc := 69) (x := a0) C dX6_spread_69 (i := 0) rfl rfl ?_
            refine z_get (pc := 70) (v := .ref (r0 8)) C 0 dX6_spread_70 fl_RX6_30 rfl rfl ?_
            replace h := ob_e h
            obtain ⟨x5, hx5, h⟩ := h
            refine z_callV (pc := 73) (As := []) (rest := [.int (s0.1 1), .ref a0]) (wr := (wX6 g a0 r0 s0 ++ wX5 g qS r2 s2 ++ wX3 g (r0 9) r3 qS s3)) C dX6_spread_73 ml_RX6_126 wv_X3_points (m_X3_points (a0 := (r0 8)) (r0 := r1) (q0_0 := qS) hg hx5) [4, 5, 6] [0, 1, 2, 3, 7, 8, 9, 10, 11, 12, 13] rfl rfl ⟨by decide, by decide⟩ (Nat.le_of_ble_eq_true rfl) ⟨by decide, by decide⟩ rfl rfl rfl rfl rfl rfl rfl (by decide) (ex_k C (cs' := 0) (ss' := 0) (wF := (wX6 g a0 r0 s0 ++ wX3 g (r0 8) r1 qS (sb x2 1 (va_cpy (s0.2.2.2 5) (x2.2.2.2 1) ((v3 * (4 : Int32))).toNatClampNeg 0 4)) ++ wX5 g qS r2 s2 ++ wX3 g (r0 9) r3 qS s3)) [0, 1, 2, 3, 11, 12, 13, 4, 5, 6, 7, 8, 9, 10] rfl rfl ?_)
            refine z_mmax (pc := 76) C dX6_spread_76 ml_RX6_129 wm_max (by decide) (Nat.le_of_ble_eq_true rfl) (by decide) (by decide) ?_
            refine z_put (pc := 79) C 0 dX6_spread_79 fp_RX6_61 rfl rfl rfl (zlt_b rfl) (ws' := (wX6 g a0 r0 (si s0 1 (if (s0.1 1) < x5 then x5 else (s0.1 1))) ++ wX3 g (r0 8) r1 qS (sb x2 1 (va_cpy (s0.2.2.2 5) (x2.2.2.2 1) ((v3 * (4 : Int32))).toNatClampNeg 0 4)) ++ wX5 g qS r2 s2 ++ wX3 g (r0 9) r3 qS s3)) rfl ?_
            refine z_aload_n (pc := 82) (x := a0) C dX6_spread_82 (i := 0) rfl rfl ?_
            refine z_get (pc := 83) (v := .ref (r0 8)) C 0 dX6_spread_83 fl_RX6_30 rfl rfl ?_
            replace h := ob_e h
            obtain ⟨x6, hx6, h⟩ := h
            refine z_callV (pc := 86) (As := []) (rest := []) (wr := (wX6 g a0 r0 (si s0 1 (if (s0.1 1) < x5 then x5 else (s0.1 1))) ++ wX3 g (r0 9) r3 qS s3)) C dX6_spread_86 ml_RX6_134 wv_X3_isLast (m_X3_isLast (a0 := (r0 8)) (r0 := r1) (q0_0 := qS) (r1 := r2) hg hx6) [4, 5, 6, 7, 8, 9, 10] [0, 1, 2, 3, 11, 12, 13] rfl rfl ⟨by decide, by decide⟩ (Nat.le_of_ble_eq_true rfl) ⟨by decide, by decide⟩ rfl rfl rfl rfl rfl rfl rfl (by decide) (ex_k C (cs' := 0) (ss' := 0) (wF := (wX6 g a0 r0 (si s0 1 (if (s0.1 1) < x5 then x5 else (s0.1 1))) ++ wX3 g (r0 8) r1 qS (sb x2 1 (va_cpy (s0.2.2.2 5) (x2.2.2.2 1) ((v3 * (4 : Int32))).toNatClampNeg 0 4)) ++ wX5 g qS r2 s2 ++ wX3 g (r0 9) r3 qS s3)) [0, 1, 2, 3, 7, 8, 9, 10, 11, 12, 13, 4, 5, 6] rfl rfl ?_)
            refine z_if_eq (pc := 89) C dX6_spread_89 (tgt := 95) (by decide) (fun hc => ?_) (fun hc => ?_)
            · replace h := (ite_e h).1 hc
              refine z_aload_n (pc := 95) (x := a0) C dX6_spread_95 (i := 0) rfl rfl ?_
              refine z_get (pc := 96) (v := .ref (r0 8)) C 0 dX6_spread_96 fl_RX6_30 rfl rfl ?_
              replace h := ob_e h
              obtain ⟨x7, hx7, h⟩ := h
              refine z_callV (pc := 99) (As := []) (rest := []) (wr := (wX6 g a0 r0 (si s0 1 (if (s0.1 1) < x5 then x5 else (s0.1 1))) ++ wX5 g qS r2 s2 ++ wX3 g (r0 9) r3 qS s3)) C dX6_spread_99 ml_RX6_137 wv_X3_cardsInTurn (m_X3_cardsInTurn (a0 := (r0 8)) (r0 := r1) (q0_0 := qS) hg hx7) [4, 5, 6] [0, 1, 2, 3, 7, 8, 9, 10, 11, 12, 13] rfl rfl ⟨by decide, by decide⟩ (Nat.le_of_ble_eq_true rfl) ⟨by decide, by decide⟩ rfl rfl rfl rfl rfl rfl rfl (by decide) (ex_k C (cs' := 0) (ss' := 0) (wF := (wX6 g a0 r0 (si s0 1 (if (s0.1 1) < x5 then x5 else (s0.1 1))) ++ wX3 g (r0 8) r1 qS (sb x2 1 (va_cpy (s0.2.2.2 5) (x2.2.2.2 1) ((v3 * (4 : Int32))).toNatClampNeg 0 4)) ++ wX5 g qS r2 s2 ++ wX3 g (r0 9) r3 qS s3)) [0, 1, 2, 3, 11, 12, 13, 4, 5, 6, 7, 8, 9, 10] rfl rfl ?_)
              refine z_lstore (pc := 102) C dX6_spread_102 (by decide) (lv' := [(4, .long x7), (0, .ref a0), (2, .int p2), (3, .int v3)]) rfl ?_
              refine z_iconst (pc := 104) C dX6_spread_104 ic_0 ?_
              refine z_istore (pc := 105) C dX6_spread_105 (by decide) (lv' := [(6, .int (0 : Int32)), (4, .long x7), (0, .ref a0), (2, .int p2), (3, .int v3)]) rfl ?_
              refine z_lv (lv' := [(0, .ref a0), (2, .int p2), (3, .int v3), (4, .long x7), (6, .int (0 : Int32))]) [2, 3, 4, 1, 0] rfl ?_
              exact m_X6_spread_107 (a0 := a0) (r0 := r0) (r1 := r1) (qS := qS) (r2 := r2) (r3 := r3) hg C X hk2 N v3 x7 (0 : Int32) (si s0 1 (if (s0.1 1) < x5 then x5 else (s0.1 1))) (sb x2 1 (va_cpy (s0.2.2.2 5) (x2.2.2.2 1) ((v3 * (4 : Int32))).toNatClampNeg 0 4)) s3 h
            · replace h := (ite_e h).2 hc
              refine z_goto (pc := 92) C dX6_spread_92 (tgt := 174) (by decide) ?_
              refine z_iinc (pc := 174) C dX6_spread_174 rfl (inc_e 1 (1 : Int32) ic_1 v3) (by decide) (lv' := [(3, .int (v3 + (1 : Int32))), (0, .ref a0), (2, .int p2)]) rfl ?_
              refine z_goto (pc := 177) C dX6_spread_177 (tgt := 2) (by decide) ?_
              refine z_lv (lv' := [(0, .ref a0), (2, .int p2), (3, .int (v3 + (1 : Int32)))]) [1, 2, 0] rfl ?_
              exact hk2 (v3 + (1 : Int32)) (si s0 1 (if (s0.1 1) < x5 then x5 else (s0.1 1))) (sb x2 1 (va_cpy (s0.2.2.2 5) (x2.2.2.2 1) ((v3 * (4 : Int32))).toNatClampNeg 0 4)) s3 h
def f_X6_spread (N : Nat) (s0 : Ob) (s1 : Ob) (s2 : Ob) (s3 : Ob) (p1 : Int32) (p2 : Int32) : Option (Ob × Ob × Ob) := (f_X6_spread_2 N s2 p1 p2 N p1 s0 s1 s3)
theorem m_X6_spread {g : Gp} {a0 : Nat} {r0 : Nat → Nat} {r1 : Nat → Nat} {qS : Nat} {r2 : Nat → Nat} {r3 : Nat → Nat} {N : Nat} {s0 : Ob} {s1 : Ob} {s2 : Ob} {s3 : Ob} {p1 : Int32} {p2 : Int32} {res : Ob × Ob × Ob} (hg : Ok g) (h : f_X6_spread N s0 s1 s2 s3 p1 p2 = some res) : Ct g yX6_spread cX6_spread 8 none (zrm 4 85) [.ref a0, .int p1, .int p2] (wX6 g a0 r0 s0 ++ wX3 g (r0 8) r1 qS s1 ++ wX5 g qS r2 s2 ++ wX3 g (r0 9) r3 qS s3) (exR none (wX6 g a0 r0 res.1 ++ wX3 g (r0 8) r1 qS res.2.1 ++ wX5 g qS r2 s2 ++ wX3 g (r0 9) r3 qS res.2.2)) := by
  refine ct_of rfl hg (by show _ ≤ _; exact Nat.le_of_ble_eq_true rfl) (fun K C X => ?_)
  show Zs K 0 0 (wX6 g a0 r0 s0 ++ wX3 g (r0 8) r1 qS s1 ++ wX5 g qS r2 s2 ++ wX3 g (r0 9) r3 qS s3) [(0, .ref a0), (1, .int p1), (2, .int p2)] 0 []
  unfold f_X6_spread at h
  refine z_iload_n (pc := 0) (x := p1) C dX6_spread_0 (i := 1) rfl rfl ?_
  refine z_istore_n (pc := 1) C dX6_spread_1 (i := 3) rfl (by decide) (lv' := [(3, .int p1), (0, .ref a0), (1, .int p1), (2, .int p2)]) rfl ?_
  refine z_lv (lv' := [(0, .ref a0), (2, .int p2), (3, .int p1)]) [1, 3, 0] rfl ?_
  exact m_X6_spread_2 (a0 := a0) (r0 := r0) (r1 := r1) (qS := qS) (r2 := r2) (r3 := r3) hg C X N p1 s0 s1 s3 h
def f_X6_survey (N : Nat) (s0 : Ob) (s1 : Ob) (s2 : Ob) (s3 : Ob) (s4 : Ob) : Option (Ob × Ob × Ob) := (ob (f_X6_clear N s0 s2 s3) fun x1 => (ob (f_X3_takeFrom N s3 s1) fun x2 => (ob (f_X6_add N x1 x2) fun x3 => (ob (f_X1_isEnded N s1 s4) fun x4 => (if x4 = 0 then (ob (f_X6_spread N x3 s2 s4 x2 (0 : Int32) (1000 : Int32)) fun x5 => (some (x5.1, x5.2.1, x5.2.2))) else (ob (f_X1_score N s1) fun x6 => (some ((si x3 1 x6), s2, x2))))))))
theorem m_X6_survey {g : Gp} {a0 : Nat} {a1 : Nat} {r0 : Nat → Nat} {r1 : Nat → Nat} {q1_0 : Nat} {r2 : Nat → Nat} {q2_0 : Nat} {r3 : Nat → Nat} {q3_0 : Nat} {r4 : Nat → Nat} {N : Nat} {s0 : Ob} {s1 : Ob} {s2 : Ob} {s3 : Ob} {s4 : Ob} {res : Ob × Ob × Ob} (hg : Ok g) (h : f_X6_survey N s0 s1 s2 s3 s4 = some res) : Ct g yX6_survey cX6_survey 2 none (zrm 5 112) [.ref a0, .ref a1] (wX6 g a0 r0 s0 ++ wX1 g a1 r1 q1_0 s1 ++ wX3 g (r0 8) r2 q2_0 s2 ++ wX3 g (r0 9) r3 q3_0 s3 ++ wX5 g q1_0 r4 s4) (exR none (wX6 g a0 r0 res.1 ++ wX1 g a1 r1 q1_0 s1 ++ wX3 g (r0 8) r2 q1_0 res.2.1 ++ wX3 g (r0 9) r3 q1_0 res.2.2 ++ wX5 g q1_0 r4 s4)) := by
  refine ct_of rfl hg (by show _ ≤ _; exact Nat.le_of_ble_eq_true rfl) (fun K C X => ?_)
  show Zs K 0 0 (wX6 g a0 r0 s0 ++ wX1 g a1 r1 q1_0 s1 ++ wX3 g (r0 8) r2 q2_0 s2 ++ wX3 g (r0 9) r3 q3_0 s3 ++ wX5 g q1_0 r4 s4) [(0, .ref a0), (1, .ref a1)] 0 []
  unfold f_X6_survey at h
  refine z_aload_n (pc := 0) (x := a0) C dX6_survey_0 (i := 0) rfl rfl ?_
  refine z_aload_n (pc := 1) (x := a1) C dX6_survey_1 (i := 1) rfl rfl ?_
  refine z_get (pc := 2) (v := .ref q1_0) C 4 dX6_survey_2 fl_RX6_37 rfl rfl ?_
  replace h := ob_e h
  obtain ⟨x1, hx1, h⟩ := h
  refine z_callV (pc := 5) (As := [.ref q1_0]) (rest := []) (wr := (wX1 g a1 r1 q1_0 s1 ++ wX5 g q1_0 r4 s4)) C dX6_survey_5 ml_RX6_43 wv_X6_clear (m_X6_clear (a0 := a0) (a1 := q1_0) (r0 := r0) (r1 := r2) (q1_0 := q2_0) (r2 := r3) (q2_0 := q3_0) hg hx1) [0, 1, 2, 3, 13, 14, 15, 16, 17, 18] [4, 5, 6, 7, 8, 9, 10, 11, 12, 19, 20, 21, 22] rfl rfl ⟨by decide, by decide⟩ (Nat.le_of_ble_eq_true rfl) ⟨by decide, by decide⟩ rfl rfl rfl rfl rfl rfl rfl (by decide) (ex_k C (cs' := 0) (ss' := 0) (wF := (wX6 g a0 r0 x1 ++ wX1 g a1 r1 q1_0 s1 ++ wX3 g (r0 8) r2 q1_0 s2 ++ wX3 g (r0 9) r3 q1_0 s3 ++ wX5 g q1_0 r4 s4)) [13, 14, 15, 16, 0, 1, 2, 3, 4, 5, 6, 7, 8, 17, 18, 19, 20, 21, 22, 9, 10, 11, 12] rfl rfl ?_)
  refine z_aload_n (pc := 8) (x := a0) C dX6_survey_8 (i := 0) rfl rfl ?_
  refine z_get (pc := 9) (v := .ref (r0 9)) C 0 dX6_survey_9 fl_RX6_34 rfl rfl ?_
  refine z_aload_n (pc := 12) (x := a1) C dX6_survey_12 (i := 1) rfl rfl ?_
  replace h := ob_e h
  obtain ⟨x2, hx2, h⟩ := h
  refine z_callV (pc := 13) (As := [.ref a1]) (rest := []) (wr := (wX6 g a0 r0 x1 ++ wX3 g (r0 8) r2 q1_0 s2 ++ wX5 g q1_0 r4 s4)) C dX6_survey_13 ml_RX6_46 wv_X3_takeFrom (m_X3_takeFrom (a0 := (r0 9)) (a1 := a1) (r0 := r3) (q0_0 := q1_0) (r1 := r1) (q1_0 := q1_0) hg hx2) [16, 17, 18, 4, 5, 6, 7, 8, 9, 10, 11, 12] [0, 1, 2, 3, 13, 14, 15, 19, 20, 21, 22] rfl rfl ⟨by decide, by decide⟩ (Nat.le_of_ble_eq_true rfl) ⟨by decide, by decide⟩ rfl rfl rfl rfl rfl rfl rfl (by decide) (ex_k C (cs' := 0) (ss' := 0) (wF := (wX6 g a0 r0 x1 ++ wX1 g a1 r1 q1_0 s1 ++ wX3 g (r0 8) r2 q1_0 s2 ++ wX3 g (r0 9) r3 q1_0 x2 ++ wX5 g q1_0 r4 s4)) [0, 1, 2, 3, 14, 15, 16, 17, 18, 19, 20, 21, 22, 4, 5, 6, 11, 12, 13, 7, 8, 9, 10] rfl rfl ?_)
  refine z_aload_n (pc := 16) (x := a0) C dX6_survey_16 (i := 0) rfl rfl ?_
  replace h := ob_e h
  obtain ⟨x3, hx3, h⟩ := h
  refine z_callV (pc := 17) (As := []) (rest := []) (wr := (wX1 g a1 r1 q1_0 s1 ++ wX3 g (r0 8) r2 q1_0 s2 ++ wX5 g q1_0 r4 s4)) C dX6_survey_17 ml_RX6_50 wv_X6_add (m_X6_add (a0 := a0) (r0 := r0) (r1 := r3) (qS := q1_0) hg hx3) [0, 1, 2, 3, 16, 17, 18] [4, 5, 6, 7, 8, 9, 10, 11, 12, 13, 14, 15, 19, 20, 21, 22] rfl rfl ⟨by decide, by decide⟩ (Nat.le_of_ble_eq_true rfl) ⟨by decide, by decide⟩ rfl rfl rfl rfl rfl rfl rfl (by decide) (ex_k C (cs' := 0) (ss' := 0) (wF := (wX6 g a0 r0 x3 ++ wX1 g a1 r1 q1_0 s1 ++ wX3 g (r0 8) r2 q1_0 s2 ++ wX3 g (r0 9) r3 q1_0 x2 ++ wX5 g q1_0 r4 s4)) [16, 17, 18, 19, 0, 1, 2, 3, 4, 5, 6, 7, 8, 9, 10, 11, 20, 21, 22, 12, 13, 14, 15] rfl rfl ?_)
  refine z_aload_n (pc := 20) (x := a1) C dX6_survey_20 (i := 1) rfl rfl ?_
  replace h := ob_e h
  obtain ⟨x4, hx4, h⟩ := h
  refine z_callV (pc := 21) (As := []) (rest := []) (wr := (wX6 g a0 r0 x3 ++ wX3 g (r0 8) r2 q1_0 s2 ++ wX3 g (r0 9) r3 q1_0 x2)) C dX6_survey_21 ml_RX6_53 wv_X1_isEnded (m_X1_isEnded (a0 := a1) (r0 := r1) (q0_0 := q1_0) (r1 := r4) hg hx4) [4, 5, 6, 7, 8, 9, 10, 11, 12, 19, 20, 21, 22] [0, 1, 2, 3, 13, 14, 15, 16, 17, 18] rfl rfl ⟨by decide, by decide⟩ (Nat.le_of_ble_eq_true rfl) ⟨by decide, by decide⟩ rfl rfl rfl rfl rfl rfl rfl (by decide) (ex_k C (cs' := 0) (ss' := 0) (wF := (wX6 g a0 r0 x3 ++ wX1 g a1 r1 q1_0 s1 ++ wX3 g (r0 8) r2 q1_0 s2 ++ wX3 g (r0 9) r3 q1_0 x2 ++ wX5 g q1_0 r4 s4)) [0, 1, 2, 3, 10, 11, 12, 13, 14, 15, 16, 17, 18, 4, 5, 6, 7, 8, 9, 19, 20, 21, 22] rfl rfl ?_)
  refine z_if_eq (pc := 24) C dX6_survey_24 (tgt := 38) (by decide) (fun hc => ?_) (fun hc => ?_)
  · replace h := (ite_e h).1 hc
    refine z_aload_n (pc := 38) (x := a0) C dX6_survey_38 (i := 0) rfl rfl ?_
    refine z_iconst (pc := 39) C dX6_survey_39 ic_0 ?_
    refine z_sipush (pc := 40) C dX6_survey_40 sp_1000 ?_
    replace h := ob_e h
    obtain ⟨x5, hx5, h⟩ := h
    refine z_callV (pc := 43) (As := [.int (0 : Int32), .int (1000 : Int32)]) (rest := []) (wr := (wX1 g a1 r1 q1_0 s1)) C dX6_survey_43 ml_RX6_65 wv_X6_spread (m_X6_spread (a0 := a0) (r0 := r0) (r1 := r2) (qS := q1_0) (r2 := r4) (r3 := r3) hg hx5) [0, 1, 2, 3, 13, 14, 15, 19, 20, 21, 22, 16, 17, 18] [4, 5, 6, 7, 8, 9, 10, 11, 12] rfl rfl ⟨by decide, by decide⟩ (Nat.le_of_ble_eq_true rfl) ⟨by decide, by decide⟩ rfl rfl rfl rfl rfl rfl rfl (by decide) (ex_k C (cs' := 0) (ss' := 0) (wF := (wX6 g a0 r0 x5.1 ++ wX1 g a1 r1 q1_0 s1 ++ wX3 g (r0 8) r2 q1_0 x5.2.1 ++ wX3 g (r0 9) r3 q1_0 x5.2.2 ++ wX5 g q1_0 r4 s4)) [9, 10, 11, 12, 0, 1, 2, 3, 4, 5, 6, 7, 8, 13, 14, 15, 20, 21, 22, 16, 17, 18, 19] rfl rfl ?_)
    exact z_vret C X dX6_survey_46 (by rw [← Option.some.inj h]; exact ⟨rfl, rfl⟩) (by decide) (by decide)
  · replace h := (ite_e h).2 hc
    refine z_aload_n (pc := 27) (x := a0) C dX6_survey_27 (i := 0) rfl rfl ?_
    refine z_aload_n (pc := 28) (x := a1) C dX6_survey_28 (i := 1) rfl rfl ?_
    replace h := ob_e h
    obtain ⟨x6, hx6, h⟩ := h
    refine z_callV (pc := 29) (As := []) (rest := [.ref a0]) (wr := (wX6 g a0 r0 x3 ++ wX3 g (r0 8) r2 q1_0 s2 ++ wX3 g (r0 9) r3 q1_0 x2 ++ wX5 g q1_0 r4 s4)) C dX6_survey_29 ml_RX6_57 wv_X1_score (m_X1_score (a0 := a1) (r0 := r1) (q0_0 := q1_0) hg hx6) [4, 5, 6, 7, 8, 9, 10, 11, 12] [0, 1, 2, 3, 13, 14, 15, 16, 17, 18, 19, 20, 21, 22] rfl rfl ⟨by decide, by decide⟩ (Nat.le_of_ble_eq_true rfl) ⟨by decide, by decide⟩ rfl rfl rfl rfl rfl rfl rfl (by decide) (ex_k C (cs' := 0) (ss' := 0) (wF := (wX6 g a0 r0 x3 ++ wX1 g a1 r1 q1_0 s1 ++ wX3 g (r0 8) r2 q1_0 s2 ++ wX3 g (r0 9) r3 q1_0 x2 ++ wX5 g q1_0 r4 s4)) [0, 1, 2, 3, 14, 15, 16, 17, 18, 19, 20, 21, 22, 4, 5, 6, 7, 8, 9, 10, 11, 12, 13] rfl rfl ?_)
    refine z_put (pc := 32) C 0 dX6_survey_32 fp_RX6_61 rfl rfl rfl (zlt_b rfl) (ws' := (wX6 g a0 r0 (si x3 1 x6) ++ wX1 g a1 r1 q1_0 s1 ++ wX3 g (r0 8) r2 q1_0 s2 ++ wX3 g (r0 9) r3 q1_0 x2 ++ wX5 g q1_0 r4 s4)) rfl ?_
    refine z_goto (pc := 35) C dX6_survey_35 (tgt := 46) (by decide) ?_
    exact z_vret C X dX6_survey_46 (by rw [← Option.some.inj h]; exact ⟨rfl, rfl⟩) (by decide) (by decide)
