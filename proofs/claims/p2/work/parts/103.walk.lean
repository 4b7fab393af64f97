/-! OWN, written by wip/whole/tools/mkall.py: what each method does to its cells, and the walk that shows it -/
def f_X1_copyFrom (N : Nat) (s0 : Ob) (s1 : Ob) : Option (Ob) := (znm (si s0 1 (s1.1 1)) fun y1 => (znm (si y1 2 (s1.1 2)) fun y2 => (znm (si y2 3 (s1.1 3)) fun y3 => (znm (si y3 4 (s1.1 4)) fun y4 => (znm (si y4 5 (s1.1 5)) fun y5 => (znm (si y5 6 (s1.1 6)) fun y6 => (znm (sl y6 8 (s1.2.1 8)) fun y7 => (znm (sa y7 7 (va_cpy (s1.2.2.1 7) (y7.2.2.1 7) 0 0 7)) fun y8 => (znm (sa y8 9 (va_cpy (s1.2.2.1 9) (y8.2.2.1 9) 0 0 20)) fun y9 => (znm (sa y9 10 (va_cpy (s1.2.2.1 10) (y9.2.2.1 10) 0 0 4)) fun y10 => (znm (sa y10 11 (va_cpy (s1.2.2.1 11) (y10.2.2.1 11) 0 0 4)) fun y11 => (znm (sa y11 12 (va_cpy (s1.2.2.1 12) (y11.2.2.1 12) 0 0 20)) fun y12 => (znm (sa y12 13 (va_cpy (s1.2.2.1 13) (y12.2.2.1 13) 0 0 9)) fun y13 => (znm (sa y13 14 (va_cpy (s1.2.2.1 14) (y13.2.2.1 14) 0 0 40)) fun y14 => (some (sa y14 15 (va_cpy (s1.2.2.1 15) (y14.2.2.1 15) 0 0 120)))))))))))))))))
theorem m_X1_copyFrom {g : Gp} {a0 : Nat} {a1 : Nat} {r0 : Nat → Nat} {q0_0 : Nat} {r1 : Nat → Nat} {q1_0 : Nat} {N : Nat} {s0 : Ob} {s1 : Ob} {res : Ob} (hg : Ok g) (h : f_X1_copyFrom N s0 s1 = some res) : Ct g yX1_copyFrom cX1_copyFrom 2 none (zrm 1 18) [.ref a0, .ref a1] (wX1 g a0 r0 q0_0 s0 ++ wX1 g a1 r1 q1_0 s1) (exR none (wX1 g a0 r0 q1_0 res ++ wX1 g a1 r1 q1_0 s1)) := by
  refine ct_of rfl hg (by show _ ≤ _; exact Nat.le_of_ble_eq_true rfl) (fun K C X => ?_)
  show Zs K 0 0 (wX1 g a0 r0 q0_0 s0 ++ wX1 g a1 r1 q1_0 s1) [(0, .ref a0), (1, .ref a1)] 0 []
  unfold f_X1_copyFrom at h
  refine z_aload_n (pc := 0) (x := a0) C dX1_copyFrom_0 (i := 0) rfl rfl ?_
  refine z_aload_n (pc := 1) (x := a1) C dX1_copyFrom_1 (i := 1) rfl rfl ?_
  refine z_get (pc := 2) (v := .ref q1_0) C 9 dX1_copyFrom_2 fl_RX1_38 rfl rfl ?_
  refine z_put (pc := 5) C 0 dX1_copyFrom_5 fp_RX1_38 rfl rfl rfl (zlt_b rfl) (ws' := (wX1 g a0 r0 q1_0 s0 ++ wX1 g a1 r1 q1_0 s1)) rfl ?_
  refine z_aload_n (pc := 8) (x := a0) C dX1_copyFrom_8 (i := 0) rfl rfl ?_
  refine z_aload_n (pc := 9) (x := a1) C dX1_copyFrom_9 (i := 1) rfl rfl ?_
  refine z_get (pc := 10) (v := .int (s1.1 1)) C 9 dX1_copyFrom_10 fl_RX1_42 rfl rfl ?_
  refine z_put (pc := 13) C 0 dX1_copyFrom_13 fp_RX1_42 rfl rfl rfl (zlt_b rfl) (ws' := (wX1 g a0 r0 q1_0 (si s0 1 (s1.1 1)) ++ wX1 g a1 r1 q1_0 s1)) rfl ?_
  refine z_aload_n (pc := 16) (x := a0) C dX1_copyFrom_16 (i := 0) rfl rfl ?_
  refine z_aload_n (pc := 17) (x := a1) C dX1_copyFrom_17 (i := 1) rfl rfl ?_
  refine z_get (pc := 18) (v := .int (s1.1 2)) C 9 dX1_copyFrom_18 fl_RX1_46 rfl rfl ?_
  replace h := znm_e h
  obtain ⟨y1, hy1, h⟩ := h
  refine z_wsE (ws' := (wX1 g a0 r0 q1_0 y1 ++ wX1 g a1 r1 q1_0 s1)) (by rw [hy1]) ?_
  refine z_put (pc := 21) C 0 dX1_copyFrom_21 fp_RX1_46 rfl rfl rfl (zlt_b rfl) (ws' := (wX1 g a0 r0 q1_0 (si y1 2 (s1.1 2)) ++ wX1 g a1 r1 q1_0 s1)) rfl ?_
  refine z_aload_n (pc := 24) (x := a0) C dX1_copyFrom_24 (i := 0) rfl rfl ?_
  refine z_aload_n (pc := 25) (x := a1) C dX1_copyFrom_25 (i := 1) rfl rfl ?_
  refine z_get (pc := 26) (v := .int (s1.1 3)) C 9 dX1_copyFrom_26 fl_RX1_49 rfl rfl ?_
  replace h := znm_e h
  obtain ⟨y2, hy2, h⟩ := h
  refine z_wsE (ws' := (wX1 g a0 r0 q1_0 y2 ++ wX1 g a1 r1 q1_0 s1)) (by rw [hy2]) ?_
  refine z_put (pc := 29) C 0 dX1_copyFrom_29 fp_RX1_49 rfl rfl rfl (zlt_b rfl) (ws' := (wX1 g a0 r0 q1_0 (si y2 3 (s1.1 3)) ++ wX1 g a1 r1 q1_0 s1)) rfl ?_
  refine z_aload_n (pc := 32) (x := a0) C dX1_copyFrom_32 (i := 0) rfl rfl ?_
  refine z_aload_n (pc := 33) (x := a1) C dX1_copyFrom_33 (i := 1) rfl rfl ?_
  refine z_get (pc := 34) (v := .int (s1.1 4)) C 9 dX1_copyFrom_34 fl_RX1_52 rfl rfl ?_
  replace h := znm_e h
  obtain ⟨y3, hy3, h⟩ := h
  refine z_wsE (ws' := (wX1 g a0 r0 q1_0 y3 ++ wX1 g a1 r1 q1_0 s1)) (by rw [hy3]) ?_
  refine z_put (pc := 37) C 0 dX1_copyFrom_37 fp_RX1_52 rfl rfl rfl (zlt_b rfl) (ws' := (wX1 g a0 r0 q1_0 (si y3 4 (s1.1 4)) ++ wX1 g a1 r1 q1_0 s1)) rfl ?_
  refine z_aload_n (pc := 40) (x := a0) C dX1_copyFrom_40 (i := 0) rfl rfl ?_
  refine z_aload_n (pc := 41) (x := a1) C dX1_copyFrom_41 (i := 1) rfl rfl ?_
  refine z_get (pc := 42) (v := .int (s1.1 5)) C 9 dX1_copyFrom_42 fl_RX1_55 rfl rfl ?_
  replace h := znm_e h
  obtain ⟨y4, hy4, h⟩ := h
  refine z_wsE (ws' := (wX1 g a0 r0 q1_0 y4 ++ wX1 g a1 r1 q1_0 s1)) (by rw [hy4]) ?_
  refine z_put (pc := 45) C 0 dX1_copyFrom_45 fp_RX1_55 rfl rfl rfl (zlt_b rfl) (ws' := (wX1 g a0 r0 q1_0 (si y4 5 (s1.1 5)) ++ wX1 g a1 r1 q1_0 s1)) rfl ?_
  refine z_aload_n (pc := 48) (x := a0) C dX1_copyFrom_48 (i := 0) rfl rfl ?_
  refine z_aload_n (pc := 49) (x := a1) C dX1_copyFrom_49 (i := 1) rfl rfl ?_
  refine z_get (pc := 50) (v := .int (s1.1 6)) C 9 dX1_copyFrom_50 fl_RX1_58 rfl rfl ?_
  replace h := znm_e h
  obtain ⟨y5, hy5, h⟩ := h
  refine z_wsE (ws' := (wX1 g a0 r0 q1_0 y5 ++ wX1 g a1 r1 q1_0 s1)) (by rw [hy5]) ?_
  refine z_put (pc := 53) C 0 dX1_copyFrom_53 fp_RX1_58 rfl rfl rfl (zlt_b rfl) (ws' := (wX1 g a0 r0 q1_0 (si y5 6 (s1.1 6)) ++ wX1 g a1 r1 q1_0 s1)) rfl ?_
  refine z_aload_n (pc := 56) (x := a0) C dX1_copyFrom_56 (i := 0) rfl rfl ?_
  refine z_aload_n (pc := 57) (x := a1) C dX1_copyFrom_57 (i := 1) rfl rfl ?_
  refine z_get (pc := 58) (v := .long (s1.2.1 8)) C 9 dX1_copyFrom_58 fl_RX1_61 rfl rfl ?_
  replace h := znm_e h
  obtain ⟨y6, hy6, h⟩ := h
  refine z_wsE (ws' := (wX1 g a0 r0 q1_0 y6 ++ wX1 g a1 r1 q1_0 s1)) (by rw [hy6]) ?_
  refine z_put (pc := 61) C 0 dX1_copyFrom_61 fp_RX1_61 rfl rfl rfl (zlt_b rfl) (ws' := (wX1 g a0 r0 q1_0 (sl y6 8 (s1.2.1 8)) ++ wX1 g a1 r1 q1_0 s1)) rfl ?_
  refine z_aload_n (pc := 64) (x := a1) C dX1_copyFrom_64 (i := 1) rfl rfl ?_
  refine z_get (pc := 65) (v := .ref (r1 7)) C 9 dX1_copyFrom_65 fl_RX1_11 rfl rfl ?_
  refine z_iconst (pc := 68) C dX1_copyFrom_68 ic_0 ?_
  refine z_aload_n (pc := 69) (x := a0) C dX1_copyFrom_69 (i := 0) rfl rfl ?_
  refine z_get (pc := 70) (v := .ref (r0 7)) C 0 dX1_copyFrom_70 fl_RX1_11 rfl rfl ?_
  refine z_iconst (pc := 73) C dX1_copyFrom_73 ic_0 ?_
  refine z_bipush (pc := 74) C dX1_copyFrom_74 bp_7 ?_
  replace h := znm_e h
  obtain ⟨y7, hy7, h⟩ := h
  refine z_wsE (ws' := (wX1 g a0 r0 q1_0 y7 ++ wX1 g a1 r1 q1_0 s1)) (by rw [hy7]) ?_
  refine z_copyi (pc := 76) C 10 1 dX1_copyFrom_76 wc_RX1_65 rfl rfl (by decide) (by decide) (by decide) (by decide) (by decide) (by decide) (Nat.le_of_ble_eq_true rfl) (ws' := (wX1 g a0 r0 q1_0 (sa y7 7 (va_cpy (s1.2.2.1 7) (y7.2.2.1 7) 0 0 7)) ++ wX1 g a1 r1 q1_0 s1)) rfl ?_
  refine z_aload_n (pc := 79) (x := a1) C dX1_copyFrom_79 (i := 1) rfl rfl ?_
  refine z_get (pc := 80) (v := .ref (r1 9)) C 9 dX1_copyFrom_80 fl_RX1_15 rfl rfl ?_
  refine z_iconst (pc := 83) C dX1_copyFrom_83 ic_0 ?_
  refine z_aload_n (pc := 84) (x := a0) C dX1_copyFrom_84 (i := 0) rfl rfl ?_
  refine z_get (pc := 85) (v := .ref (r0 9)) C 0 dX1_copyFrom_85 fl_RX1_15 rfl rfl ?_
  refine z_iconst (pc := 88) C dX1_copyFrom_88 ic_0 ?_
  refine z_bipush (pc := 89) C dX1_copyFrom_89 bp_20 ?_
  replace h := znm_e h
  obtain ⟨y8, hy8, h⟩ := h
  refine z_wsE (ws' := (wX1 g a0 r0 q1_0 y8 ++ wX1 g a1 r1 q1_0 s1)) (by rw [hy8]) ?_
  refine z_copyi (pc := 91) C 11 2 dX1_copyFrom_91 wc_RX1_65 rfl rfl (by decide) (by decide) (by decide) (by decide) (by decide) (by decide) (Nat.le_of_ble_eq_true rfl) (ws' := (wX1 g a0 r0 q1_0 (sa y8 9 (va_cpy (s1.2.2.1 9) (y8.2.2.1 9) 0 0 20)) ++ wX1 g a1 r1 q1_0 s1)) rfl ?_
  refine z_aload_n (pc := 94) (x := a1) C dX1_copyFrom_94 (i := 1) rfl rfl ?_
  refine z_get (pc := 95) (v := .ref (r1 10)) C 9 dX1_copyFrom_95 fl_RX1_18 rfl rfl ?_
  refine z_iconst (pc := 98) C dX1_copyFrom_98 ic_0 ?_
  refine z_aload_n (pc := 99) (x := a0) C dX1_copyFrom_99 (i := 0) rfl rfl ?_
  refine z_get (pc := 100) (v := .ref (r0 10)) C 0 dX1_copyFrom_100 fl_RX1_18 rfl rfl ?_
  refine z_iconst (pc := 103) C dX1_copyFrom_103 ic_0 ?_
  refine z_iconst (pc := 104) C dX1_copyFrom_104 ic_4 ?_
  replace h := znm_e h
  obtain ⟨y9, hy9, h⟩ := h
  refine z_wsE (ws' := (wX1 g a0 r0 q1_0 y9 ++ wX1 g a1 r1 q1_0 s1)) (by rw [hy9]) ?_
  refine z_copyi (pc := 105) C 12 3 dX1_copyFrom_105 wc_RX1_65 rfl rfl (by decide) (by decide) (by decide) (by decide) (by decide) (by decide) (Nat.le_of_ble_eq_true rfl) (ws' := (wX1 g a0 r0 q1_0 (sa y9 10 (va_cpy (s1.2.2.1 10) (y9.2.2.1 10) 0 0 4)) ++ wX1 g a1 r1 q1_0 s1)) rfl ?_
  refine z_aload_n (pc := 108) (x := a1) C dX1_copyFrom_108 (i := 1) rfl rfl ?_
  refine z_get (pc := 109) (v := .ref (r1 11)) C 9 dX1_copyFrom_109 fl_RX1_21 rfl rfl ?_
  refine z_iconst (pc := 112) C dX1_copyFrom_112 ic_0 ?_
  refine z_aload_n (pc := 113) (x := a0) C dX1_copyFrom_113 (i := 0) rfl rfl ?_
  refine z_get (pc := 114) (v := .ref (r0 11)) C 0 dX1_copyFrom_114 fl_RX1_21 rfl rfl ?_
  refine z_iconst (pc := 117) C dX1_copyFrom_117 ic_0 ?_
  refine z_iconst (pc := 118) C dX1_copyFrom_118 ic_4 ?_
  replace h := znm_e h
  obtain ⟨y10, hy10, h⟩ := h
  refine z_wsE (ws' := (wX1 g a0 r0 q1_0 y10 ++ wX1 g a1 r1 q1_0 s1)) (by rw [hy10]) ?_
  refine z_copyi (pc := 119) C 13 4 dX1_copyFrom_119 wc_RX1_65 rfl rfl (by decide) (by decide) (by decide) (by decide) (by decide) (by decide) (Nat.le_of_ble_eq_true rfl) (ws' := (wX1 g a0 r0 q1_0 (sa y10 11 (va_cpy (s1.2.2.1 11) (y10.2.2.1 11) 0 0 4)) ++ wX1 g a1 r1 q1_0 s1)) rfl ?_
  refine z_aload_n (pc := 122) (x := a1) C dX1_copyFrom_122 (i := 1) rfl rfl ?_
  refine z_get (pc := 123) (v := .ref (r1 12)) C 9 dX1_copyFrom_123 fl_RX1_24 rfl rfl ?_
  refine z_iconst (pc := 126) C dX1_copyFrom_126 ic_0 ?_
  refine z_aload_n (pc := 127) (x := a0) C dX1_copyFrom_127 (i := 0) rfl rfl ?_
  refine z_get (pc := 128) (v := .ref (r0 12)) C 0 dX1_copyFrom_128 fl_RX1_24 rfl rfl ?_
  refine z_iconst (pc := 131) C dX1_copyFrom_131 ic_0 ?_
  refine z_bipush (pc := 132) C dX1_copyFrom_132 bp_20 ?_
  replace h := znm_e h
  obtain ⟨y11, hy11, h⟩ := h
  refine z_wsE (ws' := (wX1 g a0 r0 q1_0 y11 ++ wX1 g a1 r1 q1_0 s1)) (by rw [hy11]) ?_
  refine z_copyi (pc := 134) C 14 5 dX1_copyFrom_134 wc_RX1_65 rfl rfl (by decide) (by decide) (by decide) (by decide) (by decide) (by decide) (Nat.le_of_ble_eq_true rfl) (ws' := (wX1 g a0 r0 q1_0 (sa y11 12 (va_cpy (s1.2.2.1 12) (y11.2.2.1 12) 0 0 20)) ++ wX1 g a1 r1 q1_0 s1)) rfl ?_
  refine z_aload_n (pc := 137) (x := a1) C dX1_copyFrom_137 (i := 1) rfl rfl ?_
  refine z_get (pc := 138) (v := .ref (r1 13)) C 9 dX1_copyFrom_138 fl_RX1_29 rfl rfl ?_
  refine z_iconst (pc := 141) C dX1_copyFrom_141 ic_0 ?_
  refine z_aload_n (pc := 142) (x := a0) C dX1_copyFrom_142 (i := 0) rfl rfl ?_
  refine z_get (pc := 143) (v := .ref (r0 13)) C 0 dX1_copyFrom_143 fl_RX1_29 rfl rfl ?_
  refine z_iconst (pc := 146) C dX1_copyFrom_146 ic_0 ?_
  refine z_bipush (pc := 147) C dX1_copyFrom_147 bp_9 ?_
  replace h := znm_e h
  obtain ⟨y12, hy12, h⟩ := h
  refine z_wsE (ws' := (wX1 g a0 r0 q1_0 y12 ++ wX1 g a1 r1 q1_0 s1)) (by rw [hy12]) ?_
  refine z_copyi (pc := 149) C 15 6 dX1_copyFrom_149 wc_RX1_65 rfl rfl (by decide) (by decide) (by decide) (by decide) (by decide) (by decide) (Nat.le_of_ble_eq_true rfl) (ws' := (wX1 g a0 r0 q1_0 (sa y12 13 (va_cpy (s1.2.2.1 13) (y12.2.2.1 13) 0 0 9)) ++ wX1 g a1 r1 q1_0 s1)) rfl ?_
  refine z_aload_n (pc := 152) (x := a1) C dX1_copyFrom_152 (i := 1) rfl rfl ?_
  refine z_get (pc := 153) (v := .ref (r1 14)) C 9 dX1_copyFrom_153 fl_RX1_32 rfl rfl ?_
  refine z_iconst (pc := 156) C dX1_copyFrom_156 ic_0 ?_
  refine z_aload_n (pc := 157) (x := a0) C dX1_copyFrom_157 (i := 0) rfl rfl ?_
  refine z_get (pc := 158) (v := .ref (r0 14)) C 0 dX1_copyFrom_158 fl_RX1_32 rfl rfl ?_
  refine z_iconst (pc := 161) C dX1_copyFrom_161 ic_0 ?_
  refine z_bipush (pc := 162) C dX1_copyFrom_162 bp_40 ?_
  replace h := znm_e h
  obtain ⟨y13, hy13, h⟩ := h
  refine z_wsE (ws' := (wX1 g a0 r0 q1_0 y13 ++ wX1 g a1 r1 q1_0 s1)) (by rw [hy13]) ?_
  refine z_copyi (pc := 164) C 16 7 dX1_copyFrom_164 wc_RX1_65 rfl rfl (by decide) (by decide) (by decide) (by decide) (by decide) (by decide) (Nat.le_of_ble_eq_true rfl) (ws' := (wX1 g a0 r0 q1_0 (sa y13 14 (va_cpy (s1.2.2.1 14) (y13.2.2.1 14) 0 0 40)) ++ wX1 g a1 r1 q1_0 s1)) rfl ?_
  refine z_aload_n (pc := 167) (x := a1) C dX1_copyFrom_167 (i := 1) rfl rfl ?_
  refine z_get (pc := 168) (v := .ref (r1 15)) C 9 dX1_copyFrom_168 fl_RX1_35 rfl rfl ?_
  refine z_iconst (pc := 171) C dX1_copyFrom_171 ic_0 ?_
  refine z_aload_n (pc := 172) (x := a0) C dX1_copyFrom_172 (i := 0) rfl rfl ?_
  refine z_get (pc := 173) (v := .ref (r0 15)) C 0 dX1_copyFrom_173 fl_RX1_35 rfl rfl ?_
  refine z_iconst (pc := 176) C dX1_copyFrom_176 ic_0 ?_
  refine z_bipush (pc := 177) C dX1_copyFrom_177 bp_120 ?_
  replace h := znm_e h
  obtain ⟨y14, hy14, h⟩ := h
  refine z_wsE (ws' := (wX1 g a0 r0 q1_0 y14 ++ wX1 g a1 r1 q1_0 s1)) (by rw [hy14]) ?_
  refine z_copyi (pc := 179) C 17 8 dX1_copyFrom_179 wc_RX1_65 rfl rfl (by decide) (by decide) (by decide) (by decide) (by decide) (by decide) (Nat.le_of_ble_eq_true rfl) (ws' := (wX1 g a0 r0 q1_0 (sa y14 15 (va_cpy (s1.2.2.1 15) (y14.2.2.1 15) 0 0 120)) ++ wX1 g a1 r1 q1_0 s1)) rfl ?_
  exact z_vret C X dX1_copyFrom_182 (by rw [← Option.some.inj h]; exact ⟨rfl, rfl⟩) (by decide) (by decide)
def F_X5_allKinds_4 (N : Nat) (s0 : Ob)  (k4 : Int32 → Int32 → Option (Int32)) (v1 : Int32) (v2 : Int32) : Option (Int32) := (if (s0.1 0) ≤ v2 then (some v1) else (znm ((((1 : Int32) <<< ((s0.1 1) &&& 31)) - (1 : Int32)) <<< ((v2 * (5 : Int32)) &&& 31)) fun x1 => (k4 (v1 ||| x1) (v2 + (1 : Int32)))))
def f_X5_allKinds_4 (N : Nat) (s0 : Ob)  : Nat → Int32 → Int32 → Option (Int32) := zlp (fun _ _ => none) (F_X5_allKinds_4 N s0)
theorem m_X5_allKinds_4 {K : Kt} {g : Gp} {a0 : Nat} {r0 : Nat → Nat} {N : Nat} {s0 : Ob} {res : Int32} (hg : Ok g) (C : Cx K g cX5_allKinds RX5 3 (zrm 0 0)) (X : Rx K (exR (some (.int res)) (wX5 g a0 r0 s0)) 0 0 (some .int)) : ∀ (n : Nat) (v1 : Int32) (v2 : Int32), f_X5_allKinds_4 N s0 n v1 v2 = some res → Zs K 0 0 (wX5 g a0 r0 s0) [(0, .ref a0), (1, .int v1), (2, .int v2)] 4 [] := by
  intro n
  induction n with
  | zero => intro v1 v2 h; exact nomatch (show (none : Option (Int32)) = some res from h)
  | succ n hk4 =>
    intro v1 v2 h
    replace h : F_X5_allKinds_4 N s0 (f_X5_allKinds_4 N s0 n) v1 v2 = some res := h
    unfold F_X5_allKinds_4 at h
    refine z_iload_n (pc := 4) (x := v2) C dX5_allKinds_4 (i := 2) rfl rfl ?_
    refine z_aload_n (pc := 5) (x := a0) C dX5_allKinds_5 (i := 0) rfl rfl ?_
    refine z_get (pc := 6) (v := .int (s0.1 0)) C 0 dX5_allKinds_6 fl_RX5_48 rfl rfl ?_
    refine z_icmp_ge (pc := 9) C dX5_allKinds_9 (tgt := 33) (by decide) (fun hc => ?_) (fun hc => ?_)
    · replace h := (ite_e h).1 hc
      refine z_iload_n (pc := 33) (x := v1) C dX5_allKinds_33 (i := 1) rfl rfl ?_
      exact z_iret C X dX5_allKinds_34 (by rw [← Option.some.inj h]; exact ⟨rfl, rfl⟩) (by decide) (by decide)
    · replace h := (ite_e h).2 hc
      refine z_iload_n (pc := 12) (x := v1) C dX5_allKinds_12 (i := 1) rfl rfl ?_
      refine z_iconst (pc := 13) C dX5_allKinds_13 ic_1 ?_
      refine z_aload_n (pc := 14) (x := a0) C dX5_allKinds_14 (i := 0) rfl rfl ?_
      refine z_get (pc := 15) (v := .int (s0.1 1)) C 0 dX5_allKinds_15 fl_RX5_51 rfl rfl ?_
      refine z_ishl (pc := 18) C dX5_allKinds_18 ?_
      refine z_iconst (pc := 19) C dX5_allKinds_19 ic_1 ?_
      refine z_isub (pc := 20) C dX5_allKinds_20 ?_
      refine z_iload_n (pc := 21) (x := v2) C dX5_allKinds_21 (i := 2) rfl rfl ?_
      refine z_iconst (pc := 22) C dX5_allKinds_22 ic_5 ?_
      refine z_imul (pc := 23) C dX5_allKinds_23 ?_
      refine z_ishl (pc := 24) C dX5_allKinds_24 ?_
      replace h := znm_e h
      obtain ⟨x1, hx1, h⟩ := h
      refine z_top1 hx1 ?_
      refine z_ior (pc := 25) C dX5_allKinds_25 ?_
      refine z_istore_n (pc := 26) C dX5_allKinds_26 (i := 1) rfl (by decide) (lv' := [(1, .int (v1 ||| x1)), (0, .ref a0), (2, .int v2)]) rfl ?_
      refine z_iinc (pc := 27) C dX5_allKinds_27 rfl (inc_e 1 (1 : Int32) ic_1 v2) (by decide) (lv' := [(2, .int (v2 + (1 : Int32))), (1, .int (v1 ||| x1)), (0, .ref a0)]) rfl ?_
      refine z_goto (pc := 30) C dX5_allKinds_30 (tgt := 4) (by decide) ?_
      refine z_lv (lv' := [(0, .ref a0), (1, .int (v1 ||| x1)), (2, .int (v2 + (1 : Int32)))]) [2, 1, 0] rfl ?_
      exact hk4 (v1 ||| x1) (v2 + (1 : Int32)) h
def f_X5_allKinds (N : Nat) (s0 : Ob) : Option (Int32) := (f_X5_allKinds_4 N s0 N (0 : Int32) (0 : Int32))
theorem m_X5_allKinds {g : Gp} {a0 : Nat} {r0 : Nat → Nat} {N : Nat} {s0 : Ob} {res : Int32} (hg : Ok g) (h : f_X5_allKinds N s0 = some res) : Ct g yX5_allKinds cX5_allKinds 3 (some .int) (zrm 0 0) [.ref a0] (wX5 g a0 r0 s0) (exR (some (.int res)) (wX5 g a0 r0 s0)) := by
  refine ct_of rfl hg (by show _ ≤ _; exact Nat.le_of_ble_eq_true rfl) (fun K C X => ?_)
  show Zs K 0 0 (wX5 g a0 r0 s0) [(0, .ref a0)] 0 []
  unfold f_X5_allKinds at h
  refine z_iconst (pc := 0) C dX5_allKinds_0 ic_0 ?_
  refine z_istore_n (pc := 1) C dX5_allKinds_1 (i := 1) rfl (by decide) (lv' := [(1, .int (0 : Int32)), (0, .ref a0)]) rfl ?_
  refine z_iconst (pc := 2) C dX5_allKinds_2 ic_0 ?_
  refine z_istore_n (pc := 3) C dX5_allKinds_3 (i := 2) rfl (by decide) (lv' := [(2, .int (0 : Int32)), (1, .int (0 : Int32)), (0, .ref a0)]) rfl ?_
  refine z_lv (lv' := [(0, .ref a0), (1, .int (0 : Int32)), (2, .int (0 : Int32))]) [2, 1, 0] rfl ?_
  exact m_X5_allKinds_4 (a0 := a0) (r0 := r0) hg C X N (0 : Int32) (0 : Int32) h
def f_X1_begin_180 (N : Nat) (s1 : Ob)  (t1 : Int32) (s0 : Ob) : Option (Ob) := (some (si s0 6 t1))
theorem m_X1_begin_180 {K : Kt} {g : Gp} {a0 : Nat} {a1 : Nat} {r0 : Nat → Nat} {q0_0 : Nat} {r1 : Nat → Nat} {N : Nat} {s1 : Ob} {res : Ob} (hg : Ok g) (C : Cx K g cX1_begin RX1 4 (zrm 2 43)) (X : Rx K (exR none (wX1 g a0 r0 a1 res ++ wX5 g a1 r1 s1)) 0 0 none) (t1 : Int32) (s0 : Ob) (h : f_X1_begin_180 N s1 t1 s0 = some res) : Zs K 0 0 (wX1 g a0 r0 a1 s0 ++ wX5 g a1 r1 s1) [] 180 [.int t1, .ref a0] := by
  unfold f_X1_begin_180 at h
  refine z_put (pc := 180) C 0 dX1_begin_180 fp_RX1_58 rfl rfl rfl (zlt_b rfl) (ws' := (wX1 g a0 r0 a1 (si s0 6 t1) ++ wX5 g a1 r1 s1)) rfl ?_
  exact z_vret C X dX1_begin_183 (by rw [← Option.some.inj h]; exact ⟨rfl, rfl⟩) (by decide) (by decide)
def F_X1_begin_126 (N : Nat) (s1 : Ob) (k113 : Int32 → Ob → Option (Ob)) (k126 : Int32 → Int32 → Ob → Option (Ob)) (v2 : Int32) (v3 : Int32) (s0 : Ob) : Option (Ob) := (if (s1.1 3) ≤ v3 then (k113 (v2 + (1 : Int32)) s0) else (ob (f_X1_drawCard N s0 s1 v2) fun x18 => (k126 v2 (v3 + (1 : Int32)) x18)))
def f_X1_begin_126 (N : Nat) (s1 : Ob) (k113 : Int32 → Ob → Option (Ob)) : Nat → Int32 → Int32 → Ob → Option (Ob) := zlp (fun _ _ _ => none) (F_X1_begin_126 N s1 k113)
theorem m_X1_begin_126 {K : Kt} {g : Gp} {a0 : Nat} {a1 : Nat} {r0 : Nat → Nat} {q0_0 : Nat} {r1 : Nat → Nat} {N : Nat} {s1 : Ob} {res : Ob} (hg : Ok g) (C : Cx K g cX1_begin RX1 4 (zrm 2 43)) (X : Rx K (exR none (wX1 g a0 r0 a1 res ++ wX5 g a1 r1 s1)) 0 0 none) {k113 : Int32 → Ob → Option (Ob)} (hk113 : ∀ (v2 : Int32) (s0 : Ob), k113 v2 s0 = some res → Zs K 0 0 (wX1 g a0 r0 a1 s0 ++ wX5 g a1 r1 s1) [(0, .ref a0), (2, .int v2)] 113 []) : ∀ (n : Nat) (v2 : Int32) (v3 : Int32) (s0 : Ob), f_X1_begin_126 N s1 k113 n v2 v3 s0 = some res → Zs K 0 0 (wX1 g a0 r0 a1 s0 ++ wX5 g a1 r1 s1) [(0, .ref a0), (2, .int v2), (3, .int v3)] 126 [] := by
  intro n
  induction n with
  | zero => intro v2 v3 s0 h; exact nomatch (show (none : Option (Ob)) = some res from h)
  | succ n hk126 =>
    intro v2 v3 s0 h
    replace h : F_X1_begin_126 N s1 k113 (f_X1_begin_126 N s1 k113 n) v2 v3 s0 = some res := h
    unfold F_X1_begin_126 at h
    refine z_iload_n (pc := 126) (x := v3) C dX1_begin_126 (i := 3) rfl rfl ?_
    refine z_aload_n (pc := 127) (x := a0) C dX1_begin_127 (i := 0) rfl rfl ?_
    refine z_get (pc := 128) (v := .ref a1) C 0 dX1_begin_128 fl_RX1_38 rfl rfl ?_
    refine z_get (pc := 131) (v := .int (s1.1 3)) C 9 dX1_begin_131 fl_RX1_91 rfl rfl ?_
    refine z_icmp_ge (pc := 134) C dX1_begin_134 (tgt := 148) (by decide) (fun hc => ?_) (fun hc => ?_)
    · replace h := (ite_e h).1 hc
      refine z_iinc (pc := 148) C dX1_begin_148 rfl (inc_e 1 (1 : Int32) ic_1 v2) (by decide) (lv' := [(2, .int (v2 + (1 : Int32))), (0, .ref a0), (3, .int v3)]) rfl ?_
      refine z_goto (pc := 151) C dX1_begin_151 (tgt := 113) (by decide) ?_
      refine z_lv (lv' := [(0, .ref a0), (2, .int (v2 + (1 : Int32)))]) [1, 0] rfl ?_
      exact hk113 (v2 + (1 : Int32)) s0 h
    · replace h := (ite_e h).2 hc
      refine z_aload_n (pc := 137) (x := a0) C dX1_begin_137 (i := 0) rfl rfl ?_
      refine z_iload_n (pc := 138) (x := v2) C dX1_begin_138 (i := 2) rfl rfl ?_
      replace h := ob_e h
      obtain ⟨x18, hx18, h⟩ := h
      refine z_callV (pc := 139) (As := [.int v2]) (rest := []) (wr := ([] : va_W)) C dX1_begin_139 ml_RX1_94 wv_X1_drawCard (m_X1_drawCard (a0 := a0) (r0 := r0) (q0_0 := a1) (r1 := r1) hg hx18) [0, 1, 2, 3, 4, 5, 6, 7, 8, 9, 10, 11, 12] [] rfl rfl ⟨by decide, by decide⟩ (Nat.le_of_ble_eq_true rfl) ⟨by decide, by decide⟩ rfl rfl rfl rfl rfl rfl rfl (by decide) (ex_k C (cs' := 0) (ss' := 0) (wF := (wX1 g a0 r0 a1 x18 ++ wX5 g a1 r1 s1)) [0, 1, 2, 3, 4, 5, 6, 7, 8, 9, 10, 11, 12] rfl rfl ?_)
      refine z_iinc (pc := 142) C dX1_begin_142 rfl (inc_e 1 (1 : Int32) ic_1 v3) (by decide) (lv' := [(3, .int (v3 + (1 : Int32))), (0, .ref a0), (2, .int v2)]) rfl ?_
      refine z_goto (pc := 145) C dX1_begin_145 (tgt := 126) (by decide) ?_
      refine z_lv (lv' := [(0, .ref a0), (2, .int v2), (3, .int (v3 + (1 : Int32)))]) [1, 2, 0] rfl ?_
      exact hk126 v2 (v3 + (1 : Int32)) x18 h
def F_X1_begin_113 (N : Nat) (s1 : Ob)  (k113 : Int32 → Ob → Option (Ob)) (v2 : Int32) (s0 : Ob) : Option (Ob) := (if (s1.1 2) ≤ v2 then (if (s0.1 1) < (s1.1 7) then (f_X1_begin_180 N s1 (-1 : Int32) s0) else (f_X1_begin_180 N s1 (s1.1 2) s0)) else (f_X1_begin_126 N s1 k113 N v2 (0 : Int32) s0))
def f_X1_begin_113 (N : Nat) (s1 : Ob)  : Nat → Int32 → Ob → Option (Ob) := zlp (fun _ _ => none) (F_X1_begin_113 N s1)
theorem m_X1_begin_113 {K : Kt} {g : Gp} {a0 : Nat} {a1 : Nat} {r0 : Nat → Nat} {q0_0 : Nat} {r1 : Nat → Nat} {N : Nat} {s1 : Ob} {res : Ob} (hg : Ok g) (C : Cx K g cX1_begin RX1 4 (zrm 2 43)) (X : Rx K (exR none (wX1 g a0 r0 a1 res ++ wX5 g a1 r1 s1)) 0 0 none) : ∀ (n : Nat) (v2 : Int32) (s0 : Ob), f_X1_begin_113 N s1 n v2 s0 = some res → Zs K 0 0 (wX1 g a0 r0 a1 s0 ++ wX5 g a1 r1 s1) [(0, .ref a0), (2, .int v2)] 113 [] := by
  intro n
  induction n with
  | zero => intro v2 s0 h; exact nomatch (show (none : Option (Ob)) = some res from h)
  | succ n hk113 =>
    intro v2 s0 h
    replace h : F_X1_begin_113 N s1 (f_X1_begin_113 N s1 n) v2 s0 = some res := h
    unfold F_X1_begin_113 at h
    refine z_iload_n (pc := 113) (x := v2) C dX1_begin_113 (i := 2) rfl rfl ?_
    refine z_aload_n (pc := 114) (x := a0) C dX1_begin_114 (i := 0) rfl rfl ?_
    refine z_get (pc := 115) (v := .ref a1) C 0 dX1_begin_115 fl_RX1_38 rfl rfl ?_
    refine z_get (pc := 118) (v := .int (s1.1 2)) C 9 dX1_begin_118 fl_RX1_88 rfl rfl ?_
    refine z_icmp_ge (pc := 121) C dX1_begin_121 (tgt := 154) (by decide) (fun hc => ?_) (fun hc => ?_)
    · replace h := (ite_e h).1 hc
      refine z_aload_n (pc := 154) (x := a0) C dX1_begin_154 (i := 0) rfl rfl ?_
      refine z_aload_n (pc := 155) (x := a0) C dX1_begin_155 (i := 0) rfl rfl ?_
      refine z_get (pc := 156) (v := .int (s0.1 1)) C 0 dX1_begin_156 fl_RX1_42 rfl rfl ?_
      refine z_aload_n (pc := 159) (x := a0) C dX1_begin_159 (i := 0) rfl rfl ?_
      refine z_get (pc := 160) (v := .ref a1) C 0 dX1_begin_160 fl_RX1_38 rfl rfl ?_
      refine z_get (pc := 163) (v := .int (s1.1 7)) C 9 dX1_begin_163 fl_RX1_98 rfl rfl ?_
      refine z_icmp_lt (pc := 166) C dX1_begin_166 (tgt := 179) (by decide) (fun hc => ?_) (fun hc => ?_)
      · replace h := (ite_e h).1 hc
        refine z_iconst (pc := 179) C dX1_begin_179 ic_m1 ?_
        refine z_lv (lv' := []) [] rfl ?_
        exact m_X1_begin_180 (a0 := a0) (a1 := a1) (r0 := r0) (q0_0 := q0_0) (r1 := r1) hg C X (-1 : Int32) s0 h
      · replace h := (ite_e h).2 hc
        refine z_aload_n (pc := 169) (x := a0) C dX1_begin_169 (i := 0) rfl rfl ?_
        refine z_get (pc := 170) (v := .ref a1) C 0 dX1_begin_170 fl_RX1_38 rfl rfl ?_
        refine z_get (pc := 173) (v := .int (s1.1 2)) C 9 dX1_begin_173 fl_RX1_88 rfl rfl ?_
        refine z_goto (pc := 176) C dX1_begin_176 (tgt := 180) (by decide) ?_
        refine z_lv (lv' := []) [] rfl ?_
        exact m_X1_begin_180 (a0 := a0) (a1 := a1) (r0 := r0) (q0_0 := q0_0) (r1 := r1) hg C X (s1.1 2) s0 h
    · replace h := (ite_e h).2 hc
      refine z_iconst (pc := 124) C dX1_begin_124 ic_0 ?_
      refine z_istore_n (pc := 125) C dX1_begin_125 (i := 3) rfl (by decide) (lv' := [(3, .int (0 : Int32)), (0, .ref a0), (2, .int v2)]) rfl ?_
      refine z_lv (lv' := [(0, .ref a0), (2, .int v2), (3, .int (0 : Int32))]) [1, 2, 0] rfl ?_
      exact m_X1_begin_126 (a0 := a0) (a1 := a1) (r0 := r0) (q0_0 := q0_0) (r1 := r1) hg C X hk113 N v2 (0 : Int32) s0 h
def f_X1_begin (N : Nat) (s0 : Ob) (s1 : Ob) : Option (Ob) := (znm (si s0 1 (0 : Int32)) fun y1 => (znm (si y1 2 (s1.1 5)) fun y2 => (znm (si y2 3 (s1.1 6)) fun y3 => (znm (si y3 4 (0 : Int32)) fun y4 => (znm (si y4 5 (0 : Int32)) fun y5 => (znm (sl y5 8 (0 : Int64)) fun y6 => (ob (f_J7_fill_53178 N 7 (y6.2.2.1 7) (0 : Int32)) fun x7 => (znm (sa y6 7 x7) fun y8 => (ob (f_J7_fill_53178 N 4 (y8.2.2.1 10) (0 : Int32)) fun x9 => (znm (sa y8 10 x9) fun y10 => (ob (f_J7_fill_53178 N 4 (y10.2.2.1 11) (0 : Int32)) fun x11 => (znm (sa y10 11 x11) fun y12 => (ob (f_J7_fill_53178 N 20 (y12.2.2.1 12) (0 : Int32)) fun x13 => (ob (f_X5_allKinds N s1) fun x14 => (znm (sa y12 12 x13) fun y15 => (ob (f_J7_fill_53178 N 40 (y15.2.2.1 14) x14) fun x16 => (znm (sa y15 14 x16) fun y17 => (f_X1_begin_113 N s1 N (0 : Int32) (sa y17 13 (va_cpy (s1.2.2.1 10) (y17.2.2.1 13) 0 0 9))))))))))))))))))))
theorem m_X1_begin {g : Gp} {a0 : Nat} {a1 : Nat} {r0 : Nat → Nat} {q0_0 : Nat} {r1 : Nat → Nat} {N : Nat} {s0 : Ob} {s1 : Ob} {res : Ob} (hg : Ok g) (h : f_X1_begin N s0 s1 = some res) : Ct g yX1_begin cX1_begin 4 none (zrm 2 43) [.ref a0, .ref a1] (wX1 g a0 r0 q0_0 s0 ++ wX5 g a1 r1 s1) (exR none (wX1 g a0 r0 a1 res ++ wX5 g a1 r1 s1)) := by
  refine ct_of rfl hg (by show _ ≤ _; exact Nat.le_of_ble_eq_true rfl) (fun K C X => ?_)
  show Zs K 0 0 (wX1 g a0 r0 q0_0 s0 ++ wX5 g a1 r1 s1) [(0, .ref a0), (1, .ref a1)] 0 []
  unfold f_X1_begin at h
  refine z_aload_n (pc := 0) (x := a0) C dX1_begin_0 (i := 0) rfl rfl ?_
  refine z_aload_n (pc := 1) (x := a1) C dX1_begin_1 (i := 1) rfl rfl ?_
  refine z_put (pc := 2) C 0 dX1_begin_2 fp_RX1_38 rfl rfl rfl (zlt_b rfl) (ws' := (wX1 g a0 r0 a1 s0 ++ wX5 g a1 r1 s1)) rfl ?_
  refine z_aload_n (pc := 5) (x := a0) C dX1_begin_5 (i := 0) rfl rfl ?_
  refine z_iconst (pc := 6) C dX1_begin_6 ic_0 ?_
  refine z_put (pc := 7) C 0 dX1_begin_7 fp_RX1_42 rfl rfl rfl (zlt_b rfl) (ws' := (wX1 g a0 r0 a1 (si s0 1 (0 : Int32)) ++ wX5 g a1 r1 s1)) rfl ?_
  refine z_aload_n (pc := 10) (x := a0) C dX1_begin_10 (i := 0) rfl rfl ?_
  refine z_aload_n (pc := 11) (x := a0) C dX1_begin_11 (i := 0) rfl rfl ?_
  refine z_get (pc := 12) (v := .ref a1) C 0 dX1_begin_12 fl_RX1_38 rfl rfl ?_
  refine z_get (pc := 15) (v := .int (s1.1 5)) C 9 dX1_begin_15 fl_RX1_71 rfl rfl ?_
  replace h := znm_e h
  obtain ⟨y1, hy1, h⟩ := h
  refine z_wsE (ws' := (wX1 g a0 r0 a1 y1 ++ wX5 g a1 r1 s1)) (by rw [hy1]) ?_
  refine z_put (pc := 18) C 0 dX1_begin_18 fp_RX1_46 rfl rfl rfl (zlt_b rfl) (ws' := (wX1 g a0 r0 a1 (si y1 2 (s1.1 5)) ++ wX5 g a1 r1 s1)) rfl ?_
  refine z_aload_n (pc := 21) (x := a0) C dX1_begin_21 (i := 0) rfl rfl ?_
  refine z_aload_n (pc := 22) (x := a0) C dX1_begin_22 (i := 0) rfl rfl ?_
  refine z_get (pc := 23) (v := .ref a1) C 0 dX1_begin_23 fl_RX1_38 rfl rfl ?_
  refine z_get (pc := 26) (v := .int (s1.1 6)) C 9 dX1_begin_26 fl_RX1_74 rfl rfl ?_
  replace h := znm_e h
  obtain ⟨y2, hy2, h⟩ := h
  refine z_wsE (ws' := (wX1 g a0 r0 a1 y2 ++ wX5 g a1 r1 s1)) (by rw [hy2]) ?_
  refine z_put (pc := 29) C 0 dX1_begin_29 fp_RX1_49 rfl rfl rfl (zlt_b rfl) (ws' := (wX1 g a0 r0 a1 (si y2 3 (s1.1 6)) ++ wX5 g a1 r1 s1)) rfl ?_
  refine z_aload_n (pc := 32) (x := a0) C dX1_begin_32 (i := 0) rfl rfl ?_
  refine z_iconst (pc := 33) C dX1_begin_33 ic_0 ?_
  replace h := znm_e h
  obtain ⟨y3, hy3, h⟩ := h
  refine z_wsE (ws' := (wX1 g a0 r0 a1 y3 ++ wX5 g a1 r1 s1)) (by rw [hy3]) ?_
  refine z_put (pc := 34) C 0 dX1_begin_34 fp_RX1_52 rfl rfl rfl (zlt_b rfl) (ws' := (wX1 g a0 r0 a1 (si y3 4 (0 : Int32)) ++ wX5 g a1 r1 s1)) rfl ?_
  refine z_aload_n (pc := 37) (x := a0) C dX1_begin_37 (i := 0) rfl rfl ?_
  refine z_iconst (pc := 38) C dX1_begin_38 ic_0 ?_
  replace h := znm_e h
  obtain ⟨y4, hy4, h⟩ := h
  refine z_wsE (ws' := (wX1 g a0 r0 a1 y4 ++ wX5 g a1 r1 s1)) (by rw [hy4]) ?_
  refine z_put (pc := 39) C 0 dX1_begin_39 fp_RX1_55 rfl rfl rfl (zlt_b rfl) (ws' := (wX1 g a0 r0 a1 (si y4 5 (0 : Int32)) ++ wX5 g a1 r1 s1)) rfl ?_
  refine z_aload_n (pc := 42) (x := a0) C dX1_begin_42 (i := 0) rfl rfl ?_
  refine z_lconst (pc := 43) (v := (0 : Int64)) C dX1_begin_43 rfl ?_
  replace h := znm_e h
  obtain ⟨y5, hy5, h⟩ := h
  refine z_wsE (ws' := (wX1 g a0 r0 a1 y5 ++ wX5 g a1 r1 s1)) (by rw [hy5]) ?_
  refine z_put (pc := 44) C 0 dX1_begin_44 fp_RX1_61 rfl rfl rfl (zlt_b rfl) (ws' := (wX1 g a0 r0 a1 (sl y5 8 (0 : Int64)) ++ wX5 g a1 r1 s1)) rfl ?_
  refine z_aload_n (pc := 47) (x := a0) C dX1_begin_47 (i := 0) rfl rfl ?_
  refine z_get (pc := 48) (v := .ref (r0 7)) C 0 dX1_begin_48 fl_RX1_11 rfl rfl ?_
  refine z_iconst (pc := 51) C dX1_begin_51 ic_0 ?_
  replace h := znm_e h
  obtain ⟨y6, hy6, h⟩ := h
  refine z_wsE (ws' := (wX1 g a0 r0 a1 y6 ++ wX5 g a1 r1 s1)) (by rw [hy6]) ?_
  replace h := ob_e h
  obtain ⟨x7, hx7, h⟩ := h
  refine z_callS (pc := 52) (As := [.ref (r0 7), .int (0 : Int32)]) (rest := []) (wr := (((wX1 g a0 r0 a1 y6).eraseIdx 1) ++ wX5 g a1 r1 s1)) C dX1_begin_52 ml_RX1_77 wt_J7_fill_53178 (m_J7_fill_53178 (a0 := (r0 7)) hg hx7) [1] [0, 2, 3, 4, 5, 6, 7, 8, 9, 10, 11, 12] rfl rfl ⟨by decide, by decide⟩ (Nat.le_of_ble_eq_true rfl) ⟨by decide, by decide⟩ rfl rfl rfl rfl (by decide) (ex_k C (cs' := 0) (ss' := 0) (wF := (wX1 g a0 r0 a1 (sa y6 7 x7) ++ wX5 g a1 r1 s1)) [0, 12, 1, 2, 3, 4, 5, 6, 7, 8, 9, 10, 11] rfl rfl ?_)
  refine z_aload_n (pc := 55) (x := a0) C dX1_begin_55 (i := 0) rfl rfl ?_
  refine z_get (pc := 56) (v := .ref (r0 10)) C 0 dX1_begin_56 fl_RX1_18 rfl rfl ?_
  refine z_iconst (pc := 59) C dX1_begin_59 ic_0 ?_
  replace h := znm_e h
  obtain ⟨y8, hy8, h⟩ := h
  refine z_wsE (ws' := (wX1 g a0 r0 a1 y8 ++ wX5 g a1 r1 s1)) (by rw [hy8]) ?_
  replace h := ob_e h
  obtain ⟨x9, hx9, h⟩ := h
  refine z_callS (pc := 60) (As := [.ref (r0 10), .int (0 : Int32)]) (rest := []) (wr := (((wX1 g a0 r0 a1 y8).eraseIdx 3) ++ wX5 g a1 r1 s1)) C dX1_begin_60 ml_RX1_77 wt_J7_fill_53178 (m_J7_fill_53178 (a0 := (r0 10)) hg hx9) [3] [0, 1, 2, 4, 5, 6, 7, 8, 9, 10, 11, 12] rfl rfl ⟨by decide, by decide⟩ (Nat.le_of_ble_eq_true rfl) ⟨by decide, by decide⟩ rfl rfl rfl rfl (by decide) (ex_k C (cs' := 0) (ss' := 0) (wF := (wX1 g a0 r0 a1 (sa y8 10 x9) ++ wX5 g a1 r1 s1)) [0, 1, 2, 12, 3, 4, 5, 6, 7, 8, 9, 10, 11] rfl rfl ?_)
  refine z_aload_n (pc := 63) (x := a0) C dX1_begin_63 (i := 0) rfl rfl ?_
  refine z_get (pc := 64) (v := .ref (r0 11)) C 0 dX1_begin_64 fl_RX1_21 rfl rfl ?_
  refine z_iconst (pc := 67) C dX1_begin_67 ic_0 ?_
  replace h := znm_e h
  obtain ⟨y10, hy10, h⟩ := h
  refine z_wsE (ws' := (wX1 g a0 r0 a1 y10 ++ wX5 g a1 r1 s1)) (by rw [hy10]) ?_
  replace h := ob_e h
  obtain ⟨x11, hx11, h⟩ := h
  refine z_callS (pc := 68) (As := [.ref (r0 11), .int (0 : Int32)]) (rest := []) (wr := (((wX1 g a0 r0 a1 y10).eraseIdx 4) ++ wX5 g a1 r1 s1)) C dX1_begin_68 ml_RX1_77 wt_J7_fill_53178 (m_J7_fill_53178 (a0 := (r0 11)) hg hx11) [4] [0, 1, 2, 3, 5, 6, 7, 8, 9, 10, 11, 12] rfl rfl ⟨by decide, by decide⟩ (Nat.le_of_ble_eq_true rfl) ⟨by decide, by decide⟩ rfl rfl rfl rfl (by decide) (ex_k C (cs' := 0) (ss' := 0) (wF := (wX1 g a0 r0 a1 (sa y10 11 x11) ++ wX5 g a1 r1 s1)) [0, 1, 2, 3, 12, 4, 5, 6, 7, 8, 9, 10, 11] rfl rfl ?_)
  refine z_aload_n (pc := 71) (x := a0) C dX1_begin_71 (i := 0) rfl rfl ?_
  refine z_get (pc := 72) (v := .ref (r0 12)) C 0 dX1_begin_72 fl_RX1_24 rfl rfl ?_
  refine z_iconst (pc := 75) C dX1_begin_75 ic_0 ?_
  replace h := znm_e h
  obtain ⟨y12, hy12, h⟩ := h
  refine z_wsE (ws' := (wX1 g a0 r0 a1 y12 ++ wX5 g a1 r1 s1)) (by rw [hy12]) ?_
  replace h := ob_e h
  obtain ⟨x13, hx13, h⟩ := h
  refine z_callS (pc := 76) (As := [.ref (r0 12), .int (0 : Int32)]) (rest := []) (wr := (((wX1 g a0 r0 a1 y12).eraseIdx 5) ++ wX5 g a1 r1 s1)) C dX1_begin_76 ml_RX1_77 wt_J7_fill_53178 (m_J7_fill_53178 (a0 := (r0 12)) hg hx13) [5] [0, 1, 2, 3, 4, 6, 7, 8, 9, 10, 11, 12] rfl rfl ⟨by decide, by decide⟩ (Nat.le_of_ble_eq_true rfl) ⟨by decide, by decide⟩ rfl rfl rfl rfl (by decide) (ex_k C (cs' := 0) (ss' := 0) (wF := (wX1 g a0 r0 a1 (sa y12 12 x13) ++ wX5 g a1 r1 s1)) [0, 1, 2, 3, 4, 12, 5, 6, 7, 8, 9, 10, 11] rfl rfl ?_)
  refine z_aload_n (pc := 79) (x := a0) C dX1_begin_79 (i := 0) rfl rfl ?_
  refine z_get (pc := 80) (v := .ref (r0 14)) C 0 dX1_begin_80 fl_RX1_32 rfl rfl ?_
  refine z_aload_n (pc := 83) (x := a0) C dX1_begin_83 (i := 0) rfl rfl ?_
  refine z_get (pc := 84) (v := .ref a1) C 0 dX1_begin_84 fl_RX1_38 rfl rfl ?_
  replace h := ob_e h
  obtain ⟨x14, hx14, h⟩ := h
  refine z_callV (pc := 87) (As := []) (rest := [.ref (r0 14)]) (wr := (wX1 g a0 r0 a1 (sa y12 12 x13))) C dX1_begin_87 ml_RX1_83 wv_X5_allKinds (m_X5_allKinds (a0 := a1) (r0 := r1) hg hx14) [9, 10, 11, 12] [0, 1, 2, 3, 4, 5, 6, 7, 8] rfl rfl ⟨by decide, by decide⟩ (Nat.le_of_ble_eq_true rfl) ⟨by decide, by decide⟩ rfl rfl rfl rfl rfl rfl rfl (by decide) (ex_k C (cs' := 0) (ss' := 0) (wF := (wX1 g a0 r0 a1 (sa y12 12 x13) ++ wX5 g a1 r1 s1)) [0, 1, 2, 3, 4, 5, 6, 7, 8, 9, 10, 11, 12] rfl rfl ?_)
  replace h := znm_e h
  obtain ⟨y15, hy15, h⟩ := h
  refine z_wsE (ws' := (wX1 g a0 r0 a1 y15 ++ wX5 g a1 r1 s1)) (by rw [hy15]) ?_
  replace h := ob_e h
  obtain ⟨x16, hx16, h⟩ := h
  refine z_callS (pc := 90) (As := [.ref (r0 14), .int x14]) (rest := []) (wr := (((wX1 g a0 r0 a1 y15).eraseIdx 7) ++ wX5 g a1 r1 s1)) C dX1_begin_90 ml_RX1_77 wt_J7_fill_53178 (m_J7_fill_53178 (a0 := (r0 14)) hg hx16) [7] [0, 1, 2, 3, 4, 5, 6, 8, 9, 10, 11, 12] rfl rfl ⟨by decide, by decide⟩ (Nat.le_of_ble_eq_true rfl) ⟨by decide, by decide⟩ rfl rfl rfl rfl (by decide) (ex_k C (cs' := 0) (ss' := 0) (wF := (wX1 g a0 r0 a1 (sa y15 14 x16) ++ wX5 g a1 r1 s1)) [0, 1, 2, 3, 4, 5, 6, 12, 7, 8, 9, 10, 11] rfl rfl ?_)
  refine z_aload_n (pc := 93) (x := a0) C dX1_begin_93 (i := 0) rfl rfl ?_
  refine z_get (pc := 94) (v := .ref a1) C 0 dX1_begin_94 fl_RX1_38 rfl rfl ?_
  refine z_get (pc := 97) (v := .ref (r1 10)) C 9 dX1_begin_97 fl_RX1_87 rfl rfl ?_
  refine z_iconst (pc := 100) C dX1_begin_100 ic_0 ?_
  refine z_aload_n (pc := 101) (x := a0) C dX1_begin_101 (i := 0) rfl rfl ?_
  refine z_get (pc := 102) (v := .ref (r0 13)) C 0 dX1_begin_102 fl_RX1_29 rfl rfl ?_
  refine z_iconst (pc := 105) C dX1_begin_105 ic_0 ?_
  refine z_bipush (pc := 106) C dX1_begin_106 bp_9 ?_
  replace h := znm_e h
  obtain ⟨y17, hy17, h⟩ := h
  refine z_wsE (ws' := (wX1 g a0 r0 a1 y17 ++ wX5 g a1 r1 s1)) (by rw [hy17]) ?_
  refine z_copyi (pc := 108) C 12 6 dX1_begin_108 wc_RX1_65 rfl rfl (by decide) (by decide) (by decide) (by decide) (by decide) (by decide) (Nat.le_of_ble_eq_true rfl) (ws' := (wX1 g a0 r0 a1 (sa y17 13 (va_cpy (s1.2.2.1 10) (y17.2.2.1 13) 0 0 9)) ++ wX5 g a1 r1 s1)) rfl ?_
  refine z_iconst (pc := 111) C dX1_begin_111 ic_0 ?_
  refine z_istore_n (pc := 112) C dX1_begin_112 (i := 2) rfl (by decide) (lv' := [(2, .int (0 : Int32)), (0, .ref a0), (1, .ref a1)]) rfl ?_
  refine z_lv (lv' := [(0, .ref a0), (2, .int (0 : Int32))]) [1, 0] rfl ?_
  exact m_X1_begin_113 (a0 := a0) (a1 := a1) (r0 := r0) (q0_0 := q0_0) (r1 := r1) hg C X N (0 : Int32) (sa y17 13 (va_cpy (s1.2.2.1 10) (y17.2.2.1 13) 0 0 9)) h
def F_X1_score_4 (N : Nat) (s0 : Ob)  (k4 : Int32 → Int32 → Option (Int32)) (v1 : Int32) (v2 : Int32) : Option (Int32) := (if (4 : Int32) ≤ v2 then (some v1) else (chk (inb v2 4) (k4 (v1 + ((s0.2.2.1 11) (v2).toNatClampNeg)) (v2 + (1 : Int32)))))
def f_X1_score_4 (N : Nat) (s0 : Ob)  : Nat → Int32 → Int32 → Option (Int32) := zlp (fun _ _ => none) (F_X1_score_4 N s0)
theorem m_X1_score_4 {K : Kt} {g : Gp} {a0 : Nat} {r0 : Nat → Nat} {q0_0 : Nat} {N : Nat} {s0 : Ob} {res : Int32} (hg : Ok g) (C : Cx K g cX1_score RX1 3 (zrm 0 0)) (X : Rx K (exR (some (.int res)) (wX1 g a0 r0 q0_0 s0)) 0 0 (some .int)) : ∀ (n : Nat) (v1 : Int32) (v2 : Int32), f_X1_score_4 N s0 n v1 v2 = some res → Zs K 0 0 (wX1 g a0 r0 q0_0 s0) [(0, .ref a0), (1, .int v1), (2, .int v2)] 4 [] := by
  intro n
  induction n with
  | zero => intro v1 v2 h; exact nomatch (show (none : Option (Int32)) = some res from h)
  | succ n hk4 =>
    intro v1 v2 h
    replace h : F_X1_score_4 N s0 (f_X1_score_4 N s0 n) v1 v2 = some res := h
    unfold F_X1_score_4 at h
    refine z_iload_n (pc := 4) (x := v2) C dX1_score_4 (i := 2) rfl rfl ?_
    refine z_iconst (pc := 5) C dX1_score_5 ic_4 ?_
    refine z_icmp_ge (pc := 6) C dX1_score_6 (tgt := 24) (by decide) (fun hc => ?_) (fun hc => ?_)
    · replace h := (ite_e h).1 hc
      refine z_iload_n (pc := 24) (x := v1) C dX1_score_24 (i := 1) rfl rfl ?_
      exact z_iret C X dX1_score_25 (by rw [← Option.some.inj h]; exact ⟨rfl, rfl⟩) (by decide) (by decide)
    · replace h := (ite_e h).2 hc
      refine z_iload_n (pc := 9) (x := v1) C dX1_score_9 (i := 1) rfl rfl ?_
      refine z_aload_n (pc := 10) (x := a0) C dX1_score_10 (i := 0) rfl rfl ?_
      refine z_get (pc := 11) (v := .ref (r0 11)) C 0 dX1_score_11 fl_RX1_21 rfl rfl ?_
      refine z_iload_n (pc := 14) (x := v2) C dX1_score_14 (i := 2) rfl rfl ?_
      replace h := chk_e h
      obtain ⟨hb1, h⟩ := h
      refine z_iald (pc := 15) C 4 dX1_score_15 rfl hb1 ?_
      refine z_iadd (pc := 16) C dX1_score_16 ?_
      refine z_istore_n (pc := 17) C dX1_score_17 (i := 1) rfl (by decide) (lv' := [(1, .int (v1 + ((s0.2.2.1 11) (v2).toNatClampNeg))), (0, .ref a0), (2, .int v2)]) rfl ?_
      refine z_iinc (pc := 18) C dX1_score_18 rfl (inc_e 1 (1 : Int32) ic_1 v2) (by decide) (lv' := [(2, .int (v2 + (1 : Int32))), (1, .int (v1 + ((s0.2.2.1 11) (v2).toNatClampNeg))), (0, .ref a0)]) rfl ?_
      refine z_goto (pc := 21) C dX1_score_21 (tgt := 4) (by decide) ?_
      refine z_lv (lv' := [(0, .ref a0), (1, .int (v1 + ((s0.2.2.1 11) (v2).toNatClampNeg))), (2, .int (v2 + (1 : Int32)))]) [2, 1, 0] rfl ?_
      exact hk4 (v1 + ((s0.2.2.1 11) (v2).toNatClampNeg)) (v2 + (1 : Int32)) h
def f_X1_score (N : Nat) (s0 : Ob) : Option (Int32) := (f_X1_score_4 N s0 N (0 : Int32) (0 : Int32))
theorem m_X1_score {g : Gp} {a0 : Nat} {r0 : Nat → Nat} {q0_0 : Nat} {N : Nat} {s0 : Ob} {res : Int32} (hg : Ok g) (h : f_X1_score N s0 = some res) : Ct g yX1_score cX1_score 3 (some .int) (zrm 0 0) [.ref a0] (wX1 g a0 r0 q0_0 s0) (exR (some (.int res)) (wX1 g a0 r0 q0_0 s0)) := by
  refine ct_of rfl hg (by show _ ≤ _; exact Nat.le_of_ble_eq_true rfl) (fun K C X => ?_)
  show Zs K 0 0 (wX1 g a0 r0 q0_0 s0) [(0, .ref a0)] 0 []
  unfold f_X1_score at h
  refine z_iconst (pc := 0) C dX1_score_0 ic_0 ?_
  refine z_istore_n (pc := 1) C dX1_score_1 (i := 1) rfl (by decide) (lv' := [(1, .int (0 : Int32)), (0, .ref a0)]) rfl ?_
  refine z_iconst (pc := 2) C dX1_score_2 ic_0 ?_
  refine z_istore_n (pc := 3) C dX1_score_3 (i := 2) rfl (by decide) (lv' := [(2, .int (0 : Int32)), (1, .int (0 : Int32)), (0, .ref a0)]) rfl ?_
  refine z_lv (lv' := [(0, .ref a0), (1, .int (0 : Int32)), (2, .int (0 : Int32))]) [2, 1, 0] rfl ?_
  exact m_X1_score_4 (a0 := a0) (r0 := r0) (q0_0 := q0_0) hg C X N (0 : Int32) (0 : Int32) h
def f_X1_ending (N : Nat) (s0 : Ob) (s1 : Ob) : Option (Int32) := (if (s1.1 2) = 0 then (some (3 : Int32)) else (if 0 < (s0.1 3) then (ob (f_X1_score N s0) fun x1 => (if x1 < ((s1.1 0) * (s1.1 1)) then (if (s0.1 6) = 0 then (some (3 : Int32)) else (some (0 : Int32))) else (some (2 : Int32)))) else (some (1 : Int32))))
theorem m_X1_ending {g : Gp} {a0 : Nat} {r0 : Nat → Nat} {q0_0 : Nat} {r1 : Nat → Nat} {N : Nat} {s0 : Ob} {s1 : Ob} {res : Int32} (hg : Ok g) (h : f_X1_ending N s0 s1 = some res) : Ct g yX1_ending cX1_ending 1 (some .int) (zrm 1 22) [.ref a0] (wX1 g a0 r0 q0_0 s0 ++ wX5 g q0_0 r1 s1) (exR (some (.int res)) (wX1 g a0 r0 q0_0 s0 ++ wX5 g q0_0 r1 s1)) := by
  refine ct_of rfl hg (by show _ ≤ _; exact Nat.le_of_ble_eq_true rfl) (fun K C X => ?_)
  show Zs K 0 0 (wX1 g a0 r0 q0_0 s0 ++ wX5 g q0_0 r1 s1) [(0, .ref a0)] 0 []
  unfold f_X1_ending at h
  refine z_aload_n (pc := 0) (x := a0) C dX1_ending_0 (i := 0) rfl rfl ?_
  refine z_get (pc := 1) (v := .ref q0_0) C 0 dX1_ending_1 fl_RX1_38 rfl rfl ?_
  refine z_get (pc := 4) (v := .int (s1.1 2)) C 9 dX1_ending_4 fl_RX1_88 rfl rfl ?_
  refine z_if_ne (pc := 7) C dX1_ending_7 (tgt := 12) (by decide) (fun hc => ?_) (fun hc => ?_)
  · replace h := (ite_e h).2 hc
    refine z_aload_n (pc := 12) (x := a0) C dX1_ending_12 (i := 0) rfl rfl ?_
    refine z_get (pc := 13) (v := .int (s0.1 3)) C 0 dX1_ending_13 fl_RX1_49 rfl rfl ?_
    refine z_if_gt (pc := 16) C dX1_ending_16 (tgt := 21) (by decide) (fun hc => ?_) (fun hc => ?_)
    · replace h := (ite_e h).1 hc
      refine z_aload_n (pc := 21) (x := a0) C dX1_ending_21 (i := 0) rfl rfl ?_
      replace h := ob_e h
      obtain ⟨x1, hx1, h⟩ := h
      refine z_callV (pc := 22) (As := []) (rest := []) (wr := (wX5 g q0_0 r1 s1)) C dX1_ending_22 ml_RX1_101 wv_X1_score (m_X1_score (a0 := a0) (r0 := r0) (q0_0 := q0_0) hg hx1) [0, 1, 2, 3, 4, 5, 6, 7, 8] [9, 10, 11, 12] rfl rfl ⟨by decide, by decide⟩ (Nat.le_of_ble_eq_true rfl) ⟨by decide, by decide⟩ rfl rfl rfl rfl rfl rfl rfl (by decide) (ex_k C (cs' := 0) (ss' := 0) (wF := (wX1 g a0 r0 q0_0 s0 ++ wX5 g q0_0 r1 s1)) [4, 5, 6, 7, 8, 9, 10, 11, 12, 0, 1, 2, 3] rfl rfl ?_)
      refine z_aload_n (pc := 25) (x := a0) C dX1_ending_25 (i := 0) rfl rfl ?_
      refine z_get (pc := 26) (v := .ref q0_0) C 0 dX1_ending_26 fl_RX1_38 rfl rfl ?_
      refine z_get (pc := 29) (v := .int (s1.1 0)) C 9 dX1_ending_29 fl_RX1_104 rfl rfl ?_
      refine z_aload_n (pc := 32) (x := a0) C dX1_ending_32 (i := 0) rfl rfl ?_
      refine z_get (pc := 33) (v := .ref q0_0) C 0 dX1_ending_33 fl_RX1_38 rfl rfl ?_
      refine z_get (pc := 36) (v := .int (s1.1 1)) C 9 dX1_ending_36 fl_RX1_107 rfl rfl ?_
      refine z_imul (pc := 39) C dX1_ending_39 ?_
      refine z_icmp_lt (pc := 40) C dX1_ending_40 (tgt := 45) (by decide) (fun hc => ?_) (fun hc => ?_)
      · replace h := (ite_e h).1 hc
        refine z_aload_n (pc := 45) (x := a0) C dX1_ending_45 (i := 0) rfl rfl ?_
        refine z_get (pc := 46) (v := .int (s0.1 6)) C 0 dX1_ending_46 fl_RX1_58 rfl rfl ?_
        refine z_if_ne (pc := 49) C dX1_ending_49 (tgt := 56) (by decide) (fun hc => ?_) (fun hc => ?_)
        · replace h := (ite_e h).2 hc
          refine z_iconst (pc := 56) C dX1_ending_56 ic_0 ?_
          exact z_iret C X dX1_ending_57 (by rw [← Option.some.inj h]; exact ⟨rfl, rfl⟩) (by decide) (by decide)
        · replace h := (ite_e h).1 hc
          refine z_iconst (pc := 52) C dX1_ending_52 ic_3 ?_
          refine z_goto (pc := 53) C dX1_ending_53 (tgt := 57) (by decide) ?_
          exact z_iret C X dX1_ending_57 (by rw [← Option.some.inj h]; exact ⟨rfl, rfl⟩) (by decide) (by decide)
      · replace h := (ite_e h).2 hc
        refine z_iconst (pc := 43) C dX1_ending_43 ic_2 ?_
        exact z_iret C X dX1_ending_44 (by rw [← Option.some.inj h]; exact ⟨rfl, rfl⟩) (by decide) (by decide)
    · replace h := (ite_e h).2 hc
      refine z_iconst (pc := 19) C dX1_ending_19 ic_1 ?_
      exact z_iret C X dX1_ending_20 (by rw [← Option.some.inj h]; exact ⟨rfl, rfl⟩) (by decide) (by decide)
  · replace h := (ite_e h).1 hc
    refine z_iconst (pc := 10) C dX1_ending_10 ic_3 ?_
    exact z_iret C X dX1_ending_11 (by rw [← Option.some.inj h]; exact ⟨rfl, rfl⟩) (by decide) (by decide)
def f_X1_isEnded (N : Nat) (s0 : Ob) (s1 : Ob) : Option (Int32) := (ob (f_X1_ending N s0 s1) fun x1 => (if x1 = 0 then (some (0 : Int32)) else (some (1 : Int32))))
theorem m_X1_isEnded {g : Gp} {a0 : Nat} {r0 : Nat → Nat} {q0_0 : Nat} {r1 : Nat → Nat} {N : Nat} {s0 : Ob} {s1 : Ob} {res : Int32} (hg : Ok g) (h : f_X1_isEnded N s0 s1 = some res) : Ct g yX1_isEnded cX1_isEnded 1 (some .boolean) (zrm 2 42) [.ref a0] (wX1 g a0 r0 q0_0 s0 ++ wX5 g q0_0 r1 s1) (exR (some (.int res)) (wX1 g a0 r0 q0_0 s0 ++ wX5 g q0_0 r1 s1)) := by
  refine ct_of rfl hg (by show _ ≤ _; exact Nat.le_of_ble_eq_true rfl) (fun K C X => ?_)
  show Zs K 0 0 (wX1 g a0 r0 q0_0 s0 ++ wX5 g q0_0 r1 s1) [(0, .ref a0)] 0 []
  unfold f_X1_isEnded at h
  refine z_aload_n (pc := 0) (x := a0) C dX1_isEnded_0 (i := 0) rfl rfl ?_
  replace h := ob_e h
  obtain ⟨x1, hx1, h⟩ := h
  refine z_callV (pc := 1) (As := []) (rest := []) (wr := ([] : va_W)) C dX1_isEnded_1 ml_RX1_110 wv_X1_ending (m_X1_ending (a0 := a0) (r0 := r0) (q0_0 := q0_0) (r1 := r1) hg hx1) [0, 1, 2, 3, 4, 5, 6, 7, 8, 9, 10, 11, 12] [] rfl rfl ⟨by decide, by decide⟩ (Nat.le_of_ble_eq_true rfl) ⟨by decide, by decide⟩ rfl rfl rfl rfl rfl rfl rfl (by decide) (ex_k C (cs' := 0) (ss' := 0) (wF := (wX1 g a0 r0 q0_0 s0 ++ wX5 g q0_0 r1 s1)) [0, 1, 2, 3, 4, 5, 6, 7, 8, 9, 10, 11, 12] rfl rfl ?_)
  refine z_if_eq (pc := 4) C dX1_isEnded_4 (tgt := 11) (by decide) (fun hc => ?_) (fun hc => ?_)
  · replace h := (ite_e h).1 hc
    refine z_iconst (pc := 11) C dX1_isEnded_11 ic_0 ?_
    exact z_zret C X dX1_isEnded_12 rfl (by rw [← Option.some.inj h]; exact ⟨rfl, rfl⟩) (by decide) (by decide)
  · replace h := (ite_e h).2 hc
    refine z_iconst (pc := 7) C dX1_isEnded_7 ic_1 ?_
    refine z_goto (pc := 8) C dX1_isEnded_8 (tgt := 12) (by decide) ?_
    exact z_zret C X dX1_isEnded_12 rfl (by rw [← Option.some.inj h]; exact ⟨rfl, rfl⟩) (by decide) (by decide)
def F_X1_inHands_18 (N : Nat) (s0 : Ob) (s1 : Ob) (p1 : Int32) (k4 : Int32 → Int32 → Option (Int32)) (k18 : Int32 → Int32 → Int32 → Option (Int32)) (v2 : Int32) (v3 : Int32) (v4 : Int32) : Option (Int32) := (ob (f_X1_sizeOf N s0 v3) fun x1 => (if x1 ≤ v4 then (k4 v2 (v3 + (1 : Int32))) else (ob (f_X1_cardAt N s0 v3 v4) fun x2 => (ob (f_X1_kindOf N s0 s1 x2) fun x3 => (if x3 = p1 then (k18 (v2 + (1 : Int32)) v3 (v4 + (1 : Int32))) else (k18 v2 v3 (v4 + (1 : Int32))))))))
def f_X1_inHands_18 (N : Nat) (s0 : Ob) (s1 : Ob) (p1 : Int32) (k4 : Int32 → Int32 → Option (Int32)) : Nat → Int32 → Int32 → Int32 → Option (Int32) := zlp (fun _ _ _ => none) (F_X1_inHands_18 N s0 s1 p1 k4)
theorem m_X1_inHands_18 {K : Kt} {g : Gp} {a0 : Nat} {r0 : Nat → Nat} {q0_0 : Nat} {r1 : Nat → Nat} {N : Nat} {s0 : Ob} {s1 : Ob} {p1 : Int32} {res : Int32} (hg : Ok g) (C : Cx K g cX1_inHands RX1 5 (zrm 1 23)) (X : Rx K (exR (some (.int res)) (wX1 g a0 r0 q0_0 s0 ++ wX5 g q0_0 r1 s1)) 0 0 (some .int)) {k4 : Int32 → Int32 → Option (Int32)} (hk4 : ∀ (v2 : Int32) (v3 : Int32), k4 v2 v3 = some res → Zs K 0 0 (wX1 g a0 r0 q0_0 s0 ++ wX5 g q0_0 r1 s1) [(0, .ref a0), (1, .int p1), (2, .int v2), (3, .int v3)] 4 []) : ∀ (n : Nat) (v2 : Int32) (v3 : Int32) (v4 : Int32), f_X1_inHands_18 N s0 s1 p1 k4 n v2 v3 v4 = some res → Zs K 0 0 (wX1 g a0 r0 q0_0 s0 ++ wX5 g q0_0 r1 s1) [(0, .ref a0), (1, .int p1), (2, .int v2), (3, .int v3), (4, .int v4)] 18 [] := by
  intro n
  induction n with
  | zero => intro v2 v3 v4 h; exact nomatch (show (none : Option (Int32)) = some res from h)
  | succ n hk18 =>
    intro v2 v3 v4 h
    replace h : F_X1_inHands_18 N s0 s1 p1 k4 (f_X1_inHands_18 N s0 s1 p1 k4 n) v2 v3 v4 = some res := h
    unfold F_X1_inHands_18 at h
    refine z_iload (pc := 18) (x := v4) C dX1_inHands_18 rfl ?_
    refine z_aload_n (pc := 20) (x := a0) C dX1_inHands_20 (i := 0) rfl rfl ?_
    refine z_iload_n (pc := 21) (x := v3) C dX1_inHands_21 (i := 3) rfl rfl ?_
    replace h := ob_e h
    obtain ⟨x1, hx1, h⟩ := h
    refine z_callV (pc := 22) (As := [.int v3]) (rest := [.int v4]) (wr := (wX5 g q0_0 r1 s1)) C dX1_inHands_22 ml_RX1_120 wv_X1_sizeOf (m_X1_sizeOf (a0 := a0) (r0 := r0) (q0_0 := q0_0) hg hx1) [0, 1, 2, 3, 4, 5, 6, 7, 8] [9, 10, 11, 12] rfl rfl ⟨by decide, by decide⟩ (Nat.le_of_ble_eq_true rfl) ⟨by decide, by decide⟩ rfl rfl rfl rfl rfl rfl rfl (by decide) (ex_k C (cs' := 0) (ss' := 0) (wF := (wX1 g a0 r0 q0_0 s0 ++ wX5 g q0_0 r1 s1)) [4, 5, 6, 7, 8, 9, 10, 11, 12, 0, 1, 2, 3] rfl rfl ?_)
    refine z_icmp_ge (pc := 25) C dX1_inHands_25 (tgt := 52) (by decide) (fun hc => ?_) (fun hc => ?_)
    · replace h := (ite_e h).1 hc
      refine z_iinc (pc := 52) C dX1_inHands_52 rfl (inc_e 1 (1 : Int32) ic_1 v3) (by decide) (lv' := [(3, .int (v3 + (1 : Int32))), (0, .ref a0), (1, .int p1), (2, .int v2), (4, .int v4)]) rfl ?_
      refine z_goto (pc := 55) C dX1_inHands_55 (tgt := 4) (by decide) ?_
      refine z_lv (lv' := [(0, .ref a0), (1, .int p1), (2, .int v2), (3, .int (v3 + (1 : Int32)))]) [1, 2, 3, 0] rfl ?_
      exact hk4 v2 (v3 + (1 : Int32)) h
    · replace h := (ite_e h).2 hc
      refine z_aload_n (pc := 28) (x := a0) C dX1_inHands_28 (i := 0) rfl rfl ?_
      refine z_aload_n (pc := 29) (x := a0) C dX1_inHands_29 (i := 0) rfl rfl ?_
      refine z_iload_n (pc := 30) (x := v3) C dX1_inHands_30 (i := 3) rfl rfl ?_
      refine z_iload (pc := 31) (x := v4) C dX1_inHands_31 rfl ?_
      replace h := ob_e h
      obtain ⟨x2, hx2, h⟩ := h
      refine z_callV (pc := 33) (As := [.int v3, .int v4]) (rest := [.ref a0]) (wr := (wX5 g q0_0 r1 s1)) C dX1_inHands_33 ml_RX1_124 wv_X1_cardAt (m_X1_cardAt (a0 := a0) (r0 := r0) (q0_0 := q0_0) hg hx2) [0, 1, 2, 3, 4, 5, 6, 7, 8] [9, 10, 11, 12] rfl rfl ⟨by decide, by decide⟩ (Nat.le_of_ble_eq_true rfl) ⟨by decide, by decide⟩ rfl rfl rfl rfl rfl rfl rfl (by decide) (ex_k C (cs' := 0) (ss' := 0) (wF := (wX1 g a0 r0 q0_0 s0 ++ wX5 g q0_0 r1 s1)) [4, 5, 6, 7, 8, 9, 10, 11, 12, 0, 1, 2, 3] rfl rfl ?_)
      replace h := ob_e h
      obtain ⟨x3, hx3, h⟩ := h
      refine z_callV (pc := 36) (As := [.int x2]) (rest := []) (wr := ([] : va_W)) C dX1_inHands_36 ml_RX1_127 wv_X1_kindOf (m_X1_kindOf (a0 := a0) (r0 := r0) (q0_0 := q0_0) (r1 := r1) hg hx3) [0, 1, 2, 3, 4, 5, 6, 7, 8, 9, 10, 11, 12] [] rfl rfl ⟨by decide, by decide⟩ (Nat.le_of_ble_eq_true rfl) ⟨by decide, by decide⟩ rfl rfl rfl rfl rfl rfl rfl (by decide) (ex_k C (cs' := 0) (ss' := 0) (wF := (wX1 g a0 r0 q0_0 s0 ++ wX5 g q0_0 r1 s1)) [0, 1, 2, 3, 4, 5, 6, 7, 8, 9, 10, 11, 12] rfl rfl ?_)
      refine z_iload_n (pc := 39) (x := p1) C dX1_inHands_39 (i := 1) rfl rfl ?_
      refine z_icmp_ne (pc := 40) C dX1_inHands_40 (tgt := 46) (by decide) (fun hc => ?_) (fun hc => ?_)
      · replace h := (ite_e h).2 hc
        refine z_iinc (pc := 46) C dX1_inHands_46 rfl (inc_e 1 (1 : Int32) ic_1 v4) (by decide) (lv' := [(4, .int (v4 + (1 : Int32))), (0, .ref a0), (1, .int p1), (2, .int v2), (3, .int v3)]) rfl ?_
        refine z_goto (pc := 49) C dX1_inHands_49 (tgt := 18) (by decide) ?_
        refine z_lv (lv' := [(0, .ref a0), (1, .int p1), (2, .int v2), (3, .int v3), (4, .int (v4 + (1 : Int32)))]) [1, 2, 3, 4, 0] rfl ?_
        exact hk18 v2 v3 (v4 + (1 : Int32)) h
      · replace h := (ite_e h).1 hc
        refine z_iinc (pc := 43) C dX1_inHands_43 rfl (inc_e 1 (1 : Int32) ic_1 v2) (by decide) (lv' := [(2, .int (v2 + (1 : Int32))), (0, .ref a0), (1, .int p1), (3, .int v3), (4, .int v4)]) rfl ?_
        refine z_iinc (pc := 46) C dX1_inHands_46 rfl (inc_e 1 (1 : Int32) ic_1 v4) (by decide) (lv' := [(4, .int (v4 + (1 : Int32))), (2, .int (v2 + (1 : Int32))), (0, .ref a0), (1, .int p1), (3, .int v3)]) rfl ?_
        refine z_goto (pc := 49) C dX1_inHands_49 (tgt := 18) (by decide) ?_
        refine z_lv (lv' := [(0, .ref a0), (1, .int p1), (2, .int (v2 + (1 : Int32))), (3, .int v3), (4, .int (v4 + (1 : Int32)))]) [2, 3, 1, 4, 0] rfl ?_
        exact hk18 (v2 + (1 : Int32)) v3 (v4 + (1 : Int32)) h
def F_X1_inHands_4 (N : Nat) (s0 : Ob) (s1 : Ob) (p1 : Int32)  (k4 : Int32 → Int32 → Option (Int32)) (v2 : Int32) (v3 : Int32) : Option (Int32) := (if (s1.1 2) ≤ v3 then (some v2) else (f_X1_inHands_18 N s0 s1 p1 k4 N v2 v3 (0 : Int32)))
def f_X1_inHands_4 (N : Nat) (s0 : Ob) (s1 : Ob) (p1 : Int32)  : Nat → Int32 → Int32 → Option (Int32) := zlp (fun _ _ => none) (F_X1_inHands_4 N s0 s1 p1)
theorem m_X1_inHands_4 {K : Kt} {g : Gp} {a0 : Nat} {r0 : Nat → Nat} {q0_0 : Nat} {r1 : Nat → Nat} {N : Nat} {s0 : Ob} {s1 : Ob} {p1 : Int32} {res : Int32} (hg : Ok g) (C : Cx K g cX1_inHands RX1 5 (zrm 1 23)) (X : Rx K (exR (some (.int res)) (wX1 g a0 r0 q0_0 s0 ++ wX5 g q0_0 r1 s1)) 0 0 (some .int)) : ∀ (n : Nat) (v2 : Int32) (v3 : Int32), f_X1_inHands_4 N s0 s1 p1 n v2 v3 = some res → Zs K 0 0 (wX1 g a0 r0 q0_0 s0 ++ wX5 g q0_0 r1 s1) [(0, .ref a0), (1, .int p1), (2, .int v2), (3, .int v3)] 4 [] := by
  intro n
  induction n with
  | zero => intro v2 v3 h; exact nomatch (show (none : Option (Int32)) = some res from h)
  | succ n hk4 =>
    intro v2 v3 h
    replace h : F_X1_inHands_4 N s0 s1 p1 (f_X1_inHands_4 N s0 s1 p1 n) v2 v3 = some res := h
    unfold F_X1_inHands_4 at h
    refine z_iload_n (pc := 4) (x := v3) C dX1_inHands_4 (i := 3) rfl rfl ?_
    refine z_aload_n (pc := 5) (x := a0) C dX1_inHands_5 (i := 0) rfl rfl ?_
    refine z_get (pc := 6) (v := .ref q0_0) C 0 dX1_inHands_6 fl_RX1_38 rfl rfl ?_
    refine z_get (pc := 9) (v := .int (s1.1 2)) C 9 dX1_inHands_9 fl_RX1_88 rfl rfl ?_
    refine z_icmp_ge (pc := 12) C dX1_inHands_12 (tgt := 58) (by decide) (fun hc => ?_) (fun hc => ?_)
    · replace h := (ite_e h).1 hc
      refine z_iload_n (pc := 58) (x := v2) C dX1_inHands_58 (i := 2) rfl rfl ?_
      exact z_iret C X dX1_inHands_59 (by rw [← Option.some.inj h]; exact ⟨rfl, rfl⟩) (by decide) (by decide)
    · replace h := (ite_e h).2 hc
      refine z_iconst (pc := 15) C dX1_inHands_15 ic_0 ?_
      refine z_istore (pc := 16) C dX1_inHands_16 (by decide) (lv' := [(4, .int (0 : Int32)), (0, .ref a0), (1, .int p1), (2, .int v2), (3, .int v3)]) rfl ?_
      refine z_lv (lv' := [(0, .ref a0), (1, .int p1), (2, .int v2), (3, .int v3), (4, .int (0 : Int32))]) [1, 2, 3, 4, 0] rfl ?_
      exact m_X1_inHands_18 (a0 := a0) (r0 := r0) (q0_0 := q0_0) (r1 := r1) hg C X hk4 N v2 v3 (0 : Int32) h
def f_X1_inHands (N : Nat) (s0 : Ob) (s1 : Ob) (p1 : Int32) : Option (Int32) := (f_X1_inHands_4 N s0 s1 p1 N (0 : Int32) (0 : Int32))
theorem m_X1_inHands {g : Gp} {a0 : Nat} {r0 : Nat → Nat} {q0_0 : Nat} {r1 : Nat → Nat} {N : Nat} {s0 : Ob} {s1 : Ob} {p1 : Int32} {res : Int32} (hg : Ok g) (h : f_X1_inHands N s0 s1 p1 = some res) : Ct g yX1_inHands cX1_inHands 5 (some .int) (zrm 1 23) [.ref a0, .int p1] (wX1 g a0 r0 q0_0 s0 ++ wX5 g q0_0 r1 s1) (exR (some (.int res)) (wX1 g a0 r0 q0_0 s0 ++ wX5 g q0_0 r1 s1)) := by
  refine ct_of rfl hg (by show _ ≤ _; exact Nat.le_of_ble_eq_true rfl) (fun K C X => ?_)
  show Zs K 0 0 (wX1 g a0 r0 q0_0 s0 ++ wX5 g q0_0 r1 s1) [(0, .ref a0), (1, .int p1)] 0 []
  unfold f_X1_inHands at h
  refine z_iconst (pc := 0) C dX1_inHands_0 ic_0 ?_
  refine z_istore_n (pc := 1) C dX1_inHands_1 (i := 2) rfl (by decide) (lv' := [(2, .int (0 : Int32)), (0, .ref a0), (1, .int p1)]) rfl ?_
  refine z_iconst (pc := 2) C dX1_inHands_2 ic_0 ?_
  refine z_istore_n (pc := 3) C dX1_inHands_3 (i := 3) rfl (by decide) (lv' := [(3, .int (0 : Int32)), (2, .int (0 : Int32)), (0, .ref a0), (1, .int p1)]) rfl ?_
  refine z_lv (lv' := [(0, .ref a0), (1, .int p1), (2, .int (0 : Int32)), (3, .int (0 : Int32))]) [2, 3, 1, 0] rfl ?_
  exact m_X1_inHands_4 (a0 := a0) (r0 := r0) (q0_0 := q0_0) (r1 := r1) hg C X N (0 : Int32) (0 : Int32) h
def F_X1_toBeDrawn_7 (N : Nat) (s0 : Ob) (s1 : Ob) (p1 : Int32)  (k7 : Int32 → Int32 → Option (Int32)) (v2 : Int32) (v3 : Int32) : Option (Int32) := (if (s1.1 7) ≤ v3 then (some v2) else (ob (f_X1_kindOf N s0 s1 v3) fun x1 => (if x1 = p1 then (k7 (v2 + (1 : Int32)) (v3 + (1 : Int32))) else (k7 v2 (v3 + (1 : Int32))))))
def f_X1_toBeDrawn_7 (N : Nat) (s0 : Ob) (s1 : Ob) (p1 : Int32)  : Nat → Int32 → Int32 → Option (Int32) := zlp (fun _ _ => none) (F_X1_toBeDrawn_7 N s0 s1 p1)
theorem m_X1_toBeDrawn_7 {K : Kt} {g : Gp} {a0 : Nat} {r0 : Nat → Nat} {q0_0 : Nat} {r1 : Nat → Nat} {N : Nat} {s0 : Ob} {s1 : Ob} {p1 : Int32} {res : Int32} (hg : Ok g) (C : Cx K g cX1_toBeDrawn RX1 4 (zrm 1 21)) (X : Rx K (exR (some (.int res)) (wX1 g a0 r0 q0_0 s0 ++ wX5 g q0_0 r1 s1)) 0 0 (some .int)) : ∀ (n : Nat) (v2 : Int32) (v3 : Int32), f_X1_toBeDrawn_7 N s0 s1 p1 n v2 v3 = some res → Zs K 0 0 (wX1 g a0 r0 q0_0 s0 ++ wX5 g q0_0 r1 s1) [(0, .ref a0), (1, .int p1), (2, .int v2), (3, .int v3)] 7 [] := by
  intro n
  induction n with
  | zero => intro v2 v3 h; exact nomatch (show (none : Option (Int32)) = some res from h)
  | succ n hk7 =>
    intro v2 v3 h
    replace h : F_X1_toBeDrawn_7 N s0 s1 p1 (f_X1_toBeDrawn_7 N s0 s1 p1 n) v2 v3 = some res := h
    unfold F_X1_toBeDrawn_7 at h
    refine z_iload_n (pc := 7) (x := v3) C dX1_toBeDrawn_7 (i := 3) rfl rfl ?_
    refine z_aload_n (pc := 8) (x := a0) C dX1_toBeDrawn_8 (i := 0) rfl rfl ?_
    refine z_get (pc := 9) (v := .ref q0_0) C 0 dX1_toBeDrawn_9 fl_RX1_38 rfl rfl ?_
    refine z_get (pc := 12) (v := .int (s1.1 7)) C 9 dX1_toBeDrawn_12 fl_RX1_98 rfl rfl ?_
    refine z_icmp_ge (pc := 15) C dX1_toBeDrawn_15 (tgt := 36) (by decide) (fun hc => ?_) (fun hc => ?_)
    · replace h := (ite_e h).1 hc
      refine z_iload_n (pc := 36) (x := v2) C dX1_toBeDrawn_36 (i := 2) rfl rfl ?_
      exact z_iret C X dX1_toBeDrawn_37 (by rw [← Option.some.inj h]; exact ⟨rfl, rfl⟩) (by decide) (by decide)
    · replace h := (ite_e h).2 hc
      refine z_aload_n (pc := 18) (x := a0) C dX1_toBeDrawn_18 (i := 0) rfl rfl ?_
      refine z_iload_n (pc := 19) (x := v3) C dX1_toBeDrawn_19 (i := 3) rfl rfl ?_
      replace h := ob_e h
      obtain ⟨x1, hx1, h⟩ := h
      refine z_callV (pc := 20) (As := [.int v3]) (rest := []) (wr := ([] : va_W)) C dX1_toBeDrawn_20 ml_RX1_127 wv_X1_kindOf (m_X1_kindOf (a0 := a0) (r0 := r0) (q0_0 := q0_0) (r1 := r1) hg hx1) [0, 1, 2, 3, 4, 5, 6, 7, 8, 9, 10, 11, 12] [] rfl rfl ⟨by decide, by decide⟩ (Nat.le_of_ble_eq_true rfl) ⟨by decide, by decide⟩ rfl rfl rfl rfl rfl rfl rfl (by decide) (ex_k C (cs' := 0) (ss' := 0) (wF := (wX1 g a0 r0 q0_0 s0 ++ wX5 g q0_0 r1 s1)) [0, 1, 2, 3, 4, 5, 6, 7, 8, 9, 10, 11, 12] rfl rfl ?_)
      refine z_iload_n (pc := 23) (x := p1) C dX1_toBeDrawn_23 (i := 1) rfl rfl ?_
      refine z_icmp_ne (pc := 24) C dX1_toBeDrawn_24 (tgt := 30) (by decide) (fun hc => ?_) (fun hc => ?_)
      · replace h := (ite_e h).2 hc
        refine z_iinc (pc := 30) C dX1_toBeDrawn_30 rfl (inc_e 1 (1 : Int32) ic_1 v3) (by decide) (lv' := [(3, .int (v3 + (1 : Int32))), (0, .ref a0), (1, .int p1), (2, .int v2)]) rfl ?_
        refine z_goto (pc := 33) C dX1_toBeDrawn_33 (tgt := 7) (by decide) ?_
        refine z_lv (lv' := [(0, .ref a0), (1, .int p1), (2, .int v2), (3, .int (v3 + (1 : Int32)))]) [1, 2, 3, 0] rfl ?_
        exact hk7 v2 (v3 + (1 : Int32)) h
      · replace h := (ite_e h).1 hc
        refine z_iinc (pc := 27) C dX1_toBeDrawn_27 rfl (inc_e 1 (1 : Int32) ic_1 v2) (by decide) (lv' := [(2, .int (v2 + (1 : Int32))), (0, .ref a0), (1, .int p1), (3, .int v3)]) rfl ?_
        refine z_iinc (pc := 30) C dX1_toBeDrawn_30 rfl (inc_e 1 (1 : Int32) ic_1 v3) (by decide) (lv' := [(3, .int (v3 + (1 : Int32))), (2, .int (v2 + (1 : Int32))), (0, .ref a0), (1, .int p1)]) rfl ?_
        refine z_goto (pc := 33) C dX1_toBeDrawn_33 (tgt := 7) (by decide) ?_
        refine z_lv (lv' := [(0, .ref a0), (1, .int p1), (2, .int (v2 + (1 : Int32))), (3, .int (v3 + (1 : Int32)))]) [2, 3, 1, 0] rfl ?_
        exact hk7 (v2 + (1 : Int32)) (v3 + (1 : Int32)) h
def f_X1_toBeDrawn (N : Nat) (s0 : Ob) (s1 : Ob) (p1 : Int32) : Option (Int32) := (f_X1_toBeDrawn_7 N s0 s1 p1 N (0 : Int32) (s0.1 1))
theorem m_X1_toBeDrawn {g : Gp} {a0 : Nat} {r0 : Nat → Nat} {q0_0 : Nat} {r1 : Nat → Nat} {N : Nat} {s0 : Ob} {s1 : Ob} {p1 : Int32} {res : Int32} (hg : Ok g) (h : f_X1_toBeDrawn N s0 s1 p1 = some res) : Ct g yX1_toBeDrawn cX1_toBeDrawn 4 (some .int) (zrm 1 21) [.ref a0, .int p1] (wX1 g a0 r0 q0_0 s0 ++ wX5 g q0_0 r1 s1) (exR (some (.int res)) (wX1 g a0 r0 q0_0 s0 ++ wX5 g q0_0 r1 s1)) := by
  refine ct_of rfl hg (by show _ ≤ _; exact Nat.le_of_ble_eq_true rfl) (fun K C X => ?_)
  show Zs K 0 0 (wX1 g a0 r0 q0_0 s0 ++ wX5 g q0_0 r1 s1) [(0, .ref a0), (1, .int p1)] 0 []
  unfold f_X1_toBeDrawn at h
  refine z_iconst (pc := 0) C dX1_toBeDrawn_0 ic_0 ?_
  refine z_istore_n (pc := 1) C dX1_toBeDrawn_1 (i := 2) rfl (by decide) (lv' := [(2, .int (0 : Int32)), (0, .ref a0), (1, .int p1)]) rfl ?_
  refine z_aload_n (pc := 2) (x := a0) C dX1_toBeDrawn_2 (i := 0) rfl rfl ?_
  refine z_get (pc := 3) (v := .int (s0.1 1)) C 0 dX1_toBeDrawn_3 fl_RX1_42 rfl rfl ?_
  refine z_istore_n (pc := 6) C dX1_toBeDrawn_6 (i := 3) rfl (by decide) (lv' := [(3, .int (s0.1 1)), (2, .int (0 : Int32)), (0, .ref a0), (1, .int p1)]) rfl ?_
  refine z_lv (lv' := [(0, .ref a0), (1, .int p1), (2, .int (0 : Int32)), (3, .int (s0.1 1))]) [2, 3, 1, 0] rfl ?_
  exact m_X1_toBeDrawn_7 (a0 := a0) (r0 := r0) (q0_0 := q0_0) (r1 := r1) hg C X N (0 : Int32) (s0.1 1) h
def F_X1_reachableScore_4 (N : Nat) (s0 : Ob) (s1 : Ob)  (k4 : Int32 → Int32 → Option (Int32)) (v1 : Int32) (v2 : Int32) : Option (Int32) := (if (s1.1 0) ≤ v2 then (some v1) else (ob (f_X1_reachableTop N s0 s1 v2) fun x1 => (k4 (v1 + x1) (v2 + (1 : Int32)))))
def f_X1_reachableScore_4 (N : Nat) (s0 : Ob) (s1 : Ob)  : Nat → Int32 → Int32 → Option (Int32) := zlp (fun _ _ => none) (F_X1_reachableScore_4 N s0 s1)
theorem m_X1_reachableScore_4 {K : Kt} {g : Gp} {a0 : Nat} {r0 : Nat → Nat} {q0_0 : Nat} {r1 : Nat → Nat} {N : Nat} {s0 : Ob} {s1 : Ob} {res : Int32} (hg : Ok g) (C : Cx K g cX1_reachableScore RX1 3 (zrm 1 24)) (X : Rx K (exR (some (.int res)) (wX1 g a0 r0 q0_0 s0 ++ wX5 g q0_0 r1 s1)) 0 0 (some .int)) : ∀ (n : Nat) (v1 : Int32) (v2 : Int32), f_X1_reachableScore_4 N s0 s1 n v1 v2 = some res → Zs K 0 0 (wX1 g a0 r0 q0_0 s0 ++ wX5 g q0_0 r1 s1) [(0, .ref a0), (1, .int v1), (2, .int v2)] 4 [] := by
  intro n
  induction n with
  | zero => intro v1 v2 h; exact nomatch (show (none : Option (Int32)) = some res from h)
  | succ n hk4 =>
    intro v1 v2 h
    replace h : F_X1_reachableScore_4 N s0 s1 (f_X1_reachableScore_4 N s0 s1 n) v1 v2 = some res := h
    unfold F_X1_reachableScore_4 at h
    refine z_iload_n (pc := 4) (x := v2) C dX1_reachableScore_4 (i := 2) rfl rfl ?_
    refine z_aload_n (pc := 5) (x := a0) C dX1_reachableScore_5 (i := 0) rfl rfl ?_
    refine z_get (pc := 6) (v := .ref q0_0) C 0 dX1_reachableScore_6 fl_RX1_38 rfl rfl ?_
    refine z_get (pc := 9) (v := .int (s1.1 0)) C 9 dX1_reachableScore_9 fl_RX1_104 rfl rfl ?_
    refine z_icmp_ge (pc := 12) C dX1_reachableScore_12 (tgt := 29) (by decide) (fun hc => ?_) (fun hc => ?_)
    · replace h := (ite_e h).1 hc
      refine z_iload_n (pc := 29) (x := v1) C dX1_reachableScore_29 (i := 1) rfl rfl ?_
      exact z_iret C X dX1_reachableScore_30 (by rw [← Option.some.inj h]; exact ⟨rfl, rfl⟩) (by decide) (by decide)
    · replace h := (ite_e h).2 hc
      refine z_iload_n (pc := 15) (x := v1) C dX1_reachableScore_15 (i := 1) rfl rfl ?_
      refine z_aload_n (pc := 16) (x := a0) C dX1_reachableScore_16 (i := 0) rfl rfl ?_
      refine z_iload_n (pc := 17) (x := v2) C dX1_reachableScore_17 (i := 2) rfl rfl ?_
      replace h := ob_e h
      obtain ⟨x1, hx1, h⟩ := h
      refine z_callV (pc := 18) (As := [.int v2]) (rest := [.int v1]) (wr := ([] : va_W)) C dX1_reachableScore_18 ml_RX1_136 wv_X1_reachableTop (m_X1_reachableTop (a0 := a0) (r0 := r0) (q0_0 := q0_0) (r1 := r1) hg hx1) [0, 1, 2, 3, 4, 5, 6, 7, 8, 9, 10, 11, 12] [] rfl rfl ⟨by decide, by decide⟩ (Nat.le_of_ble_eq_true rfl) ⟨by decide, by decide⟩ rfl rfl rfl rfl rfl rfl rfl (by decide) (ex_k C (cs' := 0) (ss' := 0) (wF := (wX1 g a0 r0 q0_0 s0 ++ wX5 g q0_0 r1 s1)) [0, 1, 2, 3, 4, 5, 6, 7, 8, 9, 10, 11, 12] rfl rfl ?_)
      refine z_iadd (pc := 21) C dX1_reachableScore_21 ?_
      refine z_istore_n (pc := 22) C dX1_reachableScore_22 (i := 1) rfl (by decide) (lv' := [(1, .int (v1 + x1)), (0, .ref a0), (2, .int v2)]) rfl ?_
      refine z_iinc (pc := 23) C dX1_reachableScore_23 rfl (inc_e 1 (1 : Int32) ic_1 v2) (by decide) (lv' := [(2, .int (v2 + (1 : Int32))), (1, .int (v1 + x1)), (0, .ref a0)]) rfl ?_
      refine z_goto (pc := 26) C dX1_reachableScore_26 (tgt := 4) (by decide) ?_
      refine z_lv (lv' := [(0, .ref a0), (1, .int (v1 + x1)), (2, .int (v2 + (1 : Int32)))]) [2, 1, 0] rfl ?_
      exact hk4 (v1 + x1) (v2 + (1 : Int32)) h
def f_X1_reachableScore (N : Nat) (s0 : Ob) (s1 : Ob) : Option (Int32) := (f_X1_reachableScore_4 N s0 s1 N (0 : Int32) (0 : Int32))
theorem m_X1_reachableScore {g : Gp} {a0 : Nat} {r0 : Nat → Nat} {q0_0 : Nat} {r1 : Nat → Nat} {N : Nat} {s0 : Ob} {s1 : Ob} {res : Int32} (hg : Ok g) (h : f_X1_reachableScore N s0 s1 = some res) : Ct g yX1_reachableScore cX1_reachableScore 3 (some .int) (zrm 1 24) [.ref a0] (wX1 g a0 r0 q0_0 s0 ++ wX5 g q0_0 r1 s1) (exR (some (.int res)) (wX1 g a0 r0 q0_0 s0 ++ wX5 g q0_0 r1 s1)) := by
  refine ct_of rfl hg (by show _ ≤ _; exact Nat.le_of_ble_eq_true rfl) (fun K C X => ?_)
  show Zs K 0 0 (wX1 g a0 r0 q0_0 s0 ++ wX5 g q0_0 r1 s1) [(0, .ref a0)] 0 []
  unfold f_X1_reachableScore at h
  refine z_iconst (pc := 0) C dX1_reachableScore_0 ic_0 ?_
  refine z_istore_n (pc := 1) C dX1_reachableScore_1 (i := 1) rfl (by decide) (lv' := [(1, .int (0 : Int32)), (0, .ref a0)]) rfl ?_
  refine z_iconst (pc := 2) C dX1_reachableScore_2 ic_0 ?_
  refine z_istore_n (pc := 3) C dX1_reachableScore_3 (i := 2) rfl (by decide) (lv' := [(2, .int (0 : Int32)), (1, .int (0 : Int32)), (0, .ref a0)]) rfl ?_
  refine z_lv (lv' := [(0, .ref a0), (1, .int (0 : Int32)), (2, .int (0 : Int32))]) [2, 1, 0] rfl ?_
  exact m_X1_reachableScore_4 (a0 := a0) (r0 := r0) (q0_0 := q0_0) (r1 := r1) hg C X N (0 : Int32) (0 : Int32) h
def f_X1_loggedPart (N : Nat) (s0 : Ob) (p1 : Int32) (p2 : Int32) : Option (Int32) := (if p1 < 0 then (some (-1000 : Int32)) else (if (30 : Int32) ≤ p1 then (some (-1000 : Int32)) else (if p1 < (s0.1 5) then (znm ((((s0.1 5) - (1 : Int32)) - p1) - (((s0.1 5) - (1 : Int32)) - p1) / (30 : Int32) * (30 : Int32)) fun x1 => (chk (inb ((x1 * (4 : Int32)) + p2) 120) (some ((s0.2.2.1 15) (((x1 * (4 : Int32)) + p2)).toNatClampNeg)))) else (some (-1000 : Int32)))))
theorem m_X1_loggedPart {g : Gp} {a0 : Nat} {r0 : Nat → Nat} {q0_0 : Nat} {N : Nat} {s0 : Ob} {p1 : Int32} {p2 : Int32} {res : Int32} (hg : Ok g) (h : f_X1_loggedPart N s0 p1 p2 = some res) : Ct g yX1_loggedPart cX1_loggedPart 3 (some .int) (zrm 0 0) [.ref a0, .int p1, .int p2] (wX1 g a0 r0 q0_0 s0) (exR (some (.int res)) (wX1 g a0 r0 q0_0 s0)) := by
  refine ct_of rfl hg (by show _ ≤ _; exact Nat.le_of_ble_eq_true rfl) (fun K C X => ?_)
  show Zs K 0 0 (wX1 g a0 r0 q0_0 s0) [(0, .ref a0), (1, .int p1), (2, .int p2)] 0 []
  unfold f_X1_loggedPart at h
  refine z_iload_n (pc := 0) (x := p1) C dX1_loggedPart_0 (i := 1) rfl rfl ?_
  refine z_if_lt (pc := 1) C dX1_loggedPart_1 (tgt := 18) (by decide) (fun hc => ?_) (fun hc => ?_)
  · replace h := (ite_e h).1 hc
    refine z_sipush (pc := 18) C dX1_loggedPart_18 sp_m1000 ?_
    exact z_iret C X dX1_loggedPart_21 (by rw [← Option.some.inj h]; exact ⟨rfl, rfl⟩) (by decide) (by decide)
  · replace h := (ite_e h).2 hc
    refine z_iload_n (pc := 4) (x := p1) C dX1_loggedPart_4 (i := 1) rfl rfl ?_
    refine z_bipush (pc := 5) C dX1_loggedPart_5 bp_30 ?_
    refine z_icmp_ge (pc := 7) C dX1_loggedPart_7 (tgt := 18) (by decide) (fun hc => ?_) (fun hc => ?_)
    · replace h := (ite_e h).1 hc
      refine z_sipush (pc := 18) C dX1_loggedPart_18 sp_m1000 ?_
      exact z_iret C X dX1_loggedPart_21 (by rw [← Option.some.inj h]; exact ⟨rfl, rfl⟩) (by decide) (by decide)
    · replace h := (ite_e h).2 hc
      refine z_iload_n (pc := 10) (x := p1) C dX1_loggedPart_10 (i := 1) rfl rfl ?_
      refine z_aload_n (pc := 11) (x := a0) C dX1_loggedPart_11 (i := 0) rfl rfl ?_
      refine z_get (pc := 12) (v := .int (s0.1 5)) C 0 dX1_loggedPart_12 fl_RX1_55 rfl rfl ?_
      refine z_icmp_lt (pc := 15) C dX1_loggedPart_15 (tgt := 22) (by decide) (fun hc => ?_) (fun hc => ?_)
      · replace h := (ite_e h).1 hc
        refine z_aload_n (pc := 22) (x := a0) C dX1_loggedPart_22 (i := 0) rfl rfl ?_
        refine z_get (pc := 23) (v := .ref (r0 15)) C 0 dX1_loggedPart_23 fl_RX1_35 rfl rfl ?_
        refine z_aload_n (pc := 26) (x := a0) C dX1_loggedPart_26 (i := 0) rfl rfl ?_
        refine z_get (pc := 27) (v := .int (s0.1 5)) C 0 dX1_loggedPart_27 fl_RX1_55 rfl rfl ?_
        refine z_iconst (pc := 30) C dX1_loggedPart_30 ic_1 ?_
        refine z_isub (pc := 31) C dX1_loggedPart_31 ?_
        refine z_iload_n (pc := 32) (x := p1) C dX1_loggedPart_32 (i := 1) rfl rfl ?_
        refine z_isub (pc := 33) C dX1_loggedPart_33 ?_
        refine z_bipush (pc := 34) C dX1_loggedPart_34 bp_30 ?_
        refine z_irem (pc := 36) C dX1_loggedPart_36 (by decide) ?_
        replace h := znm_e h
        obtain ⟨x1, hx1, h⟩ := h
        refine z_top1 hx1 ?_
        refine z_iconst (pc := 37) C dX1_loggedPart_37 ic_4 ?_
        refine z_imul (pc := 38) C dX1_loggedPart_38 ?_
        refine z_iload_n (pc := 39) (x := p2) C dX1_loggedPart_39 (i := 2) rfl rfl ?_
        refine z_iadd (pc := 40) C dX1_loggedPart_40 ?_
        replace h := chk_e h
        obtain ⟨hb2, h⟩ := h
        refine z_iald (pc := 41) C 8 dX1_loggedPart_41 rfl hb2 ?_
        exact z_iret C X dX1_loggedPart_42 (by rw [← Option.some.inj h]; exact ⟨rfl, rfl⟩) (by decide) (by decide)
      · replace h := (ite_e h).2 hc
        refine z_sipush (pc := 18) C dX1_loggedPart_18 sp_m1000 ?_
        exact z_iret C X dX1_loggedPart_21 (by rw [← Option.some.inj h]; exact ⟨rfl, rfl⟩) (by decide) (by decide)
def f_X3_copyFrom (N : Nat) (s0 : Ob) (s1 : Ob) : Option (Ob) := (znm (si s0 3 (s1.1 3)) fun y1 => (znm (si y1 4 (s1.1 4)) fun y2 => (znm (si y2 5 (s1.1 5)) fun y3 => (znm (si y3 6 (s1.1 6)) fun y4 => (znm (sb y4 1 (va_cpy (s1.2.2.2 1) (y4.2.2.2 1) 0 0 4)) fun y5 => (some (sa y5 2 (va_cpy (s1.2.2.1 2) (y5.2.2.1 2) 0 0 4))))))))
theorem m_X3_copyFrom {g : Gp} {a0 : Nat} {a1 : Nat} {r0 : Nat → Nat} {q0_0 : Nat} {r1 : Nat → Nat} {q1_0 : Nat} {N : Nat} {s0 : Ob} {s1 : Ob} {res : Ob} (hg : Ok g) (h : f_X3_copyFrom N s0 s1 = some res) : Ct g yX3_copyFrom cX3_copyFrom 2 none (zrm 1 18) [.ref a0, .ref a1] (wX3 g a0 r0 q0_0 s0 ++ wX3 g a1 r1 q1_0 s1) (exR none (wX3 g a0 r0 q0_0 res ++ wX3 g a1 r1 q1_0 s1)) := by
  refine ct_of rfl hg (by show _ ≤ _; exact Nat.le_of_ble_eq_true rfl) (fun K C X => ?_)
  show Zs K 0 0 (wX3 g a0 r0 q0_0 s0 ++ wX3 g a1 r1 q1_0 s1) [(0, .ref a0), (1, .ref a1)] 0 []
  unfold f_X3_copyFrom at h
  refine z_aload_n (pc := 0) (x := a0) C dX3_copyFrom_0 (i := 0) rfl rfl ?_
  refine z_aload_n (pc := 1) (x := a1) C dX3_copyFrom_1 (i := 1) rfl rfl ?_
  refine z_get (pc := 2) (v := .int (s1.1 3)) C 3 dX3_copyFrom_2 fl_RX3_23 rfl rfl ?_
  refine z_put (pc := 5) C 0 dX3_copyFrom_5 fp_RX3_23 rfl rfl rfl (zlt_b rfl) (ws' := (wX3 g a0 r0 q0_0 (si s0 3 (s1.1 3)) ++ wX3 g a1 r1 q1_0 s1)) rfl ?_
  refine z_aload_n (pc := 8) (x := a0) C dX3_copyFrom_8 (i := 0) rfl rfl ?_
  refine z_aload_n (pc := 9) (x := a1) C dX3_copyFrom_9 (i := 1) rfl rfl ?_
  refine z_get (pc := 10) (v := .int (s1.1 4)) C 3 dX3_copyFrom_10 fl_RX3_27 rfl rfl ?_
  replace h := znm_e h
  obtain ⟨y1, hy1, h⟩ := h
  refine z_wsE (ws' := (wX3 g a0 r0 q0_0 y1 ++ wX3 g a1 r1 q1_0 s1)) (by rw [hy1]) ?_
  refine z_put (pc := 13) C 0 dX3_copyFrom_13 fp_RX3_27 rfl rfl rfl (zlt_b rfl) (ws' := (wX3 g a0 r0 q0_0 (si y1 4 (s1.1 4)) ++ wX3 g a1 r1 q1_0 s1)) rfl ?_
  refine z_aload_n (pc := 16) (x := a0) C dX3_copyFrom_16 (i := 0) rfl rfl ?_
  refine z_aload_n (pc := 17) (x := a1) C dX3_copyFrom_17 (i := 1) rfl rfl ?_
  refine z_get (pc := 18) (v := .int (s1.1 5)) C 3 dX3_copyFrom_18 fl_RX3_30 rfl rfl ?_
  replace h := znm_e h
  obtain ⟨y2, hy2, h⟩ := h
  refine z_wsE (ws' := (wX3 g a0 r0 q0_0 y2 ++ wX3 g a1 r1 q1_0 s1)) (by rw [hy2]) ?_
  refine z_put (pc := 21) C 0 dX3_copyFrom_21 fp_RX3_30 rfl rfl rfl (zlt_b rfl) (ws' := (wX3 g a0 r0 q0_0 (si y2 5 (s1.1 5)) ++ wX3 g a1 r1 q1_0 s1)) rfl ?_
  refine z_aload_n (pc := 24) (x := a0) C dX3_copyFrom_24 (i := 0) rfl rfl ?_
  refine z_aload_n (pc := 25) (x := a1) C dX3_copyFrom_25 (i := 1) rfl rfl ?_
  refine z_get (pc := 26) (v := .int (s1.1 6)) C 3 dX3_copyFrom_26 fl_RX3_33 rfl rfl ?_
  replace h := znm_e h
  obtain ⟨y3, hy3, h⟩ := h
  refine z_wsE (ws' := (wX3 g a0 r0 q0_0 y3 ++ wX3 g a1 r1 q1_0 s1)) (by rw [hy3]) ?_
  refine z_put (pc := 29) C 0 dX3_copyFrom_29 fp_RX3_33 rfl rfl rfl (zlt_b rfl) (ws' := (wX3 g a0 r0 q0_0 (si y3 6 (s1.1 6)) ++ wX3 g a1 r1 q1_0 s1)) rfl ?_
  refine z_aload_n (pc := 32) (x := a1) C dX3_copyFrom_32 (i := 1) rfl rfl ?_
  refine z_get (pc := 33) (v := .ref (r1 1)) C 3 dX3_copyFrom_33 fl_RX3_9 rfl rfl ?_
  refine z_iconst (pc := 36) C dX3_copyFrom_36 ic_0 ?_
  refine z_aload_n (pc := 37) (x := a0) C dX3_copyFrom_37 (i := 0) rfl rfl ?_
  refine z_get (pc := 38) (v := .ref (r0 1)) C 0 dX3_copyFrom_38 fl_RX3_9 rfl rfl ?_
  refine z_iconst (pc := 41) C dX3_copyFrom_41 ic_0 ?_
  refine z_iconst (pc := 42) C dX3_copyFrom_42 ic_4 ?_
  replace h := znm_e h
  obtain ⟨y4, hy4, h⟩ := h
  refine z_wsE (ws' := (wX3 g a0 r0 q0_0 y4 ++ wX3 g a1 r1 q1_0 s1)) (by rw [hy4]) ?_
  refine z_copyl (pc := 43) C 4 1 dX3_copyFrom_43 wc_RX3_36 rfl rfl (by decide) (by decide) (by decide) (by decide) (by decide) (by decide) (Nat.le_of_ble_eq_true rfl) (ws' := (wX3 g a0 r0 q0_0 (sb y4 1 (va_cpy (s1.2.2.2 1) (y4.2.2.2 1) 0 0 4)) ++ wX3 g a1 r1 q1_0 s1)) rfl ?_
  refine z_aload_n (pc := 46) (x := a1) C dX3_copyFrom_46 (i := 1) rfl rfl ?_
  refine z_get (pc := 47) (v := .ref (r1 2)) C 3 dX3_copyFrom_47 fl_RX3_15 rfl rfl ?_
  refine z_iconst (pc := 50) C dX3_copyFrom_50 ic_0 ?_
  refine z_aload_n (pc := 51) (x := a0) C dX3_copyFrom_51 (i := 0) rfl rfl ?_
  refine z_get (pc := 52) (v := .ref (r0 2)) C 0 dX3_copyFrom_52 fl_RX3_15 rfl rfl ?_
  refine z_iconst (pc := 55) C dX3_copyFrom_55 ic_0 ?_
  refine z_iconst (pc := 56) C dX3_copyFrom_56 ic_4 ?_
  replace h := znm_e h
  obtain ⟨y5, hy5, h⟩ := h
  refine z_wsE (ws' := (wX3 g a0 r0 q0_0 y5 ++ wX3 g a1 r1 q1_0 s1)) (by rw [hy5]) ?_
  refine z_copyi (pc := 57) C 5 2 dX3_copyFrom_57 wc_RX3_36 rfl rfl (by decide) (by decide) (by decide) (by decide) (by decide) (by decide) (Nat.le_of_ble_eq_true rfl) (ws' := (wX3 g a0 r0 q0_0 (sa y5 2 (va_cpy (s1.2.2.1 2) (y5.2.2.1 2) 0 0 4)) ++ wX3 g a1 r1 q1_0 s1)) rfl ?_
  exact z_vret C X dX3_copyFrom_60 (by rw [← Option.some.inj h]; exact ⟨rfl, rfl⟩) (by decide) (by decide)
def F_X3_takeFrom_72 (N : Nat) (s1 : Ob) (k58 : Int32 → Ob → Option (Ob)) (k72 : Int32 → Int32 → Ob → Option (Ob)) (v2 : Int32) (v3 : Int32) (s0 : Ob) : Option (Ob) := (ob (f_X1_sizeOf N s1 v2) fun x5 => (if x5 ≤ v3 then (k58 (v2 + (1 : Int32)) s0) else (chk (inb v2 4) (ob (f_X1_cardAt N s1 v2 v3) fun x7 => (znm (((s0.2.2.2 1) (v2).toNatClampNeg) ||| ((1 : Int64) <<< ((x7).toInt64 &&& 63))) fun x8 => (chk (inb v2 4) (k72 v2 (v3 + (1 : Int32)) (sb s0 1 (vp_updL (s0.2.2.2 1) (v2).toNatClampNeg x8)))))))))
def f_X3_takeFrom_72 (N : Nat) (s1 : Ob) (k58 : Int32 → Ob → Option (Ob)) : Nat → Int32 → Int32 → Ob → Option (Ob) := zlp (fun _ _ _ => none) (F_X3_takeFrom_72 N s1 k58)
theorem m_X3_takeFrom_72 {K : Kt} {g : Gp} {a0 : Nat} {a1 : Nat} {r0 : Nat → Nat} {q0_0 : Nat} {r1 : Nat → Nat} {q1_0 : Nat} {N : Nat} {s1 : Ob} {res : Ob} (hg : Ok g) (C : Cx K g cX3_takeFrom RX3 4 (zrm 1 23)) (X : Rx K (exR none (wX3 g a0 r0 q0_0 res ++ wX1 g a1 r1 q1_0 s1)) 0 0 none) {k58 : Int32 → Ob → Option (Ob)} (hk58 : ∀ (v2 : Int32) (s0 : Ob), k58 v2 s0 = some res → Zs K 0 0 (wX3 g a0 r0 q0_0 s0 ++ wX1 g a1 r1 q1_0 s1) [(0, .ref a0), (1, .ref a1), (2, .int v2)] 58 []) : ∀ (n : Nat) (v2 : Int32) (v3 : Int32) (s0 : Ob), f_X3_takeFrom_72 N s1 k58 n v2 v3 s0 = some res → Zs K 0 0 (wX3 g a0 r0 q0_0 s0 ++ wX1 g a1 r1 q1_0 s1) [(0, .ref a0), (1, .ref a1), (2, .int v2), (3, .int v3)] 72 [] := by
  intro n
  induction n with
  | zero => intro v2 v3 s0 h; exact nomatch (show (none : Option (Ob)) = some res from h)
  | succ n hk72 =>
    intro v2 v3 s0 h
    replace h : F_X3_takeFrom_72 N s1 k58 (f_X3_takeFrom_72 N s1 k58 n) v2 v3 s0 = some res := h
    unfold F_X3_takeFrom_72 at h
    refine z_iload_n (pc := 72) (x := v3) C dX3_takeFrom_72 (i := 3) rfl rfl ?_
    refine z_aload_n (pc := 73) (x := a1) C dX3_takeFrom_73 (i := 1) rfl rfl ?_
    refine z_iload_n (pc := 74) (x := v2) C dX3_takeFrom_74 (i := 2) rfl rfl ?_
    replace h := ob_e h
    obtain ⟨x5, hx5, h⟩ := h
    refine z_callV (pc := 75) (As := [.int v2]) (rest := [.int v3]) (wr := (wX3 g a0 r0 q0_0 s0)) C dX3_takeFrom_75 ml_RX3_52 wv_X1_sizeOf (m_X1_sizeOf (a0 := a1) (r0 := r1) (q0_0 := q1_0) hg hx5) [3, 4, 5, 6, 7, 8, 9, 10, 11] [0, 1, 2] rfl rfl ⟨by decide, by decide⟩ (Nat.le_of_ble_eq_true rfl) ⟨by decide, by decide⟩ rfl rfl rfl rfl rfl rfl rfl (by decide) (ex_k C (cs' := 0) (ss' := 0) (wF := (wX3 g a0 r0 q0_0 s0 ++ wX1 g a1 r1 q1_0 s1)) [0, 1, 2, 3, 4, 5, 6, 7, 8, 9, 10, 11] rfl rfl ?_)
    refine z_icmp_ge (pc := 78) C dX3_takeFrom_78 (tgt := 104) (by decide) (fun hc => ?_) (fun hc => ?_)
    · replace h := (ite_e h).1 hc
      refine z_iinc (pc := 104) C dX3_takeFrom_104 rfl (inc_e 1 (1 : Int32) ic_1 v2) (by decide) (lv' := [(2, .int (v2 + (1 : Int32))), (0, .ref a0), (1, .ref a1), (3, .int v3)]) rfl ?_
      refine z_goto (pc := 107) C dX3_takeFrom_107 (tgt := 58) (by decide) ?_
      refine z_lv (lv' := [(0, .ref a0), (1, .ref a1), (2, .int (v2 + (1 : Int32)))]) [1, 2, 0] rfl ?_
      exact hk58 (v2 + (1 : Int32)) s0 h
    · replace h := (ite_e h).2 hc
      refine z_aload_n (pc := 81) (x := a0) C dX3_takeFrom_81 (i := 0) rfl rfl ?_
      refine z_get (pc := 82) (v := .ref (r0 1)) C 0 dX3_takeFrom_82 fl_RX3_9 rfl rfl ?_
      refine z_iload_n (pc := 85) (x := v2) C dX3_takeFrom_85 (i := 2) rfl rfl ?_
      refine z_dup2 (pc := 86) C dX3_takeFrom_86 rfl rfl ?_
      replace h := chk_e h
      obtain ⟨hb6, h⟩ := h
      refine z_lald (pc := 87) C 1 dX3_takeFrom_87 rfl hb6 ?_
      refine z_lconst (pc := 88) (v := (1 : Int64)) C dX3_takeFrom_88 rfl ?_
      refine z_aload_n (pc := 89) (x := a1) C dX3_takeFrom_89 (i := 1) rfl rfl ?_
      refine z_iload_n (pc := 90) (x := v2) C dX3_takeFrom_90 (i := 2) rfl rfl ?_
      refine z_iload_n (pc := 91) (x := v3) C dX3_takeFrom_91 (i := 3) rfl rfl ?_
      replace h := ob_e h
      obtain ⟨x7, hx7, h⟩ := h
      refine z_callV (pc := 92) (As := [.int v2, .int v3]) (rest := [.long (1 : Int64), .long ((s0.2.2.2 1) (v2).toNatClampNeg), .int v2, .ref (r0 1)]) (wr := (wX3 g a0 r0 q0_0 s0)) C dX3_takeFrom_92 ml_RX3_55 wv_X1_cardAt (m_X1_cardAt (a0 := a1) (r0 := r1) (q0_0 := q1_0) hg hx7) [3, 4, 5, 6, 7, 8, 9, 10, 11] [0, 1, 2] rfl rfl ⟨by decide, by decide⟩ (Nat.le_of_ble_eq_true rfl) ⟨by decide, by decide⟩ rfl rfl rfl rfl rfl rfl rfl (by decide) (ex_k C (cs' := 0) (ss' := 0) (wF := (wX3 g a0 r0 q0_0 s0 ++ wX1 g a1 r1 q1_0 s1)) [0, 1, 2, 3, 4, 5, 6, 7, 8, 9, 10, 11] rfl rfl ?_)
      refine z_lshl (pc := 95) C dX3_takeFrom_95 ?_
      refine z_lor (pc := 96) C dX3_takeFrom_96 ?_
      replace h := znm_e h
      obtain ⟨x8, hx8, h⟩ := h
      refine z_top2 hx8 ?_
      replace h := chk_e h
      obtain ⟨hb9, h⟩ := h
      refine z_last (pc := 97) C 1 dX3_takeFrom_97 rfl hb9 (ws' := (wX3 g a0 r0 q0_0 (sb s0 1 (vp_updL (s0.2.2.2 1) (v2).toNatClampNeg x8)) ++ wX1 g a1 r1 q1_0 s1)) rfl ?_
      refine z_iinc (pc := 98) C dX3_takeFrom_98 rfl (inc_e 1 (1 : Int32) ic_1 v3) (by decide) (lv' := [(3, .int (v3 + (1 : Int32))), (0, .ref a0), (1, .ref a1), (2, .int v2)]) rfl ?_
      refine z_goto (pc := 101) C dX3_takeFrom_101 (tgt := 72) (by decide) ?_
      refine z_lv (lv' := [(0, .ref a0), (1, .ref a1), (2, .int v2), (3, .int (v3 + (1 : Int32)))]) [1, 2, 3, 0] rfl ?_
      exact hk72 v2 (v3 + (1 : Int32)) (sb s0 1 (vp_updL (s0.2.2.2 1) (v2).toNatClampNeg x8)) h
def F_X3_takeFrom_58 (N : Nat) (s1 : Ob)  (k58 : Int32 → Ob → Option (Ob)) (v2 : Int32) (s0 : Ob) : Option (Ob) := (if (4 : Int32) ≤ v2 then (some s0) else (chk (inb v2 4) (f_X3_takeFrom_72 N s1 k58 N v2 (0 : Int32) (sb s0 1 (vp_updL (s0.2.2.2 1) (v2).toNatClampNeg (0 : Int64))))))
def f_X3_takeFrom_58 (N : Nat) (s1 : Ob)  : Nat → Int32 → Ob → Option (Ob) := zlp (fun _ _ => none) (F_X3_takeFrom_58 N s1)
theorem m_X3_takeFrom_58 {K : Kt} {g : Gp} {a0 : Nat} {a1 : Nat} {r0 : Nat → Nat} {q0_0 : Nat} {r1 : Nat → Nat} {q1_0 : Nat} {N : Nat} {s1 : Ob} {res : Ob} (hg : Ok g) (C : Cx K g cX3_takeFrom RX3 4 (zrm 1 23)) (X : Rx K (exR none (wX3 g a0 r0 q0_0 res ++ wX1 g a1 r1 q1_0 s1)) 0 0 none) : ∀ (n : Nat) (v2 : Int32) (s0 : Ob), f_X3_takeFrom_58 N s1 n v2 s0 = some res → Zs K 0 0 (wX3 g a0 r0 q0_0 s0 ++ wX1 g a1 r1 q1_0 s1) [(0, .ref a0), (1, .ref a1), (2, .int v2)] 58 [] := by
  intro n
  induction n with
  | zero => intro v2 s0 h; exact nomatch (show (none : Option (Ob)) = some res from h)
  | succ n hk58 =>
    intro v2 s0 h
    replace h : F_X3_takeFrom_58 N s1 (f_X3_takeFrom_58 N s1 n) v2 s0 = some res := h
    unfold F_X3_takeFrom_58 at h
    refine z_iload_n (pc := 58) (x := v2) C dX3_takeFrom_58 (i := 2) rfl rfl ?_
    refine z_iconst (pc := 59) C dX3_takeFrom_59 ic_4 ?_
    refine z_icmp_ge (pc := 60) C dX3_takeFrom_60 (tgt := 110) (by decide) (fun hc => ?_) (fun hc => ?_)
    · replace h := (ite_e h).1 hc
      exact z_vret C X dX3_takeFrom_110 (by rw [← Option.some.inj h]; exact ⟨rfl, rfl⟩) (by decide) (by decide)
    · replace h := (ite_e h).2 hc
      refine z_aload_n (pc := 63) (x := a0) C dX3_takeFrom_63 (i := 0) rfl rfl ?_
      refine z_get (pc := 64) (v := .ref (r0 1)) C 0 dX3_takeFrom_64 fl_RX3_9 rfl rfl ?_
      refine z_iload_n (pc := 67) (x := v2) C dX3_takeFrom_67 (i := 2) rfl rfl ?_
      refine z_lconst (pc := 68) (v := (0 : Int64)) C dX3_takeFrom_68 rfl ?_
      replace h := chk_e h
      obtain ⟨hb4, h⟩ := h
      refine z_last (pc := 69) C 1 dX3_takeFrom_69 rfl hb4 (ws' := (wX3 g a0 r0 q0_0 (sb s0 1 (vp_updL (s0.2.2.2 1) (v2).toNatClampNeg (0 : Int64))) ++ wX1 g a1 r1 q1_0 s1)) rfl ?_
      refine z_iconst (pc := 70) C dX3_takeFrom_70 ic_0 ?_
      refine z_istore_n (pc := 71) C dX3_takeFrom_71 (i := 3) rfl (by decide) (lv' := [(3, .int (0 : Int32)), (0, .ref a0), (1, .ref a1), (2, .int v2)]) rfl ?_
      refine z_lv (lv' := [(0, .ref a0), (1, .ref a1), (2, .int v2), (3, .int (0 : Int32))]) [1, 2, 3, 0] rfl ?_
      exact m_X3_takeFrom_72 (a0 := a0) (a1 := a1) (r0 := r0) (q0_0 := q0_0) (r1 := r1) (q1_0 := q1_0) hg C X hk58 N v2 (0 : Int32) (sb s0 1 (vp_updL (s0.2.2.2 1) (v2).toNatClampNeg (0 : Int64))) h
def F_X3_takeFrom_34 (N : Nat) (s1 : Ob)  (k34 : Int32 → Ob → Option (Ob)) (v2 : Int32) (s0 : Ob) : Option (Ob) := (if (4 : Int32) ≤ v2 then (f_X3_takeFrom_58 N s1 N (0 : Int32) s0) else (ob (f_X1_topOf N s1 v2) fun x10 => (chk (inb v2 4) (k34 (v2 + (1 : Int32)) (sa s0 2 (upd (s0.2.2.1 2) (v2).toNatClampNeg x10))))))
def f_X3_takeFrom_34 (N : Nat) (s1 : Ob)  : Nat → Int32 → Ob → Option (Ob) := zlp (fun _ _ => none) (F_X3_takeFrom_34 N s1)
theorem m_X3_takeFrom_34 {K : Kt} {g : Gp} {a0 : Nat} {a1 : Nat} {r0 : Nat → Nat} {q0_0 : Nat} {r1 : Nat → Nat} {q1_0 : Nat} {N : Nat} {s1 : Ob} {res : Ob} (hg : Ok g) (C : Cx K g cX3_takeFrom RX3 4 (zrm 1 23)) (X : Rx K (exR none (wX3 g a0 r0 q0_0 res ++ wX1 g a1 r1 q1_0 s1)) 0 0 none) : ∀ (n : Nat) (v2 : Int32) (s0 : Ob), f_X3_takeFrom_34 N s1 n v2 s0 = some res → Zs K 0 0 (wX3 g a0 r0 q0_0 s0 ++ wX1 g a1 r1 q1_0 s1) [(0, .ref a0), (1, .ref a1), (2, .int v2)] 34 [] := by
  intro n
  induction n with
  | zero => intro v2 s0 h; exact nomatch (show (none : Option (Ob)) = some res from h)
  | succ n hk34 =>
    intro v2 s0 h
    replace h : F_X3_takeFrom_34 N s1 (f_X3_takeFrom_34 N s1 n) v2 s0 = some res := h
    unfold F_X3_takeFrom_34 at h
    refine z_iload_n (pc := 34) (x := v2) C dX3_takeFrom_34 (i := 2) rfl rfl ?_
    refine z_iconst (pc := 35) C dX3_takeFrom_35 ic_4 ?_
    refine z_icmp_ge (pc := 36) C dX3_takeFrom_36 (tgt := 56) (by decide) (fun hc => ?_) (fun hc => ?_)
    · replace h := (ite_e h).1 hc
      refine z_iconst (pc := 56) C dX3_takeFrom_56 ic_0 ?_
      refine z_istore_n (pc := 57) C dX3_takeFrom_57 (i := 2) rfl (by decide) (lv' := [(2, .int (0 : Int32)), (0, .ref a0), (1, .ref a1)]) rfl ?_
      refine z_lv (lv' := [(0, .ref a0), (1, .ref a1), (2, .int (0 : Int32))]) [1, 2, 0] rfl ?_
      exact m_X3_takeFrom_58 (a0 := a0) (a1 := a1) (r0 := r0) (q0_0 := q0_0) (r1 := r1) (q1_0 := q1_0) hg C X N (0 : Int32) s0 h
    · replace h := (ite_e h).2 hc
      refine z_aload_n (pc := 39) (x := a0) C dX3_takeFrom_39 (i := 0) rfl rfl ?_
      refine z_get (pc := 40) (v := .ref (r0 2)) C 0 dX3_takeFrom_40 fl_RX3_15 rfl rfl ?_
      refine z_iload_n (pc := 43) (x := v2) C dX3_takeFrom_43 (i := 2) rfl rfl ?_
      refine z_aload_n (pc := 44) (x := a1) C dX3_takeFrom_44 (i := 1) rfl rfl ?_
      refine z_iload_n (pc := 45) (x := v2) C dX3_takeFrom_45 (i := 2) rfl rfl ?_
      replace h := ob_e h
      obtain ⟨x10, hx10, h⟩ := h
      refine z_callV (pc := 46) (As := [.int v2]) (rest := [.int v2, .ref (r0 2)]) (wr := (wX3 g a0 r0 q0_0 s0)) C dX3_takeFrom_46 ml_RX3_48 wv_X1_topOf (m_X1_topOf (a0 := a1) (r0 := r1) (q0_0 := q1_0) hg hx10) [3, 4, 5, 6, 7, 8, 9, 10, 11] [0, 1, 2] rfl rfl ⟨by decide, by decide⟩ (Nat.le_of_ble_eq_true rfl) ⟨by decide, by decide⟩ rfl rfl rfl rfl rfl rfl rfl (by decide) (ex_k C (cs' := 0) (ss' := 0) (wF := (wX3 g a0 r0 q0_0 s0 ++ wX1 g a1 r1 q1_0 s1)) [0, 1, 2, 3, 4, 5, 6, 7, 8, 9, 10, 11] rfl rfl ?_)
      replace h := chk_e h
      obtain ⟨hb11, h⟩ := h
      refine z_iast (pc := 49) C 2 dX3_takeFrom_49 rfl hb11 (ws' := (wX3 g a0 r0 q0_0 (sa s0 2 (upd (s0.2.2.1 2) (v2).toNatClampNeg x10)) ++ wX1 g a1 r1 q1_0 s1)) rfl ?_
      refine z_iinc (pc := 50) C dX3_takeFrom_50 rfl (inc_e 1 (1 : Int32) ic_1 v2) (by decide) (lv' := [(2, .int (v2 + (1 : Int32))), (0, .ref a0), (1, .ref a1)]) rfl ?_
      refine z_goto (pc := 53) C dX3_takeFrom_53 (tgt := 34) (by decide) ?_
      refine z_lv (lv' := [(0, .ref a0), (1, .ref a1), (2, .int (v2 + (1 : Int32)))]) [1, 2, 0] rfl ?_
      exact hk34 (v2 + (1 : Int32)) (sa s0 2 (upd (s0.2.2.1 2) (v2).toNatClampNeg x10)) h
def f_X3_takeFrom (N : Nat) (s0 : Ob) (s1 : Ob) : Option (Ob) := (znm (si s0 3 (s1.1 2)) fun y1 => (znm (si y1 4 (s1.1 1)) fun y2 => (znm (si y2 5 (s1.1 4)) fun y3 => (f_X3_takeFrom_34 N s1 N (0 : Int32) (si y3 6 (s1.1 6))))))
theorem m_X3_takeFrom {g : Gp} {a0 : Nat} {a1 : Nat} {r0 : Nat → Nat} {q0_0 : Nat} {r1 : Nat → Nat} {q1_0 : Nat} {N : Nat} {s0 : Ob} {s1 : Ob} {res : Ob} (hg : Ok g) (h : f_X3_takeFrom N s0 s1 = some res) : Ct g yX3_takeFrom cX3_takeFrom 4 none (zrm 1 23) [.ref a0, .ref a1] (wX3 g a0 r0 q0_0 s0 ++ wX1 g a1 r1 q1_0 s1) (exR none (wX3 g a0 r0 q0_0 res ++ wX1 g a1 r1 q1_0 s1)) := by
  refine ct_of rfl hg (by show _ ≤ _; exact Nat.le_of_ble_eq_true rfl) (fun K C X => ?_)
  show Zs K 0 0 (wX3 g a0 r0 q0_0 s0 ++ wX1 g a1 r1 q1_0 s1) [(0, .ref a0), (1, .ref a1)] 0 []
  unfold f_X3_takeFrom at h
  refine z_aload_n (pc := 0) (x := a0) C dX3_takeFrom_0 (i := 0) rfl rfl ?_
  refine z_aload_n (pc := 1) (x := a1) C dX3_takeFrom_1 (i := 1) rfl rfl ?_
  refine z_get (pc := 2) (v := .int (s1.1 2)) C 3 dX3_takeFrom_2 fl_RX3_42 rfl rfl ?_
  refine z_put (pc := 5) C 0 dX3_takeFrom_5 fp_RX3_23 rfl rfl rfl (zlt_b rfl) (ws' := (wX3 g a0 r0 q0_0 (si s0 3 (s1.1 2)) ++ wX1 g a1 r1 q1_0 s1)) rfl ?_
  refine z_aload_n (pc := 8) (x := a0) C dX3_takeFrom_8 (i := 0) rfl rfl ?_
  refine z_aload_n (pc := 9) (x := a1) C dX3_takeFrom_9 (i := 1) rfl rfl ?_
  refine z_get (pc := 10) (v := .int (s1.1 1)) C 3 dX3_takeFrom_10 fl_RX3_45 rfl rfl ?_
  replace h := znm_e h
  obtain ⟨y1, hy1, h⟩ := h
  refine z_wsE (ws' := (wX3 g a0 r0 q0_0 y1 ++ wX1 g a1 r1 q1_0 s1)) (by rw [hy1]) ?_
  refine z_put (pc := 13) C 0 dX3_takeFrom_13 fp_RX3_27 rfl rfl rfl (zlt_b rfl) (ws' := (wX3 g a0 r0 q0_0 (si y1 4 (s1.1 1)) ++ wX1 g a1 r1 q1_0 s1)) rfl ?_
  refine z_aload_n (pc := 16) (x := a0) C dX3_takeFrom_16 (i := 0) rfl rfl ?_
  refine z_aload_n (pc := 17) (x := a1) C dX3_takeFrom_17 (i := 1) rfl rfl ?_
  refine z_get (pc := 18) (v := .int (s1.1 4)) C 3 dX3_takeFrom_18 fl_RX3_46 rfl rfl ?_
  replace h := znm_e h
  obtain ⟨y2, hy2, h⟩ := h
  refine z_wsE (ws' := (wX3 g a0 r0 q0_0 y2 ++ wX1 g a1 r1 q1_0 s1)) (by rw [hy2]) ?_
  refine z_put (pc := 21) C 0 dX3_takeFrom_21 fp_RX3_30 rfl rfl rfl (zlt_b rfl) (ws' := (wX3 g a0 r0 q0_0 (si y2 5 (s1.1 4)) ++ wX1 g a1 r1 q1_0 s1)) rfl ?_
  refine z_aload_n (pc := 24) (x := a0) C dX3_takeFrom_24 (i := 0) rfl rfl ?_
  refine z_aload_n (pc := 25) (x := a1) C dX3_takeFrom_25 (i := 1) rfl rfl ?_
  refine z_get (pc := 26) (v := .int (s1.1 6)) C 3 dX3_takeFrom_26 fl_RX3_47 rfl rfl ?_
  replace h := znm_e h
  obtain ⟨y3, hy3, h⟩ := h
  refine z_wsE (ws' := (wX3 g a0 r0 q0_0 y3 ++ wX1 g a1 r1 q1_0 s1)) (by rw [hy3]) ?_
  refine z_put (pc := 29) C 0 dX3_takeFrom_29 fp_RX3_33 rfl rfl rfl (zlt_b rfl) (ws' := (wX3 g a0 r0 q0_0 (si y3 6 (s1.1 6)) ++ wX1 g a1 r1 q1_0 s1)) rfl ?_
  refine z_iconst (pc := 32) C dX3_takeFrom_32 ic_0 ?_
  refine z_istore_n (pc := 33) C dX3_takeFrom_33 (i := 2) rfl (by decide) (lv' := [(2, .int (0 : Int32)), (0, .ref a0), (1, .ref a1)]) rfl ?_
  refine z_lv (lv' := [(0, .ref a0), (1, .ref a1), (2, .int (0 : Int32))]) [1, 2, 0] rfl ?_
  exact m_X3_takeFrom_34 (a0 := a0) (a1 := a1) (r0 := r0) (q0_0 := q0_0) (r1 := r1) (q1_0 := q1_0) hg C X N (0 : Int32) (si y3 6 (s1.1 6)) h
def F_X3_packed_4 (N : Nat) (s0 : Ob)  (k4 : Int32 → Int32 → Option (Int32)) (v1 : Int32) (v2 : Int32) : Option (Int32) := (if (4 : Int32) ≤ v2 then (znm (((v1 <<< ((4 : Int32) &&& 31)) ||| (s0.1 3)) <<< ((6 : Int32) &&& 31)) fun x1 => (znm ((((x1 ||| (s0.1 4)) <<< ((2 : Int32) &&& 31)) ||| (s0.1 5)) <<< ((3 : Int32) &&& 31)) fun x2 => (some (x2 ||| ((s0.1 6) + (1 : Int32)))))) else (chk (inb v2 4) (k4 ((v1 <<< ((3 : Int32) &&& 31)) ||| ((s0.2.2.1 2) (v2).toNatClampNeg)) (v2 + (1 : Int32)))))
def f_X3_packed_4 (N : Nat) (s0 : Ob)  : Nat → Int32 → Int32 → Option (Int32) := zlp (fun _ _ => none) (F_X3_packed_4 N s0)
theorem m_X3_packed_4 {K : Kt} {g : Gp} {a0 : Nat} {r0 : Nat → Nat} {q0_0 : Nat} {N : Nat} {s0 : Ob} {res : Int32} (hg : Ok g) (C : Cx K g cX3_packed RX3 3 (zrm 0 0)) (X : Rx K (exR (some (.int res)) (wX3 g a0 r0 q0_0 s0)) 0 0 (some .int)) : ∀ (n : Nat) (v1 : Int32) (v2 : Int32), f_X3_packed_4 N s0 n v1 v2 = some res → Zs K 0 0 (wX3 g a0 r0 q0_0 s0) [(0, .ref a0), (1, .int v1), (2, .int v2)] 4 [] := by
  intro n
  induction n with
  | zero => intro v1 v2 h; exact nomatch (show (none : Option (Int32)) = some res from h)
  | succ n hk4 =>
    intro v1 v2 h
    replace h : F_X3_packed_4 N s0 (f_X3_packed_4 N s0 n) v1 v2 = some res := h
    unfold F_X3_packed_4 at h
    refine z_iload_n (pc := 4) (x := v2) C dX3_packed_4 (i := 2) rfl rfl ?_
    refine z_iconst (pc := 5) C dX3_packed_5 ic_4 ?_
    refine z_icmp_ge (pc := 6) C dX3_packed_6 (tgt := 26) (by decide) (fun hc => ?_) (fun hc => ?_)
    · replace h := (ite_e h).1 hc
      refine z_iload_n (pc := 26) (x := v1) C dX3_packed_26 (i := 1) rfl rfl ?_
      refine z_iconst (pc := 27) C dX3_packed_27 ic_4 ?_
      refine z_ishl (pc := 28) C dX3_packed_28 ?_
      refine z_aload_n (pc := 29) (x := a0) C dX3_packed_29 (i := 0) rfl rfl ?_
      refine z_get (pc := 30) (v := .int (s0.1 3)) C 0 dX3_packed_30 fl_RX3_23 rfl rfl ?_
      refine z_ior (pc := 33) C dX3_packed_33 ?_
      refine z_bipush (pc := 34) C dX3_packed_34 bp_6 ?_
      refine z_ishl (pc := 36) C dX3_packed_36 ?_
      replace h := znm_e h
      obtain ⟨x1, hx1, h⟩ := h
      refine z_top1 hx1 ?_
      refine z_aload_n (pc := 37) (x := a0) C dX3_packed_37 (i := 0) rfl rfl ?_
      refine z_get (pc := 38) (v := .int (s0.1 4)) C 0 dX3_packed_38 fl_RX3_27 rfl rfl ?_
      refine z_ior (pc := 41) C dX3_packed_41 ?_
      refine z_iconst (pc := 42) C dX3_packed_42 ic_2 ?_
      refine z_ishl (pc := 43) C dX3_packed_43 ?_
      refine z_aload_n (pc := 44) (x := a0) C dX3_packed_44 (i := 0) rfl rfl ?_
      refine z_get (pc := 45) (v := .int (s0.1 5)) C 0 dX3_packed_45 fl_RX3_30 rfl rfl ?_
      refine z_ior (pc := 48) C dX3_packed_48 ?_
      refine z_iconst (pc := 49) C dX3_packed_49 ic_3 ?_
      refine z_ishl (pc := 50) C dX3_packed_50 ?_
      replace h := znm_e h
      obtain ⟨x2, hx2, h⟩ := h
      refine z_top1 hx2 ?_
      refine z_aload_n (pc := 51) (x := a0) C dX3_packed_51 (i := 0) rfl rfl ?_
      refine z_get (pc := 52) (v := .int (s0.1 6)) C 0 dX3_packed_52 fl_RX3_33 rfl rfl ?_
      refine z_iconst (pc := 55) C dX3_packed_55 ic_1 ?_
      refine z_iadd (pc := 56) C dX3_packed_56 ?_
      refine z_ior (pc := 57) C dX3_packed_57 ?_
      exact z_iret C X dX3_packed_58 (by rw [← Option.some.inj h]; exact ⟨rfl, rfl⟩) (by decide) (by decide)
    · replace h := (ite_e h).2 hc
      refine z_iload_n (pc := 9) (x := v1) C dX3_packed_9 (i := 1) rfl rfl ?_
      refine z_iconst (pc := 10) C dX3_packed_10 ic_3 ?_
      refine z_ishl (pc := 11) C dX3_packed_11 ?_
      refine z_aload_n (pc := 12) (x := a0) C dX3_packed_12 (i := 0) rfl rfl ?_
      refine z_get (pc := 13) (v := .ref (r0 2)) C 0 dX3_packed_13 fl_RX3_15 rfl rfl ?_
      refine z_iload_n (pc := 16) (x := v2) C dX3_packed_16 (i := 2) rfl rfl ?_
      replace h := chk_e h
      obtain ⟨hb3, h⟩ := h
      refine z_iald (pc := 17) C 2 dX3_packed_17 rfl hb3 ?_
      refine z_ior (pc := 18) C dX3_packed_18 ?_
      refine z_istore_n (pc := 19) C dX3_packed_19 (i := 1) rfl (by decide) (lv' := [(1, .int ((v1 <<< ((3 : Int32) &&& 31)) ||| ((s0.2.2.1 2) (v2).toNatClampNeg))), (0, .ref a0), (2, .int v2)]) rfl ?_
      refine z_iinc (pc := 20) C dX3_packed_20 rfl (inc_e 1 (1 : Int32) ic_1 v2) (by decide) (lv' := [(2, .int (v2 + (1 : Int32))), (1, .int ((v1 <<< ((3 : Int32) &&& 31)) ||| ((s0.2.2.1 2) (v2).toNatClampNeg))), (0, .ref a0)]) rfl ?_
      refine z_goto (pc := 23) C dX3_packed_23 (tgt := 4) (by decide) ?_
      refine z_lv (lv' := [(0, .ref a0), (1, .int ((v1 <<< ((3 : Int32) &&& 31)) ||| ((s0.2.2.1 2) (v2).toNatClampNeg))), (2, .int (v2 + (1 : Int32)))]) [2, 1, 0] rfl ?_
      exact hk4 ((v1 <<< ((3 : Int32) &&& 31)) ||| ((s0.2.2.1 2) (v2).toNatClampNeg)) (v2 + (1 : Int32)) h
def f_X3_packed (N : Nat) (s0 : Ob) : Option (Int32) := (f_X3_packed_4 N s0 N (0 : Int32) (0 : Int32))
theorem m_X3_packed {g : Gp} {a0 : Nat} {r0 : Nat → Nat} {q0_0 : Nat} {N : Nat} {s0 : Ob} {res : Int32} (hg : Ok g) (h : f_X3_packed N s0 = some res) : Ct g yX3_packed cX3_packed 3 (some .int) (zrm 0 0) [.ref a0] (wX3 g a0 r0 q0_0 s0) (exR (some (.int res)) (wX3 g a0 r0 q0_0 s0)) := by
  refine ct_of rfl hg (by show _ ≤ _; exact Nat.le_of_ble_eq_true rfl) (fun K C X => ?_)
  show Zs K 0 0 (wX3 g a0 r0 q0_0 s0) [(0, .ref a0)] 0 []
  unfold f_X3_packed at h
  refine z_iconst (pc := 0) C dX3_packed_0 ic_0 ?_
  refine z_istore_n (pc := 1) C dX3_packed_1 (i := 1) rfl (by decide) (lv' := [(1, .int (0 : Int32)), (0, .ref a0)]) rfl ?_
  refine z_iconst (pc := 2) C dX3_packed_2 ic_0 ?_
  refine z_istore_n (pc := 3) C dX3_packed_3 (i := 2) rfl (by decide) (lv' := [(2, .int (0 : Int32)), (1, .int (0 : Int32)), (0, .ref a0)]) rfl ?_
  refine z_lv (lv' := [(0, .ref a0), (1, .int (0 : Int32)), (2, .int (0 : Int32))]) [2, 1, 0] rfl ?_
  exact m_X3_packed_4 (a0 := a0) (r0 := r0) (q0_0 := q0_0) hg C X N (0 : Int32) (0 : Int32) h
