/-! OWN, written by wip/whole/tools/mkall.py: walks over strings, and of methods that throw -/
def F_X4_isWord_17 (N : Nat) (n1 : Nat) (l1 : Nat) (b1 : Nat → Int32) (s0 : Ob) (s1 : (Nat → Int32)) (p2 : Int32)  (k17 : Int32 → Option (Int32)) (v3 : Int32) : Option (Int32) := (if (Int32.ofNat l1) ≤ v3 then (some (1 : Int32)) else (ob (f_X4_signAt N n1 s0 s1 (p2 + v3)) fun x1 => (chk (inb v3 l1) (if x1 = (zch (b1 (v3).toNatClampNeg)) then (k17 (v3 + (1 : Int32))) else (some (0 : Int32))))))
def f_X4_isWord_17 (N : Nat) (n1 : Nat) (l1 : Nat) (b1 : Nat → Int32) (s0 : Ob) (s1 : (Nat → Int32)) (p2 : Int32)  : Nat → Int32 → Option (Int32) := zlp (fun _ => none) (F_X4_isWord_17 N n1 l1 b1 s0 s1 p2)
theorem m_X4_isWord_17 {K : Kt} {g : Gp} {a0 : Nat} {a1 : Nat} {r0 : Nat → Nat} {q0_0 : Nat} {q0_4 : Nat} {N : Nat} {n1 : Nat} {l1 : Nat} {b1 : Nat → Int32} {s0 : Ob} {s1 : (Nat → Int32)} {p2 : Int32} {res : Int32} (hg : Ok g) (hs1 : Sl g a1 l1 b1) (C : Cx K g cX4_isWord RX4 4 (zrm 4 85)) (X : Rx K (exR (some (.int res)) (wX4 g a0 r0 q0_0 q0_4 s0 ++ wA g q0_4 n1 s1)) 0 0 (some .boolean)) : ∀ (n : Nat) (v3 : Int32), f_X4_isWord_17 N n1 l1 b1 s0 s1 p2 n v3 = some res → Zs K 0 0 (wX4 g a0 r0 q0_0 q0_4 s0 ++ wA g q0_4 n1 s1) [(0, .ref a0), (1, .ref a1), (2, .int p2), (3, .int v3)] 17 [] := by
  intro n
  induction n with
  | zero => intro v3 h; exact nomatch (show (none : Option (Int32)) = some res from h)
  | succ n hk17 =>
    intro v3 h
    replace h : F_X4_isWord_17 N n1 l1 b1 s0 s1 p2 (f_X4_isWord_17 N n1 l1 b1 s0 s1 p2 n) v3 = some res := h
    unfold F_X4_isWord_17 at h
    refine z_iload_n (pc := 17) (x := v3) C dX4_isWord_17 (i := 3) rfl rfl ?_
    refine z_aload_n (pc := 18) (x := a1) C dX4_isWord_18 (i := 1) rfl rfl ?_
    refine z_callVs (pc := 19) (As := []) (rest := [.int v3]) C hs1 rfl dX4_isWord_19 ml_RX4_153 wv_J0_length_8abf5 (m_J0_length hg hs1) [0, 1] rfl rfl rfl rfl ⟨by decide, by decide⟩ (Nat.le_of_ble_eq_true rfl) ⟨by decide, by decide⟩ (ex_k C (cs' := 0) (ss' := 0) (wF := (wX4 g a0 r0 q0_0 q0_4 s0 ++ wA g q0_4 n1 s1)) [0, 1] rfl rfl ?_)
    refine z_icmp_ge (pc := 22) C dX4_isWord_22 (tgt := 48) (by decide) (fun hc => ?_) (fun hc => ?_)
    · replace h := (ite_e h).1 hc
      refine z_iconst (pc := 48) C dX4_isWord_48 ic_1 ?_
      exact z_zret C X dX4_isWord_49 rfl (by rw [← Option.some.inj h]; exact ⟨rfl, rfl⟩) (by decide) (by decide)
    · replace h := (ite_e h).2 hc
      refine z_aload_n (pc := 25) (x := a0) C dX4_isWord_25 (i := 0) rfl rfl ?_
      refine z_iload_n (pc := 26) (x := p2) C dX4_isWord_26 (i := 2) rfl rfl ?_
      refine z_iload_n (pc := 27) (x := v3) C dX4_isWord_27 (i := 3) rfl rfl ?_
      refine z_iadd (pc := 28) C dX4_isWord_28 ?_
      replace h := ob_e h
      obtain ⟨x1, hx1, h⟩ := h
      refine z_callV (pc := 29) (As := [.int (p2 + v3)]) (rest := []) (wr := ([] : va_W)) C dX4_isWord_29 ml_RX4_120 wv_X4_signAt (m_X4_signAt (a0 := a0) (r0 := r0) (q0_0 := q0_0) (q0_4 := q0_4) hg hx1) [0, 1] [] rfl rfl ⟨by decide, by decide⟩ (Nat.le_of_ble_eq_true rfl) ⟨by decide, by decide⟩ rfl rfl rfl rfl rfl rfl rfl (by decide) (ex_k C (cs' := 0) (ss' := 0) (wF := (wX4 g a0 r0 q0_0 q0_4 s0 ++ wA g q0_4 n1 s1)) [0, 1] rfl rfl ?_)
      refine z_aload_n (pc := 32) (x := a1) C dX4_isWord_32 (i := 1) rfl rfl ?_
      refine z_iload_n (pc := 33) (x := v3) C dX4_isWord_33 (i := 3) rfl rfl ?_
      replace h := chk_e h
      obtain ⟨hb2, h⟩ := h
      refine z_callVs (pc := 34) (As := [.int v3]) (rest := [.int x1]) C hs1 rfl dX4_isWord_34 ml_RX4_158 wv_J0_charAt_5068e (m_J0_charAt hg hs1 hb2) [0, 1] rfl rfl rfl rfl ⟨by decide, by decide⟩ (Nat.le_of_ble_eq_true rfl) ⟨by decide, by decide⟩ (ex_k C (cs' := 0) (ss' := 0) (wF := (wX4 g a0 r0 q0_0 q0_4 s0 ++ wA g q0_4 n1 s1)) [0, 1] rfl rfl ?_)
      refine z_icmp_eq (pc := 37) C dX4_isWord_37 (tgt := 42) (by decide) (fun hc => ?_) (fun hc => ?_)
      · replace h := (ite_e h).1 hc
        refine z_iinc (pc := 42) C dX4_isWord_42 rfl (inc_e 1 (1 : Int32) ic_1 v3) (by decide) (lv' := [(3, .int (v3 + (1 : Int32))), (0, .ref a0), (1, .ref a1), (2, .int p2)]) rfl ?_
        refine z_goto (pc := 45) C dX4_isWord_45 (tgt := 17) (by decide) ?_
        refine z_lv (lv' := [(0, .ref a0), (1, .ref a1), (2, .int p2), (3, .int (v3 + (1 : Int32)))]) [1, 2, 3, 0] rfl ?_
        exact hk17 (v3 + (1 : Int32)) h
      · replace h := (ite_e h).2 hc
        refine z_iconst (pc := 40) C dX4_isWord_40 ic_0 ?_
        exact z_zret C X dX4_isWord_41 rfl (by rw [← Option.some.inj h]; exact ⟨rfl, rfl⟩) (by decide) (by decide)
def f_X4_isWord (N : Nat) (n1 : Nat) (l1 : Nat) (b1 : Nat → Int32) (s0 : Ob) (s1 : (Nat → Int32)) (p2 : Int32) : Option (Int32) := (if ((s0.1 6) - p2) = (Int32.ofNat l1) then (f_X4_isWord_17 N n1 l1 b1 s0 s1 p2 N (0 : Int32)) else (some (0 : Int32)))
theorem m_X4_isWord {g : Gp} {a0 : Nat} {a1 : Nat} {r0 : Nat → Nat} {q0_0 : Nat} {q0_4 : Nat} {N : Nat} {n1 : Nat} {l1 : Nat} {b1 : Nat → Int32} {s0 : Ob} {s1 : (Nat → Int32)} {p2 : Int32} {res : Int32} (hg : Ok g) (hs1 : Sl g a1 l1 b1) (h : f_X4_isWord N n1 l1 b1 s0 s1 p2 = some res) : Ct g yX4_isWord cX4_isWord 4 (some .boolean) (zrm 4 85) [.ref a0, .ref a1, .int p2] (wX4 g a0 r0 q0_0 q0_4 s0 ++ wA g q0_4 n1 s1) (exR (some (.int res)) (wX4 g a0 r0 q0_0 q0_4 s0 ++ wA g q0_4 n1 s1)) := by
  refine ct_of rfl hg (by show _ ≤ _; exact Nat.le_of_ble_eq_true rfl) (fun K C X => ?_)
  show Zs K 0 0 (wX4 g a0 r0 q0_0 q0_4 s0 ++ wA g q0_4 n1 s1) [(0, .ref a0), (1, .ref a1), (2, .int p2)] 0 []
  unfold f_X4_isWord at h
  refine z_aload_n (pc := 0) (x := a0) C dX4_isWord_0 (i := 0) rfl rfl ?_
  refine z_get (pc := 1) (v := .int (s0.1 6)) C 0 dX4_isWord_1 fl_RX4_41 rfl rfl ?_
  refine z_iload_n (pc := 4) (x := p2) C dX4_isWord_4 (i := 2) rfl rfl ?_
  refine z_isub (pc := 5) C dX4_isWord_5 ?_
  refine z_aload_n (pc := 6) (x := a1) C dX4_isWord_6 (i := 1) rfl rfl ?_
  refine z_callVs (pc := 7) (As := []) (rest := [.int ((s0.1 6) - p2)]) C hs1 rfl dX4_isWord_7 ml_RX4_153 wv_J0_length_8abf5 (m_J0_length hg hs1) [0, 1] rfl rfl rfl rfl ⟨by decide, by decide⟩ (Nat.le_of_ble_eq_true rfl) ⟨by decide, by decide⟩ (ex_k C (cs' := 0) (ss' := 0) (wF := (wX4 g a0 r0 q0_0 q0_4 s0 ++ wA g q0_4 n1 s1)) [0, 1] rfl rfl ?_)
  refine z_icmp_eq (pc := 10) C dX4_isWord_10 (tgt := 15) (by decide) (fun hc => ?_) (fun hc => ?_)
  · replace h := (ite_e h).1 hc
    refine z_iconst (pc := 15) C dX4_isWord_15 ic_0 ?_
    refine z_istore_n (pc := 16) C dX4_isWord_16 (i := 3) rfl (by decide) (lv' := [(3, .int (0 : Int32)), (0, .ref a0), (1, .ref a1), (2, .int p2)]) rfl ?_
    refine z_lv (lv' := [(0, .ref a0), (1, .ref a1), (2, .int p2), (3, .int (0 : Int32))]) [1, 2, 3, 0] rfl ?_
    exact m_X4_isWord_17 (a0 := a0) (a1 := a1) (r0 := r0) (q0_0 := q0_0) (q0_4 := q0_4) hg hs1 C X N (0 : Int32) h
  · replace h := (ite_e h).2 hc
    refine z_iconst (pc := 13) C dX4_isWord_13 ic_0 ?_
    exact z_zret C X dX4_isWord_14 rfl (by rw [← Option.some.inj h]; exact ⟨rfl, rfl⟩) (by decide) (by decide)
def f_X4_readStatement_197 (N : Nat) (n1 : Nat) (s1 : (Nat → Int32))  (s0 : Ob) (s2 : Ob) : Option (Ob × Ob) := (ob (f_X4_skipSpaces N n1 s0 s1) fun x11 => (if (x11.1 1) = 0 then (if (x11.1 5) ≤ (x11.1 6) then (some (x11, s2)) else (ob (f_X4_signAt N n1 x11 s1 (x11.1 6)) fun x12 => (if x12 = (59 : Int32) then (some (x11, s2)) else (ob (f_X4_fail N x11 (1 : Int32) (x11.1 6)) fun x13 => (some (x13, s2)))))) else (some (x11, s2))))
theorem m_X4_readStatement_197 {K : Kt} {g : Gp} {a0 : Nat} {r0 : Nat → Nat} {q0_0 : Nat} {q0_4 : Nat} {r2 : Nat → Nat} {N : Nat} {n1 : Nat} {s1 : (Nat → Int32)} {res : Ob × Ob} (hg : Ok g) (C : Cx K g cX4_readStatement RX4 2 (zrm 5 108)) (X : Rx K (exR none (wX4 g a0 r0 q0_0 q0_4 res.1 ++ wA g q0_4 n1 s1 ++ wX5 g q0_0 r2 res.2)) 0 0 none) (s0 : Ob) (s2 : Ob) (h : f_X4_readStatement_197 N n1 s1 s0 s2 = some res) : Zs K 0 0 (wX4 g a0 r0 q0_0 q0_4 s0 ++ wA g q0_4 n1 s1 ++ wX5 g q0_0 r2 s2) [(0, .ref a0)] 197 [] := by
  unfold f_X4_readStatement_197 at h
  refine z_aload_n (pc := 197) (x := a0) C dX4_readStatement_197 (i := 0) rfl rfl ?_
  replace h := ob_e h
  obtain ⟨x11, hx11, h⟩ := h
  refine z_callV (pc := 198) (As := []) (rest := []) (wr := (wX5 g q0_0 r2 s2)) C dX4_readStatement_198 ml_RX4_70 wv_X4_skipSpaces (m_X4_skipSpaces (a0 := a0) (r0 := r0) (q0_0 := q0_0) (q0_4 := q0_4) hg hx11) [0, 1] [2, 3, 4, 5] rfl rfl ⟨by decide, by decide⟩ (Nat.le_of_ble_eq_true rfl) ⟨by decide, by decide⟩ rfl rfl rfl rfl rfl rfl rfl (by decide) (ex_k C (cs' := 0) (ss' := 0) (wF := (wX4 g a0 r0 q0_0 q0_4 x11 ++ wA g q0_4 n1 s1 ++ wX5 g q0_0 r2 s2)) [4, 5, 0, 1, 2, 3] rfl rfl ?_)
  refine z_aload_n (pc := 201) (x := a0) C dX4_readStatement_201 (i := 0) rfl rfl ?_
  refine z_get (pc := 202) (v := .int (x11.1 1)) C 0 dX4_readStatement_202 fl_RX4_26 rfl rfl ?_
  refine z_if_ne (pc := 205) C dX4_readStatement_205 (tgt := 241) (by decide) (fun hc => ?_) (fun hc => ?_)
  · replace h := (ite_e h).2 hc
    exact z_vret C X dX4_readStatement_241 (by rw [← Option.some.inj h]; exact ⟨rfl, rfl⟩) (by decide) (by decide)
  · replace h := (ite_e h).1 hc
    refine z_aload_n (pc := 208) (x := a0) C dX4_readStatement_208 (i := 0) rfl rfl ?_
    refine z_get (pc := 209) (v := .int (x11.1 6)) C 0 dX4_readStatement_209 fl_RX4_41 rfl rfl ?_
    refine z_aload_n (pc := 212) (x := a0) C dX4_readStatement_212 (i := 0) rfl rfl ?_
    refine z_get (pc := 213) (v := .int (x11.1 5)) C 0 dX4_readStatement_213 fl_RX4_38 rfl rfl ?_
    refine z_icmp_ge (pc := 216) C dX4_readStatement_216 (tgt := 241) (by decide) (fun hc => ?_) (fun hc => ?_)
    · replace h := (ite_e h).1 hc
      exact z_vret C X dX4_readStatement_241 (by rw [← Option.some.inj h]; exact ⟨rfl, rfl⟩) (by decide) (by decide)
    · replace h := (ite_e h).2 hc
      refine z_aload_n (pc := 219) (x := a0) C dX4_readStatement_219 (i := 0) rfl rfl ?_
      refine z_aload_n (pc := 220) (x := a0) C dX4_readStatement_220 (i := 0) rfl rfl ?_
      refine z_get (pc := 221) (v := .int (x11.1 6)) C 0 dX4_readStatement_221 fl_RX4_41 rfl rfl ?_
      replace h := ob_e h
      obtain ⟨x12, hx12, h⟩ := h
      refine z_callV (pc := 224) (As := [.int (x11.1 6)]) (rest := []) (wr := (wX5 g q0_0 r2 s2)) C dX4_readStatement_224 ml_RX4_120 wv_X4_signAt (m_X4_signAt (a0 := a0) (r0 := r0) (q0_0 := q0_0) (q0_4 := q0_4) hg hx12) [0, 1] [2, 3, 4, 5] rfl rfl ⟨by decide, by decide⟩ (Nat.le_of_ble_eq_true rfl) ⟨by decide, by decide⟩ rfl rfl rfl rfl rfl rfl rfl (by decide) (ex_k C (cs' := 0) (ss' := 0) (wF := (wX4 g a0 r0 q0_0 q0_4 x11 ++ wA g q0_4 n1 s1 ++ wX5 g q0_0 r2 s2)) [4, 5, 0, 1, 2, 3] rfl rfl ?_)
      refine z_bipush (pc := 227) C dX4_readStatement_227 bp_59 ?_
      refine z_icmp_eq (pc := 229) C dX4_readStatement_229 (tgt := 241) (by decide) (fun hc => ?_) (fun hc => ?_)
      · replace h := (ite_e h).1 hc
        exact z_vret C X dX4_readStatement_241 (by rw [← Option.some.inj h]; exact ⟨rfl, rfl⟩) (by decide) (by decide)
      · replace h := (ite_e h).2 hc
        refine z_aload_n (pc := 232) (x := a0) C dX4_readStatement_232 (i := 0) rfl rfl ?_
        refine z_iconst (pc := 233) C dX4_readStatement_233 ic_1 ?_
        refine z_aload_n (pc := 234) (x := a0) C dX4_readStatement_234 (i := 0) rfl rfl ?_
        refine z_get (pc := 235) (v := .int (x11.1 6)) C 0 dX4_readStatement_235 fl_RX4_41 rfl rfl ?_
        replace h := ob_e h
        obtain ⟨x13, hx13, h⟩ := h
        refine z_callV (pc := 238) (As := [.int (1 : Int32), .int (x11.1 6)]) (rest := []) (wr := (wA g q0_4 n1 s1 ++ wX5 g q0_0 r2 s2)) C dX4_readStatement_238 ml_RX4_62 wv_X4_fail (m_X4_fail (a0 := a0) (r0 := r0) (q0_0 := q0_0) (q0_4 := q0_4) hg hx13) [0] [1, 2, 3, 4, 5] rfl rfl ⟨by decide, by decide⟩ (Nat.le_of_ble_eq_true rfl) ⟨by decide, by decide⟩ rfl rfl rfl rfl rfl rfl rfl (by decide) (ex_k C (cs' := 0) (ss' := 0) (wF := (wX4 g a0 r0 q0_0 q0_4 x13 ++ wA g q0_4 n1 s1 ++ wX5 g q0_0 r2 s2)) [5, 0, 1, 2, 3, 4] rfl rfl ?_)
        exact z_vret C X dX4_readStatement_241 (by rw [← Option.some.inj h]; exact ⟨rfl, rfl⟩) (by decide) (by decide)
def f_X4_readStatement_37 (N : Nat) (n1 : Nat) (s1 : (Nat → Int32))  (v1 : Int32) (s0 : Ob) (s2 : Ob) : Option (Ob × Ob) := (if (s0.1 7) = 0 then (ob (f_X4_fail N s0 (1 : Int32) v1) fun x20 => (f_X4_readStatement_197 N n1 s1 x20 s2)) else (ob (f_X4_isWord N n1 4 (zst [100, 101, 99, 107]) s0 s1 v1) fun x4 => (if x4 = 0 then (ob (f_X4_isWord N n1 6 (zst [116, 111, 107, 101, 110, 115]) s0 s1 v1) fun x5 => (if x5 = 0 then (ob (f_X4_isWord N n1 5 (zst [108, 105, 118, 101, 115]) s0 s1 v1) fun x6 => (if x6 = 0 then (ob (f_X4_isWord N n1 5 (zst [99, 111, 108, 111, 114]) s0 s1 v1) fun x7 => (if x7 = 0 then (ob (f_X4_isWord N n1 4 (zst [114, 97, 110, 107]) s0 s1 v1) fun x8 => (if x8 = 0 then (ob (f_X4_isWord N n1 7 (zst [115, 104, 117, 102, 102, 108, 101]) s0 s1 v1) fun x9 => (if x9 = 0 then (ob (f_X4_fail N s0 (1 : Int32) v1) fun x10 => (f_X4_readStatement_197 N n1 s1 x10 s2)) else (ob (f_X4_readNumber N n1 s0 s1 (0 : Int32) (999999 : Int32)) fun x14 => (f_X4_readStatement_197 N n1 s1 (si x14.2 8 x14.1) s2)))) else (ob (f_X4_readTimes N n1 s0 s1 s2 (1 : Int32) (1 : Int32) (s2.1 1)) fun x15 => (f_X4_readStatement_197 N n1 s1 x15.1 x15.2)))) else (ob (f_X4_readTimes N n1 s0 s1 s2 (0 : Int32) (0 : Int32) ((s2.1 0) - (1 : Int32))) fun x16 => (f_X4_readStatement_197 N n1 s1 x16.1 x16.2)))) else (ob (f_X4_readNumber N n1 s0 s1 (1 : Int32) (5 : Int32)) fun x17 => (f_X4_readStatement_197 N n1 s1 x17.2 (si s2 6 x17.1))))) else (ob (f_X4_readTokens N n1 s0 s1 s2) fun x18 => (f_X4_readStatement_197 N n1 s1 x18.1 x18.2)))) else (ob (f_X4_readDeck N n1 s0 s1 s2) fun x19 => (f_X4_readStatement_197 N n1 s1 x19.1 x19.2)))))
theorem m_X4_readStatement_37 {K : Kt} {g : Gp} {a0 : Nat} {r0 : Nat → Nat} {q0_0 : Nat} {q0_4 : Nat} {r2 : Nat → Nat} {N : Nat} {n1 : Nat} {s1 : (Nat → Int32)} {res : Ob × Ob} (hg : Ok g) (C : Cx K g cX4_readStatement RX4 2 (zrm 5 108)) (X : Rx K (exR none (wX4 g a0 r0 q0_0 q0_4 res.1 ++ wA g q0_4 n1 s1 ++ wX5 g q0_0 r2 res.2)) 0 0 none) (v1 : Int32) (s0 : Ob) (s2 : Ob) (h : f_X4_readStatement_37 N n1 s1 v1 s0 s2 = some res) : Zs K 0 0 (wX4 g a0 r0 q0_0 q0_4 s0 ++ wA g q0_4 n1 s1 ++ wX5 g q0_0 r2 s2) [(0, .ref a0), (1, .int v1)] 37 [] := by
  unfold f_X4_readStatement_37 at h
  refine z_aload_n (pc := 37) (x := a0) C dX4_readStatement_37 (i := 0) rfl rfl ?_
  refine z_get (pc := 38) (v := .int (s0.1 7)) C 0 dX4_readStatement_38 fl_RX4_47 rfl rfl ?_
  refine z_if_ne (pc := 41) C dX4_readStatement_41 (tgt := 53) (by decide) (fun hc => ?_) (fun hc => ?_)
  · replace h := (ite_e h).2 hc
    refine z_aload_n (pc := 53) (x := a0) C dX4_readStatement_53 (i := 0) rfl rfl ?_
    refine z_ldcs (pc := 54) C dX4_readStatement_54 (str_RX4_85 hg).1 ?_
    refine z_iload_n (pc := 56) (x := v1) C dX4_readStatement_56 (i := 1) rfl rfl ?_
    replace h := ob_e h
    obtain ⟨x4, hx4, h⟩ := h
    refine z_callV (pc := 57) (As := [.ref (sad g RX4 85), .int v1]) (rest := []) (wr := (wX5 g q0_0 r2 s2)) C dX4_readStatement_57 ml_RX4_78 wv_X4_isWord (m_X4_isWord (a0 := a0) (a1 := (sad g RX4 85)) (r0 := r0) (q0_0 := q0_0) (q0_4 := q0_4) hg (str_RX4_85 hg).2 hx4) [0, 1] [2, 3, 4, 5] rfl rfl ⟨by decide, by decide⟩ (Nat.le_of_ble_eq_true rfl) ⟨by decide, by decide⟩ rfl rfl rfl rfl rfl rfl rfl (by decide) (ex_k C (cs' := 0) (ss' := 0) (wF := (wX4 g a0 r0 q0_0 q0_4 s0 ++ wA g q0_4 n1 s1 ++ wX5 g q0_0 r2 s2)) [4, 5, 0, 1, 2, 3] rfl rfl ?_)
    refine z_if_eq (pc := 60) C dX4_readStatement_60 (tgt := 70) (by decide) (fun hc => ?_) (fun hc => ?_)
    · replace h := (ite_e h).1 hc
      refine z_aload_n (pc := 70) (x := a0) C dX4_readStatement_70 (i := 0) rfl rfl ?_
      refine z_ldcs (pc := 71) C dX4_readStatement_71 (str_RX4_90 hg).1 ?_
      refine z_iload_n (pc := 73) (x := v1) C dX4_readStatement_73 (i := 1) rfl rfl ?_
      replace h := ob_e h
      obtain ⟨x5, hx5, h⟩ := h
      refine z_callV (pc := 74) (As := [.ref (sad g RX4 90), .int v1]) (rest := []) (wr := (wX5 g q0_0 r2 s2)) C dX4_readStatement_74 ml_RX4_78 wv_X4_isWord (m_X4_isWord (a0 := a0) (a1 := (sad g RX4 90)) (r0 := r0) (q0_0 := q0_0) (q0_4 := q0_4) hg (str_RX4_90 hg).2 hx5) [0, 1] [2, 3, 4, 5] rfl rfl ⟨by decide, by decide⟩ (Nat.le_of_ble_eq_true rfl) ⟨by decide, by decide⟩ rfl rfl rfl rfl rfl rfl rfl (by decide) (ex_k C (cs' := 0) (ss' := 0) (wF := (wX4 g a0 r0 q0_0 q0_4 s0 ++ wA g q0_4 n1 s1 ++ wX5 g q0_0 r2 s2)) [4, 5, 0, 1, 2, 3] rfl rfl ?_)
      refine z_if_eq (pc := 77) C dX4_readStatement_77 (tgt := 87) (by decide) (fun hc => ?_) (fun hc => ?_)
      · replace h := (ite_e h).1 hc
        refine z_aload_n (pc := 87) (x := a0) C dX4_readStatement_87 (i := 0) rfl rfl ?_
        refine z_ldcs (pc := 88) C dX4_readStatement_88 (str_RX4_95 hg).1 ?_
        refine z_iload_n (pc := 90) (x := v1) C dX4_readStatement_90 (i := 1) rfl rfl ?_
        replace h := ob_e h
        obtain ⟨x6, hx6, h⟩ := h
        refine z_callV (pc := 91) (As := [.ref (sad g RX4 95), .int v1]) (rest := []) (wr := (wX5 g q0_0 r2 s2)) C dX4_readStatement_91 ml_RX4_78 wv_X4_isWord (m_X4_isWord (a0 := a0) (a1 := (sad g RX4 95)) (r0 := r0) (q0_0 := q0_0) (q0_4 := q0_4) hg (str_RX4_95 hg).2 hx6) [0, 1] [2, 3, 4, 5] rfl rfl ⟨by decide, by decide⟩ (Nat.le_of_ble_eq_true rfl) ⟨by decide, by decide⟩ rfl rfl rfl rfl rfl rfl rfl (by decide) (ex_k C (cs' := 0) (ss' := 0) (wF := (wX4 g a0 r0 q0_0 q0_4 s0 ++ wA g q0_4 n1 s1 ++ wX5 g q0_0 r2 s2)) [4, 5, 0, 1, 2, 3] rfl rfl ?_)
        refine z_if_eq (pc := 94) C dX4_readStatement_94 (tgt := 113) (by decide) (fun hc => ?_) (fun hc => ?_)
        · replace h := (ite_e h).1 hc
          refine z_aload_n (pc := 113) (x := a0) C dX4_readStatement_113 (i := 0) rfl rfl ?_
          refine z_ldcs (pc := 114) C dX4_readStatement_114 (str_RX4_103 hg).1 ?_
          refine z_iload_n (pc := 116) (x := v1) C dX4_readStatement_116 (i := 1) rfl rfl ?_
          replace h := ob_e h
          obtain ⟨x7, hx7, h⟩ := h
          refine z_callV (pc := 117) (As := [.ref (sad g RX4 103), .int v1]) (rest := []) (wr := (wX5 g q0_0 r2 s2)) C dX4_readStatement_117 ml_RX4_78 wv_X4_isWord (m_X4_isWord (a0 := a0) (a1 := (sad g RX4 103)) (r0 := r0) (q0_0 := q0_0) (q0_4 := q0_4) hg (str_RX4_103 hg).2 hx7) [0, 1] [2, 3, 4, 5] rfl rfl ⟨by decide, by decide⟩ (Nat.le_of_ble_eq_true rfl) ⟨by decide, by decide⟩ rfl rfl rfl rfl rfl rfl rfl (by decide) (ex_k C (cs' := 0) (ss' := 0) (wF := (wX4 g a0 r0 q0_0 q0_4 s0 ++ wA g q0_4 n1 s1 ++ wX5 g q0_0 r2 s2)) [4, 5, 0, 1, 2, 3] rfl rfl ?_)
          refine z_if_eq (pc := 120) C dX4_readStatement_120 (tgt := 141) (by decide) (fun hc => ?_) (fun hc => ?_)
          · replace h := (ite_e h).1 hc
            refine z_aload_n (pc := 141) (x := a0) C dX4_readStatement_141 (i := 0) rfl rfl ?_
            refine z_ldcs (pc := 142) C dX4_readStatement_142 (str_RX4_112 hg).1 ?_
            refine z_iload_n (pc := 144) (x := v1) C dX4_readStatement_144 (i := 1) rfl rfl ?_
            replace h := ob_e h
            obtain ⟨x8, hx8, h⟩ := h
            refine z_callV (pc := 145) (As := [.ref (sad g RX4 112), .int v1]) (rest := []) (wr := (wX5 g q0_0 r2 s2)) C dX4_readStatement_145 ml_RX4_78 wv_X4_isWord (m_X4_isWord (a0 := a0) (a1 := (sad g RX4 112)) (r0 := r0) (q0_0 := q0_0) (q0_4 := q0_4) hg (str_RX4_112 hg).2 hx8) [0, 1] [2, 3, 4, 5] rfl rfl ⟨by decide, by decide⟩ (Nat.le_of_ble_eq_true rfl) ⟨by decide, by decide⟩ rfl rfl rfl rfl rfl rfl rfl (by decide) (ex_k C (cs' := 0) (ss' := 0) (wF := (wX4 g a0 r0 q0_0 q0_4 s0 ++ wA g q0_4 n1 s1 ++ wX5 g q0_0 r2 s2)) [4, 5, 0, 1, 2, 3] rfl rfl ?_)
            refine z_if_eq (pc := 148) C dX4_readStatement_148 (tgt := 167) (by decide) (fun hc => ?_) (fun hc => ?_)
            · replace h := (ite_e h).1 hc
              refine z_aload_n (pc := 167) (x := a0) C dX4_readStatement_167 (i := 0) rfl rfl ?_
              refine z_ldcs (pc := 168) C dX4_readStatement_168 (str_RX4_117 hg).1 ?_
              refine z_iload_n (pc := 170) (x := v1) C dX4_readStatement_170 (i := 1) rfl rfl ?_
              replace h := ob_e h
              obtain ⟨x9, hx9, h⟩ := h
              refine z_callV (pc := 171) (As := [.ref (sad g RX4 117), .int v1]) (rest := []) (wr := (wX5 g q0_0 r2 s2)) C dX4_readStatement_171 ml_RX4_78 wv_X4_isWord (m_X4_isWord (a0 := a0) (a1 := (sad g RX4 117)) (r0 := r0) (q0_0 := q0_0) (q0_4 := q0_4) hg (str_RX4_117 hg).2 hx9) [0, 1] [2, 3, 4, 5] rfl rfl ⟨by decide, by decide⟩ (Nat.le_of_ble_eq_true rfl) ⟨by decide, by decide⟩ rfl rfl rfl rfl rfl rfl rfl (by decide) (ex_k C (cs' := 0) (ss' := 0) (wF := (wX4 g a0 r0 q0_0 q0_4 s0 ++ wA g q0_4 n1 s1 ++ wX5 g q0_0 r2 s2)) [4, 5, 0, 1, 2, 3] rfl rfl ?_)
              refine z_if_eq (pc := 174) C dX4_readStatement_174 (tgt := 191) (by decide) (fun hc => ?_) (fun hc => ?_)
              · replace h := (ite_e h).1 hc
                refine z_aload_n (pc := 191) (x := a0) C dX4_readStatement_191 (i := 0) rfl rfl ?_
                refine z_iconst (pc := 192) C dX4_readStatement_192 ic_1 ?_
                refine z_iload_n (pc := 193) (x := v1) C dX4_readStatement_193 (i := 1) rfl rfl ?_
                replace h := ob_e h
                obtain ⟨x10, hx10, h⟩ := h
                refine z_callV (pc := 194) (As := [.int (1 : Int32), .int v1]) (rest := []) (wr := (wA g q0_4 n1 s1 ++ wX5 g q0_0 r2 s2)) C dX4_readStatement_194 ml_RX4_62 wv_X4_fail (m_X4_fail (a0 := a0) (r0 := r0) (q0_0 := q0_0) (q0_4 := q0_4) hg hx10) [0] [1, 2, 3, 4, 5] rfl rfl ⟨by decide, by decide⟩ (Nat.le_of_ble_eq_true rfl) ⟨by decide, by decide⟩ rfl rfl rfl rfl rfl rfl rfl (by decide) (ex_k C (cs' := 0) (ss' := 0) (wF := (wX4 g a0 r0 q0_0 q0_4 x10 ++ wA g q0_4 n1 s1 ++ wX5 g q0_0 r2 s2)) [5, 0, 1, 2, 3, 4] rfl rfl ?_)
                refine z_lv (lv' := [(0, .ref a0)]) [0] rfl ?_
                exact m_X4_readStatement_197 (a0 := a0) (r0 := r0) (q0_0 := q0_0) (q0_4 := q0_4) (r2 := r2) hg C X x10 s2 h
              · replace h := (ite_e h).2 hc
                refine z_aload_n (pc := 177) (x := a0) C dX4_readStatement_177 (i := 0) rfl rfl ?_
                refine z_aload_n (pc := 178) (x := a0) C dX4_readStatement_178 (i := 0) rfl rfl ?_
                refine z_iconst (pc := 179) C dX4_readStatement_179 ic_0 ?_
                refine z_ldc (pc := 180) C dX4_readStatement_180 ki_RX4_119 ?_
                replace h := ob_e h
                obtain ⟨x14, hx14, h⟩ := h
                refine z_callV (pc := 182) (As := [.int (0 : Int32), .int (999999 : Int32)]) (rest := [.ref a0]) (wr := (wX5 g q0_0 r2 s2)) C dX4_readStatement_182 ml_RX4_97 wv_X4_readNumber (m_X4_readNumber (a0 := a0) (r0 := r0) (q0_0 := q0_0) (q0_4 := q0_4) hg hx14) [0, 1] [2, 3, 4, 5] rfl rfl ⟨by decide, by decide⟩ (Nat.le_of_ble_eq_true rfl) ⟨by decide, by decide⟩ rfl rfl rfl rfl rfl rfl rfl (by decide) (ex_k C (cs' := 0) (ss' := 0) (wF := (wX4 g a0 r0 q0_0 q0_4 x14.2 ++ wA g q0_4 n1 s1 ++ wX5 g q0_0 r2 s2)) [4, 5, 0, 1, 2, 3] rfl rfl ?_)
                refine z_put (pc := 185) C 0 dX4_readStatement_185 fp_RX4_44 rfl rfl rfl (zlt_b rfl) (ws' := (wX4 g a0 r0 q0_0 q0_4 (si x14.2 8 x14.1) ++ wA g q0_4 n1 s1 ++ wX5 g q0_0 r2 s2)) rfl ?_
                refine z_goto (pc := 188) C dX4_readStatement_188 (tgt := 197) (by decide) ?_
                refine z_lv (lv' := [(0, .ref a0)]) [0] rfl ?_
                exact m_X4_readStatement_197 (a0 := a0) (r0 := r0) (q0_0 := q0_0) (q0_4 := q0_4) (r2 := r2) hg C X (si x14.2 8 x14.1) s2 h
            · replace h := (ite_e h).2 hc
              refine z_aload_n (pc := 151) (x := a0) C dX4_readStatement_151 (i := 0) rfl rfl ?_
              refine z_iconst (pc := 152) C dX4_readStatement_152 ic_1 ?_
              refine z_iconst (pc := 153) C dX4_readStatement_153 ic_1 ?_
              refine z_aload_n (pc := 154) (x := a0) C dX4_readStatement_154 (i := 0) rfl rfl ?_
              refine z_get (pc := 155) (v := .ref q0_0) C 0 dX4_readStatement_155 fl_RX4_12 rfl rfl ?_
              refine z_get (pc := 158) (v := .int (s2.1 1)) C 2 dX4_readStatement_158 fl_RX4_114 rfl rfl ?_
              replace h := ob_e h
              obtain ⟨x15, hx15, h⟩ := h
              refine z_callV (pc := 161) (As := [.int (1 : Int32), .int (1 : Int32), .int (s2.1 1)]) (rest := []) (wr := ([] : va_W)) C dX4_readStatement_161 ml_RX4_108 wv_X4_readTimes (m_X4_readTimes (a0 := a0) (r0 := r0) (q0_0 := q0_0) (q0_4 := q0_4) (r2 := r2) hg hx15) [0, 1, 2, 3, 4, 5] [] rfl rfl ⟨by decide, by decide⟩ (Nat.le_of_ble_eq_true rfl) ⟨by decide, by decide⟩ rfl rfl rfl rfl rfl rfl rfl (by decide) (ex_k C (cs' := 0) (ss' := 0) (wF := (wX4 g a0 r0 q0_0 q0_4 x15.1 ++ wA g q0_4 n1 s1 ++ wX5 g q0_0 r2 x15.2)) [0, 1, 2, 3, 4, 5] rfl rfl ?_)
              refine z_goto (pc := 164) C dX4_readStatement_164 (tgt := 197) (by decide) ?_
              refine z_lv (lv' := [(0, .ref a0)]) [0] rfl ?_
              exact m_X4_readStatement_197 (a0 := a0) (r0 := r0) (q0_0 := q0_0) (q0_4 := q0_4) (r2 := r2) hg C X x15.1 x15.2 h
          · replace h := (ite_e h).2 hc
            refine z_aload_n (pc := 123) (x := a0) C dX4_readStatement_123 (i := 0) rfl rfl ?_
            refine z_iconst (pc := 124) C dX4_readStatement_124 ic_0 ?_
            refine z_iconst (pc := 125) C dX4_readStatement_125 ic_0 ?_
            refine z_aload_n (pc := 126) (x := a0) C dX4_readStatement_126 (i := 0) rfl rfl ?_
            refine z_get (pc := 127) (v := .ref q0_0) C 0 dX4_readStatement_127 fl_RX4_12 rfl rfl ?_
            refine z_get (pc := 130) (v := .int (s2.1 0)) C 2 dX4_readStatement_130 fl_RX4_105 rfl rfl ?_
            refine z_iconst (pc := 133) C dX4_readStatement_133 ic_1 ?_
            refine z_isub (pc := 134) C dX4_readStatement_134 ?_
            replace h := ob_e h
            obtain ⟨x16, hx16, h⟩ := h
            refine z_callV (pc := 135) (As := [.int (0 : Int32), .int (0 : Int32), .int ((s2.1 0) - (1 : Int32))]) (rest := []) (wr := ([] : va_W)) C dX4_readStatement_135 ml_RX4_108 wv_X4_readTimes (m_X4_readTimes (a0 := a0) (r0 := r0) (q0_0 := q0_0) (q0_4 := q0_4) (r2 := r2) hg hx16) [0, 1, 2, 3, 4, 5] [] rfl rfl ⟨by decide, by decide⟩ (Nat.le_of_ble_eq_true rfl) ⟨by decide, by decide⟩ rfl rfl rfl rfl rfl rfl rfl (by decide) (ex_k C (cs' := 0) (ss' := 0) (wF := (wX4 g a0 r0 q0_0 q0_4 x16.1 ++ wA g q0_4 n1 s1 ++ wX5 g q0_0 r2 x16.2)) [0, 1, 2, 3, 4, 5] rfl rfl ?_)
            refine z_goto (pc := 138) C dX4_readStatement_138 (tgt := 197) (by decide) ?_
            refine z_lv (lv' := [(0, .ref a0)]) [0] rfl ?_
            exact m_X4_readStatement_197 (a0 := a0) (r0 := r0) (q0_0 := q0_0) (q0_4 := q0_4) (r2 := r2) hg C X x16.1 x16.2 h
        · replace h := (ite_e h).2 hc
          refine z_aload_n (pc := 97) (x := a0) C dX4_readStatement_97 (i := 0) rfl rfl ?_
          refine z_get (pc := 98) (v := .ref q0_0) C 0 dX4_readStatement_98 fl_RX4_12 rfl rfl ?_
          refine z_aload_n (pc := 101) (x := a0) C dX4_readStatement_101 (i := 0) rfl rfl ?_
          refine z_iconst (pc := 102) C dX4_readStatement_102 ic_1 ?_
          refine z_iconst (pc := 103) C dX4_readStatement_103 ic_5 ?_
          replace h := ob_e h
          obtain ⟨x17, hx17, h⟩ := h
          refine z_callV (pc := 104) (As := [.int (1 : Int32), .int (5 : Int32)]) (rest := [.ref q0_0]) (wr := (wX5 g q0_0 r2 s2)) C dX4_readStatement_104 ml_RX4_97 wv_X4_readNumber (m_X4_readNumber (a0 := a0) (r0 := r0) (q0_0 := q0_0) (q0_4 := q0_4) hg hx17) [0, 1] [2, 3, 4, 5] rfl rfl ⟨by decide, by decide⟩ (Nat.le_of_ble_eq_true rfl) ⟨by decide, by decide⟩ rfl rfl rfl rfl rfl rfl rfl (by decide) (ex_k C (cs' := 0) (ss' := 0) (wF := (wX4 g a0 r0 q0_0 q0_4 x17.2 ++ wA g q0_4 n1 s1 ++ wX5 g q0_0 r2 s2)) [4, 5, 0, 1, 2, 3] rfl rfl ?_)
          refine z_put (pc := 107) C 2 dX4_readStatement_107 fp_RX4_100 rfl rfl rfl (zlt_b rfl) (ws' := (wX4 g a0 r0 q0_0 q0_4 x17.2 ++ wA g q0_4 n1 s1 ++ wX5 g q0_0 r2 (si s2 6 x17.1))) rfl ?_
          refine z_goto (pc := 110) C dX4_readStatement_110 (tgt := 197) (by decide) ?_
          refine z_lv (lv' := [(0, .ref a0)]) [0] rfl ?_
          exact m_X4_readStatement_197 (a0 := a0) (r0 := r0) (q0_0 := q0_0) (q0_4 := q0_4) (r2 := r2) hg C X x17.2 (si s2 6 x17.1) h
      · replace h := (ite_e h).2 hc
        refine z_aload_n (pc := 80) (x := a0) C dX4_readStatement_80 (i := 0) rfl rfl ?_
        replace h := ob_e h
        obtain ⟨x18, hx18, h⟩ := h
        refine z_callV (pc := 81) (As := []) (rest := []) (wr := ([] : va_W)) C dX4_readStatement_81 ml_RX4_92 wv_X4_readTokens (m_X4_readTokens (a0 := a0) (r0 := r0) (q0_0 := q0_0) (q0_4 := q0_4) (r2 := r2) hg hx18) [0, 1, 2, 3, 4, 5] [] rfl rfl ⟨by decide, by decide⟩ (Nat.le_of_ble_eq_true rfl) ⟨by decide, by decide⟩ rfl rfl rfl rfl rfl rfl rfl (by decide) (ex_k C (cs' := 0) (ss' := 0) (wF := (wX4 g a0 r0 q0_0 q0_4 x18.1 ++ wA g q0_4 n1 s1 ++ wX5 g q0_0 r2 x18.2)) [0, 1, 2, 3, 4, 5] rfl rfl ?_)
        refine z_goto (pc := 84) C dX4_readStatement_84 (tgt := 197) (by decide) ?_
        refine z_lv (lv' := [(0, .ref a0)]) [0] rfl ?_
        exact m_X4_readStatement_197 (a0 := a0) (r0 := r0) (q0_0 := q0_0) (q0_4 := q0_4) (r2 := r2) hg C X x18.1 x18.2 h
    · replace h := (ite_e h).2 hc
      refine z_aload_n (pc := 63) (x := a0) C dX4_readStatement_63 (i := 0) rfl rfl ?_
      replace h := ob_e h
      obtain ⟨x19, hx19, h⟩ := h
      refine z_callV (pc := 64) (As := []) (rest := []) (wr := ([] : va_W)) C dX4_readStatement_64 ml_RX4_87 wv_X4_readDeck (m_X4_readDeck (a0 := a0) (r0 := r0) (q0_0 := q0_0) (q0_4 := q0_4) (r2 := r2) hg hx19) [0, 1, 2, 3, 4, 5] [] rfl rfl ⟨by decide, by decide⟩ (Nat.le_of_ble_eq_true rfl) ⟨by decide, by decide⟩ rfl rfl rfl rfl rfl rfl rfl (by decide) (ex_k C (cs' := 0) (ss' := 0) (wF := (wX4 g a0 r0 q0_0 q0_4 x19.1 ++ wA g q0_4 n1 s1 ++ wX5 g q0_0 r2 x19.2)) [0, 1, 2, 3, 4, 5] rfl rfl ?_)
      refine z_goto (pc := 67) C dX4_readStatement_67 (tgt := 197) (by decide) ?_
      refine z_lv (lv' := [(0, .ref a0)]) [0] rfl ?_
      exact m_X4_readStatement_197 (a0 := a0) (r0 := r0) (q0_0 := q0_0) (q0_4 := q0_4) (r2 := r2) hg C X x19.1 x19.2 h
  · replace h := (ite_e h).1 hc
    refine z_aload_n (pc := 44) (x := a0) C dX4_readStatement_44 (i := 0) rfl rfl ?_
    refine z_iconst (pc := 45) C dX4_readStatement_45 ic_1 ?_
    refine z_iload_n (pc := 46) (x := v1) C dX4_readStatement_46 (i := 1) rfl rfl ?_
    replace h := ob_e h
    obtain ⟨x20, hx20, h⟩ := h
    refine z_callV (pc := 47) (As := [.int (1 : Int32), .int v1]) (rest := []) (wr := (wA g q0_4 n1 s1 ++ wX5 g q0_0 r2 s2)) C dX4_readStatement_47 ml_RX4_62 wv_X4_fail (m_X4_fail (a0 := a0) (r0 := r0) (q0_0 := q0_0) (q0_4 := q0_4) hg hx20) [0] [1, 2, 3, 4, 5] rfl rfl ⟨by decide, by decide⟩ (Nat.le_of_ble_eq_true rfl) ⟨by decide, by decide⟩ rfl rfl rfl rfl rfl rfl rfl (by decide) (ex_k C (cs' := 0) (ss' := 0) (wF := (wX4 g a0 r0 q0_0 q0_4 x20 ++ wA g q0_4 n1 s1 ++ wX5 g q0_0 r2 s2)) [5, 0, 1, 2, 3, 4] rfl rfl ?_)
    refine z_goto (pc := 50) C dX4_readStatement_50 (tgt := 197) (by decide) ?_
    refine z_lv (lv' := [(0, .ref a0)]) [0] rfl ?_
    exact m_X4_readStatement_197 (a0 := a0) (r0 := r0) (q0_0 := q0_0) (q0_4 := q0_4) (r2 := r2) hg C X x20 s2 h
def f_X4_readStatement (N : Nat) (n1 : Nat) (s0 : Ob) (s1 : (Nat → Int32)) (s2 : Ob) : Option (Ob × Ob) := (ob (f_X4_skipSpaces N n1 s0 s1) fun x1 => (ob (f_X4_skipLetters N n1 x1 s1) fun x2 => (ob (f_X4_isWord N n1 4 (zst [103, 97, 109, 101]) x2 s1 (x1.1 6)) fun x3 => (if x3 = 0 then (f_X4_readStatement_37 N n1 s1 (x1.1 6) x2 s2) else (if (x2.1 7) = 0 then (ob (f_X4_readGame N n1 x2 s1 s2) fun x21 => (f_X4_readStatement_197 N n1 s1 x21.1 x21.2)) else (f_X4_readStatement_37 N n1 s1 (x1.1 6) x2 s2))))))
theorem m_X4_readStatement {g : Gp} {a0 : Nat} {r0 : Nat → Nat} {q0_0 : Nat} {q0_4 : Nat} {r2 : Nat → Nat} {N : Nat} {n1 : Nat} {s0 : Ob} {s1 : (Nat → Int32)} {s2 : Ob} {res : Ob × Ob} (hg : Ok g) (h : f_X4_readStatement N n1 s0 s1 s2 = some res) : Ct g yX4_readStatement cX4_readStatement 2 none (zrm 5 108) [.ref a0] (wX4 g a0 r0 q0_0 q0_4 s0 ++ wA g q0_4 n1 s1 ++ wX5 g q0_0 r2 s2) (exR none (wX4 g a0 r0 q0_0 q0_4 res.1 ++ wA g q0_4 n1 s1 ++ wX5 g q0_0 r2 res.2)) := by
  refine ct_of rfl hg (by show _ ≤ _; exact Nat.le_of_ble_eq_true rfl) (fun K C X => ?_)
  show Zs K 0 0 (wX4 g a0 r0 q0_0 q0_4 s0 ++ wA g q0_4 n1 s1 ++ wX5 g q0_0 r2 s2) [(0, .ref a0)] 0 []
  unfold f_X4_readStatement at h
  refine z_aload_n (pc := 0) (x := a0) C dX4_readStatement_0 (i := 0) rfl rfl ?_
  replace h := ob_e h
  obtain ⟨x1, hx1, h⟩ := h
  refine z_callV (pc := 1) (As := []) (rest := []) (wr := (wX5 g q0_0 r2 s2)) C dX4_readStatement_1 ml_RX4_70 wv_X4_skipSpaces (m_X4_skipSpaces (a0 := a0) (r0 := r0) (q0_0 := q0_0) (q0_4 := q0_4) hg hx1) [0, 1] [2, 3, 4, 5] rfl rfl ⟨by decide, by decide⟩ (Nat.le_of_ble_eq_true rfl) ⟨by decide, by decide⟩ rfl rfl rfl rfl rfl rfl rfl (by decide) (ex_k C (cs' := 0) (ss' := 0) (wF := (wX4 g a0 r0 q0_0 q0_4 x1 ++ wA g q0_4 n1 s1 ++ wX5 g q0_0 r2 s2)) [4, 5, 0, 1, 2, 3] rfl rfl ?_)
  refine z_aload_n (pc := 4) (x := a0) C dX4_readStatement_4 (i := 0) rfl rfl ?_
  refine z_get (pc := 5) (v := .int (x1.1 6)) C 0 dX4_readStatement_5 fl_RX4_41 rfl rfl ?_
  refine z_istore_n (pc := 8) C dX4_readStatement_8 (i := 1) rfl (by decide) (lv' := [(1, .int (x1.1 6)), (0, .ref a0)]) rfl ?_
  refine z_aload_n (pc := 9) (x := a0) C dX4_readStatement_9 (i := 0) rfl rfl ?_
  replace h := ob_e h
  obtain ⟨x2, hx2, h⟩ := h
  refine z_callV (pc := 10) (As := []) (rest := []) (wr := (wX5 g q0_0 r2 s2)) C dX4_readStatement_10 ml_RX4_73 wv_X4_skipLetters (m_X4_skipLetters (a0 := a0) (r0 := r0) (q0_0 := q0_0) (q0_4 := q0_4) hg hx2) [0, 1] [2, 3, 4, 5] rfl rfl ⟨by decide, by decide⟩ (Nat.le_of_ble_eq_true rfl) ⟨by decide, by decide⟩ rfl rfl rfl rfl rfl rfl rfl (by decide) (ex_k C (cs' := 0) (ss' := 0) (wF := (wX4 g a0 r0 q0_0 q0_4 x2 ++ wA g q0_4 n1 s1 ++ wX5 g q0_0 r2 s2)) [4, 5, 0, 1, 2, 3] rfl rfl ?_)
  refine z_aload_n (pc := 13) (x := a0) C dX4_readStatement_13 (i := 0) rfl rfl ?_
  refine z_ldcs (pc := 14) C dX4_readStatement_14 (str_RX4_76 hg).1 ?_
  refine z_iload_n (pc := 16) (x := (x1.1 6)) C dX4_readStatement_16 (i := 1) rfl rfl ?_
  replace h := ob_e h
  obtain ⟨x3, hx3, h⟩ := h
  refine z_callV (pc := 17) (As := [.ref (sad g RX4 76), .int (x1.1 6)]) (rest := []) (wr := (wX5 g q0_0 r2 s2)) C dX4_readStatement_17 ml_RX4_78 wv_X4_isWord (m_X4_isWord (a0 := a0) (a1 := (sad g RX4 76)) (r0 := r0) (q0_0 := q0_0) (q0_4 := q0_4) hg (str_RX4_76 hg).2 hx3) [0, 1] [2, 3, 4, 5] rfl rfl ⟨by decide, by decide⟩ (Nat.le_of_ble_eq_true rfl) ⟨by decide, by decide⟩ rfl rfl rfl rfl rfl rfl rfl (by decide) (ex_k C (cs' := 0) (ss' := 0) (wF := (wX4 g a0 r0 q0_0 q0_4 x2 ++ wA g q0_4 n1 s1 ++ wX5 g q0_0 r2 s2)) [4, 5, 0, 1, 2, 3] rfl rfl ?_)
  refine z_if_eq (pc := 20) C dX4_readStatement_20 (tgt := 37) (by decide) (fun hc => ?_) (fun hc => ?_)
  · replace h := (ite_e h).1 hc
    refine z_lv (lv' := [(0, .ref a0), (1, .int (x1.1 6))]) [1, 0] rfl ?_
    exact m_X4_readStatement_37 (a0 := a0) (r0 := r0) (q0_0 := q0_0) (q0_4 := q0_4) (r2 := r2) hg C X (x1.1 6) x2 s2 h
  · replace h := (ite_e h).2 hc
    refine z_aload_n (pc := 23) (x := a0) C dX4_readStatement_23 (i := 0) rfl rfl ?_
    refine z_get (pc := 24) (v := .int (x2.1 7)) C 0 dX4_readStatement_24 fl_RX4_47 rfl rfl ?_
    refine z_if_ne (pc := 27) C dX4_readStatement_27 (tgt := 37) (by decide) (fun hc => ?_) (fun hc => ?_)
    · replace h := (ite_e h).2 hc
      refine z_lv (lv' := [(0, .ref a0), (1, .int (x1.1 6))]) [1, 0] rfl ?_
      exact m_X4_readStatement_37 (a0 := a0) (r0 := r0) (q0_0 := q0_0) (q0_4 := q0_4) (r2 := r2) hg C X (x1.1 6) x2 s2 h
    · replace h := (ite_e h).1 hc
      refine z_aload_n (pc := 30) (x := a0) C dX4_readStatement_30 (i := 0) rfl rfl ?_
      replace h := ob_e h
      obtain ⟨x21, hx21, h⟩ := h
      refine z_callV (pc := 31) (As := []) (rest := []) (wr := ([] : va_W)) C dX4_readStatement_31 ml_RX4_82 wv_X4_readGame (m_X4_readGame (a0 := a0) (r0 := r0) (q0_0 := q0_0) (q0_4 := q0_4) (r2 := r2) hg hx21) [0, 1, 2, 3, 4, 5] [] rfl rfl ⟨by decide, by decide⟩ (Nat.le_of_ble_eq_true rfl) ⟨by decide, by decide⟩ rfl rfl rfl rfl rfl rfl rfl (by decide) (ex_k C (cs' := 0) (ss' := 0) (wF := (wX4 g a0 r0 q0_0 q0_4 x21.1 ++ wA g q0_4 n1 s1 ++ wX5 g q0_0 r2 x21.2)) [0, 1, 2, 3, 4, 5] rfl rfl ?_)
      refine z_goto (pc := 34) C dX4_readStatement_34 (tgt := 197) (by decide) ?_
      refine z_lv (lv' := [(0, .ref a0)]) [1] rfl ?_
      exact m_X4_readStatement_197 (a0 := a0) (r0 := r0) (q0_0 := q0_0) (q0_4 := q0_4) (r2 := r2) hg C X x21.1 x21.2 h
def F_X8_isWord_24 (N : Nat) (l1 : Nat) (b1 : Nat → Int32) (s0 : Ob)  (k24 : Int32 → Int32 → Option (Int32)) (v2 : Int32) (v3 : Int32) : Option (Int32) := (if v2 = 0 then (chk (zisB v2) (some v2)) else (if (Int32.ofNat l1) ≤ v3 then (chk (zisB v2) (some v2)) else (chk (inb ((s0.1 11) + v3) 600) (chk (inb v3 l1) (if ((s0.2.2.1 8) (((s0.1 11) + v3)).toNatClampNeg) = (zch (b1 (v3).toNatClampNeg)) then (k24 (1 : Int32) (v3 + (1 : Int32))) else (k24 (0 : Int32) (v3 + (1 : Int32))))))))
def f_X8_isWord_24 (N : Nat) (l1 : Nat) (b1 : Nat → Int32) (s0 : Ob)  : Nat → Int32 → Int32 → Option (Int32) := zlp (fun _ _ => none) (F_X8_isWord_24 N l1 b1 s0)
theorem m_X8_isWord_24 {K : Kt} {g : Gp} {a0 : Nat} {a1 : Nat} {r0 : Nat → Nat} {N : Nat} {l1 : Nat} {b1 : Nat → Int32} {s0 : Ob} {res : Int32} (hg : Ok g) (hs1 : Sl g a1 l1 b1) (C : Cx K g cX8_isWord RX8 4 (zrm 4 85)) (X : Rx K (exR (some (.int res)) (wX8 g a0 r0 s0)) 0 0 (some .boolean)) : ∀ (n : Nat) (v2 : Int32) (v3 : Int32), f_X8_isWord_24 N l1 b1 s0 n v2 v3 = some res → Zs K 0 0 (wX8 g a0 r0 s0) [(0, .ref a0), (1, .ref a1), (2, .int v2), (3, .int v3)] 24 [] := by
  intro n
  induction n with
  | zero => intro v2 v3 h; exact nomatch (show (none : Option (Int32)) = some res from h)
  | succ n hk24 =>
    intro v2 v3 h
    replace h : F_X8_isWord_24 N l1 b1 s0 (f_X8_isWord_24 N l1 b1 s0 n) v2 v3 = some res := h
    unfold F_X8_isWord_24 at h
    refine z_iload_n (pc := 24) (x := v2) C dX8_isWord_24 (i := 2) rfl rfl ?_
    refine z_if_eq (pc := 25) C dX8_isWord_25 (tgt := 67) (by decide) (fun hc => ?_) (fun hc => ?_)
    · replace h := (ite_e h).1 hc
      refine z_iload_n (pc := 67) (x := v2) C dX8_isWord_67 (i := 2) rfl rfl ?_
      replace h := chk_e h
      obtain ⟨hb1, h⟩ := h
      exact z_zret C X dX8_isWord_68 (zisB_nar hb1) (by rw [← Option.some.inj h]; exact ⟨rfl, rfl⟩) (by decide) (by decide)
    · replace h := (ite_e h).2 hc
      refine z_iload_n (pc := 28) (x := v3) C dX8_isWord_28 (i := 3) rfl rfl ?_
      refine z_aload_n (pc := 29) (x := a1) C dX8_isWord_29 (i := 1) rfl rfl ?_
      refine z_callVs (pc := 30) (As := []) (rest := [.int v3]) C hs1 rfl dX8_isWord_30 ml_RX8_105 wv_J0_length_8abf5 (m_J0_length hg hs1) [0, 1, 2, 3, 4, 5, 6, 7, 8, 9, 10, 11, 12, 13, 14] rfl rfl rfl rfl ⟨by decide, by decide⟩ (Nat.le_of_ble_eq_true rfl) ⟨by decide, by decide⟩ (ex_k C (cs' := 0) (ss' := 0) (wF := (wX8 g a0 r0 s0)) [0, 1, 2, 3, 4, 5, 6, 7, 8, 9, 10, 11, 12, 13, 14] rfl rfl ?_)
      refine z_icmp_ge (pc := 33) C dX8_isWord_33 (tgt := 67) (by decide) (fun hc => ?_) (fun hc => ?_)
      · replace h := (ite_e h).1 hc
        refine z_iload_n (pc := 67) (x := v2) C dX8_isWord_67 (i := 2) rfl rfl ?_
        replace h := chk_e h
        obtain ⟨hb2, h⟩ := h
        exact z_zret C X dX8_isWord_68 (zisB_nar hb2) (by rw [← Option.some.inj h]; exact ⟨rfl, rfl⟩) (by decide) (by decide)
      · replace h := (ite_e h).2 hc
        refine z_aload_n (pc := 36) (x := a0) C dX8_isWord_36 (i := 0) rfl rfl ?_
        refine z_get (pc := 37) (v := .ref (r0 8)) C 0 dX8_isWord_37 fl_RX8_29 rfl rfl ?_
        refine z_aload_n (pc := 40) (x := a0) C dX8_isWord_40 (i := 0) rfl rfl ?_
        refine z_get (pc := 41) (v := .int (s0.1 11)) C 0 dX8_isWord_41 fl_RX8_93 rfl rfl ?_
        refine z_iload_n (pc := 44) (x := v3) C dX8_isWord_44 (i := 3) rfl rfl ?_
        refine z_iadd (pc := 45) C dX8_isWord_45 ?_
        replace h := chk_e h
        obtain ⟨hb3, h⟩ := h
        refine z_bald (pc := 46) C 7 dX8_isWord_46 rfl hb3 ?_
        refine z_aload_n (pc := 47) (x := a1) C dX8_isWord_47 (i := 1) rfl rfl ?_
        refine z_iload_n (pc := 48) (x := v3) C dX8_isWord_48 (i := 3) rfl rfl ?_
        replace h := chk_e h
        obtain ⟨hb4, h⟩ := h
        refine z_callVs (pc := 49) (As := [.int v3]) (rest := [.int ((s0.2.2.1 8) (((s0.1 11) + v3)).toNatClampNeg)]) C hs1 rfl dX8_isWord_49 ml_RX8_109 wv_J0_charAt_5068e (m_J0_charAt hg hs1 hb4) [0, 1, 2, 3, 4, 5, 6, 7, 8, 9, 10, 11, 12, 13, 14] rfl rfl rfl rfl ⟨by decide, by decide⟩ (Nat.le_of_ble_eq_true rfl) ⟨by decide, by decide⟩ (ex_k C (cs' := 0) (ss' := 0) (wF := (wX8 g a0 r0 s0)) [0, 1, 2, 3, 4, 5, 6, 7, 8, 9, 10, 11, 12, 13, 14] rfl rfl ?_)
        refine z_icmp_ne (pc := 52) C dX8_isWord_52 (tgt := 59) (by decide) (fun hc => ?_) (fun hc => ?_)
        · replace h := (ite_e h).2 hc
          refine z_iconst (pc := 59) C dX8_isWord_59 ic_0 ?_
          refine z_istore_n (pc := 60) C dX8_isWord_60 (i := 2) rfl (by decide) (lv' := [(2, .int (0 : Int32)), (0, .ref a0), (1, .ref a1), (3, .int v3)]) rfl ?_
          refine z_iinc (pc := 61) C dX8_isWord_61 rfl (inc_e 1 (1 : Int32) ic_1 v3) (by decide) (lv' := [(3, .int (v3 + (1 : Int32))), (2, .int (0 : Int32)), (0, .ref a0), (1, .ref a1)]) rfl ?_
          refine z_goto (pc := 64) C dX8_isWord_64 (tgt := 24) (by decide) ?_
          refine z_lv (lv' := [(0, .ref a0), (1, .ref a1), (2, .int (0 : Int32)), (3, .int (v3 + (1 : Int32)))]) [2, 3, 1, 0] rfl ?_
          exact hk24 (0 : Int32) (v3 + (1 : Int32)) h
        · replace h := (ite_e h).1 hc
          refine z_iconst (pc := 55) C dX8_isWord_55 ic_1 ?_
          refine z_goto (pc := 56) C dX8_isWord_56 (tgt := 60) (by decide) ?_
          refine z_istore_n (pc := 60) C dX8_isWord_60 (i := 2) rfl (by decide) (lv' := [(2, .int (1 : Int32)), (0, .ref a0), (1, .ref a1), (3, .int v3)]) rfl ?_
          refine z_iinc (pc := 61) C dX8_isWord_61 rfl (inc_e 1 (1 : Int32) ic_1 v3) (by decide) (lv' := [(3, .int (v3 + (1 : Int32))), (2, .int (1 : Int32)), (0, .ref a0), (1, .ref a1)]) rfl ?_
          refine z_goto (pc := 64) C dX8_isWord_64 (tgt := 24) (by decide) ?_
          refine z_lv (lv' := [(0, .ref a0), (1, .ref a1), (2, .int (1 : Int32)), (3, .int (v3 + (1 : Int32)))]) [2, 3, 1, 0] rfl ?_
          exact hk24 (1 : Int32) (v3 + (1 : Int32)) h
def f_X8_isWord (N : Nat) (l1 : Nat) (b1 : Nat → Int32) (s0 : Ob) : Option (Int32) := (if ((s0.1 10) - (s0.1 11)) = (Int32.ofNat l1) then (f_X8_isWord_24 N l1 b1 s0 N (1 : Int32) (0 : Int32)) else (f_X8_isWord_24 N l1 b1 s0 N (0 : Int32) (0 : Int32)))
theorem m_X8_isWord {g : Gp} {a0 : Nat} {a1 : Nat} {r0 : Nat → Nat} {N : Nat} {l1 : Nat} {b1 : Nat → Int32} {s0 : Ob} {res : Int32} (hg : Ok g) (hs1 : Sl g a1 l1 b1) (h : f_X8_isWord N l1 b1 s0 = some res) : Ct g yX8_isWord cX8_isWord 4 (some .boolean) (zrm 4 85) [.ref a0, .ref a1] (wX8 g a0 r0 s0) (exR (some (.int res)) (wX8 g a0 r0 s0)) := by
  refine ct_of rfl hg (by show _ ≤ _; exact Nat.le_of_ble_eq_true rfl) (fun K C X => ?_)
  show Zs K 0 0 (wX8 g a0 r0 s0) [(0, .ref a0), (1, .ref a1)] 0 []
  unfold f_X8_isWord at h
  refine z_aload_n (pc := 0) (x := a0) C dX8_isWord_0 (i := 0) rfl rfl ?_
  refine z_get (pc := 1) (v := .int (s0.1 10)) C 0 dX8_isWord_1 fl_RX8_86 rfl rfl ?_
  refine z_aload_n (pc := 4) (x := a0) C dX8_isWord_4 (i := 0) rfl rfl ?_
  refine z_get (pc := 5) (v := .int (s0.1 11)) C 0 dX8_isWord_5 fl_RX8_93 rfl rfl ?_
  refine z_isub (pc := 8) C dX8_isWord_8 ?_
  refine z_aload_n (pc := 9) (x := a1) C dX8_isWord_9 (i := 1) rfl rfl ?_
  refine z_callVs (pc := 10) (As := []) (rest := [.int ((s0.1 10) - (s0.1 11))]) C hs1 rfl dX8_isWord_10 ml_RX8_105 wv_J0_length_8abf5 (m_J0_length hg hs1) [0, 1, 2, 3, 4, 5, 6, 7, 8, 9, 10, 11, 12, 13, 14] rfl rfl rfl rfl ⟨by decide, by decide⟩ (Nat.le_of_ble_eq_true rfl) ⟨by decide, by decide⟩ (ex_k C (cs' := 0) (ss' := 0) (wF := (wX8 g a0 r0 s0)) [0, 1, 2, 3, 4, 5, 6, 7, 8, 9, 10, 11, 12, 13, 14] rfl rfl ?_)
  refine z_icmp_ne (pc := 13) C dX8_isWord_13 (tgt := 20) (by decide) (fun hc => ?_) (fun hc => ?_)
  · replace h := (ite_e h).2 hc
    refine z_iconst (pc := 20) C dX8_isWord_20 ic_0 ?_
    refine z_istore_n (pc := 21) C dX8_isWord_21 (i := 2) rfl (by decide) (lv' := [(2, .int (0 : Int32)), (0, .ref a0), (1, .ref a1)]) rfl ?_
    refine z_iconst (pc := 22) C dX8_isWord_22 ic_0 ?_
    refine z_istore_n (pc := 23) C dX8_isWord_23 (i := 3) rfl (by decide) (lv' := [(3, .int (0 : Int32)), (2, .int (0 : Int32)), (0, .ref a0), (1, .ref a1)]) rfl ?_
    refine z_lv (lv' := [(0, .ref a0), (1, .ref a1), (2, .int (0 : Int32)), (3, .int (0 : Int32))]) [2, 3, 1, 0] rfl ?_
    exact m_X8_isWord_24 (a0 := a0) (a1 := a1) (r0 := r0) hg hs1 C X N (0 : Int32) (0 : Int32) h
  · replace h := (ite_e h).1 hc
    refine z_iconst (pc := 16) C dX8_isWord_16 ic_1 ?_
    refine z_goto (pc := 17) C dX8_isWord_17 (tgt := 21) (by decide) ?_
    refine z_istore_n (pc := 21) C dX8_isWord_21 (i := 2) rfl (by decide) (lv' := [(2, .int (1 : Int32)), (0, .ref a0), (1, .ref a1)]) rfl ?_
    refine z_iconst (pc := 22) C dX8_isWord_22 ic_0 ?_
    refine z_istore_n (pc := 23) C dX8_isWord_23 (i := 3) rfl (by decide) (lv' := [(3, .int (0 : Int32)), (2, .int (1 : Int32)), (0, .ref a0), (1, .ref a1)]) rfl ?_
    refine z_lv (lv' := [(0, .ref a0), (1, .ref a1), (2, .int (1 : Int32)), (3, .int (0 : Int32))]) [2, 3, 1, 0] rfl ?_
    exact m_X8_isWord_24 (a0 := a0) (a1 := a1) (r0 := r0) hg hs1 C X N (1 : Int32) (0 : Int32) h
def f_X8_statement (N : Nat) (s0 : Ob) : Option (Ob) := (ob (f_X8_reads N s0) fun x1 => (ob (f_X8_isWord N 4 (zst [103, 97, 109, 101]) x1) fun x2 => (if x2 = 0 then (if (x1.1 14) = 0 then (ob (f_X8_fails N x1 (1 : Int32)) fun x17 => (some x17)) else (ob (f_X8_isWord N 4 (zst [100, 101, 99, 107]) x1) fun x3 => (if x3 = 0 then (ob (f_X8_isWord N 6 (zst [116, 111, 107, 101, 110, 115]) x1) fun x4 => (if x4 = 0 then (ob (f_X8_isWord N 5 (zst [108, 105, 118, 101, 115]) x1) fun x5 => (if x5 = 0 then (ob (f_X8_isWord N 5 (zst [99, 111, 108, 111, 114]) x1) fun x6 => (if x6 = 0 then (ob (f_X8_isWord N 4 (zst [114, 97, 110, 107]) x1) fun x7 => (if x7 = 0 then (ob (f_X8_isWord N 7 (zst [115, 104, 117, 102, 102, 108, 101]) x1) fun x8 => (if x8 = 0 then (ob (f_X8_fails N x1 (1 : Int32)) fun x9 => (some x9)) else (ob (f_X8_number N x1 (0 : Int32) (999999 : Int32)) fun x10 => (some (si x10.2 15 x10.1))))) else (ob (f_X8_wordPart N x1 (0 : Int32)) fun x11 => (some x11)))) else (ob (f_X8_wordPart N x1 (1 : Int32)) fun x12 => (some x12)))) else (ob (f_X8_number N x1 (1 : Int32) (5 : Int32)) fun x13 => (some (sa x13.2 1 (upd (x13.2.2.2.1 1) 8 x13.1)))))) else (ob (f_X8_number N x1 (1 : Int32) (9 : Int32)) fun x14 => (ob (f_X8_number N (sa x14.2 1 (upd (x14.2.2.2.1 1) 6 x14.1)) (0 : Int32) ((upd (x14.2.2.2.1 1) 6 x14.1) 6)) fun x15 => (some (sa x15.2 1 (upd (x15.2.2.2.1 1) 7 x15.1))))))) else (ob (f_X8_deckPart N x1) fun x16 => (some x16))))) else (ob (f_X8_gamePart N x1) fun x18 => (some x18)))))
theorem m_X8_statement {g : Gp} {a0 : Nat} {r0 : Nat → Nat} {N : Nat} {s0 : Ob} {res : Ob} (hg : Ok g) (h : f_X8_statement N s0 = some res) : Ct g yX8_statement cX8_statement 1 none (zrm 5 108) [.ref a0] (wX8 g a0 r0 s0) (exR none (wX8 g a0 r0 res)) := by
  refine ct_of rfl hg (by show _ ≤ _; exact Nat.le_of_ble_eq_true rfl) (fun K C X => ?_)
  show Zs K 0 0 (wX8 g a0 r0 s0) [(0, .ref a0)] 0 []
  unfold f_X8_statement at h
  refine z_aload_n (pc := 0) (x := a0) C dX8_statement_0 (i := 0) rfl rfl ?_
  replace h := ob_e h
  obtain ⟨x1, hx1, h⟩ := h
  refine z_callV (pc := 1) (As := []) (rest := []) (wr := ([] : va_W)) C dX8_statement_1 ml_RX8_133 wv_X8_reads (m_X8_reads (a0 := a0) (r0 := r0) hg hx1) [0, 1, 2, 3, 4, 5, 6, 7, 8, 9, 10, 11, 12, 13, 14] [] rfl rfl ⟨by decide, by decide⟩ (Nat.le_of_ble_eq_true rfl) ⟨by decide, by decide⟩ rfl rfl rfl rfl rfl rfl rfl (by decide) (ex_k C (cs' := 0) (ss' := 0) (wF := (wX8 g a0 r0 x1)) [0, 1, 2, 3, 4, 5, 6, 7, 8, 9, 10, 11, 12, 13, 14] rfl rfl ?_)
  refine z_aload_n (pc := 4) (x := a0) C dX8_statement_4 (i := 0) rfl rfl ?_
  refine z_ldcs (pc := 5) C dX8_statement_5 (str_RX8_145 hg).1 ?_
  replace h := ob_e h
  obtain ⟨x2, hx2, h⟩ := h
  refine z_callV (pc := 7) (As := [.ref (sad g RX8 145)]) (rest := []) (wr := ([] : va_W)) C dX8_statement_7 ml_RX8_147 wv_X8_isWord (m_X8_isWord (a0 := a0) (a1 := (sad g RX8 145)) (r0 := r0) hg (str_RX8_145 hg).2 hx2) [0, 1, 2, 3, 4, 5, 6, 7, 8, 9, 10, 11, 12, 13, 14] [] rfl rfl ⟨by decide, by decide⟩ (Nat.le_of_ble_eq_true rfl) ⟨by decide, by decide⟩ rfl rfl rfl rfl rfl rfl rfl (by decide) (ex_k C (cs' := 0) (ss' := 0) (wF := (wX8 g a0 r0 x1)) [0, 1, 2, 3, 4, 5, 6, 7, 8, 9, 10, 11, 12, 13, 14] rfl rfl ?_)
  refine z_if_eq (pc := 10) C dX8_statement_10 (tgt := 20) (by decide) (fun hc => ?_) (fun hc => ?_)
  · replace h := (ite_e h).1 hc
    refine z_aload_n (pc := 20) (x := a0) C dX8_statement_20 (i := 0) rfl rfl ?_
    refine z_get (pc := 21) (v := .int (x1.1 14)) C 0 dX8_statement_21 fl_RX8_127 rfl rfl ?_
    refine z_if_ne (pc := 24) C dX8_statement_24 (tgt := 35) (by decide) (fun hc => ?_) (fun hc => ?_)
    · replace h := (ite_e h).2 hc
      refine z_aload_n (pc := 35) (x := a0) C dX8_statement_35 (i := 0) rfl rfl ?_
      refine z_ldcs (pc := 36) C dX8_statement_36 (str_RX8_154 hg).1 ?_
      replace h := ob_e h
      obtain ⟨x3, hx3, h⟩ := h
      refine z_callV (pc := 38) (As := [.ref (sad g RX8 154)]) (rest := []) (wr := ([] : va_W)) C dX8_statement_38 ml_RX8_147 wv_X8_isWord (m_X8_isWord (a0 := a0) (a1 := (sad g RX8 154)) (r0 := r0) hg (str_RX8_154 hg).2 hx3) [0, 1, 2, 3, 4, 5, 6, 7, 8, 9, 10, 11, 12, 13, 14] [] rfl rfl ⟨by decide, by decide⟩ (Nat.le_of_ble_eq_true rfl) ⟨by decide, by decide⟩ rfl rfl rfl rfl rfl rfl rfl (by decide) (ex_k C (cs' := 0) (ss' := 0) (wF := (wX8 g a0 r0 x1)) [0, 1, 2, 3, 4, 5, 6, 7, 8, 9, 10, 11, 12, 13, 14] rfl rfl ?_)
      refine z_if_eq (pc := 41) C dX8_statement_41 (tgt := 51) (by decide) (fun hc => ?_) (fun hc => ?_)
      · replace h := (ite_e h).1 hc
        refine z_aload_n (pc := 51) (x := a0) C dX8_statement_51 (i := 0) rfl rfl ?_
        refine z_ldcs (pc := 52) C dX8_statement_52 (str_RX8_159 hg).1 ?_
        replace h := ob_e h
        obtain ⟨x4, hx4, h⟩ := h
        refine z_callV (pc := 54) (As := [.ref (sad g RX8 159)]) (rest := []) (wr := ([] : va_W)) C dX8_statement_54 ml_RX8_147 wv_X8_isWord (m_X8_isWord (a0 := a0) (a1 := (sad g RX8 159)) (r0 := r0) hg (str_RX8_159 hg).2 hx4) [0, 1, 2, 3, 4, 5, 6, 7, 8, 9, 10, 11, 12, 13, 14] [] rfl rfl ⟨by decide, by decide⟩ (Nat.le_of_ble_eq_true rfl) ⟨by decide, by decide⟩ rfl rfl rfl rfl rfl rfl rfl (by decide) (ex_k C (cs' := 0) (ss' := 0) (wF := (wX8 g a0 r0 x1)) [0, 1, 2, 3, 4, 5, 6, 7, 8, 9, 10, 11, 12, 13, 14] rfl rfl ?_)
        refine z_if_eq (pc := 57) C dX8_statement_57 (tgt := 96) (by decide) (fun hc => ?_) (fun hc => ?_)
        · replace h := (ite_e h).1 hc
          refine z_aload_n (pc := 96) (x := a0) C dX8_statement_96 (i := 0) rfl rfl ?_
          refine z_ldcs (pc := 97) C dX8_statement_97 (str_RX8_161 hg).1 ?_
          replace h := ob_e h
          obtain ⟨x5, hx5, h⟩ := h
          refine z_callV (pc := 99) (As := [.ref (sad g RX8 161)]) (rest := []) (wr := ([] : va_W)) C dX8_statement_99 ml_RX8_147 wv_X8_isWord (m_X8_isWord (a0 := a0) (a1 := (sad g RX8 161)) (r0 := r0) hg (str_RX8_161 hg).2 hx5) [0, 1, 2, 3, 4, 5, 6, 7, 8, 9, 10, 11, 12, 13, 14] [] rfl rfl ⟨by decide, by decide⟩ (Nat.le_of_ble_eq_true rfl) ⟨by decide, by decide⟩ rfl rfl rfl rfl rfl rfl rfl (by decide) (ex_k C (cs' := 0) (ss' := 0) (wF := (wX8 g a0 r0 x1)) [0, 1, 2, 3, 4, 5, 6, 7, 8, 9, 10, 11, 12, 13, 14] rfl rfl ?_)
          refine z_if_eq (pc := 102) C dX8_statement_102 (tgt := 121) (by decide) (fun hc => ?_) (fun hc => ?_)
          · replace h := (ite_e h).1 hc
            refine z_aload_n (pc := 121) (x := a0) C dX8_statement_121 (i := 0) rfl rfl ?_
            refine z_ldcs (pc := 122) C dX8_statement_122 (str_RX8_163 hg).1 ?_
            replace h := ob_e h
            obtain ⟨x6, hx6, h⟩ := h
            refine z_callV (pc := 124) (As := [.ref (sad g RX8 163)]) (rest := []) (wr := ([] : va_W)) C dX8_statement_124 ml_RX8_147 wv_X8_isWord (m_X8_isWord (a0 := a0) (a1 := (sad g RX8 163)) (r0 := r0) hg (str_RX8_163 hg).2 hx6) [0, 1, 2, 3, 4, 5, 6, 7, 8, 9, 10, 11, 12, 13, 14] [] rfl rfl ⟨by decide, by decide⟩ (Nat.le_of_ble_eq_true rfl) ⟨by decide, by decide⟩ rfl rfl rfl rfl rfl rfl rfl (by decide) (ex_k C (cs' := 0) (ss' := 0) (wF := (wX8 g a0 r0 x1)) [0, 1, 2, 3, 4, 5, 6, 7, 8, 9, 10, 11, 12, 13, 14] rfl rfl ?_)
            refine z_if_eq (pc := 127) C dX8_statement_127 (tgt := 138) (by decide) (fun hc => ?_) (fun hc => ?_)
            · replace h := (ite_e h).1 hc
              refine z_aload_n (pc := 138) (x := a0) C dX8_statement_138 (i := 0) rfl rfl ?_
              refine z_ldcs (pc := 139) C dX8_statement_139 (str_RX8_169 hg).1 ?_
              replace h := ob_e h
              obtain ⟨x7, hx7, h⟩ := h
              refine z_callV (pc := 141) (As := [.ref (sad g RX8 169)]) (rest := []) (wr := ([] : va_W)) C dX8_statement_141 ml_RX8_147 wv_X8_isWord (m_X8_isWord (a0 := a0) (a1 := (sad g RX8 169)) (r0 := r0) hg (str_RX8_169 hg).2 hx7) [0, 1, 2, 3, 4, 5, 6, 7, 8, 9, 10, 11, 12, 13, 14] [] rfl rfl ⟨by decide, by decide⟩ (Nat.le_of_ble_eq_true rfl) ⟨by decide, by decide⟩ rfl rfl rfl rfl rfl rfl rfl (by decide) (ex_k C (cs' := 0) (ss' := 0) (wF := (wX8 g a0 r0 x1)) [0, 1, 2, 3, 4, 5, 6, 7, 8, 9, 10, 11, 12, 13, 14] rfl rfl ?_)
              refine z_if_eq (pc := 144) C dX8_statement_144 (tgt := 155) (by decide) (fun hc => ?_) (fun hc => ?_)
              · replace h := (ite_e h).1 hc
                refine z_aload_n (pc := 155) (x := a0) C dX8_statement_155 (i := 0) rfl rfl ?_
                refine z_ldcs (pc := 156) C dX8_statement_156 (str_RX8_171 hg).1 ?_
                replace h := ob_e h
                obtain ⟨x8, hx8, h⟩ := h
                refine z_callV (pc := 158) (As := [.ref (sad g RX8 171)]) (rest := []) (wr := ([] : va_W)) C dX8_statement_158 ml_RX8_147 wv_X8_isWord (m_X8_isWord (a0 := a0) (a1 := (sad g RX8 171)) (r0 := r0) hg (str_RX8_171 hg).2 hx8) [0, 1, 2, 3, 4, 5, 6, 7, 8, 9, 10, 11, 12, 13, 14] [] rfl rfl ⟨by decide, by decide⟩ (Nat.le_of_ble_eq_true rfl) ⟨by decide, by decide⟩ rfl rfl rfl rfl rfl rfl rfl (by decide) (ex_k C (cs' := 0) (ss' := 0) (wF := (wX8 g a0 r0 x1)) [0, 1, 2, 3, 4, 5, 6, 7, 8, 9, 10, 11, 12, 13, 14] rfl rfl ?_)
                refine z_if_eq (pc := 161) C dX8_statement_161 (tgt := 178) (by decide) (fun hc => ?_) (fun hc => ?_)
                · replace h := (ite_e h).1 hc
                  refine z_aload_n (pc := 178) (x := a0) C dX8_statement_178 (i := 0) rfl rfl ?_
                  refine z_iconst (pc := 179) C dX8_statement_179 ic_1 ?_
                  replace h := ob_e h
                  obtain ⟨x9, hx9, h⟩ := h
                  refine z_callV (pc := 180) (As := [.int (1 : Int32)]) (rest := []) (wr := ([] : va_W)) C dX8_statement_180 ml_RX8_120 wv_X8_fails (m_X8_fails (a0 := a0) (r0 := r0) hg hx9) [0, 1, 2, 3, 4, 5, 6, 7, 8, 9, 10, 11, 12, 13, 14] [] rfl rfl ⟨by decide, by decide⟩ (Nat.le_of_ble_eq_true rfl) ⟨by decide, by decide⟩ rfl rfl rfl rfl rfl rfl rfl (by decide) (ex_k C (cs' := 0) (ss' := 0) (wF := (wX8 g a0 r0 x9)) [0, 1, 2, 3, 4, 5, 6, 7, 8, 9, 10, 11, 12, 13, 14] rfl rfl ?_)
                  exact z_vret C X dX8_statement_183 (by rw [← Option.some.inj h]; exact ⟨rfl, rfl⟩) (by decide) (by decide)
                · replace h := (ite_e h).2 hc
                  refine z_aload_n (pc := 164) (x := a0) C dX8_statement_164 (i := 0) rfl rfl ?_
                  refine z_aload_n (pc := 165) (x := a0) C dX8_statement_165 (i := 0) rfl rfl ?_
                  refine z_iconst (pc := 166) C dX8_statement_166 ic_0 ?_
                  refine z_ldc (pc := 167) C dX8_statement_167 ki_RX8_173 ?_
                  replace h := ob_e h
                  obtain ⟨x10, hx10, h⟩ := h
                  refine z_callV (pc := 169) (As := [.int (0 : Int32), .int (999999 : Int32)]) (rest := [.ref a0]) (wr := ([] : va_W)) C dX8_statement_169 ml_RX8_130 wv_X8_number (m_X8_number (a0 := a0) (r0 := r0) hg hx10) [0, 1, 2, 3, 4, 5, 6, 7, 8, 9, 10, 11, 12, 13, 14] [] rfl rfl ⟨by decide, by decide⟩ (Nat.le_of_ble_eq_true rfl) ⟨by decide, by decide⟩ rfl rfl rfl rfl rfl rfl rfl (by decide) (ex_k C (cs' := 0) (ss' := 0) (wF := (wX8 g a0 r0 x10.2)) [0, 1, 2, 3, 4, 5, 6, 7, 8, 9, 10, 11, 12, 13, 14] rfl rfl ?_)
                  refine z_put (pc := 172) C 0 dX8_statement_172 fp_RX8_174 rfl rfl rfl (zlt_b rfl) (ws' := (wX8 g a0 r0 (si x10.2 15 x10.1))) rfl ?_
                  refine z_goto (pc := 175) C dX8_statement_175 (tgt := 183) (by decide) ?_
                  exact z_vret C X dX8_statement_183 (by rw [← Option.some.inj h]; exact ⟨rfl, rfl⟩) (by decide) (by decide)
              · replace h := (ite_e h).2 hc
                refine z_aload_n (pc := 147) (x := a0) C dX8_statement_147 (i := 0) rfl rfl ?_
                refine z_iconst (pc := 148) C dX8_statement_148 ic_0 ?_
                replace h := ob_e h
                obtain ⟨x11, hx11, h⟩ := h
                refine z_callV (pc := 149) (As := [.int (0 : Int32)]) (rest := []) (wr := ([] : va_W)) C dX8_statement_149 ml_RX8_165 wv_X8_wordPart (m_X8_wordPart (a0 := a0) (r0 := r0) hg hx11) [0, 1, 2, 3, 4, 5, 6, 7, 8, 9, 10, 11, 12, 13, 14] [] rfl rfl ⟨by decide, by decide⟩ (Nat.le_of_ble_eq_true rfl) ⟨by decide, by decide⟩ rfl rfl rfl rfl rfl rfl rfl (by decide) (ex_k C (cs' := 0) (ss' := 0) (wF := (wX8 g a0 r0 x11)) [0, 1, 2, 3, 4, 5, 6, 7, 8, 9, 10, 11, 12, 13, 14] rfl rfl ?_)
                refine z_goto (pc := 152) C dX8_statement_152 (tgt := 183) (by decide) ?_
                exact z_vret C X dX8_statement_183 (by rw [← Option.some.inj h]; exact ⟨rfl, rfl⟩) (by decide) (by decide)
            · replace h := (ite_e h).2 hc
              refine z_aload_n (pc := 130) (x := a0) C dX8_statement_130 (i := 0) rfl rfl ?_
              refine z_iconst (pc := 131) C dX8_statement_131 ic_1 ?_
              replace h := ob_e h
              obtain ⟨x12, hx12, h⟩ := h
              refine z_callV (pc := 132) (As := [.int (1 : Int32)]) (rest := []) (wr := ([] : va_W)) C dX8_statement_132 ml_RX8_165 wv_X8_wordPart (m_X8_wordPart (a0 := a0) (r0 := r0) hg hx12) [0, 1, 2, 3, 4, 5, 6, 7, 8, 9, 10, 11, 12, 13, 14] [] rfl rfl ⟨by decide, by decide⟩ (Nat.le_of_ble_eq_true rfl) ⟨by decide, by decide⟩ rfl rfl rfl rfl rfl rfl rfl (by decide) (ex_k C (cs' := 0) (ss' := 0) (wF := (wX8 g a0 r0 x12)) [0, 1, 2, 3, 4, 5, 6, 7, 8, 9, 10, 11, 12, 13, 14] rfl rfl ?_)
              refine z_goto (pc := 135) C dX8_statement_135 (tgt := 183) (by decide) ?_
              exact z_vret C X dX8_statement_183 (by rw [← Option.some.inj h]; exact ⟨rfl, rfl⟩) (by decide) (by decide)
          · replace h := (ite_e h).2 hc
            refine z_aload_n (pc := 105) (x := a0) C dX8_statement_105 (i := 0) rfl rfl ?_
            refine z_get (pc := 106) (v := .ref (r0 1)) C 0 dX8_statement_106 fl_RX8_13 rfl rfl ?_
            refine z_bipush (pc := 109) C dX8_statement_109 bp_8 ?_
            refine z_aload_n (pc := 111) (x := a0) C dX8_statement_111 (i := 0) rfl rfl ?_
            refine z_iconst (pc := 112) C dX8_statement_112 ic_1 ?_
            refine z_iconst (pc := 113) C dX8_statement_113 ic_5 ?_
            replace h := ob_e h
            obtain ⟨x13, hx13, h⟩ := h
            refine z_callV (pc := 114) (As := [.int (1 : Int32), .int (5 : Int32)]) (rest := [.int (8 : Int32), .ref (r0 1)]) (wr := ([] : va_W)) C dX8_statement_114 ml_RX8_130 wv_X8_number (m_X8_number (a0 := a0) (r0 := r0) hg hx13) [0, 1, 2, 3, 4, 5, 6, 7, 8, 9, 10, 11, 12, 13, 14] [] rfl rfl ⟨by decide, by decide⟩ (Nat.le_of_ble_eq_true rfl) ⟨by decide, by decide⟩ rfl rfl rfl rfl rfl rfl rfl (by decide) (ex_k C (cs' := 0) (ss' := 0) (wF := (wX8 g a0 r0 x13.2)) [0, 1, 2, 3, 4, 5, 6, 7, 8, 9, 10, 11, 12, 13, 14] rfl rfl ?_)
            refine z_iast (pc := 117) C 2 dX8_statement_117 rfl (by decide) (ws' := (wX8 g a0 r0 (sa x13.2 1 (upd (x13.2.2.2.1 1) 8 x13.1)))) rfl ?_
            refine z_goto (pc := 118) C dX8_statement_118 (tgt := 183) (by decide) ?_
            exact z_vret C X dX8_statement_183 (by rw [← Option.some.inj h]; exact ⟨rfl, rfl⟩) (by decide) (by decide)
        · replace h := (ite_e h).2 hc
          refine z_aload_n (pc := 60) (x := a0) C dX8_statement_60 (i := 0) rfl rfl ?_
          refine z_get (pc := 61) (v := .ref (r0 1)) C 0 dX8_statement_61 fl_RX8_13 rfl rfl ?_
          refine z_bipush (pc := 64) C dX8_statement_64 bp_6 ?_
          refine z_aload_n (pc := 66) (x := a0) C dX8_statement_66 (i := 0) rfl rfl ?_
          refine z_iconst (pc := 67) C dX8_statement_67 ic_1 ?_
          refine z_bipush (pc := 68) C dX8_statement_68 bp_9 ?_
          replace h := ob_e h
          obtain ⟨x14, hx14, h⟩ := h
          refine z_callV (pc := 70) (As := [.int (1 : Int32), .int (9 : Int32)]) (rest := [.int (6 : Int32), .ref (r0 1)]) (wr := ([] : va_W)) C dX8_statement_70 ml_RX8_130 wv_X8_number (m_X8_number (a0 := a0) (r0 := r0) hg hx14) [0, 1, 2, 3, 4, 5, 6, 7, 8, 9, 10, 11, 12, 13, 14] [] rfl rfl ⟨by decide, by decide⟩ (Nat.le_of_ble_eq_true rfl) ⟨by decide, by decide⟩ rfl rfl rfl rfl rfl rfl rfl (by decide) (ex_k C (cs' := 0) (ss' := 0) (wF := (wX8 g a0 r0 x14.2)) [0, 1, 2, 3, 4, 5, 6, 7, 8, 9, 10, 11, 12, 13, 14] rfl rfl ?_)
          refine z_iast (pc := 73) C 2 dX8_statement_73 rfl (by decide) (ws' := (wX8 g a0 r0 (sa x14.2 1 (upd (x14.2.2.2.1 1) 6 x14.1)))) rfl ?_
          refine z_aload_n (pc := 74) (x := a0) C dX8_statement_74 (i := 0) rfl rfl ?_
          refine z_get (pc := 75) (v := .ref (r0 1)) C 0 dX8_statement_75 fl_RX8_13 rfl rfl ?_
          refine z_bipush (pc := 78) C dX8_statement_78 bp_7 ?_
          refine z_aload_n (pc := 80) (x := a0) C dX8_statement_80 (i := 0) rfl rfl ?_
          refine z_iconst (pc := 81) C dX8_statement_81 ic_0 ?_
          refine z_aload_n (pc := 82) (x := a0) C dX8_statement_82 (i := 0) rfl rfl ?_
          refine z_get (pc := 83) (v := .ref (r0 1)) C 0 dX8_statement_83 fl_RX8_13 rfl rfl ?_
          refine z_bipush (pc := 86) C dX8_statement_86 bp_6 ?_
          refine z_iald (pc := 88) C 2 dX8_statement_88 rfl (by decide) ?_
          refine z_top1 (v := ((upd (x14.2.2.2.1 1) 6 x14.1) 6)) rfl ?_
          replace h := ob_e h
          obtain ⟨x15, hx15, h⟩ := h
          refine z_callV (pc := 89) (As := [.int (0 : Int32), .int ((upd (x14.2.2.2.1 1) 6 x14.1) 6)]) (rest := [.int (7 : Int32), .ref (r0 1)]) (wr := ([] : va_W)) C dX8_statement_89 ml_RX8_130 wv_X8_number (m_X8_number (a0 := a0) (r0 := r0) hg hx15) [0, 1, 2, 3, 4, 5, 6, 7, 8, 9, 10, 11, 12, 13, 14] [] rfl rfl ⟨by decide, by decide⟩ (Nat.le_of_ble_eq_true rfl) ⟨by decide, by decide⟩ rfl rfl rfl rfl rfl rfl rfl (by decide) (ex_k C (cs' := 0) (ss' := 0) (wF := (wX8 g a0 r0 x15.2)) [0, 1, 2, 3, 4, 5, 6, 7, 8, 9, 10, 11, 12, 13, 14] rfl rfl ?_)
          refine z_iast (pc := 92) C 2 dX8_statement_92 rfl (by decide) (ws' := (wX8 g a0 r0 (sa x15.2 1 (upd (x15.2.2.2.1 1) 7 x15.1)))) rfl ?_
          refine z_goto (pc := 93) C dX8_statement_93 (tgt := 183) (by decide) ?_
          exact z_vret C X dX8_statement_183 (by rw [← Option.some.inj h]; exact ⟨rfl, rfl⟩) (by decide) (by decide)
      · replace h := (ite_e h).2 hc
        refine z_aload_n (pc := 44) (x := a0) C dX8_statement_44 (i := 0) rfl rfl ?_
        replace h := ob_e h
        obtain ⟨x16, hx16, h⟩ := h
        refine z_callV (pc := 45) (As := []) (rest := []) (wr := ([] : va_W)) C dX8_statement_45 ml_RX8_156 wv_X8_deckPart (m_X8_deckPart (a0 := a0) (r0 := r0) hg hx16) [0, 1, 2, 3, 4, 5, 6, 7, 8, 9, 10, 11, 12, 13, 14] [] rfl rfl ⟨by decide, by decide⟩ (Nat.le_of_ble_eq_true rfl) ⟨by decide, by decide⟩ rfl rfl rfl rfl rfl rfl rfl (by decide) (ex_k C (cs' := 0) (ss' := 0) (wF := (wX8 g a0 r0 x16)) [0, 1, 2, 3, 4, 5, 6, 7, 8, 9, 10, 11, 12, 13, 14] rfl rfl ?_)
        refine z_goto (pc := 48) C dX8_statement_48 (tgt := 183) (by decide) ?_
        exact z_vret C X dX8_statement_183 (by rw [← Option.some.inj h]; exact ⟨rfl, rfl⟩) (by decide) (by decide)
    · replace h := (ite_e h).1 hc
      refine z_aload_n (pc := 27) (x := a0) C dX8_statement_27 (i := 0) rfl rfl ?_
      refine z_iconst (pc := 28) C dX8_statement_28 ic_1 ?_
      replace h := ob_e h
      obtain ⟨x17, hx17, h⟩ := h
      refine z_callV (pc := 29) (As := [.int (1 : Int32)]) (rest := []) (wr := ([] : va_W)) C dX8_statement_29 ml_RX8_120 wv_X8_fails (m_X8_fails (a0 := a0) (r0 := r0) hg hx17) [0, 1, 2, 3, 4, 5, 6, 7, 8, 9, 10, 11, 12, 13, 14] [] rfl rfl ⟨by decide, by decide⟩ (Nat.le_of_ble_eq_true rfl) ⟨by decide, by decide⟩ rfl rfl rfl rfl rfl rfl rfl (by decide) (ex_k C (cs' := 0) (ss' := 0) (wF := (wX8 g a0 r0 x17)) [0, 1, 2, 3, 4, 5, 6, 7, 8, 9, 10, 11, 12, 13, 14] rfl rfl ?_)
      refine z_goto (pc := 32) C dX8_statement_32 (tgt := 183) (by decide) ?_
      exact z_vret C X dX8_statement_183 (by rw [← Option.some.inj h]; exact ⟨rfl, rfl⟩) (by decide) (by decide)
  · replace h := (ite_e h).2 hc
    refine z_aload_n (pc := 13) (x := a0) C dX8_statement_13 (i := 0) rfl rfl ?_
    replace h := ob_e h
    obtain ⟨x18, hx18, h⟩ := h
    refine z_callV (pc := 14) (As := []) (rest := []) (wr := ([] : va_W)) C dX8_statement_14 ml_RX8_151 wv_X8_gamePart (m_X8_gamePart (a0 := a0) (r0 := r0) hg hx18) [0, 1, 2, 3, 4, 5, 6, 7, 8, 9, 10, 11, 12, 13, 14] [] rfl rfl ⟨by decide, by decide⟩ (Nat.le_of_ble_eq_true rfl) ⟨by decide, by decide⟩ rfl rfl rfl rfl rfl rfl rfl (by decide) (ex_k C (cs' := 0) (ss' := 0) (wF := (wX8 g a0 r0 x18)) [0, 1, 2, 3, 4, 5, 6, 7, 8, 9, 10, 11, 12, 13, 14] rfl rfl ?_)
    refine z_goto (pc := 17) C dX8_statement_17 (tgt := 183) (by decide) ?_
    exact z_vret C X dX8_statement_183 (by rw [← Option.some.inj h]; exact ⟨rfl, rfl⟩) (by decide) (by decide)
