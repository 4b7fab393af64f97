/-! OWN, written by wip/whole/tools/mkall.py: what each method does to its cells, and the walk that shows it -/
def f_X8_ranksBehind (N : Nat) (s0 : Ob) (p1 : Int32) (p2 : Int32) (p3 : Int32) : Option (Int32) := (chk (inb ((107 : Int32) + p1) 358) (if p2 = (1 : Int32) then (ob (f_X8_isTouchedBy N s0 p1 p2 p3) fun x2 => (ob (f_X8_leaves N s0 ((s0.2.2.1 0) (((107 : Int32) + p1)).toNatClampNeg) ((1 : Int32) <<< ((p3 - (1 : Int32)) &&& 31)) x2) fun x3 => (some x3))) else (some ((s0.2.2.1 0) (((107 : Int32) + p1)).toNatClampNeg))))
theorem m_X8_ranksBehind {g : Gp} {a0 : Nat} {r0 : Nat → Nat} {N : Nat} {s0 : Ob} {p1 : Int32} {p2 : Int32} {p3 : Int32} {res : Int32} (hg : Ok g) (h : f_X8_ranksBehind N s0 p1 p2 p3 = some res) : Ct g yX8_ranksBehind cX8_ranksBehind 5 (some .int) (zrm 2 44) [.ref a0, .int p1, .int p2, .int p3] (wX8 g a0 r0 s0) (exR (some (.int res)) (wX8 g a0 r0 s0)) := by
  refine ct_of rfl hg (by show _ ≤ _; exact Nat.le_of_ble_eq_true rfl) (fun K C X => ?_)
  show Zs K 0 0 (wX8 g a0 r0 s0) [(0, .ref a0), (1, .int p1), (2, .int p2), (3, .int p3)] 0 []
  unfold f_X8_ranksBehind at h
  refine z_aload_n (pc := 0) (x := a0) C dX8_ranksBehind_0 (i := 0) rfl rfl ?_
  refine z_get (pc := 1) (v := .ref (r0 0)) C 0 dX8_ranksBehind_1 fl_RX8_9 rfl rfl ?_
  refine z_bipush (pc := 4) C dX8_ranksBehind_4 bp_107 ?_
  refine z_iload_n (pc := 6) (x := p1) C dX8_ranksBehind_6 (i := 1) rfl rfl ?_
  refine z_iadd (pc := 7) C dX8_ranksBehind_7 ?_
  replace h := chk_e h
  obtain ⟨hb1, h⟩ := h
  refine z_iald (pc := 8) C 1 dX8_ranksBehind_8 rfl hb1 ?_
  refine z_istore (pc := 9) C dX8_ranksBehind_9 (by decide) (lv' := [(4, .int ((s0.2.2.1 0) (((107 : Int32) + p1)).toNatClampNeg)), (0, .ref a0), (1, .int p1), (2, .int p2), (3, .int p3)]) rfl ?_
  refine z_iload_n (pc := 11) (x := p2) C dX8_ranksBehind_11 (i := 2) rfl rfl ?_
  refine z_iconst (pc := 12) C dX8_ranksBehind_12 ic_1 ?_
  refine z_icmp_ne (pc := 13) C dX8_ranksBehind_13 (tgt := 37) (by decide) (fun hc => ?_) (fun hc => ?_)
  · replace h := (ite_e h).2 hc
    refine z_iload (pc := 37) (x := ((s0.2.2.1 0) (((107 : Int32) + p1)).toNatClampNeg)) C dX8_ranksBehind_37 rfl ?_
    exact z_iret C X dX8_ranksBehind_39 (by rw [← Option.some.inj h]; exact ⟨rfl, rfl⟩) (by decide) (by decide)
  · replace h := (ite_e h).1 hc
    refine z_aload_n (pc := 16) (x := a0) C dX8_ranksBehind_16 (i := 0) rfl rfl ?_
    refine z_iload (pc := 17) (x := ((s0.2.2.1 0) (((107 : Int32) + p1)).toNatClampNeg)) C dX8_ranksBehind_17 rfl ?_
    refine z_iconst (pc := 19) C dX8_ranksBehind_19 ic_1 ?_
    refine z_iload_n (pc := 20) (x := p3) C dX8_ranksBehind_20 (i := 3) rfl rfl ?_
    refine z_iconst (pc := 21) C dX8_ranksBehind_21 ic_1 ?_
    refine z_isub (pc := 22) C dX8_ranksBehind_22 ?_
    refine z_ishl (pc := 23) C dX8_ranksBehind_23 ?_
    refine z_aload_n (pc := 24) (x := a0) C dX8_ranksBehind_24 (i := 0) rfl rfl ?_
    refine z_iload_n (pc := 25) (x := p1) C dX8_ranksBehind_25 (i := 1) rfl rfl ?_
    refine z_iload_n (pc := 26) (x := p2) C dX8_ranksBehind_26 (i := 2) rfl rfl ?_
    refine z_iload_n (pc := 27) (x := p3) C dX8_ranksBehind_27 (i := 3) rfl rfl ?_
    replace h := ob_e h
    obtain ⟨x2, hx2, h⟩ := h
    refine z_callV (pc := 28) (As := [.int p1, .int p2, .int p3]) (rest := [.int ((1 : Int32) <<< ((p3 - (1 : Int32)) &&& 31)), .int ((s0.2.2.1 0) (((107 : Int32) + p1)).toNatClampNeg), .ref a0]) (wr := ([] : va_W)) C dX8_ranksBehind_28 ml_RX8_261 wv_X8_isTouchedBy (m_X8_isTouchedBy (a0 := a0) (r0 := r0) hg hx2) [0, 1, 2, 3, 4, 5, 6, 7, 8, 9, 10, 11, 12, 13, 14] [] rfl rfl ⟨by decide, by decide⟩ (Nat.le_of_ble_eq_true rfl) ⟨by decide, by decide⟩ rfl rfl rfl rfl rfl rfl rfl (by decide) (ex_k C (cs' := 0) (ss' := 0) (wF := (wX8 g a0 r0 s0)) [0, 1, 2, 3, 4, 5, 6, 7, 8, 9, 10, 11, 12, 13, 14] rfl rfl ?_)
    replace h := ob_e h
    obtain ⟨x3, hx3, h⟩ := h
    refine z_callV (pc := 31) (As := [.int ((s0.2.2.1 0) (((107 : Int32) + p1)).toNatClampNeg), .int ((1 : Int32) <<< ((p3 - (1 : Int32)) &&& 31)), .int x2]) (rest := []) (wr := ([] : va_W)) C dX8_ranksBehind_31 ml_RX8_267 wv_X8_leaves (m_X8_leaves (a0 := a0) (r0 := r0) hg hx3) [0, 1, 2, 3, 4, 5, 6, 7, 8, 9, 10, 11, 12, 13, 14] [] rfl rfl ⟨by decide, by decide⟩ (Nat.le_of_ble_eq_true rfl) ⟨by decide, by decide⟩ rfl rfl rfl rfl rfl rfl rfl (by decide) (ex_k C (cs' := 0) (ss' := 0) (wF := (wX8 g a0 r0 s0)) [0, 1, 2, 3, 4, 5, 6, 7, 8, 9, 10, 11, 12, 13, 14] rfl rfl ?_)
    refine z_goto (pc := 34) C dX8_ranksBehind_34 (tgt := 39) (by decide) ?_
    exact z_iret C X dX8_ranksBehind_39 (by rw [← Option.some.inj h]; exact ⟨rfl, rfl⟩) (by decide) (by decide)
def f_X8_telling_71 (N : Nat) (s0 : Ob) (p1 : Int32) (p2 : Int32) (p3 : Int32) (k6 : Int32 → Int32 → Option (Int32)) (v4 : Int32) (v5 : Int32) (t0 : Int32) : Option (Int32) := (if t0 = 0 then (k6 (v4 + (0 : Int32)) (v5 + (1 : Int32))) else (k6 (v4 + (1 : Int32)) (v5 + (1 : Int32))))
theorem m_X8_telling_71 {K : Kt} {g : Gp} {a0 : Nat} {r0 : Nat → Nat} {N : Nat} {s0 : Ob} {p1 : Int32} {p2 : Int32} {p3 : Int32} {res : Int32} (hg : Ok g) (C : Cx K g cX8_telling RX8 8 (zrm 5 122)) (X : Rx K (exR (some (.int res)) (wX8 g a0 r0 s0)) 0 0 (some .int)) {k6 : Int32 → Int32 → Option (Int32)} (hk6 : ∀ (v4 : Int32) (v5 : Int32), k6 v4 v5 = some res → Zs K 0 0 (wX8 g a0 r0 s0) [(0, .ref a0), (1, .int p1), (2, .int p2), (3, .int p3), (4, .int v4), (5, .int v5)] 6 []) (v4 : Int32) (v5 : Int32) (t0 : Int32) (h : f_X8_telling_71 N s0 p1 p2 p3 k6 v4 v5 t0 = some res) : Zs K 0 0 (wX8 g a0 r0 s0) [(0, .ref a0), (1, .int p1), (2, .int p2), (3, .int p3), (4, .int v4), (5, .int v5)] 71 [.int t0] := by
  unfold f_X8_telling_71 at h
  refine z_istore (pc := 71) C dX8_telling_71 (by decide) (lv' := [(7, .int t0), (0, .ref a0), (1, .int p1), (2, .int p2), (3, .int p3), (4, .int v4), (5, .int v5)]) rfl ?_
  refine z_iload (pc := 73) (x := v4) C dX8_telling_73 rfl ?_
  refine z_iload (pc := 75) (x := t0) C dX8_telling_75 rfl ?_
  refine z_if_eq (pc := 77) C dX8_telling_77 (tgt := 84) (by decide) (fun hc => ?_) (fun hc => ?_)
  · replace h := (ite_e h).1 hc
    refine z_iconst (pc := 84) C dX8_telling_84 ic_0 ?_
    refine z_iadd (pc := 85) C dX8_telling_85 ?_
    refine z_istore (pc := 86) C dX8_telling_86 (by decide) (lv' := [(4, .int (v4 + (0 : Int32))), (7, .int t0), (0, .ref a0), (1, .int p1), (2, .int p2), (3, .int p3), (5, .int v5)]) rfl ?_
    refine z_iinc (pc := 88) C dX8_telling_88 rfl (inc_e 1 (1 : Int32) ic_1 v5) (by decide) (lv' := [(5, .int (v5 + (1 : Int32))), (4, .int (v4 + (0 : Int32))), (7, .int t0), (0, .ref a0), (1, .int p1), (2, .int p2), (3, .int p3)]) rfl ?_
    refine z_goto (pc := 91) C dX8_telling_91 (tgt := 6) (by decide) ?_
    refine z_lv (lv' := [(0, .ref a0), (1, .int p1), (2, .int p2), (3, .int p3), (4, .int (v4 + (0 : Int32))), (5, .int (v5 + (1 : Int32)))]) [3, 4, 5, 6, 1, 0] rfl ?_
    exact hk6 (v4 + (0 : Int32)) (v5 + (1 : Int32)) h
  · replace h := (ite_e h).2 hc
    refine z_iconst (pc := 80) C dX8_telling_80 ic_1 ?_
    refine z_goto (pc := 81) C dX8_telling_81 (tgt := 85) (by decide) ?_
    refine z_iadd (pc := 85) C dX8_telling_85 ?_
    refine z_istore (pc := 86) C dX8_telling_86 (by decide) (lv' := [(4, .int (v4 + (1 : Int32))), (7, .int t0), (0, .ref a0), (1, .int p1), (2, .int p2), (3, .int p3), (5, .int v5)]) rfl ?_
    refine z_iinc (pc := 88) C dX8_telling_88 rfl (inc_e 1 (1 : Int32) ic_1 v5) (by decide) (lv' := [(5, .int (v5 + (1 : Int32))), (4, .int (v4 + (1 : Int32))), (7, .int t0), (0, .ref a0), (1, .int p1), (2, .int p2), (3, .int p3)]) rfl ?_
    refine z_goto (pc := 91) C dX8_telling_91 (tgt := 6) (by decide) ?_
    refine z_lv (lv' := [(0, .ref a0), (1, .int p1), (2, .int p2), (3, .int p3), (4, .int (v4 + (1 : Int32))), (5, .int (v5 + (1 : Int32)))]) [3, 4, 5, 6, 1, 0] rfl ?_
    exact hk6 (v4 + (1 : Int32)) (v5 + (1 : Int32)) h
def f_X8_telling_70 (N : Nat) (s0 : Ob) (p1 : Int32) (p2 : Int32) (p3 : Int32) (k6 : Int32 → Int32 → Option (Int32)) (v4 : Int32) (v5 : Int32) : Option (Int32) := (f_X8_telling_71 N s0 p1 p2 p3 k6 v4 v5 (0 : Int32))
theorem m_X8_telling_70 {K : Kt} {g : Gp} {a0 : Nat} {r0 : Nat → Nat} {N : Nat} {s0 : Ob} {p1 : Int32} {p2 : Int32} {p3 : Int32} {res : Int32} (hg : Ok g) (C : Cx K g cX8_telling RX8 8 (zrm 5 122)) (X : Rx K (exR (some (.int res)) (wX8 g a0 r0 s0)) 0 0 (some .int)) {k6 : Int32 → Int32 → Option (Int32)} (hk6 : ∀ (v4 : Int32) (v5 : Int32), k6 v4 v5 = some res → Zs K 0 0 (wX8 g a0 r0 s0) [(0, .ref a0), (1, .int p1), (2, .int p2), (3, .int p3), (4, .int v4), (5, .int v5)] 6 []) (v4 : Int32) (v5 : Int32) (h : f_X8_telling_70 N s0 p1 p2 p3 k6 v4 v5 = some res) : Zs K 0 0 (wX8 g a0 r0 s0) [(0, .ref a0), (1, .int p1), (2, .int p2), (3, .int p3), (4, .int v4), (5, .int v5)] 70 [] := by
  unfold f_X8_telling_70 at h
  refine z_iconst (pc := 70) C dX8_telling_70 ic_0 ?_
  exact m_X8_telling_71 (a0 := a0) (r0 := r0) hg C X hk6 v4 v5 (0 : Int32) h
def F_X8_telling_6 (N : Nat) (s0 : Ob) (p1 : Int32) (p2 : Int32) (p3 : Int32)  (k6 : Int32 → Int32 → Option (Int32)) (v4 : Int32) (v5 : Int32) : Option (Int32) := (chk (inb ((187 : Int32) + p1) 358) (if ((s0.2.2.1 0) (((187 : Int32) + p1)).toNatClampNeg) ≤ v5 then (some v4) else (ob (f_X8_held N s0 p1 v5) fun x2 => (ob (f_X8_known N s0 p1 v5) fun x3 => (if x3 = (1 : Int32) then (f_X8_telling_70 N s0 p1 p2 p3 k6 v4 v5) else (ob (f_X8_colorsBehind N s0 x2 p2 p3) fun x4 => (ob (f_X8_ranksBehind N s0 x2 p2 p3) fun x5 => (ob (f_X8_knownOf N s0 p1 x4 x5) fun x6 => (if x6 = (1 : Int32) then (f_X8_telling_71 N s0 p1 p2 p3 k6 v4 v5 (1 : Int32)) else (f_X8_telling_70 N s0 p1 p2 p3 k6 v4 v5))))))))))
def f_X8_telling_6 (N : Nat) (s0 : Ob) (p1 : Int32) (p2 : Int32) (p3 : Int32)  : Nat → Int32 → Int32 → Option (Int32) := zlp (fun _ _ => none) (F_X8_telling_6 N s0 p1 p2 p3)
theorem m_X8_telling_6 {K : Kt} {g : Gp} {a0 : Nat} {r0 : Nat → Nat} {N : Nat} {s0 : Ob} {p1 : Int32} {p2 : Int32} {p3 : Int32} {res : Int32} (hg : Ok g) (C : Cx K g cX8_telling RX8 8 (zrm 5 122)) (X : Rx K (exR (some (.int res)) (wX8 g a0 r0 s0)) 0 0 (some .int)) : ∀ (n : Nat) (v4 : Int32) (v5 : Int32), f_X8_telling_6 N s0 p1 p2 p3 n v4 v5 = some res → Zs K 0 0 (wX8 g a0 r0 s0) [(0, .ref a0), (1, .int p1), (2, .int p2), (3, .int p3), (4, .int v4), (5, .int v5)] 6 [] := by
  intro n
  induction n with
  | zero => intro v4 v5 h; exact nomatch (show (none : Option (Int32)) = some res from h)
  | succ n hk6 =>
    intro v4 v5 h
    replace h : F_X8_telling_6 N s0 p1 p2 p3 (f_X8_telling_6 N s0 p1 p2 p3 n) v4 v5 = some res := h
    unfold F_X8_telling_6 at h
    refine z_iload (pc := 6) (x := v5) C dX8_telling_6 rfl ?_
    refine z_aload_n (pc := 8) (x := a0) C dX8_telling_8 (i := 0) rfl rfl ?_
    refine z_get (pc := 9) (v := .ref (r0 0)) C 0 dX8_telling_9 fl_RX8_9 rfl rfl ?_
    refine z_sipush (pc := 12) C dX8_telling_12 sp_187 ?_
    refine z_iload_n (pc := 15) (x := p1) C dX8_telling_15 (i := 1) rfl rfl ?_
    refine z_iadd (pc := 16) C dX8_telling_16 ?_
    replace h := chk_e h
    obtain ⟨hb1, h⟩ := h
    refine z_iald (pc := 17) C 1 dX8_telling_17 rfl hb1 ?_
    refine z_icmp_ge (pc := 18) C dX8_telling_18 (tgt := 94) (by decide) (fun hc => ?_) (fun hc => ?_)
    · replace h := (ite_e h).1 hc
      refine z_iload (pc := 94) (x := v4) C dX8_telling_94 rfl ?_
      exact z_iret C X dX8_telling_96 (by rw [← Option.some.inj h]; exact ⟨rfl, rfl⟩) (by decide) (by decide)
    · replace h := (ite_e h).2 hc
      refine z_aload_n (pc := 21) (x := a0) C dX8_telling_21 (i := 0) rfl rfl ?_
      refine z_iload_n (pc := 22) (x := p1) C dX8_telling_22 (i := 1) rfl rfl ?_
      refine z_iload (pc := 23) (x := v5) C dX8_telling_23 rfl ?_
      replace h := ob_e h
      obtain ⟨x2, hx2, h⟩ := h
      refine z_callV (pc := 25) (As := [.int p1, .int v5]) (rest := []) (wr := ([] : va_W)) C dX8_telling_25 ml_RX8_217 wv_X8_held (m_X8_held (a0 := a0) (r0 := r0) hg hx2) [0, 1, 2, 3, 4, 5, 6, 7, 8, 9, 10, 11, 12, 13, 14] [] rfl rfl ⟨by decide, by decide⟩ (Nat.le_of_ble_eq_true rfl) ⟨by decide, by decide⟩ rfl rfl rfl rfl rfl rfl rfl (by decide) (ex_k C (cs' := 0) (ss' := 0) (wF := (wX8 g a0 r0 s0)) [0, 1, 2, 3, 4, 5, 6, 7, 8, 9, 10, 11, 12, 13, 14] rfl rfl ?_)
      refine z_istore (pc := 28) C dX8_telling_28 (by decide) (lv' := [(6, .int x2), (0, .ref a0), (1, .int p1), (2, .int p2), (3, .int p3), (4, .int v4), (5, .int v5)]) rfl ?_
      refine z_aload_n (pc := 30) (x := a0) C dX8_telling_30 (i := 0) rfl rfl ?_
      refine z_iload_n (pc := 31) (x := p1) C dX8_telling_31 (i := 1) rfl rfl ?_
      refine z_iload (pc := 32) (x := v5) C dX8_telling_32 rfl ?_
      replace h := ob_e h
      obtain ⟨x3, hx3, h⟩ := h
      refine z_callV (pc := 34) (As := [.int p1, .int v5]) (rest := []) (wr := ([] : va_W)) C dX8_telling_34 ml_RX8_255 wv_X8_known (m_X8_known (a0 := a0) (r0 := r0) hg hx3) [0, 1, 2, 3, 4, 5, 6, 7, 8, 9, 10, 11, 12, 13, 14] [] rfl rfl ⟨by decide, by decide⟩ (Nat.le_of_ble_eq_true rfl) ⟨by decide, by decide⟩ rfl rfl rfl rfl rfl rfl rfl (by decide) (ex_k C (cs' := 0) (ss' := 0) (wF := (wX8 g a0 r0 s0)) [0, 1, 2, 3, 4, 5, 6, 7, 8, 9, 10, 11, 12, 13, 14] rfl rfl ?_)
      refine z_iconst (pc := 37) C dX8_telling_37 ic_1 ?_
      refine z_icmp_eq (pc := 38) C dX8_telling_38 (tgt := 70) (by decide) (fun hc => ?_) (fun hc => ?_)
      · replace h := (ite_e h).1 hc
        refine z_lv (lv' := [(0, .ref a0), (1, .int p1), (2, .int p2), (3, .int p3), (4, .int v4), (5, .int v5)]) [1, 2, 3, 4, 5, 6] rfl ?_
        exact m_X8_telling_70 (a0 := a0) (r0 := r0) hg C X hk6 v4 v5 h
      · replace h := (ite_e h).2 hc
        refine z_aload_n (pc := 41) (x := a0) C dX8_telling_41 (i := 0) rfl rfl ?_
        refine z_iload_n (pc := 42) (x := p1) C dX8_telling_42 (i := 1) rfl rfl ?_
        refine z_aload_n (pc := 43) (x := a0) C dX8_telling_43 (i := 0) rfl rfl ?_
        refine z_iload (pc := 44) (x := x2) C dX8_telling_44 rfl ?_
        refine z_iload_n (pc := 46) (x := p2) C dX8_telling_46 (i := 2) rfl rfl ?_
        refine z_iload_n (pc := 47) (x := p3) C dX8_telling_47 (i := 3) rfl rfl ?_
        replace h := ob_e h
        obtain ⟨x4, hx4, h⟩ := h
        refine z_callV (pc := 48) (As := [.int x2, .int p2, .int p3]) (rest := [.int p1, .ref a0]) (wr := ([] : va_W)) C dX8_telling_48 ml_RX8_271 wv_X8_colorsBehind (m_X8_colorsBehind (a0 := a0) (r0 := r0) hg hx4) [0, 1, 2, 3, 4, 5, 6, 7, 8, 9, 10, 11, 12, 13, 14] [] rfl rfl ⟨by decide, by decide⟩ (Nat.le_of_ble_eq_true rfl) ⟨by decide, by decide⟩ rfl rfl rfl rfl rfl rfl rfl (by decide) (ex_k C (cs' := 0) (ss' := 0) (wF := (wX8 g a0 r0 s0)) [0, 1, 2, 3, 4, 5, 6, 7, 8, 9, 10, 11, 12, 13, 14] rfl rfl ?_)
        refine z_aload_n (pc := 51) (x := a0) C dX8_telling_51 (i := 0) rfl rfl ?_
        refine z_iload (pc := 52) (x := x2) C dX8_telling_52 rfl ?_
        refine z_iload_n (pc := 54) (x := p2) C dX8_telling_54 (i := 2) rfl rfl ?_
        refine z_iload_n (pc := 55) (x := p3) C dX8_telling_55 (i := 3) rfl rfl ?_
        replace h := ob_e h
        obtain ⟨x5, hx5, h⟩ := h
        refine z_callV (pc := 56) (As := [.int x2, .int p2, .int p3]) (rest := [.int x4, .int p1, .ref a0]) (wr := ([] : va_W)) C dX8_telling_56 ml_RX8_274 wv_X8_ranksBehind (m_X8_ranksBehind (a0 := a0) (r0 := r0) hg hx5) [0, 1, 2, 3, 4, 5, 6, 7, 8, 9, 10, 11, 12, 13, 14] [] rfl rfl ⟨by decide, by decide⟩ (Nat.le_of_ble_eq_true rfl) ⟨by decide, by decide⟩ rfl rfl rfl rfl rfl rfl rfl (by decide) (ex_k C (cs' := 0) (ss' := 0) (wF := (wX8 g a0 r0 s0)) [0, 1, 2, 3, 4, 5, 6, 7, 8, 9, 10, 11, 12, 13, 14] rfl rfl ?_)
        replace h := ob_e h
        obtain ⟨x6, hx6, h⟩ := h
        refine z_callV (pc := 59) (As := [.int p1, .int x4, .int x5]) (rest := []) (wr := ([] : va_W)) C dX8_telling_59 ml_RX8_248 wv_X8_knownOf (m_X8_knownOf (a0 := a0) (r0 := r0) hg hx6) [0, 1, 2, 3, 4, 5, 6, 7, 8, 9, 10, 11, 12, 13, 14] [] rfl rfl ⟨by decide, by decide⟩ (Nat.le_of_ble_eq_true rfl) ⟨by decide, by decide⟩ rfl rfl rfl rfl rfl rfl rfl (by decide) (ex_k C (cs' := 0) (ss' := 0) (wF := (wX8 g a0 r0 s0)) [0, 1, 2, 3, 4, 5, 6, 7, 8, 9, 10, 11, 12, 13, 14] rfl rfl ?_)
        refine z_iconst (pc := 62) C dX8_telling_62 ic_1 ?_
        refine z_icmp_ne (pc := 63) C dX8_telling_63 (tgt := 70) (by decide) (fun hc => ?_) (fun hc => ?_)
        · replace h := (ite_e h).2 hc
          refine z_lv (lv' := [(0, .ref a0), (1, .int p1), (2, .int p2), (3, .int p3), (4, .int v4), (5, .int v5)]) [1, 2, 3, 4, 5, 6] rfl ?_
          exact m_X8_telling_70 (a0 := a0) (r0 := r0) hg C X hk6 v4 v5 h
        · replace h := (ite_e h).1 hc
          refine z_iconst (pc := 66) C dX8_telling_66 ic_1 ?_
          refine z_goto (pc := 67) C dX8_telling_67 (tgt := 71) (by decide) ?_
          refine z_lv (lv' := [(0, .ref a0), (1, .int p1), (2, .int p2), (3, .int p3), (4, .int v4), (5, .int v5)]) [1, 2, 3, 4, 5, 6] rfl ?_
          exact m_X8_telling_71 (a0 := a0) (r0 := r0) hg C X hk6 v4 v5 (1 : Int32) h
def f_X8_telling (N : Nat) (s0 : Ob) (p1 : Int32) (p2 : Int32) (p3 : Int32) : Option (Int32) := (f_X8_telling_6 N s0 p1 p2 p3 N (0 : Int32) (0 : Int32))
theorem m_X8_telling {g : Gp} {a0 : Nat} {r0 : Nat → Nat} {N : Nat} {s0 : Ob} {p1 : Int32} {p2 : Int32} {p3 : Int32} {res : Int32} (hg : Ok g) (h : f_X8_telling N s0 p1 p2 p3 = some res) : Ct g yX8_telling cX8_telling 8 (some .int) (zrm 5 122) [.ref a0, .int p1, .int p2, .int p3] (wX8 g a0 r0 s0) (exR (some (.int res)) (wX8 g a0 r0 s0)) := by
  refine ct_of rfl hg (by show _ ≤ _; exact Nat.le_of_ble_eq_true rfl) (fun K C X => ?_)
  show Zs K 0 0 (wX8 g a0 r0 s0) [(0, .ref a0), (1, .int p1), (2, .int p2), (3, .int p3)] 0 []
  unfold f_X8_telling at h
  refine z_iconst (pc := 0) C dX8_telling_0 ic_0 ?_
  refine z_istore (pc := 1) C dX8_telling_1 (by decide) (lv' := [(4, .int (0 : Int32)), (0, .ref a0), (1, .int p1), (2, .int p2), (3, .int p3)]) rfl ?_
  refine z_iconst (pc := 3) C dX8_telling_3 ic_0 ?_
  refine z_istore (pc := 4) C dX8_telling_4 (by decide) (lv' := [(5, .int (0 : Int32)), (4, .int (0 : Int32)), (0, .ref a0), (1, .int p1), (2, .int p2), (3, .int p3)]) rfl ?_
  refine z_lv (lv' := [(0, .ref a0), (1, .int p1), (2, .int p2), (3, .int p3), (4, .int (0 : Int32)), (5, .int (0 : Int32))]) [2, 3, 4, 5, 1, 0] rfl ?_
  exact m_X8_telling_6 (a0 := a0) (r0 := r0) hg C X N (0 : Int32) (0 : Int32) h
def f_X8_tells (N : Nat) (s0 : Ob) (p1 : Int32) (p2 : Int32) (p3 : Int32) : Option (Int32 × Ob) := (ob (f_X8_isPlayer N s0 p1) fun x1 => (ob (f_X8_isThrown N s0 x1 (1 : Int32)) fun x2 => (if x2.1 = 0 then (ob (f_X8_isWordOf N x2.2 p2 p3) fun x3 => (ob (f_X8_isThrown N x2.2 x3 (2 : Int32)) fun x4 => (if x4.1 = 0 then (ob (f_X8_telling N x4.2 p1 p2 p3) fun x5 => (some (x5, x4.2))) else (some ((0 : Int32), x4.2))))) else (some ((0 : Int32), x2.2)))))
theorem m_X8_tells {g : Gp} {a0 : Nat} {r0 : Nat → Nat} {N : Nat} {s0 : Ob} {p1 : Int32} {p2 : Int32} {p3 : Int32} {res : Int32 × Ob} (hg : Ok g) (h : f_X8_tells N s0 p1 p2 p3 = some res) : Ct g yX8_tells cX8_tells 4 (some .int) (zrm 6 149) [.ref a0, .int p1, .int p2, .int p3] (wX8 g a0 r0 s0) (exR (some (.int res.1)) (wX8 g a0 r0 res.2)) := by
  refine ct_of rfl hg (by show _ ≤ _; exact Nat.le_of_ble_eq_true rfl) (fun K C X => ?_)
  show Zs K 0 0 (wX8 g a0 r0 s0) [(0, .ref a0), (1, .int p1), (2, .int p2), (3, .int p3)] 0 []
  unfold f_X8_tells at h
  refine z_aload_n (pc := 0) (x := a0) C dX8_tells_0 (i := 0) rfl rfl ?_
  refine z_aload_n (pc := 1) (x := a0) C dX8_tells_1 (i := 0) rfl rfl ?_
  refine z_iload_n (pc := 2) (x := p1) C dX8_tells_2 (i := 1) rfl rfl ?_
  replace h := ob_e h
  obtain ⟨x1, hx1, h⟩ := h
  refine z_callV (pc := 3) (As := [.int p1]) (rest := [.ref a0]) (wr := ([] : va_W)) C dX8_tells_3 ml_RX8_66 wv_X8_isPlayer (m_X8_isPlayer (a0 := a0) (r0 := r0) hg hx1) [0, 1, 2, 3, 4, 5, 6, 7, 8, 9, 10, 11, 12, 13, 14] [] rfl rfl ⟨by decide, by decide⟩ (Nat.le_of_ble_eq_true rfl) ⟨by decide, by decide⟩ rfl rfl rfl rfl rfl rfl rfl (by decide) (ex_k C (cs' := 0) (ss' := 0) (wF := (wX8 g a0 r0 s0)) [0, 1, 2, 3, 4, 5, 6, 7, 8, 9, 10, 11, 12, 13, 14] rfl rfl ?_)
  refine z_iconst (pc := 6) C dX8_tells_6 ic_1 ?_
  replace h := ob_e h
  obtain ⟨x2, hx2, h⟩ := h
  refine z_callV (pc := 7) (As := [.int x1, .int (1 : Int32)]) (rest := []) (wr := ([] : va_W)) C dX8_tells_7 ml_RX8_206 wv_X8_isThrown (m_X8_isThrown (a0 := a0) (r0 := r0) hg hx2) [0, 1, 2, 3, 4, 5, 6, 7, 8, 9, 10, 11, 12, 13, 14] [] rfl rfl ⟨by decide, by decide⟩ (Nat.le_of_ble_eq_true rfl) ⟨by decide, by decide⟩ rfl rfl rfl rfl rfl rfl rfl (by decide) (ex_k C (cs' := 0) (ss' := 0) (wF := (wX8 g a0 r0 x2.2)) [0, 1, 2, 3, 4, 5, 6, 7, 8, 9, 10, 11, 12, 13, 14] rfl rfl ?_)
  refine z_if_ne (pc := 10) C dX8_tells_10 (tgt := 27) (by decide) (fun hc => ?_) (fun hc => ?_)
  · replace h := (ite_e h).2 hc
    refine z_iconst (pc := 27) C dX8_tells_27 ic_0 ?_
    refine z_goto (pc := 28) C dX8_tells_28 (tgt := 38) (by decide) ?_
    exact z_iret C X dX8_tells_38 (by rw [← Option.some.inj h]; exact ⟨rfl, rfl⟩) (by decide) (by decide)
  · replace h := (ite_e h).1 hc
    refine z_aload_n (pc := 13) (x := a0) C dX8_tells_13 (i := 0) rfl rfl ?_
    refine z_aload_n (pc := 14) (x := a0) C dX8_tells_14 (i := 0) rfl rfl ?_
    refine z_iload_n (pc := 15) (x := p2) C dX8_tells_15 (i := 2) rfl rfl ?_
    refine z_iload_n (pc := 16) (x := p3) C dX8_tells_16 (i := 3) rfl rfl ?_
    replace h := ob_e h
    obtain ⟨x3, hx3, h⟩ := h
    refine z_callV (pc := 17) (As := [.int p2, .int p3]) (rest := [.ref a0]) (wr := ([] : va_W)) C dX8_tells_17 ml_RX8_258 wv_X8_isWordOf (m_X8_isWordOf (a0 := a0) (r0 := r0) hg hx3) [0, 1, 2, 3, 4, 5, 6, 7, 8, 9, 10, 11, 12, 13, 14] [] rfl rfl ⟨by decide, by decide⟩ (Nat.le_of_ble_eq_true rfl) ⟨by decide, by decide⟩ rfl rfl rfl rfl rfl rfl rfl (by decide) (ex_k C (cs' := 0) (ss' := 0) (wF := (wX8 g a0 r0 x2.2)) [0, 1, 2, 3, 4, 5, 6, 7, 8, 9, 10, 11, 12, 13, 14] rfl rfl ?_)
    refine z_iconst (pc := 20) C dX8_tells_20 ic_2 ?_
    replace h := ob_e h
    obtain ⟨x4, hx4, h⟩ := h
    refine z_callV (pc := 21) (As := [.int x3, .int (2 : Int32)]) (rest := []) (wr := ([] : va_W)) C dX8_tells_21 ml_RX8_206 wv_X8_isThrown (m_X8_isThrown (a0 := a0) (r0 := r0) hg hx4) [0, 1, 2, 3, 4, 5, 6, 7, 8, 9, 10, 11, 12, 13, 14] [] rfl rfl ⟨by decide, by decide⟩ (Nat.le_of_ble_eq_true rfl) ⟨by decide, by decide⟩ rfl rfl rfl rfl rfl rfl rfl (by decide) (ex_k C (cs' := 0) (ss' := 0) (wF := (wX8 g a0 r0 x4.2)) [0, 1, 2, 3, 4, 5, 6, 7, 8, 9, 10, 11, 12, 13, 14] rfl rfl ?_)
    refine z_if_eq (pc := 24) C dX8_tells_24 (tgt := 31) (by decide) (fun hc => ?_) (fun hc => ?_)
    · replace h := (ite_e h).1 hc
      refine z_aload_n (pc := 31) (x := a0) C dX8_tells_31 (i := 0) rfl rfl ?_
      refine z_iload_n (pc := 32) (x := p1) C dX8_tells_32 (i := 1) rfl rfl ?_
      refine z_iload_n (pc := 33) (x := p2) C dX8_tells_33 (i := 2) rfl rfl ?_
      refine z_iload_n (pc := 34) (x := p3) C dX8_tells_34 (i := 3) rfl rfl ?_
      replace h := ob_e h
      obtain ⟨x5, hx5, h⟩ := h
      refine z_callV (pc := 35) (As := [.int p1, .int p2, .int p3]) (rest := []) (wr := ([] : va_W)) C dX8_tells_35 ml_RX8_277 wv_X8_telling (m_X8_telling (a0 := a0) (r0 := r0) hg hx5) [0, 1, 2, 3, 4, 5, 6, 7, 8, 9, 10, 11, 12, 13, 14] [] rfl rfl ⟨by decide, by decide⟩ (Nat.le_of_ble_eq_true rfl) ⟨by decide, by decide⟩ rfl rfl rfl rfl rfl rfl rfl (by decide) (ex_k C (cs' := 0) (ss' := 0) (wF := (wX8 g a0 r0 x4.2)) [0, 1, 2, 3, 4, 5, 6, 7, 8, 9, 10, 11, 12, 13, 14] rfl rfl ?_)
      exact z_iret C X dX8_tells_38 (by rw [← Option.some.inj h]; exact ⟨rfl, rfl⟩) (by decide) (by decide)
    · replace h := (ite_e h).2 hc
      refine z_iconst (pc := 27) C dX8_tells_27 ic_0 ?_
      refine z_goto (pc := 28) C dX8_tells_28 (tgt := 38) (by decide) ?_
      exact z_iret C X dX8_tells_38 (by rw [← Option.some.inj h]; exact ⟨rfl, rfl⟩) (by decide) (by decide)
def f_X8_keeps_50 (N : Nat)  (s0 : Ob) : Option (Ob) := (ob (f_X8_copies N 358 7160 (s0.2.2.1 0) (s0.2.2.1 3) (0 : Int32) (s0.1 6)) fun x1 => (znm (sa s0 3 x1) fun y2 => (some (si y2 6 ((s0.1 6) + (1 : Int32))))))
theorem m_X8_keeps_50 {K : Kt} {g : Gp} {a0 : Nat} {r0 : Nat → Nat} {N : Nat} {res : Ob} (hg : Ok g) (C : Cx K g cX8_keeps RX8 2 (zrm 1 24)) (X : Rx K (exR none (wX8 g a0 r0 res)) 0 0 none) (s0 : Ob) (h : f_X8_keeps_50 N s0 = some res) : Zs K 0 0 (wX8 g a0 r0 s0) [(0, .ref a0)] 50 [] := by
  unfold f_X8_keeps_50 at h
  refine z_aload_n (pc := 50) (x := a0) C dX8_keeps_50 (i := 0) rfl rfl ?_
  refine z_get (pc := 51) (v := .ref (r0 0)) C 0 dX8_keeps_51 fl_RX8_9 rfl rfl ?_
  refine z_iconst (pc := 54) C dX8_keeps_54 ic_0 ?_
  refine z_aload_n (pc := 55) (x := a0) C dX8_keeps_55 (i := 0) rfl rfl ?_
  refine z_get (pc := 56) (v := .ref (r0 3)) C 0 dX8_keeps_56 fl_RX8_19 rfl rfl ?_
  refine z_aload_n (pc := 59) (x := a0) C dX8_keeps_59 (i := 0) rfl rfl ?_
  refine z_get (pc := 60) (v := .int (s0.1 6)) C 0 dX8_keeps_60 fl_RX8_200 rfl rfl ?_
  replace h := ob_e h
  obtain ⟨x1, hx1, h⟩ := h
  refine z_callS (pc := 63) (As := [.ref (r0 0), .int (0 : Int32), .ref (r0 3), .int (s0.1 6)]) (rest := []) (wr := ((((wX8 g a0 r0 s0).eraseIdx 4).eraseIdx 1))) C dX8_keeps_63 ml_RX8_197 wt_X8_copies (m_X8_copies (a0 := (r0 0)) (a2 := (r0 3)) hg hx1) [1, 4] [0, 2, 3, 5, 6, 7, 8, 9, 10, 11, 12, 13, 14] rfl rfl ⟨by decide, by decide⟩ (Nat.le_of_ble_eq_true rfl) ⟨by decide, by decide⟩ rfl rfl rfl rfl (by decide) (ex_k C (cs' := 0) (ss' := 0) (wF := (wX8 g a0 r0 (sa s0 3 x1))) [0, 13, 1, 2, 14, 3, 4, 5, 6, 7, 8, 9, 10, 11, 12] rfl rfl ?_)
  refine z_aload_n (pc := 66) (x := a0) C dX8_keeps_66 (i := 0) rfl rfl ?_
  refine z_dup (pc := 67) C dX8_keeps_67 rfl ?_
  refine z_get (pc := 68) (v := .int (s0.1 6)) C 0 dX8_keeps_68 fl_RX8_200 rfl rfl ?_
  refine z_iconst (pc := 71) C dX8_keeps_71 ic_1 ?_
  refine z_iadd (pc := 72) C dX8_keeps_72 ?_
  replace h := znm_e h
  obtain ⟨y2, hy2, h⟩ := h
  refine z_wsE (ws' := (wX8 g a0 r0 y2)) (by rw [hy2]) ?_
  refine z_put (pc := 73) C 0 dX8_keeps_73 fp_RX8_200 rfl rfl rfl (zlt_b rfl) (ws' := (wX8 g a0 r0 (si y2 6 ((s0.1 6) + (1 : Int32))))) rfl ?_
  exact z_vret C X dX8_keeps_76 (by rw [← Option.some.inj h]; exact ⟨rfl, rfl⟩) (by decide) (by decide)
def F_X8_keeps_11 (N : Nat)  (k11 : Int32 → Ob → Option (Ob)) (v1 : Int32) (s0 : Ob) : Option (Ob) := (if (6802 : Int32) ≤ v1 then (f_X8_keeps_50 N (si s0 6 ((s0.1 6) - (1 : Int32)))) else (chk (inb (v1 + (358 : Int32)) 7160) (chk (inb v1 7160) (k11 (v1 + (1 : Int32)) (sa s0 3 (upd (s0.2.2.1 3) (v1).toNatClampNeg ((s0.2.2.1 3) ((v1 + (358 : Int32))).toNatClampNeg)))))))
def f_X8_keeps_11 (N : Nat)  : Nat → Int32 → Ob → Option (Ob) := zlp (fun _ _ => none) (F_X8_keeps_11 N)
theorem m_X8_keeps_11 {K : Kt} {g : Gp} {a0 : Nat} {r0 : Nat → Nat} {N : Nat} {res : Ob} (hg : Ok g) (C : Cx K g cX8_keeps RX8 2 (zrm 1 24)) (X : Rx K (exR none (wX8 g a0 r0 res)) 0 0 none) : ∀ (n : Nat) (v1 : Int32) (s0 : Ob), f_X8_keeps_11 N n v1 s0 = some res → Zs K 0 0 (wX8 g a0 r0 s0) [(0, .ref a0), (1, .int v1)] 11 [] := by
  intro n
  induction n with
  | zero => intro v1 s0 h; exact nomatch (show (none : Option (Ob)) = some res from h)
  | succ n hk11 =>
    intro v1 s0 h
    replace h : F_X8_keeps_11 N (f_X8_keeps_11 N n) v1 s0 = some res := h
    unfold F_X8_keeps_11 at h
    refine z_iload_n (pc := 11) (x := v1) C dX8_keeps_11 (i := 1) rfl rfl ?_
    refine z_sipush (pc := 12) C dX8_keeps_12 sp_6802 ?_
    refine z_icmp_ge (pc := 15) C dX8_keeps_15 (tgt := 40) (by decide) (fun hc => ?_) (fun hc => ?_)
    · replace h := (ite_e h).1 hc
      refine z_aload_n (pc := 40) (x := a0) C dX8_keeps_40 (i := 0) rfl rfl ?_
      refine z_dup (pc := 41) C dX8_keeps_41 rfl ?_
      refine z_get (pc := 42) (v := .int (s0.1 6)) C 0 dX8_keeps_42 fl_RX8_200 rfl rfl ?_
      refine z_iconst (pc := 45) C dX8_keeps_45 ic_1 ?_
      refine z_isub (pc := 46) C dX8_keeps_46 ?_
      refine z_put (pc := 47) C 0 dX8_keeps_47 fp_RX8_200 rfl rfl rfl (zlt_b rfl) (ws' := (wX8 g a0 r0 (si s0 6 ((s0.1 6) - (1 : Int32))))) rfl ?_
      refine z_lv (lv' := [(0, .ref a0)]) [0] rfl ?_
      exact m_X8_keeps_50 (a0 := a0) (r0 := r0) hg C X (si s0 6 ((s0.1 6) - (1 : Int32))) h
    · replace h := (ite_e h).2 hc
      refine z_aload_n (pc := 18) (x := a0) C dX8_keeps_18 (i := 0) rfl rfl ?_
      refine z_get (pc := 19) (v := .ref (r0 3)) C 0 dX8_keeps_19 fl_RX8_19 rfl rfl ?_
      refine z_iload_n (pc := 22) (x := v1) C dX8_keeps_22 (i := 1) rfl rfl ?_
      refine z_aload_n (pc := 23) (x := a0) C dX8_keeps_23 (i := 0) rfl rfl ?_
      refine z_get (pc := 24) (v := .ref (r0 3)) C 0 dX8_keeps_24 fl_RX8_19 rfl rfl ?_
      refine z_iload_n (pc := 27) (x := v1) C dX8_keeps_27 (i := 1) rfl rfl ?_
      refine z_sipush (pc := 28) C dX8_keeps_28 sp_358 ?_
      refine z_iadd (pc := 31) C dX8_keeps_31 ?_
      replace h := chk_e h
      obtain ⟨hb3, h⟩ := h
      refine z_iald (pc := 32) C 4 dX8_keeps_32 rfl hb3 ?_
      replace h := chk_e h
      obtain ⟨hb4, h⟩ := h
      refine z_iast (pc := 33) C 4 dX8_keeps_33 rfl hb4 (ws' := (wX8 g a0 r0 (sa s0 3 (upd (s0.2.2.1 3) (v1).toNatClampNeg ((s0.2.2.1 3) ((v1 + (358 : Int32))).toNatClampNeg))))) rfl ?_
      refine z_iinc (pc := 34) C dX8_keeps_34 rfl (inc_e 1 (1 : Int32) ic_1 v1) (by decide) (lv' := [(1, .int (v1 + (1 : Int32))), (0, .ref a0)]) rfl ?_
      refine z_goto (pc := 37) C dX8_keeps_37 (tgt := 11) (by decide) ?_
      refine z_lv (lv' := [(0, .ref a0), (1, .int (v1 + (1 : Int32)))]) [1, 0] rfl ?_
      exact hk11 (v1 + (1 : Int32)) (sa s0 3 (upd (s0.2.2.1 3) (v1).toNatClampNeg ((s0.2.2.1 3) ((v1 + (358 : Int32))).toNatClampNeg))) h
def f_X8_keeps (N : Nat) (s0 : Ob) : Option (Ob) := (if (s0.1 6) = (20 : Int32) then (f_X8_keeps_11 N N (0 : Int32) s0) else (f_X8_keeps_50 N s0))
theorem m_X8_keeps {g : Gp} {a0 : Nat} {r0 : Nat → Nat} {N : Nat} {s0 : Ob} {res : Ob} (hg : Ok g) (h : f_X8_keeps N s0 = some res) : Ct g yX8_keeps cX8_keeps 2 none (zrm 1 24) [.ref a0] (wX8 g a0 r0 s0) (exR none (wX8 g a0 r0 res)) := by
  refine ct_of rfl hg (by show _ ≤ _; exact Nat.le_of_ble_eq_true rfl) (fun K C X => ?_)
  show Zs K 0 0 (wX8 g a0 r0 s0) [(0, .ref a0)] 0 []
  unfold f_X8_keeps at h
  refine z_aload_n (pc := 0) (x := a0) C dX8_keeps_0 (i := 0) rfl rfl ?_
  refine z_get (pc := 1) (v := .int (s0.1 6)) C 0 dX8_keeps_1 fl_RX8_200 rfl rfl ?_
  refine z_bipush (pc := 4) C dX8_keeps_4 bp_20 ?_
  refine z_icmp_ne (pc := 6) C dX8_keeps_6 (tgt := 50) (by decide) (fun hc => ?_) (fun hc => ?_)
  · replace h := (ite_e h).2 hc
    exact m_X8_keeps_50 (a0 := a0) (r0 := r0) hg C X s0 h
  · replace h := (ite_e h).1 hc
    refine z_iconst (pc := 9) C dX8_keeps_9 ic_0 ?_
    refine z_istore_n (pc := 10) C dX8_keeps_10 (i := 1) rfl (by decide) (lv' := [(1, .int (0 : Int32)), (0, .ref a0)]) rfl ?_
    refine z_lv (lv' := [(0, .ref a0), (1, .int (0 : Int32))]) [1, 0] rfl ?_
    exact m_X8_keeps_11 (a0 := a0) (r0 := r0) hg C X N (0 : Int32) s0 h
def f_X8_undo (N : Nat) (s0 : Ob) : Option (Int32 × Ob) := (if (s0.1 6) = 0 then (some ((-1 : Int32), (si s0 7 (0 : Int32)))) else (znm (si s0 7 (0 : Int32)) fun y1 => (znm (si y1 6 ((s0.1 6) - (1 : Int32))) fun y2 => (ob (f_X8_copies N 7160 358 (y2.2.2.1 3) (y2.2.2.1 0) ((s0.1 6) - (1 : Int32)) (0 : Int32)) fun x3 => (some ((y2.1 6), (sa y2 0 x3)))))))
theorem m_X8_undo {g : Gp} {a0 : Nat} {r0 : Nat → Nat} {N : Nat} {s0 : Ob} {res : Int32 × Ob} (hg : Ok g) (h : f_X8_undo N s0 = some res) : Ct g yX8_undo cX8_undo 1 (some .int) (zrm 1 24) [.ref a0] (wX8 g a0 r0 s0) (exR (some (.int res.1)) (wX8 g a0 r0 res.2)) := by
  refine ct_of rfl hg (by show _ ≤ _; exact Nat.le_of_ble_eq_true rfl) (fun K C X => ?_)
  show Zs K 0 0 (wX8 g a0 r0 s0) [(0, .ref a0)] 0 []
  unfold f_X8_undo at h
  refine z_aload_n (pc := 0) (x := a0) C dX8_undo_0 (i := 0) rfl rfl ?_
  refine z_iconst (pc := 1) C dX8_undo_1 ic_0 ?_
  refine z_put (pc := 2) C 0 dX8_undo_2 fp_RX8_59 rfl rfl rfl (zlt_b rfl) (ws' := (wX8 g a0 r0 (si s0 7 (0 : Int32)))) rfl ?_
  refine z_aload_n (pc := 5) (x := a0) C dX8_undo_5 (i := 0) rfl rfl ?_
  refine z_get (pc := 6) (v := .int (s0.1 6)) C 0 dX8_undo_6 fl_RX8_200 rfl rfl ?_
  refine z_if_ne (pc := 9) C dX8_undo_9 (tgt := 14) (by decide) (fun hc => ?_) (fun hc => ?_)
  · replace h := (ite_e h).2 hc
    refine z_aload_n (pc := 14) (x := a0) C dX8_undo_14 (i := 0) rfl rfl ?_
    refine z_dup (pc := 15) C dX8_undo_15 rfl ?_
    refine z_get (pc := 16) (v := .int (s0.1 6)) C 0 dX8_undo_16 fl_RX8_200 rfl rfl ?_
    refine z_iconst (pc := 19) C dX8_undo_19 ic_1 ?_
    refine z_isub (pc := 20) C dX8_undo_20 ?_
    replace h := znm_e h
    obtain ⟨y1, hy1, h⟩ := h
    refine z_wsE (ws' := (wX8 g a0 r0 y1)) (by rw [hy1]) ?_
    refine z_put (pc := 21) C 0 dX8_undo_21 fp_RX8_200 rfl rfl rfl (zlt_b rfl) (ws' := (wX8 g a0 r0 (si y1 6 ((s0.1 6) - (1 : Int32))))) rfl ?_
    refine z_aload_n (pc := 24) (x := a0) C dX8_undo_24 (i := 0) rfl rfl ?_
    refine z_get (pc := 25) (v := .ref (r0 3)) C 0 dX8_undo_25 fl_RX8_19 rfl rfl ?_
    refine z_aload_n (pc := 28) (x := a0) C dX8_undo_28 (i := 0) rfl rfl ?_
    refine z_get (pc := 29) (v := .int ((s0.1 6) - (1 : Int32))) C 0 dX8_undo_29 fl_RX8_200 rfl rfl ?_
    refine z_aload_n (pc := 32) (x := a0) C dX8_undo_32 (i := 0) rfl rfl ?_
    refine z_get (pc := 33) (v := .ref (r0 0)) C 0 dX8_undo_33 fl_RX8_9 rfl rfl ?_
    refine z_iconst (pc := 36) C dX8_undo_36 ic_0 ?_
    replace h := znm_e h
    obtain ⟨y2, hy2, h⟩ := h
    refine z_wsE (ws' := (wX8 g a0 r0 y2)) (by rw [hy2]) ?_
    replace h := ob_e h
    obtain ⟨x3, hx3, h⟩ := h
    refine z_callS (pc := 37) (As := [.ref (r0 3), .int ((s0.1 6) - (1 : Int32)), .ref (r0 0), .int (0 : Int32)]) (rest := []) (wr := ((((wX8 g a0 r0 y2).eraseIdx 4).eraseIdx 1))) C dX8_undo_37 ml_RX8_197 wt_X8_copies (m_X8_copies (a0 := (r0 3)) (a2 := (r0 0)) hg hx3) [4, 1] [0, 2, 3, 5, 6, 7, 8, 9, 10, 11, 12, 13, 14] rfl rfl ⟨by decide, by decide⟩ (Nat.le_of_ble_eq_true rfl) ⟨by decide, by decide⟩ rfl rfl rfl rfl (by decide) (ex_k C (cs' := 0) (ss' := 0) (wF := (wX8 g a0 r0 (sa y2 0 x3))) [0, 14, 1, 2, 13, 3, 4, 5, 6, 7, 8, 9, 10, 11, 12] rfl rfl ?_)
    refine z_aload_n (pc := 40) (x := a0) C dX8_undo_40 (i := 0) rfl rfl ?_
    refine z_get (pc := 41) (v := .int (y2.1 6)) C 0 dX8_undo_41 fl_RX8_200 rfl rfl ?_
    exact z_iret C X dX8_undo_44 (by rw [← Option.some.inj h]; exact ⟨rfl, rfl⟩) (by decide) (by decide)
  · replace h := (ite_e h).1 hc
    refine z_iconst (pc := 12) C dX8_undo_12 ic_m1 ?_
    exact z_iret C X dX8_undo_13 (by rw [← Option.some.inj h]; exact ⟨rfl, rfl⟩) (by decide) (by decide)
def f_X8_logs (N : Nat) (s0 : Ob) (p1 : Int32) (p2 : Int32) (p3 : Int32) : Option (Ob) := (znm ((4 : Int32) * (((s0.2.2.1 0) 13) - ((s0.2.2.1 0) 13) / (30 : Int32) * (30 : Int32))) fun x1 => (chk (inb ((238 : Int32) + x1) 358) (znm (sa s0 0 (upd (s0.2.2.1 0) (((238 : Int32) + x1)).toNatClampNeg ((s0.2.2.1 0) 10))) fun y3 => (chk (inb (((238 : Int32) + x1) + (1 : Int32)) 358) (znm (sa y3 0 (upd (y3.2.2.1 0) ((((238 : Int32) + x1) + (1 : Int32))).toNatClampNeg p1)) fun y5 => (chk (inb (((238 : Int32) + x1) + (2 : Int32)) 358) (znm (sa y5 0 (upd (y5.2.2.1 0) ((((238 : Int32) + x1) + (2 : Int32))).toNatClampNeg p2)) fun y7 => (chk (inb (((238 : Int32) + x1) + (3 : Int32)) 358) (znm ((upd (y7.2.2.1 0) ((((238 : Int32) + x1) + (3 : Int32))).toNatClampNeg p3) 13) fun x9 => (znm (sa y7 0 (upd (y7.2.2.1 0) ((((238 : Int32) + x1) + (3 : Int32))).toNatClampNeg p3)) fun y10 => (some (sa y10 0 (upd (y10.2.2.1 0) 13 (x9 + (1 : Int32)))))))))))))))
theorem m_X8_logs {g : Gp} {a0 : Nat} {r0 : Nat → Nat} {N : Nat} {s0 : Ob} {p1 : Int32} {p2 : Int32} {p3 : Int32} {res : Ob} (hg : Ok g) (h : f_X8_logs N s0 p1 p2 p3 = some res) : Ct g yX8_logs cX8_logs 5 none (zrm 0 0) [.ref a0, .int p1, .int p2, .int p3] (wX8 g a0 r0 s0) (exR none (wX8 g a0 r0 res)) := by
  refine ct_of rfl hg (by show _ ≤ _; exact Nat.le_of_ble_eq_true rfl) (fun K C X => ?_)
  show Zs K 0 0 (wX8 g a0 r0 s0) [(0, .ref a0), (1, .int p1), (2, .int p2), (3, .int p3)] 0 []
  unfold f_X8_logs at h
  refine z_sipush (pc := 0) C dX8_logs_0 sp_238 ?_
  refine z_iconst (pc := 3) C dX8_logs_3 ic_4 ?_
  refine z_aload_n (pc := 4) (x := a0) C dX8_logs_4 (i := 0) rfl rfl ?_
  refine z_get (pc := 5) (v := .ref (r0 0)) C 0 dX8_logs_5 fl_RX8_9 rfl rfl ?_
  refine z_bipush (pc := 8) C dX8_logs_8 bp_13 ?_
  refine z_iald (pc := 10) C 1 dX8_logs_10 rfl (by decide) ?_
  refine z_top1 (v := ((s0.2.2.1 0) 13)) rfl ?_
  refine z_bipush (pc := 11) C dX8_logs_11 bp_30 ?_
  refine z_irem (pc := 13) C dX8_logs_13 (by decide) ?_
  refine z_imul (pc := 14) C dX8_logs_14 ?_
  replace h := znm_e h
  obtain ⟨x1, hx1, h⟩ := h
  refine z_top1 hx1 ?_
  refine z_iadd (pc := 15) C dX8_logs_15 ?_
  refine z_istore (pc := 16) C dX8_logs_16 (by decide) (lv' := [(4, .int ((238 : Int32) + x1)), (0, .ref a0), (1, .int p1), (2, .int p2), (3, .int p3)]) rfl ?_
  refine z_aload_n (pc := 18) (x := a0) C dX8_logs_18 (i := 0) rfl rfl ?_
  refine z_get (pc := 19) (v := .ref (r0 0)) C 0 dX8_logs_19 fl_RX8_9 rfl rfl ?_
  refine z_iload (pc := 22) (x := ((238 : Int32) + x1)) C dX8_logs_22 rfl ?_
  refine z_aload_n (pc := 24) (x := a0) C dX8_logs_24 (i := 0) rfl rfl ?_
  refine z_get (pc := 25) (v := .ref (r0 0)) C 0 dX8_logs_25 fl_RX8_9 rfl rfl ?_
  refine z_bipush (pc := 28) C dX8_logs_28 bp_10 ?_
  refine z_iald (pc := 30) C 1 dX8_logs_30 rfl (by decide) ?_
  refine z_top1 (v := ((s0.2.2.1 0) 10)) rfl ?_
  replace h := chk_e h
  obtain ⟨hb2, h⟩ := h
  refine z_iast (pc := 31) C 1 dX8_logs_31 rfl hb2 (ws' := (wX8 g a0 r0 (sa s0 0 (upd (s0.2.2.1 0) (((238 : Int32) + x1)).toNatClampNeg ((s0.2.2.1 0) 10))))) rfl ?_
  refine z_aload_n (pc := 32) (x := a0) C dX8_logs_32 (i := 0) rfl rfl ?_
  refine z_get (pc := 33) (v := .ref (r0 0)) C 0 dX8_logs_33 fl_RX8_9 rfl rfl ?_
  refine z_iload (pc := 36) (x := ((238 : Int32) + x1)) C dX8_logs_36 rfl ?_
  refine z_iconst (pc := 38) C dX8_logs_38 ic_1 ?_
  refine z_iadd (pc := 39) C dX8_logs_39 ?_
  refine z_iload_n (pc := 40) (x := p1) C dX8_logs_40 (i := 1) rfl rfl ?_
  replace h := znm_e h
  obtain ⟨y3, hy3, h⟩ := h
  refine z_wsE (ws' := (wX8 g a0 r0 y3)) (by rw [hy3]) ?_
  replace h := chk_e h
  obtain ⟨hb4, h⟩ := h
  refine z_iast (pc := 41) C 1 dX8_logs_41 rfl hb4 (ws' := (wX8 g a0 r0 (sa y3 0 (upd (y3.2.2.1 0) ((((238 : Int32) + x1) + (1 : Int32))).toNatClampNeg p1)))) rfl ?_
  refine z_aload_n (pc := 42) (x := a0) C dX8_logs_42 (i := 0) rfl rfl ?_
  refine z_get (pc := 43) (v := .ref (r0 0)) C 0 dX8_logs_43 fl_RX8_9 rfl rfl ?_
  refine z_iload (pc := 46) (x := ((238 : Int32) + x1)) C dX8_logs_46 rfl ?_
  refine z_iconst (pc := 48) C dX8_logs_48 ic_2 ?_
  refine z_iadd (pc := 49) C dX8_logs_49 ?_
  refine z_iload_n (pc := 50) (x := p2) C dX8_logs_50 (i := 2) rfl rfl ?_
  replace h := znm_e h
  obtain ⟨y5, hy5, h⟩ := h
  refine z_wsE (ws' := (wX8 g a0 r0 y5)) (by rw [hy5]) ?_
  replace h := chk_e h
  obtain ⟨hb6, h⟩ := h
  refine z_iast (pc := 51) C 1 dX8_logs_51 rfl hb6 (ws' := (wX8 g a0 r0 (sa y5 0 (upd (y5.2.2.1 0) ((((238 : Int32) + x1) + (2 : Int32))).toNatClampNeg p2)))) rfl ?_
  refine z_aload_n (pc := 52) (x := a0) C dX8_logs_52 (i := 0) rfl rfl ?_
  refine z_get (pc := 53) (v := .ref (r0 0)) C 0 dX8_logs_53 fl_RX8_9 rfl rfl ?_
  refine z_iload (pc := 56) (x := ((238 : Int32) + x1)) C dX8_logs_56 rfl ?_
  refine z_iconst (pc := 58) C dX8_logs_58 ic_3 ?_
  refine z_iadd (pc := 59) C dX8_logs_59 ?_
  refine z_iload_n (pc := 60) (x := p3) C dX8_logs_60 (i := 3) rfl rfl ?_
  replace h := znm_e h
  obtain ⟨y7, hy7, h⟩ := h
  refine z_wsE (ws' := (wX8 g a0 r0 y7)) (by rw [hy7]) ?_
  replace h := chk_e h
  obtain ⟨hb8, h⟩ := h
  refine z_iast (pc := 61) C 1 dX8_logs_61 rfl hb8 (ws' := (wX8 g a0 r0 (sa y7 0 (upd (y7.2.2.1 0) ((((238 : Int32) + x1) + (3 : Int32))).toNatClampNeg p3)))) rfl ?_
  refine z_aload_n (pc := 62) (x := a0) C dX8_logs_62 (i := 0) rfl rfl ?_
  refine z_get (pc := 63) (v := .ref (r0 0)) C 0 dX8_logs_63 fl_RX8_9 rfl rfl ?_
  refine z_bipush (pc := 66) C dX8_logs_66 bp_13 ?_
  refine z_dup2 (pc := 68) C dX8_logs_68 rfl rfl ?_
  refine z_iald (pc := 69) C 1 dX8_logs_69 rfl (by decide) ?_
  refine z_top1 (v := ((upd (y7.2.2.1 0) ((((238 : Int32) + x1) + (3 : Int32))).toNatClampNeg p3) 13)) rfl ?_
  replace h := znm_e h
  obtain ⟨x9, hx9, h⟩ := h
  refine z_top1 hx9 ?_
  refine z_iconst (pc := 70) C dX8_logs_70 ic_1 ?_
  refine z_iadd (pc := 71) C dX8_logs_71 ?_
  replace h := znm_e h
  obtain ⟨y10, hy10, h⟩ := h
  refine z_wsE (ws' := (wX8 g a0 r0 y10)) (by rw [hy10]) ?_
  refine z_iast (pc := 72) C 1 dX8_logs_72 rfl (by decide) (ws' := (wX8 g a0 r0 (sa y10 0 (upd (y10.2.2.1 0) 13 (x9 + (1 : Int32)))))) rfl ?_
  exact z_vret C X dX8_logs_73 (by rw [← Option.some.inj h]; exact ⟨rfl, rfl⟩) (by decide) (by decide)
def f_X8_tokenBack (N : Nat) (s0 : Ob) : Option (Ob) := (if ((s0.2.2.1 0) 6) ≤ ((s0.2.2.1 0) 7) then (some s0) else (znm (((upd (s0.2.2.1 0) 7 (((s0.2.2.1 0) 7) + (1 : Int32))) 235) + (1 : Int32)) fun x1 => (znm (sa s0 0 (upd (s0.2.2.1 0) 7 (((s0.2.2.1 0) 7) + (1 : Int32)))) fun y2 => (some (sa y2 0 (upd (y2.2.2.1 0) 235 x1))))))
theorem m_X8_tokenBack {g : Gp} {a0 : Nat} {r0 : Nat → Nat} {N : Nat} {s0 : Ob} {res : Ob} (hg : Ok g) (h : f_X8_tokenBack N s0 = some res) : Ct g yX8_tokenBack cX8_tokenBack 1 none (zrm 0 0) [.ref a0] (wX8 g a0 r0 s0) (exR none (wX8 g a0 r0 res)) := by
  refine ct_of rfl hg (by show _ ≤ _; exact Nat.le_of_ble_eq_true rfl) (fun K C X => ?_)
  show Zs K 0 0 (wX8 g a0 r0 s0) [(0, .ref a0)] 0 []
  unfold f_X8_tokenBack at h
  refine z_aload_n (pc := 0) (x := a0) C dX8_tokenBack_0 (i := 0) rfl rfl ?_
  refine z_get (pc := 1) (v := .ref (r0 0)) C 0 dX8_tokenBack_1 fl_RX8_9 rfl rfl ?_
  refine z_bipush (pc := 4) C dX8_tokenBack_4 bp_7 ?_
  refine z_iald (pc := 6) C 1 dX8_tokenBack_6 rfl (by decide) ?_
  refine z_top1 (v := ((s0.2.2.1 0) 7)) rfl ?_
  refine z_aload_n (pc := 7) (x := a0) C dX8_tokenBack_7 (i := 0) rfl rfl ?_
  refine z_get (pc := 8) (v := .ref (r0 0)) C 0 dX8_tokenBack_8 fl_RX8_9 rfl rfl ?_
  refine z_bipush (pc := 11) C dX8_tokenBack_11 bp_6 ?_
  refine z_iald (pc := 13) C 1 dX8_tokenBack_13 rfl (by decide) ?_
  refine z_top1 (v := ((s0.2.2.1 0) 6)) rfl ?_
  refine z_icmp_ge (pc := 14) C dX8_tokenBack_14 (tgt := 40) (by decide) (fun hc => ?_) (fun hc => ?_)
  · replace h := (ite_e h).1 hc
    exact z_vret C X dX8_tokenBack_40 (by rw [← Option.some.inj h]; exact ⟨rfl, rfl⟩) (by decide) (by decide)
  · replace h := (ite_e h).2 hc
    refine z_aload_n (pc := 17) (x := a0) C dX8_tokenBack_17 (i := 0) rfl rfl ?_
    refine z_get (pc := 18) (v := .ref (r0 0)) C 0 dX8_tokenBack_18 fl_RX8_9 rfl rfl ?_
    refine z_bipush (pc := 21) C dX8_tokenBack_21 bp_7 ?_
    refine z_dup2 (pc := 23) C dX8_tokenBack_23 rfl rfl ?_
    refine z_iald (pc := 24) C 1 dX8_tokenBack_24 rfl (by decide) ?_
    refine z_top1 (v := ((s0.2.2.1 0) 7)) rfl ?_
    refine z_iconst (pc := 25) C dX8_tokenBack_25 ic_1 ?_
    refine z_iadd (pc := 26) C dX8_tokenBack_26 ?_
    refine z_iast (pc := 27) C 1 dX8_tokenBack_27 rfl (by decide) (ws' := (wX8 g a0 r0 (sa s0 0 (upd (s0.2.2.1 0) 7 (((s0.2.2.1 0) 7) + (1 : Int32)))))) rfl ?_
    refine z_aload_n (pc := 28) (x := a0) C dX8_tokenBack_28 (i := 0) rfl rfl ?_
    refine z_get (pc := 29) (v := .ref (r0 0)) C 0 dX8_tokenBack_29 fl_RX8_9 rfl rfl ?_
    refine z_sipush (pc := 32) C dX8_tokenBack_32 sp_235 ?_
    refine z_dup2 (pc := 35) C dX8_tokenBack_35 rfl rfl ?_
    refine z_iald (pc := 36) C 1 dX8_tokenBack_36 rfl (by decide) ?_
    refine z_top1 (v := ((upd (s0.2.2.1 0) 7 (((s0.2.2.1 0) 7) + (1 : Int32))) 235)) rfl ?_
    refine z_iconst (pc := 37) C dX8_tokenBack_37 ic_1 ?_
    refine z_iadd (pc := 38) C dX8_tokenBack_38 ?_
    replace h := znm_e h
    obtain ⟨x1, hx1, h⟩ := h
    refine z_top1 hx1 ?_
    replace h := znm_e h
    obtain ⟨y2, hy2, h⟩ := h
    refine z_wsE (ws' := (wX8 g a0 r0 y2)) (by rw [hy2]) ?_
    refine z_iast (pc := 39) C 1 dX8_tokenBack_39 rfl (by decide) (ws' := (wX8 g a0 r0 (sa y2 0 (upd (y2.2.2.1 0) 235 x1)))) rfl ?_
    exact z_vret C X dX8_tokenBack_40 (by rw [← Option.some.inj h]; exact ⟨rfl, rfl⟩) (by decide) (by decide)
def f_X8_toHeap_22 (N : Nat) (p1 : Int32)  (t1 : Int32) (t2 : Int32) (t3 : Int32) (s0 : Ob) : Option (Ob) := (chk (inb t1 358) (chk (inb ((211 : Int32) + p1) 358) (znm ((upd (s0.2.2.1 0) (t1).toNatClampNeg (t2 + t3)) (((211 : Int32) + p1)).toNatClampNeg) fun x4 => (znm (sa s0 0 (upd (s0.2.2.1 0) (t1).toNatClampNeg (t2 + t3))) fun y5 => (chk (inb ((211 : Int32) + p1) 358) (some (sa y5 0 (upd (y5.2.2.1 0) (((211 : Int32) + p1)).toNatClampNeg (x4 + (1 : Int32))))))))))
theorem m_X8_toHeap_22 {K : Kt} {g : Gp} {a0 : Nat} {r0 : Nat → Nat} {N : Nat} {p1 : Int32} {res : Ob} (hg : Ok g) (C : Cx K g cX8_toHeap RX8 2 (zrm 4 89)) (X : Rx K (exR none (wX8 g a0 r0 res)) 0 0 none) (t1 : Int32) (t2 : Int32) (t3 : Int32) (s0 : Ob) (h : f_X8_toHeap_22 N p1 t1 t2 t3 s0 = some res) : Zs K 0 0 (wX8 g a0 r0 s0) [(0, .ref a0), (1, .int p1)] 22 [.int t3, .int t2, .int t1, .ref (r0 0)] := by
  unfold f_X8_toHeap_22 at h
  refine z_iadd (pc := 22) C dX8_toHeap_22 ?_
  replace h := chk_e h
  obtain ⟨hb2, h⟩ := h
  refine z_iast (pc := 23) C 1 dX8_toHeap_23 rfl hb2 (ws' := (wX8 g a0 r0 (sa s0 0 (upd (s0.2.2.1 0) (t1).toNatClampNeg (t2 + t3))))) rfl ?_
  refine z_aload_n (pc := 24) (x := a0) C dX8_toHeap_24 (i := 0) rfl rfl ?_
  refine z_get (pc := 25) (v := .ref (r0 0)) C 0 dX8_toHeap_25 fl_RX8_9 rfl rfl ?_
  refine z_sipush (pc := 28) C dX8_toHeap_28 sp_211 ?_
  refine z_iload_n (pc := 31) (x := p1) C dX8_toHeap_31 (i := 1) rfl rfl ?_
  refine z_iadd (pc := 32) C dX8_toHeap_32 ?_
  refine z_dup2 (pc := 33) C dX8_toHeap_33 rfl rfl ?_
  replace h := chk_e h
  obtain ⟨hb3, h⟩ := h
  refine z_iald (pc := 34) C 1 dX8_toHeap_34 rfl hb3 ?_
  replace h := znm_e h
  obtain ⟨x4, hx4, h⟩ := h
  refine z_top1 hx4 ?_
  refine z_iconst (pc := 35) C dX8_toHeap_35 ic_1 ?_
  refine z_iadd (pc := 36) C dX8_toHeap_36 ?_
  replace h := znm_e h
  obtain ⟨y5, hy5, h⟩ := h
  refine z_wsE (ws' := (wX8 g a0 r0 y5)) (by rw [hy5]) ?_
  replace h := chk_e h
  obtain ⟨hb6, h⟩ := h
  refine z_iast (pc := 37) C 1 dX8_toHeap_37 rfl hb6 (ws' := (wX8 g a0 r0 (sa y5 0 (upd (y5.2.2.1 0) (((211 : Int32) + p1)).toNatClampNeg (x4 + (1 : Int32)))))) rfl ?_
  exact z_vret C X dX8_toHeap_38 (by rw [← Option.some.inj h]; exact ⟨rfl, rfl⟩) (by decide) (by decide)
def f_X8_toHeap (N : Nat) (s0 : Ob) (p1 : Int32) : Option (Ob) := (ob (f_X8_isCriticalKind N s0 p1) fun x1 => (if x1 = 0 then (f_X8_toHeap_22 N p1 (237 : Int32) ((s0.2.2.1 0) 237) (0 : Int32) s0) else (f_X8_toHeap_22 N p1 (237 : Int32) ((s0.2.2.1 0) 237) (1 : Int32) s0)))
theorem m_X8_toHeap {g : Gp} {a0 : Nat} {r0 : Nat → Nat} {N : Nat} {s0 : Ob} {p1 : Int32} {res : Ob} (hg : Ok g) (h : f_X8_toHeap N s0 p1 = some res) : Ct g yX8_toHeap cX8_toHeap 2 none (zrm 4 89) [.ref a0, .int p1] (wX8 g a0 r0 s0) (exR none (wX8 g a0 r0 res)) := by
  refine ct_of rfl hg (by show _ ≤ _; exact Nat.le_of_ble_eq_true rfl) (fun K C X => ?_)
  show Zs K 0 0 (wX8 g a0 r0 s0) [(0, .ref a0), (1, .int p1)] 0 []
  unfold f_X8_toHeap at h
  refine z_aload_n (pc := 0) (x := a0) C dX8_toHeap_0 (i := 0) rfl rfl ?_
  refine z_get (pc := 1) (v := .ref (r0 0)) C 0 dX8_toHeap_1 fl_RX8_9 rfl rfl ?_
  refine z_sipush (pc := 4) C dX8_toHeap_4 sp_237 ?_
  refine z_dup2 (pc := 7) C dX8_toHeap_7 rfl rfl ?_
  refine z_iald (pc := 8) C 1 dX8_toHeap_8 rfl (by decide) ?_
  refine z_top1 (v := ((s0.2.2.1 0) 237)) rfl ?_
  refine z_aload_n (pc := 9) (x := a0) C dX8_toHeap_9 (i := 0) rfl rfl ?_
  refine z_iload_n (pc := 10) (x := p1) C dX8_toHeap_10 (i := 1) rfl rfl ?_
  replace h := ob_e h
  obtain ⟨x1, hx1, h⟩ := h
  refine z_callV (pc := 11) (As := [.int p1]) (rest := [.int ((s0.2.2.1 0) 237), .int (237 : Int32), .ref (r0 0)]) (wr := ([] : va_W)) C dX8_toHeap_11 ml_RX8_238 wv_X8_isCriticalKind (m_X8_isCriticalKind (a0 := a0) (r0 := r0) hg hx1) [0, 1, 2, 3, 4, 5, 6, 7, 8, 9, 10, 11, 12, 13, 14] [] rfl rfl ⟨by decide, by decide⟩ (Nat.le_of_ble_eq_true rfl) ⟨by decide, by decide⟩ rfl rfl rfl rfl rfl rfl rfl (by decide) (ex_k C (cs' := 0) (ss' := 0) (wF := (wX8 g a0 r0 s0)) [0, 1, 2, 3, 4, 5, 6, 7, 8, 9, 10, 11, 12, 13, 14] rfl rfl ?_)
  refine z_if_eq (pc := 14) C dX8_toHeap_14 (tgt := 21) (by decide) (fun hc => ?_) (fun hc => ?_)
  · replace h := (ite_e h).1 hc
    refine z_iconst (pc := 21) C dX8_toHeap_21 ic_0 ?_
    exact m_X8_toHeap_22 (a0 := a0) (r0 := r0) hg C X (237 : Int32) ((s0.2.2.1 0) 237) (0 : Int32) s0 h
  · replace h := (ite_e h).2 hc
    refine z_iconst (pc := 17) C dX8_toHeap_17 ic_1 ?_
    refine z_goto (pc := 18) C dX8_toHeap_18 (tgt := 22) (by decide) ?_
    exact m_X8_toHeap_22 (a0 := a0) (r0 := r0) hg C X (237 : Int32) ((s0.2.2.1 0) 237) (1 : Int32) s0 h
def F_X8_takesOut_40 (N : Nat) (p1 : Int32)  (k40 : Int32 → Int32 → Int32 → Ob → Option (Int32 × Ob)) (v2 : Int32) (v3 : Int32) (v4 : Int32) (s0 : Ob) : Option (Int32 × Ob) := (chk (inb ((187 : Int32) + v2) 358) (if ((s0.2.2.1 0) (((187 : Int32) + v2)).toNatClampNeg) ≤ v4 then (some (v3, s0)) else (chk (inb ((((191 : Int32) + ((5 : Int32) * v2)) + v4) + (1 : Int32)) 358) (znm ((s0.2.2.1 0) (((((191 : Int32) + ((5 : Int32) * v2)) + v4) + (1 : Int32))).toNatClampNeg) fun x8 => (chk (inb (((191 : Int32) + ((5 : Int32) * v2)) + v4) 358) (k40 v2 v3 (v4 + (1 : Int32)) (sa s0 0 (upd (s0.2.2.1 0) ((((191 : Int32) + ((5 : Int32) * v2)) + v4)).toNatClampNeg x8))))))))
def f_X8_takesOut_40 (N : Nat) (p1 : Int32)  : Nat → Int32 → Int32 → Int32 → Ob → Option (Int32 × Ob) := zlp (fun _ _ _ _ => none) (F_X8_takesOut_40 N p1)
theorem m_X8_takesOut_40 {K : Kt} {g : Gp} {a0 : Nat} {r0 : Nat → Nat} {N : Nat} {p1 : Int32} {res : Int32 × Ob} (hg : Ok g) (C : Cx K g cX8_takesOut RX8 5 (zrm 1 22)) (X : Rx K (exR (some (.int res.1)) (wX8 g a0 r0 res.2)) 0 0 (some .int)) : ∀ (n : Nat) (v2 : Int32) (v3 : Int32) (v4 : Int32) (s0 : Ob), f_X8_takesOut_40 N p1 n v2 v3 v4 s0 = some res → Zs K 0 0 (wX8 g a0 r0 s0) [(0, .ref a0), (2, .int v2), (3, .int v3), (4, .int v4)] 40 [] := by
  intro n
  induction n with
  | zero => intro v2 v3 v4 s0 h; exact nomatch (show (none : Option (Int32 × Ob)) = some res from h)
  | succ n hk40 =>
    intro v2 v3 v4 s0 h
    replace h : F_X8_takesOut_40 N p1 (f_X8_takesOut_40 N p1 n) v2 v3 v4 s0 = some res := h
    unfold F_X8_takesOut_40 at h
    refine z_iload (pc := 40) (x := v4) C dX8_takesOut_40 rfl ?_
    refine z_aload_n (pc := 42) (x := a0) C dX8_takesOut_42 (i := 0) rfl rfl ?_
    refine z_get (pc := 43) (v := .ref (r0 0)) C 0 dX8_takesOut_43 fl_RX8_9 rfl rfl ?_
    refine z_sipush (pc := 46) C dX8_takesOut_46 sp_187 ?_
    refine z_iload_n (pc := 49) (x := v2) C dX8_takesOut_49 (i := 2) rfl rfl ?_
    refine z_iadd (pc := 50) C dX8_takesOut_50 ?_
    replace h := chk_e h
    obtain ⟨hb6, h⟩ := h
    refine z_iald (pc := 51) C 1 dX8_takesOut_51 rfl hb6 ?_
    refine z_icmp_ge (pc := 52) C dX8_takesOut_52 (tgt := 93) (by decide) (fun hc => ?_) (fun hc => ?_)
    · replace h := (ite_e h).1 hc
      refine z_iload_n (pc := 93) (x := v3) C dX8_takesOut_93 (i := 3) rfl rfl ?_
      exact z_iret C X dX8_takesOut_94 (by rw [← Option.some.inj h]; exact ⟨rfl, rfl⟩) (by decide) (by decide)
    · replace h := (ite_e h).2 hc
      refine z_aload_n (pc := 55) (x := a0) C dX8_takesOut_55 (i := 0) rfl rfl ?_
      refine z_get (pc := 56) (v := .ref (r0 0)) C 0 dX8_takesOut_56 fl_RX8_9 rfl rfl ?_
      refine z_sipush (pc := 59) C dX8_takesOut_59 sp_191 ?_
      refine z_iconst (pc := 62) C dX8_takesOut_62 ic_5 ?_
      refine z_iload_n (pc := 63) (x := v2) C dX8_takesOut_63 (i := 2) rfl rfl ?_
      refine z_imul (pc := 64) C dX8_takesOut_64 ?_
      refine z_iadd (pc := 65) C dX8_takesOut_65 ?_
      refine z_iload (pc := 66) (x := v4) C dX8_takesOut_66 rfl ?_
      refine z_iadd (pc := 68) C dX8_takesOut_68 ?_
      refine z_aload_n (pc := 69) (x := a0) C dX8_takesOut_69 (i := 0) rfl rfl ?_
      refine z_get (pc := 70) (v := .ref (r0 0)) C 0 dX8_takesOut_70 fl_RX8_9 rfl rfl ?_
      refine z_sipush (pc := 73) C dX8_takesOut_73 sp_191 ?_
      refine z_iconst (pc := 76) C dX8_takesOut_76 ic_5 ?_
      refine z_iload_n (pc := 77) (x := v2) C dX8_takesOut_77 (i := 2) rfl rfl ?_
      refine z_imul (pc := 78) C dX8_takesOut_78 ?_
      refine z_iadd (pc := 79) C dX8_takesOut_79 ?_
      refine z_iload (pc := 80) (x := v4) C dX8_takesOut_80 rfl ?_
      refine z_iadd (pc := 82) C dX8_takesOut_82 ?_
      refine z_iconst (pc := 83) C dX8_takesOut_83 ic_1 ?_
      refine z_iadd (pc := 84) C dX8_takesOut_84 ?_
      replace h := chk_e h
      obtain ⟨hb7, h⟩ := h
      refine z_iald (pc := 85) C 1 dX8_takesOut_85 rfl hb7 ?_
      replace h := znm_e h
      obtain ⟨x8, hx8, h⟩ := h
      refine z_top1 hx8 ?_
      replace h := chk_e h
      obtain ⟨hb9, h⟩ := h
      refine z_iast (pc := 86) C 1 dX8_takesOut_86 rfl hb9 (ws' := (wX8 g a0 r0 (sa s0 0 (upd (s0.2.2.1 0) ((((191 : Int32) + ((5 : Int32) * v2)) + v4)).toNatClampNeg x8)))) rfl ?_
      refine z_iinc (pc := 87) C dX8_takesOut_87 rfl (inc_e 1 (1 : Int32) ic_1 v4) (by decide) (lv' := [(4, .int (v4 + (1 : Int32))), (0, .ref a0), (2, .int v2), (3, .int v3)]) rfl ?_
      refine z_goto (pc := 90) C dX8_takesOut_90 (tgt := 40) (by decide) ?_
      refine z_lv (lv' := [(0, .ref a0), (2, .int v2), (3, .int v3), (4, .int (v4 + (1 : Int32)))]) [1, 2, 3, 0] rfl ?_
      exact hk40 v2 v3 (v4 + (1 : Int32)) (sa s0 0 (upd (s0.2.2.1 0) ((((191 : Int32) + ((5 : Int32) * v2)) + v4)).toNatClampNeg x8)) h
def f_X8_takesOut (N : Nat) (s0 : Ob) (p1 : Int32) : Option (Int32 × Ob) := (ob (f_X8_held N s0 ((s0.2.2.1 0) 10) p1) fun x1 => (chk (inb ((27 : Int32) + x1) 358) (chk (inb ((187 : Int32) + ((s0.2.2.1 0) 10)) 358) (znm (((s0.2.2.1 0) (((187 : Int32) + ((s0.2.2.1 0) 10))).toNatClampNeg) - (1 : Int32)) fun x4 => (chk (inb ((187 : Int32) + ((s0.2.2.1 0) 10)) 358) (f_X8_takesOut_40 N p1 N ((s0.2.2.1 0) 10) ((s0.2.2.1 0) (((27 : Int32) + x1)).toNatClampNeg) p1 (sa s0 0 (upd (s0.2.2.1 0) (((187 : Int32) + ((s0.2.2.1 0) 10))).toNatClampNeg x4))))))))
theorem m_X8_takesOut {g : Gp} {a0 : Nat} {r0 : Nat → Nat} {N : Nat} {s0 : Ob} {p1 : Int32} {res : Int32 × Ob} (hg : Ok g) (h : f_X8_takesOut N s0 p1 = some res) : Ct g yX8_takesOut cX8_takesOut 5 (some .int) (zrm 1 22) [.ref a0, .int p1] (wX8 g a0 r0 s0) (exR (some (.int res.1)) (wX8 g a0 r0 res.2)) := by
  refine ct_of rfl hg (by show _ ≤ _; exact Nat.le_of_ble_eq_true rfl) (fun K C X => ?_)
  show Zs K 0 0 (wX8 g a0 r0 s0) [(0, .ref a0), (1, .int p1)] 0 []
  unfold f_X8_takesOut at h
  refine z_aload_n (pc := 0) (x := a0) C dX8_takesOut_0 (i := 0) rfl rfl ?_
  refine z_get (pc := 1) (v := .ref (r0 0)) C 0 dX8_takesOut_1 fl_RX8_9 rfl rfl ?_
  refine z_bipush (pc := 4) C dX8_takesOut_4 bp_10 ?_
  refine z_iald (pc := 6) C 1 dX8_takesOut_6 rfl (by decide) ?_
  refine z_top1 (v := ((s0.2.2.1 0) 10)) rfl ?_
  refine z_istore_n (pc := 7) C dX8_takesOut_7 (i := 2) rfl (by decide) (lv' := [(2, .int ((s0.2.2.1 0) 10)), (0, .ref a0), (1, .int p1)]) rfl ?_
  refine z_aload_n (pc := 8) (x := a0) C dX8_takesOut_8 (i := 0) rfl rfl ?_
  refine z_get (pc := 9) (v := .ref (r0 0)) C 0 dX8_takesOut_9 fl_RX8_9 rfl rfl ?_
  refine z_bipush (pc := 12) C dX8_takesOut_12 bp_27 ?_
  refine z_aload_n (pc := 14) (x := a0) C dX8_takesOut_14 (i := 0) rfl rfl ?_
  refine z_iload_n (pc := 15) (x := ((s0.2.2.1 0) 10)) C dX8_takesOut_15 (i := 2) rfl rfl ?_
  refine z_iload_n (pc := 16) (x := p1) C dX8_takesOut_16 (i := 1) rfl rfl ?_
  replace h := ob_e h
  obtain ⟨x1, hx1, h⟩ := h
  refine z_callV (pc := 17) (As := [.int ((s0.2.2.1 0) 10), .int p1]) (rest := [.int (27 : Int32), .ref (r0 0)]) (wr := ([] : va_W)) C dX8_takesOut_17 ml_RX8_217 wv_X8_held (m_X8_held (a0 := a0) (r0 := r0) hg hx1) [0, 1, 2, 3, 4, 5, 6, 7, 8, 9, 10, 11, 12, 13, 14] [] rfl rfl ⟨by decide, by decide⟩ (Nat.le_of_ble_eq_true rfl) ⟨by decide, by decide⟩ rfl rfl rfl rfl rfl rfl rfl (by decide) (ex_k C (cs' := 0) (ss' := 0) (wF := (wX8 g a0 r0 s0)) [0, 1, 2, 3, 4, 5, 6, 7, 8, 9, 10, 11, 12, 13, 14] rfl rfl ?_)
  refine z_iadd (pc := 20) C dX8_takesOut_20 ?_
  replace h := chk_e h
  obtain ⟨hb2, h⟩ := h
  refine z_iald (pc := 21) C 1 dX8_takesOut_21 rfl hb2 ?_
  refine z_istore_n (pc := 22) C dX8_takesOut_22 (i := 3) rfl (by decide) (lv' := [(3, .int ((s0.2.2.1 0) (((27 : Int32) + x1)).toNatClampNeg)), (2, .int ((s0.2.2.1 0) 10)), (0, .ref a0), (1, .int p1)]) rfl ?_
  refine z_aload_n (pc := 23) (x := a0) C dX8_takesOut_23 (i := 0) rfl rfl ?_
  refine z_get (pc := 24) (v := .ref (r0 0)) C 0 dX8_takesOut_24 fl_RX8_9 rfl rfl ?_
  refine z_sipush (pc := 27) C dX8_takesOut_27 sp_187 ?_
  refine z_iload_n (pc := 30) (x := ((s0.2.2.1 0) 10)) C dX8_takesOut_30 (i := 2) rfl rfl ?_
  refine z_iadd (pc := 31) C dX8_takesOut_31 ?_
  refine z_dup2 (pc := 32) C dX8_takesOut_32 rfl rfl ?_
  replace h := chk_e h
  obtain ⟨hb3, h⟩ := h
  refine z_iald (pc := 33) C 1 dX8_takesOut_33 rfl hb3 ?_
  refine z_iconst (pc := 34) C dX8_takesOut_34 ic_1 ?_
  refine z_isub (pc := 35) C dX8_takesOut_35 ?_
  replace h := znm_e h
  obtain ⟨x4, hx4, h⟩ := h
  refine z_top1 hx4 ?_
  replace h := chk_e h
  obtain ⟨hb5, h⟩ := h
  refine z_iast (pc := 36) C 1 dX8_takesOut_36 rfl hb5 (ws' := (wX8 g a0 r0 (sa s0 0 (upd (s0.2.2.1 0) (((187 : Int32) + ((s0.2.2.1 0) 10))).toNatClampNeg x4)))) rfl ?_
  refine z_iload_n (pc := 37) (x := p1) C dX8_takesOut_37 (i := 1) rfl rfl ?_
  refine z_istore (pc := 38) C dX8_takesOut_38 (by decide) (lv' := [(4, .int p1), (3, .int ((s0.2.2.1 0) (((27 : Int32) + x1)).toNatClampNeg)), (2, .int ((s0.2.2.1 0) 10)), (0, .ref a0), (1, .int p1)]) rfl ?_
  refine z_lv (lv' := [(0, .ref a0), (2, .int ((s0.2.2.1 0) 10)), (3, .int ((s0.2.2.1 0) (((27 : Int32) + x1)).toNatClampNeg)), (4, .int p1)]) [3, 2, 1, 0] rfl ?_
  exact m_X8_takesOut_40 (a0 := a0) (r0 := r0) hg C X N ((s0.2.2.1 0) 10) ((s0.2.2.1 0) (((27 : Int32) + x1)).toNatClampNeg) p1 (sa s0 0 (upd (s0.2.2.1 0) (((187 : Int32) + ((s0.2.2.1 0) 10))).toNatClampNeg x4)) h
def F_X8_areWhole_2 (N : Nat) (s0 : Ob)  (k2 : Int32 → Option (Int32)) (v1 : Int32) : Option (Int32) := (if ((s0.2.2.1 0) 0) ≤ v1 then (some (1 : Int32)) else (chk (inb ((14 : Int32) + v1) 358) (if ((s0.2.2.1 0) 1) ≤ ((s0.2.2.1 0) (((14 : Int32) + v1)).toNatClampNeg) then (k2 (v1 + (1 : Int32))) else (some (0 : Int32)))))
def f_X8_areWhole_2 (N : Nat) (s0 : Ob)  : Nat → Int32 → Option (Int32) := zlp (fun _ => none) (F_X8_areWhole_2 N s0)
theorem m_X8_areWhole_2 {K : Kt} {g : Gp} {a0 : Nat} {r0 : Nat → Nat} {N : Nat} {s0 : Ob} {res : Int32} (hg : Ok g) (C : Cx K g cX8_areWhole RX8 2 (zrm 0 0)) (X : Rx K (exR (some (.int res)) (wX8 g a0 r0 s0)) 0 0 (some .boolean)) : ∀ (n : Nat) (v1 : Int32), f_X8_areWhole_2 N s0 n v1 = some res → Zs K 0 0 (wX8 g a0 r0 s0) [(0, .ref a0), (1, .int v1)] 2 [] := by
  intro n
  induction n with
  | zero => intro v1 h; exact nomatch (show (none : Option (Int32)) = some res from h)
  | succ n hk2 =>
    intro v1 h
    replace h : F_X8_areWhole_2 N s0 (f_X8_areWhole_2 N s0 n) v1 = some res := h
    unfold F_X8_areWhole_2 at h
    refine z_iload_n (pc := 2) (x := v1) C dX8_areWhole_2 (i := 1) rfl rfl ?_
    refine z_aload_n (pc := 3) (x := a0) C dX8_areWhole_3 (i := 0) rfl rfl ?_
    refine z_get (pc := 4) (v := .ref (r0 0)) C 0 dX8_areWhole_4 fl_RX8_9 rfl rfl ?_
    refine z_iconst (pc := 7) C dX8_areWhole_7 ic_0 ?_
    refine z_iald (pc := 8) C 1 dX8_areWhole_8 rfl (by decide) ?_
    refine z_top1 (v := ((s0.2.2.1 0) 0)) rfl ?_
    refine z_icmp_ge (pc := 9) C dX8_areWhole_9 (tgt := 38) (by decide) (fun hc => ?_) (fun hc => ?_)
    · replace h := (ite_e h).1 hc
      refine z_iconst (pc := 38) C dX8_areWhole_38 ic_1 ?_
      exact z_zret C X dX8_areWhole_39 rfl (by rw [← Option.some.inj h]; exact ⟨rfl, rfl⟩) (by decide) (by decide)
    · replace h := (ite_e h).2 hc
      refine z_aload_n (pc := 12) (x := a0) C dX8_areWhole_12 (i := 0) rfl rfl ?_
      refine z_get (pc := 13) (v := .ref (r0 0)) C 0 dX8_areWhole_13 fl_RX8_9 rfl rfl ?_
      refine z_bipush (pc := 16) C dX8_areWhole_16 bp_14 ?_
      refine z_iload_n (pc := 18) (x := v1) C dX8_areWhole_18 (i := 1) rfl rfl ?_
      refine z_iadd (pc := 19) C dX8_areWhole_19 ?_
      replace h := chk_e h
      obtain ⟨hb1, h⟩ := h
      refine z_iald (pc := 20) C 1 dX8_areWhole_20 rfl hb1 ?_
      refine z_aload_n (pc := 21) (x := a0) C dX8_areWhole_21 (i := 0) rfl rfl ?_
      refine z_get (pc := 22) (v := .ref (r0 0)) C 0 dX8_areWhole_22 fl_RX8_9 rfl rfl ?_
      refine z_iconst (pc := 25) C dX8_areWhole_25 ic_1 ?_
      refine z_iald (pc := 26) C 1 dX8_areWhole_26 rfl (by decide) ?_
      refine z_top1 (v := ((s0.2.2.1 0) 1)) rfl ?_
      refine z_icmp_ge (pc := 27) C dX8_areWhole_27 (tgt := 32) (by decide) (fun hc => ?_) (fun hc => ?_)
      · replace h := (ite_e h).1 hc
        refine z_iinc (pc := 32) C dX8_areWhole_32 rfl (inc_e 1 (1 : Int32) ic_1 v1) (by decide) (lv' := [(1, .int (v1 + (1 : Int32))), (0, .ref a0)]) rfl ?_
        refine z_goto (pc := 35) C dX8_areWhole_35 (tgt := 2) (by decide) ?_
        refine z_lv (lv' := [(0, .ref a0), (1, .int (v1 + (1 : Int32)))]) [1, 0] rfl ?_
        exact hk2 (v1 + (1 : Int32)) h
      · replace h := (ite_e h).2 hc
        refine z_iconst (pc := 30) C dX8_areWhole_30 ic_0 ?_
        exact z_zret C X dX8_areWhole_31 rfl (by rw [← Option.some.inj h]; exact ⟨rfl, rfl⟩) (by decide) (by decide)
def f_X8_areWhole (N : Nat) (s0 : Ob) : Option (Int32) := (f_X8_areWhole_2 N s0 N (0 : Int32))
theorem m_X8_areWhole {g : Gp} {a0 : Nat} {r0 : Nat → Nat} {N : Nat} {s0 : Ob} {res : Int32} (hg : Ok g) (h : f_X8_areWhole N s0 = some res) : Ct g yX8_areWhole cX8_areWhole 2 (some .boolean) (zrm 0 0) [.ref a0] (wX8 g a0 r0 s0) (exR (some (.int res)) (wX8 g a0 r0 s0)) := by
  refine ct_of rfl hg (by show _ ≤ _; exact Nat.le_of_ble_eq_true rfl) (fun K C X => ?_)
  show Zs K 0 0 (wX8 g a0 r0 s0) [(0, .ref a0)] 0 []
  unfold f_X8_areWhole at h
  refine z_iconst (pc := 0) C dX8_areWhole_0 ic_0 ?_
  refine z_istore_n (pc := 1) C dX8_areWhole_1 (i := 1) rfl (by decide) (lv' := [(1, .int (0 : Int32)), (0, .ref a0)]) rfl ?_
  refine z_lv (lv' := [(0, .ref a0), (1, .int (0 : Int32))]) [1, 0] rfl ?_
  exact m_X8_areWhole_2 (a0 := a0) (r0 := r0) hg C X N (0 : Int32) h
def f_X8_endsTurn_165 (N : Nat) (p1 : Int32)  (t1 : Int32) (t2 : Int32) (s0 : Ob) : Option (Ob) := (chk (inb t1 358) (some (sa s0 0 (upd (s0.2.2.1 0) (t1).toNatClampNeg t2))))
theorem m_X8_endsTurn_165 {K : Kt} {g : Gp} {a0 : Nat} {r0 : Nat → Nat} {N : Nat} {p1 : Int32} {res : Ob} (hg : Ok g) (C : Cx K g cX8_endsTurn RX8 3 (zrm 1 21)) (X : Rx K (exR none (wX8 g a0 r0 res)) 0 0 none) (t1 : Int32) (t2 : Int32) (s0 : Ob) (h : f_X8_endsTurn_165 N p1 t1 t2 s0 = some res) : Zs K 0 0 (wX8 g a0 r0 s0) [] 165 [.int t2, .int t1, .ref (r0 0)] := by
  unfold f_X8_endsTurn_165 at h
  replace h := chk_e h
  obtain ⟨hb6, h⟩ := h
  refine z_iast (pc := 165) C 1 dX8_endsTurn_165 rfl hb6 (ws' := (wX8 g a0 r0 (sa s0 0 (upd (s0.2.2.1 0) (t1).toNatClampNeg t2)))) rfl ?_
  exact z_vret C X dX8_endsTurn_166 (by rw [← Option.some.inj h]; exact ⟨rfl, rfl⟩) (by decide) (by decide)
def f_X8_endsTurn_85 (N : Nat) (p1 : Int32)  (s0 : Ob) : Option (Ob) := (znm (((upd (s0.2.2.1 0) 11 (((s0.2.2.1 0) 11) + (1 : Int32))) 10) + (1 : Int32)) fun x1 => (chk (decide (¬ ((upd (s0.2.2.1 0) 11 (((s0.2.2.1 0) 11) + (1 : Int32))) 2) = 0)) (znm (x1 - x1 / ((upd (s0.2.2.1 0) 11 (((s0.2.2.1 0) 11) + (1 : Int32))) 2) * ((upd (s0.2.2.1 0) 11 (((s0.2.2.1 0) 11) + (1 : Int32))) 2)) fun x3 => (znm (sa s0 0 (upd (s0.2.2.1 0) 11 (((s0.2.2.1 0) 11) + (1 : Int32)))) fun y4 => (if ((upd (y4.2.2.1 0) 10 x3) 8) = 0 then (f_X8_endsTurn_165 N p1 (12 : Int32) (1 : Int32) (sa y4 0 (upd (y4.2.2.1 0) 10 x3))) else (ob (f_X8_areWhole N (sa y4 0 (upd (y4.2.2.1 0) 10 x3))) fun x5 => (if x5 = 0 then (if ((upd (y4.2.2.1 0) 10 x3) 9) = 0 then (f_X8_endsTurn_165 N p1 (12 : Int32) (3 : Int32) (sa y4 0 (upd (y4.2.2.1 0) 10 x3))) else (f_X8_endsTurn_165 N p1 (12 : Int32) (0 : Int32) (sa y4 0 (upd (y4.2.2.1 0) 10 x3)))) else (f_X8_endsTurn_165 N p1 (12 : Int32) (2 : Int32) (sa y4 0 (upd (y4.2.2.1 0) 10 x3))))))))))
theorem m_X8_endsTurn_85 {K : Kt} {g : Gp} {a0 : Nat} {r0 : Nat → Nat} {N : Nat} {p1 : Int32} {res : Ob} (hg : Ok g) (C : Cx K g cX8_endsTurn RX8 3 (zrm 1 21)) (X : Rx K (exR none (wX8 g a0 r0 res)) 0 0 none) (s0 : Ob) (h : f_X8_endsTurn_85 N p1 s0 = some res) : Zs K 0 0 (wX8 g a0 r0 s0) [(0, .ref a0)] 85 [] := by
  unfold f_X8_endsTurn_85 at h
  refine z_aload_n (pc := 85) (x := a0) C dX8_endsTurn_85 (i := 0) rfl rfl ?_
  refine z_get (pc := 86) (v := .ref (r0 0)) C 0 dX8_endsTurn_86 fl_RX8_9 rfl rfl ?_
  refine z_bipush (pc := 89) C dX8_endsTurn_89 bp_11 ?_
  refine z_dup2 (pc := 91) C dX8_endsTurn_91 rfl rfl ?_
  refine z_iald (pc := 92) C 1 dX8_endsTurn_92 rfl (by decide) ?_
  refine z_top1 (v := ((s0.2.2.1 0) 11)) rfl ?_
  refine z_iconst (pc := 93) C dX8_endsTurn_93 ic_1 ?_
  refine z_iadd (pc := 94) C dX8_endsTurn_94 ?_
  refine z_iast (pc := 95) C 1 dX8_endsTurn_95 rfl (by decide) (ws' := (wX8 g a0 r0 (sa s0 0 (upd (s0.2.2.1 0) 11 (((s0.2.2.1 0) 11) + (1 : Int32)))))) rfl ?_
  refine z_aload_n (pc := 96) (x := a0) C dX8_endsTurn_96 (i := 0) rfl rfl ?_
  refine z_get (pc := 97) (v := .ref (r0 0)) C 0 dX8_endsTurn_97 fl_RX8_9 rfl rfl ?_
  refine z_bipush (pc := 100) C dX8_endsTurn_100 bp_10 ?_
  refine z_aload_n (pc := 102) (x := a0) C dX8_endsTurn_102 (i := 0) rfl rfl ?_
  refine z_get (pc := 103) (v := .ref (r0 0)) C 0 dX8_endsTurn_103 fl_RX8_9 rfl rfl ?_
  refine z_bipush (pc := 106) C dX8_endsTurn_106 bp_10 ?_
  refine z_iald (pc := 108) C 1 dX8_endsTurn_108 rfl (by decide) ?_
  refine z_top1 (v := ((upd (s0.2.2.1 0) 11 (((s0.2.2.1 0) 11) + (1 : Int32))) 10)) rfl ?_
  refine z_iconst (pc := 109) C dX8_endsTurn_109 ic_1 ?_
  refine z_iadd (pc := 110) C dX8_endsTurn_110 ?_
  replace h := znm_e h
  obtain ⟨x1, hx1, h⟩ := h
  refine z_top1 hx1 ?_
  refine z_aload_n (pc := 111) (x := a0) C dX8_endsTurn_111 (i := 0) rfl rfl ?_
  refine z_get (pc := 112) (v := .ref (r0 0)) C 0 dX8_endsTurn_112 fl_RX8_9 rfl rfl ?_
  refine z_iconst (pc := 115) C dX8_endsTurn_115 ic_2 ?_
  refine z_iald (pc := 116) C 1 dX8_endsTurn_116 rfl (by decide) ?_
  refine z_top1 (v := ((upd (s0.2.2.1 0) 11 (((s0.2.2.1 0) 11) + (1 : Int32))) 2)) rfl ?_
  replace h := chk_e h
  obtain ⟨hb2, h⟩ := h
  refine z_irem (pc := 117) C dX8_endsTurn_117 (of_decide_eq_true hb2) ?_
  replace h := znm_e h
  obtain ⟨x3, hx3, h⟩ := h
  refine z_top1 hx3 ?_
  replace h := znm_e h
  obtain ⟨y4, hy4, h⟩ := h
  refine z_wsE (ws' := (wX8 g a0 r0 y4)) (by rw [hy4]) ?_
  refine z_iast (pc := 118) C 1 dX8_endsTurn_118 rfl (by decide) (ws' := (wX8 g a0 r0 (sa y4 0 (upd (y4.2.2.1 0) 10 x3)))) rfl ?_
  refine z_aload_n (pc := 119) (x := a0) C dX8_endsTurn_119 (i := 0) rfl rfl ?_
  refine z_get (pc := 120) (v := .ref (r0 0)) C 0 dX8_endsTurn_120 fl_RX8_9 rfl rfl ?_
  refine z_bipush (pc := 123) C dX8_endsTurn_123 bp_12 ?_
  refine z_aload_n (pc := 125) (x := a0) C dX8_endsTurn_125 (i := 0) rfl rfl ?_
  refine z_get (pc := 126) (v := .ref (r0 0)) C 0 dX8_endsTurn_126 fl_RX8_9 rfl rfl ?_
  refine z_bipush (pc := 129) C dX8_endsTurn_129 bp_8 ?_
  refine z_iald (pc := 131) C 1 dX8_endsTurn_131 rfl (by decide) ?_
  refine z_top1 (v := ((upd (y4.2.2.1 0) 10 x3) 8)) rfl ?_
  refine z_if_ne (pc := 132) C dX8_endsTurn_132 (tgt := 139) (by decide) (fun hc => ?_) (fun hc => ?_)
  · replace h := (ite_e h).2 hc
    refine z_aload_n (pc := 139) (x := a0) C dX8_endsTurn_139 (i := 0) rfl rfl ?_
    replace h := ob_e h
    obtain ⟨x5, hx5, h⟩ := h
    refine z_callV (pc := 140) (As := []) (rest := [.int (12 : Int32), .ref (r0 0)]) (wr := ([] : va_W)) C dX8_endsTurn_140 ml_RX8_296 wv_X8_areWhole (m_X8_areWhole (a0 := a0) (r0 := r0) hg hx5) [0, 1, 2, 3, 4, 5, 6, 7, 8, 9, 10, 11, 12, 13, 14] [] rfl rfl ⟨by decide, by decide⟩ (Nat.le_of_ble_eq_true rfl) ⟨by decide, by decide⟩ rfl rfl rfl rfl rfl rfl rfl (by decide) (ex_k C (cs' := 0) (ss' := 0) (wF := (wX8 g a0 r0 (sa y4 0 (upd (y4.2.2.1 0) 10 x3)))) [0, 1, 2, 3, 4, 5, 6, 7, 8, 9, 10, 11, 12, 13, 14] rfl rfl ?_)
    refine z_if_eq (pc := 143) C dX8_endsTurn_143 (tgt := 150) (by decide) (fun hc => ?_) (fun hc => ?_)
    · replace h := (ite_e h).1 hc
      refine z_aload_n (pc := 150) (x := a0) C dX8_endsTurn_150 (i := 0) rfl rfl ?_
      refine z_get (pc := 151) (v := .ref (r0 0)) C 0 dX8_endsTurn_151 fl_RX8_9 rfl rfl ?_
      refine z_bipush (pc := 154) C dX8_endsTurn_154 bp_9 ?_
      refine z_iald (pc := 156) C 1 dX8_endsTurn_156 rfl (by decide) ?_
      refine z_top1 (v := ((upd (y4.2.2.1 0) 10 x3) 9)) rfl ?_
      refine z_if_ne (pc := 157) C dX8_endsTurn_157 (tgt := 164) (by decide) (fun hc => ?_) (fun hc => ?_)
      · replace h := (ite_e h).2 hc
        refine z_iconst (pc := 164) C dX8_endsTurn_164 ic_0 ?_
        refine z_lv (lv' := []) [] rfl ?_
        exact m_X8_endsTurn_165 (a0 := a0) (r0 := r0) hg C X (12 : Int32) (0 : Int32) (sa y4 0 (upd (y4.2.2.1 0) 10 x3)) h
      · replace h := (ite_e h).1 hc
        refine z_iconst (pc := 160) C dX8_endsTurn_160 ic_3 ?_
        refine z_goto (pc := 161) C dX8_endsTurn_161 (tgt := 165) (by decide) ?_
        refine z_lv (lv' := []) [] rfl ?_
        exact m_X8_endsTurn_165 (a0 := a0) (r0 := r0) hg C X (12 : Int32) (3 : Int32) (sa y4 0 (upd (y4.2.2.1 0) 10 x3)) h
    · replace h := (ite_e h).2 hc
      refine z_iconst (pc := 146) C dX8_endsTurn_146 ic_2 ?_
      refine z_goto (pc := 147) C dX8_endsTurn_147 (tgt := 165) (by decide) ?_
      refine z_lv (lv' := []) [] rfl ?_
      exact m_X8_endsTurn_165 (a0 := a0) (r0 := r0) hg C X (12 : Int32) (2 : Int32) (sa y4 0 (upd (y4.2.2.1 0) 10 x3)) h
  · replace h := (ite_e h).1 hc
    refine z_iconst (pc := 135) C dX8_endsTurn_135 ic_1 ?_
    refine z_goto (pc := 136) C dX8_endsTurn_136 (tgt := 165) (by decide) ?_
    refine z_lv (lv' := []) [] rfl ?_
    exact m_X8_endsTurn_165 (a0 := a0) (r0 := r0) hg C X (12 : Int32) (1 : Int32) (sa y4 0 (upd (y4.2.2.1 0) 10 x3)) h
def f_X8_endsTurn_22 (N : Nat) (p1 : Int32)  (v2 : Int32) (s0 : Ob) : Option (Ob) := (if ((s0.2.2.1 0) 9) = (-1 : Int32) then (if ((s0.2.2.1 0) 5) ≤ v2 then (f_X8_endsTurn_85 N p1 s0) else (if ((s0.2.2.1 0) 5) = ((s0.2.2.1 0) 4) then (f_X8_endsTurn_85 N p1 (sa s0 0 (upd (s0.2.2.1 0) 9 ((s0.2.2.1 0) 2)))) else (f_X8_endsTurn_85 N p1 s0))) else (f_X8_endsTurn_85 N p1 (sa s0 0 (upd (s0.2.2.1 0) 9 (((s0.2.2.1 0) 9) - (1 : Int32))))))
theorem m_X8_endsTurn_22 {K : Kt} {g : Gp} {a0 : Nat} {r0 : Nat → Nat} {N : Nat} {p1 : Int32} {res : Ob} (hg : Ok g) (C : Cx K g cX8_endsTurn RX8 3 (zrm 1 21)) (X : Rx K (exR none (wX8 g a0 r0 res)) 0 0 none) (v2 : Int32) (s0 : Ob) (h : f_X8_endsTurn_22 N p1 v2 s0 = some res) : Zs K 0 0 (wX8 g a0 r0 s0) [(0, .ref a0), (2, .int v2)] 22 [] := by
  unfold f_X8_endsTurn_22 at h
  refine z_aload_n (pc := 22) (x := a0) C dX8_endsTurn_22 (i := 0) rfl rfl ?_
  refine z_get (pc := 23) (v := .ref (r0 0)) C 0 dX8_endsTurn_23 fl_RX8_9 rfl rfl ?_
  refine z_bipush (pc := 26) C dX8_endsTurn_26 bp_9 ?_
  refine z_iald (pc := 28) C 1 dX8_endsTurn_28 rfl (by decide) ?_
  refine z_top1 (v := ((s0.2.2.1 0) 9)) rfl ?_
  refine z_iconst (pc := 29) C dX8_endsTurn_29 ic_m1 ?_
  refine z_icmp_eq (pc := 30) C dX8_endsTurn_30 (tgt := 47) (by decide) (fun hc => ?_) (fun hc => ?_)
  · replace h := (ite_e h).1 hc
    refine z_aload_n (pc := 47) (x := a0) C dX8_endsTurn_47 (i := 0) rfl rfl ?_
    refine z_get (pc := 48) (v := .ref (r0 0)) C 0 dX8_endsTurn_48 fl_RX8_9 rfl rfl ?_
    refine z_iconst (pc := 51) C dX8_endsTurn_51 ic_5 ?_
    refine z_iald (pc := 52) C 1 dX8_endsTurn_52 rfl (by decide) ?_
    refine z_top1 (v := ((s0.2.2.1 0) 5)) rfl ?_
    refine z_iload_n (pc := 53) (x := v2) C dX8_endsTurn_53 (i := 2) rfl rfl ?_
    refine z_icmp_le (pc := 54) C dX8_endsTurn_54 (tgt := 85) (by decide) (fun hc => ?_) (fun hc => ?_)
    · replace h := (ite_e h).1 hc
      refine z_lv (lv' := [(0, .ref a0)]) [0] rfl ?_
      exact m_X8_endsTurn_85 (a0 := a0) (r0 := r0) hg C X s0 h
    · replace h := (ite_e h).2 hc
      refine z_aload_n (pc := 57) (x := a0) C dX8_endsTurn_57 (i := 0) rfl rfl ?_
      refine z_get (pc := 58) (v := .ref (r0 0)) C 0 dX8_endsTurn_58 fl_RX8_9 rfl rfl ?_
      refine z_iconst (pc := 61) C dX8_endsTurn_61 ic_5 ?_
      refine z_iald (pc := 62) C 1 dX8_endsTurn_62 rfl (by decide) ?_
      refine z_top1 (v := ((s0.2.2.1 0) 5)) rfl ?_
      refine z_aload_n (pc := 63) (x := a0) C dX8_endsTurn_63 (i := 0) rfl rfl ?_
      refine z_get (pc := 64) (v := .ref (r0 0)) C 0 dX8_endsTurn_64 fl_RX8_9 rfl rfl ?_
      refine z_iconst (pc := 67) C dX8_endsTurn_67 ic_4 ?_
      refine z_iald (pc := 68) C 1 dX8_endsTurn_68 rfl (by decide) ?_
      refine z_top1 (v := ((s0.2.2.1 0) 4)) rfl ?_
      refine z_icmp_ne (pc := 69) C dX8_endsTurn_69 (tgt := 85) (by decide) (fun hc => ?_) (fun hc => ?_)
      · replace h := (ite_e h).2 hc
        refine z_lv (lv' := [(0, .ref a0)]) [0] rfl ?_
        exact m_X8_endsTurn_85 (a0 := a0) (r0 := r0) hg C X s0 h
      · replace h := (ite_e h).1 hc
        refine z_aload_n (pc := 72) (x := a0) C dX8_endsTurn_72 (i := 0) rfl rfl ?_
        refine z_get (pc := 73) (v := .ref (r0 0)) C 0 dX8_endsTurn_73 fl_RX8_9 rfl rfl ?_
        refine z_bipush (pc := 76) C dX8_endsTurn_76 bp_9 ?_
        refine z_aload_n (pc := 78) (x := a0) C dX8_endsTurn_78 (i := 0) rfl rfl ?_
        refine z_get (pc := 79) (v := .ref (r0 0)) C 0 dX8_endsTurn_79 fl_RX8_9 rfl rfl ?_
        refine z_iconst (pc := 82) C dX8_endsTurn_82 ic_2 ?_
        refine z_iald (pc := 83) C 1 dX8_endsTurn_83 rfl (by decide) ?_
        refine z_top1 (v := ((s0.2.2.1 0) 2)) rfl ?_
        refine z_iast (pc := 84) C 1 dX8_endsTurn_84 rfl (by decide) (ws' := (wX8 g a0 r0 (sa s0 0 (upd (s0.2.2.1 0) 9 ((s0.2.2.1 0) 2))))) rfl ?_
        refine z_lv (lv' := [(0, .ref a0)]) [0] rfl ?_
        exact m_X8_endsTurn_85 (a0 := a0) (r0 := r0) hg C X (sa s0 0 (upd (s0.2.2.1 0) 9 ((s0.2.2.1 0) 2))) h
  · replace h := (ite_e h).2 hc
    refine z_aload_n (pc := 33) (x := a0) C dX8_endsTurn_33 (i := 0) rfl rfl ?_
    refine z_get (pc := 34) (v := .ref (r0 0)) C 0 dX8_endsTurn_34 fl_RX8_9 rfl rfl ?_
    refine z_bipush (pc := 37) C dX8_endsTurn_37 bp_9 ?_
    refine z_dup2 (pc := 39) C dX8_endsTurn_39 rfl rfl ?_
    refine z_iald (pc := 40) C 1 dX8_endsTurn_40 rfl (by decide) ?_
    refine z_top1 (v := ((s0.2.2.1 0) 9)) rfl ?_
    refine z_iconst (pc := 41) C dX8_endsTurn_41 ic_1 ?_
    refine z_isub (pc := 42) C dX8_endsTurn_42 ?_
    refine z_iast (pc := 43) C 1 dX8_endsTurn_43 rfl (by decide) (ws' := (wX8 g a0 r0 (sa s0 0 (upd (s0.2.2.1 0) 9 (((s0.2.2.1 0) 9) - (1 : Int32)))))) rfl ?_
    refine z_goto (pc := 44) C dX8_endsTurn_44 (tgt := 85) (by decide) ?_
    refine z_lv (lv' := [(0, .ref a0)]) [0] rfl ?_
    exact m_X8_endsTurn_85 (a0 := a0) (r0 := r0) hg C X (sa s0 0 (upd (s0.2.2.1 0) 9 (((s0.2.2.1 0) 9) - (1 : Int32)))) h
def f_X8_endsTurn (N : Nat) (s0 : Ob) (p1 : Int32) : Option (Ob) := (if p1 = 0 then (f_X8_endsTurn_22 N p1 ((s0.2.2.1 0) 5) s0) else (ob (f_X8_draws N s0 ((s0.2.2.1 0) 10)) fun x7 => (f_X8_endsTurn_22 N p1 ((s0.2.2.1 0) 5) x7)))
theorem m_X8_endsTurn {g : Gp} {a0 : Nat} {r0 : Nat → Nat} {N : Nat} {s0 : Ob} {p1 : Int32} {res : Ob} (hg : Ok g) (h : f_X8_endsTurn N s0 p1 = some res) : Ct g yX8_endsTurn cX8_endsTurn 3 none (zrm 1 21) [.ref a0, .int p1] (wX8 g a0 r0 s0) (exR none (wX8 g a0 r0 res)) := by
  refine ct_of rfl hg (by show _ ≤ _; exact Nat.le_of_ble_eq_true rfl) (fun K C X => ?_)
  show Zs K 0 0 (wX8 g a0 r0 s0) [(0, .ref a0), (1, .int p1)] 0 []
  unfold f_X8_endsTurn at h
  refine z_aload_n (pc := 0) (x := a0) C dX8_endsTurn_0 (i := 0) rfl rfl ?_
  refine z_get (pc := 1) (v := .ref (r0 0)) C 0 dX8_endsTurn_1 fl_RX8_9 rfl rfl ?_
  refine z_iconst (pc := 4) C dX8_endsTurn_4 ic_5 ?_
  refine z_iald (pc := 5) C 1 dX8_endsTurn_5 rfl (by decide) ?_
  refine z_top1 (v := ((s0.2.2.1 0) 5)) rfl ?_
  refine z_istore_n (pc := 6) C dX8_endsTurn_6 (i := 2) rfl (by decide) (lv' := [(2, .int ((s0.2.2.1 0) 5)), (0, .ref a0), (1, .int p1)]) rfl ?_
  refine z_iload_n (pc := 7) (x := p1) C dX8_endsTurn_7 (i := 1) rfl rfl ?_
  refine z_if_eq (pc := 8) C dX8_endsTurn_8 (tgt := 22) (by decide) (fun hc => ?_) (fun hc => ?_)
  · replace h := (ite_e h).1 hc
    refine z_lv (lv' := [(0, .ref a0), (2, .int ((s0.2.2.1 0) 5))]) [1, 0] rfl ?_
    exact m_X8_endsTurn_22 (a0 := a0) (r0 := r0) hg C X ((s0.2.2.1 0) 5) s0 h
  · replace h := (ite_e h).2 hc
    refine z_aload_n (pc := 11) (x := a0) C dX8_endsTurn_11 (i := 0) rfl rfl ?_
    refine z_aload_n (pc := 12) (x := a0) C dX8_endsTurn_12 (i := 0) rfl rfl ?_
    refine z_get (pc := 13) (v := .ref (r0 0)) C 0 dX8_endsTurn_13 fl_RX8_9 rfl rfl ?_
    refine z_bipush (pc := 16) C dX8_endsTurn_16 bp_10 ?_
    refine z_iald (pc := 18) C 1 dX8_endsTurn_18 rfl (by decide) ?_
    refine z_top1 (v := ((s0.2.2.1 0) 10)) rfl ?_
    replace h := ob_e h
    obtain ⟨x7, hx7, h⟩ := h
    refine z_callV (pc := 19) (As := [.int ((s0.2.2.1 0) 10)]) (rest := []) (wr := ([] : va_W)) C dX8_endsTurn_19 ml_RX8_203 wv_X8_draws (m_X8_draws (a0 := a0) (r0 := r0) hg hx7) [0, 1, 2, 3, 4, 5, 6, 7, 8, 9, 10, 11, 12, 13, 14] [] rfl rfl ⟨by decide, by decide⟩ (Nat.le_of_ble_eq_true rfl) ⟨by decide, by decide⟩ rfl rfl rfl rfl rfl rfl rfl (by decide) (ex_k C (cs' := 0) (ss' := 0) (wF := (wX8 g a0 r0 x7)) [0, 1, 2, 3, 4, 5, 6, 7, 8, 9, 10, 11, 12, 13, 14] rfl rfl ?_)
    refine z_lv (lv' := [(0, .ref a0), (2, .int ((s0.2.2.1 0) 5))]) [1, 0] rfl ?_
    exact m_X8_endsTurn_22 (a0 := a0) (r0 := r0) hg C X ((s0.2.2.1 0) 5) x7 h
def f_X8_plays_136 (N : Nat) (p1 : Int32)  (s0 : Ob) : Option (Ob) := (ob (f_X8_endsTurn N s0 (1 : Int32)) fun x10 => (some x10))
theorem m_X8_plays_136 {K : Kt} {g : Gp} {a0 : Nat} {r0 : Nat → Nat} {N : Nat} {p1 : Int32} {res : Ob} (hg : Ok g) (C : Cx K g cX8_plays RX8 5 (zrm 5 110)) (X : Rx K (exR none (wX8 g a0 r0 res)) 0 0 none) (s0 : Ob) (h : f_X8_plays_136 N p1 s0 = some res) : Zs K 0 0 (wX8 g a0 r0 s0) [(0, .ref a0)] 136 [] := by
  unfold f_X8_plays_136 at h
  refine z_aload_n (pc := 136) (x := a0) C dX8_plays_136 (i := 0) rfl rfl ?_
  refine z_iconst (pc := 137) C dX8_plays_137 ic_1 ?_
  replace h := ob_e h
  obtain ⟨x10, hx10, h⟩ := h
  refine z_callV (pc := 138) (As := [.int (1 : Int32)]) (rest := []) (wr := ([] : va_W)) C dX8_plays_138 ml_RX8_293 wv_X8_endsTurn (m_X8_endsTurn (a0 := a0) (r0 := r0) hg hx10) [0, 1, 2, 3, 4, 5, 6, 7, 8, 9, 10, 11, 12, 13, 14] [] rfl rfl ⟨by decide, by decide⟩ (Nat.le_of_ble_eq_true rfl) ⟨by decide, by decide⟩ rfl rfl rfl rfl rfl rfl rfl (by decide) (ex_k C (cs' := 0) (ss' := 0) (wF := (wX8 g a0 r0 x10)) [0, 1, 2, 3, 4, 5, 6, 7, 8, 9, 10, 11, 12, 13, 14] rfl rfl ?_)
  exact z_vret C X dX8_plays_141 (by rw [← Option.some.inj h]; exact ⟨rfl, rfl⟩) (by decide) (by decide)
def f_X8_plays_101 (N : Nat) (p1 : Int32)  (s0 : Ob) : Option (Ob) := (f_X8_plays_136 N p1 s0)
theorem m_X8_plays_101 {K : Kt} {g : Gp} {a0 : Nat} {r0 : Nat → Nat} {N : Nat} {p1 : Int32} {res : Ob} (hg : Ok g) (C : Cx K g cX8_plays RX8 5 (zrm 5 110)) (X : Rx K (exR none (wX8 g a0 r0 res)) 0 0 none) (s0 : Ob) (h : f_X8_plays_101 N p1 s0 = some res) : Zs K 0 0 (wX8 g a0 r0 s0) [(0, .ref a0)] 101 [] := by
  unfold f_X8_plays_101 at h
  refine z_goto (pc := 101) C dX8_plays_101 (tgt := 136) (by decide) ?_
  exact m_X8_plays_136 (a0 := a0) (r0 := r0) hg C X s0 h
def f_X8_plays_37 (N : Nat) (p1 : Int32)  (v2 : Int32) (v3 : Int32) (t1 : Int32) (s0 : Ob) : Option (Ob) := (ob (f_X8_told N v2) fun x4 => (ob (f_X8_logs N s0 t1 x4 (-1 : Int32)) fun x5 => (if v3 = 0 then (ob (f_X8_takesOut N x5 p1) fun x6 => (ob (f_X8_toHeap N x6.2 x6.1) fun x7 => (znm (((upd (x7.2.2.1 0) 8 (((x7.2.2.1 0) 8) - (1 : Int32))) 232) + (1 : Int32)) fun x8 => (znm (sa x7 0 (upd (x7.2.2.1 0) 8 (((x7.2.2.1 0) 8) - (1 : Int32)))) fun y9 => (f_X8_plays_136 N p1 (sa y9 0 (upd (y9.2.2.1 0) 232 x8))))))) else (ob (f_X8_takesOut N x5 p1) fun x11 => (ob (f_X8_colorOf N v2) fun x12 => (chk (inb ((14 : Int32) + x12) 358) (chk (inb ((14 : Int32) + x12) 358) (znm ((upd (x11.2.2.2.1 0) (((14 : Int32) + x12)).toNatClampNeg (((x11.2.2.2.1 0) (((14 : Int32) + x12)).toNatClampNeg) + (1 : Int32))) 231) fun x15 => (znm (sa x11.2 0 (upd (x11.2.2.2.1 0) (((14 : Int32) + x12)).toNatClampNeg (((x11.2.2.2.1 0) (((14 : Int32) + x12)).toNatClampNeg) + (1 : Int32)))) fun y16 => (ob (f_X8_rankOf N v2) fun x17 => (if x17 = ((upd (y16.2.2.1 0) 231 (x15 + (1 : Int32))) 1) then (ob (f_X8_tokenBack N (sa y16 0 (upd (y16.2.2.1 0) 231 (x15 + (1 : Int32))))) fun x18 => (f_X8_plays_101 N p1 x18)) else (f_X8_plays_101 N p1 (sa y16 0 (upd (y16.2.2.1 0) 231 (x15 + (1 : Int32))))))))))))))))
theorem m_X8_plays_37 {K : Kt} {g : Gp} {a0 : Nat} {r0 : Nat → Nat} {N : Nat} {p1 : Int32} {res : Ob} (hg : Ok g) (C : Cx K g cX8_plays RX8 5 (zrm 5 110)) (X : Rx K (exR none (wX8 g a0 r0 res)) 0 0 none) (v2 : Int32) (v3 : Int32) (t1 : Int32) (s0 : Ob) (h : f_X8_plays_37 N p1 v2 v3 t1 s0 = some res) : Zs K 0 0 (wX8 g a0 r0 s0) [(0, .ref a0), (1, .int p1), (2, .int v2), (3, .int v3)] 37 [.int t1, .ref a0] := by
  unfold f_X8_plays_37 at h
  refine z_iload_n (pc := 37) (x := v2) C dX8_plays_37 (i := 2) rfl rfl ?_
  replace h := ob_e h
  obtain ⟨x4, hx4, h⟩ := h
  refine z_callS (pc := 38) (As := [.int v2]) (rest := [.int t1, .ref a0]) (wr := (wX8 g a0 r0 s0)) C dX8_plays_38 ml_RX8_220 wt_X8_told (m_X8_told hg hx4) [] [0, 1, 2, 3, 4, 5, 6, 7, 8, 9, 10, 11, 12, 13, 14] rfl rfl ⟨by decide, by decide⟩ (Nat.le_of_ble_eq_true rfl) ⟨by decide, by decide⟩ rfl rfl rfl rfl (by decide) (ex_k C (cs' := 0) (ss' := 0) (wF := (wX8 g a0 r0 s0)) [0, 1, 2, 3, 4, 5, 6, 7, 8, 9, 10, 11, 12, 13, 14] rfl rfl ?_)
  refine z_iconst (pc := 41) C dX8_plays_41 ic_m1 ?_
  replace h := ob_e h
  obtain ⟨x5, hx5, h⟩ := h
  refine z_callV (pc := 42) (As := [.int t1, .int x4, .int (-1 : Int32)]) (rest := []) (wr := ([] : va_W)) C dX8_plays_42 ml_RX8_280 wv_X8_logs (m_X8_logs (a0 := a0) (r0 := r0) hg hx5) [0, 1, 2, 3, 4, 5, 6, 7, 8, 9, 10, 11, 12, 13, 14] [] rfl rfl ⟨by decide, by decide⟩ (Nat.le_of_ble_eq_true rfl) ⟨by decide, by decide⟩ rfl rfl rfl rfl rfl rfl rfl (by decide) (ex_k C (cs' := 0) (ss' := 0) (wF := (wX8 g a0 r0 x5)) [0, 1, 2, 3, 4, 5, 6, 7, 8, 9, 10, 11, 12, 13, 14] rfl rfl ?_)
  refine z_iload_n (pc := 45) (x := v3) C dX8_plays_45 (i := 3) rfl rfl ?_
  refine z_if_eq (pc := 46) C dX8_plays_46 (tgt := 104) (by decide) (fun hc => ?_) (fun hc => ?_)
  · replace h := (ite_e h).1 hc
    refine z_aload_n (pc := 104) (x := a0) C dX8_plays_104 (i := 0) rfl rfl ?_
    refine z_aload_n (pc := 105) (x := a0) C dX8_plays_105 (i := 0) rfl rfl ?_
    refine z_iload_n (pc := 106) (x := p1) C dX8_plays_106 (i := 1) rfl rfl ?_
    replace h := ob_e h
    obtain ⟨x6, hx6, h⟩ := h
    refine z_callV (pc := 107) (As := [.int p1]) (rest := [.ref a0]) (wr := ([] : va_W)) C dX8_plays_107 ml_RX8_284 wv_X8_takesOut (m_X8_takesOut (a0 := a0) (r0 := r0) hg hx6) [0, 1, 2, 3, 4, 5, 6, 7, 8, 9, 10, 11, 12, 13, 14] [] rfl rfl ⟨by decide, by decide⟩ (Nat.le_of_ble_eq_true rfl) ⟨by decide, by decide⟩ rfl rfl rfl rfl rfl rfl rfl (by decide) (ex_k C (cs' := 0) (ss' := 0) (wF := (wX8 g a0 r0 x6.2)) [0, 1, 2, 3, 4, 5, 6, 7, 8, 9, 10, 11, 12, 13, 14] rfl rfl ?_)
    replace h := ob_e h
    obtain ⟨x7, hx7, h⟩ := h
    refine z_callV (pc := 110) (As := [.int x6.1]) (rest := []) (wr := ([] : va_W)) C dX8_plays_110 ml_RX8_290 wv_X8_toHeap (m_X8_toHeap (a0 := a0) (r0 := r0) hg hx7) [0, 1, 2, 3, 4, 5, 6, 7, 8, 9, 10, 11, 12, 13, 14] [] rfl rfl ⟨by decide, by decide⟩ (Nat.le_of_ble_eq_true rfl) ⟨by decide, by decide⟩ rfl rfl rfl rfl rfl rfl rfl (by decide) (ex_k C (cs' := 0) (ss' := 0) (wF := (wX8 g a0 r0 x7)) [0, 1, 2, 3, 4, 5, 6, 7, 8, 9, 10, 11, 12, 13, 14] rfl rfl ?_)
    refine z_aload_n (pc := 113) (x := a0) C dX8_plays_113 (i := 0) rfl rfl ?_
    refine z_get (pc := 114) (v := .ref (r0 0)) C 0 dX8_plays_114 fl_RX8_9 rfl rfl ?_
    refine z_bipush (pc := 117) C dX8_plays_117 bp_8 ?_
    refine z_dup2 (pc := 119) C dX8_plays_119 rfl rfl ?_
    refine z_iald (pc := 120) C 1 dX8_plays_120 rfl (by decide) ?_
    refine z_top1 (v := ((x7.2.2.1 0) 8)) rfl ?_
    refine z_iconst (pc := 121) C dX8_plays_121 ic_1 ?_
    refine z_isub (pc := 122) C dX8_plays_122 ?_
    refine z_iast (pc := 123) C 1 dX8_plays_123 rfl (by decide) (ws' := (wX8 g a0 r0 (sa x7 0 (upd (x7.2.2.1 0) 8 (((x7.2.2.1 0) 8) - (1 : Int32)))))) rfl ?_
    refine z_aload_n (pc := 124) (x := a0) C dX8_plays_124 (i := 0) rfl rfl ?_
    refine z_get (pc := 125) (v := .ref (r0 0)) C 0 dX8_plays_125 fl_RX8_9 rfl rfl ?_
    refine z_sipush (pc := 128) C dX8_plays_128 sp_232 ?_
    refine z_dup2 (pc := 131) C dX8_plays_131 rfl rfl ?_
    refine z_iald (pc := 132) C 1 dX8_plays_132 rfl (by decide) ?_
    refine z_top1 (v := ((upd (x7.2.2.1 0) 8 (((x7.2.2.1 0) 8) - (1 : Int32))) 232)) rfl ?_
    refine z_iconst (pc := 133) C dX8_plays_133 ic_1 ?_
    refine z_iadd (pc := 134) C dX8_plays_134 ?_
    replace h := znm_e h
    obtain ⟨x8, hx8, h⟩ := h
    refine z_top1 hx8 ?_
    replace h := znm_e h
    obtain ⟨y9, hy9, h⟩ := h
    refine z_wsE (ws' := (wX8 g a0 r0 y9)) (by rw [hy9]) ?_
    refine z_iast (pc := 135) C 1 dX8_plays_135 rfl (by decide) (ws' := (wX8 g a0 r0 (sa y9 0 (upd (y9.2.2.1 0) 232 x8)))) rfl ?_
    refine z_lv (lv' := [(0, .ref a0)]) [0] rfl ?_
    exact m_X8_plays_136 (a0 := a0) (r0 := r0) hg C X (sa y9 0 (upd (y9.2.2.1 0) 232 x8)) h
  · replace h := (ite_e h).2 hc
    refine z_aload_n (pc := 49) (x := a0) C dX8_plays_49 (i := 0) rfl rfl ?_
    refine z_iload_n (pc := 50) (x := p1) C dX8_plays_50 (i := 1) rfl rfl ?_
    replace h := ob_e h
    obtain ⟨x11, hx11, h⟩ := h
    refine z_callV (pc := 51) (As := [.int p1]) (rest := []) (wr := ([] : va_W)) C dX8_plays_51 ml_RX8_284 wv_X8_takesOut (m_X8_takesOut (a0 := a0) (r0 := r0) hg hx11) [0, 1, 2, 3, 4, 5, 6, 7, 8, 9, 10, 11, 12, 13, 14] [] rfl rfl ⟨by decide, by decide⟩ (Nat.le_of_ble_eq_true rfl) ⟨by decide, by decide⟩ rfl rfl rfl rfl rfl rfl rfl (by decide) (ex_k C (cs' := 0) (ss' := 0) (wF := (wX8 g a0 r0 x11.2)) [0, 1, 2, 3, 4, 5, 6, 7, 8, 9, 10, 11, 12, 13, 14] rfl rfl ?_)
    refine z_istore (pc := 54) C dX8_plays_54 (by decide) (lv' := [(4, .int x11.1), (0, .ref a0), (1, .int p1), (2, .int v2), (3, .int v3)]) rfl ?_
    refine z_aload_n (pc := 56) (x := a0) C dX8_plays_56 (i := 0) rfl rfl ?_
    refine z_get (pc := 57) (v := .ref (r0 0)) C 0 dX8_plays_57 fl_RX8_9 rfl rfl ?_
    refine z_bipush (pc := 60) C dX8_plays_60 bp_14 ?_
    refine z_iload_n (pc := 62) (x := v2) C dX8_plays_62 (i := 2) rfl rfl ?_
    replace h := ob_e h
    obtain ⟨x12, hx12, h⟩ := h
    refine z_callS (pc := 63) (As := [.int v2]) (rest := [.int (14 : Int32), .ref (r0 0)]) (wr := (wX8 g a0 r0 x11.2)) C dX8_plays_63 ml_RX8_70 wt_X8_colorOf (m_X8_colorOf hg hx12) [] [0, 1, 2, 3, 4, 5, 6, 7, 8, 9, 10, 11, 12, 13, 14] rfl rfl ⟨by decide, by decide⟩ (Nat.le_of_ble_eq_true rfl) ⟨by decide, by decide⟩ rfl rfl rfl rfl (by decide) (ex_k C (cs' := 0) (ss' := 0) (wF := (wX8 g a0 r0 x11.2)) [0, 1, 2, 3, 4, 5, 6, 7, 8, 9, 10, 11, 12, 13, 14] rfl rfl ?_)
    refine z_iadd (pc := 66) C dX8_plays_66 ?_
    refine z_dup2 (pc := 67) C dX8_plays_67 rfl rfl ?_
    replace h := chk_e h
    obtain ⟨hb13, h⟩ := h
    refine z_iald (pc := 68) C 1 dX8_plays_68 rfl hb13 ?_
    refine z_iconst (pc := 69) C dX8_plays_69 ic_1 ?_
    refine z_iadd (pc := 70) C dX8_plays_70 ?_
    replace h := chk_e h
    obtain ⟨hb14, h⟩ := h
    refine z_iast (pc := 71) C 1 dX8_plays_71 rfl hb14 (ws' := (wX8 g a0 r0 (sa x11.2 0 (upd (x11.2.2.2.1 0) (((14 : Int32) + x12)).toNatClampNeg (((x11.2.2.2.1 0) (((14 : Int32) + x12)).toNatClampNeg) + (1 : Int32)))))) rfl ?_
    refine z_aload_n (pc := 72) (x := a0) C dX8_plays_72 (i := 0) rfl rfl ?_
    refine z_get (pc := 73) (v := .ref (r0 0)) C 0 dX8_plays_73 fl_RX8_9 rfl rfl ?_
    refine z_sipush (pc := 76) C dX8_plays_76 sp_231 ?_
    refine z_dup2 (pc := 79) C dX8_plays_79 rfl rfl ?_
    refine z_iald (pc := 80) C 1 dX8_plays_80 rfl (by decide) ?_
    refine z_top1 (v := ((upd (x11.2.2.2.1 0) (((14 : Int32) + x12)).toNatClampNeg (((x11.2.2.2.1 0) (((14 : Int32) + x12)).toNatClampNeg) + (1 : Int32))) 231)) rfl ?_
    replace h := znm_e h
    obtain ⟨x15, hx15, h⟩ := h
    refine z_top1 hx15 ?_
    refine z_iconst (pc := 81) C dX8_plays_81 ic_1 ?_
    refine z_iadd (pc := 82) C dX8_plays_82 ?_
    replace h := znm_e h
    obtain ⟨y16, hy16, h⟩ := h
    refine z_wsE (ws' := (wX8 g a0 r0 y16)) (by rw [hy16]) ?_
    refine z_iast (pc := 83) C 1 dX8_plays_83 rfl (by decide) (ws' := (wX8 g a0 r0 (sa y16 0 (upd (y16.2.2.1 0) 231 (x15 + (1 : Int32)))))) rfl ?_
    refine z_iload_n (pc := 84) (x := v2) C dX8_plays_84 (i := 2) rfl rfl ?_
    replace h := ob_e h
    obtain ⟨x17, hx17, h⟩ := h
    refine z_callS (pc := 85) (As := [.int v2]) (rest := []) (wr := (wX8 g a0 r0 (sa y16 0 (upd (y16.2.2.1 0) 231 (x15 + (1 : Int32)))))) C dX8_plays_85 ml_RX8_74 wt_X8_rankOf (m_X8_rankOf hg hx17) [] [0, 1, 2, 3, 4, 5, 6, 7, 8, 9, 10, 11, 12, 13, 14] rfl rfl ⟨by decide, by decide⟩ (Nat.le_of_ble_eq_true rfl) ⟨by decide, by decide⟩ rfl rfl rfl rfl (by decide) (ex_k C (cs' := 0) (ss' := 0) (wF := (wX8 g a0 r0 (sa y16 0 (upd (y16.2.2.1 0) 231 (x15 + (1 : Int32)))))) [0, 1, 2, 3, 4, 5, 6, 7, 8, 9, 10, 11, 12, 13, 14] rfl rfl ?_)
    refine z_aload_n (pc := 88) (x := a0) C dX8_plays_88 (i := 0) rfl rfl ?_
    refine z_get (pc := 89) (v := .ref (r0 0)) C 0 dX8_plays_89 fl_RX8_9 rfl rfl ?_
    refine z_iconst (pc := 92) C dX8_plays_92 ic_1 ?_
    refine z_iald (pc := 93) C 1 dX8_plays_93 rfl (by decide) ?_
    refine z_top1 (v := ((upd (y16.2.2.1 0) 231 (x15 + (1 : Int32))) 1)) rfl ?_
    refine z_icmp_ne (pc := 94) C dX8_plays_94 (tgt := 101) (by decide) (fun hc => ?_) (fun hc => ?_)
    · replace h := (ite_e h).2 hc
      refine z_lv (lv' := [(0, .ref a0)]) [1] rfl ?_
      exact m_X8_plays_101 (a0 := a0) (r0 := r0) hg C X (sa y16 0 (upd (y16.2.2.1 0) 231 (x15 + (1 : Int32)))) h
    · replace h := (ite_e h).1 hc
      refine z_aload_n (pc := 97) (x := a0) C dX8_plays_97 (i := 0) rfl rfl ?_
      replace h := ob_e h
      obtain ⟨x18, hx18, h⟩ := h
      refine z_callV (pc := 98) (As := []) (rest := []) (wr := ([] : va_W)) C dX8_plays_98 ml_RX8_287 wv_X8_tokenBack (m_X8_tokenBack (a0 := a0) (r0 := r0) hg hx18) [0, 1, 2, 3, 4, 5, 6, 7, 8, 9, 10, 11, 12, 13, 14] [] rfl rfl ⟨by decide, by decide⟩ (Nat.le_of_ble_eq_true rfl) ⟨by decide, by decide⟩ rfl rfl rfl rfl rfl rfl rfl (by decide) (ex_k C (cs' := 0) (ss' := 0) (wF := (wX8 g a0 r0 x18)) [0, 1, 2, 3, 4, 5, 6, 7, 8, 9, 10, 11, 12, 13, 14] rfl rfl ?_)
      refine z_lv (lv' := [(0, .ref a0)]) [1] rfl ?_
      exact m_X8_plays_101 (a0 := a0) (r0 := r0) hg C X x18 h
def f_X8_plays (N : Nat) (s0 : Ob) (p1 : Int32) : Option (Ob) := (ob (f_X8_held N s0 ((s0.2.2.1 0) 10) p1) fun x1 => (chk (inb ((27 : Int32) + x1) 358) (ob (f_X8_isNext N s0 ((s0.2.2.1 0) (((27 : Int32) + x1)).toNatClampNeg)) fun x3 => (if x3 = 0 then (f_X8_plays_37 N p1 ((s0.2.2.1 0) (((27 : Int32) + x1)).toNatClampNeg) x3 (4 : Int32) s0) else (f_X8_plays_37 N p1 ((s0.2.2.1 0) (((27 : Int32) + x1)).toNatClampNeg) x3 (0 : Int32) s0)))))
theorem m_X8_plays {g : Gp} {a0 : Nat} {r0 : Nat → Nat} {N : Nat} {s0 : Ob} {p1 : Int32} {res : Ob} (hg : Ok g) (h : f_X8_plays N s0 p1 = some res) : Ct g yX8_plays cX8_plays 5 none (zrm 5 110) [.ref a0, .int p1] (wX8 g a0 r0 s0) (exR none (wX8 g a0 r0 res)) := by
  refine ct_of rfl hg (by show _ ≤ _; exact Nat.le_of_ble_eq_true rfl) (fun K C X => ?_)
  show Zs K 0 0 (wX8 g a0 r0 s0) [(0, .ref a0), (1, .int p1)] 0 []
  unfold f_X8_plays at h
  refine z_aload_n (pc := 0) (x := a0) C dX8_plays_0 (i := 0) rfl rfl ?_
  refine z_get (pc := 1) (v := .ref (r0 0)) C 0 dX8_plays_1 fl_RX8_9 rfl rfl ?_
  refine z_bipush (pc := 4) C dX8_plays_4 bp_27 ?_
  refine z_aload_n (pc := 6) (x := a0) C dX8_plays_6 (i := 0) rfl rfl ?_
  refine z_aload_n (pc := 7) (x := a0) C dX8_plays_7 (i := 0) rfl rfl ?_
  refine z_get (pc := 8) (v := .ref (r0 0)) C 0 dX8_plays_8 fl_RX8_9 rfl rfl ?_
  refine z_bipush (pc := 11) C dX8_plays_11 bp_10 ?_
  refine z_iald (pc := 13) C 1 dX8_plays_13 rfl (by decide) ?_
  refine z_top1 (v := ((s0.2.2.1 0) 10)) rfl ?_
  refine z_iload_n (pc := 14) (x := p1) C dX8_plays_14 (i := 1) rfl rfl ?_
  replace h := ob_e h
  obtain ⟨x1, hx1, h⟩ := h
  refine z_callV (pc := 15) (As := [.int ((s0.2.2.1 0) 10), .int p1]) (rest := [.int (27 : Int32), .ref (r0 0)]) (wr := ([] : va_W)) C dX8_plays_15 ml_RX8_217 wv_X8_held (m_X8_held (a0 := a0) (r0 := r0) hg hx1) [0, 1, 2, 3, 4, 5, 6, 7, 8, 9, 10, 11, 12, 13, 14] [] rfl rfl ⟨by decide, by decide⟩ (Nat.le_of_ble_eq_true rfl) ⟨by decide, by decide⟩ rfl rfl rfl rfl rfl rfl rfl (by decide) (ex_k C (cs' := 0) (ss' := 0) (wF := (wX8 g a0 r0 s0)) [0, 1, 2, 3, 4, 5, 6, 7, 8, 9, 10, 11, 12, 13, 14] rfl rfl ?_)
  refine z_iadd (pc := 18) C dX8_plays_18 ?_
  replace h := chk_e h
  obtain ⟨hb2, h⟩ := h
  refine z_iald (pc := 19) C 1 dX8_plays_19 rfl hb2 ?_
  refine z_istore_n (pc := 20) C dX8_plays_20 (i := 2) rfl (by decide) (lv' := [(2, .int ((s0.2.2.1 0) (((27 : Int32) + x1)).toNatClampNeg)), (0, .ref a0), (1, .int p1)]) rfl ?_
  refine z_aload_n (pc := 21) (x := a0) C dX8_plays_21 (i := 0) rfl rfl ?_
  refine z_iload_n (pc := 22) (x := ((s0.2.2.1 0) (((27 : Int32) + x1)).toNatClampNeg)) C dX8_plays_22 (i := 2) rfl rfl ?_
  replace h := ob_e h
  obtain ⟨x3, hx3, h⟩ := h
  refine z_callV (pc := 23) (As := [.int ((s0.2.2.1 0) (((27 : Int32) + x1)).toNatClampNeg)]) (rest := []) (wr := ([] : va_W)) C dX8_plays_23 ml_RX8_245 wv_X8_isNext (m_X8_isNext (a0 := a0) (r0 := r0) hg hx3) [0, 1, 2, 3, 4, 5, 6, 7, 8, 9, 10, 11, 12, 13, 14] [] rfl rfl ⟨by decide, by decide⟩ (Nat.le_of_ble_eq_true rfl) ⟨by decide, by decide⟩ rfl rfl rfl rfl rfl rfl rfl (by decide) (ex_k C (cs' := 0) (ss' := 0) (wF := (wX8 g a0 r0 s0)) [0, 1, 2, 3, 4, 5, 6, 7, 8, 9, 10, 11, 12, 13, 14] rfl rfl ?_)
  refine z_istore_n (pc := 26) C dX8_plays_26 (i := 3) rfl (by decide) (lv' := [(3, .int x3), (2, .int ((s0.2.2.1 0) (((27 : Int32) + x1)).toNatClampNeg)), (0, .ref a0), (1, .int p1)]) rfl ?_
  refine z_aload_n (pc := 27) (x := a0) C dX8_plays_27 (i := 0) rfl rfl ?_
  refine z_iload_n (pc := 28) (x := x3) C dX8_plays_28 (i := 3) rfl rfl ?_
  refine z_if_eq (pc := 29) C dX8_plays_29 (tgt := 36) (by decide) (fun hc => ?_) (fun hc => ?_)
  · replace h := (ite_e h).1 hc
    refine z_iconst (pc := 36) C dX8_plays_36 ic_4 ?_
    refine z_lv (lv' := [(0, .ref a0), (1, .int p1), (2, .int ((s0.2.2.1 0) (((27 : Int32) + x1)).toNatClampNeg)), (3, .int x3)]) [2, 3, 1, 0] rfl ?_
    exact m_X8_plays_37 (a0 := a0) (r0 := r0) hg C X ((s0.2.2.1 0) (((27 : Int32) + x1)).toNatClampNeg) x3 (4 : Int32) s0 h
  · replace h := (ite_e h).2 hc
    refine z_iconst (pc := 32) C dX8_plays_32 ic_0 ?_
    refine z_goto (pc := 33) C dX8_plays_33 (tgt := 37) (by decide) ?_
    refine z_lv (lv' := [(0, .ref a0), (1, .int p1), (2, .int ((s0.2.2.1 0) (((27 : Int32) + x1)).toNatClampNeg)), (3, .int x3)]) [2, 3, 1, 0] rfl ?_
    exact m_X8_plays_37 (a0 := a0) (r0 := r0) hg C X ((s0.2.2.1 0) (((27 : Int32) + x1)).toNatClampNeg) x3 (0 : Int32) s0 h
