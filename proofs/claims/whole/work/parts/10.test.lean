/-! OWN, written -/
def f_X1_topOf (N : Nat) (s0 : Ob) (p1 : Int32) : Option (Int32) := (if p1 < 0 then (some (0 : Int32)) else (if (4 : Int32) ≤ p1 then (some (0 : Int32)) else (chk (inb p1 4) (some ((s0.2.2.1 11) (p1).toNatClampNeg)))))
theorem m_X1_topOf {g : Gp} {a0 : Nat} {r0 : Nat → Nat} {q0_0 : Nat} {N : Nat} {s0 : Ob} {p1 : Int32} {res : Int32} (hg : Ok g) (h : f_X1_topOf N s0 p1 = some res) : Ct g yX1_topOf cX1_topOf 2 (some .int) (zrm 0 0) [.ref a0, .int p1] (wX1 g a0 r0 q0_0 s0) (exR (some (.int res)) (wX1 g a0 r0 q0_0 s0)) := by
  refine ct_of rfl hg (by show _ ≤ _; exact Nat.le_of_ble_eq_true rfl) (fun K C X => ?_)
  show Zs K 0 0 (wX1 g a0 r0 q0_0 s0) [(0, .ref a0), (1, .int p1)] 0 []
  unfold f_X1_topOf at h
  refine z_iload_n (pc := 0) (x := p1) C dX1_topOf_0 (i := 1) rfl rfl ?_
  refine z_if_lt (pc := 1) C dX1_topOf_1 (tgt := 18) (by decide) (fun hc => ?_) (fun hc => ?_)
  · replace h := (ite_e h).1 hc
    refine z_iconst (pc := 18) C dX1_topOf_18 ic_0 ?_
    exact z_iret C dX1_topOf_19 (by rw [← Option.some.inj h]; exact ⟨rfl, rfl⟩) (by decide) (by decide)
  · replace h := (ite_e h).2 hc
    refine z_iload_n (pc := 4) (x := p1) C dX1_topOf_4 (i := 1) rfl rfl ?_
    refine z_iconst (pc := 5) C dX1_topOf_5 ic_4 ?_
    refine z_icmp_ge (pc := 6) C dX1_topOf_6 (tgt := 18) (by decide) (fun hc => ?_) (fun hc => ?_)
    · replace h := (ite_e h).1 hc
      refine z_iconst (pc := 18) C dX1_topOf_18 ic_0 ?_
      exact z_iret C dX1_topOf_19 (by rw [← Option.some.inj h]; exact ⟨rfl, rfl⟩) (by decide) (by decide)
    · replace h := (ite_e h).2 hc
      refine z_aload_n (pc := 9) (x := a0) C dX1_topOf_9 (i := 0) rfl rfl ?_
      refine z_get (pc := 10) (v := .ref (r0 11)) C 0 dX1_topOf_10 fl_RX1_21 rfl rfl ?_
      refine z_iload_n (pc := 13) (x := p1) C dX1_topOf_13 (i := 1) rfl rfl ?_
      obtain ⟨hb1, h⟩ := chk_e h
      refine z_iald (pc := 14) C 4 dX1_topOf_14 rfl hb1 ?_
      refine z_goto (pc := 15) C dX1_topOf_15 (tgt := 19) (by decide) ?_
      exact z_iret C dX1_topOf_19 (by rw [← Option.some.inj h]; exact ⟨rfl, rfl⟩) (by decide) (by decide)
def F_X1_reachableTop_27 (N : Nat) (s0 : Ob) (s1 : Ob) (p1 : Int32)  (k27 : Int32 → Int32 → Int32 → Option (Int32)) (v2 : Int32) (v3 : Int32) (v4 : Int32) : Option (Int32) := (if (v3 + (s1.1 1)) ≤ v4 then (some v2) else (if (20 : Int32) ≤ v4 then (some v2) else (chk (inb v4 20) (chk (inb v4 20) (if ((s1.2.2.1 9) (v4).toNatClampNeg) ≤ ((s0.2.2.1 12) (v4).toNatClampNeg) then (some v2) else (k27 (v2 + (1 : Int32)) v3 (v4 + (1 : Int32))))))))
def f_X1_reachableTop_27 (N : Nat) (s0 : Ob) (s1 : Ob) (p1 : Int32)  : Nat → Int32 → Int32 → Int32 → Option (Int32) := zlp (fun _ _ _ => none) (F_X1_reachableTop_27 N s0 s1 p1)
theorem m_X1_reachableTop_27 {K : Kt} {g : Gp} {a0 : Nat} {r0 : Nat → Nat} {q0_0 : Nat} {r1 : Nat → Nat} {N : Nat} {s0 : Ob} {s1 : Ob} {p1 : Int32} {res : Int32} (hg : Ok g) (C : Cx K g cX1_reachableTop RX1 5 (zrm 0 0)) (X : Rx K (exR (some (.int res)) (wX1 g a0 r0 q0_0 s0 ++ wX5 g q0_0 r1 s1)) 0 0 (some .int)) : ∀ (n : Nat) (v2 : Int32) (v3 : Int32) (v4 : Int32), f_X1_reachableTop_27 N s0 s1 p1 n v2 v3 v4 = some res → Zs K 0 0 (wX1 g a0 r0 q0_0 s0 ++ wX5 g q0_0 r1 s1) [(0, .ref a0), (2, .int v2), (3, .int v3), (4, .int v4)] 27 [] := by
  intro n
  induction n with
  | zero => intro v2 v3 v4 h; exact nomatch (show (none : Option (Int32)) = some res from h)
  | succ n hk27 =>
    intro v2 v3 v4 h
    replace h : F_X1_reachableTop_27 N s0 s1 p1 (f_X1_reachableTop_27 N s0 s1 p1 n) v2 v3 v4 = some res := h
    unfold F_X1_reachableTop_27 at h
    refine z_iload (pc := 27) (x := v4) C dX1_reachableTop_27 rfl ?_
    refine z_iload_n (pc := 29) (x := v3) C dX1_reachableTop_29 (i := 3) rfl rfl ?_
    refine z_aload_n (pc := 30) (x := a0) C dX1_reachableTop_30 (i := 0) rfl rfl ?_
    refine z_get (pc := 31) (v := .ref q0_0) C 0 dX1_reachableTop_31 fl_RX1_38 rfl rfl ?_
    refine z_get (pc := 34) (v := .int (s1.1 1)) C 9 dX1_reachableTop_34 fl_RX1_107 rfl rfl ?_
    refine z_iadd (pc := 37) C dX1_reachableTop_37 ?_
    refine z_icmp_ge (pc := 38) C dX1_reachableTop_38 (tgt := 77) (by decide) (fun hc => ?_) (fun hc => ?_)
    · replace h := (ite_e h).1 hc
      refine z_iload_n (pc := 77) (x := v2) C dX1_reachableTop_77 (i := 2) rfl rfl ?_
      exact z_iret C dX1_reachableTop_78 (by rw [← Option.some.inj h]; exact ⟨rfl, rfl⟩) (by decide) (by decide)
    · replace h := (ite_e h).2 hc
      refine z_iload (pc := 41) (x := v4) C dX1_reachableTop_41 rfl ?_
      refine z_bipush (pc := 43) C dX1_reachableTop_43 bp_20 ?_
      refine z_icmp_ge (pc := 45) C dX1_reachableTop_45 (tgt := 77) (by decide) (fun hc => ?_) (fun hc => ?_)
      · replace h := (ite_e h).1 hc
        refine z_iload_n (pc := 77) (x := v2) C dX1_reachableTop_77 (i := 2) rfl rfl ?_
        exact z_iret C dX1_reachableTop_78 (by rw [← Option.some.inj h]; exact ⟨rfl, rfl⟩) (by decide) (by decide)
      · replace h := (ite_e h).2 hc
        refine z_aload_n (pc := 48) (x := a0) C dX1_reachableTop_48 (i := 0) rfl rfl ?_
        refine z_get (pc := 49) (v := .ref (r0 12)) C 0 dX1_reachableTop_49 fl_RX1_24 rfl rfl ?_
        refine z_iload (pc := 52) (x := v4) C dX1_reachableTop_52 rfl ?_
        obtain ⟨hb2, h⟩ := chk_e h
        refine z_iald (pc := 54) C 5 dX1_reachableTop_54 rfl hb2 ?_
        refine z_aload_n (pc := 55) (x := a0) C dX1_reachableTop_55 (i := 0) rfl rfl ?_
        refine z_get (pc := 56) (v := .ref q0_0) C 0 dX1_reachableTop_56 fl_RX1_38 rfl rfl ?_
        refine z_get (pc := 59) (v := .ref (r1 9)) C 9 dX1_reachableTop_59 fl_RX1_130 rfl rfl ?_
        refine z_iload (pc := 62) (x := v4) C dX1_reachableTop_62 rfl ?_
        obtain ⟨hb3, h⟩ := chk_e h
        refine z_iald (pc := 64) C 11 dX1_reachableTop_64 rfl hb3 ?_
        refine z_icmp_ge (pc := 65) C dX1_reachableTop_65 (tgt := 77) (by decide) (fun hc => ?_) (fun hc => ?_)
        · replace h := (ite_e h).1 hc
          refine z_iload_n (pc := 77) (x := v2) C dX1_reachableTop_77 (i := 2) rfl rfl ?_
          exact z_iret C dX1_reachableTop_78 (by rw [← Option.some.inj h]; exact ⟨rfl, rfl⟩) (by decide) (by decide)
        · replace h := (ite_e h).2 hc
          refine z_iinc (pc := 68) C dX1_reachableTop_68 rfl (inc_e 1 (1 : Int32) ic_1 v2) (by decide) (lv' := [(2, .int (v2 + (1 : Int32))), (0, .ref a0), (3, .int v3), (4, .int v4)]) rfl ?_
          refine z_iinc (pc := 71) C dX1_reachableTop_71 rfl (inc_e 1 (1 : Int32) ic_1 v4) (by decide) (lv' := [(4, .int (v4 + (1 : Int32))), (2, .int (v2 + (1 : Int32))), (0, .ref a0), (3, .int v3)]) rfl ?_
          refine z_goto (pc := 74) C dX1_reachableTop_74 (tgt := 27) (by decide) ?_
          refine z_lv (lv' := [(0, .ref a0), (2, .int (v2 + (1 : Int32))), (3, .int v3), (4, .int (v4 + (1 : Int32)))]) [2, 1, 3, 0] rfl ?_
          exact hk27 (v2 + (1 : Int32)) v3 (v4 + (1 : Int32)) h
def f_X1_reachableTop (N : Nat) (s0 : Ob) (s1 : Ob) (p1 : Int32) : Option (Int32) := (if p1 < 0 then (some (0 : Int32)) else (if p1 < (4 : Int32) then (chk (inb p1 4) (f_X1_reachableTop_27 N s0 s1 p1 N ((s0.2.2.1 11) (p1).toNatClampNeg) (p1 * (5 : Int32)) ((p1 * (5 : Int32)) + ((s0.2.2.1 11) (p1).toNatClampNeg)))) else (some (0 : Int32))))
theorem m_X1_reachableTop {g : Gp} {a0 : Nat} {r0 : Nat → Nat} {q0_0 : Nat} {r1 : Nat → Nat} {N : Nat} {s0 : Ob} {s1 : Ob} {p1 : Int32} {res : Int32} (hg : Ok g) (h : f_X1_reachableTop N s0 s1 p1 = some res) : Ct g yX1_reachableTop cX1_reachableTop 5 (some .int) (zrm 0 0) [.ref a0, .int p1] (wX1 g a0 r0 q0_0 s0 ++ wX5 g q0_0 r1 s1) (exR (some (.int res)) (wX1 g a0 r0 q0_0 s0 ++ wX5 g q0_0 r1 s1)) := by
  refine ct_of rfl hg (by show _ ≤ _; exact Nat.le_of_ble_eq_true rfl) (fun K C X => ?_)
  show Zs K 0 0 (wX1 g a0 r0 q0_0 s0 ++ wX5 g q0_0 r1 s1) [(0, .ref a0), (1, .int p1)] 0 []
  unfold f_X1_reachableTop at h
  refine z_iload_n (pc := 0) (x := p1) C dX1_reachableTop_0 (i := 1) rfl rfl ?_
  refine z_if_lt (pc := 1) C dX1_reachableTop_1 (tgt := 9) (by decide) (fun hc => ?_) (fun hc => ?_)
  · replace h := (ite_e h).1 hc
    refine z_iconst (pc := 9) C dX1_reachableTop_9 ic_0 ?_
    exact z_iret C dX1_reachableTop_10 (by rw [← Option.some.inj h]; exact ⟨rfl, rfl⟩) (by decide) (by decide)
  · replace h := (ite_e h).2 hc
    refine z_iload_n (pc := 4) (x := p1) C dX1_reachableTop_4 (i := 1) rfl rfl ?_
    refine z_iconst (pc := 5) C dX1_reachableTop_5 ic_4 ?_
    refine z_icmp_lt (pc := 6) C dX1_reachableTop_6 (tgt := 11) (by decide) (fun hc => ?_) (fun hc => ?_)
    · replace h := (ite_e h).1 hc
      refine z_aload_n (pc := 11) (x := a0) C dX1_reachableTop_11 (i := 0) rfl rfl ?_
      refine z_get (pc := 12) (v := .ref (r0 11)) C 0 dX1_reachableTop_12 fl_RX1_21 rfl rfl ?_
      refine z_iload_n (pc := 15) (x := p1) C dX1_reachableTop_15 (i := 1) rfl rfl ?_
      obtain ⟨hb1, h⟩ := chk_e h
      refine z_iald (pc := 16) C 4 dX1_reachableTop_16 rfl hb1 ?_
      refine z_istore_n (pc := 17) C dX1_reachableTop_17 (i := 2) rfl (by decide) (lv' := [(2, .int ((s0.2.2.1 11) (p1).toNatClampNeg)), (0, .ref a0), (1, .int p1)]) rfl ?_
      refine z_iload_n (pc := 18) (x := p1) C dX1_reachableTop_18 (i := 1) rfl rfl ?_
      refine z_iconst (pc := 19) C dX1_reachableTop_19 ic_5 ?_
      refine z_imul (pc := 20) C dX1_reachableTop_20 ?_
      refine z_istore_n (pc := 21) C dX1_reachableTop_21 (i := 3) rfl (by decide) (lv' := [(3, .int (p1 * (5 : Int32))), (2, .int ((s0.2.2.1 11) (p1).toNatClampNeg)), (0, .ref a0), (1, .int p1)]) rfl ?_
      refine z_iload_n (pc := 22) (x := (p1 * (5 : Int32))) C dX1_reachableTop_22 (i := 3) rfl rfl ?_
      refine z_iload_n (pc := 23) (x := ((s0.2.2.1 11) (p1).toNatClampNeg)) C dX1_reachableTop_23 (i := 2) rfl rfl ?_
      refine z_iadd (pc := 24) C dX1_reachableTop_24 ?_
      refine z_istore (pc := 25) C dX1_reachableTop_25 (by decide) (lv' := [(4, .int ((p1 * (5 : Int32)) + ((s0.2.2.1 11) (p1).toNatClampNeg))), (3, .int (p1 * (5 : Int32))), (2, .int ((s0.2.2.1 11) (p1).toNatClampNeg)), (0, .ref a0), (1, .int p1)]) rfl ?_
      refine z_lv (lv' := [(0, .ref a0), (2, .int ((s0.2.2.1 11) (p1).toNatClampNeg)), (3, .int (p1 * (5 : Int32))), (4, .int ((p1 * (5 : Int32)) + ((s0.2.2.1 11) (p1).toNatClampNeg)))]) [3, 2, 1, 0] rfl ?_
      exact m_X1_reachableTop_27 hg C X N ((s0.2.2.1 11) (p1).toNatClampNeg) (p1 * (5 : Int32)) ((p1 * (5 : Int32)) + ((s0.2.2.1 11) (p1).toNatClampNeg)) h
    · replace h := (ite_e h).2 hc
      refine z_iconst (pc := 9) C dX1_reachableTop_9 ic_0 ?_
      exact z_iret C dX1_reachableTop_10 (by rw [← Option.some.inj h]; exact ⟨rfl, rfl⟩) (by decide) (by decide)
def F_X1_score_4 (N : Nat) (s0 : Ob)  (k4 : Int32 → Int32 → Option (Int32)) (v1 : Int32) (v2 : Int32) : Option (Int32) := (if (4 : Int32) ≤ v2 then (some v1) else (chk (inb v2 4) (k4 (v1 + ((s0.2.2.1 11) (v2).toNatClampNeg)) (v2 + (1 : Int32)))))
def f_X1_score_4 (N : Nat) (s0 : Ob)  : Nat → Int32 → Int32 → Option (Int32) := zlp (fun _ _ => none) (F_X1_score_4 N s0)
theorem m_X1_score_4 {K : Kt} {g : Gp} {a0 : Nat} {r0 : Nat → Nat} {q0_0 : Nat} {N : Nat} {s0 : Ob} {res : Int32} (hg : Ok g) (C : Cx K g cX1_score RX1 3 (zrm 0 0)) (X : Rx K (exR (some (.int res)) (wX1 g a0 r0 q0_0 s0)) 0 0 (some .int)) : ∀ (n : Nat) (v1 : Int32) (v2 : Int32), f_X1_score_4 N s0 n v1 v2 = some res → Zs K 0 0 (wX1 g a0 r0 q0_0 s0) [(0, .ref a0), (1, .int v1), (2, .int v2)] 4 [] := by
  intro n
  induction n with
  | zero => intro v1 v2 h; exact nomatch (show (none : Option (Int32)) = some res from h)
  | succ n hk4 =>
    intro v1 v2 h
    replace h : F_X1_score_4 N s0 (f_X1_score_4 N s0 n) v1 v2 = some res := h
    unfold F_X1_score_4 at h
    refine z_iload_n (pc := 4) (x := v2) C dX1_score_4 (i := 2) rfl rfl ?_
    refine z_iconst (pc := 5) C dX1_score_5 ic_4 ?_
    refine z_icmp_ge (pc := 6) C dX1_score_6 (tgt := 24) (by decide) (fun hc => ?_) (fun hc => ?_)
    · replace h := (ite_e h).1 hc
      refine z_iload_n (pc := 24) (x := v1) C dX1_score_24 (i := 1) rfl rfl ?_
      exact z_iret C dX1_score_25 (by rw [← Option.some.inj h]; exact ⟨rfl, rfl⟩) (by decide) (by decide)
    · replace h := (ite_e h).2 hc
      refine z_iload_n (pc := 9) (x := v1) C dX1_score_9 (i := 1) rfl rfl ?_
      refine z_aload_n (pc := 10) (x := a0) C dX1_score_10 (i := 0) rfl rfl ?_
      refine z_get (pc := 11) (v := .ref (r0 11)) C 0 dX1_score_11 fl_RX1_21 rfl rfl ?_
      refine z_iload_n (pc := 14) (x := v2) C dX1_score_14 (i := 2) rfl rfl ?_
      obtain ⟨hb1, h⟩ := chk_e h
      refine z_iald (pc := 15) C 4 dX1_score_15 rfl hb1 ?_
      refine z_iadd (pc := 16) C dX1_score_16 ?_
      refine z_istore_n (pc := 17) C dX1_score_17 (i := 1) rfl (by decide) (lv' := [(1, .int (v1 + ((s0.2.2.1 11) (v2).toNatClampNeg))), (0, .ref a0), (2, .int v2)]) rfl ?_
      refine z_iinc (pc := 18) C dX1_score_18 rfl (inc_e 1 (1 : Int32) ic_1 v2) (by decide) (lv' := [(2, .int (v2 + (1 : Int32))), (1, .int (v1 + ((s0.2.2.1 11) (v2).toNatClampNeg))), (0, .ref a0)]) rfl ?_
      refine z_goto (pc := 21) C dX1_score_21 (tgt := 4) (by decide) ?_
      refine z_lv (lv' := [(0, .ref a0), (1, .int (v1 + ((s0.2.2.1 11) (v2).toNatClampNeg))), (2, .int (v2 + (1 : Int32)))]) [2, 1, 0] rfl ?_
      exact hk4 (v1 + ((s0.2.2.1 11) (v2).toNatClampNeg)) (v2 + (1 : Int32)) h
def f_X1_score (N : Nat) (s0 : Ob) : Option (Int32) := (f_X1_score_4 N s0 N (0 : Int32) (0 : Int32))
theorem m_X1_score {g : Gp} {a0 : Nat} {r0 : Nat → Nat} {q0_0 : Nat} {N : Nat} {s0 : Ob} {res : Int32} (hg : Ok g) (h : f_X1_score N s0 = some res) : Ct g yX1_score cX1_score 3 (some .int) (zrm 0 0) [.ref a0] (wX1 g a0 r0 q0_0 s0) (exR (some (.int res)) (wX1 g a0 r0 q0_0 s0)) := by
  refine ct_of rfl hg (by show _ ≤ _; exact Nat.le_of_ble_eq_true rfl) (fun K C X => ?_)
  show Zs K 0 0 (wX1 g a0 r0 q0_0 s0) [(0, .ref a0)] 0 []
  unfold f_X1_score at h
  refine z_iconst (pc := 0) C dX1_score_0 ic_0 ?_
  refine z_istore_n (pc := 1) C dX1_score_1 (i := 1) rfl (by decide) (lv' := [(1, .int (0 : Int32)), (0, .ref a0)]) rfl ?_
  refine z_iconst (pc := 2) C dX1_score_2 ic_0 ?_
  refine z_istore_n (pc := 3) C dX1_score_3 (i := 2) rfl (by decide) (lv' := [(2, .int (0 : Int32)), (1, .int (0 : Int32)), (0, .ref a0)]) rfl ?_
  refine z_lv (lv' := [(0, .ref a0), (1, .int (0 : Int32)), (2, .int (0 : Int32))]) [2, 1, 0] rfl ?_
  exact m_X1_score_4 hg C X N (0 : Int32) (0 : Int32) h
def F_X1_reachableScore_4 (N : Nat) (s0 : Ob) (s1 : Ob)  (k4 : Int32 → Int32 → Option (Int32)) (v1 : Int32) (v2 : Int32) : Option (Int32) := (if (s1.1 0) ≤ v2 then (some v1) else (ob (f_X1_reachableTop N s0 s1 v2) fun x1 => (k4 (v1 + x1) (v2 + (1 : Int32)))))
def f_X1_reachableScore_4 (N : Nat) (s0 : Ob) (s1 : Ob)  : Nat → Int32 → Int32 → Option (Int32) := zlp (fun _ _ => none) (F_X1_reachableScore_4 N s0 s1)
theorem m_X1_reachableScore_4 {K : Kt} {g : Gp} {a0 : Nat} {r0 : Nat → Nat} {q0_0 : Nat} {r1 : Nat → Nat} {N : Nat} {s0 : Ob} {s1 : Ob} {res : Int32} (hg : Ok g) (C : Cx K g cX1_reachableScore RX1 3 (zrm 1 24)) (X : Rx K (exR (some (.int res)) (wX1 g a0 r0 q0_0 s0 ++ wX5 g q0_0 r1 s1)) 0 0 (some .int)) : ∀ (n : Nat) (v1 : Int32) (v2 : Int32), f_X1_reachableScore_4 N s0 s1 n v1 v2 = some res → Zs K 0 0 (wX1 g a0 r0 q0_0 s0 ++ wX5 g q0_0 r1 s1) [(0, .ref a0), (1, .int v1), (2, .int v2)] 4 [] := by
  intro n
  induction n with
  | zero => intro v1 v2 h; exact nomatch (show (none : Option (Int32)) = some res from h)
  | succ n hk4 =>
    intro v1 v2 h
    replace h : F_X1_reachableScore_4 N s0 s1 (f_X1_reachableScore_4 N s0 s1 n) v1 v2 = some res := h
    unfold F_X1_reachableScore_4 at h
    refine z_iload_n (pc := 4) (x := v2) C dX1_reachableScore_4 (i := 2) rfl rfl ?_
    refine z_aload_n (pc := 5) (x := a0) C dX1_reachableScore_5 (i := 0) rfl rfl ?_
    refine z_get (pc := 6) (v := .ref q0_0) C 0 dX1_reachableScore_6 fl_RX1_38 rfl rfl ?_
    refine z_get (pc := 9) (v := .int (s1.1 0)) C 9 dX1_reachableScore_9 fl_RX1_104 rfl rfl ?_
    refine z_icmp_ge (pc := 12) C dX1_reachableScore_12 (tgt := 29) (by decide) (fun hc => ?_) (fun hc => ?_)
    · replace h := (ite_e h).1 hc
      refine z_iload_n (pc := 29) (x := v1) C dX1_reachableScore_29 (i := 1) rfl rfl ?_
      exact z_iret C dX1_reachableScore_30 (by rw [← Option.some.inj h]; exact ⟨rfl, rfl⟩) (by decide) (by decide)
    · replace h := (ite_e h).2 hc
      refine z_iload_n (pc := 15) (x := v1) C dX1_reachableScore_15 (i := 1) rfl rfl ?_
      refine z_aload_n (pc := 16) (x := a0) C dX1_reachableScore_16 (i := 0) rfl rfl ?_
      refine z_iload_n (pc := 17) (x := v2) C dX1_reachableScore_17 (i := 2) rfl rfl ?_
      obtain ⟨x1, hx1, h⟩ := ob_e h
      refine z_callV (pc := 18) (As := [.int v2]) (rest := [.int v1]) (wr := ([] : va_W)) C dX1_reachableScore_18 ml_RX1_136 wv_X1_reachableTop (m_X1_reachableTop (a0 := a0) (r0 := r0) (q0_0 := q0_0) (r1 := r1) hg hx1) [0, 1, 2, 3, 4, 5, 6, 7, 8, 9, 10, 11, 12] [] rfl rfl ⟨by decide, by decide⟩ (Nat.le_of_ble_eq_true rfl) ⟨by decide, by decide⟩ rfl rfl rfl rfl rfl rfl rfl (by decide) (ex_k C (cs' := 0) (ss' := 0) (wF := (wX1 g a0 r0 q0_0 s0 ++ wX5 g q0_0 r1 s1)) [0, 1, 2, 3, 4, 5, 6, 7, 8, 9, 10, 11, 12] rfl rfl ?_)
      refine z_iadd (pc := 21) C dX1_reachableScore_21 ?_
      refine z_istore_n (pc := 22) C dX1_reachableScore_22 (i := 1) rfl (by decide) (lv' := [(1, .int (v1 + x1)), (0, .ref a0), (2, .int v2)]) rfl ?_
      refine z_iinc (pc := 23) C dX1_reachableScore_23 rfl (inc_e 1 (1 : Int32) ic_1 v2) (by decide) (lv' := [(2, .int (v2 + (1 : Int32))), (1, .int (v1 + x1)), (0, .ref a0)]) rfl ?_
      refine z_goto (pc := 26) C dX1_reachableScore_26 (tgt := 4) (by decide) ?_
      refine z_lv (lv' := [(0, .ref a0), (1, .int (v1 + x1)), (2, .int (v2 + (1 : Int32)))]) [2, 1, 0] rfl ?_
      exact hk4 (v1 + x1) (v2 + (1 : Int32)) h
def f_X1_reachableScore (N : Nat) (s0 : Ob) (s1 : Ob) : Option (Int32) := (f_X1_reachableScore_4 N s0 s1 N (0 : Int32) (0 : Int32))
theorem m_X1_reachableScore {g : Gp} {a0 : Nat} {r0 : Nat → Nat} {q0_0 : Nat} {r1 : Nat → Nat} {N : Nat} {s0 : Ob} {s1 : Ob} {res : Int32} (hg : Ok g) (h : f_X1_reachableScore N s0 s1 = some res) : Ct g yX1_reachableScore cX1_reachableScore 3 (some .int) (zrm 1 24) [.ref a0] (wX1 g a0 r0 q0_0 s0 ++ wX5 g q0_0 r1 s1) (exR (some (.int res)) (wX1 g a0 r0 q0_0 s0 ++ wX5 g q0_0 r1 s1)) := by
  refine ct_of rfl hg (by show _ ≤ _; exact Nat.le_of_ble_eq_true rfl) (fun K C X => ?_)
  show Zs K 0 0 (wX1 g a0 r0 q0_0 s0 ++ wX5 g q0_0 r1 s1) [(0, .ref a0)] 0 []
  unfold f_X1_reachableScore at h
  refine z_iconst (pc := 0) C dX1_reachableScore_0 ic_0 ?_
  refine z_istore_n (pc := 1) C dX1_reachableScore_1 (i := 1) rfl (by decide) (lv' := [(1, .int (0 : Int32)), (0, .ref a0)]) rfl ?_
  refine z_iconst (pc := 2) C dX1_reachableScore_2 ic_0 ?_
  refine z_istore_n (pc := 3) C dX1_reachableScore_3 (i := 2) rfl (by decide) (lv' := [(2, .int (0 : Int32)), (1, .int (0 : Int32)), (0, .ref a0)]) rfl ?_
  refine z_lv (lv' := [(0, .ref a0), (1, .int (0 : Int32)), (2, .int (0 : Int32))]) [2, 1, 0] rfl ?_
  exact m_X1_reachableScore_4 hg C X N (0 : Int32) (0 : Int32) h
