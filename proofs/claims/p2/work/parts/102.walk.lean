/-! OWN, written by wip/whole/tools/mkall.py: what each method does to its cells, and the walk that shows it -/
def f_X1_timesLeft (N : Nat) (s0 : Ob) (p1 : Int32) (p2 : Int32) : Option (Int32) := (ob (f_X5_indexOfWord N p1 p2) fun x1 => (if x1 = (-1 : Int32) then (some (0 : Int32)) else (chk (inb x1 9) (some ((s0.2.2.1 13) (x1).toNatClampNeg)))))
theorem m_X1_timesLeft {g : Gp} {a0 : Nat} {r0 : Nat → Nat} {q0_0 : Nat} {N : Nat} {s0 : Ob} {p1 : Int32} {p2 : Int32} {res : Int32} (hg : Ok g) (h : f_X1_timesLeft N s0 p1 p2 = some res) : Ct g yX1_timesLeft cX1_timesLeft 4 (some .int) (zrm 1 21) [.ref a0, .int p1, .int p2] (wX1 g a0 r0 q0_0 s0) (exR (some (.int res)) (wX1 g a0 r0 q0_0 s0)) := by
  refine ct_of rfl hg (by show _ ≤ _; exact Nat.le_of_ble_eq_true rfl) (fun K C X => ?_)
  show Zs K 0 0 (wX1 g a0 r0 q0_0 s0) [(0, .ref a0), (1, .int p1), (2, .int p2)] 0 []
  unfold f_X1_timesLeft at h
  refine z_iload_n (pc := 0) (x := p1) C dX1_timesLeft_0 (i := 1) rfl rfl ?_
  refine z_iload_n (pc := 1) (x := p2) C dX1_timesLeft_1 (i := 2) rfl rfl ?_
  replace h := ob_e h
  obtain ⟨x1, hx1, h⟩ := h
  refine z_callS (pc := 2) (As := [.int p1, .int p2]) (rest := []) (wr := (wX1 g a0 r0 q0_0 s0)) C dX1_timesLeft_2 ml_RX1_116 wt_X5_indexOfWord (m_X5_indexOfWord hg hx1) [] [0, 1, 2, 3, 4, 5, 6, 7, 8] rfl rfl ⟨by decide, by decide⟩ (Nat.le_of_ble_eq_true rfl) ⟨by decide, by decide⟩ rfl rfl rfl rfl (by decide) (ex_k C (cs' := 0) (ss' := 0) (wF := (wX1 g a0 r0 q0_0 s0)) [0, 1, 2, 3, 4, 5, 6, 7, 8] rfl rfl ?_)
  refine z_istore_n (pc := 5) C dX1_timesLeft_5 (i := 3) rfl (by decide) (lv' := [(3, .int x1), (0, .ref a0), (1, .int p1), (2, .int p2)]) rfl ?_
  refine z_iload_n (pc := 6) (x := x1) C dX1_timesLeft_6 (i := 3) rfl rfl ?_
  refine z_iconst (pc := 7) C dX1_timesLeft_7 ic_m1 ?_
  refine z_icmp_eq (pc := 8) C dX1_timesLeft_8 (tgt := 20) (by decide) (fun hc => ?_) (fun hc => ?_)
  · replace h := (ite_e h).1 hc
    refine z_iconst (pc := 20) C dX1_timesLeft_20 ic_0 ?_
    exact z_iret C X dX1_timesLeft_21 (by rw [← Option.some.inj h]; exact ⟨rfl, rfl⟩) (by decide) (by decide)
  · replace h := (ite_e h).2 hc
    refine z_aload_n (pc := 11) (x := a0) C dX1_timesLeft_11 (i := 0) rfl rfl ?_
    refine z_get (pc := 12) (v := .ref (r0 13)) C 0 dX1_timesLeft_12 fl_RX1_29 rfl rfl ?_
    refine z_iload_n (pc := 15) (x := x1) C dX1_timesLeft_15 (i := 3) rfl rfl ?_
    replace h := chk_e h
    obtain ⟨hb2, h⟩ := h
    refine z_iald (pc := 16) C 6 dX1_timesLeft_16 rfl hb2 ?_
    refine z_goto (pc := 17) C dX1_timesLeft_17 (tgt := 21) (by decide) ?_
    exact z_iret C X dX1_timesLeft_21 (by rw [← Option.some.inj h]; exact ⟨rfl, rfl⟩) (by decide) (by decide)
def F_X1_touchedPlaces_5 (N : Nat) (s0 : Ob) (s1 : Ob) (p1 : Int32) (p2 : Int32)  (k5 : Int32 → Int32 → Option (Int32)) (v3 : Int32) (v4 : Int32) : Option (Int32) := (ob (f_X1_sizeOf N s0 p1) fun x1 => (if x1 ≤ v4 then (some v3) else (ob (f_X1_cardAt N s0 p1 v4) fun x2 => (ob (f_X1_kindOf N s0 s1 x2) fun x3 => (ob (f_X7_isIn N x3 p2) fun x4 => (if x4 = 0 then (k5 v3 (v4 + (1 : Int32))) else (k5 (v3 ||| ((1 : Int32) <<< (v4 &&& 31))) (v4 + (1 : Int32)))))))))
def f_X1_touchedPlaces_5 (N : Nat) (s0 : Ob) (s1 : Ob) (p1 : Int32) (p2 : Int32)  : Nat → Int32 → Int32 → Option (Int32) := zlp (fun _ _ => none) (F_X1_touchedPlaces_5 N s0 s1 p1 p2)
theorem m_X1_touchedPlaces_5 {K : Kt} {g : Gp} {a0 : Nat} {r0 : Nat → Nat} {q0_0 : Nat} {r1 : Nat → Nat} {N : Nat} {s0 : Ob} {s1 : Ob} {p1 : Int32} {p2 : Int32} {res : Int32} (hg : Ok g) (C : Cx K g cX1_touchedPlaces RX1 5 (zrm 1 23)) (X : Rx K (exR (some (.int res)) (wX1 g a0 r0 q0_0 s0 ++ wX5 g q0_0 r1 s1)) 0 0 (some .int)) : ∀ (n : Nat) (v3 : Int32) (v4 : Int32), f_X1_touchedPlaces_5 N s0 s1 p1 p2 n v3 v4 = some res → Zs K 0 0 (wX1 g a0 r0 q0_0 s0 ++ wX5 g q0_0 r1 s1) [(0, .ref a0), (1, .int p1), (2, .int p2), (3, .int v3), (4, .int v4)] 5 [] := by
  intro n
  induction n with
  | zero => intro v3 v4 h; exact nomatch (show (none : Option (Int32)) = some res from h)
  | succ n hk5 =>
    intro v3 v4 h
    replace h : F_X1_touchedPlaces_5 N s0 s1 p1 p2 (f_X1_touchedPlaces_5 N s0 s1 p1 p2 n) v3 v4 = some res := h
    unfold F_X1_touchedPlaces_5 at h
    refine z_iload (pc := 5) (x := v4) C dX1_touchedPlaces_5 rfl ?_
    refine z_aload_n (pc := 7) (x := a0) C dX1_touchedPlaces_7 (i := 0) rfl rfl ?_
    refine z_iload_n (pc := 8) (x := p1) C dX1_touchedPlaces_8 (i := 1) rfl rfl ?_
    replace h := ob_e h
    obtain ⟨x1, hx1, h⟩ := h
    refine z_callV (pc := 9) (As := [.int p1]) (rest := [.int v4]) (wr := (wX5 g q0_0 r1 s1)) C dX1_touchedPlaces_9 ml_RX1_120 wv_X1_sizeOf (m_X1_sizeOf (a0 := a0) (r0 := r0) (q0_0 := q0_0) hg hx1) [0, 1, 2, 3, 4, 5, 6, 7, 8] [9, 10, 11, 12] rfl rfl ⟨by decide, by decide⟩ (Nat.le_of_ble_eq_true rfl) ⟨by decide, by decide⟩ rfl rfl rfl rfl rfl rfl rfl (by decide) (ex_k C (cs' := 0) (ss' := 0) (wF := (wX1 g a0 r0 q0_0 s0 ++ wX5 g q0_0 r1 s1)) [4, 5, 6, 7, 8, 9, 10, 11, 12, 0, 1, 2, 3] rfl rfl ?_)
    refine z_icmp_ge (pc := 12) C dX1_touchedPlaces_12 (tgt := 46) (by decide) (fun hc => ?_) (fun hc => ?_)
    · replace h := (ite_e h).1 hc
      refine z_iload_n (pc := 46) (x := v3) C dX1_touchedPlaces_46 (i := 3) rfl rfl ?_
      exact z_iret C X dX1_touchedPlaces_47 (by rw [← Option.some.inj h]; exact ⟨rfl, rfl⟩) (by decide) (by decide)
    · replace h := (ite_e h).2 hc
      refine z_aload_n (pc := 15) (x := a0) C dX1_touchedPlaces_15 (i := 0) rfl rfl ?_
      refine z_aload_n (pc := 16) (x := a0) C dX1_touchedPlaces_16 (i := 0) rfl rfl ?_
      refine z_iload_n (pc := 17) (x := p1) C dX1_touchedPlaces_17 (i := 1) rfl rfl ?_
      refine z_iload (pc := 18) (x := v4) C dX1_touchedPlaces_18 rfl ?_
      replace h := ob_e h
      obtain ⟨x2, hx2, h⟩ := h
      refine z_callV (pc := 20) (As := [.int p1, .int v4]) (rest := [.ref a0]) (wr := (wX5 g q0_0 r1 s1)) C dX1_touchedPlaces_20 ml_RX1_124 wv_X1_cardAt (m_X1_cardAt (a0 := a0) (r0 := r0) (q0_0 := q0_0) hg hx2) [0, 1, 2, 3, 4, 5, 6, 7, 8] [9, 10, 11, 12] rfl rfl ⟨by decide, by decide⟩ (Nat.le_of_ble_eq_true rfl) ⟨by decide, by decide⟩ rfl rfl rfl rfl rfl rfl rfl (by decide) (ex_k C (cs' := 0) (ss' := 0) (wF := (wX1 g a0 r0 q0_0 s0 ++ wX5 g q0_0 r1 s1)) [4, 5, 6, 7, 8, 9, 10, 11, 12, 0, 1, 2, 3] rfl rfl ?_)
      replace h := ob_e h
      obtain ⟨x3, hx3, h⟩ := h
      refine z_callV (pc := 23) (As := [.int x2]) (rest := []) (wr := ([] : va_W)) C dX1_touchedPlaces_23 ml_RX1_127 wv_X1_kindOf (m_X1_kindOf (a0 := a0) (r0 := r0) (q0_0 := q0_0) (r1 := r1) hg hx3) [0, 1, 2, 3, 4, 5, 6, 7, 8, 9, 10, 11, 12] [] rfl rfl ⟨by decide, by decide⟩ (Nat.le_of_ble_eq_true rfl) ⟨by decide, by decide⟩ rfl rfl rfl rfl rfl rfl rfl (by decide) (ex_k C (cs' := 0) (ss' := 0) (wF := (wX1 g a0 r0 q0_0 s0 ++ wX5 g q0_0 r1 s1)) [0, 1, 2, 3, 4, 5, 6, 7, 8, 9, 10, 11, 12] rfl rfl ?_)
      refine z_iload_n (pc := 26) (x := p2) C dX1_touchedPlaces_26 (i := 2) rfl rfl ?_
      replace h := ob_e h
      obtain ⟨x4, hx4, h⟩ := h
      refine z_callSN (pc := 27) (As := [.int x3, .int p2]) (rest := []) (wr := (wX1 g a0 r0 q0_0 s0 ++ wX5 g q0_0 r1 s1)) C dX1_touchedPlaces_27 mn_RX1_146 wt_X7_isIn (m_X7_isIn hg hx4) [] [0, 1, 2, 3, 4, 5, 6, 7, 8, 9, 10, 11, 12] rfl rfl ⟨by decide, by decide⟩ (Nat.le_of_ble_eq_true rfl) ⟨by decide, by decide⟩ rfl rfl rfl rfl (by decide) (ex_k C (cs' := 0) (ss' := 0) (wF := (wX1 g a0 r0 q0_0 s0 ++ wX5 g q0_0 r1 s1)) [0, 1, 2, 3, 4, 5, 6, 7, 8, 9, 10, 11, 12] rfl rfl ?_)
      refine z_if_eq (pc := 30) C dX1_touchedPlaces_30 (tgt := 40) (by decide) (fun hc => ?_) (fun hc => ?_)
      · replace h := (ite_e h).1 hc
        refine z_iinc (pc := 40) C dX1_touchedPlaces_40 rfl (inc_e 1 (1 : Int32) ic_1 v4) (by decide) (lv' := [(4, .int (v4 + (1 : Int32))), (0, .ref a0), (1, .int p1), (2, .int p2), (3, .int v3)]) rfl ?_
        refine z_goto (pc := 43) C dX1_touchedPlaces_43 (tgt := 5) (by decide) ?_
        refine z_lv (lv' := [(0, .ref a0), (1, .int p1), (2, .int p2), (3, .int v3), (4, .int (v4 + (1 : Int32)))]) [1, 2, 3, 4, 0] rfl ?_
        exact hk5 v3 (v4 + (1 : Int32)) h
      · replace h := (ite_e h).2 hc
        refine z_iload_n (pc := 33) (x := v3) C dX1_touchedPlaces_33 (i := 3) rfl rfl ?_
        refine z_iconst (pc := 34) C dX1_touchedPlaces_34 ic_1 ?_
        refine z_iload (pc := 35) (x := v4) C dX1_touchedPlaces_35 rfl ?_
        refine z_ishl (pc := 37) C dX1_touchedPlaces_37 ?_
        refine z_ior (pc := 38) C dX1_touchedPlaces_38 ?_
        refine z_istore_n (pc := 39) C dX1_touchedPlaces_39 (i := 3) rfl (by decide) (lv' := [(3, .int (v3 ||| ((1 : Int32) <<< (v4 &&& 31)))), (0, .ref a0), (1, .int p1), (2, .int p2), (4, .int v4)]) rfl ?_
        refine z_iinc (pc := 40) C dX1_touchedPlaces_40 rfl (inc_e 1 (1 : Int32) ic_1 v4) (by decide) (lv' := [(4, .int (v4 + (1 : Int32))), (3, .int (v3 ||| ((1 : Int32) <<< (v4 &&& 31)))), (0, .ref a0), (1, .int p1), (2, .int p2)]) rfl ?_
        refine z_goto (pc := 43) C dX1_touchedPlaces_43 (tgt := 5) (by decide) ?_
        refine z_lv (lv' := [(0, .ref a0), (1, .int p1), (2, .int p2), (3, .int (v3 ||| ((1 : Int32) <<< (v4 &&& 31)))), (4, .int (v4 + (1 : Int32)))]) [2, 3, 4, 1, 0] rfl ?_
        exact hk5 (v3 ||| ((1 : Int32) <<< (v4 &&& 31))) (v4 + (1 : Int32)) h
def f_X1_touchedPlaces (N : Nat) (s0 : Ob) (s1 : Ob) (p1 : Int32) (p2 : Int32) : Option (Int32) := (f_X1_touchedPlaces_5 N s0 s1 p1 p2 N (0 : Int32) (0 : Int32))
theorem m_X1_touchedPlaces {g : Gp} {a0 : Nat} {r0 : Nat → Nat} {q0_0 : Nat} {r1 : Nat → Nat} {N : Nat} {s0 : Ob} {s1 : Ob} {p1 : Int32} {p2 : Int32} {res : Int32} (hg : Ok g) (h : f_X1_touchedPlaces N s0 s1 p1 p2 = some res) : Ct g yX1_touchedPlaces cX1_touchedPlaces 5 (some .int) (zrm 1 23) [.ref a0, .int p1, .int p2] (wX1 g a0 r0 q0_0 s0 ++ wX5 g q0_0 r1 s1) (exR (some (.int res)) (wX1 g a0 r0 q0_0 s0 ++ wX5 g q0_0 r1 s1)) := by
  refine ct_of rfl hg (by show _ ≤ _; exact Nat.le_of_ble_eq_true rfl) (fun K C X => ?_)
  show Zs K 0 0 (wX1 g a0 r0 q0_0 s0 ++ wX5 g q0_0 r1 s1) [(0, .ref a0), (1, .int p1), (2, .int p2)] 0 []
  unfold f_X1_touchedPlaces at h
  refine z_iconst (pc := 0) C dX1_touchedPlaces_0 ic_0 ?_
  refine z_istore_n (pc := 1) C dX1_touchedPlaces_1 (i := 3) rfl (by decide) (lv' := [(3, .int (0 : Int32)), (0, .ref a0), (1, .int p1), (2, .int p2)]) rfl ?_
  refine z_iconst (pc := 2) C dX1_touchedPlaces_2 ic_0 ?_
  refine z_istore (pc := 3) C dX1_touchedPlaces_3 (by decide) (lv' := [(4, .int (0 : Int32)), (3, .int (0 : Int32)), (0, .ref a0), (1, .int p1), (2, .int p2)]) rfl ?_
  refine z_lv (lv' := [(0, .ref a0), (1, .int p1), (2, .int p2), (3, .int (0 : Int32)), (4, .int (0 : Int32))]) [2, 3, 4, 1, 0] rfl ?_
  exact m_X1_touchedPlaces_5 (a0 := a0) (r0 := r0) (q0_0 := q0_0) (r1 := r1) hg C X N (0 : Int32) (0 : Int32) h
def f_X1_canBeGiven (N : Nat) (s0 : Ob) (s1 : Ob) (p1 : Int32) (p2 : Int32) (p3 : Int32) : Option (Int32) := (if (s0.1 2) ≤ 0 then (some (0 : Int32)) else (if p1 = (s0.1 4) then (some (0 : Int32)) else (ob (f_X1_timesLeft N s0 p2 p3) fun x1 => (if x1 ≤ 0 then (some (0 : Int32)) else (ob (f_X7_kindsOfWord N p2 p3) fun x2 => (ob (f_X1_touchedPlaces N s0 s1 p1 x2) fun x3 => (if x3 = 0 then (some (0 : Int32)) else (some (1 : Int32)))))))))
theorem m_X1_canBeGiven {g : Gp} {a0 : Nat} {r0 : Nat → Nat} {q0_0 : Nat} {r1 : Nat → Nat} {N : Nat} {s0 : Ob} {s1 : Ob} {p1 : Int32} {p2 : Int32} {p3 : Int32} {res : Int32} (hg : Ok g) (h : f_X1_canBeGiven N s0 s1 p1 p2 p3 = some res) : Ct g yX1_canBeGiven cX1_canBeGiven 4 (some .boolean) (zrm 2 47) [.ref a0, .int p1, .int p2, .int p3] (wX1 g a0 r0 q0_0 s0 ++ wX5 g q0_0 r1 s1) (exR (some (.int res)) (wX1 g a0 r0 q0_0 s0 ++ wX5 g q0_0 r1 s1)) := by
  refine ct_of rfl hg (by show _ ≤ _; exact Nat.le_of_ble_eq_true rfl) (fun K C X => ?_)
  show Zs K 0 0 (wX1 g a0 r0 q0_0 s0 ++ wX5 g q0_0 r1 s1) [(0, .ref a0), (1, .int p1), (2, .int p2), (3, .int p3)] 0 []
  unfold f_X1_canBeGiven at h
  refine z_aload_n (pc := 0) (x := a0) C dX1_canBeGiven_0 (i := 0) rfl rfl ?_
  refine z_get (pc := 1) (v := .int (s0.1 2)) C 0 dX1_canBeGiven_1 fl_RX1_46 rfl rfl ?_
  refine z_if_le (pc := 4) C dX1_canBeGiven_4 (tgt := 41) (by decide) (fun hc => ?_) (fun hc => ?_)
  · replace h := (ite_e h).1 hc
    refine z_iconst (pc := 41) C dX1_canBeGiven_41 ic_0 ?_
    exact z_zret C X dX1_canBeGiven_42 rfl (by rw [← Option.some.inj h]; exact ⟨rfl, rfl⟩) (by decide) (by decide)
  · replace h := (ite_e h).2 hc
    refine z_iload_n (pc := 7) (x := p1) C dX1_canBeGiven_7 (i := 1) rfl rfl ?_
    refine z_aload_n (pc := 8) (x := a0) C dX1_canBeGiven_8 (i := 0) rfl rfl ?_
    refine z_get (pc := 9) (v := .int (s0.1 4)) C 0 dX1_canBeGiven_9 fl_RX1_52 rfl rfl ?_
    refine z_icmp_eq (pc := 12) C dX1_canBeGiven_12 (tgt := 41) (by decide) (fun hc => ?_) (fun hc => ?_)
    · replace h := (ite_e h).1 hc
      refine z_iconst (pc := 41) C dX1_canBeGiven_41 ic_0 ?_
      exact z_zret C X dX1_canBeGiven_42 rfl (by rw [← Option.some.inj h]; exact ⟨rfl, rfl⟩) (by decide) (by decide)
    · replace h := (ite_e h).2 hc
      refine z_aload_n (pc := 15) (x := a0) C dX1_canBeGiven_15 (i := 0) rfl rfl ?_
      refine z_iload_n (pc := 16) (x := p2) C dX1_canBeGiven_16 (i := 2) rfl rfl ?_
      refine z_iload_n (pc := 17) (x := p3) C dX1_canBeGiven_17 (i := 3) rfl rfl ?_
      replace h := ob_e h
      obtain ⟨x1, hx1, h⟩ := h
      refine z_callV (pc := 18) (As := [.int p2, .int p3]) (rest := []) (wr := (wX5 g q0_0 r1 s1)) C dX1_canBeGiven_18 ml_RX1_150 wv_X1_timesLeft (m_X1_timesLeft (a0 := a0) (r0 := r0) (q0_0 := q0_0) hg hx1) [0, 1, 2, 3, 4, 5, 6, 7, 8] [9, 10, 11, 12] rfl rfl ⟨by decide, by decide⟩ (Nat.le_of_ble_eq_true rfl) ⟨by decide, by decide⟩ rfl rfl rfl rfl rfl rfl rfl (by decide) (ex_k C (cs' := 0) (ss' := 0) (wF := (wX1 g a0 r0 q0_0 s0 ++ wX5 g q0_0 r1 s1)) [4, 5, 6, 7, 8, 9, 10, 11, 12, 0, 1, 2, 3] rfl rfl ?_)
      refine z_if_le (pc := 21) C dX1_canBeGiven_21 (tgt := 41) (by decide) (fun hc => ?_) (fun hc => ?_)
      · replace h := (ite_e h).1 hc
        refine z_iconst (pc := 41) C dX1_canBeGiven_41 ic_0 ?_
        exact z_zret C X dX1_canBeGiven_42 rfl (by rw [← Option.some.inj h]; exact ⟨rfl, rfl⟩) (by decide) (by decide)
      · replace h := (ite_e h).2 hc
        refine z_aload_n (pc := 24) (x := a0) C dX1_canBeGiven_24 (i := 0) rfl rfl ?_
        refine z_iload_n (pc := 25) (x := p1) C dX1_canBeGiven_25 (i := 1) rfl rfl ?_
        refine z_iload_n (pc := 26) (x := p2) C dX1_canBeGiven_26 (i := 2) rfl rfl ?_
        refine z_iload_n (pc := 27) (x := p3) C dX1_canBeGiven_27 (i := 3) rfl rfl ?_
        replace h := ob_e h
        obtain ⟨x2, hx2, h⟩ := h
        refine z_callSN (pc := 28) (As := [.int p2, .int p3]) (rest := [.int p1, .ref a0]) (wr := (wX1 g a0 r0 q0_0 s0 ++ wX5 g q0_0 r1 s1)) C dX1_canBeGiven_28 mn_RX1_153 wt_X7_kindsOfWord (m_X7_kindsOfWord hg hx2) [] [0, 1, 2, 3, 4, 5, 6, 7, 8, 9, 10, 11, 12] rfl rfl ⟨by decide, by decide⟩ (Nat.le_of_ble_eq_true rfl) ⟨by decide, by decide⟩ rfl rfl rfl rfl (by decide) (ex_k C (cs' := 0) (ss' := 0) (wF := (wX1 g a0 r0 q0_0 s0 ++ wX5 g q0_0 r1 s1)) [0, 1, 2, 3, 4, 5, 6, 7, 8, 9, 10, 11, 12] rfl rfl ?_)
        replace h := ob_e h
        obtain ⟨x3, hx3, h⟩ := h
        refine z_callV (pc := 31) (As := [.int p1, .int x2]) (rest := []) (wr := ([] : va_W)) C dX1_canBeGiven_31 ml_RX1_156 wv_X1_touchedPlaces (m_X1_touchedPlaces (a0 := a0) (r0 := r0) (q0_0 := q0_0) (r1 := r1) hg hx3) [0, 1, 2, 3, 4, 5, 6, 7, 8, 9, 10, 11, 12] [] rfl rfl ⟨by decide, by decide⟩ (Nat.le_of_ble_eq_true rfl) ⟨by decide, by decide⟩ rfl rfl rfl rfl rfl rfl rfl (by decide) (ex_k C (cs' := 0) (ss' := 0) (wF := (wX1 g a0 r0 q0_0 s0 ++ wX5 g q0_0 r1 s1)) [0, 1, 2, 3, 4, 5, 6, 7, 8, 9, 10, 11, 12] rfl rfl ?_)
        refine z_if_eq (pc := 34) C dX1_canBeGiven_34 (tgt := 41) (by decide) (fun hc => ?_) (fun hc => ?_)
        · replace h := (ite_e h).1 hc
          refine z_iconst (pc := 41) C dX1_canBeGiven_41 ic_0 ?_
          exact z_zret C X dX1_canBeGiven_42 rfl (by rw [← Option.some.inj h]; exact ⟨rfl, rfl⟩) (by decide) (by decide)
        · replace h := (ite_e h).2 hc
          refine z_iconst (pc := 37) C dX1_canBeGiven_37 ic_1 ?_
          refine z_goto (pc := 38) C dX1_canBeGiven_38 (tgt := 42) (by decide) ?_
          exact z_zret C X dX1_canBeGiven_42 rfl (by rw [← Option.some.inj h]; exact ⟨rfl, rfl⟩) (by decide) (by decide)
def f_X2_newlyPlayable_66 (N : Nat) (s0 : Ob) (s1 : Ob) (s2 : Ob) (p2 : Int32) (p3 : Int32) (p4 : Int32) (k12 : Int32 → Int32 → Int32 → Option (Int32)) (v5 : Int32) (v6 : Int32) (v7 : Int32) (v9 : Int32) (t0 : Int32) (t1 : Int32) : Option (Int32) := (ob (f_X7_areAllIn N (t0 &&& t1) v5) fun x7 => (if x7 = 0 then (k12 v5 v6 (v7 + (1 : Int32))) else (ob (f_X7_areAllIn N v9 v5) fun x8 => (if x8 = 0 then (k12 v5 (v6 + (1 : Int32)) (v7 + (1 : Int32))) else (k12 v5 v6 (v7 + (1 : Int32)))))))
theorem m_X2_newlyPlayable_66 {K : Kt} {g : Gp} {a0 : Nat} {a1 : Nat} {r0 : Nat → Nat} {r1 : Nat → Nat} {q1_0 : Nat} {r2 : Nat → Nat} {N : Nat} {s0 : Ob} {s1 : Ob} {s2 : Ob} {p2 : Int32} {p3 : Int32} {p4 : Int32} {res : Int32} (hg : Ok g) (C : Cx K g cX2_newlyPlayable RX2 11 (zrm 2 43)) (X : Rx K (exR (some (.int res)) (wX2 g a0 r0 s0 ++ wX1 g a1 r1 q1_0 s1 ++ wX5 g q1_0 r2 s2)) 0 0 (some .int)) {k12 : Int32 → Int32 → Int32 → Option (Int32)} (hk12 : ∀ (v5 : Int32) (v6 : Int32) (v7 : Int32), k12 v5 v6 v7 = some res → Zs K 0 0 (wX2 g a0 r0 s0 ++ wX1 g a1 r1 q1_0 s1 ++ wX5 g q1_0 r2 s2) [(1, .ref a1), (2, .int p2), (3, .int p3), (4, .int p4), (5, .int v5), (6, .int v6), (7, .int v7)] 12 []) (v5 : Int32) (v6 : Int32) (v7 : Int32) (v9 : Int32) (t0 : Int32) (t1 : Int32) (h : f_X2_newlyPlayable_66 N s0 s1 s2 p2 p3 p4 k12 v5 v6 v7 v9 t0 t1 = some res) : Zs K 0 0 (wX2 g a0 r0 s0 ++ wX1 g a1 r1 q1_0 s1 ++ wX5 g q1_0 r2 s2) [(1, .ref a1), (2, .int p2), (3, .int p3), (4, .int p4), (5, .int v5), (6, .int v6), (7, .int v7), (9, .int v9)] 66 [.int t1, .int t0] := by
  unfold f_X2_newlyPlayable_66 at h
  refine z_iand (pc := 66) C dX2_newlyPlayable_66 ?_
  refine z_istore (pc := 67) C dX2_newlyPlayable_67 (by decide) (lv' := [(10, .int (t0 &&& t1)), (1, .ref a1), (2, .int p2), (3, .int p3), (4, .int p4), (5, .int v5), (6, .int v6), (7, .int v7), (9, .int v9)]) rfl ?_
  refine z_iload (pc := 69) (x := (t0 &&& t1)) C dX2_newlyPlayable_69 rfl ?_
  refine z_iload (pc := 71) (x := v5) C dX2_newlyPlayable_71 rfl ?_
  replace h := ob_e h
  obtain ⟨x7, hx7, h⟩ := h
  refine z_callSN (pc := 73) (As := [.int (t0 &&& t1), .int v5]) (rest := []) (wr := (wX2 g a0 r0 s0 ++ wX1 g a1 r1 q1_0 s1 ++ wX5 g q1_0 r2 s2)) C dX2_newlyPlayable_73 mn_RX2_59 wt_X7_areAllIn (m_X7_areAllIn hg hx7) [] [0, 1, 2, 3, 4, 5, 6, 7, 8, 9, 10, 11, 12, 13, 14] rfl rfl ⟨by decide, by decide⟩ (Nat.le_of_ble_eq_true rfl) ⟨by decide, by decide⟩ rfl rfl rfl rfl (by decide) (ex_k C (cs' := 0) (ss' := 0) (wF := (wX2 g a0 r0 s0 ++ wX1 g a1 r1 q1_0 s1 ++ wX5 g q1_0 r2 s2)) [0, 1, 2, 3, 4, 5, 6, 7, 8, 9, 10, 11, 12, 13, 14] rfl rfl ?_)
  refine z_if_eq (pc := 76) C dX2_newlyPlayable_76 (tgt := 92) (by decide) (fun hc => ?_) (fun hc => ?_)
  · replace h := (ite_e h).1 hc
    refine z_iinc (pc := 92) C dX2_newlyPlayable_92 rfl (inc_e 1 (1 : Int32) ic_1 v7) (by decide) (lv' := [(7, .int (v7 + (1 : Int32))), (10, .int (t0 &&& t1)), (1, .ref a1), (2, .int p2), (3, .int p3), (4, .int p4), (5, .int v5), (6, .int v6), (9, .int v9)]) rfl ?_
    refine z_goto (pc := 95) C dX2_newlyPlayable_95 (tgt := 12) (by decide) ?_
    refine z_lv (lv' := [(1, .ref a1), (2, .int p2), (3, .int p3), (4, .int p4), (5, .int v5), (6, .int v6), (7, .int (v7 + (1 : Int32)))]) [2, 3, 4, 5, 6, 7, 0] rfl ?_
    exact hk12 v5 v6 (v7 + (1 : Int32)) h
  · replace h := (ite_e h).2 hc
    refine z_iload (pc := 79) (x := v9) C dX2_newlyPlayable_79 rfl ?_
    refine z_iload (pc := 81) (x := v5) C dX2_newlyPlayable_81 rfl ?_
    replace h := ob_e h
    obtain ⟨x8, hx8, h⟩ := h
    refine z_callSN (pc := 83) (As := [.int v9, .int v5]) (rest := []) (wr := (wX2 g a0 r0 s0 ++ wX1 g a1 r1 q1_0 s1 ++ wX5 g q1_0 r2 s2)) C dX2_newlyPlayable_83 mn_RX2_59 wt_X7_areAllIn (m_X7_areAllIn hg hx8) [] [0, 1, 2, 3, 4, 5, 6, 7, 8, 9, 10, 11, 12, 13, 14] rfl rfl ⟨by decide, by decide⟩ (Nat.le_of_ble_eq_true rfl) ⟨by decide, by decide⟩ rfl rfl rfl rfl (by decide) (ex_k C (cs' := 0) (ss' := 0) (wF := (wX2 g a0 r0 s0 ++ wX1 g a1 r1 q1_0 s1 ++ wX5 g q1_0 r2 s2)) [0, 1, 2, 3, 4, 5, 6, 7, 8, 9, 10, 11, 12, 13, 14] rfl rfl ?_)
    refine z_if_ne (pc := 86) C dX2_newlyPlayable_86 (tgt := 92) (by decide) (fun hc => ?_) (fun hc => ?_)
    · replace h := (ite_e h).2 hc
      refine z_iinc (pc := 92) C dX2_newlyPlayable_92 rfl (inc_e 1 (1 : Int32) ic_1 v7) (by decide) (lv' := [(7, .int (v7 + (1 : Int32))), (10, .int (t0 &&& t1)), (1, .ref a1), (2, .int p2), (3, .int p3), (4, .int p4), (5, .int v5), (6, .int v6), (9, .int v9)]) rfl ?_
      refine z_goto (pc := 95) C dX2_newlyPlayable_95 (tgt := 12) (by decide) ?_
      refine z_lv (lv' := [(1, .ref a1), (2, .int p2), (3, .int p3), (4, .int p4), (5, .int v5), (6, .int v6), (7, .int (v7 + (1 : Int32)))]) [2, 3, 4, 5, 6, 7, 0] rfl ?_
      exact hk12 v5 v6 (v7 + (1 : Int32)) h
    · replace h := (ite_e h).1 hc
      refine z_iinc (pc := 89) C dX2_newlyPlayable_89 rfl (inc_e 1 (1 : Int32) ic_1 v6) (by decide) (lv' := [(6, .int (v6 + (1 : Int32))), (10, .int (t0 &&& t1)), (1, .ref a1), (2, .int p2), (3, .int p3), (4, .int p4), (5, .int v5), (7, .int v7), (9, .int v9)]) rfl ?_
      refine z_iinc (pc := 92) C dX2_newlyPlayable_92 rfl (inc_e 1 (1 : Int32) ic_1 v7) (by decide) (lv' := [(7, .int (v7 + (1 : Int32))), (6, .int (v6 + (1 : Int32))), (10, .int (t0 &&& t1)), (1, .ref a1), (2, .int p2), (3, .int p3), (4, .int p4), (5, .int v5), (9, .int v9)]) rfl ?_
      refine z_goto (pc := 95) C dX2_newlyPlayable_95 (tgt := 12) (by decide) ?_
      refine z_lv (lv' := [(1, .ref a1), (2, .int p2), (3, .int p3), (4, .int p4), (5, .int v5), (6, .int (v6 + (1 : Int32))), (7, .int (v7 + (1 : Int32)))]) [3, 4, 5, 6, 7, 1, 0] rfl ?_
      exact hk12 v5 (v6 + (1 : Int32)) (v7 + (1 : Int32)) h
def F_X2_newlyPlayable_12 (N : Nat) (s0 : Ob) (s1 : Ob) (s2 : Ob) (p2 : Int32) (p3 : Int32) (p4 : Int32)  (k12 : Int32 → Int32 → Int32 → Option (Int32)) (v5 : Int32) (v6 : Int32) (v7 : Int32) : Option (Int32) := (ob (f_X1_sizeOf N s1 p2) fun x2 => (if x2 ≤ v7 then (some v6) else (ob (f_X1_cardAt N s1 p2 v7) fun x3 => (ob (f_X1_kindsLeftFor N s1 x3) fun x4 => (ob (f_X1_kindOf N s1 s2 x3) fun x5 => (ob (f_X7_isIn N x5 p4) fun x6 => (if x6 = 0 then (f_X2_newlyPlayable_66 N s0 s1 s2 p2 p3 p4 k12 v5 v6 v7 (p3 &&& x4) (p3 &&& x4) (p4 ^^^ (-1 : Int32))) else (f_X2_newlyPlayable_66 N s0 s1 s2 p2 p3 p4 k12 v5 v6 v7 (p3 &&& x4) (p3 &&& x4) p4))))))))
def f_X2_newlyPlayable_12 (N : Nat) (s0 : Ob) (s1 : Ob) (s2 : Ob) (p2 : Int32) (p3 : Int32) (p4 : Int32)  : Nat → Int32 → Int32 → Int32 → Option (Int32) := zlp (fun _ _ _ => none) (F_X2_newlyPlayable_12 N s0 s1 s2 p2 p3 p4)
theorem m_X2_newlyPlayable_12 {K : Kt} {g : Gp} {a0 : Nat} {a1 : Nat} {r0 : Nat → Nat} {r1 : Nat → Nat} {q1_0 : Nat} {r2 : Nat → Nat} {N : Nat} {s0 : Ob} {s1 : Ob} {s2 : Ob} {p2 : Int32} {p3 : Int32} {p4 : Int32} {res : Int32} (hg : Ok g) (C : Cx K g cX2_newlyPlayable RX2 11 (zrm 2 43)) (X : Rx K (exR (some (.int res)) (wX2 g a0 r0 s0 ++ wX1 g a1 r1 q1_0 s1 ++ wX5 g q1_0 r2 s2)) 0 0 (some .int)) : ∀ (n : Nat) (v5 : Int32) (v6 : Int32) (v7 : Int32), f_X2_newlyPlayable_12 N s0 s1 s2 p2 p3 p4 n v5 v6 v7 = some res → Zs K 0 0 (wX2 g a0 r0 s0 ++ wX1 g a1 r1 q1_0 s1 ++ wX5 g q1_0 r2 s2) [(1, .ref a1), (2, .int p2), (3, .int p3), (4, .int p4), (5, .int v5), (6, .int v6), (7, .int v7)] 12 [] := by
  intro n
  induction n with
  | zero => intro v5 v6 v7 h; exact nomatch (show (none : Option (Int32)) = some res from h)
  | succ n hk12 =>
    intro v5 v6 v7 h
    replace h : F_X2_newlyPlayable_12 N s0 s1 s2 p2 p3 p4 (f_X2_newlyPlayable_12 N s0 s1 s2 p2 p3 p4 n) v5 v6 v7 = some res := h
    unfold F_X2_newlyPlayable_12 at h
    refine z_iload (pc := 12) (x := v7) C dX2_newlyPlayable_12 rfl ?_
    refine z_aload_n (pc := 14) (x := a1) C dX2_newlyPlayable_14 (i := 1) rfl rfl ?_
    refine z_iload_n (pc := 15) (x := p2) C dX2_newlyPlayable_15 (i := 2) rfl rfl ?_
    replace h := ob_e h
    obtain ⟨x2, hx2, h⟩ := h
    refine z_callV (pc := 16) (As := [.int p2]) (rest := [.int v7]) (wr := (wX2 g a0 r0 s0 ++ wX5 g q1_0 r2 s2)) C dX2_newlyPlayable_16 ml_RX2_38 wv_X1_sizeOf (m_X1_sizeOf (a0 := a1) (r0 := r1) (q0_0 := q1_0) hg hx2) [2, 3, 4, 5, 6, 7, 8, 9, 10] [0, 1, 11, 12, 13, 14] rfl rfl ⟨by decide, by decide⟩ (Nat.le_of_ble_eq_true rfl) ⟨by decide, by decide⟩ rfl rfl rfl rfl rfl rfl rfl (by decide) (ex_k C (cs' := 0) (ss' := 0) (wF := (wX2 g a0 r0 s0 ++ wX1 g a1 r1 q1_0 s1 ++ wX5 g q1_0 r2 s2)) [0, 1, 6, 7, 8, 9, 10, 11, 12, 13, 14, 2, 3, 4, 5] rfl rfl ?_)
    refine z_icmp_ge (pc := 19) C dX2_newlyPlayable_19 (tgt := 98) (by decide) (fun hc => ?_) (fun hc => ?_)
    · replace h := (ite_e h).1 hc
      refine z_iload (pc := 98) (x := v6) C dX2_newlyPlayable_98 rfl ?_
      exact z_iret C X dX2_newlyPlayable_100 (by rw [← Option.some.inj h]; exact ⟨rfl, rfl⟩) (by decide) (by decide)
    · replace h := (ite_e h).2 hc
      refine z_aload_n (pc := 22) (x := a1) C dX2_newlyPlayable_22 (i := 1) rfl rfl ?_
      refine z_iload_n (pc := 23) (x := p2) C dX2_newlyPlayable_23 (i := 2) rfl rfl ?_
      refine z_iload (pc := 24) (x := v7) C dX2_newlyPlayable_24 rfl ?_
      replace h := ob_e h
      obtain ⟨x3, hx3, h⟩ := h
      refine z_callV (pc := 26) (As := [.int p2, .int v7]) (rest := []) (wr := (wX2 g a0 r0 s0 ++ wX5 g q1_0 r2 s2)) C dX2_newlyPlayable_26 ml_RX2_41 wv_X1_cardAt (m_X1_cardAt (a0 := a1) (r0 := r1) (q0_0 := q1_0) hg hx3) [2, 3, 4, 5, 6, 7, 8, 9, 10] [0, 1, 11, 12, 13, 14] rfl rfl ⟨by decide, by decide⟩ (Nat.le_of_ble_eq_true rfl) ⟨by decide, by decide⟩ rfl rfl rfl rfl rfl rfl rfl (by decide) (ex_k C (cs' := 0) (ss' := 0) (wF := (wX2 g a0 r0 s0 ++ wX1 g a1 r1 q1_0 s1 ++ wX5 g q1_0 r2 s2)) [0, 1, 6, 7, 8, 9, 10, 11, 12, 13, 14, 2, 3, 4, 5] rfl rfl ?_)
      refine z_istore (pc := 29) C dX2_newlyPlayable_29 (by decide) (lv' := [(8, .int x3), (1, .ref a1), (2, .int p2), (3, .int p3), (4, .int p4), (5, .int v5), (6, .int v6), (7, .int v7)]) rfl ?_
      refine z_iload_n (pc := 31) (x := p3) C dX2_newlyPlayable_31 (i := 3) rfl rfl ?_
      refine z_aload_n (pc := 32) (x := a1) C dX2_newlyPlayable_32 (i := 1) rfl rfl ?_
      refine z_iload (pc := 33) (x := x3) C dX2_newlyPlayable_33 rfl ?_
      replace h := ob_e h
      obtain ⟨x4, hx4, h⟩ := h
      refine z_callV (pc := 35) (As := [.int x3]) (rest := [.int p3]) (wr := (wX2 g a0 r0 s0 ++ wX5 g q1_0 r2 s2)) C dX2_newlyPlayable_35 ml_RX2_52 wv_X1_kindsLeftFor (m_X1_kindsLeftFor (a0 := a1) (r0 := r1) (q0_0 := q1_0) hg hx4) [2, 3, 4, 5, 6, 7, 8, 9, 10] [0, 1, 11, 12, 13, 14] rfl rfl ⟨by decide, by decide⟩ (Nat.le_of_ble_eq_true rfl) ⟨by decide, by decide⟩ rfl rfl rfl rfl rfl rfl rfl (by decide) (ex_k C (cs' := 0) (ss' := 0) (wF := (wX2 g a0 r0 s0 ++ wX1 g a1 r1 q1_0 s1 ++ wX5 g q1_0 r2 s2)) [0, 1, 6, 7, 8, 9, 10, 11, 12, 13, 14, 2, 3, 4, 5] rfl rfl ?_)
      refine z_iand (pc := 38) C dX2_newlyPlayable_38 ?_
      refine z_istore (pc := 39) C dX2_newlyPlayable_39 (by decide) (lv' := [(9, .int (p3 &&& x4)), (8, .int x3), (1, .ref a1), (2, .int p2), (3, .int p3), (4, .int p4), (5, .int v5), (6, .int v6), (7, .int v7)]) rfl ?_
      refine z_iload (pc := 41) (x := (p3 &&& x4)) C dX2_newlyPlayable_41 rfl ?_
      refine z_aload_n (pc := 43) (x := a1) C dX2_newlyPlayable_43 (i := 1) rfl rfl ?_
      refine z_iload (pc := 44) (x := x3) C dX2_newlyPlayable_44 rfl ?_
      replace h := ob_e h
      obtain ⟨x5, hx5, h⟩ := h
      refine z_callV (pc := 46) (As := [.int x3]) (rest := [.int (p3 &&& x4)]) (wr := (wX2 g a0 r0 s0)) C dX2_newlyPlayable_46 ml_RX2_45 wv_X1_kindOf (m_X1_kindOf (a0 := a1) (r0 := r1) (q0_0 := q1_0) (r1 := r2) hg hx5) [2, 3, 4, 5, 6, 7, 8, 9, 10, 11, 12, 13, 14] [0, 1] rfl rfl ⟨by decide, by decide⟩ (Nat.le_of_ble_eq_true rfl) ⟨by decide, by decide⟩ rfl rfl rfl rfl rfl rfl rfl (by decide) (ex_k C (cs' := 0) (ss' := 0) (wF := (wX2 g a0 r0 s0 ++ wX1 g a1 r1 q1_0 s1 ++ wX5 g q1_0 r2 s2)) [0, 1, 2, 3, 4, 5, 6, 7, 8, 9, 10, 11, 12, 13, 14] rfl rfl ?_)
      refine z_iload (pc := 49) (x := p4) C dX2_newlyPlayable_49 rfl ?_
      replace h := ob_e h
      obtain ⟨x6, hx6, h⟩ := h
      refine z_callSN (pc := 51) (As := [.int x5, .int p4]) (rest := [.int (p3 &&& x4)]) (wr := (wX2 g a0 r0 s0 ++ wX1 g a1 r1 q1_0 s1 ++ wX5 g q1_0 r2 s2)) C dX2_newlyPlayable_51 mn_RX2_55 wt_X7_isIn (m_X7_isIn hg hx6) [] [0, 1, 2, 3, 4, 5, 6, 7, 8, 9, 10, 11, 12, 13, 14] rfl rfl ⟨by decide, by decide⟩ (Nat.le_of_ble_eq_true rfl) ⟨by decide, by decide⟩ rfl rfl rfl rfl (by decide) (ex_k C (cs' := 0) (ss' := 0) (wF := (wX2 g a0 r0 s0 ++ wX1 g a1 r1 q1_0 s1 ++ wX5 g q1_0 r2 s2)) [0, 1, 2, 3, 4, 5, 6, 7, 8, 9, 10, 11, 12, 13, 14] rfl rfl ?_)
      refine z_if_eq (pc := 54) C dX2_newlyPlayable_54 (tgt := 62) (by decide) (fun hc => ?_) (fun hc => ?_)
      · replace h := (ite_e h).1 hc
        refine z_iload (pc := 62) (x := p4) C dX2_newlyPlayable_62 rfl ?_
        refine z_iconst (pc := 64) C dX2_newlyPlayable_64 ic_m1 ?_
        refine z_ixor (pc := 65) C dX2_newlyPlayable_65 ?_
        refine z_lv (lv' := [(1, .ref a1), (2, .int p2), (3, .int p3), (4, .int p4), (5, .int v5), (6, .int v6), (7, .int v7), (9, .int (p3 &&& x4))]) [2, 3, 4, 5, 6, 7, 8, 0] rfl ?_
        exact m_X2_newlyPlayable_66 (a0 := a0) (a1 := a1) (r0 := r0) (r1 := r1) (q1_0 := q1_0) (r2 := r2) hg C X hk12 v5 v6 v7 (p3 &&& x4) (p3 &&& x4) (p4 ^^^ (-1 : Int32)) h
      · replace h := (ite_e h).2 hc
        refine z_iload (pc := 57) (x := p4) C dX2_newlyPlayable_57 rfl ?_
        refine z_goto (pc := 59) C dX2_newlyPlayable_59 (tgt := 66) (by decide) ?_
        refine z_lv (lv' := [(1, .ref a1), (2, .int p2), (3, .int p3), (4, .int p4), (5, .int v5), (6, .int v6), (7, .int v7), (9, .int (p3 &&& x4))]) [2, 3, 4, 5, 6, 7, 8, 0] rfl ?_
        exact m_X2_newlyPlayable_66 (a0 := a0) (a1 := a1) (r0 := r0) (r1 := r1) (q1_0 := q1_0) (r2 := r2) hg C X hk12 v5 v6 v7 (p3 &&& x4) (p3 &&& x4) p4 h
def f_X2_newlyPlayable (N : Nat) (s0 : Ob) (s1 : Ob) (s2 : Ob) (p2 : Int32) (p3 : Int32) (p4 : Int32) : Option (Int32) := (ob (f_X1_playableKinds N s1 s2) fun x1 => (f_X2_newlyPlayable_12 N s0 s1 s2 p2 p3 p4 N x1 (0 : Int32) (0 : Int32)))
theorem m_X2_newlyPlayable {g : Gp} {a0 : Nat} {a1 : Nat} {r0 : Nat → Nat} {r1 : Nat → Nat} {q1_0 : Nat} {r2 : Nat → Nat} {N : Nat} {s0 : Ob} {s1 : Ob} {s2 : Ob} {p2 : Int32} {p3 : Int32} {p4 : Int32} {res : Int32} (hg : Ok g) (h : f_X2_newlyPlayable N s0 s1 s2 p2 p3 p4 = some res) : Ct g yX2_newlyPlayable cX2_newlyPlayable 11 (some .int) (zrm 2 43) [.ref a0, .ref a1, .int p2, .int p3, .int p4] (wX2 g a0 r0 s0 ++ wX1 g a1 r1 q1_0 s1 ++ wX5 g q1_0 r2 s2) (exR (some (.int res)) (wX2 g a0 r0 s0 ++ wX1 g a1 r1 q1_0 s1 ++ wX5 g q1_0 r2 s2)) := by
  refine ct_of rfl hg (by show _ ≤ _; exact Nat.le_of_ble_eq_true rfl) (fun K C X => ?_)
  show Zs K 0 0 (wX2 g a0 r0 s0 ++ wX1 g a1 r1 q1_0 s1 ++ wX5 g q1_0 r2 s2) [(0, .ref a0), (1, .ref a1), (2, .int p2), (3, .int p3), (4, .int p4)] 0 []
  unfold f_X2_newlyPlayable at h
  refine z_aload_n (pc := 0) (x := a1) C dX2_newlyPlayable_0 (i := 1) rfl rfl ?_
  replace h := ob_e h
  obtain ⟨x1, hx1, h⟩ := h
  refine z_callV (pc := 1) (As := []) (rest := []) (wr := (wX2 g a0 r0 s0)) C dX2_newlyPlayable_1 ml_RX2_48 wv_X1_playableKinds (m_X1_playableKinds (a0 := a1) (r0 := r1) (q0_0 := q1_0) (r1 := r2) hg hx1) [2, 3, 4, 5, 6, 7, 8, 9, 10, 11, 12, 13, 14] [0, 1] rfl rfl ⟨by decide, by decide⟩ (Nat.le_of_ble_eq_true rfl) ⟨by decide, by decide⟩ rfl rfl rfl rfl rfl rfl rfl (by decide) (ex_k C (cs' := 0) (ss' := 0) (wF := (wX2 g a0 r0 s0 ++ wX1 g a1 r1 q1_0 s1 ++ wX5 g q1_0 r2 s2)) [0, 1, 2, 3, 4, 5, 6, 7, 8, 9, 10, 11, 12, 13, 14] rfl rfl ?_)
  refine z_istore (pc := 4) C dX2_newlyPlayable_4 (by decide) (lv' := [(5, .int x1), (0, .ref a0), (1, .ref a1), (2, .int p2), (3, .int p3), (4, .int p4)]) rfl ?_
  refine z_iconst (pc := 6) C dX2_newlyPlayable_6 ic_0 ?_
  refine z_istore (pc := 7) C dX2_newlyPlayable_7 (by decide) (lv' := [(6, .int (0 : Int32)), (5, .int x1), (0, .ref a0), (1, .ref a1), (2, .int p2), (3, .int p3), (4, .int p4)]) rfl ?_
  refine z_iconst (pc := 9) C dX2_newlyPlayable_9 ic_0 ?_
  refine z_istore (pc := 10) C dX2_newlyPlayable_10 (by decide) (lv' := [(7, .int (0 : Int32)), (6, .int (0 : Int32)), (5, .int x1), (0, .ref a0), (1, .ref a1), (2, .int p2), (3, .int p3), (4, .int p4)]) rfl ?_
  refine z_lv (lv' := [(1, .ref a1), (2, .int p2), (3, .int p3), (4, .int p4), (5, .int x1), (6, .int (0 : Int32)), (7, .int (0 : Int32))]) [4, 5, 6, 7, 2, 1, 0] rfl ?_
  exact m_X2_newlyPlayable_12 (a0 := a0) (a1 := a1) (r0 := r0) (r1 := r1) (q1_0 := q1_0) (r2 := r2) hg C X N x1 (0 : Int32) (0 : Int32) h
def f_X0_weighHint (N : Nat) (s0 : Ob) (s1 : Ob) (s2 : Ob) (s3 : Ob) (p2 : Int32) (p3 : Int32) (p4 : Int32) (p5 : Int32) : Option (Ob) := (ob (f_X1_canBeGiven N s1 s2 p2 p4 p5) fun x1 => (if x1 = 0 then (some s0) else (ob (f_X7_kindsOfWord N p4 p5) fun x2 => (ob (f_X2_newlyPlayable N s3 s1 s2 p2 p3 x2) fun x3 => (if x3 ≤ (s0.1 5) then (some s0) else (znm (si s0 5 x3) fun y4 => (znm (si y4 0 (2 : Int32)) fun y5 => (znm (si y5 1 p2) fun y6 => (znm (si y6 2 p4) fun y7 => (some (si y7 3 p5)))))))))))
theorem m_X0_weighHint {g : Gp} {a0 : Nat} {a1 : Nat} {r0 : Nat → Nat} {q0_4 : Nat} {r1 : Nat → Nat} {q1_0 : Nat} {r2 : Nat → Nat} {r3 : Nat → Nat} {N : Nat} {s0 : Ob} {s1 : Ob} {s2 : Ob} {s3 : Ob} {p2 : Int32} {p3 : Int32} {p4 : Int32} {p5 : Int32} {res : Ob} (hg : Ok g) (h : f_X0_weighHint N s0 s1 s2 s3 p2 p3 p4 p5 = some res) : Ct g yX0_weighHint cX0_weighHint 7 none (zrm 3 73) [.ref a0, .ref a1, .int p2, .int p3, .int p4, .int p5] (wX0 g a0 r0 q0_4 s0 ++ wX1 g a1 r1 q1_0 s1 ++ wX5 g q1_0 r2 s2 ++ wX2 g q0_4 r3 s3) (exR none (wX0 g a0 r0 q0_4 res ++ wX1 g a1 r1 q1_0 s1 ++ wX5 g q1_0 r2 s2 ++ wX2 g q0_4 r3 s3)) := by
  refine ct_of rfl hg (by show _ ≤ _; exact Nat.le_of_ble_eq_true rfl) (fun K C X => ?_)
  show Zs K 0 0 (wX0 g a0 r0 q0_4 s0 ++ wX1 g a1 r1 q1_0 s1 ++ wX5 g q1_0 r2 s2 ++ wX2 g q0_4 r3 s3) [(0, .ref a0), (1, .ref a1), (2, .int p2), (3, .int p3), (4, .int p4), (5, .int p5)] 0 []
  unfold f_X0_weighHint at h
  refine z_aload_n (pc := 0) (x := a1) C dX0_weighHint_0 (i := 1) rfl rfl ?_
  refine z_iload_n (pc := 1) (x := p2) C dX0_weighHint_1 (i := 2) rfl rfl ?_
  refine z_iload (pc := 2) (x := p4) C dX0_weighHint_2 rfl ?_
  refine z_iload (pc := 4) (x := p5) C dX0_weighHint_4 rfl ?_
  replace h := ob_e h
  obtain ⟨x1, hx1, h⟩ := h
  refine z_callV (pc := 6) (As := [.int p2, .int p4, .int p5]) (rest := []) (wr := (wX0 g a0 r0 q0_4 s0 ++ wX2 g q0_4 r3 s3)) C dX0_weighHint_6 ml_RX0_101 wv_X1_canBeGiven (m_X1_canBeGiven (a0 := a1) (r0 := r1) (q0_0 := q1_0) (r1 := r2) hg hx1) [1, 2, 3, 4, 5, 6, 7, 8, 9, 10, 11, 12, 13] [0, 14, 15] rfl rfl ⟨by decide, by decide⟩ (Nat.le_of_ble_eq_true rfl) ⟨by decide, by decide⟩ rfl rfl rfl rfl rfl rfl rfl (by decide) (ex_k C (cs' := 0) (ss' := 0) (wF := (wX0 g a0 r0 q0_4 s0 ++ wX1 g a1 r1 q1_0 s1 ++ wX5 g q1_0 r2 s2 ++ wX2 g q0_4 r3 s3)) [0, 3, 4, 5, 6, 7, 8, 9, 10, 11, 12, 13, 14, 15, 1, 2] rfl rfl ?_)
  refine z_if_ne (pc := 9) C dX0_weighHint_9 (tgt := 13) (by decide) (fun hc => ?_) (fun hc => ?_)
  · replace h := (ite_e h).2 hc
    refine z_aload_n (pc := 13) (x := a0) C dX0_weighHint_13 (i := 0) rfl rfl ?_
    refine z_get (pc := 14) (v := .ref q0_4) C 0 dX0_weighHint_14 fl_RX0_9 rfl rfl ?_
    refine z_aload_n (pc := 17) (x := a1) C dX0_weighHint_17 (i := 1) rfl rfl ?_
    refine z_iload_n (pc := 18) (x := p2) C dX0_weighHint_18 (i := 2) rfl rfl ?_
    refine z_iload_n (pc := 19) (x := p3) C dX0_weighHint_19 (i := 3) rfl rfl ?_
    refine z_iload (pc := 20) (x := p4) C dX0_weighHint_20 rfl ?_
    refine z_iload (pc := 22) (x := p5) C dX0_weighHint_22 rfl ?_
    replace h := ob_e h
    obtain ⟨x2, hx2, h⟩ := h
    refine z_callSN (pc := 24) (As := [.int p4, .int p5]) (rest := [.int p3, .int p2, .ref a1, .ref q0_4]) (wr := (wX0 g a0 r0 q0_4 s0 ++ wX1 g a1 r1 q1_0 s1 ++ wX5 g q1_0 r2 s2 ++ wX2 g q0_4 r3 s3)) C dX0_weighHint_24 mn_RX0_105 wt_X7_kindsOfWord (m_X7_kindsOfWord hg hx2) [] [0, 1, 2, 3, 4, 5, 6, 7, 8, 9, 10, 11, 12, 13, 14, 15] rfl rfl ⟨by decide, by decide⟩ (Nat.le_of_ble_eq_true rfl) ⟨by decide, by decide⟩ rfl rfl rfl rfl (by decide) (ex_k C (cs' := 0) (ss' := 0) (wF := (wX0 g a0 r0 q0_4 s0 ++ wX1 g a1 r1 q1_0 s1 ++ wX5 g q1_0 r2 s2 ++ wX2 g q0_4 r3 s3)) [0, 1, 2, 3, 4, 5, 6, 7, 8, 9, 10, 11, 12, 13, 14, 15] rfl rfl ?_)
    replace h := ob_e h
    obtain ⟨x3, hx3, h⟩ := h
    refine z_callV (pc := 27) (As := [.ref a1, .int p2, .int p3, .int x2]) (rest := []) (wr := (wX0 g a0 r0 q0_4 s0)) C dX0_weighHint_27 ml_RX0_109 wv_X2_newlyPlayable (m_X2_newlyPlayable (a0 := q0_4) (a1 := a1) (r0 := r3) (r1 := r1) (q1_0 := q1_0) (r2 := r2) hg hx3) [14, 15, 1, 2, 3, 4, 5, 6, 7, 8, 9, 10, 11, 12, 13] [0] rfl rfl ⟨by decide, by decide⟩ (Nat.le_of_ble_eq_true rfl) ⟨by decide, by decide⟩ rfl rfl rfl rfl rfl rfl rfl (by decide) (ex_k C (cs' := 0) (ss' := 0) (wF := (wX0 g a0 r0 q0_4 s0 ++ wX1 g a1 r1 q1_0 s1 ++ wX5 g q1_0 r2 s2 ++ wX2 g q0_4 r3 s3)) [0, 3, 4, 5, 6, 7, 8, 9, 10, 11, 12, 13, 14, 15, 1, 2] rfl rfl ?_)
    refine z_istore (pc := 30) C dX0_weighHint_30 (by decide) (lv' := [(6, .int x3), (0, .ref a0), (1, .ref a1), (2, .int p2), (3, .int p3), (4, .int p4), (5, .int p5)]) rfl ?_
    refine z_iload (pc := 32) (x := x3) C dX0_weighHint_32 rfl ?_
    refine z_aload_n (pc := 34) (x := a0) C dX0_weighHint_34 (i := 0) rfl rfl ?_
    refine z_get (pc := 35) (v := .int (s0.1 5)) C 0 dX0_weighHint_35 fl_RX0_60 rfl rfl ?_
    refine z_icmp_le (pc := 38) C dX0_weighHint_38 (tgt := 69) (by decide) (fun hc => ?_) (fun hc => ?_)
    · replace h := (ite_e h).1 hc
      exact z_vret C X dX0_weighHint_69 (by rw [← Option.some.inj h]; exact ⟨rfl, rfl⟩) (by decide) (by decide)
    · replace h := (ite_e h).2 hc
      refine z_aload_n (pc := 41) (x := a0) C dX0_weighHint_41 (i := 0) rfl rfl ?_
      refine z_iload (pc := 42) (x := x3) C dX0_weighHint_42 rfl ?_
      refine z_put (pc := 44) C 0 dX0_weighHint_44 fp_RX0_60 rfl rfl rfl (zlt_b rfl) (ws' := (wX0 g a0 r0 q0_4 (si s0 5 x3) ++ wX1 g a1 r1 q1_0 s1 ++ wX5 g q1_0 r2 s2 ++ wX2 g q0_4 r3 s3)) rfl ?_
      refine z_aload_n (pc := 47) (x := a0) C dX0_weighHint_47 (i := 0) rfl rfl ?_
      refine z_iconst (pc := 48) C dX0_weighHint_48 ic_2 ?_
      replace h := znm_e h
      obtain ⟨y4, hy4, h⟩ := h
      refine z_wsE (ws' := (wX0 g a0 r0 q0_4 y4 ++ wX1 g a1 r1 q1_0 s1 ++ wX5 g q1_0 r2 s2 ++ wX2 g q0_4 r3 s3)) (by rw [hy4]) ?_
      refine z_put (pc := 49) C 0 dX0_weighHint_49 fp_RX0_15 rfl rfl rfl (zlt_b rfl) (ws' := (wX0 g a0 r0 q0_4 (si y4 0 (2 : Int32)) ++ wX1 g a1 r1 q1_0 s1 ++ wX5 g q1_0 r2 s2 ++ wX2 g q0_4 r3 s3)) rfl ?_
      refine z_aload_n (pc := 52) (x := a0) C dX0_weighHint_52 (i := 0) rfl rfl ?_
      refine z_iload_n (pc := 53) (x := p2) C dX0_weighHint_53 (i := 2) rfl rfl ?_
      replace h := znm_e h
      obtain ⟨y5, hy5, h⟩ := h
      refine z_wsE (ws' := (wX0 g a0 r0 q0_4 y5 ++ wX1 g a1 r1 q1_0 s1 ++ wX5 g q1_0 r2 s2 ++ wX2 g q0_4 r3 s3)) (by rw [hy5]) ?_
      refine z_put (pc := 54) C 0 dX0_weighHint_54 fp_RX0_19 rfl rfl rfl (zlt_b rfl) (ws' := (wX0 g a0 r0 q0_4 (si y5 1 p2) ++ wX1 g a1 r1 q1_0 s1 ++ wX5 g q1_0 r2 s2 ++ wX2 g q0_4 r3 s3)) rfl ?_
      refine z_aload_n (pc := 57) (x := a0) C dX0_weighHint_57 (i := 0) rfl rfl ?_
      refine z_iload (pc := 58) (x := p4) C dX0_weighHint_58 rfl ?_
      replace h := znm_e h
      obtain ⟨y6, hy6, h⟩ := h
      refine z_wsE (ws' := (wX0 g a0 r0 q0_4 y6 ++ wX1 g a1 r1 q1_0 s1 ++ wX5 g q1_0 r2 s2 ++ wX2 g q0_4 r3 s3)) (by rw [hy6]) ?_
      refine z_put (pc := 60) C 0 dX0_weighHint_60 fp_RX0_31 rfl rfl rfl (zlt_b rfl) (ws' := (wX0 g a0 r0 q0_4 (si y6 2 p4) ++ wX1 g a1 r1 q1_0 s1 ++ wX5 g q1_0 r2 s2 ++ wX2 g q0_4 r3 s3)) rfl ?_
      refine z_aload_n (pc := 63) (x := a0) C dX0_weighHint_63 (i := 0) rfl rfl ?_
      refine z_iload (pc := 64) (x := p5) C dX0_weighHint_64 rfl ?_
      replace h := znm_e h
      obtain ⟨y7, hy7, h⟩ := h
      refine z_wsE (ws' := (wX0 g a0 r0 q0_4 y7 ++ wX1 g a1 r1 q1_0 s1 ++ wX5 g q1_0 r2 s2 ++ wX2 g q0_4 r3 s3)) (by rw [hy7]) ?_
      refine z_put (pc := 66) C 0 dX0_weighHint_66 fp_RX0_34 rfl rfl rfl (zlt_b rfl) (ws' := (wX0 g a0 r0 q0_4 (si y7 3 p5) ++ wX1 g a1 r1 q1_0 s1 ++ wX5 g q1_0 r2 s2 ++ wX2 g q0_4 r3 s3)) rfl ?_
      exact z_vret C X dX0_weighHint_69 (by rw [← Option.some.inj h]; exact ⟨rfl, rfl⟩) (by decide) (by decide)
  · replace h := (ite_e h).1 hc
    exact z_vret C X dX0_weighHint_12 (by rw [← Option.some.inj h]; exact ⟨rfl, rfl⟩) (by decide) (by decide)
def F_X0_chooseHint_90 (N : Nat) (s1 : Ob) (s2 : Ob) (k12 : Int32 → Int32 → Ob → Ob → Option (Ob × Ob)) (k90 : Int32 → Int32 → Int32 → Int32 → Ob → Ob → Option (Ob × Ob)) (v2 : Int32) (v3 : Int32) (v4 : Int32) (v5 : Int32) (s0 : Ob) (s3 : Ob) : Option (Ob × Ob) := (if (s2.1 1) < v5 then (k12 v2 (v3 + (1 : Int32)) s0 s3) else (ob (f_X0_weighHint N s0 s1 s2 s3 v2 v4 (1 : Int32) v5) fun x2 => (k90 v2 v3 v4 (v5 + (1 : Int32)) x2 s3)))
def f_X0_chooseHint_90 (N : Nat) (s1 : Ob) (s2 : Ob) (k12 : Int32 → Int32 → Ob → Ob → Option (Ob × Ob)) : Nat → Int32 → Int32 → Int32 → Int32 → Ob → Ob → Option (Ob × Ob) := zlp (fun _ _ _ _ _ _ => none) (F_X0_chooseHint_90 N s1 s2 k12)
theorem m_X0_chooseHint_90 {K : Kt} {g : Gp} {a0 : Nat} {a1 : Nat} {r0 : Nat → Nat} {q0_4 : Nat} {r1 : Nat → Nat} {q1_0 : Nat} {r2 : Nat → Nat} {r3 : Nat → Nat} {N : Nat} {s1 : Ob} {s2 : Ob} {res : Ob × Ob} (hg : Ok g) (C : Cx K g cX0_chooseHint RX0 6 (zrm 4 99)) (X : Rx K (exR none (wX0 g a0 r0 q0_4 res.1 ++ wX1 g a1 r1 q1_0 s1 ++ wX5 g q1_0 r2 s2 ++ wX2 g q0_4 r3 res.2)) 0 0 none) {k12 : Int32 → Int32 → Ob → Ob → Option (Ob × Ob)} (hk12 : ∀ (v2 : Int32) (v3 : Int32) (s0 : Ob) (s3 : Ob), k12 v2 v3 s0 s3 = some res → Zs K 0 0 (wX0 g a0 r0 q0_4 s0 ++ wX1 g a1 r1 q1_0 s1 ++ wX5 g q1_0 r2 s2 ++ wX2 g q0_4 r3 s3) [(0, .ref a0), (1, .ref a1), (2, .int v2), (3, .int v3)] 12 []) : ∀ (n : Nat) (v2 : Int32) (v3 : Int32) (v4 : Int32) (v5 : Int32) (s0 : Ob) (s3 : Ob), f_X0_chooseHint_90 N s1 s2 k12 n v2 v3 v4 v5 s0 s3 = some res → Zs K 0 0 (wX0 g a0 r0 q0_4 s0 ++ wX1 g a1 r1 q1_0 s1 ++ wX5 g q1_0 r2 s2 ++ wX2 g q0_4 r3 s3) [(0, .ref a0), (1, .ref a1), (2, .int v2), (3, .int v3), (4, .int v4), (5, .int v5)] 90 [] := by
  intro n
  induction n with
  | zero => intro v2 v3 v4 v5 s0 s3 h; exact nomatch (show (none : Option (Ob × Ob)) = some res from h)
  | succ n hk90 =>
    intro v2 v3 v4 v5 s0 s3 h
    replace h : F_X0_chooseHint_90 N s1 s2 k12 (f_X0_chooseHint_90 N s1 s2 k12 n) v2 v3 v4 v5 s0 s3 = some res := h
    unfold F_X0_chooseHint_90 at h
    refine z_iload (pc := 90) (x := v5) C dX0_chooseHint_90 rfl ?_
    refine z_aload_n (pc := 92) (x := a1) C dX0_chooseHint_92 (i := 1) rfl rfl ?_
    refine z_get (pc := 93) (v := .ref q1_0) C 1 dX0_chooseHint_93 fl_RX0_77 rfl rfl ?_
    refine z_get (pc := 96) (v := .int (s2.1 1)) C 10 dX0_chooseHint_96 fl_RX0_98 rfl rfl ?_
    refine z_icmp_gt (pc := 99) C dX0_chooseHint_99 (tgt := 119) (by decide) (fun hc => ?_) (fun hc => ?_)
    · replace h := (ite_e h).1 hc
      refine z_iinc (pc := 119) C dX0_chooseHint_119 rfl (inc_e 1 (1 : Int32) ic_1 v3) (by decide) (lv' := [(3, .int (v3 + (1 : Int32))), (0, .ref a0), (1, .ref a1), (2, .int v2), (4, .int v4), (5, .int v5)]) rfl ?_
      refine z_goto (pc := 122) C dX0_chooseHint_122 (tgt := 12) (by decide) ?_
      refine z_lv (lv' := [(0, .ref a0), (1, .ref a1), (2, .int v2), (3, .int (v3 + (1 : Int32)))]) [1, 2, 3, 0] rfl ?_
      exact hk12 v2 (v3 + (1 : Int32)) s0 s3 h
    · replace h := (ite_e h).2 hc
      refine z_aload_n (pc := 102) (x := a0) C dX0_chooseHint_102 (i := 0) rfl rfl ?_
      refine z_aload_n (pc := 103) (x := a1) C dX0_chooseHint_103 (i := 1) rfl rfl ?_
      refine z_iload_n (pc := 104) (x := v2) C dX0_chooseHint_104 (i := 2) rfl rfl ?_
      refine z_iload (pc := 105) (x := v4) C dX0_chooseHint_105 rfl ?_
      refine z_iconst (pc := 107) C dX0_chooseHint_107 ic_1 ?_
      refine z_iload (pc := 108) (x := v5) C dX0_chooseHint_108 rfl ?_
      replace h := ob_e h
      obtain ⟨x2, hx2, h⟩ := h
      refine z_callV (pc := 110) (As := [.ref a1, .int v2, .int v4, .int (1 : Int32), .int v5]) (rest := []) (wr := ([] : va_W)) C dX0_chooseHint_110 ml_RX0_94 wv_X0_weighHint (m_X0_weighHint (a0 := a0) (a1 := a1) (r0 := r0) (q0_4 := q0_4) (r1 := r1) (q1_0 := q1_0) (r2 := r2) (r3 := r3) hg hx2) [0, 1, 2, 3, 4, 5, 6, 7, 8, 9, 10, 11, 12, 13, 14, 15] [] rfl rfl ⟨by decide, by decide⟩ (Nat.le_of_ble_eq_true rfl) ⟨by decide, by decide⟩ rfl rfl rfl rfl rfl rfl rfl (by decide) (ex_k C (cs' := 0) (ss' := 0) (wF := (wX0 g a0 r0 q0_4 x2 ++ wX1 g a1 r1 q1_0 s1 ++ wX5 g q1_0 r2 s2 ++ wX2 g q0_4 r3 s3)) [0, 1, 2, 3, 4, 5, 6, 7, 8, 9, 10, 11, 12, 13, 14, 15] rfl rfl ?_)
      refine z_iinc (pc := 113) C dX0_chooseHint_113 rfl (inc_e 1 (1 : Int32) ic_1 v5) (by decide) (lv' := [(5, .int (v5 + (1 : Int32))), (0, .ref a0), (1, .ref a1), (2, .int v2), (3, .int v3), (4, .int v4)]) rfl ?_
      refine z_goto (pc := 116) C dX0_chooseHint_116 (tgt := 90) (by decide) ?_
      refine z_lv (lv' := [(0, .ref a0), (1, .ref a1), (2, .int v2), (3, .int v3), (4, .int v4), (5, .int (v5 + (1 : Int32)))]) [1, 2, 3, 4, 5, 0] rfl ?_
      exact hk90 v2 v3 v4 (v5 + (1 : Int32)) x2 s3 h
def F_X0_chooseHint_58 (N : Nat) (s1 : Ob) (s2 : Ob) (k12 : Int32 → Int32 → Ob → Ob → Option (Ob × Ob)) (k58 : Int32 → Int32 → Int32 → Int32 → Ob → Ob → Option (Ob × Ob)) (v2 : Int32) (v3 : Int32) (v4 : Int32) (v5 : Int32) (s0 : Ob) (s3 : Ob) : Option (Ob × Ob) := (if (s2.1 0) ≤ v5 then (f_X0_chooseHint_90 N s1 s2 k12 N v2 v3 v4 (1 : Int32) s0 s3) else (ob (f_X0_weighHint N s0 s1 s2 s3 v2 v4 (0 : Int32) v5) fun x3 => (k58 v2 v3 v4 (v5 + (1 : Int32)) x3 s3)))
def f_X0_chooseHint_58 (N : Nat) (s1 : Ob) (s2 : Ob) (k12 : Int32 → Int32 → Ob → Ob → Option (Ob × Ob)) : Nat → Int32 → Int32 → Int32 → Int32 → Ob → Ob → Option (Ob × Ob) := zlp (fun _ _ _ _ _ _ => none) (F_X0_chooseHint_58 N s1 s2 k12)
theorem m_X0_chooseHint_58 {K : Kt} {g : Gp} {a0 : Nat} {a1 : Nat} {r0 : Nat → Nat} {q0_4 : Nat} {r1 : Nat → Nat} {q1_0 : Nat} {r2 : Nat → Nat} {r3 : Nat → Nat} {N : Nat} {s1 : Ob} {s2 : Ob} {res : Ob × Ob} (hg : Ok g) (C : Cx K g cX0_chooseHint RX0 6 (zrm 4 99)) (X : Rx K (exR none (wX0 g a0 r0 q0_4 res.1 ++ wX1 g a1 r1 q1_0 s1 ++ wX5 g q1_0 r2 s2 ++ wX2 g q0_4 r3 res.2)) 0 0 none) {k12 : Int32 → Int32 → Ob → Ob → Option (Ob × Ob)} (hk12 : ∀ (v2 : Int32) (v3 : Int32) (s0 : Ob) (s3 : Ob), k12 v2 v3 s0 s3 = some res → Zs K 0 0 (wX0 g a0 r0 q0_4 s0 ++ wX1 g a1 r1 q1_0 s1 ++ wX5 g q1_0 r2 s2 ++ wX2 g q0_4 r3 s3) [(0, .ref a0), (1, .ref a1), (2, .int v2), (3, .int v3)] 12 []) : ∀ (n : Nat) (v2 : Int32) (v3 : Int32) (v4 : Int32) (v5 : Int32) (s0 : Ob) (s3 : Ob), f_X0_chooseHint_58 N s1 s2 k12 n v2 v3 v4 v5 s0 s3 = some res → Zs K 0 0 (wX0 g a0 r0 q0_4 s0 ++ wX1 g a1 r1 q1_0 s1 ++ wX5 g q1_0 r2 s2 ++ wX2 g q0_4 r3 s3) [(0, .ref a0), (1, .ref a1), (2, .int v2), (3, .int v3), (4, .int v4), (5, .int v5)] 58 [] := by
  intro n
  induction n with
  | zero => intro v2 v3 v4 v5 s0 s3 h; exact nomatch (show (none : Option (Ob × Ob)) = some res from h)
  | succ n hk58 =>
    intro v2 v3 v4 v5 s0 s3 h
    replace h : F_X0_chooseHint_58 N s1 s2 k12 (f_X0_chooseHint_58 N s1 s2 k12 n) v2 v3 v4 v5 s0 s3 = some res := h
    unfold F_X0_chooseHint_58 at h
    refine z_iload (pc := 58) (x := v5) C dX0_chooseHint_58 rfl ?_
    refine z_aload_n (pc := 60) (x := a1) C dX0_chooseHint_60 (i := 1) rfl rfl ?_
    refine z_get (pc := 61) (v := .ref q1_0) C 1 dX0_chooseHint_61 fl_RX0_77 rfl rfl ?_
    refine z_get (pc := 64) (v := .int (s2.1 0)) C 10 dX0_chooseHint_64 fl_RX0_91 rfl rfl ?_
    refine z_icmp_ge (pc := 67) C dX0_chooseHint_67 (tgt := 87) (by decide) (fun hc => ?_) (fun hc => ?_)
    · replace h := (ite_e h).1 hc
      refine z_iconst (pc := 87) C dX0_chooseHint_87 ic_1 ?_
      refine z_istore (pc := 88) C dX0_chooseHint_88 (by decide) (lv' := [(5, .int (1 : Int32)), (0, .ref a0), (1, .ref a1), (2, .int v2), (3, .int v3), (4, .int v4)]) rfl ?_
      refine z_lv (lv' := [(0, .ref a0), (1, .ref a1), (2, .int v2), (3, .int v3), (4, .int v4), (5, .int (1 : Int32))]) [1, 2, 3, 4, 5, 0] rfl ?_
      exact m_X0_chooseHint_90 (a0 := a0) (a1 := a1) (r0 := r0) (q0_4 := q0_4) (r1 := r1) (q1_0 := q1_0) (r2 := r2) (r3 := r3) hg C X hk12 N v2 v3 v4 (1 : Int32) s0 s3 h
    · replace h := (ite_e h).2 hc
      refine z_aload_n (pc := 70) (x := a0) C dX0_chooseHint_70 (i := 0) rfl rfl ?_
      refine z_aload_n (pc := 71) (x := a1) C dX0_chooseHint_71 (i := 1) rfl rfl ?_
      refine z_iload_n (pc := 72) (x := v2) C dX0_chooseHint_72 (i := 2) rfl rfl ?_
      refine z_iload (pc := 73) (x := v4) C dX0_chooseHint_73 rfl ?_
      refine z_iconst (pc := 75) C dX0_chooseHint_75 ic_0 ?_
      refine z_iload (pc := 76) (x := v5) C dX0_chooseHint_76 rfl ?_
      replace h := ob_e h
      obtain ⟨x3, hx3, h⟩ := h
      refine z_callV (pc := 78) (As := [.ref a1, .int v2, .int v4, .int (0 : Int32), .int v5]) (rest := []) (wr := ([] : va_W)) C dX0_chooseHint_78 ml_RX0_94 wv_X0_weighHint (m_X0_weighHint (a0 := a0) (a1 := a1) (r0 := r0) (q0_4 := q0_4) (r1 := r1) (q1_0 := q1_0) (r2 := r2) (r3 := r3) hg hx3) [0, 1, 2, 3, 4, 5, 6, 7, 8, 9, 10, 11, 12, 13, 14, 15] [] rfl rfl ⟨by decide, by decide⟩ (Nat.le_of_ble_eq_true rfl) ⟨by decide, by decide⟩ rfl rfl rfl rfl rfl rfl rfl (by decide) (ex_k C (cs' := 0) (ss' := 0) (wF := (wX0 g a0 r0 q0_4 x3 ++ wX1 g a1 r1 q1_0 s1 ++ wX5 g q1_0 r2 s2 ++ wX2 g q0_4 r3 s3)) [0, 1, 2, 3, 4, 5, 6, 7, 8, 9, 10, 11, 12, 13, 14, 15] rfl rfl ?_)
      refine z_iinc (pc := 81) C dX0_chooseHint_81 rfl (inc_e 1 (1 : Int32) ic_1 v5) (by decide) (lv' := [(5, .int (v5 + (1 : Int32))), (0, .ref a0), (1, .ref a1), (2, .int v2), (3, .int v3), (4, .int v4)]) rfl ?_
      refine z_goto (pc := 84) C dX0_chooseHint_84 (tgt := 58) (by decide) ?_
      refine z_lv (lv' := [(0, .ref a0), (1, .ref a1), (2, .int v2), (3, .int v3), (4, .int v4), (5, .int (v5 + (1 : Int32)))]) [1, 2, 3, 4, 5, 0] rfl ?_
      exact hk58 v2 v3 v4 (v5 + (1 : Int32)) x3 s3 h
def f_X0_chooseHint_43 (N : Nat) (s1 : Ob) (s2 : Ob) (k12 : Int32 → Int32 → Ob → Ob → Option (Ob × Ob)) (v3 : Int32) (t0 : Int32) (s0 : Ob) (s3 : Ob) : Option (Ob × Ob) := (ob (f_X2_unseenKinds N s3 s1 s2 t0) fun x1 => (f_X0_chooseHint_58 N s1 s2 k12 N t0 v3 x1.1 (0 : Int32) s0 x1.2))
theorem m_X0_chooseHint_43 {K : Kt} {g : Gp} {a0 : Nat} {a1 : Nat} {r0 : Nat → Nat} {q0_4 : Nat} {r1 : Nat → Nat} {q1_0 : Nat} {r2 : Nat → Nat} {r3 : Nat → Nat} {N : Nat} {s1 : Ob} {s2 : Ob} {res : Ob × Ob} (hg : Ok g) (C : Cx K g cX0_chooseHint RX0 6 (zrm 4 99)) (X : Rx K (exR none (wX0 g a0 r0 q0_4 res.1 ++ wX1 g a1 r1 q1_0 s1 ++ wX5 g q1_0 r2 s2 ++ wX2 g q0_4 r3 res.2)) 0 0 none) {k12 : Int32 → Int32 → Ob → Ob → Option (Ob × Ob)} (hk12 : ∀ (v2 : Int32) (v3 : Int32) (s0 : Ob) (s3 : Ob), k12 v2 v3 s0 s3 = some res → Zs K 0 0 (wX0 g a0 r0 q0_4 s0 ++ wX1 g a1 r1 q1_0 s1 ++ wX5 g q1_0 r2 s2 ++ wX2 g q0_4 r3 s3) [(0, .ref a0), (1, .ref a1), (2, .int v2), (3, .int v3)] 12 []) (v3 : Int32) (t0 : Int32) (s0 : Ob) (s3 : Ob) (h : f_X0_chooseHint_43 N s1 s2 k12 v3 t0 s0 s3 = some res) : Zs K 0 0 (wX0 g a0 r0 q0_4 s0 ++ wX1 g a1 r1 q1_0 s1 ++ wX5 g q1_0 r2 s2 ++ wX2 g q0_4 r3 s3) [(0, .ref a0), (1, .ref a1), (3, .int v3)] 43 [.int t0] := by
  unfold f_X0_chooseHint_43 at h
  refine z_istore_n (pc := 43) C dX0_chooseHint_43 (i := 2) rfl (by decide) (lv' := [(2, .int t0), (0, .ref a0), (1, .ref a1), (3, .int v3)]) rfl ?_
  refine z_aload_n (pc := 44) (x := a0) C dX0_chooseHint_44 (i := 0) rfl rfl ?_
  refine z_get (pc := 45) (v := .ref q0_4) C 0 dX0_chooseHint_45 fl_RX0_9 rfl rfl ?_
  refine z_aload_n (pc := 48) (x := a1) C dX0_chooseHint_48 (i := 1) rfl rfl ?_
  refine z_iload_n (pc := 49) (x := t0) C dX0_chooseHint_49 (i := 2) rfl rfl ?_
  replace h := ob_e h
  obtain ⟨x1, hx1, h⟩ := h
  refine z_callV (pc := 50) (As := [.ref a1, .int t0]) (rest := []) (wr := (wX0 g a0 r0 q0_4 s0)) C dX0_chooseHint_50 ml_RX0_86 wv_X2_unseenKinds (m_X2_unseenKinds (a0 := q0_4) (a1 := a1) (r0 := r3) (r1 := r1) (q1_0 := q1_0) (r2 := r2) hg hx1) [14, 15, 1, 2, 3, 4, 5, 6, 7, 8, 9, 10, 11, 12, 13] [0] rfl rfl ⟨by decide, by decide⟩ (Nat.le_of_ble_eq_true rfl) ⟨by decide, by decide⟩ rfl rfl rfl rfl rfl rfl rfl (by decide) (ex_k C (cs' := 0) (ss' := 0) (wF := (wX0 g a0 r0 q0_4 s0 ++ wX1 g a1 r1 q1_0 s1 ++ wX5 g q1_0 r2 s2 ++ wX2 g q0_4 r3 x1.2)) [0, 3, 4, 5, 6, 7, 8, 9, 10, 11, 12, 13, 14, 15, 1, 2] rfl rfl ?_)
  refine z_istore (pc := 53) C dX0_chooseHint_53 (by decide) (lv' := [(4, .int x1.1), (2, .int t0), (0, .ref a0), (1, .ref a1), (3, .int v3)]) rfl ?_
  refine z_iconst (pc := 55) C dX0_chooseHint_55 ic_0 ?_
  refine z_istore (pc := 56) C dX0_chooseHint_56 (by decide) (lv' := [(5, .int (0 : Int32)), (4, .int x1.1), (2, .int t0), (0, .ref a0), (1, .ref a1), (3, .int v3)]) rfl ?_
  refine z_lv (lv' := [(0, .ref a0), (1, .ref a1), (2, .int t0), (3, .int v3), (4, .int x1.1), (5, .int (0 : Int32))]) [3, 4, 2, 5, 1, 0] rfl ?_
  exact m_X0_chooseHint_58 (a0 := a0) (a1 := a1) (r0 := r0) (q0_4 := q0_4) (r1 := r1) (q1_0 := q1_0) (r2 := r2) (r3 := r3) hg C X hk12 N t0 v3 x1.1 (0 : Int32) s0 x1.2 h
def F_X0_chooseHint_12 (N : Nat) (s1 : Ob) (s2 : Ob)  (k12 : Int32 → Int32 → Ob → Ob → Option (Ob × Ob)) (v2 : Int32) (v3 : Int32) (s0 : Ob) (s3 : Ob) : Option (Ob × Ob) := (if (s2.1 2) ≤ v3 then (some (s0, s3)) else (if (s2.1 2) ≤ (v2 + (1 : Int32)) then (f_X0_chooseHint_43 N s1 s2 k12 v3 (0 : Int32) s0 s3) else (f_X0_chooseHint_43 N s1 s2 k12 v3 (v2 + (1 : Int32)) s0 s3)))
def f_X0_chooseHint_12 (N : Nat) (s1 : Ob) (s2 : Ob)  : Nat → Int32 → Int32 → Ob → Ob → Option (Ob × Ob) := zlp (fun _ _ _ _ => none) (F_X0_chooseHint_12 N s1 s2)
theorem m_X0_chooseHint_12 {K : Kt} {g : Gp} {a0 : Nat} {a1 : Nat} {r0 : Nat → Nat} {q0_4 : Nat} {r1 : Nat → Nat} {q1_0 : Nat} {r2 : Nat → Nat} {r3 : Nat → Nat} {N : Nat} {s1 : Ob} {s2 : Ob} {res : Ob × Ob} (hg : Ok g) (C : Cx K g cX0_chooseHint RX0 6 (zrm 4 99)) (X : Rx K (exR none (wX0 g a0 r0 q0_4 res.1 ++ wX1 g a1 r1 q1_0 s1 ++ wX5 g q1_0 r2 s2 ++ wX2 g q0_4 r3 res.2)) 0 0 none) : ∀ (n : Nat) (v2 : Int32) (v3 : Int32) (s0 : Ob) (s3 : Ob), f_X0_chooseHint_12 N s1 s2 n v2 v3 s0 s3 = some res → Zs K 0 0 (wX0 g a0 r0 q0_4 s0 ++ wX1 g a1 r1 q1_0 s1 ++ wX5 g q1_0 r2 s2 ++ wX2 g q0_4 r3 s3) [(0, .ref a0), (1, .ref a1), (2, .int v2), (3, .int v3)] 12 [] := by
  intro n
  induction n with
  | zero => intro v2 v3 s0 s3 h; exact nomatch (show (none : Option (Ob × Ob)) = some res from h)
  | succ n hk12 =>
    intro v2 v3 s0 s3 h
    replace h : F_X0_chooseHint_12 N s1 s2 (f_X0_chooseHint_12 N s1 s2 n) v2 v3 s0 s3 = some res := h
    unfold F_X0_chooseHint_12 at h
    refine z_iload_n (pc := 12) (x := v3) C dX0_chooseHint_12 (i := 3) rfl rfl ?_
    refine z_aload_n (pc := 13) (x := a1) C dX0_chooseHint_13 (i := 1) rfl rfl ?_
    refine z_get (pc := 14) (v := .ref q1_0) C 1 dX0_chooseHint_14 fl_RX0_77 rfl rfl ?_
    refine z_get (pc := 17) (v := .int (s2.1 2)) C 10 dX0_chooseHint_17 fl_RX0_81 rfl rfl ?_
    refine z_icmp_ge (pc := 20) C dX0_chooseHint_20 (tgt := 125) (by decide) (fun hc => ?_) (fun hc => ?_)
    · replace h := (ite_e h).1 hc
      exact z_vret C X dX0_chooseHint_125 (by rw [← Option.some.inj h]; exact ⟨rfl, rfl⟩) (by decide) (by decide)
    · replace h := (ite_e h).2 hc
      refine z_iload_n (pc := 23) (x := v2) C dX0_chooseHint_23 (i := 2) rfl rfl ?_
      refine z_iconst (pc := 24) C dX0_chooseHint_24 ic_1 ?_
      refine z_iadd (pc := 25) C dX0_chooseHint_25 ?_
      refine z_aload_n (pc := 26) (x := a1) C dX0_chooseHint_26 (i := 1) rfl rfl ?_
      refine z_get (pc := 27) (v := .ref q1_0) C 1 dX0_chooseHint_27 fl_RX0_77 rfl rfl ?_
      refine z_get (pc := 30) (v := .int (s2.1 2)) C 10 dX0_chooseHint_30 fl_RX0_81 rfl rfl ?_
      refine z_icmp_ge (pc := 33) C dX0_chooseHint_33 (tgt := 42) (by decide) (fun hc => ?_) (fun hc => ?_)
      · replace h := (ite_e h).1 hc
        refine z_iconst (pc := 42) C dX0_chooseHint_42 ic_0 ?_
        refine z_lv (lv' := [(0, .ref a0), (1, .ref a1), (3, .int v3)]) [0, 1, 3] rfl ?_
        exact m_X0_chooseHint_43 (a0 := a0) (a1 := a1) (r0 := r0) (q0_4 := q0_4) (r1 := r1) (q1_0 := q1_0) (r2 := r2) (r3 := r3) hg C X hk12 v3 (0 : Int32) s0 s3 h
      · replace h := (ite_e h).2 hc
        refine z_iload_n (pc := 36) (x := v2) C dX0_chooseHint_36 (i := 2) rfl rfl ?_
        refine z_iconst (pc := 37) C dX0_chooseHint_37 ic_1 ?_
        refine z_iadd (pc := 38) C dX0_chooseHint_38 ?_
        refine z_goto (pc := 39) C dX0_chooseHint_39 (tgt := 43) (by decide) ?_
        refine z_lv (lv' := [(0, .ref a0), (1, .ref a1), (3, .int v3)]) [0, 1, 3] rfl ?_
        exact m_X0_chooseHint_43 (a0 := a0) (a1 := a1) (r0 := r0) (q0_4 := q0_4) (r1 := r1) (q1_0 := q1_0) (r2 := r2) (r3 := r3) hg C X hk12 v3 (v2 + (1 : Int32)) s0 s3 h
def f_X0_chooseHint (N : Nat) (s0 : Ob) (s1 : Ob) (s2 : Ob) (s3 : Ob) : Option (Ob × Ob) := (f_X0_chooseHint_12 N s1 s2 N (s1.1 4) (1 : Int32) (si s0 5 (-1 : Int32)) s3)
theorem m_X0_chooseHint {g : Gp} {a0 : Nat} {a1 : Nat} {r0 : Nat → Nat} {q0_4 : Nat} {r1 : Nat → Nat} {q1_0 : Nat} {r2 : Nat → Nat} {r3 : Nat → Nat} {N : Nat} {s0 : Ob} {s1 : Ob} {s2 : Ob} {s3 : Ob} {res : Ob × Ob} (hg : Ok g) (h : f_X0_chooseHint N s0 s1 s2 s3 = some res) : Ct g yX0_chooseHint cX0_chooseHint 6 none (zrm 4 99) [.ref a0, .ref a1] (wX0 g a0 r0 q0_4 s0 ++ wX1 g a1 r1 q1_0 s1 ++ wX5 g q1_0 r2 s2 ++ wX2 g q0_4 r3 s3) (exR none (wX0 g a0 r0 q0_4 res.1 ++ wX1 g a1 r1 q1_0 s1 ++ wX5 g q1_0 r2 s2 ++ wX2 g q0_4 r3 res.2)) := by
  refine ct_of rfl hg (by show _ ≤ _; exact Nat.le_of_ble_eq_true rfl) (fun K C X => ?_)
  show Zs K 0 0 (wX0 g a0 r0 q0_4 s0 ++ wX1 g a1 r1 q1_0 s1 ++ wX5 g q1_0 r2 s2 ++ wX2 g q0_4 r3 s3) [(0, .ref a0), (1, .ref a1)] 0 []
  unfold f_X0_chooseHint at h
  refine z_aload_n (pc := 0) (x := a0) C dX0_chooseHint_0 (i := 0) rfl rfl ?_
  refine z_iconst (pc := 1) C dX0_chooseHint_1 ic_m1 ?_
  refine z_put (pc := 2) C 0 dX0_chooseHint_2 fp_RX0_60 rfl rfl rfl (zlt_b rfl) (ws' := (wX0 g a0 r0 q0_4 (si s0 5 (-1 : Int32)) ++ wX1 g a1 r1 q1_0 s1 ++ wX5 g q1_0 r2 s2 ++ wX2 g q0_4 r3 s3)) rfl ?_
  refine z_aload_n (pc := 5) (x := a1) C dX0_chooseHint_5 (i := 1) rfl rfl ?_
  refine z_get (pc := 6) (v := .int (s1.1 4)) C 1 dX0_chooseHint_6 fl_RX0_70 rfl rfl ?_
  refine z_istore_n (pc := 9) C dX0_chooseHint_9 (i := 2) rfl (by decide) (lv' := [(2, .int (s1.1 4)), (0, .ref a0), (1, .ref a1)]) rfl ?_
  refine z_iconst (pc := 10) C dX0_chooseHint_10 ic_1 ?_
  refine z_istore_n (pc := 11) C dX0_chooseHint_11 (i := 3) rfl (by decide) (lv' := [(3, .int (1 : Int32)), (2, .int (s1.1 4)), (0, .ref a0), (1, .ref a1)]) rfl ?_
  refine z_lv (lv' := [(0, .ref a0), (1, .ref a1), (2, .int (s1.1 4)), (3, .int (1 : Int32))]) [2, 3, 1, 0] rfl ?_
  exact m_X0_chooseHint_12 (a0 := a0) (a1 := a1) (r0 := r0) (q0_4 := q0_4) (r1 := r1) (q1_0 := q1_0) (r2 := r2) (r3 := r3) hg C X N (s1.1 4) (1 : Int32) (si s0 5 (-1 : Int32)) s3 h
def F_X1_uselessKinds_4 (N : Nat) (s0 : Ob) (s1 : Ob)  (k4 : Int32 → Int32 → Option (Int32)) (v1 : Int32) (v2 : Int32) : Option (Int32) := (if (s1.1 0) ≤ v2 then (some v1) else (ob (f_X1_reachableTop N s0 s1 v2) fun x1 => (ob (f_X1_topOf N s0 v2) fun x2 => (znm ((((1 : Int32) <<< (x1 &&& 31)) - ((1 : Int32) <<< (x2 &&& 31))) ^^^ (-1 : Int32)) fun x3 => (k4 (v1 ||| (((31 : Int32) &&& x3) <<< ((v2 * (5 : Int32)) &&& 31))) (v2 + (1 : Int32)))))))
def f_X1_uselessKinds_4 (N : Nat) (s0 : Ob) (s1 : Ob)  : Nat → Int32 → Int32 → Option (Int32) := zlp (fun _ _ => none) (F_X1_uselessKinds_4 N s0 s1)
theorem m_X1_uselessKinds_4 {K : Kt} {g : Gp} {a0 : Nat} {r0 : Nat → Nat} {q0_0 : Nat} {r1 : Nat → Nat} {N : Nat} {s0 : Ob} {s1 : Ob} {res : Int32} (hg : Ok g) (C : Cx K g cX1_uselessKinds RX1 4 (zrm 1 24)) (X : Rx K (exR (some (.int res)) (wX1 g a0 r0 q0_0 s0 ++ wX5 g q0_0 r1 s1)) 0 0 (some .int)) : ∀ (n : Nat) (v1 : Int32) (v2 : Int32), f_X1_uselessKinds_4 N s0 s1 n v1 v2 = some res → Zs K 0 0 (wX1 g a0 r0 q0_0 s0 ++ wX5 g q0_0 r1 s1) [(0, .ref a0), (1, .int v1), (2, .int v2)] 4 [] := by
  intro n
  induction n with
  | zero => intro v1 v2 h; exact nomatch (show (none : Option (Int32)) = some res from h)
  | succ n hk4 =>
    intro v1 v2 h
    replace h : F_X1_uselessKinds_4 N s0 s1 (f_X1_uselessKinds_4 N s0 s1 n) v1 v2 = some res := h
    unfold F_X1_uselessKinds_4 at h
    refine z_iload_n (pc := 4) (x := v2) C dX1_uselessKinds_4 (i := 2) rfl rfl ?_
    refine z_aload_n (pc := 5) (x := a0) C dX1_uselessKinds_5 (i := 0) rfl rfl ?_
    refine z_get (pc := 6) (v := .ref q0_0) C 0 dX1_uselessKinds_6 fl_RX1_38 rfl rfl ?_
    refine z_get (pc := 9) (v := .int (s1.1 0)) C 9 dX1_uselessKinds_9 fl_RX1_104 rfl rfl ?_
    refine z_icmp_ge (pc := 12) C dX1_uselessKinds_12 (tgt := 50) (by decide) (fun hc => ?_) (fun hc => ?_)
    · replace h := (ite_e h).1 hc
      refine z_iload_n (pc := 50) (x := v1) C dX1_uselessKinds_50 (i := 1) rfl rfl ?_
      exact z_iret C X dX1_uselessKinds_51 (by rw [← Option.some.inj h]; exact ⟨rfl, rfl⟩) (by decide) (by decide)
    · replace h := (ite_e h).2 hc
      refine z_iconst (pc := 15) C dX1_uselessKinds_15 ic_1 ?_
      refine z_aload_n (pc := 16) (x := a0) C dX1_uselessKinds_16 (i := 0) rfl rfl ?_
      refine z_iload_n (pc := 17) (x := v2) C dX1_uselessKinds_17 (i := 2) rfl rfl ?_
      replace h := ob_e h
      obtain ⟨x1, hx1, h⟩ := h
      refine z_callV (pc := 18) (As := [.int v2]) (rest := [.int (1 : Int32)]) (wr := ([] : va_W)) C dX1_uselessKinds_18 ml_RX1_136 wv_X1_reachableTop (m_X1_reachableTop (a0 := a0) (r0 := r0) (q0_0 := q0_0) (r1 := r1) hg hx1) [0, 1, 2, 3, 4, 5, 6, 7, 8, 9, 10, 11, 12] [] rfl rfl ⟨by decide, by decide⟩ (Nat.le_of_ble_eq_true rfl) ⟨by decide, by decide⟩ rfl rfl rfl rfl rfl rfl rfl (by decide) (ex_k C (cs' := 0) (ss' := 0) (wF := (wX1 g a0 r0 q0_0 s0 ++ wX5 g q0_0 r1 s1)) [0, 1, 2, 3, 4, 5, 6, 7, 8, 9, 10, 11, 12] rfl rfl ?_)
      refine z_ishl (pc := 21) C dX1_uselessKinds_21 ?_
      refine z_iconst (pc := 22) C dX1_uselessKinds_22 ic_1 ?_
      refine z_aload_n (pc := 23) (x := a0) C dX1_uselessKinds_23 (i := 0) rfl rfl ?_
      refine z_iload_n (pc := 24) (x := v2) C dX1_uselessKinds_24 (i := 2) rfl rfl ?_
      replace h := ob_e h
      obtain ⟨x2, hx2, h⟩ := h
      refine z_callV (pc := 25) (As := [.int v2]) (rest := [.int (1 : Int32), .int ((1 : Int32) <<< (x1 &&& 31))]) (wr := (wX5 g q0_0 r1 s1)) C dX1_uselessKinds_25 ml_RX1_133 wv_X1_topOf (m_X1_topOf (a0 := a0) (r0 := r0) (q0_0 := q0_0) hg hx2) [0, 1, 2, 3, 4, 5, 6, 7, 8] [9, 10, 11, 12] rfl rfl ⟨by decide, by decide⟩ (Nat.le_of_ble_eq_true rfl) ⟨by decide, by decide⟩ rfl rfl rfl rfl rfl rfl rfl (by decide) (ex_k C (cs' := 0) (ss' := 0) (wF := (wX1 g a0 r0 q0_0 s0 ++ wX5 g q0_0 r1 s1)) [4, 5, 6, 7, 8, 9, 10, 11, 12, 0, 1, 2, 3] rfl rfl ?_)
      refine z_ishl (pc := 28) C dX1_uselessKinds_28 ?_
      refine z_isub (pc := 29) C dX1_uselessKinds_29 ?_
      refine z_istore_n (pc := 30) C dX1_uselessKinds_30 (i := 3) rfl (by decide) (lv' := [(3, .int (((1 : Int32) <<< (x1 &&& 31)) - ((1 : Int32) <<< (x2 &&& 31)))), (0, .ref a0), (1, .int v1), (2, .int v2)]) rfl ?_
      refine z_iload_n (pc := 31) (x := v1) C dX1_uselessKinds_31 (i := 1) rfl rfl ?_
      refine z_bipush (pc := 32) C dX1_uselessKinds_32 bp_31 ?_
      refine z_iload_n (pc := 34) (x := (((1 : Int32) <<< (x1 &&& 31)) - ((1 : Int32) <<< (x2 &&& 31)))) C dX1_uselessKinds_34 (i := 3) rfl rfl ?_
      refine z_iconst (pc := 35) C dX1_uselessKinds_35 ic_m1 ?_
      refine z_ixor (pc := 36) C dX1_uselessKinds_36 ?_
      replace h := znm_e h
      obtain ⟨x3, hx3, h⟩ := h
      refine z_top1 hx3 ?_
      refine z_iand (pc := 37) C dX1_uselessKinds_37 ?_
      refine z_iload_n (pc := 38) (x := v2) C dX1_uselessKinds_38 (i := 2) rfl rfl ?_
      refine z_iconst (pc := 39) C dX1_uselessKinds_39 ic_5 ?_
      refine z_imul (pc := 40) C dX1_uselessKinds_40 ?_
      refine z_ishl (pc := 41) C dX1_uselessKinds_41 ?_
      refine z_ior (pc := 42) C dX1_uselessKinds_42 ?_
      refine z_istore_n (pc := 43) C dX1_uselessKinds_43 (i := 1) rfl (by decide) (lv' := [(1, .int (v1 ||| (((31 : Int32) &&& x3) <<< ((v2 * (5 : Int32)) &&& 31)))), (3, .int (((1 : Int32) <<< (x1 &&& 31)) - ((1 : Int32) <<< (x2 &&& 31)))), (0, .ref a0), (2, .int v2)]) rfl ?_
      refine z_iinc (pc := 44) C dX1_uselessKinds_44 rfl (inc_e 1 (1 : Int32) ic_1 v2) (by decide) (lv' := [(2, .int (v2 + (1 : Int32))), (1, .int (v1 ||| (((31 : Int32) &&& x3) <<< ((v2 * (5 : Int32)) &&& 31)))), (3, .int (((1 : Int32) <<< (x1 &&& 31)) - ((1 : Int32) <<< (x2 &&& 31)))), (0, .ref a0)]) rfl ?_
      refine z_goto (pc := 47) C dX1_uselessKinds_47 (tgt := 4) (by decide) ?_
      refine z_lv (lv' := [(0, .ref a0), (1, .int (v1 ||| (((31 : Int32) &&& x3) <<< ((v2 * (5 : Int32)) &&& 31)))), (2, .int (v2 + (1 : Int32)))]) [3, 1, 0] rfl ?_
      exact hk4 (v1 ||| (((31 : Int32) &&& x3) <<< ((v2 * (5 : Int32)) &&& 31))) (v2 + (1 : Int32)) h
def f_X1_uselessKinds (N : Nat) (s0 : Ob) (s1 : Ob) : Option (Int32) := (f_X1_uselessKinds_4 N s0 s1 N (0 : Int32) (0 : Int32))
theorem m_X1_uselessKinds {g : Gp} {a0 : Nat} {r0 : Nat → Nat} {q0_0 : Nat} {r1 : Nat → Nat} {N : Nat} {s0 : Ob} {s1 : Ob} {res : Int32} (hg : Ok g) (h : f_X1_uselessKinds N s0 s1 = some res) : Ct g yX1_uselessKinds cX1_uselessKinds 4 (some .int) (zrm 1 24) [.ref a0] (wX1 g a0 r0 q0_0 s0 ++ wX5 g q0_0 r1 s1) (exR (some (.int res)) (wX1 g a0 r0 q0_0 s0 ++ wX5 g q0_0 r1 s1)) := by
  refine ct_of rfl hg (by show _ ≤ _; exact Nat.le_of_ble_eq_true rfl) (fun K C X => ?_)
  show Zs K 0 0 (wX1 g a0 r0 q0_0 s0 ++ wX5 g q0_0 r1 s1) [(0, .ref a0)] 0 []
  unfold f_X1_uselessKinds at h
  refine z_iconst (pc := 0) C dX1_uselessKinds_0 ic_0 ?_
  refine z_istore_n (pc := 1) C dX1_uselessKinds_1 (i := 1) rfl (by decide) (lv' := [(1, .int (0 : Int32)), (0, .ref a0)]) rfl ?_
  refine z_iconst (pc := 2) C dX1_uselessKinds_2 ic_0 ?_
  refine z_istore_n (pc := 3) C dX1_uselessKinds_3 (i := 2) rfl (by decide) (lv' := [(2, .int (0 : Int32)), (1, .int (0 : Int32)), (0, .ref a0)]) rfl ?_
  refine z_lv (lv' := [(0, .ref a0), (1, .int (0 : Int32)), (2, .int (0 : Int32))]) [2, 1, 0] rfl ?_
  exact m_X1_uselessKinds_4 (a0 := a0) (r0 := r0) (q0_0 := q0_0) (r1 := r1) hg C X N (0 : Int32) (0 : Int32) h
def f_X1_wasTouched (N : Nat) (s0 : Ob) (p1 : Int32) : Option (Int32) := (if (lg_cmp (((s0.2.1 8) >>> ((p1).toInt64 &&& 63)) &&& (1 : Int64)) (0 : Int64)) = 0 then (some (0 : Int32)) else (some (1 : Int32)))
theorem m_X1_wasTouched {g : Gp} {a0 : Nat} {r0 : Nat → Nat} {q0_0 : Nat} {N : Nat} {s0 : Ob} {p1 : Int32} {res : Int32} (hg : Ok g) (h : f_X1_wasTouched N s0 p1 = some res) : Ct g yX1_wasTouched cX1_wasTouched 2 (some .boolean) (zrm 0 0) [.ref a0, .int p1] (wX1 g a0 r0 q0_0 s0) (exR (some (.int res)) (wX1 g a0 r0 q0_0 s0)) := by
  refine ct_of rfl hg (by show _ ≤ _; exact Nat.le_of_ble_eq_true rfl) (fun K C X => ?_)
  show Zs K 0 0 (wX1 g a0 r0 q0_0 s0) [(0, .ref a0), (1, .int p1)] 0 []
  unfold f_X1_wasTouched at h
  refine z_aload_n (pc := 0) (x := a0) C dX1_wasTouched_0 (i := 0) rfl rfl ?_
  refine z_get (pc := 1) (v := .long (s0.2.1 8)) C 0 dX1_wasTouched_1 fl_RX1_61 rfl rfl ?_
  refine z_iload_n (pc := 4) (x := p1) C dX1_wasTouched_4 (i := 1) rfl rfl ?_
  refine z_lshr (pc := 5) C dX1_wasTouched_5 ?_
  refine z_lconst (pc := 6) (v := (1 : Int64)) C dX1_wasTouched_6 rfl ?_
  refine z_land (pc := 7) C dX1_wasTouched_7 ?_
  refine z_lconst (pc := 8) (v := (0 : Int64)) C dX1_wasTouched_8 rfl ?_
  refine z_lcmp (pc := 9) C dX1_wasTouched_9 ?_
  refine z_if_eq (pc := 10) C dX1_wasTouched_10 (tgt := 17) (by decide) (fun hc => ?_) (fun hc => ?_)
  · replace h := (ite_e h).1 hc
    refine z_iconst (pc := 17) C dX1_wasTouched_17 ic_0 ?_
    exact z_zret C X dX1_wasTouched_18 rfl (by rw [← Option.some.inj h]; exact ⟨rfl, rfl⟩) (by decide) (by decide)
  · replace h := (ite_e h).2 hc
    refine z_iconst (pc := 13) C dX1_wasTouched_13 ic_1 ?_
    refine z_goto (pc := 14) C dX1_wasTouched_14 (tgt := 18) (by decide) ?_
    exact z_zret C X dX1_wasTouched_18 rfl (by rw [← Option.some.inj h]; exact ⟨rfl, rfl⟩) (by decide) (by decide)
def F_X0_firstUntouched_2 (N : Nat) (s0 : Ob) (s1 : Ob)  (k2 : Int32 → Option (Int32)) (v2 : Int32) : Option (Int32) := (ob (f_X1_sizeOf N s1 (s1.1 4)) fun x1 => (if x1 ≤ v2 then (some (-1 : Int32)) else (ob (f_X1_cardAt N s1 (s1.1 4) v2) fun x2 => (ob (f_X1_wasTouched N s1 x2) fun x3 => (if x3 = 0 then (some v2) else (k2 (v2 + (1 : Int32))))))))
def f_X0_firstUntouched_2 (N : Nat) (s0 : Ob) (s1 : Ob)  : Nat → Int32 → Option (Int32) := zlp (fun _ => none) (F_X0_firstUntouched_2 N s0 s1)
theorem m_X0_firstUntouched_2 {K : Kt} {g : Gp} {a0 : Nat} {a1 : Nat} {r0 : Nat → Nat} {q0_4 : Nat} {r1 : Nat → Nat} {q1_0 : Nat} {N : Nat} {s0 : Ob} {s1 : Ob} {res : Int32} (hg : Ok g) (C : Cx K g cX0_firstUntouched RX0 3 (zrm 1 23)) (X : Rx K (exR (some (.int res)) (wX0 g a0 r0 q0_4 s0 ++ wX1 g a1 r1 q1_0 s1)) 0 0 (some .int)) : ∀ (n : Nat) (v2 : Int32), f_X0_firstUntouched_2 N s0 s1 n v2 = some res → Zs K 0 0 (wX0 g a0 r0 q0_4 s0 ++ wX1 g a1 r1 q1_0 s1) [(1, .ref a1), (2, .int v2)] 2 [] := by
  intro n
  induction n with
  | zero => intro v2 h; exact nomatch (show (none : Option (Int32)) = some res from h)
  | succ n hk2 =>
    intro v2 h
    replace h : F_X0_firstUntouched_2 N s0 s1 (f_X0_firstUntouched_2 N s0 s1 n) v2 = some res := h
    unfold F_X0_firstUntouched_2 at h
    refine z_iload_n (pc := 2) (x := v2) C dX0_firstUntouched_2 (i := 2) rfl rfl ?_
    refine z_aload_n (pc := 3) (x := a1) C dX0_firstUntouched_3 (i := 1) rfl rfl ?_
    refine z_aload_n (pc := 4) (x := a1) C dX0_firstUntouched_4 (i := 1) rfl rfl ?_
    refine z_get (pc := 5) (v := .int (s1.1 4)) C 1 dX0_firstUntouched_5 fl_RX0_70 rfl rfl ?_
    replace h := ob_e h
    obtain ⟨x1, hx1, h⟩ := h
    refine z_callV (pc := 8) (As := [.int (s1.1 4)]) (rest := [.int v2]) (wr := (wX0 g a0 r0 q0_4 s0)) C dX0_firstUntouched_8 ml_RX0_73 wv_X1_sizeOf (m_X1_sizeOf (a0 := a1) (r0 := r1) (q0_0 := q1_0) hg hx1) [1, 2, 3, 4, 5, 6, 7, 8, 9] [0] rfl rfl ⟨by decide, by decide⟩ (Nat.le_of_ble_eq_true rfl) ⟨by decide, by decide⟩ rfl rfl rfl rfl rfl rfl rfl (by decide) (ex_k C (cs' := 0) (ss' := 0) (wF := (wX0 g a0 r0 q0_4 s0 ++ wX1 g a1 r1 q1_0 s1)) [0, 1, 2, 3, 4, 5, 6, 7, 8, 9] rfl rfl ?_)
    refine z_icmp_ge (pc := 11) C dX0_firstUntouched_11 (tgt := 38) (by decide) (fun hc => ?_) (fun hc => ?_)
    · replace h := (ite_e h).1 hc
      refine z_iconst (pc := 38) C dX0_firstUntouched_38 ic_m1 ?_
      exact z_iret C X dX0_firstUntouched_39 (by rw [← Option.some.inj h]; exact ⟨rfl, rfl⟩) (by decide) (by decide)
    · replace h := (ite_e h).2 hc
      refine z_aload_n (pc := 14) (x := a1) C dX0_firstUntouched_14 (i := 1) rfl rfl ?_
      refine z_aload_n (pc := 15) (x := a1) C dX0_firstUntouched_15 (i := 1) rfl rfl ?_
      refine z_aload_n (pc := 16) (x := a1) C dX0_firstUntouched_16 (i := 1) rfl rfl ?_
      refine z_get (pc := 17) (v := .int (s1.1 4)) C 1 dX0_firstUntouched_17 fl_RX0_70 rfl rfl ?_
      refine z_iload_n (pc := 20) (x := v2) C dX0_firstUntouched_20 (i := 2) rfl rfl ?_
      replace h := ob_e h
      obtain ⟨x2, hx2, h⟩ := h
      refine z_callV (pc := 21) (As := [.int (s1.1 4), .int v2]) (rest := [.ref a1]) (wr := (wX0 g a0 r0 q0_4 s0)) C dX0_firstUntouched_21 ml_RX0_113 wv_X1_cardAt (m_X1_cardAt (a0 := a1) (r0 := r1) (q0_0 := q1_0) hg hx2) [1, 2, 3, 4, 5, 6, 7, 8, 9] [0] rfl rfl ⟨by decide, by decide⟩ (Nat.le_of_ble_eq_true rfl) ⟨by decide, by decide⟩ rfl rfl rfl rfl rfl rfl rfl (by decide) (ex_k C (cs' := 0) (ss' := 0) (wF := (wX0 g a0 r0 q0_4 s0 ++ wX1 g a1 r1 q1_0 s1)) [0, 1, 2, 3, 4, 5, 6, 7, 8, 9] rfl rfl ?_)
      replace h := ob_e h
      obtain ⟨x3, hx3, h⟩ := h
      refine z_callV (pc := 24) (As := [.int x2]) (rest := []) (wr := (wX0 g a0 r0 q0_4 s0)) C dX0_firstUntouched_24 ml_RX0_123 wv_X1_wasTouched (m_X1_wasTouched (a0 := a1) (r0 := r1) (q0_0 := q1_0) hg hx3) [1, 2, 3, 4, 5, 6, 7, 8, 9] [0] rfl rfl ⟨by decide, by decide⟩ (Nat.le_of_ble_eq_true rfl) ⟨by decide, by decide⟩ rfl rfl rfl rfl rfl rfl rfl (by decide) (ex_k C (cs' := 0) (ss' := 0) (wF := (wX0 g a0 r0 q0_4 s0 ++ wX1 g a1 r1 q1_0 s1)) [0, 1, 2, 3, 4, 5, 6, 7, 8, 9] rfl rfl ?_)
      refine z_if_ne (pc := 27) C dX0_firstUntouched_27 (tgt := 32) (by decide) (fun hc => ?_) (fun hc => ?_)
      · replace h := (ite_e h).2 hc
        refine z_iinc (pc := 32) C dX0_firstUntouched_32 rfl (inc_e 1 (1 : Int32) ic_1 v2) (by decide) (lv' := [(2, .int (v2 + (1 : Int32))), (1, .ref a1)]) rfl ?_
        refine z_goto (pc := 35) C dX0_firstUntouched_35 (tgt := 2) (by decide) ?_
        refine z_lv (lv' := [(1, .ref a1), (2, .int (v2 + (1 : Int32)))]) [1, 0] rfl ?_
        exact hk2 (v2 + (1 : Int32)) h
      · replace h := (ite_e h).1 hc
        refine z_iload_n (pc := 30) (x := v2) C dX0_firstUntouched_30 (i := 2) rfl rfl ?_
        exact z_iret C X dX0_firstUntouched_31 (by rw [← Option.some.inj h]; exact ⟨rfl, rfl⟩) (by decide) (by decide)
def f_X0_firstUntouched (N : Nat) (s0 : Ob) (s1 : Ob) : Option (Int32) := (f_X0_firstUntouched_2 N s0 s1 N (0 : Int32))
theorem m_X0_firstUntouched {g : Gp} {a0 : Nat} {a1 : Nat} {r0 : Nat → Nat} {q0_4 : Nat} {r1 : Nat → Nat} {q1_0 : Nat} {N : Nat} {s0 : Ob} {s1 : Ob} {res : Int32} (hg : Ok g) (h : f_X0_firstUntouched N s0 s1 = some res) : Ct g yX0_firstUntouched cX0_firstUntouched 3 (some .int) (zrm 1 23) [.ref a0, .ref a1] (wX0 g a0 r0 q0_4 s0 ++ wX1 g a1 r1 q1_0 s1) (exR (some (.int res)) (wX0 g a0 r0 q0_4 s0 ++ wX1 g a1 r1 q1_0 s1)) := by
  refine ct_of rfl hg (by show _ ≤ _; exact Nat.le_of_ble_eq_true rfl) (fun K C X => ?_)
  show Zs K 0 0 (wX0 g a0 r0 q0_4 s0 ++ wX1 g a1 r1 q1_0 s1) [(0, .ref a0), (1, .ref a1)] 0 []
  unfold f_X0_firstUntouched at h
  refine z_iconst (pc := 0) C dX0_firstUntouched_0 ic_0 ?_
  refine z_istore_n (pc := 1) C dX0_firstUntouched_1 (i := 2) rfl (by decide) (lv' := [(2, .int (0 : Int32)), (0, .ref a0), (1, .ref a1)]) rfl ?_
  refine z_lv (lv' := [(1, .ref a1), (2, .int (0 : Int32))]) [2, 0] rfl ?_
  exact m_X0_firstUntouched_2 (a0 := a0) (a1 := a1) (r0 := r0) (q0_4 := q0_4) (r1 := r1) (q1_0 := q1_0) hg C X N (0 : Int32) h
def f_X0_advise_99 (N : Nat) (s1 : Ob) (s2 : Ob)  (s0 : Ob) (s3 : Ob) : Option (Ob × Ob) := (if (s0.1 5) = (-1 : Int32) then (ob (f_X0_choose N s0 (3 : Int32) (-1 : Int32)) fun x6 => (some (x6, s3))) else (some (s0, s3)))
theorem m_X0_advise_99 {K : Kt} {g : Gp} {a0 : Nat} {a1 : Nat} {r0 : Nat → Nat} {q0_4 : Nat} {r1 : Nat → Nat} {q1_0 : Nat} {r2 : Nat → Nat} {r3 : Nat → Nat} {N : Nat} {s1 : Ob} {s2 : Ob} {res : Ob × Ob} (hg : Ok g) (C : Cx K g cX0_advise RX0 3 (zrm 5 124)) (X : Rx K (exR none (wX0 g a0 r0 q0_4 res.1 ++ wX1 g a1 r1 q1_0 s1 ++ wX5 g q1_0 r2 s2 ++ wX2 g q0_4 r3 res.2)) 0 0 none) (s0 : Ob) (s3 : Ob) (h : f_X0_advise_99 N s1 s2 s0 s3 = some res) : Zs K 0 0 (wX0 g a0 r0 q0_4 s0 ++ wX1 g a1 r1 q1_0 s1 ++ wX5 g q1_0 r2 s2 ++ wX2 g q0_4 r3 s3) [(0, .ref a0)] 99 [] := by
  unfold f_X0_advise_99 at h
  refine z_aload_n (pc := 99) (x := a0) C dX0_advise_99 (i := 0) rfl rfl ?_
  refine z_get (pc := 100) (v := .int (s0.1 5)) C 0 dX0_advise_100 fl_RX0_60 rfl rfl ?_
  refine z_iconst (pc := 103) C dX0_advise_103 ic_m1 ?_
  refine z_icmp_ne (pc := 104) C dX0_advise_104 (tgt := 113) (by decide) (fun hc => ?_) (fun hc => ?_)
  · replace h := (ite_e h).2 hc
    exact z_vret C X dX0_advise_113 (by rw [← Option.some.inj h]; exact ⟨rfl, rfl⟩) (by decide) (by decide)
  · replace h := (ite_e h).1 hc
    refine z_aload_n (pc := 107) (x := a0) C dX0_advise_107 (i := 0) rfl rfl ?_
    refine z_iconst (pc := 108) C dX0_advise_108 ic_3 ?_
    refine z_iconst (pc := 109) C dX0_advise_109 ic_m1 ?_
    replace h := ob_e h
    obtain ⟨x6, hx6, h⟩ := h
    refine z_callV (pc := 110) (As := [.int (3 : Int32), .int (-1 : Int32)]) (rest := []) (wr := (wX1 g a1 r1 q1_0 s1 ++ wX5 g q1_0 r2 s2 ++ wX2 g q0_4 r3 s3)) C dX0_advise_110 ml_RX0_52 wv_X0_choose (m_X0_choose (a0 := a0) (r0 := r0) (q0_4 := q0_4) hg hx6) [0] [1, 2, 3, 4, 5, 6, 7, 8, 9, 10, 11, 12, 13, 14, 15] rfl rfl ⟨by decide, by decide⟩ (Nat.le_of_ble_eq_true rfl) ⟨by decide, by decide⟩ rfl rfl rfl rfl rfl rfl rfl (by decide) (ex_k C (cs' := 0) (ss' := 0) (wF := (wX0 g a0 r0 q0_4 x6 ++ wX1 g a1 r1 q1_0 s1 ++ wX5 g q1_0 r2 s2 ++ wX2 g q0_4 r3 s3)) [15, 0, 1, 2, 3, 4, 5, 6, 7, 8, 9, 10, 11, 12, 13, 14] rfl rfl ?_)
    exact z_vret C X dX0_advise_113 (by rw [← Option.some.inj h]; exact ⟨rfl, rfl⟩) (by decide) (by decide)
def f_X0_advise_57 (N : Nat) (s1 : Ob) (s2 : Ob)  (v2 : Int32) (s0 : Ob) (s3 : Ob) : Option (Ob × Ob) := (if v2 = (-1 : Int32) then (if (s0.1 5) = (-1 : Int32) then (ob (f_X1_sizeOf N s1 (s1.1 4)) fun x7 => (if x7 ≤ 0 then (f_X0_advise_99 N s1 s2 s0 s3) else (ob (f_X0_choose N s0 (1 : Int32) (0 : Int32)) fun x8 => (some (x8, s3))))) else (f_X0_advise_99 N s1 s2 s0 s3)) else (ob (f_X0_choose N s0 (1 : Int32) v2) fun x9 => (some (x9, s3))))
theorem m_X0_advise_57 {K : Kt} {g : Gp} {a0 : Nat} {a1 : Nat} {r0 : Nat → Nat} {q0_4 : Nat} {r1 : Nat → Nat} {q1_0 : Nat} {r2 : Nat → Nat} {r3 : Nat → Nat} {N : Nat} {s1 : Ob} {s2 : Ob} {res : Ob × Ob} (hg : Ok g) (C : Cx K g cX0_advise RX0 3 (zrm 5 124)) (X : Rx K (exR none (wX0 g a0 r0 q0_4 res.1 ++ wX1 g a1 r1 q1_0 s1 ++ wX5 g q1_0 r2 s2 ++ wX2 g q0_4 r3 res.2)) 0 0 none) (v2 : Int32) (s0 : Ob) (s3 : Ob) (h : f_X0_advise_57 N s1 s2 v2 s0 s3 = some res) : Zs K 0 0 (wX0 g a0 r0 q0_4 s0 ++ wX1 g a1 r1 q1_0 s1 ++ wX5 g q1_0 r2 s2 ++ wX2 g q0_4 r3 s3) [(0, .ref a0), (1, .ref a1), (2, .int v2)] 57 [] := by
  unfold f_X0_advise_57 at h
  refine z_iload_n (pc := 57) (x := v2) C dX0_advise_57 (i := 2) rfl rfl ?_
  refine z_iconst (pc := 58) C dX0_advise_58 ic_m1 ?_
  refine z_icmp_eq (pc := 59) C dX0_advise_59 (tgt := 71) (by decide) (fun hc => ?_) (fun hc => ?_)
  · replace h := (ite_e h).1 hc
    refine z_aload_n (pc := 71) (x := a0) C dX0_advise_71 (i := 0) rfl rfl ?_
    refine z_get (pc := 72) (v := .int (s0.1 5)) C 0 dX0_advise_72 fl_RX0_60 rfl rfl ?_
    refine z_iconst (pc := 75) C dX0_advise_75 ic_m1 ?_
    refine z_icmp_ne (pc := 76) C dX0_advise_76 (tgt := 99) (by decide) (fun hc => ?_) (fun hc => ?_)
    · replace h := (ite_e h).2 hc
      refine z_lv (lv' := [(0, .ref a0)]) [0] rfl ?_
      exact m_X0_advise_99 (a0 := a0) (a1 := a1) (r0 := r0) (q0_4 := q0_4) (r1 := r1) (q1_0 := q1_0) (r2 := r2) (r3 := r3) hg C X s0 s3 h
    · replace h := (ite_e h).1 hc
      refine z_aload_n (pc := 79) (x := a1) C dX0_advise_79 (i := 1) rfl rfl ?_
      refine z_aload_n (pc := 80) (x := a1) C dX0_advise_80 (i := 1) rfl rfl ?_
      refine z_get (pc := 81) (v := .int (s1.1 4)) C 1 dX0_advise_81 fl_RX0_70 rfl rfl ?_
      replace h := ob_e h
      obtain ⟨x7, hx7, h⟩ := h
      refine z_callV (pc := 84) (As := [.int (s1.1 4)]) (rest := []) (wr := (wX0 g a0 r0 q0_4 s0 ++ wX5 g q1_0 r2 s2 ++ wX2 g q0_4 r3 s3)) C dX0_advise_84 ml_RX0_73 wv_X1_sizeOf (m_X1_sizeOf (a0 := a1) (r0 := r1) (q0_0 := q1_0) hg hx7) [1, 2, 3, 4, 5, 6, 7, 8, 9] [0, 10, 11, 12, 13, 14, 15] rfl rfl ⟨by decide, by decide⟩ (Nat.le_of_ble_eq_true rfl) ⟨by decide, by decide⟩ rfl rfl rfl rfl rfl rfl rfl (by decide) (ex_k C (cs' := 0) (ss' := 0) (wF := (wX0 g a0 r0 q0_4 s0 ++ wX1 g a1 r1 q1_0 s1 ++ wX5 g q1_0 r2 s2 ++ wX2 g q0_4 r3 s3)) [0, 7, 8, 9, 10, 11, 12, 13, 14, 15, 1, 2, 3, 4, 5, 6] rfl rfl ?_)
      refine z_if_le (pc := 87) C dX0_advise_87 (tgt := 99) (by decide) (fun hc => ?_) (fun hc => ?_)
      · replace h := (ite_e h).1 hc
        refine z_lv (lv' := [(0, .ref a0)]) [0] rfl ?_
        exact m_X0_advise_99 (a0 := a0) (a1 := a1) (r0 := r0) (q0_4 := q0_4) (r1 := r1) (q1_0 := q1_0) (r2 := r2) (r3 := r3) hg C X s0 s3 h
      · replace h := (ite_e h).2 hc
        refine z_aload_n (pc := 90) (x := a0) C dX0_advise_90 (i := 0) rfl rfl ?_
        refine z_iconst (pc := 91) C dX0_advise_91 ic_1 ?_
        refine z_iconst (pc := 92) C dX0_advise_92 ic_0 ?_
        replace h := ob_e h
        obtain ⟨x8, hx8, h⟩ := h
        refine z_callV (pc := 93) (As := [.int (1 : Int32), .int (0 : Int32)]) (rest := []) (wr := (wX1 g a1 r1 q1_0 s1 ++ wX5 g q1_0 r2 s2 ++ wX2 g q0_4 r3 s3)) C dX0_advise_93 ml_RX0_52 wv_X0_choose (m_X0_choose (a0 := a0) (r0 := r0) (q0_4 := q0_4) hg hx8) [0] [1, 2, 3, 4, 5, 6, 7, 8, 9, 10, 11, 12, 13, 14, 15] rfl rfl ⟨by decide, by decide⟩ (Nat.le_of_ble_eq_true rfl) ⟨by decide, by decide⟩ rfl rfl rfl rfl rfl rfl rfl (by decide) (ex_k C (cs' := 0) (ss' := 0) (wF := (wX0 g a0 r0 q0_4 x8 ++ wX1 g a1 r1 q1_0 s1 ++ wX5 g q1_0 r2 s2 ++ wX2 g q0_4 r3 s3)) [15, 0, 1, 2, 3, 4, 5, 6, 7, 8, 9, 10, 11, 12, 13, 14] rfl rfl ?_)
        refine z_goto (pc := 96) C dX0_advise_96 (tgt := 113) (by decide) ?_
        exact z_vret C X dX0_advise_113 (by rw [← Option.some.inj h]; exact ⟨rfl, rfl⟩) (by decide) (by decide)
  · replace h := (ite_e h).2 hc
    refine z_aload_n (pc := 62) (x := a0) C dX0_advise_62 (i := 0) rfl rfl ?_
    refine z_iconst (pc := 63) C dX0_advise_63 ic_1 ?_
    refine z_iload_n (pc := 64) (x := v2) C dX0_advise_64 (i := 2) rfl rfl ?_
    replace h := ob_e h
    obtain ⟨x9, hx9, h⟩ := h
    refine z_callV (pc := 65) (As := [.int (1 : Int32), .int v2]) (rest := []) (wr := (wX1 g a1 r1 q1_0 s1 ++ wX5 g q1_0 r2 s2 ++ wX2 g q0_4 r3 s3)) C dX0_advise_65 ml_RX0_52 wv_X0_choose (m_X0_choose (a0 := a0) (r0 := r0) (q0_4 := q0_4) hg hx9) [0] [1, 2, 3, 4, 5, 6, 7, 8, 9, 10, 11, 12, 13, 14, 15] rfl rfl ⟨by decide, by decide⟩ (Nat.le_of_ble_eq_true rfl) ⟨by decide, by decide⟩ rfl rfl rfl rfl rfl rfl rfl (by decide) (ex_k C (cs' := 0) (ss' := 0) (wF := (wX0 g a0 r0 q0_4 x9 ++ wX1 g a1 r1 q1_0 s1 ++ wX5 g q1_0 r2 s2 ++ wX2 g q0_4 r3 s3)) [15, 0, 1, 2, 3, 4, 5, 6, 7, 8, 9, 10, 11, 12, 13, 14] rfl rfl ?_)
    refine z_goto (pc := 68) C dX0_advise_68 (tgt := 113) (by decide) ?_
    exact z_vret C X dX0_advise_113 (by rw [← Option.some.inj h]; exact ⟨rfl, rfl⟩) (by decide) (by decide)
def f_X0_advise (N : Nat) (s0 : Ob) (s1 : Ob) (s2 : Ob) (s3 : Ob) : Option (Ob × Ob) := (ob (f_X1_playableKinds N s1 s2) fun x1 => (ob (f_X0_firstKnown N s0 s1 s3 s2 x1) fun x2 => (if x2.1 = (-1 : Int32) then (ob (f_X0_chooseHint N s0 s1 s2 x2.2) fun x3 => (if (x3.1.1 5) < (1 : Int32) then (ob (f_X1_uselessKinds N s1 s2) fun x4 => (ob (f_X0_firstKnown N x3.1 s1 x3.2 s2 x4) fun x5 => (if x5.1 = (-1 : Int32) then (ob (f_X0_firstUntouched N x3.1 s1) fun x10 => (f_X0_advise_57 N s1 s2 x10 x3.1 x5.2)) else (f_X0_advise_57 N s1 s2 x5.1 x3.1 x5.2)))) else (some (x3.1, x3.2)))) else (ob (f_X0_choose N s0 (0 : Int32) x2.1) fun x11 => (some (x11, x2.2))))))
theorem m_X0_advise {g : Gp} {a0 : Nat} {a1 : Nat} {r0 : Nat → Nat} {q0_4 : Nat} {r1 : Nat → Nat} {q1_0 : Nat} {r2 : Nat → Nat} {r3 : Nat → Nat} {N : Nat} {s0 : Ob} {s1 : Ob} {s2 : Ob} {s3 : Ob} {res : Ob × Ob} (hg : Ok g) (h : f_X0_advise N s0 s1 s2 s3 = some res) : Ct g yX0_advise cX0_advise 3 none (zrm 5 124) [.ref a0, .ref a1] (wX0 g a0 r0 q0_4 s0 ++ wX1 g a1 r1 q1_0 s1 ++ wX5 g q1_0 r2 s2 ++ wX2 g q0_4 r3 s3) (exR none (wX0 g a0 r0 q0_4 res.1 ++ wX1 g a1 r1 q1_0 s1 ++ wX5 g q1_0 r2 s2 ++ wX2 g q0_4 r3 res.2)) := by
  refine ct_of rfl hg (by show _ ≤ _; exact Nat.le_of_ble_eq_true rfl) (fun K C X => ?_)
  show Zs K 0 0 (wX0 g a0 r0 q0_4 s0 ++ wX1 g a1 r1 q1_0 s1 ++ wX5 g q1_0 r2 s2 ++ wX2 g q0_4 r3 s3) [(0, .ref a0), (1, .ref a1)] 0 []
  unfold f_X0_advise at h
  refine z_aload_n (pc := 0) (x := a0) C dX0_advise_0 (i := 0) rfl rfl ?_
  refine z_aload_n (pc := 1) (x := a1) C dX0_advise_1 (i := 1) rfl rfl ?_
  refine z_aload_n (pc := 2) (x := a1) C dX0_advise_2 (i := 1) rfl rfl ?_
  replace h := ob_e h
  obtain ⟨x1, hx1, h⟩ := h
  refine z_callV (pc := 3) (As := []) (rest := [.ref a1, .ref a0]) (wr := (wX0 g a0 r0 q0_4 s0 ++ wX2 g q0_4 r3 s3)) C dX0_advise_3 ml_RX0_44 wv_X1_playableKinds (m_X1_playableKinds (a0 := a1) (r0 := r1) (q0_0 := q1_0) (r1 := r2) hg hx1) [1, 2, 3, 4, 5, 6, 7, 8, 9, 10, 11, 12, 13] [0, 14, 15] rfl rfl ⟨by decide, by decide⟩ (Nat.le_of_ble_eq_true rfl) ⟨by decide, by decide⟩ rfl rfl rfl rfl rfl rfl rfl (by decide) (ex_k C (cs' := 0) (ss' := 0) (wF := (wX0 g a0 r0 q0_4 s0 ++ wX1 g a1 r1 q1_0 s1 ++ wX5 g q1_0 r2 s2 ++ wX2 g q0_4 r3 s3)) [0, 3, 4, 5, 6, 7, 8, 9, 10, 11, 12, 13, 14, 15, 1, 2] rfl rfl ?_)
  replace h := ob_e h
  obtain ⟨x2, hx2, h⟩ := h
  refine z_callV (pc := 6) (As := [.ref a1, .int x1]) (rest := []) (wr := ([] : va_W)) C dX0_advise_6 ml_RX0_48 wv_X0_firstKnown (m_X0_firstKnown (a0 := a0) (a1 := a1) (r0 := r0) (q0_4 := q0_4) (r1 := r1) (q1_0 := q1_0) (r2 := r3) (r3 := r2) hg hx2) [0, 1, 2, 3, 4, 5, 6, 7, 8, 9, 14, 15, 10, 11, 12, 13] [] rfl rfl ⟨by decide, by decide⟩ (Nat.le_of_ble_eq_true rfl) ⟨by decide, by decide⟩ rfl rfl rfl rfl rfl rfl rfl (by decide) (ex_k C (cs' := 0) (ss' := 0) (wF := (wX0 g a0 r0 q0_4 s0 ++ wX1 g a1 r1 q1_0 s1 ++ wX5 g q1_0 r2 s2 ++ wX2 g q0_4 r3 x2.2)) [0, 1, 2, 3, 4, 5, 6, 7, 8, 9, 12, 13, 14, 15, 10, 11] rfl rfl ?_)
  refine z_istore_n (pc := 9) C dX0_advise_9 (i := 2) rfl (by decide) (lv' := [(2, .int x2.1), (0, .ref a0), (1, .ref a1)]) rfl ?_
  refine z_iload_n (pc := 10) (x := x2.1) C dX0_advise_10 (i := 2) rfl rfl ?_
  refine z_iconst (pc := 11) C dX0_advise_11 ic_m1 ?_
  refine z_icmp_eq (pc := 12) C dX0_advise_12 (tgt := 22) (by decide) (fun hc => ?_) (fun hc => ?_)
  · replace h := (ite_e h).1 hc
    refine z_aload_n (pc := 22) (x := a0) C dX0_advise_22 (i := 0) rfl rfl ?_
    refine z_aload_n (pc := 23) (x := a1) C dX0_advise_23 (i := 1) rfl rfl ?_
    replace h := ob_e h
    obtain ⟨x3, hx3, h⟩ := h
    refine z_callV (pc := 24) (As := [.ref a1]) (rest := []) (wr := ([] : va_W)) C dX0_advise_24 ml_RX0_56 wv_X0_chooseHint (m_X0_chooseHint (a0 := a0) (a1 := a1) (r0 := r0) (q0_4 := q0_4) (r1 := r1) (q1_0 := q1_0) (r2 := r2) (r3 := r3) hg hx3) [0, 1, 2, 3, 4, 5, 6, 7, 8, 9, 10, 11, 12, 13, 14, 15] [] rfl rfl ⟨by decide, by decide⟩ (Nat.le_of_ble_eq_true rfl) ⟨by decide, by decide⟩ rfl rfl rfl rfl rfl rfl rfl (by decide) (ex_k C (cs' := 0) (ss' := 0) (wF := (wX0 g a0 r0 q0_4 x3.1 ++ wX1 g a1 r1 q1_0 s1 ++ wX5 g q1_0 r2 s2 ++ wX2 g q0_4 r3 x3.2)) [0, 1, 2, 3, 4, 5, 6, 7, 8, 9, 10, 11, 12, 13, 14, 15] rfl rfl ?_)
    refine z_aload_n (pc := 27) (x := a0) C dX0_advise_27 (i := 0) rfl rfl ?_
    refine z_get (pc := 28) (v := .int (x3.1.1 5)) C 0 dX0_advise_28 fl_RX0_60 rfl rfl ?_
    refine z_iconst (pc := 31) C dX0_advise_31 ic_1 ?_
    refine z_icmp_lt (pc := 32) C dX0_advise_32 (tgt := 36) (by decide) (fun hc => ?_) (fun hc => ?_)
    · replace h := (ite_e h).1 hc
      refine z_aload_n (pc := 36) (x := a0) C dX0_advise_36 (i := 0) rfl rfl ?_
      refine z_aload_n (pc := 37) (x := a1) C dX0_advise_37 (i := 1) rfl rfl ?_
      refine z_aload_n (pc := 38) (x := a1) C dX0_advise_38 (i := 1) rfl rfl ?_
      replace h := ob_e h
      obtain ⟨x4, hx4, h⟩ := h
      refine z_callV (pc := 39) (As := []) (rest := [.ref a1, .ref a0]) (wr := (wX0 g a0 r0 q0_4 x3.1 ++ wX2 g q0_4 r3 x3.2)) C dX0_advise_39 ml_RX0_63 wv_X1_uselessKinds (m_X1_uselessKinds (a0 := a1) (r0 := r1) (q0_0 := q1_0) (r1 := r2) hg hx4) [1, 2, 3, 4, 5, 6, 7, 8, 9, 10, 11, 12, 13] [0, 14, 15] rfl rfl ⟨by decide, by decide⟩ (Nat.le_of_ble_eq_true rfl) ⟨by decide, by decide⟩ rfl rfl rfl rfl rfl rfl rfl (by decide) (ex_k C (cs' := 0) (ss' := 0) (wF := (wX0 g a0 r0 q0_4 x3.1 ++ wX1 g a1 r1 q1_0 s1 ++ wX5 g q1_0 r2 s2 ++ wX2 g q0_4 r3 x3.2)) [0, 3, 4, 5, 6, 7, 8, 9, 10, 11, 12, 13, 14, 15, 1, 2] rfl rfl ?_)
      replace h := ob_e h
      obtain ⟨x5, hx5, h⟩ := h
      refine z_callV (pc := 42) (As := [.ref a1, .int x4]) (rest := []) (wr := ([] : va_W)) C dX0_advise_42 ml_RX0_48 wv_X0_firstKnown (m_X0_firstKnown (a0 := a0) (a1 := a1) (r0 := r0) (q0_4 := q0_4) (r1 := r1) (q1_0 := q1_0) (r2 := r3) (r3 := r2) hg hx5) [0, 1, 2, 3, 4, 5, 6, 7, 8, 9, 14, 15, 10, 11, 12, 13] [] rfl rfl ⟨by decide, by decide⟩ (Nat.le_of_ble_eq_true rfl) ⟨by decide, by decide⟩ rfl rfl rfl rfl rfl rfl rfl (by decide) (ex_k C (cs' := 0) (ss' := 0) (wF := (wX0 g a0 r0 q0_4 x3.1 ++ wX1 g a1 r1 q1_0 s1 ++ wX5 g q1_0 r2 s2 ++ wX2 g q0_4 r3 x5.2)) [0, 1, 2, 3, 4, 5, 6, 7, 8, 9, 12, 13, 14, 15, 10, 11] rfl rfl ?_)
      refine z_istore_n (pc := 45) C dX0_advise_45 (i := 2) rfl (by decide) (lv' := [(2, .int x5.1), (0, .ref a0), (1, .ref a1)]) rfl ?_
      refine z_iload_n (pc := 46) (x := x5.1) C dX0_advise_46 (i := 2) rfl rfl ?_
      refine z_iconst (pc := 47) C dX0_advise_47 ic_m1 ?_
      refine z_icmp_ne (pc := 48) C dX0_advise_48 (tgt := 57) (by decide) (fun hc => ?_) (fun hc => ?_)
      · replace h := (ite_e h).2 hc
        refine z_lv (lv' := [(0, .ref a0), (1, .ref a1), (2, .int x5.1)]) [1, 2, 0] rfl ?_
        exact m_X0_advise_57 (a0 := a0) (a1 := a1) (r0 := r0) (q0_4 := q0_4) (r1 := r1) (q1_0 := q1_0) (r2 := r2) (r3 := r3) hg C X x5.1 x3.1 x5.2 h
      · replace h := (ite_e h).1 hc
        refine z_aload_n (pc := 51) (x := a0) C dX0_advise_51 (i := 0) rfl rfl ?_
        refine z_aload_n (pc := 52) (x := a1) C dX0_advise_52 (i := 1) rfl rfl ?_
        replace h := ob_e h
        obtain ⟨x10, hx10, h⟩ := h
        refine z_callV (pc := 53) (As := [.ref a1]) (rest := []) (wr := (wX5 g q1_0 r2 s2 ++ wX2 g q0_4 r3 x5.2)) C dX0_advise_53 ml_RX0_66 wv_X0_firstUntouched (m_X0_firstUntouched (a0 := a0) (a1 := a1) (r0 := r0) (q0_4 := q0_4) (r1 := r1) (q1_0 := q1_0) hg hx10) [0, 1, 2, 3, 4, 5, 6, 7, 8, 9] [10, 11, 12, 13, 14, 15] rfl rfl ⟨by decide, by decide⟩ (Nat.le_of_ble_eq_true rfl) ⟨by decide, by decide⟩ rfl rfl rfl rfl rfl rfl rfl (by decide) (ex_k C (cs' := 0) (ss' := 0) (wF := (wX0 g a0 r0 q0_4 x3.1 ++ wX1 g a1 r1 q1_0 s1 ++ wX5 g q1_0 r2 s2 ++ wX2 g q0_4 r3 x5.2)) [6, 7, 8, 9, 10, 11, 12, 13, 14, 15, 0, 1, 2, 3, 4, 5] rfl rfl ?_)
        refine z_istore_n (pc := 56) C dX0_advise_56 (i := 2) rfl (by decide) (lv' := [(2, .int x10), (0, .ref a0), (1, .ref a1)]) rfl ?_
        refine z_lv (lv' := [(0, .ref a0), (1, .ref a1), (2, .int x10)]) [1, 2, 0] rfl ?_
        exact m_X0_advise_57 (a0 := a0) (a1 := a1) (r0 := r0) (q0_4 := q0_4) (r1 := r1) (q1_0 := q1_0) (r2 := r2) (r3 := r3) hg C X x10 x3.1 x5.2 h
    · replace h := (ite_e h).2 hc
      exact z_vret C X dX0_advise_35 (by rw [← Option.some.inj h]; exact ⟨rfl, rfl⟩) (by decide) (by decide)
  · replace h := (ite_e h).2 hc
    refine z_aload_n (pc := 15) (x := a0) C dX0_advise_15 (i := 0) rfl rfl ?_
    refine z_iconst (pc := 16) C dX0_advise_16 ic_0 ?_
    refine z_iload_n (pc := 17) (x := x2.1) C dX0_advise_17 (i := 2) rfl rfl ?_
    replace h := ob_e h
    obtain ⟨x11, hx11, h⟩ := h
    refine z_callV (pc := 18) (As := [.int (0 : Int32), .int x2.1]) (rest := []) (wr := (wX1 g a1 r1 q1_0 s1 ++ wX5 g q1_0 r2 s2 ++ wX2 g q0_4 r3 x2.2)) C dX0_advise_18 ml_RX0_52 wv_X0_choose (m_X0_choose (a0 := a0) (r0 := r0) (q0_4 := q0_4) hg hx11) [0] [1, 2, 3, 4, 5, 6, 7, 8, 9, 10, 11, 12, 13, 14, 15] rfl rfl ⟨by decide, by decide⟩ (Nat.le_of_ble_eq_true rfl) ⟨by decide, by decide⟩ rfl rfl rfl rfl rfl rfl rfl (by decide) (ex_k C (cs' := 0) (ss' := 0) (wF := (wX0 g a0 r0 q0_4 x11 ++ wX1 g a1 r1 q1_0 s1 ++ wX5 g q1_0 r2 s2 ++ wX2 g q0_4 r3 x2.2)) [15, 0, 1, 2, 3, 4, 5, 6, 7, 8, 9, 10, 11, 12, 13, 14] rfl rfl ?_)
    exact z_vret C X dX0_advise_21 (by rw [← Option.some.inj h]; exact ⟨rfl, rfl⟩) (by decide) (by decide)
