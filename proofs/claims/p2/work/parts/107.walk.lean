/-! OWN, written by wip/whole/tools/mkall.py: what each method does to its cells, and the walk that shows it -/
def f_X7_pile_18 (N : Nat) (s0 : Ob) (s1 : Ob) (s2 : Ob) (p1 : Int32)   : Option (Int32) := none
theorem m_X7_pile_18 {K : Kt} {g : Gp} {a0 : Nat} {r0 : Nat → Nat} {r1 : Nat → Nat} {q1_0 : Nat} {r2 : Nat → Nat} {N : Nat} {s0 : Ob} {s1 : Ob} {s2 : Ob} {p1 : Int32} {res : Int32} (hg : Ok g) (C : Cx K g cX7_pile RX7 2 (zrm 1 21)) (X : Rx K (exR (some (.int res)) (wX7 g a0 r0 s0 ++ wX1 g (r0 3) r1 q1_0 s1 ++ wX5 g q1_0 r2 s2)) 0 0 (some .int))  (h : f_X7_pile_18 N s0 s1 s2 p1  = some res) : Zs K 0 0 (wX7 g a0 r0 s0 ++ wX1 g (r0 3) r1 q1_0 s1 ++ wX5 g q1_0 r2 s2) [] 18 [] := by
  unfold f_X7_pile_18 at h
  exact nomatch h
def f_X7_pile (N : Nat) (s0 : Ob) (s1 : Ob) (s2 : Ob) (p1 : Int32) : Option (Int32) := (if p1 < 0 then (f_X7_pile_18 N s0 s1 s2 p1 ) else (if p1 < (s2.1 0) then (ob (f_X1_topOf N s1 p1) fun x1 => (some x1)) else (f_X7_pile_18 N s0 s1 s2 p1 )))
theorem m_X7_pile {g : Gp} {a0 : Nat} {r0 : Nat → Nat} {r1 : Nat → Nat} {q1_0 : Nat} {r2 : Nat → Nat} {N : Nat} {s0 : Ob} {s1 : Ob} {s2 : Ob} {p1 : Int32} {res : Int32} (hg : Ok g) (h : f_X7_pile N s0 s1 s2 p1 = some res) : Ct g yX7_pile cX7_pile 2 (some .int) (zrm 1 21) [.ref a0, .int p1] (wX7 g a0 r0 s0 ++ wX1 g (r0 3) r1 q1_0 s1 ++ wX5 g q1_0 r2 s2) (exR (some (.int res)) (wX7 g a0 r0 s0 ++ wX1 g (r0 3) r1 q1_0 s1 ++ wX5 g q1_0 r2 s2)) := by
  refine ct_of rfl hg (by show _ ≤ _; exact Nat.le_of_ble_eq_true rfl) (fun K C X => ?_)
  show Zs K 0 0 (wX7 g a0 r0 s0 ++ wX1 g (r0 3) r1 q1_0 s1 ++ wX5 g q1_0 r2 s2) [(0, .ref a0), (1, .int p1)] 0 []
  unfold f_X7_pile at h
  refine z_iload_n (pc := 0) (x := p1) C dX7_pile_0 (i := 1) rfl rfl ?_
  refine z_if_lt (pc := 1) C dX7_pile_1 (tgt := 18) (by decide) (fun hc => ?_) (fun hc => ?_)
  · replace h := (ite_e h).1 hc
    refine z_lv (lv' := []) [] rfl ?_
    exact m_X7_pile_18 (a0 := a0) (r0 := r0) (r1 := r1) (q1_0 := q1_0) (r2 := r2) hg C X  h
  · replace h := (ite_e h).2 hc
    refine z_iload_n (pc := 4) (x := p1) C dX7_pile_4 (i := 1) rfl rfl ?_
    refine z_aload_n (pc := 5) (x := a0) C dX7_pile_5 (i := 0) rfl rfl ?_
    refine z_get (pc := 6) (v := .ref (r0 3)) C 0 dX7_pile_6 fl_RX7_67 rfl rfl ?_
    refine z_get (pc := 9) (v := .ref q1_0) C 4 dX7_pile_9 fl_RX7_100 rfl rfl ?_
    refine z_get (pc := 12) (v := .int (s2.1 0)) C 13 dX7_pile_12 fl_RX7_107 rfl rfl ?_
    refine z_icmp_lt (pc := 15) C dX7_pile_15 (tgt := 28) (by decide) (fun hc => ?_) (fun hc => ?_)
    · replace h := (ite_e h).1 hc
      refine z_aload_n (pc := 28) (x := a0) C dX7_pile_28 (i := 0) rfl rfl ?_
      refine z_get (pc := 29) (v := .ref (r0 3)) C 0 dX7_pile_29 fl_RX7_67 rfl rfl ?_
      refine z_iload_n (pc := 32) (x := p1) C dX7_pile_32 (i := 1) rfl rfl ?_
      replace h := ob_e h
      obtain ⟨x1, hx1, h⟩ := h
      refine z_callV (pc := 33) (As := [.int p1]) (rest := []) (wr := (wX7 g a0 r0 s0 ++ wX5 g q1_0 r2 s2)) C dX7_pile_33 ml_RX7_160 wv_X1_topOf (m_X1_topOf (a0 := (r0 3)) (r0 := r1) (q0_0 := q1_0) hg hx1) [4, 5, 6, 7, 8, 9, 10, 11, 12] [0, 1, 2, 3, 13, 14, 15, 16] rfl rfl ⟨by decide, by decide⟩ (Nat.le_of_ble_eq_true rfl) ⟨by decide, by decide⟩ rfl rfl rfl rfl rfl rfl rfl (by decide) (ex_k C (cs' := 0) (ss' := 0) (wF := (wX7 g a0 r0 s0 ++ wX1 g (r0 3) r1 q1_0 s1 ++ wX5 g q1_0 r2 s2)) [0, 1, 2, 3, 8, 9, 10, 11, 12, 13, 14, 15, 16, 4, 5, 6, 7] rfl rfl ?_)
      exact z_iret C X dX7_pile_36 (by rw [← Option.some.inj h]; exact ⟨rfl, rfl⟩) (by decide) (by decide)
    · replace h := (ite_e h).2 hc
      refine z_lv (lv' := []) [] rfl ?_
      exact m_X7_pile_18 (a0 := a0) (r0 := r0) (r1 := r1) (q1_0 := q1_0) (r2 := r2) hg C X  h
def f_X7_needPlayer_18 (N : Nat) (s0 : Ob) (s1 : Ob) (s2 : Ob) (p1 : Int32)   : Option (Unit) := none
theorem m_X7_needPlayer_18 {K : Kt} {g : Gp} {a0 : Nat} {r0 : Nat → Nat} {r1 : Nat → Nat} {q1_0 : Nat} {r2 : Nat → Nat} {N : Nat} {s0 : Ob} {s1 : Ob} {s2 : Ob} {p1 : Int32} {res : Unit} (hg : Ok g) (C : Cx K g cX7_needPlayer RX7 2 (zrm 0 0)) (X : Rx K (exR none (wX7 g a0 r0 s0 ++ wX1 g (r0 3) r1 q1_0 s1 ++ wX5 g q1_0 r2 s2)) 0 0 none)  (h : f_X7_needPlayer_18 N s0 s1 s2 p1  = some res) : Zs K 0 0 (wX7 g a0 r0 s0 ++ wX1 g (r0 3) r1 q1_0 s1 ++ wX5 g q1_0 r2 s2) [] 18 [] := by
  unfold f_X7_needPlayer_18 at h
  exact nomatch h
def f_X7_needPlayer (N : Nat) (s0 : Ob) (s1 : Ob) (s2 : Ob) (p1 : Int32) : Option (Unit) := (if p1 < 0 then (f_X7_needPlayer_18 N s0 s1 s2 p1 ) else (if p1 < (s2.1 2) then (some ()) else (f_X7_needPlayer_18 N s0 s1 s2 p1 )))
theorem m_X7_needPlayer {g : Gp} {a0 : Nat} {r0 : Nat → Nat} {r1 : Nat → Nat} {q1_0 : Nat} {r2 : Nat → Nat} {N : Nat} {s0 : Ob} {s1 : Ob} {s2 : Ob} {p1 : Int32} {res : Unit} (hg : Ok g) (h : f_X7_needPlayer N s0 s1 s2 p1 = some res) : Ct g yX7_needPlayer cX7_needPlayer 2 none (zrm 0 0) [.ref a0, .int p1] (wX7 g a0 r0 s0 ++ wX1 g (r0 3) r1 q1_0 s1 ++ wX5 g q1_0 r2 s2) (exR none (wX7 g a0 r0 s0 ++ wX1 g (r0 3) r1 q1_0 s1 ++ wX5 g q1_0 r2 s2)) := by
  refine ct_of rfl hg (by show _ ≤ _; exact Nat.le_of_ble_eq_true rfl) (fun K C X => ?_)
  show Zs K 0 0 (wX7 g a0 r0 s0 ++ wX1 g (r0 3) r1 q1_0 s1 ++ wX5 g q1_0 r2 s2) [(0, .ref a0), (1, .int p1)] 0 []
  unfold f_X7_needPlayer at h
  refine z_iload_n (pc := 0) (x := p1) C dX7_needPlayer_0 (i := 1) rfl rfl ?_
  refine z_if_lt (pc := 1) C dX7_needPlayer_1 (tgt := 18) (by decide) (fun hc => ?_) (fun hc => ?_)
  · replace h := (ite_e h).1 hc
    refine z_lv (lv' := []) [] rfl ?_
    exact m_X7_needPlayer_18 (a0 := a0) (r0 := r0) (r1 := r1) (q1_0 := q1_0) (r2 := r2) hg C X  h
  · replace h := (ite_e h).2 hc
    refine z_iload_n (pc := 4) (x := p1) C dX7_needPlayer_4 (i := 1) rfl rfl ?_
    refine z_aload_n (pc := 5) (x := a0) C dX7_needPlayer_5 (i := 0) rfl rfl ?_
    refine z_get (pc := 6) (v := .ref (r0 3)) C 0 dX7_needPlayer_6 fl_RX7_67 rfl rfl ?_
    refine z_get (pc := 9) (v := .ref q1_0) C 4 dX7_needPlayer_9 fl_RX7_100 rfl rfl ?_
    refine z_get (pc := 12) (v := .int (s2.1 2)) C 13 dX7_needPlayer_12 fl_RX7_113 rfl rfl ?_
    refine z_icmp_lt (pc := 15) C dX7_needPlayer_15 (tgt := 29) (by decide) (fun hc => ?_) (fun hc => ?_)
    · replace h := (ite_e h).1 hc
      exact z_vret C X dX7_needPlayer_29 ⟨rfl, rfl⟩ (by decide) (by decide)
    · replace h := (ite_e h).2 hc
      refine z_lv (lv' := []) [] rfl ?_
      exact m_X7_needPlayer_18 (a0 := a0) (r0 := r0) (r1 := r1) (q1_0 := q1_0) (r2 := r2) hg C X  h
def f_X7_hand (N : Nat) (s0 : Ob) (s1 : Ob) (s2 : Ob) (p1 : Int32) : Option (Int32) := (ob (f_X7_needPlayer N s0 s1 s2 p1) fun x1 => (ob (f_X1_sizeOf N s1 p1) fun x2 => (some x2)))
theorem m_X7_hand {g : Gp} {a0 : Nat} {r0 : Nat → Nat} {r1 : Nat → Nat} {q1_0 : Nat} {r2 : Nat → Nat} {N : Nat} {s0 : Ob} {s1 : Ob} {s2 : Ob} {p1 : Int32} {res : Int32} (hg : Ok g) (h : f_X7_hand N s0 s1 s2 p1 = some res) : Ct g yX7_hand cX7_hand 2 (some .int) (zrm 1 21) [.ref a0, .int p1] (wX7 g a0 r0 s0 ++ wX1 g (r0 3) r1 q1_0 s1 ++ wX5 g q1_0 r2 s2) (exR (some (.int res)) (wX7 g a0 r0 s0 ++ wX1 g (r0 3) r1 q1_0 s1 ++ wX5 g q1_0 r2 s2)) := by
  refine ct_of rfl hg (by show _ ≤ _; exact Nat.le_of_ble_eq_true rfl) (fun K C X => ?_)
  show Zs K 0 0 (wX7 g a0 r0 s0 ++ wX1 g (r0 3) r1 q1_0 s1 ++ wX5 g q1_0 r2 s2) [(0, .ref a0), (1, .int p1)] 0 []
  unfold f_X7_hand at h
  refine z_aload_n (pc := 0) (x := a0) C dX7_hand_0 (i := 0) rfl rfl ?_
  refine z_iload_n (pc := 1) (x := p1) C dX7_hand_1 (i := 1) rfl rfl ?_
  replace h := ob_e h
  obtain ⟨x1, hx1, h⟩ := h
  refine z_callV (pc := 2) (As := [.int p1]) (rest := []) (wr := ([] : va_W)) C dX7_hand_2 ml_RX7_164 wv_X7_needPlayer (m_X7_needPlayer (a0 := a0) (r0 := r0) (r1 := r1) (q1_0 := q1_0) (r2 := r2) hg hx1) [0, 1, 2, 3, 4, 5, 6, 7, 8, 9, 10, 11, 12, 13, 14, 15, 16] [] rfl rfl ⟨by decide, by decide⟩ (Nat.le_of_ble_eq_true rfl) ⟨by decide, by decide⟩ rfl rfl rfl rfl rfl rfl rfl (by decide) (ex_k C (cs' := 0) (ss' := 0) (wF := (wX7 g a0 r0 s0 ++ wX1 g (r0 3) r1 q1_0 s1 ++ wX5 g q1_0 r2 s2)) [0, 1, 2, 3, 4, 5, 6, 7, 8, 9, 10, 11, 12, 13, 14, 15, 16] rfl rfl ?_)
  refine z_aload_n (pc := 5) (x := a0) C dX7_hand_5 (i := 0) rfl rfl ?_
  refine z_get (pc := 6) (v := .ref (r0 3)) C 0 dX7_hand_6 fl_RX7_67 rfl rfl ?_
  refine z_iload_n (pc := 9) (x := p1) C dX7_hand_9 (i := 1) rfl rfl ?_
  replace h := ob_e h
  obtain ⟨x2, hx2, h⟩ := h
  refine z_callV (pc := 10) (As := [.int p1]) (rest := []) (wr := (wX7 g a0 r0 s0 ++ wX5 g q1_0 r2 s2)) C dX7_hand_10 ml_RX7_167 wv_X1_sizeOf (m_X1_sizeOf (a0 := (r0 3)) (r0 := r1) (q0_0 := q1_0) hg hx2) [4, 5, 6, 7, 8, 9, 10, 11, 12] [0, 1, 2, 3, 13, 14, 15, 16] rfl rfl ⟨by decide, by decide⟩ (Nat.le_of_ble_eq_true rfl) ⟨by decide, by decide⟩ rfl rfl rfl rfl rfl rfl rfl (by decide) (ex_k C (cs' := 0) (ss' := 0) (wF := (wX7 g a0 r0 s0 ++ wX1 g (r0 3) r1 q1_0 s1 ++ wX5 g q1_0 r2 s2)) [0, 1, 2, 3, 8, 9, 10, 11, 12, 13, 14, 15, 16, 4, 5, 6, 7] rfl rfl ?_)
  exact z_iret C X dX7_hand_13 (by rw [← Option.some.inj h]; exact ⟨rfl, rfl⟩) (by decide) (by decide)
def f_X7_needCard (N : Nat) (s0 : Ob) (s1 : Ob) (s2 : Ob) (p1 : Int32) (p2 : Int32) : Option (Int32) := (ob (f_X7_needPlayer N s0 s1 s2 p1) fun x1 => (ob (f_X1_cardAt N s1 p1 p2) fun x2 => (if x2 = (-1 : Int32) then none else (some x2))))
theorem m_X7_needCard {g : Gp} {a0 : Nat} {r0 : Nat → Nat} {r1 : Nat → Nat} {q1_0 : Nat} {r2 : Nat → Nat} {N : Nat} {s0 : Ob} {s1 : Ob} {s2 : Ob} {p1 : Int32} {p2 : Int32} {res : Int32} (hg : Ok g) (h : f_X7_needCard N s0 s1 s2 p1 p2 = some res) : Ct g yX7_needCard cX7_needCard 4 (some .int) (zrm 1 23) [.ref a0, .int p1, .int p2] (wX7 g a0 r0 s0 ++ wX1 g (r0 3) r1 q1_0 s1 ++ wX5 g q1_0 r2 s2) (exR (some (.int res)) (wX7 g a0 r0 s0 ++ wX1 g (r0 3) r1 q1_0 s1 ++ wX5 g q1_0 r2 s2)) := by
  refine ct_of rfl hg (by show _ ≤ _; exact Nat.le_of_ble_eq_true rfl) (fun K C X => ?_)
  show Zs K 0 0 (wX7 g a0 r0 s0 ++ wX1 g (r0 3) r1 q1_0 s1 ++ wX5 g q1_0 r2 s2) [(0, .ref a0), (1, .int p1), (2, .int p2)] 0 []
  unfold f_X7_needCard at h
  refine z_aload_n (pc := 0) (x := a0) C dX7_needCard_0 (i := 0) rfl rfl ?_
  refine z_iload_n (pc := 1) (x := p1) C dX7_needCard_1 (i := 1) rfl rfl ?_
  replace h := ob_e h
  obtain ⟨x1, hx1, h⟩ := h
  refine z_callV (pc := 2) (As := [.int p1]) (rest := []) (wr := ([] : va_W)) C dX7_needCard_2 ml_RX7_164 wv_X7_needPlayer (m_X7_needPlayer (a0 := a0) (r0 := r0) (r1 := r1) (q1_0 := q1_0) (r2 := r2) hg hx1) [0, 1, 2, 3, 4, 5, 6, 7, 8, 9, 10, 11, 12, 13, 14, 15, 16] [] rfl rfl ⟨by decide, by decide⟩ (Nat.le_of_ble_eq_true rfl) ⟨by decide, by decide⟩ rfl rfl rfl rfl rfl rfl rfl (by decide) (ex_k C (cs' := 0) (ss' := 0) (wF := (wX7 g a0 r0 s0 ++ wX1 g (r0 3) r1 q1_0 s1 ++ wX5 g q1_0 r2 s2)) [0, 1, 2, 3, 4, 5, 6, 7, 8, 9, 10, 11, 12, 13, 14, 15, 16] rfl rfl ?_)
  refine z_aload_n (pc := 5) (x := a0) C dX7_needCard_5 (i := 0) rfl rfl ?_
  refine z_get (pc := 6) (v := .ref (r0 3)) C 0 dX7_needCard_6 fl_RX7_67 rfl rfl ?_
  refine z_iload_n (pc := 9) (x := p1) C dX7_needCard_9 (i := 1) rfl rfl ?_
  refine z_iload_n (pc := 10) (x := p2) C dX7_needCard_10 (i := 2) rfl rfl ?_
  replace h := ob_e h
  obtain ⟨x2, hx2, h⟩ := h
  refine z_callV (pc := 11) (As := [.int p1, .int p2]) (rest := []) (wr := (wX7 g a0 r0 s0 ++ wX5 g q1_0 r2 s2)) C dX7_needCard_11 ml_RX7_354 wv_X1_cardAt (m_X1_cardAt (a0 := (r0 3)) (r0 := r1) (q0_0 := q1_0) hg hx2) [4, 5, 6, 7, 8, 9, 10, 11, 12] [0, 1, 2, 3, 13, 14, 15, 16] rfl rfl ⟨by decide, by decide⟩ (Nat.le_of_ble_eq_true rfl) ⟨by decide, by decide⟩ rfl rfl rfl rfl rfl rfl rfl (by decide) (ex_k C (cs' := 0) (ss' := 0) (wF := (wX7 g a0 r0 s0 ++ wX1 g (r0 3) r1 q1_0 s1 ++ wX5 g q1_0 r2 s2)) [0, 1, 2, 3, 8, 9, 10, 11, 12, 13, 14, 15, 16, 4, 5, 6, 7] rfl rfl ?_)
  refine z_istore_n (pc := 14) C dX7_needCard_14 (i := 3) rfl (by decide) (lv' := [(3, .int x2), (0, .ref a0), (1, .int p1), (2, .int p2)]) rfl ?_
  refine z_iload_n (pc := 15) (x := x2) C dX7_needCard_15 (i := 3) rfl rfl ?_
  refine z_iconst (pc := 16) C dX7_needCard_16 ic_m1 ?_
  refine z_icmp_ne (pc := 17) C dX7_needCard_17 (tgt := 31) (by decide) (fun hc => ?_) (fun hc => ?_)
  · replace h := (ite_e h).2 hc
    refine z_iload_n (pc := 31) (x := x2) C dX7_needCard_31 (i := 3) rfl rfl ?_
    exact z_iret C X dX7_needCard_32 (by rw [← Option.some.inj h]; exact ⟨rfl, rfl⟩) (by decide) (by decide)
  · replace h := (ite_e h).1 hc
    exact nomatch h
def f_X7_card (N : Nat) (s0 : Ob) (s1 : Ob) (s2 : Ob) (p1 : Int32) (p2 : Int32) : Option (Int32) := (ob (f_X7_needCard N s0 s1 s2 p1 p2) fun x1 => (ob (f_X1_kindOf N s1 s2 x1) fun x2 => (ob (f_X7_codeOf N x2) fun x3 => (some x3))))
theorem m_X7_card {g : Gp} {a0 : Nat} {r0 : Nat → Nat} {r1 : Nat → Nat} {q1_0 : Nat} {r2 : Nat → Nat} {N : Nat} {s0 : Ob} {s1 : Ob} {s2 : Ob} {p1 : Int32} {p2 : Int32} {res : Int32} (hg : Ok g) (h : f_X7_card N s0 s1 s2 p1 p2 = some res) : Ct g yX7_card cX7_card 3 (some .int) (zrm 2 46) [.ref a0, .int p1, .int p2] (wX7 g a0 r0 s0 ++ wX1 g (r0 3) r1 q1_0 s1 ++ wX5 g q1_0 r2 s2) (exR (some (.int res)) (wX7 g a0 r0 s0 ++ wX1 g (r0 3) r1 q1_0 s1 ++ wX5 g q1_0 r2 s2)) := by
  refine ct_of rfl hg (by show _ ≤ _; exact Nat.le_of_ble_eq_true rfl) (fun K C X => ?_)
  show Zs K 0 0 (wX7 g a0 r0 s0 ++ wX1 g (r0 3) r1 q1_0 s1 ++ wX5 g q1_0 r2 s2) [(0, .ref a0), (1, .int p1), (2, .int p2)] 0 []
  unfold f_X7_card at h
  refine z_aload_n (pc := 0) (x := a0) C dX7_card_0 (i := 0) rfl rfl ?_
  refine z_get (pc := 1) (v := .ref (r0 3)) C 0 dX7_card_1 fl_RX7_67 rfl rfl ?_
  refine z_aload_n (pc := 4) (x := a0) C dX7_card_4 (i := 0) rfl rfl ?_
  refine z_iload_n (pc := 5) (x := p1) C dX7_card_5 (i := 1) rfl rfl ?_
  refine z_iload_n (pc := 6) (x := p2) C dX7_card_6 (i := 2) rfl rfl ?_
  replace h := ob_e h
  obtain ⟨x1, hx1, h⟩ := h
  refine z_callV (pc := 7) (As := [.int p1, .int p2]) (rest := [.ref (r0 3)]) (wr := ([] : va_W)) C dX7_card_7 ml_RX7_170 wv_X7_needCard (m_X7_needCard (a0 := a0) (r0 := r0) (r1 := r1) (q1_0 := q1_0) (r2 := r2) hg hx1) [0, 1, 2, 3, 4, 5, 6, 7, 8, 9, 10, 11, 12, 13, 14, 15, 16] [] rfl rfl ⟨by decide, by decide⟩ (Nat.le_of_ble_eq_true rfl) ⟨by decide, by decide⟩ rfl rfl rfl rfl rfl rfl rfl (by decide) (ex_k C (cs' := 0) (ss' := 0) (wF := (wX7 g a0 r0 s0 ++ wX1 g (r0 3) r1 q1_0 s1 ++ wX5 g q1_0 r2 s2)) [0, 1, 2, 3, 4, 5, 6, 7, 8, 9, 10, 11, 12, 13, 14, 15, 16] rfl rfl ?_)
  replace h := ob_e h
  obtain ⟨x2, hx2, h⟩ := h
  refine z_callV (pc := 10) (As := [.int x1]) (rest := []) (wr := (wX7 g a0 r0 s0)) C dX7_card_10 ml_RX7_174 wv_X1_kindOf (m_X1_kindOf (a0 := (r0 3)) (r0 := r1) (q0_0 := q1_0) (r1 := r2) hg hx2) [4, 5, 6, 7, 8, 9, 10, 11, 12, 13, 14, 15, 16] [0, 1, 2, 3] rfl rfl ⟨by decide, by decide⟩ (Nat.le_of_ble_eq_true rfl) ⟨by decide, by decide⟩ rfl rfl rfl rfl rfl rfl rfl (by decide) (ex_k C (cs' := 0) (ss' := 0) (wF := (wX7 g a0 r0 s0 ++ wX1 g (r0 3) r1 q1_0 s1 ++ wX5 g q1_0 r2 s2)) [0, 1, 2, 3, 4, 5, 6, 7, 8, 9, 10, 11, 12, 13, 14, 15, 16] rfl rfl ?_)
  replace h := ob_e h
  obtain ⟨x3, hx3, h⟩ := h
  refine z_callS (pc := 13) (As := [.int x2]) (rest := []) (wr := (wX7 g a0 r0 s0 ++ wX1 g (r0 3) r1 q1_0 s1 ++ wX5 g q1_0 r2 s2)) C dX7_card_13 ml_RX7_177 wt_X7_codeOf (m_X7_codeOf hg hx3) [] [0, 1, 2, 3, 4, 5, 6, 7, 8, 9, 10, 11, 12, 13, 14, 15, 16] rfl rfl ⟨by decide, by decide⟩ (Nat.le_of_ble_eq_true rfl) ⟨by decide, by decide⟩ rfl rfl rfl rfl (by decide) (ex_k C (cs' := 0) (ss' := 0) (wF := (wX7 g a0 r0 s0 ++ wX1 g (r0 3) r1 q1_0 s1 ++ wX5 g q1_0 r2 s2)) [0, 1, 2, 3, 4, 5, 6, 7, 8, 9, 10, 11, 12, 13, 14, 15, 16] rfl rfl ?_)
  exact z_iret C X dX7_card_16 (by rw [← Option.some.inj h]; exact ⟨rfl, rfl⟩) (by decide) (by decide)
def f_X7_drawn (N : Nat) (s0 : Ob) (s1 : Ob) (s2 : Ob) (p1 : Int32) : Option (Int32) := (if p1 < 0 then (some (-1 : Int32)) else (if p1 < ((s2.1 7) - (s1.1 1)) then (ob (f_X1_kindOf N s1 s2 ((s1.1 1) + p1)) fun x1 => (ob (f_X7_codeOf N x1) fun x2 => (some x2))) else (some (-1 : Int32))))
theorem m_X7_drawn {g : Gp} {a0 : Nat} {r0 : Nat → Nat} {r1 : Nat → Nat} {q1_0 : Nat} {r2 : Nat → Nat} {N : Nat} {s0 : Ob} {s1 : Ob} {s2 : Ob} {p1 : Int32} {res : Int32} (hg : Ok g) (h : f_X7_drawn N s0 s1 s2 p1 = some res) : Ct g yX7_drawn cX7_drawn 2 (some .int) (zrm 1 21) [.ref a0, .int p1] (wX7 g a0 r0 s0 ++ wX1 g (r0 3) r1 q1_0 s1 ++ wX5 g q1_0 r2 s2) (exR (some (.int res)) (wX7 g a0 r0 s0 ++ wX1 g (r0 3) r1 q1_0 s1 ++ wX5 g q1_0 r2 s2)) := by
  refine ct_of rfl hg (by show _ ≤ _; exact Nat.le_of_ble_eq_true rfl) (fun K C X => ?_)
  show Zs K 0 0 (wX7 g a0 r0 s0 ++ wX1 g (r0 3) r1 q1_0 s1 ++ wX5 g q1_0 r2 s2) [(0, .ref a0), (1, .int p1)] 0 []
  unfold f_X7_drawn at h
  refine z_iload_n (pc := 0) (x := p1) C dX7_drawn_0 (i := 1) rfl rfl ?_
  refine z_if_lt (pc := 1) C dX7_drawn_1 (tgt := 26) (by decide) (fun hc => ?_) (fun hc => ?_)
  · replace h := (ite_e h).1 hc
    refine z_iconst (pc := 26) C dX7_drawn_26 ic_m1 ?_
    exact z_iret C X dX7_drawn_27 (by rw [← Option.some.inj h]; exact ⟨rfl, rfl⟩) (by decide) (by decide)
  · replace h := (ite_e h).2 hc
    refine z_iload_n (pc := 4) (x := p1) C dX7_drawn_4 (i := 1) rfl rfl ?_
    refine z_aload_n (pc := 5) (x := a0) C dX7_drawn_5 (i := 0) rfl rfl ?_
    refine z_get (pc := 6) (v := .ref (r0 3)) C 0 dX7_drawn_6 fl_RX7_67 rfl rfl ?_
    refine z_get (pc := 9) (v := .ref q1_0) C 4 dX7_drawn_9 fl_RX7_100 rfl rfl ?_
    refine z_get (pc := 12) (v := .int (s2.1 7)) C 13 dX7_drawn_12 fl_RX7_101 rfl rfl ?_
    refine z_aload_n (pc := 15) (x := a0) C dX7_drawn_15 (i := 0) rfl rfl ?_
    refine z_get (pc := 16) (v := .ref (r0 3)) C 0 dX7_drawn_16 fl_RX7_67 rfl rfl ?_
    refine z_get (pc := 19) (v := .int (s1.1 1)) C 4 dX7_drawn_19 fl_RX7_119 rfl rfl ?_
    refine z_isub (pc := 22) C dX7_drawn_22 ?_
    refine z_icmp_lt (pc := 23) C dX7_drawn_23 (tgt := 28) (by decide) (fun hc => ?_) (fun hc => ?_)
    · replace h := (ite_e h).1 hc
      refine z_aload_n (pc := 28) (x := a0) C dX7_drawn_28 (i := 0) rfl rfl ?_
      refine z_get (pc := 29) (v := .ref (r0 3)) C 0 dX7_drawn_29 fl_RX7_67 rfl rfl ?_
      refine z_aload_n (pc := 32) (x := a0) C dX7_drawn_32 (i := 0) rfl rfl ?_
      refine z_get (pc := 33) (v := .ref (r0 3)) C 0 dX7_drawn_33 fl_RX7_67 rfl rfl ?_
      refine z_get (pc := 36) (v := .int (s1.1 1)) C 4 dX7_drawn_36 fl_RX7_119 rfl rfl ?_
      refine z_iload_n (pc := 39) (x := p1) C dX7_drawn_39 (i := 1) rfl rfl ?_
      refine z_iadd (pc := 40) C dX7_drawn_40 ?_
      replace h := ob_e h
      obtain ⟨x1, hx1, h⟩ := h
      refine z_callV (pc := 41) (As := [.int ((s1.1 1) + p1)]) (rest := []) (wr := (wX7 g a0 r0 s0)) C dX7_drawn_41 ml_RX7_174 wv_X1_kindOf (m_X1_kindOf (a0 := (r0 3)) (r0 := r1) (q0_0 := q1_0) (r1 := r2) hg hx1) [4, 5, 6, 7, 8, 9, 10, 11, 12, 13, 14, 15, 16] [0, 1, 2, 3] rfl rfl ⟨by decide, by decide⟩ (Nat.le_of_ble_eq_true rfl) ⟨by decide, by decide⟩ rfl rfl rfl rfl rfl rfl rfl (by decide) (ex_k C (cs' := 0) (ss' := 0) (wF := (wX7 g a0 r0 s0 ++ wX1 g (r0 3) r1 q1_0 s1 ++ wX5 g q1_0 r2 s2)) [0, 1, 2, 3, 4, 5, 6, 7, 8, 9, 10, 11, 12, 13, 14, 15, 16] rfl rfl ?_)
      replace h := ob_e h
      obtain ⟨x2, hx2, h⟩ := h
      refine z_callS (pc := 44) (As := [.int x1]) (rest := []) (wr := (wX7 g a0 r0 s0 ++ wX1 g (r0 3) r1 q1_0 s1 ++ wX5 g q1_0 r2 s2)) C dX7_drawn_44 ml_RX7_177 wt_X7_codeOf (m_X7_codeOf hg hx2) [] [0, 1, 2, 3, 4, 5, 6, 7, 8, 9, 10, 11, 12, 13, 14, 15, 16] rfl rfl ⟨by decide, by decide⟩ (Nat.le_of_ble_eq_true rfl) ⟨by decide, by decide⟩ rfl rfl rfl rfl (by decide) (ex_k C (cs' := 0) (ss' := 0) (wF := (wX7 g a0 r0 s0 ++ wX1 g (r0 3) r1 q1_0 s1 ++ wX5 g q1_0 r2 s2)) [0, 1, 2, 3, 4, 5, 6, 7, 8, 9, 10, 11, 12, 13, 14, 15, 16] rfl rfl ?_)
      exact z_iret C X dX7_drawn_47 (by rw [← Option.some.inj h]; exact ⟨rfl, rfl⟩) (by decide) (by decide)
    · replace h := (ite_e h).2 hc
      refine z_iconst (pc := 26) C dX7_drawn_26 ic_m1 ?_
      exact z_iret C X dX7_drawn_27 (by rw [← Option.some.inj h]; exact ⟨rfl, rfl⟩) (by decide) (by decide)
def f_X7_needKind_37 (N : Nat) (s0 : Ob) (s1 : Ob) (s2 : Ob) (p1 : Int32) (p2 : Int32)   : Option (Int32) := none
theorem m_X7_needKind_37 {K : Kt} {g : Gp} {a0 : Nat} {r0 : Nat → Nat} {r1 : Nat → Nat} {q1_0 : Nat} {r2 : Nat → Nat} {N : Nat} {s0 : Ob} {s1 : Ob} {s2 : Ob} {p1 : Int32} {p2 : Int32} {res : Int32} (hg : Ok g) (C : Cx K g cX7_needKind RX7 3 (zrm 0 0)) (X : Rx K (exR (some (.int res)) (wX7 g a0 r0 s0 ++ wX1 g (r0 3) r1 q1_0 s1 ++ wX5 g q1_0 r2 s2)) 0 0 (some .int))  (h : f_X7_needKind_37 N s0 s1 s2 p1 p2  = some res) : Zs K 0 0 (wX7 g a0 r0 s0 ++ wX1 g (r0 3) r1 q1_0 s1 ++ wX5 g q1_0 r2 s2) [] 37 [] := by
  unfold f_X7_needKind_37 at h
  exact nomatch h
def f_X7_needKind (N : Nat) (s0 : Ob) (s1 : Ob) (s2 : Ob) (p1 : Int32) (p2 : Int32) : Option (Int32) := (if p1 < 0 then (f_X7_needKind_37 N s0 s1 s2 p1 p2 ) else (if (s2.1 0) ≤ p1 then (f_X7_needKind_37 N s0 s1 s2 p1 p2 ) else (if p2 < (1 : Int32) then (f_X7_needKind_37 N s0 s1 s2 p1 p2 ) else (if p2 ≤ (s2.1 1) then (some (((p1 * (5 : Int32)) + p2) - (1 : Int32))) else (f_X7_needKind_37 N s0 s1 s2 p1 p2 )))))
theorem m_X7_needKind {g : Gp} {a0 : Nat} {r0 : Nat → Nat} {r1 : Nat → Nat} {q1_0 : Nat} {r2 : Nat → Nat} {N : Nat} {s0 : Ob} {s1 : Ob} {s2 : Ob} {p1 : Int32} {p2 : Int32} {res : Int32} (hg : Ok g) (h : f_X7_needKind N s0 s1 s2 p1 p2 = some res) : Ct g yX7_needKind cX7_needKind 3 (some .int) (zrm 0 0) [.ref a0, .int p1, .int p2] (wX7 g a0 r0 s0 ++ wX1 g (r0 3) r1 q1_0 s1 ++ wX5 g q1_0 r2 s2) (exR (some (.int res)) (wX7 g a0 r0 s0 ++ wX1 g (r0 3) r1 q1_0 s1 ++ wX5 g q1_0 r2 s2)) := by
  refine ct_of rfl hg (by show _ ≤ _; exact Nat.le_of_ble_eq_true rfl) (fun K C X => ?_)
  show Zs K 0 0 (wX7 g a0 r0 s0 ++ wX1 g (r0 3) r1 q1_0 s1 ++ wX5 g q1_0 r2 s2) [(0, .ref a0), (1, .int p1), (2, .int p2)] 0 []
  unfold f_X7_needKind at h
  refine z_iload_n (pc := 0) (x := p1) C dX7_needKind_0 (i := 1) rfl rfl ?_
  refine z_if_lt (pc := 1) C dX7_needKind_1 (tgt := 37) (by decide) (fun hc => ?_) (fun hc => ?_)
  · replace h := (ite_e h).1 hc
    refine z_lv (lv' := []) [] rfl ?_
    exact m_X7_needKind_37 (a0 := a0) (r0 := r0) (r1 := r1) (q1_0 := q1_0) (r2 := r2) hg C X  h
  · replace h := (ite_e h).2 hc
    refine z_iload_n (pc := 4) (x := p1) C dX7_needKind_4 (i := 1) rfl rfl ?_
    refine z_aload_n (pc := 5) (x := a0) C dX7_needKind_5 (i := 0) rfl rfl ?_
    refine z_get (pc := 6) (v := .ref (r0 3)) C 0 dX7_needKind_6 fl_RX7_67 rfl rfl ?_
    refine z_get (pc := 9) (v := .ref q1_0) C 4 dX7_needKind_9 fl_RX7_100 rfl rfl ?_
    refine z_get (pc := 12) (v := .int (s2.1 0)) C 13 dX7_needKind_12 fl_RX7_107 rfl rfl ?_
    refine z_icmp_ge (pc := 15) C dX7_needKind_15 (tgt := 37) (by decide) (fun hc => ?_) (fun hc => ?_)
    · replace h := (ite_e h).1 hc
      refine z_lv (lv' := []) [] rfl ?_
      exact m_X7_needKind_37 (a0 := a0) (r0 := r0) (r1 := r1) (q1_0 := q1_0) (r2 := r2) hg C X  h
    · replace h := (ite_e h).2 hc
      refine z_iload_n (pc := 18) (x := p2) C dX7_needKind_18 (i := 2) rfl rfl ?_
      refine z_iconst (pc := 19) C dX7_needKind_19 ic_1 ?_
      refine z_icmp_lt (pc := 20) C dX7_needKind_20 (tgt := 37) (by decide) (fun hc => ?_) (fun hc => ?_)
      · replace h := (ite_e h).1 hc
        refine z_lv (lv' := []) [] rfl ?_
        exact m_X7_needKind_37 (a0 := a0) (r0 := r0) (r1 := r1) (q1_0 := q1_0) (r2 := r2) hg C X  h
      · replace h := (ite_e h).2 hc
        refine z_iload_n (pc := 23) (x := p2) C dX7_needKind_23 (i := 2) rfl rfl ?_
        refine z_aload_n (pc := 24) (x := a0) C dX7_needKind_24 (i := 0) rfl rfl ?_
        refine z_get (pc := 25) (v := .ref (r0 3)) C 0 dX7_needKind_25 fl_RX7_67 rfl rfl ?_
        refine z_get (pc := 28) (v := .ref q1_0) C 4 dX7_needKind_28 fl_RX7_100 rfl rfl ?_
        refine z_get (pc := 31) (v := .int (s2.1 1)) C 13 dX7_needKind_31 fl_RX7_110 rfl rfl ?_
        refine z_icmp_le (pc := 34) C dX7_needKind_34 (tgt := 48) (by decide) (fun hc => ?_) (fun hc => ?_)
        · replace h := (ite_e h).1 hc
          refine z_iload_n (pc := 48) (x := p1) C dX7_needKind_48 (i := 1) rfl rfl ?_
          refine z_iconst (pc := 49) C dX7_needKind_49 ic_5 ?_
          refine z_imul (pc := 50) C dX7_needKind_50 ?_
          refine z_iload_n (pc := 51) (x := p2) C dX7_needKind_51 (i := 2) rfl rfl ?_
          refine z_iadd (pc := 52) C dX7_needKind_52 ?_
          refine z_iconst (pc := 53) C dX7_needKind_53 ic_1 ?_
          refine z_isub (pc := 54) C dX7_needKind_54 ?_
          exact z_iret C X dX7_needKind_55 (by rw [← Option.some.inj h]; exact ⟨rfl, rfl⟩) (by decide) (by decide)
        · replace h := (ite_e h).2 hc
          refine z_lv (lv' := []) [] rfl ?_
          exact m_X7_needKind_37 (a0 := a0) (r0 := r0) (r1 := r1) (q1_0 := q1_0) (r2 := r2) hg C X  h
def f_X7_copies (N : Nat) (s0 : Ob) (s1 : Ob) (s2 : Ob) (p1 : Int32) (p2 : Int32) (p3 : Int32) : Option (Int32) := (ob (f_X7_needKind N s0 s1 s2 p1 p2) fun x1 => (if p3 = (0 : Int32) then (ob (f_X5_copiesOf N s2 x1) fun x2 => (some x2)) else (if p3 = (1 : Int32) then (ob (f_X1_inHeap N s1 x1) fun x3 => (some x3)) else (if p3 = (2 : Int32) then (ob (f_X1_inHands N s1 s2 x1) fun x4 => (some x4)) else (if p3 = (3 : Int32) then (ob (f_X1_toBeDrawn N s1 s2 x1) fun x5 => (some x5)) else none)))))
theorem m_X7_copies {g : Gp} {a0 : Nat} {r0 : Nat → Nat} {r1 : Nat → Nat} {q1_0 : Nat} {r2 : Nat → Nat} {N : Nat} {s0 : Ob} {s1 : Ob} {s2 : Ob} {p1 : Int32} {p2 : Int32} {p3 : Int32} {res : Int32} (hg : Ok g) (h : f_X7_copies N s0 s1 s2 p1 p2 p3 = some res) : Ct g yX7_copies cX7_copies 5 (some .int) (zrm 2 47) [.ref a0, .int p1, .int p2, .int p3] (wX7 g a0 r0 s0 ++ wX1 g (r0 3) r1 q1_0 s1 ++ wX5 g q1_0 r2 s2) (exR (some (.int res)) (wX7 g a0 r0 s0 ++ wX1 g (r0 3) r1 q1_0 s1 ++ wX5 g q1_0 r2 s2)) := by
  refine ct_of rfl hg (by show _ ≤ _; exact Nat.le_of_ble_eq_true rfl) (fun K C X => ?_)
  show Zs K 0 0 (wX7 g a0 r0 s0 ++ wX1 g (r0 3) r1 q1_0 s1 ++ wX5 g q1_0 r2 s2) [(0, .ref a0), (1, .int p1), (2, .int p2), (3, .int p3)] 0 []
  unfold f_X7_copies at h
  refine z_aload_n (pc := 0) (x := a0) C dX7_copies_0 (i := 0) rfl rfl ?_
  refine z_iload_n (pc := 1) (x := p1) C dX7_copies_1 (i := 1) rfl rfl ?_
  refine z_iload_n (pc := 2) (x := p2) C dX7_copies_2 (i := 2) rfl rfl ?_
  replace h := ob_e h
  obtain ⟨x1, hx1, h⟩ := h
  refine z_callV (pc := 3) (As := [.int p1, .int p2]) (rest := []) (wr := ([] : va_W)) C dX7_copies_3 ml_RX7_180 wv_X7_needKind (m_X7_needKind (a0 := a0) (r0 := r0) (r1 := r1) (q1_0 := q1_0) (r2 := r2) hg hx1) [0, 1, 2, 3, 4, 5, 6, 7, 8, 9, 10, 11, 12, 13, 14, 15, 16] [] rfl rfl ⟨by decide, by decide⟩ (Nat.le_of_ble_eq_true rfl) ⟨by decide, by decide⟩ rfl rfl rfl rfl rfl rfl rfl (by decide) (ex_k C (cs' := 0) (ss' := 0) (wF := (wX7 g a0 r0 s0 ++ wX1 g (r0 3) r1 q1_0 s1 ++ wX5 g q1_0 r2 s2)) [0, 1, 2, 3, 4, 5, 6, 7, 8, 9, 10, 11, 12, 13, 14, 15, 16] rfl rfl ?_)
  refine z_istore (pc := 6) C dX7_copies_6 (by decide) (lv' := [(4, .int x1), (0, .ref a0), (1, .int p1), (2, .int p2), (3, .int p3)]) rfl ?_
  refine z_iload_n (pc := 8) (x := p3) C dX7_copies_8 (i := 3) rfl rfl ?_
  refine (Decidable.em (p3 = (0 : Int32))).elim (fun hc => ?_) (fun hn0 => ?_)
  · refine z_tswIn (pc := 9) C (0 : Int32) dX7_copies_9 hc (by decide) (by decide) (off := 31) rfl (tgt := 40) (by decide) ?_
    replace h := (ite_e h).1 hc
    refine z_aload_n (pc := 40) (x := a0) C dX7_copies_40 (i := 0) rfl rfl ?_
    refine z_get (pc := 41) (v := .ref (r0 3)) C 0 dX7_copies_41 fl_RX7_67 rfl rfl ?_
    refine z_get (pc := 44) (v := .ref q1_0) C 4 dX7_copies_44 fl_RX7_100 rfl rfl ?_
    refine z_iload (pc := 47) (x := x1) C dX7_copies_47 rfl ?_
    replace h := ob_e h
    obtain ⟨x2, hx2, h⟩ := h
    refine z_callV (pc := 49) (As := [.int x1]) (rest := []) (wr := (wX7 g a0 r0 s0 ++ wX1 g (r0 3) r1 q1_0 s1)) C dX7_copies_49 ml_RX7_183 wv_X5_copiesOf (m_X5_copiesOf (a0 := q1_0) (r0 := r2) hg hx2) [13, 14, 15, 16] [0, 1, 2, 3, 4, 5, 6, 7, 8, 9, 10, 11, 12] rfl rfl ⟨by decide, by decide⟩ (Nat.le_of_ble_eq_true rfl) ⟨by decide, by decide⟩ rfl rfl rfl rfl rfl rfl rfl (by decide) (ex_k C (cs' := 0) (ss' := 0) (wF := (wX7 g a0 r0 s0 ++ wX1 g (r0 3) r1 q1_0 s1 ++ wX5 g q1_0 r2 s2)) [0, 1, 2, 3, 4, 5, 6, 7, 8, 9, 10, 11, 12, 13, 14, 15, 16] rfl rfl ?_)
    exact z_iret C X dX7_copies_52 (by rw [← Option.some.inj h]; exact ⟨rfl, rfl⟩) (by decide) (by decide)
  replace h := (ite_e h).2 hn0
  refine (Decidable.em (p3 = (1 : Int32))).elim (fun hc => ?_) (fun hn1 => ?_)
  · refine z_tswIn (pc := 9) C (1 : Int32) dX7_copies_9 hc (by decide) (by decide) (off := 44) rfl (tgt := 53) (by decide) ?_
    replace h := (ite_e h).1 hc
    refine z_aload_n (pc := 53) (x := a0) C dX7_copies_53 (i := 0) rfl rfl ?_
    refine z_get (pc := 54) (v := .ref (r0 3)) C 0 dX7_copies_54 fl_RX7_67 rfl rfl ?_
    refine z_iload (pc := 57) (x := x1) C dX7_copies_57 rfl ?_
    replace h := ob_e h
    obtain ⟨x3, hx3, h⟩ := h
    refine z_callV (pc := 59) (As := [.int x1]) (rest := []) (wr := (wX7 g a0 r0 s0 ++ wX5 g q1_0 r2 s2)) C dX7_copies_59 ml_RX7_186 wv_X1_inHeap (m_X1_inHeap (a0 := (r0 3)) (r0 := r1) (q0_0 := q1_0) hg hx3) [4, 5, 6, 7, 8, 9, 10, 11, 12] [0, 1, 2, 3, 13, 14, 15, 16] rfl rfl ⟨by decide, by decide⟩ (Nat.le_of_ble_eq_true rfl) ⟨by decide, by decide⟩ rfl rfl rfl rfl rfl rfl rfl (by decide) (ex_k C (cs' := 0) (ss' := 0) (wF := (wX7 g a0 r0 s0 ++ wX1 g (r0 3) r1 q1_0 s1 ++ wX5 g q1_0 r2 s2)) [0, 1, 2, 3, 8, 9, 10, 11, 12, 13, 14, 15, 16, 4, 5, 6, 7] rfl rfl ?_)
    exact z_iret C X dX7_copies_62 (by rw [← Option.some.inj h]; exact ⟨rfl, rfl⟩) (by decide) (by decide)
  replace h := (ite_e h).2 hn1
  refine (Decidable.em (p3 = (2 : Int32))).elim (fun hc => ?_) (fun hn2 => ?_)
  · refine z_tswIn (pc := 9) C (2 : Int32) dX7_copies_9 hc (by decide) (by decide) (off := 54) rfl (tgt := 63) (by decide) ?_
    replace h := (ite_e h).1 hc
    refine z_aload_n (pc := 63) (x := a0) C dX7_copies_63 (i := 0) rfl rfl ?_
    refine z_get (pc := 64) (v := .ref (r0 3)) C 0 dX7_copies_64 fl_RX7_67 rfl rfl ?_
    refine z_iload (pc := 67) (x := x1) C dX7_copies_67 rfl ?_
    replace h := ob_e h
    obtain ⟨x4, hx4, h⟩ := h
    refine z_callV (pc := 69) (As := [.int x1]) (rest := []) (wr := (wX7 g a0 r0 s0)) C dX7_copies_69 ml_RX7_189 wv_X1_inHands (m_X1_inHands (a0 := (r0 3)) (r0 := r1) (q0_0 := q1_0) (r1 := r2) hg hx4) [4, 5, 6, 7, 8, 9, 10, 11, 12, 13, 14, 15, 16] [0, 1, 2, 3] rfl rfl ⟨by decide, by decide⟩ (Nat.le_of_ble_eq_true rfl) ⟨by decide, by decide⟩ rfl rfl rfl rfl rfl rfl rfl (by decide) (ex_k C (cs' := 0) (ss' := 0) (wF := (wX7 g a0 r0 s0 ++ wX1 g (r0 3) r1 q1_0 s1 ++ wX5 g q1_0 r2 s2)) [0, 1, 2, 3, 4, 5, 6, 7, 8, 9, 10, 11, 12, 13, 14, 15, 16] rfl rfl ?_)
    exact z_iret C X dX7_copies_72 (by rw [← Option.some.inj h]; exact ⟨rfl, rfl⟩) (by decide) (by decide)
  replace h := (ite_e h).2 hn2
  refine (Decidable.em (p3 = (3 : Int32))).elim (fun hc => ?_) (fun hn3 => ?_)
  · refine z_tswIn (pc := 9) C (3 : Int32) dX7_copies_9 hc (by decide) (by decide) (off := 64) rfl (tgt := 73) (by decide) ?_
    replace h := (ite_e h).1 hc
    refine z_aload_n (pc := 73) (x := a0) C dX7_copies_73 (i := 0) rfl rfl ?_
    refine z_get (pc := 74) (v := .ref (r0 3)) C 0 dX7_copies_74 fl_RX7_67 rfl rfl ?_
    refine z_iload (pc := 77) (x := x1) C dX7_copies_77 rfl ?_
    replace h := ob_e h
    obtain ⟨x5, hx5, h⟩ := h
    refine z_callV (pc := 79) (As := [.int x1]) (rest := []) (wr := (wX7 g a0 r0 s0)) C dX7_copies_79 ml_RX7_192 wv_X1_toBeDrawn (m_X1_toBeDrawn (a0 := (r0 3)) (r0 := r1) (q0_0 := q1_0) (r1 := r2) hg hx5) [4, 5, 6, 7, 8, 9, 10, 11, 12, 13, 14, 15, 16] [0, 1, 2, 3] rfl rfl ⟨by decide, by decide⟩ (Nat.le_of_ble_eq_true rfl) ⟨by decide, by decide⟩ rfl rfl rfl rfl rfl rfl rfl (by decide) (ex_k C (cs' := 0) (ss' := 0) (wF := (wX7 g a0 r0 s0 ++ wX1 g (r0 3) r1 q1_0 s1 ++ wX5 g q1_0 r2 s2)) [0, 1, 2, 3, 4, 5, 6, 7, 8, 9, 10, 11, 12, 13, 14, 15, 16] rfl rfl ?_)
    exact z_iret C X dX7_copies_82 (by rw [← Option.some.inj h]; exact ⟨rfl, rfl⟩) (by decide) (by decide)
  replace h := (ite_e h).2 hn3
  refine z_tswOut (pc := 9) C dX7_copies_9 (by have e0 := lv_neT hn0 (a := 0) (by decide); have e1 := lv_neT hn1 (a := 1) (by decide); have e2 := lv_neT hn2 (a := 2) (by decide); have e3 := lv_neT hn3 (a := 3) (by decide); omega) (tgt := 83) (by decide) ?_
  exact nomatch h
def f_X7_isUseless (N : Nat) (s0 : Ob) (s1 : Ob) (s2 : Ob) (p1 : Int32) (p2 : Int32) : Option (Int32) := (ob (f_X7_needKind N s0 s1 s2 p1 p2) fun x1 => (ob (f_X1_isOfUse N s1 s2 x1) fun x2 => (if x2 = 0 then (some (1 : Int32)) else (some (0 : Int32)))))
theorem m_X7_isUseless {g : Gp} {a0 : Nat} {r0 : Nat → Nat} {r1 : Nat → Nat} {q1_0 : Nat} {r2 : Nat → Nat} {N : Nat} {s0 : Ob} {s1 : Ob} {s2 : Ob} {p1 : Int32} {p2 : Int32} {res : Int32} (hg : Ok g) (h : f_X7_isUseless N s0 s1 s2 p1 p2 = some res) : Ct g yX7_isUseless cX7_isUseless 3 (some .boolean) (zrm 2 47) [.ref a0, .int p1, .int p2] (wX7 g a0 r0 s0 ++ wX1 g (r0 3) r1 q1_0 s1 ++ wX5 g q1_0 r2 s2) (exR (some (.int res)) (wX7 g a0 r0 s0 ++ wX1 g (r0 3) r1 q1_0 s1 ++ wX5 g q1_0 r2 s2)) := by
  refine ct_of rfl hg (by show _ ≤ _; exact Nat.le_of_ble_eq_true rfl) (fun K C X => ?_)
  show Zs K 0 0 (wX7 g a0 r0 s0 ++ wX1 g (r0 3) r1 q1_0 s1 ++ wX5 g q1_0 r2 s2) [(0, .ref a0), (1, .int p1), (2, .int p2)] 0 []
  unfold f_X7_isUseless at h
  refine z_aload_n (pc := 0) (x := a0) C dX7_isUseless_0 (i := 0) rfl rfl ?_
  refine z_get (pc := 1) (v := .ref (r0 3)) C 0 dX7_isUseless_1 fl_RX7_67 rfl rfl ?_
  refine z_aload_n (pc := 4) (x := a0) C dX7_isUseless_4 (i := 0) rfl rfl ?_
  refine z_iload_n (pc := 5) (x := p1) C dX7_isUseless_5 (i := 1) rfl rfl ?_
  refine z_iload_n (pc := 6) (x := p2) C dX7_isUseless_6 (i := 2) rfl rfl ?_
  replace h := ob_e h
  obtain ⟨x1, hx1, h⟩ := h
  refine z_callV (pc := 7) (As := [.int p1, .int p2]) (rest := [.ref (r0 3)]) (wr := ([] : va_W)) C dX7_isUseless_7 ml_RX7_180 wv_X7_needKind (m_X7_needKind (a0 := a0) (r0 := r0) (r1 := r1) (q1_0 := q1_0) (r2 := r2) hg hx1) [0, 1, 2, 3, 4, 5, 6, 7, 8, 9, 10, 11, 12, 13, 14, 15, 16] [] rfl rfl ⟨by decide, by decide⟩ (Nat.le_of_ble_eq_true rfl) ⟨by decide, by decide⟩ rfl rfl rfl rfl rfl rfl rfl (by decide) (ex_k C (cs' := 0) (ss' := 0) (wF := (wX7 g a0 r0 s0 ++ wX1 g (r0 3) r1 q1_0 s1 ++ wX5 g q1_0 r2 s2)) [0, 1, 2, 3, 4, 5, 6, 7, 8, 9, 10, 11, 12, 13, 14, 15, 16] rfl rfl ?_)
  replace h := ob_e h
  obtain ⟨x2, hx2, h⟩ := h
  refine z_callV (pc := 10) (As := [.int x1]) (rest := []) (wr := (wX7 g a0 r0 s0)) C dX7_isUseless_10 ml_RX7_195 wv_X1_isOfUse (m_X1_isOfUse (a0 := (r0 3)) (r0 := r1) (q0_0 := q1_0) (r1 := r2) hg hx2) [4, 5, 6, 7, 8, 9, 10, 11, 12, 13, 14, 15, 16] [0, 1, 2, 3] rfl rfl ⟨by decide, by decide⟩ (Nat.le_of_ble_eq_true rfl) ⟨by decide, by decide⟩ rfl rfl rfl rfl rfl rfl rfl (by decide) (ex_k C (cs' := 0) (ss' := 0) (wF := (wX7 g a0 r0 s0 ++ wX1 g (r0 3) r1 q1_0 s1 ++ wX5 g q1_0 r2 s2)) [0, 1, 2, 3, 4, 5, 6, 7, 8, 9, 10, 11, 12, 13, 14, 15, 16] rfl rfl ?_)
  refine z_if_ne (pc := 13) C dX7_isUseless_13 (tgt := 20) (by decide) (fun hc => ?_) (fun hc => ?_)
  · replace h := (ite_e h).2 hc
    refine z_iconst (pc := 20) C dX7_isUseless_20 ic_0 ?_
    exact z_zret C X dX7_isUseless_21 rfl (by rw [← Option.some.inj h]; exact ⟨rfl, rfl⟩) (by decide) (by decide)
  · replace h := (ite_e h).1 hc
    refine z_iconst (pc := 16) C dX7_isUseless_16 ic_1 ?_
    refine z_goto (pc := 17) C dX7_isUseless_17 (tgt := 21) (by decide) ?_
    exact z_zret C X dX7_isUseless_21 rfl (by rw [← Option.some.inj h]; exact ⟨rfl, rfl⟩) (by decide) (by decide)
def f_X7_isCritical (N : Nat) (s0 : Ob) (s1 : Ob) (s2 : Ob) (p1 : Int32) (p2 : Int32) : Option (Int32) := (ob (f_X7_needKind N s0 s1 s2 p1 p2) fun x1 => (ob (f_X1_isLastOne N s1 s2 x1) fun x2 => (chk (zisB x2) (some x2))))
theorem m_X7_isCritical {g : Gp} {a0 : Nat} {r0 : Nat → Nat} {r1 : Nat → Nat} {q1_0 : Nat} {r2 : Nat → Nat} {N : Nat} {s0 : Ob} {s1 : Ob} {s2 : Ob} {p1 : Int32} {p2 : Int32} {res : Int32} (hg : Ok g) (h : f_X7_isCritical N s0 s1 s2 p1 p2 = some res) : Ct g yX7_isCritical cX7_isCritical 3 (some .boolean) (zrm 3 68) [.ref a0, .int p1, .int p2] (wX7 g a0 r0 s0 ++ wX1 g (r0 3) r1 q1_0 s1 ++ wX5 g q1_0 r2 s2) (exR (some (.int res)) (wX7 g a0 r0 s0 ++ wX1 g (r0 3) r1 q1_0 s1 ++ wX5 g q1_0 r2 s2)) := by
  refine ct_of rfl hg (by show _ ≤ _; exact Nat.le_of_ble_eq_true rfl) (fun K C X => ?_)
  show Zs K 0 0 (wX7 g a0 r0 s0 ++ wX1 g (r0 3) r1 q1_0 s1 ++ wX5 g q1_0 r2 s2) [(0, .ref a0), (1, .int p1), (2, .int p2)] 0 []
  unfold f_X7_isCritical at h
  refine z_aload_n (pc := 0) (x := a0) C dX7_isCritical_0 (i := 0) rfl rfl ?_
  refine z_get (pc := 1) (v := .ref (r0 3)) C 0 dX7_isCritical_1 fl_RX7_67 rfl rfl ?_
  refine z_aload_n (pc := 4) (x := a0) C dX7_isCritical_4 (i := 0) rfl rfl ?_
  refine z_iload_n (pc := 5) (x := p1) C dX7_isCritical_5 (i := 1) rfl rfl ?_
  refine z_iload_n (pc := 6) (x := p2) C dX7_isCritical_6 (i := 2) rfl rfl ?_
  replace h := ob_e h
  obtain ⟨x1, hx1, h⟩ := h
  refine z_callV (pc := 7) (As := [.int p1, .int p2]) (rest := [.ref (r0 3)]) (wr := ([] : va_W)) C dX7_isCritical_7 ml_RX7_180 wv_X7_needKind (m_X7_needKind (a0 := a0) (r0 := r0) (r1 := r1) (q1_0 := q1_0) (r2 := r2) hg hx1) [0, 1, 2, 3, 4, 5, 6, 7, 8, 9, 10, 11, 12, 13, 14, 15, 16] [] rfl rfl ⟨by decide, by decide⟩ (Nat.le_of_ble_eq_true rfl) ⟨by decide, by decide⟩ rfl rfl rfl rfl rfl rfl rfl (by decide) (ex_k C (cs' := 0) (ss' := 0) (wF := (wX7 g a0 r0 s0 ++ wX1 g (r0 3) r1 q1_0 s1 ++ wX5 g q1_0 r2 s2)) [0, 1, 2, 3, 4, 5, 6, 7, 8, 9, 10, 11, 12, 13, 14, 15, 16] rfl rfl ?_)
  replace h := ob_e h
  obtain ⟨x2, hx2, h⟩ := h
  refine z_callV (pc := 10) (As := [.int x1]) (rest := []) (wr := (wX7 g a0 r0 s0)) C dX7_isCritical_10 ml_RX7_199 wv_X1_isLastOne (m_X1_isLastOne (a0 := (r0 3)) (r0 := r1) (q0_0 := q1_0) (r1 := r2) hg hx2) [4, 5, 6, 7, 8, 9, 10, 11, 12, 13, 14, 15, 16] [0, 1, 2, 3] rfl rfl ⟨by decide, by decide⟩ (Nat.le_of_ble_eq_true rfl) ⟨by decide, by decide⟩ rfl rfl rfl rfl rfl rfl rfl (by decide) (ex_k C (cs' := 0) (ss' := 0) (wF := (wX7 g a0 r0 s0 ++ wX1 g (r0 3) r1 q1_0 s1 ++ wX5 g q1_0 r2 s2)) [0, 1, 2, 3, 4, 5, 6, 7, 8, 9, 10, 11, 12, 13, 14, 15, 16] rfl rfl ?_)
  replace h := chk_e h
  obtain ⟨hb3, h⟩ := h
  exact z_zret C X dX7_isCritical_13 (zisB_nar hb3) (by rw [← Option.some.inj h]; exact ⟨rfl, rfl⟩) (by decide) (by decide)
def F_X7_colorsIn_4 (N : Nat) (p0 : Int32)  (k4 : Int32 → Int32 → Option (Int32)) (v1 : Int32) (v2 : Int32) : Option (Int32) := (if (4 : Int32) ≤ v2 then (some v1) else (ob (f_X7_kindsOfWord N (0 : Int32) v2) fun x1 => (if (p0 &&& x1) = 0 then (k4 v1 (v2 + (1 : Int32))) else (k4 (v1 ||| ((1 : Int32) <<< (v2 &&& 31))) (v2 + (1 : Int32))))))
def f_X7_colorsIn_4 (N : Nat) (p0 : Int32)  : Nat → Int32 → Int32 → Option (Int32) := zlp (fun _ _ => none) (F_X7_colorsIn_4 N p0)
theorem m_X7_colorsIn_4 {K : Kt} {g : Gp}  {N : Nat} {p0 : Int32} {res : Int32} (hg : Ok g) (C : Cx K g cX7_colorsIn RX7 3 (zrm 1 21)) (X : Rx K (exR (some (.int res)) ([] : va_W)) 0 0 (some .int)) : ∀ (n : Nat) (v1 : Int32) (v2 : Int32), f_X7_colorsIn_4 N p0 n v1 v2 = some res → Zs K 0 0 ([] : va_W) [(0, .int p0), (1, .int v1), (2, .int v2)] 4 [] := by
  intro n
  induction n with
  | zero => intro v1 v2 h; exact nomatch (show (none : Option (Int32)) = some res from h)
  | succ n hk4 =>
    intro v1 v2 h
    replace h : F_X7_colorsIn_4 N p0 (f_X7_colorsIn_4 N p0 n) v1 v2 = some res := h
    unfold F_X7_colorsIn_4 at h
    refine z_iload_n (pc := 4) (x := v2) C dX7_colorsIn_4 (i := 2) rfl rfl ?_
    refine z_iconst (pc := 5) C dX7_colorsIn_5 ic_4 ?_
    refine z_icmp_ge (pc := 6) C dX7_colorsIn_6 (tgt := 31) (by decide) (fun hc => ?_) (fun hc => ?_)
    · replace h := (ite_e h).1 hc
      refine z_iload_n (pc := 31) (x := v1) C dX7_colorsIn_31 (i := 1) rfl rfl ?_
      exact z_iret C X dX7_colorsIn_32 (by rw [← Option.some.inj h]; exact ⟨rfl, rfl⟩) (by decide) (by decide)
    · replace h := (ite_e h).2 hc
      refine z_iload_n (pc := 9) (x := p0) C dX7_colorsIn_9 (i := 0) rfl rfl ?_
      refine z_iconst (pc := 10) C dX7_colorsIn_10 ic_0 ?_
      refine z_iload_n (pc := 11) (x := v2) C dX7_colorsIn_11 (i := 2) rfl rfl ?_
      replace h := ob_e h
      obtain ⟨x1, hx1, h⟩ := h
      refine z_callS (pc := 12) (As := [.int (0 : Int32), .int v2]) (rest := [.int p0]) (wr := ([] : va_W)) C dX7_colorsIn_12 ml_RX7_242 wt_X7_kindsOfWord (m_X7_kindsOfWord hg hx1) [] [] rfl rfl ⟨by decide, by decide⟩ (Nat.le_of_ble_eq_true rfl) ⟨by decide, by decide⟩ rfl rfl rfl rfl (by decide) (ex_k C (cs' := 0) (ss' := 0) (wF := ([] : va_W)) [] rfl rfl ?_)
      refine z_iand (pc := 15) C dX7_colorsIn_15 ?_
      refine z_if_eq (pc := 16) C dX7_colorsIn_16 (tgt := 25) (by decide) (fun hc => ?_) (fun hc => ?_)
      · replace h := (ite_e h).1 hc
        refine z_iinc (pc := 25) C dX7_colorsIn_25 rfl (inc_e 1 (1 : Int32) ic_1 v2) (by decide) (lv' := [(2, .int (v2 + (1 : Int32))), (0, .int p0), (1, .int v1)]) rfl ?_
        refine z_goto (pc := 28) C dX7_colorsIn_28 (tgt := 4) (by decide) ?_
        refine z_lv (lv' := [(0, .int p0), (1, .int v1), (2, .int (v2 + (1 : Int32)))]) [1, 2, 0] rfl ?_
        exact hk4 v1 (v2 + (1 : Int32)) h
      · replace h := (ite_e h).2 hc
        refine z_iload_n (pc := 19) (x := v1) C dX7_colorsIn_19 (i := 1) rfl rfl ?_
        refine z_iconst (pc := 20) C dX7_colorsIn_20 ic_1 ?_
        refine z_iload_n (pc := 21) (x := v2) C dX7_colorsIn_21 (i := 2) rfl rfl ?_
        refine z_ishl (pc := 22) C dX7_colorsIn_22 ?_
        refine z_ior (pc := 23) C dX7_colorsIn_23 ?_
        refine z_istore_n (pc := 24) C dX7_colorsIn_24 (i := 1) rfl (by decide) (lv' := [(1, .int (v1 ||| ((1 : Int32) <<< (v2 &&& 31)))), (0, .int p0), (2, .int v2)]) rfl ?_
        refine z_iinc (pc := 25) C dX7_colorsIn_25 rfl (inc_e 1 (1 : Int32) ic_1 v2) (by decide) (lv' := [(2, .int (v2 + (1 : Int32))), (1, .int (v1 ||| ((1 : Int32) <<< (v2 &&& 31)))), (0, .int p0)]) rfl ?_
        refine z_goto (pc := 28) C dX7_colorsIn_28 (tgt := 4) (by decide) ?_
        refine z_lv (lv' := [(0, .int p0), (1, .int (v1 ||| ((1 : Int32) <<< (v2 &&& 31)))), (2, .int (v2 + (1 : Int32)))]) [2, 1, 0] rfl ?_
        exact hk4 (v1 ||| ((1 : Int32) <<< (v2 &&& 31))) (v2 + (1 : Int32)) h
def f_X7_colorsIn (N : Nat) (p0 : Int32) : Option (Int32) := (f_X7_colorsIn_4 N p0 N (0 : Int32) (0 : Int32))
theorem m_X7_colorsIn {g : Gp}  {N : Nat} {p0 : Int32} {res : Int32} (hg : Ok g) (h : f_X7_colorsIn N p0 = some res) : Ct g yX7_colorsIn cX7_colorsIn 3 (some .int) (zrm 1 21) [.int p0] ([] : va_W) (exR (some (.int res)) ([] : va_W)) := by
  refine ct_of rfl hg (by show _ ≤ _; exact Nat.le_of_ble_eq_true rfl) (fun K C X => ?_)
  show Zs K 0 0 ([] : va_W) [(0, .int p0)] 0 []
  unfold f_X7_colorsIn at h
  refine z_iconst (pc := 0) C dX7_colorsIn_0 ic_0 ?_
  refine z_istore_n (pc := 1) C dX7_colorsIn_1 (i := 1) rfl (by decide) (lv' := [(1, .int (0 : Int32)), (0, .int p0)]) rfl ?_
  refine z_iconst (pc := 2) C dX7_colorsIn_2 ic_0 ?_
  refine z_istore_n (pc := 3) C dX7_colorsIn_3 (i := 2) rfl (by decide) (lv' := [(2, .int (0 : Int32)), (1, .int (0 : Int32)), (0, .int p0)]) rfl ?_
  refine z_lv (lv' := [(0, .int p0), (1, .int (0 : Int32)), (2, .int (0 : Int32))]) [2, 1, 0] rfl ?_
  exact m_X7_colorsIn_4 hg C X N (0 : Int32) (0 : Int32) h
def f_X7_colorsOf (N : Nat) (s0 : Ob) (s1 : Ob) (s2 : Ob) (p1 : Int32) (p2 : Int32) : Option (Int32) := (ob (f_X7_needCard N s0 s1 s2 p1 p2) fun x1 => (ob (f_X1_kindsLeftFor N s1 x1) fun x2 => (ob (f_X7_colorsIn N x2) fun x3 => (some x3))))
theorem m_X7_colorsOf {g : Gp} {a0 : Nat} {r0 : Nat → Nat} {r1 : Nat → Nat} {q1_0 : Nat} {r2 : Nat → Nat} {N : Nat} {s0 : Ob} {s1 : Ob} {s2 : Ob} {p1 : Int32} {p2 : Int32} {res : Int32} (hg : Ok g) (h : f_X7_colorsOf N s0 s1 s2 p1 p2 = some res) : Ct g yX7_colorsOf cX7_colorsOf 3 (some .int) (zrm 2 46) [.ref a0, .int p1, .int p2] (wX7 g a0 r0 s0 ++ wX1 g (r0 3) r1 q1_0 s1 ++ wX5 g q1_0 r2 s2) (exR (some (.int res)) (wX7 g a0 r0 s0 ++ wX1 g (r0 3) r1 q1_0 s1 ++ wX5 g q1_0 r2 s2)) := by
  refine ct_of rfl hg (by show _ ≤ _; exact Nat.le_of_ble_eq_true rfl) (fun K C X => ?_)
  show Zs K 0 0 (wX7 g a0 r0 s0 ++ wX1 g (r0 3) r1 q1_0 s1 ++ wX5 g q1_0 r2 s2) [(0, .ref a0), (1, .int p1), (2, .int p2)] 0 []
  unfold f_X7_colorsOf at h
  refine z_aload_n (pc := 0) (x := a0) C dX7_colorsOf_0 (i := 0) rfl rfl ?_
  refine z_get (pc := 1) (v := .ref (r0 3)) C 0 dX7_colorsOf_1 fl_RX7_67 rfl rfl ?_
  refine z_aload_n (pc := 4) (x := a0) C dX7_colorsOf_4 (i := 0) rfl rfl ?_
  refine z_iload_n (pc := 5) (x := p1) C dX7_colorsOf_5 (i := 1) rfl rfl ?_
  refine z_iload_n (pc := 6) (x := p2) C dX7_colorsOf_6 (i := 2) rfl rfl ?_
  replace h := ob_e h
  obtain ⟨x1, hx1, h⟩ := h
  refine z_callV (pc := 7) (As := [.int p1, .int p2]) (rest := [.ref (r0 3)]) (wr := ([] : va_W)) C dX7_colorsOf_7 ml_RX7_170 wv_X7_needCard (m_X7_needCard (a0 := a0) (r0 := r0) (r1 := r1) (q1_0 := q1_0) (r2 := r2) hg hx1) [0, 1, 2, 3, 4, 5, 6, 7, 8, 9, 10, 11, 12, 13, 14, 15, 16] [] rfl rfl ⟨by decide, by decide⟩ (Nat.le_of_ble_eq_true rfl) ⟨by decide, by decide⟩ rfl rfl rfl rfl rfl rfl rfl (by decide) (ex_k C (cs' := 0) (ss' := 0) (wF := (wX7 g a0 r0 s0 ++ wX1 g (r0 3) r1 q1_0 s1 ++ wX5 g q1_0 r2 s2)) [0, 1, 2, 3, 4, 5, 6, 7, 8, 9, 10, 11, 12, 13, 14, 15, 16] rfl rfl ?_)
  replace h := ob_e h
  obtain ⟨x2, hx2, h⟩ := h
  refine z_callV (pc := 10) (As := [.int x1]) (rest := []) (wr := (wX7 g a0 r0 s0 ++ wX5 g q1_0 r2 s2)) C dX7_colorsOf_10 ml_RX7_202 wv_X1_kindsLeftFor (m_X1_kindsLeftFor (a0 := (r0 3)) (r0 := r1) (q0_0 := q1_0) hg hx2) [4, 5, 6, 7, 8, 9, 10, 11, 12] [0, 1, 2, 3, 13, 14, 15, 16] rfl rfl ⟨by decide, by decide⟩ (Nat.le_of_ble_eq_true rfl) ⟨by decide, by decide⟩ rfl rfl rfl rfl rfl rfl rfl (by decide) (ex_k C (cs' := 0) (ss' := 0) (wF := (wX7 g a0 r0 s0 ++ wX1 g (r0 3) r1 q1_0 s1 ++ wX5 g q1_0 r2 s2)) [0, 1, 2, 3, 8, 9, 10, 11, 12, 13, 14, 15, 16, 4, 5, 6, 7] rfl rfl ?_)
  replace h := ob_e h
  obtain ⟨x3, hx3, h⟩ := h
  refine z_callS (pc := 13) (As := [.int x2]) (rest := []) (wr := (wX7 g a0 r0 s0 ++ wX1 g (r0 3) r1 q1_0 s1 ++ wX5 g q1_0 r2 s2)) C dX7_colorsOf_13 ml_RX7_205 wt_X7_colorsIn (m_X7_colorsIn hg hx3) [] [0, 1, 2, 3, 4, 5, 6, 7, 8, 9, 10, 11, 12, 13, 14, 15, 16] rfl rfl ⟨by decide, by decide⟩ (Nat.le_of_ble_eq_true rfl) ⟨by decide, by decide⟩ rfl rfl rfl rfl (by decide) (ex_k C (cs' := 0) (ss' := 0) (wF := (wX7 g a0 r0 s0 ++ wX1 g (r0 3) r1 q1_0 s1 ++ wX5 g q1_0 r2 s2)) [0, 1, 2, 3, 4, 5, 6, 7, 8, 9, 10, 11, 12, 13, 14, 15, 16] rfl rfl ?_)
  exact z_iret C X dX7_colorsOf_16 (by rw [← Option.some.inj h]; exact ⟨rfl, rfl⟩) (by decide) (by decide)
def F_X7_ranksIn_4 (N : Nat) (p0 : Int32)  (k4 : Int32 → Int32 → Option (Int32)) (v1 : Int32) (v2 : Int32) : Option (Int32) := (if (5 : Int32) < v2 then (some v1) else (ob (f_X7_kindsOfWord N (1 : Int32) v2) fun x1 => (if (p0 &&& x1) = 0 then (k4 v1 (v2 + (1 : Int32))) else (k4 (v1 ||| ((1 : Int32) <<< ((v2 - (1 : Int32)) &&& 31))) (v2 + (1 : Int32))))))
def f_X7_ranksIn_4 (N : Nat) (p0 : Int32)  : Nat → Int32 → Int32 → Option (Int32) := zlp (fun _ _ => none) (F_X7_ranksIn_4 N p0)
theorem m_X7_ranksIn_4 {K : Kt} {g : Gp}  {N : Nat} {p0 : Int32} {res : Int32} (hg : Ok g) (C : Cx K g cX7_ranksIn RX7 3 (zrm 1 21)) (X : Rx K (exR (some (.int res)) ([] : va_W)) 0 0 (some .int)) : ∀ (n : Nat) (v1 : Int32) (v2 : Int32), f_X7_ranksIn_4 N p0 n v1 v2 = some res → Zs K 0 0 ([] : va_W) [(0, .int p0), (1, .int v1), (2, .int v2)] 4 [] := by
  intro n
  induction n with
  | zero => intro v1 v2 h; exact nomatch (show (none : Option (Int32)) = some res from h)
  | succ n hk4 =>
    intro v1 v2 h
    replace h : F_X7_ranksIn_4 N p0 (f_X7_ranksIn_4 N p0 n) v1 v2 = some res := h
    unfold F_X7_ranksIn_4 at h
    refine z_iload_n (pc := 4) (x := v2) C dX7_ranksIn_4 (i := 2) rfl rfl ?_
    refine z_iconst (pc := 5) C dX7_ranksIn_5 ic_5 ?_
    refine z_icmp_gt (pc := 6) C dX7_ranksIn_6 (tgt := 33) (by decide) (fun hc => ?_) (fun hc => ?_)
    · replace h := (ite_e h).1 hc
      refine z_iload_n (pc := 33) (x := v1) C dX7_ranksIn_33 (i := 1) rfl rfl ?_
      exact z_iret C X dX7_ranksIn_34 (by rw [← Option.some.inj h]; exact ⟨rfl, rfl⟩) (by decide) (by decide)
    · replace h := (ite_e h).2 hc
      refine z_iload_n (pc := 9) (x := p0) C dX7_ranksIn_9 (i := 0) rfl rfl ?_
      refine z_iconst (pc := 10) C dX7_ranksIn_10 ic_1 ?_
      refine z_iload_n (pc := 11) (x := v2) C dX7_ranksIn_11 (i := 2) rfl rfl ?_
      replace h := ob_e h
      obtain ⟨x1, hx1, h⟩ := h
      refine z_callS (pc := 12) (As := [.int (1 : Int32), .int v2]) (rest := [.int p0]) (wr := ([] : va_W)) C dX7_ranksIn_12 ml_RX7_242 wt_X7_kindsOfWord (m_X7_kindsOfWord hg hx1) [] [] rfl rfl ⟨by decide, by decide⟩ (Nat.le_of_ble_eq_true rfl) ⟨by decide, by decide⟩ rfl rfl rfl rfl (by decide) (ex_k C (cs' := 0) (ss' := 0) (wF := ([] : va_W)) [] rfl rfl ?_)
      refine z_iand (pc := 15) C dX7_ranksIn_15 ?_
      refine z_if_eq (pc := 16) C dX7_ranksIn_16 (tgt := 27) (by decide) (fun hc => ?_) (fun hc => ?_)
      · replace h := (ite_e h).1 hc
        refine z_iinc (pc := 27) C dX7_ranksIn_27 rfl (inc_e 1 (1 : Int32) ic_1 v2) (by decide) (lv' := [(2, .int (v2 + (1 : Int32))), (0, .int p0), (1, .int v1)]) rfl ?_
        refine z_goto (pc := 30) C dX7_ranksIn_30 (tgt := 4) (by decide) ?_
        refine z_lv (lv' := [(0, .int p0), (1, .int v1), (2, .int (v2 + (1 : Int32)))]) [1, 2, 0] rfl ?_
        exact hk4 v1 (v2 + (1 : Int32)) h
      · replace h := (ite_e h).2 hc
        refine z_iload_n (pc := 19) (x := v1) C dX7_ranksIn_19 (i := 1) rfl rfl ?_
        refine z_iconst (pc := 20) C dX7_ranksIn_20 ic_1 ?_
        refine z_iload_n (pc := 21) (x := v2) C dX7_ranksIn_21 (i := 2) rfl rfl ?_
        refine z_iconst (pc := 22) C dX7_ranksIn_22 ic_1 ?_
        refine z_isub (pc := 23) C dX7_ranksIn_23 ?_
        refine z_ishl (pc := 24) C dX7_ranksIn_24 ?_
        refine z_ior (pc := 25) C dX7_ranksIn_25 ?_
        refine z_istore_n (pc := 26) C dX7_ranksIn_26 (i := 1) rfl (by decide) (lv' := [(1, .int (v1 ||| ((1 : Int32) <<< ((v2 - (1 : Int32)) &&& 31)))), (0, .int p0), (2, .int v2)]) rfl ?_
        refine z_iinc (pc := 27) C dX7_ranksIn_27 rfl (inc_e 1 (1 : Int32) ic_1 v2) (by decide) (lv' := [(2, .int (v2 + (1 : Int32))), (1, .int (v1 ||| ((1 : Int32) <<< ((v2 - (1 : Int32)) &&& 31)))), (0, .int p0)]) rfl ?_
        refine z_goto (pc := 30) C dX7_ranksIn_30 (tgt := 4) (by decide) ?_
        refine z_lv (lv' := [(0, .int p0), (1, .int (v1 ||| ((1 : Int32) <<< ((v2 - (1 : Int32)) &&& 31)))), (2, .int (v2 + (1 : Int32)))]) [2, 1, 0] rfl ?_
        exact hk4 (v1 ||| ((1 : Int32) <<< ((v2 - (1 : Int32)) &&& 31))) (v2 + (1 : Int32)) h
def f_X7_ranksIn (N : Nat) (p0 : Int32) : Option (Int32) := (f_X7_ranksIn_4 N p0 N (0 : Int32) (1 : Int32))
theorem m_X7_ranksIn {g : Gp}  {N : Nat} {p0 : Int32} {res : Int32} (hg : Ok g) (h : f_X7_ranksIn N p0 = some res) : Ct g yX7_ranksIn cX7_ranksIn 3 (some .int) (zrm 1 21) [.int p0] ([] : va_W) (exR (some (.int res)) ([] : va_W)) := by
  refine ct_of rfl hg (by show _ ≤ _; exact Nat.le_of_ble_eq_true rfl) (fun K C X => ?_)
  show Zs K 0 0 ([] : va_W) [(0, .int p0)] 0 []
  unfold f_X7_ranksIn at h
  refine z_iconst (pc := 0) C dX7_ranksIn_0 ic_0 ?_
  refine z_istore_n (pc := 1) C dX7_ranksIn_1 (i := 1) rfl (by decide) (lv' := [(1, .int (0 : Int32)), (0, .int p0)]) rfl ?_
  refine z_iconst (pc := 2) C dX7_ranksIn_2 ic_1 ?_
  refine z_istore_n (pc := 3) C dX7_ranksIn_3 (i := 2) rfl (by decide) (lv' := [(2, .int (1 : Int32)), (1, .int (0 : Int32)), (0, .int p0)]) rfl ?_
  refine z_lv (lv' := [(0, .int p0), (1, .int (0 : Int32)), (2, .int (1 : Int32))]) [2, 1, 0] rfl ?_
  exact m_X7_ranksIn_4 hg C X N (0 : Int32) (1 : Int32) h
def f_X7_ranksOf (N : Nat) (s0 : Ob) (s1 : Ob) (s2 : Ob) (p1 : Int32) (p2 : Int32) : Option (Int32) := (ob (f_X7_needCard N s0 s1 s2 p1 p2) fun x1 => (ob (f_X1_kindsLeftFor N s1 x1) fun x2 => (ob (f_X7_ranksIn N x2) fun x3 => (some x3))))
theorem m_X7_ranksOf {g : Gp} {a0 : Nat} {r0 : Nat → Nat} {r1 : Nat → Nat} {q1_0 : Nat} {r2 : Nat → Nat} {N : Nat} {s0 : Ob} {s1 : Ob} {s2 : Ob} {p1 : Int32} {p2 : Int32} {res : Int32} (hg : Ok g) (h : f_X7_ranksOf N s0 s1 s2 p1 p2 = some res) : Ct g yX7_ranksOf cX7_ranksOf 3 (some .int) (zrm 2 46) [.ref a0, .int p1, .int p2] (wX7 g a0 r0 s0 ++ wX1 g (r0 3) r1 q1_0 s1 ++ wX5 g q1_0 r2 s2) (exR (some (.int res)) (wX7 g a0 r0 s0 ++ wX1 g (r0 3) r1 q1_0 s1 ++ wX5 g q1_0 r2 s2)) := by
  refine ct_of rfl hg (by show _ ≤ _; exact Nat.le_of_ble_eq_true rfl) (fun K C X => ?_)
  show Zs K 0 0 (wX7 g a0 r0 s0 ++ wX1 g (r0 3) r1 q1_0 s1 ++ wX5 g q1_0 r2 s2) [(0, .ref a0), (1, .int p1), (2, .int p2)] 0 []
  unfold f_X7_ranksOf at h
  refine z_aload_n (pc := 0) (x := a0) C dX7_ranksOf_0 (i := 0) rfl rfl ?_
  refine z_get (pc := 1) (v := .ref (r0 3)) C 0 dX7_ranksOf_1 fl_RX7_67 rfl rfl ?_
  refine z_aload_n (pc := 4) (x := a0) C dX7_ranksOf_4 (i := 0) rfl rfl ?_
  refine z_iload_n (pc := 5) (x := p1) C dX7_ranksOf_5 (i := 1) rfl rfl ?_
  refine z_iload_n (pc := 6) (x := p2) C dX7_ranksOf_6 (i := 2) rfl rfl ?_
  replace h := ob_e h
  obtain ⟨x1, hx1, h⟩ := h
  refine z_callV (pc := 7) (As := [.int p1, .int p2]) (rest := [.ref (r0 3)]) (wr := ([] : va_W)) C dX7_ranksOf_7 ml_RX7_170 wv_X7_needCard (m_X7_needCard (a0 := a0) (r0 := r0) (r1 := r1) (q1_0 := q1_0) (r2 := r2) hg hx1) [0, 1, 2, 3, 4, 5, 6, 7, 8, 9, 10, 11, 12, 13, 14, 15, 16] [] rfl rfl ⟨by decide, by decide⟩ (Nat.le_of_ble_eq_true rfl) ⟨by decide, by decide⟩ rfl rfl rfl rfl rfl rfl rfl (by decide) (ex_k C (cs' := 0) (ss' := 0) (wF := (wX7 g a0 r0 s0 ++ wX1 g (r0 3) r1 q1_0 s1 ++ wX5 g q1_0 r2 s2)) [0, 1, 2, 3, 4, 5, 6, 7, 8, 9, 10, 11, 12, 13, 14, 15, 16] rfl rfl ?_)
  replace h := ob_e h
  obtain ⟨x2, hx2, h⟩ := h
  refine z_callV (pc := 10) (As := [.int x1]) (rest := []) (wr := (wX7 g a0 r0 s0 ++ wX5 g q1_0 r2 s2)) C dX7_ranksOf_10 ml_RX7_202 wv_X1_kindsLeftFor (m_X1_kindsLeftFor (a0 := (r0 3)) (r0 := r1) (q0_0 := q1_0) hg hx2) [4, 5, 6, 7, 8, 9, 10, 11, 12] [0, 1, 2, 3, 13, 14, 15, 16] rfl rfl ⟨by decide, by decide⟩ (Nat.le_of_ble_eq_true rfl) ⟨by decide, by decide⟩ rfl rfl rfl rfl rfl rfl rfl (by decide) (ex_k C (cs' := 0) (ss' := 0) (wF := (wX7 g a0 r0 s0 ++ wX1 g (r0 3) r1 q1_0 s1 ++ wX5 g q1_0 r2 s2)) [0, 1, 2, 3, 8, 9, 10, 11, 12, 13, 14, 15, 16, 4, 5, 6, 7] rfl rfl ?_)
  replace h := ob_e h
  obtain ⟨x3, hx3, h⟩ := h
  refine z_callS (pc := 13) (As := [.int x2]) (rest := []) (wr := (wX7 g a0 r0 s0 ++ wX1 g (r0 3) r1 q1_0 s1 ++ wX5 g q1_0 r2 s2)) C dX7_ranksOf_13 ml_RX7_208 wt_X7_ranksIn (m_X7_ranksIn hg hx3) [] [0, 1, 2, 3, 4, 5, 6, 7, 8, 9, 10, 11, 12, 13, 14, 15, 16] rfl rfl ⟨by decide, by decide⟩ (Nat.le_of_ble_eq_true rfl) ⟨by decide, by decide⟩ rfl rfl rfl rfl (by decide) (ex_k C (cs' := 0) (ss' := 0) (wF := (wX7 g a0 r0 s0 ++ wX1 g (r0 3) r1 q1_0 s1 ++ wX5 g q1_0 r2 s2)) [0, 1, 2, 3, 4, 5, 6, 7, 8, 9, 10, 11, 12, 13, 14, 15, 16] rfl rfl ?_)
  exact z_iret C X dX7_ranksOf_16 (by rw [← Option.some.inj h]; exact ⟨rfl, rfl⟩) (by decide) (by decide)
def f_X7_isTouched (N : Nat) (s0 : Ob) (s1 : Ob) (s2 : Ob) (p1 : Int32) (p2 : Int32) : Option (Int32) := (ob (f_X7_needCard N s0 s1 s2 p1 p2) fun x1 => (ob (f_X1_wasTouched N s1 x1) fun x2 => (chk (zisB x2) (some x2))))
theorem m_X7_isTouched {g : Gp} {a0 : Nat} {r0 : Nat → Nat} {r1 : Nat → Nat} {q1_0 : Nat} {r2 : Nat → Nat} {N : Nat} {s0 : Ob} {s1 : Ob} {s2 : Ob} {p1 : Int32} {p2 : Int32} {res : Int32} (hg : Ok g) (h : f_X7_isTouched N s0 s1 s2 p1 p2 = some res) : Ct g yX7_isTouched cX7_isTouched 3 (some .boolean) (zrm 2 46) [.ref a0, .int p1, .int p2] (wX7 g a0 r0 s0 ++ wX1 g (r0 3) r1 q1_0 s1 ++ wX5 g q1_0 r2 s2) (exR (some (.int res)) (wX7 g a0 r0 s0 ++ wX1 g (r0 3) r1 q1_0 s1 ++ wX5 g q1_0 r2 s2)) := by
  refine ct_of rfl hg (by show _ ≤ _; exact Nat.le_of_ble_eq_true rfl) (fun K C X => ?_)
  show Zs K 0 0 (wX7 g a0 r0 s0 ++ wX1 g (r0 3) r1 q1_0 s1 ++ wX5 g q1_0 r2 s2) [(0, .ref a0), (1, .int p1), (2, .int p2)] 0 []
  unfold f_X7_isTouched at h
  refine z_aload_n (pc := 0) (x := a0) C dX7_isTouched_0 (i := 0) rfl rfl ?_
  refine z_get (pc := 1) (v := .ref (r0 3)) C 0 dX7_isTouched_1 fl_RX7_67 rfl rfl ?_
  refine z_aload_n (pc := 4) (x := a0) C dX7_isTouched_4 (i := 0) rfl rfl ?_
  refine z_iload_n (pc := 5) (x := p1) C dX7_isTouched_5 (i := 1) rfl rfl ?_
  refine z_iload_n (pc := 6) (x := p2) C dX7_isTouched_6 (i := 2) rfl rfl ?_
  replace h := ob_e h
  obtain ⟨x1, hx1, h⟩ := h
  refine z_callV (pc := 7) (As := [.int p1, .int p2]) (rest := [.ref (r0 3)]) (wr := ([] : va_W)) C dX7_isTouched_7 ml_RX7_170 wv_X7_needCard (m_X7_needCard (a0 := a0) (r0 := r0) (r1 := r1) (q1_0 := q1_0) (r2 := r2) hg hx1) [0, 1, 2, 3, 4, 5, 6, 7, 8, 9, 10, 11, 12, 13, 14, 15, 16] [] rfl rfl ⟨by decide, by decide⟩ (Nat.le_of_ble_eq_true rfl) ⟨by decide, by decide⟩ rfl rfl rfl rfl rfl rfl rfl (by decide) (ex_k C (cs' := 0) (ss' := 0) (wF := (wX7 g a0 r0 s0 ++ wX1 g (r0 3) r1 q1_0 s1 ++ wX5 g q1_0 r2 s2)) [0, 1, 2, 3, 4, 5, 6, 7, 8, 9, 10, 11, 12, 13, 14, 15, 16] rfl rfl ?_)
  replace h := ob_e h
  obtain ⟨x2, hx2, h⟩ := h
  refine z_callV (pc := 10) (As := [.int x1]) (rest := []) (wr := (wX7 g a0 r0 s0 ++ wX5 g q1_0 r2 s2)) C dX7_isTouched_10 ml_RX7_211 wv_X1_wasTouched (m_X1_wasTouched (a0 := (r0 3)) (r0 := r1) (q0_0 := q1_0) hg hx2) [4, 5, 6, 7, 8, 9, 10, 11, 12] [0, 1, 2, 3, 13, 14, 15, 16] rfl rfl ⟨by decide, by decide⟩ (Nat.le_of_ble_eq_true rfl) ⟨by decide, by decide⟩ rfl rfl rfl rfl rfl rfl rfl (by decide) (ex_k C (cs' := 0) (ss' := 0) (wF := (wX7 g a0 r0 s0 ++ wX1 g (r0 3) r1 q1_0 s1 ++ wX5 g q1_0 r2 s2)) [0, 1, 2, 3, 8, 9, 10, 11, 12, 13, 14, 15, 16, 4, 5, 6, 7] rfl rfl ?_)
  replace h := chk_e h
  obtain ⟨hb3, h⟩ := h
  exact z_zret C X dX7_isTouched_13 (zisB_nar hb3) (by rw [← Option.some.inj h]; exact ⟨rfl, rfl⟩) (by decide) (by decide)
def f_X7_possibleKinds (N : Nat) (s0 : Ob) (s1 : Ob) (s2 : Ob) (s3 : Ob) (p1 : Int32) (p2 : Int32) : Option (Int32 × Ob) := (ob (f_X2_unseenKinds N s1 s2 s3 p1) fun x1 => (ob (f_X1_kindsLeftFor N s2 p2) fun x2 => (some ((x1.1 &&& x2), x1.2))))
theorem m_X7_possibleKinds {g : Gp} {a0 : Nat} {r0 : Nat → Nat} {r1 : Nat → Nat} {r2 : Nat → Nat} {q2_0 : Nat} {r3 : Nat → Nat} {N : Nat} {s0 : Ob} {s1 : Ob} {s2 : Ob} {s3 : Ob} {p1 : Int32} {p2 : Int32} {res : Int32 × Ob} (hg : Ok g) (h : f_X7_possibleKinds N s0 s1 s2 s3 p1 p2 = some res) : Ct g yX7_possibleKinds cX7_possibleKinds 3 (some .int) (zrm 3 67) [.ref a0, .int p1, .int p2] (wX7 g a0 r0 s0 ++ wX2 g (r0 10) r1 s1 ++ wX1 g (r0 3) r2 q2_0 s2 ++ wX5 g q2_0 r3 s3) (exR (some (.int res.1)) (wX7 g a0 r0 s0 ++ wX2 g (r0 10) r1 res.2 ++ wX1 g (r0 3) r2 q2_0 s2 ++ wX5 g q2_0 r3 s3)) := by
  refine ct_of rfl hg (by show _ ≤ _; exact Nat.le_of_ble_eq_true rfl) (fun K C X => ?_)
  show Zs K 0 0 (wX7 g a0 r0 s0 ++ wX2 g (r0 10) r1 s1 ++ wX1 g (r0 3) r2 q2_0 s2 ++ wX5 g q2_0 r3 s3) [(0, .ref a0), (1, .int p1), (2, .int p2)] 0 []
  unfold f_X7_possibleKinds at h
  refine z_aload_n (pc := 0) (x := a0) C dX7_possibleKinds_0 (i := 0) rfl rfl ?_
  refine z_get (pc := 1) (v := .ref (r0 10)) C 0 dX7_possibleKinds_1 fl_RX7_38 rfl rfl ?_
  refine z_aload_n (pc := 4) (x := a0) C dX7_possibleKinds_4 (i := 0) rfl rfl ?_
  refine z_get (pc := 5) (v := .ref (r0 3)) C 0 dX7_possibleKinds_5 fl_RX7_67 rfl rfl ?_
  refine z_iload_n (pc := 8) (x := p1) C dX7_possibleKinds_8 (i := 1) rfl rfl ?_
  replace h := ob_e h
  obtain ⟨x1, hx1, h⟩ := h
  refine z_callV (pc := 9) (As := [.ref (r0 3), .int p1]) (rest := []) (wr := (wX7 g a0 r0 s0)) C dX7_possibleKinds_9 ml_RX7_248 wv_X2_unseenKinds (m_X2_unseenKinds (a0 := (r0 10)) (a1 := (r0 3)) (r0 := r1) (r1 := r2) (q1_0 := q2_0) (r2 := r3) hg hx1) [4, 5, 6, 7, 8, 9, 10, 11, 12, 13, 14, 15, 16, 17, 18] [0, 1, 2, 3] rfl rfl ⟨by decide, by decide⟩ (Nat.le_of_ble_eq_true rfl) ⟨by decide, by decide⟩ rfl rfl rfl rfl rfl rfl rfl (by decide) (ex_k C (cs' := 0) (ss' := 0) (wF := (wX7 g a0 r0 s0 ++ wX2 g (r0 10) r1 x1.2 ++ wX1 g (r0 3) r2 q2_0 s2 ++ wX5 g q2_0 r3 s3)) [0, 1, 2, 3, 4, 5, 6, 7, 8, 9, 10, 11, 12, 13, 14, 15, 16, 17, 18] rfl rfl ?_)
  refine z_aload_n (pc := 12) (x := a0) C dX7_possibleKinds_12 (i := 0) rfl rfl ?_
  refine z_get (pc := 13) (v := .ref (r0 3)) C 0 dX7_possibleKinds_13 fl_RX7_67 rfl rfl ?_
  refine z_iload_n (pc := 16) (x := p2) C dX7_possibleKinds_16 (i := 2) rfl rfl ?_
  replace h := ob_e h
  obtain ⟨x2, hx2, h⟩ := h
  refine z_callV (pc := 17) (As := [.int p2]) (rest := [.int x1.1]) (wr := (wX7 g a0 r0 s0 ++ wX2 g (r0 10) r1 x1.2 ++ wX5 g q2_0 r3 s3)) C dX7_possibleKinds_17 ml_RX7_202 wv_X1_kindsLeftFor (m_X1_kindsLeftFor (a0 := (r0 3)) (r0 := r2) (q0_0 := q2_0) hg hx2) [6, 7, 8, 9, 10, 11, 12, 13, 14] [0, 1, 2, 3, 4, 5, 15, 16, 17, 18] rfl rfl ⟨by decide, by decide⟩ (Nat.le_of_ble_eq_true rfl) ⟨by decide, by decide⟩ rfl rfl rfl rfl rfl rfl rfl (by decide) (ex_k C (cs' := 0) (ss' := 0) (wF := (wX7 g a0 r0 s0 ++ wX2 g (r0 10) r1 x1.2 ++ wX1 g (r0 3) r2 q2_0 s2 ++ wX5 g q2_0 r3 s3)) [0, 1, 2, 3, 4, 5, 10, 11, 12, 13, 14, 15, 16, 17, 18, 6, 7, 8, 9] rfl rfl ?_)
  refine z_iand (pc := 20) C dX7_possibleKinds_20 ?_
  exact z_iret C X dX7_possibleKinds_21 (by rw [← Option.some.inj h]; exact ⟨rfl, rfl⟩) (by decide) (by decide)
def f_X7_thinks (N : Nat) (s0 : Ob) (s1 : Ob) (s2 : Ob) (s3 : Ob) (p1 : Int32) (p2 : Int32) : Option (Int32 × Ob) := (ob (f_X7_needCard N s0 s1 s2 p1 p2) fun x1 => (ob (f_X7_possibleKinds N s0 s3 s1 s2 p1 x1) fun x2 => (ob (f_J6_bitCount_0f7a4 N x2.1) fun x3 => (some (x3, x2.2)))))
theorem m_X7_thinks {g : Gp} {a0 : Nat} {r0 : Nat → Nat} {r1 : Nat → Nat} {q1_0 : Nat} {r2 : Nat → Nat} {r3 : Nat → Nat} {N : Nat} {s0 : Ob} {s1 : Ob} {s2 : Ob} {s3 : Ob} {p1 : Int32} {p2 : Int32} {res : Int32 × Ob} (hg : Ok g) (h : f_X7_thinks N s0 s1 s2 s3 p1 p2 = some res) : Ct g yX7_thinks cX7_thinks 3 (some .int) (zrm 4 89) [.ref a0, .int p1, .int p2] (wX7 g a0 r0 s0 ++ wX1 g (r0 3) r1 q1_0 s1 ++ wX5 g q1_0 r2 s2 ++ wX2 g (r0 10) r3 s3) (exR (some (.int res.1)) (wX7 g a0 r0 s0 ++ wX1 g (r0 3) r1 q1_0 s1 ++ wX5 g q1_0 r2 s2 ++ wX2 g (r0 10) r3 res.2)) := by
  refine ct_of rfl hg (by show _ ≤ _; exact Nat.le_of_ble_eq_true rfl) (fun K C X => ?_)
  show Zs K 0 0 (wX7 g a0 r0 s0 ++ wX1 g (r0 3) r1 q1_0 s1 ++ wX5 g q1_0 r2 s2 ++ wX2 g (r0 10) r3 s3) [(0, .ref a0), (1, .int p1), (2, .int p2)] 0 []
  unfold f_X7_thinks at h
  refine z_aload_n (pc := 0) (x := a0) C dX7_thinks_0 (i := 0) rfl rfl ?_
  refine z_iload_n (pc := 1) (x := p1) C dX7_thinks_1 (i := 1) rfl rfl ?_
  refine z_aload_n (pc := 2) (x := a0) C dX7_thinks_2 (i := 0) rfl rfl ?_
  refine z_iload_n (pc := 3) (x := p1) C dX7_thinks_3 (i := 1) rfl rfl ?_
  refine z_iload_n (pc := 4) (x := p2) C dX7_thinks_4 (i := 2) rfl rfl ?_
  replace h := ob_e h
  obtain ⟨x1, hx1, h⟩ := h
  refine z_callV (pc := 5) (As := [.int p1, .int p2]) (rest := [.int p1, .ref a0]) (wr := (wX2 g (r0 10) r3 s3)) C dX7_thinks_5 ml_RX7_170 wv_X7_needCard (m_X7_needCard (a0 := a0) (r0 := r0) (r1 := r1) (q1_0 := q1_0) (r2 := r2) hg hx1) [0, 1, 2, 3, 4, 5, 6, 7, 8, 9, 10, 11, 12, 13, 14, 15, 16] [17, 18] rfl rfl ⟨by decide, by decide⟩ (Nat.le_of_ble_eq_true rfl) ⟨by decide, by decide⟩ rfl rfl rfl rfl rfl rfl rfl (by decide) (ex_k C (cs' := 0) (ss' := 0) (wF := (wX7 g a0 r0 s0 ++ wX1 g (r0 3) r1 q1_0 s1 ++ wX5 g q1_0 r2 s2 ++ wX2 g (r0 10) r3 s3)) [2, 3, 4, 5, 6, 7, 8, 9, 10, 11, 12, 13, 14, 15, 16, 17, 18, 0, 1] rfl rfl ?_)
  replace h := ob_e h
  obtain ⟨x2, hx2, h⟩ := h
  refine z_callV (pc := 8) (As := [.int p1, .int x1]) (rest := []) (wr := ([] : va_W)) C dX7_thinks_8 ml_RX7_214 wv_X7_possibleKinds (m_X7_possibleKinds (a0 := a0) (r0 := r0) (r1 := r3) (r2 := r1) (q2_0 := q1_0) (r3 := r2) hg hx2) [0, 1, 2, 3, 17, 18, 4, 5, 6, 7, 8, 9, 10, 11, 12, 13, 14, 15, 16] [] rfl rfl ⟨by decide, by decide⟩ (Nat.le_of_ble_eq_true rfl) ⟨by decide, by decide⟩ rfl rfl rfl rfl rfl rfl rfl (by decide) (ex_k C (cs' := 0) (ss' := 0) (wF := (wX7 g a0 r0 s0 ++ wX1 g (r0 3) r1 q1_0 s1 ++ wX5 g q1_0 r2 s2 ++ wX2 g (r0 10) r3 x2.2)) [0, 1, 2, 3, 6, 7, 8, 9, 10, 11, 12, 13, 14, 15, 16, 17, 18, 4, 5] rfl rfl ?_)
  replace h := ob_e h
  obtain ⟨x3, hx3, h⟩ := h
  refine z_callS (pc := 11) (As := [.int x2.1]) (rest := []) (wr := (wX7 g a0 r0 s0 ++ wX1 g (r0 3) r1 q1_0 s1 ++ wX5 g q1_0 r2 s2 ++ wX2 g (r0 10) r3 x2.2)) C dX7_thinks_11 ml_RX7_217 wt_J6_bitCount_0f7a4 (m_J6_bitCount_0f7a4 hg hx3) [] [0, 1, 2, 3, 4, 5, 6, 7, 8, 9, 10, 11, 12, 13, 14, 15, 16, 17, 18] rfl rfl ⟨by decide, by decide⟩ (Nat.le_of_ble_eq_true rfl) ⟨by decide, by decide⟩ rfl rfl rfl rfl (by decide) (ex_k C (cs' := 0) (ss' := 0) (wF := (wX7 g a0 r0 s0 ++ wX1 g (r0 3) r1 q1_0 s1 ++ wX5 g q1_0 r2 s2 ++ wX2 g (r0 10) r3 x2.2)) [0, 1, 2, 3, 4, 5, 6, 7, 8, 9, 10, 11, 12, 13, 14, 15, 16, 17, 18] rfl rfl ?_)
  exact z_iret C X dX7_thinks_14 (by rw [← Option.some.inj h]; exact ⟨rfl, rfl⟩) (by decide) (by decide)
def F_X7_thought_19 (N : Nat) (s0 : Ob) (s1 : Ob) (s2 : Ob) (p1 : Int32) (p2 : Int32) (p3 : Int32)  (k19 : Int32 → Int32 → Int32 → Ob → Option (Int32 × Ob)) (v4 : Int32) (v5 : Int32) (v6 : Int32) (s3 : Ob) : Option (Int32 × Ob) := (if (20 : Int32) ≤ v6 then (some ((-1 : Int32), s3)) else (ob (f_X7_isIn N v6 v4) fun x3 => (if x3 = 0 then (k19 v4 v5 (v6 + (1 : Int32)) s3) else (if v5 = p3 then (ob (f_X7_codeOf N v6) fun x4 => (some (x4, s3))) else (k19 v4 (v5 + (1 : Int32)) (v6 + (1 : Int32)) s3)))))
def f_X7_thought_19 (N : Nat) (s0 : Ob) (s1 : Ob) (s2 : Ob) (p1 : Int32) (p2 : Int32) (p3 : Int32)  : Nat → Int32 → Int32 → Int32 → Ob → Option (Int32 × Ob) := zlp (fun _ _ _ _ => none) (F_X7_thought_19 N s0 s1 s2 p1 p2 p3)
theorem m_X7_thought_19 {K : Kt} {g : Gp} {a0 : Nat} {r0 : Nat → Nat} {r1 : Nat → Nat} {q1_0 : Nat} {r2 : Nat → Nat} {r3 : Nat → Nat} {N : Nat} {s0 : Ob} {s1 : Ob} {s2 : Ob} {p1 : Int32} {p2 : Int32} {p3 : Int32} {res : Int32 × Ob} (hg : Ok g) (C : Cx K g cX7_thought RX7 7 (zrm 4 89)) (X : Rx K (exR (some (.int res.1)) (wX7 g a0 r0 s0 ++ wX1 g (r0 3) r1 q1_0 s1 ++ wX5 g q1_0 r2 s2 ++ wX2 g (r0 10) r3 res.2)) 0 0 (some .int)) : ∀ (n : Nat) (v4 : Int32) (v5 : Int32) (v6 : Int32) (s3 : Ob), f_X7_thought_19 N s0 s1 s2 p1 p2 p3 n v4 v5 v6 s3 = some res → Zs K 0 0 (wX7 g a0 r0 s0 ++ wX1 g (r0 3) r1 q1_0 s1 ++ wX5 g q1_0 r2 s2 ++ wX2 g (r0 10) r3 s3) [(3, .int p3), (4, .int v4), (5, .int v5), (6, .int v6)] 19 [] := by
  intro n
  induction n with
  | zero => intro v4 v5 v6 s3 h; exact nomatch (show (none : Option (Int32 × Ob)) = some res from h)
  | succ n hk19 =>
    intro v4 v5 v6 s3 h
    replace h : F_X7_thought_19 N s0 s1 s2 p1 p2 p3 (f_X7_thought_19 N s0 s1 s2 p1 p2 p3 n) v4 v5 v6 s3 = some res := h
    unfold F_X7_thought_19 at h
    refine z_iload (pc := 19) (x := v6) C dX7_thought_19 rfl ?_
    refine z_bipush (pc := 21) C dX7_thought_21 bp_20 ?_
    refine z_icmp_ge (pc := 23) C dX7_thought_23 (tgt := 57) (by decide) (fun hc => ?_) (fun hc => ?_)
    · replace h := (ite_e h).1 hc
      refine z_iconst (pc := 57) C dX7_thought_57 ic_m1 ?_
      exact z_iret C X dX7_thought_58 (by rw [← Option.some.inj h]; exact ⟨rfl, rfl⟩) (by decide) (by decide)
    · replace h := (ite_e h).2 hc
      refine z_iload (pc := 26) (x := v6) C dX7_thought_26 rfl ?_
      refine z_iload (pc := 28) (x := v4) C dX7_thought_28 rfl ?_
      replace h := ob_e h
      obtain ⟨x3, hx3, h⟩ := h
      refine z_callS (pc := 30) (As := [.int v6, .int v4]) (rest := []) (wr := (wX7 g a0 r0 s0 ++ wX1 g (r0 3) r1 q1_0 s1 ++ wX5 g q1_0 r2 s2 ++ wX2 g (r0 10) r3 s3)) C dX7_thought_30 ml_RX7_222 wt_X7_isIn (m_X7_isIn hg hx3) [] [0, 1, 2, 3, 4, 5, 6, 7, 8, 9, 10, 11, 12, 13, 14, 15, 16, 17, 18] rfl rfl ⟨by decide, by decide⟩ (Nat.le_of_ble_eq_true rfl) ⟨by decide, by decide⟩ rfl rfl rfl rfl (by decide) (ex_k C (cs' := 0) (ss' := 0) (wF := (wX7 g a0 r0 s0 ++ wX1 g (r0 3) r1 q1_0 s1 ++ wX5 g q1_0 r2 s2 ++ wX2 g (r0 10) r3 s3)) [0, 1, 2, 3, 4, 5, 6, 7, 8, 9, 10, 11, 12, 13, 14, 15, 16, 17, 18] rfl rfl ?_)
      refine z_if_eq (pc := 33) C dX7_thought_33 (tgt := 51) (by decide) (fun hc => ?_) (fun hc => ?_)
      · replace h := (ite_e h).1 hc
        refine z_iinc (pc := 51) C dX7_thought_51 rfl (inc_e 1 (1 : Int32) ic_1 v6) (by decide) (lv' := [(6, .int (v6 + (1 : Int32))), (3, .int p3), (4, .int v4), (5, .int v5)]) rfl ?_
        refine z_goto (pc := 54) C dX7_thought_54 (tgt := 19) (by decide) ?_
        refine z_lv (lv' := [(3, .int p3), (4, .int v4), (5, .int v5), (6, .int (v6 + (1 : Int32)))]) [1, 2, 3, 0] rfl ?_
        exact hk19 v4 v5 (v6 + (1 : Int32)) s3 h
      · replace h := (ite_e h).2 hc
        refine z_iload (pc := 36) (x := v5) C dX7_thought_36 rfl ?_
        refine z_iload_n (pc := 38) (x := p3) C dX7_thought_38 (i := 3) rfl rfl ?_
        refine z_icmp_ne (pc := 39) C dX7_thought_39 (tgt := 48) (by decide) (fun hc => ?_) (fun hc => ?_)
        · replace h := (ite_e h).2 hc
          refine z_iinc (pc := 48) C dX7_thought_48 rfl (inc_e 1 (1 : Int32) ic_1 v5) (by decide) (lv' := [(5, .int (v5 + (1 : Int32))), (3, .int p3), (4, .int v4), (6, .int v6)]) rfl ?_
          refine z_iinc (pc := 51) C dX7_thought_51 rfl (inc_e 1 (1 : Int32) ic_1 v6) (by decide) (lv' := [(6, .int (v6 + (1 : Int32))), (5, .int (v5 + (1 : Int32))), (3, .int p3), (4, .int v4)]) rfl ?_
          refine z_goto (pc := 54) C dX7_thought_54 (tgt := 19) (by decide) ?_
          refine z_lv (lv' := [(3, .int p3), (4, .int v4), (5, .int (v5 + (1 : Int32))), (6, .int (v6 + (1 : Int32)))]) [2, 3, 1, 0] rfl ?_
          exact hk19 v4 (v5 + (1 : Int32)) (v6 + (1 : Int32)) s3 h
        · replace h := (ite_e h).1 hc
          refine z_iload (pc := 42) (x := v6) C dX7_thought_42 rfl ?_
          replace h := ob_e h
          obtain ⟨x4, hx4, h⟩ := h
          refine z_callS (pc := 44) (As := [.int v6]) (rest := []) (wr := (wX7 g a0 r0 s0 ++ wX1 g (r0 3) r1 q1_0 s1 ++ wX5 g q1_0 r2 s2 ++ wX2 g (r0 10) r3 s3)) C dX7_thought_44 ml_RX7_177 wt_X7_codeOf (m_X7_codeOf hg hx4) [] [0, 1, 2, 3, 4, 5, 6, 7, 8, 9, 10, 11, 12, 13, 14, 15, 16, 17, 18] rfl rfl ⟨by decide, by decide⟩ (Nat.le_of_ble_eq_true rfl) ⟨by decide, by decide⟩ rfl rfl rfl rfl (by decide) (ex_k C (cs' := 0) (ss' := 0) (wF := (wX7 g a0 r0 s0 ++ wX1 g (r0 3) r1 q1_0 s1 ++ wX5 g q1_0 r2 s2 ++ wX2 g (r0 10) r3 s3)) [0, 1, 2, 3, 4, 5, 6, 7, 8, 9, 10, 11, 12, 13, 14, 15, 16, 17, 18] rfl rfl ?_)
          exact z_iret C X dX7_thought_47 (by rw [← Option.some.inj h]; exact ⟨rfl, rfl⟩) (by decide) (by decide)
def f_X7_thought (N : Nat) (s0 : Ob) (s1 : Ob) (s2 : Ob) (s3 : Ob) (p1 : Int32) (p2 : Int32) (p3 : Int32) : Option (Int32 × Ob) := (ob (f_X7_needCard N s0 s1 s2 p1 p2) fun x1 => (ob (f_X7_possibleKinds N s0 s3 s1 s2 p1 x1) fun x2 => (f_X7_thought_19 N s0 s1 s2 p1 p2 p3 N x2.1 (0 : Int32) (0 : Int32) x2.2)))
theorem m_X7_thought {g : Gp} {a0 : Nat} {r0 : Nat → Nat} {r1 : Nat → Nat} {q1_0 : Nat} {r2 : Nat → Nat} {r3 : Nat → Nat} {N : Nat} {s0 : Ob} {s1 : Ob} {s2 : Ob} {s3 : Ob} {p1 : Int32} {p2 : Int32} {p3 : Int32} {res : Int32 × Ob} (hg : Ok g) (h : f_X7_thought N s0 s1 s2 s3 p1 p2 p3 = some res) : Ct g yX7_thought cX7_thought 7 (some .int) (zrm 4 89) [.ref a0, .int p1, .int p2, .int p3] (wX7 g a0 r0 s0 ++ wX1 g (r0 3) r1 q1_0 s1 ++ wX5 g q1_0 r2 s2 ++ wX2 g (r0 10) r3 s3) (exR (some (.int res.1)) (wX7 g a0 r0 s0 ++ wX1 g (r0 3) r1 q1_0 s1 ++ wX5 g q1_0 r2 s2 ++ wX2 g (r0 10) r3 res.2)) := by
  refine ct_of rfl hg (by show _ ≤ _; exact Nat.le_of_ble_eq_true rfl) (fun K C X => ?_)
  show Zs K 0 0 (wX7 g a0 r0 s0 ++ wX1 g (r0 3) r1 q1_0 s1 ++ wX5 g q1_0 r2 s2 ++ wX2 g (r0 10) r3 s3) [(0, .ref a0), (1, .int p1), (2, .int p2), (3, .int p3)] 0 []
  unfold f_X7_thought at h
  refine z_aload_n (pc := 0) (x := a0) C dX7_thought_0 (i := 0) rfl rfl ?_
  refine z_iload_n (pc := 1) (x := p1) C dX7_thought_1 (i := 1) rfl rfl ?_
  refine z_aload_n (pc := 2) (x := a0) C dX7_thought_2 (i := 0) rfl rfl ?_
  refine z_iload_n (pc := 3) (x := p1) C dX7_thought_3 (i := 1) rfl rfl ?_
  refine z_iload_n (pc := 4) (x := p2) C dX7_thought_4 (i := 2) rfl rfl ?_
  replace h := ob_e h
  obtain ⟨x1, hx1, h⟩ := h
  refine z_callV (pc := 5) (As := [.int p1, .int p2]) (rest := [.int p1, .ref a0]) (wr := (wX2 g (r0 10) r3 s3)) C dX7_thought_5 ml_RX7_170 wv_X7_needCard (m_X7_needCard (a0 := a0) (r0 := r0) (r1 := r1) (q1_0 := q1_0) (r2 := r2) hg hx1) [0, 1, 2, 3, 4, 5, 6, 7, 8, 9, 10, 11, 12, 13, 14, 15, 16] [17, 18] rfl rfl ⟨by decide, by decide⟩ (Nat.le_of_ble_eq_true rfl) ⟨by decide, by decide⟩ rfl rfl rfl rfl rfl rfl rfl (by decide) (ex_k C (cs' := 0) (ss' := 0) (wF := (wX7 g a0 r0 s0 ++ wX1 g (r0 3) r1 q1_0 s1 ++ wX5 g q1_0 r2 s2 ++ wX2 g (r0 10) r3 s3)) [2, 3, 4, 5, 6, 7, 8, 9, 10, 11, 12, 13, 14, 15, 16, 17, 18, 0, 1] rfl rfl ?_)
  replace h := ob_e h
  obtain ⟨x2, hx2, h⟩ := h
  refine z_callV (pc := 8) (As := [.int p1, .int x1]) (rest := []) (wr := ([] : va_W)) C dX7_thought_8 ml_RX7_214 wv_X7_possibleKinds (m_X7_possibleKinds (a0 := a0) (r0 := r0) (r1 := r3) (r2 := r1) (q2_0 := q1_0) (r3 := r2) hg hx2) [0, 1, 2, 3, 17, 18, 4, 5, 6, 7, 8, 9, 10, 11, 12, 13, 14, 15, 16] [] rfl rfl ⟨by decide, by decide⟩ (Nat.le_of_ble_eq_true rfl) ⟨by decide, by decide⟩ rfl rfl rfl rfl rfl rfl rfl (by decide) (ex_k C (cs' := 0) (ss' := 0) (wF := (wX7 g a0 r0 s0 ++ wX1 g (r0 3) r1 q1_0 s1 ++ wX5 g q1_0 r2 s2 ++ wX2 g (r0 10) r3 x2.2)) [0, 1, 2, 3, 6, 7, 8, 9, 10, 11, 12, 13, 14, 15, 16, 17, 18, 4, 5] rfl rfl ?_)
  refine z_istore (pc := 11) C dX7_thought_11 (by decide) (lv' := [(4, .int x2.1), (0, .ref a0), (1, .int p1), (2, .int p2), (3, .int p3)]) rfl ?_
  refine z_iconst (pc := 13) C dX7_thought_13 ic_0 ?_
  refine z_istore (pc := 14) C dX7_thought_14 (by decide) (lv' := [(5, .int (0 : Int32)), (4, .int x2.1), (0, .ref a0), (1, .int p1), (2, .int p2), (3, .int p3)]) rfl ?_
  refine z_iconst (pc := 16) C dX7_thought_16 ic_0 ?_
  refine z_istore (pc := 17) C dX7_thought_17 (by decide) (lv' := [(6, .int (0 : Int32)), (5, .int (0 : Int32)), (4, .int x2.1), (0, .ref a0), (1, .int p1), (2, .int p2), (3, .int p3)]) rfl ?_
  refine z_lv (lv' := [(3, .int p3), (4, .int x2.1), (5, .int (0 : Int32)), (6, .int (0 : Int32))]) [6, 2, 1, 0] rfl ?_
  exact m_X7_thought_19 (a0 := a0) (r0 := r0) (r1 := r1) (q1_0 := q1_0) (r2 := r2) (r3 := r3) hg C X N x2.1 (0 : Int32) (0 : Int32) x2.2 h
def f_X7_knows (N : Nat) (s0 : Ob) (s1 : Ob) (s2 : Ob) (s3 : Ob) (p1 : Int32) (p2 : Int32) : Option (Int32 × Ob) := (ob (f_X7_needCard N s0 s1 s2 p1 p2) fun x1 => (ob (f_X7_possibleKinds N s0 s3 s1 s2 p1 x1) fun x2 => (ob (f_X1_playableKinds N s1 s2) fun x3 => (ob (f_X7_areAllIn N x2.1 x3) fun x4 => (if x4 = 0 then (ob (f_X1_uselessKinds N s1 s2) fun x5 => (ob (f_X7_areAllIn N x2.1 x5) fun x6 => (if x6 = 0 then (some ((0 : Int32), x2.2)) else (some ((2 : Int32), x2.2))))) else (some ((1 : Int32), x2.2)))))))
theorem m_X7_knows {g : Gp} {a0 : Nat} {r0 : Nat → Nat} {r1 : Nat → Nat} {q1_0 : Nat} {r2 : Nat → Nat} {r3 : Nat → Nat} {N : Nat} {s0 : Ob} {s1 : Ob} {s2 : Ob} {s3 : Ob} {p1 : Int32} {p2 : Int32} {res : Int32 × Ob} (hg : Ok g) (h : f_X7_knows N s0 s1 s2 s3 p1 p2 = some res) : Ct g yX7_knows cX7_knows 4 (some .int) (zrm 4 89) [.ref a0, .int p1, .int p2] (wX7 g a0 r0 s0 ++ wX1 g (r0 3) r1 q1_0 s1 ++ wX5 g q1_0 r2 s2 ++ wX2 g (r0 10) r3 s3) (exR (some (.int res.1)) (wX7 g a0 r0 s0 ++ wX1 g (r0 3) r1 q1_0 s1 ++ wX5 g q1_0 r2 s2 ++ wX2 g (r0 10) r3 res.2)) := by
  refine ct_of rfl hg (by show _ ≤ _; exact Nat.le_of_ble_eq_true rfl) (fun K C X => ?_)
  show Zs K 0 0 (wX7 g a0 r0 s0 ++ wX1 g (r0 3) r1 q1_0 s1 ++ wX5 g q1_0 r2 s2 ++ wX2 g (r0 10) r3 s3) [(0, .ref a0), (1, .int p1), (2, .int p2)] 0 []
  unfold f_X7_knows at h
  refine z_aload_n (pc := 0) (x := a0) C dX7_knows_0 (i := 0) rfl rfl ?_
  refine z_iload_n (pc := 1) (x := p1) C dX7_knows_1 (i := 1) rfl rfl ?_
  refine z_aload_n (pc := 2) (x := a0) C dX7_knows_2 (i := 0) rfl rfl ?_
  refine z_iload_n (pc := 3) (x := p1) C dX7_knows_3 (i := 1) rfl rfl ?_
  refine z_iload_n (pc := 4) (x := p2) C dX7_knows_4 (i := 2) rfl rfl ?_
  replace h := ob_e h
  obtain ⟨x1, hx1, h⟩ := h
  refine z_callV (pc := 5) (As := [.int p1, .int p2]) (rest := [.int p1, .ref a0]) (wr := (wX2 g (r0 10) r3 s3)) C dX7_knows_5 ml_RX7_170 wv_X7_needCard (m_X7_needCard (a0 := a0) (r0 := r0) (r1 := r1) (q1_0 := q1_0) (r2 := r2) hg hx1) [0, 1, 2, 3, 4, 5, 6, 7, 8, 9, 10, 11, 12, 13, 14, 15, 16] [17, 18] rfl rfl ⟨by decide, by decide⟩ (Nat.le_of_ble_eq_true rfl) ⟨by decide, by decide⟩ rfl rfl rfl rfl rfl rfl rfl (by decide) (ex_k C (cs' := 0) (ss' := 0) (wF := (wX7 g a0 r0 s0 ++ wX1 g (r0 3) r1 q1_0 s1 ++ wX5 g q1_0 r2 s2 ++ wX2 g (r0 10) r3 s3)) [2, 3, 4, 5, 6, 7, 8, 9, 10, 11, 12, 13, 14, 15, 16, 17, 18, 0, 1] rfl rfl ?_)
  replace h := ob_e h
  obtain ⟨x2, hx2, h⟩ := h
  refine z_callV (pc := 8) (As := [.int p1, .int x1]) (rest := []) (wr := ([] : va_W)) C dX7_knows_8 ml_RX7_214 wv_X7_possibleKinds (m_X7_possibleKinds (a0 := a0) (r0 := r0) (r1 := r3) (r2 := r1) (q2_0 := q1_0) (r3 := r2) hg hx2) [0, 1, 2, 3, 17, 18, 4, 5, 6, 7, 8, 9, 10, 11, 12, 13, 14, 15, 16] [] rfl rfl ⟨by decide, by decide⟩ (Nat.le_of_ble_eq_true rfl) ⟨by decide, by decide⟩ rfl rfl rfl rfl rfl rfl rfl (by decide) (ex_k C (cs' := 0) (ss' := 0) (wF := (wX7 g a0 r0 s0 ++ wX1 g (r0 3) r1 q1_0 s1 ++ wX5 g q1_0 r2 s2 ++ wX2 g (r0 10) r3 x2.2)) [0, 1, 2, 3, 6, 7, 8, 9, 10, 11, 12, 13, 14, 15, 16, 17, 18, 4, 5] rfl rfl ?_)
  refine z_istore_n (pc := 11) C dX7_knows_11 (i := 3) rfl (by decide) (lv' := [(3, .int x2.1), (0, .ref a0), (1, .int p1), (2, .int p2)]) rfl ?_
  refine z_iload_n (pc := 12) (x := x2.1) C dX7_knows_12 (i := 3) rfl rfl ?_
  refine z_aload_n (pc := 13) (x := a0) C dX7_knows_13 (i := 0) rfl rfl ?_
  refine z_get (pc := 14) (v := .ref (r0 3)) C 0 dX7_knows_14 fl_RX7_67 rfl rfl ?_
  replace h := ob_e h
  obtain ⟨x3, hx3, h⟩ := h
  refine z_callV (pc := 17) (As := []) (rest := [.int x2.1]) (wr := (wX7 g a0 r0 s0 ++ wX2 g (r0 10) r3 x2.2)) C dX7_knows_17 ml_RX7_226 wv_X1_playableKinds (m_X1_playableKinds (a0 := (r0 3)) (r0 := r1) (q0_0 := q1_0) (r1 := r2) hg hx3) [4, 5, 6, 7, 8, 9, 10, 11, 12, 13, 14, 15, 16] [0, 1, 2, 3, 17, 18] rfl rfl ⟨by decide, by decide⟩ (Nat.le_of_ble_eq_true rfl) ⟨by decide, by decide⟩ rfl rfl rfl rfl rfl rfl rfl (by decide) (ex_k C (cs' := 0) (ss' := 0) (wF := (wX7 g a0 r0 s0 ++ wX1 g (r0 3) r1 q1_0 s1 ++ wX5 g q1_0 r2 s2 ++ wX2 g (r0 10) r3 x2.2)) [0, 1, 2, 3, 6, 7, 8, 9, 10, 11, 12, 13, 14, 15, 16, 17, 18, 4, 5] rfl rfl ?_)
  replace h := ob_e h
  obtain ⟨x4, hx4, h⟩ := h
  refine z_callS (pc := 20) (As := [.int x2.1, .int x3]) (rest := []) (wr := (wX7 g a0 r0 s0 ++ wX1 g (r0 3) r1 q1_0 s1 ++ wX5 g q1_0 r2 s2 ++ wX2 g (r0 10) r3 x2.2)) C dX7_knows_20 ml_RX7_229 wt_X7_areAllIn (m_X7_areAllIn hg hx4) [] [0, 1, 2, 3, 4, 5, 6, 7, 8, 9, 10, 11, 12, 13, 14, 15, 16, 17, 18] rfl rfl ⟨by decide, by decide⟩ (Nat.le_of_ble_eq_true rfl) ⟨by decide, by decide⟩ rfl rfl rfl rfl (by decide) (ex_k C (cs' := 0) (ss' := 0) (wF := (wX7 g a0 r0 s0 ++ wX1 g (r0 3) r1 q1_0 s1 ++ wX5 g q1_0 r2 s2 ++ wX2 g (r0 10) r3 x2.2)) [0, 1, 2, 3, 4, 5, 6, 7, 8, 9, 10, 11, 12, 13, 14, 15, 16, 17, 18] rfl rfl ?_)
  refine z_if_eq (pc := 23) C dX7_knows_23 (tgt := 28) (by decide) (fun hc => ?_) (fun hc => ?_)
  · replace h := (ite_e h).1 hc
    refine z_iload_n (pc := 28) (x := x2.1) C dX7_knows_28 (i := 3) rfl rfl ?_
    refine z_aload_n (pc := 29) (x := a0) C dX7_knows_29 (i := 0) rfl rfl ?_
    refine z_get (pc := 30) (v := .ref (r0 3)) C 0 dX7_knows_30 fl_RX7_67 rfl rfl ?_
    replace h := ob_e h
    obtain ⟨x5, hx5, h⟩ := h
    refine z_callV (pc := 33) (As := []) (rest := [.int x2.1]) (wr := (wX7 g a0 r0 s0 ++ wX2 g (r0 10) r3 x2.2)) C dX7_knows_33 ml_RX7_232 wv_X1_uselessKinds (m_X1_uselessKinds (a0 := (r0 3)) (r0 := r1) (q0_0 := q1_0) (r1 := r2) hg hx5) [4, 5, 6, 7, 8, 9, 10, 11, 12, 13, 14, 15, 16] [0, 1, 2, 3, 17, 18] rfl rfl ⟨by decide, by decide⟩ (Nat.le_of_ble_eq_true rfl) ⟨by decide, by decide⟩ rfl rfl rfl rfl rfl rfl rfl (by decide) (ex_k C (cs' := 0) (ss' := 0) (wF := (wX7 g a0 r0 s0 ++ wX1 g (r0 3) r1 q1_0 s1 ++ wX5 g q1_0 r2 s2 ++ wX2 g (r0 10) r3 x2.2)) [0, 1, 2, 3, 6, 7, 8, 9, 10, 11, 12, 13, 14, 15, 16, 17, 18, 4, 5] rfl rfl ?_)
    replace h := ob_e h
    obtain ⟨x6, hx6, h⟩ := h
    refine z_callS (pc := 36) (As := [.int x2.1, .int x5]) (rest := []) (wr := (wX7 g a0 r0 s0 ++ wX1 g (r0 3) r1 q1_0 s1 ++ wX5 g q1_0 r2 s2 ++ wX2 g (r0 10) r3 x2.2)) C dX7_knows_36 ml_RX7_229 wt_X7_areAllIn (m_X7_areAllIn hg hx6) [] [0, 1, 2, 3, 4, 5, 6, 7, 8, 9, 10, 11, 12, 13, 14, 15, 16, 17, 18] rfl rfl ⟨by decide, by decide⟩ (Nat.le_of_ble_eq_true rfl) ⟨by decide, by decide⟩ rfl rfl rfl rfl (by decide) (ex_k C (cs' := 0) (ss' := 0) (wF := (wX7 g a0 r0 s0 ++ wX1 g (r0 3) r1 q1_0 s1 ++ wX5 g q1_0 r2 s2 ++ wX2 g (r0 10) r3 x2.2)) [0, 1, 2, 3, 4, 5, 6, 7, 8, 9, 10, 11, 12, 13, 14, 15, 16, 17, 18] rfl rfl ?_)
    refine z_if_eq (pc := 39) C dX7_knows_39 (tgt := 46) (by decide) (fun hc => ?_) (fun hc => ?_)
    · replace h := (ite_e h).1 hc
      refine z_iconst (pc := 46) C dX7_knows_46 ic_0 ?_
      exact z_iret C X dX7_knows_47 (by rw [← Option.some.inj h]; exact ⟨rfl, rfl⟩) (by decide) (by decide)
    · replace h := (ite_e h).2 hc
      refine z_iconst (pc := 42) C dX7_knows_42 ic_2 ?_
      refine z_goto (pc := 43) C dX7_knows_43 (tgt := 47) (by decide) ?_
      exact z_iret C X dX7_knows_47 (by rw [← Option.some.inj h]; exact ⟨rfl, rfl⟩) (by decide) (by decide)
  · replace h := (ite_e h).2 hc
    refine z_iconst (pc := 26) C dX7_knows_26 ic_1 ?_
    exact z_iret C X dX7_knows_27 (by rw [← Option.some.inj h]; exact ⟨rfl, rfl⟩) (by decide) (by decide)
def f_X7_needWord_57 (N : Nat) (s0 : Ob) (s1 : Ob) (s2 : Ob) (p1 : Int32) (p2 : Int32)  (v3 : Int32) (t0 : Int32) : Option (Unit) := (if v3 = 0 then (if t0 = 0 then none else (some ())) else (some ()))
theorem m_X7_needWord_57 {K : Kt} {g : Gp} {a0 : Nat} {r0 : Nat → Nat} {r1 : Nat → Nat} {q1_0 : Nat} {r2 : Nat → Nat} {N : Nat} {s0 : Ob} {s1 : Ob} {s2 : Ob} {p1 : Int32} {p2 : Int32} {res : Unit} (hg : Ok g) (C : Cx K g cX7_needWord RX7 5 (zrm 0 0)) (X : Rx K (exR none (wX7 g a0 r0 s0 ++ wX1 g (r0 3) r1 q1_0 s1 ++ wX5 g q1_0 r2 s2)) 0 0 none) (v3 : Int32) (t0 : Int32) (h : f_X7_needWord_57 N s0 s1 s2 p1 p2 v3 t0 = some res) : Zs K 0 0 (wX7 g a0 r0 s0 ++ wX1 g (r0 3) r1 q1_0 s1 ++ wX5 g q1_0 r2 s2) [(3, .int v3)] 57 [.int t0] := by
  unfold f_X7_needWord_57 at h
  refine z_istore (pc := 57) C dX7_needWord_57 (by decide) (lv' := [(4, .int t0), (3, .int v3)]) rfl ?_
  refine z_iload_n (pc := 59) (x := v3) C dX7_needWord_59 (i := 3) rfl rfl ?_
  refine z_if_ne (pc := 60) C dX7_needWord_60 (tgt := 79) (by decide) (fun hc => ?_) (fun hc => ?_)
  · replace h := (ite_e h).2 hc
    exact z_vret C X dX7_needWord_79 ⟨rfl, rfl⟩ (by decide) (by decide)
  · replace h := (ite_e h).1 hc
    refine z_iload (pc := 63) (x := t0) C dX7_needWord_63 rfl ?_
    refine z_if_ne (pc := 65) C dX7_needWord_65 (tgt := 79) (by decide) (fun hc => ?_) (fun hc => ?_)
    · replace h := (ite_e h).2 hc
      exact z_vret C X dX7_needWord_79 ⟨rfl, rfl⟩ (by decide) (by decide)
    · replace h := (ite_e h).1 hc
      exact nomatch h
def f_X7_needWord_56 (N : Nat) (s0 : Ob) (s1 : Ob) (s2 : Ob) (p1 : Int32) (p2 : Int32)  (v3 : Int32) : Option (Unit) := (f_X7_needWord_57 N s0 s1 s2 p1 p2 v3 (0 : Int32))
theorem m_X7_needWord_56 {K : Kt} {g : Gp} {a0 : Nat} {r0 : Nat → Nat} {r1 : Nat → Nat} {q1_0 : Nat} {r2 : Nat → Nat} {N : Nat} {s0 : Ob} {s1 : Ob} {s2 : Ob} {p1 : Int32} {p2 : Int32} {res : Unit} (hg : Ok g) (C : Cx K g cX7_needWord RX7 5 (zrm 0 0)) (X : Rx K (exR none (wX7 g a0 r0 s0 ++ wX1 g (r0 3) r1 q1_0 s1 ++ wX5 g q1_0 r2 s2)) 0 0 none) (v3 : Int32) (h : f_X7_needWord_56 N s0 s1 s2 p1 p2 v3 = some res) : Zs K 0 0 (wX7 g a0 r0 s0 ++ wX1 g (r0 3) r1 q1_0 s1 ++ wX5 g q1_0 r2 s2) [(3, .int v3)] 56 [] := by
  unfold f_X7_needWord_56 at h
  refine z_iconst (pc := 56) C dX7_needWord_56 ic_0 ?_
  exact m_X7_needWord_57 (a0 := a0) (r0 := r0) (r1 := r1) (q1_0 := q1_0) (r2 := r2) hg C X v3 (0 : Int32) h
def f_X7_needWord_27 (N : Nat) (s0 : Ob) (s1 : Ob) (s2 : Ob) (p1 : Int32) (p2 : Int32)  (t0 : Int32) : Option (Unit) := (if p1 = (1 : Int32) then (if p2 < (1 : Int32) then (f_X7_needWord_56 N s0 s1 s2 p1 p2 t0) else (if (s2.1 1) < p2 then (f_X7_needWord_56 N s0 s1 s2 p1 p2 t0) else (f_X7_needWord_57 N s0 s1 s2 p1 p2 t0 (1 : Int32)))) else (f_X7_needWord_56 N s0 s1 s2 p1 p2 t0))
theorem m_X7_needWord_27 {K : Kt} {g : Gp} {a0 : Nat} {r0 : Nat → Nat} {r1 : Nat → Nat} {q1_0 : Nat} {r2 : Nat → Nat} {N : Nat} {s0 : Ob} {s1 : Ob} {s2 : Ob} {p1 : Int32} {p2 : Int32} {res : Unit} (hg : Ok g) (C : Cx K g cX7_needWord RX7 5 (zrm 0 0)) (X : Rx K (exR none (wX7 g a0 r0 s0 ++ wX1 g (r0 3) r1 q1_0 s1 ++ wX5 g q1_0 r2 s2)) 0 0 none) (t0 : Int32) (h : f_X7_needWord_27 N s0 s1 s2 p1 p2 t0 = some res) : Zs K 0 0 (wX7 g a0 r0 s0 ++ wX1 g (r0 3) r1 q1_0 s1 ++ wX5 g q1_0 r2 s2) [(0, .ref a0), (1, .int p1), (2, .int p2)] 27 [.int t0] := by
  unfold f_X7_needWord_27 at h
  refine z_istore_n (pc := 27) C dX7_needWord_27 (i := 3) rfl (by decide) (lv' := [(3, .int t0), (0, .ref a0), (1, .int p1), (2, .int p2)]) rfl ?_
  refine z_iload_n (pc := 28) (x := p1) C dX7_needWord_28 (i := 1) rfl rfl ?_
  refine z_iconst (pc := 29) C dX7_needWord_29 ic_1 ?_
  refine z_icmp_ne (pc := 30) C dX7_needWord_30 (tgt := 56) (by decide) (fun hc => ?_) (fun hc => ?_)
  · replace h := (ite_e h).2 hc
    refine z_lv (lv' := [(3, .int t0)]) [0] rfl ?_
    exact m_X7_needWord_56 (a0 := a0) (r0 := r0) (r1 := r1) (q1_0 := q1_0) (r2 := r2) hg C X t0 h
  · replace h := (ite_e h).1 hc
    refine z_iload_n (pc := 33) (x := p2) C dX7_needWord_33 (i := 2) rfl rfl ?_
    refine z_iconst (pc := 34) C dX7_needWord_34 ic_1 ?_
    refine z_icmp_lt (pc := 35) C dX7_needWord_35 (tgt := 56) (by decide) (fun hc => ?_) (fun hc => ?_)
    · replace h := (ite_e h).1 hc
      refine z_lv (lv' := [(3, .int t0)]) [0] rfl ?_
      exact m_X7_needWord_56 (a0 := a0) (r0 := r0) (r1 := r1) (q1_0 := q1_0) (r2 := r2) hg C X t0 h
    · replace h := (ite_e h).2 hc
      refine z_iload_n (pc := 38) (x := p2) C dX7_needWord_38 (i := 2) rfl rfl ?_
      refine z_aload_n (pc := 39) (x := a0) C dX7_needWord_39 (i := 0) rfl rfl ?_
      refine z_get (pc := 40) (v := .ref (r0 3)) C 0 dX7_needWord_40 fl_RX7_67 rfl rfl ?_
      refine z_get (pc := 43) (v := .ref q1_0) C 4 dX7_needWord_43 fl_RX7_100 rfl rfl ?_
      refine z_get (pc := 46) (v := .int (s2.1 1)) C 13 dX7_needWord_46 fl_RX7_110 rfl rfl ?_
      refine z_icmp_gt (pc := 49) C dX7_needWord_49 (tgt := 56) (by decide) (fun hc => ?_) (fun hc => ?_)
      · replace h := (ite_e h).1 hc
        refine z_lv (lv' := [(3, .int t0)]) [0] rfl ?_
        exact m_X7_needWord_56 (a0 := a0) (r0 := r0) (r1 := r1) (q1_0 := q1_0) (r2 := r2) hg C X t0 h
      · replace h := (ite_e h).2 hc
        refine z_iconst (pc := 52) C dX7_needWord_52 ic_1 ?_
        refine z_goto (pc := 53) C dX7_needWord_53 (tgt := 57) (by decide) ?_
        refine z_lv (lv' := [(3, .int t0)]) [0] rfl ?_
        exact m_X7_needWord_57 (a0 := a0) (r0 := r0) (r1 := r1) (q1_0 := q1_0) (r2 := r2) hg C X t0 (1 : Int32) h
def f_X7_needWord_26 (N : Nat) (s0 : Ob) (s1 : Ob) (s2 : Ob) (p1 : Int32) (p2 : Int32)   : Option (Unit) := (f_X7_needWord_27 N s0 s1 s2 p1 p2 (0 : Int32))
theorem m_X7_needWord_26 {K : Kt} {g : Gp} {a0 : Nat} {r0 : Nat → Nat} {r1 : Nat → Nat} {q1_0 : Nat} {r2 : Nat → Nat} {N : Nat} {s0 : Ob} {s1 : Ob} {s2 : Ob} {p1 : Int32} {p2 : Int32} {res : Unit} (hg : Ok g) (C : Cx K g cX7_needWord RX7 5 (zrm 0 0)) (X : Rx K (exR none (wX7 g a0 r0 s0 ++ wX1 g (r0 3) r1 q1_0 s1 ++ wX5 g q1_0 r2 s2)) 0 0 none)  (h : f_X7_needWord_26 N s0 s1 s2 p1 p2  = some res) : Zs K 0 0 (wX7 g a0 r0 s0 ++ wX1 g (r0 3) r1 q1_0 s1 ++ wX5 g q1_0 r2 s2) [(0, .ref a0), (1, .int p1), (2, .int p2)] 26 [] := by
  unfold f_X7_needWord_26 at h
  refine z_iconst (pc := 26) C dX7_needWord_26 ic_0 ?_
  exact m_X7_needWord_27 (a0 := a0) (r0 := r0) (r1 := r1) (q1_0 := q1_0) (r2 := r2) hg C X (0 : Int32) h
def f_X7_needWord (N : Nat) (s0 : Ob) (s1 : Ob) (s2 : Ob) (p1 : Int32) (p2 : Int32) : Option (Unit) := (if p1 = 0 then (if p2 < 0 then (f_X7_needWord_26 N s0 s1 s2 p1 p2 ) else (if (s2.1 0) ≤ p2 then (f_X7_needWord_26 N s0 s1 s2 p1 p2 ) else (f_X7_needWord_27 N s0 s1 s2 p1 p2 (1 : Int32)))) else (f_X7_needWord_26 N s0 s1 s2 p1 p2 ))
theorem m_X7_needWord {g : Gp} {a0 : Nat} {r0 : Nat → Nat} {r1 : Nat → Nat} {q1_0 : Nat} {r2 : Nat → Nat} {N : Nat} {s0 : Ob} {s1 : Ob} {s2 : Ob} {p1 : Int32} {p2 : Int32} {res : Unit} (hg : Ok g) (h : f_X7_needWord N s0 s1 s2 p1 p2 = some res) : Ct g yX7_needWord cX7_needWord 5 none (zrm 0 0) [.ref a0, .int p1, .int p2] (wX7 g a0 r0 s0 ++ wX1 g (r0 3) r1 q1_0 s1 ++ wX5 g q1_0 r2 s2) (exR none (wX7 g a0 r0 s0 ++ wX1 g (r0 3) r1 q1_0 s1 ++ wX5 g q1_0 r2 s2)) := by
  refine ct_of rfl hg (by show _ ≤ _; exact Nat.le_of_ble_eq_true rfl) (fun K C X => ?_)
  show Zs K 0 0 (wX7 g a0 r0 s0 ++ wX1 g (r0 3) r1 q1_0 s1 ++ wX5 g q1_0 r2 s2) [(0, .ref a0), (1, .int p1), (2, .int p2)] 0 []
  unfold f_X7_needWord at h
  refine z_iload_n (pc := 0) (x := p1) C dX7_needWord_0 (i := 1) rfl rfl ?_
  refine z_if_ne (pc := 1) C dX7_needWord_1 (tgt := 26) (by decide) (fun hc => ?_) (fun hc => ?_)
  · replace h := (ite_e h).2 hc
    exact m_X7_needWord_26 (a0 := a0) (r0 := r0) (r1 := r1) (q1_0 := q1_0) (r2 := r2) hg C X  h
  · replace h := (ite_e h).1 hc
    refine z_iload_n (pc := 4) (x := p2) C dX7_needWord_4 (i := 2) rfl rfl ?_
    refine z_if_lt (pc := 5) C dX7_needWord_5 (tgt := 26) (by decide) (fun hc => ?_) (fun hc => ?_)
    · replace h := (ite_e h).1 hc
      exact m_X7_needWord_26 (a0 := a0) (r0 := r0) (r1 := r1) (q1_0 := q1_0) (r2 := r2) hg C X  h
    · replace h := (ite_e h).2 hc
      refine z_iload_n (pc := 8) (x := p2) C dX7_needWord_8 (i := 2) rfl rfl ?_
      refine z_aload_n (pc := 9) (x := a0) C dX7_needWord_9 (i := 0) rfl rfl ?_
      refine z_get (pc := 10) (v := .ref (r0 3)) C 0 dX7_needWord_10 fl_RX7_67 rfl rfl ?_
      refine z_get (pc := 13) (v := .ref q1_0) C 4 dX7_needWord_13 fl_RX7_100 rfl rfl ?_
      refine z_get (pc := 16) (v := .int (s2.1 0)) C 13 dX7_needWord_16 fl_RX7_107 rfl rfl ?_
      refine z_icmp_ge (pc := 19) C dX7_needWord_19 (tgt := 26) (by decide) (fun hc => ?_) (fun hc => ?_)
      · replace h := (ite_e h).1 hc
        exact m_X7_needWord_26 (a0 := a0) (r0 := r0) (r1 := r1) (q1_0 := q1_0) (r2 := r2) hg C X  h
      · replace h := (ite_e h).2 hc
        refine z_iconst (pc := 22) C dX7_needWord_22 ic_1 ?_
        refine z_goto (pc := 23) C dX7_needWord_23 (tgt := 27) (by decide) ?_
        exact m_X7_needWord_27 (a0 := a0) (r0 := r0) (r1 := r1) (q1_0 := q1_0) (r2 := r2) hg C X (1 : Int32) h
def f_X7_wordsLeft (N : Nat) (s0 : Ob) (s1 : Ob) (s2 : Ob) (p1 : Int32) (p2 : Int32) : Option (Int32) := (ob (f_X7_needWord N s0 s1 s2 p1 p2) fun x1 => (ob (f_X1_timesLeft N s1 p1 p2) fun x2 => (some x2)))
theorem m_X7_wordsLeft {g : Gp} {a0 : Nat} {r0 : Nat → Nat} {r1 : Nat → Nat} {q1_0 : Nat} {r2 : Nat → Nat} {N : Nat} {s0 : Ob} {s1 : Ob} {s2 : Ob} {p1 : Int32} {p2 : Int32} {res : Int32} (hg : Ok g) (h : f_X7_wordsLeft N s0 s1 s2 p1 p2 = some res) : Ct g yX7_wordsLeft cX7_wordsLeft 3 (some .int) (zrm 2 44) [.ref a0, .int p1, .int p2] (wX7 g a0 r0 s0 ++ wX1 g (r0 3) r1 q1_0 s1 ++ wX5 g q1_0 r2 s2) (exR (some (.int res)) (wX7 g a0 r0 s0 ++ wX1 g (r0 3) r1 q1_0 s1 ++ wX5 g q1_0 r2 s2)) := by
  refine ct_of rfl hg (by show _ ≤ _; exact Nat.le_of_ble_eq_true rfl) (fun K C X => ?_)
  show Zs K 0 0 (wX7 g a0 r0 s0 ++ wX1 g (r0 3) r1 q1_0 s1 ++ wX5 g q1_0 r2 s2) [(0, .ref a0), (1, .int p1), (2, .int p2)] 0 []
  unfold f_X7_wordsLeft at h
  refine z_aload_n (pc := 0) (x := a0) C dX7_wordsLeft_0 (i := 0) rfl rfl ?_
  refine z_iload_n (pc := 1) (x := p1) C dX7_wordsLeft_1 (i := 1) rfl rfl ?_
  refine z_iload_n (pc := 2) (x := p2) C dX7_wordsLeft_2 (i := 2) rfl rfl ?_
  replace h := ob_e h
  obtain ⟨x1, hx1, h⟩ := h
  refine z_callV (pc := 3) (As := [.int p1, .int p2]) (rest := []) (wr := ([] : va_W)) C dX7_wordsLeft_3 ml_RX7_235 wv_X7_needWord (m_X7_needWord (a0 := a0) (r0 := r0) (r1 := r1) (q1_0 := q1_0) (r2 := r2) hg hx1) [0, 1, 2, 3, 4, 5, 6, 7, 8, 9, 10, 11, 12, 13, 14, 15, 16] [] rfl rfl ⟨by decide, by decide⟩ (Nat.le_of_ble_eq_true rfl) ⟨by decide, by decide⟩ rfl rfl rfl rfl rfl rfl rfl (by decide) (ex_k C (cs' := 0) (ss' := 0) (wF := (wX7 g a0 r0 s0 ++ wX1 g (r0 3) r1 q1_0 s1 ++ wX5 g q1_0 r2 s2)) [0, 1, 2, 3, 4, 5, 6, 7, 8, 9, 10, 11, 12, 13, 14, 15, 16] rfl rfl ?_)
  refine z_aload_n (pc := 6) (x := a0) C dX7_wordsLeft_6 (i := 0) rfl rfl ?_
  refine z_get (pc := 7) (v := .ref (r0 3)) C 0 dX7_wordsLeft_7 fl_RX7_67 rfl rfl ?_
  refine z_iload_n (pc := 10) (x := p1) C dX7_wordsLeft_10 (i := 1) rfl rfl ?_
  refine z_iload_n (pc := 11) (x := p2) C dX7_wordsLeft_11 (i := 2) rfl rfl ?_
  replace h := ob_e h
  obtain ⟨x2, hx2, h⟩ := h
  refine z_callV (pc := 12) (As := [.int p1, .int p2]) (rest := []) (wr := (wX7 g a0 r0 s0 ++ wX5 g q1_0 r2 s2)) C dX7_wordsLeft_12 ml_RX7_239 wv_X1_timesLeft (m_X1_timesLeft (a0 := (r0 3)) (r0 := r1) (q0_0 := q1_0) hg hx2) [4, 5, 6, 7, 8, 9, 10, 11, 12] [0, 1, 2, 3, 13, 14, 15, 16] rfl rfl ⟨by decide, by decide⟩ (Nat.le_of_ble_eq_true rfl) ⟨by decide, by decide⟩ rfl rfl rfl rfl rfl rfl rfl (by decide) (ex_k C (cs' := 0) (ss' := 0) (wF := (wX7 g a0 r0 s0 ++ wX1 g (r0 3) r1 q1_0 s1 ++ wX5 g q1_0 r2 s2)) [0, 1, 2, 3, 8, 9, 10, 11, 12, 13, 14, 15, 16, 4, 5, 6, 7] rfl rfl ?_)
  exact z_iret C X dX7_wordsLeft_15 (by rw [← Option.some.inj h]; exact ⟨rfl, rfl⟩) (by decide) (by decide)
def f_X7_touches (N : Nat) (s0 : Ob) (s1 : Ob) (s2 : Ob) (p1 : Int32) (p2 : Int32) (p3 : Int32) : Option (Int32) := (ob (f_X7_needPlayer N s0 s1 s2 p1) fun x1 => (ob (f_X7_needWord N s0 s1 s2 p2 p3) fun x2 => (ob (f_X7_kindsOfWord N p2 p3) fun x3 => (ob (f_X1_touchedPlaces N s1 s2 p1 x3) fun x4 => (some x4)))))
theorem m_X7_touches {g : Gp} {a0 : Nat} {r0 : Nat → Nat} {r1 : Nat → Nat} {q1_0 : Nat} {r2 : Nat → Nat} {N : Nat} {s0 : Ob} {s1 : Ob} {s2 : Ob} {p1 : Int32} {p2 : Int32} {p3 : Int32} {res : Int32} (hg : Ok g) (h : f_X7_touches N s0 s1 s2 p1 p2 p3 = some res) : Ct g yX7_touches cX7_touches 4 (some .int) (zrm 2 47) [.ref a0, .int p1, .int p2, .int p3] (wX7 g a0 r0 s0 ++ wX1 g (r0 3) r1 q1_0 s1 ++ wX5 g q1_0 r2 s2) (exR (some (.int res)) (wX7 g a0 r0 s0 ++ wX1 g (r0 3) r1 q1_0 s1 ++ wX5 g q1_0 r2 s2)) := by
  refine ct_of rfl hg (by show _ ≤ _; exact Nat.le_of_ble_eq_true rfl) (fun K C X => ?_)
  show Zs K 0 0 (wX7 g a0 r0 s0 ++ wX1 g (r0 3) r1 q1_0 s1 ++ wX5 g q1_0 r2 s2) [(0, .ref a0), (1, .int p1), (2, .int p2), (3, .int p3)] 0 []
  unfold f_X7_touches at h
  refine z_aload_n (pc := 0) (x := a0) C dX7_touches_0 (i := 0) rfl rfl ?_
  refine z_iload_n (pc := 1) (x := p1) C dX7_touches_1 (i := 1) rfl rfl ?_
  replace h := ob_e h
  obtain ⟨x1, hx1, h⟩ := h
  refine z_callV (pc := 2) (As := [.int p1]) (rest := []) (wr := ([] : va_W)) C dX7_touches_2 ml_RX7_164 wv_X7_needPlayer (m_X7_needPlayer (a0 := a0) (r0 := r0) (r1 := r1) (q1_0 := q1_0) (r2 := r2) hg hx1) [0, 1, 2, 3, 4, 5, 6, 7, 8, 9, 10, 11, 12, 13, 14, 15, 16] [] rfl rfl ⟨by decide, by decide⟩ (Nat.le_of_ble_eq_true rfl) ⟨by decide, by decide⟩ rfl rfl rfl rfl rfl rfl rfl (by decide) (ex_k C (cs' := 0) (ss' := 0) (wF := (wX7 g a0 r0 s0 ++ wX1 g (r0 3) r1 q1_0 s1 ++ wX5 g q1_0 r2 s2)) [0, 1, 2, 3, 4, 5, 6, 7, 8, 9, 10, 11, 12, 13, 14, 15, 16] rfl rfl ?_)
  refine z_aload_n (pc := 5) (x := a0) C dX7_touches_5 (i := 0) rfl rfl ?_
  refine z_iload_n (pc := 6) (x := p2) C dX7_touches_6 (i := 2) rfl rfl ?_
  refine z_iload_n (pc := 7) (x := p3) C dX7_touches_7 (i := 3) rfl rfl ?_
  replace h := ob_e h
  obtain ⟨x2, hx2, h⟩ := h
  refine z_callV (pc := 8) (As := [.int p2, .int p3]) (rest := []) (wr := ([] : va_W)) C dX7_touches_8 ml_RX7_235 wv_X7_needWord (m_X7_needWord (a0 := a0) (r0 := r0) (r1 := r1) (q1_0 := q1_0) (r2 := r2) hg hx2) [0, 1, 2, 3, 4, 5, 6, 7, 8, 9, 10, 11, 12, 13, 14, 15, 16] [] rfl rfl ⟨by decide, by decide⟩ (Nat.le_of_ble_eq_true rfl) ⟨by decide, by decide⟩ rfl rfl rfl rfl rfl rfl rfl (by decide) (ex_k C (cs' := 0) (ss' := 0) (wF := (wX7 g a0 r0 s0 ++ wX1 g (r0 3) r1 q1_0 s1 ++ wX5 g q1_0 r2 s2)) [0, 1, 2, 3, 4, 5, 6, 7, 8, 9, 10, 11, 12, 13, 14, 15, 16] rfl rfl ?_)
  refine z_aload_n (pc := 11) (x := a0) C dX7_touches_11 (i := 0) rfl rfl ?_
  refine z_get (pc := 12) (v := .ref (r0 3)) C 0 dX7_touches_12 fl_RX7_67 rfl rfl ?_
  refine z_iload_n (pc := 15) (x := p1) C dX7_touches_15 (i := 1) rfl rfl ?_
  refine z_iload_n (pc := 16) (x := p2) C dX7_touches_16 (i := 2) rfl rfl ?_
  refine z_iload_n (pc := 17) (x := p3) C dX7_touches_17 (i := 3) rfl rfl ?_
  replace h := ob_e h
  obtain ⟨x3, hx3, h⟩ := h
  refine z_callS (pc := 18) (As := [.int p2, .int p3]) (rest := [.int p1, .ref (r0 3)]) (wr := (wX7 g a0 r0 s0 ++ wX1 g (r0 3) r1 q1_0 s1 ++ wX5 g q1_0 r2 s2)) C dX7_touches_18 ml_RX7_242 wt_X7_kindsOfWord (m_X7_kindsOfWord hg hx3) [] [0, 1, 2, 3, 4, 5, 6, 7, 8, 9, 10, 11, 12, 13, 14, 15, 16] rfl rfl ⟨by decide, by decide⟩ (Nat.le_of_ble_eq_true rfl) ⟨by decide, by decide⟩ rfl rfl rfl rfl (by decide) (ex_k C (cs' := 0) (ss' := 0) (wF := (wX7 g a0 r0 s0 ++ wX1 g (r0 3) r1 q1_0 s1 ++ wX5 g q1_0 r2 s2)) [0, 1, 2, 3, 4, 5, 6, 7, 8, 9, 10, 11, 12, 13, 14, 15, 16] rfl rfl ?_)
  replace h := ob_e h
  obtain ⟨x4, hx4, h⟩ := h
  refine z_callV (pc := 21) (As := [.int p1, .int x3]) (rest := []) (wr := (wX7 g a0 r0 s0)) C dX7_touches_21 ml_RX7_245 wv_X1_touchedPlaces (m_X1_touchedPlaces (a0 := (r0 3)) (r0 := r1) (q0_0 := q1_0) (r1 := r2) hg hx4) [4, 5, 6, 7, 8, 9, 10, 11, 12, 13, 14, 15, 16] [0, 1, 2, 3] rfl rfl ⟨by decide, by decide⟩ (Nat.le_of_ble_eq_true rfl) ⟨by decide, by decide⟩ rfl rfl rfl rfl rfl rfl rfl (by decide) (ex_k C (cs' := 0) (ss' := 0) (wF := (wX7 g a0 r0 s0 ++ wX1 g (r0 3) r1 q1_0 s1 ++ wX5 g q1_0 r2 s2)) [0, 1, 2, 3, 4, 5, 6, 7, 8, 9, 10, 11, 12, 13, 14, 15, 16] rfl rfl ?_)
  exact z_iret C X dX7_touches_24 (by rw [← Option.some.inj h]; exact ⟨rfl, rfl⟩) (by decide) (by decide)
