/-! OWN: the pure half: play and discard carried out by both -/
theorem wfG_logA {a : Gm} (hw : wfG a) (h : a 13 + 1 < 2 ^ 21) : wfG (logA a) := by
  have e : ∀ i, i ≠ 13 → logA a i = a i := fun i hi => logA_ne hi
  have e13 : logA a 13 = a 13 + 1 := up_eq _ _ _
  obtain ⟨w0, w1, w2, w3, w4, w5, w6, w7, w8, w9, w10, w11, w12, w13, w14, w15, w16, w17, w18, w19, w20, w21, w22⟩ := hw
  refine ⟨w0, w1, w2, w3, w4, w5, w6, w7, w8, w9, w10, w11, w12, by omega, ?_, ?_, ?_, ?_, ?_, ?_, ?_, ?_, ?_⟩
  · intro c hc; rw [e _ (by omega), e 0 (by omega)]; exact w14 c hc
  · intro c hc; rw [e _ (by omega)]; exact w15 c hc
  · intro c hc; rw [e _ (by omega)]; exact w16 c hc
  · intro c hc; rw [e _ (by omega), e _ (by omega)]; exact w17 c hc
  · intro c hc; rw [e _ (by omega)]; exact w18 c hc
  · intro c hc; rw [e _ (by omega), e 2 (by omega)]; exact w19 c hc
  · intro p j hp hj
    rw [e _ (by omega)] at hj
    rw [e _ (by omega), e 5 (by omega)]; exact w20 p j hp hj
  · intro c hc; rw [e _ (by omega)]; exact w21 c hc
  · intro c hc; rw [e _ (by omega)]; exact w22 c hc
theorem encRu_fr {a b : Gm} {ru : Ob} (h4 : a 4 ≤ 40) (h : encRu a ru) (e : ∀ i, (i ≤ 4 ∨ i = 6 ∨ (27 ≤ i ∧ i < 67)) → b i = a i) : encRu b ru := by
  obtain ⟨u0, u1, u2, u3, u4, u7, u8, u9⟩ := h
  have iD : ∀ k m, inDk b k m = inDk a k m := by
    intro k m
    unfold inDk
    rw [e 4 (by omega)]
    refine sumN_congr fun i hi => ?_
    rw [e (27 + i) (by omega)]
  refine ⟨?_, ?_, ?_, ?_, ?_, ?_, ?_, ?_⟩
  · rw [e 0 (by omega)]; exact u0
  · rw [e 1 (by omega)]; exact u1
  · rw [e 2 (by omega)]; exact u2
  · rw [e 3 (by omega)]; exact u3
  · rw [e 2 (by omega), e 6 (by omega)]; exact u4
  · rw [e 4 (by omega)]; exact u7
  · intro k hk; rw [e _ (by omega)]; exact u8 k hk
  · intro k hk; rw [iD]; exact u9 k hk
theorem midP_pre {a b : Gm} {p j : Nat} (ho : okG a) (he : endOf a = 0) (h : MidP a b p j) : preE b := by
  obtain ⟨fr, h7, h8, h13, hs, hh, htot, hone, htop⟩ := h
  obtain ⟨b0, b1, b2, b3, b4, b5, b6, b7, b8, b9, b11, b12, b13⟩ := wfB ho.1
  obtain ⟨rr, r8, r9, r10, rpot, r13⟩ := run_b ho he
  refine ⟨?_, ?_, ?_, ?_, ?_, ?_, ?_, ?_, ?_, ?_, ?_, ?_, ?_⟩
  · rw [fr 0 (by omega)]; exact b0
  · rw [fr 1 (by omega)]; exact b1
  · rw [fr 2 (by omega)]; omega
  · rw [fr 2 (by omega)]; exact b2
  · rw [fr 10 (by omega), fr 2 (by omega)]; exact r10
  · rw [fr 11 (by omega)]; exact b11
  · omega
  · rw [fr 9 (by omega)]; exact b9
  · rw [fr 4 (by omega)]; exact b4
  · rw [fr 5 (by omega), fr 4 (by omega)]; exact b5
  · intro c hc; rw [fr 1 (by omega)]; exact (htop c hc).1
  · intro c hc; rw [fr 0 (by omega)]; exact (htop c hc).2
  · rw [fr 9 (by omega)]; exact r9
theorem tok_comm (b : Gm) (v : Nat) : tokG (up b 233 v) = up (tokG b) 233 v := by
  unfold tokG
  rw [up_ne (i := 6) (by omega), up_ne (i := 7) (by omega), up_ne (i := 235) (by omega)]
  split
  · rfl
  · rw [up_comm (k := 233) (by omega), up_comm (k := 233) (by omega)]
section PLY
variable {a : Gm} {L r : Nat → Int32} {s ru : Ob} {j : Nat}
/-- what stands behind a card's turn -/
theorem mid_end (ho : okG a) (he : endOf a = 0) (hj : j < a (187 + a 10)) {b : Gm} {Lx : Nat → Int32} (h : MidP a b (a 10) j) : b 10 = a 10 ∧ b (187 + b 10) < 5 ∧ (b 9 = 0 → b 5 < b 4) ∧ (∀ q, q < 4 → b (187 + q) ≤ 5) ∧ b 11 = a 11 ∧ b 4 ≤ 40 ∧ b 5 ≤ b 4 := by
  have hw := ho.1
  have hp : a 10 < 4 := by have := (run_b ho he).2.2.2.1; have := hw.2.2.1; omega
  have h5 := wfS hw hp
  have hx := ho.2.2.2.2.2.2.2.2
  have b4 := hw.2.2.2.2.1
  have b5 := hw.2.2.2.2.2.1
  obtain ⟨fr, h7, h8, h13, hs, hh, htot, hone, htop⟩ := h
  have e10 : b 10 = a 10 := fr 10 (by omega)
  refine ⟨e10, ?_, ?_, ?_, fr 11 (by omega), ?_, ?_⟩
  · rw [e10, hs _ hp, if_pos rfl]; omega
  · rw [fr 9 (by omega), fr 5 (by omega), fr 4 (by omega)]
    exact fun q => (hx.2.2.2.1 q).1
  · intro q hq
    have := wfS hw hq
    rw [hs q hq]
    split <;> omega
  · rw [fr 4 (by omega)]; exact b4
  · rw [fr 5 (by omega), fr 4 (by omega)]; exact b5
theorem m_fin (ho : okG a) (he : endOf a = 0) (hj : j < a (187 + a 10)) {b : Gm} (h : MidP a b (a 10) j) (hr : encR b L r) : ∃ r', f_X8_endsTurn NN (sa s 0 r) 1 = some (sa s 0 r') ∧ encR (endG (drawG b (a 10))) L r' := by
  obtain ⟨e10, hs, h9, hs5, -⟩ := mid_end (Lx := L) ho he hj h
  have := m_end1 (s := s) hr (midP_pre ho he h) hs h9
  rwa [e10] at this
theorem x_fin (ho : okG a) (he : endOf a = 0) (hj : j < a (187 + a 10)) {b : Gm} (h : MidP a b (a 10) j) (hG : encG b L s) (hu : encRu a ru) : ∃ s', (ob (f_X1_drawCard NN s ru (s.1 4)) fun x8 => ob (f_X1_endTurn NN x8 ru) fun x9 => some x9) = some s' ∧ encG (endG (drawG b (a 10))) L s' := by
  obtain ⟨e10, hs, h9, hs5, h11, h4, h5⟩ := mid_end (Lx := L) ho he hj h
  have hpre := midP_pre ho he h
  have hp : a 10 < 4 := by have := (run_b ho he).2.2.2.1; have := ho.1.2.2.1; omega
  rw [e10] at hs
  have u7 : ru.1 7 = iN (b 4) := by rw [h.1 4 (by omega)]; exact hu.2.2.2.2.2.1
  have u2 : ru.1 2 = iN (b 2) := by rw [h.1 2 (by omega)]; exact hu.2.2.1
  have e4 : s.1 4 = iN (a 10) := by rw [← e10]; exact hG.2.2.2.1
  rw [e4]
  obtain ⟨s1, q1, hG1⟩ := x_draw hG u7 hp hs hs5 h4 h5
  rw [q1, ob_some]
  have d : ∀ i, i ≠ 5 → (i < 187 ∨ 211 ≤ i) → drawG b (a 10) i = b i := fun i h5 hi => draw_fr h5 hi hp hs
  have hs' : ∀ q, q < 4 → drawG b (a 10) (187 + q) ≤ 5 := by
    intro q hq
    have := hs5 q hq
    unfold drawG
    split
    · exact this
    · rw [up_ne (by omega)]
      by_cases c : q = a 10
      · rw [c, up_eq]; omega
      · rw [up_ne (by omega), up_ne (by omega)]; exact this
  obtain ⟨s2, q2, hG2⟩ := x_end hs' hG1 (by rw [d 2 (by omega) (by omega)]; exact u2) (by rw [d 4 (by omega) (by omega)]; exact u7) (preE_draw hpre hp hs)
  rw [q2]
  exact ⟨s2, rfl, hG2⟩
theorem m_plays (ho : okG a) (he : endOf a = 0) (hj : j < a (187 + a 10)) (hr : encR a L r) : ∃ r', f_X8_plays NN (sa s 0 r) (iN j) = some (sa s 0 r') ∧ encR (playG a j) (playL a L j) r' := by
  obtain ⟨hp, hh, hk, hk0, hk1⟩ := logA_b ho he hj
  have hw := ho.1
  have hs := size_b ho
  obtain ⟨b0, b1, b2, b3, b4, b5, b6, b7, b8, b9, b11, b12, b13⟩ := wfB hw
  obtain ⟨rr, r8, r9, r10, rpot, r13⟩ := run_b ho he
  have hW := take_okW ho he hj
  have tf : ∀ i, (i < 187 ∨ 211 ≤ i) → i ≠ 13 → takeG (logA a) (a 10) j i = a i := fun i hi h13 => by rw [takeG_fr hp (hs _ hp) hi, logA_ne h13]
  have e10 : r 10 = iN (a 10) := hr.1 10 (by omega) (by omega)
  have eK : r (27 + a (191 + (5 * a 10 + j))) = iN (kAt a (a 10) j) := hr.1 _ (by omega) (by omega)
  have hsz := wfS hw hp
  unfold f_X8_plays
  simp only [sa_get]
  rw [e10, he_eq (sM := sa s 0 r) hw hr hp hj, ob_some, show (27 : Int32) + iN (a (191 + (5 * a 10 + j))) = iN (27 + a (191 + (5 * a 10 + j))) from iN_add _ _, chk_iN (by omega) (by omega), clamp_iN (by omega), eK, X8_isNext_eq (sM := sa s 0 r) hw hr hk, ob_some]
  have hl := fun t => m_logs (s := s) hr (by omega) t (iN (10 * (kAt a (a 10) j / 5) + kAt a (a 10) j % 5 + 1)) (-1)
  have htk : ∀ L1 r1, encR (logA a) L1 r1 → ∃ r2, f_X8_takesOut NN (sa s 0 r1) (iN j) = some (iN (kAt a (a 10) j), sa s 0 r2) ∧ encR (takeG (logA a) (a 10) j) L1 r2 := fun L1 r1 h1 => by
    have := m_takesOut (s := s) h1 hp (logA_ne (by omega)) (by rw [logA_ne (by omega)]; exact hj) (hs _ hp) (by rw [logA_ne (by omega)]; omega) (by rw [kAt_logA]; exact hk) (wfG_logA hw (by omega))
    rwa [kAt_logA] at this
  by_cases ht : a (14 + kAt a (a 10) j / 5) = kAt a (a 10) j % 5
  · have hn : nxF a (kAt a (a 10) j) = true := decide_eq_true ht
    have hM := midOk_P ho he hj ht
    rw [hn, if_neg bN1]
    unfold f_X8_plays_37
    rw [to_eq hk, ob_some]
    obtain ⟨r1, q1, hr1⟩ := hl 0
    obtain ⟨r2, q2, hr2⟩ := htk _ r1 hr1
    rw [q1, ob_some, if_neg bN1, q2, ob_some, colK hk, ob_some, rnkK hk]
    simp only [znm_eq, sa_get, sa_sa]
    have eT : r2 (14 + kAt a (a 10) j / 5) = iN (takeG (logA a) (a 10) j (14 + kAt a (a 10) j / 5)) := hr2.1 _ (by omega) (by omega)
    have e231 : r2 231 = iN (takeG (logA a) (a 10) j 231) := hr2.1 _ (by omega) (by omega)
    have e1 : r2 1 = iN (takeG (logA a) (a 10) j 1) := hr2.1 _ (by omega) (by omega)
    have u231 : upd r2 (14 + kAt a (a 10) j / 5) (iN (takeG (logA a) (a 10) j (14 + kAt a (a 10) j / 5) + 1)) 231 = iN (takeG (logA a) (a 10) j 231) := by rw [upd_at, if_neg (by omega), e231]
    have u1 : upd (upd r2 (14 + kAt a (a 10) j / 5) (iN (takeG (logA a) (a 10) j (14 + kAt a (a 10) j / 5) + 1))) 231 (iN (takeG (logA a) (a 10) j 231 + 1)) 1 = iN (takeG (logA a) (a 10) j 1) := by rw [upd_at, if_neg (by omega), upd_at, if_neg (by omega), e1]
    rw [show (14 : Int32) + iN (kAt a (a 10) j / 5) = iN (14 + kAt a (a 10) j / 5) from iN_add _ _, chk_iN (by omega) (by omega), chk_iN (by omega) (by omega), clamp_iN (by omega), eT, iN_p1, u231, iN_p1, ob_some, u1]
    have hP : encR (pileG (takeG (logA a) (a 10) j) (kAt a (a 10) j)) (logL L (a 13 % 30) (iN (a 10)) 0 (iN (10 * (kAt a (a 10) j / 5) + kAt a (a 10) j % 5 + 1)) (-1)) (upd (upd r2 (14 + kAt a (a 10) j / 5) (iN (takeG (logA a) (a 10) j (14 + kAt a (a 10) j / 5) + 1))) 231 (iN (takeG (logA a) (a 10) j 231 + 1))) :=
      encR_up (encR_up hr2 (by omega) (by omega) rfl) (by omega) (by omega) rfl
    have t1 : takeG (logA a) (a 10) j 1 = a 1 := tf 1 (by omega) (by omega)
    unfold playG playL midPlayG
    rw [if_pos ht, if_pos ht]
    unfold f_X8_plays_101 f_X8_plays_136
    by_cases c : kAt a (a 10) j % 5 + 1 = takeG (logA a) (a 10) j 1
    · rw [if_pos (by rw [c])]
      have hb : midOkG (takeG (logA a) (a 10) j) (kAt a (a 10) j) = tokG (pileG (takeG (logA a) (a 10) j) (kAt a (a 10) j)) := if_pos c
      have f6 : pileG (takeG (logA a) (a 10) j) (kAt a (a 10) j) 6 = a 6 := by rw [pileG_fr (by omega) (by omega), tf 6 (by omega) (by omega)]
      have f7 : pileG (takeG (logA a) (a 10) j) (kAt a (a 10) j) 7 = a 7 := by rw [pileG_fr (by omega) (by omega), tf 7 (by omega) (by omega)]
      have f235 : pileG (takeG (logA a) (a 10) j) (kAt a (a 10) j) 235 = a 235 := by rw [pileG_fr (by omega) (by omega), tf 235 (by omega) (by omega)]
      have h235 : a 235 < 2 ^ 24 := hw.2.2.2.2.2.2.2.2.2.2.2.2.2.2.2.2.2.2.2.2.2.2 4 (by omega)
      obtain ⟨r3, q3, hr3⟩ := m_tokenBack (s := s) hP (by omega) (by omega) (by omega)
      rw [q3, ob_some]
      rw [← hb] at hr3
      obtain ⟨r4, q4, hr4⟩ := m_fin (s := s) ho he hj hM hr3
      rw [q4]
      exact ⟨r4, rfl, hr4⟩
    · rw [if_neg (fun q => c ((iN_inj (by omega) (by rw [t1]; omega)).mp q))]
      have hb : midOkG (takeG (logA a) (a 10) j) (kAt a (a 10) j) = pileG (takeG (logA a) (a 10) j) (kAt a (a 10) j) := if_neg c
      rw [← hb] at hP
      obtain ⟨r4, q4, hr4⟩ := m_fin (s := s) ho he hj hM hP
      rw [q4]
      exact ⟨r4, rfl, hr4⟩
  · have hn : nxF a (kAt a (a 10) j) = false := decide_eq_false ht
    have hM := midLost_P ho he hj
    rw [hn, if_pos bN0]
    unfold f_X8_plays_37
    rw [to_eq hk, ob_some]
    obtain ⟨r1, q1, hr1⟩ := hl 4
    obtain ⟨r2, q2, hr2⟩ := htk _ r1 hr1
    have h237 : a 237 < 2 ^ 24 := hw.2.2.2.2.2.2.2.2.2.2.2.2.2.2.2.2.2.2.2.2.2.2 6 (by omega)
    obtain ⟨r3, q3, hr3⟩ := m_toHeap (s := s) hW hr2 (by rw [tf 237 (by omega) (by omega)]; exact h237) hk
    rw [q1, ob_some, if_pos bN0, q2, ob_some, q3, ob_some]
    simp only [znm_eq, sa_get, sa_sa]
    have f8 : heapG (takeG (logA a) (a 10) j) (kAt a (a 10) j) 8 = a 8 := by rw [heapG_fr (by omega) (by omega), tf 8 (by omega) (by omega)]
    have e8 : r3 8 = iN (heapG (takeG (logA a) (a 10) j) (kAt a (a 10) j) 8) := hr3.1 _ (by omega) (by omega)
    have e232 : r3 232 = iN (heapG (takeG (logA a) (a 10) j) (kAt a (a 10) j) 232) := hr3.1 _ (by omega) (by omega)
    rw [upd_at, if_neg (by omega), e8, e232, iN_p1, iN_subm1 (by omega)]
    unfold playG playL midPlayG
    rw [if_neg ht, if_neg ht]
    unfold f_X8_plays_136
    have hP : encR (midLostG (takeG (logA a) (a 10) j) (kAt a (a 10) j)) (logL L (a 13 % 30) (iN (a 10)) 4 (iN (10 * (kAt a (a 10) j / 5) + kAt a (a 10) j % 5 + 1)) (-1)) (upd (upd r3 8 (iN (heapG (takeG (logA a) (a 10) j) (kAt a (a 10) j) 8 - 1))) 232 (iN (heapG (takeG (logA a) (a 10) j) (kAt a (a 10) j) 232 + 1))) :=
      encR_up (encR_up hr3 (by omega) (by omega) rfl) (by omega) (by omega) rfl
    obtain ⟨r4, q4, hr4⟩ := m_fin (s := s) ho he hj hM hP
    rw [q4]
    exact ⟨r4, rfl, hr4⟩
theorem m_discards (ho : okG a) (he : endOf a = 0) (hj : j < a (187 + a 10)) (hr : encR a L r) : ∃ r', f_X8_discards NN (sa s 0 r) (iN j) = some (sa s 0 r') ∧ encR (discG a j) (discL a L j) r' := by
  obtain ⟨hp, hh, hk, hk0, hk1⟩ := logA_b ho he hj
  have hw := ho.1
  have hs := size_b ho
  obtain ⟨b0, b1, b2, b3, b4, b5, b6, b7, b8, b9, b11, b12, b13⟩ := wfB hw
  obtain ⟨rr, r8, r9, r10, rpot, r13⟩ := run_b ho he
  have hW := take_okW ho he hj
  have tf : ∀ i, (i < 187 ∨ 211 ≤ i) → i ≠ 13 → takeG (logA a) (a 10) j i = a i := fun i hi h13 => by rw [takeG_fr hp (hs _ hp) hi, logA_ne h13]
  have e10 : r 10 = iN (a 10) := hr.1 10 (by omega) (by omega)
  have eK : r (27 + a (191 + (5 * a 10 + j))) = iN (kAt a (a 10) j) := hr.1 _ (by omega) (by omega)
  have hsz := wfS hw hp
  have hM := midDisc_P ho he hj
  have h237 : a 237 < 2 ^ 24 := hw.2.2.2.2.2.2.2.2.2.2.2.2.2.2.2.2.2.2.2.2.2.2 6 (by omega)
  have h235 : a 235 < 2 ^ 24 := hw.2.2.2.2.2.2.2.2.2.2.2.2.2.2.2.2.2.2.2.2.2.2 4 (by omega)
  unfold f_X8_discards
  simp only [sa_get]
  rw [e10, he_eq (sM := sa s 0 r) hw hr hp hj, ob_some, show (27 : Int32) + iN (a (191 + (5 * a 10 + j))) = iN (27 + a (191 + (5 * a 10 + j))) from iN_add _ _, chk_iN (by omega) (by omega), clamp_iN (by omega), eK, to_eq hk, ob_some]
  obtain ⟨r1, q1, hr1⟩ := m_logs (s := s) hr (by omega) 1 (iN (10 * (kAt a (a 10) j / 5) + kAt a (a 10) j % 5 + 1)) (-1)
  obtain ⟨r2, q2, hr2⟩ := m_takesOut (s := s) hr1 hp (logA_ne (by omega)) (by rw [logA_ne (by omega)]; exact hj) (hs _ hp) (by rw [logA_ne (by omega)]; omega) (by rw [kAt_logA]; exact hk) (wfG_logA hw (by omega))
  rw [kAt_logA] at q2
  obtain ⟨r3, q3, hr3⟩ := m_toHeap (s := s) hW hr2 (by rw [tf 237 (by omega) (by omega)]; exact h237) hk
  rw [q1, ob_some, q2, ob_some, q3, ob_some]
  simp only [sa_get, sa_sa]
  have e233 : r3 233 = iN (heapG (takeG (logA a) (a 10) j) (kAt a (a 10) j) 233) := hr3.1 _ (by omega) (by omega)
  rw [e233, iN_p1]
  have hP : encR (up (heapG (takeG (logA a) (a 10) j) (kAt a (a 10) j)) 233 (heapG (takeG (logA a) (a 10) j) (kAt a (a 10) j) 233 + 1)) (logL L (a 13 % 30) (iN (a 10)) 1 (iN (10 * (kAt a (a 10) j / 5) + kAt a (a 10) j % 5 + 1)) (-1)) (upd r3 233 (iN (heapG (takeG (logA a) (a 10) j) (kAt a (a 10) j) 233 + 1))) := encR_up hr3 (by omega) (by omega) rfl
  have g : ∀ i, i ≠ 233 → i ≠ 237 → (i < 187 ∨ 231 ≤ i) → i ≠ 13 → up (heapG (takeG (logA a) (a 10) j) (kAt a (a 10) j)) 233 (heapG (takeG (logA a) (a 10) j) (kAt a (a 10) j) 233 + 1) i = a i := fun i h1 h2 h3 h13 => by
    rw [up_ne h1, heapG_fr h2 (by omega), tf i (by omega) h13]
  obtain ⟨r4, q4, hr4⟩ := m_tokenBack (s := s) hP (by rw [g 6 (by omega) (by omega) (by omega) (by omega)]; exact b6) (by rw [g 7 (by omega) (by omega) (by omega) (by omega)]; omega) (by rw [g 235 (by omega) (by omega) (by omega) (by omega)]; exact h235)
  rw [q4, ob_some]
  obtain ⟨r5, q5, hr5⟩ := m_fin (s := s) ho he hj hM hr4
  rw [q5]
  exact ⟨r5, rfl, hr5⟩
theorem x_plays (ho : okG a) (he : endOf a = 0) (hj : j < a (187 + a 10)) (hG : encG a L s) (hu : encRu a ru) : ∃ s', f_X1_playCard NN s ru (iN j) = some s' ∧ encG (playG a j) (playL a L j) s' := by
  obtain ⟨hp, hh, hk, hk0, hk1⟩ := logA_b ho he hj
  have hw := ho.1
  have hs := size_b ho
  have hs0 : ∀ p, p < 4 → a (187 + p) ≤ 5 := fun p hp => wfS hw hp
  obtain ⟨b0, b1, b2, b3, b4, b5, b6, b7, b8, b9, b11, b12, b13⟩ := wfB hw
  obtain ⟨rr, r8, r9, r10, rpot, r13⟩ := run_b ho he
  have hW := take_okW ho he hj
  have tf : ∀ i, (i < 187 ∨ 211 ≤ i) → i ≠ 13 → takeG (logA a) (a 10) j i = a i := fun i hi h13 => by rw [takeG_fr hp (hs _ hp) hi, logA_ne h13]
  have ts : ∀ q, q < 4 → takeG (logA a) (a 10) j (187 + q) ≤ 5 := fun q hq => by
    have h1 := hs q hq
    have h2 := hs _ hp
    rw [takeG_size hp hq]
    split <;> omega
  have hut : encRu (takeG (logA a) (a 10) j) ru := encRu_fr b4 hu fun i hi => tf i (by omega) (by omega)
  have hGl : encG (logA a) L s := g_13 hs0 hG
  obtain ⟨s1, q1, hG1⟩ := x_take (a := logA a) (j := j) hGl hp (logA_ne (by omega)) (by rw [logA_ne (by omega)]; exact hj) (hs _ hp) (by rw [logA_ne (by omega)]; omega) (wfG_logA hw (by omega))
  rw [logA_ne (by omega)] at q1
  have eT : s1.2.2.1 11 (kAt a (a 10) j / 5) = iN (a (14 + kAt a (a 10) j / 5)) := by
    have := hG1.2.2.2.2.2.2.2.2.2.2.1 (kAt a (a 10) j / 5) (by omega)
    rwa [tf _ (by omega) (by omega)] at this
  have em : iN (kAt a (a 10) j) - iN (kAt a (a 10) j) / 5 * 5 = iN (kAt a (a 10) j % 5) := by
    rw [show (5 : Int32) = iN 5 from rfl, iN_div (by omega) (by omega), iN_mul, iN_sub (by omega)]
    congr 1
    omega
  have ed : iN (kAt a (a 10) j) / 5 = iN (kAt a (a 10) j / 5) := iN_div (b := 5) (by omega) (by omega)
  have hT := okTop ho (c := kAt a (a 10) j / 5) (by omega)
  have e11 : ∀ b : Gm, MidP a b (a 10) j → ∀ (x1 x2 x3 : Int32), logL L (b 11 % 30) (iN (b 10)) x1 x2 x3 = logL L (a 13 % 30) (iN (a 10)) x1 x2 x3 := fun b hb x1 x2 x3 => by
    rw [hb.1 11 (by omega), hb.1 10 (by omega), r13]
  have fin : ∀ (b : Gm) (sb : Ob), MidP a b (a 10) j → ∀ x1 x2 x3 : Int32, encG b L sb → ∃ s', (ob (f_X1_writeLog NN sb x1 x2 x3) fun x14 => f_X1_playCard_107 NN ru (iN j) x14) = some s' ∧ encG (endG (drawG b (a 10))) (logL L (a 13 % 30) (iN (a 10)) x1 x2 x3) s' := by
    intro b sb hb x1 x2 x3 hGb
    have hsb := (mid_end (Lx := L) ho he hj hb).2.2.2.1
    obtain ⟨s2, q2, hG2⟩ := x_log hsb hGb (by rw [hb.1 11 (by omega)]; exact b11) x1 x2 x3
    rw [e11 b hb] at hG2
    rw [q2, ob_some]
    unfold f_X1_playCard_107
    exact x_fin ho he hj hb hG2 hu
  unfold f_X1_playCard
  rw [q1, ob_some, ko_eq hu (by omega), ob_some]
  show ∃ s', (ob (f_X1_canGoOnPile NN s1 (iN (kAt a (a 10) j))) _) = some s' ∧ _
  unfold f_X1_canGoOnPile
  rw [em, ed, X1_topOf_eq (by omega), ob_some, eT]
  unfold playG playL midPlayG
  by_cases ht : a (14 + kAt a (a 10) j / 5) = kAt a (a 10) j % 5
  · have hM := midOk_P ho he hj ht
    rw [if_pos (by rw [ht]), ob_some, if_neg (by decide), if_pos ht, if_pos ht]
    simp only [znm_eq]
    rw [show a (27 + a (191 + (5 * a 10 + j))) = kAt a (a 10) j from rfl, em, ed, chk_iN (by omega) (by omega), chk_iN (by omega) (by omega), clamp_iN (by omega), iN_p1, hu.2.1]
    have t14 : s1.2.2.1 11 (kAt a (a 10) j / 5) + 1 = iN (takeG (logA a) (a 10) j (14 + kAt a (a 10) j / 5) + 1) := by rw [eT, tf _ (by omega) (by omega), iN_p1]
    have t231 : s1.2.2.1 7 0 + 1 = iN (takeG (logA a) (a 10) j 231 + 1) := by
      have := hG1.2.2.2.2.2.2.1 0 (by omega)
      rw [this, iN_p1]
    rw [t14, t231]
    have hP : encG (pileG (takeG (logA a) (a 10) j) (kAt a (a 10) j)) L (sa (sa s1 11 (upd (s1.2.2.1 11) (kAt a (a 10) j / 5) (iN (takeG (logA a) (a 10) j (14 + kAt a (a 10) j / 5) + 1)))) 7 (upd ((sa s1 11 (upd (s1.2.2.1 11) (kAt a (a 10) j / 5) (iN (takeG (logA a) (a 10) j (14 + kAt a (a 10) j / 5) + 1)))).2.2.1 7) 0 (iN (takeG (logA a) (a 10) j 231 + 1)))) :=
      g_total (m := 0) (by omega) (fun p hp => by rw [up_ne (by omega)]; exact ts p hp) (g_top (by omega) ts hG1)
    have t1 : takeG (logA a) (a 10) j 1 = a 1 := tf 1 (by omega) (by omega)
    unfold f_X1_playCard_59
    rw [co_eq hk, ob_some]
    by_cases c : kAt a (a 10) j % 5 + 1 = takeG (logA a) (a 10) j 1
    · rw [if_pos (by rw [c, t1])]
      have hb : midOkG (takeG (logA a) (a 10) j) (kAt a (a 10) j) = tokG (pileG (takeG (logA a) (a 10) j) (kAt a (a 10) j)) := if_pos c
      have f6 : pileG (takeG (logA a) (a 10) j) (kAt a (a 10) j) 6 = a 6 := by rw [pileG_fr (by omega) (by omega), tf 6 (by omega) (by omega)]
      have f7 : pileG (takeG (logA a) (a 10) j) (kAt a (a 10) j) 7 = a 7 := by rw [pileG_fr (by omega) (by omega), tf 7 (by omega) (by omega)]
      have sP : ∀ p, p < 4 → pileG (takeG (logA a) (a 10) j) (kAt a (a 10) j) (187 + p) ≤ 5 := fun p hp => by rw [pileG_fr (by omega) (by omega)]; exact ts p hp
      obtain ⟨s3, q3, hG3⟩ := x_token sP hP (by rw [f6]; exact hu.2.2.2.2.1 (by omega)) (by omega) (by omega)
      rw [q3, ob_some]
      rw [← hb] at hG3
      exact fin _ _ hM _ _ _ hG3
    · rw [if_neg (fun q => c ((iN_inj (by omega) (by rw [t1]; omega)).mp (by rw [t1]; exact q)))]
      have hb : midOkG (takeG (logA a) (a 10) j) (kAt a (a 10) j) = pileG (takeG (logA a) (a 10) j) (kAt a (a 10) j) := if_neg c
      rw [← hb] at hP
      exact fin _ _ hM _ _ _ hP
  · have hM := midLost_P ho he hj
    rw [if_neg (fun q => ht ((iN_inj (by omega) (by omega)).mp q)), ob_some, if_pos rfl, if_neg ht, if_neg ht]
    obtain ⟨s2, q2, hG2⟩ := x_heap hW hG1 hut hk
    rw [show a (27 + a (191 + (5 * a 10 + j))) = kAt a (a 10) j from rfl, q2, ob_some, co_eq hk]
    simp only [znm_eq, ob_some]
    have f8 : heapG (takeG (logA a) (a 10) j) (kAt a (a 10) j) 8 = a 8 := by rw [heapG_fr (by omega) (by omega), tf 8 (by omega) (by omega)]
    have e3 : s2.1 3 - 1 = iN (heapG (takeG (logA a) (a 10) j) (kAt a (a 10) j) 8 - 1) := by rw [hG2.2.2.1, iN_subm1 (by omega)]
    have e232 : s2.2.2.1 7 1 + 1 = iN (heapG (takeG (logA a) (a 10) j) (kAt a (a 10) j) 232 + 1) := by
      have := hG2.2.2.2.2.2.2.1 1 (by omega)
      rw [this, iN_p1]
    rw [e3, e232]
    have sH : ∀ p, p < 4 → heapG (takeG (logA a) (a 10) j) (kAt a (a 10) j) (187 + p) ≤ 5 := fun p hp => by rw [heapG_fr (by omega) (by omega)]; exact ts p hp
    exact fin _ _ hM _ _ _ (g_total (m := 1) (by omega) (fun p hp => by rw [up_ne (by omega)]; exact sH p hp) (g_lives sH hG2))
theorem x_discards (ho : okG a) (he : endOf a = 0) (hj : j < a (187 + a 10)) (hG : encG a L s) (hu : encRu a ru) : ∃ s', f_X1_discardCard NN s ru (iN j) = some s' ∧ encG (discG a j) (discL a L j) s' := by
  obtain ⟨hp, hh, hk, hk0, hk1⟩ := logA_b ho he hj
  have hw := ho.1
  have hs := size_b ho
  have hs0 : ∀ p, p < 4 → a (187 + p) ≤ 5 := fun p hp => wfS hw hp
  obtain ⟨b0, b1, b2, b3, b4, b5, b6, b7, b8, b9, b11, b12, b13⟩ := wfB hw
  obtain ⟨rr, r8, r9, r10, rpot, r13⟩ := run_b ho he
  have hW := take_okW ho he hj
  have hM := midDisc_P ho he hj
  have tf : ∀ i, (i < 187 ∨ 211 ≤ i) → i ≠ 13 → takeG (logA a) (a 10) j i = a i := fun i hi h13 => by rw [takeG_fr hp (hs _ hp) hi, logA_ne h13]
  have ts : ∀ q, q < 4 → takeG (logA a) (a 10) j (187 + q) ≤ 5 := fun q hq => by
    have h1 := hs q hq
    have h2 := hs _ hp
    rw [takeG_size hp hq]
    split <;> omega
  have hut : encRu (takeG (logA a) (a 10) j) ru := encRu_fr b4 hu fun i hi => tf i (by omega) (by omega)
  have hGl : encG (logA a) L s := g_13 hs0 hG
  obtain ⟨s1, q1, hG1⟩ := x_take (a := logA a) (j := j) hGl hp (logA_ne (by omega)) (by rw [logA_ne (by omega)]; exact hj) (hs _ hp) (by rw [logA_ne (by omega)]; omega) (wfG_logA hw (by omega))
  rw [logA_ne (by omega)] at q1
  obtain ⟨s2, q2, hG2⟩ := x_heap hW hG1 hut hk
  have sH : ∀ p, p < 4 → heapG (takeG (logA a) (a 10) j) (kAt a (a 10) j) (187 + p) ≤ 5 := fun p hp => by rw [heapG_fr (by omega) (by omega)]; exact ts p hp
  have f6 : heapG (takeG (logA a) (a 10) j) (kAt a (a 10) j) 6 = a 6 := by rw [heapG_fr (by omega) (by omega), tf 6 (by omega) (by omega)]
  have f7 : heapG (takeG (logA a) (a 10) j) (kAt a (a 10) j) 7 = a 7 := by rw [heapG_fr (by omega) (by omega), tf 7 (by omega) (by omega)]
  obtain ⟨s3, q3, hG3⟩ := x_token sH hG2 (by rw [f6]; exact hu.2.2.2.2.1 (by omega)) (by omega) (by omega)
  have f233 : tokG (heapG (takeG (logA a) (a 10) j) (kAt a (a 10) j)) 233 = heapG (takeG (logA a) (a 10) j) (kAt a (a 10) j) 233 := tokG_fr (by omega) (by omega)
  have e233 : s3.2.2.1 7 2 + 1 = iN (heapG (takeG (logA a) (a 10) j) (kAt a (a 10) j) 233 + 1) := by
    have := hG3.2.2.2.2.2.2.1 2 (by omega)
    rw [this, f233, iN_p1]
  have hP : encG (midDiscG (takeG (logA a) (a 10) j) (kAt a (a 10) j)) L (sa s3 7 (upd (s3.2.2.1 7) 2 (iN (heapG (takeG (logA a) (a 10) j) (kAt a (a 10) j) 233 + 1)))) := by
    unfold midDiscG
    rw [tok_comm]
    exact g_total (m := 2) (by omega) (fun p hp => by rw [tokG_fr (by omega) (by omega)]; exact sH p hp) hG3
  obtain ⟨s4, q4, hG4⟩ := x_log (mid_end (Lx := L) ho he hj hM).2.2.2.1 hP (by rw [hM.1 11 (by omega)]; exact b11) 1 (iN (10 * (kAt a (a 10) j / 5) + kAt a (a 10) j % 5 + 1)) (-1)
  rw [hM.1 11 (by omega), hM.1 10 (by omega), ← r13] at hG4
  unfold f_X1_discardCard
  rw [q1, ob_some, ko_eq hu (by omega), ob_some]
  rw [show a (27 + a (191 + (5 * a 10 + j))) = kAt a (a 10) j from rfl, q2, ob_some, q3, ob_some, co_eq hk, ob_some, e233, q4, ob_some]
  exact x_fin ho he hj hM hG4 hu
end PLY
