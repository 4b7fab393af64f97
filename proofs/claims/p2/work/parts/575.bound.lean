/-! OWN: the pure half: bound, pace, the words -/
section BND
variable {a : Gm} {L : Nat → Int32} {sX sG ru sM : Ob}
theorem X1_reachableScore_eq (ho : okG a) (hG : encG a L sG) (hu : encRu a ru) : f_X1_reachableScore NN sG ru = some (iN (sumN (reachT a) (a 0))) := by
  obtain ⟨b0, b1, b2, b3, b4, b5, b6, b7, b8, b9, b11, b12, b13⟩ := wfB ho.1
  have hs : ∀ n, n ≤ 4 → sumN (reachT a) n ≤ 5 * n := fun n hn => sumN_le fun c hc => by
    have := (reachT_spec ho (c := c) (by omega)).2.1
    omega
  unfold f_X1_reachableScore f_X1_reachableScore_4
  refine loop2 (fun c => iN (sumN (reachT a) c)) (fun c => iN c) (a 0) ?_ ?_ NN 0 (by omega) (nnb (by omega))
  · intro c hc self
    have := hs c (by omega)
    have := (reachT_spec ho (c := c) (by omega)).2.1
    unfold F_X1_reachableScore_4
    simp (disch := omega) only [↓Lm1, si_si, ob_some, znm_eq, th_some, th_none, tb_some, tb_none, chk_iN, chk_true, clamp_iN, iN_add, iN_mul, iN_sub, iN_div, iN_lt_t, iN_lt_f, iN_le_t, iN_le_f, iN_eq_t, iN_eq_f, iN_m1, m1_iN, iN_zisB, if_true, if_false, ↓reduceIte, Nat.reduceEqDiff, Nat.reduceAdd, Nat.reduceMul, Nat.reduceSub, reduceCtorEq, si_1, si_2, sa_1, sa_2, sa_3, sl_1, sl_3, isT_0, isT_1, Lt0, Lt1, Lt2, Lt3, Lt4, Lt5, Lt6, Lt7, Lt8, Lt9, Lt10, Lt12, Lt14, Lt18, Lt19, Lt20, Lt22, Lt27, Lt30, Lt31, Lt40, Lt67, Lt99, Lt100, Lt107, Lt147, Lt187, Lt191, Lt211, Lt231, Lt235, Lt237, Lt238, Lt300, Lt358, Lt600, hu.1, X1_reachableTop_eq ho hG hu (show c < 4 by omega)]
    rfl
  · intro self
    unfold F_X1_reachableScore_4
    simp (disch := omega) only [↓Lm1, si_si, ob_some, znm_eq, th_some, th_none, tb_some, tb_none, chk_iN, chk_true, clamp_iN, iN_add, iN_mul, iN_sub, iN_div, iN_lt_t, iN_lt_f, iN_le_t, iN_le_f, iN_eq_t, iN_eq_f, iN_m1, m1_iN, iN_zisB, if_true, if_false, ↓reduceIte, Nat.reduceEqDiff, Nat.reduceAdd, Nat.reduceMul, Nat.reduceSub, reduceCtorEq, si_1, si_2, sa_1, sa_2, sa_3, sl_1, sl_3, isT_0, isT_1, Lt0, Lt1, Lt2, Lt3, Lt4, Lt5, Lt6, Lt7, Lt8, Lt9, Lt10, Lt12, Lt14, Lt18, Lt19, Lt20, Lt22, Lt27, Lt30, Lt31, Lt40, Lt67, Lt99, Lt100, Lt107, Lt147, Lt187, Lt191, Lt211, Lt231, Lt235, Lt237, Lt238, Lt300, Lt358, Lt600, hu.1]
theorem X8_boundOf_eq (ho : okG a) (hr : encR a L (sM.2.2.1 0)) : f_X8_boundOf NN sM = some (iN (sumN (reachT a) (a 0))) := by
  obtain ⟨b0, b1, b2, b3, b4, b5, b6, b7, b8, b9, b11, b12, b13⟩ := wfB ho.1
  have hs : ∀ n, n ≤ 4 → sumN (reachT a) n ≤ 5 * n := fun n hn => sumN_le fun c hc => by
    have := (reachT_spec ho (c := c) (by omega)).2.1
    omega
  unfold f_X8_boundOf f_X8_boundOf_4
  refine loop2 (fun c => iN (sumN (reachT a) c)) (fun c => iN c) (a 0) ?_ ?_ NN 0 (by omega) (nnb (by omega))
  · intro c hc self
    have h1 := hs c (by omega)
    obtain ⟨i1, i2, i3, i4⟩ := reachT_spec ho (c := c) (by omega)
    unfold F_X8_boundOf_4 f_X8_boundOf_24
    simp (disch := omega) only [↓Lm1, si_si, ob_some, znm_eq, th_some, th_none, tb_some, tb_none, chk_iN, chk_true, clamp_iN, iN_add, iN_mul, iN_sub, iN_div, iN_lt_t, iN_lt_f, iN_le_t, iN_le_f, iN_eq_t, iN_eq_f, iN_m1, m1_iN, iN_zisB, if_true, if_false, ↓reduceIte, Nat.reduceEqDiff, Nat.reduceAdd, Nat.reduceMul, Nat.reduceSub, reduceCtorEq, si_1, si_2, sa_1, sa_2, sa_3, sl_1, sl_3, isT_0, isT_1, Lt0, Lt1, Lt2, Lt3, Lt4, Lt5, Lt6, Lt7, Lt8, Lt9, Lt10, Lt12, Lt14, Lt18, Lt19, Lt20, Lt22, Lt27, Lt30, Lt31, Lt40, Lt67, Lt99, Lt100, Lt107, Lt147, Lt187, Lt191, Lt211, Lt231, Lt235, Lt237, Lt238, Lt300, Lt358, Lt600, hr.1]
    have go := loop3 (z := fun _ _ _ => none) (F := F_X8_boundOf_24 NN sM self) (fun _ => iN (sumN (reachT a) c)) (fun _ => iN c) (fun j => iN (a (14 + c) + j)) (reachT a c - a (14 + c)) (res := self (iN (sumN (reachT a) (c + 1))) (iN (c + 1))) ?_ ?_ NN 0 (by omega) (nnb (by omega))
    · exact go
    · intro j hj self2
      have i5 := i3 (a (14 + c) + j) (by omega) (by omega)
      unfold F_X8_boundOf_24
      simp (disch := omega) only [↓Lm1, si_si, ob_some, znm_eq, th_some, th_none, tb_some, tb_none, chk_iN, chk_true, clamp_iN, iN_add, iN_mul, iN_sub, iN_div, iN_lt_t, iN_lt_f, iN_le_t, iN_le_f, iN_eq_t, iN_eq_f, iN_m1, m1_iN, iN_zisB, if_true, if_false, ↓reduceIte, Nat.reduceEqDiff, Nat.reduceAdd, Nat.reduceMul, Nat.reduceSub, reduceCtorEq, si_1, si_2, sa_1, sa_2, sa_3, sl_1, sl_3, isT_0, isT_1, Lt0, Lt1, Lt2, Lt3, Lt4, Lt5, Lt6, Lt7, Lt8, Lt9, Lt10, Lt12, Lt14, Lt18, Lt19, Lt20, Lt22, Lt27, Lt30, Lt31, Lt40, Lt67, Lt99, Lt100, Lt107, Lt147, Lt187, Lt191, Lt211, Lt231, Lt235, Lt237, Lt238, Lt300, Lt358, Lt600, hr.1, kd_eq, X8_isGone_eq ho hr (show 5 * c + (a (14 + c) + j) < 20 by omega), if_neg (show ¬ inDk a (5 * c + (a (14 + c) + j)) 0 = a (211 + (5 * c + (a (14 + c) + j))) by omega)]
      rfl
    · intro self2
      have et : a (14 + c) + (reachT a c - a (14 + c)) = reachT a c := by omega
      unfold F_X8_boundOf_24 f_X8_boundOf_54
      by_cases e : reachT a c = a 1
      · rw [show sumN (reachT a) (c + 1) = sumN (reachT a) c + a 1 from by show _ + reachT a c = _; rw [e], e]
        rw [e] at et
        simp (disch := omega) only [↓Lm1, si_si, ob_some, znm_eq, th_some, th_none, tb_some, tb_none, chk_iN, chk_true, clamp_iN, iN_add, iN_mul, iN_sub, iN_div, iN_lt_t, iN_lt_f, iN_le_t, iN_le_f, iN_eq_t, iN_eq_f, iN_m1, m1_iN, iN_zisB, if_true, if_false, ↓reduceIte, Nat.reduceEqDiff, Nat.reduceAdd, Nat.reduceMul, Nat.reduceSub, reduceCtorEq, si_1, si_2, sa_1, sa_2, sa_3, sl_1, sl_3, isT_0, isT_1, Lt0, Lt1, Lt2, Lt3, Lt4, Lt5, Lt6, Lt7, Lt8, Lt9, Lt10, Lt12, Lt14, Lt18, Lt19, Lt20, Lt22, Lt27, Lt30, Lt31, Lt40, Lt67, Lt99, Lt100, Lt107, Lt147, Lt187, Lt191, Lt211, Lt231, Lt235, Lt237, Lt238, Lt300, Lt358, Lt600, hr.1, et]
      · have hg := reachT_gone ho (c := c) (by omega) (by omega)
        simp (disch := omega) only [↓Lm1, si_si, ob_some, znm_eq, th_some, th_none, tb_some, tb_none, chk_iN, chk_true, clamp_iN, iN_add, iN_mul, iN_sub, iN_div, iN_lt_t, iN_lt_f, iN_le_t, iN_le_f, iN_eq_t, iN_eq_f, iN_m1, m1_iN, iN_zisB, if_true, if_false, ↓reduceIte, Nat.reduceEqDiff, Nat.reduceAdd, Nat.reduceMul, Nat.reduceSub, reduceCtorEq, si_1, si_2, sa_1, sa_2, sa_3, sl_1, sl_3, isT_0, isT_1, Lt0, Lt1, Lt2, Lt3, Lt4, Lt5, Lt6, Lt7, Lt8, Lt9, Lt10, Lt12, Lt14, Lt18, Lt19, Lt20, Lt22, Lt27, Lt30, Lt31, Lt40, Lt67, Lt99, Lt100, Lt107, Lt147, Lt187, Lt191, Lt211, Lt231, Lt235, Lt237, Lt238, Lt300, Lt358, Lt600, hr.1, et, kd_eq, X8_isGone_eq ho hr (show 5 * c + reachT a c < 20 by omega), if_pos hg]
        rfl
  · intro self
    unfold F_X8_boundOf_4
    simp (disch := omega) only [↓Lm1, si_si, ob_some, znm_eq, th_some, th_none, tb_some, tb_none, chk_iN, chk_true, clamp_iN, iN_add, iN_mul, iN_sub, iN_div, iN_lt_t, iN_lt_f, iN_le_t, iN_le_f, iN_eq_t, iN_eq_f, iN_m1, m1_iN, iN_zisB, if_true, if_false, ↓reduceIte, Nat.reduceEqDiff, Nat.reduceAdd, Nat.reduceMul, Nat.reduceSub, reduceCtorEq, si_1, si_2, sa_1, sa_2, sa_3, sl_1, sl_3, isT_0, isT_1, Lt0, Lt1, Lt2, Lt3, Lt4, Lt5, Lt6, Lt7, Lt8, Lt9, Lt10, Lt12, Lt14, Lt18, Lt19, Lt20, Lt22, Lt27, Lt30, Lt31, Lt40, Lt67, Lt99, Lt100, Lt107, Lt147, Lt187, Lt191, Lt211, Lt231, Lt235, Lt237, Lt238, Lt300, Lt358, Lt600, hr.1]
end BND
theorem P_30_ok : P_30 NN Re := by
  intro pl sX sG ru q sR PS SS sM h
  obtain ⟨a, L, ho, hr, hG, hu, -⟩ := h.1
  refine ⟨iN (sumN (reachT a) (a 0)), (iN (sumN (reachT a) (a 0)), si sM 7 0), ?_, ?_, rfl, Re_thr h 0⟩
  · unfold f_X7_bound
    rw [X1_reachableScore_eq ho hG hu]; rfl
  · unfold f_X8_bound
    rw [X8_boundOf_eq (sM := si sM 7 0) ho hr]; rfl
theorem P_31_ok : P_31 NN Re := by
  intro pl sX sG ru q sR PS SS sM h
  obtain ⟨a, L, ho, hr, hG, hu, -⟩ := h.1
  have gT := hG.2.2.2.2.2.2.2.2.2.2.1
  refine ⟨(((0 + iN (a 14) + iN (a 15) + iN (a 16) + iN (a 17)) + iN (a 4) - iN (a 5)) + iN (a 2)) - iN (sumN (reachT a) (a 0)), ((((0 + iN (a 14) + iN (a 15) + iN (a 16) + iN (a 17)) + iN (a 4) - iN (a 5)) + iN (a 2)) - iN (sumN (reachT a) (a 0)), si sM 7 0), ?_, ?_, rfl, Re_thr h 0⟩
  · unfold f_X7_pace
    rw [X1_score_eq, X1_reachableScore_eq ho hG hu, gT 0 (by omega), gT 1 (by omega), gT 2 (by omega), gT 3 (by omega), hG.1, hu.2.2.1, hu.2.2.2.2.2.1]; rfl
  · unfold f_X8_pace
    rw [X8_boundOf_eq (sM := si sM 7 0) ho hr, X8_score_eq (si sM 7 0), show (si sM 7 0).2.2.1 0 = sM.2.2.1 0 from rfl, hr.1 14 (by omega) (by omega), hr.1 15 (by omega) (by omega), hr.1 16 (by omega) (by omega), hr.1 17 (by omega) (by omega), hr.1 4 (by omega) (by omega), hr.1 5 (by omega) (by omega), hr.1 2 (by omega) (by omega)]; rfl
section WRD
variable {a : Gm} {L : Nat → Int32} {sX sG ru sM : Ob}
/-- words: (0, a color) or (1, a rank) -/
def isW (a : Gm) (w v : Nat) : Prop := (w = 0 ∧ v < a 0) ∨ (w = 1 ∧ 1 ≤ v ∧ v ≤ a 1)
def badW (a : Gm) (p q : Int32) : Prop := (p = 0 ∧ badX q (a 0)) ∨ (p = 1 ∧ badR q (a 1)) ∨ (p ≠ 0 ∧ p ≠ 1)
theorem word2 (a : Gm) (p q : Int32) : badW a p q ∨ ∃ w v, isW a w v ∧ p = iN w ∧ q = iN v := by
  by_cases h0 : p = 0
  · rcases idx2 q (a 0) with h | ⟨v, -, hv, rfl⟩
    · exact Or.inl (Or.inl ⟨h0, h⟩)
    · exact Or.inr ⟨0, v, Or.inl ⟨rfl, hv⟩, h0, rfl⟩
  · by_cases h1 : p = 1
    · rcases rank2 q (a 1) with h | ⟨r, hr, rfl⟩
      · exact Or.inl (Or.inr (Or.inl ⟨h1, h⟩))
      · exact Or.inr ⟨1, r + 1, Or.inr ⟨rfl, by omega, by omega⟩, h1, rfl⟩
    · exact Or.inl (Or.inr (Or.inr ⟨h0, h1⟩))
theorem nw_no (hw : wfG a) (hu : encRu a ru) {p q : Int32} (h : badW a p q) : f_X7_needWord NN sX sG ru p q = none ∧ ft_X7_needWord NN sX sG ru p q = some 2 := by
  have h0 := hw.1
  have h1 := hw.2.1
  unfold f_X7_needWord ft_X7_needWord f_X7_needWord_26 ft_X7_needWord_26 f_X7_needWord_27 ft_X7_needWord_27 f_X7_needWord_56 ft_X7_needWord_56 f_X7_needWord_57 ft_X7_needWord_57
  rw [hu.1, hu.2.1]
  rcases h with ⟨rfl, h⟩ | ⟨rfl, h⟩ | ⟨hp, hq⟩
  · rcases h with h | ⟨m, hm, rfl, hc⟩
    · rw [if_pos rfl, if_pos h, if_pos rfl, if_pos h]; exact ⟨rfl, rfl⟩
    · constructor <;> simp (disch := omega) only [↓Lm1, si_si, ob_some, znm_eq, th_some, th_none, tb_some, tb_none, chk_iN, chk_true, clamp_iN, iN_add, iN_mul, iN_sub, iN_div, iN_lt_t, iN_lt_f, iN_le_t, iN_le_f, iN_eq_t, iN_eq_f, iN_m1, m1_iN, iN_zisB, if_true, if_false, ↓reduceIte, Nat.reduceEqDiff, Nat.reduceAdd, Nat.reduceMul, Nat.reduceSub, reduceCtorEq, si_1, si_2, sa_1, sa_2, sa_3, sl_1, sl_3, isT_0, isT_1, Lt0, Lt1, Lt2, Lt3, Lt4, Lt5, Lt6, Lt7, Lt8, Lt9, Lt10, Lt12, Lt14, Lt18, Lt19, Lt20, Lt22, Lt27, Lt30, Lt31, Lt40, Lt67, Lt99, Lt100, Lt107, Lt147, Lt187, Lt191, Lt211, Lt231, Lt235, Lt237, Lt238, Lt300, Lt358, Lt600]
  · rcases h with h | ⟨m, hm, rfl, hc⟩
    · have h' : (q < iN 1) = True := eq_true h
      constructor <;> simp (disch := omega) only [↓Lm1, si_si, ob_some, znm_eq, th_some, th_none, tb_some, tb_none, chk_iN, chk_true, clamp_iN, iN_add, iN_mul, iN_sub, iN_div, iN_lt_t, iN_lt_f, iN_le_t, iN_le_f, iN_eq_t, iN_eq_f, iN_m1, m1_iN, iN_zisB, if_true, if_false, ↓reduceIte, Nat.reduceEqDiff, Nat.reduceAdd, Nat.reduceMul, Nat.reduceSub, reduceCtorEq, si_1, si_2, sa_1, sa_2, sa_3, sl_1, sl_3, isT_0, isT_1, Lt0, Lt1, Lt2, Lt3, Lt4, Lt5, Lt6, Lt7, Lt8, Lt9, Lt10, Lt12, Lt14, Lt18, Lt19, Lt20, Lt22, Lt27, Lt30, Lt31, Lt40, Lt67, Lt99, Lt100, Lt107, Lt147, Lt187, Lt191, Lt211, Lt231, Lt235, Lt237, Lt238, Lt300, Lt358, Lt600, h']
    · constructor <;> simp (disch := omega) only [↓Lm1, si_si, ob_some, znm_eq, th_some, th_none, tb_some, tb_none, chk_iN, chk_true, clamp_iN, iN_add, iN_mul, iN_sub, iN_div, iN_lt_t, iN_lt_f, iN_le_t, iN_le_f, iN_eq_t, iN_eq_f, iN_m1, m1_iN, iN_zisB, if_true, if_false, ↓reduceIte, Nat.reduceEqDiff, Nat.reduceAdd, Nat.reduceMul, Nat.reduceSub, reduceCtorEq, si_1, si_2, sa_1, sa_2, sa_3, sl_1, sl_3, isT_0, isT_1, Lt0, Lt1, Lt2, Lt3, Lt4, Lt5, Lt6, Lt7, Lt8, Lt9, Lt10, Lt12, Lt14, Lt18, Lt19, Lt20, Lt22, Lt27, Lt30, Lt31, Lt40, Lt67, Lt99, Lt100, Lt107, Lt147, Lt187, Lt191, Lt211, Lt231, Lt235, Lt237, Lt238, Lt300, Lt358, Lt600, ite_self]
  · rw [if_neg hp, if_neg hq, if_neg hp, if_neg hq]; exact ⟨rfl, rfl⟩
theorem nw_yes (hw : wfG a) (hu : encRu a ru) {w v : Nat} (h : isW a w v) : f_X7_needWord NN sX sG ru (iN w) (iN v) = some () := by
  have h0 := hw.1
  have h1 := hw.2.1
  unfold f_X7_needWord f_X7_needWord_26 f_X7_needWord_27 f_X7_needWord_56 f_X7_needWord_57
  rw [hu.1, hu.2.1]
  rcases h with ⟨rfl, h⟩ | ⟨rfl, h, h'⟩ <;> simp (disch := omega) only [↓Lm1, si_si, ob_some, znm_eq, th_some, th_none, tb_some, tb_none, chk_iN, chk_true, clamp_iN, iN_add, iN_mul, iN_sub, iN_div, iN_lt_t, iN_lt_f, iN_le_t, iN_le_f, iN_eq_t, iN_eq_f, iN_m1, m1_iN, iN_zisB, if_true, if_false, ↓reduceIte, Nat.reduceEqDiff, Nat.reduceAdd, Nat.reduceMul, Nat.reduceSub, reduceCtorEq, si_1, si_2, sa_1, sa_2, sa_3, sl_1, sl_3, isT_0, isT_1, Lt0, Lt1, Lt2, Lt3, Lt4, Lt5, Lt6, Lt7, Lt8, Lt9, Lt10, Lt12, Lt14, Lt18, Lt19, Lt20, Lt22, Lt27, Lt30, Lt31, Lt40, Lt67, Lt99, Lt100, Lt107, Lt147, Lt187, Lt191, Lt211, Lt231, Lt235, Lt237, Lt238, Lt300, Lt358, Lt600]
theorem iw_no (hw : wfG a) (hr : encR a L (sM.2.2.1 0)) {p q : Int32} (h : badW a p q) : f_X8_isWordOf NN sM p q = some 0 := by
  have h0 := hw.1
  have h1 := hw.2.1
  unfold f_X8_isWordOf f_X8_isWordOf_20
  rw [hr.1 0 (by omega) (by omega), hr.1 1 (by omega) (by omega)]
  rcases h with ⟨rfl, h⟩ | ⟨rfl, h⟩ | ⟨hp, hq⟩
  · rw [X8_in_no (by omega) h]; rfl
  · rw [X8_inR_no (by omega) h]; rfl
  · rw [if_neg hp, if_neg hq]
theorem iw_yes (hw : wfG a) (hr : encR a L (sM.2.2.1 0)) {w v : Nat} (h : isW a w v) : f_X8_isWordOf NN sM (iN w) (iN v) = some 1 := by
  have h0 := hw.1
  have h1 := hw.2.1
  unfold f_X8_isWordOf f_X8_isWordOf_20
  rw [hr.1 0 (by omega) (by omega), hr.1 1 (by omega) (by omega)]
  rcases h with ⟨rfl, h⟩ | ⟨rfl, h, h'⟩
  · rw [X8_in_yes (by omega) h]; rfl
  · have := X8_inR_yes (n := a 1) (r := v - 1) (by omega) (by omega)
    rw [show v - 1 + 1 = v by omega] at this
    rw [this]; rfl
/-- where a word's times stand -/
def wAt (w v : Nat) : Nat := if w = 0 then v else 4 + v - 1
theorem wAt_lt (hw : wfG a) {w v : Nat} (h : isW a w v) : wAt w v < 9 := by
  have h0 := hw.1
  have h1 := hw.2.1
  unfold wAt
  rcases h with ⟨rfl, h⟩ | ⟨rfl, h, h'⟩
  · rw [if_pos rfl]; omega
  · rw [if_neg (by omega)]; omega
theorem wa_eq {w v : Nat} (hw : wfG a) (h : isW a w v) : f_X8_wordAt NN (iN w) (iN v) = some (iN (18 + wAt w v)) := by
  have h0 := hw.1
  have h1 := hw.2.1
  unfold f_X8_wordAt wAt
  rcases h with ⟨rfl, h⟩ | ⟨rfl, h, h'⟩
  · simp (disch := omega) only [↓Lm1, si_si, ob_some, znm_eq, th_some, th_none, tb_some, tb_none, chk_iN, chk_true, clamp_iN, iN_add, iN_mul, iN_sub, iN_div, iN_lt_t, iN_lt_f, iN_le_t, iN_le_f, iN_eq_t, iN_eq_f, iN_m1, m1_iN, iN_zisB, if_true, if_false, ↓reduceIte, Nat.reduceEqDiff, Nat.reduceAdd, Nat.reduceMul, Nat.reduceSub, reduceCtorEq, si_1, si_2, sa_1, sa_2, sa_3, sl_1, sl_3, isT_0, isT_1, Lt0, Lt1, Lt2, Lt3, Lt4, Lt5, Lt6, Lt7, Lt8, Lt9, Lt10, Lt12, Lt14, Lt18, Lt19, Lt20, Lt22, Lt27, Lt30, Lt31, Lt40, Lt67, Lt99, Lt100, Lt107, Lt147, Lt187, Lt191, Lt211, Lt231, Lt235, Lt237, Lt238, Lt300, Lt358, Lt600]
  · have e : 22 + v - 1 = 18 + (4 + v - 1) := by omega
    rw [if_neg (show ¬ 1 = 0 by omega)]
    simp (disch := omega) only [↓Lm1, si_si, ob_some, znm_eq, th_some, th_none, tb_some, tb_none, chk_iN, chk_true, clamp_iN, iN_add, iN_mul, iN_sub, iN_div, iN_lt_t, iN_lt_f, iN_le_t, iN_le_f, iN_eq_t, iN_eq_f, iN_m1, m1_iN, iN_zisB, if_true, if_false, ↓reduceIte, Nat.reduceEqDiff, Nat.reduceAdd, Nat.reduceMul, Nat.reduceSub, reduceCtorEq, si_1, si_2, sa_1, sa_2, sa_3, sl_1, sl_3, isT_0, isT_1, Lt0, Lt1, Lt2, Lt3, Lt4, Lt5, Lt6, Lt7, Lt8, Lt9, Lt10, Lt12, Lt14, Lt18, Lt19, Lt20, Lt22, Lt27, Lt30, Lt31, Lt40, Lt67, Lt99, Lt100, Lt107, Lt147, Lt187, Lt191, Lt211, Lt231, Lt235, Lt237, Lt238, Lt300, Lt358, Lt600, e]
theorem iow_eq {w v : Nat} (hw : wfG a) (h : isW a w v) : f_X5_indexOfWord NN (iN w) (iN v) = some (iN (wAt w v)) := by
  have h0 := hw.1
  have h1 := hw.2.1
  unfold f_X5_indexOfWord wAt
  rcases h with ⟨rfl, h⟩ | ⟨rfl, h, h'⟩
  · simp (disch := omega) only [↓Lm1, si_si, ob_some, znm_eq, th_some, th_none, tb_some, tb_none, chk_iN, chk_true, clamp_iN, iN_add, iN_mul, iN_sub, iN_div, iN_lt_t, iN_lt_f, iN_le_t, iN_le_f, iN_eq_t, iN_eq_f, iN_m1, m1_iN, iN_zisB, if_true, if_false, ↓reduceIte, Nat.reduceEqDiff, Nat.reduceAdd, Nat.reduceMul, Nat.reduceSub, reduceCtorEq, si_1, si_2, sa_1, sa_2, sa_3, sl_1, sl_3, isT_0, isT_1, Lt0, Lt1, Lt2, Lt3, Lt4, Lt5, Lt6, Lt7, Lt8, Lt9, Lt10, Lt12, Lt14, Lt18, Lt19, Lt20, Lt22, Lt27, Lt30, Lt31, Lt40, Lt67, Lt99, Lt100, Lt107, Lt147, Lt187, Lt191, Lt211, Lt231, Lt235, Lt237, Lt238, Lt300, Lt358, Lt600]
  · rw [if_neg (show ¬ 1 = 0 by omega)]
    simp (disch := omega) only [↓Lm1, si_si, ob_some, znm_eq, th_some, th_none, tb_some, tb_none, chk_iN, chk_true, clamp_iN, iN_add, iN_mul, iN_sub, iN_div, iN_lt_t, iN_lt_f, iN_le_t, iN_le_f, iN_eq_t, iN_eq_f, iN_m1, m1_iN, iN_zisB, if_true, if_false, ↓reduceIte, Nat.reduceEqDiff, Nat.reduceAdd, Nat.reduceMul, Nat.reduceSub, reduceCtorEq, si_1, si_2, sa_1, sa_2, sa_3, sl_1, sl_3, isT_0, isT_1, Lt0, Lt1, Lt2, Lt3, Lt4, Lt5, Lt6, Lt7, Lt8, Lt9, Lt10, Lt12, Lt14, Lt18, Lt19, Lt20, Lt22, Lt27, Lt30, Lt31, Lt40, Lt67, Lt99, Lt100, Lt107, Lt147, Lt187, Lt191, Lt211, Lt231, Lt235, Lt237, Lt238, Lt300, Lt358, Lt600]
theorem tl_eq {w v : Nat} (hw : wfG a) (hG : encG a L sG) (h : isW a w v) : f_X1_timesLeft NN sG (iN w) (iN v) = some (iN (a (18 + wAt w v))) := by
  have := wAt_lt hw h
  have gW := hG.2.2.2.2.2.2.2.2.2.2.2.2.1
  unfold f_X1_timesLeft
  rw [iow_eq hw h]
  simp (disch := omega) only [↓Lm1, si_si, ob_some, znm_eq, th_some, th_none, tb_some, tb_none, chk_iN, chk_true, clamp_iN, iN_add, iN_mul, iN_sub, iN_div, iN_lt_t, iN_lt_f, iN_le_t, iN_le_f, iN_eq_t, iN_eq_f, iN_m1, m1_iN, iN_zisB, if_true, if_false, ↓reduceIte, Nat.reduceEqDiff, Nat.reduceAdd, Nat.reduceMul, Nat.reduceSub, reduceCtorEq, si_1, si_2, sa_1, sa_2, sa_3, sl_1, sl_3, isT_0, isT_1, Lt0, Lt1, Lt2, Lt3, Lt4, Lt5, Lt6, Lt7, Lt8, Lt9, Lt10, Lt12, Lt14, Lt18, Lt19, Lt20, Lt22, Lt27, Lt30, Lt31, Lt40, Lt67, Lt99, Lt100, Lt107, Lt147, Lt187, Lt191, Lt211, Lt231, Lt235, Lt237, Lt238, Lt300, Lt358, Lt600, gW]
end WRD
theorem P_20_ok : P_20 NN Re := by
  intro pl sX sG ru q sR PS SS sM h fo p1 p2
  obtain ⟨a, L, ho, hr, hG, hu, -⟩ := h.1
  have hw := ho.1
  refine ansQ (fo := fo) h ?_
  rcases word2 a p1 p2 with hc | ⟨w, v, hc, rfl, rfl⟩
  · obtain ⟨e1, e2⟩ := nw_no (sX := sX) (sG := sG) hw hu hc
    refine Or.inl ⟨1, 0, by decide, ?_, ?_⟩
    · unfold f_L_wordsLeft f_X7_wordsLeft ft_X7_wordsLeft
      rw [e1, e2]; rfl
    · unfold f_X8_wordsLeft
      rw [iw_no hw hr hc, ob_some, X8_isThrown_0]; rfl
  · have hl := wAt_lt hw hc
    refine Or.inr ⟨iN (a (18 + wAt w v)), ?_, ?_⟩
    · unfold f_L_wordsLeft f_X7_wordsLeft
      rw [nw_yes hw hu hc, ob_some, tl_eq hw hG hc]; rfl
    · unfold f_X8_wordsLeft
      rw [iw_yes hw hr hc, ob_some, X8_isThrown_1, ob_some, if_pos rfl, wa_eq hw hc]
      simp (disch := omega) only [↓Lm1, si_si, ob_some, znm_eq, th_some, th_none, tb_some, tb_none, chk_iN, chk_true, clamp_iN, iN_add, iN_mul, iN_sub, iN_div, iN_lt_t, iN_lt_f, iN_le_t, iN_le_f, iN_eq_t, iN_eq_f, iN_m1, m1_iN, iN_zisB, if_true, if_false, ↓reduceIte, Nat.reduceEqDiff, Nat.reduceAdd, Nat.reduceMul, Nat.reduceSub, reduceCtorEq, si_1, si_2, sa_1, sa_2, sa_3, sl_1, sl_3, isT_0, isT_1, Lt0, Lt1, Lt2, Lt3, Lt4, Lt5, Lt6, Lt7, Lt8, Lt9, Lt10, Lt12, Lt14, Lt18, Lt19, Lt20, Lt22, Lt27, Lt30, Lt31, Lt40, Lt67, Lt99, Lt100, Lt107, Lt147, Lt187, Lt191, Lt211, Lt231, Lt235, Lt237, Lt238, Lt300, Lt358, Lt600, hr.1]
