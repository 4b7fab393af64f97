/-! OWN: the pure half: drawn, logPart, colorsOf .. isTouched -/
theorem P_10_ok : P_10 NN Re := by
  intro pl sX sG ru q sR PS SS sM h p
  obtain ⟨a, L, ho, hr, hG, hu, -⟩ := h.1
  have hw := ho.1
  obtain ⟨b0, b1, b2, b3, b4, b5, b6, b7, b8, b9, b11, b12, b13⟩ := wfB hw
  rcases idx2 p (a 4 - a 5) with hc | ⟨i, -, hi, rfl⟩
  · refine ⟨-1, (-1, si sM 7 0), ?_, ?_, rfl, Re_thr h 0⟩
    · unfold f_X7_drawn
      rw [hu.2.2.2.2.2.1, hG.1, iN_sub b5]
      rcases hc with hc | ⟨m, hm, rfl, hc⟩
      · rw [if_pos hc]
      · rw [if_neg (iN_not_neg m hm), if_neg (iN_lt_lit hm (by omega) hc)]
    · unfold f_X8_drawn
      rw [hr.1 4 (by omega) (by omega), hr.1 5 (by omega) (by omega), iN_sub b5, X8_in_no (by omega) hc]; rfl
  · have hk := wfK hw (k := a 5 + i) (by omega)
    refine ⟨iN (10 * (a (27 + (a 5 + i)) / 5) + a (27 + (a 5 + i)) % 5 + 1), (iN (10 * (a (27 + (a 5 + i)) / 5) + a (27 + (a 5 + i)) % 5 + 1), si sM 7 0), ?_, ?_, rfl, Re_thr h 0⟩
    · unfold f_X7_drawn
      rw [hu.2.2.2.2.2.1, hG.1, iN_sub b5, iN_add, ko_eq hu (by omega), ob_some, co_eq hk]
      simp (disch := omega) only [↓Lm1, si_si, ob_some, znm_eq, th_some, th_none, tb_some, tb_none, chk_iN, chk_true, clamp_iN, iN_add, iN_mul, iN_sub, iN_div, iN_lt_t, iN_lt_f, iN_le_t, iN_le_f, iN_eq_t, iN_eq_f, iN_m1, m1_iN, iN_zisB, if_true, if_false, ↓reduceIte, Nat.reduceEqDiff, Nat.reduceAdd, Nat.reduceMul, Nat.reduceSub, reduceCtorEq, si_1, si_2, sa_1, sa_2, sa_3, sl_1, sl_3, isT_0, isT_1, Lt0, Lt1, Lt2, Lt3, Lt4, Lt5, Lt6, Lt7, Lt8, Lt9, Lt10, Lt12, Lt14, Lt18, Lt19, Lt20, Lt22, Lt27, Lt30, Lt31, Lt40, Lt67, Lt99, Lt100, Lt107, Lt147, Lt187, Lt191, Lt211, Lt231, Lt235, Lt237, Lt238, Lt300, Lt358, Lt600]
    · unfold f_X8_drawn
      rw [hr.1 4 (by omega) (by omega), hr.1 5 (by omega) (by omega), iN_sub b5, X8_in_yes (by omega) hi]
      simp (disch := omega) only [↓Lm1, si_si, ob_some, znm_eq, th_some, th_none, tb_some, tb_none, chk_iN, chk_true, clamp_iN, iN_add, iN_mul, iN_sub, iN_div, iN_lt_t, iN_lt_f, iN_le_t, iN_le_f, iN_eq_t, iN_eq_f, iN_m1, m1_iN, iN_zisB, if_true, if_false, ↓reduceIte, Nat.reduceEqDiff, Nat.reduceAdd, Nat.reduceMul, Nat.reduceSub, reduceCtorEq, si_1, si_2, sa_1, sa_2, sa_3, sl_1, sl_3, isT_0, isT_1, Lt0, Lt1, Lt2, Lt3, Lt4, Lt5, Lt6, Lt7, Lt8, Lt9, Lt10, Lt12, Lt14, Lt18, Lt19, Lt20, Lt22, Lt27, Lt30, Lt31, Lt40, Lt67, Lt99, Lt100, Lt107, Lt147, Lt187, Lt191, Lt211, Lt231, Lt235, Lt237, Lt238, Lt300, Lt358, Lt600, hr.1, Nat.add_assoc, to_eq hk]
theorem P_37_ok : P_37 NN Re := by
  intro pl sX sG ru q sR PS SS sM h fo p w
  obtain ⟨a, L, ho, hr, hG, hu, -⟩ := h.1
  have hw := ho.1
  obtain ⟨b0, b1, b2, b3, b4, b5, b6, b7, b8, b9, b11, b12, b13⟩ := wfB hw
  have b13 : a 13 = a 11 := ho.2.2.2.2.2.2.2.2.1
  have hgL := hG.2.2.2.2.2.2.2.2.2.2.2.2.2.2
  have hg5 := hG.2.2.2.2.1
  have hrL : ∀ k, 238 ≤ k → k < 358 → sM.2.2.1 0 k = L (k - 238) := fun k h1 h2 => by
    have := hr.2.2 (k - 238) (by omega)
    rwa [show 238 + (k - 238) = k by omega] at this
  refine ansQ (fo := fo) h ?_
  rcases idx2 w 4 with hc | ⟨v, -, hv, rfl⟩
  · refine Or.inl ⟨1, 0, by decide, ?_, ?_⟩
    · unfold f_L_logPart f_X7_logPart ft_X7_logPart f_X7_logPart_9 ft_X7_logPart_9
      rcases hc with hc | ⟨m, hm, rfl, hc⟩
      · rw [if_pos hc, if_pos hc]; rfl
      · rw [if_neg (iN_not_neg m hm), if_neg (iN_not_neg m hm), if_neg (show ¬ iN m < (4 : Int32) from iN_lt_lit hm (n := 4) (by omega) hc), if_neg (show ¬ iN m < (4 : Int32) from iN_lt_lit hm (n := 4) (by omega) hc)]; rfl
    · unfold f_X8_logPart
      rw [show f_X8_in NN w 0 3 = some 0 from X8_in_no (n := 4) (by omega) hc, ob_some, X8_isThrown_0]; rfl
  · have e1 : f_X8_in NN (iN v) 0 3 = some 1 := X8_in_yes (n := 4) (by omega) hv
    have hmin : (if sM.2.2.1 0 13 < (30 : Int32) then sM.2.2.1 0 13 else (30 : Int32)) = iN (if a 11 < 30 then a 11 else 30) := by
      rw [hr.1 13 (by omega) (by omega), b13]
      by_cases h30 : a 11 < 30
      · rw [if_pos h30, if_pos (show iN (a 11) < (30 : Int32) from (iN_lt (b := 30) (by omega) (by omega)).mpr h30)]
      · rw [if_neg h30, if_neg (show ¬ iN (a 11) < (30 : Int32) from iN_lt_lit (n := 30) (by omega) (by omega) (by omega))]; rfl
    rcases idx2 p (if a 11 < 30 then a 11 else 30) with hc | ⟨i, -, hi, rfl⟩
    · refine Or.inr ⟨-1000, ?_, ?_⟩
      · unfold f_L_logPart f_X7_logPart f_X1_loggedPart
        rw [if_neg (iN_not_neg v (by omega)), if_pos (show iN v < (4 : Int32) from (iN_lt (b := 4) (by omega) (by omega)).mpr hv), hg5]
        rcases hc with hc | ⟨m, hm, rfl, hc⟩
        · rw [if_pos hc]; rfl
        · by_cases h30 : 30 ≤ m
          · simp (disch := omega) only [↓Lm1, si_si, ob_some, znm_eq, th_some, th_none, tb_some, tb_none, chk_iN, chk_true, clamp_iN, iN_add, iN_mul, iN_sub, iN_div, iN_lt_t, iN_lt_f, iN_le_t, iN_le_f, iN_eq_t, iN_eq_f, iN_m1, m1_iN, iN_zisB, if_true, if_false, ↓reduceIte, Nat.reduceEqDiff, Nat.reduceAdd, Nat.reduceMul, Nat.reduceSub, reduceCtorEq, si_1, si_2, sa_1, sa_2, sa_3, sl_1, sl_3, isT_0, isT_1, Lt0, Lt1, Lt2, Lt3, Lt4, Lt5, Lt6, Lt7, Lt8, Lt9, Lt10, Lt12, Lt14, Lt18, Lt19, Lt20, Lt22, Lt27, Lt30, Lt31, Lt40, Lt67, Lt99, Lt100, Lt107, Lt147, Lt187, Lt191, Lt211, Lt231, Lt235, Lt237, Lt238, Lt300, Lt358, Lt600]
          · rw [if_neg (show ¬ iN m < 0 from iN_not_neg m hm)]
            split at hc
            · simp (disch := omega) only [↓Lm1, si_si, ob_some, znm_eq, th_some, th_none, tb_some, tb_none, chk_iN, chk_true, clamp_iN, iN_add, iN_mul, iN_sub, iN_div, iN_lt_t, iN_lt_f, iN_le_t, iN_le_f, iN_eq_t, iN_eq_f, iN_m1, m1_iN, iN_zisB, if_true, if_false, ↓reduceIte, Nat.reduceEqDiff, Nat.reduceAdd, Nat.reduceMul, Nat.reduceSub, reduceCtorEq, si_1, si_2, sa_1, sa_2, sa_3, sl_1, sl_3, isT_0, isT_1, Lt0, Lt1, Lt2, Lt3, Lt4, Lt5, Lt6, Lt7, Lt8, Lt9, Lt10, Lt12, Lt14, Lt18, Lt19, Lt20, Lt22, Lt27, Lt30, Lt31, Lt40, Lt67, Lt99, Lt100, Lt107, Lt147, Lt187, Lt191, Lt211, Lt231, Lt235, Lt237, Lt238, Lt300, Lt358, Lt600]
            · omega
      · unfold f_X8_logPart
        rw [e1, ob_some, X8_isThrown_1, ob_some, if_pos rfl]
        show znm (if sM.2.2.1 0 13 < (30 : Int32) then sM.2.2.1 0 13 else (30 : Int32)) _ = _
        rw [hmin, znm_eq, X8_in_no (by split <;> omega) hc]; rfl
    · have h1 : i < a 11 ∧ i < 30 := by split at hi <;> omega
      have em : a 11 - 1 - i - (a 11 - 1 - i) / 30 * 30 = (a 11 - 1 - i) % 30 := by omega
      refine Or.inr ⟨L ((a 11 - 1 - i) % 30 * 4 + v), ?_, ?_⟩
      · unfold f_L_logPart f_X7_logPart f_X1_loggedPart
        simp (disch := omega) only [↓Lm1, si_si, ob_some, znm_eq, th_some, th_none, tb_some, tb_none, chk_iN, chk_true, clamp_iN, iN_add, iN_mul, iN_sub, iN_div, iN_lt_t, iN_lt_f, iN_le_t, iN_le_f, iN_eq_t, iN_eq_f, iN_m1, m1_iN, iN_zisB, if_true, if_false, ↓reduceIte, Nat.reduceEqDiff, Nat.reduceAdd, Nat.reduceMul, Nat.reduceSub, reduceCtorEq, si_1, si_2, sa_1, sa_2, sa_3, sl_1, sl_3, isT_0, isT_1, Lt0, Lt1, Lt2, Lt3, Lt4, Lt5, Lt6, Lt7, Lt8, Lt9, Lt10, Lt12, Lt14, Lt18, Lt19, Lt20, Lt22, Lt27, Lt30, Lt31, Lt40, Lt67, Lt99, Lt100, Lt107, Lt147, Lt187, Lt191, Lt211, Lt231, Lt235, Lt237, Lt238, Lt300, Lt358, Lt600, hg5, em, hgL]
      · unfold f_X8_logPart
        rw [e1, ob_some, X8_isThrown_1, ob_some, if_pos rfl]
        show znm (if sM.2.2.1 0 13 < (30 : Int32) then sM.2.2.1 0 13 else (30 : Int32)) _ = _
        rw [hmin, znm_eq, X8_in_yes (by split <;> omega) hi]
        have e9 : 238 + 4 * ((a 11 - 1 - i) % 30) + v - 238 = (a 11 - 1 - i) % 30 * 4 + v := by omega
        simp (disch := omega) only [↓Lm1, si_si, ob_some, znm_eq, th_some, th_none, tb_some, tb_none, chk_iN, chk_true, clamp_iN, iN_add, iN_mul, iN_sub, iN_div, iN_lt_t, iN_lt_f, iN_le_t, iN_le_f, iN_eq_t, iN_eq_f, iN_m1, m1_iN, iN_zisB, if_true, if_false, ↓reduceIte, Nat.reduceEqDiff, Nat.reduceAdd, Nat.reduceMul, Nat.reduceSub, reduceCtorEq, si_1, si_2, sa_1, sa_2, sa_3, sl_1, sl_3, isT_0, isT_1, Lt0, Lt1, Lt2, Lt3, Lt4, Lt5, Lt6, Lt7, Lt8, Lt9, Lt10, Lt12, Lt14, Lt18, Lt19, Lt20, Lt22, Lt27, Lt30, Lt31, Lt40, Lt67, Lt99, Lt100, Lt107, Lt147, Lt187, Lt191, Lt211, Lt231, Lt235, Lt237, Lt238, Lt300, Lt358, Lt600, hr.1, b13, em, hrL, e9]
theorem P_16_ok : P_16 NN Re := by
  intro pl sX sG ru q sR PS SS sM h fo p1 p2
  obtain ⟨a, L, ho, hr, hG, hu, -⟩ := h.1
  have hw := ho.1
  obtain ⟨b0, b1, b2, b3, b4, b5, b6, b7, b8, b9, b11, b12, b13⟩ := wfB hw
  refine ansB (fo := fo) h ?_
  rcases place2 a p1 p2 with hc | ⟨i, j, hi, hj, rfl, rfl⟩
  · obtain ⟨e1, e2⟩ := nc_no (sX := sX) hw hG hu hc
    refine Or.inl ⟨1, 0, by decide, ?_, ?_⟩
    · unfold f_L_isTouched f_X7_isTouched ft_X7_isTouched
      rw [e1, e2]; rfl
    · unfold f_X8_isTouched
      rw [il_no hw hr hc, ob_some, X8_isThrown_0]; rfl
  · have hs := wfS hw (p := i) (by omega)
    have hh := wfH hw (by omega) hj
    have ht := wfT hw (k := a (191 + (5 * i + j))) (by omega)
    have hg := hG.2.2.2.2.2.2.2.1 (a (191 + (5 * i + j))) (by omega)
    have e3 : f_X1_wasTouched NN sG (iN (a (191 + (5 * i + j)))) = some (iN (a (147 + a (191 + (5 * i + j))))) := by
      unfold f_X1_wasTouched
      by_cases hz : a (147 + a (191 + (5 * i + j))) = 0
      · rw [hg.mpr hz, hz]; rfl
      · have hz1 : a (147 + a (191 + (5 * i + j))) = 1 := by omega
        rw [hz1, if_neg (fun hq => hz (hg.mp ((lg_cmp_eq _ _).mp hq)))]; rfl
    refine Or.inr ⟨a (147 + a (191 + (5 * i + j))), ht, ?_, ?_⟩
    · unfold f_L_isTouched f_X7_isTouched f_L_isTouched_16
      rw [nc_yes hw hG hu hi hj, ob_some, e3, ob_some]
      rcases (show a (147 + a (191 + (5 * i + j))) = 0 ∨ a (147 + a (191 + (5 * i + j))) = 1 by omega) with hz | hz <;> rw [hz] <;> rfl
    · unfold f_X8_isTouched
      rw [il_yes hw hr hi hj]
      obtain ⟨sT, hT, hrT⟩ := Tst sM hr
      simp (disch := omega) only [↓Lm1, si_si, ob_some, znm_eq, th_some, th_none, tb_some, tb_none, chk_iN, chk_true, clamp_iN, iN_add, iN_mul, iN_sub, iN_div, iN_lt_t, iN_lt_f, iN_le_t, iN_le_f, iN_eq_t, iN_eq_f, iN_m1, m1_iN, iN_zisB, if_true, if_false, ↓reduceIte, Nat.reduceEqDiff, Nat.reduceAdd, Nat.reduceMul, Nat.reduceSub, reduceCtorEq, si_1, si_2, sa_1, sa_2, sa_3, sl_1, sl_3, isT_0, isT_1, Lt0, Lt1, Lt2, Lt3, Lt4, Lt5, Lt6, Lt7, Lt8, Lt9, Lt10, Lt12, Lt14, Lt18, Lt19, Lt20, Lt22, Lt27, Lt30, Lt31, Lt40, Lt67, Lt99, Lt100, Lt107, Lt147, Lt187, Lt191, Lt211, Lt231, Lt235, Lt237, Lt238, Lt300, Lt358, Lt600, hT, he_eq hw hrT (show i < 4 by omega) hj, hrT.1]
      rcases (show a (147 + a (191 + (5 * i + j))) = 0 ∨ a (147 + a (191 + (5 * i + j))) = 1 by omega) with hz | hz <;> rw [hz] <;> rfl
