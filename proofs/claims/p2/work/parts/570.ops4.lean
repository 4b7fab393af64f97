/-! OWN: the pure half: copies, isUseless, isCritical, bound, pace -/
section KND
variable {a : Gm} {L : Nat → Int32} {sX sG ru sM : Ob}
def badR (p : Int32) (n : Nat) : Prop := p < 1 ∨ ∃ m, m < 2 ^ 31 ∧ p = iN m ∧ n < m
theorem rank2 (p : Int32) (n : Nat) : badR p n ∨ ∃ r, r < n ∧ p = iN (r + 1) := by
  by_cases h : p < 1
  · exact Or.inl (Or.inl h)
  · have h0 : ¬ p < 0 := fun q => h (Int32.lt_trans q (by decide))
    obtain ⟨e, hb⟩ := iN_of h0
    rcases Nat.lt_or_ge n p.toNatClampNeg with q | q
    · exact Or.inl (Or.inr ⟨_, hb, e, q⟩)
    · have : p.toNatClampNeg ≠ 0 := fun z => by
        rw [z] at e
        exact h (e ▸ by decide)
      exact Or.inr ⟨p.toNatClampNeg - 1, by omega, by rw [show p.toNatClampNeg - 1 + 1 = p.toNatClampNeg by omega]; exact e⟩
def badK (a : Gm) (p q : Int32) : Prop := badX p (a 0) ∨ ∃ c, c < a 0 ∧ p = iN c ∧ badR q (a 1)
theorem kind2 (a : Gm) (p q : Int32) : badK a p q ∨ ∃ c r, c < a 0 ∧ r < a 1 ∧ p = iN c ∧ q = iN (r + 1) := by
  rcases idx2 p (a 0) with h | ⟨c, -, hc, rfl⟩
  · exact Or.inl (Or.inl h)
  · rcases rank2 q (a 1) with h | ⟨r, hr, rfl⟩
    · exact Or.inl (Or.inr ⟨c, hc, rfl, h⟩)
    · exact Or.inr ⟨c, r, hc, hr, rfl, rfl⟩
theorem X8_inR_no {p : Int32} {n : Nat} (hn : n < 2 ^ 30) (h : badR p n) : f_X8_in NN p 1 (iN n) = some 0 := by
  rw [X8_in_eq]
  rcases h with h | ⟨m, hm, rfl, hc⟩
  · rw [if_pos h]
  · split
    · rfl
    · rw [if_pos ((iN_lt (by omega) hm).mpr hc)]
theorem X8_inR_yes {n r : Nat} (hn : n < 2 ^ 30) (h : r < n) : f_X8_in NN (iN (r + 1)) 1 (iN n) = some 1 := by
  rw [X8_in_eq, if_neg (show ¬ iN (r + 1) < (1 : Int32) from iN_lt_lit (n := 1) (by omega) (by omega) (by omega)), if_neg (iN_lt_lit (by omega) (by omega) (by omega))]
theorem nk_no (hw : wfG a) (hu : encRu a ru) {p q : Int32} (h : badK a p q) : f_X7_needKind NN sX sG ru p q = none ∧ ft_X7_needKind NN sX sG ru p q = some 1 := by
  have h0 := hw.1
  have h1 := hw.2.1
  unfold f_X7_needKind ft_X7_needKind f_X7_needKind_37 ft_X7_needKind_37
  rw [hu.1, hu.2.1]
  rcases h with (h | ⟨m, hm, rfl, hc⟩) | ⟨c, hc, rfl, h | ⟨m, hm, rfl, hd⟩⟩
  · rw [if_pos h, if_pos h]; exact ⟨rfl, rfl⟩
  · constructor <;> simp (disch := omega) only [↓Lm1, si_si, ob_some, znm_eq, th_some, th_none, tb_some, tb_none, chk_iN, chk_true, clamp_iN, iN_add, iN_mul, iN_sub, iN_div, iN_lt_t, iN_lt_f, iN_le_t, iN_le_f, iN_eq_t, iN_eq_f, iN_m1, m1_iN, iN_zisB, if_true, if_false, ↓reduceIte, Nat.reduceEqDiff, Nat.reduceAdd, Nat.reduceMul, Nat.reduceSub, reduceCtorEq, si_1, si_2, sa_1, sa_2, sa_3, sl_1, sl_3, isT_0, isT_1, Lt0, Lt1, Lt2, Lt3, Lt4, Lt5, Lt6, Lt7, Lt8, Lt9, Lt10, Lt12, Lt14, Lt18, Lt19, Lt20, Lt22, Lt27, Lt30, Lt31, Lt40, Lt67, Lt99, Lt100, Lt107, Lt147, Lt187, Lt191, Lt211, Lt231, Lt235, Lt237, Lt238, Lt300, Lt358, Lt600, ite_self]
  · rw [if_pos h, if_pos h]; constructor <;> simp (disch := omega) only [↓Lm1, si_si, ob_some, znm_eq, th_some, th_none, tb_some, tb_none, chk_iN, chk_true, clamp_iN, iN_add, iN_mul, iN_sub, iN_div, iN_lt_t, iN_lt_f, iN_le_t, iN_le_f, iN_eq_t, iN_eq_f, iN_m1, m1_iN, iN_zisB, if_true, if_false, ↓reduceIte, Nat.reduceEqDiff, Nat.reduceAdd, Nat.reduceMul, Nat.reduceSub, reduceCtorEq, si_1, si_2, sa_1, sa_2, sa_3, sl_1, sl_3, isT_0, isT_1, Lt0, Lt1, Lt2, Lt3, Lt4, Lt5, Lt6, Lt7, Lt8, Lt9, Lt10, Lt12, Lt14, Lt18, Lt19, Lt20, Lt22, Lt27, Lt30, Lt31, Lt40, Lt67, Lt99, Lt100, Lt107, Lt147, Lt187, Lt191, Lt211, Lt231, Lt235, Lt237, Lt238, Lt300, Lt358, Lt600, ite_self]
  · constructor <;> simp (disch := omega) only [↓Lm1, si_si, ob_some, znm_eq, th_some, th_none, tb_some, tb_none, chk_iN, chk_true, clamp_iN, iN_add, iN_mul, iN_sub, iN_div, iN_lt_t, iN_lt_f, iN_le_t, iN_le_f, iN_eq_t, iN_eq_f, iN_m1, m1_iN, iN_zisB, if_true, if_false, ↓reduceIte, Nat.reduceEqDiff, Nat.reduceAdd, Nat.reduceMul, Nat.reduceSub, reduceCtorEq, si_1, si_2, sa_1, sa_2, sa_3, sl_1, sl_3, isT_0, isT_1, Lt0, Lt1, Lt2, Lt3, Lt4, Lt5, Lt6, Lt7, Lt8, Lt9, Lt10, Lt12, Lt14, Lt18, Lt19, Lt20, Lt22, Lt27, Lt30, Lt31, Lt40, Lt67, Lt99, Lt100, Lt107, Lt147, Lt187, Lt191, Lt211, Lt231, Lt235, Lt237, Lt238, Lt300, Lt358, Lt600, ite_self]
theorem nk_yes (hw : wfG a) (hu : encRu a ru) {c r : Nat} (hc : c < a 0) (hr : r < a 1) : f_X7_needKind NN sX sG ru (iN c) (iN (r + 1)) = some (iN (5 * c + r)) := by
  have h0 := hw.1
  have h1 := hw.2.1
  have e : c * 5 + (r + 1) - 1 = 5 * c + r := by omega
  unfold f_X7_needKind
  rw [hu.1, hu.2.1]
  simp (disch := omega) only [↓Lm1, si_si, ob_some, znm_eq, th_some, th_none, tb_some, tb_none, chk_iN, chk_true, clamp_iN, iN_add, iN_mul, iN_sub, iN_div, iN_lt_t, iN_lt_f, iN_le_t, iN_le_f, iN_eq_t, iN_eq_f, iN_m1, m1_iN, iN_zisB, if_true, if_false, ↓reduceIte, Nat.reduceEqDiff, Nat.reduceAdd, Nat.reduceMul, Nat.reduceSub, reduceCtorEq, si_1, si_2, sa_1, sa_2, sa_3, sl_1, sl_3, isT_0, isT_1, Lt0, Lt1, Lt2, Lt3, Lt4, Lt5, Lt6, Lt7, Lt8, Lt9, Lt10, Lt12, Lt14, Lt18, Lt19, Lt20, Lt22, Lt27, Lt30, Lt31, Lt40, Lt67, Lt99, Lt100, Lt107, Lt147, Lt187, Lt191, Lt211, Lt231, Lt235, Lt237, Lt238, Lt300, Lt358, Lt600, e]
theorem ik_no (hw : wfG a) (hr : encR a L (sM.2.2.1 0)) {p q : Int32} (h : badK a p q) : f_X8_isKind NN sM p q = some 0 := by
  have h0 := hw.1
  have h1 := hw.2.1
  unfold f_X8_isKind
  rw [hr.1 0 (by omega) (by omega), hr.1 1 (by omega) (by omega)]
  rcases h with h | ⟨c, hc, rfl, h⟩
  · rw [X8_in_no (by omega) h]; rfl
  · rw [X8_in_yes (by omega) hc, X8_inR_no (by omega) h]; rfl
theorem ik_yes (hw : wfG a) (hr : encR a L (sM.2.2.1 0)) {c r : Nat} (hc : c < a 0) (hq : r < a 1) : f_X8_isKind NN sM (iN c) (iN (r + 1)) = some 1 := by
  have h0 := hw.1
  have h1 := hw.2.1
  unfold f_X8_isKind
  rw [hr.1 0 (by omega) (by omega), hr.1 1 (by omega) (by omega), X8_in_yes (by omega) hc, X8_inR_yes (by omega) hq]; rfl
theorem kd_eq {c r : Nat} : f_X8_kind NN (iN c) (iN (r + 1)) = some (iN (5 * c + r)) := by
  have e : 5 * c + (r + 1) - 1 = 5 * c + r := by omega
  unfold f_X8_kind
  simp (disch := omega) only [↓Lm1, si_si, ob_some, znm_eq, th_some, th_none, tb_some, tb_none, chk_iN, chk_true, clamp_iN, iN_add, iN_mul, iN_sub, iN_div, iN_lt_t, iN_lt_f, iN_le_t, iN_le_f, iN_eq_t, iN_eq_f, iN_m1, m1_iN, iN_zisB, if_true, if_false, ↓reduceIte, Nat.reduceEqDiff, Nat.reduceAdd, Nat.reduceMul, Nat.reduceSub, reduceCtorEq, si_1, si_2, sa_1, sa_2, sa_3, sl_1, sl_3, isT_0, isT_1, Lt0, Lt1, Lt2, Lt3, Lt4, Lt5, Lt6, Lt7, Lt8, Lt9, Lt10, Lt12, Lt14, Lt18, Lt19, Lt20, Lt22, Lt27, Lt30, Lt31, Lt40, Lt67, Lt99, Lt100, Lt107, Lt147, Lt187, Lt191, Lt211, Lt231, Lt235, Lt237, Lt238, Lt300, Lt358, Lt600, e]
end KND
theorem P_12_ok : P_12 NN Re := by
  intro pl sX sG ru q sR PS SS sM h fo p1 p2
  obtain ⟨a, L, ho, hr, hG, hu, -⟩ := h.1
  have hw := ho.1
  obtain ⟨b0, b1, b2, b3, b4, b5, b6, b7, b8, b9, b11, b12, b13⟩ := wfB hw
  refine ansB (fo := fo) h ?_
  rcases kind2 a p1 p2 with hc | ⟨c, r, hc, hq, rfl, rfl⟩
  · obtain ⟨e1, e2⟩ := nk_no (sX := sX) (sG := sG) hw hu hc
    refine Or.inl ⟨1, 0, by decide, ?_, ?_⟩
    · unfold f_L_isUseless f_X7_isUseless ft_X7_isUseless
      rw [e1, e2]; rfl
    · unfold f_X8_isUseless
      rw [ik_no hw hr hc, ob_some, X8_isThrown_0]; rfl
  · refine Or.inr ⟨1 - useN a (5 * c + r), by omega, ?_, ?_⟩
    · unfold f_L_isUseless f_X7_isUseless f_L_isUseless_16
      rw [nk_yes hw hu hc hq, ob_some, X1_isOfUse_eq ho hG hu (by omega), ob_some]
      rcases useG_dec a (5 * c + r) with c2 | c2
      · rw [useN_1 c2]; rfl
      · rw [useN_0 c2]; rfl
    · unfold f_X8_isUseless
      rw [ik_yes hw hr hc hq, ob_some, X8_isThrown_1, ob_some, if_pos rfl, kd_eq, ob_some, X8_isUselessKind_eq (sM := si sM 7 0) ho hr (by omega), ob_some]
      rcases useG_dec a (5 * c + r) with c2 | c2
      · rw [useN_1 c2]; rfl
      · rw [useN_0 c2]; rfl
theorem P_13_ok : P_13 NN Re := by
  intro pl sX sG ru q sR PS SS sM h fo p1 p2
  obtain ⟨a, L, ho, hr, hG, hu, -⟩ := h.1
  have hw := ho.1
  obtain ⟨b0, b1, b2, b3, b4, b5, b6, b7, b8, b9, b11, b12, b13⟩ := wfB hw
  refine ansB (fo := fo) h ?_
  rcases kind2 a p1 p2 with hc | ⟨c, r, hc, hq, rfl, rfl⟩
  · obtain ⟨e1, e2⟩ := nk_no (sX := sX) (sG := sG) hw hu hc
    refine Or.inl ⟨1, 0, by decide, ?_, ?_⟩
    · unfold f_L_isCritical f_X7_isCritical ft_X7_isCritical
      rw [e1, e2]; rfl
    · unfold f_X8_isCritical
      rw [ik_no hw hr hc, ob_some, X8_isThrown_0]; rfl
  · have hl := lastN_le a (5 * c + r)
    refine Or.inr ⟨lastN a (5 * c + r), hl, ?_, ?_⟩
    · unfold f_L_isCritical f_X7_isCritical f_L_isCritical_16
      rw [nk_yes hw hu hc hq, ob_some, X1_isLastOne_eq ho hG hu (by omega), ob_some, iN_zisB hl]
      rcases (show lastN a (5 * c + r) = 0 ∨ lastN a (5 * c + r) = 1 by omega) with e | e <;> rw [e] <;> rfl
    · unfold f_X8_isCritical
      rw [ik_yes hw hr hc hq, ob_some, X8_isThrown_1, ob_some, if_pos rfl, kd_eq, ob_some, X8_isCriticalKind_eq (sM := si sM 7 0) ho hr (by omega), ob_some]
      rcases (show lastN a (5 * c + r) = 0 ∨ lastN a (5 * c + r) = 1 by omega) with e | e <;> rw [e] <;> rfl
theorem P_11_ok : P_11 NN Re := by
  intro pl sX sG ru q sR PS SS sM h fo p1 p2 p3
  obtain ⟨a, L, ho, hr, hG, hu, -⟩ := h.1
  have hw := ho.1
  obtain ⟨b0, b1, b2, b3, b4, b5, b6, b7, b8, b9, b11, b12, b13⟩ := wfB hw
  have gH := hG.2.2.2.2.2.2.2.2.2.2.2.1
  have uC := hu.2.2.2.2.2.2.2
  refine ansQ (fo := fo) h ?_
  rcases kind2 a p1 p2 with hc | ⟨c, r, hc, hq, rfl, rfl⟩
  · obtain ⟨e1, e2⟩ := nk_no (sX := sX) (sG := sG) hw hu hc
    refine Or.inl ⟨1, 0, by decide, ?_, ?_⟩
    · unfold f_L_copies f_X7_copies ft_X7_copies
      rw [e1, e2]; rfl
    · unfold f_X8_copies_
      rw [ik_no hw hr hc, ob_some, X8_isThrown_0]; rfl
  · rcases idx2 p3 4 with hd | ⟨i, -, hi, rfl⟩
    · have hne : ∀ k, k < 4 → (p3 = iN k) = False := by
        intro k hk
        refine eq_false fun e => ?_
        subst e
        rcases hd with hd | ⟨m, hm, e, hd⟩
        · exact iN_not_neg k (by omega) hd
        · have := (iN_inj (by omega) hm).mp e
          omega
      refine Or.inl ⟨2, 0, by decide, ?_, ?_⟩
      · unfold f_L_copies f_X7_copies ft_X7_copies
        rw [nk_yes hw hu hc hq]
        simp (disch := omega) only [↓Lm1, si_si, ob_some, znm_eq, th_some, th_none, tb_some, tb_none, chk_iN, chk_true, clamp_iN, iN_add, iN_mul, iN_sub, iN_div, iN_lt_t, iN_lt_f, iN_le_t, iN_le_f, iN_eq_t, iN_eq_f, iN_m1, m1_iN, iN_zisB, if_true, if_false, ↓reduceIte, Nat.reduceEqDiff, Nat.reduceAdd, Nat.reduceMul, Nat.reduceSub, reduceCtorEq, si_1, si_2, sa_1, sa_2, sa_3, sl_1, sl_3, isT_0, isT_1, Lt0, Lt1, Lt2, Lt3, Lt4, Lt5, Lt6, Lt7, Lt8, Lt9, Lt10, Lt12, Lt14, Lt18, Lt19, Lt20, Lt22, Lt27, Lt30, Lt31, Lt40, Lt67, Lt99, Lt100, Lt107, Lt147, Lt187, Lt191, Lt211, Lt231, Lt235, Lt237, Lt238, Lt300, Lt358, Lt600, hne]
      · unfold f_X8_copies_
        rw [ik_yes hw hr hc hq, ob_some, X8_isThrown_1, ob_some, if_pos rfl, show f_X8_in NN p3 0 3 = some 0 from X8_in_no (n := 4) (by omega) hd, ob_some, X8_isThrown_0, ob_some, if_neg (show ¬ (1 : Int32) = 0 by decide), si_si]
    · have hk : 5 * c + r < 20 := by omega
      have e1 : f_X8_in NN (iN i) 0 3 = some 1 := X8_in_yes (n := 4) (by omega) hi
      refine Or.inr ⟨if i = 0 then iN (inDk a (5 * c + r) 0) else if i = 1 then iN (a (211 + (5 * c + r))) else if i = 2 then iN (heldN a (5 * c + r) 9) else iN (inDk a (5 * c + r) (a 5)), ?_, ?_⟩
      · unfold f_L_copies f_X7_copies f_X5_copiesOf f_X1_inHeap
        rw [nk_yes hw hu hc hq, ob_some, X1_inHands_eq hw hG hu hk, X1_toBeDrawn_eq hw hG hu hk]
        rcases (show i = 0 ∨ i = 1 ∨ i = 2 ∨ i = 3 by omega) with rfl | rfl | rfl | rfl <;> simp (disch := omega) only [↓Lm1, si_si, ob_some, znm_eq, th_some, th_none, tb_some, tb_none, chk_iN, chk_true, clamp_iN, iN_add, iN_mul, iN_sub, iN_div, iN_lt_t, iN_lt_f, iN_le_t, iN_le_f, iN_eq_t, iN_eq_f, iN_m1, m1_iN, iN_zisB, if_true, if_false, ↓reduceIte, Nat.reduceEqDiff, Nat.reduceAdd, Nat.reduceMul, Nat.reduceSub, reduceCtorEq, si_1, si_2, sa_1, sa_2, sa_3, sl_1, sl_3, isT_0, isT_1, Lt0, Lt1, Lt2, Lt3, Lt4, Lt5, Lt6, Lt7, Lt8, Lt9, Lt10, Lt12, Lt14, Lt18, Lt19, Lt20, Lt22, Lt27, Lt30, Lt31, Lt40, Lt67, Lt99, Lt100, Lt107, Lt147, Lt187, Lt191, Lt211, Lt231, Lt235, Lt237, Lt238, Lt300, Lt358, Lt600, gH, uC]
      · unfold f_X8_copies_
        rw [ik_yes hw hr hc hq, ob_some, X8_isThrown_1, ob_some, if_pos rfl, e1, ob_some, X8_isThrown_1, ob_some, if_pos rfl, kd_eq, ob_some]
        rw [si_si]
        obtain ⟨sT, hT, hrT⟩ := Tst sM hr
        have hm1 : ∀ p, p < 4 → (iN p = mI1 ↔ p = 9) := fun p hp => ⟨fun e => absurd e (iN_ne_m1 (by omega)), fun e => by omega⟩
        have c0 := X8_inDeck_eq hw hrT hk (Nat.zero_le _)
        have c5 := X8_inDeck_eq hw hrT hk b5
        have ch := X8_inHands_eq hw hrT hk hm1
        rcases (show i = 0 ∨ i = 1 ∨ i = 2 ∨ i = 3 by omega) with rfl | rfl | rfl | rfl <;> simp (disch := omega) only [↓Lm1, si_si, ob_some, znm_eq, th_some, th_none, tb_some, tb_none, chk_iN, chk_true, clamp_iN, iN_add, iN_mul, iN_sub, iN_div, iN_lt_t, iN_lt_f, iN_le_t, iN_le_f, iN_eq_t, iN_eq_f, iN_m1, m1_iN, iN_zisB, if_true, if_false, ↓reduceIte, Nat.reduceEqDiff, Nat.reduceAdd, Nat.reduceMul, Nat.reduceSub, reduceCtorEq, si_1, si_2, sa_1, sa_2, sa_3, sl_1, sl_3, isT_0, isT_1, Lt0, Lt1, Lt2, Lt3, Lt4, Lt5, Lt6, Lt7, Lt8, Lt9, Lt10, Lt12, Lt14, Lt18, Lt19, Lt20, Lt22, Lt27, Lt30, Lt31, Lt40, Lt67, Lt99, Lt100, Lt107, Lt147, Lt187, Lt191, Lt211, Lt231, Lt235, Lt237, Lt238, Lt300, Lt358, Lt600, hT, c0, c5, ch, hrT.1]
