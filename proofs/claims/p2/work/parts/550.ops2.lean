/-! OWN: the pure half: hand, card, count, drawn, logPart -/
theorem isT_0 (s : Ob) (n : Int32) : f_X8_isThrown NN s (iN 0) n = some (iN 1, si s 7 n) := X8_isThrown_0 s n
theorem isT_1 (s : Ob) (n : Int32) : f_X8_isThrown NN s (iN 1) n = some (iN 0, si s 7 (iN 0)) := X8_isThrown_1 s n
theorem Tst (sM : Ob) {a : Gm} {L : Nat → Int32} (hr : encR a L (sM.2.2.1 0)) : ∃ sT, si sM 7 (iN 0) = sT ∧ encR a L (sT.2.2.1 0) := ⟨_, rfl, hr⟩
section OP2
variable {pl : Nat → Ob → Prop} {sX sG ru : Ob} {q : Nat} {sR : Ob} {PS SS : Nat → Nat × Ob} {sM : Ob}
/-- an answer that is told, or an exception -/
theorem ansQ (h : Re pl sX sG ru q sR PS SS sM) {fo : Nat → Int64} {fl : Option (Int32 × (Nat → Int64))} {fm : Option (Int32 × Ob)} (hh : (∃ c v : Int32, c ≠ 0 ∧ fl = some (c, fo) ∧ fm = some (v, si sM 7 c)) ∨ (∃ v : Int32, fl = some (0, vp_updL fo 0 v.toInt64) ∧ fm = some (v, si sM 7 0))) : ∃ (z1 : Int32 × (Nat → Int64)) (z2 : Int32 × Ob) (z3 : Int32), (fl = some z1) ∧ (fm = some z2) ∧ (f_X8_thrown NN z2.2 = some z3) ∧ (z3 = z1.1) ∧ (z1.1 = 0 → (z1.2 0) = (z2.1).toInt64) ∧ Re pl sX sG ru q sR PS SS z2.2 := by
  rcases hh with ⟨c, v, hc, h1, h2⟩ | ⟨v, h1, h2⟩
  · exact ⟨_, _, _, h1, h2, rfl, rfl, fun e => absurd e hc, Re_thr h c⟩
  · exact ⟨_, _, _, h1, h2, rfl, rfl, fun _ => fo_0 fo _, Re_thr h 0⟩
/-- an answer yes or no, or an exception -/
theorem ansB (h : Re pl sX sG ru q sR PS SS sM) {fo : Nat → Int64} {fl : Option (Int32 × (Nat → Int64))} {fm : Option (Int32 × Ob)} (hh : (∃ c v : Int32, c ≠ 0 ∧ fl = some (c, fo) ∧ fm = some (v, si sM 7 c)) ∨ (∃ b : Nat, b ≤ 1 ∧ fl = some (0, vp_updL fo 0 (if b = 0 then 0 else 1)) ∧ fm = some (iN b, si sM 7 0))) : ∃ (z1 : Int32 × (Nat → Int64)) (z2 : Int32 × Ob) (z3 : Int32), (fl = some z1) ∧ (fm = some z2) ∧ (f_X8_thrown NN z2.2 = some z3) ∧ (z3 = z1.1) ∧ (z1.1 = 0 → z2.1 = 0 → (z1.2 0) = (0 : Int64)) ∧ (z1.1 = 0 → ¬ z2.1 = 0 → (z1.2 0) = (1 : Int64)) ∧ Re pl sX sG ru q sR PS SS z2.2 := by
  rcases hh with ⟨c, v, hc, h1, h2⟩ | ⟨b, hb, h1, h2⟩
  · exact ⟨_, _, _, h1, h2, rfl, rfl, fun e => absurd e hc, fun e => absurd e hc, Re_thr h c⟩
  · refine ⟨_, _, _, h1, h2, rfl, rfl, fun _ e => ?_, fun _ e => ?_, Re_thr h 0⟩
    · have := (iN_inj (a := b) (b := 0) (by omega) (by omega)).mp e
      exact (fo_0 fo _).trans (if_pos this)
    · have : b ≠ 0 := fun q => e (by rw [q]; rfl)
      exact (fo_0 fo _).trans (if_neg this)
theorem wfB {a : Gm} (h : wfG a) : a 0 ≤ 4 ∧ a 1 ≤ 5 ∧ a 2 ≤ 4 ∧ a 3 ≤ 5 ∧ a 4 ≤ 40 ∧ a 5 ≤ a 4 ∧ a 6 ≤ 9 ∧ a 7 ≤ a 6 ∧ a 8 ≤ 5 ∧ a 9 ≤ 5 ∧ a 11 < 2 ^ 20 ∧ a 12 ≤ 3 ∧ a 13 < 2 ^ 21 :=
  ⟨h.1, h.2.1, h.2.2.1, h.2.2.2.1, h.2.2.2.2.1, h.2.2.2.2.2.1, h.2.2.2.2.2.2.1, h.2.2.2.2.2.2.2.1, h.2.2.2.2.2.2.2.2.1, h.2.2.2.2.2.2.2.2.2.1, h.2.2.2.2.2.2.2.2.2.2.2.1, h.2.2.2.2.2.2.2.2.2.2.2.2.1, h.2.2.2.2.2.2.2.2.2.2.2.2.2.1⟩
theorem wfS {a : Gm} (h : wfG a) {p : Nat} (hp : p < 4) : a (187 + p) ≤ 5 := (h.2.2.2.2.2.2.2.2.2.2.2.2.2.2.2.2.2.2.2.1 p hp).1
theorem wfS0 {a : Gm} (h : wfG a) {p : Nat} (hp : p < 4) (h2 : a 2 ≤ p) : a (187 + p) = 0 := (h.2.2.2.2.2.2.2.2.2.2.2.2.2.2.2.2.2.2.2.1 p hp).2 h2
theorem wfH {a : Gm} (h : wfG a) {p j : Nat} (hp : p < 4) (hj : j < a (187 + p)) : a (191 + (5 * p + j)) < a 5 := h.2.2.2.2.2.2.2.2.2.2.2.2.2.2.2.2.2.2.2.2.1 p j hp hj
theorem wfK {a : Gm} (h : wfG a) {k : Nat} (hk : k < 40) : a (27 + k) < 20 := h.2.2.2.2.2.2.2.2.2.2.2.2.2.2.2.2.1 k hk
theorem wfP {a : Gm} (h : wfG a) {c : Nat} (hc : c < 4) : a (14 + c) ≤ 5 := (h.2.2.2.2.2.2.2.2.2.2.2.2.2.2.1 c hc).1
theorem wfP0 {a : Gm} (h : wfG a) {c : Nat} (hc : c < 4) (h0 : a 0 ≤ c) : a (14 + c) = 0 := (h.2.2.2.2.2.2.2.2.2.2.2.2.2.2.1 c hc).2 h0
theorem wfW {a : Gm} (h : wfG a) {w : Nat} (hw : w < 9) : a (18 + w) ≤ 99 := h.2.2.2.2.2.2.2.2.2.2.2.2.2.2.2.1 w hw
theorem wfC {a : Gm} (h : wfG a) {k : Nat} (hk : k < 40) : a (67 + k) < 16 ∧ a (107 + k) < 32 := h.2.2.2.2.2.2.2.2.2.2.2.2.2.2.2.2.2.1 k hk
theorem wfT {a : Gm} (h : wfG a) {k : Nat} (hk : k < 40) : a (147 + k) ≤ 1 := h.2.2.2.2.2.2.2.2.2.2.2.2.2.2.2.2.2.2.1 k hk
theorem wfQ {a : Gm} (h : wfG a) {k : Nat} (hk : k < 20) : a (211 + k) ≤ 40 := h.2.2.2.2.2.2.2.2.2.2.2.2.2.2.2.2.2.2.2.2.2.1 k hk
end OP2
theorem P_8_ok : P_8 NN Re := by
  intro pl sX sG ru q sR PS SS sM h fo p
  obtain ⟨a, L, ho, hr, hG, hu, -⟩ := h.1
  have hw := ho.1
  obtain ⟨b0, b1, b2, b3, b4, b5, b6, b7, b8, b9, b11, b12, b13⟩ := wfB hw
  refine ansQ (fo := fo) h ?_
  rcases idx2 p (a 2) with hc | ⟨i, -, hi, rfl⟩
  · obtain ⟨e1, e2⟩ := np_no (sX := sX) (sG := sG) hw hu hc
    refine Or.inl ⟨1, 0, by decide, ?_, ?_⟩
    · unfold f_L_hand f_X7_hand ft_X7_hand
      rw [e1, e2]; rfl
    · unfold f_X8_hand
      rw [ip_no hw hr hc, ob_some, X8_isThrown_0]; rfl
  · have hs := wfS hw (p := i) (by omega)
    refine Or.inr ⟨iN (a (187 + i)), ?_, ?_⟩
    · unfold f_L_hand f_X7_hand
      rw [np_yes hw hu hi, ob_some, so_eq hG (by omega)]; rfl
    · unfold f_X8_hand
      rw [ip_yes hw hr hi]
      simp (disch := omega) only [↓Lm1, si_si, ob_some, znm_eq, th_some, th_none, tb_some, tb_none, chk_iN, chk_true, clamp_iN, iN_add, iN_mul, iN_sub, iN_div, iN_lt_t, iN_lt_f, iN_le_t, iN_le_f, iN_eq_t, iN_eq_f, iN_m1, m1_iN, iN_zisB, if_true, if_false, ↓reduceIte, Nat.reduceEqDiff, Nat.reduceAdd, Nat.reduceMul, Nat.reduceSub, reduceCtorEq, si_1, si_2, sa_1, sa_2, sa_3, sl_1, sl_3, isT_0, isT_1, Lt0, Lt1, Lt2, Lt3, Lt4, Lt5, Lt6, Lt7, Lt8, Lt9, Lt10, Lt12, Lt14, Lt18, Lt19, Lt20, Lt22, Lt27, Lt30, Lt31, Lt40, Lt67, Lt99, Lt100, Lt107, Lt147, Lt187, Lt191, Lt211, Lt231, Lt235, Lt237, Lt238, Lt300, Lt358, Lt600, hr.1]
theorem P_9_ok : P_9 NN Re := by
  intro pl sX sG ru q sR PS SS sM h fo p1 p2
  obtain ⟨a, L, ho, hr, hG, hu, -⟩ := h.1
  have hw := ho.1
  obtain ⟨b0, b1, b2, b3, b4, b5, b6, b7, b8, b9, b11, b12, b13⟩ := wfB hw
  refine ansQ (fo := fo) h ?_
  rcases place2 a p1 p2 with hc | ⟨i, j, hi, hj, rfl, rfl⟩
  · obtain ⟨e1, e2⟩ := nc_no (sX := sX) hw hG hu hc
    refine Or.inl ⟨1, 0, by decide, ?_, ?_⟩
    · unfold f_L_card f_X7_card ft_X7_card
      rw [e1, e2]; rfl
    · unfold f_X8_card
      rw [il_no hw hr hc, ob_some, X8_isThrown_0]; rfl
  · have hs := wfS hw (p := i) (by omega)
    have hh := wfH hw (by omega) hj
    have hk := wfK hw (k := a (191 + (5 * i + j))) (by omega)
    refine Or.inr ⟨iN (10 * (a (27 + a (191 + (5 * i + j))) / 5) + a (27 + a (191 + (5 * i + j))) % 5 + 1), ?_, ?_⟩
    · unfold f_L_card f_X7_card
      rw [nc_yes hw hG hu hi hj, ob_some, ko_eq hu (by omega), ob_some, co_eq hk]; rfl
    · unfold f_X8_card
      rw [il_yes hw hr hi hj]
      obtain ⟨sT, hT, hrT⟩ := Tst sM hr
      simp (disch := omega) only [↓Lm1, si_si, ob_some, znm_eq, th_some, th_none, tb_some, tb_none, chk_iN, chk_true, clamp_iN, iN_add, iN_mul, iN_sub, iN_div, iN_lt_t, iN_lt_f, iN_le_t, iN_le_f, iN_eq_t, iN_eq_f, iN_m1, m1_iN, iN_zisB, if_true, if_false, ↓reduceIte, Nat.reduceEqDiff, Nat.reduceAdd, Nat.reduceMul, Nat.reduceSub, reduceCtorEq, si_1, si_2, sa_1, sa_2, sa_3, sl_1, sl_3, isT_0, isT_1, Lt0, Lt1, Lt2, Lt3, Lt4, Lt5, Lt6, Lt7, Lt8, Lt9, Lt10, Lt12, Lt14, Lt18, Lt19, Lt20, Lt22, Lt27, Lt30, Lt31, Lt40, Lt67, Lt99, Lt100, Lt107, Lt147, Lt187, Lt191, Lt211, Lt231, Lt235, Lt237, Lt238, Lt300, Lt358, Lt600, hT, he_eq hw hrT (show i < 4 by omega) hj, hrT.1, to_eq hk]
theorem P_4_ok : P_4 NN Re := by
  intro pl sX sG ru q sR PS SS sM h fo p
  obtain ⟨a, L, ho, hr, hG, hu, -⟩ := h.1
  have hw := ho.1
  obtain ⟨b0, b1, b2, b3, b4, b5, b6, b7, b8, b9, b11, b12, b13⟩ := wfB hw
  obtain ⟨n, e, hn, -, x5, -, m6, -⟩ := h.2.1
  refine ansQ (fo := fo) h ?_
  rcases idx2 p 11 with hc | ⟨i, -, hi, rfl⟩
  · refine Or.inl ⟨1, 0, by decide, ?_, ?_⟩
    · have hne : ∀ k, k < 11 → ¬ p = iN k := by
        intro k hk e
        subst e
        rcases hc with hc | ⟨m, hm, e, hc⟩
        · exact iN_not_neg k (by omega) hc
        · have := (iN_inj (by omega) hm).mp e
          omega
      unfold f_L_count f_X7_count ft_X7_count
      have q : ∀ k, k < 11 → (p = iN k) = False := fun k hk => eq_false (hne k hk)
      simp (disch := omega) only [↓Lm1, si_si, ob_some, znm_eq, th_some, th_none, tb_some, tb_none, chk_iN, chk_true, clamp_iN, iN_add, iN_mul, iN_sub, iN_div, iN_lt_t, iN_lt_f, iN_le_t, iN_le_f, iN_eq_t, iN_eq_f, iN_m1, m1_iN, iN_zisB, if_true, if_false, ↓reduceIte, Nat.reduceEqDiff, Nat.reduceAdd, Nat.reduceMul, Nat.reduceSub, reduceCtorEq, si_1, si_2, sa_1, sa_2, sa_3, sl_1, sl_3, isT_0, isT_1, Lt0, Lt1, Lt2, Lt3, Lt4, Lt5, Lt6, Lt7, Lt8, Lt9, Lt10, Lt12, Lt14, Lt18, Lt19, Lt20, Lt22, Lt27, Lt30, Lt31, Lt40, Lt67, Lt99, Lt100, Lt107, Lt147, Lt187, Lt191, Lt211, Lt231, Lt235, Lt237, Lt238, Lt300, Lt358, Lt600, q]
    · unfold f_X8_count
      rw [show f_X8_in NN p 0 10 = some 0 from X8_in_no (n := 11) (by omega) hc, ob_some, X8_isThrown_0]; rfl
  · have e1 : f_X8_in NN (iN i) 0 10 = some 1 := X8_in_yes (n := 11) (by omega) hi
    have hsc : f_X1_score NN sG = f_X8_score NN sM := by
      rw [X1_score_eq, X8_score_eq, hr.1 14 (by omega) (by omega), hr.1 15 (by omega) (by omega), hr.1 16 (by omega) (by omega), hr.1 17 (by omega) (by omega)]
      rw [hG.2.2.2.2.2.2.2.2.2.2.1 0 (by omega), hG.2.2.2.2.2.2.2.2.2.2.1 1 (by omega), hG.2.2.2.2.2.2.2.2.2.2.1 2 (by omega), hG.2.2.2.2.2.2.2.2.2.2.1 3 (by omega)]
    have hsT : f_X8_score NN (si sM 7 (iN 0)) = f_X8_score NN sM := rfl
    have hs8 := X8_score_eq sM
    obtain ⟨g1, g2, g3, g4, g5, g6, -⟩ := hG
    obtain ⟨u0, u1, u2, u3, -, u7, -⟩ := hu
    have h9 := hr.2.1
    refine Or.inr ⟨if i = 0 then iN (a 0) else if i = 1 then iN (a 1) else if i = 2 then iN (a 2) else if i = 3 then iN (a 3) else if i = 4 then iN (a 4 - a 5) else if i = 5 then iN (a 7) else if i = 6 then iN (a 8) else if i = 7 then (0 + sM.2.2.1 0 14 + sM.2.2.1 0 15 + sM.2.2.1 0 16 + sM.2.2.1 0 17) else if i = 8 then iN (a 11) else if i = 9 then iN (a 9) - 1 else iN n, ?_, ?_⟩
    · unfold f_L_count f_X7_count
      rw [hsc, hs8]
      rcases (show i = 0 ∨ i = 1 ∨ i = 2 ∨ i = 3 ∨ i = 4 ∨ i = 5 ∨ i = 6 ∨ i = 7 ∨ i = 8 ∨ i = 9 ∨ i = 10 by omega) with rfl | rfl | rfl | rfl | rfl | rfl | rfl | rfl | rfl | rfl | rfl <;> simp (disch := omega) only [↓Lm1, si_si, ob_some, znm_eq, th_some, th_none, tb_some, tb_none, chk_iN, chk_true, clamp_iN, iN_add, iN_mul, iN_sub, iN_div, iN_lt_t, iN_lt_f, iN_le_t, iN_le_f, iN_eq_t, iN_eq_f, iN_m1, m1_iN, iN_zisB, if_true, if_false, ↓reduceIte, Nat.reduceEqDiff, Nat.reduceAdd, Nat.reduceMul, Nat.reduceSub, reduceCtorEq, si_1, si_2, sa_1, sa_2, sa_3, sl_1, sl_3, isT_0, isT_1, Lt0, Lt1, Lt2, Lt3, Lt4, Lt5, Lt6, Lt7, Lt8, Lt9, Lt10, Lt12, Lt14, Lt18, Lt19, Lt20, Lt22, Lt27, Lt30, Lt31, Lt40, Lt67, Lt99, Lt100, Lt107, Lt147, Lt187, Lt191, Lt211, Lt231, Lt235, Lt237, Lt238, Lt300, Lt358, Lt600, g1, g2, g3, g4, g5, g6, u0, u1, u2, u3, u7, x5]
    · unfold f_X8_count
      rw [e1]
      rw [ob_some, X8_isThrown_1, ob_some, if_pos rfl]
      rw [show f_X8_score NN (((0 : Int32), si sM 7 0).2) = f_X8_score NN sM from rfl, hs8]
      rcases (show i = 0 ∨ i = 1 ∨ i = 2 ∨ i = 3 ∨ i = 4 ∨ i = 5 ∨ i = 6 ∨ i = 7 ∨ i = 8 ∨ i = 9 ∨ i = 10 by omega) with rfl | rfl | rfl | rfl | rfl | rfl | rfl | rfl | rfl | rfl | rfl <;> simp (disch := omega) only [↓Lm1, si_si, ob_some, znm_eq, th_some, th_none, tb_some, tb_none, chk_iN, chk_true, clamp_iN, iN_add, iN_mul, iN_sub, iN_div, iN_lt_t, iN_lt_f, iN_le_t, iN_le_f, iN_eq_t, iN_eq_f, iN_m1, m1_iN, iN_zisB, if_true, if_false, ↓reduceIte, Nat.reduceEqDiff, Nat.reduceAdd, Nat.reduceMul, Nat.reduceSub, reduceCtorEq, si_1, si_2, sa_1, sa_2, sa_3, sl_1, sl_3, isT_0, isT_1, Lt0, Lt1, Lt2, Lt3, Lt4, Lt5, Lt6, Lt7, Lt8, Lt9, Lt10, Lt12, Lt14, Lt18, Lt19, Lt20, Lt22, Lt27, Lt30, Lt31, Lt40, Lt67, Lt99, Lt100, Lt107, Lt147, Lt187, Lt191, Lt211, Lt231, Lt235, Lt237, Lt238, Lt300, Lt358, Lt600, hr.1, h9, m6]
