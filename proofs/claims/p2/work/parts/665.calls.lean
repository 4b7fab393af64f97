/-! OWN: the pure half: play, discard, hint, pass, undo, snapshots (the calls) -/
section CAL
variable {a : Gm} {L : Nat → Int32} {s ru : Ob} {j p w v : Nat}
theorem score_x (hG : encG a L s) : f_X1_score NN s = some (0 + iN (a 14) + iN (a 15) + iN (a 16) + iN (a 17)) := by
  have g := hG.2.2.2.2.2.2.2.2.2.2.1
  rw [X1_score_eq, g 0 (by omega), g 1 (by omega), g 2 (by omega), g 3 (by omega)]
theorem score_m (hr : encR a L (s.2.2.1 0)) : f_X8_score NN s = some (0 + iN (a 14) + iN (a 15) + iN (a 16) + iN (a 17)) := by
  rw [X8_score_eq, hr.1 14 (by omega) (by omega), hr.1 15 (by omega) (by omega), hr.1 16 (by omega) (by omega), hr.1 17 (by omega) (by omega)]
theorem isOver_eq (ho : okG a) (hr : encR a L (s.2.2.1 0)) : f_X8_isOver NN s = some (if endOf a = 0 then 0 else 1) := by
  have hb := endOf_le a
  unfold f_X8_isOver
  rw [hr.1 12 (by omega) (by omega), ho.2.1]
  by_cases c : endOf a = 0
  · rw [if_pos c, if_pos (show iN (endOf a) ≤ 0 from (iN_le (b := 0) (by omega) (by omega)).mpr (by omega))]
  · rw [if_neg c, if_neg (show ¬ iN (endOf a) ≤ 0 from fun q => absurd ((iN_le (b := 0) (by omega) (by omega)).mp q) (by omega))]
theorem m_plays' (ho : okG a) (he : endOf a = 0) (hj : j < a (187 + a 10)) (hr : encR a L (s.2.2.1 0)) : ∃ r', f_X8_plays NN s (iN j) = some (sa s 0 r') ∧ encR (playG a j) (playL a L j) r' := by
  have := m_plays (s := s) ho he hj hr
  rwa [sa_self (fun _ => rfl)] at this
theorem m_discards' (ho : okG a) (he : endOf a = 0) (hj : j < a (187 + a 10)) (hr : encR a L (s.2.2.1 0)) : ∃ r', f_X8_discards NN s (iN j) = some (sa s 0 r') ∧ encR (discG a j) (discL a L j) r' := by
  have := m_discards (s := s) ho he hj hr
  rwa [sa_self (fun _ => rfl)] at this
theorem m_hints' (ho : okG a) (he : endOf a = 0) (hp : p < a 2) (hww : isW a w v) (h7 : 1 ≤ a 7) (hwl : 1 ≤ a (18 + wAt w v)) (hr : encR a L (s.2.2.1 0)) : ∃ r', f_X8_hints NN s (iN p) (iN w) (iN v) = some (iN (touchN a p w v (a (187 + p))), sa s 0 r') ∧ encR (hintG a p w v) (hintL a L p w v) r' := by
  have := m_hints (s := s) ho he hp hww h7 hwl hr
  rwa [sa_self (fun _ => rfl)] at this
theorem m_passes' (ho : okG a) (he : endOf a = 0) (h0 : a (187 + a 10) = 0) (hr : encR a L (s.2.2.1 0)) : ∃ r', f_X8_passes NN s = some (sa s 0 r') ∧ encR (passG a) (passL a L) r' := by
  have := m_passes (s := s) ho he h0 hr
  rwa [sa_self (fun _ => rfl)] at this
theorem playG_st (ho : okG a) (he : endOf a = 0) (hj : j < a (187 + a 10)) {i : Nat} (h : i ≤ 4 ∨ i = 6 ∨ (27 ≤ i ∧ i < 67)) : playG a j i = a i := by
  have hp : a 10 < 4 := (logA_b ho he hj).1
  have hM := midPlay_P ho he hj
  have hs := (mid_end (Lx := fun _ => 0) ho he hj hM).2.1
  rw [(mid_end (Lx := fun _ => 0) ho he hj hM).1] at hs
  unfold playG
  rw [endG_fr (by omega) (by omega) (by omega) (by omega), draw_fr (by omega) (by omega) hp hs, hM.1 i (by omega)]
theorem discG_st (ho : okG a) (he : endOf a = 0) (hj : j < a (187 + a 10)) {i : Nat} (h : i ≤ 4 ∨ i = 6 ∨ (27 ≤ i ∧ i < 67)) : discG a j i = a i := by
  have hp : a 10 < 4 := (logA_b ho he hj).1
  have hM := midDisc_P ho he hj
  have hs := (mid_end (Lx := fun _ => 0) ho he hj hM).2.1
  rw [(mid_end (Lx := fun _ => 0) ho he hj hM).1] at hs
  unfold discG
  rw [endG_fr (by omega) (by omega) (by omega) (by omega), draw_fr (by omega) (by omega) hp hs, hM.1 i (by omega)]
theorem hintG_st (hw9 : wAt w v < 9) {i : Nat} (h : i ≤ 4 ∨ i = 6 ∨ (27 ≤ i ∧ i < 67)) : hintG a p w v i = a i := by
  unfold hintG
  rw [endG_fr (by omega) (by omega) (by omega) (by omega), midHint_fr hw9 (by omega) (by omega) (by omega) (by omega) (by omega) (by omega)]
theorem passG_st {i : Nat} (h : i ≤ 4 ∨ i = 6 ∨ (27 ≤ i ∧ i < 67)) : passG a i = a i := by
  unfold passG
  rw [endG_fr (by omega) (by omega) (by omega) (by omega), logA_ne (by omega)]
end CAL
/-- what holds behind a turn -/
theorem turn_Re {pl : Nat → Ob → Prop} {sX sG ru : Ob} {q : Nat} {sR : Ob} {PS SS : Nat → Nat × Ob} {sM : Ob} (h : Re pl sX sG ru q sR PS SS sM) {n' e' : Nat} {P' : Nat → Int32} {PS' : Nat → Nat × Ob} (hn : n' ≤ 20) (he : e' < 20) (hk : ∀ i, i < n' → ∃ ru', sameG pl (PS' ((e' + 20 - n' + i) % 20)).2 (PS' ((e' + 20 - n' + i) % 20)).1 ru' (fun k => P' (358 * i + k))) {sG' : Ob} {r' : Nat → Int32} (hS : sameG pl sG' q ru r') : Re pl (si (si sX 6 (iN e')) 5 (iN n')) sG' ru q sR PS' SS (sa (si (sa (si sM 7 0) 3 P') 6 (iN n')) 0 r') :=
  ⟨hS, ⟨n', e', hn, he, rfl, rfl, rfl, hk⟩, h.2.2.1, h.2.2.2.1, h.2.2.2.2.1, h.2.2.2.2.2.1, h.2.2.2.2.2.2⟩
theorem P_23_ok : P_23 NN Re := by
  intro pl sX sG ru q sR PS SS sM h fo p
  obtain ⟨a, L, ho, hr, hG, hu, hpl⟩ := h.1
  have hw := ho.1
  have e10 : sM.2.2.1 0 10 = iN (a 10) := hr.1 10 (by omega) (by omega)
  have g4 := hG.2.2.2.1
  have iE := X1_isEnded_eq hw hG hu
  have iO := isOver_eq ho hr
  by_cases he : endOf a = 0
  · rw [if_pos he] at iE iO
    have r10 := (run_b ho he).2.2.2.1
    rcases idx2 p (a (187 + a 10)) with hc | ⟨j, -, hj, rfl⟩
    · have hb : badP a (iN (a 10)) p := Or.inr ⟨a 10, r10, rfl, hc⟩
      obtain ⟨e1, e2⟩ := nc_no (sX := sX) hw hG hu hb
      refine ⟨(1, sX, sG, fo, PS), (0, si sM 7 1), 1, ?_, ?_, rfl, rfl, fun e => absurd (show (1 : Int32) = 0 from e) (by decide), Re_thr h 1⟩
      · unfold f_L_play f_X7_play ft_X7_play
        rw [iE, g4, ob_some, if_pos rfl, e1, ob_some, if_pos rfl, e2]; rfl
      · unfold f_X8_play
        rw [iO, ob_some, if_pos rfl, e10, il_no hw hr hb, ob_some, if_pos rfl]
        unfold f_X8_play_28
        rw [X8_isThrown_0]; rfl
    · have iO' := isOver_eq (s := si sM 7 0) ho hr
      rw [if_pos he] at iO'
      obtain ⟨n', e', P', PS', k1, k2, k3, k4, k5⟩ := keep_ok (s := si sM 7 0) h.2.1 rfl rfl rfl h.1
      obtain ⟨sG', x1, x2⟩ := x_plays ho he hj hG hu
      obtain ⟨r', m1, m2⟩ := m_plays' (s := si (sa (si sM 7 0) 3 P') 6 (iN n')) ho he hj hr
      refine ⟨(0, si (si sX 6 (iN e')) 5 (iN n'), sG', vp_updL fo 0 (0 + iN (playG a j 14) + iN (playG a j 15) + iN (playG a j 16) + iN (playG a j 17)).toInt64, PS'), ((0 + iN (playG a j 14) + iN (playG a j 15) + iN (playG a j 16) + iN (playG a j 17)), sa (si (sa (si sM 7 0) 3 P') 6 (iN n')) 0 r'), 0, ?_, ?_, rfl, rfl, fun _ => fo_0 fo (0 + iN (playG a j 14) + iN (playG a j 15) + iN (playG a j 16) + iN (playG a j 17)).toInt64, turn_Re h k1 k2 k5 ⟨_, _, play_ok ho he hj, m2, x2, encRu_fr hw.2.2.2.2.1 hu fun i hi => playG_st ho he hj hi, hpl⟩⟩
      · unfold f_L_play f_X7_play
        rw [iE, g4, ob_some, if_pos rfl, nc_yes hw hG hu r10 hj, ob_some, k3, ob_some, x1, ob_some, score_x x2]; rfl
      · unfold f_X8_play
        rw [iO, ob_some, if_pos rfl, e10, il_yes hw hr r10 hj, ob_some, if_neg (by decide)]
        unfold f_X8_play_23 f_X8_play_28
        rw [X8_isThrown_1, ob_some, if_pos rfl, iO', ob_some, if_pos rfl, k4, ob_some, m1, ob_some, score_m (s := sa (si (sa (si sM 7 0) 3 P') 6 (iN n')) 0 r') m2]; rfl
  · rw [if_neg he] at iE iO
    have iO' := isOver_eq (s := si sM 7 0) ho hr
    rw [if_neg he] at iO'
    refine ⟨(0, sX, sG, vp_updL fo 0 ((-3 : Int32)).toInt64, PS), (-3, si sM 7 0), 0, ?_, ?_, rfl, rfl, fun _ => fo_0 fo _, Re_thr h 0⟩
    · unfold f_L_play f_X7_play
      rw [iE, ob_some, if_neg (by decide)]; rfl
    · unfold f_X8_play
      rw [iO, ob_some, if_neg (by decide)]
      unfold f_X8_play_23 f_X8_play_28
      rw [X8_isThrown_1, ob_some, if_pos rfl, iO', ob_some, if_neg (by decide)]
theorem P_24_ok : P_24 NN Re := by
  intro pl sX sG ru q sR PS SS sM h fo p
  obtain ⟨a, L, ho, hr, hG, hu, hpl⟩ := h.1
  have hw := ho.1
  have e10 : sM.2.2.1 0 10 = iN (a 10) := hr.1 10 (by omega) (by omega)
  have g4 := hG.2.2.2.1
  have iE := X1_isEnded_eq hw hG hu
  have iO := isOver_eq ho hr
  by_cases he : endOf a = 0
  · rw [if_pos he] at iE iO
    have r10 := (run_b ho he).2.2.2.1
    rcases idx2 p (a (187 + a 10)) with hc | ⟨j, -, hj, rfl⟩
    · have hb : badP a (iN (a 10)) p := Or.inr ⟨a 10, r10, rfl, hc⟩
      obtain ⟨e1, e2⟩ := nc_no (sX := sX) hw hG hu hb
      refine ⟨(1, sX, sG, fo, PS), (0, si sM 7 1), 1, ?_, ?_, rfl, rfl, fun e => absurd (show (1 : Int32) = 0 from e) (by decide), Re_thr h 1⟩
      · unfold f_L_discard f_X7_discard ft_X7_discard
        rw [iE, g4, ob_some, if_pos rfl, e1, ob_some, if_pos rfl, e2]; rfl
      · unfold f_X8_discard
        rw [iO, ob_some, if_pos rfl, e10, il_no hw hr hb, ob_some, if_pos rfl]
        unfold f_X8_discard_28
        rw [X8_isThrown_0]; rfl
    · have iO' := isOver_eq (s := si sM 7 0) ho hr
      rw [if_pos he] at iO'
      obtain ⟨n', e', P', PS', k1, k2, k3, k4, k5⟩ := keep_ok (s := si sM 7 0) h.2.1 rfl rfl rfl h.1
      obtain ⟨sG', x1, x2⟩ := x_discards ho he hj hG hu
      obtain ⟨r', m1, m2⟩ := m_discards' (s := si (sa (si sM 7 0) 3 P') 6 (iN n')) ho he hj hr
      have e7 : r' 7 = iN (discG a j 7) := m2.1 7 (by omega) (by omega)
      refine ⟨(0, si (si sX 6 (iN e')) 5 (iN n'), sG', vp_updL fo 0 (iN (discG a j 7)).toInt64, PS'), (iN (discG a j 7), sa (si (sa (si sM 7 0) 3 P') 6 (iN n')) 0 r'), 0, ?_, ?_, rfl, rfl, fun _ => fo_0 fo (iN (discG a j 7)).toInt64, turn_Re h k1 k2 k5 ⟨_, _, disc_ok ho he hj, m2, x2, encRu_fr hw.2.2.2.2.1 hu fun i hi => discG_st ho he hj hi, hpl⟩⟩
      · unfold f_L_discard f_X7_discard
        rw [iE, g4, ob_some, if_pos rfl, nc_yes hw hG hu r10 hj, ob_some, k3, ob_some, x1, ob_some, x2.2.1]; rfl
      · unfold f_X8_discard
        rw [iO, ob_some, if_pos rfl, e10, il_yes hw hr r10 hj, ob_some, if_neg (by decide)]
        unfold f_X8_discard_23 f_X8_discard_28
        rw [X8_isThrown_1, ob_some, if_pos rfl, iO', ob_some, if_pos rfl, k4, ob_some, m1, ob_some]
        show some (r' 7, _) = _
        rw [e7]
  · rw [if_neg he] at iE iO
    have iO' := isOver_eq (s := si sM 7 0) ho hr
    rw [if_neg he] at iO'
    refine ⟨(0, sX, sG, vp_updL fo 0 ((-3 : Int32)).toInt64, PS), (-3, si sM 7 0), 0, ?_, ?_, rfl, rfl, fun _ => fo_0 fo _, Re_thr h 0⟩
    · unfold f_L_discard f_X7_discard
      rw [iE, ob_some, if_neg (by decide)]; rfl
    · unfold f_X8_discard
      rw [iO, ob_some, if_neg (by decide)]
      unfold f_X8_discard_23 f_X8_discard_28
      rw [X8_isThrown_1, ob_some, if_pos rfl, iO', ob_some, if_neg (by decide)]
theorem P_26_ok : P_26 NN Re := by
  intro pl sX sG ru q sR PS SS sM h
  obtain ⟨a, L, ho, hr, hG, hu, hpl⟩ := h.1
  have hw := ho.1
  have g4 := hG.2.2.2.1
  have iE := X1_isEnded_eq hw hG hu
  have iO := isOver_eq (s := si sM 7 0) ho hr
  by_cases he : endOf a = 0
  · rw [if_pos he] at iE iO
    have r10 := (run_b ho he).2.2.2.1
    have h2 := hw.2.2.1
    have hs := wfS hw (p := a 10) (by omega)
    have e10 : sM.2.2.1 0 10 = iN (a 10) := hr.1 10 (by omega) (by omega)
    have eS : sM.2.2.1 0 (187 + a 10) = iN (a (187 + a 10)) := hr.1 _ (by omega) (by omega)
    by_cases h0 : a (187 + a 10) = 0
    · obtain ⟨n', e', P', PS', k1, k2, k3, k4, k5⟩ := keep_ok (s := si sM 7 0) h.2.1 rfl rfl rfl h.1
      obtain ⟨sG', x1, x2⟩ := x_passes ho he h0 hG hu
      obtain ⟨r', m1, m2⟩ := m_passes' (s := si (sa (si sM 7 0) 3 P') 6 (iN n')) ho he h0 hr
      have hok := pass_ok ho he h0
      have hu' : encRu (passG a) ru := encRu_fr hw.2.2.2.2.1 hu fun i hi => passG_st hi
      have iE' := X1_isEnded_eq hok.1 x2 hu'
      have iO' := isOver_eq (s := sa (si (sa (si sM 7 0) 3 P') 6 (iN n')) 0 r') hok m2
      have e10' : r' 10 = iN (passG a 10) := m2.1 10 (by omega) (by omega)
      refine ⟨(if endOf (passG a) = 0 then iN (passG a 10) else -1, si (si sX 6 (iN e')) 5 (iN n'), sG', PS'), (if endOf (passG a) = 0 then iN (passG a 10) else -1, sa (si (sa (si sM 7 0) 3 P') 6 (iN n')) 0 r'), ?_, ?_, rfl, turn_Re h k1 k2 k5 ⟨_, _, hok, m2, x2, hu', hpl⟩⟩
      · unfold f_X7_pass
        rw [iE, ob_some, if_pos rfl, g4, so_eq hG (by omega), ob_some, h0, if_pos (by decide), k3, ob_some, x1, ob_some, iE', ob_some, x2.2.2.2.1]
        by_cases c : endOf (passG a) = 0
        · rw [if_pos c, if_pos c, if_pos rfl]
        · rw [if_neg c, if_neg c, if_neg (by decide)]
      · unfold f_X8_pass
        rw [iO, ob_some, if_pos rfl]
        show chk (inb ((187 : Int32) + sM.2.2.1 0 10) 358) (if sM.2.2.1 0 (((187 : Int32) + sM.2.2.1 0 10)).toNatClampNeg ≤ 0 then _ else _) = _
        rw [e10, show (187 : Int32) + iN (a 10) = iN (187 + a 10) from iN_add _ _, chk_iN (by omega) (by omega), clamp_iN (by omega), eS, h0, if_pos (by decide), k4, ob_some, m1, ob_some, iO', ob_some]
        by_cases c : endOf (passG a) = 0
        · rw [if_pos c, if_pos c, if_pos rfl]
          show some (r' 10, _) = _
          rw [e10']
        · rw [if_neg c, if_neg c, if_neg (by decide)]
    · refine ⟨(-6, sX, sG, PS), (-6, si sM 7 0), ?_, ?_, rfl, Re_thr h 0⟩
      · unfold f_X7_pass
        rw [iE, ob_some, if_pos rfl, g4, so_eq hG (by omega), ob_some, if_neg (show ¬ iN (a (187 + a 10)) ≤ 0 from fun q => absurd ((iN_le (b := 0) (by omega) (by omega)).mp q) (by omega))]
      · unfold f_X8_pass
        rw [iO, ob_some, if_pos rfl]
        show chk (inb ((187 : Int32) + sM.2.2.1 0 10) 358) (if sM.2.2.1 0 (((187 : Int32) + sM.2.2.1 0 10)).toNatClampNeg ≤ 0 then _ else _) = _
        rw [e10, show (187 : Int32) + iN (a 10) = iN (187 + a 10) from iN_add _ _, chk_iN (by omega) (by omega), clamp_iN (by omega), eS, if_neg (show ¬ iN (a (187 + a 10)) ≤ 0 from fun q => absurd ((iN_le (b := 0) (by omega) (by omega)).mp q) (by omega))]
  · rw [if_neg he] at iE iO
    refine ⟨(-3, sX, sG, PS), (-3, si sM 7 0), ?_, ?_, rfl, Re_thr h 0⟩
    · unfold f_X7_pass
      rw [iE, ob_some, if_neg (by decide)]
    · unfold f_X8_pass
      rw [iO, ob_some, if_neg (by decide)]
