/-! OWN: the pure half: snapshots (the calls) -/
theorem nb1 : vp_nar .boolean (1 : Int32) = 1 := rfl
theorem putR_eq (f g : Nat → Int32) (i : Nat) : (fun k => if 358 * i ≤ k ∧ k < 358 * i + 358 then f (358 * 0 + (k - 358 * i)) else g k) = putR g f i := rfl
theorem getR_eq (f g : Nat → Int32) (i : Nat) : (fun k => if 358 * 0 ≤ k ∧ k < 358 * 0 + 358 then f (358 * i + (k - 358 * 0)) else g k) = putR g (fun k => f (358 * i + k)) 0 := by
  funext k
  unfold putR
  dsimp only
  split
  · rw [show 358 * 0 + (k - 358 * 0) = k - 358 * 0 by omega]
  · rfl
theorem P_41_ok : P_41 NN Re := by
  intro pl sX sG ru q sR PS SS sM h fo p
  have hS := h.1
  obtain ⟨a, L, ho, hr, hG, hu, hpl⟩ := h.1
  rcases idx2 p 2 with hc | ⟨i, -, hi, rfl⟩
  · refine ⟨(1, sX, fo, SS), (0, si sM 7 1), 1, ?_, ?_, rfl, rfl, fun e => absurd (show (1 : Int32) = 0 from e) (by decide), Re_thr h 1⟩
    · unfold f_L_saveSnapshot f_X7_saveSnapshot ft_X7_saveSnapshot f_X7_needSlot ft_X7_needSlot f_X7_needSlot_9 ft_X7_needSlot_9
      rcases hc with hc | ⟨m, hm, rfl, hc⟩
      · rw [if_pos hc, if_pos hc]; rfl
      · rw [if_neg (iN_not_neg m hm), if_neg (iN_not_neg m hm), if_neg (show ¬ iN m < (2 : Int32) from iN_lt_lit hm (n := 2) (by omega) hc), if_neg (show ¬ iN m < (2 : Int32) from iN_lt_lit hm (n := 2) (by omega) hc)]; rfl
    · unfold f_X8_saveSnapshot
      rw [show f_X8_in NN p 0 1 = some 0 from X8_in_no (n := 2) (by omega) hc, ob_some, X8_isThrown_0]; rfl
  · obtain ⟨s', q2, hG2⟩ := x_copy (s0 := (SS i).2) (fun p hp => wfS ho.1 hp) hG
    have hcp := X8_copies_eq (n0 := 358) (n1 := 716) (p := 0) (q := i) (f := sM.2.2.1 0) (g := sM.2.2.1 4) (by omega) (by omega) (by omega) (by omega)
    rw [putR_eq] at hcp
    refine ⟨(0, sa sX 8 (upd (sX.2.2.1 8) i 1), vp_updL fo 0 (0 + iN (a 14) + iN (a 15) + iN (a 16) + iN (a 17)).toInt64, va_up SS i (q, s')), (0 + iN (a 14) + iN (a 15) + iN (a 16) + iN (a 17), sa (sa (si sM 7 0) 4 (putR (sM.2.2.1 4) (sM.2.2.1 0) i)) 5 (upd (sM.2.2.1 5) i 1)), 0, ?_, ?_, rfl, rfl, fun _ => fo_0 fo _, hS, h.2.1, ?_, h.2.2.2.1, h.2.2.2.2.1, h.2.2.2.2.2.1, h.2.2.2.2.2.2⟩
    · unfold f_L_saveSnapshot f_X7_saveSnapshot f_X7_needSlot
      rw [if_neg (iN_not_neg i (by omega)), if_pos (show iN i < (2 : Int32) from (iN_lt (b := 2) (by omega) (by omega)).mpr hi), ob_some, chk_iN hi (by omega), clamp_iN (by omega), q2, ob_some, chk_iN hi (by omega), score_x hG, ob_some, nb1]; rfl
    · unfold f_X8_saveSnapshot
      rw [show f_X8_in NN (iN i) 0 1 = some 1 from X8_in_yes (n := 2) (by omega) hi, ob_some, X8_isThrown_1, ob_some, if_pos rfl]
      show ob (f_X8_copies NN 358 716 (sM.2.2.1 0) (sM.2.2.1 4) (iN 0) (iN i)) _ = _
      rw [hcp, ob_some]
      simp only [znm_eq]
      rw [chk_iN hi (by omega), clamp_iN (by omega), nb1]
      have sc : ∀ f g, f_X8_score NN (sa (sa (si sM 7 0) 4 f) 5 g) = some (0 + iN (a 14) + iN (a 15) + iN (a 16) + iN (a 17)) := fun f g => score_m (s := sa (sa (si sM 7 0) 4 f) 5 g) hr
      rw [sc, ob_some]
      rfl
    · intro k hk
      have e8 : (sa sX 8 (upd (sX.2.2.1 8) i 1)).2.2.1 8 k = if k = i then 1 else sX.2.2.1 8 k := upd_at _ _ _ _
      have e5 : (sa (sa (si sM 7 0) 4 (putR (sM.2.2.1 4) (sM.2.2.1 0) i)) 5 (upd (sM.2.2.1 5) i 1)).2.2.1 5 k = if k = i then 1 else sM.2.2.1 5 k := upd_at _ _ _ _
      have e4 : (sa (sa (si sM 7 0) 4 (putR (sM.2.2.1 4) (sM.2.2.1 0) i)) 5 (upd (sM.2.2.1 5) i 1)).2.2.1 4 = putR (sM.2.2.1 4) (sM.2.2.1 0) i := rfl
      rw [e8, e5, e4]
      dsimp only
      rw [vup_at]
      by_cases c : k = i
      · rw [if_pos c, if_pos c, if_pos c]
        refine Or.inr ⟨rfl, rfl, ru, a, L, ho, encR_ext hr fun m hm => ?_, hG2, hu, hpl⟩
        rw [c, putR_in hm]
      · rw [if_neg c, if_neg c, if_neg c]
        rcases h.2.2.1 k hk with h1 | ⟨h1, h2, ru', a', L', ho', hr', hG', hu', hpl'⟩
        · exact Or.inl h1
        · refine Or.inr ⟨h1, h2, ru', a', L', ho', encR_ext hr' fun m hm => ?_, hG', hu', hpl'⟩
          rw [putR_out (by omega)]
theorem P_42_ok : P_42 NN Re := by
  intro pl sX sG ru q sR PS SS sM h fo p
  have hS := h.1
  obtain ⟨a, L, ho, hr, hG, hu, hpl⟩ := h.1
  rcases idx2 p 2 with hc | ⟨i, -, hi, rfl⟩
  · refine ⟨(1, sX, sG, fo, SS, q), (0, si sM 7 1), 1, ?_, ?_, rfl, rfl, fun e => absurd (show (1 : Int32) = 0 from e) (by decide), ru, hpl, Re_thr h 1⟩
    · unfold f_L_restoreSnapshot f_X7_restoreSnapshot ft_X7_restoreSnapshot f_X7_needSlot ft_X7_needSlot f_X7_needSlot_9 ft_X7_needSlot_9
      rcases hc with hc | ⟨m, hm, rfl, hc⟩
      · rw [if_pos hc, if_pos hc]; rfl
      · rw [if_neg (iN_not_neg m hm), if_neg (iN_not_neg m hm), if_neg (show ¬ iN m < (2 : Int32) from iN_lt_lit hm (n := 2) (by omega) hc), if_neg (show ¬ iN m < (2 : Int32) from iN_lt_lit hm (n := 2) (by omega) hc)]; rfl
    · unfold f_X8_restoreSnapshot
      rw [show f_X8_in NN p 0 1 = some 0 from X8_in_no (n := 2) (by omega) hc, ob_some, X8_isThrown_0]; rfl
  · have hns : f_X7_needSlot NN sX (iN i) = some () := by
      unfold f_X7_needSlot
      rw [if_neg (iN_not_neg i (by omega)), if_pos (show iN i < (2 : Int32) from (iN_lt (b := 2) (by omega) (by omega)).mpr hi)]
    have q5 : (si sM 7 0).2.2.1 5 i = sM.2.2.1 5 i := rfl
    rcases h.2.2.1 i hi with ⟨h1, h2⟩ | ⟨h1, h2, ru', a', L', ho', hr', hG', hu', hpl'⟩
    · refine ⟨(0, sX, sG, vp_updL fo 0 (-1 : Int32).toInt64, SS, q), (-1, si sM 7 0), 0, ?_, ?_, rfl, rfl, fun _ => fo_0 fo _, ru, hpl, Re_thr h 0⟩
      · unfold f_L_restoreSnapshot f_X7_restoreSnapshot
        rw [hns, ob_some, chk_iN hi (by omega), clamp_iN (by omega), h1, if_pos rfl]; rfl
      · unfold f_X8_restoreSnapshot
        rw [show f_X8_in NN (iN i) 0 1 = some 1 from X8_in_yes (n := 2) (by omega) hi, ob_some, X8_isThrown_1, ob_some, if_pos rfl, chk_iN hi (by omega), clamp_iN (by omega), q5, h2, if_pos rfl]
    · obtain ⟨s', q2, hG2⟩ := x_copy (s0 := sG) (fun p hp => wfS ho'.1 hp) hG'
      have hcp := X8_copies_eq (n0 := 716) (n1 := 358) (p := i) (q := 0) (f := sM.2.2.1 4) (g := sM.2.2.1 0) (by omega) (by omega) (by omega) (by omega)
      rw [getR_eq] at hcp
      have hrow : encR a' L' (putR (sM.2.2.1 0) (fun k => sM.2.2.1 4 (358 * i + k)) 0) := encR_ext hr' fun k hk => by
        have := putR_in (P := sM.2.2.1 0) (now := fun k => sM.2.2.1 4 (358 * i + k)) (n := 0) hk
        rw [Nat.mul_zero, Nat.zero_add] at this
        exact this
      obtain ⟨n, e, hn, he, x5, x6, m6, hold⟩ := h.2.1
      refine ⟨(0, si sX 5 0, s', vp_updL fo 0 (0 + iN (a' 14) + iN (a' 15) + iN (a' 16) + iN (a' 17)).toInt64, SS, (SS i).1), (0 + iN (a' 14) + iN (a' 15) + iN (a' 16) + iN (a' 17), si (sa (si sM 7 0) 0 (putR (sM.2.2.1 0) (fun k => sM.2.2.1 4 (358 * i + k)) 0)) 6 0), 0, ?_, ?_, rfl, rfl, fun _ => fo_0 fo _, ru', hpl', ⟨a', L', ho', hrow, hG2, hu', hpl'⟩, ⟨0, e, by omega, he, rfl, x6, rfl, fun i hi => absurd hi (by omega)⟩, h.2.2.1, h.2.2.2.1, h.2.2.2.2.1, h.2.2.2.2.2.1, h.2.2.2.2.2.2⟩
      · unfold f_L_restoreSnapshot f_X7_restoreSnapshot
        rw [hns, ob_some, chk_iN hi (by omega), clamp_iN (by omega), h1, if_neg (by decide), chk_iN hi (by omega), q2, ob_some, score_x hG2, ob_some, vup_self]; rfl
      · unfold f_X8_restoreSnapshot
        rw [show f_X8_in NN (iN i) 0 1 = some 1 from X8_in_yes (n := 2) (by omega) hi, ob_some, X8_isThrown_1, ob_some, if_pos rfl, chk_iN hi (by omega), clamp_iN (by omega), q5, h2, if_neg (by decide)]
        show ob (f_X8_copies NN 716 358 (sM.2.2.1 4) (sM.2.2.1 0) (iN i) (iN 0)) _ = _
        rw [hcp, ob_some]
        simp only [znm_eq]
        have sc : f_X8_score NN (si (sa (si sM 7 0) 0 (putR (sM.2.2.1 0) (fun k => sM.2.2.1 4 (358 * i + k)) 0)) 6 0) = some (0 + iN (a' 14) + iN (a' 15) + iN (a' 16) + iN (a' 17)) := score_m (s := si (sa (si sM 7 0) 0 (putR (sM.2.2.1 0) (fun k => sM.2.2.1 4 (358 * i + k)) 0)) 6 0) hrow
        rw [sc, ob_some]
