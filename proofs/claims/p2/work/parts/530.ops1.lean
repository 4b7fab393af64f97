/-! OWN: the pure half: calls that look one number up -/
theorem fo_0 (fo : Nat → Int64) (v : Int64) : vp_updL fo 0 v 0 = v := by
  unfold vp_updL
  simp
theorem iN_lt_lit {m n : Nat} (hm : m < 2 ^ 31) (hn : n < 2 ^ 31) (h : n ≤ m) : ¬ iN m < iN n := fun q => absurd ((iN_lt hm hn).mp q) (by omega)
theorem P_36_ok : P_36 NN Re := by
  intro pl sX sG ru q sR PS SS sM h fo p
  obtain ⟨a, L, ho, hr, hG, hu, -⟩ := h.1
  have hno : (p < 0 ∨ ∃ m, m < 2 ^ 31 ∧ p = iN m ∧ 7 ≤ m) → ∃ (z1 : Int32 × (Nat → Int64)) (z2 : Int32 × Ob) (z3 : Int32), (f_L_total NN sX sG fo p = some z1) ∧ (f_X8_total NN sM p = some z2) ∧ (f_X8_thrown NN z2.2 = some z3) ∧ (z3 = z1.1) ∧ (z1.1 = 0 → (z1.2 0) = (z2.1).toInt64) ∧ Re pl sX sG ru q sR PS SS z2.2 := by
    intro hc
    refine ⟨(1, fo), (0, si sM 7 1), 1, ?_, ?_, rfl, rfl, fun e => absurd (show (1 : Int32) = 0 from e) (by decide), Re_thr h 1⟩
    · unfold f_L_total f_X7_total ft_X7_total f_X7_total_10 ft_X7_total_10
      rcases hc with hc | ⟨m, hm, rfl, hc⟩
      · rw [if_pos hc, if_pos hc]; rfl
      · rw [if_neg (iN_not_neg m hm), if_neg (iN_not_neg m hm), if_neg (show ¬ iN m < (7 : Int32) from iN_lt_lit hm (n := 7) (by omega) hc), if_neg (show ¬ iN m < (7 : Int32) from iN_lt_lit hm (n := 7) (by omega) hc)]; rfl
    · unfold f_X8_total
      rw [show f_X8_in NN p 0 6 = some 0 from X8_in_no (n := 7) (by omega) hc, ob_some, X8_isThrown_0]
      rfl
  rcases idx3 p 7 with hc | hc | ⟨m, hm, hc, rfl⟩
  · exact hno (Or.inl hc)
  · exact hno (Or.inr hc)
  · have gt : sG.2.2.1 7 m = iN (a (231 + m)) := hG.2.2.2.2.2.2.1 m (by omega)
    have rt : sM.2.2.1 0 (231 + m) = iN (a (231 + m)) := hr.1 (231 + m) (by omega) (by omega)
    refine ⟨(0, vp_updL fo 0 (iN (a (231 + m))).toInt64), (iN (a (231 + m)), si sM 7 0), 0, ?_, ?_, rfl, rfl, fun _ => fo_0 fo _, Re_thr h 0⟩
    · unfold f_L_total f_X7_total
      rw [if_neg (iN_not_neg m hm), if_pos (show iN m < (7 : Int32) from (iN_lt (b := 7) hm (by omega)).mpr hc), chk_t (iN_inb hc (by omega)), iN_clamp hm, gt]
      rfl
    · unfold f_X8_total
      rw [show f_X8_in NN (iN m) 0 6 = some 1 from X8_in_yes (n := 7) (by omega) hc, ob_some, X8_isThrown_1, ob_some, if_pos rfl, show ((231 : Int32) + iN m) = iN (231 + m) from iN_add 231 m, chk_t (iN_inb (by omega) (by omega)), iN_clamp (by omega)]
      show some (sM.2.2.1 0 (231 + m), _) = _
      rw [rt]
theorem P_40_ok : P_40 NN Re := by
  intro pl sX sG ru q sR PS SS sM h p
  obtain ⟨n, hn, x1, m1, hv⟩ := h.2.2.2.2.1
  rcases idx3 p n with hc | ⟨m, hm, rfl, hc⟩ | ⟨m, hm, hc, rfl⟩
  · refine ⟨-1, (-1, si sM 7 0), ?_, ?_, rfl, Re_thr h 0⟩
    · unfold f_X7_outputByte
      rw [if_pos hc]
    · unfold f_X8_outputByte
      rw [m1, X8_in_no (by omega) (Or.inl hc)]
      rfl
  · refine ⟨-1, (-1, si sM 7 0), ?_, ?_, rfl, Re_thr h 0⟩
    · unfold f_X7_outputByte
      rw [if_neg (iN_not_neg m hm), x1, if_pos ((iN_le (by omega) hm).mpr hc)]
    · unfold f_X8_outputByte
      rw [m1, X8_in_no (by omega) (Or.inr ⟨m, hm, rfl, hc⟩)]
      rfl
  · refine ⟨sX.2.2.1 13 m, (sX.2.2.1 13 m, si sM 7 0), ?_, ?_, rfl, Re_thr h 0⟩
    · unfold f_X7_outputByte
      rw [if_neg (iN_not_neg m hm), x1, if_neg (fun q => absurd ((iN_le (by omega) hm).mp q) (by omega)), if_pos (show iN m < (15 : Int32) from (iN_lt (b := 15) hm (by omega)).mpr (by omega)), chk_t (iN_inb (by omega) (by omega)), iN_clamp hm]
    · unfold f_X8_outputByte
      rw [m1, X8_in_yes (by omega) hc, ob_some, if_neg (show ¬ (1 : Int32) = 0 from by decide), chk_t (iN_inb (by omega) (by omega)), iN_clamp hm, hv m hc]
