/-! OWN: the pure half: hint, undo, snapshots (the calls) -/
theorem P_25_ok : P_25 NN Re := by
  intro pl sX sG ru q sR PS SS sM h fo p1 p2 p3
  obtain ⟨a, L, ho, hr, hG, hu, hpl⟩ := h.1
  have hw := ho.1
  have b2 := hw.2.2.1
  have b7 : a 7 ≤ a 6 := hw.2.2.2.2.2.2.2.1
  have b6 : a 6 ≤ 9 := hw.2.2.2.2.2.2.1
  have e10 : sM.2.2.1 0 10 = iN (a 10) := hr.1 10 (by omega) (by omega)
  have g4 := hG.2.2.2.1
  have iE := X1_isEnded_eq hw hG hu
  have iO := isOver_eq ho hr
  have iO' := isOver_eq (s := si sM 7 0) ho hr
  have thr : ∀ c : Int32, c ≠ 0 → f_L_hint NN q sX sG ru fo PS p1 p2 p3 = some (c, sX, sG, fo, PS) → f_X8_hint NN sM p1 p2 p3 = some (0, si sM 7 c) → ∃ (z1 : Int32 × Ob × Ob × (Nat → Int64) × (Nat → Nat × Ob)) (z2 : Int32 × Ob) (z3 : Int32), (f_L_hint NN q sX sG ru fo PS p1 p2 p3 = some z1) ∧ (f_X8_hint NN sM p1 p2 p3 = some z2) ∧ (f_X8_thrown NN z2.2 = some z3) ∧ (z3 = z1.1) ∧ (z1.1 = 0 → (z1.2.2.2.1 0) = (z2.1).toInt64) ∧ Re pl z1.2.1 z1.2.2.1 ru q sR z1.2.2.2.2 SS z2.2 :=
    fun c hc h1 h2 => ⟨_, _, _, h1, h2, rfl, rfl, fun e => absurd e hc, Re_thr h c⟩
  have ans : ∀ v : Int32, f_L_hint NN q sX sG ru fo PS p1 p2 p3 = some (0, sX, sG, vp_updL fo 0 v.toInt64, PS) → f_X8_hint NN sM p1 p2 p3 = some (v, si sM 7 0) → ∃ (z1 : Int32 × Ob × Ob × (Nat → Int64) × (Nat → Nat × Ob)) (z2 : Int32 × Ob) (z3 : Int32), (f_L_hint NN q sX sG ru fo PS p1 p2 p3 = some z1) ∧ (f_X8_hint NN sM p1 p2 p3 = some z2) ∧ (f_X8_thrown NN z2.2 = some z3) ∧ (z3 = z1.1) ∧ (z1.1 = 0 → (z1.2.2.2.1 0) = (z2.1).toInt64) ∧ Re pl z1.2.1 z1.2.2.1 ru q sR z1.2.2.2.2 SS z2.2 :=
    fun v h1 h2 => ⟨_, _, _, h1, h2, rfl, rfl, fun _ => fo_0 fo _, Re_thr h 0⟩
  have m31 : f_X8_hint_31 NN p1 p2 p3 sM = some (0, si sM 7 1) := by
    unfold f_X8_hint_31 f_X8_hint_32
    rw [X8_isThrown_0]; rfl
  rcases idx2 p1 (a 2) with hc | ⟨i, -, hi, rfl⟩
  · obtain ⟨e1, e2⟩ := np_no (sX := sX) (sG := sG) hw hu hc
    refine thr 1 (by decide) ?_ ?_
    · unfold f_L_hint f_X7_hint ft_X7_hint
      rw [e1, e2]; rfl
    · unfold f_X8_hint
      rw [ip_no hw hr hc, ob_some, if_pos rfl, m31]
  · have hnp := np_yes (sX := sX) (sG := sG) hw hu hi
    have hip := ip_yes hw hr hi
    by_cases he : endOf a = 0
    · rw [if_pos he] at iE iO iO'
      have r10 := (run_b ho he).2.2.2.1
      by_cases hi10 : i = a 10
      · refine thr 1 (by decide) ?_ ?_
        · unfold f_L_hint f_X7_hint ft_X7_hint
          rw [hnp, ob_some, iE, ob_some, if_pos rfl, g4, if_pos (by rw [hi10])]
          show th none (ob (some (0 : Int32)) _) _ _ = _
          rw [ob_some, if_pos rfl, if_pos (by rw [hi10])]; rfl
        · unfold f_X8_hint
          rw [hip, ob_some, if_neg (by decide), iO, ob_some, if_pos rfl, e10, if_pos (by rw [hi10]), m31]
      · have hne : ¬ iN i = iN (a 10) := fun q => hi10 ((iN_inj (by omega) (by omega)).mp q)
        rcases word2 a p2 p3 with hb | ⟨w, v, hww, rfl, rfl⟩
        · obtain ⟨e1, e2⟩ := nw_no (sX := sX) (sG := sG) hw hu hb
          refine thr 2 (by decide) ?_ ?_
          · unfold f_L_hint f_X7_hint ft_X7_hint f_X7_hint_41 ft_X7_hint_41
            rw [hnp, ob_some, iE, ob_some, if_pos rfl, g4, if_neg hne, e1, ob_none]
            show th none (ob (some (0 : Int32)) _) _ _ = _
            rw [ob_some, if_pos rfl, if_neg hne, e2]; rfl
          · unfold f_X8_hint f_X8_hint_27 f_X8_hint_32
            rw [hip, ob_some, if_neg (by decide), iO, ob_some, if_pos rfl, e10, if_neg hne, X8_isThrown_1, ob_some, if_pos rfl, iw_no (sM := si sM 7 0) hw hr hb, ob_some, X8_isThrown_0, ob_some, if_neg (show ¬ (1 : Int32) = 0 by decide), si_si]
        · have e7 : sM.2.2.1 0 7 = iN (a 7) := hr.1 7 (by omega) (by omega)
          have q7 : (si sM 7 0).2.2.1 0 7 = iN (a 7) := e7
          have cs := canSay_eq (sM := si sM 7 0) hw hr (p := i) (by omega) hww
          have cb := canBe_eq hw hG hu (p := i) (by omega) hww hi10 (by omega) (by omega)
          have mm : f_X8_hint NN sM (iN i) (iN w) (iN v) = if iN (a 7) = 0 then some (-4, si sM 7 0) else if iN (bN (sayB a i w v)) = 0 then some (-5, si sM 7 0) else ob (f_X8_keeps NN (si sM 7 0)) fun x7 => ob (f_X8_hints NN x7 (iN i) (iN w) (iN v)) fun x8 => some (x8.1, x8.2) := by
            unfold f_X8_hint f_X8_hint_27 f_X8_hint_32
            rw [hip, ob_some, if_neg (by decide), iO, ob_some, if_pos rfl, e10, if_neg hne, X8_isThrown_1, ob_some, if_pos rfl, iw_yes (sM := si sM 7 0) hw hr hww, ob_some, X8_isThrown_1, ob_some, if_pos rfl, si_si, iO', ob_some, if_pos rfl, q7, cs, ob_some]
          have xx : f_L_hint NN q sX sG ru fo PS (iN i) (iN w) (iN v) = th (if 0 < iN (a 7) then (if iN (bN (decide (1 ≤ a 7) && sayB a i w v)) = 0 then some ((-5 : Int32), sX, sG, PS) else ob (f_X7_remember NN q sX sG PS) fun x5 => ob (f_X1_giveHint NN sG ru (iN i) (iN w) (iN v)) fun x6 => some (x6.1, x5.1, x6.2, x5.2)) else some ((-4 : Int32), sX, sG, PS)) (ft_X7_hint NN sX sG ru (iN i) (iN w) (iN v)) (fun x1 => (some ((0 : Int32), x1.2.1, x1.2.2.1, (vp_updL fo 0 (x1.1).toInt64), x1.2.2.2))) (fun e2 => (if e2 = 1 then (some ((1 : Int32), sX, sG, fo, PS)) else (if e2 = 2 then (some ((2 : Int32), sX, sG, fo, PS)) else none))) := by
            unfold f_L_hint f_X7_hint f_X7_hint_41
            rw [hnp, ob_some, iE, ob_some, if_pos rfl, g4, if_neg hne, nw_yes hw hu hww, ob_some, if_pos rfl, hG.2.1, cb, ob_some]
          by_cases h7 : 1 ≤ a 7
          · have c7 : ¬ iN (a 7) = 0 := fun q => absurd ((iN_inj (b := 0) (by omega) (by omega)).mp q) (by omega)
            have l7 : 0 < iN (a 7) := (iN_lt (a := 0) (by omega) (by omega)).mpr (by omega)
            rw [if_pos l7, decide_eq_true h7, Bool.true_and] at xx
            rw [if_neg c7] at mm
            cases hsay : sayB a i w v
            · rw [hsay, if_pos bN0] at xx mm
              exact ans (-5) xx mm
            · rw [hsay, if_neg bN1] at xx mm
              have hwl : 1 ≤ a (18 + wAt w v) := by
                unfold sayB at hsay
                rw [Bool.and_eq_true] at hsay
                exact of_decide_eq_true hsay.1
              obtain ⟨n', e', P', PS', k1, k2, k3, k4, k5⟩ := keep_ok (s := si sM 7 0) h.2.1 rfl rfl rfl h.1
              obtain ⟨sG', x1, x2⟩ := x_hints ho he hi hww h7 hwl hG hu
              obtain ⟨r', m1, m2⟩ := m_hints' (s := si (sa (si sM 7 0) 3 P') 6 (iN n')) ho he hi hww h7 hwl hr
              rw [k3, ob_some, x1, ob_some] at xx
              rw [k4, ob_some, m1, ob_some] at mm
              exact ⟨_, _, _, xx, mm, rfl, rfl, fun _ => fo_0 fo _, turn_Re h k1 k2 k5 ⟨_, _, hint_ok ho he hi hww h7 hwl, m2, x2, encRu_fr hw.2.2.2.2.1 hu fun i hi => hintG_st (wAt_lt hw hww) hi, hpl⟩⟩
          · have c7 : iN (a 7) = 0 := by rw [show a 7 = 0 by omega]; rfl
            have l7 : ¬ 0 < iN (a 7) := by rw [c7]; decide
            rw [if_neg l7] at xx
            rw [if_pos c7] at mm
            exact ans (-4) xx mm
    · rw [if_neg he] at iE iO iO'
      rcases word2 a p2 p3 with hb | ⟨w, v, hww, rfl, rfl⟩
      · obtain ⟨e1, e2⟩ := nw_no (sX := sX) (sG := sG) hw hu hb
        refine thr 2 (by decide) ?_ ?_
        · unfold f_L_hint f_X7_hint ft_X7_hint f_X7_hint_41 ft_X7_hint_41
          rw [hnp, ob_some, iE, ob_some, if_neg (by decide), e1, ob_none]
          show th none (ob (some (1 : Int32)) _) _ _ = _
          rw [ob_some, if_neg (by decide), e2]; rfl
        · unfold f_X8_hint f_X8_hint_27 f_X8_hint_32
          rw [hip, ob_some, if_neg (by decide), iO, ob_some, if_neg (by decide), X8_isThrown_1, ob_some, if_pos rfl, iw_no (sM := si sM 7 0) hw hr hb, ob_some, X8_isThrown_0, ob_some, if_neg (show ¬ (1 : Int32) = 0 by decide), si_si]
      · refine ans (-3) ?_ ?_
        · unfold f_L_hint f_X7_hint f_X7_hint_41
          rw [hnp, ob_some, iE, ob_some, if_neg (by decide), nw_yes hw hu hww, ob_some, if_neg (by decide)]; rfl
        · unfold f_X8_hint f_X8_hint_27 f_X8_hint_32
          rw [hip, ob_some, if_neg (by decide), iO, ob_some, if_neg (by decide), X8_isThrown_1, ob_some, if_pos rfl, iw_yes (sM := si sM 7 0) hw hr hww, ob_some, X8_isThrown_1, ob_some, if_pos rfl, si_si, iO', ob_some, if_neg (by decide)]
theorem vup_self {α : Type} (f : Nat → α) (k : Nat) : va_up f k (f k) = f := by
  funext j
  unfold va_up
  split
  · rename_i e; rw [e]
  · rfl
theorem P_38_ok : P_38 NN Re := by
  intro pl sX sG ru q sR PS SS sM h
  obtain ⟨n, e, hn, he, x5, x6, m6, hold⟩ := h.2.1
  by_cases c : n = 0
  · refine ⟨(-1, sX, sG, PS, q), (-1, si sM 7 0), ?_, ?_, rfl, ru, ?_, Re_thr h 0⟩
    · unfold f_X7_undo
      rw [x5, c, if_neg (by decide)]
    · unfold f_X8_undo
      rw [m6, c, if_pos iN00]
    · obtain ⟨a, L, ho, hr, hG, hu, hpl⟩ := h.1
      exact hpl
  · obtain ⟨ru2, a, L, ho, hr, hG, hu, hpl⟩ := hold (n - 1) (by omega)
    have hslot : (e + 20 - n + (n - 1)) % 20 = if e = 0 then 19 else e - 1 := by
      split <;> omega
    rw [hslot] at hG hpl
    obtain ⟨s', q2, hG2⟩ := x_copy (s0 := sG) (fun p hp => wfS ho.1 hp) hG
    have hPast : pastOk pl (si (si sX 6 (iN (if e = 0 then 19 else e - 1))) 5 (iN (n - 1))) PS (sa (si (si sM 7 0) 6 (iN (n - 1))) 0 (putR (sM.2.2.1 0) (fun k => sM.2.2.1 3 (358 * (n - 1) + k)) 0)) := by
      refine ⟨n - 1, if e = 0 then 19 else e - 1, by omega, by split <;> omega, rfl, rfl, rfl, fun i hi => ?_⟩
      have := hold i (by omega)
      rw [show ((if e = 0 then 19 else e - 1) + 20 - (n - 1) + i) % 20 = (e + 20 - n + i) % 20 by split <;> omega]
      exact this
    refine ⟨(iN (n - 1), si (si sX 6 (iN (if e = 0 then 19 else e - 1))) 5 (iN (n - 1)), s', PS, (PS (if e = 0 then 19 else e - 1)).1), (iN (n - 1), sa (si (si sM 7 0) 6 (iN (n - 1))) 0 (putR (sM.2.2.1 0) (fun k => sM.2.2.1 3 (358 * (n - 1) + k)) 0)), ?_, ?_, rfl, ru2, hpl, ⟨a, L, ho, encR_ext hr fun k hk => ?_, hG2, hu, hpl⟩, hPast, h.2.2.1, h.2.2.2.1, h.2.2.2.2.1, h.2.2.2.2.2.1, h.2.2.2.2.2.2⟩
    · unfold f_X7_undo
      rw [x5, x6, if_pos (show 0 < iN n from (iN_lt (a := 0) (by omega) (by omega)).mpr (by omega))]
      have go : ∀ m : Nat, m = (if e = 0 then 19 else e - 1) → f_X7_undo_28 NN q (iN m) sX sG PS = some (iN (n - 1), si (si sX 6 (iN (if e = 0 then 19 else e - 1))) 5 (iN (n - 1)), s', PS, (PS (if e = 0 then 19 else e - 1)).1) := by
        rintro m rfl
        have hm : (if e = 0 then 19 else e - 1) < 20 := by split <;> omega
        generalize (if e = 0 then 19 else e - 1) = m at *
        have e6 : (si sX 6 (iN m)).1 6 = iN m := rfl
        unfold f_X7_undo_28
        simp only [znm_eq]
        rw [x5, e6, iN_subm1 (by omega), chk_iN hm (by omega), clamp_iN (by omega), q2, ob_some, vup_self]
      by_cases c0 : e = 0
      · rw [if_pos (show iN e ≤ 0 by rw [c0]; decide)]
        exact go 19 (by rw [if_pos c0])
      · rw [if_neg (show ¬ iN e ≤ 0 from fun q => absurd ((iN_le (b := 0) (by omega) (by omega)).mp q) (by omega)), iN_subm1 (by omega)]
        exact go (e - 1) (by rw [if_neg c0])
    · unfold f_X8_undo
      rw [m6, if_neg (show ¬ iN n = 0 from fun q => c ((iN_inj (b := 0) (by omega) (by omega)).mp q)), iN_subm1 (by omega)]
      simp only [znm_eq]
      have := X8_copies_eq (n0 := 7160) (n1 := 358) (p := n - 1) (q := 0) (f := sM.2.2.1 3) (g := sM.2.2.1 0) (by omega) (by omega) (by omega) (by omega)
      have e0 : (fun k => if 358 * 0 ≤ k ∧ k < 358 * 0 + 358 then sM.2.2.1 3 (358 * (n - 1) + (k - 358 * 0)) else sM.2.2.1 0 k) = putR (sM.2.2.1 0) (fun k => sM.2.2.1 3 (358 * (n - 1) + k)) 0 := by
        funext k
        unfold putR
        dsimp only
        split
        · rw [show 358 * 0 + (k - 358 * 0) = k - 358 * 0 by omega]
        · rfl
      rw [e0] at this
      show ob (f_X8_copies NN 7160 358 (sM.2.2.1 3) (sM.2.2.1 0) (iN (n - 1)) (iN 0)) _ = _
      rw [this]; rfl
    · have e9 : ∀ (s : Ob) (f : Nat → Int32), (sa s 0 f).2.2.1 0 k = f k := fun _ _ => rfl
      rw [e9]
      have := putR_in (P := sM.2.2.1 0) (now := fun k => sM.2.2.1 3 (358 * (n - 1) + k)) (n := 0) hk
      rw [Nat.mul_zero, Nat.zero_add] at this
      exact this
