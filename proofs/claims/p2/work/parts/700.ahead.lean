/-! OWN: the pure half: advice, follow, foreseen (the calls) -/
theorem same4_at {f g : Nat → Int32} (h : same4 f g) {i : Nat} (hi : i < 4) : f i = g i := by
  rcases (show i = 0 ∨ i = 1 ∨ i = 2 ∨ i = 3 by omega) with rfl | rfl | rfl | rfl
  · exact h.1
  · exact h.2.1
  · exact h.2.2.1
  · exact h.2.2.2
theorem P_27_ok : P_27 NN Re := by
  intro pl sX sG ru q sR PS SS sM h sMi sA fo p
  obtain ⟨a, L, ho, hr, hG, hu, hpl⟩ := h.1
  have iE := X1_isEnded_eq ho.1 hG hu
  have iO := isOver_eq (s := si sM 7 0) ho hr
  rcases idx2 p 4 with hc | ⟨i, -, hi, rfl⟩
  · refine ⟨(1, sA, sMi, fo), (0, si sM 7 1), 1, ?_, ?_, rfl, rfl, fun e => absurd (show (1 : Int32) = 0 from e) (by decide), Re_thr h 1⟩
    · unfold f_L_advice f_X7_advice ft_X7_advice f_X7_advice_9 ft_X7_advice_9
      rcases hc with hc | ⟨m, hm, rfl, hc⟩
      · rw [if_pos hc, if_pos hc]; rfl
      · rw [if_neg (iN_not_neg m hm), if_neg (iN_not_neg m hm), if_neg (show ¬ iN m ≤ (3 : Int32) from fun q => absurd ((iN_le (b := 3) hm (by omega)).mp q) (by omega)), if_neg (show ¬ iN m ≤ (3 : Int32) from fun q => absurd ((iN_le (b := 3) hm (by omega)).mp q) (by omega))]; rfl
    · unfold f_X8_advice
      rw [show f_X8_in NN p 0 3 = some 0 from X8_in_no (n := 4) (by omega) hc, ob_some, X8_isThrown_0]; rfl
  · have l3 : iN i ≤ (3 : Int32) := (iN_le (b := 3) (by omega) (by omega)).mpr (by omega)
    have ein : f_X8_in NN (iN i) 0 3 = some 1 := X8_in_yes (n := 4) (by omega) hi
    by_cases he : endOf a = 0
    · rw [if_pos he] at iE iO
      obtain ⟨g, -, hM, hX⟩ := advise_both ho he
      obtain ⟨f, m1, m2⟩ := hM (si sM 7 0) L (sM.2.2.1 18) hr
      have m1 : f_X8_findsAdvice NN (sa (si sM 7 0) 18 ((si sM 7 0).2.2.1 18)) = some (sa (si sM 7 0) 18 f) := m1
      rw [sa_self18] at m1
      obtain ⟨s0', s3', x1, x2⟩ := hX L sG ru sA sMi hG hu
      refine ⟨(0, s0', s3', vp_updL fo 0 (g i).toInt64), (g i, sa (si sM 7 0) 18 f), 0, ?_, ?_, rfl, rfl, fun _ => fo_0 fo _, h⟩
      · unfold f_L_advice f_X7_advice
        rw [if_neg (iN_not_neg i (by omega)), if_pos l3, iE, ob_some, if_pos rfl, x1, ob_some]
        rcases (show i = 0 ∨ i = 1 ∨ i = 2 ∨ i = 3 by omega) with rfl | rfl | rfl | rfl
        · rw [if_pos (by decide), ← x2.1]; rfl
        · rw [if_neg (by decide), if_pos (by decide), ← x2.2.1]; rfl
        · rw [if_neg (by decide), if_neg (by decide), if_pos (by decide), ← x2.2.2.1]; rfl
        · rw [if_neg (by decide), if_neg (by decide), if_neg (by decide), ← x2.2.2.2]; rfl
      · unfold f_X8_advice
        rw [ein, ob_some, X8_isThrown_1, ob_some, if_pos rfl, iO, ob_some, if_pos rfl, m1, ob_some, chk_iN hi (by omega), clamp_iN (by omega)]
        show some (f i, _) = _
        rw [same4_at m2 hi]
    · rw [if_neg he] at iE iO
      refine ⟨(0, sA, sMi, vp_updL fo 0 (-3 : Int32).toInt64), (-3, si sM 7 0), 0, ?_, ?_, rfl, rfl, fun _ => fo_0 fo _, Re_thr h 0⟩
      · unfold f_L_advice f_X7_advice
        rw [if_neg (iN_not_neg i (by omega)), if_pos l3, iE, ob_some, if_neg (by decide)]; rfl
      · unfold f_X8_advice
        rw [ein, ob_some, X8_isThrown_1, ob_some, if_pos rfl, iO, ob_some, if_neg (by decide)]
/-- turns that follow, both side by side -/
theorem follow_loop {pl : Nat → Ob → Prop} {ru : Ob} {q : Nat} {sR : Ob} {SS : Nat → Nat × Ob} {t : Nat} (ht : t < 2 ^ 30) : ∀ (n k : Nat) (sX sG sA sMi s : Ob) (PS : Nat → Nat × Ob), k ≤ t → t < k + n → Re pl sX sG ru q sR PS SS s → s.1 7 = 0 → ∃ v sX' sG' sA' sMi' PS' s', zlp (fun _ _ _ _ _ _ _ => none) (F_X7_follow_26 NN q ru (iN t)) n (iN k) (iN k) sX sG sA sMi PS = some (v, sX', sG', sA', sMi', PS') ∧ zlp (fun _ _ => none) (F_X8_follow_19 NN (iN t)) n (iN k) s = some (v, s') ∧ Re pl sX' sG' ru q sR PS' SS s' ∧ s'.1 7 = 0 := by
  intro n
  induction n with
  | zero => intro k sX sG sA sMi s PS h1 h2; omega
  | succ n ih =>
    intro k sX sG sA sMi s PS h1 h2 h h7
    show ∃ v sX' sG' sA' sMi' PS' s', F_X7_follow_26 NN q ru (iN t) (zlp (fun _ _ _ _ _ _ _ => none) (F_X7_follow_26 NN q ru (iN t)) n) (iN k) (iN k) sX sG sA sMi PS = some (v, sX', sG', sA', sMi', PS') ∧ F_X8_follow_19 NN (iN t) (zlp (fun _ _ => none) (F_X8_follow_19 NN (iN t)) n) (iN k) s = some (v, s') ∧ Re pl sX' sG' ru q sR PS' SS s' ∧ s'.1 7 = 0
    unfold F_X7_follow_26 F_X8_follow_19
    by_cases c : t ≤ k
    · have c' : iN t ≤ iN k := (iN_le (by omega) (by omega)).mpr c
      exact ⟨iN k, sX, sG, sA, sMi, PS, s, if_pos c', if_pos c', h, h7⟩
    · have c' : ¬ iN t ≤ iN k := fun q => c ((iN_le (by omega) (by omega)).mp q)
      rw [if_neg c', if_neg c']
      obtain ⟨a, L, ho, hr, hG, hu, hpl⟩ := h.1
      have iE := X1_isEnded_eq ho.1 hG hu
      have iO := isOver_eq ho hr
      by_cases he : endOf a = 0
      · rw [if_pos he] at iE iO
        obtain ⟨a', ho', hst, hL⟩ := follow_both ho he
        obtain ⟨L', hM, hX⟩ := hL L
        obtain ⟨n', e', P', PS', k1, k2, k3, k4, k5⟩ := keep_ok (s := s) h.2.1 rfl rfl rfl h.1
        obtain ⟨f, r', m1, m2⟩ := hM (si (sa s 3 P') 6 (iN n')) hr
        obtain ⟨s0', s3', sG', x1, x2, x3⟩ := hX sG ru sA sMi hG hu
        have hRe : Re pl (si (si sX 6 (iN e')) 5 (iN n')) sG' ru q sR PS' SS (sa (sa (si (sa s 3 P') 6 (iN n')) 18 f) 0 r') :=
          ⟨⟨a', L', ho', m2, x3, encRu_fr ho.1.2.2.2.2.1 hu hst, hpl⟩, ⟨n', e', k1, k2, rfl, rfl, rfl, k5⟩, h.2.2.1, h.2.2.2.1, h.2.2.2.2.1, h.2.2.2.2.2.1, h.2.2.2.2.2.2⟩
        obtain ⟨v, sX2, sG2, sA2, sMi2, PS2, s2, y1, y2, y3, y4⟩ := ih (k + 1) _ sG' s0' s3' _ PS' (by omega) (by omega) hRe h7
        refine ⟨v, sX2, sG2, sA2, sMi2, PS2, s2, ?_, ?_, y3, y4⟩
        · rw [iE, ob_some, if_pos rfl, k3, ob_some, x1, ob_some, x2, ob_some, iN_p1]
          exact y1
        · rw [iO, ob_some, if_pos rfl, k4, ob_some, m1, ob_some, iN_p1]
          exact y2
      · rw [if_neg he] at iE iO
        refine ⟨iN k, sX, sG, sA, sMi, PS, s, ?_, ?_, h, h7⟩
        · rw [iE, ob_some, if_neg (by decide)]
        · rw [iO, ob_some, if_neg (by decide)]
theorem P_28_ok : P_28 NN Re := by
  intro pl sX sG ru q sR PS SS sM h sMi sA fo p
  obtain ⟨a, L, ho, hr, hG, hu, hpl⟩ := h.1
  rcases rank2 p 100 with hc | ⟨t, ht, rfl⟩
  · refine ⟨(1, sX, sG, sA, sMi, fo, PS), (0, si sM 7 1), 1, ?_, ?_, rfl, rfl, fun e => absurd (show (1 : Int32) = 0 from e) (by decide), Re_thr h 1⟩
    · unfold f_L_follow f_X7_follow ft_X7_follow f_X7_follow_11 ft_X7_follow_11
      rcases hc with hc | ⟨m, hm, rfl, hc⟩
      · rw [if_pos hc, if_pos hc]; rfl
      · have l1 : ¬ iN m < (1 : Int32) := iN_lt_lit (n := 1) hm (by omega) (by omega)
        have l2 : ¬ iN m ≤ (100 : Int32) := fun q => absurd ((iN_le (b := 100) hm (by omega)).mp q) (by omega)
        rw [if_neg l1, if_neg l1, if_neg l2, if_neg l2]; rfl
    · unfold f_X8_follow
      rw [show f_X8_in NN p 1 100 = some 0 from X8_inR_no (n := 100) (by omega) hc, ob_some, X8_isThrown_0]; rfl
  · obtain ⟨v, sX', sG', sA', sMi', PS', s', y1, y2, y3, y4⟩ := follow_loop (t := t + 1) (by omega) NN 0 sX sG sA sMi (si sM 7 0) PS (by omega) (nnb (by omega)) (Re_thr h 0) rfl
    have l1 : ¬ iN (t + 1) < (1 : Int32) := iN_lt_lit (n := 1) (by omega) (by omega) (by omega)
    have l2 : iN (t + 1) ≤ (100 : Int32) := (iN_le (b := 100) (by omega) (by omega)).mpr (by omega)
    refine ⟨(0, sX', sG', sA', sMi', vp_updL fo 0 v.toInt64, PS'), (v, s'), s'.1 7, ?_, ?_, rfl, y4, fun _ => fo_0 fo _, y3⟩
    · unfold f_L_follow f_X7_follow f_X7_follow_26
      rw [if_neg l1, if_pos l2]
      show th (zlp (fun _ _ _ _ _ _ _ => none) (F_X7_follow_26 NN q ru (iN (t + 1))) NN (iN 0) (iN 0) sX sG sA sMi PS) _ _ _ = _
      rw [y1]; rfl
    · unfold f_X8_follow f_X8_follow_19
      rw [show f_X8_in NN (iN (t + 1)) 1 100 = some 1 from X8_inR_yes (n := 100) (by omega) ht, ob_some, X8_isThrown_1, ob_some, if_pos rfl]
      exact y2
/-- a row put back -/
theorem sa_00 (s : Ob) (f g r : Nat → Int32) : sa (sa (sa (sa s 18 f) 0 r) 18 g) 0 = fun r' => sa (sa s 18 g) 0 r' := by
  funext r'
  unfold sa
  simp only
  congr 3
  funext j
  split
  · rfl
  · split
    · rfl
    · rfl
theorem ahead_loop {ru : Ob} (sX sG0 : Ob) {s : Ob} : ∀ (n k : Nat) (s1 sA sMi : Ob) (f r : Nat → Int32), k ≤ 300 → 300 < k + n → (∃ a L, okG a ∧ encR a L r ∧ encG a L s1 ∧ encRu a ru) → ∃ v s1' sA' sMi' f' r', zlp (fun _ _ _ _ => none) (F_X7_foreseen_13 NN sX sG0 ru) n (iN k) s1 sA sMi = some (v, s1', sA', sMi') ∧ zlp (fun _ _ => none) (F_X8_foreseen_20 NN) n (iN k) (sa (sa s 18 f) 0 r) = (ob (f_X8_copies NN 358 358 (s.2.2.1 2) r' 0 0) fun x4 => some (v, sa (sa s 18 f') 0 x4)) := by
  intro n
  induction n with
  | zero => intro k s1 sA sMi f r h1 h2; omega
  | succ n ih =>
    intro k s1 sA sMi f r h1 h2 hR
    obtain ⟨a, L, ho, hr, hG, hu⟩ := hR
    have hr' : encR a L ((sa (sa s 18 f) 0 r).2.2.1 0) := hr
    have stop : f_X7_foreseen_58 NN sX sG0 ru s1 sA sMi = some (0 + iN (a 14) + iN (a 15) + iN (a 16) + iN (a 17), s1, sA, sMi) ∧ f_X8_foreseen_44 NN (sa (sa s 18 f) 0 r) = (ob (f_X8_copies NN 358 358 (s.2.2.1 2) r 0 0) fun x4 => some (0 + iN (a 14) + iN (a 15) + iN (a 16) + iN (a 17), sa (sa s 18 f) 0 x4)) := by
      constructor
      · unfold f_X7_foreseen_58
        rw [score_x hG, ob_some]
      · unfold f_X8_foreseen_44
        rw [score_m hr', ob_some]
        simp only [sa_sa]
        rfl
    show ∃ v s1' sA' sMi' f' r', F_X7_foreseen_13 NN sX sG0 ru (zlp (fun _ _ _ _ => none) (F_X7_foreseen_13 NN sX sG0 ru) n) (iN k) s1 sA sMi = some (v, s1', sA', sMi') ∧ F_X8_foreseen_20 NN (zlp (fun _ _ => none) (F_X8_foreseen_20 NN) n) (iN k) (sa (sa s 18 f) 0 r) = (ob (f_X8_copies NN 358 358 (s.2.2.1 2) r' 0 0) fun x4 => some (v, sa (sa s 18 f') 0 x4))
    unfold F_X7_foreseen_13 F_X8_foreseen_20
    by_cases c : 300 ≤ k
    · have c' : (300 : Int32) ≤ iN k := (iN_le (a := 300) (by omega) (by omega)).mpr c
      rw [if_pos c', if_pos c']
      exact ⟨_, _, _, _, f, r, stop.1, stop.2⟩
    · have c' : ¬ (300 : Int32) ≤ iN k := fun q => c ((iN_le (a := 300) (by omega) (by omega)).mp q)
      rw [if_neg c', if_neg c']
      have iE := X1_isEnded_eq ho.1 hG hu
      have iO := isOver_eq ho hr'
      by_cases he : endOf a = 0
      · rw [if_pos he] at iE iO
        obtain ⟨a', ho', hst, hL⟩ := follow_both ho he
        obtain ⟨L', hM, hX⟩ := hL L
        obtain ⟨g, r', m1, m2⟩ := hM (sa (sa s 18 f) 0 r) hr'
        obtain ⟨s0', s3', sG', x1, x2, x3⟩ := hX s1 ru sA sMi hG hu
        rw [sa_00] at m1
        obtain ⟨v, s1', sA', sMi', f2, r2, y1, y2⟩ := ih (k + 1) sG' s0' s3' g r' (by omega) (by omega) ⟨a', L', ho', m2, x3, encRu_fr ho.1.2.2.2.2.1 hu hst⟩
        refine ⟨v, s1', sA', sMi', f2, r2, ?_, ?_⟩
        · rw [iE, ob_some, if_pos rfl, x1, ob_some, x2, ob_some, iN_p1]
          exact y1
        · rw [iO, ob_some, if_pos rfl, m1, ob_some, iN_p1]
          exact y2
      · rw [if_neg he] at iE iO
        rw [iE, ob_some, if_neg (by decide), iO, ob_some, if_neg (by decide)]
        exact ⟨_, _, _, _, f, r, stop.1, stop.2⟩
theorem P_29_ok : P_29 NN Re := by
  intro pl sX sG ru q sR PS SS sM h sP sMi sA
  obtain ⟨a, L, ho, hr, hG, hu, hpl⟩ := h.1
  obtain ⟨s1, c1, c2⟩ := x_copy (s0 := sP) (fun p hp => wfS ho.1 hp) hG
  have hcp := X8_copies_eq (n0 := 358) (n1 := 358) (p := 0) (q := 0) (f := sM.2.2.1 0) (g := sM.2.2.1 2) (by omega) (by omega) (by omega) (by omega)
  rw [putR_eq] at hcp
  have base : sa (sa (sa (si sM 7 0) 2 (putR (sM.2.2.1 2) (sM.2.2.1 0) 0)) 18 (sM.2.2.1 18)) 0 (sM.2.2.1 0) = sa (si sM 7 0) 2 (putR (sM.2.2.1 2) (sM.2.2.1 0) 0) := by
    have e1 : sa (sa (si sM 7 0) 2 (putR (sM.2.2.1 2) (sM.2.2.1 0) 0)) 18 (sM.2.2.1 18) = sa (si sM 7 0) 2 (putR (sM.2.2.1 2) (sM.2.2.1 0) 0) := sa_self18 (sa (si sM 7 0) 2 (putR (sM.2.2.1 2) (sM.2.2.1 0) 0))
    rw [e1]
    exact sa_self (s := sa (si sM 7 0) 2 (putR (sM.2.2.1 2) (sM.2.2.1 0) 0)) (g := sM.2.2.1 0) (fun _ => rfl)
  obtain ⟨v, s1', sA', sMi', f', r', y1, y2⟩ := ahead_loop (ru := ru) sX sG (s := sa (si sM 7 0) 2 (putR (sM.2.2.1 2) (sM.2.2.1 0) 0)) NN 0 s1 sA sMi (sM.2.2.1 18) (sM.2.2.1 0) (by omega) (nnb (by omega)) ⟨a, L, ho, hr, c2, hu⟩
  rw [base] at y2
  have hcp2 := X8_copies_eq (n0 := 358) (n1 := 358) (p := 0) (q := 0) (f := putR (sM.2.2.1 2) (sM.2.2.1 0) 0) (g := r') (by omega) (by omega) (by omega) (by omega)
  rw [putR_eq] at hcp2
  have hcp2 : f_X8_copies NN 358 358 ((sa (si sM 7 0) 2 (putR (sM.2.2.1 2) (sM.2.2.1 0) 0)).2.2.1 2) r' 0 0 = some (putR r' (putR (sM.2.2.1 2) (sM.2.2.1 0) 0) 0) := hcp2
  rw [hcp2, ob_some] at y2
  have hrow : encR a L (putR r' (putR (sM.2.2.1 2) (sM.2.2.1 0) 0) 0) := encR_ext hr fun k hk => by
    have e1 := putR_in (P := r') (now := putR (sM.2.2.1 2) (sM.2.2.1 0) 0) (n := 0) hk
    have e2 := putR_in (P := sM.2.2.1 2) (now := sM.2.2.1 0) (n := 0) hk
    rw [Nat.mul_zero, Nat.zero_add] at e1 e2
    rw [e1, e2]
  refine ⟨(v, s1', sA', sMi'), (v, sa (sa (sa (si sM 7 0) 2 (putR (sM.2.2.1 2) (sM.2.2.1 0) 0)) 18 f') 0 (putR r' (putR (sM.2.2.1 2) (sM.2.2.1 0) 0) 0)), ?_, ?_, rfl, ⟨a, L, ho, hrow, hG, hu, hpl⟩, h.2.1, h.2.2.1, h.2.2.2.1, h.2.2.2.2.1, h.2.2.2.2.2.1, h.2.2.2.2.2.2⟩
  · unfold f_X7_foreseen f_X7_foreseen_13
    rw [c1, ob_some]
    exact y1
  · unfold f_X8_foreseen f_X8_foreseen_20
    simp only [znm_eq]
    show ob (f_X8_copies NN 358 358 (sM.2.2.1 0) (sM.2.2.1 2) (iN 0) (iN 0)) _ = _
    rw [hcp, ob_some]
    exact y2
