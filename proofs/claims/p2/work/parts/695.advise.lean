/-! OWN: the pure half: what is advised, by both; a turn that follows it -/
def advOk (a : Gm) (g : Nat → Int32) : Prop :=
  (∃ j, j < a (187 + a 10) ∧ g 0 = 0 ∧ g 1 = iN j ∧ g 2 = -1 ∧ g 3 = -1) ∨ (∃ j, j < a (187 + a 10) ∧ g 0 = 1 ∧ g 1 = iN j ∧ g 2 = -1 ∧ g 3 = -1) ∨
  (∃ p w v, fitH a p w v ∧ g 0 = 2 ∧ g 1 = iN p ∧ g 2 = iN w ∧ g 3 = iN v) ∨ (a (187 + a 10) = 0 ∧ g 0 = 3 ∧ g 1 = -1 ∧ g 2 = -1 ∧ g 3 = -1)
def same4 (f g : Nat → Int32) : Prop := f 0 = g 0 ∧ f 1 = g 1 ∧ f 2 = g 2 ∧ f 3 = g 3
def four (x0 x1 x2 x3 : Int32) (k : Nat) : Int32 := if k = 0 then x0 else if k = 1 then x1 else if k = 2 then x2 else x3
theorem advs_4 (f : Nat → Int32) (x0 x1 x2 x3 : Int32) : same4 (advs f x0 x1 x2 x3) (four x0 x1 x2 x3) := advs_at f x0 x1 x2 x3
theorem choose_eq (s0 : Ob) (x0 x1 : Int32) : ∃ s0', f_X0_choose NN s0 x0 x1 = some s0' ∧ same4 s0'.1 (four x0 x1 (-1) (-1)) := ⟨_, rfl, rfl, rfl, rfl, rfl⟩
theorem iN_nm1 {k : Nat} (h : k < 2 ^ 31) : ¬ iN k = -1 := iN_ne_m1 h
section ADV
variable {a : Gm}
theorem kn1_F (ho : okG a) (j : Nat) : (anyK (cdF a (a 10) j) && subK (cdF a (a 10) j) (playF a)) = kn1 a j := knF_play ho (p := a 10) fun i hi h => by
  unfold cdF thF at h
  rw [Bool.and_eq_true] at h
  exact h.1
theorem kn2_F (ho : okG a) (j : Nat) : (anyK (cdF a (a 10) j) && subK (cdF a (a 10) j) (lessF a)) = kn2 a j := by
  unfold kn2
  have := sub_less ho (p := a 10) (C := a (67 + a (191 + (5 * a 10 + j)))) (R := a (107 + a (191 + (5 * a 10 + j))))
  unfold cdF
  rw [this]
theorem knownN_2 (j : Nat) (h : kn1 a j = false) : knownN a (cdF a (a 10) j) = 2 ↔ kn2 a j = true := by
  unfold kn1 knF at h
  unfold knownN kn2
  revert h
  cases anyK (cdF a (a 10) j) <;> cases subK (cdF a (a 10) j) (nxF a) <;> cases subK (cdF a (a 10) j) (uslF a) <;> simp
theorem advise_both (ho : okG a) (he : endOf a = 0) : ∃ g, advOk a g ∧
    (∀ (s : Ob) (L : Nat → Int32) (f0 : Nat → Int32), encR a L (s.2.2.1 0) → ∃ f, f_X8_findsAdvice NN (sa s 18 f0) = some (sa s 18 f) ∧ same4 f g) ∧
    ∀ (L : Nat → Int32) (sG ru s0 s3 : Ob), encG a L sG → encRu a ru → ∃ s0' s3', f_X0_advise NN s0 sG ru s3 = some (s0', s3') ∧ same4 s0'.1 g := by
  have hw := ho.1
  obtain ⟨⟨r2, r0, r1⟩, r8, r9, r10, rpot, r13⟩ := run_b ho he
  have h2 := hw.2.2.1
  have hp : a 10 < 4 := by omega
  have hs := wfS hw hp
  have hml := allB_le hw (show 0 < a 2 by omega) (a 2 - 1)
  have hfit := allB_fit (a := a) r10 (a 2 - 1) (by omega)
  have pw1 : ∀ (s : Ob) (L f : Nat → Int32), encR a L (s.2.2.1 0) → f_X8_placeWith NN (sa s 18 f) 1 = some (plI (kn1 a) (a (187 + a 10))) := fun (s : Ob) (L f : Nat → Int32) (hr : encR a L (s.2.2.1 0)) => placeWith_eq (sM := sa s 18 f) (v := 1) (G := kn1 a) ho (show encR a L ((sa s 18 f).2.2.1 0) from hr) hp (fun j hj => knownN_1 a _) (by omega)
  have fk1 := fun (L : Nat → Int32) (sG ru s0 s3 : Ob) (hG : encG a L sG) (hu : encRu a ru) => firstKnown_eq ho hG hu hp (F := playF a) (G := kn1 a) (fun j _ => kn1_F ho j) s0 s3
  by_cases c1 : fstN (kn1 a) (a (187 + a 10)) < a (187 + a 10)
  · have e1 : plI (kn1 a) (a (187 + a 10)) = iN (fstN (kn1 a) (a (187 + a 10))) := if_pos c1
    refine ⟨four 0 (iN (fstN (kn1 a) (a (187 + a 10)))) (-1) (-1), Or.inl ⟨_, c1, rfl, rfl, rfl, rfl⟩, fun s L f0 hr => ?_, fun L sG ru s0 s3 hG hu => ?_⟩
    · refine ⟨advs f0 0 (iN (fstN (kn1 a) (a (187 + a 10)))) (-1) (-1), ?_, advs_4 _ _ _ _ _⟩
      unfold f_X8_findsAdvice
      rw [pw1 s L f0 hr, ob_some, e1, if_neg (iN_nm1 (by omega)), adv_eq, ob_some]
    · obtain ⟨s', q⟩ := fk1 L sG ru s0 s3 hG hu
      obtain ⟨s0', q2, q3⟩ := choose_eq s0 0 (iN (fstN (kn1 a) (a (187 + a 10))))
      refine ⟨s0', s', ?_, q3⟩
      unfold f_X0_advise
      rw [X1_playableKinds_eq hw hG hu, ob_some, q, ob_some, e1, if_neg (iN_nm1 (by omega)), q2, ob_some]
  · have e1 : plI (kn1 a) (a (187 + a 10)) = -1 := if_neg c1
    have f1 : ∀ j, j < a (187 + a 10) → kn1 a j = false := fun j hj => (fstN_spec (kn1 a) (a (187 + a 10))).2.1 j (by have := (fstN_spec (kn1 a) (a (187 + a 10))).1; omega)
    by_cases c2 : 2 ≤ (allB a (a 2 - 1)).1
    · refine ⟨four 2 (iN (allB a (a 2 - 1)).2.1) (iN (allB a (a 2 - 1)).2.2.1) (iN (allB a (a 2 - 1)).2.2.2), Or.inr (Or.inr (Or.inl ⟨_, _, _, ?_, rfl, rfl, rfl, rfl⟩)), fun s L f0 hr => ?_, fun L sG ru s0 s3 hG hu => ?_⟩
      · rcases hfit with h | h
        · omega
        · exact h
      · obtain ⟨f, q1, q2⟩ := findsHint_eq (s := s) ho hr r10 true f0
        refine ⟨f, ?_, q2 c2⟩
        unfold f_X8_findsAdvice
        have q1 : f_X8_findsHint NN (sa s 18 f0) 1 = some (V3 true (allB a (a 2 - 1)), sa s 18 f) := q1
        have e3 : V3 true (allB a (a 2 - 1)) = 1 := by unfold V3; rw [if_pos rfl, decide_eq_true c2]; rfl
        rw [pw1 s L f0 hr, ob_some, e1, if_pos rfl, q1, ob_some, e3, if_neg (show ¬ (1 : Int32) = 0 by decide)]
      · obtain ⟨s', q⟩ := fk1 L sG ru s0 s3 hG hu
        obtain ⟨s0', s3', q2, q3⟩ := chooseHint_eq ho hG hu r10 s0 s'
        refine ⟨s0', s3', ?_, q3.2 (by omega)⟩
        unfold f_X0_advise
        rw [X1_playableKinds_eq hw hG hu, ob_some, q, ob_some, e1, if_pos rfl, q2, ob_some, q3.1, iN_subm1 (by omega), if_neg (show ¬ iN ((allB a (a 2 - 1)).1 - 1) < 1 from fun q => absurd ((iN_lt (b := 1) (by omega) (by omega)).mp q) (by omega))]
    · have hm1 : (allB a (a 2 - 1)).1 ≤ 1 := by omega
      have e3 : V3 true (allB a (a 2 - 1)) = 0 := by unfold V3; rw [if_pos rfl, decide_eq_false c2]; rfl
      -- the model up to the places
      have mA : ∀ (s : Ob) (L f0 : Nat → Int32), encR a L (s.2.2.1 0) → ∃ f1, f_X8_findsAdvice NN (sa s 18 f0) = (if plI (kn2 a) (a (187 + a 10)) = -1 then f_X8_findsAdvice_49 NN (plI (untF a) (a (187 + a 10))) (sa s 18 f1) else f_X8_findsAdvice_49 NN (plI (kn2 a) (a (187 + a 10))) (sa s 18 f1)) := by
        intro s L f0 hr
        obtain ⟨f1', q1, q2⟩ := findsHint_eq (s := s) ho hr r10 true f0
        have q1 : f_X8_findsHint NN (sa s 18 f0) 1 = some (V3 true (allB a (a 2 - 1)), sa s 18 f1') := q1
        have p2 : f_X8_placeWith NN (sa s 18 f1') 2 = some (plI (kn2 a) (a (187 + a 10))) := placeWith_eq (sM := sa s 18 f1') (v := 2) (G := kn2 a) ho (show encR a L ((sa s 18 f1').2.2.1 0) from hr) hp (fun j hj => knownN_2 j (f1 j hj)) (by omega)
        have p3 := placeUnt_eq (sM := sa s 18 f1') ho (show encR a L ((sa s 18 f1').2.2.1 0) from hr) hp
        refine ⟨f1', ?_⟩
        unfold f_X8_findsAdvice
        rw [pw1 s L f0 hr, ob_some, e1, if_pos rfl, q1, ob_some, e3, if_pos rfl, p2, ob_some, p3, ob_some]
      -- the class up to the places
      have cA : ∀ (L : Nat → Int32) (sG ru s0 s3 : Ob), encG a L sG → encRu a ru → ∃ s1 s4, advA (allB a (a 2 - 1)) s1 ∧ f_X0_advise NN s0 sG ru s3 = (if plI (kn2 a) (a (187 + a 10)) = -1 then f_X0_advise_57 NN sG ru (plI (untF a) (a (187 + a 10))) s1 s4 else f_X0_advise_57 NN sG ru (plI (kn2 a) (a (187 + a 10))) s1 s4) := by
        intro L sG ru s0 s3 hG hu
        obtain ⟨s', q⟩ := fk1 L sG ru s0 s3 hG hu
        obtain ⟨s0', s3', q2, q3⟩ := chooseHint_eq ho hG hu r10 s0 s'
        obtain ⟨s4, q4⟩ := firstKnown_eq ho hG hu hp (F := lessF a) (G := kn2 a) (fun j _ => kn2_F ho j) s0' s3'
        have q5 := firstUntouched_eq ho hG hp s0'
        have hl : iN (allB a (a 2 - 1)).1 - 1 < 1 := by
          rw [Int32.lt_iff_toInt_lt, sub1_toInt (by omega)]
          show _ < (1 : Int)
          omega
        refine ⟨s0', s4, q3, ?_⟩
        unfold f_X0_advise
        rw [X1_playableKinds_eq hw hG hu, ob_some, q, ob_some, e1, if_pos rfl, q2, ob_some, q3.1, if_pos hl, X1_uselessKinds_eq ho hG hu, ob_some, q4, ob_some, q5, ob_some]
      have dsc : ∀ j, j < a (187 + a 10) → (∀ (s : Ob) (L f0 : Nat → Int32), encR a L (s.2.2.1 0) → ∃ f1, f_X8_findsAdvice NN (sa s 18 f0) = f_X8_findsAdvice_49 NN (iN j) (sa s 18 f1)) → (∀ (L : Nat → Int32) (sG ru s0 s3 : Ob), encG a L sG → encRu a ru → ∃ s1 s4, f_X0_advise NN s0 sG ru s3 = f_X0_advise_57 NN sG ru (iN j) s1 s4) → ∃ g, advOk a g ∧ (∀ (s : Ob) (L : Nat → Int32) (f0 : Nat → Int32), encR a L (s.2.2.1 0) → ∃ f, f_X8_findsAdvice NN (sa s 18 f0) = some (sa s 18 f) ∧ same4 f g) ∧ ∀ (L : Nat → Int32) (sG ru s0 s3 : Ob), encG a L sG → encRu a ru → ∃ s0' s3', f_X0_advise NN s0 sG ru s3 = some (s0', s3') ∧ same4 s0'.1 g := by
        intro j hj hM hX
        refine ⟨four 1 (iN j) (-1) (-1), Or.inr (Or.inl ⟨_, hj, rfl, rfl, rfl, rfl⟩), fun s L f0 hr => ?_, fun L sG ru s0 s3 hG hu => ?_⟩
        · obtain ⟨f1, q⟩ := hM s L f0 hr
          refine ⟨advs f1 1 (iN j) (-1) (-1), ?_, advs_4 _ _ _ _ _⟩
          unfold f_X8_findsAdvice_49 at q
          rw [q, if_neg (iN_nm1 (by omega)), adv_eq, ob_some]
        · obtain ⟨s1, s4, q⟩ := hX L sG ru s0 s3 hG hu
          obtain ⟨s0', q2, q3⟩ := choose_eq s1 1 (iN j)
          refine ⟨s0', s4, ?_, q3⟩
          unfold f_X0_advise_57 at q
          rw [q, if_neg (iN_nm1 (by omega)), q2, ob_some]
      by_cases c3 : fstN (kn2 a) (a (187 + a 10)) < a (187 + a 10)
      · have e4 : plI (kn2 a) (a (187 + a 10)) = iN (fstN (kn2 a) (a (187 + a 10))) := if_pos c3
        refine dsc _ c3 (fun s L f0 hr => ?_) (fun L sG ru s0 s3 hG hu => ?_)
        · obtain ⟨f1, q⟩ := mA s L f0 hr
          rw [e4, if_neg (iN_nm1 (by omega))] at q
          exact ⟨f1, q⟩
        · obtain ⟨s1, s4, -, q⟩ := cA L sG ru s0 s3 hG hu
          rw [e4, if_neg (iN_nm1 (by omega))] at q
          exact ⟨s1, s4, q⟩
      · have e4 : plI (kn2 a) (a (187 + a 10)) = -1 := if_neg c3
        rw [e4] at mA cA
        simp only [if_true] at mA cA
        by_cases c4 : fstN (untF a) (a (187 + a 10)) < a (187 + a 10)
        · have e5 : plI (untF a) (a (187 + a 10)) = iN (fstN (untF a) (a (187 + a 10))) := if_pos c4
          rw [e5] at mA cA
          refine dsc _ c4 mA (fun L sG ru s0 s3 hG hu => ?_)
          obtain ⟨s1, s4, -, q⟩ := cA L sG ru s0 s3 hG hu
          exact ⟨s1, s4, q⟩
        · have e5 : plI (untF a) (a (187 + a 10)) = -1 := if_neg c4
          rw [e5] at mA cA
          by_cases c5 : (allB a (a 2 - 1)).1 = 1
          · refine ⟨four 2 (iN (allB a (a 2 - 1)).2.1) (iN (allB a (a 2 - 1)).2.2.1) (iN (allB a (a 2 - 1)).2.2.2), Or.inr (Or.inr (Or.inl ⟨_, _, _, ?_, rfl, rfl, rfl, rfl⟩)), fun s L f0 hr => ?_, fun L sG ru s0 s3 hG hu => ?_⟩
            · rcases hfit with h | h
              · omega
              · exact h
            · obtain ⟨f1, q⟩ := mA s L f0 hr
              obtain ⟨f, q1, q2⟩ := findsHint_eq (s := s) ho hr r10 false f1
              have q1 : f_X8_findsHint NN (sa s 18 f1) 0 = some (V3 false (allB a (a 2 - 1)), sa s 18 f) := q1
              have e6 : V3 false (allB a (a 2 - 1)) = 1 := by unfold V3; rw [if_neg (by decide), c5]; rfl
              refine ⟨f, ?_, q2 c5⟩
              unfold f_X8_findsAdvice_49 at q
              rw [q, if_pos rfl, q1, ob_some, e6, if_neg (show ¬ (1 : Int32) = 0 by decide)]
            · obtain ⟨s1, s4, hA, q⟩ := cA L sG ru s0 s3 hG hu
              have h0 : s1.1 5 = 0 := by rw [hA.1, c5]; rfl
              refine ⟨s1, s4, ?_, hA.2 (by omega)⟩
              unfold f_X0_advise_57 f_X0_advise_99 at q
              rw [q, if_pos rfl, h0, if_neg (by decide), if_neg (by decide)]
          · have c6 : (allB a (a 2 - 1)).1 = 0 := by omega
            have e6 : V3 false (allB a (a 2 - 1)) = 0 := by unfold V3; rw [if_neg (by decide), c6]; rfl
            have mB : ∀ (s : Ob) (L f0 : Nat → Int32), encR a L (s.2.2.1 0) → ∃ f1, f_X8_findsAdvice NN (sa s 18 f0) = if iN (a (187 + a 10)) = 0 then ob (f_X8_advises NN (sa s 18 f1) 3 (-1) (-1) (-1)) fun x7 => some x7 else ob (f_X8_advises NN (sa s 18 f1) 1 0 (-1) (-1)) fun x6 => some x6 := by
              intro s L f0 hr
              obtain ⟨f1, q⟩ := mA s L f0 hr
              obtain ⟨f, q1, q2⟩ := findsHint_eq (s := s) ho hr r10 false f1
              have q1 : f_X8_findsHint NN (sa s 18 f1) 0 = some (V3 false (allB a (a 2 - 1)), sa s 18 f) := q1
              have rr : (sa s 18 f).2.2.1 0 = s.2.2.1 0 := id rfl
              refine ⟨f, ?_⟩
              unfold f_X8_findsAdvice_49 at q
              rw [q, if_pos rfl, q1, ob_some, e6, if_pos rfl]
              dsimp only
              rw [rr, hr.1 10 (by omega) (by omega), show (187 : Int32) + iN (a 10) = iN (187 + a 10) from iN_add _ _, chk_iN (by omega) (by omega), clamp_iN (by omega), hr.1 _ (by omega) (by omega)]
            have h0 : ∀ s1 : Ob, advA (allB a (a 2 - 1)) s1 → s1.1 5 = -1 := fun s1 hA => by rw [hA.1, c6]; rfl
            by_cases c7 : a (187 + a 10) = 0
            · refine ⟨four 3 (-1) (-1) (-1), Or.inr (Or.inr (Or.inr ⟨c7, rfl, rfl, rfl, rfl⟩)), fun s L f0 hr => ?_, fun L sG ru s0 s3 hG hu => ?_⟩
              · obtain ⟨f1, q⟩ := mB s L f0 hr
                refine ⟨advs f1 3 (-1) (-1) (-1), ?_, advs_4 _ _ _ _ _⟩
                rw [q, c7, if_pos iN00, adv_eq, ob_some]
              · obtain ⟨s1, s4, hA, q⟩ := cA L sG ru s0 s3 hG hu
                obtain ⟨s0', q2, q3⟩ := choose_eq s1 3 (-1)
                refine ⟨s0', s4, ?_, q3⟩
                unfold f_X0_advise_57 f_X0_advise_99 at q
                rw [q, if_pos rfl, h0 s1 hA, if_pos rfl, hG.2.2.2.1, so_eq hG hp, ob_some, c7, if_pos (by decide), q2, ob_some, if_pos rfl]
            · refine ⟨four 1 0 (-1) (-1), Or.inr (Or.inl ⟨0, by omega, rfl, rfl, rfl, rfl⟩), fun s L f0 hr => ?_, fun L sG ru s0 s3 hG hu => ?_⟩
              · obtain ⟨f1, q⟩ := mB s L f0 hr
                refine ⟨advs f1 1 0 (-1) (-1), ?_, advs_4 _ _ _ _ _⟩
                rw [q, if_neg (show ¬ iN (a (187 + a 10)) = 0 from fun q => c7 ((iN_inj (b := 0) (by omega) (by omega)).mp q)), adv_eq, ob_some]
              · obtain ⟨s1, s4, hA, q⟩ := cA L sG ru s0 s3 hG hu
                obtain ⟨s0', q2, q3⟩ := choose_eq s1 1 0
                refine ⟨s0', s4, ?_, q3⟩
                unfold f_X0_advise_57 f_X0_advise_99 at q
                rw [q, if_pos rfl, h0 s1 hA, if_pos rfl, hG.2.2.2.1, so_eq hG hp, ob_some, if_neg (show ¬ iN (a (187 + a 10)) ≤ 0 from fun q => absurd ((iN_le (b := 0) (by omega) (by omega)).mp q) (by omega)), q2, ob_some]
theorem sa_self18 (s : Ob) : sa s 18 (s.2.2.1 18) = s := by
  unfold sa
  have : (fun j => if j = 18 then s.2.2.1 18 else s.2.2.1 j) = s.2.2.1 := by
    funext j
    split
    · rename_i e; rw [e]
    · rfl
  rw [this]
/-- one turn as advised -/
theorem follow_both (ho : okG a) (he : endOf a = 0) : ∃ a', okG a' ∧ (∀ i, (i ≤ 4 ∨ i = 6 ∨ (27 ≤ i ∧ i < 67)) → a' i = a i) ∧ ∀ L, ∃ L',
    (∀ s : Ob, encR a L (s.2.2.1 0) → ∃ f r', f_X8_follows NN s = some (sa (sa s 18 f) 0 r') ∧ encR a' L' r') ∧
    ∀ sG ru s0 s3 : Ob, encG a L sG → encRu a ru → ∃ s0' s3' sG', f_X0_advise NN s0 sG ru s3 = some (s0', s3') ∧ f_X0_takeTurn NN s0' sG ru = some sG' ∧ encG a' L' sG' := by
  obtain ⟨g, hg, hM, hX⟩ := advise_both ho he
  have q18 : ∀ (s : Ob) (f : Nat → Int32), (sa s 18 f).2.2.1 18 = f := fun s f => id rfl
  rcases hg with ⟨j, hj, g0, g1, g2, g3⟩ | ⟨j, hj, g0, g1, g2, g3⟩ | ⟨p, w, v, hf, g0, g1, g2, g3⟩ | ⟨h0, g0, g1, g2, g3⟩
  · refine ⟨playG a j, play_ok ho he hj, fun i hi => playG_st ho he hj hi, fun L => ⟨playL a L j, fun s hr => ?_, fun sG ru s0 s3 hG hu => ?_⟩⟩
    · obtain ⟨f, q1, q2⟩ := hM s L (s.2.2.1 18) hr
      rw [sa_self18] at q1
      obtain ⟨r', m1, m2⟩ := m_plays' (s := sa s 18 f) ho he hj hr
      refine ⟨f, r', ?_, m2⟩
      unfold f_X8_follows
      rw [q1, ob_some, q18, q2.1, q2.2.1, g0, g1, if_pos rfl, m1, ob_some]
    · obtain ⟨s0', s3', q1, q2⟩ := hX L sG ru s0 s3 hG hu
      obtain ⟨sG', x1, x2⟩ := x_plays ho he hj hG hu
      refine ⟨s0', s3', sG', q1, ?_, x2⟩
      unfold f_X0_takeTurn
      rw [q2.1, q2.2.1, g0, g1, if_pos rfl, x1, ob_some]
  · refine ⟨discG a j, disc_ok ho he hj, fun i hi => discG_st ho he hj hi, fun L => ⟨discL a L j, fun s hr => ?_, fun sG ru s0 s3 hG hu => ?_⟩⟩
    · obtain ⟨f, q1, q2⟩ := hM s L (s.2.2.1 18) hr
      rw [sa_self18] at q1
      obtain ⟨r', m1, m2⟩ := m_discards' (s := sa s 18 f) ho he hj hr
      refine ⟨f, r', ?_, m2⟩
      unfold f_X8_follows
      rw [q1, ob_some, q18, q2.1, q2.2.1, g0, g1, if_neg (by decide), if_pos rfl, m1, ob_some]
    · obtain ⟨s0', s3', q1, q2⟩ := hX L sG ru s0 s3 hG hu
      obtain ⟨sG', x1, x2⟩ := x_discards ho he hj hG hu
      refine ⟨s0', s3', sG', q1, ?_, x2⟩
      unfold f_X0_takeTurn
      rw [q2.1, q2.2.1, g0, g1, if_neg (by decide), if_pos rfl, x1, ob_some]
  · obtain ⟨hp, hp2, hww, hc⟩ := hf
    have h7 : 1 ≤ a 7 := by
      unfold canG at hc
      rw [Bool.and_eq_true] at hc
      exact of_decide_eq_true hc.1
    have hwl : 1 ≤ a (18 + wAt w v) := by
      unfold canG sayB at hc
      rw [Bool.and_eq_true, Bool.and_eq_true] at hc
      exact of_decide_eq_true hc.2.1
    refine ⟨hintG a p w v, hint_ok ho he hp hww h7 hwl, fun i hi => hintG_st (wAt_lt ho.1 hww) hi, fun L => ⟨hintL a L p w v, fun s hr => ?_, fun sG ru s0 s3 hG hu => ?_⟩⟩
    · obtain ⟨f, q1, q2⟩ := hM s L (s.2.2.1 18) hr
      rw [sa_self18] at q1
      obtain ⟨r', m1, m2⟩ := m_hints' (s := sa s 18 f) ho he hp hww h7 hwl hr
      refine ⟨f, r', ?_, m2⟩
      unfold f_X8_follows
      rw [q1, ob_some, q18, q2.1, q2.2.1, q2.2.2.1, q2.2.2.2, g0, g1, g2, g3, if_neg (by decide), if_neg (by decide), if_pos rfl, m1, ob_some]
    · obtain ⟨s0', s3', q1, q2⟩ := hX L sG ru s0 s3 hG hu
      obtain ⟨sG', x1, x2⟩ := x_hints ho he hp hww h7 hwl hG hu
      refine ⟨s0', s3', sG', q1, ?_, x2⟩
      unfold f_X0_takeTurn
      rw [q2.1, q2.2.1, q2.2.2.1, q2.2.2.2, g0, g1, g2, g3, if_neg (by decide), if_neg (by decide), if_pos rfl, x1, ob_some]
  · refine ⟨passG a, pass_ok ho he h0, fun i hi => passG_st hi, fun L => ⟨passL a L, fun s hr => ?_, fun sG ru s0 s3 hG hu => ?_⟩⟩
    · obtain ⟨f, q1, q2⟩ := hM s L (s.2.2.1 18) hr
      rw [sa_self18] at q1
      obtain ⟨r', m1, m2⟩ := m_passes' (s := sa s 18 f) ho he h0 hr
      refine ⟨f, r', ?_, m2⟩
      unfold f_X8_follows
      rw [q1, ob_some, q18, q2.1, g0, if_neg (by decide), if_neg (by decide), if_neg (by decide), m1, ob_some]
    · obtain ⟨s0', s3', q1, q2⟩ := hX L sG ru s0 s3 hG hu
      obtain ⟨sG', x1, x2⟩ := x_passes ho he h0 hG hu
      refine ⟨s0', s3', sG', q1, ?_, x2⟩
      unfold f_X0_takeTurn
      rw [q2.1, g0, if_neg (by decide), if_neg (by decide), if_neg (by decide), x1, ob_some]
end ADV
