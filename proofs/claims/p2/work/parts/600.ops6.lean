/-! OWN: the pure half: thinks, thought, knows (the calls) -/
section OP6
variable {pl : Nat → Ob → Prop} {sX sG ru : Ob} {q : Nat} {sR : Ob} {PS SS : Nat → Nat × Ob} {sM : Ob}
/-- an answer that is told, or an exception; a Mind has worked -/
theorem ansM (h : Re pl sX sG ru q sR PS SS sM) {fo : Nat → Int64} {fl : Option (Int32 × Ob × (Nat → Int64))} {fm : Option (Int32 × Ob)} (hh : (∃ (c v : Int32) (s' : Ob), c ≠ 0 ∧ fl = some (c, s', fo) ∧ fm = some (v, si sM 7 c)) ∨ (∃ (v : Int32) (s' : Ob), fl = some (0, s', vp_updL fo 0 v.toInt64) ∧ fm = some (v, si sM 7 0))) : ∃ (z1 : Int32 × Ob × (Nat → Int64)) (z2 : Int32 × Ob) (z3 : Int32), (fl = some z1) ∧ (fm = some z2) ∧ (f_X8_thrown NN z2.2 = some z3) ∧ (z3 = z1.1) ∧ (z1.1 = 0 → (z1.2.2 0) = (z2.1).toInt64) ∧ Re pl sX sG ru q sR PS SS z2.2 := by
  rcases hh with ⟨c, v, s', hc, h1, h2⟩ | ⟨v, s', h1, h2⟩
  · exact ⟨_, _, _, h1, h2, rfl, rfl, fun e => absurd e hc, Re_thr h c⟩
  · exact ⟨_, _, _, h1, h2, rfl, rfl, fun _ => fo_0 fo _, Re_thr h 0⟩
end OP6
theorem P_17_ok : P_17 NN Re := by
  intro pl sX sG ru q sR PS SS sM h sMi fo p1 p2
  obtain ⟨a, L, ho, hr, hG, hu, -⟩ := h.1
  have hw := ho.1
  obtain ⟨b0, b1, b2, b3, b4, b5, b6, b7, b8, b9, b11, b12, b13⟩ := wfB hw
  refine ansM (fo := fo) h ?_
  rcases place2 a p1 p2 with hc | ⟨i, j, hi, hj, rfl, rfl⟩
  · obtain ⟨e1, e2⟩ := nc_no (sX := sX) hw hG hu hc
    refine Or.inl ⟨1, 0, sMi, by decide, ?_, ?_⟩
    · unfold f_L_thinks f_X7_thinks ft_X7_thinks
      rw [e1, e2]; rfl
    · unfold f_X8_thinks
      rw [il_no hw hr hc, ob_some, X8_isThrown_0]; rfl
  · have hs := wfS hw (p := i) (by omega)
    have hh := wfH hw (by omega) hj
    obtain ⟨s', e⟩ := possible_eq ho hG hu sX sMi (p := i) (k := a (191 + (5 * i + j))) (by omega) (by omega)
    refine Or.inr ⟨iN (cntK (thF a i (a (67 + a (191 + (5 * i + j)))) (a (107 + a (191 + (5 * i + j))))) 20), s', ?_, ?_⟩
    · unfold f_L_thinks f_X7_thinks
      rw [nc_yes hw hG hu hi hj, ob_some, e, ob_some, bitCount_kset]; rfl
    · unfold f_X8_thinks
      rw [il_yes hw hr hi hj, ob_some, X8_isThrown_1, ob_some, if_pos rfl, X8_thoughtAt_none (sM := si sM 7 0) ho hr (by omega) hj (fun k hk _ => iN_ne_m1 (by have := cntK_le (thF a i (a (67 + a (191 + (5 * i + j)))) (a (107 + a (191 + (5 * i + j))))) k; omega)), if_pos rfl]; rfl
theorem X7_thought_none {sX sG ru s' : Ob} {pp qq q : Int32} {f : Nat → Bool} (hq : ∀ k, k < 20 → f k = true → ¬ iN (cntK f k) = q) : f_X7_thought_19 NN sX sG ru pp qq q NN (kset f) 0 0 s' = some (-1, s') := by
  unfold f_X7_thought_19
  refine loop4 (fun _ => kset f) (fun n => iN (cntK f n)) (fun n => iN n) (fun _ => s') 20 ?_ ?_ NN 0 (by omega) (nnb (by omega))
  · intro n hn self
    have hc := cntK_le f n
    have hq := hq n hn
    unfold F_X7_thought_19
    rw [if_neg (show ¬ (20 : Int32) ≤ iN n from fun q => absurd ((iN_le (a := 20) (by omega) (by omega)).mp q) (by omega)), isIn_kset hn, ob_some, show iN n + 1 = iN (n + 1) from iN_add n 1]
    cases c1 : f n
    · rw [if_pos bN0, cntK_0 c1]
    · rw [if_neg (show ¬ iN (bN true) = 0 by decide), if_neg (hq c1), cntK_1 c1, show iN (cntK f n) + 1 = iN (cntK f n + 1) from iN_add _ 1]
  · intro self
    unfold F_X7_thought_19
    rw [if_pos (by decide)]
theorem X7_thought_some {sX sG ru s' : Ob} {pp qq : Int32} {f : Nat → Bool} {k0 : Nat} (hk : k0 < 20) (hf : f k0 = true) : f_X7_thought_19 NN sX sG ru pp qq (iN (cntK f k0)) NN (kset f) 0 0 s' = some (iN (10 * (k0 / 5) + k0 % 5 + 1), s') := by
  have hc0 := cntK_le f k0
  unfold f_X7_thought_19
  refine loop4 (fun _ => kset f) (fun n => iN (cntK f n)) (fun n => iN n) (fun _ => s') k0 ?_ ?_ NN 0 (by omega) (nnb (by omega))
  · intro n hn self
    have hc := cntK_le f n
    unfold F_X7_thought_19
    rw [if_neg (show ¬ (20 : Int32) ≤ iN n from fun q => absurd ((iN_le (a := 20) (by omega) (by omega)).mp q) (by omega)), isIn_kset (by omega), ob_some, show iN n + 1 = iN (n + 1) from iN_add n 1]
    cases c1 : f n
    · rw [if_pos bN0, cntK_0 c1]
    · have hm : cntK f (n + 1) ≤ cntK f k0 := cntK_mono (by omega)
      rw [cntK_1 c1] at hm
      rw [if_neg (show ¬ iN (bN true) = 0 by decide), if_neg (fun q => absurd ((iN_inj (by omega) (by omega)).mp q) (by omega)), cntK_1 c1, show iN (cntK f n) + 1 = iN (cntK f n + 1) from iN_add _ 1]
  · intro self
    unfold F_X7_thought_19
    rw [if_neg (show ¬ (20 : Int32) ≤ iN k0 from fun q => absurd ((iN_le (a := 20) (by omega) (by omega)).mp q) (by omega)), isIn_kset hk, ob_some, hf, if_neg (show ¬ iN (bN true) = 0 by decide), if_pos rfl, co_eq hk, ob_some]
theorem P_18_ok : P_18 NN Re := by
  intro pl sX sG ru q sR PS SS sM h sMi fo p1 p2 p3
  obtain ⟨a, L, ho, hr, hG, hu, -⟩ := h.1
  have hw := ho.1
  obtain ⟨b0, b1, b2, b3, b4, b5, b6, b7, b8, b9, b11, b12, b13⟩ := wfB hw
  refine ansM (fo := fo) h ?_
  rcases place2 a p1 p2 with hc | ⟨i, j, hi, hj, rfl, rfl⟩
  · obtain ⟨e1, e2⟩ := nc_no (sX := sX) hw hG hu hc
    refine Or.inl ⟨1, 0, sMi, by decide, ?_, ?_⟩
    · unfold f_L_thought f_X7_thought ft_X7_thought
      rw [e1, e2]; rfl
    · unfold f_X8_thought
      rw [il_no hw hr hc, ob_some, X8_isThrown_0]; rfl
  · have hs := wfS hw (p := i) (by omega)
    have hh := wfH hw (by omega) hj
    obtain ⟨s', e⟩ := possible_eq ho hG hu sX sMi (p := i) (k := a (191 + (5 * i + j))) (by omega) (by omega)
    by_cases hn : ∃ k0, k0 < 20 ∧ thF a i (a (67 + a (191 + (5 * i + j)))) (a (107 + a (191 + (5 * i + j)))) k0 = true ∧ iN (cntK (thF a i (a (67 + a (191 + (5 * i + j)))) (a (107 + a (191 + (5 * i + j))))) k0) = p3
    · obtain ⟨k0, hk, hf, rfl⟩ := hn
      refine Or.inr ⟨iN (10 * (k0 / 5) + k0 % 5 + 1), s', ?_, ?_⟩
      · unfold f_L_thought f_X7_thought
        rw [nc_yes hw hG hu hi hj, ob_some, e, ob_some, X7_thought_some hk hf]; rfl
      · have hc := cntK_le (thF a i (a (67 + a (191 + (5 * i + j)))) (a (107 + a (191 + (5 * i + j))))) k0
        unfold f_X8_thought
        rw [il_yes hw hr hi hj, ob_some, X8_isThrown_1, ob_some, if_pos rfl, if_pos (show (0 : Int32) ≤ iN _ from (iN_le (a := 0) (by omega) (by omega)).mpr (by omega)), X8_thoughtAt_some (sM := si sM 7 0) ho hr (by omega) hj hk hf]; rfl
    · have hq : ∀ k, k < 20 → thF a i (a (67 + a (191 + (5 * i + j)))) (a (107 + a (191 + (5 * i + j)))) k = true → ¬ iN (cntK (thF a i (a (67 + a (191 + (5 * i + j)))) (a (107 + a (191 + (5 * i + j))))) k) = p3 := fun k hk hf e => hn ⟨k, hk, hf, e⟩
      refine Or.inr ⟨-1, s', ?_, ?_⟩
      · unfold f_L_thought f_X7_thought
        rw [nc_yes hw hG hu hi hj, ob_some, e, ob_some, X7_thought_none hq]; rfl
      · unfold f_X8_thought
        rw [il_yes hw hr hi hj, ob_some, X8_isThrown_1, ob_some, if_pos rfl]
        by_cases e0 : (0 : Int32) ≤ p3
        · rw [if_pos e0, X8_thoughtAt_none (sM := si sM 7 0) ho hr (by omega) hj hq, if_neg (fun e => by rw [e] at e0; exact absurd e0 (by decide))]; rfl
        · rw [if_neg e0]
theorem P_19_ok : P_19 NN Re := by
  intro pl sX sG ru q sR PS SS sM h sMi fo p1 p2
  obtain ⟨a, L, ho, hr, hG, hu, -⟩ := h.1
  have hw := ho.1
  obtain ⟨b0, b1, b2, b3, b4, b5, b6, b7, b8, b9, b11, b12, b13⟩ := wfB hw
  refine ansM (fo := fo) h ?_
  rcases place2 a p1 p2 with hc | ⟨i, j, hi, hj, rfl, rfl⟩
  · obtain ⟨e1, e2⟩ := nc_no (sX := sX) hw hG hu hc
    refine Or.inl ⟨1, 0, sMi, by decide, ?_, ?_⟩
    · unfold f_L_knows f_X7_knows ft_X7_knows
      rw [e1, e2]; rfl
    · unfold f_X8_knows
      rw [il_no hw hr hc, ob_some, X8_isThrown_0]; rfl
  · have hs := wfS hw (p := i) (by omega)
    have hh := wfH hw (by omega) hj
    obtain ⟨s', e⟩ := possible_eq ho hG hu sX sMi (p := i) (k := a (191 + (5 * i + j))) (by omega) (by omega)
    refine Or.inr ⟨iN (knownN a (thF a i (a (67 + a (191 + (5 * i + j)))) (a (107 + a (191 + (5 * i + j)))))), s', ?_, ?_⟩
    · unfold f_L_knows f_X7_knows
      rw [nc_yes hw hG hu hi hj, ob_some, e, ob_some, X1_playableKinds_eq hw hG hu, ob_some, areAllIn_kset, ob_some, X1_uselessKinds_eq ho hG hu, ob_some, areAllIn_kset, ob_some, sub_play ho, sub_less ho]
      unfold knownN
      cases anyK (thF a i (a (67 + a (191 + (5 * i + j)))) (a (107 + a (191 + (5 * i + j))))) <;> cases subK (thF a i (a (67 + a (191 + (5 * i + j)))) (a (107 + a (191 + (5 * i + j))))) (nxF a) <;> cases subK (thF a i (a (67 + a (191 + (5 * i + j)))) (a (107 + a (191 + (5 * i + j))))) (uslF a) <;> rfl
    · unfold f_X8_knows
      rw [il_yes hw hr hi hj, ob_some, X8_isThrown_1, ob_some, if_pos rfl, X8_known_eq (sM := si sM 7 0) ho hr (by omega) hj]; rfl
