/-! OWN: the pure half: what holds between the calls -/
def okX (a : Gm) : Prop :=
  a 13 = a 11 ∧ a 11 + (if a 9 = 0 then sumN (fun w => a (18 + w)) 9 + (a 4 - a 5) + 6 else a 9) ≤ 1000 ∧ (∀ k, k < 7 → a (231 + k) ≤ 5 * a 11) ∧ (a 9 = 0 → a 5 < a 4 ∧ ∀ p, p < a 2 → 1 ≤ a (187 + p)) ∧
  ∀ p j p' j', p < 4 → j < a (187 + p) → p' < 4 → j' < a (187 + p') → a (191 + (5 * p + j)) = a (191 + (5 * p' + j')) → p = p' ∧ j = j'
def okG (a : Gm) : Prop :=
  wfG a ∧ a 12 = endOf a ∧ (a 2 = 0 → a 4 = 0 ∧ a 0 = 0 ∧ a 1 = 0) ∧ (a 2 ≠ 0 → 2 ≤ a 2 ∧ 1 ≤ a 0 ∧ 1 ≤ a 1) ∧ (∀ c, c < 4 → a (14 + c) ≤ a 1) ∧ (∀ k, k < a 4 → a (27 + k) / 5 < a 0 ∧ a (27 + k) % 5 < a 1) ∧
  (∀ k, k < a 4 → (a (67 + k)).testBit (a (27 + k) / 5) = true ∧ (a (107 + k)).testBit (a (27 + k) % 5) = true) ∧
  (∀ k, k < 20 → a (211 + k) + heldN a k 9 + inDk a k (a 5) + (if k % 5 < a (14 + k / 5) then 1 else 0) = inDk a k 0) ∧ okX a
/-- a game of the class (its rules ru at q) and a row of the model say the same -/
def sameG (pl : Nat → Ob → Prop) (sG : Ob) (q : Nat) (ru : Ob) (r : Nat → Int32) : Prop := ∃ (a : Gm) (L : Nat → Int32), okG a ∧ encR a L r ∧ encG a L sG ∧ encRu a ru ∧ pl q ru
def pastOk (pl : Nat → Ob → Prop) (sX : Ob) (PS : Nat → Nat × Ob) (sM : Ob) : Prop := ∃ n e : Nat, n ≤ 20 ∧ e < 20 ∧ sX.1 5 = iN n ∧ sX.1 6 = iN e ∧ sM.1 6 = iN n ∧ ∀ i, i < n → ∃ ru, sameG pl (PS ((e + 20 - n + i) % 20)).2 (PS ((e + 20 - n + i) % 20)).1 ru (fun k => sM.2.2.1 3 (358 * i + k))
def savedOk (pl : Nat → Ob → Prop) (sX : Ob) (SS : Nat → Nat × Ob) (sM : Ob) : Prop := ∀ i, i < 2 → (sX.2.2.1 8 i = 0 ∧ sM.2.2.1 5 i = 0) ∨ (sX.2.2.1 8 i = 1 ∧ sM.2.2.1 5 i = 1 ∧ ∃ ru, sameG pl (SS i).2 (SS i).1 ru (fun k => sM.2.2.1 4 (358 * i + k)))
def inOk (sX sM : Ob) : Prop := ∃ n : Nat, n ≤ 600 ∧ sX.1 1 = iN n ∧ sM.1 9 = iN n ∧ ∀ k, k < n → ∃ v : Nat, 1 ≤ v ∧ v ≤ 255 ∧ sX.2.2.1 0 k = iN v ∧ sM.2.2.1 8 k = vp_nar .byte (iN v)
def outOk (sX sM : Ob) : Prop := ∃ n : Nat, n ≤ 14 ∧ sX.1 14 = iN n ∧ sM.1 30 = iN n ∧ ∀ k, k < n → sX.2.2.1 13 k = sM.2.2.1 29 k
def Re : Rl := fun pl sX sG ru q sR PS SS sM => sameG pl sG q ru (sM.2.2.1 0) ∧ pastOk pl sX PS sM ∧ savedOk pl sX SS sM ∧ inOk sX sM ∧ outOk sX sM ∧ sR.1 1 = sM.1 16 ∧ sR.1 3 = sM.1 17
theorem Re_thr {pl : Nat → Ob → Prop} {sX sG ru : Ob} {q : Nat} {sR : Ob} {PS SS : Nat → Nat × Ob} {sM : Ob} (h : Re pl sX sG ru q sR PS SS sM) (v : Int32) : Re pl sX sG ru q sR PS SS (si sM 7 v) := h
theorem P_2_ok : P_2 NN Re := by
  intro pl sX sG ru q sR PS SS sM h
  exact ⟨_, _, rfl, rfl, h.2.2.2.2.2.1, Re_thr h 0⟩
theorem P_3_ok : P_3 NN Re := by
  intro pl sX sG ru q sR PS SS sM h
  exact ⟨_, _, rfl, rfl, h.2.2.2.2.2.2, Re_thr h 0⟩
theorem P_6_ok : P_6 NN Re := by
  intro pl sX sG ru q sR PS SS sM h
  obtain ⟨a, L, ho, hr, hG, hu, -⟩ := h.1
  refine ⟨iN (endOf a), (sM.2.2.1 0 12, si sM 7 0), ?_, rfl, ?_, Re_thr h 0⟩
  · unfold f_X7_over
    rw [X1_ending_eq ho.1 hG hu]
    rfl
  · rw [← ho.2.1]
    exact (hr.1 12 (by omega) (by omega)).symm
theorem X1_isEnded_eq {a : Gm} {L : Nat → Int32} {sG ru : Ob} (hw : wfG a) (hG : encG a L sG) (hr : encRu a ru) : f_X1_isEnded NN sG ru = some (if endOf a = 0 then 0 else 1) := by
  unfold f_X1_isEnded
  rw [X1_ending_eq hw hG hr]
  have he : endOf a ≤ 3 := by
    unfold endOf
    repeat' split
    all_goals omega
  have e : (iN (endOf a) = 0) ↔ endOf a = 0 := iN_inj (b := 0) (by omega) (by omega)
  show (if iN (endOf a) = 0 then _ else _) = _
  by_cases h : endOf a = 0
  · rw [if_pos (e.mpr h), if_pos h]
  · rw [if_neg (fun q => h (e.mp q)), if_neg h]
theorem P_5_ok : P_5 NN Re := by
  intro pl sX sG ru q sR PS SS sM h
  obtain ⟨a, L, ho, hr, hG, hu, -⟩ := h.1
  have he := ho.2.1
  have h12 : sM.2.2.1 0 12 = iN (endOf a) := by rw [hr.1 12 (by omega) (by omega), he]
  have h10 : sM.2.2.1 0 10 = iN (a 10) := hr.1 10 (by omega) (by omega)
  have hb : endOf a ≤ 3 := by
    have := ho.1.2.2.2.2.2.2.2.2.2.2.2.2.1
    omega
  have e : (iN (endOf a) = 0) ↔ endOf a = 0 := iN_inj (b := 0) (by omega) (by omega)
  by_cases h0 : endOf a = 0
  · refine ⟨iN (a 10), (iN (a 10), si sM 7 0), ?_, ?_, rfl, Re_thr h 0⟩
    · unfold f_X7_turnOf
      rw [X1_isEnded_eq ho.1 hG hu, if_pos h0]
      show some (sG.1 4) = _
      rw [hG.2.2.2.1]
    · unfold f_X8_turnOf
      rw [h12, if_pos (e.mpr h0), h10]
  · refine ⟨-1, (-1, si sM 7 0), ?_, ?_, rfl, Re_thr h 0⟩
    · unfold f_X7_turnOf
      rw [X1_isEnded_eq ho.1 hG hu, if_neg h0]
      rfl
    · unfold f_X8_turnOf
      rw [h12, if_neg (fun q => h0 (e.mp q))]

theorem X8_isThrown_1 (s : Ob) (n : Int32) : f_X8_isThrown NN s 1 n = some (0, si s 7 0) := by rw [X8_isThrown_eq]; rfl
theorem X8_isThrown_0 (s : Ob) (n : Int32) : f_X8_isThrown NN s 0 n = some (1, si s 7 n) := by rw [X8_isThrown_eq]; rfl
theorem ob_some {α β : Type} (x : α) (k : α → Option β) : ob (some x) k = k x := rfl
theorem sub1_toInt {n : Nat} (h : n < 2 ^ 30) : (iN n - 1).toInt = (n : Int) - 1 := by
  rw [Int32.toInt_sub, iN_toInt (by omega)]
  show ((n : Int) - 1).bmod (2 ^ 32) = _
  rw [Int.bmod_eq_of_le (by omega) (by omega)]
theorem idx3 (p : Int32) (n : Nat) : p < 0 ∨ (∃ m, m < 2 ^ 31 ∧ p = iN m ∧ n ≤ m) ∨ ∃ m, m < 2 ^ 31 ∧ m < n ∧ p = iN m := by
  by_cases h : p < 0
  · exact Or.inl h
  · obtain ⟨e, hb⟩ := iN_of h
    rcases Nat.lt_or_ge p.toNatClampNeg n with q | q
    · exact Or.inr (Or.inr ⟨_, hb, q, e⟩)
    · exact Or.inr (Or.inl ⟨_, hb, e, q⟩)
theorem iN_not_neg (m : Nat) (h : m < 2 ^ 31) : ¬ iN m < 0 := fun q => by
  have := (iN_lt (a := m) (b := 0) h (by omega)).mp q
  omega
/-- the model's test of an index below n -/
theorem X8_in_no {p : Int32} {n : Nat} (hn : n < 2 ^ 30) (h : p < 0 ∨ ∃ m, m < 2 ^ 31 ∧ p = iN m ∧ n ≤ m) : f_X8_in NN p 0 (iN n - 1) = some 0 := by
  rw [X8_in_eq]
  rcases h with h | ⟨m, hm, rfl, hnm⟩
  · rw [if_pos h]
  · rw [if_neg (iN_not_neg m hm), if_pos]
    rw [Int32.lt_iff_toInt_lt, sub1_toInt hn, iN_toInt hm]
    omega
theorem X8_in_yes {n m : Nat} (hn : n < 2 ^ 30) (h : m < n) : f_X8_in NN (iN m) 0 (iN n - 1) = some 1 := by
  rw [X8_in_eq, if_neg (iN_not_neg m (by omega)), if_neg]
  rw [Int32.lt_iff_toInt_lt, sub1_toInt hn, iN_toInt (by omega)]
  omega
theorem lit_add (c m : Nat) : (iN c + iN m) = iN (c + m) := iN_add c m
theorem X1_topOf_eq {s : Ob} {m : Nat} (h : m < 4) : f_X1_topOf NN s (iN m) = some (s.2.2.1 11 m) := by
  unfold f_X1_topOf
  rw [if_neg (iN_not_neg m (by omega)), if_neg (show ¬ (4 : Int32) ≤ iN m from fun q => absurd ((iN_le (a := 4) (b := m) (by omega) (by omega)).mp q) (by omega)), chk_t (iN_inb h (by omega)), iN_clamp (by omega)]
theorem P_7_ok : P_7 NN Re := by
  intro pl sX sG ru q sR PS SS sM h fo p
  obtain ⟨a, L, ho, hr, hG, hu, -⟩ := h.1
  have w0 := ho.1.1
  have r0 : sM.2.2.1 0 0 = iN (a 0) := hr.1 0 (by omega) (by omega)
  have hno : (p < 0 ∨ ∃ m, m < 2 ^ 31 ∧ p = iN m ∧ a 0 ≤ m) → ∃ (z1 : Int32 × (Nat → Int64)) (z2 : Int32 × Ob) (z3 : Int32), (f_L_pile NN sX sG ru fo p = some z1) ∧ (f_X8_pile NN sM p = some z2) ∧ (f_X8_thrown NN z2.2 = some z3) ∧ (z3 = z1.1) ∧ (z1.1 = 0 → (z1.2 0) = (z2.1).toInt64) ∧ Re pl sX sG ru q sR PS SS z2.2 := by
    intro hc
    refine ⟨(1, fo), (0, si sM 7 1), 1, ?_, ?_, rfl, rfl, fun e => absurd (show (1 : Int32) = 0 from e) (by decide), Re_thr h 1⟩
    · unfold f_L_pile f_X7_pile ft_X7_pile f_X7_pile_18 ft_X7_pile_18
      rw [hu.1]
      rcases hc with hc | ⟨m, hm, rfl, hc⟩
      · rw [if_pos hc, if_pos hc]; rfl
      · rw [if_neg (iN_not_neg m hm), if_neg (iN_not_neg m hm), if_neg (fun q => absurd ((iN_lt hm (by omega)).mp q) (by omega)), if_neg (fun q => absurd ((iN_lt hm (by omega)).mp q) (by omega))]; rfl
    · unfold f_X8_pile
      rw [r0, X8_in_no (by omega) hc, ob_some, X8_isThrown_0]
      rfl
  rcases idx3 p (a 0) with hc | hc | ⟨m, hm, hc, rfl⟩
  · exact hno (Or.inl hc)
  · exact hno (Or.inr hc)
  · have gt : sG.2.2.1 11 m = iN (a (14 + m)) := hG.2.2.2.2.2.2.2.2.2.2.1 m (by omega)
    have rt : sM.2.2.1 0 (14 + m) = iN (a (14 + m)) := hr.1 (14 + m) (by omega) (by omega)
    refine ⟨(0, vp_updL fo 0 (iN (a (14 + m))).toInt64), (iN (a (14 + m)), si sM 7 0), 0, ?_, ?_, rfl, rfl, fun _ => ?_, Re_thr h 0⟩
    · unfold f_L_pile f_X7_pile
      rw [hu.1, if_neg (iN_not_neg m hm), if_pos ((iN_lt hm (by omega)).mpr hc), X1_topOf_eq (by omega), gt]
      rfl
    · unfold f_X8_pile
      rw [r0, X8_in_yes (by omega) hc, ob_some, X8_isThrown_1, ob_some, if_pos rfl, show ((14 : Int32) + iN m) = iN (14 + m) from iN_add 14 m, chk_t (iN_inb (by omega) (by omega)), iN_clamp (by omega)]
      show some (sM.2.2.1 0 (14 + m), _) = _
      rw [rt]
    · show vp_updL fo 0 _ 0 = _
      unfold vp_updL
      simp
