/-! OWN: the pure half: what holds at the end of a turn holds between the calls -/
theorem endOf_le (a : Gm) : endOf a ≤ 3 := by
  unfold endOf
  repeat' split
  all_goals omega
theorem heldN_fr {a b : Gm} (h : ∀ i, 13 ≤ i → b i = a i) (k but : Nat) : heldN b k but = heldN a k but := by
  refine sumN_congr fun p _ => ?_
  have : inH b k p = inH a k p := by
    unfold inH
    rw [h (187 + p) (by omega)]
    refine sumN_congr fun j _ => ?_
    rw [h (191 + (5 * p + j)) (by omega), h (27 + a (191 + (5 * p + j))) (by omega)]
  rw [this]
theorem inDk_fr {a b : Gm} (h4 : b 4 = a 4) (h : ∀ i, 13 ≤ i → b i = a i) (k m : Nat) : inDk b k m = inDk a k m := by
  unfold inDk
  rw [h4]
  refine sumN_congr fun j _ => ?_
  rw [h (27 + j) (by omega)]
/-- the pot that every turn takes from -/
def potG (a : Gm) : Nat := if a 9 = 0 then sumN (fun w => a (18 + w)) 9 + (a 4 - a 5) + 6 else a 9
def potM (a : Gm) : Nat := if a 9 = 0 then (if a 5 = a 4 then a 2 + 1 else sumN (fun w => a (18 + w)) 9 + (a 4 - a 5) + 6) else a 9 - 1
def distG (a : Gm) : Prop := ∀ p j p' j', p < 4 → j < a (187 + p) → p' < 4 → j' < a (187 + p') → a (191 + (5 * p + j)) = a (191 + (5 * p' + j')) → p = p' ∧ j = j'
def cntG (a : Gm) : Prop := ∀ k, k < 20 → a (211 + k) + heldN a k 9 + inDk a k (a 5) + pileN a k = inDk a k 0
/-- a game of which the turn is to end -/
def okE (a : Gm) : Prop :=
  wfG a ∧ (2 ≤ a 2 ∧ 1 ≤ a 0 ∧ 1 ≤ a 1) ∧ (∀ c, c < 4 → a (14 + c) ≤ a 1) ∧ (∀ k, k < a 4 → a (27 + k) / 5 < a 0 ∧ a (27 + k) % 5 < a 1) ∧
  (∀ k, k < a 4 → (a (67 + k)).testBit (a (27 + k) / 5) = true ∧ (a (107 + k)).testBit (a (27 + k) % 5) = true) ∧ cntG a ∧
  a 13 = a 11 + 1 ∧ a 11 + 1 + potM a ≤ 1000 ∧ (∀ k, k < 7 → a (231 + k) ≤ 5 * (a 11 + 1)) ∧ (a 9 = 0 → a 5 < a 4 → ∀ p, p < a 2 → 1 ≤ a (187 + p)) ∧ distG a ∧ a 9 ≠ 1
theorem okE_pre {a : Gm} (h : okE a) : preE a := by
  obtain ⟨hw, ⟨h2, h0, h1⟩, ht, -, -, -, -, -, -, -, -, h9⟩ := h
  obtain ⟨b0, b1, b2, b3, b4, b5, b6, b7, b8, b9, b11, b12, b13⟩ := wfB hw
  have h10 := hw.2.2.2.2.2.2.2.2.2.2.1
  exact ⟨b0, b1, by omega, b2, by omega, b11, b8, b9, b4, b5, ht, fun c hc h => wfP0 hw hc h, h9⟩
theorem endG_fr {a : Gm} {i : Nat} (h9 : i ≠ 9) (h10 : i ≠ 10) (h11 : i ≠ 11) (h12 : i ≠ 12) : endG a i = a i := by
  unfold endG roundG
  rw [up_ne h12, up_ne h10, up_ne h11, leftG_ne h9]
theorem endG_9 (a : Gm) : endG a 9 = leftG a 9 := by
  unfold endG roundG
  rw [up_ne (by omega), up_ne (by omega), up_ne (by omega)]
theorem endG_10 (a : Gm) : endG a 10 = (a 10 + 1) % a 2 := by
  unfold endG
  rw [up_ne (by omega)]
  unfold roundG
  rw [up_eq, leftG_ne (by omega), leftG_ne (by omega)]
theorem endG_11 (a : Gm) : endG a 11 = a 11 + 1 := by
  unfold endG
  rw [up_ne (by omega)]
  unfold roundG
  rw [up_ne (by omega), up_eq, leftG_ne (by omega)]
theorem endOf_12 (a : Gm) (v : Nat) : endOf (up a 12 v) = endOf a := rfl
theorem endG_12 (a : Gm) : endG a 12 = endOf (endG a) := by
  unfold endG
  rw [up_eq, endOf_12]
theorem leftG_9 (a : Gm) : leftG a 9 = if a 9 = 0 then (if a 5 = a 4 then a 2 + 1 else 0) else a 9 - 1 := by
  unfold leftG
  split
  · split
    · rw [up_eq]
    · rename_i h _; exact h
  · rw [up_eq]
theorem end_ok {a : Gm} (h : okE a) : okG (endG a) := by
  have hpre := okE_pre h
  have hl := leftG_b hpre
  obtain ⟨hw, ⟨h2, h0, h1⟩, ht, hk, hm, hc, h13, hp, htot, hsz, hd, h9⟩ := h
  have fr : ∀ i, 13 ≤ i → endG a i = a i := fun i hi => endG_fr (by omega) (by omega) (by omega) (by omega)
  have e0 : endG a 0 = a 0 := endG_fr (by omega) (by omega) (by omega) (by omega)
  have e1 : endG a 1 = a 1 := endG_fr (by omega) (by omega) (by omega) (by omega)
  have e2 : endG a 2 = a 2 := endG_fr (by omega) (by omega) (by omega) (by omega)
  have e3 : endG a 3 = a 3 := endG_fr (by omega) (by omega) (by omega) (by omega)
  have e4 : endG a 4 = a 4 := endG_fr (by omega) (by omega) (by omega) (by omega)
  have e5 : endG a 5 = a 5 := endG_fr (by omega) (by omega) (by omega) (by omega)
  have e6 : endG a 6 = a 6 := endG_fr (by omega) (by omega) (by omega) (by omega)
  have e7 : endG a 7 = a 7 := endG_fr (by omega) (by omega) (by omega) (by omega)
  have e8 : endG a 8 = a 8 := endG_fr (by omega) (by omega) (by omega) (by omega)
  have e9 : endG a 9 = leftG a 9 := endG_9 a
  have e10 := endG_10 a
  have e11 := endG_11 a
  have e13 : endG a 13 = a 13 := fr 13 (by omega)
  have l9 := leftG_9 a
  obtain ⟨w0, w1, w2, w3, w4, w5, w6, w7, w8, w9, w10, w11, w12, w13, w14, w15, w16, w17, w18, w19, w20, w21, w22⟩ := hw
  have hsum : sumN (fun w => endG a (18 + w)) 9 = sumN (fun w => a (18 + w)) 9 := sumN_congr fun w _ => fr _ (by omega)
  have hpot : potG (endG a) ≤ potM a := by
    unfold potG potM
    rw [e9, e4, e5, hsum, l9]
    by_cases c9 : a 9 = 0
    · rw [if_pos c9, if_pos c9]
      by_cases c5 : a 5 = a 4
      · rw [if_pos c5, if_pos c5, if_neg (by omega)]
        omega
      · rw [if_neg c5, if_neg c5, if_pos rfl]
        omega
    · rw [if_neg c9, if_neg c9, if_neg (by omega)]
      omega
  refine ⟨⟨?_, ?_, ?_, ?_, ?_, ?_, ?_, ?_, ?_, ?_, ?_, ?_, ?_, ?_, ?_, ?_, ?_, ?_, ?_, ?_, ?_, ?_, ?_⟩, endG_12 a, ?_, ?_, ?_, ?_, ?_, ?_, ?_, ?_, ?_, ?_, ?_⟩
  · rw [e0]; exact w0
  · rw [e1]; exact w1
  · rw [e2]; exact w2
  · rw [e3]; exact w3
  · rw [e4]; exact w4
  · rw [e5, e4]; exact w5
  · rw [e6]; exact w6
  · rw [e6, e7]; exact w7
  · rw [e8]; exact w8
  · rw [e9]; exact hl
  · right; rw [e10, e2]; exact Nat.mod_lt _ (by omega)
  · rw [e11]; omega
  · rw [endG_12]; exact endOf_le _
  · rw [e13]; omega
  · intro c hc
    rw [fr _ (by omega), e0]; exact w14 c hc
  · intro w hw; rw [fr _ (by omega)]; exact w15 w hw
  · intro k hk; rw [fr _ (by omega)]; exact w16 k hk
  · intro k hk; rw [fr _ (by omega), fr _ (by omega)]; exact w17 k hk
  · intro k hk; rw [fr _ (by omega)]; exact w18 k hk
  · intro p hp; rw [fr _ (by omega), e2]; exact w19 p hp
  · intro p j hp hj
    rw [fr _ (by omega)] at hj
    rw [fr _ (by omega), e5]; exact w20 p j hp hj
  · intro k hk; rw [fr _ (by omega)]; exact w21 k hk
  · intro k hk; rw [fr _ (by omega)]; exact w22 k hk
  · intro q; rw [e2] at q; omega
  · intro _; rw [e2, e0, e1]; exact ⟨h2, h0, h1⟩
  · intro c hc; rw [fr _ (by omega), e1]; exact ht c hc
  · intro k hk'; rw [e4] at hk'; rw [fr _ (by omega), e0, e1]; exact hk k hk'
  · intro k hk'; rw [e4] at hk'; rw [fr _ (by omega), fr _ (by omega), fr _ (by omega)]; exact hm k hk'
  · intro k hk'
    rw [fr _ (by omega), heldN_fr fr, inDk_fr e4 fr, inDk_fr e4 fr, e5, fr (14 + k / 5) (by omega)]
    exact hc k hk'
  · rw [e13, e11]; exact h13
  · show endG a 11 + potG (endG a) ≤ 1000
    rw [e11]; omega
  · intro k hk'; rw [fr _ (by omega), e11]; exact htot k hk'
  · intro q
    rw [e9, l9] at q
    have c9 : a 9 = 0 := by
      apply Classical.byContradiction
      intro c
      rw [if_neg c] at q
      omega
    rw [if_pos c9] at q
    have c5 : a 5 ≠ a 4 := fun c => by rw [if_pos c] at q; omega
    refine ⟨by rw [e5, e4]; omega, fun p hp' => ?_⟩
    rw [e2] at hp'
    rw [fr _ (by omega)]
    exact hsz c9 (by omega) p hp'
  · intro p j p' j' hp1 hj hp2 hj' he
    rw [fr _ (by omega)] at hj hj'
    rw [fr _ (by omega), fr _ (by omega)] at he
    exact hd p j p' j' hp1 hj hp2 hj' he
/-- a game that goes on -/
theorem run_b {a : Gm} (ho : okG a) (he : endOf a = 0) : (2 ≤ a 2 ∧ 1 ≤ a 0 ∧ 1 ≤ a 1) ∧ 1 ≤ a 8 ∧ a 9 ≠ 1 ∧ a 10 < a 2 ∧ a 11 + potG a ≤ 1000 ∧ a 13 = a 11 := by
  have hx := ho.2.2.2.2.2.2.2.2
  unfold endOf at he
  split at he
  · omega
  · rename_i h2
    split at he
    · omega
    · rename_i h8
      split at he
      · omega
      · split at he
        · omega
        · rename_i h9
          have h10 := ho.1.2.2.2.2.2.2.2.2.2.2.1
          exact ⟨ho.2.2.2.1 h2, by omega, h9, by omega, hx.2.1, hx.1⟩
