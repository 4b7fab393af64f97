/-! OWN: the pure half: the game as naturals (a), its log (L), and how both classes hold it -/
/-- the numbers of a game by the places of the model's row; 9: one more than the turns left (0: none told) -/
abbrev Gm : Type := Nat → Nat
def wfG (a : Gm) : Prop :=
  a 0 ≤ 4 ∧ a 1 ≤ 5 ∧ a 2 ≤ 4 ∧ a 3 ≤ 5 ∧ a 4 ≤ 40 ∧ a 5 ≤ a 4 ∧ a 6 ≤ 9 ∧ a 7 ≤ a 6 ∧ a 8 ≤ 5 ∧ a 9 ≤ 5 ∧ (a 2 = 0 ∨ a 10 < a 2) ∧ a 11 < 2 ^ 20 ∧ a 12 ≤ 3 ∧ a 13 < 2 ^ 21 ∧
  (∀ c, c < 4 → a (14 + c) ≤ 5 ∧ (a 0 ≤ c → a (14 + c) = 0)) ∧ (∀ w, w < 9 → a (18 + w) ≤ 99) ∧ (∀ k, k < 40 → a (27 + k) < 20) ∧ (∀ k, k < 40 → a (67 + k) < 16 ∧ a (107 + k) < 32) ∧ (∀ k, k < 40 → a (147 + k) ≤ 1) ∧
  (∀ p, p < 4 → a (187 + p) ≤ 5 ∧ (a 2 ≤ p → a (187 + p) = 0)) ∧ (∀ p j, p < 4 → j < a (187 + p) → a (191 + (5 * p + j)) < a 5) ∧ (∀ k, k < 20 → a (211 + k) ≤ 40) ∧ (∀ k, k < 7 → a (231 + k) < 2 ^ 24)
/-- the model's row -/
def encR (a : Gm) (L r : Nat → Int32) : Prop := (∀ k, k < 238 → k ≠ 9 → r k = iN (a k)) ∧ r 9 = iN (a 9) - 1 ∧ ∀ k, k < 120 → r (238 + k) = L k
/-- how often a kind stands in the deck from a place on, in a hand, in hands but one -/
def inDk (a : Gm) (kind m : Nat) : Nat := sumN (fun k => if m ≤ k ∧ a (27 + k) = kind then 1 else 0) (a 4)
def inH (a : Gm) (kind p : Nat) : Nat := sumN (fun j => if a (27 + a (191 + (5 * p + j))) = kind then 1 else 0) (a (187 + p))
def heldN (a : Gm) (kind but : Nat) : Nat := sumN (fun p => if p = but then 0 else inH a kind p) 4
/-- a set of kinds by its colors and ranks -/
def okMask (x : Int32) (C Rk : Nat) : Prop := ∀ i, i < 32 → bitI x i = (decide (i < 20) && (C.testBit (i / 5) && Rk.testBit (i % 5)))
def encRu (a : Gm) (ru : Ob) : Prop := ru.1 0 = iN (a 0) ∧ ru.1 1 = iN (a 1) ∧ ru.1 2 = iN (a 2) ∧ ru.1 3 = iN (a 3) ∧ (a 2 ≠ 0 → ru.1 4 = iN (a 6)) ∧ ru.1 7 = iN (a 4) ∧ (∀ k, k < 40 → ru.2.2.1 8 k = iN (a (27 + k))) ∧ (∀ k, k < 20 → ru.2.2.1 9 k = iN (inDk a k 0))
def encG (a : Gm) (L : Nat → Int32) (sG : Ob) : Prop := sG.1 1 = iN (a 5) ∧ sG.1 2 = iN (a 7) ∧ sG.1 3 = iN (a 8) ∧ sG.1 4 = iN (a 10) ∧ sG.1 5 = iN (a 11) ∧ sG.1 6 = iN (a 9) - 1 ∧
  (∀ k, k < 7 → sG.2.2.1 7 k = iN (a (231 + k))) ∧ (∀ k, k < 40 → ((sG.2.1 8 >>> ((iN k).toInt64 &&& 63)) &&& 1 = 0 ↔ a (147 + k) = 0)) ∧ (∀ p j, p < 4 → j < a (187 + p) → sG.2.2.1 9 (5 * p + j) = iN (a (191 + (5 * p + j)))) ∧
  (∀ p, p < 4 → sG.2.2.1 10 p = iN (a (187 + p))) ∧ (∀ c, c < 4 → sG.2.2.1 11 c = iN (a (14 + c))) ∧ (∀ k, k < 20 → sG.2.2.1 12 k = iN (a (211 + k))) ∧ (∀ w, w < 9 → sG.2.2.1 13 w = iN (a (18 + w))) ∧ (∀ k, k < 40 → okMask (sG.2.2.1 14 k) (a (67 + k)) (a (107 + k))) ∧ ∀ k, k < 120 → sG.2.2.1 15 k = L k
/-- why the game is over -/
def endOf (a : Gm) : Nat := if a 2 = 0 then 3 else if a 8 = 0 then 1 else if a 0 * a 1 ≤ a 14 + a 15 + a 16 + a 17 then 2 else if a 9 = 1 then 3 else 0
theorem X8_in_eq (x lo hi : Int32) : f_X8_in NN x lo hi = some (if x < lo then 0 else if hi < x then 0 else 1) := by
  unfold f_X8_in
  split
  · rfl
  · split <;> rfl
theorem X8_isThrown_eq (s : Ob) (p n : Int32) : f_X8_isThrown NN s p n = some (if p = 0 then (1, si s 7 n) else (0, si s 7 0)) := by
  unfold f_X8_isThrown f_X8_isThrown_10
  by_cases h : p = 0
  · rw [if_pos h, if_pos h, if_pos h]
  · rw [if_neg h, if_neg h, if_neg h]
theorem iN_sub1_eq0 {k : Nat} (h : k < 2 ^ 30) : iN k - 1 = 0 ↔ k = 1 := by
  constructor
  · intro e
    have h1 : iN k = 1 := by
      have := congrArg (fun x => x + 1) e
      simpa using this
    exact (iN_inj (a := k) (b := 1) (by omega) (by omega)).mp h1
  · intro e; subst e; rfl
theorem X1_ending_eq {a : Gm} {L : Nat → Int32} {sG ru : Ob} (hw : wfG a) (hG : encG a L sG) (hr : encRu a ru) : f_X1_ending NN sG ru = some (iN (endOf a)) := by
  obtain ⟨w0, w1, w2, w3, w4, w5, w6, w7, w8, w9, -, -, -, -, wP, -⟩ := hw
  obtain ⟨r0, r1, r2, -⟩ := hr
  obtain ⟨-, -, g3, -, -, g6, -, -, -, -, gT, -⟩ := hG
  unfold f_X1_ending endOf
  rw [X1_score_eq]
  show (if ru.1 2 = 0 then _ else _) = _
  rw [r2, r0, r1, g3, g6, gT 0 (by omega), gT 1 (by omega), gT 2 (by omega), gT 3 (by omega)]
  have e2 : (iN (a 2) = 0) ↔ a 2 = 0 := iN_inj (b := 0) (by omega) (by omega)
  have e3 : (0 < iN (a 8)) ↔ 0 < a 8 := iN_lt (a := 0) (by omega) (by omega)
  have p0 := (wP 0 (by omega)).1
  have p1 := (wP 1 (by omega)).1
  have p2 := (wP 2 (by omega)).1
  have p3 := (wP 3 (by omega)).1
  have es : (0 : Int32) + iN (a (14 + 0)) + iN (a (14 + 1)) + iN (a (14 + 2)) + iN (a (14 + 3)) = iN (a 14 + a 15 + a 16 + a 17) := by
    have z : (0 : Int32) = iN 0 := rfl
    rw [z, iN_add, iN_add, iN_add, iN_add]
    congr 1
    show 0 + a 14 + a 15 + a 16 + a 17 = _
    omega
  have em : iN (a 0) * iN (a 1) = iN (a 0 * a 1) := (Int32.ofNat_mul _ _).symm
  have hm : a 0 * a 1 ≤ 20 := Nat.mul_le_mul w0 w1
  have p0 : a 14 ≤ 5 := p0
  have p1 : a 15 ≤ 5 := p1
  have p2 : a 16 ≤ 5 := p2
  have p3 : a 17 ≤ 5 := p3
  have el : (iN (a 14 + a 15 + a 16 + a 17) < iN (a 0 * a 1)) ↔ a 14 + a 15 + a 16 + a 17 < a 0 * a 1 := iN_lt (by omega) (by omega)
  have e9 : (iN (a 9) - 1 = 0) ↔ a 9 = 1 := iN_sub1_eq0 (by omega)
  by_cases h2 : a 2 = 0
  · rw [if_pos (e2.mpr h2), if_pos h2]; rfl
  · rw [if_neg (fun q => h2 (e2.mp q)), if_neg h2]
    by_cases h3 : a 8 = 0
    · rw [if_neg (fun q => absurd (e3.mp q) (by omega)), if_pos h3]; rfl
    · rw [if_pos (e3.mpr (by omega)), if_neg h3]
      show (if (0 : Int32) + iN (a (14 + 0)) + iN (a (14 + 1)) + iN (a (14 + 2)) + iN (a (14 + 3)) < iN (a 0) * iN (a 1) then _ else _) = _
      rw [es, em]
      by_cases h4 : a 0 * a 1 ≤ a 14 + a 15 + a 16 + a 17
      · rw [if_neg (fun q => absurd (el.mp q) (by omega)), if_pos h4]; rfl
      · rw [if_pos (el.mpr (by omega)), if_neg h4]
        by_cases h9 : a 9 = 1
        · rw [if_pos (e9.mpr h9), if_pos h9]; rfl
        · rw [if_neg (fun q => h9 (e9.mp q)), if_neg h9]; rfl
