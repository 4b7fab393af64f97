/-! OWN: the pure half: hints and passes as turns of both -/
def hasC (a : Gm) (p : Nat) : Nat → Nat → Bool
  | 0, _ => false
  | n + 1, c => hasC a p n c || decide (a (191 + (5 * p + n)) = c)
theorem hasC_t {a : Gm} {p c : Nat} : ∀ {n : Nat}, hasC a p n c = true ↔ ∃ j, j < n ∧ a (191 + (5 * p + j)) = c := by
  intro n
  induction n with
  | zero => exact ⟨fun h => (by cases h), fun ⟨j, h, _⟩ => absurd h (by omega)⟩
  | succ n ih =>
    show (hasC a p n c || decide (a (191 + (5 * p + n)) = c)) = true ↔ _
    rw [Bool.or_eq_true, ih]
    constructor
    · rintro (⟨j, h, e⟩ | h)
      · exact ⟨j, by omega, e⟩
      · exact ⟨n, by omega, of_decide_eq_true h⟩
    · rintro ⟨j, h, e⟩
      by_cases c : j = n
      · subst c; exact Or.inr (decide_eq_true e)
      · exact Or.inl ⟨j, by omega, e⟩
/-- what the first cards of a hand learn -/
def learnG (a : Gm) (p w v n : Nat) : Gm := fun i =>
  if (67 ≤ i ∧ i < 107) ∧ hasC a p n (i - 67) = true then learnC (a i) w v (hasW w v (a (27 + (i - 67))))
  else if (107 ≤ i ∧ i < 147) ∧ hasC a p n (i - 107) = true then learnR (a i) w v (hasW w v (a (27 + (i - 107))))
  else if (147 ≤ i ∧ i < 187) ∧ hasC a p n (i - 147) = true ∧ hasW w v (a (27 + (i - 147))) = true then 1
  else a i
theorem learnG_fr {a : Gm} {p w v n i : Nat} (h : i < 67 ∨ 187 ≤ i) : learnG a p w v n i = a i := by
  unfold learnG
  rw [if_neg (fun q => by have := q.1; omega), if_neg (fun q => by have := q.1; omega), if_neg (fun q => by have := q.1; omega)]
theorem learnG_C {a : Gm} {p w v n c : Nat} (h : c < 40) : learnG a p w v n (67 + c) = if hasC a p n c = true then learnC (a (67 + c)) w v (hasW w v (a (27 + c))) else a (67 + c) := by
  unfold learnG
  rw [show 67 + c - 67 = c by omega]
  by_cases e : hasC a p n c = true
  · rw [if_pos ⟨⟨by omega, by omega⟩, e⟩, if_pos e]
  · rw [if_neg (fun q => e q.2), if_neg (fun q => by have := q.1; omega), if_neg (fun q => by have := q.1; omega), if_neg e]
theorem learnG_R {a : Gm} {p w v n c : Nat} (h : c < 40) : learnG a p w v n (107 + c) = if hasC a p n c = true then learnR (a (107 + c)) w v (hasW w v (a (27 + c))) else a (107 + c) := by
  unfold learnG
  rw [if_neg (fun q => by have := q.1; omega), show 107 + c - 107 = c by omega]
  by_cases e : hasC a p n c = true
  · rw [if_pos ⟨⟨by omega, by omega⟩, e⟩, if_pos e]
  · rw [if_neg (fun q => e q.2), if_neg (fun q => by have := q.1; omega), if_neg e]
theorem learnG_T {a : Gm} {p w v n c : Nat} (h : c < 40) : learnG a p w v n (147 + c) = if hasC a p n c = true ∧ hasW w v (a (27 + c)) = true then 1 else a (147 + c) := by
  unfold learnG
  rw [if_neg (fun q => by have := q.1; omega), if_neg (fun q => by have := q.1; omega), show 147 + c - 147 = c by omega]
  by_cases e : hasC a p n c = true ∧ hasW w v (a (27 + c)) = true
  · rw [if_pos ⟨⟨by omega, by omega⟩, e⟩, if_pos e]
  · rw [if_neg (fun q => e q.2), if_neg e]
theorem learnG_0 (a : Gm) (p w v : Nat) : learnG a p w v 0 = a := by
  funext i
  unfold learnG
  rw [if_neg (fun q => by have := q.2; cases this), if_neg (fun q => by have := q.2; cases this), if_neg (fun q => by have := q.2.1; cases this)]
/-- one more card learns -/
theorem learnG_s {a : Gm} {p w v n cd : Nat} (hcd : a (191 + (5 * p + n)) = cd) (h40 : cd < 40) (hno : hasC a p n cd = false) : learnG a p w v (n + 1) = if hasW w v (a (27 + cd)) = true then up (up (up (learnG a p w v n) (107 + cd) (learnR (a (107 + cd)) w v true)) (67 + cd) (learnC (a (67 + cd)) w v true)) (147 + cd) 1 else up (up (learnG a p w v n) (107 + cd) (learnR (a (107 + cd)) w v false)) (67 + cd) (learnC (a (67 + cd)) w v false) := by
  have hs : ∀ c, hasC a p (n + 1) c = (hasC a p n c || decide (cd = c)) := fun c => by
    show (hasC a p n c || decide (a (191 + (5 * p + n)) = c)) = _
    rw [hcd]
  have hsc : hasC a p (n + 1) cd = true := by rw [hs, decide_eq_true rfl, Bool.or_true]
  have hne : ∀ c, c ≠ cd → hasC a p (n + 1) c = hasC a p n c := fun c h => by rw [hs, decide_eq_false (fun q => h q.symm), Bool.or_false]
  funext i
  by_cases hr : i < 67 ∨ 187 ≤ i
  · rw [learnG_fr hr]
    split
    · rw [up_ne (by omega), up_ne (by omega), up_ne (by omega), learnG_fr hr]
    · rw [up_ne (by omega), up_ne (by omega), learnG_fr hr]
  · rcases (show (67 ≤ i ∧ i < 107) ∨ (107 ≤ i ∧ i < 147) ∨ (147 ≤ i ∧ i < 187) by omega) with h | h | h
    · obtain ⟨c, rfl⟩ : ∃ c, i = 67 + c := ⟨i - 67, by omega⟩
      rw [learnG_C (by omega)]
      by_cases e : c = cd
      · subst e
        rw [if_pos hsc]
        split
        · rename_i ht
          rw [up_ne (by omega), up_eq, ht]
        · rename_i ht
          rw [up_eq, show hasW w v (a (27 + c)) = false by simpa using ht]
      · rw [hne c e, ← learnG_C (by omega)]
        split
        · rw [up_ne (by omega), up_ne (by omega), up_ne (by omega)]
        · rw [up_ne (by omega), up_ne (by omega)]
    · obtain ⟨c, rfl⟩ : ∃ c, i = 107 + c := ⟨i - 107, by omega⟩
      rw [learnG_R (by omega)]
      by_cases e : c = cd
      · subst e
        rw [if_pos hsc]
        split
        · rename_i ht
          rw [up_ne (by omega), up_ne (by omega), up_eq, ht]
        · rename_i ht
          rw [up_ne (by omega), up_eq, show hasW w v (a (27 + c)) = false by simpa using ht]
      · rw [hne c e, ← learnG_R (by omega)]
        split
        · rw [up_ne (by omega), up_ne (by omega), up_ne (by omega)]
        · rw [up_ne (by omega), up_ne (by omega)]
    · obtain ⟨c, rfl⟩ : ∃ c, i = 147 + c := ⟨i - 147, by omega⟩
      rw [learnG_T (by omega)]
      by_cases e : c = cd
      · subst e
        split
        · rename_i ht
          rw [if_pos ht.2, up_eq]
        · rename_i ht
          rw [if_neg (fun q => ht ⟨hsc, q⟩), up_ne (by omega), up_ne (by omega), learnG_T (by omega), if_neg (fun q => by rw [hno] at q; cases q.1)]
      · rw [hne c e, ← learnG_T (by omega)]
        split
        · rw [up_ne (by omega), up_ne (by omega), up_ne (by omega)]
        · rw [up_ne (by omega), up_ne (by omega)]
/-- what a hint changes ahead of the cards -/
def saidG (a : Gm) (w v : Nat) : Gm := up (up (logA a) 7 (a 7 - 1)) (18 + wAt w v) (a (18 + wAt w v) - 1)
def touchN (a : Gm) (p w v n : Nat) : Nat := cntK (fun j => hasW w v (kAt a p j)) n
def midHint (a : Gm) (p w v : Nat) : Gm := up (up (learnG (saidG a w v) p w v (a (187 + p))) 234 (a 234 + 1)) 236 (a 236 + touchN a p w v (a (187 + p)))
def hintG (a : Gm) (p w v : Nat) : Gm := endG (midHint a p w v)
def hintL (a : Gm) (L : Nat → Int32) (p w v : Nat) : Nat → Int32 := logL L (a 13 % 30) (iN (a 10)) 2 (iN p) (iN (10 * w + v))
def passG (a : Gm) : Gm := endG (logA a)
def passL (a : Gm) (L : Nat → Int32) : Nat → Int32 := logL L (a 13 % 30) (iN (a 10)) 3 (-1) (-1)
theorem hasC_fr {a b : Gm} {p : Nat} (h : ∀ i, 191 ≤ i → i < 211 → b i = a i) (hp : p < 4) {c : Nat} : ∀ {n : Nat}, n ≤ 5 → hasC b p n c = hasC a p n c := by
  intro n
  induction n with
  | zero => intro _; rfl
  | succ n ih =>
    intro hn
    show (hasC b p n c || decide (b (191 + (5 * p + n)) = c)) = (hasC a p n c || decide (a (191 + (5 * p + n)) = c))
    rw [ih (by omega), h _ (by omega) (by omega)]
theorem saidG_fr {a : Gm} {w v i : Nat} (h7 : i ≠ 7) (h13 : i ≠ 13) (h : i ≠ 18 + wAt w v) : saidG a w v i = a i := by
  unfold saidG
  rw [up_ne h, up_ne h7, logA_ne h13]
/-- what the class learns first, the model behind the words -/
theorem learn_comm {a : Gm} {p w v n : Nat} (hp : p < 4) (hn : n ≤ 5) (hw9 : wAt w v < 9) : learnG (saidG a w v) p w v n = up (up (learnG (logA a) p w v n) (18 + wAt w v) (a (18 + wAt w v) - 1)) 7 (a 7 - 1) := by
  have hC : ∀ c, hasC (saidG a w v) p n c = hasC (logA a) p n c := fun c => hasC_fr (fun i h1 h2 => by rw [saidG_fr (by omega) (by omega) (by omega), logA_ne (by omega)]) hp hn
  have f : ∀ i, 27 ≤ i → saidG a w v i = logA a i := fun i hi => by rw [saidG_fr (by omega) (by omega) (by omega), logA_ne (by omega)]
  funext i
  by_cases hr : i < 67 ∨ 187 ≤ i
  · rw [learnG_fr hr]
    by_cases e7 : i = 7
    · rw [e7, up_eq]
      unfold saidG
      rw [up_ne (by omega), up_eq]
    · rw [up_ne e7]
      by_cases ew : i = 18 + wAt w v
      · rw [ew, up_eq]
        unfold saidG
        rw [up_eq]
      · rw [up_ne ew, learnG_fr hr]
        unfold saidG
        rw [up_ne ew, up_ne e7]
  · rw [up_ne (by omega), up_ne (by omega)]
    rcases (show (67 ≤ i ∧ i < 107) ∨ (107 ≤ i ∧ i < 147) ∨ (147 ≤ i ∧ i < 187) by omega) with h | h | h
    · obtain ⟨c, rfl⟩ : ∃ c, i = 67 + c := ⟨i - 67, by omega⟩
      rw [learnG_C (by omega), learnG_C (by omega), hC, f _ (by omega), f _ (by omega)]
    · obtain ⟨c, rfl⟩ : ∃ c, i = 107 + c := ⟨i - 107, by omega⟩
      rw [learnG_R (by omega), learnG_R (by omega), hC, f _ (by omega), f _ (by omega)]
    · obtain ⟨c, rfl⟩ : ∃ c, i = 147 + c := ⟨i - 147, by omega⟩
      rw [learnG_T (by omega), learnG_T (by omega), hC, f _ (by omega), f _ (by omega)]
theorem learnC_own {C w v k : Nat} (h : C.testBit (k / 5) = true) (hk : k < 20) : (learnC C w v (hasW w v k)).testBit (k / 5) = true := by
  unfold learnC hasW
  by_cases e : w = 0
  · rw [if_pos e, if_pos e, tb_bnum, decide_eq_true (show k / 5 < 4 by omega), h]
    simp
  · rw [if_neg e]; exact h
theorem learnR_own {R w v k : Nat} (h : R.testBit (k % 5) = true) (hk : k < 20) : (learnR R w v (hasW w v k)).testBit (k % 5) = true := by
  unfold learnR hasW
  by_cases e : w = 0
  · rw [if_pos e]; exact h
  · rw [if_neg e, if_neg e, tb_bnum, decide_eq_true (show k % 5 < 5 by omega), h]
    simp
theorem touchN_le (a : Gm) (p w v n : Nat) : touchN a p w v n ≤ n := cntK_le _ _
section HNT
variable {a : Gm} {p w v : Nat}
theorem midHint_fr {i : Nat} (hw9 : wAt w v < 9) (h : i < 67 ∨ 187 ≤ i) (h7 : i ≠ 7) (h13 : i ≠ 13) (hww : i ≠ 18 + wAt w v) (h1 : i ≠ 234) (h2 : i ≠ 236) : midHint a p w v i = a i := by
  unfold midHint
  rw [up_ne h2, up_ne h1, learnG_fr h, saidG_fr h7 h13 hww]
theorem midHint_kn {i : Nat} (h : 67 ≤ i ∧ i < 187) : midHint a p w v i = learnG (saidG a w v) p w v (a (187 + p)) i := by
  unfold midHint
  rw [up_ne (by omega), up_ne (by omega)]
theorem midHint_ok (ho : okG a) (he : endOf a = 0) (hp : p < a 2) (hww : isW a w v) (h7 : 1 ≤ a 7) (hwl : 1 ≤ a (18 + wAt w v)) : okE (midHint a p w v) := by
  have hw := ho.1
  have hw9 := wAt_lt hw hww
  obtain ⟨b0, b1, b2, b3, b4, b5, b6, b7, b8, b9, b11, b12, b13⟩ := wfB hw
  obtain ⟨⟨r2, r0, r1⟩, r8, r9, r10, rpot, r13⟩ := run_b ho he
  have hx := ho.2.2.2.2.2.2.2.2
  have hs5 := wfS hw (p := p) (by omega)
  have fr : ∀ i, (i < 67 ∨ 187 ≤ i) → i ≠ 7 → i ≠ 13 → i ≠ 18 + wAt w v → i ≠ 234 → i ≠ 236 → midHint a p w v i = a i := fun i h h7 h13 hw h1 h2 => midHint_fr hw9 h h7 h13 hw h1 h2
  have e7 : midHint a p w v 7 = a 7 - 1 := by
    unfold midHint
    rw [up_ne (by omega), up_ne (by omega), learnG_fr (by omega)]
    unfold saidG
    rw [up_ne (by omega), up_eq]
  have e13 : midHint a p w v 13 = a 13 + 1 := by
    unfold midHint
    rw [up_ne (by omega), up_ne (by omega), learnG_fr (by omega)]
    unfold saidG
    rw [up_ne (by omega), up_ne (by omega)]
    exact up_eq _ _ _
  have ew : midHint a p w v (18 + wAt w v) = a (18 + wAt w v) - 1 := by
    unfold midHint
    rw [up_ne (by omega), up_ne (by omega), learnG_fr (by omega)]
    unfold saidG
    rw [up_eq]
  have sf : ∀ i, 27 ≤ i → saidG a w v i = a i := fun i hi => saidG_fr (by omega) (by omega) (by omega)
  have eC : ∀ c, c < 40 → midHint a p w v (67 + c) = if hasC (saidG a w v) p (a (187 + p)) c = true then learnC (a (67 + c)) w v (hasW w v (a (27 + c))) else a (67 + c) := fun c hc => by
    rw [midHint_kn (by omega), learnG_C hc, sf _ (by omega), sf _ (by omega)]
  have eR : ∀ c, c < 40 → midHint a p w v (107 + c) = if hasC (saidG a w v) p (a (187 + p)) c = true then learnR (a (107 + c)) w v (hasW w v (a (27 + c))) else a (107 + c) := fun c hc => by
    rw [midHint_kn (by omega), learnG_R hc, sf _ (by omega), sf _ (by omega)]
  have eT : ∀ c, c < 40 → midHint a p w v (147 + c) = if hasC (saidG a w v) p (a (187 + p)) c = true ∧ hasW w v (a (27 + c)) = true then 1 else a (147 + c) := fun c hc => by
    rw [midHint_kn (by omega), learnG_T hc, sf _ (by omega), sf _ (by omega)]
  have ek : ∀ c, c < 40 → midHint a p w v (27 + c) = a (27 + c) := fun c hc => fr _ (by omega) (by omega) (by omega) (by omega) (by omega) (by omega)
  have eS : ∀ q, q < 4 → midHint a p w v (187 + q) = a (187 + q) := fun q hq => fr _ (by omega) (by omega) (by omega) (by omega) (by omega) (by omega)
  have eH : ∀ i, i < 20 → midHint a p w v (191 + i) = a (191 + i) := fun q hq => fr _ (by omega) (by omega) (by omega) (by omega) (by omega) (by omega)
  have g : ∀ i, i ≤ 17 → i ≠ 7 → i ≠ 13 → midHint a p w v i = a i := fun i hi h7 h13 => fr i (by omega) h7 h13 (by omega) (by omega) (by omega)
  have iD : ∀ k m, inDk (midHint a p w v) k m = inDk a k m := by
    intro k m
    unfold inDk
    rw [g 4 (by omega) (by omega) (by omega)]
    refine sumN_congr fun i hi => ?_
    rw [ek i (by omega)]
  have iH : ∀ k, heldN (midHint a p w v) k 9 = heldN a k 9 := by
    intro k
    refine sumN_congr fun q hq => ?_
    have : inH (midHint a p w v) k q = inH a k q := by
      unfold inH
      rw [eS q hq]
      refine sumN_congr fun i hi => ?_
      have h1 := wfS hw hq
      have h2 := wfH hw hq hi
      rw [eH _ (by omega), ek _ (by omega)]
    rw [this]
  have tot : ∀ k, k < 7 → midHint a p w v (231 + k) ≤ a (231 + k) + 5 := by
    intro k hk
    have ht := touchN_le a p w v (a (187 + p))
    by_cases c1 : 231 + k = 236
    · rw [c1]
      unfold midHint
      rw [up_eq]; omega
    · by_cases c2 : 231 + k = 234
      · rw [c2]
        unfold midHint
        rw [up_ne (by omega), up_eq]; omega
      · rw [fr _ (by omega) (by omega) (by omega) (by omega) c2 c1]; omega
  have hsum : sumN (fun i => midHint a p w v (18 + i)) 9 + 1 = sumN (fun i => a (18 + i)) 9 := by
    have u := sumN_upd (f := fun i => a (18 + i)) (g := fun i => midHint a p w v (18 + i)) (j := wAt w v) (n := 9) hw9 (fun i hi hne => fr _ (by omega) (by omega) (by omega) (by omega) (by omega) (by omega))
    simp only [ew] at u
    omega
  obtain ⟨w0, w1, w2, w3, w4, w5, w6, w7, w8, w9, w10, w11, w12, w13, w14, w15, w16, w17, w18, w19, w20, w21, w22⟩ := hw
  refine ⟨⟨?_, ?_, ?_, ?_, ?_, ?_, ?_, ?_, ?_, ?_, ?_, ?_, ?_, ?_, ?_, ?_, ?_, ?_, ?_, ?_, ?_, ?_, ?_⟩, ?_, ?_, ?_, ?_, ?_, ?_, ?_, ?_, ?_, ?_, ?_⟩
  · rw [g _ (by omega) (by omega) (by omega)]; exact w0
  · rw [g _ (by omega) (by omega) (by omega)]; exact w1
  · rw [g _ (by omega) (by omega) (by omega)]; exact w2
  · rw [g _ (by omega) (by omega) (by omega)]; exact w3
  · rw [g _ (by omega) (by omega) (by omega)]; exact w4
  · rw [g 5 (by omega) (by omega) (by omega), g 4 (by omega) (by omega) (by omega)]; exact w5
  · rw [g _ (by omega) (by omega) (by omega)]; exact w6
  · rw [e7, g 6 (by omega) (by omega) (by omega)]; omega
  · rw [g _ (by omega) (by omega) (by omega)]; exact w8
  · rw [g _ (by omega) (by omega) (by omega)]; exact w9
  · rw [g 2 (by omega) (by omega) (by omega), g 10 (by omega) (by omega) (by omega)]; exact w10
  · rw [g _ (by omega) (by omega) (by omega)]; exact w11
  · rw [g _ (by omega) (by omega) (by omega)]; exact w12
  · rw [e13]; omega
  · intro c hc; rw [g _ (by omega) (by omega) (by omega), g 0 (by omega) (by omega) (by omega)]; exact w14 c hc
  · intro c hc
    have := w15 c hc
    by_cases e : 18 + c = 18 + wAt w v
    · rw [e, ew]
      rw [e] at this
      omega
    · rw [fr _ (by omega) (by omega) (by omega) e (by omega) (by omega)]; exact this
  · intro c hc; rw [ek c hc]; exact w16 c hc
  · intro c hc
    have := w17 c hc
    rw [eC c hc, eR c hc]
    split
    · exact ⟨learnC_lt this.1, learnR_lt this.2⟩
    · exact this
  · intro c hc
    have := w18 c hc
    rw [eT c hc]
    split
    · exact Nat.le_refl _
    · exact this
  · intro c hc; rw [eS c hc, g 2 (by omega) (by omega) (by omega)]; exact w19 c hc
  · intro q i hq hi
    rw [eS q hq] at hi
    have := (w19 q hq).1
    rw [eH _ (by omega), g 5 (by omega) (by omega) (by omega)]; exact w20 q i hq hi
  · intro c hc; rw [fr _ (by omega) (by omega) (by omega) (by omega) (by omega) (by omega)]; exact w21 c hc
  · intro k hk
    have h1 := tot k hk
    have h2 := hx.2.2.1 k hk
    omega
  · rw [g 2 (by omega) (by omega) (by omega), g 0 (by omega) (by omega) (by omega), g 1 (by omega) (by omega) (by omega)]; exact ⟨r2, r0, r1⟩
  · intro c hc; rw [g _ (by omega) (by omega) (by omega), g 1 (by omega) (by omega) (by omega)]; exact okTop ho hc
  · intro k hk
    rw [g 4 (by omega) (by omega) (by omega)] at hk
    rw [ek k (by omega), g 0 (by omega) (by omega) (by omega), g 1 (by omega) (by omega) (by omega)]; exact okK ho hk
  · intro k hk
    rw [g 4 (by omega) (by omega) (by omega)] at hk
    obtain ⟨m1, m2⟩ := okM ho hk
    have h20 := w16 k (by omega)
    rw [ek k (by omega), eC k (by omega), eR k (by omega)]
    split
    · exact ⟨learnC_own m1 h20, learnR_own m2 h20⟩
    · exact ⟨m1, m2⟩
  · intro k hk
    have hc := okCnt' ho hk
    have h3 : pileN (midHint a p w v) k = pileN a k := by
      unfold pileN
      rw [g _ (by omega) (by omega) (by omega)]
    rw [fr _ (by omega) (by omega) (by omega) (by omega) (by omega) (by omega), iH, iD, iD, g 5 (by omega) (by omega) (by omega), h3]
    exact hc
  · rw [e13, g 11 (by omega) (by omega) (by omega), r13]
  · unfold potM
    unfold potG at rpot
    rw [g 11 (by omega) (by omega) (by omega), g 9 (by omega) (by omega) (by omega), g 5 (by omega) (by omega) (by omega), g 4 (by omega) (by omega) (by omega), g 2 (by omega) (by omega) (by omega)]
    by_cases c9 : a 9 = 0
    · have := (hx.2.2.2.1 c9).1
      rw [if_pos c9] at rpot ⊢
      rw [if_neg (by omega)]
      omega
    · rw [if_neg c9] at rpot ⊢
      omega
  · intro k hk
    have h1 := tot k hk
    have h2 := hx.2.2.1 k hk
    rw [g 11 (by omega) (by omega) (by omega)]
    omega
  · intro c9 _ q hq
    rw [g 9 (by omega) (by omega) (by omega)] at c9
    rw [g 2 (by omega) (by omega) (by omega)] at hq
    rw [eS q (by omega)]
    exact (hx.2.2.2.1 c9).2 q hq
  · intro q i q' i' hq hi hq' hi' hE
    rw [eS q hq] at hi
    rw [eS q' hq'] at hi'
    have h1 := (w19 q hq).1
    have h2 := (w19 q' hq').1
    rw [eH _ (by omega), eH _ (by omega)] at hE
    exact hx.2.2.2.2 q i q' i' hq hi hq' hi' hE
  · rw [g 9 (by omega) (by omega) (by omega)]; exact r9
theorem hint_ok (ho : okG a) (he : endOf a = 0) (hp : p < a 2) (hww : isW a w v) (h7 : 1 ≤ a 7) (hwl : 1 ≤ a (18 + wAt w v)) : okG (hintG a p w v) := end_ok (midHint_ok ho he hp hww h7 hwl)
theorem pass_okE (ho : okG a) (he : endOf a = 0) (h0 : a (187 + a 10) = 0) : okE (logA a) := by
  have hw := ho.1
  obtain ⟨b0, b1, b2, b3, b4, b5, b6, b7, b8, b9, b11, b12, b13⟩ := wfB hw
  obtain ⟨⟨r2, r0, r1⟩, r8, r9, r10, rpot, r13⟩ := run_b ho he
  have hx := ho.2.2.2.2.2.2.2.2
  have c9 : a 9 ≠ 0 := fun c => by
    have := (hx.2.2.2.1 c).2 _ r10
    omega
  have e : ∀ i, i ≠ 13 → logA a i = a i := fun i hi => logA_ne hi
  have iD : ∀ k m, inDk (logA a) k m = inDk a k m := by
    intro k m
    unfold inDk
    rw [e 4 (by omega)]
    exact sumN_congr fun i _ => by rw [e (27 + i) (by omega)]
  have iH : ∀ k, heldN (logA a) k 9 = heldN a k 9 := by
    intro k
    refine sumN_congr fun q hq => ?_
    have : inH (logA a) k q = inH a k q := by
      unfold inH
      rw [e (187 + q) (by omega)]
      exact sumN_congr fun i hi => by rw [e (191 + (5 * q + i)) (by omega), e (27 + a (191 + (5 * q + i))) (by omega)]
    rw [this]
  refine ⟨wfG_logA hw (by omega), ?_, ?_, ?_, ?_, ?_, ?_, ?_, ?_, ?_, ?_, ?_⟩
  · exact ⟨r2, r0, r1⟩
  · intro c hc; rw [e _ (by omega), e 1 (by omega)]; exact okTop ho hc
  · intro k hk; rw [e _ (by omega), e 0 (by omega), e 1 (by omega)]; exact okK ho hk
  · intro k hk; rw [e _ (by omega), e _ (by omega), e _ (by omega)]; exact okM ho hk
  · intro k hk
    have h3 : pileN (logA a) k = pileN a k := by
      unfold pileN
      rw [e _ (by omega)]
    rw [e _ (by omega), iH, iD, iD, e 5 (by omega), h3]; exact okCnt' ho hk
  · show a 13 + 1 = a 11 + 1
    omega
  · unfold potM
    unfold potG at rpot
    rw [e 9 (by omega), e 11 (by omega), if_neg c9]
    rw [if_neg c9] at rpot
    omega
  · intro k hk
    have := hx.2.2.1 k hk
    rw [e _ (by omega), e 11 (by omega)]; omega
  · intro c; exact absurd c c9
  · intro q i q' i' hq hi hq' hi' hE
    rw [e _ (by omega)] at hi hi'
    rw [e _ (by omega), e _ (by omega)] at hE
    exact hx.2.2.2.2 q i q' i' hq hi hq' hi' hE
  · exact r9
theorem pass_ok (ho : okG a) (he : endOf a = 0) (h0 : a (187 + a 10) = 0) : okG (passG a) := end_ok (pass_okE ho he h0)
end HNT
