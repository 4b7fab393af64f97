/-! OWN: the pure half: turns with a card: what holds behind them -/
theorem sum_take {f : Nat → Nat} {j : Nat} : ∀ {n : Nat}, j ≤ n → sumN (fun i => if i < j then f i else f (i + 1)) n + f j = sumN f (n + 1) := by
  intro n
  induction n with
  | zero => intro h; rw [show j = 0 by omega]; rfl
  | succ n ih =>
    intro h
    show sumN _ n + (if n < j then f n else f (n + 1)) + f j = sumN f (n + 1) + f (n + 1)
    by_cases e : j = n + 1
    · subst e
      rw [if_pos (by omega), sumN_congr (f := fun i => if i < n + 1 then f i else f (i + 1)) (g := f) (fun k hk => if_pos (by omega))]
      rfl
    · have := ih (by omega)
      rw [if_neg (by omega)]
      omega
theorem inDk_step {a : Gm} {k m : Nat} (h : m < a 4) : inDk a k m = inDk a k (m + 1) + (if a (27 + m) = k then 1 else 0) := by
  have e := sumN_upd (f := fun i => if m ≤ i ∧ a (27 + i) = k then 1 else 0) (g := fun i => if m + 1 ≤ i ∧ a (27 + i) = k then 1 else 0) (j := m) h (fun i _ hne => by
    show (if m + 1 ≤ i ∧ a (27 + i) = k then 1 else 0) = (if m ≤ i ∧ a (27 + i) = k then 1 else 0)
    by_cases c : m + 1 ≤ i ∧ a (27 + i) = k
    · rw [if_pos c, if_pos ⟨by omega, c.2⟩]
    · rw [if_neg c, if_neg (fun q => c ⟨by omega, q.2⟩)])
  have e1 : (if m + 1 ≤ m ∧ a (27 + m) = k then 1 else 0) = 0 := if_neg (by omega)
  have e2 : (if m ≤ m ∧ a (27 + m) = k then 1 else 0) = (if a (27 + m) = k then 1 else 0) := by
    by_cases c : a (27 + m) = k
    · rw [if_pos c, if_pos ⟨by omega, c⟩]
    · rw [if_neg c, if_neg (fun q => c q.2)]
  unfold inDk
  simp only [e1, e2] at e
  omega
/-- a game of which a card was played or discarded -/
def MidP (a b : Gm) (p j : Nat) : Prop :=
  (∀ i, (i ≤ 6 ∨ (9 ≤ i ∧ i ≤ 12) ∨ (18 ≤ i ∧ i < 187)) → b i = a i) ∧ b 7 ≤ a 6 ∧ b 8 ≤ a 8 ∧ b 13 = a 13 + 1 ∧
  (∀ q, q < 4 → b (187 + q) = if q = p then a (187 + p) - 1 else a (187 + q)) ∧
  (∀ q i, q < 4 → i < b (187 + q) → b (191 + (5 * q + i)) = a (191 + (5 * q + (if q = p ∧ j ≤ i then i + 1 else i)))) ∧
  (∀ k, k < 7 → b (231 + k) ≤ a (231 + k) + 1) ∧
  (∀ k, k < 20 → b (211 + k) + pileN b k = a (211 + k) + pileN a k + (if k = kAt a p j then 1 else 0)) ∧
  (∀ c, c < 4 → b (14 + c) ≤ a 1 ∧ (a 0 ≤ c → b (14 + c) = 0))
section CRT
variable {a b : Gm} {p j : Nat}
theorem mid_held (hw : wfG a) (h : MidP a b p j) (hp : p < 4) (hj : j < a (187 + p)) {k : Nat} : heldN b k 9 + (if k = kAt a p j then 1 else 0) = heldN a k 9 := by
  obtain ⟨fr, -, -, -, hs, hh, -⟩ := h
  have h5 := wfS hw hp
  have hoth : ∀ q, q < 4 → q ≠ p → inH b k q = inH a k q := by
    intro q hq hne
    have e := hs q hq
    rw [if_neg hne] at e
    unfold inH
    rw [e]
    refine sumN_congr fun i hi => ?_
    have := hh q i hq (by rw [e]; exact hi)
    rw [if_neg (fun c => hne c.1)] at this
    have hc := wfH hw hq hi
    have hb := hw.2.2.2.2.1
    have hb' := hw.2.2.2.2.2.1
    rw [this, fr (27 + a (191 + (5 * q + i))) (by omega)]
  have hown : inH b k p + (if k = kAt a p j then 1 else 0) = inH a k p := by
    have e := hs p hp
    rw [if_pos rfl] at e
    have st := sum_take (f := fun i => if a (27 + a (191 + (5 * p + i))) = k then 1 else 0) (j := j) (n := a (187 + p) - 1) (by omega)
    rw [show a (187 + p) - 1 + 1 = a (187 + p) by omega] at st
    have e2 : inH b k p = sumN (fun i => if i < j then (fun i => if a (27 + a (191 + (5 * p + i))) = k then 1 else 0) i else (fun i => if a (27 + a (191 + (5 * p + i))) = k then 1 else 0) (i + 1)) (a (187 + p) - 1) := by
      unfold inH
      rw [e]
      refine sumN_congr fun i hi => ?_
      have q := hh p i hp (by rw [e]; exact hi)
      have hb := hw.2.2.2.2.1
      have hb' := hw.2.2.2.2.2.1
      by_cases c : i < j
      · rw [if_neg (by omega)] at q
        have hc := wfH hw hp (show i < a (187 + p) by omega)
        rw [if_pos c, q, fr (27 + a (191 + (5 * p + i))) (by omega)]
      · rw [if_pos ⟨rfl, by omega⟩] at q
        have hc := wfH hw hp (show i + 1 < a (187 + p) by omega)
        rw [if_neg c, q, fr (27 + a (191 + (5 * p + (i + 1)))) (by omega)]
    have e3 : inH a k p = sumN (fun i => if a (27 + a (191 + (5 * p + i))) = k then 1 else 0) (a (187 + p)) := rfl
    have e4 : (if a (27 + a (191 + (5 * p + j))) = k then 1 else 0) = (if k = kAt a p j then 1 else 0) := by
      unfold kAt
      by_cases c : k = a (27 + a (191 + (5 * p + j)))
      · rw [if_pos c, if_pos c.symm]
      · rw [if_neg c, if_neg (fun q => c q.symm)]
    rw [e2, e3, ← st]
    simp only [e4]
  have u := sumN_upd (f := fun q => if q = 9 then 0 else inH a k q) (g := fun q => if q = 9 then 0 else inH b k q) (j := p) (n := 4) hp (fun q hq hne => by
    show (if q = 9 then 0 else inH b k q) = (if q = 9 then 0 else inH a k q)
    rw [hoth q hq hne])
  have f1 : (if p = 9 then 0 else inH a k p) = inH a k p := if_neg (by omega)
  have f2 : (if p = 9 then 0 else inH b k p) = inH b k p := if_neg (by omega)
  simp only [f1, f2] at u
  unfold heldN
  omega
theorem draw_yes (h : b 5 < b 4) (p : Nat) : drawG b p = up (up (up b (191 + (5 * p + b (187 + p))) (b 5)) (187 + p) (b (187 + p) + 1)) 5 (b 5 + 1) := if_neg (by omega)
theorem draw_no (h : b 4 ≤ b 5) (p : Nat) : drawG b p = b := if_pos h
/-- all cells of a game behind a drawn card -/
theorem draw_fr {i : Nat} (h5 : i ≠ 5) (h : i < 187 ∨ 211 ≤ i) (hp : p < 4) (hs : b (187 + p) < 5) : drawG b p i = b i := by
  unfold drawG
  split
  · rfl
  · rw [up_ne h5, up_ne (by omega), up_ne (by omega)]
theorem mid_ok (ho : okG a) (he : endOf a = 0) (hp : a 10 = p) (hj : j < a (187 + p)) (h : MidP a b p j) : okE (drawG b p) := by
  have hw := ho.1
  obtain ⟨b0, b1, b2, b3, b4, b5, b6, b7, b8, b9, b11, b12, b13⟩ := wfB hw
  obtain ⟨⟨r2, r0, r1⟩, r8, r9, r10, rpot, r13⟩ := run_b ho he
  have hp4 : p < 4 := by omega
  have hsz := wfS hw hp4
  have hheld := fun k => mid_held (k := k) hw h hp4 hj
  obtain ⟨fr, h7, h8, h13, hs, hh, htot, hone, htop⟩ := h
  have hx := ho.2.2.2.2.2.2.2.2
  have hsp : b (187 + p) = a (187 + p) - 1 := by rw [hs p hp4, if_pos rfl]
  have hs5 : b (187 + p) < 5 := by omega
  have d : ∀ i, i ≠ 5 → (i < 187 ∨ 211 ≤ i) → drawG b p i = b i := fun i h5 hi => draw_fr h5 hi hp4 hs5
  have f4 : b 4 = a 4 := fr 4 (by omega)
  have f5 : b 5 = a 5 := fr 5 (by omega)
  have d5 : drawG b p 5 = if a 4 ≤ a 5 then a 5 else a 5 + 1 := by
    by_cases c : a 4 ≤ a 5
    · rw [if_pos c, draw_no (by omega), f5]
    · rw [if_neg c, draw_yes (by omega), up_eq, f5]
  have dS : ∀ q, q < 4 → drawG b p (187 + q) = if q = p then (if a 4 ≤ a 5 then a (187 + p) - 1 else a (187 + p)) else a (187 + q) := by
    intro q hq
    have e := hs q hq
    by_cases c : a 4 ≤ a 5
    · rw [draw_no (by omega), e]
      by_cases c2 : q = p
      · rw [if_pos c2, if_pos c2, if_pos c]
      · rw [if_neg c2, if_neg c2]
    · rw [draw_yes (by omega), up_ne (by omega)]
      by_cases c2 : q = p
      · rw [if_pos c2, if_neg c, c2, up_eq]; omega
      · rw [if_neg c2, up_ne (by omega), up_ne (by omega), e, if_neg c2]
  have dH : ∀ q i, q < 4 → i < b (187 + q) → drawG b p (191 + (5 * q + i)) = a (191 + (5 * q + (if q = p ∧ j ≤ i then i + 1 else i))) := by
    intro q i hq hi
    have e := hs q hq
    have hq5 := wfS hw hq
    have hb5 : b (187 + q) ≤ 5 := by rw [e]; split <;> omega
    rw [← hh q i hq hi]
    unfold drawG
    split
    · rfl
    · rw [up_ne (by omega), up_ne (by omega), up_ne]
      intro c
      have : q = p := by omega
      subst this
      omega
  have dN : a 5 < a 4 → drawG b p (191 + (5 * p + (a (187 + p) - 1))) = a 5 := by
    intro c
    rw [draw_yes (by omega), up_ne (by omega), up_ne (by omega), hsp, up_eq, f5]
  have dk : ∀ i, i < 40 → drawG b p (27 + i) = a (27 + i) := fun i hi => by rw [d _ (by omega) (by omega), fr _ (by omega)]
  have d4 : drawG b p 4 = a 4 := by rw [d 4 (by omega) (by omega), f4]
  have e0 : drawG b p 0 = a 0 := by rw [d _ (by omega) (by omega), fr _ (by omega)]
  have e1 : drawG b p 1 = a 1 := by rw [d _ (by omega) (by omega), fr _ (by omega)]
  have e2 : drawG b p 2 = a 2 := by rw [d _ (by omega) (by omega), fr _ (by omega)]
  have e9 : drawG b p 9 = a 9 := by rw [d _ (by omega) (by omega), fr _ (by omega)]
  have e10 : drawG b p 10 = a 10 := by rw [d _ (by omega) (by omega), fr _ (by omega)]
  have e11 : drawG b p 11 = a 11 := by rw [d _ (by omega) (by omega), fr _ (by omega)]
  have e13 : drawG b p 13 = a 13 + 1 := by rw [d _ (by omega) (by omega), h13]
  have eT : ∀ c, c < 4 → drawG b p (14 + c) = b (14 + c) := fun c hc => d _ (by omega) (by omega)
  -- the hands
  have inD : ∀ k m, inDk (drawG b p) k m = inDk a k m := by
    intro k m
    unfold inDk
    rw [d4]
    refine sumN_congr fun i hi => ?_
    rw [dk i (by omega)]
  have inB : ∀ q k, q < 4 → q ≠ p → inH (drawG b p) k q = inH b k q := by
    intro q k hq hne
    have e := hs q hq
    rw [if_neg hne] at e
    unfold inH
    rw [dS q hq, if_neg hne, e]
    refine sumN_congr fun i hi => ?_
    have hc := wfH hw hq hi
    have x1 := dH q i hq (by rw [e]; exact hi)
    have x2 := hh q i hq (by rw [e]; exact hi)
    rw [if_neg (fun c => hne c.1)] at x1 x2
    rw [x1, x2, dk _ (by omega), fr (27 + a (191 + (5 * q + i))) (by omega)]
  have inP : ∀ k, inH (drawG b p) k p = inH b k p + (if a 4 ≤ a 5 then 0 else if a (27 + a 5) = k then 1 else 0) := by
    intro k
    by_cases c : a 4 ≤ a 5
    · rw [if_pos c, draw_no (by omega)]
      rfl
    · rw [if_neg c]
      have e3 := dS p hp4
      rw [if_pos rfl, if_neg c] at e3
      unfold inH
      rw [e3, hsp, show a (187 + p) = a (187 + p) - 1 + 1 by omega]
      show sumN _ (a (187 + p) - 1) + _ = _
      rw [show a (187 + p) - 1 + 1 - 1 = a (187 + p) - 1 by omega]
      congr 1
      · refine sumN_congr fun i hi => ?_
        have x1 := dH p i hp4 (by rw [hsp]; exact hi)
        have x2 := hh p i hp4 (by rw [hsp]; exact hi)
        have hc := wfH hw hp4 (j := if p = p ∧ j ≤ i then i + 1 else i) (by split <;> omega)
        rw [x1, x2, dk _ (by omega), fr (27 + a (191 + (5 * p + (if p = p ∧ j ≤ i then i + 1 else i)))) (by omega)]
      · show (if drawG b p (27 + drawG b p (191 + (5 * p + (a (187 + p) - 1)))) = k then 1 else 0) = _
        rw [dN (by omega), dk _ (by omega)]
  have hel : ∀ k, heldN (drawG b p) k 9 = heldN b k 9 + (if a 4 ≤ a 5 then 0 else if a (27 + a 5) = k then 1 else 0) := by
    intro k
    have u := sumN_upd (f := fun q => if q = 9 then 0 else inH b k q) (g := fun q => if q = 9 then 0 else inH (drawG b p) k q) (j := p) (n := 4) hp4 (fun q hq hne => by
      show (if q = 9 then 0 else inH (drawG b p) k q) = (if q = 9 then 0 else inH b k q)
      rw [inB q k hq hne])
    have f1 : (if p = 9 then 0 else inH b k p) = inH b k p := if_neg (by omega)
    have f2 : (if p = 9 then 0 else inH (drawG b p) k p) = inH (drawG b p) k p := if_neg (by omega)
    simp only [f1, f2] at u
    have := inP k
    unfold heldN
    omega
  have cnt : cntG (drawG b p) := by
    intro k hk
    have hc := okCnt' ho hk
    have h1 := hone k hk
    have h2 := hheld k
    have h3 : pileN (drawG b p) k = pileN b k := by unfold pileN; rw [eT _ (by omega)]
    rw [d _ (by omega) (by omega), hel, inD, inD, d5, h3]
    by_cases c : a 4 ≤ a 5
    · rw [if_pos c, if_pos c]; omega
    · rw [if_neg c, if_neg c]
      have := inDk_step (a := a) (k := k) (m := a 5) (by omega)
      omega
  -- distinct cards, below the drawn ones
  have hlt : ∀ q i, q < 4 → i < b (187 + q) → (if q = p ∧ j ≤ i then i + 1 else i) < a (187 + q) := by
    intro q i hq hi
    rw [hs q hq] at hi
    by_cases c : q = p
    · rw [if_pos c] at hi
      subst c
      split <;> omega
    · rw [if_neg c] at hi
      rw [if_neg (fun q => c q.1)]; exact hi
  have cell : ∀ q i, q < 4 → i < drawG b p (187 + q) → (i < b (187 + q) ∧ drawG b p (191 + (5 * q + i)) = a (191 + (5 * q + (if q = p ∧ j ≤ i then i + 1 else i)))) ∨ (q = p ∧ i = a (187 + p) - 1 ∧ a 5 < a 4 ∧ drawG b p (191 + (5 * q + i)) = a 5) := by
    intro q i hq hi
    by_cases c : i < b (187 + q)
    · exact Or.inl ⟨c, dH q i hq c⟩
    · right
      rw [dS q hq] at hi
      rw [hs q hq] at c
      by_cases c2 : q = p
      · rw [if_pos c2] at hi c
        by_cases c3 : a 4 ≤ a 5
        · rw [if_pos c3] at hi; omega
        · rw [if_neg c3] at hi
          have ei : i = a (187 + p) - 1 := by omega
          exact ⟨c2, ei, by omega, by rw [c2, ei]; exact dN (by omega)⟩
      · rw [if_neg c2] at hi c
        omega
  have low : ∀ q i, q < 4 → i < b (187 + q) → a (191 + (5 * q + (if q = p ∧ j ≤ i then i + 1 else i))) < a 5 := fun q i hq hi => wfH hw hq (hlt q i hq hi)
  have dist : distG (drawG b p) := by
    intro q i q' i' hq hi hq' hi' hE
    rcases cell q i hq hi with ⟨c1, x1⟩ | ⟨c1, c2, c3, x1⟩ <;> rcases cell q' i' hq' hi' with ⟨d1, y1⟩ | ⟨d1, d2, d3, y1⟩
    · rw [x1, y1] at hE
      obtain ⟨z1, z2⟩ := hx.2.2.2.2 _ _ _ _ hq (hlt q i hq c1) hq' (hlt q' i' hq' d1) hE
      subst z1
      refine ⟨rfl, ?_⟩
      by_cases e1 : q = p ∧ j ≤ i <;> by_cases e2 : q = p ∧ j ≤ i'
      · rw [if_pos e1, if_pos e2] at z2; omega
      · rw [if_pos e1, if_neg e2] at z2; omega
      · rw [if_neg e1, if_pos e2] at z2; omega
      · rw [if_neg e1, if_neg e2] at z2; omega
    · have := low q i hq c1
      rw [x1, y1] at hE
      omega
    · have := low q' i' hq' d1
      rw [x1, y1] at hE
      omega
    · exact ⟨by omega, by omega⟩
  obtain ⟨w0, w1, w2, w3, w4, w5, w6, w7, w8, w9, w10, w11, w12, w13, w14, w15, w16, w17, w18, w19, w20, w21, w22⟩ := hw
  refine ⟨⟨?_, ?_, ?_, ?_, ?_, ?_, ?_, ?_, ?_, ?_, ?_, ?_, ?_, ?_, ?_, ?_, ?_, ?_, ?_, ?_, ?_, ?_, ?_⟩, ?_, ?_, ?_, ?_, cnt, ?_, ?_, ?_, ?_, dist, ?_⟩
  · rw [e0]; exact w0
  · rw [e1]; exact w1
  · rw [e2]; exact w2
  · rw [d _ (by omega) (by omega), fr _ (by omega)]; exact w3
  · rw [d4]; exact w4
  · rw [d5, d4]; split <;> omega
  · rw [d _ (by omega) (by omega), fr _ (by omega)]; exact w6
  · rw [d _ (by omega) (by omega), d _ (by omega) (by omega), fr 6 (by omega)]; exact h7
  · rw [d _ (by omega) (by omega)]; omega
  · rw [e9]; exact w9
  · rw [e2, e10]; exact w10
  · rw [e11]; exact w11
  · rw [d _ (by omega) (by omega), fr _ (by omega)]; exact w12
  · rw [e13]; omega
  · intro c hc
    have := htop c hc
    rw [eT c hc, e0]; exact ⟨by omega, this.2⟩
  · intro w hw; rw [d _ (by omega) (by omega), fr _ (by omega)]; exact w15 w hw
  · intro k hk; rw [dk k hk]; exact w16 k hk
  · intro k hk; rw [d _ (by omega) (by omega), d _ (by omega) (by omega), fr _ (by omega), fr _ (by omega)]; exact w17 k hk
  · intro k hk; rw [d _ (by omega) (by omega), fr _ (by omega)]; exact w18 k hk
  · intro q hq
    have := w19 q hq
    rw [dS q hq, e2]
    by_cases c : q = p
    · rw [if_pos c]
      exact ⟨by split <;> omega, fun hc => by omega⟩
    · rw [if_neg c]; exact this
  · intro q i hq hi
    rw [d5]
    rcases cell q i hq hi with ⟨c1, x1⟩ | ⟨c1, c2, c3, x1⟩
    · have := low q i hq c1
      rw [x1]
      exact Nat.lt_of_lt_of_le this (by split <;> omega)
    · rw [x1, if_neg (by omega)]; omega
  · intro k hk
    have := cnt k hk
    have := inDk_le (a := drawG b p) (by rw [d4]; exact w4) k 0
    omega
  · intro k hk
    have h1 := htot k hk
    have h2 := hx.2.2.1 k hk
    rw [d _ (by omega) (by omega)]
    omega
  · rw [e2, e0, e1]; exact ⟨r2, r0, r1⟩
  · intro c hc; rw [eT c hc, e1]; exact (htop c hc).1
  · intro k hk
    rw [d4] at hk
    rw [dk k (by omega), e0, e1]; exact okK ho hk
  · intro k hk
    rw [d4] at hk
    rw [dk k (by omega), d _ (by omega) (by omega), d _ (by omega) (by omega), fr _ (by omega), fr _ (by omega)]; exact okM ho hk
  · rw [e13, e11, r13]
  · have hsum : sumN (fun w => drawG b p (18 + w)) 9 = sumN (fun w => a (18 + w)) 9 := sumN_congr fun w hw => by rw [d _ (by omega) (by omega), fr _ (by omega)]
    unfold potM
    unfold potG at rpot
    rw [e11, e9, d5, d4, e2, hsum]
    by_cases c9 : a 9 = 0
    · have := (hx.2.2.2.1 c9).1
      rw [if_pos c9] at rpot ⊢
      rw [if_neg (show ¬ a 4 ≤ a 5 by omega)]
      split <;> omega
    · rw [if_neg c9] at rpot ⊢
      omega
  · intro k hk
    have h1 := htot k hk
    have h2 := hx.2.2.1 k hk
    rw [d _ (by omega) (by omega), e11]
    omega
  · intro c9 _ q hq
    rw [e9] at c9
    rw [e2] at hq
    obtain ⟨c5, hq1⟩ := hx.2.2.2.1 c9
    rw [dS q (by omega)]
    by_cases c : q = p
    · rw [if_pos c, if_neg (by omega)]; omega
    · rw [if_neg c]; exact hq1 q hq
  · rw [e9]; exact r9
end CRT
