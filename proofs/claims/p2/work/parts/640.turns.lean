/-! OWN: the pure half: play, discard, hint and pass as turns of both -/
theorem kAt_fr {a b : Gm} {p j : Nat} (h : b (191 + (5 * p + j)) = a (191 + (5 * p + j))) (h2 : b (27 + a (191 + (5 * p + j))) = a (27 + a (191 + (5 * p + j)))) : kAt b p j = kAt a p j := by
  unfold kAt
  rw [h, h2]
theorem logA_ne {a : Gm} {i : Nat} (h : i ≠ 13) : logA a i = a i := up_ne h
theorem kAt_logA (a : Gm) (p j : Nat) : kAt (logA a) p j = kAt a p j := kAt_fr (logA_ne (by omega)) (logA_ne (by omega))
theorem takeG_fr {a : Gm} {p j i : Nat} (hp : p < 4) (hs : a (187 + p) ≤ 5) (h : i < 187 ∨ 211 ≤ i) : takeG a p j i = a i := by
  unfold takeG
  rw [if_neg (by omega), if_neg (by omega)]
theorem takeG_size {a : Gm} {p j q : Nat} (hp : p < 4) (hq : q < 4) : takeG a p j (187 + q) = if q = p then a (187 + p) - 1 else a (187 + q) := by
  unfold takeG
  by_cases e : q = p
  · rw [if_pos (by omega), if_pos e]
  · rw [if_neg (by omega), if_neg (by omega), if_neg e]
theorem takeG_hand {a : Gm} {p j q i : Nat} (hp : p < 4) (hq : q < 4) (hs : ∀ q, q < 4 → a (187 + q) ≤ 5) (hi : i < takeG a p j (187 + q)) : takeG a p j (191 + (5 * q + i)) = a (191 + (5 * q + (if q = p ∧ j ≤ i then i + 1 else i))) := by
  rw [takeG_size hp hq] at hi
  have h1 := hs q hq
  have h2 := hs p hp
  unfold takeG
  rw [if_neg (by omega)]
  by_cases e : q = p
  · rw [if_pos e] at hi
    subst e
    by_cases c : j ≤ i
    · rw [if_pos (by omega), if_pos ⟨rfl, c⟩]
      congr 1
    · rw [if_neg (by omega), if_neg (fun q => c q.2)]
  · rw [if_neg e] at hi
    rw [if_neg (by omega), if_neg (fun c => e c.1)]
theorem tokG_fr {a : Gm} {i : Nat} (h7 : i ≠ 7) (h235 : i ≠ 235) : tokG a i = a i := by
  unfold tokG
  split
  · rfl
  · rw [up_ne h235, up_ne h7]
theorem tokG_7 {a : Gm} (h : a 7 ≤ a 6) : tokG a 7 ≤ a 6 := by
  unfold tokG
  split
  · exact h
  · rw [up_ne (by omega), up_eq]; omega
theorem tokG_235 (a : Gm) : tokG a 235 ≤ a 235 + 1 := by
  unfold tokG
  split
  · omega
  · rw [up_eq]; omega
theorem heapG_fr {a : Gm} {k i : Nat} (h237 : i ≠ 237) (hk : i ≠ 211 + k) : heapG a k i = a i := by
  unfold heapG
  rw [up_ne hk, up_ne h237]
theorem heapG_k (a : Gm) (k : Nat) : heapG a k (211 + k) = a (211 + k) + 1 := by
  unfold heapG
  rw [up_eq]
theorem heapG_237 {a : Gm} {k : Nat} (hk : k < 20) : heapG a k 237 ≤ a 237 + 1 := by
  have := lastN_le a k
  unfold heapG
  rw [up_ne (by omega), up_eq]
  omega
/-- the game with a card on its pile, in the heap -/
def pileG (b : Gm) (k : Nat) : Gm := up (up b (14 + k / 5) (b (14 + k / 5) + 1)) 231 (b 231 + 1)
def midOkG (b : Gm) (k : Nat) : Gm := if k % 5 + 1 = b 1 then tokG (pileG b k) else pileG b k
noncomputable def midLostG (b : Gm) (k : Nat) : Gm := up (up (heapG b k) 8 (heapG b k 8 - 1)) 232 (heapG b k 232 + 1)
noncomputable def midDiscG (b : Gm) (k : Nat) : Gm := tokG (up (heapG b k) 233 (heapG b k 233 + 1))
noncomputable def midPlayG (a : Gm) (j : Nat) : Gm := if a (14 + kAt a (a 10) j / 5) = kAt a (a 10) j % 5 then midOkG (takeG (logA a) (a 10) j) (kAt a (a 10) j) else midLostG (takeG (logA a) (a 10) j) (kAt a (a 10) j)
noncomputable def playG (a : Gm) (j : Nat) : Gm := endG (drawG (midPlayG a j) (a 10))
noncomputable def discG (a : Gm) (j : Nat) : Gm := endG (drawG (midDiscG (takeG (logA a) (a 10) j) (kAt a (a 10) j)) (a 10))
def playL (a : Gm) (L : Nat → Int32) (j : Nat) : Nat → Int32 := logL L (a 13 % 30) (iN (a 10)) (if a (14 + kAt a (a 10) j / 5) = kAt a (a 10) j % 5 then 0 else 4) (iN (10 * (kAt a (a 10) j / 5) + kAt a (a 10) j % 5 + 1)) (-1)
def discL (a : Gm) (L : Nat → Int32) (j : Nat) : Nat → Int32 := logL L (a 13 % 30) (iN (a 10)) 1 (iN (10 * (kAt a (a 10) j / 5) + kAt a (a 10) j % 5 + 1)) (-1)
theorem pileG_fr {b : Gm} {k i : Nat} (h : i ≠ 231) (hk : i ≠ 14 + k / 5) : pileG b k i = b i := by
  unfold pileG
  rw [up_ne h, up_ne hk]
theorem pileG_k {b : Gm} {k : Nat} (hk : k < 20) : pileG b k (14 + k / 5) = b (14 + k / 5) + 1 := by
  unfold pileG
  rw [up_ne (by omega), up_eq]
theorem midOkG_fr {b : Gm} {k i : Nat} (h : i < 231) (h7 : i ≠ 7) : midOkG b k i = pileG b k i := by
  unfold midOkG
  split
  · exact tokG_fr h7 (by omega)
  · rfl
theorem pileN_up {b : Gm} {k m : Nat} (hk : k < 20) (hm : m < 20) {f : Gm} (hf : ∀ c, c < 4 → f (14 + c) = pileG b k (14 + c)) (ht : b (14 + k / 5) = k % 5) : pileN f m = pileN b m + (if m = k then 1 else 0) := by
  unfold pileN
  rw [hf _ (by omega)]
  by_cases c : m / 5 = k / 5
  · rw [c, pileG_k hk, ht]
    by_cases e : m = k
    · subst e
      rw [if_pos (by omega), if_neg (by omega), if_pos rfl]
    · rw [if_neg e]
      by_cases e2 : m % 5 < k % 5
      · rw [if_pos (by omega), if_pos e2]
      · rw [if_neg (by omega), if_neg e2]
  · rw [pileG_fr (by omega) (by omega), if_neg (show ¬ m = k from fun e => c (by rw [e]))]
    rfl
section TRN
variable {a : Gm} {j : Nat}
theorem logA_b (ho : okG a) (he : endOf a = 0) (hj : j < a (187 + a 10)) : a 10 < 4 ∧ a (191 + (5 * a 10 + j)) < a 5 ∧ kAt a (a 10) j < 20 ∧ kAt a (a 10) j / 5 < a 0 ∧ kAt a (a 10) j % 5 < a 1 := by
  have hw := ho.1
  have hr := run_b ho he
  have h2 := hw.2.2.1
  have hp : a 10 < 4 := by omega
  have hh := wfH hw hp hj
  have b4 := hw.2.2.2.2.1
  have b5 := hw.2.2.2.2.2.1
  have hk := okK ho (k := a (191 + (5 * a 10 + j))) (by omega)
  have := wfK hw (k := a (191 + (5 * a 10 + j))) (by omega)
  exact ⟨hp, hh, this, hk⟩
theorem size_b (ho : okG a) : ∀ q, q < 4 → logA a (187 + q) ≤ 5 := fun q hq => by rw [logA_ne (by omega)]; exact wfS ho.1 hq
theorem midOk_P (ho : okG a) (he : endOf a = 0) (hj : j < a (187 + a 10)) (ht : a (14 + kAt a (a 10) j / 5) = kAt a (a 10) j % 5) : MidP a (midOkG (takeG (logA a) (a 10) j) (kAt a (a 10) j)) (a 10) j := by
  obtain ⟨hp, hh, hk, hk0, hk1⟩ := logA_b ho he hj
  have hw := ho.1
  have hs := size_b ho
  obtain ⟨b0, b1, b2, b3, b4, b5, b6, b7, b8, b9, b11, b12, b13⟩ := wfB hw
  generalize hkd : kAt a (a 10) j = kd at *
  have tf : ∀ i, (i < 187 ∨ 211 ≤ i) → i ≠ 13 → takeG (logA a) (a 10) j i = a i := fun i hi h13 => by rw [takeG_fr hp (hs _ hp) hi, logA_ne h13]
  have mf : ∀ i, i < 231 → i ≠ 7 → i ≠ 14 + kd / 5 → midOkG (takeG (logA a) (a 10) j) kd i = takeG (logA a) (a 10) j i := fun i hi h7 hne => by rw [midOkG_fr hi h7, pileG_fr (by omega) hne]
  have sz : ∀ q, q < 4 → takeG (logA a) (a 10) j (187 + q) = if q = a 10 then a (187 + a 10) - 1 else a (187 + q) := fun q hq => by
    rw [takeG_size hp hq, logA_ne (by omega), logA_ne (by omega)]
  refine ⟨?_, ?_, ?_, ?_, ?_, ?_, ?_, ?_, ?_⟩
  · intro i hi
    rw [mf i (by omega) (by omega) (by omega), tf i (by omega) (by omega)]
  · have h1 : pileG (takeG (logA a) (a 10) j) kd 7 = a 7 := by rw [pileG_fr (by omega) (by omega), tf 7 (by omega) (by omega)]
    have h2 : pileG (takeG (logA a) (a 10) j) kd 6 = a 6 := by rw [pileG_fr (by omega) (by omega), tf 6 (by omega) (by omega)]
    unfold midOkG
    split
    · have := tokG_7 (a := pileG (takeG (logA a) (a 10) j) kd) (by omega)
      omega
    · omega
  · rw [mf 8 (by omega) (by omega) (by omega), tf 8 (by omega) (by omega)]; exact Nat.le_refl _
  · rw [mf 13 (by omega) (by omega) (by omega), takeG_fr hp (hs _ hp) (by omega)]
    unfold logA
    rw [up_eq]
  · intro q hq
    rw [mf _ (by omega) (by omega) (by omega), sz q hq]
  · intro q i hq hi
    rw [mf _ (by omega) (by omega) (by omega)] at hi
    have h1 := sz q hq
    have h2 := wfS hw hq
    have h3 := wfS hw hp
    have : i < 5 := by
      rw [h1] at hi
      split at hi <;> omega
    rw [mf _ (by omega) (by omega) (by omega), takeG_hand hp hq hs hi, logA_ne (by omega)]
  · have e : ∀ i, 231 ≤ i → i ≠ 231 → pileG (takeG (logA a) (a 10) j) kd i = a i := fun i hi h => by rw [pileG_fr h (by omega), tf i (by omega) (by omega)]
    have e1 : pileG (takeG (logA a) (a 10) j) kd 231 = a 231 + 1 := by
      unfold pileG
      rw [up_eq, tf 231 (by omega) (by omega)]
    have all : ∀ i, 231 ≤ i → pileG (takeG (logA a) (a 10) j) kd i ≤ a i + 1 := fun i hi => by
      by_cases c : i = 231
      · rw [c, e1]; exact Nat.le_refl _
      · rw [e i hi c]; omega
    intro k _
    unfold midOkG
    split
    · by_cases c : 231 + k = 235
      · have := tokG_235 (pileG (takeG (logA a) (a 10) j) kd)
        rw [e 235 (by omega) (by omega)] at this
        rw [c]; exact this
      · rw [tokG_fr (by omega) c]; exact all _ (by omega)
    · exact all _ (by omega)
  · intro m hm
    rw [mf _ (by omega) (by omega) (by omega), tf _ (by omega) (by omega)]
    have := pileN_up (b := takeG (logA a) (a 10) j) (k := kd) (m := m) hk hm (f := midOkG (takeG (logA a) (a 10) j) kd) (fun c hc => midOkG_fr (by omega) (by omega)) (by rw [tf _ (by omega) (by omega)]; exact ht)
    rw [this, hkd]
    have : pileN (takeG (logA a) (a 10) j) m = pileN a m := by
      unfold pileN
      rw [tf _ (by omega) (by omega)]
    rw [this]
    omega
  · intro c hc
    have h1 := okTop ho hc
    have h2 := wfP0 hw hc
    rw [midOkG_fr (by omega) (by omega)]
    by_cases e : c = kd / 5
    · rw [e, pileG_k hk, tf _ (by omega) (by omega), ht]
      exact ⟨by omega, fun q => by omega⟩
    · rw [pileG_fr (by omega) (by omega), tf _ (by omega) (by omega)]
      exact ⟨h1, h2⟩
theorem heapMid_P (ho : okG a) (he : endOf a = 0) (hj : j < a (187 + a 10)) {f : Gm} (hf : ∀ i, i ≠ 7 → i ≠ 8 → i < 231 → f i = heapG (takeG (logA a) (a 10) j) (kAt a (a 10) j) i) (h7 : f 7 ≤ a 6) (h8 : f 8 ≤ a 8) (ht : ∀ k, k < 7 → f (231 + k) ≤ a (231 + k) + 1) : MidP a f (a 10) j := by
  obtain ⟨hp, hh, hk, hk0, hk1⟩ := logA_b ho he hj
  have hw := ho.1
  have hs := size_b ho
  obtain ⟨b0, b1, b2, b3, b4, b5, b6, b7, b8, b9, b11, b12, b13⟩ := wfB hw
  generalize hkd : kAt a (a 10) j = kd at *
  have tf : ∀ i, (i < 187 ∨ 211 ≤ i) → i ≠ 13 → takeG (logA a) (a 10) j i = a i := fun i hi h13 => by rw [takeG_fr hp (hs _ hp) hi, logA_ne h13]
  have mf : ∀ i, i < 231 → i ≠ 7 → i ≠ 8 → i ≠ 211 + kd → f i = takeG (logA a) (a 10) j i := fun i hi h7 h8 hne => by rw [hf i h7 h8 hi, heapG_fr (by omega) hne]
  have sz : ∀ q, q < 4 → takeG (logA a) (a 10) j (187 + q) = if q = a 10 then a (187 + a 10) - 1 else a (187 + q) := fun q hq => by
    rw [takeG_size hp hq, logA_ne (by omega), logA_ne (by omega)]
  refine ⟨?_, h7, h8, ?_, ?_, ?_, ht, ?_, ?_⟩
  · intro i hi
    rw [mf i (by omega) (by omega) (by omega) (by omega), tf i (by omega) (by omega)]
  · rw [mf 13 (by omega) (by omega) (by omega) (by omega), takeG_fr hp (hs _ hp) (by omega)]
    unfold logA
    rw [up_eq]
  · intro q hq
    rw [mf _ (by omega) (by omega) (by omega) (by omega), sz q hq]
  · intro q i hq hi
    rw [mf _ (by omega) (by omega) (by omega) (by omega)] at hi
    have h1 := sz q hq
    have h2 := wfS hw hq
    have h3 := wfS hw hp
    have : i < 5 := by
      rw [h1] at hi
      split at hi <;> omega
    rw [mf _ (by omega) (by omega) (by omega) (by omega), takeG_hand hp hq hs hi, logA_ne (by omega)]
  · intro m hm
    have hpn : pileN f m = pileN a m := by
      unfold pileN
      rw [mf _ (by omega) (by omega) (by omega) (by omega), tf _ (by omega) (by omega)]
    rw [hpn, hkd]
    by_cases c : m = kd
    · rw [if_pos c, c, hf _ (by omega) (by omega) (by omega), heapG_k, tf _ (by omega) (by omega)]
      omega
    · rw [if_neg c, mf _ (by omega) (by omega) (by omega) (by omega), tf _ (by omega) (by omega)]
      rfl
  · intro c hc
    rw [mf _ (by omega) (by omega) (by omega) (by omega), tf _ (by omega) (by omega)]
    exact ⟨okTop ho hc, wfP0 hw hc⟩
theorem midLost_P (ho : okG a) (he : endOf a = 0) (hj : j < a (187 + a 10)) : MidP a (midLostG (takeG (logA a) (a 10) j) (kAt a (a 10) j)) (a 10) j := by
  obtain ⟨hp, hh, hk, hk0, hk1⟩ := logA_b ho he hj
  have hw := ho.1
  have hs := size_b ho
  obtain ⟨b0, b1, b2, b3, b4, b5, b6, b7, b8, b9, b11, b12, b13⟩ := wfB hw
  have tf : ∀ i, (i < 187 ∨ 211 ≤ i) → i ≠ 13 → takeG (logA a) (a 10) j i = a i := fun i hi h13 => by rw [takeG_fr hp (hs _ hp) hi, logA_ne h13]
  refine heapMid_P ho he hj (fun i _ h8 hi => ?_) ?_ ?_ ?_
  · unfold midLostG
    rw [up_ne (by omega), up_ne h8]
  · unfold midLostG
    rw [up_ne (by omega), up_ne (by omega), heapG_fr (by omega) (by omega), tf 7 (by omega) (by omega)]
    exact b7
  · unfold midLostG
    rw [up_ne (by omega), up_eq, heapG_fr (by omega) (by omega), tf 8 (by omega) (by omega)]
    omega
  · intro k hk7
    unfold midLostG
    by_cases c : 231 + k = 232
    · rw [c, up_eq, heapG_fr (by omega) (by omega), tf 232 (by omega) (by omega)]
      exact Nat.le_refl _
    · rw [up_ne c, up_ne (by omega)]
      by_cases c2 : 231 + k = 237
      · rw [c2]
        have := heapG_237 (a := takeG (logA a) (a 10) j) hk
        rw [tf 237 (by omega) (by omega)] at this
        exact this
      · rw [heapG_fr c2 (by omega), tf _ (by omega) (by omega)]; omega
theorem midDisc_P (ho : okG a) (he : endOf a = 0) (hj : j < a (187 + a 10)) : MidP a (midDiscG (takeG (logA a) (a 10) j) (kAt a (a 10) j)) (a 10) j := by
  obtain ⟨hp, hh, hk, hk0, hk1⟩ := logA_b ho he hj
  have hw := ho.1
  have hs := size_b ho
  obtain ⟨b0, b1, b2, b3, b4, b5, b6, b7, b8, b9, b11, b12, b13⟩ := wfB hw
  have tf : ∀ i, (i < 187 ∨ 211 ≤ i) → i ≠ 13 → takeG (logA a) (a 10) j i = a i := fun i hi h13 => by rw [takeG_fr hp (hs _ hp) hi, logA_ne h13]
  refine heapMid_P ho he hj (fun i h7 _ hi => ?_) ?_ ?_ ?_
  · unfold midDiscG
    rw [tokG_fr h7 (by omega), up_ne (by omega)]
  · have e7 : up (heapG (takeG (logA a) (a 10) j) (kAt a (a 10) j)) 233 (heapG (takeG (logA a) (a 10) j) (kAt a (a 10) j) 233 + 1) 7 = a 7 := by
      rw [up_ne (by omega), heapG_fr (by omega) (by omega), tf 7 (by omega) (by omega)]
    have e6 : up (heapG (takeG (logA a) (a 10) j) (kAt a (a 10) j)) 233 (heapG (takeG (logA a) (a 10) j) (kAt a (a 10) j) 233 + 1) 6 = a 6 := by
      rw [up_ne (by omega), heapG_fr (by omega) (by omega), tf 6 (by omega) (by omega)]
    have := tokG_7 (a := up (heapG (takeG (logA a) (a 10) j) (kAt a (a 10) j)) 233 (heapG (takeG (logA a) (a 10) j) (kAt a (a 10) j) 233 + 1)) (by omega)
    unfold midDiscG
    omega
  · unfold midDiscG
    rw [tokG_fr (by omega) (by omega), up_ne (by omega), heapG_fr (by omega) (by omega), tf 8 (by omega) (by omega)]
    exact Nat.le_refl _
  · intro k hk7
    unfold midDiscG
    by_cases c : 231 + k = 235
    · have := tokG_235 (up (heapG (takeG (logA a) (a 10) j) (kAt a (a 10) j)) 233 (heapG (takeG (logA a) (a 10) j) (kAt a (a 10) j) 233 + 1))
      have e : up (heapG (takeG (logA a) (a 10) j) (kAt a (a 10) j)) 233 (heapG (takeG (logA a) (a 10) j) (kAt a (a 10) j) 233 + 1) 235 = a 235 := by
        rw [up_ne (by omega), heapG_fr (by omega) (by omega), tf 235 (by omega) (by omega)]
      rw [e] at this
      rw [c]; exact this
    · rw [tokG_fr (by omega) c]
      by_cases c3 : 231 + k = 233
      · rw [c3, up_eq, heapG_fr (by omega) (by omega), tf 233 (by omega) (by omega)]
        exact Nat.le_refl _
      · rw [up_ne c3]
        by_cases c2 : 231 + k = 237
        · rw [c2]
          have := heapG_237 (a := takeG (logA a) (a 10) j) hk
          rw [tf 237 (by omega) (by omega)] at this
          exact this
        · rw [heapG_fr c2 (by omega), tf _ (by omega) (by omega)]; omega
theorem midPlay_P (ho : okG a) (he : endOf a = 0) (hj : j < a (187 + a 10)) : MidP a (midPlayG a j) (a 10) j := by
  unfold midPlayG
  split
  · rename_i h
    exact midOk_P ho he hj h
  · exact midLost_P ho he hj
theorem play_ok (ho : okG a) (he : endOf a = 0) (hj : j < a (187 + a 10)) : okG (playG a j) := end_ok (mid_ok ho he rfl hj (midPlay_P ho he hj))
theorem disc_ok (ho : okG a) (he : endOf a = 0) (hj : j < a (187 + a 10)) : okG (discG a j) := end_ok (mid_ok ho he rfl hj (midDisc_P ho he hj))
/-- within a turn the piles and the heap are well -/
theorem take_okW (ho : okG a) (he : endOf a = 0) (hj : j < a (187 + a 10)) : okW (takeG (logA a) (a 10) j) := by
  obtain ⟨hp, hh, hk, hk0, hk1⟩ := logA_b ho he hj
  have hw := ho.1
  have hs := size_b ho
  obtain ⟨b0, b1, b2, b3, b4, b5, b6, b7, b8, b9, b11, b12, b13⟩ := wfB hw
  obtain ⟨rr, r8, r9, r10, rpot, r13⟩ := run_b ho he
  have tf : ∀ i, (i < 187 ∨ 211 ≤ i) → i ≠ 13 → takeG (logA a) (a 10) j i = a i := fun i hi h13 => by rw [takeG_fr hp (hs _ hp) hi, logA_ne h13]
  have t13 : takeG (logA a) (a 10) j 13 = a 13 + 1 := by
    rw [takeG_fr hp (hs _ hp) (by omega)]
    unfold logA
    rw [up_eq]
  have sz : ∀ q, q < 4 → takeG (logA a) (a 10) j (187 + q) = if q = a 10 then a (187 + a 10) - 1 else a (187 + q) := fun q hq => by
    rw [takeG_size hp hq, logA_ne (by omega), logA_ne (by omega)]
  have iD : ∀ k m, inDk (takeG (logA a) (a 10) j) k m = inDk a k m := by
    intro k m
    unfold inDk
    rw [tf 4 (by omega) (by omega)]
    refine sumN_congr fun i hi => ?_
    rw [tf (27 + i) (by omega) (by omega)]
  obtain ⟨w0, w1, w2, w3, w4, w5, w6, w7, w8, w9, w10, w11, w12, w13, w14, w15, w16, w17, w18, w19, w20, w21, w22⟩ := hw
  refine ⟨⟨?_, ?_, ?_, ?_, ?_, ?_, ?_, ?_, ?_, ?_, ?_, ?_, ?_, ?_, ?_, ?_, ?_, ?_, ?_, ?_, ?_, ?_, ?_⟩, ?_, ?_, ?_⟩
  · rw [tf _ (by omega) (by omega)]; exact w0
  · rw [tf _ (by omega) (by omega)]; exact w1
  · rw [tf _ (by omega) (by omega)]; exact w2
  · rw [tf _ (by omega) (by omega)]; exact w3
  · rw [tf _ (by omega) (by omega)]; exact w4
  · rw [tf _ (by omega) (by omega), tf _ (by omega) (by omega)]; exact w5
  · rw [tf _ (by omega) (by omega)]; exact w6
  · rw [tf _ (by omega) (by omega), tf _ (by omega) (by omega)]; exact w7
  · rw [tf _ (by omega) (by omega)]; exact w8
  · rw [tf _ (by omega) (by omega)]; exact w9
  · rw [tf 2 (by omega) (by omega), tf 10 (by omega) (by omega)]; exact w10
  · rw [tf _ (by omega) (by omega)]; exact w11
  · rw [tf _ (by omega) (by omega)]; exact w12
  · rw [t13]; omega
  · intro c hc; rw [tf _ (by omega) (by omega), tf 0 (by omega) (by omega)]; exact w14 c hc
  · intro c hc; rw [tf _ (by omega) (by omega)]; exact w15 c hc
  · intro c hc; rw [tf _ (by omega) (by omega)]; exact w16 c hc
  · intro c hc; rw [tf _ (by omega) (by omega), tf _ (by omega) (by omega)]; exact w17 c hc
  · intro c hc; rw [tf _ (by omega) (by omega)]; exact w18 c hc
  · intro q hq
    have h1 := w19 q hq
    rw [sz q hq, tf 2 (by omega) (by omega)]
    by_cases c : q = a 10
    · rw [if_pos c]
      rw [c] at h1
      exact ⟨by omega, fun q => by omega⟩
    · rw [if_neg c]; exact h1
  · intro q i hq hi
    rw [takeG_hand hp hq hs hi, tf 5 (by omega) (by omega)]
    rw [sz q hq] at hi
    have h1 := (w19 q hq).1
    have h2 := (w19 _ hp).1
    by_cases c : q = a 10
    · rw [if_pos c] at hi
      subst c
      rw [logA_ne (by split <;> omega)]
      exact w20 _ _ hp (by split <;> omega)
    · rw [if_neg c] at hi
      rw [if_neg (fun q => c q.1), logA_ne (by omega)]
      exact w20 _ _ hq hi
  · intro c hc; rw [tf _ (by omega) (by omega)]; exact w21 c hc
  · intro c hc; rw [tf _ (by omega) (by omega)]; exact w22 c hc
  · intro c hc; rw [tf _ (by omega) (by omega), tf _ (by omega) (by omega)]; exact okTop ho hc
  · intro k hk
    rw [tf 4 (by omega) (by omega)] at hk
    rw [tf _ (by omega) (by omega), tf 0 (by omega) (by omega), tf 1 (by omega) (by omega)]; exact okK ho hk
  · intro k hk
    rw [iD, tf _ (by omega) (by omega)]; exact okHeap ho hk
end TRN
