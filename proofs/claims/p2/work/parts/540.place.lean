/-! OWN: the pure half: players, places, cards -/
def badX (p : Int32) (n : Nat) : Prop := p < 0 ∨ ∃ m, m < 2 ^ 31 ∧ p = iN m ∧ n ≤ m
theorem idx2 (p : Int32) (n : Nat) : badX p n ∨ ∃ m, m < 2 ^ 31 ∧ m < n ∧ p = iN m := by
  rcases idx3 p n with h | h | h
  · exact Or.inl (Or.inl h)
  · exact Or.inl (Or.inr h)
  · exact Or.inr h
def badP (a : Gm) (p q : Int32) : Prop := badX p (a 2) ∨ ∃ i, i < a 2 ∧ p = iN i ∧ badX q (a (187 + i))
theorem place2 (a : Gm) (p q : Int32) : badP a p q ∨ ∃ i j, i < a 2 ∧ j < a (187 + i) ∧ p = iN i ∧ q = iN j := by
  rcases idx2 p (a 2) with h | ⟨i, -, hi, rfl⟩
  · exact Or.inl (Or.inl h)
  · rcases idx2 q (a (187 + i)) with h | ⟨j, -, hj, rfl⟩
    · exact Or.inl (Or.inr ⟨i, hi, rfl, h⟩)
    · exact Or.inr ⟨i, j, hi, hj, rfl, rfl⟩
theorem badX_ge {p : Int32} {n k : Nat} (h : badX p n) (hk : k < 2 ^ 31) (hn : n ≤ k) : p < 0 ∨ ¬ p < iN n := by
  rcases h with h | ⟨m, hm, rfl, hc⟩
  · exact Or.inl h
  · exact Or.inr (iN_lt_lit hm (by omega) hc)
section PLC
variable {a : Gm} {L : Nat → Int32} {sG ru sX sM : Ob}
theorem np_no (hw : wfG a) (hu : encRu a ru) {p : Int32} (h : badX p (a 2)) : f_X7_needPlayer NN sX sG ru p = none ∧ ft_X7_needPlayer NN sX sG ru p = some 1 := by
  have h2 := hw.2.2.1
  unfold f_X7_needPlayer ft_X7_needPlayer f_X7_needPlayer_18 ft_X7_needPlayer_18
  rw [hu.2.2.1]
  rcases h with h | ⟨m, hm, rfl, hc⟩
  · rw [if_pos h, if_pos h]; exact ⟨rfl, rfl⟩
  · rw [if_neg (iN_not_neg m hm), if_neg (iN_not_neg m hm), if_neg (iN_lt_lit hm (by omega) hc), if_neg (iN_lt_lit hm (by omega) hc)]; exact ⟨rfl, rfl⟩
theorem np_yes (hw : wfG a) (hu : encRu a ru) {i : Nat} (h : i < a 2) : f_X7_needPlayer NN sX sG ru (iN i) = some () := by
  have h2 := hw.2.2.1
  unfold f_X7_needPlayer
  rw [hu.2.2.1, if_neg (iN_not_neg i (by omega)), if_pos ((iN_lt (by omega) (by omega)).mpr h)]
theorem so_eq (hG : encG a L sG) {i : Nat} (h : i < 4) : f_X1_sizeOf NN sG (iN i) = some (iN (a (187 + i))) := by
  unfold f_X1_sizeOf
  rw [if_neg (iN_not_neg i (by omega)), if_neg (show ¬ (4 : Int32) ≤ iN i from fun q => absurd ((iN_le (a := 4) (by omega) (by omega)).mp q) (by omega)), chk_t (iN_inb h (by omega)), iN_clamp (by omega), hG.2.2.2.2.2.2.2.2.2.1 i h]
theorem ca_no (hw : wfG a) (hG : encG a L sG) {i : Nat} (h : i < 4) {q : Int32} (hq : badX q (a (187 + i))) : f_X1_cardAt NN sG (iN i) q = some (-1) := by
  have hs := (hw.2.2.2.2.2.2.2.2.2.2.2.2.2.2.2.2.2.2.2.1 i h).1
  unfold f_X1_cardAt
  rw [if_neg (iN_not_neg i (by omega)), if_neg (show ¬ (4 : Int32) ≤ iN i from fun q => absurd ((iN_le (a := 4) (by omega) (by omega)).mp q) (by omega)), chk_t (iN_inb h (by omega)), iN_clamp (by omega), hG.2.2.2.2.2.2.2.2.2.1 i h]
  rcases hq with hq | ⟨m, hm, rfl, hc⟩
  · rw [if_pos hq]
  · rw [if_neg (iN_not_neg m hm), if_neg (iN_lt_lit hm (by omega) hc)]
theorem ca_yes (hw : wfG a) (hG : encG a L sG) {i j : Nat} (h : i < 4) (hj : j < a (187 + i)) : f_X1_cardAt NN sG (iN i) (iN j) = some (iN (a (191 + (5 * i + j)))) := by
  have hs := (hw.2.2.2.2.2.2.2.2.2.2.2.2.2.2.2.2.2.2.2.1 i h).1
  unfold f_X1_cardAt
  have e : iN i * 5 + iN j = iN (5 * i + j) := by
    rw [show iN i * 5 = iN (i * 5) from (Int32.ofNat_mul i 5).symm, iN_add, Nat.mul_comm]
  rw [if_neg (iN_not_neg i (by omega)), if_neg (show ¬ (4 : Int32) ≤ iN i from fun q => absurd ((iN_le (a := 4) (by omega) (by omega)).mp q) (by omega)), chk_t (iN_inb h (by omega)), iN_clamp (by omega), hG.2.2.2.2.2.2.2.2.2.1 i h,
    if_neg (iN_not_neg j (by omega)), if_pos ((iN_lt (by omega) (by omega)).mpr hj), e, if_neg (show ¬ (20 : Int32) ≤ iN (5 * i + j) from fun q => absurd ((iN_le (a := 20) (by omega) (by omega)).mp q) (by omega)), chk_t (iN_inb (by omega) (by omega)), iN_clamp (by omega), hG.2.2.2.2.2.2.2.2.1 i j h hj]
theorem iN_ne_m1 {k : Nat} (h : k < 2 ^ 31) : ¬ iN k = -1 := fun q => by
  have := congrArg Int32.toInt q
  rw [iN_toInt h] at this
  have e : (-1 : Int32).toInt = -1 := by decide
  omega
theorem nc_no (hw : wfG a) (hG : encG a L sG) (hu : encRu a ru) {p q : Int32} (h : badP a p q) : f_X7_needCard NN sX sG ru p q = none ∧ ft_X7_needCard NN sX sG ru p q = some 1 := by
  have h2 := hw.2.2.1
  unfold f_X7_needCard ft_X7_needCard
  rcases h with h | ⟨i, hi, rfl, h⟩
  · obtain ⟨e1, e2⟩ := np_no (sX := sX) (sG := sG) hw hu h
    rw [e1, e2]; exact ⟨rfl, rfl⟩
  · rw [np_yes hw hu hi, ca_no hw hG (by omega) h]
    exact ⟨rfl, rfl⟩
theorem nc_yes (hw : wfG a) (hG : encG a L sG) (hu : encRu a ru) {i j : Nat} (hi : i < a 2) (hj : j < a (187 + i)) : f_X7_needCard NN sX sG ru (iN i) (iN j) = some (iN (a (191 + (5 * i + j)))) := by
  have h2 := hw.2.2.1
  have h5 := hw.2.2.2.2.2.1
  have h4 := hw.2.2.2.2.1
  have hc := hw.2.2.2.2.2.2.2.2.2.2.2.2.2.2.2.2.2.2.2.2.1 i j (by omega) hj
  unfold f_X7_needCard
  rw [np_yes hw hu hi, ob_some, ca_yes hw hG (by omega) hj, ob_some, if_neg (iN_ne_m1 (by omega))]
theorem ip_no (hw : wfG a) (hr : encR a L (sM.2.2.1 0)) {p : Int32} (h : badX p (a 2)) : f_X8_isPlayer NN sM p = some 0 := by
  have h2 := hw.2.2.1
  unfold f_X8_isPlayer
  rw [hr.1 2 (by omega) (by omega), X8_in_no (by omega) h]
  rfl
theorem ip_yes (hw : wfG a) (hr : encR a L (sM.2.2.1 0)) {i : Nat} (h : i < a 2) : f_X8_isPlayer NN sM (iN i) = some 1 := by
  have h2 := hw.2.2.1
  unfold f_X8_isPlayer
  rw [hr.1 2 (by omega) (by omega), X8_in_yes (by omega) h]
  rfl
theorem il_no (hw : wfG a) (hr : encR a L (sM.2.2.1 0)) {p q : Int32} (h : badP a p q) : f_X8_isPlace NN sM p q = some 0 := by
  have h2 := hw.2.2.1
  unfold f_X8_isPlace
  rcases h with h | ⟨i, hi, rfl, h⟩
  · rw [ip_no hw hr h]; rfl
  · have hs := (hw.2.2.2.2.2.2.2.2.2.2.2.2.2.2.2.2.2.2.2.1 i (by omega)).1
    rw [ip_yes hw hr hi, ob_some, if_neg (show ¬ (1 : Int32) = 0 by decide), show ((187 : Int32) + iN i) = iN (187 + i) from iN_add 187 i, chk_t (iN_inb (by omega) (by omega)), iN_clamp (by omega), hr.1 (187 + i) (by omega) (by omega), X8_in_no (by omega) h]
    rfl
theorem il_yes (hw : wfG a) (hr : encR a L (sM.2.2.1 0)) {i j : Nat} (hi : i < a 2) (hj : j < a (187 + i)) : f_X8_isPlace NN sM (iN i) (iN j) = some 1 := by
  have h2 := hw.2.2.1
  have hs := (hw.2.2.2.2.2.2.2.2.2.2.2.2.2.2.2.2.2.2.2.1 i (by omega)).1
  unfold f_X8_isPlace
  rw [ip_yes hw hr hi, ob_some, if_neg (show ¬ (1 : Int32) = 0 by decide), show ((187 : Int32) + iN i) = iN (187 + i) from iN_add 187 i, chk_t (iN_inb (by omega) (by omega)), iN_clamp (by omega), hr.1 (187 + i) (by omega) (by omega), X8_in_yes (by omega) hj]
  rfl
theorem he_eq (hw : wfG a) (hr : encR a L (sM.2.2.1 0)) {i j : Nat} (hi : i < 4) (hj : j < a (187 + i)) : f_X8_held NN sM (iN i) (iN j) = some (iN (a (191 + (5 * i + j)))) := by
  have hs := (hw.2.2.2.2.2.2.2.2.2.2.2.2.2.2.2.2.2.2.2.1 i hi).1
  have e : (191 : Int32) + 5 * iN i + iN j = iN (191 + (5 * i + j)) := by
    rw [show (5 : Int32) * iN i = iN (5 * i) from (Int32.ofNat_mul 5 i).symm, show (191 : Int32) + iN (5 * i) = iN (191 + 5 * i) from iN_add 191 (5 * i), iN_add, Nat.add_assoc]
  unfold f_X8_held
  rw [e, chk_t (iN_inb (by omega) (by omega)), iN_clamp (by omega), hr.1 (191 + (5 * i + j)) (by omega) (by omega)]
  rfl
theorem ko_eq (hu : encRu a ru) {c : Nat} (h : c < 40) : f_X1_kindOf NN sG ru (iN c) = some (iN (a (27 + c))) := by
  unfold f_X1_kindOf
  rw [if_neg (iN_not_neg c (by omega)), if_neg (show ¬ (40 : Int32) ≤ iN c from fun q => absurd ((iN_le (a := 40) (by omega) (by omega)).mp q) (by omega)), chk_t (iN_inb h (by omega)), iN_clamp (by omega), hu.2.2.2.2.2.2.1 c h]
end PLC
theorem code20 : ∀ k : Fin 20, f_X7_codeOf NN (iN k.val) = some (iN (10 * (k.val / 5) + k.val % 5 + 1)) ∧ f_X8_told NN (iN k.val) = some (iN (10 * (k.val / 5) + k.val % 5 + 1)) := by decide
theorem co_eq {k : Nat} (h : k < 20) : f_X7_codeOf NN (iN k) = some (iN (10 * (k / 5) + k % 5 + 1)) := (code20 ⟨k, h⟩).1
theorem to_eq {k : Nat} (h : k < 20) : f_X8_told NN (iN k) = some (iN (10 * (k / 5) + k % 5 + 1)) := (code20 ⟨k, h⟩).2
