/-! OWN: the pure half: how many cards of a kind, the rank that a pile can come to -/
theorem sumN_cut {f : Nat → Nat} {m : Nat} : ∀ {n : Nat}, m ≤ n → (∀ k, m ≤ k → k < n → f k = 0) → sumN f n = sumN f m := by
  intro n
  induction n with
  | zero => intro h _; rw [show m = 0 by omega]
  | succ n ih =>
    intro h hz
    by_cases e : m = n + 1
    · rw [e]
    · show sumN f n + f n = _
      rw [ih (by omega) (fun k h1 h2 => hz k h1 (by omega)), hz n (by omega) (by omega)]
      rfl
theorem inDk_le {a : Gm} (h4 : a 4 ≤ 40) (kind m : Nat) : inDk a kind m ≤ 40 := by
  have := sumN_le (f := fun k => if m ≤ k ∧ a (27 + k) = kind then 1 else 0) (c := 1) (n := a 4) (fun k _ => by split <;> omega)
  unfold inDk
  omega
theorem inH_le {a : Gm} (kind p : Nat) : inH a kind p ≤ a (187 + p) := by
  have := sumN_le (f := fun j => if a (27 + a (191 + (5 * p + j))) = kind then 1 else 0) (c := 1) (n := a (187 + p)) (fun k _ => by split <;> omega)
  unfold inH
  omega
theorem heldN_le {a : Gm} (hw : wfG a) (kind but : Nat) : heldN a kind but ≤ 20 := by
  have := sumN_le (f := fun p => if p = but then 0 else inH a kind p) (c := 5) (n := 4) (fun p hp => by
    have := inH_le (a := a) kind p
    have := wfS hw hp
    show (if p = but then 0 else inH a kind p) ≤ 5
    split <;> omega)
  unfold heldN
  omega
theorem nnb {b k : Nat} (h : b < 100000) : b < k + NN := by show b < k + 100000; omega
section CNT
variable {a : Gm} {L : Nat → Int32} {sG ru sM : Ob}
theorem X8_inDeck_eq (hw : wfG a) (hr : encR a L (sM.2.2.1 0)) {kind m : Nat} (hk : kind < 20) (hm : m ≤ a 4) : f_X8_inDeck NN sM (iN kind) (iN m) = some (iN (inDk a kind m)) := by
  obtain ⟨b0, b1, b2, b3, b4, b5, b6, b7, b8, b9, b11, b12, b13⟩ := wfB hw
  have hs : ∀ n, sumN (fun k => if m ≤ k ∧ a (27 + k) = kind then 1 else 0) n ≤ 1 * n := fun n => sumN_le fun k _ => by split <;> omega
  unfold f_X8_inDeck f_X8_inDeck_5
  have e0 : (0 : Int32) = iN (sumN (fun k => if m ≤ k ∧ a (27 + k) = kind then 1 else 0) (m + 0)) := by
    rw [sumN_zero (fun k hk => if_neg (by omega))]; rfl
  rw [e0]
  refine loop2 (fun j => iN (sumN (fun k => if m ≤ k ∧ a (27 + k) = kind then 1 else 0) (m + j))) (fun j => iN (m + j)) (a 4 - m) ?_ ?_ NN 0 (by omega) (nnb (by omega))
  · intro j hj self
    have hs1 := hs (m + j)
    have hkk := wfK hw (k := m + j) (by omega)
    unfold F_X8_inDeck_5
    rw [hr.1 4 (by omega) (by omega), if_neg (fun q => absurd ((iN_le (by omega) (by omega)).mp q) (by omega))]
    have e1 : sumN (fun k => if m ≤ k ∧ a (27 + k) = kind then 1 else 0) (m + (j + 1)) = sumN (fun k => if m ≤ k ∧ a (27 + k) = kind then 1 else 0) (m + j) + (if a (27 + (m + j)) = kind then 1 else 0) := by
      show sumN _ (m + j) + _ = _
      congr 1
      simp
    rw [e1]
    by_cases c : a (27 + (m + j)) = kind
    · simp (disch := omega) only [↓Lm1, si_si, ob_some, znm_eq, th_some, th_none, tb_some, tb_none, chk_iN, chk_true, clamp_iN, iN_add, iN_mul, iN_sub, iN_div, iN_lt_t, iN_lt_f, iN_le_t, iN_le_f, iN_eq_t, iN_eq_f, iN_m1, m1_iN, iN_zisB, if_true, if_false, ↓reduceIte, Nat.reduceEqDiff, Nat.reduceAdd, Nat.reduceMul, Nat.reduceSub, reduceCtorEq, si_1, si_2, sa_1, sa_2, sa_3, sl_1, sl_3, isT_0, isT_1, Lt0, Lt1, Lt2, Lt3, Lt4, Lt5, Lt6, Lt7, Lt8, Lt9, Lt10, Lt12, Lt14, Lt18, Lt19, Lt20, Lt22, Lt27, Lt30, Lt31, Lt40, Lt67, Lt99, Lt100, Lt107, Lt147, Lt187, Lt191, Lt211, Lt231, Lt235, Lt237, Lt238, Lt300, Lt358, Lt600, hr.1, if_pos c, Nat.add_assoc]
    · simp (disch := omega) only [↓Lm1, si_si, ob_some, znm_eq, th_some, th_none, tb_some, tb_none, chk_iN, chk_true, clamp_iN, iN_add, iN_mul, iN_sub, iN_div, iN_lt_t, iN_lt_f, iN_le_t, iN_le_f, iN_eq_t, iN_eq_f, iN_m1, m1_iN, iN_zisB, if_true, if_false, ↓reduceIte, Nat.reduceEqDiff, Nat.reduceAdd, Nat.reduceMul, Nat.reduceSub, reduceCtorEq, si_1, si_2, sa_1, sa_2, sa_3, sl_1, sl_3, isT_0, isT_1, Lt0, Lt1, Lt2, Lt3, Lt4, Lt5, Lt6, Lt7, Lt8, Lt9, Lt10, Lt12, Lt14, Lt18, Lt19, Lt20, Lt22, Lt27, Lt30, Lt31, Lt40, Lt67, Lt99, Lt100, Lt107, Lt147, Lt187, Lt191, Lt211, Lt231, Lt235, Lt237, Lt238, Lt300, Lt358, Lt600, hr.1, if_neg c, Nat.add_assoc, Nat.add_zero]
  · intro self
    unfold F_X8_inDeck_5
    rw [hr.1 4 (by omega) (by omega)]
    show (if iN (a 4) ≤ iN (m + (a 4 - m)) then some (iN (sumN _ (m + (a 4 - m)))) else _) = _
    rw [show m + (a 4 - m) = a 4 by omega, if_pos ((iN_le (by omega) (by omega)).mpr (Nat.le_refl _))]
    rfl
theorem X1_toBeDrawn_eq (hw : wfG a) (hG : encG a L sG) (hu : encRu a ru) {kind : Nat} (hk : kind < 20) : f_X1_toBeDrawn NN sG ru (iN kind) = some (iN (inDk a kind (a 5))) := by
  obtain ⟨b0, b1, b2, b3, b4, b5, b6, b7, b8, b9, b11, b12, b13⟩ := wfB hw
  have hs : ∀ n, sumN (fun k => if a 5 ≤ k ∧ a (27 + k) = kind then 1 else 0) n ≤ 1 * n := fun n => sumN_le fun k _ => by split <;> omega
  have u7 := hu.2.2.2.2.2.1
  unfold f_X1_toBeDrawn f_X1_toBeDrawn_7
  have e0 : (0 : Int32) = iN (sumN (fun k => if a 5 ≤ k ∧ a (27 + k) = kind then 1 else 0) (a 5 + 0)) := by
    rw [sumN_zero (fun k hk => if_neg (by omega))]; rfl
  rw [e0, hG.1]
  refine loop2 (fun j => iN (sumN (fun k => if a 5 ≤ k ∧ a (27 + k) = kind then 1 else 0) (a 5 + j))) (fun j => iN (a 5 + j)) (a 4 - a 5) ?_ ?_ NN 0 (by omega) (nnb (by omega))
  · intro j hj self
    have hs1 := hs (a 5 + j)
    have hkk := wfK hw (k := a 5 + j) (by omega)
    unfold F_X1_toBeDrawn_7
    rw [u7, if_neg (fun q => absurd ((iN_le (by omega) (by omega)).mp q) (by omega)), ko_eq hu (by omega), ob_some]
    have e1 : sumN (fun k => if a 5 ≤ k ∧ a (27 + k) = kind then 1 else 0) (a 5 + (j + 1)) = sumN (fun k => if a 5 ≤ k ∧ a (27 + k) = kind then 1 else 0) (a 5 + j) + (if a (27 + (a 5 + j)) = kind then 1 else 0) := by
      show sumN _ (a 5 + j) + _ = _
      congr 1
      simp
    rw [e1]
    by_cases c : a (27 + (a 5 + j)) = kind
    · simp (disch := omega) only [↓Lm1, si_si, ob_some, znm_eq, th_some, th_none, tb_some, tb_none, chk_iN, chk_true, clamp_iN, iN_add, iN_mul, iN_sub, iN_div, iN_lt_t, iN_lt_f, iN_le_t, iN_le_f, iN_eq_t, iN_eq_f, iN_m1, m1_iN, iN_zisB, if_true, if_false, ↓reduceIte, Nat.reduceEqDiff, Nat.reduceAdd, Nat.reduceMul, Nat.reduceSub, reduceCtorEq, si_1, si_2, sa_1, sa_2, sa_3, sl_1, sl_3, isT_0, isT_1, Lt0, Lt1, Lt2, Lt3, Lt4, Lt5, Lt6, Lt7, Lt8, Lt9, Lt10, Lt12, Lt14, Lt18, Lt19, Lt20, Lt22, Lt27, Lt30, Lt31, Lt40, Lt67, Lt99, Lt100, Lt107, Lt147, Lt187, Lt191, Lt211, Lt231, Lt235, Lt237, Lt238, Lt300, Lt358, Lt600, if_pos c, Nat.add_assoc]
    · simp (disch := omega) only [↓Lm1, si_si, ob_some, znm_eq, th_some, th_none, tb_some, tb_none, chk_iN, chk_true, clamp_iN, iN_add, iN_mul, iN_sub, iN_div, iN_lt_t, iN_lt_f, iN_le_t, iN_le_f, iN_eq_t, iN_eq_f, iN_m1, m1_iN, iN_zisB, if_true, if_false, ↓reduceIte, Nat.reduceEqDiff, Nat.reduceAdd, Nat.reduceMul, Nat.reduceSub, reduceCtorEq, si_1, si_2, sa_1, sa_2, sa_3, sl_1, sl_3, isT_0, isT_1, Lt0, Lt1, Lt2, Lt3, Lt4, Lt5, Lt6, Lt7, Lt8, Lt9, Lt10, Lt12, Lt14, Lt18, Lt19, Lt20, Lt22, Lt27, Lt30, Lt31, Lt40, Lt67, Lt99, Lt100, Lt107, Lt147, Lt187, Lt191, Lt211, Lt231, Lt235, Lt237, Lt238, Lt300, Lt358, Lt600, if_neg c, Nat.add_assoc, Nat.add_zero]
  · intro self
    unfold F_X1_toBeDrawn_7
    rw [u7]
    show (if iN (a 4) ≤ iN (a 5 + (a 4 - a 5)) then some (iN (sumN _ (a 5 + (a 4 - a 5)))) else _) = _
    rw [show a 5 + (a 4 - a 5) = a 4 by omega, if_pos ((iN_le (by omega) (by omega)).mpr (Nat.le_refl _))]
    rfl
theorem X8_inHands_eq (hw : wfG a) (hr : encR a L (sM.2.2.1 0)) {kind but : Nat} {pb : Int32} (hk : kind < 20) (hb : ∀ p, p < 4 → (iN p = pb ↔ p = but)) : f_X8_inHands NN sM (iN kind) pb = some (iN (heldN a kind but)) := by
  obtain ⟨b0, b1, b2, b3, b4, b5, b6, b7, b8, b9, b11, b12, b13⟩ := wfB hw
  have hs : ∀ n, n ≤ 4 → sumN (fun p => if p = but then 0 else inH a kind p) n ≤ 5 * n := fun n hn => sumN_le fun p hp => by
    have := inH_le (a := a) kind p
    have := wfS hw (p := p) (by omega)
    show (if p = but then 0 else inH a kind p) ≤ 5
    split <;> omega
  unfold f_X8_inHands f_X8_inHands_5
  refine loop2 (fun p => iN (sumN (fun p => if p = but then 0 else inH a kind p) p)) (fun p => iN p) (a 2) ?_ ?_ NN 0 (by omega) (nnb (by omega))
  · intro p hp self
    have hs1 := hs p (by omega)
    have hsz := wfS hw (p := p) (by omega)
    unfold F_X8_inHands_5
    rw [hr.1 2 (by omega) (by omega), if_neg (fun q => absurd ((iN_le (by omega) (by omega)).mp q) (by omega))]
    unfold f_X8_inHands_19
    have hs2 : ∀ n, sumN (fun j => if a (27 + a (191 + (5 * p + j))) = kind then 1 else 0) n ≤ 1 * n := fun n => sumN_le fun k _ => by split <;> omega
    have go := loop3 (z := fun _ _ _ => none) (F := F_X8_inHands_19 NN sM (iN kind) pb self) (fun j => iN (sumN (fun p => if p = but then 0 else inH a kind p) p + (if p = but then 0 else sumN (fun j => if a (27 + a (191 + (5 * p + j))) = kind then 1 else 0) j))) (fun _ => iN p) (fun j => iN j) (a (187 + p)) (res := self (iN (sumN (fun p => if p = but then 0 else inH a kind p) (p + 1))) (iN (p + 1))) ?_ ?_ NN 0 (by omega) (nnb (by omega))
    · have ez : sumN (fun p => if p = but then 0 else inH a kind p) p + (if p = but then 0 else sumN (fun j => if a (27 + a (191 + (5 * p + j))) = kind then 1 else 0) 0) = sumN (fun p => if p = but then 0 else inH a kind p) p := by
        split <;> rfl
      rw [ez] at go
      exact go
    · intro j hj self2
      have hc := wfH hw (by omega) hj
      have hkk := wfK hw (k := a (191 + (5 * p + j))) (by omega)
      have hs3 := hs2 j
      unfold F_X8_inHands_19
      by_cases e : p = but
      · rw [if_pos e, if_pos e]
        simp (disch := omega) only [↓Lm1, si_si, ob_some, znm_eq, th_some, th_none, tb_some, tb_none, chk_iN, chk_true, clamp_iN, iN_add, iN_mul, iN_sub, iN_div, iN_lt_t, iN_lt_f, iN_le_t, iN_le_f, iN_eq_t, iN_eq_f, iN_m1, m1_iN, iN_zisB, if_true, if_false, ↓reduceIte, Nat.reduceEqDiff, Nat.reduceAdd, Nat.reduceMul, Nat.reduceSub, reduceCtorEq, si_1, si_2, sa_1, sa_2, sa_3, sl_1, sl_3, isT_0, isT_1, Lt0, Lt1, Lt2, Lt3, Lt4, Lt5, Lt6, Lt7, Lt8, Lt9, Lt10, Lt12, Lt14, Lt18, Lt19, Lt20, Lt22, Lt27, Lt30, Lt31, Lt40, Lt67, Lt99, Lt100, Lt107, Lt147, Lt187, Lt191, Lt211, Lt231, Lt235, Lt237, Lt238, Lt300, Lt358, Lt600, hr.1, eq_true ((hb p (by omega)).mpr e), Nat.add_zero]
      · rw [if_neg e, if_neg e]
        simp (disch := omega) only [↓Lm1, si_si, ob_some, znm_eq, th_some, th_none, tb_some, tb_none, chk_iN, chk_true, clamp_iN, iN_add, iN_mul, iN_sub, iN_div, iN_lt_t, iN_lt_f, iN_le_t, iN_le_f, iN_eq_t, iN_eq_f, iN_m1, m1_iN, iN_zisB, if_true, if_false, ↓reduceIte, Nat.reduceEqDiff, Nat.reduceAdd, Nat.reduceMul, Nat.reduceSub, reduceCtorEq, si_1, si_2, sa_1, sa_2, sa_3, sl_1, sl_3, isT_0, isT_1, Lt0, Lt1, Lt2, Lt3, Lt4, Lt5, Lt6, Lt7, Lt8, Lt9, Lt10, Lt12, Lt14, Lt18, Lt19, Lt20, Lt22, Lt27, Lt30, Lt31, Lt40, Lt67, Lt99, Lt100, Lt107, Lt147, Lt187, Lt191, Lt211, Lt231, Lt235, Lt237, Lt238, Lt300, Lt358, Lt600, hr.1, eq_false (fun q => e ((hb p (by omega)).mp q)), he_eq hw hr (show p < 4 by omega) hj]
        show _ = self2 (iN (_ + (sumN _ j + _))) _ _
        by_cases c : a (27 + a (191 + (5 * p + j))) = kind
        · simp (disch := omega) only [↓Lm1, si_si, ob_some, znm_eq, th_some, th_none, tb_some, tb_none, chk_iN, chk_true, clamp_iN, iN_add, iN_mul, iN_sub, iN_div, iN_lt_t, iN_lt_f, iN_le_t, iN_le_f, iN_eq_t, iN_eq_f, iN_m1, m1_iN, iN_zisB, if_true, if_false, ↓reduceIte, Nat.reduceEqDiff, Nat.reduceAdd, Nat.reduceMul, Nat.reduceSub, reduceCtorEq, si_1, si_2, sa_1, sa_2, sa_3, sl_1, sl_3, isT_0, isT_1, Lt0, Lt1, Lt2, Lt3, Lt4, Lt5, Lt6, Lt7, Lt8, Lt9, Lt10, Lt12, Lt14, Lt18, Lt19, Lt20, Lt22, Lt27, Lt30, Lt31, Lt40, Lt67, Lt99, Lt100, Lt107, Lt147, Lt187, Lt191, Lt211, Lt231, Lt235, Lt237, Lt238, Lt300, Lt358, Lt600, if_pos c, Nat.add_assoc]
        · simp (disch := omega) only [↓Lm1, si_si, ob_some, znm_eq, th_some, th_none, tb_some, tb_none, chk_iN, chk_true, clamp_iN, iN_add, iN_mul, iN_sub, iN_div, iN_lt_t, iN_lt_f, iN_le_t, iN_le_f, iN_eq_t, iN_eq_f, iN_m1, m1_iN, iN_zisB, if_true, if_false, ↓reduceIte, Nat.reduceEqDiff, Nat.reduceAdd, Nat.reduceMul, Nat.reduceSub, reduceCtorEq, si_1, si_2, sa_1, sa_2, sa_3, sl_1, sl_3, isT_0, isT_1, Lt0, Lt1, Lt2, Lt3, Lt4, Lt5, Lt6, Lt7, Lt8, Lt9, Lt10, Lt12, Lt14, Lt18, Lt19, Lt20, Lt22, Lt27, Lt30, Lt31, Lt40, Lt67, Lt99, Lt100, Lt107, Lt147, Lt187, Lt191, Lt211, Lt231, Lt235, Lt237, Lt238, Lt300, Lt358, Lt600, if_neg c, Nat.add_assoc, Nat.add_zero]
    · intro self2
      unfold F_X8_inHands_19
      simp (disch := omega) only [↓Lm1, si_si, ob_some, znm_eq, th_some, th_none, tb_some, tb_none, chk_iN, chk_true, clamp_iN, iN_add, iN_mul, iN_sub, iN_div, iN_lt_t, iN_lt_f, iN_le_t, iN_le_f, iN_eq_t, iN_eq_f, iN_m1, m1_iN, iN_zisB, if_true, if_false, ↓reduceIte, Nat.reduceEqDiff, Nat.reduceAdd, Nat.reduceMul, Nat.reduceSub, reduceCtorEq, si_1, si_2, sa_1, sa_2, sa_3, sl_1, sl_3, isT_0, isT_1, Lt0, Lt1, Lt2, Lt3, Lt4, Lt5, Lt6, Lt7, Lt8, Lt9, Lt10, Lt12, Lt14, Lt18, Lt19, Lt20, Lt22, Lt27, Lt30, Lt31, Lt40, Lt67, Lt99, Lt100, Lt107, Lt147, Lt187, Lt191, Lt211, Lt231, Lt235, Lt237, Lt238, Lt300, Lt358, Lt600, hr.1]
      rfl
  · intro self
    unfold F_X8_inHands_5
    rw [hr.1 2 (by omega) (by omega), if_pos ((iN_le (by omega) (by omega)).mpr (Nat.le_refl _))]
    unfold heldN
    rw [sumN_cut (m := a 2) (n := 4) (by omega)]
    intro k h1 h2
    have h0 := wfS0 hw h2 h1
    show (if k = but then 0 else inH a kind k) = 0
    have := inH_le (a := a) kind k
    split <;> omega
theorem X1_inHands_eq (hw : wfG a) (hG : encG a L sG) (hu : encRu a ru) {kind : Nat} (hk : kind < 20) : f_X1_inHands NN sG ru (iN kind) = some (iN (heldN a kind 9)) := by
  obtain ⟨b0, b1, b2, b3, b4, b5, b6, b7, b8, b9, b11, b12, b13⟩ := wfB hw
  have hs : ∀ n, n ≤ 4 → sumN (fun p => if p = 9 then 0 else inH a kind p) n ≤ 5 * n := fun n hn => sumN_le fun p hp => by
    have := inH_le (a := a) kind p
    have := wfS hw (p := p) (by omega)
    show (if p = 9 then 0 else inH a kind p) ≤ 5
    split <;> omega
  have u2 := hu.2.2.1
  unfold f_X1_inHands f_X1_inHands_4
  refine loop2 (fun p => iN (sumN (fun p => if p = 9 then 0 else inH a kind p) p)) (fun p => iN p) (a 2) ?_ ?_ NN 0 (by omega) (nnb (by omega))
  · intro p hp self
    have hs1 := hs p (by omega)
    have hsz := wfS hw (p := p) (by omega)
    unfold F_X1_inHands_4
    rw [u2, if_neg (fun q => absurd ((iN_le (by omega) (by omega)).mp q) (by omega))]
    unfold f_X1_inHands_18
    have hs2 : ∀ n, sumN (fun j => if a (27 + a (191 + (5 * p + j))) = kind then 1 else 0) n ≤ 1 * n := fun n => sumN_le fun k _ => by split <;> omega
    refine loop3 (z := fun _ _ _ => none) (F := F_X1_inHands_18 NN sG ru (iN kind) self) (fun j => iN (sumN (fun p => if p = 9 then 0 else inH a kind p) p + sumN (fun j => if a (27 + a (191 + (5 * p + j))) = kind then 1 else 0) j)) (fun _ => iN p) (fun j => iN j) (a (187 + p)) (res := self (iN (sumN (fun p => if p = 9 then 0 else inH a kind p) (p + 1))) (iN (p + 1))) ?_ ?_ NN 0 (by omega) (nnb (by omega))
    · intro j hj self2
      have hc := wfH hw (by omega) hj
      have hkk := wfK hw (k := a (191 + (5 * p + j))) (by omega)
      have hs3 := hs2 j
      unfold F_X1_inHands_18
      simp (disch := omega) only [↓Lm1, si_si, ob_some, znm_eq, th_some, th_none, tb_some, tb_none, chk_iN, chk_true, clamp_iN, iN_add, iN_mul, iN_sub, iN_div, iN_lt_t, iN_lt_f, iN_le_t, iN_le_f, iN_eq_t, iN_eq_f, iN_m1, m1_iN, iN_zisB, if_true, if_false, ↓reduceIte, Nat.reduceEqDiff, Nat.reduceAdd, Nat.reduceMul, Nat.reduceSub, reduceCtorEq, si_1, si_2, sa_1, sa_2, sa_3, sl_1, sl_3, isT_0, isT_1, Lt0, Lt1, Lt2, Lt3, Lt4, Lt5, Lt6, Lt7, Lt8, Lt9, Lt10, Lt12, Lt14, Lt18, Lt19, Lt20, Lt22, Lt27, Lt30, Lt31, Lt40, Lt67, Lt99, Lt100, Lt107, Lt147, Lt187, Lt191, Lt211, Lt231, Lt235, Lt237, Lt238, Lt300, Lt358, Lt600, so_eq hG (show p < 4 by omega), ca_yes hw hG (show p < 4 by omega) hj, ko_eq hu (show a (191 + (5 * p + j)) < 40 by omega)]
      show _ = self2 (iN (_ + (sumN _ j + _))) _ _
      by_cases c : a (27 + a (191 + (5 * p + j))) = kind
      · simp (disch := omega) only [↓Lm1, si_si, ob_some, znm_eq, th_some, th_none, tb_some, tb_none, chk_iN, chk_true, clamp_iN, iN_add, iN_mul, iN_sub, iN_div, iN_lt_t, iN_lt_f, iN_le_t, iN_le_f, iN_eq_t, iN_eq_f, iN_m1, m1_iN, iN_zisB, if_true, if_false, ↓reduceIte, Nat.reduceEqDiff, Nat.reduceAdd, Nat.reduceMul, Nat.reduceSub, reduceCtorEq, si_1, si_2, sa_1, sa_2, sa_3, sl_1, sl_3, isT_0, isT_1, Lt0, Lt1, Lt2, Lt3, Lt4, Lt5, Lt6, Lt7, Lt8, Lt9, Lt10, Lt12, Lt14, Lt18, Lt19, Lt20, Lt22, Lt27, Lt30, Lt31, Lt40, Lt67, Lt99, Lt100, Lt107, Lt147, Lt187, Lt191, Lt211, Lt231, Lt235, Lt237, Lt238, Lt300, Lt358, Lt600, if_pos c, Nat.add_assoc]
      · simp (disch := omega) only [↓Lm1, si_si, ob_some, znm_eq, th_some, th_none, tb_some, tb_none, chk_iN, chk_true, clamp_iN, iN_add, iN_mul, iN_sub, iN_div, iN_lt_t, iN_lt_f, iN_le_t, iN_le_f, iN_eq_t, iN_eq_f, iN_m1, m1_iN, iN_zisB, if_true, if_false, ↓reduceIte, Nat.reduceEqDiff, Nat.reduceAdd, Nat.reduceMul, Nat.reduceSub, reduceCtorEq, si_1, si_2, sa_1, sa_2, sa_3, sl_1, sl_3, isT_0, isT_1, Lt0, Lt1, Lt2, Lt3, Lt4, Lt5, Lt6, Lt7, Lt8, Lt9, Lt10, Lt12, Lt14, Lt18, Lt19, Lt20, Lt22, Lt27, Lt30, Lt31, Lt40, Lt67, Lt99, Lt100, Lt107, Lt147, Lt187, Lt191, Lt211, Lt231, Lt235, Lt237, Lt238, Lt300, Lt358, Lt600, if_neg c, Nat.add_assoc, Nat.add_zero]
    · intro self2
      unfold F_X1_inHands_18
      simp (disch := omega) only [↓Lm1, si_si, ob_some, znm_eq, th_some, th_none, tb_some, tb_none, chk_iN, chk_true, clamp_iN, iN_add, iN_mul, iN_sub, iN_div, iN_lt_t, iN_lt_f, iN_le_t, iN_le_f, iN_eq_t, iN_eq_f, iN_m1, m1_iN, iN_zisB, if_true, if_false, ↓reduceIte, Nat.reduceEqDiff, Nat.reduceAdd, Nat.reduceMul, Nat.reduceSub, reduceCtorEq, si_1, si_2, sa_1, sa_2, sa_3, sl_1, sl_3, isT_0, isT_1, Lt0, Lt1, Lt2, Lt3, Lt4, Lt5, Lt6, Lt7, Lt8, Lt9, Lt10, Lt12, Lt14, Lt18, Lt19, Lt20, Lt22, Lt27, Lt30, Lt31, Lt40, Lt67, Lt99, Lt100, Lt107, Lt147, Lt187, Lt191, Lt211, Lt231, Lt235, Lt237, Lt238, Lt300, Lt358, Lt600, so_eq hG (show p < 4 by omega)]
      have e9 : ¬ p = 9 := by omega
      show _ = self (iN (_ + (if p = 9 then 0 else inH a kind p))) _
      rw [if_neg e9]
      rfl
  · intro self
    unfold F_X1_inHands_4
    rw [u2, if_pos ((iN_le (by omega) (by omega)).mpr (Nat.le_refl _))]
    unfold heldN
    rw [sumN_cut (m := a 2) (n := 4) (by omega)]
    intro k h1 h2
    have h0 := wfS0 hw h2 h1
    show (if k = 9 then 0 else inH a kind k) = 0
    have := inH_le (a := a) kind k
    split <;> omega
end CNT
