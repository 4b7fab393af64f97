/-! OWN: the pure half: the rank that a pile can still come to, useless and critical kinds -/
def reachF (a : Gm) (c : Nat) : Nat → Nat → Nat
  | 0, t => t
  | n + 1, t => if t < a 1 ∧ a (211 + (5 * c + t)) < inDk a (5 * c + t) 0 then reachF a c n (t + 1) else t
def reachT (a : Gm) (c : Nat) : Nat := reachF a c 5 (a (14 + c))
theorem reachF_spec (a : Gm) (c : Nat) : ∀ n t, t ≤ a 1 → a 1 ≤ t + n → t ≤ reachF a c n t ∧ reachF a c n t ≤ a 1 ∧ (∀ u, t ≤ u → u < reachF a c n t → a (211 + (5 * c + u)) < inDk a (5 * c + u) 0) ∧ (reachF a c n t = a 1 ∨ ¬ a (211 + (5 * c + reachF a c n t)) < inDk a (5 * c + reachF a c n t) 0) := by
  intro n
  induction n with
  | zero =>
    intro t h1 h2
    show t ≤ t ∧ t ≤ a 1 ∧ (∀ u, t ≤ u → u < t → _) ∧ (t = a 1 ∨ _)
    exact ⟨Nat.le_refl t, h1, fun u q1 q2 => absurd q2 (by omega), Or.inl (by omega)⟩
  | succ n ih =>
    intro t h1 h2
    unfold reachF
    split
    · rename_i hc
      obtain ⟨i1, i2, i3, i4⟩ := ih (t + 1) (by omega) (by omega)
      refine ⟨by omega, i2, fun u q1 q2 => ?_, i4⟩
      by_cases e : u = t
      · subst e; exact hc.2
      · exact i3 u (by omega) q2
    · rename_i hc
      refine ⟨Nat.le_refl t, h1, fun u q1 q2 => absurd q2 (by omega), ?_⟩
      by_cases e : t = a 1
      · exact Or.inl e
      · exact Or.inr fun q => hc ⟨by omega, q⟩
section RCH
variable {a : Gm} {L : Nat → Int32} {sG ru sM : Ob}
/-- what the piles and the heap need of a game, within a turn too -/
def okW (a : Gm) : Prop := wfG a ∧ (∀ c, c < 4 → a (14 + c) ≤ a 1) ∧ (∀ k, k < a 4 → a (27 + k) / 5 < a 0 ∧ a (27 + k) % 5 < a 1) ∧ ∀ k, k < 20 → a (211 + k) ≤ inDk a k 0
theorem okTop (ho : okG a) {c : Nat} (hc : c < 4) : a (14 + c) ≤ a 1 := ho.2.2.2.2.1 c hc
theorem okCnt (ho : okG a) {k : Nat} (hk : k < 20) : a (211 + k) + heldN a k 9 + inDk a k (a 5) + (if k % 5 < a (14 + k / 5) then 1 else 0) = inDk a k 0 := ho.2.2.2.2.2.2.2.1 k hk
theorem okHeap (ho : okG a) {k : Nat} (hk : k < 20) : a (211 + k) ≤ inDk a k 0 := by
  have := okCnt ho hk
  omega
theorem okW_of (ho : okG a) : okW a := ⟨ho.1, fun _ hc => okTop ho hc, ho.2.2.2.2.2.1, fun _ hk => okHeap ho hk⟩
theorem reachT_spec_w (ho : okW a) {c : Nat} (hc : c < 4) : a (14 + c) ≤ reachT a c ∧ reachT a c ≤ a 1 ∧ (∀ u, a (14 + c) ≤ u → u < reachT a c → a (211 + (5 * c + u)) < inDk a (5 * c + u) 0) ∧ (reachT a c = a 1 ∨ ¬ a (211 + (5 * c + reachT a c)) < inDk a (5 * c + reachT a c) 0) :=
  reachF_spec a c 5 (a (14 + c)) (ho.2.1 c hc) (by have := ho.1.2.1; omega)
/-- of a rank that the game has not there are no cards -/
theorem inDk_none_w (ho : okW a) {k m : Nat} (h : a 1 ≤ k % 5) : inDk a k m = 0 := by
  refine sumN_zero fun j hj => if_neg fun q => ?_
  have := (ho.2.2.1 j hj).2
  rw [q.2] at this
  omega
theorem reachT_gone_w (ho : okW a) {c : Nat} (hc : c < 4) (h : reachT a c < 5) : inDk a (5 * c + reachT a c) 0 = a (211 + (5 * c + reachT a c)) := by
  obtain ⟨i1, i2, i3, i4⟩ := reachT_spec_w ho hc
  have hh := ho.2.2.2 (5 * c + reachT a c) (by omega)
  rcases i4 with e | e
  · have := inDk_none_w ho (k := 5 * c + reachT a c) (m := 0) (by omega)
    omega
  · omega
def useG (a : Gm) (k : Nat) : Prop := a (14 + k / 5) ≤ k % 5 ∧ k % 5 < reachT a (k / 5)
theorem useG_dec (a : Gm) (k : Nat) : useG a k ∨ ¬ useG a k := Classical.em _
noncomputable def useN (a : Gm) (k : Nat) : Nat := if a (14 + k / 5) ≤ k % 5 ∧ k % 5 < reachT a (k / 5) then 1 else 0
theorem useN_1 {k : Nat} (h : useG a k) : useN a k = 1 := if_pos h
theorem useN_0 {k : Nat} (h : ¬ useG a k) : useN a k = 0 := if_neg h
theorem X1_reachableTop_eq_w (ho : okW a) (hG : encG a L sG) (hu : encRu a ru) {c : Nat} (hc : c < 4) : f_X1_reachableTop NN sG ru (iN c) = some (iN (reachT a c)) := by
  obtain ⟨b0, b1, b2, b3, b4, b5, b6, b7, b8, b9, b11, b12, b13⟩ := wfB ho.1
  obtain ⟨i1, i2, i3, i4⟩ := reachT_spec_w ho hc
  have gT := hG.2.2.2.2.2.2.2.2.2.2.1
  have gH := hG.2.2.2.2.2.2.2.2.2.2.2.1
  have uC := hu.2.2.2.2.2.2.2
  unfold f_X1_reachableTop f_X1_reachableTop_27
  simp (disch := omega) only [↓Lm1, si_si, ob_some, znm_eq, th_some, th_none, tb_some, tb_none, chk_iN, chk_true, clamp_iN, iN_add, iN_mul, iN_sub, iN_div, iN_lt_t, iN_lt_f, iN_le_t, iN_le_f, iN_eq_t, iN_eq_f, iN_m1, m1_iN, iN_zisB, if_true, if_false, ↓reduceIte, Nat.reduceEqDiff, Nat.reduceAdd, Nat.reduceMul, Nat.reduceSub, reduceCtorEq, si_1, si_2, sa_1, sa_2, sa_3, sl_1, sl_3, isT_0, isT_1, Lt0, Lt1, Lt2, Lt3, Lt4, Lt5, Lt6, Lt7, Lt8, Lt9, Lt10, Lt12, Lt14, Lt18, Lt19, Lt20, Lt22, Lt27, Lt30, Lt31, Lt40, Lt67, Lt99, Lt100, Lt107, Lt147, Lt187, Lt191, Lt211, Lt231, Lt235, Lt237, Lt238, Lt300, Lt358, Lt600, gT]
  refine loop3 (fun j => iN (a (14 + c) + j)) (fun _ => iN (c * 5)) (fun j => iN (c * 5 + (a (14 + c) + j))) (reachT a c - a (14 + c)) ?_ ?_ NN 0 (by omega) (nnb (by omega))
  · intro j hj self
    have i5 := i3 (a (14 + c) + j) (by omega) (by omega)
    have hq := wfQ ho.1 (k := 5 * c + (a (14 + c) + j)) (by omega)
    have hd := inDk_le b4 (5 * c + (a (14 + c) + j)) 0
    unfold F_X1_reachableTop_27
    have e5 : c * 5 = 5 * c := Nat.mul_comm c 5
    simp (disch := omega) only [↓Lm1, si_si, ob_some, znm_eq, th_some, th_none, tb_some, tb_none, chk_iN, chk_true, clamp_iN, iN_add, iN_mul, iN_sub, iN_div, iN_lt_t, iN_lt_f, iN_le_t, iN_le_f, iN_eq_t, iN_eq_f, iN_m1, m1_iN, iN_zisB, if_true, if_false, ↓reduceIte, Nat.reduceEqDiff, Nat.reduceAdd, Nat.reduceMul, Nat.reduceSub, reduceCtorEq, si_1, si_2, sa_1, sa_2, sa_3, sl_1, sl_3, isT_0, isT_1, Lt0, Lt1, Lt2, Lt3, Lt4, Lt5, Lt6, Lt7, Lt8, Lt9, Lt10, Lt12, Lt14, Lt18, Lt19, Lt20, Lt22, Lt27, Lt30, Lt31, Lt40, Lt67, Lt99, Lt100, Lt107, Lt147, Lt187, Lt191, Lt211, Lt231, Lt235, Lt237, Lt238, Lt300, Lt358, Lt600, hu.2.1, gH, uC, e5, Nat.add_assoc]
  · intro self
    unfold F_X1_reachableTop_27
    have e5 : c * 5 = 5 * c := Nat.mul_comm c 5
    have et : a (14 + c) + (reachT a c - a (14 + c)) = reachT a c := by omega
    by_cases e : reachT a c = a 1
    · rw [e] at et ⊢
      simp (disch := omega) only [↓Lm1, si_si, ob_some, znm_eq, th_some, th_none, tb_some, tb_none, chk_iN, chk_true, clamp_iN, iN_add, iN_mul, iN_sub, iN_div, iN_lt_t, iN_lt_f, iN_le_t, iN_le_f, iN_eq_t, iN_eq_f, iN_m1, m1_iN, iN_zisB, if_true, if_false, ↓reduceIte, Nat.reduceEqDiff, Nat.reduceAdd, Nat.reduceMul, Nat.reduceSub, reduceCtorEq, si_1, si_2, sa_1, sa_2, sa_3, sl_1, sl_3, isT_0, isT_1, Lt0, Lt1, Lt2, Lt3, Lt4, Lt5, Lt6, Lt7, Lt8, Lt9, Lt10, Lt12, Lt14, Lt18, Lt19, Lt20, Lt22, Lt27, Lt30, Lt31, Lt40, Lt67, Lt99, Lt100, Lt107, Lt147, Lt187, Lt191, Lt211, Lt231, Lt235, Lt237, Lt238, Lt300, Lt358, Lt600, hu.2.1, e5, et]
    · by_cases e20 : 20 ≤ 5 * c + reachT a c
      · simp (disch := omega) only [↓Lm1, si_si, ob_some, znm_eq, th_some, th_none, tb_some, tb_none, chk_iN, chk_true, clamp_iN, iN_add, iN_mul, iN_sub, iN_div, iN_lt_t, iN_lt_f, iN_le_t, iN_le_f, iN_eq_t, iN_eq_f, iN_m1, m1_iN, iN_zisB, if_true, if_false, ↓reduceIte, Nat.reduceEqDiff, Nat.reduceAdd, Nat.reduceMul, Nat.reduceSub, reduceCtorEq, si_1, si_2, sa_1, sa_2, sa_3, sl_1, sl_3, isT_0, isT_1, Lt0, Lt1, Lt2, Lt3, Lt4, Lt5, Lt6, Lt7, Lt8, Lt9, Lt10, Lt12, Lt14, Lt18, Lt19, Lt20, Lt22, Lt27, Lt30, Lt31, Lt40, Lt67, Lt99, Lt100, Lt107, Lt147, Lt187, Lt191, Lt211, Lt231, Lt235, Lt237, Lt238, Lt300, Lt358, Lt600, hu.2.1, e5, et]
      · have hg := reachT_gone_w ho hc (by omega)
        have hq := wfQ ho.1 (k := 5 * c + reachT a c) (by omega)
        simp (disch := omega) only [↓Lm1, si_si, ob_some, znm_eq, th_some, th_none, tb_some, tb_none, chk_iN, chk_true, clamp_iN, iN_add, iN_mul, iN_sub, iN_div, iN_lt_t, iN_lt_f, iN_le_t, iN_le_f, iN_eq_t, iN_eq_f, iN_m1, m1_iN, iN_zisB, if_true, if_false, ↓reduceIte, Nat.reduceEqDiff, Nat.reduceAdd, Nat.reduceMul, Nat.reduceSub, reduceCtorEq, si_1, si_2, sa_1, sa_2, sa_3, sl_1, sl_3, isT_0, isT_1, Lt0, Lt1, Lt2, Lt3, Lt4, Lt5, Lt6, Lt7, Lt8, Lt9, Lt10, Lt12, Lt14, Lt18, Lt19, Lt20, Lt22, Lt27, Lt30, Lt31, Lt40, Lt67, Lt99, Lt100, Lt107, Lt147, Lt187, Lt191, Lt211, Lt231, Lt235, Lt237, Lt238, Lt300, Lt358, Lt600, hu.2.1, e5, et, gH, uC, hg]
theorem X1_isOfUse_eq_w (ho : okW a) (hG : encG a L sG) (hu : encRu a ru) {k : Nat} (hk : k < 20) : f_X1_isOfUse NN sG ru (iN k) = some (iN (useN a k)) := by
  obtain ⟨b0, b1, b2, b3, b4, b5, b6, b7, b8, b9, b11, b12, b13⟩ := wfB ho.1
  have hc : k / 5 < 4 := by omega
  obtain ⟨i1, i2, i3, i4⟩ := reachT_spec_w ho hc
  have gT := hG.2.2.2.2.2.2.2.2.2.2.1
  have hp := wfP ho.1 hc
  have em : k - k / 5 * 5 = k % 5 := by omega
  unfold f_X1_isOfUse
  simp (disch := omega) only [↓Lm1, si_si, ob_some, znm_eq, th_some, th_none, tb_some, tb_none, chk_iN, chk_true, clamp_iN, iN_add, iN_mul, iN_sub, iN_div, iN_lt_t, iN_lt_f, iN_le_t, iN_le_f, iN_eq_t, iN_eq_f, iN_m1, m1_iN, iN_zisB, if_true, if_false, ↓reduceIte, Nat.reduceEqDiff, Nat.reduceAdd, Nat.reduceMul, Nat.reduceSub, reduceCtorEq, si_1, si_2, sa_1, sa_2, sa_3, sl_1, sl_3, isT_0, isT_1, Lt0, Lt1, Lt2, Lt3, Lt4, Lt5, Lt6, Lt7, Lt8, Lt9, Lt10, Lt12, Lt14, Lt18, Lt19, Lt20, Lt22, Lt27, Lt30, Lt31, Lt40, Lt67, Lt99, Lt100, Lt107, Lt147, Lt187, Lt191, Lt211, Lt231, Lt235, Lt237, Lt238, Lt300, Lt358, Lt600, em, X1_topOf_eq (s := sG) hc, gT, X1_reachableTop_eq_w ho hG hu hc]
  by_cases c1 : k % 5 < a (14 + k / 5)
  · simp (disch := omega) only [↓Lm1, si_si, ob_some, znm_eq, th_some, th_none, tb_some, tb_none, chk_iN, chk_true, clamp_iN, iN_add, iN_mul, iN_sub, iN_div, iN_lt_t, iN_lt_f, iN_le_t, iN_le_f, iN_eq_t, iN_eq_f, iN_m1, m1_iN, iN_zisB, if_true, if_false, ↓reduceIte, Nat.reduceEqDiff, Nat.reduceAdd, Nat.reduceMul, Nat.reduceSub, reduceCtorEq, si_1, si_2, sa_1, sa_2, sa_3, sl_1, sl_3, isT_0, isT_1, Lt0, Lt1, Lt2, Lt3, Lt4, Lt5, Lt6, Lt7, Lt8, Lt9, Lt10, Lt12, Lt14, Lt18, Lt19, Lt20, Lt22, Lt27, Lt30, Lt31, Lt40, Lt67, Lt99, Lt100, Lt107, Lt147, Lt187, Lt191, Lt211, Lt231, Lt235, Lt237, Lt238, Lt300, Lt358, Lt600, useN_0 (fun q : useG a k => absurd q.1 (by omega))]
  · by_cases c2 : reachT a (k / 5) ≤ k % 5
    · simp (disch := omega) only [↓Lm1, si_si, ob_some, znm_eq, th_some, th_none, tb_some, tb_none, chk_iN, chk_true, clamp_iN, iN_add, iN_mul, iN_sub, iN_div, iN_lt_t, iN_lt_f, iN_le_t, iN_le_f, iN_eq_t, iN_eq_f, iN_m1, m1_iN, iN_zisB, if_true, if_false, ↓reduceIte, Nat.reduceEqDiff, Nat.reduceAdd, Nat.reduceMul, Nat.reduceSub, reduceCtorEq, si_1, si_2, sa_1, sa_2, sa_3, sl_1, sl_3, isT_0, isT_1, Lt0, Lt1, Lt2, Lt3, Lt4, Lt5, Lt6, Lt7, Lt8, Lt9, Lt10, Lt12, Lt14, Lt18, Lt19, Lt20, Lt22, Lt27, Lt30, Lt31, Lt40, Lt67, Lt99, Lt100, Lt107, Lt147, Lt187, Lt191, Lt211, Lt231, Lt235, Lt237, Lt238, Lt300, Lt358, Lt600, useN_0 (fun q : useG a k => absurd q.2 (by omega))]
    · simp (disch := omega) only [↓Lm1, si_si, ob_some, znm_eq, th_some, th_none, tb_some, tb_none, chk_iN, chk_true, clamp_iN, iN_add, iN_mul, iN_sub, iN_div, iN_lt_t, iN_lt_f, iN_le_t, iN_le_f, iN_eq_t, iN_eq_f, iN_m1, m1_iN, iN_zisB, if_true, if_false, ↓reduceIte, Nat.reduceEqDiff, Nat.reduceAdd, Nat.reduceMul, Nat.reduceSub, reduceCtorEq, si_1, si_2, sa_1, sa_2, sa_3, sl_1, sl_3, isT_0, isT_1, Lt0, Lt1, Lt2, Lt3, Lt4, Lt5, Lt6, Lt7, Lt8, Lt9, Lt10, Lt12, Lt14, Lt18, Lt19, Lt20, Lt22, Lt27, Lt30, Lt31, Lt40, Lt67, Lt99, Lt100, Lt107, Lt147, Lt187, Lt191, Lt211, Lt231, Lt235, Lt237, Lt238, Lt300, Lt358, Lt600, useN_1 (show useG a k from ⟨by omega, by omega⟩)]
noncomputable def lastN (a : Gm) (k : Nat) : Nat := if inDk a k 0 = a (211 + k) + 1 ∧ useN a k = 1 then 1 else 0
theorem lastN_1 {k : Nat} (h1 : inDk a k 0 = a (211 + k) + 1) (h2 : useG a k) : lastN a k = 1 := if_pos ⟨h1, useN_1 h2⟩
theorem lastN_0 {k : Nat} (h : ¬ (inDk a k 0 = a (211 + k) + 1 ∧ useG a k)) : lastN a k = 0 := if_neg fun q => by
  rcases useG_dec a k with c | c
  · exact h ⟨q.1, c⟩
  · have := useN_0 c
    omega
theorem lastN_le (a : Gm) (k : Nat) : lastN a k ≤ 1 := by unfold lastN; split <;> omega
theorem useN_le (a : Gm) (k : Nat) : useN a k ≤ 1 := by unfold useN; split <;> omega
theorem X1_isLastOne_eq_w (ho : okW a) (hG : encG a L sG) (hu : encRu a ru) {k : Nat} (hk : k < 20) : f_X1_isLastOne NN sG ru (iN k) = some (iN (lastN a k)) := by
  obtain ⟨b0, b1, b2, b3, b4, b5, b6, b7, b8, b9, b11, b12, b13⟩ := wfB ho.1
  have gH := hG.2.2.2.2.2.2.2.2.2.2.2.1
  have uC := hu.2.2.2.2.2.2.2
  have hq := wfQ ho.1 hk
  have hh := ho.2.2.2 k hk
  have hd := inDk_le b4 k 0
  unfold f_X1_isLastOne f_X1_notInHeap
  simp (disch := omega) only [↓Lm1, si_si, ob_some, znm_eq, th_some, th_none, tb_some, tb_none, chk_iN, chk_true, clamp_iN, iN_add, iN_mul, iN_sub, iN_div, iN_lt_t, iN_lt_f, iN_le_t, iN_le_f, iN_eq_t, iN_eq_f, iN_m1, m1_iN, iN_zisB, if_true, if_false, ↓reduceIte, Nat.reduceEqDiff, Nat.reduceAdd, Nat.reduceMul, Nat.reduceSub, reduceCtorEq, si_1, si_2, sa_1, sa_2, sa_3, sl_1, sl_3, isT_0, isT_1, Lt0, Lt1, Lt2, Lt3, Lt4, Lt5, Lt6, Lt7, Lt8, Lt9, Lt10, Lt12, Lt14, Lt18, Lt19, Lt20, Lt22, Lt27, Lt30, Lt31, Lt40, Lt67, Lt99, Lt100, Lt107, Lt147, Lt187, Lt191, Lt211, Lt231, Lt235, Lt237, Lt238, Lt300, Lt358, Lt600, gH, uC]
  by_cases c1 : inDk a k 0 = a (211 + k) + 1
  · have e1 : inDk a k 0 - a (211 + k) = 1 := by omega
    rcases useG_dec a k with c2 | c2
    · simp (disch := omega) only [↓Lm1, si_si, ob_some, znm_eq, th_some, th_none, tb_some, tb_none, chk_iN, chk_true, clamp_iN, iN_add, iN_mul, iN_sub, iN_div, iN_lt_t, iN_lt_f, iN_le_t, iN_le_f, iN_eq_t, iN_eq_f, iN_m1, m1_iN, iN_zisB, if_true, if_false, ↓reduceIte, Nat.reduceEqDiff, Nat.reduceAdd, Nat.reduceMul, Nat.reduceSub, reduceCtorEq, si_1, si_2, sa_1, sa_2, sa_3, sl_1, sl_3, isT_0, isT_1, Lt0, Lt1, Lt2, Lt3, Lt4, Lt5, Lt6, Lt7, Lt8, Lt9, Lt10, Lt12, Lt14, Lt18, Lt19, Lt20, Lt22, Lt27, Lt30, Lt31, Lt40, Lt67, Lt99, Lt100, Lt107, Lt147, Lt187, Lt191, Lt211, Lt231, Lt235, Lt237, Lt238, Lt300, Lt358, Lt600, e1, X1_isOfUse_eq_w ho hG hu hk, useN_1 c2, lastN_1 c1 c2]
    · simp (disch := omega) only [↓Lm1, si_si, ob_some, znm_eq, th_some, th_none, tb_some, tb_none, chk_iN, chk_true, clamp_iN, iN_add, iN_mul, iN_sub, iN_div, iN_lt_t, iN_lt_f, iN_le_t, iN_le_f, iN_eq_t, iN_eq_f, iN_m1, m1_iN, iN_zisB, if_true, if_false, ↓reduceIte, Nat.reduceEqDiff, Nat.reduceAdd, Nat.reduceMul, Nat.reduceSub, reduceCtorEq, si_1, si_2, sa_1, sa_2, sa_3, sl_1, sl_3, isT_0, isT_1, Lt0, Lt1, Lt2, Lt3, Lt4, Lt5, Lt6, Lt7, Lt8, Lt9, Lt10, Lt12, Lt14, Lt18, Lt19, Lt20, Lt22, Lt27, Lt30, Lt31, Lt40, Lt67, Lt99, Lt100, Lt107, Lt147, Lt187, Lt191, Lt211, Lt231, Lt235, Lt237, Lt238, Lt300, Lt358, Lt600, e1, X1_isOfUse_eq_w ho hG hu hk, useN_0 c2, lastN_0 (fun q => c2 q.2)]
  · simp (disch := omega) only [↓Lm1, si_si, ob_some, znm_eq, th_some, th_none, tb_some, tb_none, chk_iN, chk_true, clamp_iN, iN_add, iN_mul, iN_sub, iN_div, iN_lt_t, iN_lt_f, iN_le_t, iN_le_f, iN_eq_t, iN_eq_f, iN_m1, m1_iN, iN_zisB, if_true, if_false, ↓reduceIte, Nat.reduceEqDiff, Nat.reduceAdd, Nat.reduceMul, Nat.reduceSub, reduceCtorEq, si_1, si_2, sa_1, sa_2, sa_3, sl_1, sl_3, isT_0, isT_1, Lt0, Lt1, Lt2, Lt3, Lt4, Lt5, Lt6, Lt7, Lt8, Lt9, Lt10, Lt12, Lt14, Lt18, Lt19, Lt20, Lt22, Lt27, Lt30, Lt31, Lt40, Lt67, Lt99, Lt100, Lt107, Lt147, Lt187, Lt191, Lt211, Lt231, Lt235, Lt237, Lt238, Lt300, Lt358, Lt600, lastN_0 (fun q => c1 q.1)]
theorem X8_isGone_eq_w (ho : okW a) (hr : encR a L (sM.2.2.1 0)) {k : Nat} (hk : k < 20) : f_X8_isGone NN sM (iN k) = some (iN (if inDk a k 0 = a (211 + k) then 1 else 0)) := by
  obtain ⟨b0, b1, b2, b3, b4, b5, b6, b7, b8, b9, b11, b12, b13⟩ := wfB ho.1
  have hq := wfQ ho.1 hk
  have hd := inDk_le b4 k 0
  unfold f_X8_isGone
  rw [show (0 : Int32) = iN 0 from rfl, X8_inDeck_eq ho.1 hr hk (Nat.zero_le _)]
  by_cases c : inDk a k 0 = a (211 + k)
  · simp (disch := omega) only [↓Lm1, si_si, ob_some, znm_eq, th_some, th_none, tb_some, tb_none, chk_iN, chk_true, clamp_iN, iN_add, iN_mul, iN_sub, iN_div, iN_lt_t, iN_lt_f, iN_le_t, iN_le_f, iN_eq_t, iN_eq_f, iN_m1, m1_iN, iN_zisB, if_true, if_false, ↓reduceIte, Nat.reduceEqDiff, Nat.reduceAdd, Nat.reduceMul, Nat.reduceSub, reduceCtorEq, si_1, si_2, sa_1, sa_2, sa_3, sl_1, sl_3, isT_0, isT_1, Lt0, Lt1, Lt2, Lt3, Lt4, Lt5, Lt6, Lt7, Lt8, Lt9, Lt10, Lt12, Lt14, Lt18, Lt19, Lt20, Lt22, Lt27, Lt30, Lt31, Lt40, Lt67, Lt99, Lt100, Lt107, Lt147, Lt187, Lt191, Lt211, Lt231, Lt235, Lt237, Lt238, Lt300, Lt358, Lt600, hr.1, if_pos c]
  · simp (disch := omega) only [↓Lm1, si_si, ob_some, znm_eq, th_some, th_none, tb_some, tb_none, chk_iN, chk_true, clamp_iN, iN_add, iN_mul, iN_sub, iN_div, iN_lt_t, iN_lt_f, iN_le_t, iN_le_f, iN_eq_t, iN_eq_f, iN_m1, m1_iN, iN_zisB, if_true, if_false, ↓reduceIte, Nat.reduceEqDiff, Nat.reduceAdd, Nat.reduceMul, Nat.reduceSub, reduceCtorEq, si_1, si_2, sa_1, sa_2, sa_3, sl_1, sl_3, isT_0, isT_1, Lt0, Lt1, Lt2, Lt3, Lt4, Lt5, Lt6, Lt7, Lt8, Lt9, Lt10, Lt12, Lt14, Lt18, Lt19, Lt20, Lt22, Lt27, Lt30, Lt31, Lt40, Lt67, Lt99, Lt100, Lt107, Lt147, Lt187, Lt191, Lt211, Lt231, Lt235, Lt237, Lt238, Lt300, Lt358, Lt600, hr.1, if_neg c]
theorem X8_isUselessKind_eq_w (ho : okW a) (hr : encR a L (sM.2.2.1 0)) {k : Nat} (hk : k < 20) : f_X8_isUselessKind NN sM (iN k) = some (iN (1 - useN a k)) := by
  obtain ⟨b0, b1, b2, b3, b4, b5, b6, b7, b8, b9, b11, b12, b13⟩ := wfB ho.1
  have hc : k / 5 < 4 := by omega
  obtain ⟨i1, i2, i3, i4⟩ := reachT_spec_w ho hc
  have hp := wfP ho.1 hc
  have em : k - k / 5 * 5 = k % 5 := by omega
  unfold f_X8_isUselessKind f_X8_colorOf f_X8_rankOf
  simp (disch := omega) only [↓Lm1, si_si, ob_some, znm_eq, th_some, th_none, tb_some, tb_none, chk_iN, chk_true, clamp_iN, iN_add, iN_mul, iN_sub, iN_div, iN_lt_t, iN_lt_f, iN_le_t, iN_le_f, iN_eq_t, iN_eq_f, iN_m1, m1_iN, iN_zisB, if_true, if_false, ↓reduceIte, Nat.reduceEqDiff, Nat.reduceAdd, Nat.reduceMul, Nat.reduceSub, reduceCtorEq, si_1, si_2, sa_1, sa_2, sa_3, sl_1, sl_3, isT_0, isT_1, Lt0, Lt1, Lt2, Lt3, Lt4, Lt5, Lt6, Lt7, Lt8, Lt9, Lt10, Lt12, Lt14, Lt18, Lt19, Lt20, Lt22, Lt27, Lt30, Lt31, Lt40, Lt67, Lt99, Lt100, Lt107, Lt147, Lt187, Lt191, Lt211, Lt231, Lt235, Lt237, Lt238, Lt300, Lt358, Lt600, em, hr.1]
  by_cases c1 : k % 5 < a (14 + k / 5)
  · simp (disch := omega) only [↓Lm1, si_si, ob_some, znm_eq, th_some, th_none, tb_some, tb_none, chk_iN, chk_true, clamp_iN, iN_add, iN_mul, iN_sub, iN_div, iN_lt_t, iN_lt_f, iN_le_t, iN_le_f, iN_eq_t, iN_eq_f, iN_m1, m1_iN, iN_zisB, if_true, if_false, ↓reduceIte, Nat.reduceEqDiff, Nat.reduceAdd, Nat.reduceMul, Nat.reduceSub, reduceCtorEq, si_1, si_2, sa_1, sa_2, sa_3, sl_1, sl_3, isT_0, isT_1, Lt0, Lt1, Lt2, Lt3, Lt4, Lt5, Lt6, Lt7, Lt8, Lt9, Lt10, Lt12, Lt14, Lt18, Lt19, Lt20, Lt22, Lt27, Lt30, Lt31, Lt40, Lt67, Lt99, Lt100, Lt107, Lt147, Lt187, Lt191, Lt211, Lt231, Lt235, Lt237, Lt238, Lt300, Lt358, Lt600, useN_0 (fun q : useG a k => absurd q.1 (by omega))]
  · unfold f_X8_isUselessKind_35
    simp (disch := omega) only [↓Lm1, si_si, ob_some, znm_eq, th_some, th_none, tb_some, tb_none, chk_iN, chk_true, clamp_iN, iN_add, iN_mul, iN_sub, iN_div, iN_lt_t, iN_lt_f, iN_le_t, iN_le_f, iN_eq_t, iN_eq_f, iN_m1, m1_iN, iN_zisB, if_true, if_false, ↓reduceIte, Nat.reduceEqDiff, Nat.reduceAdd, Nat.reduceMul, Nat.reduceSub, reduceCtorEq, si_1, si_2, sa_1, sa_2, sa_3, sl_1, sl_3, isT_0, isT_1, Lt0, Lt1, Lt2, Lt3, Lt4, Lt5, Lt6, Lt7, Lt8, Lt9, Lt10, Lt12, Lt14, Lt18, Lt19, Lt20, Lt22, Lt27, Lt30, Lt31, Lt40, Lt67, Lt99, Lt100, Lt107, Lt147, Lt187, Lt191, Lt211, Lt231, Lt235, Lt237, Lt238, Lt300, Lt358, Lt600]
    by_cases c2 : k % 5 < reachT a (k / 5)
    · rw [useN_1 (show useG a k from ⟨by omega, by omega⟩)]
      refine loop2 (fun _ => iN (k / 5)) (fun j => iN (a (14 + k / 5) + 1 + j)) (k % 5 + 1 - a (14 + k / 5)) ?_ ?_ NN 0 (by omega) (nnb (by omega))
      · intro j hj self
        have i5 := i3 (a (14 + k / 5) + j) (by omega) (by omega)
        have ek : 5 * (k / 5) + (a (14 + k / 5) + (1 + j)) - 1 = 5 * (k / 5) + (a (14 + k / 5) + j) := by omega
        unfold F_X8_isUselessKind_35 f_X8_kind f_X8_rankOf
        simp (disch := omega) only [↓Lm1, si_si, ob_some, znm_eq, th_some, th_none, tb_some, tb_none, chk_iN, chk_true, clamp_iN, iN_add, iN_mul, iN_sub, iN_div, iN_lt_t, iN_lt_f, iN_le_t, iN_le_f, iN_eq_t, iN_eq_f, iN_m1, m1_iN, iN_zisB, if_true, if_false, ↓reduceIte, Nat.reduceEqDiff, Nat.reduceAdd, Nat.reduceMul, Nat.reduceSub, reduceCtorEq, si_1, si_2, sa_1, sa_2, sa_3, sl_1, sl_3, isT_0, isT_1, Lt0, Lt1, Lt2, Lt3, Lt4, Lt5, Lt6, Lt7, Lt8, Lt9, Lt10, Lt12, Lt14, Lt18, Lt19, Lt20, Lt22, Lt27, Lt30, Lt31, Lt40, Lt67, Lt99, Lt100, Lt107, Lt147, Lt187, Lt191, Lt211, Lt231, Lt235, Lt237, Lt238, Lt300, Lt358, Lt600, em, ek, X8_isGone_eq_w ho hr (show 5 * (k / 5) + (a (14 + k / 5) + j) < 20 by omega), if_neg (show ¬ inDk a (5 * (k / 5) + (a (14 + k / 5) + j)) 0 = a (211 + (5 * (k / 5) + (a (14 + k / 5) + j))) by omega), Nat.add_assoc]
      · intro self
        unfold F_X8_isUselessKind_35 f_X8_rankOf
        simp (disch := omega) only [↓Lm1, si_si, ob_some, znm_eq, th_some, th_none, tb_some, tb_none, chk_iN, chk_true, clamp_iN, iN_add, iN_mul, iN_sub, iN_div, iN_lt_t, iN_lt_f, iN_le_t, iN_le_f, iN_eq_t, iN_eq_f, iN_m1, m1_iN, iN_zisB, if_true, if_false, ↓reduceIte, Nat.reduceEqDiff, Nat.reduceAdd, Nat.reduceMul, Nat.reduceSub, reduceCtorEq, si_1, si_2, sa_1, sa_2, sa_3, sl_1, sl_3, isT_0, isT_1, Lt0, Lt1, Lt2, Lt3, Lt4, Lt5, Lt6, Lt7, Lt8, Lt9, Lt10, Lt12, Lt14, Lt18, Lt19, Lt20, Lt22, Lt27, Lt30, Lt31, Lt40, Lt67, Lt99, Lt100, Lt107, Lt147, Lt187, Lt191, Lt211, Lt231, Lt235, Lt237, Lt238, Lt300, Lt358, Lt600, em]
    · rw [useN_0 (fun q : useG a k => absurd q.2 (by omega))]
      have hg := reachT_gone_w ho hc (by omega)
      refine loop2 (fun _ => iN (k / 5)) (fun j => iN (a (14 + k / 5) + 1 + j)) (reachT a (k / 5) - a (14 + k / 5)) ?_ ?_ NN 0 (by omega) (nnb (by omega))
      · intro j hj self
        have i5 := i3 (a (14 + k / 5) + j) (by omega) (by omega)
        have ek : 5 * (k / 5) + (a (14 + k / 5) + (1 + j)) - 1 = 5 * (k / 5) + (a (14 + k / 5) + j) := by omega
        unfold F_X8_isUselessKind_35 f_X8_kind f_X8_rankOf
        simp (disch := omega) only [↓Lm1, si_si, ob_some, znm_eq, th_some, th_none, tb_some, tb_none, chk_iN, chk_true, clamp_iN, iN_add, iN_mul, iN_sub, iN_div, iN_lt_t, iN_lt_f, iN_le_t, iN_le_f, iN_eq_t, iN_eq_f, iN_m1, m1_iN, iN_zisB, if_true, if_false, ↓reduceIte, Nat.reduceEqDiff, Nat.reduceAdd, Nat.reduceMul, Nat.reduceSub, reduceCtorEq, si_1, si_2, sa_1, sa_2, sa_3, sl_1, sl_3, isT_0, isT_1, Lt0, Lt1, Lt2, Lt3, Lt4, Lt5, Lt6, Lt7, Lt8, Lt9, Lt10, Lt12, Lt14, Lt18, Lt19, Lt20, Lt22, Lt27, Lt30, Lt31, Lt40, Lt67, Lt99, Lt100, Lt107, Lt147, Lt187, Lt191, Lt211, Lt231, Lt235, Lt237, Lt238, Lt300, Lt358, Lt600, em, ek, X8_isGone_eq_w ho hr (show 5 * (k / 5) + (a (14 + k / 5) + j) < 20 by omega), if_neg (show ¬ inDk a (5 * (k / 5) + (a (14 + k / 5) + j)) 0 = a (211 + (5 * (k / 5) + (a (14 + k / 5) + j))) by omega), Nat.add_assoc]
      · intro self
        have ek : 5 * (k / 5) + (a (14 + k / 5) + 1 + (reachT a (k / 5) - a (14 + k / 5))) - 1 = 5 * (k / 5) + reachT a (k / 5) := by omega
        unfold F_X8_isUselessKind_35 f_X8_kind f_X8_rankOf
        simp (disch := omega) only [↓Lm1, si_si, ob_some, znm_eq, th_some, th_none, tb_some, tb_none, chk_iN, chk_true, clamp_iN, iN_add, iN_mul, iN_sub, iN_div, iN_lt_t, iN_lt_f, iN_le_t, iN_le_f, iN_eq_t, iN_eq_f, iN_m1, m1_iN, iN_zisB, if_true, if_false, ↓reduceIte, Nat.reduceEqDiff, Nat.reduceAdd, Nat.reduceMul, Nat.reduceSub, reduceCtorEq, si_1, si_2, sa_1, sa_2, sa_3, sl_1, sl_3, isT_0, isT_1, Lt0, Lt1, Lt2, Lt3, Lt4, Lt5, Lt6, Lt7, Lt8, Lt9, Lt10, Lt12, Lt14, Lt18, Lt19, Lt20, Lt22, Lt27, Lt30, Lt31, Lt40, Lt67, Lt99, Lt100, Lt107, Lt147, Lt187, Lt191, Lt211, Lt231, Lt235, Lt237, Lt238, Lt300, Lt358, Lt600, em, ek, X8_isGone_eq_w ho hr (show 5 * (k / 5) + reachT a (k / 5) < 20 by omega), if_pos hg]
theorem X8_isCriticalKind_eq_w (ho : okW a) (hr : encR a L (sM.2.2.1 0)) {k : Nat} (hk : k < 20) : f_X8_isCriticalKind NN sM (iN k) = some (iN (lastN a k)) := by
  obtain ⟨b0, b1, b2, b3, b4, b5, b6, b7, b8, b9, b11, b12, b13⟩ := wfB ho.1
  have hq := wfQ ho.1 hk
  have hh := ho.2.2.2 k hk
  have hd := inDk_le b4 k 0
  unfold f_X8_isCriticalKind
  rw [X8_isUselessKind_eq_w ho hr hk, ob_some, show (0 : Int32) = iN 0 from rfl, X8_inDeck_eq ho.1 hr hk (Nat.zero_le _)]
  rcases useG_dec a k with c2 | c2
  · rw [useN_1 c2]
    by_cases c1 : inDk a k 0 = a (211 + k) + 1
    · simp (disch := omega) only [↓Lm1, si_si, ob_some, znm_eq, th_some, th_none, tb_some, tb_none, chk_iN, chk_true, clamp_iN, iN_add, iN_mul, iN_sub, iN_div, iN_lt_t, iN_lt_f, iN_le_t, iN_le_f, iN_eq_t, iN_eq_f, iN_m1, m1_iN, iN_zisB, if_true, if_false, ↓reduceIte, Nat.reduceEqDiff, Nat.reduceAdd, Nat.reduceMul, Nat.reduceSub, reduceCtorEq, si_1, si_2, sa_1, sa_2, sa_3, sl_1, sl_3, isT_0, isT_1, Lt0, Lt1, Lt2, Lt3, Lt4, Lt5, Lt6, Lt7, Lt8, Lt9, Lt10, Lt12, Lt14, Lt18, Lt19, Lt20, Lt22, Lt27, Lt30, Lt31, Lt40, Lt67, Lt99, Lt100, Lt107, Lt147, Lt187, Lt191, Lt211, Lt231, Lt235, Lt237, Lt238, Lt300, Lt358, Lt600, hr.1, lastN_1 c1 c2]
    · simp (disch := omega) only [↓Lm1, si_si, ob_some, znm_eq, th_some, th_none, tb_some, tb_none, chk_iN, chk_true, clamp_iN, iN_add, iN_mul, iN_sub, iN_div, iN_lt_t, iN_lt_f, iN_le_t, iN_le_f, iN_eq_t, iN_eq_f, iN_m1, m1_iN, iN_zisB, if_true, if_false, ↓reduceIte, Nat.reduceEqDiff, Nat.reduceAdd, Nat.reduceMul, Nat.reduceSub, reduceCtorEq, si_1, si_2, sa_1, sa_2, sa_3, sl_1, sl_3, isT_0, isT_1, Lt0, Lt1, Lt2, Lt3, Lt4, Lt5, Lt6, Lt7, Lt8, Lt9, Lt10, Lt12, Lt14, Lt18, Lt19, Lt20, Lt22, Lt27, Lt30, Lt31, Lt40, Lt67, Lt99, Lt100, Lt107, Lt147, Lt187, Lt191, Lt211, Lt231, Lt235, Lt237, Lt238, Lt300, Lt358, Lt600, hr.1, lastN_0 (fun q => c1 q.1)]
  · simp (disch := omega) only [↓Lm1, si_si, ob_some, znm_eq, th_some, th_none, tb_some, tb_none, chk_iN, chk_true, clamp_iN, iN_add, iN_mul, iN_sub, iN_div, iN_lt_t, iN_lt_f, iN_le_t, iN_le_f, iN_eq_t, iN_eq_f, iN_m1, m1_iN, iN_zisB, if_true, if_false, ↓reduceIte, Nat.reduceEqDiff, Nat.reduceAdd, Nat.reduceMul, Nat.reduceSub, reduceCtorEq, si_1, si_2, sa_1, sa_2, sa_3, sl_1, sl_3, isT_0, isT_1, Lt0, Lt1, Lt2, Lt3, Lt4, Lt5, Lt6, Lt7, Lt8, Lt9, Lt10, Lt12, Lt14, Lt18, Lt19, Lt20, Lt22, Lt27, Lt30, Lt31, Lt40, Lt67, Lt99, Lt100, Lt107, Lt147, Lt187, Lt191, Lt211, Lt231, Lt235, Lt237, Lt238, Lt300, Lt358, Lt600, useN_0 c2, lastN_0 (fun q => c2 q.2)]
theorem reachT_spec (ho : okG a) {c : Nat} (hc : c < 4) : a (14 + c) ≤ reachT a c ∧ reachT a c ≤ a 1 ∧ (∀ u, a (14 + c) ≤ u → u < reachT a c → a (211 + (5 * c + u)) < inDk a (5 * c + u) 0) ∧ (reachT a c = a 1 ∨ ¬ a (211 + (5 * c + reachT a c)) < inDk a (5 * c + reachT a c) 0) := reachT_spec_w (okW_of ho) hc
theorem inDk_none (ho : okG a) {k m : Nat} (h : a 1 ≤ k % 5) : inDk a k m = 0 := inDk_none_w (okW_of ho) h
theorem reachT_gone (ho : okG a) {c : Nat} (hc : c < 4) (h : reachT a c < 5) : inDk a (5 * c + reachT a c) 0 = a (211 + (5 * c + reachT a c)) := reachT_gone_w (okW_of ho) hc h
theorem X1_reachableTop_eq (ho : okG a) (hG : encG a L sG) (hu : encRu a ru) {c : Nat} (hc : c < 4) : f_X1_reachableTop NN sG ru (iN c) = some (iN (reachT a c)) := X1_reachableTop_eq_w (okW_of ho) hG hu hc
theorem X1_isOfUse_eq (ho : okG a) (hG : encG a L sG) (hu : encRu a ru) {k : Nat} (hk : k < 20) : f_X1_isOfUse NN sG ru (iN k) = some (iN (useN a k)) := X1_isOfUse_eq_w (okW_of ho) hG hu hk
theorem X1_isLastOne_eq (ho : okG a) (hG : encG a L sG) (hu : encRu a ru) {k : Nat} (hk : k < 20) : f_X1_isLastOne NN sG ru (iN k) = some (iN (lastN a k)) := X1_isLastOne_eq_w (okW_of ho) hG hu hk
theorem X8_isGone_eq (ho : okG a) (hr : encR a L (sM.2.2.1 0)) {k : Nat} (hk : k < 20) : f_X8_isGone NN sM (iN k) = some (iN (if inDk a k 0 = a (211 + k) then 1 else 0)) := X8_isGone_eq_w (okW_of ho) hr hk
theorem X8_isUselessKind_eq (ho : okG a) (hr : encR a L (sM.2.2.1 0)) {k : Nat} (hk : k < 20) : f_X8_isUselessKind NN sM (iN k) = some (iN (1 - useN a k)) := X8_isUselessKind_eq_w (okW_of ho) hr hk
theorem X8_isCriticalKind_eq (ho : okG a) (hr : encR a L (sM.2.2.1 0)) {k : Nat} (hk : k < 20) : f_X8_isCriticalKind NN sM (iN k) = some (iN (lastN a k)) := X8_isCriticalKind_eq_w (okW_of ho) hr hk
end RCH
