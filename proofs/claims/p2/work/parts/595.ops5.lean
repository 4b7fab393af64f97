/-! OWN: the pure half: thinks, thought, knows -/
def cntK (f : Nat → Bool) (n : Nat) : Nat := sumN (fun k => bN (f k)) n
theorem cntK_le (f : Nat → Bool) (n : Nat) : cntK f n ≤ n := by
  have := sumN_le (f := fun k => bN (f k)) (c := 1) (n := n) fun k _ => bN_le _
  unfold cntK
  omega
theorem cntK_1 {f : Nat → Bool} {n : Nat} (h : f n = true) : cntK f (n + 1) = cntK f n + 1 := by
  show cntK f n + bN (f n) = _
  rw [h]; rfl
theorem cntK_0 {f : Nat → Bool} {n : Nat} (h : f n = false) : cntK f (n + 1) = cntK f n := by
  show cntK f n + bN (f n) = _
  rw [h]; rfl
theorem cntK_mono {f : Nat → Bool} {m n : Nat} (h : m ≤ n) : cntK f m ≤ cntK f n := sumN_mono h
theorem bitCount_kset (f : Nat → Bool) : f_J6_bitCount_0f7a4 NN (kset f) = some (iN (cntK f 20)) := by
  rw [bitCount_20 (bnum_lt f 20)]
  congr 2
  refine sumN_congr fun i hi => ?_
  rw [bnum_bit f hi]
  rfl
def subN (f g : Nat → Bool) : Nat → Bool
  | 0 => true
  | n + 1 => subN f g n && (!f n || g n)
theorem subN_t {f g : Nat → Bool} : ∀ {n : Nat}, subN f g n = true ↔ ∀ i, i < n → f i = true → g i = true := by
  intro n
  induction n with
  | zero => exact ⟨fun _ i hi => absurd hi (by omega), fun _ => rfl⟩
  | succ n ih =>
    show (subN f g n && (!f n || g n)) = true ↔ _
    rw [Bool.and_eq_true, ih]
    constructor
    · rintro ⟨h1, h2⟩ i hi hf
      by_cases e : i = n
      · subst e
        rw [hf] at h2
        simpa using h2
      · exact h1 i (by omega) hf
    · intro h
      refine ⟨fun i hi => h i (by omega), ?_⟩
      cases e : f n
      · rfl
      · rw [h n (by omega) e]; rfl
theorem subN_20 (f g : Nat → Bool) : subN f g 20 = subK f g := by
  cases e : subK f g
  · cases e2 : subN f g 20
    · rfl
    · rw [subK_t.mpr (subN_t.mp e2)] at e; cases e
  · exact subN_t.mpr (subK_t.mp e)
theorem cntK_any (f : Nat → Bool) : cntK f 20 = 0 ↔ anyK f = false := by
  rw [anyK_f]
  constructor
  · intro h i hi
    cases e : f i
    · rfl
    · have h1 := cntK_1 e
      have h2 : cntK f (i + 1) ≤ cntK f 20 := cntK_mono (by omega)
      omega
  · intro h
    exact sumN_zero fun i hi => by rw [h i hi]; rfl
/-- which kinds can be played, which are useless; what a player knows of a card with such kinds -/
def nxF (a : Gm) (k : Nat) : Bool := decide (a (14 + k / 5) = k % 5)
noncomputable def uslF (a : Gm) (k : Nat) : Bool := decide (useN a k = 0)
def thF (a : Gm) (p C R k : Nat) : Bool := unsF a p k && mkK C R k
noncomputable def knownN (a : Gm) (f : Nat → Bool) : Nat := if anyK f then (if subK f (nxF a) then 1 else if subK f (uslF a) then 2 else 0) else 0
theorem knownN_le (a : Gm) (f : Nat → Bool) : knownN a f ≤ 2 := by
  unfold knownN
  repeat' split
  all_goals omega
theorem knownN_1 (a : Gm) (f : Nat → Bool) : knownN a f = 1 ↔ (anyK f && subK f (nxF a)) = true := by
  unfold knownN
  cases anyK f <;> cases subK f (nxF a) <;> cases subK f (uslF a) <;> simp
section KNW
variable {a : Gm} {L : Nat → Int32} {sG ru sM : Ob}
theorem X8_isNext_eq (hw : wfG a) (hr : encR a L (sM.2.2.1 0)) {k : Nat} (hk : k < 20) : f_X8_isNext NN sM (iN k) = some (iN (bN (nxF a k))) := by
  have hP := wfP hw (c := k / 5) (by omega)
  unfold f_X8_isNext
  rw [colK hk, rnkK hk]
  cases e : nxF a k
  · have e := of_decide_eq_false e
    simp (disch := omega) only [↓Lm1, si_si, ob_some, znm_eq, th_some, th_none, tb_some, tb_none, chk_iN, chk_true, clamp_iN, iN_add, iN_mul, iN_sub, iN_div, iN_lt_t, iN_lt_f, iN_le_t, iN_le_f, iN_eq_t, iN_eq_f, iN_m1, m1_iN, iN_zisB, if_true, if_false, ↓reduceIte, Nat.reduceEqDiff, Nat.reduceAdd, Nat.reduceMul, Nat.reduceSub, reduceCtorEq, si_1, si_2, sa_1, sa_2, sa_3, sl_1, sl_3, isT_0, isT_1, Lt0, Lt1, Lt2, Lt3, Lt4, Lt5, Lt6, Lt7, Lt8, Lt9, Lt10, Lt12, Lt14, Lt18, Lt19, Lt20, Lt22, Lt27, Lt30, Lt31, Lt40, Lt67, Lt99, Lt100, Lt107, Lt147, Lt187, Lt191, Lt211, Lt231, Lt235, Lt237, Lt238, Lt300, Lt358, Lt600, hr.1]
    rfl
  · have e := of_decide_eq_true e
    simp (disch := omega) only [↓Lm1, si_si, ob_some, znm_eq, th_some, th_none, tb_some, tb_none, chk_iN, chk_true, clamp_iN, iN_add, iN_mul, iN_sub, iN_div, iN_lt_t, iN_lt_f, iN_le_t, iN_le_f, iN_eq_t, iN_eq_f, iN_m1, m1_iN, iN_zisB, if_true, if_false, ↓reduceIte, Nat.reduceEqDiff, Nat.reduceAdd, Nat.reduceMul, Nat.reduceSub, reduceCtorEq, si_1, si_2, sa_1, sa_2, sa_3, sl_1, sl_3, isT_0, isT_1, Lt0, Lt1, Lt2, Lt3, Lt4, Lt5, Lt6, Lt7, Lt8, Lt9, Lt10, Lt12, Lt14, Lt18, Lt19, Lt20, Lt22, Lt27, Lt30, Lt31, Lt40, Lt67, Lt99, Lt100, Lt107, Lt147, Lt187, Lt191, Lt211, Lt231, Lt235, Lt237, Lt238, Lt300, Lt358, Lt600, hr.1]
    rfl
theorem X8_knownOf_eq (ho : okG a) (hr : encR a L (sM.2.2.1 0)) {p C R : Nat} (hp : p < 4) : f_X8_knownOf NN sM (iN p) (iN C) (iN R) = some (iN (knownN a (thF a p C R))) := by
  have hw := ho.1
  unfold f_X8_knownOf f_X8_knownOf_12
  refine loop4 (fun n => iN (bN (subN (thF a p C R) (nxF a) n))) (fun n => iN (bN (subN (thF a p C R) (uslF a) n))) (fun n => iN (cntK (thF a p C R) n)) (fun n => iN n) 20 ?_ ?_ NN 0 (by omega) (nnb (by omega))
  · intro n hn self
    have hc := cntK_le (thF a p C R) n
    have s1 : subN (thF a p C R) (nxF a) (n + 1) = (subN (thF a p C R) (nxF a) n && (!thF a p C R n || nxF a n)) := rfl
    have s2 : subN (thF a p C R) (uslF a) (n + 1) = (subN (thF a p C R) (uslF a) n && (!thF a p C R n || uslF a n)) := rfl
    have e1 : f_X8_isThought NN sM (iN p) (iN n) (iN C) (iN R) = some (iN (bN (thF a p C R n))) := X8_isThought_eq ho hr hp hn
    have eU := useN_le a n
    unfold F_X8_knownOf_12
    rw [if_neg (show ¬ (20 : Int32) ≤ iN n from fun q => absurd ((iN_le (a := 20) (by omega) (by omega)).mp q) (by omega)), e1, ob_some, show iN n + 1 = iN (n + 1) from iN_add n 1]
    cases c1 : thF a p C R n
    · rw [if_pos bN0, s1, s2, c1, cntK_0 c1, Bool.not_false, Bool.true_or, Bool.true_or, Bool.and_true, Bool.and_true]
    · rw [if_neg (show ¬ iN (bN true) = 0 by decide), s1, s2, c1, cntK_1 c1, show iN (cntK (thF a p C R) n) + 1 = iN (cntK (thF a p C R) n + 1) from iN_add _ 1]
      rw [Bool.not_true, Bool.false_or, Bool.false_or]
      have h53 : ∀ t : Int32, f_X8_knownOf_53 NN sM (iN p) (iN C) (iN R) self (iN (bN (subN (thF a p C R) (uslF a) n))) (iN (cntK (thF a p C R) n + 1)) (iN n) t = self t (iN (bN (subN (thF a p C R) (uslF a) n && uslF a n))) (iN (cntK (thF a p C R) n + 1)) (iN (n + 1)) := by
        intro t
        unfold f_X8_knownOf_53
        rw [show iN n + 1 = iN (n + 1) from iN_add n 1]
        cases c2 : subN (thF a p C R) (uslF a) n
        · rw [if_pos bN0, Bool.false_and]; rfl
        · rw [if_neg (show ¬ iN (bN true) = 0 by decide), Bool.true_and, X8_isUselessKind_eq ho hr hn, ob_some]
          cases c3 : uslF a n
          · have c3 := of_decide_eq_false c3
            rw [show useN a n = 1 by omega, if_pos (show iN (1 - 1) = 0 from rfl)]; rfl
          · have c3 := of_decide_eq_true c3
            rw [c3, if_neg (show ¬ iN (1 - 0) = 0 by decide)]; rfl
      unfold f_X8_knownOf_52
      cases c4 : subN (thF a p C R) (nxF a) n
      · rw [if_pos bN0, Bool.false_and, h53]; rfl
      · rw [if_neg (show ¬ iN (bN true) = 0 by decide), Bool.true_and, X8_isNext_eq hw hr hn, ob_some]
        cases c5 : nxF a n
        · rw [if_pos bN0, h53]; rfl
        · rw [if_neg (show ¬ iN (bN true) = 0 by decide), h53]; rfl
  · intro self
    have hc := cntK_le (thF a p C R) 20
    unfold F_X8_knownOf_12
    rw [if_pos (by decide), subN_20, subN_20]
    unfold knownN
    cases c1 : anyK (thF a p C R)
    · rw [(cntK_any _).mpr c1]; rfl
    · rw [if_neg (fun q => by
        have := (cntK_any _).mp ((iN_inj (b := 0) (by omega) (by omega)).mp q)
        rw [c1] at this; cases this)]
      cases subK (thF a p C R) (nxF a) <;> cases subK (thF a p C R) (uslF a) <;> rfl
theorem X8_known_eq (ho : okG a) (hr : encR a L (sM.2.2.1 0)) {p j : Nat} (hp : p < 4) (hj : j < a (187 + p)) : f_X8_known NN sM (iN p) (iN j) = some (iN (knownN a (thF a p (a (67 + a (191 + (5 * p + j)))) (a (107 + a (191 + (5 * p + j))))))) := by
  have hw := ho.1
  obtain ⟨b0, b1, b2, b3, b4, b5, b6, b7, b8, b9, b11, b12, b13⟩ := wfB hw
  have hh := wfH hw hp hj
  unfold f_X8_known
  rw [he_eq hw hr hp hj]
  simp (disch := omega) only [↓Lm1, si_si, ob_some, znm_eq, th_some, th_none, tb_some, tb_none, chk_iN, chk_true, clamp_iN, iN_add, iN_mul, iN_sub, iN_div, iN_lt_t, iN_lt_f, iN_le_t, iN_le_f, iN_eq_t, iN_eq_f, iN_m1, m1_iN, iN_zisB, if_true, if_false, ↓reduceIte, Nat.reduceEqDiff, Nat.reduceAdd, Nat.reduceMul, Nat.reduceSub, reduceCtorEq, si_1, si_2, sa_1, sa_2, sa_3, sl_1, sl_3, isT_0, isT_1, Lt0, Lt1, Lt2, Lt3, Lt4, Lt5, Lt6, Lt7, Lt8, Lt9, Lt10, Lt12, Lt14, Lt18, Lt19, Lt20, Lt22, Lt27, Lt30, Lt31, Lt40, Lt67, Lt99, Lt100, Lt107, Lt147, Lt187, Lt191, Lt211, Lt231, Lt235, Lt237, Lt238, Lt300, Lt358, Lt600, hr.1, X8_knownOf_eq ho hr hp]
theorem X8_thoughtAt_none (ho : okG a) (hr : encR a L (sM.2.2.1 0)) {p j : Nat} {q : Int32} (hp : p < 4) (hj : j < a (187 + p)) (hq : ∀ k, k < 20 → thF a p (a (67 + a (191 + (5 * p + j)))) (a (107 + a (191 + (5 * p + j)))) k = true → ¬ iN (cntK (thF a p (a (67 + a (191 + (5 * p + j)))) (a (107 + a (191 + (5 * p + j))))) k) = q) : f_X8_thoughtAt NN sM (iN p) (iN j) q = some (if q = -1 then iN (cntK (thF a p (a (67 + a (191 + (5 * p + j)))) (a (107 + a (191 + (5 * p + j))))) 20) else -1) := by
  have hw := ho.1
  obtain ⟨b0, b1, b2, b3, b4, b5, b6, b7, b8, b9, b11, b12, b13⟩ := wfB hw
  have hh := wfH hw hp hj
  unfold f_X8_thoughtAt f_X8_thoughtAt_14
  rw [he_eq hw hr hp hj, ob_some]
  generalize hcd : a (191 + (5 * p + j)) = cd at *
  refine loop3 (fun _ => iN cd) (fun n => iN (cntK (thF a p (a (67 + cd)) (a (107 + cd))) n)) (fun n => iN n) 20 ?_ ?_ NN 0 (by omega) (nnb (by omega))
  · intro n hn self
    have hc := cntK_le (thF a p (a (67 + cd)) (a (107 + cd))) n
    have e1 : f_X8_isThought NN sM (iN p) (iN n) (iN (a (67 + cd))) (iN (a (107 + cd))) = some (iN (bN (thF a p (a (67 + cd)) (a (107 + cd)) n))) := X8_isThought_eq ho hr hp hn
    have hq := hq n hn
    unfold F_X8_thoughtAt_14
    cases c1 : thF a p (a (67 + cd)) (a (107 + cd)) n
    · rw [c1] at e1
      have e1 : f_X8_isThought NN sM (iN p) (iN n) (iN (a (67 + cd))) (iN (a (107 + cd))) = some (iN 0) := e1
      rw [cntK_0 c1]
      simp (disch := omega) only [↓Lm1, si_si, ob_some, znm_eq, th_some, th_none, tb_some, tb_none, chk_iN, chk_true, clamp_iN, iN_add, iN_mul, iN_sub, iN_div, iN_lt_t, iN_lt_f, iN_le_t, iN_le_f, iN_eq_t, iN_eq_f, iN_m1, m1_iN, iN_zisB, if_true, if_false, ↓reduceIte, Nat.reduceEqDiff, Nat.reduceAdd, Nat.reduceMul, Nat.reduceSub, reduceCtorEq, si_1, si_2, sa_1, sa_2, sa_3, sl_1, sl_3, isT_0, isT_1, Lt0, Lt1, Lt2, Lt3, Lt4, Lt5, Lt6, Lt7, Lt8, Lt9, Lt10, Lt12, Lt14, Lt18, Lt19, Lt20, Lt22, Lt27, Lt30, Lt31, Lt40, Lt67, Lt99, Lt100, Lt107, Lt147, Lt187, Lt191, Lt211, Lt231, Lt235, Lt237, Lt238, Lt300, Lt358, Lt600, hr.1, e1]
    · rw [c1] at e1
      have e1 : f_X8_isThought NN sM (iN p) (iN n) (iN (a (67 + cd))) (iN (a (107 + cd))) = some (iN 1) := e1
      have hq := eq_false (hq c1)
      rw [cntK_1 c1]
      simp (disch := omega) only [↓Lm1, si_si, ob_some, znm_eq, th_some, th_none, tb_some, tb_none, chk_iN, chk_true, clamp_iN, iN_add, iN_mul, iN_sub, iN_div, iN_lt_t, iN_lt_f, iN_le_t, iN_le_f, iN_eq_t, iN_eq_f, iN_m1, m1_iN, iN_zisB, if_true, if_false, ↓reduceIte, Nat.reduceEqDiff, Nat.reduceAdd, Nat.reduceMul, Nat.reduceSub, reduceCtorEq, si_1, si_2, sa_1, sa_2, sa_3, sl_1, sl_3, isT_0, isT_1, Lt0, Lt1, Lt2, Lt3, Lt4, Lt5, Lt6, Lt7, Lt8, Lt9, Lt10, Lt12, Lt14, Lt18, Lt19, Lt20, Lt22, Lt27, Lt30, Lt31, Lt40, Lt67, Lt99, Lt100, Lt107, Lt147, Lt187, Lt191, Lt211, Lt231, Lt235, Lt237, Lt238, Lt300, Lt358, Lt600, hr.1, e1, hq]
  · intro self
    unfold F_X8_thoughtAt_14
    rw [if_pos (by decide)]
    by_cases e : q = -1
    · rw [if_pos e, if_pos e]
    · rw [if_neg e, if_neg e]
theorem X8_thoughtAt_some (ho : okG a) (hr : encR a L (sM.2.2.1 0)) {p j k0 : Nat} (hp : p < 4) (hj : j < a (187 + p)) (hk : k0 < 20) (hf : thF a p (a (67 + a (191 + (5 * p + j)))) (a (107 + a (191 + (5 * p + j)))) k0 = true) : f_X8_thoughtAt NN sM (iN p) (iN j) (iN (cntK (thF a p (a (67 + a (191 + (5 * p + j)))) (a (107 + a (191 + (5 * p + j))))) k0)) = some (iN (10 * (k0 / 5) + k0 % 5 + 1)) := by
  have hw := ho.1
  obtain ⟨b0, b1, b2, b3, b4, b5, b6, b7, b8, b9, b11, b12, b13⟩ := wfB hw
  have hh := wfH hw hp hj
  unfold f_X8_thoughtAt f_X8_thoughtAt_14
  rw [he_eq hw hr hp hj, ob_some]
  generalize hcd : a (191 + (5 * p + j)) = cd at *
  have hc0 := cntK_le (thF a p (a (67 + cd)) (a (107 + cd))) k0
  refine loop3 (fun _ => iN cd) (fun n => iN (cntK (thF a p (a (67 + cd)) (a (107 + cd))) n)) (fun n => iN n) k0 ?_ ?_ NN 0 (by omega) (nnb (by omega))
  · intro n hn self
    have hc := cntK_le (thF a p (a (67 + cd)) (a (107 + cd))) n
    have e1 : f_X8_isThought NN sM (iN p) (iN n) (iN (a (67 + cd))) (iN (a (107 + cd))) = some (iN (bN (thF a p (a (67 + cd)) (a (107 + cd)) n))) := X8_isThought_eq ho hr hp (by omega)
    unfold F_X8_thoughtAt_14
    cases c1 : thF a p (a (67 + cd)) (a (107 + cd)) n
    · rw [c1] at e1
      have e1 : f_X8_isThought NN sM (iN p) (iN n) (iN (a (67 + cd))) (iN (a (107 + cd))) = some (iN 0) := e1
      rw [cntK_0 c1]
      simp (disch := omega) only [↓Lm1, si_si, ob_some, znm_eq, th_some, th_none, tb_some, tb_none, chk_iN, chk_true, clamp_iN, iN_add, iN_mul, iN_sub, iN_div, iN_lt_t, iN_lt_f, iN_le_t, iN_le_f, iN_eq_t, iN_eq_f, iN_m1, m1_iN, iN_zisB, if_true, if_false, ↓reduceIte, Nat.reduceEqDiff, Nat.reduceAdd, Nat.reduceMul, Nat.reduceSub, reduceCtorEq, si_1, si_2, sa_1, sa_2, sa_3, sl_1, sl_3, isT_0, isT_1, Lt0, Lt1, Lt2, Lt3, Lt4, Lt5, Lt6, Lt7, Lt8, Lt9, Lt10, Lt12, Lt14, Lt18, Lt19, Lt20, Lt22, Lt27, Lt30, Lt31, Lt40, Lt67, Lt99, Lt100, Lt107, Lt147, Lt187, Lt191, Lt211, Lt231, Lt235, Lt237, Lt238, Lt300, Lt358, Lt600, hr.1, e1]
    · rw [c1] at e1
      have e1 : f_X8_isThought NN sM (iN p) (iN n) (iN (a (67 + cd))) (iN (a (107 + cd))) = some (iN 1) := e1
      have hm : cntK (thF a p (a (67 + cd)) (a (107 + cd))) (n + 1) ≤ cntK (thF a p (a (67 + cd)) (a (107 + cd))) k0 := cntK_mono (by omega)
      rw [cntK_1 c1] at hm ⊢
      simp (disch := omega) only [↓Lm1, si_si, ob_some, znm_eq, th_some, th_none, tb_some, tb_none, chk_iN, chk_true, clamp_iN, iN_add, iN_mul, iN_sub, iN_div, iN_lt_t, iN_lt_f, iN_le_t, iN_le_f, iN_eq_t, iN_eq_f, iN_m1, m1_iN, iN_zisB, if_true, if_false, ↓reduceIte, Nat.reduceEqDiff, Nat.reduceAdd, Nat.reduceMul, Nat.reduceSub, reduceCtorEq, si_1, si_2, sa_1, sa_2, sa_3, sl_1, sl_3, isT_0, isT_1, Lt0, Lt1, Lt2, Lt3, Lt4, Lt5, Lt6, Lt7, Lt8, Lt9, Lt10, Lt12, Lt14, Lt18, Lt19, Lt20, Lt22, Lt27, Lt30, Lt31, Lt40, Lt67, Lt99, Lt100, Lt107, Lt147, Lt187, Lt191, Lt211, Lt231, Lt235, Lt237, Lt238, Lt300, Lt358, Lt600, hr.1, e1]
  · intro self
    have e1 : f_X8_isThought NN sM (iN p) (iN k0) (iN (a (67 + cd))) (iN (a (107 + cd))) = some (iN (bN (thF a p (a (67 + cd)) (a (107 + cd)) k0))) := X8_isThought_eq ho hr hp hk
    rw [hf] at e1
    have e1 : f_X8_isThought NN sM (iN p) (iN k0) (iN (a (67 + cd))) (iN (a (107 + cd))) = some (iN 1) := e1
    unfold F_X8_thoughtAt_14
    simp (disch := omega) only [↓Lm1, si_si, ob_some, znm_eq, th_some, th_none, tb_some, tb_none, chk_iN, chk_true, clamp_iN, iN_add, iN_mul, iN_sub, iN_div, iN_lt_t, iN_lt_f, iN_le_t, iN_le_f, iN_eq_t, iN_eq_f, iN_m1, m1_iN, iN_zisB, if_true, if_false, ↓reduceIte, Nat.reduceEqDiff, Nat.reduceAdd, Nat.reduceMul, Nat.reduceSub, reduceCtorEq, si_1, si_2, sa_1, sa_2, sa_3, sl_1, sl_3, isT_0, isT_1, Lt0, Lt1, Lt2, Lt3, Lt4, Lt5, Lt6, Lt7, Lt8, Lt9, Lt10, Lt12, Lt14, Lt18, Lt19, Lt20, Lt22, Lt27, Lt30, Lt31, Lt40, Lt67, Lt99, Lt100, Lt107, Lt147, Lt187, Lt191, Lt211, Lt231, Lt235, Lt237, Lt238, Lt300, Lt358, Lt600, hr.1, e1, to_eq hk]
theorem bset_blk {F g : Nat → Bool} {c : Nat} (hc : c < 4) (h : ∀ j, j < 5 → F (5 * c + j) = g j) : bset F (5 * c) ||| (bset g 5 <<< (iN (5 * c) &&& 31)) = bset F (5 * (c + 1)) := bset_of fun i hi => by
  rw [bit_or, bit_bset _ _ hi, bit_shl _ (by omega) hi]
  by_cases h1 : i < 5 * c
  · have h2 : i < 5 * (c + 1) := by omega
    simp [h1, h2]
  · rw [bit_bset _ _ (by omega)]
    by_cases h3 : i < 5 * (c + 1)
    · have h4 : i - 5 * c < 5 := by omega
      have := h (i - 5 * c) h4
      rw [show 5 * c + (i - 5 * c) = i by omega] at this
      simp [h1, h3, h4, this]
    · have h4 : ¬ i - 5 * c < 5 := by omega
      simp [h1, h3, h4]
theorem blkP : ∀ t : Fin 6, ((1 : Int32) <<< (iN t.val &&& 31)) &&& 31 = bset (fun j => decide (t.val = j)) 5 := by decide
theorem blkU : ∀ t r : Fin 6, (31 : Int32) &&& ((((1 : Int32) <<< (iN r.val &&& 31)) - ((1 : Int32) <<< (iN t.val &&& 31))) ^^^ (-1 : Int32)) = bset (fun j => decide (t.val ≤ r.val → ¬ (t.val ≤ j ∧ j < r.val)) ) 5 ∨ ¬ t.val ≤ r.val := by decide
def playF (a : Gm) (k : Nat) : Bool := decide (k / 5 < a 0) && nxF a k
noncomputable def lessF (a : Gm) (k : Nat) : Bool := decide (k / 5 < a 0) && uslF a k
theorem kset_blk {F G : Nat → Bool} {c : Nat} (hc : c ≤ 4) (h : ∀ i, i < 20 → (decide (i < 5 * c) && F i) = G i) : bset F (5 * c) = kset G := bset_of fun i hi => by
  rw [bit_bset _ _ hi]
  by_cases e : i < 20
  · rw [h i e, decide_eq_true e, Bool.true_and]
  · rw [decide_eq_false e, decide_eq_false (show ¬ i < 5 * c by omega), Bool.false_and, Bool.false_and]
theorem X1_playableKinds_eq (hw : wfG a) (hG : encG a L sG) (hu : encRu a ru) : f_X1_playableKinds NN sG ru = some (kset (playF a)) := by
  have h0 := hw.1
  have gT := hG.2.2.2.2.2.2.2.2.2.2.1
  have hf : bset (nxF a) (5 * a 0) = kset (playF a) := kset_blk h0 fun i hi => by
    unfold playF
    have : decide (i < 5 * a 0) = decide (i / 5 < a 0) := decide_eq_decide.mpr (by omega)
    rw [this]
  rw [← hf]
  unfold f_X1_playableKinds f_X1_playableKinds_4
  refine loop2 (fun c => bset (nxF a) (5 * c)) (fun c => iN c) (a 0) ?_ ?_ NN 0 (by omega) (nnb (by omega))
  · intro c hc self
    have hP := wfP hw (c := c) (by omega)
    unfold F_X1_playableKinds_4
    rw [hu.1, if_neg (fun q => absurd ((iN_le (by omega) (by omega)).mp q) (by omega)), X1_topOf_eq (by omega), ob_some, gT c (by omega), znm_eq, blkP ⟨a (14 + c), by omega⟩, show iN c * 5 = iN (5 * c) from by rw [Nat.mul_comm]; exact iN_mul c 5, show iN c + 1 = iN (c + 1) from iN_add c 1]
    rw [bset_blk (F := nxF a) (by omega) (fun j hj => ?_)]
    unfold nxF
    rw [show (5 * c + j) / 5 = c by omega, show (5 * c + j) % 5 = j by omega]
  · intro self
    unfold F_X1_playableKinds_4
    rw [hu.1, if_pos ((iN_le (by omega) (by omega)).mpr (Nat.le_refl _))]
theorem X1_uselessKinds_eq (ho : okG a) (hG : encG a L sG) (hu : encRu a ru) : f_X1_uselessKinds NN sG ru = some (kset (lessF a)) := by
  have hw := ho.1
  have h0 := hw.1
  have gT := hG.2.2.2.2.2.2.2.2.2.2.1
  have hf : bset (uslF a) (5 * a 0) = kset (lessF a) := kset_blk h0 fun i hi => by
    unfold lessF
    have : decide (i < 5 * a 0) = decide (i / 5 < a 0) := decide_eq_decide.mpr (by omega)
    rw [this]
  rw [← hf]
  unfold f_X1_uselessKinds f_X1_uselessKinds_4
  refine loop2 (fun c => bset (uslF a) (5 * c)) (fun c => iN c) (a 0) ?_ ?_ NN 0 (by omega) (nnb (by omega))
  · intro c hc self
    have hP := wfP hw (c := c) (by omega)
    obtain ⟨i1, i2, i3, i4⟩ := reachT_spec ho (c := c) (by omega)
    have h1 := hw.2.1
    unfold F_X1_uselessKinds_4
    rw [hu.1, if_neg (fun q => absurd ((iN_le (by omega) (by omega)).mp q) (by omega)), X1_reachableTop_eq ho hG hu (by omega), ob_some, X1_topOf_eq (by omega), ob_some, gT c (by omega), znm_eq]
    rcases blkU ⟨a (14 + c), by omega⟩ ⟨reachT a c, by omega⟩ with e | e
    · rw [e, show iN c * 5 = iN (5 * c) from by rw [Nat.mul_comm]; exact iN_mul c 5, show iN c + 1 = iN (c + 1) from iN_add c 1]
      rw [bset_blk (F := uslF a) (by omega) (fun j hj => ?_)]
      unfold uslF useN
      rw [show (5 * c + j) / 5 = c by omega, show (5 * c + j) % 5 = j by omega]
      refine decide_eq_decide.mpr ?_
      show (if _ then 1 else 0) = 0 ↔ (a (14 + c) ≤ reachT a c → ¬ (a (14 + c) ≤ j ∧ j < reachT a c))
      split <;> omega
    · exact absurd i1 e
  · intro self
    unfold F_X1_uselessKinds_4
    rw [hu.1, if_pos ((iN_le (by omega) (by omega)).mpr (Nat.le_refl _))]
theorem sub_play (ho : okG a) {p C R : Nat} : subK (thF a p C R) (playF a) = subK (thF a p C R) (nxF a) := subK_congr fun i _ h => by
  unfold thF at h
  rw [Bool.and_eq_true] at h
  unfold playF
  rw [decide_eq_true (unsF_color ho h.1).1, Bool.true_and]
theorem sub_less (ho : okG a) {p C R : Nat} : subK (thF a p C R) (lessF a) = subK (thF a p C R) (uslF a) := subK_congr fun i _ h => by
  unfold thF at h
  rw [Bool.and_eq_true] at h
  unfold lessF
  rw [decide_eq_true (unsF_color ho h.1).1, Bool.true_and]
theorem possible_eq (ho : okG a) (hG : encG a L sG) (hu : encRu a ru) (sX sMi : Ob) {p k : Nat} (hp : p < 4) (hk : k < 40) : ∃ s', f_X7_possibleKinds NN sX sMi sG ru (iN p) (iN k) = some (kset (thF a p (a (67 + k)) (a (107 + k))), s') := by
  obtain ⟨s', e⟩ := unseenKinds_eq ho hG hu sMi hp
  refine ⟨s', ?_⟩
  unfold f_X7_possibleKinds
  rw [e, ob_some, klf_eq hG hk, ob_some, kset_and]
  rfl
end KNW
