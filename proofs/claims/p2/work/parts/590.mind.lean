/-! OWN: the pure half: what a player thinks possible -/
theorem sumN_mono {f : Nat → Nat} {m : Nat} : ∀ {n : Nat}, m ≤ n → sumN f m ≤ sumN f n := by
  intro n
  induction n with
  | zero => intro h; rw [show m = 0 by omega]; exact Nat.le_refl _
  | succ n ih =>
    intro h
    by_cases e : m = n + 1
    · rw [e]; exact Nat.le_refl _
    · have := ih (by omega)
      show _ ≤ sumN f n + f n
      omega
theorem sumN_mono2 {f g : Nat → Nat} : ∀ {n : Nat}, (∀ k, k < n → f k ≤ g k) → sumN f n ≤ sumN g n := by
  intro n
  induction n with
  | zero => intro _; exact Nat.le_refl _
  | succ n ih =>
    intro h
    have := ih (fun k hk => h k (by omega))
    have := h n (by omega)
    show sumN f n + f n ≤ sumN g n + g n
    omega
theorem colK {k : Nat} (h : k < 20) : f_X8_colorOf NN (iN k) = some (iN (k / 5)) := by
  unfold f_X8_colorOf
  simp (disch := omega) only [↓Lm1, si_si, ob_some, znm_eq, th_some, th_none, tb_some, tb_none, chk_iN, chk_true, clamp_iN, iN_add, iN_mul, iN_sub, iN_div, iN_lt_t, iN_lt_f, iN_le_t, iN_le_f, iN_eq_t, iN_eq_f, iN_m1, m1_iN, iN_zisB, if_true, if_false, ↓reduceIte, Nat.reduceEqDiff, Nat.reduceAdd, Nat.reduceMul, Nat.reduceSub, reduceCtorEq, si_1, si_2, sa_1, sa_2, sa_3, sl_1, sl_3, isT_0, isT_1, Lt0, Lt1, Lt2, Lt3, Lt4, Lt5, Lt6, Lt7, Lt8, Lt9, Lt10, Lt12, Lt14, Lt18, Lt19, Lt20, Lt22, Lt27, Lt30, Lt31, Lt40, Lt67, Lt99, Lt100, Lt107, Lt147, Lt187, Lt191, Lt211, Lt231, Lt235, Lt237, Lt238, Lt300, Lt358, Lt600]
theorem rnkK {k : Nat} (h : k < 20) : f_X8_rankOf NN (iN k) = some (iN (k % 5 + 1)) := by
  have e : k - k / 5 * 5 = k % 5 := by omega
  unfold f_X8_rankOf
  simp (disch := omega) only [↓Lm1, si_si, ob_some, znm_eq, th_some, th_none, tb_some, tb_none, chk_iN, chk_true, clamp_iN, iN_add, iN_mul, iN_sub, iN_div, iN_lt_t, iN_lt_f, iN_le_t, iN_le_f, iN_eq_t, iN_eq_f, iN_m1, m1_iN, iN_zisB, if_true, if_false, ↓reduceIte, Nat.reduceEqDiff, Nat.reduceAdd, Nat.reduceMul, Nat.reduceSub, reduceCtorEq, si_1, si_2, sa_1, sa_2, sa_3, sl_1, sl_3, isT_0, isT_1, Lt0, Lt1, Lt2, Lt3, Lt4, Lt5, Lt6, Lt7, Lt8, Lt9, Lt10, Lt12, Lt14, Lt18, Lt19, Lt20, Lt22, Lt27, Lt30, Lt31, Lt40, Lt67, Lt99, Lt100, Lt107, Lt147, Lt187, Lt191, Lt211, Lt231, Lt235, Lt237, Lt238, Lt300, Lt358, Lt600, e]
def pileN (a : Gm) (k : Nat) : Nat := if k % 5 < a (14 + k / 5) then 1 else 0
theorem pileN_le (a : Gm) (k : Nat) : pileN a k ≤ 1 := by unfold pileN; split <;> omega
/-- a player does not see all cards of a kind -/
def unsF (a : Gm) (p k : Nat) : Bool := decide (a (211 + k) + pileN a k + heldN a k p < inDk a k 0)
theorem okCnt' {a : Gm} (ho : okG a) {k : Nat} (hk : k < 20) : a (211 + k) + heldN a k 9 + inDk a k (a 5) + pileN a k = inDk a k 0 := okCnt ho hk
theorem heldN_le9 (a : Gm) (k p : Nat) : heldN a k p ≤ heldN a k 9 := by
  refine sumN_mono2 fun j hj => ?_
  show (if j = p then 0 else inH a k j) ≤ (if j = 9 then 0 else inH a k j)
  rw [if_neg (show ¬ j = 9 by omega)]
  split <;> omega
theorem unsF_color {a : Gm} (ho : okG a) {p k : Nat} (h : unsF a p k = true) : k / 5 < a 0 ∧ k % 5 < a 1 := by
  have h := of_decide_eq_true h
  have : ∃ j, j < a 4 ∧ a (27 + j) = k := by
    apply Classical.byContradiction
    intro hn
    have : inDk a k 0 = 0 := sumN_zero fun j hj => if_neg fun q => hn ⟨j, hj, q.2⟩
    omega
  obtain ⟨j, hj, e⟩ := this
  have := okK ho hj
  rw [e] at this
  exact this
section MND
variable {a : Gm} {L : Nat → Int32} {sG ru sM : Ob}
theorem bitz {C c : Nat} (h : c < 32) : ((iN C >>> (iN c &&& 31)) &&& 1 = 0) ↔ C.testBit c = false := by
  rw [shr1_eq0 _ h, bit_iN _ _ h]
theorem X8_isThought_eq (ho : okG a) (hr : encR a L (sM.2.2.1 0)) {p k C R : Nat} (hp : p < 4) (hk : k < 20) : f_X8_isThought NN sM (iN p) (iN k) (iN C) (iN R) = some (iN (bN (unsF a p k && mkK C R k))) := by
  have hw := ho.1
  obtain ⟨b0, b1, b2, b3, b4, b5, b6, b7, b8, b9, b11, b12, b13⟩ := wfB hw
  have hP := wfP hw (c := k / 5) (by omega)
  have hQ := wfQ hw hk
  have hd := inDk_le b4 k 0
  have hh := heldN_le hw k p
  have e9 : ∀ t : Nat, t = pileN a k → f_X8_isThought_51 NN sM (iN p) (iN k) (iN C) (iN R) (iN t) = some (iN (bN (unsF a p k))) := by
    intro t ht
    have := pileN_le a k
    unfold f_X8_isThought_51
    rw [show (0 : Int32) = iN 0 from rfl, X8_inDeck_eq hw hr hk (Nat.zero_le _), X8_inHands_eq hw hr hk (but := p) (fun p' hp' => iN_inj (by omega) (by omega))]
    cases e : unsF a p k
    · have e := of_decide_eq_false e
      simp (disch := omega) only [↓Lm1, si_si, ob_some, znm_eq, th_some, th_none, tb_some, tb_none, chk_iN, chk_true, clamp_iN, iN_add, iN_mul, iN_sub, iN_div, iN_lt_t, iN_lt_f, iN_le_t, iN_le_f, iN_eq_t, iN_eq_f, iN_m1, m1_iN, iN_zisB, if_true, if_false, ↓reduceIte, Nat.reduceEqDiff, Nat.reduceAdd, Nat.reduceMul, Nat.reduceSub, reduceCtorEq, si_1, si_2, sa_1, sa_2, sa_3, sl_1, sl_3, isT_0, isT_1, Lt0, Lt1, Lt2, Lt3, Lt4, Lt5, Lt6, Lt7, Lt8, Lt9, Lt10, Lt12, Lt14, Lt18, Lt19, Lt20, Lt22, Lt27, Lt30, Lt31, Lt40, Lt67, Lt99, Lt100, Lt107, Lt147, Lt187, Lt191, Lt211, Lt231, Lt235, Lt237, Lt238, Lt300, Lt358, Lt600, hr.1]
      rfl
    · have e := of_decide_eq_true e
      simp (disch := omega) only [↓Lm1, si_si, ob_some, znm_eq, th_some, th_none, tb_some, tb_none, chk_iN, chk_true, clamp_iN, iN_add, iN_mul, iN_sub, iN_div, iN_lt_t, iN_lt_f, iN_le_t, iN_le_f, iN_eq_t, iN_eq_f, iN_m1, m1_iN, iN_zisB, if_true, if_false, ↓reduceIte, Nat.reduceEqDiff, Nat.reduceAdd, Nat.reduceMul, Nat.reduceSub, reduceCtorEq, si_1, si_2, sa_1, sa_2, sa_3, sl_1, sl_3, isT_0, isT_1, Lt0, Lt1, Lt2, Lt3, Lt4, Lt5, Lt6, Lt7, Lt8, Lt9, Lt10, Lt12, Lt14, Lt18, Lt19, Lt20, Lt22, Lt27, Lt30, Lt31, Lt40, Lt67, Lt99, Lt100, Lt107, Lt147, Lt187, Lt191, Lt211, Lt231, Lt235, Lt237, Lt238, Lt300, Lt358, Lt600, hr.1]
      rfl
  unfold f_X8_isThought
  rw [colK hk, rnkK hk]
  simp only [ob_some]
  have e1 : iN (k % 5 + 1) - 1 = iN (k % 5) := iN_sub (a := k % 5 + 1) (b := 1) (by omega)
  rw [e1]
  unfold mkK
  cases c1 : C.testBit (k / 5)
  · rw [if_pos ((bitz (by omega)).mpr c1)]
    simp [bN]
    rfl
  · rw [if_neg (fun q => by rw [(bitz (by omega)).mp q] at c1; cases c1)]
    cases c2 : R.testBit (k % 5)
    · rw [if_pos ((bitz (by omega)).mpr c2)]
      simp [bN]
      rfl
    · rw [if_neg (fun q => by rw [(bitz (by omega)).mp q] at c2; cases c2)]
      rw [Bool.and_self, Bool.and_true, show (14 : Int32) + iN (k / 5) = iN (14 + k / 5) from iN_add 14 (k / 5), chk_iN (by omega) (by omega), clamp_iN (by omega), hr.1 _ (by omega) (by omega)]
      by_cases c3 : k % 5 < a (14 + k / 5)
      · rw [if_neg (iN_lt_lit (by omega) (by omega) (by omega)), show (1 : Int32) = iN 1 from rfl, e9 1 (by unfold pileN; rw [if_pos c3])]
      · rw [if_pos ((iN_lt (by omega) (by omega)).mpr (by omega)), show (0 : Int32) = iN 0 from rfl, e9 0 (by unfold pileN; rw [if_neg c3])]
theorem sa_upd {s : Ob} {g g' : Nat → Int32} {j : Nat} {v : Int32} (h : ∀ k, (if k = j then v else g k) = g' k) : sa (sa s 0 g) 0 (upd g j v) = sa s 0 g' := by
  have e : upd g j v = g' := funext fun k => by
    rw [← h k]
    by_cases e : k = j
    · rw [if_pos e, e, pk_us]
    · rw [if_neg e, pk_un e]
  rw [e]
  unfold sa
  simp only
  congr 3
  funext i
  split <;> rfl
theorem sa_get (s : Ob) (g : Nat → Int32) : (sa s 0 g).2.2.1 0 = g := id rfl
theorem sa_self {s : Ob} {g : Nat → Int32} (h : ∀ k, g k = s.2.2.1 0 k) : sa s 0 g = s := by
  have : g = s.2.2.1 0 := funext h
  subst this
  unfold sa
  have : (fun j => if j = 0 then s.2.2.1 0 else s.2.2.1 j) = s.2.2.1 := by
    funext j
    split
    · rename_i e; rw [e]
    · rfl
  rw [this]
theorem X1_isOnPile_eq (hw : wfG a) (hG : encG a L sG) {k : Nat} (hk : k < 20) : f_X1_isOnPile NN sG (iN k) = some (iN (pileN a k)) := by
  have hP := wfP hw (c := k / 5) (by omega)
  have gT := hG.2.2.2.2.2.2.2.2.2.2.1
  have e : k - k / 5 * 5 = k % 5 := by omega
  unfold f_X1_isOnPile pileN
  simp (disch := omega) only [↓Lm1, si_si, ob_some, znm_eq, th_some, th_none, tb_some, tb_none, chk_iN, chk_true, clamp_iN, iN_add, iN_mul, iN_sub, iN_div, iN_lt_t, iN_lt_f, iN_le_t, iN_le_f, iN_eq_t, iN_eq_f, iN_m1, m1_iN, iN_zisB, if_true, if_false, ↓reduceIte, Nat.reduceEqDiff, Nat.reduceAdd, Nat.reduceMul, Nat.reduceSub, reduceCtorEq, si_1, si_2, sa_1, sa_2, sa_3, sl_1, sl_3, isT_0, isT_1, Lt0, Lt1, Lt2, Lt3, Lt4, Lt5, Lt6, Lt7, Lt8, Lt9, Lt10, Lt12, Lt14, Lt18, Lt19, Lt20, Lt22, Lt27, Lt30, Lt31, Lt40, Lt67, Lt99, Lt100, Lt107, Lt147, Lt187, Lt191, Lt211, Lt231, Lt235, Lt237, Lt238, Lt300, Lt358, Lt600, e, X1_topOf_eq (s := sG) (show k / 5 < 4 by omega), gT]
  by_cases c : k % 5 < a (14 + k / 5)
  · simp (disch := omega) only [↓Lm1, si_si, ob_some, znm_eq, th_some, th_none, tb_some, tb_none, chk_iN, chk_true, clamp_iN, iN_add, iN_mul, iN_sub, iN_div, iN_lt_t, iN_lt_f, iN_le_t, iN_le_f, iN_eq_t, iN_eq_f, iN_m1, m1_iN, iN_zisB, if_true, if_false, ↓reduceIte, Nat.reduceEqDiff, Nat.reduceAdd, Nat.reduceMul, Nat.reduceSub, reduceCtorEq, si_1, si_2, sa_1, sa_2, sa_3, sl_1, sl_3, isT_0, isT_1, Lt0, Lt1, Lt2, Lt3, Lt4, Lt5, Lt6, Lt7, Lt8, Lt9, Lt10, Lt12, Lt14, Lt18, Lt19, Lt20, Lt22, Lt27, Lt30, Lt31, Lt40, Lt67, Lt99, Lt100, Lt107, Lt147, Lt187, Lt191, Lt211, Lt231, Lt235, Lt237, Lt238, Lt300, Lt358, Lt600, if_pos c]
  · simp (disch := omega) only [↓Lm1, si_si, ob_some, znm_eq, th_some, th_none, tb_some, tb_none, chk_iN, chk_true, clamp_iN, iN_add, iN_mul, iN_sub, iN_div, iN_lt_t, iN_lt_f, iN_le_t, iN_le_f, iN_eq_t, iN_eq_f, iN_m1, m1_iN, iN_zisB, if_true, if_false, ↓reduceIte, Nat.reduceEqDiff, Nat.reduceAdd, Nat.reduceMul, Nat.reduceSub, reduceCtorEq, si_1, si_2, sa_1, sa_2, sa_3, sl_1, sl_3, isT_0, isT_1, Lt0, Lt1, Lt2, Lt3, Lt4, Lt5, Lt6, Lt7, Lt8, Lt9, Lt10, Lt12, Lt14, Lt18, Lt19, Lt20, Lt22, Lt27, Lt30, Lt31, Lt40, Lt67, Lt99, Lt100, Lt107, Lt147, Lt187, Lt191, Lt211, Lt231, Lt235, Lt237, Lt238, Lt300, Lt358, Lt600, if_neg c]
def restB (a : Gm) (k : Nat) : Nat := inDk a k 0 - a (211 + k) - pileN a k
def hF (a : Gm) (p k q : Nat) : Nat := if q = p then 0 else inH a k q
def gF (a : Gm) (k o j : Nat) : Nat := if a (27 + a (191 + (5 * o + j))) = k then 1 else 0
theorem unseenKinds_eq (ho : okG a) (hG : encG a L sG) (hu : encRu a ru) (sMi : Ob) {p : Nat} (hp : p < 4) : ∃ s', f_X2_unseenKinds NN sMi sG ru (iN p) = some (kset (unsF a p), s') := by
  have hw := ho.1
  obtain ⟨b0, b1, b2, b3, b4, b5, b6, b7, b8, b9, b11, b12, b13⟩ := wfB hw
  have uC := hu.2.2.2.2.2.2.2
  have gH := hG.2.2.2.2.2.2.2.2.2.2.2.1
  have bB : ∀ k, k < 20 → sumN (hF a p k) 4 ≤ restB a k ∧ restB a k ≤ 40 := fun k hk => by
    have h1 := okCnt' ho hk
    have h2 := heldN_le9 a k p
    have h3 : sumN (hF a p k) 4 = heldN a k p := rfl
    have h4 := inDk_le b4 k 0
    unfold restB
    omega
  have hb : ∀ k o j, k < 20 → o < 4 → o ≠ p → j ≤ a (187 + o) → sumN (hF a p k) o + sumN (gF a k o) j ≤ restB a k := fun k o j hk ho' hne hj => by
    have h1 := (bB k hk).1
    have h2 : sumN (gF a k o) j ≤ sumN (gF a k o) (a (187 + o)) := sumN_mono hj
    have h3 : sumN (gF a k o) (a (187 + o)) = hF a p k o := by unfold hF; rw [if_neg hne]; rfl
    have h4 : sumN (hF a p k) (o + 1) ≤ sumN (hF a p k) 4 := sumN_mono (by omega)
    have h5 : sumN (hF a p k) (o + 1) = sumN (hF a p k) o + hF a p k o := rfl
    omega
  let S : (Nat → Nat) → Ob := fun g => sa sMi 0 (fun k => if k < 20 then iN (g k) else sMi.2.2.1 0 k)
  have hC : ∀ o, o = a 2 → f_X2_unseenKinds_120 NN sG ru (iN p) NN 0 0 (S fun k => restB a k - sumN (hF a p k) o) = some (kset (unsF a p), S fun k => restB a k - sumN (hF a p k) o) := by
    intro o hoe
    have e0 : (0 : Int32) = bset (unsF a p) 0 := rfl
    unfold f_X2_unseenKinds_120
    refine loop3 (fun j => bset (unsF a p) j) (fun j => iN j) (fun _ => S fun k => restB a k - sumN (hF a p k) o) 20 ?_ ?_ NN 0 (by omega) (nnb (by omega))
    · intro j hj self
      have hg : (S fun k => restB a k - sumN (hF a p k) o).2.2.1 0 j = iN (restB a j - sumN (hF a p j) o) := if_pos hj
      have h1 := (bB j hj).2
      have h3 : sumN (hF a p j) o = heldN a j p := by
        have : heldN a j p = sumN (hF a p j) 4 := rfl
        rw [this, sumN_cut (m := o) (n := 4) (by omega)]
        intro q h1 h2
        have h0 := wfS0 hw h2 (by omega)
        have := inH_le (a := a) j q
        unfold hF
        split <;> omega
      unfold F_X2_unseenKinds_120
      rw [if_neg (show ¬ (20 : Int32) ≤ iN j from fun q => absurd ((iN_le (a := 20) (by omega) (by omega)).mp q) (by omega)), chk_iN hj (by omega), clamp_iN (by omega), hg, show iN j + 1 = iN (j + 1) from iN_add j 1]
      have hd := inDk_le b4 j 0
      have hc9 := okCnt' ho hj
      have hl9 := heldN_le9 a j p
      cases e : unsF a p j
      · have e' := of_decide_eq_false e
        rw [if_pos (show iN (restB a j - sumN (hF a p j) o) ≤ (0 : Int32) from (iN_le (b := 0) (by omega) (by omega)).mpr (by unfold restB; omega)), bset_0 e]
      · have e' := of_decide_eq_true e
        rw [if_neg (show ¬ iN (restB a j - sumN (hF a p j) o) ≤ (0 : Int32) from fun q => absurd ((iN_le (b := 0) (by omega) (by omega)).mp q) (by unfold restB; omega)), bset_1 (by omega) e]
    · intro self
      unfold F_X2_unseenKinds_120
      rw [if_pos (by decide)]
  have hB : f_X2_unseenKinds_50 NN sG ru (iN p) NN 0 (S fun k => restB a k - sumN (hF a p k) 0) = some (kset (unsF a p), S fun k => restB a k - sumN (hF a p k) (a 2)) := by
    unfold f_X2_unseenKinds_50
    refine loop2 (fun o => iN o) (fun o => S fun k => restB a k - sumN (hF a p k) o) (a 2) ?_ ?_ NN 0 (by omega) (nnb (by omega))
    · intro o ho' self
      have hsz := wfS hw (p := o) (by omega)
      unfold F_X2_unseenKinds_50
      rw [hu.2.2.1, if_neg (fun q => absurd ((iN_le (by omega) (by omega)).mp q) (by omega))]
      unfold f_X2_unseenKinds_64
      by_cases eo : o = p
      · subst eo
        show F_X2_unseenKinds_64 NN sG ru (iN o) self _ (iN o) 0 _ = _
        unfold F_X2_unseenKinds_64
        rw [if_pos rfl, show iN o + 1 = iN (o + 1) from iN_add o 1]
        have : (fun k => restB a k - sumN (hF a o k) (o + 1)) = fun k => restB a k - sumN (hF a o k) o := by
          funext k
          show _ - (sumN (hF a o k) o + hF a o k o) = _
          unfold hF
          rw [if_pos rfl]
          rfl
        rw [this]
      · refine loop3 (z := fun _ _ _ => none) (F := F_X2_unseenKinds_64 NN sG ru (iN p) self) (fun _ => iN o) (fun j => iN j) (fun j => S fun k => restB a k - (sumN (hF a p k) o + sumN (gF a k o) j)) (a (187 + o)) (res := self (iN (o + 1)) (S fun k => restB a k - sumN (hF a p k) (o + 1))) ?_ ?_ NN 0 (by omega) (nnb (by omega))
        · intro j hj self2
          have hc := wfH hw (by omega) hj
          have hk := wfK hw (k := a (191 + (5 * o + j))) (by omega)
          unfold F_X2_unseenKinds_64
          rw [if_neg (fun q => eo ((iN_inj (by omega) (by omega)).mp q)), so_eq hG (by omega), ob_some, if_neg (fun q => absurd ((iN_le (by omega) (by omega)).mp q) (by omega)), ca_yes hw hG (by omega) hj, ob_some, ko_eq hu (by omega), ob_some, chk_iN hk (by omega), chk_iN hk (by omega), clamp_iN (by omega), show iN j + 1 = iN (j + 1) from iN_add j 1]
          refine congrArg (self2 (iN o) (iN (j + 1))) ?_
          refine sa_upd fun k => ?_
          dsimp only
          have hs := hb (a (27 + a (191 + (5 * o + j)))) o (j + 1) hk (by omega) eo (by omega)
          have e1 : sumN (gF a (a (27 + a (191 + (5 * o + j)))) o) (j + 1) = sumN (gF a (a (27 + a (191 + (5 * o + j)))) o) j + 1 := by
            show _ + gF a (a (27 + a (191 + (5 * o + j)))) o j = _
            unfold gF
            rw [if_pos rfl]
          by_cases ek : k = a (27 + a (191 + (5 * o + j)))
          · rw [if_pos ek, ek, if_pos hk, sa_get]
            dsimp only
            rw [if_pos hk, show (1 : Int32) = iN 1 from rfl, iN_sub (by omega)]
            congr 1
            omega
          · rw [if_neg ek]
            have : sumN (gF a k o) (j + 1) = sumN (gF a k o) j := by
              show _ + gF a k o j = _
              unfold gF
              rw [if_neg (fun q => ek q.symm)]
              rfl
            rw [this]
        · intro self2
          unfold F_X2_unseenKinds_64
          rw [if_neg (fun q => eo ((iN_inj (by omega) (by omega)).mp q)), so_eq hG (by omega), ob_some, if_pos ((iN_le (by omega) (by omega)).mpr (Nat.le_refl _)), show iN o + 1 = iN (o + 1) from iN_add o 1]
          refine congrArg (self (iN (o + 1))) ?_
          congr 1
          funext k
          show _ - _ = _ - (sumN (hF a p k) o + hF a p k o)
          unfold hF
          rw [if_neg eo]
          rfl
    · intro self
      unfold F_X2_unseenKinds_50
      rw [hu.2.2.1, if_pos ((iN_le (by omega) (by omega)).mpr (Nat.le_refl _))]
      exact hC _ rfl
  refine ⟨S fun k => restB a k - sumN (hF a p k) (a 2), ?_⟩
  unfold f_X2_unseenKinds f_X2_unseenKinds_2
  have e0 : sMi = sa sMi 0 (fun k => if k < 0 then iN (restB a k) else sMi.2.2.1 0 k) := (sa_self fun k => if_neg (by omega)).symm
  have goal : ∀ s0, s0 = sa sMi 0 (fun k => if k < 0 then iN (restB a k) else sMi.2.2.1 0 k) → zlp (fun _ _ => none) (F_X2_unseenKinds_2 NN sG ru (iN p)) NN 0 s0 = some (kset (unsF a p), S fun k => restB a k - sumN (hF a p k) (a 2)) := by
    rintro s0 rfl
    refine loop2 (fun j => iN j) (fun j => sa sMi 0 (fun k => if k < j then iN (restB a k) else sMi.2.2.1 0 k)) 20 ?_ ?_ NN 0 (by omega) (nnb (by omega))
    · intro j hj self
      have hd := inDk_le b4 j 0
      have hq := wfQ hw hj
      have hc9 := okCnt' ho hj
      have ht : ∀ t : Nat, t = pileN a j → f_X2_unseenKinds_40 NN sG ru (iN p) self (iN j) (iN j) (iN (inDk a j 0) - iN (a (211 + j))) (iN t) (sa sMi 0 (fun k => if k < j then iN (restB a k) else sMi.2.2.1 0 k)) = self (iN (j + 1)) (sa sMi 0 (fun k => if k < j + 1 then iN (restB a k) else sMi.2.2.1 0 k)) := by
        intro t ht
        unfold f_X2_unseenKinds_40
        rw [chk_iN hj (by omega), clamp_iN (by omega), show iN j + 1 = iN (j + 1) from iN_add j 1]
        refine congrArg (self (iN (j + 1))) (sa_upd fun k => ?_)
        by_cases e : k = j
        · subst e
          rw [if_pos rfl, if_pos (by omega), iN_sub (by omega), iN_sub (by omega), ht]
          rfl
        · rw [if_neg e]
          by_cases e2 : k < j
          · rw [if_pos e2, if_pos (by omega)]
          · rw [if_neg e2, if_neg (by omega)]
      have c1 : f_X5_copiesOf NN ru (iN j) = some (iN (inDk a j 0)) := by
        unfold f_X5_copiesOf
        simp (disch := omega) only [↓Lm1, si_si, ob_some, znm_eq, th_some, th_none, tb_some, tb_none, chk_iN, chk_true, clamp_iN, iN_add, iN_mul, iN_sub, iN_div, iN_lt_t, iN_lt_f, iN_le_t, iN_le_f, iN_eq_t, iN_eq_f, iN_m1, m1_iN, iN_zisB, if_true, if_false, ↓reduceIte, Nat.reduceEqDiff, Nat.reduceAdd, Nat.reduceMul, Nat.reduceSub, reduceCtorEq, si_1, si_2, sa_1, sa_2, sa_3, sl_1, sl_3, isT_0, isT_1, Lt0, Lt1, Lt2, Lt3, Lt4, Lt5, Lt6, Lt7, Lt8, Lt9, Lt10, Lt12, Lt14, Lt18, Lt19, Lt20, Lt22, Lt27, Lt30, Lt31, Lt40, Lt67, Lt99, Lt100, Lt107, Lt147, Lt187, Lt191, Lt211, Lt231, Lt235, Lt237, Lt238, Lt300, Lt358, Lt600, uC]
      have c2 : f_X1_inHeap NN sG (iN j) = some (iN (a (211 + j))) := by
        unfold f_X1_inHeap
        simp (disch := omega) only [↓Lm1, si_si, ob_some, znm_eq, th_some, th_none, tb_some, tb_none, chk_iN, chk_true, clamp_iN, iN_add, iN_mul, iN_sub, iN_div, iN_lt_t, iN_lt_f, iN_le_t, iN_le_f, iN_eq_t, iN_eq_f, iN_m1, m1_iN, iN_zisB, if_true, if_false, ↓reduceIte, Nat.reduceEqDiff, Nat.reduceAdd, Nat.reduceMul, Nat.reduceSub, reduceCtorEq, si_1, si_2, sa_1, sa_2, sa_3, sl_1, sl_3, isT_0, isT_1, Lt0, Lt1, Lt2, Lt3, Lt4, Lt5, Lt6, Lt7, Lt8, Lt9, Lt10, Lt12, Lt14, Lt18, Lt19, Lt20, Lt22, Lt27, Lt30, Lt31, Lt40, Lt67, Lt99, Lt100, Lt107, Lt147, Lt187, Lt191, Lt211, Lt231, Lt235, Lt237, Lt238, Lt300, Lt358, Lt600, gH]
      unfold F_X2_unseenKinds_2
      rw [if_neg (show ¬ (20 : Int32) ≤ iN j from fun q => absurd ((iN_le (a := 20) (by omega) (by omega)).mp q) (by omega)), c1, ob_some, c2, ob_some, X1_isOnPile_eq hw hG hj, ob_some]
      by_cases c : pileN a j = 0
      · rw [c, if_pos iN00]
        exact ht 0 c.symm
      · have := pileN_le a j
        rw [show pileN a j = 1 by omega, if_neg (show ¬ iN 1 = 0 by decide)]
        exact ht 1 (by omega)
    · intro self
      unfold F_X2_unseenKinds_2
      rw [if_pos (by decide)]
      exact hB
  exact goal sMi e0
end MND
