/-! OWN: the pure half: which cards a word touches, what a hint leaves, what it tells -/
def learnC (C w v : Nat) (t : Bool) : Nat := if w = 0 then bnum (fun c => C.testBit c && (decide (c = v) == t)) 4 else C
def learnR (R w v : Nat) (t : Bool) : Nat := if w = 0 then R else bnum (fun r => R.testBit r && (decide (r + 1 = v) == t)) 5
theorem learnC_lt {C w v : Nat} {t : Bool} (h : C < 16) : learnC C w v t < 16 := by
  unfold learnC
  split
  · exact bnum_lt _ 4
  · exact h
theorem learnR_lt {R w v : Nat} {t : Bool} (h : R < 32) : learnR R w v t < 32 := by
  unfold learnR
  split
  · exact h
  · exact bnum_lt _ 5
theorem mk_learn {C R w v i : Nat} {t : Bool} (hi : i < 20) : mkK (learnC C w v t) (learnR R w v t) i = (mkK C R i && (hasW w v i == t)) := by
  unfold mkK learnC learnR hasW
  by_cases e : w = 0
  · rw [if_pos e, if_pos e, if_pos e, tb_bnum, decide_eq_true (show i / 5 < 4 by omega), Bool.true_and]
    cases C.testBit (i / 5) <;> cases R.testBit (i % 5) <;> simp
  · rw [if_neg e, if_neg e, if_neg e, tb_bnum, decide_eq_true (show i % 5 < 5 by omega), Bool.true_and]
    cases C.testBit (i / 5) <;> cases R.testBit (i % 5) <;> simp
theorem leaves_eq {s : Ob} {x v n : Nat} {t : Bool} (hx : x < 2 ^ n) (hn : n < 32) (hv : v < 32) : f_X8_leaves NN s (iN x) (1 <<< (iN v &&& 31)) (iN (bN t)) = some (bset (fun c => x.testBit c && (decide (c = v) == t)) n) := by
  have hb : ∀ i, x.testBit i = (decide (i < n) && x.testBit i) := fun i => by
    by_cases e : i < n
    · rw [decide_eq_true e, Bool.true_and]
    · rw [Nat.testBit_lt_two_pow (Nat.lt_of_lt_of_le hx (Nat.pow_le_pow_right (by omega) (by omega))), Bool.and_false]
  unfold f_X8_leaves
  cases t
  · rw [if_pos bN0]
    congr 1
    refine bset_of fun i hi => ?_
    rw [bit_and, bit_cmpl _ _ hi, bit_1shl hv hi, bit_iN _ _ hi]
    rw [hb i]
    cases decide (i < n) <;> cases x.testBit i <;> cases decide (i = v) <;> rfl
  · rw [if_neg (show ¬ iN (bN true) = 0 by decide)]
    congr 1
    refine bset_of fun i hi => ?_
    rw [bit_and, bit_1shl hv hi, bit_iN _ _ hi]
    rw [hb i]
    cases decide (i < n) <;> cases x.testBit i <;> cases decide (i = v) <;> rfl
def kAt (a : Gm) (p j : Nat) : Nat := a (27 + a (191 + (5 * p + j)))
section TEL
variable {a : Gm} {L : Nat → Int32} {sG ru sM : Ob}
theorem touchedPlaces_eq (hw : wfG a) (hG : encG a L sG) (hu : encRu a ru) {p : Nat} (hp : p < 4) (F : Nat → Bool) : f_X1_touchedPlaces NN sG ru (iN p) (kset F) = some (bset (fun j => F (kAt a p j)) (a (187 + p))) := by
  obtain ⟨b0, b1, b2, b3, b4, b5, b6, b7, b8, b9, b11, b12, b13⟩ := wfB hw
  have hs := wfS hw hp
  unfold f_X1_touchedPlaces f_X1_touchedPlaces_5
  refine loop2 (fun n => bset (fun j => F (kAt a p j)) n) (fun n => iN n) (a (187 + p)) ?_ ?_ NN 0 (by omega) (nnb (by omega))
  · intro n hn self
    have hc := wfH hw hp hn
    have hk := wfK hw (k := a (191 + (5 * p + n))) (by omega)
    unfold F_X1_touchedPlaces_5
    rw [so_eq hG hp, ob_some, if_neg (fun q => absurd ((iN_le (by omega) (by omega)).mp q) (by omega)), ca_yes hw hG hp hn, ob_some, ko_eq hu (by omega), ob_some, isIn_kset hk, ob_some, show iN n + 1 = iN (n + 1) from iN_add n 1]
    cases e : F (kAt a p n)
    · have e' : F (a (27 + a (191 + (5 * p + n)))) = false := e
      rw [e', if_pos bN0, ← bset_0 (f := fun j => F (kAt a p j)) e]
    · have e' : F (a (27 + a (191 + (5 * p + n)))) = true := e
      rw [e', if_neg (show ¬ iN (bN true) = 0 by decide), bset_1 (f := fun j => F (kAt a p j)) (by omega) e]
  · intro self
    unfold F_X1_touchedPlaces_5
    rw [so_eq hG hp, ob_some, if_pos ((iN_le (by omega) (by omega)).mpr (Nat.le_refl _))]
theorem isW_b (hw : wfG a) {w v : Nat} (h : isW a w v) : w ≤ 1 ∧ v ≤ 5 := by
  have h0 := hw.1
  have h1 := hw.2.1
  rcases h with ⟨rfl, h⟩ | ⟨rfl, h, h'⟩ <;> omega
theorem isTouchedBy_eq (hw : wfG a) (hr : encR a L (sM.2.2.1 0)) {k w v : Nat} (hk : k < 40) (h : isW a w v) : f_X8_isTouchedBy NN sM (iN k) (iN w) (iN v) = some (iN (bN (hasW w v (a (27 + k))))) := by
  have hkk := wfK hw hk
  obtain ⟨h1, h2⟩ := isW_b hw h
  unfold f_X8_isTouchedBy
  rw [show (27 : Int32) + iN k = iN (27 + k) from iN_add 27 k, chk_iN (by omega) (by omega), clamp_iN (by omega), hr.1 _ (by omega) (by omega), colK hkk, rnkK hkk, ob_some, ob_some]
  unfold hasW
  by_cases e : w = 0
  · rw [if_pos e, if_pos (by rw [e]; rfl)]
    by_cases c : a (27 + k) / 5 = v
    · rw [if_pos (by rw [c]), decide_eq_true c]; rfl
    · rw [if_neg (fun q => c ((iN_inj (by omega) (by omega)).mp q)), decide_eq_false c]; rfl
  · rw [if_neg e, if_neg (show ¬ iN w = 0 from fun q => e ((iN_inj (b := 0) (by omega) (by omega)).mp q))]
    by_cases c : a (27 + k) % 5 + 1 = v
    · rw [if_pos (by rw [c]), decide_eq_true c]; rfl
    · rw [if_neg (fun q => c ((iN_inj (by omega) (by omega)).mp q)), decide_eq_false c]; rfl
theorem X8_touched_eq (hw : wfG a) (hr : encR a L (sM.2.2.1 0)) {p w v : Nat} (hp : p < 4) (h : isW a w v) : f_X8_touched NN sM (iN p) (iN w) (iN v) = some (bset (fun j => hasW w v (kAt a p j)) (a (187 + p))) := by
  obtain ⟨b0, b1, b2, b3, b4, b5, b6, b7, b8, b9, b11, b12, b13⟩ := wfB hw
  have hs := wfS hw hp
  unfold f_X8_touched f_X8_touched_6
  refine loop2 (fun n => bset (fun j => hasW w v (kAt a p j)) n) (fun n => iN n) (a (187 + p)) ?_ ?_ NN 0 (by omega) (nnb (by omega))
  · intro n hn self
    have hc := wfH hw hp hn
    unfold F_X8_touched_6
    rw [show (187 : Int32) + iN p = iN (187 + p) from iN_add 187 p, chk_iN (by omega) (by omega), clamp_iN (by omega), hr.1 _ (by omega) (by omega), if_neg (fun q => absurd ((iN_le (by omega) (by omega)).mp q) (by omega)), he_eq hw hr hp hn, ob_some, isTouchedBy_eq hw hr (by omega) h, ob_some, show iN n + 1 = iN (n + 1) from iN_add n 1]
    cases e : hasW w v (kAt a p n)
    · have e' : hasW w v (a (27 + a (191 + (5 * p + n)))) = false := e
      rw [e', if_pos bN0, ← bset_0 (f := fun j => hasW w v (kAt a p j)) e]
      rw [show (0 : Int32) = iN 0 from rfl, iN_or, Nat.or_zero]
    · have e' : hasW w v (a (27 + a (191 + (5 * p + n)))) = true := e
      rw [e', if_neg (show ¬ iN (bN true) = 0 by decide), bset_1 (f := fun j => hasW w v (kAt a p j)) (by omega) e]
  · intro self
    unfold F_X8_touched_6
    rw [show (187 : Int32) + iN p = iN (187 + p) from iN_add 187 p, chk_iN (by omega) (by omega), clamp_iN (by omega), hr.1 _ (by omega) (by omega), if_pos ((iN_le (by omega) (by omega)).mpr (Nat.le_refl _))]
theorem colorsBehind_eq (hw : wfG a) (hr : encR a L (sM.2.2.1 0)) {k w v : Nat} (hk : k < 40) (h : isW a w v) : f_X8_colorsBehind NN sM (iN k) (iN w) (iN v) = some (iN (learnC (a (67 + k)) w v (hasW w v (a (27 + k))))) := by
  have hC := (wfC hw hk).1
  obtain ⟨h1, h2⟩ := isW_b hw h
  unfold f_X8_colorsBehind learnC
  rw [show (67 : Int32) + iN k = iN (67 + k) from iN_add 67 k, chk_iN (by omega) (by omega), clamp_iN (by omega), hr.1 _ (by omega) (by omega), isTouchedBy_eq hw hr hk h, ob_some]
  by_cases e : w = 0
  · rw [if_pos e, if_pos (by rw [e]; rfl), leaves_eq (n := 4) hC (by omega) (by omega)]; rfl
  · rw [if_neg e, if_neg (show ¬ iN w = 0 from fun q => e ((iN_inj (b := 0) (by omega) (by omega)).mp q))]
theorem ranksBehind_eq (hw : wfG a) (hr : encR a L (sM.2.2.1 0)) {k w v : Nat} (hk : k < 40) (h : isW a w v) : f_X8_ranksBehind NN sM (iN k) (iN w) (iN v) = some (iN (learnR (a (107 + k)) w v (hasW w v (a (27 + k))))) := by
  have hC := (wfC hw hk).2
  obtain ⟨h1, h2⟩ := isW_b hw h
  unfold f_X8_ranksBehind learnR
  rw [show (107 : Int32) + iN k = iN (107 + k) from iN_add 107 k, chk_iN (by omega) (by omega), clamp_iN (by omega), hr.1 _ (by omega) (by omega), isTouchedBy_eq hw hr hk h, ob_some]
  rcases h with ⟨rfl, h⟩ | ⟨rfl, h, h'⟩
  · rw [if_pos rfl, if_neg (show ¬ iN 0 = 1 by decide)]
  · rw [if_neg (show ¬ 1 = 0 by decide), if_pos (show iN 1 = 1 from rfl), show iN v - 1 = iN (v - 1) from iN_sub (a := v) (b := 1) h, leaves_eq (n := 5) hC (by omega) (by omega)]
    rw [ob_some]
    refine congrArg some (congrArg iN (bnum_congr fun r _ => ?_))
    have : decide (r = v - 1) = decide (r + 1 = v) := decide_eq_decide.mpr (by omega)
    rw [this]
/-- whether a player would newly know that a card can be played -/
def knF (a : Gm) (f : Nat → Bool) : Bool := anyK f && subK f (nxF a)
def cdF (a : Gm) (p j : Nat) : Nat → Bool := thF a p (a (67 + a (191 + (5 * p + j)))) (a (107 + a (191 + (5 * p + j))))
def behF (a : Gm) (p w v j : Nat) (i : Nat) : Bool := cdF a p j i && (hasW w v i == hasW w v (kAt a p j))
def tellF (a : Gm) (p w v j : Nat) : Bool := !knF a (cdF a p j) && knF a (behF a p w v j)
def tellN (a : Gm) (p w v : Nat) : Nat := cntK (tellF a p w v) (a (187 + p))
theorem knF_congr {f g : Nat → Bool} (h : ∀ i, i < 20 → f i = g i) : knF a f = knF a g := by
  unfold knF subK
  rw [anyK_congr h]
  congr 2
  exact anyK_congr fun i hi => by rw [h i hi]
theorem knF_play (ho : okG a) {f : Nat → Bool} {p : Nat} (h : ∀ i, i < 20 → f i = true → unsF a p i = true) : (anyK f && subK f (playF a)) = knF a f := by
  unfold knF
  congr 1
  refine subK_congr fun i hi hf => ?_
  unfold playF
  rw [decide_eq_true (unsF_color ho (h i hi hf)).1, Bool.true_and]
theorem knownN_kn (a : Gm) (f : Nat → Bool) : (iN (knownN a f) = 1) ↔ knF a f = true := by
  have := knownN_le a f
  rw [show (1 : Int32) = iN 1 from rfl, iN_inj (by omega) (by omega), knownN_1]
  rfl
theorem newlyPlayable_eq (ho : okG a) (hG : encG a L sG) (hu : encRu a ru) (sMi : Ob) {p w v : Nat} (hp : p < 4) : f_X2_newlyPlayable NN sMi sG ru (iN p) (kset (unsF a p)) (kset (hasW w v)) = some (iN (tellN a p w v)) := by
  have hw := ho.1
  obtain ⟨b0, b1, b2, b3, b4, b5, b6, b7, b8, b9, b11, b12, b13⟩ := wfB hw
  have hs := wfS hw hp
  unfold f_X2_newlyPlayable f_X2_newlyPlayable_12
  rw [X1_playableKinds_eq hw hG hu, ob_some]
  refine loop3 (fun _ => kset (playF a)) (fun n => iN (cntK (tellF a p w v) n)) (fun n => iN n) (a (187 + p)) ?_ ?_ NN 0 (by omega) (nnb (by omega))
  · intro n hn self
    have hc := wfH hw hp hn
    have hk := wfK hw (k := a (191 + (5 * p + n))) (by omega)
    have e0 : kset (unsF a p) &&& kset (mkK (a (67 + a (191 + (5 * p + n)))) (a (107 + a (191 + (5 * p + n))))) = kset (cdF a p n) := kset_and _ _
    have k0 : (anyK (cdF a p n) && subK (cdF a p n) (playF a)) = knF a (cdF a p n) := knF_play ho (p := p) fun i hi h => by
      unfold cdF thF at h
      rw [Bool.and_eq_true] at h
      exact h.1
    have k1 : (anyK (behF a p w v n) && subK (behF a p w v n) (playF a)) = knF a (behF a p w v n) := knF_play ho (p := p) fun i hi h => by
      unfold behF cdF thF at h
      rw [Bool.and_eq_true, Bool.and_eq_true] at h
      exact h.1.1
    unfold F_X2_newlyPlayable_12
    rw [so_eq hG hp, ob_some, if_neg (fun q => absurd ((iN_le (by omega) (by omega)).mp q) (by omega)), ca_yes hw hG hp hn, ob_some, klf_eq hG (by omega), ob_some, ko_eq hu (by omega), ob_some, isIn_kset hk, ob_some, e0]
    have h66 : ∀ t : Int32, kset (cdF a p n) &&& t = kset (behF a p w v n) → f_X2_newlyPlayable_66 NN sMi sG ru (iN p) (kset (unsF a p)) (kset (hasW w v)) self (kset (playF a)) (iN (cntK (tellF a p w v) n)) (iN n) (kset (cdF a p n)) (kset (cdF a p n)) t = self (kset (playF a)) (iN (cntK (tellF a p w v) (n + 1))) (iN (n + 1)) := by
      intro t ht
      unfold f_X2_newlyPlayable_66
      rw [ht, areAllIn_kset, ob_some, areAllIn_kset, ob_some, k0, k1, show iN n + 1 = iN (n + 1) from iN_add n 1, show iN (cntK (tellF a p w v) n) + 1 = iN (cntK (tellF a p w v) n + 1) from iN_add _ 1]
      cases c1 : knF a (behF a p w v n)
      · rw [if_pos bN0, cntK_0 (show tellF a p w v n = false by unfold tellF; rw [c1, Bool.and_false])]
      · rw [if_neg (show ¬ iN (bN true) = 0 by decide)]
        cases c2 : knF a (cdF a p n)
        · rw [if_pos bN0, cntK_1 (show tellF a p w v n = true by unfold tellF; rw [c1, c2]; rfl)]
        · rw [if_neg (show ¬ iN (bN true) = 0 by decide), cntK_0 (show tellF a p w v n = false by unfold tellF; rw [c2]; rfl)]
    cases e : hasW w v (a (27 + a (191 + (5 * p + n))))
    · have e' : hasW w v (kAt a p n) = false := e
      rw [if_pos bN0, show (-1 : Int32) = mI1 from rfl]
      refine h66 _ ?_
      rw [kset_andn]
      refine kset_congr fun i hi => ?_
      unfold behF
      rw [e']
      cases hasW w v i <;> rfl
    · have e' : hasW w v (kAt a p n) = true := e
      rw [if_neg (show ¬ iN (bN true) = 0 by decide)]
      refine h66 _ ?_
      rw [kset_and]
      refine kset_congr fun i hi => ?_
      unfold behF
      rw [e']
      cases hasW w v i <;> rfl
  · intro self
    unfold F_X2_newlyPlayable_12
    rw [so_eq hG hp, ob_some, if_pos ((iN_le (by omega) (by omega)).mpr (Nat.le_refl _))]
    rfl
theorem X8_telling_eq (ho : okG a) (hr : encR a L (sM.2.2.1 0)) {p w v : Nat} (hp : p < 4) (h : isW a w v) : f_X8_telling NN sM (iN p) (iN w) (iN v) = some (iN (tellN a p w v)) := by
  have hw := ho.1
  obtain ⟨b0, b1, b2, b3, b4, b5, b6, b7, b8, b9, b11, b12, b13⟩ := wfB hw
  have hs := wfS hw hp
  unfold f_X8_telling f_X8_telling_6
  refine loop2 (fun n => iN (cntK (tellF a p w v) n)) (fun n => iN n) (a (187 + p)) ?_ ?_ NN 0 (by omega) (nnb (by omega))
  · intro n hn self
    have hc := wfH hw hp hn
    unfold F_X8_telling_6
    rw [show (187 : Int32) + iN p = iN (187 + p) from iN_add 187 p, chk_iN (by omega) (by omega), clamp_iN (by omega), hr.1 _ (by omega) (by omega), if_neg (fun q => absurd ((iN_le (by omega) (by omega)).mp q) (by omega)), he_eq hw hr hp hn, ob_some, X8_known_eq ho hr hp hn, ob_some]
    have k0 : (iN (knownN a (thF a p (a (67 + a (191 + (5 * p + n)))) (a (107 + a (191 + (5 * p + n)))))) = 1) ↔ knF a (cdF a p n) = true := knownN_kn a _
    have k1 : (iN (knownN a (thF a p (learnC (a (67 + a (191 + (5 * p + n)))) w v (hasW w v (a (27 + a (191 + (5 * p + n)))))) (learnR (a (107 + a (191 + (5 * p + n)))) w v (hasW w v (a (27 + a (191 + (5 * p + n)))))))) = 1) ↔ knF a (behF a p w v n) = true := by
      rw [knownN_kn]
      rw [knF_congr (a := a) (g := behF a p w v n) fun i hi => ?_]
      unfold behF cdF thF
      rw [mk_learn hi, ← Bool.and_assoc]
      rfl
    have t0 : f_X8_telling_71 NN sM (iN p) (iN w) (iN v) self (iN (cntK (tellF a p w v) n)) (iN n) 0 = self (iN (cntK (tellF a p w v) n)) (iN (n + 1)) := by
      unfold f_X8_telling_71
      rw [if_pos rfl, show iN n + 1 = iN (n + 1) from iN_add n 1, show iN (cntK (tellF a p w v) n) + 0 = iN (cntK (tellF a p w v) n + 0) from iN_add _ 0]
      rfl
    have t1 : f_X8_telling_71 NN sM (iN p) (iN w) (iN v) self (iN (cntK (tellF a p w v) n)) (iN n) 1 = self (iN (cntK (tellF a p w v) n + 1)) (iN (n + 1)) := by
      unfold f_X8_telling_71
      rw [if_neg (by decide), show iN n + 1 = iN (n + 1) from iN_add n 1, show iN (cntK (tellF a p w v) n) + 1 = iN (cntK (tellF a p w v) n + 1) from iN_add _ 1]
    unfold f_X8_telling_70
    rw [t0, colorsBehind_eq hw hr (by omega) h, ob_some, ranksBehind_eq hw hr (by omega) h, ob_some, X8_knownOf_eq ho hr hp, ob_some, t1]
    by_cases c2 : knF a (cdF a p n) = true
    · rw [if_pos (k0.mpr c2), cntK_0 (show tellF a p w v n = false by unfold tellF; rw [c2]; rfl)]
    · rw [if_neg (fun q => c2 (k0.mp q))]
      by_cases c1 : knF a (behF a p w v n) = true
      · rw [if_pos (k1.mpr c1), cntK_1 (show tellF a p w v n = true by unfold tellF; rw [c1, show knF a (cdF a p n) = false by simpa using c2]; rfl)]
      · rw [if_neg (fun q => c1 (k1.mp q)), cntK_0 (show tellF a p w v n = false by unfold tellF; rw [show knF a (behF a p w v n) = false by simpa using c1, Bool.and_false])]
  · intro self
    unfold F_X8_telling_6
    rw [show (187 : Int32) + iN p = iN (187 + p) from iN_add 187 p, chk_iN (by omega) (by omega), clamp_iN (by omega), hr.1 _ (by omega) (by omega), if_pos ((iN_le (by omega) (by omega)).mpr (Nat.le_refl _))]
    rfl
end TEL
theorem P_21_ok : P_21 NN Re := by
  intro pl sX sG ru q sR PS SS sM h fo p1 p2 p3
  obtain ⟨a, L, ho, hr, hG, hu, -⟩ := h.1
  have hw := ho.1
  obtain ⟨b0, b1, b2, b3, b4, b5, b6, b7, b8, b9, b11, b12, b13⟩ := wfB hw
  refine ansQ (fo := fo) h ?_
  rcases idx2 p1 (a 2) with hc | ⟨i, -, hi, rfl⟩
  · obtain ⟨e1, e2⟩ := np_no (sX := sX) (sG := sG) hw hu hc
    refine Or.inl ⟨1, 0, by decide, ?_, ?_⟩
    · unfold f_L_touches f_X7_touches ft_X7_touches
      rw [e1, e2]; rfl
    · unfold f_X8_touches
      rw [ip_no hw hr hc, ob_some, X8_isThrown_0]; rfl
  · rcases word2 a p2 p3 with hc | ⟨w, v, hc, rfl, rfl⟩
    · obtain ⟨e1, e2⟩ := nw_no (sX := sX) (sG := sG) hw hu hc
      refine Or.inl ⟨2, 0, by decide, ?_, ?_⟩
      · unfold f_L_touches f_X7_touches ft_X7_touches
        rw [np_yes hw hu hi, e1, e2]; rfl
      · unfold f_X8_touches
        rw [ip_yes hw hr hi, ob_some, X8_isThrown_1, ob_some, if_pos rfl, iw_no (sM := si sM 7 0) hw hr hc, ob_some, X8_isThrown_0, ob_some, if_neg (show ¬ (1 : Int32) = 0 by decide), si_si]
    · refine Or.inr ⟨bset (fun j => hasW w v (kAt a i j)) (a (187 + i)), ?_, ?_⟩
      · unfold f_L_touches f_X7_touches
        rw [np_yes hw hu hi, ob_some, nw_yes hw hu hc, ob_some, kw_eq hw hc, ob_some, touchedPlaces_eq hw hG hu (by omega)]; rfl
      · unfold f_X8_touches
        rw [ip_yes hw hr hi, ob_some, X8_isThrown_1, ob_some, if_pos rfl, iw_yes (sM := si sM 7 0) hw hr hc, ob_some, X8_isThrown_1, ob_some, if_pos rfl, si_si, X8_touched_eq (sM := si sM 7 0) hw hr (by omega) hc]; rfl
theorem P_22_ok : P_22 NN Re := by
  intro pl sX sG ru q sR PS SS sM h sMi fo p1 p2 p3
  obtain ⟨a, L, ho, hr, hG, hu, -⟩ := h.1
  have hw := ho.1
  obtain ⟨b0, b1, b2, b3, b4, b5, b6, b7, b8, b9, b11, b12, b13⟩ := wfB hw
  refine ansM (fo := fo) h ?_
  rcases idx2 p1 (a 2) with hc | ⟨i, -, hi, rfl⟩
  · obtain ⟨e1, e2⟩ := np_no (sX := sX) (sG := sG) hw hu hc
    refine Or.inl ⟨1, 0, sMi, by decide, ?_, ?_⟩
    · unfold f_L_tells f_X7_tells ft_X7_tells
      rw [e1, e2]; rfl
    · unfold f_X8_tells
      rw [ip_no hw hr hc, ob_some, X8_isThrown_0]; rfl
  · rcases word2 a p2 p3 with hc | ⟨w, v, hc, rfl, rfl⟩
    · obtain ⟨e1, e2⟩ := nw_no (sX := sX) (sG := sG) hw hu hc
      refine Or.inl ⟨2, 0, sMi, by decide, ?_, ?_⟩
      · unfold f_L_tells f_X7_tells ft_X7_tells
        rw [np_yes hw hu hi, e1, e2]; rfl
      · unfold f_X8_tells
        rw [ip_yes hw hr hi, ob_some, X8_isThrown_1, ob_some, if_pos rfl, iw_no (sM := si sM 7 0) hw hr hc, ob_some, X8_isThrown_0, ob_some, if_neg (show ¬ (1 : Int32) = 0 by decide), si_si]
    · obtain ⟨s', e⟩ := unseenKinds_eq ho hG hu sMi (p := i) (by omega)
      refine Or.inr ⟨iN (tellN a i w v), s', ?_, ?_⟩
      · unfold f_L_tells f_X7_tells
        rw [np_yes hw hu hi, ob_some, nw_yes hw hu hc, ob_some, e, ob_some, kw_eq hw hc, ob_some, newlyPlayable_eq ho hG hu s' (by omega)]; rfl
      · unfold f_X8_tells
        rw [ip_yes hw hr hi, ob_some, X8_isThrown_1, ob_some, if_pos rfl, iw_yes (sM := si sM 7 0) hw hr hc, ob_some, X8_isThrown_1, ob_some, if_pos rfl, si_si, X8_telling_eq (sM := si sM 7 0) ho hr (by omega) hc]; rfl
