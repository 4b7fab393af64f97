/-! OWN: the pure half: hint and pass carried out by both -/
section HIN
variable {a b : Gm} {L r : Nat → Int32} {s ru : Ob} {p w v : Nat}
def isWv (w v : Nat) : Prop := (w = 0 ∧ v < 4) ∨ (w = 1 ∧ 1 ≤ v ∧ v ≤ 5)
theorem isWv_of (hw : wfG a) (h : isW a w v) : isWv w v := by
  have h0 := hw.1
  have h1 := hw.2.1
  rcases h with ⟨e, h⟩ | ⟨e, h, h'⟩
  · exact Or.inl ⟨e, by omega⟩
  · exact Or.inr ⟨e, h, by omega⟩
theorem itb (hr : encR b L r) {k : Nat} (hk : k < 40) (hkk : b (27 + k) < 20) (h : isWv w v) : f_X8_isTouchedBy NN (sa s 0 r) (iN k) (iN w) (iN v) = some (iN (bN (hasW w v (b (27 + k))))) := by
  have hv : w ≤ 1 ∧ v ≤ 5 := by rcases h with ⟨e, h⟩ | ⟨e, h, h'⟩ <;> omega
  unfold f_X8_isTouchedBy
  simp only [sa_get]
  rw [show (27 : Int32) + iN k = iN (27 + k) from iN_add 27 k, chk_iN (by omega) (by omega), clamp_iN (by omega), hr.1 _ (by omega) (by omega), colK hkk, rnkK hkk, ob_some, ob_some]
  unfold hasW
  by_cases e : w = 0
  · rw [if_pos e, if_pos (by rw [e]; rfl)]
    by_cases c : b (27 + k) / 5 = v
    · rw [if_pos (by rw [c]), decide_eq_true c]; rfl
    · rw [if_neg (fun q => c ((iN_inj (by omega) (by omega)).mp q)), decide_eq_false c]; rfl
  · rw [if_neg e, if_neg (show ¬ iN w = 0 from fun q => e ((iN_inj (b := 0) (by omega) (by omega)).mp q))]
    by_cases c : b (27 + k) % 5 + 1 = v
    · rw [if_pos (by rw [c]), decide_eq_true c]; rfl
    · rw [if_neg (fun q => c ((iN_inj (by omega) (by omega)).mp q)), decide_eq_false c]; rfl
theorem cbh (hr : encR b L r) {k : Nat} (hk : k < 40) (hkk : b (27 + k) < 20) (hC : b (67 + k) < 16) (h : isWv w v) : f_X8_colorsBehind NN (sa s 0 r) (iN k) (iN w) (iN v) = some (iN (learnC (b (67 + k)) w v (hasW w v (b (27 + k))))) := by
  have hv : w ≤ 1 ∧ v ≤ 5 := by rcases h with ⟨e, h⟩ | ⟨e, h, h'⟩ <;> omega
  unfold f_X8_colorsBehind learnC
  rw [itb hr hk hkk h]
  simp only [sa_get, ob_some]
  rw [show (67 : Int32) + iN k = iN (67 + k) from iN_add 67 k, chk_iN (by omega) (by omega), clamp_iN (by omega), hr.1 _ (by omega) (by omega)]
  by_cases e : w = 0
  · rw [if_pos e, if_pos (by rw [e]; rfl), leaves_eq (n := 4) hC (by omega) (by omega)]; rfl
  · rw [if_neg e, if_neg (show ¬ iN w = 0 from fun q => e ((iN_inj (b := 0) (by omega) (by omega)).mp q))]
theorem rbh (hr : encR b L r) {k : Nat} (hk : k < 40) (hkk : b (27 + k) < 20) (hC : b (107 + k) < 32) (h : isWv w v) : f_X8_ranksBehind NN (sa s 0 r) (iN k) (iN w) (iN v) = some (iN (learnR (b (107 + k)) w v (hasW w v (b (27 + k))))) := by
  unfold f_X8_ranksBehind learnR
  rw [itb hr hk hkk h]
  simp only [sa_get, ob_some]
  rw [show (107 : Int32) + iN k = iN (107 + k) from iN_add 107 k, chk_iN (by omega) (by omega), clamp_iN (by omega), hr.1 _ (by omega) (by omega)]
  rcases h with ⟨rfl, h⟩ | ⟨rfl, h, h'⟩
  · rw [if_pos rfl, if_neg (show ¬ iN 0 = 1 by decide)]
  · rw [if_neg (show ¬ 1 = 0 by decide), if_pos (show iN 1 = 1 from rfl), show iN v - 1 = iN (v - 1) from iN_sub (a := v) (b := 1) h, leaves_eq (n := 5) hC (by omega) (by omega)]
    rw [ob_some]
    refine congrArg some (congrArg iN (bnum_congr fun r _ => ?_))
    have : decide (r = v - 1) = decide (r + 1 = v) := decide_eq_decide.mpr (by omega)
    rw [this]
theorem he_y (hr : encR b L r) {i j : Nat} (hi : i < 4) (hj : j < 5) : f_X8_held NN (sa s 0 r) (iN i) (iN j) = some (iN (b (191 + (5 * i + j)))) := by
  have e : (191 : Int32) + 5 * iN i + iN j = iN (191 + (5 * i + j)) := by
    rw [show (5 : Int32) * iN i = iN (5 * i) from (Int32.ofNat_mul 5 i).symm, show (191 : Int32) + iN (5 * i) = iN (191 + 5 * i) from iN_add 191 (5 * i), iN_add, Nat.add_assoc]
  unfold f_X8_held
  rw [e, chk_t (iN_inb (by omega) (by omega)), iN_clamp (by omega)]
  show some (r _) = _
  rw [hr.1 (191 + (5 * i + j)) (by omega) (by omega)]
theorem ca_y (hG : encG b L s) {i j : Nat} (h : i < 4) (hs : b (187 + i) ≤ 5) (hj : j < b (187 + i)) : f_X1_cardAt NN s (iN i) (iN j) = some (iN (b (191 + (5 * i + j)))) := by
  unfold f_X1_cardAt
  have e : iN i * 5 + iN j = iN (5 * i + j) := by
    rw [show iN i * 5 = iN (i * 5) from (Int32.ofNat_mul i 5).symm, iN_add, Nat.mul_comm]
  rw [if_neg (iN_not_neg i (by omega)), if_neg (show ¬ (4 : Int32) ≤ iN i from fun q => absurd ((iN_le (a := 4) (by omega) (by omega)).mp q) (by omega)), chk_t (iN_inb h (by omega)), iN_clamp (by omega), hG.2.2.2.2.2.2.2.2.2.1 i h,
    if_neg (iN_not_neg j (by omega)), if_pos ((iN_lt (by omega) (by omega)).mpr hj), e, if_neg (show ¬ (20 : Int32) ≤ iN (5 * i + j) from fun q => absurd ((iN_le (a := 20) (by omega) (by omega)).mp q) (by omega)), chk_t (iN_inb (by omega) (by omega)), iN_clamp (by omega), hG.2.2.2.2.2.2.2.2.1 i j h hj]
theorem g_know {c x y : Nat} (hc : c < 40) (hs : ∀ p, p < 4 → b (187 + p) ≤ 5) (h : encG b L s) {X : Int32} (hX : X = kset (mkK x y)) : encG (up (up b (107 + c) y) (67 + c) x) L (sa s 14 (upd (s.2.2.1 14) c X)) := by
  obtain ⟨g1, g2, g3, g4, g5, g6, g7, g8, g9, g10, g11, g12, g13, g14, g15⟩ := h
  have fr : ∀ i, i < 67 ∨ 147 ≤ i → up (up b (107 + c) y) (67 + c) x i = b i := fun i hi => by rw [up_ne (by omega), up_ne (by omega)]
  refine ⟨?_, ?_, ?_, ?_, ?_, ?_, ?_, ?_, ?_, ?_, ?_, ?_, ?_, ?_, g15⟩
  · rw [fr _ (by omega)]; exact g1
  · rw [fr _ (by omega)]; exact g2
  · rw [fr _ (by omega)]; exact g3
  · rw [fr _ (by omega)]; exact g4
  · rw [fr _ (by omega)]; exact g5
  · rw [fr _ (by omega)]; exact g6
  · intro k hk; rw [fr _ (by omega)]; exact g7 k hk
  · intro k hk; rw [fr _ (by omega)]; exact g8 k hk
  · intro q i hq hi
    rw [fr _ (by omega)] at hi
    have := hs q hq
    rw [fr _ (by omega)]; exact g9 q i hq hi
  · intro k hk; rw [fr _ (by omega)]; exact g10 k hk
  · intro k hk; rw [fr _ (by omega)]; exact g11 k hk
  · intro k hk; rw [fr _ (by omega)]; exact g12 k hk
  · intro k hk; rw [fr _ (by omega)]; exact g13 k hk
  · intro k hk
    show okMask (upd (s.2.2.1 14) c X k) _ _
    rw [upd_at]
    by_cases e : k = c
    · rw [if_pos e, e, up_eq, up_ne (by omega), up_eq]
      exact mask_of hX
    · rw [if_neg e, up_ne (by omega), up_ne (by omega), up_ne (by omega), up_ne (by omega)]
      exact g14 k hk
theorem g_touch {c : Nat} (hc : c < 40) (hs : ∀ p, p < 4 → b (187 + p) ≤ 5) (h : encG b L s) : encG (up b (147 + c) 1) L (sl s 8 (s.2.1 8 ||| ((1 : Int64) <<< ((iN c).toInt64 &&& 63)))) := by
  obtain ⟨g1, g2, g3, g4, g5, g6, g7, g8, g9, g10, g11, g12, g13, g14, g15⟩ := h
  have fr : ∀ i, i < 147 ∨ 187 ≤ i → up b (147 + c) 1 i = b i := fun i hi => up_ne (by omega)
  refine ⟨?_, ?_, ?_, ?_, ?_, ?_, ?_, ?_, ?_, ?_, ?_, ?_, ?_, ?_, g15⟩
  · rw [fr _ (by omega)]; exact g1
  · rw [fr _ (by omega)]; exact g2
  · rw [fr _ (by omega)]; exact g3
  · rw [fr _ (by omega)]; exact g4
  · rw [fr _ (by omega)]; exact g5
  · rw [fr _ (by omega)]; exact g6
  · intro k hk; rw [fr _ (by omega)]; exact g7 k hk
  · intro k hk
    have g := g8 k hk
    rw [shrL_eq0 _ (by omega)] at g
    show ((s.2.1 8 ||| ((1 : Int64) <<< ((iN c).toInt64 &&& 63))) >>> ((iN k).toInt64 &&& 63)) &&& 1 = 0 ↔ _
    rw [shrL_eq0 _ (by omega), bitL_or, bitL_1shl (by omega) (by omega)]
    by_cases e : k = c
    · rw [e, up_eq, decide_eq_true rfl, Bool.or_true]
      exact ⟨fun q => (by cases q), fun q => (by cases q)⟩
    · rw [up_ne (by omega), decide_eq_false e, Bool.or_false]; exact g
  · intro q i hq hi
    rw [fr _ (by omega)] at hi
    have := hs q hq
    rw [fr _ (by omega)]; exact g9 q i hq hi
  · intro k hk; rw [fr _ (by omega)]; exact g10 k hk
  · intro k hk; rw [fr _ (by omega)]; exact g11 k hk
  · intro k hk; rw [fr _ (by omega)]; exact g12 k hk
  · intro k hk; rw [fr _ (by omega)]; exact g13 k hk
  · intro k hk; rw [fr _ (by omega), fr _ (by omega)]; exact g14 k hk
/-- a card learns, in the class -/
theorem x_learn (hs : ∀ p, p < 4 → b (187 + p) ≤ 5) (hG : encG b L s) (hu : encRu a ru) {c : Nat} (hc : c < 40) (hk : a (27 + c) < 20) : ∃ s', f_X1_learn NN s ru (iN c) (kset (hasW w v)) = some (iN (bN (hasW w v (a (27 + c)))), s') ∧ encG (if hasW w v (a (27 + c)) = true then up (up (up b (107 + c) (learnR (b (107 + c)) w v true)) (67 + c) (learnC (b (67 + c)) w v true)) (147 + c) 1 else up (up b (107 + c) (learnR (b (107 + c)) w v false)) (67 + c) (learnC (b (67 + c)) w v false)) L s' := by
  have hm := mask_eq (hG.2.2.2.2.2.2.2.2.2.2.2.2.2.1 c hc)
  unfold f_X1_learn
  rw [if_neg (iN_not_neg c (by omega)), if_pos (show iN c < (40 : Int32) from (iN_lt (b := 40) (by omega) (by omega)).mpr hc), ko_eq hu hc, ob_some, isIn_kset hk, ob_some]
  unfold f_X1_learn_38 f_X1_learn_56
  rw [chk_iN hc (by omega), chk_iN hc (by omega), chk_iN hc (by omega), chk_iN hc (by omega), clamp_iN (by omega), iN_zisB (bN_le _), iN_zisB (bN_le _)]
  cases e : hasW w v (a (27 + c))
  · rw [if_pos bN0, if_pos bN0, if_neg (by decide), hm, show (-1 : Int32) = mI1 from rfl, kset_andn]
    refine ⟨_, rfl, g_know hc hs hG (kset_congr fun i hi => ?_)⟩
    rw [mk_learn hi]
    cases hasW w v i <;> rfl
  · rw [if_neg bN1, if_neg bN1, if_pos rfl]
    have q14 : (sl s 8 (s.2.1 8 ||| ((1 : Int64) <<< ((iN c).toInt64 &&& 63)))).2.2.1 14 c = kset (mkK (b (67 + c)) (b (107 + c))) := hm
    rw [chk_iN hc (by omega), iN_zisB (bN_le _), q14, kset_and]
    refine ⟨_, rfl, ?_⟩
    have h1 := g_touch hc hs hG
    have h2 := g_know (x := learnC (b (67 + c)) w v true) (y := learnR (b (107 + c)) w v true) (X := kset fun i => mkK (b (67 + c)) (b (107 + c)) i && hasW w v i) hc (fun p hp => by rw [up_ne (by omega)]; exact hs p hp) h1 (kset_congr fun i hi => by
      rw [mk_learn hi]
      cases hasW w v i <;> rfl)
    have e2 : up (up (up b (147 + c) 1) (107 + c) (learnR (b (107 + c)) w v true)) (67 + c) (learnC (b (67 + c)) w v true) = up (up (up b (107 + c) (learnR (b (107 + c)) w v true)) (67 + c) (learnC (b (67 + c)) w v true)) (147 + c) 1 := by
      rw [up_comm (k := 147 + c) (by omega), up_comm (k := 147 + c) (by omega)]
    rw [e2] at h2
    exact h2
theorem hasC_no (hd : distG a) (hp : p < 4) {n : Nat} (hn : n < a (187 + p)) : hasC a p n (a (191 + (5 * p + n))) = false := by
  cases e : hasC a p n (a (191 + (5 * p + n)))
  · rfl
  · obtain ⟨j, h1, h2⟩ := hasC_t.mp e
    have := (hd p j p n hp (by omega) hp hn h2).2
    omega
theorem hint_b (ho : okG a) (he : endOf a = 0) (hp : p < a 2) (hww : isW a w v) : p < 4 ∧ a (187 + p) ≤ 5 ∧ wAt w v < 9 ∧ isWv w v ∧ (∀ j, j < a (187 + p) → a (191 + (5 * p + j)) < 40 ∧ kAt a p j < 20 ∧ hasC a p j (a (191 + (5 * p + j))) = false) := by
  have hw := ho.1
  have h2 := hw.2.2.1
  have b4 := hw.2.2.2.2.1
  have b5 := hw.2.2.2.2.2.1
  refine ⟨by omega, wfS hw (by omega), wAt_lt hw hww, isWv_of hw hww, fun j hj => ?_⟩
  have hh := wfH hw (by omega) hj
  exact ⟨by omega, wfK hw (k := a (191 + (5 * p + j))) (by omega), hasC_no ho.2.2.2.2.2.2.2.2.2.2.2.2 (by omega) hj⟩
theorem learn_step {c : Gm} (hf : ∀ i, 27 ≤ i → c i = a i) (hp : p < 4) {n cd : Nat} (hn5 : n < 5) (hcd : a (191 + (5 * p + n)) = cd) (h40 : cd < 40) (hno : hasC a p n cd = false) : learnG c p w v (n + 1) = if hasW w v (a (27 + cd)) = true then up (up (up (learnG c p w v n) (107 + cd) (learnR (a (107 + cd)) w v true)) (67 + cd) (learnC (a (67 + cd)) w v true)) (147 + cd) 1 else up (up (learnG c p w v n) (107 + cd) (learnR (a (107 + cd)) w v false)) (67 + cd) (learnC (a (67 + cd)) w v false) := by
  have := learnG_s (a := c) (p := p) (w := w) (v := v) (n := n) (cd := cd) (by rw [hf _ (by omega)]; exact hcd) h40 (by rw [hasC_fr (a := a) (fun i h1 h2 => hf i (by omega)) hp (by omega)]; exact hno)
  rw [hf (27 + cd) (by omega), hf (107 + cd) (by omega), hf (67 + cd) (by omega)] at this
  exact this
theorem learn_at {c : Gm} (hf : ∀ i, 27 ≤ i → c i = a i) (hp : p < 4) {n cd : Nat} (hn5 : n < 5) (h40 : cd < 40) (hno : hasC a p n cd = false) : learnG c p w v n (67 + cd) = a (67 + cd) ∧ learnG c p w v n (107 + cd) = a (107 + cd) ∧ learnG c p w v n (27 + cd) = a (27 + cd) := by
  have h : hasC c p n cd = false := by rw [hasC_fr (a := a) (fun i h1 h2 => hf i (by omega)) hp (by omega)]; exact hno
  refine ⟨?_, ?_, ?_⟩
  · rw [learnG_C h40, h, if_neg (by decide), hf _ (by omega)]
  · rw [learnG_R h40, h, if_neg (by decide), hf _ (by omega)]
  · rw [learnG_fr (by omega), hf _ (by omega)]
theorem preE_fr (h : preE a) (e : ∀ i, i ≤ 17 → i ≠ 7 → i ≠ 13 → b i = a i) : preE b := by
  obtain ⟨h0, h1, h2, h2', h10, h11, h8, h9, h4, h5, ht, hz, h91⟩ := h
  have e5 : b 5 = a 5 := e 5 (by omega) (by omega) (by omega)
  refine ⟨?_, ?_, ?_, ?_, ?_, ?_, ?_, ?_, ?_, ?_, ?_, ?_, ?_⟩
  · rw [e 0 (by omega) (by omega) (by omega)]; exact h0
  · rw [e 1 (by omega) (by omega) (by omega)]; exact h1
  · rw [e 2 (by omega) (by omega) (by omega)]; exact h2
  · rw [e 2 (by omega) (by omega) (by omega)]; exact h2'
  · rw [e 10 (by omega) (by omega) (by omega), e 2 (by omega) (by omega) (by omega)]; exact h10
  · rw [e 11 (by omega) (by omega) (by omega)]; exact h11
  · rw [e 8 (by omega) (by omega) (by omega)]; exact h8
  · rw [e 9 (by omega) (by omega) (by omega)]; exact h9
  · rw [e 4 (by omega) (by omega) (by omega)]; exact h4
  · rw [e5, e 4 (by omega) (by omega) (by omega)]; exact h5
  · intro c hc; rw [e _ (by omega) (by omega) (by omega), e 1 (by omega) (by omega) (by omega)]; exact ht c hc
  · intro c hc hq
    rw [e 0 (by omega) (by omega) (by omega)] at hq
    rw [e _ (by omega) (by omega) (by omega)]; exact hz c hc hq
  · rw [e 9 (by omega) (by omega) (by omega)]; exact h91
theorem m_hints (ho : okG a) (he : endOf a = 0) (hp : p < a 2) (hww : isW a w v) (h7 : 1 ≤ a 7) (hwl : 1 ≤ a (18 + wAt w v)) (hr : encR a L r) : ∃ r', f_X8_hints NN (sa s 0 r) (iN p) (iN w) (iN v) = some (iN (touchN a p w v (a (187 + p))), sa s 0 r') ∧ encR (hintG a p w v) (hintL a L p w v) r' := by
  obtain ⟨hp4, hs5, hw9, hwv, hc⟩ := hint_b ho he hp hww
  have hw := ho.1
  obtain ⟨b0, b1, b2, b3, b4, b5, b6, b7, b8, b9, b11, b12, b13⟩ := wfB hw
  have hx := ho.2.2.2.2.2.2.2.2
  have hpre := okE_pre (midHint_ok ho he hp hww h7 hwl)
  have hvv : w ≤ 1 ∧ v ≤ 5 := by rcases hwv with ⟨e, h⟩ | ⟨e, h, h'⟩ <;> omega
  have sf : ∀ i, 27 ≤ i → saidG a w v i = a i := fun i hi => saidG_fr (by omega) (by omega) (by omega)
  have hword := wfW hw hw9
  have elit : (10 : Int32) * iN w + iN v = iN (10 * w + v) := by rw [show (10 : Int32) * iN w = iN (10 * w) from iN_mul 10 w, iN_add]
  unfold f_X8_hints
  rw [elit]
  obtain ⟨r1, q1, hr1⟩ := m_logs (s := s) hr (by omega) 2 (iN p) (iN (10 * w + v))
  rw [q1, ob_some, wa_eq hw hww, ob_some]
  simp only [znm_eq, sa_get, sa_sa]
  have e7 : r1 7 = iN (a 7) := hr1.1 7 (by omega) (by omega)
  have ew : r1 (18 + wAt w v) = iN (a (18 + wAt w v)) := by
    have := hr1.1 (18 + wAt w v) (by omega) (by omega)
    rwa [logA_ne (by omega)] at this
  rw [chk_iN (by omega) (by omega), chk_iN (by omega) (by omega), clamp_iN (by omega), upd_at, if_neg (by omega), ew, e7, iN_subm1 h7, iN_subm1 hwl]
  have hr2 : encR (saidG a w v) (hintL a L p w v) (upd (upd r1 7 (iN (a 7 - 1))) (18 + wAt w v) (iN (a (18 + wAt w v) - 1))) := encR_up (encR_up hr1 (by omega) (by omega) rfl) (by omega) (by omega) rfl
  unfold f_X8_hints_43
  have go := loopI3 (z := fun _ _ _ => none) (F := F_X8_hints_43 NN (iN p) (iN w) (iN v)) (fun n => iN (touchN a p w v n)) (fun n => iN n) (a (187 + p))
    (fun n s1 => ∃ r', s1 = sa s 0 r' ∧ encR (learnG (saidG a w v) p w v n) (hintL a L p w v) r')
    (fun res : Int32 × Ob => ∃ r', res = (iN (touchN a p w v (a (187 + p))), sa s 0 r') ∧ encR (hintG a p w v) (hintL a L p w v) r') ?_ ?_ NN 0 (sa s 0 (upd (upd r1 7 (iN (a 7 - 1))) (18 + wAt w v) (iN (a (18 + wAt w v) - 1)))) ⟨_, rfl, by rw [learnG_0]; exact hr2⟩ (by omega) (nnb (by omega))
  · obtain ⟨res, ⟨r', e1, e2⟩, e3⟩ := go
    rw [e1] at e3
    exact ⟨r', e3, e2⟩
  · rintro n s1 hn ⟨r', rfl, hr'⟩
    obtain ⟨h40, hk20, hno⟩ := hc n hn
    obtain ⟨l1, l2, l3⟩ := learn_at (w := w) (v := v) sf hp4 (show n < 5 by omega) h40 hno
    have hst := learn_step (w := w) (v := v) sf hp4 (show n < 5 by omega) rfl h40 hno
    have hC := wfC hw h40
    have eS : r' (187 + p) = iN (a (187 + p)) := by
      have := hr'.1 (187 + p) (by omega) (by omega)
      rwa [learnG_fr (by omega), sf _ (by omega)] at this
    have eh := he_y (s := s) hr' hp4 (show n < 5 by omega)
    rw [learnG_fr (by omega), sf _ (by omega)] at eh
    have hk20' : a (27 + a (191 + (5 * p + n))) < 20 := hk20
    have ec := cbh (s := s) hr' h40 (by rw [l3]; exact hk20') (by rw [l1]; exact hC.1) hwv
    have er := rbh (s := s) hr' h40 (by rw [l3]; exact hk20') (by rw [l2]; exact hC.2) hwv
    rw [l1, l3] at ec
    rw [l2, l3] at er
    have hr3 : encR (up (up (learnG (saidG a w v) p w v n) (107 + a (191 + (5 * p + n))) (learnR (a (107 + a (191 + (5 * p + n)))) w v (hasW w v (a (27 + a (191 + (5 * p + n))))))) (67 + a (191 + (5 * p + n))) (learnC (a (67 + a (191 + (5 * p + n)))) w v (hasW w v (a (27 + a (191 + (5 * p + n))))))) (hintL a L p w v) (upd (upd r' (107 + a (191 + (5 * p + n))) (iN (learnR (a (107 + a (191 + (5 * p + n)))) w v (hasW w v (a (27 + a (191 + (5 * p + n)))))))) (67 + a (191 + (5 * p + n))) (iN (learnC (a (67 + a (191 + (5 * p + n)))) w v (hasW w v (a (27 + a (191 + (5 * p + n)))))))) := encR_up (encR_up hr' (by omega) (by omega) rfl) (by omega) (by omega) rfl
    have f27 : up (up (learnG (saidG a w v) p w v n) (107 + a (191 + (5 * p + n))) (learnR (a (107 + a (191 + (5 * p + n)))) w v (hasW w v (a (27 + a (191 + (5 * p + n))))))) (67 + a (191 + (5 * p + n))) (learnC (a (67 + a (191 + (5 * p + n)))) w v (hasW w v (a (27 + a (191 + (5 * p + n)))))) (27 + a (191 + (5 * p + n))) = a (27 + a (191 + (5 * p + n))) := by rw [up_ne (by omega), up_ne (by omega), l3]
    have et := itb (s := s) hr3 h40 (by rw [f27]; exact hk20') hwv
    rw [f27] at et
    have comm : ∀ self : Int32 → Int32 → Ob → Option (Int32 × Ob), F_X8_hints_43 NN (iN p) (iN w) (iN v) self (iN (touchN a p w v n)) (iN n) (sa s 0 r') = (if iN (bN (hasW w v (a (27 + a (191 + (5 * p + n)))))) = 0 then self (iN (touchN a p w v n)) (iN (n + 1)) (sa s 0 (upd (upd r' (107 + a (191 + (5 * p + n))) (iN (learnR (a (107 + a (191 + (5 * p + n)))) w v (hasW w v (a (27 + a (191 + (5 * p + n)))))))) (67 + a (191 + (5 * p + n))) (iN (learnC (a (67 + a (191 + (5 * p + n)))) w v (hasW w v (a (27 + a (191 + (5 * p + n))))))))) else self (iN (touchN a p w v n + 1)) (iN (n + 1)) (sa s 0 (upd (upd (upd r' (107 + a (191 + (5 * p + n))) (iN (learnR (a (107 + a (191 + (5 * p + n)))) w v (hasW w v (a (27 + a (191 + (5 * p + n)))))))) (67 + a (191 + (5 * p + n))) (iN (learnC (a (67 + a (191 + (5 * p + n)))) w v (hasW w v (a (27 + a (191 + (5 * p + n)))))))) (147 + a (191 + (5 * p + n))) (iN 1)))) := by
      intro self
      unfold F_X8_hints_43
      simp only [znm_eq, sa_get, sa_sa]
      rw [show (187 : Int32) + iN p = iN (187 + p) from iN_add 187 p, chk_iN (by omega) (by omega), clamp_iN (by omega), eS, if_neg (fun q => absurd ((iN_le (by omega) (by omega)).mp q) (by omega)), eh, ob_some, ec, ob_some, er, ob_some, show (107 : Int32) + iN (a (191 + (5 * p + n))) = iN (107 + a (191 + (5 * p + n))) from iN_add _ _, show (67 : Int32) + iN (a (191 + (5 * p + n))) = iN (67 + a (191 + (5 * p + n))) from iN_add _ _, show (147 : Int32) + iN (a (191 + (5 * p + n))) = iN (147 + a (191 + (5 * p + n))) from iN_add _ _, chk_iN (by omega) (by omega), chk_iN (by omega) (by omega), clamp_iN (by omega), clamp_iN (by omega), et, ob_some, chk_iN (by omega) (by omega), clamp_iN (by omega), iN_p1, iN_p1]
      rfl
    cases ht : hasW w v (a (27 + a (191 + (5 * p + n))))
    · rw [ht, if_neg (show ¬ false = true by decide)] at hst
      rw [ht] at hr3
      refine ⟨sa s 0 (upd (upd r' (107 + a (191 + (5 * p + n))) (iN (learnR (a (107 + a (191 + (5 * p + n)))) w v false))) (67 + a (191 + (5 * p + n))) (iN (learnC (a (67 + a (191 + (5 * p + n)))) w v false))), ⟨_, rfl, ?_⟩, fun self => ?_⟩
      · rw [hst]; exact hr3
      · rw [comm self, ht, if_pos bN0]
        have : touchN a p w v (n + 1) = touchN a p w v n := cntK_0 (f := fun j => hasW w v (kAt a p j)) ht
        rw [this]
    · rw [ht, if_pos rfl] at hst
      rw [ht] at hr3
      refine ⟨sa s 0 (upd (upd (upd r' (107 + a (191 + (5 * p + n))) (iN (learnR (a (107 + a (191 + (5 * p + n)))) w v true))) (67 + a (191 + (5 * p + n))) (iN (learnC (a (67 + a (191 + (5 * p + n)))) w v true))) (147 + a (191 + (5 * p + n))) (iN 1)), ⟨_, rfl, ?_⟩, fun self => ?_⟩
      · rw [hst]; exact encR_up hr3 (by omega) (by omega) rfl
      · rw [comm self, ht, if_neg bN1]
        have : touchN a p w v (n + 1) = touchN a p w v n + 1 := cntK_1 (f := fun j => hasW w v (kAt a p j)) ht
        rw [this]
  · rintro s1 ⟨r', rfl, hr'⟩
    have eS : r' (187 + p) = iN (a (187 + p)) := by
      have := hr'.1 (187 + p) (by omega) (by omega)
      rwa [learnG_fr (by omega), sf _ (by omega)] at this
    have e234 : r' 234 = iN (a 234) := by
      have := hr'.1 234 (by omega) (by omega)
      rwa [learnG_fr (by omega), sf _ (by omega)] at this
    have e236 : r' 236 = iN (a 236) := by
      have := hr'.1 236 (by omega) (by omega)
      rwa [learnG_fr (by omega), sf _ (by omega)] at this
    have hM : encR (midHint a p w v) (hintL a L p w v) (upd (upd r' 234 (iN (a 234 + 1))) 236 (iN (a 236 + touchN a p w v (a (187 + p))))) := encR_up (encR_up hr' (by omega) (by omega) rfl) (by omega) (by omega) rfl
    have g : ∀ i, i ≤ 17 → i ≠ 7 → i ≠ 13 → midHint a p w v i = a i := fun i hi h7 h13 => midHint_fr hw9 (by omega) h7 h13 (by omega) (by omega) (by omega)
    obtain ⟨r4, q4, hr4⟩ := m_end0 (s := s) hM hpre (by
      rw [g 9 (by omega) (by omega) (by omega), g 5 (by omega) (by omega) (by omega), g 4 (by omega) (by omega) (by omega)]
      intro c9
      have := (hx.2.2.2.1 c9).1
      omega)
    refine ⟨_, ⟨r4, rfl, hr4⟩, fun self => ?_⟩
    unfold F_X8_hints_43
    simp only [znm_eq, sa_get, sa_sa]
    rw [show (187 : Int32) + iN p = iN (187 + p) from iN_add 187 p, chk_iN (by omega) (by omega), clamp_iN (by omega), eS, if_pos ((iN_le (by omega) (by omega)).mpr (Nat.le_refl _)), e234, iN_p1, upd_at, if_neg (by omega), e236, iN_add, q4, ob_some]
theorem x_hints (ho : okG a) (he : endOf a = 0) (hp : p < a 2) (hww : isW a w v) (h7 : 1 ≤ a 7) (hwl : 1 ≤ a (18 + wAt w v)) (hG : encG a L s) (hu : encRu a ru) : ∃ s', f_X1_giveHint NN s ru (iN p) (iN w) (iN v) = some (iN (touchN a p w v (a (187 + p))), s') ∧ encG (hintG a p w v) (hintL a L p w v) s' := by
  obtain ⟨hp4, hs5, hw9, hwv, hc⟩ := hint_b ho he hp hww
  have hw := ho.1
  have hsz : ∀ q, q < 4 → a (187 + q) ≤ 5 := fun q hq => wfS hw hq
  obtain ⟨b0, b1, b2, b3, b4, b5, b6, b7, b8, b9, b11, b12, b13⟩ := wfB hw
  have hx := ho.2.2.2.2.2.2.2.2
  have r13 := hx.1
  have hpre := okE_pre (midHint_ok ho he hp hww h7 hwl)
  have hvv : w ≤ 1 ∧ v ≤ 5 := by rcases hwv with ⟨e, h⟩ | ⟨e, h, h'⟩ <;> omega
  have sf : ∀ i, 27 ≤ i → logA a i = a i := fun i hi => logA_ne (by omega)
  have ls : ∀ n q, q < 4 → learnG (logA a) p w v n (187 + q) = a (187 + q) := fun n q hq => by rw [learnG_fr (by omega), sf _ (by omega)]
  have hword := wfW hw hw9
  have elit : (10 : Int32) * iN w + iN v = iN (10 * w + v) := by rw [show (10 : Int32) * iN w = iN (10 * w) from iN_mul 10 w, iN_add]
  have hGl : encG (logA a) L s := g_13 hsz hG
  unfold f_X1_giveHint
  rw [kw_eq hw hww, ob_some]
  unfold f_X1_giveHint_13
  have go := loopI4 (z := fun _ _ _ _ => none) (F := F_X1_giveHint_13 NN ru (iN p) (iN w) (iN v)) (fun _ => kset (hasW w v)) (fun n => iN (touchN a p w v n)) (fun n => iN n) (a (187 + p))
    (fun n s1 => encG (learnG (logA a) p w v n) L s1)
    (fun res : Int32 × Ob => ∃ s', res = (iN (touchN a p w v (a (187 + p))), s') ∧ encG (hintG a p w v) (hintL a L p w v) s') ?_ ?_ NN 0 s (by rw [learnG_0]; exact hGl) (by omega) (nnb (by omega))
  · obtain ⟨res, ⟨r', e1, e2⟩, e3⟩ := go
    rw [e1] at e3
    exact ⟨r', e3, e2⟩
  · intro n s1 hn hG1
    obtain ⟨h40, hk20, hno⟩ := hc n hn
    obtain ⟨l1, l2, l3⟩ := learn_at (w := w) (v := v) sf hp4 (show n < 5 by omega) h40 hno
    have hst := learn_step (w := w) (v := v) sf hp4 (show n < 5 by omega) rfl h40 hno
    have es := so_eq hG1 hp4
    rw [ls n p hp4] at es
    have ec := ca_y hG1 hp4 (by rw [ls n p hp4]; exact hs5) (by rw [ls n p hp4]; exact hn)
    rw [learnG_fr (by omega), sf _ (by omega)] at ec
    obtain ⟨s2, q2, hG2⟩ := x_learn (w := w) (v := v) (fun q hq => by rw [ls n q hq]; exact hsz q hq) hG1 hu h40 hk20
    rw [l1, l2, ← hst] at hG2
    refine ⟨s2, hG2, fun self => ?_⟩
    unfold F_X1_giveHint_13
    rw [es, ob_some, if_neg (fun q => absurd ((iN_le (by omega) (by omega)).mp q) (by omega)), ec, ob_some, q2, ob_some, iN_p1, iN_p1]
    show (if iN (bN (hasW w v (a (27 + a (191 + (5 * p + n)))))) = 0 then _ else _) = _
    cases ht : hasW w v (a (27 + a (191 + (5 * p + n))))
    · have : touchN a p w v (n + 1) = touchN a p w v n := cntK_0 (f := fun j => hasW w v (kAt a p j)) ht
      rw [if_pos bN0, this]
    · have : touchN a p w v (n + 1) = touchN a p w v n + 1 := cntK_1 (f := fun j => hasW w v (kAt a p j)) ht
      rw [if_neg bN1, this]
  · intro s1 hG1
    have es := so_eq hG1 hp4
    rw [ls _ p hp4] at es
    have hs1 : ∀ q, q < 4 → learnG (logA a) p w v (a (187 + p)) (187 + q) ≤ 5 := fun q hq => by rw [ls _ q hq]; exact hsz q hq
    have fl : ∀ i, (i < 67 ∨ 187 ≤ i) → i ≠ 13 → learnG (logA a) p w v (a (187 + p)) i = a i := fun i hi h13 => by rw [learnG_fr hi, logA_ne h13]
    have ew : s1.2.2.1 13 (wAt w v) - 1 = iN (a (18 + wAt w v) - 1) := by
      have := hG1.2.2.2.2.2.2.2.2.2.2.2.2.1 (wAt w v) hw9
      rw [this, fl _ (by omega) (by omega), iN_subm1 hwl]
    have hG2 := g_word (v := a (18 + wAt w v) - 1) hw9 hs1 hG1
    have e2 : s1.1 2 - 1 = iN (a 7 - 1) := by
      have := hG1.2.1
      rw [this, fl 7 (by omega) (by omega), iN_subm1 h7]
    have e3 : s1.2.2.1 7 3 + 1 = iN (a 234 + 1) := by
      have := hG1.2.2.2.2.2.2.1 3 (by omega)
      rw [this, fl _ (by omega) (by omega), iN_p1]
    have e5 : s1.2.2.1 7 5 = iN (a 236) := by
      have := hG1.2.2.2.2.2.2.1 5 (by omega)
      rw [this, fl _ (by omega) (by omega)]
    have hG3 := g_tok (v := a 7 - 1) (fun q hq => by rw [up_ne (by omega)]; exact hs1 q hq) hG2
    have hG4 := g_total (m := 3) (v := a 234 + 1) (by omega) (fun q hq => by rw [up_ne (by omega), up_ne (by omega)]; exact hs1 q hq) hG3
    have hG5 := g_total (m := 5) (v := a 236 + touchN a p w v (a (187 + p))) (by omega) (fun q hq => by rw [up_ne (by omega), up_ne (by omega), up_ne (by omega)]; exact hs1 q hq) hG4
    rw [← learn_comm (a := a) hp4 (by omega) hw9] at hG5
    have hsm : ∀ q, q < 4 → midHint a p w v (187 + q) ≤ 5 := fun q hq => by rw [midHint_fr hw9 (by omega) (by omega) (by omega) (by omega) (by omega) (by omega)]; exact hsz q hq
    have g : ∀ i, i ≤ 17 → i ≠ 7 → i ≠ 13 → midHint a p w v i = a i := fun i hi h7 h13 => midHint_fr hw9 (by omega) h7 h13 (by omega) (by omega) (by omega)
    have hG5 : encG (midHint a p w v) L _ := hG5
    obtain ⟨s6, q6, hG6⟩ := x_log hsm hG5 (by rw [g 11 (by omega) (by omega) (by omega)]; exact b11) 2 (iN p) (iN (10 * w + v))
    rw [g 11 (by omega) (by omega) (by omega), g 10 (by omega) (by omega) (by omega), ← r13] at hG6
    obtain ⟨s7, q7, hG7⟩ := x_end hsm hG6 (by rw [g 2 (by omega) (by omega) (by omega)]; exact hu.2.2.1) (by rw [g 4 (by omega) (by omega) (by omega)]; exact hu.2.2.2.2.2.1) hpre
    refine ⟨_, ⟨s7, rfl, hG7⟩, fun self => ?_⟩
    unfold F_X1_giveHint_13 f_X1_giveHint_72
    rw [es, ob_some, if_pos ((iN_le (by omega) (by omega)).mpr (Nat.le_refl _)), iow_eq hw hww, ob_some, if_neg (iN_ne_m1 (by omega)), chk_iN (by omega) (by omega), chk_iN (by omega) (by omega), clamp_iN (by omega), ew]
    simp only [znm_eq, sa_1]
    rw [e2, elit]
    have u5 : upd ((si (sa s1 13 (upd (s1.2.2.1 13) (wAt w v) (iN (a (18 + wAt w v) - 1)))) 2 (iN (a 7 - 1))).2.2.1 7) 3 ((sa s1 13 (upd (s1.2.2.1 13) (wAt w v) (iN (a (18 + wAt w v) - 1)))).2.2.1 7 3 + 1) 5 = iN (a 236) := by
      rw [upd_at, if_neg (by omega)]
      exact e5
    have u3 : (sa s1 13 (upd (s1.2.2.1 13) (wAt w v) (iN (a (18 + wAt w v) - 1)))).2.2.1 7 3 + 1 = iN (a 234 + 1) := e3
    rw [u5, u3, iN_add]
    rw [q6, ob_some, q7, ob_some]
theorem m_passes (ho : okG a) (he : endOf a = 0) (h0 : a (187 + a 10) = 0) (hr : encR a L r) : ∃ r', f_X8_passes NN (sa s 0 r) = some (sa s 0 r') ∧ encR (passG a) (passL a L) r' := by
  have hM := pass_okE ho he h0
  have hx := ho.2.2.2.2.2.2.2.2
  have b13 := ho.1.2.2.2.2.2.2.2.2.2.2.2.2.2.1
  have r10 := (run_b ho he).2.2.2.1
  unfold f_X8_passes
  obtain ⟨r1, q1, hr1⟩ := m_logs (s := s) hr b13 3 (-1) (-1)
  rw [q1, ob_some]
  obtain ⟨r2, q2, hr2⟩ := m_end0 (s := s) hr1 (okE_pre hM) (by
    intro c9
    have := (hx.2.2.2.1 c9).2 _ r10
    omega)
  rw [q2]
  exact ⟨r2, rfl, hr2⟩
theorem x_passes (ho : okG a) (he : endOf a = 0) (h0 : a (187 + a 10) = 0) (hG : encG a L s) (hu : encRu a ru) : ∃ s', f_X1_passTurn NN s ru = some s' ∧ encG (passG a) (passL a L) s' := by
  have hM := pass_okE ho he h0
  have hsz : ∀ q, q < 4 → a (187 + q) ≤ 5 := fun q hq => wfS ho.1 hq
  have b11 := (wfB ho.1).2.2.2.2.2.2.2.2.2.2.1
  have r13 := ho.2.2.2.2.2.2.2.2.1
  have hGl : encG (logA a) L s := g_13 hsz hG
  have hs1 : ∀ q, q < 4 → logA a (187 + q) ≤ 5 := fun q hq => by rw [logA_ne (by omega)]; exact hsz q hq
  unfold f_X1_passTurn
  obtain ⟨s1, q1, hG1⟩ := x_log hs1 hGl (by rw [logA_ne (by omega)]; exact b11) 3 (-1) (-1)
  rw [q1, ob_some]
  rw [logA_ne (by omega), logA_ne (by omega), ← r13] at hG1
  obtain ⟨s2, q2, hG2⟩ := x_end hs1 hG1 (by rw [logA_ne (by omega)]; exact hu.2.2.1) (by rw [logA_ne (by omega)]; exact hu.2.2.2.2.2.1) (okE_pre hM)
  rw [q2]
  exact ⟨s2, rfl, hG2⟩
/-- whether a hint can be given -/
def sayB (a : Gm) (p w v : Nat) : Bool := decide (1 ≤ a (18 + wAt w v)) && !decide (bnum (fun j => hasW w v (kAt a p j)) (a (187 + p)) = 0)
theorem canSay_eq {sM : Ob} (hw : wfG a) (hr : encR a L (sM.2.2.1 0)) (hp : p < 4) (hww : isW a w v) : f_X8_canSay NN sM (iN p) (iN w) (iN v) = some (iN (bN (sayB a p w v))) := by
  have hw9 := wAt_lt hw hww
  have hwd := wfW hw hw9
  have hs := wfS hw hp
  have hl := bnum_lt (fun j => hasW w v (kAt a p j)) (a (187 + p))
  have hl2 : 2 ^ a (187 + p) ≤ 2 ^ 5 := Nat.pow_le_pow_right (by omega) hs
  unfold f_X8_canSay sayB
  rw [wa_eq hw hww, ob_some, chk_iN (by omega) (by omega), clamp_iN (by omega), hr.1 _ (by omega) (by omega), X8_touched_eq hw hr hp hww, ob_some]
  by_cases c : 1 ≤ a (18 + wAt w v)
  · rw [if_neg (show ¬ iN (a (18 + wAt w v)) ≤ 0 from fun q => absurd ((iN_le (b := 0) (by omega) (by omega)).mp q) (by omega)), decide_eq_true c, Bool.true_and]
    by_cases c2 : bnum (fun j => hasW w v (kAt a p j)) (a (187 + p)) = 0
    · rw [if_pos (show bset (fun j => hasW w v (kAt a p j)) (a (187 + p)) = 0 from congrArg iN c2), decide_eq_true c2]; rfl
    · rw [if_neg (show ¬ bset (fun j => hasW w v (kAt a p j)) (a (187 + p)) = 0 from fun q => c2 ((iN_inj (b := 0) (by omega) (by omega)).mp q)), decide_eq_false c2]; rfl
  · rw [if_pos (show iN (a (18 + wAt w v)) ≤ 0 from (iN_le (b := 0) (by omega) (by omega)).mpr (by omega)), decide_eq_false c]; rfl
theorem canBe_eq (hw : wfG a) (hG : encG a L s) (hu : encRu a ru) (hp : p < 4) (hww : isW a w v) (hp2 : p ≠ a 10) (h10 : a 10 < 4) (h7 : a 7 ≤ 9) : f_X1_canBeGiven NN s ru (iN p) (iN w) (iN v) = some (iN (bN (decide (1 ≤ a 7) && sayB a p w v))) := by
  have hw9 := wAt_lt hw hww
  have hwd := wfW hw hw9
  have hs := wfS hw hp
  have hl := bnum_lt (fun j => hasW w v (kAt a p j)) (a (187 + p))
  have hl2 : 2 ^ a (187 + p) ≤ 2 ^ 5 := Nat.pow_le_pow_right (by omega) hs
  unfold f_X1_canBeGiven sayB
  rw [hG.2.1, hG.2.2.2.1, tl_eq hw hG hww, ob_some, kw_eq hw hww, ob_some, touchedPlaces_eq hw hG hu hp, ob_some]
  by_cases c7 : 1 ≤ a 7
  · rw [if_neg (show ¬ iN (a 7) ≤ 0 from fun q => absurd ((iN_le (b := 0) (by omega) (by omega)).mp q) (by omega)), if_neg (fun q => hp2 ((iN_inj (by omega) (by omega)).mp q)), decide_eq_true c7, Bool.true_and]
    by_cases c : 1 ≤ a (18 + wAt w v)
    · rw [if_neg (show ¬ iN (a (18 + wAt w v)) ≤ 0 from fun q => absurd ((iN_le (b := 0) (by omega) (by omega)).mp q) (by omega)), decide_eq_true c, Bool.true_and]
      by_cases c2 : bnum (fun j => hasW w v (kAt a p j)) (a (187 + p)) = 0
      · rw [if_pos (show bset (fun j => hasW w v (kAt a p j)) (a (187 + p)) = 0 from congrArg iN c2), decide_eq_true c2]; rfl
      · rw [if_neg (show ¬ bset (fun j => hasW w v (kAt a p j)) (a (187 + p)) = 0 from fun q => c2 ((iN_inj (b := 0) (by omega) (by omega)).mp q)), decide_eq_false c2]; rfl
    · rw [if_pos (show iN (a (18 + wAt w v)) ≤ 0 from (iN_le (b := 0) (by omega) (by omega)).mpr (by omega)), decide_eq_false c]; rfl
  · rw [if_pos (show iN (a 7) ≤ 0 from (iN_le (b := 0) (by omega) (by omega)).mpr (by omega)), decide_eq_false c7]; rfl
end HIN
