/-! OWN: the search of the class comes to its end -/
/-- rules that a game may have -/
def RV (ru : Ob) : Prop := (∀ k, k < 40 → ∃ q, q < 20 ∧ ru.2.2.1 8 k = iN q) ∧ ∃ P, P ≤ 4 ∧ ru.1 2 = iN P
/-- a position: whose turn it is -/
def PI (s : Ob) : Prop := ∃ t, t < 4 ∧ s.1 5 = iN t
/-- a search: how many were found -/
def SI (s : Ob) : Prop := ∃ n, n ≤ 4000 ∧ s.1 2 = iN n
theorem RV_of {a : Gm} {ru : Ob} (hw : wfG a) (hu : encRu a ru) : RV ru :=
  ⟨fun k hk => ⟨a (27 + k), hw.2.2.2.2.2.2.2.2.2.2.2.2.2.2.2.2.1 k hk, hu.2.2.2.2.2.2.1 k hk⟩, a 2, hw.2.2.1, hu.2.2.1⟩
theorem packed_t (s : Ob) : Tot (f_X3_packed NN s) Ya := by
  unfold f_X3_packed f_X3_packed_4
  refine tlk2 (fun j _ v => Cn 4 j v) (fun j a v hI self hs => ?_) NN 4 0 0 (Nat.le_of_ble_eq_true rfl) (cn_0 4)
  obtain ⟨k, hk, rfl⟩ := hI
  unfold F_X3_packed_4
  refine tt_ite (fun _ => ⟨_, rfl, trivial⟩) (fun h => ?_)
  have h4 := nle (c := 4) (by omega) (by omega) h
  exact tt_chk (iN_inb h4 (by omega)) (hs (j - 1) _ _ (by omega) ⟨k + 1, by omega, inc1 k⟩)
theorem slot13 (x : Int64) : inb ((x.toUInt64 >>> (((51 : Int32)).toInt64.toUInt64 &&& Int64.toUInt64 63)).toInt64.toInt32) 8192 = true := by
  have e : (x.toUInt64 >>> (((51 : Int32)).toInt64.toUInt64 &&& Int64.toUInt64 63)).toInt64.toInt32 = iN (bnum (fun i => bitL x (51 + i)) 13) := bit_ext fun i hi => by
    rw [bit_l2i _ hi]
    refine (bitL_ushr x (k := 51) (by omega) i).trans ?_
    rw [bit_iN _ _ hi, tb_bnum]
    by_cases c : i < 13
    · rw [decide_eq_true c, Bool.true_and]
    · rw [decide_eq_false c, Bool.false_and, bitL_out _ (by omega)]
  rw [e]
  exact iN_inb (bnum_lt _ 13) (by omega)
theorem slot_t (S s : Ob) (r : Int32) : Tot (f_X6_slotOf NN S s r) (fun v => inb v 8192 = true) := by
  unfold f_X6_slotOf f_X6_slotOf_6
  refine tlk2 (fun j _ v => Cn 4 j v) (fun j a v hI self hs => ?_) NN 4 _ 0 (Nat.le_of_ble_eq_true rfl) (cn_0 4)
  obtain ⟨k, hk, rfl⟩ := hI
  unfold F_X6_slotOf_6
  refine tt_ite (fun _ => ⟨_, rfl, slot13 _⟩) (fun h => ?_)
  have h4 := nle (c := 4) (by omega) (by omega) h
  exact tt_chk (iN_inb h4 (by omega)) (hs (j - 1) _ _ (by omega) ⟨k + 1, by omega, inc1 k⟩)
theorem isStored_t (S s : Ob) (p r : Int32) : Tot (f_X6_isStored NN S s p r) Ya := by
  unfold f_X6_isStored
  refine tt_ite (fun _ => tt_some trivial) (fun h0 => tt_ite (fun _ => tt_some trivial) (fun h1 => ?_))
  obtain ⟨e, hb⟩ := iN_of h0
  generalize p.toNatClampNeg = m at e hb
  subst e
  have hm := nle (c := 4000) (by omega) (by omega) h1
  refine tt_chk (iN_inb hm (by omega)) (tt_ite (fun _ => ?_) (fun _ => tt_some trivial))
  unfold f_X6_isStored_25
  refine tlk1 (fun j v => Cn 4 j v) (fun j v hI self hs => ?_) NN 4 0 (Nat.le_of_ble_eq_true rfl) (cn_0 4)
  obtain ⟨k, hk, rfl⟩ := hI
  unfold F_X6_isStored_25
  refine tt_ite (fun _ => tt_some trivial) (fun h => ?_)
  have h4 := nle (c := 4) (by omega) (by omega) h
  have e4 : iN m * (4 : Int32) + iN k = iN (m * 4 + k) := by
    show iN m * iN 4 + iN k = _
    rw [iN_mul, iN_add]
  rw [e4]
  refine tt_chk (iN_inb (by omega) (by omega)) (tt_chk (iN_inb h4 (by omega)) (tt_ite (fun _ => hs (j - 1) _ (by omega) ⟨k + 1, by omega, inc1 k⟩) (fun _ => tt_some trivial)))
theorem store_t {S : Ob} (s : Ob) {p : Int32} (r : Int32) (hS : SI S) (hp : inb p 8192 = true) : Tot (f_X6_store NN S s p r) SI := by
  obtain ⟨n, hn, e⟩ := hS
  unfold f_X6_store
  rw [e]
  refine tt_ite (fun h => ?_) (fun _ => tt_some ⟨n, hn, e⟩)
  have h4 : n < 4000 := (iN_lt (b := 4000) (by omega) (by omega)).mp h
  have e4 : iN n * (4 : Int32) = iN (n * 4) := iN_mul n 4
  rw [e4, iN_clamp (k := n * 4) (by omega)]
  refine tt_chk (iN_inb h4 (by omega)) (tt_chk (decide_eq_true (iN_not_neg _ (by omega))) (tt_chk (decide_eq_true (show n * 4 + 4 ≤ 16000 by omega)) (tt_chk hp (tt_some ⟨n + 1, by omega, ?_⟩))))
  show S.1 2 + 1 = _
  rw [e]
  exact inc1 n
theorem add_t {S : Ob} (s : Ob) (hS : SI S) : Tot (f_X6_add NN S s) SI := by
  unfold f_X6_add
  refine tt_ob (packed_t s) (fun r _ => tt_ob (slot_t S s r) (fun v hv => ?_))
  unfold f_X6_add_16
  refine tlk4 (fun j _ v c s' => Cn 8192 j c ∧ inb v 8192 = true ∧ SI s') (fun j a v c s' hI self hs => ?_) NN 8192 _ _ 0 _ (Nat.le_of_ble_eq_true rfl) ⟨cn_0 8192, hv, hS⟩
  obtain ⟨⟨k, hk, rfl⟩, hv, hS⟩ := hI
  unfold F_X6_add_16
  refine tt_ite (fun _ => tt_some hS) (fun h => ?_)
  have h4 := nle (c := 8192) (by omega) (by omega) h
  refine tt_chk hv (tt_ite (fun _ => tt_ob (store_t s a hS hv) (fun _ h => tt_some h)) (fun _ => tt_chk hv (tt_ob (isStored_t s' s _ a) (fun x _ => tt_ite (fun _ => ?_) (fun _ => tt_some hS)))))
  refine tt_ite (fun _ => hs (j - 1) _ _ _ _ (by omega) ⟨⟨k + 1, by omega, inc1 k⟩, by decide, hS⟩) (fun hc => hs (j - 1) _ _ _ _ (by omega) ⟨⟨k + 1, by omega, inc1 k⟩, ?_, hS⟩)
  have hv2 := of_decide_eq_true hv
  obtain ⟨e, hb⟩ := iN_of hv2.1
  generalize v.toNatClampNeg = m at e hb
  subst e
  rw [inc1] at hc ⊢
  exact iN_inb (nle (c := 8192) (by omega) (by have := hv2.2; rw [iN_clamp hb] at this; omega) hc) (by omega)
theorem holds_t {s : Ob} (hP : PI s) (c : Int32) : Tot (f_X3_holds NN s c) (fun x => (x = 0 ∨ x = 1) ∧ (x ≠ 0 → inb c 40 = true)) := by
  obtain ⟨t, ht, e⟩ := hP
  unfold f_X3_holds
  rw [e]
  refine tt_ite (fun _ => tt_some ⟨Or.inl rfl, fun h => absurd rfl h⟩) (fun h0 => tt_ite (fun _ => tt_some ⟨Or.inl rfl, fun h => absurd rfl h⟩) (fun h1 => tt_chk (iN_inb ht (by omega)) ?_))
  obtain ⟨e, hb⟩ := iN_of h0
  generalize c.toNatClampNeg = m at e hb
  subst e
  have hm := nle (c := 40) (by omega) hb h1
  have hin := iN_inb hm (n := 40) (by omega)
  show Tot (if _ then _ else _) _
  exact tt_ite (fun _ => tt_some ⟨Or.inl rfl, fun _ => hin⟩) (fun _ => tt_some ⟨Or.inr rfl, fun _ => hin⟩)
theorem kind4 {q : Nat} (h : q < 20) : iN q / (5 : Int32) = iN (q / 5) ∧ inb (iN q / (5 : Int32)) 4 = true := by
  have e : iN q / (5 : Int32) = iN (q / 5) := iN_div (a := q) (b := 5) (by omega) (by omega)
  exact ⟨e, by rw [e]; exact iN_inb (by omega) (by omega)⟩
theorem sens_t {s ru : Ob} (hu : RV ru) (hP : PI s) (k c : Int32) : Tot (f_X3_isSensible NN s ru k c) (fun x => x ≠ 0 → (k = 0 ∨ k = 1) → inb c 40 = true) := by
  unfold f_X3_isSensible
  refine tt_ite (fun _ => tt_ob (holds_t hP c) (fun x hx => tt_ite (fun _ => tt_some (fun h => absurd rfl h)) (fun hn => ?_))) (fun h0 => tt_ite (fun _ => tt_ob (holds_t hP c) (fun x hx => tt_chk (decide_eq_true hx.1) (tt_some (fun h _ => hx.2 h)))) (fun h1 => ?_))
  · have hin := hx.2 hn
    have h2 := of_decide_eq_true hin
    obtain ⟨q, hq, e⟩ := hu.1 _ h2.2
    refine tt_chk hin ?_
    rw [e]
    unfold f_X3_isNext
    refine tt_ob (P := Ya) (tt_chk (kind4 hq).2 (tt_ite (fun _ => tt_some trivial) (fun _ => tt_some trivial))) (fun y _ => tt_ite (fun _ => tt_some (fun _ _ => hin)) (fun _ => tt_some (fun _ _ => hin)))
  · have hno : ∀ (x : Int32), x ≠ 0 → (k = 0 ∨ k = 1) → inb c 40 = true := fun x _ h => (h.elim h0 h1).elim
    refine tt_ite (fun _ => tt_ite (fun _ => tt_some (hno _)) (fun _ => tt_some (hno _))) (fun _ => ?_)
    obtain ⟨t, ht, e⟩ := hP
    rw [e]
    exact tt_chk (iN_inb ht (by omega)) (tt_ite (fun _ => tt_some (hno _)) (fun _ => tt_some (hno _)))
theorem exch_t {s : Ob} (ru : Ob) (hP : PI s) (c : Int32) : Tot (f_X3_exchangeCard NN s ru c) PI := by
  obtain ⟨t, ht, e⟩ := hP
  have hin : inb (s.1 5) 4 = true := by
    rw [e]
    exact iN_inb ht (by omega)
  unfold f_X3_exchangeCard
  refine tt_chk hin (tt_chk hin (tt_ite (fun _ => tt_some ⟨t, ht, e⟩) (fun _ => tt_chk hin (tt_chk hin (tt_some ⟨t, ht, e⟩)))))
theorem pile_t {s : Ob} (ru : Ob) (hP : PI s) {q : Nat} (hq : q < 20) : Tot (f_X3_putOnPile NN s ru (iN q)) PI := by
  obtain ⟨t, ht, e⟩ := hP
  have hin := (kind4 hq).2
  unfold f_X3_putOnPile
  refine tt_chk hin (tt_chk hin (tt_chk hin ?_))
  show Tot (if _ then _ else _) _
  exact tt_ite (fun _ => ⟨_, rfl, t, ht, e⟩) (fun _ => tt_some ⟨t, ht, e⟩)
theorem move73_t {s ru : Ob} (hu : RV ru) (hP : PI s) (k c : Int32) : Tot (f_X3_move_73 NN ru k c s) PI := by
  have h126 : ∀ s, PI s → Tot (f_X3_move_126 NN ru k c s) PI := fun s hP => by
    obtain ⟨t, ht, e⟩ := hP
    obtain ⟨P, hP4, eP⟩ := hu.2
    unfold f_X3_move_126 f_X3_move_153
    rw [e, eP, inc1]
    refine tt_ite (fun _ => tt_some ⟨0, by omega, rfl⟩) (fun h => tt_some ⟨t + 1, ?_, rfl⟩)
    have := nle (c := P) (by omega) (by omega) h
    omega
  obtain ⟨t, ht, e⟩ := hP
  unfold f_X3_move_73
  exact tt_ite (fun _ => tt_ite (fun _ => tt_ite (fun _ => h126 _ ⟨t, ht, e⟩) (fun _ => h126 _ ⟨t, ht, e⟩)) (fun _ => h126 _ ⟨t, ht, e⟩)) (fun _ => h126 _ ⟨t, ht, e⟩)
theorem move_t {s ru : Ob} (hu : RV ru) (hP : PI s) {k c : Int32} (hin : k = 0 → inb c 40 = true) : Tot (f_X3_move NN s ru k c) PI := by
  unfold f_X3_move
  refine tt_ite (fun h => ?_) (fun _ => tt_ite (fun _ => ?_) (fun _ => tt_ite (fun _ => ?_) (fun _ => move73_t hu hP _ _)))
  · have h1 := hin h
    obtain ⟨q, hq, e⟩ := hu.1 _ (of_decide_eq_true h1).2
    refine tt_chk h1 ?_
    rw [e]
    exact tt_ob (pile_t ru hP hq) (fun x hx => tt_ob (exch_t ru hx c) (fun y hy => move73_t hu hy _ _))
  · obtain ⟨t, ht, e⟩ := hP
    exact tt_ob (exch_t (s := si s 3 _) ru ⟨t, ht, e⟩ c) (fun y hy => move73_t hu hy _ _)
  · obtain ⟨t, ht, e⟩ := hP
    exact move73_t (s := si s 3 (s.1 3 - 1)) hu ⟨t, ht, e⟩ _ _
theorem copyP_t {s1 : Ob} (s : Ob) (hP : PI s1) : Tot (f_X3_copyFrom NN s s1) PI := by
  obtain ⟨t, ht, e⟩ := hP
  exact ⟨_, rfl, t, ht, e⟩
theorem behind_t {S s1 ru : Ob} (s3 : Ob) (hu : RV ru) (hS : SI S) (hP : PI s1) (k c : Int32) : Tot (f_X6_addBehind NN S s1 ru s3 k c) (fun z => SI z.1) := by
  unfold f_X6_addBehind
  refine tt_ob (sens_t hu hP k c) (fun x hx => tt_ite (fun _ => tt_some hS) (fun hn => ?_))
  exact tt_ob (copyP_t s3 hP) (fun y hy => tt_ob (move_t hu hy (fun h => hx hn (Or.inl h))) (fun w _ => tt_ob (add_t w hS) (fun v hv => tt_some hv)))
theorem and3 (x : Int32) : ∃ t, t < 4 ∧ x &&& (3 : Int32) = iN t := and_mask x (b := 2)
theorem unpack_t (s : Ob) (p : Int32) : Tot (f_X3_unpack NN s p) PI := by
  unfold f_X3_unpack f_X3_unpack_42
  rw [znm_eq, znm_eq, znm_eq]
  refine tlk2 (fun j v s' => Cn 4 j v ∧ PI s') (fun j v s' hI self hs => ?_) NN 4 0 _ (Nat.le_of_ble_eq_true rfl) ⟨cn_0 4, and3 _⟩
  obtain ⟨⟨k, hk, rfl⟩, hP⟩ := hI
  unfold F_X3_unpack_42
  refine tt_ite (fun _ => tt_some hP) (fun h => ?_)
  have h4 := nle (c := 4) (by omega) (by omega) h
  exact tt_chk (iN_inb h4 (by omega)) (hs (j - 1) _ _ (by omega) ⟨⟨k + 1, by omega, inc1 k⟩, hP⟩)
theorem isLast_t (s ru : Ob) : Tot (f_X3_isLast NN s ru) Ya := by
  unfold f_X3_isLast
  exact tt_ite (fun _ => tt_some trivial) (fun _ => tt_ob (P := Ya) ⟨_, rfl, trivial⟩ (fun _ _ => tt_ite (fun _ => tt_some trivial) (fun _ => tt_some trivial)))
theorem inTurn_t {s : Ob} (hP : PI s) : Tot (f_X3_cardsInTurn NN s) Ya := by
  obtain ⟨t, ht, e⟩ := hP
  unfold f_X3_cardsInTurn
  rw [e]
  exact tt_chk (iN_inb ht (by omega)) (tt_some trivial)
theorem spread_t {S : Ob} {ru : Ob} (s1 s3 : Ob) (hu : RV ru) (hS : SI S) (p : Int32) {n : Nat} (hn : n ≤ 4000) : Tot (f_X6_spread NN S s1 ru s3 (iN n) p) (fun z => SI z.1) := by
  unfold f_X6_spread f_X6_spread_2
  refine tlk4 (fun j v S s1 s3 => Cn 4000 j v ∧ SI S) (fun j v S s1 s3 hI self hs => ?_) NN (4000 - n) _ _ _ _ (show 4000 - n < 100000 by omega) ⟨⟨n, by omega, rfl⟩, hS⟩
  obtain ⟨⟨k, hk, rfl⟩, hS⟩ := hI
  unfold F_X6_spread_2
  refine tt_ite (fun _ => tt_some hS) (fun _ => tt_ite (fun _ => tt_some hS) (fun h => ?_))
  have h4 := nle (c := 4000) (by omega) (by omega) h
  have e4 : iN k * (4 : Int32) = iN (k * 4) := iN_mul k 4
  refine tt_ite (fun _ => tt_ite (fun _ => tt_some hS) (fun _ => tt_chk (iN_inb h4 (by omega)) ?_)) (fun _ => tt_some hS)
  rw [e4, iN_clamp (k := k * 4) (by omega)]
  refine tt_ob (unpack_t s1 _) (fun x hx => tt_chk (decide_eq_true (iN_not_neg _ (by omega))) (tt_chk (decide_eq_true (show k * 4 + 4 ≤ 16000 by omega)) (tt_ob (P := Ya) ⟨_, rfl, trivial⟩ (fun pt _ => tt_ob (isLast_t _ ru) (fun l _ => ?_)))))
  have hS2 : ∀ v, SI (si S 1 v) := fun v => hS
  have hP2 : ∀ f, PI (sb x 1 f) := fun f => hx
  refine tt_ite (fun _ => tt_ob (inTurn_t (hP2 _)) (fun cs _ => ?_)) (fun _ => hs (j - 1) _ _ _ _ (by omega) ⟨⟨k + 1, by omega, inc1 k⟩, hS2 _⟩)
  have fin : ∀ S s1 s3, SI S → PI s1 → Tot (f_X6_spread_162 NN ru (iN n) p self (iN k) S s1 s3) (fun z => SI z.1) := fun S s1 s3 hS hP => by
    unfold f_X6_spread_162
    exact tt_ob (behind_t s3 hu hS hP _ _) (fun x8 h8 => tt_ob (behind_t x8.2 hu h8 hP _ _) (fun x9 h9 => hs (j - 1) _ _ _ _ (by omega) ⟨⟨k + 1, by omega, inc1 k⟩, h9⟩))
  unfold f_X6_spread_107
  refine tlk6 (fun i a b v S s1 s3 => a = iN k ∧ Cn 5 i v ∧ SI S ∧ PI s1) (fun i a b v S s1 s3 hI self2 hs2 => ?_) NN 5 _ _ 0 _ _ _ (Nat.le_of_ble_eq_true rfl) ⟨rfl, cn_0 5, hS2 _, hP2 _⟩
  obtain ⟨rfl, ⟨m, hm, rfl⟩, hS, hP⟩ := hI
  unfold F_X6_spread_107
  refine tt_ite (fun _ => fin _ _ _ hS hP) (fun h5 => tt_ite (fun _ => fin _ _ _ hS hP) (fun _ => ?_))
  have h6 := nle (c := 5) (by omega) (by omega) h5
  exact tt_ob (P := Ya) ⟨_, rfl, trivial⟩ (fun cd _ => tt_ob (behind_t s3 hu hS hP _ _) (fun x11 h11 => tt_ob (behind_t x11.2 hu h11 hP _ _) (fun x12 h12 => hs2 (i - 1) _ _ _ _ _ _ (by omega) ⟨rfl, ⟨m + 1, by omega, inc1 m⟩, h12, hP⟩)))
theorem clear_t (S s1 s2 : Ob) : Tot (f_X6_clear NN S s1 s2) SI := by
  unfold f_X6_clear
  rw [fill_eq _ _ (by omega), ob_some]
  exact ⟨_, rfl, 0, by omega, rfl⟩
section TKF
variable {a : Gm} {L : Nat → Int32} {sG : Ob}
theorem cardAt_t (hw : wfG a) (hG : encG a L sG) (p k : Int32) : Tot (f_X1_cardAt NN sG p k) Ya := by
  unfold f_X1_cardAt
  refine tt_ite (fun _ => tt_some trivial) (fun h0 => tt_ite (fun _ => tt_some trivial) (fun h1 => tt_ite (fun _ => tt_some trivial) (fun h2 => ?_)))
  obtain ⟨e, hb⟩ := iN_of h0
  generalize p.toNatClampNeg = m at e hb
  subst e
  obtain ⟨e, hb2⟩ := iN_of h2
  generalize k.toNatClampNeg = i at e hb2
  subst e
  have hm := nle (c := 4) (by omega) hb h1
  have hs := (hw.2.2.2.2.2.2.2.2.2.2.2.2.2.2.2.2.2.2.2.1 m hm).1
  refine tt_chk (iN_inb hm (by omega)) ?_
  rw [hG.2.2.2.2.2.2.2.2.2.1 m hm]
  refine tt_ite (fun h => ?_) (fun _ => tt_some trivial)
  have hi := (iN_lt hb2 (by omega)).mp h
  have e : iN m * (5 : Int32) + iN i = iN (m * 5 + i) := by
    show iN m * iN 5 + iN i = _
    rw [iN_mul, iN_add]
  rw [e]
  exact tt_ite (fun _ => tt_some trivial) (fun _ => tt_chk (iN_inb (by omega) (by omega)) (tt_some trivial))
theorem sizeOf_t (hG : encG a L sG) {m : Nat} (hm : m < 4) : f_X1_sizeOf NN sG (iN m) = some (iN (a (187 + m))) := by
  unfold f_X1_sizeOf
  rw [if_neg (iN_not_neg m (by omega)), if_neg (le4 hm), chk_t (iN_inb hm (by omega)), iN_clamp (by omega), hG.2.2.2.2.2.2.2.2.2.1 m hm]
theorem take_t (hw : wfG a) (hG : encG a L sG) (s : Ob) : Tot (f_X3_takeFrom NN s sG) (fun T => T.1 5 = iN (a 10)) := by
  have e5 := hG.2.2.2.1
  have h58 : ∀ s, s.1 5 = iN (a 10) → Tot (f_X3_takeFrom_58 NN sG NN (0 : Int32) s) (fun T => T.1 5 = iN (a 10)) := fun s hs0 => by
    unfold f_X3_takeFrom_58
    refine tlk2 (fun j v s' => Cn 4 j v ∧ s'.1 5 = iN (a 10)) (fun j v s' hI self hs => ?_) NN 4 0 _ (Nat.le_of_ble_eq_true rfl) ⟨cn_0 4, hs0⟩
    obtain ⟨⟨k, hk, rfl⟩, hI⟩ := hI
    unfold F_X3_takeFrom_58
    refine tt_ite (fun _ => tt_some hI) (fun h => ?_)
    have h4 := nle (c := 4) (by omega) (by omega) h
    have hz := (hw.2.2.2.2.2.2.2.2.2.2.2.2.2.2.2.2.2.2.2.1 k h4).1
    refine tt_chk (iN_inb h4 (by omega)) ?_
    unfold f_X3_takeFrom_72
    refine tlk3 (fun i x v s' => x = iN k ∧ Cn 5 i v ∧ s'.1 5 = iN (a 10)) (fun i x v s' hI2 self2 hs2 => ?_) NN 5 _ 0 _ (Nat.le_of_ble_eq_true rfl) ⟨rfl, cn_0 5, hI⟩
    obtain ⟨rfl, ⟨m, hm, rfl⟩, hI2⟩ := hI2
    unfold F_X3_takeFrom_72
    rw [sizeOf_t hG h4, ob_some]
    refine tt_ite (fun _ => hs (j - 1) _ _ (by omega) ⟨⟨k + 1, by omega, inc1 k⟩, hI2⟩) (fun h5 => ?_)
    have h6 := nle (by omega) (by omega) h5
    have hin := iN_inb h4 (n := 4) (by omega)
    refine tt_chk hin (tt_ob (cardAt_t hw hG _ _) (fun c _ => ?_))
    show Tot (chk _ _) _
    exact tt_chk hin (hs2 (i - 1) _ _ _ (by omega) ⟨rfl, ⟨m + 1, by omega, inc1 m⟩, hI2⟩)
  unfold f_X3_takeFrom
  rw [znm_eq, znm_eq, znm_eq]
  unfold f_X3_takeFrom_34
  refine tlk2 (fun j v s' => Cn 4 j v ∧ s'.1 5 = iN (a 10)) (fun j v s' hI self hs => ?_) NN 4 0 _ (Nat.le_of_ble_eq_true rfl) ⟨cn_0 4, e5⟩
  obtain ⟨⟨k, hk, rfl⟩, hI⟩ := hI
  unfold F_X3_takeFrom_34
  refine tt_ite (fun _ => h58 _ hI) (fun h => ?_)
  have h4 := nle (c := 4) (by omega) (by omega) h
  rw [X1_topOf_eq h4, ob_some]
  exact tt_chk (iN_inb h4 (by omega)) (hs (j - 1) _ _ (by omega) ⟨⟨k + 1, by omega, inc1 k⟩, hI⟩)
theorem ended_t (hw : wfG a) {ru : Ob} (hG : encG a L sG) (hu : encRu a ru) : Tot (f_X1_isEnded NN sG ru) (fun x => x = 0 → a 10 < 4) := by
  rw [X1_isEnded_eq hw hG hu]
  refine tt_some fun h => ?_
  by_cases he : endOf a = 0
  · have h2 := hw.2.2.2.2.2.2.2.2.2.2.1
    have h3 := hw.2.2.1
    rcases h2 with h2 | h2
    · unfold endOf at he
      rw [if_pos h2] at he
      omega
    · omega
  · rw [if_neg he] at h
    exact absurd h (by decide)
theorem survey_t (hw : wfG a) {ru : Ob} (hG : encG a L sG) (hu : encRu a ru) (sS sH sN : Ob) : Tot (f_X6_survey NN sS sG sH sN ru) (fun z => SI z.1) := by
  unfold f_X6_survey
  refine tt_ob (clear_t sS sH sN) (fun x1 h1 => tt_ob (take_t hw hG sN) (fun x2 h2 => tt_ob (add_t x2 h1) (fun x3 h3 => tt_ob (ended_t hw hG hu) (fun x4 h4 => tt_ite (fun h => ?_) (fun h => ?_)))))
  · exact tt_ob (spread_t (n := 0) sH x2 (RV_of hw hu) h3 _ (by omega)) (fun x5 h5 => tt_some h5)
  · exact tt_ob (P := Ya) ⟨_, X1_score_eq sG, trivial⟩ (fun x6 _ => tt_some h3)
theorem step_t (hw : wfG a) {ru : Ob} (hG : encG a L sG) (hu : encRu a ru) (ht : a 10 < 4) (S sN : Ob) (k p : Int32) : Tot (f_X6_step NN S sG sN ru k p) Ya := by
  unfold f_X6_step
  refine tt_ob (cardAt_t hw hG _ _) (fun c _ => tt_ob (take_t hw hG sN) (fun x2 h2 => ?_))
  have hP : PI x2 := ⟨a 10, ht, h2⟩
  exact tt_ob (sens_t (RV_of hw hu) hP k c) (fun x3 h3 => tt_ite (fun _ => tt_some trivial) (fun hn => tt_ob (move_t (RV_of hw hu) hP (fun h => h3 hn (Or.inl h))) (fun _ _ => tt_some trivial)))
theorem sbehind_t (hw : wfG a) {ru : Ob} (hG : encG a L sG) (hu : encRu a ru) (ht : a 10 < 4) (sS sH sN : Ob) (k p : Int32) : Tot (f_X6_surveyBehind NN sS sG sH sN ru k p) Ya := by
  unfold f_X6_surveyBehind
  exact tt_ob (clear_t sS sH sN) (fun x1 h1 => tt_ob (step_t hw hG hu ht x1 sN k p) (fun x2 _ => tt_ite (fun _ => tt_some trivial) (fun _ => tt_ob (add_t x2.2 h1) (fun x3 h3 => tt_ob (spread_t (n := 0) sH x2.2 (RV_of hw hu) h3 _ (by omega)) (fun x4 _ => tt_some trivial)))))
theorem reaches_t {ru S : Ob} (hu : RV ru) (hS : SI S) (s1 s2 : Ob) (p : Int32) : Tot (f_X6_reaches NN S s1 s2 ru p) (fun z => SI z.2.1) := by
  unfold f_X6_reaches
  obtain ⟨n, hn, e⟩ := hS
  rw [e]
  exact tt_ob (add_t s1 ⟨n, hn, e⟩) (fun x1 h1 => tt_ob (spread_t s2 s1 hu h1 p hn) (fun x2 h2 => tt_ite (fun _ => tt_some h2) (fun _ => tt_some h2)))
theorem findMove_t (hw : wfG a) {ru : Ob} (hG : encG a L sG) (hu : encRu a ru) (ht : a 10 < 4) (sS sH sN : Ob) (p : Int32) : Tot (f_X6_findMove NN sS sG sH sN ru p) Ya := by
  unfold f_X6_findMove
  refine tt_ob (clear_t sS sH sN) (fun x1 h1 => ?_)
  unfold f_X6_findMove_10
  refine tlk4 (fun j v S _ _ => Cn 4 j v ∧ SI S) (fun j v S sH sN hI self hs => ?_) NN 4 0 _ _ _ (Nat.le_of_ble_eq_true rfl) ⟨cn_0 4, h1⟩
  obtain ⟨⟨k, hk, rfl⟩, hS⟩ := hI
  unfold F_X6_findMove_10
  refine tt_ite (fun _ => tt_some trivial) (fun h => ?_)
  have h4 : k < 4 := by
    rcases Nat.lt_or_ge 3 k with q | q
    · exact absurd ((iN_lt (a := 3) (by omega) (by omega)).mpr q) h
    · omega
  have h53 : ∀ (t v5 : Int32) (m : Nat), m ≤ 5 → v5 = iN m → ∀ S sH sN, SI S → Tot (f_X6_findMove_53 NN sG ru p self NN (iN k) t v5 (0 : Int32) S sH sN) Ya := fun t v5 m hm e S sH sN hS => by
    subst e
    unfold f_X6_findMove_53
    refine tlk7 (fun i x t v c S _ _ => x = iN k ∧ v = iN m ∧ Cn 5 i c ∧ SI S) (fun i x t v c S sH sN hI self2 hs2 => ?_) NN 5 _ _ _ 0 _ _ _ (Nat.le_of_ble_eq_true rfl) ⟨rfl, rfl, cn_0 5, hS⟩
    obtain ⟨rfl, rfl, ⟨n, hn, rfl⟩, hS⟩ := hI
    unfold F_X6_findMove_53
    refine tt_ite (fun _ => hs (j - 1) _ _ _ _ (by omega) ⟨⟨k + 1, by omega, inc1 k⟩, hS⟩) (fun h5 => ?_)
    have h6 := nle (by omega) (by omega) h5
    refine tt_ob (step_t hw hG hu ht S sN _ _) (fun x2 _ => tt_ite (fun _ => hs2 (i - 1) _ _ _ _ _ _ _ (by omega) ⟨rfl, rfl, ⟨n + 1, by omega, inc1 n⟩, hS⟩) (fun _ => tt_ob (reaches_t (RV_of hw hu) hS x2.2 sH p) (fun x3 h3 => tt_ite (fun _ => hs2 (i - 1) _ _ _ _ _ _ _ (by omega) ⟨rfl, rfl, ⟨n + 1, by omega, inc1 n⟩, h3⟩) (fun _ => tt_ite (fun _ => tt_some trivial) (fun _ => tt_some trivial)))))
  have h29 : ∀ t0, Tot (f_X6_findMove_29 NN sG ru p self (iN k) t0 S sH sN) Ya := fun t0 => by
    unfold f_X6_findMove_29
    refine tt_ite (fun _ => h53 _ _ 1 (by omega) rfl _ _ _ hS) (fun _ => ?_)
    rw [hG.2.2.2.1, sizeOf_t hG ht, ob_some]
    exact h53 _ _ _ (hw.2.2.2.2.2.2.2.2.2.2.2.2.2.2.2.2.2.2.2.1 _ ht).1 rfl _ _ _ hS
  unfold f_X6_findMove_24
  exact tt_ite (fun _ => h29 _) (fun _ => tt_ite (fun _ => h29 _) (fun _ => h29 _))
end TKF
