/-! OWN: the pure half: sets of kinds, colors, ranks as numbers; colorsOf, ranksOf -/
def bnum (f : Nat → Bool) : Nat → Nat
  | 0 => 0
  | n + 1 => bnum f n + (if f n then 2 ^ n else 0)
theorem bnum_lt (f : Nat → Bool) : ∀ n, bnum f n < 2 ^ n := by
  intro n
  induction n with
  | zero => show 0 < 1; omega
  | succ n ih =>
    show bnum f n + (if f n then 2 ^ n else 0) < 2 ^ (n + 1)
    rw [Nat.pow_succ]
    split <;> omega
theorem tb_bnum (f : Nat → Bool) : ∀ n i, (bnum f n).testBit i = (decide (i < n) && f i) := by
  intro n
  induction n with
  | zero =>
    intro i
    show (0 : Nat).testBit i = _
    rw [Nat.zero_testBit]
    simp
  | succ n ih =>
    intro i
    show (bnum f n + (if f n then 2 ^ n else 0)).testBit i = _
    have hl := bnum_lt f n
    by_cases c : f n = true
    · rw [if_pos c, Nat.add_comm, show 2 ^ n + bnum f n = 2 ^ n * 1 + bnum f n by omega, Nat.two_pow_add_eq_or_of_lt hl, Nat.testBit_or, ih]
      rw [Nat.mul_one, Nat.testBit_two_pow]
      by_cases e : n = i
      · subst e
        simp [c]
      · have : decide (i < n + 1) = decide (i < n) := decide_eq_decide.mpr (by omega)
        rw [this, decide_eq_false e, Bool.false_or]
    · rw [if_neg c, Nat.add_zero, ih]
      by_cases e : n = i
      · subst e
        simp at c
        simp [c]
      · have : decide (i < n + 1) = decide (i < n) := decide_eq_decide.mpr (by omega)
        rw [this]
theorem bnum_congr {f g : Nat → Bool} {n : Nat} (h : ∀ i, i < n → f i = g i) : bnum f n = bnum g n := by
  apply Nat.eq_of_testBit_eq
  intro i
  rw [tb_bnum, tb_bnum]
  by_cases e : i < n
  · rw [h i e]
  · simp [e]
theorem bnum_self {x n : Nat} (h : x < 2 ^ n) : bnum (fun i => x.testBit i) n = x := by
  apply Nat.eq_of_testBit_eq
  intro i
  rw [tb_bnum]
  by_cases e : i < n
  · simp [e]
  · rw [Nat.testBit_lt_two_pow (Nat.lt_of_lt_of_le h (Nat.pow_le_pow_right (by omega) (by omega)))]
    simp
theorem bnum_bit (f : Nat → Bool) {n i : Nat} (h : i < n) : bnum f n / 2 ^ i % 2 = if f i then 1 else 0 := by
  have := tb_bnum f n i
  rw [decide_eq_true h, Bool.true_and, Nat.testBit_eq_decide_div_mod_eq] at this
  by_cases c : f i = true
  · rw [if_pos c]
    rw [c] at this
    exact of_decide_eq_true this
  · rw [if_neg c]
    have e : f i = false := by simpa using c
    rw [e] at this
    have := of_decide_eq_false this
    omega
abbrev bset (f : Nat → Bool) (n : Nat) : Int32 := iN (bnum f n)
theorem bit_bset (f : Nat → Bool) (n : Nat) {i : Nat} (h : i < 32) : bitI (bset f n) i = (decide (i < n) && f i) := by
  rw [bit_iN _ _ h, tb_bnum]
theorem bset_of {x : Int32} {f : Nat → Bool} {n : Nat} (h : ∀ i, i < 32 → bitI x i = (decide (i < n) && f i)) : x = bset f n :=
  bit_ext fun i hi => by rw [h i hi, bit_bset _ _ hi]
theorem bset_1 {f : Nat → Bool} {n : Nat} (hn : n < 32) (h : f n = true) : bset f n ||| (1 <<< (iN n &&& 31)) = bset f (n + 1) := bset_of fun i hi => by
  rw [bit_or, bit_bset _ _ hi, bit_1shl hn hi]
  by_cases e : i = n
  · subst e; simp [h]
  · have : decide (i < n + 1) = decide (i < n) := decide_eq_decide.mpr (by omega)
    rw [this, decide_eq_false e, Bool.or_false]
theorem bset_0 {f : Nat → Bool} {n : Nat} (h : f n = false) : bset f (n + 1) = bset f n := by
  show iN (bnum f n + (if f n then 2 ^ n else 0)) = _
  rw [h]; rfl
theorem bset_eq0 {f : Nat → Bool} {n : Nat} (hn : n ≤ 31) : bset f n = 0 ↔ ∀ i, i < n → f i = false := by
  rw [bit_eq0]
  constructor
  · intro h i hi
    have := h i (by omega)
    rw [bit_bset _ _ (by omega), decide_eq_true hi, Bool.true_and] at this
    exact this
  · intro h i hi
    rw [bit_bset _ _ hi]
    by_cases e : i < n
    · rw [h i e, Bool.and_false]
    · rw [decide_eq_false e, Bool.false_and]
/-- sets of kinds -/
abbrev kset (f : Nat → Bool) : Int32 := bset f 20
def anyK (f : Nat → Bool) : Bool := (List.range 20).any f
theorem anyK_t {f : Nat → Bool} : anyK f = true ↔ ∃ i, i < 20 ∧ f i = true := by
  unfold anyK
  rw [List.any_eq_true]
  constructor
  · rintro ⟨i, h1, h2⟩; exact ⟨i, List.mem_range.mp h1, h2⟩
  · rintro ⟨i, h1, h2⟩; exact ⟨i, List.mem_range.mpr h1, h2⟩
theorem anyK_f {f : Nat → Bool} : anyK f = false ↔ ∀ i, i < 20 → f i = false := by
  constructor
  · intro h i hi
    cases e : f i
    · rfl
    · have := anyK_t.mpr ⟨i, hi, e⟩
      rw [h] at this; cases this
  · intro h
    cases e : anyK f
    · rfl
    · obtain ⟨i, hi, e⟩ := anyK_t.mp e
      rw [h i hi] at e; cases e
def subK (f g : Nat → Bool) : Bool := !anyK (fun i => f i && !g i)
theorem subK_t {f g : Nat → Bool} : subK f g = true ↔ ∀ i, i < 20 → f i = true → g i = true := by
  unfold subK
  rw [Bool.not_eq_true', anyK_f]
  constructor
  · intro h i hi hf
    have := h i hi
    rw [hf, Bool.true_and] at this
    simpa using this
  · intro h i hi
    cases e : f i
    · rfl
    · rw [h i hi e]; rfl
theorem anyK_congr {f g : Nat → Bool} (h : ∀ i, i < 20 → f i = g i) : anyK f = anyK g := by
  cases e : anyK g
  · exact anyK_f.mpr fun i hi => by rw [h i hi]; exact anyK_f.mp e i hi
  · obtain ⟨i, hi, e⟩ := anyK_t.mp e
    exact anyK_t.mpr ⟨i, hi, by rw [h i hi]; exact e⟩
theorem subK_congr {f g g' : Nat → Bool} (h : ∀ i, i < 20 → f i = true → g i = g' i) : subK f g = subK f g' := by
  unfold subK
  congr 1
  refine anyK_congr fun i hi => ?_
  cases e : f i
  · rfl
  · rw [h i hi e]
theorem kset_and (f g : Nat → Bool) : kset f &&& kset g = kset (fun i => f i && g i) := bset_of fun i hi => by
  rw [bit_and, bit_bset _ _ hi, bit_bset _ _ hi]
  cases decide (i < 20) <;> simp
theorem kset_andn (f g : Nat → Bool) : kset f &&& (kset g ^^^ mI1) = kset (fun i => f i && !g i) := bset_of fun i hi => by
  rw [show mI1 = -1 from rfl, bit_and, bit_cmpl _ _ hi, bit_bset _ _ hi, bit_bset _ _ hi]
  cases decide (i < 20) <;> simp
theorem kset_congr {f g : Nat → Bool} (h : ∀ i, i < 20 → f i = g i) : kset f = kset g := congrArg iN (bnum_congr h)
theorem kset_any (f : Nat → Bool) : (kset f = 0) ↔ anyK f = false := by
  rw [bset_eq0 (by omega), anyK_f]
theorem kset_z_t {f : Nat → Bool} (h : anyK f = false) : (kset f = iN 0) = True := eq_true ((kset_any f).mpr h)
theorem kset_z_f {f : Nat → Bool} (h : anyK f = true) : (kset f = iN 0) = False := eq_false fun q => by
  have := (kset_any f).mp q
  rw [h] at this; cases this
theorem shr_kset {f : Nat → Bool} {k : Nat} (hk : k < 20) : ((kset f >>> (iN k &&& 31)) &&& 1 = 0) ↔ f k = false := by
  rw [shr1_eq0 _ (by omega), bit_bset _ _ (by omega), decide_eq_true hk, Bool.true_and]
def bN (b : Bool) : Nat := if b then 1 else 0
theorem bN0 : iN (bN false) = 0 := rfl
theorem bN1 : ¬ iN (bN true) = 0 := by decide
theorem iN00 : iN 0 = 0 := rfl
theorem bN_le (b : Bool) : bN b ≤ 1 := by cases b <;> decide
theorem isIn_kset {f : Nat → Bool} {k : Nat} (hk : k < 20) : f_X7_isIn NN (iN k) (kset f) = some (iN (bN (f k))) := by
  unfold f_X7_isIn
  cases e : f k
  · rw [if_pos ((shr_kset hk).mpr e)]; rfl
  · rw [if_neg (fun q => by rw [(shr_kset hk).mp q] at e; cases e)]; rfl
theorem areAllIn_kset (f g : Nat → Bool) : f_X7_areAllIn NN (kset f) (kset g) = some (iN (bN (anyK f && subK f g))) := by
  unfold f_X7_areAllIn
  cases e : anyK f
  · rw [if_pos ((kset_any f).mpr e)]; rfl
  · rw [if_neg (fun q => by rw [(kset_any f).mp q] at e; cases e), show (-1 : Int32) = mI1 from rfl, kset_andn]
    unfold subK
    cases e2 : anyK (fun i => f i && !g i)
    · rw [if_pos ((kset_any _).mpr e2)]; rfl
    · rw [if_neg (fun q => by rw [(kset_any _).mp q] at e2; cases e2)]; rfl
/-- the kinds that a word touches; kinds by colors and ranks -/
def hasW (w v i : Nat) : Bool := if w = 0 then decide (i / 5 = v) else decide (i % 5 + 1 = v)
def mkK (C R i : Nat) : Bool := C.testBit (i / 5) && R.testBit (i % 5)
theorem mask_eq {x : Int32} {C R : Nat} (h : okMask x C R) : x = kset (mkK C R) := bset_of h
theorem mask_of {x : Int32} {C R : Nat} (h : x = kset (mkK C R)) : okMask x C R := fun i hi => by rw [h, bit_bset _ _ hi]; rfl
theorem kw0 : ∀ v : Fin 4, (31 : Int32) <<< ((iN v.val * 5) &&& 31) = kset (hasW 0 v.val) := by decide
theorem kw1 : ∀ v : Fin 5, (33825 : Int32) <<< ((iN (v.val + 1) - 1) &&& 31) = kset (hasW 1 (v.val + 1)) := by decide
theorem kwC {v : Nat} (h : v < 4) : f_X7_kindsOfWord NN 0 (iN v) = some (kset (hasW 0 v)) := by
  unfold f_X7_kindsOfWord
  rw [if_pos rfl, kw0 ⟨v, h⟩]
theorem kwR {v : Nat} (h : v < 5) : f_X7_kindsOfWord NN 1 (iN (v + 1)) = some (kset (hasW 1 (v + 1))) := by
  unfold f_X7_kindsOfWord
  rw [if_neg (by decide), kw1 ⟨v, h⟩]
theorem kw_eq {a : Gm} {w v : Nat} (hw : wfG a) (h : isW a w v) : f_X7_kindsOfWord NN (iN w) (iN v) = some (kset (hasW w v)) := by
  have h0 := hw.1
  have h1 := hw.2.1
  rcases h with ⟨rfl, h⟩ | ⟨rfl, h, h'⟩
  · exact kwC (by omega)
  · have := kwR (v := v - 1) (by omega)
    rw [show v - 1 + 1 = v by omega] at this
    exact this
theorem cin_eq (f : Nat → Bool) : f_X7_colorsIn NN (kset f) = some (bset (fun c => anyK (fun i => f i && hasW 0 c i)) 4) := by
  unfold f_X7_colorsIn f_X7_colorsIn_4
  refine loop2 (fun n => bset (fun c => anyK (fun i => f i && hasW 0 c i)) n) (fun c => iN c) 4 ?_ ?_ NN 0 (by omega) (nnb (by omega))
  · intro c hc self
    unfold F_X7_colorsIn_4
    rw [kwC hc, ob_some, kset_and, if_neg (show ¬ (4 : Int32) ≤ iN c from fun q => absurd ((iN_le (a := 4) (by omega) (by omega)).mp q) (by omega))]
    cases e : anyK (fun i => f i && hasW 0 c i)
    · rw [if_pos ((kset_any _).mpr e), show iN c + 1 = iN (c + 1) from iN_add c 1, ← bset_0 (n := c) (f := fun c => anyK (fun i => f i && hasW 0 c i)) e]
    · rw [if_neg (fun q => by rw [(kset_any _).mp q] at e; cases e), show iN c + 1 = iN (c + 1) from iN_add c 1, bset_1 (n := c) (f := fun c => anyK (fun i => f i && hasW 0 c i)) (by omega) e]
  · intro self
    unfold F_X7_colorsIn_4
    rw [if_pos (by decide)]
theorem rin_eq (f : Nat → Bool) : f_X7_ranksIn NN (kset f) = some (bset (fun r => anyK (fun i => f i && hasW 1 (r + 1) i)) 5) := by
  unfold f_X7_ranksIn f_X7_ranksIn_4
  refine loop2 (fun n => bset (fun r => anyK (fun i => f i && hasW 1 (r + 1) i)) n) (fun c => iN (c + 1)) 5 ?_ ?_ NN 0 (by omega) (nnb (by omega))
  · intro c hc self
    unfold F_X7_ranksIn_4
    rw [kwR hc, ob_some, kset_and, if_neg (show ¬ (5 : Int32) < iN (c + 1) from fun q => absurd ((iN_lt (a := 5) (by omega) (by omega)).mp q) (by omega))]
    have e1 : iN (c + 1) - 1 = iN c := iN_sub (a := c + 1) (b := 1) (by omega)
    cases e : anyK (fun i => f i && hasW 1 (c + 1) i)
    · rw [if_pos ((kset_any _).mpr e), show iN (c + 1) + 1 = iN (c + 1 + 1) from iN_add (c + 1) 1, ← bset_0 (n := c) (f := fun r => anyK (fun i => f i && hasW 1 (r + 1) i)) e]
    · rw [if_neg (fun q => by rw [(kset_any _).mp q] at e; cases e), show iN (c + 1) + 1 = iN (c + 1 + 1) from iN_add (c + 1) 1, e1, bset_1 (n := c) (f := fun r => anyK (fun i => f i && hasW 1 (r + 1) i)) (by omega) e]
  · intro self
    unfold F_X7_ranksIn_4
    rw [if_pos (by decide)]
theorem cin_mk {C R r : Nat} (hC : C < 16) (hr : r < 5) (hR : R.testBit r = true) : f_X7_colorsIn NN (kset (mkK C R)) = some (iN C) := by
  rw [cin_eq]
  refine congrArg some (congrArg iN ?_)
  refine (bnum_congr fun c hc => ?_).trans (bnum_self (n := 4) hC)
  cases e : C.testBit c
  · refine anyK_f.mpr fun i _ => ?_
    unfold mkK hasW
    by_cases q : i / 5 = c
    · rw [q, e]; rfl
    · simp [q]
  · refine anyK_t.mpr ⟨5 * c + r, by omega, ?_⟩
    unfold mkK hasW
    rw [show (5 * c + r) / 5 = c by omega, show (5 * c + r) % 5 = r by omega, e, hR]
    simp
theorem rin_mk {C R c : Nat} (hR : R < 32) (hc : c < 4) (hC : C.testBit c = true) : f_X7_ranksIn NN (kset (mkK C R)) = some (iN R) := by
  rw [rin_eq]
  refine congrArg some (congrArg iN ?_)
  refine (bnum_congr fun r hr => ?_).trans (bnum_self (n := 5) hR)
  cases e : R.testBit r
  · refine anyK_f.mpr fun i _ => ?_
    unfold mkK hasW
    by_cases q : i % 5 = r
    · rw [q, e]; simp
    · simp [q]
  · refine anyK_t.mpr ⟨5 * c + r, by omega, ?_⟩
    unfold mkK hasW
    rw [show (5 * c + r) / 5 = c by omega, show (5 * c + r) % 5 = r by omega, e, hC]
    simp
theorem klf_eq {a : Gm} {L : Nat → Int32} {sG : Ob} (hG : encG a L sG) {k : Nat} (hk : k < 40) : f_X1_kindsLeftFor NN sG (iN k) = some (kset (mkK (a (67 + k)) (a (107 + k)))) := by
  have := mask_eq (hG.2.2.2.2.2.2.2.2.2.2.2.2.2.1 k hk)
  unfold f_X1_kindsLeftFor
  simp (disch := omega) only [↓Lm1, si_si, ob_some, znm_eq, th_some, th_none, tb_some, tb_none, chk_iN, chk_true, clamp_iN, iN_add, iN_mul, iN_sub, iN_div, iN_lt_t, iN_lt_f, iN_le_t, iN_le_f, iN_eq_t, iN_eq_f, iN_m1, m1_iN, iN_zisB, if_true, if_false, ↓reduceIte, Nat.reduceEqDiff, Nat.reduceAdd, Nat.reduceMul, Nat.reduceSub, reduceCtorEq, si_1, si_2, sa_1, sa_2, sa_3, sl_1, sl_3, isT_0, isT_1, Lt0, Lt1, Lt2, Lt3, Lt4, Lt5, Lt6, Lt7, Lt8, Lt9, Lt10, Lt12, Lt14, Lt18, Lt19, Lt20, Lt22, Lt27, Lt30, Lt31, Lt40, Lt67, Lt99, Lt100, Lt107, Lt147, Lt187, Lt191, Lt211, Lt231, Lt235, Lt237, Lt238, Lt300, Lt358, Lt600]
  rw [this]
theorem okK {a : Gm} (ho : okG a) {k : Nat} (hk : k < a 4) : a (27 + k) / 5 < a 0 ∧ a (27 + k) % 5 < a 1 := ho.2.2.2.2.2.1 k hk
theorem okM {a : Gm} (ho : okG a) {k : Nat} (hk : k < a 4) : (a (67 + k)).testBit (a (27 + k) / 5) = true ∧ (a (107 + k)).testBit (a (27 + k) % 5) = true := ho.2.2.2.2.2.2.1 k hk
theorem P_14_ok : P_14 NN Re := by
  intro pl sX sG ru q sR PS SS sM h fo p1 p2
  obtain ⟨a, L, ho, hr, hG, hu, -⟩ := h.1
  have hw := ho.1
  obtain ⟨b0, b1, b2, b3, b4, b5, b6, b7, b8, b9, b11, b12, b13⟩ := wfB hw
  refine ansQ (fo := fo) h ?_
  rcases place2 a p1 p2 with hc | ⟨i, j, hi, hj, rfl, rfl⟩
  · obtain ⟨e1, e2⟩ := nc_no (sX := sX) hw hG hu hc
    refine Or.inl ⟨1, 0, by decide, ?_, ?_⟩
    · unfold f_L_colorsOf f_X7_colorsOf ft_X7_colorsOf
      rw [e1, e2]; rfl
    · unfold f_X8_colorsOf
      rw [il_no hw hr hc, ob_some, X8_isThrown_0]; rfl
  · have hs := wfS hw (p := i) (by omega)
    have hh := wfH hw (by omega) hj
    obtain ⟨k1, k2⟩ := okK ho (k := a (191 + (5 * i + j))) (by omega)
    obtain ⟨m1, m2⟩ := okM ho (k := a (191 + (5 * i + j))) (by omega)
    obtain ⟨c1, c2⟩ := wfC hw (k := a (191 + (5 * i + j))) (by omega)
    refine Or.inr ⟨iN (a (67 + a (191 + (5 * i + j)))), ?_, ?_⟩
    · unfold f_L_colorsOf f_X7_colorsOf
      rw [nc_yes hw hG hu hi hj, ob_some, klf_eq hG (by omega), ob_some, cin_mk c1 (r := a (27 + a (191 + (5 * i + j))) % 5) (by omega) m2]; rfl
    · unfold f_X8_colorsOf
      rw [il_yes hw hr hi hj]
      obtain ⟨sT, hT, hrT⟩ := Tst sM hr
      simp (disch := omega) only [↓Lm1, si_si, ob_some, znm_eq, th_some, th_none, tb_some, tb_none, chk_iN, chk_true, clamp_iN, iN_add, iN_mul, iN_sub, iN_div, iN_lt_t, iN_lt_f, iN_le_t, iN_le_f, iN_eq_t, iN_eq_f, iN_m1, m1_iN, iN_zisB, if_true, if_false, ↓reduceIte, Nat.reduceEqDiff, Nat.reduceAdd, Nat.reduceMul, Nat.reduceSub, reduceCtorEq, si_1, si_2, sa_1, sa_2, sa_3, sl_1, sl_3, isT_0, isT_1, Lt0, Lt1, Lt2, Lt3, Lt4, Lt5, Lt6, Lt7, Lt8, Lt9, Lt10, Lt12, Lt14, Lt18, Lt19, Lt20, Lt22, Lt27, Lt30, Lt31, Lt40, Lt67, Lt99, Lt100, Lt107, Lt147, Lt187, Lt191, Lt211, Lt231, Lt235, Lt237, Lt238, Lt300, Lt358, Lt600, hT, he_eq hw hrT (show i < 4 by omega) hj, hrT.1]
theorem P_15_ok : P_15 NN Re := by
  intro pl sX sG ru q sR PS SS sM h fo p1 p2
  obtain ⟨a, L, ho, hr, hG, hu, -⟩ := h.1
  have hw := ho.1
  obtain ⟨b0, b1, b2, b3, b4, b5, b6, b7, b8, b9, b11, b12, b13⟩ := wfB hw
  refine ansQ (fo := fo) h ?_
  rcases place2 a p1 p2 with hc | ⟨i, j, hi, hj, rfl, rfl⟩
  · obtain ⟨e1, e2⟩ := nc_no (sX := sX) hw hG hu hc
    refine Or.inl ⟨1, 0, by decide, ?_, ?_⟩
    · unfold f_L_ranksOf f_X7_ranksOf ft_X7_ranksOf
      rw [e1, e2]; rfl
    · unfold f_X8_ranksOf
      rw [il_no hw hr hc, ob_some, X8_isThrown_0]; rfl
  · have hs := wfS hw (p := i) (by omega)
    have hh := wfH hw (by omega) hj
    obtain ⟨k1, k2⟩ := okK ho (k := a (191 + (5 * i + j))) (by omega)
    obtain ⟨m1, m2⟩ := okM ho (k := a (191 + (5 * i + j))) (by omega)
    obtain ⟨c1, c2⟩ := wfC hw (k := a (191 + (5 * i + j))) (by omega)
    refine Or.inr ⟨iN (a (107 + a (191 + (5 * i + j)))), ?_, ?_⟩
    · unfold f_L_ranksOf f_X7_ranksOf
      rw [nc_yes hw hG hu hi hj, ob_some, klf_eq hG (by omega), ob_some, rin_mk c2 (c := a (27 + a (191 + (5 * i + j))) / 5) (by omega) m1]; rfl
    · unfold f_X8_ranksOf
      rw [il_yes hw hr hi hj]
      obtain ⟨sT, hT, hrT⟩ := Tst sM hr
      simp (disch := omega) only [↓Lm1, si_si, ob_some, znm_eq, th_some, th_none, tb_some, tb_none, chk_iN, chk_true, clamp_iN, iN_add, iN_mul, iN_sub, iN_div, iN_lt_t, iN_lt_f, iN_le_t, iN_le_f, iN_eq_t, iN_eq_f, iN_m1, m1_iN, iN_zisB, if_true, if_false, ↓reduceIte, Nat.reduceEqDiff, Nat.reduceAdd, Nat.reduceMul, Nat.reduceSub, reduceCtorEq, si_1, si_2, sa_1, sa_2, sa_3, sl_1, sl_3, isT_0, isT_1, Lt0, Lt1, Lt2, Lt3, Lt4, Lt5, Lt6, Lt7, Lt8, Lt9, Lt10, Lt12, Lt14, Lt18, Lt19, Lt20, Lt22, Lt27, Lt30, Lt31, Lt40, Lt67, Lt99, Lt100, Lt107, Lt147, Lt187, Lt191, Lt211, Lt231, Lt235, Lt237, Lt238, Lt300, Lt358, Lt600, hT, he_eq hw hrT (show i < 4 by omega) hj, hrT.1]
