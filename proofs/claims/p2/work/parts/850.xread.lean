/-! OWN: the reader of the class comes to its end, and what it has read then -/
theorem rng {x : Int32} {lo hi : Nat} (hlo : lo < 2 ^ 31) (hhi : hi < 2 ^ 31) (h1 : ¬ x < iN lo) (h2 : x ≤ iN hi) : ∃ v, lo ≤ v ∧ v ≤ hi ∧ x = iN v := by
  have h0 : ¬ x < 0 := fun h => by
    rw [Int32.lt_iff_toInt_lt, iN_toInt hlo] at h1
    have h3 : x.toInt < (0 : Int32).toInt := Int32.lt_iff_toInt_lt.mp h
    have h4 : (0 : Int32).toInt = 0 := rfl
    omega
  obtain ⟨e, hb⟩ := iN_of h0
  generalize x.toNatClampNeg = v at e hb
  subst e
  refine ⟨v, ?_, (iN_le hb hhi).mp h2, rfl⟩
  rcases Nat.lt_or_ge v lo with q | q
  · exact absurd ((iN_lt hb hlo).mpr q) h1
  · exact q
def Txt (n : Nat) (T : Nat → Int32) : Prop := n ≤ 600 ∧ ∀ k, k < n → ∃ v, 1 ≤ v ∧ v ≤ 255 ∧ T k = iN v
def sg (n : Nat) (T : Nat → Int32) (k : Nat) : Int32 := if k < n then T k else -1
/-- a reader: the text's length, the place, the seed -/
def Rd (n : Nat) (s : Ob) : Prop := s.1 5 = iN n ∧ (∃ t, t ≤ n ∧ s.1 6 = iN t) ∧ (s.1 8 = -1 ∨ ∃ sd, sd ≤ 999999 ∧ s.1 8 = iN sd)
/-- reading on: the statement stays, and an error stays one -/
def Rg (n : Nat) (s s' : Ob) : Prop := Rd n s' ∧ s'.1 7 = s.1 7 ∧ (s'.1 1 = 0 → s.1 1 = 0)
theorem rg_refl {n : Nat} {s : Ob} (h : Rd n s) : Rg n s s := ⟨h, rfl, fun e => e⟩
theorem rg_trans {n : Nat} {s t u : Ob} (h : Rg n s t) (g : Rg n t u) : Rg n s u := ⟨g.1, g.2.1.trans h.2.1, fun e => h.2.2 (g.2.2 e)⟩
section RDX
variable {n : Nat} {T : Nat → Int32} {s : Ob}
theorem sign_at (hT : Txt n T) (hs : s.1 5 = iN n) {k : Nat} (hk : k < 2 ^ 30) : f_X4_signAt NN 600 s T (iN k) = some (sg n T k) := by
  unfold f_X4_signAt sg
  have hn := hT.1
  rw [hs, if_neg (iN_not_neg k (by omega))]
  by_cases c : k < n
  · rw [if_neg (fun q => absurd ((iN_le (by omega) (by omega)).mp q) (by omega)), if_neg (show ¬ iN 600 ≤ iN k from fun q => absurd ((iN_le (by omega) (by omega)).mp q) (by omega)), chk_t (iN_inb (by omega) (by omega)), iN_clamp (by omega), if_pos c]
  · rw [if_pos ((iN_le (by omega) (by omega)).mpr (by omega)), if_neg c]
theorem skip_gen (hT : Txt n T) (hs : Rd n s) (F : (Int32 → Ob → Option Ob) → Int32 → Ob → Option Ob) (hF : ∀ (self : Int32 → Ob → Option Ob) (k : Nat) (t : Ob) (Q : Ob → Prop), k ≤ n → t.1 5 = iN n → Q t → (k < n → Tot (self (iN k + 1) (si t 6 (t.1 6 + 1))) Q) → Tot (F self (iN k) t) Q) : Tot (zlp (fun _ _ => none) F NN (s.1 6) s) (Rg n s) := by
  obtain ⟨e5, ⟨t, ht, e6⟩, e8⟩ := hs
  have hn := hT.1
  rw [e6]
  refine tlk2 (fun j v u => ∃ k, k + j = n ∧ v = iN k ∧ u.1 6 = iN k ∧ (∀ i, i ≠ 6 → u.1 i = s.1 i)) (fun j v u hI self hs2 => ?_) NN (n - t) _ _ (show n - t < 100000 by omega) ⟨t, by omega, rfl, e6, fun _ _ => rfl⟩
  obtain ⟨k, hk, rfl, h6, hf⟩ := hI
  refine hF self k u _ (by omega) (by rw [hf 5 (by omega)]; exact e5) ⟨⟨by rw [hf 5 (by omega)]; exact e5, ⟨k, by omega, h6⟩, by rw [hf 8 (by omega)]; exact e8⟩, hf 7 (by omega), fun e => by rw [← hf 1 (by omega)]; exact e⟩ (fun hkn => hs2 (j - 1) _ _ (by omega) ⟨k + 1, by omega, inc1 k, ?_, fun i hi => ?_⟩)
  · show u.1 6 + 1 = _
    rw [h6]
    exact inc1 k
  · show (if i = 6 then _ else u.1 i) = _
    rw [if_neg hi]
    exact hf i hi
theorem spaces_t (hT : Txt n T) (hs : Rd n s) : Tot (f_X4_skipSpaces NN 600 s T) (Rg n s) := by
  unfold f_X4_skipSpaces f_X4_skipSpaces_5
  refine skip_gen hT hs _ (fun self k t Q hk h5 hQ hn => ?_)
  have := hT.1
  unfold F_X4_skipSpaces_5
  rw [h5, sign_at hT h5 (by omega), ob_some]
  exact tt_ite (fun _ => tt_some hQ) (fun h => tt_ite (fun _ => hn (nle (by omega) (by omega) h)) (fun _ => tt_some hQ))
theorem letters_t (hT : Txt n T) (hs : Rd n s) : Tot (f_X4_skipLetters NN 600 s T) (Rg n s) := by
  unfold f_X4_skipLetters f_X4_skipLetters_5
  refine skip_gen hT hs _ (fun self k t Q hk h5 hQ hn => ?_)
  have := hT.1
  unfold F_X4_skipLetters_5
  rw [h5, sign_at hT h5 (by omega), ob_some]
  refine tt_ite (fun _ => tt_some hQ) (fun h => tt_ob (P := Ya) ?_ (fun x _ => tt_ite (fun _ => tt_some hQ) (fun _ => hn (nle (by omega) (by omega) h))))
  unfold f_X4_isLetter
  exact tt_ite (fun _ => tt_some trivial) (fun _ => tt_ite (fun _ => tt_some trivial) (fun _ => tt_some trivial))
theorem digits_t (hT : Txt n T) (hs : Rd n s) : Tot (f_X4_skipDigits NN 600 s T) (Rg n s) := by
  unfold f_X4_skipDigits f_X4_skipDigits_5
  refine skip_gen hT hs _ (fun self k t Q hk h5 hQ hn => ?_)
  have := hT.1
  unfold F_X4_skipDigits_5
  rw [h5, sign_at hT h5 (by omega), ob_some]
  refine tt_ite (fun _ => tt_some hQ) (fun h => tt_ob (P := Ya) ?_ (fun x _ => tt_ite (fun _ => tt_some hQ) (fun _ => hn (nle (by omega) (by omega) h))))
  unfold f_X4_isDigit
  exact tt_ite (fun _ => tt_some trivial) (fun _ => tt_ite (fun _ => tt_some trivial) (fun _ => tt_some trivial))
theorem letter_t (x : Int32) : Tot (f_X4_isLetter NN x) (fun r => ¬ r = 0 → ∃ v, 97 ≤ v ∧ v ≤ 122 ∧ x = iN v) := by
  unfold f_X4_isLetter
  refine tt_ite (fun _ => tt_some (fun h => absurd rfl h)) (fun h1 => tt_ite (fun _ => tt_some (fun h => absurd rfl h)) (fun h2 => tt_some (fun _ => rng (lo := 97) (hi := 122) (by omega) (by omega) h1 (Int32.not_lt.mp h2))))
theorem digit_t (x : Int32) : Tot (f_X4_isDigit NN x) (fun r => ¬ r = 0 → ∃ v, 48 ≤ v ∧ v ≤ 57 ∧ x = iN v) := by
  unfold f_X4_isDigit
  refine tt_ite (fun _ => tt_some (fun h => absurd rfl h)) (fun h1 => tt_ite (fun _ => tt_some (fun h => absurd rfl h)) (fun h2 => tt_some (fun _ => rng (lo := 48) (hi := 57) (by omega) (by omega) h1 (Int32.not_lt.mp h2))))
theorem fail_t (hs : Rd n s) {k : Nat} (hk : 1 ≤ k ∧ k ≤ 4) (p : Int32) : Tot (f_X4_fail NN s (iN k) p) (fun s' => Rg n s s' ∧ ¬ s'.1 1 = 0) := by
  have hne : ¬ iN k = 0 := fun e => by
    have := (iN_inj (a := k) (b := 0) (by omega) (by omega)).mp e
    omega
  exact ⟨_, rfl, ⟨hs, rfl, fun e => absurd e hne⟩, hne⟩
theorem number_t (hT : Txt n T) (hs : Rd n s) {lo hi : Nat} (hlo : lo < 2 ^ 31) (hhi : hi < 2 ^ 31) : Tot (f_X4_readNumber NN 600 s T (iN lo) (iN hi)) (fun z => Rg n s z.2 ∧ ∃ v, z.1 = iN v ∧ lo ≤ v ∧ (v = lo ∨ v ≤ hi)) := by
  have hn := hT.1
  unfold f_X4_readNumber
  refine tt_ite (fun _ => tt_ob (spaces_t hT hs) (fun x1 h1 => tt_ob (digits_t hT h1.1) (fun x2 h2 => tt_ite (fun _ => ?_) (fun _ => ?_)))) (fun _ => tt_some ⟨rg_refl hs, lo, rfl, Nat.le_refl _, Or.inl rfl⟩)
  · exact tt_ob (fail_t (k := 1) h2.1 (by omega) _) (fun x6 h6 => tt_some ⟨rg_trans h1 (rg_trans h2 h6.1), lo, rfl, Nat.le_refl _, Or.inl rfl⟩)
  · obtain ⟨t1, ht1, e1⟩ := h1.1.2.1
    obtain ⟨t2, ht2, e2⟩ := h2.1.2.1
    have h02 := rg_trans h1 h2
    have h93 : ∀ v3, Tot (f_X4_readNumber_93 NN 600 T (iN lo) (iN hi) v3 x2) (fun z => Rg n s z.2 ∧ ∃ v, z.1 = iN v ∧ lo ≤ v ∧ (v = lo ∨ v ≤ hi)) := fun v3 => by
      unfold f_X4_readNumber_93
      exact tt_ob (fail_t (k := 2) h2.1 (by omega) _) (fun x6 h6 => tt_some ⟨rg_trans h02 h6.1, lo, rfl, Nat.le_refl _, Or.inl rfl⟩)
    rw [e1]
    unfold f_X4_readNumber_44
    refine tlk4 (fun j _ _ v u => u = x2 ∧ ∃ k, v = iN k ∧ k ≤ 600 ∧ k + j = 1200) (fun j v3 v4 v u hI self hs2 => ?_) NN (1200 - t1) _ _ _ _ (show 1200 - t1 < 100000 by omega) ⟨rfl, t1, rfl, by omega, by omega⟩
    obtain ⟨rfl, k, rfl, hk6, hk⟩ := hI
    unfold F_X4_readNumber_44
    rw [e2]
    refine tt_ite (fun _ => tt_ite (fun _ => h93 _) (fun hl => tt_ite (fun hh => tt_some ⟨h02, ?_⟩) (fun _ => h93 _))) (fun h => ?_)
    · obtain ⟨v, q1, q2, q3⟩ := rng hlo hhi hl hh
      exact ⟨v, q3, q1, Or.inr q2⟩
    · have hkt := nle (by omega) (by omega) h
      rw [sign_at hT h2.1.1 (by omega), ob_some, znm_eq, inc1]
      exact hs2 (j - 1) _ _ _ _ (by omega) ⟨rfl, k + 1, rfl, by omega, by omega⟩
theorem isWord_t (hT : Txt n T) (hs : Rd n s) (l1 : Nat) (hl : l1 < 1000) (b1 : Nat → Int32) {p : Nat} (hp : p ≤ 600) : Tot (f_X4_isWord NN 600 l1 b1 s T (iN p)) Ya := by
  unfold f_X4_isWord
  refine tt_ite (fun _ => ?_) (fun _ => tt_some trivial)
  unfold f_X4_isWord_17
  refine tlk1 (fun j v => Cn l1 j v) (fun j v hI self hs2 => ?_) NN l1 0 (show l1 < 100000 by omega) (cn_0 l1)
  obtain ⟨k, hk, rfl⟩ := hI
  unfold F_X4_isWord_17
  refine tt_ite (fun _ => tt_some trivial) (fun h => ?_)
  have hk2 := nle (by omega) (by omega) h
  rw [iN_add, sign_at hT hs.1 (by omega), ob_some]
  exact tt_chk (iN_inb hk2 (by omega)) (tt_ite (fun _ => hs2 (j - 1) _ (by omega) ⟨k + 1, by omega, inc1 k⟩) (fun _ => tt_some trivial))
end RDX
/-- what rules say -/
def EnR (C R P H m M T V : Nat) (w q : Nat → Nat) (ru : Ob) : Prop := ru.1 0 = iN C ∧ ru.1 1 = iN R ∧ ru.1 2 = iN P ∧ ru.1 3 = iN H ∧ ru.1 4 = iN M ∧ ru.1 5 = iN T ∧ ru.1 6 = iN V ∧ ru.1 7 = iN m ∧ (∀ k, k < 40 → ru.2.2.1 8 k = iN (q k)) ∧ (∀ k, k < 20 → ru.2.2.1 9 k = iN (cntQ q k m)) ∧ ∀ k, k < 9 → ru.2.2.1 10 k = iN (w k)
def RG (ru : Ob) : Prop := ∃ C R P H m M T V w q, Dl C R P H m M T V w q ∧ EnR C R P H m M T V w q ru
def RZ (ru : Ob) : Prop := ru.1 4 = iN 8 ∧ ru.1 5 = iN 8 ∧ ru.1 6 = iN 3 ∧ ru.1 7 = iN 0 ∧ (∀ k, k < 40 → ru.2.2.1 8 k = iN 0) ∧ (∀ k, k < 20 → ru.2.2.1 9 k = iN 0) ∧ ∀ k, k < 9 → ru.2.2.1 10 k = iN 99
section RDY
variable {n : Nat} {T : Nat → Int32} {s ru : Ob}
theorem game_t (hT : Txt n T) (hs : Rd n s) (hz : RZ ru) : Tot (f_X4_readGame NN 600 s T ru) (fun z => Rg n s z.1 ∧ RG z.2) := by
  unfold f_X4_readGame
  refine tt_ob (number_t (lo := 1) (hi := 4) hT hs (by omega) (by omega)) (fun x1 h1 => tt_ob (number_t (lo := 1) (hi := 5) hT h1.1.1 (by omega) (by omega)) (fun x2 h2 => ?_))
  show Tot (ob _ _) _
  refine tt_ob (number_t (lo := 2) (hi := 4) hT h2.1.1 (by omega) (by omega)) (fun x4 h4 => ?_)
  show Tot (ob _ _) _
  refine tt_ob (number_t (lo := 1) (hi := 5) hT h4.1.1 (by omega) (by omega)) (fun x6 h6 => ?_)
  obtain ⟨h1, C, eC, c1, c2⟩ := h1
  obtain ⟨h2, R, eR, r1, r2⟩ := h2
  obtain ⟨h4, P, eP, p1, p2⟩ := h4
  obtain ⟨h6, H, eH, g1, g2⟩ := h6
  obtain ⟨z4, z5, z6, z7, z8, z9, z10⟩ := hz
  refine ⟨_, rfl, rg_trans h1 (rg_trans h2 (rg_trans h4 h6)), C, R, P, H, 0, 8, 8, 3, fun _ => 99, fun _ => 0, ⟨by omega, by omega, by omega, by omega, by omega, by omega, by omega, by omega, by omega, by omega, by omega, by omega, by omega, by omega, fun _ _ => Nat.le_refl _, fun _ _ => (show (0 : Nat) < 20 by omega), fun _ h => absurd h (Nat.not_lt_zero _)⟩, eC, eR, eP, eH, z4, z5, z6, z7, z8, z9, z10⟩
theorem tokens_t (hT : Txt n T) (hs : Rd n s) (hz : RG ru) : Tot (f_X4_readTokens NN 600 s T ru) (fun z => Rg n s z.1 ∧ RG z.2) := by
  unfold f_X4_readTokens
  refine tt_ob (number_t (lo := 1) (hi := 9) hT hs (by omega) (by omega)) (fun x1 h1 => ?_)
  obtain ⟨h1, M, eM, c1, c2⟩ := h1
  rw [eM]
  refine tt_ob (number_t (lo := 0) (hi := M) hT h1.1 (by omega) (by omega)) (fun x2 h2 => ?_)
  obtain ⟨h2, T2, eT, r1, r2⟩ := h2
  obtain ⟨C, R, P, H, m, M0, T0, V, w, q, D, e0, e1, e2, e3, -, -, e6, e7, e8, e9, e10⟩ := hz
  obtain ⟨d1, d2, d3, d4, d5, d6, d7, d8, d9, d10, d11, d12, d13, d14, d15, d16, d17⟩ := D
  exact ⟨_, rfl, rg_trans h1 h2, C, R, P, H, m, M, T2, V, w, q, ⟨d1, d2, d3, d4, d5, d6, d7, d8, d9, by omega, by omega, by omega, d13, d14, d15, d16, d17⟩, e0, e1, e2, e3, rfl, eT, e6, e7, e8, e9, e10⟩
theorem lives_t {V : Nat} (h1 : 1 ≤ V) (h5 : V ≤ 5) (hz : RG ru) : RG (si ru 6 (iN V)) := by
  obtain ⟨C, R, P, H, m, M0, T0, V0, w, q, D, e0, e1, e2, e3, e4, e5, e6, e7, e8, e9, e10⟩ := hz
  obtain ⟨d1, d2, d3, d4, d5, d6, d7, d8, d9, d10, d11, d12, d13, d14, d15, d16, d17⟩ := D
  exact ⟨C, R, P, H, m, M0, T0, V, w, q, ⟨d1, d2, d3, d4, d5, d6, d7, d8, d9, d10, d11, d12, h1, h5, d15, d16, d17⟩, e0, e1, e2, e3, e4, e5, rfl, e7, e8, e9, e10⟩
theorem wordIx {p : Nat} (hp : p ≤ 1) {v : Nat} (h0 : p = 0 → v < 4) (h1 : p = 1 → 1 ≤ v ∧ v ≤ 5) : ∃ i, i < 9 ∧ f_X5_indexOfWord NN (iN p) (iN v) = some (iN i) := by
  unfold f_X5_indexOfWord
  rcases (show p = 0 ∨ p = 1 by omega) with rfl | rfl
  · have hv := h0 rfl
    refine ⟨v, by omega, ?_⟩
    rw [if_pos (show iN 0 = 0 from rfl), if_neg (iN_not_neg v (by omega)), if_neg (le4 hv)]
  · obtain ⟨q1, q2⟩ := h1 rfl
    refine ⟨4 + v - 1, by omega, ?_⟩
    rw [if_neg (show ¬ iN 1 = 0 by decide), if_neg (show ¬ iN v < 1 from fun q => absurd ((iN_lt (b := 1) (by omega) (by omega)).mp q) (by omega)), if_neg (show ¬ (5 : Int32) < iN v from fun q => absurd ((iN_lt (a := 5) (by omega) (by omega)).mp q) (by omega))]
    show some (iN 4 + iN v - iN 1) = _
    rw [iN_add, iN_sub (by omega)]
theorem times_t (hT : Txt n T) (hs : Rd n s) (hz : RG ru) {p lo hi : Nat} (hp : p ≤ 1) (h0 : p = 0 → lo = 0 ∧ hi < 4) (h1 : p = 1 → lo = 1 ∧ hi ≤ 5) : Tot (f_X4_readTimes NN 600 s T ru (iN p) (iN lo) (iN hi)) (fun z => Rg n s z.1 ∧ RG z.2) := by
  have hb : lo ≤ 1 ∧ hi ≤ 5 := by
    rcases (show p = 0 ∨ p = 1 by omega) with rfl | rfl
    · have := h0 rfl; omega
    · have := h1 rfl; omega
  unfold f_X4_readTimes
  refine tt_ob (number_t (lo := lo) (hi := hi) hT hs (by omega) (by omega)) (fun x1 g1 => tt_ob (number_t (lo := 0) (hi := 99) hT g1.1.1 (by omega) (by omega)) (fun x2 g2 => ?_))
  obtain ⟨g1, v, ev, c1, c2⟩ := g1
  obtain ⟨g2, t, et, r1, r2⟩ := g2
  have g := rg_trans g1 g2
  obtain ⟨i, hi9, ei⟩ := wordIx hp (v := v) (fun e => by have := h0 e; omega) (fun e => by have := h1 e; omega)
  rw [ev, ei, ob_some]
  refine tt_ite (fun _ => tt_ite (fun _ => tt_some ⟨g, hz⟩) (fun _ => tt_chk (iN_inb hi9 (by omega)) (tt_some ⟨g, ?_⟩))) (fun _ => tt_some ⟨g, hz⟩)
  rw [iN_clamp (by omega), et]
  obtain ⟨C, R, P, H, m, M0, T0, V0, w, q, D, e0, e1, e2, e3, e4, e5, e6, e7, e8, e9, e10⟩ := hz
  obtain ⟨d1, d2, d3, d4, d5, d6, d7, d8, d9, d10, d11, d12, d13, d14, d15, d16, d17⟩ := D
  refine ⟨C, R, P, H, m, M0, T0, V0, fun k => if k = i then t else w k, q, ⟨d1, d2, d3, d4, d5, d6, d7, d8, d9, d10, d11, d12, d13, d14, fun k hk => ?_, d16, d17⟩, e0, e1, e2, e3, e4, e5, e6, e7, e8, e9, fun k hk => ?_⟩
  · show (if k = i then t else w k) ≤ 99
    split
    · omega
    · exact d15 k hk
  · show upd (ru.2.2.1 10) i (iN t) k = iN (if k = i then t else w k)
    rw [upd_at]
    by_cases c : k = i
    · rw [if_pos c, if_pos c]
    · rw [if_neg c, if_neg c]
      exact e10 k hk
theorem addCard_t {C R P H m M T V : Nat} {w q : Nat → Nat} (D : Dl C R P H m M T V w q) (E : EnR C R P H m M T V w q ru) (hm : m < 40) {kd : Nat} (hk1 : kd / 5 < C) (hk2 : kd % 5 < R) : Tot (f_X5_addCard NN ru (iN kd)) RG := by
  obtain ⟨e0, e1, e2, e3, e4, e5, e6, e7, e8, e9, e10⟩ := E
  obtain ⟨d1, d2, d3, d4, d5, d6, d7, d8, d9, d10, d11, d12, d13, d14, d15, d16, d17⟩ := D
  have hkd : kd < 20 := by omega
  have hz : RG ru := ⟨C, R, P, H, m, M, T, V, w, q, ⟨d1, d2, d3, d4, d5, d6, d7, d8, d9, d10, d11, d12, d13, d14, d15, d16, d17⟩, e0, e1, e2, e3, e4, e5, e6, e7, e8, e9, e10⟩
  unfold f_X5_addCard
  rw [e7, iN_clamp (k := m) (by omega), iN_clamp (k := kd) (by omega)]
  refine tt_ite (fun _ => tt_some hz) (fun _ => tt_ite (fun _ => tt_some hz) (fun _ => tt_ite (fun _ => tt_some hz) (fun _ => tt_chk (iN_inb hm (by omega)) (tt_chk (iN_inb hkd (by omega)) ?_))))
  show Tot (chk _ _) _
  refine tt_chk (iN_inb hkd (by omega)) ?_
  let q2 : Nat → Nat := fun k => if k = m then kd else q k
  have hc : ∀ k, cntQ q2 k (m + 1) = cntQ q k m + (if kd = k then 1 else 0) := fun k => by
    show cntQ q2 k m + (if q2 m = k then 1 else 0) = _
    have a1 : cntQ q2 k m = cntQ q k m := sumN_congr fun i hi => by
      show (if (if i = m then kd else q i) = k then 1 else 0) = _
      rw [if_neg (show ¬ i = m by omega)]
    have a2 : q2 m = kd := if_pos rfl
    rw [a1, a2]
  refine ⟨_, rfl, C, R, P, H, m + 1, M, T, V, w, q2, ⟨d1, d2, d3, d4, d5, d6, d7, d8, hm, d10, d11, d12, d13, d14, d15, fun k hk => ?_, fun k hk => ?_⟩, e0, e1, e2, e3, e4, e5, e6, ?_, fun k hk => ?_, fun k hk => ?_, e10⟩
  · show (if k = m then kd else q k) < 20
    split
    · exact hkd
    · exact d16 k hk
  · show (if k = m then kd else q k) / 5 < C ∧ (if k = m then kd else q k) % 5 < R
    by_cases c : k = m
    · rw [if_pos c]
      exact ⟨hk1, hk2⟩
    · rw [if_neg c]
      exact d17 k (by omega)
  · show ru.1 7 + 1 = _
    rw [e7]
    exact inc1 m
  · show upd (ru.2.2.1 8) m (iN kd) k = iN (if k = m then kd else q k)
    rw [upd_at]
    by_cases c : k = m
    · rw [if_pos c, if_pos c]
    · rw [if_neg c, if_neg c]
      exact e8 k hk
  · show upd (ru.2.2.1 9) kd (ru.2.2.1 9 kd + 1) k = iN (cntQ q2 k (m + 1))
    rw [upd_at, hc]
    by_cases c : k = kd
    · subst c
      rw [if_pos rfl, if_pos rfl, e9 k hk]
      exact inc1 _
    · rw [if_neg c, if_neg (fun z => c z.symm)]
      exact e9 k hk
theorem card_t (hT : Txt n T) (hs : Rd n s) (hz : RG ru) : Tot (f_X4_readCard NN 600 s T ru) (fun z => Rg n s z.1 ∧ RG z.2) := by
  have hs0 := hs
  obtain ⟨h5, ⟨t, ht, e6⟩, h8⟩ := hs
  have hn := hT.1
  have h29 : ∀ v, Tot (f_X4_readCard_29 NN 600 T v s ru) (fun z => Rg n s z.1 ∧ RG z.2) := fun v => by
    unfold f_X4_readCard_29
    exact tt_ob (fail_t (k := 1) hs0 (by omega) _) (fun x h => tt_some ⟨h.1, hz⟩)
  unfold f_X4_readCard
  rw [e6, inc1, sign_at hT h5 (k := t) (by omega), sign_at hT h5 (k := t + 1) (by omega), ob_some]
  refine tt_ob (letter_t _) (fun x2 h2 => tt_ite (fun _ => h29 _) (fun hn2 => ?_))
  rw [ob_some]
  refine tt_ob (digit_t _) (fun x5 h5' => tt_ite (fun _ => h29 _) (fun hn5 => ?_))
  rw [ob_some, ob_some]
  obtain ⟨c, c1, c2, ec⟩ := h2 hn2
  obtain ⟨d, g1, g2, ed⟩ := h5' hn5
  have hlt : t + 1 ≤ n := by
    rcases Nat.lt_or_ge t n with z | z
    · exact z
    · unfold sg at ec
      rw [if_neg (by omega)] at ec
      have hh := congrArg Int32.toInt ec
      rw [iN_toInt (by omega)] at hh
      have h4 : (-1 : Int32).toInt = -1 := rfl
      omega
  have hs1 : Rd n (si s 6 (iN (t + 1))) := ⟨h5, ⟨t + 1, hlt, rfl⟩, h8⟩
  rw [ec, ed]
  refine tt_ob (digits_t hT hs1) (fun x8 h8' => ?_)
  have hg : Rg n s x8 := ⟨h8'.1, h8'.2.1, h8'.2.2⟩
  have h119 : ∀ v, Tot (f_X4_readCard_119 NN 600 T v x8 ru) (fun z => Rg n s z.1 ∧ RG z.2) := fun v => by
    unfold f_X4_readCard_119
    exact tt_ob (fail_t (k := 2) hg.1 (by omega) _) (fun x h => tt_some ⟨rg_trans hg h.1, hz⟩)
  have h85 : ∀ v t0, Tot (f_X4_readCard_85 NN 600 T v (iN c - 97) (iN d - 48) t0 x8 ru) (fun z => Rg n s z.1 ∧ RG z.2) := fun v t0 => by
    rw [show iN c - 97 = iN (c - 97) from iN_sub (b := 97) c1, show iN d - 48 = iN (d - 48) from iN_sub (b := 48) g1]
    have hz2 := hz
    obtain ⟨C, R, P, H, m, M, T2, V, w, q, D, E⟩ := hz2
    have b1 := D.2.1
    have b2 := D.2.2.2.1
    have b3 := D.2.2.2.2.2.2.2.2.1
    unfold f_X4_readCard_85
    rw [E.1, E.2.1, E.2.2.2.2.2.2.2.1]
    refine tt_ite (fun _ => h119 _) (fun q1 => tt_ite (fun _ => h119 _) (fun _ => tt_ite (fun _ => h119 _) (fun q2 => tt_ite (fun q3 => tt_ite (fun q4 => ?_) (fun _ => ?_)) (fun _ => h119 _))))
    · have r1 := nle (by omega) (by omega) q1
      have r3 := (iN_le (by omega) (by omega)).mp q3
      have r4 := (iN_lt (b := 40) (by omega) (by omega)).mp q4
      have r2 : 1 ≤ d - 48 := by
        rcases Nat.lt_or_ge (d - 48) 1 with z | z
        · exact absurd ((iN_lt (b := 1) (by omega) (by omega)).mpr z) q2
        · exact z
      have ek : iN (c - 97) * (5 : Int32) + iN (d - 48) - (1 : Int32) = iN ((c - 97) * 5 + (d - 48) - 1) := by
        show iN (c - 97) * iN 5 + iN (d - 48) - iN 1 = _
        rw [iN_mul, iN_add, iN_sub (by omega)]
      rw [ek]
      exact tt_ob (addCard_t D E r4 (kd := (c - 97) * 5 + (d - 48) - 1) (by omega) (by omega)) (fun x h => tt_some ⟨hg, h⟩)
    · exact tt_ob (fail_t (k := 3) hg.1 (by omega) _) (fun x h => tt_some ⟨rg_trans hg h.1, hz⟩)
  exact tt_ite (fun _ => h85 _ _) (fun _ => h85 _ _)
theorem deck_t (hT : Txt n T) (hs : Rd n s) (hz : RG ru) : Tot (f_X4_readDeck NN 600 s T ru) (fun z => Rg n s z.1 ∧ RG z.2) := by
  have hn := hT.1
  unfold f_X4_readDeck
  refine tt_ob (spaces_t hT hs) (fun x1 h1 => tt_ob (card_t hT h1.1 hz) (fun x2 h2 => tt_ob (spaces_t hT h2.1.1) (fun x3 h3 => ?_)))
  unfold f_X4_readDeck_14
  refine tlk3 (fun j v u r => Cn n j v ∧ Rg n s u ∧ RG r) (fun j v u r hI self hs2 => ?_) NN n _ _ _ (show n < 100000 by omega) ⟨cn_0 n, rg_trans h1 (rg_trans h2.1 h3), h2.2⟩
  obtain ⟨⟨k, hk, rfl⟩, hg, hr⟩ := hI
  unfold F_X4_readDeck_14
  rw [hg.1.1]
  refine tt_ite (fun _ => tt_some ⟨hg, hr⟩) (fun h => tt_ite (fun _ => ?_) (fun _ => tt_some ⟨hg, hr⟩))
  have hkn := nle (by omega) (by omega) h
  obtain ⟨t, ht, e6⟩ := hg.1.2.1
  rw [e6, sign_at hT hg.1.1 (by omega), ob_some]
  exact tt_ob (letter_t _) (fun x5 _ => tt_ite (fun _ => tt_some ⟨hg, hr⟩) (fun _ => tt_ob (card_t hT hg.1 hr) (fun x6 h6 => tt_ob (spaces_t hT h6.1.1) (fun x7 h7 => hs2 (j - 1) _ _ _ (by omega) ⟨⟨k + 1, by omega, inc1 k⟩, rg_trans hg (rg_trans h6.1 h7), h6.2⟩))))
theorem st197_t (hT : Txt n T) (hs : Rd n s) : Tot (f_X4_readStatement_197 NN 600 T s ru) (fun z => Rg n s z.1 ∧ z.2 = ru) := by
  have hn := hT.1
  unfold f_X4_readStatement_197
  refine tt_ob (spaces_t hT hs) (fun x h => tt_ite (fun _ => tt_ite (fun _ => tt_some ⟨h, rfl⟩) (fun _ => ?_)) (fun _ => tt_some ⟨h, rfl⟩))
  obtain ⟨t, ht, e6⟩ := h.1.2.1
  rw [e6, sign_at hT h.1.1 (by omega), ob_some]
  exact tt_ite (fun _ => tt_some ⟨h, rfl⟩) (fun _ => tt_ob (fail_t (k := 1) h.1 (by omega) _) (fun x g => tt_some ⟨rg_trans h g.1, rfl⟩))
/-- a statement: behind it either an error stands, or the rules are good -/
def Pst (n : Nat) (s : Ob) (z : Ob × Ob) : Prop := Rg n s z.1 ∧ (z.1.1 1 = 0 → RG z.2)
theorem st197_g (hT : Txt n T) {x : Ob} (hx : Rg n s x) (hz : RG ru) : Tot (f_X4_readStatement_197 NN 600 T x ru) (Pst n s) := tt_mono (st197_t hT hx.1) fun z h => ⟨rg_trans hx h.1, fun _ => by rw [h.2]; exact hz⟩
theorem st197_e (hT : Txt n T) {x : Ob} (hx : Rg n s x) (he : ¬ x.1 1 = 0) : Tot (f_X4_readStatement_197 NN 600 T x ru) (Pst n s) := tt_mono (st197_t hT hx.1) fun z h => ⟨rg_trans hx h.1, fun e => absurd (h.1.2.2 e) he⟩
theorem st37_t (hT : Txt n T) {x : Ob} (hx : Rg n s x) {p : Nat} (hp : p ≤ 600) (h7 : ¬ x.1 7 = 0 → RG ru) : Tot (f_X4_readStatement_37 NN 600 T (iN p) x ru) (Pst n s) := by
  unfold f_X4_readStatement_37
  refine tt_ite (fun _ => tt_ob (fail_t (k := 1) hx.1 (by omega) _) (fun y h => st197_e hT (rg_trans hx h.1) h.2)) (fun h0 => ?_)
  have hz := h7 h0
  have W : ∀ l b, l < 1000 → Tot (f_X4_isWord NN 600 l b x T (iN p)) Ya := fun l b hl => isWord_t hT hx.1 l hl b hp
  refine tt_ob (W 4 _ (by omega)) (fun x4 _ => tt_ite (fun _ => tt_ob (W 6 _ (by omega)) (fun x5 _ => tt_ite (fun _ => tt_ob (W 5 _ (by omega)) (fun x6 _ => tt_ite (fun _ => tt_ob (W 5 _ (by omega)) (fun x7 _ => tt_ite (fun _ => tt_ob (W 4 _ (by omega)) (fun x8 _ => tt_ite (fun _ => tt_ob (W 7 _ (by omega)) (fun x9 _ => tt_ite (fun _ => ?_) (fun _ => ?_))) (fun _ => ?_))) (fun _ => ?_))) (fun _ => ?_))) (fun _ => ?_))) (fun _ => ?_))
  · exact tt_ob (fail_t (k := 1) hx.1 (by omega) _) (fun y h => st197_e hT (rg_trans hx h.1) h.2)
  · refine tt_ob (number_t (lo := 0) (hi := 999999) hT hx.1 (by omega) (by omega)) (fun y h => ?_)
    obtain ⟨h, v, ev, v1, v2⟩ := h
    refine st197_g hT (rg_trans hx ⟨⟨h.1.1, h.1.2.1, Or.inr ⟨v, by omega, ?_⟩⟩, h.2.1, h.2.2⟩) hz
    exact ev
  · obtain ⟨C, R, P, H, m, M, T2, V, w, q, D, E⟩ := id hz
    have b2 := D.2.2.2.1
    rw [E.2.1]
    exact tt_ob (times_t (p := 1) (lo := 1) (hi := R) hT hx.1 hz (by omega) (fun e => absurd e (by decide)) (fun _ => ⟨rfl, b2⟩)) (fun y h => st197_g hT (rg_trans hx h.1) h.2)
  · obtain ⟨C, R, P, H, m, M, T2, V, w, q, D, E⟩ := id hz
    have b1 := D.1
    have b2 := D.2.1
    rw [E.1, show iN C - (1 : Int32) = iN (C - 1) from iN_sub (b := 1) b1]
    exact tt_ob (times_t (p := 0) (lo := 0) (hi := C - 1) hT hx.1 hz (by omega) (fun _ => ⟨rfl, by omega⟩) (fun e => absurd e (by decide))) (fun y h => st197_g hT (rg_trans hx h.1) h.2)
  · refine tt_ob (number_t (lo := 1) (hi := 5) hT hx.1 (by omega) (by omega)) (fun y h => ?_)
    obtain ⟨h, v, ev, v1, v2⟩ := h
    rw [ev]
    exact st197_g hT (rg_trans hx h) (lives_t v1 (by omega) hz)
  · exact tt_ob (tokens_t hT hx.1 hz) (fun y h => st197_g hT (rg_trans hx h.1) h.2)
  · exact tt_ob (deck_t hT hx.1 hz) (fun y h => st197_g hT (rg_trans hx h.1) h.2)
theorem statement_t (hT : Txt n T) (hs : Rd n s) (h0 : s.1 7 = 0 → RZ ru) (h7 : ¬ s.1 7 = 0 → RG ru) : Tot (f_X4_readStatement NN 600 s T ru) (Pst n s) := by
  have hn := hT.1
  unfold f_X4_readStatement
  refine tt_ob (spaces_t hT hs) (fun x1 h1 => tt_ob (letters_t hT h1.1) (fun x2 h2 => ?_))
  have h12 := rg_trans h1 h2
  obtain ⟨t, ht, e6⟩ := h1.1.2.1
  rw [e6]
  have g37 := st37_t (ru := ru) hT h12 (p := t) (by omega) (fun e => h7 (by rw [← h12.2.1]; exact e))
  refine tt_ob (isWord_t hT h2.1 4 (by omega) _ (by omega)) (fun x3 _ => tt_ite (fun _ => g37) (fun _ => tt_ite (fun e => ?_) (fun _ => g37)))
  have hz := h0 (by rw [← h12.2.1]; exact e)
  exact tt_ob (game_t hT h12.1 hz) (fun y h => st197_g hT (rg_trans h12 h.1) h.2)
end RDY
/-! longs that are small -/
abbrev l64 (k : Nat) : Int64 := Int64.ofNat k
theorem lN_md {v d : Nat} (hv : v < 2 ^ 63) (hd : d < 2 ^ 63) : l64 v - l64 v / l64 d * l64 d = l64 (v % d) := by
  have e1 : l64 v / l64 d = l64 (v / d) := (Int64.ofNat_div hv hd).symm
  have e2 : l64 (v / d) * l64 d = l64 (v / d * d) := (Int64.ofNat_mul _ _).symm
  have e3 : l64 v - l64 (v / d * d) = l64 (v - v / d * d) := (Int64.ofNat_sub _ _ (Nat.div_mul_le_self v d)).symm
  rw [e1, e2, e3]
  congr 1
  have := Nat.div_add_mod v d
  rw [Nat.mul_comm] at this
  omega
theorem lN_toI {v : Nat} : (l64 v).toInt32 = iN v := bit_ext fun i hi => by
  rw [bit_l2i _ hi, bitL_ofNat _ _ (by omega), bit_iN _ _ hi]
theorem iN_toL {v : Nat} (h : v < 2 ^ 31) : (iN v).toInt64 = l64 v := by
  apply Int64.toInt_inj.mp
  rw [Int32.toInt_toInt64, iN_toInt h, Int64.toInt_ofNat_of_lt (by omega)]
theorem lN_ne0 {v : Nat} (h1 : 1 ≤ v) (h : v < 2 ^ 31) : ¬ l64 v = 0 := fun e => by
  have h2 := congrArg Int64.toInt e
  rw [Int64.toInt_ofNat_of_lt (by omega)] at h2
  have h3 : (0 : Int64).toInt = 0 := rfl
  omega
/-- one step of the shuffle -/
theorem shuf {st k : Nat} (hst : st < 2 ^ 31) (hk : k < 2 ^ 30) : ∃ st' o, st' < 2 ^ 31 ∧ o ≤ k ∧ ((l64 st * (1103515245 : Int64)) + (12345 : Int64)) - ((l64 st * (1103515245 : Int64)) + (12345 : Int64)) / (2147483648 : Int64) * (2147483648 : Int64) = l64 st' ∧ ((l64 st' / (65536 : Int64)) - (l64 st' / (65536 : Int64)) / ((iN k + (1 : Int32))).toInt64 * ((iN k + (1 : Int32))).toInt64).toInt32 = iN o := by
  have e0 : (l64 st * (1103515245 : Int64)) + (12345 : Int64) = l64 (st * 1103515245 + 12345) := by
    show l64 st * l64 1103515245 + l64 12345 = _
    rw [← Int64.ofNat_mul, ← Int64.ofNat_add]
  refine ⟨(st * 1103515245 + 12345) % 2147483648, (st * 1103515245 + 12345) % 2147483648 / 65536 % (k + 1), Nat.mod_lt _ (by omega), Nat.le_of_lt_succ (Nat.mod_lt _ (by omega)), ?_, ?_⟩
  · rw [e0]
    exact lN_md (d := 2147483648) (by omega) (by omega)
  · have hs' : (st * 1103515245 + 12345) % 2147483648 < 2147483648 := Nat.mod_lt _ (by omega)
    generalize (st * 1103515245 + 12345) % 2147483648 = s' at hs'
    have e1 : l64 s' / (65536 : Int64) = l64 (s' / 65536) := (Int64.ofNat_div (b := 65536) (by omega) (by omega)).symm
    rw [e1, inc1, iN_toL (by omega), lN_md (by omega) (by omega), lN_toI]
theorem exchange_t {ru : Ob} {C R P H m M T V : Nat} {w q : Nat → Nat} (D : Dl C R P H m M T V w q) (E : EnR C R P H m M T V w q ru) (h1 : 1 ≤ m) {sd : Nat} (hsd : sd ≤ 999999) : Tot (f_X5_exchangeCards NN ru (iN sd)) (fun ru' => ∃ q', Dl C R P H m M T V w q' ∧ EnR C R P H m M T V w q' ru') := by
  have h40 := D.2.2.2.2.2.2.2.2.1
  unfold f_X5_exchangeCards f_X5_exchangeCards_11
  rw [E.2.2.2.2.2.2.2.1, show iN m - (1 : Int32) = iN (m - 1) from iN_sub (b := 1) h1, iN_toL (by omega)]
  refine tlk3 (fun j v c r => ∃ st k, st < 2 ^ 31 ∧ v = l64 st ∧ k < m ∧ c = iN k ∧ j = k ∧ ∃ q', Dl C R P H m M T V w q' ∧ EnR C R P H m M T V w q' r) (fun j v c r hI self hs => ?_) NN (m - 1) _ _ _ (show m - 1 < 100000 by omega) ⟨sd, m - 1, by omega, rfl, by omega, rfl, rfl, q, D, E⟩
  obtain ⟨st, k, hst, rfl, hk, rfl, rfl, q', D', E'⟩ := hI
  unfold F_X5_exchangeCards_11
  refine tt_ite (fun _ => tt_some ⟨q', D', E'⟩) (fun h => ?_)
  have hk1 : 1 ≤ j := by
    rcases Nat.lt_or_ge j 1 with z | z
    · exact absurd ((iN_lt (b := 1) (by omega) (by omega)).mpr z) h
    · exact z
  obtain ⟨st', o, hst', ho, e1, e2⟩ := shuf (k := j) hst (by omega)
  rw [e1, znm_eq]
  refine tt_chk (decide_eq_true ?_) ?_
  · rw [inc1, iN_toL (by omega)]
    exact lN_ne0 (by omega) (by omega)
  rw [znm_eq, e2, iN_clamp (k := j) (by omega), iN_clamp (k := o) (by omega)]
  have i1 := iN_inb (show j < 40 by omega) (n := 40) (by omega)
  have i2 := iN_inb (show o < 40 by omega) (n := 40) (by omega)
  refine tt_chk i1 (tt_chk i2 (tt_chk i1 ?_))
  rw [znm_eq]
  refine tt_chk i2 ?_
  rw [show iN j + (-1 : Int32) = iN (j - 1) by rw [← iN_subm1 hk1, Int32.sub_eq_add_neg]]
  refine hs (j - 1) _ _ _ (by omega) ⟨st', j - 1, hst', rfl, by omega, rfl, rfl, swapQ q' j o, Dl_swap D' hk (by omega), ?_⟩
  obtain ⟨x0, x1, x2, x3, x4, x5, x6, x7, x8, x9, x10⟩ := E'
  refine ⟨x0, x1, x2, x3, x4, x5, x6, x7, fun i hi => ?_, fun i hi => ?_, x10⟩
  · show upd (upd (r.2.2.1 8) j (r.2.2.1 8 o)) o (r.2.2.1 8 j) i = iN (swapQ q' j o i)
    unfold swapQ
    rw [upd_at, upd_at]
    by_cases c : i = o
    · rw [if_pos c, if_pos c]
      exact x8 j (by omega)
    · rw [if_neg c, if_neg c]
      by_cases c2 : i = j
      · rw [if_pos c2, if_pos c2]
        exact x8 o (by omega)
      · rw [if_neg c2, if_neg c2]
        exact x8 i hi
  · rw [cnt_swap hk (by omega)]
    exact x9 i hi
/-- the whole reading -/
theorem readText_t {n : Nat} {T : Nat → Int32} (hT : Txt n T) (s : Ob) : Tot (f_X4_readText NN 600 s T (iN n)) (fun z => (z.1.1 1 = 0 → ∃ C R P H m M T V w q, Dl C R P H m M T V w q ∧ P * H ≤ m ∧ EnR C R P H m M T V w q z.2)) := by
  have hn := hT.1
  have h154 : ∀ s ru, Rd n s → (s.1 1 = 0 → ∃ C R P H m M T V w q, Dl C R P H m M T V w q ∧ P * H ≤ m ∧ EnR C R P H m M T V w q ru) → Tot (f_X4_readText_154 NN 600 T (iN n) s ru) (fun z => (z.1.1 1 = 0 → ∃ C R P H m M T V w q, Dl C R P H m M T V w q ∧ P * H ≤ m ∧ EnR C R P H m M T V w q z.2)) := fun s ru hs hz => by
    unfold f_X4_readText_154
    refine tt_ite (fun e => tt_ite (fun _ => tt_some hz) (fun hne => ?_)) (fun _ => tt_some hz)
    obtain ⟨C, R, P, H, m, M, T2, V, w, q, D, hm, E⟩ := hz e
    rcases hs.2.2 with h8 | ⟨sd, hsd, h8⟩
    · exact absurd h8 hne
    · rw [h8]
      have h1 : 1 ≤ P * H := Nat.mul_le_mul (show 1 ≤ P by have := D.2.2.2.2.1; omega) D.2.2.2.2.2.2.1
      exact tt_ob (exchange_t D E (by omega) hsd) (fun x h => tt_some (fun _ => by obtain ⟨q', D', E'⟩ := h; exact ⟨C, R, P, H, m, M, T2, V, w, q', D', hm, E'⟩))
  have h113 : ∀ s ru, Rd n s → (s.1 1 = 0 → RG ru) → Tot (f_X4_readText_113 NN 600 T (iN n) s ru) (fun z => (z.1.1 1 = 0 → ∃ C R P H m M T V w q, Dl C R P H m M T V w q ∧ P * H ≤ m ∧ EnR C R P H m M T V w q z.2)) := fun s ru hs hz => by
    unfold f_X4_readText_113
    refine tt_ite (fun e => ?_) (fun he => h154 s ru hs (fun e => absurd e he))
    obtain ⟨C, R, P, H, m, M, T2, V, w, q, D, E⟩ := hz e
    have d6 := D.2.2.2.2.2.1
    have d8 := D.2.2.2.2.2.2.2.1
    have d9 := D.2.2.2.2.2.2.2.2.1
    have hb : P * H ≤ 4 * 5 := Nat.mul_le_mul d6 d8
    rw [E.2.2.1, E.2.2.2.1, E.2.2.2.2.2.2.2.1, iN_mul]
    refine tt_ite (fun h => h154 s ru hs (fun _ => ⟨C, R, P, H, m, M, T2, V, w, q, D, (iN_le (by omega) (by omega)).mp h, E⟩)) (fun _ => ?_)
    exact tt_ob (fail_t (k := 4) hs (by omega) _) (fun x h => h154 x ru h.1.1 (fun e => absurd e h.2))
  unfold f_X4_readText
  rw [fill_eq _ _ (by omega), ob_some]
  simp only [znm_eq]
  have el : (if (Int32.ofNat 600) < iN n then (Int32.ofNat 600) else iN n) = iN n := if_neg (fun q => absurd ((iN_lt (a := 600) (by omega) (by omega)).mp q) (by omega))
  rw [el]
  unfold f_X4_readText_54
  refine tlk2 (fun j u r => ∃ st, st + j = n + 1 ∧ u.1 7 = iN st ∧ Rd n u ∧ (st = 0 → RZ r) ∧ (1 ≤ st → RG r)) (fun j u r hI self hs => ?_) NN (n + 1) _ _ (show n + 1 < 100000 by omega) ⟨0, by omega, rfl, ⟨rfl, ⟨0, Nat.zero_le _, rfl⟩, Or.inl rfl⟩, fun _ => ⟨rfl, rfl, rfl, rfl, fun _ _ => rfl, fun _ _ => rfl, fun k hk => filA_in (v := 99) hk⟩, fun h => absurd h (by omega)⟩
  obtain ⟨st, hst, e7, hR, hz0, hz1⟩ := hI
  unfold F_X4_readText_54
  rw [hR.1, e7]
  refine tt_ite (fun h => ?_) (fun h => ?_)
  · have := (iN_lt (by omega) (by omega)).mp h
    exact h113 u r hR (fun _ => hz1 (by omega))
  · have hst2 : st ≤ n := by
      rcases Nat.lt_or_ge n st with z | z
      · exact absurd ((iN_lt (by omega) (by omega)).mpr z) h
      · exact z
    have i0 : u.1 7 = 0 ↔ st = 0 := by
      rw [e7]
      exact iN_inj (b := 0) (by omega) (by omega)
    refine tt_ob (statement_t hT hR (fun e => hz0 (i0.mp e)) (fun e => hz1 (by have : ¬ st = 0 := fun z => e (i0.mpr z); omega))) (fun x h10 => ?_)
    obtain ⟨g, hG⟩ := h10
    refine tt_ite (fun e => tt_ite (fun hlt => ?_) (fun _ => h113 _ _ g.1 hG)) (fun _ => h113 _ _ g.1 hG)
    obtain ⟨t, ht, e6⟩ := g.1.2.1
    rw [g.1.1, e6] at hlt
    have hlt2 := (iN_lt (by omega) (by omega)).mp hlt
    have ex7 : x.1.1 7 = iN st := g.2.1.trans e7
    rw [znm_eq, e6, ex7, inc1, inc1]
    exact hs (j - 1) _ _ (by omega) ⟨st + 1, by omega, rfl, ⟨g.1.1, ⟨t + 1, by omega, rfl⟩, g.1.2.2⟩, fun z => absurd z (by omega), fun _ => hG e⟩
