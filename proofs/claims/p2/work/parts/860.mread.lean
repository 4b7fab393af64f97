/-! OWN: the reader of the model comes to its end, and what it has read then -/
def By (n : Nat) (s0 : Ob) : Prop := n ≤ 600 ∧ s0.1 9 = iN n ∧ ∀ k, k < n → ∃ v, 1 ≤ v ∧ v ≤ 255 ∧ s0.2.2.1 8 k = vp_nar .byte (iN v)
def hrd (n : Nat) (B : Nat → Int32) (t : Nat) : Int32 := if t < n then B t &&& 255 else -1
/-- the reader of the model at the place t -/
def Md (n : Nat) (s0 : Ob) (t : Nat) (s : Ob) : Prop := (∀ k, k ≠ 1 → s.2.2.1 k = s0.2.2.1 k) ∧ s.2.1 = s0.2.1 ∧ s.2.2.2 = s0.2.2.2 ∧ (∀ k, k < 10 ∨ 16 ≤ k → s.1 k = s0.1 k) ∧ t ≤ n ∧ s.1 10 = iN t ∧ True ∧ (s.1 15 = -1 ∨ ∃ sd, sd ≤ 999999 ∧ s.1 15 = iN sd)
/-- reading on: nothing is written, the statement stays, an error stays one -/
def Mg (n : Nat) (s0 : Ob) (t : Nat) (s s' : Ob) : Prop := (∃ t', t ≤ t' ∧ Md n s0 t' s') ∧ s'.1 14 = s.1 14 ∧ s'.2.2.1 1 = s.2.2.1 1 ∧ (s'.1 12 = 0 → s.1 12 = 0)
section MRD
variable {n t : Nat} {s0 s : Ob}
theorem mg_refl (h : Md n s0 t s) : Mg n s0 t s s := ⟨⟨t, Nat.le_refl _, h⟩, rfl, rfl, fun e => e⟩
theorem mg_trans {t' : Nat} {u v : Ob} (h : Mg n s0 t s u) (ht : t ≤ t') (g : Mg n s0 t' u v) : Mg n s0 t s v := by
  obtain ⟨⟨a, ha, hm⟩, g2, g3, g4⟩ := g
  exact ⟨⟨a, by omega, hm⟩, g2.trans h.2.1, g3.trans h.2.2.1, fun e => h.2.2.2 (g4 e)⟩
theorem here_at (hB : By n s0) (h : Md n s0 t s) : f_X8_here NN s = some (hrd n (s0.2.2.1 8) t) := by
  obtain ⟨h1, -, -, h4, h5, h6, -⟩ := h
  have hn := hB.1
  unfold f_X8_here hrd
  rw [h4 9 (by omega), hB.2.1, h6, h1 8 (by omega)]
  by_cases c : t < n
  · rw [if_neg (fun q => absurd ((iN_le (by omega) (by omega)).mp q) (by omega)), chk_t (iN_inb (by omega) (by omega)), iN_clamp (by omega), if_pos c]
  · rw [if_pos ((iN_le (by omega) (by omega)).mpr (by omega)), if_neg c]
theorem hrd_lt {B : Nat → Int32} (h : ¬ hrd n B t = -1) : t < n := by
  rcases Nat.lt_or_ge t n with c | c
  · exact c
  · exact absurd (if_neg (by omega)) h
theorem iN_nm1b {k : Nat} (h : k < 2 ^ 31) : ¬ iN k = -1 := fun e => by
  have hh := congrArg Int32.toInt e
  rw [iN_toInt h] at hh
  have h4 : (-1 : Int32).toInt = -1 := rfl
  omega
theorem md_at (h : Md n s0 t s) (ht : t + 1 ≤ n) : Md n s0 (t + 1) (si s 10 (s.1 10 + 1)) := by
  obtain ⟨h1, h2, h3, h4, h5, h6, h7, h8⟩ := h
  refine ⟨h1, h2, h3, fun k hk => ?_, ht, ?_, h7, h8⟩
  · show (if k = 10 then _ else s.1 k) = _
    rw [if_neg (by omega)]
    exact h4 k hk
  · show s.1 10 + 1 = _
    rw [h6, inc1]
theorem md_begin (h : Md n s0 t s) : Md n s0 t (si s 11 (s.1 10)) := by
  obtain ⟨h1, h2, h3, h4, h5, h6, h7, h8⟩ := h
  refine ⟨h1, h2, h3, fun k hk => ?_, h5, h6, trivial, h8⟩
  show (if k = 11 then _ else s.1 k) = _
  rw [if_neg (by omega)]
  exact h4 k hk
theorem mnext_t (hB : By n s0) (h : Md n s0 t s) : Tot (f_X8_next NN s) (fun z => Mg n s0 t s z.2 ∧ z.2.1 11 = z.2.1 10 ∧ ∃ t', t ≤ t' ∧ Md n s0 t' z.2 ∧ z.1 = hrd n (s0.2.2.1 8) t' ∧ z.2.1 12 = s.1 12) := by
  have hn := hB.1
  unfold f_X8_next f_X8_next_0
  refine tlk1 (fun j u => ∃ k, k + j = n ∧ t ≤ k ∧ Md n s0 k u ∧ u.1 14 = s.1 14 ∧ u.2.2.1 1 = s.2.2.1 1 ∧ u.1 12 = s.1 12) (fun j u hI self hs => ?_) NN (n - t) _ (show n - t < 100000 by omega) ⟨t, by have := h.2.2.2.2.1; omega, Nat.le_refl _, h, rfl, rfl, rfl⟩
  obtain ⟨k, hk, htk, hM, a1, a2, a3⟩ := hI
  unfold F_X8_next_0
  rw [here_at hB hM, ob_some]
  refine tt_ite (fun e => ?_) (fun _ => ?_)
  · have hkn : k < n := hrd_lt (B := s0.2.2.1 8) (by rw [e]; decide)
    exact hs (j - 1) _ (by omega) ⟨k + 1, by omega, by omega, md_at hM (by omega), a1, a2, a3⟩
  · have hM2 := md_begin hM
    rw [here_at hB hM2, ob_some]
    exact tt_some ⟨⟨⟨k, htk, hM2⟩, a1, a2, fun e => by rw [← a3]; exact e⟩, rfl, k, htk, hM2, rfl, a3⟩
theorem in_t (x : Int32) {lo hi : Nat} (hlo : lo < 2 ^ 31) (hhi : hi < 2 ^ 31) : Tot (f_X8_in NN x (iN lo) (iN hi)) (fun r => ¬ r = 0 → ∃ v, lo ≤ v ∧ v ≤ hi ∧ x = iN v) := by
  rw [X8_in_eq]
  by_cases c : x < iN lo
  · rw [if_pos c]
    exact tt_some (fun e => absurd rfl e)
  · rw [if_neg c]
    by_cases d : iN hi < x
    · rw [if_pos d]
      exact tt_some (fun e => absurd rfl e)
    · rw [if_neg d]
      exact tt_some (fun _ => rng hlo hhi c (Int32.not_lt.mp d))
theorem mreads_t (hB : By n s0) (h : Md n s0 t s) : Tot (f_X8_reads NN s) (fun z => Mg n s0 t s z ∧ ∃ b k, t ≤ b ∧ b ≤ k ∧ Md n s0 k z ∧ z.1 11 = iN b ∧ ∀ i, b ≤ i → i < k → ∃ v, 97 ≤ v ∧ v ≤ 122 ∧ hrd n (s0.2.2.1 8) i = iN v) := by
  have hn := hB.1
  unfold f_X8_reads
  refine tt_ob (mnext_t hB h) (fun x hx => ?_)
  obtain ⟨g, e11, b, htb, hM, -⟩ := hx
  have hbn := hM.2.2.2.2.1
  unfold f_X8_reads_5
  refine tlk1 (fun j u => ∃ k, k + j = n ∧ b ≤ k ∧ Md n s0 k u ∧ u.1 11 = iN b ∧ u.1 14 = x.2.1 14 ∧ u.2.2.1 1 = x.2.2.2.1 1 ∧ u.1 12 = x.2.1 12 ∧ ∀ i, b ≤ i → i < k → ∃ v, 97 ≤ v ∧ v ≤ 122 ∧ hrd n (s0.2.2.1 8) i = iN v) (fun j u hI self hs => ?_) NN (n - b) _ (show n - b < 100000 by omega) ⟨b, by omega, Nat.le_refl _, hM, by rw [e11]; exact hM.2.2.2.2.2.1, rfl, rfl, rfl, fun i h1 h2 => by omega⟩
  obtain ⟨k, hk, hbk, hMk, a0, a1, a2, a3, hl⟩ := hI
  unfold F_X8_reads_5
  rw [here_at hB hMk, ob_some]
  refine tt_ob (in_t _ (lo := 97) (hi := 122) (by omega) (by omega)) (fun r hr2 => tt_ite (fun _ => tt_some ⟨⟨⟨k, by omega, hMk⟩, a1.trans g.2.1, a2.trans g.2.2.1, fun e => g.2.2.2 (by rw [← a3]; exact e)⟩, b, k, htb, hbk, hMk, a0, hl⟩) (fun hne => ?_))
  obtain ⟨v, v1, v2, ev⟩ := hr2 hne
  have hkn : k < n := hrd_lt (B := s0.2.2.1 8) (by rw [ev]; exact iN_nm1b (by omega))
  refine hs (j - 1) _ (by omega) ⟨k + 1, by omega, by omega, md_at hMk (by omega), a0, a1, a2, a3, fun i h1 h2 => ?_⟩
  by_cases c : i = k
  · subst c
    exact ⟨v, v1, v2, ev⟩
  · exact hl i h1 (by omega)
theorem mdigits_t (hB : By n s0) (h : Md n s0 t s) : Tot (f_X8_digits NN s) (fun z => Mg n s0 t s z.2) := by
  have hn := hB.1
  unfold f_X8_digits f_X8_digits_2
  refine tlk2 (fun j _ u => ∃ k, k + j = n ∧ t ≤ k ∧ Md n s0 k u ∧ u.1 14 = s.1 14 ∧ u.2.2.1 1 = s.2.2.1 1 ∧ u.1 12 = s.1 12) (fun j v u hI self hs => ?_) NN (n - t) _ _ (show n - t < 100000 by omega) ⟨t, by have := h.2.2.2.2.1; omega, Nat.le_refl _, h, rfl, rfl, rfl⟩
  obtain ⟨k, hk, htk, hM, a1, a2, a3⟩ := hI
  unfold F_X8_digits_2
  rw [here_at hB hM, ob_some]
  refine tt_ob (in_t _ (lo := 48) (hi := 57) (by omega) (by omega)) (fun r hr2 => tt_ite (fun _ => tt_some ⟨⟨k, htk, hM⟩, a1, a2, fun e => by rw [← a3]; exact e⟩) (fun hne => ?_))
  obtain ⟨v, v1, v2, ev⟩ := hr2 hne
  have hkn : k < n := hrd_lt (B := s0.2.2.1 8) (by rw [ev]; exact iN_nm1b (by omega))
  rw [ob_some, znm_eq]
  exact hs (j - 1) _ _ (by omega) ⟨k + 1, by omega, by omega, md_at hM (by omega), a1, a2, a3⟩
theorem mfails_t (h : Md n s0 t s) {k : Nat} (hk : 1 ≤ k ∧ k ≤ 4) : Tot (f_X8_fails NN s (iN k)) (fun s' => Mg n s0 t s s' ∧ ¬ s'.1 12 = 0 ∧ Md n s0 t s') := by
  have hne : ¬ iN k = 0 := fun e => by
    have := (iN_inj (a := k) (b := 0) (by omega) (by omega)).mp e
    omega
  unfold f_X8_fails
  refine tt_ite (fun _ => ?_) (fun hz => tt_some ⟨mg_refl h, hz, h⟩)
  obtain ⟨h1, h2, h3, h4, h5, h6, h7, h8⟩ := h
  have hM : Md n s0 t (si (si s 12 (iN k)) 13 (s.1 11)) := ⟨h1, h2, h3, fun j hj => by
    show (if j = 13 then _ else if j = 12 then _ else s.1 j) = _
    rw [if_neg (by omega), if_neg (by omega)]
    exact h4 j hj, h5, h6, h7, h8⟩
  exact ⟨_, rfl, ⟨⟨t, Nat.le_refl _, hM⟩, rfl, rfl, fun e => absurd e hne⟩, hne, hM⟩
theorem mnumber_t (hB : By n s0) (h : Md n s0 t s) {lo hi : Nat} (hlo : lo < 2 ^ 31) (hhi : hi < 2 ^ 31) : Tot (f_X8_number NN s (iN lo) (iN hi)) (fun z => Mg n s0 t s z.2 ∧ ∃ v, z.1 = iN v ∧ lo ≤ v ∧ (v = lo ∨ v ≤ hi)) := by
  unfold f_X8_number
  refine tt_ite (fun _ => tt_ob (mnext_t hB h) (fun x hx => ?_)) (fun _ => tt_some ⟨mg_refl h, lo, rfl, Nat.le_refl _, Or.inl rfl⟩)
  obtain ⟨g, -, b, htb, hM, -⟩ := hx
  refine tt_ob (tt_any (in_t x.1 (lo := 48) (hi := 57) (by omega) (by omega))) (fun r _ => tt_ite (fun _ => ?_) (fun _ => ?_))
  · exact tt_ob (mfails_t (k := 1) hM (by omega)) (fun y hy => tt_some ⟨mg_trans g htb hy.1, lo, rfl, Nat.le_refl _, Or.inl rfl⟩)
  · refine tt_ob (mdigits_t hB hM) (fun y hy => tt_ob (in_t y.1 hlo hhi) (fun r2 h2 => tt_ite (fun _ => ?_) (fun hne => ?_)))
    · obtain ⟨t', ht', hM'⟩ := hy.1
      exact tt_ob (mfails_t (k := 2) hM' (by omega)) (fun w hw => tt_some ⟨mg_trans g htb (mg_trans hy ht' hw.1), lo, rfl, Nat.le_refl _, Or.inl rfl⟩)
    · obtain ⟨v, v1, v2, ev⟩ := h2 hne
      exact tt_some ⟨mg_trans g htb hy, v, ev, v1, Or.inr v2⟩
theorem mword_t (hB : By n s0) {b k : Nat} (hM : Md n s0 k s) (hb : s.1 11 = iN b) (hbk : b ≤ k) (l1 : Nat) (hl : l1 < 1000) (b1 : Nat → Int32) : Tot (f_X8_isWord NN l1 b1 s) Ya := by
  have hn := hB.1
  have hkn := hM.2.2.2.2.1
  have key : ∀ v : Int32, (v = 0 ∨ (v = 1 ∧ k - b = l1)) → Tot (f_X8_isWord_24 NN l1 b1 s NN v (0 : Int32)) Ya := fun v hv => by
    unfold f_X8_isWord_24
    refine tlk2 (fun j v c => Cn l1 j c ∧ (v = 0 ∨ (v = 1 ∧ k - b = l1))) (fun j v c hI self hs => ?_) NN l1 _ _ (show l1 < 100000 by omega) ⟨cn_0 l1, hv⟩
    obtain ⟨⟨i, hi, rfl⟩, hv⟩ := hI
    have hz : zisB v = true := decide_eq_true (by rcases hv with h | h; exact Or.inl h; exact Or.inr h.1)
    unfold F_X8_isWord_24
    refine tt_ite (fun _ => tt_chk hz (tt_some trivial)) (fun hne => tt_ite (fun _ => tt_chk hz (tt_some trivial)) (fun h => ?_))
    have hil := nle (by omega) (by omega) h
    rcases hv with hv | ⟨-, hkb⟩
    · exact absurd hv hne
    rw [hb, iN_add]
    exact tt_chk (iN_inb (by omega) (by omega)) (tt_chk (iN_inb hil (by omega)) (tt_ite (fun _ => hs (j - 1) _ _ (by omega) ⟨⟨i + 1, by omega, inc1 i⟩, Or.inr ⟨rfl, hkb⟩⟩) (fun _ => hs (j - 1) _ _ (by omega) ⟨⟨i + 1, by omega, inc1 i⟩, Or.inl rfl⟩)))
  unfold f_X8_isWord
  rw [hM.2.2.2.2.2.1, hb, iN_sub hbk]
  exact tt_ite (fun e => key 1 (Or.inr ⟨rfl, (iN_inj (by omega) (by omega)).mp e⟩)) (fun _ => key 0 (Or.inl rfl))
end MRD
/-- what a row that is read says -/
def EnM (C R P H m M T V : Nat) (w q : Nat → Nat) (r : Nat → Int32) : Prop := r 0 = iN C ∧ r 1 = iN R ∧ r 2 = iN P ∧ r 3 = iN H ∧ r 4 = iN m ∧ r 6 = iN M ∧ r 7 = iN T ∧ r 8 = iN V ∧ (∀ k, k < 9 → r (18 + k) = iN (w k)) ∧ (∀ k, k < 40 → r (27 + k) = iN (q k)) ∧ ∀ k, k < 358 → (k = 5 ∨ (9 ≤ k ∧ k < 18) ∨ 67 ≤ k) → r k = 0
def MG (m : Nat) (r : Nat → Int32) : Prop := ∃ C R P H M T V w q, Dl C R P H m M T V w q ∧ EnM C R P H m M T V w q r
def MZ (r : Nat → Int32) : Prop := r 4 = iN 0 ∧ r 6 = iN 8 ∧ r 7 = iN 8 ∧ r 8 = iN 3 ∧ (∀ k, k < 9 → r (18 + k) = iN 99) ∧ (∀ k, k < 40 → r (27 + k) = iN 0) ∧ ∀ k, k < 358 → (k = 5 ∨ (9 ≤ k ∧ k < 18) ∨ 67 ≤ k) → r k = 0
theorem md_sa {n t : Nat} {s0 s : Ob} (h : Md n s0 t s) (f : Nat → Int32) : Md n s0 t (sa s 1 f) := by
  obtain ⟨h1, h2, h3, h4, h5, h6, h7, h8⟩ := h
  refine ⟨fun k hk => ?_, h2, h3, h4, h5, h6, h7, h8⟩
  show (if k = 1 then f else s.2.2.1 k) = _
  rw [if_neg hk]
  exact h1 k hk
section MRE
variable {n t : Nat} {s0 s : Ob}
/-- behind a part of a statement: an error, or a good row -/
def Pm (n : Nat) (s0 : Ob) (t : Nat) (s s' : Ob) : Prop := (∃ t', t ≤ t' ∧ Md n s0 t' s') ∧ s'.1 14 = s.1 14 ∧ (s'.1 12 = 0 → s.1 12 = 0 ∧ ∃ m, MG m (s'.2.2.1 1))
theorem pm_of {u v : Ob} {t' : Nat} (g : Mg n s0 t s u) (ht : t ≤ t') (h : Pm n s0 t' u v) : Pm n s0 t s v := by
  obtain ⟨⟨a, ha, hm⟩, h2, h3⟩ := h
  exact ⟨⟨a, by omega, hm⟩, h2.trans g.2.1, fun e => ⟨g.2.2.2 (h3 e).1, (h3 e).2⟩⟩
theorem pm_err {v : Ob} (g : Mg n s0 t s v) (he : ¬ v.1 12 = 0) : Pm n s0 t s v := ⟨g.1, g.2.1, fun e => absurd e he⟩
theorem mgame_t (hB : By n s0) (h : Md n s0 t s) (hz : s.1 14 = 0 → MZ (s.2.2.1 1)) (h14 : ∃ st, st < 2 ^ 30 ∧ s.1 14 = iN st) : Tot (f_X8_gamePart NN s) (Pm n s0 t s) := by
  have key : ∀ (t : Nat) (s : Ob), Md n s0 t s → (s.1 12 = 0 → MZ (s.2.2.1 1)) → Tot (f_X8_gamePart_12 NN s) (Pm n s0 t s) := fun t s h hz => by
    unfold f_X8_gamePart_12
    refine tt_ob (mnumber_t (lo := 1) (hi := 4) hB h (by omega) (by omega)) (fun x1 h1 => ?_)
    obtain ⟨⟨⟨t1, k1, M1⟩, b1, c1, e1⟩, C, eC, C1, C2⟩ := h1
    refine tt_ob (mnumber_t (lo := 1) (hi := 5) hB (md_sa M1 _) (by omega) (by omega)) (fun x2 h2 => ?_)
    obtain ⟨⟨⟨t2, k2, M2⟩, b2, c2, e2⟩, R, eR, R1, R2⟩ := h2
    refine tt_ob (mnumber_t (lo := 2) (hi := 4) hB (md_sa M2 _) (by omega) (by omega)) (fun x3 h3 => ?_)
    obtain ⟨⟨⟨t3, k3, M3⟩, b3, c3, e3⟩, P, eP, P1, P2⟩ := h3
    refine tt_ob (mnumber_t (lo := 1) (hi := 5) hB (md_sa M3 _) (by omega) (by omega)) (fun x4 h4 => ?_)
    obtain ⟨⟨⟨t4, k4, M4⟩, b4, c4, e4⟩, H, eH, H1, H2⟩ := h4
    refine tt_some ⟨⟨t4, by omega, md_sa M4 _⟩, ?_, fun e => ?_⟩
    · show x4.2.1 14 = _
      rw [b4]
      show x3.2.1 14 = _
      rw [b3]
      show x2.2.1 14 = _
      rw [b2]
      exact b1
    · have z0 : s.1 12 = 0 := e1 (e2 (e3 (e4 e)))
      refine ⟨z0, 0, C, R, P, H, 8, 8, 3, fun _ => 99, fun _ => 0, ⟨by omega, by omega, by omega, by omega, by omega, by omega, by omega, by omega, by omega, by omega, by omega, by omega, by omega, by omega, fun _ _ => Nat.le_refl _, fun _ _ => (show (0 : Nat) < 20 by omega), fun _ h => absurd h (Nat.not_lt_zero _)⟩, ?_⟩
      have er : ∀ k, (sa x4.2 1 (upd (x4.2.2.2.1 1) 3 x4.1)).2.2.1 1 k = if k = 3 then iN H else if k = 2 then iN P else if k = 1 then iN R else if k = 0 then iN C else s.2.2.1 1 k := fun k => by
        show upd (x4.2.2.2.1 1) 3 x4.1 k = _
        rw [c4]
        show upd (upd (x3.2.2.2.1 1) 2 x3.1) 3 x4.1 k = _
        rw [c3]
        show upd (upd (upd (x2.2.2.2.1 1) 1 x2.1) 2 x3.1) 3 x4.1 k = _
        rw [c2]
        show upd (upd (upd (upd (x1.2.2.2.1 1) 0 x1.1) 1 x2.1) 2 x3.1) 3 x4.1 k = _
        rw [c1, upd_at, upd_at, upd_at, upd_at, eC, eR, eP, eH]
      obtain ⟨z4, z6, z7, z8, z18, z27, zr⟩ := hz z0
      have e4k : ∀ k, 4 ≤ k → (sa x4.2 1 (upd (x4.2.2.2.1 1) 3 x4.1)).2.2.1 1 k = s.2.2.1 1 k := fun k hk => by
        rw [er k, if_neg (by omega), if_neg (by omega), if_neg (by omega), if_neg (by omega)]
      refine ⟨er 0, er 1, er 2, er 3, (e4k 4 (by omega)).trans z4, (e4k 6 (by omega)).trans z6, (e4k 7 (by omega)).trans z7, (e4k 8 (by omega)).trans z8, fun k hk => (e4k _ (by omega)).trans (z18 k hk), fun k hk => (e4k _ (by omega)).trans (z27 k hk), fun k hk h => (e4k k (by omega)).trans (zr k hk h)⟩
  obtain ⟨st, hst, est⟩ := h14
  unfold f_X8_gamePart
  rw [est]
  refine tt_ite (fun hle => key t s h (fun _ => hz ?_)) (fun hgt => ?_)
  · have := (iN_le (b := 0) (by omega) (by omega)).mp hle
    rw [est, Nat.le_zero.mp this]
    rfl
  · exact tt_ob (mfails_t (k := 1) h (by omega)) (fun x hx => tt_mono (key t x hx.2.2 (fun e => absurd e hx.2.1)) (fun z hz => pm_of hx.1 (Nat.le_refl _) hz))
theorem nar_lt : ∀ c : Fin 256, (vp_nar .byte (iN c.val)) &&& 255 = iN c.val := by decide +kernel
theorem nar_small : ∀ c : Fin 128, vp_nar .byte (iN c.val) = iN c.val := by decide +kernel
theorem mraw (hB : By n s0) {b v : Nat} (hb : b < n) (hv : v < 128) (e : hrd n (s0.2.2.1 8) b = iN v) : s0.2.2.1 8 b = iN v := by
  obtain ⟨x, x1, x2, ex⟩ := hB.2.2 b hb
  unfold hrd at e
  rw [if_pos hb, ex, nar_lt ⟨x, by omega⟩] at e
  have : x = v := (iN_inj (by omega) (by omega)).mp e
  subst this
  rw [ex]
  exact nar_small ⟨x, hv⟩
theorem mcard_t (hB : By n s0) (h : Md n s0 t s) {m : Nat} (hz : MG m (s.2.2.1 1)) : Tot (f_X8_cardPart NN s) (fun s' => (∃ t', t ≤ t' ∧ Md n s0 t' s') ∧ s'.1 14 = s.1 14 ∧ (s'.1 12 = 0 → s.1 12 = 0 ∧ m < 40 ∧ MG (m + 1) (s'.2.2.1 1))) := by
  have hn := hB.1
  unfold f_X8_cardPart
  refine tt_ob (mreads_t hB h) (fun x hx => ?_)
  obtain ⟨g, b, k, htb, hbk, hM, e11, hl⟩ := hx
  have hkn := hM.2.2.2.2.1
  have e10 := hM.2.2.2.2.2.1
  have h53 : Tot (f_X8_cardPart_53 NN x) (fun s' => (∃ t', t ≤ t' ∧ Md n s0 t' s') ∧ s'.1 14 = s.1 14 ∧ (s'.1 12 = 0 → s.1 12 = 0 ∧ m < 40 ∧ MG (m + 1) (s'.2.2.1 1))) := by
    unfold f_X8_cardPart_53
    exact tt_ob (mfails_t (k := 1) hM (by omega)) (fun y hy => tt_some ⟨⟨k, by omega, hy.2.2⟩, hy.1.2.1.trans g.2.1, fun e => absurd e hy.2.1⟩)
  have h33 : ∀ l, l ≤ 25 → Tot (f_X8_cardPart_33 NN (iN l) x) (fun s' => (∃ t', t ≤ t' ∧ Md n s0 t' s') ∧ s'.1 14 = s.1 14 ∧ (s'.1 12 = 0 → s.1 12 = 0 ∧ m < 40 ∧ MG (m + 1) (s'.2.2.1 1))) := fun l hl25 => by
    unfold f_X8_cardPart_33
    refine tt_ite (fun _ => h53) (fun _ => ?_)
    rw [here_at hB hM, ob_some]
    refine tt_ob (tt_any (in_t _ (lo := 48) (hi := 57) (by omega) (by omega))) (fun x4 _ => tt_ite (fun _ => h53) (fun _ => tt_ob (mdigits_t hB hM) (fun x5 h5 => ?_)))
    obtain ⟨⟨t5, ht5, M5⟩, a14, a1, a12⟩ := h5
    have hz5 : MG m (x5.2.2.2.1 1) := by rw [a1, g.2.2.1]; exact hz
    have f14 : x5.2.1 14 = s.1 14 := a14.trans g.2.1
    have f12 : x5.2.1 12 = 0 → s.1 12 = 0 := fun e => g.2.2.2 (a12 e)
    obtain ⟨C, R, P, H, M, T, V, w, q, D, E⟩ := hz5
    have c4 := D.2.1
    have r5 := D.2.2.2.1
    have m40 := D.2.2.2.2.2.2.2.2.1
    have h112e : ∀ v1 v2 y, Md n s0 t5 y → y.1 14 = x5.2.1 14 → ¬ y.1 12 = 0 → Tot (f_X8_cardPart_112 NN v1 v2 y) (fun s' => (∃ t', t ≤ t' ∧ Md n s0 t' s') ∧ s'.1 14 = s.1 14 ∧ (s'.1 12 = 0 → s.1 12 = 0 ∧ m < 40 ∧ MG (m + 1) (s'.2.2.1 1))) := fun v1 v2 y hy e14 he => by
      unfold f_X8_cardPart_112
      rw [if_neg he]
      exact tt_some ⟨⟨t5, by omega, hy⟩, e14.trans f14, fun e => absurd e he⟩
    have h88 : ∀ v1 v2, Tot (f_X8_cardPart_88 NN v1 v2 x5.2) (fun s' => (∃ t', t ≤ t' ∧ Md n s0 t' s') ∧ s'.1 14 = s.1 14 ∧ (s'.1 12 = 0 → s.1 12 = 0 ∧ m < 40 ∧ MG (m + 1) (s'.2.2.1 1))) := fun v1 v2 => by
      unfold f_X8_cardPart_88
      exact tt_ob (mfails_t (k := 2) M5 (by omega)) (fun y hy => h112e v1 v2 y hy.2.2 hy.1.2.1 hy.2.1)
    rw [E.1, E.2.1, E.2.2.2.2.1]
    refine tt_ite (fun _ => h88 _ _) (fun hlC => ?_)
    have hlC2 := nle (by omega) (by omega) hlC
    refine tt_ob (in_t x5.1 (lo := 1) (hi := R) (by omega) (by omega)) (fun x11 h11 => tt_ite (fun _ => h88 _ _) (fun hne => ?_))
    obtain ⟨d, d1, d2, ed⟩ := h11 hne
    refine tt_ite (fun _ => ?_) (fun hm40 => ?_)
    · exact tt_ob (mfails_t (k := 3) M5 (by omega)) (fun y hy => h112e _ _ y hy.2.2 hy.1.2.1 hy.2.1)
    · have hm : m < 40 := by
        rcases Nat.lt_or_ge m 40 with z | z
        · exact z
        · have : m = 40 := by omega
          subst this
          exact absurd rfl hm40
      unfold f_X8_cardPart_112
      refine tt_ite (fun he => ?_) (fun he => tt_some ⟨⟨t5, by omega, M5⟩, f14, fun e => absurd e he⟩)
      have hkind : f_X8_kind NN (iN l) x5.1 = some (iN (5 * l + d - 1)) := by
        unfold f_X8_kind
        rw [ed]
        show some (iN 5 * iN l + iN d - iN 1) = _
        rw [iN_mul, iN_add, iN_sub (by omega)]
      rw [hkind, ob_some, E.2.2.2.2.1, show (27 : Int32) + iN m = iN (27 + m) from iN_add 27 m, iN_clamp (k := 27 + m) (by omega)]
      refine tt_chk (iN_inb (by omega) (by omega)) ?_
      obtain ⟨x0, xx1, x2, x3, xx4, x6, x7, x8, x18, x27, xr⟩ := E
      obtain ⟨d1', d2', d3', d4', d5', d6', d7', d8', d9', d10', d11', d12', d13', d14', d15', d16', d17'⟩ := D
      have er : ∀ i, (sa (sa x5.2 1 (upd (x5.2.2.2.1 1) (27 + m) (iN (5 * l + d - 1)))) 1 (upd ((sa x5.2 1 (upd (x5.2.2.2.1 1) (27 + m) (iN (5 * l + d - 1)))).2.2.1 1) 4 (upd (x5.2.2.2.1 1) (27 + m) (iN (5 * l + d - 1)) 4 + 1))).2.2.1 1 i = if i = 4 then iN (m + 1) else if i = 27 + m then iN (5 * l + d - 1) else x5.2.2.2.1 1 i := fun i => by
        show upd (upd (x5.2.2.2.1 1) (27 + m) (iN (5 * l + d - 1))) 4 (upd (x5.2.2.2.1 1) (27 + m) (iN (5 * l + d - 1)) 4 + 1) i = _
        rw [upd_at, upd_at, upd_at, if_neg (show ¬ 4 = 27 + m by omega), xx4, inc1]
      refine ⟨_, rfl, ⟨t5, by omega, md_sa (md_sa M5 _) _⟩, f14, fun _ => ⟨f12 he, hm, C, R, P, H, M, T, V, w, fun i => if i = m then 5 * l + d - 1 else q i, ⟨d1', d2', d3', d4', d5', d6', d7', d8', hm, d10', d11', d12', d13', d14', d15', fun i hi => ?_, fun i hi => ?_⟩, ?_⟩⟩
      · show (if i = m then 5 * l + d - 1 else q i) < 20
        split
        · omega
        · exact d16' i hi
      · show (if i = m then 5 * l + d - 1 else q i) / 5 < C ∧ (if i = m then 5 * l + d - 1 else q i) % 5 < R
        by_cases c : i = m
        · rw [if_pos c]
          omega
        · rw [if_neg c]
          exact d17' i (by omega)
      · refine ⟨?_, ?_, ?_, ?_, er 4, ?_, ?_, ?_, fun i hi => ?_, fun i hi => ?_, fun i hi hc => ?_⟩
        · rw [er, if_neg (by omega), if_neg (by omega)]; exact x0
        · rw [er, if_neg (by omega), if_neg (by omega)]; exact xx1
        · rw [er, if_neg (by omega), if_neg (by omega)]; exact x2
        · rw [er, if_neg (by omega), if_neg (by omega)]; exact x3
        · rw [er, if_neg (by omega), if_neg (by omega)]; exact x6
        · rw [er, if_neg (by omega), if_neg (by omega)]; exact x7
        · rw [er, if_neg (by omega), if_neg (by omega)]; exact x8
        · rw [er, if_neg (by omega), if_neg (by omega)]; exact x18 i hi
        · rw [er, if_neg (by omega)]
          show _ = iN (if i = m then 5 * l + d - 1 else q i)
          by_cases c : i = m
          · rw [if_pos (by omega), if_pos c]
          · rw [if_neg (by omega), if_neg c]
            exact x27 i hi
        · rw [er, if_neg (by omega), if_neg (by omega)]; exact xr i hi hc
  rw [e10, e11, iN_sub hbk]
  refine tt_ite (fun e => ?_) (fun _ => ?_)
  · have hk1 : k - b = 1 := (iN_inj (b := 1) (by omega) (by omega)).mp e
    obtain ⟨v, v1, v2, ev⟩ := hl b (Nat.le_refl _) (by omega)
    have eb := mraw hB (by omega) (by omega) ev
    rw [hM.1 8 (by omega), iN_clamp (by omega), eb]
    refine tt_chk (iN_inb (by omega) (by omega)) ?_
    rw [show iN v - (97 : Int32) = iN (v - 97) from iN_sub (b := 97) v1]
    exact h33 _ (by omega)
  · unfold f_X8_cardPart_33
    rw [if_pos rfl]
    exact h53
theorem mdeck_t (hB : By n s0) (h : Md n s0 t s) {m : Nat} (hz : MG m (s.2.2.1 1)) : Tot (f_X8_deckPart NN s) (Pm n s0 t s) := by
  have h40 : ∀ {m r}, MG m r → m ≤ 40 := fun hg => by
    obtain ⟨C, R, P, H, M, T, V, w, q, D, E⟩ := hg
    exact D.2.2.2.2.2.2.2.2.1
  have hm := h40 hz
  unfold f_X8_deckPart f_X8_deckPart_0
  refine tlk1 (fun j u => ∃ m k, m + j = 40 ∧ t ≤ k ∧ Md n s0 k u ∧ MG m (u.2.2.1 1) ∧ u.1 14 = s.1 14 ∧ (u.1 12 = 0 → s.1 12 = 0)) (fun j u hI self hs => ?_) NN (40 - m) _ (show 40 - m < 100000 by omega) ⟨m, t, by omega, Nat.le_refl _, h, hz, rfl, fun e => e⟩
  obtain ⟨m, k, hmj, htk, hM, hG, a14, a12⟩ := hI
  unfold F_X8_deckPart_0
  refine tt_ob (mcard_t hB hM hG) (fun x hx => ?_)
  obtain ⟨⟨k1, hk1, M1⟩, b14, b12⟩ := hx
  refine tt_ite (fun e => ?_) (fun e => tt_some ⟨⟨k1, by omega, M1⟩, b14.trans a14, fun z => absurd z e⟩)
  obtain ⟨q1, q2, q3⟩ := b12 e
  refine tt_ob (mnext_t hB M1) (fun y hy => ?_)
  obtain ⟨g, -, k2, hk2, M2, -⟩ := hy
  refine tt_ob (tt_any (in_t y.1 (lo := 97) (hi := 122) (by omega) (by omega))) (fun z _ => tt_ite (fun _ => tt_some ⟨⟨k2, by omega, M2⟩, g.2.1.trans (b14.trans a14), fun _ => ⟨a12 q1, m + 1, by rw [g.2.2.1]; exact q3⟩⟩) (fun _ => ?_))
  exact hs (j - 1) _ (by omega) ⟨m + 1, k2, by omega, by omega, M2, by rw [g.2.2.1]; exact q3, g.2.1.trans (b14.trans a14), fun _ => a12 q1⟩
theorem MG_set {m : Nat} {r : Nat → Int32} (hz : MG m r) : (∀ V, 1 ≤ V → V ≤ 5 → MG m (upd r 8 (iN V))) ∧ (∀ M T, 1 ≤ M → M ≤ 9 → T ≤ M → MG m (upd (upd r 6 (iN M)) 7 (iN T))) ∧ ∀ i x, i < 9 → x ≤ 99 → MG m (upd r (18 + i) (iN x)) := by
  obtain ⟨C, R, P, H, M0, T0, V0, w, q, D, E⟩ := hz
  obtain ⟨x0, x1, x2, x3, x4, x6, x7, x8, x18, x27, xr⟩ := E
  obtain ⟨d1, d2, d3, d4, d5, d6, d7, d8, d9, d10, d11, d12, d13, d14, d15, d16, d17⟩ := D
  refine ⟨fun V h1 h5 => ⟨C, R, P, H, M0, T0, V, w, q, ⟨d1, d2, d3, d4, d5, d6, d7, d8, d9, d10, d11, d12, h1, h5, d15, d16, d17⟩, ?_⟩, fun M T h1 h9 hT => ⟨C, R, P, H, M, T, V0, w, q, ⟨d1, d2, d3, d4, d5, d6, d7, d8, d9, h1, h9, hT, d13, d14, d15, d16, d17⟩, ?_⟩, fun i x hi hx => ⟨C, R, P, H, M0, T0, V0, fun k => if k = i then x else w k, q, ⟨d1, d2, d3, d4, d5, d6, d7, d8, d9, d10, d11, d12, d13, d14, fun k hk => ?_, d16, d17⟩, ?_⟩⟩
  · have e : ∀ k, k ≠ 8 → upd r 8 (iN V) k = r k := fun k hk => by rw [upd_at, if_neg hk]
    exact ⟨(e 0 (by omega)).trans x0, (e 1 (by omega)).trans x1, (e 2 (by omega)).trans x2, (e 3 (by omega)).trans x3, (e 4 (by omega)).trans x4, (e 6 (by omega)).trans x6, (e 7 (by omega)).trans x7, by rw [upd_at, if_pos rfl], fun k hk => (e _ (by omega)).trans (x18 k hk), fun k hk => (e _ (by omega)).trans (x27 k hk), fun k hk h => (e k (by omega)).trans (xr k hk h)⟩
  · have e : ∀ k, k ≠ 6 → k ≠ 7 → upd (upd r 6 (iN M)) 7 (iN T) k = r k := fun k h6 h7 => by rw [upd_at, if_neg h7, upd_at, if_neg h6]
    exact ⟨(e 0 (by omega) (by omega)).trans x0, (e 1 (by omega) (by omega)).trans x1, (e 2 (by omega) (by omega)).trans x2, (e 3 (by omega) (by omega)).trans x3, (e 4 (by omega) (by omega)).trans x4, by rw [upd_at, if_neg (by omega), upd_at, if_pos rfl], by rw [upd_at, if_pos rfl], (e 8 (by omega) (by omega)).trans x8, fun k hk => (e _ (by omega) (by omega)).trans (x18 k hk), fun k hk => (e _ (by omega) (by omega)).trans (x27 k hk), fun k hk h => (e k (by omega) (by omega)).trans (xr k hk h)⟩
  · show (if k = i then x else w k) ≤ 99
    split
    · exact hx
    · exact d15 k hk
  · have e : ∀ k, k ≠ 18 + i → upd r (18 + i) (iN x) k = r k := fun k hk => by rw [upd_at, if_neg hk]
    refine ⟨(e 0 (by omega)).trans x0, (e 1 (by omega)).trans x1, (e 2 (by omega)).trans x2, (e 3 (by omega)).trans x3, (e 4 (by omega)).trans x4, (e 6 (by omega)).trans x6, (e 7 (by omega)).trans x7, (e 8 (by omega)).trans x8, fun k hk => ?_, fun k hk => (e _ (by omega)).trans (x27 k hk), fun k hk h => (e k (by omega)).trans (xr k hk h)⟩
    show _ = iN (if k = i then x else w k)
    by_cases c : k = i
    · rw [c, upd_at, if_pos rfl, if_pos rfl]
    · rw [e _ (by omega), if_neg c]
      exact x18 k hk
theorem mtimes_t (hB : By n s0) (h : Md n s0 t s) {m : Nat} (hz : MG m (s.2.2.1 1)) {p : Nat} (hp : p ≤ 1) : Tot (f_X8_wordPart NN s (iN p)) (Pm n s0 t s) := by
  have h45 : ∀ (p1 t1 : Int32) (v i : Nat) (t2 : Nat) (u : Ob), i < 9 → f_X8_wordAt NN t1 (iN v) = some (iN (18 + i)) → t ≤ t2 → Mg n s0 t s u → Md n s0 t2 u → Tot (f_X8_wordPart_45 NN p1 (iN v) t1 u) (Pm n s0 t s) := fun p1 t1 v i t2 u hi ew ht2 g hM => by
    unfold f_X8_wordPart_45
    rw [ew, ob_some]
    refine tt_ob (mnumber_t (lo := 0) (hi := 99) hB hM (by omega) (by omega)) (fun x hx => ?_)
    obtain ⟨g2, y, ey, y1, y2⟩ := hx
    have g3 := mg_trans g ht2 g2
    obtain ⟨⟨t3, k3, M3⟩, c14, c1, c12⟩ := g3
    rw [iN_clamp (by omega), ey]
    refine tt_chk (iN_inb (by omega) (by omega)) (tt_some ⟨⟨t3, k3, md_sa M3 _⟩, c14, fun e => ⟨c12 e, m, ?_⟩⟩)
    show MG m (upd (x.2.2.2.1 1) (18 + i) (iN y))
    rw [c1]
    exact (MG_set hz).2.2 i y hi (by omega)
  obtain ⟨C, R, P, H, M0, T0, V0, w, q, D, E⟩ := id hz
  have c1 := D.1
  have c4 := D.2.1
  have r1 := D.2.2.1
  have r5 := D.2.2.2.1
  unfold f_X8_wordPart
  rcases (show p = 0 ∨ p = 1 by omega) with rfl | rfl
  · rw [if_pos (show iN 0 = 0 from rfl), E.2.1]
    refine tt_ob (mnumber_t (lo := 1) (hi := R) hB h (by omega) (by omega)) (fun x hx => ?_)
    obtain ⟨g, v, ev, v1, v2⟩ := hx
    obtain ⟨t2, k2, M2⟩ := g.1
    unfold f_X8_wordPart_31
    rw [if_pos (show iN 0 = 0 from rfl), ev]
    refine h45 _ _ v (4 + v - 1) t2 _ (by omega) ?_ k2 g M2
    unfold f_X8_wordAt
    rw [if_neg (by decide)]
    show some (iN 22 + iN v - iN 1) = _
    rw [iN_add, iN_sub (by omega)]
    congr 2
    omega
  · rw [if_neg (show ¬ iN 1 = 0 by decide), E.1, show iN C - (1 : Int32) = iN (C - 1) from iN_sub (b := 1) c1]
    refine tt_ob (mnumber_t (lo := 0) (hi := C - 1) hB h (by omega) (by omega)) (fun x hx => ?_)
    obtain ⟨g, v, ev, v1, v2⟩ := hx
    obtain ⟨t2, k2, M2⟩ := g.1
    unfold f_X8_wordPart_31
    rw [if_neg (show ¬ iN 1 = 0 by decide), ev]
    refine h45 _ _ v v t2 _ (by omega) ?_ k2 g M2
    unfold f_X8_wordAt
    rw [if_pos rfl]
    exact congrArg some (iN_add 18 v)
theorem mstatement_t (hB : By n s0) (h : Md n s0 t s) (h14 : ∃ st, st < 2 ^ 30 ∧ s.1 14 = iN st) (h0 : s.1 14 = 0 → MZ (s.2.2.1 1)) (h7 : ¬ s.1 14 = 0 → ∃ m, MG m (s.2.2.1 1)) : Tot (f_X8_statement NN s) (Pm n s0 t s) := by
  unfold f_X8_statement
  refine tt_ob (mreads_t hB h) (fun x hx => ?_)
  obtain ⟨g, b, k, htb, hbk, hM, e11, -⟩ := hx
  have htk : t ≤ k := by omega
  have W : ∀ l b', l < 1000 → Tot (f_X8_isWord NN l b' x) Ya := fun l b' hl => mword_t hB hM e11 hbk l hl b'
  have hfail : Tot (ob (f_X8_fails NN x (1 : Int32)) fun y => some y) (Pm n s0 t s) := tt_ob (mfails_t (k := 1) hM (by omega)) (fun y hy => tt_some (pm_err (mg_trans g htk hy.1) hy.2.1))
  refine tt_ob (W 4 _ (by omega)) (fun x2 _ => tt_ite (fun _ => tt_ite (fun _ => hfail) (fun hne => ?_)) (fun _ => ?_))
  · rw [g.2.1] at hne
    obtain ⟨m, hz⟩ := h7 hne
    have hz' : MG m (x.2.2.1 1) := by rw [g.2.2.1]; exact hz
    refine tt_ob (W 4 _ (by omega)) (fun x3 _ => tt_ite (fun _ => tt_ob (W 6 _ (by omega)) (fun x4 _ => tt_ite (fun _ => tt_ob (W 5 _ (by omega)) (fun x5 _ => tt_ite (fun _ => tt_ob (W 5 _ (by omega)) (fun x6 _ => tt_ite (fun _ => tt_ob (W 4 _ (by omega)) (fun x7 _ => tt_ite (fun _ => tt_ob (W 7 _ (by omega)) (fun x8 _ => tt_ite (fun _ => hfail) (fun _ => ?_))) (fun _ => ?_))) (fun _ => ?_))) (fun _ => ?_))) (fun _ => ?_))) (fun _ => ?_))
    · refine tt_ob (mnumber_t (lo := 0) (hi := 999999) hB hM (by omega) (by omega)) (fun y hy => ?_)
      obtain ⟨g2, v, ev, v1, v2⟩ := hy
      obtain ⟨⟨t3, k3, M3⟩, c14, c1, c12⟩ := mg_trans g htk g2
      obtain ⟨m1, m2, m3, m4, m5, m6, m7, m8⟩ := M3
      refine tt_some ⟨⟨t3, k3, m1, m2, m3, fun i hi => ?_, m5, m6, m7, Or.inr ⟨v, by omega, ev⟩⟩, c14, fun e => ⟨c12 e, m, by show MG m (y.2.2.2.1 1); rw [c1]; exact hz⟩⟩
      show (if i = 15 then _ else y.2.1 i) = _
      rw [if_neg (by omega)]
      exact m4 i hi
    · exact tt_ob (mtimes_t (p := 0) hB hM hz' (by omega)) (fun y hy => tt_some (pm_of g htk hy))
    · exact tt_ob (mtimes_t (p := 1) hB hM hz' (by omega)) (fun y hy => tt_some (pm_of g htk hy))
    · refine tt_ob (mnumber_t (lo := 1) (hi := 5) hB hM (by omega) (by omega)) (fun y hy => ?_)
      obtain ⟨g2, v, ev, v1, v2⟩ := hy
      obtain ⟨⟨t3, k3, M3⟩, c14, c1, c12⟩ := mg_trans g htk g2
      refine tt_some ⟨⟨t3, k3, md_sa M3 _⟩, c14, fun e => ⟨c12 e, m, ?_⟩⟩
      show MG m (upd (y.2.2.2.1 1) 8 y.1)
      rw [c1, ev]
      exact (MG_set hz).1 v v1 (by omega)
    · refine tt_ob (mnumber_t (lo := 1) (hi := 9) hB hM (by omega) (by omega)) (fun y hy => ?_)
      obtain ⟨g2, v, ev, v1, v2⟩ := hy
      obtain ⟨⟨t3, k3, M3⟩, c14, c1, c12⟩ := mg_trans g htk g2
      rw [ev, show upd (y.2.2.2.1 1) 6 (iN v) 6 = iN v by rw [upd_at, if_pos rfl]]
      refine tt_ob (mnumber_t (lo := 0) (hi := v) hB (md_sa M3 _) (by omega) (by omega)) (fun z hz3 => ?_)
      obtain ⟨⟨⟨t4, k4, M4⟩, f14, f1, f12⟩, T, eT, T1, T2⟩ := hz3
      refine tt_some ⟨⟨t4, by omega, md_sa M4 _⟩, f14.trans c14, fun e => ⟨c12 (f12 e), m, ?_⟩⟩
      show MG m (upd (z.2.2.2.1 1) 7 z.1)
      rw [f1, eT]
      show MG m (upd (upd (y.2.2.2.1 1) 6 (iN v)) 7 (iN T))
      rw [c1]
      exact (MG_set hz).2.1 v T v1 (by omega) (by omega)
    · exact tt_ob (mdeck_t hB hM hz') (fun y hy => tt_some (pm_of g htk hy))
  · refine tt_ob (mgame_t hB hM (fun e => ?_) (by rw [g.2.1]; exact h14)) (fun y hy => tt_some (pm_of g htk hy))
    rw [g.2.2.1]
    exact h0 (by rw [← g.2.1]; exact e)
end MRE
