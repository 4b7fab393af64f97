/-! OWN: the search of the model comes to its end -/
/-- how many bits of a long are set from one on -/
def pcL (x : Int64) (c : Nat) : Nat := sumN (fun i => if c ≤ i ∧ bitL x i = true then 1 else 0) 64
theorem pc_step (x : Int64) {c : Nat} (hc : c < 64) : pcL x c = pcL x (c + 1) + (if bitL x c = true then 1 else 0) := by
  have h := sumN_upd (f := fun i => if c ≤ i ∧ bitL x i = true then 1 else 0) (g := fun i => if c + 1 ≤ i ∧ bitL x i = true then 1 else 0) (j := c) hc (fun k _ hk => by
    have e : (c + 1 ≤ k ∧ bitL x k = true) ↔ (c ≤ k ∧ bitL x k = true) := ⟨fun q => ⟨by omega, q.2⟩, fun q => ⟨by omega, q.2⟩⟩
    by_cases q : c ≤ k ∧ bitL x k = true
    · exact (if_pos (e.mpr q)).trans (if_pos q).symm
    · exact (if_neg (fun w => q (e.mp w))).trans (if_neg q).symm)
  have e2 : (if c + 1 ≤ c ∧ bitL x c = true then (1 : Nat) else 0) = 0 := if_neg (fun q => absurd q.1 (by omega))
  have e1 : (if c ≤ c ∧ bitL x c = true then (1 : Nat) else 0) = (if bitL x c = true then 1 else 0) := by
    by_cases q : bitL x c = true
    · rw [if_pos q, if_pos ⟨Nat.le_refl _, q⟩]
    · rw [if_neg q, if_neg (fun w => q w.2)]
  have h2 : pcL x (c + 1) + (if c ≤ c ∧ bitL x c = true then (1 : Nat) else 0) = pcL x c + (if c + 1 ≤ c ∧ bitL x c = true then (1 : Nat) else 0) := h
  rw [e1, e2] at h2
  omega
theorem pc_one (x : Int64) (i : Nat) : (if 0 ≤ i ∧ bitL x i = true then (1 : Nat) else 0) = if bitL x i = true then 1 else 0 := by
  by_cases q : bitL x i = true
  · rw [if_pos q, if_pos ⟨Nat.zero_le _, q⟩]
  · rw [if_neg q, if_neg (fun w => q w.2)]
theorem pc_upd {x y : Int64} {n : Nat} (hn : n < 64) (h : ∀ i, i < 64 → i ≠ n → bitL y i = bitL x i) : pcL y 0 + (if bitL x n = true then 1 else 0) = pcL x 0 + (if bitL y n = true then 1 else 0) := by
  have h2 := sumN_upd (f := fun i => if 0 ≤ i ∧ bitL x i = true then 1 else 0) (g := fun i => if 0 ≤ i ∧ bitL y i = true then 1 else 0) (j := n) hn (fun k hk hkn => by
    show (if 0 ≤ k ∧ bitL y k = true then 1 else 0) = (if 0 ≤ k ∧ bitL x k = true then 1 else 0)
    rw [h k hk hkn])
  have h3 : pcL y 0 + (if 0 ≤ n ∧ bitL x n = true then (1 : Nat) else 0) = pcL x 0 + (if 0 ≤ n ∧ bitL y n = true then (1 : Nat) else 0) := h2
  rw [pc_one, pc_one] at h3
  exact h3
theorem pc_set (x : Int64) {n : Nat} (hn : n < 64) : pcL (x ||| ((1 : Int64) <<< ((iN n).toInt64 &&& 63))) 0 ≤ pcL x 0 + 1 := by
  have h := pc_upd (x := x) (y := x ||| ((1 : Int64) <<< ((iN n).toInt64 &&& 63))) hn (fun i hi hne => by
    rw [bitL_or, bitL_1shl hn hi, decide_eq_false hne, Bool.or_false])
  have : (if bitL (x ||| ((1 : Int64) <<< ((iN n).toInt64 &&& 63))) n = true then 1 else 0) ≤ 1 := by
    split <;> omega
  omega
theorem pc_clr (x : Int64) {n : Nat} (hn : n < 64) : pcL (x &&& (((1 : Int64) <<< ((iN n).toInt64 &&& 63)) ^^^ (-1 : Int64))) 0 + (if bitL x n = true then 1 else 0) = pcL x 0 := by
  have h := pc_upd (x := x) (y := x &&& (((1 : Int64) <<< ((iN n).toInt64 &&& 63)) ^^^ (-1 : Int64))) hn (fun i hi hne => by
    rw [bitL_and, bitL_cmpl _ _ hi, bitL_1shl hn hi, decide_eq_false hne, Bool.not_false, Bool.and_true])
  have e : bitL (x &&& (((1 : Int64) <<< ((iN n).toInt64 &&& 63)) ^^^ (-1 : Int64))) n = false := by
    rw [bitL_and, bitL_cmpl _ _ hn, bitL_1shl hn hn, decide_eq_true rfl, Bool.not_true, Bool.and_false]
  have e3 : (if (false : Bool) = true then (1 : Nat) else 0) = 0 := if_neg (by decide)
  rw [e, e3] at h
  omega
theorem pc_zero : pcL 0 0 = 0 := sumN_zero fun k hk => by
  show (if 0 ≤ k ∧ bitL 0 k = true then 1 else 0) = 0
  rw [bitL_zero, if_neg (fun q => absurd q.2 (by decide))]
/-- what a search leaves as it was; what a change of the position made leaves -/
def Fr (s s' : Ob) : Prop := (∀ k, k ≠ 20 → k ≠ 21 → k ≠ 24 → s'.2.2.1 k = s.2.2.1 k) ∧ ∀ k, k < 22 ∨ 29 ≤ k → s'.1 k = s.1 k
def Pf (s s' : Ob) : Prop := (∀ k, k ≠ 24 → s'.2.2.1 k = s.2.2.1 k) ∧ (∀ k, k ≠ 23 → s'.2.2.2 k = s.2.2.2 k) ∧ ∀ k, k < 25 ∨ 29 ≤ k → s'.1 k = s.1 k
theorem fr_refl (s : Ob) : Fr s s := ⟨fun _ _ _ _ => rfl, fun _ _ => rfl⟩
theorem fr_trans {s t u : Ob} (h : Fr s t) (g : Fr t u) : Fr s u := ⟨fun k h1 h2 h3 => (g.1 k h1 h2 h3).trans (h.1 k h1 h2 h3), fun k hk => (g.2 k hk).trans (h.2 k hk)⟩
theorem pf_refl (s : Ob) : Pf s s := ⟨fun _ _ => rfl, fun _ _ => rfl, fun _ _ => rfl⟩
theorem pf_trans {s t u : Ob} (h : Pf s t) (g : Pf t u) : Pf s u := ⟨fun k h1 => (g.1 k h1).trans (h.1 k h1), fun k h1 => (g.2.1 k h1).trans (h.2.1 k h1), fun k hk => (g.2.2 k hk).trans (h.2.2 k hk)⟩
theorem pf_fr {s t : Ob} (h : Pf s t) : Fr s t := ⟨fun k _ _ h3 => h.1 k h3, fun k hk => h.2.2 k (by omega)⟩
theorem pf_si (s : Ob) {k : Nat} (v : Int32) (h : 25 ≤ k ∧ k < 29) : Pf s (si s k v) := ⟨fun _ _ => rfl, fun _ _ => rfl, fun j hj => by
  show (if j = k then v else s.1 j) = s.1 j
  rw [if_neg (by omega)]⟩
theorem pf_sa (s : Ob) (f : Nat → Int32) : Pf s (sa s 24 f) := ⟨fun j hj => by
  show (if j = 24 then f else s.2.2.1 j) = _
  rw [if_neg hj], fun _ _ => rfl, fun _ _ => rfl⟩
theorem pf_sb (s : Ob) (f : Nat → Int64) : Pf s (sb s 23 f) := ⟨fun _ _ => rfl, fun j hj => by
  show (if j = 23 then f else s.2.2.2 j) = _
  rw [if_neg hj], fun _ _ => rfl⟩
def RW (a : Gm) (L : Nat → Int32) (s : Ob) : Prop := wfG a ∧ 2 ≤ a 2 ∧ a 10 < 4 ∧ encR a L (s.2.2.1 0)
theorem rw_fr {a : Gm} {L : Nat → Int32} {s t : Ob} (h : RW a L s) (g : Fr s t) : RW a L t := ⟨h.1, h.2.1, h.2.2.1, by rw [g.1 0 (by omega) (by omega) (by omega)]; exact h.2.2.2⟩
/-- the positions that are stored; the one that is made -/
def STm (n : Nat) (s : Ob) : Prop := n ≤ 4020 ∧ s.1 22 = iN n ∧ (∀ k, k < n → ∃ r, r < 117440512 ∧ s.2.2.1 20 k = iN r) ∧ (∀ k p, k < n → p < 4 → pcL (s.2.2.2 19 (4 * k + p)) 0 ≤ 6) ∧ (∀ k, k < 16384 → s.2.2.1 21 k = -1 ∨ ∃ m, m < n ∧ s.2.2.1 21 k = iN m) ∧ sumN (fun k => if s.2.2.1 21 k = -1 then 0 else 1) 16384 ≤ n
def MPm (s : Ob) : Prop := (∀ p, p < 4 → pcL (s.2.2.2 23 p) 0 ≤ 6) ∧ (∀ c, c < 4 → ∃ v, v < 8 ∧ s.2.2.1 24 c = iN v) ∧ ∃ t n u l, t < 16 ∧ n < 64 ∧ u < 4 ∧ l < 7 ∧ s.1 25 = iN t ∧ s.1 26 = iN n ∧ s.1 27 = iN u ∧ s.1 28 = iN l - 1
theorem st_pf {n : Nat} {s t : Ob} (h : STm n s) (g : Pf s t) : STm n t := by
  obtain ⟨h1, h2, h3, h4, h5, h6⟩ := h
  have e20 := g.1 20 (by omega)
  have e21 := g.1 21 (by omega)
  have e19 := g.2.1 19 (by omega)
  refine ⟨h1, by rw [g.2.2 22 (by omega)]; exact h2, ?_, ?_, ?_, ?_⟩
  · rw [e20]; exact h3
  · rw [e19]; exact h4
  · rw [e21]; exact h5
  · rw [e21]; exact h6
theorem m1p1 (l : Nat) : iN l - 1 + (1 : Int32) = iN l := by
  rw [Int32.sub_add_cancel]
theorem mpack {s : Ob} (h : MPm s) : ∃ r, r < 117440512 ∧ f_X8_packed NN s = some (iN r) := by
  obtain ⟨-, hp, t, n, u, l, ht, hn, hu, hl, e5, e6, e7, e8⟩ := h
  have key : Tot (f_X8_packed NN s) (fun v => ∃ r, r < 117440512 ∧ v = iN r) := by
    unfold f_X8_packed
    rw [e8, m1p1, e7, e6, e5]
    show Tot (f_X8_packed_38 NN s NN ((16 : Int32) * ((64 : Int32) * ((4 : Int32) * iN l + iN u) + iN n) + iN t) (0 : Int32)) _
    have e0 : (16 : Int32) * ((64 : Int32) * ((4 : Int32) * iN l + iN u) + iN n) + iN t = iN (16 * (64 * (4 * l + u) + n) + t) := by
      show iN 16 * (iN 64 * (iN 4 * iN l + iN u) + iN n) + iN t = _
      rw [iN_mul, iN_add, iN_mul, iN_add, iN_mul, iN_add]
    rw [e0]
    unfold f_X8_packed_38
    refine tlk2 (fun j v c => ∃ k r, k + j = 4 ∧ c = iN k ∧ v = iN r ∧ r < 28672 * 8 ^ k) (fun j v c hI self hs => ?_) NN 4 _ _ (Nat.le_of_ble_eq_true rfl) ⟨0, _, rfl, rfl, rfl, by omega⟩
    obtain ⟨k, r, hk, rfl, rfl, hr⟩ := hI
    unfold F_X8_packed_38
    refine tt_ite (fun h => tt_some ⟨r, ?_, rfl⟩) (fun h => ?_)
    · have h4 : 4 ≤ k := (iN_le (a := 4) (by omega) (by omega)).mp h
      have : k = 4 := by omega
      subst this
      omega
    · have h4 := nle (c := 4) (by omega) (by omega) h
      obtain ⟨v, hv, ev⟩ := hp k h4
      refine tt_chk (iN_inb h4 (by omega)) (hs (j - 1) _ _ (by omega) ⟨k + 1, 8 * r + v, by omega, inc1 k, ?_, ?_⟩)
      · rw [iN_clamp (by omega), ev]
        show iN 8 * iN r + iN v = _
        rw [iN_mul, iN_add]
      · rw [Nat.pow_succ]
        omega
  obtain ⟨_, h1, r, hr, rfl⟩ := key
  exact ⟨r, hr, h1⟩
theorem msame_t {n : Nat} (s : Ob) {m : Nat} (hn : n ≤ 4020) (hm : m < n) (p : Int32) : Tot (f_X8_isSame NN s (iN m) p) Ya := by
  have key : ∀ b : Int32, (b = 0 ∨ b = 1) → Tot (f_X8_isSame_19 NN s (iN m) p NN b (0 : Int32)) Ya := fun b hb => by
    unfold f_X8_isSame_19
    refine tlk2 (fun j v c => Cn 4 j c ∧ (v = 0 ∨ v = 1)) (fun j v c hI self hs => ?_) NN 4 _ _ (Nat.le_of_ble_eq_true rfl) ⟨cn_0 4, hb⟩
    obtain ⟨⟨k, hk, rfl⟩, hv⟩ := hI
    unfold F_X8_isSame_19
    refine tt_ite (fun h => tt_chk (decide_eq_true hv) (tt_some trivial)) (fun h => tt_ite (fun _ => tt_chk (decide_eq_true hv) (tt_some trivial)) (fun _ => ?_))
    have h4 := nle (c := 4) (by omega) (by omega) h
    have e : (4 : Int32) * iN m + iN k = iN (4 * m + k) := by
      show iN 4 * iN m + iN k = _
      rw [iN_mul, iN_add]
    rw [e]
    exact tt_chk (iN_inb (by omega) (by omega)) (tt_chk (iN_inb h4 (by omega)) (tt_ite (fun _ => hs (j - 1) _ _ (by omega) ⟨⟨k + 1, by omega, inc1 k⟩, Or.inr rfl⟩) (fun _ => hs (j - 1) _ _ (by omega) ⟨⟨k + 1, by omega, inc1 k⟩, Or.inl rfl⟩)))
  unfold f_X8_isSame
  exact tt_chk (iN_inb (by omega) (by omega)) (tt_ite (fun _ => key 1 (Or.inr rfl)) (fun _ => key 0 (Or.inl rfl)))
/-- adding keeps what is stored below n -/
def Kp (n : Nat) (s s' : Ob) : Prop := (∀ k, k < n → s'.2.2.1 20 k = s.2.2.1 20 k) ∧ ∀ j, j < 4 * n → s'.2.2.2 19 j = s.2.2.2 19 j
theorem kp_refl (n : Nat) (s : Ob) : Kp n s s := ⟨fun _ _ => rfl, fun _ _ => rfl⟩
theorem kp_trans {n m : Nat} {s t u : Ob} (hnm : n ≤ m) (h : Kp n s t) (g : Kp m t u) : Kp n s u := ⟨fun k hk => (g.1 k (by omega)).trans (h.1 k hk), fun j hj => (g.2 j (by omega)).trans (h.2 j hj)⟩
theorem kp_pf {n : Nat} {s t : Ob} (g : Pf s t) : Kp n s t := ⟨fun k _ => by rw [g.1 20 (by omega)], fun j _ => by rw [g.2.1 19 (by omega)]⟩
theorem full_no {s : Ob} {n st : Nat} (h : STm n s) (hall : ∀ i, i < 16384 → ¬ s.2.2.1 21 ((st + i) % 16384) = -1) : False := by
  have h6 := h.2.2.2.2.2
  have h1 := h.1
  have e : sumN (fun k => if s.2.2.1 21 k = -1 then 0 else 1) 16384 = sumN (fun _ => 1) 16384 := sumN_congr fun k hk => by
    refine if_neg fun q => ?_
    refine hall ((k + (16384 - st % 16384)) % 16384) (Nat.mod_lt _ (by omega)) ?_
    rw [show (st + (k + (16384 - st % 16384)) % 16384) % 16384 = k by omega]
    exact q
  have e2 : ∀ n, sumN (fun _ => 1) n = n := fun n => by
    induction n with
    | zero => rfl
    | succ n ih =>
      show sumN (fun _ => 1) n + 1 = n + 1
      rw [ih]
  rw [e, e2] at h6
  omega
theorem adds127_t {s : Ob} {n : Nat} {w : Nat} (hn : n < 4020) (e22 : s.1 22 = iN n) : Tot (f_X8_adds_127 NN NN (0 : Int32) s) (fun s' => s'.1 22 = iN (n + 1) ∧ s'.2.2.1 = s.2.2.1 ∧ (∀ k, k ≠ 22 → s'.1 k = s.1 k) ∧ (∀ k, k ≠ 19 → s'.2.2.2 k = s.2.2.2 k) ∧ ∀ j, s'.2.2.2 19 j = if 4 * n ≤ j ∧ j < 4 * n + 4 then s.2.2.2 23 (j - 4 * n) else s.2.2.2 19 j) := by
  unfold f_X8_adds_127
  refine tlk2 (fun j v s' => ∃ k, k + j = 4 ∧ v = iN k ∧ s'.1 = s.1 ∧ s'.2.2.1 = s.2.2.1 ∧ (∀ k, k ≠ 19 → s'.2.2.2 k = s.2.2.2 k) ∧ ∀ i, s'.2.2.2 19 i = if 4 * n ≤ i ∧ i < 4 * n + k then s.2.2.2 23 (i - 4 * n) else s.2.2.2 19 i) (fun j v s' hI self hs => ?_) NN 4 _ _ (Nat.le_of_ble_eq_true rfl) ⟨0, rfl, rfl, rfl, rfl, fun _ _ => rfl, fun i => (if_neg (by omega)).symm⟩
  obtain ⟨k, hk, rfl, e1, e2, e3, e4⟩ := hI
  unfold F_X8_adds_127
  refine tt_ite (fun h => tt_some ?_) (fun h => ?_)
  · have h4 : 4 ≤ k := (iN_le (a := 4) (by omega) (by omega)).mp h
    have : k = 4 := by omega
    subst this
    refine ⟨?_, e2, fun q hq => ?_, e3, e4⟩
    · show s'.1 22 + 1 = _
      rw [e1, e22]
      exact inc1 n
    · show (if q = 22 then _ else s'.1 q) = _
      rw [if_neg hq, e1]
  · have h4 := nle (c := 4) (by omega) (by omega) h
    have e : (4 : Int32) * s'.1 22 + iN k = iN (4 * n + k) := by
      rw [e1, e22]
      show iN 4 * iN n + iN k = _
      rw [iN_mul, iN_add]
    rw [e, iN_clamp (k := 4 * n + k) (by omega), iN_clamp (k := k) (by omega)]
    refine tt_chk (iN_inb h4 (by omega)) (tt_chk (iN_inb (by omega) (by omega)) (hs (j - 1) _ _ (by omega) ⟨k + 1, by omega, inc1 k, e1, e2, fun q hq => ?_, fun i => ?_⟩))
    · show (if q = 19 then _ else s'.2.2.2 q) = _
      rw [if_neg hq, e3 q hq]
    · show vp_updL (s'.2.2.2 19) (4 * n + k) (s'.2.2.2 23 k) i = _
      unfold vp_updL
      rw [e3 23 (by omega)]
      by_cases c : i = 4 * n + k
      · rw [if_pos c, if_pos (by omega), show i - 4 * n = k by omega]
      · rw [if_neg c, e4 i]
        by_cases c2 : 4 * n ≤ i ∧ i < 4 * n + k
        · rw [if_pos c2, if_pos (by omega)]
        · rw [if_neg c2, if_neg (by omega)]
theorem adds91_t {s : Ob} {n r m : Nat} (hS : STm n s) (hn : n < 4020) (hP : MPm s) (hr : r < 117440512) (hm : m < 16384) : Tot (f_X8_adds_91 NN (iN r) (iN m) s) (fun s' => Fr s s' ∧ Kp n s s' ∧ ∃ n', n ≤ n' ∧ n' ≤ n + 1 ∧ STm n' s') := by
  obtain ⟨h1, h2, h3, h4, h5, h6⟩ := hS
  unfold f_X8_adds_91
  refine tt_chk (iN_inb hm (by omega)) (tt_ite (fun hf => tt_chk (iN_inb hm (by omega)) ?_) (fun _ => tt_some ⟨fr_refl s, kp_refl n s, n, Nat.le_refl _, by omega, h1, h2, h3, h4, h5, h6⟩))
  rw [iN_clamp (by omega)] at hf ⊢
  show Tot (chk _ (f_X8_adds_127 NN NN (0 : Int32) (sa (sa s 21 (upd (s.2.2.1 21) m (s.1 22))) 20 (upd ((sa s 21 (upd (s.2.2.1 21) m (s.1 22))).2.2.1 20) (s.1 22).toNatClampNeg (iN r))))) _
  rw [h2, iN_clamp (by omega)]
  refine tt_chk (iN_inb hn (by omega)) (tt_mono (adds127_t (n := n) (w := 0) hn h2) fun s' hs' => ?_)
  obtain ⟨k1, k2, k3, k4, k5⟩ := hs'
  have a20 : s'.2.2.1 20 = upd (s.2.2.1 20) n (iN r) := by rw [k2]; rfl
  have a21 : s'.2.2.1 21 = upd (s.2.2.1 21) m (iN n) := by rw [k2]; rfl
  refine ⟨⟨fun k h20 h21 _ => ?_, fun k hk => k3 k (by omega)⟩, ⟨fun k hk => ?_, fun j hj => ?_⟩, n + 1, by omega, by omega, by omega, k1, fun k hk => ?_, fun k p hk hp => ?_, fun k hk => ?_, ?_⟩
  · rw [k2]
    show (if k = 20 then _ else if k = 21 then _ else s.2.2.1 k) = _
    rw [if_neg h20, if_neg h21]
  · rw [a20, upd_at, if_neg (by omega)]
  · rw [k5, if_neg (by omega)]
    rfl
  · rw [a20, upd_at]
    by_cases c : k = n
    · rw [if_pos c]
      exact ⟨r, hr, rfl⟩
    · rw [if_neg c]
      exact h3 k (by omega)
  · rw [k5]
    by_cases c : k = n
    · subst c
      rw [if_pos (by omega), show 4 * k + p - 4 * k = p by omega]
      exact hP.1 p hp
    · rw [if_neg (by omega)]
      exact h4 k p (by omega) hp
  · rw [a21, upd_at]
    by_cases c : k = m
    · rw [if_pos c]
      exact Or.inr ⟨n, by omega, rfl⟩
    · rw [if_neg c]
      rcases h5 k hk with q | ⟨v, hv, q⟩
      · exact Or.inl q
      · exact Or.inr ⟨v, by omega, q⟩
  · have e := sumN_upd (f := fun k => if s.2.2.1 21 k = -1 then 0 else 1) (g := fun k => if s'.2.2.1 21 k = -1 then 0 else 1) (j := m) hm (fun k _ hkm => by
      show (if s'.2.2.1 21 k = -1 then 0 else 1) = (if s.2.2.1 21 k = -1 then 0 else 1)
      rw [a21, upd_at, if_neg hkm])
    have b : (if s'.2.2.1 21 m = -1 then 0 else 1) ≤ 1 := by
      split <;> omega
    have e2 : sumN (fun k => if s'.2.2.1 21 k = -1 then 0 else 1) 16384 + (if s.2.2.1 21 m = -1 then 0 else 1) = sumN (fun k => if s.2.2.1 21 k = -1 then 0 else 1) 16384 + (if s'.2.2.1 21 m = -1 then 0 else 1) := e
    omega
theorem and14 (x : Int32) : ∃ t, t < 16384 ∧ x &&& (16383 : Int32) = iN t := and_mask x (b := 14)
theorem and14n (k : Nat) (h : k < 2 ^ 30) : iN k &&& (16383 : Int32) = iN (k % 16384) := bit_ext fun i hi => by
  have e1 : (16383 : Int32) = iN (2 ^ 14 - 1) := by decide
  have h2 : (k % 16384).testBit i = (decide (i < 14) && k.testBit i) := Nat.testBit_mod_two_pow k 14 i
  rw [e1, bit_and, bit_iN _ _ hi, bit_iN _ _ hi, bit_iN _ _ hi, Nat.testBit_two_pow_sub_one, h2, Bool.and_comm]
theorem adds_t {s : Ob} {n : Nat} (hS : STm n s) (hn : n < 4020) (hP : MPm s) : Tot (f_X8_adds NN s) (fun s' => Fr s s' ∧ Kp n s s' ∧ ∃ n', n ≤ n' ∧ n' ≤ n + 1 ∧ STm n' s') := by
  obtain ⟨r, hr, er⟩ := mpack hP
  unfold f_X8_adds
  rw [er, ob_some]
  unfold f_X8_adds_11
  refine tlk4 (fun j v _ c s' => v = iN r ∧ Cn 4 j c ∧ s' = s) (fun j v w c s' hI self hs => ?_) NN 4 _ _ _ _ (Nat.le_of_ble_eq_true rfl) ⟨rfl, cn_0 4, rfl⟩
  obtain ⟨rfl, ⟨k, hk, rfl⟩, rfl⟩ := hI
  unfold F_X8_adds_11
  refine tt_ite (fun _ => ?_) (fun h => ?_)
  · rw [znm_eq]
    obtain ⟨st, hst, est⟩ := and14 ((w * (25214903917 : Int64)).toUInt64 >>> (((40 : Int32)).toInt64.toUInt64 &&& Int64.toUInt64 63)).toInt64.toInt32
    rw [est]
    unfold f_X8_adds_52
    refine tlk3 (fun i v c t => v = iN r ∧ t = s' ∧ ∃ q, q + i = 16384 ∧ c = iN ((st + q) % 16384) ∧ ∀ p, p < q → ¬ s'.2.2.1 21 ((st + p) % 16384) = -1) (fun i v c t hI2 self2 hs2 => ?_) NN 16384 _ _ _ (Nat.le_of_ble_eq_true rfl) ⟨rfl, rfl, 0, rfl, by rw [Nat.add_zero, Nat.mod_eq_of_lt hst], fun p hp => absurd hp (Nat.not_lt_zero _)⟩
    obtain ⟨rfl, rfl, q, hq, rfl, hall⟩ := hI2
    have hm : (st + q) % 16384 < 16384 := Nat.mod_lt _ (by omega)
    unfold F_X8_adds_52
    refine tt_chk (iN_inb hm (by omega)) (tt_ite (fun _ => adds91_t hS hn hP hr hm) (fun hne => tt_chk (iN_inb hm (by omega)) ?_))
    rw [iN_clamp (by omega)] at hne ⊢
    rcases hS.2.2.2.2.1 _ hm with hz | ⟨m, hmn, em⟩
    · exact absurd hz hne
    rw [em]
    refine tt_ob (msame_t t hS.1 hmn _) (fun x _ => tt_ite (fun _ => ?_) (fun _ => adds91_t hS hn hP hr hm))
    rw [inc1, and14n _ (by omega)]
    have hall2 : ∀ p, p < q + 1 → ¬ t.2.2.1 21 ((st + p) % 16384) = -1 := fun p hp => by
      by_cases c : p = q
      · subst c
        exact hne
      · exact hall p (by omega)
    by_cases hz : i = 0
    · exact (full_no (st := st) hS fun p hp => hall2 p (by omega)).elim
    · exact hs2 (i - 1) _ _ _ (by omega) ⟨rfl, rfl, q + 1, by omega, by rw [show ((st + q) % 16384 + 1) % 16384 = (st + (q + 1)) % 16384 by omega], hall2⟩
  · have h4 := nle (c := 4) (by omega) (by omega) h
    exact tt_chk (iN_inb h4 (by omega)) (hs (j - 1) _ _ _ _ (by omega) ⟨rfl, ⟨k + 1, by omega, inc1 k⟩, rfl⟩)
