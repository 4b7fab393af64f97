/-! OWN: load of the model: the shuffle, the game that begins, the whole -/
theorem EnM_swap {C R P H m M T V : Nat} {w q : Nat → Nat} {r : Nat → Int32} (E : EnM C R P H m M T V w q r) {j o : Nat} (hj : j < 40) (ho : o < 40) : EnM C R P H m M T V w (swapQ q j o) (upd (upd r (27 + j) (r (27 + o))) (27 + o) (r (27 + j))) := by
  obtain ⟨x0, x1, x2, x3, x4, x6, x7, x8, x18, x27, xr⟩ := E
  have e : ∀ k, k ≠ 27 + j → k ≠ 27 + o → upd (upd r (27 + j) (r (27 + o))) (27 + o) (r (27 + j)) k = r k := fun k h1 h2 => by rw [upd_at, if_neg h2, upd_at, if_neg h1]
  refine ⟨(e 0 (by omega) (by omega)).trans x0, (e 1 (by omega) (by omega)).trans x1, (e 2 (by omega) (by omega)).trans x2, (e 3 (by omega) (by omega)).trans x3, (e 4 (by omega) (by omega)).trans x4, (e 6 (by omega) (by omega)).trans x6, (e 7 (by omega) (by omega)).trans x7, (e 8 (by omega) (by omega)).trans x8, fun k hk => (e _ (by omega) (by omega)).trans (x18 k hk), fun k hk => ?_, fun k hk h => (e k (by omega) (by omega)).trans (xr k hk h)⟩
  unfold swapQ
  rw [upd_at]
  by_cases c : k = o
  · rw [if_pos (by omega), if_pos c]
    exact x27 j hj
  · rw [if_neg (by omega), if_neg c, upd_at]
    by_cases c2 : k = j
    · rw [if_pos (by omega), if_pos c2]
      exact x27 o ho
    · rw [if_neg (by omega), if_neg c2]
      exact x27 k hk
/-- only the row that is read differs -/
def R1 (s s' : Ob) : Prop := s'.1 = s.1 ∧ s'.2.1 = s.2.1 ∧ s'.2.2.2 = s.2.2.2 ∧ ∀ k, k ≠ 1 → s'.2.2.1 k = s.2.2.1 k
theorem r1_sa {s u : Ob} (h : R1 s u) (f : Nat → Int32) : R1 s (sa u 1 f) := ⟨h.1, h.2.1, h.2.2.1, fun k hk => by
  show (if k = 1 then f else u.2.2.1 k) = _
  rw [if_neg hk]
  exact h.2.2.2 k hk⟩
theorem mshuf_t {s : Ob} {C R P H m M T V : Nat} {w q : Nat → Nat} (D : Dl C R P H m M T V w q) (E : EnM C R P H m M T V w q (s.2.2.1 1)) (h1 : 1 ≤ m) (h15 : s.1 15 = -1 ∨ ∃ sd, sd ≤ 999999 ∧ s.1 15 = iN sd) : Tot (f_X8_shuffles NN s) (fun s' => R1 s s' ∧ ∃ q', Dl C R P H m M T V w q' ∧ EnM C R P H m M T V w q' (s'.2.2.1 1)) := by
  have h40 := D.2.2.2.2.2.2.2.2.1
  have hR0 : R1 s s := ⟨rfl, rfl, rfl, fun _ _ => rfl⟩
  unfold f_X8_shuffles
  rw [E.2.2.2.2.1, show iN m - (1 : Int32) = iN (m - 1) from iN_sub (b := 1) h1]
  rcases h15 with h15 | ⟨sd, hsd, h15⟩
  · unfold f_X8_shuffles_15
    refine tlk3 (fun _ _ _ u => u = s) (fun j v c u hI self hs => ?_) NN 0 _ _ _ (Nat.le_of_ble_eq_true rfl) rfl
    subst hI
    unfold F_X8_shuffles_15
    rw [if_pos h15]
    exact tt_ite (fun _ => tt_some ⟨hR0, q, D, E⟩) (fun _ => tt_some ⟨hR0, q, D, E⟩)
  · rw [h15, iN_toL (by omega)]
    unfold f_X8_shuffles_15
    refine tlk3 (fun j v c u => ∃ st k, st < 2 ^ 31 ∧ v = l64 st ∧ k < m ∧ c = iN k ∧ j = k ∧ R1 s u ∧ ∃ q', Dl C R P H m M T V w q' ∧ EnM C R P H m M T V w q' (u.2.2.1 1)) (fun j v c u hI self hs => ?_) NN (m - 1) _ _ _ (show m - 1 < 100000 by omega) ⟨sd, m - 1, by omega, rfl, by omega, rfl, rfl, hR0, q, D, E⟩
    obtain ⟨st, k, hst, rfl, hk, rfl, rfl, hR, q', D', E'⟩ := hI
    unfold F_X8_shuffles_15
    refine tt_ite (fun _ => tt_some ⟨hR, q', D', E'⟩) (fun h => tt_ite (fun _ => tt_some ⟨hR, q', D', E'⟩) (fun _ => ?_))
    have hj1 : 1 ≤ j := by
      rcases Nat.eq_zero_or_pos j with z | z
      · subst z
        exact absurd (show iN 0 ≤ 0 by decide) h
      · exact z
    obtain ⟨st', o, hst', ho, e1, e2⟩ := shuf (k := j) hst (by omega)
    rw [e1, znm_eq]
    refine tt_chk (decide_eq_true ?_) ?_
    · rw [inc1, iN_toL (by omega)]
      exact lN_ne0 (by omega) (by omega)
    rw [znm_eq, e2, show (27 : Int32) + iN j = iN (27 + j) from iN_add 27 j, show (27 : Int32) + iN o = iN (27 + o) from iN_add 27 o, iN_clamp (k := 27 + j) (by omega), iN_clamp (k := 27 + o) (by omega)]
    have i1 := iN_inb (show 27 + j < 358 by omega) (n := 358) (by omega)
    have i2 := iN_inb (show 27 + o < 358 by omega) (n := 358) (by omega)
    refine tt_chk i1 (tt_chk i2 (tt_chk i1 ?_))
    rw [znm_eq]
    refine tt_chk i2 ?_
    rw [show iN j + (-1 : Int32) = iN (j - 1) by rw [← iN_subm1 hj1, Int32.sub_eq_add_neg]]
    exact hs (j - 1) _ _ _ (by omega) ⟨st', j - 1, hst', rfl, by omega, rfl, rfl, r1_sa (r1_sa hR _) _, swapQ q' j o, Dl_swap D' hk (by omega), EnM_swap E' (by omega) (by omega)⟩
/-- the row while the game begins: kk masks written, j cards of player p and all of those before drawn -/
def gm (C R P H m M T V : Nat) (w q : Nat → Nat) (kk p j : Nat) : Nat → Nat := fun i =>
  if i = 5 then p * H + j else if 67 ≤ i ∧ i < 107 then (if i - 67 < kk then 2 ^ C - 1 else 0) else if 107 ≤ i ∧ i < 147 then (if i - 107 < kk then 2 ^ R - 1 else 0) else if 187 ≤ i ∧ i < 191 then (if i - 187 < p then H else if i - 187 = p then j else 0) else if 191 ≤ i ∧ i < 211 then (if ((i - 191) / 5 < p ∧ (i - 191) % 5 < H) ∨ ((i - 191) / 5 = p ∧ (i - 191) % 5 < j) then (i - 191) / 5 * H + (i - 191) % 5 else 0) else bg C R P H m M T V w q i
def Gr (g : Nat → Nat) (r : Nat → Int32) : Prop := (∀ i, i < 358 → i ≠ 9 → r i = iN (g i)) ∧ r 9 = -1
theorem gr_up {g g' : Nat → Nat} {r : Nat → Int32} {k v : Nat} (h : Gr g r) (hk : k ≠ 9) (e : ∀ i, i < 358 → i ≠ 9 → g' i = if i = k then v else g i) : Gr g' (upd r k (iN v)) := by
  refine ⟨fun i hi h9 => ?_, ?_⟩
  · rw [upd_at, e i hi h9]
    by_cases c : i = k
    · rw [if_pos c, if_pos c]
    · rw [if_neg c, if_neg c]
      exact h.1 i hi h9
  · rw [upd_at, if_neg (fun z => hk z.symm)]
    exact h.2
theorem pow_c : ∀ C : Fin 6, ((1 : Int32) <<< (iN C.val &&& 31)) - (1 : Int32) = iN (2 ^ C.val - 1) := by decide
section MBG
variable {C R P H m M T V : Nat} {w q : Nat → Nat}
theorem bg_hi {i : Nat} (h : 211 ≤ i) : bg C R P H m M T V w q i = 0 := bg_z (by omega)
theorem gm_start {r : Nat → Int32} (E : EnM C R P H m M T V w q r) : Gr (gm C R P H m M T V w q 0 0 0) (upd r 9 (-1)) := by
  obtain ⟨x0, x1, x2, x3, x4, x6, x7, x8, x18, x27, xr⟩ := E
  refine ⟨fun i hi h9 => ?_, by rw [upd_at, if_pos rfl]⟩
  rw [upd_at, if_neg h9]
  unfold gm
  by_cases c5 : i = 5
  · rw [if_pos c5, c5, Nat.zero_mul]
    exact xr 5 (by omega) (Or.inl rfl)
  rw [if_neg c5]
  by_cases c1 : 67 ≤ i ∧ i < 107
  · rw [if_pos c1, if_neg (Nat.not_lt_zero _)]
    exact xr i hi (by omega)
  rw [if_neg c1]
  by_cases c2 : 107 ≤ i ∧ i < 147
  · rw [if_pos c2, if_neg (Nat.not_lt_zero _)]
    exact xr i hi (by omega)
  rw [if_neg c2]
  by_cases c3 : 187 ≤ i ∧ i < 191
  · rw [if_pos c3, if_neg (Nat.not_lt_zero _)]
    have : (if i - 187 = 0 then 0 else 0) = 0 := by split <;> rfl
    rw [this]
    exact xr i hi (by omega)
  rw [if_neg c3]
  by_cases c4 : 191 ≤ i ∧ i < 211
  · rw [if_pos c4, if_neg (by omega)]
    exact xr i hi (by omega)
  rw [if_neg c4]
  rcases (show i < 9 ∨ (10 ≤ i ∧ i < 18) ∨ (18 ≤ i ∧ i < 27) ∨ (27 ≤ i ∧ i < 67) ∨ (147 ≤ i ∧ i < 187) ∨ 211 ≤ i by omega) with c | c | c | c | c | c
  · rcases (show i = 0 ∨ i = 1 ∨ i = 2 ∨ i = 3 ∨ i = 4 ∨ i = 6 ∨ i = 7 ∨ i = 8 by omega) with rfl | rfl | rfl | rfl | rfl | rfl | rfl | rfl
    · exact x0
    · exact x1
    · exact x2
    · exact x3
    · exact x4
    · exact x6
    · exact x7
    · exact x8
  · rw [bg_z (by omega)]
    exact xr i hi (by omega)
  · have e : i = 18 + (i - 18) := by omega
    rw [e, bg_w (by omega)]
    exact x18 _ (by omega)
  · have e : i = 27 + (i - 27) := by omega
    rw [e, bg_q (by omega)]
    exact x27 _ (by omega)
  · rw [bg_z (by omega)]
    exact xr i hi (by omega)
  · rw [bg_z (by omega)]
    exact xr i hi (by omega)
theorem gm_low {kk p j i : Nat} (h : i < 67) (h5 : i ≠ 5) : gm C R P H m M T V w q kk p j i = bg C R P H m M T V w q i := by
  unfold gm
  rw [if_neg h5, if_neg (by omega), if_neg (by omega), if_neg (by omega), if_neg (by omega)]
theorem gm_mask {kk : Nat} (hk : kk < 40) {p j : Nat} : (∀ i, i < 358 → i ≠ 9 → gm C R P H m M T V w q (kk + 1) p j i = if i = 107 + kk then 2 ^ R - 1 else (if i = 67 + kk then 2 ^ C - 1 else gm C R P H m M T V w q kk p j i)) := by
  intro i hi h9
  unfold gm
  by_cases c1 : 67 ≤ i ∧ i < 107
  · rw [if_neg (show ¬ i = 107 + kk by omega), if_neg (show ¬ i = 5 by omega), if_pos c1, if_neg (show ¬ i = 5 by omega), if_pos c1]
    by_cases c : i = 67 + kk
    · rw [if_pos c, if_pos (by omega)]
    · rw [if_neg c]
      by_cases d : i - 67 < kk
      · rw [if_pos d, if_pos (by omega)]
      · rw [if_neg d, if_neg (by omega)]
  · by_cases c2 : 107 ≤ i ∧ i < 147
    · rw [if_neg (show ¬ i = 5 by omega), if_neg c1, if_pos c2, if_neg (show ¬ i = 5 by omega), if_neg c1, if_pos c2]
      by_cases c : i = 107 + kk
      · rw [if_pos c, if_pos (by omega)]
      · rw [if_neg c, if_neg (show ¬ i = 67 + kk by omega)]
        by_cases d : i - 107 < kk
        · rw [if_pos d, if_pos (by omega)]
        · rw [if_neg d, if_neg (by omega)]
    · rw [if_neg (show ¬ i = 107 + kk by omega), if_neg (show ¬ i = 67 + kk by omega)]
      by_cases c5 : i = 5
      · rw [if_pos c5, if_pos c5]
      · rw [if_neg c5, if_neg c5, if_neg c1, if_neg c1, if_neg c2, if_neg c2]
theorem gm_draw {p j : Nat} (hp : p < 4) (hj : j < 5) (hjH : j < H) : (∀ i, i < 358 → i ≠ 9 → gm C R P H m M T V w q 40 p (j + 1) i = if i = 5 then p * H + j + 1 else (if i = 187 + p then j + 1 else (if i = 191 + (5 * p + j) then p * H + j else gm C R P H m M T V w q 40 p j i))) := by
  intro i hi h9
  unfold gm
  by_cases c5 : i = 5
  · rw [if_pos c5, if_pos c5]
    rfl
  rw [if_neg c5, if_neg c5, if_neg c5]
  by_cases c3 : 187 ≤ i ∧ i < 191
  · rw [if_neg (show ¬ (67 ≤ i ∧ i < 107) by omega), if_neg (show ¬ (107 ≤ i ∧ i < 147) by omega), if_pos c3, if_neg (show ¬ i = 191 + (5 * p + j) by omega), if_neg (show ¬ (67 ≤ i ∧ i < 107) by omega), if_neg (show ¬ (107 ≤ i ∧ i < 147) by omega), if_pos c3]
    by_cases c : i = 187 + p
    · rw [if_pos c, if_neg (by omega), if_pos (by omega)]
    · rw [if_neg c]
      by_cases d : i - 187 < p
      · rw [if_pos d, if_pos d]
      · rw [if_neg d, if_neg d, if_neg (by omega), if_neg (by omega)]
  · by_cases c4 : 191 ≤ i ∧ i < 211
    · rw [if_neg (show ¬ (67 ≤ i ∧ i < 107) by omega), if_neg (show ¬ (107 ≤ i ∧ i < 147) by omega), if_neg c3, if_pos c4, if_neg (show ¬ i = 187 + p by omega), if_neg (show ¬ (67 ≤ i ∧ i < 107) by omega), if_neg (show ¬ (107 ≤ i ∧ i < 147) by omega), if_neg c3, if_pos c4]
      by_cases c : i = 191 + (5 * p + j)
      · rw [if_pos c, if_pos (by omega), show (i - 191) / 5 = p by omega, show (i - 191) % 5 = j by omega]
      · rw [if_neg c]
        by_cases d : ((i - 191) / 5 < p ∧ (i - 191) % 5 < H) ∨ ((i - 191) / 5 = p ∧ (i - 191) % 5 < j)
        · rw [if_pos d, if_pos (by omega)]
        · rw [if_neg d, if_neg (by omega)]
    · rw [if_neg (show ¬ i = 187 + p by omega), if_neg (show ¬ i = 191 + (5 * p + j) by omega)]
      rw [if_neg c3, if_neg c4, if_neg c3, if_neg c4]
theorem gm_next {p : Nat} (i : Nat) (hp : p < 4) : gm C R P H m M T V w q 40 p H i = gm C R P H m M T V w q 40 (p + 1) 0 i := by
  unfold gm
  by_cases c5 : i = 5
  · rw [if_pos c5, if_pos c5, Nat.succ_mul]
    rfl
  rw [if_neg c5, if_neg c5]
  by_cases c1 : 67 ≤ i ∧ i < 107
  · rw [if_pos c1, if_pos c1]
  rw [if_neg c1, if_neg c1]
  by_cases c2 : 107 ≤ i ∧ i < 147
  · rw [if_pos c2, if_pos c2]
  rw [if_neg c2, if_neg c2]
  by_cases c3 : 187 ≤ i ∧ i < 191
  · rw [if_pos c3, if_pos c3]
    by_cases d : i - 187 < p
    · rw [if_pos d, if_pos (by omega)]
    · by_cases d2 : i - 187 = p
      · rw [if_neg d, if_pos d2, if_pos (by omega)]
      · rw [if_neg d, if_neg d2, if_neg (by omega)]
        split <;> rfl
  rw [if_neg c3, if_neg c3]
  by_cases c4 : 191 ≤ i ∧ i < 211
  · rw [if_pos c4, if_pos c4]
    by_cases d : ((i - 191) / 5 < p ∧ (i - 191) % 5 < H) ∨ ((i - 191) / 5 = p ∧ (i - 191) % 5 < H)
    · rw [if_pos d, if_pos (by omega)]
    · rw [if_neg d, if_neg (by omega)]
  rw [if_neg c4, if_neg c4]
theorem gm_end (D : Dl C R P H m M T V w q) {i : Nat} (hi : i < 358) (h9 : i ≠ 9) : gm C R P H m M T V w q 40 P 0 i = bg C R P H m M T V w q i := by
  have d6 := D.2.2.2.2.2.1
  have d8 := D.2.2.2.2.2.2.2.1
  unfold gm
  by_cases c5 : i = 5
  · rw [if_pos c5, c5]
    rfl
  rw [if_neg c5]
  by_cases c1 : 67 ≤ i ∧ i < 107
  · have e : i = 67 + (i - 67) := by omega
    rw [if_pos c1, if_pos (by omega), e, bg_c (by omega)]
  rw [if_neg c1]
  by_cases c2 : 107 ≤ i ∧ i < 147
  · have e : i = 107 + (i - 107) := by omega
    rw [if_pos c2, if_pos (by omega), e, bg_r (by omega)]
  rw [if_neg c2]
  by_cases c3 : 187 ≤ i ∧ i < 191
  · have e : i = 187 + (i - 187) := by omega
    rw [if_pos c3]
    have e2 : bg C R P H m M T V w q i = if i - 187 < P then H else 0 := by
      rw [e, bg_s (by omega), show 187 + (i - 187) - 187 = i - 187 by omega]
    rw [e2]
    by_cases d : i - 187 < P
    · rw [if_pos d, if_pos d]
    · rw [if_neg d, if_neg d]
      split <;> rfl
  rw [if_neg c3]
  by_cases c4 : 191 ≤ i ∧ i < 211
  · have e : i = 191 + (5 * ((i - 191) / 5) + (i - 191) % 5) := by omega
    have e2 : bg C R P H m M T V w q i = if (i - 191) / 5 < P ∧ (i - 191) % 5 < H then (i - 191) / 5 * H + (i - 191) % 5 else 0 := by
      have := bg_h' (C := C) (R := R) (P := P) (H := H) (m := m) (M := M) (T := T) (V := V) (w := w) (q := q) (p := (i - 191) / 5) (j := (i - 191) % 5) (by omega) (Nat.mod_lt _ (by omega))
      rw [← e] at this
      exact this
    rw [if_pos c4, e2]
    by_cases d : (i - 191) / 5 < P ∧ (i - 191) % 5 < H
    · rw [if_pos (Or.inl d), if_pos d]
    · rw [if_neg (by omega), if_neg d]
  rw [if_neg c4]
/-- what the load of the model leaves: all but the game, the row read, the numbers of the reading -/
def Lf (s s' : Ob) : Prop := (∀ k, k ≠ 0 → k ≠ 1 → s'.2.2.1 k = s.2.2.1 k) ∧ ∀ k, k < 6 ∨ k = 8 ∨ 18 ≤ k → s'.1 k = s.1 k
def R0w (s s' : Ob) : Prop := s'.1 = s.1 ∧ ∀ k, k ≠ 0 → s'.2.2.1 k = s.2.2.1 k
theorem r0_sa {s u : Ob} (h : R0w s u) (f : Nat → Int32) : R0w s (sa u 0 f) := ⟨h.1, fun k hk => by
  show (if k = 0 then f else u.2.2.1 k) = _
  rw [if_neg hk]
  exact h.2 k hk⟩
theorem mdraw_t (D : Dl C R P H m M T V w q) (hm : P * H ≤ m) {s0 s : Ob} {p j : Nat} (hp : p < P) (hj : j < H) (hR : R0w s0 s) (hG : Gr (gm C R P H m M T V w q 40 p j) (s.2.2.1 0)) : Tot (f_X8_draws NN s (iN p)) (fun s' => R0w s0 s' ∧ Gr (gm C R P H m M T V w q 40 p (j + 1)) (s'.2.2.1 0)) := by
  have d6 := D.2.2.2.2.2.1
  have d8 := D.2.2.2.2.2.2.2.1
  have d9 := D.2.2.2.2.2.2.2.2.1
  have hlt := ph_lt hp hj
  have e4 : s.2.2.1 0 4 = iN m := (hG.1 4 (by omega) (by omega)).trans (congrArg iN (gm_low (by omega) (by omega)))
  have e5 : s.2.2.1 0 5 = iN (p * H + j) := hG.1 5 (by omega) (by omega)
  have e187 : s.2.2.1 0 (187 + p) = iN j := (hG.1 (187 + p) (by omega) (by omega)).trans (congrArg iN (by
    unfold gm
    rw [if_neg (by omega), if_neg (by omega), if_neg (by omega), if_pos (by omega), if_neg (by omega), if_pos (by omega)]))
  unfold f_X8_draws
  rw [e4, e5, if_neg (fun z => absurd ((iN_le (by omega) (by omega)).mp z) (by omega)), show (187 : Int32) + iN p = iN (187 + p) from iN_add 187 p, iN_clamp (k := 187 + p) (by omega), e187, znm_eq]
  have i1 := iN_inb (show 187 + p < 358 by omega) (n := 358) (by omega)
  have ex : (191 : Int32) + (5 : Int32) * iN p + iN j = iN (191 + (5 * p + j)) := by
    show iN 191 + iN 5 * iN p + iN j = _
    rw [iN_mul, iN_add, iN_add, Nat.add_assoc]
  rw [ex, iN_clamp (k := 191 + (5 * p + j)) (by omega)]
  refine tt_chk i1 (tt_chk (iN_inb (by omega) (by omega)) (tt_chk i1 ?_))
  rw [znm_eq, znm_eq]
  refine tt_chk i1 ?_
  rw [znm_eq, znm_eq]
  have a1 : upd (s.2.2.1 0) (191 + (5 * p + j)) (iN (p * H + j)) (187 + p) = iN j := by rw [upd_at, if_neg (by omega), e187]
  have a2 : upd (upd (s.2.2.1 0) (191 + (5 * p + j)) (iN (p * H + j))) (187 + p) (iN (j + 1)) 5 = iN (p * H + j) := by rw [upd_at, if_neg (by omega), upd_at, if_neg (by omega), e5]
  refine tt_some ⟨r0_sa (r0_sa (r0_sa hR _) _) _, ?_⟩
  show Gr _ (upd (upd (upd (s.2.2.1 0) (191 + (5 * p + j)) (iN (p * H + j))) (187 + p) (upd (s.2.2.1 0) (191 + (5 * p + j)) (iN (p * H + j)) (187 + p) + 1)) 5 (upd (upd (s.2.2.1 0) (191 + (5 * p + j)) (iN (p * H + j))) (187 + p) (upd (s.2.2.1 0) (191 + (5 * p + j)) (iN (p * H + j)) (187 + p) + 1) 5 + 1))
  rw [a1, inc1, a2, inc1]
  have g0 := gr_up (g' := fun i => if i = 191 + (5 * p + j) then p * H + j else gm C R P H m M T V w q 40 p j i) hG (k := 191 + (5 * p + j)) (v := p * H + j) (by omega) (fun i _ _ => rfl)
  have g1 := gr_up (g' := fun i => if i = 187 + p then j + 1 else (if i = 191 + (5 * p + j) then p * H + j else gm C R P H m M T V w q 40 p j i)) g0 (k := 187 + p) (v := j + 1) (by omega) (fun i _ _ => rfl)
  exact gr_up g1 (k := 5) (v := p * H + j + 1) (by omega) (gm_draw (by omega) (by omega) hj)
theorem mbegin_t (D : Dl C R P H m M T V w q) (hm : P * H ≤ m) {s : Ob} (hG : Gr (gm C R P H m M T V w q 0 0 0) (s.2.2.1 0)) : Tot (f_X8_load_228 NN NN (0 : Int32) s) (fun z => R0w s z.2 ∧ encR (bg C R P H m M T V w q) (fun _ => 0) (z.2.2.2.1 0)) := by
  obtain ⟨d1, d2, d3, d4, d5, d6, d7, d8, d9, d10, d11, d12, d13, d14, d15, d16, d17⟩ := id D
  have hb : P * H ≤ 4 * 5 := Nat.mul_le_mul d6 d8
  have h280 : ∀ s', R0w s s' → Gr (gm C R P H m M T V w q 40 0 0) (s'.2.2.1 0) → Tot (f_X8_load_280 NN NN (0 : Int32) s') (fun z => R0w s z.2 ∧ encR (bg C R P H m M T V w q) (fun _ => 0) (z.2.2.2.1 0)) := fun s' hR hG => by
    unfold f_X8_load_280
    refine tlk2 (fun j v u => ∃ p, p + j = P ∧ v = iN p ∧ R0w s u ∧ Gr (gm C R P H m M T V w q 40 p 0) (u.2.2.1 0)) (fun j v u hI self hs => ?_) NN P _ _ (show P < 100000 by omega) ⟨0, by omega, rfl, hR, hG⟩
    obtain ⟨p, hp, rfl, hR, hG⟩ := hI
    have e2 : u.2.2.1 0 2 = iN P := (hG.1 2 (by omega) (by omega)).trans (congrArg iN (gm_low (by omega) (by omega)))
    have e3 : u.2.2.1 0 3 = iN H := (hG.1 3 (by omega) (by omega)).trans (congrArg iN (gm_low (by omega) (by omega)))
    have e4 : u.2.2.1 0 4 = iN m := (hG.1 4 (by omega) (by omega)).trans (congrArg iN (gm_low (by omega) (by omega)))
    have e5 : u.2.2.1 0 5 = iN (p * H + 0) := hG.1 5 (by omega) (by omega)
    unfold F_X8_load_280
    rw [e2]
    refine tt_ite (fun h => ?_) (fun h => ?_)
    · have hpP : P ≤ p := (iN_le (by omega) (by omega)).mp h
      have : p = P := by omega
      subst this
      have hrow : ∀ i, i < 358 → i ≠ 9 → u.2.2.1 0 i = iN (bg C R p H m M T V w q i) := fun i hi h9 => (hG.1 i hi h9).trans (congrArg iN (gm_end D hi h9))
      have b9 : bg C R p H m M T V w q 9 = if p * H = m then p + 1 else 0 := rfl
      rw [e5, e4]
      refine tt_ite (fun he => tt_some ⟨r0_sa hR _, fun k hk h9 => ?_, ?_, fun k hk => ?_⟩) (fun he => tt_some ⟨hR, fun k hk h9 => hrow k (by omega) h9, ?_, fun k hk => ?_⟩)
      · show upd (u.2.2.1 0) 9 (iN p) k = _
        rw [upd_at, if_neg h9]
        exact hrow k (by omega) h9
      · show upd (u.2.2.1 0) 9 (iN p) 9 = _
        have : p * H = m := (iN_inj (by omega) (by omega)).mp he
        rw [upd_at, if_pos rfl, b9, if_pos this, ← inc1, Int32.add_sub_cancel]
      · show upd (u.2.2.1 0) 9 (iN p) (238 + k) = _
        rw [upd_at, if_neg (by omega), hrow _ (by omega) (by omega), bg_hi (by omega)]
        rfl
      · have : ¬ p * H = m := fun z => he (by rw [z]; rfl)
        rw [hG.2, b9, if_neg this]
        decide
      · show u.2.2.1 0 (238 + k) = _
        rw [hrow _ (by omega) (by omega), bg_hi (by omega)]
        rfl
    · have hpP := nle (by omega) (by omega) h
      unfold f_X8_load_292
      refine tlk3 (fun i v c u => ∃ k, v = iN p ∧ k + i = H ∧ c = iN k ∧ R0w s u ∧ Gr (gm C R P H m M T V w q 40 p k) (u.2.2.1 0)) (fun i v c u hI self2 hs2 => ?_) NN H _ _ _ (show H < 100000 by omega) ⟨0, rfl, by omega, rfl, hR, hG⟩
      obtain ⟨k, rfl, hk, rfl, hR, hG⟩ := hI
      have e3 : u.2.2.1 0 3 = iN H := (hG.1 3 (by omega) (by omega)).trans (congrArg iN (gm_low (by omega) (by omega)))
      unfold F_X8_load_292
      rw [e3]
      refine tt_ite (fun h => ?_) (fun h => ?_)
      · have hkH : H ≤ k := (iN_le (by omega) (by omega)).mp h
        have : k = H := by omega
        subst this
        exact hs (j - 1) _ _ (by omega) ⟨p + 1, by omega, inc1 p, hR, ⟨fun i hi h9 => (hG.1 i hi h9).trans (congrArg iN (gm_next i (by omega))), hG.2⟩⟩
      · have hkH := nle (by omega) (by omega) h
        exact tt_ob (mdraw_t D hm hpP hkH hR hG) (fun x hx => hs2 (i - 1) _ _ _ (by omega) ⟨k + 1, rfl, by omega, inc1 k, hx.1, hx.2⟩)
  unfold f_X8_load_228
  refine tlk2 (fun j v u => ∃ k, k + j = 40 ∧ v = iN k ∧ R0w s u ∧ Gr (gm C R P H m M T V w q k 0 0) (u.2.2.1 0)) (fun j v u hI self hs => ?_) NN 40 _ _ (Nat.le_of_ble_eq_true rfl) ⟨0, rfl, rfl, ⟨rfl, fun _ _ => rfl⟩, hG⟩
  obtain ⟨k, hk, rfl, hR, hG⟩ := hI
  unfold F_X8_load_228
  refine tt_ite (fun h => ?_) (fun h => ?_)
  · have : k = 40 := by
      have := (iN_le (a := 40) (by omega) (by omega)).mp h
      omega
    subst this
    exact h280 u hR hG
  · have hk40 := nle (c := 40) (by omega) (by omega) h
    have e0 : u.2.2.1 0 0 = iN C := (hG.1 0 (by omega) (by omega)).trans (congrArg iN (gm_low (by omega) (by omega)))
    have e1 : u.2.2.1 0 1 = iN R := (hG.1 1 (by omega) (by omega)).trans (congrArg iN (gm_low (by omega) (by omega)))
    rw [e0, show ((1 : Int32) <<< (iN C &&& 31)) - (1 : Int32) = iN (2 ^ C - 1) from pow_c ⟨C, by omega⟩, show (67 : Int32) + iN k = iN (67 + k) from iN_add 67 k, show (107 : Int32) + iN k = iN (107 + k) from iN_add 107 k, iN_clamp (k := 67 + k) (by omega), iN_clamp (k := 107 + k) (by omega)]
    refine tt_chk (iN_inb (by omega) (by omega)) ?_
    rw [znm_eq, znm_eq, show upd (u.2.2.1 0) (67 + k) (iN (2 ^ C - 1)) 1 = iN R by rw [upd_at, if_neg (by omega), e1], show ((1 : Int32) <<< (iN R &&& 31)) - (1 : Int32) = iN (2 ^ R - 1) from pow_c ⟨R, by omega⟩, inc1]
    refine tt_chk (iN_inb (by omega) (by omega)) (hs (j - 1) _ _ (by omega) ⟨k + 1, by omega, rfl, r0_sa (r0_sa hR _) _, ?_⟩)
    have g0 := gr_up (g' := fun i => if i = 67 + k then 2 ^ C - 1 else gm C R P H m M T V w q k 0 0 i) hG (k := 67 + k) (v := 2 ^ C - 1) (by omega) (fun i _ _ => rfl)
    exact gr_up g0 (k := 107 + k) (v := 2 ^ R - 1) (by omega) (gm_mask hk40)
end MBG
theorem r0_lf {s u : Ob} (h : R0w s u) : Lf s u := ⟨fun k h0 _ => h.2 k h0, fun k _ => by rw [h.1]⟩
theorem lf_trans {s t u : Ob} (h : Lf s t) (g : Lf t u) : Lf s u := ⟨fun k h0 h1 => (g.1 k h0 h1).trans (h.1 k h0 h1), fun k hk => (g.2 k hk).trans (h.2 k hk)⟩
theorem lf_si (s : Ob) {k : Nat} (v : Int32) (h : (6 ≤ k ∧ k ≠ 8) ∧ k < 18) : Lf s (si s k v) := ⟨fun _ _ _ => rfl, fun j hj => by
  show (if j = k then v else s.1 j) = _
  rw [if_neg (by omega)]⟩
theorem lf_sa0 (s : Ob) (f : Nat → Int32) : Lf s (sa s 0 f) := ⟨fun j h0 _ => by
  show (if j = 0 then f else s.2.2.1 j) = _
  rw [if_neg h0], fun _ _ => rfl⟩
theorem lf_sa1 (s : Ob) (f : Nat → Int32) : Lf s (sa s 1 f) := ⟨fun j _ h1 => by
  show (if j = 1 then f else s.2.2.1 j) = _
  rw [if_neg h1], fun _ _ => rfl⟩
theorem lf_md {n t : Nat} {s0 s : Ob} (h : Md n s0 t s) : Lf s0 s := ⟨fun k _ h1 => h.1 k h1, fun k hk => h.2.2.2.1 k (by omega)⟩
theorem lf_r1 {s u : Ob} (h : R1 s u) : Lf s u := ⟨fun k _ h1 => h.2.2.2 k h1, fun k _ => by rw [h.1]⟩
/-- behind the load of the model: either nothing of the game has changed, or a new one begins -/
def Pl (s0 : Ob) (z : Int32 × Ob) : Prop := Lf s0 z.2 ∧ z.2.1 9 = 0 ∧ ((z.2.2.2.1 0 = s0.2.2.1 0 ∧ z.2.1 6 = s0.1 6) ∨ (z.2.1 6 = 0 ∧ ∃ a L, okG a ∧ encR a L (z.2.2.2.1 0)))
theorem mload93 {n : Nat} {s0 : Ob} (hB0 : By n s0) : ∀ (t : Nat) (s : Ob), Md n s0 t s → (∃ st, st + (n - t) < 700 ∧ s.1 14 = iN st) → (s.1 12 = 0 → ∃ m, MG m (s.2.2.1 1)) → Tot (f_X8_load_93 NN NN s) (Pl s0) := by
  have hn := hB0.1
  have h178 : ∀ (t : Nat) (s : Ob) (t1 : Int32), (Lf s0 s ∧ s.1 9 = 0 ∧ s.2.2.1 0 = s0.2.2.1 0 ∧ s.1 6 = s0.1 6) → (s.1 15 = -1 ∨ ∃ sd, sd ≤ 999999 ∧ s.1 15 = iN sd) → (s.1 12 = 0 → ∃ C R P H m M T V w q, Dl C R P H m M T V w q ∧ P * H ≤ m ∧ EnM C R P H m M T V w q (s.2.2.1 1)) → Tot (f_X8_load_178 NN t1 s) (Pl s0) := fun t s t1 hL h15 hz => by
    obtain ⟨l1, l2, l3, l4⟩ := hL
    unfold f_X8_load_178
    refine tt_ite (fun e => ?_) (fun _ => tt_some ⟨lf_trans l1 (lf_si s _ (by omega)), l2, Or.inl ⟨l3, l4⟩⟩)
    obtain ⟨C, R, P, H, m, M, T, V, w, q, D, hm, E⟩ := hz e
    have h1 : 1 ≤ P * H := Nat.mul_le_mul (show 1 ≤ P by have := D.2.2.2.2.1; omega) D.2.2.2.2.2.2.1
    refine tt_ob (mshuf_t (s := si s 17 t1) D E (by omega) h15) (fun x hx => ?_)
    obtain ⟨hR1, q', D', E'⟩ := hx
    rw [show f_X8_copies NN 358 358 (x.2.2.1 1) (x.2.2.1 0) (0 : Int32) (0 : Int32) = some (fun k => if 358 * 0 ≤ k ∧ k < 358 * 0 + 358 then x.2.2.1 1 (358 * 0 + (k - 358 * 0)) else x.2.2.1 0 k) from X8_copies_eq (p := 0) (q := 0) (by omega) (by omega) (by omega) (by omega), ob_some, znm_eq, znm_eq]
    have hE2 : EnM C R P H m M T V w q' (fun k => if 358 * 0 ≤ k ∧ k < 358 * 0 + 358 then x.2.2.1 1 (358 * 0 + (k - 358 * 0)) else x.2.2.1 0 k) := by
      have e2 : ∀ k, k < 358 → (fun k => if 358 * 0 ≤ k ∧ k < 358 * 0 + 358 then x.2.2.1 1 (358 * 0 + (k - 358 * 0)) else x.2.2.1 0 k) k = x.2.2.1 1 k := fun k hk => by
        show (if 358 * 0 ≤ k ∧ k < 358 * 0 + 358 then x.2.2.1 1 (358 * 0 + (k - 358 * 0)) else x.2.2.1 0 k) = _
        rw [if_pos (by omega), show 358 * 0 + (k - 358 * 0) = k by omega]
      obtain ⟨x0, x1, x2, x3, x4, x6, x7, x8, x18, x27, xr⟩ := E'
      exact ⟨(e2 0 (by omega)).trans x0, (e2 1 (by omega)).trans x1, (e2 2 (by omega)).trans x2, (e2 3 (by omega)).trans x3, (e2 4 (by omega)).trans x4, (e2 6 (by omega)).trans x6, (e2 7 (by omega)).trans x7, (e2 8 (by omega)).trans x8, fun k hk => (e2 _ (by omega)).trans (x18 k hk), fun k hk => (e2 _ (by omega)).trans (x27 k hk), fun k hk h => (e2 k hk).trans (xr k hk h)⟩
    generalize (fun k => if 358 * 0 ≤ k ∧ k < 358 * 0 + 358 then x.2.2.1 1 (358 * 0 + (k - 358 * 0)) else x.2.2.1 0 k) = F at hE2
    refine tt_mono (mbegin_t D' hm (s := sa (si (sa x 0 F) 6 0) 0 (upd ((si (sa x 0 F) 6 0).2.2.1 0) 9 (-1))) (gm_start hE2)) fun z hz2 => ?_
    have hLx : Lf s0 (sa (si (sa x 0 F) 6 0) 0 (upd ((si (sa x 0 F) 6 0).2.2.1 0) 9 (-1))) := lf_trans l1 (lf_trans (lf_si s t1 (k := 17) (by omega)) (lf_trans (lf_r1 hR1) (lf_trans (lf_sa0 x F) (lf_trans (lf_si _ (k := 6) 0 (by omega)) (lf_sa0 _ _)))))
    refine ⟨lf_trans hLx (r0_lf hz2.1), ?_, Or.inr ⟨?_, bg C R P H m M T V w q', fun _ => 0, bg_ok D' hm, hz2.2⟩⟩
    · rw [hz2.1.1]
      show x.1 9 = 0
      rw [hR1.1]
      exact l2
    · rw [hz2.1.1]
      rfl
  have h149 : ∀ (t : Nat) (s : Ob), Md n s0 t s → (s.1 12 = 0 → ∃ C R P H m M T V w q, Dl C R P H m M T V w q ∧ P * H ≤ m ∧ EnM C R P H m M T V w q (s.2.2.1 1)) → Tot (f_X8_load_149 NN s) (Pl s0) := fun t s hM hz => by
    have hL : Lf s0 (si (si s 9 (0 : Int32)) 16 (s.1 12)) := lf_trans (lf_md hM) (lf_trans (lf_si s (k := 9) _ (by omega)) (lf_si _ (k := 16) _ (by omega)))
    have hb : Lf s0 (si (si s 9 (0 : Int32)) 16 (s.1 12)) ∧ (si (si s 9 (0 : Int32)) 16 (s.1 12)).1 9 = 0 ∧ (si (si s 9 (0 : Int32)) 16 (s.1 12)).2.2.1 0 = s0.2.2.1 0 ∧ (si (si s 9 (0 : Int32)) 16 (s.1 12)).1 6 = s0.1 6 := ⟨hL, rfl, hM.1 0 (by omega), hM.2.2.2.1 6 (by omega)⟩
    unfold f_X8_load_149
    rw [znm_eq]
    exact tt_ite (fun _ => h178 t _ _ hb hM.2.2.2.2.2.2.2 hz) (fun _ => h178 t _ _ hb hM.2.2.2.2.2.2.2 hz)
  intro t s hM h14 hz
  · unfold f_X8_load_93
    refine tlk1 (fun j u => ∃ k st, j = n - k ∧ Md n s0 k u ∧ st + (n - k) < 700 ∧ u.1 14 = iN st ∧ (u.1 12 = 0 → ∃ m, MG m (u.2.2.1 1))) (fun j u hI self hs => ?_) NN (n - t) _ (show n - t < 100000 by omega) (by obtain ⟨st, hst, e⟩ := h14; exact ⟨t, st, rfl, hM, hst, e, hz⟩)
    obtain ⟨k, st, rfl, hM, hst, e14, hz⟩ := hI
    unfold F_X8_load_93
    have hmore : Tot (f_X8_isMore NN u) (fun z => ∃ k', k ≤ k' ∧ Md n s0 k' z.2 ∧ z.2.2.2.1 1 = u.2.2.1 1 ∧ (z.2.1 12 = 0 → u.1 12 = 0) ∧ (¬ z.1 = 0 → u.1 12 = 0 ∧ k < k' ∧ z.2.1 14 = iN (st + 1) ∧ z.2.1 12 = 0)) := by
      unfold f_X8_isMore
      refine tt_ite (fun e12 => tt_ob (mnext_t hB0 hM) (fun x hx => ?_)) (fun _ => tt_some ⟨k, Nat.le_refl _, hM, rfl, fun e => e, fun h => absurd rfl h⟩)
      obtain ⟨g, -, k2, hk2, M2, -, en12⟩ := hx
      refine tt_ite (fun _ => ?_) (fun _ => tt_some ⟨k2, hk2, M2, g.2.2.1, g.2.2.2, fun h => absurd rfl h⟩)
      rw [here_at hB0 M2, ob_some]
      refine tt_ite (fun e59 => ?_) (fun _ => tt_ob (mfails_t (k := 1) M2 (by omega)) (fun y hy => tt_some ⟨k2, hk2, hy.2.2, hy.1.2.2.1.trans g.2.2.1, fun e => absurd e hy.2.1, fun h => absurd rfl h⟩))
      have hlt : k2 < n := hrd_lt (B := s0.2.2.1 8) (by rw [e59]; decide)
      rw [znm_eq]
      have M3 := md_at M2 (by omega)
      obtain ⟨m1, m2, m3, m4, m5, m6, m7, m8⟩ := M3
      refine tt_some ⟨k2 + 1, by omega, ⟨m1, m2, m3, fun i hi => ?_, m5, m6, m7, m8⟩, g.2.2.1, g.2.2.2, fun _ => ⟨e12, by omega, ?_, ?_⟩⟩
      · show (if i = 14 then _ else (si x.2 10 (x.2.1 10 + 1)).1 i) = _
        rw [if_neg (by omega)]
        exact m4 i hi
      · show x.2.1 14 + 1 = _
        rw [g.2.1, e14, inc1]
      · show x.2.1 12 = 0
        rw [en12]
        exact e12
    refine tt_ob hmore (fun x hx => ?_)
    obtain ⟨k', hk', M', r1, r12, hne⟩ := hx
    refine tt_ite (fun _ => tt_ite (fun e => ?_) (fun he => h149 k' _ M' (fun e => absurd e he))) (fun hn0 => ?_)
    · obtain ⟨m, C, R, P, H, M, T, V, w, q, D, E⟩ := hz (r12 e)
      have d6 := D.2.2.2.2.2.1
      have d8 := D.2.2.2.2.2.2.2.1
      have d9 := D.2.2.2.2.2.2.2.2.1
      have hb : P * H ≤ 4 * 5 := Nat.mul_le_mul d6 d8
      rw [r1, E.2.2.1, E.2.2.2.1, E.2.2.2.2.1, iN_mul]
      refine tt_ite (fun h => h149 k' _ M' (fun _ => ⟨C, R, P, H, m, M, T, V, w, q, D, (iN_le (by omega) (by omega)).mp h, by rw [r1]; exact E⟩)) (fun _ => ?_)
      have M2 : Md n s0 k' (si x.2 11 (x.2.1 9)) := by
        obtain ⟨m1, m2, m3, m4, m5, m6, m7, m8⟩ := M'
        refine ⟨m1, m2, m3, fun i hi => ?_, m5, m6, trivial, m8⟩
        show (if i = 11 then _ else x.2.1 i) = _
        rw [if_neg (by omega)]
        exact m4 i hi
      exact tt_ob (mfails_t (k := 4) M2 (by omega)) (fun y hy => h149 k' _ hy.2.2 (fun e => absurd e hy.2.1))
    · obtain ⟨q1, q2, q3, q4⟩ := hne hn0
      have hk'n := M'.2.2.2.2.1
      have hst1 : ¬ x.2.1 14 = 0 := by
        rw [q3]
        exact fun z => absurd ((iN_inj (b := 0) (by omega) (by omega)).mp z) (by omega)
      refine tt_ob (mstatement_t hB0 M' ⟨st + 1, by omega, q3⟩ (fun z => absurd z hst1) (fun _ => by rw [r1]; exact hz q1)) (fun y hy => ?_)
      obtain ⟨⟨k2, hk2, M2⟩, y14, y12⟩ := hy
      have hk2n := M2.2.2.2.2.1
      exact hs (n - k2) _ (by omega) ⟨k2, st + 1, rfl, M2, by omega, y14.trans q3, fun e => (y12 e).2⟩
theorem mload_b {n : Nat} {s0 : Ob} (hB0 : By n s0) : Tot (f_X8_load_27 NN NN (0 : Int32) (si (si (si (si s0 10 0) 12 0) 14 0) 15 (-1))) (Pl s0) := by
  have hn := hB0.1
  unfold f_X8_load_27
  refine tlk2 (fun j v u => ∃ k, k + j = 358 ∧ v = iN k ∧ (∀ i, i ≠ 1 → u.2.2.1 i = s0.2.2.1 i) ∧ u.2.1 = s0.2.1 ∧ u.2.2.2 = s0.2.2.2 ∧ (∀ i, i < 10 ∨ 16 ≤ i → u.1 i = s0.1 i) ∧ u.1 10 = 0 ∧ u.1 14 = 0 ∧ u.1 15 = -1 ∧ ∀ i, i < k → u.2.2.1 1 i = if 18 ≤ i ∧ i < 27 then iN 99 else 0) (fun j v u hI self hs => ?_) NN 358 _ _ (Nat.le_of_ble_eq_true rfl) ⟨0, rfl, rfl, fun _ _ => rfl, rfl, rfl, fun i hi => ?_, rfl, rfl, rfl, fun i hi => absurd hi (Nat.not_lt_zero _)⟩
  rotate_left
  · show (if i = 15 then _ else if i = 14 then _ else if i = 12 then _ else if i = 10 then _ else s0.1 i) = _
    rw [if_neg (by omega), if_neg (by omega), if_neg (by omega), if_neg (by omega)]
  obtain ⟨k, hk, rfl, f1, f2, f3, f4, f10, f14, f15, fr⟩ := hI
  unfold F_X8_load_27
  refine tt_ite (fun h => ?_) (fun h => ?_)
  · have : k = 358 := by
      have := (iN_le (a := 358) (by omega) (by omega)).mp h
      omega
    subst this
    rw [znm_eq, znm_eq]
    have hM : Md n s0 0 (sa (sa (sa u 1 (upd (u.2.2.1 1) 6 8)) 1 (upd ((sa u 1 (upd (u.2.2.1 1) 6 8)).2.2.1 1) 7 8)) 1 (upd ((sa (sa u 1 (upd (u.2.2.1 1) 6 8)) 1 (upd ((sa u 1 (upd (u.2.2.1 1) 6 8)).2.2.1 1) 7 8)).2.2.1 1) 8 3)) := md_sa (md_sa (md_sa ⟨f1, f2, f3, f4, Nat.zero_le _, f10, trivial, Or.inl f15⟩ _) _) _
    have er : ∀ i, i < 358 → upd (upd (upd (u.2.2.1 1) 6 (8 : Int32)) 7 (8 : Int32)) 8 (3 : Int32) i = if i = 8 then 3 else if i = 7 then 8 else if i = 6 then 8 else if 18 ≤ i ∧ i < 27 then iN 99 else 0 := fun i hi => by
      rw [upd_at, upd_at, upd_at, fr i hi]
    have hZ : MZ (upd (upd (upd (u.2.2.1 1) 6 (8 : Int32)) 7 (8 : Int32)) 8 (3 : Int32)) := by
      refine ⟨er 4 (by omega), er 6 (by omega), er 7 (by omega), er 8 (by omega), fun i hi => ?_, fun i hi => ?_, fun i hi h => ?_⟩
      · rw [er _ (by omega), if_neg (by omega), if_neg (by omega), if_neg (by omega), if_pos (by omega)]
      · rw [er _ (by omega), if_neg (by omega), if_neg (by omega), if_neg (by omega), if_neg (by omega)]
        rfl
      · rw [er _ (by omega), if_neg (by omega), if_neg (by omega), if_neg (by omega), if_neg (by omega)]
    refine tt_ob (mstatement_t hB0 hM ⟨0, by omega, f14⟩ (fun _ => hZ) (fun hne => absurd f14 hne)) (fun y hy => ?_)
    obtain ⟨⟨t, ht, M⟩, y14, y12⟩ := hy
    exact mload93 hB0 t y M ⟨0, by omega, y14.trans f14⟩ (fun e => (y12 e).2)
  · have hk2 := nle (c := 358) (by omega) (by omega) h
    have h56 : ∀ x : Int32, x = (if 18 ≤ k ∧ k < 27 then iN 99 else 0) → Tot (f_X8_load_56 NN self (iN k) (iN k) x u) (Pl s0) := fun x hx => by
      unfold f_X8_load_56
      rw [iN_clamp (by omega), inc1]
      refine tt_chk (iN_inb hk2 (by omega)) (hs (j - 1) _ _ (by omega) ⟨k + 1, by omega, rfl, fun i hi => ?_, f2, f3, f4, f10, f14, f15, fun i hi => ?_⟩)
      · show (if i = 1 then _ else u.2.2.1 i) = _
        rw [if_neg hi]
        exact f1 i hi
      · show upd (u.2.2.1 1) k x i = _
        rw [upd_at]
        by_cases c : i = k
        · rw [if_pos c, c, hx]
        · rw [if_neg c]
          exact fr i (by omega)
    refine tt_ob (P := fun r => (r = 0 → ¬ (18 ≤ k ∧ k < 27)) ∧ (¬ r = 0 → 18 ≤ k ∧ k < 27)) ?_ (fun r hr2 => tt_ite (fun e => h56 0 (by rw [if_neg (hr2.1 e)])) (fun e => h56 99 (by rw [if_pos (hr2.2 e)]; rfl)))
    rw [X8_in_eq]
    by_cases c : k < 18
    · rw [if_pos (show iN k < (18 : Int32) from (iN_lt (b := 18) (by omega) (by omega)).mpr c)]
      exact tt_some ⟨fun _ => by omega, fun h => absurd rfl h⟩
    · rw [if_neg (show ¬ iN k < (18 : Int32) from fun z => c ((iN_lt (b := 18) (by omega) (by omega)).mp z))]
      by_cases d : 26 < k
      · rw [if_pos (show (26 : Int32) < iN k from (iN_lt (a := 26) (by omega) (by omega)).mpr d)]
        exact tt_some ⟨fun _ => by omega, fun h => absurd rfl h⟩
      · rw [if_neg (show ¬ (26 : Int32) < iN k from fun z => d ((iN_lt (a := 26) (by omega) (by omega)).mp z))]
        exact tt_some ⟨fun h => absurd h (by decide), fun _ => by omega⟩
theorem mload_t {n : Nat} {s0 : Ob} (hB0 : By n s0) : Tot (f_X8_load NN s0) (Pl s0) := by
  unfold f_X8_load
  rw [znm_eq, znm_eq, znm_eq, znm_eq]
  refine tt_mono (mload_b (s0 := si s0 7 0) hB0) fun z hz => ?_
  obtain ⟨h1, h2, h3⟩ := hz
  exact ⟨lf_trans (lf_si s0 (k := 7) 0 (by omega)) h1, h2, h3⟩
