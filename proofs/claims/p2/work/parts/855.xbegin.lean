/-! OWN: a game of the class begins -/
def kz (R : Nat) : Nat → Int32
  | 0 => 0
  | c + 1 => kz R c ||| ((((1 : Int32) <<< (iN R &&& 31)) - (1 : Int32)) <<< ((iN c * (5 : Int32)) &&& 31))
theorem kz_bits : ∀ C : Fin 5, ∀ R : Fin 6, ∀ i : Fin 32, bitI (kz R.val C.val) i.val = (decide (i.val < 20) && ((2 ^ C.val - 1).testBit (i.val / 5) && (2 ^ R.val - 1).testBit (i.val % 5))) := by decide +kernel
theorem kz_mask {C R : Nat} (hC : C ≤ 4) (hR : R ≤ 5) : okMask (kz R C) (2 ^ C - 1) (2 ^ R - 1) := fun i hi => kz_bits ⟨C, by omega⟩ ⟨R, by omega⟩ ⟨i, hi⟩
theorem allKinds_eq {ru : Ob} {C R : Nat} (hC : C ≤ 4) (e0 : ru.1 0 = iN C) (e1 : ru.1 1 = iN R) : f_X5_allKinds NN ru = some (kz R C) := by
  unfold f_X5_allKinds f_X5_allKinds_4
  refine loop2 (fun c => kz R c) (fun c => iN c) C (fun k hk self => ?_) (fun self => ?_) NN 0 (Nat.zero_le _) (show C < 0 + 100000 by omega)
  · unfold F_X5_allKinds_4
    rw [e0, e1, if_neg (fun q => absurd ((iN_le (by omega) (by omega)).mp q) (by omega)), znm_eq, inc1]
    rfl
  · unfold F_X5_allKinds_4
    rw [e0, if_pos ((iN_le (by omega) (by omega)).mpr (Nat.le_refl _))]
section XBG
variable {C R P H m M T V : Nat} {w q : Nat → Nat} {ru : Ob}
/-- what drawing leaves; what stands behind the drawing of j cards by player p -/
def Bfx (C R T V : Nat) (w : Nat → Nat) (A : Nat → Int32) (s : Ob) : Prop := s.1 2 = iN T ∧ s.1 3 = iN V ∧ s.1 4 = 0 ∧ s.1 5 = 0 ∧ s.2.1 8 = 0 ∧ (∀ k, k < 7 → s.2.2.1 7 k = 0) ∧ (∀ k, k < 4 → s.2.2.1 11 k = 0) ∧ (∀ k, k < 20 → s.2.2.1 12 k = 0) ∧ (∀ k, k < 9 → s.2.2.1 13 k = iN (w k)) ∧ (∀ k, k < 40 → s.2.2.1 14 k = kz R C) ∧ s.2.2.1 15 = A
def Bd (H p j : Nat) (s : Ob) : Prop := s.1 1 = iN (p * H + j) ∧ (∀ i, i < 4 → s.2.2.1 10 i = iN (if i < p then H else if i = p then j else 0)) ∧ ∀ i k, i < 4 → ((i < p ∧ k < H) ∨ (i = p ∧ k < j)) → s.2.2.1 9 (5 * i + k) = iN (i * H + k)
theorem draw_eq (D : Dl C R P H m M T V w q) (E : EnR C R P H m M T V w q ru) (hm : P * H ≤ m) {A : Nat → Int32} {p j : Nat} (hp : p < P) (hj : j < H) {s : Ob} (hf : Bfx C R T V w A s) (hd : Bd H p j s) : Tot (f_X1_drawCard NN s ru (iN p)) (fun s' => Bfx C R T V w A s' ∧ Bd H p (j + 1) s') := by
  have d6 := D.2.2.2.2.2.1
  have d8 := D.2.2.2.2.2.2.2.1
  have d9 := D.2.2.2.2.2.2.2.2.1
  obtain ⟨b1, b2, b3⟩ := hd
  have hlt := ph_lt hp hj
  have hs : f_X1_sizeOf NN s (iN p) = some (iN j) := by
    unfold f_X1_sizeOf
    rw [if_neg (iN_not_neg p (by omega)), if_neg (le4 (by omega)), chk_t (iN_inb (show p < 4 by omega) (by omega)), iN_clamp (by omega), b2 p (by omega), if_neg (Nat.lt_irrefl _), if_pos rfl]
  unfold f_X1_drawCard
  rw [hs, ob_some, E.2.2.2.2.2.2.2.1, b1, if_neg (fun z => absurd ((iN_le (by omega) (by omega)).mp z) (by omega)), if_neg (le4 (by omega)), if_neg (show ¬ (5 : Int32) ≤ iN j from fun z => absurd ((iN_le (a := 5) (by omega) (by omega)).mp z) (by omega))]
  have e : iN p * (5 : Int32) + iN j = iN (p * 5 + j) := by
    show iN p * iN 5 + iN j = _
    rw [iN_mul, iN_add]
  rw [e, iN_clamp (k := p * 5 + j) (by omega), iN_clamp (k := p) (by omega)]
  have i1 := iN_inb (show p < 4 by omega) (n := 4) (by omega)
  refine tt_chk (iN_inb (show p * 5 + j < 20 by omega) (by omega)) (tt_chk i1 ?_)
  rw [znm_eq]
  refine tt_chk i1 ?_
  rw [znm_eq]
  refine tt_some ⟨hf, ?_, fun i hi => ?_, fun i k hi hk => ?_⟩
  · show s.1 1 + 1 = _
    rw [b1, inc1]
    rfl
  · show upd (s.2.2.1 10) p (s.2.2.1 10 p + 1) i = _
    rw [upd_at]
    by_cases c : i = p
    · subst c
      rw [if_pos rfl, b2 i hi, if_neg (Nat.lt_irrefl _), if_pos rfl, inc1, if_neg (Nat.lt_irrefl _), if_pos rfl]
    · rw [if_neg c, b2 i hi]
      congr 1
      rw [if_neg c, if_neg c]
  · show upd (s.2.2.1 9) (p * 5 + j) (iN (p * H + j)) (5 * i + k) = _
    rw [upd_at]
    by_cases c : i = p ∧ k = j
    · rw [if_pos (by omega), c.1, c.2]
    · rw [if_neg (by omega)]
      exact b3 i k hi (by omega)
theorem begin_t (D : Dl C R P H m M T V w q) (E : EnR C R P H m M T V w q ru) (hm : P * H ≤ m) (sG : Ob) : Tot (f_X1_begin NN sG ru) (fun s' => encG (bg C R P H m M T V w q) (sG.2.2.1 15) s') := by
  have D2 := D
  obtain ⟨d1, d2, d3, d4, d5, d6, d7, d8, d9, d10, d11, d12, d13, d14, d15, d16, d17⟩ := D2
  obtain ⟨e0, e1, e2, e3, e4, e5, e6, e7, e8, e9, e10⟩ := id E
  have hfin : ∀ s, Bfx C R T V w (sG.2.2.1 15) s → Bd H P 0 s → ∀ t1, t1 = iN (if P * H = m then P + 1 else 0) - 1 → Tot (f_X1_begin_180 NN ru t1 s) (fun s' => encG (bg C R P H m M T V w q) (sG.2.2.1 15) s') := fun s hf hd t1 ht => by
    obtain ⟨f2, f3, f4, f5, f8, f7, f11, f12, f13, f14, f15⟩ := hf
    obtain ⟨b1, b2, b3⟩ := hd
    unfold f_X1_begin_180
    refine tt_some ⟨b1, f2, f3, ?_, ?_, ht, fun k hk => ?_, fun k hk => ?_, fun p j hp hj => ?_, fun p hp => ?_, fun c hc => ?_, fun k hk => ?_, fun k hk => ?_, fun k hk => ?_, fun k hk => ?_⟩
    · rw [bg_z (k := 10) (by omega)]; exact f4
    · rw [bg_z (k := 11) (by omega)]; exact f5
    · rw [bg_z (k := 231 + k) (by omega)]; exact f7 k hk
    · rw [bg_z (k := 147 + k) (by omega)]
      show ((s.2.1 8) >>> _) &&& 1 = 0 ↔ _
      rw [f8]
      exact iff_of_true (sh0 ⟨k, hk⟩) rfl
    · rw [bg_s hp] at hj
      by_cases c : p < P
      · rw [if_pos c] at hj
        rw [bg_h hp (by omega) c hj]
        exact b3 p j hp (Or.inl ⟨c, hj⟩)
      · rw [if_neg c] at hj
        omega
    · rw [bg_s hp]
      show s.2.2.1 10 p = _
      rw [b2 p hp]
      by_cases c : p < P
      · rw [if_pos c, if_pos c]
      · rw [if_neg c, if_neg c]
        split <;> rfl
    · rw [bg_z (by omega)]; exact f11 c hc
    · rw [bg_z (by omega)]; exact f12 k hk
    · rw [bg_w hk]; exact f13 k hk
    · rw [bg_c hk, bg_r hk]
      show okMask (s.2.2.1 14 k) _ _
      rw [f14 k hk]
      exact kz_mask d2 d4
    · show s.2.2.1 15 k = _
      rw [f15]
  unfold f_X1_begin
  rw [znm_eq, znm_eq, znm_eq, znm_eq, znm_eq, znm_eq, fill_eq _ _ (by omega), ob_some, znm_eq, fill_eq _ _ (by omega), ob_some, znm_eq, fill_eq _ _ (by omega), ob_some, znm_eq, fill_eq _ _ (by omega), ob_some, allKinds_eq d2 e0 e1, ob_some, znm_eq, fill_eq _ _ (by omega), ob_some, znm_eq]
  unfold f_X1_begin_113
  refine tlk2 (fun j v s => ∃ p, p + j = P ∧ v = iN p ∧ Bfx C R T V w (sG.2.2.1 15) s ∧ Bd H p 0 s) (fun j v s hI self hs => ?_) NN P _ _ (show P < 100000 by omega) ⟨0, by omega, rfl, ⟨e5, e6, rfl, rfl, rfl, fun k hk => filA_in (v := 0) hk, fun k hk => filA_in (v := 0) hk, fun k hk => filA_in (v := 0) hk, fun k hk => ?_, fun k hk => filA_in (v := kz R C) hk, rfl⟩, ?_, fun i hi => ?_, fun i k hi hk => by omega⟩
  rotate_left
  · show va_cpy (ru.2.2.1 10) _ 0 0 9 k = _
    unfold va_cpy
    rw [if_pos (by omega), show 0 + (k - 0) = k by omega]
    exact e10 k hk
  · show (0 : Int32) = iN (0 * H + 0)
    rw [Nat.zero_mul]
    rfl
  · show filA _ 0 4 i = _
    rw [filA_in hi]
    rw [if_neg (Nat.not_lt_zero _)]
    split <;> rfl
  obtain ⟨p, hp, rfl, hf, hd⟩ := hI
  unfold F_X1_begin_113
  rw [e2]
  refine tt_ite (fun h => ?_) (fun h => ?_)
  · have hpP : P ≤ p := (iN_le (by omega) (by omega)).mp h
    have : p = P := by omega
    subst this
    have hb : p * H ≤ 4 * 5 := Nat.mul_le_mul d6 d8
    rw [hd.1, e7]
    refine tt_ite (fun hlt => hfin s hf hd _ ?_) (fun hge => hfin s hf hd _ ?_)
    · have := (iN_lt (by omega) (by omega)).mp hlt
      rw [if_neg (by omega)]
      decide
    · have h2 : m ≤ p * H := by
        rcases Nat.lt_or_ge (p * H + 0) m with z | z
        · exact absurd ((iN_lt (by omega) (by omega)).mpr z) hge
        · omega
      rw [if_pos (by omega), ← inc1, Int32.add_sub_cancel]
  · have hpP := nle (by omega) (by omega) h
    unfold f_X1_begin_126
    refine tlk3 (fun i v c s => ∃ k, v = iN p ∧ k + i = H ∧ c = iN k ∧ Bfx C R T V w (sG.2.2.1 15) s ∧ Bd H p k s) (fun i v c s hI self2 hs2 => ?_) NN H _ _ _ (show H < 100000 by omega) ⟨0, rfl, by omega, rfl, hf, hd⟩
    obtain ⟨k, rfl, hk, rfl, hf, hd⟩ := hI
    unfold F_X1_begin_126
    rw [e3]
    refine tt_ite (fun h => ?_) (fun h => ?_)
    · have hkH : H ≤ k := (iN_le (by omega) (by omega)).mp h
      have : k = H := by omega
      subst this
      obtain ⟨b1, b2, b3⟩ := hd
      refine hs (j - 1) _ _ (by omega) ⟨p + 1, by omega, inc1 p, hf, ?_, fun i hi => ?_, fun i q hi hq => b3 i q hi (by omega)⟩
      · rw [b1, Nat.succ_mul]
        rfl
      · rw [b2 i hi]
        congr 1
        by_cases c : i < p
        · rw [if_pos c, if_pos (by omega)]
        · by_cases c2 : i = p
          · rw [if_neg c, if_pos c2, if_pos (by omega)]
          · rw [if_neg c, if_neg c2, if_neg (by omega)]
            split <;> rfl
    · have hkH := nle (by omega) (by omega) h
      exact tt_ob (draw_eq D E hm hpP hkH hf hd) (fun x hx => hs2 (i - 1) _ _ _ (by omega) ⟨k + 1, rfl, by omega, inc1 k, hx.1, hx.2⟩)
theorem encRu_bg (D : Dl C R P H m M T V w q) (E : EnR C R P H m M T V w q ru) : encRu (bg C R P H m M T V w q) ru := by
  obtain ⟨e0, e1, e2, e3, e4, e5, e6, e7, e8, e9, e10⟩ := E
  refine ⟨e0, e1, e2, e3, fun _ => e4, e7, fun k hk => ?_, fun k hk => ?_⟩
  · rw [bg_q hk]
    exact e8 k hk
  · rw [e9 k hk]
    congr 1
    have h2 := bg_in (C := C) (R := R) (P := P) (H := H) (M := M) (T := T) (V := V) (w := w) (q := q) D.2.2.2.2.2.2.2.2.1 k 0 (Nat.zero_le _)
    have h0 : cntQ q k 0 = 0 := rfl
    omega
end XBG
