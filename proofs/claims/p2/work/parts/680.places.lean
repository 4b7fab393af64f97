/-! OWN: the pure half: the first place of which so much is known -/
def fstN (P : Nat → Bool) : Nat → Nat
  | 0 => 0
  | n + 1 => if fstN P n < n then fstN P n else if P n = true then n else n + 1
theorem fstN_spec (P : Nat → Bool) : ∀ n, fstN P n ≤ n ∧ (∀ i, i < fstN P n → P i = false) ∧ (fstN P n < n → P (fstN P n) = true) := by
  intro n
  induction n with
  | zero => exact ⟨Nat.le_refl _, fun i hi => absurd hi (by show ¬ i < 0; omega), fun h => absurd h (by show ¬ 0 < 0; omega)⟩
  | succ n ih =>
    obtain ⟨h1, h2, h3⟩ := ih
    by_cases c : fstN P n < n
    · have e : fstN P (n + 1) = fstN P n := if_pos c
      rw [e]
      exact ⟨by omega, h2, fun _ => h3 c⟩
    · have hn : fstN P n = n := by omega
      by_cases c2 : P n = true
      · have e : fstN P (n + 1) = n := by
          show (if fstN P n < n then fstN P n else if P n = true then n else n + 1) = n
          rw [if_neg c, if_pos c2]
        rw [e]
        refine ⟨by omega, fun i hi => h2 i (by omega), fun _ => c2⟩
      · have e : fstN P (n + 1) = n + 1 := by
          show (if fstN P n < n then fstN P n else if P n = true then n else n + 1) = n + 1
          rw [if_neg c, if_neg c2]
        rw [e]
        refine ⟨Nat.le_refl _, fun i hi => ?_, fun h => absurd h (by omega)⟩
        by_cases c3 : i = n
        · rw [c3]; simpa using c2
        · exact h2 i (by omega)
def plI (P : Nat → Bool) (n : Nat) : Int32 := if fstN P n < n then iN (fstN P n) else -1
theorem fstN_congr {P Q : Nat → Bool} : ∀ {n : Nat}, (∀ i, i < n → P i = Q i) → fstN P n = fstN Q n := by
  intro n
  induction n with
  | zero => intro _; rfl
  | succ n ih =>
    intro h
    have e := ih (fun i hi => h i (by omega))
    show (if fstN P n < n then fstN P n else if P n = true then n else n + 1) = (if fstN Q n < n then fstN Q n else if Q n = true then n else n + 1)
    rw [e, h n (by omega)]
section PLA
variable {a : Gm} {L : Nat → Int32} {sG ru sM : Ob}
/-- of the places of the player whose turn it is -/
def kn1 (a : Gm) (j : Nat) : Bool := knF a (cdF a (a 10) j)
noncomputable def kn2 (a : Gm) (j : Nat) : Bool := anyK (cdF a (a 10) j) && subK (cdF a (a 10) j) (uslF a)
def untF (a : Gm) (j : Nat) : Bool := decide (a (147 + a (191 + (5 * a 10 + j))) = 0)
theorem firstKnown_eq (ho : okG a) (hG : encG a L sG) (hu : encRu a ru) (hp : a 10 < 4) {F G : Nat → Bool} (hF : ∀ j, j < a (187 + a 10) → (anyK (cdF a (a 10) j) && subK (cdF a (a 10) j) F) = G j) (s0 sMi : Ob) : ∃ s', f_X0_firstKnown NN s0 sG sMi ru (kset F) = some (plI G (a (187 + a 10)), s') := by
  have hw := ho.1
  obtain ⟨b0, b1, b2, b3, b4, b5, b6, b7, b8, b9, b11, b12, b13⟩ := wfB hw
  have hs := wfS hw hp
  obtain ⟨s', e⟩ := unseenKinds_eq ho hG hu sMi hp
  obtain ⟨f1, f2, f3⟩ := fstN_spec G (a (187 + a 10))
  have g4 := hG.2.2.2.1
  refine ⟨s', ?_⟩
  unfold f_X0_firstKnown
  rw [g4, e, ob_some]
  unfold f_X0_firstKnown_16
  have st : ∀ n, n < a (187 + a 10) → ∀ self : Int32 → Int32 → Ob → Option (Int32 × Ob), F_X0_firstKnown_16 NN s0 sG ru (kset F) self (kset (unsF a (a 10))) (iN n) s' = if iN (bN (G n)) = 0 then self (kset (unsF a (a 10))) (iN (n + 1)) s' else some (iN n, s') := by
    intro n hn self
    have hc := wfH hw hp hn
    have e0 : kset (unsF a (a 10)) &&& kset (mkK (a (67 + a (191 + (5 * a 10 + n)))) (a (107 + a (191 + (5 * a 10 + n))))) = kset (cdF a (a 10) n) := kset_and _ _
    unfold F_X0_firstKnown_16
    rw [g4, so_eq hG hp, ob_some, if_neg (fun q => absurd ((iN_le (by omega) (by omega)).mp q) (by omega)), ca_yes hw hG hp hn, ob_some, klf_eq hG (by omega), ob_some, e0, areAllIn_kset, ob_some, hF n hn, iN_p1]
  refine loop3 (fun _ => kset (unsF a (a 10))) (fun n => iN n) (fun _ => s') (fstN G (a (187 + a 10))) ?_ ?_ NN 0 (by omega) (nnb (by omega))
  · intro n hn self
    rw [st n (by omega) self, f2 n hn, if_pos bN0]
  · intro self
    unfold plI
    by_cases c : fstN G (a (187 + a 10)) < a (187 + a 10)
    · rw [st _ c self, f3 c, if_neg bN1, if_pos c]
    · rw [if_neg c]
      unfold F_X0_firstKnown_16
      rw [g4, so_eq hG hp, ob_some, if_pos ((iN_le (by omega) (by omega)).mpr (by omega))]
theorem wasTouched_eq (hw : wfG a) (hG : encG a L sG) {k : Nat} (hk : k < 40) : f_X1_wasTouched NN sG (iN k) = some (iN (a (147 + k))) := by
  have ht := wfT hw hk
  have hg := hG.2.2.2.2.2.2.2.1 k hk
  unfold f_X1_wasTouched
  by_cases hz : a (147 + k) = 0
  · rw [hg.mpr hz, hz]; rfl
  · have hz1 : a (147 + k) = 1 := by omega
    rw [hz1, if_neg (fun hq => hz (hg.mp ((lg_cmp_eq _ _).mp hq)))]; rfl
theorem firstUntouched_eq (ho : okG a) (hG : encG a L sG) (hp : a 10 < 4) (s0 : Ob) : f_X0_firstUntouched NN s0 sG = some (plI (untF a) (a (187 + a 10))) := by
  have hw := ho.1
  obtain ⟨b0, b1, b2, b3, b4, b5, b6, b7, b8, b9, b11, b12, b13⟩ := wfB hw
  have hs := wfS hw hp
  obtain ⟨f1, f2, f3⟩ := fstN_spec (untF a) (a (187 + a 10))
  have g4 := hG.2.2.2.1
  unfold f_X0_firstUntouched f_X0_firstUntouched_2
  have st : ∀ n, n < a (187 + a 10) → ∀ self : Int32 → Option Int32, F_X0_firstUntouched_2 NN s0 sG self (iN n) = if untF a n = true then some (iN n) else self (iN (n + 1)) := by
    intro n hn self
    have hc := wfH hw hp hn
    have ht := wfT hw (k := a (191 + (5 * a 10 + n))) (by omega)
    unfold F_X0_firstUntouched_2 untF
    rw [g4, so_eq hG hp, ob_some, if_neg (fun q => absurd ((iN_le (by omega) (by omega)).mp q) (by omega)), ca_yes hw hG hp hn, ob_some, wasTouched_eq hw hG (by omega), ob_some, iN_p1]
    by_cases z : a (147 + a (191 + (5 * a 10 + n))) = 0
    · rw [z, if_pos iN00, if_pos (by decide)]
    · rw [if_neg (show ¬ iN (a (147 + a (191 + (5 * a 10 + n)))) = 0 from fun q => z ((iN_inj (b := 0) (by omega) (by omega)).mp q)), decide_eq_false z, if_neg (by decide)]
  refine loop1 (fun n => iN n) (fstN (untF a) (a (187 + a 10))) ?_ ?_ NN 0 (by omega) (nnb (by omega))
  · intro n hn self
    rw [st n (by omega) self, f2 n hn, if_neg (by decide)]
  · intro self
    unfold plI
    by_cases c : fstN (untF a) (a (187 + a 10)) < a (187 + a 10)
    · rw [st _ c self, f3 c, if_pos rfl, if_pos c]
    · rw [if_neg c]
      unfold F_X0_firstUntouched_2
      rw [g4, so_eq hG hp, ob_some, if_pos ((iN_le (by omega) (by omega)).mpr (by omega))]
theorem placeWith_eq (ho : okG a) (hr : encR a L (sM.2.2.1 0)) (hp : a 10 < 4) {v : Nat} {G : Nat → Bool} (hF : ∀ j, j < a (187 + a 10) → (knownN a (cdF a (a 10) j) = v ↔ G j = true)) (hv : v < 4) : f_X8_placeWith NN sM (iN v) = some (plI G (a (187 + a 10))) := by
  have hw := ho.1
  have hs := wfS hw hp
  obtain ⟨f1, f2, f3⟩ := fstN_spec G (a (187 + a 10))
  have e10 : sM.2.2.1 0 10 = iN (a 10) := hr.1 10 (by omega) (by omega)
  unfold f_X8_placeWith f_X8_placeWith_10
  rw [e10]
  have st : ∀ n, n < a (187 + a 10) → ∀ self : Int32 → Int32 → Option Int32, F_X8_placeWith_10 NN sM (iN v) self (iN (a 10)) (iN n) = if G n = true then some (iN n) else self (iN (a 10)) (iN (n + 1)) := by
    intro n hn self
    have hk := knownN_le a (cdF a (a 10) n)
    have hf := hF n hn
    have ek : f_X8_known NN sM (iN (a 10)) (iN n) = some (iN (knownN a (cdF a (a 10) n))) := X8_known_eq ho hr hp hn
    unfold F_X8_placeWith_10
    rw [show (187 : Int32) + iN (a 10) = iN (187 + a 10) from iN_add _ _, chk_iN (by omega) (by omega), clamp_iN (by omega), hr.1 _ (by omega) (by omega), if_neg (fun q => absurd ((iN_le (by omega) (by omega)).mp q) (by omega)), if_neg (iN_ne_m1 (by omega)), ek, ob_some, iN_p1]
    by_cases c : G n = true
    · rw [if_pos c, if_pos (congrArg iN (hf.mpr c))]
    · rw [if_neg c, if_neg (fun q => c (hf.mp ((iN_inj (show knownN a (cdF a (a 10) n) < 2 ^ 31 by omega) (by omega)).mp q)))]
  refine loop2 (fun _ => iN (a 10)) (fun n => iN n) (fstN G (a (187 + a 10))) ?_ ?_ NN 0 (by omega) (nnb (by omega))
  · intro n hn self
    rw [st n (by omega) self, f2 n hn, if_neg (by decide)]
  · intro self
    unfold plI
    by_cases c : fstN G (a (187 + a 10)) < a (187 + a 10)
    · rw [st _ c self, f3 c, if_pos rfl, if_pos c]
    · rw [if_neg c]
      unfold F_X8_placeWith_10
      rw [show (187 : Int32) + iN (a 10) = iN (187 + a 10) from iN_add _ _, chk_iN (by omega) (by omega), clamp_iN (by omega), hr.1 _ (by omega) (by omega), if_pos ((iN_le (by omega) (by omega)).mpr (by omega))]
theorem placeUnt_eq (ho : okG a) (hr : encR a L (sM.2.2.1 0)) (hp : a 10 < 4) : f_X8_placeWith NN sM (-1) = some (plI (untF a) (a (187 + a 10))) := by
  have hw := ho.1
  obtain ⟨b0, b1, b2, b3, b4, b5, b6, b7, b8, b9, b11, b12, b13⟩ := wfB hw
  have hs := wfS hw hp
  obtain ⟨f1, f2, f3⟩ := fstN_spec (untF a) (a (187 + a 10))
  have e10 : sM.2.2.1 0 10 = iN (a 10) := hr.1 10 (by omega) (by omega)
  unfold f_X8_placeWith f_X8_placeWith_10
  rw [e10]
  have st : ∀ n, n < a (187 + a 10) → ∀ self : Int32 → Int32 → Option Int32, F_X8_placeWith_10 NN sM (-1) self (iN (a 10)) (iN n) = if untF a n = true then some (iN n) else self (iN (a 10)) (iN (n + 1)) := by
    intro n hn self
    have hc := wfH hw hp hn
    have ht := wfT hw (k := a (191 + (5 * a 10 + n))) (by omega)
    unfold F_X8_placeWith_10 untF
    rw [show (187 : Int32) + iN (a 10) = iN (187 + a 10) from iN_add _ _, chk_iN (by omega) (by omega), clamp_iN (by omega), hr.1 _ (by omega) (by omega), if_neg (fun q => absurd ((iN_le (by omega) (by omega)).mp q) (by omega)), if_pos rfl, he_eq hw hr hp hn, ob_some, show (147 : Int32) + iN (a (191 + (5 * a 10 + n))) = iN (147 + a (191 + (5 * a 10 + n))) from iN_add _ _, chk_iN (by omega) (by omega), clamp_iN (by omega), hr.1 _ (by omega) (by omega), iN_p1]
    by_cases z : a (147 + a (191 + (5 * a 10 + n))) = 0
    · rw [z, if_pos iN00, if_pos (by decide)]
    · rw [if_neg (show ¬ iN (a (147 + a (191 + (5 * a 10 + n)))) = 0 from fun q => z ((iN_inj (b := 0) (by omega) (by omega)).mp q)), decide_eq_false z, if_neg (by decide)]
  refine loop2 (fun _ => iN (a 10)) (fun n => iN n) (fstN (untF a) (a (187 + a 10))) ?_ ?_ NN 0 (by omega) (nnb (by omega))
  · intro n hn self
    rw [st n (by omega) self, f2 n hn, if_neg (by decide)]
  · intro self
    unfold plI
    by_cases c : fstN (untF a) (a (187 + a 10)) < a (187 + a 10)
    · rw [st _ c self, f3 c, if_pos rfl, if_pos c]
    · rw [if_neg c]
      unfold F_X8_placeWith_10
      rw [show (187 : Int32) + iN (a 10) = iN (187 + a 10) from iN_add _ _, chk_iN (by omega) (by omega), clamp_iN (by omega), hr.1 _ (by omega) (by omega), if_pos ((iN_le (by omega) (by omega)).mpr (by omega))]
end PLA
