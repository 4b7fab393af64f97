/-! OWN: the pure half: the hint that is chosen -/
/-- loops with two states and what comes behind them -/
theorem loopK4 {K A B C D β : Type} {z : A → B → C → D → Option β} {F : K → (A → B → C → D → Option β) → A → B → C → D → Option β} {R : K → C → D → Option β} (sa : Nat → A) (sb : Nat → B) (b : Nat) (P : Nat → C → D → Prop) (Q : C → D → Prop) (step : ∀ k c d, k < b → P k c d → ∃ c' d', P (k + 1) c' d' ∧ ∀ (κ : K) (self : A → B → C → D → Option β), F κ self (sa k) (sb k) c d = self (sa (k + 1)) (sb (k + 1)) c' d') (fin : ∀ c d, P b c d → ∃ c' d', Q c' d' ∧ ∀ (κ : K) (self : A → B → C → D → Option β), F κ self (sa b) (sb b) c d = R κ c' d') : ∀ n k c d, P k c d → k ≤ b → b < k + n → ∃ c' d', Q c' d' ∧ ∀ κ : K, zlp z (F κ) n (sa k) (sb k) c d = R κ c' d' := by
  intro n
  induction n with
  | zero => intro k c d _ h1 h2; omega
  | succ n ih =>
    intro k c d hP h1 h2
    by_cases e : k = b
    · subst e
      obtain ⟨c', d', hq, hf⟩ := fin c d hP
      exact ⟨c', d', hq, fun κ => hf κ _⟩
    · obtain ⟨c', d', hP', hs⟩ := step k c d (by omega) hP
      obtain ⟨c2, d2, hq, hz⟩ := ih (k + 1) c' d' hP' (by omega) (by omega)
      exact ⟨c2, d2, hq, fun κ => (hs κ _).trans (hz κ)⟩
theorem loopK6 {K A B E G C D β : Type} {z : A → B → E → G → C → D → Option β} {F : K → (A → B → E → G → C → D → Option β) → A → B → E → G → C → D → Option β} {R : K → C → D → Option β} (sa : Nat → A) (sb : Nat → B) (se : Nat → E) (sg : Nat → G) (b : Nat) (P : Nat → C → D → Prop) (Q : C → D → Prop) (step : ∀ k c d, k < b → P k c d → ∃ c' d', P (k + 1) c' d' ∧ ∀ (κ : K) (self : A → B → E → G → C → D → Option β), F κ self (sa k) (sb k) (se k) (sg k) c d = self (sa (k + 1)) (sb (k + 1)) (se (k + 1)) (sg (k + 1)) c' d') (fin : ∀ c d, P b c d → ∃ c' d', Q c' d' ∧ ∀ (κ : K) (self : A → B → E → G → C → D → Option β), F κ self (sa b) (sb b) (se b) (sg b) c d = R κ c' d') : ∀ n k c d, P k c d → k ≤ b → b < k + n → ∃ c' d', Q c' d' ∧ ∀ κ : K, zlp z (F κ) n (sa k) (sb k) (se k) (sg k) c d = R κ c' d' := by
  intro n
  induction n with
  | zero => intro k c d _ h1 h2; omega
  | succ n ih =>
    intro k c d hP h1 h2
    by_cases e : k = b
    · subst e
      obtain ⟨c', d', hq, hf⟩ := fin c d hP
      exact ⟨c', d', hq, fun κ => hf κ _⟩
    · obtain ⟨c', d', hP', hs⟩ := step k c d (by omega) hP
      obtain ⟨c2, d2, hq, hz⟩ := ih (k + 1) c' d' hP' (by omega) (by omega)
      exact ⟨c2, d2, hq, fun κ => (hs κ _).trans (hz κ)⟩
/-- the best hint so far: one more than it tells (0: none), player, word, value -/
abbrev St : Type := Nat × Nat × Nat × Nat
def canG (a : Gm) (p w v : Nat) : Bool := decide (1 ≤ a 7) && sayB a p w v
def stp (a : Gm) (p w v : Nat) (m : St) : St := if canG a p w v = true ∧ m.1 ≤ tellN a p w v then (tellN a p w v + 1, p, w, v) else m
def wI (a : Gm) (i : Nat) : Nat := if i < a 0 then 0 else 1
def vI (a : Gm) (i : Nat) : Nat := if i < a 0 then i else i - a 0 + 1
def rowB (a : Gm) (p : Nat) (m : St) : Nat → St
  | 0 => m
  | i + 1 => stp a p (wI a i) (vI a i) (rowB a p m i)
def plr (a : Gm) (k : Nat) : Nat := (a 10 + k) % a 2
def allB (a : Gm) : Nat → St
  | 0 => (0, 0, 0, 0)
  | k + 1 => rowB a (plr a (k + 1)) (allB a k) (a 0 + a 1)
theorem isW_I {a : Gm} {i : Nat} (h : i < a 0 + a 1) : isW a (wI a i) (vI a i) := by
  unfold wI vI
  by_cases c : i < a 0
  · rw [if_pos c, if_pos c]; exact Or.inl ⟨rfl, c⟩
  · rw [if_neg c, if_neg c]; exact Or.inr ⟨rfl, by omega, by omega⟩
/-- a hint that can be given -/
def fitH (a : Gm) (p w v : Nat) : Prop := p < a 2 ∧ p ≠ a 10 ∧ isW a w v ∧ canG a p w v = true
def fitS (a : Gm) (m : St) : Prop := m.1 = 0 ∨ fitH a m.2.1 m.2.2.1 m.2.2.2
theorem stp_fit {a : Gm} {p w v : Nat} {m : St} (h : fitS a m) (hp : p < a 2) (hp2 : p ≠ a 10) (hw : isW a w v) : fitS a (stp a p w v m) := by
  unfold stp
  split
  · rename_i c; exact Or.inr ⟨hp, hp2, hw, c.1⟩
  · exact h
theorem rowB_fit {a : Gm} {p : Nat} {m : St} (h : fitS a m) (hp : p < a 2) (hp2 : p ≠ a 10) : ∀ n, n ≤ a 0 + a 1 → fitS a (rowB a p m n) := by
  intro n
  induction n with
  | zero => intro _; exact h
  | succ n ih => intro hn; exact stp_fit (ih (by omega)) hp hp2 (isW_I (by omega))
theorem plr_b {a : Gm} {k : Nat} (h10 : a 10 < a 2) (h1 : 1 ≤ k) (hk : k < a 2) : plr a k < a 2 ∧ plr a k ≠ a 10 := by
  unfold plr
  refine ⟨Nat.mod_lt _ (by omega), ?_⟩
  by_cases c : a 10 + k < a 2
  · rw [Nat.mod_eq_of_lt c]; omega
  · rw [Nat.mod_eq_sub_mod (by omega), Nat.mod_eq_of_lt (by omega)]; omega
theorem allB_fit {a : Gm} (h10 : a 10 < a 2) : ∀ k, k < a 2 → fitS a (allB a k) := by
  intro k
  induction k with
  | zero => intro _; exact Or.inl rfl
  | succ k ih =>
    intro hk
    have := plr_b (k := k + 1) h10 (by omega) hk
    exact rowB_fit (ih (by omega)) this.1 this.2 _ (Nat.le_refl _)
theorem tellN_le {a : Gm} (hw : wfG a) {p w v : Nat} (hp : p < 4) : tellN a p w v ≤ 5 := by
  have := cntK_le (tellF a p w v) (a (187 + p))
  have := wfS hw hp
  unfold tellN
  omega
theorem stp_le {a : Gm} (hw : wfG a) {p w v : Nat} (hp : p < 4) {m : St} (h : m.1 ≤ 6) : (stp a p w v m).1 ≤ 6 := by
  have := tellN_le hw (w := w) (v := v) hp
  unfold stp
  split
  · show tellN a p w v + 1 ≤ 6; omega
  · exact h
theorem rowB_le {a : Gm} (hw : wfG a) {p : Nat} (hp : p < 4) {m : St} (h : m.1 ≤ 6) : ∀ n, (rowB a p m n).1 ≤ 6 := by
  intro n
  induction n with
  | zero => exact h
  | succ n ih => exact stp_le hw hp ih
theorem plr_lt {a : Gm} (hw : wfG a) (h2 : 0 < a 2) (k : Nat) : plr a k < 4 := by
  have : plr a k < a 2 := Nat.mod_lt _ h2
  have := hw.2.2.1
  omega
theorem allB_le {a : Gm} (hw : wfG a) (h2 : 0 < a 2) : ∀ k, (allB a k).1 ≤ 6 := by
  intro k
  induction k with
  | zero => show (0 : Nat) ≤ 6; omega
  | succ k ih => exact rowB_le hw (plr_lt hw h2 _) ih _
/-- what the advisor has of it -/
def advA (m : St) (s0 : Ob) : Prop := s0.1 5 = iN m.1 - 1 ∧ (1 ≤ m.1 → s0.1 0 = 2 ∧ s0.1 1 = iN m.2.1 ∧ s0.1 2 = iN m.2.2.1 ∧ s0.1 3 = iN m.2.2.2)
section BST
variable {a : Gm} {L : Nat → Int32} {sG ru sM : Ob}
theorem x_weigh (ho : okG a) (hG : encG a L sG) (hu : encRu a ru) (h10 : a 10 < a 2) {p w v : Nat} (hp : p < a 2) (hp2 : p ≠ a 10) (hww : isW a w v) {m : St} (hm : m.1 ≤ 6) {s0 : Ob} (hA : advA m s0) (s3 : Ob) : ∃ s0', f_X0_weighHint NN s0 sG ru s3 (iN p) (kset (unsF a p)) (iN w) (iN v) = some s0' ∧ advA (stp a p w v m) s0' := by
  have hw := ho.1
  have h2 := hw.2.2.1
  have b6 := hw.2.2.2.2.2.2.1
  have b7 := hw.2.2.2.2.2.2.2.1
  have ht := tellN_le hw (p := p) (w := w) (v := v) (by omega)
  have cb : f_X1_canBeGiven NN sG ru (iN p) (iN w) (iN v) = some (iN (bN (canG a p w v))) := canBe_eq hw hG hu (by omega) hww hp2 (by omega) (by omega)
  unfold f_X0_weighHint stp
  rw [cb, ob_some]
  cases hc : canG a p w v
  · rw [if_pos bN0, if_neg (fun q => by cases q.1)]
    exact ⟨s0, rfl, hA⟩
  · rw [if_neg bN1, kw_eq hw hww, ob_some, newlyPlayable_eq ho hG hu s3 (by omega), ob_some, hA.1]
    have hle : (iN (tellN a p w v) ≤ iN m.1 - 1) ↔ ¬ m.1 ≤ tellN a p w v := by
      rw [Int32.le_iff_toInt_le, sub1_toInt (by omega), iN_toInt (by omega)]
      omega
    by_cases c : m.1 ≤ tellN a p w v
    · rw [if_neg (fun q => hle.mp q c), if_pos ⟨rfl, c⟩]
      simp only [znm_eq]
      refine ⟨_, rfl, ?_, fun _ => ⟨rfl, rfl, rfl, rfl⟩⟩
      show iN (tellN a p w v) = iN (tellN a p w v + 1) - 1
      rw [iN_subm1 (by omega)]; rfl
    · rw [if_pos (hle.mpr c), if_neg (fun q => c q.2)]
      exact ⟨s0, rfl, hA⟩
theorem chooseHint_eq (ho : okG a) (hG : encG a L sG) (hu : encRu a ru) (h10 : a 10 < a 2) (s0 s3 : Ob) : ∃ s0' s3', f_X0_chooseHint NN s0 sG ru s3 = some (s0', s3') ∧ advA (allB a (a 2 - 1)) s0' := by
  have hw := ho.1
  obtain ⟨b0, b1, b2, b3, b4, b5, b6, b7, b8, b9, b11, b12, b13⟩ := wfB hw
  have g4 := hG.2.2.2.1
  unfold f_X0_chooseHint f_X0_chooseHint_12
  rw [g4]
  have go := loopK4 (K := Unit) (z := fun _ _ _ _ => none) (F := fun _ => F_X0_chooseHint_12 NN sG ru) (R := fun _ s0' s3' => some (s0', s3')) (fun k => iN (plr a k)) (fun k => iN (k + 1)) (a 2 - 1)
    (fun k s0 s3 => advA (allB a k) s0) (fun s0 s3 => advA (allB a (a 2 - 1)) s0) ?_ ?_ NN 0 (si s0 5 (-1)) s3 ⟨rfl, fun q => absurd q (by show ¬ 1 ≤ 0; omega)⟩ (by omega) (nnb (by omega))
  · obtain ⟨s0', s3', h1, h2⟩ := go
    have h2 := h2 ()
    rw [show plr a 0 = a 10 from Nat.mod_eq_of_lt h10] at h2
    exact ⟨s0', s3', h2, h1⟩
  · intro k s0 s3 hk hA
    obtain ⟨hp, hp2⟩ := plr_b (a := a) (k := k + 1) h10 (by omega) (by omega)
    have hml := allB_le hw (show 0 < a 2 by omega) k
    obtain ⟨s4, eU⟩ := unseenKinds_eq ho hG hu s3 (p := plr a (k + 1)) (by omega)
    have hrl := rowB_le hw (p := plr a (k + 1)) (by omega) hml
    -- the ranks
    have rk := fun s0 s3 (hA : advA (rowB a (plr a (k + 1)) (allB a k) (a 0)) s0) => loopK6 (K := Int32 → Int32 → Ob → Ob → Option (Ob × Ob)) (z := fun _ _ _ _ _ _ => none) (F := fun k12 => F_X0_chooseHint_90 NN sG ru k12) (R := fun k12 s0' s3' => k12 (iN (plr a (k + 1))) (iN (k + 2)) s0' s3') (fun _ => iN (plr a (k + 1))) (fun _ => iN (k + 1)) (fun _ => kset (unsF a (plr a (k + 1)))) (fun n => iN (n + 1)) (a 1)
      (fun n s0 _ => advA (rowB a (plr a (k + 1)) (allB a k) (a 0 + n)) s0) (fun s0 _ => advA (allB a (k + 1)) s0) (by
        intro n s0 s3 hn hA
        have hww := isW_I (a := a) (i := a 0 + n) (by omega)
        obtain ⟨s0', e1, e2⟩ := x_weigh ho hG hu h10 hp hp2 hww (hrl (a 0 + n)) hA s3
        have ew : wI a (a 0 + n) = 1 := if_neg (by omega)
        have ev : vI a (a 0 + n) = n + 1 := by unfold vI; rw [if_neg (by omega)]; omega
        rw [ew, ev] at e1
        refine ⟨s0', s3, e2, fun k12 self => ?_⟩
        unfold F_X0_chooseHint_90
        rw [hu.2.1, if_neg (fun q => absurd ((iN_lt (by omega) (by omega)).mp q) (by omega)), show (1 : Int32) = iN 1 from rfl, e1, ob_some, iN_add]) (by
        intro s0 s3 hA
        refine ⟨s0, s3, hA, fun k12 self => ?_⟩
        unfold F_X0_chooseHint_90
        rw [hu.2.1, if_pos ((iN_lt (by omega) (by omega)).mpr (by omega)), iN_p1]) NN 0 s0 s3 hA (by omega) (nnb (by omega))
    -- the colors
    have cl := loopK6 (K := Int32 → Int32 → Ob → Ob → Option (Ob × Ob)) (z := fun _ _ _ _ _ _ => none) (F := fun k12 => F_X0_chooseHint_58 NN sG ru k12) (R := fun k12 s0' s3' => k12 (iN (plr a (k + 1))) (iN (k + 2)) s0' s3') (fun _ => iN (plr a (k + 1))) (fun _ => iN (k + 1)) (fun _ => kset (unsF a (plr a (k + 1)))) (fun n => iN n) (a 0)
      (fun n s0 _ => advA (rowB a (plr a (k + 1)) (allB a k) n) s0) (fun s0 _ => advA (allB a (k + 1)) s0) (by
        intro n s0 s3 hn hA
        have hww := isW_I (a := a) (i := n) (by omega)
        obtain ⟨s0', e1, e2⟩ := x_weigh ho hG hu h10 hp hp2 hww (hrl n) hA s3
        have ew : wI a n = 0 := if_pos hn
        have ev : vI a n = n := if_pos hn
        rw [ew, ev] at e1
        refine ⟨s0', s3, e2, fun k12 self => ?_⟩
        unfold F_X0_chooseHint_58
        rw [hu.1, if_neg (fun q => absurd ((iN_le (by omega) (by omega)).mp q) (by omega)), show (0 : Int32) = iN 0 from rfl, e1, ob_some, iN_p1]) (by
        intro s0 s3 hA
        obtain ⟨s0', s3', h1, h2⟩ := rk s0 s3 hA
        refine ⟨s0', s3', h1, fun k12 self => ?_⟩
        unfold F_X0_chooseHint_58
        rw [hu.1, if_pos ((iN_le (by omega) (by omega)).mpr (Nat.le_refl _))]
        exact h2 k12) NN 0 s0 s4 hA (by omega) (nnb (by omega))
    obtain ⟨s0', s3', h1, h2⟩ := cl
    refine ⟨s0', s3', h1, fun _ self => ?_⟩
    have e43 : f_X0_chooseHint_43 NN sG ru self (iN (k + 1)) (iN (plr a (k + 1))) s0 s3 = self (iN (plr a (k + 1))) (iN (k + 1 + 1)) s0' s3' := by
      unfold f_X0_chooseHint_43
      rw [eU, ob_some]
      exact h2 self
    have hpl : plr a (k + 1) = if a 2 ≤ plr a k + 1 then 0 else plr a k + 1 := by
      have : plr a k < a 2 := Nat.mod_lt _ (by omega)
      unfold plr at *
      rw [show a 10 + (k + 1) = (a 10 + k) + 1 by omega, Nat.add_mod]
      by_cases c : a 2 ≤ (a 10 + k) % a 2 + 1
      · rw [if_pos c]
        have e : (a 10 + k) % a 2 + 1 = a 2 := by omega
        by_cases c1 : a 2 = 1
        · omega
        · rw [Nat.mod_eq_of_lt (show 1 < a 2 by omega), e, Nat.mod_self]
      · rw [if_neg c, Nat.mod_eq_of_lt (show 1 < a 2 by omega), Nat.mod_eq_of_lt (by omega)]
    have hlt : plr a k < a 2 := Nat.mod_lt _ (by omega)
    unfold F_X0_chooseHint_12
    rw [hu.2.2.1, if_neg (fun q => absurd ((iN_le (by omega) (by omega)).mp q) (by omega)), iN_p1]
    by_cases c : a 2 ≤ plr a k + 1
    · rw [if_pos c] at hpl
      rw [hpl] at e43
      rw [if_pos ((iN_le (by omega) (by omega)).mpr c), hpl]
      exact e43
    · rw [if_neg c] at hpl
      rw [hpl] at e43
      rw [if_neg (fun q => c ((iN_le (by omega) (by omega)).mp q)), hpl]
      exact e43
  · intro s0 s3 hA
    refine ⟨s0, s3, hA, fun _ self => ?_⟩
    unfold F_X0_chooseHint_12
    rw [hu.2.2.1, show a 2 - 1 + 1 = a 2 by omega, if_pos ((iN_le (by omega) (by omega)).mpr (Nat.le_refl _))]
end BST
