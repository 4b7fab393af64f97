/-! OWN: the pure half: the hint that is chosen, in the model -/
theorem loopK31 {K A B E C β : Type} {z : A → B → E → C → Option β} {F : K → (A → B → E → C → Option β) → A → B → E → C → Option β} {R : K → C → Option β} (sa : Nat → A) (sb : Nat → B) (se : Nat → E) (b : Nat) (P : Nat → C → Prop) (Q : C → Prop) (step : ∀ k c, k < b → P k c → ∃ c', P (k + 1) c' ∧ ∀ (κ : K) (self : A → B → E → C → Option β), F κ self (sa k) (sb k) (se k) c = self (sa (k + 1)) (sb (k + 1)) (se (k + 1)) c') (fin : ∀ c, P b c → ∃ c', Q c' ∧ ∀ (κ : K) (self : A → B → E → C → Option β), F κ self (sa b) (sb b) (se b) c = R κ c') : ∀ n k c, P k c → k ≤ b → b < k + n → ∃ c', Q c' ∧ ∀ κ : K, zlp z (F κ) n (sa k) (sb k) (se k) c = R κ c' := by
  intro n
  induction n with
  | zero => intro k c _ h1 h2; omega
  | succ n ih =>
    intro k c hP h1 h2
    by_cases e : k = b
    · subst e
      obtain ⟨c', hq, hf⟩ := fin c hP
      exact ⟨c', hq, fun κ => hf κ _⟩
    · obtain ⟨c', hP', hs⟩ := step k c (by omega) hP
      obtain ⟨c2, hq, hz⟩ := ih (k + 1) c' hP' (by omega) (by omega)
      exact ⟨c2, hq, fun κ => (hs κ _).trans (hz κ)⟩
theorem loopK51 {K A B E G H C β : Type} {z : A → B → E → G → H → C → Option β} {F : K → (A → B → E → G → H → C → Option β) → A → B → E → G → H → C → Option β} {R : K → C → Option β} (sa : Nat → A) (sb : Nat → B) (se : Nat → E) (sg : Nat → G) (sh : Nat → H) (b : Nat) (P : Nat → C → Prop) (Q : C → Prop) (step : ∀ k c, k < b → P k c → ∃ c', P (k + 1) c' ∧ ∀ (κ : K) (self : A → B → E → G → H → C → Option β), F κ self (sa k) (sb k) (se k) (sg k) (sh k) c = self (sa (k + 1)) (sb (k + 1)) (se (k + 1)) (sg (k + 1)) (sh (k + 1)) c') (fin : ∀ c, P b c → ∃ c', Q c' ∧ ∀ (κ : K) (self : A → B → E → G → H → C → Option β), F κ self (sa b) (sb b) (se b) (sg b) (sh b) c = R κ c') : ∀ n k c, P k c → k ≤ b → b < k + n → ∃ c', Q c' ∧ ∀ κ : K, zlp z (F κ) n (sa k) (sb k) (se k) (sg k) (sh k) c = R κ c' := by
  intro n
  induction n with
  | zero => intro k c _ h1 h2; omega
  | succ n ih =>
    intro k c hP h1 h2
    by_cases e : k = b
    · subst e
      obtain ⟨c', hq, hf⟩ := fin c hP
      exact ⟨c', hq, fun κ => hf κ _⟩
    · obtain ⟨c', hP', hs⟩ := step k c (by omega) hP
      obtain ⟨c2, hq, hz⟩ := ih (k + 1) c' hP' (by omega) (by omega)
      exact ⟨c2, hq, fun κ => (hs κ _).trans (hz κ)⟩
def hintF (m : St) (f : Nat → Int32) : Prop := f 0 = 2 ∧ f 1 = iN m.2.1 ∧ f 2 = iN m.2.2.1 ∧ f 3 = iN m.2.2.2
def V2 (mode : Bool) (m : St) : Int32 := if mode then iN (m.1 - 1) else iN (bN (decide (1 ≤ m.1))) - 1
def V3 (mode : Bool) (m : St) : Int32 := if mode then iN (bN (decide (2 ≤ m.1))) else iN (bN (decide (1 ≤ m.1)))
def HF (mode : Bool) (m : St) (f : Nat → Int32) : Prop := if mode then (2 ≤ m.1 → hintF m f) else (m.1 = 1 → hintF m f)
def advs (f : Nat → Int32) (x0 x1 x2 x3 : Int32) : Nat → Int32 := upd (upd (upd (upd f 0 x0) 1 x1) 2 x2) 3 x3
theorem advs_at (f : Nat → Int32) (x0 x1 x2 x3 : Int32) : advs f x0 x1 x2 x3 0 = x0 ∧ advs f x0 x1 x2 x3 1 = x1 ∧ advs f x0 x1 x2 x3 2 = x2 ∧ advs f x0 x1 x2 x3 3 = x3 := by
  unfold advs
  refine ⟨?_, ?_, ?_, ?_⟩
  · rw [upd_at, if_neg (by omega), upd_at, if_neg (by omega), upd_at, if_neg (by omega), upd_at, if_pos rfl]
  · rw [upd_at, if_neg (by omega), upd_at, if_neg (by omega), upd_at, if_pos rfl]
  · rw [upd_at, if_neg (by omega), upd_at, if_pos rfl]
  · rw [upd_at, if_pos rfl]
theorem adv_eq (s : Ob) (f : Nat → Int32) (x0 x1 x2 x3 : Int32) : f_X8_advises NN (sa s 18 f) x0 x1 x2 x3 = some (sa s 18 (advs f x0 x1 x2 x3)) := by
  have q : ∀ g : Nat → Int32, (sa s 18 g).2.2.1 18 = g := fun g => id rfl
  unfold f_X8_advises
  simp only [znm_eq, sa_sa, q]
  rfl
section BSM
variable {a : Gm} {L : Nat → Int32} {s : Ob}
theorem weigh_m (ho : okG a) (hr : encR a L (s.2.2.1 0)) (h7 : 1 ≤ a 7) {p w v : Nat} (hp : p < 4) (hww : isW a w v) {m : St} (hm : m.1 ≤ 6) (mode : Bool) {f : Nat → Int32} (hf : HF mode m f) : ∃ f', HF mode (stp a p w v m) f' ∧ ∀ (k15 : Int32 → Int32 → Int32 → Ob → Option (Int32 × Ob)) (k58 : Int32 → Int32 → Int32 → Int32 → Int32 → Ob → Option (Int32 × Ob)) (v4 v6 : Int32), f_X8_findsHint_115 NN (iN (bN mode)) k15 k58 (V2 mode m) (V3 mode m) v4 (iN p) v6 (iN w) (iN v) (sa s 18 f) = k58 (V2 mode (stp a p w v m)) (V3 mode (stp a p w v m)) v4 (iN p) (v6 + 1) (sa s 18 f') := by
  have hw := ho.1
  have ht := tellN_le hw (p := p) (w := w) (v := v) hp
  have hr' : encR a L ((sa s 18 f).2.2.1 0) := hr
  have cs := canSay_eq (sM := sa s 18 f) hw hr' hp hww
  have te := X8_telling_eq (sM := sa s 18 f) ho hr' hp hww
  have hcan : canG a p w v = sayB a p w v := by unfold canG; rw [decide_eq_true h7, Bool.true_and]
  cases hc : sayB a p w v
  · refine ⟨f, ?_, fun k15 k58 v4 v6 => ?_⟩
    · unfold stp
      rw [hcan, hc, if_neg (fun q => by cases q.1)]; exact hf
    · unfold f_X8_findsHint_115 stp
      rw [cs, ob_some, hc, if_pos bN0, hcan, hc, if_neg (fun q => by cases q.1)]
  · cases mode
    · -- the first one of all
      by_cases c1 : 1 ≤ m.1
      · have e3 : V3 false m = 1 := by unfold V3; rw [if_neg (by decide), decide_eq_true c1]; rfl
        have hst : 1 ≤ (stp a p w v m).1 := by
          unfold stp
          split
          · show 1 ≤ tellN a p w v + 1; omega
          · exact c1
        have e3' : V3 false (stp a p w v m) = V3 false m := by unfold V3; rw [if_neg (by decide), if_neg (by decide), decide_eq_true c1, decide_eq_true hst]
        have e2' : V2 false (stp a p w v m) = V2 false m := by unfold V2; rw [if_neg (by decide), if_neg (by decide), decide_eq_true c1, decide_eq_true hst]
        refine ⟨f, ?_, fun k15 k58 v4 v6 => ?_⟩
        · show (stp a p w v m).1 = 1 → hintF (stp a p w v m) f
          intro h1
          unfold stp at h1 ⊢
          by_cases c2 : canG a p w v = true ∧ m.1 ≤ tellN a p w v
          · rw [if_pos c2] at h1
            have h1 : tellN a p w v + 1 = 1 := h1
            omega
          · rw [if_neg c2] at h1 ⊢
            exact hf h1
        · unfold f_X8_findsHint_115
          rw [cs, ob_some, hc, if_neg bN1, if_pos bN0, e3, if_neg (by decide), e3', e2', e3]
      · have m0 : m.1 = 0 := by omega
        have e3 : V3 false m = 0 := by unfold V3; rw [if_neg (by decide), decide_eq_false c1]; rfl
        have e2 : V2 false m = -1 := by unfold V2; rw [if_neg (by decide), decide_eq_false c1]; rfl
        have est : stp a p w v m = (tellN a p w v + 1, p, w, v) := by
          unfold stp
          rw [if_pos ⟨by rw [hcan, hc], by omega⟩]
        have e3' : V3 false (stp a p w v m) = 1 := by
          rw [est]
          unfold V3
          rw [if_neg (by decide), decide_eq_true (show 1 ≤ tellN a p w v + 1 by omega)]; rfl
        have e2' : V2 false (stp a p w v m) = 0 := by
          rw [est]
          unfold V2
          rw [if_neg (by decide), decide_eq_true (show 1 ≤ tellN a p w v + 1 by omega)]; rfl
        obtain ⟨a0, a1, a2, a3⟩ := advs_at f 2 (iN p) (iN w) (iN v)
        refine ⟨advs f 2 (iN p) (iN w) (iN v), ?_, fun k15 k58 v4 v6 => ?_⟩
        · show (stp a p w v m).1 = 1 → hintF (stp a p w v m) _
          intro _
          rw [est]
          exact ⟨a0, a1, a2, a3⟩
        · unfold f_X8_findsHint_115
          rw [cs, ob_some, hc, if_neg bN1, if_pos bN0, e3, if_pos rfl]
          unfold f_X8_findsHint_141 f_X8_findsHint_159
          rw [if_pos bN0, e2, if_neg (by decide), adv_eq, ob_some, e3', e2']
    · -- the one that tells most
      have ev2 : V2 true m = iN (m.1 - 1) := rfl
      by_cases c1 : tellN a p w v ≤ m.1 - 1
      · have e2' : V2 true (stp a p w v m) = V2 true m := by
          unfold V2 stp
          rw [if_pos rfl, if_pos rfl]
          split
          · rename_i c2
            show iN (tellN a p w v + 1 - 1) = _
            congr 1
            omega
          · rfl
        have e3' : V3 true (stp a p w v m) = V3 true m := by
          unfold V3 stp
          rw [if_pos rfl, if_pos rfl]
          split
          · rename_i c2
            have : decide (2 ≤ tellN a p w v + 1) = decide (2 ≤ m.1) := decide_eq_decide.mpr (by omega)
            show iN (bN (decide (2 ≤ tellN a p w v + 1))) = _
            rw [this]
          · rfl
        refine ⟨f, ?_, fun k15 k58 v4 v6 => ?_⟩
        · show 2 ≤ (stp a p w v m).1 → hintF (stp a p w v m) f
          intro h2
          unfold stp at h2 ⊢
          by_cases c2 : canG a p w v = true ∧ m.1 ≤ tellN a p w v
          · rw [if_pos c2] at h2
            have h2 : 2 ≤ tellN a p w v + 1 := h2
            omega
          · rw [if_neg c2] at h2 ⊢
            exact hf h2
        · unfold f_X8_findsHint_115
          rw [cs, ob_some, hc, if_neg bN1, if_neg bN1]
          unfold f_X8_findsHint_141 f_X8_findsHint_159
          rw [if_neg bN1, te, ob_some, ev2, if_pos ((iN_le (by omega) (by omega)).mpr c1), e2', e3', ev2]
      · have est : stp a p w v m = (tellN a p w v + 1, p, w, v) := by
          unfold stp
          rw [if_pos ⟨by rw [hcan, hc], by omega⟩]
        have e3' : V3 true (stp a p w v m) = 1 := by
          rw [est]
          unfold V3
          rw [if_pos rfl, decide_eq_true (show 2 ≤ tellN a p w v + 1 by omega)]; rfl
        have e2' : V2 true (stp a p w v m) = iN (tellN a p w v) := by
          rw [est]
          rfl
        obtain ⟨a0, a1, a2, a3⟩ := advs_at f 2 (iN p) (iN w) (iN v)
        refine ⟨advs f 2 (iN p) (iN w) (iN v), ?_, fun k15 k58 v4 v6 => ?_⟩
        · show 2 ≤ (stp a p w v m).1 → hintF (stp a p w v m) _
          intro _
          rw [est]
          exact ⟨a0, a1, a2, a3⟩
        · unfold f_X8_findsHint_115
          rw [cs, ob_some, hc, if_neg bN1, if_neg bN1]
          unfold f_X8_findsHint_141 f_X8_findsHint_159
          rw [if_neg bN1, te, ob_some, ev2, if_neg (fun q => c1 ((iN_le (by omega) (by omega)).mp q)), adv_eq, ob_some, e2', e3']
theorem stp_0 {p w v : Nat} {m : St} (h7 : a 7 = 0) : stp a p w v m = m := by
  unfold stp canG
  rw [decide_eq_false (by omega)]
  exact if_neg (fun q => by cases q.1)
theorem rowB_0 {p : Nat} {m : St} (h7 : a 7 = 0) : ∀ n, rowB a p m n = m := by
  intro n
  induction n with
  | zero => rfl
  | succ n ih =>
    show stp a p _ _ (rowB a p m n) = m
    rw [stp_0 h7, ih]
theorem allB_0 (h7 : a 7 = 0) : ∀ k, allB a k = (0, 0, 0, 0) := by
  intro k
  induction k with
  | zero => rfl
  | succ k ih =>
    show rowB a (plr a (k + 1)) (allB a k) (a 0 + a 1) = _
    rw [rowB_0 h7, ih]
theorem V3_z (mode : Bool) (m : St) : zisB (V3 mode m) = true := by
  unfold V3
  cases mode
  · rw [if_neg (by decide)]
    cases decide (1 ≤ m.1) <;> decide
  · rw [if_pos rfl]
    cases decide (2 ≤ m.1) <;> decide
theorem findsHint_eq (ho : okG a) (hr : encR a L (s.2.2.1 0)) (h10 : a 10 < a 2) (mode : Bool) (f0 : Nat → Int32) : ∃ f, f_X8_findsHint NN (sa s 18 f0) (iN (bN mode)) = some (V3 mode (allB a (a 2 - 1)), sa s 18 f) ∧ HF mode (allB a (a 2 - 1)) f := by
  have hw := ho.1
  obtain ⟨b0, b1, b2, b3, b4, b5, b6, b7, b8, b9, b11, b12, b13⟩ := wfB hw
  have rr : ∀ f : Nat → Int32, (sa s 18 f).2.2.1 0 = s.2.2.1 0 := fun f => id rfl
  have e0 : s.2.2.1 0 0 = iN (a 0) := hr.1 0 (by omega) (by omega)
  have e1 : s.2.2.1 0 1 = iN (a 1) := hr.1 1 (by omega) (by omega)
  have e2 : s.2.2.1 0 2 = iN (a 2) := hr.1 2 (by omega) (by omega)
  have e7 : s.2.2.1 0 7 = iN (a 7) := hr.1 7 (by omega) (by omega)
  have e10 : s.2.2.1 0 10 = iN (a 10) := hr.1 10 (by omega) (by omega)
  have start : f_X8_findsHint NN (sa s 18 f0) (iN (bN mode)) = zlp (fun _ _ _ _ => none) (F_X8_findsHint_15 NN (iN (bN mode))) NN (V2 mode (allB a 0)) (V3 mode (allB a 0)) (iN 1) (sa s 18 f0) := by
    unfold f_X8_findsHint f_X8_findsHint_15
    cases mode
    · rw [if_pos bN0]; rfl
    · rw [if_neg bN1]; rfl
  rw [start]
  have h00 : HF mode (allB a 0) f0 := by
    unfold HF
    cases mode
    · rw [if_neg (by decide)]; intro h; cases h
    · rw [if_pos rfl]; intro h; exact absurd h (by show ¬ 2 ≤ 0; omega)
  by_cases h7 : a 7 = 0
  · refine ⟨f0, ?_, by rw [allB_0 h7, ← allB_0 h7 0]; exact h00⟩
    show F_X8_findsHint_15 NN (iN (bN mode)) _ (V2 mode (allB a 0)) (V3 mode (allB a 0)) (iN 1) (sa s 18 f0) = _
    unfold F_X8_findsHint_15
    simp only [rr, e2, e7]
    rw [V3_z, chk_true, h7, if_pos (show iN 0 ≤ 0 by decide), allB_0 h7 (a 2 - 1)]
    have : V3 mode (allB a 0) = V3 mode (0, 0, 0, 0) := rfl
    rw [this]
    split <;> rfl
  · have go := loopK31 (K := Unit) (z := fun _ _ _ _ => none) (F := fun _ => F_X8_findsHint_15 NN (iN (bN mode))) (R := fun _ s' => some (V3 mode (allB a (a 2 - 1)), s')) (fun k => V2 mode (allB a k)) (fun k => V3 mode (allB a k)) (fun k => iN (k + 1)) (a 2 - 1)
      (fun k s' => ∃ f, s' = sa s 18 f ∧ HF mode (allB a k) f) (fun s' => ∃ f, s' = sa s 18 f ∧ HF mode (allB a (a 2 - 1)) f) ?_ ?_ NN 0 (sa s 18 f0) ⟨f0, rfl, h00⟩ (by omega) (nnb (by omega))
    · obtain ⟨s', ⟨f, rfl, h1⟩, h2⟩ := go
      exact ⟨f, h2 (), h1⟩
    · rintro k s' hk ⟨f, rfl, hf⟩
      obtain ⟨hp, hp2⟩ := plr_b (a := a) (k := k + 1) h10 (by omega) (by omega)
      have hml := allB_le hw (show 0 < a 2 by omega) k
      have hrl := rowB_le hw (p := plr a (k + 1)) (by omega) hml
      have inn := loopK51 (K := Int32 → Int32 → Int32 → Ob → Option (Int32 × Ob)) (z := fun _ _ _ _ _ _ => none) (F := fun k15 => F_X8_findsHint_58 NN (iN (bN mode)) k15) (R := fun k15 s' => k15 (V2 mode (allB a (k + 1))) (V3 mode (allB a (k + 1))) (iN (k + 1 + 1)) s') (fun n => V2 mode (rowB a (plr a (k + 1)) (allB a k) n)) (fun n => V3 mode (rowB a (plr a (k + 1)) (allB a k) n)) (fun _ => iN (k + 1)) (fun _ => iN (plr a (k + 1))) (fun n => iN n) (a 0 + a 1)
        (fun n s' => ∃ f, s' = sa s 18 f ∧ HF mode (rowB a (plr a (k + 1)) (allB a k) n) f) (fun s' => ∃ f, s' = sa s 18 f ∧ HF mode (allB a (k + 1)) f) ?_ ?_ NN 0 (sa s 18 f) ⟨f, rfl, hf⟩ (by omega) (nnb (by omega))
      · obtain ⟨s', ⟨f', rfl, h1⟩, h2⟩ := inn
        refine ⟨sa s 18 f', ⟨f', rfl, h1⟩, fun _ self => ?_⟩
        have hm : iN (a 10) + iN (k + 1) - (iN (a 10) + iN (k + 1)) / iN (a 2) * iN (a 2) = iN (plr a (k + 1)) := by
          rw [iN_add, iN_div (by omega) (by omega), iN_mul, iN_sub (by exact Nat.div_mul_le_self _ _)]
          congr 1
          have := Nat.div_add_mod (a 10 + (k + 1)) (a 2)
          rw [Nat.mul_comm] at this
          unfold plr
          omega
        unfold F_X8_findsHint_15
        simp only [rr, e2, e7, e10, znm_eq]
        rw [if_neg (fun q => absurd ((iN_le (by omega) (by omega)).mp q) (by omega)), if_neg (show ¬ iN (a 7) ≤ 0 from fun q => absurd ((iN_le (b := 0) (by omega) (by omega)).mp q) (by omega)), show decide (¬ iN (a 2) = 0) = true from decide_eq_true (fun q => absurd ((iN_inj (b := 0) (by omega) (by omega)).mp q) (by omega)), chk_true, hm]
        exact h2 self
      · rintro n s' hn ⟨f, rfl, hf⟩
        have hww := isW_I (a := a) (i := n) hn
        obtain ⟨f', h1, h2⟩ := weigh_m (s := s) ho hr (by omega) (show plr a (k + 1) < 4 by omega) hww (hrl n) mode hf
        refine ⟨sa s 18 f', ⟨f', rfl, h1⟩, fun k15 self => ?_⟩
        have h2 := h2 k15 self (iN (k + 1)) (iN n)
        unfold F_X8_findsHint_58
        simp only [rr, e0, e1]
        rw [iN_add, if_neg (fun q => absurd ((iN_le (by omega) (by omega)).mp q) (by omega))]
        rw [iN_p1] at h2
        unfold f_X8_findsHint_92
        by_cases c : n < a 0
        · have ew : wI a n = 0 := if_pos c
          have ev : vI a n = n := if_pos c
          rw [ew, ev] at h2
          rw [if_neg (fun q => absurd ((iN_le (by omega) (by omega)).mp q) (by omega)), if_pos rfl]
          show _ = self (V2 mode (stp a (plr a (k + 1)) (wI a n) (vI a n) (rowB a (plr a (k + 1)) (allB a k) n))) (V3 mode (stp a (plr a (k + 1)) (wI a n) (vI a n) (rowB a (plr a (k + 1)) (allB a k) n))) _ _ _ _
          rw [ew, ev]
          exact h2
        · have ew : wI a n = 1 := if_neg c
          have ev : vI a n = n - a 0 + 1 := if_neg c
          rw [ew, ev] at h2
          rw [if_pos ((iN_le (by omega) (by omega)).mpr (by omega)), if_neg (by decide)]
          simp only [rr, e0]
          rw [iN_sub (by omega), iN_p1]
          show _ = self (V2 mode (stp a (plr a (k + 1)) (wI a n) (vI a n) (rowB a (plr a (k + 1)) (allB a k) n))) (V3 mode (stp a (plr a (k + 1)) (wI a n) (vI a n) (rowB a (plr a (k + 1)) (allB a k) n))) _ _ _ _
          rw [ew, ev]
          exact h2
      · rintro s' ⟨f, rfl, hf⟩
        refine ⟨sa s 18 f, ⟨f, rfl, hf⟩, fun k15 self => ?_⟩
        unfold F_X8_findsHint_58
        simp only [rr, e0, e1]
        rw [iN_add, if_pos ((iN_le (by omega) (by omega)).mpr (Nat.le_refl _)), iN_p1]
        rfl
    · rintro s' ⟨f, rfl, hf⟩
      refine ⟨sa s 18 f, ⟨f, rfl, hf⟩, fun _ self => ?_⟩
      unfold F_X8_findsHint_15
      simp only [rr, e2]
      rw [show a 2 - 1 + 1 = a 2 by omega, if_pos ((iN_le (by omega) (by omega)).mpr (Nat.le_refl _)), V3_z, chk_true]
end BSM
