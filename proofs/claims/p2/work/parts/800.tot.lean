/-! OWN: that a function comes to its end, whatever it answers -/
def Tot {β : Type} (o : Option β) (Q : β → Prop) : Prop := ∃ r, o = some r ∧ Q r
def Ya {β : Type} : β → Prop := fun _ => True
theorem tt_some {β : Type} {r : β} {Q : β → Prop} (h : Q r) : Tot (some r) Q := ⟨r, rfl, h⟩
theorem tt_ya {β : Type} {o : Option β} {r : β} (h : o = some r) : Tot o Ya := ⟨r, h, trivial⟩
theorem tt_ob {α β : Type} {x : Option α} {k : α → Option β} {P : α → Prop} {Q : β → Prop} (h : Tot x P) (hk : ∀ r, P r → Tot (k r) Q) : Tot (ob x k) Q := by
  obtain ⟨r, h1, h2⟩ := h
  obtain ⟨r2, h3, h4⟩ := hk r h2
  exact ⟨r2, by rw [h1, ob_some, h3], h4⟩
theorem tt_chk {β : Type} {b : Bool} {x : Option β} {Q : β → Prop} (hb : b = true) (h : Tot x Q) : Tot (chk b x) Q := by
  rw [chk_t hb]
  exact h
theorem tt_ite {β : Type} {c : Prop} {d : Decidable c} {x y : Option β} {Q : β → Prop} (h1 : c → Tot x Q) (h2 : ¬ c → Tot y Q) : Tot (if c then x else y) Q := by
  by_cases h : c
  · rw [if_pos h]
    exact h1 h
  · rw [if_neg h]
    exact h2 h
theorem tt_mono {β : Type} {o : Option β} {Q Q' : β → Prop} (h : Tot o Q) (hq : ∀ r, Q r → Q' r) : Tot o Q' := by
  obtain ⟨r, h1, h2⟩ := h
  exact ⟨r, h1, hq r h2⟩
theorem tt_any {β : Type} {o : Option β} {Q : β → Prop} (h : Tot o Q) : Tot o Ya := tt_mono h fun _ _ => trivial
theorem tlk1 {A β : Type} {z : A → Option β} {F : (A → Option β) → A → Option β} {Q : β → Prop} (I : Nat → A → Prop) (step : ∀ j a, I j a → ∀ self : A → Option β, (∀ j' a', j' < j → I j' a' → Tot (self a') Q) → Tot (F self a) Q) : ∀ n j a, j < n → I j a → Tot (zlp z F n a) Q := by
  intro n
  induction n with
  | zero => intro j a h; omega
  | succ n ih =>
    intro j a h hI
    exact step j a hI (zlp z F n) (fun j' a' h1 h2 => ih j' a' (by omega) h2)
theorem tlk2 {A B β : Type} {z : A → B → Option β} {F : (A → B → Option β) → A → B → Option β} {Q : β → Prop} (I : Nat → A → B → Prop) (step : ∀ j a b, I j a b → ∀ self : A → B → Option β, (∀ j' a' b', j' < j → I j' a' b' → Tot (self a' b') Q) → Tot (F self a b) Q) : ∀ n j a b, j < n → I j a b → Tot (zlp z F n a b) Q := by
  intro n
  induction n with
  | zero => intro j a b h; omega
  | succ n ih =>
    intro j a b h hI
    exact step j a b hI (zlp z F n) (fun j' a' b' h1 h2 => ih j' a' b' (by omega) h2)
theorem tlk3 {A B C β : Type} {z : A → B → C → Option β} {F : (A → B → C → Option β) → A → B → C → Option β} {Q : β → Prop} (I : Nat → A → B → C → Prop) (step : ∀ j a b c, I j a b c → ∀ self : A → B → C → Option β, (∀ j' a' b' c', j' < j → I j' a' b' c' → Tot (self a' b' c') Q) → Tot (F self a b c) Q) : ∀ n j a b c, j < n → I j a b c → Tot (zlp z F n a b c) Q := by
  intro n
  induction n with
  | zero => intro j a b c h; omega
  | succ n ih =>
    intro j a b c h hI
    exact step j a b c hI (zlp z F n) (fun j' a' b' c' h1 h2 => ih j' a' b' c' (by omega) h2)
theorem tlk4 {A B C D β : Type} {z : A → B → C → D → Option β} {F : (A → B → C → D → Option β) → A → B → C → D → Option β} {Q : β → Prop} (I : Nat → A → B → C → D → Prop) (step : ∀ j a b c d, I j a b c d → ∀ self : A → B → C → D → Option β, (∀ j' a' b' c' d', j' < j → I j' a' b' c' d' → Tot (self a' b' c' d') Q) → Tot (F self a b c d) Q) : ∀ n j a b c d, j < n → I j a b c d → Tot (zlp z F n a b c d) Q := by
  intro n
  induction n with
  | zero => intro j a b c d h; omega
  | succ n ih =>
    intro j a b c d h hI
    exact step j a b c d hI (zlp z F n) (fun j' a' b' c' d' h1 h2 => ih j' a' b' c' d' (by omega) h2)
theorem tlk5 {A B C D E β : Type} {z : A → B → C → D → E → Option β} {F : (A → B → C → D → E → Option β) → A → B → C → D → E → Option β} {Q : β → Prop} (I : Nat → A → B → C → D → E → Prop) (step : ∀ j a b c d e, I j a b c d e → ∀ self : A → B → C → D → E → Option β, (∀ j' a' b' c' d' e', j' < j → I j' a' b' c' d' e' → Tot (self a' b' c' d' e') Q) → Tot (F self a b c d e) Q) : ∀ n j a b c d e, j < n → I j a b c d e → Tot (zlp z F n a b c d e) Q := by
  intro n
  induction n with
  | zero => intro j a b c d e h; omega
  | succ n ih =>
    intro j a b c d e h hI
    exact step j a b c d e hI (zlp z F n) (fun j' a' b' c' d' e' h1 h2 => ih j' a' b' c' d' e' (by omega) h2)
theorem tlk6 {A B C D E G β : Type} {z : A → B → C → D → E → G → Option β} {F : (A → B → C → D → E → G → Option β) → A → B → C → D → E → G → Option β} {Q : β → Prop} (I : Nat → A → B → C → D → E → G → Prop) (step : ∀ j a b c d e g, I j a b c d e g → ∀ self : A → B → C → D → E → G → Option β, (∀ j' a' b' c' d' e' g', j' < j → I j' a' b' c' d' e' g' → Tot (self a' b' c' d' e' g') Q) → Tot (F self a b c d e g) Q) : ∀ n j a b c d e g, j < n → I j a b c d e g → Tot (zlp z F n a b c d e g) Q := by
  intro n
  induction n with
  | zero => intro j a b c d e g h; omega
  | succ n ih =>
    intro j a b c d e g h hI
    exact step j a b c d e g hI (zlp z F n) (fun j' a' b' c' d' e' g' h1 h2 => ih j' a' b' c' d' e' g' (by omega) h2)
theorem tlk7 {A B C D E G H β : Type} {z : A → B → C → D → E → G → H → Option β} {F : (A → B → C → D → E → G → H → Option β) → A → B → C → D → E → G → H → Option β} {Q : β → Prop} (I : Nat → A → B → C → D → E → G → H → Prop) (step : ∀ j a b c d e g i, I j a b c d e g i → ∀ self : A → B → C → D → E → G → H → Option β, (∀ j' a' b' c' d' e' g' i', j' < j → I j' a' b' c' d' e' g' i' → Tot (self a' b' c' d' e' g' i') Q) → Tot (F self a b c d e g i) Q) : ∀ n j a b c d e g i, j < n → I j a b c d e g i → Tot (zlp z F n a b c d e g i) Q := by
  intro n
  induction n with
  | zero => intro j a b c d e g i h; omega
  | succ n ih =>
    intro j a b c d e g i h hI
    exact step j a b c d e g i hI (zlp z F n) (fun j' a' b' c' d' e' g' i' h1 h2 => ih j' a' b' c' d' e' g' i' (by omega) h2)
/-- a counter on its way up to b, with j steps left -/
def Cn (b j : Nat) (v : Int32) : Prop := ∃ k, k + j = b ∧ v = iN k
theorem cn_0 (b : Nat) : Cn b b (0 : Int32) := ⟨0, by omega, rfl⟩
theorem inc1 (k : Nat) : iN k + (1 : Int32) = iN (k + 1) := iN_add k 1
theorem nle {c k : Nat} (hc : c < 2 ^ 31) (hk : k < 2 ^ 31) (h : ¬ iN c ≤ iN k) : k < c := by
  rcases Nat.lt_or_ge k c with q | q
  · exact q
  · exact absurd ((iN_le hc hk).mpr q) h
theorem and_mask (x : Int32) {b : Nat} : ∃ m, m < 2 ^ b ∧ x &&& iN (2 ^ b - 1) = iN m := by
  refine ⟨bnum (bitI x) b, bnum_lt _ b, bit_ext fun i hi => ?_⟩
  rw [bit_and, bit_iN _ _ hi, bit_iN _ _ hi, Nat.testBit_two_pow_sub_one, tb_bnum, Bool.and_comm]
theorem bit_l2i (x : Int64) {i : Nat} (hi : i < 32) : bitI x.toInt32 i = bitL x i := by
  unfold bitI bitL
  show (x.toBitVec.signExtend 32).getLsbD i = _
  rw [BitVec.getLsbD_signExtend]
  have h : i < 64 := by omega
  simp [hi, h]
theorem bitL_out (x : Int64) {i : Nat} (h : 64 ≤ i) : bitL x i = false := BitVec.getLsbD_of_ge _ _ h
