/-! OWN: the pure half: numbers, loops by fuel -/
abbrev NN : Nat := 100000
theorem loop1 {A β : Type} {z : A → Option β} {F : (A → Option β) → A → Option β} (sa : Nat → A) (b : Nat) {res : Option β} (step : ∀ k, k < b → ∀ self : A → Option β, F self (sa k) = self (sa (k + 1))) (fin : ∀ self : A → Option β, F self (sa b) = res) : ∀ n k, k ≤ b → b < k + n → zlp z F n (sa k) = res := by
  intro n
  induction n with
  | zero => intro k h1 h2; omega
  | succ n ih =>
    intro k h1 h2
    show F (zlp z F n) (sa k) = res
    by_cases e : k = b
    · subst e; exact fin _
    · rw [step k (by omega)]
      exact ih (k + 1) (by omega) (by omega)
theorem loop2 {A B β : Type} {z : A → B → Option β} {F : (A → B → Option β) → A → B → Option β} (sa : Nat → A) (sb : Nat → B) (b : Nat) {res : Option β} (step : ∀ k, k < b → ∀ self : A → B → Option β, F self (sa k) (sb k) = self (sa (k + 1)) (sb (k + 1))) (fin : ∀ self : A → B → Option β, F self (sa b) (sb b) = res) : ∀ n k, k ≤ b → b < k + n → zlp z F n (sa k) (sb k) = res := by
  intro n
  induction n with
  | zero => intro k h1 h2; omega
  | succ n ih =>
    intro k h1 h2
    show F (zlp z F n) (sa k) (sb k) = res
    by_cases e : k = b
    · subst e; exact fin _
    · rw [step k (by omega)]
      exact ih (k + 1) (by omega) (by omega)
theorem loop3 {A B C β : Type} {z : A → B → C → Option β} {F : (A → B → C → Option β) → A → B → C → Option β} (sa : Nat → A) (sb : Nat → B) (sc : Nat → C) (b : Nat) {res : Option β} (step : ∀ k, k < b → ∀ self : A → B → C → Option β, F self (sa k) (sb k) (sc k) = self (sa (k + 1)) (sb (k + 1)) (sc (k + 1))) (fin : ∀ self : A → B → C → Option β, F self (sa b) (sb b) (sc b) = res) : ∀ n k, k ≤ b → b < k + n → zlp z F n (sa k) (sb k) (sc k) = res := by
  intro n
  induction n with
  | zero => intro k h1 h2; omega
  | succ n ih =>
    intro k h1 h2
    show F (zlp z F n) (sa k) (sb k) (sc k) = res
    by_cases e : k = b
    · subst e; exact fin _
    · rw [step k (by omega)]
      exact ih (k + 1) (by omega) (by omega)
theorem loop4 {A B C D β : Type} {z : A → B → C → D → Option β} {F : (A → B → C → D → Option β) → A → B → C → D → Option β} (sa : Nat → A) (sb : Nat → B) (sc : Nat → C) (sd : Nat → D) (b : Nat) {res : Option β} (step : ∀ k, k < b → ∀ self : A → B → C → D → Option β, F self (sa k) (sb k) (sc k) (sd k) = self (sa (k + 1)) (sb (k + 1)) (sc (k + 1)) (sd (k + 1))) (fin : ∀ self : A → B → C → D → Option β, F self (sa b) (sb b) (sc b) (sd b) = res) : ∀ n k, k ≤ b → b < k + n → zlp z F n (sa k) (sb k) (sc k) (sd k) = res := by
  intro n
  induction n with
  | zero => intro k h1 h2; omega
  | succ n ih =>
    intro k h1 h2
    show F (zlp z F n) (sa k) (sb k) (sc k) (sd k) = res
    by_cases e : k = b
    · subst e; exact fin _
    · rw [step k (by omega)]
      exact ih (k + 1) (by omega) (by omega)
/-- a small number -/
abbrev iN (k : Nat) : Int32 := Int32.ofNat k
theorem iN_toInt {k : Nat} (h : k < 2 ^ 31) : (iN k).toInt = (k : Int) := Int32.toInt_ofNat_of_lt h
theorem iN_lt {a b : Nat} (ha : a < 2 ^ 31) (hb : b < 2 ^ 31) : iN a < iN b ↔ a < b := by
  rw [Int32.lt_iff_toInt_lt, iN_toInt ha, iN_toInt hb]; omega
theorem iN_le {a b : Nat} (ha : a < 2 ^ 31) (hb : b < 2 ^ 31) : iN a ≤ iN b ↔ a ≤ b := by
  rw [Int32.le_iff_toInt_le, iN_toInt ha, iN_toInt hb]; omega
theorem iN_inj {a b : Nat} (ha : a < 2 ^ 31) (hb : b < 2 ^ 31) : iN a = iN b ↔ a = b := by
  rw [← Int32.toInt_inj, iN_toInt ha, iN_toInt hb]; omega
theorem iN_add (a b : Nat) : iN a + iN b = iN (a + b) := (Int32.ofNat_add a b).symm
theorem iN_clamp {k : Nat} (h : k < 2 ^ 31) : (iN k).toNatClampNeg = k := clamp_ofNat h
theorem iN_inb {k n : Nat} (hk : k < n) (hn : n < 2 ^ 31) : inb (iN k) n = true := inb_ofNat hk hn
theorem chk_t {α : Type} {b : Bool} {x : Option α} (h : b = true) : chk b x = x := if_pos h
/-- a number that is not negative is a small one -/
theorem iN_of {x : Int32} (h : ¬ x < 0) : x = iN x.toNatClampNeg ∧ x.toNatClampNeg < 2 ^ 31 := by
  have h0 : (0 : Int) ≤ x.toInt := by
    have := Int32.not_lt.mp h
    simpa using Int32.le_iff_toInt_le.mp this
  have h2 : x.toInt < 2 ^ 31 := Int32.toInt_lt x
  have e : x.toNatClampNeg = x.toInt.toNat := rfl
  have hb : x.toNatClampNeg < 2 ^ 31 := by rw [e]; omega
  refine ⟨?_, hb⟩
  rw [← Int32.toInt_inj, iN_toInt hb, e]
  omega
theorem X1_score_eq (s : Ob) : f_X1_score NN s = some (0 + s.2.2.1 11 0 + s.2.2.1 11 1 + s.2.2.1 11 2 + s.2.2.1 11 3) := rfl
theorem X8_score_eq (s : Ob) : f_X8_score NN s = some (0 + s.2.2.1 0 14 + s.2.2.1 0 15 + s.2.2.1 0 16 + s.2.2.1 0 17) := rfl
