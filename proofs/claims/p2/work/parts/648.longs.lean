/-! OWN: the pure half: bits of long numbers; loops with an invariant -/
def bitL (x : Int64) (i : Nat) : Bool := x.toBitVec.getLsbD i
theorem bitL_and (x y : Int64) (i : Nat) : bitL (x &&& y) i = (bitL x i && bitL y i) := by
  unfold bitL
  rw [Int64.toBitVec_and, BitVec.getLsbD_and]
theorem bitL_or (x y : Int64) (i : Nat) : bitL (x ||| y) i = (bitL x i || bitL y i) := by
  unfold bitL
  rw [Int64.toBitVec_or, BitVec.getLsbD_or]
theorem bitL_m1 (i : Nat) : bitL (-1) i = decide (i < 64) := by
  show (BitVec.allOnes 64).getLsbD i = _
  rw [BitVec.getLsbD_allOnes]
theorem bitL_cmpl (x : Int64) (i : Nat) (h : i < 64) : bitL (x ^^^ -1) i = !bitL x i := by
  have e := bitL_m1 i
  unfold bitL at *
  rw [Int64.toBitVec_xor, BitVec.getLsbD_xor, e, decide_eq_true h, Bool.xor_true]
theorem bitL_ext {x y : Int64} (h : ∀ i, i < 64 → bitL x i = bitL y i) : x = y := by
  apply Int64.toBitVec.inj
  apply BitVec.eq_of_getLsbD_eq
  intro i hi
  exact h i hi
theorem bitL_zero (i : Nat) : bitL 0 i = false := by
  show (BitVec.ofNat 64 0).getLsbD i = _
  rw [BitVec.getLsbD_ofNat, Nat.zero_testBit, Bool.and_false]
theorem bitL_one (i : Nat) : bitL 1 i = decide (i = 0) := by
  show (BitVec.ofNat 64 1).getLsbD i = _
  rw [BitVec.getLsbD_ofNat]
  rcases i with _ | i
  · rfl
  · simp [Nat.testBit_succ]
theorem bitL_eq0 {x : Int64} : x = 0 ↔ ∀ i, i < 64 → bitL x i = false := by
  constructor
  · intro e i _; rw [e, bitL_zero]
  · intro h; exact bitL_ext fun i hi => by rw [h i hi, bitL_zero]
theorem shL64 : ∀ k : Fin 64, (((Int32.ofNat k.val).toInt64 &&& 63).toBitVec.smod 64).toNat = k.val := by decide
theorem bitL_shl (x : Int64) {k : Nat} (hk : k < 64) {i : Nat} (hi : i < 64) : bitL (x <<< ((iN k).toInt64 &&& 63)) i = (!decide (i < k) && bitL x (i - k)) := by
  unfold bitL
  rw [Int64.toBitVec_shiftLeft, BitVec.shiftLeft_eq', shL64 ⟨k, hk⟩, BitVec.getLsbD_shiftLeft, decide_eq_true hi, Bool.true_and]
theorem bitL_1shl {k : Nat} (hk : k < 64) {i : Nat} (hi : i < 64) : bitL (1 <<< ((iN k).toInt64 &&& 63)) i = decide (i = k) := by
  rw [bitL_shl 1 hk hi, bitL_one]
  by_cases h : i < k
  · have : ¬ i = k := by omega
    simp [h, this]
  · by_cases e : i = k
    · subst e; simp
    · have : ¬ i - k = 0 := by omega
      simp [h, e, this]
theorem bitL_shr0 (x : Int64) {k : Nat} (hk : k < 64) : bitL (x >>> ((iN k).toInt64 &&& 63)) 0 = bitL x k := by
  unfold bitL
  rw [Int64.toBitVec_shiftRight, BitVec.sshiftRight_eq', shL64 ⟨k, hk⟩, BitVec.getLsbD_sshiftRight]
  simp [hk]
theorem shrL_eq0 (x : Int64) {k : Nat} (hk : k < 64) : ((x >>> ((iN k).toInt64 &&& 63)) &&& 1 = 0) ↔ bitL x k = false := by
  rw [← bitL_shr0 x hk]
  constructor
  · intro e
    have := bitL_eq0.mp e 0 (by omega)
    rw [bitL_and, bitL_one] at this
    simpa using this
  · intro h
    rw [bitL_eq0]
    intro i hi
    rw [bitL_and, bitL_one]
    rcases i with _ | i
    · rw [h]; rfl
    · simp
/-- loops by what holds of the state -/
theorem loopI2 {A C β : Type} {z : A → C → Option β} {F : (A → C → Option β) → A → C → Option β} (sa : Nat → A) (b : Nat) (P : Nat → C → Prop) (Q : β → Prop) (step : ∀ k c, k < b → P k c → ∃ c', P (k + 1) c' ∧ ∀ self : A → C → Option β, F self (sa k) c = self (sa (k + 1)) c') (fin : ∀ c, P b c → ∃ res, Q res ∧ ∀ self : A → C → Option β, F self (sa b) c = some res) : ∀ n k c, P k c → k ≤ b → b < k + n → ∃ res, Q res ∧ zlp z F n (sa k) c = some res := by
  intro n
  induction n with
  | zero => intro k c _ h1 h2; omega
  | succ n ih =>
    intro k c hP h1 h2
    by_cases e : k = b
    · subst e
      obtain ⟨res, hq, hf⟩ := fin c hP
      exact ⟨res, hq, hf _⟩
    · obtain ⟨c', hP', hs⟩ := step k c (by omega) hP
      obtain ⟨res, hq, hz⟩ := ih (k + 1) c' hP' (by omega) (by omega)
      exact ⟨res, hq, (hs _).trans hz⟩
theorem loopI3 {A B C β : Type} {z : A → B → C → Option β} {F : (A → B → C → Option β) → A → B → C → Option β} (sa : Nat → A) (sb : Nat → B) (b : Nat) (P : Nat → C → Prop) (Q : β → Prop) (step : ∀ k c, k < b → P k c → ∃ c', P (k + 1) c' ∧ ∀ self : A → B → C → Option β, F self (sa k) (sb k) c = self (sa (k + 1)) (sb (k + 1)) c') (fin : ∀ c, P b c → ∃ res, Q res ∧ ∀ self : A → B → C → Option β, F self (sa b) (sb b) c = some res) : ∀ n k c, P k c → k ≤ b → b < k + n → ∃ res, Q res ∧ zlp z F n (sa k) (sb k) c = some res := by
  intro n
  induction n with
  | zero => intro k c _ h1 h2; omega
  | succ n ih =>
    intro k c hP h1 h2
    by_cases e : k = b
    · subst e
      obtain ⟨res, hq, hf⟩ := fin c hP
      exact ⟨res, hq, hf _⟩
    · obtain ⟨c', hP', hs⟩ := step k c (by omega) hP
      obtain ⟨res, hq, hz⟩ := ih (k + 1) c' hP' (by omega) (by omega)
      exact ⟨res, hq, (hs _).trans hz⟩
theorem loopI4 {A B D C β : Type} {z : A → B → D → C → Option β} {F : (A → B → D → C → Option β) → A → B → D → C → Option β} (sa : Nat → A) (sb : Nat → B) (sd : Nat → D) (b : Nat) (P : Nat → C → Prop) (Q : β → Prop) (step : ∀ k c, k < b → P k c → ∃ c', P (k + 1) c' ∧ ∀ self : A → B → D → C → Option β, F self (sa k) (sb k) (sd k) c = self (sa (k + 1)) (sb (k + 1)) (sd (k + 1)) c') (fin : ∀ c, P b c → ∃ res, Q res ∧ ∀ self : A → B → D → C → Option β, F self (sa b) (sb b) (sd b) c = some res) : ∀ n k c, P k c → k ≤ b → b < k + n → ∃ res, Q res ∧ zlp z F n (sa k) (sb k) (sd k) c = some res := by
  intro n
  induction n with
  | zero => intro k c _ h1 h2; omega
  | succ n ih =>
    intro k c hP h1 h2
    by_cases e : k = b
    · subst e
      obtain ⟨res, hq, hf⟩ := fin c hP
      exact ⟨res, hq, hf _⟩
    · obtain ⟨c', hP', hs⟩ := step k c (by omega) hP
      obtain ⟨res, hq, hz⟩ := ih (k + 1) c' hP' (by omega) (by omega)
      exact ⟨res, hq, (hs _).trans hz⟩
