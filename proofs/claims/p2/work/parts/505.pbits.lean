/-! OWN: the pure half: bits of a number, sums -/
def bitI (x : Int32) (i : Nat) : Bool := x.toBitVec.getLsbD i
theorem bit_and (x y : Int32) (i : Nat) : bitI (x &&& y) i = (bitI x i && bitI y i) := by
  unfold bitI
  rw [Int32.toBitVec_and, BitVec.getLsbD_and]
theorem bit_or (x y : Int32) (i : Nat) : bitI (x ||| y) i = (bitI x i || bitI y i) := by
  unfold bitI
  rw [Int32.toBitVec_or, BitVec.getLsbD_or]
theorem bit_m1 (i : Nat) : bitI (-1) i = decide (i < 32) := by
  show (BitVec.allOnes 32).getLsbD i = _
  rw [BitVec.getLsbD_allOnes]
theorem bit_cmpl (x : Int32) (i : Nat) (h : i < 32) : bitI (x ^^^ -1) i = !bitI x i := by
  have e := bit_m1 i
  unfold bitI at *
  rw [Int32.toBitVec_xor, BitVec.getLsbD_xor, e, decide_eq_true h, Bool.xor_true]
theorem bit_iN (n i : Nat) (h : i < 32) : bitI (Int32.ofNat n) i = n.testBit i := by
  show (BitVec.ofNat 32 n).getLsbD i = _
  rw [BitVec.getLsbD_ofNat, decide_eq_true h, Bool.true_and]
theorem bit_ext {x y : Int32} (h : ∀ i, i < 32 → bitI x i = bitI y i) : x = y := by
  apply Int32.toBitVec.inj
  apply BitVec.eq_of_getLsbD_eq
  intro i hi
  exact h i hi
theorem bit_zero (i : Nat) : bitI 0 i = false := by
  show (BitVec.ofNat 32 0).getLsbD i = _
  rw [BitVec.getLsbD_ofNat, Nat.zero_testBit, Bool.and_false]
theorem bit_eq0 {x : Int32} : x = 0 ↔ ∀ i, i < 32 → bitI x i = false := by
  constructor
  · intro e i _; rw [e, bit_zero]
  · intro h; exact bit_ext fun i hi => by rw [h i hi, bit_zero]
theorem sh32 : ∀ k : Fin 32, ((Int32.ofNat k.val &&& 31).toBitVec.smod 32).toNat = k.val := by decide
theorem bit_shl (x : Int32) {k : Nat} (hk : k < 32) {i : Nat} (hi : i < 32) : bitI (x <<< (Int32.ofNat k &&& 31)) i = (!decide (i < k) && bitI x (i - k)) := by
  unfold bitI
  rw [Int32.toBitVec_shiftLeft, BitVec.shiftLeft_eq', sh32 ⟨k, hk⟩, BitVec.getLsbD_shiftLeft, decide_eq_true hi, Bool.true_and]
theorem bit_shr0 (x : Int32) {k : Nat} (hk : k < 32) : bitI (x >>> (Int32.ofNat k &&& 31)) 0 = bitI x k := by
  unfold bitI
  rw [Int32.toBitVec_shiftRight, BitVec.sshiftRight_eq', sh32 ⟨k, hk⟩, BitVec.getLsbD_sshiftRight]
  simp [hk]
theorem and1_eq0 (x : Int32) : (x &&& 1 = 0) ↔ bitI x 0 = false := by
  have o : ∀ i, bitI 1 i = decide (i = 0) := fun i => by
    show (BitVec.ofNat 32 1).getLsbD i = _
    rw [BitVec.getLsbD_ofNat]
    rcases i with _ | i
    · rfl
    · simp [Nat.testBit_succ]
  constructor
  · intro e
    have := bit_eq0.mp e 0 (by omega)
    rw [bit_and, o] at this
    simpa using this
  · intro h
    rw [bit_eq0]
    intro i hi
    rw [bit_and, o]
    rcases i with _ | i
    · rw [h]; rfl
    · simp
theorem shr1_eq0 (x : Int32) {k : Nat} (hk : k < 32) : ((x >>> (Int32.ofNat k &&& 31)) &&& 1 = 0) ↔ bitI x k = false := by
  rw [and1_eq0, bit_shr0 x hk]
theorem bit_one (i : Nat) (h : i < 32) : bitI 1 i = decide (i = 0) := by
  show bitI (Int32.ofNat 1) i = _
  rw [bit_iN 1 i h]
  rcases i with _ | i
  · rfl
  · simp [Nat.testBit_succ]
theorem bit_1shl {k : Nat} (hk : k < 32) {i : Nat} (hi : i < 32) : bitI (1 <<< (Int32.ofNat k &&& 31)) i = decide (i = k) := by
  rw [bit_shl 1 hk hi, bit_one _ (by omega)]
  by_cases h : i < k
  · have : ¬ i = k := by omega
    simp [h, this]
  · by_cases e : i = k
    · subst e; simp
    · have : ¬ i - k = 0 := by omega
      simp [h, e, this]
/-- a sum of numbers -/
def sumN (f : Nat → Nat) : Nat → Nat
  | 0 => 0
  | n + 1 => sumN f n + f n
theorem sumN_congr {f g : Nat → Nat} : ∀ {n : Nat}, (∀ k, k < n → f k = g k) → sumN f n = sumN g n := by
  intro n
  induction n with
  | zero => intro _; rfl
  | succ n ih =>
    intro h
    show sumN f n + f n = sumN g n + g n
    rw [ih (fun k hk => h k (by omega)), h n (by omega)]
theorem sumN_le {f : Nat → Nat} {c : Nat} : ∀ {n : Nat}, (∀ k, k < n → f k ≤ c) → sumN f n ≤ c * n := by
  intro n
  induction n with
  | zero => intro _; exact Nat.zero_le _
  | succ n ih =>
    intro h
    show sumN f n + f n ≤ c * (n + 1)
    have := ih (fun k hk => h k (by omega))
    have := h n (by omega)
    rw [Nat.mul_add]
    omega
theorem sumN_zero {f : Nat → Nat} : ∀ {n : Nat}, (∀ k, k < n → f k = 0) → sumN f n = 0 := by
  intro n h
  have := sumN_le (c := 0) (n := n) (f := f) (fun k hk => by rw [h k hk]; exact Nat.le_refl 0)
  omega
/-- a sum where one place has changed -/
theorem sumN_upd {f g : Nat → Nat} {j : Nat} : ∀ {n : Nat}, j < n → (∀ k, k < n → k ≠ j → g k = f k) → sumN g n + f j = sumN f n + g j := by
  intro n
  induction n with
  | zero => intro h; omega
  | succ n ih =>
    intro hj h
    show sumN g n + g n + f j = sumN f n + f n + g j
    by_cases e : j = n
    · subst e
      have := sumN_congr (f := g) (g := f) (n := j) (fun k hk => h k (by omega) (by omega))
      omega
    · have := ih (by omega) (fun k hk hq => h k (by omega) hq)
      have := h n (by omega) (fun q => e q.symm)
      omega
theorem sumN_add {f g : Nat → Nat} : ∀ {n : Nat}, sumN (fun k => f k + g k) n = sumN f n + sumN g n := by
  intro n
  induction n with
  | zero => rfl
  | succ n ih =>
    show sumN (fun k => f k + g k) n + (f n + g n) = sumN f n + f n + (sumN g n + g n)
    rw [ih]; omega
/-! carrying out -/
theorem znm_eq {α β : Type} (x : α) (k : α → β) : znm x k = k x := rfl
theorem th_some {α β : Type} (x : α) (t : Option Nat) (k : α → Option β) (h : Nat → Option β) : th (some x) t k h = k x := rfl
theorem th_none {α β : Type} (e : Nat) (k : α → Option β) (h : Nat → Option β) : th none (some e) k h = h e := rfl
theorem tb_some {α β : Type} (x : α) (b : Option β) (k : α → Option β) : tb (some x) b k = k x := rfl
theorem tb_none {α β : Type} (b : Option β) (k : α → Option β) : tb none b k = b := rfl
theorem ob_none {α β : Type} (k : α → Option β) : ob none k = none := rfl
theorem chk_iN {α : Type} {k n : Nat} {x : Option α} (h : k < n) (hn : n < 2 ^ 31) : chk (inb (iN k) n) x = x := if_pos (iN_inb h hn)
theorem chk_true {α : Type} {x : Option α} : chk true x = x := rfl
theorem clamp_iN {k : Nat} (h : k < 2 ^ 31) : (iN k).toNatClampNeg = k := iN_clamp h
theorem iN_mul (a b : Nat) : iN a * iN b = iN (a * b) := (Int32.ofNat_mul a b).symm
theorem iN_sub {a b : Nat} (h : b ≤ a) : iN a - iN b = iN (a - b) := (Int32.ofNat_sub a b h).symm
theorem iN_div {a b : Nat} (ha : a < 2 ^ 31) (hb : b < 2 ^ 31) : iN a / iN b = iN (a / b) := (Int32.ofNat_div ha hb).symm
theorem iN_lt_t {a b : Nat} (h : a < b) (hb : b < 2 ^ 31) : (iN a < iN b) = True := eq_true ((iN_lt (by omega) hb).mpr h)
theorem iN_lt_f {a b : Nat} (h : b ≤ a) (ha : a < 2 ^ 31) : (iN a < iN b) = False := eq_false fun q => absurd ((iN_lt ha (by omega)).mp q) (by omega)
theorem iN_le_t {a b : Nat} (h : a ≤ b) (hb : b < 2 ^ 31) : (iN a ≤ iN b) = True := eq_true ((iN_le (by omega) hb).mpr h)
theorem iN_le_f {a b : Nat} (h : b < a) (ha : a < 2 ^ 31) : (iN a ≤ iN b) = False := eq_false fun q => absurd ((iN_le ha (by omega)).mp q) (by omega)
theorem iN_eq_t {a b : Nat} (h : a = b) : (iN a = iN b) = True := eq_true (congrArg _ h)
theorem iN_eq_f {a b : Nat} (h : a ≠ b) (ha : a < 2 ^ 31) (hb : b < 2 ^ 31) : (iN a = iN b) = False := eq_false fun q => h ((iN_inj ha hb).mp q)
def mI1 : Int32 := -1
theorem Lm1 : (-1 : Int32) = mI1 := rfl
theorem si_si (s : Ob) (k : Nat) (u v : Int32) : si (si s k u) k v = si s k v := by
  unfold si
  simp only
  congr 1
  funext j
  split <;> rfl
theorem iN_m1 {k : Nat} (h : k < 2 ^ 31) : (iN k = mI1) = False := eq_false fun q => by
  have := congrArg Int32.toInt q
  rw [iN_toInt h] at this
  have e : mI1.toInt = -1 := by decide
  omega
theorem m1_iN {k : Nat} (h : k < 2 ^ 31) : (mI1 = iN k) = False := eq_false fun q => by
  have := iN_m1 h
  rw [← q] at this
  exact this.mp rfl
theorem iN_zisB {α : Type} {k : Nat} {x : Option α} (h : k ≤ 1) : chk (zisB (iN k)) x = x := by
  rcases k with _ | _ | k
  · rfl
  · rfl
  · omega
theorem si_1 (s : Ob) (k : Nat) (v : Int32) (j : Nat) : (si s k v).1 j = if j = k then v else s.1 j := rfl
theorem si_2 (s : Ob) (k : Nat) (v : Int32) : (si s k v).2 = s.2 := rfl
theorem sa_1 (s : Ob) (k : Nat) (f : Nat → Int32) : (sa s k f).1 = s.1 := rfl
theorem sa_2 (s : Ob) (k : Nat) (f : Nat → Int32) : (sa s k f).2.1 = s.2.1 := rfl
theorem sa_3 (s : Ob) (k : Nat) (f : Nat → Int32) (j : Nat) : (sa s k f).2.2.1 j = if j = k then f else s.2.2.1 j := rfl
theorem sl_1 (s : Ob) (k : Nat) (v : Int64) : (sl s k v).1 = s.1 := rfl
theorem sl_3 (s : Ob) (k : Nat) (v : Int64) : (sl s k v).2.2 = s.2.2 := rfl
theorem sl_2 (s : Ob) (k : Nat) (v : Int64) (j : Nat) : (sl s k v).2.1 j = if j = k then v else s.2.1 j := rfl
theorem Lt0 : (0 : Int32) = iN 0 := rfl
theorem Lt1 : (1 : Int32) = iN 1 := rfl
theorem Lt2 : (2 : Int32) = iN 2 := rfl
theorem Lt3 : (3 : Int32) = iN 3 := rfl
theorem Lt4 : (4 : Int32) = iN 4 := rfl
theorem Lt5 : (5 : Int32) = iN 5 := rfl
theorem Lt6 : (6 : Int32) = iN 6 := rfl
theorem Lt7 : (7 : Int32) = iN 7 := rfl
theorem Lt8 : (8 : Int32) = iN 8 := rfl
theorem Lt9 : (9 : Int32) = iN 9 := rfl
theorem Lt10 : (10 : Int32) = iN 10 := rfl
theorem Lt12 : (12 : Int32) = iN 12 := rfl
theorem Lt14 : (14 : Int32) = iN 14 := rfl
theorem Lt18 : (18 : Int32) = iN 18 := rfl
theorem Lt19 : (19 : Int32) = iN 19 := rfl
theorem Lt20 : (20 : Int32) = iN 20 := rfl
theorem Lt22 : (22 : Int32) = iN 22 := rfl
theorem Lt27 : (27 : Int32) = iN 27 := rfl
theorem Lt30 : (30 : Int32) = iN 30 := rfl
theorem Lt31 : (31 : Int32) = iN 31 := rfl
theorem Lt40 : (40 : Int32) = iN 40 := rfl
theorem Lt67 : (67 : Int32) = iN 67 := rfl
theorem Lt99 : (99 : Int32) = iN 99 := rfl
theorem Lt100 : (100 : Int32) = iN 100 := rfl
theorem Lt107 : (107 : Int32) = iN 107 := rfl
theorem Lt147 : (147 : Int32) = iN 147 := rfl
theorem Lt187 : (187 : Int32) = iN 187 := rfl
theorem Lt191 : (191 : Int32) = iN 191 := rfl
theorem Lt211 : (211 : Int32) = iN 211 := rfl
theorem Lt231 : (231 : Int32) = iN 231 := rfl
theorem Lt235 : (235 : Int32) = iN 235 := rfl
theorem Lt237 : (237 : Int32) = iN 237 := rfl
theorem Lt238 : (238 : Int32) = iN 238 := rfl
theorem Lt300 : (300 : Int32) = iN 300 := rfl
theorem Lt358 : (358 : Int32) = iN 358 := rfl
theorem Lt600 : (600 : Int32) = iN 600 := rfl
