/-! OWN: the pure half: how many bits a number has -/
theorem iN_and (a b : Nat) : iN a &&& iN b = iN (a &&& b) := bit_ext fun i hi => by
  rw [bit_and, bit_iN _ _ hi, bit_iN _ _ hi, bit_iN _ _ hi, Nat.testBit_and]
theorem iN_or (a b : Nat) : iN a ||| iN b = iN (a ||| b) := bit_ext fun i hi => by
  rw [bit_or, bit_iN _ _ hi, bit_iN _ _ hi, bit_iN _ _ hi, Nat.testBit_or]
theorem ush32 : ∀ k : Fin 32, (((Int32.ofNat k.val).toUInt32 &&& Int32.toUInt32 31).toBitVec % 32).toNat = k.val := by decide
theorem bit_ushr (x : Int32) {k : Nat} (hk : k < 32) (i : Nat) : bitI (x.toUInt32 >>> ((iN k).toUInt32 &&& Int32.toUInt32 31)).toInt32 i = bitI x (k + i) := by
  show (x.toUInt32 >>> ((iN k).toUInt32 &&& Int32.toUInt32 31)).toBitVec.getLsbD i = _
  rw [UInt32.toBitVec_shiftRight, BitVec.ushiftRight_eq', BitVec.getLsbD_ushiftRight, ush32 ⟨k, hk⟩]
  rfl
theorem iN_ushr {n k : Nat} (hn : n < 2 ^ 31) (hk : k < 32) : ((iN n).toUInt32 >>> ((iN k).toUInt32 &&& Int32.toUInt32 31)).toInt32 = iN (n / 2 ^ k) := bit_ext fun i hi => by
  rw [bit_ushr _ hk, bit_iN _ _ hi, Nat.testBit_div_two_pow]
  by_cases h : k + i < 32
  · rw [bit_iN _ _ h, Nat.add_comm]
  · have e : bitI (iN n) (k + i) = false := by
      show (BitVec.ofNat 32 n).getLsbD (k + i) = _
      rw [BitVec.getLsbD_ofNat, decide_eq_false h, Bool.false_and]
    rw [e]
    refine (Nat.testBit_lt_two_pow (Nat.lt_of_lt_of_le hn ?_)).symm
    exact Nat.pow_le_pow_right (by omega) (by omega)
theorem and_dig (x m w d : Nat) (h : d ≤ w) : x &&& (2 ^ d - 1 + 2 ^ w * m) = x % 2 ^ d + 2 ^ w * ((x / 2 ^ w) &&& m) := by
  have p := Nat.two_pow_pos w
  have pd := Nat.two_pow_pos d
  have hle : 2 ^ d ≤ 2 ^ w := Nat.pow_le_pow_right (by omega) h
  have e1 : (2 ^ d - 1 + 2 ^ w * m) / 2 ^ w = m := by
    rw [Nat.add_mul_div_left _ _ p, Nat.div_eq_of_lt (by omega), Nat.zero_add]
  have e2 : (2 ^ d - 1 + 2 ^ w * m) % 2 ^ w = 2 ^ d - 1 := by
    rw [Nat.add_mul_mod_self_left, Nat.mod_eq_of_lt (by omega)]
  have := Nat.div_add_mod (x &&& (2 ^ d - 1 + 2 ^ w * m)) (2 ^ w)
  rw [← this, Nat.and_div_two_pow, Nat.and_mod_two_pow, e1, e2, Nat.and_two_pow_sub_one_eq_mod, Nat.mod_mod_of_dvd _ (Nat.pow_dvd_pow 2 h), Nat.add_comm]
theorem and55 {x : Nat} (h : x < 2 ^ 20) : x &&& 1431655765 = x % 2 + 4 * (x / 4 % 2 + 4 * (x / 16 % 2 + 4 * (x / 64 % 2 + 4 * (x / 256 % 2 + 4 * (x / 1024 % 2 + 4 * (x / 4096 % 2 + 4 * (x / 16384 % 2 + 4 * (x / 65536 % 2 + 4 * (x / 262144 % 2))))))))) := by
  have s : ∀ y m : Nat, y &&& (1 + 4 * m) = y % 2 + 4 * ((y / 4) &&& m) := fun y m => and_dig y m 2 1 (by omega)
  rw [show 1431655765 = 1 + 4 * (1 + 4 * (1 + 4 * (1 + 4 * (1 + 4 * (1 + 4 * (1 + 4 * (1 + 4 * (1 + 4 * (1 + 4 * 1365))))))))) from rfl, s, s, s, s, s, s, s, s, s, s]
  simp only [Nat.div_div_eq_div_mul, Nat.reduceMul]
  rw [show x / 1048576 = 0 by omega, Nat.zero_and, Nat.mul_zero, Nat.add_zero]
theorem and33 {x : Nat} (h : x < 2 ^ 20) : x &&& 858993459 = x % 4 + 16 * (x / 16 % 4 + 16 * (x / 256 % 4 + 16 * (x / 4096 % 4 + 16 * (x / 65536 % 4)))) := by
  have s : ∀ y m : Nat, y &&& (3 + 16 * m) = y % 4 + 16 * ((y / 16) &&& m) := fun y m => and_dig y m 4 2 (by omega)
  rw [show 858993459 = 3 + 16 * (3 + 16 * (3 + 16 * (3 + 16 * (3 + 16 * 819)))) from rfl, s, s, s, s, s]
  simp only [Nat.div_div_eq_div_mul, Nat.reduceMul]
  rw [show x / 1048576 = 0 by omega, Nat.zero_and, Nat.mul_zero, Nat.add_zero]
theorem and0f {x : Nat} (h : x < 2 ^ 24) : x &&& 252645135 = x % 16 + 256 * (x / 256 % 16 + 256 * (x / 65536 % 16)) := by
  have s : ∀ y m : Nat, y &&& (15 + 256 * m) = y % 16 + 256 * ((y / 256) &&& m) := fun y m => and_dig y m 8 4 (by omega)
  rw [show 252645135 = 15 + 256 * (15 + 256 * (15 + 256 * 15)) from rfl, s, s, s]
  simp only [Nat.div_div_eq_div_mul, Nat.reduceMul]
  rw [show x / 16777216 = 0 by omega, Nat.zero_and, Nat.mul_zero, Nat.add_zero]

theorem lit55 : (1431655765 : Int32) = iN 1431655765 := rfl
theorem lit33 : (858993459 : Int32) = iN 858993459 := rfl
theorem lit0f : (252645135 : Int32) = iN 252645135 := rfl
theorem and63 (n : Nat) : iN n &&& (63 : Int32) = iN (n % 64) := by
  rw [show (63 : Int32) = iN 63 from rfl, iN_and, show (63 : Nat) = 2 ^ 6 - 1 from rfl, Nat.and_two_pow_sub_one_eq_mod]
theorem stepA {q X m : Nat} (h : q < 4) : (q + 4 * X) / 2 &&& (1 + 4 * m) = q / 2 + 4 * (X / 2 &&& m) := by
  have s : ∀ y m : Nat, y &&& (1 + 4 * m) = y % 2 + 4 * ((y / 4) &&& m) := fun y m => and_dig y m 2 1 (by omega)
  rw [s, show (q + 4 * X) / 2 % 2 = q / 2 by omega, show (q + 4 * X) / 2 / 4 = X / 2 by omega]
theorem stepB {e f Y m : Nat} (h : e < 4) (h' : f < 4) : ((e + 4 * (f + 4 * Y)) &&& (3 + 16 * m)) + ((e + 4 * (f + 4 * Y)) / 4 &&& (3 + 16 * m)) = (e + f) + 16 * ((Y &&& m) + (Y / 4 &&& m)) := by
  have s : ∀ y m : Nat, y &&& (3 + 16 * m) = y % 4 + 16 * ((y / 16) &&& m) := fun y m => and_dig y m 4 2 (by omega)
  rw [s, s, show (e + 4 * (f + 4 * Y)) % 4 = e by omega, show (e + 4 * (f + 4 * Y)) / 16 = Y by omega, show (e + 4 * (f + 4 * Y)) / 4 % 4 = f by omega, show (e + 4 * (f + 4 * Y)) / 4 / 16 = Y / 4 by omega]
  omega
theorem stepS {q X U E : Nat} (h : U ≤ X ∧ X - U = E) : q / 2 + 4 * U ≤ q + 4 * X ∧ (q + 4 * X) - (q / 2 + 4 * U) = (q - q / 2) + 4 * E := by omega
theorem dig4 {A B C D E : Nat} (hA : A < 16) (hB : B < 16) (hC : C < 16) (hD : D < 16) (hE : E < 16) : (A + 16 * (B + 16 * (C + 16 * (D + 16 * E)))) % 16 = A ∧ (A + 16 * (B + 16 * (C + 16 * (D + 16 * E)))) / 256 % 16 = C ∧ (A + 16 * (B + 16 * (C + 16 * (D + 16 * E)))) / 65536 % 16 = E := by
  have h1 : (A + 16 * (B + 16 * (C + 16 * (D + 16 * E)))) / 256 = C + 16 * (D + 16 * E) := by
    generalize C + 16 * (D + 16 * E) = X
    omega
  have h2 : (A + 16 * (B + 16 * (C + 16 * (D + 16 * E)))) / 65536 = E := by
    have : (A + 16 * (B + 16 * (C + 16 * (D + 16 * E)))) / 65536 = (A + 16 * (B + 16 * (C + 16 * (D + 16 * E)))) / 256 / 256 := by rw [Nat.div_div_eq_div_mul]
    rw [this, h1]
    omega
  rw [h1, h2]
  exact ⟨by omega, by omega, by omega⟩
theorem pcC {z n0 n1 n2 n3 n4 : Nat} (h0 : n0 < 5) (h1 : n1 < 5) (h2 : n2 < 5) (h3 : n3 < 5) (h4 : n4 < 5) (e : z = n0 + 16 * (n1 + 16 * (n2 + 16 * (n3 + 16 * n4)))) : (z + z / 16) &&& 252645135 = (n0 + n1) + 256 * ((n2 + n3) + 256 * n4) := by
  have e1 : z / 16 = n1 + 16 * (n2 + 16 * (n3 + 16 * n4)) := by
    generalize n1 + 16 * (n2 + 16 * (n3 + 16 * n4)) = X at e
    omega
  have ez : z + z / 16 = (n0 + n1) + 16 * ((n1 + n2) + 16 * ((n2 + n3) + 16 * ((n3 + n4) + 16 * n4))) := by rw [e1]; omega
  obtain ⟨d0, d1, d2⟩ := dig4 (A := n0 + n1) (B := n1 + n2) (C := n2 + n3) (D := n3 + n4) (E := n4) (by omega) (by omega) (by omega) (by omega) (by omega)
  rw [ez, and0f (by omega), d0, d1, d2]
theorem pcD {m0 m1 m2 w : Nat} (h0 : m0 < 9) (h1 : m1 < 9) (h2 : m2 < 9) (e : w = m0 + 256 * (m1 + 256 * m2)) : (w + w / 256 + (w + w / 256) / 65536) % 64 = m0 + m1 + m2 := by
  have e1 : w / 256 = m1 + 256 * m2 := by omega
  rw [e1]
  have e2 : (w + (m1 + 256 * m2)) / 65536 = m2 := by omega
  rw [e2]
  omega
theorem sumN_front {f : Nat → Nat} : ∀ {n : Nat}, sumN f (n + 1) = f 0 + sumN (fun i => f (i + 1)) n := by
  intro n
  induction n with
  | zero => show 0 + f 0 = f 0 + 0; omega
  | succ n ih =>
    show sumN f (n + 1) + f (n + 1) = f 0 + (sumN (fun i => f (i + 1)) n + f (n + 1))
    rw [ih]; omega
theorem pcN {q X n : Nat} (h : q < 4) : sumN (fun i => (q + 4 * X) / 2 ^ i % 2) (n + 2) = (q - q / 2) + sumN (fun i => X / 2 ^ i % 2) n := by
  rw [sumN_front, sumN_front]
  have e : ∀ i, (q + 4 * X) / 2 ^ (i + 1 + 1) = X / 2 ^ i := fun i => by
    rw [show (2 : Nat) ^ (i + 1 + 1) = 4 * 2 ^ i by rw [Nat.pow_succ, Nat.pow_succ]; omega, ← Nat.div_div_eq_div_mul, show (q + 4 * X) / 4 = X by omega]
  simp only [e]
  have h0 : (q + 4 * X) / 2 ^ 0 % 2 + (q + 4 * X) / 2 ^ (0 + 1) % 2 = q - q / 2 := by
    show (q + 4 * X) / 1 % 2 + (q + 4 * X) / 2 % 2 = _
    omega
  omega
theorem and5461 {q : Nat} (h : q < 4) : q / 2 &&& 5461 = q / 2 := by
  rcases (show q = 0 ∨ q = 1 ∨ q = 2 ∨ q = 3 by omega) with rfl | rfl | rfl | rfl <;> rfl
theorem dle {q : Nat} (h : q < 4) : q - q / 2 < 3 := by omega
theorem c33 : (858993459 : Nat) = 3 + 16 * (3 + 16 * (3 + 16 * (3 + 16 * (3 + 16 * 819)))) := rfl
/-- the counting from pairs on -/
def bcG (Y : Int32) : Option Int32 := (znm ((Y &&& (858993459 : Int32)) + ((Y.toUInt32 >>> (((2 : Int32)).toUInt32 &&& Int32.toUInt32 31)).toInt32 &&& (858993459 : Int32))) fun x3 => (znm ((x3).toUInt32 >>> (((4 : Int32)).toUInt32 &&& Int32.toUInt32 31)).toInt32 fun x4 => (znm ((((x3 + x4) &&& (252645135 : Int32))).toUInt32 >>> (((8 : Int32)).toUInt32 &&& Int32.toUInt32 31)).toInt32 fun x5 => (znm (((((x3 + x4) &&& (252645135 : Int32)) + x5)).toUInt32 >>> (((16 : Int32)).toUInt32 &&& Int32.toUInt32 31)).toInt32 fun x6 => (some (((((x3 + x4) &&& (252645135 : Int32)) + x5) + x6) &&& (63 : Int32)))))))
theorem bc_split (x : Int32) : f_J6_bitCount_0f7a4 NN x = bcG (x - (((x).toUInt32 >>> (((1 : Int32)).toUInt32 &&& Int32.toUInt32 31)).toInt32 &&& (1431655765 : Int32))) := rfl
theorem bcTail {y n0 n1 n2 n3 n4 : Nat} (hy : y < 2 ^ 31) (g0 : n0 < 5) (g1 : n1 < 5) (g2 : n2 < 5) (g3 : n3 < 5) (g4 : n4 < 5) (eB : (y &&& 858993459) + (y / 4 &&& 858993459) = n0 + 16 * (n1 + 16 * (n2 + 16 * (n3 + 16 * n4)))) : bcG (iN y) = some (iN (n0 + n1 + (n2 + n3) + n4)) := by
  unfold bcG
  rw [lit33, lit0f]
  simp only [znm_eq]
  rw [show (2 : Int32) = iN 2 from rfl, show (4 : Int32) = iN 4 from rfl, show (8 : Int32) = iN 8 from rfl, show (16 : Int32) = iN 16 from rfl]
  rw [iN_ushr (n := y) (k := 2) hy (by omega), show (2 : Nat) ^ 2 = 4 from rfl, iN_and, iN_and, iN_add, eB]
  clear eB hy
  obtain ⟨z, hz⟩ : ∃ z, n0 + 16 * (n1 + 16 * (n2 + 16 * (n3 + 16 * n4))) = z := ⟨_, rfl⟩
  rw [hz]
  have eC := pcC g0 g1 g2 g3 g4 hz.symm
  have lz : z < 2 ^ 31 := by omega
  rw [iN_ushr (n := z) (k := 4) lz (by omega), show (2 : Nat) ^ 4 = 16 from rfl, iN_add, iN_and, eC]
  clear eC hz lz
  obtain ⟨w, hw⟩ : ∃ w, (n0 + n1) + 256 * ((n2 + n3) + 256 * n4) = w := ⟨_, rfl⟩
  rw [hw]
  have eD := pcD (m0 := n0 + n1) (m1 := n2 + n3) (m2 := n4) (by omega) (by omega) (by omega) hw.symm
  have lw : w < 2 ^ 30 := by omega
  rw [iN_ushr (n := w) (k := 8) (by omega) (by omega), show (2 : Nat) ^ 8 = 256 from rfl, iN_add, iN_ushr (n := w + w / 256) (k := 16) (by omega) (by omega), show (2 : Nat) ^ 16 = 65536 from rfl, iN_add, and63, eD]
theorem sum5 {a b : Nat} (ha : a < 3) (hb : b < 3) : a + b < 5 := by omega
theorem bcMid {e0 e1 e2 e3 e4 e5 e6 e7 e8 e9 : Nat} (k0 : e0 < 3) (k1 : e1 < 3) (k2 : e2 < 3) (k3 : e3 < 3) (k4 : e4 < 3) (k5 : e5 < 3) (k6 : e6 < 3) (k7 : e7 < 3) (k8 : e8 < 3) (k9 : e9 < 3) (hy : e0 + 4 * (e1 + 4 * (e2 + 4 * (e3 + 4 * (e4 + 4 * (e5 + 4 * (e6 + 4 * (e7 + 4 * (e8 + 4 * e9)))))))) < 2 ^ 31) : bcG (iN (e0 + 4 * (e1 + 4 * (e2 + 4 * (e3 + 4 * (e4 + 4 * (e5 + 4 * (e6 + 4 * (e7 + 4 * (e8 + 4 * e9)))))))))) = some (iN (e0 + (e1 + (e2 + (e3 + (e4 + (e5 + (e6 + (e7 + (e8 + e9)))))))))) := by
  have eB9 : ((e8 + 4 * e9) &&& (3 + 16 * 819)) + ((e8 + 4 * e9) / 4 &&& (3 + 16 * 819)) = e8 + e9 := by
    have := stepB (e := e8) (f := e9) (Y := 0) (m := 819) (Nat.lt_succ_of_lt k8) (Nat.lt_succ_of_lt k9)
    rw [Nat.mul_zero, Nat.add_zero, Nat.zero_div, Nat.zero_and, Nat.add_zero, Nat.mul_zero, Nat.add_zero] at this
    exact this
  have b3 := stepB (e := e6) (f := e7) (Y := e8 + 4 * e9) (m := 3 + 16 * 819) (Nat.lt_succ_of_lt k6) (Nat.lt_succ_of_lt k7)
  rw [eB9] at b3
  have b2 := stepB (e := e4) (f := e5) (Y := e6 + 4 * (e7 + 4 * (e8 + 4 * e9))) (m := 3 + 16 * (3 + 16 * 819)) (Nat.lt_succ_of_lt k4) (Nat.lt_succ_of_lt k5)
  rw [b3] at b2
  have b1 := stepB (e := e2) (f := e3) (Y := e4 + 4 * (e5 + 4 * (e6 + 4 * (e7 + 4 * (e8 + 4 * e9))))) (m := 3 + 16 * (3 + 16 * (3 + 16 * 819))) (Nat.lt_succ_of_lt k2) (Nat.lt_succ_of_lt k3)
  rw [b2] at b1
  have eB := stepB (e := e0) (f := e1) (Y := e2 + 4 * (e3 + 4 * (e4 + 4 * (e5 + 4 * (e6 + 4 * (e7 + 4 * (e8 + 4 * e9))))))) (m := 3 + 16 * (3 + 16 * (3 + 16 * (3 + 16 * 819)))) (Nat.lt_succ_of_lt k0) (Nat.lt_succ_of_lt k1)
  rw [b1, ← c33] at eB
  have fin := bcTail hy (sum5 k0 k1) (sum5 k2 k3) (sum5 k4 k5) (sum5 k6 k7) (sum5 k8 k9) eB
  rw [fin]
  congr 2
  clear fin eB b1 b2 b3 eB9 hy k0 k1 k2 k3 k4 k5 k6 k7 k8 k9
  omega
theorem dig_ex {x n m : Nat} (hm : m = 4 * n) (h : x < m) : ∃ q y, q < 4 ∧ y < n ∧ x = q + 4 * y := ⟨x % 4, x / 4, by omega, by omega, by omega⟩
set_option maxHeartbeats 4000000 in
theorem bitCount_20 {x : Nat} (h : x < 2 ^ 20) : f_J6_bitCount_0f7a4 NN (iN x) = some (iN (sumN (fun i => x / 2 ^ i % 2) 20)) := by
  obtain ⟨q0, x1, h0, l1, rfl⟩ := dig_ex (n := 2 ^ 18) rfl h
  obtain ⟨q1, x2, h1, l2, rfl⟩ := dig_ex (n := 2 ^ 16) rfl l1
  obtain ⟨q2, x3, h2, l3, rfl⟩ := dig_ex (n := 2 ^ 14) rfl l2
  obtain ⟨q3, x4, h3, l4, rfl⟩ := dig_ex (n := 2 ^ 12) rfl l3
  obtain ⟨q4, x5, h4, l5, rfl⟩ := dig_ex (n := 2 ^ 10) rfl l4
  obtain ⟨q5, x6, h5, l6, rfl⟩ := dig_ex (n := 2 ^ 8) rfl l5
  obtain ⟨q6, x7, h6, l7, rfl⟩ := dig_ex (n := 2 ^ 6) rfl l6
  obtain ⟨q7, x8, h7, l8, rfl⟩ := dig_ex (n := 2 ^ 4) rfl l7
  obtain ⟨q8, q9, h8, h9, rfl⟩ := dig_ex (n := 4) rfl l8
  clear l1 l2 l3 l4 l5 l6 l7 l8
  have a9 : True := trivial
  have sN := (pcN (X := q1 + 4 * (q2 + 4 * (q3 + 4 * (q4 + 4 * (q5 + 4 * (q6 + 4 * (q7 + 4 * (q8 + 4 * q9)))))))) (n := 18) h0)
  rw [pcN h1 (n := 16), pcN h2 (n := 14), pcN h3 (n := 12), pcN h4 (n := 10), pcN h5 (n := 8), pcN h6 (n := 6), pcN h7 (n := 4), pcN h8 (n := 2)] at sN
  have sL : sumN (fun i => q9 / 2 ^ i % 2) 2 = q9 - q9 / 2 := by
    show 0 + q9 / 1 % 2 + q9 / 2 % 2 = _
    clear h sN
    omega
  rw [sL] at sN
  have s8 := stepS (q := q8) (X := q9) (U := q9 / 2) (E := q9 - q9 / 2) ⟨by omega, rfl⟩
  have s7 := stepS (q := q7) s8
  have s6 := stepS (q := q6) s7
  have s5 := stepS (q := q5) s6
  have s4 := stepS (q := q4) s5
  have s3 := stepS (q := q3) s4
  have s2 := stepS (q := q2) s3
  have s1 := stepS (q := q1) s2
  have s0 := stepS (q := q0) s1
  clear s1 s2 s3 s4 s5 s6 s7 s8
  rw [bc_split, lit55, show (1 : Int32) = iN 1 from rfl]
  rw [iN_ushr (k := 1) (Nat.lt_of_lt_of_le h (by decide)) (by omega), show (2 : Nat) ^ 1 = 2 from rfl, iN_and]
  rw [show 1431655765 = 1 + 4 * (1 + 4 * (1 + 4 * (1 + 4 * (1 + 4 * (1 + 4 * (1 + 4 * (1 + 4 * (1 + 4 * 5461)))))))) from rfl, stepA h0, stepA h1, stepA h2, stepA h3, stepA h4, stepA h5, stepA h6, stepA h7, stepA h8]
  have a9' : q9 / 2 &&& 5461 = q9 / 2 := and5461 h9
  rw [a9', iN_sub s0.1, s0.2]
  have hE := Nat.lt_of_le_of_lt (Nat.sub_le _ (q0 / 2 + 4 * (q1 / 2 + 4 * (q2 / 2 + 4 * (q3 / 2 + 4 * (q4 / 2 + 4 * (q5 / 2 + 4 * (q6 / 2 + 4 * (q7 / 2 + 4 * (q8 / 2 + 4 * (q9 / 2))))))))))) h
  rw [s0.2] at hE
  rw [sN]
  exact bcMid (dle h0) (dle h1) (dle h2) (dle h3) (dle h4) (dle h5) (dle h6) (dle h7) (dle h8) (dle h9) (Nat.lt_of_lt_of_le hE (by decide))
