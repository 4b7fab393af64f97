/-! OWN: what a description may say, and the game that it begins -/
def Dl (C R P H m M T V : Nat) (w q : Nat → Nat) : Prop := 1 ≤ C ∧ C ≤ 4 ∧ 1 ≤ R ∧ R ≤ 5 ∧ 2 ≤ P ∧ P ≤ 4 ∧ 1 ≤ H ∧ H ≤ 5 ∧ m ≤ 40 ∧ 1 ≤ M ∧ M ≤ 9 ∧ T ≤ M ∧ 1 ≤ V ∧ V ≤ 5 ∧ (∀ k, k < 9 → w k ≤ 99) ∧ (∀ k, k < 40 → q k < 20) ∧ ∀ k, k < m → q k / 5 < C ∧ q k % 5 < R
/-- how often a kind stands among the first n -/
def cntQ (q : Nat → Nat) (kind n : Nat) : Nat := sumN (fun k => if q k = kind then 1 else 0) n
def bg (C R P H m M T V : Nat) (w q : Nat → Nat) : Gm := fun k =>
  if k = 0 then C else if k = 1 then R else if k = 2 then P else if k = 3 then H else if k = 4 then m else if k = 5 then P * H else if k = 6 then M else if k = 7 then T else if k = 8 then V else if k = 9 then (if P * H = m then P + 1 else 0) else if k < 18 then 0 else if k < 27 then w (k - 18) else if k < 67 then q (k - 27) else if k < 107 then 2 ^ C - 1 else if k < 147 then 2 ^ R - 1 else if k < 187 then 0 else if k < 191 then (if k - 187 < P then H else 0) else if k < 211 then (if (k - 191) / 5 < P ∧ (k - 191) % 5 < H then (k - 191) / 5 * H + (k - 191) % 5 else 0) else 0
section BGV
variable {C R P H m M T V : Nat} {w q : Nat → Nat}
theorem bg_z {k : Nat} (h : (10 ≤ k ∧ k < 18) ∨ (147 ≤ k ∧ k < 187) ∨ 211 ≤ k) : bg C R P H m M T V w q k = 0 := by
  unfold bg
  rw [if_neg (by omega), if_neg (by omega), if_neg (by omega), if_neg (by omega), if_neg (by omega), if_neg (by omega), if_neg (by omega), if_neg (by omega), if_neg (by omega), if_neg (by omega)]
  rcases h with h | h | h
  · rw [if_pos (by omega)]
  · rw [if_neg (by omega), if_neg (by omega), if_neg (by omega), if_neg (by omega), if_neg (by omega), if_pos (by omega)]
  · rw [if_neg (by omega), if_neg (by omega), if_neg (by omega), if_neg (by omega), if_neg (by omega), if_neg (by omega), if_neg (by omega), if_neg (by omega)]
theorem bg_w {k : Nat} (h : k < 9) : bg C R P H m M T V w q (18 + k) = w k := by
  unfold bg
  rw [if_neg (by omega), if_neg (by omega), if_neg (by omega), if_neg (by omega), if_neg (by omega), if_neg (by omega), if_neg (by omega), if_neg (by omega), if_neg (by omega), if_neg (by omega), if_neg (by omega), if_pos (by omega), show 18 + k - 18 = k by omega]
theorem bg_q {k : Nat} (h : k < 40) : bg C R P H m M T V w q (27 + k) = q k := by
  unfold bg
  rw [if_neg (by omega), if_neg (by omega), if_neg (by omega), if_neg (by omega), if_neg (by omega), if_neg (by omega), if_neg (by omega), if_neg (by omega), if_neg (by omega), if_neg (by omega), if_neg (by omega), if_neg (by omega), if_pos (by omega), show 27 + k - 27 = k by omega]
theorem bg_c {k : Nat} (h : k < 40) : bg C R P H m M T V w q (67 + k) = 2 ^ C - 1 := by
  unfold bg
  rw [if_neg (by omega), if_neg (by omega), if_neg (by omega), if_neg (by omega), if_neg (by omega), if_neg (by omega), if_neg (by omega), if_neg (by omega), if_neg (by omega), if_neg (by omega), if_neg (by omega), if_neg (by omega), if_neg (by omega), if_pos (by omega)]
theorem bg_r {k : Nat} (h : k < 40) : bg C R P H m M T V w q (107 + k) = 2 ^ R - 1 := by
  unfold bg
  rw [if_neg (by omega), if_neg (by omega), if_neg (by omega), if_neg (by omega), if_neg (by omega), if_neg (by omega), if_neg (by omega), if_neg (by omega), if_neg (by omega), if_neg (by omega), if_neg (by omega), if_neg (by omega), if_neg (by omega), if_neg (by omega), if_pos (by omega)]
theorem bg_s {p : Nat} (h : p < 4) : bg C R P H m M T V w q (187 + p) = if p < P then H else 0 := by
  unfold bg
  rw [if_neg (by omega), if_neg (by omega), if_neg (by omega), if_neg (by omega), if_neg (by omega), if_neg (by omega), if_neg (by omega), if_neg (by omega), if_neg (by omega), if_neg (by omega), if_neg (by omega), if_neg (by omega), if_neg (by omega), if_neg (by omega), if_neg (by omega), if_neg (by omega), if_pos (by omega), show 187 + p - 187 = p by omega]
theorem bg_h' {p j : Nat} (h : p < 4) (hj : j < 5) : bg C R P H m M T V w q (191 + (5 * p + j)) = if p < P ∧ j < H then p * H + j else 0 := by
  unfold bg
  rw [if_neg (by omega), if_neg (by omega), if_neg (by omega), if_neg (by omega), if_neg (by omega), if_neg (by omega), if_neg (by omega), if_neg (by omega), if_neg (by omega), if_neg (by omega), if_neg (by omega), if_neg (by omega), if_neg (by omega), if_neg (by omega), if_neg (by omega), if_neg (by omega), if_neg (by omega), if_pos (by omega), show (191 + (5 * p + j) - 191) / 5 = p by omega, show (191 + (5 * p + j) - 191) % 5 = j by omega]
theorem bg_h {p j : Nat} (h : p < 4) (hj : j < 5) (hp : p < P) (hh : j < H) : bg C R P H m M T V w q (191 + (5 * p + j)) = p * H + j := by
  rw [bg_h' h hj, if_pos ⟨hp, hh⟩]
theorem ph_lt {p j : Nat} (hp : p < P) (hj : j < H) : p * H + j < P * H := by
  have : (p + 1) * H ≤ P * H := Nat.mul_le_mul_right H (by omega)
  rw [Nat.succ_mul] at this
  omega
theorem ph_inj {p j p' j' : Nat} (hj : j < H) (hj' : j' < H) (e : p * H + j = p' * H + j') : p = p' ∧ j = j' := by
  have h0 : 0 < H := by omega
  have e1 : (p * H + j) / H = p := by
    rw [Nat.mul_comm, Nat.mul_add_div h0, Nat.div_eq_of_lt hj, Nat.add_zero]
  have e2 : (p' * H + j') / H = p' := by
    rw [Nat.mul_comm, Nat.mul_add_div h0, Nat.div_eq_of_lt hj', Nat.add_zero]
  have e3 : p = p' := by rw [← e1, ← e2, e]
  subst e3
  exact ⟨rfl, by omega⟩
theorem sumN_two (f : Nat → Nat) (H : Nat) : ∀ P, sumN (fun p => sumN (fun j => f (p * H + j)) H) P = sumN f (P * H) := by
  have add : ∀ (g : Nat → Nat) (a b : Nat), sumN g (a + b) = sumN g a + sumN (fun j => g (a + j)) b := by
    intro g a b
    induction b with
    | zero => rfl
    | succ b ih =>
      show sumN g (a + b) + g (a + b) = sumN g a + (sumN (fun j => g (a + j)) b + g (a + b))
      rw [ih]
      omega
  intro P
  induction P with
  | zero =>
    rw [Nat.zero_mul]
    rfl
  | succ P ih =>
    show sumN (fun p => sumN (fun j => f (p * H + j)) H) P + sumN (fun j => f (P * H + j)) H = _
    rw [ih, Nat.succ_mul, add]
theorem sumN_split (f : Nat → Nat) (s : Nat) : ∀ n, s ≤ n → sumN f s + sumN (fun k => if s ≤ k then f k else 0) n = sumN f n := by
  intro n
  induction n with
  | zero =>
    intro h
    rw [Nat.le_zero.mp h]
    rfl
  | succ n ih =>
    intro h
    rcases Nat.lt_or_ge n s with c | c
    · have : s = n + 1 := by omega
      subst this
      have e : sumN (fun k => if n + 1 ≤ k then f k else 0) (n + 1) = 0 := sumN_zero fun k hk => if_neg (by omega)
      rw [e, Nat.add_zero]
    · show sumN f s + (sumN (fun k => if s ≤ k then f k else 0) n + (if s ≤ n then f n else 0)) = sumN f n + f n
      rw [if_pos c, ← ih c]
      omega
theorem bg_in (h40 : m ≤ 40) (kind s : Nat) (hs : s ≤ m) : cntQ q kind s + inDk (bg C R P H m M T V w q) kind s = cntQ q kind m := by
  unfold cntQ
  rw [← sumN_split (fun k => if q k = kind then 1 else 0) s m hs]
  congr 1
  unfold inDk
  refine sumN_congr fun k hk => ?_
  have hk : k < m := hk
  rw [bg_q (by omega)]
  by_cases c : s ≤ k
  · by_cases d : q k = kind
    · rw [if_pos ⟨c, d⟩, if_pos c, if_pos d]
    · rw [if_neg (fun z => d z.2), if_pos c, if_neg d]
  · rw [if_neg (fun z => c z.1), if_neg c]
theorem bg_held (hP : P ≤ 4) (hH : H ≤ 5) (hm : P * H ≤ m) (h40 : m ≤ 40) (kind : Nat) : heldN (bg C R P H m M T V w q) kind 9 = cntQ q kind (P * H) := by
  unfold cntQ
  have e1 : sumN (fun p => sumN (fun j => if q (p * H + j) = kind then 1 else 0) H) P = sumN (fun p => if p < P then sumN (fun j => if q (p * H + j) = kind then 1 else 0) H else 0) P := sumN_congr fun p hp => (if_pos hp).symm
  rw [← sumN_two (fun k => if q k = kind then 1 else 0) H P, e1, ← sumN_cut (m := P) (n := 4) (f := fun p => if p < P then sumN (fun j => if q (p * H + j) = kind then 1 else 0) H else 0) hP (fun k h1 h2 => if_neg (by omega))]
  · unfold heldN
    refine sumN_congr fun p hp => ?_
    rw [if_neg (by omega)]
    unfold inH
    rw [bg_s hp]
    by_cases c : p < P
    · rw [if_pos c, if_pos c]
      refine sumN_congr fun j hj => ?_
      have := ph_lt c hj
      rw [bg_h hp (by omega) c hj, bg_q (by omega)]
    · rw [if_neg c, if_neg c]
      rfl
theorem bg_wf (D : Dl C R P H m M T V w q) (hm : P * H ≤ m) : wfG (bg C R P H m M T V w q) := by
  obtain ⟨d1, d2, d3, d4, d5, d6, d7, d8, d9, d10, d11, d12, d13, d14, d15, d16, d17⟩ := D
  have hc : 2 ^ C - 1 < 16 := by
    rcases (show C = 1 ∨ C = 2 ∨ C = 3 ∨ C = 4 by omega) with rfl | rfl | rfl | rfl <;> decide
  have hr : 2 ^ R - 1 < 32 := by
    rcases (show R = 1 ∨ R = 2 ∨ R = 3 ∨ R = 4 ∨ R = 5 by omega) with rfl | rfl | rfl | rfl | rfl <;> decide
  refine ⟨d2, d4, d6, d8, d9, hm, d11, d12, d14, ?_, Or.inr ?_, ?_, ?_, ?_, fun c hc => ⟨?_, fun _ => bg_z (by omega)⟩, fun k hk => ?_, fun k hk => ?_, fun k hk => ⟨?_, ?_⟩, fun k hk => ?_, fun p hp => ⟨?_, fun h => ?_⟩, fun p j hp hj => ?_, fun k hk => ?_, fun k hk => ?_⟩
  · show (if P * H = m then P + 1 else 0) ≤ 5
    split <;> omega
  · rw [bg_z (k := 10) (by omega)]
    show 0 < P
    omega
  · rw [bg_z (by omega)]; decide
  · rw [bg_z (by omega)]; decide
  · rw [bg_z (by omega)]; decide
  · rw [bg_z (by omega)]; decide
  · rw [bg_w hk]; exact d15 k hk
  · rw [bg_q hk]; exact d16 k hk
  · rw [bg_c hk]; exact hc
  · rw [bg_r hk]; exact hr
  · rw [bg_z (by omega)]; decide
  · rw [bg_s hp]
    split <;> omega
  · rw [bg_s hp]
    exact if_neg (Nat.not_lt.mpr h)
  · rw [bg_s hp] at hj
    by_cases c : p < P
    · rw [if_pos c] at hj
      rw [bg_h hp (by omega) c hj]
      exact ph_lt c hj
    · rw [if_neg c] at hj
      omega
  · rw [bg_z (by omega)]; decide
  · rw [bg_z (by omega)]; decide
theorem bg_end (D : Dl C R P H m M T V w q) : endOf (bg C R P H m M T V w q) = 0 := by
  obtain ⟨d1, d2, d3, d4, d5, d6, d7, d8, d9, d10, d11, d12, d13, d14, d15, d16, d17⟩ := D
  have h1 : 1 ≤ C * R := Nat.mul_le_mul d1 d3
  unfold endOf
  rw [bg_z (k := 14) (by omega), bg_z (k := 15) (by omega), bg_z (k := 16) (by omega), bg_z (k := 17) (by omega)]
  have e0 : bg C R P H m M T V w q 0 = C := rfl
  have e1 : bg C R P H m M T V w q 1 = R := rfl
  have e2 : bg C R P H m M T V w q 2 = P := rfl
  have e8 : bg C R P H m M T V w q 8 = V := rfl
  rw [e0, e1, e2, e8, if_neg (show ¬ P = 0 by omega), if_neg (show ¬ V = 0 by omega), if_neg (show ¬ C * R ≤ 0 + 0 + 0 + 0 by omega), if_neg]
  show ¬ (if P * H = m then P + 1 else 0) = 1
  split <;> omega
theorem bg_ok (D : Dl C R P H m M T V w q) (hm : P * H ≤ m) : okG (bg C R P H m M T V w q) := by
  have hw := bg_wf D hm
  have he := bg_end D
  obtain ⟨d1, d2, d3, d4, d5, d6, d7, d8, d9, d10, d11, d12, d13, d14, d15, d16, d17⟩ := D
  refine ⟨hw, by rw [he]; exact bg_z (by omega), fun h => absurd (show P = 0 from h) (by omega), fun _ => ⟨d5, d1, d3⟩, fun c hc => ?_, fun k hk => ?_, fun k hk => ⟨?_, ?_⟩, fun k hk => ?_, ?_, ?_, fun k hk => ?_, fun h9 => ⟨?_, fun p hp => ?_⟩, fun p j p' j' hp hj hp' hj' e => ?_⟩
  · rw [bg_z (by omega)]; exact Nat.zero_le _
  · have hk : k < m := hk
    rw [bg_q (by omega)]
    exact d17 k hk
  · have hk : k < m := hk
    rw [bg_c (by omega), bg_q (by omega), Nat.testBit_two_pow_sub_one]
    exact decide_eq_true (d17 k hk).1
  · have hk : k < m := hk
    rw [bg_r (by omega), bg_q (by omega), Nat.testBit_two_pow_sub_one]
    exact decide_eq_true (d17 k hk).2
  · rw [bg_z (k := 211 + k) (by omega), bg_z (k := 14 + k / 5) (by omega), if_neg (Nat.not_lt_zero _), bg_held d6 d8 hm d9]
    have e1 := bg_in (C := C) (R := R) (P := P) (H := H) (M := M) (T := T) (V := V) (w := w) (q := q) d9 k (P * H) hm
    have e2 := bg_in (C := C) (R := R) (P := P) (H := H) (M := M) (T := T) (V := V) (w := w) (q := q) d9 k 0 (Nat.zero_le _)
    have e0 : cntQ q k 0 = 0 := rfl
    show 0 + cntQ q k (P * H) + inDk (bg C R P H m M T V w q) k (P * H) + 0 = _
    omega
  · rw [bg_z (k := 13) (by omega), bg_z (k := 11) (by omega)]
  · rw [bg_z (k := 11) (by omega)]
    show 0 + (if (if P * H = m then P + 1 else 0) = 0 then sumN (fun k => bg C R P H m M T V w q (18 + k)) 9 + (m - P * H) + 6 else (if P * H = m then P + 1 else 0)) ≤ 1000
    have hs : sumN (fun k => bg C R P H m M T V w q (18 + k)) 9 ≤ 99 * 9 := sumN_le fun k hk => by
      show bg C R P H m M T V w q (18 + k) ≤ 99
      rw [bg_w hk]
      exact d15 k hk
    by_cases c : P * H = m
    · rw [if_pos c, if_neg (by omega)]
      omega
    · rw [if_neg c, if_pos rfl]
      omega
  · rw [bg_z (k := 231 + k) (by omega)]; exact Nat.zero_le _
  · show P * H < m
    have h9 : (if P * H = m then P + 1 else 0) = 0 := h9
    by_cases c : P * H = m
    · rw [if_pos c] at h9
      omega
    · omega
  · have hp : p < P := hp
    rw [bg_s (by omega), if_pos hp]
    exact d7
  · rw [bg_s hp] at hj
    rw [bg_s hp'] at hj'
    by_cases c : p < P
    · by_cases c' : p' < P
      · rw [if_pos c] at hj
        rw [if_pos c'] at hj'
        rw [bg_h hp (by omega) c hj, bg_h hp' (by omega) c' hj'] at e
        exact ph_inj hj hj' e
      · rw [if_neg c'] at hj'
        omega
    · rw [if_neg c] at hj
      omega
end BGV
/-! a swap keeps the counts -/
def swapQ (q : Nat → Nat) (i j : Nat) : Nat → Nat := fun k => if k = j then q i else if k = i then q j else q k
theorem cnt_swap {q : Nat → Nat} {i j m : Nat} (hi : i < m) (hj : j < m) (kind : Nat) : cntQ (swapQ q i j) kind m = cntQ q kind m := by
  unfold cntQ
  by_cases e : i = j
  · subst e
    refine sumN_congr fun k _ => ?_
    unfold swapQ
    by_cases c : k = i
    · rw [if_pos c, c]
    · rw [if_neg c, if_neg c]
  · let g : Nat → Nat := fun k => if (if k = i then q j else q k) = kind then 1 else 0
    have h1 := sumN_upd (f := fun k => if q k = kind then 1 else 0) (g := g) (j := i) hi (fun k _ hk => by
      show (if (if k = i then q j else q k) = kind then 1 else 0) = (if q k = kind then 1 else 0)
      rw [if_neg hk])
    have h2 := sumN_upd (f := g) (g := fun k => if swapQ q i j k = kind then 1 else 0) (j := j) hj (fun k _ hk => by
      show (if (if k = j then q i else if k = i then q j else q k) = kind then 1 else 0) = (if (if k = i then q j else q k) = kind then 1 else 0)
      rw [if_neg hk])
    have a1 : g i = if q j = kind then 1 else 0 := by
      show (if (if i = i then q j else q i) = kind then 1 else 0) = _
      rw [if_pos rfl]
    have a2 : g j = if q j = kind then 1 else 0 := by
      show (if (if j = i then q j else q j) = kind then 1 else 0) = _
      rw [show (if j = i then q j else q j) = q j from if_neg (fun z => e z.symm)]
    have a3 : (if swapQ q i j j = kind then 1 else 0) = if q i = kind then 1 else 0 := by
      show (if (if j = j then q i else _) = kind then 1 else 0) = _
      rw [if_pos rfl]
    have h1' : sumN g m + (if q i = kind then 1 else 0) = sumN (fun k => if q k = kind then 1 else 0) m + g i := h1
    have h2' : sumN (fun k => if swapQ q i j k = kind then 1 else 0) m + g j = sumN g m + (if swapQ q i j j = kind then 1 else 0) := h2
    rw [a1] at h1'
    rw [a2, a3] at h2'
    omega
theorem Dl_swap {C R P H m M T V : Nat} {w q : Nat → Nat} (D : Dl C R P H m M T V w q) {i j : Nat} (hi : i < m) (hj : j < m) : Dl C R P H m M T V w (swapQ q i j) := by
  obtain ⟨d1, d2, d3, d4, d5, d6, d7, d8, d9, d10, d11, d12, d13, d14, d15, d16, d17⟩ := D
  refine ⟨d1, d2, d3, d4, d5, d6, d7, d8, d9, d10, d11, d12, d13, d14, d15, fun k hk => ?_, fun k hk => ?_⟩
  · unfold swapQ
    split
    · exact d16 i (by omega)
    · split
      · exact d16 j (by omega)
      · exact d16 k hk
  · unfold swapQ
    split
    · exact d17 i hi
    · split
      · exact d17 j hj
      · exact d17 k hk
