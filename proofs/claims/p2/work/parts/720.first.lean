/-! OWN: the first state; an array filled -/
def a0 : Gm := fun k => if k = 9 then 1 else if k = 12 then 3 else 0
theorem a0_z {k : Nat} (h : k ≠ 9) (h2 : k ≠ 12) : a0 k = 0 := by
  unfold a0
  rw [if_neg h, if_neg h2]
theorem a0_in (kind m : Nat) : inDk a0 kind m = 0 := rfl
theorem a0_held (kind but : Nat) : heldN a0 kind but = 0 := sumN_zero fun p hp => by
  have e : inH a0 kind p = 0 := by
    unfold inH
    rw [a0_z (k := 187 + p) (by omega) (by omega)]
    rfl
  show (if p = but then 0 else inH a0 kind p) = 0
  rw [e]
  split <;> rfl
theorem wf_a0 : wfG a0 := by
  refine ⟨by decide, by decide, by decide, by decide, by decide, by decide, by decide, by decide, by decide, by decide, Or.inl rfl, by decide, by decide, by decide, fun c hc => ⟨?_, fun _ => a0_z (by omega) (by omega)⟩, fun w hw => ?_, fun k hk => ?_, fun k hk => ⟨?_, ?_⟩, fun k hk => ?_, fun p hp => ⟨?_, fun _ => a0_z (by omega) (by omega)⟩, fun p j hp hj => ?_, fun k hk => ?_, fun k hk => ?_⟩
  · rw [a0_z (by omega) (by omega)]; exact Nat.zero_le _
  · rw [a0_z (by omega) (by omega)]; exact Nat.zero_le _
  · rw [a0_z (by omega) (by omega)]; decide
  · rw [a0_z (by omega) (by omega)]; decide
  · rw [a0_z (by omega) (by omega)]; decide
  · rw [a0_z (by omega) (by omega)]; exact Nat.zero_le _
  · rw [a0_z (by omega) (by omega)]; exact Nat.zero_le _
  · rw [a0_z (k := 187 + p) (by omega) (by omega)] at hj
    exact absurd hj (Nat.not_lt_zero _)
  · rw [a0_z (by omega) (by omega)]; exact Nat.zero_le _
  · rw [a0_z (by omega) (by omega)]; decide
theorem ok_a0 : okG a0 := by
  refine ⟨wf_a0, rfl, fun _ => ⟨rfl, rfl, rfl⟩, fun h => absurd rfl h, fun c hc => ?_, fun k hk => absurd (show k < 0 from hk) (Nat.not_lt_zero _), fun k hk => absurd (show k < 0 from hk) (Nat.not_lt_zero _), fun k hk => ?_, rfl, Nat.le_of_ble_eq_true rfl, fun k hk => ?_, fun h => absurd h (by decide), fun p j p' j' hp hj _ _ _ => ?_⟩
  · rw [a0_z (by omega) (by omega)]; exact Nat.zero_le _
  · rw [a0_held, a0_in, a0_in, a0_z (k := 211 + k) (by omega) (by omega), a0_z (k := 14 + k / 5) (by omega) (by omega), if_neg (Nat.not_lt_zero _)]
  · rw [a0_z (k := 231 + k) (by omega) (by omega)]; exact Nat.zero_le _
  · rw [a0_z (k := 187 + p) (by omega) (by omega)] at hj
    exact absurd hj (Nat.not_lt_zero _)
theorem encR_a0 : encR a0 (fun _ => 0) (iX8.2.2.1 0) := by
  refine ⟨fun k hk h9 => ?_, by decide, fun k hk => ?_⟩
  · show (if k = 12 then (3 : Int32) else 0) = iN (a0 k)
    by_cases e : k = 12
    · subst e
      rfl
    · rw [if_neg e, a0_z h9 e]
      rfl
  · show (if 238 + k = 12 then (3 : Int32) else 0) = 0
    rw [if_neg (by omega)]
theorem sh0 : ∀ k : Fin 40, ((0 : Int64) >>> ((iN k.val).toInt64 &&& 63)) &&& 1 = 0 := by decide
theorem mask0 : okMask 0 0 0 := by
  intro i hi
  rw [Nat.zero_testBit, Bool.false_and, Bool.and_false]
  exact BitVec.getLsbD_zero
theorem encG_a0 : encG a0 (fun _ => 0) z0 := by
  refine ⟨rfl, rfl, rfl, rfl, rfl, by decide, fun k hk => ?_, fun k hk => ?_, fun p j hp hj => ?_, fun p hp => ?_, fun c hc => ?_, fun k hk => ?_, fun w hw => ?_, fun k hk => ?_, fun k hk => rfl⟩
  · rw [a0_z (by omega) (by omega)]; rfl
  · rw [a0_z (by omega) (by omega)]
    exact iff_of_true (sh0 ⟨k, hk⟩) rfl
  · rw [a0_z (k := 187 + p) (by omega) (by omega)] at hj
    exact absurd hj (Nat.not_lt_zero _)
  · rw [a0_z (by omega) (by omega)]; rfl
  · rw [a0_z (by omega) (by omega)]; rfl
  · rw [a0_z (by omega) (by omega)]; rfl
  · rw [a0_z (by omega) (by omega)]; rfl
  · rw [a0_z (k := 67 + k) (by omega) (by omega), a0_z (k := 107 + k) (by omega) (by omega)]
    exact mask0
theorem encRu_a0 (x : Nat → Int32) : encRu a0 (iX5 x) :=
  ⟨rfl, rfl, rfl, rfl, fun h => absurd rfl h, rfl, fun k hk => by rw [a0_z (by omega) (by omega)]; rfl, fun k hk => rfl⟩
theorem first_Re {pl : Nat → Ob → Prop} {q : Nat} {x : Nat → Int32} {PS SS : Nat → Nat × Ob} (h : pl q (iX5 x)) : Re pl z0 z0 (iX5 x) q iX4 PS SS iX8 := by
  refine ⟨⟨a0, fun _ => 0, ok_a0, encR_a0, encG_a0, encRu_a0 x, h⟩, ⟨0, 0, by omega, by omega, rfl, rfl, rfl, fun i hi => absurd hi (Nat.not_lt_zero _)⟩, fun i hi => Or.inl ⟨rfl, rfl⟩, ⟨0, by omega, rfl, rfl, fun k hk => absurd hk (Nat.not_lt_zero _)⟩, ⟨0, by omega, rfl, rfl, fun k hk => absurd hk (Nat.not_lt_zero _)⟩, rfl, rfl⟩
def filA (A : Nat → Int32) (v : Int32) : Nat → Nat → Int32
  | 0 => A
  | k + 1 => upd (filA A v k) k v
theorem filA_in {A : Nat → Int32} {v : Int32} {k : Nat} : ∀ {n : Nat}, k < n → filA A v n k = v := by
  intro n
  induction n with
  | zero => intro h; omega
  | succ n ih =>
    intro h
    show upd (filA A v n) n v k = v
    rw [upd_at]
    by_cases e : k = n
    · rw [if_pos e]
    · rw [if_neg e]
      exact ih (by omega)
theorem fill_eq (A : Nat → Int32) (v : Int32) {n : Nat} (hn : n < 90000) : f_J7_fill_53178 NN n A v = some (filA A v n) := by
  unfold f_J7_fill_53178 f_J7_fill_53178_5
  refine loop3 (fun k => iN k) (fun _ => iN n) (fun k => filA A v k) n (fun k hk self => ?_) (fun self => ?_) NN 0 (Nat.zero_le _) (show n < 0 + 100000 by omega)
  · unfold F_J7_fill_53178_5
    rw [if_neg (fun q => absurd ((iN_le (by omega) (by omega)).mp q) (by omega)), chk_t (iN_inb hk (by omega)), iN_clamp (by omega)]
    show self (iN k + iN 1) _ _ = _
    rw [iN_add]
    rfl
  · unfold F_J7_fill_53178_5
    rw [if_pos ((iN_le (by omega) (by omega)).mpr (Nat.le_refl _))]
theorem le4 {k : Nat} (h : k < 4) : ¬ (4 : Int32) ≤ iN k := fun q => absurd ((iN_le (a := 4) (b := k) (by omega) (by omega)).mp q) (by omega)
