/-! OWN: the first state, and one call there -/
def a0 : Gm := fun k => if k = 9 then 1 else if k = 12 then 3 else 0
theorem a0_z {k : Nat} (h : k ≠ 9) (h2 : k ≠ 12) : a0 k = 0 := by
  unfold a0
  rw [if_neg h, if_neg h2]
theorem a0_in (kind m : Nat) : inDk a0 kind m = 0 := rfl
theorem a0_held (kind but : Nat) : heldN a0 kind but = 0 := sumN_zero fun p hp => by
  have e : inH a0 kind p = 0 := by
    unfold inH
    rw [a0_z (k := 187 + p) (by omega) (by omega)]
    rfl
  show (if p = but then 0 else inH a0 kind p) = 0
  rw [e]
  split <;> rfl
theorem wf_a0 : wfG a0 := by
  refine ⟨by decide, by decide, by decide, by decide, by decide, by decide, by decide, by decide, by decide, by decide, Or.inl rfl, by decide, by decide, by decide, fun c hc => ⟨?_, fun _ => a0_z (by omega) (by omega)⟩, fun w hw => ?_, fun k hk => ?_, fun k hk => ⟨?_, ?_⟩, fun k hk => ?_, fun p hp => ⟨?_, fun _ => a0_z (by omega) (by omega)⟩, fun p j hp hj => ?_, fun k hk => ?_, fun k hk => ?_⟩
  · rw [a0_z (by omega) (by omega)]; exact Nat.zero_le _
  · rw [a0_z (by omega) (by omega)]; exact Nat.zero_le _
  · rw [a0_z (by omega) (by omega)]; decide
  · rw [a0_z (by omega) (by omega)]; decide
  · rw [a0_z (by omega) (by omega)]; decide
  · rw [a0_z (by omega) (by omega)]; exact Nat.zero_le _
  · rw [a0_z (by omega) (by omega)]; exact Nat.zero_le _
  · rw [a0_z (k := 187 + p) (by omega) (by omega)] at hj
    exact absurd hj (Nat.not_lt_zero _)
  · rw [a0_z (by omega) (by omega)]; exact Nat.zero_le _
  · rw [a0_z (by omega) (by omega)]; decide
theorem ok_a0 : okG a0 := by
  refine ⟨wf_a0, rfl, fun _ => ⟨rfl, rfl, rfl⟩, fun h => absurd rfl h, fun c hc => ?_, fun k hk => absurd (show k < 0 from hk) (Nat.not_lt_zero _), fun k hk => absurd (show k < 0 from hk) (Nat.not_lt_zero _), fun k hk => ?_, rfl, Nat.le_of_ble_eq_true rfl, fun k hk => ?_, fun h => absurd h (by decide), fun p j p' j' hp hj _ _ _ => ?_⟩
  · rw [a0_z (by omega) (by omega)]; exact Nat.zero_le _
  · rw [a0_held, a0_in, a0_in, a0_z (k := 211 + k) (by omega) (by omega), a0_z (k := 14 + k / 5) (by omega) (by omega), if_neg (Nat.not_lt_zero _)]
  · rw [a0_z (k := 231 + k) (by omega) (by omega)]; exact Nat.zero_le _
  · rw [a0_z (k := 187 + p) (by omega) (by omega)] at hj
    exact absurd hj (Nat.not_lt_zero _)
theorem encR_a0 : encR a0 (fun _ => 0) (iX8.2.2.1 0) := by
  refine ⟨fun k hk h9 => ?_, by decide, fun k hk => ?_⟩
  · show (if k = 12 then (3 : Int32) else 0) = iN (a0 k)
    by_cases e : k = 12
    · subst e
      rfl
    · rw [if_neg e, a0_z h9 e]
      rfl
  · show (if 238 + k = 12 then (3 : Int32) else 0) = 0
    rw [if_neg (by omega)]
theorem sh0 : ∀ k : Fin 40, ((0 : Int64) >>> ((iN k.val).toInt64 &&& 63)) &&& 1 = 0 := by decide
theorem mask0 : okMask 0 0 0 := by
  intro i hi
  rw [Nat.zero_testBit, Bool.false_and, Bool.and_false]
  exact BitVec.getLsbD_zero
theorem encG_a0 : encG a0 (fun _ => 0) z0 := by
  refine ⟨rfl, rfl, rfl, rfl, rfl, by decide, fun k hk => ?_, fun k hk => ?_, fun p j hp hj => ?_, fun p hp => ?_, fun c hc => ?_, fun k hk => ?_, fun w hw => ?_, fun k hk => ?_, fun k hk => rfl⟩
  · rw [a0_z (by omega) (by omega)]; rfl
  · rw [a0_z (by omega) (by omega)]
    exact iff_of_true (sh0 ⟨k, hk⟩) rfl
  · rw [a0_z (k := 187 + p) (by omega) (by omega)] at hj
    exact absurd hj (Nat.not_lt_zero _)
  · rw [a0_z (by omega) (by omega)]; rfl
  · rw [a0_z (by omega) (by omega)]; rfl
  · rw [a0_z (by omega) (by omega)]; rfl
  · rw [a0_z (by omega) (by omega)]; rfl
  · rw [a0_z (k := 67 + k) (by omega) (by omega), a0_z (k := 107 + k) (by omega) (by omega)]
    exact mask0
theorem encRu_a0 (x : Nat → Int32) : encRu a0 (iX5 x) :=
  ⟨rfl, rfl, rfl, rfl, fun h => absurd rfl h, rfl, fun k hk => by rw [a0_z (by omega) (by omega)]; rfl, fun k hk => rfl⟩
theorem first_Re {pl : Nat → Ob → Prop} {q : Nat} {x : Nat → Int32} {PS SS : Nat → Nat × Ob} (h : pl q (iX5 x)) : Re pl z0 z0 (iX5 x) q iX4 PS SS iX8 := by
  refine ⟨⟨a0, fun _ => 0, ok_a0, encR_a0, encG_a0, encRu_a0 x, h⟩, ⟨0, 0, by omega, by omega, rfl, rfl, rfl, fun i hi => absurd hi (Nat.not_lt_zero _)⟩, fun i hi => Or.inl ⟨rfl, rfl⟩, ⟨0, by omega, rfl, rfl, fun k hk => absurd hk (Nat.not_lt_zero _)⟩, ⟨0, by omega, rfl, rfl, fun k hk => absurd hk (Nat.not_lt_zero _)⟩, rfl, rfl⟩
/-- the first state, exactly -/
def R0 : Rl := fun pl sX sG ru q sR PS SS sM => Re pl sX sG ru q sR PS SS sM ∧ sX = z0 ∧ sG = z0 ∧ sR = iX4 ∧ sM = iX8
theorem R0_Re : ∀ pl sX sG ru q sR PS SS sM, R0 pl sX sG ru q sR PS SS sM → Re pl sX sG ru q sR PS SS sM := fun _ _ _ _ _ _ _ _ _ h => h.1
theorem R0_x {pl : Nat → Ob → Prop} {sX sG ru : Ob} {q : Nat} {sR : Ob} {PS SS : Nat → Nat × Ob} {sM : Ob} (h : R0 pl sX sG ru q sR PS SS sM) : f_X1_isEnded NN z0 ru = some 1 := by
  obtain ⟨hR, rfl, rfl, rfl, rfl⟩ := h
  obtain ⟨a, L, ho, hr, hG, hu, -⟩ := hR.1
  rw [X1_isEnded_eq ho.1 hG hu, if_neg]
  intro he
  have h12 : iX8.2.2.1 0 12 = iN (a 12) := hr.1 12 (by omega) (by omega)
  rw [ho.2.1, he] at h12
  exact absurd (show (3 : Int32) = 0 from h12) (by decide)
/-! load of an empty text -/
theorem load0_x : (f_X7_load NN z0 iX4 z0).map (fun z => z.1) = some (-100) := by decide +kernel
theorem load0_m : (f_X8_load NN iX8).map (fun z => z.1) = some (-100) := by decide +kernel
theorem Pp_1_0 : Pp_1 NN R0 := by
  intro pl sX sG ru q sR PS SS sM hr
  obtain ⟨-, rfl, rfl, rfl, rfl⟩ := hr
  obtain ⟨z1, h1, e1⟩ := Option.map_eq_some_iff.mp load0_x
  obtain ⟨z2, h2, e2⟩ := Option.map_eq_some_iff.mp load0_m
  exact ⟨z1, z2, h1, h2, e1.trans e2.symm, fun _ _ => trivial⟩
/-! the search of a game that is over -/
def filA (A : Nat → Int32) (v : Int32) : Nat → Nat → Int32
  | 0 => A
  | k + 1 => upd (filA A v k) k v
theorem filA_in {A : Nat → Int32} {v : Int32} {k : Nat} : ∀ {n : Nat}, k < n → filA A v n k = v := by
  intro n
  induction n with
  | zero => intro h; omega
  | succ n ih =>
    intro h
    show upd (filA A v n) n v k = v
    rw [upd_at]
    by_cases e : k = n
    · rw [if_pos e]
    · rw [if_neg e]
      exact ih (by omega)
theorem fill_eq (A : Nat → Int32) (v : Int32) {n : Nat} (hn : n < 90000) : f_J7_fill_53178 NN n A v = some (filA A v n) := by
  unfold f_J7_fill_53178 f_J7_fill_53178_5
  refine loop3 (fun k => iN k) (fun _ => iN n) (fun k => filA A v k) n (fun k hk self => ?_) (fun self => ?_) NN 0 (Nat.zero_le _) (show n < 0 + 100000 by omega)
  · unfold F_J7_fill_53178_5
    rw [if_neg (fun q => absurd ((iN_le (by omega) (by omega)).mp q) (by omega)), chk_t (iN_inb hk (by omega)), iN_clamp (by omega)]
    show self (iN k + iN 1) _ _ = _
    rw [iN_add]
    rfl
  · unfold F_J7_fill_53178_5
    rw [if_pos ((iN_le (by omega) (by omega)).mpr (Nat.le_refl _))]
theorem siz0 {k : Nat} (h : k < 4) : f_X1_sizeOf NN z0 (iN k) = some 0 := by
  unfold f_X1_sizeOf
  rw [if_neg (iN_not_neg k (by omega)), if_neg (show ¬ (4 : Int32) ≤ iN k from fun q => absurd ((iN_le (a := 4) (b := k) (by omega) (by omega)).mp q) (by omega)), chk_t (iN_inb h (by omega))]
  rfl
def tk0 (s : Ob) : Nat → Ob
  | 0 => si (si (si (si s 3 0) 4 0) 5 0) 6 0
  | k + 1 => sa (tk0 s k) 2 (upd ((tk0 s k).2.2.1 2) k 0)
def tk1 (s : Ob) : Nat → Ob
  | 0 => tk0 s 4
  | k + 1 => sb (tk1 s k) 1 (vp_updL ((tk1 s k).2.2.2 1) k 0)
theorem tf72 {self : Int32 → Ob → Option Ob} {k : Nat} (h : k < 4) (s : Ob) : f_X3_takeFrom_72 NN z0 self NN (iN k) 0 s = self (iN (k + 1)) s := by
  show F_X3_takeFrom_72 NN z0 self (f_X3_takeFrom_72 NN z0 self 99999) (iN k) 0 s = _
  unfold F_X3_takeFrom_72
  rw [siz0 h, ob_some, if_pos (by decide)]
  show self (iN k + iN 1) _ = _
  rw [iN_add]
theorem le4 {k : Nat} (h : k < 4) : ¬ (4 : Int32) ≤ iN k := fun q => absurd ((iN_le (a := 4) (b := k) (by omega) (by omega)).mp q) (by omega)
theorem tk0_0 (s : Ob) : si (si (si (si s 3 (z0.1 2)) 4 (z0.1 1)) 5 (z0.1 4)) 6 (z0.1 6) = tk0 s 0 := rfl
theorem take0_34 (s : Ob) (h2 : f_X3_takeFrom_58 NN z0 NN (0 : Int32) (tk0 s 4) = some (tk1 s 4)) : ∀ t, t = tk0 s 0 → f_X3_takeFrom_34 NN z0 NN (0 : Int32) t = some (tk1 s 4) := by
  intro t e
  subst e
  unfold f_X3_takeFrom_34
  refine loop2 (fun k => iN k) (fun k => tk0 s k) 4 (fun k hk self => ?_) (fun self => ?_) NN 0 (Nat.zero_le _) (show 4 < 0 + 100000 by omega)
  · unfold F_X3_takeFrom_34
    rw [if_neg (le4 hk), X1_topOf_eq hk, ob_some, chk_t (iN_inb hk (by omega)), iN_clamp (by omega)]
    show self (iN k + iN 1) _ = _
    rw [iN_add]
    rfl
  · unfold F_X3_takeFrom_34
    rw [if_pos (by decide)]
    exact h2
theorem take0 (s : Ob) : f_X3_takeFrom NN s z0 = some (tk1 s 4) := by
  have h2 : f_X3_takeFrom_58 NN z0 NN (0 : Int32) (tk0 s 4) = some (tk1 s 4) := by
    unfold f_X3_takeFrom_58
    refine loop2 (fun k => iN k) (fun k => tk1 s k) 4 (fun k hk self => ?_) (fun self => ?_) NN 0 (Nat.zero_le _) (show 4 < 0 + 100000 by omega)
    · unfold F_X3_takeFrom_58
      rw [if_neg (le4 hk), chk_t (iN_inb hk (by omega)), tf72 hk, iN_clamp (by omega)]
      rfl
    · unfold F_X3_takeFrom_58
      rw [if_pos (by decide)]
  have h1 : ∀ t, t = tk0 s 0 → f_X3_takeFrom_34 NN z0 NN (0 : Int32) t = some (tk1 s 4) := take0_34 s h2
  unfold f_X3_takeFrom
  rw [znm_eq, znm_eq, znm_eq]
  exact h1 _ (tk0_0 s)
theorem tk_p (s : Ob) : ∀ {k : Nat}, k < 4 → (tk1 s 4).2.2.1 2 k = 0 := by
  intro k hk
  rcases (show k = 0 ∨ k = 1 ∨ k = 2 ∨ k = 3 by omega) with rfl | rfl | rfl | rfl <;> rfl
theorem tk_h (s : Ob) : ∀ {k : Nat}, k < 4 → (tk1 s 4).2.2.2 1 k = 0 := by
  intro k hk
  rcases (show k = 0 ∨ k = 1 ∨ k = 2 ∨ k = 3 by omega) with rfl | rfl | rfl | rfl <;> rfl
theorem tk_n (s : Ob) : (tk1 s 4).1 3 = 0 ∧ (tk1 s 4).1 4 = 0 ∧ (tk1 s 4).1 5 = 0 ∧ (tk1 s 4).1 6 = 0 := ⟨rfl, rfl, rfl, rfl⟩
theorem pack0 (s : Ob) : f_X3_packed NN (tk1 s 4) = some 1 := by
  obtain ⟨e3, e4, e5, e6⟩ := tk_n s
  have hp := @tk_p s
  generalize tk1 s 4 = T at e3 e4 e5 e6 hp
  unfold f_X3_packed f_X3_packed_4
  refine loop2 (fun _ => (0 : Int32)) (fun k => iN k) 4 (fun k hk self => ?_) (fun self => ?_) NN 0 (Nat.zero_le _) (show 4 < 0 + 100000 by omega)
  · unfold F_X3_packed_4
    rw [if_neg (le4 hk), chk_t (iN_inb hk (by omega)), iN_clamp (by omega), hp hk]
    show self _ (iN k + iN 1) = _
    rw [iN_add]
    rfl
  · unfold F_X3_packed_4
    rw [if_pos (by decide), znm_eq, znm_eq, e3, e4, e5, e6]
    rfl
def hh0 : Nat → Int64
  | 0 => (1 : Int32).toInt64
  | k + 1 => ((hh0 k ^^^ ((hh0 k).toUInt64 >>> (((29 : Int32)).toInt64.toUInt64 &&& Int64.toUInt64 63)).toInt64) * (-7046029254386353131 : Int64)) + 0
def slot0 : Int32 := ((((hh0 4 ^^^ ((hh0 4).toUInt64 >>> (((32 : Int32)).toInt64.toUInt64 &&& Int64.toUInt64 63)).toInt64) * (-7046029254386353131 : Int64))).toUInt64 >>> (((51 : Int32)).toInt64.toUInt64 &&& Int64.toUInt64 63)).toInt64.toInt32
theorem slot0_in : inb slot0 8192 = true := by decide +kernel
theorem slot_eq (S s : Ob) : f_X6_slotOf NN S (tk1 s 4) 1 = some slot0 := by
  have hh := @tk_h s
  generalize tk1 s 4 = T at hh
  unfold f_X6_slotOf f_X6_slotOf_6
  refine loop2 (fun k => hh0 k) (fun k => iN k) 4 (fun k hk self => ?_) (fun self => ?_) NN 0 (Nat.zero_le _) (show 4 < 0 + 100000 by omega)
  · unfold F_X6_slotOf_6
    rw [if_neg (le4 hk), znm_eq, chk_t (iN_inb hk (by omega)), znm_eq, iN_clamp (by omega), hh hk]
    show self _ (iN k + iN 1) = _
    rw [iN_add]
    rfl
  · unfold F_X6_slotOf_6
    rw [if_pos (by decide), znm_eq, znm_eq]
    rfl
theorem add0 {S : Ob} (s : Ob) (h2 : S.1 2 = 0) (h7 : ∀ k, k < 8192 → S.2.2.1 7 k = 0) : ∃ S', f_X6_add NN S (tk1 s 4) = some S' ∧ S'.1 0 = S.1 0 ∧ S'.1 2 = 1 := by
  have hs := of_decide_eq_true slot0_in
  have h4000 : inb (0 : Int32) 4000 = true := by decide
  unfold f_X6_add
  rw [pack0, ob_some, slot_eq, ob_some]
  show ∃ S', F_X6_add_16 NN (tk1 s 4) (f_X6_add_16 NN (tk1 s 4) 99999) 1 slot0 0 S = some S' ∧ _
  unfold F_X6_add_16
  rw [if_neg (by decide), chk_t slot0_in, if_pos (h7 _ hs.2)]
  unfold f_X6_store
  rw [h2, if_pos (by decide), chk_t h4000, znm_eq, chk_t (by decide), chk_t (by decide), znm_eq, znm_eq, chk_t slot0_in, ob_some]
  refine ⟨_, rfl, rfl, ?_⟩
  show S.1 2 + 1 = 1
  rw [h2]
  rfl
theorem survey0 {ru : Ob} (he : f_X1_isEnded NN z0 ru = some 1) (sS sH sN : Ob) : ∃ z, f_X6_survey NN sS z0 sH sN ru = some z ∧ z.1.1 0 = 0 ∧ z.1.1 1 = 0 ∧ z.1.1 2 = 1 := by
  unfold f_X6_survey f_X6_clear
  rw [fill_eq _ _ (by omega), ob_some]
  simp only [znm_eq]
  rw [ob_some, take0, ob_some]
  obtain ⟨S', h1, h2, h3⟩ := add0 (S := si (si (si (si (si (sa sS 7 (filA (sS.2.2.1 7) 0 8192)) 0 0) 1 (-1)) 2 0) 3 (-1)) 4 (-1)) sN rfl (fun k hk => filA_in hk)
  rw [h1, ob_some, he, ob_some, if_neg (by decide), X1_score_eq, ob_some]
  refine ⟨_, rfl, h2, rfl, h3⟩
theorem val0_m : (f_X8_value NN iX8).map (fun z => z.1) = some 0 := by decide +kernel
theorem pos0_m : (f_X8_positions NN iX8).map (fun z => z.1) = some 1 := by decide +kernel
theorem Pp_32_0 : Pp_32 NN R0 := by
  intro pl sX sG ru q sR PS SS sM hr sS sH sN
  have he := R0_x hr
  obtain ⟨-, rfl, rfl, rfl, rfl⟩ := hr
  obtain ⟨z2, h2, e2⟩ := Option.map_eq_some_iff.mp val0_m
  obtain ⟨z, h1, k0, k1, -⟩ := survey0 he sS sH sN
  refine ⟨(z.1.1 1, z.1, z.2.1, z.2.2), z2, ?_, h2, k1.trans e2.symm, trivial⟩
  unfold f_X7_value
  rw [h1, ob_some, if_pos k0]
theorem Pp_33_0 : Pp_33 NN R0 := by
  intro pl sX sG ru q sR PS SS sM hr sS sH sN
  have he := R0_x hr
  obtain ⟨-, rfl, rfl, rfl, rfl⟩ := hr
  obtain ⟨z2, h2, e2⟩ := Option.map_eq_some_iff.mp pos0_m
  obtain ⟨z, h1, k0, -, k2⟩ := survey0 he sS sH sN
  refine ⟨(z.1.1 2, z.1, z.2.1, z.2.2), z2, ?_, h2, k2.trans e2.symm, trivial⟩
  unfold f_X7_positions
  rw [h1, ob_some, if_pos k0]
theorem over0 (v : Int32) : f_X8_isOver NN (si iX8 7 v) = some 1 := by
  show (if (3 : Int32) ≤ 0 then (some (0 : Int32)) else (some (1 : Int32))) = some 1
  rw [if_neg (by decide)]
theorem Pp_34_0 : Pp_34 NN R0 := by
  intro pl sX sG ru q sR PS SS sM hr q8 q9 sS sH sN fo a1 a2
  have he := R0_x hr
  obtain ⟨-, rfl, rfl, rfl, rfl⟩ := hr
  by_cases h1 : a1 < 0
  · refine ⟨(1, sS, sH, sN, fo, q8, q9), (0, si iX8 7 1), 1, ?_, ?_, rfl, rfl, fun e => absurd (show (1 : Int32) = 0 from e) (by decide), trivial⟩
    · unfold f_L_valueBehind f_X7_valueBehind ft_X7_valueBehind
      rw [if_pos h1, if_pos h1]; rfl
    · unfold f_X8_valueBehind
      rw [X8_in_eq, if_pos h1, ob_some, X8_isThrown_0]; rfl
  · by_cases h2 : a1 ≤ 3
    · refine ⟨(0, sS, sH, sN, vp_updL fo 0 (-3 : Int32).toInt64, q8, q9), (-3, si iX8 7 0), 0, ?_, ?_, rfl, rfl, fun _ => ?_, trivial⟩
      · unfold f_L_valueBehind f_X7_valueBehind
        rw [if_neg h1, if_pos h2, he]; rfl
      · unfold f_X8_valueBehind
        rw [X8_in_eq, if_neg h1, if_neg (Int32.not_lt.mpr h2), ob_some, X8_isThrown_1, ob_some, if_pos rfl, over0, ob_some]; rfl
      · show vp_updL fo 0 _ 0 = _
        unfold vp_updL
        simp
    · refine ⟨(1, sS, sH, sN, fo, q8, q9), (0, si iX8 7 1), 1, ?_, ?_, rfl, rfl, fun e => absurd (show (1 : Int32) = 0 from e) (by decide), trivial⟩
      · unfold f_L_valueBehind f_X7_valueBehind ft_X7_valueBehind
        rw [if_neg h1, if_neg h1, if_neg h2, if_neg h2]; rfl
      · unfold f_X8_valueBehind
        rw [X8_in_eq, if_neg h1, if_pos (Int32.not_le.mp h2), ob_some, X8_isThrown_0]; rfl
theorem Pp_35_0 : Pp_35 NN R0 := by
  intro pl sX sG ru q sR PS SS sM hr q8 q9 sS sH sN fo a1
  have he := R0_x hr
  obtain ⟨-, rfl, rfl, rfl, rfl⟩ := hr
  have yes : ∀ i, i < 2 → f_X8_bestMove NN iX8 (iN i) = some (-3, si iX8 7 0) := fun i hi => by
    unfold f_X8_bestMove
    rw [show f_X8_in NN (iN i) 0 1 = some 1 from X8_in_yes (n := 2) (by omega) hi, ob_some, X8_isThrown_1, ob_some, if_pos rfl, over0, ob_some]
    rfl
  have fin : ∀ i, i < 2 → (f_L_bestMove NN q q8 q9 z0 z0 ru sS sH sN fo (iN i) = some (0, sS, sH, sN, vp_updL fo 0 (-3 : Int32).toInt64, q8, q9)) → ∃ (z1 : Int32 × Ob × Ob × Ob × (Nat → Int64) × Nat × Nat) (z2 : Int32 × Ob) (z3 : Int32), (f_L_bestMove NN q q8 q9 z0 z0 ru sS sH sN fo (iN i) = some z1) ∧ (f_X8_bestMove NN iX8 (iN i) = some z2) ∧ (f_X8_thrown NN z2.2 = some z3) ∧ (z3 = z1.1) ∧ (z1.1 = 0 → (z1.2.2.2.2.1 0) = (z2.1).toInt64) ∧ True := fun i hi h => by
    refine ⟨(0, sS, sH, sN, vp_updL fo 0 (-3 : Int32).toInt64, q8, q9), (-3, si iX8 7 0), 0, h, yes i hi, rfl, rfl, fun _ => ?_, trivial⟩
    show vp_updL fo 0 _ 0 = _
    unfold vp_updL
    simp
  rcases idx2 a1 2 with hc | ⟨i, -, hi, rfl⟩
  · have hne : ∀ k, k < 2 → ¬ a1 = iN k := by
      intro k hk e
      subst e
      rcases hc with hc | ⟨m, hm, e, hc⟩
      · exact iN_not_neg k (by omega) hc
      · have := (iN_inj (by omega) hm).mp e
        omega
    have n0 : ¬ a1 = 0 := hne 0 (by omega)
    have n1 : ¬ a1 = 1 := hne 1 (by omega)
    refine ⟨(1, sS, sH, sN, fo, q8, q9), (0, si iX8 7 1), 1, ?_, ?_, rfl, rfl, fun e => absurd (show (1 : Int32) = 0 from e) (by decide), trivial⟩
    · unfold f_L_bestMove f_X7_bestMove ft_X7_bestMove
      rw [if_neg n0, if_neg n0, if_neg n1, if_neg n1]; rfl
    · unfold f_X8_bestMove
      rw [show f_X8_in NN a1 0 1 = some 0 from X8_in_no (n := 2) (by omega) hc, ob_some, X8_isThrown_0]; rfl
  · refine fin i hi ?_
    rcases (show i = 0 ∨ i = 1 by omega) with rfl | rfl
    · unfold f_L_bestMove f_X7_bestMove
      rw [if_pos (show iN 0 = 0 from rfl)]
      unfold f_X7_bestMove_20
      rw [he]; rfl
    · unfold f_L_bestMove f_X7_bestMove
      rw [if_neg (show ¬ iN 1 = 0 by decide), if_pos (show iN 1 = 1 from rfl)]
      unfold f_X7_bestMove_20
      rw [he]; rfl
theorem Pp_all : PpAll NN R0 := ⟨Pp_0_of R0_Re P_0_ok, Pp_1_0, Pp_2_of R0_Re P_2_ok, Pp_3_of R0_Re P_3_ok, Pp_4_of R0_Re P_4_ok, Pp_5_of R0_Re P_5_ok, Pp_6_of R0_Re P_6_ok, Pp_7_of R0_Re P_7_ok, Pp_8_of R0_Re P_8_ok, Pp_9_of R0_Re P_9_ok, Pp_10_of R0_Re P_10_ok, Pp_11_of R0_Re P_11_ok, Pp_12_of R0_Re P_12_ok, Pp_13_of R0_Re P_13_ok, Pp_14_of R0_Re P_14_ok, Pp_15_of R0_Re P_15_ok, Pp_16_of R0_Re P_16_ok, Pp_17_of R0_Re P_17_ok, Pp_18_of R0_Re P_18_ok, Pp_19_of R0_Re P_19_ok, Pp_20_of R0_Re P_20_ok, Pp_21_of R0_Re P_21_ok, Pp_22_of R0_Re P_22_ok, Pp_23_of R0_Re P_23_ok, Pp_24_of R0_Re P_24_ok, Pp_25_of R0_Re P_25_ok, Pp_26_of R0_Re P_26_ok, Pp_27_of R0_Re P_27_ok, Pp_28_of R0_Re P_28_ok, Pp_29_of R0_Re P_29_ok, Pp_30_of R0_Re P_30_ok, Pp_31_of R0_Re P_31_ok, Pp_32_0, Pp_33_0, Pp_34_0, Pp_35_0, Pp_36_of R0_Re P_36_ok, Pp_37_of R0_Re P_37_ok, Pp_38_of R0_Re P_38_ok, Pp_39a_of R0_Re P_39a_ok, Pp_39b_of R0_Re P_39b_ok, Pp_40_of R0_Re P_40_ok, Pp_41_of R0_Re P_41_ok, Pp_42_of R0_Re P_42_ok⟩
