/-! OWN: the pure half: append -/
theorem bitL_ofNat (n i : Nat) (h : i < 64) : bitL (Int64.ofNat n) i = n.testBit i := by
  show (BitVec.ofNat 64 n).getLsbD i = _
  rw [BitVec.getLsbD_ofNat, decide_eq_true h, Bool.true_and]
theorem shU64 : ∀ k : Fin 64, ((((Int32.ofNat k.val).toInt64.toUInt64 &&& Int64.toUInt64 63).toBitVec % 64).toNat) = k.val := by decide
theorem bitL_ushr (x : Int64) {k : Nat} (hk : k < 64) (i : Nat) : bitL (x.toUInt64 >>> ((iN k).toInt64.toUInt64 &&& Int64.toUInt64 63)).toInt64 i = bitL x (k + i) := by
  show (x.toUInt64 >>> ((iN k).toInt64.toUInt64 &&& Int64.toUInt64 63)).toBitVec.getLsbD i = _
  rw [UInt64.toBitVec_shiftRight, BitVec.ushiftRight_eq', BitVec.getLsbD_ushiftRight, shU64 ⟨k, hk⟩]
  rfl
theorem bitL_sshr (x : Int64) {k i : Nat} (hk : k < 64) (hi : k + i < 64) : bitL (x >>> ((iN k).toInt64 &&& 63)) i = bitL x (k + i) := by
  unfold bitL
  rw [Int64.toBitVec_shiftRight, BitVec.sshiftRight_eq', shL64 ⟨k, hk⟩, BitVec.getLsbD_sshiftRight]
  have h1 : ¬ 64 ≤ i := by omega
  simp [h1, hi]
theorem bitL_255 (i : Nat) (h : i < 64) : bitL 255 i = decide (i < 8) := by
  show bitL (Int64.ofNat 255) i = _
  rw [bitL_ofNat _ _ h, show (255 : Nat) = 2 ^ 8 - 1 from rfl, Nat.testBit_two_pow_sub_one]
/-- a byte of a long, from the highest one on -/
def byN (x : Int64) (j : Nat) : Nat := bnum (fun i => bitL x (56 - 8 * j + i)) 8
theorem byN_lt (x : Int64) (j : Nat) : byN x j < 256 := bnum_lt _ 8
theorem byU (x : Int64) {j : Nat} (hj : j < 8) : (x.toUInt64 >>> ((iN (56 - 8 * j)).toInt64.toUInt64 &&& Int64.toUInt64 63)).toInt64 &&& (255 : Int64) = Int64.ofNat (byN x j) := bitL_ext fun i hi => by
  rw [bitL_and, bitL_ushr _ (by omega), bitL_255 _ hi, bitL_ofNat _ _ hi]
  unfold byN
  rw [tb_bnum]
  cases decide (i < 8) <;> simp
theorem byS (x : Int64) {j : Nat} (hj : j < 8) : (x >>> ((iN (56 - 8 * j)).toInt64 &&& 63)) &&& (255 : Int64) = Int64.ofNat (byN x j) := bitL_ext fun i hi => by
  rw [bitL_and, bitL_255 _ hi, bitL_ofNat _ _ hi]
  unfold byN
  rw [tb_bnum]
  by_cases c : i < 8
  · rw [bitL_sshr _ (by omega) (by omega), decide_eq_true c]
    simp
  · rw [decide_eq_false c, Bool.and_false, Bool.false_and]
set_option maxRecDepth 40000 in
theorem by32 : ∀ b : Fin 256, (Int64.ofNat b.val).toInt32 = iN b.val ∧ ((Int64.ofNat b.val = 0) ↔ b.val = 0) := by decide
theorem by_32 (x : Int64) (j : Nat) : (Int64.ofNat (byN x j)).toInt32 = iN (byN x j) := (by32 ⟨byN x j, byN_lt x j⟩).1
theorem by_0 (x : Int64) (j : Nat) : (Int64.ofNat (byN x j) = 0) ↔ byN x j = 0 := (by32 ⟨byN x j, byN_lt x j⟩).2
theorem byteOf_eq (x : Int64) {j : Nat} (hj : j < 8) : f_X8_byteOf NN x (iN j) = some (iN (byN x j)) := by
  unfold f_X8_byteOf
  rw [show (7 : Int32) - iN j = iN (7 - j) from iN_sub (a := 7) (by omega), show (8 : Int32) * iN (7 - j) = iN (8 * (7 - j)) from iN_mul 8 _, show 8 * (7 - j) = 56 - 8 * j by omega, byS x hj, znm_eq, by_32]
def shV (j : Nat) : Int32 := (56 : Int32) - iN (8 * j)
theorem shV_lt {j : Nat} (hj : j < 8) : shV j = iN (56 - 8 * j) := iN_sub (a := 56) (by omega)
theorem shV_s : ∀ j : Fin 8, shV j.val + (-8 : Int32) = shV (j.val + 1) := by decide
theorem shVs {j : Nat} (hj : j < 8) : shV j + (-8 : Int32) = shV (j + 1) := shV_s ⟨j, hj⟩
theorem shV_8 : shV 8 < 0 := by decide
def nzB (x : Int64) (j : Nat) : Bool := !decide (byN x j = 0)
def arrX (A : Nat → Int32) (x : Int64) (n : Nat) : Nat → Nat → Int32
  | 0 => A
  | j + 1 => if nzB x j then upd (arrX A x n j) (n + cntK (nzB x) j) (iN (byN x j)) else arrX A x n j
def arrM (A : Nat → Int32) (x : Int64) (n : Nat) : Nat → Nat → Int32
  | 0 => A
  | j + 1 => if nzB x j then upd (arrM A x n j) (n + cntK (nzB x) j) (vp_nar .byte (iN (byN x j)).toInt8.toInt32) else arrM A x n j
theorem arr_ok {A B : Nat → Int32} {x : Int64} {n : Nat} (h : ∀ k, k < n → ∃ v : Nat, 1 ≤ v ∧ v ≤ 255 ∧ A k = iN v ∧ B k = vp_nar .byte (iN v)) : ∀ j k, k < n + cntK (nzB x) j → ∃ v : Nat, 1 ≤ v ∧ v ≤ 255 ∧ arrX A x n j k = iN v ∧ arrM B x n j k = vp_nar .byte (iN v) := by
  intro j
  induction j with
  | zero => intro k hk; exact h k (by have : cntK (nzB x) 0 = 0 := rfl; omega)
  | succ j ih =>
    intro k hk
    have hb := byN_lt x j
    show ∃ v : Nat, 1 ≤ v ∧ v ≤ 255 ∧ (if nzB x j then upd (arrX A x n j) (n + cntK (nzB x) j) (iN (byN x j)) else arrX A x n j) k = iN v ∧ (if nzB x j then upd (arrM B x n j) (n + cntK (nzB x) j) (vp_nar .byte (iN (byN x j)).toInt8.toInt32) else arrM B x n j) k = vp_nar .byte (iN v)
    cases e : nzB x j
    · rw [cntK_0 e] at hk
      exact ih k hk
    · rw [cntK_1 e] at hk
      rw [if_pos rfl, if_pos rfl, upd_at, upd_at]
      by_cases c : k = n + cntK (nzB x) j
      · rw [if_pos c, if_pos c]
        have : byN x j ≠ 0 := by
          unfold nzB at e
          simpa using e
        exact ⟨byN x j, by omega, by omega, rfl, (pk_vb _).trans (vp_nar_byte _).symm⟩
      · rw [if_neg c, if_neg c]
        exact ih k (by omega)
theorem app_x (x : Int64) {s : Ob} {n : Nat} (hn : s.1 1 = iN n) (h : n + cntK (nzB x) 8 ≤ 600) : f_X7_append_52 NN x NN 56 s = some (iN (n + cntK (nzB x) 8), si (sa s 0 (arrX (s.2.2.1 0) x n 8)) 1 (iN (n + cntK (nzB x) 8))) := by
  unfold f_X7_append_52
  have e0 : s = si (sa s 0 (arrX (s.2.2.1 0) x n 0)) 1 (iN (n + cntK (nzB x) 0)) := by
    have e1 : sa s 0 (arrX (s.2.2.1 0) x n 0) = s := sa_self fun _ => rfl
    rw [e1]
    show s = si s 1 (iN (n + 0))
    rw [Nat.add_zero, ← hn]
    unfold si
    have : (fun j => if j = 1 then s.1 1 else s.1 j) = s.1 := by
      funext j
      split
      · rename_i e; rw [e]
      · rfl
    rw [this]
  have go : ∀ s0, s0 = si (sa s 0 (arrX (s.2.2.1 0) x n 0)) 1 (iN (n + cntK (nzB x) 0)) → zlp (fun _ _ => none) (F_X7_append_52 NN x) NN (shV 0) s0 = some (iN (n + cntK (nzB x) 8), si (sa s 0 (arrX (s.2.2.1 0) x n 8)) 1 (iN (n + cntK (nzB x) 8))) := by
    rintro s0 rfl
    refine loop2 (fun j => shV j) (fun j => si (sa s 0 (arrX (s.2.2.1 0) x n j)) 1 (iN (n + cntK (nzB x) j))) 8 ?_ ?_ NN 0 (by omega) (nnb (by omega))
    · intro j hj self
      have hb := byN_lt x j
      have h1 : (si (sa s 0 (arrX (s.2.2.1 0) x n j)) 1 (iN (n + cntK (nzB x) j))).1 1 = iN (n + cntK (nzB x) j) := rfl
      have h0 : (si (sa s 0 (arrX (s.2.2.1 0) x n j)) 1 (iN (n + cntK (nzB x) j))).2.2.1 0 = arrX (s.2.2.1 0) x n j := rfl
      have hc : cntK (nzB x) (j + 1) ≤ cntK (nzB x) 8 := cntK_mono (by omega)
      unfold F_X7_append_52
      rw [shVs hj, shV_lt hj, if_neg (iN_not_neg _ (by omega)), znm_eq, byU x hj, by_32, h1, h0]
      show (if iN (byN x j) = 0 then self (shV (j + 1)) _ else _) = self (shV (j + 1)) (si (sa s 0 (if nzB x j then _ else _)) 1 (iN (n + cntK (nzB x) (j + 1))))
      cases e : nzB x j
      · have ez : byN x j = 0 := by
          unfold nzB at e
          simpa using e
        rw [ez, if_pos iN00, if_neg (by decide), cntK_0 e]
      · have ez : byN x j ≠ 0 := by
          unfold nzB at e
          simpa using e
        rw [cntK_1 e] at hc ⊢
        rw [if_neg (show ¬ iN (byN x j) = 0 from fun q => ez ((iN_inj (b := 0) (by omega) (by omega)).mp q)), if_neg (show ¬ (600 : Int32) ≤ iN (n + cntK (nzB x) j) from fun q => absurd ((iN_le (a := 600) (by omega) (by omega)).mp q) (by omega)), chk_iN (by omega) (by omega), clamp_iN (by omega), if_pos rfl, iN_p1]
        simp only [znm_eq]
        refine congrArg (self (shV (j + 1))) ?_
        unfold si sa
        simp only
        congr 1
        · funext i; split <;> rfl
        · congr 2
          congr 1
          funext i; split <;> rfl
    · intro self
      unfold F_X7_append_52
      rw [if_pos shV_8]
      rfl
  exact go s e0
theorem app_m (x : Int64) {s : Ob} {n : Nat} (hn : s.1 9 = iN n) (h : n + cntK (nzB x) 8 ≤ 600) : f_X8_append_58 NN x NN 0 s = some (iN (n + cntK (nzB x) 8), si (sa s 8 (arrM (s.2.2.1 8) x n 8)) 9 (iN (n + cntK (nzB x) 8))) := by
  unfold f_X8_append_58
  have e0 : s = si (sa s 8 (arrM (s.2.2.1 8) x n 0)) 9 (iN (n + cntK (nzB x) 0)) := by
    have e1 : sa s 8 (arrM (s.2.2.1 8) x n 0) = s := by
      show sa s 8 (s.2.2.1 8) = s
      unfold sa
      have : (fun j => if j = 8 then s.2.2.1 8 else s.2.2.1 j) = s.2.2.1 := by
        funext j
        split
        · rename_i e; rw [e]
        · rfl
      rw [this]
    rw [e1]
    show s = si s 9 (iN (n + 0))
    rw [Nat.add_zero, ← hn]
    unfold si
    have : (fun j => if j = 9 then s.1 9 else s.1 j) = s.1 := by
      funext j
      split
      · rename_i e; rw [e]
      · rfl
    rw [this]
  have go : ∀ s0, s0 = si (sa s 8 (arrM (s.2.2.1 8) x n 0)) 9 (iN (n + cntK (nzB x) 0)) → zlp (fun _ _ => none) (F_X8_append_58 NN x) NN 0 s0 = some (iN (n + cntK (nzB x) 8), si (sa s 8 (arrM (s.2.2.1 8) x n 8)) 9 (iN (n + cntK (nzB x) 8))) := by
    rintro s0 rfl
    refine loop2 (fun j => iN j) (fun j => si (sa s 8 (arrM (s.2.2.1 8) x n j)) 9 (iN (n + cntK (nzB x) j))) 8 ?_ ?_ NN 0 (by omega) (nnb (by omega))
    · intro j hj self
      have hb := byN_lt x j
      have h1 : (si (sa s 8 (arrM (s.2.2.1 8) x n j)) 9 (iN (n + cntK (nzB x) j))).1 9 = iN (n + cntK (nzB x) j) := rfl
      have h0 : (si (sa s 8 (arrM (s.2.2.1 8) x n j)) 9 (iN (n + cntK (nzB x) j))).2.2.1 8 = arrM (s.2.2.1 8) x n j := rfl
      have hc : cntK (nzB x) (j + 1) ≤ cntK (nzB x) 8 := cntK_mono (by omega)
      unfold F_X8_append_58
      rw [if_neg (show ¬ (8 : Int32) ≤ iN j from fun q => absurd ((iN_le (a := 8) (by omega) (by omega)).mp q) (by omega)), byteOf_eq x hj, ob_some, ob_some, h1, h0, iN_p1]
      show (if iN (byN x j) = 0 then self (iN (j + 1)) _ else _) = self (iN (j + 1)) (si (sa s 8 (if nzB x j then _ else _)) 9 (iN (n + cntK (nzB x) (j + 1))))
      cases e : nzB x j
      · have ez : byN x j = 0 := by
          unfold nzB at e
          simpa using e
        rw [ez, if_pos iN00, if_neg (by decide), cntK_0 e]
      · have ez : byN x j ≠ 0 := by
          unfold nzB at e
          simpa using e
        rw [cntK_1 e] at hc ⊢
        rw [if_neg (show ¬ iN (byN x j) = 0 from fun q => ez ((iN_inj (b := 0) (by omega) (by omega)).mp q)), chk_iN (by omega) (by omega), clamp_iN (by omega), if_pos rfl, iN_p1]
        simp only [znm_eq]
        refine congrArg (self (iN (j + 1))) ?_
        unfold si sa
        simp only
        congr 1
        · funext i; split <;> rfl
        · congr 2
          congr 1
          funext i; split <;> rfl
    · intro self
      unfold F_X8_append_58
      rw [if_pos (by decide)]
      rfl
  exact go s e0
theorem app_eq (pl : Nat → Ob → Prop) {sX sG ru : Ob} {q : Nat} {sR : Ob} {PS SS : Nat → Nat × Ob} {sM : Ob} (h : Re pl sX sG ru q sR PS SS sM) (x : Int64) : ∃ (z1 : Int32 × Ob) (z2 : Int32 × Ob), f_X7_append NN sX x = some z1 ∧ f_X8_append NN sM x = some z2 ∧ z1.1 = z2.1 ∧ Re pl z1.2 sG ru q sR PS SS z2.2 := by
  obtain ⟨n, hn, x1, m9, hv⟩ := h.2.2.2.1
  have hx : f_X7_append NN sX x = if iN n + iN (cntK (nzB x) 8) ≤ (600 : Int32) then f_X7_append_52 NN x NN 56 sX else some (-2, sX) := by
    unfold f_X7_append f_X7_append_6
    refine loop3 (fun j => iN (cntK (nzB x) j)) (fun j => shV j) (fun _ => sX) 8 ?_ ?_ NN 0 (by omega) (nnb (by omega))
    · intro j hj self
      unfold F_X7_append_6
      rw [shVs hj, shV_lt hj, if_neg (iN_not_neg _ (by omega)), znm_eq, byU x hj]
      cases e : nzB x j
      · have ez : byN x j = 0 := by
          unfold nzB at e
          simpa using e
        rw [if_pos ((lg_cmp_eq _ _).mpr ((by_0 x j).mpr ez)), cntK_0 e]
      · have ez : byN x j ≠ 0 := by
          unfold nzB at e
          simpa using e
        rw [if_neg (fun q => ez ((by_0 x j).mp ((lg_cmp_eq _ _).mp q))), cntK_1 e, iN_p1]
    · intro self
      unfold F_X7_append_6
      rw [if_pos shV_8, x1]
  have hm : f_X8_append NN sM x = if iN n + iN (cntK (nzB x) 8) ≤ (600 : Int32) then f_X8_append_58 NN x NN 0 (si sM 7 0) else some (-2, si sM 7 0) := by
    unfold f_X8_append f_X8_append_10
    refine loop3 (fun j => iN (cntK (nzB x) j)) (fun j => iN j) (fun _ => si sM 7 0) 8 ?_ ?_ NN 0 (by omega) (nnb (by omega))
    · intro j hj self
      have hb := byN_lt x j
      unfold F_X8_append_10
      rw [if_neg (show ¬ (8 : Int32) ≤ iN j from fun q => absurd ((iN_le (a := 8) (by omega) (by omega)).mp q) (by omega)), byteOf_eq x hj, ob_some, iN_p1]
      cases e : nzB x j
      · have ez : byN x j = 0 := by
          unfold nzB at e
          simpa using e
        rw [ez, if_pos iN00, cntK_0 e, show iN (cntK (nzB x) j) + 0 = iN (cntK (nzB x) j + 0) from iN_add _ 0]
        rfl
      · have ez : byN x j ≠ 0 := by
          unfold nzB at e
          simpa using e
        rw [if_neg (show ¬ iN (byN x j) = 0 from fun q => ez ((iN_inj (b := 0) (by omega) (by omega)).mp q)), cntK_1 e, iN_p1]
    · intro self
      have e9 : (si sM 7 0).1 9 = iN n := m9
      unfold F_X8_append_10
      rw [if_pos (by decide), e9]
  have hc := cntK_le (nzB x) 8
  rw [iN_add] at hx hm
  by_cases c : n + cntK (nzB x) 8 ≤ 600
  · have c' : iN (n + cntK (nzB x) 8) ≤ (600 : Int32) := (iN_le (b := 600) (by omega) (by omega)).mpr c
    rw [if_pos c', app_x x x1 c] at hx
    rw [if_pos c', app_m x (s := si sM 7 0) m9 c] at hm
    refine ⟨_, _, hx, hm, rfl, h.1, h.2.1, h.2.2.1, ⟨n + cntK (nzB x) 8, c, rfl, rfl, ?_⟩, h.2.2.2.2.1, h.2.2.2.2.2.1, h.2.2.2.2.2.2⟩
    exact arr_ok hv 8
  · have c' : ¬ iN (n + cntK (nzB x) 8) ≤ (600 : Int32) := fun q => c ((iN_le (b := 600) (by omega) (by omega)).mp q)
    rw [if_neg c'] at hx hm
    exact ⟨_, _, hx, hm, rfl, Re_thr h 0⟩
theorem P_0_ok : P_0 NN Re := by
  intro pl sX sG ru q sR PS SS sM h a1 a2
  exact app_eq pl h _
