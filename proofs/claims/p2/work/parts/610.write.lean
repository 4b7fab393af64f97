/-! OWN: the pure half: writeHand -/
def lg (C : Nat) : Nat := if C = 1 then 0 else if C = 2 then 1 else if C = 4 then 2 else if C = 8 then 3 else if C = 16 then 4 else 9
def sgn (first C : Nat) : Nat := if lg C = 9 then 63 else first + lg C
def oI (C : Nat) : Int32 := if lg C = 9 then -1 else iN (lg C)
theorem lg_b (C : Nat) : lg C = 9 ∨ lg C < 5 := by
  unfold lg
  repeat' split
  all_goals omega
theorem bc_lg : ∀ C : Fin 32, C.val ≠ 0 → (if lg C.val = 9 then (f_J6_bitCount_0f7a4 NN (iN C.val)).isSome = true ∧ f_J6_bitCount_0f7a4 NN (iN C.val) ≠ some 1 else f_J6_bitCount_0f7a4 NN (iN C.val) = some 1 ∧ f_J6_bitCount_0f7a4 NN (iN C.val - 1) = some (iN (lg C.val))) := by decide
theorem on_lg : ∀ C : Fin 32, C.val ≠ 0 → ∀ v : Fin 8, (iN C.val = (1 : Int32) <<< (iN v.val &&& 31)) ↔ lg C.val = v.val := by decide
theorem X8_only_eq {C : Nat} (h : C < 32) (h0 : C ≠ 0) : f_X8_only NN (iN C) = some (oI C) := by
  unfold f_X8_only f_X8_only_2 oI
  rcases lg_b C with e | e
  · rw [if_pos e]
    refine loop1 (fun v => iN v) 8 ?_ ?_ NN 0 (by omega) (nnb (by omega))
    · intro v hv self
      unfold F_X8_only_2
      rw [if_neg (show ¬ (8 : Int32) ≤ iN v from fun q => absurd ((iN_le (a := 8) (by omega) (by omega)).mp q) (by omega)), if_neg (fun q => by have := (on_lg ⟨C, h⟩ h0 ⟨v, hv⟩).mp q; simp only at this; omega), show iN v + 1 = iN (v + 1) from iN_add v 1]
    · intro self
      unfold F_X8_only_2 f_X8_only_21
      rw [if_pos (by decide), if_pos (by decide)]
  · rw [if_neg (by omega)]
    refine loop1 (fun v => iN v) (lg C) ?_ ?_ NN 0 (by omega) (nnb (by omega))
    · intro v hv self
      unfold F_X8_only_2
      rw [if_neg (show ¬ (8 : Int32) ≤ iN v from fun q => absurd ((iN_le (a := 8) (by omega) (by omega)).mp q) (by omega)), if_neg (fun q => by have := (on_lg ⟨C, h⟩ h0 ⟨v, by omega⟩).mp q; simp only at this; omega), show iN v + 1 = iN (v + 1) from iN_add v 1]
    · intro self
      unfold F_X8_only_2 f_X8_only_21
      rw [if_neg (show ¬ (8 : Int32) ≤ iN (lg C) from fun q => absurd ((iN_le (a := 8) (by omega) (by omega)).mp q) (by omega)), if_pos ((on_lg ⟨C, h⟩ h0 ⟨lg C, by omega⟩).mpr rfl), if_neg (show ¬ iN (lg C) = 8 from fun q => absurd ((iN_inj (b := 8) (by omega) (by omega)).mp q) (by omega))]
abbrev WX (s : Ob) (f : Nat → Int32) (n : Nat) : Ob := si (sa s 13 f) 14 (iN n)
abbrev WM (s : Ob) (f : Nat → Int32) (n : Nat) : Ob := si (sa s 29 f) 30 (iN n)
theorem wx_put (s : Ob) (f : Nat → Int32) {n : Nat} (c : Int32) (h : n < 15) : f_X7_write NN (WX s f n) c = some (WX s (upd f n c) (n + 1)) := by
  have e14 : (WX s f n).1 14 = iN n := rfl
  have e13 : (WX s f n).2.2.1 13 = f := rfl
  unfold f_X7_write
  rw [e14, e13, if_neg (show ¬ (15 : Int32) ≤ iN n from fun q => absurd ((iN_le (a := 15) (by omega) (by omega)).mp q) (by omega)), chk_iN h (by omega), clamp_iN (by omega), znm_eq, show iN n + 1 = iN (n + 1) from iN_add n 1]
  congr 1
  unfold WX si sa
  simp only
  congr 1
  · funext j; split <;> rfl
  · congr 2
    congr 1
    funext j; split <;> rfl
theorem nar8 : ∀ c : Fin 128, (iN c.val).toInt8.toInt32 = iN c.val := by decide
theorem nar7 (c : Fin 128) : vp_nar .byte (iN c.val).toInt8.toInt32 = iN c.val := (pk_vb _).trans (nar8 c)
theorem wm_put (s : Ob) (f : Nat → Int32) {n c : Nat} (h : n < 20) (hc : c < 128) : f_X8_puts NN (WM s f n) (iN c) = some (WM s (upd f n (iN c)) (n + 1)) := by
  have e14 : (WM s f n).1 30 = iN n := rfl
  have e13 : (WM s f n).2.2.1 29 = f := rfl
  unfold f_X8_puts
  rw [e14, e13, chk_iN h (by omega), clamp_iN (by omega), znm_eq, show iN n + 1 = iN (n + 1) from iN_add n 1, nar7 ⟨c, hc⟩]
  congr 1
  unfold WM si sa
  simp only
  congr 1
  · funext j; split <;> rfl
  · congr 2
    congr 1
    funext j; split <;> rfl
theorem wx_only (s : Ob) (f : Nat → Int32) {n C first : Nat} (h : n < 15) (hC : C < 32) (h0 : C ≠ 0) : f_X7_writeOnly NN (WX s f n) (iN first) (iN C) = some (WX s (upd f n (iN (sgn first C))) (n + 1)) := by
  have hb := bc_lg ⟨C, hC⟩ h0
  simp only at hb
  unfold f_X7_writeOnly f_X7_writeOnly_13 f_X7_writeOnly_32 sgn
  by_cases e : lg C = 9
  · rw [if_pos e] at hb ⊢
    obtain ⟨b, eb⟩ := Option.isSome_iff_exists.mp hb.1
    rw [eb, ob_some, if_neg (fun q => hb.2 (by rw [eb, q])), if_pos rfl, wx_put s f _ h]; rfl
  · rw [if_neg e] at hb ⊢
    rw [hb.1, ob_some, if_pos rfl, if_neg (by decide), hb.2, ob_some, iN_add, wx_put s f _ h]; rfl
def wl (n : Nat) : Nat := 3 * n - 1
def chF (cr : Nat → Nat × Nat) (k : Nat) : Nat := if k % 3 = 0 then sgn 97 (cr (k / 3)).1 else if k % 3 = 1 then sgn 49 (cr (k / 3)).2 else 32
def wrF (cr : Nat → Nat × Nat) (f : Nat → Int32) (n k : Nat) : Int32 := if k < wl n then iN (chF cr k) else f k
theorem upd_at (f : Nat → Int32) (n : Nat) (v : Int32) (k : Nat) : upd f n v k = if k = n then v else f k := by
  by_cases e : k = n
  · rw [if_pos e, e, pk_us]
  · rw [if_neg e, pk_un e]
theorem wrF_0 (cr : Nat → Nat × Nat) (f : Nat → Int32) : upd (upd (wrF cr f 0) 0 (iN (sgn 97 (cr 0).1))) 1 (iN (sgn 49 (cr 0).2)) = wrF cr f 1 := by
  funext k
  rw [upd_at, upd_at]
  unfold wrF wl chF
  by_cases h1 : k = 1
  · subst h1; rfl
  · rw [if_neg h1]
    by_cases h0 : k = 0
    · subst h0; rfl
    · rw [if_neg h0, if_neg (by omega), if_neg (by omega)]
theorem wrF_1 (cr : Nat → Nat × Nat) (f : Nat → Int32) {n : Nat} (hn : 0 < n) : upd (upd (upd (wrF cr f n) (wl n) (iN 32)) (wl n + 1) (iN (sgn 97 (cr n).1))) (wl n + 1 + 1) (iN (sgn 49 (cr n).2)) = wrF cr f (n + 1) := by
  funext k
  rw [upd_at, upd_at, upd_at]
  unfold wrF wl chF
  by_cases h1 : k = 3 * n - 1 + 1 + 1
  · rw [if_pos h1, if_pos (by omega), if_neg (by omega), if_pos (by omega), show k / 3 = n by omega]
  · rw [if_neg h1]
    by_cases h2 : k = 3 * n - 1 + 1
    · rw [if_pos h2, if_pos (by omega), if_pos (by omega), show k / 3 = n by omega]
    · rw [if_neg h2]
      by_cases h3 : k = 3 * n - 1
      · rw [if_pos h3, if_pos (by omega), if_neg (by omega), if_neg (by omega)]
      · rw [if_neg h3]
        by_cases h4 : k < 3 * n - 1
        · rw [if_pos h4, if_pos (show k < 3 * (n + 1) - 1 by omega)]
        · rw [if_neg h4, if_neg (by omega)]
/-- fit for a card: colors and ranks that are not empty -/
def crOk (x : Nat × Nat) : Prop := x.1 < 16 ∧ x.2 < 32 ∧ (∃ c, c < 4 ∧ x.1.testBit c = true) ∧ ∃ r, r < 5 ∧ x.2.testBit r = true
theorem crOk_ne {x : Nat × Nat} (h : crOk x) : x.1 ≠ 0 ∧ x.2 ≠ 0 := by
  obtain ⟨-, -, ⟨c, -, e1⟩, r, -, e2⟩ := h
  constructor
  · intro q; rw [q, Nat.zero_testBit] at e1; cases e1
  · intro q; rw [q, Nat.zero_testBit] at e2; cases e2
section WRT
variable {a : Gm} {L : Nat → Int32} {sG ru sX sM : Ob}
theorem wx_74 (hw : wfG a) {p2 : Int32} {p j m : Nat} {self : Int32 → Ob → Option (Int32 × Ob)} {x : Nat × Nat} (hx : crOk x) (f : Nat → Int32) (hm : m + 1 < 15) : f_X7_writeHand_74 NN sG ru (iN p) p2 self (iN j) (kset (mkK x.1 x.2)) (WX sX f m) = self (iN (j + 1)) (WX sX (upd (upd f m (iN (sgn 97 x.1))) (m + 1) (iN (sgn 49 x.2))) (m + 1 + 1)) := by
  obtain ⟨n1, n2⟩ := crOk_ne hx
  obtain ⟨h1, h2, ⟨c, hc, e1⟩, r, hr, e2⟩ := hx
  unfold f_X7_writeHand_74
  rw [cin_mk h1 hr e2, ob_some, show (97 : Int32) = iN 97 from rfl, wx_only sX f (by omega) (by omega) n1, ob_some, rin_mk h2 hc e1, ob_some, show (49 : Int32) = iN 49 from rfl, wx_only sX _ hm h2 n2, ob_some, show iN j + 1 = iN (j + 1) from iN_add j 1]
theorem wx_62 (hw : wfG a) {p2 : Int32} {p j : Nat} (hj : j < 5) {self : Int32 → Ob → Option (Int32 × Ob)} {cr : Nat → Nat × Nat} (hx : crOk (cr j)) (f : Nat → Int32) : f_X7_writeHand_62 NN sG ru (iN p) p2 self (iN j) (kset (mkK (cr j).1 (cr j).2)) (WX sX (wrF cr f j) (wl j)) = self (iN (j + 1)) (WX sX (wrF cr f (j + 1)) (wl (j + 1))) := by
  unfold f_X7_writeHand_62
  by_cases e : j = 0
  · subst e
    rw [if_pos (by decide), show wl 0 = 0 from rfl, wx_74 hw hx _ (by omega), wrF_0]; rfl
  · rw [if_neg (show ¬ iN j ≤ 0 from fun q => absurd ((iN_le (b := 0) (by omega) (by omega)).mp q) (by omega)), show (32 : Int32) = iN 32 from rfl, wx_put _ _ _ (by unfold wl; omega), ob_some, wx_74 hw hx _ (by unfold wl; omega), wrF_1 _ _ (by omega)]
    rw [show wl j + 1 + 1 + 1 = wl (j + 1) by unfold wl; omega]
theorem oI_sgn {s : Ob} {C first : Nat} {α : Type} (k : Int32 → Option α) : (if oI C = -1 then k 63 else k (iN first + oI C)) = k (iN (sgn first C)) := by
  unfold oI sgn
  rcases lg_b C with e | e
  · rw [if_pos e, if_pos rfl, if_pos e]; rfl
  · have e' : ¬ lg C = 9 := by omega
    rw [if_neg e', if_neg (iN_ne_m1 (show lg C < 2 ^ 31 by omega)), if_neg e', iN_add]
theorem sgn_lt (C : Nat) {first : Nat} (h : first ≤ 97) : sgn first C < 128 := by
  unfold sgn
  rcases lg_b C with e | e
  · rw [if_pos e]; omega
  · rw [if_neg (by omega)]; omega
theorem wm_126 {p2 : Int32} {p j m : Nat} {self : Int32 → Ob → Option (Int32 × Ob)} (C R : Nat) (f : Nat → Int32) (hm : m + 1 < 15) : f_X8_writeHand_126 NN (iN p) p2 self (iN j) (oI C) (oI R) (WM sM f m) = self (iN (j + 1)) (WM sM (upd (upd f m (iN (sgn 97 C))) (m + 1) (iN (sgn 49 R))) (m + 1 + 1)) := by
  have c1 := sgn_lt C (first := 97) (by omega)
  have c2 := sgn_lt R (first := 49) (by omega)
  unfold f_X8_writeHand_126
  rw [show (97 : Int32) = iN 97 from rfl, oI_sgn (s := sM) (fun t => f_X8_writeHand_143 NN (iN p) p2 self (iN j) (oI R) t (WM sM f m))]
  unfold f_X8_writeHand_143
  rw [wm_put sM f (by omega) c1, ob_some, show (49 : Int32) = iN 49 from rfl, oI_sgn (s := sM) (fun t => f_X8_writeHand_163 NN (iN p) p2 self (iN j) t _)]
  unfold f_X8_writeHand_163
  rw [wm_put sM _ (by omega) c2, ob_some, show iN j + 1 = iN (j + 1) from iN_add j 1]
theorem wm_114 {p2 : Int32} {p j : Nat} (hj : j < 5) {self : Int32 → Ob → Option (Int32 × Ob)} {cr : Nat → Nat × Nat} (f : Nat → Int32) : f_X8_writeHand_114 NN (iN p) p2 self (iN j) (oI (cr j).1) (oI (cr j).2) (WM sM (wrF cr f j) (wl j)) = self (iN (j + 1)) (WM sM (wrF cr f (j + 1)) (wl (j + 1))) := by
  unfold f_X8_writeHand_114
  by_cases e : j = 0
  · subst e
    rw [if_pos (by decide), show wl 0 = 0 from rfl, wm_126 _ _ _ (by omega), wrF_0]; rfl
  · rw [if_neg (show ¬ iN j ≤ 0 from fun q => absurd ((iN_le (b := 0) (by omega) (by omega)).mp q) (by omega)), show (32 : Int32) = iN 32 from rfl, wm_put _ _ (by unfold wl; omega) (by omega), ob_some, wm_126 _ _ _ (by unfold wl; omega), wrF_1 _ _ (by omega)]
    rw [show wl j + 1 + 1 + 1 = wl (j + 1) by unfold wl; omega]
def crA (a : Gm) (p : Nat) (seen : Bool) (j : Nat) : Nat × Nat := if seen then (2 ^ (kAt a p j / 5), 2 ^ (kAt a p j % 5)) else (a (67 + a (191 + (5 * p + j))), a (107 + a (191 + (5 * p + j))))
theorem crA_ok (ho : okG a) {p j : Nat} (seen : Bool) (hp : p < 4) (hj : j < a (187 + p)) : crOk (crA a p seen j) := by
  have hw := ho.1
  have b4 := hw.2.2.2.2.1
  have b5 := hw.2.2.2.2.2.1
  have hh := wfH hw hp hj
  have hk := wfK hw (k := a (191 + (5 * p + j))) (by omega)
  have hk' : kAt a p j < 20 := hk
  have h1 : ∀ c, c < 4 → 2 ^ c < 16 := fun c hc => Nat.pow_lt_pow_right (a := 2) (n := 4) (by omega) hc
  have h2 : ∀ c, c < 5 → 2 ^ c < 32 := fun c hc => Nat.pow_lt_pow_right (a := 2) (n := 5) (by omega) hc
  cases seen
  · obtain ⟨m1, m2⟩ := okM ho (k := a (191 + (5 * p + j))) (by omega)
    obtain ⟨c1, c2⟩ := wfC hw (k := a (191 + (5 * p + j))) (by omega)
    exact ⟨c1, c2, ⟨_, by omega, m1⟩, _, by omega, m2⟩
  · exact ⟨h1 _ (by omega), h2 _ (by omega), ⟨kAt a p j / 5, by omega, by show (2 ^ (kAt a p j / 5)).testBit _ = true; rw [Nat.testBit_two_pow]; simp⟩, kAt a p j % 5, by omega, by show (2 ^ (kAt a p j % 5)).testBit _ = true; rw [Nat.testBit_two_pow]; simp⟩
theorem shl_mk {k : Nat} (h : k < 20) : (1 : Int32) <<< (iN k &&& 31) = kset (mkK (2 ^ (k / 5)) (2 ^ (k % 5))) := bset_of fun i hi => by
  rw [bit_1shl (by omega) hi]
  unfold mkK
  rw [Nat.testBit_two_pow, Nat.testBit_two_pow]
  by_cases e : i = k
  · subst e; simp [h]
  · rw [decide_eq_false e]
    by_cases h1 : i < 20
    · by_cases h2 : k / 5 = i / 5
      · have h3 : ¬ k % 5 = i % 5 := by omega
        simp [h3]
      · simp [h2]
    · simp [h1]
theorem lg_pow : ∀ c : Fin 5, lg (2 ^ c.val) = c.val := by decide
theorem oI_pow {c : Nat} (h : c < 5) : oI (2 ^ c) = iN c := by
  unfold oI
  rw [lg_pow ⟨c, h⟩, if_neg (by omega)]
theorem wx_hand (ho : okG a) (hG : encG a L sG) (hu : encRu a ru) {p : Nat} (hp : p < 4) (seen : Bool) (f : Nat → Int32) : f_X7_writeHand_12 NN sG ru (iN p) (iN (bN seen)) NN 0 (WX sX f 0) = some (iN (wl (a (187 + p))), WX sX (wrF (crA a p seen) f (a (187 + p))) (wl (a (187 + p)))) := by
  have hw := ho.1
  have b4 := hw.2.2.2.2.1
  have b5 := hw.2.2.2.2.2.1
  have hs := wfS hw hp
  unfold f_X7_writeHand_12
  have e0 : WX sX f 0 = WX sX (wrF (crA a p seen) f 0) (wl 0) := rfl
  rw [e0]
  refine loop2 (fun j => iN j) (fun j => WX sX (wrF (crA a p seen) f j) (wl j)) (a (187 + p)) ?_ ?_ NN 0 (by omega) (nnb (by omega))
  · intro j hj self
    have hx := crA_ok ho seen hp hj
    have hh := wfH hw hp hj
    have hk := wfK hw (k := a (191 + (5 * p + j))) (by omega)
    have go := wx_62 (sG := sG) (ru := ru) (sX := sX) hw (p2 := iN (bN seen)) (p := p) (j := j) (by omega) (self := self) hx f
    unfold F_X7_writeHand_12
    rw [so_eq hG hp, ob_some, if_neg (fun q => absurd ((iN_le (by omega) (by omega)).mp q) (by omega)), ca_yes hw hG hp hj, ob_some, klf_eq hG (by omega), ob_some, ko_eq hu (by omega), ob_some, shl_mk hk]
    cases seen
    · rw [if_pos bN0]; exact go
    · rw [if_neg (show ¬ iN (bN true) = 0 by decide)]; exact go
  · intro self
    unfold F_X7_writeHand_12
    rw [so_eq hG hp, ob_some, if_pos ((iN_le (by omega) (by omega)).mpr (Nat.le_refl _))]
    rfl
theorem wm_hand (ho : okG a) (hr : encR a L (sM.2.2.1 0)) {p : Nat} (hp : p < 4) (seen : Bool) (f : Nat → Int32) : f_X8_writeHand_22 NN (iN p) (iN (bN seen)) NN 0 (WM sM f 0) = some (iN (wl (a (187 + p))), WM sM (wrF (crA a p seen) f (a (187 + p))) (wl (a (187 + p)))) := by
  have hw := ho.1
  have b4 := hw.2.2.2.2.1
  have b5 := hw.2.2.2.2.2.1
  have hs := wfS hw hp
  unfold f_X8_writeHand_22
  have e0 : WM sM f 0 = WM sM (wrF (crA a p seen) f 0) (wl 0) := rfl
  rw [e0]
  refine loop2 (fun j => iN j) (fun j => WM sM (wrF (crA a p seen) f j) (wl j)) (a (187 + p)) ?_ ?_ NN 0 (by omega) (nnb (by omega))
  · intro j hj self
    have hx := crA_ok ho seen hp hj
    have hh := wfH hw hp hj
    have hk := wfK hw (k := a (191 + (5 * p + j))) (by omega)
    have go := wm_114 (sM := sM) (p2 := iN (bN seen)) (p := p) (j := j) (by omega) (self := self) (cr := crA a p seen) f
    have hr' : encR a L ((WM sM (wrF (crA a p seen) f j) (wl j)).2.2.1 0) := hr
    unfold F_X8_writeHand_22
    rw [show (187 : Int32) + iN p = iN (187 + p) from iN_add 187 p, chk_iN (by omega) (by omega), clamp_iN (by omega), hr'.1 _ (by omega) (by omega), if_neg (fun q => absurd ((iN_le (by omega) (by omega)).mp q) (by omega)), he_eq hw hr' hp hj, ob_some]
    rw [show (67 : Int32) + iN (a (191 + (5 * p + j))) = iN (67 + a (191 + (5 * p + j))) from iN_add _ _, show (27 : Int32) + iN (a (191 + (5 * p + j))) = iN (27 + a (191 + (5 * p + j))) from iN_add _ _]
    rw [chk_iN (by omega) (by omega), chk_iN (by omega) (by omega), clamp_iN (by omega), clamp_iN (by omega), hr'.1 _ (by omega) (by omega), hr'.1 _ (by omega) (by omega)]
    unfold f_X8_writeHand_77
    rw [show (107 : Int32) + iN (a (191 + (5 * p + j))) = iN (107 + a (191 + (5 * p + j))) from iN_add _ _, show (27 : Int32) + iN (a (191 + (5 * p + j))) = iN (27 + a (191 + (5 * p + j))) from iN_add _ _]
    cases seen
    · have h1 : crOk (a (67 + a (191 + (5 * p + j))), a (107 + a (191 + (5 * p + j)))) := hx
      obtain ⟨n1, n2⟩ := crOk_ne h1
      have l1 := h1.1
      have l2 := h1.2.1
      simp only at n1 n2 l1 l2
      rw [if_pos bN0, X8_only_eq (by omega) n1, ob_some, if_pos bN0, chk_iN (by omega) (by omega), clamp_iN (by omega), hr'.1 _ (by omega) (by omega), X8_only_eq l2 n2, ob_some]
      exact go
    · rw [if_neg bN1, colK hk, ob_some, if_neg bN1, chk_iN (by omega) (by omega), clamp_iN (by omega), hr'.1 _ (by omega) (by omega), rnkK hk, ob_some]
      have go : f_X8_writeHand_114 NN (iN p) (iN (bN true)) self (iN j) (oI (2 ^ (a (27 + a (191 + (5 * p + j))) / 5))) (oI (2 ^ (a (27 + a (191 + (5 * p + j))) % 5))) _ = _ := go
      rw [oI_pow (by omega), oI_pow (by omega)] at go
      rw [show iN (a (27 + a (191 + (5 * p + j))) % 5 + 1) - 1 = iN (a (27 + a (191 + (5 * p + j))) % 5) from iN_sub (a := _ + 1) (b := 1) (by omega)]
      exact go
  · intro self
    have hr' : encR a L ((WM sM (wrF (crA a p seen) f (a (187 + p))) (wl (a (187 + p)))).2.2.1 0) := hr
    unfold F_X8_writeHand_22
    rw [show (187 : Int32) + iN p = iN (187 + p) from iN_add 187 p, chk_iN (by omega) (by omega), clamp_iN (by omega), hr'.1 _ (by omega) (by omega), if_pos ((iN_le (by omega) (by omega)).mpr (Nat.le_refl _))]
    rfl
end WRT
theorem wh_ok (seen : Bool) {pl : Nat → Ob → Prop} {sX sG ru : Ob} {q : Nat} {sR : Ob} {PS SS : Nat → Nat × Ob} {sM : Ob} (h : Re pl sX sG ru q sR PS SS sM) (fo : Nat → Int64) (a1 : Int32) : ∃ (z1 : Int32 × Ob × (Nat → Int64)) (z2 : Int32 × Ob) (z3 : Int32), (f_L_writeHand NN sX sG ru fo a1 (iN (bN seen)) = some z1) ∧ (f_X8_writeHand NN sM a1 (iN (bN seen)) = some z2) ∧ (f_X8_thrown NN z2.2 = some z3) ∧ (z3 = z1.1) ∧ (z1.1 = 0 → (z1.2.2 0) = (z2.1).toInt64) ∧ Re pl z1.2.1 sG ru q sR PS SS z2.2 := by
  have h0 := h
  obtain ⟨⟨a, L, ho, hr, hG, hu, hpl⟩, hpast, hsav, hin, hout, he1, he2⟩ := h
  have hw := ho.1
  have h2 := hw.2.2.1
  rcases idx2 a1 (a 2) with hc | ⟨i, -, hi, rfl⟩
  · obtain ⟨e1, e2⟩ := np_no (sX := sX) (sG := sG) hw hu hc
    refine ⟨(1, sX, fo), (0, si sM 7 1), 1, ?_, ?_, rfl, rfl, fun e => absurd (show (1 : Int32) = 0 from e) (by decide), Re_thr h0 1⟩
    · unfold f_L_writeHand f_X7_writeHand ft_X7_writeHand
      rw [e1, e2]; rfl
    · unfold f_X8_writeHand
      rw [ip_no hw hr hc, ob_some, X8_isThrown_0]; rfl
  · have hs := wfS hw (p := i) (by omega)
    have eX : si sX 14 0 = WX sX (sX.2.2.1 13) 0 := by
      have : sa sX 13 (sX.2.2.1 13) = sX := by
        unfold sa
        have : (fun j => if j = 13 then sX.2.2.1 13 else sX.2.2.1 j) = sX.2.2.1 := by
          funext j
          split
          · rename_i e; rw [e]
          · rfl
        rw [this]
      show _ = si (sa sX 13 (sX.2.2.1 13)) 14 (iN 0)
      rw [this]; rfl
    have eM : si (si sM 7 0) 30 0 = WM (si sM 7 0) (sM.2.2.1 29) 0 := by
      have : sa (si sM 7 0) 29 (sM.2.2.1 29) = si sM 7 0 := by
        unfold sa si
        simp only
        have : (fun j => if j = 29 then sM.2.2.1 29 else sM.2.2.1 j) = sM.2.2.1 := by
          funext j
          split
          · rename_i e; rw [e]
          · rfl
        rw [this]
      show _ = si (sa (si sM 7 0) 29 (sM.2.2.1 29)) 30 (iN 0)
      rw [this]; rfl
    refine ⟨(0, WX sX (wrF (crA a i seen) (sX.2.2.1 13) (a (187 + i))) (wl (a (187 + i))), vp_updL fo 0 (iN (wl (a (187 + i)))).toInt64), (iN (wl (a (187 + i))), WM (si sM 7 0) (wrF (crA a i seen) (sM.2.2.1 29) (a (187 + i))) (wl (a (187 + i)))), 0, ?_, ?_, rfl, rfl, fun _ => fo_0 fo _, ?_⟩
    · unfold f_L_writeHand f_X7_writeHand
      rw [np_yes hw hu hi, ob_some, eX, wx_hand ho hG hu (by omega)]; rfl
    · unfold f_X8_writeHand
      rw [ip_yes hw hr hi, ob_some, X8_isThrown_1, ob_some, if_pos rfl, eM, wm_hand (sM := si sM 7 0) ho hr (by omega)]
    · refine ⟨⟨a, L, ho, hr, hG, hu, hpl⟩, hpast, hsav, hin, ⟨wl (a (187 + i)), by unfold wl; omega, rfl, rfl, fun k hk => ?_⟩, he1, he2⟩
      show wrF _ _ _ k = wrF _ _ _ k
      unfold wrF
      rw [if_pos hk, if_pos hk]
theorem P_39a_ok : P_39a NN Re := by
  intro pl sX sG ru q sR PS SS sM h fo a1 a2 _
  exact wh_ok false h fo a1
theorem P_39b_ok : P_39b NN Re := by
  intro pl sX sG ru q sR PS SS sM h fo a1 a2 _
  exact wh_ok true h fo a1
