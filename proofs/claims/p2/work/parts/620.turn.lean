/-! OWN: the pure half: the parts of a turn, in the model -/
theorem iN_subm1 {k : Nat} (h : 1 ≤ k) : iN k - 1 = iN (k - 1) := iN_sub (b := 1) h
theorem iN_p1 (k : Nat) : iN k + 1 = iN (k + 1) := iN_add k 1
theorem mod30 {k : Nat} (h : k < 2 ^ 30) : iN k - iN k / 30 * 30 = iN (k % 30) := by
  rw [show (30 : Int32) = iN 30 from rfl, iN_div (by omega) (by omega), iN_mul, iN_sub (by omega)]
  congr 1
  omega
def logA (a : Gm) : Gm := up a 13 (a 13 + 1)
def logL (L : Nat → Int32) (m : Nat) (x0 x1 x2 x3 : Int32) : Nat → Int32 := upd (upd (upd (upd L (4 * m) x0) (4 * m + 1) x1) (4 * m + 2) x2) (4 * m + 3) x3
def takeG (a : Gm) (p j : Nat) : Gm := fun i => if i = 187 + p then a (187 + p) - 1 else if 191 + (5 * p + j) ≤ i ∧ i + 1 < 191 + (5 * p + a (187 + p)) then a (i + 1) else a i
def drawG (a : Gm) (p : Nat) : Gm := if a 4 ≤ a 5 then a else up (up (up a (191 + (5 * p + a (187 + p))) (a 5)) (187 + p) (a (187 + p) + 1)) 5 (a 5 + 1)
noncomputable def heapG (a : Gm) (k : Nat) : Gm := up (up a 237 (a 237 + lastN a k)) (211 + k) (a (211 + k) + 1)
def tokG (a : Gm) : Gm := if a 6 ≤ a 7 then a else up (up a 7 (a 7 + 1)) 235 (a 235 + 1)
def leftG (a : Gm) : Gm := if a 9 = 0 then (if a 5 = a 4 then up a 9 (a 2 + 1) else a) else up a 9 (a 9 - 1)
def roundG (a : Gm) : Gm := up (up a 11 (a 11 + 1)) 10 ((a 10 + 1) % a 2)
def endG (a : Gm) : Gm := up (roundG (leftG a)) 12 (endOf (roundG (leftG a)))
section MDL
variable {a : Gm} {L r : Nat → Int32} {s : Ob}
theorem m_logs (hr : encR a L r) (h13 : a 13 < 2 ^ 21) (x1 x2 x3 : Int32) : ∃ r', f_X8_logs NN (sa s 0 r) x1 x2 x3 = some (sa s 0 r') ∧ encR (logA a) (logL L (a 13 % 30) (iN (a 10)) x1 x2 x3) r' := by
  have e13 : r 13 = iN (a 13) := hr.1 13 (by omega) (by omega)
  have e10 : r 10 = iN (a 10) := hr.1 10 (by omega) (by omega)
  have hm : a 13 % 30 < 30 := Nat.mod_lt _ (by omega)
  generalize em : a 13 % 30 = m at *
  unfold f_X8_logs
  simp only [sa_get, znm_eq, sa_sa, e13, e10, mod30 (show a 13 < 2 ^ 30 by omega), em]
  rw [show (4 : Int32) * iN m = iN (4 * m) from iN_mul 4 m, show (238 : Int32) + iN (4 * m) = iN (238 + 4 * m) from iN_add 238 _, iN_p1, show iN (238 + 4 * m) + 2 = iN (238 + 4 * m + 2) from iN_add _ 2, show iN (238 + 4 * m) + 3 = iN (238 + 4 * m + 3) from iN_add _ 3]
  rw [chk_iN (by omega) (by omega), chk_iN (by omega) (by omega), chk_iN (by omega) (by omega), chk_iN (by omega) (by omega), clamp_iN (by omega), clamp_iN (by omega), clamp_iN (by omega), clamp_iN (by omega)]
  refine ⟨_, rfl, ?_⟩
  rw [upd_at, upd_at, upd_at, upd_at, if_neg (by omega), if_neg (by omega), if_neg (by omega), if_neg (by omega), e13, iN_p1]
  refine encR_up ?_ (by omega) (by omega) rfl
  exact encR_log (j := 4 * m + 3) (encR_log (j := 4 * m + 2) (encR_log (j := 4 * m + 1) (encR_log (j := 4 * m) hr (by omega)) (by omega)) (by omega)) (by omega)
theorem m_takesOut (hr : encR a L r) {p j : Nat} (hp : p < 4) (h10 : a 10 = p) (hj : j < a (187 + p)) (hs : a (187 + p) ≤ 5) (hc : a (191 + (5 * p + j)) < 40) (hk : kAt a p j < 20) (hw : wfG a) : ∃ r', f_X8_takesOut NN (sa s 0 r) (iN j) = some (iN (kAt a p j), sa s 0 r') ∧ encR (takeG a p j) L r' := by
  have e10 : r 10 = iN p := by rw [hr.1 10 (by omega) (by omega), h10]
  have eS : r (187 + p) = iN (a (187 + p)) := hr.1 _ (by omega) (by omega)
  have eK : r (27 + a (191 + (5 * p + j))) = iN (kAt a p j) := hr.1 _ (by omega) (by omega)
  have hh := he_eq (sM := sa s 0 r) hw hr hp hj
  unfold f_X8_takesOut
  simp only [sa_get, znm_eq, sa_sa, e10]
  rw [hh, ob_some, show (27 : Int32) + iN (a (191 + (5 * p + j))) = iN (27 + a (191 + (5 * p + j))) from iN_add 27 _, show (187 : Int32) + iN p = iN (187 + p) from iN_add 187 p, chk_iN (by omega) (by omega), chk_iN (by omega) (by omega), clamp_iN (by omega), clamp_iN (by omega), chk_iN (by omega) (by omega), eS, eK, iN_subm1 (by omega)]
  let R : Nat → Nat → Int32 := fun n i => if 191 + (5 * p + j) ≤ i ∧ i < 191 + (5 * p + j) + n then upd r (187 + p) (iN (a (187 + p) - 1)) (i + 1) else upd r (187 + p) (iN (a (187 + p) - 1)) i
  refine ⟨R (a (187 + p) - 1 - j), ?_, ?_⟩
  · have e0 : sa s 0 (upd r (187 + p) (iN (a (187 + p) - 1))) = sa s 0 (R 0) := by
      congr 1
      funext i
      show _ = if 191 + (5 * p + j) ≤ i ∧ i < 191 + (5 * p + j) + 0 then _ else _
      rw [if_neg (by omega)]
    rw [e0]
    unfold f_X8_takesOut_40
    refine loop4 (fun _ => iN p) (fun _ => iN (kAt a p j)) (fun n => iN (j + n)) (fun n => sa s 0 (R n)) (a (187 + p) - 1 - j) ?_ ?_ NN 0 (by omega) (nnb (by omega))
    · intro n hn self
      have eR : R n (187 + p) = iN (a (187 + p) - 1) := by
        show (if 191 + (5 * p + j) ≤ 187 + p ∧ _ then _ else _) = _
        rw [if_neg (by omega), upd_at, if_pos rfl]
      unfold F_X8_takesOut_40
      simp only [sa_get, znm_eq, sa_sa]
      rw [show (187 : Int32) + iN p = iN (187 + p) from iN_add 187 p, chk_iN (by omega) (by omega), clamp_iN (by omega), eR, if_neg (fun q => absurd ((iN_le (by omega) (by omega)).mp q) (by omega)), show (5 : Int32) * iN p = iN (5 * p) from iN_mul 5 p, show (191 : Int32) + iN (5 * p) = iN (191 + 5 * p) from iN_add _ _, iN_add, iN_p1, iN_p1, chk_iN (by omega) (by omega), clamp_iN (by omega), chk_iN (by omega) (by omega), clamp_iN (by omega)]
      refine congrArg (self (iN p) (iN (kAt a p j)) (iN (j + n + 1))) ?_
      congr 1
      funext i
      rw [upd_at]
      show (if i = 191 + 5 * p + (j + n) then (if 191 + (5 * p + j) ≤ 191 + 5 * p + (j + n) + 1 ∧ 191 + 5 * p + (j + n) + 1 < 191 + (5 * p + j) + n then _ else _) else if 191 + (5 * p + j) ≤ i ∧ i < 191 + (5 * p + j) + n then _ else _) = if 191 + (5 * p + j) ≤ i ∧ i < 191 + (5 * p + j) + (n + 1) then _ else _
      by_cases e : i = 191 + 5 * p + (j + n)
      · rw [if_pos e, if_neg (by omega), if_pos (by omega), e]
      · rw [if_neg e]
        by_cases e2 : 191 + (5 * p + j) ≤ i ∧ i < 191 + (5 * p + j) + n
        · rw [if_pos e2, if_pos (by omega)]
        · rw [if_neg e2, if_neg (by omega)]
    · intro self
      have eR : R (a (187 + p) - 1 - j) (187 + p) = iN (a (187 + p) - 1) := by
        show (if 191 + (5 * p + j) ≤ 187 + p ∧ _ then _ else _) = _
        rw [if_neg (by omega), upd_at, if_pos rfl]
      unfold F_X8_takesOut_40
      simp only [sa_get]
      rw [show (187 : Int32) + iN p = iN (187 + p) from iN_add 187 p, chk_iN (by omega) (by omega), clamp_iN (by omega), eR, if_pos ((iN_le (by omega) (by omega)).mpr (by omega))]
  · refine ⟨fun i hi h9 => ?_, ?_, fun i hi => ?_⟩
    · show (if 191 + (5 * p + j) ≤ i ∧ i < 191 + (5 * p + j) + (a (187 + p) - 1 - j) then _ else _) = iN (if i = 187 + p then _ else if 191 + (5 * p + j) ≤ i ∧ i + 1 < 191 + (5 * p + a (187 + p)) then _ else _)
      by_cases e : i = 187 + p
      · rw [if_neg (by omega), if_pos e, upd_at, if_pos e]
      · rw [if_neg e]
        by_cases e2 : 191 + (5 * p + j) ≤ i ∧ i + 1 < 191 + (5 * p + a (187 + p))
        · rw [if_pos (by omega), if_pos e2, upd_at, if_neg (by omega)]
          exact hr.1 _ (by omega) (by omega)
        · rw [if_neg (by omega), if_neg e2, upd_at, if_neg e]
          exact hr.1 _ hi h9
    · show (if 191 + (5 * p + j) ≤ 9 ∧ _ then _ else _) = iN (if 9 = 187 + p then _ else if 191 + (5 * p + j) ≤ 9 ∧ _ then _ else _) - 1
      rw [if_neg (by omega), if_neg (by omega), if_neg (by omega), upd_at, if_neg (by omega)]
      exact hr.2.1
    · show (if 191 + (5 * p + j) ≤ 238 + i ∧ 238 + i < 191 + (5 * p + j) + (a (187 + p) - 1 - j) then _ else _) = _
      rw [if_neg (by omega), upd_at, if_neg (by omega)]
      exact hr.2.2 i hi
theorem m_draws (hr : encR a L r) {p : Nat} (hp : p < 4) (hs : a (187 + p) < 5) (h4 : a 4 ≤ 40) (h5 : a 5 ≤ a 4) : ∃ r', f_X8_draws NN (sa s 0 r) (iN p) = some (sa s 0 r') ∧ encR (drawG a p) L r' := by
  have e4 : r 4 = iN (a 4) := hr.1 4 (by omega) (by omega)
  have e5 : r 5 = iN (a 5) := hr.1 5 (by omega) (by omega)
  have eS : r (187 + p) = iN (a (187 + p)) := hr.1 _ (by omega) (by omega)
  unfold f_X8_draws drawG
  simp only [sa_get, znm_eq, sa_sa, e4, e5]
  by_cases c : a 4 ≤ a 5
  · rw [if_pos c, if_pos ((iN_le (by omega) (by omega)).mpr c)]
    exact ⟨r, rfl, hr⟩
  · rw [if_neg c, if_neg (fun q => c ((iN_le (by omega) (by omega)).mp q))]
    rw [show (187 : Int32) + iN p = iN (187 + p) from iN_add 187 p, chk_iN (by omega) (by omega), clamp_iN (by omega), eS, show (5 : Int32) * iN p = iN (5 * p) from iN_mul 5 p, show (191 : Int32) + iN (5 * p) = iN (191 + 5 * p) from iN_add _ _, iN_add, chk_iN (by omega) (by omega), chk_iN (by omega) (by omega), clamp_iN (by omega), chk_iN (by omega) (by omega)]
    refine ⟨_, rfl, ?_⟩
    have q1 : upd r (191 + 5 * p + a (187 + p)) (iN (a 5)) (187 + p) = iN (a (187 + p)) := by rw [upd_at, if_neg (by omega), eS]
    have q2 : upd (upd r (191 + 5 * p + a (187 + p)) (iN (a 5))) (187 + p) (iN (a (187 + p)) + 1) 5 = iN (a 5) := by rw [upd_at, if_neg (by omega), upd_at, if_neg (by omega), e5]
    rw [q1, q2, iN_p1, iN_p1]
    have := encR_up (encR_up (encR_up (k := 191 + (5 * p + a (187 + p))) (v := a 5) hr (by omega) (by omega) rfl) (k := 187 + p) (v := a (187 + p) + 1) (by omega) (by omega) rfl) (k := 5) (v := a 5 + 1) (by omega) (by omega) rfl
    rw [show 191 + 5 * p + a (187 + p) = 191 + (5 * p + a (187 + p)) by omega]
    exact this
theorem m_toHeap (ho : okW a) (hr : encR a L r) (h237 : a 237 < 2 ^ 24) {k : Nat} (hk : k < 20) : ∃ r', f_X8_toHeap NN (sa s 0 r) (iN k) = some (sa s 0 r') ∧ encR (heapG a k) L r' := by
  have e237 : r 237 = iN (a 237) := hr.1 237 (by omega) (by omega)
  have eH : r (211 + k) = iN (a (211 + k)) := hr.1 _ (by omega) (by omega)
  have hl := lastN_le a k
  have go : ∀ t : Nat, t = lastN a k → ∃ r', f_X8_toHeap_22 NN (iN k) (237 : Int32) (iN (a 237)) (iN t) (sa s 0 r) = some (sa s 0 r') ∧ encR (heapG a k) L r' := by
    rintro t rfl
    unfold f_X8_toHeap_22
    simp only [sa_get, znm_eq, sa_sa]
    rw [show (211 : Int32) + iN k = iN (211 + k) from iN_add 211 k, show (237 : Int32) = iN 237 from rfl, chk_iN (by omega) (by omega), chk_iN (by omega) (by omega), chk_iN (by omega) (by omega), clamp_iN (by omega), clamp_iN (by omega), iN_add, upd_at, if_neg (by omega), eH, iN_p1]
    exact ⟨_, rfl, encR_up (encR_up hr (by omega) (by omega) rfl) (by omega) (by omega) rfl⟩
  unfold f_X8_toHeap
  rw [X8_isCriticalKind_eq_w (sM := sa s 0 r) ho hr hk, ob_some]
  simp only [sa_get, e237]
  by_cases c : lastN a k = 0
  · rw [c, if_pos iN00]; exact go 0 c.symm
  · rw [show lastN a k = 1 by omega, if_neg (show ¬ iN 1 = 0 by decide)]; exact go 1 (by omega)
theorem m_tokenBack (hr : encR a L r) (h6 : a 6 ≤ 9) (h7 : a 7 ≤ 9) (h235 : a 235 < 2 ^ 24) : ∃ r', f_X8_tokenBack NN (sa s 0 r) = some (sa s 0 r') ∧ encR (tokG a) L r' := by
  have e6 : r 6 = iN (a 6) := hr.1 6 (by omega) (by omega)
  have e7 : r 7 = iN (a 7) := hr.1 7 (by omega) (by omega)
  have e235 : r 235 = iN (a 235) := hr.1 235 (by omega) (by omega)
  unfold f_X8_tokenBack tokG
  simp only [sa_get, znm_eq, sa_sa, e6, e7]
  by_cases c : a 6 ≤ a 7
  · rw [if_pos c, if_pos ((iN_le (by omega) (by omega)).mpr c)]
    exact ⟨r, rfl, hr⟩
  · rw [if_neg c, if_neg (fun q => c ((iN_le (by omega) (by omega)).mp q)), upd_at, if_neg (by omega), e235, iN_p1, iN_p1]
    exact ⟨_, rfl, encR_up (encR_up hr (by omega) (by omega) rfl) (by omega) (by omega) rfl⟩
theorem whole_iff {a : Gm} (h0 : a 0 ≤ 4) (ht : ∀ c, c < 4 → a (14 + c) ≤ a 1) (hz : ∀ c, c < 4 → a 0 ≤ c → a (14 + c) = 0) : (∀ c, c < a 0 → a 1 ≤ a (14 + c)) ↔ a 0 * a 1 ≤ a 14 + a 15 + a 16 + a 17 := by
  have t0 : a 14 ≤ a 1 := ht 0 (by omega)
  have t1 : a 15 ≤ a 1 := ht 1 (by omega)
  have t2 : a 16 ≤ a 1 := ht 2 (by omega)
  have t3 : a 17 ≤ a 1 := ht 3 (by omega)
  have z0 : a 0 ≤ 0 → a 14 = 0 := hz 0 (by omega)
  have z1 : a 0 ≤ 1 → a 15 = 0 := hz 1 (by omega)
  have z2 : a 0 ≤ 2 → a 16 = 0 := hz 2 (by omega)
  have z3 : a 0 ≤ 3 → a 17 = 0 := hz 3 (by omega)
  have m : ∀ c, c < 4 → a (14 + c) = if c = 0 then a 14 else if c = 1 then a 15 else if c = 2 then a 16 else a 17 := by
    intro c hc
    rcases (show c = 0 ∨ c = 1 ∨ c = 2 ∨ c = 3 by omega) with rfl | rfl | rfl | rfl <;> rfl
  have q : (∀ c, c < a 0 → a 1 ≤ a (14 + c)) ↔ ((0 < a 0 → a 1 ≤ a 14) ∧ (1 < a 0 → a 1 ≤ a 15) ∧ (2 < a 0 → a 1 ≤ a 16) ∧ (3 < a 0 → a 1 ≤ a 17)) := by
    constructor
    · intro h; exact ⟨h 0, h 1, h 2, h 3⟩
    · rintro ⟨h0', h1, h2, h3⟩ c hc
      rcases (show c = 0 ∨ c = 1 ∨ c = 2 ∨ c = 3 by omega) with rfl | rfl | rfl | rfl
      · exact h0' hc
      · exact h1 hc
      · exact h2 hc
      · exact h3 hc
  rw [q]
  have z0' : a 0 = 0 → a 14 = 0 := fun e => z0 (by omega)
  rcases (show a 0 = 0 ∨ a 0 = 1 ∨ a 0 = 2 ∨ a 0 = 3 ∨ a 0 = 4 by omega) with e | e | e | e | e
  · have y0 := z0 (by omega)
    have y1 := z1 (by omega)
    have y2 := z2 (by omega)
    have y3 := z3 (by omega)
    rw [e]; clear z0 z1 z2 z3 z0' hz m q; omega
  · have y1 := z1 (by omega)
    have y2 := z2 (by omega)
    have y3 := z3 (by omega)
    rw [e]; clear z0 z1 z2 z3 z0' hz m q; omega
  · have y2 := z2 (by omega)
    have y3 := z3 (by omega)
    rw [e]; clear z0 z1 z2 z3 z0' hz m q; omega
  · have y3 := z3 (by omega)
    rw [e]; clear z0 z1 z2 z3 z0' hz m q; omega
  · rw [e]; clear z0 z1 z2 z3 z0' hz m q; omega
theorem m_areWhole (hr : encR a L r) (h0 : a 0 ≤ 4) (h1 : a 1 ≤ 5) (ht : ∀ c, c < 4 → a (14 + c) ≤ a 1) (hz : ∀ c, c < 4 → a 0 ≤ c → a (14 + c) = 0) : f_X8_areWhole NN (sa s 0 r) = some (if a 0 * a 1 ≤ a 14 + a 15 + a 16 + a 17 then 1 else 0) := by
  have e0 : r 0 = iN (a 0) := hr.1 0 (by omega) (by omega)
  have e1 : r 1 = iN (a 1) := hr.1 1 (by omega) (by omega)
  have eP : ∀ c, c < 4 → r (14 + c) = iN (a (14 + c)) := fun c hc => hr.1 _ (by omega) (by omega)
  have wi := whole_iff h0 ht hz
  unfold f_X8_areWhole f_X8_areWhole_2
  by_cases c : ∀ c, c < a 0 → a 1 ≤ a (14 + c)
  · rw [if_pos (wi.mp c)]
    refine loop1 (fun v => iN v) (a 0) ?_ ?_ NN 0 (by omega) (nnb (by omega))
    · intro v hv self
      have := ht v (by omega)
      unfold F_X8_areWhole_2
      simp only [sa_get]
      rw [e0, if_neg (fun q => absurd ((iN_le (by omega) (by omega)).mp q) (by omega)), show (14 : Int32) + iN v = iN (14 + v) from iN_add 14 v, chk_iN (by omega) (by omega), clamp_iN (by omega), e1, eP v (by omega), if_pos ((iN_le (by omega) (by omega)).mpr (c v hv)), iN_p1]
    · intro self
      unfold F_X8_areWhole_2
      simp only [sa_get]
      rw [e0, if_pos ((iN_le (by omega) (by omega)).mpr (Nat.le_refl _))]
  · rw [if_neg (fun q => c (wi.mpr q))]
    have : ∃ b, b < a 0 ∧ ¬ a 1 ≤ a (14 + b) ∧ ∀ c, c < b → a 1 ≤ a (14 + c) := by
      apply Classical.byContradiction
      intro hn
      apply c
      intro d
      induction d using Nat.strongRecOn with
      | ind d ih =>
        intro hd
        apply Classical.byContradiction
        intro hq
        exact hn ⟨d, hd, hq, fun c hc => ih c hc (by omega)⟩
    obtain ⟨b, hb, hq, hlt⟩ := this
    refine loop1 (fun v => iN v) b ?_ ?_ NN 0 (by omega) (nnb (by omega))
    · intro v hv self
      have := ht v (by omega)
      unfold F_X8_areWhole_2
      simp only [sa_get]
      rw [e0, if_neg (fun q => absurd ((iN_le (by omega) (by omega)).mp q) (by omega)), show (14 : Int32) + iN v = iN (14 + v) from iN_add 14 v, chk_iN (by omega) (by omega), clamp_iN (by omega), e1, eP v (by omega), if_pos ((iN_le (by omega) (by omega)).mpr (hlt v hv)), iN_p1]
    · intro self
      have := ht b (by omega)
      unfold F_X8_areWhole_2
      simp only [sa_get]
      rw [e0, if_neg (fun q => absurd ((iN_le (by omega) (by omega)).mp q) (by omega)), show (14 : Int32) + iN b = iN (14 + b) from iN_add 14 b, chk_iN (by omega) (by omega), clamp_iN (by omega), e1, eP b (by omega), if_neg (fun q => hq ((iN_le (by omega) (by omega)).mp q))]
/-- the end of a turn, the round counted -/
theorem m_end85 (hr : encR a L r) (p1 : Int32) (h0 : a 0 ≤ 4) (h1 : a 1 ≤ 5) (h2 : a 2 ≠ 0) (h2' : a 2 ≤ 4) (h10 : a 10 < a 2) (h11 : a 11 < 2 ^ 20) (h8 : a 8 ≤ 5) (h9 : a 9 ≤ 5) (ht : ∀ c, c < 4 → a (14 + c) ≤ a 1) (hz : ∀ c, c < 4 → a 0 ≤ c → a (14 + c) = 0) : ∃ r', f_X8_endsTurn_85 NN p1 (sa s 0 r) = some (sa s 0 r') ∧ encR (up (roundG a) 12 (endOf (roundG a))) L r' := by
  have e11 : r 11 = iN (a 11) := hr.1 11 (by omega) (by omega)
  have e10 : r 10 = iN (a 10) := hr.1 10 (by omega) (by omega)
  have e2 : r 2 = iN (a 2) := hr.1 2 (by omega) (by omega)
  have e8 : r 8 = iN (a 8) := hr.1 8 (by omega) (by omega)
  have e9 := hr.2.1
  have hmod : iN (a 10 + 1) - iN (a 10 + 1) / iN (a 2) * iN (a 2) = iN ((a 10 + 1) % a 2) := by
    rw [iN_div (by omega) (by omega), iN_mul, iN_sub (by exact Nat.div_mul_le_self _ _)]
    congr 1
    have := Nat.div_add_mod (a 10 + 1) (a 2)
    rw [Nat.mul_comm] at this
    omega
  unfold f_X8_endsTurn_85
  simp only [sa_get, znm_eq, sa_sa]
  have u10 : upd r 11 (r 11 + 1) 10 = iN (a 10) := by rw [upd_at, if_neg (by omega), e10]
  have u2 : upd r 11 (r 11 + 1) 2 = iN (a 2) := by rw [upd_at, if_neg (by omega), e2]
  rw [u10, u2, iN_p1, hmod, e11, iN_p1]
  rw [show decide (¬ iN (a 2) = 0) = true from decide_eq_true (fun q => h2 ((iN_inj (b := 0) (by omega) (by omega)).mp q)), chk_true]
  have hR : encR (roundG a) L (upd (upd r 11 (iN (a 11 + 1))) 10 (iN ((a 10 + 1) % a 2))) := encR_up (encR_up hr (by omega) (by omega) rfl) (by omega) (by omega) rfl
  have w := m_areWhole (s := s) hR (show roundG a 0 ≤ 4 from h0) (show roundG a 1 ≤ 5 from h1) (fun c hc => by
    have q : roundG a (14 + c) = a (14 + c) := by unfold roundG; rw [up_ne (by omega), up_ne (by omega)]
    rw [q]; exact ht c hc) (fun c hc hq => by
    have q : roundG a (14 + c) = a (14 + c) := by unfold roundG; rw [up_ne (by omega), up_ne (by omega)]
    rw [q]; exact hz c hc hq)
  have v8 : upd (upd r 11 (iN (a 11 + 1))) 10 (iN ((a 10 + 1) % a 2)) 8 = iN (a 8) := by rw [upd_at, if_neg (by omega), upd_at, if_neg (by omega), e8]
  have v9 : upd (upd r 11 (iN (a 11 + 1))) 10 (iN ((a 10 + 1) % a 2)) 9 = iN (a 9) - 1 := by rw [upd_at, if_neg (by omega), upd_at, if_neg (by omega), e9]
  rw [v8, v9, w, ob_some]
  have fin : ∀ e : Nat, e = endOf (roundG a) → ∃ r', f_X8_endsTurn_165 NN p1 12 (iN e) (sa s 0 (upd (upd r 11 (iN (a 11 + 1))) 10 (iN ((a 10 + 1) % a 2)))) = some (sa s 0 r') ∧ encR (up (roundG a) 12 (endOf (roundG a))) L r' := by
    rintro e rfl
    unfold f_X8_endsTurn_165
    simp only [sa_get, sa_sa]
    rw [show (12 : Int32) = iN 12 from rfl, chk_iN (by omega) (by omega), clamp_iN (by omega)]
    exact ⟨_, rfl, encR_up hR (by omega) (by omega) rfl⟩
  have E : endOf (roundG a) = if a 8 = 0 then 1 else if a 0 * a 1 ≤ a 14 + a 15 + a 16 + a 17 then 2 else if a 9 = 1 then 3 else 0 := by
    show (if a 2 = 0 then 3 else if a 8 = 0 then 1 else if a 0 * a 1 ≤ a 14 + a 15 + a 16 + a 17 then 2 else if a 9 = 1 then 3 else 0) = _
    rw [if_neg h2]
  by_cases c8 : a 8 = 0
  · rw [if_pos (show iN (a 8) = 0 by rw [c8]; rfl)]
    exact fin 1 (by rw [E, if_pos c8])
  · rw [if_neg (show ¬ iN (a 8) = 0 from fun q => c8 ((iN_inj (b := 0) (by omega) (by omega)).mp q))]
    show ∃ r', (if (if a 0 * a 1 ≤ a 14 + a 15 + a 16 + a 17 then (1 : Int32) else 0) = 0 then _ else _) = _ ∧ _
    by_cases cw : a 0 * a 1 ≤ a 14 + a 15 + a 16 + a 17
    · rw [if_pos cw, if_neg (by decide)]
      exact fin 2 (by rw [E, if_neg c8, if_pos cw])
    · rw [if_neg cw, if_pos rfl]
      by_cases c9 : a 9 = 1
      · rw [if_pos ((iN_sub1_eq0 (by omega)).mpr c9)]
        exact fin 3 (by rw [E, if_neg c8, if_neg cw, if_pos c9])
      · rw [if_neg (fun q => c9 ((iN_sub1_eq0 (by omega)).mp q))]
        exact fin 0 (by rw [E, if_neg c8, if_neg cw, if_neg c9])
theorem iNm1_m1 {k : Nat} (h : k < 2 ^ 30) : (iN k - 1 = -1) ↔ k = 0 := by
  constructor
  · intro q
    have := congrArg Int32.toInt q
    rw [sub1_toInt h] at this
    have e : (-1 : Int32).toInt = -1 := by decide
    omega
  · intro q; subst q; rfl
/-- what a game whose turn it is to end must have -/
def preE (a : Gm) : Prop := a 0 ≤ 4 ∧ a 1 ≤ 5 ∧ a 2 ≠ 0 ∧ a 2 ≤ 4 ∧ a 10 < a 2 ∧ a 11 < 2 ^ 20 ∧ a 8 ≤ 5 ∧ a 9 ≤ 5 ∧ a 4 ≤ 40 ∧ a 5 ≤ a 4 ∧ (∀ c, c < 4 → a (14 + c) ≤ a 1) ∧ (∀ c, c < 4 → a 0 ≤ c → a (14 + c) = 0) ∧ a 9 ≠ 1
theorem leftG_b (h : preE a) : leftG a 9 ≤ 5 := by
  obtain ⟨h0, h1, h2, h2', h10, h11, h8, h9, -⟩ := h
  unfold leftG
  split
  · split
    · rw [up_eq]; omega
    · omega
  · rw [up_eq]; omega
theorem leftG_ne {i : Nat} (h : i ≠ 9) : leftG a i = a i := by
  unfold leftG
  split
  · split
    · exact up_ne h
    · rfl
  · exact up_ne h
theorem m_end22 (hr : encR a L r) (p1 : Int32) (h : preE a) {n : Nat} (hn : n < 2 ^ 30) (hb : a 9 = 0 → (a 5 = a 4 ↔ n < a 5 ∧ a 5 = a 4)) : ∃ r', f_X8_endsTurn_22 NN p1 (iN n) (sa s 0 r) = some (sa s 0 r') ∧ encR (endG a) L r' := by
  have hl := leftG_b h
  obtain ⟨h0, h1, h2, h2', h10, h11, h8, h9, h4, h5, ht, hz, h91⟩ := h
  have e9 := hr.2.1
  have e5 : r 5 = iN (a 5) := hr.1 5 (by omega) (by omega)
  have e4 : r 4 = iN (a 4) := hr.1 4 (by omega) (by omega)
  have e2 : r 2 = iN (a 2) := hr.1 2 (by omega) (by omega)
  have fin : ∀ r1, encR (leftG a) L r1 → ∃ r', f_X8_endsTurn_85 NN p1 (sa s 0 r1) = some (sa s 0 r') ∧ encR (endG a) L r' := fun r1 hr1 =>
    m_end85 hr1 p1 (by rw [leftG_ne (by omega)]; exact h0) (by rw [leftG_ne (by omega)]; exact h1) (by rw [leftG_ne (by omega)]; exact h2) (by rw [leftG_ne (by omega)]; exact h2') (by rw [leftG_ne (by omega), leftG_ne (by omega)]; exact h10) (by rw [leftG_ne (by omega)]; exact h11) (by rw [leftG_ne (by omega)]; exact h8) hl (fun c hc => by rw [leftG_ne (by omega), leftG_ne (by omega)]; exact ht c hc) (fun c hc hq => by rw [leftG_ne (by omega)] at hq ⊢; exact hz c hc hq)
  unfold f_X8_endsTurn_22
  simp only [sa_get, sa_sa, e9, e5, e4, e2]
  by_cases c9 : a 9 = 0
  · rw [if_pos ((iNm1_m1 (by omega)).mpr c9)]
    have hb := hb c9
    by_cases c5 : a 5 = a 4
    · have := hb.mp c5
      rw [if_neg (fun q => absurd ((iN_le (by omega) (by omega)).mp q) (by omega)), if_pos (by rw [c5])]
      refine fin _ ?_
      unfold leftG
      rw [if_pos c9, if_pos c5]
      exact encR_up9 hr (by rw [iN_subm1 (by omega)]; rfl)
    · have el : leftG a = a := by unfold leftG; rw [if_pos c9, if_neg c5]
      have fin' := fin r (by rw [el]; exact hr)
      split
      · exact fin'
      · rw [if_neg (fun q => c5 ((iN_inj (by omega) (by omega)).mp q))]
        exact fin'
  · rw [if_neg (fun q => c9 ((iNm1_m1 (by omega)).mp q))]
    refine fin _ ?_
    unfold leftG
    rw [if_neg c9]
    refine encR_up9 hr ?_
    rw [iN_subm1 (by omega)]
/-- the end of a turn without a card drawn -/
theorem m_end0 (hr : encR a L r) (h : preE a) (hb : a 9 = 0 → a 5 ≠ a 4) : ∃ r', f_X8_endsTurn NN (sa s 0 r) 0 = some (sa s 0 r') ∧ encR (endG a) L r' := by
  have e5 : r 5 = iN (a 5) := hr.1 5 (by omega) (by omega)
  have h4 : a 4 ≤ 40 ∧ a 5 ≤ a 4 := ⟨h.2.2.2.2.2.2.2.2.1, h.2.2.2.2.2.2.2.2.2.1⟩
  unfold f_X8_endsTurn
  rw [if_pos rfl]
  simp only [sa_get, e5]
  exact m_end22 hr 0 h (by omega) (fun q => ⟨fun e => absurd e (hb q), fun e => e.2⟩)
theorem preE_draw {p : Nat} (h : preE a) (hp : p < 4) (hs : a (187 + p) < 5) : preE (drawG a p) := by
  obtain ⟨h0, h1, h2, h2', h10, h11, h8, h9, h4, h5, ht, hz, h91⟩ := h
  have fr : ∀ i, i ≤ 17 → i ≠ 5 → drawG a p i = a i := fun i hi h5 => by
    unfold drawG
    split
    · rfl
    · rw [up_ne h5, up_ne (by omega), up_ne (by omega)]
  have e5 : drawG a p 5 ≤ a 4 := by
    unfold drawG
    split
    · exact h5
    · rw [up_eq]; omega
  refine ⟨?_, ?_, ?_, ?_, ?_, ?_, ?_, ?_, ?_, ?_, ?_, ?_, ?_⟩
  · rw [fr _ (by omega) (by omega)]; exact h0
  · rw [fr _ (by omega) (by omega)]; exact h1
  · rw [fr _ (by omega) (by omega)]; exact h2
  · rw [fr _ (by omega) (by omega)]; exact h2'
  · rw [fr _ (by omega) (by omega), fr _ (by omega) (by omega)]; exact h10
  · rw [fr _ (by omega) (by omega)]; exact h11
  · rw [fr _ (by omega) (by omega)]; exact h8
  · rw [fr _ (by omega) (by omega)]; exact h9
  · rw [fr _ (by omega) (by omega)]; exact h4
  · rw [fr 4 (by omega) (by omega)]; exact e5
  · intro c hc; rw [fr _ (by omega) (by omega), fr _ (by omega) (by omega)]; exact ht c hc
  · intro c hc; rw [fr _ (by omega) (by omega), fr _ (by omega) (by omega)]; exact hz c hc
  · rw [fr _ (by omega) (by omega)]; exact h91
/-- the end of a turn with a card drawn -/
theorem m_end1 (hr : encR a L r) (h : preE a) (hs : a (187 + a 10) < 5) (hb : a 9 = 0 → a 5 < a 4) : ∃ r', f_X8_endsTurn NN (sa s 0 r) 1 = some (sa s 0 r') ∧ encR (endG (drawG a (a 10))) L r' := by
  have hp : a 10 < 4 := by have := h.2.2.2.2.1; have := h.2.2.2.1; omega
  have h4 : a 4 ≤ 40 ∧ a 5 ≤ a 4 := ⟨h.2.2.2.2.2.2.2.2.1, h.2.2.2.2.2.2.2.2.2.1⟩
  have e5 : r 5 = iN (a 5) := hr.1 5 (by omega) (by omega)
  have e10 : r 10 = iN (a 10) := hr.1 10 (by omega) (by omega)
  have hd := preE_draw h hp hs
  unfold f_X8_endsTurn
  rw [if_neg (by decide)]
  simp only [sa_get, e5, e10]
  obtain ⟨r1, q1, hr1⟩ := m_draws (s := s) hr hp hs h4.1 h4.2
  rw [q1, ob_some]
  refine m_end22 hr1 1 hd (by omega) (fun q => ⟨fun e => ⟨?_, e⟩, fun e => e.2⟩)
  have q9 : a 9 = 0 := by
    rw [← q]
    unfold drawG
    split
    · rfl
    · rw [up_ne (by omega), up_ne (by omega), up_ne (by omega)]
  have := hb q9
  unfold drawG
  rw [if_neg (by omega), up_eq]
  omega
end MDL
