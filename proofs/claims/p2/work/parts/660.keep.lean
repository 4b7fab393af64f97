/-! OWN: the pure half: games kept and copied -/
theorem encR_ext {a : Gm} {L r r' : Nat → Int32} (h : encR a L r) (e : ∀ k, k < 358 → r' k = r k) : encR a L r' :=
  ⟨fun k hk h9 => by rw [e k (by omega)]; exact h.1 k hk h9, by rw [e 9 (by omega)]; exact h.2.1, fun k hk => by rw [e _ (by omega)]; exact h.2.2 k hk⟩
/-- a copied row -/
theorem X8_copies_eq {n0 n1 p q : Nat} {f g : Nat → Int32} (h0 : 358 * p + 358 ≤ n0) (h1 : 358 * q + 358 ≤ n1) (b0 : n0 < 2 ^ 20) (b1 : n1 < 2 ^ 20) : f_X8_copies NN n0 n1 f g (iN p) (iN q) = some (fun k => if 358 * q ≤ k ∧ k < 358 * q + 358 then f (358 * p + (k - 358 * q)) else g k) := by
  unfold f_X8_copies f_X8_copies_3
  have e0 : g = fun k => if 358 * q ≤ k ∧ k < 358 * q + 0 then f (358 * p + (k - 358 * q)) else g k := by
    funext k
    rw [if_neg (by omega)]
  have go : ∀ g0, g0 = (fun k => if 358 * q ≤ k ∧ k < 358 * q + 0 then f (358 * p + (k - 358 * q)) else g k) → zlp (fun _ _ => none) (F_X8_copies_3 NN n0 n1 f (iN p) (iN q)) NN 0 g0 = some (fun k => if 358 * q ≤ k ∧ k < 358 * q + 358 then f (358 * p + (k - 358 * q)) else g k) := by
    rintro g0 rfl
    refine loop2 (fun n => iN n) (fun n k => if 358 * q ≤ k ∧ k < 358 * q + n then f (358 * p + (k - 358 * q)) else g k) 358 ?_ ?_ NN 0 (by omega) (nnb (by omega))
    · intro n hn self
      unfold F_X8_copies_3
      rw [if_neg (show ¬ (358 : Int32) ≤ iN n from fun q => absurd ((iN_le (a := 358) (by omega) (by omega)).mp q) (by omega)), show (358 : Int32) * iN p = iN (358 * p) from iN_mul 358 p, show (358 : Int32) * iN q = iN (358 * q) from iN_mul 358 q, iN_add, iN_add, chk_iN (by omega) (by omega), chk_iN (by omega) (by omega), clamp_iN (by omega), clamp_iN (by omega), iN_p1]
      refine congrArg (self (iN (n + 1))) (funext fun k => ?_)
      rw [upd_at]
      by_cases e : k = 358 * q + n
      · rw [if_pos e, if_pos (by omega), e, show 358 * q + n - 358 * q = n by omega]
      · rw [if_neg e]
        by_cases e2 : 358 * q ≤ k ∧ k < 358 * q + n
        · rw [if_pos e2, if_pos (by omega)]
        · rw [if_neg e2, if_neg (by omega)]
    · intro self
      unfold F_X8_copies_3
      rw [if_pos (by decide)]
  exact go g e0
theorem ss36 (s : Ob) (f g : Nat → Int32) (v w : Int32) : si (sa (si (sa s 3 f) 6 v) 3 g) 6 w = si (sa s 3 g) 6 w := by
  unfold si sa
  simp only
  congr 1
  · funext j; split <;> rfl
  · congr 2
    congr 1
    funext j; split <;> rfl
def shiftR (P : Nat → Int32) (m k : Nat) : Int32 := if k < m then P (k + 358) else P k
theorem shiftR_lt {P : Nat → Int32} {m k : Nat} (h : k < m) : shiftR P m k = P (k + 358) := if_pos h
theorem shiftR_ge {P : Nat → Int32} {m k : Nat} (h : m ≤ k) : shiftR P m k = P k := if_neg (by omega)
theorem shiftR_s {P : Nat → Int32} {m : Nat} : upd (shiftR P m) m (shiftR P m (m + 358)) = shiftR P (m + 1) := by
  funext k
  rw [upd_at, shiftR_ge (by omega)]
  by_cases e : k = m
  · rw [if_pos e, shiftR_lt (by omega), e]
  · rw [if_neg e]
    by_cases e2 : k < m
    · rw [shiftR_lt e2, shiftR_lt (by omega)]
    · rw [shiftR_ge (by omega), shiftR_ge (by omega)]
def putR (P now : Nat → Int32) (n k : Nat) : Int32 := if 358 * n ≤ k ∧ k < 358 * n + 358 then now (358 * 0 + (k - 358 * n)) else P k
theorem putR_in {P now : Nat → Int32} {n k : Nat} (h : k < 358) : putR P now n (358 * n + k) = now k := by
  unfold putR
  rw [if_pos ⟨by omega, by omega⟩, show 358 * 0 + (358 * n + k - 358 * n) = k by omega]
theorem putR_out {P now : Nat → Int32} {n k : Nat} (h : k < 358 * n ∨ 358 * n + 358 ≤ k) : putR P now n k = P k := if_neg (by omega)
/-- what keeping makes of the kept rows -/
def keptOk (n : Nat) (P P' : Nat → Int32) (now : Nat → Int32) : Prop := ∀ i k, i < (if n = 20 then 20 else n + 1) → k < 358 → P' (358 * i + k) = if i + 1 = (if n = 20 then 20 else n + 1) then now k else if n = 20 then P (358 * (i + 1) + k) else P (358 * i + k)
theorem m_keeps {s : Ob} {n : Nat} (hn : n ≤ 20) (h6 : s.1 6 = iN n) : ∃ P', f_X8_keeps NN s = some (si (sa s 3 P') 6 (iN (if n = 20 then 20 else n + 1))) ∧ keptOk n (s.2.2.1 3) P' (s.2.2.1 0) := by
  unfold f_X8_keeps
  by_cases c : n = 20
  · rw [h6, c, if_pos (show iN 20 = 20 by decide)]
    rw [c] at h6
    unfold f_X8_keeps_11
    have e0 : s = sa s 3 (shiftR (s.2.2.1 3) 0) := by
      have e : shiftR (s.2.2.1 3) 0 = s.2.2.1 3 := funext fun k => shiftR_ge (by omega)
      rw [e]
      unfold sa
      have : (fun j => if j = 3 then s.2.2.1 3 else s.2.2.1 j) = s.2.2.1 := by
        funext j
        split
        · rename_i e; rw [e]
        · rfl
      rw [this]
    have go : ∀ s0, s0 = sa s 3 (shiftR (s.2.2.1 3) 0) → zlp (fun _ _ => none) (F_X8_keeps_11 NN) NN 0 s0 = f_X8_keeps_50 NN (si (sa s 3 (shiftR (s.2.2.1 3) 6802)) 6 (iN 19)) := by
      rintro s0 rfl
      refine loop2 (fun m => iN m) (fun m => sa s 3 (shiftR (s.2.2.1 3) m)) 6802 ?_ ?_ NN 0 (by omega) (nnb (by omega))
      · intro m hm self
        have q3 : (sa s 3 (shiftR (s.2.2.1 3) m)).2.2.1 3 = shiftR (s.2.2.1 3) m := rfl
        unfold F_X8_keeps_11
        rw [if_neg (show ¬ (6802 : Int32) ≤ iN m from fun q => absurd ((iN_le (a := 6802) (by omega) (by omega)).mp q) (by omega)), show iN m + 358 = iN (m + 358) from iN_add m 358, chk_iN (by omega) (by omega), chk_iN (by omega) (by omega), clamp_iN (by omega), clamp_iN (by omega), iN_p1, q3, sa_sa, shiftR_s]
      · intro self
        have q6 : (sa s 3 (shiftR (s.2.2.1 3) 6802)).1 6 = s.1 6 := rfl
        unfold F_X8_keeps_11
        rw [if_pos (by decide), q6, h6, show iN 20 - 1 = iN 19 by decide]
    have go := go s e0
    rw [go]
    unfold f_X8_keeps_50
    have q3 : (si (sa s 3 (shiftR (s.2.2.1 3) 6802)) 6 (iN 19)).2.2.1 3 = shiftR (s.2.2.1 3) 6802 := rfl
    have q0 : (si (sa s 3 (shiftR (s.2.2.1 3) 6802)) 6 (iN 19)).2.2.1 0 = s.2.2.1 0 := rfl
    have q6 : (si (sa s 3 (shiftR (s.2.2.1 3) 6802)) 6 (iN 19)).1 6 = iN 19 := rfl
    rw [q3, q0, q6, show (0 : Int32) = iN 0 from rfl, X8_copies_eq (by omega) (by omega) (by omega) (by omega), ob_some]
    simp only [znm_eq]
    refine ⟨putR (shiftR (s.2.2.1 3) 6802) (s.2.2.1 0) 19, ?_, ?_⟩
    · rw [ss36, show iN 19 + 1 = iN 20 by decide]
      rfl
    · intro i k hi hk
      rw [if_pos rfl] at hi
      rw [if_pos rfl, if_pos rfl]
      by_cases e : i + 1 = 20
      · rw [if_pos e, show i = 19 by omega, putR_in hk]
      · rw [if_neg e, putR_out (by omega), shiftR_lt (by omega), show 358 * i + k + 358 = 358 * (i + 1) + k by omega]
  · rw [h6, if_neg (show ¬ iN n = 20 from fun q => c ((iN_inj (b := 20) (by omega) (by omega)).mp q)), if_neg c]
    unfold f_X8_keeps_50
    rw [h6, show (0 : Int32) = iN 0 from rfl, X8_copies_eq (by omega) (by omega) (by omega) (by omega), ob_some]
    simp only [znm_eq]
    refine ⟨putR (s.2.2.1 3) (s.2.2.1 0) n, ?_, ?_⟩
    · rw [iN_p1]
      rfl
    · intro i k hi hk
      rw [if_neg c] at hi
      rw [if_neg c, if_neg c]
      by_cases e : i + 1 = n + 1
      · rw [if_pos e, show i = n by omega, putR_in hk]
      · rw [if_neg e, putR_out (by omega)]
theorem x_copy {a : Gm} {L : Nat → Int32} {s0 s1 : Ob} (hs : ∀ p, p < 4 → a (187 + p) ≤ 5) (hG : encG a L s1) : ∃ s', f_X1_copyFrom NN s0 s1 = some s' ∧ encG a L s' := by
  obtain ⟨g1, g2, g3, g4, g5, g6, g7, g8, g9, g10, g11, g12, g13, g14, g15⟩ := hG
  have c : ∀ (f g : Nat → Int32) (n k : Nat), k < n → va_cpy f g 0 0 n k = f k := fun f g n k hk => by
    unfold va_cpy
    rw [if_pos ⟨by omega, by omega⟩, show 0 + (k - 0) = k by omega]
  refine ⟨_, rfl, g1, g2, g3, g4, g5, g6, ?_, g8, ?_, ?_, ?_, ?_, ?_, ?_, ?_⟩
  · intro k hk
    show va_cpy (s1.2.2.1 7) _ 0 0 7 k = _
    rw [c _ _ _ _ hk]; exact g7 k hk
  · intro p j hp hj
    have := hs p hp
    show va_cpy (s1.2.2.1 9) _ 0 0 20 (5 * p + j) = _
    rw [c _ _ _ _ (by omega)]; exact g9 p j hp hj
  · intro k hk
    show va_cpy (s1.2.2.1 10) _ 0 0 4 k = _
    rw [c _ _ _ _ hk]; exact g10 k hk
  · intro k hk
    show va_cpy (s1.2.2.1 11) _ 0 0 4 k = _
    rw [c _ _ _ _ hk]; exact g11 k hk
  · intro k hk
    show va_cpy (s1.2.2.1 12) _ 0 0 20 k = _
    rw [c _ _ _ _ hk]; exact g12 k hk
  · intro k hk
    show va_cpy (s1.2.2.1 13) _ 0 0 9 k = _
    rw [c _ _ _ _ hk]; exact g13 k hk
  · intro k hk
    show okMask (va_cpy (s1.2.2.1 14) _ 0 0 40 k) _ _
    rw [c _ _ _ _ hk]; exact g14 k hk
  · intro k hk
    show va_cpy (s1.2.2.1 15) _ 0 0 120 k = _
    rw [c _ _ _ _ hk]; exact g15 k hk
theorem vup_at {α : Type} (f : Nat → α) (k : Nat) (v : α) (j : Nat) : va_up f k v j = if j = k then v else f j := rfl
/-- both keep the game -/
theorem keep_ok {pl : Nat → Ob → Prop} {sX sG ru : Ob} {q : Nat} {PS : Nat → Nat × Ob} {sM s : Ob} (hp : pastOk pl sX PS sM) (h6 : s.1 6 = sM.1 6) (h3 : s.2.2.1 3 = sM.2.2.1 3) (h0 : s.2.2.1 0 = sM.2.2.1 0) (hS : sameG pl sG q ru (sM.2.2.1 0)) : ∃ n' e' P' PS', n' ≤ 20 ∧ e' < 20 ∧ f_X7_remember NN q sX sG PS = some (si (si sX 6 (iN e')) 5 (iN n'), PS') ∧ f_X8_keeps NN s = some (si (sa s 3 P') 6 (iN n')) ∧
    ∀ i, i < n' → ∃ ru', sameG pl (PS' ((e' + 20 - n' + i) % 20)).2 (PS' ((e' + 20 - n' + i) % 20)).1 ru' (fun k => P' (358 * i + k)) := by
  obtain ⟨n, e, hn, he, x5, x6, m6, hold⟩ := hp
  obtain ⟨P', q1, hk⟩ := m_keeps (s := s) hn (by rw [h6, m6])
  rw [h3, h0] at hk
  obtain ⟨a, L, ho, hr, hG, hu, hpl⟩ := hS
  obtain ⟨s', q2, hG2⟩ := x_copy (s0 := (PS e).2) (fun p hp => wfS ho.1 hp) hG
  refine ⟨if n = 20 then 20 else n + 1, if e + 1 = 20 then 0 else e + 1, P', va_up PS e (q, s'), by split <;> omega, by split <;> omega, ?_, q1, ?_⟩
  · unfold f_X7_remember f_X7_remember_38
    rw [x6, chk_iN he (by omega), clamp_iN (by omega), q2, ob_some, x5, iN_p1, iN_p1]
    simp only [znm_eq]
    have e5 : (if (20 : Int32) < iN (n + 1) then (20 : Int32) else iN (n + 1)) = iN (if n = 20 then 20 else n + 1) := by
      by_cases c : n = 20
      · rw [if_pos c, c]; rfl
      · rw [if_neg c, if_neg (show ¬ (20 : Int32) < iN (n + 1) from fun q => absurd ((iN_lt (a := 20) (by omega) (by omega)).mp q) (by omega))]
    rw [e5]
    by_cases c : e + 1 = 20
    · rw [if_pos (show (20 : Int32) ≤ iN (e + 1) by rw [c]; decide), if_pos c]; rfl
    · rw [if_neg (show ¬ (20 : Int32) ≤ iN (e + 1) from fun q => absurd ((iN_le (a := 20) (by omega) (by omega)).mp q) (by omega)), if_neg c]
  · intro i hi
    have hki := fun k hk' => hk i k hi hk'
    by_cases c : i + 1 = (if n = 20 then 20 else n + 1)
    · have hslot : ((if e + 1 = 20 then 0 else e + 1) + 20 - (if n = 20 then 20 else n + 1) + i) % 20 = e := by
        have hi20 : i + 1 ≤ 20 := by rw [c]; split <;> omega
        rw [← c]
        split <;> omega
      rw [hslot, vup_at, if_pos rfl]
      refine ⟨ru, a, L, ho, encR_ext hr fun k hk' => ?_, hG2, hu, hpl⟩
      rw [hki k hk', if_pos c]
    · by_cases c20 : n = 20
      · rw [if_pos c20] at hi c hki ⊢
        have hslot : ((if e + 1 = 20 then 0 else e + 1) + 20 - 20 + i) % 20 = (e + 20 - n + (i + 1)) % 20 := by
          rw [c20]
          split <;> omega
        have hne : (e + 20 - n + (i + 1)) % 20 ≠ e := by
          rw [c20]
          omega
        obtain ⟨ru', a', L', ho', hr', hG', hu', hpl'⟩ := hold (i + 1) (by omega)
        rw [hslot, vup_at, if_neg hne]
        refine ⟨ru', a', L', ho', encR_ext hr' fun k hk' => ?_, hG', hu', hpl'⟩
        rw [hki k hk', if_neg c, if_pos c20]
      · rw [if_neg c20] at hi c hki ⊢
        have hslot : ((if e + 1 = 20 then 0 else e + 1) + 20 - (n + 1) + i) % 20 = (e + 20 - n + i) % 20 := by
          split <;> omega
        have hne : (e + 20 - n + i) % 20 ≠ e := by omega
        obtain ⟨ru', a', L', ho', hr', hG', hu', hpl'⟩ := hold i (by omega)
        rw [hslot, vup_at, if_neg hne]
        refine ⟨ru', a', L', ho', encR_ext hr' fun k hk' => ?_, hG', hu', hpl'⟩
        rw [hki k hk', if_neg c, if_neg c20]
