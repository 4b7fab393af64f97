/-! OWN: the pure half: the parts of a turn, in the class -/
section CLS
variable {a : Gm} {L : Nat → Int32} {s ru : Ob}
theorem x_log (hs : ∀ p, p < 4 → a (187 + p) ≤ 5) (hG : encG a L s) (h11 : a 11 < 2 ^ 20) (x1 x2 x3 : Int32) : ∃ s', f_X1_writeLog NN s x1 x2 x3 = some s' ∧ encG a (logL L (a 11 % 30) (iN (a 10)) x1 x2 x3) s' := by
  have e5 := hG.2.2.2.2.1
  have e4 := hG.2.2.2.1
  have hm : a 11 % 30 < 30 := Nat.mod_lt _ (by omega)
  generalize em : a 11 % 30 = m at *
  unfold f_X1_writeLog
  simp only [znm_eq, sa_1, e5, e4, mod30 (show a 11 < 2 ^ 30 by omega), em]
  rw [show iN m * 4 = iN (m * 4) from iN_mul m 4, Nat.mul_comm m 4, iN_p1, show iN (4 * m) + 2 = iN (4 * m + 2) from iN_add _ 2, show iN (4 * m) + 3 = iN (4 * m + 3) from iN_add _ 3]
  rw [chk_iN (by omega) (by omega), chk_iN (by omega) (by omega), chk_iN (by omega) (by omega), chk_iN (by omega) (by omega), clamp_iN (by omega), clamp_iN (by omega), clamp_iN (by omega), clamp_iN (by omega)]
  exact ⟨_, rfl, g_log (g_log (g_log (g_log hG)))⟩
theorem x_take (hG : encG a L s) {p j : Nat} (hp : p < 4) (h10 : a 10 = p) (hj : j < a (187 + p)) (hs : a (187 + p) ≤ 5) (hc : a (191 + (5 * p + j)) < 40) (hw : wfG a) : ∃ s', f_X1_takeCard NN s (iN j) = some (iN (a (191 + (5 * p + j))), s') ∧ encG (takeG a p j) L s' := by
  have e4 : s.1 4 = iN p := by rw [hG.2.2.2.1, h10]
  have eS : s.2.2.1 10 p = iN (a (187 + p)) := hG.2.2.2.2.2.2.2.2.2.1 p hp
  have gH := hG.2.2.2.2.2.2.2.2.1
  let H : Nat → Nat → Int32 := fun n i => if 5 * p + j ≤ i ∧ i < 5 * p + j + n then s.2.2.1 9 (i + 1) else s.2.2.1 9 i
  refine ⟨sa (sa s 9 (H (a (187 + p) - 1 - j))) 10 (upd (s.2.2.1 10) p (iN (a (187 + p) - 1))), ?_, ?_⟩
  · unfold f_X1_takeCard f_X1_takeCard_19
    rw [e4, ca_yes hw hG hp hj, ob_some, if_neg (iN_ne_m1 (by omega))]
    have e0 : s = sa s 9 (H 0) := by
      unfold sa
      have : (fun j => if j = 9 then H 0 else s.2.2.1 j) = s.2.2.1 := by
        funext i
        split
        · rename_i e
          rw [e]
          funext i
          show (if 5 * p + j ≤ i ∧ i < 5 * p + j + 0 then _ else _) = _
          rw [if_neg (by omega)]
        · rfl
      rw [this]
    have go : ∀ s0, s0 = sa s 9 (H 0) → zlp (fun _ _ _ => none) (F_X1_takeCard_19 NN (iN j)) NN (iN (a (191 + (5 * p + j)))) (iN j) s0 = some (iN (a (191 + (5 * p + j))), sa (sa s 9 (H (a (187 + p) - 1 - j))) 10 (upd (s.2.2.1 10) p (iN (a (187 + p) - 1)))) := by
      rintro s0 rfl
      refine loop3 (fun _ => iN (a (191 + (5 * p + j)))) (fun n => iN (j + n)) (fun n => sa s 9 (H n)) (a (187 + p) - 1 - j) ?_ ?_ NN 0 (by omega) (nnb (by omega))
      · intro n hn self
        have q10 : (sa s 9 (H n)).2.2.1 10 = s.2.2.1 10 := rfl
        have q9 : (sa s 9 (H n)).2.2.1 9 = H n := rfl
        unfold F_X1_takeCard_19
        simp only [znm_eq, sa_1, e4, q10, q9]
        rw [chk_iN (by omega) (by omega), clamp_iN (by omega), eS, iN_p1, if_neg (fun q => absurd ((iN_le (by omega) (by omega)).mp q) (by omega)), show iN p * 5 = iN (5 * p) from by rw [Nat.mul_comm]; exact iN_mul p 5, iN_add, iN_p1, chk_iN (by omega) (by omega), chk_iN (by omega) (by omega), clamp_iN (by omega), clamp_iN (by omega)]
        refine congrArg (self (iN (a (191 + (5 * p + j)))) (iN (j + n + 1))) ?_
        rw [sa_sa]
        congr 1
        funext i
        rw [upd_at]
        show (if i = 5 * p + (j + n) then (if 5 * p + j ≤ 5 * p + (j + n) + 1 ∧ 5 * p + (j + n) + 1 < 5 * p + j + n then _ else _) else if 5 * p + j ≤ i ∧ i < 5 * p + j + n then _ else _) = if 5 * p + j ≤ i ∧ i < 5 * p + j + (n + 1) then _ else _
        by_cases e : i = 5 * p + (j + n)
        · rw [if_pos e, if_neg (by omega), if_pos (by omega), e]
        · rw [if_neg e]
          by_cases e2 : 5 * p + j ≤ i ∧ i < 5 * p + j + n
          · rw [if_pos e2, if_pos (by omega)]
          · rw [if_neg e2, if_neg (by omega)]
      · intro self
        have q10 : (sa s 9 (H (a (187 + p) - 1 - j))).2.2.1 10 = s.2.2.1 10 := rfl
        unfold F_X1_takeCard_19
        simp only [sa_1, e4, q10]
        rw [chk_iN (by omega) (by omega), clamp_iN (by omega), eS, iN_p1, if_pos ((iN_le (by omega) (by omega)).mpr (by omega)), iN_subm1 (by omega), chk_iN hp (by omega), chk_iN hp (by omega)]
    exact go s e0
  · obtain ⟨g1, g2, g3, g4, g5, g6, g7, g8, g9, g10, g11, g12, g13, g14, g15⟩ := hG
    have fr : ∀ i, ¬ (187 ≤ i ∧ i < 211) → takeG a p j i = a i := fun i hi => by
      unfold takeG
      rw [if_neg (by omega), if_neg (by omega)]
    have e187 : ∀ q, q < 4 → takeG a p j (187 + q) = if q = p then a (187 + p) - 1 else a (187 + q) := fun q hq => by
      unfold takeG
      by_cases e : q = p
      · rw [if_pos (by omega), if_pos e]
      · rw [if_neg (by omega), if_neg (by omega), if_neg e]
    refine ⟨?_, ?_, ?_, ?_, ?_, ?_, ?_, ?_, ?_, ?_, ?_, ?_, ?_, ?_, g15⟩
    · rw [fr _ (by omega)]; exact g1
    · rw [fr _ (by omega)]; exact g2
    · rw [fr _ (by omega)]; exact g3
    · rw [fr _ (by omega)]; exact g4
    · rw [fr _ (by omega)]; exact g5
    · rw [fr _ (by omega)]; exact g6
    · intro k hk; rw [fr _ (by omega)]; exact g7 k hk
    · intro k hk; rw [fr _ (by omega)]; exact g8 k hk
    · intro q i hq hi
      rw [e187 q hq] at hi
      show (if 5 * p + j ≤ 5 * q + i ∧ 5 * q + i < 5 * p + j + (a (187 + p) - 1 - j) then _ else _) = iN (if 191 + (5 * q + i) = 187 + p then _ else if 191 + (5 * p + j) ≤ 191 + (5 * q + i) ∧ 191 + (5 * q + i) + 1 < 191 + (5 * p + a (187 + p)) then _ else _)
      rw [if_neg (show ¬ 191 + (5 * q + i) = 187 + p by omega)]
      have hq5 := wfS hw hq
      by_cases e : q = p
      · subst e
        rw [if_pos rfl] at hi
        by_cases e2 : j ≤ i
        · rw [if_pos (by omega), if_pos (by omega)]
          exact g9 q (i + 1) hq (by omega)
        · rw [if_neg (by omega), if_neg (by omega)]
          exact g9 q i hq (by omega)
      · rw [if_neg e] at hi
        rw [if_neg (by omega), if_neg (by omega)]
        exact g9 q i hq hi
    · intro q hq
      rw [e187 q hq]
      show upd (s.2.2.1 10) p _ q = _
      rw [upd_at]
      by_cases e : q = p
      · rw [if_pos e, if_pos e]
      · rw [if_neg e, if_neg e]; exact g10 q hq
    · intro k hk; rw [fr _ (by omega)]; exact g11 k hk
    · intro k hk; rw [fr _ (by omega)]; exact g12 k hk
    · intro k hk; rw [fr _ (by omega)]; exact g13 k hk
    · intro k hk; rw [fr _ (by omega), fr _ (by omega)]; exact g14 k hk
theorem x_draw (hG : encG a L s) (u7 : ru.1 7 = iN (a 4)) {p : Nat} (hp : p < 4) (hs : a (187 + p) < 5) (hs5 : ∀ q, q < 4 → a (187 + q) ≤ 5) (h4 : a 4 ≤ 40) (h5 : a 5 ≤ a 4) : ∃ s', f_X1_drawCard NN s ru (iN p) = some s' ∧ encG (drawG a p) L s' := by
  have e1 := hG.1
  have eS : s.2.2.1 10 p = iN (a (187 + p)) := hG.2.2.2.2.2.2.2.2.2.1 p hp
  unfold f_X1_drawCard drawG
  simp only [znm_eq]
  rw [so_eq hG hp, ob_some, u7, e1]
  by_cases c : a 4 ≤ a 5
  · rw [if_pos c, if_pos ((iN_le (by omega) (by omega)).mpr c)]
    exact ⟨s, rfl, hG⟩
  · rw [if_neg c, if_neg (fun q => c ((iN_le (by omega) (by omega)).mp q))]
    rw [if_neg (show ¬ (4 : Int32) ≤ iN p from fun q => absurd ((iN_le (a := 4) (by omega) (by omega)).mp q) (by omega)), if_neg (show ¬ (5 : Int32) ≤ iN (a (187 + p)) from fun q => absurd ((iN_le (a := 5) (by omega) (by omega)).mp q) (by omega)), show iN p * 5 = iN (5 * p) from by rw [Nat.mul_comm]; exact iN_mul p 5, iN_add, chk_iN (by omega) (by omega), chk_iN (by omega) (by omega), chk_iN (by omega) (by omega), clamp_iN (by omega), clamp_iN (by omega), eS]
    refine ⟨_, rfl, ?_⟩
    obtain ⟨g1, g2, g3, g4, g5, g6, g7, g8, g9, g10, g11, g12, g13, g14, g15⟩ := hG
    have fr : ∀ i, ¬ (187 ≤ i ∧ i < 211) → i ≠ 5 → up (up (up a (191 + (5 * p + a (187 + p))) (a 5)) (187 + p) (a (187 + p) + 1)) 5 (a 5 + 1) i = a i := fun i hi h5 => by
      rw [up_ne h5, up_ne (by omega), up_ne (by omega)]
    have e187 : ∀ q, q < 4 → up (up (up a (191 + (5 * p + a (187 + p))) (a 5)) (187 + p) (a (187 + p) + 1)) 5 (a 5 + 1) (187 + q) = if q = p then a (187 + p) + 1 else a (187 + q) := fun q hq => by
      rw [up_ne (by omega)]
      by_cases e : q = p
      · rw [if_pos e, e, up_eq]
      · rw [if_neg e, up_ne (by omega), up_ne (by omega)]
    refine ⟨?_, ?_, ?_, ?_, ?_, ?_, ?_, ?_, ?_, ?_, ?_, ?_, ?_, ?_, g15⟩
    · rw [up_eq]
      show s.1 1 + 1 = _
      rw [g1, iN_p1]
    · rw [fr _ (by omega) (by omega)]; exact g2
    · rw [fr _ (by omega) (by omega)]; exact g3
    · rw [fr _ (by omega) (by omega)]; exact g4
    · rw [fr _ (by omega) (by omega)]; exact g5
    · rw [fr _ (by omega) (by omega)]; exact g6
    · intro k hk; rw [fr _ (by omega) (by omega)]; exact g7 k hk
    · intro k hk; rw [fr _ (by omega) (by omega)]; exact g8 k hk
    · intro q i hq hi
      rw [e187 q hq] at hi
      have hq5 := hs5 q hq
      show upd (s.2.2.1 9) (5 * p + a (187 + p)) (iN (a 5)) (5 * q + i) = _
      rw [upd_at, up_ne (by omega), up_ne (by omega)]
      by_cases e : 5 * q + i = 5 * p + a (187 + p)
      · rw [if_pos e, e, up_eq]
      · rw [if_neg e, up_ne (by omega)]
        refine g9 q i hq ?_
        by_cases e2 : q = p
        · rw [if_pos e2] at hi
          subst e2
          omega
        · rw [if_neg e2] at hi; exact hi
    · intro q hq
      rw [e187 q hq]
      show upd (s.2.2.1 10) p (iN (a (187 + p)) + 1) q = _
      rw [upd_at]
      by_cases e : q = p
      · rw [if_pos e, if_pos e, iN_p1]
      · rw [if_neg e, if_neg e]; exact g10 q hq
    · intro k hk; rw [fr _ (by omega) (by omega)]; exact g11 k hk
    · intro k hk; rw [fr _ (by omega) (by omega)]; exact g12 k hk
    · intro k hk; rw [fr _ (by omega) (by omega)]; exact g13 k hk
    · intro k hk; rw [fr _ (by omega) (by omega), fr _ (by omega) (by omega)]; exact g14 k hk
theorem x_heap (ho : okW a) (hG : encG a L s) (hu : encRu a ru) {k : Nat} (hk : k < 20) : ∃ s', f_X1_putOnHeap NN s ru (iN k) = some s' ∧ encG (heapG a k) L s' := by
  have hs : ∀ p, p < 4 → a (187 + p) ≤ 5 := fun p hp => wfS ho.1 hp
  have e6 : s.2.2.1 7 6 = iN (a 237) := hG.2.2.2.2.2.2.1 6 (by omega)
  have eH : s.2.2.1 12 k = iN (a (211 + k)) := hG.2.2.2.2.2.2.2.2.2.2.2.1 k hk
  have hl := lastN_le a k
  unfold f_X1_putOnHeap f_X1_putOnHeap_19 heapG
  rw [X1_isLastOne_eq_w ho hG hu hk, ob_some, chk_iN hk (by omega), chk_iN hk (by omega), clamp_iN (by omega), chk_iN hk (by omega), chk_iN hk (by omega)]
  by_cases c : lastN a k = 0
  · rw [c, if_pos iN00, eH, iN_p1]
    refine ⟨_, rfl, ?_⟩
    have e : up a 237 (a 237 + 0) = a := by
      funext i
      unfold up
      split
      · rename_i e; rw [e]; rfl
      · rfl
    rw [e]
    exact g_heap hk hs hG
  · rw [show lastN a k = 1 by omega, if_neg (show ¬ iN 1 = 0 by decide), e6, iN_p1]
    have q12 : (sa s 7 (upd (s.2.2.1 7) 6 (iN (a 237 + 1)))).2.2.1 12 k = iN (a (211 + k)) := eH
    rw [q12, iN_p1]
    exact ⟨_, rfl, g_heap hk (fun p hp => by rw [up_ne (by omega)]; exact hs p hp) (g_total (m := 6) (by omega) hs hG)⟩
theorem x_token (hs : ∀ p, p < 4 → a (187 + p) ≤ 5) (hG : encG a L s) (u4 : ru.1 4 = iN (a 6)) (h6 : a 6 ≤ 9) (h7 : a 7 ≤ 9) : ∃ s', f_X1_returnToken NN s ru = some s' ∧ encG (tokG a) L s' := by
  have e2 := hG.2.1
  have e4 : s.2.2.1 7 4 = iN (a 235) := hG.2.2.2.2.2.2.1 4 (by omega)
  unfold f_X1_returnToken tokG
  simp only [znm_eq]
  rw [u4, e2]
  by_cases c : a 6 ≤ a 7
  · rw [if_pos c, if_pos ((iN_le (by omega) (by omega)).mpr c)]
    exact ⟨s, rfl, hG⟩
  · rw [if_neg c, if_neg (fun q => c ((iN_le (by omega) (by omega)).mp q)), e4, iN_p1, iN_p1]
    exact ⟨_, rfl, g_total (m := 4) (by omega) (fun p hp => by rw [up_ne (by omega)]; exact hs p hp) (g_tok hs hG)⟩
theorem x_end (hs : ∀ p, p < 4 → a (187 + p) ≤ 5) (hG : encG a L s) (u2 : ru.1 2 = iN (a 2)) (u7 : ru.1 7 = iN (a 4)) (h : preE a) : ∃ s', f_X1_endTurn NN s ru = some s' ∧ encG (endG a) L s' := by
  have hl := leftG_b h
  obtain ⟨h0, h1, h2, h2', h10, h11, h8, h9, h4, h5, ht, hz, h91⟩ := h
  have e6 := hG.2.2.2.2.2.1
  have e1 := hG.1
  have fin : ∀ s1, encG (leftG a) L s1 → ∃ s', f_X1_endTurn_53 NN ru s1 = some s' ∧ encG (endG a) L s' := by
    intro s1 hG1
    have hs1 : ∀ p, p < 4 → leftG a (187 + p) ≤ 5 := fun p hp => by rw [leftG_ne (by omega)]; exact hs p hp
    have f4 : s1.1 4 = iN (a 10) := by have := hG1.2.2.2.1; rwa [leftG_ne (by omega)] at this
    have f5 : s1.1 5 = iN (a 11) := by have := hG1.2.2.2.2.1; rwa [leftG_ne (by omega)] at this
    have f80 : ∀ t : Nat, t = (a 10 + 1) % a 2 → ∃ s', f_X1_endTurn_80 NN ru (iN t) s1 = some s' ∧ encG (endG a) L s' := by
      rintro t rfl
      unfold f_X1_endTurn_80
      simp only [znm_eq]
      rw [f5, iN_p1]
      refine ⟨_, rfl, ?_⟩
      unfold endG
      have hsr : ∀ p, p < 4 → roundG (leftG a) (187 + p) ≤ 5 := fun p hp => by
        unfold roundG
        rw [up_ne (by omega), up_ne (by omega)]; exact hs1 p hp
      refine g_12 hsr ?_
      unfold roundG
      rw [up_comm (by omega), leftG_ne (i := 11) (by omega), leftG_ne (i := 10) (by omega), leftG_ne (i := 2) (by omega)]
      exact g_taken (fun p hp => by rw [up_ne (by omega)]; exact hs1 p hp) (g_turn hs1 hG1)
    unfold f_X1_endTurn_53
    rw [u2, f4, iN_p1]
    by_cases c : a 2 ≤ a 10 + 1
    · rw [if_pos ((iN_le (by omega) (by omega)).mpr c)]
      exact f80 0 (by rw [show a 10 + 1 = a 2 by omega, Nat.mod_self])
    · rw [if_neg (fun q => c ((iN_le (by omega) (by omega)).mp q))]
      exact f80 (a 10 + 1) (Nat.mod_eq_of_lt (by omega)).symm
  unfold f_X1_endTurn
  rw [e6, e1, u7, u2]
  by_cases c9 : a 9 = 0
  · have em : iN (a 9) - 1 = -1 := (iNm1_m1 (by omega)).mpr c9
    rw [em, if_pos (by decide), if_pos rfl]
    by_cases c5 : a 5 = a 4
    · rw [if_neg (fun q => absurd ((iN_lt (by omega) (by omega)).mp q) (by omega))]
      refine fin _ ?_
      unfold leftG
      rw [if_pos c9, if_pos c5]
      have := g_left (v := a 2 + 1) hs hG
      rwa [show iN (a 2 + 1) - 1 = iN (a 2) from by rw [iN_subm1 (by omega)]; rfl] at this
    · rw [if_pos ((iN_lt (by omega) (by omega)).mpr (by omega))]
      refine fin _ ?_
      unfold leftG
      rw [if_pos c9, if_neg c5]
      exact hG
  · rw [if_neg (show ¬ iN (a 9) - 1 ≤ 0 from by rw [iN_subm1 (by omega)]; exact fun q => absurd ((iN_le (b := 0) (by omega) (by omega)).mp q) (by omega))]
    refine fin _ ?_
    unfold leftG
    rw [if_neg c9]
    have := g_left (v := a 9 - 1) hs hG
    rwa [show iN (a 9 - 1) - 1 = iN (a 9) - 1 - 1 from by rw [iN_subm1 (k := a 9) (by omega)]] at this
end CLS
