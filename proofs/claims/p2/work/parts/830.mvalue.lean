/-! OWN: the search of the model comes to its end: the positions behind one, all of them, what is asked of them -/
theorem bit_of_test {h : Int64} {c : Nat} (hc : c < 64) (hne : ¬ lg_cmp ((h >>> ((iN c).toInt64 &&& 63)) &&& (1 : Int64)) (0 : Int64) = 0) : bitL h c = true := by
  cases hb : bitL h c with
  | true => rfl
  | false =>
    refine (hne ?_).elim
    have e : (h >>> ((iN c).toInt64 &&& 63)) &&& (1 : Int64) = 0 := bitL_ext fun i hi => by
      rw [bitL_and, bitL_one, bitL_zero]
      by_cases z : i = 0
      · subst z
        rw [bitL_shr0 _ hc, hb, Bool.false_and]
      · rw [decide_eq_false z, Bool.and_false]
    rw [e]
    exact lg_cmp_self 0
section GOS
variable {a : Gm} {L : Nat → Int32} {s0 : Ob} {n k r : Nat}
def GS (s0 : Ob) (n k r m : Nat) (t : Ob) : Prop := Fr s0 t ∧ Kp n s0 t ∧ STm m t ∧ n ≤ m ∧ MPm t ∧ (∀ p, p < 4 → t.2.2.2 23 p = s0.2.2.2 19 (4 * k + p)) ∧ t.1 27 = iN (r / 4194304 % 4)
theorem act_t {β : Type} {Q : β → Prop} {K : Ob → Option β} {m : Nat} {t : Ob} {kd c : Int32} (hR : RW a L s0) (hk : k < n) (hr : r < 117440512) (er : s0.2.2.1 20 k = iN r) (h : GS s0 n k r m t) (hm : m < 4020) (h2 : kd = 2 → ∃ w, 1 ≤ w ∧ w < 16 ∧ t.1 25 = iN w) (h01 : ¬ (2 : Int32) ≤ kd → ∃ cn, cn < 40 ∧ c = iN cn ∧ bitL (s0.2.2.2 19 (4 * k + r / 4194304 % 4)) cn = true ∧ (kd = 0 → t.2.2.1 24 (a (27 + cn) / 5) = iN (a (27 + cn) % 5))) (hK : ∀ t' m', m ≤ m' → m' ≤ m + 1 → GS s0 n k r m' t' → Tot (K t') Q) : Tot (ob (f_X8_moves NN t kd c) fun x => (ob (f_X8_adds NN x) fun y => (ob (f_X8_unpacks NN y (iN k)) fun z => K z))) Q := by
  obtain ⟨g1, g2, g3, g4, g5, g6, g7⟩ := h
  have hu : r / 4194304 % 4 < 4 := Nat.mod_lt _ (by omega)
  refine tt_ob (moves_t (rw_fr hR g1) g5 c h2 (fun hh => ?_)) (fun x hx => ?_)
  · obtain ⟨cn, h1, e1, hb, h3⟩ := h01 hh
    refine ⟨cn, h1, e1, fun u hu' e => ?_, h3⟩
    rw [g7] at e
    have := (iN_inj (by omega) (by omega)).mp e
    subst this
    have hp := g5.1 _ hu
    rw [g6 _ hu] at hp ⊢
    have := pc_clr (s0.2.2.2 19 (4 * k + r / 4194304 % 4)) (n := cn) (by omega)
    rw [hb, if_pos rfl] at this
    omega
  · obtain ⟨hpf, hP⟩ := hx
    refine tt_ob (adds_t (st_pf g3 hpf) hm hP) (fun y hy => ?_)
    obtain ⟨f1, f2, m', f3, f4, f5⟩ := hy
    have kp1 : Kp n s0 y := kp_trans g4 (kp_trans (Nat.le_refl n) g2 (kp_pf hpf)) f2
    refine tt_ob (unpacks_t f5 (by omega) hr (by rw [kp1.1 k hk]; exact er)) (fun z hz => ?_)
    obtain ⟨q1, q2, q3, q4⟩ := hz
    refine hK z m' f3 f4 ⟨fr_trans g1 (fr_trans (pf_fr hpf) (fr_trans f1 (pf_fr q1))), kp_trans (Nat.le_refl n) kp1 (kp_pf q1), st_pf f5 q1, by omega, q2, fun p hp => ?_, q4⟩
    rw [q3 p hp]
    exact kp1.2 _ (by omega)
theorem goes_t (hR : RW a L s0) (hS : STm n s0) (hn : n ≤ 4000) (hk : k < n) : Tot (f_X8_goesOn NN s0 (iN k)) (fun s' => Fr s0 s' ∧ ∃ n', k < n' ∧ STm n' s') := by
  obtain ⟨r, hr, er⟩ := hS.2.2.1 k hk
  have hu : r / 4194304 % 4 < 4 := Nat.mod_lt _ (by omega)
  have h40 := hR.1.2.2.2.2.1
  unfold f_X8_goesOn
  refine tt_ob (unpacks_t hS hk hr er) (fun x1 h1 => ?_)
  obtain ⟨p1, p2, p3, p4⟩ := h1
  have hRx := rw_pf hR p1
  refine tt_ob (mfinal_t hRx) (fun x2 _ => tt_ite (fun _ => ?_) (fun _ => tt_some ⟨pf_fr p1, n, hk, st_pf hS p1⟩))
  rw [p4, iN_clamp (by omega), p3 _ hu]
  refine tt_chk (iN_inb hu (by omega)) ?_
  have hpc : pcL (s0.2.2.2 19 (4 * k + r / 4194304 % 4)) 0 ≤ 6 := by
    rw [← p3 _ hu]
    exact p2.1 _ hu
  have hbit : ∀ cn, cn < 40 → ∀ b, b = s0.2.2.2 19 (4 * k + r / 4194304 % 4) → bitL b cn = true → bitL (s0.2.2.2 19 (4 * k + r / 4194304 % 4)) cn = true := fun cn _ b e hb => by rw [← e]; exact hb
  generalize hh : s0.2.2.2 19 (4 * k + r / 4194304 % 4) = h at hpc
  -- the end of it: to pass
  have fin : ∀ t m, GS s0 n k r m t → m < 4020 → Tot (f_X8_goesOn_120 NN (iN k) h t) (fun s' => Fr s0 s' ∧ ∃ n', k < n' ∧ STm n' s') := fun t m hG hm => by
    obtain ⟨g1, g2, g3, g4, g5, g6, g7⟩ := hG
    unfold f_X8_goesOn_120
    refine tt_ite (fun _ => ?_) (fun _ => tt_some ⟨g1, m, by omega, g3⟩)
    refine tt_ob (moves_t (rw_fr hR g1) g5 _ (fun e => absurd e (by decide)) (fun e => absurd (show (2 : Int32) ≤ 3 by decide) e)) (fun x hx => ?_)
    refine tt_ob (adds_t (st_pf g3 hx.1) hm hx.2) (fun y hy => ?_)
    obtain ⟨f1, f2, m', f3, f4, f5⟩ := hy
    exact tt_some ⟨fr_trans g1 (fr_trans (pf_fr hx.1) f1), m', by omega, f5⟩
  unfold f_X8_goesOn_26
  refine tlk3 (fun j v c t => ∃ cn m, cn + j = a 4 ∧ v = h ∧ c = iN cn ∧ m + 2 * pcL h cn ≤ n + 12 ∧ GS s0 n k r m t) (fun j v c t hI self hs => ?_) NN (a 4) _ _ _ (show a 4 < 100000 by omega) ⟨0, n, by omega, rfl, rfl, by omega, pf_fr p1, kp_pf p1, st_pf hS p1, Nat.le_refl _, p2, p3, p4⟩
  obtain ⟨cn, m, hc, rfl, rfl, hm, hG⟩ := hI
  have hRt := rw_fr hR hG.1
  have e4 := hRt.2.2.2.1 4 (by omega) (by omega)
  unfold F_X8_goesOn_26
  rw [e4]
  refine tt_ite (fun _ => ?_) (fun hlt => ?_)
  · refine tt_ite (fun _ => fin t m hG (by omega)) (fun ht => ?_)
    obtain ⟨w, hw, ew⟩ : ∃ w, w < 16 ∧ t.1 25 = iN w := by
      obtain ⟨-, -, w, n', u, l', ht, hn, hu, hl, e5, e6, e7, e8⟩ := hG.2.2.2.2.1
      exact ⟨w, ht, e5⟩
    have hw1 : 1 ≤ w := by
      rw [ew] at ht
      rcases Nat.eq_zero_or_pos w with z | z
      · subst z
        exact absurd (show iN 0 ≤ 0 by decide) ht
      · exact z
    exact act_t hR hk hr er hG (by omega) (fun _ => ⟨w, hw1, hw, ew⟩) (fun e => absurd (show (2 : Int32) ≤ 2 by decide) e) (fun t' m' h1 h2 hG' => fin t' m' hG' (by omega))
  · have hcn := nle (by omega) (by omega) hlt
    have hst := pc_step v (c := cn) (by omega)
    refine tt_ite (fun _ => ?_) (fun hb => ?_)
    · rw [inc1]
      exact hs (j - 1) _ _ _ (by omega) ⟨cn + 1, m, by omega, rfl, rfl, by omega, hG⟩
    · have hb1 := bit_of_test (by omega) hb
      rw [hb1, if_pos rfl] at hst
      have hb2 : bitL (s0.2.2.2 19 (4 * k + r / 4194304 % 4)) cn = true := by rw [hh]; exact hb1
      have go76 : ∀ t m, m + 2 * pcL v (cn + 1) + 1 ≤ n + 12 → GS s0 n k r m t → Tot (f_X8_goesOn_76 NN (iN k) self v (iN cn) t) (fun s' => Fr s0 s' ∧ ∃ n', k < n' ∧ STm n' s') := fun t m hm hG => by
        unfold f_X8_goesOn_76
        refine act_t hR hk hr er hG (by omega) (fun e => absurd e (by decide)) (fun _ => ⟨cn, by omega, rfl, hb2, fun e => absurd e (by decide)⟩) (fun t' m' h1 h2 hG' => ?_)
        rw [inc1]
        exact hs (j - 1) _ _ _ (by omega) ⟨cn + 1, m', by omega, rfl, rfl, by omega, hG'⟩
      refine tt_ob (mcan_t hRt hG.2.2.2.2.1 (c := cn) (by omega)) (fun x9 h9 => tt_ite (fun _ => go76 t m (by omega) hG) (fun hne => ?_))
      exact act_t hR hk hr er hG (by omega) (fun e => absurd e (by decide)) (fun _ => ⟨cn, by omega, rfl, hb2, fun _ => h9 hne⟩) (fun t' m' h1 h2 hG' => go76 t' m' (by omega) hG')
end GOS
section SEA
variable {a : Gm} {L : Nat → Int32} {s : Ob}
theorem fr_22 (s : Ob) (v : Int32) : Fr s (si s 22 v) := ⟨fun _ _ _ _ => rfl, fun j hj => by
  show (if j = 22 then v else s.1 j) = s.1 j
  rw [if_neg (by omega)]⟩
theorem fr_21 (s : Ob) (f : Nat → Int32) : Fr s (sa s 21 f) := ⟨fun j _ h _ => by
  show (if j = 21 then f else s.2.2.1 j) = _
  rw [if_neg h], fun _ _ => rfl⟩
theorem searches_t (hR : RW a L s) (hP : MPm s) : Tot (f_X8_searches NN s) (fun z => Fr s z.2) := by
  unfold f_X8_searches f_X8_searches_2
  refine tlk2 (fun j v t => ∃ k, k + j = 16384 ∧ v = iN k ∧ Fr s t ∧ MPm t ∧ ∀ i, i < k → t.2.2.1 21 i = -1) (fun j v t hI self hs => ?_) NN 16384 _ _ (Nat.le_of_ble_eq_true rfl) ⟨0, rfl, rfl, fr_refl s, hP, fun i hi => absurd hi (Nat.not_lt_zero _)⟩
  obtain ⟨k, hk, rfl, hF, hP, hall⟩ := hI
  unfold F_X8_searches_2
  refine tt_ite (fun h => ?_) (fun h => ?_)
  · have hk2 : 16384 ≤ k := (iN_le (a := 16384) (by omega) (by omega)).mp h
    have hS0 : STm 0 (si t 22 (0 : Int32)) := ⟨by omega, rfl, fun k hk => absurd hk (Nat.not_lt_zero _), fun k p hk => absurd hk (Nat.not_lt_zero _), fun i hi => Or.inl (hall i (by omega)), by
      refine Nat.le_of_eq (sumN_zero fun i hi => ?_)
      exact if_pos (hall i (by omega))⟩
    refine tt_ob (adds_t hS0 (by omega) hP) (fun x1 h1 => ?_)
    obtain ⟨f1, f2, n', f3, f4, f5⟩ := h1
    have hF1 : Fr s x1 := fr_trans hF (fr_trans (fr_22 t 0) f1)
    unfold f_X8_searches_35
    refine tlk3 (fun j _ c t => ∃ k n, k + j = 4001 ∧ c = iN k ∧ Fr s t ∧ n ≤ 4000 ∧ STm n t) (fun j v c t hI self2 hs2 => ?_) NN 4001 _ _ _ (Nat.le_of_ble_eq_true rfl) ⟨0, n', rfl, rfl, hF1, by omega, f5⟩
    obtain ⟨k, n, hk, rfl, hF, hn, hS⟩ := hI
    unfold F_X8_searches_35
    rw [hS.2.1]
    refine tt_ite (fun _ => tt_some hF) (fun h => ?_)
    have hkn := nle (by omega) (by omega) h
    refine tt_ob (goes_t (rw_fr hR hF) hS hn hkn) (fun x2 h2 => ?_)
    obtain ⟨g1, m, g2, g3⟩ := h2
    have hF2 := fr_trans hF g1
    rw [g3.2.1]
    refine tt_ite (fun h => ?_) (fun _ => tt_some hF2)
    have hm : m ≤ 4000 := (iN_le (b := 4000) (by have := g3.1; omega) (by omega)).mp h
    obtain ⟨r, hr, er⟩ := g3.2.2.1 k g2
    refine tt_ob (unpacks_t g3 g2 hr er) (fun x3 h3 => tt_ob (mscore_t x3) (fun x4 _ => ?_))
    rw [inc1]
    exact hs2 (j - 1) _ _ _ (by omega) ⟨k + 1, m, by omega, rfl, fr_trans hF2 (pf_fr h3.1), hm, st_pf g3 h3.1⟩
  · have hk2 := nle (c := 16384) (by omega) (by omega) h
    rw [iN_clamp (by omega), inc1]
    refine tt_chk (iN_inb hk2 (by omega)) (hs (j - 1) _ _ (by omega) ⟨k + 1, by omega, rfl, fr_trans hF (fr_21 t _), hP, fun i hi => ?_⟩)
    show upd (t.2.2.1 21) k (-1 : Int32) i = -1
    rw [upd_at]
    by_cases c : i = k
    · rw [if_pos c]
    · rw [if_neg c]
      exact hall i (by omega)
theorem present_t (hR : RW a L s) : Tot (f_X8_makesPresent NN s) (fun s' => Pf s s' ∧ MPm s' ∧ (∀ p, p < 4 → pcL (s'.2.2.2 23 p) 0 ≤ 5) ∧ s'.1 25 = iN (a 7) ∧ s'.1 27 = iN (a 10)) := by
  have hw := hR.1
  have hw2 := hw
  obtain ⟨w0, w1, w2, w3, w4, w5, w6, w7, w8, w9, w10, w11, w12, w13, wP, wW, wK, wM, wT, wS, wH, -⟩ := hw2
  unfold f_X8_makesPresent f_X8_makesPresent_2
  refine tlk2 (fun j v t => ∃ p, p + j = 4 ∧ v = iN p ∧ Pf s t ∧ ∀ i, i < p → pcL (t.2.2.2 23 i) 0 ≤ 5) (fun j v t hI self hs => ?_) NN 4 _ _ (Nat.le_of_ble_eq_true rfl) ⟨0, rfl, rfl, pf_refl s, fun i hi => absurd hi (Nat.not_lt_zero _)⟩
  obtain ⟨p, hp, rfl, hF, hc⟩ := hI
  unfold F_X8_makesPresent_2
  refine tt_ite (fun h => ?_) (fun h => ?_)
  · have hp4 : 4 ≤ p := (iN_le (a := 4) (by omega) (by omega)).mp h
    unfold f_X8_makesPresent_61
    refine tlk2 (fun j v u => ∃ c, c + j = 4 ∧ v = iN c ∧ Pf s u ∧ (∀ i, i < 4 → pcL (u.2.2.2 23 i) 0 ≤ 5) ∧ ∀ i, i < c → ∃ v, v < 8 ∧ u.2.2.1 24 i = iN v) (fun j v u hI self2 hs2 => ?_) NN 4 _ _ (Nat.le_of_ble_eq_true rfl) ⟨0, rfl, rfl, hF, fun i hi => hc i (by omega), fun i hi => absurd hi (Nat.not_lt_zero _)⟩
    obtain ⟨c, hcc, rfl, hF2, hc2, hpl⟩ := hI
    have hRu := rw_pf hR hF2
    unfold F_X8_makesPresent_61
    refine tt_ite (fun h => ?_) (fun h => ?_)
    · have hc4 : 4 ≤ c := (iN_le (a := 4) (by omega) (by omega)).mp h
      have e7 := hRu.2.2.2.1 7 (by omega) (by omega)
      have e5 := hRu.2.2.2.1 5 (by omega) (by omega)
      have e10 := hRu.2.2.2.1 10 (by omega) (by omega)
      have e9 := hRu.2.2.2.2.1
      show Tot (some (si (si (si (si u 25 (u.2.2.1 0 7)) 26 (u.2.2.1 0 5)) 27 (u.2.2.1 0 10)) 28 (u.2.2.1 0 9))) _
      rw [e7, e5, e10, e9]
      exact tt_some ⟨pf_trans hF2 (pf_trans (pf_si _ _ (by omega)) (pf_trans (pf_si _ _ (by omega)) (pf_trans (pf_si _ _ (by omega)) (pf_si _ _ (by omega))))), ⟨fun i hi => Nat.le_succ_of_le (hc2 i hi), fun i hi => hpl i (by omega), a 7, a 5, a 10, a 9, by omega, by omega, hR.2.2.1, by omega, rfl, rfl, rfl, rfl⟩, hc2, rfl, rfl⟩
    · have h4 := nle (c := 4) (by omega) (by omega) h
      have e14 := hRu.2.2.2.1 (14 + c) (by omega) (by omega)
      rw [show (14 : Int32) + iN c = iN (14 + c) from iN_add 14 c, iN_clamp (k := 14 + c) (by omega), iN_clamp (k := c) (by omega), e14, inc1]
      refine tt_chk (iN_inb (by omega) (by omega)) (tt_chk (iN_inb h4 (by omega)) (hs2 (j - 1) _ _ (by omega) ⟨c + 1, by omega, rfl, pf_trans hF2 (pf_sa u _), hc2, fun i hi => ?_⟩))
      show ∃ v, v < 8 ∧ upd (u.2.2.1 24) c (iN (a (14 + c))) i = iN v
      rw [upd_at]
      by_cases z : i = c
      · rw [if_pos z]
        exact ⟨_, by have := (wP c h4).1; omega, rfl⟩
      · rw [if_neg z]
        exact hpl i (by omega)
  · have h4 := nle (c := 4) (by omega) (by omega) h
    have hs5 := (wS p h4).1
    refine tt_chk (iN_inb h4 (by omega)) ?_
    rw [iN_clamp (k := p) (by omega)]
    unfold f_X8_makesPresent_16
    refine tlk3 (fun i x v u => ∃ m, m + i = a (187 + p) ∧ x = iN p ∧ v = iN m ∧ Pf s u ∧ (∀ i, i < p → pcL (u.2.2.2 23 i) 0 ≤ 5) ∧ pcL (u.2.2.2 23 p) 0 ≤ m) (fun i x v u hI self2 hs2 => ?_) NN (a (187 + p)) _ _ _ (show a (187 + p) < 100000 by omega) ⟨0, by omega, rfl, rfl, pf_trans hF (pf_sb t _), fun i hi => ?_, ?_⟩
    rotate_left
    · show pcL (vp_updL (t.2.2.2 23) p (0 : Int64) i) 0 ≤ 5
      unfold vp_updL
      rw [if_neg (by omega)]
      exact hc i hi
    · show pcL (vp_updL (t.2.2.2 23) p (0 : Int64) p) 0 ≤ 0
      unfold vp_updL
      rw [if_pos rfl, pc_zero]
      exact Nat.le_refl _
    obtain ⟨m, hm, rfl, rfl, hF2, hc2, hcp⟩ := hI
    have hRu := rw_pf hR hF2
    have e187 := hRu.2.2.2.1 (187 + p) (by omega) (by omega)
    unfold F_X8_makesPresent_16
    rw [show (187 : Int32) + iN p = iN (187 + p) from iN_add 187 p, iN_clamp (k := 187 + p) (by omega), iN_clamp (k := p) (by omega), e187]
    refine tt_chk (iN_inb (by omega) (by omega)) (tt_ite (fun _ => ?_) (fun h => ?_))
    · rw [inc1]
      refine hs (j - 1) _ _ (by omega) ⟨p + 1, by omega, rfl, hF2, fun i hi => ?_⟩
      by_cases z : i = p
      · subst z
        omega
      · exact hc2 i (by omega)
    · have hmm := nle (by omega) (by omega) h
      have hx := wH p m h4 hmm
      rw [he_eq hw hRu.2.2.2 h4 hmm, ob_some, inc1]
      refine tt_chk (iN_inb h4 (by omega)) ?_
      show Tot (chk _ _) _
      refine tt_chk (iN_inb h4 (by omega)) (hs2 (i - 1) _ _ _ (by omega) ⟨m + 1, by omega, rfl, rfl, pf_trans hF2 (pf_sb u _), fun q hq => ?_, ?_⟩)
      · show pcL (vp_updL (u.2.2.2 23) p _ q) 0 ≤ 5
        unfold vp_updL
        rw [if_neg (by omega)]
        exact hc2 q hq
      · show pcL (vp_updL (u.2.2.2 23) p _ p) 0 ≤ m + 1
        unfold vp_updL
        rw [if_pos rfl]
        have := pc_set (u.2.2.2 23 p) (n := a (191 + (5 * p + m))) (by omega)
        omega
theorem rw_of (ho : okG a) (he : endOf a = 0) (hr : encR a L (s.2.2.1 0)) : RW a L s := by
  have h2 : a 2 ≠ 0 := fun h => by
    unfold endOf at he
    rw [if_pos h] at he
    omega
  have h3 := ho.1.2.2.2.2.2.2.2.2.2.2.1
  have h4 := ho.1.2.2.1
  exact ⟨ho.1, (ho.2.2.2.1 h2).1, by rcases h3 with h3 | h3 <;> omega, hr⟩
theorem vnow_t (ho : okG a) (hr : encR a L (s.2.2.1 0)) : Tot (f_X8_valueNow NN s) (fun z => Fr s z.2) := by
  have e : f_X8_isOver NN (si s 22 (1 : Int32)) = some (if endOf a = 0 then 0 else 1) := isOver_eq (s := si s 22 1) ho hr
  unfold f_X8_valueNow
  rw [e, ob_some]
  by_cases he : endOf a = 0
  · rw [if_pos he, if_pos rfl]
    have hR : RW a L (si s 22 (1 : Int32)) := rw_of ho he hr
    exact tt_ob (present_t hR) (fun x2 h2 => tt_ob (searches_t (rw_pf hR h2.1) h2.2.1) (fun x3 h3 => tt_some (fr_trans (fr_22 s 1) (fr_trans (pf_fr h2.1) h3))))
  · rw [if_neg he, if_neg (by decide)]
    exact tt_ob (P := Ya) ⟨_, X8_score_eq _, trivial⟩ (fun x4 _ => tt_some (fr_22 s 1))
theorem vwith_t (hR : RW a L s) {k : Nat} (hk : k < 4) (p2 : Int32) : Tot (f_X8_valueWith NN s (iN k) p2) (fun z => Fr s z.2) := by
  unfold f_X8_valueWith
  refine tt_ob (present_t hR) (fun x1 h1 => ?_)
  obtain ⟨f1, f2, f3, f4, f5⟩ := h1
  have hRx := rw_pf hR f1
  have ht := hR.2.2.1
  have hs5 := (hR.1.2.2.2.2.2.2.2.2.2.2.2.2.2.2.2.2.2.2.2.1 _ ht).1
  have e187 := hRx.2.2.2.1 (187 + a 10) (by omega) (by omega)
  have h119n : ∀ c, Tot (f_X8_valueWith_119 NN (iN k) p2 c (0 : Int32) x1) (fun z => Fr s z.2) := fun c => by
    unfold f_X8_valueWith_119
    rw [if_pos rfl]
    exact tt_some (pf_fr f1)
  have h119 : ∀ c b, (iN k = 2 → ∃ t, 1 ≤ t ∧ t < 16 ∧ x1.1 25 = iN t) → (¬ (2 : Int32) ≤ iN k → ∃ cn, cn < 40 ∧ c = iN cn ∧ (iN k = 0 → x1.2.2.1 24 (a (27 + cn) / 5) = iN (a (27 + cn) % 5))) → Tot (f_X8_valueWith_119 NN (iN k) p2 c b x1) (fun z => Fr s z.2) := fun c b q2 q01 => by
    unfold f_X8_valueWith_119
    refine tt_ite (fun _ => tt_some (pf_fr f1)) (fun _ => tt_ob (moves_t hRx f2 c q2 (fun h => ?_)) (fun x6 h6 => tt_ob (searches_t (rw_pf hRx h6.1) h6.2) (fun x7 h7 => tt_some (fr_trans (pf_fr f1) (fr_trans (pf_fr h6.1) h7)))))
    obtain ⟨cn, c1, c2, c3⟩ := q01 h
    refine ⟨cn, c1, c2, fun u hu _ => ?_, c3⟩
    have e1 := pc_clr (x1.2.2.2 23 u) (n := cn) (by omega)
    have e2 := f3 u hu
    omega
  have h42 : ∀ (v3 t0 : Int32), (v3 = 0 ∨ ∃ cn, cn < 40 ∧ t0 = iN cn) → Tot (f_X8_valueWith_42 NN (iN k) p2 v3 t0 x1) (fun z => Fr s z.2) := fun v3 t0 hv => by
    unfold f_X8_valueWith_42
    rcases (show k = 0 ∨ k = 1 ∨ k = 2 ∨ k = 3 by omega) with rfl | rfl | rfl | rfl
    · rw [if_pos (show iN 0 = 0 from rfl)]
      refine tt_ite (fun _ => h119n _) (fun hne => ?_)
      rcases hv with hv | ⟨cn, hcn, rfl⟩
      · exact absurd hv hne
      · exact tt_ob (mcan_t hRx f2 hcn) (fun x8 h8 => tt_ite (fun _ => h119n _) (fun hn => h119 _ _ (fun e => absurd e (by decide)) (fun _ => ⟨cn, hcn, rfl, fun _ => h8 hn⟩)))
    · rw [if_neg (show ¬ iN 1 = 0 by decide), if_pos (show iN 1 = 1 from rfl)]
      rcases hv with rfl | ⟨cn, hcn, rfl⟩
      · exact h119n _
      · exact h119 _ _ (fun e => absurd e (by decide)) (fun _ => ⟨cn, hcn, rfl, fun e => absurd e (by decide)⟩)
    · rw [if_neg (show ¬ iN 2 = 0 by decide), if_neg (show ¬ iN 2 = 1 by decide), if_pos (show iN 2 = 2 from rfl)]
      refine tt_ite (fun _ => h119n _) (fun hn => h119 _ _ (fun _ => ?_) (fun e => absurd (show (2 : Int32) ≤ iN 2 by decide) e))
      rw [f4] at hn ⊢
      have h7 := hR.1.2.2.2.2.2.2.2.1
      have h6 := hR.1.2.2.2.2.2.2.1
      refine ⟨a 7, ?_, by omega, rfl⟩
      rcases Nat.eq_zero_or_pos (a 7) with z | z
      · rw [z] at hn
        exact absurd (show iN 0 ≤ 0 by decide) hn
      · exact z
    · rw [if_neg (show ¬ iN 3 = 0 by decide), if_neg (show ¬ iN 3 = 1 by decide), if_neg (show ¬ iN 3 = 2 by decide), f5, show (187 : Int32) + iN (a 10) = iN (187 + a 10) from iN_add 187 _]
      have h3 : ∀ b, Tot (f_X8_valueWith_119 NN (iN 3) p2 t0 b x1) (fun z => Fr s z.2) := fun b => h119 _ _ (fun e => absurd e (by decide)) (fun e => absurd (show (2 : Int32) ≤ iN 3 by decide) e)
      exact tt_chk (iN_inb (by omega) (by omega)) (tt_ite (fun _ => h3 _) (fun _ => h3 _))
  rw [f5, show (187 : Int32) + iN (a 10) = iN (187 + a 10) from iN_add 187 _, iN_clamp (k := 187 + a 10) (by omega), e187]
  refine tt_chk (iN_inb (by omega) (by omega)) ?_
  show Tot (ob (f_X8_in NN p2 (0 : Int32) (iN (a (187 + a 10)) - 1)) _) _
  rcases idx2 p2 (a (187 + a 10)) with hc | ⟨m, -, hm, rfl⟩
  · rw [X8_in_no (by omega) hc, ob_some, if_pos rfl]
    exact h42 _ _ (Or.inl rfl)
  · rw [X8_in_yes (by omega) hm, ob_some, if_neg (by decide), he_eq hR.1 hRx.2.2.2 ht hm, ob_some]
    refine h42 _ _ (Or.inr ⟨_, ?_, rfl⟩)
    have := hR.1.2.2.2.2.2.2.2.2.2.2.2.2.2.2.2.2.2.2.2.2.1 _ _ ht hm
    have h5 := hR.1.2.2.2.2.2.1
    have h4 := hR.1.2.2.2.2.1
    omega
theorem vbehind_t (ho : okG a) (hr : encR a L (s.2.2.1 0)) (p1 p2 : Int32) : Tot (f_X8_valueBehind NN s p1 p2) (fun z => ∃ v, Fr (si s 7 v) z.2) := by
  unfold f_X8_valueBehind
  rcases idx2 p1 4 with hc | ⟨k, -, hk, rfl⟩
  · rw [show f_X8_in NN p1 0 3 = some 0 from X8_in_no (n := 4) (by omega) hc, ob_some, X8_isThrown_0, ob_some, if_neg (show ¬ ((1 : Int32) = 0) by decide)]
    exact tt_some ⟨1, fr_refl _⟩
  · rw [show f_X8_in NN (iN k) 0 3 = some 1 from X8_in_yes (n := 4) (by omega) hk, ob_some, X8_isThrown_1, ob_some, if_pos rfl, isOver_eq (s := si s 7 0) ho hr, ob_some]
    by_cases he : endOf a = 0
    · rw [if_pos he, if_pos rfl]
      exact tt_ob (vwith_t (s := si s 7 0) (rw_of ho he hr) hk p2) (fun x4 h4 => tt_some ⟨0, h4⟩)
    · rw [if_neg he, if_neg (by decide)]
      exact tt_some ⟨0, fr_refl _⟩
theorem mbest_t (ho : okG a) (hr : encR a L (s.2.2.1 0)) (p1 : Int32) : Tot (f_X8_bestMove NN s p1) (fun z => ∃ v, Fr (si s 7 v) z.2) := by
  unfold f_X8_bestMove
  rcases idx2 p1 2 with hc | ⟨k, -, hk, rfl⟩
  · rw [show f_X8_in NN p1 0 1 = some 0 from X8_in_no (n := 2) (by omega) hc, ob_some, X8_isThrown_0, ob_some, if_neg (show ¬ ((1 : Int32) = 0) by decide)]
    exact tt_some ⟨1, fr_refl _⟩
  · rw [show f_X8_in NN (iN k) 0 1 = some 1 from X8_in_yes (n := 2) (by omega) hk, ob_some, X8_isThrown_1, ob_some, if_pos rfl, isOver_eq (s := si s 7 0) ho hr, ob_some]
    by_cases he : endOf a = 0
    · rw [if_pos he, if_pos rfl]
      have hR : RW a L (si s 7 0) := rw_of ho he hr
      refine tt_ob (vnow_t (s := si s 7 0) ho hr) (fun x4 h4 => tt_ite (fun _ => tt_some ⟨0, h4⟩) (fun _ => ?_))
      unfold f_X8_bestMove_42
      refine tlk3 (fun j _ v t => Cn 4 j v ∧ Fr (si s 7 0) t) (fun j b v t hI self hs => ?_) NN 4 _ _ _ (Nat.le_of_ble_eq_true rfl) ⟨cn_0 4, h4⟩
      obtain ⟨⟨q, hq, rfl⟩, hF⟩ := hI
      have hRt := rw_fr hR hF
      have ht := hR.2.2.1
      have hs5 := (hR.1.2.2.2.2.2.2.2.2.2.2.2.2.2.2.2.2.2.2.2.1 _ ht).1
      have e10 := hRt.2.2.2.1 10 (by omega) (by omega)
      have e187 := hRt.2.2.2.1 (187 + a 10) (by omega) (by omega)
      unfold F_X8_bestMove_42
      refine tt_ite (fun _ => tt_some ⟨0, hF⟩) (fun h => ?_)
      have hq4 : q < 4 := by
        rcases Nat.lt_or_ge 3 q with z | z
        · exact absurd ((iN_lt (a := 3) (by omega) (by omega)).mpr z) h
        · omega
      have h77 : ∀ (b : Int32) (M : Nat), M ≤ 5 → Tot (f_X8_bestMove_77 NN (iN k) self NN b (iN q) (iN M) (0 : Int32) t) (fun z => ∃ v, Fr (si s 7 v) z.2) := fun b M hM => by
        unfold f_X8_bestMove_77
        refine tlk5 (fun i _ x w c u => x = iN q ∧ w = iN M ∧ Cn 5 i c ∧ Fr (si s 7 0) u) (fun i b x w c u hI self2 hs2 => ?_) NN 5 _ _ _ _ _ (Nat.le_of_ble_eq_true rfl) ⟨rfl, rfl, cn_0 5, hF⟩
        obtain ⟨rfl, rfl, ⟨m, hm, rfl⟩, hF2⟩ := hI
        unfold F_X8_bestMove_77
        rw [inc1, inc1]
        refine tt_ite (fun _ => hs (j - 1) _ _ _ (by omega) ⟨⟨q + 1, by omega, rfl⟩, hF2⟩) (fun h5 => ?_)
        have h6 := nle (by omega) (by omega) h5
        refine tt_ob (vwith_t (rw_fr hR hF2) hq4 _) (fun x5 h7 => ?_)
        have hF3 := fr_trans hF2 h7
        exact tt_ite (fun _ => tt_ite (fun _ => tt_some ⟨0, hF3⟩) (fun _ => tt_ite (fun _ => tt_some ⟨0, hF3⟩) (fun _ => tt_some ⟨0, hF3⟩))) (fun _ => hs2 (i - 1) _ _ _ _ _ (by omega) ⟨rfl, rfl, ⟨m + 1, by omega, rfl⟩, hF3⟩)
      refine tt_ite (fun _ => h77 _ 1 (by omega)) (fun _ => ?_)
      rw [e10, show (187 : Int32) + iN (a 10) = iN (187 + a 10) from iN_add 187 _, iN_clamp (k := 187 + a 10) (by omega), e187]
      exact tt_chk (iN_inb (by omega) (by omega)) (h77 _ _ hs5)
    · rw [if_neg he, if_neg (by decide)]
      exact tt_some ⟨0, fr_refl _⟩
end SEA
