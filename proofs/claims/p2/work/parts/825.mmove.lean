/-! OWN: the search of the model comes to its end: taking apart, moves, the whole -/
theorem dm8 {v : Nat} (h : v < 2 ^ 31) (d : Nat) (hd : d < 2 ^ 31) : iN v / iN d = iN (v / d) := iN_div h hd
theorem md8 {v : Nat} (h : v < 2 ^ 31) (d : Nat) (hd : d < 2 ^ 31) : iN v - iN v / iN d * iN d = iN (v % d) := by
  rw [iN_div h hd, iN_mul, iN_sub (Nat.div_mul_le_self v d)]
  congr 1
  have := Nat.div_add_mod v d
  rw [Nat.mul_comm] at this
  omega
theorem unpacks_t {s : Ob} {n k r : Nat} (hS : STm n s) (hk : k < n) (hr : r < 117440512) (er : s.2.2.1 20 k = iN r) : Tot (f_X8_unpacks NN s (iN k)) (fun s' => Pf s s' ∧ MPm s' ∧ (∀ p, p < 4 → s'.2.2.2 23 p = s.2.2.2 19 (4 * k + p)) ∧ s'.1 27 = iN (r / 4194304 % 4)) := by
  have hn := hS.1
  have h4 := hS.2.2.2.1
  unfold f_X8_unpacks
  rw [iN_clamp (by omega), er]
  refine tt_chk (iN_inb (by omega) (by omega)) ?_
  unfold f_X8_unpacks_9
  refine tlk3 (fun j v c s' => (∃ q, q < 4 ∧ j = q + 1 ∧ c = iN q ∧ v = iN (r / 8 ^ (3 - q)) ∧ Pf s s' ∧ ∀ i, q < i → i < 4 → ∃ w, w < 8 ∧ s'.2.2.1 24 i = iN w) ∨ (j = 0 ∧ c = -1 ∧ v = iN (r / 4096) ∧ Pf s s' ∧ ∀ i, i < 4 → ∃ w, w < 8 ∧ s'.2.2.1 24 i = iN w)) (fun j v c s' hI self hs => ?_) NN 4 _ _ _ (Nat.le_of_ble_eq_true rfl) (Or.inl ⟨3, by omega, rfl, rfl, by rw [show r / 8 ^ (3 - 3) = r from Nat.div_one r], pf_refl s, fun i h1 h2 => by omega⟩)
  rcases hI with ⟨q, hq, rfl, rfl, rfl, hpf, hw⟩ | ⟨rfl, rfl, rfl, hpf, hw⟩
  · unfold F_X8_unpacks_9
    have hb : r / 8 ^ (3 - q) ≤ r := Nat.div_le_self _ _
    rw [if_neg (iN_not_neg q (by omega))]
    refine tt_chk (iN_inb hq (by omega)) ?_
    rw [iN_clamp (k := q) (by omega), show iN (r / 8 ^ (3 - q)) - iN (r / 8 ^ (3 - q)) / (8 : Int32) * (8 : Int32) = iN (r / 8 ^ (3 - q) % 8) from md8 (by omega) 8 (by omega), show iN (r / 8 ^ (3 - q)) / (8 : Int32) = iN (r / 8 ^ (3 - q) / 8) from dm8 (by omega) 8 (by omega)]
    have hw2 : ∀ i, q - 1 < i ∨ q = 0 → i < 4 → q ≤ i → ∃ w, w < 8 ∧ upd (s'.2.2.1 24) q (iN (r / 8 ^ (3 - q) % 8)) i = iN w := fun i _ hi hqi => by
      rw [upd_at]
      by_cases c : i = q
      · rw [if_pos c]
        exact ⟨_, Nat.mod_lt _ (by omega), rfl⟩
      · rw [if_neg c]
        exact hw i (by omega) hi
    have hpf2 := pf_trans hpf (pf_sa s' (upd (s'.2.2.1 24) q (iN (r / 8 ^ (3 - q) % 8))))
    rcases (show q = 0 ∨ q = 1 ∨ q = 2 ∨ q = 3 by omega) with rfl | rfl | rfl | rfl
    · refine hs 0 _ _ _ (by omega) (Or.inr ⟨rfl, by decide, ?_, hpf2, fun i hi => hw2 i (Or.inr rfl) hi (by omega)⟩)
      rw [Nat.div_div_eq_div_mul]
    · refine hs 1 _ _ _ (by omega) (Or.inl ⟨0, by omega, rfl, by decide, ?_, hpf2, fun i hi hi4 => hw2 i (Or.inl (by omega)) hi4 (by omega)⟩)
      rw [Nat.div_div_eq_div_mul]
    · refine hs 2 _ _ _ (by omega) (Or.inl ⟨1, by omega, rfl, by decide, ?_, hpf2, fun i hi hi4 => hw2 i (Or.inl (by omega)) hi4 (by omega)⟩)
      rw [Nat.div_div_eq_div_mul]
    · refine hs 3 _ _ _ (by omega) (Or.inl ⟨2, by omega, rfl, by decide, ?_, hpf2, fun i hi hi4 => hw2 i (Or.inl (by omega)) hi4 (by omega)⟩)
      rw [Nat.div_div_eq_div_mul]
  · unfold F_X8_unpacks_9
    rw [if_pos (by decide)]
    have hb : r / 4096 < 28672 := by omega
    have e1 : iN (r / 4096) / (16 : Int32) - iN (r / 4096) / (16 : Int32) / (64 : Int32) * (64 : Int32) = iN (r / 4096 / 16 % 64) := by
      rw [show iN (r / 4096) / (16 : Int32) = iN (r / 4096 / 16) from dm8 (by omega) 16 (by omega)]
      exact md8 (by omega) 64 (by omega)
    have e2 : iN (r / 4096) - iN (r / 4096) / (16 : Int32) * (16 : Int32) = iN (r / 4096 % 16) := md8 (by omega) 16 (by omega)
    have e3 : iN (r / 4096) / (1024 : Int32) - iN (r / 4096) / (1024 : Int32) / (4 : Int32) * (4 : Int32) = iN (r / 4096 / 1024 % 4) := by
      rw [show iN (r / 4096) / (1024 : Int32) = iN (r / 4096 / 1024) from dm8 (by omega) 1024 (by omega)]
      exact md8 (by omega) 4 (by omega)
    have e4 : iN (r / 4096) / (4096 : Int32) = iN (r / 4096 / 4096) := dm8 (by omega) 4096 (by omega)
    rw [e1, e2, e3, e4]
    show Tot (f_X8_unpacks_77 NN (iN k) NN (0 : Int32) (si (si (si (si s' 25 (iN (r / 4096 % 16))) 26 (iN (r / 4096 / 16 % 64))) 27 (iN (r / 4096 / 1024 % 4))) 28 (iN (r / 4096 / 4096) - 1))) _
    have hpf3 : Pf s (si (si (si (si s' 25 (iN (r / 4096 % 16))) 26 (iN (r / 4096 / 16 % 64))) 27 (iN (r / 4096 / 1024 % 4))) 28 (iN (r / 4096 / 4096) - 1)) := pf_trans hpf (pf_trans (pf_si _ _ (by omega)) (pf_trans (pf_si _ _ (by omega)) (pf_trans (pf_si _ _ (by omega)) (pf_si _ _ (by omega)))))
    unfold f_X8_unpacks_77
    refine tlk2 (fun j v t => ∃ q, q + j = 4 ∧ v = iN q ∧ Pf s t ∧ t.2.2.1 24 = s'.2.2.1 24 ∧ t.1 25 = iN (r / 4096 % 16) ∧ t.1 26 = iN (r / 4096 / 16 % 64) ∧ t.1 27 = iN (r / 4096 / 1024 % 4) ∧ t.1 28 = iN (r / 4096 / 4096) - 1 ∧ ∀ p, p < q → t.2.2.2 23 p = s.2.2.2 19 (4 * k + p)) (fun j v t hI self2 hs2 => ?_) NN 4 _ _ (Nat.le_of_ble_eq_true rfl) ⟨0, rfl, rfl, hpf3, rfl, rfl, rfl, rfl, rfl, fun p hp => absurd hp (Nat.not_lt_zero _)⟩
    obtain ⟨q, hq, rfl, hpt, t24, t25, t26, t27, t28, hh⟩ := hI
    unfold F_X8_unpacks_77
    refine tt_ite (fun h => tt_some ?_) (fun h => ?_)
    · have h4' : 4 ≤ q := (iN_le (a := 4) (by omega) (by omega)).mp h
      have : q = 4 := by omega
      subst this
      refine ⟨hpt, ⟨fun p hp => ?_, fun c hc => ?_, r / 4096 % 16, r / 4096 / 16 % 64, r / 4096 / 1024 % 4, r / 4096 / 4096, Nat.mod_lt _ (by omega), Nat.mod_lt _ (by omega), Nat.mod_lt _ (by omega), by omega, t25, t26, t27, t28⟩, hh, ?_⟩
      · rw [hh p hp]
        exact h4 k p hk hp
      · rw [t24]
        exact hw c hc
      · rw [t27]
        congr 1
        omega
    · have h5 := nle (c := 4) (by omega) (by omega) h
      have e : (4 : Int32) * iN k + iN q = iN (4 * k + q) := by
        show iN 4 * iN k + iN q = _
        rw [iN_mul, iN_add]
      rw [e, iN_clamp (k := 4 * k + q) (by omega), iN_clamp (k := q) (by omega)]
      refine tt_chk (iN_inb (by omega) (by omega)) (tt_chk (iN_inb h5 (by omega)) (hs2 (j - 1) _ _ (by omega) ⟨q + 1, by omega, inc1 q, pf_trans hpt (pf_sb t _), t24, t25, t26, t27, t28, fun p hp => ?_⟩))
      show vp_updL (t.2.2.2 23) q (t.2.2.2 19 (4 * k + q)) p = _
      unfold vp_updL
      by_cases c : p = q
      · rw [if_pos c, hpt.2.1 19 (by omega), c]
      · rw [if_neg c]
        exact hh p (by omega)
section MOV
variable {a : Gm} {L : Nat → Int32} {s : Ob}
theorem mcan_t (hR : RW a L s) (hP : MPm s) {c : Nat} (hc : c < 40) : Tot (f_X8_canPlay NN s (iN c)) (fun x => ¬ x = 0 → s.2.2.1 24 (a (27 + c) / 5) = iN (a (27 + c) % 5)) := by
  have hq := hR.1.2.2.2.2.2.2.2.2.2.2.2.2.2.2.2.2.1 c hc
  have er := hR.2.2.2.1 (27 + c) (by omega) (by omega)
  generalize a (27 + c) = q at hq er ⊢
  obtain ⟨v, hv, ev⟩ := hP.2.1 (q / 5) (by omega)
  unfold f_X8_canPlay
  rw [show (27 : Int32) + iN c = iN (27 + c) from iN_add 27 c, iN_clamp (k := 27 + c) (by omega), er]
  refine tt_chk (iN_inb (by omega) (by omega)) ?_
  unfold f_X8_rankOf f_X8_colorOf
  rw [show iN q - iN q / (5 : Int32) * (5 : Int32) = iN (q % 5) from md8 (by omega) 5 (by omega), (kind4 hq).1, ob_some, ob_some, iN_clamp (by omega), ev]
  refine tt_chk (iN_inb (by omega) (by omega)) (tt_ite (fun h => tt_some (fun _ => ?_)) (fun _ => tt_some (fun h => absurd rfl h)))
  rw [inc1, inc1] at h
  have := (iN_inj (by omega) (by omega)).mp h
  congr 1
  omega
theorem m212_t (hR : RW a L s) (hP : MPm s) (k c : Int32) : Tot (f_X8_moves_212 NN k c s) (fun s' => Pf s s' ∧ MPm s') := by
  obtain ⟨hp1, hp2, t, n, u, l, ht, hn, hu, hl, e5, e6, e7, e8⟩ := hP
  have h2 := hR.2.1
  have h4 := hR.1.2.2.1
  have er := hR.2.2.2.1 2 (by omega) (by omega)
  unfold f_X8_moves_212
  rw [er, e7, inc1]
  refine tt_chk (decide_eq_true fun h => ?_) ?_
  · have := (iN_inj (a := a 2) (b := 0) (by omega) (by omega)).mp h
    omega
  · rw [md8 (by omega) (a 2) (by omega)]
    exact tt_some ⟨pf_si _ _ (by omega), hp1, hp2, t, n, (u + 1) % a 2, l, ht, hn, by have := Nat.mod_lt (u + 1) (show a 2 > 0 by omega); omega, hl, e5, e6, rfl, e8⟩
theorem rw_pf {t : Ob} (h : RW a L s) (g : Pf s t) : RW a L t := rw_fr h (pf_fr g)
theorem m160_t (hR : RW a L s) (hP : MPm s) (k c v3 : Int32) {t1 t2 : Int32} {w : Nat} (hw : w < 16) (e : t1 - t2 = iN w) : Tot (f_X8_moves_160 NN k c v3 t1 t2 s) (fun s' => Pf s s' ∧ MPm s') := by
  have er2 := hR.2.2.2.1 2 (by omega) (by omega)
  have h4 := hR.1.2.2.1
  have hgo : ∀ (x : Int32) (l : Nat), l < 7 → x = iN l - 1 → Tot (f_X8_moves_212 NN k c (si (si s 25 (iN w)) 28 x)) (fun s' => Pf s s' ∧ MPm s') := fun x l hl ex => by
    subst ex
    have g : Pf s (si (si s 25 (iN w)) 28 (iN l - 1)) := pf_trans (pf_si _ _ (by omega)) (pf_si _ _ (by omega))
    obtain ⟨hp1, hp2, t, n, u, l', ht, hn, hu, -, e5, e6, e7, e8⟩ := hP
    exact tt_mono (m212_t (rw_pf hR g) ⟨hp1, hp2, w, n, u, l, hw, hn, hu, hl, rfl, e6, e7, rfl⟩ k c) fun s' h => ⟨pf_trans g h.1, h.2⟩
  have hgo2 : Tot (f_X8_moves_212 NN k c (si s 25 (iN w))) (fun s' => Pf s s' ∧ MPm s') := by
    have g : Pf s (si s 25 (iN w)) := pf_si _ _ (by omega)
    obtain ⟨hp1, hp2, t, n, u, l', ht, hn, hu, hl, e5, e6, e7, e8⟩ := hP
    exact tt_mono (m212_t (rw_pf hR g) ⟨hp1, hp2, w, n, u, l', hw, hn, hu, hl, rfl, e6, e7, e8⟩ k c) fun s' h => ⟨pf_trans g h.1, h.2⟩
  unfold f_X8_moves_160
  rw [e]
  refine tt_ite (fun _ => tt_ite (fun _ => hgo2) (fun _ => tt_ite (fun _ => ?_) (fun _ => hgo2))) (fun hne => ?_)
  · show Tot (f_X8_moves_212 NN k c (si (si s 25 (iN w)) 28 (s.2.2.1 0 2))) _
    rw [er2]
    exact hgo _ (a 2 + 1) (by omega) (by rw [← inc1, Int32.add_sub_cancel])
  · show Tot (f_X8_moves_212 NN k c (si (si s 25 (iN w)) 28 (s.1 28 - 1))) _
    obtain ⟨l, hl, e8⟩ : ∃ l, l < 7 ∧ s.1 28 = iN l - 1 := by
      obtain ⟨-, -, t, n, u, l', ht, hn, hu, hl, e5, e6, e7, e8⟩ := hP
      exact ⟨l', hl, e8⟩
    rw [e8] at hne ⊢
    have hl0 : l ≠ 0 := fun h => hne (by subst h; decide)
    exact hgo _ (l - 1) (by omega) (by rw [show iN l - 1 = iN (l - 1) from iN_sub (b := 1) (by omega)])
theorem m145_t (hR : RW a L s) (hP : MPm s) (k c v3 : Int32) (hk : k = 2 → ∃ t, 1 ≤ t ∧ t < 16 ∧ s.1 25 = iN t) : Tot (f_X8_moves_145 NN k c v3 s) (fun s' => Pf s s' ∧ MPm s') := by
  unfold f_X8_moves_145
  refine tt_ite (fun h => ?_) (fun _ => ?_)
  · obtain ⟨t, h1, ht, e⟩ := hk h
    exact m160_t hR hP k c v3 (w := t - 1) (by omega) (by rw [e]; exact iN_sub (b := 1) h1)
  · obtain ⟨t, ht, e⟩ : ∃ t, t < 16 ∧ s.1 25 = iN t := by
      obtain ⟨-, -, t, n, u, l', ht, hn, hu, hl, e5, e6, e7, e8⟩ := hP
      exact ⟨t, ht, e5⟩
    exact m160_t hR hP k c v3 (w := t) ht (by rw [e]; exact iN_sub (b := 0) (Nat.zero_le _))
/-- the hand of the player at turn has room for one card more -/
def G5 (s : Ob) : Prop := MPm s ∧ ∀ u, u < 4 → s.1 27 = iN u → pcL (s.2.2.2 23 u) 0 ≤ 5
theorem m94_t (hR : RW a L s) (hG : G5 s) {k : Int32} (c : Int32) (hk : ¬ k = 2) : Tot (f_X8_moves_94 NN k c s) (fun s' => Pf s s' ∧ MPm s') := by
  have er := hR.2.2.2.1 4 (by omega) (by omega)
  have h40 := hR.1.2.2.2.2.1
  obtain ⟨hP, h5⟩ := hG
  have hP2 := hP
  obtain ⟨hp1, hp2, t, n, u, l, ht, hn, hu, hl, e5, e6, e7, e8⟩ := hP
  unfold f_X8_moves_94
  rw [er, e6]
  refine tt_ite (fun _ => ?_) (fun h => ?_)
  · unfold f_X8_moves_112
    rw [if_pos rfl]
    exact m145_t hR hP2 k c _ (fun q => absurd q hk)
  · have hn4 := nle (by omega) (by omega) h
    unfold f_X8_moves_112
    rw [if_neg (by decide), e7, e6, inc1, iN_clamp (by omega)]
    have hin := iN_inb hu (n := 4) (by omega)
    refine tt_chk hin ?_
    show Tot (chk _ (f_X8_moves_145 NN k c _ (si (sb s 23 (vp_updL (s.2.2.2 23) u (s.2.2.2 23 u ||| ((1 : Int64) <<< ((iN n).toInt64 &&& 63))))) 26 (iN (n + 1))))) _
    refine tt_chk hin ?_
    have g : Pf s (si (sb s 23 (vp_updL (s.2.2.2 23) u (s.2.2.2 23 u ||| ((1 : Int64) <<< ((iN n).toInt64 &&& 63))))) 26 (iN (n + 1))) := pf_trans (pf_sb s _) (pf_si _ _ (by omega))
    refine tt_mono (m145_t (rw_pf hR g) ⟨fun p hp => ?_, hp2, t, n + 1, u, l, ht, by omega, hu, hl, e5, rfl, e7, e8⟩ k c _ (fun q => absurd q hk)) fun s' h => ⟨pf_trans g h.1, h.2⟩
    show pcL (vp_updL (s.2.2.2 23) u _ p) 0 ≤ 6
    unfold vp_updL
    by_cases q : p = u
    · rw [if_pos q]
      have h1 := pc_set (s.2.2.2 23 u) (n := n) (by omega)
      have h2 := h5 u hu e7
      omega
    · rw [if_neg q]
      exact hp1 p hp
theorem g5_pf {s' : Ob} (hG : G5 s) (h23 : s'.2.2.2 23 = s.2.2.2 23) (h27 : s'.1 27 = s.1 27) (hP : MPm s') : G5 s' := ⟨hP, fun u hu e => by rw [h23]; exact hG.2 u hu (by rw [← h27]; exact e)⟩
theorem m74_t (hR : RW a L s) (hG : G5 s) {k : Int32} (c : Int32) (hk : ¬ k = 2) : Tot (f_X8_moves_74 NN k c s) (fun s' => Pf s s' ∧ MPm s') := by
  have er := hR.2.2.2.1 6 (by omega) (by omega)
  have h9 := hR.1.2.2.2.2.2.2.1
  have hG2 := hG
  obtain ⟨⟨hp1, hp2, t, n, u, l, ht, hn, hu, hl, e5, e6, e7, e8⟩, -⟩ := hG
  have key : ∀ (x : Int32) (w : Nat), w < 16 → x = iN w → Tot (f_X8_moves_94 NN k c (si s 25 x)) (fun s' => Pf s s' ∧ MPm s') := fun x w hw ex => by
    subst ex
    have g : Pf s (si s 25 (iN w)) := pf_si _ _ (by omega)
    exact tt_mono (m94_t (rw_pf hR g) (g5_pf hG2 rfl rfl ⟨hp1, hp2, w, n, u, l, hw, hn, hu, hl, rfl, e6, e7, e8⟩) c hk) fun s' h => ⟨pf_trans g h.1, h.2⟩
  unfold f_X8_moves_74
  rw [er, e5, inc1, znm_eq]
  by_cases h : iN (t + 1) < iN (a 6)
  · rw [if_pos h]
    have := (iN_lt (by omega) (by omega)).mp h
    exact key _ (t + 1) (by omega) rfl
  · rw [if_neg h]
    exact key _ (a 6) (by omega) rfl
theorem m55_t (hR : RW a L s) (hG : G5 s) {k : Int32} (c v : Int32) (hk : ¬ k = 2) : Tot (f_X8_moves_55 NN k c v s) (fun s' => Pf s s' ∧ MPm s') := by
  unfold f_X8_moves_55
  exact tt_ite (fun _ => m74_t hR hG c hk) (fun _ => tt_ob (P := Ya) ⟨_, rfl, trivial⟩ (fun x _ => tt_ite (fun _ => m74_t hR hG c hk) (fun _ => m94_t hR hG c hk)))
/-- a move -/
theorem moves_t (hR : RW a L s) (hP : MPm s) {k : Int32} (c : Int32) (h2 : k = 2 → ∃ t, 1 ≤ t ∧ t < 16 ∧ s.1 25 = iN t) (h01 : ¬ (2 : Int32) ≤ k → ∃ cn, cn < 40 ∧ c = iN cn ∧ (∀ u, u < 4 → s.1 27 = iN u → pcL (s.2.2.2 23 u &&& (((1 : Int64) <<< ((iN cn).toInt64 &&& 63)) ^^^ (-1 : Int64))) 0 ≤ 5) ∧ (k = 0 → s.2.2.1 24 (a (27 + cn) / 5) = iN (a (27 + cn) % 5))) : Tot (f_X8_moves NN s k c) (fun s' => Pf s s' ∧ MPm s') := by
  have hP2 := hP
  obtain ⟨hp1, hp2, t, n, u, l, ht, hn, hu, hl, e5, e6, e7, e8⟩ := hP
  unfold f_X8_moves
  refine tt_ite (fun _ => m145_t hR hP2 k c _ h2) (fun hk => ?_)
  obtain ⟨cn, hcn, rfl, hpc, hpl⟩ := h01 hk
  have hk2 : ¬ k = 2 := fun e => hk (by rw [e]; decide)
  have hq := hR.1.2.2.2.2.2.2.2.2.2.2.2.2.2.2.2.2.1 cn hcn
  have er := hR.2.2.2.1 (27 + cn) (by omega) (by omega)
  generalize a (27 + cn) = q at hq er hpl
  have hin := iN_inb hu (n := 4) (by omega)
  rw [e7, show (27 : Int32) + iN cn = iN (27 + cn) from iN_add 27 cn, iN_clamp (k := 27 + cn) (by omega), iN_clamp (k := u) (by omega), er]
  refine tt_chk hin ?_
  show Tot (chk _ (chk _ _)) _
  refine tt_chk hin (tt_chk (iN_inb (by omega) (by omega)) ?_)
  have hh := hpc u hu e7
  generalize s.2.2.2 23 u &&& (((1 : Int64) <<< ((iN cn).toInt64 &&& 63)) ^^^ (-1 : Int64)) = y at hh
  have hY : ∀ p, p < 4 → pcL (vp_updL (s.2.2.2 23) u y p) 0 ≤ 6 := fun p hp => by
    unfold vp_updL
    by_cases z : p = u
    · rw [if_pos z]
      omega
    · rw [if_neg z]
      exact hp1 p hp
  have hY5 : ∀ u', u' < 4 → s.1 27 = iN u' → pcL (vp_updL (s.2.2.2 23) u y u') 0 ≤ 5 := fun u' hu' e => by
    rw [e7] at e
    have := (iN_inj (by omega) (by omega)).mp e
    subst this
    unfold vp_updL
    rw [if_pos rfl]
    exact hh
  refine tt_ite (fun hk0 => ?_) (fun _ => ?_)
  · unfold f_X8_colorOf
    rw [(kind4 hq).1, ob_some, iN_clamp (k := q / 5) (by omega)]
    have hc5 := iN_inb (show q / 5 < 4 by omega) (n := 4) (by omega)
    refine tt_chk hc5 ?_
    show Tot (chk _ (f_X8_moves_55 NN k _ _ (sa (sb s 23 (vp_updL (s.2.2.2 23) u y)) 24 (upd (s.2.2.1 24) (q / 5) (s.2.2.1 24 (q / 5) + 1))))) _
    refine tt_chk hc5 ?_
    have g : Pf s (sa (sb s 23 (vp_updL (s.2.2.2 23) u y)) 24 (upd (s.2.2.1 24) (q / 5) (s.2.2.1 24 (q / 5) + 1))) := pf_trans (pf_sb s _) (pf_sa _ _)
    refine tt_mono (m55_t (rw_pf hR g) ⟨⟨hY, fun d hd => ?_, t, n, u, l, ht, hn, hu, hl, e5, e6, e7, e8⟩, hY5⟩ _ _ hk2) fun s' h => ⟨pf_trans g h.1, h.2⟩
    show ∃ v, v < 8 ∧ upd (s.2.2.1 24) (q / 5) (s.2.2.1 24 (q / 5) + 1) d = iN v
    rw [upd_at]
    by_cases z : d = q / 5
    · rw [if_pos z, hpl hk0, inc1]
      exact ⟨q % 5 + 1, by omega, rfl⟩
    · rw [if_neg z]
      exact hp2 d hd
  · have g : Pf s (sb s 23 (vp_updL (s.2.2.2 23) u y)) := pf_sb s _
    exact tt_mono (m55_t (rw_pf hR g) ⟨⟨hY, hp2, t, n, u, l, ht, hn, hu, hl, e5, e6, e7, e8⟩, hY5⟩ _ _ hk2) fun s' h => ⟨pf_trans g h.1, h.2⟩
theorem mfinal_t (hR : RW a L s) : Tot (f_X8_isFinal NN s) Ya := by
  have er := hR.2.2.2.1 0 (by omega) (by omega)
  have h4 := hR.1.1
  unfold f_X8_isFinal f_X8_isFinal_4
  refine tlk2 (fun j _ v => Cn (a 0) j v) (fun j b v hI self hs => ?_) NN (a 0) _ 0 (show a 0 < 100000 by omega) (cn_0 _)
  obtain ⟨k, hk, rfl⟩ := hI
  unfold F_X8_isFinal_4
  rw [er]
  refine tt_ite (fun _ => tt_ite (fun _ => tt_ite (fun _ => tt_some trivial) (fun _ => tt_some trivial)) (fun _ => tt_some trivial)) (fun h => ?_)
  have hk0 := nle (by omega) (by omega) h
  have hn : ∀ b, Tot (self b (iN k + 1)) Ya := fun b => hs (j - 1) _ _ (by omega) ⟨k + 1, by omega, inc1 k⟩
  exact tt_ite (fun _ => hn _) (fun _ => tt_chk (iN_inb (by omega) (by omega)) (tt_ite (fun _ => hn _) (fun _ => hn _)))
theorem mscore_t (s : Ob) : Tot (f_X8_scoreMade NN s) Ya := by
  unfold f_X8_scoreMade f_X8_scoreMade_4
  refine tlk2 (fun j _ v => Cn 4 j v) (fun j b v hI self hs => ?_) NN 4 _ 0 (Nat.le_of_ble_eq_true rfl) (cn_0 4)
  obtain ⟨k, hk, rfl⟩ := hI
  unfold F_X8_scoreMade_4
  refine tt_ite (fun _ => tt_some trivial) (fun h => ?_)
  have h4 := nle (c := 4) (by omega) (by omega) h
  exact tt_chk (iN_inb h4 (by omega)) (hs (j - 1) _ _ (by omega) ⟨k + 1, by omega, inc1 k⟩)
end MOV
