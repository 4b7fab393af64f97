/-! OWN: append, load and the search: the pairs stay pairs -/
theorem app_hx (x : Int64) {sX : Ob} {n : Nat} (x1 : sX.1 1 = iN n) : f_X7_append NN sX x = if iN n + iN (cntK (nzB x) 8) ≤ (600 : Int32) then f_X7_append_52 NN x NN 56 sX else some (-2, sX) := by
  unfold f_X7_append f_X7_append_6
  refine loop3 (fun j => iN (cntK (nzB x) j)) (fun j => shV j) (fun _ => sX) 8 ?_ ?_ NN 0 (by omega) (nnb (by omega))
  · intro j hj self
    unfold F_X7_append_6
    rw [shVs hj, shV_lt hj, if_neg (iN_not_neg _ (by omega)), znm_eq, byU x hj]
    cases e : nzB x j
    · have ez : byN x j = 0 := by
        unfold nzB at e
        simpa using e
      rw [if_pos ((lg_cmp_eq _ _).mpr ((by_0 x j).mpr ez)), cntK_0 e]
    · have ez : byN x j ≠ 0 := by
        unfold nzB at e
        simpa using e
      rw [if_neg (fun q => ez ((by_0 x j).mp ((lg_cmp_eq _ _).mp q))), cntK_1 e, iN_p1]
  · intro self
    unfold F_X7_append_6
    rw [if_pos shV_8, x1]
theorem app_hm (x : Int64) {sM : Ob} {n : Nat} (m9 : sM.1 9 = iN n) : f_X8_append NN sM x = if iN n + iN (cntK (nzB x) 8) ≤ (600 : Int32) then f_X8_append_58 NN x NN 0 (si sM 7 0) else some (-2, si sM 7 0) := by
  unfold f_X8_append f_X8_append_10
  refine loop3 (fun j => iN (cntK (nzB x) j)) (fun j => iN j) (fun _ => si sM 7 0) 8 ?_ ?_ NN 0 (by omega) (nnb (by omega))
  · intro j hj self
    have hb := byN_lt x j
    unfold F_X8_append_10
    rw [if_neg (show ¬ (8 : Int32) ≤ iN j from fun q => absurd ((iN_le (a := 8) (by omega) (by omega)).mp q) (by omega)), byteOf_eq x hj, ob_some, iN_p1]
    cases e : nzB x j
    · have ez : byN x j = 0 := by
        unfold nzB at e
        simpa using e
      rw [ez, if_pos iN00, cntK_0 e, show iN (cntK (nzB x) j) + 0 = iN (cntK (nzB x) j + 0) from iN_add _ 0]
      rfl
    · have ez : byN x j ≠ 0 := by
        unfold nzB at e
        simpa using e
      rw [if_neg (show ¬ iN (byN x j) = 0 from fun q => ez ((iN_inj (b := 0) (by omega) (by omega)).mp q)), cntK_1 e, iN_p1]
  · intro self
    have e9 : (si sM 7 0).1 9 = iN n := m9
    unfold F_X8_append_10
    rw [if_pos (by decide), e9]
theorem app_ans (x : Int64) {sX sM : Ob} {n : Nat} (hn : n ≤ 600) (x1 : sX.1 1 = iN n) (m9 : sM.1 9 = iN n) : ∃ (m : Nat) (v : Int32) (s' t' : Ob), m ≤ 600 ∧ f_X7_append NN sX x = some (v, s') ∧ s'.1 1 = iN m ∧ f_X8_append NN sM x = some (v, t') ∧ t'.1 9 = iN m := by
  have hx := app_hx x x1
  have hm := app_hm x m9
  have hc := cntK_le (nzB x) 8
  rw [iN_add] at hx hm
  by_cases c : n + cntK (nzB x) 8 ≤ 600
  · have c' : iN (n + cntK (nzB x) 8) ≤ (600 : Int32) := (iN_le (b := 600) (by omega) (by omega)).mpr c
    rw [if_pos c', app_x x x1 c] at hx
    rw [if_pos c', app_m x (s := si sM 7 0) m9 c] at hm
    exact ⟨n + cntK (nzB x) 8, _, _, _, c, hx, rfl, hm, rfl⟩
  · have c' : ¬ iN (n + cntK (nzB x) 8) ≤ (600 : Int32) := fun q => c ((iN_le (b := 600) (by omega) (by omega)).mp q)
    rw [if_neg c'] at hx hm
    exact ⟨n, _, _, _, hn, hx, x1, hm, m9⟩
theorem Pq_0_ok : Pq_0 NN R2 := by
  intro pl sX sG ru q sR PS SS sM h a1 a2
  obtain ⟨⟨sM', hc⟩, ⟨pl', sX', sG', ru', q', sR', PS', SS', hm⟩, n, hn, l1, l2⟩ := h
  generalize (((a1).toInt64 <<< (((32 : Int32)).toInt64 &&& 63)) ||| ((a2).toInt64 &&& (4294967295 : Int64))) = x
  obtain ⟨z1, y2, e1, _, _, hC⟩ := app_eq pl hc x
  obtain ⟨y1, z2, _, e2, _, hR⟩ := app_eq pl' hm x
  obtain ⟨m, v, s', t', hm6, g1, g2, g3, g4⟩ := app_ans x hn l1 l2
  have i1 : z1 = (v, s') := Option.some.inj (e1.symm.trans g1)
  have i2 : z2 = (v, t') := Option.some.inj (e2.symm.trans g3)
  refine ⟨z1, z2, e1, e2, ?_, ⟨y2.2, hC⟩, ⟨pl', _, _, _, _, _, _, _, hR⟩, m, hm6, ?_, ?_⟩
  · rw [i1, i2]
  · rw [i1]
    exact g2
  · rw [i2]
    exact g4
section LDS
variable {pl pl2 : Nat → Ob → Prop} {sX sG ru : Ob} {q : Nat} {sR : Ob} {PS SS : Nat → Nat × Ob} {sM : Ob}
theorem load_c0 (hp : ∀ a S, pl a S → pl2 a S) (h : Re pl sX sG ru q sR PS SS sM) (R' : Ob) : Re pl2 (si sX 1 0) sG ru q R' PS SS (si (si (si sM 9 0) 16 (R'.1 1)) 17 (R'.1 3)) := by
  obtain ⟨h1, h2, h3, h4, h5, h6, h7⟩ := h
  exact ⟨same_mono hp h1, past_mono hp h2, saved_mono hp h3, ⟨0, by omega, rfl, rfl, fun k hk => absurd hk (Nat.not_lt_zero _)⟩, h5, rfl, rfl⟩
theorem load_c1 (hp : ∀ a S, pl a S → pl2 a S) (h : Re pl sX sG ru q sR PS SS sM) (R' : Ob) {a : Gm} {L : Nat → Int32} {G' ru1 : Ob} {bF : Nat} (ho : okG a) (hG : encG a L G') (hu : encRu a ru1) (hpl : pl2 bF ru1) : Re pl2 (si (si sX 1 0) 5 0) G' ru1 bF R' PS SS (sa (si (si (si (si sM 9 0) 16 (R'.1 1)) 17 (R'.1 3)) 6 0) 0 (rowW a L)) := by
  obtain ⟨h1, h2, h3, h4, h5, h6, h7⟩ := h
  obtain ⟨n, e, k1, k2, k3, k4, k5, k6⟩ := h2
  exact ⟨⟨a, L, ho, rowW_enc a L, hG, hu, hpl⟩, ⟨0, e, by omega, k2, rfl, k4, rfl, fun i hi => absurd hi (Nat.not_lt_zero _)⟩, saved_mono hp h3, ⟨0, by omega, rfl, rfl, fun k hk => absurd hk (Nat.not_lt_zero _)⟩, h5, rfl, rfl⟩
theorem load_m (h : Re pl sX sG ru q sR PS SS sM) {z : Int32 × Ob} (hz : Pl sM z) : ∃ (pl' : Nat → Ob → Prop) (sX' sG' ru' : Ob) (q' : Nat) (sR' : Ob) (PS' SS' : Nat → Nat × Ob), Re pl' sX' sG' ru' q' sR' PS' SS' z.2 := by
  obtain ⟨h1, h2, h3, h4, h5, h6, h7⟩ := h
  obtain ⟨lf, h9, hcs⟩ := hz
  have r3 := lf.1 3 (by omega) (by omega)
  have r4 := lf.1 4 (by omega) (by omega)
  have r5 := lf.1 5 (by omega) (by omega)
  have r29 := lf.1 29 (by omega) (by omega)
  have e30 := lf.2 30 (by omega)
  have hin : ∀ s, s.1 1 = 0 → inOk s z.2 := fun s hs => ⟨0, by omega, hs, h9, fun k hk => absurd hk (Nat.not_lt_zero _)⟩
  have hout : ∀ s, s.1 14 = sX.1 14 → s.2.2.1 13 = sX.2.2.1 13 → outOk s z.2 := fun s e1 e2 => by
    unfold outOk
    rw [e1, e2, e30, r29]
    exact h5
  have hsv : ∀ s, s.2.2.1 8 = sX.2.2.1 8 → savedOk pl s SS z.2 := fun s e1 => by
    unfold savedOk
    rw [e1, r4, r5]
    exact h3
  rcases hcs with ⟨c0, c6⟩ | ⟨c6, a, L, ho, hr⟩
  · refine ⟨pl, si sX 1 0, sG, ru, q, si (si sR 1 (z.2.1 16)) 3 (z.2.1 17), PS, SS, ?_, ?_, hsv _ rfl, hin _ rfl, hout _ rfl rfl, rfl, rfl⟩
    · rw [c0]
      exact h1
    · obtain ⟨n, e, k1, k2, k3, k4, k5, k6⟩ := h2
      exact ⟨n, e, k1, k2, k3, k4, by rw [c6]; exact k5, by rw [r3]; exact k6⟩
  · refine ⟨fun b S => pl b S ∨ S = rW a, si (si sX 1 0) 5 0, gW a L, rW a, 0, si (si sR 1 (z.2.1 16)) 3 (z.2.1 17), PS, SS, ⟨a, L, ho, hr, gW_enc a L, rW_enc a, Or.inr rfl⟩, ?_, saved_mono (fun _ _ g => Or.inl g) (hsv _ rfl), hin _ rfl, hout _ rfl rfl, rfl, rfl⟩
    obtain ⟨n, e, k1, k2, k3, k4, k5, k6⟩ := h2
    exact ⟨0, e, by omega, k2, rfl, k4, c6, fun i hi => absurd hi (Nat.not_lt_zero _)⟩
end LDS
theorem Pq_1_ok : Pq_1 NN R2 := by
  intro pl sX sG ru q sR PS SS sM h
  obtain ⟨⟨sM', hc⟩, ⟨pl', sX', sG', ru', q', sR', PS', SS', hm⟩, n, hn, l1, l2⟩ := h
  have hT : Txt n (sX.2.2.1 0) := by
    obtain ⟨n2, h2, i1, i2, hv⟩ := hc.2.2.2.1
    have e : n2 = n := (iN_inj (by omega) (by omega)).mp (i1.symm.trans l1)
    subst e
    exact ⟨hn, fun k hk => by obtain ⟨v, v1, v2, e, -⟩ := hv k hk; exact ⟨v, v1, v2, e⟩⟩
  have hB : By n sM := by
    obtain ⟨n2, h2, i1, i2, hv⟩ := hm.2.2.2.1
    have e : n2 = n := (iN_inj (by omega) (by omega)).mp (i2.symm.trans l2)
    subst e
    exact ⟨hn, l2, fun k hk => by obtain ⟨v, v1, v2, -, e⟩ := hv k hk; exact ⟨v, v1, v2, e⟩⟩
  obtain ⟨⟨R', ru1⟩, hr1, hr2⟩ := readText_t hT sR
  obtain ⟨z2, hz2, hP⟩ := mload_t hB
  have hmod := load_m hm hP
  by_cases he : R'.1 1 = 0
  · obtain ⟨C, R, P, H, m, M, T, V, w, q2, D, hmm, E⟩ := hr2 he
    obtain ⟨G', hb, hG'⟩ := begin_t D E hmm sG
    refine ⟨(ru1.1 7, si (si sX 1 0) 5 0, R', G', ru1, true), z2, ?_, hz2, fun bF hbF => ?_⟩
    · unfold f_X7_load
      rw [l1, hr1, ob_some, if_pos he, hb, ob_some, znm_eq]
    · exact ⟨⟨_, load_c1 (pl2 := fun a S => pl a S ∨ (a = bF ∧ S = ru1)) (fun _ _ g => Or.inl g) hc R' (bg_ok D hmm) hG' (encRu_bg D E) (Or.inr ⟨rfl, rfl⟩)⟩, hmod, 0, by omega, rfl, hP.2.1⟩
  · refine ⟨((-100 : Int32) - R'.1 2, si sX 1 0, R', sG, ru1, false), z2, ?_, hz2, fun bF hbF => ?_⟩
    · unfold f_X7_load
      rw [l1, hr1, ob_some, if_neg he]
    · exact ⟨⟨_, load_c0 (pl2 := fun a S => pl a S ∨ (a = bF ∧ S = ru1)) (fun _ _ g => Or.inl g) hc R'⟩, hmod, 0, by omega, rfl, hP.2.1⟩
theorem Pq_32_ok : Pq_32 NN R2 := by
  intro pl sX sG ru q sR PS SS sM h sS sH sN
  obtain ⟨⟨sM', hc⟩, ⟨pl', sX', sG', ru', q', sR', PS', SS', hm⟩, n, hn, l1, l2⟩ := h
  obtain ⟨a, L, ho, -, hG, hu, -⟩ := id hc.1
  obtain ⟨a2, L2, ho2, hr2, -⟩ := id hm.1
  obtain ⟨z, e1, -⟩ := survey_t ho.1 hG hu sS sH sN
  obtain ⟨z2, e2, hF⟩ := vnow_t (s := si sM 7 0) ho2 hr2
  have hx : ∃ z1, f_X7_value NN sX sS sG sH sN ru = some z1 := by
    unfold f_X7_value
    rw [e1, ob_some]
    split <;> exact ⟨_, rfl⟩
  obtain ⟨z1, hz1⟩ := hx
  refine ⟨z1, (z2.1, z2.2), hz1, ?_, ⟨sM', hc⟩, ⟨pl', sX', sG', ru', q', sR', PS', SS', Re_fr hm hF⟩, n, hn, l1, (hF.2 9 (by omega)).trans l2⟩
  unfold f_X8_value
  rw [e2, ob_some]
theorem Pq_33_ok : Pq_33 NN R2 := by
  intro pl sX sG ru q sR PS SS sM h sS sH sN
  obtain ⟨⟨sM', hc⟩, ⟨pl', sX', sG', ru', q', sR', PS', SS', hm⟩, n, hn, l1, l2⟩ := h
  obtain ⟨a, L, ho, -, hG, hu, -⟩ := id hc.1
  obtain ⟨a2, L2, ho2, hr2, -⟩ := id hm.1
  obtain ⟨z, e1, -⟩ := survey_t ho.1 hG hu sS sH sN
  obtain ⟨z2, e2, hF⟩ := vnow_t (s := si sM 7 0) ho2 hr2
  have hx : ∃ z1, f_X7_positions NN sX sS sG sH sN ru = some z1 := by
    unfold f_X7_positions
    rw [e1, ob_some]
    split <;> exact ⟨_, rfl⟩
  have hy : ∃ v, f_X8_positions NN sM = some (v, z2.2) := by
    unfold f_X8_positions
    rw [e2, ob_some]
    split <;> exact ⟨_, rfl⟩
  obtain ⟨z1, hz1⟩ := hx
  obtain ⟨v, hv⟩ := hy
  exact ⟨z1, (v, z2.2), hz1, hv, ⟨sM', hc⟩, ⟨pl', sX', sG', ru', q', sR', PS', SS', Re_fr hm hF⟩, n, hn, l1, (hF.2 9 (by omega)).trans l2⟩
theorem Pq_34_ok : Pq_34 NN R2 := by
  intro pl sX sG ru q sR PS SS sM h q8 q9 sS sH sN fo a1 a2
  obtain ⟨⟨sM', hc⟩, ⟨pl', sX', sG', ru', q', sR', PS', SS', hm⟩, n, hn, l1, l2⟩ := h
  obtain ⟨a, L, ho, -, hG, hu, -⟩ := id hc.1
  obtain ⟨b, L2, ho2, hr2, -⟩ := id hm.1
  obtain ⟨z2, e2, v, hF⟩ := vbehind_t (s := sM) ho2 hr2 a1 a2
  have hno : (a1 < 0 ∨ (¬ a1 < 0 ∧ ¬ a1 ≤ 3)) → ∃ z1, f_L_valueBehind NN q q8 q9 sX sG ru sS sH sN fo a1 a2 = some z1 := fun hh => by
    refine ⟨(1, sS, sH, sN, fo, q8, q9), ?_⟩
    unfold f_L_valueBehind f_X7_valueBehind ft_X7_valueBehind
    rcases hh with h1 | ⟨h1, h2⟩
    · rw [if_pos h1, if_pos h1]; rfl
    · rw [if_neg h1, if_neg h1, if_neg h2, if_neg h2]; rfl
  have hx : ∃ z1, f_L_valueBehind NN q q8 q9 sX sG ru sS sH sN fo a1 a2 = some z1 := by
    by_cases h1 : a1 < 0
    · exact hno (Or.inl h1)
    · by_cases h2 : a1 ≤ 3
      · have ht : Tot (f_X7_valueBehind NN sX sG ru sS sH sN a1 a2) Ya := by
          unfold f_X7_valueBehind
          rw [if_neg h1, if_pos h2]
          exact tt_ob (ended_t ho.1 hG hu) (fun x1 h => tt_ite (fun e => tt_ob (sbehind_t ho.1 hG hu (h e) sS sH sN a1 a2) (fun x2 _ => tt_ite (fun _ => tt_some trivial) (fun _ => tt_ite (fun _ => tt_some trivial) (fun _ => tt_some trivial)))) (fun _ => tt_some trivial))
        obtain ⟨y, ey, -⟩ := ht
        unfold f_L_valueBehind
        rw [ey, th_some]
        exact ⟨_, rfl⟩
      · exact hno (Or.inr ⟨h1, h2⟩)
  obtain ⟨z1, hz1⟩ := hx
  exact ⟨z1, z2, hz1, e2, ⟨sM', hc⟩, ⟨pl', sX', sG', ru', q', sR', PS', SS', Re_fr hm hF⟩, n, hn, l1, (hF.2 9 (by omega)).trans l2⟩
theorem Pq_35_ok : Pq_35 NN R2 := by
  intro pl sX sG ru q sR PS SS sM h q8 q9 sS sH sN fo a1
  obtain ⟨⟨sM', hc⟩, ⟨pl', sX', sG', ru', q', sR', PS', SS', hm⟩, n, hn, l1, l2⟩ := h
  obtain ⟨a, L, ho, -, hG, hu, -⟩ := id hc.1
  obtain ⟨b, L2, ho2, hr2, -⟩ := id hm.1
  obtain ⟨z2, e2, v, hF⟩ := mbest_t (s := sM) ho2 hr2 a1
  have h20 : Tot (f_X7_bestMove_20 NN sX sG ru a1 sS sH sN) Ya := by
    unfold f_X7_bestMove_20
    exact tt_ob (ended_t ho.1 hG hu) (fun x1 h => tt_ite (fun e => tt_ob (survey_t ho.1 hG hu sS sH sN) (fun x2 _ => tt_ite (fun _ => tt_ob (findMove_t ho.1 hG hu (h e) x2.1 x2.2.1 x2.2.2 (x2.1.1 1)) (fun x3 _ => tt_ite (fun _ => tt_some trivial) (fun _ => tt_some trivial))) (fun _ => tt_some trivial))) (fun _ => tt_some trivial))
  obtain ⟨y, ey, -⟩ := h20
  have hx : ∃ z1, f_L_bestMove NN q q8 q9 sX sG ru sS sH sN fo a1 = some z1 := by
    by_cases h1 : a1 = 0
    · unfold f_L_bestMove f_X7_bestMove
      rw [if_pos h1, ey, th_some]
      exact ⟨_, rfl⟩
    · by_cases h2 : a1 = 1
      · unfold f_L_bestMove f_X7_bestMove
        rw [if_neg h1, if_pos h2, ey, th_some]
        exact ⟨_, rfl⟩
      · refine ⟨(1, sS, sH, sN, fo, q8, q9), ?_⟩
        unfold f_L_bestMove f_X7_bestMove ft_X7_bestMove
        rw [if_neg h1, if_neg h1, if_neg h2, if_neg h2]; rfl
  obtain ⟨z1, hz1⟩ := hx
  exact ⟨z1, z2, hz1, e2, ⟨sM', hc⟩, ⟨pl', sX', sG', ru', q', sR', PS', SS', Re_fr hm hF⟩, n, hn, l1, (hF.2 9 (by omega)).trans l2⟩
theorem Pq_all : PqAll NN R2 := ⟨Pq_0_ok, Pq_1_ok, Pq_2_ok, Pq_3_ok, Pq_4_ok, Pq_5_ok, Pq_6_ok, Pq_7_ok, Pq_8_ok, Pq_9_ok, Pq_10_ok, Pq_11_ok, Pq_12_ok, Pq_13_ok, Pq_14_ok, Pq_15_ok, Pq_16_ok, Pq_17_ok, Pq_18_ok, Pq_19_ok, Pq_20_ok, Pq_21_ok, Pq_22_ok, Pq_23_ok, Pq_24_ok, Pq_25_ok, Pq_26_ok, Pq_27_ok, Pq_28_ok, Pq_29_ok, Pq_30_ok, Pq_31_ok, Pq_32_ok, Pq_33_ok, Pq_34_ok, Pq_35_ok, Pq_36_ok, Pq_37_ok, Pq_38_ok, Pq_39a_ok, Pq_39b_ok, Pq_40_ok, Pq_41_ok, Pq_42_ok⟩
