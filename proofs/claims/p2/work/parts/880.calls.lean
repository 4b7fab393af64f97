/-! OWN, written by wip/p2/mk880.py: each call but append, load and the search: the pairs stay pairs -/
theorem Pq_2_ok : Pq_2 NN R2 := by
  intro pl sX sG ru q sR PS SS sM h 
  obtain ⟨⟨sM', hc⟩, ⟨pl', sX', sG', ru', q', sR', PS', SS', hm⟩, n, hn, l1, l2⟩ := h
  obtain ⟨z1, y2, e1, _, _, _⟩ := P_2_ok _ _ _ _ _ _ _ _ _ hc 
  obtain ⟨y1, z2, f1, e2, _, hR⟩ := P_2_ok _ _ _ _ _ _ _ _ _ hm 
  exact ⟨z1, z2, e1, e2, ⟨sM', hc⟩, ⟨pl', sX', sG', ru', q', sR', PS', SS', hR⟩, n, hn, l1, ((Re_len hR).symm.trans (Re_len hm)).trans l2⟩
theorem Pq_3_ok : Pq_3 NN R2 := by
  intro pl sX sG ru q sR PS SS sM h 
  obtain ⟨⟨sM', hc⟩, ⟨pl', sX', sG', ru', q', sR', PS', SS', hm⟩, n, hn, l1, l2⟩ := h
  obtain ⟨z1, y2, e1, _, _, _⟩ := P_3_ok _ _ _ _ _ _ _ _ _ hc 
  obtain ⟨y1, z2, f1, e2, _, hR⟩ := P_3_ok _ _ _ _ _ _ _ _ _ hm 
  exact ⟨z1, z2, e1, e2, ⟨sM', hc⟩, ⟨pl', sX', sG', ru', q', sR', PS', SS', hR⟩, n, hn, l1, ((Re_len hR).symm.trans (Re_len hm)).trans l2⟩
theorem Pq_4_ok : Pq_4 NN R2 := by
  intro pl sX sG ru q sR PS SS sM h fo a1
  obtain ⟨⟨sM', hc⟩, ⟨pl', sX', sG', ru', q', sR', PS', SS', hm⟩, n, hn, l1, l2⟩ := h
  obtain ⟨z1, y2, _, e1, _, _, _, _, _⟩ := P_4_ok _ _ _ _ _ _ _ _ _ hc fo a1
  obtain ⟨y1, z2, _, f1, e2, _, _, _, hR⟩ := P_4_ok _ _ _ _ _ _ _ _ _ hm fo a1
  exact ⟨z1, z2, e1, e2, ⟨sM', hc⟩, ⟨pl', sX', sG', ru', q', sR', PS', SS', hR⟩, n, hn, l1, ((Re_len hR).symm.trans (Re_len hm)).trans l2⟩
theorem Pq_5_ok : Pq_5 NN R2 := by
  intro pl sX sG ru q sR PS SS sM h 
  obtain ⟨⟨sM', hc⟩, ⟨pl', sX', sG', ru', q', sR', PS', SS', hm⟩, n, hn, l1, l2⟩ := h
  obtain ⟨z1, y2, e1, _, _, _⟩ := P_5_ok _ _ _ _ _ _ _ _ _ hc 
  obtain ⟨y1, z2, f1, e2, _, hR⟩ := P_5_ok _ _ _ _ _ _ _ _ _ hm 
  exact ⟨z1, z2, e1, e2, ⟨sM', hc⟩, ⟨pl', sX', sG', ru', q', sR', PS', SS', hR⟩, n, hn, l1, ((Re_len hR).symm.trans (Re_len hm)).trans l2⟩
theorem Pq_6_ok : Pq_6 NN R2 := by
  intro pl sX sG ru q sR PS SS sM h 
  obtain ⟨⟨sM', hc⟩, ⟨pl', sX', sG', ru', q', sR', PS', SS', hm⟩, n, hn, l1, l2⟩ := h
  obtain ⟨z1, y2, e1, _, _, _⟩ := P_6_ok _ _ _ _ _ _ _ _ _ hc 
  obtain ⟨y1, z2, f1, e2, _, hR⟩ := P_6_ok _ _ _ _ _ _ _ _ _ hm 
  exact ⟨z1, z2, e1, e2, ⟨sM', hc⟩, ⟨pl', sX', sG', ru', q', sR', PS', SS', hR⟩, n, hn, l1, ((Re_len hR).symm.trans (Re_len hm)).trans l2⟩
theorem Pq_7_ok : Pq_7 NN R2 := by
  intro pl sX sG ru q sR PS SS sM h fo a1
  obtain ⟨⟨sM', hc⟩, ⟨pl', sX', sG', ru', q', sR', PS', SS', hm⟩, n, hn, l1, l2⟩ := h
  obtain ⟨z1, y2, _, e1, _, _, _, _, _⟩ := P_7_ok _ _ _ _ _ _ _ _ _ hc fo a1
  obtain ⟨y1, z2, _, f1, e2, _, _, _, hR⟩ := P_7_ok _ _ _ _ _ _ _ _ _ hm fo a1
  exact ⟨z1, z2, e1, e2, ⟨sM', hc⟩, ⟨pl', sX', sG', ru', q', sR', PS', SS', hR⟩, n, hn, l1, ((Re_len hR).symm.trans (Re_len hm)).trans l2⟩
theorem Pq_8_ok : Pq_8 NN R2 := by
  intro pl sX sG ru q sR PS SS sM h fo a1
  obtain ⟨⟨sM', hc⟩, ⟨pl', sX', sG', ru', q', sR', PS', SS', hm⟩, n, hn, l1, l2⟩ := h
  obtain ⟨z1, y2, _, e1, _, _, _, _, _⟩ := P_8_ok _ _ _ _ _ _ _ _ _ hc fo a1
  obtain ⟨y1, z2, _, f1, e2, _, _, _, hR⟩ := P_8_ok _ _ _ _ _ _ _ _ _ hm fo a1
  exact ⟨z1, z2, e1, e2, ⟨sM', hc⟩, ⟨pl', sX', sG', ru', q', sR', PS', SS', hR⟩, n, hn, l1, ((Re_len hR).symm.trans (Re_len hm)).trans l2⟩
theorem Pq_9_ok : Pq_9 NN R2 := by
  intro pl sX sG ru q sR PS SS sM h fo a1 a2
  obtain ⟨⟨sM', hc⟩, ⟨pl', sX', sG', ru', q', sR', PS', SS', hm⟩, n, hn, l1, l2⟩ := h
  obtain ⟨z1, y2, _, e1, _, _, _, _, _⟩ := P_9_ok _ _ _ _ _ _ _ _ _ hc fo a1 a2
  obtain ⟨y1, z2, _, f1, e2, _, _, _, hR⟩ := P_9_ok _ _ _ _ _ _ _ _ _ hm fo a1 a2
  exact ⟨z1, z2, e1, e2, ⟨sM', hc⟩, ⟨pl', sX', sG', ru', q', sR', PS', SS', hR⟩, n, hn, l1, ((Re_len hR).symm.trans (Re_len hm)).trans l2⟩
theorem Pq_10_ok : Pq_10 NN R2 := by
  intro pl sX sG ru q sR PS SS sM h a1
  obtain ⟨⟨sM', hc⟩, ⟨pl', sX', sG', ru', q', sR', PS', SS', hm⟩, n, hn, l1, l2⟩ := h
  obtain ⟨z1, y2, e1, _, _, _⟩ := P_10_ok _ _ _ _ _ _ _ _ _ hc a1
  obtain ⟨y1, z2, f1, e2, _, hR⟩ := P_10_ok _ _ _ _ _ _ _ _ _ hm a1
  exact ⟨z1, z2, e1, e2, ⟨sM', hc⟩, ⟨pl', sX', sG', ru', q', sR', PS', SS', hR⟩, n, hn, l1, ((Re_len hR).symm.trans (Re_len hm)).trans l2⟩
theorem Pq_11_ok : Pq_11 NN R2 := by
  intro pl sX sG ru q sR PS SS sM h fo a1 a2 a3
  obtain ⟨⟨sM', hc⟩, ⟨pl', sX', sG', ru', q', sR', PS', SS', hm⟩, n, hn, l1, l2⟩ := h
  obtain ⟨z1, y2, _, e1, _, _, _, _, _⟩ := P_11_ok _ _ _ _ _ _ _ _ _ hc fo a1 a2 a3
  obtain ⟨y1, z2, _, f1, e2, _, _, _, hR⟩ := P_11_ok _ _ _ _ _ _ _ _ _ hm fo a1 a2 a3
  exact ⟨z1, z2, e1, e2, ⟨sM', hc⟩, ⟨pl', sX', sG', ru', q', sR', PS', SS', hR⟩, n, hn, l1, ((Re_len hR).symm.trans (Re_len hm)).trans l2⟩
theorem Pq_12_ok : Pq_12 NN R2 := by
  intro pl sX sG ru q sR PS SS sM h fo a1 a2
  obtain ⟨⟨sM', hc⟩, ⟨pl', sX', sG', ru', q', sR', PS', SS', hm⟩, n, hn, l1, l2⟩ := h
  obtain ⟨z1, y2, _, e1, _, _, _, _, _, _⟩ := P_12_ok _ _ _ _ _ _ _ _ _ hc fo a1 a2
  obtain ⟨y1, z2, _, f1, e2, _, _, _, _, hR⟩ := P_12_ok _ _ _ _ _ _ _ _ _ hm fo a1 a2
  exact ⟨z1, z2, e1, e2, ⟨sM', hc⟩, ⟨pl', sX', sG', ru', q', sR', PS', SS', hR⟩, n, hn, l1, ((Re_len hR).symm.trans (Re_len hm)).trans l2⟩
theorem Pq_13_ok : Pq_13 NN R2 := by
  intro pl sX sG ru q sR PS SS sM h fo a1 a2
  obtain ⟨⟨sM', hc⟩, ⟨pl', sX', sG', ru', q', sR', PS', SS', hm⟩, n, hn, l1, l2⟩ := h
  obtain ⟨z1, y2, _, e1, _, _, _, _, _, _⟩ := P_13_ok _ _ _ _ _ _ _ _ _ hc fo a1 a2
  obtain ⟨y1, z2, _, f1, e2, _, _, _, _, hR⟩ := P_13_ok _ _ _ _ _ _ _ _ _ hm fo a1 a2
  exact ⟨z1, z2, e1, e2, ⟨sM', hc⟩, ⟨pl', sX', sG', ru', q', sR', PS', SS', hR⟩, n, hn, l1, ((Re_len hR).symm.trans (Re_len hm)).trans l2⟩
theorem Pq_14_ok : Pq_14 NN R2 := by
  intro pl sX sG ru q sR PS SS sM h fo a1 a2
  obtain ⟨⟨sM', hc⟩, ⟨pl', sX', sG', ru', q', sR', PS', SS', hm⟩, n, hn, l1, l2⟩ := h
  obtain ⟨z1, y2, _, e1, _, _, _, _, _⟩ := P_14_ok _ _ _ _ _ _ _ _ _ hc fo a1 a2
  obtain ⟨y1, z2, _, f1, e2, _, _, _, hR⟩ := P_14_ok _ _ _ _ _ _ _ _ _ hm fo a1 a2
  exact ⟨z1, z2, e1, e2, ⟨sM', hc⟩, ⟨pl', sX', sG', ru', q', sR', PS', SS', hR⟩, n, hn, l1, ((Re_len hR).symm.trans (Re_len hm)).trans l2⟩
theorem Pq_15_ok : Pq_15 NN R2 := by
  intro pl sX sG ru q sR PS SS sM h fo a1 a2
  obtain ⟨⟨sM', hc⟩, ⟨pl', sX', sG', ru', q', sR', PS', SS', hm⟩, n, hn, l1, l2⟩ := h
  obtain ⟨z1, y2, _, e1, _, _, _, _, _⟩ := P_15_ok _ _ _ _ _ _ _ _ _ hc fo a1 a2
  obtain ⟨y1, z2, _, f1, e2, _, _, _, hR⟩ := P_15_ok _ _ _ _ _ _ _ _ _ hm fo a1 a2
  exact ⟨z1, z2, e1, e2, ⟨sM', hc⟩, ⟨pl', sX', sG', ru', q', sR', PS', SS', hR⟩, n, hn, l1, ((Re_len hR).symm.trans (Re_len hm)).trans l2⟩
theorem Pq_16_ok : Pq_16 NN R2 := by
  intro pl sX sG ru q sR PS SS sM h fo a1 a2
  obtain ⟨⟨sM', hc⟩, ⟨pl', sX', sG', ru', q', sR', PS', SS', hm⟩, n, hn, l1, l2⟩ := h
  obtain ⟨z1, y2, _, e1, _, _, _, _, _, _⟩ := P_16_ok _ _ _ _ _ _ _ _ _ hc fo a1 a2
  obtain ⟨y1, z2, _, f1, e2, _, _, _, _, hR⟩ := P_16_ok _ _ _ _ _ _ _ _ _ hm fo a1 a2
  exact ⟨z1, z2, e1, e2, ⟨sM', hc⟩, ⟨pl', sX', sG', ru', q', sR', PS', SS', hR⟩, n, hn, l1, ((Re_len hR).symm.trans (Re_len hm)).trans l2⟩
theorem Pq_17_ok : Pq_17 NN R2 := by
  intro pl sX sG ru q sR PS SS sM h sMi fo a1 a2
  obtain ⟨⟨sM', hc⟩, ⟨pl', sX', sG', ru', q', sR', PS', SS', hm⟩, n, hn, l1, l2⟩ := h
  obtain ⟨z1, y2, _, e1, _, _, _, _, _⟩ := P_17_ok _ _ _ _ _ _ _ _ _ hc sMi fo a1 a2
  obtain ⟨y1, z2, _, f1, e2, _, _, _, hR⟩ := P_17_ok _ _ _ _ _ _ _ _ _ hm sMi fo a1 a2
  exact ⟨z1, z2, e1, e2, ⟨sM', hc⟩, ⟨pl', sX', sG', ru', q', sR', PS', SS', hR⟩, n, hn, l1, ((Re_len hR).symm.trans (Re_len hm)).trans l2⟩
theorem Pq_18_ok : Pq_18 NN R2 := by
  intro pl sX sG ru q sR PS SS sM h sMi fo a1 a2 a3
  obtain ⟨⟨sM', hc⟩, ⟨pl', sX', sG', ru', q', sR', PS', SS', hm⟩, n, hn, l1, l2⟩ := h
  obtain ⟨z1, y2, _, e1, _, _, _, _, _⟩ := P_18_ok _ _ _ _ _ _ _ _ _ hc sMi fo a1 a2 a3
  obtain ⟨y1, z2, _, f1, e2, _, _, _, hR⟩ := P_18_ok _ _ _ _ _ _ _ _ _ hm sMi fo a1 a2 a3
  exact ⟨z1, z2, e1, e2, ⟨sM', hc⟩, ⟨pl', sX', sG', ru', q', sR', PS', SS', hR⟩, n, hn, l1, ((Re_len hR).symm.trans (Re_len hm)).trans l2⟩
theorem Pq_19_ok : Pq_19 NN R2 := by
  intro pl sX sG ru q sR PS SS sM h sMi fo a1 a2
  obtain ⟨⟨sM', hc⟩, ⟨pl', sX', sG', ru', q', sR', PS', SS', hm⟩, n, hn, l1, l2⟩ := h
  obtain ⟨z1, y2, _, e1, _, _, _, _, _⟩ := P_19_ok _ _ _ _ _ _ _ _ _ hc sMi fo a1 a2
  obtain ⟨y1, z2, _, f1, e2, _, _, _, hR⟩ := P_19_ok _ _ _ _ _ _ _ _ _ hm sMi fo a1 a2
  exact ⟨z1, z2, e1, e2, ⟨sM', hc⟩, ⟨pl', sX', sG', ru', q', sR', PS', SS', hR⟩, n, hn, l1, ((Re_len hR).symm.trans (Re_len hm)).trans l2⟩
theorem Pq_20_ok : Pq_20 NN R2 := by
  intro pl sX sG ru q sR PS SS sM h fo a1 a2
  obtain ⟨⟨sM', hc⟩, ⟨pl', sX', sG', ru', q', sR', PS', SS', hm⟩, n, hn, l1, l2⟩ := h
  obtain ⟨z1, y2, _, e1, _, _, _, _, _⟩ := P_20_ok _ _ _ _ _ _ _ _ _ hc fo a1 a2
  obtain ⟨y1, z2, _, f1, e2, _, _, _, hR⟩ := P_20_ok _ _ _ _ _ _ _ _ _ hm fo a1 a2
  exact ⟨z1, z2, e1, e2, ⟨sM', hc⟩, ⟨pl', sX', sG', ru', q', sR', PS', SS', hR⟩, n, hn, l1, ((Re_len hR).symm.trans (Re_len hm)).trans l2⟩
theorem Pq_21_ok : Pq_21 NN R2 := by
  intro pl sX sG ru q sR PS SS sM h fo a1 a2 a3
  obtain ⟨⟨sM', hc⟩, ⟨pl', sX', sG', ru', q', sR', PS', SS', hm⟩, n, hn, l1, l2⟩ := h
  obtain ⟨z1, y2, _, e1, _, _, _, _, _⟩ := P_21_ok _ _ _ _ _ _ _ _ _ hc fo a1 a2 a3
  obtain ⟨y1, z2, _, f1, e2, _, _, _, hR⟩ := P_21_ok _ _ _ _ _ _ _ _ _ hm fo a1 a2 a3
  exact ⟨z1, z2, e1, e2, ⟨sM', hc⟩, ⟨pl', sX', sG', ru', q', sR', PS', SS', hR⟩, n, hn, l1, ((Re_len hR).symm.trans (Re_len hm)).trans l2⟩
theorem Pq_22_ok : Pq_22 NN R2 := by
  intro pl sX sG ru q sR PS SS sM h sMi fo a1 a2 a3
  obtain ⟨⟨sM', hc⟩, ⟨pl', sX', sG', ru', q', sR', PS', SS', hm⟩, n, hn, l1, l2⟩ := h
  obtain ⟨z1, y2, _, e1, _, _, _, _, _⟩ := P_22_ok _ _ _ _ _ _ _ _ _ hc sMi fo a1 a2 a3
  obtain ⟨y1, z2, _, f1, e2, _, _, _, hR⟩ := P_22_ok _ _ _ _ _ _ _ _ _ hm sMi fo a1 a2 a3
  exact ⟨z1, z2, e1, e2, ⟨sM', hc⟩, ⟨pl', sX', sG', ru', q', sR', PS', SS', hR⟩, n, hn, l1, ((Re_len hR).symm.trans (Re_len hm)).trans l2⟩
theorem Pq_23_ok : Pq_23 NN R2 := by
  intro pl sX sG ru q sR PS SS sM h fo a1
  obtain ⟨⟨sM', hc⟩, ⟨pl', sX', sG', ru', q', sR', PS', SS', hm⟩, n, hn, l1, l2⟩ := h
  obtain ⟨z1, y2, _, e1, _, _, _, _, hC⟩ := P_23_ok _ _ _ _ _ _ _ _ _ hc fo a1
  obtain ⟨y1, z2, _, f1, e2, _, _, _, hR⟩ := P_23_ok _ _ _ _ _ _ _ _ _ hm fo a1
  have k1 := len_23 _ e1
  have k2 := len_23 _ f1
  exact ⟨z1, z2, e1, e2, ⟨y2.2, hC⟩, ⟨pl', _, _, _, _, _, _, _, hR⟩, n, hn, k1.trans l1, ((Re_len hR).symm.trans (k2.trans (Re_len hm))).trans l2⟩
theorem Pq_24_ok : Pq_24 NN R2 := by
  intro pl sX sG ru q sR PS SS sM h fo a1
  obtain ⟨⟨sM', hc⟩, ⟨pl', sX', sG', ru', q', sR', PS', SS', hm⟩, n, hn, l1, l2⟩ := h
  obtain ⟨z1, y2, _, e1, _, _, _, _, hC⟩ := P_24_ok _ _ _ _ _ _ _ _ _ hc fo a1
  obtain ⟨y1, z2, _, f1, e2, _, _, _, hR⟩ := P_24_ok _ _ _ _ _ _ _ _ _ hm fo a1
  have k1 := len_24 _ e1
  have k2 := len_24 _ f1
  exact ⟨z1, z2, e1, e2, ⟨y2.2, hC⟩, ⟨pl', _, _, _, _, _, _, _, hR⟩, n, hn, k1.trans l1, ((Re_len hR).symm.trans (k2.trans (Re_len hm))).trans l2⟩
theorem Pq_25_ok : Pq_25 NN R2 := by
  intro pl sX sG ru q sR PS SS sM h fo a1 a2 a3
  obtain ⟨⟨sM', hc⟩, ⟨pl', sX', sG', ru', q', sR', PS', SS', hm⟩, n, hn, l1, l2⟩ := h
  obtain ⟨z1, y2, _, e1, _, _, _, _, hC⟩ := P_25_ok _ _ _ _ _ _ _ _ _ hc fo a1 a2 a3
  obtain ⟨y1, z2, _, f1, e2, _, _, _, hR⟩ := P_25_ok _ _ _ _ _ _ _ _ _ hm fo a1 a2 a3
  have k1 := len_25 _ e1
  have k2 := len_25 _ f1
  exact ⟨z1, z2, e1, e2, ⟨y2.2, hC⟩, ⟨pl', _, _, _, _, _, _, _, hR⟩, n, hn, k1.trans l1, ((Re_len hR).symm.trans (k2.trans (Re_len hm))).trans l2⟩
theorem Pq_26_ok : Pq_26 NN R2 := by
  intro pl sX sG ru q sR PS SS sM h 
  obtain ⟨⟨sM', hc⟩, ⟨pl', sX', sG', ru', q', sR', PS', SS', hm⟩, n, hn, l1, l2⟩ := h
  obtain ⟨z1, y2, e1, _, _, hC⟩ := P_26_ok _ _ _ _ _ _ _ _ _ hc 
  obtain ⟨y1, z2, f1, e2, _, hR⟩ := P_26_ok _ _ _ _ _ _ _ _ _ hm 
  have k1 := len_26 _ e1
  have k2 := len_26 _ f1
  exact ⟨z1, z2, e1, e2, ⟨y2.2, hC⟩, ⟨pl', _, _, _, _, _, _, _, hR⟩, n, hn, k1.trans l1, ((Re_len hR).symm.trans (k2.trans (Re_len hm))).trans l2⟩
theorem Pq_27_ok : Pq_27 NN R2 := by
  intro pl sX sG ru q sR PS SS sM h sMi sA fo a1
  obtain ⟨⟨sM', hc⟩, ⟨pl', sX', sG', ru', q', sR', PS', SS', hm⟩, n, hn, l1, l2⟩ := h
  obtain ⟨z1, y2, _, e1, _, _, _, _, _⟩ := P_27_ok _ _ _ _ _ _ _ _ _ hc sMi sA fo a1
  obtain ⟨y1, z2, _, f1, e2, _, _, _, hR⟩ := P_27_ok _ _ _ _ _ _ _ _ _ hm sMi sA fo a1
  exact ⟨z1, z2, e1, e2, ⟨sM', hc⟩, ⟨pl', sX', sG', ru', q', sR', PS', SS', hR⟩, n, hn, l1, ((Re_len hR).symm.trans (Re_len hm)).trans l2⟩
theorem Pq_28_ok : Pq_28 NN R2 := by
  intro pl sX sG ru q sR PS SS sM h sMi sA fo a1
  obtain ⟨⟨sM', hc⟩, ⟨pl', sX', sG', ru', q', sR', PS', SS', hm⟩, n, hn, l1, l2⟩ := h
  obtain ⟨z1, y2, _, e1, _, _, _, _, hC⟩ := P_28_ok _ _ _ _ _ _ _ _ _ hc sMi sA fo a1
  obtain ⟨y1, z2, _, f1, e2, _, _, _, hR⟩ := P_28_ok _ _ _ _ _ _ _ _ _ hm sMi sA fo a1
  have k1 := len_28 _ e1
  have k2 := len_28 _ f1
  exact ⟨z1, z2, e1, e2, ⟨y2.2, hC⟩, ⟨pl', _, _, _, _, _, _, _, hR⟩, n, hn, k1.trans l1, ((Re_len hR).symm.trans (k2.trans (Re_len hm))).trans l2⟩
theorem Pq_29_ok : Pq_29 NN R2 := by
  intro pl sX sG ru q sR PS SS sM h sP sMi sA
  obtain ⟨⟨sM', hc⟩, ⟨pl', sX', sG', ru', q', sR', PS', SS', hm⟩, n, hn, l1, l2⟩ := h
  obtain ⟨z1, y2, e1, _, _, _⟩ := P_29_ok _ _ _ _ _ _ _ _ _ hc sP sMi sA
  obtain ⟨y1, z2, f1, e2, _, hR⟩ := P_29_ok _ _ _ _ _ _ _ _ _ hm sP sMi sA
  exact ⟨z1, z2, e1, e2, ⟨sM', hc⟩, ⟨pl', sX', sG', ru', q', sR', PS', SS', hR⟩, n, hn, l1, ((Re_len hR).symm.trans (Re_len hm)).trans l2⟩
theorem Pq_30_ok : Pq_30 NN R2 := by
  intro pl sX sG ru q sR PS SS sM h 
  obtain ⟨⟨sM', hc⟩, ⟨pl', sX', sG', ru', q', sR', PS', SS', hm⟩, n, hn, l1, l2⟩ := h
  obtain ⟨z1, y2, e1, _, _, _⟩ := P_30_ok _ _ _ _ _ _ _ _ _ hc 
  obtain ⟨y1, z2, f1, e2, _, hR⟩ := P_30_ok _ _ _ _ _ _ _ _ _ hm 
  exact ⟨z1, z2, e1, e2, ⟨sM', hc⟩, ⟨pl', sX', sG', ru', q', sR', PS', SS', hR⟩, n, hn, l1, ((Re_len hR).symm.trans (Re_len hm)).trans l2⟩
theorem Pq_31_ok : Pq_31 NN R2 := by
  intro pl sX sG ru q sR PS SS sM h 
  obtain ⟨⟨sM', hc⟩, ⟨pl', sX', sG', ru', q', sR', PS', SS', hm⟩, n, hn, l1, l2⟩ := h
  obtain ⟨z1, y2, e1, _, _, _⟩ := P_31_ok _ _ _ _ _ _ _ _ _ hc 
  obtain ⟨y1, z2, f1, e2, _, hR⟩ := P_31_ok _ _ _ _ _ _ _ _ _ hm 
  exact ⟨z1, z2, e1, e2, ⟨sM', hc⟩, ⟨pl', sX', sG', ru', q', sR', PS', SS', hR⟩, n, hn, l1, ((Re_len hR).symm.trans (Re_len hm)).trans l2⟩
theorem Pq_36_ok : Pq_36 NN R2 := by
  intro pl sX sG ru q sR PS SS sM h fo a1
  obtain ⟨⟨sM', hc⟩, ⟨pl', sX', sG', ru', q', sR', PS', SS', hm⟩, n, hn, l1, l2⟩ := h
  obtain ⟨z1, y2, _, e1, _, _, _, _, _⟩ := P_36_ok _ _ _ _ _ _ _ _ _ hc fo a1
  obtain ⟨y1, z2, _, f1, e2, _, _, _, hR⟩ := P_36_ok _ _ _ _ _ _ _ _ _ hm fo a1
  exact ⟨z1, z2, e1, e2, ⟨sM', hc⟩, ⟨pl', sX', sG', ru', q', sR', PS', SS', hR⟩, n, hn, l1, ((Re_len hR).symm.trans (Re_len hm)).trans l2⟩
theorem Pq_37_ok : Pq_37 NN R2 := by
  intro pl sX sG ru q sR PS SS sM h fo a1 a2
  obtain ⟨⟨sM', hc⟩, ⟨pl', sX', sG', ru', q', sR', PS', SS', hm⟩, n, hn, l1, l2⟩ := h
  obtain ⟨z1, y2, _, e1, _, _, _, _, _⟩ := P_37_ok _ _ _ _ _ _ _ _ _ hc fo a1 a2
  obtain ⟨y1, z2, _, f1, e2, _, _, _, hR⟩ := P_37_ok _ _ _ _ _ _ _ _ _ hm fo a1 a2
  exact ⟨z1, z2, e1, e2, ⟨sM', hc⟩, ⟨pl', sX', sG', ru', q', sR', PS', SS', hR⟩, n, hn, l1, ((Re_len hR).symm.trans (Re_len hm)).trans l2⟩
theorem Pq_38_ok : Pq_38 NN R2 := by
  intro pl sX sG ru q sR PS SS sM h 
  obtain ⟨⟨sM', hc⟩, ⟨pl', sX', sG', ru', q', sR', PS', SS', hm⟩, n, hn, l1, l2⟩ := h
  obtain ⟨z1, y2, e1, _, _, ⟨ru2, hp, hC⟩⟩ := P_38_ok _ _ _ _ _ _ _ _ _ hc 
  obtain ⟨y1, z2, f1, e2, _, ⟨ru3, hp3, hR⟩⟩ := P_38_ok _ _ _ _ _ _ _ _ _ hm 
  have k1 := len_38 _ e1
  have k2 := len_38 _ f1
  exact ⟨z1, z2, e1, e2, ru2, hp, ⟨y2.2, hC⟩, ⟨pl', _, _, _, _, _, _, _, hR⟩, n, hn, k1.trans l1, ((Re_len hR).symm.trans (k2.trans (Re_len hm))).trans l2⟩
theorem Pq_39a_ok : Pq_39a NN R2 := by
  intro pl sX sG ru q sR PS SS sM h fo a1 a2 h0
  obtain ⟨⟨sM', hc⟩, ⟨pl', sX', sG', ru', q', sR', PS', SS', hm⟩, n, hn, l1, l2⟩ := h
  obtain ⟨z1, y2, _, e1, _, _, _, _, hC⟩ := P_39a_ok _ _ _ _ _ _ _ _ _ hc fo a1 a2 h0
  obtain ⟨y1, z2, _, f1, e2, _, _, _, hR⟩ := P_39a_ok _ _ _ _ _ _ _ _ _ hm fo a1 a2 h0
  have k1 := len_39 _ e1
  have k2 := len_39 _ f1
  exact ⟨z1, z2, e1, e2, ⟨y2.2, hC⟩, ⟨pl', _, _, _, _, _, _, _, hR⟩, n, hn, k1.trans l1, ((Re_len hR).symm.trans (k2.trans (Re_len hm))).trans l2⟩
theorem Pq_39b_ok : Pq_39b NN R2 := by
  intro pl sX sG ru q sR PS SS sM h fo a1 a2 h0
  obtain ⟨⟨sM', hc⟩, ⟨pl', sX', sG', ru', q', sR', PS', SS', hm⟩, n, hn, l1, l2⟩ := h
  obtain ⟨z1, y2, _, e1, _, _, _, _, hC⟩ := P_39b_ok _ _ _ _ _ _ _ _ _ hc fo a1 a2 h0
  obtain ⟨y1, z2, _, f1, e2, _, _, _, hR⟩ := P_39b_ok _ _ _ _ _ _ _ _ _ hm fo a1 a2 h0
  have k1 := len_39 _ e1
  have k2 := len_39 _ f1
  exact ⟨z1, z2, e1, e2, ⟨y2.2, hC⟩, ⟨pl', _, _, _, _, _, _, _, hR⟩, n, hn, k1.trans l1, ((Re_len hR).symm.trans (k2.trans (Re_len hm))).trans l2⟩
theorem Pq_40_ok : Pq_40 NN R2 := by
  intro pl sX sG ru q sR PS SS sM h a1
  obtain ⟨⟨sM', hc⟩, ⟨pl', sX', sG', ru', q', sR', PS', SS', hm⟩, n, hn, l1, l2⟩ := h
  obtain ⟨z1, y2, e1, _, _, _⟩ := P_40_ok _ _ _ _ _ _ _ _ _ hc a1
  obtain ⟨y1, z2, f1, e2, _, hR⟩ := P_40_ok _ _ _ _ _ _ _ _ _ hm a1
  exact ⟨z1, z2, e1, e2, ⟨sM', hc⟩, ⟨pl', sX', sG', ru', q', sR', PS', SS', hR⟩, n, hn, l1, ((Re_len hR).symm.trans (Re_len hm)).trans l2⟩
theorem Pq_41_ok : Pq_41 NN R2 := by
  intro pl sX sG ru q sR PS SS sM h fo a1
  obtain ⟨⟨sM', hc⟩, ⟨pl', sX', sG', ru', q', sR', PS', SS', hm⟩, n, hn, l1, l2⟩ := h
  obtain ⟨z1, y2, _, e1, _, _, _, _, hC⟩ := P_41_ok _ _ _ _ _ _ _ _ _ hc fo a1
  obtain ⟨y1, z2, _, f1, e2, _, _, _, hR⟩ := P_41_ok _ _ _ _ _ _ _ _ _ hm fo a1
  have k1 := len_41 _ e1
  have k2 := len_41 _ f1
  exact ⟨z1, z2, e1, e2, ⟨y2.2, hC⟩, ⟨pl', _, _, _, _, _, _, _, hR⟩, n, hn, k1.trans l1, ((Re_len hR).symm.trans (k2.trans (Re_len hm))).trans l2⟩
theorem Pq_42_ok : Pq_42 NN R2 := by
  intro pl sX sG ru q sR PS SS sM h fo a1
  obtain ⟨⟨sM', hc⟩, ⟨pl', sX', sG', ru', q', sR', PS', SS', hm⟩, n, hn, l1, l2⟩ := h
  obtain ⟨z1, y2, _, e1, _, _, _, _, ⟨ru2, hp, hC⟩⟩ := P_42_ok _ _ _ _ _ _ _ _ _ hc fo a1
  obtain ⟨y1, z2, _, f1, e2, _, _, _, ⟨ru3, hp3, hR⟩⟩ := P_42_ok _ _ _ _ _ _ _ _ _ hm fo a1
  have k1 := len_42 _ e1
  have k2 := len_42 _ f1
  exact ⟨z1, z2, e1, e2, ru2, hp, ⟨y2.2, hC⟩, ⟨pl', _, _, _, _, _, _, _, hR⟩, n, hn, k1.trans l1, ((Re_len hR).symm.trans (k2.trans (Re_len hm))).trans l2⟩
