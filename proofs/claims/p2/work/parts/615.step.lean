/-! OWN, written by wip/whole/pure/gen615.py: the pure half: changes of a single number of a game -/
def up (a : Gm) (k v : Nat) : Gm := fun i => if i = k then v else a i
theorem up_eq (a : Gm) (k v : Nat) : up a k v k = v := if_pos rfl
theorem up_ne {a : Gm} {k v i : Nat} (h : i ≠ k) : up a k v i = a i := if_neg h
theorem up_comm {a : Gm} {k v j w : Nat} (h : k ≠ j) : up (up a k v) j w = up (up a j w) k v := by
  funext i
  unfold up
  by_cases h1 : i = j
  · rw [if_pos h1, if_neg (by omega), if_pos h1]
  · rw [if_neg h1, if_neg h1]
theorem sa_sa (s : Ob) (k : Nat) (f g : Nat → Int32) : sa (sa s k f) k g = sa s k g := by
  unfold sa
  simp only
  congr 3
  funext j
  split <;> rfl
theorem encR_up {a : Gm} {L r : Nat → Int32} {k v : Nat} {x : Int32} (h : encR a L r) (hk : k < 238) (h9 : k ≠ 9) (hx : x = iN v) : encR (up a k v) L (upd r k x) := by
  refine ⟨fun j hj hj9 => ?_, ?_, fun j hj => ?_⟩
  · rw [upd_at]
    by_cases e : j = k
    · rw [if_pos e, e, up_eq, hx]
    · rw [if_neg e, up_ne e]; exact h.1 j hj hj9
  · rw [upd_at, if_neg (fun q => h9 q.symm), up_ne (fun q => h9 q.symm)]; exact h.2.1
  · rw [upd_at, if_neg (by omega)]; exact h.2.2 j hj
theorem encR_up9 {a : Gm} {L r : Nat → Int32} {v : Nat} {x : Int32} (h : encR a L r) (hx : x = iN v - 1) : encR (up a 9 v) L (upd r 9 x) := by
  refine ⟨fun j hj hj9 => ?_, ?_, fun j hj => ?_⟩
  · rw [upd_at, if_neg hj9, up_ne hj9]; exact h.1 j hj hj9
  · rw [upd_at, if_pos rfl, up_eq, hx]
  · rw [upd_at, if_neg (by omega)]; exact h.2.2 j hj
theorem encR_log {a : Gm} {L r : Nat → Int32} {j : Nat} {x : Int32} (h : encR a L r) (hj : j < 120) : encR a (upd L j x) (upd r (238 + j) x) := by
  refine ⟨fun i hi h9 => ?_, ?_, fun i hi => ?_⟩
  · rw [upd_at, if_neg (by omega)]; exact h.1 i hi h9
  · rw [upd_at, if_neg (by omega)]; exact h.2.1
  · rw [upd_at, upd_at]
    by_cases e : i = j
    · rw [if_pos (by omega), if_pos e]
    · rw [if_neg (by omega), if_neg e]; exact h.2.2 i hi
/-- a row whose game is told in another way -/
theorem encR_congr {a b : Gm} {L r : Nat → Int32} (h : encR a L r) (e : ∀ i, i < 238 → b i = a i) : encR b L r :=
  ⟨fun j hj h9 => by rw [e j hj]; exact h.1 j hj h9, by rw [e 9 (by omega)]; exact h.2.1, h.2.2⟩
theorem encG_congr {a b : Gm} {L : Nat → Int32} {s : Ob} (hw : ∀ p, p < 4 → a (187 + p) ≤ 5) (h : encG a L s) (e : ∀ i, i < 238 → i ≠ 12 → i ≠ 13 → b i = a i) : encG b L s := by
  obtain ⟨g1, g2, g3, g4, g5, g6, g7, g8, g9, g10, g11, g12, g13, g14, g15⟩ := h
  refine ⟨?_, ?_, ?_, ?_, ?_, ?_, ?_, ?_, ?_, ?_, ?_, ?_, ?_, ?_, g15⟩
  · rw [e 5 (by omega) (by omega) (by omega)]; exact g1
  · rw [e 7 (by omega) (by omega) (by omega)]; exact g2
  · rw [e 8 (by omega) (by omega) (by omega)]; exact g3
  · rw [e 10 (by omega) (by omega) (by omega)]; exact g4
  · rw [e 11 (by omega) (by omega) (by omega)]; exact g5
  · rw [e 9 (by omega) (by omega) (by omega)]; exact g6
  · intro k hk; rw [e _ (by omega) (by omega) (by omega)]; exact g7 k hk
  · intro k hk; rw [e _ (by omega) (by omega) (by omega)]; exact g8 k hk
  · intro p j hp hj
    rw [e _ (by omega) (by omega) (by omega)] at hj
    have := hw p hp
    rw [e _ (by omega) (by omega) (by omega)]; exact g9 p j hp hj
  · intro k hk; rw [e _ (by omega) (by omega) (by omega)]; exact g10 k hk
  · intro k hk; rw [e _ (by omega) (by omega) (by omega)]; exact g11 k hk
  · intro k hk; rw [e _ (by omega) (by omega) (by omega)]; exact g12 k hk
  · intro k hk; rw [e _ (by omega) (by omega) (by omega)]; exact g13 k hk
  · intro k hk; rw [e _ (by omega) (by omega) (by omega), e _ (by omega) (by omega) (by omega)]; exact g14 k hk
theorem g_drawn {a : Gm} {L : Nat → Int32} {s : Ob} {v : Nat} (hs : ∀ p, p < 4 → a (187 + p) ≤ 5) (h : encG a L s) : encG (up a 5 v) L (si s 1 (iN v)) := by
  obtain ⟨g1, g2, g3, g4, g5, g6, g7, g8, g9, g10, g11, g12, g13, g14, g15⟩ := h
  refine ⟨?_, ?_, ?_, ?_, ?_, ?_, ?_, ?_, ?_, ?_, ?_, ?_, ?_, ?_, g15⟩
  · rw [up_eq]; rfl
  · rw [up_ne (by omega)]; exact g2
  · rw [up_ne (by omega)]; exact g3
  · rw [up_ne (by omega)]; exact g4
  · rw [up_ne (by omega)]; exact g5
  · rw [up_ne (by omega)]; exact g6
  · intro k hk; rw [up_ne (by omega)]; exact g7 k hk
  · intro k hk; rw [up_ne (by omega)]; exact g8 k hk
  · intro p j hp hj
    rw [up_ne (by omega)] at hj
    have := hs p hp
    rw [up_ne (by omega)]; exact g9 p j hp hj
  · intro k hk; rw [up_ne (by omega)]; exact g10 k hk
  · intro k hk; rw [up_ne (by omega)]; exact g11 k hk
  · intro k hk; rw [up_ne (by omega)]; exact g12 k hk
  · intro k hk; rw [up_ne (by omega)]; exact g13 k hk
  · intro k hk; rw [up_ne (by omega), up_ne (by omega)]; exact g14 k hk
theorem g_tok {a : Gm} {L : Nat → Int32} {s : Ob} {v : Nat} (hs : ∀ p, p < 4 → a (187 + p) ≤ 5) (h : encG a L s) : encG (up a 7 v) L (si s 2 (iN v)) := by
  obtain ⟨g1, g2, g3, g4, g5, g6, g7, g8, g9, g10, g11, g12, g13, g14, g15⟩ := h
  refine ⟨?_, ?_, ?_, ?_, ?_, ?_, ?_, ?_, ?_, ?_, ?_, ?_, ?_, ?_, g15⟩
  · rw [up_ne (by omega)]; exact g1
  · rw [up_eq]; rfl
  · rw [up_ne (by omega)]; exact g3
  · rw [up_ne (by omega)]; exact g4
  · rw [up_ne (by omega)]; exact g5
  · rw [up_ne (by omega)]; exact g6
  · intro k hk; rw [up_ne (by omega)]; exact g7 k hk
  · intro k hk; rw [up_ne (by omega)]; exact g8 k hk
  · intro p j hp hj
    rw [up_ne (by omega)] at hj
    have := hs p hp
    rw [up_ne (by omega)]; exact g9 p j hp hj
  · intro k hk; rw [up_ne (by omega)]; exact g10 k hk
  · intro k hk; rw [up_ne (by omega)]; exact g11 k hk
  · intro k hk; rw [up_ne (by omega)]; exact g12 k hk
  · intro k hk; rw [up_ne (by omega)]; exact g13 k hk
  · intro k hk; rw [up_ne (by omega), up_ne (by omega)]; exact g14 k hk
theorem g_lives {a : Gm} {L : Nat → Int32} {s : Ob} {v : Nat} (hs : ∀ p, p < 4 → a (187 + p) ≤ 5) (h : encG a L s) : encG (up a 8 v) L (si s 3 (iN v)) := by
  obtain ⟨g1, g2, g3, g4, g5, g6, g7, g8, g9, g10, g11, g12, g13, g14, g15⟩ := h
  refine ⟨?_, ?_, ?_, ?_, ?_, ?_, ?_, ?_, ?_, ?_, ?_, ?_, ?_, ?_, g15⟩
  · rw [up_ne (by omega)]; exact g1
  · rw [up_ne (by omega)]; exact g2
  · rw [up_eq]; rfl
  · rw [up_ne (by omega)]; exact g4
  · rw [up_ne (by omega)]; exact g5
  · rw [up_ne (by omega)]; exact g6
  · intro k hk; rw [up_ne (by omega)]; exact g7 k hk
  · intro k hk; rw [up_ne (by omega)]; exact g8 k hk
  · intro p j hp hj
    rw [up_ne (by omega)] at hj
    have := hs p hp
    rw [up_ne (by omega)]; exact g9 p j hp hj
  · intro k hk; rw [up_ne (by omega)]; exact g10 k hk
  · intro k hk; rw [up_ne (by omega)]; exact g11 k hk
  · intro k hk; rw [up_ne (by omega)]; exact g12 k hk
  · intro k hk; rw [up_ne (by omega)]; exact g13 k hk
  · intro k hk; rw [up_ne (by omega), up_ne (by omega)]; exact g14 k hk
theorem g_turn {a : Gm} {L : Nat → Int32} {s : Ob} {v : Nat} (hs : ∀ p, p < 4 → a (187 + p) ≤ 5) (h : encG a L s) : encG (up a 10 v) L (si s 4 (iN v)) := by
  obtain ⟨g1, g2, g3, g4, g5, g6, g7, g8, g9, g10, g11, g12, g13, g14, g15⟩ := h
  refine ⟨?_, ?_, ?_, ?_, ?_, ?_, ?_, ?_, ?_, ?_, ?_, ?_, ?_, ?_, g15⟩
  · rw [up_ne (by omega)]; exact g1
  · rw [up_ne (by omega)]; exact g2
  · rw [up_ne (by omega)]; exact g3
  · rw [up_eq]; rfl
  · rw [up_ne (by omega)]; exact g5
  · rw [up_ne (by omega)]; exact g6
  · intro k hk; rw [up_ne (by omega)]; exact g7 k hk
  · intro k hk; rw [up_ne (by omega)]; exact g8 k hk
  · intro p j hp hj
    rw [up_ne (by omega)] at hj
    have := hs p hp
    rw [up_ne (by omega)]; exact g9 p j hp hj
  · intro k hk; rw [up_ne (by omega)]; exact g10 k hk
  · intro k hk; rw [up_ne (by omega)]; exact g11 k hk
  · intro k hk; rw [up_ne (by omega)]; exact g12 k hk
  · intro k hk; rw [up_ne (by omega)]; exact g13 k hk
  · intro k hk; rw [up_ne (by omega), up_ne (by omega)]; exact g14 k hk
theorem g_taken {a : Gm} {L : Nat → Int32} {s : Ob} {v : Nat} (hs : ∀ p, p < 4 → a (187 + p) ≤ 5) (h : encG a L s) : encG (up a 11 v) L (si s 5 (iN v)) := by
  obtain ⟨g1, g2, g3, g4, g5, g6, g7, g8, g9, g10, g11, g12, g13, g14, g15⟩ := h
  refine ⟨?_, ?_, ?_, ?_, ?_, ?_, ?_, ?_, ?_, ?_, ?_, ?_, ?_, ?_, g15⟩
  · rw [up_ne (by omega)]; exact g1
  · rw [up_ne (by omega)]; exact g2
  · rw [up_ne (by omega)]; exact g3
  · rw [up_ne (by omega)]; exact g4
  · rw [up_eq]; rfl
  · rw [up_ne (by omega)]; exact g6
  · intro k hk; rw [up_ne (by omega)]; exact g7 k hk
  · intro k hk; rw [up_ne (by omega)]; exact g8 k hk
  · intro p j hp hj
    rw [up_ne (by omega)] at hj
    have := hs p hp
    rw [up_ne (by omega)]; exact g9 p j hp hj
  · intro k hk; rw [up_ne (by omega)]; exact g10 k hk
  · intro k hk; rw [up_ne (by omega)]; exact g11 k hk
  · intro k hk; rw [up_ne (by omega)]; exact g12 k hk
  · intro k hk; rw [up_ne (by omega)]; exact g13 k hk
  · intro k hk; rw [up_ne (by omega), up_ne (by omega)]; exact g14 k hk
theorem g_left {a : Gm} {L : Nat → Int32} {s : Ob} {v : Nat} (hs : ∀ p, p < 4 → a (187 + p) ≤ 5) (h : encG a L s) : encG (up a 9 v) L (si s 6 (iN v - 1)) := by
  obtain ⟨g1, g2, g3, g4, g5, g6, g7, g8, g9, g10, g11, g12, g13, g14, g15⟩ := h
  refine ⟨?_, ?_, ?_, ?_, ?_, ?_, ?_, ?_, ?_, ?_, ?_, ?_, ?_, ?_, g15⟩
  · rw [up_ne (by omega)]; exact g1
  · rw [up_ne (by omega)]; exact g2
  · rw [up_ne (by omega)]; exact g3
  · rw [up_ne (by omega)]; exact g4
  · rw [up_ne (by omega)]; exact g5
  · rw [up_eq]; rfl
  · intro k hk; rw [up_ne (by omega)]; exact g7 k hk
  · intro k hk; rw [up_ne (by omega)]; exact g8 k hk
  · intro p j hp hj
    rw [up_ne (by omega)] at hj
    have := hs p hp
    rw [up_ne (by omega)]; exact g9 p j hp hj
  · intro k hk; rw [up_ne (by omega)]; exact g10 k hk
  · intro k hk; rw [up_ne (by omega)]; exact g11 k hk
  · intro k hk; rw [up_ne (by omega)]; exact g12 k hk
  · intro k hk; rw [up_ne (by omega)]; exact g13 k hk
  · intro k hk; rw [up_ne (by omega), up_ne (by omega)]; exact g14 k hk
theorem g_total {a : Gm} {L : Nat → Int32} {s : Ob} {v : Nat} {m : Nat} (hm : m < 7) (hs : ∀ p, p < 4 → a (187 + p) ≤ 5) (h : encG a L s) : encG (up a (231 + m) v) L (sa s 7 (upd (s.2.2.1 7) m (iN v))) := by
  obtain ⟨g1, g2, g3, g4, g5, g6, g7, g8, g9, g10, g11, g12, g13, g14, g15⟩ := h
  refine ⟨?_, ?_, ?_, ?_, ?_, ?_, ?_, ?_, ?_, ?_, ?_, ?_, ?_, ?_, g15⟩
  · rw [up_ne (by omega)]; exact g1
  · rw [up_ne (by omega)]; exact g2
  · rw [up_ne (by omega)]; exact g3
  · rw [up_ne (by omega)]; exact g4
  · rw [up_ne (by omega)]; exact g5
  · rw [up_ne (by omega)]; exact g6
  · intro k hk
    show upd (s.2.2.1 7) m (iN v) k = _
    rw [upd_at]
    by_cases e : k = m
    · rw [if_pos e, e, up_eq]
    · rw [if_neg e, up_ne (by omega)]; exact g7 k hk
  · intro k hk; rw [up_ne (by omega)]; exact g8 k hk
  · intro p j hp hj
    rw [up_ne (by omega)] at hj
    have := hs p hp
    rw [up_ne (by omega)]; exact g9 p j hp hj
  · intro k hk; rw [up_ne (by omega)]; exact g10 k hk
  · intro k hk; rw [up_ne (by omega)]; exact g11 k hk
  · intro k hk; rw [up_ne (by omega)]; exact g12 k hk
  · intro k hk; rw [up_ne (by omega)]; exact g13 k hk
  · intro k hk; rw [up_ne (by omega), up_ne (by omega)]; exact g14 k hk
theorem g_top {a : Gm} {L : Nat → Int32} {s : Ob} {v : Nat} {m : Nat} (hm : m < 4) (hs : ∀ p, p < 4 → a (187 + p) ≤ 5) (h : encG a L s) : encG (up a (14 + m) v) L (sa s 11 (upd (s.2.2.1 11) m (iN v))) := by
  obtain ⟨g1, g2, g3, g4, g5, g6, g7, g8, g9, g10, g11, g12, g13, g14, g15⟩ := h
  refine ⟨?_, ?_, ?_, ?_, ?_, ?_, ?_, ?_, ?_, ?_, ?_, ?_, ?_, ?_, g15⟩
  · rw [up_ne (by omega)]; exact g1
  · rw [up_ne (by omega)]; exact g2
  · rw [up_ne (by omega)]; exact g3
  · rw [up_ne (by omega)]; exact g4
  · rw [up_ne (by omega)]; exact g5
  · rw [up_ne (by omega)]; exact g6
  · intro k hk; rw [up_ne (by omega)]; exact g7 k hk
  · intro k hk; rw [up_ne (by omega)]; exact g8 k hk
  · intro p j hp hj
    rw [up_ne (by omega)] at hj
    have := hs p hp
    rw [up_ne (by omega)]; exact g9 p j hp hj
  · intro k hk; rw [up_ne (by omega)]; exact g10 k hk
  · intro k hk
    show upd (s.2.2.1 11) m (iN v) k = _
    rw [upd_at]
    by_cases e : k = m
    · rw [if_pos e, e, up_eq]
    · rw [if_neg e, up_ne (by omega)]; exact g11 k hk
  · intro k hk; rw [up_ne (by omega)]; exact g12 k hk
  · intro k hk; rw [up_ne (by omega)]; exact g13 k hk
  · intro k hk; rw [up_ne (by omega), up_ne (by omega)]; exact g14 k hk
theorem g_heap {a : Gm} {L : Nat → Int32} {s : Ob} {v : Nat} {m : Nat} (hm : m < 20) (hs : ∀ p, p < 4 → a (187 + p) ≤ 5) (h : encG a L s) : encG (up a (211 + m) v) L (sa s 12 (upd (s.2.2.1 12) m (iN v))) := by
  obtain ⟨g1, g2, g3, g4, g5, g6, g7, g8, g9, g10, g11, g12, g13, g14, g15⟩ := h
  refine ⟨?_, ?_, ?_, ?_, ?_, ?_, ?_, ?_, ?_, ?_, ?_, ?_, ?_, ?_, g15⟩
  · rw [up_ne (by omega)]; exact g1
  · rw [up_ne (by omega)]; exact g2
  · rw [up_ne (by omega)]; exact g3
  · rw [up_ne (by omega)]; exact g4
  · rw [up_ne (by omega)]; exact g5
  · rw [up_ne (by omega)]; exact g6
  · intro k hk; rw [up_ne (by omega)]; exact g7 k hk
  · intro k hk; rw [up_ne (by omega)]; exact g8 k hk
  · intro p j hp hj
    rw [up_ne (by omega)] at hj
    have := hs p hp
    rw [up_ne (by omega)]; exact g9 p j hp hj
  · intro k hk; rw [up_ne (by omega)]; exact g10 k hk
  · intro k hk; rw [up_ne (by omega)]; exact g11 k hk
  · intro k hk
    show upd (s.2.2.1 12) m (iN v) k = _
    rw [upd_at]
    by_cases e : k = m
    · rw [if_pos e, e, up_eq]
    · rw [if_neg e, up_ne (by omega)]; exact g12 k hk
  · intro k hk; rw [up_ne (by omega)]; exact g13 k hk
  · intro k hk; rw [up_ne (by omega), up_ne (by omega)]; exact g14 k hk
theorem g_word {a : Gm} {L : Nat → Int32} {s : Ob} {v : Nat} {m : Nat} (hm : m < 9) (hs : ∀ p, p < 4 → a (187 + p) ≤ 5) (h : encG a L s) : encG (up a (18 + m) v) L (sa s 13 (upd (s.2.2.1 13) m (iN v))) := by
  obtain ⟨g1, g2, g3, g4, g5, g6, g7, g8, g9, g10, g11, g12, g13, g14, g15⟩ := h
  refine ⟨?_, ?_, ?_, ?_, ?_, ?_, ?_, ?_, ?_, ?_, ?_, ?_, ?_, ?_, g15⟩
  · rw [up_ne (by omega)]; exact g1
  · rw [up_ne (by omega)]; exact g2
  · rw [up_ne (by omega)]; exact g3
  · rw [up_ne (by omega)]; exact g4
  · rw [up_ne (by omega)]; exact g5
  · rw [up_ne (by omega)]; exact g6
  · intro k hk; rw [up_ne (by omega)]; exact g7 k hk
  · intro k hk; rw [up_ne (by omega)]; exact g8 k hk
  · intro p j hp hj
    rw [up_ne (by omega)] at hj
    have := hs p hp
    rw [up_ne (by omega)]; exact g9 p j hp hj
  · intro k hk; rw [up_ne (by omega)]; exact g10 k hk
  · intro k hk; rw [up_ne (by omega)]; exact g11 k hk
  · intro k hk; rw [up_ne (by omega)]; exact g12 k hk
  · intro k hk
    show upd (s.2.2.1 13) m (iN v) k = _
    rw [upd_at]
    by_cases e : k = m
    · rw [if_pos e, e, up_eq]
    · rw [if_neg e, up_ne (by omega)]; exact g13 k hk
  · intro k hk; rw [up_ne (by omega), up_ne (by omega)]; exact g14 k hk
theorem g_log {a : Gm} {L : Nat → Int32} {s : Ob} {m : Nat} {x : Int32} (h : encG a L s) : encG a (upd L m x) (sa s 15 (upd (s.2.2.1 15) m x)) := by
  obtain ⟨g1, g2, g3, g4, g5, g6, g7, g8, g9, g10, g11, g12, g13, g14, g15⟩ := h
  refine ⟨g1, g2, g3, g4, g5, g6, g7, g8, g9, g10, g11, g12, g13, g14, fun k hk => ?_⟩
  show upd (s.2.2.1 15) m x k = _
  rw [upd_at, upd_at]
  by_cases e : k = m
  · rw [if_pos e, if_pos e]
  · rw [if_neg e, if_neg e]; exact g15 k hk
theorem g_13 {a : Gm} {L : Nat → Int32} {s : Ob} {v : Nat} (hs : ∀ p, p < 4 → a (187 + p) ≤ 5) (h : encG a L s) : encG (up a 13 v) L s := encG_congr hs h fun _ _ _ h13 => up_ne h13
theorem g_12 {a : Gm} {L : Nat → Int32} {s : Ob} {v : Nat} (hs : ∀ p, p < 4 → a (187 + p) ≤ 5) (h : encG a L s) : encG (up a 12 v) L s := encG_congr hs h fun _ _ h12 _ => up_ne h12
