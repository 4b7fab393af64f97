/-! OWN: a game of the class with some row, a row of the model with some game -/
def rowW (a : Gm) (L : Nat → Int32) : Nat → Int32 := fun k => if k = 9 then iN (a 9) - 1 else if k < 238 then iN (a k) else L (k - 238)
theorem rowW_enc (a : Gm) (L : Nat → Int32) : encR a L (rowW a L) := by
  refine ⟨fun k hk h9 => ?_, rfl, fun k hk => ?_⟩
  · unfold rowW
    rw [if_neg h9, if_pos hk]
  · unfold rowW
    rw [if_neg (by omega), if_neg (by omega), show 238 + k - 238 = k by omega]
def gW (a : Gm) (L : Nat → Int32) : Ob := (fun k => if k = 1 then iN (a 5) else if k = 2 then iN (a 7) else if k = 3 then iN (a 8) else if k = 4 then iN (a 10) else if k = 5 then iN (a 11) else iN (a 9) - 1, fun _ => l64 (bnum (fun i => !decide (a (147 + i) = 0)) 40), fun r k => if r = 7 then iN (a (231 + k)) else if r = 9 then iN (a (191 + k)) else if r = 10 then iN (a (187 + k)) else if r = 11 then iN (a (14 + k)) else if r = 12 then iN (a (211 + k)) else if r = 13 then iN (a (18 + k)) else if r = 14 then iN (bnum (fun i => (a (67 + k)).testBit (i / 5) && (a (107 + k)).testBit (i % 5)) 20) else L k, fun _ _ => 0)
theorem gW_enc (a : Gm) (L : Nat → Int32) : encG a L (gW a L) := by
  refine ⟨rfl, rfl, rfl, rfl, rfl, rfl, fun k _ => rfl, fun k hk => ?_, fun p j _ _ => rfl, fun p _ => rfl, fun c _ => rfl, fun k _ => rfl, fun w _ => rfl, fun k _ => ?_, fun k _ => rfl⟩
  · show ((l64 (bnum (fun i => !decide (a (147 + i) = 0)) 40)) >>> ((iN k).toInt64 &&& 63)) &&& 1 = 0 ↔ a (147 + k) = 0
    rw [shrL_eq0 _ (by omega), bitL_ofNat _ _ (by omega), tb_bnum, decide_eq_true hk, Bool.true_and]
    by_cases c : a (147 + k) = 0
    · rw [decide_eq_true c]
      exact iff_of_true rfl c
    · rw [decide_eq_false c]
      exact iff_of_false (by decide) c
  · intro i hi
    show bitI (iN (bnum (fun i => (a (67 + k)).testBit (i / 5) && (a (107 + k)).testBit (i % 5)) 20)) i = _
    rw [bit_iN _ _ hi, tb_bnum]
def rW (a : Gm) : Ob := (fun k => if k = 0 then iN (a 0) else if k = 1 then iN (a 1) else if k = 2 then iN (a 2) else if k = 3 then iN (a 3) else if k = 4 then iN (a 6) else iN (a 4), fun _ => 0, fun r k => if r = 8 then iN (a (27 + k)) else iN (inDk a k 0), fun _ _ => 0)
theorem rW_enc (a : Gm) : encRu a (rW a) := ⟨rfl, rfl, rfl, rfl, fun _ => rfl, rfl, fun k _ => rfl, fun k _ => rfl⟩
section PLM
variable {pl pl' : Nat → Ob → Prop}
theorem same_mono (hp : ∀ a S, pl a S → pl' a S) {sG ru : Ob} {q : Nat} {r : Nat → Int32} (h : sameG pl sG q ru r) : sameG pl' sG q ru r := by
  obtain ⟨a, L, h1, h2, h3, h4, h5⟩ := h
  exact ⟨a, L, h1, h2, h3, h4, hp _ _ h5⟩
theorem past_mono (hp : ∀ a S, pl a S → pl' a S) {sX sM : Ob} {PS : Nat → Nat × Ob} (h : pastOk pl sX PS sM) : pastOk pl' sX PS sM := by
  obtain ⟨n, e, h1, h2, h3, h4, h5, h6⟩ := h
  exact ⟨n, e, h1, h2, h3, h4, h5, fun i hi => by obtain ⟨ru, g⟩ := h6 i hi; exact ⟨ru, same_mono hp g⟩⟩
theorem saved_mono (hp : ∀ a S, pl a S → pl' a S) {sX sM : Ob} {SS : Nat → Nat × Ob} (h : savedOk pl sX SS sM) : savedOk pl' sX SS sM := fun i hi => by
  rcases h i hi with g | ⟨g1, g2, ru, g3⟩
  · exact Or.inl g
  · exact Or.inr ⟨g1, g2, ru, same_mono hp g3⟩
end PLM
/-- what the relation reads of the model -/
theorem Re_fr {pl : Nat → Ob → Prop} {sX sG ru : Ob} {q : Nat} {sR : Ob} {PS SS : Nat → Nat × Ob} {sM s' : Ob} {v : Int32} (h : Re pl sX sG ru q sR PS SS sM) (g : Fr (si sM 7 v) s') : Re pl sX sG ru q sR PS SS s' := by
  obtain ⟨h1, h2, h3, h4, h5, h6, h7⟩ := h
  have r0 : s'.2.2.1 0 = sM.2.2.1 0 := g.1 0 (by omega) (by omega) (by omega)
  have r3 : s'.2.2.1 3 = sM.2.2.1 3 := g.1 3 (by omega) (by omega) (by omega)
  have r4 : s'.2.2.1 4 = sM.2.2.1 4 := g.1 4 (by omega) (by omega) (by omega)
  have r5 : s'.2.2.1 5 = sM.2.2.1 5 := g.1 5 (by omega) (by omega) (by omega)
  have r8 : s'.2.2.1 8 = sM.2.2.1 8 := g.1 8 (by omega) (by omega) (by omega)
  have r29 : s'.2.2.1 29 = sM.2.2.1 29 := g.1 29 (by omega) (by omega) (by omega)
  have e6 : s'.1 6 = sM.1 6 := g.2 6 (by omega)
  have e9 : s'.1 9 = sM.1 9 := g.2 9 (by omega)
  have e16 : s'.1 16 = sM.1 16 := g.2 16 (by omega)
  have e17 : s'.1 17 = sM.1 17 := g.2 17 (by omega)
  have e30 : s'.1 30 = sM.1 30 := g.2 30 (by omega)
  refine ⟨by rw [r0]; exact h1, ?_, ?_, ?_, ?_, by rw [e16]; exact h6, by rw [e17]; exact h7⟩
  · obtain ⟨n, e, k1, k2, k3, k4, k5, k6⟩ := h2
    exact ⟨n, e, k1, k2, k3, k4, by rw [e6]; exact k5, by rw [r3]; exact k6⟩
  · unfold savedOk
    rw [r4, r5]
    exact h3
  · unfold inOk
    rw [e9, r8]
    exact h4
  · unfold outOk
    rw [e30, r29]
    exact h5
theorem Re_len {pl : Nat → Ob → Prop} {sX sG ru : Ob} {q : Nat} {sR : Ob} {PS SS : Nat → Nat × Ob} {sM : Ob} (h : Re pl sX sG ru q sR PS SS sM) : sX.1 1 = sM.1 9 := by
  obtain ⟨n, -, h1, h2, -⟩ := h.2.2.2.1
  exact h1.trans h2.symm
/-- what holds between the calls -/
def R2 : Rl := fun pl sX sG ru q sR PS SS sM => (∃ sM', Re pl sX sG ru q sR PS SS sM') ∧ (∃ (pl' : Nat → Ob → Prop) (sX' sG' ru' : Ob) (q' : Nat) (sR' : Ob) (PS' SS' : Nat → Nat × Ob), Re pl' sX' sG' ru' q' sR' PS' SS' sM) ∧ ∃ n, n ≤ 600 ∧ sX.1 1 = iN n ∧ sM.1 9 = iN n
theorem first_R2 {pl : Nat → Ob → Prop} {q : Nat} {x : Nat → Int32} {PS SS : Nat → Nat × Ob} (h : pl q (iX5 x)) : R2 pl z0 z0 (iX5 x) q iX4 PS SS iX8 := ⟨⟨iX8, first_Re h⟩, ⟨pl, z0, z0, iX5 x, q, iX4, PS, SS, first_Re h⟩, 0, by omega, rfl, rfl⟩
/-! the buffer's length stays where nothing is appended or loaded -/
def Ev {β : Type} (o : Option β) (Q : β → Prop) : Prop := ∀ r, o = some r → Q r
theorem ev_some {β : Type} {r : β} {Q : β → Prop} (h : Q r) : Ev (some r) Q := fun _ e => by cases e; exact h
theorem ev_none {β : Type} {Q : β → Prop} : Ev (none : Option β) Q := fun _ e => by cases e
theorem ev_ob {α β : Type} {x : Option α} {k : α → Option β} {P : α → Prop} {Q : β → Prop} (h : Ev x P) (hk : ∀ r, P r → Ev (k r) Q) : Ev (ob x k) Q := fun r e => by
  cases hx : x with
  | none =>
    rw [hx] at e
    cases e
  | some y =>
    rw [hx, ob_some] at e
    exact hk y (h y hx) r e
theorem ev_ya {β : Type} (o : Option β) : Ev o Ya := fun _ _ => trivial
theorem ev_chk {β : Type} {b : Bool} {x : Option β} {Q : β → Prop} (h : Ev x Q) : Ev (chk b x) Q := fun r e => by
  unfold chk at e
  by_cases c : b = true
  · rw [if_pos c] at e
    exact h r e
  · rw [if_neg c] at e
    cases e
theorem ev_ite {β : Type} {c : Prop} {d : Decidable c} {x y : Option β} {Q : β → Prop} (h1 : Ev x Q) (h2 : Ev y Q) : Ev (if c then x else y) Q := by
  by_cases h : c
  · rw [if_pos h]
    exact h1
  · rw [if_neg h]
    exact h2
theorem ev_th {α β : Type} {x : Option α} {b : Option Nat} {k : α → Option β} {h : Nat → Option β} {P : α → Prop} {Q : β → Prop} (hx : Ev x P) (hk : ∀ r, P r → Ev (k r) Q) (hh : ∀ e, Ev (h e) Q) : Ev (th x b k h) Q := fun r e => by
  rcases th_e e with ⟨y, e1, e2⟩ | ⟨y, e1, e2⟩
  · exact hk y (hx y e1) r e2
  · exact hh y r e2
section LEN
variable {N q : Nat} {s0 s1 s2 s3 s4 : Ob} {PS SS : Nat → Nat × Ob} {fo : Nat → Int64} {p1 p2 p3 : Int32}
theorem rem_len : Ev (f_X7_remember N q s0 s1 PS) (fun z => z.1.1 1 = s0.1 1) := by
  unfold f_X7_remember
  exact ev_chk (ev_ob (ev_ya _) (fun _ _ => ev_ite (fun r e => by cases e; rfl) (fun r e => by cases e; rfl)))
theorem len_23 : Ev (f_L_play N q s0 s1 s2 fo PS p1) (fun z => z.2.1.1 1 = s0.1 1) := by
  unfold f_L_play
  refine ev_th (P := fun z => z.2.1.1 1 = s0.1 1) ?_ (fun r h => ev_some h) (fun e => ev_ite (ev_some rfl) ev_none)
  unfold f_X7_play
  exact ev_ob (ev_ya _) (fun _ _ => ev_ite (ev_ob (ev_ya _) (fun _ _ => ev_ob rem_len (fun x3 h3 => ev_ob (ev_ya _) (fun _ _ => ev_ob (ev_ya _) (fun _ _ => ev_some h3))))) (ev_some rfl))
theorem len_24 : Ev (f_L_discard N q s0 s1 s2 fo PS p1) (fun z => z.2.1.1 1 = s0.1 1) := by
  unfold f_L_discard
  refine ev_th (P := fun z => z.2.1.1 1 = s0.1 1) ?_ (fun r h => ev_some h) (fun e => ev_ite (ev_some rfl) ev_none)
  unfold f_X7_discard
  exact ev_ob (ev_ya _) (fun _ _ => ev_ite (ev_ob (ev_ya _) (fun _ _ => ev_ob rem_len (fun x3 h3 => ev_ob (ev_ya _) (fun _ _ => ev_some h3)))) (ev_some rfl))
theorem len_25 : Ev (f_L_hint N q s0 s1 s2 fo PS p1 p2 p3) (fun z => z.2.1.1 1 = s0.1 1) := by
  unfold f_L_hint
  refine ev_th (P := fun z => z.2.1.1 1 = s0.1 1) ?_ (fun r h => ev_some h) (fun e => ev_ite (ev_some rfl) (ev_ite (ev_some rfl) ev_none))
  have h41 : ∀ v, Ev (f_X7_hint_41 N q s2 p1 p2 p3 v s0 s1 PS) (fun z => z.2.1.1 1 = s0.1 1) := fun v => by
    unfold f_X7_hint_41
    exact ev_ob (ev_ya _) (fun _ _ => ev_ite (ev_ite (ev_ob (ev_ya _) (fun _ _ => ev_ite (ev_some rfl) (ev_ob rem_len (fun x5 h5 => ev_ob (ev_ya _) (fun _ _ => ev_some h5))))) (ev_some rfl)) (ev_some rfl))
  unfold f_X7_hint
  exact ev_ob (ev_ya _) (fun _ _ => ev_ob (ev_ya _) (fun _ _ => ev_ite (ev_ite ev_none (h41 _)) (h41 _)))
theorem len_26 : Ev (f_X7_pass N q s0 s1 s2 PS) (fun z => z.2.1.1 1 = s0.1 1) := by
  unfold f_X7_pass
  exact ev_ob (ev_ya _) (fun _ _ => ev_ite (ev_ob (ev_ya _) (fun _ _ => ev_ite (ev_ob rem_len (fun x3 h3 => ev_ob (ev_ya _) (fun _ _ => ev_ob (ev_ya _) (fun _ _ => ev_ite (ev_some h3) (ev_some h3))))) (ev_some rfl))) (ev_some rfl))
theorem len_28 : Ev (f_L_follow N q s0 s1 s2 s3 s4 fo PS p1) (fun z => z.2.1.1 1 = s0.1 1) := by
  unfold f_L_follow
  refine ev_th (P := fun z => z.2.1.1 1 = s0.1 1) ?_ (fun r h => ev_some h) (fun e => ev_ite (ev_some rfl) ev_none)
  have hl : ∀ n v2 v3 t s1 s3 s4 PS, t.1 1 = s0.1 1 → Ev (zlp (fun _ _ _ _ _ _ _ => none) (F_X7_follow_26 N q s2 p1) n v2 v3 t s1 s3 s4 PS) (fun z => z.2.1.1 1 = s0.1 1) := by
    intro n
    induction n with
    | zero => intro v2 v3 t s1 s3 s4 PS ht; exact ev_none
    | succ n ih =>
      intro v2 v3 t s1 s3 s4 PS ht
      show Ev (F_X7_follow_26 N q s2 p1 (zlp (fun _ _ _ _ _ _ _ => none) (F_X7_follow_26 N q s2 p1) n) v2 v3 t s1 s3 s4 PS) _
      unfold F_X7_follow_26
      exact ev_ite (ev_some ht) (ev_ob (ev_ya _) (fun _ _ => ev_ite (ev_ob rem_len (fun x2 h2 => ev_ob (ev_ya _) (fun _ _ => ev_ob (ev_ya _) (fun _ _ => ih _ _ _ _ _ _ _ (h2.trans ht))))) (ev_some ht)))
  unfold f_X7_follow
  refine ev_ite ev_none (ev_ite ?_ ev_none)
  unfold f_X7_follow_26
  exact hl _ _ _ _ _ _ _ _ rfl
theorem len_38 : Ev (f_X7_undo N q s0 s1 PS) (fun z => z.2.1.1 1 = s0.1 1) := by
  have h28 : ∀ t, Ev (f_X7_undo_28 N q t s0 s1 PS) (fun z => z.2.1.1 1 = s0.1 1) := fun t => by
    unfold f_X7_undo_28
    rw [znm_eq]
    exact ev_chk (ev_ob (ev_ya _) (fun _ _ => ev_some rfl))
  unfold f_X7_undo
  exact ev_ite (ev_ite (h28 _) (h28 _)) (ev_some rfl)
theorem len_write : Ev (f_X7_write N s0 p1) (fun z => z.1 1 = s0.1 1) := by
  unfold f_X7_write
  exact ev_ite (ev_some rfl) (ev_chk (fun r e => by cases e; rfl))
theorem len_wonly : Ev (f_X7_writeOnly N s0 p1 p2) (fun z => z.1 1 = s0.1 1) := by
  have h32 : ∀ t, Ev (f_X7_writeOnly_32 N p1 p2 t s0) (fun z => z.1 1 = s0.1 1) := fun t => by
    unfold f_X7_writeOnly_32
    exact ev_ob len_write (fun x h => ev_some h)
  have h13 : ∀ t, Ev (f_X7_writeOnly_13 N p1 p2 t s0) (fun z => z.1 1 = s0.1 1) := fun t => by
    unfold f_X7_writeOnly_13
    exact ev_ite (h32 _) (ev_ob (ev_ya _) (fun _ _ => h32 _))
  unfold f_X7_writeOnly
  exact ev_ob (ev_ya _) (fun _ _ => ev_ite (h13 _) (h13 _))
theorem len_39 : Ev (f_L_writeHand N s0 s1 s2 fo p1 p2) (fun z => z.2.1.1 1 = s0.1 1) := by
  unfold f_L_writeHand
  refine ev_th (P := fun z => z.2.1 1 = s0.1 1) ?_ (fun r h => ev_some h) (fun e => ev_ite (ev_some rfl) ev_none)
  have hl : ∀ n v t, t.1 1 = s0.1 1 → Ev (zlp (fun _ _ => none) (F_X7_writeHand_12 N s1 s2 p1 p2) n v t) (fun z => z.2.1 1 = s0.1 1) := by
    intro n
    induction n with
    | zero => intro v t ht; exact ev_none
    | succ n ih =>
      intro v t ht
      have h74 : ∀ v5 t, t.1 1 = s0.1 1 → Ev (f_X7_writeHand_74 N s1 s2 p1 p2 (zlp (fun _ _ => none) (F_X7_writeHand_12 N s1 s2 p1 p2) n) v v5 t) (fun z => z.2.1 1 = s0.1 1) := fun v5 t ht => by
        unfold f_X7_writeHand_74
        exact ev_ob (ev_ya _) (fun _ _ => ev_ob len_wonly (fun x6 h6 => ev_ob (ev_ya _) (fun _ _ => ev_ob len_wonly (fun x8 h8 => ih _ _ (h8.trans (h6.trans ht))))))
      have h62 : ∀ v5, Ev (f_X7_writeHand_62 N s1 s2 p1 p2 (zlp (fun _ _ => none) (F_X7_writeHand_12 N s1 s2 p1 p2) n) v v5 t) (fun z => z.2.1 1 = s0.1 1) := fun v5 => by
        unfold f_X7_writeHand_62
        exact ev_ite (h74 _ _ ht) (ev_ob len_write (fun x9 h9 => h74 _ _ (h9.trans ht)))
      show Ev (F_X7_writeHand_12 N s1 s2 p1 p2 (zlp (fun _ _ => none) (F_X7_writeHand_12 N s1 s2 p1 p2) n) v t) _
      unfold F_X7_writeHand_12
      exact ev_ob (ev_ya _) (fun _ _ => ev_ite (ev_some ht) (ev_ob (ev_ya _) (fun _ _ => ev_ite (ev_ob (ev_ya _) (fun _ _ => h62 _)) (ev_ob (ev_ya _) (fun _ _ => h62 _)))))
  unfold f_X7_writeHand
  refine ev_ob (ev_ya _) (fun _ _ => ?_)
  unfold f_X7_writeHand_12
  exact hl _ _ _ rfl
theorem len_41 : Ev (f_L_saveSnapshot N q s0 s1 fo SS p1) (fun z => z.2.1.1 1 = s0.1 1) := by
  unfold f_L_saveSnapshot
  refine ev_th (P := fun z => z.2.1.1 1 = s0.1 1) ?_ (fun r h => ev_some h) (fun e => ev_ite (ev_some rfl) ev_none)
  unfold f_X7_saveSnapshot
  exact ev_ob (ev_ya _) (fun _ _ => ev_chk (ev_ob (ev_ya _) (fun _ _ => ev_chk (ev_ob (ev_ya _) (fun _ _ => ev_some rfl)))))
theorem len_42 : Ev (f_L_restoreSnapshot N q s0 s1 fo SS p1) (fun z => z.2.1.1 1 = s0.1 1) := by
  unfold f_L_restoreSnapshot
  refine ev_th (P := fun z => z.2.1.1 1 = s0.1 1) ?_ (fun r h => ev_some h) (fun e => ev_ite (ev_some rfl) ev_none)
  unfold f_X7_restoreSnapshot
  exact ev_ob (ev_ya _) (fun _ _ => ev_chk (ev_ite (ev_some rfl) (ev_chk (ev_ob (ev_ya _) (fun _ _ => ev_ob (ev_ya _) (fun _ _ => ev_some rfl))))))
end LEN
