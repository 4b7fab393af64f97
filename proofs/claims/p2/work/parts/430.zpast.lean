/-! OWN: worlds with a tail that is not looked into; families of games behind an array -/
theorem va_nd_iff (l : List Nat) : va_nd l = true ↔ l.Nodup := by
  induction l with
  | nil => simp [va_nd]
  | cons a l ih => simp only [va_nd, Bool.and_eq_true, decide_eq_true_eq, List.nodup_cons, ih]
theorem ix_lt {A w : va_W} {is : List Nat} (h : is.map (fun i => A[i]?) = w.map some) : ∀ i ∈ is, i < A.length := fun i hi => by
  have h1 : A[i]? ∈ is.map (fun i => A[i]?) := List.mem_map.mpr ⟨i, hi, rfl⟩
  rw [h] at h1
  obtain ⟨x, -, hx⟩ := List.mem_map.mp h1
  exact (List.getElem?_eq_some_iff.mp hx.symm).1
theorem ix_app {A T w : va_W} {is : List Nat} (h : is.map (fun i => A[i]?) = w.map some) : is.map (fun i => (A ++ T)[i]?) = w.map some := by
  rw [← h]
  refine List.map_congr_left fun i hi => ?_
  exact List.getElem?_append_left (ix_lt h i hi)
def tl_ix (a n : Nat) : List Nat := (List.range n).map (fun i => a + i)
theorem tl_ix_get (A T : va_W) : (tl_ix A.length T.length).map (fun i => (A ++ T)[i]?) = T.map some := by
  unfold tl_ix
  rw [List.map_map]
  apply List.ext_getElem?
  intro i
  rw [List.getElem?_map, List.getElem?_map]
  by_cases hi : i < T.length
  · rw [List.getElem?_range hi, List.getElem?_eq_getElem hi]
    show some ((A ++ T)[A.length + i]?) = _
    rw [List.getElem?_append_right (by omega), Nat.add_sub_cancel_left, List.getElem?_eq_getElem hi]
    rfl
  · rw [List.getElem?_eq_none (by rw [List.length_range]; omega), List.getElem?_eq_none (by omega)]
    rfl
theorem tl_ix_ge {a n i : Nat} (h : i ∈ tl_ix a n) : a ≤ i := by
  obtain ⟨j, -, rfl⟩ := List.mem_map.mp h
  omega
theorem tl_ix_nd (a n : Nat) : (tl_ix a n).Nodup := by
  unfold tl_ix
  exact List.Pairwise.map _ (fun x y h => by omega) List.nodup_range
theorem ix_nd {A w : va_W} {is : List Nat} (h : is.map (fun i => A[i]?) = w.map some) (hn : va_nd is = true) (n : Nat) : va_nd (is ++ tl_ix A.length n) = true := by
  rw [va_nd_iff] at hn ⊢
  refine List.nodup_append.mpr ⟨hn, tl_ix_nd _ _, fun i hi j hj e => ?_⟩
  have h1 := ix_lt h i hi
  have h2 := tl_ix_ge hj
  omega
theorem ix_full {A T w : va_W} {is : List Nat} (h : is.map (fun i => A[i]?) = w.map some) : (is ++ tl_ix A.length T.length).map (fun i => (A ++ T)[i]?) = (w ++ T).map some := by
  rw [List.map_append, List.map_append, ix_app h, tl_ix_get]
section ZPA
variable {K : Kt} {g : Gp} {cc : ByteArray} {own : String} {nL : Nat} {R : Room} {cs ss pc : Nat} {A A' T T' ws ws' : va_W} {lv lv' : List (Nat × Value)} {st : List Value}
theorem z_subT (C : Cx K g cc own nL R) (is : List Nat) (hn : va_nd is = true) (hs : is.map (fun i => A[i]?) = A'.map some) (kk : Zs K cs ss (A' ++ T) lv pc st) : Zs K cs ss (A ++ T) lv pc st :=
  z_sub C (is ++ tl_ix A.length T.length) (ix_nd hs hn _) (ix_full hs) kk
variable {y : MethodName} {n : Nat} {b : ByteArray} {nL' : Nat} {ret : Option FieldType} {rm : Room} {w w0 wr : va_W} {As rest : List Value} {RP : Option Value → va_W → Prop}
theorem z_callVT1 {idx a : Nat} (C : Cx K g cc own nL R) (hd : decode cc pc = .ok (.invokevirtual idx, 3)) (hm : Cond.methodLink own idx y ∈ gtbl) (hw : Wv y n b nL' ret) (hM : Ct g y b nL' ret rm (.ref a :: As) w RP) (isC isR : List Nat) {ci : Nat} {fs : List Value} {cl : vw_C} (hn : As.length = n) (hst : st = As.reverse ++ .ref a :: rest) (hrm : rm.frames + 1 ≤ R.frames ∧ 8 + (nL' + 11) + rm.locals ≤ R.locals) (hW : (rest.map fun v => v.category).sum ≤ 8) (hf : cs + rm.cells ≤ R.cells ∧ ss + rm.slots ≤ R.slots) (hq : w[0]? = some (a, .inr (ci, fs))) (hcl : vwCl[ci]? = some cl) (hcy : cl.1 = y.cls) (hC : isC.map (fun i => A[i]?) = w.map some) (hR : isR.map (fun i => A[i]?) = wr.map some) (hnC : va_nd isC = true) (hnR : va_nd isR = true) (hdis : ∀ i ∈ isR, i ∉ isC)
    (kk : ∀ rv w', RP rv w' → Zs K (cs + rm.cells) (ss + rm.slots) ((wr ++ w') ++ T) lv (pc + 3) (rv.toList ++ rest)) : Zs K cs ss (A ++ T) lv pc st :=
  z_callV (wr := wr ++ T) C hd hm hw hM isC (isR ++ tl_ix A.length T.length) hn hst hrm hW hf hq hcl hcy (ix_app hC) (ix_full hR) hnC (ix_nd hR hnR _) (fun i hi hc => by
    rcases List.mem_append.mp hi with h | h
    · exact hdis i h hc
    · have h1 := ix_lt hC i hc
      have h2 := tl_ix_ge h
      omega) (fun rv w' hr => z_perm (by rw [List.append_assoc, List.append_assoc]; exact List.Perm.append_left _ List.perm_append_comm) (kk rv w' hr))
theorem z_callST1 {idx : Nat} (C : Cx K g cc own nL R) (hd : decode cc pc = .ok (.invokestatic idx, 3)) (hm : Cond.methodLink own idx y ∈ gtbl) (hw : Wt y n b nL' ret) (hM : Ct g y b nL' ret rm As w RP) (isC isR : List Nat) (hn : As.length = n) (hst : st = As.reverse ++ rest) (hrm : rm.frames + 1 ≤ R.frames ∧ 8 + (nL' + 11) + rm.locals ≤ R.locals) (hW : (rest.map fun v => v.category).sum ≤ 8) (hf : cs + rm.cells ≤ R.cells ∧ ss + rm.slots ≤ R.slots) (hC : isC.map (fun i => A[i]?) = w.map some) (hR : isR.map (fun i => A[i]?) = wr.map some) (hnC : va_nd isC = true) (hnR : va_nd isR = true) (hdis : ∀ i ∈ isR, i ∉ isC)
    (kk : ∀ rv w', RP rv w' → Zs K (cs + rm.cells) (ss + rm.slots) ((wr ++ w') ++ T) lv (pc + 3) (rv.toList ++ rest)) : Zs K cs ss (A ++ T) lv pc st :=
  z_callS (wr := wr ++ T) C hd hm hw hM isC (isR ++ tl_ix A.length T.length) hn hst hrm hW hf (ix_app hC) (ix_full hR) hnC (ix_nd hR hnR _) (fun i hi hc => by
    rcases List.mem_append.mp hi with h | h
    · exact hdis i h hc
    · have h1 := ix_lt hC i hc
      have h2 := tl_ix_ge h
      omega) (fun rv w' hr => z_perm (by rw [List.append_assoc, List.append_assoc]; exact List.Perm.append_left _ List.perm_append_comm) (kk rv w' hr))
/-- the callee takes the tail as well -/
theorem z_callVT2 {idx a : Nat} (C : Cx K g cc own nL R) (hd : decode cc pc = .ok (.invokevirtual idx, 3)) (hm : Cond.methodLink own idx y ∈ gtbl) (hw : Wv y n b nL' ret) (hM : Ct g y b nL' ret rm (.ref a :: As) (w ++ T) RP) (isC isR : List Nat) {ci : Nat} {fs : List Value} {cl : vw_C} (hn : As.length = n) (hst : st = As.reverse ++ .ref a :: rest) (hrm : rm.frames + 1 ≤ R.frames ∧ 8 + (nL' + 11) + rm.locals ≤ R.locals) (hW : (rest.map fun v => v.category).sum ≤ 8) (hf : cs + rm.cells ≤ R.cells ∧ ss + rm.slots ≤ R.slots) (hq : (w ++ T)[0]? = some (a, .inr (ci, fs))) (hcl : vwCl[ci]? = some cl) (hcy : cl.1 = y.cls) (hC : isC.map (fun i => A[i]?) = w.map some) (hR : isR.map (fun i => A[i]?) = wr.map some) (hnC : va_nd isC = true) (hnR : va_nd isR = true) (hdis : ∀ i ∈ isR, i ∉ isC)
    (kk : ∀ rv w', RP rv w' → Zs K (cs + rm.cells) (ss + rm.slots) (wr ++ w') lv (pc + 3) (rv.toList ++ rest)) : Zs K cs ss (A ++ T) lv pc st :=
  z_callV C hd hm hw hM (isC ++ tl_ix A.length T.length) isR hn hst hrm hW hf hq hcl hcy (ix_full hC) (ix_app hR) (ix_nd hC hnC _) hnR (fun i hi hc => by
    rcases List.mem_append.mp hc with h | h
    · exact hdis i hi h
    · have h1 := ix_lt hR i hi
      have h2 := tl_ix_ge h
      omega) kk
theorem ex_kT1 {rv0 : Option Value} {cs' ss' pc' : Nat} (C : Cx K g cc own nL R) (isF : List Nat) (hF : isF.map (fun i => (wr ++ w0)[i]?) = A'.map some) (hnF : va_nd isF = true) (kk : Zs K cs' ss' (A' ++ T) lv pc' (rv0.toList ++ rest)) : ∀ rv w', exR rv0 w0 rv w' → Zs K cs' ss' ((wr ++ w') ++ T) lv pc' (rv.toList ++ rest) := by
  intro rv w' h
  obtain ⟨rfl, rfl⟩ := h
  exact z_subT C isF hnF hF kk
theorem ex_kT2 {rv0 : Option Value} {cs' ss' pc' : Nat} (C : Cx K g cc own nL R) (isF : List Nat) (hF : isF.map (fun i => (wr ++ w0)[i]?) = A'.map some) (hnF : va_nd isF = true) (kk : Zs K cs' ss' (A' ++ T') lv pc' (rv0.toList ++ rest)) : ∀ rv w', exR rv0 (w0 ++ T') rv w' → Zs K cs' ss' (wr ++ w') lv pc' (rv.toList ++ rest) := by
  intro rv w' h
  obtain ⟨rfl, rfl⟩ := h
  rw [← List.append_assoc]
  exact z_subT C isF hnF hF kk
end ZPA
/-- the family but one -/
def wPr (g : Gp) (a n : Nat) (f : Nat → Option Nat) (pa : Nat → Nat) (pr : Nat → Nat → Nat) (PS : Nat → Nat × Ob) (i : Nat) : va_W := (a, gq g n f) :: ((List.range n).erase i).flatMap (gel g pa pr PS)
theorem wPs_out {g : Gp} {a n : Nat} {f : Nat → Option Nat} {pa : Nat → Nat} {pr : Nat → Nat → Nat} {PS : Nat → Nat × Ob} {i : Nat} (hi : i < n) : (gel g pa pr PS i ++ wPr g a n f pa pr PS i).Perm (wPs g a n f pa pr PS) := by
  have h1 : (List.range n).Perm (i :: (List.range n).erase i) := List.perm_cons_erase (List.mem_range.mpr hi)
  have h2 := (h1.flatMap_right (gel g pa pr PS)).symm
  unfold wPr wPs gfam
  refine (List.perm_middle).trans (List.Perm.cons _ ?_)
  exact h2
theorem flatMap_cg {α β : Type} {l : List α} {f h : α → List β} (e : ∀ x ∈ l, f x = h x) : l.flatMap f = l.flatMap h := by
  induction l with
  | nil => rfl
  | cons a l ih => rw [List.flatMap_cons, List.flatMap_cons, e a List.mem_cons_self, ih (fun x hx => e x (List.mem_cons_of_mem _ hx))]
theorem wPr_up {g : Gp} {a n : Nat} {f : Nat → Option Nat} {pa : Nat → Nat} {pr : Nat → Nat → Nat} {PS : Nat → Nat × Ob} {i : Nat} (v : Nat × Ob) : wPr g a n f pa pr (va_up PS i v) i = wPr g a n f pa pr PS i := by
  unfold wPr
  congr 1
  refine flatMap_cg fun k hk => ?_
  have : k ≠ i := fun e => by
    rw [e] at hk
    exact (List.nodup_range.not_mem_erase) hk
  unfold gel
  rw [va_up_ne _ _ this]
section ZPB
variable {K : Kt} {g : Gp} {cc : ByteArray} {own : String} {nL : Nat} {R : Room} {cs ss pc : Nat} {A A' T T' ws ws' : va_W} {lv lv' : List (Nat × Value)} {st : List Value} {a n : Nat} {f : Nat → Option Nat} {pa : Nat → Nat} {pr : Nat → Nat → Nat} {PS : Nat → Nat × Ob} {i : Nat}
/-- one game taken out of its family -/
theorem z_pout (hi : i < n) (kk : Zs K cs ss (A ++ wX1 g (pa i) (pr i) (PS i).1 (PS i).2 ++ wPr g a n f pa pr PS i) lv pc st) : Zs K cs ss (A ++ wPs g a n f pa pr PS) lv pc st :=
  z_perm (by rw [List.append_assoc]; exact List.Perm.append_left _ (wPs_out hi)) kk
/-- .. and put back -/
theorem z_pin {q : Nat} {S : Ob} (hi : i < n) (kk : Zs K cs ss (A ++ wPs g a n f pa pr (va_up PS i (q, S))) lv pc st) : Zs K cs ss (A ++ wX1 g (pa i) (pr i) q S ++ wPr g a n f pa pr PS i) lv pc st := by
  refine z_perm ?_ kk
  rw [List.append_assoc]
  refine List.Perm.append_left _ ?_
  have h := (wPs_out (g := g) (a := a) (f := f) (pa := pa) (pr := pr) (PS := va_up PS i (q, S)) hi).symm
  rw [wPr_up] at h
  unfold gel at h
  rw [va_up_self] at h
  exact h
end ZPB
