/-! OWN, written by wip/whole/tools/mkz.py: a row for each instruction, over the goal Zs of part 02 -/
def lvg : List (Nat × Value) → Nat → Option Value
  | [], _ => none
  | q :: l, i => if q.1 = i then some q.2 else lvg l i
theorem lvg_in {l : List (Nat × Value)} {i : Nat} {v : Value} (h : lvg l i = some v) : (i, v) ∈ l := by
  induction l with
  | nil => cases h
  | cons q l ih =>
    unfold lvg at h
    split at h
    · cases h
      rename_i e
      subst e
      exact List.mem_cons_self
    · exact List.mem_cons_of_mem _ (ih h)
theorem lvg_at {ls : Array Slot} {nL : Nat} {l : List (Nat × Value)} {i : Nat} {v : Value} (h : lv_has ls nL l) (hk : lvg l i = some v) : ls[i]? = some (.val v) := h.2.2 (i, v) (lvg_in hk)
def lvs1 (i : Nat) (v : Value) (lv : List (Nat × Value)) : List (Nat × Value) := (i, v) :: lv.filter (fun q => !(q.1 == i) && !(q.1 + 1 == i && q.2.category == 2))
def lvs2 (i : Nat) (v : Value) (lv : List (Nat × Value)) : List (Nat × Value) := (i, v) :: lv.filter (fun q => !(q.1 == i) && (!(q.1 == i + 1) && !(q.1 + 1 == i && q.2.category == 2)))
section ZI
variable {K : Kt} {g : Gp} {cc : ByteArray} {own : String} {nL : Nat} {R : Room} {cs ss pc : Nat} {ws ws' : va_W} {lv lv' : List (Nat × Value)} {st : List Value}
/-- the same world in another order, fewer cells, fewer locals -/
theorem z_sub (C : Cx K g cc own nL R) (is : List Nat) (hn : va_nd is = true) (hs : is.map (fun i => ws[i]?) = ws'.map some) (kk : Zs K cs ss ws' lv pc st) : Zs K cs ss ws lv pc st := by
  obtain ⟨p, l, e, R, s, m, args, below, meth, c, Q, A, g⟩ := K
  intro H locs ls hP hD hS hl
  refine kk H locs ls (fun k q hk => ?_) (hD.sub is hn hs) hS hl
  have h1 : (is.map (fun i => ws[i]?))[k]? = some (some q) := by rw [hs, List.getElem?_map, hk]; rfl
  rw [List.getElem?_map] at h1
  cases hi : is[k]? with
  | none => rw [hi] at h1; cases h1
  | some i => rw [hi] at h1; exact hP i q (Option.some.inj h1)
theorem z_lv (ks : List Nat) (h : lv_pick lv ks = lv') (kk : Zs K cs ss ws lv' pc st) : Zs K cs ss ws lv pc st := by
  obtain ⟨p, l, e, R, s, m, args, below, meth, c, Q, A, g⟩ := K
  intro H locs ls hP hD hS hl
  exact kk H locs ls hP hD hS (lv_sub hl ks h)
theorem z_lvm (h : ∀ q ∈ lv', q ∈ lv) (kk : Zs K cs ss ws lv' pc st) : Zs K cs ss ws lv pc st := by
  obtain ⟨p, l, e, R, s, m, args, below, meth, c, Q, A, g⟩ := K
  intro H locs ls hP hD hS hl
  exact kk H locs ls hP hD hS ⟨hl.1, hl.2.1, fun q hq => hl.2.2 q (h q hq)⟩
theorem z_to {pc' : Nat} {st' : List Value} (kk : Zs K cs ss ws' lv' pc' st') (e1 : ws = ws') (e2 : lv = lv') (e3 : pc = pc') (e4 : st = st') : Zs K cs ss ws lv pc st := by subst e1; subst e2; subst e3; subst e4; exact kk
/-- a computed number gets a name -/
theorem z_nm {P : Prop} {α : Type} (x : α) (k : ∀ y, y = x → P) : P := k x rfl

theorem z_iconst (C : Cx K g cc own nL R) {n : Int} {v : Int32} (hd : decode cc pc = .ok (.iconst n, 1)) (hv : Int32.ofInt n = v) (kk : Zs K cs ss ws lv (pc + 1) (.int v :: st)) : Zs K cs ss ws lv pc st := by
  obtain ⟨p, l, e, R, s, m, args, below, meth, c, Q, A, g⟩ := K
  obtain ⟨hx, hb, hml, hown, hlocks, hA, hAb, hbs, hE, hk, rfl, rfl, rfl⟩ := C
  intro H locs ls hP hD hS hl
  exact lv_iconst hx hb hd hv (kk H locs ls hP hD hS hl)
theorem z_bipush (C : Cx K g cc own nL R) {n : Int} {v : Int32} (hd : decode cc pc = .ok (.bipush n, 2)) (hv : (Int8.ofInt n).toInt32 = v) (kk : Zs K cs ss ws lv (pc + 2) (.int v :: st)) : Zs K cs ss ws lv pc st := by
  obtain ⟨p, l, e, R, s, m, args, below, meth, c, Q, A, g⟩ := K
  obtain ⟨hx, hb, hml, hown, hlocks, hA, hAb, hbs, hE, hk, rfl, rfl, rfl⟩ := C
  intro H locs ls hP hD hS hl
  exact lv_bipush hx hb hd hv (kk H locs ls hP hD hS hl)
theorem z_sipush (C : Cx K g cc own nL R) {n : Int} {v : Int32} (hd : decode cc pc = .ok (.sipush n, 3)) (hv : (Int16.ofInt n).toInt32 = v) (kk : Zs K cs ss ws lv (pc + 3) (.int v :: st)) : Zs K cs ss ws lv pc st := by
  obtain ⟨p, l, e, R, s, m, args, below, meth, c, Q, A, g⟩ := K
  obtain ⟨hx, hb, hml, hown, hlocks, hA, hAb, hbs, hE, hk, rfl, rfl, rfl⟩ := C
  intro H locs ls hP hD hS hl
  exact lv_sipush hx hb hd hv (kk H locs ls hP hD hS hl)
theorem z_lconst (C : Cx K g cc own nL R) {n : Fin 2} {v : Int64} (hd : decode cc pc = .ok (.lconst n, 1)) (hv : Int64.ofNat (n : Nat) = v) (kk : Zs K cs ss ws lv (pc + 1) (.long v :: st)) : Zs K cs ss ws lv pc st := by
  obtain ⟨p, l, e, R, s, m, args, below, meth, c, Q, A, g⟩ := K
  obtain ⟨hx, hb, hml, hown, hlocks, hA, hAb, hbs, hE, hk, rfl, rfl, rfl⟩ := C
  intro H locs ls hP hD hS hl
  exact lv_lconst hx hb hd hv (kk H locs ls hP hD hS hl)
theorem z_iload_n (C : Cx K g cc own nL R) {k : Fin 4} {i : Nat} {x : Int32} (hd : decode cc pc = .ok (.iload_n k, 1)) (hi : (k : Nat) = i) (hv : lvg lv i = some (.int x)) (kk : Zs K cs ss ws lv (pc + 1) (.int x :: st)) : Zs K cs ss ws lv pc st := by
  obtain ⟨p, l, e, R, s, m, args, below, meth, c, Q, A, g⟩ := K
  obtain ⟨hx, hb, hml, hown, hlocks, hA, hAb, hbs, hE, hk, rfl, rfl, rfl⟩ := C
  intro H locs ls hP hD hS hl
  exact lv_iload_n hx hb hd hi (lvg_at hl hv) (kk H locs ls hP hD hS hl)
theorem z_iload (C : Cx K g cc own nL R) {i : Nat} {x : Int32} (hd : decode cc pc = .ok (.iload i, 2)) (hv : lvg lv i = some (.int x)) (kk : Zs K cs ss ws lv (pc + 2) (.int x :: st)) : Zs K cs ss ws lv pc st := by
  obtain ⟨p, l, e, R, s, m, args, below, meth, c, Q, A, g⟩ := K
  obtain ⟨hx, hb, hml, hown, hlocks, hA, hAb, hbs, hE, hk, rfl, rfl, rfl⟩ := C
  intro H locs ls hP hD hS hl
  exact lv_iload hx hb hd (lvg_at hl hv) (kk H locs ls hP hD hS hl)
theorem z_lload_n (C : Cx K g cc own nL R) {k : Fin 4} {i : Nat} {x : Int64} (hd : decode cc pc = .ok (.lload_n k, 1)) (hi : (k : Nat) = i) (hv : lvg lv i = some (.long x)) (kk : Zs K cs ss ws lv (pc + 1) (.long x :: st)) : Zs K cs ss ws lv pc st := by
  obtain ⟨p, l, e, R, s, m, args, below, meth, c, Q, A, g⟩ := K
  obtain ⟨hx, hb, hml, hown, hlocks, hA, hAb, hbs, hE, hk, rfl, rfl, rfl⟩ := C
  intro H locs ls hP hD hS hl
  exact lv_lload_n hx hb hd hi (lvg_at hl hv) (kk H locs ls hP hD hS hl)
theorem z_lload (C : Cx K g cc own nL R) {i : Nat} {x : Int64} (hd : decode cc pc = .ok (.lload i, 2)) (hv : lvg lv i = some (.long x)) (kk : Zs K cs ss ws lv (pc + 2) (.long x :: st)) : Zs K cs ss ws lv pc st := by
  obtain ⟨p, l, e, R, s, m, args, below, meth, c, Q, A, g⟩ := K
  obtain ⟨hx, hb, hml, hown, hlocks, hA, hAb, hbs, hE, hk, rfl, rfl, rfl⟩ := C
  intro H locs ls hP hD hS hl
  exact lv_lload hx hb hd (lvg_at hl hv) (kk H locs ls hP hD hS hl)
theorem z_aload_n (C : Cx K g cc own nL R) {k : Fin 4} {i x : Nat} (hd : decode cc pc = .ok (.aload_n k, 1)) (hi : (k : Nat) = i) (hv : lvg lv i = some (.ref x)) (kk : Zs K cs ss ws lv (pc + 1) (.ref x :: st)) : Zs K cs ss ws lv pc st := by
  obtain ⟨p, l, e, R, s, m, args, below, meth, c, Q, A, g⟩ := K
  obtain ⟨hx, hb, hml, hown, hlocks, hA, hAb, hbs, hE, hk, rfl, rfl, rfl⟩ := C
  intro H locs ls hP hD hS hl
  exact lv_aload_n hx hb hd hi (lvg_at hl hv) (kk H locs ls hP hD hS hl)
theorem z_aload (C : Cx K g cc own nL R) {i x : Nat} (hd : decode cc pc = .ok (.aload i, 2)) (hv : lvg lv i = some (.ref x)) (kk : Zs K cs ss ws lv (pc + 2) (.ref x :: st)) : Zs K cs ss ws lv pc st := by
  obtain ⟨p, l, e, R, s, m, args, below, meth, c, Q, A, g⟩ := K
  obtain ⟨hx, hb, hml, hown, hlocks, hA, hAb, hbs, hE, hk, rfl, rfl, rfl⟩ := C
  intro H locs ls hP hD hS hl
  exact lv_aload hx hb hd (lvg_at hl hv) (kk H locs ls hP hD hS hl)
theorem z_istore_n (C : Cx K g cc own nL R) {k : Fin 4} {i : Nat} {x : Int32} (hd : decode cc pc = .ok (.istore_n k, 1)) (hi : (k : Nat) = i) (hn : i < nL) (hl' : lvs1 i (.int x) lv = lv') (kk : Zs K cs ss ws lv' (pc + 1) st) : Zs K cs ss ws lv pc (.int x :: st) := by
  obtain ⟨p, l, e, R, s, m, args, below, meth, c, Q, A, g⟩ := K
  obtain ⟨hx, hb, hml, hown, hlocks, hA, hAb, hbs, hE, hk, rfl, rfl, rfl⟩ := C
  intro H locs ls hP hD hS hl
  exact lv_istore_n hx hb hd hi hl (by rw [hml]; exact hn) hl' (fun ls hl => kk H locs ls hP hD hS hl)
theorem z_istore (C : Cx K g cc own nL R) {i : Nat} {x : Int32} (hd : decode cc pc = .ok (.istore i, 2)) (hn : i < nL) (hl' : lvs1 i (.int x) lv = lv') (kk : Zs K cs ss ws lv' (pc + 2) st) : Zs K cs ss ws lv pc (.int x :: st) := by
  obtain ⟨p, l, e, R, s, m, args, below, meth, c, Q, A, g⟩ := K
  obtain ⟨hx, hb, hml, hown, hlocks, hA, hAb, hbs, hE, hk, rfl, rfl, rfl⟩ := C
  intro H locs ls hP hD hS hl
  exact lv_istore hx hb hd hl (by rw [hml]; exact hn) hl' (fun ls hl => kk H locs ls hP hD hS hl)
theorem z_lstore_n (C : Cx K g cc own nL R) {k : Fin 4} {i : Nat} {x : Int64} (hd : decode cc pc = .ok (.lstore_n k, 1)) (hi : (k : Nat) = i) (hn : i + 1 < nL) (hl' : lvs2 i (.long x) lv = lv') (kk : Zs K cs ss ws lv' (pc + 1) st) : Zs K cs ss ws lv pc (.long x :: st) := by
  obtain ⟨p, l, e, R, s, m, args, below, meth, c, Q, A, g⟩ := K
  obtain ⟨hx, hb, hml, hown, hlocks, hA, hAb, hbs, hE, hk, rfl, rfl, rfl⟩ := C
  intro H locs ls hP hD hS hl
  exact lv_lstore_n hx hb hd hi hl (by rw [hml]; exact hn) hl' (fun ls hl => kk H locs ls hP hD hS hl)
theorem z_lstore (C : Cx K g cc own nL R) {i : Nat} {x : Int64} (hd : decode cc pc = .ok (.lstore i, 2)) (hn : i + 1 < nL) (hl' : lvs2 i (.long x) lv = lv') (kk : Zs K cs ss ws lv' (pc + 2) st) : Zs K cs ss ws lv pc (.long x :: st) := by
  obtain ⟨p, l, e, R, s, m, args, below, meth, c, Q, A, g⟩ := K
  obtain ⟨hx, hb, hml, hown, hlocks, hA, hAb, hbs, hE, hk, rfl, rfl, rfl⟩ := C
  intro H locs ls hP hD hS hl
  exact lv_lstore hx hb hd hl (by rw [hml]; exact hn) hl' (fun ls hl => kk H locs ls hP hD hS hl)
theorem z_astore_n (C : Cx K g cc own nL R) {k : Fin 4} {i : Nat} {x : Nat} (hd : decode cc pc = .ok (.astore_n k, 1)) (hi : (k : Nat) = i) (hn : i < nL) (hl' : lvs1 i (.ref x) lv = lv') (kk : Zs K cs ss ws lv' (pc + 1) st) : Zs K cs ss ws lv pc (.ref x :: st) := by
  obtain ⟨p, l, e, R, s, m, args, below, meth, c, Q, A, g⟩ := K
  obtain ⟨hx, hb, hml, hown, hlocks, hA, hAb, hbs, hE, hk, rfl, rfl, rfl⟩ := C
  intro H locs ls hP hD hS hl
  exact lv_astore_n hx hb hd hi hl (by rw [hml]; exact hn) hl' (fun ls hl => kk H locs ls hP hD hS hl)
theorem z_astore (C : Cx K g cc own nL R) {i : Nat} {x : Nat} (hd : decode cc pc = .ok (.astore i, 2)) (hn : i < nL) (hl' : lvs1 i (.ref x) lv = lv') (kk : Zs K cs ss ws lv' (pc + 2) st) : Zs K cs ss ws lv pc (.ref x :: st) := by
  obtain ⟨p, l, e, R, s, m, args, below, meth, c, Q, A, g⟩ := K
  obtain ⟨hx, hb, hml, hown, hlocks, hA, hAb, hbs, hE, hk, rfl, rfl, rfl⟩ := C
  intro H locs ls hP hD hS hl
  exact lv_astore hx hb hd hl (by rw [hml]; exact hn) hl' (fun ls hl => kk H locs ls hP hD hS hl)
theorem z_iinc (C : Cx K g cc own nL R) {i : Nat} {n : Int} {x v : Int32} (hd : decode cc pc = .ok (.iinc i n, 3)) (hg : lvg lv i = some (.int x)) (hv : x + Int32.ofInt n = v) (hn : i < nL) (hl' : lvs1 i (.int v) lv = lv') (kk : Zs K cs ss ws lv' (pc + 3) st) : Zs K cs ss ws lv pc st := by
  obtain ⟨p, l, e, R, s, m, args, below, meth, c, Q, A, g⟩ := K
  obtain ⟨hx, hb, hml, hown, hlocks, hA, hAb, hbs, hE, hk, rfl, rfl, rfl⟩ := C
  intro H locs ls hP hD hS hl
  obtain ⟨k, hk⟩ := List.getElem?_of_mem (lvg_in hg)
  exact lv_iinc hx hb hd hl hk hv (by rw [hml]; exact hn) hl' (fun ls hl => kk H locs ls hP hD hS hl)
theorem z_iadd (C : Cx K g cc own nL R) {x y : Int32} (hd : decode cc pc = .ok (.iadd, 1)) (kk : Zs K cs ss ws lv (pc + 1) (.int (x + y) :: st)) : Zs K cs ss ws lv pc (.int y :: .int x :: st) := by
  obtain ⟨p, l, e, R, s, m, args, below, meth, c, Q, A, g⟩ := K
  obtain ⟨hx, hb, hml, hown, hlocks, hA, hAb, hbs, hE, hk, rfl, rfl, rfl⟩ := C
  intro H locs ls hP hD hS hl
  exact lv_iadd hx hb hd  (kk H locs ls hP hD hS hl)
theorem z_ladd (C : Cx K g cc own nL R) {x y : Int64} (hd : decode cc pc = .ok (.ladd, 1)) (kk : Zs K cs ss ws lv (pc + 1) (.long (x + y) :: st)) : Zs K cs ss ws lv pc (.long y :: .long x :: st) := by
  obtain ⟨p, l, e, R, s, m, args, below, meth, c, Q, A, g⟩ := K
  obtain ⟨hx, hb, hml, hown, hlocks, hA, hAb, hbs, hE, hk, rfl, rfl, rfl⟩ := C
  intro H locs ls hP hD hS hl
  exact lv_ladd hx hb hd  (kk H locs ls hP hD hS hl)
theorem z_isub (C : Cx K g cc own nL R) {x y : Int32} (hd : decode cc pc = .ok (.isub, 1)) (kk : Zs K cs ss ws lv (pc + 1) (.int (x - y) :: st)) : Zs K cs ss ws lv pc (.int y :: .int x :: st) := by
  obtain ⟨p, l, e, R, s, m, args, below, meth, c, Q, A, g⟩ := K
  obtain ⟨hx, hb, hml, hown, hlocks, hA, hAb, hbs, hE, hk, rfl, rfl, rfl⟩ := C
  intro H locs ls hP hD hS hl
  exact lv_isub hx hb hd  (kk H locs ls hP hD hS hl)
theorem z_lsub (C : Cx K g cc own nL R) {x y : Int64} (hd : decode cc pc = .ok (.lsub, 1)) (kk : Zs K cs ss ws lv (pc + 1) (.long (x - y) :: st)) : Zs K cs ss ws lv pc (.long y :: .long x :: st) := by
  obtain ⟨p, l, e, R, s, m, args, below, meth, c, Q, A, g⟩ := K
  obtain ⟨hx, hb, hml, hown, hlocks, hA, hAb, hbs, hE, hk, rfl, rfl, rfl⟩ := C
  intro H locs ls hP hD hS hl
  exact lv_lsub hx hb hd  (kk H locs ls hP hD hS hl)
theorem z_imul (C : Cx K g cc own nL R) {x y : Int32} (hd : decode cc pc = .ok (.imul, 1)) (kk : Zs K cs ss ws lv (pc + 1) (.int (x * y) :: st)) : Zs K cs ss ws lv pc (.int y :: .int x :: st) := by
  obtain ⟨p, l, e, R, s, m, args, below, meth, c, Q, A, g⟩ := K
  obtain ⟨hx, hb, hml, hown, hlocks, hA, hAb, hbs, hE, hk, rfl, rfl, rfl⟩ := C
  intro H locs ls hP hD hS hl
  exact lv_imul hx hb hd  (kk H locs ls hP hD hS hl)
theorem z_lmul (C : Cx K g cc own nL R) {x y : Int64} (hd : decode cc pc = .ok (.lmul, 1)) (kk : Zs K cs ss ws lv (pc + 1) (.long (x * y) :: st)) : Zs K cs ss ws lv pc (.long y :: .long x :: st) := by
  obtain ⟨p, l, e, R, s, m, args, below, meth, c, Q, A, g⟩ := K
  obtain ⟨hx, hb, hml, hown, hlocks, hA, hAb, hbs, hE, hk, rfl, rfl, rfl⟩ := C
  intro H locs ls hP hD hS hl
  exact lv_lmul hx hb hd  (kk H locs ls hP hD hS hl)
theorem z_iand (C : Cx K g cc own nL R) {x y : Int32} (hd : decode cc pc = .ok (.iand, 1)) (kk : Zs K cs ss ws lv (pc + 1) (.int (x &&& y) :: st)) : Zs K cs ss ws lv pc (.int y :: .int x :: st) := by
  obtain ⟨p, l, e, R, s, m, args, below, meth, c, Q, A, g⟩ := K
  obtain ⟨hx, hb, hml, hown, hlocks, hA, hAb, hbs, hE, hk, rfl, rfl, rfl⟩ := C
  intro H locs ls hP hD hS hl
  exact lv_iand hx hb hd  (kk H locs ls hP hD hS hl)
theorem z_land (C : Cx K g cc own nL R) {x y : Int64} (hd : decode cc pc = .ok (.land, 1)) (kk : Zs K cs ss ws lv (pc + 1) (.long (x &&& y) :: st)) : Zs K cs ss ws lv pc (.long y :: .long x :: st) := by
  obtain ⟨p, l, e, R, s, m, args, below, meth, c, Q, A, g⟩ := K
  obtain ⟨hx, hb, hml, hown, hlocks, hA, hAb, hbs, hE, hk, rfl, rfl, rfl⟩ := C
  intro H locs ls hP hD hS hl
  exact lv_land hx hb hd  (kk H locs ls hP hD hS hl)
theorem z_ior (C : Cx K g cc own nL R) {x y : Int32} (hd : decode cc pc = .ok (.ior, 1)) (kk : Zs K cs ss ws lv (pc + 1) (.int (x ||| y) :: st)) : Zs K cs ss ws lv pc (.int y :: .int x :: st) := by
  obtain ⟨p, l, e, R, s, m, args, below, meth, c, Q, A, g⟩ := K
  obtain ⟨hx, hb, hml, hown, hlocks, hA, hAb, hbs, hE, hk, rfl, rfl, rfl⟩ := C
  intro H locs ls hP hD hS hl
  exact lv_ior hx hb hd  (kk H locs ls hP hD hS hl)
theorem z_lor (C : Cx K g cc own nL R) {x y : Int64} (hd : decode cc pc = .ok (.lor, 1)) (kk : Zs K cs ss ws lv (pc + 1) (.long (x ||| y) :: st)) : Zs K cs ss ws lv pc (.long y :: .long x :: st) := by
  obtain ⟨p, l, e, R, s, m, args, below, meth, c, Q, A, g⟩ := K
  obtain ⟨hx, hb, hml, hown, hlocks, hA, hAb, hbs, hE, hk, rfl, rfl, rfl⟩ := C
  intro H locs ls hP hD hS hl
  exact lv_lor hx hb hd  (kk H locs ls hP hD hS hl)
theorem z_ixor (C : Cx K g cc own nL R) {x y : Int32} (hd : decode cc pc = .ok (.ixor, 1)) (kk : Zs K cs ss ws lv (pc + 1) (.int (x ^^^ y) :: st)) : Zs K cs ss ws lv pc (.int y :: .int x :: st) := by
  obtain ⟨p, l, e, R, s, m, args, below, meth, c, Q, A, g⟩ := K
  obtain ⟨hx, hb, hml, hown, hlocks, hA, hAb, hbs, hE, hk, rfl, rfl, rfl⟩ := C
  intro H locs ls hP hD hS hl
  exact lv_ixor hx hb hd  (kk H locs ls hP hD hS hl)
theorem z_lxor (C : Cx K g cc own nL R) {x y : Int64} (hd : decode cc pc = .ok (.lxor, 1)) (kk : Zs K cs ss ws lv (pc + 1) (.long (x ^^^ y) :: st)) : Zs K cs ss ws lv pc (.long y :: .long x :: st) := by
  obtain ⟨p, l, e, R, s, m, args, below, meth, c, Q, A, g⟩ := K
  obtain ⟨hx, hb, hml, hown, hlocks, hA, hAb, hbs, hE, hk, rfl, rfl, rfl⟩ := C
  intro H locs ls hP hD hS hl
  exact lv_lxor hx hb hd  (kk H locs ls hP hD hS hl)
theorem z_idiv (C : Cx K g cc own nL R) {x y : Int32} (hd : decode cc pc = .ok (.idiv, 1)) (hne : ¬ y = 0) (kk : Zs K cs ss ws lv (pc + 1) (.int (x / y) :: st)) : Zs K cs ss ws lv pc (.int y :: .int x :: st) := by
  obtain ⟨p, l, e, R, s, m, args, below, meth, c, Q, A, g⟩ := K
  obtain ⟨hx, hb, hml, hown, hlocks, hA, hAb, hbs, hE, hk, rfl, rfl, rfl⟩ := C
  intro H locs ls hP hD hS hl
  exact lv_idiv hx hb hd hne (kk H locs ls hP hD hS hl)
theorem z_irem (C : Cx K g cc own nL R) {x y : Int32} (hd : decode cc pc = .ok (.irem, 1)) (hne : ¬ y = 0) (kk : Zs K cs ss ws lv (pc + 1) (.int (x - x / y * y) :: st)) : Zs K cs ss ws lv pc (.int y :: .int x :: st) := by
  obtain ⟨p, l, e, R, s, m, args, below, meth, c, Q, A, g⟩ := K
  obtain ⟨hx, hb, hml, hown, hlocks, hA, hAb, hbs, hE, hk, rfl, rfl, rfl⟩ := C
  intro H locs ls hP hD hS hl
  exact lv_irem hx hb hd hne (kk H locs ls hP hD hS hl)
theorem z_ineg (C : Cx K g cc own nL R) {x : Int32} (hd : decode cc pc = .ok (.ineg, 1)) (kk : Zs K cs ss ws lv (pc + 1) (.int (-x) :: st)) : Zs K cs ss ws lv pc (.int x :: st) := by
  obtain ⟨p, l, e, R, s, m, args, below, meth, c, Q, A, g⟩ := K
  obtain ⟨hx, hb, hml, hown, hlocks, hA, hAb, hbs, hE, hk, rfl, rfl, rfl⟩ := C
  intro H locs ls hP hD hS hl
  exact lv_ineg hx hb hd  (kk H locs ls hP hD hS hl)
theorem z_ldiv (C : Cx K g cc own nL R) {x y : Int64} (hd : decode cc pc = .ok (.ldiv, 1)) (hne : ¬ y = 0) (kk : Zs K cs ss ws lv (pc + 1) (.long (x / y) :: st)) : Zs K cs ss ws lv pc (.long y :: .long x :: st) := by
  obtain ⟨p, l, e, R, s, m, args, below, meth, c, Q, A, g⟩ := K
  obtain ⟨hx, hb, hml, hown, hlocks, hA, hAb, hbs, hE, hk, rfl, rfl, rfl⟩ := C
  intro H locs ls hP hD hS hl
  exact lv_ldiv hx hb hd hne (kk H locs ls hP hD hS hl)
theorem z_lrem (C : Cx K g cc own nL R) {x y : Int64} (hd : decode cc pc = .ok (.lrem, 1)) (hne : ¬ y = 0) (kk : Zs K cs ss ws lv (pc + 1) (.long (x - x / y * y) :: st)) : Zs K cs ss ws lv pc (.long y :: .long x :: st) := by
  obtain ⟨p, l, e, R, s, m, args, below, meth, c, Q, A, g⟩ := K
  obtain ⟨hx, hb, hml, hown, hlocks, hA, hAb, hbs, hE, hk, rfl, rfl, rfl⟩ := C
  intro H locs ls hP hD hS hl
  exact lv_lrem hx hb hd hne (kk H locs ls hP hD hS hl)
theorem z_lneg (C : Cx K g cc own nL R) {x : Int64} (hd : decode cc pc = .ok (.lneg, 1)) (kk : Zs K cs ss ws lv (pc + 1) (.long (-x) :: st)) : Zs K cs ss ws lv pc (.long x :: st) := by
  obtain ⟨p, l, e, R, s, m, args, below, meth, c, Q, A, g⟩ := K
  obtain ⟨hx, hb, hml, hown, hlocks, hA, hAb, hbs, hE, hk, rfl, rfl, rfl⟩ := C
  intro H locs ls hP hD hS hl
  exact lv_lneg hx hb hd  (kk H locs ls hP hD hS hl)
theorem z_ishl (C : Cx K g cc own nL R) {x y : Int32} (hd : decode cc pc = .ok (.ishl, 1)) (kk : Zs K cs ss ws lv (pc + 1) (.int (x <<< (y &&& 31)) :: st)) : Zs K cs ss ws lv pc (.int y :: .int x :: st) := by
  obtain ⟨p, l, e, R, s, m, args, below, meth, c, Q, A, g⟩ := K
  obtain ⟨hx, hb, hml, hown, hlocks, hA, hAb, hbs, hE, hk, rfl, rfl, rfl⟩ := C
  intro H locs ls hP hD hS hl
  exact lv_ishl hx hb hd  (kk H locs ls hP hD hS hl)
theorem z_ishr (C : Cx K g cc own nL R) {x y : Int32} (hd : decode cc pc = .ok (.ishr, 1)) (kk : Zs K cs ss ws lv (pc + 1) (.int (x >>> (y &&& 31)) :: st)) : Zs K cs ss ws lv pc (.int y :: .int x :: st) := by
  obtain ⟨p, l, e, R, s, m, args, below, meth, c, Q, A, g⟩ := K
  obtain ⟨hx, hb, hml, hown, hlocks, hA, hAb, hbs, hE, hk, rfl, rfl, rfl⟩ := C
  intro H locs ls hP hD hS hl
  exact lv_ishr hx hb hd  (kk H locs ls hP hD hS hl)
theorem z_iushr (C : Cx K g cc own nL R) {x y : Int32} (hd : decode cc pc = .ok (.iushr, 1)) (kk : Zs K cs ss ws lv (pc + 1) (.int (x.toUInt32 >>> (y.toUInt32 &&& Int32.toUInt32 31)).toInt32 :: st)) : Zs K cs ss ws lv pc (.int y :: .int x :: st) := by
  obtain ⟨p, l, e, R, s, m, args, below, meth, c, Q, A, g⟩ := K
  obtain ⟨hx, hb, hml, hown, hlocks, hA, hAb, hbs, hE, hk, rfl, rfl, rfl⟩ := C
  intro H locs ls hP hD hS hl
  exact lv_iushr hx hb hd rfl (kk H locs ls hP hD hS hl)
theorem z_lshl (C : Cx K g cc own nL R) {x : Int64} {y : Int32} (hd : decode cc pc = .ok (.lshl, 1)) (kk : Zs K cs ss ws lv (pc + 1) (.long (x <<< (y.toInt64 &&& 63)) :: st)) : Zs K cs ss ws lv pc (.int y :: .long x :: st) := by
  obtain ⟨p, l, e, R, s, m, args, below, meth, c, Q, A, g⟩ := K
  obtain ⟨hx, hb, hml, hown, hlocks, hA, hAb, hbs, hE, hk, rfl, rfl, rfl⟩ := C
  intro H locs ls hP hD hS hl
  exact lv_lshl hx hb hd rfl (kk H locs ls hP hD hS hl)
theorem z_lshr (C : Cx K g cc own nL R) {x : Int64} {y : Int32} (hd : decode cc pc = .ok (.lshr, 1)) (kk : Zs K cs ss ws lv (pc + 1) (.long (x >>> (y.toInt64 &&& 63)) :: st)) : Zs K cs ss ws lv pc (.int y :: .long x :: st) := by
  obtain ⟨p, l, e, R, s, m, args, below, meth, c, Q, A, g⟩ := K
  obtain ⟨hx, hb, hml, hown, hlocks, hA, hAb, hbs, hE, hk, rfl, rfl, rfl⟩ := C
  intro H locs ls hP hD hS hl
  exact lv_lshr hx hb hd rfl (kk H locs ls hP hD hS hl)
theorem z_lushr (C : Cx K g cc own nL R) {x : Int64} {y : Int32} (hd : decode cc pc = .ok (.lushr, 1)) (kk : Zs K cs ss ws lv (pc + 1) (.long (x.toUInt64 >>> (y.toInt64.toUInt64 &&& Int64.toUInt64 63)).toInt64 :: st)) : Zs K cs ss ws lv pc (.int y :: .long x :: st) := by
  obtain ⟨p, l, e, R, s, m, args, below, meth, c, Q, A, g⟩ := K
  obtain ⟨hx, hb, hml, hown, hlocks, hA, hAb, hbs, hE, hk, rfl, rfl, rfl⟩ := C
  intro H locs ls hP hD hS hl
  exact lv_lushr hx hb hd rfl (kk H locs ls hP hD hS hl)
theorem z_i2l (C : Cx K g cc own nL R) {x : Int32} (hd : decode cc pc = .ok (.i2l, 1)) (kk : Zs K cs ss ws lv (pc + 1) (.long x.toInt64 :: st)) : Zs K cs ss ws lv pc (.int x :: st) := by
  obtain ⟨p, l, e, R, s, m, args, below, meth, c, Q, A, g⟩ := K
  obtain ⟨hx, hb, hml, hown, hlocks, hA, hAb, hbs, hE, hk, rfl, rfl, rfl⟩ := C
  intro H locs ls hP hD hS hl
  exact lv_i2l hx hb hd rfl (kk H locs ls hP hD hS hl)
theorem z_l2i (C : Cx K g cc own nL R) {x : Int64} (hd : decode cc pc = .ok (.l2i, 1)) (kk : Zs K cs ss ws lv (pc + 1) (.int x.toInt32 :: st)) : Zs K cs ss ws lv pc (.long x :: st) := by
  obtain ⟨p, l, e, R, s, m, args, below, meth, c, Q, A, g⟩ := K
  obtain ⟨hx, hb, hml, hown, hlocks, hA, hAb, hbs, hE, hk, rfl, rfl, rfl⟩ := C
  intro H locs ls hP hD hS hl
  exact lv_l2i hx hb hd rfl (kk H locs ls hP hD hS hl)
theorem z_i2b (C : Cx K g cc own nL R) {x : Int32} (hd : decode cc pc = .ok (.i2b, 1)) (kk : Zs K cs ss ws lv (pc + 1) (.int x.toInt8.toInt32 :: st)) : Zs K cs ss ws lv pc (.int x :: st) := by
  obtain ⟨p, l, e, R, s, m, args, below, meth, c, Q, A, g⟩ := K
  obtain ⟨hx, hb, hml, hown, hlocks, hA, hAb, hbs, hE, hk, rfl, rfl, rfl⟩ := C
  intro H locs ls hP hD hS hl
  exact lv_i2b hx hb hd rfl (kk H locs ls hP hD hS hl)
theorem z_lcmp (C : Cx K g cc own nL R) {x y : Int64} (hd : decode cc pc = .ok (.lcmp, 1)) (kk : Zs K cs ss ws lv (pc + 1) (.int (lg_cmp x y) :: st)) : Zs K cs ss ws lv pc (.long y :: .long x :: st) := by
  obtain ⟨p, l, e, R, s, m, args, below, meth, c, Q, A, g⟩ := K
  obtain ⟨hx, hb, hml, hown, hlocks, hA, hAb, hbs, hE, hk, rfl, rfl, rfl⟩ := C
  intro H locs ls hP hD hS hl
  exact W.lcmp hx hb hd  (kk H locs ls hP hD hS hl)
theorem z_dup (C : Cx K g cc own nL R) {a : Value} (hd : decode cc pc = .ok (.dup, 1)) (ha : a.category = 1) (kk : Zs K cs ss ws lv (pc + 1) (a :: a :: st)) : Zs K cs ss ws lv pc (a :: st) := by
  obtain ⟨p, l, e, R, s, m, args, below, meth, c, Q, A, g⟩ := K
  obtain ⟨hx, hb, hml, hown, hlocks, hA, hAb, hbs, hE, hk, rfl, rfl, rfl⟩ := C
  intro H locs ls hP hD hS hl
  exact lv_dup hx hb hd ha (kk H locs ls hP hD hS hl)
theorem z_pop (C : Cx K g cc own nL R) {a : Value} (hd : decode cc pc = .ok (.pop, 1)) (ha : a.category = 1) (kk : Zs K cs ss ws lv (pc + 1) st) : Zs K cs ss ws lv pc (a :: st) := by
  obtain ⟨p, l, e, R, s, m, args, below, meth, c, Q, A, g⟩ := K
  obtain ⟨hx, hb, hml, hown, hlocks, hA, hAb, hbs, hE, hk, rfl, rfl, rfl⟩ := C
  intro H locs ls hP hD hS hl
  exact lv_pop hx hb hd ha (kk H locs ls hP hD hS hl)
theorem z_dup_x1 (C : Cx K g cc own nL R) {a b : Value} (hd : decode cc pc = .ok (.dup_x1, 1)) (ha : a.category = 1) (hb' : b.category = 1) (kk : Zs K cs ss ws lv (pc + 1) (a :: b :: a :: st)) : Zs K cs ss ws lv pc (a :: b :: st) := by
  obtain ⟨p, l, e, R, s, m, args, below, meth, c, Q, A, g⟩ := K
  obtain ⟨hx, hb, hml, hown, hlocks, hA, hAb, hbs, hE, hk, rfl, rfl, rfl⟩ := C
  intro H locs ls hP hD hS hl
  exact lv_dup_x1 hx hb hd ha hb' (kk H locs ls hP hD hS hl)
theorem z_dup2 (C : Cx K g cc own nL R) {a b : Value} (hd : decode cc pc = .ok (.dup2, 1)) (ha : a.category = 1) (hb' : b.category = 1) (kk : Zs K cs ss ws lv (pc + 1) (a :: b :: a :: b :: st)) : Zs K cs ss ws lv pc (a :: b :: st) := by
  obtain ⟨p, l, e, R, s, m, args, below, meth, c, Q, A, g⟩ := K
  obtain ⟨hx, hb, hml, hown, hlocks, hA, hAb, hbs, hE, hk, rfl, rfl, rfl⟩ := C
  intro H locs ls hP hD hS hl
  exact lv_dup2_11 hx hb hd ha hb' (kk H locs ls hP hD hS hl)
theorem z_ldc (C : Cx K g cc own nL R) {idx : Nat} {v : Int32} (hd : decode cc pc = .ok (.ldc idx, 2)) (hm : Cond.constant own idx v ∈ gtbl) (kk : Zs K cs ss ws lv (pc + 2) (.int v :: st)) : Zs K cs ss ws lv pc st := by
  obtain ⟨p, l, e, R, s, m, args, below, meth, c, Q, A, g⟩ := K
  obtain ⟨hx, hb, hml, hown, hlocks, hA, hAb, hbs, hE, hk, rfl, rfl, rfl⟩ := C
  intro H locs ls hP hD hS hl
  exact lv_ldc hx hb hown (hE.hts hk _ hm) hd (kk H locs ls hP hD hS hl)
theorem z_ldcw (C : Cx K g cc own nL R) {idx : Nat} {v : Int32} (hd : decode cc pc = .ok (.ldc_w idx, 3)) (hm : Cond.constant own idx v ∈ gtbl) (kk : Zs K cs ss ws lv (pc + 3) (.int v :: st)) : Zs K cs ss ws lv pc st := by
  obtain ⟨p, l, e, R, s, m, args, below, meth, c, Q, A, g⟩ := K
  obtain ⟨hx, hb, hml, hown, hlocks, hA, hAb, hbs, hE, hk, rfl, rfl, rfl⟩ := C
  intro H locs ls hP hD hS hl
  exact lv_ldcw hx hb hown (hE.hts hk _ hm) hd (kk H locs ls hP hD hS hl)
theorem z_ldc2 (C : Cx K g cc own nL R) {idx : Nat} {v : Int64} (hd : decode cc pc = .ok (.ldc2_w idx, 3)) (hm : Cond.constantLong own idx v ∈ gtbl) (kk : Zs K cs ss ws lv (pc + 3) (.long v :: st)) : Zs K cs ss ws lv pc st := by
  obtain ⟨p, l, e, R, s, m, args, below, meth, c, Q, A, g⟩ := K
  obtain ⟨hx, hb, hml, hown, hlocks, hA, hAb, hbs, hE, hk, rfl, rfl, rfl⟩ := C
  intro H locs ls hP hD hS hl
  exact lv_ldc2 hx hb hown (hE.hts hk _ hm) hd (kk H locs ls hP hD hS hl)
theorem z_goto (C : Cx K g cc own nL R) {off : Int} {tgt : Nat} (hd : decode cc pc = .ok (.goto off, 3)) (ht : (pc : Int) + off = (tgt : Int)) (kk : Zs K cs ss ws lv tgt st) : Zs K cs ss ws lv pc st := by
  obtain ⟨p, l, e, R, s, m, args, below, meth, c, Q, A, g⟩ := K
  obtain ⟨hx, hb, hml, hown, hlocks, hA, hAb, hbs, hE, hk, rfl, rfl, rfl⟩ := C
  intro H locs ls hP hD hS hl
  exact lv_goto hx hb hd ht (kk H locs ls hP hD hS hl)
theorem z_if_eq (C : Cx K g cc own nL R) {x : Int32} {off : Int} {tgt : Nat} (hd : decode cc pc = .ok (.ifCond .eq off, 3)) (ht : (pc : Int) + off = (tgt : Int)) (kt : x = 0 → Zs K cs ss ws lv tgt st) (kf : ¬ x = 0 → Zs K cs ss ws lv (pc + 3) st) : Zs K cs ss ws lv pc (.int x :: st) := by
  obtain ⟨p, l, e, R, s, m, args, below, meth, c, Q, A, g⟩ := K
  obtain ⟨hx, hb, hml, hown, hlocks, hA, hAb, hbs, hE, hk, rfl, rfl, rfl⟩ := C
  intro H locs ls hP hD hS hl
  exact lv_if_eq hx hb hd ht (fun h => kt h H locs ls hP hD hS hl) (fun h => kf h H locs ls hP hD hS hl)
theorem z_icmp_eq (C : Cx K g cc own nL R) {x y : Int32} {off : Int} {tgt : Nat} (hd : decode cc pc = .ok (.if_icmp .eq off, 3)) (ht : (pc : Int) + off = (tgt : Int)) (kt : x = y → Zs K cs ss ws lv tgt st) (kf : ¬ x = y → Zs K cs ss ws lv (pc + 3) st) : Zs K cs ss ws lv pc (.int y :: .int x :: st) := by
  obtain ⟨p, l, e, R, s, m, args, below, meth, c, Q, A, g⟩ := K
  obtain ⟨hx, hb, hml, hown, hlocks, hA, hAb, hbs, hE, hk, rfl, rfl, rfl⟩ := C
  intro H locs ls hP hD hS hl
  exact lv_icmp_eq hx hb hd ht (fun h => kt h H locs ls hP hD hS hl) (fun h => kf h H locs ls hP hD hS hl)
theorem z_if_ne (C : Cx K g cc own nL R) {x : Int32} {off : Int} {tgt : Nat} (hd : decode cc pc = .ok (.ifCond .ne off, 3)) (ht : (pc : Int) + off = (tgt : Int)) (kt : ¬ x = 0 → Zs K cs ss ws lv tgt st) (kf : x = 0 → Zs K cs ss ws lv (pc + 3) st) : Zs K cs ss ws lv pc (.int x :: st) := by
  obtain ⟨p, l, e, R, s, m, args, below, meth, c, Q, A, g⟩ := K
  obtain ⟨hx, hb, hml, hown, hlocks, hA, hAb, hbs, hE, hk, rfl, rfl, rfl⟩ := C
  intro H locs ls hP hD hS hl
  exact lv_if_ne hx hb hd ht (fun h => kt h H locs ls hP hD hS hl) (fun h => kf h H locs ls hP hD hS hl)
theorem z_icmp_ne (C : Cx K g cc own nL R) {x y : Int32} {off : Int} {tgt : Nat} (hd : decode cc pc = .ok (.if_icmp .ne off, 3)) (ht : (pc : Int) + off = (tgt : Int)) (kt : ¬ x = y → Zs K cs ss ws lv tgt st) (kf : x = y → Zs K cs ss ws lv (pc + 3) st) : Zs K cs ss ws lv pc (.int y :: .int x :: st) := by
  obtain ⟨p, l, e, R, s, m, args, below, meth, c, Q, A, g⟩ := K
  obtain ⟨hx, hb, hml, hown, hlocks, hA, hAb, hbs, hE, hk, rfl, rfl, rfl⟩ := C
  intro H locs ls hP hD hS hl
  exact lv_icmp_ne hx hb hd ht (fun h => kt h H locs ls hP hD hS hl) (fun h => kf h H locs ls hP hD hS hl)
theorem z_if_lt (C : Cx K g cc own nL R) {x : Int32} {off : Int} {tgt : Nat} (hd : decode cc pc = .ok (.ifCond .lt off, 3)) (ht : (pc : Int) + off = (tgt : Int)) (kt : x < 0 → Zs K cs ss ws lv tgt st) (kf : ¬ x < 0 → Zs K cs ss ws lv (pc + 3) st) : Zs K cs ss ws lv pc (.int x :: st) := by
  obtain ⟨p, l, e, R, s, m, args, below, meth, c, Q, A, g⟩ := K
  obtain ⟨hx, hb, hml, hown, hlocks, hA, hAb, hbs, hE, hk, rfl, rfl, rfl⟩ := C
  intro H locs ls hP hD hS hl
  exact lv_if_lt hx hb hd ht (fun h => kt h H locs ls hP hD hS hl) (fun h => kf h H locs ls hP hD hS hl)
theorem z_icmp_lt (C : Cx K g cc own nL R) {x y : Int32} {off : Int} {tgt : Nat} (hd : decode cc pc = .ok (.if_icmp .lt off, 3)) (ht : (pc : Int) + off = (tgt : Int)) (kt : x < y → Zs K cs ss ws lv tgt st) (kf : ¬ x < y → Zs K cs ss ws lv (pc + 3) st) : Zs K cs ss ws lv pc (.int y :: .int x :: st) := by
  obtain ⟨p, l, e, R, s, m, args, below, meth, c, Q, A, g⟩ := K
  obtain ⟨hx, hb, hml, hown, hlocks, hA, hAb, hbs, hE, hk, rfl, rfl, rfl⟩ := C
  intro H locs ls hP hD hS hl
  exact lv_icmp_lt hx hb hd ht (fun h => kt h H locs ls hP hD hS hl) (fun h => kf h H locs ls hP hD hS hl)
theorem z_if_ge (C : Cx K g cc own nL R) {x : Int32} {off : Int} {tgt : Nat} (hd : decode cc pc = .ok (.ifCond .ge off, 3)) (ht : (pc : Int) + off = (tgt : Int)) (kt : 0 ≤ x → Zs K cs ss ws lv tgt st) (kf : ¬ 0 ≤ x → Zs K cs ss ws lv (pc + 3) st) : Zs K cs ss ws lv pc (.int x :: st) := by
  obtain ⟨p, l, e, R, s, m, args, below, meth, c, Q, A, g⟩ := K
  obtain ⟨hx, hb, hml, hown, hlocks, hA, hAb, hbs, hE, hk, rfl, rfl, rfl⟩ := C
  intro H locs ls hP hD hS hl
  exact lv_if_ge hx hb hd ht (fun h => kt h H locs ls hP hD hS hl) (fun h => kf h H locs ls hP hD hS hl)
theorem z_icmp_ge (C : Cx K g cc own nL R) {x y : Int32} {off : Int} {tgt : Nat} (hd : decode cc pc = .ok (.if_icmp .ge off, 3)) (ht : (pc : Int) + off = (tgt : Int)) (kt : y ≤ x → Zs K cs ss ws lv tgt st) (kf : ¬ y ≤ x → Zs K cs ss ws lv (pc + 3) st) : Zs K cs ss ws lv pc (.int y :: .int x :: st) := by
  obtain ⟨p, l, e, R, s, m, args, below, meth, c, Q, A, g⟩ := K
  obtain ⟨hx, hb, hml, hown, hlocks, hA, hAb, hbs, hE, hk, rfl, rfl, rfl⟩ := C
  intro H locs ls hP hD hS hl
  exact lv_icmp_ge hx hb hd ht (fun h => kt h H locs ls hP hD hS hl) (fun h => kf h H locs ls hP hD hS hl)
theorem z_if_gt (C : Cx K g cc own nL R) {x : Int32} {off : Int} {tgt : Nat} (hd : decode cc pc = .ok (.ifCond .gt off, 3)) (ht : (pc : Int) + off = (tgt : Int)) (kt : 0 < x → Zs K cs ss ws lv tgt st) (kf : ¬ 0 < x → Zs K cs ss ws lv (pc + 3) st) : Zs K cs ss ws lv pc (.int x :: st) := by
  obtain ⟨p, l, e, R, s, m, args, below, meth, c, Q, A, g⟩ := K
  obtain ⟨hx, hb, hml, hown, hlocks, hA, hAb, hbs, hE, hk, rfl, rfl, rfl⟩ := C
  intro H locs ls hP hD hS hl
  exact lv_if_gt hx hb hd ht (fun h => kt h H locs ls hP hD hS hl) (fun h => kf h H locs ls hP hD hS hl)
theorem z_icmp_gt (C : Cx K g cc own nL R) {x y : Int32} {off : Int} {tgt : Nat} (hd : decode cc pc = .ok (.if_icmp .gt off, 3)) (ht : (pc : Int) + off = (tgt : Int)) (kt : y < x → Zs K cs ss ws lv tgt st) (kf : ¬ y < x → Zs K cs ss ws lv (pc + 3) st) : Zs K cs ss ws lv pc (.int y :: .int x :: st) := by
  obtain ⟨p, l, e, R, s, m, args, below, meth, c, Q, A, g⟩ := K
  obtain ⟨hx, hb, hml, hown, hlocks, hA, hAb, hbs, hE, hk, rfl, rfl, rfl⟩ := C
  intro H locs ls hP hD hS hl
  exact lv_icmp_gt hx hb hd ht (fun h => kt h H locs ls hP hD hS hl) (fun h => kf h H locs ls hP hD hS hl)
theorem z_if_le (C : Cx K g cc own nL R) {x : Int32} {off : Int} {tgt : Nat} (hd : decode cc pc = .ok (.ifCond .le off, 3)) (ht : (pc : Int) + off = (tgt : Int)) (kt : x ≤ 0 → Zs K cs ss ws lv tgt st) (kf : ¬ x ≤ 0 → Zs K cs ss ws lv (pc + 3) st) : Zs K cs ss ws lv pc (.int x :: st) := by
  obtain ⟨p, l, e, R, s, m, args, below, meth, c, Q, A, g⟩ := K
  obtain ⟨hx, hb, hml, hown, hlocks, hA, hAb, hbs, hE, hk, rfl, rfl, rfl⟩ := C
  intro H locs ls hP hD hS hl
  exact lv_if_le hx hb hd ht (fun h => kt h H locs ls hP hD hS hl) (fun h => kf h H locs ls hP hD hS hl)
theorem z_icmp_le (C : Cx K g cc own nL R) {x y : Int32} {off : Int} {tgt : Nat} (hd : decode cc pc = .ok (.if_icmp .le off, 3)) (ht : (pc : Int) + off = (tgt : Int)) (kt : x ≤ y → Zs K cs ss ws lv tgt st) (kf : ¬ x ≤ y → Zs K cs ss ws lv (pc + 3) st) : Zs K cs ss ws lv pc (.int y :: .int x :: st) := by
  obtain ⟨p, l, e, R, s, m, args, below, meth, c, Q, A, g⟩ := K
  obtain ⟨hx, hb, hml, hown, hlocks, hA, hAb, hbs, hE, hk, rfl, rfl, rfl⟩ := C
  intro H locs ls hP hD hS hl
  exact lv_icmp_le hx hb hd ht (fun h => kt h H locs ls hP hD hS hl) (fun h => kf h H locs ls hP hD hS hl)
end ZI
/-- a field of a class by an entry of the pool of a class: 'own's entry 'idx' is field k of class ci of vwCl -/
def Fl (own : String) (idx ci k : Nat) : Prop := ∃ (C : String) (T : u_T) (N : Nat) (ref : String), vwCl[ci]? = some (C, T, N) ∧ k < N ∧ Cond.fieldLink own idx ref (T k).2.1 (T k).2.2.1 ∈ gtbl ∧ (T k).1 = ref ∧ ∀ w ∈ u_ws C T N, w ∈ gtbl
def Fp (own : String) (idx ci k : Nat) (fin : Bool) (ty : FieldType) : Prop := ∃ (C : String) (T : u_T) (N : Nat) (ref : String) (ty0 : Nat → FieldType), vwCl[ci]? = some (C, T, N) ∧ k < N ∧ Cond.fieldLink own idx ref (T k).2.1 (T k).2.2.1 ∈ gtbl ∧ (T k).1 = ref ∧ (∀ w ∈ u_ws C T N, w ∈ gtbl) ∧ (∀ k, k < N → parseFieldDescriptor (T k).2.2.1 = some (ty0 k)) ∧ (∀ a, a < N → ∀ b, b < N → a ≠ b → (T a).2.1 ≠ (T b).2.1) ∧ (T k).2.2.2 = fin ∧ parseFieldDescriptor (T k).2.2.1 = some ty
section ZF
variable {K : Kt} {g : Gp} {cc : ByteArray} {own : String} {nL : Nat} {R : Room} {cs ss pc : Nat} {ws ws' : va_W} {lv lv' : List (Nat × Value)} {st : List Value}
theorem z_get (C : Cx K g cc own nL R) {idx ci k a : Nat} {fs : List Value} {v : Value} (q0 : Nat) (hd : decode cc pc = .ok (.getfield idx, 3)) (F : Fl own idx ci k) (hq : ws[q0]? = some (a, .inr (ci, fs))) (hv : fs[k]? = some v) (kk : Zs K cs ss ws lv (pc + 3) (v :: st)) : Zs K cs ss ws lv pc (.ref a :: st) := by
  obtain ⟨p, l, e, R, s, m, args, below, meth, c, Q, A, g⟩ := K
  obtain ⟨hx, hb, hml, hown, hlocks, hA, hAb, hbs, hE, hk, rfl, rfl, rfl⟩ := C
  intro H locs ls hP hD hS hl
  obtain ⟨C', T, N, ref, hc, hkN, hm, rfl, hin⟩ := F
  exact va_get hx hb (hE.hts hk) hin hown (hE.K hk) hP q0 hq hc k hkN (hE.hts hk _ hm) (fun _ h => h) hv hd (kk H locs ls hP hD hS hl)
theorem z_put (C : Cx K g cc own nL R) {idx ci k a : Nat} {ty : FieldType} {fs : List Value} {v : Value} (q0 : Nat) (hd : decode cc pc = .ok (.putfield idx, 3)) (F : Fp own idx ci k false ty) (hq : ws[q0]? = some (a, .inr (ci, fs))) (hn : narrow ty v = v) (hf : fits ty v = true) (hlen : k < fs.length) (hw : ws.set q0 (a, .inr (ci, fs.set k v)) = ws') (kk : Zs K cs ss ws' lv (pc + 3) st) : Zs K cs ss ws lv pc (v :: .ref a :: st) := by
  obtain ⟨p, l, e, R, s, m, args, below, meth, c, Q, A, g⟩ := K
  obtain ⟨hx, hb, hml, hown, hlocks, hA, hAb, hbs, hE, hk, rfl, rfl, rfl⟩ := C
  intro H locs ls hP hD hS hl
  obtain ⟨C', T, N, ref, ty0, hc, hkN, hm, rfl, hin, hty, hnm, hfin, hd'⟩ := F
  exact va_put hx hb (hE.hts hk) hin ty0 hty hnm hown (hE.K hk) hP hD hS q0 hq hc k hkN (hE.hts hk _ hm) (fun _ h => h) hfin hd' hn hf hlen hd (fun H1 l1 hP hD hS => by rw [hw] at hP hD; exact kk H1 l1 ls hP hD hS hl)
theorem z_iald (C : Cx K g cc own nL R) {a n : Nat} {f : Nat → Int32} {i : Int32} (q0 : Nat) (hd : decode cc pc = .ok (.iaload, 1)) (hq : ws[q0]? = some (a, .inl (gI g, n, .inl f))) (hin : inb i n = true) (kk : Zs K cs ss ws lv (pc + 1) (.int (f i.toNatClampNeg) :: st)) : Zs K cs ss ws lv pc (.int i :: .ref a :: st) := by
  obtain ⟨p, l, e, R, s, m, args, below, meth, c, Q, A, g⟩ := K
  obtain ⟨hx, hb, hml, hown, hlocks, hA, hAb, hbs, hE, hk, rfl, rfl, rfl⟩ := C
  intro H locs ls hP hD hS hl
  exact va_iald hx hb (hE.K hk) hP q0 0 hq rfl (inb_vp hin) hd (kk H locs ls hP hD hS hl)
theorem z_bald (C : Cx K g cc own nL R) {a n : Nat} {f : Nat → Int32} {i : Int32} (q0 : Nat) (hd : decode cc pc = .ok (.baload, 1)) (hq : ws[q0]? = some (a, .inl (gY g, n, .inl f))) (hin : inb i n = true) (kk : Zs K cs ss ws lv (pc + 1) (.int (f i.toNatClampNeg) :: st)) : Zs K cs ss ws lv pc (.int i :: .ref a :: st) := by
  obtain ⟨p, l, e, R, s, m, args, below, meth, c, Q, A, g⟩ := K
  obtain ⟨hx, hb, hml, hown, hlocks, hA, hAb, hbs, hE, hk, rfl, rfl, rfl⟩ := C
  intro H locs ls hP hD hS hl
  exact va_bald hx hb (hE.K hk) hP q0 3 hq rfl (inb_vp hin) hd (kk H locs ls hP hD hS hl)
theorem z_zald (C : Cx K g cc own nL R) {a n : Nat} {f : Nat → Int32} {i : Int32} (q0 : Nat) (hd : decode cc pc = .ok (.baload, 1)) (hq : ws[q0]? = some (a, .inl (gZ g, n, .inl f))) (hin : inb i n = true) (kk : Zs K cs ss ws lv (pc + 1) (.int (f i.toNatClampNeg) :: st)) : Zs K cs ss ws lv pc (.int i :: .ref a :: st) := by
  obtain ⟨p, l, e, R, s, m, args, below, meth, c, Q, A, g⟩ := K
  obtain ⟨hx, hb, hml, hown, hlocks, hA, hAb, hbs, hE, hk, rfl, rfl, rfl⟩ := C
  intro H locs ls hP hD hS hl
  exact va_zald hx hb (hE.K hk) hP q0 2 hq rfl (inb_vp hin) hd (kk H locs ls hP hD hS hl)
theorem z_lald (C : Cx K g cc own nL R) {a n : Nat} {f : Nat → Int64} {i : Int32} (q0 : Nat) (hd : decode cc pc = .ok (.laload, 1)) (hq : ws[q0]? = some (a, .inl (gJ g, n, .inr (.inl f)))) (hin : inb i n = true) (kk : Zs K cs ss ws lv (pc + 1) (.long (f i.toNatClampNeg) :: st)) : Zs K cs ss ws lv pc (.int i :: .ref a :: st) := by
  obtain ⟨p, l, e, R, s, m, args, below, meth, c, Q, A, g⟩ := K
  obtain ⟨hx, hb, hml, hown, hlocks, hA, hAb, hbs, hE, hk, rfl, rfl, rfl⟩ := C
  intro H locs ls hP hD hS hl
  exact va_lald hx hb (hE.K hk) hP q0 1 hq rfl (inb_vp hin) hd (kk H locs ls hP hD hS hl)
theorem z_iast (C : Cx K g cc own nL R) {a n : Nat} {f : Nat → Int32} {i : Int32} {x : Int32} (q0 : Nat) (hd : decode cc pc = .ok (.iastore, 1)) (hq : ws[q0]? = some (a, .inl (gI g, n, .inl f))) (hin : inb i n = true) (hw : ws.set q0 (a, .inl (gI g, n, .inl (upd f i.toNatClampNeg x))) = ws') (kk : Zs K cs ss ws' lv (pc + 1) st) : Zs K cs ss ws lv pc (.int x :: .int i :: .ref a :: st) := by
  obtain ⟨p, l, e, R, s, m, args, below, meth, c, Q, A, g⟩ := K
  obtain ⟨hx, hb, hml, hown, hlocks, hA, hAb, hbs, hE, hk, rfl, rfl, rfl⟩ := C
  intro H locs ls hP hD hS hl
  exact va_iast hx hb (hE.K hk) hP hD hS q0 0 hq rfl (inb_vp hin) hd (fun H1 l1 hP hD hS => by rw [hw] at hP hD; exact kk H1 l1 ls hP hD hS hl)
theorem z_bast (C : Cx K g cc own nL R) {a n : Nat} {f : Nat → Int32} {i : Int32} {x : Int32} (q0 : Nat) (hd : decode cc pc = .ok (.bastore, 1)) (hq : ws[q0]? = some (a, .inl (gY g, n, .inl f))) (hin : inb i n = true) (hw : ws.set q0 (a, .inl (gY g, n, .inl (upd f i.toNatClampNeg (vp_nar .byte x)))) = ws') (kk : Zs K cs ss ws' lv (pc + 1) st) : Zs K cs ss ws lv pc (.int x :: .int i :: .ref a :: st) := by
  obtain ⟨p, l, e, R, s, m, args, below, meth, c, Q, A, g⟩ := K
  obtain ⟨hx, hb, hml, hown, hlocks, hA, hAb, hbs, hE, hk, rfl, rfl, rfl⟩ := C
  intro H locs ls hP hD hS hl
  exact va_bast hx hb (hE.K hk) hP hD hS q0 3 hq rfl (inb_vp hin) hd (fun H1 l1 hP hD hS => by rw [hw] at hP hD; exact kk H1 l1 ls hP hD hS hl)
theorem z_zast (C : Cx K g cc own nL R) {a n : Nat} {f : Nat → Int32} {i : Int32} {x : Int32} (q0 : Nat) (hd : decode cc pc = .ok (.bastore, 1)) (hq : ws[q0]? = some (a, .inl (gZ g, n, .inl f))) (hin : inb i n = true) (hw : ws.set q0 (a, .inl (gZ g, n, .inl (upd f i.toNatClampNeg (vp_nar .boolean x)))) = ws') (kk : Zs K cs ss ws' lv (pc + 1) st) : Zs K cs ss ws lv pc (.int x :: .int i :: .ref a :: st) := by
  obtain ⟨p, l, e, R, s, m, args, below, meth, c, Q, A, g⟩ := K
  obtain ⟨hx, hb, hml, hown, hlocks, hA, hAb, hbs, hE, hk, rfl, rfl, rfl⟩ := C
  intro H locs ls hP hD hS hl
  exact va_zast hx hb (hE.K hk) hP hD hS q0 2 hq rfl (inb_vp hin) hd (fun H1 l1 hP hD hS => by rw [hw] at hP hD; exact kk H1 l1 ls hP hD hS hl)
theorem z_last (C : Cx K g cc own nL R) {a n : Nat} {f : Nat → Int64} {i : Int32} {x : Int64} (q0 : Nat) (hd : decode cc pc = .ok (.lastore, 1)) (hq : ws[q0]? = some (a, .inl (gJ g, n, .inr (.inl f)))) (hin : inb i n = true) (hw : ws.set q0 (a, .inl (gJ g, n, .inr (.inl (vp_updL f i.toNatClampNeg x)))) = ws') (kk : Zs K cs ss ws' lv (pc + 1) st) : Zs K cs ss ws lv pc (.long x :: .int i :: .ref a :: st) := by
  obtain ⟨p, l, e, R, s, m, args, below, meth, c, Q, A, g⟩ := K
  obtain ⟨hx, hb, hml, hown, hlocks, hA, hAb, hbs, hE, hk, rfl, rfl, rfl⟩ := C
  intro H locs ls hP hD hS hl
  exact va_last hx hb (hE.K hk) hP hD hS q0 1 hq rfl (inb_vp hin) hd (fun H1 l1 hP hD hS => by rw [hw] at hP hD; exact kk H1 l1 ls hP hD hS hl)
theorem z_alen_int (C : Cx K g cc own nL R) {a n : Nat} {f : Nat → Int32} {v : Int32} (q0 : Nat) (hd : decode cc pc = .ok (.arraylength, 1)) (hq : ws[q0]? = some (a, .inl (gI g, n, .inl f))) (hv : Int32.ofNat n = v) (kk : Zs K cs ss ws lv (pc + 1) (.int v :: st)) : Zs K cs ss ws lv pc (.ref a :: st) := by
  obtain ⟨p, l, e, R, s, m, args, below, meth, c, Q, A, g⟩ := K
  obtain ⟨hx, hb, hml, hown, hlocks, hA, hAb, hbs, hE, hk, rfl, rfl, rfl⟩ := C
  intro H locs ls hP hD hS hl
  exact va_alen hx hb (hE.K hk) hP q0 0 hq rfl hv hd (kk H locs ls hP hD hS hl)
theorem z_alen_long (C : Cx K g cc own nL R) {a n : Nat} {f : Nat → Int64} {v : Int32} (q0 : Nat) (hd : decode cc pc = .ok (.arraylength, 1)) (hq : ws[q0]? = some (a, .inl (gJ g, n, .inr (.inl f)))) (hv : Int32.ofNat n = v) (kk : Zs K cs ss ws lv (pc + 1) (.int v :: st)) : Zs K cs ss ws lv pc (.ref a :: st) := by
  obtain ⟨p, l, e, R, s, m, args, below, meth, c, Q, A, g⟩ := K
  obtain ⟨hx, hb, hml, hown, hlocks, hA, hAb, hbs, hE, hk, rfl, rfl, rfl⟩ := C
  intro H locs ls hP hD hS hl
  exact va_alen hx hb (hE.K hk) hP q0 1 hq rfl hv hd (kk H locs ls hP hD hS hl)
theorem z_alen_boolean (C : Cx K g cc own nL R) {a n : Nat} {f : Nat → Int32} {v : Int32} (q0 : Nat) (hd : decode cc pc = .ok (.arraylength, 1)) (hq : ws[q0]? = some (a, .inl (gZ g, n, .inl f))) (hv : Int32.ofNat n = v) (kk : Zs K cs ss ws lv (pc + 1) (.int v :: st)) : Zs K cs ss ws lv pc (.ref a :: st) := by
  obtain ⟨p, l, e, R, s, m, args, below, meth, c, Q, A, g⟩ := K
  obtain ⟨hx, hb, hml, hown, hlocks, hA, hAb, hbs, hE, hk, rfl, rfl, rfl⟩ := C
  intro H locs ls hP hD hS hl
  exact va_alen hx hb (hE.K hk) hP q0 2 hq rfl hv hd (kk H locs ls hP hD hS hl)
theorem z_alen_byte (C : Cx K g cc own nL R) {a n : Nat} {f : Nat → Int32} {v : Int32} (q0 : Nat) (hd : decode cc pc = .ok (.arraylength, 1)) (hq : ws[q0]? = some (a, .inl (gY g, n, .inl f))) (hv : Int32.ofNat n = v) (kk : Zs K cs ss ws lv (pc + 1) (.int v :: st)) : Zs K cs ss ws lv pc (.ref a :: st) := by
  obtain ⟨p, l, e, R, s, m, args, below, meth, c, Q, A, g⟩ := K
  obtain ⟨hx, hb, hml, hown, hlocks, hA, hAb, hbs, hE, hk, rfl, rfl, rfl⟩ := C
  intro H locs ls hP hD hS hl
  exact va_alen hx hb (hE.K hk) hP q0 3 hq rfl hv hd (kk H locs ls hP hD hS hl)
end ZF
