/-! OWN: new objects and arrays, constructors, arrays of references, worlds in any order, over the goal Zs -/
def zrc (f c s n : Nat) : Room := { frames := f, cells := c, slots := s, locals := n }
def Ki : Kt → Prop
  | (_, _, _, _, _, _, _, _, meth, _, _, _, _) => meth.name = "<init>"
theorem ct_ofI {y : MethodName} {b : ByteArray} {nL : Nat} {ret : Option FieldType} {g : Gp} {av : List Value} {w : va_W} {rm : Room} {RP : Option Value → va_W → Prop} (hy : plainName y.cls = true) (hn0 : y.name = "<init>") (hg : Ok g) (hn : (lg_sl av).length ≤ nL)
    (walk : ∀ K : Kt, Cx K g b y.cls nL rm → Ki K → Rx K RP rm.cells rm.slots ret → Zs K 0 0 w (lv_args 0 av) 0 []) : Ct g y b nL ret rm av w RP := by
  intro sz
  refine Met.ofW (cc := b) (maxL := nL) (ret := ret) hy rfl ?_
  intro p e s m args below meth c s₁ B hml hv
  obtain ⟨rfl, rfl, hP, hD, hb, hE⟩ := hv
  have hlocks := B.notSynchronized
  have hA : ∀ q, va_A w s.heap.size q → gb g ≤ q := fun q h => by
    rcases h with ⟨k, e, h⟩ | h
    · exact hD.2 k (q, e) h
    · omega
  have hl := lv_entry av (n := nL) hn
  have hin : meth.name = "<init>" := (name_of_methodNamed B.named B.method).1.trans hn0
  rw [lg_entry_eq]
  generalize (lg_sl av ++ List.replicate (nL - (lg_sl av).length) Slot.unset).toArray = ls at hl ⊢
  exact walk (p, gl g, e, rm, s, m, av.toArray, below, meth, c, _, va_A w s.heap.size, g)
    ⟨B.exec, B.bytes, hml, findClass_of_methodNamed B.named, hlocks, fun q h => Or.inr h, hA, hb, hE, hg, rfl, rfl, rfl⟩ hin ⟨⟨w, rfl, rfl⟩, B.returns⟩ s.heap [] ls hP hD.self va_S.rf (by rw [hml]; exact hl)
theorem En.arr {g : Gp} {s : State} (hk : Ok g) (hE : En g s) {tys : List (ClassId × FieldType)} {D : va_G} {cl : List vw_C} {k k' : Nat} {c c' : ClassId} {ty : FieldType} (h1 : va_K D cl tys s) (hq : tys[k]? = some (c, ty)) (hg : (gT g)[k']? = some (c', ty)) (hp : match ty with | .object _ => False | _ => True) : c = c' := by
  have e1 := (h1.2 k _ hq).2
  have e2 := ((hE.K hk).2 k' _ hg).2
  cases ty <;> first | exact hp.elim | exact Option.some.inj (e1.symm.trans e2)
theorem En.arrO {g : Gp} {s : State} (hk : Ok g) (hE : En g s) {tys : List (ClassId × FieldType)} {D : va_G} {cl : List vw_C} {k k' : Nat} {c c' : ClassId} {C : String} (h1 : va_K D cl tys s) (hq : tys[k]? = some (c, .object C)) (hg : (gT g)[k']? = some (c', .object C)) : c = c' := by
  obtain ⟨_, _, _, _, _, e1⟩ := (h1.2 k _ hq).2
  obtain ⟨_, _, _, _, _, e2⟩ := ((hE.K hk).2 k' _ hg).2
  exact Option.some.inj (e1.symm.trans e2)
section ZAL
variable {K : Kt} {g : Gp} {cc : ByteArray} {own : String} {nL : Nat} {R : Room} {cs ss pc : Nat} {ws ws' : va_W} {lv lv' : List (Nat × Value)} {st : List Value}
theorem z_new (C : Cx K g cc own nL R) {idx ci N : Nat} {Cn : String} {T : u_T} {ty : Nat → FieldType} {fs : List Value} (hd : decode cc pc = .ok (.new idx, 3)) (hc : vwCl[ci]? = some (Cn, T, N)) (hin : ∀ w ∈ u_ws Cn T N, w ∈ gtbl) (hty : ∀ k, k < N → parseFieldDescriptor (T k).2.2.1 = some (ty k)) (hw : Cond.classLink own idx Cn ∈ gtbl ∧ Cond.instantiable Cn N ∈ gtbl ∧ Cond.initialized Cn ∈ gtbl) (hfs : ∀ j, j < N → defaultValue (ty j) = vp_V fs j) (h1 : cs + 1 ≤ R.cells) (h2 : ss + N ≤ R.slots) (kk : ∀ q, Zs K (cs + 1) (ss + N) (ws ++ [(q, .inr (ci, fs))]) lv (pc + 3) (.ref q :: st)) : Zs K cs ss ws lv pc st := by
  obtain ⟨p, l, e, R, s, m, args, below, meth, c, Q, A, g⟩ := K
  obtain ⟨hx, hb, hml, hown, hlocks, hA, hAb, hbs, hE, hk, rfl, rfl, rfl⟩ := C
  intro H locs ls hP hD hS hl
  have hts := hE.hts hk (a := args)
  exact va_new hx hb hts hin ty hty hown (hts _ hw.1) (hts _ hw.2.1) (hts _ hw.2.2) (hE.K hk) hP hD hS hA hc hfs h1 h2 hd (fun q H1 hP hD hS => kk q H1 locs ls hP hD hS hl)
theorem z_newI (C : Cx K g cc own nL R) {n : Int32} {N : Nat} (hd : decode cc pc = .ok (.newarray .int, 2)) (harr : Cond.arrayClass .int ∈ gtbl) (hn : ¬ n < 0) (hN : n.toNatClampNeg = N) (hbytes : N * 4 ≤ 536870912) (h1 : cs + 1 ≤ R.cells) (h2 : ss + N ≤ R.slots) (kk : ∀ q, Zs K (cs + 1) (ss + N) (ws ++ [(q, .inl (gI g, N, .inl (fun _ => 0)))]) lv (pc + 2) (.ref q :: st)) : Zs K cs ss ws lv pc (.int n :: st) := by
  obtain ⟨p, l, e, R, s, m, args, below, meth, c, Q, A, g⟩ := K
  obtain ⟨hx, hb, hml, hown, hlocks, hA, hAb, hbs, hE, hk, rfl, rfl, rfl⟩ := C
  intro H locs ls hP hD hS hl
  have hts := hE.hts hk (a := args)
  exact va_newa (atype := .int) (a0 := (N, .inl (fun _ => 0))) hx hb (hts _ harr) rfl (hE.K hk) hP hD hS hA (fun _ => rfl) hn hN hbytes h1 h2 hd (fun q cA H1 hK hP hD hS => by
    obtain rfl := En.arr hk hE (k := 5) (k' := 0) hK rfl rfl trivial
    exact kk q H1 locs ls hP hD hS hl)
theorem z_newJ (C : Cx K g cc own nL R) {n : Int32} {N : Nat} (hd : decode cc pc = .ok (.newarray .long, 2)) (harr : Cond.arrayClass .long ∈ gtbl) (hn : ¬ n < 0) (hN : n.toNatClampNeg = N) (hbytes : N * 8 ≤ 536870912) (h1 : cs + 1 ≤ R.cells) (h2 : ss + N ≤ R.slots) (kk : ∀ q, Zs K (cs + 1) (ss + N) (ws ++ [(q, .inl (gJ g, N, .inr (.inl (fun _ => 0))))]) lv (pc + 2) (.ref q :: st)) : Zs K cs ss ws lv pc (.int n :: st) := by
  obtain ⟨p, l, e, R, s, m, args, below, meth, c, Q, A, g⟩ := K
  obtain ⟨hx, hb, hml, hown, hlocks, hA, hAb, hbs, hE, hk, rfl, rfl, rfl⟩ := C
  intro H locs ls hP hD hS hl
  have hts := hE.hts hk (a := args)
  exact va_newa (atype := .long) (a0 := (N, .inr (.inl (fun _ => 0)))) hx hb (hts _ harr) rfl (hE.K hk) hP hD hS hA (fun _ => rfl) hn hN hbytes h1 h2 hd (fun q cA H1 hK hP hD hS => by
    obtain rfl := En.arr hk hE (k := 5) (k' := 1) hK rfl rfl trivial
    exact kk q H1 locs ls hP hD hS hl)
theorem z_newZ (C : Cx K g cc own nL R) {n : Int32} {N : Nat} (hd : decode cc pc = .ok (.newarray .boolean, 2)) (harr : Cond.arrayClass .boolean ∈ gtbl) (hn : ¬ n < 0) (hN : n.toNatClampNeg = N) (hbytes : N * 1 ≤ 536870912) (h1 : cs + 1 ≤ R.cells) (h2 : ss + N ≤ R.slots) (kk : ∀ q, Zs K (cs + 1) (ss + N) (ws ++ [(q, .inl (gZ g, N, .inl (fun _ => 0)))]) lv (pc + 2) (.ref q :: st)) : Zs K cs ss ws lv pc (.int n :: st) := by
  obtain ⟨p, l, e, R, s, m, args, below, meth, c, Q, A, g⟩ := K
  obtain ⟨hx, hb, hml, hown, hlocks, hA, hAb, hbs, hE, hk, rfl, rfl, rfl⟩ := C
  intro H locs ls hP hD hS hl
  have hts := hE.hts hk (a := args)
  exact va_newa (atype := .boolean) (a0 := (N, .inl (fun _ => 0))) hx hb (hts _ harr) rfl (hE.K hk) hP hD hS hA (fun _ => rfl) hn hN hbytes h1 h2 hd (fun q cA H1 hK hP hD hS => by
    obtain rfl := En.arr hk hE (k := 5) (k' := 2) hK rfl rfl trivial
    exact kk q H1 locs ls hP hD hS hl)
theorem z_newY (C : Cx K g cc own nL R) {n : Int32} {N : Nat} (hd : decode cc pc = .ok (.newarray .byte, 2)) (harr : Cond.arrayClass .byte ∈ gtbl) (hn : ¬ n < 0) (hN : n.toNatClampNeg = N) (hbytes : N * 1 ≤ 536870912) (h1 : cs + 1 ≤ R.cells) (h2 : ss + N ≤ R.slots) (kk : ∀ q, Zs K (cs + 1) (ss + N) (ws ++ [(q, .inl (gY g, N, .inl (fun _ => 0)))]) lv (pc + 2) (.ref q :: st)) : Zs K cs ss ws lv pc (.int n :: st) := by
  obtain ⟨p, l, e, R, s, m, args, below, meth, c, Q, A, g⟩ := K
  obtain ⟨hx, hb, hml, hown, hlocks, hA, hAb, hbs, hE, hk, rfl, rfl, rfl⟩ := C
  intro H locs ls hP hD hS hl
  have hts := hE.hts hk (a := args)
  exact va_newa (atype := .byte) (a0 := (N, .inl (fun _ => 0))) hx hb (hts _ harr) rfl (hE.K hk) hP hD hS hA (fun _ => rfl) hn hN hbytes h1 h2 hd (fun q cA H1 hK hP hD hS => by
    obtain rfl := En.arr hk hE (k := 5) (k' := 3) hK rfl rfl trivial
    exact kk q H1 locs ls hP hD hS hl)
abbrev gq (g : Gp) (n : Nat) (f : Nat → Option Nat) : va_E := .inl (gO g, n, .inr (.inr (.inr (.inr f))))
theorem z_newQ (C : Cx K g cc own nL R) {idx : Nat} {n : Int32} {N : Nat} (hd : decode cc pc = .ok (.anewarray idx, 3)) (hcl : Cond.classLink own idx RX1 ∈ gtbl) (hov : ∀ s : State, En g s → va_AO RX1 s) (hn : ¬ n < 0) (hN : n.toNatClampNeg = N) (hbytes : N * 4 ≤ 536870912) (h1 : cs + 1 ≤ R.cells) (h2 : ss + N ≤ R.slots) (kk : ∀ q, Zs K (cs + 1) (ss + N) (ws ++ [(q, gq g N (fun _ => none))]) lv (pc + 3) (.ref q :: st)) : Zs K cs ss ws lv pc (.int n :: st) := by
  obtain ⟨p, l, e, R, s, m, args, below, meth, c, Q, A, g⟩ := K
  obtain ⟨hx, hb, hml, hown, hlocks, hA, hAb, hbs, hE, hk, rfl, rfl, rfl⟩ := C
  intro H locs ls hP hD hS hl
  have hts := hE.hts hk (a := args)
  exact va_newq hx hb hown (hts _ hcl) (hov _ hE) (hE.K hk) hP hD hS hA hn hN hbytes h1 h2 hd (fun q cA H1 hK hP hD hS => by
    obtain rfl := En.arrO hk hE (k := 5) (k' := 4) hK rfl rfl
    exact kk q H1 locs ls hP hD hS hl)
theorem z_aald (C : Cx K g cc own nL R) {a n : Nat} {f : Nat → Option Nat} {i : Int32} {v : Nat} (q0 : Nat) (hd : decode cc pc = .ok (.aaload, 1)) (hq : ws[q0]? = some (a, gq g n f)) (hin : inb i n = true) (hv : f i.toNatClampNeg = some v) (kk : Zs K cs ss ws lv (pc + 1) (.ref v :: st)) : Zs K cs ss ws lv pc (.int i :: .ref a :: st) := by
  obtain ⟨p, l, e, R, s, m, args, below, meth, c, Q, A, g⟩ := K
  obtain ⟨hx, hb, hml, hown, hlocks, hA, hAb, hbs, hE, hk, rfl, rfl, rfl⟩ := C
  intro H locs ls hP hD hS hl
  refine va_aldq (C := RX1) hx hb (hE.K hk) hP q0 4 hq rfl (inb_vp hin) hd ?_
  rw [hv]
  exact kk H locs ls hP hD hS hl
theorem z_aast (C : Cx K g cc own nL R) {a n v : Nat} {vs : List Value} {f : Nat → Option Nat} {i : Int32} (q0 qk : Nat) (hd : decode cc pc = .ok (.aastore, 1)) (hq : ws[q0]? = some (a, gq g n f)) (hv : ws[qk]? = some (v, .inr (1, vs))) (hin : inb i n = true) (hw : ws.set q0 (a, gq g n (va_up f i.toNatClampNeg (some v))) = ws') (kk : Zs K cs ss ws' lv (pc + 1) st) : Zs K cs ss ws lv pc (.ref v :: .int i :: .ref a :: st) := by
  obtain ⟨p, l, e, R, s, m, args, below, meth, c, Q, A, g⟩ := K
  obtain ⟨hx, hb, hml, hown, hlocks, hA, hAb, hbs, hE, hk, rfl, rfl, rfl⟩ := C
  intro H locs ls hP hD hS hl
  exact va_astq (r := (RX1, TX1, 16)) hx hb (hE.K hk) hP hD hS q0 4 qk 1 hq rfl hv rfl (inb_vp hin) hd (fun H1 l1 hP hD hS => by rw [hw] at hP hD; exact kk H1 l1 ls hP hD hS hl)
theorem z_oinit (C : Cx K g cc own nL R) {idx a : Nat} (hd : decode cc pc = .ok (.invokespecial idx, 3)) (hm : Cond.methodLink own idx Lib.objectInit ∈ gtbl ∧ Cond.instanceMethod Lib.objectInit ∈ gtbl ∧ Cond.code Lib.objectInit ⟨#[0xb1]⟩ 1 none ∈ gtbl) (h1 : 1 ≤ R.frames) (h2 : (st.map fun v => v.category).sum + 12 ≤ R.locals) (kk : Zs K cs ss ws lv (pc + 3) st) : Zs K cs ss ws lv pc (.ref a :: st) := by
  obtain ⟨p, l, e, R, s, m, args, below, meth, c, Q, A, g⟩ := K
  obtain ⟨hx, hb, hml, hown, hlocks, hA, hAb, hbs, hE, hk, rfl, rfl, rfl⟩ := C
  intro H locs ls hP hD hS hl
  have hts := hE.hts hk (a := args)
  exact W.objInit hx hb hown (hts _ hm.1) (hts _ hm.2.1) (hts _ hm.2.2) (g := F0 m pc ls (.ref a :: st)) rfl hl.1 rfl hd h1 (by show 2 * 0 + _ + 12 ≤ _; omega) (W.eq (g2 := F0 m (pc + 3) ls st) rfl (kk H locs ls hP hD hS hl))
theorem z_putf (C : Cx K g cc own nL R) (I : Ki K) {idx ci k a : Nat} {ty : FieldType} {fs : List Value} {v : Value} (q0 : Nat) (hd : decode cc pc = .ok (.putfield idx, 3)) (F : Fp own idx ci k true ty) (hdecl : ∀ C T N, vwCl[ci]? = some (C, T, N) → (T k).1 = own) (hq : ws[q0]? = some (a, .inr (ci, fs))) (hn : narrow ty v = v) (hf : fits ty v = true) (hlen : k < fs.length) (hw : ws.set q0 (a, .inr (ci, fs.set k v)) = ws') (kk : Zs K cs ss ws' lv (pc + 3) st) : Zs K cs ss ws lv pc (v :: .ref a :: st) := by
  obtain ⟨p, l, e, R, s, m, args, below, meth, c, Q, A, g⟩ := K
  obtain ⟨hx, hb, hml, hown, hlocks, hA, hAb, hbs, hE, hk, rfl, rfl, rfl⟩ := C
  obtain ⟨Cn, T, N, ref, ty0, hc, hkN, hfl, href, hin, hty, hnm, hfin, hpd⟩ := F
  intro H locs ls hP hD hS hl
  have hts := hE.hts hk (a := args)
  exact va_putF hx hb hts hin ty0 hty hnm hown (hE.K hk) hP hD hS q0 hq hc k hkN (hts _ hfl) (fun _ h => by rw [← href]; exact h) hfin I (hdecl _ _ _ hc) hpd hn hf hlen hd (fun H1 l1 hP hD hS => by rw [hw] at hP hD; exact kk H1 l1 ls hP hD hS hl)
theorem z_widen {cs' ss' : Nat} (h1 : cs ≤ cs') (h2 : ss ≤ ss') (kk : Zs K cs' ss' ws lv pc st) : Zs K cs ss ws lv pc st := by
  obtain ⟨p, l, e, R, s, m, args, below, meth, c, Q, A, g⟩ := K
  intro H locs ls hP hD hS hl
  exact W.widen h1 h2 (kk H locs ls hP hD hS hl)

/-- the world in any order -/
theorem z_perm (h : ws'.Perm ws) (kk : Zs K cs ss ws' lv pc st) : Zs K cs ss ws lv pc st := by
  obtain ⟨p, l, e, R, s, m, args, below, meth, c, Q, A, g⟩ := K
  intro H locs ls hP hD hS hl
  have hmem : ∀ q, q ∈ ws' → va_at (gD g) vwCl q H := fun q hq => by
    obtain ⟨k, hk⟩ := List.mem_iff_getElem?.mp (h.subset hq)
    exact hP k q hk
  have hnd : (ws.map (fun q => q.1)).Nodup := by
    refine List.pairwise_iff_getElem.mpr fun i j hi hj hij he => ?_
    rw [List.length_map] at hi hj
    rw [List.getElem_map, List.getElem_map] at he
    have := hD.1 i j _ _ (List.getElem?_eq_getElem hi) (List.getElem?_eq_getElem hj) he
    omega
  have hnd' : (ws'.map (fun q => q.1)).Nodup := (h.map _).nodup_iff.mpr hnd
  refine kk H locs ls (fun k q hk => hmem q (List.mem_of_getElem? hk)) ⟨fun i j p q hi hj e => ?_, fun k q hk => ?_⟩ hS hl
  · have key : ∀ i j : Nat, i < j → ∀ p q : Nat × va_E, ws'[i]? = some p → ws'[j]? = some q → p.1 = q.1 → False := fun i j hlt p q hi hj e => by
      obtain ⟨hi1, hi2⟩ := List.getElem?_eq_some_iff.mp hi
      obtain ⟨hj1, hj2⟩ := List.getElem?_eq_some_iff.mp hj
      refine List.pairwise_iff_getElem.mp hnd' i j (by rw [List.length_map]; exact hi1) (by rw [List.length_map]; exact hj1) hlt ?_
      rw [List.getElem_map, List.getElem_map, hi2, hj2]
      exact e
    rcases Nat.lt_trichotomy i j with hlt | rfl | hlt
    · exact (key i j hlt p q hi hj e).elim
    · rfl
    · exact (key j i hlt q p hj hi e.symm).elim
  · obtain ⟨k', hk'⟩ := List.mem_iff_getElem?.mp (h.subset (List.mem_of_getElem? hk))
    exact hD.2 k' q hk'
end ZAL
