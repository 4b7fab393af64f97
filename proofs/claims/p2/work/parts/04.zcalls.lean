/-! OWN: calls, over the goal Zs -/
theorem pc_blind {g : Gp} {av : List Value} {w : va_W} {sz : Nat} : FrameBlind (PcOf g av w sz) := fun _ _ _ _ q => q
/-- what a call by entry idx of class own's pool links: method y, its code -/
def Wb (y : MethodName) (n : Nat) (b : ByteArray) (nL : Nat) (ret : Option FieldType) : Prop := Cond.initialized y.cls ∈ gtbl ∧ Cond.code y b nL ret ∈ gtbl ∧ y.cls ≠ "java/lang/invoke/MethodHandle" ∧ y.cls ≠ "java/lang/invoke/VarHandle" ∧ (parseMethodDescriptor y.desc).map (fun d => d.parameters.length) = some n
def Wv (y : MethodName) (n : Nat) (b : ByteArray) (nL : Nat) (ret : Option FieldType) : Prop := Wb y n b nL ret ∧ Cond.instanceMethod y ∈ gtbl ∧ Cond.selects y.cls y y ∈ gtbl
def Wi (y : MethodName) (n : Nat) (b : ByteArray) (nL : Nat) : Prop := Wb y n b nL none ∧ Cond.instanceMethod y ∈ gtbl ∧ y.name = "<init>"
def Wt (y : MethodName) (n : Nat) (b : ByteArray) (nL : Nat) (ret : Option FieldType) : Prop := Wb y n b nL ret ∧ Cond.static y ∈ gtbl
theorem code_good (y : MethodName) (b : ByteArray) (nL : Nat) (ret : Option FieldType) : goodWord (.code y b nL ret) = true := rfl
theorem ws_good {Ts : List Cond} {y : MethodName} {b : ByteArray} {nL : Nat} {ret : Option FieldType} (h : Cond.code y b nL ret ∈ Ts) : GoodIn Ts [.code y b nL ret] := fun w hw => by
  rw [List.mem_singleton.mp hw]
  exact ⟨h, good_of_word (code_good y b nL ret)⟩
section ZC
variable {K : Kt} {g : Gp} {cc : ByteArray} {own : String} {nL : Nat} {R : Room} {cs ss pc : Nat} {ws ws' : va_W} {lv lv' : List (Nat × Value)} {st : List Value}
theorem z_call {rm : Room} {w wr : va_W} {av rest : List Value} {RP : Option Value → va_W → Prop} (C : Cx K g cc own nL R) (isC isR : List Nat) (hC : isC.map (fun i => ws[i]?) = w.map some) (hR : isR.map (fun i => ws[i]?) = wr.map some) (hnC : va_nd isC = true) (hnR : va_nd isR = true) (hdis : ∀ i ∈ isR, i ∉ isC)
    (run : match K with | (p, l, e, R, s, m, args, below, meth, c, Q, A, g) => ∀ (H : Heap) (locs : List Loc) (ls : Array Slot), ls.size = nL → va_P (gD g) vwCl w H → PreS s H (PcOf g av w H.size) av → va_Run p l e R s m args below meth c H locs cs ss rm.cells rm.slots (F0 m pc ls st) rest (QcOf g RP w H.size av.toArray) (va_A w H.size))
    (kk : ∀ rv w', RP rv w' → Zs K (cs + rm.cells) (ss + rm.slots) (wr ++ w') lv (pc + 3) (rv.toList ++ rest)) : Zs K cs ss ws lv pc st := by
  obtain ⟨p, l, e, R, s, m, args, below, meth, c, Q, A, g⟩ := K
  obtain ⟨hx, hb, hml, hown, hlocks, hA, hAb, hbs, hE, hk, rfl, rfl, rfl⟩ := C
  intro H locs ls hP hD hS hl
  have hPc : va_P (gD g) vwCl w H := fun k q hq => by
    have h1 : (isC.map (fun i => ws[i]?))[k]? = some (some q) := by rw [hC, List.getElem?_map, hq]; rfl
    rw [List.getElem?_map] at h1
    cases hi : isC[k]? with
    | none => rw [hi] at h1; cases h1
    | some i => rw [hi] at h1; exact hP i q (Option.some.inj h1)
  have hDc := hD.sub isC hnC hC
  have hF := va_free hD hS hA isC hC
  have pre : PreS s H (PcOf g av w H.size) av := ⟨pc_blind, fun U hU hW => ⟨rfl, by rw [hU], by rw [hU]; exact hPc, hDc.weaken (fun _ q _ h => hAb _ h), Nat.le_trans hbs hS.1, hE.step hbs hAb (by rw [hU]; exact hS) hW⟩⟩
  have hr := run H locs ls (hl.1.trans hml) hPc pre
  intro T hT X
  obtain ⟨v, st₀, t, T', L, h0, X', hL, e1, e2, ⟨⟨rv, w', hv, hRP, hP1, hD1⟩, hz, hkp⟩, stp⟩ := hr T hT X
  cases hv
  rw [h0] at hz hkp
  rw [← e1] at hP1 hz hkp
  have hkp' : ∀ q : Nat, q < H.size → ¬ va_A w H.size q → T'.heap[q]? = H[q]? := hkp
  obtain ⟨hP2, hD2⟩ := va_join hP hD isC isR hC hR hnR hdis hkp' hF hP1 hD1
  obtain ⟨t2, a1, b1⟩ := kk v w' hRP T'.heap (locs ++ L) ls hP2 hD2 ⟨Nat.le_trans hS.1 hz, fun q h1 h2 => by
      rw [hkp' q (Nat.lt_of_lt_of_le h1 hS.1) (fun z => h2 (hF q z))]
      exact hS.2.1 q h1 h2, fun q hq => by
      rcases List.mem_append.mp hq with h | h
      · exact hS.2.2 q h
      · exact hF _ (hL q h)⟩ hl T' rfl X'
  exact ⟨t2, stp t2 a1, b1⟩
variable {y : MethodName} {n : Nat} {b : ByteArray} {nL' : Nat} {ret : Option FieldType} {rm : Room} {w wr : va_W} {As rest : List Value} {RP : Option Value → va_W → Prop}
theorem z_callS {idx : Nat} (C : Cx K g cc own nL R) (hd : decode cc pc = .ok (.invokestatic idx, 3)) (hm : Cond.methodLink own idx y ∈ gtbl) (hw : Wt y n b nL' ret) (hM : Ct g y b nL' ret rm As w RP) (isC isR : List Nat) (hn : As.length = n) (hst : st = As.reverse ++ rest) (hrm : rm.frames + 1 ≤ R.frames ∧ 8 + (nL' + 11) + rm.locals ≤ R.locals) (hW : (rest.map fun v => v.category).sum ≤ 8) (hf : cs + rm.cells ≤ R.cells ∧ ss + rm.slots ≤ R.slots) (hC : isC.map (fun i => ws[i]?) = w.map some) (hR : isR.map (fun i => ws[i]?) = wr.map some) (hnC : va_nd isC = true) (hnR : va_nd isR = true) (hdis : ∀ i ∈ isR, i ∉ isC)
    (kk : ∀ rv w', RP rv w' → Zs K (cs + rm.cells) (ss + rm.slots) (wr ++ w') lv (pc + 3) (rv.toList ++ rest)) : Zs K cs ss ws lv pc st := by
  refine z_call (av := As) C isC isR hC hR hnC hnR hdis ?_ kk
  obtain ⟨p, l, e, R, s, m, args, below, meth, c, Q, A, g⟩ := K
  obtain ⟨hx, hb, hml, hown, hlocks, hA, hAb, hbs, hE, hk, rfl, rfl, rfl⟩ := C
  obtain ⟨⟨w1, w2, w3, w4, w5⟩, w6⟩ := hw
  intro H locs ls hsz hPw pre
  have hts := hE.hts hk (a := args)
  exact va_runS (own := own) (index := idx) ⟨hx, hb, hml, hown, hts⟩ (hM H.size) ⟨callB_of n hts (ws_good w2) rfl rfl rfl (hts _ w1) (hts _ hm) ⟨w3, w4, w5⟩ hrm, hts _ w6⟩ pre rfl hn hsz hst (by show 2 * 0 + _ ≤ 8; omega) hd hf
theorem z_callV {idx a : Nat} (C : Cx K g cc own nL R) (hd : decode cc pc = .ok (.invokevirtual idx, 3)) (hm : Cond.methodLink own idx y ∈ gtbl) (hw : Wv y n b nL' ret) (hM : Ct g y b nL' ret rm (.ref a :: As) w RP) (isC isR : List Nat) {ci : Nat} {fs : List Value} {cl : vw_C} (hn : As.length = n) (hst : st = As.reverse ++ .ref a :: rest) (hrm : rm.frames + 1 ≤ R.frames ∧ 8 + (nL' + 11) + rm.locals ≤ R.locals) (hW : (rest.map fun v => v.category).sum ≤ 8) (hf : cs + rm.cells ≤ R.cells ∧ ss + rm.slots ≤ R.slots) (hq : w[0]? = some (a, .inr (ci, fs))) (hcl : vwCl[ci]? = some cl) (hcy : cl.1 = y.cls) (hC : isC.map (fun i => ws[i]?) = w.map some) (hR : isR.map (fun i => ws[i]?) = wr.map some) (hnC : va_nd isC = true) (hnR : va_nd isR = true) (hdis : ∀ i ∈ isR, i ∉ isC)
    (kk : ∀ rv w', RP rv w' → Zs K (cs + rm.cells) (ss + rm.slots) (wr ++ w') lv (pc + 3) (rv.toList ++ rest)) : Zs K cs ss ws lv pc st := by
  refine z_call (av := .ref a :: As) C isC isR hC hR hnC hnR hdis ?_ kk
  obtain ⟨p, l, e, R, s, m, args, below, meth, c, Q, A, g⟩ := K
  obtain ⟨hx, hb, hml, hown, hlocks, hA, hAb, hbs, hE, hk, rfl, rfl, rfl⟩ := C
  obtain ⟨⟨w1, w2, w3, w4, w5⟩, w6, w7⟩ := hw
  intro H locs ls hsz hPw pre
  have hts := hE.hts hk (a := args)
  have hrec := va_recv (hE.K hk) hPw hcl hq
  rw [hcy] at hrec
  exact va_runV (own := own) (index := idx) ⟨hx, hb, hml, hown, hts⟩ (hM H.size) ⟨callB_of n hts (ws_good w2) rfl rfl rfl (hts _ w1) (hts _ hm) ⟨w3, w4, w5⟩ hrm, hts _ w6, hts _ w7⟩ ⟨pre.1, hrec, pre.2⟩ rfl hn hsz hst (by show 2 * 0 + _ ≤ 8; omega) hd hf
theorem z_callI {idx a : Nat} (C : Cx K g cc own nL R) (hd : decode cc pc = .ok (.invokespecial idx, 3)) (hm : Cond.methodLink own idx y ∈ gtbl) (hw : Wi y n b nL') (hM : Ct g y b nL' none rm (.ref a :: As) w RP) (isC isR : List Nat) (hn : As.length = n) (hst : st = As.reverse ++ .ref a :: rest) (hrm : rm.frames + 1 ≤ R.frames ∧ 8 + (nL' + 11) + rm.locals ≤ R.locals) (hW : (rest.map fun v => v.category).sum ≤ 8) (hf : cs + rm.cells ≤ R.cells ∧ ss + rm.slots ≤ R.slots) (hC : isC.map (fun i => ws[i]?) = w.map some) (hR : isR.map (fun i => ws[i]?) = wr.map some) (hnC : va_nd isC = true) (hnR : va_nd isR = true) (hdis : ∀ i ∈ isR, i ∉ isC)
    (kk : ∀ rv w', RP rv w' → Zs K (cs + rm.cells) (ss + rm.slots) (wr ++ w') lv (pc + 3) (rv.toList ++ rest)) : Zs K cs ss ws lv pc st := by
  refine z_call (av := .ref a :: As) C isC isR hC hR hnC hnR hdis ?_ kk
  obtain ⟨p, l, e, R, s, m, args, below, meth, c, Q, A, g⟩ := K
  obtain ⟨hx, hb, hml, hown, hlocks, hA, hAb, hbs, hE, hk, rfl, rfl, rfl⟩ := C
  obtain ⟨⟨w1, w2, w3, w4, w5⟩, w6, w7⟩ := hw
  intro H locs ls hsz hPw pre
  have hts := hE.hts hk (a := args)
  exact va_runI (own := own) (index := idx) ⟨hx, hb, hml, hown, hts⟩ (hM H.size) ⟨callB_of n hts (ws_good w2) rfl rfl rfl (hts _ w1) (hts _ hm) ⟨w3, w4, w5⟩ hrm, w7, hts _ w6⟩ pre rfl hn hsz hst (by show 2 * 0 + _ ≤ 8; omega) hd hf
/-- a private method of a nest mate -/
theorem z_nest {own host : String} {idx : Nat} {x : MethodName} {s : State} {g : Gp} (hk : Ok g) (hE : En g s) (hm : Cond.methodLinkNest own idx x host ∈ lw_tbl) : va_Nw (.methodLinkNest own idx x host) s := va_Nw.warmM hE.1 (hk.1 _ hm)
theorem z_callSN {idx : Nat} {host : String} (C : Cx K g cc own nL R) (hd : decode cc pc = .ok (.invokestatic idx, 3)) (hm : Cond.methodLinkNest own idx y host ∈ lw_tbl) (hw : Wt y n b nL' ret) (hM : Ct g y b nL' ret rm As w RP) (isC isR : List Nat) (hn : As.length = n) (hst : st = As.reverse ++ rest) (hrm : rm.frames + 1 ≤ R.frames ∧ 8 + (nL' + 11) + rm.locals ≤ R.locals) (hW : (rest.map fun v => v.category).sum ≤ 8) (hf : cs + rm.cells ≤ R.cells ∧ ss + rm.slots ≤ R.slots) (hC : isC.map (fun i => ws[i]?) = w.map some) (hR : isR.map (fun i => ws[i]?) = wr.map some) (hnC : va_nd isC = true) (hnR : va_nd isR = true) (hdis : ∀ i ∈ isR, i ∉ isC)
    (kk : ∀ rv w', RP rv w' → Zs K (cs + rm.cells) (ss + rm.slots) (wr ++ w') lv (pc + 3) (rv.toList ++ rest)) : Zs K cs ss ws lv pc st := by
  refine z_call (av := As) C isC isR hC hR hnC hnR hdis ?_ kk
  obtain ⟨p, l, e, R, s, m, args, below, meth, c, Q, A, g⟩ := K
  obtain ⟨hx, hb, hml, hown, hlocks, hA, hAb, hbs, hE, hk, rfl, rfl, rfl⟩ := C
  obtain ⟨⟨w1, w2, w3, w4, w5⟩, w6⟩ := hw
  intro H locs ls hsz hPw pre
  have hts := hE.hts hk (a := args)
  exact va_runSN (own := own) (index := idx) ⟨hx, hb, hml, hown, hts⟩ (hM H.size) ⟨va_cnB n hts (ws_good w2) rfl rfl rfl (z_nest hk hE hm) (hts _ w1) ⟨w3, w4, w5⟩ hrm, hts _ w6, trivial⟩ pre rfl hn hsz hst (by show 2 * 0 + _ ≤ 8; omega) hd hf
theorem z_callIN {idx a : Nat} {host : String} (C : Cx K g cc own nL R) (hd : decode cc pc = .ok (.invokespecial idx, 3)) (hm : Cond.methodLinkNest own idx y host ∈ lw_tbl) (hw : Wi y n b nL') (hM : Ct g y b nL' none rm (.ref a :: As) w RP) (isC isR : List Nat) (hn : As.length = n) (hst : st = As.reverse ++ .ref a :: rest) (hrm : rm.frames + 1 ≤ R.frames ∧ 8 + (nL' + 11) + rm.locals ≤ R.locals) (hW : (rest.map fun v => v.category).sum ≤ 8) (hf : cs + rm.cells ≤ R.cells ∧ ss + rm.slots ≤ R.slots) (hC : isC.map (fun i => ws[i]?) = w.map some) (hR : isR.map (fun i => ws[i]?) = wr.map some) (hnC : va_nd isC = true) (hnR : va_nd isR = true) (hdis : ∀ i ∈ isR, i ∉ isC)
    (kk : ∀ rv w', RP rv w' → Zs K (cs + rm.cells) (ss + rm.slots) (wr ++ w') lv (pc + 3) (rv.toList ++ rest)) : Zs K cs ss ws lv pc st := by
  refine z_call (av := .ref a :: As) C isC isR hC hR hnC hnR hdis ?_ kk
  obtain ⟨p, l, e, R, s, m, args, below, meth, c, Q, A, g⟩ := K
  obtain ⟨hx, hb, hml, hown, hlocks, hA, hAb, hbs, hE, hk, rfl, rfl, rfl⟩ := C
  obtain ⟨⟨w1, w2, w3, w4, w5⟩, w6, w7⟩ := hw
  intro H locs ls hsz hPw pre
  have hts := hE.hts hk (a := args)
  exact va_runIN (own := own) (index := idx) ⟨hx, hb, hml, hown, hts⟩ (hM H.size) ⟨va_cnB n hts (ws_good w2) rfl rfl rfl (z_nest hk hE hm) (hts _ w1) ⟨w3, w4, w5⟩ hrm, w7, hts _ w6⟩ pre rfl hn hsz hst (by show 2 * 0 + _ ≤ 8; omega) hd hf
def zrm (f n : Nat) : Room := { frames := f, cells := 0, slots := 0, locals := n }
theorem z_mmin {idx : Nat} {x y : Int32} (C : Cx K g cc own nL R) (hd : decode cc pc = .ok (.invokestatic idx, 3)) (hm : Cond.methodLink own idx Lib.Math.min.name ∈ gtbl) (hM : Cond.static Lib.Math.min.name ∈ gtbl ∧ Cond.initialized "java/lang/Math" ∈ gtbl ∧ Cond.code Lib.Math.min.name Lib.Math.min.code 2 (some .int) ∈ gtbl) (h1 : 1 ≤ R.frames) (h2 : (st.map fun v => v.category).sum + 13 ≤ R.locals) (h3 : cs ≤ R.cells) (h4 : ss ≤ R.slots) (kk : Zs K cs ss ws lv (pc + 3) (.int (if y < x then y else x) :: st)) : Zs K cs ss ws lv pc (.int y :: .int x :: st) := by
  obtain ⟨p, l, e, R, s, m, args, below, meth, c, Q, A, g⟩ := K
  obtain ⟨hx, hb, hml, hown, hlocks, hA, hAb, hbs, hE, hk, rfl, rfl, rfl⟩ := C
  intro H locs ls hP hD hS hl
  have hts := hE.hts hk (a := args)
  exact va_mmin hx hb hl.1.symm hown (hts _ hm) (hts _ hM.1) (hts _ hM.2.1) (hts _ hM.2.2) h1 h2 h3 h4 hd (kk H locs ls hP hD hS hl)
theorem z_mmax {idx : Nat} {x y : Int32} (C : Cx K g cc own nL R) (hd : decode cc pc = .ok (.invokestatic idx, 3)) (hm : Cond.methodLink own idx Lib.Math.max.name ∈ gtbl) (hM : Cond.static Lib.Math.max.name ∈ gtbl ∧ Cond.initialized "java/lang/Math" ∈ gtbl ∧ Cond.code Lib.Math.max.name Lib.Math.max.code 2 (some .int) ∈ gtbl) (h1 : 1 ≤ R.frames) (h2 : (st.map fun v => v.category).sum + 13 ≤ R.locals) (h3 : cs ≤ R.cells) (h4 : ss ≤ R.slots) (kk : Zs K cs ss ws lv (pc + 3) (.int (if x < y then y else x) :: st)) : Zs K cs ss ws lv pc (.int y :: .int x :: st) := by
  obtain ⟨p, l, e, R, s, m, args, below, meth, c, Q, A, g⟩ := K
  obtain ⟨hx, hb, hml, hown, hlocks, hA, hAb, hbs, hE, hk, rfl, rfl, rfl⟩ := C
  intro H locs ls hP hD hS hl
  have hts := hE.hts hk (a := args)
  exact va_mmax hx hb hl.1.symm hown (hts _ hm) (hts _ hM.1) (hts _ hM.2.1) (hts _ hM.2.2) h1 h2 h3 h4 hd (kk H locs ls hP hD hS hl)
def Wc (own : String) (idx : Nat) : Prop := Cond.methodLink own idx arraycopyName ∈ gtbl ∧ Cond.native arraycopyName ∈ gtbl ∧ Cond.static arraycopyName ∈ gtbl ∧ Cond.initialized "java/lang/System" ∈ gtbl
theorem z_copyi {idx a0 a n0 n1 : Nat} {f h : Nat → Int32} {sp dp n : Int32} (C : Cx K g cc own nL R) (q0 q1 : Nat) (hd : decode cc pc = .ok (.invokestatic idx, 3)) (hm : Wc own idx) (ha0 : ws[q0]? = some (a0, .inl (gI g, n0, .inl f))) (ha1 : ws[q1]? = some (a, .inl (gI g, n1, .inl h))) (h1 : ¬ sp < 0) (h2 : ¬ dp < 0) (h3 : ¬ n < 0) (h4 : sp.toNatClampNeg + n.toNatClampNeg ≤ n0) (h5 : dp.toNatClampNeg + n.toNatClampNeg ≤ n1) (hfr : 1 ≤ R.frames) (hlo : (st.map fun v => v.category).sum + (nativeFrameWords "java/lang/System" "arraycopy" 5 + 11) ≤ R.locals) (hw : ws.set q1 (a, .inl (gI g, n1, .inl (va_cpy f h sp.toNatClampNeg dp.toNatClampNeg n.toNatClampNeg))) = ws') (kk : Zs K cs ss ws' lv (pc + 3) st) : Zs K cs ss ws lv pc (.int n :: .int dp :: .ref a :: .int sp :: .ref a0 :: st) := by
  obtain ⟨p, l, e, R, s, m, args, below, meth, c, Q, A, g⟩ := K
  obtain ⟨hx, hb, hml, hown, hlocks, hA, hAb, hbs, hE, hk, rfl, rfl, rfl⟩ := C
  intro H locs ls hP hD hS hl
  have hts := hE.hts hk (a := args)
  exact va_copyi hx hb hl.1.symm hown (hts _ hm.1) (hts _ hm.2.1) (hts _ hm.2.2.1) (hts _ hm.2.2.2) (hE.K hk) hP hD hS q0 q1 0 0 ha0 ha1 rfl rfl rfl h1 h2 h3 h4 h5 (fun _ _ => rfl) hfr hlo hd (fun H1 l1 hP hD hS => by rw [hw] at hP hD; exact kk H1 l1 ls hP hD hS hl)
theorem z_copyl {idx a0 a n0 n1 : Nat} {f h : Nat → Int64} {sp dp n : Int32} (C : Cx K g cc own nL R) (q0 q1 : Nat) (hd : decode cc pc = .ok (.invokestatic idx, 3)) (hm : Wc own idx) (ha0 : ws[q0]? = some (a0, .inl (gJ g, n0, .inr (.inl f)))) (ha1 : ws[q1]? = some (a, .inl (gJ g, n1, .inr (.inl h)))) (h1 : ¬ sp < 0) (h2 : ¬ dp < 0) (h3 : ¬ n < 0) (h4 : sp.toNatClampNeg + n.toNatClampNeg ≤ n0) (h5 : dp.toNatClampNeg + n.toNatClampNeg ≤ n1) (hfr : 1 ≤ R.frames) (hlo : (st.map fun v => v.category).sum + (nativeFrameWords "java/lang/System" "arraycopy" 5 + 11) ≤ R.locals) (hw : ws.set q1 (a, .inl (gJ g, n1, .inr (.inl (va_cpy f h sp.toNatClampNeg dp.toNatClampNeg n.toNatClampNeg)))) = ws') (kk : Zs K cs ss ws' lv (pc + 3) st) : Zs K cs ss ws lv pc (.int n :: .int dp :: .ref a :: .int sp :: .ref a0 :: st) := by
  obtain ⟨p, l, e, R, s, m, args, below, meth, c, Q, A, g⟩ := K
  obtain ⟨hx, hb, hml, hown, hlocks, hA, hAb, hbs, hE, hk, rfl, rfl, rfl⟩ := C
  intro H locs ls hP hD hS hl
  have hts := hE.hts hk (a := args)
  exact va_copyl hx hb hl.1.symm hown (hts _ hm.1) (hts _ hm.2.1) (hts _ hm.2.2.1) (hts _ hm.2.2.2) (hE.K hk) hP hD hS q0 q1 1 1 ha0 ha1 rfl rfl rfl h1 h2 h3 h4 h5 (fun _ _ => rfl) hfr hlo hd (fun H1 l1 hP hD hS => by rw [hw] at hP hD; exact kk H1 l1 ls hP hD hS hl)
/-- the exact form: one answer, the world put in order -/
theorem ex_k {rv0 : Option Value} {w0 wF : va_W} {cs' ss' pc' : Nat} {rest : List Value} (C : Cx K g cc own nL R) (isF : List Nat) (hF : isF.map (fun i => (wr ++ w0)[i]?) = wF.map some) (hnF : va_nd isF = true) (kk : Zs K cs' ss' wF lv pc' (rv0.toList ++ rest)) : ∀ rv w', exR rv0 w0 rv w' → Zs K cs' ss' (wr ++ w') lv pc' (rv.toList ++ rest) := by
  intro rv w' h
  obtain ⟨rfl, rfl⟩ := h
  exact z_sub C isF hnF hF kk
end ZC
