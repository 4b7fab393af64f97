/-! OWN: methods with an exception table, catching, calls whose world stands in front -/
abbrev Hh : Type := List (Nat × Nat × Nat × Nat)
def Ctw (g : Gp) (y : MethodName) (b : ByteArray) (nL : Nat) (ret : Option FieldType) (hh : Hh) (rm : Room) (av : List Value) (w : va_W) (RP : Option Value → va_W → Prop) : Prop := ∀ sz, Met (gl g) y [.codeWith y b nL ret hh] rm (PcOf g av w sz) (QcOf g RP w sz) rm.cells rm.slots (va_A w sz)
def Kx : Kt → Hh → Prop
  | (_, _, _, _, _, _, _, _, _, c, _, _, _), hh => c.exceptionTable.toList = tableOf hh
theorem ctw_of {y : MethodName} {b : ByteArray} {nL : Nat} {ret : Option FieldType} {hh : Hh} {g : Gp} {av : List Value} {w : va_W} {rm : Room} {RP : Option Value → va_W → Prop} (hy : plainName y.cls = true) (hg : Ok g) (hn : (lg_sl av).length ≤ nL)
    (walk : ∀ K : Kt, Cx K g b y.cls nL rm → Kx K hh → Rx K RP rm.cells rm.slots ret → Zs K 0 0 w (lv_args 0 av) 0 []) : Ctw g y b nL ret hh rm av w RP := by
  intro sz
  refine va_MetW (cc := b) (maxL := nL) (ret := ret) hy rfl ?_
  intro p e s m args below meth c s₁ B hml hv
  obtain ⟨rfl, rfl, hP, hD, hb, hE⟩ := hv
  have hlocks := B.notSynchronized
  have hA : ∀ q, va_A w s.heap.size q → gb g ≤ q := fun q h => by
    rcases h with ⟨k, e, h⟩ | h
    · exact hD.2 k (q, e) h
    · omega
  have hl := lv_entry av (n := nL) hn
  have hT : c.exceptionTable.toList = tableOf hh := vx_table (x := y) B (atoms_spec (ws := [Cond.codeWith y b nL ret hh]) B.pre _ List.mem_cons_self)
  rw [lg_entry_eq]
  generalize (lg_sl av ++ List.replicate (nL - (lg_sl av).length) Slot.unset).toArray = ls at hl ⊢
  exact walk (p, gl g, e, rm, s, m, av.toArray, below, meth, c, _, va_A w s.heap.size, g)
    ⟨B.exec, B.bytes, hml, findClass_of_methodNamed B.named, hlocks, fun q h => Or.inr h, hA, hb, hE, hg, rfl, rfl, rfl⟩ hT ⟨⟨w, rfl, rfl⟩, B.returns⟩ s.heap [] ls hP hD.self va_S.rf (by rw [hml]; exact hl)
section ZLW
variable {K : Kt} {g : Gp} {cc : ByteArray} {own : String} {nL : Nat} {R : Room} {cs ss pc : Nat} {A T ws ws' : va_W} {lv lv' : List (Nat × Value)} {st : List Value}
variable {y : MethodName} {n : Nat} {b : ByteArray} {nL' : Nat} {ret : Option FieldType} {rm : Room} {w wc wr : va_W} {As rest : List Value} {RP : Option Value → va_W → Prop} {E name : String} {hh : Hh}
/-- a call of a method that throws, caught here -/
theorem z_callVC {idx a : Nat} (C : Cx K g cc own nL R) (Xt : Kx K hh) (hd : decode cc pc = .ok (.invokevirtual idx, 3)) (hm : Cond.methodLink own idx y ∈ gtbl) (hw : Wv y n b nL' ret) (hM : Tx g y b nL' ret rm (.ref a :: As) wc E) (isC isR : List Nat) {ci : Nat} {fs : List Value} {cl : vw_C} (hn : As.length = n) (hst : st = As.reverse ++ .ref a :: rest) (hrm : rm.frames + 1 ≤ R.frames ∧ 8 + (nL' + 11) + rm.locals ≤ R.locals) (hW : (rest.map fun v => v.category).sum ≤ 8) (hf : cs + rm.cells ≤ R.cells ∧ ss + rm.slots ≤ R.slots) (hq : wc[0]? = some (a, .inr (ci, fs))) (hcl : vwCl[ci]? = some cl) (hcy : cl.1 = y.cls) (hC : isC.map (fun i => w[i]?) = wc.map some) (hR : isR.map (fun i => w[i]?) = wr.map some) (hnC : va_nd isC = true) (hnR : va_nd isR = true) (hdis : ∀ i ∈ isR, i ∉ isC)
    (pre : Hh) (x : Nat × Nat × Nat × Nat) (suf : Hh) (hsp : hh = pre ++ x :: suf) (hpass : ∀ z ∈ tableOf pre, z.catchType ≠ 0 ∧ ∃ nm, Cond.classLink own z.catchType nm ∈ gtbl ∧ va_Nc E nm (g0 g)) (hx : covers ⟨x.1, x.2.1, x.2.2.1, x.2.2.2⟩ pc = true) (h0 : x.2.2.2 ≠ 0) (hlink : Cond.classLink own x.2.2.2 name ∈ gtbl) (hcast : Cond.castable E name ∈ lw_tbl)
    (kk : ∀ q, Zs K (cs + rm.cells) (ss + rm.slots) (wr ++ wc) lv x.2.2.1 [.ref q]) : Zs K cs ss w lv pc st := by
  obtain ⟨p, l, e, R, s, m, args, below, meth, c, Q, A, g⟩ := K
  obtain ⟨hx', hb, hml, hown, hlocks, hA, hAb, hbs, hE, hk, rfl, rfl, rfl⟩ := C
  obtain ⟨⟨w1, w2, w3, w4, w5⟩, w6, w7⟩ := hw
  have Xt : c.exceptionTable.toList = tableOf hh := Xt
  intro H locs ls hP hD hS hl
  have hPc : va_P (gD g) vwCl wc H := fun k q hq => by
    have h1 : (isC.map (fun i => w[i]?))[k]? = some (some q) := by rw [hC, List.getElem?_map, hq]; rfl
    rw [List.getElem?_map] at h1
    cases hi : isC[k]? with
    | none => rw [hi] at h1; cases h1
    | some i => rw [hi] at h1; exact hP i q (Option.some.inj h1)
  have hDc := hD.sub isC hnC hC
  have hFr := va_free hD hS hA isC hC
  have hts := hE.hts hk (a := args)
  have hrec := va_recv (hE.K hk) hPc hcl hq
  rw [hcy] at hrec
  have hr := vx_runV (own := own) (index := idx) (rest := rest) (locs := locs) (p := p) (e := e) (below := below) (meth := meth) (g := F0 m pc ls st) ⟨hx', hb, hml, hown, hts⟩ (hM H.size) ⟨callB_of n hts (ws_good w2) rfl rfl rfl (hts _ w1) (hts _ hm) ⟨w3, w4, w5⟩ hrm, hts _ w6, hts _ w7⟩ ⟨pc_blind, hrec, fun U hU hW => ⟨rfl, by rw [hU], by rw [hU]; exact hPc, hDc.weaken (fun _ q _ h => hAb _ h), Nat.le_trans hbs hS.1, hE.step hbs hAb (by rw [hU]; exact hS) hW⟩⟩ rfl hn (hl.1.trans hml) hst (by show 2 * 0 + _ ≤ 8; omega) hd hf
  intro T0 hT X
  rcases hr T0 hT X with ⟨v, st₀, t, T', L, h0, X', hL, e1, e2, hQ, stp⟩ | ⟨q, st₀, t, T', L, E', ce, h0', X', hL, e1, e2, ⟨rfl, hP1, hz, hkp⟩, hce, hcv, hcl', stp⟩
  · exact hQ.elim
  · rw [h0'] at hz hkp
    rw [← e1] at hP1 hz hkp hce
    have hDw : va_D (va_A wc H.size) wc := hDc.self
    obtain ⟨hP2, hD2⟩ := va_join hP hD isC isR hC hR hnR hdis hkp hFr hP1 hDw
    have hS2 : va_S A s.heap T'.heap (locs ++ L) := ⟨Nat.le_trans hS.1 hz, fun q h1 h2 => by
      rw [hkp q (Nat.lt_of_lt_of_le h1 hS.1) (fun z => h2 (hFr q z))]
      exact hS.2.1 q h1 h2, fun z hz => by
      rcases List.mem_append.mp hz with h | h
      · exact hS.2.2 z h
      · exact hFr _ (hL z h)⟩
    have kq := kk q T'.heap (locs ++ L) ls hP2 hD2 hS2 hl
    obtain ⟨t2, a1, b1⟩ := vx_catch (pc := pc) (ls := ls) (rest := rest) (args := args) (p := p) (l := gl g) (e := e) (R := R) (m := m) (below := below) (meth := meth) (Q := Q) hown (tableOf pre) ⟨x.1, x.2.1, x.2.2.1, x.2.2.2⟩ (tableOf suf) (by rw [Xt, hsp]; unfold tableOf; rw [List.map_append]; rfl) (fun z hz => by
      obtain ⟨z0, nm, h1, h2⟩ := hpass z hz
      exact Or.inr ⟨z0, nm, hts _ h1, va_Nc.moved hE.1.alike h2⟩) hx h0 (hts _ hlink) ((va_Nw.warmC hE.1 (hk.1 _ hcast)).use rfl) hce hcv hcl' kq T' rfl X'
    exact ⟨t2, stp.trans a1, b1⟩
theorem z_callVCT1 {A' : va_W} {idx a : Nat} (C : Cx K g cc own nL R) (Xt : Kx K hh) (hd : decode cc pc = .ok (.invokevirtual idx, 3)) (hm : Cond.methodLink own idx y ∈ gtbl) (hw : Wv y n b nL' ret) (hM : Tx g y b nL' ret rm (.ref a :: As) wc E) (isC isR isF : List Nat) {ci : Nat} {fs : List Value} {cl : vw_C} (hn : As.length = n) (hst : st = As.reverse ++ .ref a :: rest) (hrm : rm.frames + 1 ≤ R.frames ∧ 8 + (nL' + 11) + rm.locals ≤ R.locals) (hW : (rest.map fun v => v.category).sum ≤ 8) (hf : cs + rm.cells ≤ R.cells ∧ ss + rm.slots ≤ R.slots) (hq : wc[0]? = some (a, .inr (ci, fs))) (hcl : vwCl[ci]? = some cl) (hcy : cl.1 = y.cls) (hC : isC.map (fun i => A[i]?) = wc.map some) (hR : isR.map (fun i => A[i]?) = wr.map some) (hnC : va_nd isC = true) (hnR : va_nd isR = true) (hdis : ∀ i ∈ isR, i ∉ isC) (hF : isF.map (fun i => (wr ++ wc)[i]?) = A'.map some) (hnF : va_nd isF = true)
    (pre : Hh) (x : Nat × Nat × Nat × Nat) (suf : Hh) (hsp : hh = pre ++ x :: suf) (hpass : ∀ z ∈ tableOf pre, z.catchType ≠ 0 ∧ ∃ nm, Cond.classLink own z.catchType nm ∈ gtbl ∧ va_Nc E nm (g0 g)) (hx : covers ⟨x.1, x.2.1, x.2.2.1, x.2.2.2⟩ pc = true) (h0 : x.2.2.2 ≠ 0) (hlink : Cond.classLink own x.2.2.2 name ∈ gtbl) (hcast : Cond.castable E name ∈ lw_tbl)
    (kk : ∀ q, Zs K (cs + rm.cells) (ss + rm.slots) (A' ++ T) lv x.2.2.1 [.ref q]) : Zs K cs ss (A ++ T) lv pc st :=
  z_callVC (wr := wr ++ T) C Xt hd hm hw hM isC (isR ++ tl_ix A.length T.length) hn hst hrm hW hf hq hcl hcy (ix_app hC) (ix_full hR) hnC (ix_nd hR hnR _) (fun i hi hc => by
    rcases List.mem_append.mp hi with h | h
    · exact hdis i h hc
    · have h1 := ix_lt hC i hc
      have h2 := tl_ix_ge h
      omega) pre x suf hsp hpass hx h0 hlink hcast (fun q => z_perm (by rw [List.append_assoc, List.append_assoc]; exact List.Perm.append_left _ List.perm_append_comm) (z_subT C isF hnF hF (kk q)))
/-- calls whose world stands in front -/
theorem ix_pre (w wr : va_W) : (List.range w.length).map (fun i => (w ++ wr)[i]?) = w.map some := by
  apply List.ext_getElem?
  intro i
  rw [List.getElem?_map, List.getElem?_map]
  by_cases hi : i < w.length
  · rw [List.getElem?_range hi, List.getElem?_eq_getElem hi]
    show some ((w ++ wr)[i]?) = _
    rw [List.getElem?_append_left hi, List.getElem?_eq_getElem hi]
    rfl
  · rw [List.getElem?_eq_none (by rw [List.length_range]; omega), List.getElem?_eq_none (by omega)]
    rfl
theorem z_callVp {idx a : Nat} (C : Cx K g cc own nL R) (hd : decode cc pc = .ok (.invokevirtual idx, 3)) (hm : Cond.methodLink own idx y ∈ gtbl) (hw : Wv y n b nL' ret) (hM : Ct g y b nL' ret rm (.ref a :: As) w RP) {ci : Nat} {fs : List Value} {cl : vw_C} (hn : As.length = n) (hst : st = As.reverse ++ .ref a :: rest) (hrm : rm.frames + 1 ≤ R.frames ∧ 8 + (nL' + 11) + rm.locals ≤ R.locals) (hW : (rest.map fun v => v.category).sum ≤ 8) (hf : cs + rm.cells ≤ R.cells ∧ ss + rm.slots ≤ R.slots) (hq : w[0]? = some (a, .inr (ci, fs))) (hcl : vwCl[ci]? = some cl) (hcy : cl.1 = y.cls)
    (kk : ∀ rv w', RP rv w' → Zs K (cs + rm.cells) (ss + rm.slots) (w' ++ wr) lv (pc + 3) (rv.toList ++ rest)) : Zs K cs ss (w ++ wr) lv pc st :=
  z_callV (wr := wr) C hd hm hw hM (List.range w.length) (tl_ix w.length wr.length) hn hst hrm hW hf hq hcl hcy (ix_pre w wr) (tl_ix_get w wr) ((va_nd_iff _).mpr List.nodup_range) ((va_nd_iff _).mpr (tl_ix_nd _ _)) (fun i hi hc => by
    have h1 := List.mem_range.mp hc
    have h2 := tl_ix_ge hi
    omega) (fun rv w' hr => z_perm List.perm_append_comm (kk rv w' hr))
/-- a static method with an exception table -/
theorem z_callSWp {idx : Nat} (C : Cx K g cc own nL R) (hd : decode cc pc = .ok (.invokestatic idx, 3)) (hm : Cond.methodLink own idx y ∈ gtbl) (hw : Cond.initialized y.cls ∈ gtbl ∧ Cond.codeWith y b nL' ret hh ∈ gtbl ∧ Cond.static y ∈ gtbl ∧ y.cls ≠ "java/lang/invoke/MethodHandle" ∧ y.cls ≠ "java/lang/invoke/VarHandle" ∧ (parseMethodDescriptor y.desc).map (fun d => d.parameters.length) = some n) (hM : Ctw g y b nL' ret hh rm As w RP) (hn : As.length = n) (hst : st = As.reverse ++ rest) (hrm : rm.frames + 1 ≤ R.frames ∧ 8 + (nL' + 11) + rm.locals ≤ R.locals) (hW : (rest.map fun v => v.category).sum ≤ 8) (hf : cs + rm.cells ≤ R.cells ∧ ss + rm.slots ≤ R.slots)
    (kk : ∀ rv w', RP rv w' → Zs K (cs + rm.cells) (ss + rm.slots) (w' ++ wr) lv (pc + 3) (rv.toList ++ rest)) : Zs K cs ss (w ++ wr) lv pc st := by
  refine z_call (av := As) C (List.range w.length) (tl_ix w.length wr.length) (ix_pre w wr) (tl_ix_get w wr) ((va_nd_iff _).mpr List.nodup_range) ((va_nd_iff _).mpr (tl_ix_nd _ _)) (fun i hi hc => by
    have h1 := List.mem_range.mp hc
    have h2 := tl_ix_ge hi
    omega) ?_ (fun rv w' hr => z_perm List.perm_append_comm (kk rv w' hr))
  obtain ⟨p, l, e, R, s, m, args, below, meth, c, Q, A, g⟩ := K
  obtain ⟨hx, hb, hml, hown, hlocks, hA, hAb, hbs, hE, hk, rfl, rfl, rfl⟩ := C
  obtain ⟨w1, w2, w6, w3, w4, w5⟩ := hw
  intro H locs ls hsz hPw pre
  have hts := hE.hts hk (a := args)
  have hgc : goodWord (Cond.codeWith y b nL' ret hh) = true := rfl
  have cw : vx_CSW R s args own idx y b nL' ret hh [Cond.codeWith y b nL' ret hh] rm rm.cells rm.slots n := by
    refine ⟨⟨rfl, rfl, hrm.1, hrm.2, fun w hw a' U hW => ?_, List.mem_cons_self⟩, hts _ w2, hts _ w1, ⟨w3, w4⟩, fun sig h => ?_, hts _ hm, hts _ w6⟩
    · rw [List.mem_singleton.mp hw]
      exact word_at hW (good_of_word hgc) (hts _ w2)
    · rw [h] at w5
      exact (Option.some.inj w5).symm
  exact vx_runSW (own := own) (index := idx) ⟨hx, hb, hml, hown, hts⟩ (hM H.size) cw pre rfl hn hsz hst (by show 2 * 0 + _ ≤ 8; omega) hd hf
end ZLW
