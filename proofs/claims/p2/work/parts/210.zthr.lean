/-! OWN: methods that throw, over the goal Zs -/
def XcOf (g : Gp) (E : String) (w : va_W) (sz : Nat) : String → State → State → Prop := fun E' st t => E' = E ∧ va_P (gD g) vwCl w t.heap ∧ va_F (va_A w sz) st t
/-- it throws E, and the world is as it was -/
def Tx (g : Gp) (y : MethodName) (b : ByteArray) (nL : Nat) (ret : Option FieldType) (rm : Room) (av : List Value) (w : va_W) (E : String) : Prop := ∀ sz, vx_Met (gl g) y [.code y b nL ret] rm (PcOf g av w sz) (fun _ _ _ _ => False) (XcOf g E w sz) rm.cells rm.slots (va_A w sz)
def Tt : Kt → String → va_W → Nat → Nat → Prop
  | (p, l, e, R, s, m, args, below, meth, c, Q, A, g), E, w, mc, ms => A = va_A w s.heap.size ∧ Q = vx_MQ below (fun _ _ _ _ => False) (XcOf g E w s.heap.size) args s mc ms A ∧ ∀ x ∈ c.exceptionTable.toList, False
def xn : Nat → String
  | 1 => "java/lang/IndexOutOfBoundsException"
  | _ => "java/lang/IllegalArgumentException"
def tb {α β : Type} (a : Option α) (b : Option β) (k : α → Option β) : Option β := match a with
  | some x => k x
  | none => b
theorem tb_e {α β : Type} {a : Option α} {b : Option β} {k : α → Option β} {r : β} (h : tb a b k = some r) : (∃ x, a = some x ∧ k x = some r) ∨ b = some r := by
  cases a with
  | none => exact Or.inr h
  | some x => exact Or.inl ⟨x, rfl, h⟩
theorem tx_of {y : MethodName} {b : ByteArray} {nL : Nat} {ret : Option FieldType} {g : Gp} {av : List Value} {w : va_W} {rm : Room} {E : String} (hy : plainName y.cls = true) (hg : Ok g) (hn : (lg_sl av).length ≤ nL)
    (walk : ∀ K : Kt, Cx K g b y.cls nL rm → Tt K E w rm.cells rm.slots → Zs K 0 0 w (lv_args 0 av) 0 []) : Tx g y b nL ret rm av w E := by
  intro sz
  refine vx_ofW (cc := b) (maxL := nL) (ret := ret) hy rfl ?_
  intro p e s m args below meth c s₁ B hml ht hv
  obtain ⟨rfl, rfl, hP, hD, hb, hE⟩ := hv
  have hlocks := B.notSynchronized
  have hA : ∀ q, va_A w s.heap.size q → gb g ≤ q := fun q h => by
    rcases h with ⟨k, e, h⟩ | h
    · exact hD.2 k (q, e) h
    · omega
  have hl := lv_entry av (n := nL) hn
  rw [lg_entry_eq]
  generalize (lg_sl av ++ List.replicate (nL - (lg_sl av).length) Slot.unset).toArray = ls at hl ⊢
  exact walk (p, gl g, e, rm, s, m, av.toArray, below, meth, c, _, va_A w s.heap.size, g)
    ⟨B.exec, B.bytes, hml, findClass_of_methodNamed B.named, hlocks, fun q h => Or.inr h, hA, hb, hE, hg, rfl, rfl, rfl⟩ ⟨rfl, rfl, ht⟩ s.heap [] ls hP hD.self va_S.rf (by rw [hml]; exact hl)
def xnames : List String := [Bundle.rN, Bundle.eN]
def xA (X : String) : List Cond := Bundle.throwableAtoms ++ Bundle.throwableSAtoms ++ Bundle.chainSAtoms X xnames
def xtl (X : String) : List Cond := (Bundle.ownAtoms "" 0 X xnames).drop ((xA X).length + 1)
theorem drop_mid {α : Type} (A t : List α) (m : α) : (A ++ m :: t).drop (A.length + 1) = t := by
  have e : A ++ m :: t = (A ++ [m]) ++ t := by simp
  rw [e]
  exact List.drop_left' (by simp)
theorem own_eq (own : String) (ic : Nat) (X : String) : Bundle.ownAtoms own ic X xnames = xA X ++ Cond.methodLink own ic (Bundle.initS X) :: xtl X := by
  unfold xtl xA Bundle.ownAtoms
  rw [drop_mid]
def xok (X : String) : Bool := (xA X ++ xtl X).all (fun w => !vx_no w || (vx_ot w && (decide (w ∈ gtbl) || (match w with
  | .castable a b => decide (Cond.castable a b ∈ lw_tbl)
  | .declares x => decide (Cond.declares x ∈ lw_tbl)
  | _ => false))))
theorem at_hat {g : Gp} {s : State} {args : Array Value} (hk : Ok g) (hE : En g s) {own X : String} {ic : Nat} (hx : xok X = true) (hm : Cond.methodLink own ic (Bundle.initS X) ∈ gtbl) : ∀ w ∈ vx_atS own ic X xnames, w.before args s = true ∧ vx_ot w = true := by
  intro w hw
  obtain ⟨h1, h2⟩ := List.mem_filter.mp hw
  rw [own_eq] at h1
  have h1' : w = Cond.methodLink own ic (Bundle.initS X) ∨ w ∈ xA X ++ xtl X := by
    rcases List.mem_append.mp h1 with h | h
    · exact Or.inr (List.mem_append_left _ h)
    · rcases List.mem_cons.mp h with h | h
      · exact Or.inl h
      · exact Or.inr (List.mem_append_right _ h)
  rcases h1' with rfl | h1
  · exact ⟨hE.hts hk _ hm, rfl⟩
  · have h3 := List.all_eq_true.mp hx w h1
    rw [h2] at h3
    simp only [Bool.not_true, Bool.false_or, Bool.and_eq_true, Bool.or_eq_true, decide_eq_true_eq] at h3
    obtain ⟨h3, h4 | h4⟩ := h3
    · exact ⟨hE.hts hk _ h4, h3⟩
    · split at h4
      · have h5 := of_decide_eq_true h4
        exact ⟨(va_Nw.warmC hE.1 (hk.1 _ h5)).use rfl, h3⟩
      · have h5 := of_decide_eq_true h4
        exact ⟨(va_Nw.warmD hE.1 (hk.1 _ h5)).use rfl, h3⟩
      · cases h4
theorem tls_us : Cond.laysStatic "java/lang/Throwable" "UNASSIGNED_STACK" "[Ljava/lang/StackTraceElement;" ∈ lw_tbl := List.mem_of_getElem? (i := 1066) (by decide +kernel)
theorem tls_ss : Cond.laysStatic "java/lang/Throwable" "SUPPRESSED_SENTINEL" "Ljava/util/List;" ∈ lw_tbl := List.mem_of_getElem? (i := 1068) (by decide +kernel)
theorem tini : Cond.initialized "java/lang/Throwable" ∈ lw_tbl := List.mem_of_getElem? (i := 138) (by decide +kernel)
theorem xok_1 : xok "java/lang/IndexOutOfBoundsException" = true := by decide +kernel
theorem xok_2 : xok "java/lang/IllegalArgumentException" = true := by decide +kernel
def Tf (g : Gp) (n d : String) : Prop := vx_Zq Bundle.tN n d (A0 g) (g0 g) (g0 g).heap
theorem tf_us {g : Gp} (hg : Ok g) : Tf g "UNASSIGNED_STACK" Bundle.steD := by
  obtain ⟨a, h⟩ := ok_narrow hg
  exact vx_Zqof (ok_lst hg tls_us) (ok_good hg tini rfl) (h (.isRef (.static Bundle.tN "UNASSIGNED_STACK" Bundle.steD)) (by decide +kernel)) (ok_lo hg)
theorem tf_ss {g : Gp} (hg : Ok g) : Tf g "SUPPRESSED_SENTINEL" Bundle.listD := by
  obtain ⟨a, h⟩ := ok_narrow hg
  exact vx_Zqof (ok_lst hg tls_ss) (ok_good hg tini rfl) (h (.isRef (.static Bundle.tN "SUPPRESSED_SENTINEL" Bundle.listD)) (by decide +kernel)) (ok_lo hg)
section ZTH
variable {K : Kt} {g : Gp} {cc : ByteArray} {own : String} {nL : Nat} {R : Room} {cs ss pc : Nat} {w ws ws' : va_W} {lv lv' : List (Nat × Value)} {st : List Value} {E : String} {mc ms : Nat}
/-- throw new E("..") -/
theorem z_thr (C : Cx K g cc own nL R) (T : Tt K E w mc ms) {ik is ic sa : Nat} {text : String} (hx : xok E = true) (hf : Bundle.fit E = true) (hw : Cond.classLink own ik E ∈ gtbl ∧ Cond.initialized E ∈ gtbl ∧ Cond.methodLink own ic (Bundle.initS E) ∈ gtbl) (hstr : vk_R own is text sa (g0 g))
    (d0 : decode cc pc = .ok (.new ik, 3)) (d3 : decode cc (pc + 3) = .ok (.dup, 1)) (d4 : decode cc (pc + 4) = .ok (.ldc is, 2)) (d6 : decode cc (pc + 6) = .ok (.invokespecial ic, 3)) (d9 : decode cc (pc + 9) = .ok (.athrow, 1))
    (h1 : 6 ≤ R.frames) (h2 : (st.map fun v => v.category).sum + 82 ≤ R.locals) (h3 : cs + 1 ≤ R.cells) (h4 : ss + 6 ≤ R.slots) (h5 : cs + 1 ≤ mc) (h6 : ss + 6 ≤ ms) : Zs K cs ss w lv pc st := by
  obtain ⟨p, l, e, R, s, m, args, below, meth, c, Q, A, g⟩ := K
  obtain ⟨hx', hb, hml, hown, hlocks, hA, hAb, hbs, hE, hk, rfl, rfl, rfl⟩ := C
  obtain ⟨rfl, rfl, ht⟩ := T
  intro H locs ls hP hD hS hl
  have hU := ((vx_Zq.moved hE.1.alike (tf_us hk)).kept (hE.kp hk)).narrow hAb
  have hN := ((vx_Zq.moved hE.1.alike (tf_ss hk)).kept (hE.kp hk)).narrow hAb
  have hat := at_hat (args := args) hk hE hx hw.2.2
  refine vx_throwS (names := xnames) (own := own) (cls := E) (text := text) (sa := sa) hx' hb hk.2.2.2.1 hown hf (by decide +kernel) (hE.hts hk _ hw.1) (hE.hts hk _ hw.2.1) (vk_R.warm hE.1 hstr) (fun w h => (hat w h).1) ?_ hU hN hS hl.1 d0 d3 d4 d6 d9 (fun x h => (ht x h).elim) (by show 2 + 3 < R.frames; omega) (by show _ + (13 * (2 + 1) + 43) ≤ R.locals; omega) h3 h4 hlocks ?_ hS.2.2 h5 h6
  · intro w h
    rcases List.mem_cons.mp h with rfl | h
    · rfl
    · rcases List.mem_cons.mp h with rfl | h
      · rfl
      · exact (hat w h).2
  · intro t hv hz hq
    refine ⟨rfl, hP.kept (fun k q hk => hq _ (hP k q hk).lt), Nat.le_trans hS.1 hz, fun q h1 h2 => ?_⟩
    rw [hq q (Nat.lt_of_lt_of_le h1 hS.1)]
    exact hS.2.1 q h1 h2
/-- throw new E("..") -/
theorem z_thrW (C : Cx K g cc own nL R) (T : Tt K E w mc ms) {ik is ic sa : Nat} {text : String} (hx : xok E = true) (hf : Bundle.fit E = true) (hw : Cond.classLink own ik E ∈ gtbl ∧ Cond.initialized E ∈ gtbl ∧ Cond.methodLink own ic (Bundle.initS E) ∈ gtbl) (hstr : vk_R own is text sa (g0 g))
    (d0 : decode cc pc = .ok (.new ik, 3)) (d3 : decode cc (pc + 3) = .ok (.dup, 1)) (d4 : decode cc (pc + 4) = .ok (.ldc_w is, 3)) (d6 : decode cc (pc + 7) = .ok (.invokespecial ic, 3)) (d9 : decode cc (pc + 10) = .ok (.athrow, 1))
    (h1 : 6 ≤ R.frames) (h2 : (st.map fun v => v.category).sum + 82 ≤ R.locals) (h3 : cs + 1 ≤ R.cells) (h4 : ss + 6 ≤ R.slots) (h5 : cs + 1 ≤ mc) (h6 : ss + 6 ≤ ms) : Zs K cs ss w lv pc st := by
  obtain ⟨p, l, e, R, s, m, args, below, meth, c, Q, A, g⟩ := K
  obtain ⟨hx', hb, hml, hown, hlocks, hA, hAb, hbs, hE, hk, rfl, rfl, rfl⟩ := C
  obtain ⟨rfl, rfl, ht⟩ := T
  intro H locs ls hP hD hS hl
  have hU := ((vx_Zq.moved hE.1.alike (tf_us hk)).kept (hE.kp hk)).narrow hAb
  have hN := ((vx_Zq.moved hE.1.alike (tf_ss hk)).kept (hE.kp hk)).narrow hAb
  have hat := at_hat (args := args) hk hE hx hw.2.2
  refine vx_throwSW (names := xnames) (own := own) (cls := E) (text := text) (sa := sa) hx' hb hk.2.2.2.1 hown hf (by decide +kernel) (hE.hts hk _ hw.1) (hE.hts hk _ hw.2.1) (vk_R.warm hE.1 hstr) (fun w h => (hat w h).1) ?_ hU hN hS hl.1 d0 d3 d4 d6 d9 (fun x h => (ht x h).elim) (by show 2 + 3 < R.frames; omega) (by show _ + (13 * (2 + 1) + 43) ≤ R.locals; omega) h3 h4 hlocks ?_ hS.2.2 h5 h6
  · intro w h
    rcases List.mem_cons.mp h with rfl | h
    · rfl
    · rcases List.mem_cons.mp h with rfl | h
      · rfl
      · exact (hat w h).2
  · intro t hv hz hq
    refine ⟨rfl, hP.kept (fun k q hk => hq _ (hP k q hk).lt), Nat.le_trans hS.1 hz, fun q h1 h2 => ?_⟩
    rw [hq q (Nat.lt_of_lt_of_le h1 hS.1)]
    exact hS.2.1 q h1 h2
variable {y : MethodName} {n : Nat} {b : ByteArray} {nL' : Nat} {ret : Option FieldType} {rm : Room} {wc wr : va_W} {As rest : List Value}
/-- a call of a method that throws: it goes on to the caller -/
theorem z_callVT {idx a : Nat} (C : Cx K g cc own nL R) (T : Tt K E w mc ms) (hd : decode cc pc = .ok (.invokevirtual idx, 3)) (hm : Cond.methodLink own idx y ∈ gtbl) (hw : Wv y n b nL' ret) (hM : Tx g y b nL' ret rm (.ref a :: As) wc E) (isC isR isF : List Nat) {ci : Nat} {fs : List Value} {cl : vw_C} (hn : As.length = n) (hst : st = As.reverse ++ .ref a :: rest) (hrm : rm.frames + 1 ≤ R.frames ∧ 8 + (nL' + 11) + rm.locals ≤ R.locals) (hW : (rest.map fun v => v.category).sum ≤ 8) (hf : cs + rm.cells ≤ R.cells ∧ ss + rm.slots ≤ R.slots) (hq : wc[0]? = some (a, .inr (ci, fs))) (hcl : vwCl[ci]? = some cl) (hcy : cl.1 = y.cls) (hC : isC.map (fun i => w[i]?) = wc.map some) (hR : isR.map (fun i => w[i]?) = wr.map some) (hnC : va_nd isC = true) (hnR : va_nd isR = true) (hdis : ∀ i ∈ isR, i ∉ isC) (hF : isF.map (fun i => (wr ++ wc)[i]?) = w.map some) (hmc : cs + rm.cells ≤ mc) (hms : ss + rm.slots ≤ ms) : Zs K cs ss w lv pc st := by
  obtain ⟨p, l, e, R, s, m, args, below, meth, c, Q, A, g⟩ := K
  obtain ⟨hx, hb, hml, hown, hlocks, hA, hAb, hbs, hE, hk, rfl, rfl, rfl⟩ := C
  obtain ⟨rfl, rfl, ht⟩ := T
  obtain ⟨⟨w1, w2, w3, w4, w5⟩, w6, w7⟩ := hw
  intro H locs ls hP hD hS hl
  have hPc : va_P (gD g) vwCl wc H := fun k q hq => by
    have h1 : (isC.map (fun i => w[i]?))[k]? = some (some q) := by rw [hC, List.getElem?_map, hq]; rfl
    rw [List.getElem?_map] at h1
    cases hi : isC[k]? with
    | none => rw [hi] at h1; cases h1
    | some i => rw [hi] at h1; exact hP i q (Option.some.inj h1)
  have hDc := hD.sub isC hnC hC
  have hFr := va_free hD hS hA isC hC
  have hts := hE.hts hk (a := args)
  have hrec := va_recv (hE.K hk) hPc hcl hq
  rw [hcy] at hrec
  have hr := vx_runV (own := own) (index := idx) (rest := rest) (locs := locs) (p := p) (e := e) (below := below) (meth := meth) (g := F0 m pc ls st) ⟨hx, hb, hml, hown, hts⟩ (hM H.size) ⟨callB_of n hts (ws_good w2) rfl rfl rfl (hts _ w1) (hts _ hm) ⟨w3, w4, w5⟩ hrm, hts _ w6, hts _ w7⟩ ⟨pc_blind, hrec, fun U hU hW => ⟨rfl, by rw [hU], by rw [hU]; exact hPc, hDc.weaken (fun _ q _ h => hAb _ h), Nat.le_trans hbs hS.1, hE.step hbs hAb (by rw [hU]; exact hS) hW⟩⟩ rfl hn (hl.1.trans hml) hst (by show 2 * 0 + _ ≤ 8; omega) hd hf
  intro T0 hT X
  rcases hr T0 hT X with ⟨v, st₀, t, T', L, h0, X', hL, e1, e2, hQ, stp⟩ | ⟨q, st₀, t, T', L, E', ce, h0, X', hL, e1, e2, ⟨rfl, hP1, hz, hkp⟩, hce, hcv, hcl', stp⟩
  · exact hQ.elim
  · rw [h0] at hz hkp
    rw [← e1] at hP1 hz hkp hce
    have hDw : va_D (va_A wc H.size) wc := hDc.self
    obtain ⟨hP2, hD2⟩ := va_join hP hD isC isR hC hR hnR hdis hkp hFr hP1 hDw
    have hP3 : va_P (gD g) vwCl w T'.heap := fun k q hq => by
      have h1 : (isF.map (fun i => (wr ++ wc)[i]?))[k]? = some (some q) := by rw [hF, List.getElem?_map, hq]; rfl
      rw [List.getElem?_map] at h1
      cases hi : isF[k]? with
      | none => rw [hi] at h1; cases h1
      | some i => rw [hi] at h1; exact hP2 i q (Option.some.inj h1)
    obtain ⟨t2, a1, b1⟩ := vx_out (pc := pc) (ls := ls) (rest := rest) (locs := locs ++ L) (p := p) (l := gl g) (e := e) (R := R) (m := m) (args := args) (below := below) (c := c) (cells := cs + rm.cells) (slots := ss + rm.slots) (Qc := fun _ _ _ _ => False) (XC := XcOf g E' w s.heap.size) (free := va_A w s.heap.size) (mc := mc) (ms := ms) (fun x h => (ht x h).elim) hlocks hce hcv hcl' (fun t3 h3 _ => ⟨rfl, by rw [h3]; exact hP3, by rw [h3]; exact Nat.le_trans hS.1 hz, fun q h1 h2 => by
      rw [h3, hkp q (Nat.lt_of_lt_of_le h1 hS.1) (fun z => h2 (hFr q z))]
      exact hS.2.1 q h1 h2⟩) (fun z hz => by
      rcases List.mem_append.mp hz with h | h
      · exact hS.2.2 z h
      · exact hFr _ (hL z h)) hmc hms T' rfl X'
    exact ⟨t2, stp.trans a1, b1⟩
end ZTH
