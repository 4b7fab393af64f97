/-! OWN: the law from its entry: what holds there, the objects, the loop -/
def tblk (w : Cond) : Bool := goodWord w || (w.onTables || (match w with
  | .laysStatic _ _ _ => true
  | .stringRef _ _ _ => true
  | .arrayOver _ => true
  | _ => false))
theorem tbl_ok : lw_tbl.all tblk = true := by decide +kernel
theorem at_nil {s : State} {a : Array Value} (h : ∀ w ∈ lw_tbl, w.before a s = true) : ∀ w ∈ lw_tbl, w.before #[] s = true := fun w hw => by
  have h1 := List.all_eq_true.mp tbl_ok w hw
  simp only [tblk, Bool.or_eq_true] at h1
  rcases h1 with h1 | h1 | h1
  · exact word_at (State.WarmedH.refl s) (good_of_word h1) (h w hw)
  · exact va_any h1 (h w hw)
  · split at h1
    · exact h _ hw
    · exact h _ hw
    · exact h _ hw
    · cases h1
theorem ins0 : Cond.instantiable RX0 6 ∈ lw_tbl := List.mem_of_getElem? (i := 282) (by decide +kernel)
theorem ins1 : Cond.instantiable RX1 16 ∈ lw_tbl := List.mem_of_getElem? (i := 387) (by decide +kernel)
theorem ins2 : Cond.instantiable RX2 1 ∈ lw_tbl := List.mem_of_getElem? (i := 271) (by decide +kernel)
theorem ins3 : Cond.instantiable RX3 7 ∈ lw_tbl := List.mem_of_getElem? (i := 319) (by decide +kernel)
theorem ins4 : Cond.instantiable RX4 9 ∈ lw_tbl := List.mem_of_getElem? (i := 154) (by decide +kernel)
theorem ins5 : Cond.instantiable RX5 11 ∈ lw_tbl := List.mem_of_getElem? (i := 160) (by decide +kernel)
theorem ins6 : Cond.instantiable RX6 10 ∈ lw_tbl := List.mem_of_getElem? (i := 311) (by decide +kernel)
theorem ins7 : Cond.instantiable RX7 15 ∈ lw_tbl := List.mem_of_getElem? (i := 146) (by decide +kernel)
theorem ins8 : Cond.instantiable RX8 31 ∈ lw_tbl := List.mem_of_getElem? (i := 1419) (by decide +kernel)
theorem ac_int : Cond.arrayClass .int ∈ lw_tbl := List.mem_of_getElem? (i := 235) (by decide +kernel)
theorem ac_long : Cond.arrayClass .long ∈ lw_tbl := List.mem_of_getElem? (i := 348) (by decide +kernel)
theorem ac_boolean : Cond.arrayClass .boolean ∈ lw_tbl := List.mem_of_getElem? (i := 280) (by decide +kernel)
theorem ac_byte : Cond.arrayClass .byte ∈ lw_tbl := List.mem_of_getElem? (i := 670) (by decide +kernel)
theorem known {s : State} (h : ∀ w ∈ lw_tbl, w.before #[] s = true) : ∃ D : va_G, ∀ (c : Nat) (q : vw_C), vwCl[c]? = some q → u_Kn s q.1 q.2.1 q.2.2 (D.1 c) (D.2 c) := by
  have hg : ∀ w ∈ gtbl, w.before #[] s = true := fun w hw => h w (List.mem_filter.mp hw).1
  have k : ∀ (c : Nat) (q : vw_C), vwCl[c]? = some q → ∃ z : ClassId × (Nat → Nat), u_Kn s q.1 q.2.1 q.2.2 z.1 z.2 := by
    intro c q hq
    match c, hq with
    | 0, hq => cases hq; obtain ⟨x, y, z⟩ := u_known (C := RX0) (T := TX0) (N := 6) (n := 6) hg inG0 (h _ ins0); exact ⟨(x, y), z⟩
    | 1, hq => cases hq; obtain ⟨x, y, z⟩ := u_known (C := RX1) (T := TX1) (N := 16) (n := 16) hg inG1 (h _ ins1); exact ⟨(x, y), z⟩
    | 2, hq => cases hq; obtain ⟨x, y, z⟩ := u_known (C := RX2) (T := TX2) (N := 1) (n := 1) hg inG2 (h _ ins2); exact ⟨(x, y), z⟩
    | 3, hq => cases hq; obtain ⟨x, y, z⟩ := u_known (C := RX3) (T := TX3) (N := 7) (n := 7) hg inG3 (h _ ins3); exact ⟨(x, y), z⟩
    | 4, hq => cases hq; obtain ⟨x, y, z⟩ := u_known (C := RX4) (T := TX4) (N := 9) (n := 9) hg inG4 (h _ ins4); exact ⟨(x, y), z⟩
    | 5, hq => cases hq; obtain ⟨x, y, z⟩ := u_known (C := RX5) (T := TX5) (N := 11) (n := 11) hg inG5 (h _ ins5); exact ⟨(x, y), z⟩
    | 6, hq => cases hq; obtain ⟨x, y, z⟩ := u_known (C := RX6) (T := TX6) (N := 10) (n := 10) hg inG6 (h _ ins6); exact ⟨(x, y), z⟩
    | 7, hq => cases hq; obtain ⟨x, y, z⟩ := u_known (C := RX7) (T := TX7) (N := 15) (n := 15) hg inG7 (h _ ins7); exact ⟨(x, y), z⟩
    | 8, hq => cases hq; obtain ⟨x, y, z⟩ := u_known (C := RX8) (T := TX8) (N := 31) (n := 31) hg inG8 (h _ ins8); exact ⟨(x, y), z⟩
    | c + 9, hq => exact nomatch (show (none : Option vw_C) = some q from hq)
  have k2 : ∀ c : Nat, ∃ z : ClassId × (Nat → Nat), ∀ q : vw_C, vwCl[c]? = some q → u_Kn s q.1 q.2.1 q.2.2 z.1 z.2 := fun c => by
    cases hc : vwCl[c]? with
    | none => exact ⟨((0 : Nat), fun _ => 0), fun q hq => nomatch hq⟩
    | some q0 =>
      obtain ⟨z, hz⟩ := k c q0 hc
      exact ⟨z, fun q hq => by cases hq; exact hz⟩
  obtain ⟨f, hf⟩ := Classical.axiomOfChoice k2
  exact ⟨(fun c => (f c).1, fun c => (f c).2), fun c q hq => hf c q hq⟩
theorem arr_known {s : State} {ty : FieldType} (h : (Cond.arrayClass ty).before #[] s = true) (hp : match ty with | .object _ => False | _ => True) : ∃ cA : ClassId, ArrOfT s cA ty ∧ va_RA s cA ty := by
  obtain ⟨c, k, comp, h1, h2, h3⟩ := Cond.arrayClass_spec (args := #[]) (first := s) (o := none) (s := s) (idx := []) h
  refine ⟨c, fun n z => ⟨(fun k h => by cases h), k, h2, comp, h3⟩, ?_⟩
  cases ty <;> first | exact hp.elim | exact h1
theorem arr_knownO {s : State} {n : String} (h : (Cond.arrayOver (.object n)).before #[] s = true) : ∃ cA : ClassId, ArrOfT s cA (.object n) ∧ va_RA s cA (.object n) := by
  obtain ⟨comp, c, k, h1, -, h3, h4, h5⟩ := Cond.arrayOver_spec (args := #[]) (first := s) (o := none) (s := s) (idx := []) h
  exact ⟨c, fun m z => ⟨(fun k h => by cases h), k, h3, comp, h4⟩, k, comp, h3, h4, h1, h5⟩
theorem ok_at {l : Launch} (hflags : l.flags = flags0) {s : State} {a : Array Value} (hts : ∀ w ∈ lw_tbl, w.before a s = true) (hgv : (Jvm.Cond.and given_1 narrow_1).before a s = true) : ∃ g : Gp, Ok g ∧ g0 g = s ∧ gb g = s.heap.size ∧ gl g = l := by
  have h0 := at_nil hts
  obtain ⟨D, hD⟩ := known h0
  obtain ⟨cI, i1⟩ := arr_known (ty := .int) (h0 _ ac_int) trivial
  obtain ⟨cJ, i2⟩ := arr_known (ty := .long) (h0 _ ac_long) trivial
  obtain ⟨cZ, i3⟩ := arr_known (ty := .boolean) (h0 _ ac_boolean) trivial
  obtain ⟨cY, i4⟩ := arr_known (ty := .byte) (h0 _ ac_byte) trivial
  obtain ⟨cO, i5⟩ := arr_knownO (h0 _ wao)
  refine ⟨(D, (cI, cJ, cZ, cY, cO), s.heap.size, s, l), ⟨h0, ⟨hD, fun k q hq => ?_⟩, rfl, ?_, a, hgv⟩, rfl, rfl, rfl⟩
  · match k, hq with
    | 0, hq => cases hq; exact i1
    | 1, hq => cases hq; exact i2
    | 2, hq => cases hq; exact i3
    | 3, hq => cases hq; exact i4
    | 4, hq => cases hq; exact i5
    | k + 5, hq => exact nomatch (show (none : Option (ClassId × FieldType)) = some q from hq)
  · show (!l.flags.contains noTraceFlag) = false
    rw [hflags]
    decide +kernel
theorem wn_RL_8 : Cond.classLink RL 8 RX7 ∈ gtbl ∧ Cond.instantiable RX7 15 ∈ gtbl ∧ Cond.initialized RX7 ∈ gtbl := ⟨g_in 145 (by decide +kernel) rfl, g_in 146 (by decide +kernel) rfl, g_in 122 (by decide +kernel) rfl⟩
theorem wn_RL_103 : Cond.classLink RL 103 RX8 ∈ gtbl ∧ Cond.instantiable RX8 31 ∈ gtbl ∧ Cond.initialized RX8 ∈ gtbl := ⟨g_in 1418 (by decide +kernel) rfl, g_in 1419 (by decide +kernel) rfl, g_in 131 (by decide +kernel) rfl⟩
theorem ml_RL_102 : Cond.methodLink RL 102 yX7_init ∈ gtbl := g_in 147 (by decide +kernel) rfl
theorem ml_RL_105 : Cond.methodLink RL 105 yX8_init ∈ gtbl := g_in 1420 (by decide +kernel) rfl
theorem wb_X7_init : Wb yX7_init 0 cX7_init 3 none := ⟨g_in 122 (by decide +kernel) rfl, g_in 149 (by decide +kernel) rfl, by decide +kernel, by decide +kernel, by decide +kernel⟩
theorem wi_X7_init : Wi yX7_init 0 cX7_init 3 := ⟨wb_X7_init, g_in 148 (by decide +kernel) rfl, rfl⟩
theorem wb_X8_init : Wb yX8_init 0 cX8_init 1 none := ⟨g_in 131 (by decide +kernel) rfl, g_in 1422 (by decide +kernel) rfl, by decide +kernel, by decide +kernel, by decide +kernel⟩
theorem wi_X8_init : Wi yX8_init 0 cX8_init 1 := ⟨wb_X8_init, g_in 1421 (by decide +kernel) rfl, rfl⟩
theorem start_perm {wX8 wX7 g3 g9 n5 rd rd5 mi ad se se5 h8 h9 past sav ao : va_W} : ([ao, wX7, g3, n5, g9, rd, mi, ad, se, h8, h9, wX8].flatten ++ (past ++ (sav ++ (rd5 ++ se5)))).Perm ((wX8 ++ (wX7 ++ g3 ++ g9 ++ n5 ++ rd ++ rd5 ++ mi ++ ad ++ se ++ se5 ++ h8 ++ h9 ++ past ++ sav)) ++ ao) := by
  have h := (perm_ix (l := [wX8, wX7, g3, g9, n5, rd, rd5, mi, ad, se, se5, h8, h9, past, sav, ao]) (l' := [ao, wX7, g3, n5, g9, rd, mi, ad, se, h8, h9, wX8, past, sav, rd5, se5]) (is := [15, 1, 2, 4, 3, 5, 7, 8, 9, 11, 12, 0, 13, 14, 6, 10]) rfl (show List.isPerm [15, 1, 2, 4, 3, 5, 7, 8, 9, 11, 12, 0, 13, 14, 6, 10] (List.range 16) = true from by decide)).flatten
  have e1 : [ao, wX7, g3, n5, g9, rd, mi, ad, se, h8, h9, wX8, past, sav, rd5, se5].flatten = [ao, wX7, g3, n5, g9, rd, mi, ad, se, h8, h9, wX8].flatten ++ (past ++ (sav ++ (rd5 ++ se5))) := by simp
  have e2 : [wX8, wX7, g3, g9, n5, rd, rd5, mi, ad, se, se5, h8, h9, past, sav, ao].flatten = (wX8 ++ (wX7 ++ g3 ++ g9 ++ n5 ++ rd ++ rd5 ++ mi ++ ad ++ se ++ se5 ++ h8 ++ h9 ++ past ++ sav)) ++ ao := by simp
  rw [e1, e2] at h
  exact h
/-! THE CLAIM OUT OF ONE WALK OF THE LAW'S BODY. Your part is whole_start (and what it stands on); all else here is the same for every law, but numbers. -/
def R_law : String := "HintTeamLaw"
def lw_P (b : Addr) (xs : List Int32) (args : Array Value) (s : State) : Prop := args = #[.ref b] ∧ s.IntsAt b xs ∧ xs.length ≤ 2048 ∧ (Jvm.Cond.and given_1 narrow_1).before args s = true
def lw_Q (_ : Array Value) (s : State) (o : Outcome) (t : State) : Prop := o = .returned (some (.int 1)) ∧ Framed s o t [] 601024 7293034
def lw_Z (below : List Frame) (a : Array Value) (s : State) : State → Prop := fun t => ∃ o, t.status = .running ∧ Ended t below o ∧ lw_Q a s o t
/-- the law's own end, with 1 on the stack, nothing written that was there before, its room as the claim has it -/
theorem lw_ret {p : Program} {l : Launch} {e : Env} {s : State} {m : MethodId} {below : List Frame} {meth : Method} {c : Code} {b : Nat} (hx : p.tables.exec = Jvm.exec) (hb : c.code = code) (hr : meth.sig.returnType = ret) (hlocks : meth.locks = false) {pc : Nat} {H : Heap} {ls : Array Slot} (hdg : decode code pc = .ok (.ireturn, 1)) : W p l e room_1 s m #[Value.ref b] below meth c H [] 601024 7293034 (lw_Z below #[Value.ref b] s) (F0 m pc ls [.int 1]) := by
  intro T hT X
  obtain ⟨fs, hret, hrun, hended, hW, hframe⟩ := X.leave (v := some (.int 1)) (hlocks := hlocks) (fun h => by rw [hr] at h; cases h)
  have hmeth' : T.vm.method? m = some meth := X.method'
  refine ⟨T.setFrames fs, ?_, .returned (some (.int 1)), hrun, hended, rfl, ⟨_, rfl⟩, hW, hframe⟩
  jvm_step X.here [X.here.top, hx, hb, hdg, hmeth', hr, ret, narrow_b1]
  (try refine ⟨rfl, ?_⟩); (try refine ⟨rfl, ?_⟩)
  first | (intro acts; rw [hret _ acts rfl rfl rfl]) | rw [hret _ _ rfl rfl rfl]
  exact Steps.refl _
/-- what holds at the law's entry: the machine, the code, the tables' words (any of lw_tbl by 'hts w (by decide +kernel)'), the script of L ints xs at the cell b, what the Statement gives of the start (any of its parts by flat_of_before) -/
def lw_At (p : Program) (s : State) (m : MethodId) (meth : Method) (c : Code) (b L : Nat) (xs : Nat → Int32) : Prop :=
  p.tables.exec = Jvm.exec ∧ c.code = code ∧ meth.sig.returnType = ret ∧ c.maxLocals = 7 ∧ s.vm.findClass R_law = some m.cls ∧ (∀ w ∈ lw_tbl, w.before #[Value.ref b] s = true) ∧ va_X b L xs s s.heap ∧ b < s.heap.size ∧ meth.locks = false ∧ (Jvm.Cond.and given_1 narrow_1).before #[Value.ref b] s = true

theorem law_body {K : Kt} {g : Gp} {b Ls N : Nat} {xs : Nat → Int32} {x : Nat → Int32} {R : Rl} (hg : Ok g) (C : Cx K g cL_law RL 7 room_1) (Sx : Sc K b Ls xs) (hx : f_J7_fill_53178 N 9 (fun _ => 0) 99 = some x) (H : PqAll N R) (hL : Ls ≤ 2048)
    (hR : ∀ (pl : Nat → Ob → Prop) (q : Nat), pl q (iX5 x) → R pl z0 z0 (iX5 x) q iX4 (fun _ => (q, z0)) (fun _ => (q, z0)) iX8)
    (out : ∀ (w : va_W) (lv : List (Nat × Value)), Zs K 601024 7293034 w lv 1558 [.int 1]) : Zs K 0 0 [] [(0, .ref b)] 0 [] := by
  refine z_new (pc := 0) C dL_law_0 (ci := 7) rfl inG7 tyX7_ok wn_RL_8 (fs := [.null, .int 0, .null, .null, .null, .int 0, .int 0, .null, .null, .null, .null, .null, .null, .null, .int 0]) (by decide) (by decide) (by decide) (fun ax => ?_)
  refine z_dup (pc := 3) C dL_law_3 rfl ?_
  refine z_callI (pc := 4) (As := []) (rest := [.ref ax]) (wr := []) C dL_law_4 ml_RL_102 wi_X7_init (m_X7_init (x := x) hg hx) [0] [] rfl rfl ⟨by decide, by decide⟩ (Nat.le_of_ble_eq_true rfl) ⟨by decide, by decide⟩ rfl rfl rfl rfl (by decide) (fun rv w' hr => ?_)
  obtain ⟨rfl, r, r1, r2, rq, q, r3, q4, r4, r5, r6, r7, q6, r8, r9, r10, fp, pa, pr, fs, sa, sr, hfp, hfs, rfl⟩ := hr
  refine z_to (ws' := (wX7 g ax r z0 ++ wX1 g (r 3) r1 q z0 ++ wX1 g (r 9) r2 q z0 ++ wX5 g q rq (iX5 x) ++ wX4 g (r 2) r3 q4 (r 0) iX4 ++ wX5 g q4 r4 (iX5 x) ++ wX2 g (r 10) r5 z0 ++ wX0 g (r 11) r6 (r 10) z0 ++ wX6 g (r 12) r7 z0 ++ wX5 g q6 r8 (iX5 x) ++ wX3 g (r7 8) r9 q6 z0 ++ wX3 g (r7 9) r10 q6 z0 ++ wPs g (r 4) 20 fp pa pr (fun _ => (q, z0)) ++ wPs g (r 7) 2 fs sa sr (fun _ => (q, z0)))) (lv' := [(0, .ref b)]) (pc' := 7) (st' := [.ref ax]) (z_widen (cs' := 248) (ss' := 34922) (by decide) (by decide) ?_) rfl rfl rfl rfl
  refine z_astore_n (pc := 7) C dL_law_7 (i := 1) rfl (by decide) (lv' := [(1, .ref ax), (0, .ref b)]) rfl ?_
  refine z_new (pc := 8) C dL_law_8 (ci := 8) rfl inG8 tyX8_ok wn_RL_103 (fs := [.null, .null, .null, .null, .null, .null, .int 0, .int 0, .null, .int 0, .int 0, .int 0, .int 0, .int 0, .int 0, .int 0, .int 0, .int 0, .null, .null, .null, .null, .int 0, .null, .null, .int 0, .int 0, .int 0, .int 0, .null, .int 0]) (by decide) (by decide) (by decide) (fun am => ?_)
  refine z_dup (pc := 11) C dL_law_11 rfl ?_
  refine z_perm List.perm_append_comm ?_
  refine z_callIp (pc := 12) (As := []) (rest := [.ref am]) C dL_law_12 ml_RL_105 wi_X8_init (m_X8_init hg) rfl rfl ⟨by decide, by decide⟩ (Nat.le_of_ble_eq_true rfl) ⟨by decide, by decide⟩ (fun rv w' hr => ?_)
  obtain ⟨rfl, rm, rfl⟩ := hr
  refine z_to (ws' := wX8 g am rm iX8 ++ (wX7 g ax r z0 ++ wX1 g (r 3) r1 q z0 ++ wX1 g (r 9) r2 q z0 ++ wX5 g q rq (iX5 x) ++ wX4 g (r 2) r3 q4 (r 0) iX4 ++ wX5 g q4 r4 (iX5 x) ++ wX2 g (r 10) r5 z0 ++ wX0 g (r 11) r6 (r 10) z0 ++ wX6 g (r 12) r7 z0 ++ wX5 g q6 r8 (iX5 x) ++ wX3 g (r7 8) r9 q6 z0 ++ wX3 g (r7 9) r10 q6 z0 ++ wPs g (r 4) 20 fp pa pr (fun _ => (q, z0)) ++ wPs g (r 7) 2 fs sa sr (fun _ => (q, z0)))) (lv' := [(1, .ref ax), (0, .ref b)]) (pc' := 15) (st' := [.ref am]) (z_widen (cs' := 263) (ss' := 81021) (by decide) (by decide) ?_) rfl rfl rfl rfl
  refine z_astore_n (pc := 15) C dL_law_15 (i := 2) rfl (by decide) (lv' := [(2, .ref am), (1, .ref ax), (0, .ref b)]) rfl ?_
  refine z_iconst (pc := 16) C dL_law_16 ic_1 ?_
  refine z_newJ (pc := 17) (N := 1) C dL_law_17 wac_long (by decide) (by decide) (by decide) (by decide) (by decide) (fun ao => ?_)
  refine z_astore_n (pc := 19) C dL_law_19 (i := 3) rfl (by decide) (lv' := [(3, .ref ao), (2, .ref am), (1, .ref ax), (0, .ref b)]) rfl ?_
  refine z_iconst (pc := 20) C dL_law_20 ic_0 ?_
  refine z_istore (pc := 21) C dL_law_21 (by decide) (lv' := [(4, .int (0 : Int32)), (3, .ref ao), (2, .ref am), (1, .ref ax), (0, .ref b)]) rfl ?_
  refine z_lv (lv' := [(0, .ref b), (1, .ref ax), (2, .ref am), (3, .ref ao), (4, .int (Int32.ofNat (4 * 0)))]) [4, 3, 2, 1, 0] rfl ?_
  refine z_perm (ws' := ((([wAJ g ao 1 (fun _ => 0), wX7 g ax r z0, wX1 g (r 3) r1 q z0, wX5 g q rq (iX5 x), wX1 g (r 9) r2 q z0, wX4 g (r 2) r3 q4 (r 0) iX4, wX2 g (r 10) r5 z0, wX0 g (r 11) r6 (r 10) z0, wX6 g (r 12) r7 z0, wX3 g (r7 8) r9 q6 z0, wX3 g (r7 9) r10 q6 z0, wX8 g am rm iX8] : List va_W).flatten) ++ (wPs g (r 4) 20 fp pa pr (fun _ => (q, z0)) ++ (wPs g (r 7) 2 fs sa sr (fun _ => (q, z0)) ++ wPool g [(q4, r4, iX5 x), (q6, r8, iX5 x)])))) (by
    have e : ([(q4, r4, iX5 x), (q6, r8, iX5 x)] : List Ent).flatMap (fun e => wX5 g e.1 e.2.1 e.2.2) = wX5 g q4 r4 (iX5 x) ++ wX5 g q6 r8 (iX5 x) := by simp
    unfold wPool
    rw [e]
    exact start_perm) ?_
  refine z_widen (cs' := 300 + 4 * 0) (ss' := 90000 + 80 * 0) (by decide) (by decide) ?_
  refine law_loop hg C Sx hfp hfs H hL (by decide) (by decide) ?_ (Ls / 4) 0 (by omega) _ _ _ _ _ _ _ _ _ _ _ _ _ _ _ _ _ _ _ _ _ (hR _ _ ⟨rq, List.mem_cons_self⟩)
  intro rest rq q qp q4 q8 q9 sX sG ru sP sR sMi sA sS sH sN fo sM PS SS i
  refine z_iconst (pc := 1557) C dL_law_1557 ic_1 ?_
  exact out _ _
theorem whole_from {p : Program} {e : Env} {s : State} {m : MethodId} {below : List Frame} {meth : Method} {c : Code} (l : Launch) (hflags : l.flags = flags0) {b L : Nat} {xs : Nat → Int32} (hL : L ≤ 2048) (C0 : lw_At p s m meth c b L xs) {N : Nat} {x : Nat → Int32} {Re : Rl} (hx : f_J7_fill_53178 N 9 (fun _ => 0) 99 = some x) (H : PqAll N Re)
    (hR : ∀ (pl : Nat → Ob → Prop) (q : Nat), pl q (iX5 x) → Re pl z0 z0 (iX5 x) q iX4 (fun _ => (q, z0)) (fun _ => (q, z0)) iX8) : W p l e room_1 s m #[Value.ref b] below meth c s.heap [] 0 0 (lw_Z below #[Value.ref b] s) (entryFrame m ([Value.ref b] : List Value).toArray 7) := by
  obtain ⟨hxx, hb, hr, hml, hown, hts, hX, hbl, hlocks, hgv⟩ := C0
  obtain ⟨g, hg, e0, e1, e2⟩ := ok_at hflags hts hgv
  have hbA : ¬ (fun q : Nat => s.heap.size ≤ q) b := Nat.not_le.mpr hbl
  have hl := lv_entry ([.ref b]) (n := 7) (Nat.le_of_ble_eq_true rfl)
  rw [lg_entry_eq]
  generalize (lg_sl ([.ref b]) ++ List.replicate (7 - (lg_sl ([.ref b])).length) Slot.unset).toArray = ls at hl ⊢
  have hl : lv_has ls c.maxLocals [(0, .ref b)] := by rw [hml]; exact hl
  have C : Cx (p, l, e, room_1, s, m, #[Value.ref b], below, meth, c, lw_Z below #[Value.ref b] s, (fun q : Nat => s.heap.size ≤ q), g) g cL_law RL 7 room_1 :=
    ⟨hxx, hb, hml, hown, hlocks, fun q h => h, fun q h => by rw [e1]; exact h, by rw [e1]; exact Nat.le_refl _, ⟨by rw [e0]; exact State.WarmedH.refl s, fun q _ => by rw [e0]⟩, hg, rfl, rfl, e2.symm⟩
  refine law_body hg C ⟨hX, hbl, hbA⟩ hx H hL hR ?_ s.heap [] ls (fun k q h => by simp at h) ⟨fun i j p q h => by simp at h, fun k q h => by simp at h⟩ va_S.rf hl
  intro w lv H1 locs ls1 hP hD hS hl1
  refine va_forget (fun q hq => hS.2.2 q hq) ?_
  exact lw_ret hxx hb hr hlocks dL_law_1558
