/-! OWN: String constants, static fields of the base heap; String.length and String.charAt by contract -/
abbrev A0 (g : Gp) : Nat → Prop := fun q => gb g ≤ q
theorem ok_lo {g : Gp} (hg : Ok g) : ∀ a : Nat, a < (g0 g).heap.size → ¬ A0 g a := fun a h q => by
  have e := hg.2.2.1
  have q : gb g ≤ a := q
  omega
theorem En.kp {g : Gp} {s : State} (hg : Ok g) (hE : En g s) : ∀ a : Nat, a < (g0 g).heap.size → ¬ A0 g a → s.heap[a]? = (g0 g).heap[a]? := fun a _ h2 => hE.2 a (Nat.lt_of_not_le h2)
def Sl (g : Gp) (a n : Nat) (b : Nat → Int32) : Prop := n < 2 ^ 31 ∧ va_O "java/lang/String" a (A0 g) (g0 g) (g0 g).heap ∧ va_OF "java/lang/String" "coder" "B" (.int 0) a (A0 g) (g0 g) (g0 g).heap ∧ ∃ t, va_OF "java/lang/String" "value" "[B" (.ref t) a (A0 g) (g0 g) (g0 g).heap ∧ va_T .byte t n (fun j => .int (b j)) (A0 g) (g0 g) (g0 g).heap
def Zf (g : Gp) (C n d : String) (v : Value) : Prop := va_Z C n d v (A0 g) (g0 g) (g0 g).heap
def Bf (g : Gp) (o n d : String) (v : Value) (q : Nat) : Prop := va_OF o n d v q (A0 g) (g0 g) (g0 g).heap
def Bt (g : Gp) (t n : Nat) (b : Nat → Int32) : Prop := va_T .byte t n (fun j => .int (b j)) (A0 g) (g0 g) (g0 g).heap
section ZST
variable {K : Kt} {g : Gp} {cc : ByteArray} {own : String} {nL : Nat} {R : Room} {cs ss pc : Nat} {ws ws' : va_W} {lv lv' : List (Nat × Value)} {st : List Value}
theorem z_sof (C : Cx K g cc own nL R) {o n d : String} {idx q : Nat} {v : Value} (hd : decode cc pc = .ok (.getfield idx, 3)) (hE : Bf g o n d v q) (hm : Cond.fieldLink own idx o n d ∈ gtbl) (kk : Zs K cs ss ws lv (pc + 3) (v :: st)) : Zs K cs ss ws lv pc (.ref q :: st) := by
  obtain ⟨p, l, e, R, s, m, args, below, meth, c, Q, A, g⟩ := K
  obtain ⟨hx, hb, hml, hown, hlocks, hA, hAb, hbs, hEn, hk, rfl, rfl, rfl⟩ := C
  intro H locs ls hP hD hS hl
  have h1 := ((va_OF.moved hEn.1.alike hE).kept (hEn.kp hk)).narrow hAb
  exact vk_getf hx hb h1 hS hown (hEn.hts hk _ hm) (fun _ h => h) hd (kk H locs ls hP hD hS hl)
theorem z_gst (C : Cx K g cc own nL R) {o n d : String} {idx : Nat} {v : Value} (hd : decode cc pc = .ok (.getstatic idx, 3)) (hE : Zf g o n d v) (hm : Cond.fieldLink own idx o n d ∈ gtbl) (kk : Zs K cs ss ws lv (pc + 3) (v :: st)) : Zs K cs ss ws lv pc st := by
  obtain ⟨p, l, e, R, s, m, args, below, meth, c, Q, A, g⟩ := K
  obtain ⟨hx, hb, hml, hown, hlocks, hA, hAb, hbs, hEn, hk, rfl, rfl, rfl⟩ := C
  intro H locs ls hP hD hS hl
  have h1 := ((va_Z.moved hEn.1.alike hE).kept (hEn.kp hk)).narrow hAb
  exact va_gets hx hb h1 hS hown (hEn.hts hk _ hm) (fun _ h => h) hd (kk H locs ls hP hD hS hl)
theorem z_stb (C : Cx K g cc own nL R) {t n : Nat} {b : Nat → Int32} {i : Int32} (hd : decode cc pc = .ok (.baload, 1)) (hE : Bt g t n b) (hin : inb i n = true) (kk : Zs K cs ss ws lv (pc + 1) (.int (b i.toNatClampNeg) :: st)) : Zs K cs ss ws lv pc (.int i :: .ref t :: st) := by
  obtain ⟨p, l, e, R, s, m, args, below, meth, c, Q, A, g⟩ := K
  obtain ⟨hx, hb, hml, hown, hlocks, hA, hAb, hbs, hEn, hk, rfl, rfl, rfl⟩ := C
  intro H locs ls hP hD hS hl
  have h1 := ((va_T.moved hEn.1.alike hE).kept (hEn.kp hk)).narrow hAb
  exact va_tb hx hb h1 hS (inb_vp hin) rfl hd (kk H locs ls hP hD hS hl)
theorem z_stlen (C : Cx K g cc own nL R) {t n : Nat} {b : Nat → Int32} (hd : decode cc pc = .ok (.arraylength, 1)) (hE : Bt g t n b) (kk : Zs K cs ss ws lv (pc + 1) (.int (Int32.ofNat n) :: st)) : Zs K cs ss ws lv pc (.ref t :: st) := by
  obtain ⟨p, l, e, R, s, m, args, below, meth, c, Q, A, g⟩ := K
  obtain ⟨hx, hb, hml, hown, hlocks, hA, hAb, hbs, hEn, hk, rfl, rfl, rfl⟩ := C
  intro H locs ls hP hD hS hl
  have h1 := ((va_T.moved hEn.1.alike hE).kept (hEn.kp hk)).narrow hAb
  exact va_tlen hx hb h1 hS rfl hd (kk H locs ls hP hD hS hl)
theorem z_ldcs (C : Cx K g cc own nL R) {idx q : Nat} {tx : String} (hd : decode cc pc = .ok (.ldc idx, 2)) (hE : vk_R own idx tx q (g0 g)) (kk : Zs K cs ss ws lv (pc + 2) (.ref q :: st)) : Zs K cs ss ws lv pc st := by
  obtain ⟨p, l, e, R, s, m, args, below, meth, c, Q, A, g⟩ := K
  obtain ⟨hx, hb, hml, hown, hlocks, hA, hAb, hbs, hEn, hk, rfl, rfl, rfl⟩ := C
  intro H locs ls hP hD hS hl
  exact va_ldcS hx hb hown (vk_R.warm hEn.1 hE) hd (kk H locs ls hP hD hS hl)
/-- a call, with what the base heap holds -/
theorem z_callG {rm : Room} {w wr : va_W} {av rest : List Value} {RP : Option Value → va_W → Prop} (C : Cx K g cc own nL R) (isC isR : List Nat) (hC : isC.map (fun i => ws[i]?) = w.map some) (hR : isR.map (fun i => ws[i]?) = wr.map some) (hnC : va_nd isC = true) (hnR : va_nd isR = true) (hdis : ∀ i ∈ isR, i ∉ isC)
    (run : match K with | (p, l, e, R, s, m, args, below, meth, c, Q, A, g) => ∀ (H : Heap) (locs : List Loc) (ls : Array Slot), ls.size = nL → va_P (gD g) vwCl w H → (∀ q : Nat, q < gb g → H[q]? = (g0 g).heap[q]?) → PreS s H (PcOf g av w H.size) av → va_Run p l e R s m args below meth c H locs cs ss rm.cells rm.slots (F0 m pc ls st) rest (QcOf g RP w H.size av.toArray) (va_A w H.size))
    (kk : ∀ rv w', RP rv w' → Zs K (cs + rm.cells) (ss + rm.slots) (wr ++ w') lv (pc + 3) (rv.toList ++ rest)) : Zs K cs ss ws lv pc st := by
  obtain ⟨p, l, e, R, s, m, args, below, meth, c, Q, A, g⟩ := K
  have C' := C
  obtain ⟨hx, hb, hml, hown, hlocks, hA, hAb, hbs, hE, hk, rfl, rfl, rfl⟩ := C
  intro H locs ls hP hD hS hl
  have hbase : ∀ q : Nat, q < gb g → H[q]? = (g0 g).heap[q]? := fun q hq => by
    rw [hS.2.1 q (Nat.lt_of_lt_of_le hq hbs) (fun z => Nat.not_le.mpr hq (hAb q z))]
    exact hE.2 q hq
  have hPc : va_P (gD g) vwCl w H := fun k q hq => by
    have h1 : (isC.map (fun i => ws[i]?))[k]? = some (some q) := by rw [hC, List.getElem?_map, hq]; rfl
    rw [List.getElem?_map] at h1
    cases hi : isC[k]? with
    | none => rw [hi] at h1; cases h1
    | some i => rw [hi] at h1; exact hP i q (Option.some.inj h1)
  have hDc := hD.sub isC hnC hC
  have hF := va_free hD hS hA isC hC
  have pre : PreS s H (PcOf g av w H.size) av := ⟨pc_blind, fun U hU hW => ⟨rfl, by rw [hU], by rw [hU]; exact hPc, hDc.weaken (fun _ q _ h => hAb _ h), Nat.le_trans hbs hS.1, hE.step hbs hAb (by rw [hU]; exact hS) hW⟩⟩
  have hr := run H locs ls (hl.1.trans hml) hPc hbase pre
  intro T hT X
  obtain ⟨v, st₀, t, T', L, h0, X', hL, e1, e2, ⟨⟨rv, w', hv, hRP, hP1, hD1⟩, hz, hkp⟩, stp⟩ := hr T hT X
  cases hv
  rw [h0] at hz hkp
  rw [← e1] at hP1 hz hkp
  have hkp' : ∀ q : Nat, q < H.size → ¬ va_A w H.size q → T'.heap[q]? = H[q]? := hkp
  obtain ⟨hP2, hD2⟩ := va_join hP hD isC isR hC hR hnR hdis hkp' hF hP1 hD1
  obtain ⟨t2, a1, b1⟩ := kk v w' hRP T'.heap (locs ++ L) ls hP2 hD2 ⟨Nat.le_trans hS.1 hz, fun q h1 h2 => by
      rw [hkp' q (Nat.lt_of_lt_of_le h1 hS.1) (fun z => h2 (hF q z))]
      exact hS.2.1 q h1 h2, fun q hq => by
      rcases List.mem_append.mp hq with h | h
      · exact hS.2.2 q h
      · exact hF _ (hL q h)⟩ hl T' rfl X'
  exact ⟨t2, stp t2 a1, b1⟩
/-- a call on a String of the base heap -/
theorem z_callVs {y : MethodName} {n : Nat} {b : ByteArray} {nL' : Nat} {ret : Option FieldType} {rm : Room} {As rest : List Value} {RP : Option Value → va_W → Prop} {idx a sn : Nat} {sb : Nat → Int32} (C : Cx K g cc own nL R) (hs : Sl g a sn sb) (hcy : y.cls = "java/lang/String") (hd : decode cc pc = .ok (.invokevirtual idx, 3)) (hm : Cond.methodLink own idx y ∈ gtbl) (hw : Wv y n b nL' ret) (hM : Ct g y b nL' ret rm (.ref a :: As) [] RP) (isR : List Nat) (hR : isR.map (fun i => ws[i]?) = ws.map some) (hnR : va_nd isR = true) (hn : As.length = n) (hst : st = As.reverse ++ .ref a :: rest) (hrm : rm.frames + 1 ≤ R.frames ∧ 8 + (nL' + 11) + rm.locals ≤ R.locals) (hW : (rest.map fun v => v.category).sum ≤ 8) (hf : cs + rm.cells ≤ R.cells ∧ ss + rm.slots ≤ R.slots)
    (kk : ∀ rv w', RP rv w' → Zs K (cs + rm.cells) (ss + rm.slots) (ws ++ w') lv (pc + 3) (rv.toList ++ rest)) : Zs K cs ss ws lv pc st := by
  refine z_callG (av := .ref a :: As) (w := []) (wr := ws) C [] isR rfl hR rfl hnR (fun _ _ h => nomatch h) ?_ kk
  obtain ⟨p, l, e, R, s, m, args, below, meth, c, Q, A, g⟩ := K
  obtain ⟨hx, hb, hml, hown, hlocks, hA, hAb, hbs, hE, hk, rfl, rfl, rfl⟩ := C
  obtain ⟨⟨w1, w2, w3, w4, w5⟩, w6, w7⟩ := hw
  intro H locs ls hsz hPw hbase pre
  have hts := hE.hts hk (a := args)
  have hrec : ∃ cellB : Cell, H[a]? = some cellB ∧ cellB.vm.isStatics = false ∧ s.vm.findClass y.cls = some cellB.cls := by
    obtain ⟨cell, h1, h2, h3, h4⟩ := va_O.moved hE.1.alike hs.2.1
    refine ⟨cell, ?_, h2, by rw [hcy]; exact h3⟩
    rw [hbase a (Nat.lt_of_not_le h4)]
    exact h1
  exact va_runV (own := own) (index := idx) ⟨hx, hb, hml, hown, hts⟩ (hM H.size) ⟨callB_of n hts (ws_good w2) rfl rfl rfl (hts _ w1) (hts _ hm) ⟨w3, w4, w5⟩ hrm, hts _ w6, hts _ w7⟩ ⟨pre.1, hrec, pre.2⟩ rfl hn hsz hst (by show 2 * 0 + _ ≤ 8; omega) hd hf
end ZST
theorem ok_narrow {g : Gp} (hg : Ok g) : ∃ a, ∀ c ∈ flatC (Jvm.Cond.and given_1 narrow_1), c.before a (g0 g) = true := by
  obtain ⟨a, h⟩ := hg.2.2.2.2
  exact ⟨a, flat_of_before _ h⟩
theorem ok_lst {g : Gp} (hg : Ok g) {C n d : String} (h : Cond.laysStatic C n d ∈ lw_tbl) {a : Array Value} : (Cond.laysStatic C n d).before a (g0 g) = true := by
  obtain ⟨c, k, i, f, a', cell, h1, h2, h3, h4, h5, h6, h7, h8, h9⟩ := Cond.laysStatic_spec (hg.1 _ h)
  show (Cond.laysStatic C n d).holds a (g0 g) none (g0 g) [] = true
  exact Cond.laysStatic_of h1 h2 h3 h4 h5 h6 h7 h8 h9
theorem ok_good {g : Gp} (hg : Ok g) {w : Cond} (h : w ∈ lw_tbl) (hw : goodWord w = true) {a : Array Value} : w.before a (g0 g) = true := word_at (State.WarmedH.refl _) (good_of_word hw) (hg.1 _ h)
theorem sfl_38 : Cond.fieldLink RJ0 38 "java/lang/String" "COMPACT_STRINGS" "Z" ∈ gtbl := g_in 552 (by decide +kernel) rfl
theorem sfl_1053 : Cond.fieldLink RJ0 1053 "jdk/internal/util/Preconditions" "SIOOBE_FORMATTER" "Ljava/util/function/BiFunction;" ∈ gtbl := g_in 568 (by decide +kernel) rfl
theorem sfl_9 : Cond.fieldLink RJ0 9 "java/lang/String" "value" "[B" ∈ gtbl := g_in 2024 (by decide +kernel) rfl
theorem sfl_15 : Cond.fieldLink RJ0 15 "java/lang/String" "coder" "B" ∈ gtbl := g_in 2025 (by decide +kernel) rfl
theorem sls_38 : Cond.laysStatic "java/lang/String" "COMPACT_STRINGS" "Z" ∈ lw_tbl := List.mem_of_getElem? (i := 553) (by decide +kernel)
theorem sls_1053 : Cond.laysStatic "jdk/internal/util/Preconditions" "SIOOBE_FORMATTER" "Ljava/util/function/BiFunction;" ∈ lw_tbl := List.mem_of_getElem? (i := 569) (by decide +kernel)
theorem sini_0 : Cond.initialized "java/lang/String" ∈ lw_tbl := List.mem_of_getElem? (i := 133) (by decide +kernel)
theorem sini_3 : Cond.initialized "jdk/internal/util/Preconditions" ∈ lw_tbl := List.mem_of_getElem? (i := 135) (by decide +kernel)
theorem wb_J0_length_8abf5 : Wb yJ0_length_8abf5 0 cJ0_length_8abf5 1 (some .int) := ⟨g_in 133 (by decide +kernel) rfl, g_in 547 (by decide +kernel) rfl, by decide +kernel, by decide +kernel, by decide +kernel⟩
theorem wv_J0_length_8abf5 : Wv yJ0_length_8abf5 0 cJ0_length_8abf5 1 (some .int) := ⟨wb_J0_length_8abf5, g_in 545 (by decide +kernel) rfl, g_in 546 (by decide +kernel) rfl⟩
theorem wb_J0_coder_7d493 : Wb yJ0_coder_7d493 0 cJ0_coder_7d493 1 (some .byte) := ⟨g_in 133 (by decide +kernel) rfl, g_in 551 (by decide +kernel) rfl, by decide +kernel, by decide +kernel, by decide +kernel⟩
theorem wv_J0_coder_7d493 : Wv yJ0_coder_7d493 0 cJ0_coder_7d493 1 (some .byte) := ⟨wb_J0_coder_7d493, g_in 549 (by decide +kernel) rfl, g_in 550 (by decide +kernel) rfl⟩
theorem wb_J0_charAt_5068e : Wb yJ0_charAt_5068e 1 cJ0_charAt_5068e 2 (some .char) := ⟨g_in 133 (by decide +kernel) rfl, g_in 557 (by decide +kernel) rfl, by decide +kernel, by decide +kernel, by decide +kernel⟩
theorem wv_J0_charAt_5068e : Wv yJ0_charAt_5068e 1 cJ0_charAt_5068e 2 (some .char) := ⟨wb_J0_charAt_5068e, g_in 555 (by decide +kernel) rfl, g_in 556 (by decide +kernel) rfl⟩
theorem wb_J0_isLatin1_aae02 : Wb yJ0_isLatin1_aae02 0 cJ0_isLatin1_aae02 1 (some .boolean) := ⟨g_in 133 (by decide +kernel) rfl, g_in 561 (by decide +kernel) rfl, by decide +kernel, by decide +kernel, by decide +kernel⟩
theorem wv_J0_isLatin1_aae02 : Wv yJ0_isLatin1_aae02 0 cJ0_isLatin1_aae02 1 (some .boolean) := ⟨wb_J0_isLatin1_aae02, g_in 559 (by decide +kernel) rfl, g_in 560 (by decide +kernel) rfl⟩
theorem wb_J0_checkIndex_df160 : Wb yJ0_checkIndex_df160 2 cJ0_checkIndex_df160 2 none := ⟨g_in 133 (by decide +kernel) rfl, g_in 567 (by decide +kernel) rfl, by decide +kernel, by decide +kernel, by decide +kernel⟩
theorem wt_J0_checkIndex_df160 : Wt yJ0_checkIndex_df160 2 cJ0_checkIndex_df160 2 none := ⟨wb_J0_checkIndex_df160, g_in 566 (by decide +kernel) rfl⟩
theorem wb_J1_charAt_3b067 : Wb yJ1_charAt_3b067 2 cJ1_charAt_3b067 2 (some .char) := ⟨g_in 134 (by decide +kernel) rfl, g_in 564 (by decide +kernel) rfl, by decide +kernel, by decide +kernel, by decide +kernel⟩
theorem wt_J1_charAt_3b067 : Wt yJ1_charAt_3b067 2 cJ1_charAt_3b067 2 (some .char) := ⟨wb_J1_charAt_3b067, g_in 563 (by decide +kernel) rfl⟩
theorem wb_J3_checkIndex_8e157 : Wb yJ3_checkIndex_8e157 3 cJ3_checkIndex_8e157 3 (some .int) := ⟨g_in 135 (by decide +kernel) rfl, g_in 572 (by decide +kernel) rfl, by decide +kernel, by decide +kernel, by decide +kernel⟩
theorem wt_J3_checkIndex_8e157 : Wt yJ3_checkIndex_8e157 3 cJ3_checkIndex_8e157 3 (some .int) := ⟨wb_J3_checkIndex_8e157, g_in 571 (by decide +kernel) rfl⟩
theorem ml_RJ0_335 : Cond.methodLink RJ0 335 yJ0_coder_7d493 ∈ gtbl := g_in 548 (by decide +kernel) rfl
theorem ml_RJ0_492 : Cond.methodLink RJ0 492 yJ0_isLatin1_aae02 ∈ gtbl := g_in 558 (by decide +kernel) rfl
theorem ml_RJ0_495 : Cond.methodLink RJ0 495 yJ1_charAt_3b067 ∈ gtbl := g_in 562 (by decide +kernel) rfl
theorem ml_RJ1_9 : Cond.methodLink RJ1 9 yJ0_checkIndex_df160 ∈ gtbl := g_in 565 (by decide +kernel) rfl
theorem ml_RJ0_1059 : Cond.methodLink RJ0 1059 yJ3_checkIndex_8e157 ∈ gtbl := g_in 570 (by decide +kernel) rfl
theorem st_compact {g : Gp} (hg : Ok g) : Zf g "java/lang/String" "COMPACT_STRINGS" "Z" (.int 1) := by
  obtain ⟨a, h⟩ := ok_narrow hg
  exact va_Zof (ok_lst hg sls_38) (ok_good hg sini_0 rfl) (va_eqt (h _ (by decide +kernel))) (ok_lo hg)
theorem st_siob {g : Gp} (hg : Ok g) : ∃ v, (v = .null ∨ ∃ t, v = .ref t) ∧ Zf g "jdk/internal/util/Preconditions" "SIOOBE_FORMATTER" "Ljava/util/function/BiFunction;" v := by
  obtain ⟨a, h⟩ := ok_narrow hg
  rcases va_Zqof (ok_lst hg sls_1053) (ok_good hg sini_3 rfl) (h (.isRef (.static "jdk/internal/util/Preconditions" "SIOOBE_FORMATTER" "Ljava/util/function/BiFunction;")) (by decide +kernel)) (ok_lo hg) with h | ⟨t, h⟩
  · exact ⟨_, Or.inl rfl, h⟩
  · exact ⟨_, Or.inr ⟨t, rfl⟩, h⟩
def zst (l : List Int32) : Nat → Int32 := fun k => l.getD k 0
def sad (g : Gp) (own : String) (k : Nat) : Nat := match (Term.string own k).eval #[] (g0 g) none [] (g0 g) with
  | some (.ref a) => a
  | _ => 0
theorem str_of {g : Gp} (hg : Ok g) {own tx : String} {k : Nat} (hs : Cond.stringRef own k tx ∈ lw_tbl) (bs : List Int32) (n : Nat) (hn : n < 2 ^ 31)
    (h1 : Cond.exactly (.string own k) "java/lang/String" ∈ flatC (Jvm.Cond.and given_1 narrow_1))
    (h2 : Cond.eq (.field (.string own k) "java/lang/String" "coder" "B") (.int 0) ∈ flatC (Jvm.Cond.and given_1 narrow_1))
    (h3 : Cond.arrayOf (.field (.string own k) "java/lang/String" "value" "[B") .byte ∈ flatC (Jvm.Cond.and given_1 narrow_1))
    (h4 : Cond.eq (.length (.field (.string own k) "java/lang/String" "value" "[B")) (.int (Int32.ofNat n)) ∈ flatC (Jvm.Cond.and given_1 narrow_1))
    (h5 : ∀ j : Nat, j < n → Cond.eq (.elem (.field (.string own k) "java/lang/String" "value" "[B") (.int (Int32.ofNat j))) (.int (bs.getD j 0)) ∈ flatC (Jvm.Cond.and given_1 narrow_1)) :
    vk_R own k tx (sad g own k) (g0 g) ∧ Sl g (sad g own k) n (zst bs) := by
  obtain ⟨a, h⟩ := ok_narrow hg
  obtain ⟨adK, adV, hS, hT⟩ := vk_Sof (N := 1) (tm := fun _ => Term.string own k) (len := [n]) (byt := [bs]) (A := A0 g) (args := a) (s := g0 g)
    (fun i hi => by rw [Nat.lt_one_iff.mp hi]; exact hn) (fun i hi => h _ h1) (fun i hi => h _ h2) (fun i hi => h _ h3) (fun i hi => by rw [Nat.lt_one_iff.mp hi]; exact h _ h4)
    (fun i hi j hj => by rw [Nat.lt_one_iff.mp hi] at hj ⊢; exact h _ (h5 j hj)) (fun i j hi hj e => by omega) (ok_lo hg)
  have e0 : (Term.string own k).eval #[] (g0 g) none [] (g0 g) = some (.ref (adK 0)) := by
    exact (Term.string_eval_of_vm (args := #[]) rfl).trans (hT 0 (by omega))
  have e1 : sad g own k = adK 0 := by unfold sad; rw [e0]
  rw [e1]
  obtain ⟨q1, q2, q3, q4⟩ := hS.1 0 (by omega)
  exact ⟨⟨hg.1 _ hs, e0⟩, hn, q1, q2, adV 0, q3, q4⟩
theorem m_J0_coder {g : Gp} {a n : Nat} {b : Nat → Int32} (hg : Ok g) (hs : Sl g a n b) : Ct g yJ0_coder_7d493 cJ0_coder_7d493 1 (some .byte) (zrm 0 0) [.ref a] [] (exR (some (.int 0)) []) := by
  refine ct_of rfl hg (by show _ ≤ _; exact Nat.le_of_ble_eq_true rfl) (fun K C X => ?_)
  show Zs K 0 0 [] [(0, .ref a)] 0 []
  refine z_gst (pc := 0) C dJ0_coder_7d493_0 (st_compact hg) sfl_38 ?_
  refine z_if_eq (pc := 3) C dJ0_coder_7d493_3 (tgt := 13) (by decide) (fun hc => absurd hc (by decide)) (fun hc => ?_)
  refine z_aload_n (pc := 6) (x := a) C dJ0_coder_7d493_6 (i := 0) rfl rfl ?_
  refine z_sof (pc := 7) C dJ0_coder_7d493_7 hs.2.2.1 sfl_15 ?_
  refine z_goto (pc := 10) C dJ0_coder_7d493_10 (tgt := 14) (by decide) ?_
  exact z_zret C X dJ0_coder_7d493_14 rfl ⟨rfl, rfl⟩ (by decide) (by decide)
theorem m_J0_isLatin1 {g : Gp} {a n : Nat} {b : Nat → Int32} (hg : Ok g) (hs : Sl g a n b) : Ct g yJ0_isLatin1_aae02 cJ0_isLatin1_aae02 1 (some .boolean) (zrm 0 0) [.ref a] [] (exR (some (.int 1)) []) := by
  refine ct_of rfl hg (by show _ ≤ _; exact Nat.le_of_ble_eq_true rfl) (fun K C X => ?_)
  show Zs K 0 0 [] [(0, .ref a)] 0 []
  refine z_gst (pc := 0) C dJ0_isLatin1_aae02_0 (st_compact hg) sfl_38 ?_
  refine z_if_eq (pc := 3) C dJ0_isLatin1_aae02_3 (tgt := 17) (by decide) (fun hc => absurd hc (by decide)) (fun hc => ?_)
  refine z_aload_n (pc := 6) (x := a) C dJ0_isLatin1_aae02_6 (i := 0) rfl rfl ?_
  refine z_sof (pc := 7) C dJ0_isLatin1_aae02_7 hs.2.2.1 sfl_15 ?_
  refine z_if_ne (pc := 10) C dJ0_isLatin1_aae02_10 (tgt := 17) (by decide) (fun hc => absurd rfl hc) (fun hc => ?_)
  refine z_iconst (pc := 13) C dJ0_isLatin1_aae02_13 ic_1 ?_
  refine z_goto (pc := 14) C dJ0_isLatin1_aae02_14 (tgt := 18) (by decide) ?_
  exact z_zret C X dJ0_isLatin1_aae02_18 rfl ⟨rfl, rfl⟩ (by decide) (by decide)
theorem m_J0_length {g : Gp} {a n : Nat} {b : Nat → Int32} (hg : Ok g) (hs : Sl g a n b) : Ct g yJ0_length_8abf5 cJ0_length_8abf5 1 (some .int) (zrm 1 20) [.ref a] [] (exR (some (.int (Int32.ofNat n))) []) := by
  refine ct_of rfl hg (by show _ ≤ _; exact Nat.le_of_ble_eq_true rfl) (fun K C X => ?_)
  show Zs K 0 0 [] [(0, .ref a)] 0 []
  obtain ⟨t, h1, h2⟩ := hs.2.2.2
  refine z_aload_n (pc := 0) (x := a) C dJ0_length_8abf5_0 (i := 0) rfl rfl ?_
  refine z_sof (pc := 1) C dJ0_length_8abf5_1 h1 sfl_9 ?_
  refine z_stlen (pc := 4) C dJ0_length_8abf5_4 h2 ?_
  refine z_aload_n (pc := 5) (x := a) C dJ0_length_8abf5_5 (i := 0) rfl rfl ?_
  refine z_callVs (pc := 6) (As := []) (rest := [.int (Int32.ofNat n)]) C hs rfl dJ0_length_8abf5_6 ml_RJ0_335 wv_J0_coder_7d493 (m_J0_coder hg hs) [] rfl rfl rfl rfl ⟨by decide, by decide⟩ (Nat.le_of_ble_eq_true rfl) ⟨by decide, by decide⟩ (ex_k C (cs' := 0) (ss' := 0) (wF := []) [] rfl rfl ?_)
  refine z_ishr (pc := 9) (x := Int32.ofNat n) (y := 0) C dJ0_length_8abf5_9 ?_
  refine z_top1 (v := Int32.ofNat n) (by simp) ?_
  exact z_iret C X dJ0_length_8abf5_10 ⟨rfl, rfl⟩ (by decide) (by decide)
theorem inb_lt {i : Int32} {n : Nat} (h : inb i n = true) (hn : n < 2 ^ 31) : i < Int32.ofNat n := by
  have h := of_decide_eq_true h
  have h0 : (0 : Int) ≤ i.toInt := by
    have := Int32.not_lt.mp h.1
    simpa using Int32.le_iff_toInt_le.mp this
  have h2 : i.toInt.toNat < n := h.2
  rw [Int32.lt_iff_toInt_lt]
  have h3 : (Int32.ofNat n).toInt = (n : Int) := Int32.toInt_ofNat_of_lt hn
  omega
theorem m_J3_checkIndex {g : Gp} {i : Int32} {n : Nat} {v : Value} (hg : Ok g) (hv : v = .null ∨ ∃ t, v = .ref t) (hi : inb i n = true) (hn : n < 2 ^ 31) : Ct g yJ3_checkIndex_8e157 cJ3_checkIndex_8e157 3 (some .int) (zrm 0 0) [.int i, .int (Int32.ofNat n), v] [] (exR (some (.int i)) []) := by
  rcases hv with rfl | ⟨t, rfl⟩
  · refine ct_of rfl hg (by show _ ≤ _; exact Nat.le_of_ble_eq_true rfl) (fun K C X => ?_)
    show Zs K 0 0 [] [(0, .int i), (1, .int (Int32.ofNat n)), (2, .null)] 0 []
    refine z_iload_n (pc := 0) (x := i) C dJ3_checkIndex_8e157_0 (i := 0) rfl rfl ?_
    refine z_if_lt (pc := 1) C dJ3_checkIndex_8e157_1 (tgt := 9) (by decide) (fun hc => absurd hc (of_decide_eq_true hi).1) (fun hc => ?_)
    refine z_iload_n (pc := 4) (x := i) C dJ3_checkIndex_8e157_4 (i := 0) rfl rfl ?_
    refine z_iload_n (pc := 5) (x := Int32.ofNat n) C dJ3_checkIndex_8e157_5 (i := 1) rfl rfl ?_
    refine z_icmp_lt (pc := 6) C dJ3_checkIndex_8e157_6 (tgt := 16) (by decide) (fun hc => ?_) (fun hc => absurd (inb_lt hi hn) hc)
    refine z_iload_n (pc := 16) (x := i) C dJ3_checkIndex_8e157_16 (i := 0) rfl rfl ?_
    exact z_iret C X dJ3_checkIndex_8e157_17 ⟨rfl, rfl⟩ (by decide) (by decide)
  · refine ct_of rfl hg (by show _ ≤ _; exact Nat.le_of_ble_eq_true rfl) (fun K C X => ?_)
    show Zs K 0 0 [] [(0, .int i), (1, .int (Int32.ofNat n)), (2, .ref t)] 0 []
    refine z_iload_n (pc := 0) (x := i) C dJ3_checkIndex_8e157_0 (i := 0) rfl rfl ?_
    refine z_if_lt (pc := 1) C dJ3_checkIndex_8e157_1 (tgt := 9) (by decide) (fun hc => absurd hc (of_decide_eq_true hi).1) (fun hc => ?_)
    refine z_iload_n (pc := 4) (x := i) C dJ3_checkIndex_8e157_4 (i := 0) rfl rfl ?_
    refine z_iload_n (pc := 5) (x := Int32.ofNat n) C dJ3_checkIndex_8e157_5 (i := 1) rfl rfl ?_
    refine z_icmp_lt (pc := 6) C dJ3_checkIndex_8e157_6 (tgt := 16) (by decide) (fun hc => ?_) (fun hc => absurd (inb_lt hi hn) hc)
    refine z_iload_n (pc := 16) (x := i) C dJ3_checkIndex_8e157_16 (i := 0) rfl rfl ?_
    exact z_iret C X dJ3_checkIndex_8e157_17 ⟨rfl, rfl⟩ (by decide) (by decide)
theorem m_J0_checkIndex {g : Gp} {i : Int32} {n : Nat} (hg : Ok g) (hi : inb i n = true) (hn : n < 2 ^ 31) : Ct g yJ0_checkIndex_df160 cJ0_checkIndex_df160 2 none (zrm 1 22) [.int i, .int (Int32.ofNat n)] [] (exR none []) := by
  refine ct_of rfl hg (by show _ ≤ _; exact Nat.le_of_ble_eq_true rfl) (fun K C X => ?_)
  show Zs K 0 0 [] [(0, .int i), (1, .int (Int32.ofNat n))] 0 []
  obtain ⟨v, hv, hz⟩ := st_siob hg
  refine z_iload_n (pc := 0) (x := i) C dJ0_checkIndex_df160_0 (i := 0) rfl rfl ?_
  refine z_iload_n (pc := 1) (x := Int32.ofNat n) C dJ0_checkIndex_df160_1 (i := 1) rfl rfl ?_
  refine z_gst (pc := 2) C dJ0_checkIndex_df160_2 hz sfl_1053 ?_
  refine z_callS (pc := 5) (As := [.int i, .int (Int32.ofNat n), v]) (rest := []) (wr := []) C dJ0_checkIndex_df160_5 ml_RJ0_1059 wt_J3_checkIndex_8e157 (m_J3_checkIndex hg hv hi hn) [] [] rfl rfl ⟨by decide, by decide⟩ (Nat.le_of_ble_eq_true rfl) ⟨by decide, by decide⟩ rfl rfl rfl rfl (by decide) (ex_k C (cs' := 0) (ss' := 0) (wF := []) [] rfl rfl ?_)
  refine z_pop (pc := 8) C dJ0_checkIndex_df160_8 rfl ?_
  exact z_vret C X dJ0_checkIndex_df160_9 ⟨rfl, rfl⟩ (by decide) (by decide)
def zch (x : Int32) : Int32 := ((x &&& 255).toUInt32 % 65536).toInt32
theorem zch_nar (x : Int32) : narrow .char (.int (zch x)) = .int (zch x) := by
  show Value.int ((zch x).toUInt32.toUInt16.toUInt32.toInt32) = Value.int (zch x)
  have e : zch x = (x &&& 255) &&& 65535 := by
    unfold zch
    rw [lg_i2c_nf, lg_i2c_mask]
  rw [lg_i2c_mask, e, Int32.and_assoc]
  rfl
theorem m_J1_charAt {g : Gp} {t n : Nat} {b : Nat → Int32} {i : Int32} (hg : Ok g) (hs : Bt g t n b) (hi : inb i n = true) (hn : n < 2 ^ 31) : Ct g yJ1_charAt_3b067 cJ1_charAt_3b067 2 (some .char) (zrm 2 43) [.ref t, .int i] [] (exR (some (.int (zch (b i.toNatClampNeg)))) []) := by
  refine ct_of rfl hg (by show _ ≤ _; exact Nat.le_of_ble_eq_true rfl) (fun K C X => ?_)
  show Zs K 0 0 [] [(0, .ref t), (1, .int i)] 0 []
  refine z_iload_n (pc := 0) (x := i) C dJ1_charAt_3b067_0 (i := 1) rfl rfl ?_
  refine z_aload_n (pc := 1) (x := t) C dJ1_charAt_3b067_1 (i := 0) rfl rfl ?_
  refine z_stlen (pc := 2) C dJ1_charAt_3b067_2 hs ?_
  refine z_callS (pc := 3) (As := [.int i, .int (Int32.ofNat n)]) (rest := []) (wr := []) C dJ1_charAt_3b067_3 ml_RJ1_9 wt_J0_checkIndex_df160 (m_J0_checkIndex hg hi hn) [] [] rfl rfl ⟨by decide, by decide⟩ (Nat.le_of_ble_eq_true rfl) ⟨by decide, by decide⟩ rfl rfl rfl rfl (by decide) (ex_k C (cs' := 0) (ss' := 0) (wF := []) [] rfl rfl ?_)
  refine z_aload_n (pc := 6) (x := t) C dJ1_charAt_3b067_6 (i := 0) rfl rfl ?_
  refine z_iload_n (pc := 7) (x := i) C dJ1_charAt_3b067_7 (i := 1) rfl rfl ?_
  refine z_stb (pc := 8) C dJ1_charAt_3b067_8 hs hi ?_
  refine z_sipush (pc := 9) (v := 255) C dJ1_charAt_3b067_9 (by decide) ?_
  refine z_iand (pc := 12) C dJ1_charAt_3b067_12 ?_
  refine z_i2c (pc := 13) C dJ1_charAt_3b067_13 ?_
  exact z_zret C X dJ1_charAt_3b067_14 (zch_nar _) ⟨rfl, rfl⟩ (by decide) (by decide)
theorem m_J0_charAt {g : Gp} {a n : Nat} {b : Nat → Int32} {i : Int32} (hg : Ok g) (hs : Sl g a n b) (hi : inb i n = true) : Ct g yJ0_charAt_5068e cJ0_charAt_5068e 2 (some .char) (zrm 3 64) [.ref a, .int i] [] (exR (some (.int (zch (b i.toNatClampNeg)))) []) := by
  refine ct_of rfl hg (by show _ ≤ _; exact Nat.le_of_ble_eq_true rfl) (fun K C X => ?_)
  show Zs K 0 0 [] [(0, .ref a), (1, .int i)] 0 []
  obtain ⟨t, h1, h2⟩ := hs.2.2.2
  refine z_aload_n (pc := 0) (x := a) C dJ0_charAt_5068e_0 (i := 0) rfl rfl ?_
  refine z_callVs (pc := 1) (As := []) (rest := []) C hs rfl dJ0_charAt_5068e_1 ml_RJ0_492 wv_J0_isLatin1_aae02 (m_J0_isLatin1 hg hs) [] rfl rfl rfl rfl ⟨by decide, by decide⟩ (Nat.le_of_ble_eq_true rfl) ⟨by decide, by decide⟩ (ex_k C (cs' := 0) (ss' := 0) (wF := []) [] rfl rfl ?_)
  refine z_if_eq (pc := 4) (x := 1) C dJ0_charAt_5068e_4 (tgt := 16) (by decide) (fun hc => absurd hc (by decide)) (fun hc => ?_)
  refine z_aload_n (pc := 7) (x := a) C dJ0_charAt_5068e_7 (i := 0) rfl rfl ?_
  refine z_sof (pc := 8) C dJ0_charAt_5068e_8 h1 sfl_9 ?_
  refine z_iload_n (pc := 11) (x := i) C dJ0_charAt_5068e_11 (i := 1) rfl rfl ?_
  refine z_callS (pc := 12) (As := [.ref t, .int i]) (rest := []) (wr := []) C dJ0_charAt_5068e_12 ml_RJ0_495 wt_J1_charAt_3b067 (m_J1_charAt hg h2 hi hs.1) [] [] rfl rfl ⟨by decide, by decide⟩ (Nat.le_of_ble_eq_true rfl) ⟨by decide, by decide⟩ rfl rfl rfl rfl (by decide) (ex_k C (cs' := 0) (ss' := 0) (wF := []) [] rfl rfl ?_)
  exact z_zret C X dJ0_charAt_5068e_15 (zch_nar _) ⟨rfl, rfl⟩ (by decide) (by decide)
theorem sr_RX4_76 : Cond.stringRef RX4 76 "game" ∈ lw_tbl := List.mem_of_getElem? (i := 539) (by decide +kernel)
theorem str_RX4_76 {g : Gp} (hg : Ok g) : vk_R RX4 76 "game" (sad g RX4 76) (g0 g) ∧ Sl g (sad g RX4 76) 4 (zst [103, 97, 109, 101]) := str_of hg sr_RX4_76 [103, 97, 109, 101] 4 (by decide) (by decide +kernel) (by decide +kernel) (by decide +kernel) (by decide +kernel) (by decide +kernel)
theorem sr_RX4_85 : Cond.stringRef RX4 85 "deck" ∈ lw_tbl := List.mem_of_getElem? (i := 612) (by decide +kernel)
theorem str_RX4_85 {g : Gp} (hg : Ok g) : vk_R RX4 85 "deck" (sad g RX4 85) (g0 g) ∧ Sl g (sad g RX4 85) 4 (zst [100, 101, 99, 107]) := str_of hg sr_RX4_85 [100, 101, 99, 107] 4 (by decide) (by decide +kernel) (by decide +kernel) (by decide +kernel) (by decide +kernel) (by decide +kernel)
theorem sr_RX4_90 : Cond.stringRef RX4 90 "tokens" ∈ lw_tbl := List.mem_of_getElem? (i := 625) (by decide +kernel)
theorem str_RX4_90 {g : Gp} (hg : Ok g) : vk_R RX4 90 "tokens" (sad g RX4 90) (g0 g) ∧ Sl g (sad g RX4 90) 6 (zst [116, 111, 107, 101, 110, 115]) := str_of hg sr_RX4_90 [116, 111, 107, 101, 110, 115] 6 (by decide) (by decide +kernel) (by decide +kernel) (by decide +kernel) (by decide +kernel) (by decide +kernel)
theorem sr_RX4_95 : Cond.stringRef RX4 95 "lives" ∈ lw_tbl := List.mem_of_getElem? (i := 630) (by decide +kernel)
theorem str_RX4_95 {g : Gp} (hg : Ok g) : vk_R RX4 95 "lives" (sad g RX4 95) (g0 g) ∧ Sl g (sad g RX4 95) 5 (zst [108, 105, 118, 101, 115]) := str_of hg sr_RX4_95 [108, 105, 118, 101, 115] 5 (by decide) (by decide +kernel) (by decide +kernel) (by decide +kernel) (by decide +kernel) (by decide +kernel)
theorem sr_RX4_103 : Cond.stringRef RX4 103 "color" ∈ lw_tbl := List.mem_of_getElem? (i := 631) (by decide +kernel)
theorem str_RX4_103 {g : Gp} (hg : Ok g) : vk_R RX4 103 "color" (sad g RX4 103) (g0 g) ∧ Sl g (sad g RX4 103) 5 (zst [99, 111, 108, 111, 114]) := str_of hg sr_RX4_103 [99, 111, 108, 111, 114] 5 (by decide) (by decide +kernel) (by decide +kernel) (by decide +kernel) (by decide +kernel) (by decide +kernel)
theorem sr_RX4_112 : Cond.stringRef RX4 112 "rank" ∈ lw_tbl := List.mem_of_getElem? (i := 639) (by decide +kernel)
theorem str_RX4_112 {g : Gp} (hg : Ok g) : vk_R RX4 112 "rank" (sad g RX4 112) (g0 g) ∧ Sl g (sad g RX4 112) 4 (zst [114, 97, 110, 107]) := str_of hg sr_RX4_112 [114, 97, 110, 107] 4 (by decide) (by decide +kernel) (by decide +kernel) (by decide +kernel) (by decide +kernel) (by decide +kernel)
theorem sr_RX4_117 : Cond.stringRef RX4 117 "shuffle" ∈ lw_tbl := List.mem_of_getElem? (i := 640) (by decide +kernel)
theorem str_RX4_117 {g : Gp} (hg : Ok g) : vk_R RX4 117 "shuffle" (sad g RX4 117) (g0 g) ∧ Sl g (sad g RX4 117) 7 (zst [115, 104, 117, 102, 102, 108, 101]) := str_of hg sr_RX4_117 [115, 104, 117, 102, 102, 108, 101] 7 (by decide) (by decide +kernel) (by decide +kernel) (by decide +kernel) (by decide +kernel) (by decide +kernel)
theorem sr_RX7_140 : Cond.stringRef RX7 140 "no such number" ∈ lw_tbl := List.mem_of_getElem? (i := 1079) (by decide +kernel)
theorem str_RX7_140 {g : Gp} (hg : Ok g) : vk_R RX7 140 "no such number" (sad g RX7 140) (g0 g) ∧ Sl g (sad g RX7 140) 14 (zst [110, 111, 32, 115, 117, 99, 104, 32, 110, 117, 109, 98, 101, 114]) := str_of hg sr_RX7_140 [110, 111, 32, 115, 117, 99, 104, 32, 110, 117, 109, 98, 101, 114] 14 (by decide) (by decide +kernel) (by decide +kernel) (by decide +kernel) (by decide +kernel) (by decide +kernel)
theorem sr_RX7_157 : Cond.stringRef RX7 157 "no such color" ∈ lw_tbl := List.mem_of_getElem? (i := 1122) (by decide +kernel)
theorem str_RX7_157 {g : Gp} (hg : Ok g) : vk_R RX7 157 "no such color" (sad g RX7 157) (g0 g) ∧ Sl g (sad g RX7 157) 13 (zst [110, 111, 32, 115, 117, 99, 104, 32, 99, 111, 108, 111, 114]) := str_of hg sr_RX7_157 [110, 111, 32, 115, 117, 99, 104, 32, 99, 111, 108, 111, 114] 13 (by decide) (by decide +kernel) (by decide +kernel) (by decide +kernel) (by decide +kernel) (by decide +kernel)
theorem sr_RX7_367 : Cond.stringRef RX7 367 "no such player" ∈ lw_tbl := List.mem_of_getElem? (i := 1141) (by decide +kernel)
theorem str_RX7_367 {g : Gp} (hg : Ok g) : vk_R RX7 367 "no such player" (sad g RX7 367) (g0 g) ∧ Sl g (sad g RX7 367) 14 (zst [110, 111, 32, 115, 117, 99, 104, 32, 112, 108, 97, 121, 101, 114]) := str_of hg sr_RX7_367 [110, 111, 32, 115, 117, 99, 104, 32, 112, 108, 97, 121, 101, 114] 14 (by decide) (by decide +kernel) (by decide +kernel) (by decide +kernel) (by decide +kernel) (by decide +kernel)
theorem sr_RX7_369 : Cond.stringRef RX7 369 "no card at the place" ∈ lw_tbl := List.mem_of_getElem? (i := 1154) (by decide +kernel)
theorem str_RX7_369 {g : Gp} (hg : Ok g) : vk_R RX7 369 "no card at the place" (sad g RX7 369) (g0 g) ∧ Sl g (sad g RX7 369) 20 (zst [110, 111, 32, 99, 97, 114, 100, 32, 97, 116, 32, 116, 104, 101, 32, 112, 108, 97, 99, 101]) := str_of hg sr_RX7_369 [110, 111, 32, 99, 97, 114, 100, 32, 97, 116, 32, 116, 104, 101, 32, 112, 108, 97, 99, 101] 20 (by decide) (by decide +kernel) (by decide +kernel) (by decide +kernel) (by decide +kernel) (by decide +kernel)
theorem sr_RX7_371 : Cond.stringRef RX7 371 "no such kind" ∈ lw_tbl := List.mem_of_getElem? (i := 1166) (by decide +kernel)
theorem str_RX7_371 {g : Gp} (hg : Ok g) : vk_R RX7 371 "no such kind" (sad g RX7 371) (g0 g) ∧ Sl g (sad g RX7 371) 12 (zst [110, 111, 32, 115, 117, 99, 104, 32, 107, 105, 110, 100]) := str_of hg sr_RX7_371 [110, 111, 32, 115, 117, 99, 104, 32, 107, 105, 110, 100] 12 (by decide) (by decide +kernel) (by decide +kernel) (by decide +kernel) (by decide +kernel) (by decide +kernel)
theorem sr_RX7_373 : Cond.stringRef RX7 373 "no such word" ∈ lw_tbl := List.mem_of_getElem? (i := 1270) (by decide +kernel)
theorem str_RX7_373 {g : Gp} (hg : Ok g) : vk_R RX7 373 "no such word" (sad g RX7 373) (g0 g) ∧ Sl g (sad g RX7 373) 12 (zst [110, 111, 32, 115, 117, 99, 104, 32, 119, 111, 114, 100]) := str_of hg sr_RX7_373 [110, 111, 32, 115, 117, 99, 104, 32, 119, 111, 114, 100] 12 (by decide) (by decide +kernel) (by decide +kernel) (by decide +kernel) (by decide +kernel) (by decide +kernel)
theorem sr_RX7_265 : Cond.stringRef RX7 265 "nobody gives hints to oneself" ∈ lw_tbl := List.mem_of_getElem? (i := 1311) (by decide +kernel)
theorem str_RX7_265 {g : Gp} (hg : Ok g) : vk_R RX7 265 "nobody gives hints to oneself" (sad g RX7 265) (g0 g) ∧ Sl g (sad g RX7 265) 29 (zst [110, 111, 98, 111, 100, 121, 32, 103, 105, 118, 101, 115, 32, 104, 105, 110, 116, 115, 32, 116, 111, 32, 111, 110, 101, 115, 101, 108, 102]) := str_of hg sr_RX7_265 [110, 111, 98, 111, 100, 121, 32, 103, 105, 118, 101, 115, 32, 104, 105, 110, 116, 115, 32, 116, 111, 32, 111, 110, 101, 115, 101, 108, 102] 29 (by decide) (by decide +kernel) (by decide +kernel) (by decide +kernel) (by decide +kernel) (by decide +kernel)
theorem sr_RX7_278 : Cond.stringRef RX7 278 "no such part of an advice" ∈ lw_tbl := List.mem_of_getElem? (i := 1321) (by decide +kernel)
theorem str_RX7_278 {g : Gp} (hg : Ok g) : vk_R RX7 278 "no such part of an advice" (sad g RX7 278) (g0 g) ∧ Sl g (sad g RX7 278) 25 (zst [110, 111, 32, 115, 117, 99, 104, 32, 112, 97, 114, 116, 32, 111, 102, 32, 97, 110, 32, 97, 100, 118, 105, 99, 101]) := str_of hg sr_RX7_278 [110, 111, 32, 115, 117, 99, 104, 32, 112, 97, 114, 116, 32, 111, 102, 32, 97, 110, 32, 97, 100, 118, 105, 99, 101] 25 (by decide) (by decide +kernel) (by decide +kernel) (by decide +kernel) (by decide +kernel) (by decide +kernel)
theorem sr_RX7_296 : Cond.stringRef RX7 296 "1 to 100 turns can be followed" ∈ lw_tbl := List.mem_of_getElem? (i := 1329) (by decide +kernel)
theorem str_RX7_296 {g : Gp} (hg : Ok g) : vk_R RX7 296 "1 to 100 turns can be followed" (sad g RX7 296) (g0 g) ∧ Sl g (sad g RX7 296) 30 (zst [49, 32, 116, 111, 32, 49, 48, 48, 32, 116, 117, 114, 110, 115, 32, 99, 97, 110, 32, 98, 101, 32, 102, 111, 108, 108, 111, 119, 101, 100]) := str_of hg sr_RX7_296 [49, 32, 116, 111, 32, 49, 48, 48, 32, 116, 117, 114, 110, 115, 32, 99, 97, 110, 32, 98, 101, 32, 102, 111, 108, 108, 111, 119, 101, 100] 30 (by decide) (by decide +kernel) (by decide +kernel) (by decide +kernel) (by decide +kernel) (by decide +kernel)
theorem sr_RX7_320 : Cond.stringRef RX7 320 "no such kind of a move" ∈ lw_tbl := List.mem_of_getElem? (i := 1337) (by decide +kernel)
theorem str_RX7_320 {g : Gp} (hg : Ok g) : vk_R RX7 320 "no such kind of a move" (sad g RX7 320) (g0 g) ∧ Sl g (sad g RX7 320) 22 (zst [110, 111, 32, 115, 117, 99, 104, 32, 107, 105, 110, 100, 32, 111, 102, 32, 97, 32, 109, 111, 118, 101]) := str_of hg sr_RX7_320 [110, 111, 32, 115, 117, 99, 104, 32, 107, 105, 110, 100, 32, 111, 102, 32, 97, 32, 109, 111, 118, 101] 22 (by decide) (by decide +kernel) (by decide +kernel) (by decide +kernel) (by decide +kernel) (by decide +kernel)
theorem sr_RX7_326 : Cond.stringRef RX7 326 "no such part of a move" ∈ lw_tbl := List.mem_of_getElem? (i := 1354) (by decide +kernel)
theorem str_RX7_326 {g : Gp} (hg : Ok g) : vk_R RX7 326 "no such part of a move" (sad g RX7 326) (g0 g) ∧ Sl g (sad g RX7 326) 22 (zst [110, 111, 32, 115, 117, 99, 104, 32, 112, 97, 114, 116, 32, 111, 102, 32, 97, 32, 109, 111, 118, 101]) := str_of hg sr_RX7_326 [110, 111, 32, 115, 117, 99, 104, 32, 112, 97, 114, 116, 32, 111, 102, 32, 97, 32, 109, 111, 118, 101] 22 (by decide) (by decide +kernel) (by decide +kernel) (by decide +kernel) (by decide +kernel) (by decide +kernel)
theorem sr_RX7_338 : Cond.stringRef RX7 338 "no such total" ∈ lw_tbl := List.mem_of_getElem? (i := 1371) (by decide +kernel)
theorem str_RX7_338 {g : Gp} (hg : Ok g) : vk_R RX7 338 "no such total" (sad g RX7 338) (g0 g) ∧ Sl g (sad g RX7 338) 13 (zst [110, 111, 32, 115, 117, 99, 104, 32, 116, 111, 116, 97, 108]) := str_of hg sr_RX7_338 [110, 111, 32, 115, 117, 99, 104, 32, 116, 111, 116, 97, 108] 13 (by decide) (by decide +kernel) (by decide +kernel) (by decide +kernel) (by decide +kernel) (by decide +kernel)
theorem sr_RX7_343 : Cond.stringRef RX7 343 "no such part of a turn" ∈ lw_tbl := List.mem_of_getElem? (i := 1379) (by decide +kernel)
theorem str_RX7_343 {g : Gp} (hg : Ok g) : vk_R RX7 343 "no such part of a turn" (sad g RX7 343) (g0 g) ∧ Sl g (sad g RX7 343) 22 (zst [110, 111, 32, 115, 117, 99, 104, 32, 112, 97, 114, 116, 32, 111, 102, 32, 97, 32, 116, 117, 114, 110]) := str_of hg sr_RX7_343 [110, 111, 32, 115, 117, 99, 104, 32, 112, 97, 114, 116, 32, 111, 102, 32, 97, 32, 116, 117, 114, 110] 22 (by decide) (by decide +kernel) (by decide +kernel) (by decide +kernel) (by decide +kernel) (by decide +kernel)
theorem sr_RX7_375 : Cond.stringRef RX7 375 "no such snapshot" ∈ lw_tbl := List.mem_of_getElem? (i := 1410) (by decide +kernel)
theorem str_RX7_375 {g : Gp} (hg : Ok g) : vk_R RX7 375 "no such snapshot" (sad g RX7 375) (g0 g) ∧ Sl g (sad g RX7 375) 16 (zst [110, 111, 32, 115, 117, 99, 104, 32, 115, 110, 97, 112, 115, 104, 111, 116]) := str_of hg sr_RX7_375 [110, 111, 32, 115, 117, 99, 104, 32, 115, 110, 97, 112, 115, 104, 111, 116] 16 (by decide) (by decide +kernel) (by decide +kernel) (by decide +kernel) (by decide +kernel) (by decide +kernel)
theorem sr_RX8_145 : Cond.stringRef RX8 145 "game" ∈ lw_tbl := List.mem_of_getElem? (i := 1549) (by decide +kernel)
theorem str_RX8_145 {g : Gp} (hg : Ok g) : vk_R RX8 145 "game" (sad g RX8 145) (g0 g) ∧ Sl g (sad g RX8 145) 4 (zst [103, 97, 109, 101]) := str_of hg sr_RX8_145 [103, 97, 109, 101] 4 (by decide) (by decide +kernel) (by decide +kernel) (by decide +kernel) (by decide +kernel) (by decide +kernel)
theorem sr_RX8_154 : Cond.stringRef RX8 154 "deck" ∈ lw_tbl := List.mem_of_getElem? (i := 1574) (by decide +kernel)
theorem str_RX8_154 {g : Gp} (hg : Ok g) : vk_R RX8 154 "deck" (sad g RX8 154) (g0 g) ∧ Sl g (sad g RX8 154) 4 (zst [100, 101, 99, 107]) := str_of hg sr_RX8_154 [100, 101, 99, 107] 4 (by decide) (by decide +kernel) (by decide +kernel) (by decide +kernel) (by decide +kernel) (by decide +kernel)
theorem sr_RX8_159 : Cond.stringRef RX8 159 "tokens" ∈ lw_tbl := List.mem_of_getElem? (i := 1586) (by decide +kernel)
theorem str_RX8_159 {g : Gp} (hg : Ok g) : vk_R RX8 159 "tokens" (sad g RX8 159) (g0 g) ∧ Sl g (sad g RX8 159) 6 (zst [116, 111, 107, 101, 110, 115]) := str_of hg sr_RX8_159 [116, 111, 107, 101, 110, 115] 6 (by decide) (by decide +kernel) (by decide +kernel) (by decide +kernel) (by decide +kernel) (by decide +kernel)
theorem sr_RX8_161 : Cond.stringRef RX8 161 "lives" ∈ lw_tbl := List.mem_of_getElem? (i := 1587) (by decide +kernel)
theorem str_RX8_161 {g : Gp} (hg : Ok g) : vk_R RX8 161 "lives" (sad g RX8 161) (g0 g) ∧ Sl g (sad g RX8 161) 5 (zst [108, 105, 118, 101, 115]) := str_of hg sr_RX8_161 [108, 105, 118, 101, 115] 5 (by decide) (by decide +kernel) (by decide +kernel) (by decide +kernel) (by decide +kernel) (by decide +kernel)
theorem sr_RX8_163 : Cond.stringRef RX8 163 "color" ∈ lw_tbl := List.mem_of_getElem? (i := 1588) (by decide +kernel)
theorem str_RX8_163 {g : Gp} (hg : Ok g) : vk_R RX8 163 "color" (sad g RX8 163) (g0 g) ∧ Sl g (sad g RX8 163) 5 (zst [99, 111, 108, 111, 114]) := str_of hg sr_RX8_163 [99, 111, 108, 111, 114] 5 (by decide) (by decide +kernel) (by decide +kernel) (by decide +kernel) (by decide +kernel) (by decide +kernel)
theorem sr_RX8_169 : Cond.stringRef RX8 169 "rank" ∈ lw_tbl := List.mem_of_getElem? (i := 1596) (by decide +kernel)
theorem str_RX8_169 {g : Gp} (hg : Ok g) : vk_R RX8 169 "rank" (sad g RX8 169) (g0 g) ∧ Sl g (sad g RX8 169) 4 (zst [114, 97, 110, 107]) := str_of hg sr_RX8_169 [114, 97, 110, 107] 4 (by decide) (by decide +kernel) (by decide +kernel) (by decide +kernel) (by decide +kernel) (by decide +kernel)
theorem sr_RX8_171 : Cond.stringRef RX8 171 "shuffle" ∈ lw_tbl := List.mem_of_getElem? (i := 1597) (by decide +kernel)
theorem str_RX8_171 {g : Gp} (hg : Ok g) : vk_R RX8 171 "shuffle" (sad g RX8 171) (g0 g) ∧ Sl g (sad g RX8 171) 7 (zst [115, 104, 117, 102, 102, 108, 101]) := str_of hg sr_RX8_171 [115, 104, 117, 102, 102, 108, 101] 7 (by decide) (by decide +kernel) (by decide +kernel) (by decide +kernel) (by decide +kernel) (by decide +kernel)
