/-! OWN: walks over worlds, the heap and the locals hidden behind a goal Zs; contracts Ct with an exact answer and an exact world -/
abbrev Ob : Type := (Nat → Int32) × (Nat → Int64) × (Nat → Nat → Int32) × (Nat → Nat → Int64)
def si (S : Ob) (k : Nat) (v : Int32) : Ob := (fun j => if j = k then v else S.1 j, S.2)
def sl (S : Ob) (k : Nat) (v : Int64) : Ob := (S.1, fun j => if j = k then v else S.2.1 j, S.2.2)
def sa (S : Ob) (k : Nat) (f : Nat → Int32) : Ob := (S.1, S.2.1, fun j => if j = k then f else S.2.2.1 j, S.2.2.2)
def sb (S : Ob) (k : Nat) (f : Nat → Int64) : Ob := (S.1, S.2.1, S.2.2.1, fun j => if j = k then f else S.2.2.2 j)
def inb (i : Int32) (n : Nat) : Bool := decide (¬ i < 0 ∧ i.toNatClampNeg < n)
theorem inb_vp {i : Int32} {n : Nat} (h : inb i n = true) : vp_in i n := by
  have h := of_decide_eq_true h
  intro q
  rcases q with q | q
  · exact h.1 q
  · omega
def chk {α : Type} (b : Bool) (x : Option α) : Option α := if b = true then x else none
theorem chk_e {α : Type} {b : Bool} {x : Option α} {r : α} (h : chk b x = some r) : b = true ∧ x = some r := by
  unfold chk at h
  split at h
  · exact ⟨by assumption, h⟩
  · cases h
theorem ite_e {α : Type} {c : Prop} {d : Decidable c} {x y : Option α} {r : α} (h : (if c then x else y) = some r) : (c → x = some r) ∧ (¬ c → y = some r) :=
  ⟨fun q => by rw [if_pos q] at h; exact h, fun q => by rw [if_neg q] at h; exact h⟩
def ob {α β : Type} (x : Option α) (k : α → Option β) : Option β := x.bind k
theorem ob_e {α β : Type} {x : Option α} {k : α → Option β} {r : β} (h : ob x k = some r) : ∃ a, x = some a ∧ k a = some r := Option.bind_eq_some_iff.mp h
abbrev Gp : Type := va_G × (ClassId × ClassId × ClassId × ClassId × ClassId) × Nat × State × Launch
abbrev gD (g : Gp) : va_G := g.1
abbrev gI (g : Gp) : ClassId := g.2.1.1
abbrev gJ (g : Gp) : ClassId := g.2.1.2.1
abbrev gZ (g : Gp) : ClassId := g.2.1.2.2.1
abbrev gY (g : Gp) : ClassId := g.2.1.2.2.2.1
abbrev gO (g : Gp) : ClassId := g.2.1.2.2.2.2
abbrev gb (g : Gp) : Nat := g.2.2.1
abbrev g0 (g : Gp) : State := g.2.2.2.1
abbrev gl (g : Gp) : Launch := g.2.2.2.2
abbrev gT (g : Gp) : List (ClassId × FieldType) := [(gI g, .int), (gJ g, .long), (gZ g, .boolean), (gY g, .byte), (gO g, .object RX1)]
def gtbl : List Cond := lw_tbl.filter goodWord
theorem g_in {w : Cond} (i : Nat) (h : lw_tbl[i]? = some w) (hg : goodWord w = true) : w ∈ gtbl := List.mem_filter.mpr ⟨List.mem_of_getElem? h, hg⟩
def Ok (g : Gp) : Prop := (∀ w ∈ lw_tbl, w.before #[] (g0 g) = true) ∧ va_K (gD g) vwCl (gT g) (g0 g) ∧ gb g = (g0 g).heap.size ∧ (gl g).stackTraces = false ∧ ∃ a, (Jvm.Cond.and given_1 narrow_1).before a (g0 g) = true
def En (g : Gp) (U : State) : Prop := (g0 g).WarmedH U.vm ∧ ∀ q, q < gb g → U.heap[q]? = (g0 g).heap[q]?
theorem En.hts {g : Gp} {U : State} (hk : Ok g) (h : En g U) {a : Array Value} : ∀ w ∈ gtbl, w.before a U = true := fun w hw => by
  obtain ⟨h1, h2⟩ := List.mem_filter.mp hw
  exact word_at h.1 (good_of_word h2) (hk.1 w h1)
theorem En.K {g : Gp} {U : State} (hk : Ok g) (h : En g U) : va_K (gD g) vwCl (gT g) U := va_K.moved h.1.alike hk.2.1
theorem En.step {g : Gp} {s U : State} {A : Nat → Prop} {locs : List Loc} (h : En g s) (hb : gb g ≤ s.heap.size) (hA : ∀ q, A q → gb g ≤ q) (hS : va_S A s.heap U.heap locs) (hW : s.WarmedH U.vm) : En g U :=
  ⟨State.WarmedH.trans h.1 hW, fun q hq => by rw [hS.2.1 q (by omega) (fun z => by have := hA q z; omega)]; exact h.2 q hq⟩
abbrev Kt : Type := Program × Launch × Env × Room × State × MethodId × Array Value × List Frame × Method × Code × (State → Prop) × (Nat → Prop) × Gp
def Zs : Kt → Nat → Nat → va_W → List (Nat × Value) → Nat → List Value → Prop
  | (p, l, e, R, s, m, args, below, meth, c, Q, A, g), cells, slots, ws, lv, pc, st => ∀ H locs ls, va_P (gD g) vwCl ws H → va_D A ws → va_S A s.heap H locs → lv_has ls c.maxLocals lv → W p l e R s m args below meth c H locs cells slots Q (F0 m pc ls st)
def Cx : Kt → Gp → ByteArray → String → Nat → Room → Prop
  | (p, l, e, R, s, m, args, below, meth, c, Q, A, g), g', cc, own, nL, R' => p.tables.exec = Jvm.exec ∧ c.code = cc ∧ c.maxLocals = nL ∧ s.vm.findClass own = some m.cls ∧ meth.locks = false ∧ (∀ q, s.heap.size ≤ q → A q) ∧ (∀ q, A q → gb g ≤ q) ∧ gb g ≤ s.heap.size ∧ En g s ∧ Ok g ∧ g' = g ∧ R = R' ∧ l = gl g
def PcOf (g : Gp) (av : List Value) (w : va_W) (sz : Nat) : Array Value → State → Prop := va_Pc av (fun U => U.heap.size = sz ∧ va_P (gD g) vwCl w U.heap ∧ va_D (fun q => gb g ≤ q) w ∧ gb g ≤ sz ∧ En g U)
def QcOf (g : Gp) (RP : Option Value → va_W → Prop) (w : va_W) (sz : Nat) : Array Value → State → Outcome → State → Prop := fun _ st oc t => (∃ rv w', oc = .returned rv ∧ RP rv w' ∧ va_P (gD g) vwCl w' t.heap ∧ va_D (va_A w sz) w') ∧ va_F (va_A w sz) st t
def Ct (g : Gp) (y : MethodName) (b : ByteArray) (nL : Nat) (ret : Option FieldType) (rm : Room) (av : List Value) (w : va_W) (RP : Option Value → va_W → Prop) : Prop :=
  ∀ sz, Met (gl g) y [.code y b nL ret] rm (PcOf g av w sz) (QcOf g RP w sz) rm.cells rm.slots (va_A w sz)
def exR (rv : Option Value) (w : va_W) : Option Value → va_W → Prop := fun r w' => r = rv ∧ w' = w
def Rx : Kt → (Option Value → va_W → Prop) → Nat → Nat → Option FieldType → Prop
  | (p, l, e, R, s, m, args, below, meth, c, Q, A, g), RP, mc, ms, ret => (∃ w, A = va_A w s.heap.size ∧ Q = MQ below (QcOf g RP w s.heap.size) args s mc ms A) ∧ meth.sig.returnType = ret
theorem Rx.imp {K : Kt} {RP RP' : Option Value → va_W → Prop} {mc ms : Nat} {ret : Option FieldType} (h : Rx K RP mc ms ret) (e : RP = RP') : Rx K RP' mc ms ret := e ▸ h
section ZR
variable {K : Kt} {g : Gp} {cc : ByteArray} {own : String} {nL : Nat} {R : Room} {cs ss pc : Nat} {ws : va_W} {lv : List (Nat × Value)} {st : List Value} {RP : Option Value → va_W → Prop} {mc ms : Nat} {ret : Option FieldType}
/-- the contract of a method out of its walk -/
theorem ct_of {y : MethodName} {b : ByteArray} {av : List Value} {w : va_W} {rm : Room} (hy : plainName y.cls = true) (hg : Ok g) (hn : (lg_sl av).length ≤ nL)
    (walk : ∀ K : Kt, Cx K g b y.cls nL rm → Rx K RP rm.cells rm.slots ret → Zs K 0 0 w (lv_args 0 av) 0 []) : Ct g y b nL ret rm av w RP := by
  intro sz
  refine Met.ofW (cc := b) (maxL := nL) (ret := ret) hy rfl ?_
  intro p e s m args below meth c s₁ B hml hv
  obtain ⟨rfl, rfl, hP, hD, hb, hE⟩ := hv
  have hlocks := B.notSynchronized
  have hA : ∀ q, va_A w s.heap.size q → gb g ≤ q := fun q h => by
    rcases h with ⟨k, e, h⟩ | h
    · exact hD.2 k (q, e) h
    · omega
  have hl := lv_entry av (n := nL) hn
  rw [lg_entry_eq]
  generalize (lg_sl av ++ List.replicate (nL - (lg_sl av).length) Slot.unset).toArray = ls at hl ⊢
  exact walk (p, gl g, e, rm, s, m, av.toArray, below, meth, c, _, va_A w s.heap.size, g)
    ⟨B.exec, B.bytes, hml, findClass_of_methodNamed B.named, hlocks, fun q h => Or.inr h, hA, hb, hE, hg, rfl, rfl, rfl⟩ ⟨⟨w, rfl, rfl⟩, B.returns⟩ s.heap [] ls hP hD.self va_S.rf (by rw [hml]; exact hl)
theorem z_iret {v : Int32} (C : Cx K g cc own nL R) (X : Rx K RP mc ms (some .int)) (hd : decode cc pc = .ok (.ireturn, 1)) (h : RP (some (.int v)) ws) (h1 : cs ≤ mc) (h2 : ss ≤ ms) : Zs K cs ss ws lv pc [.int v] := by
  obtain ⟨p, l, e, R, s, m, args, below, meth, c, Q, A, g⟩ := K
  obtain ⟨hx, hb, hml, hown, hlocks, hA, hAb, hbs, hE, hk, rfl, rfl, rfl⟩ := C
  obtain ⟨⟨w, rfl, rfl⟩, hr⟩ := X
  intro H locs ls hP hD hS hl
  refine W.widen h1 h2 ?_
  exact W.iret hx hb hr (fun t ht hW => ⟨⟨_, ws, rfl, h, by rw [ht]; exact hP, hD⟩, hS.F ht⟩) hS.2.2 hd
theorem z_zret {v : Int32} {ty : FieldType} (C : Cx K g cc own nL R) (X : Rx K RP mc ms (some ty)) (hd : decode cc pc = .ok (.ireturn, 1)) (hn : narrow ty (.int v) = .int v) (h : RP (some (.int v)) ws) (h1 : cs ≤ mc) (h2 : ss ≤ ms) : Zs K cs ss ws lv pc [.int v] := by
  obtain ⟨p, l, e, R, s, m, args, below, meth, c, Q, A, g⟩ := K
  obtain ⟨hx, hb, hml, hown, hlocks, hA, hAb, hbs, hE, hk, rfl, rfl, rfl⟩ := C
  obtain ⟨⟨w, rfl, rfl⟩, hr⟩ := X
  intro H locs ls hP hD hS hl
  refine W.widen h1 h2 ?_
  exact W.zret hx hb hr hn (fun t ht hW => ⟨⟨_, ws, rfl, h, by rw [ht]; exact hP, hD⟩, hS.F ht⟩) hS.2.2 hd
theorem z_lret {v : Int64} (C : Cx K g cc own nL R) (X : Rx K RP mc ms (some .long)) (hd : decode cc pc = .ok (.lreturn, 1)) (h : RP (some (.long v)) ws) (h1 : cs ≤ mc) (h2 : ss ≤ ms) : Zs K cs ss ws lv pc [.long v] := by
  obtain ⟨p, l, e, R, s, m, args, below, meth, c, Q, A, g⟩ := K
  obtain ⟨hx, hb, hml, hown, hlocks, hA, hAb, hbs, hE, hk, rfl, rfl, rfl⟩ := C
  obtain ⟨⟨w, rfl, rfl⟩, hr⟩ := X
  intro H locs ls hP hD hS hl
  refine W.widen h1 h2 ?_
  exact W.lret hx hb hr (fun t ht hW => ⟨⟨_, ws, rfl, h, by rw [ht]; exact hP, hD⟩, hS.F ht⟩) hS.2.2 hd
theorem z_vret (C : Cx K g cc own nL R) (X : Rx K RP mc ms none) (hd : decode cc pc = .ok (.return_, 1)) (h : RP none ws) (h1 : cs ≤ mc) (h2 : ss ≤ ms) : Zs K cs ss ws lv pc [] := by
  obtain ⟨p, l, e, R, s, m, args, below, meth, c, Q, A, g⟩ := K
  obtain ⟨hx, hb, hml, hown, hlocks, hA, hAb, hbs, hE, hk, rfl, rfl, rfl⟩ := C
  obtain ⟨⟨w, rfl, rfl⟩, hr⟩ := X
  intro H locs ls hP hD hS hl
  refine W.widen h1 h2 ?_
  exact W.vret hx hb hr (fun t ht hW => ⟨⟨_, ws, rfl, h, by rw [ht]; exact hP, hD⟩, hS.F ht⟩) hS.2.2 hd
end ZR
