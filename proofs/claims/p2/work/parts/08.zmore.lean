/-! OWN: what the written walks use besides: loops by fuel, named values, truth values, table switches -/
def zlp {φ : Type} (z : φ) (F : φ → φ) : Nat → φ
  | 0 => z
  | n + 1 => F (zlp z F n)
def znm {α β : Type} (x : α) (k : α → β) : β := k x
theorem znm_e {α β : Type} {x : α} {k : α → β} {r : β} (h : znm x k = r) : ∃ v, v = x ∧ k v = r := ⟨x, rfl, h⟩
theorem zlt_b {a b : Nat} (h : Nat.ble (a + 1) b = true) : a < b := Nat.le_of_ble_eq_true h
def zisB (x : Int32) : Bool := decide (x = 0 ∨ x = 1)
theorem zisB_nar {x : Int32} (h : zisB x = true) : narrow .boolean (.int x) = .int x := by
  rcases of_decide_eq_true h with e | e <;> subst e <;> rfl
theorem zisB_fit {x : Int32} (h : zisB x = true) : fits .boolean (.int x) = true := by
  rcases of_decide_eq_true h with e | e <;> subst e <;> rfl
theorem inc_e (n : Int) (v : Int32) (h : Int32.ofInt n = v) (x : Int32) : x + Int32.ofInt n = x + v := congrArg (fun y => x + y) h
theorem exR_e {α : Type} {f : α → Option Value} {w : α → va_W} {a b : α} (h : some a = some b) {rv : Option Value} {ws : va_W} (e1 : f a = rv) (e2 : w a = ws) : exR (f b) (w b) rv ws := by
  cases h
  exact ⟨e1.symm, e2.symm⟩
section ZX
variable {K : Kt} {g : Gp} {cc : ByteArray} {own : String} {nL : Nat} {R : Room} {cs ss pc : Nat} {ws ws' : va_W} {lv lv' : List (Nat × Value)} {st : List Value}
theorem z_top1 {x v : Int32} (e : v = x) (kk : Zs K cs ss ws lv pc (.int v :: st)) : Zs K cs ss ws lv pc (.int x :: st) := e ▸ kk
theorem z_top2 {x v : Int64} (e : v = x) (kk : Zs K cs ss ws lv pc (.long v :: st)) : Zs K cs ss ws lv pc (.long x :: st) := e ▸ kk
theorem z_wsE (e : ws = ws') (kk : Zs K cs ss ws' lv pc st) : Zs K cs ss ws lv pc st := e ▸ kk
theorem z_i2c (C : Cx K g cc own nL R) {x : Int32} (hd : decode cc pc = .ok (.i2c, 1)) (kk : Zs K cs ss ws lv (pc + 1) (.int (x.toUInt32 % 65536).toInt32 :: st)) : Zs K cs ss ws lv pc (.int x :: st) := by
  obtain ⟨p, l, e, R, s, m, args, below, meth, c, Q, A, g⟩ := K
  obtain ⟨hx, hb, hml, hown, hlocks, hA, hAb, hbs, hE, hk, rfl, rfl, rfl⟩ := C
  intro H locs ls hP hD hS hl
  exact lv_i2c hx hb hd rfl (kk H locs ls hP hD hS hl)
theorem z_tswOut (C : Cx K g cc own nL R) {dflt lo hi : Int} {offs : Array Int} {len tgt : Nat} {x : Int32} (hd : decode cc pc = .ok (.tableswitch dflt lo hi offs, len)) (h : x.toInt < lo ∨ hi < x.toInt) (ht : (pc : Int) + dflt = (tgt : Int)) (kk : Zs K cs ss ws lv tgt st) : Zs K cs ss ws lv pc (.int x :: st) := by
  obtain ⟨p, l, e, R, s, m, args, below, meth, c, Q, A, g⟩ := K
  obtain ⟨hx, hb, hml, hown, hlocks, hA, hAb, hbs, hE, hk, rfl, rfl, rfl⟩ := C
  intro H locs ls hP hD hS hl
  exact lv_tableOut hx hb hd h ht (kk H locs ls hP hD hS hl)
theorem z_tswIn (C : Cx K g cc own nL R) {dflt lo hi : Int} {offs : Array Int} {len tgt : Nat} {x : Int32} (v : Int32) {off : Int} (hd : decode cc pc = .ok (.tableswitch dflt lo hi offs, len)) (hv : x = v) (h1 : ¬ v.toInt < lo) (h2 : ¬ hi < v.toInt) (ho : offs[(v.toInt - lo).toNat]? = some off) (ht : (pc : Int) + off = (tgt : Int)) (kk : Zs K cs ss ws lv tgt st) : Zs K cs ss ws lv pc (.int x :: st) := by
  subst hv
  obtain ⟨p, l, e, R, s, m, args, below, meth, c, Q, A, g⟩ := K
  obtain ⟨hx, hb, hml, hown, hlocks, hA, hAb, hbs, hE, hk, rfl, rfl, rfl⟩ := C
  intro H locs ls hP hD hS hl
  exact lv_tableIn hx hb hd h1 h2 ho ht (kk H locs ls hP hD hS hl)
end ZX
