/-! OWN, written by wip/p2/tools/ctor.py: the constructor of HintTeam -/
def fk (k : Nat) (pa : Nat → Nat) : Nat → Option Nat := fun j => if j < k then some (pa j) else none
theorem fk_0 (pa : Nat → Nat) : fk 0 pa = fun _ => none := by
  funext j
  unfold fk
  rw [if_neg (by omega)]
theorem fk_up (k : Nat) (pa : Nat → Nat) (v : Nat) : va_up (fk k pa) k (some v) = fk (k + 1) (va_up pa k v) := by
  funext j
  unfold fk va_up
  by_cases e : j = k
  · subst e
    rw [if_pos rfl, if_pos (by omega), if_pos rfl]
  · rw [if_neg e, if_neg e]
    show (if j < k then some (pa j) else none) = (if j < k + 1 then some (pa j) else none)
    by_cases h : j < k
    · rw [if_pos h, if_pos (by omega)]
    · rw [if_neg h, if_neg (by omega)]
theorem fk_at (n : Nat) (pa : Nat → Nat) : ∀ k, k < n → fk n pa k = some (pa k) := fun k h => if_pos h
theorem fam_up {g : Gp} {k : Nat} {pa : Nat → Nat} {pr : Nat → Nat → Nat} {q v : Nat} {r : Nat → Nat} {V : va_W} : (wX1 g v r q z0 ++ (gfam g k pa pr (fun _ => (q, z0)) ++ V)).Perm (gfam g (k + 1) (va_up pa k v) (va_up pr k r) (fun _ => (q, z0)) ++ V) := by
  have e : gfam g (k + 1) (va_up pa k v) (va_up pr k r) (fun _ => (q, z0)) = gfam g k pa pr (fun _ => (q, z0)) ++ wX1 g v r q z0 := by
    unfold gfam
    rw [List.range_succ, List.flatMap_append]
    congr 1
    · refine flatMap_cg fun j hj => ?_
      have h := List.mem_range.mp hj
      unfold gel
      rw [va_up_ne _ _ (by omega), va_up_ne _ _ (by omega)]
    · rw [List.flatMap_cons, List.flatMap_nil, List.append_nil]
      unfold gel
      rw [va_up_self, va_up_self]
  rw [e, ← List.append_assoc]
  exact List.Perm.append_right _ List.perm_append_comm
theorem ofNat_ge {k n : Nat} (hk : k < 2 ^ 31) (hn : n < 2 ^ 31) : Int32.ofNat n ≤ Int32.ofNat k ↔ n ≤ k := by
  rw [Int32.le_iff_toInt_le, Int32.toInt_ofNat_of_lt hn, Int32.toInt_ofNat_of_lt hk]
  omega
theorem inb_ofNat {k n : Nat} (hk : k < n) (hn : n < 2 ^ 31) : inb (Int32.ofNat k) n = true := by
  have e : (Int32.ofNat k).toInt = (k : Int) := Int32.toInt_ofNat_of_lt (by omega)
  refine decide_eq_true ⟨fun h => ?_, ?_⟩
  · have h := Int32.lt_iff_toInt_lt.mp h
    rw [e] at h
    have : (0 : Int32).toInt = 0 := rfl
    omega
  · show (Int32.ofNat k).toInt.toNat < n
    rw [e]
    omega
theorem clamp_ofNat {k : Nat} (hk : k < 2 ^ 31) : (Int32.ofNat k).toNatClampNeg = k := by
  show (Int32.ofNat k).toInt.toNat = k
  rw [Int32.toInt_ofNat_of_lt hk]
  omega
section ZIP
variable {K : Kt} {g : Gp} {cc : ByteArray} {own : String} {nL : Nat} {R : Room} {cs ss pc : Nat} {lv : List (Nat × Value)} {st : List Value}
variable {y : MethodName} {n : Nat} {b : ByteArray} {nL' : Nat} {rm : Room} {w wr : va_W} {As rest : List Value} {RP : Option Value → va_W → Prop}
theorem z_callIp {idx a : Nat} (C : Cx K g cc own nL R) (hd : decode cc pc = .ok (.invokespecial idx, 3)) (hm : Cond.methodLink own idx y ∈ gtbl) (hw : Wi y n b nL') (hM : Ct g y b nL' none rm (.ref a :: As) w RP) (hn : As.length = n) (hst : st = As.reverse ++ .ref a :: rest) (hrm : rm.frames + 1 ≤ R.frames ∧ 8 + (nL' + 11) + rm.locals ≤ R.locals) (hW : (rest.map fun v => v.category).sum ≤ 8) (hf : cs + rm.cells ≤ R.cells ∧ ss + rm.slots ≤ R.slots)
    (kk : ∀ rv w', RP rv w' → Zs K (cs + rm.cells) (ss + rm.slots) (w' ++ wr) lv (pc + 3) (rv.toList ++ rest)) : Zs K cs ss (w ++ wr) lv pc st :=
  z_callI (wr := wr) C hd hm hw hM (List.range w.length) (tl_ix w.length wr.length) hn hst hrm hW hf (ix_pre w wr) (tl_ix_get w wr) ((va_nd_iff _).mpr List.nodup_range) ((va_nd_iff _).mpr (tl_ix_nd _ _)) (fun i hi hc => by
    have h1 := List.mem_range.mp hc
    have h2 := tl_ix_ge hi
    omega) (fun rv w' hr => z_perm List.perm_append_comm (kk rv w' hr))
end ZIP
theorem x7_past {K : Kt} {g : Gp} {a0 q qa : Nat} {fs : List Value} {V : va_W} (hg : Ok g) (C : Cx K g cX7_init RX7 3 (zrc 3 247 34907 64)) (hfs : fs[4]? = some (.ref qa)) (c0 s0 : Nat) (hc : c0 + 9 * 20 ≤ 247) (hs : s0 + 240 * 20 ≤ 34907) (kk : ∀ pa pr, Zs K (c0 + 9 * 20) (s0 + 240 * 20) ((a0, .inr (7, fs)) :: (qa, gq g 20 (fk 20 pa)) :: (gfam g 20 pa pr (fun _ => (q, z0)) ++ V)) [(0, .ref a0), (1, .ref q)] 157 []) : ∀ (m k : Nat) (pa : Nat → Nat) (pr : Nat → Nat → Nat), k + m = 20 → Zs K (c0 + 9 * k) (s0 + 240 * k) ((a0, .inr (7, fs)) :: (qa, gq g 20 (fk k pa)) :: (gfam g k pa pr (fun _ => (q, z0)) ++ V)) [(0, .ref a0), (1, .ref q), (2, .int (Int32.ofNat k))] 131 [] := by
  intro m
  induction m with
  | zero =>
    intro k pa pr hk
    obtain rfl : k = 20 := by omega
    refine z_iload_n (pc := 131) (x := Int32.ofNat 20) C dX7_init_131 (i := 2) rfl rfl ?_
    refine z_bipush (pc := 132) C dX7_init_132 bp_20 ?_
    refine z_icmp_ge (pc := 134) C dX7_init_134 (tgt := 157) (by decide) (fun _ => ?_) (fun hc => absurd (by decide) hc)
    refine z_lv (lv' := [(0, .ref a0), (1, .ref q)]) [0, 1] rfl ?_
    exact kk pa pr
  | succ m ih =>
    intro k pa pr hk
    refine z_iload_n (pc := 131) (x := Int32.ofNat k) C dX7_init_131 (i := 2) rfl rfl ?_
    refine z_bipush (pc := 132) C dX7_init_132 bp_20 ?_
    refine z_icmp_ge (pc := 134) C dX7_init_134 (tgt := 157) (by decide) (fun hc => ?_) (fun _ => ?_)
    · have := (ofNat_ge (k := k) (n := 20) (by omega) (by omega)).mp hc
      omega
    refine z_aload_n (pc := 137) (x := a0) C dX7_init_137 (i := 0) rfl rfl ?_
    refine z_get (pc := 138) (v := .ref qa) C 0 dX7_init_138 fl_RX7_24 rfl hfs ?_
    refine z_iload_n (pc := 141) (x := Int32.ofNat k) C dX7_init_141 (i := 2) rfl rfl ?_
    refine z_new (pc := 142) C dX7_init_142 (ci := 1) rfl inG1 tyX1_ok wn_RX7_22 (fs := [.null, .int 0, .int 0, .int 0, .int 0, .int 0, .int 0, .null, .long 0, .null, .null, .null, .null, .null, .null, .null]) (by decide) (by show _ ≤ 247; omega) (by show _ ≤ 34907; omega) (fun v => ?_)
    refine z_perm List.perm_append_comm ?_
    refine z_dup (pc := 145) C dX7_init_145 rfl ?_
    refine z_aload_n (pc := 146) (x := q) C dX7_init_146 (i := 1) rfl rfl ?_
    refine z_callIp (pc := 147) (As := [.ref q]) (rest := [.ref v, .int (Int32.ofNat k), .ref qa]) C dX7_init_147 ml_RX7_64 wi_X1_init (m_X1_init hg) rfl rfl ⟨by decide, by decide⟩ (Nat.le_of_ble_eq_true rfl) ⟨by show _ + 8 ≤ 247; omega, by show _ + 224 ≤ 34907; omega⟩ (fun rv w' hr => ?_)
    obtain ⟨rfl, r, rfl⟩ := hr
    refine z_to (ws' := wX1 g v r q z0 ++ ((a0, .inr (7, fs)) :: (qa, gq g 20 (fk k pa)) :: (gfam g k pa pr (fun _ => (q, z0)) ++ V))) (lv' := [(0, .ref a0), (1, .ref q), (2, .int (Int32.ofNat k))]) (pc' := 150) (st' := [.ref v, .int (Int32.ofNat k), .ref qa]) (z_widen (cs' := c0 + 9 * (k + 1)) (ss' := s0 + 240 * (k + 1)) (by show _ + 8 ≤ _; omega) (by show _ + 224 ≤ _; omega) ?_) rfl rfl rfl rfl
    refine z_aast (pc := 150) C 10 0 dX7_init_150 rfl rfl (inb_ofNat (by omega) (by omega)) (ws' := wX1 g v r q z0 ++ ((a0, .inr (7, fs)) :: (qa, gq g 20 (va_up (fk k pa) (Int32.ofNat k).toNatClampNeg (some v))) :: (gfam g k pa pr (fun _ => (q, z0)) ++ V))) rfl ?_
    rw [clamp_ofNat (by omega), fk_up]
    refine z_iinc (pc := 151) (x := Int32.ofNat k) (v := Int32.ofNat (k + 1)) C dX7_init_151 rfl (by rw [Int32.ofNat_add]; rfl) (by decide) (lv' := [(2, .int (Int32.ofNat (k + 1))), (0, .ref a0), (1, .ref q)]) rfl ?_
    refine z_goto (pc := 154) C dX7_init_154 (tgt := 131) (by decide) ?_
    refine z_lv (lv' := [(0, .ref a0), (1, .ref q), (2, .int (Int32.ofNat (k + 1)))]) [1, 2, 0] rfl ?_
    refine z_perm ?_ (ih (k + 1) (va_up pa k v) (va_up pr k r) (by omega))
    refine List.Perm.trans ?_ (List.perm_append_comm (l₁ := (a0, .inr (7, fs)) :: (qa, gq g 20 (fk (k + 1) (va_up pa k v))) :: (gfam g k pa pr (fun _ => (q, z0)) ++ V)) (l₂ := wX1 g v r q z0))
    refine List.Perm.cons _ (List.Perm.cons _ ?_)
    exact (fam_up (g := g) (V := V)).symm.trans List.perm_append_comm
theorem x7_saved {K : Kt} {g : Gp} {a0 q qa : Nat} {fs : List Value} {V : va_W} (hg : Ok g) (C : Cx K g cX7_init RX7 3 (zrc 3 247 34907 64)) (hfs : fs[7]? = some (.ref qa)) (c0 s0 : Nat) (hc : c0 + 9 * 2 ≤ 247) (hs : s0 + 240 * 2 ≤ 34907) (kk : ∀ pa pr, Zs K (c0 + 9 * 2) (s0 + 240 * 2) ((a0, .inr (7, fs)) :: (qa, gq g 2 (fk 2 pa)) :: (gfam g 2 pa pr (fun _ => (q, z0)) ++ V)) [(0, .ref a0), (1, .ref q)] 184 []) : ∀ (m k : Nat) (pa : Nat → Nat) (pr : Nat → Nat → Nat), k + m = 2 → Zs K (c0 + 9 * k) (s0 + 240 * k) ((a0, .inr (7, fs)) :: (qa, gq g 2 (fk k pa)) :: (gfam g k pa pr (fun _ => (q, z0)) ++ V)) [(0, .ref a0), (1, .ref q), (2, .int (Int32.ofNat k))] 159 [] := by
  intro m
  induction m with
  | zero =>
    intro k pa pr hk
    obtain rfl : k = 2 := by omega
    refine z_iload_n (pc := 159) (x := Int32.ofNat 2) C dX7_init_159 (i := 2) rfl rfl ?_
    refine z_iconst (pc := 160) C dX7_init_160 ic_2 ?_
    refine z_icmp_ge (pc := 161) C dX7_init_161 (tgt := 184) (by decide) (fun _ => ?_) (fun hc => absurd (by decide) hc)
    refine z_lv (lv' := [(0, .ref a0), (1, .ref q)]) [0, 1] rfl ?_
    exact kk pa pr
  | succ m ih =>
    intro k pa pr hk
    refine z_iload_n (pc := 159) (x := Int32.ofNat k) C dX7_init_159 (i := 2) rfl rfl ?_
    refine z_iconst (pc := 160) C dX7_init_160 ic_2 ?_
    refine z_icmp_ge (pc := 161) C dX7_init_161 (tgt := 184) (by decide) (fun hc => ?_) (fun _ => ?_)
    · have := (ofNat_ge (k := k) (n := 2) (by omega) (by omega)).mp hc
      omega
    refine z_aload_n (pc := 164) (x := a0) C dX7_init_164 (i := 0) rfl rfl ?_
    refine z_get (pc := 165) (v := .ref qa) C 0 dX7_init_165 fl_RX7_28 rfl hfs ?_
    refine z_iload_n (pc := 168) (x := Int32.ofNat k) C dX7_init_168 (i := 2) rfl rfl ?_
    refine z_new (pc := 169) C dX7_init_169 (ci := 1) rfl inG1 tyX1_ok wn_RX7_22 (fs := [.null, .int 0, .int 0, .int 0, .int 0, .int 0, .int 0, .null, .long 0, .null, .null, .null, .null, .null, .null, .null]) (by decide) (by show _ ≤ 247; omega) (by show _ ≤ 34907; omega) (fun v => ?_)
    refine z_perm List.perm_append_comm ?_
    refine z_dup (pc := 172) C dX7_init_172 rfl ?_
    refine z_aload_n (pc := 173) (x := q) C dX7_init_173 (i := 1) rfl rfl ?_
    refine z_callIp (pc := 174) (As := [.ref q]) (rest := [.ref v, .int (Int32.ofNat k), .ref qa]) C dX7_init_174 ml_RX7_64 wi_X1_init (m_X1_init hg) rfl rfl ⟨by decide, by decide⟩ (Nat.le_of_ble_eq_true rfl) ⟨by show _ + 8 ≤ 247; omega, by show _ + 224 ≤ 34907; omega⟩ (fun rv w' hr => ?_)
    obtain ⟨rfl, r, rfl⟩ := hr
    refine z_to (ws' := wX1 g v r q z0 ++ ((a0, .inr (7, fs)) :: (qa, gq g 2 (fk k pa)) :: (gfam g k pa pr (fun _ => (q, z0)) ++ V))) (lv' := [(0, .ref a0), (1, .ref q), (2, .int (Int32.ofNat k))]) (pc' := 177) (st' := [.ref v, .int (Int32.ofNat k), .ref qa]) (z_widen (cs' := c0 + 9 * (k + 1)) (ss' := s0 + 240 * (k + 1)) (by show _ + 8 ≤ _; omega) (by show _ + 224 ≤ _; omega) ?_) rfl rfl rfl rfl
    refine z_aast (pc := 177) C 10 0 dX7_init_177 rfl rfl (inb_ofNat (by omega) (by omega)) (ws' := wX1 g v r q z0 ++ ((a0, .inr (7, fs)) :: (qa, gq g 2 (va_up (fk k pa) (Int32.ofNat k).toNatClampNeg (some v))) :: (gfam g k pa pr (fun _ => (q, z0)) ++ V))) rfl ?_
    rw [clamp_ofNat (by omega), fk_up]
    refine z_iinc (pc := 178) (x := Int32.ofNat k) (v := Int32.ofNat (k + 1)) C dX7_init_178 rfl (by rw [Int32.ofNat_add]; rfl) (by decide) (lv' := [(2, .int (Int32.ofNat (k + 1))), (0, .ref a0), (1, .ref q)]) rfl ?_
    refine z_goto (pc := 181) C dX7_init_181 (tgt := 159) (by decide) ?_
    refine z_lv (lv' := [(0, .ref a0), (1, .ref q), (2, .int (Int32.ofNat (k + 1)))]) [1, 2, 0] rfl ?_
    refine z_perm ?_ (ih (k + 1) (va_up pa k v) (va_up pr k r) (by omega))
    refine List.Perm.trans ?_ (List.perm_append_comm (l₁ := (a0, .inr (7, fs)) :: (qa, gq g 2 (fk (k + 1) (va_up pa k v))) :: (gfam g k pa pr (fun _ => (q, z0)) ++ V)) (l₂ := wX1 g v r q z0))
    refine List.Perm.cons _ (List.Perm.cons _ ?_)
    exact (fam_up (g := g) (V := V)).symm.trans List.perm_append_comm
set_option maxHeartbeats 16000000 in
theorem m_X7_init {g : Gp} {N : Nat} {x : Nat → Int32} {a0 : Nat} (hg : Ok g) (hx : f_J7_fill_53178 N 9 (fun _ => 0) 99 = some x) : Ct g yX7_init cX7_init 3 none (zrc 3 247 34907 64) [.ref a0] (([(a0, .inr (7, [.null, .int 0, .null, .null, .null, .int 0, .int 0, .null, .null, .null, .null, .null, .null, .null, .int 0]))] : va_W)) (fun rv w' => rv = none ∧ pX7 g x a0 w') := by
  refine ct_ofI rfl rfl hg (by show _ ≤ _; exact Nat.le_of_ble_eq_true rfl) (fun K C I X => ?_)
  show Zs K 0 0 (([(a0, .inr (7, [.null, .int 0, .null, .null, .null, .int 0, .int 0, .null, .null, .null, .null, .null, .null, .null, .int 0]))] : va_W)) [(0, .ref a0)] 0 []
  refine z_aload_n (pc := 0) (x := a0) C dX7_init_0 (i := 0) rfl rfl ?_
  refine z_oinit (pc := 1) C dX7_init_1 wo_RX7_3 (by decide) (Nat.le_of_ble_eq_true rfl) ?_
  refine z_aload_n (pc := 4) (x := a0) C dX7_init_4 (i := 0) rfl rfl ?_
  refine z_sipush (pc := 5) C dX7_init_5 sp_600 ?_
  refine z_newI (pc := 8) (N := 600) C dX7_init_8 wac_int (by decide) (by decide) (by decide) (by decide) (by decide) (fun q1 => ?_)
  refine z_putf (pc := 10) C I 0 dX7_init_10 fp_RX7_9 (fun _ _ _ h => by cases h; rfl) rfl rfl rfl (zlt_b rfl) (ws' := (([(a0, .inr (7, [.ref q1, .int 0, .null, .null, .null, .int 0, .int 0, .null, .null, .null, .null, .null, .null, .null, .int 0]))] : va_W) ++ ([(q1, .inl (gI g, 600, .inl (fun _ => 0)))] : va_W))) rfl ?_
  refine z_aload_n (pc := 13) (x := a0) C dX7_init_13 (i := 0) rfl rfl ?_
  refine z_new (pc := 14) C dX7_init_14 (ci := 4) rfl inG4 tyX4_ok wn_RX7_13 (fs := [.null, .int 0, .int 0, .int 0, .null, .int 0, .int 0, .int 0, .int 0]) (by decide) (by decide) (by decide) (fun q2 => ?_)
  refine z_dup (pc := 17) C dX7_init_17 rfl ?_
  refine z_aload_n (pc := 18) (x := a0) C dX7_init_18 (i := 0) rfl rfl ?_
  refine z_get (pc := 19) (v := .ref q1) C 0 dX7_init_19 fl_RX7_9 rfl rfl ?_
  refine z_callI (pc := 22) (As := [.ref q1]) (rest := [.ref q2, .ref a0]) (wr := (([(a0, .inr (7, [.ref q1, .int 0, .null, .null, .null, .int 0, .int 0, .null, .null, .null, .null, .null, .null, .null, .int 0]))] : va_W) ++ ([(q1, .inl (gI g, 600, .inl (fun _ => 0)))] : va_W))) C dX7_init_22 ml_RX7_15 wi_X4_init (m_X4_init (x := x) hg hx) [2] [0, 1] rfl rfl ⟨by decide, by decide⟩ (Nat.le_of_ble_eq_true rfl) ⟨by decide, by decide⟩ rfl rfl rfl rfl (by decide) (fun rv w' hr => ?_)
  obtain ⟨rfl, r3, r4, r5, rfl⟩ := hr
  refine z_to (ws' := (([(a0, .inr (7, [.ref q1, .int 0, .null, .null, .null, .int 0, .int 0, .null, .null, .null, .null, .null, .null, .null, .int 0]))] : va_W) ++ ([(q1, .inl (gI g, 600, .inl (fun _ => 0)))] : va_W) ++ (wX4 g q2 r3 r4 q1 iX4 ++ wX5 g r4 r5 (iX5 x)))) (lv' := [(0, .ref a0)]) (pc' := 25) (st' := [.ref q2, .ref a0]) (z_widen (cs' := 6) (ss' := 689) (by decide) (by decide) ?_) rfl rfl rfl rfl
  refine z_putf (pc := 25) C I 0 dX7_init_25 fp_RX7_18 (fun _ _ _ h => by cases h; rfl) rfl rfl rfl (zlt_b rfl) (ws' := (([(a0, .inr (7, [.ref q1, .int 0, .ref q2, .null, .null, .int 0, .int 0, .null, .null, .null, .null, .null, .null, .null, .int 0]))] : va_W) ++ ([(q1, .inl (gI g, 600, .inl (fun _ => 0)))] : va_W) ++ (wX4 g q2 r3 r4 q1 iX4 ++ wX5 g r4 r5 (iX5 x)))) rfl ?_
  refine z_aload_n (pc := 28) (x := a0) C dX7_init_28 (i := 0) rfl rfl ?_
  refine z_bipush (pc := 29) C dX7_init_29 bp_20 ?_
  refine z_newQ (pc := 31) (N := 20) C dX7_init_31 wcl_RX7_22 (ok_over hg) (by decide) (by decide) (by decide) (by decide) (by decide) (fun q6 => ?_)
  refine z_putf (pc := 34) C I 0 dX7_init_34 fp_RX7_24 (fun _ _ _ h => by cases h; rfl) rfl rfl rfl (zlt_b rfl) (ws' := (([(a0, .inr (7, [.ref q1, .int 0, .ref q2, .null, .ref q6, .int 0, .int 0, .null, .null, .null, .null, .null, .null, .null, .int 0]))] : va_W) ++ ([(q1, .inl (gI g, 600, .inl (fun _ => 0)))] : va_W) ++ (wX4 g q2 r3 r4 q1 iX4 ++ wX5 g r4 r5 (iX5 x)) ++ ([(q6, gq g 20 (fun _ => none))] : va_W))) rfl ?_
  refine z_aload_n (pc := 37) (x := a0) C dX7_init_37 (i := 0) rfl rfl ?_
  refine z_iconst (pc := 38) C dX7_init_38 ic_2 ?_
  refine z_newQ (pc := 39) (N := 2) C dX7_init_39 wcl_RX7_22 (ok_over hg) (by decide) (by decide) (by decide) (by decide) (by decide) (fun q7 => ?_)
  refine z_putf (pc := 42) C I 0 dX7_init_42 fp_RX7_28 (fun _ _ _ h => by cases h; rfl) rfl rfl rfl (zlt_b rfl) (ws' := (([(a0, .inr (7, [.ref q1, .int 0, .ref q2, .null, .ref q6, .int 0, .int 0, .ref q7, .null, .null, .null, .null, .null, .null, .int 0]))] : va_W) ++ ([(q1, .inl (gI g, 600, .inl (fun _ => 0)))] : va_W) ++ (wX4 g q2 r3 r4 q1 iX4 ++ wX5 g r4 r5 (iX5 x)) ++ ([(q6, gq g 20 (fun _ => none))] : va_W) ++ ([(q7, gq g 2 (fun _ => none))] : va_W))) rfl ?_
  refine z_aload_n (pc := 45) (x := a0) C dX7_init_45 (i := 0) rfl rfl ?_
  refine z_iconst (pc := 46) C dX7_init_46 ic_2 ?_
  refine z_newZ (pc := 47) (N := 2) C dX7_init_47 wac_boolean (by decide) (by decide) (by decide) (by decide) (by decide) (fun q8 => ?_)
  refine z_putf (pc := 49) C I 0 dX7_init_49 fp_RX7_31 (fun _ _ _ h => by cases h; rfl) rfl rfl rfl (zlt_b rfl) (ws' := (([(a0, .inr (7, [.ref q1, .int 0, .ref q2, .null, .ref q6, .int 0, .int 0, .ref q7, .ref q8, .null, .null, .null, .null, .null, .int 0]))] : va_W) ++ ([(q1, .inl (gI g, 600, .inl (fun _ => 0)))] : va_W) ++ (wX4 g q2 r3 r4 q1 iX4 ++ wX5 g r4 r5 (iX5 x)) ++ ([(q6, gq g 20 (fun _ => none))] : va_W) ++ ([(q7, gq g 2 (fun _ => none))] : va_W) ++ ([(q8, .inl (gZ g, 2, .inl (fun _ => 0)))] : va_W))) rfl ?_
  refine z_aload_n (pc := 52) (x := a0) C dX7_init_52 (i := 0) rfl rfl ?_
  refine z_new (pc := 53) C dX7_init_53 (ci := 2) rfl inG2 tyX2_ok wn_RX7_35 (fs := [.null]) (by decide) (by decide) (by decide) (fun q9 => ?_)
  refine z_dup (pc := 56) C dX7_init_56 rfl ?_
  refine z_callIN (pc := 57) (As := []) (rest := [.ref q9, .ref a0]) (wr := (([(a0, .inr (7, [.ref q1, .int 0, .ref q2, .null, .ref q6, .int 0, .int 0, .ref q7, .ref q8, .null, .null, .null, .null, .null, .int 0]))] : va_W) ++ ([(q1, .inl (gI g, 600, .inl (fun _ => 0)))] : va_W) ++ (wX4 g q2 r3 r4 q1 iX4 ++ wX5 g r4 r5 (iX5 x)) ++ ([(q6, gq g 20 (fun _ => none))] : va_W) ++ ([(q7, gq g 2 (fun _ => none))] : va_W) ++ ([(q8, .inl (gZ g, 2, .inl (fun _ => 0)))] : va_W))) C dX7_init_57 mn_RX7_37 wi_X2_init (m_X2_init hg) [10] [0, 1, 2, 3, 4, 5, 6, 7, 8, 9] rfl rfl ⟨by decide, by decide⟩ (Nat.le_of_ble_eq_true rfl) ⟨by decide, by decide⟩ rfl rfl rfl rfl (by decide) (fun rv w' hr => ?_)
  obtain ⟨rfl, r10, rfl⟩ := hr
  refine z_to (ws' := (([(a0, .inr (7, [.ref q1, .int 0, .ref q2, .null, .ref q6, .int 0, .int 0, .ref q7, .ref q8, .null, .null, .null, .null, .null, .int 0]))] : va_W) ++ ([(q1, .inl (gI g, 600, .inl (fun _ => 0)))] : va_W) ++ (wX4 g q2 r3 r4 q1 iX4 ++ wX5 g r4 r5 (iX5 x)) ++ ([(q6, gq g 20 (fun _ => none))] : va_W) ++ ([(q7, gq g 2 (fun _ => none))] : va_W) ++ ([(q8, .inl (gZ g, 2, .inl (fun _ => 0)))] : va_W) ++ (wX2 g q9 r10 z0))) (lv' := [(0, .ref a0)]) (pc' := 60) (st' := [.ref q9, .ref a0]) (z_widen (cs' := 11) (ss' := 734) (by decide) (by decide) ?_) rfl rfl rfl rfl
  refine z_putf (pc := 60) C I 0 dX7_init_60 fp_RX7_38 (fun _ _ _ h => by cases h; rfl) rfl rfl rfl (zlt_b rfl) (ws' := (([(a0, .inr (7, [.ref q1, .int 0, .ref q2, .null, .ref q6, .int 0, .int 0, .ref q7, .ref q8, .null, .ref q9, .null, .null, .null, .int 0]))] : va_W) ++ ([(q1, .inl (gI g, 600, .inl (fun _ => 0)))] : va_W) ++ (wX4 g q2 r3 r4 q1 iX4 ++ wX5 g r4 r5 (iX5 x)) ++ ([(q6, gq g 20 (fun _ => none))] : va_W) ++ ([(q7, gq g 2 (fun _ => none))] : va_W) ++ ([(q8, .inl (gZ g, 2, .inl (fun _ => 0)))] : va_W) ++ (wX2 g q9 r10 z0))) rfl ?_
  refine z_aload_n (pc := 63) (x := a0) C dX7_init_63 (i := 0) rfl rfl ?_
  refine z_new (pc := 64) C dX7_init_64 (ci := 0) rfl inG0 tyX0_ok wn_RX7_42 (fs := [.int 0, .int 0, .int 0, .int 0, .null, .int 0]) (by decide) (by decide) (by decide) (fun q11 => ?_)
  refine z_dup (pc := 67) C dX7_init_67 rfl ?_
  refine z_aload_n (pc := 68) (x := a0) C dX7_init_68 (i := 0) rfl rfl ?_
  refine z_get (pc := 69) (v := .ref q9) C 0 dX7_init_69 fl_RX7_38 rfl rfl ?_
  refine z_callI (pc := 72) (As := [.ref q9]) (rest := [.ref q11, .ref a0]) (wr := (([(a0, .inr (7, [.ref q1, .int 0, .ref q2, .null, .ref q6, .int 0, .int 0, .ref q7, .ref q8, .null, .ref q9, .null, .null, .null, .int 0]))] : va_W) ++ ([(q1, .inl (gI g, 600, .inl (fun _ => 0)))] : va_W) ++ (wX4 g q2 r3 r4 q1 iX4 ++ wX5 g r4 r5 (iX5 x)) ++ ([(q6, gq g 20 (fun _ => none))] : va_W) ++ ([(q7, gq g 2 (fun _ => none))] : va_W) ++ ([(q8, .inl (gZ g, 2, .inl (fun _ => 0)))] : va_W) ++ (wX2 g q9 r10 z0))) C dX7_init_72 ml_RX7_44 wi_X0_init (m_X0_init hg) [12] [0, 1, 2, 3, 4, 5, 6, 7, 8, 9, 10, 11] rfl rfl ⟨by decide, by decide⟩ (Nat.le_of_ble_eq_true rfl) ⟨by decide, by decide⟩ rfl rfl rfl rfl (by decide) (fun rv w' hr => ?_)
  obtain ⟨rfl, r12, rfl⟩ := hr
  refine z_to (ws' := (([(a0, .inr (7, [.ref q1, .int 0, .ref q2, .null, .ref q6, .int 0, .int 0, .ref q7, .ref q8, .null, .ref q9, .null, .null, .null, .int 0]))] : va_W) ++ ([(q1, .inl (gI g, 600, .inl (fun _ => 0)))] : va_W) ++ (wX4 g q2 r3 r4 q1 iX4 ++ wX5 g r4 r5 (iX5 x)) ++ ([(q6, gq g 20 (fun _ => none))] : va_W) ++ ([(q7, gq g 2 (fun _ => none))] : va_W) ++ ([(q8, .inl (gZ g, 2, .inl (fun _ => 0)))] : va_W) ++ (wX2 g q9 r10 z0) ++ (wX0 g q11 r12 q9 z0))) (lv' := [(0, .ref a0)]) (pc' := 75) (st' := [.ref q11, .ref a0]) (z_widen (cs' := 12) (ss' := 740) (by decide) (by decide) ?_) rfl rfl rfl rfl
  refine z_putf (pc := 75) C I 0 dX7_init_75 fp_RX7_47 (fun _ _ _ h => by cases h; rfl) rfl rfl rfl (zlt_b rfl) (ws' := (([(a0, .inr (7, [.ref q1, .int 0, .ref q2, .null, .ref q6, .int 0, .int 0, .ref q7, .ref q8, .null, .ref q9, .ref q11, .null, .null, .int 0]))] : va_W) ++ ([(q1, .inl (gI g, 600, .inl (fun _ => 0)))] : va_W) ++ (wX4 g q2 r3 r4 q1 iX4 ++ wX5 g r4 r5 (iX5 x)) ++ ([(q6, gq g 20 (fun _ => none))] : va_W) ++ ([(q7, gq g 2 (fun _ => none))] : va_W) ++ ([(q8, .inl (gZ g, 2, .inl (fun _ => 0)))] : va_W) ++ (wX2 g q9 r10 z0) ++ (wX0 g q11 r12 q9 z0))) rfl ?_
  refine z_aload_n (pc := 78) (x := a0) C dX7_init_78 (i := 0) rfl rfl ?_
  refine z_new (pc := 79) C dX7_init_79 (ci := 6) rfl inG6 tyX6_ok wn_RX7_51 (fs := [.int 0, .int 0, .int 0, .int 0, .int 0, .null, .null, .null, .null, .null]) (by decide) (by decide) (by decide) (fun q13 => ?_)
  refine z_dup (pc := 82) C dX7_init_82 rfl ?_
  refine z_callI (pc := 83) (As := []) (rest := [.ref q13, .ref a0]) (wr := (([(a0, .inr (7, [.ref q1, .int 0, .ref q2, .null, .ref q6, .int 0, .int 0, .ref q7, .ref q8, .null, .ref q9, .ref q11, .null, .null, .int 0]))] : va_W) ++ ([(q1, .inl (gI g, 600, .inl (fun _ => 0)))] : va_W) ++ (wX4 g q2 r3 r4 q1 iX4 ++ wX5 g r4 r5 (iX5 x)) ++ ([(q6, gq g 20 (fun _ => none))] : va_W) ++ ([(q7, gq g 2 (fun _ => none))] : va_W) ++ ([(q8, .inl (gZ g, 2, .inl (fun _ => 0)))] : va_W) ++ (wX2 g q9 r10 z0) ++ (wX0 g q11 r12 q9 z0))) C dX7_init_83 ml_RX7_53 wi_X6_init (m_X6_init (x := x) hg hx) [13] [0, 1, 2, 3, 4, 5, 6, 7, 8, 9, 10, 11, 12] rfl rfl ⟨by decide, by decide⟩ (Nat.le_of_ble_eq_true rfl) ⟨by decide, by decide⟩ rfl rfl rfl rfl (by decide) (fun rv w' hr => ?_)
  obtain ⟨rfl, r14, r15, r16, r17, r18, rfl⟩ := hr
  refine z_to (ws' := (([(a0, .inr (7, [.ref q1, .int 0, .ref q2, .null, .ref q6, .int 0, .int 0, .ref q7, .ref q8, .null, .ref q9, .ref q11, .null, .null, .int 0]))] : va_W) ++ ([(q1, .inl (gI g, 600, .inl (fun _ => 0)))] : va_W) ++ (wX4 g q2 r3 r4 q1 iX4 ++ wX5 g r4 r5 (iX5 x)) ++ ([(q6, gq g 20 (fun _ => none))] : va_W) ++ ([(q7, gq g 2 (fun _ => none))] : va_W) ++ ([(q8, .inl (gZ g, 2, .inl (fun _ => 0)))] : va_W) ++ (wX2 g q9 r10 z0) ++ (wX0 g q11 r12 q9 z0) ++ (wX6 g q13 r14 z0 ++ wX5 g r15 r16 (iX5 x) ++ wX3 g (r14 8) r17 r15 z0 ++ wX3 g (r14 9) r18 r15 z0))) (lv' := [(0, .ref a0)]) (pc' := 86) (st' := [.ref q13, .ref a0]) (z_widen (cs' := 26) (ss' := 29052) (by decide) (by decide) ?_) rfl rfl rfl rfl
  refine z_putf (pc := 86) C I 0 dX7_init_86 fp_RX7_54 (fun _ _ _ h => by cases h; rfl) rfl rfl rfl (zlt_b rfl) (ws' := (([(a0, .inr (7, [.ref q1, .int 0, .ref q2, .null, .ref q6, .int 0, .int 0, .ref q7, .ref q8, .null, .ref q9, .ref q11, .ref q13, .null, .int 0]))] : va_W) ++ ([(q1, .inl (gI g, 600, .inl (fun _ => 0)))] : va_W) ++ (wX4 g q2 r3 r4 q1 iX4 ++ wX5 g r4 r5 (iX5 x)) ++ ([(q6, gq g 20 (fun _ => none))] : va_W) ++ ([(q7, gq g 2 (fun _ => none))] : va_W) ++ ([(q8, .inl (gZ g, 2, .inl (fun _ => 0)))] : va_W) ++ (wX2 g q9 r10 z0) ++ (wX0 g q11 r12 q9 z0) ++ (wX6 g q13 r14 z0 ++ wX5 g r15 r16 (iX5 x) ++ wX3 g (r14 8) r17 r15 z0 ++ wX3 g (r14 9) r18 r15 z0))) rfl ?_
  refine z_aload_n (pc := 89) (x := a0) C dX7_init_89 (i := 0) rfl rfl ?_
  refine z_bipush (pc := 90) C dX7_init_90 bp_15 ?_
  refine z_newI (pc := 92) (N := 15) C dX7_init_92 wac_int (by decide) (by decide) (by decide) (by decide) (by decide) (fun q19 => ?_)
  refine z_putf (pc := 94) C I 0 dX7_init_94 fp_RX7_58 (fun _ _ _ h => by cases h; rfl) rfl rfl rfl (zlt_b rfl) (ws' := (([(a0, .inr (7, [.ref q1, .int 0, .ref q2, .null, .ref q6, .int 0, .int 0, .ref q7, .ref q8, .null, .ref q9, .ref q11, .ref q13, .ref q19, .int 0]))] : va_W) ++ ([(q1, .inl (gI g, 600, .inl (fun _ => 0)))] : va_W) ++ (wX4 g q2 r3 r4 q1 iX4 ++ wX5 g r4 r5 (iX5 x)) ++ ([(q6, gq g 20 (fun _ => none))] : va_W) ++ ([(q7, gq g 2 (fun _ => none))] : va_W) ++ ([(q8, .inl (gZ g, 2, .inl (fun _ => 0)))] : va_W) ++ (wX2 g q9 r10 z0) ++ (wX0 g q11 r12 q9 z0) ++ (wX6 g q13 r14 z0 ++ wX5 g r15 r16 (iX5 x) ++ wX3 g (r14 8) r17 r15 z0 ++ wX3 g (r14 9) r18 r15 z0) ++ ([(q19, .inl (gI g, 15, .inl (fun _ => 0)))] : va_W))) rfl ?_
  refine z_new (pc := 97) C dX7_init_97 (ci := 5) rfl inG5 tyX5_ok wn_RX7_61 (fs := [.int 0, .int 0, .int 0, .int 0, .int 0, .int 0, .int 0, .int 0, .null, .null, .null]) (by decide) (by decide) (by decide) (fun q20 => ?_)
  refine z_dup (pc := 100) C dX7_init_100 rfl ?_
  refine z_callI (pc := 101) (As := []) (rest := [.ref q20]) (wr := (([(a0, .inr (7, [.ref q1, .int 0, .ref q2, .null, .ref q6, .int 0, .int 0, .ref q7, .ref q8, .null, .ref q9, .ref q11, .ref q13, .ref q19, .int 0]))] : va_W) ++ ([(q1, .inl (gI g, 600, .inl (fun _ => 0)))] : va_W) ++ (wX4 g q2 r3 r4 q1 iX4 ++ wX5 g r4 r5 (iX5 x)) ++ ([(q6, gq g 20 (fun _ => none))] : va_W) ++ ([(q7, gq g 2 (fun _ => none))] : va_W) ++ ([(q8, .inl (gZ g, 2, .inl (fun _ => 0)))] : va_W) ++ (wX2 g q9 r10 z0) ++ (wX0 g q11 r12 q9 z0) ++ (wX6 g q13 r14 z0 ++ wX5 g r15 r16 (iX5 x) ++ wX3 g (r14 8) r17 r15 z0 ++ wX3 g (r14 9) r18 r15 z0) ++ ([(q19, .inl (gI g, 15, .inl (fun _ => 0)))] : va_W))) C dX7_init_101 ml_RX7_63 wi_X5_init (m_X5_init (x := x) hg hx) [28] [0, 1, 2, 3, 4, 5, 6, 7, 8, 9, 10, 11, 12, 13, 14, 15, 16, 17, 18, 19, 20, 21, 22, 23, 24, 25, 26, 27] rfl rfl ⟨by decide, by decide⟩ (Nat.le_of_ble_eq_true rfl) ⟨by decide, by decide⟩ rfl rfl rfl rfl (by decide) (fun rv w' hr => ?_)
  obtain ⟨rfl, r21, rfl⟩ := hr
  refine z_to (ws' := (([(a0, .inr (7, [.ref q1, .int 0, .ref q2, .null, .ref q6, .int 0, .int 0, .ref q7, .ref q8, .null, .ref q9, .ref q11, .ref q13, .ref q19, .int 0]))] : va_W) ++ ([(q1, .inl (gI g, 600, .inl (fun _ => 0)))] : va_W) ++ (wX4 g q2 r3 r4 q1 iX4 ++ wX5 g r4 r5 (iX5 x)) ++ ([(q6, gq g 20 (fun _ => none))] : va_W) ++ ([(q7, gq g 2 (fun _ => none))] : va_W) ++ ([(q8, .inl (gZ g, 2, .inl (fun _ => 0)))] : va_W) ++ (wX2 g q9 r10 z0) ++ (wX0 g q11 r12 q9 z0) ++ (wX6 g q13 r14 z0 ++ wX5 g r15 r16 (iX5 x) ++ wX3 g (r14 8) r17 r15 z0 ++ wX3 g (r14 9) r18 r15 z0) ++ ([(q19, .inl (gI g, 15, .inl (fun _ => 0)))] : va_W) ++ (wX5 g q20 r21 (iX5 x)))) (lv' := [(0, .ref a0)]) (pc' := 104) (st' := [.ref q20]) (z_widen (cs' := 31) (ss' := 29147) (by decide) (by decide) ?_) rfl rfl rfl rfl
  refine z_astore_n (pc := 104) C dX7_init_104 (i := 1) rfl (by decide) (lv' := [(1, .ref q20), (0, .ref a0)]) rfl ?_
  refine z_aload_n (pc := 105) (x := a0) C dX7_init_105 (i := 0) rfl rfl ?_
  refine z_new (pc := 106) C dX7_init_106 (ci := 1) rfl inG1 tyX1_ok wn_RX7_22 (fs := [.null, .int 0, .int 0, .int 0, .int 0, .int 0, .int 0, .null, .long 0, .null, .null, .null, .null, .null, .null, .null]) (by decide) (by decide) (by decide) (fun q22 => ?_)
  refine z_dup (pc := 109) C dX7_init_109 rfl ?_
  refine z_aload_n (pc := 110) (x := q20) C dX7_init_110 (i := 1) rfl rfl ?_
  refine z_callI (pc := 111) (As := [.ref q20]) (rest := [.ref q22, .ref a0]) (wr := (([(a0, .inr (7, [.ref q1, .int 0, .ref q2, .null, .ref q6, .int 0, .int 0, .ref q7, .ref q8, .null, .ref q9, .ref q11, .ref q13, .ref q19, .int 0]))] : va_W) ++ ([(q1, .inl (gI g, 600, .inl (fun _ => 0)))] : va_W) ++ (wX4 g q2 r3 r4 q1 iX4 ++ wX5 g r4 r5 (iX5 x)) ++ ([(q6, gq g 20 (fun _ => none))] : va_W) ++ ([(q7, gq g 2 (fun _ => none))] : va_W) ++ ([(q8, .inl (gZ g, 2, .inl (fun _ => 0)))] : va_W) ++ (wX2 g q9 r10 z0) ++ (wX0 g q11 r12 q9 z0) ++ (wX6 g q13 r14 z0 ++ wX5 g r15 r16 (iX5 x) ++ wX3 g (r14 8) r17 r15 z0 ++ wX3 g (r14 9) r18 r15 z0) ++ ([(q19, .inl (gI g, 15, .inl (fun _ => 0)))] : va_W) ++ (wX5 g q20 r21 (iX5 x)))) C dX7_init_111 ml_RX7_64 wi_X1_init (m_X1_init hg) [32] [0, 1, 2, 3, 4, 5, 6, 7, 8, 9, 10, 11, 12, 13, 14, 15, 16, 17, 18, 19, 20, 21, 22, 23, 24, 25, 26, 27, 28, 29, 30, 31] rfl rfl ⟨by decide, by decide⟩ (Nat.le_of_ble_eq_true rfl) ⟨by decide, by decide⟩ rfl rfl rfl rfl (by decide) (fun rv w' hr => ?_)
  obtain ⟨rfl, r23, rfl⟩ := hr
  refine z_to (ws' := (([(a0, .inr (7, [.ref q1, .int 0, .ref q2, .null, .ref q6, .int 0, .int 0, .ref q7, .ref q8, .null, .ref q9, .ref q11, .ref q13, .ref q19, .int 0]))] : va_W) ++ ([(q1, .inl (gI g, 600, .inl (fun _ => 0)))] : va_W) ++ (wX4 g q2 r3 r4 q1 iX4 ++ wX5 g r4 r5 (iX5 x)) ++ ([(q6, gq g 20 (fun _ => none))] : va_W) ++ ([(q7, gq g 2 (fun _ => none))] : va_W) ++ ([(q8, .inl (gZ g, 2, .inl (fun _ => 0)))] : va_W) ++ (wX2 g q9 r10 z0) ++ (wX0 g q11 r12 q9 z0) ++ (wX6 g q13 r14 z0 ++ wX5 g r15 r16 (iX5 x) ++ wX3 g (r14 8) r17 r15 z0 ++ wX3 g (r14 9) r18 r15 z0) ++ ([(q19, .inl (gI g, 15, .inl (fun _ => 0)))] : va_W) ++ (wX5 g q20 r21 (iX5 x)) ++ (wX1 g q22 r23 q20 z0))) (lv' := [(1, .ref q20), (0, .ref a0)]) (pc' := 114) (st' := [.ref q22, .ref a0]) (z_widen (cs' := 40) (ss' := 29387) (by decide) (by decide) ?_) rfl rfl rfl rfl
  refine z_putf (pc := 114) C I 0 dX7_init_114 fp_RX7_67 (fun _ _ _ h => by cases h; rfl) rfl rfl rfl (zlt_b rfl) (ws' := (([(a0, .inr (7, [.ref q1, .int 0, .ref q2, .ref q22, .ref q6, .int 0, .int 0, .ref q7, .ref q8, .null, .ref q9, .ref q11, .ref q13, .ref q19, .int 0]))] : va_W) ++ ([(q1, .inl (gI g, 600, .inl (fun _ => 0)))] : va_W) ++ (wX4 g q2 r3 r4 q1 iX4 ++ wX5 g r4 r5 (iX5 x)) ++ ([(q6, gq g 20 (fun _ => none))] : va_W) ++ ([(q7, gq g 2 (fun _ => none))] : va_W) ++ ([(q8, .inl (gZ g, 2, .inl (fun _ => 0)))] : va_W) ++ (wX2 g q9 r10 z0) ++ (wX0 g q11 r12 q9 z0) ++ (wX6 g q13 r14 z0 ++ wX5 g r15 r16 (iX5 x) ++ wX3 g (r14 8) r17 r15 z0 ++ wX3 g (r14 9) r18 r15 z0) ++ ([(q19, .inl (gI g, 15, .inl (fun _ => 0)))] : va_W) ++ (wX5 g q20 r21 (iX5 x)) ++ (wX1 g q22 r23 q20 z0))) rfl ?_
  refine z_aload_n (pc := 117) (x := a0) C dX7_init_117 (i := 0) rfl rfl ?_
  refine z_new (pc := 118) C dX7_init_118 (ci := 1) rfl inG1 tyX1_ok wn_RX7_22 (fs := [.null, .int 0, .int 0, .int 0, .int 0, .int 0, .int 0, .null, .long 0, .null, .null, .null, .null, .null, .null, .null]) (by decide) (by decide) (by decide) (fun q24 => ?_)
  refine z_dup (pc := 121) C dX7_init_121 rfl ?_
  refine z_aload_n (pc := 122) (x := q20) C dX7_init_122 (i := 1) rfl rfl ?_
  refine z_callI (pc := 123) (As := [.ref q20]) (rest := [.ref q24, .ref a0]) (wr := (([(a0, .inr (7, [.ref q1, .int 0, .ref q2, .ref q22, .ref q6, .int 0, .int 0, .ref q7, .ref q8, .null, .ref q9, .ref q11, .ref q13, .ref q19, .int 0]))] : va_W) ++ ([(q1, .inl (gI g, 600, .inl (fun _ => 0)))] : va_W) ++ (wX4 g q2 r3 r4 q1 iX4 ++ wX5 g r4 r5 (iX5 x)) ++ ([(q6, gq g 20 (fun _ => none))] : va_W) ++ ([(q7, gq g 2 (fun _ => none))] : va_W) ++ ([(q8, .inl (gZ g, 2, .inl (fun _ => 0)))] : va_W) ++ (wX2 g q9 r10 z0) ++ (wX0 g q11 r12 q9 z0) ++ (wX6 g q13 r14 z0 ++ wX5 g r15 r16 (iX5 x) ++ wX3 g (r14 8) r17 r15 z0 ++ wX3 g (r14 9) r18 r15 z0) ++ ([(q19, .inl (gI g, 15, .inl (fun _ => 0)))] : va_W) ++ (wX5 g q20 r21 (iX5 x)) ++ (wX1 g q22 r23 q20 z0))) C dX7_init_123 ml_RX7_64 wi_X1_init (m_X1_init hg) [41] [0, 1, 2, 3, 4, 5, 6, 7, 8, 9, 10, 11, 12, 13, 14, 15, 16, 17, 18, 19, 20, 21, 22, 23, 24, 25, 26, 27, 28, 29, 30, 31, 32, 33, 34, 35, 36, 37, 38, 39, 40] rfl rfl ⟨by decide, by decide⟩ (Nat.le_of_ble_eq_true rfl) ⟨by decide, by decide⟩ rfl rfl rfl rfl (by decide) (fun rv w' hr => ?_)
  obtain ⟨rfl, r25, rfl⟩ := hr
  refine z_to (ws' := (([(a0, .inr (7, [.ref q1, .int 0, .ref q2, .ref q22, .ref q6, .int 0, .int 0, .ref q7, .ref q8, .null, .ref q9, .ref q11, .ref q13, .ref q19, .int 0]))] : va_W) ++ ([(q1, .inl (gI g, 600, .inl (fun _ => 0)))] : va_W) ++ (wX4 g q2 r3 r4 q1 iX4 ++ wX5 g r4 r5 (iX5 x)) ++ ([(q6, gq g 20 (fun _ => none))] : va_W) ++ ([(q7, gq g 2 (fun _ => none))] : va_W) ++ ([(q8, .inl (gZ g, 2, .inl (fun _ => 0)))] : va_W) ++ (wX2 g q9 r10 z0) ++ (wX0 g q11 r12 q9 z0) ++ (wX6 g q13 r14 z0 ++ wX5 g r15 r16 (iX5 x) ++ wX3 g (r14 8) r17 r15 z0 ++ wX3 g (r14 9) r18 r15 z0) ++ ([(q19, .inl (gI g, 15, .inl (fun _ => 0)))] : va_W) ++ (wX5 g q20 r21 (iX5 x)) ++ (wX1 g q22 r23 q20 z0) ++ (wX1 g q24 r25 q20 z0))) (lv' := [(1, .ref q20), (0, .ref a0)]) (pc' := 126) (st' := [.ref q24, .ref a0]) (z_widen (cs' := 49) (ss' := 29627) (by decide) (by decide) ?_) rfl rfl rfl rfl
  refine z_putf (pc := 126) C I 0 dX7_init_126 fp_RX7_71 (fun _ _ _ h => by cases h; rfl) rfl rfl rfl (zlt_b rfl) (ws' := (([(a0, .inr (7, [.ref q1, .int 0, .ref q2, .ref q22, .ref q6, .int 0, .int 0, .ref q7, .ref q8, .ref q24, .ref q9, .ref q11, .ref q13, .ref q19, .int 0]))] : va_W) ++ ([(q1, .inl (gI g, 600, .inl (fun _ => 0)))] : va_W) ++ (wX4 g q2 r3 r4 q1 iX4 ++ wX5 g r4 r5 (iX5 x)) ++ ([(q6, gq g 20 (fun _ => none))] : va_W) ++ ([(q7, gq g 2 (fun _ => none))] : va_W) ++ ([(q8, .inl (gZ g, 2, .inl (fun _ => 0)))] : va_W) ++ (wX2 g q9 r10 z0) ++ (wX0 g q11 r12 q9 z0) ++ (wX6 g q13 r14 z0 ++ wX5 g r15 r16 (iX5 x) ++ wX3 g (r14 8) r17 r15 z0 ++ wX3 g (r14 9) r18 r15 z0) ++ ([(q19, .inl (gI g, 15, .inl (fun _ => 0)))] : va_W) ++ (wX5 g q20 r21 (iX5 x)) ++ (wX1 g q22 r23 q20 z0) ++ (wX1 g q24 r25 q20 z0))) rfl ?_
  refine z_iconst (pc := 129) C dX7_init_129 ic_0 ?_
  refine z_istore_n (pc := 130) C dX7_init_130 (i := 2) rfl (by decide) (lv' := [(2, .int (0 : Int32)), (1, .ref q20), (0, .ref a0)]) rfl ?_
  refine z_lv (lv' := [(0, .ref a0), (1, .ref q20), (2, .int (Int32.ofNat 0))]) [2, 1, 0] rfl ?_
  refine z_sub (ws' := (a0, .inr (7, [.ref q1, .int 0, .ref q2, .ref q22, .ref q6, .int 0, .int 0, .ref q7, .ref q8, .ref q24, .ref q9, .ref q11, .ref q13, .ref q19, .int 0])) :: (q6, gq g 20 (fun _ => none)) :: (gfam g 0 (fun _ => 0) (fun _ _ => 0) (fun _ => (q20, z0)) ++ ((q7, gq g 2 (fun _ => none)) :: (([(q1, .inl (gI g, 600, .inl (fun _ => 0)))] : va_W) ++ ([(q8, .inl (gZ g, 2, .inl (fun _ => 0)))] : va_W) ++ ([(q19, .inl (gI g, 15, .inl (fun _ => 0)))] : va_W) ++ (wX1 g q22 r23 q20 z0) ++ (wX1 g q24 r25 q20 z0) ++ (wX5 g q20 r21 (iX5 x)) ++ (wX4 g q2 r3 r4 q1 iX4 ++ wX5 g r4 r5 (iX5 x)) ++ (wX2 g q9 r10 z0) ++ (wX0 g q11 r12 q9 z0) ++ (wX6 g q13 r14 z0 ++ wX5 g r15 r16 (iX5 x) ++ wX3 g (r14 8) r17 r15 z0 ++ wX3 g (r14 9) r18 r15 z0))))) C [0, 7, 8, 1, 9, 27, 32, 33, 34, 35, 36, 37, 38, 39, 40, 41, 42, 43, 44, 45, 46, 47, 48, 49, 28, 29, 30, 31, 2, 3, 4, 5, 6, 10, 11, 12, 13, 14, 15, 16, 17, 18, 19, 20, 21, 22, 23, 24, 25, 26] rfl rfl ?_
  rw [← fk_0 (fun _ => 0)]
  refine z_widen (cs' := 49 + 9 * 0) (ss' := 29627 + 240 * 0) (by decide) (by decide) ?_
  refine x7_past hg C rfl 49 29627 (by decide) (by decide) (fun pa pr => ?_) 20 0 (fun _ => 0) (fun _ _ => 0) rfl
  refine z_iconst (pc := 157) C dX7_init_157 ic_0 ?_
  refine z_istore_n (pc := 158) C dX7_init_158 (i := 2) rfl (by decide) (lv' := [(2, .int (0 : Int32)), (0, .ref a0), (1, .ref q20)]) rfl ?_
  refine z_lv (lv' := [(0, .ref a0), (1, .ref q20), (2, .int (Int32.ofNat 0))]) [1, 2, 0] rfl ?_
  refine z_perm (ws' := (a0, .inr (7, [.ref q1, .int 0, .ref q2, .ref q22, .ref q6, .int 0, .int 0, .ref q7, .ref q8, .ref q24, .ref q9, .ref q11, .ref q13, .ref q19, .int 0])) :: (q7, gq g 2 (fk 0 (fun _ => 0))) :: (gfam g 0 (fun _ => 0) (fun _ _ => 0) (fun _ => (q20, z0)) ++ ((q6, gq g 20 (fk 20 pa)) :: (gfam g 20 pa pr (fun _ => (q20, z0)) ++ (([(q1, .inl (gI g, 600, .inl (fun _ => 0)))] : va_W) ++ ([(q8, .inl (gZ g, 2, .inl (fun _ => 0)))] : va_W) ++ ([(q19, .inl (gI g, 15, .inl (fun _ => 0)))] : va_W) ++ (wX1 g q22 r23 q20 z0) ++ (wX1 g q24 r25 q20 z0) ++ (wX5 g q20 r21 (iX5 x)) ++ (wX4 g q2 r3 r4 q1 iX4 ++ wX5 g r4 r5 (iX5 x)) ++ (wX2 g q9 r10 z0) ++ (wX0 g q11 r12 q9 z0) ++ (wX6 g q13 r14 z0 ++ wX5 g r15 r16 (iX5 x) ++ wX3 g (r14 8) r17 r15 z0 ++ wX3 g (r14 9) r18 r15 z0)))))) ?_ ?_
  · refine List.Perm.cons _ ?_
    exact (List.Perm.swap _ _ _).trans (List.Perm.cons _ List.perm_middle.symm)
  refine z_widen (cs' := 229 + 9 * 0) (ss' := 34427 + 240 * 0) (by decide) (by decide) ?_
  refine x7_saved hg C rfl 229 34427 (by decide) (by decide) (fun sa sr => ?_) 2 0 (fun _ => 0) (fun _ _ => 0) rfl
  refine z_perm (ws' := ((a0, .inr (7, [.ref q1, .int 0, .ref q2, .ref q22, .ref q6, .int 0, .int 0, .ref q7, .ref q8, .ref q24, .ref q9, .ref q11, .ref q13, .ref q19, .int 0])) :: ((([(q1, .inl (gI g, 600, .inl (fun _ => 0)))] : va_W) ++ ([(q8, .inl (gZ g, 2, .inl (fun _ => 0)))] : va_W) ++ ([(q19, .inl (gI g, 15, .inl (fun _ => 0)))] : va_W) ++ (wX1 g q22 r23 q20 z0) ++ (wX1 g q24 r25 q20 z0) ++ (wX5 g q20 r21 (iX5 x)) ++ (wX4 g q2 r3 r4 q1 iX4 ++ wX5 g r4 r5 (iX5 x)) ++ (wX2 g q9 r10 z0) ++ (wX0 g q11 r12 q9 z0) ++ (wX6 g q13 r14 z0 ++ wX5 g r15 r16 (iX5 x) ++ wX3 g (r14 8) r17 r15 z0 ++ wX3 g (r14 9) r18 r15 z0)) ++ ((q6, gq g 20 (fk 20 pa)) :: gfam g 20 pa pr (fun _ => (q20, z0))) ++ ((q7, gq g 2 (fk 2 sa)) :: gfam g 2 sa sr (fun _ => (q20, z0)))))) ?_ ?_
  · refine List.Perm.cons _ ?_
    refine List.Perm.trans ?_ (show ((q7, gq g 2 (fk 2 sa)) :: gfam g 2 sa sr (fun _ => (q20, z0)) ++ (((q6, gq g 20 (fk 20 pa)) :: gfam g 20 pa pr (fun _ => (q20, z0))) ++ (([(q1, .inl (gI g, 600, .inl (fun _ => 0)))] : va_W) ++ ([(q8, .inl (gZ g, 2, .inl (fun _ => 0)))] : va_W) ++ ([(q19, .inl (gI g, 15, .inl (fun _ => 0)))] : va_W) ++ (wX1 g q22 r23 q20 z0) ++ (wX1 g q24 r25 q20 z0) ++ (wX5 g q20 r21 (iX5 x)) ++ (wX4 g q2 r3 r4 q1 iX4 ++ wX5 g r4 r5 (iX5 x)) ++ (wX2 g q9 r10 z0) ++ (wX0 g q11 r12 q9 z0) ++ (wX6 g q13 r14 z0 ++ wX5 g r15 r16 (iX5 x) ++ wX3 g (r14 8) r17 r15 z0 ++ wX3 g (r14 9) r18 r15 z0)))).Perm _ from List.Perm.refl _)
    exact List.perm_append_comm.trans (List.Perm.append_left _ List.perm_append_comm)
  exact z_vret C X dX7_init_184 ⟨rfl, (fun k => if k = 0 then q1 else if k = 2 then q2 else if k = 3 then q22 else if k = 4 then q6 else if k = 7 then q7 else if k = 8 then q8 else if k = 9 then q24 else if k = 10 then q9 else if k = 11 then q11 else if k = 12 then q13 else if k = 13 then q19 else 0), r23, r25, r21, q20, r3, r4, r5, r10, r12, r14, r15, r16, r17, r18, fk 20 pa, pa, pr, fk 2 sa, sa, sr, fk_at 20 pa, fk_at 2 sa, rfl⟩ (by decide) (by decide)
