/-! OWN, written by wip/whole/tools/mkall.py: walks over strings, and of methods that throw -/
def F_X8_load_292 (N : Nat) (k280 : Int32 → Ob → Option (Int32 × Ob)) (k292 : Int32 → Int32 → Ob → Option (Int32 × Ob)) (v1 : Int32) (v2 : Int32) (s0 : Ob) : Option (Int32 × Ob) := (if ((s0.2.2.1 0) 3) ≤ v2 then (k280 (v1 + (1 : Int32)) s0) else (ob (f_X8_draws N s0 v1) fun x14 => (k292 v1 (v2 + (1 : Int32)) x14)))
def f_X8_load_292 (N : Nat) (k280 : Int32 → Ob → Option (Int32 × Ob)) : Nat → Int32 → Int32 → Ob → Option (Int32 × Ob) := zlp (fun _ _ _ => none) (F_X8_load_292 N k280)
theorem m_X8_load_292 {K : Kt} {g : Gp} {a0 : Nat} {r0 : Nat → Nat} {N : Nat} {res : Int32 × Ob} (hg : Ok g) (C : Cx K g cX8_load RX8 3 (zrm 6 128)) (X : Rx K (exR (some (.int res.1)) (wX8 g a0 r0 res.2)) 0 0 (some .int)) {k280 : Int32 → Ob → Option (Int32 × Ob)} (hk280 : ∀ (v1 : Int32) (s0 : Ob), k280 v1 s0 = some res → Zs K 0 0 (wX8 g a0 r0 s0) [(0, .ref a0), (1, .int v1)] 280 []) : ∀ (n : Nat) (v1 : Int32) (v2 : Int32) (s0 : Ob), f_X8_load_292 N k280 n v1 v2 s0 = some res → Zs K 0 0 (wX8 g a0 r0 s0) [(0, .ref a0), (1, .int v1), (2, .int v2)] 292 [] := by
  intro n
  induction n with
  | zero => intro v1 v2 s0 h; exact nomatch (show (none : Option (Int32 × Ob)) = some res from h)
  | succ n hk292 =>
    intro v1 v2 s0 h
    replace h : F_X8_load_292 N k280 (f_X8_load_292 N k280 n) v1 v2 s0 = some res := h
    unfold F_X8_load_292 at h
    refine z_iload_n (pc := 292) (x := v2) C dX8_load_292 (i := 2) rfl rfl ?_
    refine z_aload_n (pc := 293) (x := a0) C dX8_load_293 (i := 0) rfl rfl ?_
    refine z_get (pc := 294) (v := .ref (r0 0)) C 0 dX8_load_294 fl_RX8_9 rfl rfl ?_
    refine z_iconst (pc := 297) C dX8_load_297 ic_3 ?_
    refine z_iald (pc := 298) C 1 dX8_load_298 rfl (by decide) ?_
    refine z_top1 (v := ((s0.2.2.1 0) 3)) rfl ?_
    refine z_icmp_ge (pc := 299) C dX8_load_299 (tgt := 313) (by decide) (fun hc => ?_) (fun hc => ?_)
    · replace h := (ite_e h).1 hc
      refine z_iinc (pc := 313) C dX8_load_313 rfl (inc_e 1 (1 : Int32) ic_1 v1) (by decide) (lv' := [(1, .int (v1 + (1 : Int32))), (0, .ref a0), (2, .int v2)]) rfl ?_
      refine z_goto (pc := 316) C dX8_load_316 (tgt := 280) (by decide) ?_
      refine z_lv (lv' := [(0, .ref a0), (1, .int (v1 + (1 : Int32)))]) [1, 0] rfl ?_
      exact hk280 (v1 + (1 : Int32)) s0 h
    · replace h := (ite_e h).2 hc
      refine z_aload_n (pc := 302) (x := a0) C dX8_load_302 (i := 0) rfl rfl ?_
      refine z_iload_n (pc := 303) (x := v1) C dX8_load_303 (i := 1) rfl rfl ?_
      replace h := ob_e h
      obtain ⟨x14, hx14, h⟩ := h
      refine z_callV (pc := 304) (As := [.int v1]) (rest := []) (wr := ([] : va_W)) C dX8_load_304 ml_RX8_203 wv_X8_draws (m_X8_draws (a0 := a0) (r0 := r0) hg hx14) [0, 1, 2, 3, 4, 5, 6, 7, 8, 9, 10, 11, 12, 13, 14] [] rfl rfl ⟨by decide, by decide⟩ (Nat.le_of_ble_eq_true rfl) ⟨by decide, by decide⟩ rfl rfl rfl rfl rfl rfl rfl (by decide) (ex_k C (cs' := 0) (ss' := 0) (wF := (wX8 g a0 r0 x14)) [0, 1, 2, 3, 4, 5, 6, 7, 8, 9, 10, 11, 12, 13, 14] rfl rfl ?_)
      refine z_iinc (pc := 307) C dX8_load_307 rfl (inc_e 1 (1 : Int32) ic_1 v2) (by decide) (lv' := [(2, .int (v2 + (1 : Int32))), (0, .ref a0), (1, .int v1)]) rfl ?_
      refine z_goto (pc := 310) C dX8_load_310 (tgt := 292) (by decide) ?_
      refine z_lv (lv' := [(0, .ref a0), (1, .int v1), (2, .int (v2 + (1 : Int32)))]) [1, 2, 0] rfl ?_
      exact hk292 v1 (v2 + (1 : Int32)) x14 h
def F_X8_load_280 (N : Nat)  (k280 : Int32 → Ob → Option (Int32 × Ob)) (v1 : Int32) (s0 : Ob) : Option (Int32 × Ob) := (if ((s0.2.2.1 0) 2) ≤ v1 then (if ((s0.2.2.1 0) 5) = ((s0.2.2.1 0) 4) then (some (((upd (s0.2.2.1 0) 9 ((s0.2.2.1 0) 2)) 4), (sa s0 0 (upd (s0.2.2.1 0) 9 ((s0.2.2.1 0) 2))))) else (some (((s0.2.2.1 0) 4), s0))) else (f_X8_load_292 N k280 N v1 (0 : Int32) s0))
def f_X8_load_280 (N : Nat)  : Nat → Int32 → Ob → Option (Int32 × Ob) := zlp (fun _ _ => none) (F_X8_load_280 N)
theorem m_X8_load_280 {K : Kt} {g : Gp} {a0 : Nat} {r0 : Nat → Nat} {N : Nat} {res : Int32 × Ob} (hg : Ok g) (C : Cx K g cX8_load RX8 3 (zrm 6 128)) (X : Rx K (exR (some (.int res.1)) (wX8 g a0 r0 res.2)) 0 0 (some .int)) : ∀ (n : Nat) (v1 : Int32) (s0 : Ob), f_X8_load_280 N n v1 s0 = some res → Zs K 0 0 (wX8 g a0 r0 s0) [(0, .ref a0), (1, .int v1)] 280 [] := by
  intro n
  induction n with
  | zero => intro v1 s0 h; exact nomatch (show (none : Option (Int32 × Ob)) = some res from h)
  | succ n hk280 =>
    intro v1 s0 h
    replace h : F_X8_load_280 N (f_X8_load_280 N n) v1 s0 = some res := h
    unfold F_X8_load_280 at h
    refine z_iload_n (pc := 280) (x := v1) C dX8_load_280 (i := 1) rfl rfl ?_
    refine z_aload_n (pc := 281) (x := a0) C dX8_load_281 (i := 0) rfl rfl ?_
    refine z_get (pc := 282) (v := .ref (r0 0)) C 0 dX8_load_282 fl_RX8_9 rfl rfl ?_
    refine z_iconst (pc := 285) C dX8_load_285 ic_2 ?_
    refine z_iald (pc := 286) C 1 dX8_load_286 rfl (by decide) ?_
    refine z_top1 (v := ((s0.2.2.1 0) 2)) rfl ?_
    refine z_icmp_ge (pc := 287) C dX8_load_287 (tgt := 319) (by decide) (fun hc => ?_) (fun hc => ?_)
    · replace h := (ite_e h).1 hc
      refine z_aload_n (pc := 319) (x := a0) C dX8_load_319 (i := 0) rfl rfl ?_
      refine z_get (pc := 320) (v := .ref (r0 0)) C 0 dX8_load_320 fl_RX8_9 rfl rfl ?_
      refine z_iconst (pc := 323) C dX8_load_323 ic_5 ?_
      refine z_iald (pc := 324) C 1 dX8_load_324 rfl (by decide) ?_
      refine z_top1 (v := ((s0.2.2.1 0) 5)) rfl ?_
      refine z_aload_n (pc := 325) (x := a0) C dX8_load_325 (i := 0) rfl rfl ?_
      refine z_get (pc := 326) (v := .ref (r0 0)) C 0 dX8_load_326 fl_RX8_9 rfl rfl ?_
      refine z_iconst (pc := 329) C dX8_load_329 ic_4 ?_
      refine z_iald (pc := 330) C 1 dX8_load_330 rfl (by decide) ?_
      refine z_top1 (v := ((s0.2.2.1 0) 4)) rfl ?_
      refine z_icmp_ne (pc := 331) C dX8_load_331 (tgt := 347) (by decide) (fun hc => ?_) (fun hc => ?_)
      · replace h := (ite_e h).2 hc
        refine z_aload_n (pc := 347) (x := a0) C dX8_load_347 (i := 0) rfl rfl ?_
        refine z_get (pc := 348) (v := .ref (r0 0)) C 0 dX8_load_348 fl_RX8_9 rfl rfl ?_
        refine z_iconst (pc := 351) C dX8_load_351 ic_4 ?_
        refine z_iald (pc := 352) C 1 dX8_load_352 rfl (by decide) ?_
        refine z_top1 (v := ((s0.2.2.1 0) 4)) rfl ?_
        exact z_iret C X dX8_load_353 (by rw [← Option.some.inj h]; exact ⟨rfl, rfl⟩) (by decide) (by decide)
      · replace h := (ite_e h).1 hc
        refine z_aload_n (pc := 334) (x := a0) C dX8_load_334 (i := 0) rfl rfl ?_
        refine z_get (pc := 335) (v := .ref (r0 0)) C 0 dX8_load_335 fl_RX8_9 rfl rfl ?_
        refine z_bipush (pc := 338) C dX8_load_338 bp_9 ?_
        refine z_aload_n (pc := 340) (x := a0) C dX8_load_340 (i := 0) rfl rfl ?_
        refine z_get (pc := 341) (v := .ref (r0 0)) C 0 dX8_load_341 fl_RX8_9 rfl rfl ?_
        refine z_iconst (pc := 344) C dX8_load_344 ic_2 ?_
        refine z_iald (pc := 345) C 1 dX8_load_345 rfl (by decide) ?_
        refine z_top1 (v := ((s0.2.2.1 0) 2)) rfl ?_
        refine z_iast (pc := 346) C 1 dX8_load_346 rfl (by decide) (ws' := (wX8 g a0 r0 (sa s0 0 (upd (s0.2.2.1 0) 9 ((s0.2.2.1 0) 2))))) rfl ?_
        refine z_aload_n (pc := 347) (x := a0) C dX8_load_347 (i := 0) rfl rfl ?_
        refine z_get (pc := 348) (v := .ref (r0 0)) C 0 dX8_load_348 fl_RX8_9 rfl rfl ?_
        refine z_iconst (pc := 351) C dX8_load_351 ic_4 ?_
        refine z_iald (pc := 352) C 1 dX8_load_352 rfl (by decide) ?_
        refine z_top1 (v := ((upd (s0.2.2.1 0) 9 ((s0.2.2.1 0) 2)) 4)) rfl ?_
        exact z_iret C X dX8_load_353 (by rw [← Option.some.inj h]; exact ⟨rfl, rfl⟩) (by decide) (by decide)
    · replace h := (ite_e h).2 hc
      refine z_iconst (pc := 290) C dX8_load_290 ic_0 ?_
      refine z_istore_n (pc := 291) C dX8_load_291 (i := 2) rfl (by decide) (lv' := [(2, .int (0 : Int32)), (0, .ref a0), (1, .int v1)]) rfl ?_
      refine z_lv (lv' := [(0, .ref a0), (1, .int v1), (2, .int (0 : Int32))]) [1, 2, 0] rfl ?_
      exact m_X8_load_292 (a0 := a0) (r0 := r0) hg C X hk280 N v1 (0 : Int32) s0 h
def F_X8_load_228 (N : Nat)  (k228 : Int32 → Ob → Option (Int32 × Ob)) (v1 : Int32) (s0 : Ob) : Option (Int32 × Ob) := (if (40 : Int32) ≤ v1 then (f_X8_load_280 N N (0 : Int32) s0) else (chk (inb ((67 : Int32) + v1) 358) (znm ((upd (s0.2.2.1 0) (((67 : Int32) + v1)).toNatClampNeg (((1 : Int32) <<< (((s0.2.2.1 0) 0) &&& 31)) - (1 : Int32))) 1) fun x16 => (znm (sa s0 0 (upd (s0.2.2.1 0) (((67 : Int32) + v1)).toNatClampNeg (((1 : Int32) <<< (((s0.2.2.1 0) 0) &&& 31)) - (1 : Int32)))) fun y17 => (chk (inb ((107 : Int32) + v1) 358) (k228 (v1 + (1 : Int32)) (sa y17 0 (upd (y17.2.2.1 0) (((107 : Int32) + v1)).toNatClampNeg (((1 : Int32) <<< (x16 &&& 31)) - (1 : Int32))))))))))
def f_X8_load_228 (N : Nat)  : Nat → Int32 → Ob → Option (Int32 × Ob) := zlp (fun _ _ => none) (F_X8_load_228 N)
theorem m_X8_load_228 {K : Kt} {g : Gp} {a0 : Nat} {r0 : Nat → Nat} {N : Nat} {res : Int32 × Ob} (hg : Ok g) (C : Cx K g cX8_load RX8 3 (zrm 6 128)) (X : Rx K (exR (some (.int res.1)) (wX8 g a0 r0 res.2)) 0 0 (some .int)) : ∀ (n : Nat) (v1 : Int32) (s0 : Ob), f_X8_load_228 N n v1 s0 = some res → Zs K 0 0 (wX8 g a0 r0 s0) [(0, .ref a0), (1, .int v1)] 228 [] := by
  intro n
  induction n with
  | zero => intro v1 s0 h; exact nomatch (show (none : Option (Int32 × Ob)) = some res from h)
  | succ n hk228 =>
    intro v1 s0 h
    replace h : F_X8_load_228 N (f_X8_load_228 N n) v1 s0 = some res := h
    unfold F_X8_load_228 at h
    refine z_iload_n (pc := 228) (x := v1) C dX8_load_228 (i := 1) rfl rfl ?_
    refine z_bipush (pc := 229) C dX8_load_229 bp_40 ?_
    refine z_icmp_ge (pc := 231) C dX8_load_231 (tgt := 278) (by decide) (fun hc => ?_) (fun hc => ?_)
    · replace h := (ite_e h).1 hc
      refine z_iconst (pc := 278) C dX8_load_278 ic_0 ?_
      refine z_istore_n (pc := 279) C dX8_load_279 (i := 1) rfl (by decide) (lv' := [(1, .int (0 : Int32)), (0, .ref a0)]) rfl ?_
      refine z_lv (lv' := [(0, .ref a0), (1, .int (0 : Int32))]) [1, 0] rfl ?_
      exact m_X8_load_280 (a0 := a0) (r0 := r0) hg C X N (0 : Int32) s0 h
    · replace h := (ite_e h).2 hc
      refine z_aload_n (pc := 234) (x := a0) C dX8_load_234 (i := 0) rfl rfl ?_
      refine z_get (pc := 235) (v := .ref (r0 0)) C 0 dX8_load_235 fl_RX8_9 rfl rfl ?_
      refine z_bipush (pc := 238) C dX8_load_238 bp_67 ?_
      refine z_iload_n (pc := 240) (x := v1) C dX8_load_240 (i := 1) rfl rfl ?_
      refine z_iadd (pc := 241) C dX8_load_241 ?_
      refine z_iconst (pc := 242) C dX8_load_242 ic_1 ?_
      refine z_aload_n (pc := 243) (x := a0) C dX8_load_243 (i := 0) rfl rfl ?_
      refine z_get (pc := 244) (v := .ref (r0 0)) C 0 dX8_load_244 fl_RX8_9 rfl rfl ?_
      refine z_iconst (pc := 247) C dX8_load_247 ic_0 ?_
      refine z_iald (pc := 248) C 1 dX8_load_248 rfl (by decide) ?_
      refine z_top1 (v := ((s0.2.2.1 0) 0)) rfl ?_
      refine z_ishl (pc := 249) C dX8_load_249 ?_
      refine z_iconst (pc := 250) C dX8_load_250 ic_1 ?_
      refine z_isub (pc := 251) C dX8_load_251 ?_
      replace h := chk_e h
      obtain ⟨hb15, h⟩ := h
      refine z_iast (pc := 252) C 1 dX8_load_252 rfl hb15 (ws' := (wX8 g a0 r0 (sa s0 0 (upd (s0.2.2.1 0) (((67 : Int32) + v1)).toNatClampNeg (((1 : Int32) <<< (((s0.2.2.1 0) 0) &&& 31)) - (1 : Int32)))))) rfl ?_
      refine z_aload_n (pc := 253) (x := a0) C dX8_load_253 (i := 0) rfl rfl ?_
      refine z_get (pc := 254) (v := .ref (r0 0)) C 0 dX8_load_254 fl_RX8_9 rfl rfl ?_
      refine z_bipush (pc := 257) C dX8_load_257 bp_107 ?_
      refine z_iload_n (pc := 259) (x := v1) C dX8_load_259 (i := 1) rfl rfl ?_
      refine z_iadd (pc := 260) C dX8_load_260 ?_
      refine z_iconst (pc := 261) C dX8_load_261 ic_1 ?_
      refine z_aload_n (pc := 262) (x := a0) C dX8_load_262 (i := 0) rfl rfl ?_
      refine z_get (pc := 263) (v := .ref (r0 0)) C 0 dX8_load_263 fl_RX8_9 rfl rfl ?_
      refine z_iconst (pc := 266) C dX8_load_266 ic_1 ?_
      refine z_iald (pc := 267) C 1 dX8_load_267 rfl (by decide) ?_
      refine z_top1 (v := ((upd (s0.2.2.1 0) (((67 : Int32) + v1)).toNatClampNeg (((1 : Int32) <<< (((s0.2.2.1 0) 0) &&& 31)) - (1 : Int32))) 1)) rfl ?_
      replace h := znm_e h
      obtain ⟨x16, hx16, h⟩ := h
      refine z_top1 hx16 ?_
      refine z_ishl (pc := 268) C dX8_load_268 ?_
      refine z_iconst (pc := 269) C dX8_load_269 ic_1 ?_
      refine z_isub (pc := 270) C dX8_load_270 ?_
      replace h := znm_e h
      obtain ⟨y17, hy17, h⟩ := h
      refine z_wsE (ws' := (wX8 g a0 r0 y17)) (by rw [hy17]) ?_
      replace h := chk_e h
      obtain ⟨hb18, h⟩ := h
      refine z_iast (pc := 271) C 1 dX8_load_271 rfl hb18 (ws' := (wX8 g a0 r0 (sa y17 0 (upd (y17.2.2.1 0) (((107 : Int32) + v1)).toNatClampNeg (((1 : Int32) <<< (x16 &&& 31)) - (1 : Int32)))))) rfl ?_
      refine z_iinc (pc := 272) C dX8_load_272 rfl (inc_e 1 (1 : Int32) ic_1 v1) (by decide) (lv' := [(1, .int (v1 + (1 : Int32))), (0, .ref a0)]) rfl ?_
      refine z_goto (pc := 275) C dX8_load_275 (tgt := 228) (by decide) ?_
      refine z_lv (lv' := [(0, .ref a0), (1, .int (v1 + (1 : Int32)))]) [1, 0] rfl ?_
      exact hk228 (v1 + (1 : Int32)) (sa y17 0 (upd (y17.2.2.1 0) (((107 : Int32) + v1)).toNatClampNeg (((1 : Int32) <<< (x16 &&& 31)) - (1 : Int32)))) h
def f_X8_load_178 (N : Nat)  (t1 : Int32) (s0 : Ob) : Option (Int32 × Ob) := (if (s0.1 12) = 0 then (ob (f_X8_shuffles N (si s0 17 t1)) fun x10 => (ob (f_X8_copies N 358 358 (x10.2.2.1 1) (x10.2.2.1 0) (0 : Int32) (0 : Int32)) fun x11 => (znm (sa x10 0 x11) fun y12 => (znm (si y12 6 (0 : Int32)) fun y13 => (f_X8_load_228 N N (0 : Int32) (sa y13 0 (upd (y13.2.2.1 0) 9 (-1 : Int32)))))))) else (some (((-100 : Int32) - (s0.1 13)), (si s0 17 t1))))
theorem m_X8_load_178 {K : Kt} {g : Gp} {a0 : Nat} {r0 : Nat → Nat} {N : Nat} {res : Int32 × Ob} (hg : Ok g) (C : Cx K g cX8_load RX8 3 (zrm 6 128)) (X : Rx K (exR (some (.int res.1)) (wX8 g a0 r0 res.2)) 0 0 (some .int)) (t1 : Int32) (s0 : Ob) (h : f_X8_load_178 N t1 s0 = some res) : Zs K 0 0 (wX8 g a0 r0 s0) [(0, .ref a0)] 178 [.int t1, .ref a0] := by
  unfold f_X8_load_178 at h
  refine z_put (pc := 178) C 0 dX8_load_178 fp_RX8_33 rfl rfl rfl (zlt_b rfl) (ws' := (wX8 g a0 r0 (si s0 17 t1))) rfl ?_
  refine z_aload_n (pc := 181) (x := a0) C dX8_load_181 (i := 0) rfl rfl ?_
  refine z_get (pc := 182) (v := .int (s0.1 12)) C 0 dX8_load_182 fl_RX8_96 rfl rfl ?_
  refine z_if_eq (pc := 185) C dX8_load_185 (tgt := 196) (by decide) (fun hc => ?_) (fun hc => ?_)
  · replace h := (ite_e h).1 hc
    refine z_aload_n (pc := 196) (x := a0) C dX8_load_196 (i := 0) rfl rfl ?_
    replace h := ob_e h
    obtain ⟨x10, hx10, h⟩ := h
    refine z_callV (pc := 197) (As := []) (rest := []) (wr := ([] : va_W)) C dX8_load_197 ml_RX8_194 wv_X8_shuffles (m_X8_shuffles (a0 := a0) (r0 := r0) hg hx10) [0, 1, 2, 3, 4, 5, 6, 7, 8, 9, 10, 11, 12, 13, 14] [] rfl rfl ⟨by decide, by decide⟩ (Nat.le_of_ble_eq_true rfl) ⟨by decide, by decide⟩ rfl rfl rfl rfl rfl rfl rfl (by decide) (ex_k C (cs' := 0) (ss' := 0) (wF := (wX8 g a0 r0 x10)) [0, 1, 2, 3, 4, 5, 6, 7, 8, 9, 10, 11, 12, 13, 14] rfl rfl ?_)
    refine z_aload_n (pc := 200) (x := a0) C dX8_load_200 (i := 0) rfl rfl ?_
    refine z_get (pc := 201) (v := .ref (r0 1)) C 0 dX8_load_201 fl_RX8_13 rfl rfl ?_
    refine z_iconst (pc := 204) C dX8_load_204 ic_0 ?_
    refine z_aload_n (pc := 205) (x := a0) C dX8_load_205 (i := 0) rfl rfl ?_
    refine z_get (pc := 206) (v := .ref (r0 0)) C 0 dX8_load_206 fl_RX8_9 rfl rfl ?_
    refine z_iconst (pc := 209) C dX8_load_209 ic_0 ?_
    replace h := ob_e h
    obtain ⟨x11, hx11, h⟩ := h
    refine z_callS (pc := 210) (As := [.ref (r0 1), .int (0 : Int32), .ref (r0 0), .int (0 : Int32)]) (rest := []) (wr := ((((wX8 g a0 r0 x10).eraseIdx 2).eraseIdx 1))) C dX8_load_210 ml_RX8_197 wt_X8_copies (m_X8_copies (a0 := (r0 1)) (a2 := (r0 0)) hg hx11) [2, 1] [0, 3, 4, 5, 6, 7, 8, 9, 10, 11, 12, 13, 14] rfl rfl ⟨by decide, by decide⟩ (Nat.le_of_ble_eq_true rfl) ⟨by decide, by decide⟩ rfl rfl rfl rfl (by decide) (ex_k C (cs' := 0) (ss' := 0) (wF := (wX8 g a0 r0 (sa x10 0 x11))) [0, 14, 13, 1, 2, 3, 4, 5, 6, 7, 8, 9, 10, 11, 12] rfl rfl ?_)
    refine z_aload_n (pc := 213) (x := a0) C dX8_load_213 (i := 0) rfl rfl ?_
    refine z_iconst (pc := 214) C dX8_load_214 ic_0 ?_
    replace h := znm_e h
    obtain ⟨y12, hy12, h⟩ := h
    refine z_wsE (ws' := (wX8 g a0 r0 y12)) (by rw [hy12]) ?_
    refine z_put (pc := 215) C 0 dX8_load_215 fp_RX8_200 rfl rfl rfl (zlt_b rfl) (ws' := (wX8 g a0 r0 (si y12 6 (0 : Int32)))) rfl ?_
    refine z_aload_n (pc := 218) (x := a0) C dX8_load_218 (i := 0) rfl rfl ?_
    refine z_get (pc := 219) (v := .ref (r0 0)) C 0 dX8_load_219 fl_RX8_9 rfl rfl ?_
    refine z_bipush (pc := 222) C dX8_load_222 bp_9 ?_
    refine z_iconst (pc := 224) C dX8_load_224 ic_m1 ?_
    replace h := znm_e h
    obtain ⟨y13, hy13, h⟩ := h
    refine z_wsE (ws' := (wX8 g a0 r0 y13)) (by rw [hy13]) ?_
    refine z_iast (pc := 225) C 1 dX8_load_225 rfl (by decide) (ws' := (wX8 g a0 r0 (sa y13 0 (upd (y13.2.2.1 0) 9 (-1 : Int32))))) rfl ?_
    refine z_iconst (pc := 226) C dX8_load_226 ic_0 ?_
    refine z_istore_n (pc := 227) C dX8_load_227 (i := 1) rfl (by decide) (lv' := [(1, .int (0 : Int32)), (0, .ref a0)]) rfl ?_
    refine z_lv (lv' := [(0, .ref a0), (1, .int (0 : Int32))]) [1, 0] rfl ?_
    exact m_X8_load_228 (a0 := a0) (r0 := r0) hg C X N (0 : Int32) (sa y13 0 (upd (y13.2.2.1 0) 9 (-1 : Int32))) h
  · replace h := (ite_e h).2 hc
    refine z_bipush (pc := 188) C dX8_load_188 bp_m100 ?_
    refine z_aload_n (pc := 190) (x := a0) C dX8_load_190 (i := 0) rfl rfl ?_
    refine z_get (pc := 191) (v := .int (s0.1 13)) C 0 dX8_load_191 fl_RX8_99 rfl rfl ?_
    refine z_isub (pc := 194) C dX8_load_194 ?_
    exact z_iret C X dX8_load_195 (by rw [← Option.some.inj h]; exact ⟨rfl, rfl⟩) (by decide) (by decide)
def f_X8_load_149 (N : Nat)  (s0 : Ob) : Option (Int32 × Ob) := (znm (si s0 9 (0 : Int32)) fun y9 => (if (y9.1 12) = 0 then (f_X8_load_178 N (-1 : Int32) (si y9 16 (s0.1 12))) else (f_X8_load_178 N (y9.1 14) (si y9 16 (s0.1 12)))))
theorem m_X8_load_149 {K : Kt} {g : Gp} {a0 : Nat} {r0 : Nat → Nat} {N : Nat} {res : Int32 × Ob} (hg : Ok g) (C : Cx K g cX8_load RX8 3 (zrm 6 128)) (X : Rx K (exR (some (.int res.1)) (wX8 g a0 r0 res.2)) 0 0 (some .int)) (s0 : Ob) (h : f_X8_load_149 N s0 = some res) : Zs K 0 0 (wX8 g a0 r0 s0) [(0, .ref a0)] 149 [] := by
  unfold f_X8_load_149 at h
  refine z_aload_n (pc := 149) (x := a0) C dX8_load_149 (i := 0) rfl rfl ?_
  refine z_iconst (pc := 150) C dX8_load_150 ic_0 ?_
  refine z_put (pc := 151) C 0 dX8_load_151 fp_RX8_83 rfl rfl rfl (zlt_b rfl) (ws' := (wX8 g a0 r0 (si s0 9 (0 : Int32)))) rfl ?_
  refine z_aload_n (pc := 154) (x := a0) C dX8_load_154 (i := 0) rfl rfl ?_
  refine z_aload_n (pc := 155) (x := a0) C dX8_load_155 (i := 0) rfl rfl ?_
  refine z_get (pc := 156) (v := .int (s0.1 12)) C 0 dX8_load_156 fl_RX8_96 rfl rfl ?_
  replace h := znm_e h
  obtain ⟨y9, hy9, h⟩ := h
  refine z_wsE (ws' := (wX8 g a0 r0 y9)) (by rw [hy9]) ?_
  refine z_put (pc := 159) C 0 dX8_load_159 fp_RX8_191 rfl rfl rfl (zlt_b rfl) (ws' := (wX8 g a0 r0 (si y9 16 (s0.1 12)))) rfl ?_
  refine z_aload_n (pc := 162) (x := a0) C dX8_load_162 (i := 0) rfl rfl ?_
  refine z_aload_n (pc := 163) (x := a0) C dX8_load_163 (i := 0) rfl rfl ?_
  refine z_get (pc := 164) (v := .int (y9.1 12)) C 0 dX8_load_164 fl_RX8_96 rfl rfl ?_
  refine z_if_ne (pc := 167) C dX8_load_167 (tgt := 174) (by decide) (fun hc => ?_) (fun hc => ?_)
  · replace h := (ite_e h).2 hc
    refine z_aload_n (pc := 174) (x := a0) C dX8_load_174 (i := 0) rfl rfl ?_
    refine z_get (pc := 175) (v := .int (y9.1 14)) C 0 dX8_load_175 fl_RX8_127 rfl rfl ?_
    exact m_X8_load_178 (a0 := a0) (r0 := r0) hg C X (y9.1 14) (si y9 16 (s0.1 12)) h
  · replace h := (ite_e h).1 hc
    refine z_iconst (pc := 170) C dX8_load_170 ic_m1 ?_
    refine z_goto (pc := 171) C dX8_load_171 (tgt := 178) (by decide) ?_
    exact m_X8_load_178 (a0 := a0) (r0 := r0) hg C X (-1 : Int32) (si y9 16 (s0.1 12)) h
def F_X8_load_93 (N : Nat)  (k93 : Ob → Option (Int32 × Ob)) (s0 : Ob) : Option (Int32 × Ob) := (ob (f_X8_isMore N s0) fun x8 => (if x8.1 = 0 then (if (x8.2.1 12) = 0 then (if (((x8.2.2.2.1 1) 2) * ((x8.2.2.2.1 1) 3)) ≤ ((x8.2.2.2.1 1) 4) then (f_X8_load_149 N x8.2) else (ob (f_X8_fails N (si x8.2 11 (x8.2.1 9)) (4 : Int32)) fun x19 => (f_X8_load_149 N x19))) else (f_X8_load_149 N x8.2)) else (ob (f_X8_statement N x8.2) fun x20 => (k93 x20))))
def f_X8_load_93 (N : Nat)  : Nat → Ob → Option (Int32 × Ob) := zlp (fun _ => none) (F_X8_load_93 N)
theorem m_X8_load_93 {K : Kt} {g : Gp} {a0 : Nat} {r0 : Nat → Nat} {N : Nat} {res : Int32 × Ob} (hg : Ok g) (C : Cx K g cX8_load RX8 3 (zrm 6 128)) (X : Rx K (exR (some (.int res.1)) (wX8 g a0 r0 res.2)) 0 0 (some .int)) : ∀ (n : Nat) (s0 : Ob), f_X8_load_93 N n s0 = some res → Zs K 0 0 (wX8 g a0 r0 s0) [(0, .ref a0)] 93 [] := by
  intro n
  induction n with
  | zero => intro s0 h; exact nomatch (show (none : Option (Int32 × Ob)) = some res from h)
  | succ n hk93 =>
    intro s0 h
    replace h : F_X8_load_93 N (f_X8_load_93 N n) s0 = some res := h
    unfold F_X8_load_93 at h
    refine z_aload_n (pc := 93) (x := a0) C dX8_load_93 (i := 0) rfl rfl ?_
    replace h := ob_e h
    obtain ⟨x8, hx8, h⟩ := h
    refine z_callV (pc := 94) (As := []) (rest := []) (wr := ([] : va_W)) C dX8_load_94 ml_RX8_187 wv_X8_isMore (m_X8_isMore (a0 := a0) (r0 := r0) hg hx8) [0, 1, 2, 3, 4, 5, 6, 7, 8, 9, 10, 11, 12, 13, 14] [] rfl rfl ⟨by decide, by decide⟩ (Nat.le_of_ble_eq_true rfl) ⟨by decide, by decide⟩ rfl rfl rfl rfl rfl rfl rfl (by decide) (ex_k C (cs' := 0) (ss' := 0) (wF := (wX8 g a0 r0 x8.2)) [0, 1, 2, 3, 4, 5, 6, 7, 8, 9, 10, 11, 12, 13, 14] rfl rfl ?_)
    refine z_if_eq (pc := 97) C dX8_load_97 (tgt := 107) (by decide) (fun hc => ?_) (fun hc => ?_)
    · replace h := (ite_e h).1 hc
      refine z_aload_n (pc := 107) (x := a0) C dX8_load_107 (i := 0) rfl rfl ?_
      refine z_get (pc := 108) (v := .int (x8.2.1 12)) C 0 dX8_load_108 fl_RX8_96 rfl rfl ?_
      refine z_if_ne (pc := 111) C dX8_load_111 (tgt := 149) (by decide) (fun hc => ?_) (fun hc => ?_)
      · replace h := (ite_e h).2 hc
        exact m_X8_load_149 (a0 := a0) (r0 := r0) hg C X x8.2 h
      · replace h := (ite_e h).1 hc
        refine z_aload_n (pc := 114) (x := a0) C dX8_load_114 (i := 0) rfl rfl ?_
        refine z_get (pc := 115) (v := .ref (r0 1)) C 0 dX8_load_115 fl_RX8_13 rfl rfl ?_
        refine z_iconst (pc := 118) C dX8_load_118 ic_4 ?_
        refine z_iald (pc := 119) C 2 dX8_load_119 rfl (by decide) ?_
        refine z_top1 (v := ((x8.2.2.2.1 1) 4)) rfl ?_
        refine z_aload_n (pc := 120) (x := a0) C dX8_load_120 (i := 0) rfl rfl ?_
        refine z_get (pc := 121) (v := .ref (r0 1)) C 0 dX8_load_121 fl_RX8_13 rfl rfl ?_
        refine z_iconst (pc := 124) C dX8_load_124 ic_2 ?_
        refine z_iald (pc := 125) C 2 dX8_load_125 rfl (by decide) ?_
        refine z_top1 (v := ((x8.2.2.2.1 1) 2)) rfl ?_
        refine z_aload_n (pc := 126) (x := a0) C dX8_load_126 (i := 0) rfl rfl ?_
        refine z_get (pc := 127) (v := .ref (r0 1)) C 0 dX8_load_127 fl_RX8_13 rfl rfl ?_
        refine z_iconst (pc := 130) C dX8_load_130 ic_3 ?_
        refine z_iald (pc := 131) C 2 dX8_load_131 rfl (by decide) ?_
        refine z_top1 (v := ((x8.2.2.2.1 1) 3)) rfl ?_
        refine z_imul (pc := 132) C dX8_load_132 ?_
        refine z_icmp_ge (pc := 133) C dX8_load_133 (tgt := 149) (by decide) (fun hc => ?_) (fun hc => ?_)
        · replace h := (ite_e h).1 hc
          exact m_X8_load_149 (a0 := a0) (r0 := r0) hg C X x8.2 h
        · replace h := (ite_e h).2 hc
          refine z_aload_n (pc := 136) (x := a0) C dX8_load_136 (i := 0) rfl rfl ?_
          refine z_aload_n (pc := 137) (x := a0) C dX8_load_137 (i := 0) rfl rfl ?_
          refine z_get (pc := 138) (v := .int (x8.2.1 9)) C 0 dX8_load_138 fl_RX8_83 rfl rfl ?_
          refine z_put (pc := 141) C 0 dX8_load_141 fp_RX8_93 rfl rfl rfl (zlt_b rfl) (ws' := (wX8 g a0 r0 (si x8.2 11 (x8.2.1 9)))) rfl ?_
          refine z_aload_n (pc := 144) (x := a0) C dX8_load_144 (i := 0) rfl rfl ?_
          refine z_iconst (pc := 145) C dX8_load_145 ic_4 ?_
          replace h := ob_e h
          obtain ⟨x19, hx19, h⟩ := h
          refine z_callV (pc := 146) (As := [.int (4 : Int32)]) (rest := []) (wr := ([] : va_W)) C dX8_load_146 ml_RX8_120 wv_X8_fails (m_X8_fails (a0 := a0) (r0 := r0) hg hx19) [0, 1, 2, 3, 4, 5, 6, 7, 8, 9, 10, 11, 12, 13, 14] [] rfl rfl ⟨by decide, by decide⟩ (Nat.le_of_ble_eq_true rfl) ⟨by decide, by decide⟩ rfl rfl rfl rfl rfl rfl rfl (by decide) (ex_k C (cs' := 0) (ss' := 0) (wF := (wX8 g a0 r0 x19)) [0, 1, 2, 3, 4, 5, 6, 7, 8, 9, 10, 11, 12, 13, 14] rfl rfl ?_)
          exact m_X8_load_149 (a0 := a0) (r0 := r0) hg C X x19 h
    · replace h := (ite_e h).2 hc
      refine z_aload_n (pc := 100) (x := a0) C dX8_load_100 (i := 0) rfl rfl ?_
      replace h := ob_e h
      obtain ⟨x20, hx20, h⟩ := h
      refine z_callV (pc := 101) (As := []) (rest := []) (wr := ([] : va_W)) C dX8_load_101 ml_RX8_185 wv_X8_statement (m_X8_statement (a0 := a0) (r0 := r0) hg hx20) [0, 1, 2, 3, 4, 5, 6, 7, 8, 9, 10, 11, 12, 13, 14] [] rfl rfl ⟨by decide, by decide⟩ (Nat.le_of_ble_eq_true rfl) ⟨by decide, by decide⟩ rfl rfl rfl rfl rfl rfl rfl (by decide) (ex_k C (cs' := 0) (ss' := 0) (wF := (wX8 g a0 r0 x20)) [0, 1, 2, 3, 4, 5, 6, 7, 8, 9, 10, 11, 12, 13, 14] rfl rfl ?_)
      refine z_goto (pc := 104) C dX8_load_104 (tgt := 93) (by decide) ?_
      exact hk93 x20 h
def f_X8_load_56 (N : Nat) (k27 : Int32 → Ob → Option (Int32 × Ob)) (v1 : Int32) (t1 : Int32) (t2 : Int32) (s0 : Ob) : Option (Int32 × Ob) := (chk (inb t1 358) (k27 (v1 + (1 : Int32)) (sa s0 1 (upd (s0.2.2.1 1) (t1).toNatClampNeg t2))))
theorem m_X8_load_56 {K : Kt} {g : Gp} {a0 : Nat} {r0 : Nat → Nat} {N : Nat} {res : Int32 × Ob} (hg : Ok g) (C : Cx K g cX8_load RX8 3 (zrm 6 128)) (X : Rx K (exR (some (.int res.1)) (wX8 g a0 r0 res.2)) 0 0 (some .int)) {k27 : Int32 → Ob → Option (Int32 × Ob)} (hk27 : ∀ (v1 : Int32) (s0 : Ob), k27 v1 s0 = some res → Zs K 0 0 (wX8 g a0 r0 s0) [(0, .ref a0), (1, .int v1)] 27 []) (v1 : Int32) (t1 : Int32) (t2 : Int32) (s0 : Ob) (h : f_X8_load_56 N k27 v1 t1 t2 s0 = some res) : Zs K 0 0 (wX8 g a0 r0 s0) [(0, .ref a0), (1, .int v1)] 56 [.int t2, .int t1, .ref (r0 1)] := by
  unfold f_X8_load_56 at h
  replace h := chk_e h
  obtain ⟨hb22, h⟩ := h
  refine z_iast (pc := 56) C 2 dX8_load_56 rfl hb22 (ws' := (wX8 g a0 r0 (sa s0 1 (upd (s0.2.2.1 1) (t1).toNatClampNeg t2)))) rfl ?_
  refine z_iinc (pc := 57) C dX8_load_57 rfl (inc_e 1 (1 : Int32) ic_1 v1) (by decide) (lv' := [(1, .int (v1 + (1 : Int32))), (0, .ref a0)]) rfl ?_
  refine z_goto (pc := 60) C dX8_load_60 (tgt := 27) (by decide) ?_
  refine z_lv (lv' := [(0, .ref a0), (1, .int (v1 + (1 : Int32)))]) [1, 0] rfl ?_
  exact hk27 (v1 + (1 : Int32)) (sa s0 1 (upd (s0.2.2.1 1) (t1).toNatClampNeg t2)) h
def F_X8_load_27 (N : Nat)  (k27 : Int32 → Ob → Option (Int32 × Ob)) (v1 : Int32) (s0 : Ob) : Option (Int32 × Ob) := (if (358 : Int32) ≤ v1 then (znm (sa s0 1 (upd (s0.2.2.1 1) 6 (8 : Int32))) fun y5 => (znm (sa y5 1 (upd (y5.2.2.1 1) 7 (8 : Int32))) fun y6 => (ob (f_X8_statement N (sa y6 1 (upd (y6.2.2.1 1) 8 (3 : Int32)))) fun x7 => (f_X8_load_93 N N x7)))) else (ob (f_X8_in N v1 (18 : Int32) (26 : Int32)) fun x21 => (if x21 = 0 then (f_X8_load_56 N k27 v1 v1 (0 : Int32) s0) else (f_X8_load_56 N k27 v1 v1 (99 : Int32) s0))))
def f_X8_load_27 (N : Nat)  : Nat → Int32 → Ob → Option (Int32 × Ob) := zlp (fun _ _ => none) (F_X8_load_27 N)
theorem m_X8_load_27 {K : Kt} {g : Gp} {a0 : Nat} {r0 : Nat → Nat} {N : Nat} {res : Int32 × Ob} (hg : Ok g) (C : Cx K g cX8_load RX8 3 (zrm 6 128)) (X : Rx K (exR (some (.int res.1)) (wX8 g a0 r0 res.2)) 0 0 (some .int)) : ∀ (n : Nat) (v1 : Int32) (s0 : Ob), f_X8_load_27 N n v1 s0 = some res → Zs K 0 0 (wX8 g a0 r0 s0) [(0, .ref a0), (1, .int v1)] 27 [] := by
  intro n
  induction n with
  | zero => intro v1 s0 h; exact nomatch (show (none : Option (Int32 × Ob)) = some res from h)
  | succ n hk27 =>
    intro v1 s0 h
    replace h : F_X8_load_27 N (f_X8_load_27 N n) v1 s0 = some res := h
    unfold F_X8_load_27 at h
    refine z_iload_n (pc := 27) (x := v1) C dX8_load_27 (i := 1) rfl rfl ?_
    refine z_sipush (pc := 28) C dX8_load_28 sp_358 ?_
    refine z_icmp_ge (pc := 31) C dX8_load_31 (tgt := 63) (by decide) (fun hc => ?_) (fun hc => ?_)
    · replace h := (ite_e h).1 hc
      refine z_aload_n (pc := 63) (x := a0) C dX8_load_63 (i := 0) rfl rfl ?_
      refine z_get (pc := 64) (v := .ref (r0 1)) C 0 dX8_load_64 fl_RX8_13 rfl rfl ?_
      refine z_bipush (pc := 67) C dX8_load_67 bp_6 ?_
      refine z_bipush (pc := 69) C dX8_load_69 bp_8 ?_
      refine z_iast (pc := 71) C 2 dX8_load_71 rfl (by decide) (ws' := (wX8 g a0 r0 (sa s0 1 (upd (s0.2.2.1 1) 6 (8 : Int32))))) rfl ?_
      refine z_aload_n (pc := 72) (x := a0) C dX8_load_72 (i := 0) rfl rfl ?_
      refine z_get (pc := 73) (v := .ref (r0 1)) C 0 dX8_load_73 fl_RX8_13 rfl rfl ?_
      refine z_bipush (pc := 76) C dX8_load_76 bp_7 ?_
      refine z_bipush (pc := 78) C dX8_load_78 bp_8 ?_
      replace h := znm_e h
      obtain ⟨y5, hy5, h⟩ := h
      refine z_wsE (ws' := (wX8 g a0 r0 y5)) (by rw [hy5]) ?_
      refine z_iast (pc := 80) C 2 dX8_load_80 rfl (by decide) (ws' := (wX8 g a0 r0 (sa y5 1 (upd (y5.2.2.1 1) 7 (8 : Int32))))) rfl ?_
      refine z_aload_n (pc := 81) (x := a0) C dX8_load_81 (i := 0) rfl rfl ?_
      refine z_get (pc := 82) (v := .ref (r0 1)) C 0 dX8_load_82 fl_RX8_13 rfl rfl ?_
      refine z_bipush (pc := 85) C dX8_load_85 bp_8 ?_
      refine z_iconst (pc := 87) C dX8_load_87 ic_3 ?_
      replace h := znm_e h
      obtain ⟨y6, hy6, h⟩ := h
      refine z_wsE (ws' := (wX8 g a0 r0 y6)) (by rw [hy6]) ?_
      refine z_iast (pc := 88) C 2 dX8_load_88 rfl (by decide) (ws' := (wX8 g a0 r0 (sa y6 1 (upd (y6.2.2.1 1) 8 (3 : Int32))))) rfl ?_
      refine z_aload_n (pc := 89) (x := a0) C dX8_load_89 (i := 0) rfl rfl ?_
      replace h := ob_e h
      obtain ⟨x7, hx7, h⟩ := h
      refine z_callV (pc := 90) (As := []) (rest := []) (wr := ([] : va_W)) C dX8_load_90 ml_RX8_185 wv_X8_statement (m_X8_statement (a0 := a0) (r0 := r0) hg hx7) [0, 1, 2, 3, 4, 5, 6, 7, 8, 9, 10, 11, 12, 13, 14] [] rfl rfl ⟨by decide, by decide⟩ (Nat.le_of_ble_eq_true rfl) ⟨by decide, by decide⟩ rfl rfl rfl rfl rfl rfl rfl (by decide) (ex_k C (cs' := 0) (ss' := 0) (wF := (wX8 g a0 r0 x7)) [0, 1, 2, 3, 4, 5, 6, 7, 8, 9, 10, 11, 12, 13, 14] rfl rfl ?_)
      refine z_lv (lv' := [(0, .ref a0)]) [0] rfl ?_
      exact m_X8_load_93 (a0 := a0) (r0 := r0) hg C X N x7 h
    · replace h := (ite_e h).2 hc
      refine z_aload_n (pc := 34) (x := a0) C dX8_load_34 (i := 0) rfl rfl ?_
      refine z_get (pc := 35) (v := .ref (r0 1)) C 0 dX8_load_35 fl_RX8_13 rfl rfl ?_
      refine z_iload_n (pc := 38) (x := v1) C dX8_load_38 (i := 1) rfl rfl ?_
      refine z_iload_n (pc := 39) (x := v1) C dX8_load_39 (i := 1) rfl rfl ?_
      refine z_bipush (pc := 40) C dX8_load_40 bp_18 ?_
      refine z_bipush (pc := 42) C dX8_load_42 bp_26 ?_
      replace h := ob_e h
      obtain ⟨x21, hx21, h⟩ := h
      refine z_callS (pc := 44) (As := [.int v1, .int (18 : Int32), .int (26 : Int32)]) (rest := [.int v1, .ref (r0 1)]) (wr := (wX8 g a0 r0 s0)) C dX8_load_44 ml_RX8_62 wt_X8_in (m_X8_in hg hx21) [] [0, 1, 2, 3, 4, 5, 6, 7, 8, 9, 10, 11, 12, 13, 14] rfl rfl ⟨by decide, by decide⟩ (Nat.le_of_ble_eq_true rfl) ⟨by decide, by decide⟩ rfl rfl rfl rfl (by decide) (ex_k C (cs' := 0) (ss' := 0) (wF := (wX8 g a0 r0 s0)) [0, 1, 2, 3, 4, 5, 6, 7, 8, 9, 10, 11, 12, 13, 14] rfl rfl ?_)
      refine z_if_eq (pc := 47) C dX8_load_47 (tgt := 55) (by decide) (fun hc => ?_) (fun hc => ?_)
      · replace h := (ite_e h).1 hc
        refine z_iconst (pc := 55) C dX8_load_55 ic_0 ?_
        exact m_X8_load_56 (a0 := a0) (r0 := r0) hg C X hk27 v1 v1 (0 : Int32) s0 h
      · replace h := (ite_e h).2 hc
        refine z_bipush (pc := 50) C dX8_load_50 bp_99 ?_
        refine z_goto (pc := 52) C dX8_load_52 (tgt := 56) (by decide) ?_
        exact m_X8_load_56 (a0 := a0) (r0 := r0) hg C X hk27 v1 v1 (99 : Int32) s0 h
def f_X8_load (N : Nat) (s0 : Ob) : Option (Int32 × Ob) := (znm (si s0 7 (0 : Int32)) fun y1 => (znm (si y1 10 (0 : Int32)) fun y2 => (znm (si y2 12 (0 : Int32)) fun y3 => (znm (si y3 14 (0 : Int32)) fun y4 => (f_X8_load_27 N N (0 : Int32) (si y4 15 (-1 : Int32)))))))
theorem m_X8_load {g : Gp} {a0 : Nat} {r0 : Nat → Nat} {N : Nat} {s0 : Ob} {res : Int32 × Ob} (hg : Ok g) (h : f_X8_load N s0 = some res) : Ct g yX8_load cX8_load 3 (some .int) (zrm 6 128) [.ref a0] (wX8 g a0 r0 s0) (exR (some (.int res.1)) (wX8 g a0 r0 res.2)) := by
  refine ct_of rfl hg (by show _ ≤ _; exact Nat.le_of_ble_eq_true rfl) (fun K C X => ?_)
  show Zs K 0 0 (wX8 g a0 r0 s0) [(0, .ref a0)] 0 []
  unfold f_X8_load at h
  refine z_aload_n (pc := 0) (x := a0) C dX8_load_0 (i := 0) rfl rfl ?_
  refine z_iconst (pc := 1) C dX8_load_1 ic_0 ?_
  refine z_put (pc := 2) C 0 dX8_load_2 fp_RX8_59 rfl rfl rfl (zlt_b rfl) (ws' := (wX8 g a0 r0 (si s0 7 (0 : Int32)))) rfl ?_
  refine z_aload_n (pc := 5) (x := a0) C dX8_load_5 (i := 0) rfl rfl ?_
  refine z_iconst (pc := 6) C dX8_load_6 ic_0 ?_
  replace h := znm_e h
  obtain ⟨y1, hy1, h⟩ := h
  refine z_wsE (ws' := (wX8 g a0 r0 y1)) (by rw [hy1]) ?_
  refine z_put (pc := 7) C 0 dX8_load_7 fp_RX8_86 rfl rfl rfl (zlt_b rfl) (ws' := (wX8 g a0 r0 (si y1 10 (0 : Int32)))) rfl ?_
  refine z_aload_n (pc := 10) (x := a0) C dX8_load_10 (i := 0) rfl rfl ?_
  refine z_iconst (pc := 11) C dX8_load_11 ic_0 ?_
  replace h := znm_e h
  obtain ⟨y2, hy2, h⟩ := h
  refine z_wsE (ws' := (wX8 g a0 r0 y2)) (by rw [hy2]) ?_
  refine z_put (pc := 12) C 0 dX8_load_12 fp_RX8_96 rfl rfl rfl (zlt_b rfl) (ws' := (wX8 g a0 r0 (si y2 12 (0 : Int32)))) rfl ?_
  refine z_aload_n (pc := 15) (x := a0) C dX8_load_15 (i := 0) rfl rfl ?_
  refine z_iconst (pc := 16) C dX8_load_16 ic_0 ?_
  replace h := znm_e h
  obtain ⟨y3, hy3, h⟩ := h
  refine z_wsE (ws' := (wX8 g a0 r0 y3)) (by rw [hy3]) ?_
  refine z_put (pc := 17) C 0 dX8_load_17 fp_RX8_127 rfl rfl rfl (zlt_b rfl) (ws' := (wX8 g a0 r0 (si y3 14 (0 : Int32)))) rfl ?_
  refine z_aload_n (pc := 20) (x := a0) C dX8_load_20 (i := 0) rfl rfl ?_
  refine z_iconst (pc := 21) C dX8_load_21 ic_m1 ?_
  replace h := znm_e h
  obtain ⟨y4, hy4, h⟩ := h
  refine z_wsE (ws' := (wX8 g a0 r0 y4)) (by rw [hy4]) ?_
  refine z_put (pc := 22) C 0 dX8_load_22 fp_RX8_174 rfl rfl rfl (zlt_b rfl) (ws' := (wX8 g a0 r0 (si y4 15 (-1 : Int32)))) rfl ?_
  refine z_iconst (pc := 25) C dX8_load_25 ic_0 ?_
  refine z_istore_n (pc := 26) C dX8_load_26 (i := 1) rfl (by decide) (lv' := [(1, .int (0 : Int32)), (0, .ref a0)]) rfl ?_
  refine z_lv (lv' := [(0, .ref a0), (1, .int (0 : Int32))]) [1, 0] rfl ?_
  exact m_X8_load_27 (a0 := a0) (r0 := r0) hg C X N (0 : Int32) (si y4 15 (-1 : Int32)) h
def ft_X7_count (N : Nat) (s0 : Ob) (s1 : Ob) (s2 : Ob) (p1 : Int32) : Option (Nat) := (if p1 = (0 : Int32) then none else (if p1 = (1 : Int32) then none else (if p1 = (2 : Int32) then none else (if p1 = (3 : Int32) then none else (if p1 = (4 : Int32) then none else (if p1 = (5 : Int32) then none else (if p1 = (6 : Int32) then none else (if p1 = (7 : Int32) then (ob (f_X1_score N s1) fun x1 => none) else (if p1 = (8 : Int32) then none else (if p1 = (9 : Int32) then none else (if p1 = (10 : Int32) then none else (some 2))))))))))))
theorem mt_X7_count {g : Gp} {a0 : Nat} {r0 : Nat → Nat} {r1 : Nat → Nat} {q1_0 : Nat} {r2 : Nat → Nat} {N : Nat} {s0 : Ob} {s1 : Ob} {s2 : Ob} {p1 : Int32} {res : Nat} (hg : Ok g) (h : ft_X7_count N s0 s1 s2 p1 = some res) : Tx g yX7_count cX7_count 2 (some .int) (zrt 6 82) [.ref a0, .int p1] (wX7 g a0 r0 s0 ++ wX1 g (r0 3) r1 q1_0 s1 ++ wX5 g q1_0 r2 s2) (xn res) := by
  refine tx_of rfl hg (by show _ ≤ _; exact Nat.le_of_ble_eq_true rfl) (fun K C T => ?_)
  show Zs K 0 0 (wX7 g a0 r0 s0 ++ wX1 g (r0 3) r1 q1_0 s1 ++ wX5 g q1_0 r2 s2) [(0, .ref a0), (1, .int p1)] 0 []
  unfold ft_X7_count at h
  refine z_iload_n (pc := 0) (x := p1) C dX7_count_0 (i := 1) rfl rfl ?_
  refine (Decidable.em (p1 = (0 : Int32))).elim (fun hc => ?_) (fun hn0 => ?_)
  · refine z_tswIn (pc := 1) C (0 : Int32) dX7_count_1 hc (by decide) (by decide) (off := 59) rfl (tgt := 60) (by decide) ?_
    replace h := (ite_e h).1 hc
    refine z_aload_n (pc := 60) (x := a0) C dX7_count_60 (i := 0) rfl rfl ?_
    refine z_get (pc := 61) (v := .ref (r0 3)) C 0 dX7_count_61 fl_RX7_67 rfl rfl ?_
    refine z_get (pc := 64) (v := .ref q1_0) C 4 dX7_count_64 fl_RX7_100 rfl rfl ?_
    refine z_get (pc := 67) (v := .int (s2.1 0)) C 13 dX7_count_67 fl_RX7_107 rfl rfl ?_
    exact nomatch h
  replace h := (ite_e h).2 hn0
  refine (Decidable.em (p1 = (1 : Int32))).elim (fun hc => ?_) (fun hn1 => ?_)
  · refine z_tswIn (pc := 1) C (1 : Int32) dX7_count_1 hc (by decide) (by decide) (off := 70) rfl (tgt := 71) (by decide) ?_
    replace h := (ite_e h).1 hc
    refine z_aload_n (pc := 71) (x := a0) C dX7_count_71 (i := 0) rfl rfl ?_
    refine z_get (pc := 72) (v := .ref (r0 3)) C 0 dX7_count_72 fl_RX7_67 rfl rfl ?_
    refine z_get (pc := 75) (v := .ref q1_0) C 4 dX7_count_75 fl_RX7_100 rfl rfl ?_
    refine z_get (pc := 78) (v := .int (s2.1 1)) C 13 dX7_count_78 fl_RX7_110 rfl rfl ?_
    exact nomatch h
  replace h := (ite_e h).2 hn1
  refine (Decidable.em (p1 = (2 : Int32))).elim (fun hc => ?_) (fun hn2 => ?_)
  · refine z_tswIn (pc := 1) C (2 : Int32) dX7_count_1 hc (by decide) (by decide) (off := 81) rfl (tgt := 82) (by decide) ?_
    replace h := (ite_e h).1 hc
    refine z_aload_n (pc := 82) (x := a0) C dX7_count_82 (i := 0) rfl rfl ?_
    refine z_get (pc := 83) (v := .ref (r0 3)) C 0 dX7_count_83 fl_RX7_67 rfl rfl ?_
    refine z_get (pc := 86) (v := .ref q1_0) C 4 dX7_count_86 fl_RX7_100 rfl rfl ?_
    refine z_get (pc := 89) (v := .int (s2.1 2)) C 13 dX7_count_89 fl_RX7_113 rfl rfl ?_
    exact nomatch h
  replace h := (ite_e h).2 hn2
  refine (Decidable.em (p1 = (3 : Int32))).elim (fun hc => ?_) (fun hn3 => ?_)
  · refine z_tswIn (pc := 1) C (3 : Int32) dX7_count_1 hc (by decide) (by decide) (off := 92) rfl (tgt := 93) (by decide) ?_
    replace h := (ite_e h).1 hc
    refine z_aload_n (pc := 93) (x := a0) C dX7_count_93 (i := 0) rfl rfl ?_
    refine z_get (pc := 94) (v := .ref (r0 3)) C 0 dX7_count_94 fl_RX7_67 rfl rfl ?_
    refine z_get (pc := 97) (v := .ref q1_0) C 4 dX7_count_97 fl_RX7_100 rfl rfl ?_
    refine z_get (pc := 100) (v := .int (s2.1 3)) C 13 dX7_count_100 fl_RX7_116 rfl rfl ?_
    exact nomatch h
  replace h := (ite_e h).2 hn3
  refine (Decidable.em (p1 = (4 : Int32))).elim (fun hc => ?_) (fun hn4 => ?_)
  · refine z_tswIn (pc := 1) C (4 : Int32) dX7_count_1 hc (by decide) (by decide) (off := 103) rfl (tgt := 104) (by decide) ?_
    replace h := (ite_e h).1 hc
    refine z_aload_n (pc := 104) (x := a0) C dX7_count_104 (i := 0) rfl rfl ?_
    refine z_get (pc := 105) (v := .ref (r0 3)) C 0 dX7_count_105 fl_RX7_67 rfl rfl ?_
    refine z_get (pc := 108) (v := .ref q1_0) C 4 dX7_count_108 fl_RX7_100 rfl rfl ?_
    refine z_get (pc := 111) (v := .int (s2.1 7)) C 13 dX7_count_111 fl_RX7_101 rfl rfl ?_
    refine z_aload_n (pc := 114) (x := a0) C dX7_count_114 (i := 0) rfl rfl ?_
    refine z_get (pc := 115) (v := .ref (r0 3)) C 0 dX7_count_115 fl_RX7_67 rfl rfl ?_
    refine z_get (pc := 118) (v := .int (s1.1 1)) C 4 dX7_count_118 fl_RX7_119 rfl rfl ?_
    refine z_isub (pc := 121) C dX7_count_121 ?_
    exact nomatch h
  replace h := (ite_e h).2 hn4
  refine (Decidable.em (p1 = (5 : Int32))).elim (fun hc => ?_) (fun hn5 => ?_)
  · refine z_tswIn (pc := 1) C (5 : Int32) dX7_count_1 hc (by decide) (by decide) (off := 122) rfl (tgt := 123) (by decide) ?_
    replace h := (ite_e h).1 hc
    refine z_aload_n (pc := 123) (x := a0) C dX7_count_123 (i := 0) rfl rfl ?_
    refine z_get (pc := 124) (v := .ref (r0 3)) C 0 dX7_count_124 fl_RX7_67 rfl rfl ?_
    refine z_get (pc := 127) (v := .int (s1.1 2)) C 4 dX7_count_127 fl_RX7_122 rfl rfl ?_
    exact nomatch h
  replace h := (ite_e h).2 hn5
  refine (Decidable.em (p1 = (6 : Int32))).elim (fun hc => ?_) (fun hn6 => ?_)
  · refine z_tswIn (pc := 1) C (6 : Int32) dX7_count_1 hc (by decide) (by decide) (off := 130) rfl (tgt := 131) (by decide) ?_
    replace h := (ite_e h).1 hc
    refine z_aload_n (pc := 131) (x := a0) C dX7_count_131 (i := 0) rfl rfl ?_
    refine z_get (pc := 132) (v := .ref (r0 3)) C 0 dX7_count_132 fl_RX7_67 rfl rfl ?_
    refine z_get (pc := 135) (v := .int (s1.1 3)) C 4 dX7_count_135 fl_RX7_125 rfl rfl ?_
    exact nomatch h
  replace h := (ite_e h).2 hn6
  refine (Decidable.em (p1 = (7 : Int32))).elim (fun hc => ?_) (fun hn7 => ?_)
  · refine z_tswIn (pc := 1) C (7 : Int32) dX7_count_1 hc (by decide) (by decide) (off := 138) rfl (tgt := 139) (by decide) ?_
    replace h := (ite_e h).1 hc
    refine z_aload_n (pc := 139) (x := a0) C dX7_count_139 (i := 0) rfl rfl ?_
    refine z_get (pc := 140) (v := .ref (r0 3)) C 0 dX7_count_140 fl_RX7_67 rfl rfl ?_
    replace h := ob_e h
    obtain ⟨x1, hx1, h⟩ := h
    refine z_callV (pc := 143) (As := []) (rest := []) (wr := (wX7 g a0 r0 s0 ++ wX5 g q1_0 r2 s2)) C dX7_count_143 ml_RX7_128 wv_X1_score (m_X1_score (a0 := (r0 3)) (r0 := r1) (q0_0 := q1_0) hg hx1) [4, 5, 6, 7, 8, 9, 10, 11, 12] [0, 1, 2, 3, 13, 14, 15, 16] rfl rfl ⟨by decide, by decide⟩ (Nat.le_of_ble_eq_true rfl) ⟨by decide, by decide⟩ rfl rfl rfl rfl rfl rfl rfl (by decide) (ex_k C (cs' := 0) (ss' := 0) (wF := (wX7 g a0 r0 s0 ++ wX1 g (r0 3) r1 q1_0 s1 ++ wX5 g q1_0 r2 s2)) [0, 1, 2, 3, 8, 9, 10, 11, 12, 13, 14, 15, 16, 4, 5, 6, 7] rfl rfl ?_)
    exact nomatch h
  replace h := (ite_e h).2 hn7
  refine (Decidable.em (p1 = (8 : Int32))).elim (fun hc => ?_) (fun hn8 => ?_)
  · refine z_tswIn (pc := 1) C (8 : Int32) dX7_count_1 hc (by decide) (by decide) (off := 146) rfl (tgt := 147) (by decide) ?_
    replace h := (ite_e h).1 hc
    refine z_aload_n (pc := 147) (x := a0) C dX7_count_147 (i := 0) rfl rfl ?_
    refine z_get (pc := 148) (v := .ref (r0 3)) C 0 dX7_count_148 fl_RX7_67 rfl rfl ?_
    refine z_get (pc := 151) (v := .int (s1.1 5)) C 4 dX7_count_151 fl_RX7_132 rfl rfl ?_
    exact nomatch h
  replace h := (ite_e h).2 hn8
  refine (Decidable.em (p1 = (9 : Int32))).elim (fun hc => ?_) (fun hn9 => ?_)
  · refine z_tswIn (pc := 1) C (9 : Int32) dX7_count_1 hc (by decide) (by decide) (off := 154) rfl (tgt := 155) (by decide) ?_
    replace h := (ite_e h).1 hc
    refine z_aload_n (pc := 155) (x := a0) C dX7_count_155 (i := 0) rfl rfl ?_
    refine z_get (pc := 156) (v := .ref (r0 3)) C 0 dX7_count_156 fl_RX7_67 rfl rfl ?_
    refine z_get (pc := 159) (v := .int (s1.1 6)) C 4 dX7_count_159 fl_RX7_135 rfl rfl ?_
    exact nomatch h
  replace h := (ite_e h).2 hn9
  refine (Decidable.em (p1 = (10 : Int32))).elim (fun hc => ?_) (fun hn10 => ?_)
  · refine z_tswIn (pc := 1) C (10 : Int32) dX7_count_1 hc (by decide) (by decide) (off := 162) rfl (tgt := 163) (by decide) ?_
    replace h := (ite_e h).1 hc
    refine z_aload_n (pc := 163) (x := a0) C dX7_count_163 (i := 0) rfl rfl ?_
    refine z_get (pc := 164) (v := .int (s0.1 5)) C 0 dX7_count_164 fl_RX7_97 rfl rfl ?_
    exact nomatch h
  replace h := (ite_e h).2 hn10
  refine z_tswOut (pc := 1) C dX7_count_1 (by have e0 := lv_neT hn0 (a := 0) (by decide); have e1 := lv_neT hn1 (a := 1) (by decide); have e2 := lv_neT hn2 (a := 2) (by decide); have e3 := lv_neT hn3 (a := 3) (by decide); have e4 := lv_neT hn4 (a := 4) (by decide); have e5 := lv_neT hn5 (a := 5) (by decide); have e6 := lv_neT hn6 (a := 6) (by decide); have e7 := lv_neT hn7 (a := 7) (by decide); have e8 := lv_neT hn8 (a := 8) (by decide); have e9 := lv_neT hn9 (a := 9) (by decide); have e10 := lv_neT hn10 (a := 10) (by decide); omega) (tgt := 168) (by decide) ?_
  replace h := Option.some.inj h
  subst h
  exact z_thr (pc := 168) (E := "java/lang/IllegalArgumentException") C T xok_2 (by decide +kernel) wx_RX7_138_142 (str_RX7_140 hg).1 dX7_count_168 dX7_count_171 dX7_count_172 dX7_count_174 dX7_count_177 (by decide) (Nat.le_of_ble_eq_true rfl) (by decide) (by decide) (by decide) (by decide)
def ft_X7_pile_18 (N : Nat) (s0 : Ob) (s1 : Ob) (s2 : Ob) (p1 : Int32)   : Option (Nat) := (some 1)
theorem mt_X7_pile_18 {K : Kt} {g : Gp} {a0 : Nat} {r0 : Nat → Nat} {r1 : Nat → Nat} {q1_0 : Nat} {r2 : Nat → Nat} {N : Nat} {s0 : Ob} {s1 : Ob} {s2 : Ob} {p1 : Int32} {res : Nat} (hg : Ok g) (C : Cx K g cX7_pile RX7 2 (zrt 6 82)) (T : Tt K (xn res) (wX7 g a0 r0 s0 ++ wX1 g (r0 3) r1 q1_0 s1 ++ wX5 g q1_0 r2 s2) 1 6)  (h : ft_X7_pile_18 N s0 s1 s2 p1  = some res) : Zs K 0 0 (wX7 g a0 r0 s0 ++ wX1 g (r0 3) r1 q1_0 s1 ++ wX5 g q1_0 r2 s2) [] 18 [] := by
  unfold ft_X7_pile_18 at h
  replace h := Option.some.inj h
  subst h
  exact z_thr (pc := 18) (E := "java/lang/IndexOutOfBoundsException") C T xok_1 (by decide +kernel) wx_RX7_155_159 (str_RX7_157 hg).1 dX7_pile_18 dX7_pile_21 dX7_pile_22 dX7_pile_24 dX7_pile_27 (by decide) (Nat.le_of_ble_eq_true rfl) (by decide) (by decide) (by decide) (by decide)
def ft_X7_pile (N : Nat) (s0 : Ob) (s1 : Ob) (s2 : Ob) (p1 : Int32) : Option (Nat) := (if p1 < 0 then (ft_X7_pile_18 N s0 s1 s2 p1 ) else (if p1 < (s2.1 0) then (ob (f_X1_topOf N s1 p1) fun x1 => none) else (ft_X7_pile_18 N s0 s1 s2 p1 )))
theorem mt_X7_pile {g : Gp} {a0 : Nat} {r0 : Nat → Nat} {r1 : Nat → Nat} {q1_0 : Nat} {r2 : Nat → Nat} {N : Nat} {s0 : Ob} {s1 : Ob} {s2 : Ob} {p1 : Int32} {res : Nat} (hg : Ok g) (h : ft_X7_pile N s0 s1 s2 p1 = some res) : Tx g yX7_pile cX7_pile 2 (some .int) (zrt 6 82) [.ref a0, .int p1] (wX7 g a0 r0 s0 ++ wX1 g (r0 3) r1 q1_0 s1 ++ wX5 g q1_0 r2 s2) (xn res) := by
  refine tx_of rfl hg (by show _ ≤ _; exact Nat.le_of_ble_eq_true rfl) (fun K C T => ?_)
  show Zs K 0 0 (wX7 g a0 r0 s0 ++ wX1 g (r0 3) r1 q1_0 s1 ++ wX5 g q1_0 r2 s2) [(0, .ref a0), (1, .int p1)] 0 []
  unfold ft_X7_pile at h
  refine z_iload_n (pc := 0) (x := p1) C dX7_pile_0 (i := 1) rfl rfl ?_
  refine z_if_lt (pc := 1) C dX7_pile_1 (tgt := 18) (by decide) (fun hc => ?_) (fun hc => ?_)
  · replace h := (ite_e h).1 hc
    refine z_lv (lv' := []) [] rfl ?_
    exact mt_X7_pile_18 (a0 := a0) (r0 := r0) (r1 := r1) (q1_0 := q1_0) (r2 := r2) hg C T  h
  · replace h := (ite_e h).2 hc
    refine z_iload_n (pc := 4) (x := p1) C dX7_pile_4 (i := 1) rfl rfl ?_
    refine z_aload_n (pc := 5) (x := a0) C dX7_pile_5 (i := 0) rfl rfl ?_
    refine z_get (pc := 6) (v := .ref (r0 3)) C 0 dX7_pile_6 fl_RX7_67 rfl rfl ?_
    refine z_get (pc := 9) (v := .ref q1_0) C 4 dX7_pile_9 fl_RX7_100 rfl rfl ?_
    refine z_get (pc := 12) (v := .int (s2.1 0)) C 13 dX7_pile_12 fl_RX7_107 rfl rfl ?_
    refine z_icmp_lt (pc := 15) C dX7_pile_15 (tgt := 28) (by decide) (fun hc => ?_) (fun hc => ?_)
    · replace h := (ite_e h).1 hc
      refine z_aload_n (pc := 28) (x := a0) C dX7_pile_28 (i := 0) rfl rfl ?_
      refine z_get (pc := 29) (v := .ref (r0 3)) C 0 dX7_pile_29 fl_RX7_67 rfl rfl ?_
      refine z_iload_n (pc := 32) (x := p1) C dX7_pile_32 (i := 1) rfl rfl ?_
      replace h := ob_e h
      obtain ⟨x1, hx1, h⟩ := h
      refine z_callV (pc := 33) (As := [.int p1]) (rest := []) (wr := (wX7 g a0 r0 s0 ++ wX5 g q1_0 r2 s2)) C dX7_pile_33 ml_RX7_160 wv_X1_topOf (m_X1_topOf (a0 := (r0 3)) (r0 := r1) (q0_0 := q1_0) hg hx1) [4, 5, 6, 7, 8, 9, 10, 11, 12] [0, 1, 2, 3, 13, 14, 15, 16] rfl rfl ⟨by decide, by decide⟩ (Nat.le_of_ble_eq_true rfl) ⟨by decide, by decide⟩ rfl rfl rfl rfl rfl rfl rfl (by decide) (ex_k C (cs' := 0) (ss' := 0) (wF := (wX7 g a0 r0 s0 ++ wX1 g (r0 3) r1 q1_0 s1 ++ wX5 g q1_0 r2 s2)) [0, 1, 2, 3, 8, 9, 10, 11, 12, 13, 14, 15, 16, 4, 5, 6, 7] rfl rfl ?_)
      exact nomatch h
    · replace h := (ite_e h).2 hc
      refine z_lv (lv' := []) [] rfl ?_
      exact mt_X7_pile_18 (a0 := a0) (r0 := r0) (r1 := r1) (q1_0 := q1_0) (r2 := r2) hg C T  h
def ft_X7_needPlayer_18 (N : Nat) (s0 : Ob) (s1 : Ob) (s2 : Ob) (p1 : Int32)   : Option (Nat) := (some 1)
theorem mt_X7_needPlayer_18 {K : Kt} {g : Gp} {a0 : Nat} {r0 : Nat → Nat} {r1 : Nat → Nat} {q1_0 : Nat} {r2 : Nat → Nat} {N : Nat} {s0 : Ob} {s1 : Ob} {s2 : Ob} {p1 : Int32} {res : Nat} (hg : Ok g) (C : Cx K g cX7_needPlayer RX7 2 (zrt 6 82)) (T : Tt K (xn res) (wX7 g a0 r0 s0 ++ wX1 g (r0 3) r1 q1_0 s1 ++ wX5 g q1_0 r2 s2) 1 6)  (h : ft_X7_needPlayer_18 N s0 s1 s2 p1  = some res) : Zs K 0 0 (wX7 g a0 r0 s0 ++ wX1 g (r0 3) r1 q1_0 s1 ++ wX5 g q1_0 r2 s2) [] 18 [] := by
  unfold ft_X7_needPlayer_18 at h
  replace h := Option.some.inj h
  subst h
  exact z_thrW (pc := 18) (E := "java/lang/IndexOutOfBoundsException") C T xok_1 (by decide +kernel) wx_RX7_155_159 (str_RX7_367 hg).1 dX7_needPlayer_18 dX7_needPlayer_21 dX7_needPlayer_22 dX7_needPlayer_25 dX7_needPlayer_28 (by decide) (Nat.le_of_ble_eq_true rfl) (by decide) (by decide) (by decide) (by decide)
def ft_X7_needPlayer (N : Nat) (s0 : Ob) (s1 : Ob) (s2 : Ob) (p1 : Int32) : Option (Nat) := (if p1 < 0 then (ft_X7_needPlayer_18 N s0 s1 s2 p1 ) else (if p1 < (s2.1 2) then none else (ft_X7_needPlayer_18 N s0 s1 s2 p1 )))
theorem mt_X7_needPlayer {g : Gp} {a0 : Nat} {r0 : Nat → Nat} {r1 : Nat → Nat} {q1_0 : Nat} {r2 : Nat → Nat} {N : Nat} {s0 : Ob} {s1 : Ob} {s2 : Ob} {p1 : Int32} {res : Nat} (hg : Ok g) (h : ft_X7_needPlayer N s0 s1 s2 p1 = some res) : Tx g yX7_needPlayer cX7_needPlayer 2 none (zrt 6 82) [.ref a0, .int p1] (wX7 g a0 r0 s0 ++ wX1 g (r0 3) r1 q1_0 s1 ++ wX5 g q1_0 r2 s2) (xn res) := by
  refine tx_of rfl hg (by show _ ≤ _; exact Nat.le_of_ble_eq_true rfl) (fun K C T => ?_)
  show Zs K 0 0 (wX7 g a0 r0 s0 ++ wX1 g (r0 3) r1 q1_0 s1 ++ wX5 g q1_0 r2 s2) [(0, .ref a0), (1, .int p1)] 0 []
  unfold ft_X7_needPlayer at h
  refine z_iload_n (pc := 0) (x := p1) C dX7_needPlayer_0 (i := 1) rfl rfl ?_
  refine z_if_lt (pc := 1) C dX7_needPlayer_1 (tgt := 18) (by decide) (fun hc => ?_) (fun hc => ?_)
  · replace h := (ite_e h).1 hc
    refine z_lv (lv' := []) [] rfl ?_
    exact mt_X7_needPlayer_18 (a0 := a0) (r0 := r0) (r1 := r1) (q1_0 := q1_0) (r2 := r2) hg C T  h
  · replace h := (ite_e h).2 hc
    refine z_iload_n (pc := 4) (x := p1) C dX7_needPlayer_4 (i := 1) rfl rfl ?_
    refine z_aload_n (pc := 5) (x := a0) C dX7_needPlayer_5 (i := 0) rfl rfl ?_
    refine z_get (pc := 6) (v := .ref (r0 3)) C 0 dX7_needPlayer_6 fl_RX7_67 rfl rfl ?_
    refine z_get (pc := 9) (v := .ref q1_0) C 4 dX7_needPlayer_9 fl_RX7_100 rfl rfl ?_
    refine z_get (pc := 12) (v := .int (s2.1 2)) C 13 dX7_needPlayer_12 fl_RX7_113 rfl rfl ?_
    refine z_icmp_lt (pc := 15) C dX7_needPlayer_15 (tgt := 29) (by decide) (fun hc => ?_) (fun hc => ?_)
    · replace h := (ite_e h).1 hc
      exact nomatch h
    · replace h := (ite_e h).2 hc
      refine z_lv (lv' := []) [] rfl ?_
      exact mt_X7_needPlayer_18 (a0 := a0) (r0 := r0) (r1 := r1) (q1_0 := q1_0) (r2 := r2) hg C T  h
def ft_X7_hand (N : Nat) (s0 : Ob) (s1 : Ob) (s2 : Ob) (p1 : Int32) : Option (Nat) := (tb (f_X7_needPlayer N s0 s1 s2 p1) (ft_X7_needPlayer N s0 s1 s2 p1) fun x1 => (ob (f_X1_sizeOf N s1 p1) fun x2 => none))
theorem mt_X7_hand {g : Gp} {a0 : Nat} {r0 : Nat → Nat} {r1 : Nat → Nat} {q1_0 : Nat} {r2 : Nat → Nat} {N : Nat} {s0 : Ob} {s1 : Ob} {s2 : Ob} {p1 : Int32} {res : Nat} (hg : Ok g) (h : ft_X7_hand N s0 s1 s2 p1 = some res) : Tx g yX7_hand cX7_hand 2 (some .int) (zrt 7 103) [.ref a0, .int p1] (wX7 g a0 r0 s0 ++ wX1 g (r0 3) r1 q1_0 s1 ++ wX5 g q1_0 r2 s2) (xn res) := by
  refine tx_of rfl hg (by show _ ≤ _; exact Nat.le_of_ble_eq_true rfl) (fun K C T => ?_)
  show Zs K 0 0 (wX7 g a0 r0 s0 ++ wX1 g (r0 3) r1 q1_0 s1 ++ wX5 g q1_0 r2 s2) [(0, .ref a0), (1, .int p1)] 0 []
  unfold ft_X7_hand at h
  refine z_aload_n (pc := 0) (x := a0) C dX7_hand_0 (i := 0) rfl rfl ?_
  refine z_iload_n (pc := 1) (x := p1) C dX7_hand_1 (i := 1) rfl rfl ?_
  rcases tb_e h with ⟨x1, hx1, h⟩ | h
  · refine z_callV (pc := 2) (As := [.int p1]) (rest := []) (wr := ([] : va_W)) C dX7_hand_2 ml_RX7_164 wv_X7_needPlayer (m_X7_needPlayer (a0 := a0) (r0 := r0) (r1 := r1) (q1_0 := q1_0) (r2 := r2) hg hx1) [0, 1, 2, 3, 4, 5, 6, 7, 8, 9, 10, 11, 12, 13, 14, 15, 16] [] rfl rfl ⟨by decide, by decide⟩ (Nat.le_of_ble_eq_true rfl) ⟨by decide, by decide⟩ rfl rfl rfl rfl rfl rfl rfl (by decide) (ex_k C (cs' := 0) (ss' := 0) (wF := (wX7 g a0 r0 s0 ++ wX1 g (r0 3) r1 q1_0 s1 ++ wX5 g q1_0 r2 s2)) [0, 1, 2, 3, 4, 5, 6, 7, 8, 9, 10, 11, 12, 13, 14, 15, 16] rfl rfl ?_)
    refine z_aload_n (pc := 5) (x := a0) C dX7_hand_5 (i := 0) rfl rfl ?_
    refine z_get (pc := 6) (v := .ref (r0 3)) C 0 dX7_hand_6 fl_RX7_67 rfl rfl ?_
    refine z_iload_n (pc := 9) (x := p1) C dX7_hand_9 (i := 1) rfl rfl ?_
    replace h := ob_e h
    obtain ⟨x2, hx2, h⟩ := h
    refine z_callV (pc := 10) (As := [.int p1]) (rest := []) (wr := (wX7 g a0 r0 s0 ++ wX5 g q1_0 r2 s2)) C dX7_hand_10 ml_RX7_167 wv_X1_sizeOf (m_X1_sizeOf (a0 := (r0 3)) (r0 := r1) (q0_0 := q1_0) hg hx2) [4, 5, 6, 7, 8, 9, 10, 11, 12] [0, 1, 2, 3, 13, 14, 15, 16] rfl rfl ⟨by decide, by decide⟩ (Nat.le_of_ble_eq_true rfl) ⟨by decide, by decide⟩ rfl rfl rfl rfl rfl rfl rfl (by decide) (ex_k C (cs' := 0) (ss' := 0) (wF := (wX7 g a0 r0 s0 ++ wX1 g (r0 3) r1 q1_0 s1 ++ wX5 g q1_0 r2 s2)) [0, 1, 2, 3, 8, 9, 10, 11, 12, 13, 14, 15, 16, 4, 5, 6, 7] rfl rfl ?_)
    exact nomatch h
  · exact z_callVT (pc := 2) (As := [.int p1]) (rest := []) (wr := ([] : va_W)) C T dX7_hand_2 ml_RX7_164 wv_X7_needPlayer (mt_X7_needPlayer (a0 := a0) (r0 := r0) (r1 := r1) (q1_0 := q1_0) (r2 := r2) hg h) [0, 1, 2, 3, 4, 5, 6, 7, 8, 9, 10, 11, 12, 13, 14, 15, 16] [] [0, 1, 2, 3, 4, 5, 6, 7, 8, 9, 10, 11, 12, 13, 14, 15, 16] rfl rfl ⟨by decide, by decide⟩ (Nat.le_of_ble_eq_true rfl) ⟨by decide, by decide⟩ rfl rfl rfl rfl rfl rfl rfl (by decide) rfl (by decide) (by decide)
def ft_X7_needCard (N : Nat) (s0 : Ob) (s1 : Ob) (s2 : Ob) (p1 : Int32) (p2 : Int32) : Option (Nat) := (tb (f_X7_needPlayer N s0 s1 s2 p1) (ft_X7_needPlayer N s0 s1 s2 p1) fun x1 => (ob (f_X1_cardAt N s1 p1 p2) fun x2 => (if x2 = (-1 : Int32) then (some 1) else none)))
theorem mt_X7_needCard {g : Gp} {a0 : Nat} {r0 : Nat → Nat} {r1 : Nat → Nat} {q1_0 : Nat} {r2 : Nat → Nat} {N : Nat} {s0 : Ob} {s1 : Ob} {s2 : Ob} {p1 : Int32} {p2 : Int32} {res : Nat} (hg : Ok g) (h : ft_X7_needCard N s0 s1 s2 p1 p2 = some res) : Tx g yX7_needCard cX7_needCard 4 (some .int) (zrt 7 103) [.ref a0, .int p1, .int p2] (wX7 g a0 r0 s0 ++ wX1 g (r0 3) r1 q1_0 s1 ++ wX5 g q1_0 r2 s2) (xn res) := by
  refine tx_of rfl hg (by show _ ≤ _; exact Nat.le_of_ble_eq_true rfl) (fun K C T => ?_)
  show Zs K 0 0 (wX7 g a0 r0 s0 ++ wX1 g (r0 3) r1 q1_0 s1 ++ wX5 g q1_0 r2 s2) [(0, .ref a0), (1, .int p1), (2, .int p2)] 0 []
  unfold ft_X7_needCard at h
  refine z_aload_n (pc := 0) (x := a0) C dX7_needCard_0 (i := 0) rfl rfl ?_
  refine z_iload_n (pc := 1) (x := p1) C dX7_needCard_1 (i := 1) rfl rfl ?_
  rcases tb_e h with ⟨x1, hx1, h⟩ | h
  · refine z_callV (pc := 2) (As := [.int p1]) (rest := []) (wr := ([] : va_W)) C dX7_needCard_2 ml_RX7_164 wv_X7_needPlayer (m_X7_needPlayer (a0 := a0) (r0 := r0) (r1 := r1) (q1_0 := q1_0) (r2 := r2) hg hx1) [0, 1, 2, 3, 4, 5, 6, 7, 8, 9, 10, 11, 12, 13, 14, 15, 16] [] rfl rfl ⟨by decide, by decide⟩ (Nat.le_of_ble_eq_true rfl) ⟨by decide, by decide⟩ rfl rfl rfl rfl rfl rfl rfl (by decide) (ex_k C (cs' := 0) (ss' := 0) (wF := (wX7 g a0 r0 s0 ++ wX1 g (r0 3) r1 q1_0 s1 ++ wX5 g q1_0 r2 s2)) [0, 1, 2, 3, 4, 5, 6, 7, 8, 9, 10, 11, 12, 13, 14, 15, 16] rfl rfl ?_)
    refine z_aload_n (pc := 5) (x := a0) C dX7_needCard_5 (i := 0) rfl rfl ?_
    refine z_get (pc := 6) (v := .ref (r0 3)) C 0 dX7_needCard_6 fl_RX7_67 rfl rfl ?_
    refine z_iload_n (pc := 9) (x := p1) C dX7_needCard_9 (i := 1) rfl rfl ?_
    refine z_iload_n (pc := 10) (x := p2) C dX7_needCard_10 (i := 2) rfl rfl ?_
    replace h := ob_e h
    obtain ⟨x2, hx2, h⟩ := h
    refine z_callV (pc := 11) (As := [.int p1, .int p2]) (rest := []) (wr := (wX7 g a0 r0 s0 ++ wX5 g q1_0 r2 s2)) C dX7_needCard_11 ml_RX7_354 wv_X1_cardAt (m_X1_cardAt (a0 := (r0 3)) (r0 := r1) (q0_0 := q1_0) hg hx2) [4, 5, 6, 7, 8, 9, 10, 11, 12] [0, 1, 2, 3, 13, 14, 15, 16] rfl rfl ⟨by decide, by decide⟩ (Nat.le_of_ble_eq_true rfl) ⟨by decide, by decide⟩ rfl rfl rfl rfl rfl rfl rfl (by decide) (ex_k C (cs' := 0) (ss' := 0) (wF := (wX7 g a0 r0 s0 ++ wX1 g (r0 3) r1 q1_0 s1 ++ wX5 g q1_0 r2 s2)) [0, 1, 2, 3, 8, 9, 10, 11, 12, 13, 14, 15, 16, 4, 5, 6, 7] rfl rfl ?_)
    refine z_istore_n (pc := 14) C dX7_needCard_14 (i := 3) rfl (by decide) (lv' := [(3, .int x2), (0, .ref a0), (1, .int p1), (2, .int p2)]) rfl ?_
    refine z_iload_n (pc := 15) (x := x2) C dX7_needCard_15 (i := 3) rfl rfl ?_
    refine z_iconst (pc := 16) C dX7_needCard_16 ic_m1 ?_
    refine z_icmp_ne (pc := 17) C dX7_needCard_17 (tgt := 31) (by decide) (fun hc => ?_) (fun hc => ?_)
    · replace h := (ite_e h).2 hc
      refine z_iload_n (pc := 31) (x := x2) C dX7_needCard_31 (i := 3) rfl rfl ?_
      exact nomatch h
    · replace h := (ite_e h).1 hc
      replace h := Option.some.inj h
      subst h
      exact z_thrW (pc := 20) (E := "java/lang/IndexOutOfBoundsException") C T xok_1 (by decide +kernel) wx_RX7_155_159 (str_RX7_369 hg).1 dX7_needCard_20 dX7_needCard_23 dX7_needCard_24 dX7_needCard_27 dX7_needCard_30 (by decide) (Nat.le_of_ble_eq_true rfl) (by decide) (by decide) (by decide) (by decide)
  · exact z_callVT (pc := 2) (As := [.int p1]) (rest := []) (wr := ([] : va_W)) C T dX7_needCard_2 ml_RX7_164 wv_X7_needPlayer (mt_X7_needPlayer (a0 := a0) (r0 := r0) (r1 := r1) (q1_0 := q1_0) (r2 := r2) hg h) [0, 1, 2, 3, 4, 5, 6, 7, 8, 9, 10, 11, 12, 13, 14, 15, 16] [] [0, 1, 2, 3, 4, 5, 6, 7, 8, 9, 10, 11, 12, 13, 14, 15, 16] rfl rfl ⟨by decide, by decide⟩ (Nat.le_of_ble_eq_true rfl) ⟨by decide, by decide⟩ rfl rfl rfl rfl rfl rfl rfl (by decide) rfl (by decide) (by decide)
def ft_X7_card (N : Nat) (s0 : Ob) (s1 : Ob) (s2 : Ob) (p1 : Int32) (p2 : Int32) : Option (Nat) := (tb (f_X7_needCard N s0 s1 s2 p1 p2) (ft_X7_needCard N s0 s1 s2 p1 p2) fun x1 => (ob (f_X1_kindOf N s1 s2 x1) fun x2 => (ob (f_X7_codeOf N x2) fun x3 => none)))
theorem mt_X7_card {g : Gp} {a0 : Nat} {r0 : Nat → Nat} {r1 : Nat → Nat} {q1_0 : Nat} {r2 : Nat → Nat} {N : Nat} {s0 : Ob} {s1 : Ob} {s2 : Ob} {p1 : Int32} {p2 : Int32} {res : Nat} (hg : Ok g) (h : ft_X7_card N s0 s1 s2 p1 p2 = some res) : Tx g yX7_card cX7_card 3 (some .int) (zrt 8 126) [.ref a0, .int p1, .int p2] (wX7 g a0 r0 s0 ++ wX1 g (r0 3) r1 q1_0 s1 ++ wX5 g q1_0 r2 s2) (xn res) := by
  refine tx_of rfl hg (by show _ ≤ _; exact Nat.le_of_ble_eq_true rfl) (fun K C T => ?_)
  show Zs K 0 0 (wX7 g a0 r0 s0 ++ wX1 g (r0 3) r1 q1_0 s1 ++ wX5 g q1_0 r2 s2) [(0, .ref a0), (1, .int p1), (2, .int p2)] 0 []
  unfold ft_X7_card at h
  refine z_aload_n (pc := 0) (x := a0) C dX7_card_0 (i := 0) rfl rfl ?_
  refine z_get (pc := 1) (v := .ref (r0 3)) C 0 dX7_card_1 fl_RX7_67 rfl rfl ?_
  refine z_aload_n (pc := 4) (x := a0) C dX7_card_4 (i := 0) rfl rfl ?_
  refine z_iload_n (pc := 5) (x := p1) C dX7_card_5 (i := 1) rfl rfl ?_
  refine z_iload_n (pc := 6) (x := p2) C dX7_card_6 (i := 2) rfl rfl ?_
  rcases tb_e h with ⟨x1, hx1, h⟩ | h
  · refine z_callV (pc := 7) (As := [.int p1, .int p2]) (rest := [.ref (r0 3)]) (wr := ([] : va_W)) C dX7_card_7 ml_RX7_170 wv_X7_needCard (m_X7_needCard (a0 := a0) (r0 := r0) (r1 := r1) (q1_0 := q1_0) (r2 := r2) hg hx1) [0, 1, 2, 3, 4, 5, 6, 7, 8, 9, 10, 11, 12, 13, 14, 15, 16] [] rfl rfl ⟨by decide, by decide⟩ (Nat.le_of_ble_eq_true rfl) ⟨by decide, by decide⟩ rfl rfl rfl rfl rfl rfl rfl (by decide) (ex_k C (cs' := 0) (ss' := 0) (wF := (wX7 g a0 r0 s0 ++ wX1 g (r0 3) r1 q1_0 s1 ++ wX5 g q1_0 r2 s2)) [0, 1, 2, 3, 4, 5, 6, 7, 8, 9, 10, 11, 12, 13, 14, 15, 16] rfl rfl ?_)
    replace h := ob_e h
    obtain ⟨x2, hx2, h⟩ := h
    refine z_callV (pc := 10) (As := [.int x1]) (rest := []) (wr := (wX7 g a0 r0 s0)) C dX7_card_10 ml_RX7_174 wv_X1_kindOf (m_X1_kindOf (a0 := (r0 3)) (r0 := r1) (q0_0 := q1_0) (r1 := r2) hg hx2) [4, 5, 6, 7, 8, 9, 10, 11, 12, 13, 14, 15, 16] [0, 1, 2, 3] rfl rfl ⟨by decide, by decide⟩ (Nat.le_of_ble_eq_true rfl) ⟨by decide, by decide⟩ rfl rfl rfl rfl rfl rfl rfl (by decide) (ex_k C (cs' := 0) (ss' := 0) (wF := (wX7 g a0 r0 s0 ++ wX1 g (r0 3) r1 q1_0 s1 ++ wX5 g q1_0 r2 s2)) [0, 1, 2, 3, 4, 5, 6, 7, 8, 9, 10, 11, 12, 13, 14, 15, 16] rfl rfl ?_)
    replace h := ob_e h
    obtain ⟨x3, hx3, h⟩ := h
    refine z_callS (pc := 13) (As := [.int x2]) (rest := []) (wr := (wX7 g a0 r0 s0 ++ wX1 g (r0 3) r1 q1_0 s1 ++ wX5 g q1_0 r2 s2)) C dX7_card_13 ml_RX7_177 wt_X7_codeOf (m_X7_codeOf hg hx3) [] [0, 1, 2, 3, 4, 5, 6, 7, 8, 9, 10, 11, 12, 13, 14, 15, 16] rfl rfl ⟨by decide, by decide⟩ (Nat.le_of_ble_eq_true rfl) ⟨by decide, by decide⟩ rfl rfl rfl rfl (by decide) (ex_k C (cs' := 0) (ss' := 0) (wF := (wX7 g a0 r0 s0 ++ wX1 g (r0 3) r1 q1_0 s1 ++ wX5 g q1_0 r2 s2)) [0, 1, 2, 3, 4, 5, 6, 7, 8, 9, 10, 11, 12, 13, 14, 15, 16] rfl rfl ?_)
    exact nomatch h
  · exact z_callVT (pc := 7) (As := [.int p1, .int p2]) (rest := [.ref (r0 3)]) (wr := ([] : va_W)) C T dX7_card_7 ml_RX7_170 wv_X7_needCard (mt_X7_needCard (a0 := a0) (r0 := r0) (r1 := r1) (q1_0 := q1_0) (r2 := r2) hg h) [0, 1, 2, 3, 4, 5, 6, 7, 8, 9, 10, 11, 12, 13, 14, 15, 16] [] [0, 1, 2, 3, 4, 5, 6, 7, 8, 9, 10, 11, 12, 13, 14, 15, 16] rfl rfl ⟨by decide, by decide⟩ (Nat.le_of_ble_eq_true rfl) ⟨by decide, by decide⟩ rfl rfl rfl rfl rfl rfl rfl (by decide) rfl (by decide) (by decide)
def ft_X7_needKind_37 (N : Nat) (s0 : Ob) (s1 : Ob) (s2 : Ob) (p1 : Int32) (p2 : Int32)   : Option (Nat) := (some 1)
theorem mt_X7_needKind_37 {K : Kt} {g : Gp} {a0 : Nat} {r0 : Nat → Nat} {r1 : Nat → Nat} {q1_0 : Nat} {r2 : Nat → Nat} {N : Nat} {s0 : Ob} {s1 : Ob} {s2 : Ob} {p1 : Int32} {p2 : Int32} {res : Nat} (hg : Ok g) (C : Cx K g cX7_needKind RX7 3 (zrt 6 82)) (T : Tt K (xn res) (wX7 g a0 r0 s0 ++ wX1 g (r0 3) r1 q1_0 s1 ++ wX5 g q1_0 r2 s2) 1 6)  (h : ft_X7_needKind_37 N s0 s1 s2 p1 p2  = some res) : Zs K 0 0 (wX7 g a0 r0 s0 ++ wX1 g (r0 3) r1 q1_0 s1 ++ wX5 g q1_0 r2 s2) [] 37 [] := by
  unfold ft_X7_needKind_37 at h
  replace h := Option.some.inj h
  subst h
  exact z_thrW (pc := 37) (E := "java/lang/IndexOutOfBoundsException") C T xok_1 (by decide +kernel) wx_RX7_155_159 (str_RX7_371 hg).1 dX7_needKind_37 dX7_needKind_40 dX7_needKind_41 dX7_needKind_44 dX7_needKind_47 (by decide) (Nat.le_of_ble_eq_true rfl) (by decide) (by decide) (by decide) (by decide)
def ft_X7_needKind (N : Nat) (s0 : Ob) (s1 : Ob) (s2 : Ob) (p1 : Int32) (p2 : Int32) : Option (Nat) := (if p1 < 0 then (ft_X7_needKind_37 N s0 s1 s2 p1 p2 ) else (if (s2.1 0) ≤ p1 then (ft_X7_needKind_37 N s0 s1 s2 p1 p2 ) else (if p2 < (1 : Int32) then (ft_X7_needKind_37 N s0 s1 s2 p1 p2 ) else (if p2 ≤ (s2.1 1) then none else (ft_X7_needKind_37 N s0 s1 s2 p1 p2 )))))
theorem mt_X7_needKind {g : Gp} {a0 : Nat} {r0 : Nat → Nat} {r1 : Nat → Nat} {q1_0 : Nat} {r2 : Nat → Nat} {N : Nat} {s0 : Ob} {s1 : Ob} {s2 : Ob} {p1 : Int32} {p2 : Int32} {res : Nat} (hg : Ok g) (h : ft_X7_needKind N s0 s1 s2 p1 p2 = some res) : Tx g yX7_needKind cX7_needKind 3 (some .int) (zrt 6 82) [.ref a0, .int p1, .int p2] (wX7 g a0 r0 s0 ++ wX1 g (r0 3) r1 q1_0 s1 ++ wX5 g q1_0 r2 s2) (xn res) := by
  refine tx_of rfl hg (by show _ ≤ _; exact Nat.le_of_ble_eq_true rfl) (fun K C T => ?_)
  show Zs K 0 0 (wX7 g a0 r0 s0 ++ wX1 g (r0 3) r1 q1_0 s1 ++ wX5 g q1_0 r2 s2) [(0, .ref a0), (1, .int p1), (2, .int p2)] 0 []
  unfold ft_X7_needKind at h
  refine z_iload_n (pc := 0) (x := p1) C dX7_needKind_0 (i := 1) rfl rfl ?_
  refine z_if_lt (pc := 1) C dX7_needKind_1 (tgt := 37) (by decide) (fun hc => ?_) (fun hc => ?_)
  · replace h := (ite_e h).1 hc
    refine z_lv (lv' := []) [] rfl ?_
    exact mt_X7_needKind_37 (a0 := a0) (r0 := r0) (r1 := r1) (q1_0 := q1_0) (r2 := r2) hg C T  h
  · replace h := (ite_e h).2 hc
    refine z_iload_n (pc := 4) (x := p1) C dX7_needKind_4 (i := 1) rfl rfl ?_
    refine z_aload_n (pc := 5) (x := a0) C dX7_needKind_5 (i := 0) rfl rfl ?_
    refine z_get (pc := 6) (v := .ref (r0 3)) C 0 dX7_needKind_6 fl_RX7_67 rfl rfl ?_
    refine z_get (pc := 9) (v := .ref q1_0) C 4 dX7_needKind_9 fl_RX7_100 rfl rfl ?_
    refine z_get (pc := 12) (v := .int (s2.1 0)) C 13 dX7_needKind_12 fl_RX7_107 rfl rfl ?_
    refine z_icmp_ge (pc := 15) C dX7_needKind_15 (tgt := 37) (by decide) (fun hc => ?_) (fun hc => ?_)
    · replace h := (ite_e h).1 hc
      refine z_lv (lv' := []) [] rfl ?_
      exact mt_X7_needKind_37 (a0 := a0) (r0 := r0) (r1 := r1) (q1_0 := q1_0) (r2 := r2) hg C T  h
    · replace h := (ite_e h).2 hc
      refine z_iload_n (pc := 18) (x := p2) C dX7_needKind_18 (i := 2) rfl rfl ?_
      refine z_iconst (pc := 19) C dX7_needKind_19 ic_1 ?_
      refine z_icmp_lt (pc := 20) C dX7_needKind_20 (tgt := 37) (by decide) (fun hc => ?_) (fun hc => ?_)
      · replace h := (ite_e h).1 hc
        refine z_lv (lv' := []) [] rfl ?_
        exact mt_X7_needKind_37 (a0 := a0) (r0 := r0) (r1 := r1) (q1_0 := q1_0) (r2 := r2) hg C T  h
      · replace h := (ite_e h).2 hc
        refine z_iload_n (pc := 23) (x := p2) C dX7_needKind_23 (i := 2) rfl rfl ?_
        refine z_aload_n (pc := 24) (x := a0) C dX7_needKind_24 (i := 0) rfl rfl ?_
        refine z_get (pc := 25) (v := .ref (r0 3)) C 0 dX7_needKind_25 fl_RX7_67 rfl rfl ?_
        refine z_get (pc := 28) (v := .ref q1_0) C 4 dX7_needKind_28 fl_RX7_100 rfl rfl ?_
        refine z_get (pc := 31) (v := .int (s2.1 1)) C 13 dX7_needKind_31 fl_RX7_110 rfl rfl ?_
        refine z_icmp_le (pc := 34) C dX7_needKind_34 (tgt := 48) (by decide) (fun hc => ?_) (fun hc => ?_)
        · replace h := (ite_e h).1 hc
          refine z_iload_n (pc := 48) (x := p1) C dX7_needKind_48 (i := 1) rfl rfl ?_
          refine z_iconst (pc := 49) C dX7_needKind_49 ic_5 ?_
          refine z_imul (pc := 50) C dX7_needKind_50 ?_
          refine z_iload_n (pc := 51) (x := p2) C dX7_needKind_51 (i := 2) rfl rfl ?_
          refine z_iadd (pc := 52) C dX7_needKind_52 ?_
          refine z_iconst (pc := 53) C dX7_needKind_53 ic_1 ?_
          refine z_isub (pc := 54) C dX7_needKind_54 ?_
          exact nomatch h
        · replace h := (ite_e h).2 hc
          refine z_lv (lv' := []) [] rfl ?_
          exact mt_X7_needKind_37 (a0 := a0) (r0 := r0) (r1 := r1) (q1_0 := q1_0) (r2 := r2) hg C T  h
def ft_X7_copies (N : Nat) (s0 : Ob) (s1 : Ob) (s2 : Ob) (p1 : Int32) (p2 : Int32) (p3 : Int32) : Option (Nat) := (tb (f_X7_needKind N s0 s1 s2 p1 p2) (ft_X7_needKind N s0 s1 s2 p1 p2) fun x1 => (if p3 = (0 : Int32) then (ob (f_X5_copiesOf N s2 x1) fun x2 => none) else (if p3 = (1 : Int32) then (ob (f_X1_inHeap N s1 x1) fun x3 => none) else (if p3 = (2 : Int32) then (ob (f_X1_inHands N s1 s2 x1) fun x4 => none) else (if p3 = (3 : Int32) then (ob (f_X1_toBeDrawn N s1 s2 x1) fun x5 => none) else (some 2))))))
theorem mt_X7_copies {g : Gp} {a0 : Nat} {r0 : Nat → Nat} {r1 : Nat → Nat} {q1_0 : Nat} {r2 : Nat → Nat} {N : Nat} {s0 : Ob} {s1 : Ob} {s2 : Ob} {p1 : Int32} {p2 : Int32} {p3 : Int32} {res : Nat} (hg : Ok g) (h : ft_X7_copies N s0 s1 s2 p1 p2 p3 = some res) : Tx g yX7_copies cX7_copies 5 (some .int) (zrt 7 104) [.ref a0, .int p1, .int p2, .int p3] (wX7 g a0 r0 s0 ++ wX1 g (r0 3) r1 q1_0 s1 ++ wX5 g q1_0 r2 s2) (xn res) := by
  refine tx_of rfl hg (by show _ ≤ _; exact Nat.le_of_ble_eq_true rfl) (fun K C T => ?_)
  show Zs K 0 0 (wX7 g a0 r0 s0 ++ wX1 g (r0 3) r1 q1_0 s1 ++ wX5 g q1_0 r2 s2) [(0, .ref a0), (1, .int p1), (2, .int p2), (3, .int p3)] 0 []
  unfold ft_X7_copies at h
  refine z_aload_n (pc := 0) (x := a0) C dX7_copies_0 (i := 0) rfl rfl ?_
  refine z_iload_n (pc := 1) (x := p1) C dX7_copies_1 (i := 1) rfl rfl ?_
  refine z_iload_n (pc := 2) (x := p2) C dX7_copies_2 (i := 2) rfl rfl ?_
  rcases tb_e h with ⟨x1, hx1, h⟩ | h
  · refine z_callV (pc := 3) (As := [.int p1, .int p2]) (rest := []) (wr := ([] : va_W)) C dX7_copies_3 ml_RX7_180 wv_X7_needKind (m_X7_needKind (a0 := a0) (r0 := r0) (r1 := r1) (q1_0 := q1_0) (r2 := r2) hg hx1) [0, 1, 2, 3, 4, 5, 6, 7, 8, 9, 10, 11, 12, 13, 14, 15, 16] [] rfl rfl ⟨by decide, by decide⟩ (Nat.le_of_ble_eq_true rfl) ⟨by decide, by decide⟩ rfl rfl rfl rfl rfl rfl rfl (by decide) (ex_k C (cs' := 0) (ss' := 0) (wF := (wX7 g a0 r0 s0 ++ wX1 g (r0 3) r1 q1_0 s1 ++ wX5 g q1_0 r2 s2)) [0, 1, 2, 3, 4, 5, 6, 7, 8, 9, 10, 11, 12, 13, 14, 15, 16] rfl rfl ?_)
    refine z_istore (pc := 6) C dX7_copies_6 (by decide) (lv' := [(4, .int x1), (0, .ref a0), (1, .int p1), (2, .int p2), (3, .int p3)]) rfl ?_
    refine z_iload_n (pc := 8) (x := p3) C dX7_copies_8 (i := 3) rfl rfl ?_
    refine (Decidable.em (p3 = (0 : Int32))).elim (fun hc => ?_) (fun hn0 => ?_)
    · refine z_tswIn (pc := 9) C (0 : Int32) dX7_copies_9 hc (by decide) (by decide) (off := 31) rfl (tgt := 40) (by decide) ?_
      replace h := (ite_e h).1 hc
      refine z_aload_n (pc := 40) (x := a0) C dX7_copies_40 (i := 0) rfl rfl ?_
      refine z_get (pc := 41) (v := .ref (r0 3)) C 0 dX7_copies_41 fl_RX7_67 rfl rfl ?_
      refine z_get (pc := 44) (v := .ref q1_0) C 4 dX7_copies_44 fl_RX7_100 rfl rfl ?_
      refine z_iload (pc := 47) (x := x1) C dX7_copies_47 rfl ?_
      replace h := ob_e h
      obtain ⟨x2, hx2, h⟩ := h
      refine z_callV (pc := 49) (As := [.int x1]) (rest := []) (wr := (wX7 g a0 r0 s0 ++ wX1 g (r0 3) r1 q1_0 s1)) C dX7_copies_49 ml_RX7_183 wv_X5_copiesOf (m_X5_copiesOf (a0 := q1_0) (r0 := r2) hg hx2) [13, 14, 15, 16] [0, 1, 2, 3, 4, 5, 6, 7, 8, 9, 10, 11, 12] rfl rfl ⟨by decide, by decide⟩ (Nat.le_of_ble_eq_true rfl) ⟨by decide, by decide⟩ rfl rfl rfl rfl rfl rfl rfl (by decide) (ex_k C (cs' := 0) (ss' := 0) (wF := (wX7 g a0 r0 s0 ++ wX1 g (r0 3) r1 q1_0 s1 ++ wX5 g q1_0 r2 s2)) [0, 1, 2, 3, 4, 5, 6, 7, 8, 9, 10, 11, 12, 13, 14, 15, 16] rfl rfl ?_)
      exact nomatch h
    replace h := (ite_e h).2 hn0
    refine (Decidable.em (p3 = (1 : Int32))).elim (fun hc => ?_) (fun hn1 => ?_)
    · refine z_tswIn (pc := 9) C (1 : Int32) dX7_copies_9 hc (by decide) (by decide) (off := 44) rfl (tgt := 53) (by decide) ?_
      replace h := (ite_e h).1 hc
      refine z_aload_n (pc := 53) (x := a0) C dX7_copies_53 (i := 0) rfl rfl ?_
      refine z_get (pc := 54) (v := .ref (r0 3)) C 0 dX7_copies_54 fl_RX7_67 rfl rfl ?_
      refine z_iload (pc := 57) (x := x1) C dX7_copies_57 rfl ?_
      replace h := ob_e h
      obtain ⟨x3, hx3, h⟩ := h
      refine z_callV (pc := 59) (As := [.int x1]) (rest := []) (wr := (wX7 g a0 r0 s0 ++ wX5 g q1_0 r2 s2)) C dX7_copies_59 ml_RX7_186 wv_X1_inHeap (m_X1_inHeap (a0 := (r0 3)) (r0 := r1) (q0_0 := q1_0) hg hx3) [4, 5, 6, 7, 8, 9, 10, 11, 12] [0, 1, 2, 3, 13, 14, 15, 16] rfl rfl ⟨by decide, by decide⟩ (Nat.le_of_ble_eq_true rfl) ⟨by decide, by decide⟩ rfl rfl rfl rfl rfl rfl rfl (by decide) (ex_k C (cs' := 0) (ss' := 0) (wF := (wX7 g a0 r0 s0 ++ wX1 g (r0 3) r1 q1_0 s1 ++ wX5 g q1_0 r2 s2)) [0, 1, 2, 3, 8, 9, 10, 11, 12, 13, 14, 15, 16, 4, 5, 6, 7] rfl rfl ?_)
      exact nomatch h
    replace h := (ite_e h).2 hn1
    refine (Decidable.em (p3 = (2 : Int32))).elim (fun hc => ?_) (fun hn2 => ?_)
    · refine z_tswIn (pc := 9) C (2 : Int32) dX7_copies_9 hc (by decide) (by decide) (off := 54) rfl (tgt := 63) (by decide) ?_
      replace h := (ite_e h).1 hc
      refine z_aload_n (pc := 63) (x := a0) C dX7_copies_63 (i := 0) rfl rfl ?_
      refine z_get (pc := 64) (v := .ref (r0 3)) C 0 dX7_copies_64 fl_RX7_67 rfl rfl ?_
      refine z_iload (pc := 67) (x := x1) C dX7_copies_67 rfl ?_
      replace h := ob_e h
      obtain ⟨x4, hx4, h⟩ := h
      refine z_callV (pc := 69) (As := [.int x1]) (rest := []) (wr := (wX7 g a0 r0 s0)) C dX7_copies_69 ml_RX7_189 wv_X1_inHands (m_X1_inHands (a0 := (r0 3)) (r0 := r1) (q0_0 := q1_0) (r1 := r2) hg hx4) [4, 5, 6, 7, 8, 9, 10, 11, 12, 13, 14, 15, 16] [0, 1, 2, 3] rfl rfl ⟨by decide, by decide⟩ (Nat.le_of_ble_eq_true rfl) ⟨by decide, by decide⟩ rfl rfl rfl rfl rfl rfl rfl (by decide) (ex_k C (cs' := 0) (ss' := 0) (wF := (wX7 g a0 r0 s0 ++ wX1 g (r0 3) r1 q1_0 s1 ++ wX5 g q1_0 r2 s2)) [0, 1, 2, 3, 4, 5, 6, 7, 8, 9, 10, 11, 12, 13, 14, 15, 16] rfl rfl ?_)
      exact nomatch h
    replace h := (ite_e h).2 hn2
    refine (Decidable.em (p3 = (3 : Int32))).elim (fun hc => ?_) (fun hn3 => ?_)
    · refine z_tswIn (pc := 9) C (3 : Int32) dX7_copies_9 hc (by decide) (by decide) (off := 64) rfl (tgt := 73) (by decide) ?_
      replace h := (ite_e h).1 hc
      refine z_aload_n (pc := 73) (x := a0) C dX7_copies_73 (i := 0) rfl rfl ?_
      refine z_get (pc := 74) (v := .ref (r0 3)) C 0 dX7_copies_74 fl_RX7_67 rfl rfl ?_
      refine z_iload (pc := 77) (x := x1) C dX7_copies_77 rfl ?_
      replace h := ob_e h
      obtain ⟨x5, hx5, h⟩ := h
      refine z_callV (pc := 79) (As := [.int x1]) (rest := []) (wr := (wX7 g a0 r0 s0)) C dX7_copies_79 ml_RX7_192 wv_X1_toBeDrawn (m_X1_toBeDrawn (a0 := (r0 3)) (r0 := r1) (q0_0 := q1_0) (r1 := r2) hg hx5) [4, 5, 6, 7, 8, 9, 10, 11, 12, 13, 14, 15, 16] [0, 1, 2, 3] rfl rfl ⟨by decide, by decide⟩ (Nat.le_of_ble_eq_true rfl) ⟨by decide, by decide⟩ rfl rfl rfl rfl rfl rfl rfl (by decide) (ex_k C (cs' := 0) (ss' := 0) (wF := (wX7 g a0 r0 s0 ++ wX1 g (r0 3) r1 q1_0 s1 ++ wX5 g q1_0 r2 s2)) [0, 1, 2, 3, 4, 5, 6, 7, 8, 9, 10, 11, 12, 13, 14, 15, 16] rfl rfl ?_)
      exact nomatch h
    replace h := (ite_e h).2 hn3
    refine z_tswOut (pc := 9) C dX7_copies_9 (by have e0 := lv_neT hn0 (a := 0) (by decide); have e1 := lv_neT hn1 (a := 1) (by decide); have e2 := lv_neT hn2 (a := 2) (by decide); have e3 := lv_neT hn3 (a := 3) (by decide); omega) (tgt := 83) (by decide) ?_
    replace h := Option.some.inj h
    subst h
    exact z_thr (pc := 83) (E := "java/lang/IllegalArgumentException") C T xok_2 (by decide +kernel) wx_RX7_138_142 (str_RX7_140 hg).1 dX7_copies_83 dX7_copies_86 dX7_copies_87 dX7_copies_89 dX7_copies_92 (by decide) (Nat.le_of_ble_eq_true rfl) (by decide) (by decide) (by decide) (by decide)
  · exact z_callVT (pc := 3) (As := [.int p1, .int p2]) (rest := []) (wr := ([] : va_W)) C T dX7_copies_3 ml_RX7_180 wv_X7_needKind (mt_X7_needKind (a0 := a0) (r0 := r0) (r1 := r1) (q1_0 := q1_0) (r2 := r2) hg h) [0, 1, 2, 3, 4, 5, 6, 7, 8, 9, 10, 11, 12, 13, 14, 15, 16] [] [0, 1, 2, 3, 4, 5, 6, 7, 8, 9, 10, 11, 12, 13, 14, 15, 16] rfl rfl ⟨by decide, by decide⟩ (Nat.le_of_ble_eq_true rfl) ⟨by decide, by decide⟩ rfl rfl rfl rfl rfl rfl rfl (by decide) rfl (by decide) (by decide)
def ft_X7_isUseless (N : Nat) (s0 : Ob) (s1 : Ob) (s2 : Ob) (p1 : Int32) (p2 : Int32) : Option (Nat) := (tb (f_X7_needKind N s0 s1 s2 p1 p2) (ft_X7_needKind N s0 s1 s2 p1 p2) fun x1 => (ob (f_X1_isOfUse N s1 s2 x1) fun x2 => (if x2 = 0 then none else none)))
theorem mt_X7_isUseless {g : Gp} {a0 : Nat} {r0 : Nat → Nat} {r1 : Nat → Nat} {q1_0 : Nat} {r2 : Nat → Nat} {N : Nat} {s0 : Ob} {s1 : Ob} {s2 : Ob} {p1 : Int32} {p2 : Int32} {res : Nat} (hg : Ok g) (h : ft_X7_isUseless N s0 s1 s2 p1 p2 = some res) : Tx g yX7_isUseless cX7_isUseless 3 (some .boolean) (zrt 7 104) [.ref a0, .int p1, .int p2] (wX7 g a0 r0 s0 ++ wX1 g (r0 3) r1 q1_0 s1 ++ wX5 g q1_0 r2 s2) (xn res) := by
  refine tx_of rfl hg (by show _ ≤ _; exact Nat.le_of_ble_eq_true rfl) (fun K C T => ?_)
  show Zs K 0 0 (wX7 g a0 r0 s0 ++ wX1 g (r0 3) r1 q1_0 s1 ++ wX5 g q1_0 r2 s2) [(0, .ref a0), (1, .int p1), (2, .int p2)] 0 []
  unfold ft_X7_isUseless at h
  refine z_aload_n (pc := 0) (x := a0) C dX7_isUseless_0 (i := 0) rfl rfl ?_
  refine z_get (pc := 1) (v := .ref (r0 3)) C 0 dX7_isUseless_1 fl_RX7_67 rfl rfl ?_
  refine z_aload_n (pc := 4) (x := a0) C dX7_isUseless_4 (i := 0) rfl rfl ?_
  refine z_iload_n (pc := 5) (x := p1) C dX7_isUseless_5 (i := 1) rfl rfl ?_
  refine z_iload_n (pc := 6) (x := p2) C dX7_isUseless_6 (i := 2) rfl rfl ?_
  rcases tb_e h with ⟨x1, hx1, h⟩ | h
  · refine z_callV (pc := 7) (As := [.int p1, .int p2]) (rest := [.ref (r0 3)]) (wr := ([] : va_W)) C dX7_isUseless_7 ml_RX7_180 wv_X7_needKind (m_X7_needKind (a0 := a0) (r0 := r0) (r1 := r1) (q1_0 := q1_0) (r2 := r2) hg hx1) [0, 1, 2, 3, 4, 5, 6, 7, 8, 9, 10, 11, 12, 13, 14, 15, 16] [] rfl rfl ⟨by decide, by decide⟩ (Nat.le_of_ble_eq_true rfl) ⟨by decide, by decide⟩ rfl rfl rfl rfl rfl rfl rfl (by decide) (ex_k C (cs' := 0) (ss' := 0) (wF := (wX7 g a0 r0 s0 ++ wX1 g (r0 3) r1 q1_0 s1 ++ wX5 g q1_0 r2 s2)) [0, 1, 2, 3, 4, 5, 6, 7, 8, 9, 10, 11, 12, 13, 14, 15, 16] rfl rfl ?_)
    replace h := ob_e h
    obtain ⟨x2, hx2, h⟩ := h
    refine z_callV (pc := 10) (As := [.int x1]) (rest := []) (wr := (wX7 g a0 r0 s0)) C dX7_isUseless_10 ml_RX7_195 wv_X1_isOfUse (m_X1_isOfUse (a0 := (r0 3)) (r0 := r1) (q0_0 := q1_0) (r1 := r2) hg hx2) [4, 5, 6, 7, 8, 9, 10, 11, 12, 13, 14, 15, 16] [0, 1, 2, 3] rfl rfl ⟨by decide, by decide⟩ (Nat.le_of_ble_eq_true rfl) ⟨by decide, by decide⟩ rfl rfl rfl rfl rfl rfl rfl (by decide) (ex_k C (cs' := 0) (ss' := 0) (wF := (wX7 g a0 r0 s0 ++ wX1 g (r0 3) r1 q1_0 s1 ++ wX5 g q1_0 r2 s2)) [0, 1, 2, 3, 4, 5, 6, 7, 8, 9, 10, 11, 12, 13, 14, 15, 16] rfl rfl ?_)
    refine z_if_ne (pc := 13) C dX7_isUseless_13 (tgt := 20) (by decide) (fun hc => ?_) (fun hc => ?_)
    · replace h := (ite_e h).2 hc
      refine z_iconst (pc := 20) C dX7_isUseless_20 ic_0 ?_
      exact nomatch h
    · replace h := (ite_e h).1 hc
      refine z_iconst (pc := 16) C dX7_isUseless_16 ic_1 ?_
      refine z_goto (pc := 17) C dX7_isUseless_17 (tgt := 21) (by decide) ?_
      exact nomatch h
  · exact z_callVT (pc := 7) (As := [.int p1, .int p2]) (rest := [.ref (r0 3)]) (wr := ([] : va_W)) C T dX7_isUseless_7 ml_RX7_180 wv_X7_needKind (mt_X7_needKind (a0 := a0) (r0 := r0) (r1 := r1) (q1_0 := q1_0) (r2 := r2) hg h) [0, 1, 2, 3, 4, 5, 6, 7, 8, 9, 10, 11, 12, 13, 14, 15, 16] [] [0, 1, 2, 3, 4, 5, 6, 7, 8, 9, 10, 11, 12, 13, 14, 15, 16] rfl rfl ⟨by decide, by decide⟩ (Nat.le_of_ble_eq_true rfl) ⟨by decide, by decide⟩ rfl rfl rfl rfl rfl rfl rfl (by decide) rfl (by decide) (by decide)
def ft_X7_isCritical (N : Nat) (s0 : Ob) (s1 : Ob) (s2 : Ob) (p1 : Int32) (p2 : Int32) : Option (Nat) := (tb (f_X7_needKind N s0 s1 s2 p1 p2) (ft_X7_needKind N s0 s1 s2 p1 p2) fun x1 => (ob (f_X1_isLastOne N s1 s2 x1) fun x2 => none))
theorem mt_X7_isCritical {g : Gp} {a0 : Nat} {r0 : Nat → Nat} {r1 : Nat → Nat} {q1_0 : Nat} {r2 : Nat → Nat} {N : Nat} {s0 : Ob} {s1 : Ob} {s2 : Ob} {p1 : Int32} {p2 : Int32} {res : Nat} (hg : Ok g) (h : ft_X7_isCritical N s0 s1 s2 p1 p2 = some res) : Tx g yX7_isCritical cX7_isCritical 3 (some .boolean) (zrt 7 104) [.ref a0, .int p1, .int p2] (wX7 g a0 r0 s0 ++ wX1 g (r0 3) r1 q1_0 s1 ++ wX5 g q1_0 r2 s2) (xn res) := by
  refine tx_of rfl hg (by show _ ≤ _; exact Nat.le_of_ble_eq_true rfl) (fun K C T => ?_)
  show Zs K 0 0 (wX7 g a0 r0 s0 ++ wX1 g (r0 3) r1 q1_0 s1 ++ wX5 g q1_0 r2 s2) [(0, .ref a0), (1, .int p1), (2, .int p2)] 0 []
  unfold ft_X7_isCritical at h
  refine z_aload_n (pc := 0) (x := a0) C dX7_isCritical_0 (i := 0) rfl rfl ?_
  refine z_get (pc := 1) (v := .ref (r0 3)) C 0 dX7_isCritical_1 fl_RX7_67 rfl rfl ?_
  refine z_aload_n (pc := 4) (x := a0) C dX7_isCritical_4 (i := 0) rfl rfl ?_
  refine z_iload_n (pc := 5) (x := p1) C dX7_isCritical_5 (i := 1) rfl rfl ?_
  refine z_iload_n (pc := 6) (x := p2) C dX7_isCritical_6 (i := 2) rfl rfl ?_
  rcases tb_e h with ⟨x1, hx1, h⟩ | h
  · refine z_callV (pc := 7) (As := [.int p1, .int p2]) (rest := [.ref (r0 3)]) (wr := ([] : va_W)) C dX7_isCritical_7 ml_RX7_180 wv_X7_needKind (m_X7_needKind (a0 := a0) (r0 := r0) (r1 := r1) (q1_0 := q1_0) (r2 := r2) hg hx1) [0, 1, 2, 3, 4, 5, 6, 7, 8, 9, 10, 11, 12, 13, 14, 15, 16] [] rfl rfl ⟨by decide, by decide⟩ (Nat.le_of_ble_eq_true rfl) ⟨by decide, by decide⟩ rfl rfl rfl rfl rfl rfl rfl (by decide) (ex_k C (cs' := 0) (ss' := 0) (wF := (wX7 g a0 r0 s0 ++ wX1 g (r0 3) r1 q1_0 s1 ++ wX5 g q1_0 r2 s2)) [0, 1, 2, 3, 4, 5, 6, 7, 8, 9, 10, 11, 12, 13, 14, 15, 16] rfl rfl ?_)
    replace h := ob_e h
    obtain ⟨x2, hx2, h⟩ := h
    refine z_callV (pc := 10) (As := [.int x1]) (rest := []) (wr := (wX7 g a0 r0 s0)) C dX7_isCritical_10 ml_RX7_199 wv_X1_isLastOne (m_X1_isLastOne (a0 := (r0 3)) (r0 := r1) (q0_0 := q1_0) (r1 := r2) hg hx2) [4, 5, 6, 7, 8, 9, 10, 11, 12, 13, 14, 15, 16] [0, 1, 2, 3] rfl rfl ⟨by decide, by decide⟩ (Nat.le_of_ble_eq_true rfl) ⟨by decide, by decide⟩ rfl rfl rfl rfl rfl rfl rfl (by decide) (ex_k C (cs' := 0) (ss' := 0) (wF := (wX7 g a0 r0 s0 ++ wX1 g (r0 3) r1 q1_0 s1 ++ wX5 g q1_0 r2 s2)) [0, 1, 2, 3, 4, 5, 6, 7, 8, 9, 10, 11, 12, 13, 14, 15, 16] rfl rfl ?_)
    exact nomatch h
  · exact z_callVT (pc := 7) (As := [.int p1, .int p2]) (rest := [.ref (r0 3)]) (wr := ([] : va_W)) C T dX7_isCritical_7 ml_RX7_180 wv_X7_needKind (mt_X7_needKind (a0 := a0) (r0 := r0) (r1 := r1) (q1_0 := q1_0) (r2 := r2) hg h) [0, 1, 2, 3, 4, 5, 6, 7, 8, 9, 10, 11, 12, 13, 14, 15, 16] [] [0, 1, 2, 3, 4, 5, 6, 7, 8, 9, 10, 11, 12, 13, 14, 15, 16] rfl rfl ⟨by decide, by decide⟩ (Nat.le_of_ble_eq_true rfl) ⟨by decide, by decide⟩ rfl rfl rfl rfl rfl rfl rfl (by decide) rfl (by decide) (by decide)
def ft_X7_colorsOf (N : Nat) (s0 : Ob) (s1 : Ob) (s2 : Ob) (p1 : Int32) (p2 : Int32) : Option (Nat) := (tb (f_X7_needCard N s0 s1 s2 p1 p2) (ft_X7_needCard N s0 s1 s2 p1 p2) fun x1 => (ob (f_X1_kindsLeftFor N s1 x1) fun x2 => (ob (f_X7_colorsIn N x2) fun x3 => none)))
theorem mt_X7_colorsOf {g : Gp} {a0 : Nat} {r0 : Nat → Nat} {r1 : Nat → Nat} {q1_0 : Nat} {r2 : Nat → Nat} {N : Nat} {s0 : Ob} {s1 : Ob} {s2 : Ob} {p1 : Int32} {p2 : Int32} {res : Nat} (hg : Ok g) (h : ft_X7_colorsOf N s0 s1 s2 p1 p2 = some res) : Tx g yX7_colorsOf cX7_colorsOf 3 (some .int) (zrt 8 126) [.ref a0, .int p1, .int p2] (wX7 g a0 r0 s0 ++ wX1 g (r0 3) r1 q1_0 s1 ++ wX5 g q1_0 r2 s2) (xn res) := by
  refine tx_of rfl hg (by show _ ≤ _; exact Nat.le_of_ble_eq_true rfl) (fun K C T => ?_)
  show Zs K 0 0 (wX7 g a0 r0 s0 ++ wX1 g (r0 3) r1 q1_0 s1 ++ wX5 g q1_0 r2 s2) [(0, .ref a0), (1, .int p1), (2, .int p2)] 0 []
  unfold ft_X7_colorsOf at h
  refine z_aload_n (pc := 0) (x := a0) C dX7_colorsOf_0 (i := 0) rfl rfl ?_
  refine z_get (pc := 1) (v := .ref (r0 3)) C 0 dX7_colorsOf_1 fl_RX7_67 rfl rfl ?_
  refine z_aload_n (pc := 4) (x := a0) C dX7_colorsOf_4 (i := 0) rfl rfl ?_
  refine z_iload_n (pc := 5) (x := p1) C dX7_colorsOf_5 (i := 1) rfl rfl ?_
  refine z_iload_n (pc := 6) (x := p2) C dX7_colorsOf_6 (i := 2) rfl rfl ?_
  rcases tb_e h with ⟨x1, hx1, h⟩ | h
  · refine z_callV (pc := 7) (As := [.int p1, .int p2]) (rest := [.ref (r0 3)]) (wr := ([] : va_W)) C dX7_colorsOf_7 ml_RX7_170 wv_X7_needCard (m_X7_needCard (a0 := a0) (r0 := r0) (r1 := r1) (q1_0 := q1_0) (r2 := r2) hg hx1) [0, 1, 2, 3, 4, 5, 6, 7, 8, 9, 10, 11, 12, 13, 14, 15, 16] [] rfl rfl ⟨by decide, by decide⟩ (Nat.le_of_ble_eq_true rfl) ⟨by decide, by decide⟩ rfl rfl rfl rfl rfl rfl rfl (by decide) (ex_k C (cs' := 0) (ss' := 0) (wF := (wX7 g a0 r0 s0 ++ wX1 g (r0 3) r1 q1_0 s1 ++ wX5 g q1_0 r2 s2)) [0, 1, 2, 3, 4, 5, 6, 7, 8, 9, 10, 11, 12, 13, 14, 15, 16] rfl rfl ?_)
    replace h := ob_e h
    obtain ⟨x2, hx2, h⟩ := h
    refine z_callV (pc := 10) (As := [.int x1]) (rest := []) (wr := (wX7 g a0 r0 s0 ++ wX5 g q1_0 r2 s2)) C dX7_colorsOf_10 ml_RX7_202 wv_X1_kindsLeftFor (m_X1_kindsLeftFor (a0 := (r0 3)) (r0 := r1) (q0_0 := q1_0) hg hx2) [4, 5, 6, 7, 8, 9, 10, 11, 12] [0, 1, 2, 3, 13, 14, 15, 16] rfl rfl ⟨by decide, by decide⟩ (Nat.le_of_ble_eq_true rfl) ⟨by decide, by decide⟩ rfl rfl rfl rfl rfl rfl rfl (by decide) (ex_k C (cs' := 0) (ss' := 0) (wF := (wX7 g a0 r0 s0 ++ wX1 g (r0 3) r1 q1_0 s1 ++ wX5 g q1_0 r2 s2)) [0, 1, 2, 3, 8, 9, 10, 11, 12, 13, 14, 15, 16, 4, 5, 6, 7] rfl rfl ?_)
    replace h := ob_e h
    obtain ⟨x3, hx3, h⟩ := h
    refine z_callS (pc := 13) (As := [.int x2]) (rest := []) (wr := (wX7 g a0 r0 s0 ++ wX1 g (r0 3) r1 q1_0 s1 ++ wX5 g q1_0 r2 s2)) C dX7_colorsOf_13 ml_RX7_205 wt_X7_colorsIn (m_X7_colorsIn hg hx3) [] [0, 1, 2, 3, 4, 5, 6, 7, 8, 9, 10, 11, 12, 13, 14, 15, 16] rfl rfl ⟨by decide, by decide⟩ (Nat.le_of_ble_eq_true rfl) ⟨by decide, by decide⟩ rfl rfl rfl rfl (by decide) (ex_k C (cs' := 0) (ss' := 0) (wF := (wX7 g a0 r0 s0 ++ wX1 g (r0 3) r1 q1_0 s1 ++ wX5 g q1_0 r2 s2)) [0, 1, 2, 3, 4, 5, 6, 7, 8, 9, 10, 11, 12, 13, 14, 15, 16] rfl rfl ?_)
    exact nomatch h
  · exact z_callVT (pc := 7) (As := [.int p1, .int p2]) (rest := [.ref (r0 3)]) (wr := ([] : va_W)) C T dX7_colorsOf_7 ml_RX7_170 wv_X7_needCard (mt_X7_needCard (a0 := a0) (r0 := r0) (r1 := r1) (q1_0 := q1_0) (r2 := r2) hg h) [0, 1, 2, 3, 4, 5, 6, 7, 8, 9, 10, 11, 12, 13, 14, 15, 16] [] [0, 1, 2, 3, 4, 5, 6, 7, 8, 9, 10, 11, 12, 13, 14, 15, 16] rfl rfl ⟨by decide, by decide⟩ (Nat.le_of_ble_eq_true rfl) ⟨by decide, by decide⟩ rfl rfl rfl rfl rfl rfl rfl (by decide) rfl (by decide) (by decide)
def ft_X7_ranksOf (N : Nat) (s0 : Ob) (s1 : Ob) (s2 : Ob) (p1 : Int32) (p2 : Int32) : Option (Nat) := (tb (f_X7_needCard N s0 s1 s2 p1 p2) (ft_X7_needCard N s0 s1 s2 p1 p2) fun x1 => (ob (f_X1_kindsLeftFor N s1 x1) fun x2 => (ob (f_X7_ranksIn N x2) fun x3 => none)))
theorem mt_X7_ranksOf {g : Gp} {a0 : Nat} {r0 : Nat → Nat} {r1 : Nat → Nat} {q1_0 : Nat} {r2 : Nat → Nat} {N : Nat} {s0 : Ob} {s1 : Ob} {s2 : Ob} {p1 : Int32} {p2 : Int32} {res : Nat} (hg : Ok g) (h : ft_X7_ranksOf N s0 s1 s2 p1 p2 = some res) : Tx g yX7_ranksOf cX7_ranksOf 3 (some .int) (zrt 8 126) [.ref a0, .int p1, .int p2] (wX7 g a0 r0 s0 ++ wX1 g (r0 3) r1 q1_0 s1 ++ wX5 g q1_0 r2 s2) (xn res) := by
  refine tx_of rfl hg (by show _ ≤ _; exact Nat.le_of_ble_eq_true rfl) (fun K C T => ?_)
  show Zs K 0 0 (wX7 g a0 r0 s0 ++ wX1 g (r0 3) r1 q1_0 s1 ++ wX5 g q1_0 r2 s2) [(0, .ref a0), (1, .int p1), (2, .int p2)] 0 []
  unfold ft_X7_ranksOf at h
  refine z_aload_n (pc := 0) (x := a0) C dX7_ranksOf_0 (i := 0) rfl rfl ?_
  refine z_get (pc := 1) (v := .ref (r0 3)) C 0 dX7_ranksOf_1 fl_RX7_67 rfl rfl ?_
  refine z_aload_n (pc := 4) (x := a0) C dX7_ranksOf_4 (i := 0) rfl rfl ?_
  refine z_iload_n (pc := 5) (x := p1) C dX7_ranksOf_5 (i := 1) rfl rfl ?_
  refine z_iload_n (pc := 6) (x := p2) C dX7_ranksOf_6 (i := 2) rfl rfl ?_
  rcases tb_e h with ⟨x1, hx1, h⟩ | h
  · refine z_callV (pc := 7) (As := [.int p1, .int p2]) (rest := [.ref (r0 3)]) (wr := ([] : va_W)) C dX7_ranksOf_7 ml_RX7_170 wv_X7_needCard (m_X7_needCard (a0 := a0) (r0 := r0) (r1 := r1) (q1_0 := q1_0) (r2 := r2) hg hx1) [0, 1, 2, 3, 4, 5, 6, 7, 8, 9, 10, 11, 12, 13, 14, 15, 16] [] rfl rfl ⟨by decide, by decide⟩ (Nat.le_of_ble_eq_true rfl) ⟨by decide, by decide⟩ rfl rfl rfl rfl rfl rfl rfl (by decide) (ex_k C (cs' := 0) (ss' := 0) (wF := (wX7 g a0 r0 s0 ++ wX1 g (r0 3) r1 q1_0 s1 ++ wX5 g q1_0 r2 s2)) [0, 1, 2, 3, 4, 5, 6, 7, 8, 9, 10, 11, 12, 13, 14, 15, 16] rfl rfl ?_)
    replace h := ob_e h
    obtain ⟨x2, hx2, h⟩ := h
    refine z_callV (pc := 10) (As := [.int x1]) (rest := []) (wr := (wX7 g a0 r0 s0 ++ wX5 g q1_0 r2 s2)) C dX7_ranksOf_10 ml_RX7_202 wv_X1_kindsLeftFor (m_X1_kindsLeftFor (a0 := (r0 3)) (r0 := r1) (q0_0 := q1_0) hg hx2) [4, 5, 6, 7, 8, 9, 10, 11, 12] [0, 1, 2, 3, 13, 14, 15, 16] rfl rfl ⟨by decide, by decide⟩ (Nat.le_of_ble_eq_true rfl) ⟨by decide, by decide⟩ rfl rfl rfl rfl rfl rfl rfl (by decide) (ex_k C (cs' := 0) (ss' := 0) (wF := (wX7 g a0 r0 s0 ++ wX1 g (r0 3) r1 q1_0 s1 ++ wX5 g q1_0 r2 s2)) [0, 1, 2, 3, 8, 9, 10, 11, 12, 13, 14, 15, 16, 4, 5, 6, 7] rfl rfl ?_)
    replace h := ob_e h
    obtain ⟨x3, hx3, h⟩ := h
    refine z_callS (pc := 13) (As := [.int x2]) (rest := []) (wr := (wX7 g a0 r0 s0 ++ wX1 g (r0 3) r1 q1_0 s1 ++ wX5 g q1_0 r2 s2)) C dX7_ranksOf_13 ml_RX7_208 wt_X7_ranksIn (m_X7_ranksIn hg hx3) [] [0, 1, 2, 3, 4, 5, 6, 7, 8, 9, 10, 11, 12, 13, 14, 15, 16] rfl rfl ⟨by decide, by decide⟩ (Nat.le_of_ble_eq_true rfl) ⟨by decide, by decide⟩ rfl rfl rfl rfl (by decide) (ex_k C (cs' := 0) (ss' := 0) (wF := (wX7 g a0 r0 s0 ++ wX1 g (r0 3) r1 q1_0 s1 ++ wX5 g q1_0 r2 s2)) [0, 1, 2, 3, 4, 5, 6, 7, 8, 9, 10, 11, 12, 13, 14, 15, 16] rfl rfl ?_)
    exact nomatch h
  · exact z_callVT (pc := 7) (As := [.int p1, .int p2]) (rest := [.ref (r0 3)]) (wr := ([] : va_W)) C T dX7_ranksOf_7 ml_RX7_170 wv_X7_needCard (mt_X7_needCard (a0 := a0) (r0 := r0) (r1 := r1) (q1_0 := q1_0) (r2 := r2) hg h) [0, 1, 2, 3, 4, 5, 6, 7, 8, 9, 10, 11, 12, 13, 14, 15, 16] [] [0, 1, 2, 3, 4, 5, 6, 7, 8, 9, 10, 11, 12, 13, 14, 15, 16] rfl rfl ⟨by decide, by decide⟩ (Nat.le_of_ble_eq_true rfl) ⟨by decide, by decide⟩ rfl rfl rfl rfl rfl rfl rfl (by decide) rfl (by decide) (by decide)
def ft_X7_isTouched (N : Nat) (s0 : Ob) (s1 : Ob) (s2 : Ob) (p1 : Int32) (p2 : Int32) : Option (Nat) := (tb (f_X7_needCard N s0 s1 s2 p1 p2) (ft_X7_needCard N s0 s1 s2 p1 p2) fun x1 => (ob (f_X1_wasTouched N s1 x1) fun x2 => none))
theorem mt_X7_isTouched {g : Gp} {a0 : Nat} {r0 : Nat → Nat} {r1 : Nat → Nat} {q1_0 : Nat} {r2 : Nat → Nat} {N : Nat} {s0 : Ob} {s1 : Ob} {s2 : Ob} {p1 : Int32} {p2 : Int32} {res : Nat} (hg : Ok g) (h : ft_X7_isTouched N s0 s1 s2 p1 p2 = some res) : Tx g yX7_isTouched cX7_isTouched 3 (some .boolean) (zrt 8 126) [.ref a0, .int p1, .int p2] (wX7 g a0 r0 s0 ++ wX1 g (r0 3) r1 q1_0 s1 ++ wX5 g q1_0 r2 s2) (xn res) := by
  refine tx_of rfl hg (by show _ ≤ _; exact Nat.le_of_ble_eq_true rfl) (fun K C T => ?_)
  show Zs K 0 0 (wX7 g a0 r0 s0 ++ wX1 g (r0 3) r1 q1_0 s1 ++ wX5 g q1_0 r2 s2) [(0, .ref a0), (1, .int p1), (2, .int p2)] 0 []
  unfold ft_X7_isTouched at h
  refine z_aload_n (pc := 0) (x := a0) C dX7_isTouched_0 (i := 0) rfl rfl ?_
  refine z_get (pc := 1) (v := .ref (r0 3)) C 0 dX7_isTouched_1 fl_RX7_67 rfl rfl ?_
  refine z_aload_n (pc := 4) (x := a0) C dX7_isTouched_4 (i := 0) rfl rfl ?_
  refine z_iload_n (pc := 5) (x := p1) C dX7_isTouched_5 (i := 1) rfl rfl ?_
  refine z_iload_n (pc := 6) (x := p2) C dX7_isTouched_6 (i := 2) rfl rfl ?_
  rcases tb_e h with ⟨x1, hx1, h⟩ | h
  · refine z_callV (pc := 7) (As := [.int p1, .int p2]) (rest := [.ref (r0 3)]) (wr := ([] : va_W)) C dX7_isTouched_7 ml_RX7_170 wv_X7_needCard (m_X7_needCard (a0 := a0) (r0 := r0) (r1 := r1) (q1_0 := q1_0) (r2 := r2) hg hx1) [0, 1, 2, 3, 4, 5, 6, 7, 8, 9, 10, 11, 12, 13, 14, 15, 16] [] rfl rfl ⟨by decide, by decide⟩ (Nat.le_of_ble_eq_true rfl) ⟨by decide, by decide⟩ rfl rfl rfl rfl rfl rfl rfl (by decide) (ex_k C (cs' := 0) (ss' := 0) (wF := (wX7 g a0 r0 s0 ++ wX1 g (r0 3) r1 q1_0 s1 ++ wX5 g q1_0 r2 s2)) [0, 1, 2, 3, 4, 5, 6, 7, 8, 9, 10, 11, 12, 13, 14, 15, 16] rfl rfl ?_)
    replace h := ob_e h
    obtain ⟨x2, hx2, h⟩ := h
    refine z_callV (pc := 10) (As := [.int x1]) (rest := []) (wr := (wX7 g a0 r0 s0 ++ wX5 g q1_0 r2 s2)) C dX7_isTouched_10 ml_RX7_211 wv_X1_wasTouched (m_X1_wasTouched (a0 := (r0 3)) (r0 := r1) (q0_0 := q1_0) hg hx2) [4, 5, 6, 7, 8, 9, 10, 11, 12] [0, 1, 2, 3, 13, 14, 15, 16] rfl rfl ⟨by decide, by decide⟩ (Nat.le_of_ble_eq_true rfl) ⟨by decide, by decide⟩ rfl rfl rfl rfl rfl rfl rfl (by decide) (ex_k C (cs' := 0) (ss' := 0) (wF := (wX7 g a0 r0 s0 ++ wX1 g (r0 3) r1 q1_0 s1 ++ wX5 g q1_0 r2 s2)) [0, 1, 2, 3, 8, 9, 10, 11, 12, 13, 14, 15, 16, 4, 5, 6, 7] rfl rfl ?_)
    exact nomatch h
  · exact z_callVT (pc := 7) (As := [.int p1, .int p2]) (rest := [.ref (r0 3)]) (wr := ([] : va_W)) C T dX7_isTouched_7 ml_RX7_170 wv_X7_needCard (mt_X7_needCard (a0 := a0) (r0 := r0) (r1 := r1) (q1_0 := q1_0) (r2 := r2) hg h) [0, 1, 2, 3, 4, 5, 6, 7, 8, 9, 10, 11, 12, 13, 14, 15, 16] [] [0, 1, 2, 3, 4, 5, 6, 7, 8, 9, 10, 11, 12, 13, 14, 15, 16] rfl rfl ⟨by decide, by decide⟩ (Nat.le_of_ble_eq_true rfl) ⟨by decide, by decide⟩ rfl rfl rfl rfl rfl rfl rfl (by decide) rfl (by decide) (by decide)
def ft_X7_thinks (N : Nat) (s0 : Ob) (s1 : Ob) (s2 : Ob) (p1 : Int32) (p2 : Int32) : Option (Nat) := (tb (f_X7_needCard N s0 s1 s2 p1 p2) (ft_X7_needCard N s0 s1 s2 p1 p2) fun x1 => none)
theorem mt_X7_thinks {g : Gp} {a0 : Nat} {r0 : Nat → Nat} {r1 : Nat → Nat} {q1_0 : Nat} {r2 : Nat → Nat} {N : Nat} {s0 : Ob} {s1 : Ob} {s2 : Ob} {p1 : Int32} {p2 : Int32} {res : Nat} (hg : Ok g) (h : ft_X7_thinks N s0 s1 s2 p1 p2 = some res) : Tx g yX7_thinks cX7_thinks 3 (some .int) (zrt 8 126) [.ref a0, .int p1, .int p2] (wX7 g a0 r0 s0 ++ wX1 g (r0 3) r1 q1_0 s1 ++ wX5 g q1_0 r2 s2) (xn res) := by
  refine tx_of rfl hg (by show _ ≤ _; exact Nat.le_of_ble_eq_true rfl) (fun K C T => ?_)
  show Zs K 0 0 (wX7 g a0 r0 s0 ++ wX1 g (r0 3) r1 q1_0 s1 ++ wX5 g q1_0 r2 s2) [(0, .ref a0), (1, .int p1), (2, .int p2)] 0 []
  unfold ft_X7_thinks at h
  refine z_aload_n (pc := 0) (x := a0) C dX7_thinks_0 (i := 0) rfl rfl ?_
  refine z_iload_n (pc := 1) (x := p1) C dX7_thinks_1 (i := 1) rfl rfl ?_
  refine z_aload_n (pc := 2) (x := a0) C dX7_thinks_2 (i := 0) rfl rfl ?_
  refine z_iload_n (pc := 3) (x := p1) C dX7_thinks_3 (i := 1) rfl rfl ?_
  refine z_iload_n (pc := 4) (x := p2) C dX7_thinks_4 (i := 2) rfl rfl ?_
  rcases tb_e h with ⟨x1, hx1, h⟩ | h
  · refine z_callV (pc := 5) (As := [.int p1, .int p2]) (rest := [.int p1, .ref a0]) (wr := ([] : va_W)) C dX7_thinks_5 ml_RX7_170 wv_X7_needCard (m_X7_needCard (a0 := a0) (r0 := r0) (r1 := r1) (q1_0 := q1_0) (r2 := r2) hg hx1) [0, 1, 2, 3, 4, 5, 6, 7, 8, 9, 10, 11, 12, 13, 14, 15, 16] [] rfl rfl ⟨by decide, by decide⟩ (Nat.le_of_ble_eq_true rfl) ⟨by decide, by decide⟩ rfl rfl rfl rfl rfl rfl rfl (by decide) (ex_k C (cs' := 0) (ss' := 0) (wF := (wX7 g a0 r0 s0 ++ wX1 g (r0 3) r1 q1_0 s1 ++ wX5 g q1_0 r2 s2)) [0, 1, 2, 3, 4, 5, 6, 7, 8, 9, 10, 11, 12, 13, 14, 15, 16] rfl rfl ?_)
    exact nomatch h
  · exact z_callVT (pc := 5) (As := [.int p1, .int p2]) (rest := [.int p1, .ref a0]) (wr := ([] : va_W)) C T dX7_thinks_5 ml_RX7_170 wv_X7_needCard (mt_X7_needCard (a0 := a0) (r0 := r0) (r1 := r1) (q1_0 := q1_0) (r2 := r2) hg h) [0, 1, 2, 3, 4, 5, 6, 7, 8, 9, 10, 11, 12, 13, 14, 15, 16] [] [0, 1, 2, 3, 4, 5, 6, 7, 8, 9, 10, 11, 12, 13, 14, 15, 16] rfl rfl ⟨by decide, by decide⟩ (Nat.le_of_ble_eq_true rfl) ⟨by decide, by decide⟩ rfl rfl rfl rfl rfl rfl rfl (by decide) rfl (by decide) (by decide)
def ft_X7_thought (N : Nat) (s0 : Ob) (s1 : Ob) (s2 : Ob) (p1 : Int32) (p2 : Int32) (p3 : Int32) : Option (Nat) := (tb (f_X7_needCard N s0 s1 s2 p1 p2) (ft_X7_needCard N s0 s1 s2 p1 p2) fun x1 => none)
theorem mt_X7_thought {g : Gp} {a0 : Nat} {r0 : Nat → Nat} {r1 : Nat → Nat} {q1_0 : Nat} {r2 : Nat → Nat} {N : Nat} {s0 : Ob} {s1 : Ob} {s2 : Ob} {p1 : Int32} {p2 : Int32} {p3 : Int32} {res : Nat} (hg : Ok g) (h : ft_X7_thought N s0 s1 s2 p1 p2 p3 = some res) : Tx g yX7_thought cX7_thought 7 (some .int) (zrt 8 126) [.ref a0, .int p1, .int p2, .int p3] (wX7 g a0 r0 s0 ++ wX1 g (r0 3) r1 q1_0 s1 ++ wX5 g q1_0 r2 s2) (xn res) := by
  refine tx_of rfl hg (by show _ ≤ _; exact Nat.le_of_ble_eq_true rfl) (fun K C T => ?_)
  show Zs K 0 0 (wX7 g a0 r0 s0 ++ wX1 g (r0 3) r1 q1_0 s1 ++ wX5 g q1_0 r2 s2) [(0, .ref a0), (1, .int p1), (2, .int p2), (3, .int p3)] 0 []
  unfold ft_X7_thought at h
  refine z_aload_n (pc := 0) (x := a0) C dX7_thought_0 (i := 0) rfl rfl ?_
  refine z_iload_n (pc := 1) (x := p1) C dX7_thought_1 (i := 1) rfl rfl ?_
  refine z_aload_n (pc := 2) (x := a0) C dX7_thought_2 (i := 0) rfl rfl ?_
  refine z_iload_n (pc := 3) (x := p1) C dX7_thought_3 (i := 1) rfl rfl ?_
  refine z_iload_n (pc := 4) (x := p2) C dX7_thought_4 (i := 2) rfl rfl ?_
  rcases tb_e h with ⟨x1, hx1, h⟩ | h
  · refine z_callV (pc := 5) (As := [.int p1, .int p2]) (rest := [.int p1, .ref a0]) (wr := ([] : va_W)) C dX7_thought_5 ml_RX7_170 wv_X7_needCard (m_X7_needCard (a0 := a0) (r0 := r0) (r1 := r1) (q1_0 := q1_0) (r2 := r2) hg hx1) [0, 1, 2, 3, 4, 5, 6, 7, 8, 9, 10, 11, 12, 13, 14, 15, 16] [] rfl rfl ⟨by decide, by decide⟩ (Nat.le_of_ble_eq_true rfl) ⟨by decide, by decide⟩ rfl rfl rfl rfl rfl rfl rfl (by decide) (ex_k C (cs' := 0) (ss' := 0) (wF := (wX7 g a0 r0 s0 ++ wX1 g (r0 3) r1 q1_0 s1 ++ wX5 g q1_0 r2 s2)) [0, 1, 2, 3, 4, 5, 6, 7, 8, 9, 10, 11, 12, 13, 14, 15, 16] rfl rfl ?_)
    exact nomatch h
  · exact z_callVT (pc := 5) (As := [.int p1, .int p2]) (rest := [.int p1, .ref a0]) (wr := ([] : va_W)) C T dX7_thought_5 ml_RX7_170 wv_X7_needCard (mt_X7_needCard (a0 := a0) (r0 := r0) (r1 := r1) (q1_0 := q1_0) (r2 := r2) hg h) [0, 1, 2, 3, 4, 5, 6, 7, 8, 9, 10, 11, 12, 13, 14, 15, 16] [] [0, 1, 2, 3, 4, 5, 6, 7, 8, 9, 10, 11, 12, 13, 14, 15, 16] rfl rfl ⟨by decide, by decide⟩ (Nat.le_of_ble_eq_true rfl) ⟨by decide, by decide⟩ rfl rfl rfl rfl rfl rfl rfl (by decide) rfl (by decide) (by decide)
def ft_X7_knows (N : Nat) (s0 : Ob) (s1 : Ob) (s2 : Ob) (p1 : Int32) (p2 : Int32) : Option (Nat) := (tb (f_X7_needCard N s0 s1 s2 p1 p2) (ft_X7_needCard N s0 s1 s2 p1 p2) fun x1 => none)
theorem mt_X7_knows {g : Gp} {a0 : Nat} {r0 : Nat → Nat} {r1 : Nat → Nat} {q1_0 : Nat} {r2 : Nat → Nat} {N : Nat} {s0 : Ob} {s1 : Ob} {s2 : Ob} {p1 : Int32} {p2 : Int32} {res : Nat} (hg : Ok g) (h : ft_X7_knows N s0 s1 s2 p1 p2 = some res) : Tx g yX7_knows cX7_knows 4 (some .int) (zrt 8 126) [.ref a0, .int p1, .int p2] (wX7 g a0 r0 s0 ++ wX1 g (r0 3) r1 q1_0 s1 ++ wX5 g q1_0 r2 s2) (xn res) := by
  refine tx_of rfl hg (by show _ ≤ _; exact Nat.le_of_ble_eq_true rfl) (fun K C T => ?_)
  show Zs K 0 0 (wX7 g a0 r0 s0 ++ wX1 g (r0 3) r1 q1_0 s1 ++ wX5 g q1_0 r2 s2) [(0, .ref a0), (1, .int p1), (2, .int p2)] 0 []
  unfold ft_X7_knows at h
  refine z_aload_n (pc := 0) (x := a0) C dX7_knows_0 (i := 0) rfl rfl ?_
  refine z_iload_n (pc := 1) (x := p1) C dX7_knows_1 (i := 1) rfl rfl ?_
  refine z_aload_n (pc := 2) (x := a0) C dX7_knows_2 (i := 0) rfl rfl ?_
  refine z_iload_n (pc := 3) (x := p1) C dX7_knows_3 (i := 1) rfl rfl ?_
  refine z_iload_n (pc := 4) (x := p2) C dX7_knows_4 (i := 2) rfl rfl ?_
  rcases tb_e h with ⟨x1, hx1, h⟩ | h
  · refine z_callV (pc := 5) (As := [.int p1, .int p2]) (rest := [.int p1, .ref a0]) (wr := ([] : va_W)) C dX7_knows_5 ml_RX7_170 wv_X7_needCard (m_X7_needCard (a0 := a0) (r0 := r0) (r1 := r1) (q1_0 := q1_0) (r2 := r2) hg hx1) [0, 1, 2, 3, 4, 5, 6, 7, 8, 9, 10, 11, 12, 13, 14, 15, 16] [] rfl rfl ⟨by decide, by decide⟩ (Nat.le_of_ble_eq_true rfl) ⟨by decide, by decide⟩ rfl rfl rfl rfl rfl rfl rfl (by decide) (ex_k C (cs' := 0) (ss' := 0) (wF := (wX7 g a0 r0 s0 ++ wX1 g (r0 3) r1 q1_0 s1 ++ wX5 g q1_0 r2 s2)) [0, 1, 2, 3, 4, 5, 6, 7, 8, 9, 10, 11, 12, 13, 14, 15, 16] rfl rfl ?_)
    exact nomatch h
  · exact z_callVT (pc := 5) (As := [.int p1, .int p2]) (rest := [.int p1, .ref a0]) (wr := ([] : va_W)) C T dX7_knows_5 ml_RX7_170 wv_X7_needCard (mt_X7_needCard (a0 := a0) (r0 := r0) (r1 := r1) (q1_0 := q1_0) (r2 := r2) hg h) [0, 1, 2, 3, 4, 5, 6, 7, 8, 9, 10, 11, 12, 13, 14, 15, 16] [] [0, 1, 2, 3, 4, 5, 6, 7, 8, 9, 10, 11, 12, 13, 14, 15, 16] rfl rfl ⟨by decide, by decide⟩ (Nat.le_of_ble_eq_true rfl) ⟨by decide, by decide⟩ rfl rfl rfl rfl rfl rfl rfl (by decide) rfl (by decide) (by decide)
