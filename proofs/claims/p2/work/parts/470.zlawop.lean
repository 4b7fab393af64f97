/-! OWN: what the walk of the law needs besides -/
def Sc : Kt → Nat → Nat → (Nat → Int32) → Prop
  | (_, _, _, _, s, _, _, _, _, _, _, A, _), b, L, xs => va_X b L xs s s.heap ∧ b < s.heap.size ∧ ¬ A b
theorem zrc_c {f c s n : Nat} : (zrc f c s n).cells = c := rfl
theorem zrc_s {f c s n : Nat} : (zrc f c s n).slots = s := rfl
theorem zrm_c {f n : Nat} : (zrm f n).cells = 0 := rfl
theorem zrm_s {f n : Nat} : (zrm f n).slots = 0 := rfl
theorem room1_c : room_1.cells = 601024 := rfl
theorem room1_s : room_1.slots = 7293034 := rfl
theorem lg_cmp_self (x : Int64) : lg_cmp x x = 0 := by
  unfold lg_cmp
  simp
section ZSL
variable {K : Kt} {g : Gp} {cc : ByteArray} {own : String} {nL : Nat} {R : Room} {cs ss pc : Nat} {ws : va_W} {lv : List (Nat × Value)} {st : List Value}
theorem z_sld (C : Cx K g cc own nL R) {b L : Nat} {xs : Nat → Int32} (S : Sc K b L xs) {i v : Int32} (hd : decode cc pc = .ok (.iaload, 1)) (hin : inb i L = true) (hv : xs i.toNatClampNeg = v) (kk : Zs K cs ss ws lv (pc + 1) (.int v :: st)) : Zs K cs ss ws lv pc (.int i :: .ref b :: st) := by
  obtain ⟨p, l, e, R, s, m, args, below, meth, c, Q, A, g⟩ := K
  obtain ⟨hx, hb, hml, hown, hlocks, hA, hAb, hbs, hE, hk, rfl, rfl, rfl⟩ := C
  obtain ⟨S1, S2, S3⟩ := S
  subst hv
  intro H locs ls hP hD hS hl
  exact va_sld hx hb S1 S2 S3 hS (inb_vp hin) hd (kk H locs ls hP hD hS hl)
theorem z_slen (C : Cx K g cc own nL R) {b L : Nat} {xs : Nat → Int32} (S : Sc K b L xs) (hd : decode cc pc = .ok (.arraylength, 1)) (kk : Zs K cs ss ws lv (pc + 1) (.int (Int32.ofNat L) :: st)) : Zs K cs ss ws lv pc (.ref b :: st) := by
  obtain ⟨p, l, e, R, s, m, args, below, meth, c, Q, A, g⟩ := K
  obtain ⟨hx, hb, hml, hown, hlocks, hA, hAb, hbs, hE, hk, rfl, rfl, rfl⟩ := C
  obtain ⟨S1, S2, S3⟩ := S
  intro H locs ls hP hD hS hl
  exact va_slen hx hb S1 S2 S3 hS hd (kk H locs ls hP hD hS hl)
end ZSL
section PMS
variable {A B T P S U F : va_W}
theorem pm_0 : (A ++ (B ++ T)).Perm ((A ++ B) ++ T) := by
  rw [List.append_assoc]
theorem pm_0i : ((A ++ B) ++ T).Perm (A ++ (B ++ T)) := pm_0.symm
theorem pm_a : ((A ++ P) ++ (B ++ U)).Perm ((A ++ B) ++ (P ++ U)) := by
  rw [List.append_assoc, List.append_assoc]
  refine List.Perm.append_left _ ?_
  rw [← List.append_assoc, ← List.append_assoc]
  exact List.Perm.append_right _ List.perm_append_comm
theorem pm_ai : ((A ++ B) ++ (P ++ U)).Perm ((A ++ P) ++ (B ++ U)) := pm_a.symm
theorem pm_b : ((A ++ S) ++ (B ++ (P ++ U))).Perm ((A ++ B) ++ (P ++ (S ++ U))) := by
  rw [List.append_assoc, List.append_assoc]
  refine List.Perm.append_left _ ?_
  rw [← List.append_assoc, ← List.append_assoc, ← List.append_assoc, ← List.append_assoc]
  refine List.Perm.append_right _ ?_
  rw [List.append_assoc]
  exact List.perm_append_comm
theorem pm_bi : ((A ++ B) ++ (P ++ (S ++ U))).Perm ((A ++ S) ++ (B ++ (P ++ U))) := pm_b.symm
theorem pm_f : ((A ++ B) ++ (P ++ (S ++ (F ++ U)))).Perm ((A ++ F) ++ (B ++ (P ++ (S ++ U)))) := by
  rw [List.append_assoc, List.append_assoc]
  refine List.Perm.append_left _ ?_
  rw [← List.append_assoc, ← List.append_assoc, ← List.append_assoc, ← List.append_assoc, ← List.append_assoc, ← List.append_assoc]
  refine List.Perm.append_right _ ?_
  rw [List.append_assoc (F ++ B) P S, List.append_assoc B P S, List.append_assoc F B (P ++ S)]
  exact List.perm_append_comm
end PMS
theorem range_get {α : Type} (l : List α) : (List.range l.length).map (fun i => l[i]?) = l.map some := by
  apply List.ext_getElem?
  intro i
  rw [List.getElem?_map, List.getElem?_map]
  by_cases hi : i < l.length
  · rw [List.getElem?_range hi, List.getElem?_eq_getElem hi]
    show some (l[i]?) = _
    rw [List.getElem?_eq_getElem hi]
    rfl
  · rw [List.getElem?_eq_none (by rw [List.length_range]; omega), List.getElem?_eq_none (by omega)]
    rfl
theorem fm_some {α : Type} (m : List α) : (m.map some).filterMap (fun x => x) = m := by
  induction m with
  | nil => rfl
  | cons a m ih => exact congrArg (fun t => a :: t) ih
theorem perm_ix {α : Type} {l l' : List α} {is : List Nat} (h : is.map (fun i => l[i]?) = l'.map some) (hp : is.isPerm (List.range l.length) = true) : l'.Perm l := by
  have h1 : is.Perm (List.range l.length) := List.isPerm_iff.mp hp
  have h2 := h1.map (fun i => l[i]?)
  rw [h, range_get] at h2
  have h3 := h2.filterMap (fun x => x)
  rw [fm_some, fm_some] at h3
  exact h3
theorem blk_p {bs xs ys : List va_W} {A T : va_W} (n : Nat) (is : List Nat) (hl : bs.length = n) (h : is.map (fun i => bs[i]?) = (xs ++ ys).map some) (hp : is.isPerm (List.range n) = true) (e : xs.flatten = A) : ((A ++ ys.flatten) ++ T).Perm (bs.flatten ++ T) := by
  refine List.Perm.append_right _ ?_
  rw [← e, ← List.flatten_append]
  exact (perm_ix h (by rw [hl]; exact hp)).flatten
theorem blk_pi {bs xs ys : List va_W} {A T : va_W} (n : Nat) (is : List Nat) (hl : bs.length = n) (h : is.map (fun i => bs[i]?) = (xs ++ ys).map some) (hp : is.isPerm (List.range n) = true) (e : xs.flatten = A) : (bs.flatten ++ T).Perm ((A ++ ys.flatten) ++ T) := (blk_p n is hl h hp e).symm
section FLS
variable {a b c d e f h i : va_W}
theorem fl1 : [a].flatten = a := by simp
theorem fl2 : [a, b].flatten = a ++ b := by simp
theorem fl3 : [a, b, c].flatten = a ++ b ++ c := by simp
theorem fl4 : [a, b, c, d].flatten = a ++ b ++ c ++ d := by simp
theorem fl5 : [a, b, c, d, e].flatten = a ++ b ++ c ++ d ++ e := by simp
theorem fl6 : [a, b, c, d, e, f].flatten = a ++ b ++ c ++ d ++ e ++ f := by simp
theorem fl7 : [a, b, c, d, e, f, h].flatten = a ++ b ++ c ++ d ++ e ++ f ++ h := by simp
theorem fl8 : [a, b, c, d, e, f, h, i].flatten = a ++ b ++ c ++ d ++ e ++ f ++ h ++ i := by simp
end FLS
theorem kl_RL_106 : Cond.constantLong RL 106 (4294967295 : Int64) ∈ gtbl := g_in 2022 (by decide +kernel) rfl
theorem ml_RL_108 : Cond.methodLink RL 108 yX7_append ∈ gtbl := g_in 504 (by decide +kernel) rfl
theorem wb_X7_append : Wb yX7_append 1 cX7_append 6 (some .int) := ⟨g_in 122 (by decide +kernel) rfl, g_in 507 (by decide +kernel) rfl, by decide +kernel, by decide +kernel, by decide +kernel⟩
theorem wv_X7_append : Wv yX7_append 1 cX7_append 6 (some .int) := ⟨wb_X7_append, g_in 505 (by decide +kernel) rfl, g_in 506 (by decide +kernel) rfl⟩
theorem ml_RL_112 : Cond.methodLink RL 112 yX8_append ∈ gtbl := g_in 1518 (by decide +kernel) rfl
theorem wb_X8_append : Wb yX8_append 1 cX8_append 5 (some .int) := ⟨g_in 131 (by decide +kernel) rfl, g_in 1521 (by decide +kernel) rfl, by decide +kernel, by decide +kernel, by decide +kernel⟩
theorem wv_X8_append : Wv yX8_append 1 cX8_append 5 (some .int) := ⟨wb_X8_append, g_in 1519 (by decide +kernel) rfl, g_in 1520 (by decide +kernel) rfl⟩
theorem ml_RL_113 : Cond.methodLink RL 113 yX7_load ∈ gtbl := g_in 509 (by decide +kernel) rfl
theorem wb_X7_load : Wb yX7_load 0 cX7_load 1 (some .int) := ⟨g_in 122 (by decide +kernel) rfl, g_in 512 (by decide +kernel) rfl, by decide +kernel, by decide +kernel, by decide +kernel⟩
theorem wv_X7_load : Wv yX7_load 0 cX7_load 1 (some .int) := ⟨wb_X7_load, g_in 510 (by decide +kernel) rfl, g_in 511 (by decide +kernel) rfl⟩
theorem ml_RL_117 : Cond.methodLink RL 117 yX8_load ∈ gtbl := g_in 1526 (by decide +kernel) rfl
theorem wb_X8_load : Wb yX8_load 0 cX8_load 3 (some .int) := ⟨g_in 131 (by decide +kernel) rfl, g_in 1529 (by decide +kernel) rfl, by decide +kernel, by decide +kernel, by decide +kernel⟩
theorem wv_X8_load : Wv yX8_load 0 cX8_load 3 (some .int) := ⟨wb_X8_load, g_in 1527 (by decide +kernel) rfl, g_in 1528 (by decide +kernel) rfl⟩
theorem ml_RL_118 : Cond.methodLink RL 118 yX7_loadError ∈ gtbl := g_in 671 (by decide +kernel) rfl
theorem wb_X7_loadError : Wb yX7_loadError 0 cX7_loadError 1 (some .int) := ⟨g_in 122 (by decide +kernel) rfl, g_in 674 (by decide +kernel) rfl, by decide +kernel, by decide +kernel, by decide +kernel⟩
theorem wv_X7_loadError : Wv yX7_loadError 0 cX7_loadError 1 (some .int) := ⟨wb_X7_loadError, g_in 672 (by decide +kernel) rfl, g_in 673 (by decide +kernel) rfl⟩
theorem ml_RL_121 : Cond.methodLink RL 121 yX8_loadError ∈ gtbl := g_in 1618 (by decide +kernel) rfl
theorem wb_X8_loadError : Wb yX8_loadError 0 cX8_loadError 1 (some .int) := ⟨g_in 131 (by decide +kernel) rfl, g_in 1621 (by decide +kernel) rfl, by decide +kernel, by decide +kernel, by decide +kernel⟩
theorem wv_X8_loadError : Wv yX8_loadError 0 cX8_loadError 1 (some .int) := ⟨wb_X8_loadError, g_in 1619 (by decide +kernel) rfl, g_in 1620 (by decide +kernel) rfl⟩
theorem ml_RL_122 : Cond.methodLink RL 122 yX7_loadStatement ∈ gtbl := g_in 675 (by decide +kernel) rfl
theorem wb_X7_loadStatement : Wb yX7_loadStatement 0 cX7_loadStatement 1 (some .int) := ⟨g_in 122 (by decide +kernel) rfl, g_in 678 (by decide +kernel) rfl, by decide +kernel, by decide +kernel, by decide +kernel⟩
theorem wv_X7_loadStatement : Wv yX7_loadStatement 0 cX7_loadStatement 1 (some .int) := ⟨wb_X7_loadStatement, g_in 676 (by decide +kernel) rfl, g_in 677 (by decide +kernel) rfl⟩
theorem ml_RL_125 : Cond.methodLink RL 125 yX8_loadStatement ∈ gtbl := g_in 1622 (by decide +kernel) rfl
theorem wb_X8_loadStatement : Wb yX8_loadStatement 0 cX8_loadStatement 1 (some .int) := ⟨g_in 131 (by decide +kernel) rfl, g_in 1625 (by decide +kernel) rfl, by decide +kernel, by decide +kernel, by decide +kernel⟩
theorem wv_X8_loadStatement : Wv yX8_loadStatement 0 cX8_loadStatement 1 (some .int) := ⟨wb_X8_loadStatement, g_in 1623 (by decide +kernel) rfl, g_in 1624 (by decide +kernel) rfl⟩
theorem ml_RL_126 : Cond.methodLink RL 126 yL_count ∈ gtbl := g_in 1031 (by decide +kernel) rfl
theorem ml_RL_131 : Cond.methodLink RL 131 yX8_count ∈ gtbl := g_in 1626 (by decide +kernel) rfl
theorem wb_X8_count : Wb yX8_count 1 cX8_count 2 (some .int) := ⟨g_in 131 (by decide +kernel) rfl, g_in 1629 (by decide +kernel) rfl, by decide +kernel, by decide +kernel, by decide +kernel⟩
theorem wv_X8_count : Wv yX8_count 1 cX8_count 2 (some .int) := ⟨wb_X8_count, g_in 1627 (by decide +kernel) rfl, g_in 1628 (by decide +kernel) rfl⟩
theorem ml_RL_132 : Cond.methodLink RL 132 yX7_turnOf ∈ gtbl := g_in 679 (by decide +kernel) rfl
theorem wb_X7_turnOf : Wb yX7_turnOf 0 cX7_turnOf 1 (some .int) := ⟨g_in 122 (by decide +kernel) rfl, g_in 682 (by decide +kernel) rfl, by decide +kernel, by decide +kernel, by decide +kernel⟩
theorem wv_X7_turnOf : Wv yX7_turnOf 0 cX7_turnOf 1 (some .int) := ⟨wb_X7_turnOf, g_in 680 (by decide +kernel) rfl, g_in 681 (by decide +kernel) rfl⟩
theorem ml_RL_135 : Cond.methodLink RL 135 yX8_turnOf ∈ gtbl := g_in 1638 (by decide +kernel) rfl
theorem wb_X8_turnOf : Wb yX8_turnOf 0 cX8_turnOf 1 (some .int) := ⟨g_in 131 (by decide +kernel) rfl, g_in 1641 (by decide +kernel) rfl, by decide +kernel, by decide +kernel, by decide +kernel⟩
theorem wv_X8_turnOf : Wv yX8_turnOf 0 cX8_turnOf 1 (some .int) := ⟨wb_X8_turnOf, g_in 1639 (by decide +kernel) rfl, g_in 1640 (by decide +kernel) rfl⟩
theorem ml_RL_136 : Cond.methodLink RL 136 yX7_over ∈ gtbl := g_in 695 (by decide +kernel) rfl
theorem wb_X7_over : Wb yX7_over 0 cX7_over 1 (some .int) := ⟨g_in 122 (by decide +kernel) rfl, g_in 698 (by decide +kernel) rfl, by decide +kernel, by decide +kernel, by decide +kernel⟩
theorem wv_X7_over : Wv yX7_over 0 cX7_over 1 (some .int) := ⟨wb_X7_over, g_in 696 (by decide +kernel) rfl, g_in 697 (by decide +kernel) rfl⟩
theorem ml_RL_139 : Cond.methodLink RL 139 yX8_over ∈ gtbl := g_in 1642 (by decide +kernel) rfl
theorem wb_X8_over : Wb yX8_over 0 cX8_over 1 (some .int) := ⟨g_in 131 (by decide +kernel) rfl, g_in 1645 (by decide +kernel) rfl, by decide +kernel, by decide +kernel, by decide +kernel⟩
theorem wv_X8_over : Wv yX8_over 0 cX8_over 1 (some .int) := ⟨wb_X8_over, g_in 1643 (by decide +kernel) rfl, g_in 1644 (by decide +kernel) rfl⟩
theorem ml_RL_140 : Cond.methodLink RL 140 yL_pile ∈ gtbl := g_in 1105 (by decide +kernel) rfl
theorem ml_RL_142 : Cond.methodLink RL 142 yX8_pile ∈ gtbl := g_in 1646 (by decide +kernel) rfl
theorem wb_X8_pile : Wb yX8_pile 1 cX8_pile 2 (some .int) := ⟨g_in 131 (by decide +kernel) rfl, g_in 1649 (by decide +kernel) rfl, by decide +kernel, by decide +kernel, by decide +kernel⟩
theorem wv_X8_pile : Wv yX8_pile 1 cX8_pile 2 (some .int) := ⟨wb_X8_pile, g_in 1647 (by decide +kernel) rfl, g_in 1648 (by decide +kernel) rfl⟩
theorem ml_RL_143 : Cond.methodLink RL 143 yL_hand ∈ gtbl := g_in 1130 (by decide +kernel) rfl
theorem ml_RL_145 : Cond.methodLink RL 145 yX8_hand ∈ gtbl := g_in 1650 (by decide +kernel) rfl
theorem wb_X8_hand : Wb yX8_hand 1 cX8_hand 2 (some .int) := ⟨g_in 131 (by decide +kernel) rfl, g_in 1653 (by decide +kernel) rfl, by decide +kernel, by decide +kernel, by decide +kernel⟩
theorem wv_X8_hand : Wv yX8_hand 1 cX8_hand 2 (some .int) := ⟨wb_X8_hand, g_in 1651 (by decide +kernel) rfl, g_in 1652 (by decide +kernel) rfl⟩
theorem ml_RL_146 : Cond.methodLink RL 146 yL_card ∈ gtbl := g_in 1142 (by decide +kernel) rfl
theorem ml_RL_149 : Cond.methodLink RL 149 yX8_card ∈ gtbl := g_in 1658 (by decide +kernel) rfl
theorem wb_X8_card : Wb yX8_card 2 cX8_card 3 (some .int) := ⟨g_in 131 (by decide +kernel) rfl, g_in 1661 (by decide +kernel) rfl, by decide +kernel, by decide +kernel, by decide +kernel⟩
theorem wv_X8_card : Wv yX8_card 2 cX8_card 3 (some .int) := ⟨wb_X8_card, g_in 1659 (by decide +kernel) rfl, g_in 1660 (by decide +kernel) rfl⟩
theorem ml_RL_150 : Cond.methodLink RL 150 yX7_drawn ∈ gtbl := g_in 700 (by decide +kernel) rfl
theorem wb_X7_drawn : Wb yX7_drawn 1 cX7_drawn 2 (some .int) := ⟨g_in 122 (by decide +kernel) rfl, g_in 703 (by decide +kernel) rfl, by decide +kernel, by decide +kernel, by decide +kernel⟩
theorem wv_X7_drawn : Wv yX7_drawn 1 cX7_drawn 2 (some .int) := ⟨wb_X7_drawn, g_in 701 (by decide +kernel) rfl, g_in 702 (by decide +kernel) rfl⟩
theorem ml_RL_153 : Cond.methodLink RL 153 yX8_drawn ∈ gtbl := g_in 1679 (by decide +kernel) rfl
theorem wb_X8_drawn : Wb yX8_drawn 1 cX8_drawn 2 (some .int) := ⟨g_in 131 (by decide +kernel) rfl, g_in 1682 (by decide +kernel) rfl, by decide +kernel, by decide +kernel, by decide +kernel⟩
theorem wv_X8_drawn : Wv yX8_drawn 1 cX8_drawn 2 (some .int) := ⟨wb_X8_drawn, g_in 1680 (by decide +kernel) rfl, g_in 1681 (by decide +kernel) rfl⟩
theorem ml_RL_154 : Cond.methodLink RL 154 yL_copies ∈ gtbl := g_in 1155 (by decide +kernel) rfl
theorem ml_RL_157 : Cond.methodLink RL 157 yX8_copies_ ∈ gtbl := g_in 1683 (by decide +kernel) rfl
theorem wb_X8_copies_ : Wb yX8_copies_ 3 cX8_copies_ 5 (some .int) := ⟨g_in 131 (by decide +kernel) rfl, g_in 1686 (by decide +kernel) rfl, by decide +kernel, by decide +kernel, by decide +kernel⟩
theorem wv_X8_copies_ : Wv yX8_copies_ 3 cX8_copies_ 5 (some .int) := ⟨wb_X8_copies_, g_in 1684 (by decide +kernel) rfl, g_in 1685 (by decide +kernel) rfl⟩
theorem ml_RL_158 : Cond.methodLink RL 158 yL_isUseless ∈ gtbl := g_in 1177 (by decide +kernel) rfl
theorem ml_RL_160 : Cond.methodLink RL 160 yX8_isUseless ∈ gtbl := g_in 1699 (by decide +kernel) rfl
theorem wb_X8_isUseless : Wb yX8_isUseless 2 cX8_isUseless 3 (some .boolean) := ⟨g_in 131 (by decide +kernel) rfl, g_in 1702 (by decide +kernel) rfl, by decide +kernel, by decide +kernel, by decide +kernel⟩
theorem wv_X8_isUseless : Wv yX8_isUseless 2 cX8_isUseless 3 (some .boolean) := ⟨wb_X8_isUseless, g_in 1700 (by decide +kernel) rfl, g_in 1701 (by decide +kernel) rfl⟩
theorem ml_RL_161 : Cond.methodLink RL 161 yL_isCritical ∈ gtbl := g_in 1185 (by decide +kernel) rfl
theorem ml_RL_163 : Cond.methodLink RL 163 yX8_isCritical ∈ gtbl := g_in 1711 (by decide +kernel) rfl
theorem wb_X8_isCritical : Wb yX8_isCritical 2 cX8_isCritical 3 (some .boolean) := ⟨g_in 131 (by decide +kernel) rfl, g_in 1714 (by decide +kernel) rfl, by decide +kernel, by decide +kernel, by decide +kernel⟩
theorem wv_X8_isCritical : Wv yX8_isCritical 2 cX8_isCritical 3 (some .boolean) := ⟨wb_X8_isCritical, g_in 1712 (by decide +kernel) rfl, g_in 1713 (by decide +kernel) rfl⟩
theorem ml_RL_164 : Cond.methodLink RL 164 yL_colorsOf ∈ gtbl := g_in 1193 (by decide +kernel) rfl
theorem ml_RL_166 : Cond.methodLink RL 166 yX8_colorsOf ∈ gtbl := g_in 1719 (by decide +kernel) rfl
theorem wb_X8_colorsOf : Wb yX8_colorsOf 2 cX8_colorsOf 3 (some .int) := ⟨g_in 131 (by decide +kernel) rfl, g_in 1722 (by decide +kernel) rfl, by decide +kernel, by decide +kernel, by decide +kernel⟩
theorem wv_X8_colorsOf : Wv yX8_colorsOf 2 cX8_colorsOf 3 (some .int) := ⟨wb_X8_colorsOf, g_in 1720 (by decide +kernel) rfl, g_in 1721 (by decide +kernel) rfl⟩
theorem ml_RL_167 : Cond.methodLink RL 167 yL_ranksOf ∈ gtbl := g_in 1205 (by decide +kernel) rfl
theorem ml_RL_169 : Cond.methodLink RL 169 yX8_ranksOf ∈ gtbl := g_in 1723 (by decide +kernel) rfl
theorem wb_X8_ranksOf : Wb yX8_ranksOf 2 cX8_ranksOf 3 (some .int) := ⟨g_in 131 (by decide +kernel) rfl, g_in 1726 (by decide +kernel) rfl, by decide +kernel, by decide +kernel, by decide +kernel⟩
theorem wv_X8_ranksOf : Wv yX8_ranksOf 2 cX8_ranksOf 3 (some .int) := ⟨wb_X8_ranksOf, g_in 1724 (by decide +kernel) rfl, g_in 1725 (by decide +kernel) rfl⟩
theorem ml_RL_170 : Cond.methodLink RL 170 yL_isTouched ∈ gtbl := g_in 1215 (by decide +kernel) rfl
theorem ml_RL_172 : Cond.methodLink RL 172 yX8_isTouched ∈ gtbl := g_in 1727 (by decide +kernel) rfl
theorem wb_X8_isTouched : Wb yX8_isTouched 2 cX8_isTouched 3 (some .boolean) := ⟨g_in 131 (by decide +kernel) rfl, g_in 1730 (by decide +kernel) rfl, by decide +kernel, by decide +kernel, by decide +kernel⟩
theorem wv_X8_isTouched : Wv yX8_isTouched 2 cX8_isTouched 3 (some .boolean) := ⟨wb_X8_isTouched, g_in 1728 (by decide +kernel) rfl, g_in 1729 (by decide +kernel) rfl⟩
theorem ml_RL_173 : Cond.methodLink RL 173 yL_thinks ∈ gtbl := g_in 1223 (by decide +kernel) rfl
theorem ml_RL_175 : Cond.methodLink RL 175 yX8_thinks ∈ gtbl := g_in 1731 (by decide +kernel) rfl
theorem wb_X8_thinks : Wb yX8_thinks 2 cX8_thinks 3 (some .int) := ⟨g_in 131 (by decide +kernel) rfl, g_in 1734 (by decide +kernel) rfl, by decide +kernel, by decide +kernel, by decide +kernel⟩
theorem wv_X8_thinks : Wv yX8_thinks 2 cX8_thinks 3 (some .int) := ⟨wb_X8_thinks, g_in 1732 (by decide +kernel) rfl, g_in 1733 (by decide +kernel) rfl⟩
theorem ml_RL_176 : Cond.methodLink RL 176 yL_thought ∈ gtbl := g_in 1241 (by decide +kernel) rfl
theorem ml_RL_178 : Cond.methodLink RL 178 yX8_thought ∈ gtbl := g_in 1743 (by decide +kernel) rfl
theorem wb_X8_thought : Wb yX8_thought 3 cX8_thought 4 (some .int) := ⟨g_in 131 (by decide +kernel) rfl, g_in 1746 (by decide +kernel) rfl, by decide +kernel, by decide +kernel, by decide +kernel⟩
theorem wv_X8_thought : Wv yX8_thought 3 cX8_thought 4 (some .int) := ⟨wb_X8_thought, g_in 1744 (by decide +kernel) rfl, g_in 1745 (by decide +kernel) rfl⟩
theorem ml_RL_179 : Cond.methodLink RL 179 yL_knows ∈ gtbl := g_in 1249 (by decide +kernel) rfl
theorem ml_RL_181 : Cond.methodLink RL 181 yX8_knows ∈ gtbl := g_in 1747 (by decide +kernel) rfl
theorem wb_X8_knows : Wb yX8_knows 2 cX8_knows 3 (some .int) := ⟨g_in 131 (by decide +kernel) rfl, g_in 1750 (by decide +kernel) rfl, by decide +kernel, by decide +kernel, by decide +kernel⟩
theorem wv_X8_knows : Wv yX8_knows 2 cX8_knows 3 (some .int) := ⟨wb_X8_knows, g_in 1748 (by decide +kernel) rfl, g_in 1749 (by decide +kernel) rfl⟩
theorem ml_RL_182 : Cond.methodLink RL 182 yL_wordsLeft ∈ gtbl := g_in 1259 (by decide +kernel) rfl
theorem ml_RL_184 : Cond.methodLink RL 184 yX8_wordsLeft ∈ gtbl := g_in 1763 (by decide +kernel) rfl
theorem wb_X8_wordsLeft : Wb yX8_wordsLeft 2 cX8_wordsLeft 3 (some .int) := ⟨g_in 131 (by decide +kernel) rfl, g_in 1766 (by decide +kernel) rfl, by decide +kernel, by decide +kernel, by decide +kernel⟩
theorem wv_X8_wordsLeft : Wv yX8_wordsLeft 2 cX8_wordsLeft 3 (some .int) := ⟨wb_X8_wordsLeft, g_in 1764 (by decide +kernel) rfl, g_in 1765 (by decide +kernel) rfl⟩
theorem ml_RL_185 : Cond.methodLink RL 185 yL_touches ∈ gtbl := g_in 1272 (by decide +kernel) rfl
theorem ml_RL_187 : Cond.methodLink RL 187 yX8_touches ∈ gtbl := g_in 1771 (by decide +kernel) rfl
theorem wb_X8_touches : Wb yX8_touches 3 cX8_touches 4 (some .int) := ⟨g_in 131 (by decide +kernel) rfl, g_in 1774 (by decide +kernel) rfl, by decide +kernel, by decide +kernel, by decide +kernel⟩
theorem wv_X8_touches : Wv yX8_touches 3 cX8_touches 4 (some .int) := ⟨wb_X8_touches, g_in 1772 (by decide +kernel) rfl, g_in 1773 (by decide +kernel) rfl⟩
theorem ml_RL_188 : Cond.methodLink RL 188 yL_tells ∈ gtbl := g_in 1280 (by decide +kernel) rfl
theorem ml_RL_190 : Cond.methodLink RL 190 yX8_tells ∈ gtbl := g_in 1783 (by decide +kernel) rfl
theorem wb_X8_tells : Wb yX8_tells 3 cX8_tells 4 (some .int) := ⟨g_in 131 (by decide +kernel) rfl, g_in 1786 (by decide +kernel) rfl, by decide +kernel, by decide +kernel, by decide +kernel⟩
theorem wv_X8_tells : Wv yX8_tells 3 cX8_tells 4 (some .int) := ⟨wb_X8_tells, g_in 1784 (by decide +kernel) rfl, g_in 1785 (by decide +kernel) rfl⟩
theorem ml_RL_191 : Cond.methodLink RL 191 yL_play ∈ gtbl := g_in 1288 (by decide +kernel) rfl
theorem ml_RL_193 : Cond.methodLink RL 193 yX8_play ∈ gtbl := g_in 1807 (by decide +kernel) rfl
theorem wb_X8_play : Wb yX8_play 1 cX8_play 2 (some .int) := ⟨g_in 131 (by decide +kernel) rfl, g_in 1810 (by decide +kernel) rfl, by decide +kernel, by decide +kernel, by decide +kernel⟩
theorem wv_X8_play : Wv yX8_play 1 cX8_play 2 (some .int) := ⟨wb_X8_play, g_in 1808 (by decide +kernel) rfl, g_in 1809 (by decide +kernel) rfl⟩
theorem ml_RL_194 : Cond.methodLink RL 194 yL_discard ∈ gtbl := g_in 1296 (by decide +kernel) rfl
theorem ml_RL_196 : Cond.methodLink RL 196 yX8_discard ∈ gtbl := g_in 1847 (by decide +kernel) rfl
theorem wb_X8_discard : Wb yX8_discard 1 cX8_discard 2 (some .int) := ⟨g_in 131 (by decide +kernel) rfl, g_in 1850 (by decide +kernel) rfl, by decide +kernel, by decide +kernel, by decide +kernel⟩
theorem wv_X8_discard : Wv yX8_discard 1 cX8_discard 2 (some .int) := ⟨wb_X8_discard, g_in 1848 (by decide +kernel) rfl, g_in 1849 (by decide +kernel) rfl⟩
theorem ml_RL_197 : Cond.methodLink RL 197 yL_hint ∈ gtbl := g_in 1304 (by decide +kernel) rfl
theorem ml_RL_199 : Cond.methodLink RL 199 yX8_hint ∈ gtbl := g_in 1855 (by decide +kernel) rfl
theorem wb_X8_hint : Wb yX8_hint 3 cX8_hint 4 (some .int) := ⟨g_in 131 (by decide +kernel) rfl, g_in 1858 (by decide +kernel) rfl, by decide +kernel, by decide +kernel, by decide +kernel⟩
theorem wv_X8_hint : Wv yX8_hint 3 cX8_hint 4 (some .int) := ⟨wb_X8_hint, g_in 1856 (by decide +kernel) rfl, g_in 1857 (by decide +kernel) rfl⟩
theorem ml_RL_200 : Cond.methodLink RL 200 yX7_pass ∈ gtbl := g_in 711 (by decide +kernel) rfl
theorem wb_X7_pass : Wb yX7_pass 0 cX7_pass 1 (some .int) := ⟨g_in 122 (by decide +kernel) rfl, g_in 714 (by decide +kernel) rfl, by decide +kernel, by decide +kernel, by decide +kernel⟩
theorem wv_X7_pass : Wv yX7_pass 0 cX7_pass 1 (some .int) := ⟨wb_X7_pass, g_in 712 (by decide +kernel) rfl, g_in 713 (by decide +kernel) rfl⟩
theorem ml_RL_203 : Cond.methodLink RL 203 yX8_pass ∈ gtbl := g_in 1867 (by decide +kernel) rfl
theorem wb_X8_pass : Wb yX8_pass 0 cX8_pass 1 (some .int) := ⟨g_in 131 (by decide +kernel) rfl, g_in 1870 (by decide +kernel) rfl, by decide +kernel, by decide +kernel, by decide +kernel⟩
theorem wv_X8_pass : Wv yX8_pass 0 cX8_pass 1 (some .int) := ⟨wb_X8_pass, g_in 1868 (by decide +kernel) rfl, g_in 1869 (by decide +kernel) rfl⟩
theorem ml_RL_204 : Cond.methodLink RL 204 yL_advice ∈ gtbl := g_in 1314 (by decide +kernel) rfl
theorem ml_RL_206 : Cond.methodLink RL 206 yX8_advice ∈ gtbl := g_in 1875 (by decide +kernel) rfl
theorem wb_X8_advice : Wb yX8_advice 1 cX8_advice 2 (some .int) := ⟨g_in 131 (by decide +kernel) rfl, g_in 1878 (by decide +kernel) rfl, by decide +kernel, by decide +kernel, by decide +kernel⟩
theorem wv_X8_advice : Wv yX8_advice 1 cX8_advice 2 (some .int) := ⟨wb_X8_advice, g_in 1876 (by decide +kernel) rfl, g_in 1877 (by decide +kernel) rfl⟩
theorem ml_RL_207 : Cond.methodLink RL 207 yL_follow ∈ gtbl := g_in 1322 (by decide +kernel) rfl
theorem ml_RL_209 : Cond.methodLink RL 209 yX8_follow ∈ gtbl := g_in 1895 (by decide +kernel) rfl
theorem wb_X8_follow : Wb yX8_follow 1 cX8_follow 3 (some .int) := ⟨g_in 131 (by decide +kernel) rfl, g_in 1898 (by decide +kernel) rfl, by decide +kernel, by decide +kernel, by decide +kernel⟩
theorem wv_X8_follow : Wv yX8_follow 1 cX8_follow 3 (some .int) := ⟨wb_X8_follow, g_in 1896 (by decide +kernel) rfl, g_in 1897 (by decide +kernel) rfl⟩
theorem ml_RL_210 : Cond.methodLink RL 210 yX7_foreseen ∈ gtbl := g_in 737 (by decide +kernel) rfl
theorem wb_X7_foreseen : Wb yX7_foreseen 0 cX7_foreseen 2 (some .int) := ⟨g_in 122 (by decide +kernel) rfl, g_in 740 (by decide +kernel) rfl, by decide +kernel, by decide +kernel, by decide +kernel⟩
theorem wv_X7_foreseen : Wv yX7_foreseen 0 cX7_foreseen 2 (some .int) := ⟨wb_X7_foreseen, g_in 738 (by decide +kernel) rfl, g_in 739 (by decide +kernel) rfl⟩
theorem ml_RL_213 : Cond.methodLink RL 213 yX8_foreseen ∈ gtbl := g_in 1903 (by decide +kernel) rfl
theorem wb_X8_foreseen : Wb yX8_foreseen 0 cX8_foreseen 2 (some .int) := ⟨g_in 131 (by decide +kernel) rfl, g_in 1906 (by decide +kernel) rfl, by decide +kernel, by decide +kernel, by decide +kernel⟩
theorem wv_X8_foreseen : Wv yX8_foreseen 0 cX8_foreseen 2 (some .int) := ⟨wb_X8_foreseen, g_in 1904 (by decide +kernel) rfl, g_in 1905 (by decide +kernel) rfl⟩
theorem ml_RL_214 : Cond.methodLink RL 214 yX7_bound ∈ gtbl := g_in 898 (by decide +kernel) rfl
theorem wb_X7_bound : Wb yX7_bound 0 cX7_bound 1 (some .int) := ⟨g_in 122 (by decide +kernel) rfl, g_in 901 (by decide +kernel) rfl, by decide +kernel, by decide +kernel, by decide +kernel⟩
theorem wv_X7_bound : Wv yX7_bound 0 cX7_bound 1 (some .int) := ⟨wb_X7_bound, g_in 899 (by decide +kernel) rfl, g_in 900 (by decide +kernel) rfl⟩
theorem ml_RL_217 : Cond.methodLink RL 217 yX8_bound ∈ gtbl := g_in 1907 (by decide +kernel) rfl
theorem wb_X8_bound : Wb yX8_bound 0 cX8_bound 1 (some .int) := ⟨g_in 131 (by decide +kernel) rfl, g_in 1910 (by decide +kernel) rfl, by decide +kernel, by decide +kernel, by decide +kernel⟩
theorem wv_X8_bound : Wv yX8_bound 0 cX8_bound 1 (some .int) := ⟨wb_X8_bound, g_in 1908 (by decide +kernel) rfl, g_in 1909 (by decide +kernel) rfl⟩
theorem ml_RL_218 : Cond.methodLink RL 218 yX7_pace ∈ gtbl := g_in 906 (by decide +kernel) rfl
theorem wb_X7_pace : Wb yX7_pace 0 cX7_pace 1 (some .int) := ⟨g_in 122 (by decide +kernel) rfl, g_in 909 (by decide +kernel) rfl, by decide +kernel, by decide +kernel, by decide +kernel⟩
theorem wv_X7_pace : Wv yX7_pace 0 cX7_pace 1 (some .int) := ⟨wb_X7_pace, g_in 907 (by decide +kernel) rfl, g_in 908 (by decide +kernel) rfl⟩
theorem ml_RL_221 : Cond.methodLink RL 221 yX8_pace ∈ gtbl := g_in 1915 (by decide +kernel) rfl
theorem wb_X8_pace : Wb yX8_pace 0 cX8_pace 1 (some .int) := ⟨g_in 131 (by decide +kernel) rfl, g_in 1918 (by decide +kernel) rfl, by decide +kernel, by decide +kernel, by decide +kernel⟩
theorem wv_X8_pace : Wv yX8_pace 0 cX8_pace 1 (some .int) := ⟨wb_X8_pace, g_in 1916 (by decide +kernel) rfl, g_in 1917 (by decide +kernel) rfl⟩
theorem ml_RL_222 : Cond.methodLink RL 222 yX7_value ∈ gtbl := g_in 910 (by decide +kernel) rfl
theorem wb_X7_value : Wb yX7_value 0 cX7_value 1 (some .int) := ⟨g_in 122 (by decide +kernel) rfl, g_in 913 (by decide +kernel) rfl, by decide +kernel, by decide +kernel, by decide +kernel⟩
theorem wv_X7_value : Wv yX7_value 0 cX7_value 1 (some .int) := ⟨wb_X7_value, g_in 911 (by decide +kernel) rfl, g_in 912 (by decide +kernel) rfl⟩
theorem ml_RL_225 : Cond.methodLink RL 225 yX8_value ∈ gtbl := g_in 1919 (by decide +kernel) rfl
theorem wb_X8_value : Wb yX8_value 0 cX8_value 1 (some .int) := ⟨g_in 131 (by decide +kernel) rfl, g_in 1922 (by decide +kernel) rfl, by decide +kernel, by decide +kernel, by decide +kernel⟩
theorem wv_X8_value : Wv yX8_value 0 cX8_value 1 (some .int) := ⟨wb_X8_value, g_in 1920 (by decide +kernel) rfl, g_in 1921 (by decide +kernel) rfl⟩
theorem ml_RL_226 : Cond.methodLink RL 226 yX7_positions ∈ gtbl := g_in 1019 (by decide +kernel) rfl
theorem wb_X7_positions : Wb yX7_positions 0 cX7_positions 1 (some .int) := ⟨g_in 122 (by decide +kernel) rfl, g_in 1022 (by decide +kernel) rfl, by decide +kernel, by decide +kernel, by decide +kernel⟩
theorem wv_X7_positions : Wv yX7_positions 0 cX7_positions 1 (some .int) := ⟨wb_X7_positions, g_in 1020 (by decide +kernel) rfl, g_in 1021 (by decide +kernel) rfl⟩
theorem ml_RL_229 : Cond.methodLink RL 229 yX8_positions ∈ gtbl := g_in 1975 (by decide +kernel) rfl
theorem wb_X8_positions : Wb yX8_positions 0 cX8_positions 2 (some .int) := ⟨g_in 131 (by decide +kernel) rfl, g_in 1978 (by decide +kernel) rfl, by decide +kernel, by decide +kernel, by decide +kernel⟩
theorem wv_X8_positions : Wv yX8_positions 0 cX8_positions 2 (some .int) := ⟨wb_X8_positions, g_in 1976 (by decide +kernel) rfl, g_in 1977 (by decide +kernel) rfl⟩
theorem ml_RL_230 : Cond.methodLink RL 230 yL_valueBehind ∈ gtbl := g_in 1330 (by decide +kernel) rfl
theorem ml_RL_232 : Cond.methodLink RL 232 yX8_valueBehind ∈ gtbl := g_in 1979 (by decide +kernel) rfl
theorem wb_X8_valueBehind : Wb yX8_valueBehind 2 cX8_valueBehind 3 (some .int) := ⟨g_in 131 (by decide +kernel) rfl, g_in 1982 (by decide +kernel) rfl, by decide +kernel, by decide +kernel, by decide +kernel⟩
theorem wv_X8_valueBehind : Wv yX8_valueBehind 2 cX8_valueBehind 3 (some .int) := ⟨wb_X8_valueBehind, g_in 1980 (by decide +kernel) rfl, g_in 1981 (by decide +kernel) rfl⟩
theorem ml_RL_233 : Cond.methodLink RL 233 yL_bestMove ∈ gtbl := g_in 1347 (by decide +kernel) rfl
theorem ml_RL_235 : Cond.methodLink RL 235 yX8_bestMove ∈ gtbl := g_in 1987 (by decide +kernel) rfl
theorem wb_X8_bestMove : Wb yX8_bestMove 1 cX8_bestMove 6 (some .int) := ⟨g_in 131 (by decide +kernel) rfl, g_in 1990 (by decide +kernel) rfl, by decide +kernel, by decide +kernel, by decide +kernel⟩
theorem wv_X8_bestMove : Wv yX8_bestMove 1 cX8_bestMove 6 (some .int) := ⟨wb_X8_bestMove, g_in 1988 (by decide +kernel) rfl, g_in 1989 (by decide +kernel) rfl⟩
theorem ml_RL_236 : Cond.methodLink RL 236 yL_total ∈ gtbl := g_in 1364 (by decide +kernel) rfl
theorem ml_RL_238 : Cond.methodLink RL 238 yX8_total ∈ gtbl := g_in 1991 (by decide +kernel) rfl
theorem wb_X8_total : Wb yX8_total 1 cX8_total 2 (some .int) := ⟨g_in 131 (by decide +kernel) rfl, g_in 1994 (by decide +kernel) rfl, by decide +kernel, by decide +kernel, by decide +kernel⟩
theorem wv_X8_total : Wv yX8_total 1 cX8_total 2 (some .int) := ⟨wb_X8_total, g_in 1992 (by decide +kernel) rfl, g_in 1993 (by decide +kernel) rfl⟩
theorem ml_RL_239 : Cond.methodLink RL 239 yL_logPart ∈ gtbl := g_in 1372 (by decide +kernel) rfl
theorem ml_RL_241 : Cond.methodLink RL 241 yX8_logPart ∈ gtbl := g_in 1995 (by decide +kernel) rfl
theorem wb_X8_logPart : Wb yX8_logPart 2 cX8_logPart 4 (some .int) := ⟨g_in 131 (by decide +kernel) rfl, g_in 1998 (by decide +kernel) rfl, by decide +kernel, by decide +kernel, by decide +kernel⟩
theorem wv_X8_logPart : Wv yX8_logPart 2 cX8_logPart 4 (some .int) := ⟨wb_X8_logPart, g_in 1996 (by decide +kernel) rfl, g_in 1997 (by decide +kernel) rfl⟩
theorem ml_RL_242 : Cond.methodLink RL 242 yX7_undo ∈ gtbl := g_in 1023 (by decide +kernel) rfl
theorem wb_X7_undo : Wb yX7_undo 0 cX7_undo 1 (some .int) := ⟨g_in 122 (by decide +kernel) rfl, g_in 1026 (by decide +kernel) rfl, by decide +kernel, by decide +kernel, by decide +kernel⟩
theorem wv_X7_undo : Wv yX7_undo 0 cX7_undo 1 (some .int) := ⟨wb_X7_undo, g_in 1024 (by decide +kernel) rfl, g_in 1025 (by decide +kernel) rfl⟩
theorem ml_RL_245 : Cond.methodLink RL 245 yX8_undo ∈ gtbl := g_in 1803 (by decide +kernel) rfl
theorem wb_X8_undo : Wb yX8_undo 0 cX8_undo 1 (some .int) := ⟨g_in 131 (by decide +kernel) rfl, g_in 1806 (by decide +kernel) rfl, by decide +kernel, by decide +kernel, by decide +kernel⟩
theorem wv_X8_undo : Wv yX8_undo 0 cX8_undo 1 (some .int) := ⟨wb_X8_undo, g_in 1804 (by decide +kernel) rfl, g_in 1805 (by decide +kernel) rfl⟩
theorem ml_RL_246 : Cond.methodLink RL 246 yL_writeHand ∈ gtbl := g_in 1384 (by decide +kernel) rfl
theorem ml_RL_249 : Cond.methodLink RL 249 yX8_writeHand ∈ gtbl := g_in 1999 (by decide +kernel) rfl
theorem wb_X8_writeHand : Wb yX8_writeHand 2 cX8_writeHand 7 (some .int) := ⟨g_in 131 (by decide +kernel) rfl, g_in 2002 (by decide +kernel) rfl, by decide +kernel, by decide +kernel, by decide +kernel⟩
theorem wv_X8_writeHand : Wv yX8_writeHand 2 cX8_writeHand 7 (some .int) := ⟨wb_X8_writeHand, g_in 2000 (by decide +kernel) rfl, g_in 2001 (by decide +kernel) rfl⟩
theorem ml_RL_250 : Cond.methodLink RL 250 yX7_outputByte ∈ gtbl := g_in 1027 (by decide +kernel) rfl
theorem wb_X7_outputByte : Wb yX7_outputByte 1 cX7_outputByte 2 (some .int) := ⟨g_in 122 (by decide +kernel) rfl, g_in 1030 (by decide +kernel) rfl, by decide +kernel, by decide +kernel, by decide +kernel⟩
theorem wv_X7_outputByte : Wv yX7_outputByte 1 cX7_outputByte 2 (some .int) := ⟨wb_X7_outputByte, g_in 1028 (by decide +kernel) rfl, g_in 1029 (by decide +kernel) rfl⟩
theorem ml_RL_253 : Cond.methodLink RL 253 yX8_outputByte ∈ gtbl := g_in 2010 (by decide +kernel) rfl
theorem wb_X8_outputByte : Wb yX8_outputByte 1 cX8_outputByte 2 (some .int) := ⟨g_in 131 (by decide +kernel) rfl, g_in 2013 (by decide +kernel) rfl, by decide +kernel, by decide +kernel, by decide +kernel⟩
theorem wv_X8_outputByte : Wv yX8_outputByte 1 cX8_outputByte 2 (some .int) := ⟨wb_X8_outputByte, g_in 2011 (by decide +kernel) rfl, g_in 2012 (by decide +kernel) rfl⟩
theorem ml_RL_254 : Cond.methodLink RL 254 yL_saveSnapshot ∈ gtbl := g_in 1399 (by decide +kernel) rfl
theorem ml_RL_256 : Cond.methodLink RL 256 yX8_saveSnapshot ∈ gtbl := g_in 2014 (by decide +kernel) rfl
theorem wb_X8_saveSnapshot : Wb yX8_saveSnapshot 1 cX8_saveSnapshot 2 (some .int) := ⟨g_in 131 (by decide +kernel) rfl, g_in 2017 (by decide +kernel) rfl, by decide +kernel, by decide +kernel, by decide +kernel⟩
theorem wv_X8_saveSnapshot : Wv yX8_saveSnapshot 1 cX8_saveSnapshot 2 (some .int) := ⟨wb_X8_saveSnapshot, g_in 2015 (by decide +kernel) rfl, g_in 2016 (by decide +kernel) rfl⟩
theorem ml_RL_257 : Cond.methodLink RL 257 yL_restoreSnapshot ∈ gtbl := g_in 1411 (by decide +kernel) rfl
theorem ml_RL_259 : Cond.methodLink RL 259 yX8_restoreSnapshot ∈ gtbl := g_in 2018 (by decide +kernel) rfl
theorem wb_X8_restoreSnapshot : Wb yX8_restoreSnapshot 1 cX8_restoreSnapshot 2 (some .int) := ⟨g_in 131 (by decide +kernel) rfl, g_in 2021 (by decide +kernel) rfl, by decide +kernel, by decide +kernel, by decide +kernel⟩
theorem wv_X8_restoreSnapshot : Wv yX8_restoreSnapshot 1 cX8_restoreSnapshot 2 (some .int) := ⟨wb_X8_restoreSnapshot, g_in 2019 (by decide +kernel) rfl, g_in 2020 (by decide +kernel) rfl⟩
