/-! OWN, written by wip/p2/tools/mkloop.py, mk730.py: what is owed of each call where append's answers alone are compared, and the loop out of it -/
def Pq_0 (N : Nat) (R : Rl) : Prop := ∀ (pl : Nat → Ob → Prop) (sX sG ru : Ob) (q : Nat) (sR : Ob) (PS SS : Nat → Nat × Ob) (sM : Ob), R pl sX sG ru q sR PS SS sM → ∀   (a1 : Int32) (a2 : Int32), ∃ (z1 : Int32 × Ob) (z2 : Int32 × Ob), (f_X7_append N sX (((a1).toInt64 <<< (((32 : Int32)).toInt64 &&& 63)) ||| ((a2).toInt64 &&& (4294967295 : Int64))) = some z1) ∧ (f_X8_append N sM (((a1).toInt64 <<< (((32 : Int32)).toInt64 &&& 63)) ||| ((a2).toInt64 &&& (4294967295 : Int64))) = some z2) ∧ (z1.1 = z2.1) ∧ R pl z1.2 sG ru q sR PS SS z2.2
def Pq_1 (N : Nat) (R : Rl) : Prop := ∀ (pl : Nat → Ob → Prop) (sX sG ru : Ob) (q : Nat) (sR : Ob) (PS SS : Nat → Nat × Ob) (sM : Ob), R pl sX sG ru q sR PS SS sM → ∃ (z1 : Int32 × Ob × Ob × Ob × Ob × Bool) (z2 : Int32 × Ob), (f_X7_load N sX sR sG = some z1) ∧ (f_X8_load N sM = some z2) ∧ ∀ bF : Nat, (∀ S, ¬ pl bF S) → R (fun a S => pl a S ∨ (a = bF ∧ S = z1.2.2.2.2.1)) z1.2.1 z1.2.2.2.1 (bif z1.2.2.2.2.2 then z1.2.2.2.2.1 else ru) (bif z1.2.2.2.2.2 then bF else q) z1.2.2.1 PS SS z2.2
def Pq_2 (N : Nat) (R : Rl) : Prop := ∀ (pl : Nat → Ob → Prop) (sX sG ru : Ob) (q : Nat) (sR : Ob) (PS SS : Nat → Nat × Ob) (sM : Ob), R pl sX sG ru q sR PS SS sM → ∃ (z1 : Int32) (z2 : Int32 × Ob), (f_X7_loadError N sX sR = some z1) ∧ (f_X8_loadError N sM = some z2) ∧ R pl sX sG ru q sR PS SS z2.2
def Pq_3 (N : Nat) (R : Rl) : Prop := ∀ (pl : Nat → Ob → Prop) (sX sG ru : Ob) (q : Nat) (sR : Ob) (PS SS : Nat → Nat × Ob) (sM : Ob), R pl sX sG ru q sR PS SS sM → ∃ (z1 : Int32) (z2 : Int32 × Ob), (f_X7_loadStatement N sX sR = some z1) ∧ (f_X8_loadStatement N sM = some z2) ∧ R pl sX sG ru q sR PS SS z2.2
def Pq_4 (N : Nat) (R : Rl) : Prop := ∀ (pl : Nat → Ob → Prop) (sX sG ru : Ob) (q : Nat) (sR : Ob) (PS SS : Nat → Nat × Ob) (sM : Ob), R pl sX sG ru q sR PS SS sM → ∀  (fo : Nat → Int64) (a1 : Int32), ∃ (z1 : Int32 × (Nat → Int64)) (z2 : Int32 × Ob), (f_L_count N sX sG ru fo a1 = some z1) ∧ (f_X8_count N sM a1 = some z2) ∧ R pl sX sG ru q sR PS SS z2.2
def Pq_5 (N : Nat) (R : Rl) : Prop := ∀ (pl : Nat → Ob → Prop) (sX sG ru : Ob) (q : Nat) (sR : Ob) (PS SS : Nat → Nat × Ob) (sM : Ob), R pl sX sG ru q sR PS SS sM → ∃ (z1 : Int32) (z2 : Int32 × Ob), (f_X7_turnOf N sX sG ru = some z1) ∧ (f_X8_turnOf N sM = some z2) ∧ R pl sX sG ru q sR PS SS z2.2
def Pq_6 (N : Nat) (R : Rl) : Prop := ∀ (pl : Nat → Ob → Prop) (sX sG ru : Ob) (q : Nat) (sR : Ob) (PS SS : Nat → Nat × Ob) (sM : Ob), R pl sX sG ru q sR PS SS sM → ∃ (z1 : Int32) (z2 : Int32 × Ob), (f_X7_over N sX sG ru = some z1) ∧ (f_X8_over N sM = some z2) ∧ R pl sX sG ru q sR PS SS z2.2
def Pq_7 (N : Nat) (R : Rl) : Prop := ∀ (pl : Nat → Ob → Prop) (sX sG ru : Ob) (q : Nat) (sR : Ob) (PS SS : Nat → Nat × Ob) (sM : Ob), R pl sX sG ru q sR PS SS sM → ∀  (fo : Nat → Int64) (a1 : Int32), ∃ (z1 : Int32 × (Nat → Int64)) (z2 : Int32 × Ob), (f_L_pile N sX sG ru fo a1 = some z1) ∧ (f_X8_pile N sM a1 = some z2) ∧ R pl sX sG ru q sR PS SS z2.2
def Pq_8 (N : Nat) (R : Rl) : Prop := ∀ (pl : Nat → Ob → Prop) (sX sG ru : Ob) (q : Nat) (sR : Ob) (PS SS : Nat → Nat × Ob) (sM : Ob), R pl sX sG ru q sR PS SS sM → ∀  (fo : Nat → Int64) (a1 : Int32), ∃ (z1 : Int32 × (Nat → Int64)) (z2 : Int32 × Ob), (f_L_hand N sX sG ru fo a1 = some z1) ∧ (f_X8_hand N sM a1 = some z2) ∧ R pl sX sG ru q sR PS SS z2.2
def Pq_9 (N : Nat) (R : Rl) : Prop := ∀ (pl : Nat → Ob → Prop) (sX sG ru : Ob) (q : Nat) (sR : Ob) (PS SS : Nat → Nat × Ob) (sM : Ob), R pl sX sG ru q sR PS SS sM → ∀  (fo : Nat → Int64) (a1 : Int32) (a2 : Int32), ∃ (z1 : Int32 × (Nat → Int64)) (z2 : Int32 × Ob), (f_L_card N sX sG ru fo a1 a2 = some z1) ∧ (f_X8_card N sM a1 a2 = some z2) ∧ R pl sX sG ru q sR PS SS z2.2
def Pq_10 (N : Nat) (R : Rl) : Prop := ∀ (pl : Nat → Ob → Prop) (sX sG ru : Ob) (q : Nat) (sR : Ob) (PS SS : Nat → Nat × Ob) (sM : Ob), R pl sX sG ru q sR PS SS sM → ∀   (a1 : Int32), ∃ (z1 : Int32) (z2 : Int32 × Ob), (f_X7_drawn N sX sG ru a1 = some z1) ∧ (f_X8_drawn N sM a1 = some z2) ∧ R pl sX sG ru q sR PS SS z2.2
def Pq_11 (N : Nat) (R : Rl) : Prop := ∀ (pl : Nat → Ob → Prop) (sX sG ru : Ob) (q : Nat) (sR : Ob) (PS SS : Nat → Nat × Ob) (sM : Ob), R pl sX sG ru q sR PS SS sM → ∀  (fo : Nat → Int64) (a1 : Int32) (a2 : Int32) (a3 : Int32), ∃ (z1 : Int32 × (Nat → Int64)) (z2 : Int32 × Ob), (f_L_copies N sX sG ru fo a1 a2 a3 = some z1) ∧ (f_X8_copies_ N sM a1 a2 a3 = some z2) ∧ R pl sX sG ru q sR PS SS z2.2
def Pq_12 (N : Nat) (R : Rl) : Prop := ∀ (pl : Nat → Ob → Prop) (sX sG ru : Ob) (q : Nat) (sR : Ob) (PS SS : Nat → Nat × Ob) (sM : Ob), R pl sX sG ru q sR PS SS sM → ∀  (fo : Nat → Int64) (a1 : Int32) (a2 : Int32), ∃ (z1 : Int32 × (Nat → Int64)) (z2 : Int32 × Ob), (f_L_isUseless N sX sG ru fo a1 a2 = some z1) ∧ (f_X8_isUseless N sM a1 a2 = some z2) ∧ R pl sX sG ru q sR PS SS z2.2
def Pq_13 (N : Nat) (R : Rl) : Prop := ∀ (pl : Nat → Ob → Prop) (sX sG ru : Ob) (q : Nat) (sR : Ob) (PS SS : Nat → Nat × Ob) (sM : Ob), R pl sX sG ru q sR PS SS sM → ∀  (fo : Nat → Int64) (a1 : Int32) (a2 : Int32), ∃ (z1 : Int32 × (Nat → Int64)) (z2 : Int32 × Ob), (f_L_isCritical N sX sG ru fo a1 a2 = some z1) ∧ (f_X8_isCritical N sM a1 a2 = some z2) ∧ R pl sX sG ru q sR PS SS z2.2
def Pq_14 (N : Nat) (R : Rl) : Prop := ∀ (pl : Nat → Ob → Prop) (sX sG ru : Ob) (q : Nat) (sR : Ob) (PS SS : Nat → Nat × Ob) (sM : Ob), R pl sX sG ru q sR PS SS sM → ∀  (fo : Nat → Int64) (a1 : Int32) (a2 : Int32), ∃ (z1 : Int32 × (Nat → Int64)) (z2 : Int32 × Ob), (f_L_colorsOf N sX sG ru fo a1 a2 = some z1) ∧ (f_X8_colorsOf N sM a1 a2 = some z2) ∧ R pl sX sG ru q sR PS SS z2.2
def Pq_15 (N : Nat) (R : Rl) : Prop := ∀ (pl : Nat → Ob → Prop) (sX sG ru : Ob) (q : Nat) (sR : Ob) (PS SS : Nat → Nat × Ob) (sM : Ob), R pl sX sG ru q sR PS SS sM → ∀  (fo : Nat → Int64) (a1 : Int32) (a2 : Int32), ∃ (z1 : Int32 × (Nat → Int64)) (z2 : Int32 × Ob), (f_L_ranksOf N sX sG ru fo a1 a2 = some z1) ∧ (f_X8_ranksOf N sM a1 a2 = some z2) ∧ R pl sX sG ru q sR PS SS z2.2
def Pq_16 (N : Nat) (R : Rl) : Prop := ∀ (pl : Nat → Ob → Prop) (sX sG ru : Ob) (q : Nat) (sR : Ob) (PS SS : Nat → Nat × Ob) (sM : Ob), R pl sX sG ru q sR PS SS sM → ∀  (fo : Nat → Int64) (a1 : Int32) (a2 : Int32), ∃ (z1 : Int32 × (Nat → Int64)) (z2 : Int32 × Ob), (f_L_isTouched N sX sG ru fo a1 a2 = some z1) ∧ (f_X8_isTouched N sM a1 a2 = some z2) ∧ R pl sX sG ru q sR PS SS z2.2
def Pq_17 (N : Nat) (R : Rl) : Prop := ∀ (pl : Nat → Ob → Prop) (sX sG ru : Ob) (q : Nat) (sR : Ob) (PS SS : Nat → Nat × Ob) (sM : Ob), R pl sX sG ru q sR PS SS sM → ∀  (sMi : Ob) (fo : Nat → Int64) (a1 : Int32) (a2 : Int32), ∃ (z1 : Int32 × Ob × (Nat → Int64)) (z2 : Int32 × Ob), (f_L_thinks N sX sG ru sMi fo a1 a2 = some z1) ∧ (f_X8_thinks N sM a1 a2 = some z2) ∧ R pl sX sG ru q sR PS SS z2.2
def Pq_18 (N : Nat) (R : Rl) : Prop := ∀ (pl : Nat → Ob → Prop) (sX sG ru : Ob) (q : Nat) (sR : Ob) (PS SS : Nat → Nat × Ob) (sM : Ob), R pl sX sG ru q sR PS SS sM → ∀  (sMi : Ob) (fo : Nat → Int64) (a1 : Int32) (a2 : Int32) (a3 : Int32), ∃ (z1 : Int32 × Ob × (Nat → Int64)) (z2 : Int32 × Ob), (f_L_thought N sX sG ru sMi fo a1 a2 a3 = some z1) ∧ (f_X8_thought N sM a1 a2 a3 = some z2) ∧ R pl sX sG ru q sR PS SS z2.2
def Pq_19 (N : Nat) (R : Rl) : Prop := ∀ (pl : Nat → Ob → Prop) (sX sG ru : Ob) (q : Nat) (sR : Ob) (PS SS : Nat → Nat × Ob) (sM : Ob), R pl sX sG ru q sR PS SS sM → ∀  (sMi : Ob) (fo : Nat → Int64) (a1 : Int32) (a2 : Int32), ∃ (z1 : Int32 × Ob × (Nat → Int64)) (z2 : Int32 × Ob), (f_L_knows N sX sG ru sMi fo a1 a2 = some z1) ∧ (f_X8_knows N sM a1 a2 = some z2) ∧ R pl sX sG ru q sR PS SS z2.2
def Pq_20 (N : Nat) (R : Rl) : Prop := ∀ (pl : Nat → Ob → Prop) (sX sG ru : Ob) (q : Nat) (sR : Ob) (PS SS : Nat → Nat × Ob) (sM : Ob), R pl sX sG ru q sR PS SS sM → ∀  (fo : Nat → Int64) (a1 : Int32) (a2 : Int32), ∃ (z1 : Int32 × (Nat → Int64)) (z2 : Int32 × Ob), (f_L_wordsLeft N sX sG ru fo a1 a2 = some z1) ∧ (f_X8_wordsLeft N sM a1 a2 = some z2) ∧ R pl sX sG ru q sR PS SS z2.2
def Pq_21 (N : Nat) (R : Rl) : Prop := ∀ (pl : Nat → Ob → Prop) (sX sG ru : Ob) (q : Nat) (sR : Ob) (PS SS : Nat → Nat × Ob) (sM : Ob), R pl sX sG ru q sR PS SS sM → ∀  (fo : Nat → Int64) (a1 : Int32) (a2 : Int32) (a3 : Int32), ∃ (z1 : Int32 × (Nat → Int64)) (z2 : Int32 × Ob), (f_L_touches N sX sG ru fo a1 a2 a3 = some z1) ∧ (f_X8_touches N sM a1 a2 a3 = some z2) ∧ R pl sX sG ru q sR PS SS z2.2
def Pq_22 (N : Nat) (R : Rl) : Prop := ∀ (pl : Nat → Ob → Prop) (sX sG ru : Ob) (q : Nat) (sR : Ob) (PS SS : Nat → Nat × Ob) (sM : Ob), R pl sX sG ru q sR PS SS sM → ∀  (sMi : Ob) (fo : Nat → Int64) (a1 : Int32) (a2 : Int32) (a3 : Int32), ∃ (z1 : Int32 × Ob × (Nat → Int64)) (z2 : Int32 × Ob), (f_L_tells N sX sG ru sMi fo a1 a2 a3 = some z1) ∧ (f_X8_tells N sM a1 a2 a3 = some z2) ∧ R pl sX sG ru q sR PS SS z2.2
def Pq_23 (N : Nat) (R : Rl) : Prop := ∀ (pl : Nat → Ob → Prop) (sX sG ru : Ob) (q : Nat) (sR : Ob) (PS SS : Nat → Nat × Ob) (sM : Ob), R pl sX sG ru q sR PS SS sM → ∀  (fo : Nat → Int64) (a1 : Int32), ∃ (z1 : Int32 × Ob × Ob × (Nat → Int64) × (Nat → Nat × Ob)) (z2 : Int32 × Ob), (f_L_play N q sX sG ru fo PS a1 = some z1) ∧ (f_X8_play N sM a1 = some z2) ∧ R pl z1.2.1 z1.2.2.1 ru q sR z1.2.2.2.2 SS z2.2
def Pq_24 (N : Nat) (R : Rl) : Prop := ∀ (pl : Nat → Ob → Prop) (sX sG ru : Ob) (q : Nat) (sR : Ob) (PS SS : Nat → Nat × Ob) (sM : Ob), R pl sX sG ru q sR PS SS sM → ∀  (fo : Nat → Int64) (a1 : Int32), ∃ (z1 : Int32 × Ob × Ob × (Nat → Int64) × (Nat → Nat × Ob)) (z2 : Int32 × Ob), (f_L_discard N q sX sG ru fo PS a1 = some z1) ∧ (f_X8_discard N sM a1 = some z2) ∧ R pl z1.2.1 z1.2.2.1 ru q sR z1.2.2.2.2 SS z2.2
def Pq_25 (N : Nat) (R : Rl) : Prop := ∀ (pl : Nat → Ob → Prop) (sX sG ru : Ob) (q : Nat) (sR : Ob) (PS SS : Nat → Nat × Ob) (sM : Ob), R pl sX sG ru q sR PS SS sM → ∀  (fo : Nat → Int64) (a1 : Int32) (a2 : Int32) (a3 : Int32), ∃ (z1 : Int32 × Ob × Ob × (Nat → Int64) × (Nat → Nat × Ob)) (z2 : Int32 × Ob), (f_L_hint N q sX sG ru fo PS a1 a2 a3 = some z1) ∧ (f_X8_hint N sM a1 a2 a3 = some z2) ∧ R pl z1.2.1 z1.2.2.1 ru q sR z1.2.2.2.2 SS z2.2
def Pq_26 (N : Nat) (R : Rl) : Prop := ∀ (pl : Nat → Ob → Prop) (sX sG ru : Ob) (q : Nat) (sR : Ob) (PS SS : Nat → Nat × Ob) (sM : Ob), R pl sX sG ru q sR PS SS sM → ∃ (z1 : Int32 × Ob × Ob × (Nat → Nat × Ob)) (z2 : Int32 × Ob), (f_X7_pass N q sX sG ru PS = some z1) ∧ (f_X8_pass N sM = some z2) ∧ R pl z1.2.1 z1.2.2.1 ru q sR z1.2.2.2 SS z2.2
def Pq_27 (N : Nat) (R : Rl) : Prop := ∀ (pl : Nat → Ob → Prop) (sX sG ru : Ob) (q : Nat) (sR : Ob) (PS SS : Nat → Nat × Ob) (sM : Ob), R pl sX sG ru q sR PS SS sM → ∀  (sMi : Ob) (sA : Ob) (fo : Nat → Int64) (a1 : Int32), ∃ (z1 : Int32 × Ob × Ob × (Nat → Int64)) (z2 : Int32 × Ob), (f_L_advice N sX sG ru sA sMi fo a1 = some z1) ∧ (f_X8_advice N sM a1 = some z2) ∧ R pl sX sG ru q sR PS SS z2.2
def Pq_28 (N : Nat) (R : Rl) : Prop := ∀ (pl : Nat → Ob → Prop) (sX sG ru : Ob) (q : Nat) (sR : Ob) (PS SS : Nat → Nat × Ob) (sM : Ob), R pl sX sG ru q sR PS SS sM → ∀  (sMi : Ob) (sA : Ob) (fo : Nat → Int64) (a1 : Int32), ∃ (z1 : Int32 × Ob × Ob × Ob × Ob × (Nat → Int64) × (Nat → Nat × Ob)) (z2 : Int32 × Ob), (f_L_follow N q sX sG ru sA sMi fo PS a1 = some z1) ∧ (f_X8_follow N sM a1 = some z2) ∧ R pl z1.2.1 z1.2.2.1 ru q sR z1.2.2.2.2.2.2 SS z2.2
def Pq_29 (N : Nat) (R : Rl) : Prop := ∀ (pl : Nat → Ob → Prop) (sX sG ru : Ob) (q : Nat) (sR : Ob) (PS SS : Nat → Nat × Ob) (sM : Ob), R pl sX sG ru q sR PS SS sM → ∀  (sP : Ob) (sMi : Ob) (sA : Ob) , ∃ (z1 : Int32 × Ob × Ob × Ob) (z2 : Int32 × Ob), (f_X7_foreseen N sX sP sG ru sA sMi = some z1) ∧ (f_X8_foreseen N sM = some z2) ∧ R pl sX sG ru q sR PS SS z2.2
def Pq_30 (N : Nat) (R : Rl) : Prop := ∀ (pl : Nat → Ob → Prop) (sX sG ru : Ob) (q : Nat) (sR : Ob) (PS SS : Nat → Nat × Ob) (sM : Ob), R pl sX sG ru q sR PS SS sM → ∃ (z1 : Int32) (z2 : Int32 × Ob), (f_X7_bound N sX sG ru = some z1) ∧ (f_X8_bound N sM = some z2) ∧ R pl sX sG ru q sR PS SS z2.2
def Pq_31 (N : Nat) (R : Rl) : Prop := ∀ (pl : Nat → Ob → Prop) (sX sG ru : Ob) (q : Nat) (sR : Ob) (PS SS : Nat → Nat × Ob) (sM : Ob), R pl sX sG ru q sR PS SS sM → ∃ (z1 : Int32) (z2 : Int32 × Ob), (f_X7_pace N sX sG ru = some z1) ∧ (f_X8_pace N sM = some z2) ∧ R pl sX sG ru q sR PS SS z2.2
def Pq_32 (N : Nat) (R : Rl) : Prop := ∀ (pl : Nat → Ob → Prop) (sX sG ru : Ob) (q : Nat) (sR : Ob) (PS SS : Nat → Nat × Ob) (sM : Ob), R pl sX sG ru q sR PS SS sM → ∀  (sS : Ob) (sH : Ob) (sN : Ob) , ∃ (z1 : Int32 × Ob × Ob × Ob) (z2 : Int32 × Ob), (f_X7_value N sX sS sG sH sN ru = some z1) ∧ (f_X8_value N sM = some z2) ∧ R pl sX sG ru q sR PS SS z2.2
def Pq_33 (N : Nat) (R : Rl) : Prop := ∀ (pl : Nat → Ob → Prop) (sX sG ru : Ob) (q : Nat) (sR : Ob) (PS SS : Nat → Nat × Ob) (sM : Ob), R pl sX sG ru q sR PS SS sM → ∀  (sS : Ob) (sH : Ob) (sN : Ob) , ∃ (z1 : Int32 × Ob × Ob × Ob) (z2 : Int32 × Ob), (f_X7_positions N sX sS sG sH sN ru = some z1) ∧ (f_X8_positions N sM = some z2) ∧ R pl sX sG ru q sR PS SS z2.2
def Pq_34 (N : Nat) (R : Rl) : Prop := ∀ (pl : Nat → Ob → Prop) (sX sG ru : Ob) (q : Nat) (sR : Ob) (PS SS : Nat → Nat × Ob) (sM : Ob), R pl sX sG ru q sR PS SS sM → ∀ (q8 : Nat) (q9 : Nat) (sS : Ob) (sH : Ob) (sN : Ob) (fo : Nat → Int64) (a1 : Int32) (a2 : Int32), ∃ (z1 : Int32 × Ob × Ob × Ob × (Nat → Int64) × Nat × Nat) (z2 : Int32 × Ob), (f_L_valueBehind N q q8 q9 sX sG ru sS sH sN fo a1 a2 = some z1) ∧ (f_X8_valueBehind N sM a1 a2 = some z2) ∧ R pl sX sG ru q sR PS SS z2.2
def Pq_35 (N : Nat) (R : Rl) : Prop := ∀ (pl : Nat → Ob → Prop) (sX sG ru : Ob) (q : Nat) (sR : Ob) (PS SS : Nat → Nat × Ob) (sM : Ob), R pl sX sG ru q sR PS SS sM → ∀ (q8 : Nat) (q9 : Nat) (sS : Ob) (sH : Ob) (sN : Ob) (fo : Nat → Int64) (a1 : Int32), ∃ (z1 : Int32 × Ob × Ob × Ob × (Nat → Int64) × Nat × Nat) (z2 : Int32 × Ob), (f_L_bestMove N q q8 q9 sX sG ru sS sH sN fo a1 = some z1) ∧ (f_X8_bestMove N sM a1 = some z2) ∧ R pl sX sG ru q sR PS SS z2.2
def Pq_36 (N : Nat) (R : Rl) : Prop := ∀ (pl : Nat → Ob → Prop) (sX sG ru : Ob) (q : Nat) (sR : Ob) (PS SS : Nat → Nat × Ob) (sM : Ob), R pl sX sG ru q sR PS SS sM → ∀  (fo : Nat → Int64) (a1 : Int32), ∃ (z1 : Int32 × (Nat → Int64)) (z2 : Int32 × Ob), (f_L_total N sX sG fo a1 = some z1) ∧ (f_X8_total N sM a1 = some z2) ∧ R pl sX sG ru q sR PS SS z2.2
def Pq_37 (N : Nat) (R : Rl) : Prop := ∀ (pl : Nat → Ob → Prop) (sX sG ru : Ob) (q : Nat) (sR : Ob) (PS SS : Nat → Nat × Ob) (sM : Ob), R pl sX sG ru q sR PS SS sM → ∀  (fo : Nat → Int64) (a1 : Int32) (a2 : Int32), ∃ (z1 : Int32 × (Nat → Int64)) (z2 : Int32 × Ob), (f_L_logPart N sX sG fo a1 a2 = some z1) ∧ (f_X8_logPart N sM a1 a2 = some z2) ∧ R pl sX sG ru q sR PS SS z2.2
def Pq_38 (N : Nat) (R : Rl) : Prop := ∀ (pl : Nat → Ob → Prop) (sX sG ru : Ob) (q : Nat) (sR : Ob) (PS SS : Nat → Nat × Ob) (sM : Ob), R pl sX sG ru q sR PS SS sM → ∃ (z1 : Int32 × Ob × Ob × (Nat → Nat × Ob) × Nat) (z2 : Int32 × Ob), (f_X7_undo N q sX sG PS = some z1) ∧ (f_X8_undo N sM = some z2) ∧ ∃ ru2, pl z1.2.2.2.2 ru2 ∧ R pl z1.2.1 z1.2.2.1 ru2 z1.2.2.2.2 sR z1.2.2.2.1 SS z2.2
def Pq_39a (N : Nat) (R : Rl) : Prop := ∀ (pl : Nat → Ob → Prop) (sX sG ru : Ob) (q : Nat) (sR : Ob) (PS SS : Nat → Nat × Ob) (sM : Ob), R pl sX sG ru q sR PS SS sM → ∀  (fo : Nat → Int64) (a1 : Int32) (a2 : Int32), a2 = 0 → ∃ (z1 : Int32 × Ob × (Nat → Int64)) (z2 : Int32 × Ob), (f_L_writeHand N sX sG ru fo a1 (0 : Int32) = some z1) ∧ (f_X8_writeHand N sM a1 (0 : Int32) = some z2) ∧ R pl z1.2.1 sG ru q sR PS SS z2.2
def Pq_39b (N : Nat) (R : Rl) : Prop := ∀ (pl : Nat → Ob → Prop) (sX sG ru : Ob) (q : Nat) (sR : Ob) (PS SS : Nat → Nat × Ob) (sM : Ob), R pl sX sG ru q sR PS SS sM → ∀  (fo : Nat → Int64) (a1 : Int32) (a2 : Int32), ¬ a2 = 0 → ∃ (z1 : Int32 × Ob × (Nat → Int64)) (z2 : Int32 × Ob), (f_L_writeHand N sX sG ru fo a1 (1 : Int32) = some z1) ∧ (f_X8_writeHand N sM a1 (1 : Int32) = some z2) ∧ R pl z1.2.1 sG ru q sR PS SS z2.2
def Pq_40 (N : Nat) (R : Rl) : Prop := ∀ (pl : Nat → Ob → Prop) (sX sG ru : Ob) (q : Nat) (sR : Ob) (PS SS : Nat → Nat × Ob) (sM : Ob), R pl sX sG ru q sR PS SS sM → ∀   (a1 : Int32), ∃ (z1 : Int32) (z2 : Int32 × Ob), (f_X7_outputByte N sX a1 = some z1) ∧ (f_X8_outputByte N sM a1 = some z2) ∧ R pl sX sG ru q sR PS SS z2.2
def Pq_41 (N : Nat) (R : Rl) : Prop := ∀ (pl : Nat → Ob → Prop) (sX sG ru : Ob) (q : Nat) (sR : Ob) (PS SS : Nat → Nat × Ob) (sM : Ob), R pl sX sG ru q sR PS SS sM → ∀  (fo : Nat → Int64) (a1 : Int32), ∃ (z1 : Int32 × Ob × (Nat → Int64) × (Nat → Nat × Ob)) (z2 : Int32 × Ob), (f_L_saveSnapshot N q sX sG fo SS a1 = some z1) ∧ (f_X8_saveSnapshot N sM a1 = some z2) ∧ R pl z1.2.1 sG ru q sR PS z1.2.2.2 z2.2
def Pq_42 (N : Nat) (R : Rl) : Prop := ∀ (pl : Nat → Ob → Prop) (sX sG ru : Ob) (q : Nat) (sR : Ob) (PS SS : Nat → Nat × Ob) (sM : Ob), R pl sX sG ru q sR PS SS sM → ∀  (fo : Nat → Int64) (a1 : Int32), ∃ (z1 : Int32 × Ob × Ob × (Nat → Int64) × (Nat → Nat × Ob) × Nat) (z2 : Int32 × Ob), (f_L_restoreSnapshot N q sX sG fo SS a1 = some z1) ∧ (f_X8_restoreSnapshot N sM a1 = some z2) ∧ ∃ ru2, pl z1.2.2.2.2.2 ru2 ∧ R pl z1.2.1 z1.2.2.1 ru2 z1.2.2.2.2.2 sR PS z1.2.2.2.2.1 z2.2
def PqAll (N : Nat) (R : Rl) : Prop := Pq_0 N R ∧ Pq_1 N R ∧ Pq_2 N R ∧ Pq_3 N R ∧ Pq_4 N R ∧ Pq_5 N R ∧ Pq_6 N R ∧ Pq_7 N R ∧ Pq_8 N R ∧ Pq_9 N R ∧ Pq_10 N R ∧ Pq_11 N R ∧ Pq_12 N R ∧ Pq_13 N R ∧ Pq_14 N R ∧ Pq_15 N R ∧ Pq_16 N R ∧ Pq_17 N R ∧ Pq_18 N R ∧ Pq_19 N R ∧ Pq_20 N R ∧ Pq_21 N R ∧ Pq_22 N R ∧ Pq_23 N R ∧ Pq_24 N R ∧ Pq_25 N R ∧ Pq_26 N R ∧ Pq_27 N R ∧ Pq_28 N R ∧ Pq_29 N R ∧ Pq_30 N R ∧ Pq_31 N R ∧ Pq_32 N R ∧ Pq_33 N R ∧ Pq_34 N R ∧ Pq_35 N R ∧ Pq_36 N R ∧ Pq_37 N R ∧ Pq_38 N R ∧ Pq_39a N R ∧ Pq_39b N R ∧ Pq_40 N R ∧ Pq_41 N R ∧ Pq_42 N R
set_option maxHeartbeats 16000000 in
theorem law_turn {K : Kt} {g : Gp} {ax am ao b Ls : Nat} {xs : Nat → Int32} {r r1 r2 r3 r5 r6 r7 r9 r10 rm : Nat → Nat} {fp fs : Nat → Option Nat} {pa sa : Nat → Nat} {pr sr : Nat → Nat → Nat} (hg : Ok g) (C : Cx K g cL_law RL 7 room_1) (Sx : Sc K b Ls xs) (hfp : ∀ k, k < 20 → fp k = some (pa k)) (hfs : ∀ k, k < 2 → fs k = some (sa k)) {c0 s0 N : Nat} {R : Rl} (H : PqAll N R) (hL : Ls ≤ 2048) (hc0 : c0 + 2048 ≤ 601024) (hs0 : s0 + 40960 ≤ 7293034) {j : Nat} (hj : 4 * j + 4 ≤ Ls) (next : ∀ (rest : List Ent) (rq : Nat → Nat) (q qp q4 q8 q9 : Nat) (sX : Ob) (sG : Ob) (ru : Ob) (sP : Ob) (sR : Ob) (sMi : Ob) (sA : Ob) (sS : Ob) (sH : Ob) (sN : Ob) (fo : Nat → Int64) (sM : Ob) (PS SS : Nat → Nat × Ob), R (plOf ((q, rq, ru) :: rest)) sX sG ru q sR PS SS sM → Zs K (c0 + 4 * j + 4) (s0 + 80 * j + 80) ((([wAJ g ao 1 fo, wX7 g ax r sX, wX1 g (r 3) r1 q sG, wX5 g q rq ru, wX1 g (r 9) r2 qp sP, wX4 g (r 2) r3 q4 (r 0) sR, wX2 g (r 10) r5 sMi, wX0 g (r 11) r6 (r 10) sA, wX6 g (r 12) r7 sS, wX3 g (r7 8) r9 q8 sH, wX3 g (r7 9) r10 q9 sN, wX8 g am rm sM] : List va_W).flatten) ++ (wPs g (r 4) 20 fp pa pr PS ++ (wPs g (r 7) 2 fs sa sr SS ++ wPool g rest))) [(0, .ref b), (1, .ref ax), (2, .ref am), (3, .ref ao), (4, .int (Int32.ofNat (4 * j)))] 1551 []) : ∀ (rest : List Ent) (rq : Nat → Nat) (q qp q4 q8 q9 : Nat) (sX : Ob) (sG : Ob) (ru : Ob) (sP : Ob) (sR : Ob) (sMi : Ob) (sA : Ob) (sS : Ob) (sH : Ob) (sN : Ob) (fo : Nat → Int64) (sM : Ob) (PS SS : Nat → Nat × Ob), R (plOf ((q, rq, ru) :: rest)) sX sG ru q sR PS SS sM → Zs K (c0 + 4 * j) (s0 + 80 * j) ((([wAJ g ao 1 fo, wX7 g ax r sX, wX1 g (r 3) r1 q sG, wX5 g q rq ru, wX1 g (r 9) r2 qp sP, wX4 g (r 2) r3 q4 (r 0) sR, wX2 g (r 10) r5 sMi, wX0 g (r 11) r6 (r 10) sA, wX6 g (r 12) r7 sS, wX3 g (r7 8) r9 q8 sH, wX3 g (r7 9) r10 q9 sN, wX8 g am rm sM] : List va_W).flatten) ++ (wPs g (r 4) 20 fp pa pr PS ++ (wPs g (r 7) 2 fs sa sr SS ++ wPool g rest))) [(0, .ref b), (1, .ref ax), (2, .ref am), (3, .ref ao), (4, .int (Int32.ofNat (4 * j)))] 32 [] := by
  intro rest rq q qp q4 q8 q9 sX sG ru sP sR sMi sA sS sH sN fo sM PS SS hR
  have hb : ∀ c : Nat, c < 4 → inb (Int32.ofNat (4 * j + c)) Ls = true := fun c hc => inb_ofNat (by omega) (by omega)
  have hb1 : inb (Int32.ofNat (4 * j) + (1 : Int32)) Ls = true := by rw [at_plus (c := 1) (1 : Int32) (by decide)]; exact hb 1 (by omega)
  have hb2 : inb (Int32.ofNat (4 * j) + (2 : Int32)) Ls = true := by rw [at_plus (c := 2) (2 : Int32) (by decide)]; exact hb 2 (by omega)
  have hb3 : inb (Int32.ofNat (4 * j) + (3 : Int32)) Ls = true := by rw [at_plus (c := 3) (3 : Int32) (by decide)]; exact hb 3 (by omega)
  have hb0 : inb (Int32.ofNat (4 * j)) Ls = true := hb 0 (by omega)
  refine z_aload_n (pc := 32) (x := b) C dL_law_32 (i := 0) rfl rfl ?_
  refine z_iload (pc := 33) (x := Int32.ofNat (4 * j)) C dL_law_33 rfl ?_
  refine z_sld (pc := 35) C Sx dL_law_35 hb0 rfl ?_
  refine z_bipush (pc := 36) C dL_law_36 bp_63 ?_
  refine z_iand (pc := 38) C dL_law_38 ?_
  generalize hw : (xs (Int32.ofNat (4 * j)).toNatClampNeg &&& 63) = w
  refine (Decidable.em (w = (0 : Int32))).elim (fun hc => ?_) (fun hn0 => ?_)
  · refine z_tswIn (pc := 39) C (0 : Int32) dL_law_39 hc (by decide) (by decide) (off := 185) rfl (tgt := 224) (by decide) ?_
    obtain ⟨z1, z2, h_hz1, h_hz2, h_he3, hEnd⟩ := H.1 _ _ _ _ _ _ _ _ _ hR   (xs (Int32.ofNat (4 * j) + (1 : Int32)).toNatClampNeg) (xs (Int32.ofNat (4 * j) + (2 : Int32)).toNatClampNeg)
    exact lw_0 hg C Sx hfp hfs (by omega) (by omega) hb1 rfl hb2 rfl h_hz1 h_hz2 h_he3 (next _ _ _ _ _ _ _ _ _ _ _ _ _ _ _ _ _ _ _ _ _ hEnd)
  refine (Decidable.em (w = (1 : Int32))).elim (fun hc => ?_) (fun hn1 => ?_)
  · refine z_tswIn (pc := 39) C (1 : Int32) dL_law_39 hc (by decide) (by decide) (off := 242) rfl (tgt := 281) (by decide) ?_
    obtain ⟨z1, z2, h_hz1, h_hz2, hEnd⟩ := H.2.1 _ _ _ _ _ _ _ _ _ hR   
    refine lw_1 hg C Sx hfp hfs (by omega) (by omega) h_hz1 h_hz2 (fun bF rF => z_dist (fun hd => ?_))
    have hfr : ∀ S, ¬ plOf ((q, rq, ru) :: rest) bF S := fresh_pool hd (List.mem_cons_of_mem _ (List.mem_cons_of_mem _ (List.mem_cons_of_mem _ List.mem_cons_self)))
    have hE := hEnd bF hfr
    cases hfl : z1.2.2.2.2.2 with
    | true =>
      rw [hfl] at hE
      refine z_swap (q2 := bF) (rq2 := rF) (ru2 := z1.2.2.2.2.1) (rest := (bF, rF, z1.2.2.2.2.1) :: rest) (rest2 := (q, rq, ru) :: rest) (List.Perm.swap _ _ _) ?_
      refine next _ _ _ _ _ _ _ _ _ _ _ _ _ _ _ _ _ _ _ _ _ ?_
      rw [plOf_new]
      exact hE
    | false =>
      rw [hfl] at hE
      refine next ((bF, rF, z1.2.2.2.2.1) :: rest) _ _ _ _ _ _ _ _ _ _ _ _ _ _ _ _ _ _ _ _ ?_
      rw [plOf_perm (List.Perm.swap _ _ _), plOf_new]
      exact hE
  refine (Decidable.em (w = (2 : Int32))).elim (fun hc => ?_) (fun hn2 => ?_)
  · refine z_tswIn (pc := 39) C (2 : Int32) dL_law_39 hc (by decide) (by decide) (off := 255) rfl (tgt := 294) (by decide) ?_
    obtain ⟨z1, z2, h_hz1, h_hz2, hEnd⟩ := H.2.2.1 _ _ _ _ _ _ _ _ _ hR   
    exact lw_2 hg C Sx hfp hfs (by omega) (by omega) h_hz1 h_hz2 (next _ _ _ _ _ _ _ _ _ _ _ _ _ _ _ _ _ _ _ _ _ hEnd)
  refine (Decidable.em (w = (3 : Int32))).elim (fun hc => ?_) (fun hn3 => ?_)
  · refine z_tswIn (pc := 39) C (3 : Int32) dL_law_39 hc (by decide) (by decide) (off := 268) rfl (tgt := 307) (by decide) ?_
    obtain ⟨z1, z2, h_hz1, h_hz2, hEnd⟩ := H.2.2.2.1 _ _ _ _ _ _ _ _ _ hR   
    exact lw_3 hg C Sx hfp hfs (by omega) (by omega) h_hz1 h_hz2 (next _ _ _ _ _ _ _ _ _ _ _ _ _ _ _ _ _ _ _ _ _ hEnd)
  refine (Decidable.em (w = (4 : Int32))).elim (fun hc => ?_) (fun hn4 => ?_)
  · refine z_tswIn (pc := 39) C (4 : Int32) dL_law_39 hc (by decide) (by decide) (off := 281) rfl (tgt := 320) (by decide) ?_
    obtain ⟨z1, z2, h_hz1, h_hz2, hEnd⟩ := H.2.2.2.2.1 _ _ _ _ _ _ _ _ _ hR  fo (xs (Int32.ofNat (4 * j) + (1 : Int32)).toNatClampNeg)
    exact lw_4 hg C Sx hfp hfs (by omega) (by omega) hb1 rfl h_hz1 h_hz2 (next _ _ _ _ _ _ _ _ _ _ _ _ _ _ _ _ _ _ _ _ _ hEnd)
  refine (Decidable.em (w = (5 : Int32))).elim (fun hc => ?_) (fun hn5 => ?_)
  · refine z_tswIn (pc := 39) C (5 : Int32) dL_law_39 hc (by decide) (by decide) (off := 309) rfl (tgt := 348) (by decide) ?_
    obtain ⟨z1, z2, h_hz1, h_hz2, hEnd⟩ := H.2.2.2.2.2.1 _ _ _ _ _ _ _ _ _ hR   
    exact lw_5 hg C Sx hfp hfs (by omega) (by omega) h_hz1 h_hz2 (next _ _ _ _ _ _ _ _ _ _ _ _ _ _ _ _ _ _ _ _ _ hEnd)
  refine (Decidable.em (w = (6 : Int32))).elim (fun hc => ?_) (fun hn6 => ?_)
  · refine z_tswIn (pc := 39) C (6 : Int32) dL_law_39 hc (by decide) (by decide) (off := 322) rfl (tgt := 361) (by decide) ?_
    obtain ⟨z1, z2, h_hz1, h_hz2, hEnd⟩ := H.2.2.2.2.2.2.1 _ _ _ _ _ _ _ _ _ hR   
    exact lw_6 hg C Sx hfp hfs (by omega) (by omega) h_hz1 h_hz2 (next _ _ _ _ _ _ _ _ _ _ _ _ _ _ _ _ _ _ _ _ _ hEnd)
  refine (Decidable.em (w = (7 : Int32))).elim (fun hc => ?_) (fun hn7 => ?_)
  · refine z_tswIn (pc := 39) C (7 : Int32) dL_law_39 hc (by decide) (by decide) (off := 335) rfl (tgt := 374) (by decide) ?_
    obtain ⟨z1, z2, h_hz1, h_hz2, hEnd⟩ := H.2.2.2.2.2.2.2.1 _ _ _ _ _ _ _ _ _ hR  fo (xs (Int32.ofNat (4 * j) + (1 : Int32)).toNatClampNeg)
    exact lw_7 hg C Sx hfp hfs (by omega) (by omega) hb1 rfl h_hz1 h_hz2 (next _ _ _ _ _ _ _ _ _ _ _ _ _ _ _ _ _ _ _ _ _ hEnd)
  refine (Decidable.em (w = (8 : Int32))).elim (fun hc => ?_) (fun hn8 => ?_)
  · refine z_tswIn (pc := 39) C (8 : Int32) dL_law_39 hc (by decide) (by decide) (off := 363) rfl (tgt := 402) (by decide) ?_
    obtain ⟨z1, z2, h_hz1, h_hz2, hEnd⟩ := H.2.2.2.2.2.2.2.2.1 _ _ _ _ _ _ _ _ _ hR  fo (xs (Int32.ofNat (4 * j) + (1 : Int32)).toNatClampNeg)
    exact lw_8 hg C Sx hfp hfs (by omega) (by omega) hb1 rfl h_hz1 h_hz2 (next _ _ _ _ _ _ _ _ _ _ _ _ _ _ _ _ _ _ _ _ _ hEnd)
  refine (Decidable.em (w = (9 : Int32))).elim (fun hc => ?_) (fun hn9 => ?_)
  · refine z_tswIn (pc := 39) C (9 : Int32) dL_law_39 hc (by decide) (by decide) (off := 391) rfl (tgt := 430) (by decide) ?_
    obtain ⟨z1, z2, h_hz1, h_hz2, hEnd⟩ := H.2.2.2.2.2.2.2.2.2.1 _ _ _ _ _ _ _ _ _ hR  fo (xs (Int32.ofNat (4 * j) + (1 : Int32)).toNatClampNeg) (xs (Int32.ofNat (4 * j) + (2 : Int32)).toNatClampNeg)
    exact lw_9 hg C Sx hfp hfs (by omega) (by omega) hb1 rfl hb2 rfl h_hz1 h_hz2 (next _ _ _ _ _ _ _ _ _ _ _ _ _ _ _ _ _ _ _ _ _ hEnd)
  refine (Decidable.em (w = (10 : Int32))).elim (fun hc => ?_) (fun hn10 => ?_)
  · refine z_tswIn (pc := 39) C (10 : Int32) dL_law_39 hc (by decide) (by decide) (off := 431) rfl (tgt := 470) (by decide) ?_
    obtain ⟨z1, z2, h_hz1, h_hz2, hEnd⟩ := H.2.2.2.2.2.2.2.2.2.2.1 _ _ _ _ _ _ _ _ _ hR   (xs (Int32.ofNat (4 * j) + (1 : Int32)).toNatClampNeg)
    exact lw_10 hg C Sx hfp hfs (by omega) (by omega) hb1 rfl h_hz1 h_hz2 (next _ _ _ _ _ _ _ _ _ _ _ _ _ _ _ _ _ _ _ _ _ hEnd)
  refine (Decidable.em (w = (11 : Int32))).elim (fun hc => ?_) (fun hn11 => ?_)
  · refine z_tswIn (pc := 39) C (11 : Int32) dL_law_39 hc (by decide) (by decide) (off := 456) rfl (tgt := 495) (by decide) ?_
    obtain ⟨z1, z2, h_hz1, h_hz2, hEnd⟩ := H.2.2.2.2.2.2.2.2.2.2.2.1 _ _ _ _ _ _ _ _ _ hR  fo (xs (Int32.ofNat (4 * j) + (1 : Int32)).toNatClampNeg) (xs (Int32.ofNat (4 * j) + (2 : Int32)).toNatClampNeg) (xs (Int32.ofNat (4 * j) + (3 : Int32)).toNatClampNeg)
    exact lw_11 hg C Sx hfp hfs (by omega) (by omega) hb1 rfl hb2 rfl hb3 rfl h_hz1 h_hz2 (next _ _ _ _ _ _ _ _ _ _ _ _ _ _ _ _ _ _ _ _ _ hEnd)
  refine (Decidable.em (w = (12 : Int32))).elim (fun hc => ?_) (fun hn12 => ?_)
  · refine z_tswIn (pc := 39) C (12 : Int32) dL_law_39 hc (by decide) (by decide) (off := 508) rfl (tgt := 547) (by decide) ?_
    obtain ⟨z1, z2, h_hz1, h_hz2, hEnd⟩ := H.2.2.2.2.2.2.2.2.2.2.2.2.1 _ _ _ _ _ _ _ _ _ hR  fo (xs (Int32.ofNat (4 * j) + (1 : Int32)).toNatClampNeg) (xs (Int32.ofNat (4 * j) + (2 : Int32)).toNatClampNeg)
    exact lw_12 hg C Sx hfp hfs (by omega) (by omega) hb1 rfl hb2 rfl h_hz1 h_hz2 (next _ _ _ _ _ _ _ _ _ _ _ _ _ _ _ _ _ _ _ _ _ hEnd)
  refine (Decidable.em (w = (13 : Int32))).elim (fun hc => ?_) (fun hn13 => ?_)
  · refine z_tswIn (pc := 39) C (13 : Int32) dL_law_39 hc (by decide) (by decide) (off := 548) rfl (tgt := 587) (by decide) ?_
    obtain ⟨z1, z2, h_hz1, h_hz2, hEnd⟩ := H.2.2.2.2.2.2.2.2.2.2.2.2.2.1 _ _ _ _ _ _ _ _ _ hR  fo (xs (Int32.ofNat (4 * j) + (1 : Int32)).toNatClampNeg) (xs (Int32.ofNat (4 * j) + (2 : Int32)).toNatClampNeg)
    exact lw_13 hg C Sx hfp hfs (by omega) (by omega) hb1 rfl hb2 rfl h_hz1 h_hz2 (next _ _ _ _ _ _ _ _ _ _ _ _ _ _ _ _ _ _ _ _ _ hEnd)
  refine (Decidable.em (w = (14 : Int32))).elim (fun hc => ?_) (fun hn14 => ?_)
  · refine z_tswIn (pc := 39) C (14 : Int32) dL_law_39 hc (by decide) (by decide) (off := 588) rfl (tgt := 627) (by decide) ?_
    obtain ⟨z1, z2, h_hz1, h_hz2, hEnd⟩ := H.2.2.2.2.2.2.2.2.2.2.2.2.2.2.1 _ _ _ _ _ _ _ _ _ hR  fo (xs (Int32.ofNat (4 * j) + (1 : Int32)).toNatClampNeg) (xs (Int32.ofNat (4 * j) + (2 : Int32)).toNatClampNeg)
    exact lw_14 hg C Sx hfp hfs (by omega) (by omega) hb1 rfl hb2 rfl h_hz1 h_hz2 (next _ _ _ _ _ _ _ _ _ _ _ _ _ _ _ _ _ _ _ _ _ hEnd)
  refine (Decidable.em (w = (15 : Int32))).elim (fun hc => ?_) (fun hn15 => ?_)
  · refine z_tswIn (pc := 39) C (15 : Int32) dL_law_39 hc (by decide) (by decide) (off := 628) rfl (tgt := 667) (by decide) ?_
    obtain ⟨z1, z2, h_hz1, h_hz2, hEnd⟩ := H.2.2.2.2.2.2.2.2.2.2.2.2.2.2.2.1 _ _ _ _ _ _ _ _ _ hR  fo (xs (Int32.ofNat (4 * j) + (1 : Int32)).toNatClampNeg) (xs (Int32.ofNat (4 * j) + (2 : Int32)).toNatClampNeg)
    exact lw_15 hg C Sx hfp hfs (by omega) (by omega) hb1 rfl hb2 rfl h_hz1 h_hz2 (next _ _ _ _ _ _ _ _ _ _ _ _ _ _ _ _ _ _ _ _ _ hEnd)
  refine (Decidable.em (w = (16 : Int32))).elim (fun hc => ?_) (fun hn16 => ?_)
  · refine z_tswIn (pc := 39) C (16 : Int32) dL_law_39 hc (by decide) (by decide) (off := 668) rfl (tgt := 707) (by decide) ?_
    obtain ⟨z1, z2, h_hz1, h_hz2, hEnd⟩ := H.2.2.2.2.2.2.2.2.2.2.2.2.2.2.2.2.1 _ _ _ _ _ _ _ _ _ hR  fo (xs (Int32.ofNat (4 * j) + (1 : Int32)).toNatClampNeg) (xs (Int32.ofNat (4 * j) + (2 : Int32)).toNatClampNeg)
    exact lw_16 hg C Sx hfp hfs (by omega) (by omega) hb1 rfl hb2 rfl h_hz1 h_hz2 (next _ _ _ _ _ _ _ _ _ _ _ _ _ _ _ _ _ _ _ _ _ hEnd)
  refine (Decidable.em (w = (17 : Int32))).elim (fun hc => ?_) (fun hn17 => ?_)
  · refine z_tswIn (pc := 39) C (17 : Int32) dL_law_39 hc (by decide) (by decide) (off := 708) rfl (tgt := 747) (by decide) ?_
    obtain ⟨z1, z2, h_hz1, h_hz2, hEnd⟩ := H.2.2.2.2.2.2.2.2.2.2.2.2.2.2.2.2.2.1 _ _ _ _ _ _ _ _ _ hR  sMi fo (xs (Int32.ofNat (4 * j) + (1 : Int32)).toNatClampNeg) (xs (Int32.ofNat (4 * j) + (2 : Int32)).toNatClampNeg)
    exact lw_17 hg C Sx hfp hfs (by omega) (by omega) hb1 rfl hb2 rfl h_hz1 h_hz2 (next _ _ _ _ _ _ _ _ _ _ _ _ _ _ _ _ _ _ _ _ _ hEnd)
  refine (Decidable.em (w = (18 : Int32))).elim (fun hc => ?_) (fun hn18 => ?_)
  · refine z_tswIn (pc := 39) C (18 : Int32) dL_law_39 hc (by decide) (by decide) (off := 748) rfl (tgt := 787) (by decide) ?_
    obtain ⟨z1, z2, h_hz1, h_hz2, hEnd⟩ := H.2.2.2.2.2.2.2.2.2.2.2.2.2.2.2.2.2.2.1 _ _ _ _ _ _ _ _ _ hR  sMi fo (xs (Int32.ofNat (4 * j) + (1 : Int32)).toNatClampNeg) (xs (Int32.ofNat (4 * j) + (2 : Int32)).toNatClampNeg) (xs (Int32.ofNat (4 * j) + (3 : Int32)).toNatClampNeg)
    exact lw_18 hg C Sx hfp hfs (by omega) (by omega) hb1 rfl hb2 rfl hb3 rfl h_hz1 h_hz2 (next _ _ _ _ _ _ _ _ _ _ _ _ _ _ _ _ _ _ _ _ _ hEnd)
  refine (Decidable.em (w = (19 : Int32))).elim (fun hc => ?_) (fun hn19 => ?_)
  · refine z_tswIn (pc := 39) C (19 : Int32) dL_law_39 hc (by decide) (by decide) (off := 800) rfl (tgt := 839) (by decide) ?_
    obtain ⟨z1, z2, h_hz1, h_hz2, hEnd⟩ := H.2.2.2.2.2.2.2.2.2.2.2.2.2.2.2.2.2.2.2.1 _ _ _ _ _ _ _ _ _ hR  sMi fo (xs (Int32.ofNat (4 * j) + (1 : Int32)).toNatClampNeg) (xs (Int32.ofNat (4 * j) + (2 : Int32)).toNatClampNeg)
    exact lw_19 hg C Sx hfp hfs (by omega) (by omega) hb1 rfl hb2 rfl h_hz1 h_hz2 (next _ _ _ _ _ _ _ _ _ _ _ _ _ _ _ _ _ _ _ _ _ hEnd)
  refine (Decidable.em (w = (20 : Int32))).elim (fun hc => ?_) (fun hn20 => ?_)
  · refine z_tswIn (pc := 39) C (20 : Int32) dL_law_39 hc (by decide) (by decide) (off := 840) rfl (tgt := 879) (by decide) ?_
    obtain ⟨z1, z2, h_hz1, h_hz2, hEnd⟩ := H.2.2.2.2.2.2.2.2.2.2.2.2.2.2.2.2.2.2.2.2.1 _ _ _ _ _ _ _ _ _ hR  fo (xs (Int32.ofNat (4 * j) + (1 : Int32)).toNatClampNeg) (xs (Int32.ofNat (4 * j) + (2 : Int32)).toNatClampNeg)
    exact lw_20 hg C Sx hfp hfs (by omega) (by omega) hb1 rfl hb2 rfl h_hz1 h_hz2 (next _ _ _ _ _ _ _ _ _ _ _ _ _ _ _ _ _ _ _ _ _ hEnd)
  refine (Decidable.em (w = (21 : Int32))).elim (fun hc => ?_) (fun hn21 => ?_)
  · refine z_tswIn (pc := 39) C (21 : Int32) dL_law_39 hc (by decide) (by decide) (off := 880) rfl (tgt := 919) (by decide) ?_
    obtain ⟨z1, z2, h_hz1, h_hz2, hEnd⟩ := H.2.2.2.2.2.2.2.2.2.2.2.2.2.2.2.2.2.2.2.2.2.1 _ _ _ _ _ _ _ _ _ hR  fo (xs (Int32.ofNat (4 * j) + (1 : Int32)).toNatClampNeg) (xs (Int32.ofNat (4 * j) + (2 : Int32)).toNatClampNeg) (xs (Int32.ofNat (4 * j) + (3 : Int32)).toNatClampNeg)
    exact lw_21 hg C Sx hfp hfs (by omega) (by omega) hb1 rfl hb2 rfl hb3 rfl h_hz1 h_hz2 (next _ _ _ _ _ _ _ _ _ _ _ _ _ _ _ _ _ _ _ _ _ hEnd)
  refine (Decidable.em (w = (22 : Int32))).elim (fun hc => ?_) (fun hn22 => ?_)
  · refine z_tswIn (pc := 39) C (22 : Int32) dL_law_39 hc (by decide) (by decide) (off := 932) rfl (tgt := 971) (by decide) ?_
    obtain ⟨z1, z2, h_hz1, h_hz2, hEnd⟩ := H.2.2.2.2.2.2.2.2.2.2.2.2.2.2.2.2.2.2.2.2.2.2.1 _ _ _ _ _ _ _ _ _ hR  sMi fo (xs (Int32.ofNat (4 * j) + (1 : Int32)).toNatClampNeg) (xs (Int32.ofNat (4 * j) + (2 : Int32)).toNatClampNeg) (xs (Int32.ofNat (4 * j) + (3 : Int32)).toNatClampNeg)
    exact lw_22 hg C Sx hfp hfs (by omega) (by omega) hb1 rfl hb2 rfl hb3 rfl h_hz1 h_hz2 (next _ _ _ _ _ _ _ _ _ _ _ _ _ _ _ _ _ _ _ _ _ hEnd)
  refine (Decidable.em (w = (23 : Int32))).elim (fun hc => ?_) (fun hn23 => ?_)
  · refine z_tswIn (pc := 39) C (23 : Int32) dL_law_39 hc (by decide) (by decide) (off := 984) rfl (tgt := 1023) (by decide) ?_
    obtain ⟨z1, z2, h_hz1, h_hz2, hEnd⟩ := H.2.2.2.2.2.2.2.2.2.2.2.2.2.2.2.2.2.2.2.2.2.2.2.1 _ _ _ _ _ _ _ _ _ hR  fo (xs (Int32.ofNat (4 * j) + (1 : Int32)).toNatClampNeg)
    exact lw_23 hg C Sx hfp hfs (by omega) (by omega) hb1 rfl h_hz1 h_hz2 (next _ _ _ _ _ _ _ _ _ _ _ _ _ _ _ _ _ _ _ _ _ hEnd)
  refine (Decidable.em (w = (24 : Int32))).elim (fun hc => ?_) (fun hn24 => ?_)
  · refine z_tswIn (pc := 39) C (24 : Int32) dL_law_39 hc (by decide) (by decide) (off := 1012) rfl (tgt := 1051) (by decide) ?_
    obtain ⟨z1, z2, h_hz1, h_hz2, hEnd⟩ := H.2.2.2.2.2.2.2.2.2.2.2.2.2.2.2.2.2.2.2.2.2.2.2.2.1 _ _ _ _ _ _ _ _ _ hR  fo (xs (Int32.ofNat (4 * j) + (1 : Int32)).toNatClampNeg)
    exact lw_24 hg C Sx hfp hfs (by omega) (by omega) hb1 rfl h_hz1 h_hz2 (next _ _ _ _ _ _ _ _ _ _ _ _ _ _ _ _ _ _ _ _ _ hEnd)
  refine (Decidable.em (w = (25 : Int32))).elim (fun hc => ?_) (fun hn25 => ?_)
  · refine z_tswIn (pc := 39) C (25 : Int32) dL_law_39 hc (by decide) (by decide) (off := 1040) rfl (tgt := 1079) (by decide) ?_
    obtain ⟨z1, z2, h_hz1, h_hz2, hEnd⟩ := H.2.2.2.2.2.2.2.2.2.2.2.2.2.2.2.2.2.2.2.2.2.2.2.2.2.1 _ _ _ _ _ _ _ _ _ hR  fo (xs (Int32.ofNat (4 * j) + (1 : Int32)).toNatClampNeg) (xs (Int32.ofNat (4 * j) + (2 : Int32)).toNatClampNeg) (xs (Int32.ofNat (4 * j) + (3 : Int32)).toNatClampNeg)
    exact lw_25 hg C Sx hfp hfs (by omega) (by omega) hb1 rfl hb2 rfl hb3 rfl h_hz1 h_hz2 (next _ _ _ _ _ _ _ _ _ _ _ _ _ _ _ _ _ _ _ _ _ hEnd)
  refine (Decidable.em (w = (26 : Int32))).elim (fun hc => ?_) (fun hn26 => ?_)
  · refine z_tswIn (pc := 39) C (26 : Int32) dL_law_39 hc (by decide) (by decide) (off := 1092) rfl (tgt := 1131) (by decide) ?_
    obtain ⟨z1, z2, h_hz1, h_hz2, hEnd⟩ := H.2.2.2.2.2.2.2.2.2.2.2.2.2.2.2.2.2.2.2.2.2.2.2.2.2.2.1 _ _ _ _ _ _ _ _ _ hR   
    exact lw_26 hg C Sx hfp hfs (by omega) (by omega) h_hz1 h_hz2 (next _ _ _ _ _ _ _ _ _ _ _ _ _ _ _ _ _ _ _ _ _ hEnd)
  refine (Decidable.em (w = (27 : Int32))).elim (fun hc => ?_) (fun hn27 => ?_)
  · refine z_tswIn (pc := 39) C (27 : Int32) dL_law_39 hc (by decide) (by decide) (off := 1105) rfl (tgt := 1144) (by decide) ?_
    obtain ⟨z1, z2, h_hz1, h_hz2, hEnd⟩ := H.2.2.2.2.2.2.2.2.2.2.2.2.2.2.2.2.2.2.2.2.2.2.2.2.2.2.2.1 _ _ _ _ _ _ _ _ _ hR  sMi sA fo (xs (Int32.ofNat (4 * j) + (1 : Int32)).toNatClampNeg)
    exact lw_27 hg C Sx hfp hfs (by omega) (by omega) hb1 rfl h_hz1 h_hz2 (next _ _ _ _ _ _ _ _ _ _ _ _ _ _ _ _ _ _ _ _ _ hEnd)
  refine (Decidable.em (w = (28 : Int32))).elim (fun hc => ?_) (fun hn28 => ?_)
  · refine z_tswIn (pc := 39) C (28 : Int32) dL_law_39 hc (by decide) (by decide) (off := 1133) rfl (tgt := 1172) (by decide) ?_
    obtain ⟨z1, z2, h_hz1, h_hz2, hEnd⟩ := H.2.2.2.2.2.2.2.2.2.2.2.2.2.2.2.2.2.2.2.2.2.2.2.2.2.2.2.2.1 _ _ _ _ _ _ _ _ _ hR  sMi sA fo (xs (Int32.ofNat (4 * j) + (1 : Int32)).toNatClampNeg)
    exact lw_28 hg C Sx hfp hfs (by omega) (by omega) hb1 rfl h_hz1 h_hz2 (next _ _ _ _ _ _ _ _ _ _ _ _ _ _ _ _ _ _ _ _ _ hEnd)
  refine (Decidable.em (w = (29 : Int32))).elim (fun hc => ?_) (fun hn29 => ?_)
  · refine z_tswIn (pc := 39) C (29 : Int32) dL_law_39 hc (by decide) (by decide) (off := 1161) rfl (tgt := 1200) (by decide) ?_
    obtain ⟨z1, z2, h_hz1, h_hz2, hEnd⟩ := H.2.2.2.2.2.2.2.2.2.2.2.2.2.2.2.2.2.2.2.2.2.2.2.2.2.2.2.2.2.1 _ _ _ _ _ _ _ _ _ hR  sP sMi sA 
    exact lw_29 hg C Sx hfp hfs (by omega) (by omega) h_hz1 h_hz2 (next _ _ _ _ _ _ _ _ _ _ _ _ _ _ _ _ _ _ _ _ _ hEnd)
  refine (Decidable.em (w = (30 : Int32))).elim (fun hc => ?_) (fun hn30 => ?_)
  · refine z_tswIn (pc := 39) C (30 : Int32) dL_law_39 hc (by decide) (by decide) (off := 1174) rfl (tgt := 1213) (by decide) ?_
    obtain ⟨z1, z2, h_hz1, h_hz2, hEnd⟩ := H.2.2.2.2.2.2.2.2.2.2.2.2.2.2.2.2.2.2.2.2.2.2.2.2.2.2.2.2.2.2.1 _ _ _ _ _ _ _ _ _ hR   
    exact lw_30 hg C Sx hfp hfs (by omega) (by omega) h_hz1 h_hz2 (next _ _ _ _ _ _ _ _ _ _ _ _ _ _ _ _ _ _ _ _ _ hEnd)
  refine (Decidable.em (w = (31 : Int32))).elim (fun hc => ?_) (fun hn31 => ?_)
  · refine z_tswIn (pc := 39) C (31 : Int32) dL_law_39 hc (by decide) (by decide) (off := 1187) rfl (tgt := 1226) (by decide) ?_
    obtain ⟨z1, z2, h_hz1, h_hz2, hEnd⟩ := H.2.2.2.2.2.2.2.2.2.2.2.2.2.2.2.2.2.2.2.2.2.2.2.2.2.2.2.2.2.2.2.1 _ _ _ _ _ _ _ _ _ hR   
    exact lw_31 hg C Sx hfp hfs (by omega) (by omega) h_hz1 h_hz2 (next _ _ _ _ _ _ _ _ _ _ _ _ _ _ _ _ _ _ _ _ _ hEnd)
  refine (Decidable.em (w = (32 : Int32))).elim (fun hc => ?_) (fun hn32 => ?_)
  · refine z_tswIn (pc := 39) C (32 : Int32) dL_law_39 hc (by decide) (by decide) (off := 1200) rfl (tgt := 1239) (by decide) ?_
    obtain ⟨z1, z2, h_hz1, h_hz2, hEnd⟩ := H.2.2.2.2.2.2.2.2.2.2.2.2.2.2.2.2.2.2.2.2.2.2.2.2.2.2.2.2.2.2.2.2.1 _ _ _ _ _ _ _ _ _ hR  sS sH sN 
    exact lw_32 hg C Sx hfp hfs (by omega) (by omega) h_hz1 h_hz2 (next _ _ _ _ _ _ _ _ _ _ _ _ _ _ _ _ _ _ _ _ _ hEnd)
  refine (Decidable.em (w = (33 : Int32))).elim (fun hc => ?_) (fun hn33 => ?_)
  · refine z_tswIn (pc := 39) C (33 : Int32) dL_law_39 hc (by decide) (by decide) (off := 1213) rfl (tgt := 1252) (by decide) ?_
    obtain ⟨z1, z2, h_hz1, h_hz2, hEnd⟩ := H.2.2.2.2.2.2.2.2.2.2.2.2.2.2.2.2.2.2.2.2.2.2.2.2.2.2.2.2.2.2.2.2.2.1 _ _ _ _ _ _ _ _ _ hR  sS sH sN 
    exact lw_33 hg C Sx hfp hfs (by omega) (by omega) h_hz1 h_hz2 (next _ _ _ _ _ _ _ _ _ _ _ _ _ _ _ _ _ _ _ _ _ hEnd)
  refine (Decidable.em (w = (34 : Int32))).elim (fun hc => ?_) (fun hn34 => ?_)
  · refine z_tswIn (pc := 39) C (34 : Int32) dL_law_39 hc (by decide) (by decide) (off := 1226) rfl (tgt := 1265) (by decide) ?_
    obtain ⟨z1, z2, h_hz1, h_hz2, hEnd⟩ := H.2.2.2.2.2.2.2.2.2.2.2.2.2.2.2.2.2.2.2.2.2.2.2.2.2.2.2.2.2.2.2.2.2.2.1 _ _ _ _ _ _ _ _ _ hR q8 q9 sS sH sN fo (xs (Int32.ofNat (4 * j) + (1 : Int32)).toNatClampNeg) (xs (Int32.ofNat (4 * j) + (2 : Int32)).toNatClampNeg)
    exact lw_34 hg C Sx hfp hfs (by omega) (by omega) hb1 rfl hb2 rfl h_hz1 h_hz2 (next _ _ _ _ _ _ _ _ _ _ _ _ _ _ _ _ _ _ _ _ _ hEnd)
  refine (Decidable.em (w = (35 : Int32))).elim (fun hc => ?_) (fun hn35 => ?_)
  · refine z_tswIn (pc := 39) C (35 : Int32) dL_law_39 hc (by decide) (by decide) (off := 1266) rfl (tgt := 1305) (by decide) ?_
    obtain ⟨z1, z2, h_hz1, h_hz2, hEnd⟩ := H.2.2.2.2.2.2.2.2.2.2.2.2.2.2.2.2.2.2.2.2.2.2.2.2.2.2.2.2.2.2.2.2.2.2.2.1 _ _ _ _ _ _ _ _ _ hR q8 q9 sS sH sN fo (xs (Int32.ofNat (4 * j) + (1 : Int32)).toNatClampNeg)
    exact lw_35 hg C Sx hfp hfs (by omega) (by omega) hb1 rfl h_hz1 h_hz2 (next _ _ _ _ _ _ _ _ _ _ _ _ _ _ _ _ _ _ _ _ _ hEnd)
  refine (Decidable.em (w = (36 : Int32))).elim (fun hc => ?_) (fun hn36 => ?_)
  · refine z_tswIn (pc := 39) C (36 : Int32) dL_law_39 hc (by decide) (by decide) (off := 1294) rfl (tgt := 1333) (by decide) ?_
    obtain ⟨z1, z2, h_hz1, h_hz2, hEnd⟩ := H.2.2.2.2.2.2.2.2.2.2.2.2.2.2.2.2.2.2.2.2.2.2.2.2.2.2.2.2.2.2.2.2.2.2.2.2.1 _ _ _ _ _ _ _ _ _ hR  fo (xs (Int32.ofNat (4 * j) + (1 : Int32)).toNatClampNeg)
    exact lw_36 hg C Sx hfp hfs (by omega) (by omega) hb1 rfl h_hz1 h_hz2 (next _ _ _ _ _ _ _ _ _ _ _ _ _ _ _ _ _ _ _ _ _ hEnd)
  refine (Decidable.em (w = (37 : Int32))).elim (fun hc => ?_) (fun hn37 => ?_)
  · refine z_tswIn (pc := 39) C (37 : Int32) dL_law_39 hc (by decide) (by decide) (off := 1322) rfl (tgt := 1361) (by decide) ?_
    obtain ⟨z1, z2, h_hz1, h_hz2, hEnd⟩ := H.2.2.2.2.2.2.2.2.2.2.2.2.2.2.2.2.2.2.2.2.2.2.2.2.2.2.2.2.2.2.2.2.2.2.2.2.2.1 _ _ _ _ _ _ _ _ _ hR  fo (xs (Int32.ofNat (4 * j) + (1 : Int32)).toNatClampNeg) (xs (Int32.ofNat (4 * j) + (2 : Int32)).toNatClampNeg)
    exact lw_37 hg C Sx hfp hfs (by omega) (by omega) hb1 rfl hb2 rfl h_hz1 h_hz2 (next _ _ _ _ _ _ _ _ _ _ _ _ _ _ _ _ _ _ _ _ _ hEnd)
  refine (Decidable.em (w = (38 : Int32))).elim (fun hc => ?_) (fun hn38 => ?_)
  · refine z_tswIn (pc := 39) C (38 : Int32) dL_law_39 hc (by decide) (by decide) (off := 1362) rfl (tgt := 1401) (by decide) ?_
    obtain ⟨z1, z2, h_hz1, h_hz2, hEnd⟩ := H.2.2.2.2.2.2.2.2.2.2.2.2.2.2.2.2.2.2.2.2.2.2.2.2.2.2.2.2.2.2.2.2.2.2.2.2.2.2.1 _ _ _ _ _ _ _ _ _ hR   
    obtain ⟨ru2, ⟨rq2, hm⟩, hEnd⟩ := hEnd
    obtain ⟨rest2, hp⟩ := mem_perm hm
    rw [plOf_perm hp] at hEnd
    exact lw_38 hg C Sx hfp hfs (by omega) (by omega) h_hz1 h_hz2 (z_swap hp (next _ _ _ _ _ _ _ _ _ _ _ _ _ _ _ _ _ _ _ _ _ hEnd))
  refine (Decidable.em (w = (39 : Int32))).elim (fun hc => ?_) (fun hn39 => ?_)
  · refine z_tswIn (pc := 39) C (39 : Int32) dL_law_39 hc (by decide) (by decide) (off := 1375) rfl (tgt := 1414) (by decide) ?_
    refine (Decidable.em (xs (Int32.ofNat (4 * j) + (2 : Int32)).toNatClampNeg = 0)).elim (fun hq => ?_) (fun hq => ?_)
    · obtain ⟨z1, z2, h_hz1, h_hz2, hEnd⟩ := H.2.2.2.2.2.2.2.2.2.2.2.2.2.2.2.2.2.2.2.2.2.2.2.2.2.2.2.2.2.2.2.2.2.2.2.2.2.2.2.1 _ _ _ _ _ _ _ _ _ hR  fo (xs (Int32.ofNat (4 * j) + (1 : Int32)).toNatClampNeg) (xs (Int32.ofNat (4 * j) + (2 : Int32)).toNatClampNeg) hq
      exact lw_39a hg C Sx hfp hfs (by omega) (by omega) hb1 rfl hb2 rfl hq h_hz1 h_hz2 (next _ _ _ _ _ _ _ _ _ _ _ _ _ _ _ _ _ _ _ _ _ hEnd)
    · obtain ⟨z1, z2, h_hz1, h_hz2, hEnd⟩ := H.2.2.2.2.2.2.2.2.2.2.2.2.2.2.2.2.2.2.2.2.2.2.2.2.2.2.2.2.2.2.2.2.2.2.2.2.2.2.2.2.1 _ _ _ _ _ _ _ _ _ hR  fo (xs (Int32.ofNat (4 * j) + (1 : Int32)).toNatClampNeg) (xs (Int32.ofNat (4 * j) + (2 : Int32)).toNatClampNeg) hq
      exact lw_39b hg C Sx hfp hfs (by omega) (by omega) hb1 rfl hb2 rfl hq h_hz1 h_hz2 (next _ _ _ _ _ _ _ _ _ _ _ _ _ _ _ _ _ _ _ _ _ hEnd)
  refine (Decidable.em (w = (40 : Int32))).elim (fun hc => ?_) (fun hn40 => ?_)
  · refine z_tswIn (pc := 39) C (40 : Int32) dL_law_39 hc (by decide) (by decide) (off := 1431) rfl (tgt := 1470) (by decide) ?_
    obtain ⟨z1, z2, h_hz1, h_hz2, hEnd⟩ := H.2.2.2.2.2.2.2.2.2.2.2.2.2.2.2.2.2.2.2.2.2.2.2.2.2.2.2.2.2.2.2.2.2.2.2.2.2.2.2.2.2.1 _ _ _ _ _ _ _ _ _ hR   (xs (Int32.ofNat (4 * j) + (1 : Int32)).toNatClampNeg)
    exact lw_40 hg C Sx hfp hfs (by omega) (by omega) hb1 rfl h_hz1 h_hz2 (next _ _ _ _ _ _ _ _ _ _ _ _ _ _ _ _ _ _ _ _ _ hEnd)
  refine (Decidable.em (w = (41 : Int32))).elim (fun hc => ?_) (fun hn41 => ?_)
  · refine z_tswIn (pc := 39) C (41 : Int32) dL_law_39 hc (by decide) (by decide) (off := 1456) rfl (tgt := 1495) (by decide) ?_
    obtain ⟨z1, z2, h_hz1, h_hz2, hEnd⟩ := H.2.2.2.2.2.2.2.2.2.2.2.2.2.2.2.2.2.2.2.2.2.2.2.2.2.2.2.2.2.2.2.2.2.2.2.2.2.2.2.2.2.2.1 _ _ _ _ _ _ _ _ _ hR  fo (xs (Int32.ofNat (4 * j) + (1 : Int32)).toNatClampNeg)
    exact lw_41 hg C Sx hfp hfs (by omega) (by omega) hb1 rfl h_hz1 h_hz2 (next _ _ _ _ _ _ _ _ _ _ _ _ _ _ _ _ _ _ _ _ _ hEnd)
  refine (Decidable.em (w = (42 : Int32))).elim (fun hc => ?_) (fun hn42 => ?_)
  · refine z_tswIn (pc := 39) C (42 : Int32) dL_law_39 hc (by decide) (by decide) (off := 1484) rfl (tgt := 1523) (by decide) ?_
    obtain ⟨z1, z2, h_hz1, h_hz2, hEnd⟩ := H.2.2.2.2.2.2.2.2.2.2.2.2.2.2.2.2.2.2.2.2.2.2.2.2.2.2.2.2.2.2.2.2.2.2.2.2.2.2.2.2.2.2.2 _ _ _ _ _ _ _ _ _ hR  fo (xs (Int32.ofNat (4 * j) + (1 : Int32)).toNatClampNeg)
    obtain ⟨ru2, ⟨rq2, hm⟩, hEnd⟩ := hEnd
    obtain ⟨rest2, hp⟩ := mem_perm hm
    rw [plOf_perm hp] at hEnd
    exact lw_42 hg C Sx hfp hfs (by omega) (by omega) hb1 rfl h_hz1 h_hz2 (z_swap hp (next _ _ _ _ _ _ _ _ _ _ _ _ _ _ _ _ _ _ _ _ _ hEnd))
  refine z_tswOut (pc := 39) C dL_law_39 (by have e0 := lv_neT hn0 (a := 0) (by decide); have e1 := lv_neT hn1 (a := 1) (by decide); have e2 := lv_neT hn2 (a := 2) (by decide); have e3 := lv_neT hn3 (a := 3) (by decide); have e4 := lv_neT hn4 (a := 4) (by decide); have e5 := lv_neT hn5 (a := 5) (by decide); have e6 := lv_neT hn6 (a := 6) (by decide); have e7 := lv_neT hn7 (a := 7) (by decide); have e8 := lv_neT hn8 (a := 8) (by decide); have e9 := lv_neT hn9 (a := 9) (by decide); have e10 := lv_neT hn10 (a := 10) (by decide); have e11 := lv_neT hn11 (a := 11) (by decide); have e12 := lv_neT hn12 (a := 12) (by decide); have e13 := lv_neT hn13 (a := 13) (by decide); have e14 := lv_neT hn14 (a := 14) (by decide); have e15 := lv_neT hn15 (a := 15) (by decide); have e16 := lv_neT hn16 (a := 16) (by decide); have e17 := lv_neT hn17 (a := 17) (by decide); have e18 := lv_neT hn18 (a := 18) (by decide); have e19 := lv_neT hn19 (a := 19) (by decide); have e20 := lv_neT hn20 (a := 20) (by decide); have e21 := lv_neT hn21 (a := 21) (by decide); have e22 := lv_neT hn22 (a := 22) (by decide); have e23 := lv_neT hn23 (a := 23) (by decide); have e24 := lv_neT hn24 (a := 24) (by decide); have e25 := lv_neT hn25 (a := 25) (by decide); have e26 := lv_neT hn26 (a := 26) (by decide); have e27 := lv_neT hn27 (a := 27) (by decide); have e28 := lv_neT hn28 (a := 28) (by decide); have e29 := lv_neT hn29 (a := 29) (by decide); have e30 := lv_neT hn30 (a := 30) (by decide); have e31 := lv_neT hn31 (a := 31) (by decide); have e32 := lv_neT hn32 (a := 32) (by decide); have e33 := lv_neT hn33 (a := 33) (by decide); have e34 := lv_neT hn34 (a := 34) (by decide); have e35 := lv_neT hn35 (a := 35) (by decide); have e36 := lv_neT hn36 (a := 36) (by decide); have e37 := lv_neT hn37 (a := 37) (by decide); have e38 := lv_neT hn38 (a := 38) (by decide); have e39 := lv_neT hn39 (a := 39) (by decide); have e40 := lv_neT hn40 (a := 40) (by decide); have e41 := lv_neT hn41 (a := 41) (by decide); have e42 := lv_neT hn42 (a := 42) (by decide); omega) (tgt := 1551) (by decide) ?_
  exact z_widen (by omega) (by omega) (next _ _ _ _ _ _ _ _ _ _ _ _ _ _ _ _ _ _ _ _ _ hR)
theorem law_loop {K : Kt} {g : Gp} {ax am ao b Ls : Nat} {xs : Nat → Int32} {r r1 r2 r3 r5 r6 r7 r9 r10 rm : Nat → Nat} {fp fs : Nat → Option Nat} {pa sa : Nat → Nat} {pr sr : Nat → Nat → Nat} (hg : Ok g) (C : Cx K g cL_law RL 7 room_1) (Sx : Sc K b Ls xs) (hfp : ∀ k, k < 20 → fp k = some (pa k)) (hfs : ∀ k, k < 2 → fs k = some (sa k)) {c0 s0 N : Nat} {R : Rl} (H : PqAll N R) (hL : Ls ≤ 2048) (hc0 : c0 + 2048 ≤ 601024) (hs0 : s0 + 40960 ≤ 7293034) (out : ∀ (rest : List Ent) (rq : Nat → Nat) (q qp q4 q8 q9 : Nat) (sX : Ob) (sG : Ob) (ru : Ob) (sP : Ob) (sR : Ob) (sMi : Ob) (sA : Ob) (sS : Ob) (sH : Ob) (sN : Ob) (fo : Nat → Int64) (sM : Ob) (PS SS : Nat → Nat × Ob) (i : Int32), Zs K 601024 7293034 ((([wAJ g ao 1 fo, wX7 g ax r sX, wX1 g (r 3) r1 q sG, wX5 g q rq ru, wX1 g (r 9) r2 qp sP, wX4 g (r 2) r3 q4 (r 0) sR, wX2 g (r 10) r5 sMi, wX0 g (r 11) r6 (r 10) sA, wX6 g (r 12) r7 sS, wX3 g (r7 8) r9 q8 sH, wX3 g (r7 9) r10 q9 sN, wX8 g am rm sM] : List va_W).flatten) ++ (wPs g (r 4) 20 fp pa pr PS ++ (wPs g (r 7) 2 fs sa sr SS ++ wPool g rest))) [(0, .ref b), (1, .ref ax), (2, .ref am), (3, .ref ao), (4, .int i)] 1557 []) : ∀ (m j : Nat), j + m = Ls / 4 → ∀ (rest : List Ent) (rq : Nat → Nat) (q qp q4 q8 q9 : Nat) (sX : Ob) (sG : Ob) (ru : Ob) (sP : Ob) (sR : Ob) (sMi : Ob) (sA : Ob) (sS : Ob) (sH : Ob) (sN : Ob) (fo : Nat → Int64) (sM : Ob) (PS SS : Nat → Nat × Ob), R (plOf ((q, rq, ru) :: rest)) sX sG ru q sR PS SS sM → Zs K (c0 + 4 * j) (s0 + 80 * j) ((([wAJ g ao 1 fo, wX7 g ax r sX, wX1 g (r 3) r1 q sG, wX5 g q rq ru, wX1 g (r 9) r2 qp sP, wX4 g (r 2) r3 q4 (r 0) sR, wX2 g (r 10) r5 sMi, wX0 g (r 11) r6 (r 10) sA, wX6 g (r 12) r7 sS, wX3 g (r7 8) r9 q8 sH, wX3 g (r7 9) r10 q9 sN, wX8 g am rm sM] : List va_W).flatten) ++ (wPs g (r 4) 20 fp pa pr PS ++ (wPs g (r 7) 2 fs sa sr SS ++ wPool g rest))) [(0, .ref b), (1, .ref ax), (2, .ref am), (3, .ref ao), (4, .int (Int32.ofNat (4 * j)))] 23 [] := by
  intro m
  induction m with
  | zero =>
    intro j hj rest rq q qp q4 q8 q9 sX sG ru sP sR sMi sA sS sH sN fo sM PS SS hR
    refine z_iload (pc := 23) (x := Int32.ofNat (4 * j)) C dL_law_23 rfl ?_
    refine z_aload_n (pc := 25) (x := b) C dL_law_25 (i := 0) rfl rfl ?_
    refine z_slen (pc := 26) C Sx dL_law_26 ?_
    refine z_iconst (pc := 27) C dL_law_27 ic_4 ?_
    refine z_isub (pc := 28) C dL_law_28 ?_
    refine z_icmp_gt (pc := 29) C dL_law_29 (tgt := 1557) (by decide) (fun _ => ?_) (fun hc => ?_)
    · exact z_widen (by omega) (by omega) (out _ _ _ _ _ _ _ _ _ _ _ _ _ _ _ _ _ _ _ _ _ _)
    · refine absurd (Int32.lt_iff_toInt_lt.mpr ?_) hc
      rw [len_m4 hL, Int32.toInt_ofNat_of_lt (by omega)]
      omega
  | succ m ih =>
    intro j hj rest rq q qp q4 q8 q9 sX sG ru sP sR sMi sA sS sH sN fo sM PS SS hR
    refine z_iload (pc := 23) (x := Int32.ofNat (4 * j)) C dL_law_23 rfl ?_
    refine z_aload_n (pc := 25) (x := b) C dL_law_25 (i := 0) rfl rfl ?_
    refine z_slen (pc := 26) C Sx dL_law_26 ?_
    refine z_iconst (pc := 27) C dL_law_27 ic_4 ?_
    refine z_isub (pc := 28) C dL_law_28 ?_
    refine z_icmp_gt (pc := 29) C dL_law_29 (tgt := 1557) (by decide) (fun hc => ?_) (fun _ => ?_)
    · have hc := Int32.lt_iff_toInt_lt.mp hc
      rw [len_m4 hL, Int32.toInt_ofNat_of_lt (by omega)] at hc
      omega
    refine law_turn hg C Sx hfp hfs H hL hc0 hs0 (j := j) (by omega) ?_ rest rq q qp q4 q8 q9 sX sG ru sP sR sMi sA sS sH sN fo sM PS SS hR
    intro rest rq q qp q4 q8 q9 sX sG ru sP sR sMi sA sS sH sN fo sM PS SS hR
    refine z_iinc (pc := 1551) (x := Int32.ofNat (4 * j)) (v := Int32.ofNat (4 * (j + 1))) C dL_law_1551 rfl (at_plus (c := 4) _ (by decide)) (by decide) (lv' := [(4, .int (Int32.ofNat (4 * (j + 1)))), (0, .ref b), (1, .ref ax), (2, .ref am), (3, .ref ao)]) rfl ?_
    refine z_goto (pc := 1554) C dL_law_1554 (tgt := 23) (by decide) ?_
    refine z_lv (lv' := [(0, .ref b), (1, .ref ax), (2, .ref am), (3, .ref ao), (4, .int (Int32.ofNat (4 * (j + 1))))]) [1, 2, 3, 4, 0] rfl ?_
    exact z_widen (by omega) (by omega) (ih (j + 1) (by omega) rest rq q qp q4 q8 q9 sX sG ru sP sR sMi sA sS sH sN fo sM PS SS hR)
