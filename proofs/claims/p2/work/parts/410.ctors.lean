/-! OWN, written by wip/whole/tools/ctor.py: constructors -/
theorem sp_16000 : (Int16.ofInt 16000).toInt32 = (16000 : Int32) := by decide
theorem sp_16080 : (Int16.ofInt 16080).toInt32 = (16080 : Int32) := by decide
theorem sp_4020 : (Int16.ofInt 4020).toInt32 = (4020 : Int32) := by decide
theorem sp_716 : (Int16.ofInt 716).toInt32 = (716 : Int32) := by decide
theorem sp_7160 : (Int16.ofInt 7160).toInt32 = (7160 : Int32) := by decide
theorem wo_RX5_3 : Cond.methodLink RX5 3 Lib.objectInit ∈ gtbl ∧ Cond.instanceMethod Lib.objectInit ∈ gtbl ∧ Cond.code Lib.objectInit ⟨#[0xb1]⟩ 1 none ∈ gtbl := ⟨g_in 164 (by decide +kernel) rfl, g_in 151 (by decide +kernel) rfl, g_in 152 (by decide +kernel) rfl⟩
theorem fp_RX5_9 : Fp RX5 9 5 4 false .int := ⟨RX5, TX5, 11, (TX5 4).1, tyX5, rfl, by decide, g_in 189 (by decide +kernel) rfl, rfl, inG5, tyX5_ok, nmX5, rfl, tyX5_ok 4 (by decide)⟩
theorem fp_RX5_15 : Fp RX5 15 5 5 false .int := ⟨RX5, TX5, 11, (TX5 5).1, tyX5, rfl, by decide, g_in 193 (by decide +kernel) rfl, rfl, inG5, tyX5_ok, nmX5, rfl, tyX5_ok 5 (by decide)⟩
theorem fp_RX5_18 : Fp RX5 18 5 6 false .int := ⟨RX5, TX5, 11, (TX5 6).1, tyX5, rfl, by decide, g_in 196 (by decide +kernel) rfl, rfl, inG5, tyX5_ok, nmX5, rfl, tyX5_ok 6 (by decide)⟩
theorem wac_int : Cond.arrayClass .int ∈ gtbl := g_in 235 (by decide +kernel) rfl
theorem fp_RX5_21 : Fp RX5 21 5 8 true (.array .int) := ⟨RX5, TX5, 11, (TX5 8).1, tyX5, rfl, by decide, g_in 204 (by decide +kernel) rfl, rfl, inG5, tyX5_ok, nmX5, rfl, tyX5_ok 8 (by decide)⟩
theorem fp_RX5_25 : Fp RX5 25 5 9 true (.array .int) := ⟨RX5, TX5, 11, (TX5 9).1, tyX5, rfl, by decide, g_in 207 (by decide +kernel) rfl, rfl, inG5, tyX5_ok, nmX5, rfl, tyX5_ok 9 (by decide)⟩
theorem fp_RX5_28 : Fp RX5 28 5 10 true (.array .int) := ⟨RX5, TX5, 11, (TX5 10).1, tyX5, rfl, by decide, g_in 209 (by decide +kernel) rfl, rfl, inG5, tyX5_ok, nmX5, rfl, tyX5_ok 10 (by decide)⟩
theorem fl_RX5_28 : Fl RX5 28 5 10 := ⟨RX5, TX5, 11, (TX5 10).1, rfl, by decide, g_in 209 (by decide +kernel) rfl, rfl, inG5⟩
theorem ml_RX5_31 : Cond.methodLink RX5 31 yJ7_fill_53178 ∈ gtbl := g_in 165 (by decide +kernel) rfl
theorem wo_RX0_3 : Cond.methodLink RX0 3 Lib.objectInit ∈ gtbl ∧ Cond.instanceMethod Lib.objectInit ∈ gtbl ∧ Cond.code Lib.objectInit ⟨#[0xb1]⟩ 1 none ∈ gtbl := ⟨g_in 286 (by decide +kernel) rfl, g_in 151 (by decide +kernel) rfl, g_in 152 (by decide +kernel) rfl⟩
theorem fp_RX0_9 : Fp RX0 9 0 4 true (.object "HintTeam$Mind") := ⟨RX0, TX0, 6, (TX0 4).1, tyX0, rfl, by decide, g_in 295 (by decide +kernel) rfl, rfl, inG0, tyX0_ok, nmX0, rfl, tyX0_ok 4 (by decide)⟩
theorem wo_RX1_3 : Cond.methodLink RX1 3 Lib.objectInit ∈ gtbl ∧ Cond.instanceMethod Lib.objectInit ∈ gtbl ∧ Cond.code Lib.objectInit ⟨#[0xb1]⟩ 1 none ∈ gtbl := ⟨g_in 391 (by decide +kernel) rfl, g_in 151 (by decide +kernel) rfl, g_in 152 (by decide +kernel) rfl⟩
theorem fp_RX1_11 : Fp RX1 11 1 7 true (.array .int) := ⟨RX1, TX1, 16, (TX1 7).1, tyX1, rfl, by decide, g_in 415 (by decide +kernel) rfl, rfl, inG1, tyX1_ok, nmX1, rfl, tyX1_ok 7 (by decide)⟩
theorem fp_RX1_15 : Fp RX1 15 1 9 true (.array .int) := ⟨RX1, TX1, 16, (TX1 9).1, tyX1, rfl, by decide, g_in 418 (by decide +kernel) rfl, rfl, inG1, tyX1_ok, nmX1, rfl, tyX1_ok 9 (by decide)⟩
theorem fp_RX1_18 : Fp RX1 18 1 10 true (.array .int) := ⟨RX1, TX1, 16, (TX1 10).1, tyX1, rfl, by decide, g_in 419 (by decide +kernel) rfl, rfl, inG1, tyX1_ok, nmX1, rfl, tyX1_ok 10 (by decide)⟩
theorem fp_RX1_21 : Fp RX1 21 1 11 true (.array .int) := ⟨RX1, TX1, 16, (TX1 11).1, tyX1, rfl, by decide, g_in 420 (by decide +kernel) rfl, rfl, inG1, tyX1_ok, nmX1, rfl, tyX1_ok 11 (by decide)⟩
theorem fp_RX1_24 : Fp RX1 24 1 12 true (.array .int) := ⟨RX1, TX1, 16, (TX1 12).1, tyX1, rfl, by decide, g_in 421 (by decide +kernel) rfl, rfl, inG1, tyX1_ok, nmX1, rfl, tyX1_ok 12 (by decide)⟩
theorem fp_RX1_29 : Fp RX1 29 1 13 true (.array .int) := ⟨RX1, TX1, 16, (TX1 13).1, tyX1, rfl, by decide, g_in 422 (by decide +kernel) rfl, rfl, inG1, tyX1_ok, nmX1, rfl, tyX1_ok 13 (by decide)⟩
theorem fp_RX1_32 : Fp RX1 32 1 14 true (.array .int) := ⟨RX1, TX1, 16, (TX1 14).1, tyX1, rfl, by decide, g_in 423 (by decide +kernel) rfl, rfl, inG1, tyX1_ok, nmX1, rfl, tyX1_ok 14 (by decide)⟩
theorem fp_RX1_35 : Fp RX1 35 1 15 true (.array .int) := ⟨RX1, TX1, 16, (TX1 15).1, tyX1, rfl, by decide, g_in 424 (by decide +kernel) rfl, rfl, inG1, tyX1_ok, nmX1, rfl, tyX1_ok 15 (by decide)⟩
theorem wo_RX2_3 : Cond.methodLink RX2 3 Lib.objectInit ∈ gtbl ∧ Cond.instanceMethod Lib.objectInit ∈ gtbl ∧ Cond.code Lib.objectInit ⟨#[0xb1]⟩ 1 none ∈ gtbl := ⟨g_in 275 (by decide +kernel) rfl, g_in 151 (by decide +kernel) rfl, g_in 152 (by decide +kernel) rfl⟩
theorem fp_RX2_9 : Fp RX2 9 2 0 true (.array .int) := ⟨RX2, TX2, 1, (TX2 0).1, tyX2, rfl, by decide, g_in 276 (by decide +kernel) rfl, rfl, inG2, tyX2_ok, nmX2, rfl, tyX2_ok 0 (by decide)⟩
theorem wo_RX3_3 : Cond.methodLink RX3 3 Lib.objectInit ∈ gtbl ∧ Cond.instanceMethod Lib.objectInit ∈ gtbl ∧ Cond.code Lib.objectInit ⟨#[0xb1]⟩ 1 none ∈ gtbl := ⟨g_in 323 (by decide +kernel) rfl, g_in 151 (by decide +kernel) rfl, g_in 152 (by decide +kernel) rfl⟩
theorem wac_long : Cond.arrayClass .long ∈ gtbl := g_in 348 (by decide +kernel) rfl
theorem fp_RX3_9 : Fp RX3 9 3 1 true (.array .long) := ⟨RX3, TX3, 7, (TX3 1).1, tyX3, rfl, by decide, g_in 326 (by decide +kernel) rfl, rfl, inG3, tyX3_ok, nmX3, rfl, tyX3_ok 1 (by decide)⟩
theorem fp_RX3_15 : Fp RX3 15 3 2 true (.array .int) := ⟨RX3, TX3, 7, (TX3 2).1, tyX3, rfl, by decide, g_in 328 (by decide +kernel) rfl, rfl, inG3, tyX3_ok, nmX3, rfl, tyX3_ok 2 (by decide)⟩
theorem fp_RX3_19 : Fp RX3 19 3 0 false (.object "HintTeam$Rules") := ⟨RX3, TX3, 7, (TX3 0).1, tyX3, rfl, by decide, g_in 324 (by decide +kernel) rfl, rfl, inG3, tyX3_ok, nmX3, rfl, tyX3_ok 0 (by decide)⟩
theorem wo_RX4_3 : Cond.methodLink RX4 3 Lib.objectInit ∈ gtbl ∧ Cond.instanceMethod Lib.objectInit ∈ gtbl ∧ Cond.code Lib.objectInit ⟨#[0xb1]⟩ 1 none ∈ gtbl := ⟨g_in 158 (by decide +kernel) rfl, g_in 151 (by decide +kernel) rfl, g_in 152 (by decide +kernel) rfl⟩
theorem wn_RX4_9 : Cond.classLink RX4 9 RX5 ∈ gtbl ∧ Cond.instantiable RX5 11 ∈ gtbl ∧ Cond.initialized RX5 ∈ gtbl := ⟨g_in 159 (by decide +kernel) rfl, g_in 160 (by decide +kernel) rfl, g_in 124 (by decide +kernel) rfl⟩
theorem ml_RX4_11 : Cond.methodLink RX4 11 yX5_init ∈ gtbl := g_in 161 (by decide +kernel) rfl
theorem wb_X5_init : Wb yX5_init 0 cX5_init 1 none := ⟨g_in 124 (by decide +kernel) rfl, g_in 163 (by decide +kernel) rfl, by decide +kernel, by decide +kernel, by decide +kernel⟩
theorem wi_X5_init : Wi yX5_init 0 cX5_init 1 := ⟨wb_X5_init, g_in 162 (by decide +kernel) rfl, rfl⟩
theorem fp_RX4_12 : Fp RX4 12 4 0 false (.object "HintTeam$Rules") := ⟨RX4, TX4, 9, (TX4 0).1, tyX4, rfl, by decide, g_in 236 (by decide +kernel) rfl, rfl, inG4, tyX4_ok, nmX4, rfl, tyX4_ok 0 (by decide)⟩
theorem fp_RX4_22 : Fp RX4 22 4 4 true (.array .int) := ⟨RX4, TX4, 9, (TX4 4).1, tyX4, rfl, by decide, g_in 244 (by decide +kernel) rfl, rfl, inG4, tyX4_ok, nmX4, rfl, tyX4_ok 4 (by decide)⟩
theorem wo_RX6_5 : Cond.methodLink RX6 5 Lib.objectInit ∈ gtbl ∧ Cond.instanceMethod Lib.objectInit ∈ gtbl ∧ Cond.code Lib.objectInit ⟨#[0xb1]⟩ 1 none ∈ gtbl := ⟨g_in 315 (by decide +kernel) rfl, g_in 151 (by decide +kernel) rfl, g_in 152 (by decide +kernel) rfl⟩
theorem fp_RX6_11 : Fp RX6 11 6 5 true (.array .long) := ⟨RX6, TX6, 10, (TX6 5).1, tyX6, rfl, by decide, g_in 359 (by decide +kernel) rfl, rfl, inG6, tyX6_ok, nmX6, rfl, tyX6_ok 5 (by decide)⟩
theorem fp_RX6_15 : Fp RX6 15 6 6 true (.array .int) := ⟨RX6, TX6, 10, (TX6 6).1, tyX6, rfl, by decide, g_in 360 (by decide +kernel) rfl, rfl, inG6, tyX6_ok, nmX6, rfl, tyX6_ok 6 (by decide)⟩
theorem fp_RX6_19 : Fp RX6 19 6 7 true (.array .int) := ⟨RX6, TX6, 10, (TX6 7).1, tyX6, rfl, by decide, g_in 361 (by decide +kernel) rfl, rfl, inG6, tyX6_ok, nmX6, rfl, tyX6_ok 7 (by decide)⟩
theorem wn_RX6_22 : Cond.classLink RX6 22 RX5 ∈ gtbl ∧ Cond.instantiable RX5 11 ∈ gtbl ∧ Cond.initialized RX5 ∈ gtbl := ⟨g_in 316 (by decide +kernel) rfl, g_in 160 (by decide +kernel) rfl, g_in 124 (by decide +kernel) rfl⟩
theorem ml_RX6_24 : Cond.methodLink RX6 24 yX5_init ∈ gtbl := g_in 317 (by decide +kernel) rfl
theorem wn_RX6_25 : Cond.classLink RX6 25 RX3 ∈ gtbl ∧ Cond.instantiable RX3 7 ∈ gtbl ∧ Cond.initialized RX3 ∈ gtbl := ⟨g_in 318 (by decide +kernel) rfl, g_in 319 (by decide +kernel) rfl, g_in 129 (by decide +kernel) rfl⟩
theorem ml_RX6_27 : Cond.methodLink RX6 27 yX3_init ∈ gtbl := g_in 320 (by decide +kernel) rfl
theorem wb_X3_init : Wb yX3_init 1 cX3_init 2 none := ⟨g_in 129 (by decide +kernel) rfl, g_in 322 (by decide +kernel) rfl, by decide +kernel, by decide +kernel, by decide +kernel⟩
theorem wi_X3_init : Wi yX3_init 1 cX3_init 2 := ⟨wb_X3_init, g_in 321 (by decide +kernel) rfl, rfl⟩
theorem fp_RX6_30 : Fp RX6 30 6 8 true (.object "HintTeam$Position") := ⟨RX6, TX6, 10, (TX6 8).1, tyX6, rfl, by decide, g_in 362 (by decide +kernel) rfl, rfl, inG6, tyX6_ok, nmX6, rfl, tyX6_ok 8 (by decide)⟩
theorem fp_RX6_34 : Fp RX6 34 6 9 true (.object "HintTeam$Position") := ⟨RX6, TX6, 10, (TX6 9).1, tyX6, rfl, by decide, g_in 363 (by decide +kernel) rfl, rfl, inG6, tyX6_ok, nmX6, rfl, tyX6_ok 9 (by decide)⟩
theorem wo_RX8_3 : Cond.methodLink RX8 3 Lib.objectInit ∈ gtbl ∧ Cond.instanceMethod Lib.objectInit ∈ gtbl ∧ Cond.code Lib.objectInit ⟨#[0xb1]⟩ 1 none ∈ gtbl := ⟨g_in 1423 (by decide +kernel) rfl, g_in 151 (by decide +kernel) rfl, g_in 152 (by decide +kernel) rfl⟩
theorem fp_RX8_9 : Fp RX8 9 8 0 true (.array .int) := ⟨RX8, TX8, 31, (TX8 0).1, tyX8, rfl, by decide, g_in 1424 (by decide +kernel) rfl, rfl, inG8, tyX8_ok, nmX8, rfl, tyX8_ok 0 (by decide)⟩
theorem fp_RX8_13 : Fp RX8 13 8 1 true (.array .int) := ⟨RX8, TX8, 31, (TX8 1).1, tyX8, rfl, by decide, g_in 1425 (by decide +kernel) rfl, rfl, inG8, tyX8_ok, nmX8, rfl, tyX8_ok 1 (by decide)⟩
theorem fp_RX8_16 : Fp RX8 16 8 2 true (.array .int) := ⟨RX8, TX8, 31, (TX8 2).1, tyX8, rfl, by decide, g_in 1426 (by decide +kernel) rfl, rfl, inG8, tyX8_ok, nmX8, rfl, tyX8_ok 2 (by decide)⟩
theorem fp_RX8_19 : Fp RX8 19 8 3 true (.array .int) := ⟨RX8, TX8, 31, (TX8 3).1, tyX8, rfl, by decide, g_in 1427 (by decide +kernel) rfl, rfl, inG8, tyX8_ok, nmX8, rfl, tyX8_ok 3 (by decide)⟩
theorem fp_RX8_22 : Fp RX8 22 8 4 true (.array .int) := ⟨RX8, TX8, 31, (TX8 4).1, tyX8, rfl, by decide, g_in 1428 (by decide +kernel) rfl, rfl, inG8, tyX8_ok, nmX8, rfl, tyX8_ok 4 (by decide)⟩
theorem wac_boolean : Cond.arrayClass .boolean ∈ gtbl := g_in 280 (by decide +kernel) rfl
theorem fp_RX8_25 : Fp RX8 25 8 5 true (.array .boolean) := ⟨RX8, TX8, 31, (TX8 5).1, tyX8, rfl, by decide, g_in 1429 (by decide +kernel) rfl, rfl, inG8, tyX8_ok, nmX8, rfl, tyX8_ok 5 (by decide)⟩
theorem wac_byte : Cond.arrayClass .byte ∈ gtbl := g_in 670 (by decide +kernel) rfl
theorem fp_RX8_29 : Fp RX8 29 8 8 true (.array .byte) := ⟨RX8, TX8, 31, (TX8 8).1, tyX8, rfl, by decide, g_in 1432 (by decide +kernel) rfl, rfl, inG8, tyX8_ok, nmX8, rfl, tyX8_ok 8 (by decide)⟩
theorem fp_RX8_37 : Fp RX8 37 8 18 true (.array .int) := ⟨RX8, TX8, 31, (TX8 18).1, tyX8, rfl, by decide, g_in 1442 (by decide +kernel) rfl, rfl, inG8, tyX8_ok, nmX8, rfl, tyX8_ok 18 (by decide)⟩
theorem fp_RX8_40 : Fp RX8 40 8 19 true (.array .long) := ⟨RX8, TX8, 31, (TX8 19).1, tyX8, rfl, by decide, g_in 1443 (by decide +kernel) rfl, rfl, inG8, tyX8_ok, nmX8, rfl, tyX8_ok 19 (by decide)⟩
theorem fp_RX8_44 : Fp RX8 44 8 20 true (.array .int) := ⟨RX8, TX8, 31, (TX8 20).1, tyX8, rfl, by decide, g_in 1444 (by decide +kernel) rfl, rfl, inG8, tyX8_ok, nmX8, rfl, tyX8_ok 20 (by decide)⟩
theorem fp_RX8_47 : Fp RX8 47 8 21 true (.array .int) := ⟨RX8, TX8, 31, (TX8 21).1, tyX8, rfl, by decide, g_in 1445 (by decide +kernel) rfl, rfl, inG8, tyX8_ok, nmX8, rfl, tyX8_ok 21 (by decide)⟩
theorem fp_RX8_50 : Fp RX8 50 8 23 true (.array .long) := ⟨RX8, TX8, 31, (TX8 23).1, tyX8, rfl, by decide, g_in 1447 (by decide +kernel) rfl, rfl, inG8, tyX8_ok, nmX8, rfl, tyX8_ok 23 (by decide)⟩
theorem fp_RX8_53 : Fp RX8 53 8 24 true (.array .int) := ⟨RX8, TX8, 31, (TX8 24).1, tyX8, rfl, by decide, g_in 1448 (by decide +kernel) rfl, rfl, inG8, tyX8_ok, nmX8, rfl, tyX8_ok 24 (by decide)⟩
theorem fp_RX8_56 : Fp RX8 56 8 29 true (.array .byte) := ⟨RX8, TX8, 31, (TX8 29).1, tyX8, rfl, by decide, g_in 1453 (by decide +kernel) rfl, rfl, inG8, tyX8_ok, nmX8, rfl, tyX8_ok 29 (by decide)⟩
theorem wo_RX7_3 : Cond.methodLink RX7 3 Lib.objectInit ∈ gtbl ∧ Cond.instanceMethod Lib.objectInit ∈ gtbl ∧ Cond.code Lib.objectInit ⟨#[0xb1]⟩ 1 none ∈ gtbl := ⟨g_in 150 (by decide +kernel) rfl, g_in 151 (by decide +kernel) rfl, g_in 152 (by decide +kernel) rfl⟩
theorem fp_RX7_9 : Fp RX7 9 7 0 true (.array .int) := ⟨RX7, TX7, 15, (TX7 0).1, tyX7, rfl, by decide, g_in 458 (by decide +kernel) rfl, rfl, inG7, tyX7_ok, nmX7, rfl, tyX7_ok 0 (by decide)⟩
theorem wn_RX7_13 : Cond.classLink RX7 13 RX4 ∈ gtbl ∧ Cond.instantiable RX4 9 ∈ gtbl ∧ Cond.initialized RX4 ∈ gtbl := ⟨g_in 153 (by decide +kernel) rfl, g_in 154 (by decide +kernel) rfl, g_in 123 (by decide +kernel) rfl⟩
theorem ml_RX7_15 : Cond.methodLink RX7 15 yX4_init ∈ gtbl := g_in 155 (by decide +kernel) rfl
theorem wb_X4_init : Wb yX4_init 1 cX4_init 2 none := ⟨g_in 123 (by decide +kernel) rfl, g_in 157 (by decide +kernel) rfl, by decide +kernel, by decide +kernel, by decide +kernel⟩
theorem wi_X4_init : Wi yX4_init 1 cX4_init 2 := ⟨wb_X4_init, g_in 156 (by decide +kernel) rfl, rfl⟩
theorem fp_RX7_18 : Fp RX7 18 7 2 true (.object "HintTeam$Reader") := ⟨RX7, TX7, 15, (TX7 2).1, tyX7, rfl, by decide, g_in 460 (by decide +kernel) rfl, rfl, inG7, tyX7_ok, nmX7, rfl, tyX7_ok 2 (by decide)⟩
theorem wcl_RX7_22 : Cond.classLink RX7 22 RX1 ∈ gtbl := g_in 268 (by decide +kernel) rfl
theorem fp_RX7_24 : Fp RX7 24 7 4 true (.array (.object "HintTeam$Game")) := ⟨RX7, TX7, 15, (TX7 4).1, tyX7, rfl, by decide, g_in 462 (by decide +kernel) rfl, rfl, inG7, tyX7_ok, nmX7, rfl, tyX7_ok 4 (by decide)⟩
theorem fp_RX7_28 : Fp RX7 28 7 7 true (.array (.object "HintTeam$Game")) := ⟨RX7, TX7, 15, (TX7 7).1, tyX7, rfl, by decide, g_in 465 (by decide +kernel) rfl, rfl, inG7, tyX7_ok, nmX7, rfl, tyX7_ok 7 (by decide)⟩
theorem fp_RX7_31 : Fp RX7 31 7 8 true (.array .boolean) := ⟨RX7, TX7, 15, (TX7 8).1, tyX7, rfl, by decide, g_in 466 (by decide +kernel) rfl, rfl, inG7, tyX7_ok, nmX7, rfl, tyX7_ok 8 (by decide)⟩
theorem wn_RX7_35 : Cond.classLink RX7 35 RX2 ∈ gtbl ∧ Cond.instantiable RX2 1 ∈ gtbl ∧ Cond.initialized RX2 ∈ gtbl := ⟨g_in 270 (by decide +kernel) rfl, g_in 271 (by decide +kernel) rfl, g_in 126 (by decide +kernel) rfl⟩
theorem mn_RX7_37 : Cond.methodLinkNest RX7 37 yX2_init "HintTeam" ∈ lw_tbl := List.mem_of_getElem? (i := 272) (by decide +kernel)
theorem wb_X2_init : Wb yX2_init 0 cX2_init 1 none := ⟨g_in 126 (by decide +kernel) rfl, g_in 274 (by decide +kernel) rfl, by decide +kernel, by decide +kernel, by decide +kernel⟩
theorem wi_X2_init : Wi yX2_init 0 cX2_init 1 := ⟨wb_X2_init, g_in 273 (by decide +kernel) rfl, rfl⟩
theorem fp_RX7_38 : Fp RX7 38 7 10 true (.object "HintTeam$Mind") := ⟨RX7, TX7, 15, (TX7 10).1, tyX7, rfl, by decide, g_in 468 (by decide +kernel) rfl, rfl, inG7, tyX7_ok, nmX7, rfl, tyX7_ok 10 (by decide)⟩
theorem wn_RX7_42 : Cond.classLink RX7 42 RX0 ∈ gtbl ∧ Cond.instantiable RX0 6 ∈ gtbl ∧ Cond.initialized RX0 ∈ gtbl := ⟨g_in 281 (by decide +kernel) rfl, g_in 282 (by decide +kernel) rfl, g_in 127 (by decide +kernel) rfl⟩
theorem ml_RX7_44 : Cond.methodLink RX7 44 yX0_init ∈ gtbl := g_in 283 (by decide +kernel) rfl
theorem wb_X0_init : Wb yX0_init 1 cX0_init 2 none := ⟨g_in 127 (by decide +kernel) rfl, g_in 285 (by decide +kernel) rfl, by decide +kernel, by decide +kernel, by decide +kernel⟩
theorem wi_X0_init : Wi yX0_init 1 cX0_init 2 := ⟨wb_X0_init, g_in 284 (by decide +kernel) rfl, rfl⟩
theorem fp_RX7_47 : Fp RX7 47 7 11 true (.object "HintTeam$Advisor") := ⟨RX7, TX7, 15, (TX7 11).1, tyX7, rfl, by decide, g_in 469 (by decide +kernel) rfl, rfl, inG7, tyX7_ok, nmX7, rfl, tyX7_ok 11 (by decide)⟩
theorem wn_RX7_51 : Cond.classLink RX7 51 RX6 ∈ gtbl ∧ Cond.instantiable RX6 10 ∈ gtbl ∧ Cond.initialized RX6 ∈ gtbl := ⟨g_in 310 (by decide +kernel) rfl, g_in 311 (by decide +kernel) rfl, g_in 128 (by decide +kernel) rfl⟩
theorem ml_RX7_53 : Cond.methodLink RX7 53 yX6_init ∈ gtbl := g_in 312 (by decide +kernel) rfl
theorem wb_X6_init : Wb yX6_init 0 cX6_init 2 none := ⟨g_in 128 (by decide +kernel) rfl, g_in 314 (by decide +kernel) rfl, by decide +kernel, by decide +kernel, by decide +kernel⟩
theorem wi_X6_init : Wi yX6_init 0 cX6_init 2 := ⟨wb_X6_init, g_in 313 (by decide +kernel) rfl, rfl⟩
theorem fp_RX7_54 : Fp RX7 54 7 12 true (.object "HintTeam$Search") := ⟨RX7, TX7, 15, (TX7 12).1, tyX7, rfl, by decide, g_in 470 (by decide +kernel) rfl, rfl, inG7, tyX7_ok, nmX7, rfl, tyX7_ok 12 (by decide)⟩
theorem fp_RX7_58 : Fp RX7 58 7 13 true (.array .int) := ⟨RX7, TX7, 15, (TX7 13).1, tyX7, rfl, by decide, g_in 471 (by decide +kernel) rfl, rfl, inG7, tyX7_ok, nmX7, rfl, tyX7_ok 13 (by decide)⟩
theorem wn_RX7_61 : Cond.classLink RX7 61 RX5 ∈ gtbl ∧ Cond.instantiable RX5 11 ∈ gtbl ∧ Cond.initialized RX5 ∈ gtbl := ⟨g_in 385 (by decide +kernel) rfl, g_in 160 (by decide +kernel) rfl, g_in 124 (by decide +kernel) rfl⟩
theorem ml_RX7_63 : Cond.methodLink RX7 63 yX5_init ∈ gtbl := g_in 386 (by decide +kernel) rfl
theorem wn_RX7_22 : Cond.classLink RX7 22 RX1 ∈ gtbl ∧ Cond.instantiable RX1 16 ∈ gtbl ∧ Cond.initialized RX1 ∈ gtbl := ⟨g_in 268 (by decide +kernel) rfl, g_in 387 (by decide +kernel) rfl, g_in 130 (by decide +kernel) rfl⟩
theorem ml_RX7_64 : Cond.methodLink RX7 64 yX1_init ∈ gtbl := g_in 388 (by decide +kernel) rfl
theorem wb_X1_init : Wb yX1_init 1 cX1_init 2 none := ⟨g_in 130 (by decide +kernel) rfl, g_in 390 (by decide +kernel) rfl, by decide +kernel, by decide +kernel, by decide +kernel⟩
theorem wi_X1_init : Wi yX1_init 1 cX1_init 2 := ⟨wb_X1_init, g_in 389 (by decide +kernel) rfl, rfl⟩
theorem fp_RX7_67 : Fp RX7 67 7 3 true (.object "HintTeam$Game") := ⟨RX7, TX7, 15, (TX7 3).1, tyX7, rfl, by decide, g_in 461 (by decide +kernel) rfl, rfl, inG7, tyX7_ok, nmX7, rfl, tyX7_ok 3 (by decide)⟩
theorem fp_RX7_71 : Fp RX7 71 7 9 true (.object "HintTeam$Game") := ⟨RX7, TX7, 15, (TX7 9).1, tyX7, rfl, by decide, g_in 467 (by decide +kernel) rfl, rfl, inG7, tyX7_ok, nmX7, rfl, tyX7_ok 9 (by decide)⟩
def z0 : Ob := (fun _ => 0, fun _ => 0, fun _ _ => 0, fun _ _ => 0)
def iX5 (x : Nat → Int32) : Ob := (fun k => if k = 4 then 8 else if k = 5 then 8 else if k = 6 then 3 else 0, fun _ => 0, fun k => if k = 10 then x else fun _ => 0, fun _ _ => 0)
def iX4 : Ob := (fun k => if k = 3 then -1 else 0, fun _ => 0, fun _ _ => 0, fun _ _ => 0)
theorem m_X5_init {g : Gp} {N : Nat} {x : Nat → Int32} {a0 : Nat} (hg : Ok g) (hx : f_J7_fill_53178 N 9 (fun _ => 0) 99 = some x) : Ct g yX5_init cX5_init 1 none (zrc 1 3 69 23) [.ref a0] (([(a0, .inr (5, [.int 0, .int 0, .int 0, .int 0, .int 0, .int 0, .int 0, .int 0, .null, .null, .null]))] : va_W)) (fun rv w' => rv = none ∧ ∃ r : Nat → Nat, w' = wX5 g a0 r (iX5 x)) := by
  refine ct_ofI rfl rfl hg (by show _ ≤ _; exact Nat.le_of_ble_eq_true rfl) (fun K C I X => ?_)
  show Zs K 0 0 (([(a0, .inr (5, [.int 0, .int 0, .int 0, .int 0, .int 0, .int 0, .int 0, .int 0, .null, .null, .null]))] : va_W)) [(0, .ref a0)] 0 []
  refine z_aload_n (pc := 0) (x := a0) C dX5_init_0 (i := 0) rfl rfl ?_
  refine z_oinit (pc := 1) C dX5_init_1 wo_RX5_3 (by decide) (Nat.le_of_ble_eq_true rfl) ?_
  refine z_aload_n (pc := 4) (x := a0) C dX5_init_4 (i := 0) rfl rfl ?_
  refine z_bipush (pc := 5) C dX5_init_5 bp_8 ?_
  refine z_put (pc := 7) C 0 dX5_init_7 fp_RX5_9 rfl rfl rfl (zlt_b rfl) (ws' := (([(a0, .inr (5, [.int 0, .int 0, .int 0, .int 0, .int (8 : Int32), .int 0, .int 0, .int 0, .null, .null, .null]))] : va_W))) rfl ?_
  refine z_aload_n (pc := 10) (x := a0) C dX5_init_10 (i := 0) rfl rfl ?_
  refine z_bipush (pc := 11) C dX5_init_11 bp_8 ?_
  refine z_put (pc := 13) C 0 dX5_init_13 fp_RX5_15 rfl rfl rfl (zlt_b rfl) (ws' := (([(a0, .inr (5, [.int 0, .int 0, .int 0, .int 0, .int (8 : Int32), .int (8 : Int32), .int 0, .int 0, .null, .null, .null]))] : va_W))) rfl ?_
  refine z_aload_n (pc := 16) (x := a0) C dX5_init_16 (i := 0) rfl rfl ?_
  refine z_iconst (pc := 17) C dX5_init_17 ic_3 ?_
  refine z_put (pc := 18) C 0 dX5_init_18 fp_RX5_18 rfl rfl rfl (zlt_b rfl) (ws' := (([(a0, .inr (5, [.int 0, .int 0, .int 0, .int 0, .int (8 : Int32), .int (8 : Int32), .int (3 : Int32), .int 0, .null, .null, .null]))] : va_W))) rfl ?_
  refine z_aload_n (pc := 21) (x := a0) C dX5_init_21 (i := 0) rfl rfl ?_
  refine z_bipush (pc := 22) C dX5_init_22 bp_40 ?_
  refine z_newI (pc := 24) (N := 40) C dX5_init_24 wac_int (by decide) (by decide) (by decide) (by decide) (by decide) (fun q1 => ?_)
  refine z_putf (pc := 26) C I 0 dX5_init_26 fp_RX5_21 (fun _ _ _ h => by cases h; rfl) rfl rfl rfl (zlt_b rfl) (ws' := (([(a0, .inr (5, [.int 0, .int 0, .int 0, .int 0, .int (8 : Int32), .int (8 : Int32), .int (3 : Int32), .int 0, .ref q1, .null, .null]))] : va_W) ++ ([(q1, .inl (gI g, 40, .inl (fun _ => 0)))] : va_W))) rfl ?_
  refine z_aload_n (pc := 29) (x := a0) C dX5_init_29 (i := 0) rfl rfl ?_
  refine z_bipush (pc := 30) C dX5_init_30 bp_20 ?_
  refine z_newI (pc := 32) (N := 20) C dX5_init_32 wac_int (by decide) (by decide) (by decide) (by decide) (by decide) (fun q2 => ?_)
  refine z_putf (pc := 34) C I 0 dX5_init_34 fp_RX5_25 (fun _ _ _ h => by cases h; rfl) rfl rfl rfl (zlt_b rfl) (ws' := (([(a0, .inr (5, [.int 0, .int 0, .int 0, .int 0, .int (8 : Int32), .int (8 : Int32), .int (3 : Int32), .int 0, .ref q1, .ref q2, .null]))] : va_W) ++ ([(q1, .inl (gI g, 40, .inl (fun _ => 0)))] : va_W) ++ ([(q2, .inl (gI g, 20, .inl (fun _ => 0)))] : va_W))) rfl ?_
  refine z_aload_n (pc := 37) (x := a0) C dX5_init_37 (i := 0) rfl rfl ?_
  refine z_bipush (pc := 38) C dX5_init_38 bp_9 ?_
  refine z_newI (pc := 40) (N := 9) C dX5_init_40 wac_int (by decide) (by decide) (by decide) (by decide) (by decide) (fun q3 => ?_)
  refine z_putf (pc := 42) C I 0 dX5_init_42 fp_RX5_28 (fun _ _ _ h => by cases h; rfl) rfl rfl rfl (zlt_b rfl) (ws' := (([(a0, .inr (5, [.int 0, .int 0, .int 0, .int 0, .int (8 : Int32), .int (8 : Int32), .int (3 : Int32), .int 0, .ref q1, .ref q2, .ref q3]))] : va_W) ++ ([(q1, .inl (gI g, 40, .inl (fun _ => 0)))] : va_W) ++ ([(q2, .inl (gI g, 20, .inl (fun _ => 0)))] : va_W) ++ ([(q3, .inl (gI g, 9, .inl (fun _ => 0)))] : va_W))) rfl ?_
  refine z_aload_n (pc := 45) (x := a0) C dX5_init_45 (i := 0) rfl rfl ?_
  refine z_get (pc := 46) (v := .ref q3) C 0 dX5_init_46 fl_RX5_28 rfl rfl ?_
  refine z_bipush (pc := 49) C dX5_init_49 bp_99 ?_
  refine z_callS (pc := 51) (As := [.ref q3, .int (99 : Int32)]) (rest := []) (wr := (([(a0, .inr (5, [.int 0, .int 0, .int 0, .int 0, .int (8 : Int32), .int (8 : Int32), .int (3 : Int32), .int 0, .ref q1, .ref q2, .ref q3]))] : va_W) ++ ([(q1, .inl (gI g, 40, .inl (fun _ => 0)))] : va_W) ++ ([(q2, .inl (gI g, 20, .inl (fun _ => 0)))] : va_W))) C dX5_init_51 ml_RX5_31 wt_J7_fill_53178 (m_J7_fill_53178 (a0 := q3) hg hx) [3] [0, 1, 2] rfl rfl ⟨by decide, by decide⟩ (Nat.le_of_ble_eq_true rfl) ⟨by decide, by decide⟩ rfl rfl rfl rfl (by decide) (ex_k C (cs' := 3) (ss' := 69) (wF := (([(a0, .inr (5, [.int 0, .int 0, .int 0, .int 0, .int (8 : Int32), .int (8 : Int32), .int (3 : Int32), .int 0, .ref q1, .ref q2, .ref q3]))] : va_W) ++ ([(q1, .inl (gI g, 40, .inl (fun _ => 0)))] : va_W) ++ ([(q2, .inl (gI g, 20, .inl (fun _ => 0)))] : va_W) ++ ([(q3, .inl (gI g, 9, .inl x))] : va_W))) [0, 1, 2, 3] rfl rfl ?_)
  exact z_vret C X dX5_init_54 ⟨rfl, (fun k => if k = 8 then q1 else if k = 9 then q2 else if k = 10 then q3 else 0), rfl⟩ (by decide) (by decide)
theorem m_X0_init {g : Gp} {a0 a1 : Nat} (hg : Ok g) : Ct g yX0_init cX0_init 2 none (zrc 1 0 0 13) [.ref a0, .ref a1] (([(a0, .inr (0, [.int 0, .int 0, .int 0, .int 0, .null, .int 0]))] : va_W)) (fun rv w' => rv = none ∧ ∃ r : Nat → Nat, w' = wX0 g a0 r a1 z0) := by
  refine ct_ofI rfl rfl hg (by show _ ≤ _; exact Nat.le_of_ble_eq_true rfl) (fun K C I X => ?_)
  show Zs K 0 0 (([(a0, .inr (0, [.int 0, .int 0, .int 0, .int 0, .null, .int 0]))] : va_W)) [(0, .ref a0), (1, .ref a1)] 0 []
  refine z_aload_n (pc := 0) (x := a0) C dX0_init_0 (i := 0) rfl rfl ?_
  refine z_oinit (pc := 1) C dX0_init_1 wo_RX0_3 (by decide) (Nat.le_of_ble_eq_true rfl) ?_
  refine z_aload_n (pc := 4) (x := a0) C dX0_init_4 (i := 0) rfl rfl ?_
  refine z_aload_n (pc := 5) (x := a1) C dX0_init_5 (i := 1) rfl rfl ?_
  refine z_putf (pc := 6) C I 0 dX0_init_6 fp_RX0_9 (fun _ _ _ h => by cases h; rfl) rfl rfl rfl (zlt_b rfl) (ws' := (([(a0, .inr (0, [.int 0, .int 0, .int 0, .int 0, .ref a1, .int 0]))] : va_W))) rfl ?_
  exact z_vret C X dX0_init_9 ⟨rfl, (fun _ => 0), rfl⟩ (by decide) (by decide)
theorem m_X1_init {g : Gp} {a0 a1 : Nat} (hg : Ok g) : Ct g yX1_init cX1_init 2 none (zrc 1 8 224 13) [.ref a0, .ref a1] (([(a0, .inr (1, [.null, .int 0, .int 0, .int 0, .int 0, .int 0, .int 0, .null, .long 0, .null, .null, .null, .null, .null, .null, .null]))] : va_W)) (fun rv w' => rv = none ∧ ∃ r : Nat → Nat, w' = wX1 g a0 r a1 z0) := by
  refine ct_ofI rfl rfl hg (by show _ ≤ _; exact Nat.le_of_ble_eq_true rfl) (fun K C I X => ?_)
  show Zs K 0 0 (([(a0, .inr (1, [.null, .int 0, .int 0, .int 0, .int 0, .int 0, .int 0, .null, .long 0, .null, .null, .null, .null, .null, .null, .null]))] : va_W)) [(0, .ref a0), (1, .ref a1)] 0 []
  refine z_aload_n (pc := 0) (x := a0) C dX1_init_0 (i := 0) rfl rfl ?_
  refine z_oinit (pc := 1) C dX1_init_1 wo_RX1_3 (by decide) (Nat.le_of_ble_eq_true rfl) ?_
  refine z_aload_n (pc := 4) (x := a0) C dX1_init_4 (i := 0) rfl rfl ?_
  refine z_bipush (pc := 5) C dX1_init_5 bp_7 ?_
  refine z_newI (pc := 7) (N := 7) C dX1_init_7 wac_int (by decide) (by decide) (by decide) (by decide) (by decide) (fun q1 => ?_)
  refine z_putf (pc := 9) C I 0 dX1_init_9 fp_RX1_11 (fun _ _ _ h => by cases h; rfl) rfl rfl rfl (zlt_b rfl) (ws' := (([(a0, .inr (1, [.null, .int 0, .int 0, .int 0, .int 0, .int 0, .int 0, .ref q1, .long 0, .null, .null, .null, .null, .null, .null, .null]))] : va_W) ++ ([(q1, .inl (gI g, 7, .inl (fun _ => 0)))] : va_W))) rfl ?_
  refine z_aload_n (pc := 12) (x := a0) C dX1_init_12 (i := 0) rfl rfl ?_
  refine z_bipush (pc := 13) C dX1_init_13 bp_20 ?_
  refine z_newI (pc := 15) (N := 20) C dX1_init_15 wac_int (by decide) (by decide) (by decide) (by decide) (by decide) (fun q2 => ?_)
  refine z_putf (pc := 17) C I 0 dX1_init_17 fp_RX1_15 (fun _ _ _ h => by cases h; rfl) rfl rfl rfl (zlt_b rfl) (ws' := (([(a0, .inr (1, [.null, .int 0, .int 0, .int 0, .int 0, .int 0, .int 0, .ref q1, .long 0, .ref q2, .null, .null, .null, .null, .null, .null]))] : va_W) ++ ([(q1, .inl (gI g, 7, .inl (fun _ => 0)))] : va_W) ++ ([(q2, .inl (gI g, 20, .inl (fun _ => 0)))] : va_W))) rfl ?_
  refine z_aload_n (pc := 20) (x := a0) C dX1_init_20 (i := 0) rfl rfl ?_
  refine z_iconst (pc := 21) C dX1_init_21 ic_4 ?_
  refine z_newI (pc := 22) (N := 4) C dX1_init_22 wac_int (by decide) (by decide) (by decide) (by decide) (by decide) (fun q3 => ?_)
  refine z_putf (pc := 24) C I 0 dX1_init_24 fp_RX1_18 (fun _ _ _ h => by cases h; rfl) rfl rfl rfl (zlt_b rfl) (ws' := (([(a0, .inr (1, [.null, .int 0, .int 0, .int 0, .int 0, .int 0, .int 0, .ref q1, .long 0, .ref q2, .ref q3, .null, .null, .null, .null, .null]))] : va_W) ++ ([(q1, .inl (gI g, 7, .inl (fun _ => 0)))] : va_W) ++ ([(q2, .inl (gI g, 20, .inl (fun _ => 0)))] : va_W) ++ ([(q3, .inl (gI g, 4, .inl (fun _ => 0)))] : va_W))) rfl ?_
  refine z_aload_n (pc := 27) (x := a0) C dX1_init_27 (i := 0) rfl rfl ?_
  refine z_iconst (pc := 28) C dX1_init_28 ic_4 ?_
  refine z_newI (pc := 29) (N := 4) C dX1_init_29 wac_int (by decide) (by decide) (by decide) (by decide) (by decide) (fun q4 => ?_)
  refine z_putf (pc := 31) C I 0 dX1_init_31 fp_RX1_21 (fun _ _ _ h => by cases h; rfl) rfl rfl rfl (zlt_b rfl) (ws' := (([(a0, .inr (1, [.null, .int 0, .int 0, .int 0, .int 0, .int 0, .int 0, .ref q1, .long 0, .ref q2, .ref q3, .ref q4, .null, .null, .null, .null]))] : va_W) ++ ([(q1, .inl (gI g, 7, .inl (fun _ => 0)))] : va_W) ++ ([(q2, .inl (gI g, 20, .inl (fun _ => 0)))] : va_W) ++ ([(q3, .inl (gI g, 4, .inl (fun _ => 0)))] : va_W) ++ ([(q4, .inl (gI g, 4, .inl (fun _ => 0)))] : va_W))) rfl ?_
  refine z_aload_n (pc := 34) (x := a0) C dX1_init_34 (i := 0) rfl rfl ?_
  refine z_bipush (pc := 35) C dX1_init_35 bp_20 ?_
  refine z_newI (pc := 37) (N := 20) C dX1_init_37 wac_int (by decide) (by decide) (by decide) (by decide) (by decide) (fun q5 => ?_)
  refine z_putf (pc := 39) C I 0 dX1_init_39 fp_RX1_24 (fun _ _ _ h => by cases h; rfl) rfl rfl rfl (zlt_b rfl) (ws' := (([(a0, .inr (1, [.null, .int 0, .int 0, .int 0, .int 0, .int 0, .int 0, .ref q1, .long 0, .ref q2, .ref q3, .ref q4, .ref q5, .null, .null, .null]))] : va_W) ++ ([(q1, .inl (gI g, 7, .inl (fun _ => 0)))] : va_W) ++ ([(q2, .inl (gI g, 20, .inl (fun _ => 0)))] : va_W) ++ ([(q3, .inl (gI g, 4, .inl (fun _ => 0)))] : va_W) ++ ([(q4, .inl (gI g, 4, .inl (fun _ => 0)))] : va_W) ++ ([(q5, .inl (gI g, 20, .inl (fun _ => 0)))] : va_W))) rfl ?_
  refine z_aload_n (pc := 42) (x := a0) C dX1_init_42 (i := 0) rfl rfl ?_
  refine z_bipush (pc := 43) C dX1_init_43 bp_9 ?_
  refine z_newI (pc := 45) (N := 9) C dX1_init_45 wac_int (by decide) (by decide) (by decide) (by decide) (by decide) (fun q6 => ?_)
  refine z_putf (pc := 47) C I 0 dX1_init_47 fp_RX1_29 (fun _ _ _ h => by cases h; rfl) rfl rfl rfl (zlt_b rfl) (ws' := (([(a0, .inr (1, [.null, .int 0, .int 0, .int 0, .int 0, .int 0, .int 0, .ref q1, .long 0, .ref q2, .ref q3, .ref q4, .ref q5, .ref q6, .null, .null]))] : va_W) ++ ([(q1, .inl (gI g, 7, .inl (fun _ => 0)))] : va_W) ++ ([(q2, .inl (gI g, 20, .inl (fun _ => 0)))] : va_W) ++ ([(q3, .inl (gI g, 4, .inl (fun _ => 0)))] : va_W) ++ ([(q4, .inl (gI g, 4, .inl (fun _ => 0)))] : va_W) ++ ([(q5, .inl (gI g, 20, .inl (fun _ => 0)))] : va_W) ++ ([(q6, .inl (gI g, 9, .inl (fun _ => 0)))] : va_W))) rfl ?_
  refine z_aload_n (pc := 50) (x := a0) C dX1_init_50 (i := 0) rfl rfl ?_
  refine z_bipush (pc := 51) C dX1_init_51 bp_40 ?_
  refine z_newI (pc := 53) (N := 40) C dX1_init_53 wac_int (by decide) (by decide) (by decide) (by decide) (by decide) (fun q7 => ?_)
  refine z_putf (pc := 55) C I 0 dX1_init_55 fp_RX1_32 (fun _ _ _ h => by cases h; rfl) rfl rfl rfl (zlt_b rfl) (ws' := (([(a0, .inr (1, [.null, .int 0, .int 0, .int 0, .int 0, .int 0, .int 0, .ref q1, .long 0, .ref q2, .ref q3, .ref q4, .ref q5, .ref q6, .ref q7, .null]))] : va_W) ++ ([(q1, .inl (gI g, 7, .inl (fun _ => 0)))] : va_W) ++ ([(q2, .inl (gI g, 20, .inl (fun _ => 0)))] : va_W) ++ ([(q3, .inl (gI g, 4, .inl (fun _ => 0)))] : va_W) ++ ([(q4, .inl (gI g, 4, .inl (fun _ => 0)))] : va_W) ++ ([(q5, .inl (gI g, 20, .inl (fun _ => 0)))] : va_W) ++ ([(q6, .inl (gI g, 9, .inl (fun _ => 0)))] : va_W) ++ ([(q7, .inl (gI g, 40, .inl (fun _ => 0)))] : va_W))) rfl ?_
  refine z_aload_n (pc := 58) (x := a0) C dX1_init_58 (i := 0) rfl rfl ?_
  refine z_bipush (pc := 59) C dX1_init_59 bp_120 ?_
  refine z_newI (pc := 61) (N := 120) C dX1_init_61 wac_int (by decide) (by decide) (by decide) (by decide) (by decide) (fun q8 => ?_)
  refine z_putf (pc := 63) C I 0 dX1_init_63 fp_RX1_35 (fun _ _ _ h => by cases h; rfl) rfl rfl rfl (zlt_b rfl) (ws' := (([(a0, .inr (1, [.null, .int 0, .int 0, .int 0, .int 0, .int 0, .int 0, .ref q1, .long 0, .ref q2, .ref q3, .ref q4, .ref q5, .ref q6, .ref q7, .ref q8]))] : va_W) ++ ([(q1, .inl (gI g, 7, .inl (fun _ => 0)))] : va_W) ++ ([(q2, .inl (gI g, 20, .inl (fun _ => 0)))] : va_W) ++ ([(q3, .inl (gI g, 4, .inl (fun _ => 0)))] : va_W) ++ ([(q4, .inl (gI g, 4, .inl (fun _ => 0)))] : va_W) ++ ([(q5, .inl (gI g, 20, .inl (fun _ => 0)))] : va_W) ++ ([(q6, .inl (gI g, 9, .inl (fun _ => 0)))] : va_W) ++ ([(q7, .inl (gI g, 40, .inl (fun _ => 0)))] : va_W) ++ ([(q8, .inl (gI g, 120, .inl (fun _ => 0)))] : va_W))) rfl ?_
  refine z_aload_n (pc := 66) (x := a0) C dX1_init_66 (i := 0) rfl rfl ?_
  refine z_aload_n (pc := 67) (x := a1) C dX1_init_67 (i := 1) rfl rfl ?_
  refine z_put (pc := 68) C 0 dX1_init_68 fp_RX1_38 rfl rfl rfl (zlt_b rfl) (ws' := (([(a0, .inr (1, [.ref a1, .int 0, .int 0, .int 0, .int 0, .int 0, .int 0, .ref q1, .long 0, .ref q2, .ref q3, .ref q4, .ref q5, .ref q6, .ref q7, .ref q8]))] : va_W) ++ ([(q1, .inl (gI g, 7, .inl (fun _ => 0)))] : va_W) ++ ([(q2, .inl (gI g, 20, .inl (fun _ => 0)))] : va_W) ++ ([(q3, .inl (gI g, 4, .inl (fun _ => 0)))] : va_W) ++ ([(q4, .inl (gI g, 4, .inl (fun _ => 0)))] : va_W) ++ ([(q5, .inl (gI g, 20, .inl (fun _ => 0)))] : va_W) ++ ([(q6, .inl (gI g, 9, .inl (fun _ => 0)))] : va_W) ++ ([(q7, .inl (gI g, 40, .inl (fun _ => 0)))] : va_W) ++ ([(q8, .inl (gI g, 120, .inl (fun _ => 0)))] : va_W))) rfl ?_
  exact z_vret C X dX1_init_71 ⟨rfl, (fun k => if k = 0 then a1 else if k = 7 then q1 else if k = 9 then q2 else if k = 10 then q3 else if k = 11 then q4 else if k = 12 then q5 else if k = 13 then q6 else if k = 14 then q7 else if k = 15 then q8 else 0), rfl⟩ (by decide) (by decide)
theorem m_X2_init {g : Gp} {a0 : Nat} (hg : Ok g) : Ct g yX2_init cX2_init 1 none (zrc 1 1 20 13) [.ref a0] (([(a0, .inr (2, [.null]))] : va_W)) (fun rv w' => rv = none ∧ ∃ r : Nat → Nat, w' = wX2 g a0 r z0) := by
  refine ct_ofI rfl rfl hg (by show _ ≤ _; exact Nat.le_of_ble_eq_true rfl) (fun K C I X => ?_)
  show Zs K 0 0 (([(a0, .inr (2, [.null]))] : va_W)) [(0, .ref a0)] 0 []
  refine z_aload_n (pc := 0) (x := a0) C dX2_init_0 (i := 0) rfl rfl ?_
  refine z_oinit (pc := 1) C dX2_init_1 wo_RX2_3 (by decide) (Nat.le_of_ble_eq_true rfl) ?_
  refine z_aload_n (pc := 4) (x := a0) C dX2_init_4 (i := 0) rfl rfl ?_
  refine z_bipush (pc := 5) C dX2_init_5 bp_20 ?_
  refine z_newI (pc := 7) (N := 20) C dX2_init_7 wac_int (by decide) (by decide) (by decide) (by decide) (by decide) (fun q1 => ?_)
  refine z_putf (pc := 9) C I 0 dX2_init_9 fp_RX2_9 (fun _ _ _ h => by cases h; rfl) rfl rfl rfl (zlt_b rfl) (ws' := (([(a0, .inr (2, [.ref q1]))] : va_W) ++ ([(q1, .inl (gI g, 20, .inl (fun _ => 0)))] : va_W))) rfl ?_
  exact z_vret C X dX2_init_12 ⟨rfl, (fun k => if k = 0 then q1 else 0), rfl⟩ (by decide) (by decide)
theorem m_X3_init {g : Gp} {a0 a1 : Nat} (hg : Ok g) : Ct g yX3_init cX3_init 2 none (zrc 1 2 8 13) [.ref a0, .ref a1] (([(a0, .inr (3, [.null, .null, .null, .int 0, .int 0, .int 0, .int 0]))] : va_W)) (fun rv w' => rv = none ∧ ∃ r : Nat → Nat, w' = wX3 g a0 r a1 z0) := by
  refine ct_ofI rfl rfl hg (by show _ ≤ _; exact Nat.le_of_ble_eq_true rfl) (fun K C I X => ?_)
  show Zs K 0 0 (([(a0, .inr (3, [.null, .null, .null, .int 0, .int 0, .int 0, .int 0]))] : va_W)) [(0, .ref a0), (1, .ref a1)] 0 []
  refine z_aload_n (pc := 0) (x := a0) C dX3_init_0 (i := 0) rfl rfl ?_
  refine z_oinit (pc := 1) C dX3_init_1 wo_RX3_3 (by decide) (Nat.le_of_ble_eq_true rfl) ?_
  refine z_aload_n (pc := 4) (x := a0) C dX3_init_4 (i := 0) rfl rfl ?_
  refine z_iconst (pc := 5) C dX3_init_5 ic_4 ?_
  refine z_newJ (pc := 6) (N := 4) C dX3_init_6 wac_long (by decide) (by decide) (by decide) (by decide) (by decide) (fun q1 => ?_)
  refine z_putf (pc := 8) C I 0 dX3_init_8 fp_RX3_9 (fun _ _ _ h => by cases h; rfl) rfl rfl rfl (zlt_b rfl) (ws' := (([(a0, .inr (3, [.null, .ref q1, .null, .int 0, .int 0, .int 0, .int 0]))] : va_W) ++ ([(q1, .inl (gJ g, 4, .inr (.inl (fun _ => 0))))] : va_W))) rfl ?_
  refine z_aload_n (pc := 11) (x := a0) C dX3_init_11 (i := 0) rfl rfl ?_
  refine z_iconst (pc := 12) C dX3_init_12 ic_4 ?_
  refine z_newI (pc := 13) (N := 4) C dX3_init_13 wac_int (by decide) (by decide) (by decide) (by decide) (by decide) (fun q2 => ?_)
  refine z_putf (pc := 15) C I 0 dX3_init_15 fp_RX3_15 (fun _ _ _ h => by cases h; rfl) rfl rfl rfl (zlt_b rfl) (ws' := (([(a0, .inr (3, [.null, .ref q1, .ref q2, .int 0, .int 0, .int 0, .int 0]))] : va_W) ++ ([(q1, .inl (gJ g, 4, .inr (.inl (fun _ => 0))))] : va_W) ++ ([(q2, .inl (gI g, 4, .inl (fun _ => 0)))] : va_W))) rfl ?_
  refine z_aload_n (pc := 18) (x := a0) C dX3_init_18 (i := 0) rfl rfl ?_
  refine z_aload_n (pc := 19) (x := a1) C dX3_init_19 (i := 1) rfl rfl ?_
  refine z_put (pc := 20) C 0 dX3_init_20 fp_RX3_19 rfl rfl rfl (zlt_b rfl) (ws' := (([(a0, .inr (3, [.ref a1, .ref q1, .ref q2, .int 0, .int 0, .int 0, .int 0]))] : va_W) ++ ([(q1, .inl (gJ g, 4, .inr (.inl (fun _ => 0))))] : va_W) ++ ([(q2, .inl (gI g, 4, .inl (fun _ => 0)))] : va_W))) rfl ?_
  exact z_vret C X dX3_init_23 ⟨rfl, (fun k => if k = 0 then a1 else if k = 1 then q1 else if k = 2 then q2 else 0), rfl⟩ (by decide) (by decide)
theorem m_X4_init {g : Gp} {N : Nat} {x : Nat → Int32} {a0 a1 : Nat} (hg : Ok g) (hx : f_J7_fill_53178 N 9 (fun _ => 0) 99 = some x) : Ct g yX4_init cX4_init 2 none (zrc 2 4 80 43) [.ref a0, .ref a1] (([(a0, .inr (4, [.null, .int 0, .int 0, .int 0, .null, .int 0, .int 0, .int 0, .int 0]))] : va_W)) (fun rv w' => rv = none ∧ ∃ (r : Nat → Nat) (q : Nat) (r5 : Nat → Nat), w' = wX4 g a0 r q a1 iX4 ++ wX5 g q r5 (iX5 x)) := by
  refine ct_ofI rfl rfl hg (by show _ ≤ _; exact Nat.le_of_ble_eq_true rfl) (fun K C I X => ?_)
  show Zs K 0 0 (([(a0, .inr (4, [.null, .int 0, .int 0, .int 0, .null, .int 0, .int 0, .int 0, .int 0]))] : va_W)) [(0, .ref a0), (1, .ref a1)] 0 []
  refine z_aload_n (pc := 0) (x := a0) C dX4_init_0 (i := 0) rfl rfl ?_
  refine z_oinit (pc := 1) C dX4_init_1 wo_RX4_3 (by decide) (Nat.le_of_ble_eq_true rfl) ?_
  refine z_aload_n (pc := 4) (x := a0) C dX4_init_4 (i := 0) rfl rfl ?_
  refine z_new (pc := 5) C dX4_init_5 (ci := 5) rfl inG5 tyX5_ok wn_RX4_9 (fs := [.int 0, .int 0, .int 0, .int 0, .int 0, .int 0, .int 0, .int 0, .null, .null, .null]) (by decide) (by decide) (by decide) (fun q1 => ?_)
  refine z_dup (pc := 8) C dX4_init_8 rfl ?_
  refine z_callI (pc := 9) (As := []) (rest := [.ref q1, .ref a0]) (wr := (([(a0, .inr (4, [.null, .int 0, .int 0, .int 0, .null, .int 0, .int 0, .int 0, .int 0]))] : va_W))) C dX4_init_9 ml_RX4_11 wi_X5_init (m_X5_init (x := x) hg hx) [1] [0] rfl rfl ⟨by decide, by decide⟩ (Nat.le_of_ble_eq_true rfl) ⟨by decide, by decide⟩ rfl rfl rfl rfl (by decide) (fun rv w' hr => ?_)
  obtain ⟨rfl, r2, rfl⟩ := hr
  refine z_to (ws' := (([(a0, .inr (4, [.null, .int 0, .int 0, .int 0, .null, .int 0, .int 0, .int 0, .int 0]))] : va_W) ++ (wX5 g q1 r2 (iX5 x)))) (lv' := [(0, .ref a0), (1, .ref a1)]) (pc' := 12) (st' := [.ref q1, .ref a0]) (z_widen (cs' := 4) (ss' := 80) (by decide) (by decide) ?_) rfl rfl rfl rfl
  refine z_put (pc := 12) C 0 dX4_init_12 fp_RX4_12 rfl rfl rfl (zlt_b rfl) (ws' := (([(a0, .inr (4, [.ref q1, .int 0, .int 0, .int 0, .null, .int 0, .int 0, .int 0, .int 0]))] : va_W) ++ (wX5 g q1 r2 (iX5 x)))) rfl ?_
  refine z_aload_n (pc := 15) (x := a0) C dX4_init_15 (i := 0) rfl rfl ?_
  refine z_iconst (pc := 16) C dX4_init_16 ic_m1 ?_
  refine z_put (pc := 17) C 0 dX4_init_17 fp_RX4_18 rfl rfl rfl (zlt_b rfl) (ws' := (([(a0, .inr (4, [.ref q1, .int 0, .int 0, .int (-1 : Int32), .null, .int 0, .int 0, .int 0, .int 0]))] : va_W) ++ (wX5 g q1 r2 (iX5 x)))) rfl ?_
  refine z_aload_n (pc := 20) (x := a0) C dX4_init_20 (i := 0) rfl rfl ?_
  refine z_aload_n (pc := 21) (x := a1) C dX4_init_21 (i := 1) rfl rfl ?_
  refine z_putf (pc := 22) C I 0 dX4_init_22 fp_RX4_22 (fun _ _ _ h => by cases h; rfl) rfl rfl rfl (zlt_b rfl) (ws' := (([(a0, .inr (4, [.ref q1, .int 0, .int 0, .int (-1 : Int32), .ref a1, .int 0, .int 0, .int 0, .int 0]))] : va_W) ++ (wX5 g q1 r2 (iX5 x)))) rfl ?_
  exact z_vret C X dX4_init_25 ⟨rfl, (fun _ => 0), q1, r2, rfl⟩ (by decide) (by decide)
theorem m_X6_init {g : Gp} {N : Nat} {x : Nat → Int32} {a0 : Nat} (hg : Ok g) (hx : f_J7_fill_53178 N 9 (fun _ => 0) 99 = some x) : Ct g yX6_init cX6_init 2 none (zrc 2 13 28302 43) [.ref a0] (([(a0, .inr (6, [.int 0, .int 0, .int 0, .int 0, .int 0, .null, .null, .null, .null, .null]))] : va_W)) (fun rv w' => rv = none ∧ ∃ (r : Nat → Nat) (q : Nat) (r5 : Nat → Nat) (r8 : Nat → Nat) (r9 : Nat → Nat), w' = wX6 g a0 r z0 ++ wX5 g q r5 (iX5 x) ++ wX3 g (r 8) r8 q z0 ++ wX3 g (r 9) r9 q z0) := by
  refine ct_ofI rfl rfl hg (by show _ ≤ _; exact Nat.le_of_ble_eq_true rfl) (fun K C I X => ?_)
  show Zs K 0 0 (([(a0, .inr (6, [.int 0, .int 0, .int 0, .int 0, .int 0, .null, .null, .null, .null, .null]))] : va_W)) [(0, .ref a0)] 0 []
  refine z_aload_n (pc := 0) (x := a0) C dX6_init_0 (i := 0) rfl rfl ?_
  refine z_oinit (pc := 1) C dX6_init_1 wo_RX6_5 (by decide) (Nat.le_of_ble_eq_true rfl) ?_
  refine z_aload_n (pc := 4) (x := a0) C dX6_init_4 (i := 0) rfl rfl ?_
  refine z_sipush (pc := 5) C dX6_init_5 sp_16000 ?_
  refine z_newJ (pc := 8) (N := 16000) C dX6_init_8 wac_long (by decide) (by decide) (by decide) (by decide) (by decide) (fun q1 => ?_)
  refine z_putf (pc := 10) C I 0 dX6_init_10 fp_RX6_11 (fun _ _ _ h => by cases h; rfl) rfl rfl rfl (zlt_b rfl) (ws' := (([(a0, .inr (6, [.int 0, .int 0, .int 0, .int 0, .int 0, .ref q1, .null, .null, .null, .null]))] : va_W) ++ ([(q1, .inl (gJ g, 16000, .inr (.inl (fun _ => 0))))] : va_W))) rfl ?_
  refine z_aload_n (pc := 13) (x := a0) C dX6_init_13 (i := 0) rfl rfl ?_
  refine z_sipush (pc := 14) C dX6_init_14 sp_4000 ?_
  refine z_newI (pc := 17) (N := 4000) C dX6_init_17 wac_int (by decide) (by decide) (by decide) (by decide) (by decide) (fun q2 => ?_)
  refine z_putf (pc := 19) C I 0 dX6_init_19 fp_RX6_15 (fun _ _ _ h => by cases h; rfl) rfl rfl rfl (zlt_b rfl) (ws' := (([(a0, .inr (6, [.int 0, .int 0, .int 0, .int 0, .int 0, .ref q1, .ref q2, .null, .null, .null]))] : va_W) ++ ([(q1, .inl (gJ g, 16000, .inr (.inl (fun _ => 0))))] : va_W) ++ ([(q2, .inl (gI g, 4000, .inl (fun _ => 0)))] : va_W))) rfl ?_
  refine z_aload_n (pc := 22) (x := a0) C dX6_init_22 (i := 0) rfl rfl ?_
  refine z_sipush (pc := 23) C dX6_init_23 sp_8192 ?_
  refine z_newI (pc := 26) (N := 8192) C dX6_init_26 wac_int (by decide) (by decide) (by decide) (by decide) (by decide) (fun q3 => ?_)
  refine z_putf (pc := 28) C I 0 dX6_init_28 fp_RX6_19 (fun _ _ _ h => by cases h; rfl) rfl rfl rfl (zlt_b rfl) (ws' := (([(a0, .inr (6, [.int 0, .int 0, .int 0, .int 0, .int 0, .ref q1, .ref q2, .ref q3, .null, .null]))] : va_W) ++ ([(q1, .inl (gJ g, 16000, .inr (.inl (fun _ => 0))))] : va_W) ++ ([(q2, .inl (gI g, 4000, .inl (fun _ => 0)))] : va_W) ++ ([(q3, .inl (gI g, 8192, .inl (fun _ => 0)))] : va_W))) rfl ?_
  refine z_new (pc := 31) C dX6_init_31 (ci := 5) rfl inG5 tyX5_ok wn_RX6_22 (fs := [.int 0, .int 0, .int 0, .int 0, .int 0, .int 0, .int 0, .int 0, .null, .null, .null]) (by decide) (by decide) (by decide) (fun q4 => ?_)
  refine z_dup (pc := 34) C dX6_init_34 rfl ?_
  refine z_callI (pc := 35) (As := []) (rest := [.ref q4]) (wr := (([(a0, .inr (6, [.int 0, .int 0, .int 0, .int 0, .int 0, .ref q1, .ref q2, .ref q3, .null, .null]))] : va_W) ++ ([(q1, .inl (gJ g, 16000, .inr (.inl (fun _ => 0))))] : va_W) ++ ([(q2, .inl (gI g, 4000, .inl (fun _ => 0)))] : va_W) ++ ([(q3, .inl (gI g, 8192, .inl (fun _ => 0)))] : va_W))) C dX6_init_35 ml_RX6_24 wi_X5_init (m_X5_init (x := x) hg hx) [4] [0, 1, 2, 3] rfl rfl ⟨by decide, by decide⟩ (Nat.le_of_ble_eq_true rfl) ⟨by decide, by decide⟩ rfl rfl rfl rfl (by decide) (fun rv w' hr => ?_)
  obtain ⟨rfl, r5, rfl⟩ := hr
  refine z_to (ws' := (([(a0, .inr (6, [.int 0, .int 0, .int 0, .int 0, .int 0, .ref q1, .ref q2, .ref q3, .null, .null]))] : va_W) ++ ([(q1, .inl (gJ g, 16000, .inr (.inl (fun _ => 0))))] : va_W) ++ ([(q2, .inl (gI g, 4000, .inl (fun _ => 0)))] : va_W) ++ ([(q3, .inl (gI g, 8192, .inl (fun _ => 0)))] : va_W) ++ (wX5 g q4 r5 (iX5 x)))) (lv' := [(0, .ref a0)]) (pc' := 38) (st' := [.ref q4]) (z_widen (cs' := 7) (ss' := 28272) (by decide) (by decide) ?_) rfl rfl rfl rfl
  refine z_astore_n (pc := 38) C dX6_init_38 (i := 1) rfl (by decide) (lv' := [(1, .ref q4), (0, .ref a0)]) rfl ?_
  refine z_aload_n (pc := 39) (x := a0) C dX6_init_39 (i := 0) rfl rfl ?_
  refine z_new (pc := 40) C dX6_init_40 (ci := 3) rfl inG3 tyX3_ok wn_RX6_25 (fs := [.null, .null, .null, .int 0, .int 0, .int 0, .int 0]) (by decide) (by decide) (by decide) (fun q6 => ?_)
  refine z_dup (pc := 43) C dX6_init_43 rfl ?_
  refine z_aload_n (pc := 44) (x := q4) C dX6_init_44 (i := 1) rfl rfl ?_
  refine z_callI (pc := 45) (As := [.ref q4]) (rest := [.ref q6, .ref a0]) (wr := (([(a0, .inr (6, [.int 0, .int 0, .int 0, .int 0, .int 0, .ref q1, .ref q2, .ref q3, .null, .null]))] : va_W) ++ ([(q1, .inl (gJ g, 16000, .inr (.inl (fun _ => 0))))] : va_W) ++ ([(q2, .inl (gI g, 4000, .inl (fun _ => 0)))] : va_W) ++ ([(q3, .inl (gI g, 8192, .inl (fun _ => 0)))] : va_W) ++ (wX5 g q4 r5 (iX5 x)))) C dX6_init_45 ml_RX6_27 wi_X3_init (m_X3_init hg) [8] [0, 1, 2, 3, 4, 5, 6, 7] rfl rfl ⟨by decide, by decide⟩ (Nat.le_of_ble_eq_true rfl) ⟨by decide, by decide⟩ rfl rfl rfl rfl (by decide) (fun rv w' hr => ?_)
  obtain ⟨rfl, r7, rfl⟩ := hr
  refine z_to (ws' := (([(a0, .inr (6, [.int 0, .int 0, .int 0, .int 0, .int 0, .ref q1, .ref q2, .ref q3, .null, .null]))] : va_W) ++ ([(q1, .inl (gJ g, 16000, .inr (.inl (fun _ => 0))))] : va_W) ++ ([(q2, .inl (gI g, 4000, .inl (fun _ => 0)))] : va_W) ++ ([(q3, .inl (gI g, 8192, .inl (fun _ => 0)))] : va_W) ++ (wX5 g q4 r5 (iX5 x)) ++ (wX3 g q6 r7 q4 z0))) (lv' := [(1, .ref q4), (0, .ref a0)]) (pc' := 48) (st' := [.ref q6, .ref a0]) (z_widen (cs' := 10) (ss' := 28287) (by decide) (by decide) ?_) rfl rfl rfl rfl
  refine z_putf (pc := 48) C I 0 dX6_init_48 fp_RX6_30 (fun _ _ _ h => by cases h; rfl) rfl rfl rfl (zlt_b rfl) (ws' := (([(a0, .inr (6, [.int 0, .int 0, .int 0, .int 0, .int 0, .ref q1, .ref q2, .ref q3, .ref q6, .null]))] : va_W) ++ ([(q1, .inl (gJ g, 16000, .inr (.inl (fun _ => 0))))] : va_W) ++ ([(q2, .inl (gI g, 4000, .inl (fun _ => 0)))] : va_W) ++ ([(q3, .inl (gI g, 8192, .inl (fun _ => 0)))] : va_W) ++ (wX5 g q4 r5 (iX5 x)) ++ (wX3 g q6 r7 q4 z0))) rfl ?_
  refine z_aload_n (pc := 51) (x := a0) C dX6_init_51 (i := 0) rfl rfl ?_
  refine z_new (pc := 52) C dX6_init_52 (ci := 3) rfl inG3 tyX3_ok wn_RX6_25 (fs := [.null, .null, .null, .int 0, .int 0, .int 0, .int 0]) (by decide) (by decide) (by decide) (fun q8 => ?_)
  refine z_dup (pc := 55) C dX6_init_55 rfl ?_
  refine z_aload_n (pc := 56) (x := q4) C dX6_init_56 (i := 1) rfl rfl ?_
  refine z_callI (pc := 57) (As := [.ref q4]) (rest := [.ref q8, .ref a0]) (wr := (([(a0, .inr (6, [.int 0, .int 0, .int 0, .int 0, .int 0, .ref q1, .ref q2, .ref q3, .ref q6, .null]))] : va_W) ++ ([(q1, .inl (gJ g, 16000, .inr (.inl (fun _ => 0))))] : va_W) ++ ([(q2, .inl (gI g, 4000, .inl (fun _ => 0)))] : va_W) ++ ([(q3, .inl (gI g, 8192, .inl (fun _ => 0)))] : va_W) ++ (wX5 g q4 r5 (iX5 x)) ++ (wX3 g q6 r7 q4 z0))) C dX6_init_57 ml_RX6_27 wi_X3_init (m_X3_init hg) [11] [0, 1, 2, 3, 4, 5, 6, 7, 8, 9, 10] rfl rfl ⟨by decide, by decide⟩ (Nat.le_of_ble_eq_true rfl) ⟨by decide, by decide⟩ rfl rfl rfl rfl (by decide) (fun rv w' hr => ?_)
  obtain ⟨rfl, r9, rfl⟩ := hr
  refine z_to (ws' := (([(a0, .inr (6, [.int 0, .int 0, .int 0, .int 0, .int 0, .ref q1, .ref q2, .ref q3, .ref q6, .null]))] : va_W) ++ ([(q1, .inl (gJ g, 16000, .inr (.inl (fun _ => 0))))] : va_W) ++ ([(q2, .inl (gI g, 4000, .inl (fun _ => 0)))] : va_W) ++ ([(q3, .inl (gI g, 8192, .inl (fun _ => 0)))] : va_W) ++ (wX5 g q4 r5 (iX5 x)) ++ (wX3 g q6 r7 q4 z0) ++ (wX3 g q8 r9 q4 z0))) (lv' := [(1, .ref q4), (0, .ref a0)]) (pc' := 60) (st' := [.ref q8, .ref a0]) (z_widen (cs' := 13) (ss' := 28302) (by decide) (by decide) ?_) rfl rfl rfl rfl
  refine z_putf (pc := 60) C I 0 dX6_init_60 fp_RX6_34 (fun _ _ _ h => by cases h; rfl) rfl rfl rfl (zlt_b rfl) (ws' := (([(a0, .inr (6, [.int 0, .int 0, .int 0, .int 0, .int 0, .ref q1, .ref q2, .ref q3, .ref q6, .ref q8]))] : va_W) ++ ([(q1, .inl (gJ g, 16000, .inr (.inl (fun _ => 0))))] : va_W) ++ ([(q2, .inl (gI g, 4000, .inl (fun _ => 0)))] : va_W) ++ ([(q3, .inl (gI g, 8192, .inl (fun _ => 0)))] : va_W) ++ (wX5 g q4 r5 (iX5 x)) ++ (wX3 g q6 r7 q4 z0) ++ (wX3 g q8 r9 q4 z0))) rfl ?_
  exact z_vret C X dX6_init_63 ⟨rfl, (fun k => if k = 5 then q1 else if k = 6 then q2 else if k = 7 then q3 else if k = 8 then q6 else if k = 9 then q8 else 0), q4, r5, r7, r9, rfl⟩ (by decide) (by decide)
def iX8 : Ob := (fun k => if k = 17 then -1 else 0, fun _ => 0, fun k => if k = 0 then upd (fun _ => 0) 12 3 else fun _ => 0, fun _ _ => 0)
theorem m_X8_init {g : Gp} {a0 : Nat} (hg : Ok g) : Ct g yX8_init cX8_init 1 none (zrc 1 14 46068 13) [.ref a0] (([(a0, .inr (8, [.null, .null, .null, .null, .null, .null, .int 0, .int 0, .null, .int 0, .int 0, .int 0, .int 0, .int 0, .int 0, .int 0, .int 0, .int 0, .null, .null, .null, .null, .int 0, .null, .null, .int 0, .int 0, .int 0, .int 0, .null, .int 0]))] : va_W)) (fun rv w' => rv = none ∧ ∃ r : Nat → Nat, w' = wX8 g a0 r iX8) := by
  refine ct_ofI rfl rfl hg (by show _ ≤ _; exact Nat.le_of_ble_eq_true rfl) (fun K C I X => ?_)
  show Zs K 0 0 (([(a0, .inr (8, [.null, .null, .null, .null, .null, .null, .int 0, .int 0, .null, .int 0, .int 0, .int 0, .int 0, .int 0, .int 0, .int 0, .int 0, .int 0, .null, .null, .null, .null, .int 0, .null, .null, .int 0, .int 0, .int 0, .int 0, .null, .int 0]))] : va_W)) [(0, .ref a0)] 0 []
  refine z_aload_n (pc := 0) (x := a0) C dX8_init_0 (i := 0) rfl rfl ?_
  refine z_oinit (pc := 1) C dX8_init_1 wo_RX8_3 (by decide) (Nat.le_of_ble_eq_true rfl) ?_
  refine z_aload_n (pc := 4) (x := a0) C dX8_init_4 (i := 0) rfl rfl ?_
  refine z_sipush (pc := 5) C dX8_init_5 sp_358 ?_
  refine z_newI (pc := 8) (N := 358) C dX8_init_8 wac_int (by decide) (by decide) (by decide) (by decide) (by decide) (fun q1 => ?_)
  refine z_putf (pc := 10) C I 0 dX8_init_10 fp_RX8_9 (fun _ _ _ h => by cases h; rfl) rfl rfl rfl (zlt_b rfl) (ws' := (([(a0, .inr (8, [.ref q1, .null, .null, .null, .null, .null, .int 0, .int 0, .null, .int 0, .int 0, .int 0, .int 0, .int 0, .int 0, .int 0, .int 0, .int 0, .null, .null, .null, .null, .int 0, .null, .null, .int 0, .int 0, .int 0, .int 0, .null, .int 0]))] : va_W) ++ ([(q1, .inl (gI g, 358, .inl (fun _ => 0)))] : va_W))) rfl ?_
  refine z_aload_n (pc := 13) (x := a0) C dX8_init_13 (i := 0) rfl rfl ?_
  refine z_sipush (pc := 14) C dX8_init_14 sp_358 ?_
  refine z_newI (pc := 17) (N := 358) C dX8_init_17 wac_int (by decide) (by decide) (by decide) (by decide) (by decide) (fun q2 => ?_)
  refine z_putf (pc := 19) C I 0 dX8_init_19 fp_RX8_13 (fun _ _ _ h => by cases h; rfl) rfl rfl rfl (zlt_b rfl) (ws' := (([(a0, .inr (8, [.ref q1, .ref q2, .null, .null, .null, .null, .int 0, .int 0, .null, .int 0, .int 0, .int 0, .int 0, .int 0, .int 0, .int 0, .int 0, .int 0, .null, .null, .null, .null, .int 0, .null, .null, .int 0, .int 0, .int 0, .int 0, .null, .int 0]))] : va_W) ++ ([(q1, .inl (gI g, 358, .inl (fun _ => 0)))] : va_W) ++ ([(q2, .inl (gI g, 358, .inl (fun _ => 0)))] : va_W))) rfl ?_
  refine z_aload_n (pc := 22) (x := a0) C dX8_init_22 (i := 0) rfl rfl ?_
  refine z_sipush (pc := 23) C dX8_init_23 sp_358 ?_
  refine z_newI (pc := 26) (N := 358) C dX8_init_26 wac_int (by decide) (by decide) (by decide) (by decide) (by decide) (fun q3 => ?_)
  refine z_putf (pc := 28) C I 0 dX8_init_28 fp_RX8_16 (fun _ _ _ h => by cases h; rfl) rfl rfl rfl (zlt_b rfl) (ws' := (([(a0, .inr (8, [.ref q1, .ref q2, .ref q3, .null, .null, .null, .int 0, .int 0, .null, .int 0, .int 0, .int 0, .int 0, .int 0, .int 0, .int 0, .int 0, .int 0, .null, .null, .null, .null, .int 0, .null, .null, .int 0, .int 0, .int 0, .int 0, .null, .int 0]))] : va_W) ++ ([(q1, .inl (gI g, 358, .inl (fun _ => 0)))] : va_W) ++ ([(q2, .inl (gI g, 358, .inl (fun _ => 0)))] : va_W) ++ ([(q3, .inl (gI g, 358, .inl (fun _ => 0)))] : va_W))) rfl ?_
  refine z_aload_n (pc := 31) (x := a0) C dX8_init_31 (i := 0) rfl rfl ?_
  refine z_sipush (pc := 32) C dX8_init_32 sp_7160 ?_
  refine z_newI (pc := 35) (N := 7160) C dX8_init_35 wac_int (by decide) (by decide) (by decide) (by decide) (by decide) (fun q4 => ?_)
  refine z_putf (pc := 37) C I 0 dX8_init_37 fp_RX8_19 (fun _ _ _ h => by cases h; rfl) rfl rfl rfl (zlt_b rfl) (ws' := (([(a0, .inr (8, [.ref q1, .ref q2, .ref q3, .ref q4, .null, .null, .int 0, .int 0, .null, .int 0, .int 0, .int 0, .int 0, .int 0, .int 0, .int 0, .int 0, .int 0, .null, .null, .null, .null, .int 0, .null, .null, .int 0, .int 0, .int 0, .int 0, .null, .int 0]))] : va_W) ++ ([(q1, .inl (gI g, 358, .inl (fun _ => 0)))] : va_W) ++ ([(q2, .inl (gI g, 358, .inl (fun _ => 0)))] : va_W) ++ ([(q3, .inl (gI g, 358, .inl (fun _ => 0)))] : va_W) ++ ([(q4, .inl (gI g, 7160, .inl (fun _ => 0)))] : va_W))) rfl ?_
  refine z_aload_n (pc := 40) (x := a0) C dX8_init_40 (i := 0) rfl rfl ?_
  refine z_sipush (pc := 41) C dX8_init_41 sp_716 ?_
  refine z_newI (pc := 44) (N := 716) C dX8_init_44 wac_int (by decide) (by decide) (by decide) (by decide) (by decide) (fun q5 => ?_)
  refine z_putf (pc := 46) C I 0 dX8_init_46 fp_RX8_22 (fun _ _ _ h => by cases h; rfl) rfl rfl rfl (zlt_b rfl) (ws' := (([(a0, .inr (8, [.ref q1, .ref q2, .ref q3, .ref q4, .ref q5, .null, .int 0, .int 0, .null, .int 0, .int 0, .int 0, .int 0, .int 0, .int 0, .int 0, .int 0, .int 0, .null, .null, .null, .null, .int 0, .null, .null, .int 0, .int 0, .int 0, .int 0, .null, .int 0]))] : va_W) ++ ([(q1, .inl (gI g, 358, .inl (fun _ => 0)))] : va_W) ++ ([(q2, .inl (gI g, 358, .inl (fun _ => 0)))] : va_W) ++ ([(q3, .inl (gI g, 358, .inl (fun _ => 0)))] : va_W) ++ ([(q4, .inl (gI g, 7160, .inl (fun _ => 0)))] : va_W) ++ ([(q5, .inl (gI g, 716, .inl (fun _ => 0)))] : va_W))) rfl ?_
  refine z_aload_n (pc := 49) (x := a0) C dX8_init_49 (i := 0) rfl rfl ?_
  refine z_iconst (pc := 50) C dX8_init_50 ic_2 ?_
  refine z_newZ (pc := 51) (N := 2) C dX8_init_51 wac_boolean (by decide) (by decide) (by decide) (by decide) (by decide) (fun q6 => ?_)
  refine z_putf (pc := 53) C I 0 dX8_init_53 fp_RX8_25 (fun _ _ _ h => by cases h; rfl) rfl rfl rfl (zlt_b rfl) (ws' := (([(a0, .inr (8, [.ref q1, .ref q2, .ref q3, .ref q4, .ref q5, .ref q6, .int 0, .int 0, .null, .int 0, .int 0, .int 0, .int 0, .int 0, .int 0, .int 0, .int 0, .int 0, .null, .null, .null, .null, .int 0, .null, .null, .int 0, .int 0, .int 0, .int 0, .null, .int 0]))] : va_W) ++ ([(q1, .inl (gI g, 358, .inl (fun _ => 0)))] : va_W) ++ ([(q2, .inl (gI g, 358, .inl (fun _ => 0)))] : va_W) ++ ([(q3, .inl (gI g, 358, .inl (fun _ => 0)))] : va_W) ++ ([(q4, .inl (gI g, 7160, .inl (fun _ => 0)))] : va_W) ++ ([(q5, .inl (gI g, 716, .inl (fun _ => 0)))] : va_W) ++ ([(q6, .inl (gZ g, 2, .inl (fun _ => 0)))] : va_W))) rfl ?_
  refine z_aload_n (pc := 56) (x := a0) C dX8_init_56 (i := 0) rfl rfl ?_
  refine z_sipush (pc := 57) C dX8_init_57 sp_600 ?_
  refine z_newY (pc := 60) (N := 600) C dX8_init_60 wac_byte (by decide) (by decide) (by decide) (by decide) (by decide) (fun q7 => ?_)
  refine z_putf (pc := 62) C I 0 dX8_init_62 fp_RX8_29 (fun _ _ _ h => by cases h; rfl) rfl rfl rfl (zlt_b rfl) (ws' := (([(a0, .inr (8, [.ref q1, .ref q2, .ref q3, .ref q4, .ref q5, .ref q6, .int 0, .int 0, .ref q7, .int 0, .int 0, .int 0, .int 0, .int 0, .int 0, .int 0, .int 0, .int 0, .null, .null, .null, .null, .int 0, .null, .null, .int 0, .int 0, .int 0, .int 0, .null, .int 0]))] : va_W) ++ ([(q1, .inl (gI g, 358, .inl (fun _ => 0)))] : va_W) ++ ([(q2, .inl (gI g, 358, .inl (fun _ => 0)))] : va_W) ++ ([(q3, .inl (gI g, 358, .inl (fun _ => 0)))] : va_W) ++ ([(q4, .inl (gI g, 7160, .inl (fun _ => 0)))] : va_W) ++ ([(q5, .inl (gI g, 716, .inl (fun _ => 0)))] : va_W) ++ ([(q6, .inl (gZ g, 2, .inl (fun _ => 0)))] : va_W) ++ ([(q7, .inl (gY g, 600, .inl (fun _ => 0)))] : va_W))) rfl ?_
  refine z_aload_n (pc := 65) (x := a0) C dX8_init_65 (i := 0) rfl rfl ?_
  refine z_iconst (pc := 66) C dX8_init_66 ic_m1 ?_
  refine z_put (pc := 67) C 0 dX8_init_67 fp_RX8_33 rfl rfl rfl (zlt_b rfl) (ws' := (([(a0, .inr (8, [.ref q1, .ref q2, .ref q3, .ref q4, .ref q5, .ref q6, .int 0, .int 0, .ref q7, .int 0, .int 0, .int 0, .int 0, .int 0, .int 0, .int 0, .int 0, .int (-1 : Int32), .null, .null, .null, .null, .int 0, .null, .null, .int 0, .int 0, .int 0, .int 0, .null, .int 0]))] : va_W) ++ ([(q1, .inl (gI g, 358, .inl (fun _ => 0)))] : va_W) ++ ([(q2, .inl (gI g, 358, .inl (fun _ => 0)))] : va_W) ++ ([(q3, .inl (gI g, 358, .inl (fun _ => 0)))] : va_W) ++ ([(q4, .inl (gI g, 7160, .inl (fun _ => 0)))] : va_W) ++ ([(q5, .inl (gI g, 716, .inl (fun _ => 0)))] : va_W) ++ ([(q6, .inl (gZ g, 2, .inl (fun _ => 0)))] : va_W) ++ ([(q7, .inl (gY g, 600, .inl (fun _ => 0)))] : va_W))) rfl ?_
  refine z_aload_n (pc := 70) (x := a0) C dX8_init_70 (i := 0) rfl rfl ?_
  refine z_iconst (pc := 71) C dX8_init_71 ic_4 ?_
  refine z_newI (pc := 72) (N := 4) C dX8_init_72 wac_int (by decide) (by decide) (by decide) (by decide) (by decide) (fun q8 => ?_)
  refine z_putf (pc := 74) C I 0 dX8_init_74 fp_RX8_37 (fun _ _ _ h => by cases h; rfl) rfl rfl rfl (zlt_b rfl) (ws' := (([(a0, .inr (8, [.ref q1, .ref q2, .ref q3, .ref q4, .ref q5, .ref q6, .int 0, .int 0, .ref q7, .int 0, .int 0, .int 0, .int 0, .int 0, .int 0, .int 0, .int 0, .int (-1 : Int32), .ref q8, .null, .null, .null, .int 0, .null, .null, .int 0, .int 0, .int 0, .int 0, .null, .int 0]))] : va_W) ++ ([(q1, .inl (gI g, 358, .inl (fun _ => 0)))] : va_W) ++ ([(q2, .inl (gI g, 358, .inl (fun _ => 0)))] : va_W) ++ ([(q3, .inl (gI g, 358, .inl (fun _ => 0)))] : va_W) ++ ([(q4, .inl (gI g, 7160, .inl (fun _ => 0)))] : va_W) ++ ([(q5, .inl (gI g, 716, .inl (fun _ => 0)))] : va_W) ++ ([(q6, .inl (gZ g, 2, .inl (fun _ => 0)))] : va_W) ++ ([(q7, .inl (gY g, 600, .inl (fun _ => 0)))] : va_W) ++ ([(q8, .inl (gI g, 4, .inl (fun _ => 0)))] : va_W))) rfl ?_
  refine z_aload_n (pc := 77) (x := a0) C dX8_init_77 (i := 0) rfl rfl ?_
  refine z_sipush (pc := 78) C dX8_init_78 sp_16080 ?_
  refine z_newJ (pc := 81) (N := 16080) C dX8_init_81 wac_long (by decide) (by decide) (by decide) (by decide) (by decide) (fun q9 => ?_)
  refine z_putf (pc := 83) C I 0 dX8_init_83 fp_RX8_40 (fun _ _ _ h => by cases h; rfl) rfl rfl rfl (zlt_b rfl) (ws' := (([(a0, .inr (8, [.ref q1, .ref q2, .ref q3, .ref q4, .ref q5, .ref q6, .int 0, .int 0, .ref q7, .int 0, .int 0, .int 0, .int 0, .int 0, .int 0, .int 0, .int 0, .int (-1 : Int32), .ref q8, .ref q9, .null, .null, .int 0, .null, .null, .int 0, .int 0, .int 0, .int 0, .null, .int 0]))] : va_W) ++ ([(q1, .inl (gI g, 358, .inl (fun _ => 0)))] : va_W) ++ ([(q2, .inl (gI g, 358, .inl (fun _ => 0)))] : va_W) ++ ([(q3, .inl (gI g, 358, .inl (fun _ => 0)))] : va_W) ++ ([(q4, .inl (gI g, 7160, .inl (fun _ => 0)))] : va_W) ++ ([(q5, .inl (gI g, 716, .inl (fun _ => 0)))] : va_W) ++ ([(q6, .inl (gZ g, 2, .inl (fun _ => 0)))] : va_W) ++ ([(q7, .inl (gY g, 600, .inl (fun _ => 0)))] : va_W) ++ ([(q8, .inl (gI g, 4, .inl (fun _ => 0)))] : va_W) ++ ([(q9, .inl (gJ g, 16080, .inr (.inl (fun _ => 0))))] : va_W))) rfl ?_
  refine z_aload_n (pc := 86) (x := a0) C dX8_init_86 (i := 0) rfl rfl ?_
  refine z_sipush (pc := 87) C dX8_init_87 sp_4020 ?_
  refine z_newI (pc := 90) (N := 4020) C dX8_init_90 wac_int (by decide) (by decide) (by decide) (by decide) (by decide) (fun q10 => ?_)
  refine z_putf (pc := 92) C I 0 dX8_init_92 fp_RX8_44 (fun _ _ _ h => by cases h; rfl) rfl rfl rfl (zlt_b rfl) (ws' := (([(a0, .inr (8, [.ref q1, .ref q2, .ref q3, .ref q4, .ref q5, .ref q6, .int 0, .int 0, .ref q7, .int 0, .int 0, .int 0, .int 0, .int 0, .int 0, .int 0, .int 0, .int (-1 : Int32), .ref q8, .ref q9, .ref q10, .null, .int 0, .null, .null, .int 0, .int 0, .int 0, .int 0, .null, .int 0]))] : va_W) ++ ([(q1, .inl (gI g, 358, .inl (fun _ => 0)))] : va_W) ++ ([(q2, .inl (gI g, 358, .inl (fun _ => 0)))] : va_W) ++ ([(q3, .inl (gI g, 358, .inl (fun _ => 0)))] : va_W) ++ ([(q4, .inl (gI g, 7160, .inl (fun _ => 0)))] : va_W) ++ ([(q5, .inl (gI g, 716, .inl (fun _ => 0)))] : va_W) ++ ([(q6, .inl (gZ g, 2, .inl (fun _ => 0)))] : va_W) ++ ([(q7, .inl (gY g, 600, .inl (fun _ => 0)))] : va_W) ++ ([(q8, .inl (gI g, 4, .inl (fun _ => 0)))] : va_W) ++ ([(q9, .inl (gJ g, 16080, .inr (.inl (fun _ => 0))))] : va_W) ++ ([(q10, .inl (gI g, 4020, .inl (fun _ => 0)))] : va_W))) rfl ?_
  refine z_aload_n (pc := 95) (x := a0) C dX8_init_95 (i := 0) rfl rfl ?_
  refine z_sipush (pc := 96) C dX8_init_96 sp_16384 ?_
  refine z_newI (pc := 99) (N := 16384) C dX8_init_99 wac_int (by decide) (by decide) (by decide) (by decide) (by decide) (fun q11 => ?_)
  refine z_putf (pc := 101) C I 0 dX8_init_101 fp_RX8_47 (fun _ _ _ h => by cases h; rfl) rfl rfl rfl (zlt_b rfl) (ws' := (([(a0, .inr (8, [.ref q1, .ref q2, .ref q3, .ref q4, .ref q5, .ref q6, .int 0, .int 0, .ref q7, .int 0, .int 0, .int 0, .int 0, .int 0, .int 0, .int 0, .int 0, .int (-1 : Int32), .ref q8, .ref q9, .ref q10, .ref q11, .int 0, .null, .null, .int 0, .int 0, .int 0, .int 0, .null, .int 0]))] : va_W) ++ ([(q1, .inl (gI g, 358, .inl (fun _ => 0)))] : va_W) ++ ([(q2, .inl (gI g, 358, .inl (fun _ => 0)))] : va_W) ++ ([(q3, .inl (gI g, 358, .inl (fun _ => 0)))] : va_W) ++ ([(q4, .inl (gI g, 7160, .inl (fun _ => 0)))] : va_W) ++ ([(q5, .inl (gI g, 716, .inl (fun _ => 0)))] : va_W) ++ ([(q6, .inl (gZ g, 2, .inl (fun _ => 0)))] : va_W) ++ ([(q7, .inl (gY g, 600, .inl (fun _ => 0)))] : va_W) ++ ([(q8, .inl (gI g, 4, .inl (fun _ => 0)))] : va_W) ++ ([(q9, .inl (gJ g, 16080, .inr (.inl (fun _ => 0))))] : va_W) ++ ([(q10, .inl (gI g, 4020, .inl (fun _ => 0)))] : va_W) ++ ([(q11, .inl (gI g, 16384, .inl (fun _ => 0)))] : va_W))) rfl ?_
  refine z_aload_n (pc := 104) (x := a0) C dX8_init_104 (i := 0) rfl rfl ?_
  refine z_iconst (pc := 105) C dX8_init_105 ic_4 ?_
  refine z_newJ (pc := 106) (N := 4) C dX8_init_106 wac_long (by decide) (by decide) (by decide) (by decide) (by decide) (fun q12 => ?_)
  refine z_putf (pc := 108) C I 0 dX8_init_108 fp_RX8_50 (fun _ _ _ h => by cases h; rfl) rfl rfl rfl (zlt_b rfl) (ws' := (([(a0, .inr (8, [.ref q1, .ref q2, .ref q3, .ref q4, .ref q5, .ref q6, .int 0, .int 0, .ref q7, .int 0, .int 0, .int 0, .int 0, .int 0, .int 0, .int 0, .int 0, .int (-1 : Int32), .ref q8, .ref q9, .ref q10, .ref q11, .int 0, .ref q12, .null, .int 0, .int 0, .int 0, .int 0, .null, .int 0]))] : va_W) ++ ([(q1, .inl (gI g, 358, .inl (fun _ => 0)))] : va_W) ++ ([(q2, .inl (gI g, 358, .inl (fun _ => 0)))] : va_W) ++ ([(q3, .inl (gI g, 358, .inl (fun _ => 0)))] : va_W) ++ ([(q4, .inl (gI g, 7160, .inl (fun _ => 0)))] : va_W) ++ ([(q5, .inl (gI g, 716, .inl (fun _ => 0)))] : va_W) ++ ([(q6, .inl (gZ g, 2, .inl (fun _ => 0)))] : va_W) ++ ([(q7, .inl (gY g, 600, .inl (fun _ => 0)))] : va_W) ++ ([(q8, .inl (gI g, 4, .inl (fun _ => 0)))] : va_W) ++ ([(q9, .inl (gJ g, 16080, .inr (.inl (fun _ => 0))))] : va_W) ++ ([(q10, .inl (gI g, 4020, .inl (fun _ => 0)))] : va_W) ++ ([(q11, .inl (gI g, 16384, .inl (fun _ => 0)))] : va_W) ++ ([(q12, .inl (gJ g, 4, .inr (.inl (fun _ => 0))))] : va_W))) rfl ?_
  refine z_aload_n (pc := 111) (x := a0) C dX8_init_111 (i := 0) rfl rfl ?_
  refine z_iconst (pc := 112) C dX8_init_112 ic_4 ?_
  refine z_newI (pc := 113) (N := 4) C dX8_init_113 wac_int (by decide) (by decide) (by decide) (by decide) (by decide) (fun q13 => ?_)
  refine z_putf (pc := 115) C I 0 dX8_init_115 fp_RX8_53 (fun _ _ _ h => by cases h; rfl) rfl rfl rfl (zlt_b rfl) (ws' := (([(a0, .inr (8, [.ref q1, .ref q2, .ref q3, .ref q4, .ref q5, .ref q6, .int 0, .int 0, .ref q7, .int 0, .int 0, .int 0, .int 0, .int 0, .int 0, .int 0, .int 0, .int (-1 : Int32), .ref q8, .ref q9, .ref q10, .ref q11, .int 0, .ref q12, .ref q13, .int 0, .int 0, .int 0, .int 0, .null, .int 0]))] : va_W) ++ ([(q1, .inl (gI g, 358, .inl (fun _ => 0)))] : va_W) ++ ([(q2, .inl (gI g, 358, .inl (fun _ => 0)))] : va_W) ++ ([(q3, .inl (gI g, 358, .inl (fun _ => 0)))] : va_W) ++ ([(q4, .inl (gI g, 7160, .inl (fun _ => 0)))] : va_W) ++ ([(q5, .inl (gI g, 716, .inl (fun _ => 0)))] : va_W) ++ ([(q6, .inl (gZ g, 2, .inl (fun _ => 0)))] : va_W) ++ ([(q7, .inl (gY g, 600, .inl (fun _ => 0)))] : va_W) ++ ([(q8, .inl (gI g, 4, .inl (fun _ => 0)))] : va_W) ++ ([(q9, .inl (gJ g, 16080, .inr (.inl (fun _ => 0))))] : va_W) ++ ([(q10, .inl (gI g, 4020, .inl (fun _ => 0)))] : va_W) ++ ([(q11, .inl (gI g, 16384, .inl (fun _ => 0)))] : va_W) ++ ([(q12, .inl (gJ g, 4, .inr (.inl (fun _ => 0))))] : va_W) ++ ([(q13, .inl (gI g, 4, .inl (fun _ => 0)))] : va_W))) rfl ?_
  refine z_aload_n (pc := 118) (x := a0) C dX8_init_118 (i := 0) rfl rfl ?_
  refine z_bipush (pc := 119) C dX8_init_119 bp_20 ?_
  refine z_newY (pc := 121) (N := 20) C dX8_init_121 wac_byte (by decide) (by decide) (by decide) (by decide) (by decide) (fun q14 => ?_)
  refine z_putf (pc := 123) C I 0 dX8_init_123 fp_RX8_56 (fun _ _ _ h => by cases h; rfl) rfl rfl rfl (zlt_b rfl) (ws' := (([(a0, .inr (8, [.ref q1, .ref q2, .ref q3, .ref q4, .ref q5, .ref q6, .int 0, .int 0, .ref q7, .int 0, .int 0, .int 0, .int 0, .int 0, .int 0, .int 0, .int 0, .int (-1 : Int32), .ref q8, .ref q9, .ref q10, .ref q11, .int 0, .ref q12, .ref q13, .int 0, .int 0, .int 0, .int 0, .ref q14, .int 0]))] : va_W) ++ ([(q1, .inl (gI g, 358, .inl (fun _ => 0)))] : va_W) ++ ([(q2, .inl (gI g, 358, .inl (fun _ => 0)))] : va_W) ++ ([(q3, .inl (gI g, 358, .inl (fun _ => 0)))] : va_W) ++ ([(q4, .inl (gI g, 7160, .inl (fun _ => 0)))] : va_W) ++ ([(q5, .inl (gI g, 716, .inl (fun _ => 0)))] : va_W) ++ ([(q6, .inl (gZ g, 2, .inl (fun _ => 0)))] : va_W) ++ ([(q7, .inl (gY g, 600, .inl (fun _ => 0)))] : va_W) ++ ([(q8, .inl (gI g, 4, .inl (fun _ => 0)))] : va_W) ++ ([(q9, .inl (gJ g, 16080, .inr (.inl (fun _ => 0))))] : va_W) ++ ([(q10, .inl (gI g, 4020, .inl (fun _ => 0)))] : va_W) ++ ([(q11, .inl (gI g, 16384, .inl (fun _ => 0)))] : va_W) ++ ([(q12, .inl (gJ g, 4, .inr (.inl (fun _ => 0))))] : va_W) ++ ([(q13, .inl (gI g, 4, .inl (fun _ => 0)))] : va_W) ++ ([(q14, .inl (gY g, 20, .inl (fun _ => 0)))] : va_W))) rfl ?_
  refine z_aload_n (pc := 126) (x := a0) C dX8_init_126 (i := 0) rfl rfl ?_
  refine z_get (pc := 127) (v := .ref q1) C 0 dX8_init_127 fl_RX8_9 rfl rfl ?_
  refine z_bipush (pc := 130) C dX8_init_130 bp_12 ?_
  refine z_iconst (pc := 132) C dX8_init_132 ic_3 ?_
  refine z_iast (pc := 133) C 1 dX8_init_133 rfl (by decide) (ws' := (([(a0, .inr (8, [.ref q1, .ref q2, .ref q3, .ref q4, .ref q5, .ref q6, .int 0, .int 0, .ref q7, .int 0, .int 0, .int 0, .int 0, .int 0, .int 0, .int 0, .int 0, .int (-1 : Int32), .ref q8, .ref q9, .ref q10, .ref q11, .int 0, .ref q12, .ref q13, .int 0, .int 0, .int 0, .int 0, .ref q14, .int 0]))] : va_W) ++ ([(q1, .inl (gI g, 358, .inl (upd (fun _ => 0) 12 (3 : Int32))))] : va_W) ++ ([(q2, .inl (gI g, 358, .inl (fun _ => 0)))] : va_W) ++ ([(q3, .inl (gI g, 358, .inl (fun _ => 0)))] : va_W) ++ ([(q4, .inl (gI g, 7160, .inl (fun _ => 0)))] : va_W) ++ ([(q5, .inl (gI g, 716, .inl (fun _ => 0)))] : va_W) ++ ([(q6, .inl (gZ g, 2, .inl (fun _ => 0)))] : va_W) ++ ([(q7, .inl (gY g, 600, .inl (fun _ => 0)))] : va_W) ++ ([(q8, .inl (gI g, 4, .inl (fun _ => 0)))] : va_W) ++ ([(q9, .inl (gJ g, 16080, .inr (.inl (fun _ => 0))))] : va_W) ++ ([(q10, .inl (gI g, 4020, .inl (fun _ => 0)))] : va_W) ++ ([(q11, .inl (gI g, 16384, .inl (fun _ => 0)))] : va_W) ++ ([(q12, .inl (gJ g, 4, .inr (.inl (fun _ => 0))))] : va_W) ++ ([(q13, .inl (gI g, 4, .inl (fun _ => 0)))] : va_W) ++ ([(q14, .inl (gY g, 20, .inl (fun _ => 0)))] : va_W))) rfl ?_
  exact z_vret C X dX8_init_134 ⟨rfl, (fun k => if k = 0 then q1 else if k = 1 then q2 else if k = 2 then q3 else if k = 3 then q4 else if k = 4 then q5 else if k = 5 then q6 else if k = 8 then q7 else if k = 18 then q8 else if k = 19 then q9 else if k = 20 then q10 else if k = 21 then q11 else if k = 23 then q12 else if k = 24 then q13 else if k = 29 then q14 else 0), rfl⟩ (by decide) (by decide)
/-- a family of games behind an array of references -/
def gel (g : Gp) (pa : Nat → Nat) (pr : Nat → Nat → Nat) (PS : Nat → Nat × Ob) (k : Nat) : va_W := wX1 g (pa k) (pr k) (PS k).1 (PS k).2
def gfam (g : Gp) (n : Nat) (pa : Nat → Nat) (pr : Nat → Nat → Nat) (PS : Nat → Nat × Ob) : va_W := (List.range n).flatMap (gel g pa pr PS)
def wPs (g : Gp) (a n : Nat) (f : Nat → Option Nat) (pa : Nat → Nat) (pr : Nat → Nat → Nat) (PS : Nat → Nat × Ob) : va_W := (a, gq g n f) :: gfam g n pa pr PS
theorem wao : Cond.arrayOver (.object RX1) ∈ lw_tbl := List.mem_of_getElem? (i := 269) (by decide +kernel)
theorem ok_over {g : Gp} (hg : Ok g) : ∀ s : State, En g s → va_AO RX1 s := fun s hE => va_AO.moved hE.1.alike (va_AO.of (hg.1 _ wao))
def pX7 (g : Gp) (x : Nat → Int32) (a0 : Nat) (w : va_W) : Prop := ∃ (r : Nat → Nat) (r1 : Nat → Nat) (r2 : Nat → Nat) (rq : Nat → Nat) (q : Nat) (r3 : Nat → Nat) (q4 : Nat) (r4 : Nat → Nat) (r5 : Nat → Nat) (r6 : Nat → Nat) (r7 : Nat → Nat) (q6 : Nat) (r8 : Nat → Nat) (r9 : Nat → Nat) (r10 : Nat → Nat) (fp : Nat → Option Nat) (pa : Nat → Nat) (pr : Nat → Nat → Nat) (fs : Nat → Option Nat) (sa : Nat → Nat) (sr : Nat → Nat → Nat), (∀ k, k < 20 → fp k = some (pa k)) ∧ (∀ k, k < 2 → fs k = some (sa k)) ∧ w = wX7 g a0 r z0 ++ wX1 g (r 3) r1 q z0 ++ wX1 g (r 9) r2 q z0 ++ wX5 g q rq (iX5 x) ++ wX4 g (r 2) r3 q4 (r 0) iX4 ++ wX5 g q4 r4 (iX5 x) ++ wX2 g (r 10) r5 z0 ++ wX0 g (r 11) r6 (r 10) z0 ++ wX6 g (r 12) r7 z0 ++ wX5 g q6 r8 (iX5 x) ++ wX3 g (r7 8) r9 q6 z0 ++ wX3 g (r7 9) r10 q6 z0 ++ wPs g (r 4) 20 fp pa pr (fun _ => (q, z0)) ++ wPs g (r 7) 2 fs sa sr (fun _ => (q, z0))
