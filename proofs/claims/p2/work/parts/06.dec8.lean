/-! decode rows of NAMES.whole: HintTeamModel -/
theorem dX8_init_0 : decode cX8_init 0 = .ok (.aload_n 0, 1) := by decide +kernel
theorem dX8_init_1 : decode cX8_init 1 = .ok (.invokespecial 3, 3) := by decide +kernel
theorem dX8_init_4 : decode cX8_init 4 = .ok (.aload_n 0, 1) := by decide +kernel
theorem dX8_init_5 : decode cX8_init 5 = .ok (.sipush 358, 3) := by decide +kernel
theorem dX8_init_8 : decode cX8_init 8 = .ok (.newarray .int, 2) := by decide +kernel
theorem dX8_init_10 : decode cX8_init 10 = .ok (.putfield 9, 3) := by decide +kernel
theorem dX8_init_13 : decode cX8_init 13 = .ok (.aload_n 0, 1) := by decide +kernel
theorem dX8_init_14 : decode cX8_init 14 = .ok (.sipush 358, 3) := by decide +kernel
theorem dX8_init_17 : decode cX8_init 17 = .ok (.newarray .int, 2) := by decide +kernel
theorem dX8_init_19 : decode cX8_init 19 = .ok (.putfield 13, 3) := by decide +kernel
theorem dX8_init_22 : decode cX8_init 22 = .ok (.aload_n 0, 1) := by decide +kernel
theorem dX8_init_23 : decode cX8_init 23 = .ok (.sipush 358, 3) := by decide +kernel
theorem dX8_init_26 : decode cX8_init 26 = .ok (.newarray .int, 2) := by decide +kernel
theorem dX8_init_28 : decode cX8_init 28 = .ok (.putfield 16, 3) := by decide +kernel
theorem dX8_init_31 : decode cX8_init 31 = .ok (.aload_n 0, 1) := by decide +kernel
theorem dX8_init_32 : decode cX8_init 32 = .ok (.sipush 7160, 3) := by decide +kernel
theorem dX8_init_35 : decode cX8_init 35 = .ok (.newarray .int, 2) := by decide +kernel
theorem dX8_init_37 : decode cX8_init 37 = .ok (.putfield 19, 3) := by decide +kernel
theorem dX8_init_40 : decode cX8_init 40 = .ok (.aload_n 0, 1) := by decide +kernel
theorem dX8_init_41 : decode cX8_init 41 = .ok (.sipush 716, 3) := by decide +kernel
theorem dX8_init_44 : decode cX8_init 44 = .ok (.newarray .int, 2) := by decide +kernel
theorem dX8_init_46 : decode cX8_init 46 = .ok (.putfield 22, 3) := by decide +kernel
theorem dX8_init_49 : decode cX8_init 49 = .ok (.aload_n 0, 1) := by decide +kernel
theorem dX8_init_50 : decode cX8_init 50 = .ok (.iconst 2, 1) := by decide +kernel
theorem dX8_init_51 : decode cX8_init 51 = .ok (.newarray .boolean, 2) := by decide +kernel
theorem dX8_init_53 : decode cX8_init 53 = .ok (.putfield 25, 3) := by decide +kernel
theorem dX8_init_56 : decode cX8_init 56 = .ok (.aload_n 0, 1) := by decide +kernel
theorem dX8_init_57 : decode cX8_init 57 = .ok (.sipush 600, 3) := by decide +kernel
theorem dX8_init_60 : decode cX8_init 60 = .ok (.newarray .byte, 2) := by decide +kernel
theorem dX8_init_62 : decode cX8_init 62 = .ok (.putfield 29, 3) := by decide +kernel
theorem dX8_init_65 : decode cX8_init 65 = .ok (.aload_n 0, 1) := by decide +kernel
theorem dX8_init_66 : decode cX8_init 66 = .ok (.iconst (-1), 1) := by decide +kernel
theorem dX8_init_67 : decode cX8_init 67 = .ok (.putfield 33, 3) := by decide +kernel
theorem dX8_init_70 : decode cX8_init 70 = .ok (.aload_n 0, 1) := by decide +kernel
theorem dX8_init_71 : decode cX8_init 71 = .ok (.iconst 4, 1) := by decide +kernel
theorem dX8_init_72 : decode cX8_init 72 = .ok (.newarray .int, 2) := by decide +kernel
theorem dX8_init_74 : decode cX8_init 74 = .ok (.putfield 37, 3) := by decide +kernel
theorem dX8_init_77 : decode cX8_init 77 = .ok (.aload_n 0, 1) := by decide +kernel
theorem dX8_init_78 : decode cX8_init 78 = .ok (.sipush 16080, 3) := by decide +kernel
theorem dX8_init_81 : decode cX8_init 81 = .ok (.newarray .long, 2) := by decide +kernel
theorem dX8_init_83 : decode cX8_init 83 = .ok (.putfield 40, 3) := by decide +kernel
theorem dX8_init_86 : decode cX8_init 86 = .ok (.aload_n 0, 1) := by decide +kernel
theorem dX8_init_87 : decode cX8_init 87 = .ok (.sipush 4020, 3) := by decide +kernel
theorem dX8_init_90 : decode cX8_init 90 = .ok (.newarray .int, 2) := by decide +kernel
theorem dX8_init_92 : decode cX8_init 92 = .ok (.putfield 44, 3) := by decide +kernel
theorem dX8_init_95 : decode cX8_init 95 = .ok (.aload_n 0, 1) := by decide +kernel
theorem dX8_init_96 : decode cX8_init 96 = .ok (.sipush 16384, 3) := by decide +kernel
theorem dX8_init_99 : decode cX8_init 99 = .ok (.newarray .int, 2) := by decide +kernel
theorem dX8_init_101 : decode cX8_init 101 = .ok (.putfield 47, 3) := by decide +kernel
theorem dX8_init_104 : decode cX8_init 104 = .ok (.aload_n 0, 1) := by decide +kernel
theorem dX8_init_105 : decode cX8_init 105 = .ok (.iconst 4, 1) := by decide +kernel
theorem dX8_init_106 : decode cX8_init 106 = .ok (.newarray .long, 2) := by decide +kernel
theorem dX8_init_108 : decode cX8_init 108 = .ok (.putfield 50, 3) := by decide +kernel
theorem dX8_init_111 : decode cX8_init 111 = .ok (.aload_n 0, 1) := by decide +kernel
theorem dX8_init_112 : decode cX8_init 112 = .ok (.iconst 4, 1) := by decide +kernel
theorem dX8_init_113 : decode cX8_init 113 = .ok (.newarray .int, 2) := by decide +kernel
theorem dX8_init_115 : decode cX8_init 115 = .ok (.putfield 53, 3) := by decide +kernel
theorem dX8_init_118 : decode cX8_init 118 = .ok (.aload_n 0, 1) := by decide +kernel
theorem dX8_init_119 : decode cX8_init 119 = .ok (.bipush 20, 2) := by decide +kernel
theorem dX8_init_121 : decode cX8_init 121 = .ok (.newarray .byte, 2) := by decide +kernel
theorem dX8_init_123 : decode cX8_init 123 = .ok (.putfield 56, 3) := by decide +kernel
theorem dX8_init_126 : decode cX8_init 126 = .ok (.aload_n 0, 1) := by decide +kernel
theorem dX8_init_127 : decode cX8_init 127 = .ok (.getfield 9, 3) := by decide +kernel
theorem dX8_init_130 : decode cX8_init 130 = .ok (.bipush 12, 2) := by decide +kernel
theorem dX8_init_132 : decode cX8_init 132 = .ok (.iconst 3, 1) := by decide +kernel
theorem dX8_init_133 : decode cX8_init 133 = .ok (.iastore, 1) := by decide +kernel
theorem dX8_init_134 : decode cX8_init 134 = .ok (.return_, 1) := by decide +kernel
theorem dX8_in_0 : decode cX8_in 0 = .ok (.iload_n 0, 1) := by decide +kernel
theorem dX8_in_1 : decode cX8_in 1 = .ok (.iload_n 1, 1) := by decide +kernel
theorem dX8_in_2 : decode cX8_in 2 = .ok (.if_icmp .lt 12, 3) := by decide +kernel
theorem dX8_in_5 : decode cX8_in 5 = .ok (.iload_n 0, 1) := by decide +kernel
theorem dX8_in_6 : decode cX8_in 6 = .ok (.iload_n 2, 1) := by decide +kernel
theorem dX8_in_7 : decode cX8_in 7 = .ok (.if_icmp .gt 7, 3) := by decide +kernel
theorem dX8_in_10 : decode cX8_in 10 = .ok (.iconst 1, 1) := by decide +kernel
theorem dX8_in_11 : decode cX8_in 11 = .ok (.goto 4, 3) := by decide +kernel
theorem dX8_in_14 : decode cX8_in 14 = .ok (.iconst 0, 1) := by decide +kernel
theorem dX8_in_15 : decode cX8_in 15 = .ok (.ireturn, 1) := by decide +kernel
theorem dX8_copies_0 : decode cX8_copies 0 = .ok (.iconst 0, 1) := by decide +kernel
theorem dX8_copies_1 : decode cX8_copies 1 = .ok (.istore 4, 2) := by decide +kernel
theorem dX8_copies_3 : decode cX8_copies 3 = .ok (.iload 4, 2) := by decide +kernel
theorem dX8_copies_5 : decode cX8_copies 5 = .ok (.sipush 358, 3) := by decide +kernel
theorem dX8_copies_8 : decode cX8_copies 8 = .ok (.if_icmp .ge 29, 3) := by decide +kernel
theorem dX8_copies_11 : decode cX8_copies 11 = .ok (.aload_n 2, 1) := by decide +kernel
theorem dX8_copies_12 : decode cX8_copies 12 = .ok (.sipush 358, 3) := by decide +kernel
theorem dX8_copies_15 : decode cX8_copies 15 = .ok (.iload_n 3, 1) := by decide +kernel
theorem dX8_copies_16 : decode cX8_copies 16 = .ok (.imul, 1) := by decide +kernel
theorem dX8_copies_17 : decode cX8_copies 17 = .ok (.iload 4, 2) := by decide +kernel
theorem dX8_copies_19 : decode cX8_copies 19 = .ok (.iadd, 1) := by decide +kernel
theorem dX8_copies_20 : decode cX8_copies 20 = .ok (.aload_n 0, 1) := by decide +kernel
theorem dX8_copies_21 : decode cX8_copies 21 = .ok (.sipush 358, 3) := by decide +kernel
theorem dX8_copies_24 : decode cX8_copies 24 = .ok (.iload_n 1, 1) := by decide +kernel
theorem dX8_copies_25 : decode cX8_copies 25 = .ok (.imul, 1) := by decide +kernel
theorem dX8_copies_26 : decode cX8_copies 26 = .ok (.iload 4, 2) := by decide +kernel
theorem dX8_copies_28 : decode cX8_copies 28 = .ok (.iadd, 1) := by decide +kernel
theorem dX8_copies_29 : decode cX8_copies 29 = .ok (.iaload, 1) := by decide +kernel
theorem dX8_copies_30 : decode cX8_copies 30 = .ok (.iastore, 1) := by decide +kernel
theorem dX8_copies_31 : decode cX8_copies 31 = .ok (.iinc 4 1, 3) := by decide +kernel
theorem dX8_copies_34 : decode cX8_copies 34 = .ok (.goto (-31), 3) := by decide +kernel
theorem dX8_copies_37 : decode cX8_copies 37 = .ok (.return_, 1) := by decide +kernel
theorem dX8_isThrown_0 : decode cX8_isThrown 0 = .ok (.aload_n 0, 1) := by decide +kernel
theorem dX8_isThrown_1 : decode cX8_isThrown 1 = .ok (.iload_n 1, 1) := by decide +kernel
theorem dX8_isThrown_2 : decode cX8_isThrown 2 = .ok (.ifCond .eq 7, 3) := by decide +kernel
theorem dX8_isThrown_5 : decode cX8_isThrown 5 = .ok (.iconst 0, 1) := by decide +kernel
theorem dX8_isThrown_6 : decode cX8_isThrown 6 = .ok (.goto 4, 3) := by decide +kernel
theorem dX8_isThrown_9 : decode cX8_isThrown 9 = .ok (.iload_n 2, 1) := by decide +kernel
theorem dX8_isThrown_10 : decode cX8_isThrown 10 = .ok (.putfield 59, 3) := by decide +kernel
theorem dX8_isThrown_13 : decode cX8_isThrown 13 = .ok (.iload_n 1, 1) := by decide +kernel
theorem dX8_isThrown_14 : decode cX8_isThrown 14 = .ok (.ifCond .ne 7, 3) := by decide +kernel
theorem dX8_isThrown_17 : decode cX8_isThrown 17 = .ok (.iconst 1, 1) := by decide +kernel
theorem dX8_isThrown_18 : decode cX8_isThrown 18 = .ok (.goto 4, 3) := by decide +kernel
theorem dX8_isThrown_21 : decode cX8_isThrown 21 = .ok (.iconst 0, 1) := by decide +kernel
theorem dX8_isThrown_22 : decode cX8_isThrown 22 = .ok (.ireturn, 1) := by decide +kernel
theorem dX8_isPlayer_0 : decode cX8_isPlayer 0 = .ok (.iload_n 1, 1) := by decide +kernel
theorem dX8_isPlayer_1 : decode cX8_isPlayer 1 = .ok (.iconst 0, 1) := by decide +kernel
theorem dX8_isPlayer_2 : decode cX8_isPlayer 2 = .ok (.aload_n 0, 1) := by decide +kernel
theorem dX8_isPlayer_3 : decode cX8_isPlayer 3 = .ok (.getfield 9, 3) := by decide +kernel
theorem dX8_isPlayer_6 : decode cX8_isPlayer 6 = .ok (.iconst 2, 1) := by decide +kernel
theorem dX8_isPlayer_7 : decode cX8_isPlayer 7 = .ok (.iaload, 1) := by decide +kernel
theorem dX8_isPlayer_8 : decode cX8_isPlayer 8 = .ok (.iconst 1, 1) := by decide +kernel
theorem dX8_isPlayer_9 : decode cX8_isPlayer 9 = .ok (.isub, 1) := by decide +kernel
theorem dX8_isPlayer_10 : decode cX8_isPlayer 10 = .ok (.invokestatic 62, 3) := by decide +kernel
theorem dX8_isPlayer_13 : decode cX8_isPlayer 13 = .ok (.ireturn, 1) := by decide +kernel
theorem dX8_isPlace_0 : decode cX8_isPlace 0 = .ok (.aload_n 0, 1) := by decide +kernel
theorem dX8_isPlace_1 : decode cX8_isPlace 1 = .ok (.iload_n 1, 1) := by decide +kernel
theorem dX8_isPlace_2 : decode cX8_isPlace 2 = .ok (.invokevirtual 66, 3) := by decide +kernel
theorem dX8_isPlace_5 : decode cX8_isPlace 5 = .ok (.ifCond .eq 27, 3) := by decide +kernel
theorem dX8_isPlace_8 : decode cX8_isPlace 8 = .ok (.iload_n 2, 1) := by decide +kernel
theorem dX8_isPlace_9 : decode cX8_isPlace 9 = .ok (.iconst 0, 1) := by decide +kernel
theorem dX8_isPlace_10 : decode cX8_isPlace 10 = .ok (.aload_n 0, 1) := by decide +kernel
theorem dX8_isPlace_11 : decode cX8_isPlace 11 = .ok (.getfield 9, 3) := by decide +kernel
theorem dX8_isPlace_14 : decode cX8_isPlace 14 = .ok (.sipush 187, 3) := by decide +kernel
theorem dX8_isPlace_17 : decode cX8_isPlace 17 = .ok (.iload_n 1, 1) := by decide +kernel
theorem dX8_isPlace_18 : decode cX8_isPlace 18 = .ok (.iadd, 1) := by decide +kernel
theorem dX8_isPlace_19 : decode cX8_isPlace 19 = .ok (.iaload, 1) := by decide +kernel
theorem dX8_isPlace_20 : decode cX8_isPlace 20 = .ok (.iconst 1, 1) := by decide +kernel
theorem dX8_isPlace_21 : decode cX8_isPlace 21 = .ok (.isub, 1) := by decide +kernel
theorem dX8_isPlace_22 : decode cX8_isPlace 22 = .ok (.invokestatic 62, 3) := by decide +kernel
theorem dX8_isPlace_25 : decode cX8_isPlace 25 = .ok (.ifCond .eq 7, 3) := by decide +kernel
theorem dX8_isPlace_28 : decode cX8_isPlace 28 = .ok (.iconst 1, 1) := by decide +kernel
theorem dX8_isPlace_29 : decode cX8_isPlace 29 = .ok (.goto 4, 3) := by decide +kernel
theorem dX8_isPlace_32 : decode cX8_isPlace 32 = .ok (.iconst 0, 1) := by decide +kernel
theorem dX8_isPlace_33 : decode cX8_isPlace 33 = .ok (.ireturn, 1) := by decide +kernel
theorem dX8_held_0 : decode cX8_held 0 = .ok (.aload_n 0, 1) := by decide +kernel
theorem dX8_held_1 : decode cX8_held 1 = .ok (.getfield 9, 3) := by decide +kernel
theorem dX8_held_4 : decode cX8_held 4 = .ok (.sipush 191, 3) := by decide +kernel
theorem dX8_held_7 : decode cX8_held 7 = .ok (.iconst 5, 1) := by decide +kernel
theorem dX8_held_8 : decode cX8_held 8 = .ok (.iload_n 1, 1) := by decide +kernel
theorem dX8_held_9 : decode cX8_held 9 = .ok (.imul, 1) := by decide +kernel
theorem dX8_held_10 : decode cX8_held 10 = .ok (.iadd, 1) := by decide +kernel
theorem dX8_held_11 : decode cX8_held 11 = .ok (.iload_n 2, 1) := by decide +kernel
theorem dX8_held_12 : decode cX8_held 12 = .ok (.iadd, 1) := by decide +kernel
theorem dX8_held_13 : decode cX8_held 13 = .ok (.iaload, 1) := by decide +kernel
theorem dX8_held_14 : decode cX8_held 14 = .ok (.ireturn, 1) := by decide +kernel
theorem dX8_kind_0 : decode cX8_kind 0 = .ok (.iconst 5, 1) := by decide +kernel
theorem dX8_kind_1 : decode cX8_kind 1 = .ok (.iload_n 0, 1) := by decide +kernel
theorem dX8_kind_2 : decode cX8_kind 2 = .ok (.imul, 1) := by decide +kernel
theorem dX8_kind_3 : decode cX8_kind 3 = .ok (.iload_n 1, 1) := by decide +kernel
theorem dX8_kind_4 : decode cX8_kind 4 = .ok (.iadd, 1) := by decide +kernel
theorem dX8_kind_5 : decode cX8_kind 5 = .ok (.iconst 1, 1) := by decide +kernel
theorem dX8_kind_6 : decode cX8_kind 6 = .ok (.isub, 1) := by decide +kernel
theorem dX8_kind_7 : decode cX8_kind 7 = .ok (.ireturn, 1) := by decide +kernel
theorem dX8_colorOf_0 : decode cX8_colorOf 0 = .ok (.iload_n 0, 1) := by decide +kernel
theorem dX8_colorOf_1 : decode cX8_colorOf 1 = .ok (.iconst 5, 1) := by decide +kernel
theorem dX8_colorOf_2 : decode cX8_colorOf 2 = .ok (.idiv, 1) := by decide +kernel
theorem dX8_colorOf_3 : decode cX8_colorOf 3 = .ok (.ireturn, 1) := by decide +kernel
theorem dX8_rankOf_0 : decode cX8_rankOf 0 = .ok (.iload_n 0, 1) := by decide +kernel
theorem dX8_rankOf_1 : decode cX8_rankOf 1 = .ok (.iconst 5, 1) := by decide +kernel
theorem dX8_rankOf_2 : decode cX8_rankOf 2 = .ok (.irem, 1) := by decide +kernel
theorem dX8_rankOf_3 : decode cX8_rankOf 3 = .ok (.iconst 1, 1) := by decide +kernel
theorem dX8_rankOf_4 : decode cX8_rankOf 4 = .ok (.iadd, 1) := by decide +kernel
theorem dX8_rankOf_5 : decode cX8_rankOf 5 = .ok (.ireturn, 1) := by decide +kernel
theorem dX8_told_0 : decode cX8_told 0 = .ok (.bipush 10, 2) := by decide +kernel
theorem dX8_told_2 : decode cX8_told 2 = .ok (.iload_n 0, 1) := by decide +kernel
theorem dX8_told_3 : decode cX8_told 3 = .ok (.invokestatic 70, 3) := by decide +kernel
theorem dX8_told_6 : decode cX8_told 6 = .ok (.imul, 1) := by decide +kernel
theorem dX8_told_7 : decode cX8_told 7 = .ok (.iload_n 0, 1) := by decide +kernel
theorem dX8_told_8 : decode cX8_told 8 = .ok (.invokestatic 74, 3) := by decide +kernel
theorem dX8_told_11 : decode cX8_told 11 = .ok (.iadd, 1) := by decide +kernel
theorem dX8_told_12 : decode cX8_told 12 = .ok (.ireturn, 1) := by decide +kernel
theorem dX8_isKind_0 : decode cX8_isKind 0 = .ok (.iload_n 1, 1) := by decide +kernel
theorem dX8_isKind_1 : decode cX8_isKind 1 = .ok (.iconst 0, 1) := by decide +kernel
theorem dX8_isKind_2 : decode cX8_isKind 2 = .ok (.aload_n 0, 1) := by decide +kernel
theorem dX8_isKind_3 : decode cX8_isKind 3 = .ok (.getfield 9, 3) := by decide +kernel
theorem dX8_isKind_6 : decode cX8_isKind 6 = .ok (.iconst 0, 1) := by decide +kernel
theorem dX8_isKind_7 : decode cX8_isKind 7 = .ok (.iaload, 1) := by decide +kernel
theorem dX8_isKind_8 : decode cX8_isKind 8 = .ok (.iconst 1, 1) := by decide +kernel
theorem dX8_isKind_9 : decode cX8_isKind 9 = .ok (.isub, 1) := by decide +kernel
theorem dX8_isKind_10 : decode cX8_isKind 10 = .ok (.invokestatic 62, 3) := by decide +kernel
theorem dX8_isKind_13 : decode cX8_isKind 13 = .ok (.ifCond .eq 21, 3) := by decide +kernel
theorem dX8_isKind_16 : decode cX8_isKind 16 = .ok (.iload_n 2, 1) := by decide +kernel
theorem dX8_isKind_17 : decode cX8_isKind 17 = .ok (.iconst 1, 1) := by decide +kernel
theorem dX8_isKind_18 : decode cX8_isKind 18 = .ok (.aload_n 0, 1) := by decide +kernel
theorem dX8_isKind_19 : decode cX8_isKind 19 = .ok (.getfield 9, 3) := by decide +kernel
theorem dX8_isKind_22 : decode cX8_isKind 22 = .ok (.iconst 1, 1) := by decide +kernel
theorem dX8_isKind_23 : decode cX8_isKind 23 = .ok (.iaload, 1) := by decide +kernel
theorem dX8_isKind_24 : decode cX8_isKind 24 = .ok (.invokestatic 62, 3) := by decide +kernel
theorem dX8_isKind_27 : decode cX8_isKind 27 = .ok (.ifCond .eq 7, 3) := by decide +kernel
theorem dX8_isKind_30 : decode cX8_isKind 30 = .ok (.iconst 1, 1) := by decide +kernel
theorem dX8_isKind_31 : decode cX8_isKind 31 = .ok (.goto 4, 3) := by decide +kernel
theorem dX8_isKind_34 : decode cX8_isKind 34 = .ok (.iconst 0, 1) := by decide +kernel
theorem dX8_isKind_35 : decode cX8_isKind 35 = .ok (.ireturn, 1) := by decide +kernel
theorem dX8_byteOf_0 : decode cX8_byteOf 0 = .ok (.lload_n 0, 1) := by decide +kernel
theorem dX8_byteOf_1 : decode cX8_byteOf 1 = .ok (.bipush 8, 2) := by decide +kernel
theorem dX8_byteOf_3 : decode cX8_byteOf 3 = .ok (.bipush 7, 2) := by decide +kernel
theorem dX8_byteOf_5 : decode cX8_byteOf 5 = .ok (.iload_n 2, 1) := by decide +kernel
theorem dX8_byteOf_6 : decode cX8_byteOf 6 = .ok (.isub, 1) := by decide +kernel
theorem dX8_byteOf_7 : decode cX8_byteOf 7 = .ok (.imul, 1) := by decide +kernel
theorem dX8_byteOf_8 : decode cX8_byteOf 8 = .ok (.lshr, 1) := by decide +kernel
theorem dX8_byteOf_9 : decode cX8_byteOf 9 = .ok (.ldc2_w 77, 3) := by decide +kernel
theorem dX8_byteOf_12 : decode cX8_byteOf 12 = .ok (.land, 1) := by decide +kernel
theorem dX8_byteOf_13 : decode cX8_byteOf 13 = .ok (.l2i, 1) := by decide +kernel
theorem dX8_byteOf_14 : decode cX8_byteOf 14 = .ok (.ireturn, 1) := by decide +kernel
theorem dX8_append_0 : decode cX8_append 0 = .ok (.aload_n 0, 1) := by decide +kernel
theorem dX8_append_1 : decode cX8_append 1 = .ok (.iconst 0, 1) := by decide +kernel
theorem dX8_append_2 : decode cX8_append 2 = .ok (.putfield 59, 3) := by decide +kernel
theorem dX8_append_5 : decode cX8_append 5 = .ok (.iconst 0, 1) := by decide +kernel
theorem dX8_append_6 : decode cX8_append 6 = .ok (.istore_n 3, 1) := by decide +kernel
theorem dX8_append_7 : decode cX8_append 7 = .ok (.iconst 0, 1) := by decide +kernel
theorem dX8_append_8 : decode cX8_append 8 = .ok (.istore 4, 2) := by decide +kernel
theorem dX8_append_10 : decode cX8_append 10 = .ok (.iload 4, 2) := by decide +kernel
theorem dX8_append_12 : decode cX8_append 12 = .ok (.bipush 8, 2) := by decide +kernel
theorem dX8_append_14 : decode cX8_append 14 = .ok (.if_icmp .ge 26, 3) := by decide +kernel
theorem dX8_append_17 : decode cX8_append 17 = .ok (.iload_n 3, 1) := by decide +kernel
theorem dX8_append_18 : decode cX8_append 18 = .ok (.lload_n 1, 1) := by decide +kernel
theorem dX8_append_19 : decode cX8_append 19 = .ok (.iload 4, 2) := by decide +kernel
theorem dX8_append_21 : decode cX8_append 21 = .ok (.invokestatic 79, 3) := by decide +kernel
theorem dX8_append_24 : decode cX8_append 24 = .ok (.ifCond .ne 7, 3) := by decide +kernel
theorem dX8_append_27 : decode cX8_append 27 = .ok (.iconst 0, 1) := by decide +kernel
theorem dX8_append_28 : decode cX8_append 28 = .ok (.goto 4, 3) := by decide +kernel
theorem dX8_append_31 : decode cX8_append 31 = .ok (.iconst 1, 1) := by decide +kernel
theorem dX8_append_32 : decode cX8_append 32 = .ok (.iadd, 1) := by decide +kernel
theorem dX8_append_33 : decode cX8_append 33 = .ok (.istore_n 3, 1) := by decide +kernel
theorem dX8_append_34 : decode cX8_append 34 = .ok (.iinc 4 1, 3) := by decide +kernel
theorem dX8_append_37 : decode cX8_append 37 = .ok (.goto (-27), 3) := by decide +kernel
theorem dX8_append_40 : decode cX8_append 40 = .ok (.aload_n 0, 1) := by decide +kernel
theorem dX8_append_41 : decode cX8_append 41 = .ok (.getfield 83, 3) := by decide +kernel
theorem dX8_append_44 : decode cX8_append 44 = .ok (.iload_n 3, 1) := by decide +kernel
theorem dX8_append_45 : decode cX8_append 45 = .ok (.iadd, 1) := by decide +kernel
theorem dX8_append_46 : decode cX8_append 46 = .ok (.sipush 600, 3) := by decide +kernel
theorem dX8_append_49 : decode cX8_append 49 = .ok (.if_icmp .le 6, 3) := by decide +kernel
theorem dX8_append_52 : decode cX8_append 52 = .ok (.bipush (-2), 2) := by decide +kernel
theorem dX8_append_54 : decode cX8_append 54 = .ok (.ireturn, 1) := by decide +kernel
theorem dX8_append_55 : decode cX8_append 55 = .ok (.iconst 0, 1) := by decide +kernel
theorem dX8_append_56 : decode cX8_append 56 = .ok (.istore 4, 2) := by decide +kernel
theorem dX8_append_58 : decode cX8_append 58 = .ok (.iload 4, 2) := by decide +kernel
theorem dX8_append_60 : decode cX8_append 60 = .ok (.bipush 8, 2) := by decide +kernel
theorem dX8_append_62 : decode cX8_append 62 = .ok (.if_icmp .ge 44, 3) := by decide +kernel
theorem dX8_append_65 : decode cX8_append 65 = .ok (.lload_n 1, 1) := by decide +kernel
theorem dX8_append_66 : decode cX8_append 66 = .ok (.iload 4, 2) := by decide +kernel
theorem dX8_append_68 : decode cX8_append 68 = .ok (.invokestatic 79, 3) := by decide +kernel
theorem dX8_append_71 : decode cX8_append 71 = .ok (.ifCond .eq 29, 3) := by decide +kernel
theorem dX8_append_74 : decode cX8_append 74 = .ok (.aload_n 0, 1) := by decide +kernel
theorem dX8_append_75 : decode cX8_append 75 = .ok (.getfield 29, 3) := by decide +kernel
theorem dX8_append_78 : decode cX8_append 78 = .ok (.aload_n 0, 1) := by decide +kernel
theorem dX8_append_79 : decode cX8_append 79 = .ok (.getfield 83, 3) := by decide +kernel
theorem dX8_append_82 : decode cX8_append 82 = .ok (.lload_n 1, 1) := by decide +kernel
theorem dX8_append_83 : decode cX8_append 83 = .ok (.iload 4, 2) := by decide +kernel
theorem dX8_append_85 : decode cX8_append 85 = .ok (.invokestatic 79, 3) := by decide +kernel
theorem dX8_append_88 : decode cX8_append 88 = .ok (.i2b, 1) := by decide +kernel
theorem dX8_append_89 : decode cX8_append 89 = .ok (.bastore, 1) := by decide +kernel
theorem dX8_append_90 : decode cX8_append 90 = .ok (.aload_n 0, 1) := by decide +kernel
theorem dX8_append_91 : decode cX8_append 91 = .ok (.dup, 1) := by decide +kernel
theorem dX8_append_92 : decode cX8_append 92 = .ok (.getfield 83, 3) := by decide +kernel
theorem dX8_append_95 : decode cX8_append 95 = .ok (.iconst 1, 1) := by decide +kernel
theorem dX8_append_96 : decode cX8_append 96 = .ok (.iadd, 1) := by decide +kernel
theorem dX8_append_97 : decode cX8_append 97 = .ok (.putfield 83, 3) := by decide +kernel
theorem dX8_append_100 : decode cX8_append 100 = .ok (.iinc 4 1, 3) := by decide +kernel
theorem dX8_append_103 : decode cX8_append 103 = .ok (.goto (-45), 3) := by decide +kernel
theorem dX8_append_106 : decode cX8_append 106 = .ok (.aload_n 0, 1) := by decide +kernel
theorem dX8_append_107 : decode cX8_append 107 = .ok (.getfield 83, 3) := by decide +kernel
theorem dX8_append_110 : decode cX8_append 110 = .ok (.ireturn, 1) := by decide +kernel
theorem dX8_here_0 : decode cX8_here 0 = .ok (.aload_n 0, 1) := by decide +kernel
theorem dX8_here_1 : decode cX8_here 1 = .ok (.getfield 86, 3) := by decide +kernel
theorem dX8_here_4 : decode cX8_here 4 = .ok (.aload_n 0, 1) := by decide +kernel
theorem dX8_here_5 : decode cX8_here 5 = .ok (.getfield 83, 3) := by decide +kernel
theorem dX8_here_8 : decode cX8_here 8 = .ok (.if_icmp .ge 19, 3) := by decide +kernel
theorem dX8_here_11 : decode cX8_here 11 = .ok (.aload_n 0, 1) := by decide +kernel
theorem dX8_here_12 : decode cX8_here 12 = .ok (.getfield 29, 3) := by decide +kernel
theorem dX8_here_15 : decode cX8_here 15 = .ok (.aload_n 0, 1) := by decide +kernel
theorem dX8_here_16 : decode cX8_here 16 = .ok (.getfield 86, 3) := by decide +kernel
theorem dX8_here_19 : decode cX8_here 19 = .ok (.baload, 1) := by decide +kernel
theorem dX8_here_20 : decode cX8_here 20 = .ok (.sipush 255, 3) := by decide +kernel
theorem dX8_here_23 : decode cX8_here 23 = .ok (.iand, 1) := by decide +kernel
theorem dX8_here_24 : decode cX8_here 24 = .ok (.goto 4, 3) := by decide +kernel
theorem dX8_here_27 : decode cX8_here 27 = .ok (.iconst (-1), 1) := by decide +kernel
theorem dX8_here_28 : decode cX8_here 28 = .ok (.ireturn, 1) := by decide +kernel
theorem dX8_next_0 : decode cX8_next 0 = .ok (.aload_n 0, 1) := by decide +kernel
theorem dX8_next_1 : decode cX8_next 1 = .ok (.invokevirtual 89, 3) := by decide +kernel
theorem dX8_next_4 : decode cX8_next 4 = .ok (.bipush 32, 2) := by decide +kernel
theorem dX8_next_6 : decode cX8_next 6 = .ok (.if_icmp .ne 16, 3) := by decide +kernel
theorem dX8_next_9 : decode cX8_next 9 = .ok (.aload_n 0, 1) := by decide +kernel
theorem dX8_next_10 : decode cX8_next 10 = .ok (.dup, 1) := by decide +kernel
theorem dX8_next_11 : decode cX8_next 11 = .ok (.getfield 86, 3) := by decide +kernel
theorem dX8_next_14 : decode cX8_next 14 = .ok (.iconst 1, 1) := by decide +kernel
theorem dX8_next_15 : decode cX8_next 15 = .ok (.iadd, 1) := by decide +kernel
theorem dX8_next_16 : decode cX8_next 16 = .ok (.putfield 86, 3) := by decide +kernel
theorem dX8_next_19 : decode cX8_next 19 = .ok (.goto (-19), 3) := by decide +kernel
theorem dX8_next_22 : decode cX8_next 22 = .ok (.aload_n 0, 1) := by decide +kernel
theorem dX8_next_23 : decode cX8_next 23 = .ok (.aload_n 0, 1) := by decide +kernel
theorem dX8_next_24 : decode cX8_next 24 = .ok (.getfield 86, 3) := by decide +kernel
theorem dX8_next_27 : decode cX8_next 27 = .ok (.putfield 93, 3) := by decide +kernel
theorem dX8_next_30 : decode cX8_next 30 = .ok (.aload_n 0, 1) := by decide +kernel
theorem dX8_next_31 : decode cX8_next 31 = .ok (.invokevirtual 89, 3) := by decide +kernel
theorem dX8_next_34 : decode cX8_next 34 = .ok (.ireturn, 1) := by decide +kernel
theorem dX8_fails_0 : decode cX8_fails 0 = .ok (.aload_n 0, 1) := by decide +kernel
theorem dX8_fails_1 : decode cX8_fails 1 = .ok (.getfield 96, 3) := by decide +kernel
theorem dX8_fails_4 : decode cX8_fails 4 = .ok (.ifCond .ne 16, 3) := by decide +kernel
theorem dX8_fails_7 : decode cX8_fails 7 = .ok (.aload_n 0, 1) := by decide +kernel
theorem dX8_fails_8 : decode cX8_fails 8 = .ok (.iload_n 1, 1) := by decide +kernel
theorem dX8_fails_9 : decode cX8_fails 9 = .ok (.putfield 96, 3) := by decide +kernel
theorem dX8_fails_12 : decode cX8_fails 12 = .ok (.aload_n 0, 1) := by decide +kernel
theorem dX8_fails_13 : decode cX8_fails 13 = .ok (.aload_n 0, 1) := by decide +kernel
theorem dX8_fails_14 : decode cX8_fails 14 = .ok (.getfield 93, 3) := by decide +kernel
theorem dX8_fails_17 : decode cX8_fails 17 = .ok (.putfield 99, 3) := by decide +kernel
theorem dX8_fails_20 : decode cX8_fails 20 = .ok (.return_, 1) := by decide +kernel
theorem dX8_reads_0 : decode cX8_reads 0 = .ok (.aload_n 0, 1) := by decide +kernel
theorem dX8_reads_1 : decode cX8_reads 1 = .ok (.invokevirtual 102, 3) := by decide +kernel
theorem dX8_reads_4 : decode cX8_reads 4 = .ok (.pop, 1) := by decide +kernel
theorem dX8_reads_5 : decode cX8_reads 5 = .ok (.aload_n 0, 1) := by decide +kernel
theorem dX8_reads_6 : decode cX8_reads 6 = .ok (.invokevirtual 89, 3) := by decide +kernel
theorem dX8_reads_9 : decode cX8_reads 9 = .ok (.bipush 97, 2) := by decide +kernel
theorem dX8_reads_11 : decode cX8_reads 11 = .ok (.bipush 122, 2) := by decide +kernel
theorem dX8_reads_13 : decode cX8_reads 13 = .ok (.invokestatic 62, 3) := by decide +kernel
theorem dX8_reads_16 : decode cX8_reads 16 = .ok (.ifCond .eq 16, 3) := by decide +kernel
theorem dX8_reads_19 : decode cX8_reads 19 = .ok (.aload_n 0, 1) := by decide +kernel
theorem dX8_reads_20 : decode cX8_reads 20 = .ok (.dup, 1) := by decide +kernel
theorem dX8_reads_21 : decode cX8_reads 21 = .ok (.getfield 86, 3) := by decide +kernel
theorem dX8_reads_24 : decode cX8_reads 24 = .ok (.iconst 1, 1) := by decide +kernel
theorem dX8_reads_25 : decode cX8_reads 25 = .ok (.iadd, 1) := by decide +kernel
theorem dX8_reads_26 : decode cX8_reads 26 = .ok (.putfield 86, 3) := by decide +kernel
theorem dX8_reads_29 : decode cX8_reads 29 = .ok (.goto (-24), 3) := by decide +kernel
theorem dX8_reads_32 : decode cX8_reads 32 = .ok (.return_, 1) := by decide +kernel
theorem dX8_isWord_0 : decode cX8_isWord 0 = .ok (.aload_n 0, 1) := by decide +kernel
theorem dX8_isWord_1 : decode cX8_isWord 1 = .ok (.getfield 86, 3) := by decide +kernel
theorem dX8_isWord_4 : decode cX8_isWord 4 = .ok (.aload_n 0, 1) := by decide +kernel
theorem dX8_isWord_5 : decode cX8_isWord 5 = .ok (.getfield 93, 3) := by decide +kernel
theorem dX8_isWord_8 : decode cX8_isWord 8 = .ok (.isub, 1) := by decide +kernel
theorem dX8_isWord_9 : decode cX8_isWord 9 = .ok (.aload_n 1, 1) := by decide +kernel
theorem dX8_isWord_10 : decode cX8_isWord 10 = .ok (.invokevirtual 105, 3) := by decide +kernel
theorem dX8_isWord_13 : decode cX8_isWord 13 = .ok (.if_icmp .ne 7, 3) := by decide +kernel
theorem dX8_isWord_16 : decode cX8_isWord 16 = .ok (.iconst 1, 1) := by decide +kernel
theorem dX8_isWord_17 : decode cX8_isWord 17 = .ok (.goto 4, 3) := by decide +kernel
theorem dX8_isWord_20 : decode cX8_isWord 20 = .ok (.iconst 0, 1) := by decide +kernel
theorem dX8_isWord_21 : decode cX8_isWord 21 = .ok (.istore_n 2, 1) := by decide +kernel
theorem dX8_isWord_22 : decode cX8_isWord 22 = .ok (.iconst 0, 1) := by decide +kernel
theorem dX8_isWord_23 : decode cX8_isWord 23 = .ok (.istore_n 3, 1) := by decide +kernel
theorem dX8_isWord_24 : decode cX8_isWord 24 = .ok (.iload_n 2, 1) := by decide +kernel
theorem dX8_isWord_25 : decode cX8_isWord 25 = .ok (.ifCond .eq 42, 3) := by decide +kernel
theorem dX8_isWord_28 : decode cX8_isWord 28 = .ok (.iload_n 3, 1) := by decide +kernel
theorem dX8_isWord_29 : decode cX8_isWord 29 = .ok (.aload_n 1, 1) := by decide +kernel
theorem dX8_isWord_30 : decode cX8_isWord 30 = .ok (.invokevirtual 105, 3) := by decide +kernel
theorem dX8_isWord_33 : decode cX8_isWord 33 = .ok (.if_icmp .ge 34, 3) := by decide +kernel
theorem dX8_isWord_36 : decode cX8_isWord 36 = .ok (.aload_n 0, 1) := by decide +kernel
theorem dX8_isWord_37 : decode cX8_isWord 37 = .ok (.getfield 29, 3) := by decide +kernel
theorem dX8_isWord_40 : decode cX8_isWord 40 = .ok (.aload_n 0, 1) := by decide +kernel
theorem dX8_isWord_41 : decode cX8_isWord 41 = .ok (.getfield 93, 3) := by decide +kernel
theorem dX8_isWord_44 : decode cX8_isWord 44 = .ok (.iload_n 3, 1) := by decide +kernel
theorem dX8_isWord_45 : decode cX8_isWord 45 = .ok (.iadd, 1) := by decide +kernel
theorem dX8_isWord_46 : decode cX8_isWord 46 = .ok (.baload, 1) := by decide +kernel
theorem dX8_isWord_47 : decode cX8_isWord 47 = .ok (.aload_n 1, 1) := by decide +kernel
theorem dX8_isWord_48 : decode cX8_isWord 48 = .ok (.iload_n 3, 1) := by decide +kernel
theorem dX8_isWord_49 : decode cX8_isWord 49 = .ok (.invokevirtual 109, 3) := by decide +kernel
theorem dX8_isWord_52 : decode cX8_isWord 52 = .ok (.if_icmp .ne 7, 3) := by decide +kernel
theorem dX8_isWord_55 : decode cX8_isWord 55 = .ok (.iconst 1, 1) := by decide +kernel
theorem dX8_isWord_56 : decode cX8_isWord 56 = .ok (.goto 4, 3) := by decide +kernel
theorem dX8_isWord_59 : decode cX8_isWord 59 = .ok (.iconst 0, 1) := by decide +kernel
theorem dX8_isWord_60 : decode cX8_isWord 60 = .ok (.istore_n 2, 1) := by decide +kernel
theorem dX8_isWord_61 : decode cX8_isWord 61 = .ok (.iinc 3 1, 3) := by decide +kernel
theorem dX8_isWord_64 : decode cX8_isWord 64 = .ok (.goto (-40), 3) := by decide +kernel
theorem dX8_isWord_67 : decode cX8_isWord 67 = .ok (.iload_n 2, 1) := by decide +kernel
theorem dX8_isWord_68 : decode cX8_isWord 68 = .ok (.ireturn, 1) := by decide +kernel
theorem dX8_digits_0 : decode cX8_digits 0 = .ok (.iconst 0, 1) := by decide +kernel
theorem dX8_digits_1 : decode cX8_digits 1 = .ok (.istore_n 1, 1) := by decide +kernel
theorem dX8_digits_2 : decode cX8_digits 2 = .ok (.aload_n 0, 1) := by decide +kernel
theorem dX8_digits_3 : decode cX8_digits 3 = .ok (.invokevirtual 89, 3) := by decide +kernel
theorem dX8_digits_6 : decode cX8_digits 6 = .ok (.bipush 48, 2) := by decide +kernel
theorem dX8_digits_8 : decode cX8_digits 8 = .ok (.bipush 57, 2) := by decide +kernel
theorem dX8_digits_10 : decode cX8_digits 10 = .ok (.invokestatic 62, 3) := by decide +kernel
theorem dX8_digits_13 : decode cX8_digits 13 = .ok (.ifCond .eq 34, 3) := by decide +kernel
theorem dX8_digits_16 : decode cX8_digits 16 = .ok (.ldc 113, 2) := by decide +kernel
theorem dX8_digits_18 : decode cX8_digits 18 = .ok (.bipush 10, 2) := by decide +kernel
theorem dX8_digits_20 : decode cX8_digits 20 = .ok (.iload_n 1, 1) := by decide +kernel
theorem dX8_digits_21 : decode cX8_digits 21 = .ok (.imul, 1) := by decide +kernel
theorem dX8_digits_22 : decode cX8_digits 22 = .ok (.aload_n 0, 1) := by decide +kernel
theorem dX8_digits_23 : decode cX8_digits 23 = .ok (.invokevirtual 89, 3) := by decide +kernel
theorem dX8_digits_26 : decode cX8_digits 26 = .ok (.iadd, 1) := by decide +kernel
theorem dX8_digits_27 : decode cX8_digits 27 = .ok (.bipush 48, 2) := by decide +kernel
theorem dX8_digits_29 : decode cX8_digits 29 = .ok (.isub, 1) := by decide +kernel
theorem dX8_digits_30 : decode cX8_digits 30 = .ok (.invokestatic 114, 3) := by decide +kernel
theorem dX8_digits_33 : decode cX8_digits 33 = .ok (.istore_n 1, 1) := by decide +kernel
theorem dX8_digits_34 : decode cX8_digits 34 = .ok (.aload_n 0, 1) := by decide +kernel
theorem dX8_digits_35 : decode cX8_digits 35 = .ok (.dup, 1) := by decide +kernel
theorem dX8_digits_36 : decode cX8_digits 36 = .ok (.getfield 86, 3) := by decide +kernel
theorem dX8_digits_39 : decode cX8_digits 39 = .ok (.iconst 1, 1) := by decide +kernel
theorem dX8_digits_40 : decode cX8_digits 40 = .ok (.iadd, 1) := by decide +kernel
theorem dX8_digits_41 : decode cX8_digits 41 = .ok (.putfield 86, 3) := by decide +kernel
theorem dX8_digits_44 : decode cX8_digits 44 = .ok (.goto (-42), 3) := by decide +kernel
theorem dX8_digits_47 : decode cX8_digits 47 = .ok (.iload_n 1, 1) := by decide +kernel
theorem dX8_digits_48 : decode cX8_digits 48 = .ok (.ireturn, 1) := by decide +kernel
theorem dX8_number_0 : decode cX8_number 0 = .ok (.aload_n 0, 1) := by decide +kernel
theorem dX8_number_1 : decode cX8_number 1 = .ok (.getfield 96, 3) := by decide +kernel
theorem dX8_number_4 : decode cX8_number 4 = .ok (.ifCond .eq 5, 3) := by decide +kernel
theorem dX8_number_7 : decode cX8_number 7 = .ok (.iload_n 1, 1) := by decide +kernel
theorem dX8_number_8 : decode cX8_number 8 = .ok (.ireturn, 1) := by decide +kernel
theorem dX8_number_9 : decode cX8_number 9 = .ok (.aload_n 0, 1) := by decide +kernel
theorem dX8_number_10 : decode cX8_number 10 = .ok (.invokevirtual 102, 3) := by decide +kernel
theorem dX8_number_13 : decode cX8_number 13 = .ok (.bipush 48, 2) := by decide +kernel
theorem dX8_number_15 : decode cX8_number 15 = .ok (.bipush 57, 2) := by decide +kernel
theorem dX8_number_17 : decode cX8_number 17 = .ok (.invokestatic 62, 3) := by decide +kernel
theorem dX8_number_20 : decode cX8_number 20 = .ok (.ifCond .ne 10, 3) := by decide +kernel
theorem dX8_number_23 : decode cX8_number 23 = .ok (.aload_n 0, 1) := by decide +kernel
theorem dX8_number_24 : decode cX8_number 24 = .ok (.iconst 1, 1) := by decide +kernel
theorem dX8_number_25 : decode cX8_number 25 = .ok (.invokevirtual 120, 3) := by decide +kernel
theorem dX8_number_28 : decode cX8_number 28 = .ok (.iload_n 1, 1) := by decide +kernel
theorem dX8_number_29 : decode cX8_number 29 = .ok (.ireturn, 1) := by decide +kernel
theorem dX8_number_30 : decode cX8_number 30 = .ok (.aload_n 0, 1) := by decide +kernel
theorem dX8_number_31 : decode cX8_number 31 = .ok (.invokevirtual 124, 3) := by decide +kernel
theorem dX8_number_34 : decode cX8_number 34 = .ok (.istore_n 3, 1) := by decide +kernel
theorem dX8_number_35 : decode cX8_number 35 = .ok (.iload_n 3, 1) := by decide +kernel
theorem dX8_number_36 : decode cX8_number 36 = .ok (.iload_n 1, 1) := by decide +kernel
theorem dX8_number_37 : decode cX8_number 37 = .ok (.iload_n 2, 1) := by decide +kernel
theorem dX8_number_38 : decode cX8_number 38 = .ok (.invokestatic 62, 3) := by decide +kernel
theorem dX8_number_41 : decode cX8_number 41 = .ok (.ifCond .ne 10, 3) := by decide +kernel
theorem dX8_number_44 : decode cX8_number 44 = .ok (.aload_n 0, 1) := by decide +kernel
theorem dX8_number_45 : decode cX8_number 45 = .ok (.iconst 2, 1) := by decide +kernel
theorem dX8_number_46 : decode cX8_number 46 = .ok (.invokevirtual 120, 3) := by decide +kernel
theorem dX8_number_49 : decode cX8_number 49 = .ok (.iload_n 1, 1) := by decide +kernel
theorem dX8_number_50 : decode cX8_number 50 = .ok (.ireturn, 1) := by decide +kernel
theorem dX8_number_51 : decode cX8_number 51 = .ok (.iload_n 3, 1) := by decide +kernel
theorem dX8_number_52 : decode cX8_number 52 = .ok (.ireturn, 1) := by decide +kernel
theorem dX8_gamePart_0 : decode cX8_gamePart 0 = .ok (.aload_n 0, 1) := by decide +kernel
theorem dX8_gamePart_1 : decode cX8_gamePart 1 = .ok (.getfield 127, 3) := by decide +kernel
theorem dX8_gamePart_4 : decode cX8_gamePart 4 = .ok (.ifCond .le 8, 3) := by decide +kernel
theorem dX8_gamePart_7 : decode cX8_gamePart 7 = .ok (.aload_n 0, 1) := by decide +kernel
theorem dX8_gamePart_8 : decode cX8_gamePart 8 = .ok (.iconst 1, 1) := by decide +kernel
theorem dX8_gamePart_9 : decode cX8_gamePart 9 = .ok (.invokevirtual 120, 3) := by decide +kernel
theorem dX8_gamePart_12 : decode cX8_gamePart 12 = .ok (.aload_n 0, 1) := by decide +kernel
theorem dX8_gamePart_13 : decode cX8_gamePart 13 = .ok (.getfield 13, 3) := by decide +kernel
theorem dX8_gamePart_16 : decode cX8_gamePart 16 = .ok (.iconst 0, 1) := by decide +kernel
theorem dX8_gamePart_17 : decode cX8_gamePart 17 = .ok (.aload_n 0, 1) := by decide +kernel
theorem dX8_gamePart_18 : decode cX8_gamePart 18 = .ok (.iconst 1, 1) := by decide +kernel
theorem dX8_gamePart_19 : decode cX8_gamePart 19 = .ok (.iconst 4, 1) := by decide +kernel
theorem dX8_gamePart_20 : decode cX8_gamePart 20 = .ok (.invokevirtual 130, 3) := by decide +kernel
theorem dX8_gamePart_23 : decode cX8_gamePart 23 = .ok (.iastore, 1) := by decide +kernel
theorem dX8_gamePart_24 : decode cX8_gamePart 24 = .ok (.aload_n 0, 1) := by decide +kernel
theorem dX8_gamePart_25 : decode cX8_gamePart 25 = .ok (.getfield 13, 3) := by decide +kernel
theorem dX8_gamePart_28 : decode cX8_gamePart 28 = .ok (.iconst 1, 1) := by decide +kernel
theorem dX8_gamePart_29 : decode cX8_gamePart 29 = .ok (.aload_n 0, 1) := by decide +kernel
theorem dX8_gamePart_30 : decode cX8_gamePart 30 = .ok (.iconst 1, 1) := by decide +kernel
theorem dX8_gamePart_31 : decode cX8_gamePart 31 = .ok (.iconst 5, 1) := by decide +kernel
theorem dX8_gamePart_32 : decode cX8_gamePart 32 = .ok (.invokevirtual 130, 3) := by decide +kernel
theorem dX8_gamePart_35 : decode cX8_gamePart 35 = .ok (.iastore, 1) := by decide +kernel
theorem dX8_gamePart_36 : decode cX8_gamePart 36 = .ok (.aload_n 0, 1) := by decide +kernel
theorem dX8_gamePart_37 : decode cX8_gamePart 37 = .ok (.getfield 13, 3) := by decide +kernel
theorem dX8_gamePart_40 : decode cX8_gamePart 40 = .ok (.iconst 2, 1) := by decide +kernel
theorem dX8_gamePart_41 : decode cX8_gamePart 41 = .ok (.aload_n 0, 1) := by decide +kernel
theorem dX8_gamePart_42 : decode cX8_gamePart 42 = .ok (.iconst 2, 1) := by decide +kernel
theorem dX8_gamePart_43 : decode cX8_gamePart 43 = .ok (.iconst 4, 1) := by decide +kernel
theorem dX8_gamePart_44 : decode cX8_gamePart 44 = .ok (.invokevirtual 130, 3) := by decide +kernel
theorem dX8_gamePart_47 : decode cX8_gamePart 47 = .ok (.iastore, 1) := by decide +kernel
theorem dX8_gamePart_48 : decode cX8_gamePart 48 = .ok (.aload_n 0, 1) := by decide +kernel
theorem dX8_gamePart_49 : decode cX8_gamePart 49 = .ok (.getfield 13, 3) := by decide +kernel
theorem dX8_gamePart_52 : decode cX8_gamePart 52 = .ok (.iconst 3, 1) := by decide +kernel
theorem dX8_gamePart_53 : decode cX8_gamePart 53 = .ok (.aload_n 0, 1) := by decide +kernel
theorem dX8_gamePart_54 : decode cX8_gamePart 54 = .ok (.iconst 1, 1) := by decide +kernel
theorem dX8_gamePart_55 : decode cX8_gamePart 55 = .ok (.iconst 5, 1) := by decide +kernel
theorem dX8_gamePart_56 : decode cX8_gamePart 56 = .ok (.invokevirtual 130, 3) := by decide +kernel
theorem dX8_gamePart_59 : decode cX8_gamePart 59 = .ok (.iastore, 1) := by decide +kernel
theorem dX8_gamePart_60 : decode cX8_gamePart 60 = .ok (.return_, 1) := by decide +kernel
theorem dX8_cardPart_0 : decode cX8_cardPart 0 = .ok (.aload_n 0, 1) := by decide +kernel
theorem dX8_cardPart_1 : decode cX8_cardPart 1 = .ok (.invokevirtual 133, 3) := by decide +kernel
theorem dX8_cardPart_4 : decode cX8_cardPart 4 = .ok (.aload_n 0, 1) := by decide +kernel
theorem dX8_cardPart_5 : decode cX8_cardPart 5 = .ok (.getfield 86, 3) := by decide +kernel
theorem dX8_cardPart_8 : decode cX8_cardPart 8 = .ok (.aload_n 0, 1) := by decide +kernel
theorem dX8_cardPart_9 : decode cX8_cardPart 9 = .ok (.getfield 93, 3) := by decide +kernel
theorem dX8_cardPart_12 : decode cX8_cardPart 12 = .ok (.isub, 1) := by decide +kernel
theorem dX8_cardPart_13 : decode cX8_cardPart 13 = .ok (.iconst 1, 1) := by decide +kernel
theorem dX8_cardPart_14 : decode cX8_cardPart 14 = .ok (.if_icmp .ne 18, 3) := by decide +kernel
theorem dX8_cardPart_17 : decode cX8_cardPart 17 = .ok (.aload_n 0, 1) := by decide +kernel
theorem dX8_cardPart_18 : decode cX8_cardPart 18 = .ok (.getfield 29, 3) := by decide +kernel
theorem dX8_cardPart_21 : decode cX8_cardPart 21 = .ok (.aload_n 0, 1) := by decide +kernel
theorem dX8_cardPart_22 : decode cX8_cardPart 22 = .ok (.getfield 93, 3) := by decide +kernel
theorem dX8_cardPart_25 : decode cX8_cardPart 25 = .ok (.baload, 1) := by decide +kernel
theorem dX8_cardPart_26 : decode cX8_cardPart 26 = .ok (.bipush 97, 2) := by decide +kernel
theorem dX8_cardPart_28 : decode cX8_cardPart 28 = .ok (.isub, 1) := by decide +kernel
theorem dX8_cardPart_29 : decode cX8_cardPart 29 = .ok (.goto 4, 3) := by decide +kernel
theorem dX8_cardPart_32 : decode cX8_cardPart 32 = .ok (.iconst (-1), 1) := by decide +kernel
theorem dX8_cardPart_33 : decode cX8_cardPart 33 = .ok (.istore_n 1, 1) := by decide +kernel
theorem dX8_cardPart_34 : decode cX8_cardPart 34 = .ok (.iload_n 1, 1) := by decide +kernel
theorem dX8_cardPart_35 : decode cX8_cardPart 35 = .ok (.iconst (-1), 1) := by decide +kernel
theorem dX8_cardPart_36 : decode cX8_cardPart 36 = .ok (.if_icmp .eq 17, 3) := by decide +kernel
theorem dX8_cardPart_39 : decode cX8_cardPart 39 = .ok (.aload_n 0, 1) := by decide +kernel
theorem dX8_cardPart_40 : decode cX8_cardPart 40 = .ok (.invokevirtual 89, 3) := by decide +kernel
theorem dX8_cardPart_43 : decode cX8_cardPart 43 = .ok (.bipush 48, 2) := by decide +kernel
theorem dX8_cardPart_45 : decode cX8_cardPart 45 = .ok (.bipush 57, 2) := by decide +kernel
theorem dX8_cardPart_47 : decode cX8_cardPart 47 = .ok (.invokestatic 62, 3) := by decide +kernel
theorem dX8_cardPart_50 : decode cX8_cardPart 50 = .ok (.ifCond .ne 9, 3) := by decide +kernel
theorem dX8_cardPart_53 : decode cX8_cardPart 53 = .ok (.aload_n 0, 1) := by decide +kernel
theorem dX8_cardPart_54 : decode cX8_cardPart 54 = .ok (.iconst 1, 1) := by decide +kernel
theorem dX8_cardPart_55 : decode cX8_cardPart 55 = .ok (.invokevirtual 120, 3) := by decide +kernel
theorem dX8_cardPart_58 : decode cX8_cardPart 58 = .ok (.return_, 1) := by decide +kernel
theorem dX8_cardPart_59 : decode cX8_cardPart 59 = .ok (.aload_n 0, 1) := by decide +kernel
theorem dX8_cardPart_60 : decode cX8_cardPart 60 = .ok (.invokevirtual 124, 3) := by decide +kernel
theorem dX8_cardPart_63 : decode cX8_cardPart 63 = .ok (.istore_n 2, 1) := by decide +kernel
theorem dX8_cardPart_64 : decode cX8_cardPart 64 = .ok (.iload_n 1, 1) := by decide +kernel
theorem dX8_cardPart_65 : decode cX8_cardPart 65 = .ok (.aload_n 0, 1) := by decide +kernel
theorem dX8_cardPart_66 : decode cX8_cardPart 66 = .ok (.getfield 13, 3) := by decide +kernel
theorem dX8_cardPart_69 : decode cX8_cardPart 69 = .ok (.iconst 0, 1) := by decide +kernel
theorem dX8_cardPart_70 : decode cX8_cardPart 70 = .ok (.iaload, 1) := by decide +kernel
theorem dX8_cardPart_71 : decode cX8_cardPart 71 = .ok (.if_icmp .ge 17, 3) := by decide +kernel
theorem dX8_cardPart_74 : decode cX8_cardPart 74 = .ok (.iload_n 2, 1) := by decide +kernel
theorem dX8_cardPart_75 : decode cX8_cardPart 75 = .ok (.iconst 1, 1) := by decide +kernel
theorem dX8_cardPart_76 : decode cX8_cardPart 76 = .ok (.aload_n 0, 1) := by decide +kernel
theorem dX8_cardPart_77 : decode cX8_cardPart 77 = .ok (.getfield 13, 3) := by decide +kernel
theorem dX8_cardPart_80 : decode cX8_cardPart 80 = .ok (.iconst 1, 1) := by decide +kernel
theorem dX8_cardPart_81 : decode cX8_cardPart 81 = .ok (.iaload, 1) := by decide +kernel
theorem dX8_cardPart_82 : decode cX8_cardPart 82 = .ok (.invokestatic 62, 3) := by decide +kernel
theorem dX8_cardPart_85 : decode cX8_cardPart 85 = .ok (.ifCond .ne 11, 3) := by decide +kernel
theorem dX8_cardPart_88 : decode cX8_cardPart 88 = .ok (.aload_n 0, 1) := by decide +kernel
theorem dX8_cardPart_89 : decode cX8_cardPart 89 = .ok (.iconst 2, 1) := by decide +kernel
theorem dX8_cardPart_90 : decode cX8_cardPart 90 = .ok (.invokevirtual 120, 3) := by decide +kernel
theorem dX8_cardPart_93 : decode cX8_cardPart 93 = .ok (.goto 19, 3) := by decide +kernel
theorem dX8_cardPart_96 : decode cX8_cardPart 96 = .ok (.aload_n 0, 1) := by decide +kernel
theorem dX8_cardPart_97 : decode cX8_cardPart 97 = .ok (.getfield 13, 3) := by decide +kernel
theorem dX8_cardPart_100 : decode cX8_cardPart 100 = .ok (.iconst 4, 1) := by decide +kernel
theorem dX8_cardPart_101 : decode cX8_cardPart 101 = .ok (.iaload, 1) := by decide +kernel
theorem dX8_cardPart_102 : decode cX8_cardPart 102 = .ok (.bipush 40, 2) := by decide +kernel
theorem dX8_cardPart_104 : decode cX8_cardPart 104 = .ok (.if_icmp .ne 8, 3) := by decide +kernel
theorem dX8_cardPart_107 : decode cX8_cardPart 107 = .ok (.aload_n 0, 1) := by decide +kernel
theorem dX8_cardPart_108 : decode cX8_cardPart 108 = .ok (.iconst 3, 1) := by decide +kernel
theorem dX8_cardPart_109 : decode cX8_cardPart 109 = .ok (.invokevirtual 120, 3) := by decide +kernel
theorem dX8_cardPart_112 : decode cX8_cardPart 112 = .ok (.aload_n 0, 1) := by decide +kernel
theorem dX8_cardPart_113 : decode cX8_cardPart 113 = .ok (.getfield 96, 3) := by decide +kernel
theorem dX8_cardPart_116 : decode cX8_cardPart 116 = .ok (.ifCond .eq 4, 3) := by decide +kernel
theorem dX8_cardPart_119 : decode cX8_cardPart 119 = .ok (.return_, 1) := by decide +kernel
theorem dX8_cardPart_120 : decode cX8_cardPart 120 = .ok (.aload_n 0, 1) := by decide +kernel
theorem dX8_cardPart_121 : decode cX8_cardPart 121 = .ok (.getfield 13, 3) := by decide +kernel
theorem dX8_cardPart_124 : decode cX8_cardPart 124 = .ok (.bipush 27, 2) := by decide +kernel
theorem dX8_cardPart_126 : decode cX8_cardPart 126 = .ok (.aload_n 0, 1) := by decide +kernel
theorem dX8_cardPart_127 : decode cX8_cardPart 127 = .ok (.getfield 13, 3) := by decide +kernel
theorem dX8_cardPart_130 : decode cX8_cardPart 130 = .ok (.iconst 4, 1) := by decide +kernel
theorem dX8_cardPart_131 : decode cX8_cardPart 131 = .ok (.iaload, 1) := by decide +kernel
theorem dX8_cardPart_132 : decode cX8_cardPart 132 = .ok (.iadd, 1) := by decide +kernel
theorem dX8_cardPart_133 : decode cX8_cardPart 133 = .ok (.iload_n 1, 1) := by decide +kernel
theorem dX8_cardPart_134 : decode cX8_cardPart 134 = .ok (.iload_n 2, 1) := by decide +kernel
theorem dX8_cardPart_135 : decode cX8_cardPart 135 = .ok (.invokestatic 136, 3) := by decide +kernel
theorem dX8_cardPart_138 : decode cX8_cardPart 138 = .ok (.iastore, 1) := by decide +kernel
theorem dX8_cardPart_139 : decode cX8_cardPart 139 = .ok (.aload_n 0, 1) := by decide +kernel
theorem dX8_cardPart_140 : decode cX8_cardPart 140 = .ok (.getfield 13, 3) := by decide +kernel
theorem dX8_cardPart_143 : decode cX8_cardPart 143 = .ok (.iconst 4, 1) := by decide +kernel
theorem dX8_cardPart_144 : decode cX8_cardPart 144 = .ok (.dup2, 1) := by decide +kernel
theorem dX8_cardPart_145 : decode cX8_cardPart 145 = .ok (.iaload, 1) := by decide +kernel
theorem dX8_cardPart_146 : decode cX8_cardPart 146 = .ok (.iconst 1, 1) := by decide +kernel
theorem dX8_cardPart_147 : decode cX8_cardPart 147 = .ok (.iadd, 1) := by decide +kernel
theorem dX8_cardPart_148 : decode cX8_cardPart 148 = .ok (.iastore, 1) := by decide +kernel
theorem dX8_cardPart_149 : decode cX8_cardPart 149 = .ok (.return_, 1) := by decide +kernel
theorem dX8_deckPart_0 : decode cX8_deckPart 0 = .ok (.aload_n 0, 1) := by decide +kernel
theorem dX8_deckPart_1 : decode cX8_deckPart 1 = .ok (.invokevirtual 139, 3) := by decide +kernel
theorem dX8_deckPart_4 : decode cX8_deckPart 4 = .ok (.aload_n 0, 1) := by decide +kernel
theorem dX8_deckPart_5 : decode cX8_deckPart 5 = .ok (.getfield 96, 3) := by decide +kernel
theorem dX8_deckPart_8 : decode cX8_deckPart 8 = .ok (.ifCond .ne 17, 3) := by decide +kernel
theorem dX8_deckPart_11 : decode cX8_deckPart 11 = .ok (.aload_n 0, 1) := by decide +kernel
theorem dX8_deckPart_12 : decode cX8_deckPart 12 = .ok (.invokevirtual 102, 3) := by decide +kernel
theorem dX8_deckPart_15 : decode cX8_deckPart 15 = .ok (.bipush 97, 2) := by decide +kernel
theorem dX8_deckPart_17 : decode cX8_deckPart 17 = .ok (.bipush 122, 2) := by decide +kernel
theorem dX8_deckPart_19 : decode cX8_deckPart 19 = .ok (.invokestatic 62, 3) := by decide +kernel
theorem dX8_deckPart_22 : decode cX8_deckPart 22 = .ok (.ifCond .ne (-22), 3) := by decide +kernel
theorem dX8_deckPart_25 : decode cX8_deckPart 25 = .ok (.return_, 1) := by decide +kernel
theorem dX8_wordPart_0 : decode cX8_wordPart 0 = .ok (.iload_n 1, 1) := by decide +kernel
theorem dX8_wordPart_1 : decode cX8_wordPart 1 = .ok (.ifCond .eq 19, 3) := by decide +kernel
theorem dX8_wordPart_4 : decode cX8_wordPart 4 = .ok (.aload_n 0, 1) := by decide +kernel
theorem dX8_wordPart_5 : decode cX8_wordPart 5 = .ok (.iconst 0, 1) := by decide +kernel
theorem dX8_wordPart_6 : decode cX8_wordPart 6 = .ok (.aload_n 0, 1) := by decide +kernel
theorem dX8_wordPart_7 : decode cX8_wordPart 7 = .ok (.getfield 13, 3) := by decide +kernel
theorem dX8_wordPart_10 : decode cX8_wordPart 10 = .ok (.iconst 0, 1) := by decide +kernel
theorem dX8_wordPart_11 : decode cX8_wordPart 11 = .ok (.iaload, 1) := by decide +kernel
theorem dX8_wordPart_12 : decode cX8_wordPart 12 = .ok (.iconst 1, 1) := by decide +kernel
theorem dX8_wordPart_13 : decode cX8_wordPart 13 = .ok (.isub, 1) := by decide +kernel
theorem dX8_wordPart_14 : decode cX8_wordPart 14 = .ok (.invokevirtual 130, 3) := by decide +kernel
theorem dX8_wordPart_17 : decode cX8_wordPart 17 = .ok (.goto 14, 3) := by decide +kernel
theorem dX8_wordPart_20 : decode cX8_wordPart 20 = .ok (.aload_n 0, 1) := by decide +kernel
theorem dX8_wordPart_21 : decode cX8_wordPart 21 = .ok (.iconst 1, 1) := by decide +kernel
theorem dX8_wordPart_22 : decode cX8_wordPart 22 = .ok (.aload_n 0, 1) := by decide +kernel
theorem dX8_wordPart_23 : decode cX8_wordPart 23 = .ok (.getfield 13, 3) := by decide +kernel
theorem dX8_wordPart_26 : decode cX8_wordPart 26 = .ok (.iconst 1, 1) := by decide +kernel
theorem dX8_wordPart_27 : decode cX8_wordPart 27 = .ok (.iaload, 1) := by decide +kernel
theorem dX8_wordPart_28 : decode cX8_wordPart 28 = .ok (.invokevirtual 130, 3) := by decide +kernel
theorem dX8_wordPart_31 : decode cX8_wordPart 31 = .ok (.istore_n 2, 1) := by decide +kernel
theorem dX8_wordPart_32 : decode cX8_wordPart 32 = .ok (.aload_n 0, 1) := by decide +kernel
theorem dX8_wordPart_33 : decode cX8_wordPart 33 = .ok (.getfield 13, 3) := by decide +kernel
theorem dX8_wordPart_36 : decode cX8_wordPart 36 = .ok (.iload_n 1, 1) := by decide +kernel
theorem dX8_wordPart_37 : decode cX8_wordPart 37 = .ok (.ifCond .eq 7, 3) := by decide +kernel
theorem dX8_wordPart_40 : decode cX8_wordPart 40 = .ok (.iconst 0, 1) := by decide +kernel
theorem dX8_wordPart_41 : decode cX8_wordPart 41 = .ok (.goto 4, 3) := by decide +kernel
theorem dX8_wordPart_44 : decode cX8_wordPart 44 = .ok (.iconst 1, 1) := by decide +kernel
theorem dX8_wordPart_45 : decode cX8_wordPart 45 = .ok (.iload_n 2, 1) := by decide +kernel
theorem dX8_wordPart_46 : decode cX8_wordPart 46 = .ok (.invokestatic 142, 3) := by decide +kernel
theorem dX8_wordPart_49 : decode cX8_wordPart 49 = .ok (.aload_n 0, 1) := by decide +kernel
theorem dX8_wordPart_50 : decode cX8_wordPart 50 = .ok (.iconst 0, 1) := by decide +kernel
theorem dX8_wordPart_51 : decode cX8_wordPart 51 = .ok (.bipush 99, 2) := by decide +kernel
theorem dX8_wordPart_53 : decode cX8_wordPart 53 = .ok (.invokevirtual 130, 3) := by decide +kernel
theorem dX8_wordPart_56 : decode cX8_wordPart 56 = .ok (.iastore, 1) := by decide +kernel
theorem dX8_wordPart_57 : decode cX8_wordPart 57 = .ok (.return_, 1) := by decide +kernel
theorem dX8_statement_0 : decode cX8_statement 0 = .ok (.aload_n 0, 1) := by decide +kernel
theorem dX8_statement_1 : decode cX8_statement 1 = .ok (.invokevirtual 133, 3) := by decide +kernel
theorem dX8_statement_4 : decode cX8_statement 4 = .ok (.aload_n 0, 1) := by decide +kernel
theorem dX8_statement_5 : decode cX8_statement 5 = .ok (.ldc 145, 2) := by decide +kernel
theorem dX8_statement_7 : decode cX8_statement 7 = .ok (.invokevirtual 147, 3) := by decide +kernel
theorem dX8_statement_10 : decode cX8_statement 10 = .ok (.ifCond .eq 10, 3) := by decide +kernel
theorem dX8_statement_13 : decode cX8_statement 13 = .ok (.aload_n 0, 1) := by decide +kernel
theorem dX8_statement_14 : decode cX8_statement 14 = .ok (.invokevirtual 151, 3) := by decide +kernel
theorem dX8_statement_17 : decode cX8_statement 17 = .ok (.goto 166, 3) := by decide +kernel
theorem dX8_statement_20 : decode cX8_statement 20 = .ok (.aload_n 0, 1) := by decide +kernel
theorem dX8_statement_21 : decode cX8_statement 21 = .ok (.getfield 127, 3) := by decide +kernel
theorem dX8_statement_24 : decode cX8_statement 24 = .ok (.ifCond .ne 11, 3) := by decide +kernel
theorem dX8_statement_27 : decode cX8_statement 27 = .ok (.aload_n 0, 1) := by decide +kernel
theorem dX8_statement_28 : decode cX8_statement 28 = .ok (.iconst 1, 1) := by decide +kernel
theorem dX8_statement_29 : decode cX8_statement 29 = .ok (.invokevirtual 120, 3) := by decide +kernel
theorem dX8_statement_32 : decode cX8_statement 32 = .ok (.goto 151, 3) := by decide +kernel
theorem dX8_statement_35 : decode cX8_statement 35 = .ok (.aload_n 0, 1) := by decide +kernel
theorem dX8_statement_36 : decode cX8_statement 36 = .ok (.ldc 154, 2) := by decide +kernel
theorem dX8_statement_38 : decode cX8_statement 38 = .ok (.invokevirtual 147, 3) := by decide +kernel
theorem dX8_statement_41 : decode cX8_statement 41 = .ok (.ifCond .eq 10, 3) := by decide +kernel
theorem dX8_statement_44 : decode cX8_statement 44 = .ok (.aload_n 0, 1) := by decide +kernel
theorem dX8_statement_45 : decode cX8_statement 45 = .ok (.invokevirtual 156, 3) := by decide +kernel
theorem dX8_statement_48 : decode cX8_statement 48 = .ok (.goto 135, 3) := by decide +kernel
theorem dX8_statement_51 : decode cX8_statement 51 = .ok (.aload_n 0, 1) := by decide +kernel
theorem dX8_statement_52 : decode cX8_statement 52 = .ok (.ldc 159, 2) := by decide +kernel
theorem dX8_statement_54 : decode cX8_statement 54 = .ok (.invokevirtual 147, 3) := by decide +kernel
theorem dX8_statement_57 : decode cX8_statement 57 = .ok (.ifCond .eq 39, 3) := by decide +kernel
theorem dX8_statement_60 : decode cX8_statement 60 = .ok (.aload_n 0, 1) := by decide +kernel
theorem dX8_statement_61 : decode cX8_statement 61 = .ok (.getfield 13, 3) := by decide +kernel
theorem dX8_statement_64 : decode cX8_statement 64 = .ok (.bipush 6, 2) := by decide +kernel
theorem dX8_statement_66 : decode cX8_statement 66 = .ok (.aload_n 0, 1) := by decide +kernel
theorem dX8_statement_67 : decode cX8_statement 67 = .ok (.iconst 1, 1) := by decide +kernel
theorem dX8_statement_68 : decode cX8_statement 68 = .ok (.bipush 9, 2) := by decide +kernel
theorem dX8_statement_70 : decode cX8_statement 70 = .ok (.invokevirtual 130, 3) := by decide +kernel
theorem dX8_statement_73 : decode cX8_statement 73 = .ok (.iastore, 1) := by decide +kernel
theorem dX8_statement_74 : decode cX8_statement 74 = .ok (.aload_n 0, 1) := by decide +kernel
theorem dX8_statement_75 : decode cX8_statement 75 = .ok (.getfield 13, 3) := by decide +kernel
theorem dX8_statement_78 : decode cX8_statement 78 = .ok (.bipush 7, 2) := by decide +kernel
theorem dX8_statement_80 : decode cX8_statement 80 = .ok (.aload_n 0, 1) := by decide +kernel
theorem dX8_statement_81 : decode cX8_statement 81 = .ok (.iconst 0, 1) := by decide +kernel
theorem dX8_statement_82 : decode cX8_statement 82 = .ok (.aload_n 0, 1) := by decide +kernel
theorem dX8_statement_83 : decode cX8_statement 83 = .ok (.getfield 13, 3) := by decide +kernel
theorem dX8_statement_86 : decode cX8_statement 86 = .ok (.bipush 6, 2) := by decide +kernel
theorem dX8_statement_88 : decode cX8_statement 88 = .ok (.iaload, 1) := by decide +kernel
theorem dX8_statement_89 : decode cX8_statement 89 = .ok (.invokevirtual 130, 3) := by decide +kernel
theorem dX8_statement_92 : decode cX8_statement 92 = .ok (.iastore, 1) := by decide +kernel
theorem dX8_statement_93 : decode cX8_statement 93 = .ok (.goto 90, 3) := by decide +kernel
theorem dX8_statement_96 : decode cX8_statement 96 = .ok (.aload_n 0, 1) := by decide +kernel
theorem dX8_statement_97 : decode cX8_statement 97 = .ok (.ldc 161, 2) := by decide +kernel
theorem dX8_statement_99 : decode cX8_statement 99 = .ok (.invokevirtual 147, 3) := by decide +kernel
theorem dX8_statement_102 : decode cX8_statement 102 = .ok (.ifCond .eq 19, 3) := by decide +kernel
theorem dX8_statement_105 : decode cX8_statement 105 = .ok (.aload_n 0, 1) := by decide +kernel
theorem dX8_statement_106 : decode cX8_statement 106 = .ok (.getfield 13, 3) := by decide +kernel
theorem dX8_statement_109 : decode cX8_statement 109 = .ok (.bipush 8, 2) := by decide +kernel
theorem dX8_statement_111 : decode cX8_statement 111 = .ok (.aload_n 0, 1) := by decide +kernel
theorem dX8_statement_112 : decode cX8_statement 112 = .ok (.iconst 1, 1) := by decide +kernel
theorem dX8_statement_113 : decode cX8_statement 113 = .ok (.iconst 5, 1) := by decide +kernel
theorem dX8_statement_114 : decode cX8_statement 114 = .ok (.invokevirtual 130, 3) := by decide +kernel
theorem dX8_statement_117 : decode cX8_statement 117 = .ok (.iastore, 1) := by decide +kernel
theorem dX8_statement_118 : decode cX8_statement 118 = .ok (.goto 65, 3) := by decide +kernel
theorem dX8_statement_121 : decode cX8_statement 121 = .ok (.aload_n 0, 1) := by decide +kernel
theorem dX8_statement_122 : decode cX8_statement 122 = .ok (.ldc 163, 2) := by decide +kernel
theorem dX8_statement_124 : decode cX8_statement 124 = .ok (.invokevirtual 147, 3) := by decide +kernel
theorem dX8_statement_127 : decode cX8_statement 127 = .ok (.ifCond .eq 11, 3) := by decide +kernel
theorem dX8_statement_130 : decode cX8_statement 130 = .ok (.aload_n 0, 1) := by decide +kernel
theorem dX8_statement_131 : decode cX8_statement 131 = .ok (.iconst 1, 1) := by decide +kernel
theorem dX8_statement_132 : decode cX8_statement 132 = .ok (.invokevirtual 165, 3) := by decide +kernel
theorem dX8_statement_135 : decode cX8_statement 135 = .ok (.goto 48, 3) := by decide +kernel
theorem dX8_statement_138 : decode cX8_statement 138 = .ok (.aload_n 0, 1) := by decide +kernel
theorem dX8_statement_139 : decode cX8_statement 139 = .ok (.ldc 169, 2) := by decide +kernel
theorem dX8_statement_141 : decode cX8_statement 141 = .ok (.invokevirtual 147, 3) := by decide +kernel
theorem dX8_statement_144 : decode cX8_statement 144 = .ok (.ifCond .eq 11, 3) := by decide +kernel
theorem dX8_statement_147 : decode cX8_statement 147 = .ok (.aload_n 0, 1) := by decide +kernel
theorem dX8_statement_148 : decode cX8_statement 148 = .ok (.iconst 0, 1) := by decide +kernel
theorem dX8_statement_149 : decode cX8_statement 149 = .ok (.invokevirtual 165, 3) := by decide +kernel
theorem dX8_statement_152 : decode cX8_statement 152 = .ok (.goto 31, 3) := by decide +kernel
theorem dX8_statement_155 : decode cX8_statement 155 = .ok (.aload_n 0, 1) := by decide +kernel
theorem dX8_statement_156 : decode cX8_statement 156 = .ok (.ldc 171, 2) := by decide +kernel
theorem dX8_statement_158 : decode cX8_statement 158 = .ok (.invokevirtual 147, 3) := by decide +kernel
theorem dX8_statement_161 : decode cX8_statement 161 = .ok (.ifCond .eq 17, 3) := by decide +kernel
theorem dX8_statement_164 : decode cX8_statement 164 = .ok (.aload_n 0, 1) := by decide +kernel
theorem dX8_statement_165 : decode cX8_statement 165 = .ok (.aload_n 0, 1) := by decide +kernel
theorem dX8_statement_166 : decode cX8_statement 166 = .ok (.iconst 0, 1) := by decide +kernel
theorem dX8_statement_167 : decode cX8_statement 167 = .ok (.ldc 173, 2) := by decide +kernel
theorem dX8_statement_169 : decode cX8_statement 169 = .ok (.invokevirtual 130, 3) := by decide +kernel
theorem dX8_statement_172 : decode cX8_statement 172 = .ok (.putfield 174, 3) := by decide +kernel
theorem dX8_statement_175 : decode cX8_statement 175 = .ok (.goto 8, 3) := by decide +kernel
theorem dX8_statement_178 : decode cX8_statement 178 = .ok (.aload_n 0, 1) := by decide +kernel
theorem dX8_statement_179 : decode cX8_statement 179 = .ok (.iconst 1, 1) := by decide +kernel
theorem dX8_statement_180 : decode cX8_statement 180 = .ok (.invokevirtual 120, 3) := by decide +kernel
theorem dX8_statement_183 : decode cX8_statement 183 = .ok (.return_, 1) := by decide +kernel
theorem dX8_isMore_0 : decode cX8_isMore 0 = .ok (.aload_n 0, 1) := by decide +kernel
theorem dX8_isMore_1 : decode cX8_isMore 1 = .ok (.getfield 96, 3) := by decide +kernel
theorem dX8_isMore_4 : decode cX8_isMore 4 = .ok (.ifCond .ne 10, 3) := by decide +kernel
theorem dX8_isMore_7 : decode cX8_isMore 7 = .ok (.aload_n 0, 1) := by decide +kernel
theorem dX8_isMore_8 : decode cX8_isMore 8 = .ok (.invokevirtual 102, 3) := by decide +kernel
theorem dX8_isMore_11 : decode cX8_isMore 11 = .ok (.ifCond .ge 5, 3) := by decide +kernel
theorem dX8_isMore_14 : decode cX8_isMore 14 = .ok (.iconst 0, 1) := by decide +kernel
theorem dX8_isMore_15 : decode cX8_isMore 15 = .ok (.ireturn, 1) := by decide +kernel
theorem dX8_isMore_16 : decode cX8_isMore 16 = .ok (.aload_n 0, 1) := by decide +kernel
theorem dX8_isMore_17 : decode cX8_isMore 17 = .ok (.invokevirtual 89, 3) := by decide +kernel
theorem dX8_isMore_20 : decode cX8_isMore 20 = .ok (.bipush 59, 2) := by decide +kernel
theorem dX8_isMore_22 : decode cX8_isMore 22 = .ok (.if_icmp .eq 10, 3) := by decide +kernel
theorem dX8_isMore_25 : decode cX8_isMore 25 = .ok (.aload_n 0, 1) := by decide +kernel
theorem dX8_isMore_26 : decode cX8_isMore 26 = .ok (.iconst 1, 1) := by decide +kernel
theorem dX8_isMore_27 : decode cX8_isMore 27 = .ok (.invokevirtual 120, 3) := by decide +kernel
theorem dX8_isMore_30 : decode cX8_isMore 30 = .ok (.iconst 0, 1) := by decide +kernel
theorem dX8_isMore_31 : decode cX8_isMore 31 = .ok (.ireturn, 1) := by decide +kernel
theorem dX8_isMore_32 : decode cX8_isMore 32 = .ok (.aload_n 0, 1) := by decide +kernel
theorem dX8_isMore_33 : decode cX8_isMore 33 = .ok (.dup, 1) := by decide +kernel
theorem dX8_isMore_34 : decode cX8_isMore 34 = .ok (.getfield 86, 3) := by decide +kernel
theorem dX8_isMore_37 : decode cX8_isMore 37 = .ok (.iconst 1, 1) := by decide +kernel
theorem dX8_isMore_38 : decode cX8_isMore 38 = .ok (.iadd, 1) := by decide +kernel
theorem dX8_isMore_39 : decode cX8_isMore 39 = .ok (.putfield 86, 3) := by decide +kernel
theorem dX8_isMore_42 : decode cX8_isMore 42 = .ok (.aload_n 0, 1) := by decide +kernel
theorem dX8_isMore_43 : decode cX8_isMore 43 = .ok (.dup, 1) := by decide +kernel
theorem dX8_isMore_44 : decode cX8_isMore 44 = .ok (.getfield 127, 3) := by decide +kernel
theorem dX8_isMore_47 : decode cX8_isMore 47 = .ok (.iconst 1, 1) := by decide +kernel
theorem dX8_isMore_48 : decode cX8_isMore 48 = .ok (.iadd, 1) := by decide +kernel
theorem dX8_isMore_49 : decode cX8_isMore 49 = .ok (.putfield 127, 3) := by decide +kernel
theorem dX8_isMore_52 : decode cX8_isMore 52 = .ok (.iconst 1, 1) := by decide +kernel
theorem dX8_isMore_53 : decode cX8_isMore 53 = .ok (.ireturn, 1) := by decide +kernel
theorem dX8_shuffles_0 : decode cX8_shuffles 0 = .ok (.aload_n 0, 1) := by decide +kernel
theorem dX8_shuffles_1 : decode cX8_shuffles 1 = .ok (.getfield 174, 3) := by decide +kernel
theorem dX8_shuffles_4 : decode cX8_shuffles 4 = .ok (.i2l, 1) := by decide +kernel
theorem dX8_shuffles_5 : decode cX8_shuffles 5 = .ok (.lstore_n 1, 1) := by decide +kernel
theorem dX8_shuffles_6 : decode cX8_shuffles 6 = .ok (.aload_n 0, 1) := by decide +kernel
theorem dX8_shuffles_7 : decode cX8_shuffles 7 = .ok (.getfield 13, 3) := by decide +kernel
theorem dX8_shuffles_10 : decode cX8_shuffles 10 = .ok (.iconst 4, 1) := by decide +kernel
theorem dX8_shuffles_11 : decode cX8_shuffles 11 = .ok (.iaload, 1) := by decide +kernel
theorem dX8_shuffles_12 : decode cX8_shuffles 12 = .ok (.iconst 1, 1) := by decide +kernel
theorem dX8_shuffles_13 : decode cX8_shuffles 13 = .ok (.isub, 1) := by decide +kernel
theorem dX8_shuffles_14 : decode cX8_shuffles 14 = .ok (.istore_n 3, 1) := by decide +kernel
theorem dX8_shuffles_15 : decode cX8_shuffles 15 = .ok (.iload_n 3, 1) := by decide +kernel
theorem dX8_shuffles_16 : decode cX8_shuffles 16 = .ok (.ifCond .le 86, 3) := by decide +kernel
theorem dX8_shuffles_19 : decode cX8_shuffles 19 = .ok (.aload_n 0, 1) := by decide +kernel
theorem dX8_shuffles_20 : decode cX8_shuffles 20 = .ok (.getfield 174, 3) := by decide +kernel
theorem dX8_shuffles_23 : decode cX8_shuffles 23 = .ok (.iconst (-1), 1) := by decide +kernel
theorem dX8_shuffles_24 : decode cX8_shuffles 24 = .ok (.if_icmp .eq 78, 3) := by decide +kernel
theorem dX8_shuffles_27 : decode cX8_shuffles 27 = .ok (.lload_n 1, 1) := by decide +kernel
theorem dX8_shuffles_28 : decode cX8_shuffles 28 = .ok (.ldc2_w 177, 3) := by decide +kernel
theorem dX8_shuffles_31 : decode cX8_shuffles 31 = .ok (.lmul, 1) := by decide +kernel
theorem dX8_shuffles_32 : decode cX8_shuffles 32 = .ok (.ldc2_w 179, 3) := by decide +kernel
theorem dX8_shuffles_35 : decode cX8_shuffles 35 = .ok (.ladd, 1) := by decide +kernel
theorem dX8_shuffles_36 : decode cX8_shuffles 36 = .ok (.ldc2_w 181, 3) := by decide +kernel
theorem dX8_shuffles_39 : decode cX8_shuffles 39 = .ok (.lrem, 1) := by decide +kernel
theorem dX8_shuffles_40 : decode cX8_shuffles 40 = .ok (.lstore_n 1, 1) := by decide +kernel
theorem dX8_shuffles_41 : decode cX8_shuffles 41 = .ok (.lload_n 1, 1) := by decide +kernel
theorem dX8_shuffles_42 : decode cX8_shuffles 42 = .ok (.ldc2_w 183, 3) := by decide +kernel
theorem dX8_shuffles_45 : decode cX8_shuffles 45 = .ok (.ldiv, 1) := by decide +kernel
theorem dX8_shuffles_46 : decode cX8_shuffles 46 = .ok (.iload_n 3, 1) := by decide +kernel
theorem dX8_shuffles_47 : decode cX8_shuffles 47 = .ok (.iconst 1, 1) := by decide +kernel
theorem dX8_shuffles_48 : decode cX8_shuffles 48 = .ok (.iadd, 1) := by decide +kernel
theorem dX8_shuffles_49 : decode cX8_shuffles 49 = .ok (.i2l, 1) := by decide +kernel
theorem dX8_shuffles_50 : decode cX8_shuffles 50 = .ok (.lrem, 1) := by decide +kernel
theorem dX8_shuffles_51 : decode cX8_shuffles 51 = .ok (.l2i, 1) := by decide +kernel
theorem dX8_shuffles_52 : decode cX8_shuffles 52 = .ok (.istore 4, 2) := by decide +kernel
theorem dX8_shuffles_54 : decode cX8_shuffles 54 = .ok (.aload_n 0, 1) := by decide +kernel
theorem dX8_shuffles_55 : decode cX8_shuffles 55 = .ok (.getfield 13, 3) := by decide +kernel
theorem dX8_shuffles_58 : decode cX8_shuffles 58 = .ok (.bipush 27, 2) := by decide +kernel
theorem dX8_shuffles_60 : decode cX8_shuffles 60 = .ok (.iload_n 3, 1) := by decide +kernel
theorem dX8_shuffles_61 : decode cX8_shuffles 61 = .ok (.iadd, 1) := by decide +kernel
theorem dX8_shuffles_62 : decode cX8_shuffles 62 = .ok (.iaload, 1) := by decide +kernel
theorem dX8_shuffles_63 : decode cX8_shuffles 63 = .ok (.istore 5, 2) := by decide +kernel
theorem dX8_shuffles_65 : decode cX8_shuffles 65 = .ok (.aload_n 0, 1) := by decide +kernel
theorem dX8_shuffles_66 : decode cX8_shuffles 66 = .ok (.getfield 13, 3) := by decide +kernel
theorem dX8_shuffles_69 : decode cX8_shuffles 69 = .ok (.bipush 27, 2) := by decide +kernel
theorem dX8_shuffles_71 : decode cX8_shuffles 71 = .ok (.iload_n 3, 1) := by decide +kernel
theorem dX8_shuffles_72 : decode cX8_shuffles 72 = .ok (.iadd, 1) := by decide +kernel
theorem dX8_shuffles_73 : decode cX8_shuffles 73 = .ok (.aload_n 0, 1) := by decide +kernel
theorem dX8_shuffles_74 : decode cX8_shuffles 74 = .ok (.getfield 13, 3) := by decide +kernel
theorem dX8_shuffles_77 : decode cX8_shuffles 77 = .ok (.bipush 27, 2) := by decide +kernel
theorem dX8_shuffles_79 : decode cX8_shuffles 79 = .ok (.iload 4, 2) := by decide +kernel
theorem dX8_shuffles_81 : decode cX8_shuffles 81 = .ok (.iadd, 1) := by decide +kernel
theorem dX8_shuffles_82 : decode cX8_shuffles 82 = .ok (.iaload, 1) := by decide +kernel
theorem dX8_shuffles_83 : decode cX8_shuffles 83 = .ok (.iastore, 1) := by decide +kernel
theorem dX8_shuffles_84 : decode cX8_shuffles 84 = .ok (.aload_n 0, 1) := by decide +kernel
theorem dX8_shuffles_85 : decode cX8_shuffles 85 = .ok (.getfield 13, 3) := by decide +kernel
theorem dX8_shuffles_88 : decode cX8_shuffles 88 = .ok (.bipush 27, 2) := by decide +kernel
theorem dX8_shuffles_90 : decode cX8_shuffles 90 = .ok (.iload 4, 2) := by decide +kernel
theorem dX8_shuffles_92 : decode cX8_shuffles 92 = .ok (.iadd, 1) := by decide +kernel
theorem dX8_shuffles_93 : decode cX8_shuffles 93 = .ok (.iload 5, 2) := by decide +kernel
theorem dX8_shuffles_95 : decode cX8_shuffles 95 = .ok (.iastore, 1) := by decide +kernel
theorem dX8_shuffles_96 : decode cX8_shuffles 96 = .ok (.iinc 3 (-1), 3) := by decide +kernel
theorem dX8_shuffles_99 : decode cX8_shuffles 99 = .ok (.goto (-84), 3) := by decide +kernel
theorem dX8_shuffles_102 : decode cX8_shuffles 102 = .ok (.return_, 1) := by decide +kernel
theorem dX8_load_0 : decode cX8_load 0 = .ok (.aload_n 0, 1) := by decide +kernel
theorem dX8_load_1 : decode cX8_load 1 = .ok (.iconst 0, 1) := by decide +kernel
theorem dX8_load_2 : decode cX8_load 2 = .ok (.putfield 59, 3) := by decide +kernel
theorem dX8_load_5 : decode cX8_load 5 = .ok (.aload_n 0, 1) := by decide +kernel
theorem dX8_load_6 : decode cX8_load 6 = .ok (.iconst 0, 1) := by decide +kernel
theorem dX8_load_7 : decode cX8_load 7 = .ok (.putfield 86, 3) := by decide +kernel
theorem dX8_load_10 : decode cX8_load 10 = .ok (.aload_n 0, 1) := by decide +kernel
theorem dX8_load_11 : decode cX8_load 11 = .ok (.iconst 0, 1) := by decide +kernel
theorem dX8_load_12 : decode cX8_load 12 = .ok (.putfield 96, 3) := by decide +kernel
theorem dX8_load_15 : decode cX8_load 15 = .ok (.aload_n 0, 1) := by decide +kernel
theorem dX8_load_16 : decode cX8_load 16 = .ok (.iconst 0, 1) := by decide +kernel
theorem dX8_load_17 : decode cX8_load 17 = .ok (.putfield 127, 3) := by decide +kernel
theorem dX8_load_20 : decode cX8_load 20 = .ok (.aload_n 0, 1) := by decide +kernel
theorem dX8_load_21 : decode cX8_load 21 = .ok (.iconst (-1), 1) := by decide +kernel
theorem dX8_load_22 : decode cX8_load 22 = .ok (.putfield 174, 3) := by decide +kernel
theorem dX8_load_25 : decode cX8_load 25 = .ok (.iconst 0, 1) := by decide +kernel
theorem dX8_load_26 : decode cX8_load 26 = .ok (.istore_n 1, 1) := by decide +kernel
theorem dX8_load_27 : decode cX8_load 27 = .ok (.iload_n 1, 1) := by decide +kernel
theorem dX8_load_28 : decode cX8_load 28 = .ok (.sipush 358, 3) := by decide +kernel
theorem dX8_load_31 : decode cX8_load 31 = .ok (.if_icmp .ge 32, 3) := by decide +kernel
theorem dX8_load_34 : decode cX8_load 34 = .ok (.aload_n 0, 1) := by decide +kernel
theorem dX8_load_35 : decode cX8_load 35 = .ok (.getfield 13, 3) := by decide +kernel
theorem dX8_load_38 : decode cX8_load 38 = .ok (.iload_n 1, 1) := by decide +kernel
theorem dX8_load_39 : decode cX8_load 39 = .ok (.iload_n 1, 1) := by decide +kernel
theorem dX8_load_40 : decode cX8_load 40 = .ok (.bipush 18, 2) := by decide +kernel
theorem dX8_load_42 : decode cX8_load 42 = .ok (.bipush 26, 2) := by decide +kernel
theorem dX8_load_44 : decode cX8_load 44 = .ok (.invokestatic 62, 3) := by decide +kernel
theorem dX8_load_47 : decode cX8_load 47 = .ok (.ifCond .eq 8, 3) := by decide +kernel
theorem dX8_load_50 : decode cX8_load 50 = .ok (.bipush 99, 2) := by decide +kernel
theorem dX8_load_52 : decode cX8_load 52 = .ok (.goto 4, 3) := by decide +kernel
theorem dX8_load_55 : decode cX8_load 55 = .ok (.iconst 0, 1) := by decide +kernel
theorem dX8_load_56 : decode cX8_load 56 = .ok (.iastore, 1) := by decide +kernel
theorem dX8_load_57 : decode cX8_load 57 = .ok (.iinc 1 1, 3) := by decide +kernel
theorem dX8_load_60 : decode cX8_load 60 = .ok (.goto (-33), 3) := by decide +kernel
theorem dX8_load_63 : decode cX8_load 63 = .ok (.aload_n 0, 1) := by decide +kernel
theorem dX8_load_64 : decode cX8_load 64 = .ok (.getfield 13, 3) := by decide +kernel
theorem dX8_load_67 : decode cX8_load 67 = .ok (.bipush 6, 2) := by decide +kernel
theorem dX8_load_69 : decode cX8_load 69 = .ok (.bipush 8, 2) := by decide +kernel
theorem dX8_load_71 : decode cX8_load 71 = .ok (.iastore, 1) := by decide +kernel
theorem dX8_load_72 : decode cX8_load 72 = .ok (.aload_n 0, 1) := by decide +kernel
theorem dX8_load_73 : decode cX8_load 73 = .ok (.getfield 13, 3) := by decide +kernel
theorem dX8_load_76 : decode cX8_load 76 = .ok (.bipush 7, 2) := by decide +kernel
theorem dX8_load_78 : decode cX8_load 78 = .ok (.bipush 8, 2) := by decide +kernel
theorem dX8_load_80 : decode cX8_load 80 = .ok (.iastore, 1) := by decide +kernel
theorem dX8_load_81 : decode cX8_load 81 = .ok (.aload_n 0, 1) := by decide +kernel
theorem dX8_load_82 : decode cX8_load 82 = .ok (.getfield 13, 3) := by decide +kernel
theorem dX8_load_85 : decode cX8_load 85 = .ok (.bipush 8, 2) := by decide +kernel
theorem dX8_load_87 : decode cX8_load 87 = .ok (.iconst 3, 1) := by decide +kernel
theorem dX8_load_88 : decode cX8_load 88 = .ok (.iastore, 1) := by decide +kernel
theorem dX8_load_89 : decode cX8_load 89 = .ok (.aload_n 0, 1) := by decide +kernel
theorem dX8_load_90 : decode cX8_load 90 = .ok (.invokevirtual 185, 3) := by decide +kernel
theorem dX8_load_93 : decode cX8_load 93 = .ok (.aload_n 0, 1) := by decide +kernel
theorem dX8_load_94 : decode cX8_load 94 = .ok (.invokevirtual 187, 3) := by decide +kernel
theorem dX8_load_97 : decode cX8_load 97 = .ok (.ifCond .eq 10, 3) := by decide +kernel
theorem dX8_load_100 : decode cX8_load 100 = .ok (.aload_n 0, 1) := by decide +kernel
theorem dX8_load_101 : decode cX8_load 101 = .ok (.invokevirtual 185, 3) := by decide +kernel
theorem dX8_load_104 : decode cX8_load 104 = .ok (.goto (-11), 3) := by decide +kernel
theorem dX8_load_107 : decode cX8_load 107 = .ok (.aload_n 0, 1) := by decide +kernel
theorem dX8_load_108 : decode cX8_load 108 = .ok (.getfield 96, 3) := by decide +kernel
theorem dX8_load_111 : decode cX8_load 111 = .ok (.ifCond .ne 38, 3) := by decide +kernel
theorem dX8_load_114 : decode cX8_load 114 = .ok (.aload_n 0, 1) := by decide +kernel
theorem dX8_load_115 : decode cX8_load 115 = .ok (.getfield 13, 3) := by decide +kernel
theorem dX8_load_118 : decode cX8_load 118 = .ok (.iconst 4, 1) := by decide +kernel
theorem dX8_load_119 : decode cX8_load 119 = .ok (.iaload, 1) := by decide +kernel
theorem dX8_load_120 : decode cX8_load 120 = .ok (.aload_n 0, 1) := by decide +kernel
theorem dX8_load_121 : decode cX8_load 121 = .ok (.getfield 13, 3) := by decide +kernel
theorem dX8_load_124 : decode cX8_load 124 = .ok (.iconst 2, 1) := by decide +kernel
theorem dX8_load_125 : decode cX8_load 125 = .ok (.iaload, 1) := by decide +kernel
theorem dX8_load_126 : decode cX8_load 126 = .ok (.aload_n 0, 1) := by decide +kernel
theorem dX8_load_127 : decode cX8_load 127 = .ok (.getfield 13, 3) := by decide +kernel
theorem dX8_load_130 : decode cX8_load 130 = .ok (.iconst 3, 1) := by decide +kernel
theorem dX8_load_131 : decode cX8_load 131 = .ok (.iaload, 1) := by decide +kernel
theorem dX8_load_132 : decode cX8_load 132 = .ok (.imul, 1) := by decide +kernel
theorem dX8_load_133 : decode cX8_load 133 = .ok (.if_icmp .ge 16, 3) := by decide +kernel
theorem dX8_load_136 : decode cX8_load 136 = .ok (.aload_n 0, 1) := by decide +kernel
theorem dX8_load_137 : decode cX8_load 137 = .ok (.aload_n 0, 1) := by decide +kernel
theorem dX8_load_138 : decode cX8_load 138 = .ok (.getfield 83, 3) := by decide +kernel
theorem dX8_load_141 : decode cX8_load 141 = .ok (.putfield 93, 3) := by decide +kernel
theorem dX8_load_144 : decode cX8_load 144 = .ok (.aload_n 0, 1) := by decide +kernel
theorem dX8_load_145 : decode cX8_load 145 = .ok (.iconst 4, 1) := by decide +kernel
theorem dX8_load_146 : decode cX8_load 146 = .ok (.invokevirtual 120, 3) := by decide +kernel
theorem dX8_load_149 : decode cX8_load 149 = .ok (.aload_n 0, 1) := by decide +kernel
theorem dX8_load_150 : decode cX8_load 150 = .ok (.iconst 0, 1) := by decide +kernel
theorem dX8_load_151 : decode cX8_load 151 = .ok (.putfield 83, 3) := by decide +kernel
theorem dX8_load_154 : decode cX8_load 154 = .ok (.aload_n 0, 1) := by decide +kernel
theorem dX8_load_155 : decode cX8_load 155 = .ok (.aload_n 0, 1) := by decide +kernel
theorem dX8_load_156 : decode cX8_load 156 = .ok (.getfield 96, 3) := by decide +kernel
theorem dX8_load_159 : decode cX8_load 159 = .ok (.putfield 191, 3) := by decide +kernel
theorem dX8_load_162 : decode cX8_load 162 = .ok (.aload_n 0, 1) := by decide +kernel
theorem dX8_load_163 : decode cX8_load 163 = .ok (.aload_n 0, 1) := by decide +kernel
theorem dX8_load_164 : decode cX8_load 164 = .ok (.getfield 96, 3) := by decide +kernel
theorem dX8_load_167 : decode cX8_load 167 = .ok (.ifCond .ne 7, 3) := by decide +kernel
theorem dX8_load_170 : decode cX8_load 170 = .ok (.iconst (-1), 1) := by decide +kernel
theorem dX8_load_171 : decode cX8_load 171 = .ok (.goto 7, 3) := by decide +kernel
theorem dX8_load_174 : decode cX8_load 174 = .ok (.aload_n 0, 1) := by decide +kernel
theorem dX8_load_175 : decode cX8_load 175 = .ok (.getfield 127, 3) := by decide +kernel
theorem dX8_load_178 : decode cX8_load 178 = .ok (.putfield 33, 3) := by decide +kernel
theorem dX8_load_181 : decode cX8_load 181 = .ok (.aload_n 0, 1) := by decide +kernel
theorem dX8_load_182 : decode cX8_load 182 = .ok (.getfield 96, 3) := by decide +kernel
theorem dX8_load_185 : decode cX8_load 185 = .ok (.ifCond .eq 11, 3) := by decide +kernel
theorem dX8_load_188 : decode cX8_load 188 = .ok (.bipush (-100), 2) := by decide +kernel
theorem dX8_load_190 : decode cX8_load 190 = .ok (.aload_n 0, 1) := by decide +kernel
theorem dX8_load_191 : decode cX8_load 191 = .ok (.getfield 99, 3) := by decide +kernel
theorem dX8_load_194 : decode cX8_load 194 = .ok (.isub, 1) := by decide +kernel
theorem dX8_load_195 : decode cX8_load 195 = .ok (.ireturn, 1) := by decide +kernel
theorem dX8_load_196 : decode cX8_load 196 = .ok (.aload_n 0, 1) := by decide +kernel
theorem dX8_load_197 : decode cX8_load 197 = .ok (.invokevirtual 194, 3) := by decide +kernel
theorem dX8_load_200 : decode cX8_load 200 = .ok (.aload_n 0, 1) := by decide +kernel
theorem dX8_load_201 : decode cX8_load 201 = .ok (.getfield 13, 3) := by decide +kernel
theorem dX8_load_204 : decode cX8_load 204 = .ok (.iconst 0, 1) := by decide +kernel
theorem dX8_load_205 : decode cX8_load 205 = .ok (.aload_n 0, 1) := by decide +kernel
theorem dX8_load_206 : decode cX8_load 206 = .ok (.getfield 9, 3) := by decide +kernel
theorem dX8_load_209 : decode cX8_load 209 = .ok (.iconst 0, 1) := by decide +kernel
theorem dX8_load_210 : decode cX8_load 210 = .ok (.invokestatic 197, 3) := by decide +kernel
theorem dX8_load_213 : decode cX8_load 213 = .ok (.aload_n 0, 1) := by decide +kernel
theorem dX8_load_214 : decode cX8_load 214 = .ok (.iconst 0, 1) := by decide +kernel
theorem dX8_load_215 : decode cX8_load 215 = .ok (.putfield 200, 3) := by decide +kernel
theorem dX8_load_218 : decode cX8_load 218 = .ok (.aload_n 0, 1) := by decide +kernel
theorem dX8_load_219 : decode cX8_load 219 = .ok (.getfield 9, 3) := by decide +kernel
theorem dX8_load_222 : decode cX8_load 222 = .ok (.bipush 9, 2) := by decide +kernel
theorem dX8_load_224 : decode cX8_load 224 = .ok (.iconst (-1), 1) := by decide +kernel
theorem dX8_load_225 : decode cX8_load 225 = .ok (.iastore, 1) := by decide +kernel
theorem dX8_load_226 : decode cX8_load 226 = .ok (.iconst 0, 1) := by decide +kernel
theorem dX8_load_227 : decode cX8_load 227 = .ok (.istore_n 1, 1) := by decide +kernel
theorem dX8_load_228 : decode cX8_load 228 = .ok (.iload_n 1, 1) := by decide +kernel
theorem dX8_load_229 : decode cX8_load 229 = .ok (.bipush 40, 2) := by decide +kernel
theorem dX8_load_231 : decode cX8_load 231 = .ok (.if_icmp .ge 47, 3) := by decide +kernel
theorem dX8_load_234 : decode cX8_load 234 = .ok (.aload_n 0, 1) := by decide +kernel
theorem dX8_load_235 : decode cX8_load 235 = .ok (.getfield 9, 3) := by decide +kernel
theorem dX8_load_238 : decode cX8_load 238 = .ok (.bipush 67, 2) := by decide +kernel
theorem dX8_load_240 : decode cX8_load 240 = .ok (.iload_n 1, 1) := by decide +kernel
theorem dX8_load_241 : decode cX8_load 241 = .ok (.iadd, 1) := by decide +kernel
theorem dX8_load_242 : decode cX8_load 242 = .ok (.iconst 1, 1) := by decide +kernel
theorem dX8_load_243 : decode cX8_load 243 = .ok (.aload_n 0, 1) := by decide +kernel
theorem dX8_load_244 : decode cX8_load 244 = .ok (.getfield 9, 3) := by decide +kernel
theorem dX8_load_247 : decode cX8_load 247 = .ok (.iconst 0, 1) := by decide +kernel
theorem dX8_load_248 : decode cX8_load 248 = .ok (.iaload, 1) := by decide +kernel
theorem dX8_load_249 : decode cX8_load 249 = .ok (.ishl, 1) := by decide +kernel
theorem dX8_load_250 : decode cX8_load 250 = .ok (.iconst 1, 1) := by decide +kernel
theorem dX8_load_251 : decode cX8_load 251 = .ok (.isub, 1) := by decide +kernel
theorem dX8_load_252 : decode cX8_load 252 = .ok (.iastore, 1) := by decide +kernel
theorem dX8_load_253 : decode cX8_load 253 = .ok (.aload_n 0, 1) := by decide +kernel
theorem dX8_load_254 : decode cX8_load 254 = .ok (.getfield 9, 3) := by decide +kernel
theorem dX8_load_257 : decode cX8_load 257 = .ok (.bipush 107, 2) := by decide +kernel
theorem dX8_load_259 : decode cX8_load 259 = .ok (.iload_n 1, 1) := by decide +kernel
theorem dX8_load_260 : decode cX8_load 260 = .ok (.iadd, 1) := by decide +kernel
theorem dX8_load_261 : decode cX8_load 261 = .ok (.iconst 1, 1) := by decide +kernel
theorem dX8_load_262 : decode cX8_load 262 = .ok (.aload_n 0, 1) := by decide +kernel
theorem dX8_load_263 : decode cX8_load 263 = .ok (.getfield 9, 3) := by decide +kernel
theorem dX8_load_266 : decode cX8_load 266 = .ok (.iconst 1, 1) := by decide +kernel
theorem dX8_load_267 : decode cX8_load 267 = .ok (.iaload, 1) := by decide +kernel
theorem dX8_load_268 : decode cX8_load 268 = .ok (.ishl, 1) := by decide +kernel
theorem dX8_load_269 : decode cX8_load 269 = .ok (.iconst 1, 1) := by decide +kernel
theorem dX8_load_270 : decode cX8_load 270 = .ok (.isub, 1) := by decide +kernel
theorem dX8_load_271 : decode cX8_load 271 = .ok (.iastore, 1) := by decide +kernel
theorem dX8_load_272 : decode cX8_load 272 = .ok (.iinc 1 1, 3) := by decide +kernel
theorem dX8_load_275 : decode cX8_load 275 = .ok (.goto (-47), 3) := by decide +kernel
theorem dX8_load_278 : decode cX8_load 278 = .ok (.iconst 0, 1) := by decide +kernel
theorem dX8_load_279 : decode cX8_load 279 = .ok (.istore_n 1, 1) := by decide +kernel
theorem dX8_load_280 : decode cX8_load 280 = .ok (.iload_n 1, 1) := by decide +kernel
theorem dX8_load_281 : decode cX8_load 281 = .ok (.aload_n 0, 1) := by decide +kernel
theorem dX8_load_282 : decode cX8_load 282 = .ok (.getfield 9, 3) := by decide +kernel
theorem dX8_load_285 : decode cX8_load 285 = .ok (.iconst 2, 1) := by decide +kernel
theorem dX8_load_286 : decode cX8_load 286 = .ok (.iaload, 1) := by decide +kernel
theorem dX8_load_287 : decode cX8_load 287 = .ok (.if_icmp .ge 32, 3) := by decide +kernel
theorem dX8_load_290 : decode cX8_load 290 = .ok (.iconst 0, 1) := by decide +kernel
theorem dX8_load_291 : decode cX8_load 291 = .ok (.istore_n 2, 1) := by decide +kernel
theorem dX8_load_292 : decode cX8_load 292 = .ok (.iload_n 2, 1) := by decide +kernel
theorem dX8_load_293 : decode cX8_load 293 = .ok (.aload_n 0, 1) := by decide +kernel
theorem dX8_load_294 : decode cX8_load 294 = .ok (.getfield 9, 3) := by decide +kernel
theorem dX8_load_297 : decode cX8_load 297 = .ok (.iconst 3, 1) := by decide +kernel
theorem dX8_load_298 : decode cX8_load 298 = .ok (.iaload, 1) := by decide +kernel
theorem dX8_load_299 : decode cX8_load 299 = .ok (.if_icmp .ge 14, 3) := by decide +kernel
theorem dX8_load_302 : decode cX8_load 302 = .ok (.aload_n 0, 1) := by decide +kernel
theorem dX8_load_303 : decode cX8_load 303 = .ok (.iload_n 1, 1) := by decide +kernel
theorem dX8_load_304 : decode cX8_load 304 = .ok (.invokevirtual 203, 3) := by decide +kernel
theorem dX8_load_307 : decode cX8_load 307 = .ok (.iinc 2 1, 3) := by decide +kernel
theorem dX8_load_310 : decode cX8_load 310 = .ok (.goto (-18), 3) := by decide +kernel
theorem dX8_load_313 : decode cX8_load 313 = .ok (.iinc 1 1, 3) := by decide +kernel
theorem dX8_load_316 : decode cX8_load 316 = .ok (.goto (-36), 3) := by decide +kernel
theorem dX8_load_319 : decode cX8_load 319 = .ok (.aload_n 0, 1) := by decide +kernel
theorem dX8_load_320 : decode cX8_load 320 = .ok (.getfield 9, 3) := by decide +kernel
theorem dX8_load_323 : decode cX8_load 323 = .ok (.iconst 5, 1) := by decide +kernel
theorem dX8_load_324 : decode cX8_load 324 = .ok (.iaload, 1) := by decide +kernel
theorem dX8_load_325 : decode cX8_load 325 = .ok (.aload_n 0, 1) := by decide +kernel
theorem dX8_load_326 : decode cX8_load 326 = .ok (.getfield 9, 3) := by decide +kernel
theorem dX8_load_329 : decode cX8_load 329 = .ok (.iconst 4, 1) := by decide +kernel
theorem dX8_load_330 : decode cX8_load 330 = .ok (.iaload, 1) := by decide +kernel
theorem dX8_load_331 : decode cX8_load 331 = .ok (.if_icmp .ne 16, 3) := by decide +kernel
theorem dX8_load_334 : decode cX8_load 334 = .ok (.aload_n 0, 1) := by decide +kernel
theorem dX8_load_335 : decode cX8_load 335 = .ok (.getfield 9, 3) := by decide +kernel
theorem dX8_load_338 : decode cX8_load 338 = .ok (.bipush 9, 2) := by decide +kernel
theorem dX8_load_340 : decode cX8_load 340 = .ok (.aload_n 0, 1) := by decide +kernel
theorem dX8_load_341 : decode cX8_load 341 = .ok (.getfield 9, 3) := by decide +kernel
theorem dX8_load_344 : decode cX8_load 344 = .ok (.iconst 2, 1) := by decide +kernel
theorem dX8_load_345 : decode cX8_load 345 = .ok (.iaload, 1) := by decide +kernel
theorem dX8_load_346 : decode cX8_load 346 = .ok (.iastore, 1) := by decide +kernel
theorem dX8_load_347 : decode cX8_load 347 = .ok (.aload_n 0, 1) := by decide +kernel
theorem dX8_load_348 : decode cX8_load 348 = .ok (.getfield 9, 3) := by decide +kernel
theorem dX8_load_351 : decode cX8_load 351 = .ok (.iconst 4, 1) := by decide +kernel
theorem dX8_load_352 : decode cX8_load 352 = .ok (.iaload, 1) := by decide +kernel
theorem dX8_load_353 : decode cX8_load 353 = .ok (.ireturn, 1) := by decide +kernel
theorem dX8_loadError_0 : decode cX8_loadError 0 = .ok (.aload_n 0, 1) := by decide +kernel
theorem dX8_loadError_1 : decode cX8_loadError 1 = .ok (.iconst 0, 1) := by decide +kernel
theorem dX8_loadError_2 : decode cX8_loadError 2 = .ok (.putfield 59, 3) := by decide +kernel
theorem dX8_loadError_5 : decode cX8_loadError 5 = .ok (.aload_n 0, 1) := by decide +kernel
theorem dX8_loadError_6 : decode cX8_loadError 6 = .ok (.getfield 191, 3) := by decide +kernel
theorem dX8_loadError_9 : decode cX8_loadError 9 = .ok (.ireturn, 1) := by decide +kernel
theorem dX8_loadStatement_0 : decode cX8_loadStatement 0 = .ok (.aload_n 0, 1) := by decide +kernel
theorem dX8_loadStatement_1 : decode cX8_loadStatement 1 = .ok (.iconst 0, 1) := by decide +kernel
theorem dX8_loadStatement_2 : decode cX8_loadStatement 2 = .ok (.putfield 59, 3) := by decide +kernel
theorem dX8_loadStatement_5 : decode cX8_loadStatement 5 = .ok (.aload_n 0, 1) := by decide +kernel
theorem dX8_loadStatement_6 : decode cX8_loadStatement 6 = .ok (.getfield 33, 3) := by decide +kernel
theorem dX8_loadStatement_9 : decode cX8_loadStatement 9 = .ok (.ireturn, 1) := by decide +kernel
theorem dX8_draws_0 : decode cX8_draws 0 = .ok (.aload_n 0, 1) := by decide +kernel
theorem dX8_draws_1 : decode cX8_draws 1 = .ok (.getfield 9, 3) := by decide +kernel
theorem dX8_draws_4 : decode cX8_draws 4 = .ok (.iconst 5, 1) := by decide +kernel
theorem dX8_draws_5 : decode cX8_draws 5 = .ok (.iaload, 1) := by decide +kernel
theorem dX8_draws_6 : decode cX8_draws 6 = .ok (.aload_n 0, 1) := by decide +kernel
theorem dX8_draws_7 : decode cX8_draws 7 = .ok (.getfield 9, 3) := by decide +kernel
theorem dX8_draws_10 : decode cX8_draws 10 = .ok (.iconst 4, 1) := by decide +kernel
theorem dX8_draws_11 : decode cX8_draws 11 = .ok (.iaload, 1) := by decide +kernel
theorem dX8_draws_12 : decode cX8_draws 12 = .ok (.if_icmp .ge 56, 3) := by decide +kernel
theorem dX8_draws_15 : decode cX8_draws 15 = .ok (.aload_n 0, 1) := by decide +kernel
theorem dX8_draws_16 : decode cX8_draws 16 = .ok (.getfield 9, 3) := by decide +kernel
theorem dX8_draws_19 : decode cX8_draws 19 = .ok (.sipush 191, 3) := by decide +kernel
theorem dX8_draws_22 : decode cX8_draws 22 = .ok (.iconst 5, 1) := by decide +kernel
theorem dX8_draws_23 : decode cX8_draws 23 = .ok (.iload_n 1, 1) := by decide +kernel
theorem dX8_draws_24 : decode cX8_draws 24 = .ok (.imul, 1) := by decide +kernel
theorem dX8_draws_25 : decode cX8_draws 25 = .ok (.iadd, 1) := by decide +kernel
theorem dX8_draws_26 : decode cX8_draws 26 = .ok (.aload_n 0, 1) := by decide +kernel
theorem dX8_draws_27 : decode cX8_draws 27 = .ok (.getfield 9, 3) := by decide +kernel
theorem dX8_draws_30 : decode cX8_draws 30 = .ok (.sipush 187, 3) := by decide +kernel
theorem dX8_draws_33 : decode cX8_draws 33 = .ok (.iload_n 1, 1) := by decide +kernel
theorem dX8_draws_34 : decode cX8_draws 34 = .ok (.iadd, 1) := by decide +kernel
theorem dX8_draws_35 : decode cX8_draws 35 = .ok (.iaload, 1) := by decide +kernel
theorem dX8_draws_36 : decode cX8_draws 36 = .ok (.iadd, 1) := by decide +kernel
theorem dX8_draws_37 : decode cX8_draws 37 = .ok (.aload_n 0, 1) := by decide +kernel
theorem dX8_draws_38 : decode cX8_draws 38 = .ok (.getfield 9, 3) := by decide +kernel
theorem dX8_draws_41 : decode cX8_draws 41 = .ok (.iconst 5, 1) := by decide +kernel
theorem dX8_draws_42 : decode cX8_draws 42 = .ok (.iaload, 1) := by decide +kernel
theorem dX8_draws_43 : decode cX8_draws 43 = .ok (.iastore, 1) := by decide +kernel
theorem dX8_draws_44 : decode cX8_draws 44 = .ok (.aload_n 0, 1) := by decide +kernel
theorem dX8_draws_45 : decode cX8_draws 45 = .ok (.getfield 9, 3) := by decide +kernel
theorem dX8_draws_48 : decode cX8_draws 48 = .ok (.sipush 187, 3) := by decide +kernel
theorem dX8_draws_51 : decode cX8_draws 51 = .ok (.iload_n 1, 1) := by decide +kernel
theorem dX8_draws_52 : decode cX8_draws 52 = .ok (.iadd, 1) := by decide +kernel
theorem dX8_draws_53 : decode cX8_draws 53 = .ok (.dup2, 1) := by decide +kernel
theorem dX8_draws_54 : decode cX8_draws 54 = .ok (.iaload, 1) := by decide +kernel
theorem dX8_draws_55 : decode cX8_draws 55 = .ok (.iconst 1, 1) := by decide +kernel
theorem dX8_draws_56 : decode cX8_draws 56 = .ok (.iadd, 1) := by decide +kernel
theorem dX8_draws_57 : decode cX8_draws 57 = .ok (.iastore, 1) := by decide +kernel
theorem dX8_draws_58 : decode cX8_draws 58 = .ok (.aload_n 0, 1) := by decide +kernel
theorem dX8_draws_59 : decode cX8_draws 59 = .ok (.getfield 9, 3) := by decide +kernel
theorem dX8_draws_62 : decode cX8_draws 62 = .ok (.iconst 5, 1) := by decide +kernel
theorem dX8_draws_63 : decode cX8_draws 63 = .ok (.dup2, 1) := by decide +kernel
theorem dX8_draws_64 : decode cX8_draws 64 = .ok (.iaload, 1) := by decide +kernel
theorem dX8_draws_65 : decode cX8_draws 65 = .ok (.iconst 1, 1) := by decide +kernel
theorem dX8_draws_66 : decode cX8_draws 66 = .ok (.iadd, 1) := by decide +kernel
theorem dX8_draws_67 : decode cX8_draws 67 = .ok (.iastore, 1) := by decide +kernel
theorem dX8_draws_68 : decode cX8_draws 68 = .ok (.return_, 1) := by decide +kernel
theorem dX8_score_0 : decode cX8_score 0 = .ok (.iconst 0, 1) := by decide +kernel
theorem dX8_score_1 : decode cX8_score 1 = .ok (.istore_n 1, 1) := by decide +kernel
theorem dX8_score_2 : decode cX8_score 2 = .ok (.iconst 0, 1) := by decide +kernel
theorem dX8_score_3 : decode cX8_score 3 = .ok (.istore_n 2, 1) := by decide +kernel
theorem dX8_score_4 : decode cX8_score 4 = .ok (.iload_n 2, 1) := by decide +kernel
theorem dX8_score_5 : decode cX8_score 5 = .ok (.iconst 4, 1) := by decide +kernel
theorem dX8_score_6 : decode cX8_score 6 = .ok (.if_icmp .ge 21, 3) := by decide +kernel
theorem dX8_score_9 : decode cX8_score 9 = .ok (.iload_n 1, 1) := by decide +kernel
theorem dX8_score_10 : decode cX8_score 10 = .ok (.aload_n 0, 1) := by decide +kernel
theorem dX8_score_11 : decode cX8_score 11 = .ok (.getfield 9, 3) := by decide +kernel
theorem dX8_score_14 : decode cX8_score 14 = .ok (.bipush 14, 2) := by decide +kernel
theorem dX8_score_16 : decode cX8_score 16 = .ok (.iload_n 2, 1) := by decide +kernel
theorem dX8_score_17 : decode cX8_score 17 = .ok (.iadd, 1) := by decide +kernel
theorem dX8_score_18 : decode cX8_score 18 = .ok (.iaload, 1) := by decide +kernel
theorem dX8_score_19 : decode cX8_score 19 = .ok (.iadd, 1) := by decide +kernel
theorem dX8_score_20 : decode cX8_score 20 = .ok (.istore_n 1, 1) := by decide +kernel
theorem dX8_score_21 : decode cX8_score 21 = .ok (.iinc 2 1, 3) := by decide +kernel
theorem dX8_score_24 : decode cX8_score 24 = .ok (.goto (-20), 3) := by decide +kernel
theorem dX8_score_27 : decode cX8_score 27 = .ok (.iload_n 1, 1) := by decide +kernel
theorem dX8_score_28 : decode cX8_score 28 = .ok (.ireturn, 1) := by decide +kernel
theorem dX8_count_0 : decode cX8_count 0 = .ok (.aload_n 0, 1) := by decide +kernel
theorem dX8_count_1 : decode cX8_count 1 = .ok (.iload_n 1, 1) := by decide +kernel
theorem dX8_count_2 : decode cX8_count 2 = .ok (.iconst 0, 1) := by decide +kernel
theorem dX8_count_3 : decode cX8_count 3 = .ok (.bipush 10, 2) := by decide +kernel
theorem dX8_count_5 : decode cX8_count 5 = .ok (.invokestatic 62, 3) := by decide +kernel
theorem dX8_count_8 : decode cX8_count 8 = .ok (.iconst 1, 1) := by decide +kernel
theorem dX8_count_9 : decode cX8_count 9 = .ok (.invokevirtual 206, 3) := by decide +kernel
theorem dX8_count_12 : decode cX8_count 12 = .ok (.ifCond .eq 5, 3) := by decide +kernel
theorem dX8_count_15 : decode cX8_count 15 = .ok (.iconst 0, 1) := by decide +kernel
theorem dX8_count_16 : decode cX8_count 16 = .ok (.ireturn, 1) := by decide +kernel
theorem dX8_count_17 : decode cX8_count 17 = .ok (.iload_n 1, 1) := by decide +kernel
theorem dX8_count_18 : decode cX8_count 18 = .ok (.tableswitch 98 4 10 #[42, 56, 64, 72, 77, 85, 93], 42) := by decide +kernel
theorem dX8_count_60 : decode cX8_count 60 = .ok (.aload_n 0, 1) := by decide +kernel
theorem dX8_count_61 : decode cX8_count 61 = .ok (.getfield 9, 3) := by decide +kernel
theorem dX8_count_64 : decode cX8_count 64 = .ok (.iconst 4, 1) := by decide +kernel
theorem dX8_count_65 : decode cX8_count 65 = .ok (.iaload, 1) := by decide +kernel
theorem dX8_count_66 : decode cX8_count 66 = .ok (.aload_n 0, 1) := by decide +kernel
theorem dX8_count_67 : decode cX8_count 67 = .ok (.getfield 9, 3) := by decide +kernel
theorem dX8_count_70 : decode cX8_count 70 = .ok (.iconst 5, 1) := by decide +kernel
theorem dX8_count_71 : decode cX8_count 71 = .ok (.iaload, 1) := by decide +kernel
theorem dX8_count_72 : decode cX8_count 72 = .ok (.isub, 1) := by decide +kernel
theorem dX8_count_73 : decode cX8_count 73 = .ok (.ireturn, 1) := by decide +kernel
theorem dX8_count_74 : decode cX8_count 74 = .ok (.aload_n 0, 1) := by decide +kernel
theorem dX8_count_75 : decode cX8_count 75 = .ok (.getfield 9, 3) := by decide +kernel
theorem dX8_count_78 : decode cX8_count 78 = .ok (.bipush 7, 2) := by decide +kernel
theorem dX8_count_80 : decode cX8_count 80 = .ok (.iaload, 1) := by decide +kernel
theorem dX8_count_81 : decode cX8_count 81 = .ok (.ireturn, 1) := by decide +kernel
theorem dX8_count_82 : decode cX8_count 82 = .ok (.aload_n 0, 1) := by decide +kernel
theorem dX8_count_83 : decode cX8_count 83 = .ok (.getfield 9, 3) := by decide +kernel
theorem dX8_count_86 : decode cX8_count 86 = .ok (.bipush 8, 2) := by decide +kernel
theorem dX8_count_88 : decode cX8_count 88 = .ok (.iaload, 1) := by decide +kernel
theorem dX8_count_89 : decode cX8_count 89 = .ok (.ireturn, 1) := by decide +kernel
theorem dX8_count_90 : decode cX8_count 90 = .ok (.aload_n 0, 1) := by decide +kernel
theorem dX8_count_91 : decode cX8_count 91 = .ok (.invokevirtual 210, 3) := by decide +kernel
theorem dX8_count_94 : decode cX8_count 94 = .ok (.ireturn, 1) := by decide +kernel
theorem dX8_count_95 : decode cX8_count 95 = .ok (.aload_n 0, 1) := by decide +kernel
theorem dX8_count_96 : decode cX8_count 96 = .ok (.getfield 9, 3) := by decide +kernel
theorem dX8_count_99 : decode cX8_count 99 = .ok (.bipush 11, 2) := by decide +kernel
theorem dX8_count_101 : decode cX8_count 101 = .ok (.iaload, 1) := by decide +kernel
theorem dX8_count_102 : decode cX8_count 102 = .ok (.ireturn, 1) := by decide +kernel
theorem dX8_count_103 : decode cX8_count 103 = .ok (.aload_n 0, 1) := by decide +kernel
theorem dX8_count_104 : decode cX8_count 104 = .ok (.getfield 9, 3) := by decide +kernel
theorem dX8_count_107 : decode cX8_count 107 = .ok (.bipush 9, 2) := by decide +kernel
theorem dX8_count_109 : decode cX8_count 109 = .ok (.iaload, 1) := by decide +kernel
theorem dX8_count_110 : decode cX8_count 110 = .ok (.ireturn, 1) := by decide +kernel
theorem dX8_count_111 : decode cX8_count 111 = .ok (.aload_n 0, 1) := by decide +kernel
theorem dX8_count_112 : decode cX8_count 112 = .ok (.getfield 200, 3) := by decide +kernel
theorem dX8_count_115 : decode cX8_count 115 = .ok (.ireturn, 1) := by decide +kernel
theorem dX8_count_116 : decode cX8_count 116 = .ok (.aload_n 0, 1) := by decide +kernel
theorem dX8_count_117 : decode cX8_count 117 = .ok (.getfield 9, 3) := by decide +kernel
theorem dX8_count_120 : decode cX8_count 120 = .ok (.iload_n 1, 1) := by decide +kernel
theorem dX8_count_121 : decode cX8_count 121 = .ok (.iaload, 1) := by decide +kernel
theorem dX8_count_122 : decode cX8_count 122 = .ok (.ireturn, 1) := by decide +kernel
theorem dX8_turnOf_0 : decode cX8_turnOf 0 = .ok (.aload_n 0, 1) := by decide +kernel
theorem dX8_turnOf_1 : decode cX8_turnOf 1 = .ok (.iconst 0, 1) := by decide +kernel
theorem dX8_turnOf_2 : decode cX8_turnOf 2 = .ok (.putfield 59, 3) := by decide +kernel
theorem dX8_turnOf_5 : decode cX8_turnOf 5 = .ok (.aload_n 0, 1) := by decide +kernel
theorem dX8_turnOf_6 : decode cX8_turnOf 6 = .ok (.getfield 9, 3) := by decide +kernel
theorem dX8_turnOf_9 : decode cX8_turnOf 9 = .ok (.bipush 12, 2) := by decide +kernel
theorem dX8_turnOf_11 : decode cX8_turnOf 11 = .ok (.iaload, 1) := by decide +kernel
theorem dX8_turnOf_12 : decode cX8_turnOf 12 = .ok (.ifCond .ne 13, 3) := by decide +kernel
theorem dX8_turnOf_15 : decode cX8_turnOf 15 = .ok (.aload_n 0, 1) := by decide +kernel
theorem dX8_turnOf_16 : decode cX8_turnOf 16 = .ok (.getfield 9, 3) := by decide +kernel
theorem dX8_turnOf_19 : decode cX8_turnOf 19 = .ok (.bipush 10, 2) := by decide +kernel
theorem dX8_turnOf_21 : decode cX8_turnOf 21 = .ok (.iaload, 1) := by decide +kernel
theorem dX8_turnOf_22 : decode cX8_turnOf 22 = .ok (.goto 4, 3) := by decide +kernel
theorem dX8_turnOf_25 : decode cX8_turnOf 25 = .ok (.iconst (-1), 1) := by decide +kernel
theorem dX8_turnOf_26 : decode cX8_turnOf 26 = .ok (.ireturn, 1) := by decide +kernel
theorem dX8_over_0 : decode cX8_over 0 = .ok (.aload_n 0, 1) := by decide +kernel
theorem dX8_over_1 : decode cX8_over 1 = .ok (.iconst 0, 1) := by decide +kernel
theorem dX8_over_2 : decode cX8_over 2 = .ok (.putfield 59, 3) := by decide +kernel
theorem dX8_over_5 : decode cX8_over 5 = .ok (.aload_n 0, 1) := by decide +kernel
theorem dX8_over_6 : decode cX8_over 6 = .ok (.getfield 9, 3) := by decide +kernel
theorem dX8_over_9 : decode cX8_over 9 = .ok (.bipush 12, 2) := by decide +kernel
theorem dX8_over_11 : decode cX8_over 11 = .ok (.iaload, 1) := by decide +kernel
theorem dX8_over_12 : decode cX8_over 12 = .ok (.ireturn, 1) := by decide +kernel
theorem dX8_pile_0 : decode cX8_pile 0 = .ok (.aload_n 0, 1) := by decide +kernel
theorem dX8_pile_1 : decode cX8_pile 1 = .ok (.iload_n 1, 1) := by decide +kernel
theorem dX8_pile_2 : decode cX8_pile 2 = .ok (.iconst 0, 1) := by decide +kernel
theorem dX8_pile_3 : decode cX8_pile 3 = .ok (.aload_n 0, 1) := by decide +kernel
theorem dX8_pile_4 : decode cX8_pile 4 = .ok (.getfield 9, 3) := by decide +kernel
theorem dX8_pile_7 : decode cX8_pile 7 = .ok (.iconst 0, 1) := by decide +kernel
theorem dX8_pile_8 : decode cX8_pile 8 = .ok (.iaload, 1) := by decide +kernel
theorem dX8_pile_9 : decode cX8_pile 9 = .ok (.iconst 1, 1) := by decide +kernel
theorem dX8_pile_10 : decode cX8_pile 10 = .ok (.isub, 1) := by decide +kernel
theorem dX8_pile_11 : decode cX8_pile 11 = .ok (.invokestatic 62, 3) := by decide +kernel
theorem dX8_pile_14 : decode cX8_pile 14 = .ok (.iconst 1, 1) := by decide +kernel
theorem dX8_pile_15 : decode cX8_pile 15 = .ok (.invokevirtual 206, 3) := by decide +kernel
theorem dX8_pile_18 : decode cX8_pile 18 = .ok (.ifCond .eq 7, 3) := by decide +kernel
theorem dX8_pile_21 : decode cX8_pile 21 = .ok (.iconst 0, 1) := by decide +kernel
theorem dX8_pile_22 : decode cX8_pile 22 = .ok (.goto 12, 3) := by decide +kernel
theorem dX8_pile_25 : decode cX8_pile 25 = .ok (.aload_n 0, 1) := by decide +kernel
theorem dX8_pile_26 : decode cX8_pile 26 = .ok (.getfield 9, 3) := by decide +kernel
theorem dX8_pile_29 : decode cX8_pile 29 = .ok (.bipush 14, 2) := by decide +kernel
theorem dX8_pile_31 : decode cX8_pile 31 = .ok (.iload_n 1, 1) := by decide +kernel
theorem dX8_pile_32 : decode cX8_pile 32 = .ok (.iadd, 1) := by decide +kernel
theorem dX8_pile_33 : decode cX8_pile 33 = .ok (.iaload, 1) := by decide +kernel
theorem dX8_pile_34 : decode cX8_pile 34 = .ok (.ireturn, 1) := by decide +kernel
theorem dX8_hand_0 : decode cX8_hand 0 = .ok (.aload_n 0, 1) := by decide +kernel
theorem dX8_hand_1 : decode cX8_hand 1 = .ok (.aload_n 0, 1) := by decide +kernel
theorem dX8_hand_2 : decode cX8_hand 2 = .ok (.iload_n 1, 1) := by decide +kernel
theorem dX8_hand_3 : decode cX8_hand 3 = .ok (.invokevirtual 66, 3) := by decide +kernel
theorem dX8_hand_6 : decode cX8_hand 6 = .ok (.iconst 1, 1) := by decide +kernel
theorem dX8_hand_7 : decode cX8_hand 7 = .ok (.invokevirtual 206, 3) := by decide +kernel
theorem dX8_hand_10 : decode cX8_hand 10 = .ok (.ifCond .eq 7, 3) := by decide +kernel
theorem dX8_hand_13 : decode cX8_hand 13 = .ok (.iconst 0, 1) := by decide +kernel
theorem dX8_hand_14 : decode cX8_hand 14 = .ok (.goto 13, 3) := by decide +kernel
theorem dX8_hand_17 : decode cX8_hand 17 = .ok (.aload_n 0, 1) := by decide +kernel
theorem dX8_hand_18 : decode cX8_hand 18 = .ok (.getfield 9, 3) := by decide +kernel
theorem dX8_hand_21 : decode cX8_hand 21 = .ok (.sipush 187, 3) := by decide +kernel
theorem dX8_hand_24 : decode cX8_hand 24 = .ok (.iload_n 1, 1) := by decide +kernel
theorem dX8_hand_25 : decode cX8_hand 25 = .ok (.iadd, 1) := by decide +kernel
theorem dX8_hand_26 : decode cX8_hand 26 = .ok (.iaload, 1) := by decide +kernel
theorem dX8_hand_27 : decode cX8_hand 27 = .ok (.ireturn, 1) := by decide +kernel
theorem dX8_card_0 : decode cX8_card 0 = .ok (.aload_n 0, 1) := by decide +kernel
theorem dX8_card_1 : decode cX8_card 1 = .ok (.aload_n 0, 1) := by decide +kernel
theorem dX8_card_2 : decode cX8_card 2 = .ok (.iload_n 1, 1) := by decide +kernel
theorem dX8_card_3 : decode cX8_card 3 = .ok (.iload_n 2, 1) := by decide +kernel
theorem dX8_card_4 : decode cX8_card 4 = .ok (.invokevirtual 213, 3) := by decide +kernel
theorem dX8_card_7 : decode cX8_card 7 = .ok (.iconst 1, 1) := by decide +kernel
theorem dX8_card_8 : decode cX8_card 8 = .ok (.invokevirtual 206, 3) := by decide +kernel
theorem dX8_card_11 : decode cX8_card 11 = .ok (.ifCond .eq 7, 3) := by decide +kernel
theorem dX8_card_14 : decode cX8_card 14 = .ok (.iconst 0, 1) := by decide +kernel
theorem dX8_card_15 : decode cX8_card 15 = .ok (.goto 20, 3) := by decide +kernel
theorem dX8_card_18 : decode cX8_card 18 = .ok (.aload_n 0, 1) := by decide +kernel
theorem dX8_card_19 : decode cX8_card 19 = .ok (.getfield 9, 3) := by decide +kernel
theorem dX8_card_22 : decode cX8_card 22 = .ok (.bipush 27, 2) := by decide +kernel
theorem dX8_card_24 : decode cX8_card 24 = .ok (.aload_n 0, 1) := by decide +kernel
theorem dX8_card_25 : decode cX8_card 25 = .ok (.iload_n 1, 1) := by decide +kernel
theorem dX8_card_26 : decode cX8_card 26 = .ok (.iload_n 2, 1) := by decide +kernel
theorem dX8_card_27 : decode cX8_card 27 = .ok (.invokevirtual 217, 3) := by decide +kernel
theorem dX8_card_30 : decode cX8_card 30 = .ok (.iadd, 1) := by decide +kernel
theorem dX8_card_31 : decode cX8_card 31 = .ok (.iaload, 1) := by decide +kernel
theorem dX8_card_32 : decode cX8_card 32 = .ok (.invokestatic 220, 3) := by decide +kernel
theorem dX8_card_35 : decode cX8_card 35 = .ok (.ireturn, 1) := by decide +kernel
theorem dX8_drawn_0 : decode cX8_drawn 0 = .ok (.aload_n 0, 1) := by decide +kernel
theorem dX8_drawn_1 : decode cX8_drawn 1 = .ok (.iconst 0, 1) := by decide +kernel
theorem dX8_drawn_2 : decode cX8_drawn 2 = .ok (.putfield 59, 3) := by decide +kernel
theorem dX8_drawn_5 : decode cX8_drawn 5 = .ok (.iload_n 1, 1) := by decide +kernel
theorem dX8_drawn_6 : decode cX8_drawn 6 = .ok (.iconst 0, 1) := by decide +kernel
theorem dX8_drawn_7 : decode cX8_drawn 7 = .ok (.aload_n 0, 1) := by decide +kernel
theorem dX8_drawn_8 : decode cX8_drawn 8 = .ok (.getfield 9, 3) := by decide +kernel
theorem dX8_drawn_11 : decode cX8_drawn 11 = .ok (.iconst 4, 1) := by decide +kernel
theorem dX8_drawn_12 : decode cX8_drawn 12 = .ok (.iaload, 1) := by decide +kernel
theorem dX8_drawn_13 : decode cX8_drawn 13 = .ok (.aload_n 0, 1) := by decide +kernel
theorem dX8_drawn_14 : decode cX8_drawn 14 = .ok (.getfield 9, 3) := by decide +kernel
theorem dX8_drawn_17 : decode cX8_drawn 17 = .ok (.iconst 5, 1) := by decide +kernel
theorem dX8_drawn_18 : decode cX8_drawn 18 = .ok (.iaload, 1) := by decide +kernel
theorem dX8_drawn_19 : decode cX8_drawn 19 = .ok (.isub, 1) := by decide +kernel
theorem dX8_drawn_20 : decode cX8_drawn 20 = .ok (.iconst 1, 1) := by decide +kernel
theorem dX8_drawn_21 : decode cX8_drawn 21 = .ok (.isub, 1) := by decide +kernel
theorem dX8_drawn_22 : decode cX8_drawn 22 = .ok (.invokestatic 62, 3) := by decide +kernel
theorem dX8_drawn_25 : decode cX8_drawn 25 = .ok (.ifCond .eq 25, 3) := by decide +kernel
theorem dX8_drawn_28 : decode cX8_drawn 28 = .ok (.aload_n 0, 1) := by decide +kernel
theorem dX8_drawn_29 : decode cX8_drawn 29 = .ok (.getfield 9, 3) := by decide +kernel
theorem dX8_drawn_32 : decode cX8_drawn 32 = .ok (.bipush 27, 2) := by decide +kernel
theorem dX8_drawn_34 : decode cX8_drawn 34 = .ok (.aload_n 0, 1) := by decide +kernel
theorem dX8_drawn_35 : decode cX8_drawn 35 = .ok (.getfield 9, 3) := by decide +kernel
theorem dX8_drawn_38 : decode cX8_drawn 38 = .ok (.iconst 5, 1) := by decide +kernel
theorem dX8_drawn_39 : decode cX8_drawn 39 = .ok (.iaload, 1) := by decide +kernel
theorem dX8_drawn_40 : decode cX8_drawn 40 = .ok (.iadd, 1) := by decide +kernel
theorem dX8_drawn_41 : decode cX8_drawn 41 = .ok (.iload_n 1, 1) := by decide +kernel
theorem dX8_drawn_42 : decode cX8_drawn 42 = .ok (.iadd, 1) := by decide +kernel
theorem dX8_drawn_43 : decode cX8_drawn 43 = .ok (.iaload, 1) := by decide +kernel
theorem dX8_drawn_44 : decode cX8_drawn 44 = .ok (.invokestatic 220, 3) := by decide +kernel
theorem dX8_drawn_47 : decode cX8_drawn 47 = .ok (.goto 4, 3) := by decide +kernel
theorem dX8_drawn_50 : decode cX8_drawn 50 = .ok (.iconst (-1), 1) := by decide +kernel
theorem dX8_drawn_51 : decode cX8_drawn 51 = .ok (.ireturn, 1) := by decide +kernel
theorem dX8_inDeck_0 : decode cX8_inDeck 0 = .ok (.iconst 0, 1) := by decide +kernel
theorem dX8_inDeck_1 : decode cX8_inDeck 1 = .ok (.istore_n 3, 1) := by decide +kernel
theorem dX8_inDeck_2 : decode cX8_inDeck 2 = .ok (.iload_n 2, 1) := by decide +kernel
theorem dX8_inDeck_3 : decode cX8_inDeck 3 = .ok (.istore 4, 2) := by decide +kernel
theorem dX8_inDeck_5 : decode cX8_inDeck 5 = .ok (.iload 4, 2) := by decide +kernel
theorem dX8_inDeck_7 : decode cX8_inDeck 7 = .ok (.aload_n 0, 1) := by decide +kernel
theorem dX8_inDeck_8 : decode cX8_inDeck 8 = .ok (.getfield 9, 3) := by decide +kernel
theorem dX8_inDeck_11 : decode cX8_inDeck 11 = .ok (.iconst 4, 1) := by decide +kernel
theorem dX8_inDeck_12 : decode cX8_inDeck 12 = .ok (.iaload, 1) := by decide +kernel
theorem dX8_inDeck_13 : decode cX8_inDeck 13 = .ok (.if_icmp .ge 31, 3) := by decide +kernel
theorem dX8_inDeck_16 : decode cX8_inDeck 16 = .ok (.iload_n 3, 1) := by decide +kernel
theorem dX8_inDeck_17 : decode cX8_inDeck 17 = .ok (.aload_n 0, 1) := by decide +kernel
theorem dX8_inDeck_18 : decode cX8_inDeck 18 = .ok (.getfield 9, 3) := by decide +kernel
theorem dX8_inDeck_21 : decode cX8_inDeck 21 = .ok (.bipush 27, 2) := by decide +kernel
theorem dX8_inDeck_23 : decode cX8_inDeck 23 = .ok (.iload 4, 2) := by decide +kernel
theorem dX8_inDeck_25 : decode cX8_inDeck 25 = .ok (.iadd, 1) := by decide +kernel
theorem dX8_inDeck_26 : decode cX8_inDeck 26 = .ok (.iaload, 1) := by decide +kernel
theorem dX8_inDeck_27 : decode cX8_inDeck 27 = .ok (.iload_n 1, 1) := by decide +kernel
theorem dX8_inDeck_28 : decode cX8_inDeck 28 = .ok (.if_icmp .ne 7, 3) := by decide +kernel
theorem dX8_inDeck_31 : decode cX8_inDeck 31 = .ok (.iconst 1, 1) := by decide +kernel
theorem dX8_inDeck_32 : decode cX8_inDeck 32 = .ok (.goto 4, 3) := by decide +kernel
theorem dX8_inDeck_35 : decode cX8_inDeck 35 = .ok (.iconst 0, 1) := by decide +kernel
theorem dX8_inDeck_36 : decode cX8_inDeck 36 = .ok (.iadd, 1) := by decide +kernel
theorem dX8_inDeck_37 : decode cX8_inDeck 37 = .ok (.istore_n 3, 1) := by decide +kernel
theorem dX8_inDeck_38 : decode cX8_inDeck 38 = .ok (.iinc 4 1, 3) := by decide +kernel
theorem dX8_inDeck_41 : decode cX8_inDeck 41 = .ok (.goto (-36), 3) := by decide +kernel
theorem dX8_inDeck_44 : decode cX8_inDeck 44 = .ok (.iload_n 3, 1) := by decide +kernel
theorem dX8_inDeck_45 : decode cX8_inDeck 45 = .ok (.ireturn, 1) := by decide +kernel
theorem dX8_inHands_0 : decode cX8_inHands 0 = .ok (.iconst 0, 1) := by decide +kernel
theorem dX8_inHands_1 : decode cX8_inHands 1 = .ok (.istore_n 3, 1) := by decide +kernel
theorem dX8_inHands_2 : decode cX8_inHands 2 = .ok (.iconst 0, 1) := by decide +kernel
theorem dX8_inHands_3 : decode cX8_inHands 3 = .ok (.istore 4, 2) := by decide +kernel
theorem dX8_inHands_5 : decode cX8_inHands 5 = .ok (.iload 4, 2) := by decide +kernel
theorem dX8_inHands_7 : decode cX8_inHands 7 = .ok (.aload_n 0, 1) := by decide +kernel
theorem dX8_inHands_8 : decode cX8_inHands 8 = .ok (.getfield 9, 3) := by decide +kernel
theorem dX8_inHands_11 : decode cX8_inHands 11 = .ok (.iconst 2, 1) := by decide +kernel
theorem dX8_inHands_12 : decode cX8_inHands 12 = .ok (.iaload, 1) := by decide +kernel
theorem dX8_inHands_13 : decode cX8_inHands 13 = .ok (.if_icmp .ge 68, 3) := by decide +kernel
theorem dX8_inHands_16 : decode cX8_inHands 16 = .ok (.iconst 0, 1) := by decide +kernel
theorem dX8_inHands_17 : decode cX8_inHands 17 = .ok (.istore 5, 2) := by decide +kernel
theorem dX8_inHands_19 : decode cX8_inHands 19 = .ok (.iload 5, 2) := by decide +kernel
theorem dX8_inHands_21 : decode cX8_inHands 21 = .ok (.aload_n 0, 1) := by decide +kernel
theorem dX8_inHands_22 : decode cX8_inHands 22 = .ok (.getfield 9, 3) := by decide +kernel
theorem dX8_inHands_25 : decode cX8_inHands 25 = .ok (.sipush 187, 3) := by decide +kernel
theorem dX8_inHands_28 : decode cX8_inHands 28 = .ok (.iload 4, 2) := by decide +kernel
theorem dX8_inHands_30 : decode cX8_inHands 30 = .ok (.iadd, 1) := by decide +kernel
theorem dX8_inHands_31 : decode cX8_inHands 31 = .ok (.iaload, 1) := by decide +kernel
theorem dX8_inHands_32 : decode cX8_inHands 32 = .ok (.if_icmp .ge 43, 3) := by decide +kernel
theorem dX8_inHands_35 : decode cX8_inHands 35 = .ok (.iload_n 3, 1) := by decide +kernel
theorem dX8_inHands_36 : decode cX8_inHands 36 = .ok (.iload 4, 2) := by decide +kernel
theorem dX8_inHands_38 : decode cX8_inHands 38 = .ok (.iload_n 2, 1) := by decide +kernel
theorem dX8_inHands_39 : decode cX8_inHands 39 = .ok (.if_icmp .eq 27, 3) := by decide +kernel
theorem dX8_inHands_42 : decode cX8_inHands 42 = .ok (.aload_n 0, 1) := by decide +kernel
theorem dX8_inHands_43 : decode cX8_inHands 43 = .ok (.getfield 9, 3) := by decide +kernel
theorem dX8_inHands_46 : decode cX8_inHands 46 = .ok (.bipush 27, 2) := by decide +kernel
theorem dX8_inHands_48 : decode cX8_inHands 48 = .ok (.aload_n 0, 1) := by decide +kernel
theorem dX8_inHands_49 : decode cX8_inHands 49 = .ok (.iload 4, 2) := by decide +kernel
theorem dX8_inHands_51 : decode cX8_inHands 51 = .ok (.iload 5, 2) := by decide +kernel
theorem dX8_inHands_53 : decode cX8_inHands 53 = .ok (.invokevirtual 217, 3) := by decide +kernel
theorem dX8_inHands_56 : decode cX8_inHands 56 = .ok (.iadd, 1) := by decide +kernel
theorem dX8_inHands_57 : decode cX8_inHands 57 = .ok (.iaload, 1) := by decide +kernel
theorem dX8_inHands_58 : decode cX8_inHands 58 = .ok (.iload_n 1, 1) := by decide +kernel
theorem dX8_inHands_59 : decode cX8_inHands 59 = .ok (.if_icmp .ne 7, 3) := by decide +kernel
theorem dX8_inHands_62 : decode cX8_inHands 62 = .ok (.iconst 1, 1) := by decide +kernel
theorem dX8_inHands_63 : decode cX8_inHands 63 = .ok (.goto 4, 3) := by decide +kernel
theorem dX8_inHands_66 : decode cX8_inHands 66 = .ok (.iconst 0, 1) := by decide +kernel
theorem dX8_inHands_67 : decode cX8_inHands 67 = .ok (.iadd, 1) := by decide +kernel
theorem dX8_inHands_68 : decode cX8_inHands 68 = .ok (.istore_n 3, 1) := by decide +kernel
theorem dX8_inHands_69 : decode cX8_inHands 69 = .ok (.iinc 5 1, 3) := by decide +kernel
theorem dX8_inHands_72 : decode cX8_inHands 72 = .ok (.goto (-53), 3) := by decide +kernel
theorem dX8_inHands_75 : decode cX8_inHands 75 = .ok (.iinc 4 1, 3) := by decide +kernel
theorem dX8_inHands_78 : decode cX8_inHands 78 = .ok (.goto (-73), 3) := by decide +kernel
theorem dX8_inHands_81 : decode cX8_inHands 81 = .ok (.iload_n 3, 1) := by decide +kernel
theorem dX8_inHands_82 : decode cX8_inHands 82 = .ok (.ireturn, 1) := by decide +kernel
theorem dX8_copies__0 : decode cX8_copies_ 0 = .ok (.aload_n 0, 1) := by decide +kernel
theorem dX8_copies__1 : decode cX8_copies_ 1 = .ok (.aload_n 0, 1) := by decide +kernel
theorem dX8_copies__2 : decode cX8_copies_ 2 = .ok (.iload_n 1, 1) := by decide +kernel
theorem dX8_copies__3 : decode cX8_copies_ 3 = .ok (.iload_n 2, 1) := by decide +kernel
theorem dX8_copies__4 : decode cX8_copies_ 4 = .ok (.invokevirtual 223, 3) := by decide +kernel
theorem dX8_copies__7 : decode cX8_copies_ 7 = .ok (.iconst 1, 1) := by decide +kernel
theorem dX8_copies__8 : decode cX8_copies_ 8 = .ok (.invokevirtual 206, 3) := by decide +kernel
theorem dX8_copies__11 : decode cX8_copies_ 11 = .ok (.ifCond .ne 17, 3) := by decide +kernel
theorem dX8_copies__14 : decode cX8_copies_ 14 = .ok (.aload_n 0, 1) := by decide +kernel
theorem dX8_copies__15 : decode cX8_copies_ 15 = .ok (.iload_n 3, 1) := by decide +kernel
theorem dX8_copies__16 : decode cX8_copies_ 16 = .ok (.iconst 0, 1) := by decide +kernel
theorem dX8_copies__17 : decode cX8_copies_ 17 = .ok (.iconst 3, 1) := by decide +kernel
theorem dX8_copies__18 : decode cX8_copies_ 18 = .ok (.invokestatic 62, 3) := by decide +kernel
theorem dX8_copies__21 : decode cX8_copies_ 21 = .ok (.iconst 2, 1) := by decide +kernel
theorem dX8_copies__22 : decode cX8_copies_ 22 = .ok (.invokevirtual 206, 3) := by decide +kernel
theorem dX8_copies__25 : decode cX8_copies_ 25 = .ok (.ifCond .eq 5, 3) := by decide +kernel
theorem dX8_copies__28 : decode cX8_copies_ 28 = .ok (.iconst 0, 1) := by decide +kernel
theorem dX8_copies__29 : decode cX8_copies_ 29 = .ok (.ireturn, 1) := by decide +kernel
theorem dX8_copies__30 : decode cX8_copies_ 30 = .ok (.iload_n 1, 1) := by decide +kernel
theorem dX8_copies__31 : decode cX8_copies_ 31 = .ok (.iload_n 2, 1) := by decide +kernel
theorem dX8_copies__32 : decode cX8_copies_ 32 = .ok (.invokestatic 136, 3) := by decide +kernel
theorem dX8_copies__35 : decode cX8_copies_ 35 = .ok (.istore 4, 2) := by decide +kernel
theorem dX8_copies__37 : decode cX8_copies_ 37 = .ok (.iload_n 3, 1) := by decide +kernel
theorem dX8_copies__38 : decode cX8_copies_ 38 = .ok (.tableswitch 54 0 2 #[26, 34, 46], 26) := by decide +kernel
theorem dX8_copies__64 : decode cX8_copies_ 64 = .ok (.aload_n 0, 1) := by decide +kernel
theorem dX8_copies__65 : decode cX8_copies_ 65 = .ok (.iload 4, 2) := by decide +kernel
theorem dX8_copies__67 : decode cX8_copies_ 67 = .ok (.iconst 0, 1) := by decide +kernel
theorem dX8_copies__68 : decode cX8_copies_ 68 = .ok (.invokevirtual 226, 3) := by decide +kernel
theorem dX8_copies__71 : decode cX8_copies_ 71 = .ok (.ireturn, 1) := by decide +kernel
theorem dX8_copies__72 : decode cX8_copies_ 72 = .ok (.aload_n 0, 1) := by decide +kernel
theorem dX8_copies__73 : decode cX8_copies_ 73 = .ok (.getfield 9, 3) := by decide +kernel
theorem dX8_copies__76 : decode cX8_copies_ 76 = .ok (.sipush 211, 3) := by decide +kernel
theorem dX8_copies__79 : decode cX8_copies_ 79 = .ok (.iload 4, 2) := by decide +kernel
theorem dX8_copies__81 : decode cX8_copies_ 81 = .ok (.iadd, 1) := by decide +kernel
theorem dX8_copies__82 : decode cX8_copies_ 82 = .ok (.iaload, 1) := by decide +kernel
theorem dX8_copies__83 : decode cX8_copies_ 83 = .ok (.ireturn, 1) := by decide +kernel
theorem dX8_copies__84 : decode cX8_copies_ 84 = .ok (.aload_n 0, 1) := by decide +kernel
theorem dX8_copies__85 : decode cX8_copies_ 85 = .ok (.iload 4, 2) := by decide +kernel
theorem dX8_copies__87 : decode cX8_copies_ 87 = .ok (.iconst (-1), 1) := by decide +kernel
theorem dX8_copies__88 : decode cX8_copies_ 88 = .ok (.invokevirtual 229, 3) := by decide +kernel
theorem dX8_copies__91 : decode cX8_copies_ 91 = .ok (.ireturn, 1) := by decide +kernel
theorem dX8_copies__92 : decode cX8_copies_ 92 = .ok (.aload_n 0, 1) := by decide +kernel
theorem dX8_copies__93 : decode cX8_copies_ 93 = .ok (.iload 4, 2) := by decide +kernel
theorem dX8_copies__95 : decode cX8_copies_ 95 = .ok (.aload_n 0, 1) := by decide +kernel
theorem dX8_copies__96 : decode cX8_copies_ 96 = .ok (.getfield 9, 3) := by decide +kernel
theorem dX8_copies__99 : decode cX8_copies_ 99 = .ok (.iconst 5, 1) := by decide +kernel
theorem dX8_copies__100 : decode cX8_copies_ 100 = .ok (.iaload, 1) := by decide +kernel
theorem dX8_copies__101 : decode cX8_copies_ 101 = .ok (.invokevirtual 226, 3) := by decide +kernel
theorem dX8_copies__104 : decode cX8_copies_ 104 = .ok (.ireturn, 1) := by decide +kernel
theorem dX8_isGone_0 : decode cX8_isGone 0 = .ok (.aload_n 0, 1) := by decide +kernel
theorem dX8_isGone_1 : decode cX8_isGone 1 = .ok (.iload_n 1, 1) := by decide +kernel
theorem dX8_isGone_2 : decode cX8_isGone 2 = .ok (.iconst 0, 1) := by decide +kernel
theorem dX8_isGone_3 : decode cX8_isGone 3 = .ok (.invokevirtual 226, 3) := by decide +kernel
theorem dX8_isGone_6 : decode cX8_isGone 6 = .ok (.aload_n 0, 1) := by decide +kernel
theorem dX8_isGone_7 : decode cX8_isGone 7 = .ok (.getfield 9, 3) := by decide +kernel
theorem dX8_isGone_10 : decode cX8_isGone 10 = .ok (.sipush 211, 3) := by decide +kernel
theorem dX8_isGone_13 : decode cX8_isGone 13 = .ok (.iload_n 1, 1) := by decide +kernel
theorem dX8_isGone_14 : decode cX8_isGone 14 = .ok (.iadd, 1) := by decide +kernel
theorem dX8_isGone_15 : decode cX8_isGone 15 = .ok (.iaload, 1) := by decide +kernel
theorem dX8_isGone_16 : decode cX8_isGone 16 = .ok (.if_icmp .ne 7, 3) := by decide +kernel
theorem dX8_isGone_19 : decode cX8_isGone 19 = .ok (.iconst 1, 1) := by decide +kernel
theorem dX8_isGone_20 : decode cX8_isGone 20 = .ok (.goto 4, 3) := by decide +kernel
theorem dX8_isGone_23 : decode cX8_isGone 23 = .ok (.iconst 0, 1) := by decide +kernel
theorem dX8_isGone_24 : decode cX8_isGone 24 = .ok (.ireturn, 1) := by decide +kernel
theorem dX8_isUselessKind_0 : decode cX8_isUselessKind 0 = .ok (.iload_n 1, 1) := by decide +kernel
theorem dX8_isUselessKind_1 : decode cX8_isUselessKind 1 = .ok (.invokestatic 70, 3) := by decide +kernel
theorem dX8_isUselessKind_4 : decode cX8_isUselessKind 4 = .ok (.istore_n 2, 1) := by decide +kernel
theorem dX8_isUselessKind_5 : decode cX8_isUselessKind 5 = .ok (.iload_n 1, 1) := by decide +kernel
theorem dX8_isUselessKind_6 : decode cX8_isUselessKind 6 = .ok (.invokestatic 74, 3) := by decide +kernel
theorem dX8_isUselessKind_9 : decode cX8_isUselessKind 9 = .ok (.aload_n 0, 1) := by decide +kernel
theorem dX8_isUselessKind_10 : decode cX8_isUselessKind 10 = .ok (.getfield 9, 3) := by decide +kernel
theorem dX8_isUselessKind_13 : decode cX8_isUselessKind 13 = .ok (.bipush 14, 2) := by decide +kernel
theorem dX8_isUselessKind_15 : decode cX8_isUselessKind 15 = .ok (.iload_n 2, 1) := by decide +kernel
theorem dX8_isUselessKind_16 : decode cX8_isUselessKind 16 = .ok (.iadd, 1) := by decide +kernel
theorem dX8_isUselessKind_17 : decode cX8_isUselessKind 17 = .ok (.iaload, 1) := by decide +kernel
theorem dX8_isUselessKind_18 : decode cX8_isUselessKind 18 = .ok (.if_icmp .gt 5, 3) := by decide +kernel
theorem dX8_isUselessKind_21 : decode cX8_isUselessKind 21 = .ok (.iconst 1, 1) := by decide +kernel
theorem dX8_isUselessKind_22 : decode cX8_isUselessKind 22 = .ok (.ireturn, 1) := by decide +kernel
theorem dX8_isUselessKind_23 : decode cX8_isUselessKind 23 = .ok (.aload_n 0, 1) := by decide +kernel
theorem dX8_isUselessKind_24 : decode cX8_isUselessKind 24 = .ok (.getfield 9, 3) := by decide +kernel
theorem dX8_isUselessKind_27 : decode cX8_isUselessKind 27 = .ok (.bipush 14, 2) := by decide +kernel
theorem dX8_isUselessKind_29 : decode cX8_isUselessKind 29 = .ok (.iload_n 2, 1) := by decide +kernel
theorem dX8_isUselessKind_30 : decode cX8_isUselessKind 30 = .ok (.iadd, 1) := by decide +kernel
theorem dX8_isUselessKind_31 : decode cX8_isUselessKind 31 = .ok (.iaload, 1) := by decide +kernel
theorem dX8_isUselessKind_32 : decode cX8_isUselessKind 32 = .ok (.iconst 1, 1) := by decide +kernel
theorem dX8_isUselessKind_33 : decode cX8_isUselessKind 33 = .ok (.iadd, 1) := by decide +kernel
theorem dX8_isUselessKind_34 : decode cX8_isUselessKind 34 = .ok (.istore_n 3, 1) := by decide +kernel
theorem dX8_isUselessKind_35 : decode cX8_isUselessKind 35 = .ok (.iload_n 3, 1) := by decide +kernel
theorem dX8_isUselessKind_36 : decode cX8_isUselessKind 36 = .ok (.iload_n 1, 1) := by decide +kernel
theorem dX8_isUselessKind_37 : decode cX8_isUselessKind 37 = .ok (.invokestatic 74, 3) := by decide +kernel
theorem dX8_isUselessKind_40 : decode cX8_isUselessKind 40 = .ok (.if_icmp .gt 23, 3) := by decide +kernel
theorem dX8_isUselessKind_43 : decode cX8_isUselessKind 43 = .ok (.aload_n 0, 1) := by decide +kernel
theorem dX8_isUselessKind_44 : decode cX8_isUselessKind 44 = .ok (.iload_n 2, 1) := by decide +kernel
theorem dX8_isUselessKind_45 : decode cX8_isUselessKind 45 = .ok (.iload_n 3, 1) := by decide +kernel
theorem dX8_isUselessKind_46 : decode cX8_isUselessKind 46 = .ok (.invokestatic 136, 3) := by decide +kernel
theorem dX8_isUselessKind_49 : decode cX8_isUselessKind 49 = .ok (.invokevirtual 232, 3) := by decide +kernel
theorem dX8_isUselessKind_52 : decode cX8_isUselessKind 52 = .ok (.ifCond .eq 5, 3) := by decide +kernel
theorem dX8_isUselessKind_55 : decode cX8_isUselessKind 55 = .ok (.iconst 1, 1) := by decide +kernel
theorem dX8_isUselessKind_56 : decode cX8_isUselessKind 56 = .ok (.ireturn, 1) := by decide +kernel
theorem dX8_isUselessKind_57 : decode cX8_isUselessKind 57 = .ok (.iinc 3 1, 3) := by decide +kernel
theorem dX8_isUselessKind_60 : decode cX8_isUselessKind 60 = .ok (.goto (-25), 3) := by decide +kernel
theorem dX8_isUselessKind_63 : decode cX8_isUselessKind 63 = .ok (.iconst 0, 1) := by decide +kernel
theorem dX8_isUselessKind_64 : decode cX8_isUselessKind 64 = .ok (.ireturn, 1) := by decide +kernel
theorem dX8_isCriticalKind_0 : decode cX8_isCriticalKind 0 = .ok (.aload_n 0, 1) := by decide +kernel
theorem dX8_isCriticalKind_1 : decode cX8_isCriticalKind 1 = .ok (.iload_n 1, 1) := by decide +kernel
theorem dX8_isCriticalKind_2 : decode cX8_isCriticalKind 2 = .ok (.invokevirtual 235, 3) := by decide +kernel
theorem dX8_isCriticalKind_5 : decode cX8_isCriticalKind 5 = .ok (.ifCond .ne 28, 3) := by decide +kernel
theorem dX8_isCriticalKind_8 : decode cX8_isCriticalKind 8 = .ok (.aload_n 0, 1) := by decide +kernel
theorem dX8_isCriticalKind_9 : decode cX8_isCriticalKind 9 = .ok (.iload_n 1, 1) := by decide +kernel
theorem dX8_isCriticalKind_10 : decode cX8_isCriticalKind 10 = .ok (.iconst 0, 1) := by decide +kernel
theorem dX8_isCriticalKind_11 : decode cX8_isCriticalKind 11 = .ok (.invokevirtual 226, 3) := by decide +kernel
theorem dX8_isCriticalKind_14 : decode cX8_isCriticalKind 14 = .ok (.aload_n 0, 1) := by decide +kernel
theorem dX8_isCriticalKind_15 : decode cX8_isCriticalKind 15 = .ok (.getfield 9, 3) := by decide +kernel
theorem dX8_isCriticalKind_18 : decode cX8_isCriticalKind 18 = .ok (.sipush 211, 3) := by decide +kernel
theorem dX8_isCriticalKind_21 : decode cX8_isCriticalKind 21 = .ok (.iload_n 1, 1) := by decide +kernel
theorem dX8_isCriticalKind_22 : decode cX8_isCriticalKind 22 = .ok (.iadd, 1) := by decide +kernel
theorem dX8_isCriticalKind_23 : decode cX8_isCriticalKind 23 = .ok (.iaload, 1) := by decide +kernel
theorem dX8_isCriticalKind_24 : decode cX8_isCriticalKind 24 = .ok (.isub, 1) := by decide +kernel
theorem dX8_isCriticalKind_25 : decode cX8_isCriticalKind 25 = .ok (.iconst 1, 1) := by decide +kernel
theorem dX8_isCriticalKind_26 : decode cX8_isCriticalKind 26 = .ok (.if_icmp .ne 7, 3) := by decide +kernel
theorem dX8_isCriticalKind_29 : decode cX8_isCriticalKind 29 = .ok (.iconst 1, 1) := by decide +kernel
theorem dX8_isCriticalKind_30 : decode cX8_isCriticalKind 30 = .ok (.goto 4, 3) := by decide +kernel
theorem dX8_isCriticalKind_33 : decode cX8_isCriticalKind 33 = .ok (.iconst 0, 1) := by decide +kernel
theorem dX8_isCriticalKind_34 : decode cX8_isCriticalKind 34 = .ok (.ireturn, 1) := by decide +kernel
theorem dX8_isNext_0 : decode cX8_isNext 0 = .ok (.iload_n 1, 1) := by decide +kernel
theorem dX8_isNext_1 : decode cX8_isNext 1 = .ok (.invokestatic 74, 3) := by decide +kernel
theorem dX8_isNext_4 : decode cX8_isNext 4 = .ok (.aload_n 0, 1) := by decide +kernel
theorem dX8_isNext_5 : decode cX8_isNext 5 = .ok (.getfield 9, 3) := by decide +kernel
theorem dX8_isNext_8 : decode cX8_isNext 8 = .ok (.bipush 14, 2) := by decide +kernel
theorem dX8_isNext_10 : decode cX8_isNext 10 = .ok (.iload_n 1, 1) := by decide +kernel
theorem dX8_isNext_11 : decode cX8_isNext 11 = .ok (.invokestatic 70, 3) := by decide +kernel
theorem dX8_isNext_14 : decode cX8_isNext 14 = .ok (.iadd, 1) := by decide +kernel
theorem dX8_isNext_15 : decode cX8_isNext 15 = .ok (.iaload, 1) := by decide +kernel
theorem dX8_isNext_16 : decode cX8_isNext 16 = .ok (.iconst 1, 1) := by decide +kernel
theorem dX8_isNext_17 : decode cX8_isNext 17 = .ok (.iadd, 1) := by decide +kernel
theorem dX8_isNext_18 : decode cX8_isNext 18 = .ok (.if_icmp .ne 7, 3) := by decide +kernel
theorem dX8_isNext_21 : decode cX8_isNext 21 = .ok (.iconst 1, 1) := by decide +kernel
theorem dX8_isNext_22 : decode cX8_isNext 22 = .ok (.goto 4, 3) := by decide +kernel
theorem dX8_isNext_25 : decode cX8_isNext 25 = .ok (.iconst 0, 1) := by decide +kernel
theorem dX8_isNext_26 : decode cX8_isNext 26 = .ok (.ireturn, 1) := by decide +kernel
theorem dX8_isUseless_0 : decode cX8_isUseless 0 = .ok (.aload_n 0, 1) := by decide +kernel
theorem dX8_isUseless_1 : decode cX8_isUseless 1 = .ok (.aload_n 0, 1) := by decide +kernel
theorem dX8_isUseless_2 : decode cX8_isUseless 2 = .ok (.iload_n 1, 1) := by decide +kernel
theorem dX8_isUseless_3 : decode cX8_isUseless 3 = .ok (.iload_n 2, 1) := by decide +kernel
theorem dX8_isUseless_4 : decode cX8_isUseless 4 = .ok (.invokevirtual 223, 3) := by decide +kernel
theorem dX8_isUseless_7 : decode cX8_isUseless 7 = .ok (.iconst 1, 1) := by decide +kernel
theorem dX8_isUseless_8 : decode cX8_isUseless 8 = .ok (.invokevirtual 206, 3) := by decide +kernel
theorem dX8_isUseless_11 : decode cX8_isUseless 11 = .ok (.ifCond .ne 19, 3) := by decide +kernel
theorem dX8_isUseless_14 : decode cX8_isUseless 14 = .ok (.aload_n 0, 1) := by decide +kernel
theorem dX8_isUseless_15 : decode cX8_isUseless 15 = .ok (.iload_n 1, 1) := by decide +kernel
theorem dX8_isUseless_16 : decode cX8_isUseless 16 = .ok (.iload_n 2, 1) := by decide +kernel
theorem dX8_isUseless_17 : decode cX8_isUseless 17 = .ok (.invokestatic 136, 3) := by decide +kernel
theorem dX8_isUseless_20 : decode cX8_isUseless 20 = .ok (.invokevirtual 235, 3) := by decide +kernel
theorem dX8_isUseless_23 : decode cX8_isUseless 23 = .ok (.ifCond .eq 7, 3) := by decide +kernel
theorem dX8_isUseless_26 : decode cX8_isUseless 26 = .ok (.iconst 1, 1) := by decide +kernel
theorem dX8_isUseless_27 : decode cX8_isUseless 27 = .ok (.goto 4, 3) := by decide +kernel
theorem dX8_isUseless_30 : decode cX8_isUseless 30 = .ok (.iconst 0, 1) := by decide +kernel
theorem dX8_isUseless_31 : decode cX8_isUseless 31 = .ok (.ireturn, 1) := by decide +kernel
theorem dX8_isCritical_0 : decode cX8_isCritical 0 = .ok (.aload_n 0, 1) := by decide +kernel
theorem dX8_isCritical_1 : decode cX8_isCritical 1 = .ok (.aload_n 0, 1) := by decide +kernel
theorem dX8_isCritical_2 : decode cX8_isCritical 2 = .ok (.iload_n 1, 1) := by decide +kernel
theorem dX8_isCritical_3 : decode cX8_isCritical 3 = .ok (.iload_n 2, 1) := by decide +kernel
theorem dX8_isCritical_4 : decode cX8_isCritical 4 = .ok (.invokevirtual 223, 3) := by decide +kernel
theorem dX8_isCritical_7 : decode cX8_isCritical 7 = .ok (.iconst 1, 1) := by decide +kernel
theorem dX8_isCritical_8 : decode cX8_isCritical 8 = .ok (.invokevirtual 206, 3) := by decide +kernel
theorem dX8_isCritical_11 : decode cX8_isCritical 11 = .ok (.ifCond .ne 19, 3) := by decide +kernel
theorem dX8_isCritical_14 : decode cX8_isCritical 14 = .ok (.aload_n 0, 1) := by decide +kernel
theorem dX8_isCritical_15 : decode cX8_isCritical 15 = .ok (.iload_n 1, 1) := by decide +kernel
theorem dX8_isCritical_16 : decode cX8_isCritical 16 = .ok (.iload_n 2, 1) := by decide +kernel
theorem dX8_isCritical_17 : decode cX8_isCritical 17 = .ok (.invokestatic 136, 3) := by decide +kernel
theorem dX8_isCritical_20 : decode cX8_isCritical 20 = .ok (.invokevirtual 238, 3) := by decide +kernel
theorem dX8_isCritical_23 : decode cX8_isCritical 23 = .ok (.ifCond .eq 7, 3) := by decide +kernel
theorem dX8_isCritical_26 : decode cX8_isCritical 26 = .ok (.iconst 1, 1) := by decide +kernel
theorem dX8_isCritical_27 : decode cX8_isCritical 27 = .ok (.goto 4, 3) := by decide +kernel
theorem dX8_isCritical_30 : decode cX8_isCritical 30 = .ok (.iconst 0, 1) := by decide +kernel
theorem dX8_isCritical_31 : decode cX8_isCritical 31 = .ok (.ireturn, 1) := by decide +kernel
theorem dX8_colorsOf_0 : decode cX8_colorsOf 0 = .ok (.aload_n 0, 1) := by decide +kernel
theorem dX8_colorsOf_1 : decode cX8_colorsOf 1 = .ok (.aload_n 0, 1) := by decide +kernel
theorem dX8_colorsOf_2 : decode cX8_colorsOf 2 = .ok (.iload_n 1, 1) := by decide +kernel
theorem dX8_colorsOf_3 : decode cX8_colorsOf 3 = .ok (.iload_n 2, 1) := by decide +kernel
theorem dX8_colorsOf_4 : decode cX8_colorsOf 4 = .ok (.invokevirtual 213, 3) := by decide +kernel
theorem dX8_colorsOf_7 : decode cX8_colorsOf 7 = .ok (.iconst 1, 1) := by decide +kernel
theorem dX8_colorsOf_8 : decode cX8_colorsOf 8 = .ok (.invokevirtual 206, 3) := by decide +kernel
theorem dX8_colorsOf_11 : decode cX8_colorsOf 11 = .ok (.ifCond .eq 7, 3) := by decide +kernel
theorem dX8_colorsOf_14 : decode cX8_colorsOf 14 = .ok (.iconst 0, 1) := by decide +kernel
theorem dX8_colorsOf_15 : decode cX8_colorsOf 15 = .ok (.goto 17, 3) := by decide +kernel
theorem dX8_colorsOf_18 : decode cX8_colorsOf 18 = .ok (.aload_n 0, 1) := by decide +kernel
theorem dX8_colorsOf_19 : decode cX8_colorsOf 19 = .ok (.getfield 9, 3) := by decide +kernel
theorem dX8_colorsOf_22 : decode cX8_colorsOf 22 = .ok (.bipush 67, 2) := by decide +kernel
theorem dX8_colorsOf_24 : decode cX8_colorsOf 24 = .ok (.aload_n 0, 1) := by decide +kernel
theorem dX8_colorsOf_25 : decode cX8_colorsOf 25 = .ok (.iload_n 1, 1) := by decide +kernel
theorem dX8_colorsOf_26 : decode cX8_colorsOf 26 = .ok (.iload_n 2, 1) := by decide +kernel
theorem dX8_colorsOf_27 : decode cX8_colorsOf 27 = .ok (.invokevirtual 217, 3) := by decide +kernel
theorem dX8_colorsOf_30 : decode cX8_colorsOf 30 = .ok (.iadd, 1) := by decide +kernel
theorem dX8_colorsOf_31 : decode cX8_colorsOf 31 = .ok (.iaload, 1) := by decide +kernel
theorem dX8_colorsOf_32 : decode cX8_colorsOf 32 = .ok (.ireturn, 1) := by decide +kernel
theorem dX8_ranksOf_0 : decode cX8_ranksOf 0 = .ok (.aload_n 0, 1) := by decide +kernel
theorem dX8_ranksOf_1 : decode cX8_ranksOf 1 = .ok (.aload_n 0, 1) := by decide +kernel
theorem dX8_ranksOf_2 : decode cX8_ranksOf 2 = .ok (.iload_n 1, 1) := by decide +kernel
theorem dX8_ranksOf_3 : decode cX8_ranksOf 3 = .ok (.iload_n 2, 1) := by decide +kernel
theorem dX8_ranksOf_4 : decode cX8_ranksOf 4 = .ok (.invokevirtual 213, 3) := by decide +kernel
theorem dX8_ranksOf_7 : decode cX8_ranksOf 7 = .ok (.iconst 1, 1) := by decide +kernel
theorem dX8_ranksOf_8 : decode cX8_ranksOf 8 = .ok (.invokevirtual 206, 3) := by decide +kernel
theorem dX8_ranksOf_11 : decode cX8_ranksOf 11 = .ok (.ifCond .eq 7, 3) := by decide +kernel
theorem dX8_ranksOf_14 : decode cX8_ranksOf 14 = .ok (.iconst 0, 1) := by decide +kernel
theorem dX8_ranksOf_15 : decode cX8_ranksOf 15 = .ok (.goto 17, 3) := by decide +kernel
theorem dX8_ranksOf_18 : decode cX8_ranksOf 18 = .ok (.aload_n 0, 1) := by decide +kernel
theorem dX8_ranksOf_19 : decode cX8_ranksOf 19 = .ok (.getfield 9, 3) := by decide +kernel
theorem dX8_ranksOf_22 : decode cX8_ranksOf 22 = .ok (.bipush 107, 2) := by decide +kernel
theorem dX8_ranksOf_24 : decode cX8_ranksOf 24 = .ok (.aload_n 0, 1) := by decide +kernel
theorem dX8_ranksOf_25 : decode cX8_ranksOf 25 = .ok (.iload_n 1, 1) := by decide +kernel
theorem dX8_ranksOf_26 : decode cX8_ranksOf 26 = .ok (.iload_n 2, 1) := by decide +kernel
theorem dX8_ranksOf_27 : decode cX8_ranksOf 27 = .ok (.invokevirtual 217, 3) := by decide +kernel
theorem dX8_ranksOf_30 : decode cX8_ranksOf 30 = .ok (.iadd, 1) := by decide +kernel
theorem dX8_ranksOf_31 : decode cX8_ranksOf 31 = .ok (.iaload, 1) := by decide +kernel
theorem dX8_ranksOf_32 : decode cX8_ranksOf 32 = .ok (.ireturn, 1) := by decide +kernel
theorem dX8_isTouched_0 : decode cX8_isTouched 0 = .ok (.aload_n 0, 1) := by decide +kernel
theorem dX8_isTouched_1 : decode cX8_isTouched 1 = .ok (.aload_n 0, 1) := by decide +kernel
theorem dX8_isTouched_2 : decode cX8_isTouched 2 = .ok (.iload_n 1, 1) := by decide +kernel
theorem dX8_isTouched_3 : decode cX8_isTouched 3 = .ok (.iload_n 2, 1) := by decide +kernel
theorem dX8_isTouched_4 : decode cX8_isTouched 4 = .ok (.invokevirtual 213, 3) := by decide +kernel
theorem dX8_isTouched_7 : decode cX8_isTouched 7 = .ok (.iconst 1, 1) := by decide +kernel
theorem dX8_isTouched_8 : decode cX8_isTouched 8 = .ok (.invokevirtual 206, 3) := by decide +kernel
theorem dX8_isTouched_11 : decode cX8_isTouched 11 = .ok (.ifCond .ne 26, 3) := by decide +kernel
theorem dX8_isTouched_14 : decode cX8_isTouched 14 = .ok (.aload_n 0, 1) := by decide +kernel
theorem dX8_isTouched_15 : decode cX8_isTouched 15 = .ok (.getfield 9, 3) := by decide +kernel
theorem dX8_isTouched_18 : decode cX8_isTouched 18 = .ok (.sipush 147, 3) := by decide +kernel
theorem dX8_isTouched_21 : decode cX8_isTouched 21 = .ok (.aload_n 0, 1) := by decide +kernel
theorem dX8_isTouched_22 : decode cX8_isTouched 22 = .ok (.iload_n 1, 1) := by decide +kernel
theorem dX8_isTouched_23 : decode cX8_isTouched 23 = .ok (.iload_n 2, 1) := by decide +kernel
theorem dX8_isTouched_24 : decode cX8_isTouched 24 = .ok (.invokevirtual 217, 3) := by decide +kernel
theorem dX8_isTouched_27 : decode cX8_isTouched 27 = .ok (.iadd, 1) := by decide +kernel
theorem dX8_isTouched_28 : decode cX8_isTouched 28 = .ok (.iaload, 1) := by decide +kernel
theorem dX8_isTouched_29 : decode cX8_isTouched 29 = .ok (.iconst 1, 1) := by decide +kernel
theorem dX8_isTouched_30 : decode cX8_isTouched 30 = .ok (.if_icmp .ne 7, 3) := by decide +kernel
theorem dX8_isTouched_33 : decode cX8_isTouched 33 = .ok (.iconst 1, 1) := by decide +kernel
theorem dX8_isTouched_34 : decode cX8_isTouched 34 = .ok (.goto 4, 3) := by decide +kernel
theorem dX8_isTouched_37 : decode cX8_isTouched 37 = .ok (.iconst 0, 1) := by decide +kernel
theorem dX8_isTouched_38 : decode cX8_isTouched 38 = .ok (.ireturn, 1) := by decide +kernel
theorem dX8_isThought_0 : decode cX8_isThought 0 = .ok (.iload_n 3, 1) := by decide +kernel
theorem dX8_isThought_1 : decode cX8_isThought 1 = .ok (.iload_n 2, 1) := by decide +kernel
theorem dX8_isThought_2 : decode cX8_isThought 2 = .ok (.invokestatic 70, 3) := by decide +kernel
theorem dX8_isThought_5 : decode cX8_isThought 5 = .ok (.ishr, 1) := by decide +kernel
theorem dX8_isThought_6 : decode cX8_isThought 6 = .ok (.iconst 1, 1) := by decide +kernel
theorem dX8_isThought_7 : decode cX8_isThought 7 = .ok (.iand, 1) := by decide +kernel
theorem dX8_isThought_8 : decode cX8_isThought 8 = .ok (.ifCond .eq 17, 3) := by decide +kernel
theorem dX8_isThought_11 : decode cX8_isThought 11 = .ok (.iload 4, 2) := by decide +kernel
theorem dX8_isThought_13 : decode cX8_isThought 13 = .ok (.iload_n 2, 1) := by decide +kernel
theorem dX8_isThought_14 : decode cX8_isThought 14 = .ok (.invokestatic 74, 3) := by decide +kernel
theorem dX8_isThought_17 : decode cX8_isThought 17 = .ok (.iconst 1, 1) := by decide +kernel
theorem dX8_isThought_18 : decode cX8_isThought 18 = .ok (.isub, 1) := by decide +kernel
theorem dX8_isThought_19 : decode cX8_isThought 19 = .ok (.ishr, 1) := by decide +kernel
theorem dX8_isThought_20 : decode cX8_isThought 20 = .ok (.iconst 1, 1) := by decide +kernel
theorem dX8_isThought_21 : decode cX8_isThought 21 = .ok (.iand, 1) := by decide +kernel
theorem dX8_isThought_22 : decode cX8_isThought 22 = .ok (.ifCond .ne 5, 3) := by decide +kernel
theorem dX8_isThought_25 : decode cX8_isThought 25 = .ok (.iconst 0, 1) := by decide +kernel
theorem dX8_isThought_26 : decode cX8_isThought 26 = .ok (.ireturn, 1) := by decide +kernel
theorem dX8_isThought_27 : decode cX8_isThought 27 = .ok (.aload_n 0, 1) := by decide +kernel
theorem dX8_isThought_28 : decode cX8_isThought 28 = .ok (.getfield 9, 3) := by decide +kernel
theorem dX8_isThought_31 : decode cX8_isThought 31 = .ok (.bipush 14, 2) := by decide +kernel
theorem dX8_isThought_33 : decode cX8_isThought 33 = .ok (.iload_n 2, 1) := by decide +kernel
theorem dX8_isThought_34 : decode cX8_isThought 34 = .ok (.invokestatic 70, 3) := by decide +kernel
theorem dX8_isThought_37 : decode cX8_isThought 37 = .ok (.iadd, 1) := by decide +kernel
theorem dX8_isThought_38 : decode cX8_isThought 38 = .ok (.iaload, 1) := by decide +kernel
theorem dX8_isThought_39 : decode cX8_isThought 39 = .ok (.iload_n 2, 1) := by decide +kernel
theorem dX8_isThought_40 : decode cX8_isThought 40 = .ok (.invokestatic 74, 3) := by decide +kernel
theorem dX8_isThought_43 : decode cX8_isThought 43 = .ok (.if_icmp .lt 7, 3) := by decide +kernel
theorem dX8_isThought_46 : decode cX8_isThought 46 = .ok (.iconst 1, 1) := by decide +kernel
theorem dX8_isThought_47 : decode cX8_isThought 47 = .ok (.goto 4, 3) := by decide +kernel
theorem dX8_isThought_50 : decode cX8_isThought 50 = .ok (.iconst 0, 1) := by decide +kernel
theorem dX8_isThought_51 : decode cX8_isThought 51 = .ok (.istore 5, 2) := by decide +kernel
theorem dX8_isThought_53 : decode cX8_isThought 53 = .ok (.aload_n 0, 1) := by decide +kernel
theorem dX8_isThought_54 : decode cX8_isThought 54 = .ok (.iload_n 2, 1) := by decide +kernel
theorem dX8_isThought_55 : decode cX8_isThought 55 = .ok (.iconst 0, 1) := by decide +kernel
theorem dX8_isThought_56 : decode cX8_isThought 56 = .ok (.invokevirtual 226, 3) := by decide +kernel
theorem dX8_isThought_59 : decode cX8_isThought 59 = .ok (.aload_n 0, 1) := by decide +kernel
theorem dX8_isThought_60 : decode cX8_isThought 60 = .ok (.getfield 9, 3) := by decide +kernel
theorem dX8_isThought_63 : decode cX8_isThought 63 = .ok (.sipush 211, 3) := by decide +kernel
theorem dX8_isThought_66 : decode cX8_isThought 66 = .ok (.iload_n 2, 1) := by decide +kernel
theorem dX8_isThought_67 : decode cX8_isThought 67 = .ok (.iadd, 1) := by decide +kernel
theorem dX8_isThought_68 : decode cX8_isThought 68 = .ok (.iaload, 1) := by decide +kernel
theorem dX8_isThought_69 : decode cX8_isThought 69 = .ok (.iload 5, 2) := by decide +kernel
theorem dX8_isThought_71 : decode cX8_isThought 71 = .ok (.iadd, 1) := by decide +kernel
theorem dX8_isThought_72 : decode cX8_isThought 72 = .ok (.aload_n 0, 1) := by decide +kernel
theorem dX8_isThought_73 : decode cX8_isThought 73 = .ok (.iload_n 2, 1) := by decide +kernel
theorem dX8_isThought_74 : decode cX8_isThought 74 = .ok (.iload_n 1, 1) := by decide +kernel
theorem dX8_isThought_75 : decode cX8_isThought 75 = .ok (.invokevirtual 229, 3) := by decide +kernel
theorem dX8_isThought_78 : decode cX8_isThought 78 = .ok (.iadd, 1) := by decide +kernel
theorem dX8_isThought_79 : decode cX8_isThought 79 = .ok (.if_icmp .le 7, 3) := by decide +kernel
theorem dX8_isThought_82 : decode cX8_isThought 82 = .ok (.iconst 1, 1) := by decide +kernel
theorem dX8_isThought_83 : decode cX8_isThought 83 = .ok (.goto 4, 3) := by decide +kernel
theorem dX8_isThought_86 : decode cX8_isThought 86 = .ok (.iconst 0, 1) := by decide +kernel
theorem dX8_isThought_87 : decode cX8_isThought 87 = .ok (.ireturn, 1) := by decide +kernel
theorem dX8_knownOf_0 : decode cX8_knownOf 0 = .ok (.iconst 1, 1) := by decide +kernel
theorem dX8_knownOf_1 : decode cX8_knownOf 1 = .ok (.istore 4, 2) := by decide +kernel
theorem dX8_knownOf_3 : decode cX8_knownOf 3 = .ok (.iconst 1, 1) := by decide +kernel
theorem dX8_knownOf_4 : decode cX8_knownOf 4 = .ok (.istore 5, 2) := by decide +kernel
theorem dX8_knownOf_6 : decode cX8_knownOf 6 = .ok (.iconst 0, 1) := by decide +kernel
theorem dX8_knownOf_7 : decode cX8_knownOf 7 = .ok (.istore 6, 2) := by decide +kernel
theorem dX8_knownOf_9 : decode cX8_knownOf 9 = .ok (.iconst 0, 1) := by decide +kernel
theorem dX8_knownOf_10 : decode cX8_knownOf 10 = .ok (.istore 7, 2) := by decide +kernel
theorem dX8_knownOf_12 : decode cX8_knownOf 12 = .ok (.iload 7, 2) := by decide +kernel
theorem dX8_knownOf_14 : decode cX8_knownOf 14 = .ok (.bipush 20, 2) := by decide +kernel
theorem dX8_knownOf_16 : decode cX8_knownOf 16 = .ok (.if_icmp .ge 66, 3) := by decide +kernel
theorem dX8_knownOf_19 : decode cX8_knownOf 19 = .ok (.aload_n 0, 1) := by decide +kernel
theorem dX8_knownOf_20 : decode cX8_knownOf 20 = .ok (.iload_n 1, 1) := by decide +kernel
theorem dX8_knownOf_21 : decode cX8_knownOf 21 = .ok (.iload 7, 2) := by decide +kernel
theorem dX8_knownOf_23 : decode cX8_knownOf 23 = .ok (.iload_n 2, 1) := by decide +kernel
theorem dX8_knownOf_24 : decode cX8_knownOf 24 = .ok (.iload_n 3, 1) := by decide +kernel
theorem dX8_knownOf_25 : decode cX8_knownOf 25 = .ok (.invokevirtual 241, 3) := by decide +kernel
theorem dX8_knownOf_28 : decode cX8_knownOf 28 = .ok (.ifCond .eq 48, 3) := by decide +kernel
theorem dX8_knownOf_31 : decode cX8_knownOf 31 = .ok (.iinc 6 1, 3) := by decide +kernel
theorem dX8_knownOf_34 : decode cX8_knownOf 34 = .ok (.iload 4, 2) := by decide +kernel
theorem dX8_knownOf_36 : decode cX8_knownOf 36 = .ok (.ifCond .eq 16, 3) := by decide +kernel
theorem dX8_knownOf_39 : decode cX8_knownOf 39 = .ok (.aload_n 0, 1) := by decide +kernel
theorem dX8_knownOf_40 : decode cX8_knownOf 40 = .ok (.iload 7, 2) := by decide +kernel
theorem dX8_knownOf_42 : decode cX8_knownOf 42 = .ok (.invokevirtual 245, 3) := by decide +kernel
theorem dX8_knownOf_45 : decode cX8_knownOf 45 = .ok (.ifCond .eq 7, 3) := by decide +kernel
theorem dX8_knownOf_48 : decode cX8_knownOf 48 = .ok (.iconst 1, 1) := by decide +kernel
theorem dX8_knownOf_49 : decode cX8_knownOf 49 = .ok (.goto 4, 3) := by decide +kernel
theorem dX8_knownOf_52 : decode cX8_knownOf 52 = .ok (.iconst 0, 1) := by decide +kernel
theorem dX8_knownOf_53 : decode cX8_knownOf 53 = .ok (.istore 4, 2) := by decide +kernel
theorem dX8_knownOf_55 : decode cX8_knownOf 55 = .ok (.iload 5, 2) := by decide +kernel
theorem dX8_knownOf_57 : decode cX8_knownOf 57 = .ok (.ifCond .eq 16, 3) := by decide +kernel
theorem dX8_knownOf_60 : decode cX8_knownOf 60 = .ok (.aload_n 0, 1) := by decide +kernel
theorem dX8_knownOf_61 : decode cX8_knownOf 61 = .ok (.iload 7, 2) := by decide +kernel
theorem dX8_knownOf_63 : decode cX8_knownOf 63 = .ok (.invokevirtual 235, 3) := by decide +kernel
theorem dX8_knownOf_66 : decode cX8_knownOf 66 = .ok (.ifCond .eq 7, 3) := by decide +kernel
theorem dX8_knownOf_69 : decode cX8_knownOf 69 = .ok (.iconst 1, 1) := by decide +kernel
theorem dX8_knownOf_70 : decode cX8_knownOf 70 = .ok (.goto 4, 3) := by decide +kernel
theorem dX8_knownOf_73 : decode cX8_knownOf 73 = .ok (.iconst 0, 1) := by decide +kernel
theorem dX8_knownOf_74 : decode cX8_knownOf 74 = .ok (.istore 5, 2) := by decide +kernel
theorem dX8_knownOf_76 : decode cX8_knownOf 76 = .ok (.iinc 7 1, 3) := by decide +kernel
theorem dX8_knownOf_79 : decode cX8_knownOf 79 = .ok (.goto (-67), 3) := by decide +kernel
theorem dX8_knownOf_82 : decode cX8_knownOf 82 = .ok (.iload 6, 2) := by decide +kernel
theorem dX8_knownOf_84 : decode cX8_knownOf 84 = .ok (.ifCond .ne 7, 3) := by decide +kernel
theorem dX8_knownOf_87 : decode cX8_knownOf 87 = .ok (.iconst 0, 1) := by decide +kernel
theorem dX8_knownOf_88 : decode cX8_knownOf 88 = .ok (.goto 22, 3) := by decide +kernel
theorem dX8_knownOf_91 : decode cX8_knownOf 91 = .ok (.iload 4, 2) := by decide +kernel
theorem dX8_knownOf_93 : decode cX8_knownOf 93 = .ok (.ifCond .eq 7, 3) := by decide +kernel
theorem dX8_knownOf_96 : decode cX8_knownOf 96 = .ok (.iconst 1, 1) := by decide +kernel
theorem dX8_knownOf_97 : decode cX8_knownOf 97 = .ok (.goto 13, 3) := by decide +kernel
theorem dX8_knownOf_100 : decode cX8_knownOf 100 = .ok (.iload 5, 2) := by decide +kernel
theorem dX8_knownOf_102 : decode cX8_knownOf 102 = .ok (.ifCond .eq 7, 3) := by decide +kernel
theorem dX8_knownOf_105 : decode cX8_knownOf 105 = .ok (.iconst 2, 1) := by decide +kernel
theorem dX8_knownOf_106 : decode cX8_knownOf 106 = .ok (.goto 4, 3) := by decide +kernel
theorem dX8_knownOf_109 : decode cX8_knownOf 109 = .ok (.iconst 0, 1) := by decide +kernel
theorem dX8_knownOf_110 : decode cX8_knownOf 110 = .ok (.ireturn, 1) := by decide +kernel
theorem dX8_known_0 : decode cX8_known 0 = .ok (.aload_n 0, 1) := by decide +kernel
theorem dX8_known_1 : decode cX8_known 1 = .ok (.iload_n 1, 1) := by decide +kernel
theorem dX8_known_2 : decode cX8_known 2 = .ok (.iload_n 2, 1) := by decide +kernel
theorem dX8_known_3 : decode cX8_known 3 = .ok (.invokevirtual 217, 3) := by decide +kernel
theorem dX8_known_6 : decode cX8_known 6 = .ok (.istore_n 3, 1) := by decide +kernel
theorem dX8_known_7 : decode cX8_known 7 = .ok (.aload_n 0, 1) := by decide +kernel
theorem dX8_known_8 : decode cX8_known 8 = .ok (.iload_n 1, 1) := by decide +kernel
theorem dX8_known_9 : decode cX8_known 9 = .ok (.aload_n 0, 1) := by decide +kernel
theorem dX8_known_10 : decode cX8_known 10 = .ok (.getfield 9, 3) := by decide +kernel
theorem dX8_known_13 : decode cX8_known 13 = .ok (.bipush 67, 2) := by decide +kernel
theorem dX8_known_15 : decode cX8_known 15 = .ok (.iload_n 3, 1) := by decide +kernel
theorem dX8_known_16 : decode cX8_known 16 = .ok (.iadd, 1) := by decide +kernel
theorem dX8_known_17 : decode cX8_known 17 = .ok (.iaload, 1) := by decide +kernel
theorem dX8_known_18 : decode cX8_known 18 = .ok (.aload_n 0, 1) := by decide +kernel
theorem dX8_known_19 : decode cX8_known 19 = .ok (.getfield 9, 3) := by decide +kernel
theorem dX8_known_22 : decode cX8_known 22 = .ok (.bipush 107, 2) := by decide +kernel
theorem dX8_known_24 : decode cX8_known 24 = .ok (.iload_n 3, 1) := by decide +kernel
theorem dX8_known_25 : decode cX8_known 25 = .ok (.iadd, 1) := by decide +kernel
theorem dX8_known_26 : decode cX8_known 26 = .ok (.iaload, 1) := by decide +kernel
theorem dX8_known_27 : decode cX8_known 27 = .ok (.invokevirtual 248, 3) := by decide +kernel
theorem dX8_known_30 : decode cX8_known 30 = .ok (.ireturn, 1) := by decide +kernel
theorem dX8_thoughtAt_0 : decode cX8_thoughtAt 0 = .ok (.aload_n 0, 1) := by decide +kernel
theorem dX8_thoughtAt_1 : decode cX8_thoughtAt 1 = .ok (.iload_n 1, 1) := by decide +kernel
theorem dX8_thoughtAt_2 : decode cX8_thoughtAt 2 = .ok (.iload_n 2, 1) := by decide +kernel
theorem dX8_thoughtAt_3 : decode cX8_thoughtAt 3 = .ok (.invokevirtual 217, 3) := by decide +kernel
theorem dX8_thoughtAt_6 : decode cX8_thoughtAt 6 = .ok (.istore 4, 2) := by decide +kernel
theorem dX8_thoughtAt_8 : decode cX8_thoughtAt 8 = .ok (.iconst 0, 1) := by decide +kernel
theorem dX8_thoughtAt_9 : decode cX8_thoughtAt 9 = .ok (.istore 5, 2) := by decide +kernel
theorem dX8_thoughtAt_11 : decode cX8_thoughtAt 11 = .ok (.iconst 0, 1) := by decide +kernel
theorem dX8_thoughtAt_12 : decode cX8_thoughtAt 12 = .ok (.istore 6, 2) := by decide +kernel
theorem dX8_thoughtAt_14 : decode cX8_thoughtAt 14 = .ok (.iload 6, 2) := by decide +kernel
theorem dX8_thoughtAt_16 : decode cX8_thoughtAt 16 = .ok (.bipush 20, 2) := by decide +kernel
theorem dX8_thoughtAt_18 : decode cX8_thoughtAt 18 = .ok (.if_icmp .ge 57, 3) := by decide +kernel
theorem dX8_thoughtAt_21 : decode cX8_thoughtAt 21 = .ok (.aload_n 0, 1) := by decide +kernel
theorem dX8_thoughtAt_22 : decode cX8_thoughtAt 22 = .ok (.iload_n 1, 1) := by decide +kernel
theorem dX8_thoughtAt_23 : decode cX8_thoughtAt 23 = .ok (.iload 6, 2) := by decide +kernel
theorem dX8_thoughtAt_25 : decode cX8_thoughtAt 25 = .ok (.aload_n 0, 1) := by decide +kernel
theorem dX8_thoughtAt_26 : decode cX8_thoughtAt 26 = .ok (.getfield 9, 3) := by decide +kernel
theorem dX8_thoughtAt_29 : decode cX8_thoughtAt 29 = .ok (.bipush 67, 2) := by decide +kernel
theorem dX8_thoughtAt_31 : decode cX8_thoughtAt 31 = .ok (.iload 4, 2) := by decide +kernel
theorem dX8_thoughtAt_33 : decode cX8_thoughtAt 33 = .ok (.iadd, 1) := by decide +kernel
theorem dX8_thoughtAt_34 : decode cX8_thoughtAt 34 = .ok (.iaload, 1) := by decide +kernel
theorem dX8_thoughtAt_35 : decode cX8_thoughtAt 35 = .ok (.aload_n 0, 1) := by decide +kernel
theorem dX8_thoughtAt_36 : decode cX8_thoughtAt 36 = .ok (.getfield 9, 3) := by decide +kernel
theorem dX8_thoughtAt_39 : decode cX8_thoughtAt 39 = .ok (.bipush 107, 2) := by decide +kernel
theorem dX8_thoughtAt_41 : decode cX8_thoughtAt 41 = .ok (.iload 4, 2) := by decide +kernel
theorem dX8_thoughtAt_43 : decode cX8_thoughtAt 43 = .ok (.iadd, 1) := by decide +kernel
theorem dX8_thoughtAt_44 : decode cX8_thoughtAt 44 = .ok (.iaload, 1) := by decide +kernel
theorem dX8_thoughtAt_45 : decode cX8_thoughtAt 45 = .ok (.invokevirtual 241, 3) := by decide +kernel
theorem dX8_thoughtAt_48 : decode cX8_thoughtAt 48 = .ok (.ifCond .ne 6, 3) := by decide +kernel
theorem dX8_thoughtAt_51 : decode cX8_thoughtAt 51 = .ok (.goto 18, 3) := by decide +kernel
theorem dX8_thoughtAt_54 : decode cX8_thoughtAt 54 = .ok (.iload 5, 2) := by decide +kernel
theorem dX8_thoughtAt_56 : decode cX8_thoughtAt 56 = .ok (.iload_n 3, 1) := by decide +kernel
theorem dX8_thoughtAt_57 : decode cX8_thoughtAt 57 = .ok (.if_icmp .ne 9, 3) := by decide +kernel
theorem dX8_thoughtAt_60 : decode cX8_thoughtAt 60 = .ok (.iload 6, 2) := by decide +kernel
theorem dX8_thoughtAt_62 : decode cX8_thoughtAt 62 = .ok (.invokestatic 220, 3) := by decide +kernel
theorem dX8_thoughtAt_65 : decode cX8_thoughtAt 65 = .ok (.ireturn, 1) := by decide +kernel
theorem dX8_thoughtAt_66 : decode cX8_thoughtAt 66 = .ok (.iinc 5 1, 3) := by decide +kernel
theorem dX8_thoughtAt_69 : decode cX8_thoughtAt 69 = .ok (.iinc 6 1, 3) := by decide +kernel
theorem dX8_thoughtAt_72 : decode cX8_thoughtAt 72 = .ok (.goto (-58), 3) := by decide +kernel
theorem dX8_thoughtAt_75 : decode cX8_thoughtAt 75 = .ok (.iload_n 3, 1) := by decide +kernel
theorem dX8_thoughtAt_76 : decode cX8_thoughtAt 76 = .ok (.iconst (-1), 1) := by decide +kernel
theorem dX8_thoughtAt_77 : decode cX8_thoughtAt 77 = .ok (.if_icmp .ne 8, 3) := by decide +kernel
theorem dX8_thoughtAt_80 : decode cX8_thoughtAt 80 = .ok (.iload 5, 2) := by decide +kernel
theorem dX8_thoughtAt_82 : decode cX8_thoughtAt 82 = .ok (.goto 4, 3) := by decide +kernel
theorem dX8_thoughtAt_85 : decode cX8_thoughtAt 85 = .ok (.iconst (-1), 1) := by decide +kernel
theorem dX8_thoughtAt_86 : decode cX8_thoughtAt 86 = .ok (.ireturn, 1) := by decide +kernel
theorem dX8_thinks_0 : decode cX8_thinks 0 = .ok (.aload_n 0, 1) := by decide +kernel
theorem dX8_thinks_1 : decode cX8_thinks 1 = .ok (.aload_n 0, 1) := by decide +kernel
theorem dX8_thinks_2 : decode cX8_thinks 2 = .ok (.iload_n 1, 1) := by decide +kernel
theorem dX8_thinks_3 : decode cX8_thinks 3 = .ok (.iload_n 2, 1) := by decide +kernel
theorem dX8_thinks_4 : decode cX8_thinks 4 = .ok (.invokevirtual 213, 3) := by decide +kernel
theorem dX8_thinks_7 : decode cX8_thinks 7 = .ok (.iconst 1, 1) := by decide +kernel
theorem dX8_thinks_8 : decode cX8_thinks 8 = .ok (.invokevirtual 206, 3) := by decide +kernel
theorem dX8_thinks_11 : decode cX8_thinks 11 = .ok (.ifCond .eq 7, 3) := by decide +kernel
theorem dX8_thinks_14 : decode cX8_thinks 14 = .ok (.iconst 0, 1) := by decide +kernel
theorem dX8_thinks_15 : decode cX8_thinks 15 = .ok (.goto 10, 3) := by decide +kernel
theorem dX8_thinks_18 : decode cX8_thinks 18 = .ok (.aload_n 0, 1) := by decide +kernel
theorem dX8_thinks_19 : decode cX8_thinks 19 = .ok (.iload_n 1, 1) := by decide +kernel
theorem dX8_thinks_20 : decode cX8_thinks 20 = .ok (.iload_n 2, 1) := by decide +kernel
theorem dX8_thinks_21 : decode cX8_thinks 21 = .ok (.iconst (-1), 1) := by decide +kernel
theorem dX8_thinks_22 : decode cX8_thinks 22 = .ok (.invokevirtual 252, 3) := by decide +kernel
theorem dX8_thinks_25 : decode cX8_thinks 25 = .ok (.ireturn, 1) := by decide +kernel
theorem dX8_thought_0 : decode cX8_thought 0 = .ok (.aload_n 0, 1) := by decide +kernel
theorem dX8_thought_1 : decode cX8_thought 1 = .ok (.aload_n 0, 1) := by decide +kernel
theorem dX8_thought_2 : decode cX8_thought 2 = .ok (.iload_n 1, 1) := by decide +kernel
theorem dX8_thought_3 : decode cX8_thought 3 = .ok (.iload_n 2, 1) := by decide +kernel
theorem dX8_thought_4 : decode cX8_thought 4 = .ok (.invokevirtual 213, 3) := by decide +kernel
theorem dX8_thought_7 : decode cX8_thought 7 = .ok (.iconst 1, 1) := by decide +kernel
theorem dX8_thought_8 : decode cX8_thought 8 = .ok (.invokevirtual 206, 3) := by decide +kernel
theorem dX8_thought_11 : decode cX8_thought 11 = .ok (.ifCond .eq 5, 3) := by decide +kernel
theorem dX8_thought_14 : decode cX8_thought 14 = .ok (.iconst 0, 1) := by decide +kernel
theorem dX8_thought_15 : decode cX8_thought 15 = .ok (.ireturn, 1) := by decide +kernel
theorem dX8_thought_16 : decode cX8_thought 16 = .ok (.iload_n 3, 1) := by decide +kernel
theorem dX8_thought_17 : decode cX8_thought 17 = .ok (.ifCond .ge 7, 3) := by decide +kernel
theorem dX8_thought_20 : decode cX8_thought 20 = .ok (.iconst (-1), 1) := by decide +kernel
theorem dX8_thought_21 : decode cX8_thought 21 = .ok (.goto 10, 3) := by decide +kernel
theorem dX8_thought_24 : decode cX8_thought 24 = .ok (.aload_n 0, 1) := by decide +kernel
theorem dX8_thought_25 : decode cX8_thought 25 = .ok (.iload_n 1, 1) := by decide +kernel
theorem dX8_thought_26 : decode cX8_thought 26 = .ok (.iload_n 2, 1) := by decide +kernel
theorem dX8_thought_27 : decode cX8_thought 27 = .ok (.iload_n 3, 1) := by decide +kernel
theorem dX8_thought_28 : decode cX8_thought 28 = .ok (.invokevirtual 252, 3) := by decide +kernel
theorem dX8_thought_31 : decode cX8_thought 31 = .ok (.ireturn, 1) := by decide +kernel
theorem dX8_knows_0 : decode cX8_knows 0 = .ok (.aload_n 0, 1) := by decide +kernel
theorem dX8_knows_1 : decode cX8_knows 1 = .ok (.aload_n 0, 1) := by decide +kernel
theorem dX8_knows_2 : decode cX8_knows 2 = .ok (.iload_n 1, 1) := by decide +kernel
theorem dX8_knows_3 : decode cX8_knows 3 = .ok (.iload_n 2, 1) := by decide +kernel
theorem dX8_knows_4 : decode cX8_knows 4 = .ok (.invokevirtual 213, 3) := by decide +kernel
theorem dX8_knows_7 : decode cX8_knows 7 = .ok (.iconst 1, 1) := by decide +kernel
theorem dX8_knows_8 : decode cX8_knows 8 = .ok (.invokevirtual 206, 3) := by decide +kernel
theorem dX8_knows_11 : decode cX8_knows 11 = .ok (.ifCond .eq 7, 3) := by decide +kernel
theorem dX8_knows_14 : decode cX8_knows 14 = .ok (.iconst 0, 1) := by decide +kernel
theorem dX8_knows_15 : decode cX8_knows 15 = .ok (.goto 9, 3) := by decide +kernel
theorem dX8_knows_18 : decode cX8_knows 18 = .ok (.aload_n 0, 1) := by decide +kernel
theorem dX8_knows_19 : decode cX8_knows 19 = .ok (.iload_n 1, 1) := by decide +kernel
theorem dX8_knows_20 : decode cX8_knows 20 = .ok (.iload_n 2, 1) := by decide +kernel
theorem dX8_knows_21 : decode cX8_knows 21 = .ok (.invokevirtual 255, 3) := by decide +kernel
theorem dX8_knows_24 : decode cX8_knows 24 = .ok (.ireturn, 1) := by decide +kernel
theorem dX8_wordAt_0 : decode cX8_wordAt 0 = .ok (.iload_n 0, 1) := by decide +kernel
theorem dX8_wordAt_1 : decode cX8_wordAt 1 = .ok (.ifCond .ne 10, 3) := by decide +kernel
theorem dX8_wordAt_4 : decode cX8_wordAt 4 = .ok (.bipush 18, 2) := by decide +kernel
theorem dX8_wordAt_6 : decode cX8_wordAt 6 = .ok (.iload_n 1, 1) := by decide +kernel
theorem dX8_wordAt_7 : decode cX8_wordAt 7 = .ok (.iadd, 1) := by decide +kernel
theorem dX8_wordAt_8 : decode cX8_wordAt 8 = .ok (.goto 9, 3) := by decide +kernel
theorem dX8_wordAt_11 : decode cX8_wordAt 11 = .ok (.bipush 22, 2) := by decide +kernel
theorem dX8_wordAt_13 : decode cX8_wordAt 13 = .ok (.iload_n 1, 1) := by decide +kernel
theorem dX8_wordAt_14 : decode cX8_wordAt 14 = .ok (.iadd, 1) := by decide +kernel
theorem dX8_wordAt_15 : decode cX8_wordAt 15 = .ok (.iconst 1, 1) := by decide +kernel
theorem dX8_wordAt_16 : decode cX8_wordAt 16 = .ok (.isub, 1) := by decide +kernel
theorem dX8_wordAt_17 : decode cX8_wordAt 17 = .ok (.ireturn, 1) := by decide +kernel
theorem dX8_isWordOf_0 : decode cX8_isWordOf 0 = .ok (.iload_n 1, 1) := by decide +kernel
theorem dX8_isWordOf_1 : decode cX8_isWordOf 1 = .ok (.ifCond .ne 19, 3) := by decide +kernel
theorem dX8_isWordOf_4 : decode cX8_isWordOf 4 = .ok (.iload_n 2, 1) := by decide +kernel
theorem dX8_isWordOf_5 : decode cX8_isWordOf 5 = .ok (.iconst 0, 1) := by decide +kernel
theorem dX8_isWordOf_6 : decode cX8_isWordOf 6 = .ok (.aload_n 0, 1) := by decide +kernel
theorem dX8_isWordOf_7 : decode cX8_isWordOf 7 = .ok (.getfield 9, 3) := by decide +kernel
theorem dX8_isWordOf_10 : decode cX8_isWordOf 10 = .ok (.iconst 0, 1) := by decide +kernel
theorem dX8_isWordOf_11 : decode cX8_isWordOf 11 = .ok (.iaload, 1) := by decide +kernel
theorem dX8_isWordOf_12 : decode cX8_isWordOf 12 = .ok (.iconst 1, 1) := by decide +kernel
theorem dX8_isWordOf_13 : decode cX8_isWordOf 13 = .ok (.isub, 1) := by decide +kernel
theorem dX8_isWordOf_14 : decode cX8_isWordOf 14 = .ok (.invokestatic 62, 3) := by decide +kernel
theorem dX8_isWordOf_17 : decode cX8_isWordOf 17 = .ok (.ifCond .ne 22, 3) := by decide +kernel
theorem dX8_isWordOf_20 : decode cX8_isWordOf 20 = .ok (.iload_n 1, 1) := by decide +kernel
theorem dX8_isWordOf_21 : decode cX8_isWordOf 21 = .ok (.iconst 1, 1) := by decide +kernel
theorem dX8_isWordOf_22 : decode cX8_isWordOf 22 = .ok (.if_icmp .ne 21, 3) := by decide +kernel
theorem dX8_isWordOf_25 : decode cX8_isWordOf 25 = .ok (.iload_n 2, 1) := by decide +kernel
theorem dX8_isWordOf_26 : decode cX8_isWordOf 26 = .ok (.iconst 1, 1) := by decide +kernel
theorem dX8_isWordOf_27 : decode cX8_isWordOf 27 = .ok (.aload_n 0, 1) := by decide +kernel
theorem dX8_isWordOf_28 : decode cX8_isWordOf 28 = .ok (.getfield 9, 3) := by decide +kernel
theorem dX8_isWordOf_31 : decode cX8_isWordOf 31 = .ok (.iconst 1, 1) := by decide +kernel
theorem dX8_isWordOf_32 : decode cX8_isWordOf 32 = .ok (.iaload, 1) := by decide +kernel
theorem dX8_isWordOf_33 : decode cX8_isWordOf 33 = .ok (.invokestatic 62, 3) := by decide +kernel
theorem dX8_isWordOf_36 : decode cX8_isWordOf 36 = .ok (.ifCond .eq 7, 3) := by decide +kernel
theorem dX8_isWordOf_39 : decode cX8_isWordOf 39 = .ok (.iconst 1, 1) := by decide +kernel
theorem dX8_isWordOf_40 : decode cX8_isWordOf 40 = .ok (.goto 4, 3) := by decide +kernel
theorem dX8_isWordOf_43 : decode cX8_isWordOf 43 = .ok (.iconst 0, 1) := by decide +kernel
theorem dX8_isWordOf_44 : decode cX8_isWordOf 44 = .ok (.ireturn, 1) := by decide +kernel
theorem dX8_wordsLeft_0 : decode cX8_wordsLeft 0 = .ok (.aload_n 0, 1) := by decide +kernel
theorem dX8_wordsLeft_1 : decode cX8_wordsLeft 1 = .ok (.aload_n 0, 1) := by decide +kernel
theorem dX8_wordsLeft_2 : decode cX8_wordsLeft 2 = .ok (.iload_n 1, 1) := by decide +kernel
theorem dX8_wordsLeft_3 : decode cX8_wordsLeft 3 = .ok (.iload_n 2, 1) := by decide +kernel
theorem dX8_wordsLeft_4 : decode cX8_wordsLeft 4 = .ok (.invokevirtual 258, 3) := by decide +kernel
theorem dX8_wordsLeft_7 : decode cX8_wordsLeft 7 = .ok (.iconst 1, 1) := by decide +kernel
theorem dX8_wordsLeft_8 : decode cX8_wordsLeft 8 = .ok (.invokevirtual 206, 3) := by decide +kernel
theorem dX8_wordsLeft_11 : decode cX8_wordsLeft 11 = .ok (.ifCond .eq 7, 3) := by decide +kernel
theorem dX8_wordsLeft_14 : decode cX8_wordsLeft 14 = .ok (.iconst 0, 1) := by decide +kernel
theorem dX8_wordsLeft_15 : decode cX8_wordsLeft 15 = .ok (.goto 13, 3) := by decide +kernel
theorem dX8_wordsLeft_18 : decode cX8_wordsLeft 18 = .ok (.aload_n 0, 1) := by decide +kernel
theorem dX8_wordsLeft_19 : decode cX8_wordsLeft 19 = .ok (.getfield 9, 3) := by decide +kernel
theorem dX8_wordsLeft_22 : decode cX8_wordsLeft 22 = .ok (.iload_n 1, 1) := by decide +kernel
theorem dX8_wordsLeft_23 : decode cX8_wordsLeft 23 = .ok (.iload_n 2, 1) := by decide +kernel
theorem dX8_wordsLeft_24 : decode cX8_wordsLeft 24 = .ok (.invokestatic 142, 3) := by decide +kernel
theorem dX8_wordsLeft_27 : decode cX8_wordsLeft 27 = .ok (.iaload, 1) := by decide +kernel
theorem dX8_wordsLeft_28 : decode cX8_wordsLeft 28 = .ok (.ireturn, 1) := by decide +kernel
theorem dX8_isTouchedBy_0 : decode cX8_isTouchedBy 0 = .ok (.aload_n 0, 1) := by decide +kernel
theorem dX8_isTouchedBy_1 : decode cX8_isTouchedBy 1 = .ok (.getfield 9, 3) := by decide +kernel
theorem dX8_isTouchedBy_4 : decode cX8_isTouchedBy 4 = .ok (.bipush 27, 2) := by decide +kernel
theorem dX8_isTouchedBy_6 : decode cX8_isTouchedBy 6 = .ok (.iload_n 1, 1) := by decide +kernel
theorem dX8_isTouchedBy_7 : decode cX8_isTouchedBy 7 = .ok (.iadd, 1) := by decide +kernel
theorem dX8_isTouchedBy_8 : decode cX8_isTouchedBy 8 = .ok (.iaload, 1) := by decide +kernel
theorem dX8_isTouchedBy_9 : decode cX8_isTouchedBy 9 = .ok (.istore 4, 2) := by decide +kernel
theorem dX8_isTouchedBy_11 : decode cX8_isTouchedBy 11 = .ok (.iload_n 2, 1) := by decide +kernel
theorem dX8_isTouchedBy_12 : decode cX8_isTouchedBy 12 = .ok (.ifCond .ne 20, 3) := by decide +kernel
theorem dX8_isTouchedBy_15 : decode cX8_isTouchedBy 15 = .ok (.iload 4, 2) := by decide +kernel
theorem dX8_isTouchedBy_17 : decode cX8_isTouchedBy 17 = .ok (.invokestatic 70, 3) := by decide +kernel
theorem dX8_isTouchedBy_20 : decode cX8_isTouchedBy 20 = .ok (.iload_n 3, 1) := by decide +kernel
theorem dX8_isTouchedBy_21 : decode cX8_isTouchedBy 21 = .ok (.if_icmp .ne 7, 3) := by decide +kernel
theorem dX8_isTouchedBy_24 : decode cX8_isTouchedBy 24 = .ok (.iconst 1, 1) := by decide +kernel
theorem dX8_isTouchedBy_25 : decode cX8_isTouchedBy 25 = .ok (.goto 21, 3) := by decide +kernel
theorem dX8_isTouchedBy_28 : decode cX8_isTouchedBy 28 = .ok (.iconst 0, 1) := by decide +kernel
theorem dX8_isTouchedBy_29 : decode cX8_isTouchedBy 29 = .ok (.goto 17, 3) := by decide +kernel
theorem dX8_isTouchedBy_32 : decode cX8_isTouchedBy 32 = .ok (.iload 4, 2) := by decide +kernel
theorem dX8_isTouchedBy_34 : decode cX8_isTouchedBy 34 = .ok (.invokestatic 74, 3) := by decide +kernel
theorem dX8_isTouchedBy_37 : decode cX8_isTouchedBy 37 = .ok (.iload_n 3, 1) := by decide +kernel
theorem dX8_isTouchedBy_38 : decode cX8_isTouchedBy 38 = .ok (.if_icmp .ne 7, 3) := by decide +kernel
theorem dX8_isTouchedBy_41 : decode cX8_isTouchedBy 41 = .ok (.iconst 1, 1) := by decide +kernel
theorem dX8_isTouchedBy_42 : decode cX8_isTouchedBy 42 = .ok (.goto 4, 3) := by decide +kernel
theorem dX8_isTouchedBy_45 : decode cX8_isTouchedBy 45 = .ok (.iconst 0, 1) := by decide +kernel
theorem dX8_isTouchedBy_46 : decode cX8_isTouchedBy 46 = .ok (.ireturn, 1) := by decide +kernel
theorem dX8_touched_0 : decode cX8_touched 0 = .ok (.iconst 0, 1) := by decide +kernel
theorem dX8_touched_1 : decode cX8_touched 1 = .ok (.istore 4, 2) := by decide +kernel
theorem dX8_touched_3 : decode cX8_touched 3 = .ok (.iconst 0, 1) := by decide +kernel
theorem dX8_touched_4 : decode cX8_touched 4 = .ok (.istore 5, 2) := by decide +kernel
theorem dX8_touched_6 : decode cX8_touched 6 = .ok (.iload 5, 2) := by decide +kernel
theorem dX8_touched_8 : decode cX8_touched 8 = .ok (.aload_n 0, 1) := by decide +kernel
theorem dX8_touched_9 : decode cX8_touched 9 = .ok (.getfield 9, 3) := by decide +kernel
theorem dX8_touched_12 : decode cX8_touched 12 = .ok (.sipush 187, 3) := by decide +kernel
theorem dX8_touched_15 : decode cX8_touched 15 = .ok (.iload_n 1, 1) := by decide +kernel
theorem dX8_touched_16 : decode cX8_touched 16 = .ok (.iadd, 1) := by decide +kernel
theorem dX8_touched_17 : decode cX8_touched 17 = .ok (.iaload, 1) := by decide +kernel
theorem dX8_touched_18 : decode cX8_touched 18 = .ok (.if_icmp .ge 38, 3) := by decide +kernel
theorem dX8_touched_21 : decode cX8_touched 21 = .ok (.iload 4, 2) := by decide +kernel
theorem dX8_touched_23 : decode cX8_touched 23 = .ok (.aload_n 0, 1) := by decide +kernel
theorem dX8_touched_24 : decode cX8_touched 24 = .ok (.aload_n 0, 1) := by decide +kernel
theorem dX8_touched_25 : decode cX8_touched 25 = .ok (.iload_n 1, 1) := by decide +kernel
theorem dX8_touched_26 : decode cX8_touched 26 = .ok (.iload 5, 2) := by decide +kernel
theorem dX8_touched_28 : decode cX8_touched 28 = .ok (.invokevirtual 217, 3) := by decide +kernel
theorem dX8_touched_31 : decode cX8_touched 31 = .ok (.iload_n 2, 1) := by decide +kernel
theorem dX8_touched_32 : decode cX8_touched 32 = .ok (.iload_n 3, 1) := by decide +kernel
theorem dX8_touched_33 : decode cX8_touched 33 = .ok (.invokevirtual 261, 3) := by decide +kernel
theorem dX8_touched_36 : decode cX8_touched 36 = .ok (.ifCond .eq 10, 3) := by decide +kernel
theorem dX8_touched_39 : decode cX8_touched 39 = .ok (.iconst 1, 1) := by decide +kernel
theorem dX8_touched_40 : decode cX8_touched 40 = .ok (.iload 5, 2) := by decide +kernel
theorem dX8_touched_42 : decode cX8_touched 42 = .ok (.ishl, 1) := by decide +kernel
theorem dX8_touched_43 : decode cX8_touched 43 = .ok (.goto 4, 3) := by decide +kernel
theorem dX8_touched_46 : decode cX8_touched 46 = .ok (.iconst 0, 1) := by decide +kernel
theorem dX8_touched_47 : decode cX8_touched 47 = .ok (.ior, 1) := by decide +kernel
theorem dX8_touched_48 : decode cX8_touched 48 = .ok (.istore 4, 2) := by decide +kernel
theorem dX8_touched_50 : decode cX8_touched 50 = .ok (.iinc 5 1, 3) := by decide +kernel
theorem dX8_touched_53 : decode cX8_touched 53 = .ok (.goto (-47), 3) := by decide +kernel
theorem dX8_touched_56 : decode cX8_touched 56 = .ok (.iload 4, 2) := by decide +kernel
theorem dX8_touched_58 : decode cX8_touched 58 = .ok (.ireturn, 1) := by decide +kernel
theorem dX8_touches_0 : decode cX8_touches 0 = .ok (.aload_n 0, 1) := by decide +kernel
theorem dX8_touches_1 : decode cX8_touches 1 = .ok (.aload_n 0, 1) := by decide +kernel
theorem dX8_touches_2 : decode cX8_touches 2 = .ok (.iload_n 1, 1) := by decide +kernel
theorem dX8_touches_3 : decode cX8_touches 3 = .ok (.invokevirtual 66, 3) := by decide +kernel
theorem dX8_touches_6 : decode cX8_touches 6 = .ok (.iconst 1, 1) := by decide +kernel
theorem dX8_touches_7 : decode cX8_touches 7 = .ok (.invokevirtual 206, 3) := by decide +kernel
theorem dX8_touches_10 : decode cX8_touches 10 = .ok (.ifCond .ne 17, 3) := by decide +kernel
theorem dX8_touches_13 : decode cX8_touches 13 = .ok (.aload_n 0, 1) := by decide +kernel
theorem dX8_touches_14 : decode cX8_touches 14 = .ok (.aload_n 0, 1) := by decide +kernel
theorem dX8_touches_15 : decode cX8_touches 15 = .ok (.iload_n 2, 1) := by decide +kernel
theorem dX8_touches_16 : decode cX8_touches 16 = .ok (.iload_n 3, 1) := by decide +kernel
theorem dX8_touches_17 : decode cX8_touches 17 = .ok (.invokevirtual 258, 3) := by decide +kernel
theorem dX8_touches_20 : decode cX8_touches 20 = .ok (.iconst 2, 1) := by decide +kernel
theorem dX8_touches_21 : decode cX8_touches 21 = .ok (.invokevirtual 206, 3) := by decide +kernel
theorem dX8_touches_24 : decode cX8_touches 24 = .ok (.ifCond .eq 7, 3) := by decide +kernel
theorem dX8_touches_27 : decode cX8_touches 27 = .ok (.iconst 0, 1) := by decide +kernel
theorem dX8_touches_28 : decode cX8_touches 28 = .ok (.goto 10, 3) := by decide +kernel
theorem dX8_touches_31 : decode cX8_touches 31 = .ok (.aload_n 0, 1) := by decide +kernel
theorem dX8_touches_32 : decode cX8_touches 32 = .ok (.iload_n 1, 1) := by decide +kernel
theorem dX8_touches_33 : decode cX8_touches 33 = .ok (.iload_n 2, 1) := by decide +kernel
theorem dX8_touches_34 : decode cX8_touches 34 = .ok (.iload_n 3, 1) := by decide +kernel
theorem dX8_touches_35 : decode cX8_touches 35 = .ok (.invokevirtual 264, 3) := by decide +kernel
theorem dX8_touches_38 : decode cX8_touches 38 = .ok (.ireturn, 1) := by decide +kernel
theorem dX8_leaves_0 : decode cX8_leaves 0 = .ok (.iload_n 3, 1) := by decide +kernel
theorem dX8_leaves_1 : decode cX8_leaves 1 = .ok (.ifCond .eq 9, 3) := by decide +kernel
theorem dX8_leaves_4 : decode cX8_leaves 4 = .ok (.iload_n 1, 1) := by decide +kernel
theorem dX8_leaves_5 : decode cX8_leaves 5 = .ok (.iload_n 2, 1) := by decide +kernel
theorem dX8_leaves_6 : decode cX8_leaves 6 = .ok (.iand, 1) := by decide +kernel
theorem dX8_leaves_7 : decode cX8_leaves 7 = .ok (.goto 8, 3) := by decide +kernel
theorem dX8_leaves_10 : decode cX8_leaves 10 = .ok (.iload_n 1, 1) := by decide +kernel
theorem dX8_leaves_11 : decode cX8_leaves 11 = .ok (.iload_n 2, 1) := by decide +kernel
theorem dX8_leaves_12 : decode cX8_leaves 12 = .ok (.iconst (-1), 1) := by decide +kernel
theorem dX8_leaves_13 : decode cX8_leaves 13 = .ok (.ixor, 1) := by decide +kernel
theorem dX8_leaves_14 : decode cX8_leaves 14 = .ok (.iand, 1) := by decide +kernel
theorem dX8_leaves_15 : decode cX8_leaves 15 = .ok (.ireturn, 1) := by decide +kernel
theorem dX8_colorsBehind_0 : decode cX8_colorsBehind 0 = .ok (.aload_n 0, 1) := by decide +kernel
theorem dX8_colorsBehind_1 : decode cX8_colorsBehind 1 = .ok (.getfield 9, 3) := by decide +kernel
theorem dX8_colorsBehind_4 : decode cX8_colorsBehind 4 = .ok (.bipush 67, 2) := by decide +kernel
theorem dX8_colorsBehind_6 : decode cX8_colorsBehind 6 = .ok (.iload_n 1, 1) := by decide +kernel
theorem dX8_colorsBehind_7 : decode cX8_colorsBehind 7 = .ok (.iadd, 1) := by decide +kernel
theorem dX8_colorsBehind_8 : decode cX8_colorsBehind 8 = .ok (.iaload, 1) := by decide +kernel
theorem dX8_colorsBehind_9 : decode cX8_colorsBehind 9 = .ok (.istore 4, 2) := by decide +kernel
theorem dX8_colorsBehind_11 : decode cX8_colorsBehind 11 = .ok (.iload_n 2, 1) := by decide +kernel
theorem dX8_colorsBehind_12 : decode cX8_colorsBehind 12 = .ok (.ifCond .ne 22, 3) := by decide +kernel
theorem dX8_colorsBehind_15 : decode cX8_colorsBehind 15 = .ok (.aload_n 0, 1) := by decide +kernel
theorem dX8_colorsBehind_16 : decode cX8_colorsBehind 16 = .ok (.iload 4, 2) := by decide +kernel
theorem dX8_colorsBehind_18 : decode cX8_colorsBehind 18 = .ok (.iconst 1, 1) := by decide +kernel
theorem dX8_colorsBehind_19 : decode cX8_colorsBehind 19 = .ok (.iload_n 3, 1) := by decide +kernel
theorem dX8_colorsBehind_20 : decode cX8_colorsBehind 20 = .ok (.ishl, 1) := by decide +kernel
theorem dX8_colorsBehind_21 : decode cX8_colorsBehind 21 = .ok (.aload_n 0, 1) := by decide +kernel
theorem dX8_colorsBehind_22 : decode cX8_colorsBehind 22 = .ok (.iload_n 1, 1) := by decide +kernel
theorem dX8_colorsBehind_23 : decode cX8_colorsBehind 23 = .ok (.iload_n 2, 1) := by decide +kernel
theorem dX8_colorsBehind_24 : decode cX8_colorsBehind 24 = .ok (.iload_n 3, 1) := by decide +kernel
theorem dX8_colorsBehind_25 : decode cX8_colorsBehind 25 = .ok (.invokevirtual 261, 3) := by decide +kernel
theorem dX8_colorsBehind_28 : decode cX8_colorsBehind 28 = .ok (.invokevirtual 267, 3) := by decide +kernel
theorem dX8_colorsBehind_31 : decode cX8_colorsBehind 31 = .ok (.goto 5, 3) := by decide +kernel
theorem dX8_colorsBehind_34 : decode cX8_colorsBehind 34 = .ok (.iload 4, 2) := by decide +kernel
theorem dX8_colorsBehind_36 : decode cX8_colorsBehind 36 = .ok (.ireturn, 1) := by decide +kernel
theorem dX8_ranksBehind_0 : decode cX8_ranksBehind 0 = .ok (.aload_n 0, 1) := by decide +kernel
theorem dX8_ranksBehind_1 : decode cX8_ranksBehind 1 = .ok (.getfield 9, 3) := by decide +kernel
theorem dX8_ranksBehind_4 : decode cX8_ranksBehind 4 = .ok (.bipush 107, 2) := by decide +kernel
theorem dX8_ranksBehind_6 : decode cX8_ranksBehind 6 = .ok (.iload_n 1, 1) := by decide +kernel
theorem dX8_ranksBehind_7 : decode cX8_ranksBehind 7 = .ok (.iadd, 1) := by decide +kernel
theorem dX8_ranksBehind_8 : decode cX8_ranksBehind 8 = .ok (.iaload, 1) := by decide +kernel
theorem dX8_ranksBehind_9 : decode cX8_ranksBehind 9 = .ok (.istore 4, 2) := by decide +kernel
theorem dX8_ranksBehind_11 : decode cX8_ranksBehind 11 = .ok (.iload_n 2, 1) := by decide +kernel
theorem dX8_ranksBehind_12 : decode cX8_ranksBehind 12 = .ok (.iconst 1, 1) := by decide +kernel
theorem dX8_ranksBehind_13 : decode cX8_ranksBehind 13 = .ok (.if_icmp .ne 24, 3) := by decide +kernel
theorem dX8_ranksBehind_16 : decode cX8_ranksBehind 16 = .ok (.aload_n 0, 1) := by decide +kernel
theorem dX8_ranksBehind_17 : decode cX8_ranksBehind 17 = .ok (.iload 4, 2) := by decide +kernel
theorem dX8_ranksBehind_19 : decode cX8_ranksBehind 19 = .ok (.iconst 1, 1) := by decide +kernel
theorem dX8_ranksBehind_20 : decode cX8_ranksBehind 20 = .ok (.iload_n 3, 1) := by decide +kernel
theorem dX8_ranksBehind_21 : decode cX8_ranksBehind 21 = .ok (.iconst 1, 1) := by decide +kernel
theorem dX8_ranksBehind_22 : decode cX8_ranksBehind 22 = .ok (.isub, 1) := by decide +kernel
theorem dX8_ranksBehind_23 : decode cX8_ranksBehind 23 = .ok (.ishl, 1) := by decide +kernel
theorem dX8_ranksBehind_24 : decode cX8_ranksBehind 24 = .ok (.aload_n 0, 1) := by decide +kernel
theorem dX8_ranksBehind_25 : decode cX8_ranksBehind 25 = .ok (.iload_n 1, 1) := by decide +kernel
theorem dX8_ranksBehind_26 : decode cX8_ranksBehind 26 = .ok (.iload_n 2, 1) := by decide +kernel
theorem dX8_ranksBehind_27 : decode cX8_ranksBehind 27 = .ok (.iload_n 3, 1) := by decide +kernel
theorem dX8_ranksBehind_28 : decode cX8_ranksBehind 28 = .ok (.invokevirtual 261, 3) := by decide +kernel
theorem dX8_ranksBehind_31 : decode cX8_ranksBehind 31 = .ok (.invokevirtual 267, 3) := by decide +kernel
theorem dX8_ranksBehind_34 : decode cX8_ranksBehind 34 = .ok (.goto 5, 3) := by decide +kernel
theorem dX8_ranksBehind_37 : decode cX8_ranksBehind 37 = .ok (.iload 4, 2) := by decide +kernel
theorem dX8_ranksBehind_39 : decode cX8_ranksBehind 39 = .ok (.ireturn, 1) := by decide +kernel
theorem dX8_telling_0 : decode cX8_telling 0 = .ok (.iconst 0, 1) := by decide +kernel
theorem dX8_telling_1 : decode cX8_telling 1 = .ok (.istore 4, 2) := by decide +kernel
theorem dX8_telling_3 : decode cX8_telling 3 = .ok (.iconst 0, 1) := by decide +kernel
theorem dX8_telling_4 : decode cX8_telling 4 = .ok (.istore 5, 2) := by decide +kernel
theorem dX8_telling_6 : decode cX8_telling 6 = .ok (.iload 5, 2) := by decide +kernel
theorem dX8_telling_8 : decode cX8_telling 8 = .ok (.aload_n 0, 1) := by decide +kernel
theorem dX8_telling_9 : decode cX8_telling 9 = .ok (.getfield 9, 3) := by decide +kernel
theorem dX8_telling_12 : decode cX8_telling 12 = .ok (.sipush 187, 3) := by decide +kernel
theorem dX8_telling_15 : decode cX8_telling 15 = .ok (.iload_n 1, 1) := by decide +kernel
theorem dX8_telling_16 : decode cX8_telling 16 = .ok (.iadd, 1) := by decide +kernel
theorem dX8_telling_17 : decode cX8_telling 17 = .ok (.iaload, 1) := by decide +kernel
theorem dX8_telling_18 : decode cX8_telling 18 = .ok (.if_icmp .ge 76, 3) := by decide +kernel
theorem dX8_telling_21 : decode cX8_telling 21 = .ok (.aload_n 0, 1) := by decide +kernel
theorem dX8_telling_22 : decode cX8_telling 22 = .ok (.iload_n 1, 1) := by decide +kernel
theorem dX8_telling_23 : decode cX8_telling 23 = .ok (.iload 5, 2) := by decide +kernel
theorem dX8_telling_25 : decode cX8_telling 25 = .ok (.invokevirtual 217, 3) := by decide +kernel
theorem dX8_telling_28 : decode cX8_telling 28 = .ok (.istore 6, 2) := by decide +kernel
theorem dX8_telling_30 : decode cX8_telling 30 = .ok (.aload_n 0, 1) := by decide +kernel
theorem dX8_telling_31 : decode cX8_telling 31 = .ok (.iload_n 1, 1) := by decide +kernel
theorem dX8_telling_32 : decode cX8_telling 32 = .ok (.iload 5, 2) := by decide +kernel
theorem dX8_telling_34 : decode cX8_telling 34 = .ok (.invokevirtual 255, 3) := by decide +kernel
theorem dX8_telling_37 : decode cX8_telling 37 = .ok (.iconst 1, 1) := by decide +kernel
theorem dX8_telling_38 : decode cX8_telling 38 = .ok (.if_icmp .eq 32, 3) := by decide +kernel
theorem dX8_telling_41 : decode cX8_telling 41 = .ok (.aload_n 0, 1) := by decide +kernel
theorem dX8_telling_42 : decode cX8_telling 42 = .ok (.iload_n 1, 1) := by decide +kernel
theorem dX8_telling_43 : decode cX8_telling 43 = .ok (.aload_n 0, 1) := by decide +kernel
theorem dX8_telling_44 : decode cX8_telling 44 = .ok (.iload 6, 2) := by decide +kernel
theorem dX8_telling_46 : decode cX8_telling 46 = .ok (.iload_n 2, 1) := by decide +kernel
theorem dX8_telling_47 : decode cX8_telling 47 = .ok (.iload_n 3, 1) := by decide +kernel
theorem dX8_telling_48 : decode cX8_telling 48 = .ok (.invokevirtual 271, 3) := by decide +kernel
theorem dX8_telling_51 : decode cX8_telling 51 = .ok (.aload_n 0, 1) := by decide +kernel
theorem dX8_telling_52 : decode cX8_telling 52 = .ok (.iload 6, 2) := by decide +kernel
theorem dX8_telling_54 : decode cX8_telling 54 = .ok (.iload_n 2, 1) := by decide +kernel
theorem dX8_telling_55 : decode cX8_telling 55 = .ok (.iload_n 3, 1) := by decide +kernel
theorem dX8_telling_56 : decode cX8_telling 56 = .ok (.invokevirtual 274, 3) := by decide +kernel
theorem dX8_telling_59 : decode cX8_telling 59 = .ok (.invokevirtual 248, 3) := by decide +kernel
theorem dX8_telling_62 : decode cX8_telling 62 = .ok (.iconst 1, 1) := by decide +kernel
theorem dX8_telling_63 : decode cX8_telling 63 = .ok (.if_icmp .ne 7, 3) := by decide +kernel
theorem dX8_telling_66 : decode cX8_telling 66 = .ok (.iconst 1, 1) := by decide +kernel
theorem dX8_telling_67 : decode cX8_telling 67 = .ok (.goto 4, 3) := by decide +kernel
theorem dX8_telling_70 : decode cX8_telling 70 = .ok (.iconst 0, 1) := by decide +kernel
theorem dX8_telling_71 : decode cX8_telling 71 = .ok (.istore 7, 2) := by decide +kernel
theorem dX8_telling_73 : decode cX8_telling 73 = .ok (.iload 4, 2) := by decide +kernel
theorem dX8_telling_75 : decode cX8_telling 75 = .ok (.iload 7, 2) := by decide +kernel
theorem dX8_telling_77 : decode cX8_telling 77 = .ok (.ifCond .eq 7, 3) := by decide +kernel
theorem dX8_telling_80 : decode cX8_telling 80 = .ok (.iconst 1, 1) := by decide +kernel
theorem dX8_telling_81 : decode cX8_telling 81 = .ok (.goto 4, 3) := by decide +kernel
theorem dX8_telling_84 : decode cX8_telling 84 = .ok (.iconst 0, 1) := by decide +kernel
theorem dX8_telling_85 : decode cX8_telling 85 = .ok (.iadd, 1) := by decide +kernel
theorem dX8_telling_86 : decode cX8_telling 86 = .ok (.istore 4, 2) := by decide +kernel
theorem dX8_telling_88 : decode cX8_telling 88 = .ok (.iinc 5 1, 3) := by decide +kernel
theorem dX8_telling_91 : decode cX8_telling 91 = .ok (.goto (-85), 3) := by decide +kernel
theorem dX8_telling_94 : decode cX8_telling 94 = .ok (.iload 4, 2) := by decide +kernel
theorem dX8_telling_96 : decode cX8_telling 96 = .ok (.ireturn, 1) := by decide +kernel
theorem dX8_tells_0 : decode cX8_tells 0 = .ok (.aload_n 0, 1) := by decide +kernel
theorem dX8_tells_1 : decode cX8_tells 1 = .ok (.aload_n 0, 1) := by decide +kernel
theorem dX8_tells_2 : decode cX8_tells 2 = .ok (.iload_n 1, 1) := by decide +kernel
theorem dX8_tells_3 : decode cX8_tells 3 = .ok (.invokevirtual 66, 3) := by decide +kernel
theorem dX8_tells_6 : decode cX8_tells 6 = .ok (.iconst 1, 1) := by decide +kernel
theorem dX8_tells_7 : decode cX8_tells 7 = .ok (.invokevirtual 206, 3) := by decide +kernel
theorem dX8_tells_10 : decode cX8_tells 10 = .ok (.ifCond .ne 17, 3) := by decide +kernel
theorem dX8_tells_13 : decode cX8_tells 13 = .ok (.aload_n 0, 1) := by decide +kernel
theorem dX8_tells_14 : decode cX8_tells 14 = .ok (.aload_n 0, 1) := by decide +kernel
theorem dX8_tells_15 : decode cX8_tells 15 = .ok (.iload_n 2, 1) := by decide +kernel
theorem dX8_tells_16 : decode cX8_tells 16 = .ok (.iload_n 3, 1) := by decide +kernel
theorem dX8_tells_17 : decode cX8_tells 17 = .ok (.invokevirtual 258, 3) := by decide +kernel
theorem dX8_tells_20 : decode cX8_tells 20 = .ok (.iconst 2, 1) := by decide +kernel
theorem dX8_tells_21 : decode cX8_tells 21 = .ok (.invokevirtual 206, 3) := by decide +kernel
theorem dX8_tells_24 : decode cX8_tells 24 = .ok (.ifCond .eq 7, 3) := by decide +kernel
theorem dX8_tells_27 : decode cX8_tells 27 = .ok (.iconst 0, 1) := by decide +kernel
theorem dX8_tells_28 : decode cX8_tells 28 = .ok (.goto 10, 3) := by decide +kernel
theorem dX8_tells_31 : decode cX8_tells 31 = .ok (.aload_n 0, 1) := by decide +kernel
theorem dX8_tells_32 : decode cX8_tells 32 = .ok (.iload_n 1, 1) := by decide +kernel
theorem dX8_tells_33 : decode cX8_tells 33 = .ok (.iload_n 2, 1) := by decide +kernel
theorem dX8_tells_34 : decode cX8_tells 34 = .ok (.iload_n 3, 1) := by decide +kernel
theorem dX8_tells_35 : decode cX8_tells 35 = .ok (.invokevirtual 277, 3) := by decide +kernel
theorem dX8_tells_38 : decode cX8_tells 38 = .ok (.ireturn, 1) := by decide +kernel
theorem dX8_keeps_0 : decode cX8_keeps 0 = .ok (.aload_n 0, 1) := by decide +kernel
theorem dX8_keeps_1 : decode cX8_keeps 1 = .ok (.getfield 200, 3) := by decide +kernel
theorem dX8_keeps_4 : decode cX8_keeps 4 = .ok (.bipush 20, 2) := by decide +kernel
theorem dX8_keeps_6 : decode cX8_keeps 6 = .ok (.if_icmp .ne 44, 3) := by decide +kernel
theorem dX8_keeps_9 : decode cX8_keeps 9 = .ok (.iconst 0, 1) := by decide +kernel
theorem dX8_keeps_10 : decode cX8_keeps 10 = .ok (.istore_n 1, 1) := by decide +kernel
theorem dX8_keeps_11 : decode cX8_keeps 11 = .ok (.iload_n 1, 1) := by decide +kernel
theorem dX8_keeps_12 : decode cX8_keeps 12 = .ok (.sipush 6802, 3) := by decide +kernel
theorem dX8_keeps_15 : decode cX8_keeps 15 = .ok (.if_icmp .ge 25, 3) := by decide +kernel
theorem dX8_keeps_18 : decode cX8_keeps 18 = .ok (.aload_n 0, 1) := by decide +kernel
theorem dX8_keeps_19 : decode cX8_keeps 19 = .ok (.getfield 19, 3) := by decide +kernel
theorem dX8_keeps_22 : decode cX8_keeps 22 = .ok (.iload_n 1, 1) := by decide +kernel
theorem dX8_keeps_23 : decode cX8_keeps 23 = .ok (.aload_n 0, 1) := by decide +kernel
theorem dX8_keeps_24 : decode cX8_keeps 24 = .ok (.getfield 19, 3) := by decide +kernel
theorem dX8_keeps_27 : decode cX8_keeps 27 = .ok (.iload_n 1, 1) := by decide +kernel
theorem dX8_keeps_28 : decode cX8_keeps 28 = .ok (.sipush 358, 3) := by decide +kernel
theorem dX8_keeps_31 : decode cX8_keeps 31 = .ok (.iadd, 1) := by decide +kernel
theorem dX8_keeps_32 : decode cX8_keeps 32 = .ok (.iaload, 1) := by decide +kernel
theorem dX8_keeps_33 : decode cX8_keeps 33 = .ok (.iastore, 1) := by decide +kernel
theorem dX8_keeps_34 : decode cX8_keeps 34 = .ok (.iinc 1 1, 3) := by decide +kernel
theorem dX8_keeps_37 : decode cX8_keeps 37 = .ok (.goto (-26), 3) := by decide +kernel
theorem dX8_keeps_40 : decode cX8_keeps 40 = .ok (.aload_n 0, 1) := by decide +kernel
theorem dX8_keeps_41 : decode cX8_keeps 41 = .ok (.dup, 1) := by decide +kernel
theorem dX8_keeps_42 : decode cX8_keeps 42 = .ok (.getfield 200, 3) := by decide +kernel
theorem dX8_keeps_45 : decode cX8_keeps 45 = .ok (.iconst 1, 1) := by decide +kernel
theorem dX8_keeps_46 : decode cX8_keeps 46 = .ok (.isub, 1) := by decide +kernel
theorem dX8_keeps_47 : decode cX8_keeps 47 = .ok (.putfield 200, 3) := by decide +kernel
theorem dX8_keeps_50 : decode cX8_keeps 50 = .ok (.aload_n 0, 1) := by decide +kernel
theorem dX8_keeps_51 : decode cX8_keeps 51 = .ok (.getfield 9, 3) := by decide +kernel
theorem dX8_keeps_54 : decode cX8_keeps 54 = .ok (.iconst 0, 1) := by decide +kernel
theorem dX8_keeps_55 : decode cX8_keeps 55 = .ok (.aload_n 0, 1) := by decide +kernel
theorem dX8_keeps_56 : decode cX8_keeps 56 = .ok (.getfield 19, 3) := by decide +kernel
theorem dX8_keeps_59 : decode cX8_keeps 59 = .ok (.aload_n 0, 1) := by decide +kernel
theorem dX8_keeps_60 : decode cX8_keeps 60 = .ok (.getfield 200, 3) := by decide +kernel
theorem dX8_keeps_63 : decode cX8_keeps 63 = .ok (.invokestatic 197, 3) := by decide +kernel
theorem dX8_keeps_66 : decode cX8_keeps 66 = .ok (.aload_n 0, 1) := by decide +kernel
theorem dX8_keeps_67 : decode cX8_keeps 67 = .ok (.dup, 1) := by decide +kernel
theorem dX8_keeps_68 : decode cX8_keeps 68 = .ok (.getfield 200, 3) := by decide +kernel
theorem dX8_keeps_71 : decode cX8_keeps 71 = .ok (.iconst 1, 1) := by decide +kernel
theorem dX8_keeps_72 : decode cX8_keeps 72 = .ok (.iadd, 1) := by decide +kernel
theorem dX8_keeps_73 : decode cX8_keeps 73 = .ok (.putfield 200, 3) := by decide +kernel
theorem dX8_keeps_76 : decode cX8_keeps 76 = .ok (.return_, 1) := by decide +kernel
theorem dX8_undo_0 : decode cX8_undo 0 = .ok (.aload_n 0, 1) := by decide +kernel
theorem dX8_undo_1 : decode cX8_undo 1 = .ok (.iconst 0, 1) := by decide +kernel
theorem dX8_undo_2 : decode cX8_undo 2 = .ok (.putfield 59, 3) := by decide +kernel
theorem dX8_undo_5 : decode cX8_undo 5 = .ok (.aload_n 0, 1) := by decide +kernel
theorem dX8_undo_6 : decode cX8_undo 6 = .ok (.getfield 200, 3) := by decide +kernel
theorem dX8_undo_9 : decode cX8_undo 9 = .ok (.ifCond .ne 5, 3) := by decide +kernel
theorem dX8_undo_12 : decode cX8_undo 12 = .ok (.iconst (-1), 1) := by decide +kernel
theorem dX8_undo_13 : decode cX8_undo 13 = .ok (.ireturn, 1) := by decide +kernel
theorem dX8_undo_14 : decode cX8_undo 14 = .ok (.aload_n 0, 1) := by decide +kernel
theorem dX8_undo_15 : decode cX8_undo 15 = .ok (.dup, 1) := by decide +kernel
theorem dX8_undo_16 : decode cX8_undo 16 = .ok (.getfield 200, 3) := by decide +kernel
theorem dX8_undo_19 : decode cX8_undo 19 = .ok (.iconst 1, 1) := by decide +kernel
theorem dX8_undo_20 : decode cX8_undo 20 = .ok (.isub, 1) := by decide +kernel
theorem dX8_undo_21 : decode cX8_undo 21 = .ok (.putfield 200, 3) := by decide +kernel
theorem dX8_undo_24 : decode cX8_undo 24 = .ok (.aload_n 0, 1) := by decide +kernel
theorem dX8_undo_25 : decode cX8_undo 25 = .ok (.getfield 19, 3) := by decide +kernel
theorem dX8_undo_28 : decode cX8_undo 28 = .ok (.aload_n 0, 1) := by decide +kernel
theorem dX8_undo_29 : decode cX8_undo 29 = .ok (.getfield 200, 3) := by decide +kernel
theorem dX8_undo_32 : decode cX8_undo 32 = .ok (.aload_n 0, 1) := by decide +kernel
theorem dX8_undo_33 : decode cX8_undo 33 = .ok (.getfield 9, 3) := by decide +kernel
theorem dX8_undo_36 : decode cX8_undo 36 = .ok (.iconst 0, 1) := by decide +kernel
theorem dX8_undo_37 : decode cX8_undo 37 = .ok (.invokestatic 197, 3) := by decide +kernel
theorem dX8_undo_40 : decode cX8_undo 40 = .ok (.aload_n 0, 1) := by decide +kernel
theorem dX8_undo_41 : decode cX8_undo 41 = .ok (.getfield 200, 3) := by decide +kernel
theorem dX8_undo_44 : decode cX8_undo 44 = .ok (.ireturn, 1) := by decide +kernel
theorem dX8_logs_0 : decode cX8_logs 0 = .ok (.sipush 238, 3) := by decide +kernel
theorem dX8_logs_3 : decode cX8_logs 3 = .ok (.iconst 4, 1) := by decide +kernel
theorem dX8_logs_4 : decode cX8_logs 4 = .ok (.aload_n 0, 1) := by decide +kernel
theorem dX8_logs_5 : decode cX8_logs 5 = .ok (.getfield 9, 3) := by decide +kernel
theorem dX8_logs_8 : decode cX8_logs 8 = .ok (.bipush 13, 2) := by decide +kernel
theorem dX8_logs_10 : decode cX8_logs 10 = .ok (.iaload, 1) := by decide +kernel
theorem dX8_logs_11 : decode cX8_logs 11 = .ok (.bipush 30, 2) := by decide +kernel
theorem dX8_logs_13 : decode cX8_logs 13 = .ok (.irem, 1) := by decide +kernel
theorem dX8_logs_14 : decode cX8_logs 14 = .ok (.imul, 1) := by decide +kernel
theorem dX8_logs_15 : decode cX8_logs 15 = .ok (.iadd, 1) := by decide +kernel
theorem dX8_logs_16 : decode cX8_logs 16 = .ok (.istore 4, 2) := by decide +kernel
theorem dX8_logs_18 : decode cX8_logs 18 = .ok (.aload_n 0, 1) := by decide +kernel
theorem dX8_logs_19 : decode cX8_logs 19 = .ok (.getfield 9, 3) := by decide +kernel
theorem dX8_logs_22 : decode cX8_logs 22 = .ok (.iload 4, 2) := by decide +kernel
theorem dX8_logs_24 : decode cX8_logs 24 = .ok (.aload_n 0, 1) := by decide +kernel
theorem dX8_logs_25 : decode cX8_logs 25 = .ok (.getfield 9, 3) := by decide +kernel
theorem dX8_logs_28 : decode cX8_logs 28 = .ok (.bipush 10, 2) := by decide +kernel
theorem dX8_logs_30 : decode cX8_logs 30 = .ok (.iaload, 1) := by decide +kernel
theorem dX8_logs_31 : decode cX8_logs 31 = .ok (.iastore, 1) := by decide +kernel
theorem dX8_logs_32 : decode cX8_logs 32 = .ok (.aload_n 0, 1) := by decide +kernel
theorem dX8_logs_33 : decode cX8_logs 33 = .ok (.getfield 9, 3) := by decide +kernel
theorem dX8_logs_36 : decode cX8_logs 36 = .ok (.iload 4, 2) := by decide +kernel
theorem dX8_logs_38 : decode cX8_logs 38 = .ok (.iconst 1, 1) := by decide +kernel
theorem dX8_logs_39 : decode cX8_logs 39 = .ok (.iadd, 1) := by decide +kernel
theorem dX8_logs_40 : decode cX8_logs 40 = .ok (.iload_n 1, 1) := by decide +kernel
theorem dX8_logs_41 : decode cX8_logs 41 = .ok (.iastore, 1) := by decide +kernel
theorem dX8_logs_42 : decode cX8_logs 42 = .ok (.aload_n 0, 1) := by decide +kernel
theorem dX8_logs_43 : decode cX8_logs 43 = .ok (.getfield 9, 3) := by decide +kernel
theorem dX8_logs_46 : decode cX8_logs 46 = .ok (.iload 4, 2) := by decide +kernel
theorem dX8_logs_48 : decode cX8_logs 48 = .ok (.iconst 2, 1) := by decide +kernel
theorem dX8_logs_49 : decode cX8_logs 49 = .ok (.iadd, 1) := by decide +kernel
theorem dX8_logs_50 : decode cX8_logs 50 = .ok (.iload_n 2, 1) := by decide +kernel
theorem dX8_logs_51 : decode cX8_logs 51 = .ok (.iastore, 1) := by decide +kernel
theorem dX8_logs_52 : decode cX8_logs 52 = .ok (.aload_n 0, 1) := by decide +kernel
theorem dX8_logs_53 : decode cX8_logs 53 = .ok (.getfield 9, 3) := by decide +kernel
theorem dX8_logs_56 : decode cX8_logs 56 = .ok (.iload 4, 2) := by decide +kernel
theorem dX8_logs_58 : decode cX8_logs 58 = .ok (.iconst 3, 1) := by decide +kernel
theorem dX8_logs_59 : decode cX8_logs 59 = .ok (.iadd, 1) := by decide +kernel
theorem dX8_logs_60 : decode cX8_logs 60 = .ok (.iload_n 3, 1) := by decide +kernel
theorem dX8_logs_61 : decode cX8_logs 61 = .ok (.iastore, 1) := by decide +kernel
theorem dX8_logs_62 : decode cX8_logs 62 = .ok (.aload_n 0, 1) := by decide +kernel
theorem dX8_logs_63 : decode cX8_logs 63 = .ok (.getfield 9, 3) := by decide +kernel
theorem dX8_logs_66 : decode cX8_logs 66 = .ok (.bipush 13, 2) := by decide +kernel
theorem dX8_logs_68 : decode cX8_logs 68 = .ok (.dup2, 1) := by decide +kernel
theorem dX8_logs_69 : decode cX8_logs 69 = .ok (.iaload, 1) := by decide +kernel
theorem dX8_logs_70 : decode cX8_logs 70 = .ok (.iconst 1, 1) := by decide +kernel
theorem dX8_logs_71 : decode cX8_logs 71 = .ok (.iadd, 1) := by decide +kernel
theorem dX8_logs_72 : decode cX8_logs 72 = .ok (.iastore, 1) := by decide +kernel
theorem dX8_logs_73 : decode cX8_logs 73 = .ok (.return_, 1) := by decide +kernel
theorem dX8_tokenBack_0 : decode cX8_tokenBack 0 = .ok (.aload_n 0, 1) := by decide +kernel
theorem dX8_tokenBack_1 : decode cX8_tokenBack 1 = .ok (.getfield 9, 3) := by decide +kernel
theorem dX8_tokenBack_4 : decode cX8_tokenBack 4 = .ok (.bipush 7, 2) := by decide +kernel
theorem dX8_tokenBack_6 : decode cX8_tokenBack 6 = .ok (.iaload, 1) := by decide +kernel
theorem dX8_tokenBack_7 : decode cX8_tokenBack 7 = .ok (.aload_n 0, 1) := by decide +kernel
theorem dX8_tokenBack_8 : decode cX8_tokenBack 8 = .ok (.getfield 9, 3) := by decide +kernel
theorem dX8_tokenBack_11 : decode cX8_tokenBack 11 = .ok (.bipush 6, 2) := by decide +kernel
theorem dX8_tokenBack_13 : decode cX8_tokenBack 13 = .ok (.iaload, 1) := by decide +kernel
theorem dX8_tokenBack_14 : decode cX8_tokenBack 14 = .ok (.if_icmp .ge 26, 3) := by decide +kernel
theorem dX8_tokenBack_17 : decode cX8_tokenBack 17 = .ok (.aload_n 0, 1) := by decide +kernel
theorem dX8_tokenBack_18 : decode cX8_tokenBack 18 = .ok (.getfield 9, 3) := by decide +kernel
theorem dX8_tokenBack_21 : decode cX8_tokenBack 21 = .ok (.bipush 7, 2) := by decide +kernel
theorem dX8_tokenBack_23 : decode cX8_tokenBack 23 = .ok (.dup2, 1) := by decide +kernel
theorem dX8_tokenBack_24 : decode cX8_tokenBack 24 = .ok (.iaload, 1) := by decide +kernel
theorem dX8_tokenBack_25 : decode cX8_tokenBack 25 = .ok (.iconst 1, 1) := by decide +kernel
theorem dX8_tokenBack_26 : decode cX8_tokenBack 26 = .ok (.iadd, 1) := by decide +kernel
theorem dX8_tokenBack_27 : decode cX8_tokenBack 27 = .ok (.iastore, 1) := by decide +kernel
theorem dX8_tokenBack_28 : decode cX8_tokenBack 28 = .ok (.aload_n 0, 1) := by decide +kernel
theorem dX8_tokenBack_29 : decode cX8_tokenBack 29 = .ok (.getfield 9, 3) := by decide +kernel
theorem dX8_tokenBack_32 : decode cX8_tokenBack 32 = .ok (.sipush 235, 3) := by decide +kernel
theorem dX8_tokenBack_35 : decode cX8_tokenBack 35 = .ok (.dup2, 1) := by decide +kernel
theorem dX8_tokenBack_36 : decode cX8_tokenBack 36 = .ok (.iaload, 1) := by decide +kernel
theorem dX8_tokenBack_37 : decode cX8_tokenBack 37 = .ok (.iconst 1, 1) := by decide +kernel
theorem dX8_tokenBack_38 : decode cX8_tokenBack 38 = .ok (.iadd, 1) := by decide +kernel
theorem dX8_tokenBack_39 : decode cX8_tokenBack 39 = .ok (.iastore, 1) := by decide +kernel
theorem dX8_tokenBack_40 : decode cX8_tokenBack 40 = .ok (.return_, 1) := by decide +kernel
theorem dX8_toHeap_0 : decode cX8_toHeap 0 = .ok (.aload_n 0, 1) := by decide +kernel
theorem dX8_toHeap_1 : decode cX8_toHeap 1 = .ok (.getfield 9, 3) := by decide +kernel
theorem dX8_toHeap_4 : decode cX8_toHeap 4 = .ok (.sipush 237, 3) := by decide +kernel
theorem dX8_toHeap_7 : decode cX8_toHeap 7 = .ok (.dup2, 1) := by decide +kernel
theorem dX8_toHeap_8 : decode cX8_toHeap 8 = .ok (.iaload, 1) := by decide +kernel
theorem dX8_toHeap_9 : decode cX8_toHeap 9 = .ok (.aload_n 0, 1) := by decide +kernel
theorem dX8_toHeap_10 : decode cX8_toHeap 10 = .ok (.iload_n 1, 1) := by decide +kernel
theorem dX8_toHeap_11 : decode cX8_toHeap 11 = .ok (.invokevirtual 238, 3) := by decide +kernel
theorem dX8_toHeap_14 : decode cX8_toHeap 14 = .ok (.ifCond .eq 7, 3) := by decide +kernel
theorem dX8_toHeap_17 : decode cX8_toHeap 17 = .ok (.iconst 1, 1) := by decide +kernel
theorem dX8_toHeap_18 : decode cX8_toHeap 18 = .ok (.goto 4, 3) := by decide +kernel
theorem dX8_toHeap_21 : decode cX8_toHeap 21 = .ok (.iconst 0, 1) := by decide +kernel
theorem dX8_toHeap_22 : decode cX8_toHeap 22 = .ok (.iadd, 1) := by decide +kernel
theorem dX8_toHeap_23 : decode cX8_toHeap 23 = .ok (.iastore, 1) := by decide +kernel
theorem dX8_toHeap_24 : decode cX8_toHeap 24 = .ok (.aload_n 0, 1) := by decide +kernel
theorem dX8_toHeap_25 : decode cX8_toHeap 25 = .ok (.getfield 9, 3) := by decide +kernel
theorem dX8_toHeap_28 : decode cX8_toHeap 28 = .ok (.sipush 211, 3) := by decide +kernel
theorem dX8_toHeap_31 : decode cX8_toHeap 31 = .ok (.iload_n 1, 1) := by decide +kernel
theorem dX8_toHeap_32 : decode cX8_toHeap 32 = .ok (.iadd, 1) := by decide +kernel
theorem dX8_toHeap_33 : decode cX8_toHeap 33 = .ok (.dup2, 1) := by decide +kernel
theorem dX8_toHeap_34 : decode cX8_toHeap 34 = .ok (.iaload, 1) := by decide +kernel
theorem dX8_toHeap_35 : decode cX8_toHeap 35 = .ok (.iconst 1, 1) := by decide +kernel
theorem dX8_toHeap_36 : decode cX8_toHeap 36 = .ok (.iadd, 1) := by decide +kernel
theorem dX8_toHeap_37 : decode cX8_toHeap 37 = .ok (.iastore, 1) := by decide +kernel
theorem dX8_toHeap_38 : decode cX8_toHeap 38 = .ok (.return_, 1) := by decide +kernel
theorem dX8_takesOut_0 : decode cX8_takesOut 0 = .ok (.aload_n 0, 1) := by decide +kernel
theorem dX8_takesOut_1 : decode cX8_takesOut 1 = .ok (.getfield 9, 3) := by decide +kernel
theorem dX8_takesOut_4 : decode cX8_takesOut 4 = .ok (.bipush 10, 2) := by decide +kernel
theorem dX8_takesOut_6 : decode cX8_takesOut 6 = .ok (.iaload, 1) := by decide +kernel
theorem dX8_takesOut_7 : decode cX8_takesOut 7 = .ok (.istore_n 2, 1) := by decide +kernel
theorem dX8_takesOut_8 : decode cX8_takesOut 8 = .ok (.aload_n 0, 1) := by decide +kernel
theorem dX8_takesOut_9 : decode cX8_takesOut 9 = .ok (.getfield 9, 3) := by decide +kernel
theorem dX8_takesOut_12 : decode cX8_takesOut 12 = .ok (.bipush 27, 2) := by decide +kernel
theorem dX8_takesOut_14 : decode cX8_takesOut 14 = .ok (.aload_n 0, 1) := by decide +kernel
theorem dX8_takesOut_15 : decode cX8_takesOut 15 = .ok (.iload_n 2, 1) := by decide +kernel
theorem dX8_takesOut_16 : decode cX8_takesOut 16 = .ok (.iload_n 1, 1) := by decide +kernel
theorem dX8_takesOut_17 : decode cX8_takesOut 17 = .ok (.invokevirtual 217, 3) := by decide +kernel
theorem dX8_takesOut_20 : decode cX8_takesOut 20 = .ok (.iadd, 1) := by decide +kernel
theorem dX8_takesOut_21 : decode cX8_takesOut 21 = .ok (.iaload, 1) := by decide +kernel
theorem dX8_takesOut_22 : decode cX8_takesOut 22 = .ok (.istore_n 3, 1) := by decide +kernel
theorem dX8_takesOut_23 : decode cX8_takesOut 23 = .ok (.aload_n 0, 1) := by decide +kernel
theorem dX8_takesOut_24 : decode cX8_takesOut 24 = .ok (.getfield 9, 3) := by decide +kernel
theorem dX8_takesOut_27 : decode cX8_takesOut 27 = .ok (.sipush 187, 3) := by decide +kernel
theorem dX8_takesOut_30 : decode cX8_takesOut 30 = .ok (.iload_n 2, 1) := by decide +kernel
theorem dX8_takesOut_31 : decode cX8_takesOut 31 = .ok (.iadd, 1) := by decide +kernel
theorem dX8_takesOut_32 : decode cX8_takesOut 32 = .ok (.dup2, 1) := by decide +kernel
theorem dX8_takesOut_33 : decode cX8_takesOut 33 = .ok (.iaload, 1) := by decide +kernel
theorem dX8_takesOut_34 : decode cX8_takesOut 34 = .ok (.iconst 1, 1) := by decide +kernel
theorem dX8_takesOut_35 : decode cX8_takesOut 35 = .ok (.isub, 1) := by decide +kernel
theorem dX8_takesOut_36 : decode cX8_takesOut 36 = .ok (.iastore, 1) := by decide +kernel
theorem dX8_takesOut_37 : decode cX8_takesOut 37 = .ok (.iload_n 1, 1) := by decide +kernel
theorem dX8_takesOut_38 : decode cX8_takesOut 38 = .ok (.istore 4, 2) := by decide +kernel
theorem dX8_takesOut_40 : decode cX8_takesOut 40 = .ok (.iload 4, 2) := by decide +kernel
theorem dX8_takesOut_42 : decode cX8_takesOut 42 = .ok (.aload_n 0, 1) := by decide +kernel
theorem dX8_takesOut_43 : decode cX8_takesOut 43 = .ok (.getfield 9, 3) := by decide +kernel
theorem dX8_takesOut_46 : decode cX8_takesOut 46 = .ok (.sipush 187, 3) := by decide +kernel
theorem dX8_takesOut_49 : decode cX8_takesOut 49 = .ok (.iload_n 2, 1) := by decide +kernel
theorem dX8_takesOut_50 : decode cX8_takesOut 50 = .ok (.iadd, 1) := by decide +kernel
theorem dX8_takesOut_51 : decode cX8_takesOut 51 = .ok (.iaload, 1) := by decide +kernel
theorem dX8_takesOut_52 : decode cX8_takesOut 52 = .ok (.if_icmp .ge 41, 3) := by decide +kernel
theorem dX8_takesOut_55 : decode cX8_takesOut 55 = .ok (.aload_n 0, 1) := by decide +kernel
theorem dX8_takesOut_56 : decode cX8_takesOut 56 = .ok (.getfield 9, 3) := by decide +kernel
theorem dX8_takesOut_59 : decode cX8_takesOut 59 = .ok (.sipush 191, 3) := by decide +kernel
theorem dX8_takesOut_62 : decode cX8_takesOut 62 = .ok (.iconst 5, 1) := by decide +kernel
theorem dX8_takesOut_63 : decode cX8_takesOut 63 = .ok (.iload_n 2, 1) := by decide +kernel
theorem dX8_takesOut_64 : decode cX8_takesOut 64 = .ok (.imul, 1) := by decide +kernel
theorem dX8_takesOut_65 : decode cX8_takesOut 65 = .ok (.iadd, 1) := by decide +kernel
theorem dX8_takesOut_66 : decode cX8_takesOut 66 = .ok (.iload 4, 2) := by decide +kernel
theorem dX8_takesOut_68 : decode cX8_takesOut 68 = .ok (.iadd, 1) := by decide +kernel
theorem dX8_takesOut_69 : decode cX8_takesOut 69 = .ok (.aload_n 0, 1) := by decide +kernel
theorem dX8_takesOut_70 : decode cX8_takesOut 70 = .ok (.getfield 9, 3) := by decide +kernel
theorem dX8_takesOut_73 : decode cX8_takesOut 73 = .ok (.sipush 191, 3) := by decide +kernel
theorem dX8_takesOut_76 : decode cX8_takesOut 76 = .ok (.iconst 5, 1) := by decide +kernel
theorem dX8_takesOut_77 : decode cX8_takesOut 77 = .ok (.iload_n 2, 1) := by decide +kernel
theorem dX8_takesOut_78 : decode cX8_takesOut 78 = .ok (.imul, 1) := by decide +kernel
theorem dX8_takesOut_79 : decode cX8_takesOut 79 = .ok (.iadd, 1) := by decide +kernel
theorem dX8_takesOut_80 : decode cX8_takesOut 80 = .ok (.iload 4, 2) := by decide +kernel
theorem dX8_takesOut_82 : decode cX8_takesOut 82 = .ok (.iadd, 1) := by decide +kernel
theorem dX8_takesOut_83 : decode cX8_takesOut 83 = .ok (.iconst 1, 1) := by decide +kernel
theorem dX8_takesOut_84 : decode cX8_takesOut 84 = .ok (.iadd, 1) := by decide +kernel
theorem dX8_takesOut_85 : decode cX8_takesOut 85 = .ok (.iaload, 1) := by decide +kernel
theorem dX8_takesOut_86 : decode cX8_takesOut 86 = .ok (.iastore, 1) := by decide +kernel
theorem dX8_takesOut_87 : decode cX8_takesOut 87 = .ok (.iinc 4 1, 3) := by decide +kernel
theorem dX8_takesOut_90 : decode cX8_takesOut 90 = .ok (.goto (-50), 3) := by decide +kernel
theorem dX8_takesOut_93 : decode cX8_takesOut 93 = .ok (.iload_n 3, 1) := by decide +kernel
theorem dX8_takesOut_94 : decode cX8_takesOut 94 = .ok (.ireturn, 1) := by decide +kernel
theorem dX8_plays_0 : decode cX8_plays 0 = .ok (.aload_n 0, 1) := by decide +kernel
theorem dX8_plays_1 : decode cX8_plays 1 = .ok (.getfield 9, 3) := by decide +kernel
theorem dX8_plays_4 : decode cX8_plays 4 = .ok (.bipush 27, 2) := by decide +kernel
theorem dX8_plays_6 : decode cX8_plays 6 = .ok (.aload_n 0, 1) := by decide +kernel
theorem dX8_plays_7 : decode cX8_plays 7 = .ok (.aload_n 0, 1) := by decide +kernel
theorem dX8_plays_8 : decode cX8_plays 8 = .ok (.getfield 9, 3) := by decide +kernel
theorem dX8_plays_11 : decode cX8_plays 11 = .ok (.bipush 10, 2) := by decide +kernel
theorem dX8_plays_13 : decode cX8_plays 13 = .ok (.iaload, 1) := by decide +kernel
theorem dX8_plays_14 : decode cX8_plays 14 = .ok (.iload_n 1, 1) := by decide +kernel
theorem dX8_plays_15 : decode cX8_plays 15 = .ok (.invokevirtual 217, 3) := by decide +kernel
theorem dX8_plays_18 : decode cX8_plays 18 = .ok (.iadd, 1) := by decide +kernel
theorem dX8_plays_19 : decode cX8_plays 19 = .ok (.iaload, 1) := by decide +kernel
theorem dX8_plays_20 : decode cX8_plays 20 = .ok (.istore_n 2, 1) := by decide +kernel
theorem dX8_plays_21 : decode cX8_plays 21 = .ok (.aload_n 0, 1) := by decide +kernel
theorem dX8_plays_22 : decode cX8_plays 22 = .ok (.iload_n 2, 1) := by decide +kernel
theorem dX8_plays_23 : decode cX8_plays 23 = .ok (.invokevirtual 245, 3) := by decide +kernel
theorem dX8_plays_26 : decode cX8_plays 26 = .ok (.istore_n 3, 1) := by decide +kernel
theorem dX8_plays_27 : decode cX8_plays 27 = .ok (.aload_n 0, 1) := by decide +kernel
theorem dX8_plays_28 : decode cX8_plays 28 = .ok (.iload_n 3, 1) := by decide +kernel
theorem dX8_plays_29 : decode cX8_plays 29 = .ok (.ifCond .eq 7, 3) := by decide +kernel
theorem dX8_plays_32 : decode cX8_plays 32 = .ok (.iconst 0, 1) := by decide +kernel
theorem dX8_plays_33 : decode cX8_plays 33 = .ok (.goto 4, 3) := by decide +kernel
theorem dX8_plays_36 : decode cX8_plays 36 = .ok (.iconst 4, 1) := by decide +kernel
theorem dX8_plays_37 : decode cX8_plays 37 = .ok (.iload_n 2, 1) := by decide +kernel
theorem dX8_plays_38 : decode cX8_plays 38 = .ok (.invokestatic 220, 3) := by decide +kernel
theorem dX8_plays_41 : decode cX8_plays 41 = .ok (.iconst (-1), 1) := by decide +kernel
theorem dX8_plays_42 : decode cX8_plays 42 = .ok (.invokevirtual 280, 3) := by decide +kernel
theorem dX8_plays_45 : decode cX8_plays 45 = .ok (.iload_n 3, 1) := by decide +kernel
theorem dX8_plays_46 : decode cX8_plays 46 = .ok (.ifCond .eq 58, 3) := by decide +kernel
theorem dX8_plays_49 : decode cX8_plays 49 = .ok (.aload_n 0, 1) := by decide +kernel
theorem dX8_plays_50 : decode cX8_plays 50 = .ok (.iload_n 1, 1) := by decide +kernel
theorem dX8_plays_51 : decode cX8_plays 51 = .ok (.invokevirtual 284, 3) := by decide +kernel
theorem dX8_plays_54 : decode cX8_plays 54 = .ok (.istore 4, 2) := by decide +kernel
theorem dX8_plays_56 : decode cX8_plays 56 = .ok (.aload_n 0, 1) := by decide +kernel
theorem dX8_plays_57 : decode cX8_plays 57 = .ok (.getfield 9, 3) := by decide +kernel
theorem dX8_plays_60 : decode cX8_plays 60 = .ok (.bipush 14, 2) := by decide +kernel
theorem dX8_plays_62 : decode cX8_plays 62 = .ok (.iload_n 2, 1) := by decide +kernel
theorem dX8_plays_63 : decode cX8_plays 63 = .ok (.invokestatic 70, 3) := by decide +kernel
theorem dX8_plays_66 : decode cX8_plays 66 = .ok (.iadd, 1) := by decide +kernel
theorem dX8_plays_67 : decode cX8_plays 67 = .ok (.dup2, 1) := by decide +kernel
theorem dX8_plays_68 : decode cX8_plays 68 = .ok (.iaload, 1) := by decide +kernel
theorem dX8_plays_69 : decode cX8_plays 69 = .ok (.iconst 1, 1) := by decide +kernel
theorem dX8_plays_70 : decode cX8_plays 70 = .ok (.iadd, 1) := by decide +kernel
theorem dX8_plays_71 : decode cX8_plays 71 = .ok (.iastore, 1) := by decide +kernel
theorem dX8_plays_72 : decode cX8_plays 72 = .ok (.aload_n 0, 1) := by decide +kernel
theorem dX8_plays_73 : decode cX8_plays 73 = .ok (.getfield 9, 3) := by decide +kernel
theorem dX8_plays_76 : decode cX8_plays 76 = .ok (.sipush 231, 3) := by decide +kernel
theorem dX8_plays_79 : decode cX8_plays 79 = .ok (.dup2, 1) := by decide +kernel
theorem dX8_plays_80 : decode cX8_plays 80 = .ok (.iaload, 1) := by decide +kernel
theorem dX8_plays_81 : decode cX8_plays 81 = .ok (.iconst 1, 1) := by decide +kernel
theorem dX8_plays_82 : decode cX8_plays 82 = .ok (.iadd, 1) := by decide +kernel
theorem dX8_plays_83 : decode cX8_plays 83 = .ok (.iastore, 1) := by decide +kernel
theorem dX8_plays_84 : decode cX8_plays 84 = .ok (.iload_n 2, 1) := by decide +kernel
theorem dX8_plays_85 : decode cX8_plays 85 = .ok (.invokestatic 74, 3) := by decide +kernel
theorem dX8_plays_88 : decode cX8_plays 88 = .ok (.aload_n 0, 1) := by decide +kernel
theorem dX8_plays_89 : decode cX8_plays 89 = .ok (.getfield 9, 3) := by decide +kernel
theorem dX8_plays_92 : decode cX8_plays 92 = .ok (.iconst 1, 1) := by decide +kernel
theorem dX8_plays_93 : decode cX8_plays 93 = .ok (.iaload, 1) := by decide +kernel
theorem dX8_plays_94 : decode cX8_plays 94 = .ok (.if_icmp .ne 7, 3) := by decide +kernel
theorem dX8_plays_97 : decode cX8_plays 97 = .ok (.aload_n 0, 1) := by decide +kernel
theorem dX8_plays_98 : decode cX8_plays 98 = .ok (.invokevirtual 287, 3) := by decide +kernel
theorem dX8_plays_101 : decode cX8_plays 101 = .ok (.goto 35, 3) := by decide +kernel
theorem dX8_plays_104 : decode cX8_plays 104 = .ok (.aload_n 0, 1) := by decide +kernel
theorem dX8_plays_105 : decode cX8_plays 105 = .ok (.aload_n 0, 1) := by decide +kernel
theorem dX8_plays_106 : decode cX8_plays 106 = .ok (.iload_n 1, 1) := by decide +kernel
theorem dX8_plays_107 : decode cX8_plays 107 = .ok (.invokevirtual 284, 3) := by decide +kernel
theorem dX8_plays_110 : decode cX8_plays 110 = .ok (.invokevirtual 290, 3) := by decide +kernel
theorem dX8_plays_113 : decode cX8_plays 113 = .ok (.aload_n 0, 1) := by decide +kernel
theorem dX8_plays_114 : decode cX8_plays 114 = .ok (.getfield 9, 3) := by decide +kernel
theorem dX8_plays_117 : decode cX8_plays 117 = .ok (.bipush 8, 2) := by decide +kernel
theorem dX8_plays_119 : decode cX8_plays 119 = .ok (.dup2, 1) := by decide +kernel
theorem dX8_plays_120 : decode cX8_plays 120 = .ok (.iaload, 1) := by decide +kernel
theorem dX8_plays_121 : decode cX8_plays 121 = .ok (.iconst 1, 1) := by decide +kernel
theorem dX8_plays_122 : decode cX8_plays 122 = .ok (.isub, 1) := by decide +kernel
theorem dX8_plays_123 : decode cX8_plays 123 = .ok (.iastore, 1) := by decide +kernel
theorem dX8_plays_124 : decode cX8_plays 124 = .ok (.aload_n 0, 1) := by decide +kernel
theorem dX8_plays_125 : decode cX8_plays 125 = .ok (.getfield 9, 3) := by decide +kernel
theorem dX8_plays_128 : decode cX8_plays 128 = .ok (.sipush 232, 3) := by decide +kernel
theorem dX8_plays_131 : decode cX8_plays 131 = .ok (.dup2, 1) := by decide +kernel
theorem dX8_plays_132 : decode cX8_plays 132 = .ok (.iaload, 1) := by decide +kernel
theorem dX8_plays_133 : decode cX8_plays 133 = .ok (.iconst 1, 1) := by decide +kernel
theorem dX8_plays_134 : decode cX8_plays 134 = .ok (.iadd, 1) := by decide +kernel
theorem dX8_plays_135 : decode cX8_plays 135 = .ok (.iastore, 1) := by decide +kernel
theorem dX8_plays_136 : decode cX8_plays 136 = .ok (.aload_n 0, 1) := by decide +kernel
theorem dX8_plays_137 : decode cX8_plays 137 = .ok (.iconst 1, 1) := by decide +kernel
theorem dX8_plays_138 : decode cX8_plays 138 = .ok (.invokevirtual 293, 3) := by decide +kernel
theorem dX8_plays_141 : decode cX8_plays 141 = .ok (.return_, 1) := by decide +kernel
theorem dX8_discards_0 : decode cX8_discards 0 = .ok (.aload_n 0, 1) := by decide +kernel
theorem dX8_discards_1 : decode cX8_discards 1 = .ok (.iconst 1, 1) := by decide +kernel
theorem dX8_discards_2 : decode cX8_discards 2 = .ok (.aload_n 0, 1) := by decide +kernel
theorem dX8_discards_3 : decode cX8_discards 3 = .ok (.getfield 9, 3) := by decide +kernel
theorem dX8_discards_6 : decode cX8_discards 6 = .ok (.bipush 27, 2) := by decide +kernel
theorem dX8_discards_8 : decode cX8_discards 8 = .ok (.aload_n 0, 1) := by decide +kernel
theorem dX8_discards_9 : decode cX8_discards 9 = .ok (.aload_n 0, 1) := by decide +kernel
theorem dX8_discards_10 : decode cX8_discards 10 = .ok (.getfield 9, 3) := by decide +kernel
theorem dX8_discards_13 : decode cX8_discards 13 = .ok (.bipush 10, 2) := by decide +kernel
theorem dX8_discards_15 : decode cX8_discards 15 = .ok (.iaload, 1) := by decide +kernel
theorem dX8_discards_16 : decode cX8_discards 16 = .ok (.iload_n 1, 1) := by decide +kernel
theorem dX8_discards_17 : decode cX8_discards 17 = .ok (.invokevirtual 217, 3) := by decide +kernel
theorem dX8_discards_20 : decode cX8_discards 20 = .ok (.iadd, 1) := by decide +kernel
theorem dX8_discards_21 : decode cX8_discards 21 = .ok (.iaload, 1) := by decide +kernel
theorem dX8_discards_22 : decode cX8_discards 22 = .ok (.invokestatic 220, 3) := by decide +kernel
theorem dX8_discards_25 : decode cX8_discards 25 = .ok (.iconst (-1), 1) := by decide +kernel
theorem dX8_discards_26 : decode cX8_discards 26 = .ok (.invokevirtual 280, 3) := by decide +kernel
theorem dX8_discards_29 : decode cX8_discards 29 = .ok (.aload_n 0, 1) := by decide +kernel
theorem dX8_discards_30 : decode cX8_discards 30 = .ok (.aload_n 0, 1) := by decide +kernel
theorem dX8_discards_31 : decode cX8_discards 31 = .ok (.iload_n 1, 1) := by decide +kernel
theorem dX8_discards_32 : decode cX8_discards 32 = .ok (.invokevirtual 284, 3) := by decide +kernel
theorem dX8_discards_35 : decode cX8_discards 35 = .ok (.invokevirtual 290, 3) := by decide +kernel
theorem dX8_discards_38 : decode cX8_discards 38 = .ok (.aload_n 0, 1) := by decide +kernel
theorem dX8_discards_39 : decode cX8_discards 39 = .ok (.getfield 9, 3) := by decide +kernel
theorem dX8_discards_42 : decode cX8_discards 42 = .ok (.sipush 233, 3) := by decide +kernel
theorem dX8_discards_45 : decode cX8_discards 45 = .ok (.dup2, 1) := by decide +kernel
theorem dX8_discards_46 : decode cX8_discards 46 = .ok (.iaload, 1) := by decide +kernel
theorem dX8_discards_47 : decode cX8_discards 47 = .ok (.iconst 1, 1) := by decide +kernel
theorem dX8_discards_48 : decode cX8_discards 48 = .ok (.iadd, 1) := by decide +kernel
theorem dX8_discards_49 : decode cX8_discards 49 = .ok (.iastore, 1) := by decide +kernel
theorem dX8_discards_50 : decode cX8_discards 50 = .ok (.aload_n 0, 1) := by decide +kernel
theorem dX8_discards_51 : decode cX8_discards 51 = .ok (.invokevirtual 287, 3) := by decide +kernel
theorem dX8_discards_54 : decode cX8_discards 54 = .ok (.aload_n 0, 1) := by decide +kernel
theorem dX8_discards_55 : decode cX8_discards 55 = .ok (.iconst 1, 1) := by decide +kernel
theorem dX8_discards_56 : decode cX8_discards 56 = .ok (.invokevirtual 293, 3) := by decide +kernel
theorem dX8_discards_59 : decode cX8_discards 59 = .ok (.return_, 1) := by decide +kernel
theorem dX8_hints_0 : decode cX8_hints 0 = .ok (.aload_n 0, 1) := by decide +kernel
theorem dX8_hints_1 : decode cX8_hints 1 = .ok (.iconst 2, 1) := by decide +kernel
theorem dX8_hints_2 : decode cX8_hints 2 = .ok (.iload_n 1, 1) := by decide +kernel
theorem dX8_hints_3 : decode cX8_hints 3 = .ok (.bipush 10, 2) := by decide +kernel
theorem dX8_hints_5 : decode cX8_hints 5 = .ok (.iload_n 2, 1) := by decide +kernel
theorem dX8_hints_6 : decode cX8_hints 6 = .ok (.imul, 1) := by decide +kernel
theorem dX8_hints_7 : decode cX8_hints 7 = .ok (.iload_n 3, 1) := by decide +kernel
theorem dX8_hints_8 : decode cX8_hints 8 = .ok (.iadd, 1) := by decide +kernel
theorem dX8_hints_9 : decode cX8_hints 9 = .ok (.invokevirtual 280, 3) := by decide +kernel
theorem dX8_hints_12 : decode cX8_hints 12 = .ok (.aload_n 0, 1) := by decide +kernel
theorem dX8_hints_13 : decode cX8_hints 13 = .ok (.getfield 9, 3) := by decide +kernel
theorem dX8_hints_16 : decode cX8_hints 16 = .ok (.bipush 7, 2) := by decide +kernel
theorem dX8_hints_18 : decode cX8_hints 18 = .ok (.dup2, 1) := by decide +kernel
theorem dX8_hints_19 : decode cX8_hints 19 = .ok (.iaload, 1) := by decide +kernel
theorem dX8_hints_20 : decode cX8_hints 20 = .ok (.iconst 1, 1) := by decide +kernel
theorem dX8_hints_21 : decode cX8_hints 21 = .ok (.isub, 1) := by decide +kernel
theorem dX8_hints_22 : decode cX8_hints 22 = .ok (.iastore, 1) := by decide +kernel
theorem dX8_hints_23 : decode cX8_hints 23 = .ok (.aload_n 0, 1) := by decide +kernel
theorem dX8_hints_24 : decode cX8_hints 24 = .ok (.getfield 9, 3) := by decide +kernel
theorem dX8_hints_27 : decode cX8_hints 27 = .ok (.iload_n 2, 1) := by decide +kernel
theorem dX8_hints_28 : decode cX8_hints 28 = .ok (.iload_n 3, 1) := by decide +kernel
theorem dX8_hints_29 : decode cX8_hints 29 = .ok (.invokestatic 142, 3) := by decide +kernel
theorem dX8_hints_32 : decode cX8_hints 32 = .ok (.dup2, 1) := by decide +kernel
theorem dX8_hints_33 : decode cX8_hints 33 = .ok (.iaload, 1) := by decide +kernel
theorem dX8_hints_34 : decode cX8_hints 34 = .ok (.iconst 1, 1) := by decide +kernel
theorem dX8_hints_35 : decode cX8_hints 35 = .ok (.isub, 1) := by decide +kernel
theorem dX8_hints_36 : decode cX8_hints 36 = .ok (.iastore, 1) := by decide +kernel
theorem dX8_hints_37 : decode cX8_hints 37 = .ok (.iconst 0, 1) := by decide +kernel
theorem dX8_hints_38 : decode cX8_hints 38 = .ok (.istore 4, 2) := by decide +kernel
theorem dX8_hints_40 : decode cX8_hints 40 = .ok (.iconst 0, 1) := by decide +kernel
theorem dX8_hints_41 : decode cX8_hints 41 = .ok (.istore 5, 2) := by decide +kernel
theorem dX8_hints_43 : decode cX8_hints 43 = .ok (.iload 5, 2) := by decide +kernel
theorem dX8_hints_45 : decode cX8_hints 45 = .ok (.aload_n 0, 1) := by decide +kernel
theorem dX8_hints_46 : decode cX8_hints 46 = .ok (.getfield 9, 3) := by decide +kernel
theorem dX8_hints_49 : decode cX8_hints 49 = .ok (.sipush 187, 3) := by decide +kernel
theorem dX8_hints_52 : decode cX8_hints 52 = .ok (.iload_n 1, 1) := by decide +kernel
theorem dX8_hints_53 : decode cX8_hints 53 = .ok (.iadd, 1) := by decide +kernel
theorem dX8_hints_54 : decode cX8_hints 54 = .ok (.iaload, 1) := by decide +kernel
theorem dX8_hints_55 : decode cX8_hints 55 = .ok (.if_icmp .ge 84, 3) := by decide +kernel
theorem dX8_hints_58 : decode cX8_hints 58 = .ok (.aload_n 0, 1) := by decide +kernel
theorem dX8_hints_59 : decode cX8_hints 59 = .ok (.iload_n 1, 1) := by decide +kernel
theorem dX8_hints_60 : decode cX8_hints 60 = .ok (.iload 5, 2) := by decide +kernel
theorem dX8_hints_62 : decode cX8_hints 62 = .ok (.invokevirtual 217, 3) := by decide +kernel
theorem dX8_hints_65 : decode cX8_hints 65 = .ok (.istore 6, 2) := by decide +kernel
theorem dX8_hints_67 : decode cX8_hints 67 = .ok (.aload_n 0, 1) := by decide +kernel
theorem dX8_hints_68 : decode cX8_hints 68 = .ok (.iload 6, 2) := by decide +kernel
theorem dX8_hints_70 : decode cX8_hints 70 = .ok (.iload_n 2, 1) := by decide +kernel
theorem dX8_hints_71 : decode cX8_hints 71 = .ok (.iload_n 3, 1) := by decide +kernel
theorem dX8_hints_72 : decode cX8_hints 72 = .ok (.invokevirtual 271, 3) := by decide +kernel
theorem dX8_hints_75 : decode cX8_hints 75 = .ok (.istore 7, 2) := by decide +kernel
theorem dX8_hints_77 : decode cX8_hints 77 = .ok (.aload_n 0, 1) := by decide +kernel
theorem dX8_hints_78 : decode cX8_hints 78 = .ok (.getfield 9, 3) := by decide +kernel
theorem dX8_hints_81 : decode cX8_hints 81 = .ok (.bipush 107, 2) := by decide +kernel
theorem dX8_hints_83 : decode cX8_hints 83 = .ok (.iload 6, 2) := by decide +kernel
theorem dX8_hints_85 : decode cX8_hints 85 = .ok (.iadd, 1) := by decide +kernel
theorem dX8_hints_86 : decode cX8_hints 86 = .ok (.aload_n 0, 1) := by decide +kernel
theorem dX8_hints_87 : decode cX8_hints 87 = .ok (.iload 6, 2) := by decide +kernel
theorem dX8_hints_89 : decode cX8_hints 89 = .ok (.iload_n 2, 1) := by decide +kernel
theorem dX8_hints_90 : decode cX8_hints 90 = .ok (.iload_n 3, 1) := by decide +kernel
theorem dX8_hints_91 : decode cX8_hints 91 = .ok (.invokevirtual 274, 3) := by decide +kernel
theorem dX8_hints_94 : decode cX8_hints 94 = .ok (.iastore, 1) := by decide +kernel
theorem dX8_hints_95 : decode cX8_hints 95 = .ok (.aload_n 0, 1) := by decide +kernel
theorem dX8_hints_96 : decode cX8_hints 96 = .ok (.getfield 9, 3) := by decide +kernel
theorem dX8_hints_99 : decode cX8_hints 99 = .ok (.bipush 67, 2) := by decide +kernel
theorem dX8_hints_101 : decode cX8_hints 101 = .ok (.iload 6, 2) := by decide +kernel
theorem dX8_hints_103 : decode cX8_hints 103 = .ok (.iadd, 1) := by decide +kernel
theorem dX8_hints_104 : decode cX8_hints 104 = .ok (.iload 7, 2) := by decide +kernel
theorem dX8_hints_106 : decode cX8_hints 106 = .ok (.iastore, 1) := by decide +kernel
theorem dX8_hints_107 : decode cX8_hints 107 = .ok (.aload_n 0, 1) := by decide +kernel
theorem dX8_hints_108 : decode cX8_hints 108 = .ok (.iload 6, 2) := by decide +kernel
theorem dX8_hints_110 : decode cX8_hints 110 = .ok (.iload_n 2, 1) := by decide +kernel
theorem dX8_hints_111 : decode cX8_hints 111 = .ok (.iload_n 3, 1) := by decide +kernel
theorem dX8_hints_112 : decode cX8_hints 112 = .ok (.invokevirtual 261, 3) := by decide +kernel
theorem dX8_hints_115 : decode cX8_hints 115 = .ok (.ifCond .eq 18, 3) := by decide +kernel
theorem dX8_hints_118 : decode cX8_hints 118 = .ok (.aload_n 0, 1) := by decide +kernel
theorem dX8_hints_119 : decode cX8_hints 119 = .ok (.getfield 9, 3) := by decide +kernel
theorem dX8_hints_122 : decode cX8_hints 122 = .ok (.sipush 147, 3) := by decide +kernel
theorem dX8_hints_125 : decode cX8_hints 125 = .ok (.iload 6, 2) := by decide +kernel
theorem dX8_hints_127 : decode cX8_hints 127 = .ok (.iadd, 1) := by decide +kernel
theorem dX8_hints_128 : decode cX8_hints 128 = .ok (.iconst 1, 1) := by decide +kernel
theorem dX8_hints_129 : decode cX8_hints 129 = .ok (.iastore, 1) := by decide +kernel
theorem dX8_hints_130 : decode cX8_hints 130 = .ok (.iinc 4 1, 3) := by decide +kernel
theorem dX8_hints_133 : decode cX8_hints 133 = .ok (.iinc 5 1, 3) := by decide +kernel
theorem dX8_hints_136 : decode cX8_hints 136 = .ok (.goto (-93), 3) := by decide +kernel
theorem dX8_hints_139 : decode cX8_hints 139 = .ok (.aload_n 0, 1) := by decide +kernel
theorem dX8_hints_140 : decode cX8_hints 140 = .ok (.getfield 9, 3) := by decide +kernel
theorem dX8_hints_143 : decode cX8_hints 143 = .ok (.sipush 234, 3) := by decide +kernel
theorem dX8_hints_146 : decode cX8_hints 146 = .ok (.dup2, 1) := by decide +kernel
theorem dX8_hints_147 : decode cX8_hints 147 = .ok (.iaload, 1) := by decide +kernel
theorem dX8_hints_148 : decode cX8_hints 148 = .ok (.iconst 1, 1) := by decide +kernel
theorem dX8_hints_149 : decode cX8_hints 149 = .ok (.iadd, 1) := by decide +kernel
theorem dX8_hints_150 : decode cX8_hints 150 = .ok (.iastore, 1) := by decide +kernel
theorem dX8_hints_151 : decode cX8_hints 151 = .ok (.aload_n 0, 1) := by decide +kernel
theorem dX8_hints_152 : decode cX8_hints 152 = .ok (.getfield 9, 3) := by decide +kernel
theorem dX8_hints_155 : decode cX8_hints 155 = .ok (.sipush 236, 3) := by decide +kernel
theorem dX8_hints_158 : decode cX8_hints 158 = .ok (.dup2, 1) := by decide +kernel
theorem dX8_hints_159 : decode cX8_hints 159 = .ok (.iaload, 1) := by decide +kernel
theorem dX8_hints_160 : decode cX8_hints 160 = .ok (.iload 4, 2) := by decide +kernel
theorem dX8_hints_162 : decode cX8_hints 162 = .ok (.iadd, 1) := by decide +kernel
theorem dX8_hints_163 : decode cX8_hints 163 = .ok (.iastore, 1) := by decide +kernel
theorem dX8_hints_164 : decode cX8_hints 164 = .ok (.aload_n 0, 1) := by decide +kernel
theorem dX8_hints_165 : decode cX8_hints 165 = .ok (.iconst 0, 1) := by decide +kernel
theorem dX8_hints_166 : decode cX8_hints 166 = .ok (.invokevirtual 293, 3) := by decide +kernel
theorem dX8_hints_169 : decode cX8_hints 169 = .ok (.iload 4, 2) := by decide +kernel
theorem dX8_hints_171 : decode cX8_hints 171 = .ok (.ireturn, 1) := by decide +kernel
theorem dX8_passes_0 : decode cX8_passes 0 = .ok (.aload_n 0, 1) := by decide +kernel
theorem dX8_passes_1 : decode cX8_passes 1 = .ok (.iconst 3, 1) := by decide +kernel
theorem dX8_passes_2 : decode cX8_passes 2 = .ok (.iconst (-1), 1) := by decide +kernel
theorem dX8_passes_3 : decode cX8_passes 3 = .ok (.iconst (-1), 1) := by decide +kernel
theorem dX8_passes_4 : decode cX8_passes 4 = .ok (.invokevirtual 280, 3) := by decide +kernel
theorem dX8_passes_7 : decode cX8_passes 7 = .ok (.aload_n 0, 1) := by decide +kernel
theorem dX8_passes_8 : decode cX8_passes 8 = .ok (.iconst 0, 1) := by decide +kernel
theorem dX8_passes_9 : decode cX8_passes 9 = .ok (.invokevirtual 293, 3) := by decide +kernel
theorem dX8_passes_12 : decode cX8_passes 12 = .ok (.return_, 1) := by decide +kernel
theorem dX8_areWhole_0 : decode cX8_areWhole 0 = .ok (.iconst 0, 1) := by decide +kernel
theorem dX8_areWhole_1 : decode cX8_areWhole 1 = .ok (.istore_n 1, 1) := by decide +kernel
theorem dX8_areWhole_2 : decode cX8_areWhole 2 = .ok (.iload_n 1, 1) := by decide +kernel
theorem dX8_areWhole_3 : decode cX8_areWhole 3 = .ok (.aload_n 0, 1) := by decide +kernel
theorem dX8_areWhole_4 : decode cX8_areWhole 4 = .ok (.getfield 9, 3) := by decide +kernel
theorem dX8_areWhole_7 : decode cX8_areWhole 7 = .ok (.iconst 0, 1) := by decide +kernel
theorem dX8_areWhole_8 : decode cX8_areWhole 8 = .ok (.iaload, 1) := by decide +kernel
theorem dX8_areWhole_9 : decode cX8_areWhole 9 = .ok (.if_icmp .ge 29, 3) := by decide +kernel
theorem dX8_areWhole_12 : decode cX8_areWhole 12 = .ok (.aload_n 0, 1) := by decide +kernel
theorem dX8_areWhole_13 : decode cX8_areWhole 13 = .ok (.getfield 9, 3) := by decide +kernel
theorem dX8_areWhole_16 : decode cX8_areWhole 16 = .ok (.bipush 14, 2) := by decide +kernel
theorem dX8_areWhole_18 : decode cX8_areWhole 18 = .ok (.iload_n 1, 1) := by decide +kernel
theorem dX8_areWhole_19 : decode cX8_areWhole 19 = .ok (.iadd, 1) := by decide +kernel
theorem dX8_areWhole_20 : decode cX8_areWhole 20 = .ok (.iaload, 1) := by decide +kernel
theorem dX8_areWhole_21 : decode cX8_areWhole 21 = .ok (.aload_n 0, 1) := by decide +kernel
theorem dX8_areWhole_22 : decode cX8_areWhole 22 = .ok (.getfield 9, 3) := by decide +kernel
theorem dX8_areWhole_25 : decode cX8_areWhole 25 = .ok (.iconst 1, 1) := by decide +kernel
theorem dX8_areWhole_26 : decode cX8_areWhole 26 = .ok (.iaload, 1) := by decide +kernel
theorem dX8_areWhole_27 : decode cX8_areWhole 27 = .ok (.if_icmp .ge 5, 3) := by decide +kernel
theorem dX8_areWhole_30 : decode cX8_areWhole 30 = .ok (.iconst 0, 1) := by decide +kernel
theorem dX8_areWhole_31 : decode cX8_areWhole 31 = .ok (.ireturn, 1) := by decide +kernel
theorem dX8_areWhole_32 : decode cX8_areWhole 32 = .ok (.iinc 1 1, 3) := by decide +kernel
theorem dX8_areWhole_35 : decode cX8_areWhole 35 = .ok (.goto (-33), 3) := by decide +kernel
theorem dX8_areWhole_38 : decode cX8_areWhole 38 = .ok (.iconst 1, 1) := by decide +kernel
theorem dX8_areWhole_39 : decode cX8_areWhole 39 = .ok (.ireturn, 1) := by decide +kernel
theorem dX8_endsTurn_0 : decode cX8_endsTurn 0 = .ok (.aload_n 0, 1) := by decide +kernel
theorem dX8_endsTurn_1 : decode cX8_endsTurn 1 = .ok (.getfield 9, 3) := by decide +kernel
theorem dX8_endsTurn_4 : decode cX8_endsTurn 4 = .ok (.iconst 5, 1) := by decide +kernel
theorem dX8_endsTurn_5 : decode cX8_endsTurn 5 = .ok (.iaload, 1) := by decide +kernel
theorem dX8_endsTurn_6 : decode cX8_endsTurn 6 = .ok (.istore_n 2, 1) := by decide +kernel
theorem dX8_endsTurn_7 : decode cX8_endsTurn 7 = .ok (.iload_n 1, 1) := by decide +kernel
theorem dX8_endsTurn_8 : decode cX8_endsTurn 8 = .ok (.ifCond .eq 14, 3) := by decide +kernel
theorem dX8_endsTurn_11 : decode cX8_endsTurn 11 = .ok (.aload_n 0, 1) := by decide +kernel
theorem dX8_endsTurn_12 : decode cX8_endsTurn 12 = .ok (.aload_n 0, 1) := by decide +kernel
theorem dX8_endsTurn_13 : decode cX8_endsTurn 13 = .ok (.getfield 9, 3) := by decide +kernel
theorem dX8_endsTurn_16 : decode cX8_endsTurn 16 = .ok (.bipush 10, 2) := by decide +kernel
theorem dX8_endsTurn_18 : decode cX8_endsTurn 18 = .ok (.iaload, 1) := by decide +kernel
theorem dX8_endsTurn_19 : decode cX8_endsTurn 19 = .ok (.invokevirtual 203, 3) := by decide +kernel
theorem dX8_endsTurn_22 : decode cX8_endsTurn 22 = .ok (.aload_n 0, 1) := by decide +kernel
theorem dX8_endsTurn_23 : decode cX8_endsTurn 23 = .ok (.getfield 9, 3) := by decide +kernel
theorem dX8_endsTurn_26 : decode cX8_endsTurn 26 = .ok (.bipush 9, 2) := by decide +kernel
theorem dX8_endsTurn_28 : decode cX8_endsTurn 28 = .ok (.iaload, 1) := by decide +kernel
theorem dX8_endsTurn_29 : decode cX8_endsTurn 29 = .ok (.iconst (-1), 1) := by decide +kernel
theorem dX8_endsTurn_30 : decode cX8_endsTurn 30 = .ok (.if_icmp .eq 17, 3) := by decide +kernel
theorem dX8_endsTurn_33 : decode cX8_endsTurn 33 = .ok (.aload_n 0, 1) := by decide +kernel
theorem dX8_endsTurn_34 : decode cX8_endsTurn 34 = .ok (.getfield 9, 3) := by decide +kernel
theorem dX8_endsTurn_37 : decode cX8_endsTurn 37 = .ok (.bipush 9, 2) := by decide +kernel
theorem dX8_endsTurn_39 : decode cX8_endsTurn 39 = .ok (.dup2, 1) := by decide +kernel
theorem dX8_endsTurn_40 : decode cX8_endsTurn 40 = .ok (.iaload, 1) := by decide +kernel
theorem dX8_endsTurn_41 : decode cX8_endsTurn 41 = .ok (.iconst 1, 1) := by decide +kernel
theorem dX8_endsTurn_42 : decode cX8_endsTurn 42 = .ok (.isub, 1) := by decide +kernel
theorem dX8_endsTurn_43 : decode cX8_endsTurn 43 = .ok (.iastore, 1) := by decide +kernel
theorem dX8_endsTurn_44 : decode cX8_endsTurn 44 = .ok (.goto 41, 3) := by decide +kernel
theorem dX8_endsTurn_47 : decode cX8_endsTurn 47 = .ok (.aload_n 0, 1) := by decide +kernel
theorem dX8_endsTurn_48 : decode cX8_endsTurn 48 = .ok (.getfield 9, 3) := by decide +kernel
theorem dX8_endsTurn_51 : decode cX8_endsTurn 51 = .ok (.iconst 5, 1) := by decide +kernel
theorem dX8_endsTurn_52 : decode cX8_endsTurn 52 = .ok (.iaload, 1) := by decide +kernel
theorem dX8_endsTurn_53 : decode cX8_endsTurn 53 = .ok (.iload_n 2, 1) := by decide +kernel
theorem dX8_endsTurn_54 : decode cX8_endsTurn 54 = .ok (.if_icmp .le 31, 3) := by decide +kernel
theorem dX8_endsTurn_57 : decode cX8_endsTurn 57 = .ok (.aload_n 0, 1) := by decide +kernel
theorem dX8_endsTurn_58 : decode cX8_endsTurn 58 = .ok (.getfield 9, 3) := by decide +kernel
theorem dX8_endsTurn_61 : decode cX8_endsTurn 61 = .ok (.iconst 5, 1) := by decide +kernel
theorem dX8_endsTurn_62 : decode cX8_endsTurn 62 = .ok (.iaload, 1) := by decide +kernel
theorem dX8_endsTurn_63 : decode cX8_endsTurn 63 = .ok (.aload_n 0, 1) := by decide +kernel
theorem dX8_endsTurn_64 : decode cX8_endsTurn 64 = .ok (.getfield 9, 3) := by decide +kernel
theorem dX8_endsTurn_67 : decode cX8_endsTurn 67 = .ok (.iconst 4, 1) := by decide +kernel
theorem dX8_endsTurn_68 : decode cX8_endsTurn 68 = .ok (.iaload, 1) := by decide +kernel
theorem dX8_endsTurn_69 : decode cX8_endsTurn 69 = .ok (.if_icmp .ne 16, 3) := by decide +kernel
theorem dX8_endsTurn_72 : decode cX8_endsTurn 72 = .ok (.aload_n 0, 1) := by decide +kernel
theorem dX8_endsTurn_73 : decode cX8_endsTurn 73 = .ok (.getfield 9, 3) := by decide +kernel
theorem dX8_endsTurn_76 : decode cX8_endsTurn 76 = .ok (.bipush 9, 2) := by decide +kernel
theorem dX8_endsTurn_78 : decode cX8_endsTurn 78 = .ok (.aload_n 0, 1) := by decide +kernel
theorem dX8_endsTurn_79 : decode cX8_endsTurn 79 = .ok (.getfield 9, 3) := by decide +kernel
theorem dX8_endsTurn_82 : decode cX8_endsTurn 82 = .ok (.iconst 2, 1) := by decide +kernel
theorem dX8_endsTurn_83 : decode cX8_endsTurn 83 = .ok (.iaload, 1) := by decide +kernel
theorem dX8_endsTurn_84 : decode cX8_endsTurn 84 = .ok (.iastore, 1) := by decide +kernel
theorem dX8_endsTurn_85 : decode cX8_endsTurn 85 = .ok (.aload_n 0, 1) := by decide +kernel
theorem dX8_endsTurn_86 : decode cX8_endsTurn 86 = .ok (.getfield 9, 3) := by decide +kernel
theorem dX8_endsTurn_89 : decode cX8_endsTurn 89 = .ok (.bipush 11, 2) := by decide +kernel
theorem dX8_endsTurn_91 : decode cX8_endsTurn 91 = .ok (.dup2, 1) := by decide +kernel
theorem dX8_endsTurn_92 : decode cX8_endsTurn 92 = .ok (.iaload, 1) := by decide +kernel
theorem dX8_endsTurn_93 : decode cX8_endsTurn 93 = .ok (.iconst 1, 1) := by decide +kernel
theorem dX8_endsTurn_94 : decode cX8_endsTurn 94 = .ok (.iadd, 1) := by decide +kernel
theorem dX8_endsTurn_95 : decode cX8_endsTurn 95 = .ok (.iastore, 1) := by decide +kernel
theorem dX8_endsTurn_96 : decode cX8_endsTurn 96 = .ok (.aload_n 0, 1) := by decide +kernel
theorem dX8_endsTurn_97 : decode cX8_endsTurn 97 = .ok (.getfield 9, 3) := by decide +kernel
theorem dX8_endsTurn_100 : decode cX8_endsTurn 100 = .ok (.bipush 10, 2) := by decide +kernel
theorem dX8_endsTurn_102 : decode cX8_endsTurn 102 = .ok (.aload_n 0, 1) := by decide +kernel
theorem dX8_endsTurn_103 : decode cX8_endsTurn 103 = .ok (.getfield 9, 3) := by decide +kernel
theorem dX8_endsTurn_106 : decode cX8_endsTurn 106 = .ok (.bipush 10, 2) := by decide +kernel
theorem dX8_endsTurn_108 : decode cX8_endsTurn 108 = .ok (.iaload, 1) := by decide +kernel
theorem dX8_endsTurn_109 : decode cX8_endsTurn 109 = .ok (.iconst 1, 1) := by decide +kernel
theorem dX8_endsTurn_110 : decode cX8_endsTurn 110 = .ok (.iadd, 1) := by decide +kernel
theorem dX8_endsTurn_111 : decode cX8_endsTurn 111 = .ok (.aload_n 0, 1) := by decide +kernel
theorem dX8_endsTurn_112 : decode cX8_endsTurn 112 = .ok (.getfield 9, 3) := by decide +kernel
theorem dX8_endsTurn_115 : decode cX8_endsTurn 115 = .ok (.iconst 2, 1) := by decide +kernel
theorem dX8_endsTurn_116 : decode cX8_endsTurn 116 = .ok (.iaload, 1) := by decide +kernel
theorem dX8_endsTurn_117 : decode cX8_endsTurn 117 = .ok (.irem, 1) := by decide +kernel
theorem dX8_endsTurn_118 : decode cX8_endsTurn 118 = .ok (.iastore, 1) := by decide +kernel
theorem dX8_endsTurn_119 : decode cX8_endsTurn 119 = .ok (.aload_n 0, 1) := by decide +kernel
theorem dX8_endsTurn_120 : decode cX8_endsTurn 120 = .ok (.getfield 9, 3) := by decide +kernel
theorem dX8_endsTurn_123 : decode cX8_endsTurn 123 = .ok (.bipush 12, 2) := by decide +kernel
theorem dX8_endsTurn_125 : decode cX8_endsTurn 125 = .ok (.aload_n 0, 1) := by decide +kernel
theorem dX8_endsTurn_126 : decode cX8_endsTurn 126 = .ok (.getfield 9, 3) := by decide +kernel
theorem dX8_endsTurn_129 : decode cX8_endsTurn 129 = .ok (.bipush 8, 2) := by decide +kernel
theorem dX8_endsTurn_131 : decode cX8_endsTurn 131 = .ok (.iaload, 1) := by decide +kernel
theorem dX8_endsTurn_132 : decode cX8_endsTurn 132 = .ok (.ifCond .ne 7, 3) := by decide +kernel
theorem dX8_endsTurn_135 : decode cX8_endsTurn 135 = .ok (.iconst 1, 1) := by decide +kernel
theorem dX8_endsTurn_136 : decode cX8_endsTurn 136 = .ok (.goto 29, 3) := by decide +kernel
theorem dX8_endsTurn_139 : decode cX8_endsTurn 139 = .ok (.aload_n 0, 1) := by decide +kernel
theorem dX8_endsTurn_140 : decode cX8_endsTurn 140 = .ok (.invokevirtual 296, 3) := by decide +kernel
theorem dX8_endsTurn_143 : decode cX8_endsTurn 143 = .ok (.ifCond .eq 7, 3) := by decide +kernel
theorem dX8_endsTurn_146 : decode cX8_endsTurn 146 = .ok (.iconst 2, 1) := by decide +kernel
theorem dX8_endsTurn_147 : decode cX8_endsTurn 147 = .ok (.goto 18, 3) := by decide +kernel
theorem dX8_endsTurn_150 : decode cX8_endsTurn 150 = .ok (.aload_n 0, 1) := by decide +kernel
theorem dX8_endsTurn_151 : decode cX8_endsTurn 151 = .ok (.getfield 9, 3) := by decide +kernel
theorem dX8_endsTurn_154 : decode cX8_endsTurn 154 = .ok (.bipush 9, 2) := by decide +kernel
theorem dX8_endsTurn_156 : decode cX8_endsTurn 156 = .ok (.iaload, 1) := by decide +kernel
theorem dX8_endsTurn_157 : decode cX8_endsTurn 157 = .ok (.ifCond .ne 7, 3) := by decide +kernel
theorem dX8_endsTurn_160 : decode cX8_endsTurn 160 = .ok (.iconst 3, 1) := by decide +kernel
theorem dX8_endsTurn_161 : decode cX8_endsTurn 161 = .ok (.goto 4, 3) := by decide +kernel
theorem dX8_endsTurn_164 : decode cX8_endsTurn 164 = .ok (.iconst 0, 1) := by decide +kernel
theorem dX8_endsTurn_165 : decode cX8_endsTurn 165 = .ok (.iastore, 1) := by decide +kernel
theorem dX8_endsTurn_166 : decode cX8_endsTurn 166 = .ok (.return_, 1) := by decide +kernel
theorem dX8_isOver_0 : decode cX8_isOver 0 = .ok (.aload_n 0, 1) := by decide +kernel
theorem dX8_isOver_1 : decode cX8_isOver 1 = .ok (.getfield 9, 3) := by decide +kernel
theorem dX8_isOver_4 : decode cX8_isOver 4 = .ok (.bipush 12, 2) := by decide +kernel
theorem dX8_isOver_6 : decode cX8_isOver 6 = .ok (.iaload, 1) := by decide +kernel
theorem dX8_isOver_7 : decode cX8_isOver 7 = .ok (.ifCond .le 7, 3) := by decide +kernel
theorem dX8_isOver_10 : decode cX8_isOver 10 = .ok (.iconst 1, 1) := by decide +kernel
theorem dX8_isOver_11 : decode cX8_isOver 11 = .ok (.goto 4, 3) := by decide +kernel
theorem dX8_isOver_14 : decode cX8_isOver 14 = .ok (.iconst 0, 1) := by decide +kernel
theorem dX8_isOver_15 : decode cX8_isOver 15 = .ok (.ireturn, 1) := by decide +kernel
theorem dX8_play_0 : decode cX8_play 0 = .ok (.aload_n 0, 1) := by decide +kernel
theorem dX8_play_1 : decode cX8_play 1 = .ok (.aload_n 0, 1) := by decide +kernel
theorem dX8_play_2 : decode cX8_play 2 = .ok (.invokevirtual 299, 3) := by decide +kernel
theorem dX8_play_5 : decode cX8_play 5 = .ok (.ifCond .ne 18, 3) := by decide +kernel
theorem dX8_play_8 : decode cX8_play 8 = .ok (.aload_n 0, 1) := by decide +kernel
theorem dX8_play_9 : decode cX8_play 9 = .ok (.aload_n 0, 1) := by decide +kernel
theorem dX8_play_10 : decode cX8_play 10 = .ok (.getfield 9, 3) := by decide +kernel
theorem dX8_play_13 : decode cX8_play 13 = .ok (.bipush 10, 2) := by decide +kernel
theorem dX8_play_15 : decode cX8_play 15 = .ok (.iaload, 1) := by decide +kernel
theorem dX8_play_16 : decode cX8_play 16 = .ok (.iload_n 1, 1) := by decide +kernel
theorem dX8_play_17 : decode cX8_play 17 = .ok (.invokevirtual 213, 3) := by decide +kernel
theorem dX8_play_20 : decode cX8_play 20 = .ok (.ifCond .eq 7, 3) := by decide +kernel
theorem dX8_play_23 : decode cX8_play 23 = .ok (.iconst 1, 1) := by decide +kernel
theorem dX8_play_24 : decode cX8_play 24 = .ok (.goto 4, 3) := by decide +kernel
theorem dX8_play_27 : decode cX8_play 27 = .ok (.iconst 0, 1) := by decide +kernel
theorem dX8_play_28 : decode cX8_play 28 = .ok (.iconst 1, 1) := by decide +kernel
theorem dX8_play_29 : decode cX8_play 29 = .ok (.invokevirtual 206, 3) := by decide +kernel
theorem dX8_play_32 : decode cX8_play 32 = .ok (.ifCond .eq 5, 3) := by decide +kernel
theorem dX8_play_35 : decode cX8_play 35 = .ok (.iconst 0, 1) := by decide +kernel
theorem dX8_play_36 : decode cX8_play 36 = .ok (.ireturn, 1) := by decide +kernel
theorem dX8_play_37 : decode cX8_play 37 = .ok (.aload_n 0, 1) := by decide +kernel
theorem dX8_play_38 : decode cX8_play 38 = .ok (.invokevirtual 299, 3) := by decide +kernel
theorem dX8_play_41 : decode cX8_play 41 = .ok (.ifCond .eq 6, 3) := by decide +kernel
theorem dX8_play_44 : decode cX8_play 44 = .ok (.bipush (-3), 2) := by decide +kernel
theorem dX8_play_46 : decode cX8_play 46 = .ok (.ireturn, 1) := by decide +kernel
theorem dX8_play_47 : decode cX8_play 47 = .ok (.aload_n 0, 1) := by decide +kernel
theorem dX8_play_48 : decode cX8_play 48 = .ok (.invokevirtual 302, 3) := by decide +kernel
theorem dX8_play_51 : decode cX8_play 51 = .ok (.aload_n 0, 1) := by decide +kernel
theorem dX8_play_52 : decode cX8_play 52 = .ok (.iload_n 1, 1) := by decide +kernel
theorem dX8_play_53 : decode cX8_play 53 = .ok (.invokevirtual 305, 3) := by decide +kernel
theorem dX8_play_56 : decode cX8_play 56 = .ok (.aload_n 0, 1) := by decide +kernel
theorem dX8_play_57 : decode cX8_play 57 = .ok (.invokevirtual 210, 3) := by decide +kernel
theorem dX8_play_60 : decode cX8_play 60 = .ok (.ireturn, 1) := by decide +kernel
theorem dX8_discard_0 : decode cX8_discard 0 = .ok (.aload_n 0, 1) := by decide +kernel
theorem dX8_discard_1 : decode cX8_discard 1 = .ok (.aload_n 0, 1) := by decide +kernel
theorem dX8_discard_2 : decode cX8_discard 2 = .ok (.invokevirtual 299, 3) := by decide +kernel
theorem dX8_discard_5 : decode cX8_discard 5 = .ok (.ifCond .ne 18, 3) := by decide +kernel
theorem dX8_discard_8 : decode cX8_discard 8 = .ok (.aload_n 0, 1) := by decide +kernel
theorem dX8_discard_9 : decode cX8_discard 9 = .ok (.aload_n 0, 1) := by decide +kernel
theorem dX8_discard_10 : decode cX8_discard 10 = .ok (.getfield 9, 3) := by decide +kernel
theorem dX8_discard_13 : decode cX8_discard 13 = .ok (.bipush 10, 2) := by decide +kernel
theorem dX8_discard_15 : decode cX8_discard 15 = .ok (.iaload, 1) := by decide +kernel
theorem dX8_discard_16 : decode cX8_discard 16 = .ok (.iload_n 1, 1) := by decide +kernel
theorem dX8_discard_17 : decode cX8_discard 17 = .ok (.invokevirtual 213, 3) := by decide +kernel
theorem dX8_discard_20 : decode cX8_discard 20 = .ok (.ifCond .eq 7, 3) := by decide +kernel
theorem dX8_discard_23 : decode cX8_discard 23 = .ok (.iconst 1, 1) := by decide +kernel
theorem dX8_discard_24 : decode cX8_discard 24 = .ok (.goto 4, 3) := by decide +kernel
theorem dX8_discard_27 : decode cX8_discard 27 = .ok (.iconst 0, 1) := by decide +kernel
theorem dX8_discard_28 : decode cX8_discard 28 = .ok (.iconst 1, 1) := by decide +kernel
theorem dX8_discard_29 : decode cX8_discard 29 = .ok (.invokevirtual 206, 3) := by decide +kernel
theorem dX8_discard_32 : decode cX8_discard 32 = .ok (.ifCond .eq 5, 3) := by decide +kernel
theorem dX8_discard_35 : decode cX8_discard 35 = .ok (.iconst 0, 1) := by decide +kernel
theorem dX8_discard_36 : decode cX8_discard 36 = .ok (.ireturn, 1) := by decide +kernel
theorem dX8_discard_37 : decode cX8_discard 37 = .ok (.aload_n 0, 1) := by decide +kernel
theorem dX8_discard_38 : decode cX8_discard 38 = .ok (.invokevirtual 299, 3) := by decide +kernel
theorem dX8_discard_41 : decode cX8_discard 41 = .ok (.ifCond .eq 6, 3) := by decide +kernel
theorem dX8_discard_44 : decode cX8_discard 44 = .ok (.bipush (-3), 2) := by decide +kernel
theorem dX8_discard_46 : decode cX8_discard 46 = .ok (.ireturn, 1) := by decide +kernel
theorem dX8_discard_47 : decode cX8_discard 47 = .ok (.aload_n 0, 1) := by decide +kernel
theorem dX8_discard_48 : decode cX8_discard 48 = .ok (.invokevirtual 302, 3) := by decide +kernel
theorem dX8_discard_51 : decode cX8_discard 51 = .ok (.aload_n 0, 1) := by decide +kernel
theorem dX8_discard_52 : decode cX8_discard 52 = .ok (.iload_n 1, 1) := by decide +kernel
theorem dX8_discard_53 : decode cX8_discard 53 = .ok (.invokevirtual 308, 3) := by decide +kernel
theorem dX8_discard_56 : decode cX8_discard 56 = .ok (.aload_n 0, 1) := by decide +kernel
theorem dX8_discard_57 : decode cX8_discard 57 = .ok (.getfield 9, 3) := by decide +kernel
theorem dX8_discard_60 : decode cX8_discard 60 = .ok (.bipush 7, 2) := by decide +kernel
theorem dX8_discard_62 : decode cX8_discard 62 = .ok (.iaload, 1) := by decide +kernel
theorem dX8_discard_63 : decode cX8_discard 63 = .ok (.ireturn, 1) := by decide +kernel
theorem dX8_canSay_0 : decode cX8_canSay 0 = .ok (.aload_n 0, 1) := by decide +kernel
theorem dX8_canSay_1 : decode cX8_canSay 1 = .ok (.getfield 9, 3) := by decide +kernel
theorem dX8_canSay_4 : decode cX8_canSay 4 = .ok (.iload_n 2, 1) := by decide +kernel
theorem dX8_canSay_5 : decode cX8_canSay 5 = .ok (.iload_n 3, 1) := by decide +kernel
theorem dX8_canSay_6 : decode cX8_canSay 6 = .ok (.invokestatic 142, 3) := by decide +kernel
theorem dX8_canSay_9 : decode cX8_canSay 9 = .ok (.iaload, 1) := by decide +kernel
theorem dX8_canSay_10 : decode cX8_canSay 10 = .ok (.ifCond .le 17, 3) := by decide +kernel
theorem dX8_canSay_13 : decode cX8_canSay 13 = .ok (.aload_n 0, 1) := by decide +kernel
theorem dX8_canSay_14 : decode cX8_canSay 14 = .ok (.iload_n 1, 1) := by decide +kernel
theorem dX8_canSay_15 : decode cX8_canSay 15 = .ok (.iload_n 2, 1) := by decide +kernel
theorem dX8_canSay_16 : decode cX8_canSay 16 = .ok (.iload_n 3, 1) := by decide +kernel
theorem dX8_canSay_17 : decode cX8_canSay 17 = .ok (.invokevirtual 264, 3) := by decide +kernel
theorem dX8_canSay_20 : decode cX8_canSay 20 = .ok (.ifCond .eq 7, 3) := by decide +kernel
theorem dX8_canSay_23 : decode cX8_canSay 23 = .ok (.iconst 1, 1) := by decide +kernel
theorem dX8_canSay_24 : decode cX8_canSay 24 = .ok (.goto 4, 3) := by decide +kernel
theorem dX8_canSay_27 : decode cX8_canSay 27 = .ok (.iconst 0, 1) := by decide +kernel
theorem dX8_canSay_28 : decode cX8_canSay 28 = .ok (.ireturn, 1) := by decide +kernel
theorem dX8_hint_0 : decode cX8_hint 0 = .ok (.aload_n 0, 1) := by decide +kernel
theorem dX8_hint_1 : decode cX8_hint 1 = .ok (.aload_n 0, 1) := by decide +kernel
theorem dX8_hint_2 : decode cX8_hint 2 = .ok (.iload_n 1, 1) := by decide +kernel
theorem dX8_hint_3 : decode cX8_hint 3 = .ok (.invokevirtual 66, 3) := by decide +kernel
theorem dX8_hint_6 : decode cX8_hint 6 = .ok (.ifCond .eq 25, 3) := by decide +kernel
theorem dX8_hint_9 : decode cX8_hint 9 = .ok (.aload_n 0, 1) := by decide +kernel
theorem dX8_hint_10 : decode cX8_hint 10 = .ok (.invokevirtual 299, 3) := by decide +kernel
theorem dX8_hint_13 : decode cX8_hint 13 = .ok (.ifCond .ne 14, 3) := by decide +kernel
theorem dX8_hint_16 : decode cX8_hint 16 = .ok (.iload_n 1, 1) := by decide +kernel
theorem dX8_hint_17 : decode cX8_hint 17 = .ok (.aload_n 0, 1) := by decide +kernel
theorem dX8_hint_18 : decode cX8_hint 18 = .ok (.getfield 9, 3) := by decide +kernel
theorem dX8_hint_21 : decode cX8_hint 21 = .ok (.bipush 10, 2) := by decide +kernel
theorem dX8_hint_23 : decode cX8_hint 23 = .ok (.iaload, 1) := by decide +kernel
theorem dX8_hint_24 : decode cX8_hint 24 = .ok (.if_icmp .eq 7, 3) := by decide +kernel
theorem dX8_hint_27 : decode cX8_hint 27 = .ok (.iconst 1, 1) := by decide +kernel
theorem dX8_hint_28 : decode cX8_hint 28 = .ok (.goto 4, 3) := by decide +kernel
theorem dX8_hint_31 : decode cX8_hint 31 = .ok (.iconst 0, 1) := by decide +kernel
theorem dX8_hint_32 : decode cX8_hint 32 = .ok (.iconst 1, 1) := by decide +kernel
theorem dX8_hint_33 : decode cX8_hint 33 = .ok (.invokevirtual 206, 3) := by decide +kernel
theorem dX8_hint_36 : decode cX8_hint 36 = .ok (.ifCond .ne 17, 3) := by decide +kernel
theorem dX8_hint_39 : decode cX8_hint 39 = .ok (.aload_n 0, 1) := by decide +kernel
theorem dX8_hint_40 : decode cX8_hint 40 = .ok (.aload_n 0, 1) := by decide +kernel
theorem dX8_hint_41 : decode cX8_hint 41 = .ok (.iload_n 2, 1) := by decide +kernel
theorem dX8_hint_42 : decode cX8_hint 42 = .ok (.iload_n 3, 1) := by decide +kernel
theorem dX8_hint_43 : decode cX8_hint 43 = .ok (.invokevirtual 258, 3) := by decide +kernel
theorem dX8_hint_46 : decode cX8_hint 46 = .ok (.iconst 2, 1) := by decide +kernel
theorem dX8_hint_47 : decode cX8_hint 47 = .ok (.invokevirtual 206, 3) := by decide +kernel
theorem dX8_hint_50 : decode cX8_hint 50 = .ok (.ifCond .eq 5, 3) := by decide +kernel
theorem dX8_hint_53 : decode cX8_hint 53 = .ok (.iconst 0, 1) := by decide +kernel
theorem dX8_hint_54 : decode cX8_hint 54 = .ok (.ireturn, 1) := by decide +kernel
theorem dX8_hint_55 : decode cX8_hint 55 = .ok (.aload_n 0, 1) := by decide +kernel
theorem dX8_hint_56 : decode cX8_hint 56 = .ok (.invokevirtual 299, 3) := by decide +kernel
theorem dX8_hint_59 : decode cX8_hint 59 = .ok (.ifCond .eq 6, 3) := by decide +kernel
theorem dX8_hint_62 : decode cX8_hint 62 = .ok (.bipush (-3), 2) := by decide +kernel
theorem dX8_hint_64 : decode cX8_hint 64 = .ok (.ireturn, 1) := by decide +kernel
theorem dX8_hint_65 : decode cX8_hint 65 = .ok (.aload_n 0, 1) := by decide +kernel
theorem dX8_hint_66 : decode cX8_hint 66 = .ok (.getfield 9, 3) := by decide +kernel
theorem dX8_hint_69 : decode cX8_hint 69 = .ok (.bipush 7, 2) := by decide +kernel
theorem dX8_hint_71 : decode cX8_hint 71 = .ok (.iaload, 1) := by decide +kernel
theorem dX8_hint_72 : decode cX8_hint 72 = .ok (.ifCond .ne 6, 3) := by decide +kernel
theorem dX8_hint_75 : decode cX8_hint 75 = .ok (.bipush (-4), 2) := by decide +kernel
theorem dX8_hint_77 : decode cX8_hint 77 = .ok (.ireturn, 1) := by decide +kernel
theorem dX8_hint_78 : decode cX8_hint 78 = .ok (.aload_n 0, 1) := by decide +kernel
theorem dX8_hint_79 : decode cX8_hint 79 = .ok (.iload_n 1, 1) := by decide +kernel
theorem dX8_hint_80 : decode cX8_hint 80 = .ok (.iload_n 2, 1) := by decide +kernel
theorem dX8_hint_81 : decode cX8_hint 81 = .ok (.iload_n 3, 1) := by decide +kernel
theorem dX8_hint_82 : decode cX8_hint 82 = .ok (.invokevirtual 311, 3) := by decide +kernel
theorem dX8_hint_85 : decode cX8_hint 85 = .ok (.ifCond .ne 6, 3) := by decide +kernel
theorem dX8_hint_88 : decode cX8_hint 88 = .ok (.bipush (-5), 2) := by decide +kernel
theorem dX8_hint_90 : decode cX8_hint 90 = .ok (.ireturn, 1) := by decide +kernel
theorem dX8_hint_91 : decode cX8_hint 91 = .ok (.aload_n 0, 1) := by decide +kernel
theorem dX8_hint_92 : decode cX8_hint 92 = .ok (.invokevirtual 302, 3) := by decide +kernel
theorem dX8_hint_95 : decode cX8_hint 95 = .ok (.aload_n 0, 1) := by decide +kernel
theorem dX8_hint_96 : decode cX8_hint 96 = .ok (.iload_n 1, 1) := by decide +kernel
theorem dX8_hint_97 : decode cX8_hint 97 = .ok (.iload_n 2, 1) := by decide +kernel
theorem dX8_hint_98 : decode cX8_hint 98 = .ok (.iload_n 3, 1) := by decide +kernel
theorem dX8_hint_99 : decode cX8_hint 99 = .ok (.invokevirtual 314, 3) := by decide +kernel
theorem dX8_hint_102 : decode cX8_hint 102 = .ok (.ireturn, 1) := by decide +kernel
theorem dX8_pass_0 : decode cX8_pass 0 = .ok (.aload_n 0, 1) := by decide +kernel
theorem dX8_pass_1 : decode cX8_pass 1 = .ok (.iconst 0, 1) := by decide +kernel
theorem dX8_pass_2 : decode cX8_pass 2 = .ok (.putfield 59, 3) := by decide +kernel
theorem dX8_pass_5 : decode cX8_pass 5 = .ok (.aload_n 0, 1) := by decide +kernel
theorem dX8_pass_6 : decode cX8_pass 6 = .ok (.invokevirtual 299, 3) := by decide +kernel
theorem dX8_pass_9 : decode cX8_pass 9 = .ok (.ifCond .eq 6, 3) := by decide +kernel
theorem dX8_pass_12 : decode cX8_pass 12 = .ok (.bipush (-3), 2) := by decide +kernel
theorem dX8_pass_14 : decode cX8_pass 14 = .ok (.ireturn, 1) := by decide +kernel
theorem dX8_pass_15 : decode cX8_pass 15 = .ok (.aload_n 0, 1) := by decide +kernel
theorem dX8_pass_16 : decode cX8_pass 16 = .ok (.getfield 9, 3) := by decide +kernel
theorem dX8_pass_19 : decode cX8_pass 19 = .ok (.sipush 187, 3) := by decide +kernel
theorem dX8_pass_22 : decode cX8_pass 22 = .ok (.aload_n 0, 1) := by decide +kernel
theorem dX8_pass_23 : decode cX8_pass 23 = .ok (.getfield 9, 3) := by decide +kernel
theorem dX8_pass_26 : decode cX8_pass 26 = .ok (.bipush 10, 2) := by decide +kernel
theorem dX8_pass_28 : decode cX8_pass 28 = .ok (.iaload, 1) := by decide +kernel
theorem dX8_pass_29 : decode cX8_pass 29 = .ok (.iadd, 1) := by decide +kernel
theorem dX8_pass_30 : decode cX8_pass 30 = .ok (.iaload, 1) := by decide +kernel
theorem dX8_pass_31 : decode cX8_pass 31 = .ok (.ifCond .le 6, 3) := by decide +kernel
theorem dX8_pass_34 : decode cX8_pass 34 = .ok (.bipush (-6), 2) := by decide +kernel
theorem dX8_pass_36 : decode cX8_pass 36 = .ok (.ireturn, 1) := by decide +kernel
theorem dX8_pass_37 : decode cX8_pass 37 = .ok (.aload_n 0, 1) := by decide +kernel
theorem dX8_pass_38 : decode cX8_pass 38 = .ok (.invokevirtual 302, 3) := by decide +kernel
theorem dX8_pass_41 : decode cX8_pass 41 = .ok (.aload_n 0, 1) := by decide +kernel
theorem dX8_pass_42 : decode cX8_pass 42 = .ok (.invokevirtual 317, 3) := by decide +kernel
theorem dX8_pass_45 : decode cX8_pass 45 = .ok (.aload_n 0, 1) := by decide +kernel
theorem dX8_pass_46 : decode cX8_pass 46 = .ok (.invokevirtual 299, 3) := by decide +kernel
theorem dX8_pass_49 : decode cX8_pass 49 = .ok (.ifCond .eq 7, 3) := by decide +kernel
theorem dX8_pass_52 : decode cX8_pass 52 = .ok (.iconst (-1), 1) := by decide +kernel
theorem dX8_pass_53 : decode cX8_pass 53 = .ok (.goto 10, 3) := by decide +kernel
theorem dX8_pass_56 : decode cX8_pass 56 = .ok (.aload_n 0, 1) := by decide +kernel
theorem dX8_pass_57 : decode cX8_pass 57 = .ok (.getfield 9, 3) := by decide +kernel
theorem dX8_pass_60 : decode cX8_pass 60 = .ok (.bipush 10, 2) := by decide +kernel
theorem dX8_pass_62 : decode cX8_pass 62 = .ok (.iaload, 1) := by decide +kernel
theorem dX8_pass_63 : decode cX8_pass 63 = .ok (.ireturn, 1) := by decide +kernel
theorem dX8_advises_0 : decode cX8_advises 0 = .ok (.aload_n 0, 1) := by decide +kernel
theorem dX8_advises_1 : decode cX8_advises 1 = .ok (.getfield 37, 3) := by decide +kernel
theorem dX8_advises_4 : decode cX8_advises 4 = .ok (.iconst 0, 1) := by decide +kernel
theorem dX8_advises_5 : decode cX8_advises 5 = .ok (.iload_n 1, 1) := by decide +kernel
theorem dX8_advises_6 : decode cX8_advises 6 = .ok (.iastore, 1) := by decide +kernel
theorem dX8_advises_7 : decode cX8_advises 7 = .ok (.aload_n 0, 1) := by decide +kernel
theorem dX8_advises_8 : decode cX8_advises 8 = .ok (.getfield 37, 3) := by decide +kernel
theorem dX8_advises_11 : decode cX8_advises 11 = .ok (.iconst 1, 1) := by decide +kernel
theorem dX8_advises_12 : decode cX8_advises 12 = .ok (.iload_n 2, 1) := by decide +kernel
theorem dX8_advises_13 : decode cX8_advises 13 = .ok (.iastore, 1) := by decide +kernel
theorem dX8_advises_14 : decode cX8_advises 14 = .ok (.aload_n 0, 1) := by decide +kernel
theorem dX8_advises_15 : decode cX8_advises 15 = .ok (.getfield 37, 3) := by decide +kernel
theorem dX8_advises_18 : decode cX8_advises 18 = .ok (.iconst 2, 1) := by decide +kernel
theorem dX8_advises_19 : decode cX8_advises 19 = .ok (.iload_n 3, 1) := by decide +kernel
theorem dX8_advises_20 : decode cX8_advises 20 = .ok (.iastore, 1) := by decide +kernel
theorem dX8_advises_21 : decode cX8_advises 21 = .ok (.aload_n 0, 1) := by decide +kernel
theorem dX8_advises_22 : decode cX8_advises 22 = .ok (.getfield 37, 3) := by decide +kernel
theorem dX8_advises_25 : decode cX8_advises 25 = .ok (.iconst 3, 1) := by decide +kernel
theorem dX8_advises_26 : decode cX8_advises 26 = .ok (.iload 4, 2) := by decide +kernel
theorem dX8_advises_28 : decode cX8_advises 28 = .ok (.iastore, 1) := by decide +kernel
theorem dX8_advises_29 : decode cX8_advises 29 = .ok (.return_, 1) := by decide +kernel
theorem dX8_findsHint_0 : decode cX8_findsHint 0 = .ok (.iload_n 1, 1) := by decide +kernel
theorem dX8_findsHint_1 : decode cX8_findsHint 1 = .ok (.ifCond .eq 7, 3) := by decide +kernel
theorem dX8_findsHint_4 : decode cX8_findsHint 4 = .ok (.iconst 0, 1) := by decide +kernel
theorem dX8_findsHint_5 : decode cX8_findsHint 5 = .ok (.goto 4, 3) := by decide +kernel
theorem dX8_findsHint_8 : decode cX8_findsHint 8 = .ok (.iconst (-1), 1) := by decide +kernel
theorem dX8_findsHint_9 : decode cX8_findsHint 9 = .ok (.istore_n 2, 1) := by decide +kernel
theorem dX8_findsHint_10 : decode cX8_findsHint 10 = .ok (.iconst 0, 1) := by decide +kernel
theorem dX8_findsHint_11 : decode cX8_findsHint 11 = .ok (.istore_n 3, 1) := by decide +kernel
theorem dX8_findsHint_12 : decode cX8_findsHint 12 = .ok (.iconst 1, 1) := by decide +kernel
theorem dX8_findsHint_13 : decode cX8_findsHint 13 = .ok (.istore 4, 2) := by decide +kernel
theorem dX8_findsHint_15 : decode cX8_findsHint 15 = .ok (.iload 4, 2) := by decide +kernel
theorem dX8_findsHint_17 : decode cX8_findsHint 17 = .ok (.aload_n 0, 1) := by decide +kernel
theorem dX8_findsHint_18 : decode cX8_findsHint 18 = .ok (.getfield 9, 3) := by decide +kernel
theorem dX8_findsHint_21 : decode cX8_findsHint 21 = .ok (.iconst 2, 1) := by decide +kernel
theorem dX8_findsHint_22 : decode cX8_findsHint 22 = .ok (.iaload, 1) := by decide +kernel
theorem dX8_findsHint_23 : decode cX8_findsHint 23 = .ok (.if_icmp .ge 172, 3) := by decide +kernel
theorem dX8_findsHint_26 : decode cX8_findsHint 26 = .ok (.aload_n 0, 1) := by decide +kernel
theorem dX8_findsHint_27 : decode cX8_findsHint 27 = .ok (.getfield 9, 3) := by decide +kernel
theorem dX8_findsHint_30 : decode cX8_findsHint 30 = .ok (.bipush 7, 2) := by decide +kernel
theorem dX8_findsHint_32 : decode cX8_findsHint 32 = .ok (.iaload, 1) := by decide +kernel
theorem dX8_findsHint_33 : decode cX8_findsHint 33 = .ok (.ifCond .le 162, 3) := by decide +kernel
theorem dX8_findsHint_36 : decode cX8_findsHint 36 = .ok (.aload_n 0, 1) := by decide +kernel
theorem dX8_findsHint_37 : decode cX8_findsHint 37 = .ok (.getfield 9, 3) := by decide +kernel
theorem dX8_findsHint_40 : decode cX8_findsHint 40 = .ok (.bipush 10, 2) := by decide +kernel
theorem dX8_findsHint_42 : decode cX8_findsHint 42 = .ok (.iaload, 1) := by decide +kernel
theorem dX8_findsHint_43 : decode cX8_findsHint 43 = .ok (.iload 4, 2) := by decide +kernel
theorem dX8_findsHint_45 : decode cX8_findsHint 45 = .ok (.iadd, 1) := by decide +kernel
theorem dX8_findsHint_46 : decode cX8_findsHint 46 = .ok (.aload_n 0, 1) := by decide +kernel
theorem dX8_findsHint_47 : decode cX8_findsHint 47 = .ok (.getfield 9, 3) := by decide +kernel
theorem dX8_findsHint_50 : decode cX8_findsHint 50 = .ok (.iconst 2, 1) := by decide +kernel
theorem dX8_findsHint_51 : decode cX8_findsHint 51 = .ok (.iaload, 1) := by decide +kernel
theorem dX8_findsHint_52 : decode cX8_findsHint 52 = .ok (.irem, 1) := by decide +kernel
theorem dX8_findsHint_53 : decode cX8_findsHint 53 = .ok (.istore 5, 2) := by decide +kernel
theorem dX8_findsHint_55 : decode cX8_findsHint 55 = .ok (.iconst 0, 1) := by decide +kernel
theorem dX8_findsHint_56 : decode cX8_findsHint 56 = .ok (.istore 6, 2) := by decide +kernel
theorem dX8_findsHint_58 : decode cX8_findsHint 58 = .ok (.iload 6, 2) := by decide +kernel
theorem dX8_findsHint_60 : decode cX8_findsHint 60 = .ok (.aload_n 0, 1) := by decide +kernel
theorem dX8_findsHint_61 : decode cX8_findsHint 61 = .ok (.getfield 9, 3) := by decide +kernel
theorem dX8_findsHint_64 : decode cX8_findsHint 64 = .ok (.iconst 0, 1) := by decide +kernel
theorem dX8_findsHint_65 : decode cX8_findsHint 65 = .ok (.iaload, 1) := by decide +kernel
theorem dX8_findsHint_66 : decode cX8_findsHint 66 = .ok (.aload_n 0, 1) := by decide +kernel
theorem dX8_findsHint_67 : decode cX8_findsHint 67 = .ok (.getfield 9, 3) := by decide +kernel
theorem dX8_findsHint_70 : decode cX8_findsHint 70 = .ok (.iconst 1, 1) := by decide +kernel
theorem dX8_findsHint_71 : decode cX8_findsHint 71 = .ok (.iaload, 1) := by decide +kernel
theorem dX8_findsHint_72 : decode cX8_findsHint 72 = .ok (.iadd, 1) := by decide +kernel
theorem dX8_findsHint_73 : decode cX8_findsHint 73 = .ok (.if_icmp .ge 116, 3) := by decide +kernel
theorem dX8_findsHint_76 : decode cX8_findsHint 76 = .ok (.iload 6, 2) := by decide +kernel
theorem dX8_findsHint_78 : decode cX8_findsHint 78 = .ok (.aload_n 0, 1) := by decide +kernel
theorem dX8_findsHint_79 : decode cX8_findsHint 79 = .ok (.getfield 9, 3) := by decide +kernel
theorem dX8_findsHint_82 : decode cX8_findsHint 82 = .ok (.iconst 0, 1) := by decide +kernel
theorem dX8_findsHint_83 : decode cX8_findsHint 83 = .ok (.iaload, 1) := by decide +kernel
theorem dX8_findsHint_84 : decode cX8_findsHint 84 = .ok (.if_icmp .ge 7, 3) := by decide +kernel
theorem dX8_findsHint_87 : decode cX8_findsHint 87 = .ok (.iconst 0, 1) := by decide +kernel
theorem dX8_findsHint_88 : decode cX8_findsHint 88 = .ok (.goto 4, 3) := by decide +kernel
theorem dX8_findsHint_91 : decode cX8_findsHint 91 = .ok (.iconst 1, 1) := by decide +kernel
theorem dX8_findsHint_92 : decode cX8_findsHint 92 = .ok (.istore 7, 2) := by decide +kernel
theorem dX8_findsHint_94 : decode cX8_findsHint 94 = .ok (.iload 7, 2) := by decide +kernel
theorem dX8_findsHint_96 : decode cX8_findsHint 96 = .ok (.ifCond .ne 8, 3) := by decide +kernel
theorem dX8_findsHint_99 : decode cX8_findsHint 99 = .ok (.iload 6, 2) := by decide +kernel
theorem dX8_findsHint_101 : decode cX8_findsHint 101 = .ok (.goto 14, 3) := by decide +kernel
theorem dX8_findsHint_104 : decode cX8_findsHint 104 = .ok (.iload 6, 2) := by decide +kernel
theorem dX8_findsHint_106 : decode cX8_findsHint 106 = .ok (.aload_n 0, 1) := by decide +kernel
theorem dX8_findsHint_107 : decode cX8_findsHint 107 = .ok (.getfield 9, 3) := by decide +kernel
theorem dX8_findsHint_110 : decode cX8_findsHint 110 = .ok (.iconst 0, 1) := by decide +kernel
theorem dX8_findsHint_111 : decode cX8_findsHint 111 = .ok (.iaload, 1) := by decide +kernel
theorem dX8_findsHint_112 : decode cX8_findsHint 112 = .ok (.isub, 1) := by decide +kernel
theorem dX8_findsHint_113 : decode cX8_findsHint 113 = .ok (.iconst 1, 1) := by decide +kernel
theorem dX8_findsHint_114 : decode cX8_findsHint 114 = .ok (.iadd, 1) := by decide +kernel
theorem dX8_findsHint_115 : decode cX8_findsHint 115 = .ok (.istore 8, 2) := by decide +kernel
theorem dX8_findsHint_117 : decode cX8_findsHint 117 = .ok (.aload_n 0, 1) := by decide +kernel
theorem dX8_findsHint_118 : decode cX8_findsHint 118 = .ok (.iload 5, 2) := by decide +kernel
theorem dX8_findsHint_120 : decode cX8_findsHint 120 = .ok (.iload 7, 2) := by decide +kernel
theorem dX8_findsHint_122 : decode cX8_findsHint 122 = .ok (.iload 8, 2) := by decide +kernel
theorem dX8_findsHint_124 : decode cX8_findsHint 124 = .ok (.invokevirtual 311, 3) := by decide +kernel
theorem dX8_findsHint_127 : decode cX8_findsHint 127 = .ok (.ifCond .eq 56, 3) := by decide +kernel
theorem dX8_findsHint_130 : decode cX8_findsHint 130 = .ok (.iload_n 1, 1) := by decide +kernel
theorem dX8_findsHint_131 : decode cX8_findsHint 131 = .ok (.ifCond .ne 10, 3) := by decide +kernel
theorem dX8_findsHint_134 : decode cX8_findsHint 134 = .ok (.iload_n 3, 1) := by decide +kernel
theorem dX8_findsHint_135 : decode cX8_findsHint 135 = .ok (.ifCond .eq 6, 3) := by decide +kernel
theorem dX8_findsHint_138 : decode cX8_findsHint 138 = .ok (.goto 45, 3) := by decide +kernel
theorem dX8_findsHint_141 : decode cX8_findsHint 141 = .ok (.iload_n 1, 1) := by decide +kernel
theorem dX8_findsHint_142 : decode cX8_findsHint 142 = .ok (.ifCond .eq 16, 3) := by decide +kernel
theorem dX8_findsHint_145 : decode cX8_findsHint 145 = .ok (.aload_n 0, 1) := by decide +kernel
theorem dX8_findsHint_146 : decode cX8_findsHint 146 = .ok (.iload 5, 2) := by decide +kernel
theorem dX8_findsHint_148 : decode cX8_findsHint 148 = .ok (.iload 7, 2) := by decide +kernel
theorem dX8_findsHint_150 : decode cX8_findsHint 150 = .ok (.iload 8, 2) := by decide +kernel
theorem dX8_findsHint_152 : decode cX8_findsHint 152 = .ok (.invokevirtual 277, 3) := by decide +kernel
theorem dX8_findsHint_155 : decode cX8_findsHint 155 = .ok (.goto 4, 3) := by decide +kernel
theorem dX8_findsHint_158 : decode cX8_findsHint 158 = .ok (.iconst 0, 1) := by decide +kernel
theorem dX8_findsHint_159 : decode cX8_findsHint 159 = .ok (.istore 9, 2) := by decide +kernel
theorem dX8_findsHint_161 : decode cX8_findsHint 161 = .ok (.iload 9, 2) := by decide +kernel
theorem dX8_findsHint_163 : decode cX8_findsHint 163 = .ok (.iload_n 2, 1) := by decide +kernel
theorem dX8_findsHint_164 : decode cX8_findsHint 164 = .ok (.if_icmp .le 19, 3) := by decide +kernel
theorem dX8_findsHint_167 : decode cX8_findsHint 167 = .ok (.iload 9, 2) := by decide +kernel
theorem dX8_findsHint_169 : decode cX8_findsHint 169 = .ok (.istore_n 2, 1) := by decide +kernel
theorem dX8_findsHint_170 : decode cX8_findsHint 170 = .ok (.iconst 1, 1) := by decide +kernel
theorem dX8_findsHint_171 : decode cX8_findsHint 171 = .ok (.istore_n 3, 1) := by decide +kernel
theorem dX8_findsHint_172 : decode cX8_findsHint 172 = .ok (.aload_n 0, 1) := by decide +kernel
theorem dX8_findsHint_173 : decode cX8_findsHint 173 = .ok (.iconst 2, 1) := by decide +kernel
theorem dX8_findsHint_174 : decode cX8_findsHint 174 = .ok (.iload 5, 2) := by decide +kernel
theorem dX8_findsHint_176 : decode cX8_findsHint 176 = .ok (.iload 7, 2) := by decide +kernel
theorem dX8_findsHint_178 : decode cX8_findsHint 178 = .ok (.iload 8, 2) := by decide +kernel
theorem dX8_findsHint_180 : decode cX8_findsHint 180 = .ok (.invokevirtual 320, 3) := by decide +kernel
theorem dX8_findsHint_183 : decode cX8_findsHint 183 = .ok (.iinc 6 1, 3) := by decide +kernel
theorem dX8_findsHint_186 : decode cX8_findsHint 186 = .ok (.goto (-128), 3) := by decide +kernel
theorem dX8_findsHint_189 : decode cX8_findsHint 189 = .ok (.iinc 4 1, 3) := by decide +kernel
theorem dX8_findsHint_192 : decode cX8_findsHint 192 = .ok (.goto (-177), 3) := by decide +kernel
theorem dX8_findsHint_195 : decode cX8_findsHint 195 = .ok (.iload_n 3, 1) := by decide +kernel
theorem dX8_findsHint_196 : decode cX8_findsHint 196 = .ok (.ireturn, 1) := by decide +kernel
theorem dX8_placeWith_0 : decode cX8_placeWith 0 = .ok (.aload_n 0, 1) := by decide +kernel
theorem dX8_placeWith_1 : decode cX8_placeWith 1 = .ok (.getfield 9, 3) := by decide +kernel
theorem dX8_placeWith_4 : decode cX8_placeWith 4 = .ok (.bipush 10, 2) := by decide +kernel
theorem dX8_placeWith_6 : decode cX8_placeWith 6 = .ok (.iaload, 1) := by decide +kernel
theorem dX8_placeWith_7 : decode cX8_placeWith 7 = .ok (.istore_n 2, 1) := by decide +kernel
theorem dX8_placeWith_8 : decode cX8_placeWith 8 = .ok (.iconst 0, 1) := by decide +kernel
theorem dX8_placeWith_9 : decode cX8_placeWith 9 = .ok (.istore_n 3, 1) := by decide +kernel
theorem dX8_placeWith_10 : decode cX8_placeWith 10 = .ok (.iload_n 3, 1) := by decide +kernel
theorem dX8_placeWith_11 : decode cX8_placeWith 11 = .ok (.aload_n 0, 1) := by decide +kernel
theorem dX8_placeWith_12 : decode cX8_placeWith 12 = .ok (.getfield 9, 3) := by decide +kernel
theorem dX8_placeWith_15 : decode cX8_placeWith 15 = .ok (.sipush 187, 3) := by decide +kernel
theorem dX8_placeWith_18 : decode cX8_placeWith 18 = .ok (.iload_n 2, 1) := by decide +kernel
theorem dX8_placeWith_19 : decode cX8_placeWith 19 = .ok (.iadd, 1) := by decide +kernel
theorem dX8_placeWith_20 : decode cX8_placeWith 20 = .ok (.iaload, 1) := by decide +kernel
theorem dX8_placeWith_21 : decode cX8_placeWith 21 = .ok (.if_icmp .ge 47, 3) := by decide +kernel
theorem dX8_placeWith_24 : decode cX8_placeWith 24 = .ok (.iload_n 1, 1) := by decide +kernel
theorem dX8_placeWith_25 : decode cX8_placeWith 25 = .ok (.iconst (-1), 1) := by decide +kernel
theorem dX8_placeWith_26 : decode cX8_placeWith 26 = .ok (.if_icmp .ne 24, 3) := by decide +kernel
theorem dX8_placeWith_29 : decode cX8_placeWith 29 = .ok (.aload_n 0, 1) := by decide +kernel
theorem dX8_placeWith_30 : decode cX8_placeWith 30 = .ok (.getfield 9, 3) := by decide +kernel
theorem dX8_placeWith_33 : decode cX8_placeWith 33 = .ok (.sipush 147, 3) := by decide +kernel
theorem dX8_placeWith_36 : decode cX8_placeWith 36 = .ok (.aload_n 0, 1) := by decide +kernel
theorem dX8_placeWith_37 : decode cX8_placeWith 37 = .ok (.iload_n 2, 1) := by decide +kernel
theorem dX8_placeWith_38 : decode cX8_placeWith 38 = .ok (.iload_n 3, 1) := by decide +kernel
theorem dX8_placeWith_39 : decode cX8_placeWith 39 = .ok (.invokevirtual 217, 3) := by decide +kernel
theorem dX8_placeWith_42 : decode cX8_placeWith 42 = .ok (.iadd, 1) := by decide +kernel
theorem dX8_placeWith_43 : decode cX8_placeWith 43 = .ok (.iaload, 1) := by decide +kernel
theorem dX8_placeWith_44 : decode cX8_placeWith 44 = .ok (.ifCond .ne 18, 3) := by decide +kernel
theorem dX8_placeWith_47 : decode cX8_placeWith 47 = .ok (.goto 13, 3) := by decide +kernel
theorem dX8_placeWith_50 : decode cX8_placeWith 50 = .ok (.aload_n 0, 1) := by decide +kernel
theorem dX8_placeWith_51 : decode cX8_placeWith 51 = .ok (.iload_n 2, 1) := by decide +kernel
theorem dX8_placeWith_52 : decode cX8_placeWith 52 = .ok (.iload_n 3, 1) := by decide +kernel
theorem dX8_placeWith_53 : decode cX8_placeWith 53 = .ok (.invokevirtual 255, 3) := by decide +kernel
theorem dX8_placeWith_56 : decode cX8_placeWith 56 = .ok (.iload_n 1, 1) := by decide +kernel
theorem dX8_placeWith_57 : decode cX8_placeWith 57 = .ok (.if_icmp .ne 5, 3) := by decide +kernel
theorem dX8_placeWith_60 : decode cX8_placeWith 60 = .ok (.iload_n 3, 1) := by decide +kernel
theorem dX8_placeWith_61 : decode cX8_placeWith 61 = .ok (.ireturn, 1) := by decide +kernel
theorem dX8_placeWith_62 : decode cX8_placeWith 62 = .ok (.iinc 3 1, 3) := by decide +kernel
theorem dX8_placeWith_65 : decode cX8_placeWith 65 = .ok (.goto (-55), 3) := by decide +kernel
theorem dX8_placeWith_68 : decode cX8_placeWith 68 = .ok (.iconst (-1), 1) := by decide +kernel
theorem dX8_placeWith_69 : decode cX8_placeWith 69 = .ok (.ireturn, 1) := by decide +kernel
theorem dX8_findsAdvice_0 : decode cX8_findsAdvice 0 = .ok (.aload_n 0, 1) := by decide +kernel
theorem dX8_findsAdvice_1 : decode cX8_findsAdvice 1 = .ok (.iconst 1, 1) := by decide +kernel
theorem dX8_findsAdvice_2 : decode cX8_findsAdvice 2 = .ok (.invokevirtual 324, 3) := by decide +kernel
theorem dX8_findsAdvice_5 : decode cX8_findsAdvice 5 = .ok (.istore_n 1, 1) := by decide +kernel
theorem dX8_findsAdvice_6 : decode cX8_findsAdvice 6 = .ok (.iload_n 1, 1) := by decide +kernel
theorem dX8_findsAdvice_7 : decode cX8_findsAdvice 7 = .ok (.iconst (-1), 1) := by decide +kernel
theorem dX8_findsAdvice_8 : decode cX8_findsAdvice 8 = .ok (.if_icmp .eq 12, 3) := by decide +kernel
theorem dX8_findsAdvice_11 : decode cX8_findsAdvice 11 = .ok (.aload_n 0, 1) := by decide +kernel
theorem dX8_findsAdvice_12 : decode cX8_findsAdvice 12 = .ok (.iconst 0, 1) := by decide +kernel
theorem dX8_findsAdvice_13 : decode cX8_findsAdvice 13 = .ok (.iload_n 1, 1) := by decide +kernel
theorem dX8_findsAdvice_14 : decode cX8_findsAdvice 14 = .ok (.iconst (-1), 1) := by decide +kernel
theorem dX8_findsAdvice_15 : decode cX8_findsAdvice 15 = .ok (.iconst (-1), 1) := by decide +kernel
theorem dX8_findsAdvice_16 : decode cX8_findsAdvice 16 = .ok (.invokevirtual 320, 3) := by decide +kernel
theorem dX8_findsAdvice_19 : decode cX8_findsAdvice 19 = .ok (.return_, 1) := by decide +kernel
theorem dX8_findsAdvice_20 : decode cX8_findsAdvice 20 = .ok (.aload_n 0, 1) := by decide +kernel
theorem dX8_findsAdvice_21 : decode cX8_findsAdvice 21 = .ok (.iconst 1, 1) := by decide +kernel
theorem dX8_findsAdvice_22 : decode cX8_findsAdvice 22 = .ok (.invokevirtual 327, 3) := by decide +kernel
theorem dX8_findsAdvice_25 : decode cX8_findsAdvice 25 = .ok (.ifCond .eq 4, 3) := by decide +kernel
theorem dX8_findsAdvice_28 : decode cX8_findsAdvice 28 = .ok (.return_, 1) := by decide +kernel
theorem dX8_findsAdvice_29 : decode cX8_findsAdvice 29 = .ok (.aload_n 0, 1) := by decide +kernel
theorem dX8_findsAdvice_30 : decode cX8_findsAdvice 30 = .ok (.iconst 2, 1) := by decide +kernel
theorem dX8_findsAdvice_31 : decode cX8_findsAdvice 31 = .ok (.invokevirtual 324, 3) := by decide +kernel
theorem dX8_findsAdvice_34 : decode cX8_findsAdvice 34 = .ok (.istore_n 1, 1) := by decide +kernel
theorem dX8_findsAdvice_35 : decode cX8_findsAdvice 35 = .ok (.iload_n 1, 1) := by decide +kernel
theorem dX8_findsAdvice_36 : decode cX8_findsAdvice 36 = .ok (.iconst (-1), 1) := by decide +kernel
theorem dX8_findsAdvice_37 : decode cX8_findsAdvice 37 = .ok (.if_icmp .ne 11, 3) := by decide +kernel
theorem dX8_findsAdvice_40 : decode cX8_findsAdvice 40 = .ok (.aload_n 0, 1) := by decide +kernel
theorem dX8_findsAdvice_41 : decode cX8_findsAdvice 41 = .ok (.iconst (-1), 1) := by decide +kernel
theorem dX8_findsAdvice_42 : decode cX8_findsAdvice 42 = .ok (.invokevirtual 324, 3) := by decide +kernel
theorem dX8_findsAdvice_45 : decode cX8_findsAdvice 45 = .ok (.goto 4, 3) := by decide +kernel
theorem dX8_findsAdvice_48 : decode cX8_findsAdvice 48 = .ok (.iload_n 1, 1) := by decide +kernel
theorem dX8_findsAdvice_49 : decode cX8_findsAdvice 49 = .ok (.istore_n 1, 1) := by decide +kernel
theorem dX8_findsAdvice_50 : decode cX8_findsAdvice 50 = .ok (.iload_n 1, 1) := by decide +kernel
theorem dX8_findsAdvice_51 : decode cX8_findsAdvice 51 = .ok (.iconst (-1), 1) := by decide +kernel
theorem dX8_findsAdvice_52 : decode cX8_findsAdvice 52 = .ok (.if_icmp .eq 12, 3) := by decide +kernel
theorem dX8_findsAdvice_55 : decode cX8_findsAdvice 55 = .ok (.aload_n 0, 1) := by decide +kernel
theorem dX8_findsAdvice_56 : decode cX8_findsAdvice 56 = .ok (.iconst 1, 1) := by decide +kernel
theorem dX8_findsAdvice_57 : decode cX8_findsAdvice 57 = .ok (.iload_n 1, 1) := by decide +kernel
theorem dX8_findsAdvice_58 : decode cX8_findsAdvice 58 = .ok (.iconst (-1), 1) := by decide +kernel
theorem dX8_findsAdvice_59 : decode cX8_findsAdvice 59 = .ok (.iconst (-1), 1) := by decide +kernel
theorem dX8_findsAdvice_60 : decode cX8_findsAdvice 60 = .ok (.invokevirtual 320, 3) := by decide +kernel
theorem dX8_findsAdvice_63 : decode cX8_findsAdvice 63 = .ok (.return_, 1) := by decide +kernel
theorem dX8_findsAdvice_64 : decode cX8_findsAdvice 64 = .ok (.aload_n 0, 1) := by decide +kernel
theorem dX8_findsAdvice_65 : decode cX8_findsAdvice 65 = .ok (.iconst 0, 1) := by decide +kernel
theorem dX8_findsAdvice_66 : decode cX8_findsAdvice 66 = .ok (.invokevirtual 327, 3) := by decide +kernel
theorem dX8_findsAdvice_69 : decode cX8_findsAdvice 69 = .ok (.ifCond .eq 4, 3) := by decide +kernel
theorem dX8_findsAdvice_72 : decode cX8_findsAdvice 72 = .ok (.return_, 1) := by decide +kernel
theorem dX8_findsAdvice_73 : decode cX8_findsAdvice 73 = .ok (.aload_n 0, 1) := by decide +kernel
theorem dX8_findsAdvice_74 : decode cX8_findsAdvice 74 = .ok (.getfield 9, 3) := by decide +kernel
theorem dX8_findsAdvice_77 : decode cX8_findsAdvice 77 = .ok (.sipush 187, 3) := by decide +kernel
theorem dX8_findsAdvice_80 : decode cX8_findsAdvice 80 = .ok (.aload_n 0, 1) := by decide +kernel
theorem dX8_findsAdvice_81 : decode cX8_findsAdvice 81 = .ok (.getfield 9, 3) := by decide +kernel
theorem dX8_findsAdvice_84 : decode cX8_findsAdvice 84 = .ok (.bipush 10, 2) := by decide +kernel
theorem dX8_findsAdvice_86 : decode cX8_findsAdvice 86 = .ok (.iaload, 1) := by decide +kernel
theorem dX8_findsAdvice_87 : decode cX8_findsAdvice 87 = .ok (.iadd, 1) := by decide +kernel
theorem dX8_findsAdvice_88 : decode cX8_findsAdvice 88 = .ok (.iaload, 1) := by decide +kernel
theorem dX8_findsAdvice_89 : decode cX8_findsAdvice 89 = .ok (.ifCond .ne 14, 3) := by decide +kernel
theorem dX8_findsAdvice_92 : decode cX8_findsAdvice 92 = .ok (.aload_n 0, 1) := by decide +kernel
theorem dX8_findsAdvice_93 : decode cX8_findsAdvice 93 = .ok (.iconst 3, 1) := by decide +kernel
theorem dX8_findsAdvice_94 : decode cX8_findsAdvice 94 = .ok (.iconst (-1), 1) := by decide +kernel
theorem dX8_findsAdvice_95 : decode cX8_findsAdvice 95 = .ok (.iconst (-1), 1) := by decide +kernel
theorem dX8_findsAdvice_96 : decode cX8_findsAdvice 96 = .ok (.iconst (-1), 1) := by decide +kernel
theorem dX8_findsAdvice_97 : decode cX8_findsAdvice 97 = .ok (.invokevirtual 320, 3) := by decide +kernel
theorem dX8_findsAdvice_100 : decode cX8_findsAdvice 100 = .ok (.goto 11, 3) := by decide +kernel
theorem dX8_findsAdvice_103 : decode cX8_findsAdvice 103 = .ok (.aload_n 0, 1) := by decide +kernel
theorem dX8_findsAdvice_104 : decode cX8_findsAdvice 104 = .ok (.iconst 1, 1) := by decide +kernel
theorem dX8_findsAdvice_105 : decode cX8_findsAdvice 105 = .ok (.iconst 0, 1) := by decide +kernel
theorem dX8_findsAdvice_106 : decode cX8_findsAdvice 106 = .ok (.iconst (-1), 1) := by decide +kernel
theorem dX8_findsAdvice_107 : decode cX8_findsAdvice 107 = .ok (.iconst (-1), 1) := by decide +kernel
theorem dX8_findsAdvice_108 : decode cX8_findsAdvice 108 = .ok (.invokevirtual 320, 3) := by decide +kernel
theorem dX8_findsAdvice_111 : decode cX8_findsAdvice 111 = .ok (.return_, 1) := by decide +kernel
theorem dX8_advice_0 : decode cX8_advice 0 = .ok (.aload_n 0, 1) := by decide +kernel
theorem dX8_advice_1 : decode cX8_advice 1 = .ok (.iload_n 1, 1) := by decide +kernel
theorem dX8_advice_2 : decode cX8_advice 2 = .ok (.iconst 0, 1) := by decide +kernel
theorem dX8_advice_3 : decode cX8_advice 3 = .ok (.iconst 3, 1) := by decide +kernel
theorem dX8_advice_4 : decode cX8_advice 4 = .ok (.invokestatic 62, 3) := by decide +kernel
theorem dX8_advice_7 : decode cX8_advice 7 = .ok (.iconst 1, 1) := by decide +kernel
theorem dX8_advice_8 : decode cX8_advice 8 = .ok (.invokevirtual 206, 3) := by decide +kernel
theorem dX8_advice_11 : decode cX8_advice 11 = .ok (.ifCond .eq 5, 3) := by decide +kernel
theorem dX8_advice_14 : decode cX8_advice 14 = .ok (.iconst 0, 1) := by decide +kernel
theorem dX8_advice_15 : decode cX8_advice 15 = .ok (.ireturn, 1) := by decide +kernel
theorem dX8_advice_16 : decode cX8_advice 16 = .ok (.aload_n 0, 1) := by decide +kernel
theorem dX8_advice_17 : decode cX8_advice 17 = .ok (.invokevirtual 299, 3) := by decide +kernel
theorem dX8_advice_20 : decode cX8_advice 20 = .ok (.ifCond .eq 6, 3) := by decide +kernel
theorem dX8_advice_23 : decode cX8_advice 23 = .ok (.bipush (-3), 2) := by decide +kernel
theorem dX8_advice_25 : decode cX8_advice 25 = .ok (.ireturn, 1) := by decide +kernel
theorem dX8_advice_26 : decode cX8_advice 26 = .ok (.aload_n 0, 1) := by decide +kernel
theorem dX8_advice_27 : decode cX8_advice 27 = .ok (.invokevirtual 331, 3) := by decide +kernel
theorem dX8_advice_30 : decode cX8_advice 30 = .ok (.aload_n 0, 1) := by decide +kernel
theorem dX8_advice_31 : decode cX8_advice 31 = .ok (.getfield 37, 3) := by decide +kernel
theorem dX8_advice_34 : decode cX8_advice 34 = .ok (.iload_n 1, 1) := by decide +kernel
theorem dX8_advice_35 : decode cX8_advice 35 = .ok (.iaload, 1) := by decide +kernel
theorem dX8_advice_36 : decode cX8_advice 36 = .ok (.ireturn, 1) := by decide +kernel
theorem dX8_follows_0 : decode cX8_follows 0 = .ok (.aload_n 0, 1) := by decide +kernel
theorem dX8_follows_1 : decode cX8_follows 1 = .ok (.invokevirtual 331, 3) := by decide +kernel
theorem dX8_follows_4 : decode cX8_follows 4 = .ok (.aload_n 0, 1) := by decide +kernel
theorem dX8_follows_5 : decode cX8_follows 5 = .ok (.getfield 37, 3) := by decide +kernel
theorem dX8_follows_8 : decode cX8_follows 8 = .ok (.iconst 0, 1) := by decide +kernel
theorem dX8_follows_9 : decode cX8_follows 9 = .ok (.iaload, 1) := by decide +kernel
theorem dX8_follows_10 : decode cX8_follows 10 = .ok (.tableswitch 78 0 2 #[26, 39, 52], 26) := by decide +kernel
theorem dX8_follows_36 : decode cX8_follows 36 = .ok (.aload_n 0, 1) := by decide +kernel
theorem dX8_follows_37 : decode cX8_follows 37 = .ok (.aload_n 0, 1) := by decide +kernel
theorem dX8_follows_38 : decode cX8_follows 38 = .ok (.getfield 37, 3) := by decide +kernel
theorem dX8_follows_41 : decode cX8_follows 41 = .ok (.iconst 1, 1) := by decide +kernel
theorem dX8_follows_42 : decode cX8_follows 42 = .ok (.iaload, 1) := by decide +kernel
theorem dX8_follows_43 : decode cX8_follows 43 = .ok (.invokevirtual 305, 3) := by decide +kernel
theorem dX8_follows_46 : decode cX8_follows 46 = .ok (.goto 46, 3) := by decide +kernel
theorem dX8_follows_49 : decode cX8_follows 49 = .ok (.aload_n 0, 1) := by decide +kernel
theorem dX8_follows_50 : decode cX8_follows 50 = .ok (.aload_n 0, 1) := by decide +kernel
theorem dX8_follows_51 : decode cX8_follows 51 = .ok (.getfield 37, 3) := by decide +kernel
theorem dX8_follows_54 : decode cX8_follows 54 = .ok (.iconst 1, 1) := by decide +kernel
theorem dX8_follows_55 : decode cX8_follows 55 = .ok (.iaload, 1) := by decide +kernel
theorem dX8_follows_56 : decode cX8_follows 56 = .ok (.invokevirtual 308, 3) := by decide +kernel
theorem dX8_follows_59 : decode cX8_follows 59 = .ok (.goto 33, 3) := by decide +kernel
theorem dX8_follows_62 : decode cX8_follows 62 = .ok (.aload_n 0, 1) := by decide +kernel
theorem dX8_follows_63 : decode cX8_follows 63 = .ok (.aload_n 0, 1) := by decide +kernel
theorem dX8_follows_64 : decode cX8_follows 64 = .ok (.getfield 37, 3) := by decide +kernel
theorem dX8_follows_67 : decode cX8_follows 67 = .ok (.iconst 1, 1) := by decide +kernel
theorem dX8_follows_68 : decode cX8_follows 68 = .ok (.iaload, 1) := by decide +kernel
theorem dX8_follows_69 : decode cX8_follows 69 = .ok (.aload_n 0, 1) := by decide +kernel
theorem dX8_follows_70 : decode cX8_follows 70 = .ok (.getfield 37, 3) := by decide +kernel
theorem dX8_follows_73 : decode cX8_follows 73 = .ok (.iconst 2, 1) := by decide +kernel
theorem dX8_follows_74 : decode cX8_follows 74 = .ok (.iaload, 1) := by decide +kernel
theorem dX8_follows_75 : decode cX8_follows 75 = .ok (.aload_n 0, 1) := by decide +kernel
theorem dX8_follows_76 : decode cX8_follows 76 = .ok (.getfield 37, 3) := by decide +kernel
theorem dX8_follows_79 : decode cX8_follows 79 = .ok (.iconst 3, 1) := by decide +kernel
theorem dX8_follows_80 : decode cX8_follows 80 = .ok (.iaload, 1) := by decide +kernel
theorem dX8_follows_81 : decode cX8_follows 81 = .ok (.invokevirtual 314, 3) := by decide +kernel
theorem dX8_follows_84 : decode cX8_follows 84 = .ok (.istore_n 1, 1) := by decide +kernel
theorem dX8_follows_85 : decode cX8_follows 85 = .ok (.goto 7, 3) := by decide +kernel
theorem dX8_follows_88 : decode cX8_follows 88 = .ok (.aload_n 0, 1) := by decide +kernel
theorem dX8_follows_89 : decode cX8_follows 89 = .ok (.invokevirtual 317, 3) := by decide +kernel
theorem dX8_follows_92 : decode cX8_follows 92 = .ok (.return_, 1) := by decide +kernel
theorem dX8_follow_0 : decode cX8_follow 0 = .ok (.aload_n 0, 1) := by decide +kernel
theorem dX8_follow_1 : decode cX8_follow 1 = .ok (.iload_n 1, 1) := by decide +kernel
theorem dX8_follow_2 : decode cX8_follow 2 = .ok (.iconst 1, 1) := by decide +kernel
theorem dX8_follow_3 : decode cX8_follow 3 = .ok (.bipush 100, 2) := by decide +kernel
theorem dX8_follow_5 : decode cX8_follow 5 = .ok (.invokestatic 62, 3) := by decide +kernel
theorem dX8_follow_8 : decode cX8_follow 8 = .ok (.iconst 1, 1) := by decide +kernel
theorem dX8_follow_9 : decode cX8_follow 9 = .ok (.invokevirtual 206, 3) := by decide +kernel
theorem dX8_follow_12 : decode cX8_follow 12 = .ok (.ifCond .eq 5, 3) := by decide +kernel
theorem dX8_follow_15 : decode cX8_follow 15 = .ok (.iconst 0, 1) := by decide +kernel
theorem dX8_follow_16 : decode cX8_follow 16 = .ok (.ireturn, 1) := by decide +kernel
theorem dX8_follow_17 : decode cX8_follow 17 = .ok (.iconst 0, 1) := by decide +kernel
theorem dX8_follow_18 : decode cX8_follow 18 = .ok (.istore_n 2, 1) := by decide +kernel
theorem dX8_follow_19 : decode cX8_follow 19 = .ok (.iload_n 2, 1) := by decide +kernel
theorem dX8_follow_20 : decode cX8_follow 20 = .ok (.iload_n 1, 1) := by decide +kernel
theorem dX8_follow_21 : decode cX8_follow 21 = .ok (.if_icmp .ge 24, 3) := by decide +kernel
theorem dX8_follow_24 : decode cX8_follow 24 = .ok (.aload_n 0, 1) := by decide +kernel
theorem dX8_follow_25 : decode cX8_follow 25 = .ok (.invokevirtual 299, 3) := by decide +kernel
theorem dX8_follow_28 : decode cX8_follow 28 = .ok (.ifCond .ne 17, 3) := by decide +kernel
theorem dX8_follow_31 : decode cX8_follow 31 = .ok (.aload_n 0, 1) := by decide +kernel
theorem dX8_follow_32 : decode cX8_follow 32 = .ok (.invokevirtual 302, 3) := by decide +kernel
theorem dX8_follow_35 : decode cX8_follow 35 = .ok (.aload_n 0, 1) := by decide +kernel
theorem dX8_follow_36 : decode cX8_follow 36 = .ok (.invokevirtual 334, 3) := by decide +kernel
theorem dX8_follow_39 : decode cX8_follow 39 = .ok (.iinc 2 1, 3) := by decide +kernel
theorem dX8_follow_42 : decode cX8_follow 42 = .ok (.goto (-23), 3) := by decide +kernel
theorem dX8_follow_45 : decode cX8_follow 45 = .ok (.iload_n 2, 1) := by decide +kernel
theorem dX8_follow_46 : decode cX8_follow 46 = .ok (.ireturn, 1) := by decide +kernel
theorem dX8_foreseen_0 : decode cX8_foreseen 0 = .ok (.aload_n 0, 1) := by decide +kernel
theorem dX8_foreseen_1 : decode cX8_foreseen 1 = .ok (.iconst 0, 1) := by decide +kernel
theorem dX8_foreseen_2 : decode cX8_foreseen 2 = .ok (.putfield 59, 3) := by decide +kernel
theorem dX8_foreseen_5 : decode cX8_foreseen 5 = .ok (.aload_n 0, 1) := by decide +kernel
theorem dX8_foreseen_6 : decode cX8_foreseen 6 = .ok (.getfield 9, 3) := by decide +kernel
theorem dX8_foreseen_9 : decode cX8_foreseen 9 = .ok (.iconst 0, 1) := by decide +kernel
theorem dX8_foreseen_10 : decode cX8_foreseen 10 = .ok (.aload_n 0, 1) := by decide +kernel
theorem dX8_foreseen_11 : decode cX8_foreseen 11 = .ok (.getfield 16, 3) := by decide +kernel
theorem dX8_foreseen_14 : decode cX8_foreseen 14 = .ok (.iconst 0, 1) := by decide +kernel
theorem dX8_foreseen_15 : decode cX8_foreseen 15 = .ok (.invokestatic 197, 3) := by decide +kernel
theorem dX8_foreseen_18 : decode cX8_foreseen 18 = .ok (.iconst 0, 1) := by decide +kernel
theorem dX8_foreseen_19 : decode cX8_foreseen 19 = .ok (.istore_n 1, 1) := by decide +kernel
theorem dX8_foreseen_20 : decode cX8_foreseen 20 = .ok (.iload_n 1, 1) := by decide +kernel
theorem dX8_foreseen_21 : decode cX8_foreseen 21 = .ok (.sipush 300, 3) := by decide +kernel
theorem dX8_foreseen_24 : decode cX8_foreseen 24 = .ok (.if_icmp .ge 20, 3) := by decide +kernel
theorem dX8_foreseen_27 : decode cX8_foreseen 27 = .ok (.aload_n 0, 1) := by decide +kernel
theorem dX8_foreseen_28 : decode cX8_foreseen 28 = .ok (.invokevirtual 299, 3) := by decide +kernel
theorem dX8_foreseen_31 : decode cX8_foreseen 31 = .ok (.ifCond .ne 13, 3) := by decide +kernel
theorem dX8_foreseen_34 : decode cX8_foreseen 34 = .ok (.aload_n 0, 1) := by decide +kernel
theorem dX8_foreseen_35 : decode cX8_foreseen 35 = .ok (.invokevirtual 334, 3) := by decide +kernel
theorem dX8_foreseen_38 : decode cX8_foreseen 38 = .ok (.iinc 1 1, 3) := by decide +kernel
theorem dX8_foreseen_41 : decode cX8_foreseen 41 = .ok (.goto (-21), 3) := by decide +kernel
theorem dX8_foreseen_44 : decode cX8_foreseen 44 = .ok (.aload_n 0, 1) := by decide +kernel
theorem dX8_foreseen_45 : decode cX8_foreseen 45 = .ok (.invokevirtual 210, 3) := by decide +kernel
theorem dX8_foreseen_48 : decode cX8_foreseen 48 = .ok (.istore_n 1, 1) := by decide +kernel
theorem dX8_foreseen_49 : decode cX8_foreseen 49 = .ok (.aload_n 0, 1) := by decide +kernel
theorem dX8_foreseen_50 : decode cX8_foreseen 50 = .ok (.getfield 16, 3) := by decide +kernel
theorem dX8_foreseen_53 : decode cX8_foreseen 53 = .ok (.iconst 0, 1) := by decide +kernel
theorem dX8_foreseen_54 : decode cX8_foreseen 54 = .ok (.aload_n 0, 1) := by decide +kernel
theorem dX8_foreseen_55 : decode cX8_foreseen 55 = .ok (.getfield 9, 3) := by decide +kernel
theorem dX8_foreseen_58 : decode cX8_foreseen 58 = .ok (.iconst 0, 1) := by decide +kernel
theorem dX8_foreseen_59 : decode cX8_foreseen 59 = .ok (.invokestatic 197, 3) := by decide +kernel
theorem dX8_foreseen_62 : decode cX8_foreseen 62 = .ok (.iload_n 1, 1) := by decide +kernel
theorem dX8_foreseen_63 : decode cX8_foreseen 63 = .ok (.ireturn, 1) := by decide +kernel
theorem dX8_boundOf_0 : decode cX8_boundOf 0 = .ok (.iconst 0, 1) := by decide +kernel
theorem dX8_boundOf_1 : decode cX8_boundOf 1 = .ok (.istore_n 1, 1) := by decide +kernel
theorem dX8_boundOf_2 : decode cX8_boundOf 2 = .ok (.iconst 0, 1) := by decide +kernel
theorem dX8_boundOf_3 : decode cX8_boundOf 3 = .ok (.istore_n 2, 1) := by decide +kernel
theorem dX8_boundOf_4 : decode cX8_boundOf 4 = .ok (.iload_n 2, 1) := by decide +kernel
theorem dX8_boundOf_5 : decode cX8_boundOf 5 = .ok (.aload_n 0, 1) := by decide +kernel
theorem dX8_boundOf_6 : decode cX8_boundOf 6 = .ok (.getfield 9, 3) := by decide +kernel
theorem dX8_boundOf_9 : decode cX8_boundOf 9 = .ok (.iconst 0, 1) := by decide +kernel
theorem dX8_boundOf_10 : decode cX8_boundOf 10 = .ok (.iaload, 1) := by decide +kernel
theorem dX8_boundOf_11 : decode cX8_boundOf 11 = .ok (.if_icmp .ge 53, 3) := by decide +kernel
theorem dX8_boundOf_14 : decode cX8_boundOf 14 = .ok (.aload_n 0, 1) := by decide +kernel
theorem dX8_boundOf_15 : decode cX8_boundOf 15 = .ok (.getfield 9, 3) := by decide +kernel
theorem dX8_boundOf_18 : decode cX8_boundOf 18 = .ok (.bipush 14, 2) := by decide +kernel
theorem dX8_boundOf_20 : decode cX8_boundOf 20 = .ok (.iload_n 2, 1) := by decide +kernel
theorem dX8_boundOf_21 : decode cX8_boundOf 21 = .ok (.iadd, 1) := by decide +kernel
theorem dX8_boundOf_22 : decode cX8_boundOf 22 = .ok (.iaload, 1) := by decide +kernel
theorem dX8_boundOf_23 : decode cX8_boundOf 23 = .ok (.istore_n 3, 1) := by decide +kernel
theorem dX8_boundOf_24 : decode cX8_boundOf 24 = .ok (.iload_n 3, 1) := by decide +kernel
theorem dX8_boundOf_25 : decode cX8_boundOf 25 = .ok (.aload_n 0, 1) := by decide +kernel
theorem dX8_boundOf_26 : decode cX8_boundOf 26 = .ok (.getfield 9, 3) := by decide +kernel
theorem dX8_boundOf_29 : decode cX8_boundOf 29 = .ok (.iconst 1, 1) := by decide +kernel
theorem dX8_boundOf_30 : decode cX8_boundOf 30 = .ok (.iaload, 1) := by decide +kernel
theorem dX8_boundOf_31 : decode cX8_boundOf 31 = .ok (.if_icmp .ge 23, 3) := by decide +kernel
theorem dX8_boundOf_34 : decode cX8_boundOf 34 = .ok (.aload_n 0, 1) := by decide +kernel
theorem dX8_boundOf_35 : decode cX8_boundOf 35 = .ok (.iload_n 2, 1) := by decide +kernel
theorem dX8_boundOf_36 : decode cX8_boundOf 36 = .ok (.iload_n 3, 1) := by decide +kernel
theorem dX8_boundOf_37 : decode cX8_boundOf 37 = .ok (.iconst 1, 1) := by decide +kernel
theorem dX8_boundOf_38 : decode cX8_boundOf 38 = .ok (.iadd, 1) := by decide +kernel
theorem dX8_boundOf_39 : decode cX8_boundOf 39 = .ok (.invokestatic 136, 3) := by decide +kernel
theorem dX8_boundOf_42 : decode cX8_boundOf 42 = .ok (.invokevirtual 232, 3) := by decide +kernel
theorem dX8_boundOf_45 : decode cX8_boundOf 45 = .ok (.ifCond .ne 9, 3) := by decide +kernel
theorem dX8_boundOf_48 : decode cX8_boundOf 48 = .ok (.iinc 3 1, 3) := by decide +kernel
theorem dX8_boundOf_51 : decode cX8_boundOf 51 = .ok (.goto (-27), 3) := by decide +kernel
theorem dX8_boundOf_54 : decode cX8_boundOf 54 = .ok (.iload_n 1, 1) := by decide +kernel
theorem dX8_boundOf_55 : decode cX8_boundOf 55 = .ok (.iload_n 3, 1) := by decide +kernel
theorem dX8_boundOf_56 : decode cX8_boundOf 56 = .ok (.iadd, 1) := by decide +kernel
theorem dX8_boundOf_57 : decode cX8_boundOf 57 = .ok (.istore_n 1, 1) := by decide +kernel
theorem dX8_boundOf_58 : decode cX8_boundOf 58 = .ok (.iinc 2 1, 3) := by decide +kernel
theorem dX8_boundOf_61 : decode cX8_boundOf 61 = .ok (.goto (-57), 3) := by decide +kernel
theorem dX8_boundOf_64 : decode cX8_boundOf 64 = .ok (.iload_n 1, 1) := by decide +kernel
theorem dX8_boundOf_65 : decode cX8_boundOf 65 = .ok (.ireturn, 1) := by decide +kernel
theorem dX8_bound_0 : decode cX8_bound 0 = .ok (.aload_n 0, 1) := by decide +kernel
theorem dX8_bound_1 : decode cX8_bound 1 = .ok (.iconst 0, 1) := by decide +kernel
theorem dX8_bound_2 : decode cX8_bound 2 = .ok (.putfield 59, 3) := by decide +kernel
theorem dX8_bound_5 : decode cX8_bound 5 = .ok (.aload_n 0, 1) := by decide +kernel
theorem dX8_bound_6 : decode cX8_bound 6 = .ok (.invokevirtual 337, 3) := by decide +kernel
theorem dX8_bound_9 : decode cX8_bound 9 = .ok (.ireturn, 1) := by decide +kernel
theorem dX8_pace_0 : decode cX8_pace 0 = .ok (.aload_n 0, 1) := by decide +kernel
theorem dX8_pace_1 : decode cX8_pace 1 = .ok (.iconst 0, 1) := by decide +kernel
theorem dX8_pace_2 : decode cX8_pace 2 = .ok (.putfield 59, 3) := by decide +kernel
theorem dX8_pace_5 : decode cX8_pace 5 = .ok (.aload_n 0, 1) := by decide +kernel
theorem dX8_pace_6 : decode cX8_pace 6 = .ok (.invokevirtual 210, 3) := by decide +kernel
theorem dX8_pace_9 : decode cX8_pace 9 = .ok (.aload_n 0, 1) := by decide +kernel
theorem dX8_pace_10 : decode cX8_pace 10 = .ok (.getfield 9, 3) := by decide +kernel
theorem dX8_pace_13 : decode cX8_pace 13 = .ok (.iconst 4, 1) := by decide +kernel
theorem dX8_pace_14 : decode cX8_pace 14 = .ok (.iaload, 1) := by decide +kernel
theorem dX8_pace_15 : decode cX8_pace 15 = .ok (.iadd, 1) := by decide +kernel
theorem dX8_pace_16 : decode cX8_pace 16 = .ok (.aload_n 0, 1) := by decide +kernel
theorem dX8_pace_17 : decode cX8_pace 17 = .ok (.getfield 9, 3) := by decide +kernel
theorem dX8_pace_20 : decode cX8_pace 20 = .ok (.iconst 5, 1) := by decide +kernel
theorem dX8_pace_21 : decode cX8_pace 21 = .ok (.iaload, 1) := by decide +kernel
theorem dX8_pace_22 : decode cX8_pace 22 = .ok (.isub, 1) := by decide +kernel
theorem dX8_pace_23 : decode cX8_pace 23 = .ok (.aload_n 0, 1) := by decide +kernel
theorem dX8_pace_24 : decode cX8_pace 24 = .ok (.getfield 9, 3) := by decide +kernel
theorem dX8_pace_27 : decode cX8_pace 27 = .ok (.iconst 2, 1) := by decide +kernel
theorem dX8_pace_28 : decode cX8_pace 28 = .ok (.iaload, 1) := by decide +kernel
theorem dX8_pace_29 : decode cX8_pace 29 = .ok (.iadd, 1) := by decide +kernel
theorem dX8_pace_30 : decode cX8_pace 30 = .ok (.aload_n 0, 1) := by decide +kernel
theorem dX8_pace_31 : decode cX8_pace 31 = .ok (.invokevirtual 337, 3) := by decide +kernel
theorem dX8_pace_34 : decode cX8_pace 34 = .ok (.isub, 1) := by decide +kernel
theorem dX8_pace_35 : decode cX8_pace 35 = .ok (.ireturn, 1) := by decide +kernel
theorem dX8_packed_0 : decode cX8_packed 0 = .ok (.aload_n 0, 1) := by decide +kernel
theorem dX8_packed_1 : decode cX8_packed 1 = .ok (.getfield 340, 3) := by decide +kernel
theorem dX8_packed_4 : decode cX8_packed 4 = .ok (.iconst 1, 1) := by decide +kernel
theorem dX8_packed_5 : decode cX8_packed 5 = .ok (.iadd, 1) := by decide +kernel
theorem dX8_packed_6 : decode cX8_packed 6 = .ok (.istore_n 1, 1) := by decide +kernel
theorem dX8_packed_7 : decode cX8_packed 7 = .ok (.iconst 4, 1) := by decide +kernel
theorem dX8_packed_8 : decode cX8_packed 8 = .ok (.iload_n 1, 1) := by decide +kernel
theorem dX8_packed_9 : decode cX8_packed 9 = .ok (.imul, 1) := by decide +kernel
theorem dX8_packed_10 : decode cX8_packed 10 = .ok (.aload_n 0, 1) := by decide +kernel
theorem dX8_packed_11 : decode cX8_packed 11 = .ok (.getfield 343, 3) := by decide +kernel
theorem dX8_packed_14 : decode cX8_packed 14 = .ok (.iadd, 1) := by decide +kernel
theorem dX8_packed_15 : decode cX8_packed 15 = .ok (.istore_n 1, 1) := by decide +kernel
theorem dX8_packed_16 : decode cX8_packed 16 = .ok (.bipush 64, 2) := by decide +kernel
theorem dX8_packed_18 : decode cX8_packed 18 = .ok (.iload_n 1, 1) := by decide +kernel
theorem dX8_packed_19 : decode cX8_packed 19 = .ok (.imul, 1) := by decide +kernel
theorem dX8_packed_20 : decode cX8_packed 20 = .ok (.aload_n 0, 1) := by decide +kernel
theorem dX8_packed_21 : decode cX8_packed 21 = .ok (.getfield 346, 3) := by decide +kernel
theorem dX8_packed_24 : decode cX8_packed 24 = .ok (.iadd, 1) := by decide +kernel
theorem dX8_packed_25 : decode cX8_packed 25 = .ok (.istore_n 1, 1) := by decide +kernel
theorem dX8_packed_26 : decode cX8_packed 26 = .ok (.bipush 16, 2) := by decide +kernel
theorem dX8_packed_28 : decode cX8_packed 28 = .ok (.iload_n 1, 1) := by decide +kernel
theorem dX8_packed_29 : decode cX8_packed 29 = .ok (.imul, 1) := by decide +kernel
theorem dX8_packed_30 : decode cX8_packed 30 = .ok (.aload_n 0, 1) := by decide +kernel
theorem dX8_packed_31 : decode cX8_packed 31 = .ok (.getfield 349, 3) := by decide +kernel
theorem dX8_packed_34 : decode cX8_packed 34 = .ok (.iadd, 1) := by decide +kernel
theorem dX8_packed_35 : decode cX8_packed 35 = .ok (.istore_n 1, 1) := by decide +kernel
theorem dX8_packed_36 : decode cX8_packed 36 = .ok (.iconst 0, 1) := by decide +kernel
theorem dX8_packed_37 : decode cX8_packed 37 = .ok (.istore_n 2, 1) := by decide +kernel
theorem dX8_packed_38 : decode cX8_packed 38 = .ok (.iload_n 2, 1) := by decide +kernel
theorem dX8_packed_39 : decode cX8_packed 39 = .ok (.iconst 4, 1) := by decide +kernel
theorem dX8_packed_40 : decode cX8_packed 40 = .ok (.if_icmp .ge 21, 3) := by decide +kernel
theorem dX8_packed_43 : decode cX8_packed 43 = .ok (.bipush 8, 2) := by decide +kernel
theorem dX8_packed_45 : decode cX8_packed 45 = .ok (.iload_n 1, 1) := by decide +kernel
theorem dX8_packed_46 : decode cX8_packed 46 = .ok (.imul, 1) := by decide +kernel
theorem dX8_packed_47 : decode cX8_packed 47 = .ok (.aload_n 0, 1) := by decide +kernel
theorem dX8_packed_48 : decode cX8_packed 48 = .ok (.getfield 53, 3) := by decide +kernel
theorem dX8_packed_51 : decode cX8_packed 51 = .ok (.iload_n 2, 1) := by decide +kernel
theorem dX8_packed_52 : decode cX8_packed 52 = .ok (.iaload, 1) := by decide +kernel
theorem dX8_packed_53 : decode cX8_packed 53 = .ok (.iadd, 1) := by decide +kernel
theorem dX8_packed_54 : decode cX8_packed 54 = .ok (.istore_n 1, 1) := by decide +kernel
theorem dX8_packed_55 : decode cX8_packed 55 = .ok (.iinc 2 1, 3) := by decide +kernel
theorem dX8_packed_58 : decode cX8_packed 58 = .ok (.goto (-20), 3) := by decide +kernel
theorem dX8_packed_61 : decode cX8_packed 61 = .ok (.iload_n 1, 1) := by decide +kernel
theorem dX8_packed_62 : decode cX8_packed 62 = .ok (.ireturn, 1) := by decide +kernel
theorem dX8_unpacks_0 : decode cX8_unpacks 0 = .ok (.aload_n 0, 1) := by decide +kernel
theorem dX8_unpacks_1 : decode cX8_unpacks 1 = .ok (.getfield 44, 3) := by decide +kernel
theorem dX8_unpacks_4 : decode cX8_unpacks 4 = .ok (.iload_n 1, 1) := by decide +kernel
theorem dX8_unpacks_5 : decode cX8_unpacks 5 = .ok (.iaload, 1) := by decide +kernel
theorem dX8_unpacks_6 : decode cX8_unpacks 6 = .ok (.istore_n 2, 1) := by decide +kernel
theorem dX8_unpacks_7 : decode cX8_unpacks 7 = .ok (.iconst 3, 1) := by decide +kernel
theorem dX8_unpacks_8 : decode cX8_unpacks 8 = .ok (.istore_n 3, 1) := by decide +kernel
theorem dX8_unpacks_9 : decode cX8_unpacks 9 = .ok (.iload_n 3, 1) := by decide +kernel
theorem dX8_unpacks_10 : decode cX8_unpacks 10 = .ok (.ifCond .lt 24, 3) := by decide +kernel
theorem dX8_unpacks_13 : decode cX8_unpacks 13 = .ok (.aload_n 0, 1) := by decide +kernel
theorem dX8_unpacks_14 : decode cX8_unpacks 14 = .ok (.getfield 53, 3) := by decide +kernel
theorem dX8_unpacks_17 : decode cX8_unpacks 17 = .ok (.iload_n 3, 1) := by decide +kernel
theorem dX8_unpacks_18 : decode cX8_unpacks 18 = .ok (.iload_n 2, 1) := by decide +kernel
theorem dX8_unpacks_19 : decode cX8_unpacks 19 = .ok (.bipush 8, 2) := by decide +kernel
theorem dX8_unpacks_21 : decode cX8_unpacks 21 = .ok (.irem, 1) := by decide +kernel
theorem dX8_unpacks_22 : decode cX8_unpacks 22 = .ok (.iastore, 1) := by decide +kernel
theorem dX8_unpacks_23 : decode cX8_unpacks 23 = .ok (.iload_n 2, 1) := by decide +kernel
theorem dX8_unpacks_24 : decode cX8_unpacks 24 = .ok (.bipush 8, 2) := by decide +kernel
theorem dX8_unpacks_26 : decode cX8_unpacks 26 = .ok (.idiv, 1) := by decide +kernel
theorem dX8_unpacks_27 : decode cX8_unpacks 27 = .ok (.istore_n 2, 1) := by decide +kernel
theorem dX8_unpacks_28 : decode cX8_unpacks 28 = .ok (.iinc 3 (-1), 3) := by decide +kernel
theorem dX8_unpacks_31 : decode cX8_unpacks 31 = .ok (.goto (-22), 3) := by decide +kernel
theorem dX8_unpacks_34 : decode cX8_unpacks 34 = .ok (.aload_n 0, 1) := by decide +kernel
theorem dX8_unpacks_35 : decode cX8_unpacks 35 = .ok (.iload_n 2, 1) := by decide +kernel
theorem dX8_unpacks_36 : decode cX8_unpacks 36 = .ok (.bipush 16, 2) := by decide +kernel
theorem dX8_unpacks_38 : decode cX8_unpacks 38 = .ok (.irem, 1) := by decide +kernel
theorem dX8_unpacks_39 : decode cX8_unpacks 39 = .ok (.putfield 349, 3) := by decide +kernel
theorem dX8_unpacks_42 : decode cX8_unpacks 42 = .ok (.aload_n 0, 1) := by decide +kernel
theorem dX8_unpacks_43 : decode cX8_unpacks 43 = .ok (.iload_n 2, 1) := by decide +kernel
theorem dX8_unpacks_44 : decode cX8_unpacks 44 = .ok (.bipush 16, 2) := by decide +kernel
theorem dX8_unpacks_46 : decode cX8_unpacks 46 = .ok (.idiv, 1) := by decide +kernel
theorem dX8_unpacks_47 : decode cX8_unpacks 47 = .ok (.bipush 64, 2) := by decide +kernel
theorem dX8_unpacks_49 : decode cX8_unpacks 49 = .ok (.irem, 1) := by decide +kernel
theorem dX8_unpacks_50 : decode cX8_unpacks 50 = .ok (.putfield 346, 3) := by decide +kernel
theorem dX8_unpacks_53 : decode cX8_unpacks 53 = .ok (.aload_n 0, 1) := by decide +kernel
theorem dX8_unpacks_54 : decode cX8_unpacks 54 = .ok (.iload_n 2, 1) := by decide +kernel
theorem dX8_unpacks_55 : decode cX8_unpacks 55 = .ok (.sipush 1024, 3) := by decide +kernel
theorem dX8_unpacks_58 : decode cX8_unpacks 58 = .ok (.idiv, 1) := by decide +kernel
theorem dX8_unpacks_59 : decode cX8_unpacks 59 = .ok (.iconst 4, 1) := by decide +kernel
theorem dX8_unpacks_60 : decode cX8_unpacks 60 = .ok (.irem, 1) := by decide +kernel
theorem dX8_unpacks_61 : decode cX8_unpacks 61 = .ok (.putfield 343, 3) := by decide +kernel
theorem dX8_unpacks_64 : decode cX8_unpacks 64 = .ok (.aload_n 0, 1) := by decide +kernel
theorem dX8_unpacks_65 : decode cX8_unpacks 65 = .ok (.iload_n 2, 1) := by decide +kernel
theorem dX8_unpacks_66 : decode cX8_unpacks 66 = .ok (.sipush 4096, 3) := by decide +kernel
theorem dX8_unpacks_69 : decode cX8_unpacks 69 = .ok (.idiv, 1) := by decide +kernel
theorem dX8_unpacks_70 : decode cX8_unpacks 70 = .ok (.iconst 1, 1) := by decide +kernel
theorem dX8_unpacks_71 : decode cX8_unpacks 71 = .ok (.isub, 1) := by decide +kernel
theorem dX8_unpacks_72 : decode cX8_unpacks 72 = .ok (.putfield 340, 3) := by decide +kernel
theorem dX8_unpacks_75 : decode cX8_unpacks 75 = .ok (.iconst 0, 1) := by decide +kernel
theorem dX8_unpacks_76 : decode cX8_unpacks 76 = .ok (.istore_n 3, 1) := by decide +kernel
theorem dX8_unpacks_77 : decode cX8_unpacks 77 = .ok (.iload_n 3, 1) := by decide +kernel
theorem dX8_unpacks_78 : decode cX8_unpacks 78 = .ok (.iconst 4, 1) := by decide +kernel
theorem dX8_unpacks_79 : decode cX8_unpacks 79 = .ok (.if_icmp .ge 25, 3) := by decide +kernel
theorem dX8_unpacks_82 : decode cX8_unpacks 82 = .ok (.aload_n 0, 1) := by decide +kernel
theorem dX8_unpacks_83 : decode cX8_unpacks 83 = .ok (.getfield 50, 3) := by decide +kernel
theorem dX8_unpacks_86 : decode cX8_unpacks 86 = .ok (.iload_n 3, 1) := by decide +kernel
theorem dX8_unpacks_87 : decode cX8_unpacks 87 = .ok (.aload_n 0, 1) := by decide +kernel
theorem dX8_unpacks_88 : decode cX8_unpacks 88 = .ok (.getfield 40, 3) := by decide +kernel
theorem dX8_unpacks_91 : decode cX8_unpacks 91 = .ok (.iconst 4, 1) := by decide +kernel
theorem dX8_unpacks_92 : decode cX8_unpacks 92 = .ok (.iload_n 1, 1) := by decide +kernel
theorem dX8_unpacks_93 : decode cX8_unpacks 93 = .ok (.imul, 1) := by decide +kernel
theorem dX8_unpacks_94 : decode cX8_unpacks 94 = .ok (.iload_n 3, 1) := by decide +kernel
theorem dX8_unpacks_95 : decode cX8_unpacks 95 = .ok (.iadd, 1) := by decide +kernel
theorem dX8_unpacks_96 : decode cX8_unpacks 96 = .ok (.laload, 1) := by decide +kernel
theorem dX8_unpacks_97 : decode cX8_unpacks 97 = .ok (.lastore, 1) := by decide +kernel
theorem dX8_unpacks_98 : decode cX8_unpacks 98 = .ok (.iinc 3 1, 3) := by decide +kernel
theorem dX8_unpacks_101 : decode cX8_unpacks 101 = .ok (.goto (-24), 3) := by decide +kernel
theorem dX8_unpacks_104 : decode cX8_unpacks 104 = .ok (.return_, 1) := by decide +kernel
theorem dX8_isSame_0 : decode cX8_isSame 0 = .ok (.aload_n 0, 1) := by decide +kernel
theorem dX8_isSame_1 : decode cX8_isSame 1 = .ok (.getfield 44, 3) := by decide +kernel
theorem dX8_isSame_4 : decode cX8_isSame 4 = .ok (.iload_n 1, 1) := by decide +kernel
theorem dX8_isSame_5 : decode cX8_isSame 5 = .ok (.iaload, 1) := by decide +kernel
theorem dX8_isSame_6 : decode cX8_isSame 6 = .ok (.iload_n 2, 1) := by decide +kernel
theorem dX8_isSame_7 : decode cX8_isSame 7 = .ok (.if_icmp .ne 7, 3) := by decide +kernel
theorem dX8_isSame_10 : decode cX8_isSame 10 = .ok (.iconst 1, 1) := by decide +kernel
theorem dX8_isSame_11 : decode cX8_isSame 11 = .ok (.goto 4, 3) := by decide +kernel
theorem dX8_isSame_14 : decode cX8_isSame 14 = .ok (.iconst 0, 1) := by decide +kernel
theorem dX8_isSame_15 : decode cX8_isSame 15 = .ok (.istore_n 3, 1) := by decide +kernel
theorem dX8_isSame_16 : decode cX8_isSame 16 = .ok (.iconst 0, 1) := by decide +kernel
theorem dX8_isSame_17 : decode cX8_isSame 17 = .ok (.istore 4, 2) := by decide +kernel
theorem dX8_isSame_19 : decode cX8_isSame 19 = .ok (.iload 4, 2) := by decide +kernel
theorem dX8_isSame_21 : decode cX8_isSame 21 = .ok (.iconst 4, 1) := by decide +kernel
theorem dX8_isSame_22 : decode cX8_isSame 22 = .ok (.if_icmp .ge 41, 3) := by decide +kernel
theorem dX8_isSame_25 : decode cX8_isSame 25 = .ok (.iload_n 3, 1) := by decide +kernel
theorem dX8_isSame_26 : decode cX8_isSame 26 = .ok (.ifCond .eq 37, 3) := by decide +kernel
theorem dX8_isSame_29 : decode cX8_isSame 29 = .ok (.aload_n 0, 1) := by decide +kernel
theorem dX8_isSame_30 : decode cX8_isSame 30 = .ok (.getfield 40, 3) := by decide +kernel
theorem dX8_isSame_33 : decode cX8_isSame 33 = .ok (.iconst 4, 1) := by decide +kernel
theorem dX8_isSame_34 : decode cX8_isSame 34 = .ok (.iload_n 1, 1) := by decide +kernel
theorem dX8_isSame_35 : decode cX8_isSame 35 = .ok (.imul, 1) := by decide +kernel
theorem dX8_isSame_36 : decode cX8_isSame 36 = .ok (.iload 4, 2) := by decide +kernel
theorem dX8_isSame_38 : decode cX8_isSame 38 = .ok (.iadd, 1) := by decide +kernel
theorem dX8_isSame_39 : decode cX8_isSame 39 = .ok (.laload, 1) := by decide +kernel
theorem dX8_isSame_40 : decode cX8_isSame 40 = .ok (.aload_n 0, 1) := by decide +kernel
theorem dX8_isSame_41 : decode cX8_isSame 41 = .ok (.getfield 50, 3) := by decide +kernel
theorem dX8_isSame_44 : decode cX8_isSame 44 = .ok (.iload 4, 2) := by decide +kernel
theorem dX8_isSame_46 : decode cX8_isSame 46 = .ok (.laload, 1) := by decide +kernel
theorem dX8_isSame_47 : decode cX8_isSame 47 = .ok (.lcmp, 1) := by decide +kernel
theorem dX8_isSame_48 : decode cX8_isSame 48 = .ok (.ifCond .ne 7, 3) := by decide +kernel
theorem dX8_isSame_51 : decode cX8_isSame 51 = .ok (.iconst 1, 1) := by decide +kernel
theorem dX8_isSame_52 : decode cX8_isSame 52 = .ok (.goto 4, 3) := by decide +kernel
theorem dX8_isSame_55 : decode cX8_isSame 55 = .ok (.iconst 0, 1) := by decide +kernel
theorem dX8_isSame_56 : decode cX8_isSame 56 = .ok (.istore_n 3, 1) := by decide +kernel
theorem dX8_isSame_57 : decode cX8_isSame 57 = .ok (.iinc 4 1, 3) := by decide +kernel
theorem dX8_isSame_60 : decode cX8_isSame 60 = .ok (.goto (-41), 3) := by decide +kernel
theorem dX8_isSame_63 : decode cX8_isSame 63 = .ok (.iload_n 3, 1) := by decide +kernel
theorem dX8_isSame_64 : decode cX8_isSame 64 = .ok (.ireturn, 1) := by decide +kernel
theorem dX8_adds_0 : decode cX8_adds 0 = .ok (.aload_n 0, 1) := by decide +kernel
theorem dX8_adds_1 : decode cX8_adds 1 = .ok (.invokevirtual 351, 3) := by decide +kernel
theorem dX8_adds_4 : decode cX8_adds 4 = .ok (.istore_n 1, 1) := by decide +kernel
theorem dX8_adds_5 : decode cX8_adds 5 = .ok (.iload_n 1, 1) := by decide +kernel
theorem dX8_adds_6 : decode cX8_adds 6 = .ok (.i2l, 1) := by decide +kernel
theorem dX8_adds_7 : decode cX8_adds 7 = .ok (.lstore_n 2, 1) := by decide +kernel
theorem dX8_adds_8 : decode cX8_adds 8 = .ok (.iconst 0, 1) := by decide +kernel
theorem dX8_adds_9 : decode cX8_adds 9 = .ok (.istore 4, 2) := by decide +kernel
theorem dX8_adds_11 : decode cX8_adds 11 = .ok (.iload 4, 2) := by decide +kernel
theorem dX8_adds_13 : decode cX8_adds 13 = .ok (.iconst 4, 1) := by decide +kernel
theorem dX8_adds_14 : decode cX8_adds 14 = .ok (.if_icmp .ge 23, 3) := by decide +kernel
theorem dX8_adds_17 : decode cX8_adds 17 = .ok (.lload_n 2, 1) := by decide +kernel
theorem dX8_adds_18 : decode cX8_adds 18 = .ok (.ldc2_w 354, 3) := by decide +kernel
theorem dX8_adds_21 : decode cX8_adds 21 = .ok (.lmul, 1) := by decide +kernel
theorem dX8_adds_22 : decode cX8_adds 22 = .ok (.aload_n 0, 1) := by decide +kernel
theorem dX8_adds_23 : decode cX8_adds 23 = .ok (.getfield 50, 3) := by decide +kernel
theorem dX8_adds_26 : decode cX8_adds 26 = .ok (.iload 4, 2) := by decide +kernel
theorem dX8_adds_28 : decode cX8_adds 28 = .ok (.laload, 1) := by decide +kernel
theorem dX8_adds_29 : decode cX8_adds 29 = .ok (.ladd, 1) := by decide +kernel
theorem dX8_adds_30 : decode cX8_adds 30 = .ok (.lstore_n 2, 1) := by decide +kernel
theorem dX8_adds_31 : decode cX8_adds 31 = .ok (.iinc 4 1, 3) := by decide +kernel
theorem dX8_adds_34 : decode cX8_adds 34 = .ok (.goto (-23), 3) := by decide +kernel
theorem dX8_adds_37 : decode cX8_adds 37 = .ok (.lload_n 2, 1) := by decide +kernel
theorem dX8_adds_38 : decode cX8_adds 38 = .ok (.ldc2_w 356, 3) := by decide +kernel
theorem dX8_adds_41 : decode cX8_adds 41 = .ok (.lmul, 1) := by decide +kernel
theorem dX8_adds_42 : decode cX8_adds 42 = .ok (.bipush 40, 2) := by decide +kernel
theorem dX8_adds_44 : decode cX8_adds 44 = .ok (.lushr, 1) := by decide +kernel
theorem dX8_adds_45 : decode cX8_adds 45 = .ok (.l2i, 1) := by decide +kernel
theorem dX8_adds_46 : decode cX8_adds 46 = .ok (.sipush 16383, 3) := by decide +kernel
theorem dX8_adds_49 : decode cX8_adds 49 = .ok (.iand, 1) := by decide +kernel
theorem dX8_adds_50 : decode cX8_adds 50 = .ok (.istore 4, 2) := by decide +kernel
theorem dX8_adds_52 : decode cX8_adds 52 = .ok (.aload_n 0, 1) := by decide +kernel
theorem dX8_adds_53 : decode cX8_adds 53 = .ok (.getfield 47, 3) := by decide +kernel
theorem dX8_adds_56 : decode cX8_adds 56 = .ok (.iload 4, 2) := by decide +kernel
theorem dX8_adds_58 : decode cX8_adds 58 = .ok (.iaload, 1) := by decide +kernel
theorem dX8_adds_59 : decode cX8_adds 59 = .ok (.iconst (-1), 1) := by decide +kernel
theorem dX8_adds_60 : decode cX8_adds 60 = .ok (.if_icmp .eq 31, 3) := by decide +kernel
theorem dX8_adds_63 : decode cX8_adds 63 = .ok (.aload_n 0, 1) := by decide +kernel
theorem dX8_adds_64 : decode cX8_adds 64 = .ok (.aload_n 0, 1) := by decide +kernel
theorem dX8_adds_65 : decode cX8_adds 65 = .ok (.getfield 47, 3) := by decide +kernel
theorem dX8_adds_68 : decode cX8_adds 68 = .ok (.iload 4, 2) := by decide +kernel
theorem dX8_adds_70 : decode cX8_adds 70 = .ok (.iaload, 1) := by decide +kernel
theorem dX8_adds_71 : decode cX8_adds 71 = .ok (.iload_n 1, 1) := by decide +kernel
theorem dX8_adds_72 : decode cX8_adds 72 = .ok (.invokevirtual 358, 3) := by decide +kernel
theorem dX8_adds_75 : decode cX8_adds 75 = .ok (.ifCond .ne 16, 3) := by decide +kernel
theorem dX8_adds_78 : decode cX8_adds 78 = .ok (.iload 4, 2) := by decide +kernel
theorem dX8_adds_80 : decode cX8_adds 80 = .ok (.iconst 1, 1) := by decide +kernel
theorem dX8_adds_81 : decode cX8_adds 81 = .ok (.iadd, 1) := by decide +kernel
theorem dX8_adds_82 : decode cX8_adds 82 = .ok (.sipush 16383, 3) := by decide +kernel
theorem dX8_adds_85 : decode cX8_adds 85 = .ok (.iand, 1) := by decide +kernel
theorem dX8_adds_86 : decode cX8_adds 86 = .ok (.istore 4, 2) := by decide +kernel
theorem dX8_adds_88 : decode cX8_adds 88 = .ok (.goto (-36), 3) := by decide +kernel
theorem dX8_adds_91 : decode cX8_adds 91 = .ok (.aload_n 0, 1) := by decide +kernel
theorem dX8_adds_92 : decode cX8_adds 92 = .ok (.getfield 47, 3) := by decide +kernel
theorem dX8_adds_95 : decode cX8_adds 95 = .ok (.iload 4, 2) := by decide +kernel
theorem dX8_adds_97 : decode cX8_adds 97 = .ok (.iaload, 1) := by decide +kernel
theorem dX8_adds_98 : decode cX8_adds 98 = .ok (.iconst (-1), 1) := by decide +kernel
theorem dX8_adds_99 : decode cX8_adds 99 = .ok (.if_icmp .eq 4, 3) := by decide +kernel
theorem dX8_adds_102 : decode cX8_adds 102 = .ok (.return_, 1) := by decide +kernel
theorem dX8_adds_103 : decode cX8_adds 103 = .ok (.aload_n 0, 1) := by decide +kernel
theorem dX8_adds_104 : decode cX8_adds 104 = .ok (.getfield 47, 3) := by decide +kernel
theorem dX8_adds_107 : decode cX8_adds 107 = .ok (.iload 4, 2) := by decide +kernel
theorem dX8_adds_109 : decode cX8_adds 109 = .ok (.aload_n 0, 1) := by decide +kernel
theorem dX8_adds_110 : decode cX8_adds 110 = .ok (.getfield 361, 3) := by decide +kernel
theorem dX8_adds_113 : decode cX8_adds 113 = .ok (.iastore, 1) := by decide +kernel
theorem dX8_adds_114 : decode cX8_adds 114 = .ok (.aload_n 0, 1) := by decide +kernel
theorem dX8_adds_115 : decode cX8_adds 115 = .ok (.getfield 44, 3) := by decide +kernel
theorem dX8_adds_118 : decode cX8_adds 118 = .ok (.aload_n 0, 1) := by decide +kernel
theorem dX8_adds_119 : decode cX8_adds 119 = .ok (.getfield 361, 3) := by decide +kernel
theorem dX8_adds_122 : decode cX8_adds 122 = .ok (.iload_n 1, 1) := by decide +kernel
theorem dX8_adds_123 : decode cX8_adds 123 = .ok (.iastore, 1) := by decide +kernel
theorem dX8_adds_124 : decode cX8_adds 124 = .ok (.iconst 0, 1) := by decide +kernel
theorem dX8_adds_125 : decode cX8_adds 125 = .ok (.istore 5, 2) := by decide +kernel
theorem dX8_adds_127 : decode cX8_adds 127 = .ok (.iload 5, 2) := by decide +kernel
theorem dX8_adds_129 : decode cX8_adds 129 = .ok (.iconst 4, 1) := by decide +kernel
theorem dX8_adds_130 : decode cX8_adds 130 = .ok (.if_icmp .ge 30, 3) := by decide +kernel
theorem dX8_adds_133 : decode cX8_adds 133 = .ok (.aload_n 0, 1) := by decide +kernel
theorem dX8_adds_134 : decode cX8_adds 134 = .ok (.getfield 40, 3) := by decide +kernel
theorem dX8_adds_137 : decode cX8_adds 137 = .ok (.iconst 4, 1) := by decide +kernel
theorem dX8_adds_138 : decode cX8_adds 138 = .ok (.aload_n 0, 1) := by decide +kernel
theorem dX8_adds_139 : decode cX8_adds 139 = .ok (.getfield 361, 3) := by decide +kernel
theorem dX8_adds_142 : decode cX8_adds 142 = .ok (.imul, 1) := by decide +kernel
theorem dX8_adds_143 : decode cX8_adds 143 = .ok (.iload 5, 2) := by decide +kernel
theorem dX8_adds_145 : decode cX8_adds 145 = .ok (.iadd, 1) := by decide +kernel
theorem dX8_adds_146 : decode cX8_adds 146 = .ok (.aload_n 0, 1) := by decide +kernel
theorem dX8_adds_147 : decode cX8_adds 147 = .ok (.getfield 50, 3) := by decide +kernel
theorem dX8_adds_150 : decode cX8_adds 150 = .ok (.iload 5, 2) := by decide +kernel
theorem dX8_adds_152 : decode cX8_adds 152 = .ok (.laload, 1) := by decide +kernel
theorem dX8_adds_153 : decode cX8_adds 153 = .ok (.lastore, 1) := by decide +kernel
theorem dX8_adds_154 : decode cX8_adds 154 = .ok (.iinc 5 1, 3) := by decide +kernel
theorem dX8_adds_157 : decode cX8_adds 157 = .ok (.goto (-30), 3) := by decide +kernel
theorem dX8_adds_160 : decode cX8_adds 160 = .ok (.aload_n 0, 1) := by decide +kernel
theorem dX8_adds_161 : decode cX8_adds 161 = .ok (.dup, 1) := by decide +kernel
theorem dX8_adds_162 : decode cX8_adds 162 = .ok (.getfield 361, 3) := by decide +kernel
theorem dX8_adds_165 : decode cX8_adds 165 = .ok (.iconst 1, 1) := by decide +kernel
theorem dX8_adds_166 : decode cX8_adds 166 = .ok (.iadd, 1) := by decide +kernel
theorem dX8_adds_167 : decode cX8_adds 167 = .ok (.putfield 361, 3) := by decide +kernel
theorem dX8_adds_170 : decode cX8_adds 170 = .ok (.return_, 1) := by decide +kernel
theorem dX8_isFinal_0 : decode cX8_isFinal 0 = .ok (.iconst 1, 1) := by decide +kernel
theorem dX8_isFinal_1 : decode cX8_isFinal 1 = .ok (.istore_n 1, 1) := by decide +kernel
theorem dX8_isFinal_2 : decode cX8_isFinal 2 = .ok (.iconst 0, 1) := by decide +kernel
theorem dX8_isFinal_3 : decode cX8_isFinal 3 = .ok (.istore_n 2, 1) := by decide +kernel
theorem dX8_isFinal_4 : decode cX8_isFinal 4 = .ok (.iload_n 2, 1) := by decide +kernel
theorem dX8_isFinal_5 : decode cX8_isFinal 5 = .ok (.aload_n 0, 1) := by decide +kernel
theorem dX8_isFinal_6 : decode cX8_isFinal 6 = .ok (.getfield 9, 3) := by decide +kernel
theorem dX8_isFinal_9 : decode cX8_isFinal 9 = .ok (.iconst 0, 1) := by decide +kernel
theorem dX8_isFinal_10 : decode cX8_isFinal 10 = .ok (.iaload, 1) := by decide +kernel
theorem dX8_isFinal_11 : decode cX8_isFinal 11 = .ok (.if_icmp .ge 34, 3) := by decide +kernel
theorem dX8_isFinal_14 : decode cX8_isFinal 14 = .ok (.iload_n 1, 1) := by decide +kernel
theorem dX8_isFinal_15 : decode cX8_isFinal 15 = .ok (.ifCond .eq 22, 3) := by decide +kernel
theorem dX8_isFinal_18 : decode cX8_isFinal 18 = .ok (.aload_n 0, 1) := by decide +kernel
theorem dX8_isFinal_19 : decode cX8_isFinal 19 = .ok (.getfield 53, 3) := by decide +kernel
theorem dX8_isFinal_22 : decode cX8_isFinal 22 = .ok (.iload_n 2, 1) := by decide +kernel
theorem dX8_isFinal_23 : decode cX8_isFinal 23 = .ok (.iaload, 1) := by decide +kernel
theorem dX8_isFinal_24 : decode cX8_isFinal 24 = .ok (.aload_n 0, 1) := by decide +kernel
theorem dX8_isFinal_25 : decode cX8_isFinal 25 = .ok (.getfield 9, 3) := by decide +kernel
theorem dX8_isFinal_28 : decode cX8_isFinal 28 = .ok (.iconst 1, 1) := by decide +kernel
theorem dX8_isFinal_29 : decode cX8_isFinal 29 = .ok (.iaload, 1) := by decide +kernel
theorem dX8_isFinal_30 : decode cX8_isFinal 30 = .ok (.if_icmp .ne 7, 3) := by decide +kernel
theorem dX8_isFinal_33 : decode cX8_isFinal 33 = .ok (.iconst 1, 1) := by decide +kernel
theorem dX8_isFinal_34 : decode cX8_isFinal 34 = .ok (.goto 4, 3) := by decide +kernel
theorem dX8_isFinal_37 : decode cX8_isFinal 37 = .ok (.iconst 0, 1) := by decide +kernel
theorem dX8_isFinal_38 : decode cX8_isFinal 38 = .ok (.istore_n 1, 1) := by decide +kernel
theorem dX8_isFinal_39 : decode cX8_isFinal 39 = .ok (.iinc 2 1, 3) := by decide +kernel
theorem dX8_isFinal_42 : decode cX8_isFinal 42 = .ok (.goto (-38), 3) := by decide +kernel
theorem dX8_isFinal_45 : decode cX8_isFinal 45 = .ok (.iload_n 1, 1) := by decide +kernel
theorem dX8_isFinal_46 : decode cX8_isFinal 46 = .ok (.ifCond .ne 10, 3) := by decide +kernel
theorem dX8_isFinal_49 : decode cX8_isFinal 49 = .ok (.aload_n 0, 1) := by decide +kernel
theorem dX8_isFinal_50 : decode cX8_isFinal 50 = .ok (.getfield 340, 3) := by decide +kernel
theorem dX8_isFinal_53 : decode cX8_isFinal 53 = .ok (.ifCond .ne 7, 3) := by decide +kernel
theorem dX8_isFinal_56 : decode cX8_isFinal 56 = .ok (.iconst 1, 1) := by decide +kernel
theorem dX8_isFinal_57 : decode cX8_isFinal 57 = .ok (.goto 4, 3) := by decide +kernel
theorem dX8_isFinal_60 : decode cX8_isFinal 60 = .ok (.iconst 0, 1) := by decide +kernel
theorem dX8_isFinal_61 : decode cX8_isFinal 61 = .ok (.ireturn, 1) := by decide +kernel
theorem dX8_scoreMade_0 : decode cX8_scoreMade 0 = .ok (.iconst 0, 1) := by decide +kernel
theorem dX8_scoreMade_1 : decode cX8_scoreMade 1 = .ok (.istore_n 1, 1) := by decide +kernel
theorem dX8_scoreMade_2 : decode cX8_scoreMade 2 = .ok (.iconst 0, 1) := by decide +kernel
theorem dX8_scoreMade_3 : decode cX8_scoreMade 3 = .ok (.istore_n 2, 1) := by decide +kernel
theorem dX8_scoreMade_4 : decode cX8_scoreMade 4 = .ok (.iload_n 2, 1) := by decide +kernel
theorem dX8_scoreMade_5 : decode cX8_scoreMade 5 = .ok (.iconst 4, 1) := by decide +kernel
theorem dX8_scoreMade_6 : decode cX8_scoreMade 6 = .ok (.if_icmp .ge 18, 3) := by decide +kernel
theorem dX8_scoreMade_9 : decode cX8_scoreMade 9 = .ok (.iload_n 1, 1) := by decide +kernel
theorem dX8_scoreMade_10 : decode cX8_scoreMade 10 = .ok (.aload_n 0, 1) := by decide +kernel
theorem dX8_scoreMade_11 : decode cX8_scoreMade 11 = .ok (.getfield 53, 3) := by decide +kernel
theorem dX8_scoreMade_14 : decode cX8_scoreMade 14 = .ok (.iload_n 2, 1) := by decide +kernel
theorem dX8_scoreMade_15 : decode cX8_scoreMade 15 = .ok (.iaload, 1) := by decide +kernel
theorem dX8_scoreMade_16 : decode cX8_scoreMade 16 = .ok (.iadd, 1) := by decide +kernel
theorem dX8_scoreMade_17 : decode cX8_scoreMade 17 = .ok (.istore_n 1, 1) := by decide +kernel
theorem dX8_scoreMade_18 : decode cX8_scoreMade 18 = .ok (.iinc 2 1, 3) := by decide +kernel
theorem dX8_scoreMade_21 : decode cX8_scoreMade 21 = .ok (.goto (-17), 3) := by decide +kernel
theorem dX8_scoreMade_24 : decode cX8_scoreMade 24 = .ok (.iload_n 1, 1) := by decide +kernel
theorem dX8_scoreMade_25 : decode cX8_scoreMade 25 = .ok (.ireturn, 1) := by decide +kernel
theorem dX8_moves_0 : decode cX8_moves 0 = .ok (.iconst 0, 1) := by decide +kernel
theorem dX8_moves_1 : decode cX8_moves 1 = .ok (.istore_n 3, 1) := by decide +kernel
theorem dX8_moves_2 : decode cX8_moves 2 = .ok (.iload_n 1, 1) := by decide +kernel
theorem dX8_moves_3 : decode cX8_moves 3 = .ok (.iconst 2, 1) := by decide +kernel
theorem dX8_moves_4 : decode cX8_moves 4 = .ok (.if_icmp .ge 141, 3) := by decide +kernel
theorem dX8_moves_7 : decode cX8_moves 7 = .ok (.aload_n 0, 1) := by decide +kernel
theorem dX8_moves_8 : decode cX8_moves 8 = .ok (.getfield 50, 3) := by decide +kernel
theorem dX8_moves_11 : decode cX8_moves 11 = .ok (.aload_n 0, 1) := by decide +kernel
theorem dX8_moves_12 : decode cX8_moves 12 = .ok (.getfield 343, 3) := by decide +kernel
theorem dX8_moves_15 : decode cX8_moves 15 = .ok (.dup2, 1) := by decide +kernel
theorem dX8_moves_16 : decode cX8_moves 16 = .ok (.laload, 1) := by decide +kernel
theorem dX8_moves_17 : decode cX8_moves 17 = .ok (.lconst 1, 1) := by decide +kernel
theorem dX8_moves_18 : decode cX8_moves 18 = .ok (.iload_n 2, 1) := by decide +kernel
theorem dX8_moves_19 : decode cX8_moves 19 = .ok (.lshl, 1) := by decide +kernel
theorem dX8_moves_20 : decode cX8_moves 20 = .ok (.ldc2_w 364, 3) := by decide +kernel
theorem dX8_moves_23 : decode cX8_moves 23 = .ok (.lxor, 1) := by decide +kernel
theorem dX8_moves_24 : decode cX8_moves 24 = .ok (.land, 1) := by decide +kernel
theorem dX8_moves_25 : decode cX8_moves 25 = .ok (.lastore, 1) := by decide +kernel
theorem dX8_moves_26 : decode cX8_moves 26 = .ok (.aload_n 0, 1) := by decide +kernel
theorem dX8_moves_27 : decode cX8_moves 27 = .ok (.getfield 9, 3) := by decide +kernel
theorem dX8_moves_30 : decode cX8_moves 30 = .ok (.bipush 27, 2) := by decide +kernel
theorem dX8_moves_32 : decode cX8_moves 32 = .ok (.iload_n 2, 1) := by decide +kernel
theorem dX8_moves_33 : decode cX8_moves 33 = .ok (.iadd, 1) := by decide +kernel
theorem dX8_moves_34 : decode cX8_moves 34 = .ok (.iaload, 1) := by decide +kernel
theorem dX8_moves_35 : decode cX8_moves 35 = .ok (.istore 4, 2) := by decide +kernel
theorem dX8_moves_37 : decode cX8_moves 37 = .ok (.iload_n 1, 1) := by decide +kernel
theorem dX8_moves_38 : decode cX8_moves 38 = .ok (.ifCond .ne 17, 3) := by decide +kernel
theorem dX8_moves_41 : decode cX8_moves 41 = .ok (.aload_n 0, 1) := by decide +kernel
theorem dX8_moves_42 : decode cX8_moves 42 = .ok (.getfield 53, 3) := by decide +kernel
theorem dX8_moves_45 : decode cX8_moves 45 = .ok (.iload 4, 2) := by decide +kernel
theorem dX8_moves_47 : decode cX8_moves 47 = .ok (.invokestatic 70, 3) := by decide +kernel
theorem dX8_moves_50 : decode cX8_moves 50 = .ok (.dup2, 1) := by decide +kernel
theorem dX8_moves_51 : decode cX8_moves 51 = .ok (.iaload, 1) := by decide +kernel
theorem dX8_moves_52 : decode cX8_moves 52 = .ok (.iconst 1, 1) := by decide +kernel
theorem dX8_moves_53 : decode cX8_moves 53 = .ok (.iadd, 1) := by decide +kernel
theorem dX8_moves_54 : decode cX8_moves 54 = .ok (.iastore, 1) := by decide +kernel
theorem dX8_moves_55 : decode cX8_moves 55 = .ok (.iload_n 1, 1) := by decide +kernel
theorem dX8_moves_56 : decode cX8_moves 56 = .ok (.iconst 1, 1) := by decide +kernel
theorem dX8_moves_57 : decode cX8_moves 57 = .ok (.if_icmp .eq 17, 3) := by decide +kernel
theorem dX8_moves_60 : decode cX8_moves 60 = .ok (.iload 4, 2) := by decide +kernel
theorem dX8_moves_62 : decode cX8_moves 62 = .ok (.invokestatic 74, 3) := by decide +kernel
theorem dX8_moves_65 : decode cX8_moves 65 = .ok (.aload_n 0, 1) := by decide +kernel
theorem dX8_moves_66 : decode cX8_moves 66 = .ok (.getfield 9, 3) := by decide +kernel
theorem dX8_moves_69 : decode cX8_moves 69 = .ok (.iconst 1, 1) := by decide +kernel
theorem dX8_moves_70 : decode cX8_moves 70 = .ok (.iaload, 1) := by decide +kernel
theorem dX8_moves_71 : decode cX8_moves 71 = .ok (.if_icmp .ne 23, 3) := by decide +kernel
theorem dX8_moves_74 : decode cX8_moves 74 = .ok (.aload_n 0, 1) := by decide +kernel
theorem dX8_moves_75 : decode cX8_moves 75 = .ok (.aload_n 0, 1) := by decide +kernel
theorem dX8_moves_76 : decode cX8_moves 76 = .ok (.getfield 9, 3) := by decide +kernel
theorem dX8_moves_79 : decode cX8_moves 79 = .ok (.bipush 6, 2) := by decide +kernel
theorem dX8_moves_81 : decode cX8_moves 81 = .ok (.iaload, 1) := by decide +kernel
theorem dX8_moves_82 : decode cX8_moves 82 = .ok (.aload_n 0, 1) := by decide +kernel
theorem dX8_moves_83 : decode cX8_moves 83 = .ok (.getfield 349, 3) := by decide +kernel
theorem dX8_moves_86 : decode cX8_moves 86 = .ok (.iconst 1, 1) := by decide +kernel
theorem dX8_moves_87 : decode cX8_moves 87 = .ok (.iadd, 1) := by decide +kernel
theorem dX8_moves_88 : decode cX8_moves 88 = .ok (.invokestatic 114, 3) := by decide +kernel
theorem dX8_moves_91 : decode cX8_moves 91 = .ok (.putfield 349, 3) := by decide +kernel
theorem dX8_moves_94 : decode cX8_moves 94 = .ok (.aload_n 0, 1) := by decide +kernel
theorem dX8_moves_95 : decode cX8_moves 95 = .ok (.getfield 346, 3) := by decide +kernel
theorem dX8_moves_98 : decode cX8_moves 98 = .ok (.aload_n 0, 1) := by decide +kernel
theorem dX8_moves_99 : decode cX8_moves 99 = .ok (.getfield 9, 3) := by decide +kernel
theorem dX8_moves_102 : decode cX8_moves 102 = .ok (.iconst 4, 1) := by decide +kernel
theorem dX8_moves_103 : decode cX8_moves 103 = .ok (.iaload, 1) := by decide +kernel
theorem dX8_moves_104 : decode cX8_moves 104 = .ok (.if_icmp .ge 7, 3) := by decide +kernel
theorem dX8_moves_107 : decode cX8_moves 107 = .ok (.iconst 1, 1) := by decide +kernel
theorem dX8_moves_108 : decode cX8_moves 108 = .ok (.goto 4, 3) := by decide +kernel
theorem dX8_moves_111 : decode cX8_moves 111 = .ok (.iconst 0, 1) := by decide +kernel
theorem dX8_moves_112 : decode cX8_moves 112 = .ok (.istore_n 3, 1) := by decide +kernel
theorem dX8_moves_113 : decode cX8_moves 113 = .ok (.iload_n 3, 1) := by decide +kernel
theorem dX8_moves_114 : decode cX8_moves 114 = .ok (.ifCond .eq 31, 3) := by decide +kernel
theorem dX8_moves_117 : decode cX8_moves 117 = .ok (.aload_n 0, 1) := by decide +kernel
theorem dX8_moves_118 : decode cX8_moves 118 = .ok (.getfield 50, 3) := by decide +kernel
theorem dX8_moves_121 : decode cX8_moves 121 = .ok (.aload_n 0, 1) := by decide +kernel
theorem dX8_moves_122 : decode cX8_moves 122 = .ok (.getfield 343, 3) := by decide +kernel
theorem dX8_moves_125 : decode cX8_moves 125 = .ok (.dup2, 1) := by decide +kernel
theorem dX8_moves_126 : decode cX8_moves 126 = .ok (.laload, 1) := by decide +kernel
theorem dX8_moves_127 : decode cX8_moves 127 = .ok (.lconst 1, 1) := by decide +kernel
theorem dX8_moves_128 : decode cX8_moves 128 = .ok (.aload_n 0, 1) := by decide +kernel
theorem dX8_moves_129 : decode cX8_moves 129 = .ok (.getfield 346, 3) := by decide +kernel
theorem dX8_moves_132 : decode cX8_moves 132 = .ok (.lshl, 1) := by decide +kernel
theorem dX8_moves_133 : decode cX8_moves 133 = .ok (.lor, 1) := by decide +kernel
theorem dX8_moves_134 : decode cX8_moves 134 = .ok (.lastore, 1) := by decide +kernel
theorem dX8_moves_135 : decode cX8_moves 135 = .ok (.aload_n 0, 1) := by decide +kernel
theorem dX8_moves_136 : decode cX8_moves 136 = .ok (.dup, 1) := by decide +kernel
theorem dX8_moves_137 : decode cX8_moves 137 = .ok (.getfield 346, 3) := by decide +kernel
theorem dX8_moves_140 : decode cX8_moves 140 = .ok (.iconst 1, 1) := by decide +kernel
theorem dX8_moves_141 : decode cX8_moves 141 = .ok (.iadd, 1) := by decide +kernel
theorem dX8_moves_142 : decode cX8_moves 142 = .ok (.putfield 346, 3) := by decide +kernel
theorem dX8_moves_145 : decode cX8_moves 145 = .ok (.aload_n 0, 1) := by decide +kernel
theorem dX8_moves_146 : decode cX8_moves 146 = .ok (.dup, 1) := by decide +kernel
theorem dX8_moves_147 : decode cX8_moves 147 = .ok (.getfield 349, 3) := by decide +kernel
theorem dX8_moves_150 : decode cX8_moves 150 = .ok (.iload_n 1, 1) := by decide +kernel
theorem dX8_moves_151 : decode cX8_moves 151 = .ok (.iconst 2, 1) := by decide +kernel
theorem dX8_moves_152 : decode cX8_moves 152 = .ok (.if_icmp .ne 7, 3) := by decide +kernel
theorem dX8_moves_155 : decode cX8_moves 155 = .ok (.iconst 1, 1) := by decide +kernel
theorem dX8_moves_156 : decode cX8_moves 156 = .ok (.goto 4, 3) := by decide +kernel
theorem dX8_moves_159 : decode cX8_moves 159 = .ok (.iconst 0, 1) := by decide +kernel
theorem dX8_moves_160 : decode cX8_moves 160 = .ok (.isub, 1) := by decide +kernel
theorem dX8_moves_161 : decode cX8_moves 161 = .ok (.putfield 349, 3) := by decide +kernel
theorem dX8_moves_164 : decode cX8_moves 164 = .ok (.aload_n 0, 1) := by decide +kernel
theorem dX8_moves_165 : decode cX8_moves 165 = .ok (.getfield 340, 3) := by decide +kernel
theorem dX8_moves_168 : decode cX8_moves 168 = .ok (.iconst (-1), 1) := by decide +kernel
theorem dX8_moves_169 : decode cX8_moves 169 = .ok (.if_icmp .eq 16, 3) := by decide +kernel
theorem dX8_moves_172 : decode cX8_moves 172 = .ok (.aload_n 0, 1) := by decide +kernel
theorem dX8_moves_173 : decode cX8_moves 173 = .ok (.dup, 1) := by decide +kernel
theorem dX8_moves_174 : decode cX8_moves 174 = .ok (.getfield 340, 3) := by decide +kernel
theorem dX8_moves_177 : decode cX8_moves 177 = .ok (.iconst 1, 1) := by decide +kernel
theorem dX8_moves_178 : decode cX8_moves 178 = .ok (.isub, 1) := by decide +kernel
theorem dX8_moves_179 : decode cX8_moves 179 = .ok (.putfield 340, 3) := by decide +kernel
theorem dX8_moves_182 : decode cX8_moves 182 = .ok (.goto 30, 3) := by decide +kernel
theorem dX8_moves_185 : decode cX8_moves 185 = .ok (.iload_n 3, 1) := by decide +kernel
theorem dX8_moves_186 : decode cX8_moves 186 = .ok (.ifCond .eq 26, 3) := by decide +kernel
theorem dX8_moves_189 : decode cX8_moves 189 = .ok (.aload_n 0, 1) := by decide +kernel
theorem dX8_moves_190 : decode cX8_moves 190 = .ok (.getfield 346, 3) := by decide +kernel
theorem dX8_moves_193 : decode cX8_moves 193 = .ok (.aload_n 0, 1) := by decide +kernel
theorem dX8_moves_194 : decode cX8_moves 194 = .ok (.getfield 9, 3) := by decide +kernel
theorem dX8_moves_197 : decode cX8_moves 197 = .ok (.iconst 4, 1) := by decide +kernel
theorem dX8_moves_198 : decode cX8_moves 198 = .ok (.iaload, 1) := by decide +kernel
theorem dX8_moves_199 : decode cX8_moves 199 = .ok (.if_icmp .ne 13, 3) := by decide +kernel
theorem dX8_moves_202 : decode cX8_moves 202 = .ok (.aload_n 0, 1) := by decide +kernel
theorem dX8_moves_203 : decode cX8_moves 203 = .ok (.aload_n 0, 1) := by decide +kernel
theorem dX8_moves_204 : decode cX8_moves 204 = .ok (.getfield 9, 3) := by decide +kernel
theorem dX8_moves_207 : decode cX8_moves 207 = .ok (.iconst 2, 1) := by decide +kernel
theorem dX8_moves_208 : decode cX8_moves 208 = .ok (.iaload, 1) := by decide +kernel
theorem dX8_moves_209 : decode cX8_moves 209 = .ok (.putfield 340, 3) := by decide +kernel
theorem dX8_moves_212 : decode cX8_moves 212 = .ok (.aload_n 0, 1) := by decide +kernel
theorem dX8_moves_213 : decode cX8_moves 213 = .ok (.aload_n 0, 1) := by decide +kernel
theorem dX8_moves_214 : decode cX8_moves 214 = .ok (.getfield 343, 3) := by decide +kernel
theorem dX8_moves_217 : decode cX8_moves 217 = .ok (.iconst 1, 1) := by decide +kernel
theorem dX8_moves_218 : decode cX8_moves 218 = .ok (.iadd, 1) := by decide +kernel
theorem dX8_moves_219 : decode cX8_moves 219 = .ok (.aload_n 0, 1) := by decide +kernel
theorem dX8_moves_220 : decode cX8_moves 220 = .ok (.getfield 9, 3) := by decide +kernel
theorem dX8_moves_223 : decode cX8_moves 223 = .ok (.iconst 2, 1) := by decide +kernel
theorem dX8_moves_224 : decode cX8_moves 224 = .ok (.iaload, 1) := by decide +kernel
theorem dX8_moves_225 : decode cX8_moves 225 = .ok (.irem, 1) := by decide +kernel
theorem dX8_moves_226 : decode cX8_moves 226 = .ok (.putfield 343, 3) := by decide +kernel
theorem dX8_moves_229 : decode cX8_moves 229 = .ok (.return_, 1) := by decide +kernel
theorem dX8_canPlay_0 : decode cX8_canPlay 0 = .ok (.aload_n 0, 1) := by decide +kernel
theorem dX8_canPlay_1 : decode cX8_canPlay 1 = .ok (.getfield 9, 3) := by decide +kernel
theorem dX8_canPlay_4 : decode cX8_canPlay 4 = .ok (.bipush 27, 2) := by decide +kernel
theorem dX8_canPlay_6 : decode cX8_canPlay 6 = .ok (.iload_n 1, 1) := by decide +kernel
theorem dX8_canPlay_7 : decode cX8_canPlay 7 = .ok (.iadd, 1) := by decide +kernel
theorem dX8_canPlay_8 : decode cX8_canPlay 8 = .ok (.iaload, 1) := by decide +kernel
theorem dX8_canPlay_9 : decode cX8_canPlay 9 = .ok (.istore_n 2, 1) := by decide +kernel
theorem dX8_canPlay_10 : decode cX8_canPlay 10 = .ok (.iload_n 2, 1) := by decide +kernel
theorem dX8_canPlay_11 : decode cX8_canPlay 11 = .ok (.invokestatic 74, 3) := by decide +kernel
theorem dX8_canPlay_14 : decode cX8_canPlay 14 = .ok (.aload_n 0, 1) := by decide +kernel
theorem dX8_canPlay_15 : decode cX8_canPlay 15 = .ok (.getfield 53, 3) := by decide +kernel
theorem dX8_canPlay_18 : decode cX8_canPlay 18 = .ok (.iload_n 2, 1) := by decide +kernel
theorem dX8_canPlay_19 : decode cX8_canPlay 19 = .ok (.invokestatic 70, 3) := by decide +kernel
theorem dX8_canPlay_22 : decode cX8_canPlay 22 = .ok (.iaload, 1) := by decide +kernel
theorem dX8_canPlay_23 : decode cX8_canPlay 23 = .ok (.iconst 1, 1) := by decide +kernel
theorem dX8_canPlay_24 : decode cX8_canPlay 24 = .ok (.iadd, 1) := by decide +kernel
theorem dX8_canPlay_25 : decode cX8_canPlay 25 = .ok (.if_icmp .ne 7, 3) := by decide +kernel
theorem dX8_canPlay_28 : decode cX8_canPlay 28 = .ok (.iconst 1, 1) := by decide +kernel
theorem dX8_canPlay_29 : decode cX8_canPlay 29 = .ok (.goto 4, 3) := by decide +kernel
theorem dX8_canPlay_32 : decode cX8_canPlay 32 = .ok (.iconst 0, 1) := by decide +kernel
theorem dX8_canPlay_33 : decode cX8_canPlay 33 = .ok (.ireturn, 1) := by decide +kernel
theorem dX8_goesOn_0 : decode cX8_goesOn 0 = .ok (.aload_n 0, 1) := by decide +kernel
theorem dX8_goesOn_1 : decode cX8_goesOn 1 = .ok (.iload_n 1, 1) := by decide +kernel
theorem dX8_goesOn_2 : decode cX8_goesOn 2 = .ok (.invokevirtual 366, 3) := by decide +kernel
theorem dX8_goesOn_5 : decode cX8_goesOn 5 = .ok (.aload_n 0, 1) := by decide +kernel
theorem dX8_goesOn_6 : decode cX8_goesOn 6 = .ok (.invokevirtual 369, 3) := by decide +kernel
theorem dX8_goesOn_9 : decode cX8_goesOn 9 = .ok (.ifCond .eq 4, 3) := by decide +kernel
theorem dX8_goesOn_12 : decode cX8_goesOn 12 = .ok (.return_, 1) := by decide +kernel
theorem dX8_goesOn_13 : decode cX8_goesOn 13 = .ok (.aload_n 0, 1) := by decide +kernel
theorem dX8_goesOn_14 : decode cX8_goesOn 14 = .ok (.getfield 50, 3) := by decide +kernel
theorem dX8_goesOn_17 : decode cX8_goesOn 17 = .ok (.aload_n 0, 1) := by decide +kernel
theorem dX8_goesOn_18 : decode cX8_goesOn 18 = .ok (.getfield 343, 3) := by decide +kernel
theorem dX8_goesOn_21 : decode cX8_goesOn 21 = .ok (.laload, 1) := by decide +kernel
theorem dX8_goesOn_22 : decode cX8_goesOn 22 = .ok (.lstore_n 2, 1) := by decide +kernel
theorem dX8_goesOn_23 : decode cX8_goesOn 23 = .ok (.iconst 0, 1) := by decide +kernel
theorem dX8_goesOn_24 : decode cX8_goesOn 24 = .ok (.istore 4, 2) := by decide +kernel
theorem dX8_goesOn_26 : decode cX8_goesOn 26 = .ok (.iload 4, 2) := by decide +kernel
theorem dX8_goesOn_28 : decode cX8_goesOn 28 = .ok (.aload_n 0, 1) := by decide +kernel
theorem dX8_goesOn_29 : decode cX8_goesOn 29 = .ok (.getfield 9, 3) := by decide +kernel
theorem dX8_goesOn_32 : decode cX8_goesOn 32 = .ok (.iconst 4, 1) := by decide +kernel
theorem dX8_goesOn_33 : decode cX8_goesOn 33 = .ok (.iaload, 1) := by decide +kernel
theorem dX8_goesOn_34 : decode cX8_goesOn 34 = .ok (.if_icmp .ge 64, 3) := by decide +kernel
theorem dX8_goesOn_37 : decode cX8_goesOn 37 = .ok (.lload_n 2, 1) := by decide +kernel
theorem dX8_goesOn_38 : decode cX8_goesOn 38 = .ok (.iload 4, 2) := by decide +kernel
theorem dX8_goesOn_40 : decode cX8_goesOn 40 = .ok (.lshr, 1) := by decide +kernel
theorem dX8_goesOn_41 : decode cX8_goesOn 41 = .ok (.lconst 1, 1) := by decide +kernel
theorem dX8_goesOn_42 : decode cX8_goesOn 42 = .ok (.land, 1) := by decide +kernel
theorem dX8_goesOn_43 : decode cX8_goesOn 43 = .ok (.lconst 0, 1) := by decide +kernel
theorem dX8_goesOn_44 : decode cX8_goesOn 44 = .ok (.lcmp, 1) := by decide +kernel
theorem dX8_goesOn_45 : decode cX8_goesOn 45 = .ok (.ifCond .ne 6, 3) := by decide +kernel
theorem dX8_goesOn_48 : decode cX8_goesOn 48 = .ok (.goto 44, 3) := by decide +kernel
theorem dX8_goesOn_51 : decode cX8_goesOn 51 = .ok (.aload_n 0, 1) := by decide +kernel
theorem dX8_goesOn_52 : decode cX8_goesOn 52 = .ok (.iload 4, 2) := by decide +kernel
theorem dX8_goesOn_54 : decode cX8_goesOn 54 = .ok (.invokevirtual 372, 3) := by decide +kernel
theorem dX8_goesOn_57 : decode cX8_goesOn 57 = .ok (.ifCond .eq 19, 3) := by decide +kernel
theorem dX8_goesOn_60 : decode cX8_goesOn 60 = .ok (.aload_n 0, 1) := by decide +kernel
theorem dX8_goesOn_61 : decode cX8_goesOn 61 = .ok (.iconst 0, 1) := by decide +kernel
theorem dX8_goesOn_62 : decode cX8_goesOn 62 = .ok (.iload 4, 2) := by decide +kernel
theorem dX8_goesOn_64 : decode cX8_goesOn 64 = .ok (.invokevirtual 375, 3) := by decide +kernel
theorem dX8_goesOn_67 : decode cX8_goesOn 67 = .ok (.aload_n 0, 1) := by decide +kernel
theorem dX8_goesOn_68 : decode cX8_goesOn 68 = .ok (.invokevirtual 379, 3) := by decide +kernel
theorem dX8_goesOn_71 : decode cX8_goesOn 71 = .ok (.aload_n 0, 1) := by decide +kernel
theorem dX8_goesOn_72 : decode cX8_goesOn 72 = .ok (.iload_n 1, 1) := by decide +kernel
theorem dX8_goesOn_73 : decode cX8_goesOn 73 = .ok (.invokevirtual 366, 3) := by decide +kernel
theorem dX8_goesOn_76 : decode cX8_goesOn 76 = .ok (.aload_n 0, 1) := by decide +kernel
theorem dX8_goesOn_77 : decode cX8_goesOn 77 = .ok (.iconst 1, 1) := by decide +kernel
theorem dX8_goesOn_78 : decode cX8_goesOn 78 = .ok (.iload 4, 2) := by decide +kernel
theorem dX8_goesOn_80 : decode cX8_goesOn 80 = .ok (.invokevirtual 375, 3) := by decide +kernel
theorem dX8_goesOn_83 : decode cX8_goesOn 83 = .ok (.aload_n 0, 1) := by decide +kernel
theorem dX8_goesOn_84 : decode cX8_goesOn 84 = .ok (.invokevirtual 379, 3) := by decide +kernel
theorem dX8_goesOn_87 : decode cX8_goesOn 87 = .ok (.aload_n 0, 1) := by decide +kernel
theorem dX8_goesOn_88 : decode cX8_goesOn 88 = .ok (.iload_n 1, 1) := by decide +kernel
theorem dX8_goesOn_89 : decode cX8_goesOn 89 = .ok (.invokevirtual 366, 3) := by decide +kernel
theorem dX8_goesOn_92 : decode cX8_goesOn 92 = .ok (.iinc 4 1, 3) := by decide +kernel
theorem dX8_goesOn_95 : decode cX8_goesOn 95 = .ok (.goto (-69), 3) := by decide +kernel
theorem dX8_goesOn_98 : decode cX8_goesOn 98 = .ok (.aload_n 0, 1) := by decide +kernel
theorem dX8_goesOn_99 : decode cX8_goesOn 99 = .ok (.getfield 349, 3) := by decide +kernel
theorem dX8_goesOn_102 : decode cX8_goesOn 102 = .ok (.ifCond .le 18, 3) := by decide +kernel
theorem dX8_goesOn_105 : decode cX8_goesOn 105 = .ok (.aload_n 0, 1) := by decide +kernel
theorem dX8_goesOn_106 : decode cX8_goesOn 106 = .ok (.iconst 2, 1) := by decide +kernel
theorem dX8_goesOn_107 : decode cX8_goesOn 107 = .ok (.iconst (-1), 1) := by decide +kernel
theorem dX8_goesOn_108 : decode cX8_goesOn 108 = .ok (.invokevirtual 375, 3) := by decide +kernel
theorem dX8_goesOn_111 : decode cX8_goesOn 111 = .ok (.aload_n 0, 1) := by decide +kernel
theorem dX8_goesOn_112 : decode cX8_goesOn 112 = .ok (.invokevirtual 379, 3) := by decide +kernel
theorem dX8_goesOn_115 : decode cX8_goesOn 115 = .ok (.aload_n 0, 1) := by decide +kernel
theorem dX8_goesOn_116 : decode cX8_goesOn 116 = .ok (.iload_n 1, 1) := by decide +kernel
theorem dX8_goesOn_117 : decode cX8_goesOn 117 = .ok (.invokevirtual 366, 3) := by decide +kernel
theorem dX8_goesOn_120 : decode cX8_goesOn 120 = .ok (.lload_n 2, 1) := by decide +kernel
theorem dX8_goesOn_121 : decode cX8_goesOn 121 = .ok (.lconst 0, 1) := by decide +kernel
theorem dX8_goesOn_122 : decode cX8_goesOn 122 = .ok (.lcmp, 1) := by decide +kernel
theorem dX8_goesOn_123 : decode cX8_goesOn 123 = .ok (.ifCond .ne 13, 3) := by decide +kernel
theorem dX8_goesOn_126 : decode cX8_goesOn 126 = .ok (.aload_n 0, 1) := by decide +kernel
theorem dX8_goesOn_127 : decode cX8_goesOn 127 = .ok (.iconst 3, 1) := by decide +kernel
theorem dX8_goesOn_128 : decode cX8_goesOn 128 = .ok (.iconst (-1), 1) := by decide +kernel
theorem dX8_goesOn_129 : decode cX8_goesOn 129 = .ok (.invokevirtual 375, 3) := by decide +kernel
theorem dX8_goesOn_132 : decode cX8_goesOn 132 = .ok (.aload_n 0, 1) := by decide +kernel
theorem dX8_goesOn_133 : decode cX8_goesOn 133 = .ok (.invokevirtual 379, 3) := by decide +kernel
theorem dX8_goesOn_136 : decode cX8_goesOn 136 = .ok (.return_, 1) := by decide +kernel
theorem dX8_makesPresent_0 : decode cX8_makesPresent 0 = .ok (.iconst 0, 1) := by decide +kernel
theorem dX8_makesPresent_1 : decode cX8_makesPresent 1 = .ok (.istore_n 1, 1) := by decide +kernel
theorem dX8_makesPresent_2 : decode cX8_makesPresent 2 = .ok (.iload_n 1, 1) := by decide +kernel
theorem dX8_makesPresent_3 : decode cX8_makesPresent 3 = .ok (.iconst 4, 1) := by decide +kernel
theorem dX8_makesPresent_4 : decode cX8_makesPresent 4 = .ok (.if_icmp .ge 55, 3) := by decide +kernel
theorem dX8_makesPresent_7 : decode cX8_makesPresent 7 = .ok (.aload_n 0, 1) := by decide +kernel
theorem dX8_makesPresent_8 : decode cX8_makesPresent 8 = .ok (.getfield 50, 3) := by decide +kernel
theorem dX8_makesPresent_11 : decode cX8_makesPresent 11 = .ok (.iload_n 1, 1) := by decide +kernel
theorem dX8_makesPresent_12 : decode cX8_makesPresent 12 = .ok (.lconst 0, 1) := by decide +kernel
theorem dX8_makesPresent_13 : decode cX8_makesPresent 13 = .ok (.lastore, 1) := by decide +kernel
theorem dX8_makesPresent_14 : decode cX8_makesPresent 14 = .ok (.iconst 0, 1) := by decide +kernel
theorem dX8_makesPresent_15 : decode cX8_makesPresent 15 = .ok (.istore_n 2, 1) := by decide +kernel
theorem dX8_makesPresent_16 : decode cX8_makesPresent 16 = .ok (.iload_n 2, 1) := by decide +kernel
theorem dX8_makesPresent_17 : decode cX8_makesPresent 17 = .ok (.aload_n 0, 1) := by decide +kernel
theorem dX8_makesPresent_18 : decode cX8_makesPresent 18 = .ok (.getfield 9, 3) := by decide +kernel
theorem dX8_makesPresent_21 : decode cX8_makesPresent 21 = .ok (.sipush 187, 3) := by decide +kernel
theorem dX8_makesPresent_24 : decode cX8_makesPresent 24 = .ok (.iload_n 1, 1) := by decide +kernel
theorem dX8_makesPresent_25 : decode cX8_makesPresent 25 = .ok (.iadd, 1) := by decide +kernel
theorem dX8_makesPresent_26 : decode cX8_makesPresent 26 = .ok (.iaload, 1) := by decide +kernel
theorem dX8_makesPresent_27 : decode cX8_makesPresent 27 = .ok (.if_icmp .ge 26, 3) := by decide +kernel
theorem dX8_makesPresent_30 : decode cX8_makesPresent 30 = .ok (.aload_n 0, 1) := by decide +kernel
theorem dX8_makesPresent_31 : decode cX8_makesPresent 31 = .ok (.getfield 50, 3) := by decide +kernel
theorem dX8_makesPresent_34 : decode cX8_makesPresent 34 = .ok (.iload_n 1, 1) := by decide +kernel
theorem dX8_makesPresent_35 : decode cX8_makesPresent 35 = .ok (.dup2, 1) := by decide +kernel
theorem dX8_makesPresent_36 : decode cX8_makesPresent 36 = .ok (.laload, 1) := by decide +kernel
theorem dX8_makesPresent_37 : decode cX8_makesPresent 37 = .ok (.lconst 1, 1) := by decide +kernel
theorem dX8_makesPresent_38 : decode cX8_makesPresent 38 = .ok (.aload_n 0, 1) := by decide +kernel
theorem dX8_makesPresent_39 : decode cX8_makesPresent 39 = .ok (.iload_n 1, 1) := by decide +kernel
theorem dX8_makesPresent_40 : decode cX8_makesPresent 40 = .ok (.iload_n 2, 1) := by decide +kernel
theorem dX8_makesPresent_41 : decode cX8_makesPresent 41 = .ok (.invokevirtual 217, 3) := by decide +kernel
theorem dX8_makesPresent_44 : decode cX8_makesPresent 44 = .ok (.lshl, 1) := by decide +kernel
theorem dX8_makesPresent_45 : decode cX8_makesPresent 45 = .ok (.lor, 1) := by decide +kernel
theorem dX8_makesPresent_46 : decode cX8_makesPresent 46 = .ok (.lastore, 1) := by decide +kernel
theorem dX8_makesPresent_47 : decode cX8_makesPresent 47 = .ok (.iinc 2 1, 3) := by decide +kernel
theorem dX8_makesPresent_50 : decode cX8_makesPresent 50 = .ok (.goto (-34), 3) := by decide +kernel
theorem dX8_makesPresent_53 : decode cX8_makesPresent 53 = .ok (.iinc 1 1, 3) := by decide +kernel
theorem dX8_makesPresent_56 : decode cX8_makesPresent 56 = .ok (.goto (-54), 3) := by decide +kernel
theorem dX8_makesPresent_59 : decode cX8_makesPresent 59 = .ok (.iconst 0, 1) := by decide +kernel
theorem dX8_makesPresent_60 : decode cX8_makesPresent 60 = .ok (.istore_n 1, 1) := by decide +kernel
theorem dX8_makesPresent_61 : decode cX8_makesPresent 61 = .ok (.iload_n 1, 1) := by decide +kernel
theorem dX8_makesPresent_62 : decode cX8_makesPresent 62 = .ok (.iconst 4, 1) := by decide +kernel
theorem dX8_makesPresent_63 : decode cX8_makesPresent 63 = .ok (.if_icmp .ge 24, 3) := by decide +kernel
theorem dX8_makesPresent_66 : decode cX8_makesPresent 66 = .ok (.aload_n 0, 1) := by decide +kernel
theorem dX8_makesPresent_67 : decode cX8_makesPresent 67 = .ok (.getfield 53, 3) := by decide +kernel
theorem dX8_makesPresent_70 : decode cX8_makesPresent 70 = .ok (.iload_n 1, 1) := by decide +kernel
theorem dX8_makesPresent_71 : decode cX8_makesPresent 71 = .ok (.aload_n 0, 1) := by decide +kernel
theorem dX8_makesPresent_72 : decode cX8_makesPresent 72 = .ok (.getfield 9, 3) := by decide +kernel
theorem dX8_makesPresent_75 : decode cX8_makesPresent 75 = .ok (.bipush 14, 2) := by decide +kernel
theorem dX8_makesPresent_77 : decode cX8_makesPresent 77 = .ok (.iload_n 1, 1) := by decide +kernel
theorem dX8_makesPresent_78 : decode cX8_makesPresent 78 = .ok (.iadd, 1) := by decide +kernel
theorem dX8_makesPresent_79 : decode cX8_makesPresent 79 = .ok (.iaload, 1) := by decide +kernel
theorem dX8_makesPresent_80 : decode cX8_makesPresent 80 = .ok (.iastore, 1) := by decide +kernel
theorem dX8_makesPresent_81 : decode cX8_makesPresent 81 = .ok (.iinc 1 1, 3) := by decide +kernel
theorem dX8_makesPresent_84 : decode cX8_makesPresent 84 = .ok (.goto (-23), 3) := by decide +kernel
theorem dX8_makesPresent_87 : decode cX8_makesPresent 87 = .ok (.aload_n 0, 1) := by decide +kernel
theorem dX8_makesPresent_88 : decode cX8_makesPresent 88 = .ok (.aload_n 0, 1) := by decide +kernel
theorem dX8_makesPresent_89 : decode cX8_makesPresent 89 = .ok (.getfield 9, 3) := by decide +kernel
theorem dX8_makesPresent_92 : decode cX8_makesPresent 92 = .ok (.bipush 7, 2) := by decide +kernel
theorem dX8_makesPresent_94 : decode cX8_makesPresent 94 = .ok (.iaload, 1) := by decide +kernel
theorem dX8_makesPresent_95 : decode cX8_makesPresent 95 = .ok (.putfield 349, 3) := by decide +kernel
theorem dX8_makesPresent_98 : decode cX8_makesPresent 98 = .ok (.aload_n 0, 1) := by decide +kernel
theorem dX8_makesPresent_99 : decode cX8_makesPresent 99 = .ok (.aload_n 0, 1) := by decide +kernel
theorem dX8_makesPresent_100 : decode cX8_makesPresent 100 = .ok (.getfield 9, 3) := by decide +kernel
theorem dX8_makesPresent_103 : decode cX8_makesPresent 103 = .ok (.iconst 5, 1) := by decide +kernel
theorem dX8_makesPresent_104 : decode cX8_makesPresent 104 = .ok (.iaload, 1) := by decide +kernel
theorem dX8_makesPresent_105 : decode cX8_makesPresent 105 = .ok (.putfield 346, 3) := by decide +kernel
theorem dX8_makesPresent_108 : decode cX8_makesPresent 108 = .ok (.aload_n 0, 1) := by decide +kernel
theorem dX8_makesPresent_109 : decode cX8_makesPresent 109 = .ok (.aload_n 0, 1) := by decide +kernel
theorem dX8_makesPresent_110 : decode cX8_makesPresent 110 = .ok (.getfield 9, 3) := by decide +kernel
theorem dX8_makesPresent_113 : decode cX8_makesPresent 113 = .ok (.bipush 10, 2) := by decide +kernel
theorem dX8_makesPresent_115 : decode cX8_makesPresent 115 = .ok (.iaload, 1) := by decide +kernel
theorem dX8_makesPresent_116 : decode cX8_makesPresent 116 = .ok (.putfield 343, 3) := by decide +kernel
theorem dX8_makesPresent_119 : decode cX8_makesPresent 119 = .ok (.aload_n 0, 1) := by decide +kernel
theorem dX8_makesPresent_120 : decode cX8_makesPresent 120 = .ok (.aload_n 0, 1) := by decide +kernel
theorem dX8_makesPresent_121 : decode cX8_makesPresent 121 = .ok (.getfield 9, 3) := by decide +kernel
theorem dX8_makesPresent_124 : decode cX8_makesPresent 124 = .ok (.bipush 9, 2) := by decide +kernel
theorem dX8_makesPresent_126 : decode cX8_makesPresent 126 = .ok (.iaload, 1) := by decide +kernel
theorem dX8_makesPresent_127 : decode cX8_makesPresent 127 = .ok (.putfield 340, 3) := by decide +kernel
theorem dX8_makesPresent_130 : decode cX8_makesPresent 130 = .ok (.return_, 1) := by decide +kernel
theorem dX8_searches_0 : decode cX8_searches 0 = .ok (.iconst 0, 1) := by decide +kernel
theorem dX8_searches_1 : decode cX8_searches 1 = .ok (.istore_n 1, 1) := by decide +kernel
theorem dX8_searches_2 : decode cX8_searches 2 = .ok (.iload_n 1, 1) := by decide +kernel
theorem dX8_searches_3 : decode cX8_searches 3 = .ok (.sipush 16384, 3) := by decide +kernel
theorem dX8_searches_6 : decode cX8_searches 6 = .ok (.if_icmp .ge 16, 3) := by decide +kernel
theorem dX8_searches_9 : decode cX8_searches 9 = .ok (.aload_n 0, 1) := by decide +kernel
theorem dX8_searches_10 : decode cX8_searches 10 = .ok (.getfield 47, 3) := by decide +kernel
theorem dX8_searches_13 : decode cX8_searches 13 = .ok (.iload_n 1, 1) := by decide +kernel
theorem dX8_searches_14 : decode cX8_searches 14 = .ok (.iconst (-1), 1) := by decide +kernel
theorem dX8_searches_15 : decode cX8_searches 15 = .ok (.iastore, 1) := by decide +kernel
theorem dX8_searches_16 : decode cX8_searches 16 = .ok (.iinc 1 1, 3) := by decide +kernel
theorem dX8_searches_19 : decode cX8_searches 19 = .ok (.goto (-17), 3) := by decide +kernel
theorem dX8_searches_22 : decode cX8_searches 22 = .ok (.aload_n 0, 1) := by decide +kernel
theorem dX8_searches_23 : decode cX8_searches 23 = .ok (.iconst 0, 1) := by decide +kernel
theorem dX8_searches_24 : decode cX8_searches 24 = .ok (.putfield 361, 3) := by decide +kernel
theorem dX8_searches_27 : decode cX8_searches 27 = .ok (.aload_n 0, 1) := by decide +kernel
theorem dX8_searches_28 : decode cX8_searches 28 = .ok (.invokevirtual 379, 3) := by decide +kernel
theorem dX8_searches_31 : decode cX8_searches 31 = .ok (.iconst 0, 1) := by decide +kernel
theorem dX8_searches_32 : decode cX8_searches 32 = .ok (.istore_n 1, 1) := by decide +kernel
theorem dX8_searches_33 : decode cX8_searches 33 = .ok (.iconst 0, 1) := by decide +kernel
theorem dX8_searches_34 : decode cX8_searches 34 = .ok (.istore_n 2, 1) := by decide +kernel
theorem dX8_searches_35 : decode cX8_searches 35 = .ok (.iload_n 2, 1) := by decide +kernel
theorem dX8_searches_36 : decode cX8_searches 36 = .ok (.aload_n 0, 1) := by decide +kernel
theorem dX8_searches_37 : decode cX8_searches 37 = .ok (.getfield 361, 3) := by decide +kernel
theorem dX8_searches_40 : decode cX8_searches 40 = .ok (.if_icmp .ge 41, 3) := by decide +kernel
theorem dX8_searches_43 : decode cX8_searches 43 = .ok (.aload_n 0, 1) := by decide +kernel
theorem dX8_searches_44 : decode cX8_searches 44 = .ok (.iload_n 2, 1) := by decide +kernel
theorem dX8_searches_45 : decode cX8_searches 45 = .ok (.invokevirtual 382, 3) := by decide +kernel
theorem dX8_searches_48 : decode cX8_searches 48 = .ok (.aload_n 0, 1) := by decide +kernel
theorem dX8_searches_49 : decode cX8_searches 49 = .ok (.getfield 361, 3) := by decide +kernel
theorem dX8_searches_52 : decode cX8_searches 52 = .ok (.sipush 4000, 3) := by decide +kernel
theorem dX8_searches_55 : decode cX8_searches 55 = .ok (.if_icmp .le 6, 3) := by decide +kernel
theorem dX8_searches_58 : decode cX8_searches 58 = .ok (.bipush (-8), 2) := by decide +kernel
theorem dX8_searches_60 : decode cX8_searches 60 = .ok (.ireturn, 1) := by decide +kernel
theorem dX8_searches_61 : decode cX8_searches 61 = .ok (.aload_n 0, 1) := by decide +kernel
theorem dX8_searches_62 : decode cX8_searches 62 = .ok (.iload_n 2, 1) := by decide +kernel
theorem dX8_searches_63 : decode cX8_searches 63 = .ok (.invokevirtual 366, 3) := by decide +kernel
theorem dX8_searches_66 : decode cX8_searches 66 = .ok (.iload_n 1, 1) := by decide +kernel
theorem dX8_searches_67 : decode cX8_searches 67 = .ok (.aload_n 0, 1) := by decide +kernel
theorem dX8_searches_68 : decode cX8_searches 68 = .ok (.invokevirtual 385, 3) := by decide +kernel
theorem dX8_searches_71 : decode cX8_searches 71 = .ok (.invokestatic 388, 3) := by decide +kernel
theorem dX8_searches_74 : decode cX8_searches 74 = .ok (.istore_n 1, 1) := by decide +kernel
theorem dX8_searches_75 : decode cX8_searches 75 = .ok (.iinc 2 1, 3) := by decide +kernel
theorem dX8_searches_78 : decode cX8_searches 78 = .ok (.goto (-43), 3) := by decide +kernel
theorem dX8_searches_81 : decode cX8_searches 81 = .ok (.iload_n 1, 1) := by decide +kernel
theorem dX8_searches_82 : decode cX8_searches 82 = .ok (.ireturn, 1) := by decide +kernel
theorem dX8_valueNow_0 : decode cX8_valueNow 0 = .ok (.aload_n 0, 1) := by decide +kernel
theorem dX8_valueNow_1 : decode cX8_valueNow 1 = .ok (.iconst 1, 1) := by decide +kernel
theorem dX8_valueNow_2 : decode cX8_valueNow 2 = .ok (.putfield 361, 3) := by decide +kernel
theorem dX8_valueNow_5 : decode cX8_valueNow 5 = .ok (.aload_n 0, 1) := by decide +kernel
theorem dX8_valueNow_6 : decode cX8_valueNow 6 = .ok (.invokevirtual 299, 3) := by decide +kernel
theorem dX8_valueNow_9 : decode cX8_valueNow 9 = .ok (.ifCond .eq 8, 3) := by decide +kernel
theorem dX8_valueNow_12 : decode cX8_valueNow 12 = .ok (.aload_n 0, 1) := by decide +kernel
theorem dX8_valueNow_13 : decode cX8_valueNow 13 = .ok (.invokevirtual 210, 3) := by decide +kernel
theorem dX8_valueNow_16 : decode cX8_valueNow 16 = .ok (.ireturn, 1) := by decide +kernel
theorem dX8_valueNow_17 : decode cX8_valueNow 17 = .ok (.aload_n 0, 1) := by decide +kernel
theorem dX8_valueNow_18 : decode cX8_valueNow 18 = .ok (.invokevirtual 391, 3) := by decide +kernel
theorem dX8_valueNow_21 : decode cX8_valueNow 21 = .ok (.aload_n 0, 1) := by decide +kernel
theorem dX8_valueNow_22 : decode cX8_valueNow 22 = .ok (.invokevirtual 394, 3) := by decide +kernel
theorem dX8_valueNow_25 : decode cX8_valueNow 25 = .ok (.ireturn, 1) := by decide +kernel
theorem dX8_value_0 : decode cX8_value 0 = .ok (.aload_n 0, 1) := by decide +kernel
theorem dX8_value_1 : decode cX8_value 1 = .ok (.iconst 0, 1) := by decide +kernel
theorem dX8_value_2 : decode cX8_value 2 = .ok (.putfield 59, 3) := by decide +kernel
theorem dX8_value_5 : decode cX8_value 5 = .ok (.aload_n 0, 1) := by decide +kernel
theorem dX8_value_6 : decode cX8_value 6 = .ok (.invokevirtual 397, 3) := by decide +kernel
theorem dX8_value_9 : decode cX8_value 9 = .ok (.ireturn, 1) := by decide +kernel
theorem dX8_positions_0 : decode cX8_positions 0 = .ok (.aload_n 0, 1) := by decide +kernel
theorem dX8_positions_1 : decode cX8_positions 1 = .ok (.iconst 0, 1) := by decide +kernel
theorem dX8_positions_2 : decode cX8_positions 2 = .ok (.putfield 59, 3) := by decide +kernel
theorem dX8_positions_5 : decode cX8_positions 5 = .ok (.aload_n 0, 1) := by decide +kernel
theorem dX8_positions_6 : decode cX8_positions 6 = .ok (.invokevirtual 397, 3) := by decide +kernel
theorem dX8_positions_9 : decode cX8_positions 9 = .ok (.istore_n 1, 1) := by decide +kernel
theorem dX8_positions_10 : decode cX8_positions 10 = .ok (.iload_n 1, 1) := by decide +kernel
theorem dX8_positions_11 : decode cX8_positions 11 = .ok (.bipush (-8), 2) := by decide +kernel
theorem dX8_positions_13 : decode cX8_positions 13 = .ok (.if_icmp .ne 8, 3) := by decide +kernel
theorem dX8_positions_16 : decode cX8_positions 16 = .ok (.bipush (-8), 2) := by decide +kernel
theorem dX8_positions_18 : decode cX8_positions 18 = .ok (.goto 7, 3) := by decide +kernel
theorem dX8_positions_21 : decode cX8_positions 21 = .ok (.aload_n 0, 1) := by decide +kernel
theorem dX8_positions_22 : decode cX8_positions 22 = .ok (.getfield 361, 3) := by decide +kernel
theorem dX8_positions_25 : decode cX8_positions 25 = .ok (.ireturn, 1) := by decide +kernel
theorem dX8_valueWith_0 : decode cX8_valueWith 0 = .ok (.aload_n 0, 1) := by decide +kernel
theorem dX8_valueWith_1 : decode cX8_valueWith 1 = .ok (.invokevirtual 391, 3) := by decide +kernel
theorem dX8_valueWith_4 : decode cX8_valueWith 4 = .ok (.iload_n 2, 1) := by decide +kernel
theorem dX8_valueWith_5 : decode cX8_valueWith 5 = .ok (.iconst 0, 1) := by decide +kernel
theorem dX8_valueWith_6 : decode cX8_valueWith 6 = .ok (.aload_n 0, 1) := by decide +kernel
theorem dX8_valueWith_7 : decode cX8_valueWith 7 = .ok (.getfield 9, 3) := by decide +kernel
theorem dX8_valueWith_10 : decode cX8_valueWith 10 = .ok (.sipush 187, 3) := by decide +kernel
theorem dX8_valueWith_13 : decode cX8_valueWith 13 = .ok (.aload_n 0, 1) := by decide +kernel
theorem dX8_valueWith_14 : decode cX8_valueWith 14 = .ok (.getfield 343, 3) := by decide +kernel
theorem dX8_valueWith_17 : decode cX8_valueWith 17 = .ok (.iadd, 1) := by decide +kernel
theorem dX8_valueWith_18 : decode cX8_valueWith 18 = .ok (.iaload, 1) := by decide +kernel
theorem dX8_valueWith_19 : decode cX8_valueWith 19 = .ok (.iconst 1, 1) := by decide +kernel
theorem dX8_valueWith_20 : decode cX8_valueWith 20 = .ok (.isub, 1) := by decide +kernel
theorem dX8_valueWith_21 : decode cX8_valueWith 21 = .ok (.invokestatic 62, 3) := by decide +kernel
theorem dX8_valueWith_24 : decode cX8_valueWith 24 = .ok (.istore_n 3, 1) := by decide +kernel
theorem dX8_valueWith_25 : decode cX8_valueWith 25 = .ok (.iload_n 3, 1) := by decide +kernel
theorem dX8_valueWith_26 : decode cX8_valueWith 26 = .ok (.ifCond .eq 15, 3) := by decide +kernel
theorem dX8_valueWith_29 : decode cX8_valueWith 29 = .ok (.aload_n 0, 1) := by decide +kernel
theorem dX8_valueWith_30 : decode cX8_valueWith 30 = .ok (.aload_n 0, 1) := by decide +kernel
theorem dX8_valueWith_31 : decode cX8_valueWith 31 = .ok (.getfield 343, 3) := by decide +kernel
theorem dX8_valueWith_34 : decode cX8_valueWith 34 = .ok (.iload_n 2, 1) := by decide +kernel
theorem dX8_valueWith_35 : decode cX8_valueWith 35 = .ok (.invokevirtual 217, 3) := by decide +kernel
theorem dX8_valueWith_38 : decode cX8_valueWith 38 = .ok (.goto 4, 3) := by decide +kernel
theorem dX8_valueWith_41 : decode cX8_valueWith 41 = .ok (.iconst (-1), 1) := by decide +kernel
theorem dX8_valueWith_42 : decode cX8_valueWith 42 = .ok (.istore 4, 2) := by decide +kernel
theorem dX8_valueWith_44 : decode cX8_valueWith 44 = .ok (.iload_n 1, 1) := by decide +kernel
theorem dX8_valueWith_45 : decode cX8_valueWith 45 = .ok (.ifCond .ne 24, 3) := by decide +kernel
theorem dX8_valueWith_48 : decode cX8_valueWith 48 = .ok (.iload_n 3, 1) := by decide +kernel
theorem dX8_valueWith_49 : decode cX8_valueWith 49 = .ok (.ifCond .eq 16, 3) := by decide +kernel
theorem dX8_valueWith_52 : decode cX8_valueWith 52 = .ok (.aload_n 0, 1) := by decide +kernel
theorem dX8_valueWith_53 : decode cX8_valueWith 53 = .ok (.iload 4, 2) := by decide +kernel
theorem dX8_valueWith_55 : decode cX8_valueWith 55 = .ok (.invokevirtual 372, 3) := by decide +kernel
theorem dX8_valueWith_58 : decode cX8_valueWith 58 = .ok (.ifCond .eq 7, 3) := by decide +kernel
theorem dX8_valueWith_61 : decode cX8_valueWith 61 = .ok (.iconst 1, 1) := by decide +kernel
theorem dX8_valueWith_62 : decode cX8_valueWith 62 = .ok (.goto 57, 3) := by decide +kernel
theorem dX8_valueWith_65 : decode cX8_valueWith 65 = .ok (.iconst 0, 1) := by decide +kernel
theorem dX8_valueWith_66 : decode cX8_valueWith 66 = .ok (.goto 53, 3) := by decide +kernel
theorem dX8_valueWith_69 : decode cX8_valueWith 69 = .ok (.iload_n 1, 1) := by decide +kernel
theorem dX8_valueWith_70 : decode cX8_valueWith 70 = .ok (.iconst 1, 1) := by decide +kernel
theorem dX8_valueWith_71 : decode cX8_valueWith 71 = .ok (.if_icmp .ne 7, 3) := by decide +kernel
theorem dX8_valueWith_74 : decode cX8_valueWith 74 = .ok (.iload_n 3, 1) := by decide +kernel
theorem dX8_valueWith_75 : decode cX8_valueWith 75 = .ok (.goto 44, 3) := by decide +kernel
theorem dX8_valueWith_78 : decode cX8_valueWith 78 = .ok (.iload_n 1, 1) := by decide +kernel
theorem dX8_valueWith_79 : decode cX8_valueWith 79 = .ok (.iconst 2, 1) := by decide +kernel
theorem dX8_valueWith_80 : decode cX8_valueWith 80 = .ok (.if_icmp .ne 18, 3) := by decide +kernel
theorem dX8_valueWith_83 : decode cX8_valueWith 83 = .ok (.aload_n 0, 1) := by decide +kernel
theorem dX8_valueWith_84 : decode cX8_valueWith 84 = .ok (.getfield 349, 3) := by decide +kernel
theorem dX8_valueWith_87 : decode cX8_valueWith 87 = .ok (.ifCond .le 7, 3) := by decide +kernel
theorem dX8_valueWith_90 : decode cX8_valueWith 90 = .ok (.iconst 1, 1) := by decide +kernel
theorem dX8_valueWith_91 : decode cX8_valueWith 91 = .ok (.goto 28, 3) := by decide +kernel
theorem dX8_valueWith_94 : decode cX8_valueWith 94 = .ok (.iconst 0, 1) := by decide +kernel
theorem dX8_valueWith_95 : decode cX8_valueWith 95 = .ok (.goto 24, 3) := by decide +kernel
theorem dX8_valueWith_98 : decode cX8_valueWith 98 = .ok (.aload_n 0, 1) := by decide +kernel
theorem dX8_valueWith_99 : decode cX8_valueWith 99 = .ok (.getfield 9, 3) := by decide +kernel
theorem dX8_valueWith_102 : decode cX8_valueWith 102 = .ok (.sipush 187, 3) := by decide +kernel
theorem dX8_valueWith_105 : decode cX8_valueWith 105 = .ok (.aload_n 0, 1) := by decide +kernel
theorem dX8_valueWith_106 : decode cX8_valueWith 106 = .ok (.getfield 343, 3) := by decide +kernel
theorem dX8_valueWith_109 : decode cX8_valueWith 109 = .ok (.iadd, 1) := by decide +kernel
theorem dX8_valueWith_110 : decode cX8_valueWith 110 = .ok (.iaload, 1) := by decide +kernel
theorem dX8_valueWith_111 : decode cX8_valueWith 111 = .ok (.ifCond .ne 7, 3) := by decide +kernel
theorem dX8_valueWith_114 : decode cX8_valueWith 114 = .ok (.iconst 1, 1) := by decide +kernel
theorem dX8_valueWith_115 : decode cX8_valueWith 115 = .ok (.goto 4, 3) := by decide +kernel
theorem dX8_valueWith_118 : decode cX8_valueWith 118 = .ok (.iconst 0, 1) := by decide +kernel
theorem dX8_valueWith_119 : decode cX8_valueWith 119 = .ok (.istore 5, 2) := by decide +kernel
theorem dX8_valueWith_121 : decode cX8_valueWith 121 = .ok (.iload 5, 2) := by decide +kernel
theorem dX8_valueWith_123 : decode cX8_valueWith 123 = .ok (.ifCond .ne 6, 3) := by decide +kernel
theorem dX8_valueWith_126 : decode cX8_valueWith 126 = .ok (.bipush (-7), 2) := by decide +kernel
theorem dX8_valueWith_128 : decode cX8_valueWith 128 = .ok (.ireturn, 1) := by decide +kernel
theorem dX8_valueWith_129 : decode cX8_valueWith 129 = .ok (.aload_n 0, 1) := by decide +kernel
theorem dX8_valueWith_130 : decode cX8_valueWith 130 = .ok (.iload_n 1, 1) := by decide +kernel
theorem dX8_valueWith_131 : decode cX8_valueWith 131 = .ok (.iload 4, 2) := by decide +kernel
theorem dX8_valueWith_133 : decode cX8_valueWith 133 = .ok (.invokevirtual 375, 3) := by decide +kernel
theorem dX8_valueWith_136 : decode cX8_valueWith 136 = .ok (.aload_n 0, 1) := by decide +kernel
theorem dX8_valueWith_137 : decode cX8_valueWith 137 = .ok (.invokevirtual 394, 3) := by decide +kernel
theorem dX8_valueWith_140 : decode cX8_valueWith 140 = .ok (.ireturn, 1) := by decide +kernel
theorem dX8_valueBehind_0 : decode cX8_valueBehind 0 = .ok (.aload_n 0, 1) := by decide +kernel
theorem dX8_valueBehind_1 : decode cX8_valueBehind 1 = .ok (.iload_n 1, 1) := by decide +kernel
theorem dX8_valueBehind_2 : decode cX8_valueBehind 2 = .ok (.iconst 0, 1) := by decide +kernel
theorem dX8_valueBehind_3 : decode cX8_valueBehind 3 = .ok (.iconst 3, 1) := by decide +kernel
theorem dX8_valueBehind_4 : decode cX8_valueBehind 4 = .ok (.invokestatic 62, 3) := by decide +kernel
theorem dX8_valueBehind_7 : decode cX8_valueBehind 7 = .ok (.iconst 1, 1) := by decide +kernel
theorem dX8_valueBehind_8 : decode cX8_valueBehind 8 = .ok (.invokevirtual 206, 3) := by decide +kernel
theorem dX8_valueBehind_11 : decode cX8_valueBehind 11 = .ok (.ifCond .eq 5, 3) := by decide +kernel
theorem dX8_valueBehind_14 : decode cX8_valueBehind 14 = .ok (.iconst 0, 1) := by decide +kernel
theorem dX8_valueBehind_15 : decode cX8_valueBehind 15 = .ok (.ireturn, 1) := by decide +kernel
theorem dX8_valueBehind_16 : decode cX8_valueBehind 16 = .ok (.aload_n 0, 1) := by decide +kernel
theorem dX8_valueBehind_17 : decode cX8_valueBehind 17 = .ok (.invokevirtual 299, 3) := by decide +kernel
theorem dX8_valueBehind_20 : decode cX8_valueBehind 20 = .ok (.ifCond .eq 8, 3) := by decide +kernel
theorem dX8_valueBehind_23 : decode cX8_valueBehind 23 = .ok (.bipush (-3), 2) := by decide +kernel
theorem dX8_valueBehind_25 : decode cX8_valueBehind 25 = .ok (.goto 9, 3) := by decide +kernel
theorem dX8_valueBehind_28 : decode cX8_valueBehind 28 = .ok (.aload_n 0, 1) := by decide +kernel
theorem dX8_valueBehind_29 : decode cX8_valueBehind 29 = .ok (.iload_n 1, 1) := by decide +kernel
theorem dX8_valueBehind_30 : decode cX8_valueBehind 30 = .ok (.iload_n 2, 1) := by decide +kernel
theorem dX8_valueBehind_31 : decode cX8_valueBehind 31 = .ok (.invokevirtual 400, 3) := by decide +kernel
theorem dX8_valueBehind_34 : decode cX8_valueBehind 34 = .ok (.ireturn, 1) := by decide +kernel
theorem dX8_bestMove_0 : decode cX8_bestMove 0 = .ok (.aload_n 0, 1) := by decide +kernel
theorem dX8_bestMove_1 : decode cX8_bestMove 1 = .ok (.iload_n 1, 1) := by decide +kernel
theorem dX8_bestMove_2 : decode cX8_bestMove 2 = .ok (.iconst 0, 1) := by decide +kernel
theorem dX8_bestMove_3 : decode cX8_bestMove 3 = .ok (.iconst 1, 1) := by decide +kernel
theorem dX8_bestMove_4 : decode cX8_bestMove 4 = .ok (.invokestatic 62, 3) := by decide +kernel
theorem dX8_bestMove_7 : decode cX8_bestMove 7 = .ok (.iconst 1, 1) := by decide +kernel
theorem dX8_bestMove_8 : decode cX8_bestMove 8 = .ok (.invokevirtual 206, 3) := by decide +kernel
theorem dX8_bestMove_11 : decode cX8_bestMove 11 = .ok (.ifCond .eq 5, 3) := by decide +kernel
theorem dX8_bestMove_14 : decode cX8_bestMove 14 = .ok (.iconst 0, 1) := by decide +kernel
theorem dX8_bestMove_15 : decode cX8_bestMove 15 = .ok (.ireturn, 1) := by decide +kernel
theorem dX8_bestMove_16 : decode cX8_bestMove 16 = .ok (.aload_n 0, 1) := by decide +kernel
theorem dX8_bestMove_17 : decode cX8_bestMove 17 = .ok (.invokevirtual 299, 3) := by decide +kernel
theorem dX8_bestMove_20 : decode cX8_bestMove 20 = .ok (.ifCond .eq 6, 3) := by decide +kernel
theorem dX8_bestMove_23 : decode cX8_bestMove 23 = .ok (.bipush (-3), 2) := by decide +kernel
theorem dX8_bestMove_25 : decode cX8_bestMove 25 = .ok (.ireturn, 1) := by decide +kernel
theorem dX8_bestMove_26 : decode cX8_bestMove 26 = .ok (.aload_n 0, 1) := by decide +kernel
theorem dX8_bestMove_27 : decode cX8_bestMove 27 = .ok (.invokevirtual 397, 3) := by decide +kernel
theorem dX8_bestMove_30 : decode cX8_bestMove 30 = .ok (.istore_n 2, 1) := by decide +kernel
theorem dX8_bestMove_31 : decode cX8_bestMove 31 = .ok (.iload_n 2, 1) := by decide +kernel
theorem dX8_bestMove_32 : decode cX8_bestMove 32 = .ok (.bipush (-8), 2) := by decide +kernel
theorem dX8_bestMove_34 : decode cX8_bestMove 34 = .ok (.if_icmp .ne 6, 3) := by decide +kernel
theorem dX8_bestMove_37 : decode cX8_bestMove 37 = .ok (.bipush (-8), 2) := by decide +kernel
theorem dX8_bestMove_39 : decode cX8_bestMove 39 = .ok (.ireturn, 1) := by decide +kernel
theorem dX8_bestMove_40 : decode cX8_bestMove 40 = .ok (.iconst 0, 1) := by decide +kernel
theorem dX8_bestMove_41 : decode cX8_bestMove 41 = .ok (.istore_n 3, 1) := by decide +kernel
theorem dX8_bestMove_42 : decode cX8_bestMove 42 = .ok (.iload_n 3, 1) := by decide +kernel
theorem dX8_bestMove_43 : decode cX8_bestMove 43 = .ok (.iconst 3, 1) := by decide +kernel
theorem dX8_bestMove_44 : decode cX8_bestMove 44 = .ok (.if_icmp .gt 83, 3) := by decide +kernel
theorem dX8_bestMove_47 : decode cX8_bestMove 47 = .ok (.iload_n 3, 1) := by decide +kernel
theorem dX8_bestMove_48 : decode cX8_bestMove 48 = .ok (.iconst 2, 1) := by decide +kernel
theorem dX8_bestMove_49 : decode cX8_bestMove 49 = .ok (.if_icmp .ge 22, 3) := by decide +kernel
theorem dX8_bestMove_52 : decode cX8_bestMove 52 = .ok (.aload_n 0, 1) := by decide +kernel
theorem dX8_bestMove_53 : decode cX8_bestMove 53 = .ok (.getfield 9, 3) := by decide +kernel
theorem dX8_bestMove_56 : decode cX8_bestMove 56 = .ok (.sipush 187, 3) := by decide +kernel
theorem dX8_bestMove_59 : decode cX8_bestMove 59 = .ok (.aload_n 0, 1) := by decide +kernel
theorem dX8_bestMove_60 : decode cX8_bestMove 60 = .ok (.getfield 9, 3) := by decide +kernel
theorem dX8_bestMove_63 : decode cX8_bestMove 63 = .ok (.bipush 10, 2) := by decide +kernel
theorem dX8_bestMove_65 : decode cX8_bestMove 65 = .ok (.iaload, 1) := by decide +kernel
theorem dX8_bestMove_66 : decode cX8_bestMove 66 = .ok (.iadd, 1) := by decide +kernel
theorem dX8_bestMove_67 : decode cX8_bestMove 67 = .ok (.iaload, 1) := by decide +kernel
theorem dX8_bestMove_68 : decode cX8_bestMove 68 = .ok (.goto 4, 3) := by decide +kernel
theorem dX8_bestMove_71 : decode cX8_bestMove 71 = .ok (.iconst 1, 1) := by decide +kernel
theorem dX8_bestMove_72 : decode cX8_bestMove 72 = .ok (.istore 4, 2) := by decide +kernel
theorem dX8_bestMove_74 : decode cX8_bestMove 74 = .ok (.iconst 0, 1) := by decide +kernel
theorem dX8_bestMove_75 : decode cX8_bestMove 75 = .ok (.istore 5, 2) := by decide +kernel
theorem dX8_bestMove_77 : decode cX8_bestMove 77 = .ok (.iload 5, 2) := by decide +kernel
theorem dX8_bestMove_79 : decode cX8_bestMove 79 = .ok (.iload 4, 2) := by decide +kernel
theorem dX8_bestMove_81 : decode cX8_bestMove 81 = .ok (.if_icmp .ge 40, 3) := by decide +kernel
theorem dX8_bestMove_84 : decode cX8_bestMove 84 = .ok (.aload_n 0, 1) := by decide +kernel
theorem dX8_bestMove_85 : decode cX8_bestMove 85 = .ok (.iload_n 3, 1) := by decide +kernel
theorem dX8_bestMove_86 : decode cX8_bestMove 86 = .ok (.iload 5, 2) := by decide +kernel
theorem dX8_bestMove_88 : decode cX8_bestMove 88 = .ok (.invokevirtual 400, 3) := by decide +kernel
theorem dX8_bestMove_91 : decode cX8_bestMove 91 = .ok (.iload_n 2, 1) := by decide +kernel
theorem dX8_bestMove_92 : decode cX8_bestMove 92 = .ok (.if_icmp .ne 23, 3) := by decide +kernel
theorem dX8_bestMove_95 : decode cX8_bestMove 95 = .ok (.iload_n 1, 1) := by decide +kernel
theorem dX8_bestMove_96 : decode cX8_bestMove 96 = .ok (.ifCond .ne 7, 3) := by decide +kernel
theorem dX8_bestMove_99 : decode cX8_bestMove 99 = .ok (.iload_n 3, 1) := by decide +kernel
theorem dX8_bestMove_100 : decode cX8_bestMove 100 = .ok (.goto 14, 3) := by decide +kernel
theorem dX8_bestMove_103 : decode cX8_bestMove 103 = .ok (.iload_n 3, 1) := by decide +kernel
theorem dX8_bestMove_104 : decode cX8_bestMove 104 = .ok (.iconst 2, 1) := by decide +kernel
theorem dX8_bestMove_105 : decode cX8_bestMove 105 = .ok (.if_icmp .ge 8, 3) := by decide +kernel
theorem dX8_bestMove_108 : decode cX8_bestMove 108 = .ok (.iload 5, 2) := by decide +kernel
theorem dX8_bestMove_110 : decode cX8_bestMove 110 = .ok (.goto 4, 3) := by decide +kernel
theorem dX8_bestMove_113 : decode cX8_bestMove 113 = .ok (.iconst (-1), 1) := by decide +kernel
theorem dX8_bestMove_114 : decode cX8_bestMove 114 = .ok (.ireturn, 1) := by decide +kernel
theorem dX8_bestMove_115 : decode cX8_bestMove 115 = .ok (.iinc 5 1, 3) := by decide +kernel
theorem dX8_bestMove_118 : decode cX8_bestMove 118 = .ok (.goto (-41), 3) := by decide +kernel
theorem dX8_bestMove_121 : decode cX8_bestMove 121 = .ok (.iinc 3 1, 3) := by decide +kernel
theorem dX8_bestMove_124 : decode cX8_bestMove 124 = .ok (.goto (-82), 3) := by decide +kernel
theorem dX8_bestMove_127 : decode cX8_bestMove 127 = .ok (.iconst (-1), 1) := by decide +kernel
theorem dX8_bestMove_128 : decode cX8_bestMove 128 = .ok (.ireturn, 1) := by decide +kernel
theorem dX8_total_0 : decode cX8_total 0 = .ok (.aload_n 0, 1) := by decide +kernel
theorem dX8_total_1 : decode cX8_total 1 = .ok (.iload_n 1, 1) := by decide +kernel
theorem dX8_total_2 : decode cX8_total 2 = .ok (.iconst 0, 1) := by decide +kernel
theorem dX8_total_3 : decode cX8_total 3 = .ok (.bipush 6, 2) := by decide +kernel
theorem dX8_total_5 : decode cX8_total 5 = .ok (.invokestatic 62, 3) := by decide +kernel
theorem dX8_total_8 : decode cX8_total 8 = .ok (.iconst 1, 1) := by decide +kernel
theorem dX8_total_9 : decode cX8_total 9 = .ok (.invokevirtual 206, 3) := by decide +kernel
theorem dX8_total_12 : decode cX8_total 12 = .ok (.ifCond .eq 7, 3) := by decide +kernel
theorem dX8_total_15 : decode cX8_total 15 = .ok (.iconst 0, 1) := by decide +kernel
theorem dX8_total_16 : decode cX8_total 16 = .ok (.goto 13, 3) := by decide +kernel
theorem dX8_total_19 : decode cX8_total 19 = .ok (.aload_n 0, 1) := by decide +kernel
theorem dX8_total_20 : decode cX8_total 20 = .ok (.getfield 9, 3) := by decide +kernel
theorem dX8_total_23 : decode cX8_total 23 = .ok (.sipush 231, 3) := by decide +kernel
theorem dX8_total_26 : decode cX8_total 26 = .ok (.iload_n 1, 1) := by decide +kernel
theorem dX8_total_27 : decode cX8_total 27 = .ok (.iadd, 1) := by decide +kernel
theorem dX8_total_28 : decode cX8_total 28 = .ok (.iaload, 1) := by decide +kernel
theorem dX8_total_29 : decode cX8_total 29 = .ok (.ireturn, 1) := by decide +kernel
theorem dX8_logPart_0 : decode cX8_logPart 0 = .ok (.aload_n 0, 1) := by decide +kernel
theorem dX8_logPart_1 : decode cX8_logPart 1 = .ok (.iload_n 2, 1) := by decide +kernel
theorem dX8_logPart_2 : decode cX8_logPart 2 = .ok (.iconst 0, 1) := by decide +kernel
theorem dX8_logPart_3 : decode cX8_logPart 3 = .ok (.iconst 3, 1) := by decide +kernel
theorem dX8_logPart_4 : decode cX8_logPart 4 = .ok (.invokestatic 62, 3) := by decide +kernel
theorem dX8_logPart_7 : decode cX8_logPart 7 = .ok (.iconst 1, 1) := by decide +kernel
theorem dX8_logPart_8 : decode cX8_logPart 8 = .ok (.invokevirtual 206, 3) := by decide +kernel
theorem dX8_logPart_11 : decode cX8_logPart 11 = .ok (.ifCond .eq 5, 3) := by decide +kernel
theorem dX8_logPart_14 : decode cX8_logPart 14 = .ok (.iconst 0, 1) := by decide +kernel
theorem dX8_logPart_15 : decode cX8_logPart 15 = .ok (.ireturn, 1) := by decide +kernel
theorem dX8_logPart_16 : decode cX8_logPart 16 = .ok (.bipush 30, 2) := by decide +kernel
theorem dX8_logPart_18 : decode cX8_logPart 18 = .ok (.aload_n 0, 1) := by decide +kernel
theorem dX8_logPart_19 : decode cX8_logPart 19 = .ok (.getfield 9, 3) := by decide +kernel
theorem dX8_logPart_22 : decode cX8_logPart 22 = .ok (.bipush 13, 2) := by decide +kernel
theorem dX8_logPart_24 : decode cX8_logPart 24 = .ok (.iaload, 1) := by decide +kernel
theorem dX8_logPart_25 : decode cX8_logPart 25 = .ok (.invokestatic 114, 3) := by decide +kernel
theorem dX8_logPart_28 : decode cX8_logPart 28 = .ok (.istore_n 3, 1) := by decide +kernel
theorem dX8_logPart_29 : decode cX8_logPart 29 = .ok (.iload_n 1, 1) := by decide +kernel
theorem dX8_logPart_30 : decode cX8_logPart 30 = .ok (.iconst 0, 1) := by decide +kernel
theorem dX8_logPart_31 : decode cX8_logPart 31 = .ok (.iload_n 3, 1) := by decide +kernel
theorem dX8_logPart_32 : decode cX8_logPart 32 = .ok (.iconst 1, 1) := by decide +kernel
theorem dX8_logPart_33 : decode cX8_logPart 33 = .ok (.isub, 1) := by decide +kernel
theorem dX8_logPart_34 : decode cX8_logPart 34 = .ok (.invokestatic 62, 3) := by decide +kernel
theorem dX8_logPart_37 : decode cX8_logPart 37 = .ok (.ifCond .eq 33, 3) := by decide +kernel
theorem dX8_logPart_40 : decode cX8_logPart 40 = .ok (.aload_n 0, 1) := by decide +kernel
theorem dX8_logPart_41 : decode cX8_logPart 41 = .ok (.getfield 9, 3) := by decide +kernel
theorem dX8_logPart_44 : decode cX8_logPart 44 = .ok (.sipush 238, 3) := by decide +kernel
theorem dX8_logPart_47 : decode cX8_logPart 47 = .ok (.iconst 4, 1) := by decide +kernel
theorem dX8_logPart_48 : decode cX8_logPart 48 = .ok (.aload_n 0, 1) := by decide +kernel
theorem dX8_logPart_49 : decode cX8_logPart 49 = .ok (.getfield 9, 3) := by decide +kernel
theorem dX8_logPart_52 : decode cX8_logPart 52 = .ok (.bipush 13, 2) := by decide +kernel
theorem dX8_logPart_54 : decode cX8_logPart 54 = .ok (.iaload, 1) := by decide +kernel
theorem dX8_logPart_55 : decode cX8_logPart 55 = .ok (.iconst 1, 1) := by decide +kernel
theorem dX8_logPart_56 : decode cX8_logPart 56 = .ok (.isub, 1) := by decide +kernel
theorem dX8_logPart_57 : decode cX8_logPart 57 = .ok (.iload_n 1, 1) := by decide +kernel
theorem dX8_logPart_58 : decode cX8_logPart 58 = .ok (.isub, 1) := by decide +kernel
theorem dX8_logPart_59 : decode cX8_logPart 59 = .ok (.bipush 30, 2) := by decide +kernel
theorem dX8_logPart_61 : decode cX8_logPart 61 = .ok (.irem, 1) := by decide +kernel
theorem dX8_logPart_62 : decode cX8_logPart 62 = .ok (.imul, 1) := by decide +kernel
theorem dX8_logPart_63 : decode cX8_logPart 63 = .ok (.iadd, 1) := by decide +kernel
theorem dX8_logPart_64 : decode cX8_logPart 64 = .ok (.iload_n 2, 1) := by decide +kernel
theorem dX8_logPart_65 : decode cX8_logPart 65 = .ok (.iadd, 1) := by decide +kernel
theorem dX8_logPart_66 : decode cX8_logPart 66 = .ok (.iaload, 1) := by decide +kernel
theorem dX8_logPart_67 : decode cX8_logPart 67 = .ok (.goto 6, 3) := by decide +kernel
theorem dX8_logPart_70 : decode cX8_logPart 70 = .ok (.sipush (-1000), 3) := by decide +kernel
theorem dX8_logPart_73 : decode cX8_logPart 73 = .ok (.ireturn, 1) := by decide +kernel
theorem dX8_puts_0 : decode cX8_puts 0 = .ok (.aload_n 0, 1) := by decide +kernel
theorem dX8_puts_1 : decode cX8_puts 1 = .ok (.getfield 56, 3) := by decide +kernel
theorem dX8_puts_4 : decode cX8_puts 4 = .ok (.aload_n 0, 1) := by decide +kernel
theorem dX8_puts_5 : decode cX8_puts 5 = .ok (.getfield 403, 3) := by decide +kernel
theorem dX8_puts_8 : decode cX8_puts 8 = .ok (.iload_n 1, 1) := by decide +kernel
theorem dX8_puts_9 : decode cX8_puts 9 = .ok (.i2b, 1) := by decide +kernel
theorem dX8_puts_10 : decode cX8_puts 10 = .ok (.bastore, 1) := by decide +kernel
theorem dX8_puts_11 : decode cX8_puts 11 = .ok (.aload_n 0, 1) := by decide +kernel
theorem dX8_puts_12 : decode cX8_puts 12 = .ok (.dup, 1) := by decide +kernel
theorem dX8_puts_13 : decode cX8_puts 13 = .ok (.getfield 403, 3) := by decide +kernel
theorem dX8_puts_16 : decode cX8_puts 16 = .ok (.iconst 1, 1) := by decide +kernel
theorem dX8_puts_17 : decode cX8_puts 17 = .ok (.iadd, 1) := by decide +kernel
theorem dX8_puts_18 : decode cX8_puts 18 = .ok (.putfield 403, 3) := by decide +kernel
theorem dX8_puts_21 : decode cX8_puts 21 = .ok (.return_, 1) := by decide +kernel
theorem dX8_only_0 : decode cX8_only 0 = .ok (.iconst 0, 1) := by decide +kernel
theorem dX8_only_1 : decode cX8_only 1 = .ok (.istore_n 1, 1) := by decide +kernel
theorem dX8_only_2 : decode cX8_only 2 = .ok (.iload_n 1, 1) := by decide +kernel
theorem dX8_only_3 : decode cX8_only 3 = .ok (.bipush 8, 2) := by decide +kernel
theorem dX8_only_5 : decode cX8_only 5 = .ok (.if_icmp .ge 16, 3) := by decide +kernel
theorem dX8_only_8 : decode cX8_only 8 = .ok (.iload_n 0, 1) := by decide +kernel
theorem dX8_only_9 : decode cX8_only 9 = .ok (.iconst 1, 1) := by decide +kernel
theorem dX8_only_10 : decode cX8_only 10 = .ok (.iload_n 1, 1) := by decide +kernel
theorem dX8_only_11 : decode cX8_only 11 = .ok (.ishl, 1) := by decide +kernel
theorem dX8_only_12 : decode cX8_only 12 = .ok (.if_icmp .eq 9, 3) := by decide +kernel
theorem dX8_only_15 : decode cX8_only 15 = .ok (.iinc 1 1, 3) := by decide +kernel
theorem dX8_only_18 : decode cX8_only 18 = .ok (.goto (-16), 3) := by decide +kernel
theorem dX8_only_21 : decode cX8_only 21 = .ok (.iload_n 1, 1) := by decide +kernel
theorem dX8_only_22 : decode cX8_only 22 = .ok (.bipush 8, 2) := by decide +kernel
theorem dX8_only_24 : decode cX8_only 24 = .ok (.if_icmp .ne 7, 3) := by decide +kernel
theorem dX8_only_27 : decode cX8_only 27 = .ok (.iconst (-1), 1) := by decide +kernel
theorem dX8_only_28 : decode cX8_only 28 = .ok (.goto 4, 3) := by decide +kernel
theorem dX8_only_31 : decode cX8_only 31 = .ok (.iload_n 1, 1) := by decide +kernel
theorem dX8_only_32 : decode cX8_only 32 = .ok (.ireturn, 1) := by decide +kernel
theorem dX8_writeHand_0 : decode cX8_writeHand 0 = .ok (.aload_n 0, 1) := by decide +kernel
theorem dX8_writeHand_1 : decode cX8_writeHand 1 = .ok (.aload_n 0, 1) := by decide +kernel
theorem dX8_writeHand_2 : decode cX8_writeHand 2 = .ok (.iload_n 1, 1) := by decide +kernel
theorem dX8_writeHand_3 : decode cX8_writeHand 3 = .ok (.invokevirtual 66, 3) := by decide +kernel
theorem dX8_writeHand_6 : decode cX8_writeHand 6 = .ok (.iconst 1, 1) := by decide +kernel
theorem dX8_writeHand_7 : decode cX8_writeHand 7 = .ok (.invokevirtual 206, 3) := by decide +kernel
theorem dX8_writeHand_10 : decode cX8_writeHand 10 = .ok (.ifCond .eq 5, 3) := by decide +kernel
theorem dX8_writeHand_13 : decode cX8_writeHand 13 = .ok (.iconst 0, 1) := by decide +kernel
theorem dX8_writeHand_14 : decode cX8_writeHand 14 = .ok (.ireturn, 1) := by decide +kernel
theorem dX8_writeHand_15 : decode cX8_writeHand 15 = .ok (.aload_n 0, 1) := by decide +kernel
theorem dX8_writeHand_16 : decode cX8_writeHand 16 = .ok (.iconst 0, 1) := by decide +kernel
theorem dX8_writeHand_17 : decode cX8_writeHand 17 = .ok (.putfield 403, 3) := by decide +kernel
theorem dX8_writeHand_20 : decode cX8_writeHand 20 = .ok (.iconst 0, 1) := by decide +kernel
theorem dX8_writeHand_21 : decode cX8_writeHand 21 = .ok (.istore_n 3, 1) := by decide +kernel
theorem dX8_writeHand_22 : decode cX8_writeHand 22 = .ok (.iload_n 3, 1) := by decide +kernel
theorem dX8_writeHand_23 : decode cX8_writeHand 23 = .ok (.aload_n 0, 1) := by decide +kernel
theorem dX8_writeHand_24 : decode cX8_writeHand 24 = .ok (.getfield 9, 3) := by decide +kernel
theorem dX8_writeHand_27 : decode cX8_writeHand 27 = .ok (.sipush 187, 3) := by decide +kernel
theorem dX8_writeHand_30 : decode cX8_writeHand 30 = .ok (.iload_n 1, 1) := by decide +kernel
theorem dX8_writeHand_31 : decode cX8_writeHand 31 = .ok (.iadd, 1) := by decide +kernel
theorem dX8_writeHand_32 : decode cX8_writeHand 32 = .ok (.iaload, 1) := by decide +kernel
theorem dX8_writeHand_33 : decode cX8_writeHand 33 = .ok (.if_icmp .ge 139, 3) := by decide +kernel
theorem dX8_writeHand_36 : decode cX8_writeHand 36 = .ok (.aload_n 0, 1) := by decide +kernel
theorem dX8_writeHand_37 : decode cX8_writeHand 37 = .ok (.iload_n 1, 1) := by decide +kernel
theorem dX8_writeHand_38 : decode cX8_writeHand 38 = .ok (.iload_n 3, 1) := by decide +kernel
theorem dX8_writeHand_39 : decode cX8_writeHand 39 = .ok (.invokevirtual 217, 3) := by decide +kernel
theorem dX8_writeHand_42 : decode cX8_writeHand 42 = .ok (.istore 4, 2) := by decide +kernel
theorem dX8_writeHand_44 : decode cX8_writeHand 44 = .ok (.iload_n 2, 1) := by decide +kernel
theorem dX8_writeHand_45 : decode cX8_writeHand 45 = .ok (.ifCond .eq 19, 3) := by decide +kernel
theorem dX8_writeHand_48 : decode cX8_writeHand 48 = .ok (.aload_n 0, 1) := by decide +kernel
theorem dX8_writeHand_49 : decode cX8_writeHand 49 = .ok (.getfield 9, 3) := by decide +kernel
theorem dX8_writeHand_52 : decode cX8_writeHand 52 = .ok (.bipush 27, 2) := by decide +kernel
theorem dX8_writeHand_54 : decode cX8_writeHand 54 = .ok (.iload 4, 2) := by decide +kernel
theorem dX8_writeHand_56 : decode cX8_writeHand 56 = .ok (.iadd, 1) := by decide +kernel
theorem dX8_writeHand_57 : decode cX8_writeHand 57 = .ok (.iaload, 1) := by decide +kernel
theorem dX8_writeHand_58 : decode cX8_writeHand 58 = .ok (.invokestatic 70, 3) := by decide +kernel
theorem dX8_writeHand_61 : decode cX8_writeHand 61 = .ok (.goto 16, 3) := by decide +kernel
theorem dX8_writeHand_64 : decode cX8_writeHand 64 = .ok (.aload_n 0, 1) := by decide +kernel
theorem dX8_writeHand_65 : decode cX8_writeHand 65 = .ok (.getfield 9, 3) := by decide +kernel
theorem dX8_writeHand_68 : decode cX8_writeHand 68 = .ok (.bipush 67, 2) := by decide +kernel
theorem dX8_writeHand_70 : decode cX8_writeHand 70 = .ok (.iload 4, 2) := by decide +kernel
theorem dX8_writeHand_72 : decode cX8_writeHand 72 = .ok (.iadd, 1) := by decide +kernel
theorem dX8_writeHand_73 : decode cX8_writeHand 73 = .ok (.iaload, 1) := by decide +kernel
theorem dX8_writeHand_74 : decode cX8_writeHand 74 = .ok (.invokestatic 406, 3) := by decide +kernel
theorem dX8_writeHand_77 : decode cX8_writeHand 77 = .ok (.istore 5, 2) := by decide +kernel
theorem dX8_writeHand_79 : decode cX8_writeHand 79 = .ok (.iload_n 2, 1) := by decide +kernel
theorem dX8_writeHand_80 : decode cX8_writeHand 80 = .ok (.ifCond .eq 21, 3) := by decide +kernel
theorem dX8_writeHand_83 : decode cX8_writeHand 83 = .ok (.aload_n 0, 1) := by decide +kernel
theorem dX8_writeHand_84 : decode cX8_writeHand 84 = .ok (.getfield 9, 3) := by decide +kernel
theorem dX8_writeHand_87 : decode cX8_writeHand 87 = .ok (.bipush 27, 2) := by decide +kernel
theorem dX8_writeHand_89 : decode cX8_writeHand 89 = .ok (.iload 4, 2) := by decide +kernel
theorem dX8_writeHand_91 : decode cX8_writeHand 91 = .ok (.iadd, 1) := by decide +kernel
theorem dX8_writeHand_92 : decode cX8_writeHand 92 = .ok (.iaload, 1) := by decide +kernel
theorem dX8_writeHand_93 : decode cX8_writeHand 93 = .ok (.invokestatic 74, 3) := by decide +kernel
theorem dX8_writeHand_96 : decode cX8_writeHand 96 = .ok (.iconst 1, 1) := by decide +kernel
theorem dX8_writeHand_97 : decode cX8_writeHand 97 = .ok (.isub, 1) := by decide +kernel
theorem dX8_writeHand_98 : decode cX8_writeHand 98 = .ok (.goto 16, 3) := by decide +kernel
theorem dX8_writeHand_101 : decode cX8_writeHand 101 = .ok (.aload_n 0, 1) := by decide +kernel
theorem dX8_writeHand_102 : decode cX8_writeHand 102 = .ok (.getfield 9, 3) := by decide +kernel
theorem dX8_writeHand_105 : decode cX8_writeHand 105 = .ok (.bipush 107, 2) := by decide +kernel
theorem dX8_writeHand_107 : decode cX8_writeHand 107 = .ok (.iload 4, 2) := by decide +kernel
theorem dX8_writeHand_109 : decode cX8_writeHand 109 = .ok (.iadd, 1) := by decide +kernel
theorem dX8_writeHand_110 : decode cX8_writeHand 110 = .ok (.iaload, 1) := by decide +kernel
theorem dX8_writeHand_111 : decode cX8_writeHand 111 = .ok (.invokestatic 406, 3) := by decide +kernel
theorem dX8_writeHand_114 : decode cX8_writeHand 114 = .ok (.istore 6, 2) := by decide +kernel
theorem dX8_writeHand_116 : decode cX8_writeHand 116 = .ok (.iload_n 3, 1) := by decide +kernel
theorem dX8_writeHand_117 : decode cX8_writeHand 117 = .ok (.ifCond .le 9, 3) := by decide +kernel
theorem dX8_writeHand_120 : decode cX8_writeHand 120 = .ok (.aload_n 0, 1) := by decide +kernel
theorem dX8_writeHand_121 : decode cX8_writeHand 121 = .ok (.bipush 32, 2) := by decide +kernel
theorem dX8_writeHand_123 : decode cX8_writeHand 123 = .ok (.invokevirtual 409, 3) := by decide +kernel
theorem dX8_writeHand_126 : decode cX8_writeHand 126 = .ok (.aload_n 0, 1) := by decide +kernel
theorem dX8_writeHand_127 : decode cX8_writeHand 127 = .ok (.iload 5, 2) := by decide +kernel
theorem dX8_writeHand_129 : decode cX8_writeHand 129 = .ok (.iconst (-1), 1) := by decide +kernel
theorem dX8_writeHand_130 : decode cX8_writeHand 130 = .ok (.if_icmp .ne 8, 3) := by decide +kernel
theorem dX8_writeHand_133 : decode cX8_writeHand 133 = .ok (.bipush 63, 2) := by decide +kernel
theorem dX8_writeHand_135 : decode cX8_writeHand 135 = .ok (.goto 8, 3) := by decide +kernel
theorem dX8_writeHand_138 : decode cX8_writeHand 138 = .ok (.bipush 97, 2) := by decide +kernel
theorem dX8_writeHand_140 : decode cX8_writeHand 140 = .ok (.iload 5, 2) := by decide +kernel
theorem dX8_writeHand_142 : decode cX8_writeHand 142 = .ok (.iadd, 1) := by decide +kernel
theorem dX8_writeHand_143 : decode cX8_writeHand 143 = .ok (.invokevirtual 409, 3) := by decide +kernel
theorem dX8_writeHand_146 : decode cX8_writeHand 146 = .ok (.aload_n 0, 1) := by decide +kernel
theorem dX8_writeHand_147 : decode cX8_writeHand 147 = .ok (.iload 6, 2) := by decide +kernel
theorem dX8_writeHand_149 : decode cX8_writeHand 149 = .ok (.iconst (-1), 1) := by decide +kernel
theorem dX8_writeHand_150 : decode cX8_writeHand 150 = .ok (.if_icmp .ne 8, 3) := by decide +kernel
theorem dX8_writeHand_153 : decode cX8_writeHand 153 = .ok (.bipush 63, 2) := by decide +kernel
theorem dX8_writeHand_155 : decode cX8_writeHand 155 = .ok (.goto 8, 3) := by decide +kernel
theorem dX8_writeHand_158 : decode cX8_writeHand 158 = .ok (.bipush 49, 2) := by decide +kernel
theorem dX8_writeHand_160 : decode cX8_writeHand 160 = .ok (.iload 6, 2) := by decide +kernel
theorem dX8_writeHand_162 : decode cX8_writeHand 162 = .ok (.iadd, 1) := by decide +kernel
theorem dX8_writeHand_163 : decode cX8_writeHand 163 = .ok (.invokevirtual 409, 3) := by decide +kernel
theorem dX8_writeHand_166 : decode cX8_writeHand 166 = .ok (.iinc 3 1, 3) := by decide +kernel
theorem dX8_writeHand_169 : decode cX8_writeHand 169 = .ok (.goto (-147), 3) := by decide +kernel
theorem dX8_writeHand_172 : decode cX8_writeHand 172 = .ok (.aload_n 0, 1) := by decide +kernel
theorem dX8_writeHand_173 : decode cX8_writeHand 173 = .ok (.getfield 403, 3) := by decide +kernel
theorem dX8_writeHand_176 : decode cX8_writeHand 176 = .ok (.ireturn, 1) := by decide +kernel
theorem dX8_outputByte_0 : decode cX8_outputByte 0 = .ok (.aload_n 0, 1) := by decide +kernel
theorem dX8_outputByte_1 : decode cX8_outputByte 1 = .ok (.iconst 0, 1) := by decide +kernel
theorem dX8_outputByte_2 : decode cX8_outputByte 2 = .ok (.putfield 59, 3) := by decide +kernel
theorem dX8_outputByte_5 : decode cX8_outputByte 5 = .ok (.iload_n 1, 1) := by decide +kernel
theorem dX8_outputByte_6 : decode cX8_outputByte 6 = .ok (.iconst 0, 1) := by decide +kernel
theorem dX8_outputByte_7 : decode cX8_outputByte 7 = .ok (.aload_n 0, 1) := by decide +kernel
theorem dX8_outputByte_8 : decode cX8_outputByte 8 = .ok (.getfield 403, 3) := by decide +kernel
theorem dX8_outputByte_11 : decode cX8_outputByte 11 = .ok (.iconst 1, 1) := by decide +kernel
theorem dX8_outputByte_12 : decode cX8_outputByte 12 = .ok (.isub, 1) := by decide +kernel
theorem dX8_outputByte_13 : decode cX8_outputByte 13 = .ok (.invokestatic 62, 3) := by decide +kernel
theorem dX8_outputByte_16 : decode cX8_outputByte 16 = .ok (.ifCond .eq 12, 3) := by decide +kernel
theorem dX8_outputByte_19 : decode cX8_outputByte 19 = .ok (.aload_n 0, 1) := by decide +kernel
theorem dX8_outputByte_20 : decode cX8_outputByte 20 = .ok (.getfield 56, 3) := by decide +kernel
theorem dX8_outputByte_23 : decode cX8_outputByte 23 = .ok (.iload_n 1, 1) := by decide +kernel
theorem dX8_outputByte_24 : decode cX8_outputByte 24 = .ok (.baload, 1) := by decide +kernel
theorem dX8_outputByte_25 : decode cX8_outputByte 25 = .ok (.goto 4, 3) := by decide +kernel
theorem dX8_outputByte_28 : decode cX8_outputByte 28 = .ok (.iconst (-1), 1) := by decide +kernel
theorem dX8_outputByte_29 : decode cX8_outputByte 29 = .ok (.ireturn, 1) := by decide +kernel
theorem dX8_saveSnapshot_0 : decode cX8_saveSnapshot 0 = .ok (.aload_n 0, 1) := by decide +kernel
theorem dX8_saveSnapshot_1 : decode cX8_saveSnapshot 1 = .ok (.iload_n 1, 1) := by decide +kernel
theorem dX8_saveSnapshot_2 : decode cX8_saveSnapshot 2 = .ok (.iconst 0, 1) := by decide +kernel
theorem dX8_saveSnapshot_3 : decode cX8_saveSnapshot 3 = .ok (.iconst 1, 1) := by decide +kernel
theorem dX8_saveSnapshot_4 : decode cX8_saveSnapshot 4 = .ok (.invokestatic 62, 3) := by decide +kernel
theorem dX8_saveSnapshot_7 : decode cX8_saveSnapshot 7 = .ok (.iconst 1, 1) := by decide +kernel
theorem dX8_saveSnapshot_8 : decode cX8_saveSnapshot 8 = .ok (.invokevirtual 206, 3) := by decide +kernel
theorem dX8_saveSnapshot_11 : decode cX8_saveSnapshot 11 = .ok (.ifCond .eq 5, 3) := by decide +kernel
theorem dX8_saveSnapshot_14 : decode cX8_saveSnapshot 14 = .ok (.iconst 0, 1) := by decide +kernel
theorem dX8_saveSnapshot_15 : decode cX8_saveSnapshot 15 = .ok (.ireturn, 1) := by decide +kernel
theorem dX8_saveSnapshot_16 : decode cX8_saveSnapshot 16 = .ok (.aload_n 0, 1) := by decide +kernel
theorem dX8_saveSnapshot_17 : decode cX8_saveSnapshot 17 = .ok (.getfield 9, 3) := by decide +kernel
theorem dX8_saveSnapshot_20 : decode cX8_saveSnapshot 20 = .ok (.iconst 0, 1) := by decide +kernel
theorem dX8_saveSnapshot_21 : decode cX8_saveSnapshot 21 = .ok (.aload_n 0, 1) := by decide +kernel
theorem dX8_saveSnapshot_22 : decode cX8_saveSnapshot 22 = .ok (.getfield 22, 3) := by decide +kernel
theorem dX8_saveSnapshot_25 : decode cX8_saveSnapshot 25 = .ok (.iload_n 1, 1) := by decide +kernel
theorem dX8_saveSnapshot_26 : decode cX8_saveSnapshot 26 = .ok (.invokestatic 197, 3) := by decide +kernel
theorem dX8_saveSnapshot_29 : decode cX8_saveSnapshot 29 = .ok (.aload_n 0, 1) := by decide +kernel
theorem dX8_saveSnapshot_30 : decode cX8_saveSnapshot 30 = .ok (.getfield 25, 3) := by decide +kernel
theorem dX8_saveSnapshot_33 : decode cX8_saveSnapshot 33 = .ok (.iload_n 1, 1) := by decide +kernel
theorem dX8_saveSnapshot_34 : decode cX8_saveSnapshot 34 = .ok (.iconst 1, 1) := by decide +kernel
theorem dX8_saveSnapshot_35 : decode cX8_saveSnapshot 35 = .ok (.bastore, 1) := by decide +kernel
theorem dX8_saveSnapshot_36 : decode cX8_saveSnapshot 36 = .ok (.aload_n 0, 1) := by decide +kernel
theorem dX8_saveSnapshot_37 : decode cX8_saveSnapshot 37 = .ok (.invokevirtual 210, 3) := by decide +kernel
theorem dX8_saveSnapshot_40 : decode cX8_saveSnapshot 40 = .ok (.ireturn, 1) := by decide +kernel
theorem dX8_restoreSnapshot_0 : decode cX8_restoreSnapshot 0 = .ok (.aload_n 0, 1) := by decide +kernel
theorem dX8_restoreSnapshot_1 : decode cX8_restoreSnapshot 1 = .ok (.iload_n 1, 1) := by decide +kernel
theorem dX8_restoreSnapshot_2 : decode cX8_restoreSnapshot 2 = .ok (.iconst 0, 1) := by decide +kernel
theorem dX8_restoreSnapshot_3 : decode cX8_restoreSnapshot 3 = .ok (.iconst 1, 1) := by decide +kernel
theorem dX8_restoreSnapshot_4 : decode cX8_restoreSnapshot 4 = .ok (.invokestatic 62, 3) := by decide +kernel
theorem dX8_restoreSnapshot_7 : decode cX8_restoreSnapshot 7 = .ok (.iconst 1, 1) := by decide +kernel
theorem dX8_restoreSnapshot_8 : decode cX8_restoreSnapshot 8 = .ok (.invokevirtual 206, 3) := by decide +kernel
theorem dX8_restoreSnapshot_11 : decode cX8_restoreSnapshot 11 = .ok (.ifCond .eq 5, 3) := by decide +kernel
theorem dX8_restoreSnapshot_14 : decode cX8_restoreSnapshot 14 = .ok (.iconst 0, 1) := by decide +kernel
theorem dX8_restoreSnapshot_15 : decode cX8_restoreSnapshot 15 = .ok (.ireturn, 1) := by decide +kernel
theorem dX8_restoreSnapshot_16 : decode cX8_restoreSnapshot 16 = .ok (.aload_n 0, 1) := by decide +kernel
theorem dX8_restoreSnapshot_17 : decode cX8_restoreSnapshot 17 = .ok (.getfield 25, 3) := by decide +kernel
theorem dX8_restoreSnapshot_20 : decode cX8_restoreSnapshot 20 = .ok (.iload_n 1, 1) := by decide +kernel
theorem dX8_restoreSnapshot_21 : decode cX8_restoreSnapshot 21 = .ok (.baload, 1) := by decide +kernel
theorem dX8_restoreSnapshot_22 : decode cX8_restoreSnapshot 22 = .ok (.ifCond .ne 5, 3) := by decide +kernel
theorem dX8_restoreSnapshot_25 : decode cX8_restoreSnapshot 25 = .ok (.iconst (-1), 1) := by decide +kernel
theorem dX8_restoreSnapshot_26 : decode cX8_restoreSnapshot 26 = .ok (.ireturn, 1) := by decide +kernel
theorem dX8_restoreSnapshot_27 : decode cX8_restoreSnapshot 27 = .ok (.aload_n 0, 1) := by decide +kernel
theorem dX8_restoreSnapshot_28 : decode cX8_restoreSnapshot 28 = .ok (.getfield 22, 3) := by decide +kernel
theorem dX8_restoreSnapshot_31 : decode cX8_restoreSnapshot 31 = .ok (.iload_n 1, 1) := by decide +kernel
theorem dX8_restoreSnapshot_32 : decode cX8_restoreSnapshot 32 = .ok (.aload_n 0, 1) := by decide +kernel
theorem dX8_restoreSnapshot_33 : decode cX8_restoreSnapshot 33 = .ok (.getfield 9, 3) := by decide +kernel
theorem dX8_restoreSnapshot_36 : decode cX8_restoreSnapshot 36 = .ok (.iconst 0, 1) := by decide +kernel
theorem dX8_restoreSnapshot_37 : decode cX8_restoreSnapshot 37 = .ok (.invokestatic 197, 3) := by decide +kernel
theorem dX8_restoreSnapshot_40 : decode cX8_restoreSnapshot 40 = .ok (.aload_n 0, 1) := by decide +kernel
theorem dX8_restoreSnapshot_41 : decode cX8_restoreSnapshot 41 = .ok (.iconst 0, 1) := by decide +kernel
theorem dX8_restoreSnapshot_42 : decode cX8_restoreSnapshot 42 = .ok (.putfield 200, 3) := by decide +kernel
theorem dX8_restoreSnapshot_45 : decode cX8_restoreSnapshot 45 = .ok (.aload_n 0, 1) := by decide +kernel
theorem dX8_restoreSnapshot_46 : decode cX8_restoreSnapshot 46 = .ok (.invokevirtual 210, 3) := by decide +kernel
theorem dX8_restoreSnapshot_49 : decode cX8_restoreSnapshot 49 = .ok (.ireturn, 1) := by decide +kernel
