/-! decode rows of NAMES.whole: the classes of HintTeam -/
theorem dX0_init_0 : decode cX0_init 0 = .ok (.aload_n 0, 1) := by decide +kernel
theorem dX0_init_1 : decode cX0_init 1 = .ok (.invokespecial 3, 3) := by decide +kernel
theorem dX0_init_4 : decode cX0_init 4 = .ok (.aload_n 0, 1) := by decide +kernel
theorem dX0_init_5 : decode cX0_init 5 = .ok (.aload_n 1, 1) := by decide +kernel
theorem dX0_init_6 : decode cX0_init 6 = .ok (.putfield 9, 3) := by decide +kernel
theorem dX0_init_9 : decode cX0_init 9 = .ok (.return_, 1) := by decide +kernel
theorem dX0_takeTurn_0 : decode cX0_takeTurn 0 = .ok (.aload_n 0, 1) := by decide +kernel
theorem dX0_takeTurn_1 : decode cX0_takeTurn 1 = .ok (.getfield 15, 3) := by decide +kernel
theorem dX0_takeTurn_4 : decode cX0_takeTurn 4 = .ok (.tableswitch 70 0 2 #[28, 39, 50], 28) := by decide +kernel
theorem dX0_takeTurn_32 : decode cX0_takeTurn 32 = .ok (.aload_n 1, 1) := by decide +kernel
theorem dX0_takeTurn_33 : decode cX0_takeTurn 33 = .ok (.aload_n 0, 1) := by decide +kernel
theorem dX0_takeTurn_34 : decode cX0_takeTurn 34 = .ok (.getfield 19, 3) := by decide +kernel
theorem dX0_takeTurn_37 : decode cX0_takeTurn 37 = .ok (.invokevirtual 22, 3) := by decide +kernel
theorem dX0_takeTurn_40 : decode cX0_takeTurn 40 = .ok (.goto 38, 3) := by decide +kernel
theorem dX0_takeTurn_43 : decode cX0_takeTurn 43 = .ok (.aload_n 1, 1) := by decide +kernel
theorem dX0_takeTurn_44 : decode cX0_takeTurn 44 = .ok (.aload_n 0, 1) := by decide +kernel
theorem dX0_takeTurn_45 : decode cX0_takeTurn 45 = .ok (.getfield 19, 3) := by decide +kernel
theorem dX0_takeTurn_48 : decode cX0_takeTurn 48 = .ok (.invokevirtual 28, 3) := by decide +kernel
theorem dX0_takeTurn_51 : decode cX0_takeTurn 51 = .ok (.goto 27, 3) := by decide +kernel
theorem dX0_takeTurn_54 : decode cX0_takeTurn 54 = .ok (.aload_n 1, 1) := by decide +kernel
theorem dX0_takeTurn_55 : decode cX0_takeTurn 55 = .ok (.aload_n 0, 1) := by decide +kernel
theorem dX0_takeTurn_56 : decode cX0_takeTurn 56 = .ok (.getfield 19, 3) := by decide +kernel
theorem dX0_takeTurn_59 : decode cX0_takeTurn 59 = .ok (.aload_n 0, 1) := by decide +kernel
theorem dX0_takeTurn_60 : decode cX0_takeTurn 60 = .ok (.getfield 31, 3) := by decide +kernel
theorem dX0_takeTurn_63 : decode cX0_takeTurn 63 = .ok (.aload_n 0, 1) := by decide +kernel
theorem dX0_takeTurn_64 : decode cX0_takeTurn 64 = .ok (.getfield 34, 3) := by decide +kernel
theorem dX0_takeTurn_67 : decode cX0_takeTurn 67 = .ok (.invokevirtual 37, 3) := by decide +kernel
theorem dX0_takeTurn_70 : decode cX0_takeTurn 70 = .ok (.pop, 1) := by decide +kernel
theorem dX0_takeTurn_71 : decode cX0_takeTurn 71 = .ok (.goto 7, 3) := by decide +kernel
theorem dX0_takeTurn_74 : decode cX0_takeTurn 74 = .ok (.aload_n 1, 1) := by decide +kernel
theorem dX0_takeTurn_75 : decode cX0_takeTurn 75 = .ok (.invokevirtual 41, 3) := by decide +kernel
theorem dX0_takeTurn_78 : decode cX0_takeTurn 78 = .ok (.return_, 1) := by decide +kernel
theorem dX0_advise_0 : decode cX0_advise 0 = .ok (.aload_n 0, 1) := by decide +kernel
theorem dX0_advise_1 : decode cX0_advise 1 = .ok (.aload_n 1, 1) := by decide +kernel
theorem dX0_advise_2 : decode cX0_advise 2 = .ok (.aload_n 1, 1) := by decide +kernel
theorem dX0_advise_3 : decode cX0_advise 3 = .ok (.invokevirtual 44, 3) := by decide +kernel
theorem dX0_advise_6 : decode cX0_advise 6 = .ok (.invokevirtual 48, 3) := by decide +kernel
theorem dX0_advise_9 : decode cX0_advise 9 = .ok (.istore_n 2, 1) := by decide +kernel
theorem dX0_advise_10 : decode cX0_advise 10 = .ok (.iload_n 2, 1) := by decide +kernel
theorem dX0_advise_11 : decode cX0_advise 11 = .ok (.iconst (-1), 1) := by decide +kernel
theorem dX0_advise_12 : decode cX0_advise 12 = .ok (.if_icmp .eq 10, 3) := by decide +kernel
theorem dX0_advise_15 : decode cX0_advise 15 = .ok (.aload_n 0, 1) := by decide +kernel
theorem dX0_advise_16 : decode cX0_advise 16 = .ok (.iconst 0, 1) := by decide +kernel
theorem dX0_advise_17 : decode cX0_advise 17 = .ok (.iload_n 2, 1) := by decide +kernel
theorem dX0_advise_18 : decode cX0_advise 18 = .ok (.invokevirtual 52, 3) := by decide +kernel
theorem dX0_advise_21 : decode cX0_advise 21 = .ok (.return_, 1) := by decide +kernel
theorem dX0_advise_22 : decode cX0_advise 22 = .ok (.aload_n 0, 1) := by decide +kernel
theorem dX0_advise_23 : decode cX0_advise 23 = .ok (.aload_n 1, 1) := by decide +kernel
theorem dX0_advise_24 : decode cX0_advise 24 = .ok (.invokevirtual 56, 3) := by decide +kernel
theorem dX0_advise_27 : decode cX0_advise 27 = .ok (.aload_n 0, 1) := by decide +kernel
theorem dX0_advise_28 : decode cX0_advise 28 = .ok (.getfield 60, 3) := by decide +kernel
theorem dX0_advise_31 : decode cX0_advise 31 = .ok (.iconst 1, 1) := by decide +kernel
theorem dX0_advise_32 : decode cX0_advise 32 = .ok (.if_icmp .lt 4, 3) := by decide +kernel
theorem dX0_advise_35 : decode cX0_advise 35 = .ok (.return_, 1) := by decide +kernel
theorem dX0_advise_36 : decode cX0_advise 36 = .ok (.aload_n 0, 1) := by decide +kernel
theorem dX0_advise_37 : decode cX0_advise 37 = .ok (.aload_n 1, 1) := by decide +kernel
theorem dX0_advise_38 : decode cX0_advise 38 = .ok (.aload_n 1, 1) := by decide +kernel
theorem dX0_advise_39 : decode cX0_advise 39 = .ok (.invokevirtual 63, 3) := by decide +kernel
theorem dX0_advise_42 : decode cX0_advise 42 = .ok (.invokevirtual 48, 3) := by decide +kernel
theorem dX0_advise_45 : decode cX0_advise 45 = .ok (.istore_n 2, 1) := by decide +kernel
theorem dX0_advise_46 : decode cX0_advise 46 = .ok (.iload_n 2, 1) := by decide +kernel
theorem dX0_advise_47 : decode cX0_advise 47 = .ok (.iconst (-1), 1) := by decide +kernel
theorem dX0_advise_48 : decode cX0_advise 48 = .ok (.if_icmp .ne 9, 3) := by decide +kernel
theorem dX0_advise_51 : decode cX0_advise 51 = .ok (.aload_n 0, 1) := by decide +kernel
theorem dX0_advise_52 : decode cX0_advise 52 = .ok (.aload_n 1, 1) := by decide +kernel
theorem dX0_advise_53 : decode cX0_advise 53 = .ok (.invokevirtual 66, 3) := by decide +kernel
theorem dX0_advise_56 : decode cX0_advise 56 = .ok (.istore_n 2, 1) := by decide +kernel
theorem dX0_advise_57 : decode cX0_advise 57 = .ok (.iload_n 2, 1) := by decide +kernel
theorem dX0_advise_58 : decode cX0_advise 58 = .ok (.iconst (-1), 1) := by decide +kernel
theorem dX0_advise_59 : decode cX0_advise 59 = .ok (.if_icmp .eq 12, 3) := by decide +kernel
theorem dX0_advise_62 : decode cX0_advise 62 = .ok (.aload_n 0, 1) := by decide +kernel
theorem dX0_advise_63 : decode cX0_advise 63 = .ok (.iconst 1, 1) := by decide +kernel
theorem dX0_advise_64 : decode cX0_advise 64 = .ok (.iload_n 2, 1) := by decide +kernel
theorem dX0_advise_65 : decode cX0_advise 65 = .ok (.invokevirtual 52, 3) := by decide +kernel
theorem dX0_advise_68 : decode cX0_advise 68 = .ok (.goto 45, 3) := by decide +kernel
theorem dX0_advise_71 : decode cX0_advise 71 = .ok (.aload_n 0, 1) := by decide +kernel
theorem dX0_advise_72 : decode cX0_advise 72 = .ok (.getfield 60, 3) := by decide +kernel
theorem dX0_advise_75 : decode cX0_advise 75 = .ok (.iconst (-1), 1) := by decide +kernel
theorem dX0_advise_76 : decode cX0_advise 76 = .ok (.if_icmp .ne 23, 3) := by decide +kernel
theorem dX0_advise_79 : decode cX0_advise 79 = .ok (.aload_n 1, 1) := by decide +kernel
theorem dX0_advise_80 : decode cX0_advise 80 = .ok (.aload_n 1, 1) := by decide +kernel
theorem dX0_advise_81 : decode cX0_advise 81 = .ok (.getfield 70, 3) := by decide +kernel
theorem dX0_advise_84 : decode cX0_advise 84 = .ok (.invokevirtual 73, 3) := by decide +kernel
theorem dX0_advise_87 : decode cX0_advise 87 = .ok (.ifCond .le 12, 3) := by decide +kernel
theorem dX0_advise_90 : decode cX0_advise 90 = .ok (.aload_n 0, 1) := by decide +kernel
theorem dX0_advise_91 : decode cX0_advise 91 = .ok (.iconst 1, 1) := by decide +kernel
theorem dX0_advise_92 : decode cX0_advise 92 = .ok (.iconst 0, 1) := by decide +kernel
theorem dX0_advise_93 : decode cX0_advise 93 = .ok (.invokevirtual 52, 3) := by decide +kernel
theorem dX0_advise_96 : decode cX0_advise 96 = .ok (.goto 17, 3) := by decide +kernel
theorem dX0_advise_99 : decode cX0_advise 99 = .ok (.aload_n 0, 1) := by decide +kernel
theorem dX0_advise_100 : decode cX0_advise 100 = .ok (.getfield 60, 3) := by decide +kernel
theorem dX0_advise_103 : decode cX0_advise 103 = .ok (.iconst (-1), 1) := by decide +kernel
theorem dX0_advise_104 : decode cX0_advise 104 = .ok (.if_icmp .ne 9, 3) := by decide +kernel
theorem dX0_advise_107 : decode cX0_advise 107 = .ok (.aload_n 0, 1) := by decide +kernel
theorem dX0_advise_108 : decode cX0_advise 108 = .ok (.iconst 3, 1) := by decide +kernel
theorem dX0_advise_109 : decode cX0_advise 109 = .ok (.iconst (-1), 1) := by decide +kernel
theorem dX0_advise_110 : decode cX0_advise 110 = .ok (.invokevirtual 52, 3) := by decide +kernel
theorem dX0_advise_113 : decode cX0_advise 113 = .ok (.return_, 1) := by decide +kernel
theorem dX0_choose_0 : decode cX0_choose 0 = .ok (.aload_n 0, 1) := by decide +kernel
theorem dX0_choose_1 : decode cX0_choose 1 = .ok (.iload_n 1, 1) := by decide +kernel
theorem dX0_choose_2 : decode cX0_choose 2 = .ok (.putfield 15, 3) := by decide +kernel
theorem dX0_choose_5 : decode cX0_choose 5 = .ok (.aload_n 0, 1) := by decide +kernel
theorem dX0_choose_6 : decode cX0_choose 6 = .ok (.iload_n 2, 1) := by decide +kernel
theorem dX0_choose_7 : decode cX0_choose 7 = .ok (.putfield 19, 3) := by decide +kernel
theorem dX0_choose_10 : decode cX0_choose 10 = .ok (.aload_n 0, 1) := by decide +kernel
theorem dX0_choose_11 : decode cX0_choose 11 = .ok (.iconst (-1), 1) := by decide +kernel
theorem dX0_choose_12 : decode cX0_choose 12 = .ok (.putfield 31, 3) := by decide +kernel
theorem dX0_choose_15 : decode cX0_choose 15 = .ok (.aload_n 0, 1) := by decide +kernel
theorem dX0_choose_16 : decode cX0_choose 16 = .ok (.iconst (-1), 1) := by decide +kernel
theorem dX0_choose_17 : decode cX0_choose 17 = .ok (.putfield 34, 3) := by decide +kernel
theorem dX0_choose_20 : decode cX0_choose 20 = .ok (.return_, 1) := by decide +kernel
theorem dX0_chooseHint_0 : decode cX0_chooseHint 0 = .ok (.aload_n 0, 1) := by decide +kernel
theorem dX0_chooseHint_1 : decode cX0_chooseHint 1 = .ok (.iconst (-1), 1) := by decide +kernel
theorem dX0_chooseHint_2 : decode cX0_chooseHint 2 = .ok (.putfield 60, 3) := by decide +kernel
theorem dX0_chooseHint_5 : decode cX0_chooseHint 5 = .ok (.aload_n 1, 1) := by decide +kernel
theorem dX0_chooseHint_6 : decode cX0_chooseHint 6 = .ok (.getfield 70, 3) := by decide +kernel
theorem dX0_chooseHint_9 : decode cX0_chooseHint 9 = .ok (.istore_n 2, 1) := by decide +kernel
theorem dX0_chooseHint_10 : decode cX0_chooseHint 10 = .ok (.iconst 1, 1) := by decide +kernel
theorem dX0_chooseHint_11 : decode cX0_chooseHint 11 = .ok (.istore_n 3, 1) := by decide +kernel
theorem dX0_chooseHint_12 : decode cX0_chooseHint 12 = .ok (.iload_n 3, 1) := by decide +kernel
theorem dX0_chooseHint_13 : decode cX0_chooseHint 13 = .ok (.aload_n 1, 1) := by decide +kernel
theorem dX0_chooseHint_14 : decode cX0_chooseHint 14 = .ok (.getfield 77, 3) := by decide +kernel
theorem dX0_chooseHint_17 : decode cX0_chooseHint 17 = .ok (.getfield 81, 3) := by decide +kernel
theorem dX0_chooseHint_20 : decode cX0_chooseHint 20 = .ok (.if_icmp .ge 105, 3) := by decide +kernel
theorem dX0_chooseHint_23 : decode cX0_chooseHint 23 = .ok (.iload_n 2, 1) := by decide +kernel
theorem dX0_chooseHint_24 : decode cX0_chooseHint 24 = .ok (.iconst 1, 1) := by decide +kernel
theorem dX0_chooseHint_25 : decode cX0_chooseHint 25 = .ok (.iadd, 1) := by decide +kernel
theorem dX0_chooseHint_26 : decode cX0_chooseHint 26 = .ok (.aload_n 1, 1) := by decide +kernel
theorem dX0_chooseHint_27 : decode cX0_chooseHint 27 = .ok (.getfield 77, 3) := by decide +kernel
theorem dX0_chooseHint_30 : decode cX0_chooseHint 30 = .ok (.getfield 81, 3) := by decide +kernel
theorem dX0_chooseHint_33 : decode cX0_chooseHint 33 = .ok (.if_icmp .ge 9, 3) := by decide +kernel
theorem dX0_chooseHint_36 : decode cX0_chooseHint 36 = .ok (.iload_n 2, 1) := by decide +kernel
theorem dX0_chooseHint_37 : decode cX0_chooseHint 37 = .ok (.iconst 1, 1) := by decide +kernel
theorem dX0_chooseHint_38 : decode cX0_chooseHint 38 = .ok (.iadd, 1) := by decide +kernel
theorem dX0_chooseHint_39 : decode cX0_chooseHint 39 = .ok (.goto 4, 3) := by decide +kernel
theorem dX0_chooseHint_42 : decode cX0_chooseHint 42 = .ok (.iconst 0, 1) := by decide +kernel
theorem dX0_chooseHint_43 : decode cX0_chooseHint 43 = .ok (.istore_n 2, 1) := by decide +kernel
theorem dX0_chooseHint_44 : decode cX0_chooseHint 44 = .ok (.aload_n 0, 1) := by decide +kernel
theorem dX0_chooseHint_45 : decode cX0_chooseHint 45 = .ok (.getfield 9, 3) := by decide +kernel
theorem dX0_chooseHint_48 : decode cX0_chooseHint 48 = .ok (.aload_n 1, 1) := by decide +kernel
theorem dX0_chooseHint_49 : decode cX0_chooseHint 49 = .ok (.iload_n 2, 1) := by decide +kernel
theorem dX0_chooseHint_50 : decode cX0_chooseHint 50 = .ok (.invokevirtual 86, 3) := by decide +kernel
theorem dX0_chooseHint_53 : decode cX0_chooseHint 53 = .ok (.istore 4, 2) := by decide +kernel
theorem dX0_chooseHint_55 : decode cX0_chooseHint 55 = .ok (.iconst 0, 1) := by decide +kernel
theorem dX0_chooseHint_56 : decode cX0_chooseHint 56 = .ok (.istore 5, 2) := by decide +kernel
theorem dX0_chooseHint_58 : decode cX0_chooseHint 58 = .ok (.iload 5, 2) := by decide +kernel
theorem dX0_chooseHint_60 : decode cX0_chooseHint 60 = .ok (.aload_n 1, 1) := by decide +kernel
theorem dX0_chooseHint_61 : decode cX0_chooseHint 61 = .ok (.getfield 77, 3) := by decide +kernel
theorem dX0_chooseHint_64 : decode cX0_chooseHint 64 = .ok (.getfield 91, 3) := by decide +kernel
theorem dX0_chooseHint_67 : decode cX0_chooseHint 67 = .ok (.if_icmp .ge 20, 3) := by decide +kernel
theorem dX0_chooseHint_70 : decode cX0_chooseHint 70 = .ok (.aload_n 0, 1) := by decide +kernel
theorem dX0_chooseHint_71 : decode cX0_chooseHint 71 = .ok (.aload_n 1, 1) := by decide +kernel
theorem dX0_chooseHint_72 : decode cX0_chooseHint 72 = .ok (.iload_n 2, 1) := by decide +kernel
theorem dX0_chooseHint_73 : decode cX0_chooseHint 73 = .ok (.iload 4, 2) := by decide +kernel
theorem dX0_chooseHint_75 : decode cX0_chooseHint 75 = .ok (.iconst 0, 1) := by decide +kernel
theorem dX0_chooseHint_76 : decode cX0_chooseHint 76 = .ok (.iload 5, 2) := by decide +kernel
theorem dX0_chooseHint_78 : decode cX0_chooseHint 78 = .ok (.invokevirtual 94, 3) := by decide +kernel
theorem dX0_chooseHint_81 : decode cX0_chooseHint 81 = .ok (.iinc 5 1, 3) := by decide +kernel
theorem dX0_chooseHint_84 : decode cX0_chooseHint 84 = .ok (.goto (-26), 3) := by decide +kernel
theorem dX0_chooseHint_87 : decode cX0_chooseHint 87 = .ok (.iconst 1, 1) := by decide +kernel
theorem dX0_chooseHint_88 : decode cX0_chooseHint 88 = .ok (.istore 5, 2) := by decide +kernel
theorem dX0_chooseHint_90 : decode cX0_chooseHint 90 = .ok (.iload 5, 2) := by decide +kernel
theorem dX0_chooseHint_92 : decode cX0_chooseHint 92 = .ok (.aload_n 1, 1) := by decide +kernel
theorem dX0_chooseHint_93 : decode cX0_chooseHint 93 = .ok (.getfield 77, 3) := by decide +kernel
theorem dX0_chooseHint_96 : decode cX0_chooseHint 96 = .ok (.getfield 98, 3) := by decide +kernel
theorem dX0_chooseHint_99 : decode cX0_chooseHint 99 = .ok (.if_icmp .gt 20, 3) := by decide +kernel
theorem dX0_chooseHint_102 : decode cX0_chooseHint 102 = .ok (.aload_n 0, 1) := by decide +kernel
theorem dX0_chooseHint_103 : decode cX0_chooseHint 103 = .ok (.aload_n 1, 1) := by decide +kernel
theorem dX0_chooseHint_104 : decode cX0_chooseHint 104 = .ok (.iload_n 2, 1) := by decide +kernel
theorem dX0_chooseHint_105 : decode cX0_chooseHint 105 = .ok (.iload 4, 2) := by decide +kernel
theorem dX0_chooseHint_107 : decode cX0_chooseHint 107 = .ok (.iconst 1, 1) := by decide +kernel
theorem dX0_chooseHint_108 : decode cX0_chooseHint 108 = .ok (.iload 5, 2) := by decide +kernel
theorem dX0_chooseHint_110 : decode cX0_chooseHint 110 = .ok (.invokevirtual 94, 3) := by decide +kernel
theorem dX0_chooseHint_113 : decode cX0_chooseHint 113 = .ok (.iinc 5 1, 3) := by decide +kernel
theorem dX0_chooseHint_116 : decode cX0_chooseHint 116 = .ok (.goto (-26), 3) := by decide +kernel
theorem dX0_chooseHint_119 : decode cX0_chooseHint 119 = .ok (.iinc 3 1, 3) := by decide +kernel
theorem dX0_chooseHint_122 : decode cX0_chooseHint 122 = .ok (.goto (-110), 3) := by decide +kernel
theorem dX0_chooseHint_125 : decode cX0_chooseHint 125 = .ok (.return_, 1) := by decide +kernel
theorem dX0_weighHint_0 : decode cX0_weighHint 0 = .ok (.aload_n 1, 1) := by decide +kernel
theorem dX0_weighHint_1 : decode cX0_weighHint 1 = .ok (.iload_n 2, 1) := by decide +kernel
theorem dX0_weighHint_2 : decode cX0_weighHint 2 = .ok (.iload 4, 2) := by decide +kernel
theorem dX0_weighHint_4 : decode cX0_weighHint 4 = .ok (.iload 5, 2) := by decide +kernel
theorem dX0_weighHint_6 : decode cX0_weighHint 6 = .ok (.invokevirtual 101, 3) := by decide +kernel
theorem dX0_weighHint_9 : decode cX0_weighHint 9 = .ok (.ifCond .ne 4, 3) := by decide +kernel
theorem dX0_weighHint_12 : decode cX0_weighHint 12 = .ok (.return_, 1) := by decide +kernel
theorem dX0_weighHint_13 : decode cX0_weighHint 13 = .ok (.aload_n 0, 1) := by decide +kernel
theorem dX0_weighHint_14 : decode cX0_weighHint 14 = .ok (.getfield 9, 3) := by decide +kernel
theorem dX0_weighHint_17 : decode cX0_weighHint 17 = .ok (.aload_n 1, 1) := by decide +kernel
theorem dX0_weighHint_18 : decode cX0_weighHint 18 = .ok (.iload_n 2, 1) := by decide +kernel
theorem dX0_weighHint_19 : decode cX0_weighHint 19 = .ok (.iload_n 3, 1) := by decide +kernel
theorem dX0_weighHint_20 : decode cX0_weighHint 20 = .ok (.iload 4, 2) := by decide +kernel
theorem dX0_weighHint_22 : decode cX0_weighHint 22 = .ok (.iload 5, 2) := by decide +kernel
theorem dX0_weighHint_24 : decode cX0_weighHint 24 = .ok (.invokestatic 105, 3) := by decide +kernel
theorem dX0_weighHint_27 : decode cX0_weighHint 27 = .ok (.invokevirtual 109, 3) := by decide +kernel
theorem dX0_weighHint_30 : decode cX0_weighHint 30 = .ok (.istore 6, 2) := by decide +kernel
theorem dX0_weighHint_32 : decode cX0_weighHint 32 = .ok (.iload 6, 2) := by decide +kernel
theorem dX0_weighHint_34 : decode cX0_weighHint 34 = .ok (.aload_n 0, 1) := by decide +kernel
theorem dX0_weighHint_35 : decode cX0_weighHint 35 = .ok (.getfield 60, 3) := by decide +kernel
theorem dX0_weighHint_38 : decode cX0_weighHint 38 = .ok (.if_icmp .le 31, 3) := by decide +kernel
theorem dX0_weighHint_41 : decode cX0_weighHint 41 = .ok (.aload_n 0, 1) := by decide +kernel
theorem dX0_weighHint_42 : decode cX0_weighHint 42 = .ok (.iload 6, 2) := by decide +kernel
theorem dX0_weighHint_44 : decode cX0_weighHint 44 = .ok (.putfield 60, 3) := by decide +kernel
theorem dX0_weighHint_47 : decode cX0_weighHint 47 = .ok (.aload_n 0, 1) := by decide +kernel
theorem dX0_weighHint_48 : decode cX0_weighHint 48 = .ok (.iconst 2, 1) := by decide +kernel
theorem dX0_weighHint_49 : decode cX0_weighHint 49 = .ok (.putfield 15, 3) := by decide +kernel
theorem dX0_weighHint_52 : decode cX0_weighHint 52 = .ok (.aload_n 0, 1) := by decide +kernel
theorem dX0_weighHint_53 : decode cX0_weighHint 53 = .ok (.iload_n 2, 1) := by decide +kernel
theorem dX0_weighHint_54 : decode cX0_weighHint 54 = .ok (.putfield 19, 3) := by decide +kernel
theorem dX0_weighHint_57 : decode cX0_weighHint 57 = .ok (.aload_n 0, 1) := by decide +kernel
theorem dX0_weighHint_58 : decode cX0_weighHint 58 = .ok (.iload 4, 2) := by decide +kernel
theorem dX0_weighHint_60 : decode cX0_weighHint 60 = .ok (.putfield 31, 3) := by decide +kernel
theorem dX0_weighHint_63 : decode cX0_weighHint 63 = .ok (.aload_n 0, 1) := by decide +kernel
theorem dX0_weighHint_64 : decode cX0_weighHint 64 = .ok (.iload 5, 2) := by decide +kernel
theorem dX0_weighHint_66 : decode cX0_weighHint 66 = .ok (.putfield 34, 3) := by decide +kernel
theorem dX0_weighHint_69 : decode cX0_weighHint 69 = .ok (.return_, 1) := by decide +kernel
theorem dX0_firstKnown_0 : decode cX0_firstKnown 0 = .ok (.aload_n 0, 1) := by decide +kernel
theorem dX0_firstKnown_1 : decode cX0_firstKnown 1 = .ok (.getfield 9, 3) := by decide +kernel
theorem dX0_firstKnown_4 : decode cX0_firstKnown 4 = .ok (.aload_n 1, 1) := by decide +kernel
theorem dX0_firstKnown_5 : decode cX0_firstKnown 5 = .ok (.aload_n 1, 1) := by decide +kernel
theorem dX0_firstKnown_6 : decode cX0_firstKnown 6 = .ok (.getfield 70, 3) := by decide +kernel
theorem dX0_firstKnown_9 : decode cX0_firstKnown 9 = .ok (.invokevirtual 86, 3) := by decide +kernel
theorem dX0_firstKnown_12 : decode cX0_firstKnown 12 = .ok (.istore_n 3, 1) := by decide +kernel
theorem dX0_firstKnown_13 : decode cX0_firstKnown 13 = .ok (.iconst 0, 1) := by decide +kernel
theorem dX0_firstKnown_14 : decode cX0_firstKnown 14 = .ok (.istore 4, 2) := by decide +kernel
theorem dX0_firstKnown_16 : decode cX0_firstKnown 16 = .ok (.iload 4, 2) := by decide +kernel
theorem dX0_firstKnown_18 : decode cX0_firstKnown 18 = .ok (.aload_n 1, 1) := by decide +kernel
theorem dX0_firstKnown_19 : decode cX0_firstKnown 19 = .ok (.aload_n 1, 1) := by decide +kernel
theorem dX0_firstKnown_20 : decode cX0_firstKnown 20 = .ok (.getfield 70, 3) := by decide +kernel
theorem dX0_firstKnown_23 : decode cX0_firstKnown 23 = .ok (.invokevirtual 73, 3) := by decide +kernel
theorem dX0_firstKnown_26 : decode cX0_firstKnown 26 = .ok (.if_icmp .ge 39, 3) := by decide +kernel
theorem dX0_firstKnown_29 : decode cX0_firstKnown 29 = .ok (.aload_n 1, 1) := by decide +kernel
theorem dX0_firstKnown_30 : decode cX0_firstKnown 30 = .ok (.aload_n 1, 1) := by decide +kernel
theorem dX0_firstKnown_31 : decode cX0_firstKnown 31 = .ok (.getfield 70, 3) := by decide +kernel
theorem dX0_firstKnown_34 : decode cX0_firstKnown 34 = .ok (.iload 4, 2) := by decide +kernel
theorem dX0_firstKnown_36 : decode cX0_firstKnown 36 = .ok (.invokevirtual 113, 3) := by decide +kernel
theorem dX0_firstKnown_39 : decode cX0_firstKnown 39 = .ok (.istore 5, 2) := by decide +kernel
theorem dX0_firstKnown_41 : decode cX0_firstKnown 41 = .ok (.iload_n 3, 1) := by decide +kernel
theorem dX0_firstKnown_42 : decode cX0_firstKnown 42 = .ok (.aload_n 1, 1) := by decide +kernel
theorem dX0_firstKnown_43 : decode cX0_firstKnown 43 = .ok (.iload 5, 2) := by decide +kernel
theorem dX0_firstKnown_45 : decode cX0_firstKnown 45 = .ok (.invokevirtual 116, 3) := by decide +kernel
theorem dX0_firstKnown_48 : decode cX0_firstKnown 48 = .ok (.iand, 1) := by decide +kernel
theorem dX0_firstKnown_49 : decode cX0_firstKnown 49 = .ok (.iload_n 2, 1) := by decide +kernel
theorem dX0_firstKnown_50 : decode cX0_firstKnown 50 = .ok (.invokestatic 119, 3) := by decide +kernel
theorem dX0_firstKnown_53 : decode cX0_firstKnown 53 = .ok (.ifCond .eq 6, 3) := by decide +kernel
theorem dX0_firstKnown_56 : decode cX0_firstKnown 56 = .ok (.iload 4, 2) := by decide +kernel
theorem dX0_firstKnown_58 : decode cX0_firstKnown 58 = .ok (.ireturn, 1) := by decide +kernel
theorem dX0_firstKnown_59 : decode cX0_firstKnown 59 = .ok (.iinc 4 1, 3) := by decide +kernel
theorem dX0_firstKnown_62 : decode cX0_firstKnown 62 = .ok (.goto (-46), 3) := by decide +kernel
theorem dX0_firstKnown_65 : decode cX0_firstKnown 65 = .ok (.iconst (-1), 1) := by decide +kernel
theorem dX0_firstKnown_66 : decode cX0_firstKnown 66 = .ok (.ireturn, 1) := by decide +kernel
theorem dX0_firstUntouched_0 : decode cX0_firstUntouched 0 = .ok (.iconst 0, 1) := by decide +kernel
theorem dX0_firstUntouched_1 : decode cX0_firstUntouched 1 = .ok (.istore_n 2, 1) := by decide +kernel
theorem dX0_firstUntouched_2 : decode cX0_firstUntouched 2 = .ok (.iload_n 2, 1) := by decide +kernel
theorem dX0_firstUntouched_3 : decode cX0_firstUntouched 3 = .ok (.aload_n 1, 1) := by decide +kernel
theorem dX0_firstUntouched_4 : decode cX0_firstUntouched 4 = .ok (.aload_n 1, 1) := by decide +kernel
theorem dX0_firstUntouched_5 : decode cX0_firstUntouched 5 = .ok (.getfield 70, 3) := by decide +kernel
theorem dX0_firstUntouched_8 : decode cX0_firstUntouched 8 = .ok (.invokevirtual 73, 3) := by decide +kernel
theorem dX0_firstUntouched_11 : decode cX0_firstUntouched 11 = .ok (.if_icmp .ge 27, 3) := by decide +kernel
theorem dX0_firstUntouched_14 : decode cX0_firstUntouched 14 = .ok (.aload_n 1, 1) := by decide +kernel
theorem dX0_firstUntouched_15 : decode cX0_firstUntouched 15 = .ok (.aload_n 1, 1) := by decide +kernel
theorem dX0_firstUntouched_16 : decode cX0_firstUntouched 16 = .ok (.aload_n 1, 1) := by decide +kernel
theorem dX0_firstUntouched_17 : decode cX0_firstUntouched 17 = .ok (.getfield 70, 3) := by decide +kernel
theorem dX0_firstUntouched_20 : decode cX0_firstUntouched 20 = .ok (.iload_n 2, 1) := by decide +kernel
theorem dX0_firstUntouched_21 : decode cX0_firstUntouched 21 = .ok (.invokevirtual 113, 3) := by decide +kernel
theorem dX0_firstUntouched_24 : decode cX0_firstUntouched 24 = .ok (.invokevirtual 123, 3) := by decide +kernel
theorem dX0_firstUntouched_27 : decode cX0_firstUntouched 27 = .ok (.ifCond .ne 5, 3) := by decide +kernel
theorem dX0_firstUntouched_30 : decode cX0_firstUntouched 30 = .ok (.iload_n 2, 1) := by decide +kernel
theorem dX0_firstUntouched_31 : decode cX0_firstUntouched 31 = .ok (.ireturn, 1) := by decide +kernel
theorem dX0_firstUntouched_32 : decode cX0_firstUntouched 32 = .ok (.iinc 2 1, 3) := by decide +kernel
theorem dX0_firstUntouched_35 : decode cX0_firstUntouched 35 = .ok (.goto (-33), 3) := by decide +kernel
theorem dX0_firstUntouched_38 : decode cX0_firstUntouched 38 = .ok (.iconst (-1), 1) := by decide +kernel
theorem dX0_firstUntouched_39 : decode cX0_firstUntouched 39 = .ok (.ireturn, 1) := by decide +kernel
theorem dX1_init_0 : decode cX1_init 0 = .ok (.aload_n 0, 1) := by decide +kernel
theorem dX1_init_1 : decode cX1_init 1 = .ok (.invokespecial 3, 3) := by decide +kernel
theorem dX1_init_4 : decode cX1_init 4 = .ok (.aload_n 0, 1) := by decide +kernel
theorem dX1_init_5 : decode cX1_init 5 = .ok (.bipush 7, 2) := by decide +kernel
theorem dX1_init_7 : decode cX1_init 7 = .ok (.newarray .int, 2) := by decide +kernel
theorem dX1_init_9 : decode cX1_init 9 = .ok (.putfield 11, 3) := by decide +kernel
theorem dX1_init_12 : decode cX1_init 12 = .ok (.aload_n 0, 1) := by decide +kernel
theorem dX1_init_13 : decode cX1_init 13 = .ok (.bipush 20, 2) := by decide +kernel
theorem dX1_init_15 : decode cX1_init 15 = .ok (.newarray .int, 2) := by decide +kernel
theorem dX1_init_17 : decode cX1_init 17 = .ok (.putfield 15, 3) := by decide +kernel
theorem dX1_init_20 : decode cX1_init 20 = .ok (.aload_n 0, 1) := by decide +kernel
theorem dX1_init_21 : decode cX1_init 21 = .ok (.iconst 4, 1) := by decide +kernel
theorem dX1_init_22 : decode cX1_init 22 = .ok (.newarray .int, 2) := by decide +kernel
theorem dX1_init_24 : decode cX1_init 24 = .ok (.putfield 18, 3) := by decide +kernel
theorem dX1_init_27 : decode cX1_init 27 = .ok (.aload_n 0, 1) := by decide +kernel
theorem dX1_init_28 : decode cX1_init 28 = .ok (.iconst 4, 1) := by decide +kernel
theorem dX1_init_29 : decode cX1_init 29 = .ok (.newarray .int, 2) := by decide +kernel
theorem dX1_init_31 : decode cX1_init 31 = .ok (.putfield 21, 3) := by decide +kernel
theorem dX1_init_34 : decode cX1_init 34 = .ok (.aload_n 0, 1) := by decide +kernel
theorem dX1_init_35 : decode cX1_init 35 = .ok (.bipush 20, 2) := by decide +kernel
theorem dX1_init_37 : decode cX1_init 37 = .ok (.newarray .int, 2) := by decide +kernel
theorem dX1_init_39 : decode cX1_init 39 = .ok (.putfield 24, 3) := by decide +kernel
theorem dX1_init_42 : decode cX1_init 42 = .ok (.aload_n 0, 1) := by decide +kernel
theorem dX1_init_43 : decode cX1_init 43 = .ok (.bipush 9, 2) := by decide +kernel
theorem dX1_init_45 : decode cX1_init 45 = .ok (.newarray .int, 2) := by decide +kernel
theorem dX1_init_47 : decode cX1_init 47 = .ok (.putfield 29, 3) := by decide +kernel
theorem dX1_init_50 : decode cX1_init 50 = .ok (.aload_n 0, 1) := by decide +kernel
theorem dX1_init_51 : decode cX1_init 51 = .ok (.bipush 40, 2) := by decide +kernel
theorem dX1_init_53 : decode cX1_init 53 = .ok (.newarray .int, 2) := by decide +kernel
theorem dX1_init_55 : decode cX1_init 55 = .ok (.putfield 32, 3) := by decide +kernel
theorem dX1_init_58 : decode cX1_init 58 = .ok (.aload_n 0, 1) := by decide +kernel
theorem dX1_init_59 : decode cX1_init 59 = .ok (.bipush 120, 2) := by decide +kernel
theorem dX1_init_61 : decode cX1_init 61 = .ok (.newarray .int, 2) := by decide +kernel
theorem dX1_init_63 : decode cX1_init 63 = .ok (.putfield 35, 3) := by decide +kernel
theorem dX1_init_66 : decode cX1_init 66 = .ok (.aload_n 0, 1) := by decide +kernel
theorem dX1_init_67 : decode cX1_init 67 = .ok (.aload_n 1, 1) := by decide +kernel
theorem dX1_init_68 : decode cX1_init 68 = .ok (.putfield 38, 3) := by decide +kernel
theorem dX1_init_71 : decode cX1_init 71 = .ok (.return_, 1) := by decide +kernel
theorem dX1_copyFrom_0 : decode cX1_copyFrom 0 = .ok (.aload_n 0, 1) := by decide +kernel
theorem dX1_copyFrom_1 : decode cX1_copyFrom 1 = .ok (.aload_n 1, 1) := by decide +kernel
theorem dX1_copyFrom_2 : decode cX1_copyFrom 2 = .ok (.getfield 38, 3) := by decide +kernel
theorem dX1_copyFrom_5 : decode cX1_copyFrom 5 = .ok (.putfield 38, 3) := by decide +kernel
theorem dX1_copyFrom_8 : decode cX1_copyFrom 8 = .ok (.aload_n 0, 1) := by decide +kernel
theorem dX1_copyFrom_9 : decode cX1_copyFrom 9 = .ok (.aload_n 1, 1) := by decide +kernel
theorem dX1_copyFrom_10 : decode cX1_copyFrom 10 = .ok (.getfield 42, 3) := by decide +kernel
theorem dX1_copyFrom_13 : decode cX1_copyFrom 13 = .ok (.putfield 42, 3) := by decide +kernel
theorem dX1_copyFrom_16 : decode cX1_copyFrom 16 = .ok (.aload_n 0, 1) := by decide +kernel
theorem dX1_copyFrom_17 : decode cX1_copyFrom 17 = .ok (.aload_n 1, 1) := by decide +kernel
theorem dX1_copyFrom_18 : decode cX1_copyFrom 18 = .ok (.getfield 46, 3) := by decide +kernel
theorem dX1_copyFrom_21 : decode cX1_copyFrom 21 = .ok (.putfield 46, 3) := by decide +kernel
theorem dX1_copyFrom_24 : decode cX1_copyFrom 24 = .ok (.aload_n 0, 1) := by decide +kernel
theorem dX1_copyFrom_25 : decode cX1_copyFrom 25 = .ok (.aload_n 1, 1) := by decide +kernel
theorem dX1_copyFrom_26 : decode cX1_copyFrom 26 = .ok (.getfield 49, 3) := by decide +kernel
theorem dX1_copyFrom_29 : decode cX1_copyFrom 29 = .ok (.putfield 49, 3) := by decide +kernel
theorem dX1_copyFrom_32 : decode cX1_copyFrom 32 = .ok (.aload_n 0, 1) := by decide +kernel
theorem dX1_copyFrom_33 : decode cX1_copyFrom 33 = .ok (.aload_n 1, 1) := by decide +kernel
theorem dX1_copyFrom_34 : decode cX1_copyFrom 34 = .ok (.getfield 52, 3) := by decide +kernel
theorem dX1_copyFrom_37 : decode cX1_copyFrom 37 = .ok (.putfield 52, 3) := by decide +kernel
theorem dX1_copyFrom_40 : decode cX1_copyFrom 40 = .ok (.aload_n 0, 1) := by decide +kernel
theorem dX1_copyFrom_41 : decode cX1_copyFrom 41 = .ok (.aload_n 1, 1) := by decide +kernel
theorem dX1_copyFrom_42 : decode cX1_copyFrom 42 = .ok (.getfield 55, 3) := by decide +kernel
theorem dX1_copyFrom_45 : decode cX1_copyFrom 45 = .ok (.putfield 55, 3) := by decide +kernel
theorem dX1_copyFrom_48 : decode cX1_copyFrom 48 = .ok (.aload_n 0, 1) := by decide +kernel
theorem dX1_copyFrom_49 : decode cX1_copyFrom 49 = .ok (.aload_n 1, 1) := by decide +kernel
theorem dX1_copyFrom_50 : decode cX1_copyFrom 50 = .ok (.getfield 58, 3) := by decide +kernel
theorem dX1_copyFrom_53 : decode cX1_copyFrom 53 = .ok (.putfield 58, 3) := by decide +kernel
theorem dX1_copyFrom_56 : decode cX1_copyFrom 56 = .ok (.aload_n 0, 1) := by decide +kernel
theorem dX1_copyFrom_57 : decode cX1_copyFrom 57 = .ok (.aload_n 1, 1) := by decide +kernel
theorem dX1_copyFrom_58 : decode cX1_copyFrom 58 = .ok (.getfield 61, 3) := by decide +kernel
theorem dX1_copyFrom_61 : decode cX1_copyFrom 61 = .ok (.putfield 61, 3) := by decide +kernel
theorem dX1_copyFrom_64 : decode cX1_copyFrom 64 = .ok (.aload_n 1, 1) := by decide +kernel
theorem dX1_copyFrom_65 : decode cX1_copyFrom 65 = .ok (.getfield 11, 3) := by decide +kernel
theorem dX1_copyFrom_68 : decode cX1_copyFrom 68 = .ok (.iconst 0, 1) := by decide +kernel
theorem dX1_copyFrom_69 : decode cX1_copyFrom 69 = .ok (.aload_n 0, 1) := by decide +kernel
theorem dX1_copyFrom_70 : decode cX1_copyFrom 70 = .ok (.getfield 11, 3) := by decide +kernel
theorem dX1_copyFrom_73 : decode cX1_copyFrom 73 = .ok (.iconst 0, 1) := by decide +kernel
theorem dX1_copyFrom_74 : decode cX1_copyFrom 74 = .ok (.bipush 7, 2) := by decide +kernel
theorem dX1_copyFrom_76 : decode cX1_copyFrom 76 = .ok (.invokestatic 65, 3) := by decide +kernel
theorem dX1_copyFrom_79 : decode cX1_copyFrom 79 = .ok (.aload_n 1, 1) := by decide +kernel
theorem dX1_copyFrom_80 : decode cX1_copyFrom 80 = .ok (.getfield 15, 3) := by decide +kernel
theorem dX1_copyFrom_83 : decode cX1_copyFrom 83 = .ok (.iconst 0, 1) := by decide +kernel
theorem dX1_copyFrom_84 : decode cX1_copyFrom 84 = .ok (.aload_n 0, 1) := by decide +kernel
theorem dX1_copyFrom_85 : decode cX1_copyFrom 85 = .ok (.getfield 15, 3) := by decide +kernel
theorem dX1_copyFrom_88 : decode cX1_copyFrom 88 = .ok (.iconst 0, 1) := by decide +kernel
theorem dX1_copyFrom_89 : decode cX1_copyFrom 89 = .ok (.bipush 20, 2) := by decide +kernel
theorem dX1_copyFrom_91 : decode cX1_copyFrom 91 = .ok (.invokestatic 65, 3) := by decide +kernel
theorem dX1_copyFrom_94 : decode cX1_copyFrom 94 = .ok (.aload_n 1, 1) := by decide +kernel
theorem dX1_copyFrom_95 : decode cX1_copyFrom 95 = .ok (.getfield 18, 3) := by decide +kernel
theorem dX1_copyFrom_98 : decode cX1_copyFrom 98 = .ok (.iconst 0, 1) := by decide +kernel
theorem dX1_copyFrom_99 : decode cX1_copyFrom 99 = .ok (.aload_n 0, 1) := by decide +kernel
theorem dX1_copyFrom_100 : decode cX1_copyFrom 100 = .ok (.getfield 18, 3) := by decide +kernel
theorem dX1_copyFrom_103 : decode cX1_copyFrom 103 = .ok (.iconst 0, 1) := by decide +kernel
theorem dX1_copyFrom_104 : decode cX1_copyFrom 104 = .ok (.iconst 4, 1) := by decide +kernel
theorem dX1_copyFrom_105 : decode cX1_copyFrom 105 = .ok (.invokestatic 65, 3) := by decide +kernel
theorem dX1_copyFrom_108 : decode cX1_copyFrom 108 = .ok (.aload_n 1, 1) := by decide +kernel
theorem dX1_copyFrom_109 : decode cX1_copyFrom 109 = .ok (.getfield 21, 3) := by decide +kernel
theorem dX1_copyFrom_112 : decode cX1_copyFrom 112 = .ok (.iconst 0, 1) := by decide +kernel
theorem dX1_copyFrom_113 : decode cX1_copyFrom 113 = .ok (.aload_n 0, 1) := by decide +kernel
theorem dX1_copyFrom_114 : decode cX1_copyFrom 114 = .ok (.getfield 21, 3) := by decide +kernel
theorem dX1_copyFrom_117 : decode cX1_copyFrom 117 = .ok (.iconst 0, 1) := by decide +kernel
theorem dX1_copyFrom_118 : decode cX1_copyFrom 118 = .ok (.iconst 4, 1) := by decide +kernel
theorem dX1_copyFrom_119 : decode cX1_copyFrom 119 = .ok (.invokestatic 65, 3) := by decide +kernel
theorem dX1_copyFrom_122 : decode cX1_copyFrom 122 = .ok (.aload_n 1, 1) := by decide +kernel
theorem dX1_copyFrom_123 : decode cX1_copyFrom 123 = .ok (.getfield 24, 3) := by decide +kernel
theorem dX1_copyFrom_126 : decode cX1_copyFrom 126 = .ok (.iconst 0, 1) := by decide +kernel
theorem dX1_copyFrom_127 : decode cX1_copyFrom 127 = .ok (.aload_n 0, 1) := by decide +kernel
theorem dX1_copyFrom_128 : decode cX1_copyFrom 128 = .ok (.getfield 24, 3) := by decide +kernel
theorem dX1_copyFrom_131 : decode cX1_copyFrom 131 = .ok (.iconst 0, 1) := by decide +kernel
theorem dX1_copyFrom_132 : decode cX1_copyFrom 132 = .ok (.bipush 20, 2) := by decide +kernel
theorem dX1_copyFrom_134 : decode cX1_copyFrom 134 = .ok (.invokestatic 65, 3) := by decide +kernel
theorem dX1_copyFrom_137 : decode cX1_copyFrom 137 = .ok (.aload_n 1, 1) := by decide +kernel
theorem dX1_copyFrom_138 : decode cX1_copyFrom 138 = .ok (.getfield 29, 3) := by decide +kernel
theorem dX1_copyFrom_141 : decode cX1_copyFrom 141 = .ok (.iconst 0, 1) := by decide +kernel
theorem dX1_copyFrom_142 : decode cX1_copyFrom 142 = .ok (.aload_n 0, 1) := by decide +kernel
theorem dX1_copyFrom_143 : decode cX1_copyFrom 143 = .ok (.getfield 29, 3) := by decide +kernel
theorem dX1_copyFrom_146 : decode cX1_copyFrom 146 = .ok (.iconst 0, 1) := by decide +kernel
theorem dX1_copyFrom_147 : decode cX1_copyFrom 147 = .ok (.bipush 9, 2) := by decide +kernel
theorem dX1_copyFrom_149 : decode cX1_copyFrom 149 = .ok (.invokestatic 65, 3) := by decide +kernel
theorem dX1_copyFrom_152 : decode cX1_copyFrom 152 = .ok (.aload_n 1, 1) := by decide +kernel
theorem dX1_copyFrom_153 : decode cX1_copyFrom 153 = .ok (.getfield 32, 3) := by decide +kernel
theorem dX1_copyFrom_156 : decode cX1_copyFrom 156 = .ok (.iconst 0, 1) := by decide +kernel
theorem dX1_copyFrom_157 : decode cX1_copyFrom 157 = .ok (.aload_n 0, 1) := by decide +kernel
theorem dX1_copyFrom_158 : decode cX1_copyFrom 158 = .ok (.getfield 32, 3) := by decide +kernel
theorem dX1_copyFrom_161 : decode cX1_copyFrom 161 = .ok (.iconst 0, 1) := by decide +kernel
theorem dX1_copyFrom_162 : decode cX1_copyFrom 162 = .ok (.bipush 40, 2) := by decide +kernel
theorem dX1_copyFrom_164 : decode cX1_copyFrom 164 = .ok (.invokestatic 65, 3) := by decide +kernel
theorem dX1_copyFrom_167 : decode cX1_copyFrom 167 = .ok (.aload_n 1, 1) := by decide +kernel
theorem dX1_copyFrom_168 : decode cX1_copyFrom 168 = .ok (.getfield 35, 3) := by decide +kernel
theorem dX1_copyFrom_171 : decode cX1_copyFrom 171 = .ok (.iconst 0, 1) := by decide +kernel
theorem dX1_copyFrom_172 : decode cX1_copyFrom 172 = .ok (.aload_n 0, 1) := by decide +kernel
theorem dX1_copyFrom_173 : decode cX1_copyFrom 173 = .ok (.getfield 35, 3) := by decide +kernel
theorem dX1_copyFrom_176 : decode cX1_copyFrom 176 = .ok (.iconst 0, 1) := by decide +kernel
theorem dX1_copyFrom_177 : decode cX1_copyFrom 177 = .ok (.bipush 120, 2) := by decide +kernel
theorem dX1_copyFrom_179 : decode cX1_copyFrom 179 = .ok (.invokestatic 65, 3) := by decide +kernel
theorem dX1_copyFrom_182 : decode cX1_copyFrom 182 = .ok (.return_, 1) := by decide +kernel
theorem dX1_begin_0 : decode cX1_begin 0 = .ok (.aload_n 0, 1) := by decide +kernel
theorem dX1_begin_1 : decode cX1_begin 1 = .ok (.aload_n 1, 1) := by decide +kernel
theorem dX1_begin_2 : decode cX1_begin 2 = .ok (.putfield 38, 3) := by decide +kernel
theorem dX1_begin_5 : decode cX1_begin 5 = .ok (.aload_n 0, 1) := by decide +kernel
theorem dX1_begin_6 : decode cX1_begin 6 = .ok (.iconst 0, 1) := by decide +kernel
theorem dX1_begin_7 : decode cX1_begin 7 = .ok (.putfield 42, 3) := by decide +kernel
theorem dX1_begin_10 : decode cX1_begin 10 = .ok (.aload_n 0, 1) := by decide +kernel
theorem dX1_begin_11 : decode cX1_begin 11 = .ok (.aload_n 0, 1) := by decide +kernel
theorem dX1_begin_12 : decode cX1_begin 12 = .ok (.getfield 38, 3) := by decide +kernel
theorem dX1_begin_15 : decode cX1_begin 15 = .ok (.getfield 71, 3) := by decide +kernel
theorem dX1_begin_18 : decode cX1_begin 18 = .ok (.putfield 46, 3) := by decide +kernel
theorem dX1_begin_21 : decode cX1_begin 21 = .ok (.aload_n 0, 1) := by decide +kernel
theorem dX1_begin_22 : decode cX1_begin 22 = .ok (.aload_n 0, 1) := by decide +kernel
theorem dX1_begin_23 : decode cX1_begin 23 = .ok (.getfield 38, 3) := by decide +kernel
theorem dX1_begin_26 : decode cX1_begin 26 = .ok (.getfield 74, 3) := by decide +kernel
theorem dX1_begin_29 : decode cX1_begin 29 = .ok (.putfield 49, 3) := by decide +kernel
theorem dX1_begin_32 : decode cX1_begin 32 = .ok (.aload_n 0, 1) := by decide +kernel
theorem dX1_begin_33 : decode cX1_begin 33 = .ok (.iconst 0, 1) := by decide +kernel
theorem dX1_begin_34 : decode cX1_begin 34 = .ok (.putfield 52, 3) := by decide +kernel
theorem dX1_begin_37 : decode cX1_begin 37 = .ok (.aload_n 0, 1) := by decide +kernel
theorem dX1_begin_38 : decode cX1_begin 38 = .ok (.iconst 0, 1) := by decide +kernel
theorem dX1_begin_39 : decode cX1_begin 39 = .ok (.putfield 55, 3) := by decide +kernel
theorem dX1_begin_42 : decode cX1_begin 42 = .ok (.aload_n 0, 1) := by decide +kernel
theorem dX1_begin_43 : decode cX1_begin 43 = .ok (.lconst 0, 1) := by decide +kernel
theorem dX1_begin_44 : decode cX1_begin 44 = .ok (.putfield 61, 3) := by decide +kernel
theorem dX1_begin_47 : decode cX1_begin 47 = .ok (.aload_n 0, 1) := by decide +kernel
theorem dX1_begin_48 : decode cX1_begin 48 = .ok (.getfield 11, 3) := by decide +kernel
theorem dX1_begin_51 : decode cX1_begin 51 = .ok (.iconst 0, 1) := by decide +kernel
theorem dX1_begin_52 : decode cX1_begin 52 = .ok (.invokestatic 77, 3) := by decide +kernel
theorem dX1_begin_55 : decode cX1_begin 55 = .ok (.aload_n 0, 1) := by decide +kernel
theorem dX1_begin_56 : decode cX1_begin 56 = .ok (.getfield 18, 3) := by decide +kernel
theorem dX1_begin_59 : decode cX1_begin 59 = .ok (.iconst 0, 1) := by decide +kernel
theorem dX1_begin_60 : decode cX1_begin 60 = .ok (.invokestatic 77, 3) := by decide +kernel
theorem dX1_begin_63 : decode cX1_begin 63 = .ok (.aload_n 0, 1) := by decide +kernel
theorem dX1_begin_64 : decode cX1_begin 64 = .ok (.getfield 21, 3) := by decide +kernel
theorem dX1_begin_67 : decode cX1_begin 67 = .ok (.iconst 0, 1) := by decide +kernel
theorem dX1_begin_68 : decode cX1_begin 68 = .ok (.invokestatic 77, 3) := by decide +kernel
theorem dX1_begin_71 : decode cX1_begin 71 = .ok (.aload_n 0, 1) := by decide +kernel
theorem dX1_begin_72 : decode cX1_begin 72 = .ok (.getfield 24, 3) := by decide +kernel
theorem dX1_begin_75 : decode cX1_begin 75 = .ok (.iconst 0, 1) := by decide +kernel
theorem dX1_begin_76 : decode cX1_begin 76 = .ok (.invokestatic 77, 3) := by decide +kernel
theorem dX1_begin_79 : decode cX1_begin 79 = .ok (.aload_n 0, 1) := by decide +kernel
theorem dX1_begin_80 : decode cX1_begin 80 = .ok (.getfield 32, 3) := by decide +kernel
theorem dX1_begin_83 : decode cX1_begin 83 = .ok (.aload_n 0, 1) := by decide +kernel
theorem dX1_begin_84 : decode cX1_begin 84 = .ok (.getfield 38, 3) := by decide +kernel
theorem dX1_begin_87 : decode cX1_begin 87 = .ok (.invokevirtual 83, 3) := by decide +kernel
theorem dX1_begin_90 : decode cX1_begin 90 = .ok (.invokestatic 77, 3) := by decide +kernel
theorem dX1_begin_93 : decode cX1_begin 93 = .ok (.aload_n 0, 1) := by decide +kernel
theorem dX1_begin_94 : decode cX1_begin 94 = .ok (.getfield 38, 3) := by decide +kernel
theorem dX1_begin_97 : decode cX1_begin 97 = .ok (.getfield 87, 3) := by decide +kernel
theorem dX1_begin_100 : decode cX1_begin 100 = .ok (.iconst 0, 1) := by decide +kernel
theorem dX1_begin_101 : decode cX1_begin 101 = .ok (.aload_n 0, 1) := by decide +kernel
theorem dX1_begin_102 : decode cX1_begin 102 = .ok (.getfield 29, 3) := by decide +kernel
theorem dX1_begin_105 : decode cX1_begin 105 = .ok (.iconst 0, 1) := by decide +kernel
theorem dX1_begin_106 : decode cX1_begin 106 = .ok (.bipush 9, 2) := by decide +kernel
theorem dX1_begin_108 : decode cX1_begin 108 = .ok (.invokestatic 65, 3) := by decide +kernel
theorem dX1_begin_111 : decode cX1_begin 111 = .ok (.iconst 0, 1) := by decide +kernel
theorem dX1_begin_112 : decode cX1_begin 112 = .ok (.istore_n 2, 1) := by decide +kernel
theorem dX1_begin_113 : decode cX1_begin 113 = .ok (.iload_n 2, 1) := by decide +kernel
theorem dX1_begin_114 : decode cX1_begin 114 = .ok (.aload_n 0, 1) := by decide +kernel
theorem dX1_begin_115 : decode cX1_begin 115 = .ok (.getfield 38, 3) := by decide +kernel
theorem dX1_begin_118 : decode cX1_begin 118 = .ok (.getfield 88, 3) := by decide +kernel
theorem dX1_begin_121 : decode cX1_begin 121 = .ok (.if_icmp .ge 33, 3) := by decide +kernel
theorem dX1_begin_124 : decode cX1_begin 124 = .ok (.iconst 0, 1) := by decide +kernel
theorem dX1_begin_125 : decode cX1_begin 125 = .ok (.istore_n 3, 1) := by decide +kernel
theorem dX1_begin_126 : decode cX1_begin 126 = .ok (.iload_n 3, 1) := by decide +kernel
theorem dX1_begin_127 : decode cX1_begin 127 = .ok (.aload_n 0, 1) := by decide +kernel
theorem dX1_begin_128 : decode cX1_begin 128 = .ok (.getfield 38, 3) := by decide +kernel
theorem dX1_begin_131 : decode cX1_begin 131 = .ok (.getfield 91, 3) := by decide +kernel
theorem dX1_begin_134 : decode cX1_begin 134 = .ok (.if_icmp .ge 14, 3) := by decide +kernel
theorem dX1_begin_137 : decode cX1_begin 137 = .ok (.aload_n 0, 1) := by decide +kernel
theorem dX1_begin_138 : decode cX1_begin 138 = .ok (.iload_n 2, 1) := by decide +kernel
theorem dX1_begin_139 : decode cX1_begin 139 = .ok (.invokevirtual 94, 3) := by decide +kernel
theorem dX1_begin_142 : decode cX1_begin 142 = .ok (.iinc 3 1, 3) := by decide +kernel
theorem dX1_begin_145 : decode cX1_begin 145 = .ok (.goto (-19), 3) := by decide +kernel
theorem dX1_begin_148 : decode cX1_begin 148 = .ok (.iinc 2 1, 3) := by decide +kernel
theorem dX1_begin_151 : decode cX1_begin 151 = .ok (.goto (-38), 3) := by decide +kernel
theorem dX1_begin_154 : decode cX1_begin 154 = .ok (.aload_n 0, 1) := by decide +kernel
theorem dX1_begin_155 : decode cX1_begin 155 = .ok (.aload_n 0, 1) := by decide +kernel
theorem dX1_begin_156 : decode cX1_begin 156 = .ok (.getfield 42, 3) := by decide +kernel
theorem dX1_begin_159 : decode cX1_begin 159 = .ok (.aload_n 0, 1) := by decide +kernel
theorem dX1_begin_160 : decode cX1_begin 160 = .ok (.getfield 38, 3) := by decide +kernel
theorem dX1_begin_163 : decode cX1_begin 163 = .ok (.getfield 98, 3) := by decide +kernel
theorem dX1_begin_166 : decode cX1_begin 166 = .ok (.if_icmp .lt 13, 3) := by decide +kernel
theorem dX1_begin_169 : decode cX1_begin 169 = .ok (.aload_n 0, 1) := by decide +kernel
theorem dX1_begin_170 : decode cX1_begin 170 = .ok (.getfield 38, 3) := by decide +kernel
theorem dX1_begin_173 : decode cX1_begin 173 = .ok (.getfield 88, 3) := by decide +kernel
theorem dX1_begin_176 : decode cX1_begin 176 = .ok (.goto 4, 3) := by decide +kernel
theorem dX1_begin_179 : decode cX1_begin 179 = .ok (.iconst (-1), 1) := by decide +kernel
theorem dX1_begin_180 : decode cX1_begin 180 = .ok (.putfield 58, 3) := by decide +kernel
theorem dX1_begin_183 : decode cX1_begin 183 = .ok (.return_, 1) := by decide +kernel
theorem dX1_ending_0 : decode cX1_ending 0 = .ok (.aload_n 0, 1) := by decide +kernel
theorem dX1_ending_1 : decode cX1_ending 1 = .ok (.getfield 38, 3) := by decide +kernel
theorem dX1_ending_4 : decode cX1_ending 4 = .ok (.getfield 88, 3) := by decide +kernel
theorem dX1_ending_7 : decode cX1_ending 7 = .ok (.ifCond .ne 5, 3) := by decide +kernel
theorem dX1_ending_10 : decode cX1_ending 10 = .ok (.iconst 3, 1) := by decide +kernel
theorem dX1_ending_11 : decode cX1_ending 11 = .ok (.ireturn, 1) := by decide +kernel
theorem dX1_ending_12 : decode cX1_ending 12 = .ok (.aload_n 0, 1) := by decide +kernel
theorem dX1_ending_13 : decode cX1_ending 13 = .ok (.getfield 49, 3) := by decide +kernel
theorem dX1_ending_16 : decode cX1_ending 16 = .ok (.ifCond .gt 5, 3) := by decide +kernel
theorem dX1_ending_19 : decode cX1_ending 19 = .ok (.iconst 1, 1) := by decide +kernel
theorem dX1_ending_20 : decode cX1_ending 20 = .ok (.ireturn, 1) := by decide +kernel
theorem dX1_ending_21 : decode cX1_ending 21 = .ok (.aload_n 0, 1) := by decide +kernel
theorem dX1_ending_22 : decode cX1_ending 22 = .ok (.invokevirtual 101, 3) := by decide +kernel
theorem dX1_ending_25 : decode cX1_ending 25 = .ok (.aload_n 0, 1) := by decide +kernel
theorem dX1_ending_26 : decode cX1_ending 26 = .ok (.getfield 38, 3) := by decide +kernel
theorem dX1_ending_29 : decode cX1_ending 29 = .ok (.getfield 104, 3) := by decide +kernel
theorem dX1_ending_32 : decode cX1_ending 32 = .ok (.aload_n 0, 1) := by decide +kernel
theorem dX1_ending_33 : decode cX1_ending 33 = .ok (.getfield 38, 3) := by decide +kernel
theorem dX1_ending_36 : decode cX1_ending 36 = .ok (.getfield 107, 3) := by decide +kernel
theorem dX1_ending_39 : decode cX1_ending 39 = .ok (.imul, 1) := by decide +kernel
theorem dX1_ending_40 : decode cX1_ending 40 = .ok (.if_icmp .lt 5, 3) := by decide +kernel
theorem dX1_ending_43 : decode cX1_ending 43 = .ok (.iconst 2, 1) := by decide +kernel
theorem dX1_ending_44 : decode cX1_ending 44 = .ok (.ireturn, 1) := by decide +kernel
theorem dX1_ending_45 : decode cX1_ending 45 = .ok (.aload_n 0, 1) := by decide +kernel
theorem dX1_ending_46 : decode cX1_ending 46 = .ok (.getfield 58, 3) := by decide +kernel
theorem dX1_ending_49 : decode cX1_ending 49 = .ok (.ifCond .ne 7, 3) := by decide +kernel
theorem dX1_ending_52 : decode cX1_ending 52 = .ok (.iconst 3, 1) := by decide +kernel
theorem dX1_ending_53 : decode cX1_ending 53 = .ok (.goto 4, 3) := by decide +kernel
theorem dX1_ending_56 : decode cX1_ending 56 = .ok (.iconst 0, 1) := by decide +kernel
theorem dX1_ending_57 : decode cX1_ending 57 = .ok (.ireturn, 1) := by decide +kernel
theorem dX1_isEnded_0 : decode cX1_isEnded 0 = .ok (.aload_n 0, 1) := by decide +kernel
theorem dX1_isEnded_1 : decode cX1_isEnded 1 = .ok (.invokevirtual 110, 3) := by decide +kernel
theorem dX1_isEnded_4 : decode cX1_isEnded 4 = .ok (.ifCond .eq 7, 3) := by decide +kernel
theorem dX1_isEnded_7 : decode cX1_isEnded 7 = .ok (.iconst 1, 1) := by decide +kernel
theorem dX1_isEnded_8 : decode cX1_isEnded 8 = .ok (.goto 4, 3) := by decide +kernel
theorem dX1_isEnded_11 : decode cX1_isEnded 11 = .ok (.iconst 0, 1) := by decide +kernel
theorem dX1_isEnded_12 : decode cX1_isEnded 12 = .ok (.ireturn, 1) := by decide +kernel
theorem dX1_score_0 : decode cX1_score 0 = .ok (.iconst 0, 1) := by decide +kernel
theorem dX1_score_1 : decode cX1_score 1 = .ok (.istore_n 1, 1) := by decide +kernel
theorem dX1_score_2 : decode cX1_score 2 = .ok (.iconst 0, 1) := by decide +kernel
theorem dX1_score_3 : decode cX1_score 3 = .ok (.istore_n 2, 1) := by decide +kernel
theorem dX1_score_4 : decode cX1_score 4 = .ok (.iload_n 2, 1) := by decide +kernel
theorem dX1_score_5 : decode cX1_score 5 = .ok (.iconst 4, 1) := by decide +kernel
theorem dX1_score_6 : decode cX1_score 6 = .ok (.if_icmp .ge 18, 3) := by decide +kernel
theorem dX1_score_9 : decode cX1_score 9 = .ok (.iload_n 1, 1) := by decide +kernel
theorem dX1_score_10 : decode cX1_score 10 = .ok (.aload_n 0, 1) := by decide +kernel
theorem dX1_score_11 : decode cX1_score 11 = .ok (.getfield 21, 3) := by decide +kernel
theorem dX1_score_14 : decode cX1_score 14 = .ok (.iload_n 2, 1) := by decide +kernel
theorem dX1_score_15 : decode cX1_score 15 = .ok (.iaload, 1) := by decide +kernel
theorem dX1_score_16 : decode cX1_score 16 = .ok (.iadd, 1) := by decide +kernel
theorem dX1_score_17 : decode cX1_score 17 = .ok (.istore_n 1, 1) := by decide +kernel
theorem dX1_score_18 : decode cX1_score 18 = .ok (.iinc 2 1, 3) := by decide +kernel
theorem dX1_score_21 : decode cX1_score 21 = .ok (.goto (-17), 3) := by decide +kernel
theorem dX1_score_24 : decode cX1_score 24 = .ok (.iload_n 1, 1) := by decide +kernel
theorem dX1_score_25 : decode cX1_score 25 = .ok (.ireturn, 1) := by decide +kernel
theorem dX1_topOf_0 : decode cX1_topOf 0 = .ok (.iload_n 1, 1) := by decide +kernel
theorem dX1_topOf_1 : decode cX1_topOf 1 = .ok (.ifCond .lt 17, 3) := by decide +kernel
theorem dX1_topOf_4 : decode cX1_topOf 4 = .ok (.iload_n 1, 1) := by decide +kernel
theorem dX1_topOf_5 : decode cX1_topOf 5 = .ok (.iconst 4, 1) := by decide +kernel
theorem dX1_topOf_6 : decode cX1_topOf 6 = .ok (.if_icmp .ge 12, 3) := by decide +kernel
theorem dX1_topOf_9 : decode cX1_topOf 9 = .ok (.aload_n 0, 1) := by decide +kernel
theorem dX1_topOf_10 : decode cX1_topOf 10 = .ok (.getfield 21, 3) := by decide +kernel
theorem dX1_topOf_13 : decode cX1_topOf 13 = .ok (.iload_n 1, 1) := by decide +kernel
theorem dX1_topOf_14 : decode cX1_topOf 14 = .ok (.iaload, 1) := by decide +kernel
theorem dX1_topOf_15 : decode cX1_topOf 15 = .ok (.goto 4, 3) := by decide +kernel
theorem dX1_topOf_18 : decode cX1_topOf 18 = .ok (.iconst 0, 1) := by decide +kernel
theorem dX1_topOf_19 : decode cX1_topOf 19 = .ok (.ireturn, 1) := by decide +kernel
theorem dX1_sizeOf_0 : decode cX1_sizeOf 0 = .ok (.iload_n 1, 1) := by decide +kernel
theorem dX1_sizeOf_1 : decode cX1_sizeOf 1 = .ok (.ifCond .lt 17, 3) := by decide +kernel
theorem dX1_sizeOf_4 : decode cX1_sizeOf 4 = .ok (.iload_n 1, 1) := by decide +kernel
theorem dX1_sizeOf_5 : decode cX1_sizeOf 5 = .ok (.iconst 4, 1) := by decide +kernel
theorem dX1_sizeOf_6 : decode cX1_sizeOf 6 = .ok (.if_icmp .ge 12, 3) := by decide +kernel
theorem dX1_sizeOf_9 : decode cX1_sizeOf 9 = .ok (.aload_n 0, 1) := by decide +kernel
theorem dX1_sizeOf_10 : decode cX1_sizeOf 10 = .ok (.getfield 18, 3) := by decide +kernel
theorem dX1_sizeOf_13 : decode cX1_sizeOf 13 = .ok (.iload_n 1, 1) := by decide +kernel
theorem dX1_sizeOf_14 : decode cX1_sizeOf 14 = .ok (.iaload, 1) := by decide +kernel
theorem dX1_sizeOf_15 : decode cX1_sizeOf 15 = .ok (.goto 4, 3) := by decide +kernel
theorem dX1_sizeOf_18 : decode cX1_sizeOf 18 = .ok (.iconst 0, 1) := by decide +kernel
theorem dX1_sizeOf_19 : decode cX1_sizeOf 19 = .ok (.ireturn, 1) := by decide +kernel
theorem dX1_cardAt_0 : decode cX1_cardAt 0 = .ok (.iload_n 1, 1) := by decide +kernel
theorem dX1_cardAt_1 : decode cX1_cardAt 1 = .ok (.ifCond .lt 22, 3) := by decide +kernel
theorem dX1_cardAt_4 : decode cX1_cardAt 4 = .ok (.iload_n 1, 1) := by decide +kernel
theorem dX1_cardAt_5 : decode cX1_cardAt 5 = .ok (.iconst 4, 1) := by decide +kernel
theorem dX1_cardAt_6 : decode cX1_cardAt 6 = .ok (.if_icmp .ge 17, 3) := by decide +kernel
theorem dX1_cardAt_9 : decode cX1_cardAt 9 = .ok (.iload_n 2, 1) := by decide +kernel
theorem dX1_cardAt_10 : decode cX1_cardAt 10 = .ok (.ifCond .lt 13, 3) := by decide +kernel
theorem dX1_cardAt_13 : decode cX1_cardAt 13 = .ok (.iload_n 2, 1) := by decide +kernel
theorem dX1_cardAt_14 : decode cX1_cardAt 14 = .ok (.aload_n 0, 1) := by decide +kernel
theorem dX1_cardAt_15 : decode cX1_cardAt 15 = .ok (.getfield 18, 3) := by decide +kernel
theorem dX1_cardAt_18 : decode cX1_cardAt 18 = .ok (.iload_n 1, 1) := by decide +kernel
theorem dX1_cardAt_19 : decode cX1_cardAt 19 = .ok (.iaload, 1) := by decide +kernel
theorem dX1_cardAt_20 : decode cX1_cardAt 20 = .ok (.if_icmp .lt 5, 3) := by decide +kernel
theorem dX1_cardAt_23 : decode cX1_cardAt 23 = .ok (.iconst (-1), 1) := by decide +kernel
theorem dX1_cardAt_24 : decode cX1_cardAt 24 = .ok (.ireturn, 1) := by decide +kernel
theorem dX1_cardAt_25 : decode cX1_cardAt 25 = .ok (.iload_n 1, 1) := by decide +kernel
theorem dX1_cardAt_26 : decode cX1_cardAt 26 = .ok (.iconst 5, 1) := by decide +kernel
theorem dX1_cardAt_27 : decode cX1_cardAt 27 = .ok (.imul, 1) := by decide +kernel
theorem dX1_cardAt_28 : decode cX1_cardAt 28 = .ok (.iload_n 2, 1) := by decide +kernel
theorem dX1_cardAt_29 : decode cX1_cardAt 29 = .ok (.iadd, 1) := by decide +kernel
theorem dX1_cardAt_30 : decode cX1_cardAt 30 = .ok (.istore_n 3, 1) := by decide +kernel
theorem dX1_cardAt_31 : decode cX1_cardAt 31 = .ok (.iload_n 3, 1) := by decide +kernel
theorem dX1_cardAt_32 : decode cX1_cardAt 32 = .ok (.aload_n 0, 1) := by decide +kernel
theorem dX1_cardAt_33 : decode cX1_cardAt 33 = .ok (.getfield 15, 3) := by decide +kernel
theorem dX1_cardAt_36 : decode cX1_cardAt 36 = .ok (.arraylength, 1) := by decide +kernel
theorem dX1_cardAt_37 : decode cX1_cardAt 37 = .ok (.if_icmp .ge 12, 3) := by decide +kernel
theorem dX1_cardAt_40 : decode cX1_cardAt 40 = .ok (.aload_n 0, 1) := by decide +kernel
theorem dX1_cardAt_41 : decode cX1_cardAt 41 = .ok (.getfield 15, 3) := by decide +kernel
theorem dX1_cardAt_44 : decode cX1_cardAt 44 = .ok (.iload_n 3, 1) := by decide +kernel
theorem dX1_cardAt_45 : decode cX1_cardAt 45 = .ok (.iaload, 1) := by decide +kernel
theorem dX1_cardAt_46 : decode cX1_cardAt 46 = .ok (.goto 4, 3) := by decide +kernel
theorem dX1_cardAt_49 : decode cX1_cardAt 49 = .ok (.iconst (-1), 1) := by decide +kernel
theorem dX1_cardAt_50 : decode cX1_cardAt 50 = .ok (.ireturn, 1) := by decide +kernel
theorem dX1_kindOf_0 : decode cX1_kindOf 0 = .ok (.iload_n 1, 1) := by decide +kernel
theorem dX1_kindOf_1 : decode cX1_kindOf 1 = .ok (.ifCond .lt 21, 3) := by decide +kernel
theorem dX1_kindOf_4 : decode cX1_kindOf 4 = .ok (.iload_n 1, 1) := by decide +kernel
theorem dX1_kindOf_5 : decode cX1_kindOf 5 = .ok (.bipush 40, 2) := by decide +kernel
theorem dX1_kindOf_7 : decode cX1_kindOf 7 = .ok (.if_icmp .ge 15, 3) := by decide +kernel
theorem dX1_kindOf_10 : decode cX1_kindOf 10 = .ok (.aload_n 0, 1) := by decide +kernel
theorem dX1_kindOf_11 : decode cX1_kindOf 11 = .ok (.getfield 38, 3) := by decide +kernel
theorem dX1_kindOf_14 : decode cX1_kindOf 14 = .ok (.getfield 113, 3) := by decide +kernel
theorem dX1_kindOf_17 : decode cX1_kindOf 17 = .ok (.iload_n 1, 1) := by decide +kernel
theorem dX1_kindOf_18 : decode cX1_kindOf 18 = .ok (.iaload, 1) := by decide +kernel
theorem dX1_kindOf_19 : decode cX1_kindOf 19 = .ok (.goto 4, 3) := by decide +kernel
theorem dX1_kindOf_22 : decode cX1_kindOf 22 = .ok (.iconst 0, 1) := by decide +kernel
theorem dX1_kindOf_23 : decode cX1_kindOf 23 = .ok (.ireturn, 1) := by decide +kernel
theorem dX1_kindsLeftFor_0 : decode cX1_kindsLeftFor 0 = .ok (.iload_n 1, 1) := by decide +kernel
theorem dX1_kindsLeftFor_1 : decode cX1_kindsLeftFor 1 = .ok (.ifCond .lt 18, 3) := by decide +kernel
theorem dX1_kindsLeftFor_4 : decode cX1_kindsLeftFor 4 = .ok (.iload_n 1, 1) := by decide +kernel
theorem dX1_kindsLeftFor_5 : decode cX1_kindsLeftFor 5 = .ok (.bipush 40, 2) := by decide +kernel
theorem dX1_kindsLeftFor_7 : decode cX1_kindsLeftFor 7 = .ok (.if_icmp .ge 12, 3) := by decide +kernel
theorem dX1_kindsLeftFor_10 : decode cX1_kindsLeftFor 10 = .ok (.aload_n 0, 1) := by decide +kernel
theorem dX1_kindsLeftFor_11 : decode cX1_kindsLeftFor 11 = .ok (.getfield 32, 3) := by decide +kernel
theorem dX1_kindsLeftFor_14 : decode cX1_kindsLeftFor 14 = .ok (.iload_n 1, 1) := by decide +kernel
theorem dX1_kindsLeftFor_15 : decode cX1_kindsLeftFor 15 = .ok (.iaload, 1) := by decide +kernel
theorem dX1_kindsLeftFor_16 : decode cX1_kindsLeftFor 16 = .ok (.goto 4, 3) := by decide +kernel
theorem dX1_kindsLeftFor_19 : decode cX1_kindsLeftFor 19 = .ok (.iconst 0, 1) := by decide +kernel
theorem dX1_kindsLeftFor_20 : decode cX1_kindsLeftFor 20 = .ok (.ireturn, 1) := by decide +kernel
theorem dX1_wasTouched_0 : decode cX1_wasTouched 0 = .ok (.aload_n 0, 1) := by decide +kernel
theorem dX1_wasTouched_1 : decode cX1_wasTouched 1 = .ok (.getfield 61, 3) := by decide +kernel
theorem dX1_wasTouched_4 : decode cX1_wasTouched 4 = .ok (.iload_n 1, 1) := by decide +kernel
theorem dX1_wasTouched_5 : decode cX1_wasTouched 5 = .ok (.lshr, 1) := by decide +kernel
theorem dX1_wasTouched_6 : decode cX1_wasTouched 6 = .ok (.lconst 1, 1) := by decide +kernel
theorem dX1_wasTouched_7 : decode cX1_wasTouched 7 = .ok (.land, 1) := by decide +kernel
theorem dX1_wasTouched_8 : decode cX1_wasTouched 8 = .ok (.lconst 0, 1) := by decide +kernel
theorem dX1_wasTouched_9 : decode cX1_wasTouched 9 = .ok (.lcmp, 1) := by decide +kernel
theorem dX1_wasTouched_10 : decode cX1_wasTouched 10 = .ok (.ifCond .eq 7, 3) := by decide +kernel
theorem dX1_wasTouched_13 : decode cX1_wasTouched 13 = .ok (.iconst 1, 1) := by decide +kernel
theorem dX1_wasTouched_14 : decode cX1_wasTouched 14 = .ok (.goto 4, 3) := by decide +kernel
theorem dX1_wasTouched_17 : decode cX1_wasTouched 17 = .ok (.iconst 0, 1) := by decide +kernel
theorem dX1_wasTouched_18 : decode cX1_wasTouched 18 = .ok (.ireturn, 1) := by decide +kernel
theorem dX1_timesLeft_0 : decode cX1_timesLeft 0 = .ok (.iload_n 1, 1) := by decide +kernel
theorem dX1_timesLeft_1 : decode cX1_timesLeft 1 = .ok (.iload_n 2, 1) := by decide +kernel
theorem dX1_timesLeft_2 : decode cX1_timesLeft 2 = .ok (.invokestatic 116, 3) := by decide +kernel
theorem dX1_timesLeft_5 : decode cX1_timesLeft 5 = .ok (.istore_n 3, 1) := by decide +kernel
theorem dX1_timesLeft_6 : decode cX1_timesLeft 6 = .ok (.iload_n 3, 1) := by decide +kernel
theorem dX1_timesLeft_7 : decode cX1_timesLeft 7 = .ok (.iconst (-1), 1) := by decide +kernel
theorem dX1_timesLeft_8 : decode cX1_timesLeft 8 = .ok (.if_icmp .eq 12, 3) := by decide +kernel
theorem dX1_timesLeft_11 : decode cX1_timesLeft 11 = .ok (.aload_n 0, 1) := by decide +kernel
theorem dX1_timesLeft_12 : decode cX1_timesLeft 12 = .ok (.getfield 29, 3) := by decide +kernel
theorem dX1_timesLeft_15 : decode cX1_timesLeft 15 = .ok (.iload_n 3, 1) := by decide +kernel
theorem dX1_timesLeft_16 : decode cX1_timesLeft 16 = .ok (.iaload, 1) := by decide +kernel
theorem dX1_timesLeft_17 : decode cX1_timesLeft 17 = .ok (.goto 4, 3) := by decide +kernel
theorem dX1_timesLeft_20 : decode cX1_timesLeft 20 = .ok (.iconst 0, 1) := by decide +kernel
theorem dX1_timesLeft_21 : decode cX1_timesLeft 21 = .ok (.ireturn, 1) := by decide +kernel
theorem dX1_inHeap_0 : decode cX1_inHeap 0 = .ok (.iload_n 1, 1) := by decide +kernel
theorem dX1_inHeap_1 : decode cX1_inHeap 1 = .ok (.ifCond .lt 18, 3) := by decide +kernel
theorem dX1_inHeap_4 : decode cX1_inHeap 4 = .ok (.iload_n 1, 1) := by decide +kernel
theorem dX1_inHeap_5 : decode cX1_inHeap 5 = .ok (.bipush 20, 2) := by decide +kernel
theorem dX1_inHeap_7 : decode cX1_inHeap 7 = .ok (.if_icmp .ge 12, 3) := by decide +kernel
theorem dX1_inHeap_10 : decode cX1_inHeap 10 = .ok (.aload_n 0, 1) := by decide +kernel
theorem dX1_inHeap_11 : decode cX1_inHeap 11 = .ok (.getfield 24, 3) := by decide +kernel
theorem dX1_inHeap_14 : decode cX1_inHeap 14 = .ok (.iload_n 1, 1) := by decide +kernel
theorem dX1_inHeap_15 : decode cX1_inHeap 15 = .ok (.iaload, 1) := by decide +kernel
theorem dX1_inHeap_16 : decode cX1_inHeap 16 = .ok (.goto 4, 3) := by decide +kernel
theorem dX1_inHeap_19 : decode cX1_inHeap 19 = .ok (.iconst 0, 1) := by decide +kernel
theorem dX1_inHeap_20 : decode cX1_inHeap 20 = .ok (.ireturn, 1) := by decide +kernel
theorem dX1_inHands_0 : decode cX1_inHands 0 = .ok (.iconst 0, 1) := by decide +kernel
theorem dX1_inHands_1 : decode cX1_inHands 1 = .ok (.istore_n 2, 1) := by decide +kernel
theorem dX1_inHands_2 : decode cX1_inHands 2 = .ok (.iconst 0, 1) := by decide +kernel
theorem dX1_inHands_3 : decode cX1_inHands 3 = .ok (.istore_n 3, 1) := by decide +kernel
theorem dX1_inHands_4 : decode cX1_inHands 4 = .ok (.iload_n 3, 1) := by decide +kernel
theorem dX1_inHands_5 : decode cX1_inHands 5 = .ok (.aload_n 0, 1) := by decide +kernel
theorem dX1_inHands_6 : decode cX1_inHands 6 = .ok (.getfield 38, 3) := by decide +kernel
theorem dX1_inHands_9 : decode cX1_inHands 9 = .ok (.getfield 88, 3) := by decide +kernel
theorem dX1_inHands_12 : decode cX1_inHands 12 = .ok (.if_icmp .ge 46, 3) := by decide +kernel
theorem dX1_inHands_15 : decode cX1_inHands 15 = .ok (.iconst 0, 1) := by decide +kernel
theorem dX1_inHands_16 : decode cX1_inHands 16 = .ok (.istore 4, 2) := by decide +kernel
theorem dX1_inHands_18 : decode cX1_inHands 18 = .ok (.iload 4, 2) := by decide +kernel
theorem dX1_inHands_20 : decode cX1_inHands 20 = .ok (.aload_n 0, 1) := by decide +kernel
theorem dX1_inHands_21 : decode cX1_inHands 21 = .ok (.iload_n 3, 1) := by decide +kernel
theorem dX1_inHands_22 : decode cX1_inHands 22 = .ok (.invokevirtual 120, 3) := by decide +kernel
theorem dX1_inHands_25 : decode cX1_inHands 25 = .ok (.if_icmp .ge 27, 3) := by decide +kernel
theorem dX1_inHands_28 : decode cX1_inHands 28 = .ok (.aload_n 0, 1) := by decide +kernel
theorem dX1_inHands_29 : decode cX1_inHands 29 = .ok (.aload_n 0, 1) := by decide +kernel
theorem dX1_inHands_30 : decode cX1_inHands 30 = .ok (.iload_n 3, 1) := by decide +kernel
theorem dX1_inHands_31 : decode cX1_inHands 31 = .ok (.iload 4, 2) := by decide +kernel
theorem dX1_inHands_33 : decode cX1_inHands 33 = .ok (.invokevirtual 124, 3) := by decide +kernel
theorem dX1_inHands_36 : decode cX1_inHands 36 = .ok (.invokevirtual 127, 3) := by decide +kernel
theorem dX1_inHands_39 : decode cX1_inHands 39 = .ok (.iload_n 1, 1) := by decide +kernel
theorem dX1_inHands_40 : decode cX1_inHands 40 = .ok (.if_icmp .ne 6, 3) := by decide +kernel
theorem dX1_inHands_43 : decode cX1_inHands 43 = .ok (.iinc 2 1, 3) := by decide +kernel
theorem dX1_inHands_46 : decode cX1_inHands 46 = .ok (.iinc 4 1, 3) := by decide +kernel
theorem dX1_inHands_49 : decode cX1_inHands 49 = .ok (.goto (-31), 3) := by decide +kernel
theorem dX1_inHands_52 : decode cX1_inHands 52 = .ok (.iinc 3 1, 3) := by decide +kernel
theorem dX1_inHands_55 : decode cX1_inHands 55 = .ok (.goto (-51), 3) := by decide +kernel
theorem dX1_inHands_58 : decode cX1_inHands 58 = .ok (.iload_n 2, 1) := by decide +kernel
theorem dX1_inHands_59 : decode cX1_inHands 59 = .ok (.ireturn, 1) := by decide +kernel
theorem dX1_toBeDrawn_0 : decode cX1_toBeDrawn 0 = .ok (.iconst 0, 1) := by decide +kernel
theorem dX1_toBeDrawn_1 : decode cX1_toBeDrawn 1 = .ok (.istore_n 2, 1) := by decide +kernel
theorem dX1_toBeDrawn_2 : decode cX1_toBeDrawn 2 = .ok (.aload_n 0, 1) := by decide +kernel
theorem dX1_toBeDrawn_3 : decode cX1_toBeDrawn 3 = .ok (.getfield 42, 3) := by decide +kernel
theorem dX1_toBeDrawn_6 : decode cX1_toBeDrawn 6 = .ok (.istore_n 3, 1) := by decide +kernel
theorem dX1_toBeDrawn_7 : decode cX1_toBeDrawn 7 = .ok (.iload_n 3, 1) := by decide +kernel
theorem dX1_toBeDrawn_8 : decode cX1_toBeDrawn 8 = .ok (.aload_n 0, 1) := by decide +kernel
theorem dX1_toBeDrawn_9 : decode cX1_toBeDrawn 9 = .ok (.getfield 38, 3) := by decide +kernel
theorem dX1_toBeDrawn_12 : decode cX1_toBeDrawn 12 = .ok (.getfield 98, 3) := by decide +kernel
theorem dX1_toBeDrawn_15 : decode cX1_toBeDrawn 15 = .ok (.if_icmp .ge 21, 3) := by decide +kernel
theorem dX1_toBeDrawn_18 : decode cX1_toBeDrawn 18 = .ok (.aload_n 0, 1) := by decide +kernel
theorem dX1_toBeDrawn_19 : decode cX1_toBeDrawn 19 = .ok (.iload_n 3, 1) := by decide +kernel
theorem dX1_toBeDrawn_20 : decode cX1_toBeDrawn 20 = .ok (.invokevirtual 127, 3) := by decide +kernel
theorem dX1_toBeDrawn_23 : decode cX1_toBeDrawn 23 = .ok (.iload_n 1, 1) := by decide +kernel
theorem dX1_toBeDrawn_24 : decode cX1_toBeDrawn 24 = .ok (.if_icmp .ne 6, 3) := by decide +kernel
theorem dX1_toBeDrawn_27 : decode cX1_toBeDrawn 27 = .ok (.iinc 2 1, 3) := by decide +kernel
theorem dX1_toBeDrawn_30 : decode cX1_toBeDrawn 30 = .ok (.iinc 3 1, 3) := by decide +kernel
theorem dX1_toBeDrawn_33 : decode cX1_toBeDrawn 33 = .ok (.goto (-26), 3) := by decide +kernel
theorem dX1_toBeDrawn_36 : decode cX1_toBeDrawn 36 = .ok (.iload_n 2, 1) := by decide +kernel
theorem dX1_toBeDrawn_37 : decode cX1_toBeDrawn 37 = .ok (.ireturn, 1) := by decide +kernel
theorem dX1_notInHeap_0 : decode cX1_notInHeap 0 = .ok (.iload_n 1, 1) := by decide +kernel
theorem dX1_notInHeap_1 : decode cX1_notInHeap 1 = .ok (.ifCond .lt 28, 3) := by decide +kernel
theorem dX1_notInHeap_4 : decode cX1_notInHeap 4 = .ok (.iload_n 1, 1) := by decide +kernel
theorem dX1_notInHeap_5 : decode cX1_notInHeap 5 = .ok (.bipush 20, 2) := by decide +kernel
theorem dX1_notInHeap_7 : decode cX1_notInHeap 7 = .ok (.if_icmp .ge 22, 3) := by decide +kernel
theorem dX1_notInHeap_10 : decode cX1_notInHeap 10 = .ok (.aload_n 0, 1) := by decide +kernel
theorem dX1_notInHeap_11 : decode cX1_notInHeap 11 = .ok (.getfield 38, 3) := by decide +kernel
theorem dX1_notInHeap_14 : decode cX1_notInHeap 14 = .ok (.getfield 130, 3) := by decide +kernel
theorem dX1_notInHeap_17 : decode cX1_notInHeap 17 = .ok (.iload_n 1, 1) := by decide +kernel
theorem dX1_notInHeap_18 : decode cX1_notInHeap 18 = .ok (.iaload, 1) := by decide +kernel
theorem dX1_notInHeap_19 : decode cX1_notInHeap 19 = .ok (.aload_n 0, 1) := by decide +kernel
theorem dX1_notInHeap_20 : decode cX1_notInHeap 20 = .ok (.getfield 24, 3) := by decide +kernel
theorem dX1_notInHeap_23 : decode cX1_notInHeap 23 = .ok (.iload_n 1, 1) := by decide +kernel
theorem dX1_notInHeap_24 : decode cX1_notInHeap 24 = .ok (.iaload, 1) := by decide +kernel
theorem dX1_notInHeap_25 : decode cX1_notInHeap 25 = .ok (.isub, 1) := by decide +kernel
theorem dX1_notInHeap_26 : decode cX1_notInHeap 26 = .ok (.goto 4, 3) := by decide +kernel
theorem dX1_notInHeap_29 : decode cX1_notInHeap 29 = .ok (.iconst 0, 1) := by decide +kernel
theorem dX1_notInHeap_30 : decode cX1_notInHeap 30 = .ok (.ireturn, 1) := by decide +kernel
theorem dX1_canGoOnPile_0 : decode cX1_canGoOnPile 0 = .ok (.aload_n 0, 1) := by decide +kernel
theorem dX1_canGoOnPile_1 : decode cX1_canGoOnPile 1 = .ok (.iload_n 1, 1) := by decide +kernel
theorem dX1_canGoOnPile_2 : decode cX1_canGoOnPile 2 = .ok (.iconst 5, 1) := by decide +kernel
theorem dX1_canGoOnPile_3 : decode cX1_canGoOnPile 3 = .ok (.idiv, 1) := by decide +kernel
theorem dX1_canGoOnPile_4 : decode cX1_canGoOnPile 4 = .ok (.invokevirtual 133, 3) := by decide +kernel
theorem dX1_canGoOnPile_7 : decode cX1_canGoOnPile 7 = .ok (.iload_n 1, 1) := by decide +kernel
theorem dX1_canGoOnPile_8 : decode cX1_canGoOnPile 8 = .ok (.iconst 5, 1) := by decide +kernel
theorem dX1_canGoOnPile_9 : decode cX1_canGoOnPile 9 = .ok (.irem, 1) := by decide +kernel
theorem dX1_canGoOnPile_10 : decode cX1_canGoOnPile 10 = .ok (.if_icmp .ne 7, 3) := by decide +kernel
theorem dX1_canGoOnPile_13 : decode cX1_canGoOnPile 13 = .ok (.iconst 1, 1) := by decide +kernel
theorem dX1_canGoOnPile_14 : decode cX1_canGoOnPile 14 = .ok (.goto 4, 3) := by decide +kernel
theorem dX1_canGoOnPile_17 : decode cX1_canGoOnPile 17 = .ok (.iconst 0, 1) := by decide +kernel
theorem dX1_canGoOnPile_18 : decode cX1_canGoOnPile 18 = .ok (.ireturn, 1) := by decide +kernel
theorem dX1_isOnPile_0 : decode cX1_isOnPile 0 = .ok (.aload_n 0, 1) := by decide +kernel
theorem dX1_isOnPile_1 : decode cX1_isOnPile 1 = .ok (.iload_n 1, 1) := by decide +kernel
theorem dX1_isOnPile_2 : decode cX1_isOnPile 2 = .ok (.iconst 5, 1) := by decide +kernel
theorem dX1_isOnPile_3 : decode cX1_isOnPile 3 = .ok (.idiv, 1) := by decide +kernel
theorem dX1_isOnPile_4 : decode cX1_isOnPile 4 = .ok (.invokevirtual 133, 3) := by decide +kernel
theorem dX1_isOnPile_7 : decode cX1_isOnPile 7 = .ok (.iload_n 1, 1) := by decide +kernel
theorem dX1_isOnPile_8 : decode cX1_isOnPile 8 = .ok (.iconst 5, 1) := by decide +kernel
theorem dX1_isOnPile_9 : decode cX1_isOnPile 9 = .ok (.irem, 1) := by decide +kernel
theorem dX1_isOnPile_10 : decode cX1_isOnPile 10 = .ok (.if_icmp .le 7, 3) := by decide +kernel
theorem dX1_isOnPile_13 : decode cX1_isOnPile 13 = .ok (.iconst 1, 1) := by decide +kernel
theorem dX1_isOnPile_14 : decode cX1_isOnPile 14 = .ok (.goto 4, 3) := by decide +kernel
theorem dX1_isOnPile_17 : decode cX1_isOnPile 17 = .ok (.iconst 0, 1) := by decide +kernel
theorem dX1_isOnPile_18 : decode cX1_isOnPile 18 = .ok (.ireturn, 1) := by decide +kernel
theorem dX1_isOfUse_0 : decode cX1_isOfUse 0 = .ok (.iload_n 1, 1) := by decide +kernel
theorem dX1_isOfUse_1 : decode cX1_isOfUse 1 = .ok (.iconst 5, 1) := by decide +kernel
theorem dX1_isOfUse_2 : decode cX1_isOfUse 2 = .ok (.irem, 1) := by decide +kernel
theorem dX1_isOfUse_3 : decode cX1_isOfUse 3 = .ok (.istore_n 2, 1) := by decide +kernel
theorem dX1_isOfUse_4 : decode cX1_isOfUse 4 = .ok (.iload_n 1, 1) := by decide +kernel
theorem dX1_isOfUse_5 : decode cX1_isOfUse 5 = .ok (.iconst 5, 1) := by decide +kernel
theorem dX1_isOfUse_6 : decode cX1_isOfUse 6 = .ok (.idiv, 1) := by decide +kernel
theorem dX1_isOfUse_7 : decode cX1_isOfUse 7 = .ok (.istore_n 3, 1) := by decide +kernel
theorem dX1_isOfUse_8 : decode cX1_isOfUse 8 = .ok (.iload_n 2, 1) := by decide +kernel
theorem dX1_isOfUse_9 : decode cX1_isOfUse 9 = .ok (.aload_n 0, 1) := by decide +kernel
theorem dX1_isOfUse_10 : decode cX1_isOfUse 10 = .ok (.iload_n 3, 1) := by decide +kernel
theorem dX1_isOfUse_11 : decode cX1_isOfUse 11 = .ok (.invokevirtual 133, 3) := by decide +kernel
theorem dX1_isOfUse_14 : decode cX1_isOfUse 14 = .ok (.if_icmp .lt 16, 3) := by decide +kernel
theorem dX1_isOfUse_17 : decode cX1_isOfUse 17 = .ok (.iload_n 2, 1) := by decide +kernel
theorem dX1_isOfUse_18 : decode cX1_isOfUse 18 = .ok (.aload_n 0, 1) := by decide +kernel
theorem dX1_isOfUse_19 : decode cX1_isOfUse 19 = .ok (.iload_n 3, 1) := by decide +kernel
theorem dX1_isOfUse_20 : decode cX1_isOfUse 20 = .ok (.invokevirtual 136, 3) := by decide +kernel
theorem dX1_isOfUse_23 : decode cX1_isOfUse 23 = .ok (.if_icmp .ge 7, 3) := by decide +kernel
theorem dX1_isOfUse_26 : decode cX1_isOfUse 26 = .ok (.iconst 1, 1) := by decide +kernel
theorem dX1_isOfUse_27 : decode cX1_isOfUse 27 = .ok (.goto 4, 3) := by decide +kernel
theorem dX1_isOfUse_30 : decode cX1_isOfUse 30 = .ok (.iconst 0, 1) := by decide +kernel
theorem dX1_isOfUse_31 : decode cX1_isOfUse 31 = .ok (.ireturn, 1) := by decide +kernel
theorem dX1_isLastOne_0 : decode cX1_isLastOne 0 = .ok (.aload_n 0, 1) := by decide +kernel
theorem dX1_isLastOne_1 : decode cX1_isLastOne 1 = .ok (.iload_n 1, 1) := by decide +kernel
theorem dX1_isLastOne_2 : decode cX1_isLastOne 2 = .ok (.invokevirtual 139, 3) := by decide +kernel
theorem dX1_isLastOne_5 : decode cX1_isLastOne 5 = .ok (.iconst 1, 1) := by decide +kernel
theorem dX1_isLastOne_6 : decode cX1_isLastOne 6 = .ok (.if_icmp .ne 15, 3) := by decide +kernel
theorem dX1_isLastOne_9 : decode cX1_isLastOne 9 = .ok (.aload_n 0, 1) := by decide +kernel
theorem dX1_isLastOne_10 : decode cX1_isLastOne 10 = .ok (.iload_n 1, 1) := by decide +kernel
theorem dX1_isLastOne_11 : decode cX1_isLastOne 11 = .ok (.invokevirtual 142, 3) := by decide +kernel
theorem dX1_isLastOne_14 : decode cX1_isLastOne 14 = .ok (.ifCond .eq 7, 3) := by decide +kernel
theorem dX1_isLastOne_17 : decode cX1_isLastOne 17 = .ok (.iconst 1, 1) := by decide +kernel
theorem dX1_isLastOne_18 : decode cX1_isLastOne 18 = .ok (.goto 4, 3) := by decide +kernel
theorem dX1_isLastOne_21 : decode cX1_isLastOne 21 = .ok (.iconst 0, 1) := by decide +kernel
theorem dX1_isLastOne_22 : decode cX1_isLastOne 22 = .ok (.ireturn, 1) := by decide +kernel
theorem dX1_reachableTop_0 : decode cX1_reachableTop 0 = .ok (.iload_n 1, 1) := by decide +kernel
theorem dX1_reachableTop_1 : decode cX1_reachableTop 1 = .ok (.ifCond .lt 8, 3) := by decide +kernel
theorem dX1_reachableTop_4 : decode cX1_reachableTop 4 = .ok (.iload_n 1, 1) := by decide +kernel
theorem dX1_reachableTop_5 : decode cX1_reachableTop 5 = .ok (.iconst 4, 1) := by decide +kernel
theorem dX1_reachableTop_6 : decode cX1_reachableTop 6 = .ok (.if_icmp .lt 5, 3) := by decide +kernel
theorem dX1_reachableTop_9 : decode cX1_reachableTop 9 = .ok (.iconst 0, 1) := by decide +kernel
theorem dX1_reachableTop_10 : decode cX1_reachableTop 10 = .ok (.ireturn, 1) := by decide +kernel
theorem dX1_reachableTop_11 : decode cX1_reachableTop 11 = .ok (.aload_n 0, 1) := by decide +kernel
theorem dX1_reachableTop_12 : decode cX1_reachableTop 12 = .ok (.getfield 21, 3) := by decide +kernel
theorem dX1_reachableTop_15 : decode cX1_reachableTop 15 = .ok (.iload_n 1, 1) := by decide +kernel
theorem dX1_reachableTop_16 : decode cX1_reachableTop 16 = .ok (.iaload, 1) := by decide +kernel
theorem dX1_reachableTop_17 : decode cX1_reachableTop 17 = .ok (.istore_n 2, 1) := by decide +kernel
theorem dX1_reachableTop_18 : decode cX1_reachableTop 18 = .ok (.iload_n 1, 1) := by decide +kernel
theorem dX1_reachableTop_19 : decode cX1_reachableTop 19 = .ok (.iconst 5, 1) := by decide +kernel
theorem dX1_reachableTop_20 : decode cX1_reachableTop 20 = .ok (.imul, 1) := by decide +kernel
theorem dX1_reachableTop_21 : decode cX1_reachableTop 21 = .ok (.istore_n 3, 1) := by decide +kernel
theorem dX1_reachableTop_22 : decode cX1_reachableTop 22 = .ok (.iload_n 3, 1) := by decide +kernel
theorem dX1_reachableTop_23 : decode cX1_reachableTop 23 = .ok (.iload_n 2, 1) := by decide +kernel
theorem dX1_reachableTop_24 : decode cX1_reachableTop 24 = .ok (.iadd, 1) := by decide +kernel
theorem dX1_reachableTop_25 : decode cX1_reachableTop 25 = .ok (.istore 4, 2) := by decide +kernel
theorem dX1_reachableTop_27 : decode cX1_reachableTop 27 = .ok (.iload 4, 2) := by decide +kernel
theorem dX1_reachableTop_29 : decode cX1_reachableTop 29 = .ok (.iload_n 3, 1) := by decide +kernel
theorem dX1_reachableTop_30 : decode cX1_reachableTop 30 = .ok (.aload_n 0, 1) := by decide +kernel
theorem dX1_reachableTop_31 : decode cX1_reachableTop 31 = .ok (.getfield 38, 3) := by decide +kernel
theorem dX1_reachableTop_34 : decode cX1_reachableTop 34 = .ok (.getfield 107, 3) := by decide +kernel
theorem dX1_reachableTop_37 : decode cX1_reachableTop 37 = .ok (.iadd, 1) := by decide +kernel
theorem dX1_reachableTop_38 : decode cX1_reachableTop 38 = .ok (.if_icmp .ge 39, 3) := by decide +kernel
theorem dX1_reachableTop_41 : decode cX1_reachableTop 41 = .ok (.iload 4, 2) := by decide +kernel
theorem dX1_reachableTop_43 : decode cX1_reachableTop 43 = .ok (.bipush 20, 2) := by decide +kernel
theorem dX1_reachableTop_45 : decode cX1_reachableTop 45 = .ok (.if_icmp .ge 32, 3) := by decide +kernel
theorem dX1_reachableTop_48 : decode cX1_reachableTop 48 = .ok (.aload_n 0, 1) := by decide +kernel
theorem dX1_reachableTop_49 : decode cX1_reachableTop 49 = .ok (.getfield 24, 3) := by decide +kernel
theorem dX1_reachableTop_52 : decode cX1_reachableTop 52 = .ok (.iload 4, 2) := by decide +kernel
theorem dX1_reachableTop_54 : decode cX1_reachableTop 54 = .ok (.iaload, 1) := by decide +kernel
theorem dX1_reachableTop_55 : decode cX1_reachableTop 55 = .ok (.aload_n 0, 1) := by decide +kernel
theorem dX1_reachableTop_56 : decode cX1_reachableTop 56 = .ok (.getfield 38, 3) := by decide +kernel
theorem dX1_reachableTop_59 : decode cX1_reachableTop 59 = .ok (.getfield 130, 3) := by decide +kernel
theorem dX1_reachableTop_62 : decode cX1_reachableTop 62 = .ok (.iload 4, 2) := by decide +kernel
theorem dX1_reachableTop_64 : decode cX1_reachableTop 64 = .ok (.iaload, 1) := by decide +kernel
theorem dX1_reachableTop_65 : decode cX1_reachableTop 65 = .ok (.if_icmp .ge 12, 3) := by decide +kernel
theorem dX1_reachableTop_68 : decode cX1_reachableTop 68 = .ok (.iinc 2 1, 3) := by decide +kernel
theorem dX1_reachableTop_71 : decode cX1_reachableTop 71 = .ok (.iinc 4 1, 3) := by decide +kernel
theorem dX1_reachableTop_74 : decode cX1_reachableTop 74 = .ok (.goto (-47), 3) := by decide +kernel
theorem dX1_reachableTop_77 : decode cX1_reachableTop 77 = .ok (.iload_n 2, 1) := by decide +kernel
theorem dX1_reachableTop_78 : decode cX1_reachableTop 78 = .ok (.ireturn, 1) := by decide +kernel
theorem dX1_reachableScore_0 : decode cX1_reachableScore 0 = .ok (.iconst 0, 1) := by decide +kernel
theorem dX1_reachableScore_1 : decode cX1_reachableScore 1 = .ok (.istore_n 1, 1) := by decide +kernel
theorem dX1_reachableScore_2 : decode cX1_reachableScore 2 = .ok (.iconst 0, 1) := by decide +kernel
theorem dX1_reachableScore_3 : decode cX1_reachableScore 3 = .ok (.istore_n 2, 1) := by decide +kernel
theorem dX1_reachableScore_4 : decode cX1_reachableScore 4 = .ok (.iload_n 2, 1) := by decide +kernel
theorem dX1_reachableScore_5 : decode cX1_reachableScore 5 = .ok (.aload_n 0, 1) := by decide +kernel
theorem dX1_reachableScore_6 : decode cX1_reachableScore 6 = .ok (.getfield 38, 3) := by decide +kernel
theorem dX1_reachableScore_9 : decode cX1_reachableScore 9 = .ok (.getfield 104, 3) := by decide +kernel
theorem dX1_reachableScore_12 : decode cX1_reachableScore 12 = .ok (.if_icmp .ge 17, 3) := by decide +kernel
theorem dX1_reachableScore_15 : decode cX1_reachableScore 15 = .ok (.iload_n 1, 1) := by decide +kernel
theorem dX1_reachableScore_16 : decode cX1_reachableScore 16 = .ok (.aload_n 0, 1) := by decide +kernel
theorem dX1_reachableScore_17 : decode cX1_reachableScore 17 = .ok (.iload_n 2, 1) := by decide +kernel
theorem dX1_reachableScore_18 : decode cX1_reachableScore 18 = .ok (.invokevirtual 136, 3) := by decide +kernel
theorem dX1_reachableScore_21 : decode cX1_reachableScore 21 = .ok (.iadd, 1) := by decide +kernel
theorem dX1_reachableScore_22 : decode cX1_reachableScore 22 = .ok (.istore_n 1, 1) := by decide +kernel
theorem dX1_reachableScore_23 : decode cX1_reachableScore 23 = .ok (.iinc 2 1, 3) := by decide +kernel
theorem dX1_reachableScore_26 : decode cX1_reachableScore 26 = .ok (.goto (-22), 3) := by decide +kernel
theorem dX1_reachableScore_29 : decode cX1_reachableScore 29 = .ok (.iload_n 1, 1) := by decide +kernel
theorem dX1_reachableScore_30 : decode cX1_reachableScore 30 = .ok (.ireturn, 1) := by decide +kernel
theorem dX1_playableKinds_0 : decode cX1_playableKinds 0 = .ok (.iconst 0, 1) := by decide +kernel
theorem dX1_playableKinds_1 : decode cX1_playableKinds 1 = .ok (.istore_n 1, 1) := by decide +kernel
theorem dX1_playableKinds_2 : decode cX1_playableKinds 2 = .ok (.iconst 0, 1) := by decide +kernel
theorem dX1_playableKinds_3 : decode cX1_playableKinds 3 = .ok (.istore_n 2, 1) := by decide +kernel
theorem dX1_playableKinds_4 : decode cX1_playableKinds 4 = .ok (.iload_n 2, 1) := by decide +kernel
theorem dX1_playableKinds_5 : decode cX1_playableKinds 5 = .ok (.aload_n 0, 1) := by decide +kernel
theorem dX1_playableKinds_6 : decode cX1_playableKinds 6 = .ok (.getfield 38, 3) := by decide +kernel
theorem dX1_playableKinds_9 : decode cX1_playableKinds 9 = .ok (.getfield 104, 3) := by decide +kernel
theorem dX1_playableKinds_12 : decode cX1_playableKinds 12 = .ok (.if_icmp .ge 26, 3) := by decide +kernel
theorem dX1_playableKinds_15 : decode cX1_playableKinds 15 = .ok (.iload_n 1, 1) := by decide +kernel
theorem dX1_playableKinds_16 : decode cX1_playableKinds 16 = .ok (.iconst 1, 1) := by decide +kernel
theorem dX1_playableKinds_17 : decode cX1_playableKinds 17 = .ok (.aload_n 0, 1) := by decide +kernel
theorem dX1_playableKinds_18 : decode cX1_playableKinds 18 = .ok (.iload_n 2, 1) := by decide +kernel
theorem dX1_playableKinds_19 : decode cX1_playableKinds 19 = .ok (.invokevirtual 133, 3) := by decide +kernel
theorem dX1_playableKinds_22 : decode cX1_playableKinds 22 = .ok (.ishl, 1) := by decide +kernel
theorem dX1_playableKinds_23 : decode cX1_playableKinds 23 = .ok (.bipush 31, 2) := by decide +kernel
theorem dX1_playableKinds_25 : decode cX1_playableKinds 25 = .ok (.iand, 1) := by decide +kernel
theorem dX1_playableKinds_26 : decode cX1_playableKinds 26 = .ok (.iload_n 2, 1) := by decide +kernel
theorem dX1_playableKinds_27 : decode cX1_playableKinds 27 = .ok (.iconst 5, 1) := by decide +kernel
theorem dX1_playableKinds_28 : decode cX1_playableKinds 28 = .ok (.imul, 1) := by decide +kernel
theorem dX1_playableKinds_29 : decode cX1_playableKinds 29 = .ok (.ishl, 1) := by decide +kernel
theorem dX1_playableKinds_30 : decode cX1_playableKinds 30 = .ok (.ior, 1) := by decide +kernel
theorem dX1_playableKinds_31 : decode cX1_playableKinds 31 = .ok (.istore_n 1, 1) := by decide +kernel
theorem dX1_playableKinds_32 : decode cX1_playableKinds 32 = .ok (.iinc 2 1, 3) := by decide +kernel
theorem dX1_playableKinds_35 : decode cX1_playableKinds 35 = .ok (.goto (-31), 3) := by decide +kernel
theorem dX1_playableKinds_38 : decode cX1_playableKinds 38 = .ok (.iload_n 1, 1) := by decide +kernel
theorem dX1_playableKinds_39 : decode cX1_playableKinds 39 = .ok (.ireturn, 1) := by decide +kernel
theorem dX1_uselessKinds_0 : decode cX1_uselessKinds 0 = .ok (.iconst 0, 1) := by decide +kernel
theorem dX1_uselessKinds_1 : decode cX1_uselessKinds 1 = .ok (.istore_n 1, 1) := by decide +kernel
theorem dX1_uselessKinds_2 : decode cX1_uselessKinds 2 = .ok (.iconst 0, 1) := by decide +kernel
theorem dX1_uselessKinds_3 : decode cX1_uselessKinds 3 = .ok (.istore_n 2, 1) := by decide +kernel
theorem dX1_uselessKinds_4 : decode cX1_uselessKinds 4 = .ok (.iload_n 2, 1) := by decide +kernel
theorem dX1_uselessKinds_5 : decode cX1_uselessKinds 5 = .ok (.aload_n 0, 1) := by decide +kernel
theorem dX1_uselessKinds_6 : decode cX1_uselessKinds 6 = .ok (.getfield 38, 3) := by decide +kernel
theorem dX1_uselessKinds_9 : decode cX1_uselessKinds 9 = .ok (.getfield 104, 3) := by decide +kernel
theorem dX1_uselessKinds_12 : decode cX1_uselessKinds 12 = .ok (.if_icmp .ge 38, 3) := by decide +kernel
theorem dX1_uselessKinds_15 : decode cX1_uselessKinds 15 = .ok (.iconst 1, 1) := by decide +kernel
theorem dX1_uselessKinds_16 : decode cX1_uselessKinds 16 = .ok (.aload_n 0, 1) := by decide +kernel
theorem dX1_uselessKinds_17 : decode cX1_uselessKinds 17 = .ok (.iload_n 2, 1) := by decide +kernel
theorem dX1_uselessKinds_18 : decode cX1_uselessKinds 18 = .ok (.invokevirtual 136, 3) := by decide +kernel
theorem dX1_uselessKinds_21 : decode cX1_uselessKinds 21 = .ok (.ishl, 1) := by decide +kernel
theorem dX1_uselessKinds_22 : decode cX1_uselessKinds 22 = .ok (.iconst 1, 1) := by decide +kernel
theorem dX1_uselessKinds_23 : decode cX1_uselessKinds 23 = .ok (.aload_n 0, 1) := by decide +kernel
theorem dX1_uselessKinds_24 : decode cX1_uselessKinds 24 = .ok (.iload_n 2, 1) := by decide +kernel
theorem dX1_uselessKinds_25 : decode cX1_uselessKinds 25 = .ok (.invokevirtual 133, 3) := by decide +kernel
theorem dX1_uselessKinds_28 : decode cX1_uselessKinds 28 = .ok (.ishl, 1) := by decide +kernel
theorem dX1_uselessKinds_29 : decode cX1_uselessKinds 29 = .ok (.isub, 1) := by decide +kernel
theorem dX1_uselessKinds_30 : decode cX1_uselessKinds 30 = .ok (.istore_n 3, 1) := by decide +kernel
theorem dX1_uselessKinds_31 : decode cX1_uselessKinds 31 = .ok (.iload_n 1, 1) := by decide +kernel
theorem dX1_uselessKinds_32 : decode cX1_uselessKinds 32 = .ok (.bipush 31, 2) := by decide +kernel
theorem dX1_uselessKinds_34 : decode cX1_uselessKinds 34 = .ok (.iload_n 3, 1) := by decide +kernel
theorem dX1_uselessKinds_35 : decode cX1_uselessKinds 35 = .ok (.iconst (-1), 1) := by decide +kernel
theorem dX1_uselessKinds_36 : decode cX1_uselessKinds 36 = .ok (.ixor, 1) := by decide +kernel
theorem dX1_uselessKinds_37 : decode cX1_uselessKinds 37 = .ok (.iand, 1) := by decide +kernel
theorem dX1_uselessKinds_38 : decode cX1_uselessKinds 38 = .ok (.iload_n 2, 1) := by decide +kernel
theorem dX1_uselessKinds_39 : decode cX1_uselessKinds 39 = .ok (.iconst 5, 1) := by decide +kernel
theorem dX1_uselessKinds_40 : decode cX1_uselessKinds 40 = .ok (.imul, 1) := by decide +kernel
theorem dX1_uselessKinds_41 : decode cX1_uselessKinds 41 = .ok (.ishl, 1) := by decide +kernel
theorem dX1_uselessKinds_42 : decode cX1_uselessKinds 42 = .ok (.ior, 1) := by decide +kernel
theorem dX1_uselessKinds_43 : decode cX1_uselessKinds 43 = .ok (.istore_n 1, 1) := by decide +kernel
theorem dX1_uselessKinds_44 : decode cX1_uselessKinds 44 = .ok (.iinc 2 1, 3) := by decide +kernel
theorem dX1_uselessKinds_47 : decode cX1_uselessKinds 47 = .ok (.goto (-43), 3) := by decide +kernel
theorem dX1_uselessKinds_50 : decode cX1_uselessKinds 50 = .ok (.iload_n 1, 1) := by decide +kernel
theorem dX1_uselessKinds_51 : decode cX1_uselessKinds 51 = .ok (.ireturn, 1) := by decide +kernel
theorem dX1_touchedPlaces_0 : decode cX1_touchedPlaces 0 = .ok (.iconst 0, 1) := by decide +kernel
theorem dX1_touchedPlaces_1 : decode cX1_touchedPlaces 1 = .ok (.istore_n 3, 1) := by decide +kernel
theorem dX1_touchedPlaces_2 : decode cX1_touchedPlaces 2 = .ok (.iconst 0, 1) := by decide +kernel
theorem dX1_touchedPlaces_3 : decode cX1_touchedPlaces 3 = .ok (.istore 4, 2) := by decide +kernel
theorem dX1_touchedPlaces_5 : decode cX1_touchedPlaces 5 = .ok (.iload 4, 2) := by decide +kernel
theorem dX1_touchedPlaces_7 : decode cX1_touchedPlaces 7 = .ok (.aload_n 0, 1) := by decide +kernel
theorem dX1_touchedPlaces_8 : decode cX1_touchedPlaces 8 = .ok (.iload_n 1, 1) := by decide +kernel
theorem dX1_touchedPlaces_9 : decode cX1_touchedPlaces 9 = .ok (.invokevirtual 120, 3) := by decide +kernel
theorem dX1_touchedPlaces_12 : decode cX1_touchedPlaces 12 = .ok (.if_icmp .ge 34, 3) := by decide +kernel
theorem dX1_touchedPlaces_15 : decode cX1_touchedPlaces 15 = .ok (.aload_n 0, 1) := by decide +kernel
theorem dX1_touchedPlaces_16 : decode cX1_touchedPlaces 16 = .ok (.aload_n 0, 1) := by decide +kernel
theorem dX1_touchedPlaces_17 : decode cX1_touchedPlaces 17 = .ok (.iload_n 1, 1) := by decide +kernel
theorem dX1_touchedPlaces_18 : decode cX1_touchedPlaces 18 = .ok (.iload 4, 2) := by decide +kernel
theorem dX1_touchedPlaces_20 : decode cX1_touchedPlaces 20 = .ok (.invokevirtual 124, 3) := by decide +kernel
theorem dX1_touchedPlaces_23 : decode cX1_touchedPlaces 23 = .ok (.invokevirtual 127, 3) := by decide +kernel
theorem dX1_touchedPlaces_26 : decode cX1_touchedPlaces 26 = .ok (.iload_n 2, 1) := by decide +kernel
theorem dX1_touchedPlaces_27 : decode cX1_touchedPlaces 27 = .ok (.invokestatic 146, 3) := by decide +kernel
theorem dX1_touchedPlaces_30 : decode cX1_touchedPlaces 30 = .ok (.ifCond .eq 10, 3) := by decide +kernel
theorem dX1_touchedPlaces_33 : decode cX1_touchedPlaces 33 = .ok (.iload_n 3, 1) := by decide +kernel
theorem dX1_touchedPlaces_34 : decode cX1_touchedPlaces 34 = .ok (.iconst 1, 1) := by decide +kernel
theorem dX1_touchedPlaces_35 : decode cX1_touchedPlaces 35 = .ok (.iload 4, 2) := by decide +kernel
theorem dX1_touchedPlaces_37 : decode cX1_touchedPlaces 37 = .ok (.ishl, 1) := by decide +kernel
theorem dX1_touchedPlaces_38 : decode cX1_touchedPlaces 38 = .ok (.ior, 1) := by decide +kernel
theorem dX1_touchedPlaces_39 : decode cX1_touchedPlaces 39 = .ok (.istore_n 3, 1) := by decide +kernel
theorem dX1_touchedPlaces_40 : decode cX1_touchedPlaces 40 = .ok (.iinc 4 1, 3) := by decide +kernel
theorem dX1_touchedPlaces_43 : decode cX1_touchedPlaces 43 = .ok (.goto (-38), 3) := by decide +kernel
theorem dX1_touchedPlaces_46 : decode cX1_touchedPlaces 46 = .ok (.iload_n 3, 1) := by decide +kernel
theorem dX1_touchedPlaces_47 : decode cX1_touchedPlaces 47 = .ok (.ireturn, 1) := by decide +kernel
theorem dX1_canBeGiven_0 : decode cX1_canBeGiven 0 = .ok (.aload_n 0, 1) := by decide +kernel
theorem dX1_canBeGiven_1 : decode cX1_canBeGiven 1 = .ok (.getfield 46, 3) := by decide +kernel
theorem dX1_canBeGiven_4 : decode cX1_canBeGiven 4 = .ok (.ifCond .le 37, 3) := by decide +kernel
theorem dX1_canBeGiven_7 : decode cX1_canBeGiven 7 = .ok (.iload_n 1, 1) := by decide +kernel
theorem dX1_canBeGiven_8 : decode cX1_canBeGiven 8 = .ok (.aload_n 0, 1) := by decide +kernel
theorem dX1_canBeGiven_9 : decode cX1_canBeGiven 9 = .ok (.getfield 52, 3) := by decide +kernel
theorem dX1_canBeGiven_12 : decode cX1_canBeGiven 12 = .ok (.if_icmp .eq 29, 3) := by decide +kernel
theorem dX1_canBeGiven_15 : decode cX1_canBeGiven 15 = .ok (.aload_n 0, 1) := by decide +kernel
theorem dX1_canBeGiven_16 : decode cX1_canBeGiven 16 = .ok (.iload_n 2, 1) := by decide +kernel
theorem dX1_canBeGiven_17 : decode cX1_canBeGiven 17 = .ok (.iload_n 3, 1) := by decide +kernel
theorem dX1_canBeGiven_18 : decode cX1_canBeGiven 18 = .ok (.invokevirtual 150, 3) := by decide +kernel
theorem dX1_canBeGiven_21 : decode cX1_canBeGiven 21 = .ok (.ifCond .le 20, 3) := by decide +kernel
theorem dX1_canBeGiven_24 : decode cX1_canBeGiven 24 = .ok (.aload_n 0, 1) := by decide +kernel
theorem dX1_canBeGiven_25 : decode cX1_canBeGiven 25 = .ok (.iload_n 1, 1) := by decide +kernel
theorem dX1_canBeGiven_26 : decode cX1_canBeGiven 26 = .ok (.iload_n 2, 1) := by decide +kernel
theorem dX1_canBeGiven_27 : decode cX1_canBeGiven 27 = .ok (.iload_n 3, 1) := by decide +kernel
theorem dX1_canBeGiven_28 : decode cX1_canBeGiven 28 = .ok (.invokestatic 153, 3) := by decide +kernel
theorem dX1_canBeGiven_31 : decode cX1_canBeGiven 31 = .ok (.invokevirtual 156, 3) := by decide +kernel
theorem dX1_canBeGiven_34 : decode cX1_canBeGiven 34 = .ok (.ifCond .eq 7, 3) := by decide +kernel
theorem dX1_canBeGiven_37 : decode cX1_canBeGiven 37 = .ok (.iconst 1, 1) := by decide +kernel
theorem dX1_canBeGiven_38 : decode cX1_canBeGiven 38 = .ok (.goto 4, 3) := by decide +kernel
theorem dX1_canBeGiven_41 : decode cX1_canBeGiven 41 = .ok (.iconst 0, 1) := by decide +kernel
theorem dX1_canBeGiven_42 : decode cX1_canBeGiven 42 = .ok (.ireturn, 1) := by decide +kernel
theorem dX1_playCard_0 : decode cX1_playCard 0 = .ok (.aload_n 0, 1) := by decide +kernel
theorem dX1_playCard_1 : decode cX1_playCard 1 = .ok (.aload_n 0, 1) := by decide +kernel
theorem dX1_playCard_2 : decode cX1_playCard 2 = .ok (.iload_n 1, 1) := by decide +kernel
theorem dX1_playCard_3 : decode cX1_playCard 3 = .ok (.invokevirtual 159, 3) := by decide +kernel
theorem dX1_playCard_6 : decode cX1_playCard 6 = .ok (.invokevirtual 127, 3) := by decide +kernel
theorem dX1_playCard_9 : decode cX1_playCard 9 = .ok (.istore_n 2, 1) := by decide +kernel
theorem dX1_playCard_10 : decode cX1_playCard 10 = .ok (.aload_n 0, 1) := by decide +kernel
theorem dX1_playCard_11 : decode cX1_playCard 11 = .ok (.iload_n 2, 1) := by decide +kernel
theorem dX1_playCard_12 : decode cX1_playCard 12 = .ok (.invokevirtual 162, 3) := by decide +kernel
theorem dX1_playCard_15 : decode cX1_playCard 15 = .ok (.ifCond .eq 57, 3) := by decide +kernel
theorem dX1_playCard_18 : decode cX1_playCard 18 = .ok (.aload_n 0, 1) := by decide +kernel
theorem dX1_playCard_19 : decode cX1_playCard 19 = .ok (.getfield 21, 3) := by decide +kernel
theorem dX1_playCard_22 : decode cX1_playCard 22 = .ok (.iload_n 2, 1) := by decide +kernel
theorem dX1_playCard_23 : decode cX1_playCard 23 = .ok (.iconst 5, 1) := by decide +kernel
theorem dX1_playCard_24 : decode cX1_playCard 24 = .ok (.idiv, 1) := by decide +kernel
theorem dX1_playCard_25 : decode cX1_playCard 25 = .ok (.dup2, 1) := by decide +kernel
theorem dX1_playCard_26 : decode cX1_playCard 26 = .ok (.iaload, 1) := by decide +kernel
theorem dX1_playCard_27 : decode cX1_playCard 27 = .ok (.iconst 1, 1) := by decide +kernel
theorem dX1_playCard_28 : decode cX1_playCard 28 = .ok (.iadd, 1) := by decide +kernel
theorem dX1_playCard_29 : decode cX1_playCard 29 = .ok (.iastore, 1) := by decide +kernel
theorem dX1_playCard_30 : decode cX1_playCard 30 = .ok (.aload_n 0, 1) := by decide +kernel
theorem dX1_playCard_31 : decode cX1_playCard 31 = .ok (.getfield 11, 3) := by decide +kernel
theorem dX1_playCard_34 : decode cX1_playCard 34 = .ok (.iconst 0, 1) := by decide +kernel
theorem dX1_playCard_35 : decode cX1_playCard 35 = .ok (.dup2, 1) := by decide +kernel
theorem dX1_playCard_36 : decode cX1_playCard 36 = .ok (.iaload, 1) := by decide +kernel
theorem dX1_playCard_37 : decode cX1_playCard 37 = .ok (.iconst 1, 1) := by decide +kernel
theorem dX1_playCard_38 : decode cX1_playCard 38 = .ok (.iadd, 1) := by decide +kernel
theorem dX1_playCard_39 : decode cX1_playCard 39 = .ok (.iastore, 1) := by decide +kernel
theorem dX1_playCard_40 : decode cX1_playCard 40 = .ok (.iload_n 2, 1) := by decide +kernel
theorem dX1_playCard_41 : decode cX1_playCard 41 = .ok (.iconst 5, 1) := by decide +kernel
theorem dX1_playCard_42 : decode cX1_playCard 42 = .ok (.irem, 1) := by decide +kernel
theorem dX1_playCard_43 : decode cX1_playCard 43 = .ok (.iconst 1, 1) := by decide +kernel
theorem dX1_playCard_44 : decode cX1_playCard 44 = .ok (.iadd, 1) := by decide +kernel
theorem dX1_playCard_45 : decode cX1_playCard 45 = .ok (.aload_n 0, 1) := by decide +kernel
theorem dX1_playCard_46 : decode cX1_playCard 46 = .ok (.getfield 38, 3) := by decide +kernel
theorem dX1_playCard_49 : decode cX1_playCard 49 = .ok (.getfield 107, 3) := by decide +kernel
theorem dX1_playCard_52 : decode cX1_playCard 52 = .ok (.if_icmp .ne 7, 3) := by decide +kernel
theorem dX1_playCard_55 : decode cX1_playCard 55 = .ok (.aload_n 0, 1) := by decide +kernel
theorem dX1_playCard_56 : decode cX1_playCard 56 = .ok (.invokevirtual 165, 3) := by decide +kernel
theorem dX1_playCard_59 : decode cX1_playCard 59 = .ok (.aload_n 0, 1) := by decide +kernel
theorem dX1_playCard_60 : decode cX1_playCard 60 = .ok (.iconst 0, 1) := by decide +kernel
theorem dX1_playCard_61 : decode cX1_playCard 61 = .ok (.iload_n 2, 1) := by decide +kernel
theorem dX1_playCard_62 : decode cX1_playCard 62 = .ok (.invokestatic 168, 3) := by decide +kernel
theorem dX1_playCard_65 : decode cX1_playCard 65 = .ok (.iconst (-1), 1) := by decide +kernel
theorem dX1_playCard_66 : decode cX1_playCard 66 = .ok (.invokevirtual 171, 3) := by decide +kernel
theorem dX1_playCard_69 : decode cX1_playCard 69 = .ok (.goto 38, 3) := by decide +kernel
theorem dX1_playCard_72 : decode cX1_playCard 72 = .ok (.aload_n 0, 1) := by decide +kernel
theorem dX1_playCard_73 : decode cX1_playCard 73 = .ok (.iload_n 2, 1) := by decide +kernel
theorem dX1_playCard_74 : decode cX1_playCard 74 = .ok (.invokevirtual 175, 3) := by decide +kernel
theorem dX1_playCard_77 : decode cX1_playCard 77 = .ok (.aload_n 0, 1) := by decide +kernel
theorem dX1_playCard_78 : decode cX1_playCard 78 = .ok (.dup, 1) := by decide +kernel
theorem dX1_playCard_79 : decode cX1_playCard 79 = .ok (.getfield 49, 3) := by decide +kernel
theorem dX1_playCard_82 : decode cX1_playCard 82 = .ok (.iconst 1, 1) := by decide +kernel
theorem dX1_playCard_83 : decode cX1_playCard 83 = .ok (.isub, 1) := by decide +kernel
theorem dX1_playCard_84 : decode cX1_playCard 84 = .ok (.putfield 49, 3) := by decide +kernel
theorem dX1_playCard_87 : decode cX1_playCard 87 = .ok (.aload_n 0, 1) := by decide +kernel
theorem dX1_playCard_88 : decode cX1_playCard 88 = .ok (.getfield 11, 3) := by decide +kernel
theorem dX1_playCard_91 : decode cX1_playCard 91 = .ok (.iconst 1, 1) := by decide +kernel
theorem dX1_playCard_92 : decode cX1_playCard 92 = .ok (.dup2, 1) := by decide +kernel
theorem dX1_playCard_93 : decode cX1_playCard 93 = .ok (.iaload, 1) := by decide +kernel
theorem dX1_playCard_94 : decode cX1_playCard 94 = .ok (.iconst 1, 1) := by decide +kernel
theorem dX1_playCard_95 : decode cX1_playCard 95 = .ok (.iadd, 1) := by decide +kernel
theorem dX1_playCard_96 : decode cX1_playCard 96 = .ok (.iastore, 1) := by decide +kernel
theorem dX1_playCard_97 : decode cX1_playCard 97 = .ok (.aload_n 0, 1) := by decide +kernel
theorem dX1_playCard_98 : decode cX1_playCard 98 = .ok (.iconst 4, 1) := by decide +kernel
theorem dX1_playCard_99 : decode cX1_playCard 99 = .ok (.iload_n 2, 1) := by decide +kernel
theorem dX1_playCard_100 : decode cX1_playCard 100 = .ok (.invokestatic 168, 3) := by decide +kernel
theorem dX1_playCard_103 : decode cX1_playCard 103 = .ok (.iconst (-1), 1) := by decide +kernel
theorem dX1_playCard_104 : decode cX1_playCard 104 = .ok (.invokevirtual 171, 3) := by decide +kernel
theorem dX1_playCard_107 : decode cX1_playCard 107 = .ok (.aload_n 0, 1) := by decide +kernel
theorem dX1_playCard_108 : decode cX1_playCard 108 = .ok (.aload_n 0, 1) := by decide +kernel
theorem dX1_playCard_109 : decode cX1_playCard 109 = .ok (.getfield 52, 3) := by decide +kernel
theorem dX1_playCard_112 : decode cX1_playCard 112 = .ok (.invokevirtual 94, 3) := by decide +kernel
theorem dX1_playCard_115 : decode cX1_playCard 115 = .ok (.aload_n 0, 1) := by decide +kernel
theorem dX1_playCard_116 : decode cX1_playCard 116 = .ok (.invokevirtual 178, 3) := by decide +kernel
theorem dX1_playCard_119 : decode cX1_playCard 119 = .ok (.return_, 1) := by decide +kernel
theorem dX1_discardCard_0 : decode cX1_discardCard 0 = .ok (.aload_n 0, 1) := by decide +kernel
theorem dX1_discardCard_1 : decode cX1_discardCard 1 = .ok (.aload_n 0, 1) := by decide +kernel
theorem dX1_discardCard_2 : decode cX1_discardCard 2 = .ok (.iload_n 1, 1) := by decide +kernel
theorem dX1_discardCard_3 : decode cX1_discardCard 3 = .ok (.invokevirtual 159, 3) := by decide +kernel
theorem dX1_discardCard_6 : decode cX1_discardCard 6 = .ok (.invokevirtual 127, 3) := by decide +kernel
theorem dX1_discardCard_9 : decode cX1_discardCard 9 = .ok (.istore_n 2, 1) := by decide +kernel
theorem dX1_discardCard_10 : decode cX1_discardCard 10 = .ok (.aload_n 0, 1) := by decide +kernel
theorem dX1_discardCard_11 : decode cX1_discardCard 11 = .ok (.iload_n 2, 1) := by decide +kernel
theorem dX1_discardCard_12 : decode cX1_discardCard 12 = .ok (.invokevirtual 175, 3) := by decide +kernel
theorem dX1_discardCard_15 : decode cX1_discardCard 15 = .ok (.aload_n 0, 1) := by decide +kernel
theorem dX1_discardCard_16 : decode cX1_discardCard 16 = .ok (.invokevirtual 165, 3) := by decide +kernel
theorem dX1_discardCard_19 : decode cX1_discardCard 19 = .ok (.aload_n 0, 1) := by decide +kernel
theorem dX1_discardCard_20 : decode cX1_discardCard 20 = .ok (.getfield 11, 3) := by decide +kernel
theorem dX1_discardCard_23 : decode cX1_discardCard 23 = .ok (.iconst 2, 1) := by decide +kernel
theorem dX1_discardCard_24 : decode cX1_discardCard 24 = .ok (.dup2, 1) := by decide +kernel
theorem dX1_discardCard_25 : decode cX1_discardCard 25 = .ok (.iaload, 1) := by decide +kernel
theorem dX1_discardCard_26 : decode cX1_discardCard 26 = .ok (.iconst 1, 1) := by decide +kernel
theorem dX1_discardCard_27 : decode cX1_discardCard 27 = .ok (.iadd, 1) := by decide +kernel
theorem dX1_discardCard_28 : decode cX1_discardCard 28 = .ok (.iastore, 1) := by decide +kernel
theorem dX1_discardCard_29 : decode cX1_discardCard 29 = .ok (.aload_n 0, 1) := by decide +kernel
theorem dX1_discardCard_30 : decode cX1_discardCard 30 = .ok (.iconst 1, 1) := by decide +kernel
theorem dX1_discardCard_31 : decode cX1_discardCard 31 = .ok (.iload_n 2, 1) := by decide +kernel
theorem dX1_discardCard_32 : decode cX1_discardCard 32 = .ok (.invokestatic 168, 3) := by decide +kernel
theorem dX1_discardCard_35 : decode cX1_discardCard 35 = .ok (.iconst (-1), 1) := by decide +kernel
theorem dX1_discardCard_36 : decode cX1_discardCard 36 = .ok (.invokevirtual 171, 3) := by decide +kernel
theorem dX1_discardCard_39 : decode cX1_discardCard 39 = .ok (.aload_n 0, 1) := by decide +kernel
theorem dX1_discardCard_40 : decode cX1_discardCard 40 = .ok (.aload_n 0, 1) := by decide +kernel
theorem dX1_discardCard_41 : decode cX1_discardCard 41 = .ok (.getfield 52, 3) := by decide +kernel
theorem dX1_discardCard_44 : decode cX1_discardCard 44 = .ok (.invokevirtual 94, 3) := by decide +kernel
theorem dX1_discardCard_47 : decode cX1_discardCard 47 = .ok (.aload_n 0, 1) := by decide +kernel
theorem dX1_discardCard_48 : decode cX1_discardCard 48 = .ok (.invokevirtual 178, 3) := by decide +kernel
theorem dX1_discardCard_51 : decode cX1_discardCard 51 = .ok (.return_, 1) := by decide +kernel
theorem dX1_giveHint_0 : decode cX1_giveHint 0 = .ok (.iload_n 2, 1) := by decide +kernel
theorem dX1_giveHint_1 : decode cX1_giveHint 1 = .ok (.iload_n 3, 1) := by decide +kernel
theorem dX1_giveHint_2 : decode cX1_giveHint 2 = .ok (.invokestatic 153, 3) := by decide +kernel
theorem dX1_giveHint_5 : decode cX1_giveHint 5 = .ok (.istore 4, 2) := by decide +kernel
theorem dX1_giveHint_7 : decode cX1_giveHint 7 = .ok (.iconst 0, 1) := by decide +kernel
theorem dX1_giveHint_8 : decode cX1_giveHint 8 = .ok (.istore 5, 2) := by decide +kernel
theorem dX1_giveHint_10 : decode cX1_giveHint 10 = .ok (.iconst 0, 1) := by decide +kernel
theorem dX1_giveHint_11 : decode cX1_giveHint 11 = .ok (.istore 6, 2) := by decide +kernel
theorem dX1_giveHint_13 : decode cX1_giveHint 13 = .ok (.iload 6, 2) := by decide +kernel
theorem dX1_giveHint_15 : decode cX1_giveHint 15 = .ok (.aload_n 0, 1) := by decide +kernel
theorem dX1_giveHint_16 : decode cX1_giveHint 16 = .ok (.iload_n 1, 1) := by decide +kernel
theorem dX1_giveHint_17 : decode cX1_giveHint 17 = .ok (.invokevirtual 120, 3) := by decide +kernel
theorem dX1_giveHint_20 : decode cX1_giveHint 20 = .ok (.if_icmp .ge 28, 3) := by decide +kernel
theorem dX1_giveHint_23 : decode cX1_giveHint 23 = .ok (.aload_n 0, 1) := by decide +kernel
theorem dX1_giveHint_24 : decode cX1_giveHint 24 = .ok (.aload_n 0, 1) := by decide +kernel
theorem dX1_giveHint_25 : decode cX1_giveHint 25 = .ok (.iload_n 1, 1) := by decide +kernel
theorem dX1_giveHint_26 : decode cX1_giveHint 26 = .ok (.iload 6, 2) := by decide +kernel
theorem dX1_giveHint_28 : decode cX1_giveHint 28 = .ok (.invokevirtual 124, 3) := by decide +kernel
theorem dX1_giveHint_31 : decode cX1_giveHint 31 = .ok (.iload 4, 2) := by decide +kernel
theorem dX1_giveHint_33 : decode cX1_giveHint 33 = .ok (.invokevirtual 181, 3) := by decide +kernel
theorem dX1_giveHint_36 : decode cX1_giveHint 36 = .ok (.ifCond .eq 6, 3) := by decide +kernel
theorem dX1_giveHint_39 : decode cX1_giveHint 39 = .ok (.iinc 5 1, 3) := by decide +kernel
theorem dX1_giveHint_42 : decode cX1_giveHint 42 = .ok (.iinc 6 1, 3) := by decide +kernel
theorem dX1_giveHint_45 : decode cX1_giveHint 45 = .ok (.goto (-32), 3) := by decide +kernel
theorem dX1_giveHint_48 : decode cX1_giveHint 48 = .ok (.iload_n 2, 1) := by decide +kernel
theorem dX1_giveHint_49 : decode cX1_giveHint 49 = .ok (.iload_n 3, 1) := by decide +kernel
theorem dX1_giveHint_50 : decode cX1_giveHint 50 = .ok (.invokestatic 116, 3) := by decide +kernel
theorem dX1_giveHint_53 : decode cX1_giveHint 53 = .ok (.istore 6, 2) := by decide +kernel
theorem dX1_giveHint_55 : decode cX1_giveHint 55 = .ok (.iload 6, 2) := by decide +kernel
theorem dX1_giveHint_57 : decode cX1_giveHint 57 = .ok (.iconst (-1), 1) := by decide +kernel
theorem dX1_giveHint_58 : decode cX1_giveHint 58 = .ok (.if_icmp .eq 14, 3) := by decide +kernel
theorem dX1_giveHint_61 : decode cX1_giveHint 61 = .ok (.aload_n 0, 1) := by decide +kernel
theorem dX1_giveHint_62 : decode cX1_giveHint 62 = .ok (.getfield 29, 3) := by decide +kernel
theorem dX1_giveHint_65 : decode cX1_giveHint 65 = .ok (.iload 6, 2) := by decide +kernel
theorem dX1_giveHint_67 : decode cX1_giveHint 67 = .ok (.dup2, 1) := by decide +kernel
theorem dX1_giveHint_68 : decode cX1_giveHint 68 = .ok (.iaload, 1) := by decide +kernel
theorem dX1_giveHint_69 : decode cX1_giveHint 69 = .ok (.iconst 1, 1) := by decide +kernel
theorem dX1_giveHint_70 : decode cX1_giveHint 70 = .ok (.isub, 1) := by decide +kernel
theorem dX1_giveHint_71 : decode cX1_giveHint 71 = .ok (.iastore, 1) := by decide +kernel
theorem dX1_giveHint_72 : decode cX1_giveHint 72 = .ok (.aload_n 0, 1) := by decide +kernel
theorem dX1_giveHint_73 : decode cX1_giveHint 73 = .ok (.dup, 1) := by decide +kernel
theorem dX1_giveHint_74 : decode cX1_giveHint 74 = .ok (.getfield 46, 3) := by decide +kernel
theorem dX1_giveHint_77 : decode cX1_giveHint 77 = .ok (.iconst 1, 1) := by decide +kernel
theorem dX1_giveHint_78 : decode cX1_giveHint 78 = .ok (.isub, 1) := by decide +kernel
theorem dX1_giveHint_79 : decode cX1_giveHint 79 = .ok (.putfield 46, 3) := by decide +kernel
theorem dX1_giveHint_82 : decode cX1_giveHint 82 = .ok (.aload_n 0, 1) := by decide +kernel
theorem dX1_giveHint_83 : decode cX1_giveHint 83 = .ok (.getfield 11, 3) := by decide +kernel
theorem dX1_giveHint_86 : decode cX1_giveHint 86 = .ok (.iconst 3, 1) := by decide +kernel
theorem dX1_giveHint_87 : decode cX1_giveHint 87 = .ok (.dup2, 1) := by decide +kernel
theorem dX1_giveHint_88 : decode cX1_giveHint 88 = .ok (.iaload, 1) := by decide +kernel
theorem dX1_giveHint_89 : decode cX1_giveHint 89 = .ok (.iconst 1, 1) := by decide +kernel
theorem dX1_giveHint_90 : decode cX1_giveHint 90 = .ok (.iadd, 1) := by decide +kernel
theorem dX1_giveHint_91 : decode cX1_giveHint 91 = .ok (.iastore, 1) := by decide +kernel
theorem dX1_giveHint_92 : decode cX1_giveHint 92 = .ok (.aload_n 0, 1) := by decide +kernel
theorem dX1_giveHint_93 : decode cX1_giveHint 93 = .ok (.getfield 11, 3) := by decide +kernel
theorem dX1_giveHint_96 : decode cX1_giveHint 96 = .ok (.iconst 5, 1) := by decide +kernel
theorem dX1_giveHint_97 : decode cX1_giveHint 97 = .ok (.dup2, 1) := by decide +kernel
theorem dX1_giveHint_98 : decode cX1_giveHint 98 = .ok (.iaload, 1) := by decide +kernel
theorem dX1_giveHint_99 : decode cX1_giveHint 99 = .ok (.iload 5, 2) := by decide +kernel
theorem dX1_giveHint_101 : decode cX1_giveHint 101 = .ok (.iadd, 1) := by decide +kernel
theorem dX1_giveHint_102 : decode cX1_giveHint 102 = .ok (.iastore, 1) := by decide +kernel
theorem dX1_giveHint_103 : decode cX1_giveHint 103 = .ok (.aload_n 0, 1) := by decide +kernel
theorem dX1_giveHint_104 : decode cX1_giveHint 104 = .ok (.iconst 2, 1) := by decide +kernel
theorem dX1_giveHint_105 : decode cX1_giveHint 105 = .ok (.iload_n 1, 1) := by decide +kernel
theorem dX1_giveHint_106 : decode cX1_giveHint 106 = .ok (.bipush 10, 2) := by decide +kernel
theorem dX1_giveHint_108 : decode cX1_giveHint 108 = .ok (.iload_n 2, 1) := by decide +kernel
theorem dX1_giveHint_109 : decode cX1_giveHint 109 = .ok (.imul, 1) := by decide +kernel
theorem dX1_giveHint_110 : decode cX1_giveHint 110 = .ok (.iload_n 3, 1) := by decide +kernel
theorem dX1_giveHint_111 : decode cX1_giveHint 111 = .ok (.iadd, 1) := by decide +kernel
theorem dX1_giveHint_112 : decode cX1_giveHint 112 = .ok (.invokevirtual 171, 3) := by decide +kernel
theorem dX1_giveHint_115 : decode cX1_giveHint 115 = .ok (.aload_n 0, 1) := by decide +kernel
theorem dX1_giveHint_116 : decode cX1_giveHint 116 = .ok (.invokevirtual 178, 3) := by decide +kernel
theorem dX1_giveHint_119 : decode cX1_giveHint 119 = .ok (.iload 5, 2) := by decide +kernel
theorem dX1_giveHint_121 : decode cX1_giveHint 121 = .ok (.ireturn, 1) := by decide +kernel
theorem dX1_passTurn_0 : decode cX1_passTurn 0 = .ok (.aload_n 0, 1) := by decide +kernel
theorem dX1_passTurn_1 : decode cX1_passTurn 1 = .ok (.iconst 3, 1) := by decide +kernel
theorem dX1_passTurn_2 : decode cX1_passTurn 2 = .ok (.iconst (-1), 1) := by decide +kernel
theorem dX1_passTurn_3 : decode cX1_passTurn 3 = .ok (.iconst (-1), 1) := by decide +kernel
theorem dX1_passTurn_4 : decode cX1_passTurn 4 = .ok (.invokevirtual 171, 3) := by decide +kernel
theorem dX1_passTurn_7 : decode cX1_passTurn 7 = .ok (.aload_n 0, 1) := by decide +kernel
theorem dX1_passTurn_8 : decode cX1_passTurn 8 = .ok (.invokevirtual 178, 3) := by decide +kernel
theorem dX1_passTurn_11 : decode cX1_passTurn 11 = .ok (.return_, 1) := by decide +kernel
theorem dX1_learn_0 : decode cX1_learn 0 = .ok (.iload_n 1, 1) := by decide +kernel
theorem dX1_learn_1 : decode cX1_learn 1 = .ok (.ifCond .lt 9, 3) := by decide +kernel
theorem dX1_learn_4 : decode cX1_learn 4 = .ok (.iload_n 1, 1) := by decide +kernel
theorem dX1_learn_5 : decode cX1_learn 5 = .ok (.bipush 40, 2) := by decide +kernel
theorem dX1_learn_7 : decode cX1_learn 7 = .ok (.if_icmp .lt 5, 3) := by decide +kernel
theorem dX1_learn_10 : decode cX1_learn 10 = .ok (.iconst 0, 1) := by decide +kernel
theorem dX1_learn_11 : decode cX1_learn 11 = .ok (.ireturn, 1) := by decide +kernel
theorem dX1_learn_12 : decode cX1_learn 12 = .ok (.aload_n 0, 1) := by decide +kernel
theorem dX1_learn_13 : decode cX1_learn 13 = .ok (.iload_n 1, 1) := by decide +kernel
theorem dX1_learn_14 : decode cX1_learn 14 = .ok (.invokevirtual 127, 3) := by decide +kernel
theorem dX1_learn_17 : decode cX1_learn 17 = .ok (.iload_n 2, 1) := by decide +kernel
theorem dX1_learn_18 : decode cX1_learn 18 = .ok (.invokestatic 146, 3) := by decide +kernel
theorem dX1_learn_21 : decode cX1_learn 21 = .ok (.istore_n 3, 1) := by decide +kernel
theorem dX1_learn_22 : decode cX1_learn 22 = .ok (.iload_n 3, 1) := by decide +kernel
theorem dX1_learn_23 : decode cX1_learn 23 = .ok (.ifCond .eq 15, 3) := by decide +kernel
theorem dX1_learn_26 : decode cX1_learn 26 = .ok (.aload_n 0, 1) := by decide +kernel
theorem dX1_learn_27 : decode cX1_learn 27 = .ok (.dup, 1) := by decide +kernel
theorem dX1_learn_28 : decode cX1_learn 28 = .ok (.getfield 61, 3) := by decide +kernel
theorem dX1_learn_31 : decode cX1_learn 31 = .ok (.lconst 1, 1) := by decide +kernel
theorem dX1_learn_32 : decode cX1_learn 32 = .ok (.iload_n 1, 1) := by decide +kernel
theorem dX1_learn_33 : decode cX1_learn 33 = .ok (.lshl, 1) := by decide +kernel
theorem dX1_learn_34 : decode cX1_learn 34 = .ok (.lor, 1) := by decide +kernel
theorem dX1_learn_35 : decode cX1_learn 35 = .ok (.putfield 61, 3) := by decide +kernel
theorem dX1_learn_38 : decode cX1_learn 38 = .ok (.aload_n 0, 1) := by decide +kernel
theorem dX1_learn_39 : decode cX1_learn 39 = .ok (.getfield 32, 3) := by decide +kernel
theorem dX1_learn_42 : decode cX1_learn 42 = .ok (.iload_n 1, 1) := by decide +kernel
theorem dX1_learn_43 : decode cX1_learn 43 = .ok (.dup2, 1) := by decide +kernel
theorem dX1_learn_44 : decode cX1_learn 44 = .ok (.iaload, 1) := by decide +kernel
theorem dX1_learn_45 : decode cX1_learn 45 = .ok (.iload_n 3, 1) := by decide +kernel
theorem dX1_learn_46 : decode cX1_learn 46 = .ok (.ifCond .eq 7, 3) := by decide +kernel
theorem dX1_learn_49 : decode cX1_learn 49 = .ok (.iload_n 2, 1) := by decide +kernel
theorem dX1_learn_50 : decode cX1_learn 50 = .ok (.goto 6, 3) := by decide +kernel
theorem dX1_learn_53 : decode cX1_learn 53 = .ok (.iload_n 2, 1) := by decide +kernel
theorem dX1_learn_54 : decode cX1_learn 54 = .ok (.iconst (-1), 1) := by decide +kernel
theorem dX1_learn_55 : decode cX1_learn 55 = .ok (.ixor, 1) := by decide +kernel
theorem dX1_learn_56 : decode cX1_learn 56 = .ok (.iand, 1) := by decide +kernel
theorem dX1_learn_57 : decode cX1_learn 57 = .ok (.iastore, 1) := by decide +kernel
theorem dX1_learn_58 : decode cX1_learn 58 = .ok (.iload_n 3, 1) := by decide +kernel
theorem dX1_learn_59 : decode cX1_learn 59 = .ok (.ireturn, 1) := by decide +kernel
theorem dX1_takeCard_0 : decode cX1_takeCard 0 = .ok (.aload_n 0, 1) := by decide +kernel
theorem dX1_takeCard_1 : decode cX1_takeCard 1 = .ok (.aload_n 0, 1) := by decide +kernel
theorem dX1_takeCard_2 : decode cX1_takeCard 2 = .ok (.getfield 52, 3) := by decide +kernel
theorem dX1_takeCard_5 : decode cX1_takeCard 5 = .ok (.iload_n 1, 1) := by decide +kernel
theorem dX1_takeCard_6 : decode cX1_takeCard 6 = .ok (.invokevirtual 124, 3) := by decide +kernel
theorem dX1_takeCard_9 : decode cX1_takeCard 9 = .ok (.istore_n 2, 1) := by decide +kernel
theorem dX1_takeCard_10 : decode cX1_takeCard 10 = .ok (.iload_n 2, 1) := by decide +kernel
theorem dX1_takeCard_11 : decode cX1_takeCard 11 = .ok (.iconst (-1), 1) := by decide +kernel
theorem dX1_takeCard_12 : decode cX1_takeCard 12 = .ok (.if_icmp .ne 5, 3) := by decide +kernel
theorem dX1_takeCard_15 : decode cX1_takeCard 15 = .ok (.iconst (-1), 1) := by decide +kernel
theorem dX1_takeCard_16 : decode cX1_takeCard 16 = .ok (.ireturn, 1) := by decide +kernel
theorem dX1_takeCard_17 : decode cX1_takeCard 17 = .ok (.iload_n 1, 1) := by decide +kernel
theorem dX1_takeCard_18 : decode cX1_takeCard 18 = .ok (.istore_n 3, 1) := by decide +kernel
theorem dX1_takeCard_19 : decode cX1_takeCard 19 = .ok (.iload_n 3, 1) := by decide +kernel
theorem dX1_takeCard_20 : decode cX1_takeCard 20 = .ok (.iconst 1, 1) := by decide +kernel
theorem dX1_takeCard_21 : decode cX1_takeCard 21 = .ok (.iadd, 1) := by decide +kernel
theorem dX1_takeCard_22 : decode cX1_takeCard 22 = .ok (.aload_n 0, 1) := by decide +kernel
theorem dX1_takeCard_23 : decode cX1_takeCard 23 = .ok (.getfield 18, 3) := by decide +kernel
theorem dX1_takeCard_26 : decode cX1_takeCard 26 = .ok (.aload_n 0, 1) := by decide +kernel
theorem dX1_takeCard_27 : decode cX1_takeCard 27 = .ok (.getfield 52, 3) := by decide +kernel
theorem dX1_takeCard_30 : decode cX1_takeCard 30 = .ok (.iaload, 1) := by decide +kernel
theorem dX1_takeCard_31 : decode cX1_takeCard 31 = .ok (.if_icmp .ge 37, 3) := by decide +kernel
theorem dX1_takeCard_34 : decode cX1_takeCard 34 = .ok (.aload_n 0, 1) := by decide +kernel
theorem dX1_takeCard_35 : decode cX1_takeCard 35 = .ok (.getfield 15, 3) := by decide +kernel
theorem dX1_takeCard_38 : decode cX1_takeCard 38 = .ok (.aload_n 0, 1) := by decide +kernel
theorem dX1_takeCard_39 : decode cX1_takeCard 39 = .ok (.getfield 52, 3) := by decide +kernel
theorem dX1_takeCard_42 : decode cX1_takeCard 42 = .ok (.iconst 5, 1) := by decide +kernel
theorem dX1_takeCard_43 : decode cX1_takeCard 43 = .ok (.imul, 1) := by decide +kernel
theorem dX1_takeCard_44 : decode cX1_takeCard 44 = .ok (.iload_n 3, 1) := by decide +kernel
theorem dX1_takeCard_45 : decode cX1_takeCard 45 = .ok (.iadd, 1) := by decide +kernel
theorem dX1_takeCard_46 : decode cX1_takeCard 46 = .ok (.aload_n 0, 1) := by decide +kernel
theorem dX1_takeCard_47 : decode cX1_takeCard 47 = .ok (.getfield 15, 3) := by decide +kernel
theorem dX1_takeCard_50 : decode cX1_takeCard 50 = .ok (.aload_n 0, 1) := by decide +kernel
theorem dX1_takeCard_51 : decode cX1_takeCard 51 = .ok (.getfield 52, 3) := by decide +kernel
theorem dX1_takeCard_54 : decode cX1_takeCard 54 = .ok (.iconst 5, 1) := by decide +kernel
theorem dX1_takeCard_55 : decode cX1_takeCard 55 = .ok (.imul, 1) := by decide +kernel
theorem dX1_takeCard_56 : decode cX1_takeCard 56 = .ok (.iload_n 3, 1) := by decide +kernel
theorem dX1_takeCard_57 : decode cX1_takeCard 57 = .ok (.iadd, 1) := by decide +kernel
theorem dX1_takeCard_58 : decode cX1_takeCard 58 = .ok (.iconst 1, 1) := by decide +kernel
theorem dX1_takeCard_59 : decode cX1_takeCard 59 = .ok (.iadd, 1) := by decide +kernel
theorem dX1_takeCard_60 : decode cX1_takeCard 60 = .ok (.iaload, 1) := by decide +kernel
theorem dX1_takeCard_61 : decode cX1_takeCard 61 = .ok (.iastore, 1) := by decide +kernel
theorem dX1_takeCard_62 : decode cX1_takeCard 62 = .ok (.iinc 3 1, 3) := by decide +kernel
theorem dX1_takeCard_65 : decode cX1_takeCard 65 = .ok (.goto (-46), 3) := by decide +kernel
theorem dX1_takeCard_68 : decode cX1_takeCard 68 = .ok (.aload_n 0, 1) := by decide +kernel
theorem dX1_takeCard_69 : decode cX1_takeCard 69 = .ok (.getfield 18, 3) := by decide +kernel
theorem dX1_takeCard_72 : decode cX1_takeCard 72 = .ok (.aload_n 0, 1) := by decide +kernel
theorem dX1_takeCard_73 : decode cX1_takeCard 73 = .ok (.getfield 52, 3) := by decide +kernel
theorem dX1_takeCard_76 : decode cX1_takeCard 76 = .ok (.dup2, 1) := by decide +kernel
theorem dX1_takeCard_77 : decode cX1_takeCard 77 = .ok (.iaload, 1) := by decide +kernel
theorem dX1_takeCard_78 : decode cX1_takeCard 78 = .ok (.iconst 1, 1) := by decide +kernel
theorem dX1_takeCard_79 : decode cX1_takeCard 79 = .ok (.isub, 1) := by decide +kernel
theorem dX1_takeCard_80 : decode cX1_takeCard 80 = .ok (.iastore, 1) := by decide +kernel
theorem dX1_takeCard_81 : decode cX1_takeCard 81 = .ok (.iload_n 2, 1) := by decide +kernel
theorem dX1_takeCard_82 : decode cX1_takeCard 82 = .ok (.ireturn, 1) := by decide +kernel
theorem dX1_drawCard_0 : decode cX1_drawCard 0 = .ok (.aload_n 0, 1) := by decide +kernel
theorem dX1_drawCard_1 : decode cX1_drawCard 1 = .ok (.iload_n 1, 1) := by decide +kernel
theorem dX1_drawCard_2 : decode cX1_drawCard 2 = .ok (.invokevirtual 120, 3) := by decide +kernel
theorem dX1_drawCard_5 : decode cX1_drawCard 5 = .ok (.istore_n 2, 1) := by decide +kernel
theorem dX1_drawCard_6 : decode cX1_drawCard 6 = .ok (.aload_n 0, 1) := by decide +kernel
theorem dX1_drawCard_7 : decode cX1_drawCard 7 = .ok (.getfield 42, 3) := by decide +kernel
theorem dX1_drawCard_10 : decode cX1_drawCard 10 = .ok (.aload_n 0, 1) := by decide +kernel
theorem dX1_drawCard_11 : decode cX1_drawCard 11 = .ok (.getfield 38, 3) := by decide +kernel
theorem dX1_drawCard_14 : decode cX1_drawCard 14 = .ok (.getfield 98, 3) := by decide +kernel
theorem dX1_drawCard_17 : decode cX1_drawCard 17 = .ok (.if_icmp .ge 47, 3) := by decide +kernel
theorem dX1_drawCard_20 : decode cX1_drawCard 20 = .ok (.iload_n 1, 1) := by decide +kernel
theorem dX1_drawCard_21 : decode cX1_drawCard 21 = .ok (.iconst 4, 1) := by decide +kernel
theorem dX1_drawCard_22 : decode cX1_drawCard 22 = .ok (.if_icmp .ge 42, 3) := by decide +kernel
theorem dX1_drawCard_25 : decode cX1_drawCard 25 = .ok (.iload_n 2, 1) := by decide +kernel
theorem dX1_drawCard_26 : decode cX1_drawCard 26 = .ok (.iconst 5, 1) := by decide +kernel
theorem dX1_drawCard_27 : decode cX1_drawCard 27 = .ok (.if_icmp .ge 37, 3) := by decide +kernel
theorem dX1_drawCard_30 : decode cX1_drawCard 30 = .ok (.aload_n 0, 1) := by decide +kernel
theorem dX1_drawCard_31 : decode cX1_drawCard 31 = .ok (.getfield 15, 3) := by decide +kernel
theorem dX1_drawCard_34 : decode cX1_drawCard 34 = .ok (.iload_n 1, 1) := by decide +kernel
theorem dX1_drawCard_35 : decode cX1_drawCard 35 = .ok (.iconst 5, 1) := by decide +kernel
theorem dX1_drawCard_36 : decode cX1_drawCard 36 = .ok (.imul, 1) := by decide +kernel
theorem dX1_drawCard_37 : decode cX1_drawCard 37 = .ok (.iload_n 2, 1) := by decide +kernel
theorem dX1_drawCard_38 : decode cX1_drawCard 38 = .ok (.iadd, 1) := by decide +kernel
theorem dX1_drawCard_39 : decode cX1_drawCard 39 = .ok (.aload_n 0, 1) := by decide +kernel
theorem dX1_drawCard_40 : decode cX1_drawCard 40 = .ok (.getfield 42, 3) := by decide +kernel
theorem dX1_drawCard_43 : decode cX1_drawCard 43 = .ok (.iastore, 1) := by decide +kernel
theorem dX1_drawCard_44 : decode cX1_drawCard 44 = .ok (.aload_n 0, 1) := by decide +kernel
theorem dX1_drawCard_45 : decode cX1_drawCard 45 = .ok (.getfield 18, 3) := by decide +kernel
theorem dX1_drawCard_48 : decode cX1_drawCard 48 = .ok (.iload_n 1, 1) := by decide +kernel
theorem dX1_drawCard_49 : decode cX1_drawCard 49 = .ok (.dup2, 1) := by decide +kernel
theorem dX1_drawCard_50 : decode cX1_drawCard 50 = .ok (.iaload, 1) := by decide +kernel
theorem dX1_drawCard_51 : decode cX1_drawCard 51 = .ok (.iconst 1, 1) := by decide +kernel
theorem dX1_drawCard_52 : decode cX1_drawCard 52 = .ok (.iadd, 1) := by decide +kernel
theorem dX1_drawCard_53 : decode cX1_drawCard 53 = .ok (.iastore, 1) := by decide +kernel
theorem dX1_drawCard_54 : decode cX1_drawCard 54 = .ok (.aload_n 0, 1) := by decide +kernel
theorem dX1_drawCard_55 : decode cX1_drawCard 55 = .ok (.dup, 1) := by decide +kernel
theorem dX1_drawCard_56 : decode cX1_drawCard 56 = .ok (.getfield 42, 3) := by decide +kernel
theorem dX1_drawCard_59 : decode cX1_drawCard 59 = .ok (.iconst 1, 1) := by decide +kernel
theorem dX1_drawCard_60 : decode cX1_drawCard 60 = .ok (.iadd, 1) := by decide +kernel
theorem dX1_drawCard_61 : decode cX1_drawCard 61 = .ok (.putfield 42, 3) := by decide +kernel
theorem dX1_drawCard_64 : decode cX1_drawCard 64 = .ok (.return_, 1) := by decide +kernel
theorem dX1_putOnHeap_0 : decode cX1_putOnHeap 0 = .ok (.aload_n 0, 1) := by decide +kernel
theorem dX1_putOnHeap_1 : decode cX1_putOnHeap 1 = .ok (.iload_n 1, 1) := by decide +kernel
theorem dX1_putOnHeap_2 : decode cX1_putOnHeap 2 = .ok (.invokevirtual 184, 3) := by decide +kernel
theorem dX1_putOnHeap_5 : decode cX1_putOnHeap 5 = .ok (.ifCond .eq 14, 3) := by decide +kernel
theorem dX1_putOnHeap_8 : decode cX1_putOnHeap 8 = .ok (.aload_n 0, 1) := by decide +kernel
theorem dX1_putOnHeap_9 : decode cX1_putOnHeap 9 = .ok (.getfield 11, 3) := by decide +kernel
theorem dX1_putOnHeap_12 : decode cX1_putOnHeap 12 = .ok (.bipush 6, 2) := by decide +kernel
theorem dX1_putOnHeap_14 : decode cX1_putOnHeap 14 = .ok (.dup2, 1) := by decide +kernel
theorem dX1_putOnHeap_15 : decode cX1_putOnHeap 15 = .ok (.iaload, 1) := by decide +kernel
theorem dX1_putOnHeap_16 : decode cX1_putOnHeap 16 = .ok (.iconst 1, 1) := by decide +kernel
theorem dX1_putOnHeap_17 : decode cX1_putOnHeap 17 = .ok (.iadd, 1) := by decide +kernel
theorem dX1_putOnHeap_18 : decode cX1_putOnHeap 18 = .ok (.iastore, 1) := by decide +kernel
theorem dX1_putOnHeap_19 : decode cX1_putOnHeap 19 = .ok (.aload_n 0, 1) := by decide +kernel
theorem dX1_putOnHeap_20 : decode cX1_putOnHeap 20 = .ok (.getfield 24, 3) := by decide +kernel
theorem dX1_putOnHeap_23 : decode cX1_putOnHeap 23 = .ok (.iload_n 1, 1) := by decide +kernel
theorem dX1_putOnHeap_24 : decode cX1_putOnHeap 24 = .ok (.dup2, 1) := by decide +kernel
theorem dX1_putOnHeap_25 : decode cX1_putOnHeap 25 = .ok (.iaload, 1) := by decide +kernel
theorem dX1_putOnHeap_26 : decode cX1_putOnHeap 26 = .ok (.iconst 1, 1) := by decide +kernel
theorem dX1_putOnHeap_27 : decode cX1_putOnHeap 27 = .ok (.iadd, 1) := by decide +kernel
theorem dX1_putOnHeap_28 : decode cX1_putOnHeap 28 = .ok (.iastore, 1) := by decide +kernel
theorem dX1_putOnHeap_29 : decode cX1_putOnHeap 29 = .ok (.return_, 1) := by decide +kernel
theorem dX1_returnToken_0 : decode cX1_returnToken 0 = .ok (.aload_n 0, 1) := by decide +kernel
theorem dX1_returnToken_1 : decode cX1_returnToken 1 = .ok (.getfield 46, 3) := by decide +kernel
theorem dX1_returnToken_4 : decode cX1_returnToken 4 = .ok (.aload_n 0, 1) := by decide +kernel
theorem dX1_returnToken_5 : decode cX1_returnToken 5 = .ok (.getfield 38, 3) := by decide +kernel
theorem dX1_returnToken_8 : decode cX1_returnToken 8 = .ok (.getfield 187, 3) := by decide +kernel
theorem dX1_returnToken_11 : decode cX1_returnToken 11 = .ok (.if_icmp .ge 23, 3) := by decide +kernel
theorem dX1_returnToken_14 : decode cX1_returnToken 14 = .ok (.aload_n 0, 1) := by decide +kernel
theorem dX1_returnToken_15 : decode cX1_returnToken 15 = .ok (.dup, 1) := by decide +kernel
theorem dX1_returnToken_16 : decode cX1_returnToken 16 = .ok (.getfield 46, 3) := by decide +kernel
theorem dX1_returnToken_19 : decode cX1_returnToken 19 = .ok (.iconst 1, 1) := by decide +kernel
theorem dX1_returnToken_20 : decode cX1_returnToken 20 = .ok (.iadd, 1) := by decide +kernel
theorem dX1_returnToken_21 : decode cX1_returnToken 21 = .ok (.putfield 46, 3) := by decide +kernel
theorem dX1_returnToken_24 : decode cX1_returnToken 24 = .ok (.aload_n 0, 1) := by decide +kernel
theorem dX1_returnToken_25 : decode cX1_returnToken 25 = .ok (.getfield 11, 3) := by decide +kernel
theorem dX1_returnToken_28 : decode cX1_returnToken 28 = .ok (.iconst 4, 1) := by decide +kernel
theorem dX1_returnToken_29 : decode cX1_returnToken 29 = .ok (.dup2, 1) := by decide +kernel
theorem dX1_returnToken_30 : decode cX1_returnToken 30 = .ok (.iaload, 1) := by decide +kernel
theorem dX1_returnToken_31 : decode cX1_returnToken 31 = .ok (.iconst 1, 1) := by decide +kernel
theorem dX1_returnToken_32 : decode cX1_returnToken 32 = .ok (.iadd, 1) := by decide +kernel
theorem dX1_returnToken_33 : decode cX1_returnToken 33 = .ok (.iastore, 1) := by decide +kernel
theorem dX1_returnToken_34 : decode cX1_returnToken 34 = .ok (.return_, 1) := by decide +kernel
theorem dX1_endTurn_0 : decode cX1_endTurn 0 = .ok (.aload_n 0, 1) := by decide +kernel
theorem dX1_endTurn_1 : decode cX1_endTurn 1 = .ok (.getfield 58, 3) := by decide +kernel
theorem dX1_endTurn_4 : decode cX1_endTurn 4 = .ok (.ifCond .le 16, 3) := by decide +kernel
theorem dX1_endTurn_7 : decode cX1_endTurn 7 = .ok (.aload_n 0, 1) := by decide +kernel
theorem dX1_endTurn_8 : decode cX1_endTurn 8 = .ok (.dup, 1) := by decide +kernel
theorem dX1_endTurn_9 : decode cX1_endTurn 9 = .ok (.getfield 58, 3) := by decide +kernel
theorem dX1_endTurn_12 : decode cX1_endTurn 12 = .ok (.iconst 1, 1) := by decide +kernel
theorem dX1_endTurn_13 : decode cX1_endTurn 13 = .ok (.isub, 1) := by decide +kernel
theorem dX1_endTurn_14 : decode cX1_endTurn 14 = .ok (.putfield 58, 3) := by decide +kernel
theorem dX1_endTurn_17 : decode cX1_endTurn 17 = .ok (.goto 36, 3) := by decide +kernel
theorem dX1_endTurn_20 : decode cX1_endTurn 20 = .ok (.aload_n 0, 1) := by decide +kernel
theorem dX1_endTurn_21 : decode cX1_endTurn 21 = .ok (.getfield 58, 3) := by decide +kernel
theorem dX1_endTurn_24 : decode cX1_endTurn 24 = .ok (.iconst (-1), 1) := by decide +kernel
theorem dX1_endTurn_25 : decode cX1_endTurn 25 = .ok (.if_icmp .ne 28, 3) := by decide +kernel
theorem dX1_endTurn_28 : decode cX1_endTurn 28 = .ok (.aload_n 0, 1) := by decide +kernel
theorem dX1_endTurn_29 : decode cX1_endTurn 29 = .ok (.getfield 42, 3) := by decide +kernel
theorem dX1_endTurn_32 : decode cX1_endTurn 32 = .ok (.aload_n 0, 1) := by decide +kernel
theorem dX1_endTurn_33 : decode cX1_endTurn 33 = .ok (.getfield 38, 3) := by decide +kernel
theorem dX1_endTurn_36 : decode cX1_endTurn 36 = .ok (.getfield 98, 3) := by decide +kernel
theorem dX1_endTurn_39 : decode cX1_endTurn 39 = .ok (.if_icmp .lt 14, 3) := by decide +kernel
theorem dX1_endTurn_42 : decode cX1_endTurn 42 = .ok (.aload_n 0, 1) := by decide +kernel
theorem dX1_endTurn_43 : decode cX1_endTurn 43 = .ok (.aload_n 0, 1) := by decide +kernel
theorem dX1_endTurn_44 : decode cX1_endTurn 44 = .ok (.getfield 38, 3) := by decide +kernel
theorem dX1_endTurn_47 : decode cX1_endTurn 47 = .ok (.getfield 88, 3) := by decide +kernel
theorem dX1_endTurn_50 : decode cX1_endTurn 50 = .ok (.putfield 58, 3) := by decide +kernel
theorem dX1_endTurn_53 : decode cX1_endTurn 53 = .ok (.aload_n 0, 1) := by decide +kernel
theorem dX1_endTurn_54 : decode cX1_endTurn 54 = .ok (.aload_n 0, 1) := by decide +kernel
theorem dX1_endTurn_55 : decode cX1_endTurn 55 = .ok (.getfield 52, 3) := by decide +kernel
theorem dX1_endTurn_58 : decode cX1_endTurn 58 = .ok (.iconst 1, 1) := by decide +kernel
theorem dX1_endTurn_59 : decode cX1_endTurn 59 = .ok (.iadd, 1) := by decide +kernel
theorem dX1_endTurn_60 : decode cX1_endTurn 60 = .ok (.aload_n 0, 1) := by decide +kernel
theorem dX1_endTurn_61 : decode cX1_endTurn 61 = .ok (.getfield 38, 3) := by decide +kernel
theorem dX1_endTurn_64 : decode cX1_endTurn 64 = .ok (.getfield 88, 3) := by decide +kernel
theorem dX1_endTurn_67 : decode cX1_endTurn 67 = .ok (.if_icmp .ge 12, 3) := by decide +kernel
theorem dX1_endTurn_70 : decode cX1_endTurn 70 = .ok (.aload_n 0, 1) := by decide +kernel
theorem dX1_endTurn_71 : decode cX1_endTurn 71 = .ok (.getfield 52, 3) := by decide +kernel
theorem dX1_endTurn_74 : decode cX1_endTurn 74 = .ok (.iconst 1, 1) := by decide +kernel
theorem dX1_endTurn_75 : decode cX1_endTurn 75 = .ok (.iadd, 1) := by decide +kernel
theorem dX1_endTurn_76 : decode cX1_endTurn 76 = .ok (.goto 4, 3) := by decide +kernel
theorem dX1_endTurn_79 : decode cX1_endTurn 79 = .ok (.iconst 0, 1) := by decide +kernel
theorem dX1_endTurn_80 : decode cX1_endTurn 80 = .ok (.putfield 52, 3) := by decide +kernel
theorem dX1_endTurn_83 : decode cX1_endTurn 83 = .ok (.aload_n 0, 1) := by decide +kernel
theorem dX1_endTurn_84 : decode cX1_endTurn 84 = .ok (.dup, 1) := by decide +kernel
theorem dX1_endTurn_85 : decode cX1_endTurn 85 = .ok (.getfield 55, 3) := by decide +kernel
theorem dX1_endTurn_88 : decode cX1_endTurn 88 = .ok (.iconst 1, 1) := by decide +kernel
theorem dX1_endTurn_89 : decode cX1_endTurn 89 = .ok (.iadd, 1) := by decide +kernel
theorem dX1_endTurn_90 : decode cX1_endTurn 90 = .ok (.putfield 55, 3) := by decide +kernel
theorem dX1_endTurn_93 : decode cX1_endTurn 93 = .ok (.return_, 1) := by decide +kernel
theorem dX1_writeLog_0 : decode cX1_writeLog 0 = .ok (.aload_n 0, 1) := by decide +kernel
theorem dX1_writeLog_1 : decode cX1_writeLog 1 = .ok (.getfield 55, 3) := by decide +kernel
theorem dX1_writeLog_4 : decode cX1_writeLog 4 = .ok (.bipush 30, 2) := by decide +kernel
theorem dX1_writeLog_6 : decode cX1_writeLog 6 = .ok (.irem, 1) := by decide +kernel
theorem dX1_writeLog_7 : decode cX1_writeLog 7 = .ok (.iconst 4, 1) := by decide +kernel
theorem dX1_writeLog_8 : decode cX1_writeLog 8 = .ok (.imul, 1) := by decide +kernel
theorem dX1_writeLog_9 : decode cX1_writeLog 9 = .ok (.istore 4, 2) := by decide +kernel
theorem dX1_writeLog_11 : decode cX1_writeLog 11 = .ok (.aload_n 0, 1) := by decide +kernel
theorem dX1_writeLog_12 : decode cX1_writeLog 12 = .ok (.getfield 35, 3) := by decide +kernel
theorem dX1_writeLog_15 : decode cX1_writeLog 15 = .ok (.iload 4, 2) := by decide +kernel
theorem dX1_writeLog_17 : decode cX1_writeLog 17 = .ok (.aload_n 0, 1) := by decide +kernel
theorem dX1_writeLog_18 : decode cX1_writeLog 18 = .ok (.getfield 52, 3) := by decide +kernel
theorem dX1_writeLog_21 : decode cX1_writeLog 21 = .ok (.iastore, 1) := by decide +kernel
theorem dX1_writeLog_22 : decode cX1_writeLog 22 = .ok (.aload_n 0, 1) := by decide +kernel
theorem dX1_writeLog_23 : decode cX1_writeLog 23 = .ok (.getfield 35, 3) := by decide +kernel
theorem dX1_writeLog_26 : decode cX1_writeLog 26 = .ok (.iload 4, 2) := by decide +kernel
theorem dX1_writeLog_28 : decode cX1_writeLog 28 = .ok (.iconst 1, 1) := by decide +kernel
theorem dX1_writeLog_29 : decode cX1_writeLog 29 = .ok (.iadd, 1) := by decide +kernel
theorem dX1_writeLog_30 : decode cX1_writeLog 30 = .ok (.iload_n 1, 1) := by decide +kernel
theorem dX1_writeLog_31 : decode cX1_writeLog 31 = .ok (.iastore, 1) := by decide +kernel
theorem dX1_writeLog_32 : decode cX1_writeLog 32 = .ok (.aload_n 0, 1) := by decide +kernel
theorem dX1_writeLog_33 : decode cX1_writeLog 33 = .ok (.getfield 35, 3) := by decide +kernel
theorem dX1_writeLog_36 : decode cX1_writeLog 36 = .ok (.iload 4, 2) := by decide +kernel
theorem dX1_writeLog_38 : decode cX1_writeLog 38 = .ok (.iconst 2, 1) := by decide +kernel
theorem dX1_writeLog_39 : decode cX1_writeLog 39 = .ok (.iadd, 1) := by decide +kernel
theorem dX1_writeLog_40 : decode cX1_writeLog 40 = .ok (.iload_n 2, 1) := by decide +kernel
theorem dX1_writeLog_41 : decode cX1_writeLog 41 = .ok (.iastore, 1) := by decide +kernel
theorem dX1_writeLog_42 : decode cX1_writeLog 42 = .ok (.aload_n 0, 1) := by decide +kernel
theorem dX1_writeLog_43 : decode cX1_writeLog 43 = .ok (.getfield 35, 3) := by decide +kernel
theorem dX1_writeLog_46 : decode cX1_writeLog 46 = .ok (.iload 4, 2) := by decide +kernel
theorem dX1_writeLog_48 : decode cX1_writeLog 48 = .ok (.iconst 3, 1) := by decide +kernel
theorem dX1_writeLog_49 : decode cX1_writeLog 49 = .ok (.iadd, 1) := by decide +kernel
theorem dX1_writeLog_50 : decode cX1_writeLog 50 = .ok (.iload_n 3, 1) := by decide +kernel
theorem dX1_writeLog_51 : decode cX1_writeLog 51 = .ok (.iastore, 1) := by decide +kernel
theorem dX1_writeLog_52 : decode cX1_writeLog 52 = .ok (.return_, 1) := by decide +kernel
theorem dX1_loggedPart_0 : decode cX1_loggedPart 0 = .ok (.iload_n 1, 1) := by decide +kernel
theorem dX1_loggedPart_1 : decode cX1_loggedPart 1 = .ok (.ifCond .lt 17, 3) := by decide +kernel
theorem dX1_loggedPart_4 : decode cX1_loggedPart 4 = .ok (.iload_n 1, 1) := by decide +kernel
theorem dX1_loggedPart_5 : decode cX1_loggedPart 5 = .ok (.bipush 30, 2) := by decide +kernel
theorem dX1_loggedPart_7 : decode cX1_loggedPart 7 = .ok (.if_icmp .ge 11, 3) := by decide +kernel
theorem dX1_loggedPart_10 : decode cX1_loggedPart 10 = .ok (.iload_n 1, 1) := by decide +kernel
theorem dX1_loggedPart_11 : decode cX1_loggedPart 11 = .ok (.aload_n 0, 1) := by decide +kernel
theorem dX1_loggedPart_12 : decode cX1_loggedPart 12 = .ok (.getfield 55, 3) := by decide +kernel
theorem dX1_loggedPart_15 : decode cX1_loggedPart 15 = .ok (.if_icmp .lt 7, 3) := by decide +kernel
theorem dX1_loggedPart_18 : decode cX1_loggedPart 18 = .ok (.sipush (-1000), 3) := by decide +kernel
theorem dX1_loggedPart_21 : decode cX1_loggedPart 21 = .ok (.ireturn, 1) := by decide +kernel
theorem dX1_loggedPart_22 : decode cX1_loggedPart 22 = .ok (.aload_n 0, 1) := by decide +kernel
theorem dX1_loggedPart_23 : decode cX1_loggedPart 23 = .ok (.getfield 35, 3) := by decide +kernel
theorem dX1_loggedPart_26 : decode cX1_loggedPart 26 = .ok (.aload_n 0, 1) := by decide +kernel
theorem dX1_loggedPart_27 : decode cX1_loggedPart 27 = .ok (.getfield 55, 3) := by decide +kernel
theorem dX1_loggedPart_30 : decode cX1_loggedPart 30 = .ok (.iconst 1, 1) := by decide +kernel
theorem dX1_loggedPart_31 : decode cX1_loggedPart 31 = .ok (.isub, 1) := by decide +kernel
theorem dX1_loggedPart_32 : decode cX1_loggedPart 32 = .ok (.iload_n 1, 1) := by decide +kernel
theorem dX1_loggedPart_33 : decode cX1_loggedPart 33 = .ok (.isub, 1) := by decide +kernel
theorem dX1_loggedPart_34 : decode cX1_loggedPart 34 = .ok (.bipush 30, 2) := by decide +kernel
theorem dX1_loggedPart_36 : decode cX1_loggedPart 36 = .ok (.irem, 1) := by decide +kernel
theorem dX1_loggedPart_37 : decode cX1_loggedPart 37 = .ok (.iconst 4, 1) := by decide +kernel
theorem dX1_loggedPart_38 : decode cX1_loggedPart 38 = .ok (.imul, 1) := by decide +kernel
theorem dX1_loggedPart_39 : decode cX1_loggedPart 39 = .ok (.iload_n 2, 1) := by decide +kernel
theorem dX1_loggedPart_40 : decode cX1_loggedPart 40 = .ok (.iadd, 1) := by decide +kernel
theorem dX1_loggedPart_41 : decode cX1_loggedPart 41 = .ok (.iaload, 1) := by decide +kernel
theorem dX1_loggedPart_42 : decode cX1_loggedPart 42 = .ok (.ireturn, 1) := by decide +kernel
theorem dX2_init_0 : decode cX2_init 0 = .ok (.aload_n 0, 1) := by decide +kernel
theorem dX2_init_1 : decode cX2_init 1 = .ok (.invokespecial 3, 3) := by decide +kernel
theorem dX2_init_4 : decode cX2_init 4 = .ok (.aload_n 0, 1) := by decide +kernel
theorem dX2_init_5 : decode cX2_init 5 = .ok (.bipush 20, 2) := by decide +kernel
theorem dX2_init_7 : decode cX2_init 7 = .ok (.newarray .int, 2) := by decide +kernel
theorem dX2_init_9 : decode cX2_init 9 = .ok (.putfield 9, 3) := by decide +kernel
theorem dX2_init_12 : decode cX2_init 12 = .ok (.return_, 1) := by decide +kernel
theorem dX2_unseenKinds_0 : decode cX2_unseenKinds 0 = .ok (.iconst 0, 1) := by decide +kernel
theorem dX2_unseenKinds_1 : decode cX2_unseenKinds 1 = .ok (.istore_n 3, 1) := by decide +kernel
theorem dX2_unseenKinds_2 : decode cX2_unseenKinds 2 = .ok (.iload_n 3, 1) := by decide +kernel
theorem dX2_unseenKinds_3 : decode cX2_unseenKinds 3 = .ok (.bipush 20, 2) := by decide +kernel
theorem dX2_unseenKinds_5 : decode cX2_unseenKinds 5 = .ok (.if_icmp .ge 43, 3) := by decide +kernel
theorem dX2_unseenKinds_8 : decode cX2_unseenKinds 8 = .ok (.aload_n 0, 1) := by decide +kernel
theorem dX2_unseenKinds_9 : decode cX2_unseenKinds 9 = .ok (.getfield 9, 3) := by decide +kernel
theorem dX2_unseenKinds_12 : decode cX2_unseenKinds 12 = .ok (.iload_n 3, 1) := by decide +kernel
theorem dX2_unseenKinds_13 : decode cX2_unseenKinds 13 = .ok (.aload_n 1, 1) := by decide +kernel
theorem dX2_unseenKinds_14 : decode cX2_unseenKinds 14 = .ok (.getfield 15, 3) := by decide +kernel
theorem dX2_unseenKinds_17 : decode cX2_unseenKinds 17 = .ok (.iload_n 3, 1) := by decide +kernel
theorem dX2_unseenKinds_18 : decode cX2_unseenKinds 18 = .ok (.invokevirtual 21, 3) := by decide +kernel
theorem dX2_unseenKinds_21 : decode cX2_unseenKinds 21 = .ok (.aload_n 1, 1) := by decide +kernel
theorem dX2_unseenKinds_22 : decode cX2_unseenKinds 22 = .ok (.iload_n 3, 1) := by decide +kernel
theorem dX2_unseenKinds_23 : decode cX2_unseenKinds 23 = .ok (.invokevirtual 27, 3) := by decide +kernel
theorem dX2_unseenKinds_26 : decode cX2_unseenKinds 26 = .ok (.isub, 1) := by decide +kernel
theorem dX2_unseenKinds_27 : decode cX2_unseenKinds 27 = .ok (.aload_n 1, 1) := by decide +kernel
theorem dX2_unseenKinds_28 : decode cX2_unseenKinds 28 = .ok (.iload_n 3, 1) := by decide +kernel
theorem dX2_unseenKinds_29 : decode cX2_unseenKinds 29 = .ok (.invokevirtual 30, 3) := by decide +kernel
theorem dX2_unseenKinds_32 : decode cX2_unseenKinds 32 = .ok (.ifCond .eq 7, 3) := by decide +kernel
theorem dX2_unseenKinds_35 : decode cX2_unseenKinds 35 = .ok (.iconst 1, 1) := by decide +kernel
theorem dX2_unseenKinds_36 : decode cX2_unseenKinds 36 = .ok (.goto 4, 3) := by decide +kernel
theorem dX2_unseenKinds_39 : decode cX2_unseenKinds 39 = .ok (.iconst 0, 1) := by decide +kernel
theorem dX2_unseenKinds_40 : decode cX2_unseenKinds 40 = .ok (.isub, 1) := by decide +kernel
theorem dX2_unseenKinds_41 : decode cX2_unseenKinds 41 = .ok (.iastore, 1) := by decide +kernel
theorem dX2_unseenKinds_42 : decode cX2_unseenKinds 42 = .ok (.iinc 3 1, 3) := by decide +kernel
theorem dX2_unseenKinds_45 : decode cX2_unseenKinds 45 = .ok (.goto (-43), 3) := by decide +kernel
theorem dX2_unseenKinds_48 : decode cX2_unseenKinds 48 = .ok (.iconst 0, 1) := by decide +kernel
theorem dX2_unseenKinds_49 : decode cX2_unseenKinds 49 = .ok (.istore_n 3, 1) := by decide +kernel
theorem dX2_unseenKinds_50 : decode cX2_unseenKinds 50 = .ok (.iload_n 3, 1) := by decide +kernel
theorem dX2_unseenKinds_51 : decode cX2_unseenKinds 51 = .ok (.aload_n 1, 1) := by decide +kernel
theorem dX2_unseenKinds_52 : decode cX2_unseenKinds 52 = .ok (.getfield 15, 3) := by decide +kernel
theorem dX2_unseenKinds_55 : decode cX2_unseenKinds 55 = .ok (.getfield 34, 3) := by decide +kernel
theorem dX2_unseenKinds_58 : decode cX2_unseenKinds 58 = .ok (.if_icmp .ge 57, 3) := by decide +kernel
theorem dX2_unseenKinds_61 : decode cX2_unseenKinds 61 = .ok (.iconst 0, 1) := by decide +kernel
theorem dX2_unseenKinds_62 : decode cX2_unseenKinds 62 = .ok (.istore 4, 2) := by decide +kernel
theorem dX2_unseenKinds_64 : decode cX2_unseenKinds 64 = .ok (.iload_n 3, 1) := by decide +kernel
theorem dX2_unseenKinds_65 : decode cX2_unseenKinds 65 = .ok (.iload_n 2, 1) := by decide +kernel
theorem dX2_unseenKinds_66 : decode cX2_unseenKinds 66 = .ok (.if_icmp .eq 43, 3) := by decide +kernel
theorem dX2_unseenKinds_69 : decode cX2_unseenKinds 69 = .ok (.iload 4, 2) := by decide +kernel
theorem dX2_unseenKinds_71 : decode cX2_unseenKinds 71 = .ok (.aload_n 1, 1) := by decide +kernel
theorem dX2_unseenKinds_72 : decode cX2_unseenKinds 72 = .ok (.iload_n 3, 1) := by decide +kernel
theorem dX2_unseenKinds_73 : decode cX2_unseenKinds 73 = .ok (.invokevirtual 38, 3) := by decide +kernel
theorem dX2_unseenKinds_76 : decode cX2_unseenKinds 76 = .ok (.if_icmp .ge 33, 3) := by decide +kernel
theorem dX2_unseenKinds_79 : decode cX2_unseenKinds 79 = .ok (.aload_n 1, 1) := by decide +kernel
theorem dX2_unseenKinds_80 : decode cX2_unseenKinds 80 = .ok (.aload_n 1, 1) := by decide +kernel
theorem dX2_unseenKinds_81 : decode cX2_unseenKinds 81 = .ok (.iload_n 3, 1) := by decide +kernel
theorem dX2_unseenKinds_82 : decode cX2_unseenKinds 82 = .ok (.iload 4, 2) := by decide +kernel
theorem dX2_unseenKinds_84 : decode cX2_unseenKinds 84 = .ok (.invokevirtual 41, 3) := by decide +kernel
theorem dX2_unseenKinds_87 : decode cX2_unseenKinds 87 = .ok (.invokevirtual 45, 3) := by decide +kernel
theorem dX2_unseenKinds_90 : decode cX2_unseenKinds 90 = .ok (.istore 5, 2) := by decide +kernel
theorem dX2_unseenKinds_92 : decode cX2_unseenKinds 92 = .ok (.aload_n 0, 1) := by decide +kernel
theorem dX2_unseenKinds_93 : decode cX2_unseenKinds 93 = .ok (.getfield 9, 3) := by decide +kernel
theorem dX2_unseenKinds_96 : decode cX2_unseenKinds 96 = .ok (.iload 5, 2) := by decide +kernel
theorem dX2_unseenKinds_98 : decode cX2_unseenKinds 98 = .ok (.dup2, 1) := by decide +kernel
theorem dX2_unseenKinds_99 : decode cX2_unseenKinds 99 = .ok (.iaload, 1) := by decide +kernel
theorem dX2_unseenKinds_100 : decode cX2_unseenKinds 100 = .ok (.iconst 1, 1) := by decide +kernel
theorem dX2_unseenKinds_101 : decode cX2_unseenKinds 101 = .ok (.isub, 1) := by decide +kernel
theorem dX2_unseenKinds_102 : decode cX2_unseenKinds 102 = .ok (.iastore, 1) := by decide +kernel
theorem dX2_unseenKinds_103 : decode cX2_unseenKinds 103 = .ok (.iinc 4 1, 3) := by decide +kernel
theorem dX2_unseenKinds_106 : decode cX2_unseenKinds 106 = .ok (.goto (-42), 3) := by decide +kernel
theorem dX2_unseenKinds_109 : decode cX2_unseenKinds 109 = .ok (.iinc 3 1, 3) := by decide +kernel
theorem dX2_unseenKinds_112 : decode cX2_unseenKinds 112 = .ok (.goto (-62), 3) := by decide +kernel
theorem dX2_unseenKinds_115 : decode cX2_unseenKinds 115 = .ok (.iconst 0, 1) := by decide +kernel
theorem dX2_unseenKinds_116 : decode cX2_unseenKinds 116 = .ok (.istore_n 3, 1) := by decide +kernel
theorem dX2_unseenKinds_117 : decode cX2_unseenKinds 117 = .ok (.iconst 0, 1) := by decide +kernel
theorem dX2_unseenKinds_118 : decode cX2_unseenKinds 118 = .ok (.istore 4, 2) := by decide +kernel
theorem dX2_unseenKinds_120 : decode cX2_unseenKinds 120 = .ok (.iload 4, 2) := by decide +kernel
theorem dX2_unseenKinds_122 : decode cX2_unseenKinds 122 = .ok (.bipush 20, 2) := by decide +kernel
theorem dX2_unseenKinds_124 : decode cX2_unseenKinds 124 = .ok (.if_icmp .ge 26, 3) := by decide +kernel
theorem dX2_unseenKinds_127 : decode cX2_unseenKinds 127 = .ok (.aload_n 0, 1) := by decide +kernel
theorem dX2_unseenKinds_128 : decode cX2_unseenKinds 128 = .ok (.getfield 9, 3) := by decide +kernel
theorem dX2_unseenKinds_131 : decode cX2_unseenKinds 131 = .ok (.iload 4, 2) := by decide +kernel
theorem dX2_unseenKinds_133 : decode cX2_unseenKinds 133 = .ok (.iaload, 1) := by decide +kernel
theorem dX2_unseenKinds_134 : decode cX2_unseenKinds 134 = .ok (.ifCond .le 10, 3) := by decide +kernel
theorem dX2_unseenKinds_137 : decode cX2_unseenKinds 137 = .ok (.iload_n 3, 1) := by decide +kernel
theorem dX2_unseenKinds_138 : decode cX2_unseenKinds 138 = .ok (.iconst 1, 1) := by decide +kernel
theorem dX2_unseenKinds_139 : decode cX2_unseenKinds 139 = .ok (.iload 4, 2) := by decide +kernel
theorem dX2_unseenKinds_141 : decode cX2_unseenKinds 141 = .ok (.ishl, 1) := by decide +kernel
theorem dX2_unseenKinds_142 : decode cX2_unseenKinds 142 = .ok (.ior, 1) := by decide +kernel
theorem dX2_unseenKinds_143 : decode cX2_unseenKinds 143 = .ok (.istore_n 3, 1) := by decide +kernel
theorem dX2_unseenKinds_144 : decode cX2_unseenKinds 144 = .ok (.iinc 4 1, 3) := by decide +kernel
theorem dX2_unseenKinds_147 : decode cX2_unseenKinds 147 = .ok (.goto (-27), 3) := by decide +kernel
theorem dX2_unseenKinds_150 : decode cX2_unseenKinds 150 = .ok (.iload_n 3, 1) := by decide +kernel
theorem dX2_unseenKinds_151 : decode cX2_unseenKinds 151 = .ok (.ireturn, 1) := by decide +kernel
theorem dX2_newlyPlayable_0 : decode cX2_newlyPlayable 0 = .ok (.aload_n 1, 1) := by decide +kernel
theorem dX2_newlyPlayable_1 : decode cX2_newlyPlayable 1 = .ok (.invokevirtual 48, 3) := by decide +kernel
theorem dX2_newlyPlayable_4 : decode cX2_newlyPlayable 4 = .ok (.istore 5, 2) := by decide +kernel
theorem dX2_newlyPlayable_6 : decode cX2_newlyPlayable 6 = .ok (.iconst 0, 1) := by decide +kernel
theorem dX2_newlyPlayable_7 : decode cX2_newlyPlayable 7 = .ok (.istore 6, 2) := by decide +kernel
theorem dX2_newlyPlayable_9 : decode cX2_newlyPlayable 9 = .ok (.iconst 0, 1) := by decide +kernel
theorem dX2_newlyPlayable_10 : decode cX2_newlyPlayable 10 = .ok (.istore 7, 2) := by decide +kernel
theorem dX2_newlyPlayable_12 : decode cX2_newlyPlayable 12 = .ok (.iload 7, 2) := by decide +kernel
theorem dX2_newlyPlayable_14 : decode cX2_newlyPlayable 14 = .ok (.aload_n 1, 1) := by decide +kernel
theorem dX2_newlyPlayable_15 : decode cX2_newlyPlayable 15 = .ok (.iload_n 2, 1) := by decide +kernel
theorem dX2_newlyPlayable_16 : decode cX2_newlyPlayable 16 = .ok (.invokevirtual 38, 3) := by decide +kernel
theorem dX2_newlyPlayable_19 : decode cX2_newlyPlayable 19 = .ok (.if_icmp .ge 79, 3) := by decide +kernel
theorem dX2_newlyPlayable_22 : decode cX2_newlyPlayable 22 = .ok (.aload_n 1, 1) := by decide +kernel
theorem dX2_newlyPlayable_23 : decode cX2_newlyPlayable 23 = .ok (.iload_n 2, 1) := by decide +kernel
theorem dX2_newlyPlayable_24 : decode cX2_newlyPlayable 24 = .ok (.iload 7, 2) := by decide +kernel
theorem dX2_newlyPlayable_26 : decode cX2_newlyPlayable 26 = .ok (.invokevirtual 41, 3) := by decide +kernel
theorem dX2_newlyPlayable_29 : decode cX2_newlyPlayable 29 = .ok (.istore 8, 2) := by decide +kernel
theorem dX2_newlyPlayable_31 : decode cX2_newlyPlayable 31 = .ok (.iload_n 3, 1) := by decide +kernel
theorem dX2_newlyPlayable_32 : decode cX2_newlyPlayable 32 = .ok (.aload_n 1, 1) := by decide +kernel
theorem dX2_newlyPlayable_33 : decode cX2_newlyPlayable 33 = .ok (.iload 8, 2) := by decide +kernel
theorem dX2_newlyPlayable_35 : decode cX2_newlyPlayable 35 = .ok (.invokevirtual 52, 3) := by decide +kernel
theorem dX2_newlyPlayable_38 : decode cX2_newlyPlayable 38 = .ok (.iand, 1) := by decide +kernel
theorem dX2_newlyPlayable_39 : decode cX2_newlyPlayable 39 = .ok (.istore 9, 2) := by decide +kernel
theorem dX2_newlyPlayable_41 : decode cX2_newlyPlayable 41 = .ok (.iload 9, 2) := by decide +kernel
theorem dX2_newlyPlayable_43 : decode cX2_newlyPlayable 43 = .ok (.aload_n 1, 1) := by decide +kernel
theorem dX2_newlyPlayable_44 : decode cX2_newlyPlayable 44 = .ok (.iload 8, 2) := by decide +kernel
theorem dX2_newlyPlayable_46 : decode cX2_newlyPlayable 46 = .ok (.invokevirtual 45, 3) := by decide +kernel
theorem dX2_newlyPlayable_49 : decode cX2_newlyPlayable 49 = .ok (.iload 4, 2) := by decide +kernel
theorem dX2_newlyPlayable_51 : decode cX2_newlyPlayable 51 = .ok (.invokestatic 55, 3) := by decide +kernel
theorem dX2_newlyPlayable_54 : decode cX2_newlyPlayable 54 = .ok (.ifCond .eq 8, 3) := by decide +kernel
theorem dX2_newlyPlayable_57 : decode cX2_newlyPlayable 57 = .ok (.iload 4, 2) := by decide +kernel
theorem dX2_newlyPlayable_59 : decode cX2_newlyPlayable 59 = .ok (.goto 7, 3) := by decide +kernel
theorem dX2_newlyPlayable_62 : decode cX2_newlyPlayable 62 = .ok (.iload 4, 2) := by decide +kernel
theorem dX2_newlyPlayable_64 : decode cX2_newlyPlayable 64 = .ok (.iconst (-1), 1) := by decide +kernel
theorem dX2_newlyPlayable_65 : decode cX2_newlyPlayable 65 = .ok (.ixor, 1) := by decide +kernel
theorem dX2_newlyPlayable_66 : decode cX2_newlyPlayable 66 = .ok (.iand, 1) := by decide +kernel
theorem dX2_newlyPlayable_67 : decode cX2_newlyPlayable 67 = .ok (.istore 10, 2) := by decide +kernel
theorem dX2_newlyPlayable_69 : decode cX2_newlyPlayable 69 = .ok (.iload 10, 2) := by decide +kernel
theorem dX2_newlyPlayable_71 : decode cX2_newlyPlayable 71 = .ok (.iload 5, 2) := by decide +kernel
theorem dX2_newlyPlayable_73 : decode cX2_newlyPlayable 73 = .ok (.invokestatic 59, 3) := by decide +kernel
theorem dX2_newlyPlayable_76 : decode cX2_newlyPlayable 76 = .ok (.ifCond .eq 16, 3) := by decide +kernel
theorem dX2_newlyPlayable_79 : decode cX2_newlyPlayable 79 = .ok (.iload 9, 2) := by decide +kernel
theorem dX2_newlyPlayable_81 : decode cX2_newlyPlayable 81 = .ok (.iload 5, 2) := by decide +kernel
theorem dX2_newlyPlayable_83 : decode cX2_newlyPlayable 83 = .ok (.invokestatic 59, 3) := by decide +kernel
theorem dX2_newlyPlayable_86 : decode cX2_newlyPlayable 86 = .ok (.ifCond .ne 6, 3) := by decide +kernel
theorem dX2_newlyPlayable_89 : decode cX2_newlyPlayable 89 = .ok (.iinc 6 1, 3) := by decide +kernel
theorem dX2_newlyPlayable_92 : decode cX2_newlyPlayable 92 = .ok (.iinc 7 1, 3) := by decide +kernel
theorem dX2_newlyPlayable_95 : decode cX2_newlyPlayable 95 = .ok (.goto (-83), 3) := by decide +kernel
theorem dX2_newlyPlayable_98 : decode cX2_newlyPlayable 98 = .ok (.iload 6, 2) := by decide +kernel
theorem dX2_newlyPlayable_100 : decode cX2_newlyPlayable 100 = .ok (.ireturn, 1) := by decide +kernel
theorem dX3_init_0 : decode cX3_init 0 = .ok (.aload_n 0, 1) := by decide +kernel
theorem dX3_init_1 : decode cX3_init 1 = .ok (.invokespecial 3, 3) := by decide +kernel
theorem dX3_init_4 : decode cX3_init 4 = .ok (.aload_n 0, 1) := by decide +kernel
theorem dX3_init_5 : decode cX3_init 5 = .ok (.iconst 4, 1) := by decide +kernel
theorem dX3_init_6 : decode cX3_init 6 = .ok (.newarray .long, 2) := by decide +kernel
theorem dX3_init_8 : decode cX3_init 8 = .ok (.putfield 9, 3) := by decide +kernel
theorem dX3_init_11 : decode cX3_init 11 = .ok (.aload_n 0, 1) := by decide +kernel
theorem dX3_init_12 : decode cX3_init 12 = .ok (.iconst 4, 1) := by decide +kernel
theorem dX3_init_13 : decode cX3_init 13 = .ok (.newarray .int, 2) := by decide +kernel
theorem dX3_init_15 : decode cX3_init 15 = .ok (.putfield 15, 3) := by decide +kernel
theorem dX3_init_18 : decode cX3_init 18 = .ok (.aload_n 0, 1) := by decide +kernel
theorem dX3_init_19 : decode cX3_init 19 = .ok (.aload_n 1, 1) := by decide +kernel
theorem dX3_init_20 : decode cX3_init 20 = .ok (.putfield 19, 3) := by decide +kernel
theorem dX3_init_23 : decode cX3_init 23 = .ok (.return_, 1) := by decide +kernel
theorem dX3_copyFrom_0 : decode cX3_copyFrom 0 = .ok (.aload_n 0, 1) := by decide +kernel
theorem dX3_copyFrom_1 : decode cX3_copyFrom 1 = .ok (.aload_n 1, 1) := by decide +kernel
theorem dX3_copyFrom_2 : decode cX3_copyFrom 2 = .ok (.getfield 23, 3) := by decide +kernel
theorem dX3_copyFrom_5 : decode cX3_copyFrom 5 = .ok (.putfield 23, 3) := by decide +kernel
theorem dX3_copyFrom_8 : decode cX3_copyFrom 8 = .ok (.aload_n 0, 1) := by decide +kernel
theorem dX3_copyFrom_9 : decode cX3_copyFrom 9 = .ok (.aload_n 1, 1) := by decide +kernel
theorem dX3_copyFrom_10 : decode cX3_copyFrom 10 = .ok (.getfield 27, 3) := by decide +kernel
theorem dX3_copyFrom_13 : decode cX3_copyFrom 13 = .ok (.putfield 27, 3) := by decide +kernel
theorem dX3_copyFrom_16 : decode cX3_copyFrom 16 = .ok (.aload_n 0, 1) := by decide +kernel
theorem dX3_copyFrom_17 : decode cX3_copyFrom 17 = .ok (.aload_n 1, 1) := by decide +kernel
theorem dX3_copyFrom_18 : decode cX3_copyFrom 18 = .ok (.getfield 30, 3) := by decide +kernel
theorem dX3_copyFrom_21 : decode cX3_copyFrom 21 = .ok (.putfield 30, 3) := by decide +kernel
theorem dX3_copyFrom_24 : decode cX3_copyFrom 24 = .ok (.aload_n 0, 1) := by decide +kernel
theorem dX3_copyFrom_25 : decode cX3_copyFrom 25 = .ok (.aload_n 1, 1) := by decide +kernel
theorem dX3_copyFrom_26 : decode cX3_copyFrom 26 = .ok (.getfield 33, 3) := by decide +kernel
theorem dX3_copyFrom_29 : decode cX3_copyFrom 29 = .ok (.putfield 33, 3) := by decide +kernel
theorem dX3_copyFrom_32 : decode cX3_copyFrom 32 = .ok (.aload_n 1, 1) := by decide +kernel
theorem dX3_copyFrom_33 : decode cX3_copyFrom 33 = .ok (.getfield 9, 3) := by decide +kernel
theorem dX3_copyFrom_36 : decode cX3_copyFrom 36 = .ok (.iconst 0, 1) := by decide +kernel
theorem dX3_copyFrom_37 : decode cX3_copyFrom 37 = .ok (.aload_n 0, 1) := by decide +kernel
theorem dX3_copyFrom_38 : decode cX3_copyFrom 38 = .ok (.getfield 9, 3) := by decide +kernel
theorem dX3_copyFrom_41 : decode cX3_copyFrom 41 = .ok (.iconst 0, 1) := by decide +kernel
theorem dX3_copyFrom_42 : decode cX3_copyFrom 42 = .ok (.iconst 4, 1) := by decide +kernel
theorem dX3_copyFrom_43 : decode cX3_copyFrom 43 = .ok (.invokestatic 36, 3) := by decide +kernel
theorem dX3_copyFrom_46 : decode cX3_copyFrom 46 = .ok (.aload_n 1, 1) := by decide +kernel
theorem dX3_copyFrom_47 : decode cX3_copyFrom 47 = .ok (.getfield 15, 3) := by decide +kernel
theorem dX3_copyFrom_50 : decode cX3_copyFrom 50 = .ok (.iconst 0, 1) := by decide +kernel
theorem dX3_copyFrom_51 : decode cX3_copyFrom 51 = .ok (.aload_n 0, 1) := by decide +kernel
theorem dX3_copyFrom_52 : decode cX3_copyFrom 52 = .ok (.getfield 15, 3) := by decide +kernel
theorem dX3_copyFrom_55 : decode cX3_copyFrom 55 = .ok (.iconst 0, 1) := by decide +kernel
theorem dX3_copyFrom_56 : decode cX3_copyFrom 56 = .ok (.iconst 4, 1) := by decide +kernel
theorem dX3_copyFrom_57 : decode cX3_copyFrom 57 = .ok (.invokestatic 36, 3) := by decide +kernel
theorem dX3_copyFrom_60 : decode cX3_copyFrom 60 = .ok (.return_, 1) := by decide +kernel
theorem dX3_takeFrom_0 : decode cX3_takeFrom 0 = .ok (.aload_n 0, 1) := by decide +kernel
theorem dX3_takeFrom_1 : decode cX3_takeFrom 1 = .ok (.aload_n 1, 1) := by decide +kernel
theorem dX3_takeFrom_2 : decode cX3_takeFrom 2 = .ok (.getfield 42, 3) := by decide +kernel
theorem dX3_takeFrom_5 : decode cX3_takeFrom 5 = .ok (.putfield 23, 3) := by decide +kernel
theorem dX3_takeFrom_8 : decode cX3_takeFrom 8 = .ok (.aload_n 0, 1) := by decide +kernel
theorem dX3_takeFrom_9 : decode cX3_takeFrom 9 = .ok (.aload_n 1, 1) := by decide +kernel
theorem dX3_takeFrom_10 : decode cX3_takeFrom 10 = .ok (.getfield 45, 3) := by decide +kernel
theorem dX3_takeFrom_13 : decode cX3_takeFrom 13 = .ok (.putfield 27, 3) := by decide +kernel
theorem dX3_takeFrom_16 : decode cX3_takeFrom 16 = .ok (.aload_n 0, 1) := by decide +kernel
theorem dX3_takeFrom_17 : decode cX3_takeFrom 17 = .ok (.aload_n 1, 1) := by decide +kernel
theorem dX3_takeFrom_18 : decode cX3_takeFrom 18 = .ok (.getfield 46, 3) := by decide +kernel
theorem dX3_takeFrom_21 : decode cX3_takeFrom 21 = .ok (.putfield 30, 3) := by decide +kernel
theorem dX3_takeFrom_24 : decode cX3_takeFrom 24 = .ok (.aload_n 0, 1) := by decide +kernel
theorem dX3_takeFrom_25 : decode cX3_takeFrom 25 = .ok (.aload_n 1, 1) := by decide +kernel
theorem dX3_takeFrom_26 : decode cX3_takeFrom 26 = .ok (.getfield 47, 3) := by decide +kernel
theorem dX3_takeFrom_29 : decode cX3_takeFrom 29 = .ok (.putfield 33, 3) := by decide +kernel
theorem dX3_takeFrom_32 : decode cX3_takeFrom 32 = .ok (.iconst 0, 1) := by decide +kernel
theorem dX3_takeFrom_33 : decode cX3_takeFrom 33 = .ok (.istore_n 2, 1) := by decide +kernel
theorem dX3_takeFrom_34 : decode cX3_takeFrom 34 = .ok (.iload_n 2, 1) := by decide +kernel
theorem dX3_takeFrom_35 : decode cX3_takeFrom 35 = .ok (.iconst 4, 1) := by decide +kernel
theorem dX3_takeFrom_36 : decode cX3_takeFrom 36 = .ok (.if_icmp .ge 20, 3) := by decide +kernel
theorem dX3_takeFrom_39 : decode cX3_takeFrom 39 = .ok (.aload_n 0, 1) := by decide +kernel
theorem dX3_takeFrom_40 : decode cX3_takeFrom 40 = .ok (.getfield 15, 3) := by decide +kernel
theorem dX3_takeFrom_43 : decode cX3_takeFrom 43 = .ok (.iload_n 2, 1) := by decide +kernel
theorem dX3_takeFrom_44 : decode cX3_takeFrom 44 = .ok (.aload_n 1, 1) := by decide +kernel
theorem dX3_takeFrom_45 : decode cX3_takeFrom 45 = .ok (.iload_n 2, 1) := by decide +kernel
theorem dX3_takeFrom_46 : decode cX3_takeFrom 46 = .ok (.invokevirtual 48, 3) := by decide +kernel
theorem dX3_takeFrom_49 : decode cX3_takeFrom 49 = .ok (.iastore, 1) := by decide +kernel
theorem dX3_takeFrom_50 : decode cX3_takeFrom 50 = .ok (.iinc 2 1, 3) := by decide +kernel
theorem dX3_takeFrom_53 : decode cX3_takeFrom 53 = .ok (.goto (-19), 3) := by decide +kernel
theorem dX3_takeFrom_56 : decode cX3_takeFrom 56 = .ok (.iconst 0, 1) := by decide +kernel
theorem dX3_takeFrom_57 : decode cX3_takeFrom 57 = .ok (.istore_n 2, 1) := by decide +kernel
theorem dX3_takeFrom_58 : decode cX3_takeFrom 58 = .ok (.iload_n 2, 1) := by decide +kernel
theorem dX3_takeFrom_59 : decode cX3_takeFrom 59 = .ok (.iconst 4, 1) := by decide +kernel
theorem dX3_takeFrom_60 : decode cX3_takeFrom 60 = .ok (.if_icmp .ge 50, 3) := by decide +kernel
theorem dX3_takeFrom_63 : decode cX3_takeFrom 63 = .ok (.aload_n 0, 1) := by decide +kernel
theorem dX3_takeFrom_64 : decode cX3_takeFrom 64 = .ok (.getfield 9, 3) := by decide +kernel
theorem dX3_takeFrom_67 : decode cX3_takeFrom 67 = .ok (.iload_n 2, 1) := by decide +kernel
theorem dX3_takeFrom_68 : decode cX3_takeFrom 68 = .ok (.lconst 0, 1) := by decide +kernel
theorem dX3_takeFrom_69 : decode cX3_takeFrom 69 = .ok (.lastore, 1) := by decide +kernel
theorem dX3_takeFrom_70 : decode cX3_takeFrom 70 = .ok (.iconst 0, 1) := by decide +kernel
theorem dX3_takeFrom_71 : decode cX3_takeFrom 71 = .ok (.istore_n 3, 1) := by decide +kernel
theorem dX3_takeFrom_72 : decode cX3_takeFrom 72 = .ok (.iload_n 3, 1) := by decide +kernel
theorem dX3_takeFrom_73 : decode cX3_takeFrom 73 = .ok (.aload_n 1, 1) := by decide +kernel
theorem dX3_takeFrom_74 : decode cX3_takeFrom 74 = .ok (.iload_n 2, 1) := by decide +kernel
theorem dX3_takeFrom_75 : decode cX3_takeFrom 75 = .ok (.invokevirtual 52, 3) := by decide +kernel
theorem dX3_takeFrom_78 : decode cX3_takeFrom 78 = .ok (.if_icmp .ge 26, 3) := by decide +kernel
theorem dX3_takeFrom_81 : decode cX3_takeFrom 81 = .ok (.aload_n 0, 1) := by decide +kernel
theorem dX3_takeFrom_82 : decode cX3_takeFrom 82 = .ok (.getfield 9, 3) := by decide +kernel
theorem dX3_takeFrom_85 : decode cX3_takeFrom 85 = .ok (.iload_n 2, 1) := by decide +kernel
theorem dX3_takeFrom_86 : decode cX3_takeFrom 86 = .ok (.dup2, 1) := by decide +kernel
theorem dX3_takeFrom_87 : decode cX3_takeFrom 87 = .ok (.laload, 1) := by decide +kernel
theorem dX3_takeFrom_88 : decode cX3_takeFrom 88 = .ok (.lconst 1, 1) := by decide +kernel
theorem dX3_takeFrom_89 : decode cX3_takeFrom 89 = .ok (.aload_n 1, 1) := by decide +kernel
theorem dX3_takeFrom_90 : decode cX3_takeFrom 90 = .ok (.iload_n 2, 1) := by decide +kernel
theorem dX3_takeFrom_91 : decode cX3_takeFrom 91 = .ok (.iload_n 3, 1) := by decide +kernel
theorem dX3_takeFrom_92 : decode cX3_takeFrom 92 = .ok (.invokevirtual 55, 3) := by decide +kernel
theorem dX3_takeFrom_95 : decode cX3_takeFrom 95 = .ok (.lshl, 1) := by decide +kernel
theorem dX3_takeFrom_96 : decode cX3_takeFrom 96 = .ok (.lor, 1) := by decide +kernel
theorem dX3_takeFrom_97 : decode cX3_takeFrom 97 = .ok (.lastore, 1) := by decide +kernel
theorem dX3_takeFrom_98 : decode cX3_takeFrom 98 = .ok (.iinc 3 1, 3) := by decide +kernel
theorem dX3_takeFrom_101 : decode cX3_takeFrom 101 = .ok (.goto (-29), 3) := by decide +kernel
theorem dX3_takeFrom_104 : decode cX3_takeFrom 104 = .ok (.iinc 2 1, 3) := by decide +kernel
theorem dX3_takeFrom_107 : decode cX3_takeFrom 107 = .ok (.goto (-49), 3) := by decide +kernel
theorem dX3_takeFrom_110 : decode cX3_takeFrom 110 = .ok (.return_, 1) := by decide +kernel
theorem dX3_packed_0 : decode cX3_packed 0 = .ok (.iconst 0, 1) := by decide +kernel
theorem dX3_packed_1 : decode cX3_packed 1 = .ok (.istore_n 1, 1) := by decide +kernel
theorem dX3_packed_2 : decode cX3_packed 2 = .ok (.iconst 0, 1) := by decide +kernel
theorem dX3_packed_3 : decode cX3_packed 3 = .ok (.istore_n 2, 1) := by decide +kernel
theorem dX3_packed_4 : decode cX3_packed 4 = .ok (.iload_n 2, 1) := by decide +kernel
theorem dX3_packed_5 : decode cX3_packed 5 = .ok (.iconst 4, 1) := by decide +kernel
theorem dX3_packed_6 : decode cX3_packed 6 = .ok (.if_icmp .ge 20, 3) := by decide +kernel
theorem dX3_packed_9 : decode cX3_packed 9 = .ok (.iload_n 1, 1) := by decide +kernel
theorem dX3_packed_10 : decode cX3_packed 10 = .ok (.iconst 3, 1) := by decide +kernel
theorem dX3_packed_11 : decode cX3_packed 11 = .ok (.ishl, 1) := by decide +kernel
theorem dX3_packed_12 : decode cX3_packed 12 = .ok (.aload_n 0, 1) := by decide +kernel
theorem dX3_packed_13 : decode cX3_packed 13 = .ok (.getfield 15, 3) := by decide +kernel
theorem dX3_packed_16 : decode cX3_packed 16 = .ok (.iload_n 2, 1) := by decide +kernel
theorem dX3_packed_17 : decode cX3_packed 17 = .ok (.iaload, 1) := by decide +kernel
theorem dX3_packed_18 : decode cX3_packed 18 = .ok (.ior, 1) := by decide +kernel
theorem dX3_packed_19 : decode cX3_packed 19 = .ok (.istore_n 1, 1) := by decide +kernel
theorem dX3_packed_20 : decode cX3_packed 20 = .ok (.iinc 2 1, 3) := by decide +kernel
theorem dX3_packed_23 : decode cX3_packed 23 = .ok (.goto (-19), 3) := by decide +kernel
theorem dX3_packed_26 : decode cX3_packed 26 = .ok (.iload_n 1, 1) := by decide +kernel
theorem dX3_packed_27 : decode cX3_packed 27 = .ok (.iconst 4, 1) := by decide +kernel
theorem dX3_packed_28 : decode cX3_packed 28 = .ok (.ishl, 1) := by decide +kernel
theorem dX3_packed_29 : decode cX3_packed 29 = .ok (.aload_n 0, 1) := by decide +kernel
theorem dX3_packed_30 : decode cX3_packed 30 = .ok (.getfield 23, 3) := by decide +kernel
theorem dX3_packed_33 : decode cX3_packed 33 = .ok (.ior, 1) := by decide +kernel
theorem dX3_packed_34 : decode cX3_packed 34 = .ok (.bipush 6, 2) := by decide +kernel
theorem dX3_packed_36 : decode cX3_packed 36 = .ok (.ishl, 1) := by decide +kernel
theorem dX3_packed_37 : decode cX3_packed 37 = .ok (.aload_n 0, 1) := by decide +kernel
theorem dX3_packed_38 : decode cX3_packed 38 = .ok (.getfield 27, 3) := by decide +kernel
theorem dX3_packed_41 : decode cX3_packed 41 = .ok (.ior, 1) := by decide +kernel
theorem dX3_packed_42 : decode cX3_packed 42 = .ok (.iconst 2, 1) := by decide +kernel
theorem dX3_packed_43 : decode cX3_packed 43 = .ok (.ishl, 1) := by decide +kernel
theorem dX3_packed_44 : decode cX3_packed 44 = .ok (.aload_n 0, 1) := by decide +kernel
theorem dX3_packed_45 : decode cX3_packed 45 = .ok (.getfield 30, 3) := by decide +kernel
theorem dX3_packed_48 : decode cX3_packed 48 = .ok (.ior, 1) := by decide +kernel
theorem dX3_packed_49 : decode cX3_packed 49 = .ok (.iconst 3, 1) := by decide +kernel
theorem dX3_packed_50 : decode cX3_packed 50 = .ok (.ishl, 1) := by decide +kernel
theorem dX3_packed_51 : decode cX3_packed 51 = .ok (.aload_n 0, 1) := by decide +kernel
theorem dX3_packed_52 : decode cX3_packed 52 = .ok (.getfield 33, 3) := by decide +kernel
theorem dX3_packed_55 : decode cX3_packed 55 = .ok (.iconst 1, 1) := by decide +kernel
theorem dX3_packed_56 : decode cX3_packed 56 = .ok (.iadd, 1) := by decide +kernel
theorem dX3_packed_57 : decode cX3_packed 57 = .ok (.ior, 1) := by decide +kernel
theorem dX3_packed_58 : decode cX3_packed 58 = .ok (.ireturn, 1) := by decide +kernel
theorem dX3_unpack_0 : decode cX3_unpack 0 = .ok (.aload_n 0, 1) := by decide +kernel
theorem dX3_unpack_1 : decode cX3_unpack 1 = .ok (.iload_n 1, 1) := by decide +kernel
theorem dX3_unpack_2 : decode cX3_unpack 2 = .ok (.bipush 7, 2) := by decide +kernel
theorem dX3_unpack_4 : decode cX3_unpack 4 = .ok (.iand, 1) := by decide +kernel
theorem dX3_unpack_5 : decode cX3_unpack 5 = .ok (.iconst 1, 1) := by decide +kernel
theorem dX3_unpack_6 : decode cX3_unpack 6 = .ok (.isub, 1) := by decide +kernel
theorem dX3_unpack_7 : decode cX3_unpack 7 = .ok (.putfield 33, 3) := by decide +kernel
theorem dX3_unpack_10 : decode cX3_unpack 10 = .ok (.aload_n 0, 1) := by decide +kernel
theorem dX3_unpack_11 : decode cX3_unpack 11 = .ok (.iload_n 1, 1) := by decide +kernel
theorem dX3_unpack_12 : decode cX3_unpack 12 = .ok (.iconst 3, 1) := by decide +kernel
theorem dX3_unpack_13 : decode cX3_unpack 13 = .ok (.ishr, 1) := by decide +kernel
theorem dX3_unpack_14 : decode cX3_unpack 14 = .ok (.iconst 3, 1) := by decide +kernel
theorem dX3_unpack_15 : decode cX3_unpack 15 = .ok (.iand, 1) := by decide +kernel
theorem dX3_unpack_16 : decode cX3_unpack 16 = .ok (.putfield 30, 3) := by decide +kernel
theorem dX3_unpack_19 : decode cX3_unpack 19 = .ok (.aload_n 0, 1) := by decide +kernel
theorem dX3_unpack_20 : decode cX3_unpack 20 = .ok (.iload_n 1, 1) := by decide +kernel
theorem dX3_unpack_21 : decode cX3_unpack 21 = .ok (.iconst 5, 1) := by decide +kernel
theorem dX3_unpack_22 : decode cX3_unpack 22 = .ok (.ishr, 1) := by decide +kernel
theorem dX3_unpack_23 : decode cX3_unpack 23 = .ok (.bipush 63, 2) := by decide +kernel
theorem dX3_unpack_25 : decode cX3_unpack 25 = .ok (.iand, 1) := by decide +kernel
theorem dX3_unpack_26 : decode cX3_unpack 26 = .ok (.putfield 27, 3) := by decide +kernel
theorem dX3_unpack_29 : decode cX3_unpack 29 = .ok (.aload_n 0, 1) := by decide +kernel
theorem dX3_unpack_30 : decode cX3_unpack 30 = .ok (.iload_n 1, 1) := by decide +kernel
theorem dX3_unpack_31 : decode cX3_unpack 31 = .ok (.bipush 11, 2) := by decide +kernel
theorem dX3_unpack_33 : decode cX3_unpack 33 = .ok (.ishr, 1) := by decide +kernel
theorem dX3_unpack_34 : decode cX3_unpack 34 = .ok (.bipush 15, 2) := by decide +kernel
theorem dX3_unpack_36 : decode cX3_unpack 36 = .ok (.iand, 1) := by decide +kernel
theorem dX3_unpack_37 : decode cX3_unpack 37 = .ok (.putfield 23, 3) := by decide +kernel
theorem dX3_unpack_40 : decode cX3_unpack 40 = .ok (.iconst 0, 1) := by decide +kernel
theorem dX3_unpack_41 : decode cX3_unpack 41 = .ok (.istore_n 2, 1) := by decide +kernel
theorem dX3_unpack_42 : decode cX3_unpack 42 = .ok (.iload_n 2, 1) := by decide +kernel
theorem dX3_unpack_43 : decode cX3_unpack 43 = .ok (.iconst 4, 1) := by decide +kernel
theorem dX3_unpack_44 : decode cX3_unpack 44 = .ok (.if_icmp .ge 26, 3) := by decide +kernel
theorem dX3_unpack_47 : decode cX3_unpack 47 = .ok (.aload_n 0, 1) := by decide +kernel
theorem dX3_unpack_48 : decode cX3_unpack 48 = .ok (.getfield 15, 3) := by decide +kernel
theorem dX3_unpack_51 : decode cX3_unpack 51 = .ok (.iload_n 2, 1) := by decide +kernel
theorem dX3_unpack_52 : decode cX3_unpack 52 = .ok (.iload_n 1, 1) := by decide +kernel
theorem dX3_unpack_53 : decode cX3_unpack 53 = .ok (.bipush 24, 2) := by decide +kernel
theorem dX3_unpack_55 : decode cX3_unpack 55 = .ok (.iconst 3, 1) := by decide +kernel
theorem dX3_unpack_56 : decode cX3_unpack 56 = .ok (.iload_n 2, 1) := by decide +kernel
theorem dX3_unpack_57 : decode cX3_unpack 57 = .ok (.imul, 1) := by decide +kernel
theorem dX3_unpack_58 : decode cX3_unpack 58 = .ok (.isub, 1) := by decide +kernel
theorem dX3_unpack_59 : decode cX3_unpack 59 = .ok (.ishr, 1) := by decide +kernel
theorem dX3_unpack_60 : decode cX3_unpack 60 = .ok (.bipush 7, 2) := by decide +kernel
theorem dX3_unpack_62 : decode cX3_unpack 62 = .ok (.iand, 1) := by decide +kernel
theorem dX3_unpack_63 : decode cX3_unpack 63 = .ok (.iastore, 1) := by decide +kernel
theorem dX3_unpack_64 : decode cX3_unpack 64 = .ok (.iinc 2 1, 3) := by decide +kernel
theorem dX3_unpack_67 : decode cX3_unpack 67 = .ok (.goto (-25), 3) := by decide +kernel
theorem dX3_unpack_70 : decode cX3_unpack 70 = .ok (.return_, 1) := by decide +kernel
theorem dX3_points_0 : decode cX3_points 0 = .ok (.aload_n 0, 1) := by decide +kernel
theorem dX3_points_1 : decode cX3_points 1 = .ok (.getfield 15, 3) := by decide +kernel
theorem dX3_points_4 : decode cX3_points 4 = .ok (.iconst 0, 1) := by decide +kernel
theorem dX3_points_5 : decode cX3_points 5 = .ok (.iaload, 1) := by decide +kernel
theorem dX3_points_6 : decode cX3_points 6 = .ok (.aload_n 0, 1) := by decide +kernel
theorem dX3_points_7 : decode cX3_points 7 = .ok (.getfield 15, 3) := by decide +kernel
theorem dX3_points_10 : decode cX3_points 10 = .ok (.iconst 1, 1) := by decide +kernel
theorem dX3_points_11 : decode cX3_points 11 = .ok (.iaload, 1) := by decide +kernel
theorem dX3_points_12 : decode cX3_points 12 = .ok (.iadd, 1) := by decide +kernel
theorem dX3_points_13 : decode cX3_points 13 = .ok (.aload_n 0, 1) := by decide +kernel
theorem dX3_points_14 : decode cX3_points 14 = .ok (.getfield 15, 3) := by decide +kernel
theorem dX3_points_17 : decode cX3_points 17 = .ok (.iconst 2, 1) := by decide +kernel
theorem dX3_points_18 : decode cX3_points 18 = .ok (.iaload, 1) := by decide +kernel
theorem dX3_points_19 : decode cX3_points 19 = .ok (.iadd, 1) := by decide +kernel
theorem dX3_points_20 : decode cX3_points 20 = .ok (.aload_n 0, 1) := by decide +kernel
theorem dX3_points_21 : decode cX3_points 21 = .ok (.getfield 15, 3) := by decide +kernel
theorem dX3_points_24 : decode cX3_points 24 = .ok (.iconst 3, 1) := by decide +kernel
theorem dX3_points_25 : decode cX3_points 25 = .ok (.iaload, 1) := by decide +kernel
theorem dX3_points_26 : decode cX3_points 26 = .ok (.iadd, 1) := by decide +kernel
theorem dX3_points_27 : decode cX3_points 27 = .ok (.ireturn, 1) := by decide +kernel
theorem dX3_isLast_0 : decode cX3_isLast 0 = .ok (.aload_n 0, 1) := by decide +kernel
theorem dX3_isLast_1 : decode cX3_isLast 1 = .ok (.getfield 33, 3) := by decide +kernel
theorem dX3_isLast_4 : decode cX3_isLast 4 = .ok (.ifCond .eq 25, 3) := by decide +kernel
theorem dX3_isLast_7 : decode cX3_isLast 7 = .ok (.aload_n 0, 1) := by decide +kernel
theorem dX3_isLast_8 : decode cX3_isLast 8 = .ok (.invokevirtual 59, 3) := by decide +kernel
theorem dX3_isLast_11 : decode cX3_isLast 11 = .ok (.aload_n 0, 1) := by decide +kernel
theorem dX3_isLast_12 : decode cX3_isLast 12 = .ok (.getfield 19, 3) := by decide +kernel
theorem dX3_isLast_15 : decode cX3_isLast 15 = .ok (.getfield 63, 3) := by decide +kernel
theorem dX3_isLast_18 : decode cX3_isLast 18 = .ok (.aload_n 0, 1) := by decide +kernel
theorem dX3_isLast_19 : decode cX3_isLast 19 = .ok (.getfield 19, 3) := by decide +kernel
theorem dX3_isLast_22 : decode cX3_isLast 22 = .ok (.getfield 68, 3) := by decide +kernel
theorem dX3_isLast_25 : decode cX3_isLast 25 = .ok (.imul, 1) := by decide +kernel
theorem dX3_isLast_26 : decode cX3_isLast 26 = .ok (.if_icmp .lt 7, 3) := by decide +kernel
theorem dX3_isLast_29 : decode cX3_isLast 29 = .ok (.iconst 1, 1) := by decide +kernel
theorem dX3_isLast_30 : decode cX3_isLast 30 = .ok (.goto 4, 3) := by decide +kernel
theorem dX3_isLast_33 : decode cX3_isLast 33 = .ok (.iconst 0, 1) := by decide +kernel
theorem dX3_isLast_34 : decode cX3_isLast 34 = .ok (.ireturn, 1) := by decide +kernel
theorem dX3_cardsInTurn_0 : decode cX3_cardsInTurn 0 = .ok (.aload_n 0, 1) := by decide +kernel
theorem dX3_cardsInTurn_1 : decode cX3_cardsInTurn 1 = .ok (.getfield 9, 3) := by decide +kernel
theorem dX3_cardsInTurn_4 : decode cX3_cardsInTurn 4 = .ok (.aload_n 0, 1) := by decide +kernel
theorem dX3_cardsInTurn_5 : decode cX3_cardsInTurn 5 = .ok (.getfield 30, 3) := by decide +kernel
theorem dX3_cardsInTurn_8 : decode cX3_cardsInTurn 8 = .ok (.laload, 1) := by decide +kernel
theorem dX3_cardsInTurn_9 : decode cX3_cardsInTurn 9 = .ok (.lreturn, 1) := by decide +kernel
theorem dX3_holds_0 : decode cX3_holds 0 = .ok (.iload_n 1, 1) := by decide +kernel
theorem dX3_holds_1 : decode cX3_holds 1 = .ok (.ifCond .lt 31, 3) := by decide +kernel
theorem dX3_holds_4 : decode cX3_holds 4 = .ok (.iload_n 1, 1) := by decide +kernel
theorem dX3_holds_5 : decode cX3_holds 5 = .ok (.bipush 40, 2) := by decide +kernel
theorem dX3_holds_7 : decode cX3_holds 7 = .ok (.if_icmp .ge 25, 3) := by decide +kernel
theorem dX3_holds_10 : decode cX3_holds 10 = .ok (.aload_n 0, 1) := by decide +kernel
theorem dX3_holds_11 : decode cX3_holds 11 = .ok (.getfield 9, 3) := by decide +kernel
theorem dX3_holds_14 : decode cX3_holds 14 = .ok (.aload_n 0, 1) := by decide +kernel
theorem dX3_holds_15 : decode cX3_holds 15 = .ok (.getfield 30, 3) := by decide +kernel
theorem dX3_holds_18 : decode cX3_holds 18 = .ok (.laload, 1) := by decide +kernel
theorem dX3_holds_19 : decode cX3_holds 19 = .ok (.iload_n 1, 1) := by decide +kernel
theorem dX3_holds_20 : decode cX3_holds 20 = .ok (.lshr, 1) := by decide +kernel
theorem dX3_holds_21 : decode cX3_holds 21 = .ok (.lconst 1, 1) := by decide +kernel
theorem dX3_holds_22 : decode cX3_holds 22 = .ok (.land, 1) := by decide +kernel
theorem dX3_holds_23 : decode cX3_holds 23 = .ok (.lconst 0, 1) := by decide +kernel
theorem dX3_holds_24 : decode cX3_holds 24 = .ok (.lcmp, 1) := by decide +kernel
theorem dX3_holds_25 : decode cX3_holds 25 = .ok (.ifCond .eq 7, 3) := by decide +kernel
theorem dX3_holds_28 : decode cX3_holds 28 = .ok (.iconst 1, 1) := by decide +kernel
theorem dX3_holds_29 : decode cX3_holds 29 = .ok (.goto 4, 3) := by decide +kernel
theorem dX3_holds_32 : decode cX3_holds 32 = .ok (.iconst 0, 1) := by decide +kernel
theorem dX3_holds_33 : decode cX3_holds 33 = .ok (.ireturn, 1) := by decide +kernel
theorem dX3_isSensible_0 : decode cX3_isSensible 0 = .ok (.iload_n 1, 1) := by decide +kernel
theorem dX3_isSensible_1 : decode cX3_isSensible 1 = .ok (.tableswitch 76 0 2 #[27, 57, 63], 27) := by decide +kernel
theorem dX3_isSensible_28 : decode cX3_isSensible 28 = .ok (.aload_n 0, 1) := by decide +kernel
theorem dX3_isSensible_29 : decode cX3_isSensible 29 = .ok (.iload_n 2, 1) := by decide +kernel
theorem dX3_isSensible_30 : decode cX3_isSensible 30 = .ok (.invokevirtual 71, 3) := by decide +kernel
theorem dX3_isSensible_33 : decode cX3_isSensible 33 = .ok (.ifCond .eq 23, 3) := by decide +kernel
theorem dX3_isSensible_36 : decode cX3_isSensible 36 = .ok (.aload_n 0, 1) := by decide +kernel
theorem dX3_isSensible_37 : decode cX3_isSensible 37 = .ok (.aload_n 0, 1) := by decide +kernel
theorem dX3_isSensible_38 : decode cX3_isSensible 38 = .ok (.getfield 19, 3) := by decide +kernel
theorem dX3_isSensible_41 : decode cX3_isSensible 41 = .ok (.getfield 75, 3) := by decide +kernel
theorem dX3_isSensible_44 : decode cX3_isSensible 44 = .ok (.iload_n 2, 1) := by decide +kernel
theorem dX3_isSensible_45 : decode cX3_isSensible 45 = .ok (.iaload, 1) := by decide +kernel
theorem dX3_isSensible_46 : decode cX3_isSensible 46 = .ok (.invokevirtual 78, 3) := by decide +kernel
theorem dX3_isSensible_49 : decode cX3_isSensible 49 = .ok (.ifCond .eq 7, 3) := by decide +kernel
theorem dX3_isSensible_52 : decode cX3_isSensible 52 = .ok (.iconst 1, 1) := by decide +kernel
theorem dX3_isSensible_53 : decode cX3_isSensible 53 = .ok (.goto 4, 3) := by decide +kernel
theorem dX3_isSensible_56 : decode cX3_isSensible 56 = .ok (.iconst 0, 1) := by decide +kernel
theorem dX3_isSensible_57 : decode cX3_isSensible 57 = .ok (.ireturn, 1) := by decide +kernel
theorem dX3_isSensible_58 : decode cX3_isSensible 58 = .ok (.aload_n 0, 1) := by decide +kernel
theorem dX3_isSensible_59 : decode cX3_isSensible 59 = .ok (.iload_n 2, 1) := by decide +kernel
theorem dX3_isSensible_60 : decode cX3_isSensible 60 = .ok (.invokevirtual 71, 3) := by decide +kernel
theorem dX3_isSensible_63 : decode cX3_isSensible 63 = .ok (.ireturn, 1) := by decide +kernel
theorem dX3_isSensible_64 : decode cX3_isSensible 64 = .ok (.aload_n 0, 1) := by decide +kernel
theorem dX3_isSensible_65 : decode cX3_isSensible 65 = .ok (.getfield 23, 3) := by decide +kernel
theorem dX3_isSensible_68 : decode cX3_isSensible 68 = .ok (.ifCond .le 7, 3) := by decide +kernel
theorem dX3_isSensible_71 : decode cX3_isSensible 71 = .ok (.iconst 1, 1) := by decide +kernel
theorem dX3_isSensible_72 : decode cX3_isSensible 72 = .ok (.goto 4, 3) := by decide +kernel
theorem dX3_isSensible_75 : decode cX3_isSensible 75 = .ok (.iconst 0, 1) := by decide +kernel
theorem dX3_isSensible_76 : decode cX3_isSensible 76 = .ok (.ireturn, 1) := by decide +kernel
theorem dX3_isSensible_77 : decode cX3_isSensible 77 = .ok (.aload_n 0, 1) := by decide +kernel
theorem dX3_isSensible_78 : decode cX3_isSensible 78 = .ok (.getfield 9, 3) := by decide +kernel
theorem dX3_isSensible_81 : decode cX3_isSensible 81 = .ok (.aload_n 0, 1) := by decide +kernel
theorem dX3_isSensible_82 : decode cX3_isSensible 82 = .ok (.getfield 30, 3) := by decide +kernel
theorem dX3_isSensible_85 : decode cX3_isSensible 85 = .ok (.laload, 1) := by decide +kernel
theorem dX3_isSensible_86 : decode cX3_isSensible 86 = .ok (.lconst 0, 1) := by decide +kernel
theorem dX3_isSensible_87 : decode cX3_isSensible 87 = .ok (.lcmp, 1) := by decide +kernel
theorem dX3_isSensible_88 : decode cX3_isSensible 88 = .ok (.ifCond .ne 7, 3) := by decide +kernel
theorem dX3_isSensible_91 : decode cX3_isSensible 91 = .ok (.iconst 1, 1) := by decide +kernel
theorem dX3_isSensible_92 : decode cX3_isSensible 92 = .ok (.goto 4, 3) := by decide +kernel
theorem dX3_isSensible_95 : decode cX3_isSensible 95 = .ok (.iconst 0, 1) := by decide +kernel
theorem dX3_isSensible_96 : decode cX3_isSensible 96 = .ok (.ireturn, 1) := by decide +kernel
theorem dX3_isNext_0 : decode cX3_isNext 0 = .ok (.aload_n 0, 1) := by decide +kernel
theorem dX3_isNext_1 : decode cX3_isNext 1 = .ok (.getfield 15, 3) := by decide +kernel
theorem dX3_isNext_4 : decode cX3_isNext 4 = .ok (.iload_n 1, 1) := by decide +kernel
theorem dX3_isNext_5 : decode cX3_isNext 5 = .ok (.iconst 5, 1) := by decide +kernel
theorem dX3_isNext_6 : decode cX3_isNext 6 = .ok (.idiv, 1) := by decide +kernel
theorem dX3_isNext_7 : decode cX3_isNext 7 = .ok (.iaload, 1) := by decide +kernel
theorem dX3_isNext_8 : decode cX3_isNext 8 = .ok (.iload_n 1, 1) := by decide +kernel
theorem dX3_isNext_9 : decode cX3_isNext 9 = .ok (.iconst 5, 1) := by decide +kernel
theorem dX3_isNext_10 : decode cX3_isNext 10 = .ok (.irem, 1) := by decide +kernel
theorem dX3_isNext_11 : decode cX3_isNext 11 = .ok (.if_icmp .ne 7, 3) := by decide +kernel
theorem dX3_isNext_14 : decode cX3_isNext 14 = .ok (.iconst 1, 1) := by decide +kernel
theorem dX3_isNext_15 : decode cX3_isNext 15 = .ok (.goto 4, 3) := by decide +kernel
theorem dX3_isNext_18 : decode cX3_isNext 18 = .ok (.iconst 0, 1) := by decide +kernel
theorem dX3_isNext_19 : decode cX3_isNext 19 = .ok (.ireturn, 1) := by decide +kernel
theorem dX3_move_0 : decode cX3_move 0 = .ok (.iload_n 1, 1) := by decide +kernel
theorem dX3_move_1 : decode cX3_move 1 = .ok (.ifCond .ne 24, 3) := by decide +kernel
theorem dX3_move_4 : decode cX3_move 4 = .ok (.aload_n 0, 1) := by decide +kernel
theorem dX3_move_5 : decode cX3_move 5 = .ok (.aload_n 0, 1) := by decide +kernel
theorem dX3_move_6 : decode cX3_move 6 = .ok (.getfield 19, 3) := by decide +kernel
theorem dX3_move_9 : decode cX3_move 9 = .ok (.getfield 75, 3) := by decide +kernel
theorem dX3_move_12 : decode cX3_move 12 = .ok (.iload_n 2, 1) := by decide +kernel
theorem dX3_move_13 : decode cX3_move 13 = .ok (.iaload, 1) := by decide +kernel
theorem dX3_move_14 : decode cX3_move 14 = .ok (.invokevirtual 81, 3) := by decide +kernel
theorem dX3_move_17 : decode cX3_move 17 = .ok (.aload_n 0, 1) := by decide +kernel
theorem dX3_move_18 : decode cX3_move 18 = .ok (.iload_n 2, 1) := by decide +kernel
theorem dX3_move_19 : decode cX3_move 19 = .ok (.invokevirtual 85, 3) := by decide +kernel
theorem dX3_move_22 : decode cX3_move 22 = .ok (.goto 51, 3) := by decide +kernel
theorem dX3_move_25 : decode cX3_move 25 = .ok (.iload_n 1, 1) := by decide +kernel
theorem dX3_move_26 : decode cX3_move 26 = .ok (.iconst 1, 1) := by decide +kernel
theorem dX3_move_27 : decode cX3_move 27 = .ok (.if_icmp .ne 31, 3) := by decide +kernel
theorem dX3_move_30 : decode cX3_move 30 = .ok (.aload_n 0, 1) := by decide +kernel
theorem dX3_move_31 : decode cX3_move 31 = .ok (.aload_n 0, 1) := by decide +kernel
theorem dX3_move_32 : decode cX3_move 32 = .ok (.getfield 23, 3) := by decide +kernel
theorem dX3_move_35 : decode cX3_move 35 = .ok (.iconst 1, 1) := by decide +kernel
theorem dX3_move_36 : decode cX3_move 36 = .ok (.iadd, 1) := by decide +kernel
theorem dX3_move_37 : decode cX3_move 37 = .ok (.aload_n 0, 1) := by decide +kernel
theorem dX3_move_38 : decode cX3_move 38 = .ok (.getfield 19, 3) := by decide +kernel
theorem dX3_move_41 : decode cX3_move 41 = .ok (.getfield 88, 3) := by decide +kernel
theorem dX3_move_44 : decode cX3_move 44 = .ok (.invokestatic 91, 3) := by decide +kernel
theorem dX3_move_47 : decode cX3_move 47 = .ok (.putfield 23, 3) := by decide +kernel
theorem dX3_move_50 : decode cX3_move 50 = .ok (.aload_n 0, 1) := by decide +kernel
theorem dX3_move_51 : decode cX3_move 51 = .ok (.iload_n 2, 1) := by decide +kernel
theorem dX3_move_52 : decode cX3_move 52 = .ok (.invokevirtual 85, 3) := by decide +kernel
theorem dX3_move_55 : decode cX3_move 55 = .ok (.goto 18, 3) := by decide +kernel
theorem dX3_move_58 : decode cX3_move 58 = .ok (.iload_n 1, 1) := by decide +kernel
theorem dX3_move_59 : decode cX3_move 59 = .ok (.iconst 2, 1) := by decide +kernel
theorem dX3_move_60 : decode cX3_move 60 = .ok (.if_icmp .ne 13, 3) := by decide +kernel
theorem dX3_move_63 : decode cX3_move 63 = .ok (.aload_n 0, 1) := by decide +kernel
theorem dX3_move_64 : decode cX3_move 64 = .ok (.dup, 1) := by decide +kernel
theorem dX3_move_65 : decode cX3_move 65 = .ok (.getfield 23, 3) := by decide +kernel
theorem dX3_move_68 : decode cX3_move 68 = .ok (.iconst 1, 1) := by decide +kernel
theorem dX3_move_69 : decode cX3_move 69 = .ok (.isub, 1) := by decide +kernel
theorem dX3_move_70 : decode cX3_move 70 = .ok (.putfield 23, 3) := by decide +kernel
theorem dX3_move_73 : decode cX3_move 73 = .ok (.aload_n 0, 1) := by decide +kernel
theorem dX3_move_74 : decode cX3_move 74 = .ok (.getfield 33, 3) := by decide +kernel
theorem dX3_move_77 : decode cX3_move 77 = .ok (.ifCond .le 16, 3) := by decide +kernel
theorem dX3_move_80 : decode cX3_move 80 = .ok (.aload_n 0, 1) := by decide +kernel
theorem dX3_move_81 : decode cX3_move 81 = .ok (.dup, 1) := by decide +kernel
theorem dX3_move_82 : decode cX3_move 82 = .ok (.getfield 33, 3) := by decide +kernel
theorem dX3_move_85 : decode cX3_move 85 = .ok (.iconst 1, 1) := by decide +kernel
theorem dX3_move_86 : decode cX3_move 86 = .ok (.isub, 1) := by decide +kernel
theorem dX3_move_87 : decode cX3_move 87 = .ok (.putfield 33, 3) := by decide +kernel
theorem dX3_move_90 : decode cX3_move 90 = .ok (.goto 36, 3) := by decide +kernel
theorem dX3_move_93 : decode cX3_move 93 = .ok (.aload_n 0, 1) := by decide +kernel
theorem dX3_move_94 : decode cX3_move 94 = .ok (.getfield 33, 3) := by decide +kernel
theorem dX3_move_97 : decode cX3_move 97 = .ok (.iconst (-1), 1) := by decide +kernel
theorem dX3_move_98 : decode cX3_move 98 = .ok (.if_icmp .ne 28, 3) := by decide +kernel
theorem dX3_move_101 : decode cX3_move 101 = .ok (.aload_n 0, 1) := by decide +kernel
theorem dX3_move_102 : decode cX3_move 102 = .ok (.getfield 27, 3) := by decide +kernel
theorem dX3_move_105 : decode cX3_move 105 = .ok (.aload_n 0, 1) := by decide +kernel
theorem dX3_move_106 : decode cX3_move 106 = .ok (.getfield 19, 3) := by decide +kernel
theorem dX3_move_109 : decode cX3_move 109 = .ok (.getfield 96, 3) := by decide +kernel
theorem dX3_move_112 : decode cX3_move 112 = .ok (.if_icmp .lt 14, 3) := by decide +kernel
theorem dX3_move_115 : decode cX3_move 115 = .ok (.aload_n 0, 1) := by decide +kernel
theorem dX3_move_116 : decode cX3_move 116 = .ok (.aload_n 0, 1) := by decide +kernel
theorem dX3_move_117 : decode cX3_move 117 = .ok (.getfield 19, 3) := by decide +kernel
theorem dX3_move_120 : decode cX3_move 120 = .ok (.getfield 99, 3) := by decide +kernel
theorem dX3_move_123 : decode cX3_move 123 = .ok (.putfield 33, 3) := by decide +kernel
theorem dX3_move_126 : decode cX3_move 126 = .ok (.aload_n 0, 1) := by decide +kernel
theorem dX3_move_127 : decode cX3_move 127 = .ok (.aload_n 0, 1) := by decide +kernel
theorem dX3_move_128 : decode cX3_move 128 = .ok (.getfield 30, 3) := by decide +kernel
theorem dX3_move_131 : decode cX3_move 131 = .ok (.iconst 1, 1) := by decide +kernel
theorem dX3_move_132 : decode cX3_move 132 = .ok (.iadd, 1) := by decide +kernel
theorem dX3_move_133 : decode cX3_move 133 = .ok (.aload_n 0, 1) := by decide +kernel
theorem dX3_move_134 : decode cX3_move 134 = .ok (.getfield 19, 3) := by decide +kernel
theorem dX3_move_137 : decode cX3_move 137 = .ok (.getfield 99, 3) := by decide +kernel
theorem dX3_move_140 : decode cX3_move 140 = .ok (.if_icmp .ge 12, 3) := by decide +kernel
theorem dX3_move_143 : decode cX3_move 143 = .ok (.aload_n 0, 1) := by decide +kernel
theorem dX3_move_144 : decode cX3_move 144 = .ok (.getfield 30, 3) := by decide +kernel
theorem dX3_move_147 : decode cX3_move 147 = .ok (.iconst 1, 1) := by decide +kernel
theorem dX3_move_148 : decode cX3_move 148 = .ok (.iadd, 1) := by decide +kernel
theorem dX3_move_149 : decode cX3_move 149 = .ok (.goto 4, 3) := by decide +kernel
theorem dX3_move_152 : decode cX3_move 152 = .ok (.iconst 0, 1) := by decide +kernel
theorem dX3_move_153 : decode cX3_move 153 = .ok (.putfield 30, 3) := by decide +kernel
theorem dX3_move_156 : decode cX3_move 156 = .ok (.return_, 1) := by decide +kernel
theorem dX3_putOnPile_0 : decode cX3_putOnPile 0 = .ok (.iload_n 1, 1) := by decide +kernel
theorem dX3_putOnPile_1 : decode cX3_putOnPile 1 = .ok (.iconst 5, 1) := by decide +kernel
theorem dX3_putOnPile_2 : decode cX3_putOnPile 2 = .ok (.idiv, 1) := by decide +kernel
theorem dX3_putOnPile_3 : decode cX3_putOnPile 3 = .ok (.istore_n 2, 1) := by decide +kernel
theorem dX3_putOnPile_4 : decode cX3_putOnPile 4 = .ok (.aload_n 0, 1) := by decide +kernel
theorem dX3_putOnPile_5 : decode cX3_putOnPile 5 = .ok (.getfield 15, 3) := by decide +kernel
theorem dX3_putOnPile_8 : decode cX3_putOnPile 8 = .ok (.iload_n 2, 1) := by decide +kernel
theorem dX3_putOnPile_9 : decode cX3_putOnPile 9 = .ok (.dup2, 1) := by decide +kernel
theorem dX3_putOnPile_10 : decode cX3_putOnPile 10 = .ok (.iaload, 1) := by decide +kernel
theorem dX3_putOnPile_11 : decode cX3_putOnPile 11 = .ok (.iconst 1, 1) := by decide +kernel
theorem dX3_putOnPile_12 : decode cX3_putOnPile 12 = .ok (.iadd, 1) := by decide +kernel
theorem dX3_putOnPile_13 : decode cX3_putOnPile 13 = .ok (.iastore, 1) := by decide +kernel
theorem dX3_putOnPile_14 : decode cX3_putOnPile 14 = .ok (.aload_n 0, 1) := by decide +kernel
theorem dX3_putOnPile_15 : decode cX3_putOnPile 15 = .ok (.getfield 15, 3) := by decide +kernel
theorem dX3_putOnPile_18 : decode cX3_putOnPile 18 = .ok (.iload_n 2, 1) := by decide +kernel
theorem dX3_putOnPile_19 : decode cX3_putOnPile 19 = .ok (.iaload, 1) := by decide +kernel
theorem dX3_putOnPile_20 : decode cX3_putOnPile 20 = .ok (.aload_n 0, 1) := by decide +kernel
theorem dX3_putOnPile_21 : decode cX3_putOnPile 21 = .ok (.getfield 19, 3) := by decide +kernel
theorem dX3_putOnPile_24 : decode cX3_putOnPile 24 = .ok (.getfield 68, 3) := by decide +kernel
theorem dX3_putOnPile_27 : decode cX3_putOnPile 27 = .ok (.if_icmp .ne 23, 3) := by decide +kernel
theorem dX3_putOnPile_30 : decode cX3_putOnPile 30 = .ok (.aload_n 0, 1) := by decide +kernel
theorem dX3_putOnPile_31 : decode cX3_putOnPile 31 = .ok (.aload_n 0, 1) := by decide +kernel
theorem dX3_putOnPile_32 : decode cX3_putOnPile 32 = .ok (.getfield 23, 3) := by decide +kernel
theorem dX3_putOnPile_35 : decode cX3_putOnPile 35 = .ok (.iconst 1, 1) := by decide +kernel
theorem dX3_putOnPile_36 : decode cX3_putOnPile 36 = .ok (.iadd, 1) := by decide +kernel
theorem dX3_putOnPile_37 : decode cX3_putOnPile 37 = .ok (.aload_n 0, 1) := by decide +kernel
theorem dX3_putOnPile_38 : decode cX3_putOnPile 38 = .ok (.getfield 19, 3) := by decide +kernel
theorem dX3_putOnPile_41 : decode cX3_putOnPile 41 = .ok (.getfield 88, 3) := by decide +kernel
theorem dX3_putOnPile_44 : decode cX3_putOnPile 44 = .ok (.invokestatic 91, 3) := by decide +kernel
theorem dX3_putOnPile_47 : decode cX3_putOnPile 47 = .ok (.putfield 23, 3) := by decide +kernel
theorem dX3_putOnPile_50 : decode cX3_putOnPile 50 = .ok (.return_, 1) := by decide +kernel
theorem dX3_exchangeCard_0 : decode cX3_exchangeCard 0 = .ok (.aload_n 0, 1) := by decide +kernel
theorem dX3_exchangeCard_1 : decode cX3_exchangeCard 1 = .ok (.getfield 9, 3) := by decide +kernel
theorem dX3_exchangeCard_4 : decode cX3_exchangeCard 4 = .ok (.aload_n 0, 1) := by decide +kernel
theorem dX3_exchangeCard_5 : decode cX3_exchangeCard 5 = .ok (.getfield 30, 3) := by decide +kernel
theorem dX3_exchangeCard_8 : decode cX3_exchangeCard 8 = .ok (.dup2, 1) := by decide +kernel
theorem dX3_exchangeCard_9 : decode cX3_exchangeCard 9 = .ok (.laload, 1) := by decide +kernel
theorem dX3_exchangeCard_10 : decode cX3_exchangeCard 10 = .ok (.lconst 1, 1) := by decide +kernel
theorem dX3_exchangeCard_11 : decode cX3_exchangeCard 11 = .ok (.iload_n 1, 1) := by decide +kernel
theorem dX3_exchangeCard_12 : decode cX3_exchangeCard 12 = .ok (.lshl, 1) := by decide +kernel
theorem dX3_exchangeCard_13 : decode cX3_exchangeCard 13 = .ok (.ldc2_w 102, 3) := by decide +kernel
theorem dX3_exchangeCard_16 : decode cX3_exchangeCard 16 = .ok (.lxor, 1) := by decide +kernel
theorem dX3_exchangeCard_17 : decode cX3_exchangeCard 17 = .ok (.land, 1) := by decide +kernel
theorem dX3_exchangeCard_18 : decode cX3_exchangeCard 18 = .ok (.lastore, 1) := by decide +kernel
theorem dX3_exchangeCard_19 : decode cX3_exchangeCard 19 = .ok (.aload_n 0, 1) := by decide +kernel
theorem dX3_exchangeCard_20 : decode cX3_exchangeCard 20 = .ok (.getfield 27, 3) := by decide +kernel
theorem dX3_exchangeCard_23 : decode cX3_exchangeCard 23 = .ok (.aload_n 0, 1) := by decide +kernel
theorem dX3_exchangeCard_24 : decode cX3_exchangeCard 24 = .ok (.getfield 19, 3) := by decide +kernel
theorem dX3_exchangeCard_27 : decode cX3_exchangeCard 27 = .ok (.getfield 96, 3) := by decide +kernel
theorem dX3_exchangeCard_30 : decode cX3_exchangeCard 30 = .ok (.if_icmp .ge 31, 3) := by decide +kernel
theorem dX3_exchangeCard_33 : decode cX3_exchangeCard 33 = .ok (.aload_n 0, 1) := by decide +kernel
theorem dX3_exchangeCard_34 : decode cX3_exchangeCard 34 = .ok (.getfield 9, 3) := by decide +kernel
theorem dX3_exchangeCard_37 : decode cX3_exchangeCard 37 = .ok (.aload_n 0, 1) := by decide +kernel
theorem dX3_exchangeCard_38 : decode cX3_exchangeCard 38 = .ok (.getfield 30, 3) := by decide +kernel
theorem dX3_exchangeCard_41 : decode cX3_exchangeCard 41 = .ok (.dup2, 1) := by decide +kernel
theorem dX3_exchangeCard_42 : decode cX3_exchangeCard 42 = .ok (.laload, 1) := by decide +kernel
theorem dX3_exchangeCard_43 : decode cX3_exchangeCard 43 = .ok (.lconst 1, 1) := by decide +kernel
theorem dX3_exchangeCard_44 : decode cX3_exchangeCard 44 = .ok (.aload_n 0, 1) := by decide +kernel
theorem dX3_exchangeCard_45 : decode cX3_exchangeCard 45 = .ok (.getfield 27, 3) := by decide +kernel
theorem dX3_exchangeCard_48 : decode cX3_exchangeCard 48 = .ok (.lshl, 1) := by decide +kernel
theorem dX3_exchangeCard_49 : decode cX3_exchangeCard 49 = .ok (.lor, 1) := by decide +kernel
theorem dX3_exchangeCard_50 : decode cX3_exchangeCard 50 = .ok (.lastore, 1) := by decide +kernel
theorem dX3_exchangeCard_51 : decode cX3_exchangeCard 51 = .ok (.aload_n 0, 1) := by decide +kernel
theorem dX3_exchangeCard_52 : decode cX3_exchangeCard 52 = .ok (.dup, 1) := by decide +kernel
theorem dX3_exchangeCard_53 : decode cX3_exchangeCard 53 = .ok (.getfield 27, 3) := by decide +kernel
theorem dX3_exchangeCard_56 : decode cX3_exchangeCard 56 = .ok (.iconst 1, 1) := by decide +kernel
theorem dX3_exchangeCard_57 : decode cX3_exchangeCard 57 = .ok (.iadd, 1) := by decide +kernel
theorem dX3_exchangeCard_58 : decode cX3_exchangeCard 58 = .ok (.putfield 27, 3) := by decide +kernel
theorem dX3_exchangeCard_61 : decode cX3_exchangeCard 61 = .ok (.return_, 1) := by decide +kernel
theorem dX4_init_0 : decode cX4_init 0 = .ok (.aload_n 0, 1) := by decide +kernel
theorem dX4_init_1 : decode cX4_init 1 = .ok (.invokespecial 3, 3) := by decide +kernel
theorem dX4_init_4 : decode cX4_init 4 = .ok (.aload_n 0, 1) := by decide +kernel
theorem dX4_init_5 : decode cX4_init 5 = .ok (.new 9, 3) := by decide +kernel
theorem dX4_init_8 : decode cX4_init 8 = .ok (.dup, 1) := by decide +kernel
theorem dX4_init_9 : decode cX4_init 9 = .ok (.invokespecial 11, 3) := by decide +kernel
theorem dX4_init_12 : decode cX4_init 12 = .ok (.putfield 12, 3) := by decide +kernel
theorem dX4_init_15 : decode cX4_init 15 = .ok (.aload_n 0, 1) := by decide +kernel
theorem dX4_init_16 : decode cX4_init 16 = .ok (.iconst (-1), 1) := by decide +kernel
theorem dX4_init_17 : decode cX4_init 17 = .ok (.putfield 18, 3) := by decide +kernel
theorem dX4_init_20 : decode cX4_init 20 = .ok (.aload_n 0, 1) := by decide +kernel
theorem dX4_init_21 : decode cX4_init 21 = .ok (.aload_n 1, 1) := by decide +kernel
theorem dX4_init_22 : decode cX4_init 22 = .ok (.putfield 22, 3) := by decide +kernel
theorem dX4_init_25 : decode cX4_init 25 = .ok (.return_, 1) := by decide +kernel
theorem dX4_readText_0 : decode cX4_readText 0 = .ok (.aload_n 0, 1) := by decide +kernel
theorem dX4_readText_1 : decode cX4_readText 1 = .ok (.new 9, 3) := by decide +kernel
theorem dX4_readText_4 : decode cX4_readText 4 = .ok (.dup, 1) := by decide +kernel
theorem dX4_readText_5 : decode cX4_readText 5 = .ok (.invokespecial 11, 3) := by decide +kernel
theorem dX4_readText_8 : decode cX4_readText 8 = .ok (.putfield 12, 3) := by decide +kernel
theorem dX4_readText_11 : decode cX4_readText 11 = .ok (.aload_n 0, 1) := by decide +kernel
theorem dX4_readText_12 : decode cX4_readText 12 = .ok (.iconst 0, 1) := by decide +kernel
theorem dX4_readText_13 : decode cX4_readText 13 = .ok (.putfield 26, 3) := by decide +kernel
theorem dX4_readText_16 : decode cX4_readText 16 = .ok (.aload_n 0, 1) := by decide +kernel
theorem dX4_readText_17 : decode cX4_readText 17 = .ok (.iconst 0, 1) := by decide +kernel
theorem dX4_readText_18 : decode cX4_readText 18 = .ok (.putfield 29, 3) := by decide +kernel
theorem dX4_readText_21 : decode cX4_readText 21 = .ok (.aload_n 0, 1) := by decide +kernel
theorem dX4_readText_22 : decode cX4_readText 22 = .ok (.iconst (-1), 1) := by decide +kernel
theorem dX4_readText_23 : decode cX4_readText 23 = .ok (.putfield 18, 3) := by decide +kernel
theorem dX4_readText_26 : decode cX4_readText 26 = .ok (.aload_n 0, 1) := by decide +kernel
theorem dX4_readText_27 : decode cX4_readText 27 = .ok (.iload_n 1, 1) := by decide +kernel
theorem dX4_readText_28 : decode cX4_readText 28 = .ok (.aload_n 0, 1) := by decide +kernel
theorem dX4_readText_29 : decode cX4_readText 29 = .ok (.getfield 22, 3) := by decide +kernel
theorem dX4_readText_32 : decode cX4_readText 32 = .ok (.arraylength, 1) := by decide +kernel
theorem dX4_readText_33 : decode cX4_readText 33 = .ok (.invokestatic 32, 3) := by decide +kernel
theorem dX4_readText_36 : decode cX4_readText 36 = .ok (.putfield 38, 3) := by decide +kernel
theorem dX4_readText_39 : decode cX4_readText 39 = .ok (.aload_n 0, 1) := by decide +kernel
theorem dX4_readText_40 : decode cX4_readText 40 = .ok (.iconst 0, 1) := by decide +kernel
theorem dX4_readText_41 : decode cX4_readText 41 = .ok (.putfield 41, 3) := by decide +kernel
theorem dX4_readText_44 : decode cX4_readText 44 = .ok (.aload_n 0, 1) := by decide +kernel
theorem dX4_readText_45 : decode cX4_readText 45 = .ok (.iconst (-1), 1) := by decide +kernel
theorem dX4_readText_46 : decode cX4_readText 46 = .ok (.putfield 44, 3) := by decide +kernel
theorem dX4_readText_49 : decode cX4_readText 49 = .ok (.aload_n 0, 1) := by decide +kernel
theorem dX4_readText_50 : decode cX4_readText 50 = .ok (.iconst 0, 1) := by decide +kernel
theorem dX4_readText_51 : decode cX4_readText 51 = .ok (.putfield 47, 3) := by decide +kernel
theorem dX4_readText_54 : decode cX4_readText 54 = .ok (.aload_n 0, 1) := by decide +kernel
theorem dX4_readText_55 : decode cX4_readText 55 = .ok (.getfield 47, 3) := by decide +kernel
theorem dX4_readText_58 : decode cX4_readText 58 = .ok (.aload_n 0, 1) := by decide +kernel
theorem dX4_readText_59 : decode cX4_readText 59 = .ok (.getfield 38, 3) := by decide +kernel
theorem dX4_readText_62 : decode cX4_readText 62 = .ok (.if_icmp .gt 51, 3) := by decide +kernel
theorem dX4_readText_65 : decode cX4_readText 65 = .ok (.aload_n 0, 1) := by decide +kernel
theorem dX4_readText_66 : decode cX4_readText 66 = .ok (.invokevirtual 50, 3) := by decide +kernel
theorem dX4_readText_69 : decode cX4_readText 69 = .ok (.aload_n 0, 1) := by decide +kernel
theorem dX4_readText_70 : decode cX4_readText 70 = .ok (.getfield 26, 3) := by decide +kernel
theorem dX4_readText_73 : decode cX4_readText 73 = .ok (.ifCond .ne 40, 3) := by decide +kernel
theorem dX4_readText_76 : decode cX4_readText 76 = .ok (.aload_n 0, 1) := by decide +kernel
theorem dX4_readText_77 : decode cX4_readText 77 = .ok (.getfield 41, 3) := by decide +kernel
theorem dX4_readText_80 : decode cX4_readText 80 = .ok (.aload_n 0, 1) := by decide +kernel
theorem dX4_readText_81 : decode cX4_readText 81 = .ok (.getfield 38, 3) := by decide +kernel
theorem dX4_readText_84 : decode cX4_readText 84 = .ok (.if_icmp .lt 6, 3) := by decide +kernel
theorem dX4_readText_87 : decode cX4_readText 87 = .ok (.goto 26, 3) := by decide +kernel
theorem dX4_readText_90 : decode cX4_readText 90 = .ok (.aload_n 0, 1) := by decide +kernel
theorem dX4_readText_91 : decode cX4_readText 91 = .ok (.dup, 1) := by decide +kernel
theorem dX4_readText_92 : decode cX4_readText 92 = .ok (.getfield 41, 3) := by decide +kernel
theorem dX4_readText_95 : decode cX4_readText 95 = .ok (.iconst 1, 1) := by decide +kernel
theorem dX4_readText_96 : decode cX4_readText 96 = .ok (.iadd, 1) := by decide +kernel
theorem dX4_readText_97 : decode cX4_readText 97 = .ok (.putfield 41, 3) := by decide +kernel
theorem dX4_readText_100 : decode cX4_readText 100 = .ok (.aload_n 0, 1) := by decide +kernel
theorem dX4_readText_101 : decode cX4_readText 101 = .ok (.dup, 1) := by decide +kernel
theorem dX4_readText_102 : decode cX4_readText 102 = .ok (.getfield 47, 3) := by decide +kernel
theorem dX4_readText_105 : decode cX4_readText 105 = .ok (.iconst 1, 1) := by decide +kernel
theorem dX4_readText_106 : decode cX4_readText 106 = .ok (.iadd, 1) := by decide +kernel
theorem dX4_readText_107 : decode cX4_readText 107 = .ok (.putfield 47, 3) := by decide +kernel
theorem dX4_readText_110 : decode cX4_readText 110 = .ok (.goto (-56), 3) := by decide +kernel
theorem dX4_readText_113 : decode cX4_readText 113 = .ok (.aload_n 0, 1) := by decide +kernel
theorem dX4_readText_114 : decode cX4_readText 114 = .ok (.getfield 26, 3) := by decide +kernel
theorem dX4_readText_117 : decode cX4_readText 117 = .ok (.ifCond .ne 37, 3) := by decide +kernel
theorem dX4_readText_120 : decode cX4_readText 120 = .ok (.aload_n 0, 1) := by decide +kernel
theorem dX4_readText_121 : decode cX4_readText 121 = .ok (.getfield 12, 3) := by decide +kernel
theorem dX4_readText_124 : decode cX4_readText 124 = .ok (.getfield 53, 3) := by decide +kernel
theorem dX4_readText_127 : decode cX4_readText 127 = .ok (.aload_n 0, 1) := by decide +kernel
theorem dX4_readText_128 : decode cX4_readText 128 = .ok (.getfield 12, 3) := by decide +kernel
theorem dX4_readText_131 : decode cX4_readText 131 = .ok (.getfield 56, 3) := by decide +kernel
theorem dX4_readText_134 : decode cX4_readText 134 = .ok (.aload_n 0, 1) := by decide +kernel
theorem dX4_readText_135 : decode cX4_readText 135 = .ok (.getfield 12, 3) := by decide +kernel
theorem dX4_readText_138 : decode cX4_readText 138 = .ok (.getfield 59, 3) := by decide +kernel
theorem dX4_readText_141 : decode cX4_readText 141 = .ok (.imul, 1) := by decide +kernel
theorem dX4_readText_142 : decode cX4_readText 142 = .ok (.if_icmp .ge 12, 3) := by decide +kernel
theorem dX4_readText_145 : decode cX4_readText 145 = .ok (.aload_n 0, 1) := by decide +kernel
theorem dX4_readText_146 : decode cX4_readText 146 = .ok (.iconst 4, 1) := by decide +kernel
theorem dX4_readText_147 : decode cX4_readText 147 = .ok (.aload_n 0, 1) := by decide +kernel
theorem dX4_readText_148 : decode cX4_readText 148 = .ok (.getfield 38, 3) := by decide +kernel
theorem dX4_readText_151 : decode cX4_readText 151 = .ok (.invokevirtual 62, 3) := by decide +kernel
theorem dX4_readText_154 : decode cX4_readText 154 = .ok (.aload_n 0, 1) := by decide +kernel
theorem dX4_readText_155 : decode cX4_readText 155 = .ok (.getfield 26, 3) := by decide +kernel
theorem dX4_readText_158 : decode cX4_readText 158 = .ok (.ifCond .ne 22, 3) := by decide +kernel
theorem dX4_readText_161 : decode cX4_readText 161 = .ok (.aload_n 0, 1) := by decide +kernel
theorem dX4_readText_162 : decode cX4_readText 162 = .ok (.getfield 44, 3) := by decide +kernel
theorem dX4_readText_165 : decode cX4_readText 165 = .ok (.iconst (-1), 1) := by decide +kernel
theorem dX4_readText_166 : decode cX4_readText 166 = .ok (.if_icmp .eq 14, 3) := by decide +kernel
theorem dX4_readText_169 : decode cX4_readText 169 = .ok (.aload_n 0, 1) := by decide +kernel
theorem dX4_readText_170 : decode cX4_readText 170 = .ok (.getfield 12, 3) := by decide +kernel
theorem dX4_readText_173 : decode cX4_readText 173 = .ok (.aload_n 0, 1) := by decide +kernel
theorem dX4_readText_174 : decode cX4_readText 174 = .ok (.getfield 44, 3) := by decide +kernel
theorem dX4_readText_177 : decode cX4_readText 177 = .ok (.invokevirtual 66, 3) := by decide +kernel
theorem dX4_readText_180 : decode cX4_readText 180 = .ok (.return_, 1) := by decide +kernel
theorem dX4_readStatement_0 : decode cX4_readStatement 0 = .ok (.aload_n 0, 1) := by decide +kernel
theorem dX4_readStatement_1 : decode cX4_readStatement 1 = .ok (.invokevirtual 70, 3) := by decide +kernel
theorem dX4_readStatement_4 : decode cX4_readStatement 4 = .ok (.aload_n 0, 1) := by decide +kernel
theorem dX4_readStatement_5 : decode cX4_readStatement 5 = .ok (.getfield 41, 3) := by decide +kernel
theorem dX4_readStatement_8 : decode cX4_readStatement 8 = .ok (.istore_n 1, 1) := by decide +kernel
theorem dX4_readStatement_9 : decode cX4_readStatement 9 = .ok (.aload_n 0, 1) := by decide +kernel
theorem dX4_readStatement_10 : decode cX4_readStatement 10 = .ok (.invokevirtual 73, 3) := by decide +kernel
theorem dX4_readStatement_13 : decode cX4_readStatement 13 = .ok (.aload_n 0, 1) := by decide +kernel
theorem dX4_readStatement_14 : decode cX4_readStatement 14 = .ok (.ldc 76, 2) := by decide +kernel
theorem dX4_readStatement_16 : decode cX4_readStatement 16 = .ok (.iload_n 1, 1) := by decide +kernel
theorem dX4_readStatement_17 : decode cX4_readStatement 17 = .ok (.invokevirtual 78, 3) := by decide +kernel
theorem dX4_readStatement_20 : decode cX4_readStatement 20 = .ok (.ifCond .eq 17, 3) := by decide +kernel
theorem dX4_readStatement_23 : decode cX4_readStatement 23 = .ok (.aload_n 0, 1) := by decide +kernel
theorem dX4_readStatement_24 : decode cX4_readStatement 24 = .ok (.getfield 47, 3) := by decide +kernel
theorem dX4_readStatement_27 : decode cX4_readStatement 27 = .ok (.ifCond .ne 10, 3) := by decide +kernel
theorem dX4_readStatement_30 : decode cX4_readStatement 30 = .ok (.aload_n 0, 1) := by decide +kernel
theorem dX4_readStatement_31 : decode cX4_readStatement 31 = .ok (.invokevirtual 82, 3) := by decide +kernel
theorem dX4_readStatement_34 : decode cX4_readStatement 34 = .ok (.goto 163, 3) := by decide +kernel
theorem dX4_readStatement_37 : decode cX4_readStatement 37 = .ok (.aload_n 0, 1) := by decide +kernel
theorem dX4_readStatement_38 : decode cX4_readStatement 38 = .ok (.getfield 47, 3) := by decide +kernel
theorem dX4_readStatement_41 : decode cX4_readStatement 41 = .ok (.ifCond .ne 12, 3) := by decide +kernel
theorem dX4_readStatement_44 : decode cX4_readStatement 44 = .ok (.aload_n 0, 1) := by decide +kernel
theorem dX4_readStatement_45 : decode cX4_readStatement 45 = .ok (.iconst 1, 1) := by decide +kernel
theorem dX4_readStatement_46 : decode cX4_readStatement 46 = .ok (.iload_n 1, 1) := by decide +kernel
theorem dX4_readStatement_47 : decode cX4_readStatement 47 = .ok (.invokevirtual 62, 3) := by decide +kernel
theorem dX4_readStatement_50 : decode cX4_readStatement 50 = .ok (.goto 147, 3) := by decide +kernel
theorem dX4_readStatement_53 : decode cX4_readStatement 53 = .ok (.aload_n 0, 1) := by decide +kernel
theorem dX4_readStatement_54 : decode cX4_readStatement 54 = .ok (.ldc 85, 2) := by decide +kernel
theorem dX4_readStatement_56 : decode cX4_readStatement 56 = .ok (.iload_n 1, 1) := by decide +kernel
theorem dX4_readStatement_57 : decode cX4_readStatement 57 = .ok (.invokevirtual 78, 3) := by decide +kernel
theorem dX4_readStatement_60 : decode cX4_readStatement 60 = .ok (.ifCond .eq 10, 3) := by decide +kernel
theorem dX4_readStatement_63 : decode cX4_readStatement 63 = .ok (.aload_n 0, 1) := by decide +kernel
theorem dX4_readStatement_64 : decode cX4_readStatement 64 = .ok (.invokevirtual 87, 3) := by decide +kernel
theorem dX4_readStatement_67 : decode cX4_readStatement 67 = .ok (.goto 130, 3) := by decide +kernel
theorem dX4_readStatement_70 : decode cX4_readStatement 70 = .ok (.aload_n 0, 1) := by decide +kernel
theorem dX4_readStatement_71 : decode cX4_readStatement 71 = .ok (.ldc 90, 2) := by decide +kernel
theorem dX4_readStatement_73 : decode cX4_readStatement 73 = .ok (.iload_n 1, 1) := by decide +kernel
theorem dX4_readStatement_74 : decode cX4_readStatement 74 = .ok (.invokevirtual 78, 3) := by decide +kernel
theorem dX4_readStatement_77 : decode cX4_readStatement 77 = .ok (.ifCond .eq 10, 3) := by decide +kernel
theorem dX4_readStatement_80 : decode cX4_readStatement 80 = .ok (.aload_n 0, 1) := by decide +kernel
theorem dX4_readStatement_81 : decode cX4_readStatement 81 = .ok (.invokevirtual 92, 3) := by decide +kernel
theorem dX4_readStatement_84 : decode cX4_readStatement 84 = .ok (.goto 113, 3) := by decide +kernel
theorem dX4_readStatement_87 : decode cX4_readStatement 87 = .ok (.aload_n 0, 1) := by decide +kernel
theorem dX4_readStatement_88 : decode cX4_readStatement 88 = .ok (.ldc 95, 2) := by decide +kernel
theorem dX4_readStatement_90 : decode cX4_readStatement 90 = .ok (.iload_n 1, 1) := by decide +kernel
theorem dX4_readStatement_91 : decode cX4_readStatement 91 = .ok (.invokevirtual 78, 3) := by decide +kernel
theorem dX4_readStatement_94 : decode cX4_readStatement 94 = .ok (.ifCond .eq 19, 3) := by decide +kernel
theorem dX4_readStatement_97 : decode cX4_readStatement 97 = .ok (.aload_n 0, 1) := by decide +kernel
theorem dX4_readStatement_98 : decode cX4_readStatement 98 = .ok (.getfield 12, 3) := by decide +kernel
theorem dX4_readStatement_101 : decode cX4_readStatement 101 = .ok (.aload_n 0, 1) := by decide +kernel
theorem dX4_readStatement_102 : decode cX4_readStatement 102 = .ok (.iconst 1, 1) := by decide +kernel
theorem dX4_readStatement_103 : decode cX4_readStatement 103 = .ok (.iconst 5, 1) := by decide +kernel
theorem dX4_readStatement_104 : decode cX4_readStatement 104 = .ok (.invokevirtual 97, 3) := by decide +kernel
theorem dX4_readStatement_107 : decode cX4_readStatement 107 = .ok (.putfield 100, 3) := by decide +kernel
theorem dX4_readStatement_110 : decode cX4_readStatement 110 = .ok (.goto 87, 3) := by decide +kernel
theorem dX4_readStatement_113 : decode cX4_readStatement 113 = .ok (.aload_n 0, 1) := by decide +kernel
theorem dX4_readStatement_114 : decode cX4_readStatement 114 = .ok (.ldc 103, 2) := by decide +kernel
theorem dX4_readStatement_116 : decode cX4_readStatement 116 = .ok (.iload_n 1, 1) := by decide +kernel
theorem dX4_readStatement_117 : decode cX4_readStatement 117 = .ok (.invokevirtual 78, 3) := by decide +kernel
theorem dX4_readStatement_120 : decode cX4_readStatement 120 = .ok (.ifCond .eq 21, 3) := by decide +kernel
theorem dX4_readStatement_123 : decode cX4_readStatement 123 = .ok (.aload_n 0, 1) := by decide +kernel
theorem dX4_readStatement_124 : decode cX4_readStatement 124 = .ok (.iconst 0, 1) := by decide +kernel
theorem dX4_readStatement_125 : decode cX4_readStatement 125 = .ok (.iconst 0, 1) := by decide +kernel
theorem dX4_readStatement_126 : decode cX4_readStatement 126 = .ok (.aload_n 0, 1) := by decide +kernel
theorem dX4_readStatement_127 : decode cX4_readStatement 127 = .ok (.getfield 12, 3) := by decide +kernel
theorem dX4_readStatement_130 : decode cX4_readStatement 130 = .ok (.getfield 105, 3) := by decide +kernel
theorem dX4_readStatement_133 : decode cX4_readStatement 133 = .ok (.iconst 1, 1) := by decide +kernel
theorem dX4_readStatement_134 : decode cX4_readStatement 134 = .ok (.isub, 1) := by decide +kernel
theorem dX4_readStatement_135 : decode cX4_readStatement 135 = .ok (.invokevirtual 108, 3) := by decide +kernel
theorem dX4_readStatement_138 : decode cX4_readStatement 138 = .ok (.goto 59, 3) := by decide +kernel
theorem dX4_readStatement_141 : decode cX4_readStatement 141 = .ok (.aload_n 0, 1) := by decide +kernel
theorem dX4_readStatement_142 : decode cX4_readStatement 142 = .ok (.ldc 112, 2) := by decide +kernel
theorem dX4_readStatement_144 : decode cX4_readStatement 144 = .ok (.iload_n 1, 1) := by decide +kernel
theorem dX4_readStatement_145 : decode cX4_readStatement 145 = .ok (.invokevirtual 78, 3) := by decide +kernel
theorem dX4_readStatement_148 : decode cX4_readStatement 148 = .ok (.ifCond .eq 19, 3) := by decide +kernel
theorem dX4_readStatement_151 : decode cX4_readStatement 151 = .ok (.aload_n 0, 1) := by decide +kernel
theorem dX4_readStatement_152 : decode cX4_readStatement 152 = .ok (.iconst 1, 1) := by decide +kernel
theorem dX4_readStatement_153 : decode cX4_readStatement 153 = .ok (.iconst 1, 1) := by decide +kernel
theorem dX4_readStatement_154 : decode cX4_readStatement 154 = .ok (.aload_n 0, 1) := by decide +kernel
theorem dX4_readStatement_155 : decode cX4_readStatement 155 = .ok (.getfield 12, 3) := by decide +kernel
theorem dX4_readStatement_158 : decode cX4_readStatement 158 = .ok (.getfield 114, 3) := by decide +kernel
theorem dX4_readStatement_161 : decode cX4_readStatement 161 = .ok (.invokevirtual 108, 3) := by decide +kernel
theorem dX4_readStatement_164 : decode cX4_readStatement 164 = .ok (.goto 33, 3) := by decide +kernel
theorem dX4_readStatement_167 : decode cX4_readStatement 167 = .ok (.aload_n 0, 1) := by decide +kernel
theorem dX4_readStatement_168 : decode cX4_readStatement 168 = .ok (.ldc 117, 2) := by decide +kernel
theorem dX4_readStatement_170 : decode cX4_readStatement 170 = .ok (.iload_n 1, 1) := by decide +kernel
theorem dX4_readStatement_171 : decode cX4_readStatement 171 = .ok (.invokevirtual 78, 3) := by decide +kernel
theorem dX4_readStatement_174 : decode cX4_readStatement 174 = .ok (.ifCond .eq 17, 3) := by decide +kernel
theorem dX4_readStatement_177 : decode cX4_readStatement 177 = .ok (.aload_n 0, 1) := by decide +kernel
theorem dX4_readStatement_178 : decode cX4_readStatement 178 = .ok (.aload_n 0, 1) := by decide +kernel
theorem dX4_readStatement_179 : decode cX4_readStatement 179 = .ok (.iconst 0, 1) := by decide +kernel
theorem dX4_readStatement_180 : decode cX4_readStatement 180 = .ok (.ldc 119, 2) := by decide +kernel
theorem dX4_readStatement_182 : decode cX4_readStatement 182 = .ok (.invokevirtual 97, 3) := by decide +kernel
theorem dX4_readStatement_185 : decode cX4_readStatement 185 = .ok (.putfield 44, 3) := by decide +kernel
theorem dX4_readStatement_188 : decode cX4_readStatement 188 = .ok (.goto 9, 3) := by decide +kernel
theorem dX4_readStatement_191 : decode cX4_readStatement 191 = .ok (.aload_n 0, 1) := by decide +kernel
theorem dX4_readStatement_192 : decode cX4_readStatement 192 = .ok (.iconst 1, 1) := by decide +kernel
theorem dX4_readStatement_193 : decode cX4_readStatement 193 = .ok (.iload_n 1, 1) := by decide +kernel
theorem dX4_readStatement_194 : decode cX4_readStatement 194 = .ok (.invokevirtual 62, 3) := by decide +kernel
theorem dX4_readStatement_197 : decode cX4_readStatement 197 = .ok (.aload_n 0, 1) := by decide +kernel
theorem dX4_readStatement_198 : decode cX4_readStatement 198 = .ok (.invokevirtual 70, 3) := by decide +kernel
theorem dX4_readStatement_201 : decode cX4_readStatement 201 = .ok (.aload_n 0, 1) := by decide +kernel
theorem dX4_readStatement_202 : decode cX4_readStatement 202 = .ok (.getfield 26, 3) := by decide +kernel
theorem dX4_readStatement_205 : decode cX4_readStatement 205 = .ok (.ifCond .ne 36, 3) := by decide +kernel
theorem dX4_readStatement_208 : decode cX4_readStatement 208 = .ok (.aload_n 0, 1) := by decide +kernel
theorem dX4_readStatement_209 : decode cX4_readStatement 209 = .ok (.getfield 41, 3) := by decide +kernel
theorem dX4_readStatement_212 : decode cX4_readStatement 212 = .ok (.aload_n 0, 1) := by decide +kernel
theorem dX4_readStatement_213 : decode cX4_readStatement 213 = .ok (.getfield 38, 3) := by decide +kernel
theorem dX4_readStatement_216 : decode cX4_readStatement 216 = .ok (.if_icmp .ge 25, 3) := by decide +kernel
theorem dX4_readStatement_219 : decode cX4_readStatement 219 = .ok (.aload_n 0, 1) := by decide +kernel
theorem dX4_readStatement_220 : decode cX4_readStatement 220 = .ok (.aload_n 0, 1) := by decide +kernel
theorem dX4_readStatement_221 : decode cX4_readStatement 221 = .ok (.getfield 41, 3) := by decide +kernel
theorem dX4_readStatement_224 : decode cX4_readStatement 224 = .ok (.invokevirtual 120, 3) := by decide +kernel
theorem dX4_readStatement_227 : decode cX4_readStatement 227 = .ok (.bipush 59, 2) := by decide +kernel
theorem dX4_readStatement_229 : decode cX4_readStatement 229 = .ok (.if_icmp .eq 12, 3) := by decide +kernel
theorem dX4_readStatement_232 : decode cX4_readStatement 232 = .ok (.aload_n 0, 1) := by decide +kernel
theorem dX4_readStatement_233 : decode cX4_readStatement 233 = .ok (.iconst 1, 1) := by decide +kernel
theorem dX4_readStatement_234 : decode cX4_readStatement 234 = .ok (.aload_n 0, 1) := by decide +kernel
theorem dX4_readStatement_235 : decode cX4_readStatement 235 = .ok (.getfield 41, 3) := by decide +kernel
theorem dX4_readStatement_238 : decode cX4_readStatement 238 = .ok (.invokevirtual 62, 3) := by decide +kernel
theorem dX4_readStatement_241 : decode cX4_readStatement 241 = .ok (.return_, 1) := by decide +kernel
theorem dX4_readGame_0 : decode cX4_readGame 0 = .ok (.aload_n 0, 1) := by decide +kernel
theorem dX4_readGame_1 : decode cX4_readGame 1 = .ok (.getfield 12, 3) := by decide +kernel
theorem dX4_readGame_4 : decode cX4_readGame 4 = .ok (.aload_n 0, 1) := by decide +kernel
theorem dX4_readGame_5 : decode cX4_readGame 5 = .ok (.iconst 1, 1) := by decide +kernel
theorem dX4_readGame_6 : decode cX4_readGame 6 = .ok (.iconst 4, 1) := by decide +kernel
theorem dX4_readGame_7 : decode cX4_readGame 7 = .ok (.invokevirtual 97, 3) := by decide +kernel
theorem dX4_readGame_10 : decode cX4_readGame 10 = .ok (.putfield 105, 3) := by decide +kernel
theorem dX4_readGame_13 : decode cX4_readGame 13 = .ok (.aload_n 0, 1) := by decide +kernel
theorem dX4_readGame_14 : decode cX4_readGame 14 = .ok (.getfield 12, 3) := by decide +kernel
theorem dX4_readGame_17 : decode cX4_readGame 17 = .ok (.aload_n 0, 1) := by decide +kernel
theorem dX4_readGame_18 : decode cX4_readGame 18 = .ok (.iconst 1, 1) := by decide +kernel
theorem dX4_readGame_19 : decode cX4_readGame 19 = .ok (.iconst 5, 1) := by decide +kernel
theorem dX4_readGame_20 : decode cX4_readGame 20 = .ok (.invokevirtual 97, 3) := by decide +kernel
theorem dX4_readGame_23 : decode cX4_readGame 23 = .ok (.putfield 114, 3) := by decide +kernel
theorem dX4_readGame_26 : decode cX4_readGame 26 = .ok (.aload_n 0, 1) := by decide +kernel
theorem dX4_readGame_27 : decode cX4_readGame 27 = .ok (.getfield 12, 3) := by decide +kernel
theorem dX4_readGame_30 : decode cX4_readGame 30 = .ok (.aload_n 0, 1) := by decide +kernel
theorem dX4_readGame_31 : decode cX4_readGame 31 = .ok (.iconst 2, 1) := by decide +kernel
theorem dX4_readGame_32 : decode cX4_readGame 32 = .ok (.iconst 4, 1) := by decide +kernel
theorem dX4_readGame_33 : decode cX4_readGame 33 = .ok (.invokevirtual 97, 3) := by decide +kernel
theorem dX4_readGame_36 : decode cX4_readGame 36 = .ok (.putfield 56, 3) := by decide +kernel
theorem dX4_readGame_39 : decode cX4_readGame 39 = .ok (.aload_n 0, 1) := by decide +kernel
theorem dX4_readGame_40 : decode cX4_readGame 40 = .ok (.getfield 12, 3) := by decide +kernel
theorem dX4_readGame_43 : decode cX4_readGame 43 = .ok (.aload_n 0, 1) := by decide +kernel
theorem dX4_readGame_44 : decode cX4_readGame 44 = .ok (.iconst 1, 1) := by decide +kernel
theorem dX4_readGame_45 : decode cX4_readGame 45 = .ok (.iconst 5, 1) := by decide +kernel
theorem dX4_readGame_46 : decode cX4_readGame 46 = .ok (.invokevirtual 97, 3) := by decide +kernel
theorem dX4_readGame_49 : decode cX4_readGame 49 = .ok (.putfield 59, 3) := by decide +kernel
theorem dX4_readGame_52 : decode cX4_readGame 52 = .ok (.return_, 1) := by decide +kernel
theorem dX4_readTokens_0 : decode cX4_readTokens 0 = .ok (.aload_n 0, 1) := by decide +kernel
theorem dX4_readTokens_1 : decode cX4_readTokens 1 = .ok (.getfield 12, 3) := by decide +kernel
theorem dX4_readTokens_4 : decode cX4_readTokens 4 = .ok (.aload_n 0, 1) := by decide +kernel
theorem dX4_readTokens_5 : decode cX4_readTokens 5 = .ok (.iconst 1, 1) := by decide +kernel
theorem dX4_readTokens_6 : decode cX4_readTokens 6 = .ok (.bipush 9, 2) := by decide +kernel
theorem dX4_readTokens_8 : decode cX4_readTokens 8 = .ok (.invokevirtual 97, 3) := by decide +kernel
theorem dX4_readTokens_11 : decode cX4_readTokens 11 = .ok (.putfield 124, 3) := by decide +kernel
theorem dX4_readTokens_14 : decode cX4_readTokens 14 = .ok (.aload_n 0, 1) := by decide +kernel
theorem dX4_readTokens_15 : decode cX4_readTokens 15 = .ok (.getfield 12, 3) := by decide +kernel
theorem dX4_readTokens_18 : decode cX4_readTokens 18 = .ok (.aload_n 0, 1) := by decide +kernel
theorem dX4_readTokens_19 : decode cX4_readTokens 19 = .ok (.iconst 0, 1) := by decide +kernel
theorem dX4_readTokens_20 : decode cX4_readTokens 20 = .ok (.aload_n 0, 1) := by decide +kernel
theorem dX4_readTokens_21 : decode cX4_readTokens 21 = .ok (.getfield 12, 3) := by decide +kernel
theorem dX4_readTokens_24 : decode cX4_readTokens 24 = .ok (.getfield 124, 3) := by decide +kernel
theorem dX4_readTokens_27 : decode cX4_readTokens 27 = .ok (.invokevirtual 97, 3) := by decide +kernel
theorem dX4_readTokens_30 : decode cX4_readTokens 30 = .ok (.putfield 127, 3) := by decide +kernel
theorem dX4_readTokens_33 : decode cX4_readTokens 33 = .ok (.return_, 1) := by decide +kernel
theorem dX4_readTimes_0 : decode cX4_readTimes 0 = .ok (.aload_n 0, 1) := by decide +kernel
theorem dX4_readTimes_1 : decode cX4_readTimes 1 = .ok (.iload_n 2, 1) := by decide +kernel
theorem dX4_readTimes_2 : decode cX4_readTimes 2 = .ok (.iload_n 3, 1) := by decide +kernel
theorem dX4_readTimes_3 : decode cX4_readTimes 3 = .ok (.invokevirtual 97, 3) := by decide +kernel
theorem dX4_readTimes_6 : decode cX4_readTimes 6 = .ok (.istore 4, 2) := by decide +kernel
theorem dX4_readTimes_8 : decode cX4_readTimes 8 = .ok (.aload_n 0, 1) := by decide +kernel
theorem dX4_readTimes_9 : decode cX4_readTimes 9 = .ok (.iconst 0, 1) := by decide +kernel
theorem dX4_readTimes_10 : decode cX4_readTimes 10 = .ok (.bipush 99, 2) := by decide +kernel
theorem dX4_readTimes_12 : decode cX4_readTimes 12 = .ok (.invokevirtual 97, 3) := by decide +kernel
theorem dX4_readTimes_15 : decode cX4_readTimes 15 = .ok (.istore 5, 2) := by decide +kernel
theorem dX4_readTimes_17 : decode cX4_readTimes 17 = .ok (.iload_n 1, 1) := by decide +kernel
theorem dX4_readTimes_18 : decode cX4_readTimes 18 = .ok (.iload 4, 2) := by decide +kernel
theorem dX4_readTimes_20 : decode cX4_readTimes 20 = .ok (.invokestatic 130, 3) := by decide +kernel
theorem dX4_readTimes_23 : decode cX4_readTimes 23 = .ok (.istore 6, 2) := by decide +kernel
theorem dX4_readTimes_25 : decode cX4_readTimes 25 = .ok (.aload_n 0, 1) := by decide +kernel
theorem dX4_readTimes_26 : decode cX4_readTimes 26 = .ok (.getfield 26, 3) := by decide +kernel
theorem dX4_readTimes_29 : decode cX4_readTimes 29 = .ok (.ifCond .ne 21, 3) := by decide +kernel
theorem dX4_readTimes_32 : decode cX4_readTimes 32 = .ok (.iload 6, 2) := by decide +kernel
theorem dX4_readTimes_34 : decode cX4_readTimes 34 = .ok (.iconst (-1), 1) := by decide +kernel
theorem dX4_readTimes_35 : decode cX4_readTimes 35 = .ok (.if_icmp .eq 15, 3) := by decide +kernel
theorem dX4_readTimes_38 : decode cX4_readTimes 38 = .ok (.aload_n 0, 1) := by decide +kernel
theorem dX4_readTimes_39 : decode cX4_readTimes 39 = .ok (.getfield 12, 3) := by decide +kernel
theorem dX4_readTimes_42 : decode cX4_readTimes 42 = .ok (.getfield 133, 3) := by decide +kernel
theorem dX4_readTimes_45 : decode cX4_readTimes 45 = .ok (.iload 6, 2) := by decide +kernel
theorem dX4_readTimes_47 : decode cX4_readTimes 47 = .ok (.iload 5, 2) := by decide +kernel
theorem dX4_readTimes_49 : decode cX4_readTimes 49 = .ok (.iastore, 1) := by decide +kernel
theorem dX4_readTimes_50 : decode cX4_readTimes 50 = .ok (.return_, 1) := by decide +kernel
theorem dX4_readDeck_0 : decode cX4_readDeck 0 = .ok (.aload_n 0, 1) := by decide +kernel
theorem dX4_readDeck_1 : decode cX4_readDeck 1 = .ok (.invokevirtual 70, 3) := by decide +kernel
theorem dX4_readDeck_4 : decode cX4_readDeck 4 = .ok (.aload_n 0, 1) := by decide +kernel
theorem dX4_readDeck_5 : decode cX4_readDeck 5 = .ok (.invokevirtual 136, 3) := by decide +kernel
theorem dX4_readDeck_8 : decode cX4_readDeck 8 = .ok (.aload_n 0, 1) := by decide +kernel
theorem dX4_readDeck_9 : decode cX4_readDeck 9 = .ok (.invokevirtual 70, 3) := by decide +kernel
theorem dX4_readDeck_12 : decode cX4_readDeck 12 = .ok (.iconst 0, 1) := by decide +kernel
theorem dX4_readDeck_13 : decode cX4_readDeck 13 = .ok (.istore_n 1, 1) := by decide +kernel
theorem dX4_readDeck_14 : decode cX4_readDeck 14 = .ok (.iload_n 1, 1) := by decide +kernel
theorem dX4_readDeck_15 : decode cX4_readDeck 15 = .ok (.aload_n 0, 1) := by decide +kernel
theorem dX4_readDeck_16 : decode cX4_readDeck 16 = .ok (.getfield 38, 3) := by decide +kernel
theorem dX4_readDeck_19 : decode cX4_readDeck 19 = .ok (.if_icmp .ge 38, 3) := by decide +kernel
theorem dX4_readDeck_22 : decode cX4_readDeck 22 = .ok (.aload_n 0, 1) := by decide +kernel
theorem dX4_readDeck_23 : decode cX4_readDeck 23 = .ok (.getfield 26, 3) := by decide +kernel
theorem dX4_readDeck_26 : decode cX4_readDeck 26 = .ok (.ifCond .ne 31, 3) := by decide +kernel
theorem dX4_readDeck_29 : decode cX4_readDeck 29 = .ok (.aload_n 0, 1) := by decide +kernel
theorem dX4_readDeck_30 : decode cX4_readDeck 30 = .ok (.aload_n 0, 1) := by decide +kernel
theorem dX4_readDeck_31 : decode cX4_readDeck 31 = .ok (.getfield 41, 3) := by decide +kernel
theorem dX4_readDeck_34 : decode cX4_readDeck 34 = .ok (.invokevirtual 120, 3) := by decide +kernel
theorem dX4_readDeck_37 : decode cX4_readDeck 37 = .ok (.invokestatic 139, 3) := by decide +kernel
theorem dX4_readDeck_40 : decode cX4_readDeck 40 = .ok (.ifCond .eq 17, 3) := by decide +kernel
theorem dX4_readDeck_43 : decode cX4_readDeck 43 = .ok (.aload_n 0, 1) := by decide +kernel
theorem dX4_readDeck_44 : decode cX4_readDeck 44 = .ok (.invokevirtual 136, 3) := by decide +kernel
theorem dX4_readDeck_47 : decode cX4_readDeck 47 = .ok (.aload_n 0, 1) := by decide +kernel
theorem dX4_readDeck_48 : decode cX4_readDeck 48 = .ok (.invokevirtual 70, 3) := by decide +kernel
theorem dX4_readDeck_51 : decode cX4_readDeck 51 = .ok (.iinc 1 1, 3) := by decide +kernel
theorem dX4_readDeck_54 : decode cX4_readDeck 54 = .ok (.goto (-40), 3) := by decide +kernel
theorem dX4_readDeck_57 : decode cX4_readDeck 57 = .ok (.return_, 1) := by decide +kernel
theorem dX4_readCard_0 : decode cX4_readCard 0 = .ok (.aload_n 0, 1) := by decide +kernel
theorem dX4_readCard_1 : decode cX4_readCard 1 = .ok (.getfield 41, 3) := by decide +kernel
theorem dX4_readCard_4 : decode cX4_readCard 4 = .ok (.istore_n 1, 1) := by decide +kernel
theorem dX4_readCard_5 : decode cX4_readCard 5 = .ok (.aload_n 0, 1) := by decide +kernel
theorem dX4_readCard_6 : decode cX4_readCard 6 = .ok (.iload_n 1, 1) := by decide +kernel
theorem dX4_readCard_7 : decode cX4_readCard 7 = .ok (.invokevirtual 120, 3) := by decide +kernel
theorem dX4_readCard_10 : decode cX4_readCard 10 = .ok (.invokestatic 139, 3) := by decide +kernel
theorem dX4_readCard_13 : decode cX4_readCard 13 = .ok (.ifCond .eq 16, 3) := by decide +kernel
theorem dX4_readCard_16 : decode cX4_readCard 16 = .ok (.aload_n 0, 1) := by decide +kernel
theorem dX4_readCard_17 : decode cX4_readCard 17 = .ok (.iload_n 1, 1) := by decide +kernel
theorem dX4_readCard_18 : decode cX4_readCard 18 = .ok (.iconst 1, 1) := by decide +kernel
theorem dX4_readCard_19 : decode cX4_readCard 19 = .ok (.iadd, 1) := by decide +kernel
theorem dX4_readCard_20 : decode cX4_readCard 20 = .ok (.invokevirtual 120, 3) := by decide +kernel
theorem dX4_readCard_23 : decode cX4_readCard 23 = .ok (.invokestatic 143, 3) := by decide +kernel
theorem dX4_readCard_26 : decode cX4_readCard 26 = .ok (.ifCond .ne 10, 3) := by decide +kernel
theorem dX4_readCard_29 : decode cX4_readCard 29 = .ok (.aload_n 0, 1) := by decide +kernel
theorem dX4_readCard_30 : decode cX4_readCard 30 = .ok (.iconst 1, 1) := by decide +kernel
theorem dX4_readCard_31 : decode cX4_readCard 31 = .ok (.iload_n 1, 1) := by decide +kernel
theorem dX4_readCard_32 : decode cX4_readCard 32 = .ok (.invokevirtual 62, 3) := by decide +kernel
theorem dX4_readCard_35 : decode cX4_readCard 35 = .ok (.return_, 1) := by decide +kernel
theorem dX4_readCard_36 : decode cX4_readCard 36 = .ok (.aload_n 0, 1) := by decide +kernel
theorem dX4_readCard_37 : decode cX4_readCard 37 = .ok (.iload_n 1, 1) := by decide +kernel
theorem dX4_readCard_38 : decode cX4_readCard 38 = .ok (.invokevirtual 120, 3) := by decide +kernel
theorem dX4_readCard_41 : decode cX4_readCard 41 = .ok (.bipush 97, 2) := by decide +kernel
theorem dX4_readCard_43 : decode cX4_readCard 43 = .ok (.isub, 1) := by decide +kernel
theorem dX4_readCard_44 : decode cX4_readCard 44 = .ok (.istore_n 2, 1) := by decide +kernel
theorem dX4_readCard_45 : decode cX4_readCard 45 = .ok (.aload_n 0, 1) := by decide +kernel
theorem dX4_readCard_46 : decode cX4_readCard 46 = .ok (.iload_n 1, 1) := by decide +kernel
theorem dX4_readCard_47 : decode cX4_readCard 47 = .ok (.iconst 1, 1) := by decide +kernel
theorem dX4_readCard_48 : decode cX4_readCard 48 = .ok (.iadd, 1) := by decide +kernel
theorem dX4_readCard_49 : decode cX4_readCard 49 = .ok (.invokevirtual 120, 3) := by decide +kernel
theorem dX4_readCard_52 : decode cX4_readCard 52 = .ok (.bipush 48, 2) := by decide +kernel
theorem dX4_readCard_54 : decode cX4_readCard 54 = .ok (.isub, 1) := by decide +kernel
theorem dX4_readCard_55 : decode cX4_readCard 55 = .ok (.istore_n 3, 1) := by decide +kernel
theorem dX4_readCard_56 : decode cX4_readCard 56 = .ok (.aload_n 0, 1) := by decide +kernel
theorem dX4_readCard_57 : decode cX4_readCard 57 = .ok (.dup, 1) := by decide +kernel
theorem dX4_readCard_58 : decode cX4_readCard 58 = .ok (.getfield 41, 3) := by decide +kernel
theorem dX4_readCard_61 : decode cX4_readCard 61 = .ok (.iconst 1, 1) := by decide +kernel
theorem dX4_readCard_62 : decode cX4_readCard 62 = .ok (.iadd, 1) := by decide +kernel
theorem dX4_readCard_63 : decode cX4_readCard 63 = .ok (.putfield 41, 3) := by decide +kernel
theorem dX4_readCard_66 : decode cX4_readCard 66 = .ok (.aload_n 0, 1) := by decide +kernel
theorem dX4_readCard_67 : decode cX4_readCard 67 = .ok (.invokevirtual 146, 3) := by decide +kernel
theorem dX4_readCard_70 : decode cX4_readCard 70 = .ok (.aload_n 0, 1) := by decide +kernel
theorem dX4_readCard_71 : decode cX4_readCard 71 = .ok (.getfield 41, 3) := by decide +kernel
theorem dX4_readCard_74 : decode cX4_readCard 74 = .ok (.iload_n 1, 1) := by decide +kernel
theorem dX4_readCard_75 : decode cX4_readCard 75 = .ok (.iconst 2, 1) := by decide +kernel
theorem dX4_readCard_76 : decode cX4_readCard 76 = .ok (.iadd, 1) := by decide +kernel
theorem dX4_readCard_77 : decode cX4_readCard 77 = .ok (.if_icmp .ne 7, 3) := by decide +kernel
theorem dX4_readCard_80 : decode cX4_readCard 80 = .ok (.iconst 1, 1) := by decide +kernel
theorem dX4_readCard_81 : decode cX4_readCard 81 = .ok (.goto 4, 3) := by decide +kernel
theorem dX4_readCard_84 : decode cX4_readCard 84 = .ok (.iconst 0, 1) := by decide +kernel
theorem dX4_readCard_85 : decode cX4_readCard 85 = .ok (.istore 4, 2) := by decide +kernel
theorem dX4_readCard_87 : decode cX4_readCard 87 = .ok (.iload_n 2, 1) := by decide +kernel
theorem dX4_readCard_88 : decode cX4_readCard 88 = .ok (.aload_n 0, 1) := by decide +kernel
theorem dX4_readCard_89 : decode cX4_readCard 89 = .ok (.getfield 12, 3) := by decide +kernel
theorem dX4_readCard_92 : decode cX4_readCard 92 = .ok (.getfield 105, 3) := by decide +kernel
theorem dX4_readCard_95 : decode cX4_readCard 95 = .ok (.if_icmp .ge 24, 3) := by decide +kernel
theorem dX4_readCard_98 : decode cX4_readCard 98 = .ok (.iload 4, 2) := by decide +kernel
theorem dX4_readCard_100 : decode cX4_readCard 100 = .ok (.ifCond .eq 19, 3) := by decide +kernel
theorem dX4_readCard_103 : decode cX4_readCard 103 = .ok (.iload_n 3, 1) := by decide +kernel
theorem dX4_readCard_104 : decode cX4_readCard 104 = .ok (.iconst 1, 1) := by decide +kernel
theorem dX4_readCard_105 : decode cX4_readCard 105 = .ok (.if_icmp .lt 14, 3) := by decide +kernel
theorem dX4_readCard_108 : decode cX4_readCard 108 = .ok (.iload_n 3, 1) := by decide +kernel
theorem dX4_readCard_109 : decode cX4_readCard 109 = .ok (.aload_n 0, 1) := by decide +kernel
theorem dX4_readCard_110 : decode cX4_readCard 110 = .ok (.getfield 12, 3) := by decide +kernel
theorem dX4_readCard_113 : decode cX4_readCard 113 = .ok (.getfield 114, 3) := by decide +kernel
theorem dX4_readCard_116 : decode cX4_readCard 116 = .ok (.if_icmp .le 12, 3) := by decide +kernel
theorem dX4_readCard_119 : decode cX4_readCard 119 = .ok (.aload_n 0, 1) := by decide +kernel
theorem dX4_readCard_120 : decode cX4_readCard 120 = .ok (.iconst 2, 1) := by decide +kernel
theorem dX4_readCard_121 : decode cX4_readCard 121 = .ok (.iload_n 1, 1) := by decide +kernel
theorem dX4_readCard_122 : decode cX4_readCard 122 = .ok (.invokevirtual 62, 3) := by decide +kernel
theorem dX4_readCard_125 : decode cX4_readCard 125 = .ok (.goto 38, 3) := by decide +kernel
theorem dX4_readCard_128 : decode cX4_readCard 128 = .ok (.aload_n 0, 1) := by decide +kernel
theorem dX4_readCard_129 : decode cX4_readCard 129 = .ok (.getfield 12, 3) := by decide +kernel
theorem dX4_readCard_132 : decode cX4_readCard 132 = .ok (.getfield 53, 3) := by decide +kernel
theorem dX4_readCard_135 : decode cX4_readCard 135 = .ok (.bipush 40, 2) := by decide +kernel
theorem dX4_readCard_137 : decode cX4_readCard 137 = .ok (.if_icmp .lt 12, 3) := by decide +kernel
theorem dX4_readCard_140 : decode cX4_readCard 140 = .ok (.aload_n 0, 1) := by decide +kernel
theorem dX4_readCard_141 : decode cX4_readCard 141 = .ok (.iconst 3, 1) := by decide +kernel
theorem dX4_readCard_142 : decode cX4_readCard 142 = .ok (.iload_n 1, 1) := by decide +kernel
theorem dX4_readCard_143 : decode cX4_readCard 143 = .ok (.invokevirtual 62, 3) := by decide +kernel
theorem dX4_readCard_146 : decode cX4_readCard 146 = .ok (.goto 17, 3) := by decide +kernel
theorem dX4_readCard_149 : decode cX4_readCard 149 = .ok (.aload_n 0, 1) := by decide +kernel
theorem dX4_readCard_150 : decode cX4_readCard 150 = .ok (.getfield 12, 3) := by decide +kernel
theorem dX4_readCard_153 : decode cX4_readCard 153 = .ok (.iload_n 2, 1) := by decide +kernel
theorem dX4_readCard_154 : decode cX4_readCard 154 = .ok (.iconst 5, 1) := by decide +kernel
theorem dX4_readCard_155 : decode cX4_readCard 155 = .ok (.imul, 1) := by decide +kernel
theorem dX4_readCard_156 : decode cX4_readCard 156 = .ok (.iload_n 3, 1) := by decide +kernel
theorem dX4_readCard_157 : decode cX4_readCard 157 = .ok (.iadd, 1) := by decide +kernel
theorem dX4_readCard_158 : decode cX4_readCard 158 = .ok (.iconst 1, 1) := by decide +kernel
theorem dX4_readCard_159 : decode cX4_readCard 159 = .ok (.isub, 1) := by decide +kernel
theorem dX4_readCard_160 : decode cX4_readCard 160 = .ok (.invokevirtual 149, 3) := by decide +kernel
theorem dX4_readCard_163 : decode cX4_readCard 163 = .ok (.return_, 1) := by decide +kernel
theorem dX4_readNumber_0 : decode cX4_readNumber 0 = .ok (.aload_n 0, 1) := by decide +kernel
theorem dX4_readNumber_1 : decode cX4_readNumber 1 = .ok (.getfield 26, 3) := by decide +kernel
theorem dX4_readNumber_4 : decode cX4_readNumber 4 = .ok (.ifCond .eq 5, 3) := by decide +kernel
theorem dX4_readNumber_7 : decode cX4_readNumber 7 = .ok (.iload_n 1, 1) := by decide +kernel
theorem dX4_readNumber_8 : decode cX4_readNumber 8 = .ok (.ireturn, 1) := by decide +kernel
theorem dX4_readNumber_9 : decode cX4_readNumber 9 = .ok (.aload_n 0, 1) := by decide +kernel
theorem dX4_readNumber_10 : decode cX4_readNumber 10 = .ok (.invokevirtual 70, 3) := by decide +kernel
theorem dX4_readNumber_13 : decode cX4_readNumber 13 = .ok (.aload_n 0, 1) := by decide +kernel
theorem dX4_readNumber_14 : decode cX4_readNumber 14 = .ok (.getfield 41, 3) := by decide +kernel
theorem dX4_readNumber_17 : decode cX4_readNumber 17 = .ok (.istore_n 3, 1) := by decide +kernel
theorem dX4_readNumber_18 : decode cX4_readNumber 18 = .ok (.aload_n 0, 1) := by decide +kernel
theorem dX4_readNumber_19 : decode cX4_readNumber 19 = .ok (.invokevirtual 146, 3) := by decide +kernel
theorem dX4_readNumber_22 : decode cX4_readNumber 22 = .ok (.aload_n 0, 1) := by decide +kernel
theorem dX4_readNumber_23 : decode cX4_readNumber 23 = .ok (.getfield 41, 3) := by decide +kernel
theorem dX4_readNumber_26 : decode cX4_readNumber 26 = .ok (.iload_n 3, 1) := by decide +kernel
theorem dX4_readNumber_27 : decode cX4_readNumber 27 = .ok (.if_icmp .ne 11, 3) := by decide +kernel
theorem dX4_readNumber_30 : decode cX4_readNumber 30 = .ok (.aload_n 0, 1) := by decide +kernel
theorem dX4_readNumber_31 : decode cX4_readNumber 31 = .ok (.iconst 1, 1) := by decide +kernel
theorem dX4_readNumber_32 : decode cX4_readNumber 32 = .ok (.iload_n 3, 1) := by decide +kernel
theorem dX4_readNumber_33 : decode cX4_readNumber 33 = .ok (.invokevirtual 62, 3) := by decide +kernel
theorem dX4_readNumber_36 : decode cX4_readNumber 36 = .ok (.iload_n 1, 1) := by decide +kernel
theorem dX4_readNumber_37 : decode cX4_readNumber 37 = .ok (.ireturn, 1) := by decide +kernel
theorem dX4_readNumber_38 : decode cX4_readNumber 38 = .ok (.iconst 0, 1) := by decide +kernel
theorem dX4_readNumber_39 : decode cX4_readNumber 39 = .ok (.istore 4, 2) := by decide +kernel
theorem dX4_readNumber_41 : decode cX4_readNumber 41 = .ok (.iload_n 3, 1) := by decide +kernel
theorem dX4_readNumber_42 : decode cX4_readNumber 42 = .ok (.istore 5, 2) := by decide +kernel
theorem dX4_readNumber_44 : decode cX4_readNumber 44 = .ok (.iload 5, 2) := by decide +kernel
theorem dX4_readNumber_46 : decode cX4_readNumber 46 = .ok (.aload_n 0, 1) := by decide +kernel
theorem dX4_readNumber_47 : decode cX4_readNumber 47 = .ok (.getfield 41, 3) := by decide +kernel
theorem dX4_readNumber_50 : decode cX4_readNumber 50 = .ok (.if_icmp .ge 31, 3) := by decide +kernel
theorem dX4_readNumber_53 : decode cX4_readNumber 53 = .ok (.bipush 10, 2) := by decide +kernel
theorem dX4_readNumber_55 : decode cX4_readNumber 55 = .ok (.iload 4, 2) := by decide +kernel
theorem dX4_readNumber_57 : decode cX4_readNumber 57 = .ok (.imul, 1) := by decide +kernel
theorem dX4_readNumber_58 : decode cX4_readNumber 58 = .ok (.aload_n 0, 1) := by decide +kernel
theorem dX4_readNumber_59 : decode cX4_readNumber 59 = .ok (.iload 5, 2) := by decide +kernel
theorem dX4_readNumber_61 : decode cX4_readNumber 61 = .ok (.invokevirtual 120, 3) := by decide +kernel
theorem dX4_readNumber_64 : decode cX4_readNumber 64 = .ok (.iadd, 1) := by decide +kernel
theorem dX4_readNumber_65 : decode cX4_readNumber 65 = .ok (.bipush 48, 2) := by decide +kernel
theorem dX4_readNumber_67 : decode cX4_readNumber 67 = .ok (.isub, 1) := by decide +kernel
theorem dX4_readNumber_68 : decode cX4_readNumber 68 = .ok (.ldc 152, 2) := by decide +kernel
theorem dX4_readNumber_70 : decode cX4_readNumber 70 = .ok (.invokestatic 32, 3) := by decide +kernel
theorem dX4_readNumber_73 : decode cX4_readNumber 73 = .ok (.istore 4, 2) := by decide +kernel
theorem dX4_readNumber_75 : decode cX4_readNumber 75 = .ok (.iinc 5 1, 3) := by decide +kernel
theorem dX4_readNumber_78 : decode cX4_readNumber 78 = .ok (.goto (-34), 3) := by decide +kernel
theorem dX4_readNumber_81 : decode cX4_readNumber 81 = .ok (.iload 4, 2) := by decide +kernel
theorem dX4_readNumber_83 : decode cX4_readNumber 83 = .ok (.iload_n 1, 1) := by decide +kernel
theorem dX4_readNumber_84 : decode cX4_readNumber 84 = .ok (.if_icmp .lt 9, 3) := by decide +kernel
theorem dX4_readNumber_87 : decode cX4_readNumber 87 = .ok (.iload 4, 2) := by decide +kernel
theorem dX4_readNumber_89 : decode cX4_readNumber 89 = .ok (.iload_n 2, 1) := by decide +kernel
theorem dX4_readNumber_90 : decode cX4_readNumber 90 = .ok (.if_icmp .le 11, 3) := by decide +kernel
theorem dX4_readNumber_93 : decode cX4_readNumber 93 = .ok (.aload_n 0, 1) := by decide +kernel
theorem dX4_readNumber_94 : decode cX4_readNumber 94 = .ok (.iconst 2, 1) := by decide +kernel
theorem dX4_readNumber_95 : decode cX4_readNumber 95 = .ok (.iload_n 3, 1) := by decide +kernel
theorem dX4_readNumber_96 : decode cX4_readNumber 96 = .ok (.invokevirtual 62, 3) := by decide +kernel
theorem dX4_readNumber_99 : decode cX4_readNumber 99 = .ok (.iload_n 1, 1) := by decide +kernel
theorem dX4_readNumber_100 : decode cX4_readNumber 100 = .ok (.ireturn, 1) := by decide +kernel
theorem dX4_readNumber_101 : decode cX4_readNumber 101 = .ok (.iload 4, 2) := by decide +kernel
theorem dX4_readNumber_103 : decode cX4_readNumber 103 = .ok (.ireturn, 1) := by decide +kernel
theorem dX4_fail_0 : decode cX4_fail 0 = .ok (.aload_n 0, 1) := by decide +kernel
theorem dX4_fail_1 : decode cX4_fail 1 = .ok (.iload_n 1, 1) := by decide +kernel
theorem dX4_fail_2 : decode cX4_fail 2 = .ok (.putfield 26, 3) := by decide +kernel
theorem dX4_fail_5 : decode cX4_fail 5 = .ok (.aload_n 0, 1) := by decide +kernel
theorem dX4_fail_6 : decode cX4_fail 6 = .ok (.iload_n 2, 1) := by decide +kernel
theorem dX4_fail_7 : decode cX4_fail 7 = .ok (.putfield 29, 3) := by decide +kernel
theorem dX4_fail_10 : decode cX4_fail 10 = .ok (.aload_n 0, 1) := by decide +kernel
theorem dX4_fail_11 : decode cX4_fail 11 = .ok (.aload_n 0, 1) := by decide +kernel
theorem dX4_fail_12 : decode cX4_fail 12 = .ok (.getfield 47, 3) := by decide +kernel
theorem dX4_fail_15 : decode cX4_fail 15 = .ok (.putfield 18, 3) := by decide +kernel
theorem dX4_fail_18 : decode cX4_fail 18 = .ok (.return_, 1) := by decide +kernel
theorem dX4_isWord_0 : decode cX4_isWord 0 = .ok (.aload_n 0, 1) := by decide +kernel
theorem dX4_isWord_1 : decode cX4_isWord 1 = .ok (.getfield 41, 3) := by decide +kernel
theorem dX4_isWord_4 : decode cX4_isWord 4 = .ok (.iload_n 2, 1) := by decide +kernel
theorem dX4_isWord_5 : decode cX4_isWord 5 = .ok (.isub, 1) := by decide +kernel
theorem dX4_isWord_6 : decode cX4_isWord 6 = .ok (.aload_n 1, 1) := by decide +kernel
theorem dX4_isWord_7 : decode cX4_isWord 7 = .ok (.invokevirtual 153, 3) := by decide +kernel
theorem dX4_isWord_10 : decode cX4_isWord 10 = .ok (.if_icmp .eq 5, 3) := by decide +kernel
theorem dX4_isWord_13 : decode cX4_isWord 13 = .ok (.iconst 0, 1) := by decide +kernel
theorem dX4_isWord_14 : decode cX4_isWord 14 = .ok (.ireturn, 1) := by decide +kernel
theorem dX4_isWord_15 : decode cX4_isWord 15 = .ok (.iconst 0, 1) := by decide +kernel
theorem dX4_isWord_16 : decode cX4_isWord 16 = .ok (.istore_n 3, 1) := by decide +kernel
theorem dX4_isWord_17 : decode cX4_isWord 17 = .ok (.iload_n 3, 1) := by decide +kernel
theorem dX4_isWord_18 : decode cX4_isWord 18 = .ok (.aload_n 1, 1) := by decide +kernel
theorem dX4_isWord_19 : decode cX4_isWord 19 = .ok (.invokevirtual 153, 3) := by decide +kernel
theorem dX4_isWord_22 : decode cX4_isWord 22 = .ok (.if_icmp .ge 26, 3) := by decide +kernel
theorem dX4_isWord_25 : decode cX4_isWord 25 = .ok (.aload_n 0, 1) := by decide +kernel
theorem dX4_isWord_26 : decode cX4_isWord 26 = .ok (.iload_n 2, 1) := by decide +kernel
theorem dX4_isWord_27 : decode cX4_isWord 27 = .ok (.iload_n 3, 1) := by decide +kernel
theorem dX4_isWord_28 : decode cX4_isWord 28 = .ok (.iadd, 1) := by decide +kernel
theorem dX4_isWord_29 : decode cX4_isWord 29 = .ok (.invokevirtual 120, 3) := by decide +kernel
theorem dX4_isWord_32 : decode cX4_isWord 32 = .ok (.aload_n 1, 1) := by decide +kernel
theorem dX4_isWord_33 : decode cX4_isWord 33 = .ok (.iload_n 3, 1) := by decide +kernel
theorem dX4_isWord_34 : decode cX4_isWord 34 = .ok (.invokevirtual 158, 3) := by decide +kernel
theorem dX4_isWord_37 : decode cX4_isWord 37 = .ok (.if_icmp .eq 5, 3) := by decide +kernel
theorem dX4_isWord_40 : decode cX4_isWord 40 = .ok (.iconst 0, 1) := by decide +kernel
theorem dX4_isWord_41 : decode cX4_isWord 41 = .ok (.ireturn, 1) := by decide +kernel
theorem dX4_isWord_42 : decode cX4_isWord 42 = .ok (.iinc 3 1, 3) := by decide +kernel
theorem dX4_isWord_45 : decode cX4_isWord 45 = .ok (.goto (-28), 3) := by decide +kernel
theorem dX4_isWord_48 : decode cX4_isWord 48 = .ok (.iconst 1, 1) := by decide +kernel
theorem dX4_isWord_49 : decode cX4_isWord 49 = .ok (.ireturn, 1) := by decide +kernel
theorem dX4_skipSpaces_0 : decode cX4_skipSpaces 0 = .ok (.aload_n 0, 1) := by decide +kernel
theorem dX4_skipSpaces_1 : decode cX4_skipSpaces 1 = .ok (.getfield 41, 3) := by decide +kernel
theorem dX4_skipSpaces_4 : decode cX4_skipSpaces 4 = .ok (.istore_n 1, 1) := by decide +kernel
theorem dX4_skipSpaces_5 : decode cX4_skipSpaces 5 = .ok (.iload_n 1, 1) := by decide +kernel
theorem dX4_skipSpaces_6 : decode cX4_skipSpaces 6 = .ok (.aload_n 0, 1) := by decide +kernel
theorem dX4_skipSpaces_7 : decode cX4_skipSpaces 7 = .ok (.getfield 38, 3) := by decide +kernel
theorem dX4_skipSpaces_10 : decode cX4_skipSpaces 10 = .ok (.if_icmp .ge 29, 3) := by decide +kernel
theorem dX4_skipSpaces_13 : decode cX4_skipSpaces 13 = .ok (.aload_n 0, 1) := by decide +kernel
theorem dX4_skipSpaces_14 : decode cX4_skipSpaces 14 = .ok (.iload_n 1, 1) := by decide +kernel
theorem dX4_skipSpaces_15 : decode cX4_skipSpaces 15 = .ok (.invokevirtual 120, 3) := by decide +kernel
theorem dX4_skipSpaces_18 : decode cX4_skipSpaces 18 = .ok (.bipush 32, 2) := by decide +kernel
theorem dX4_skipSpaces_20 : decode cX4_skipSpaces 20 = .ok (.if_icmp .ne 19, 3) := by decide +kernel
theorem dX4_skipSpaces_23 : decode cX4_skipSpaces 23 = .ok (.aload_n 0, 1) := by decide +kernel
theorem dX4_skipSpaces_24 : decode cX4_skipSpaces 24 = .ok (.dup, 1) := by decide +kernel
theorem dX4_skipSpaces_25 : decode cX4_skipSpaces 25 = .ok (.getfield 41, 3) := by decide +kernel
theorem dX4_skipSpaces_28 : decode cX4_skipSpaces 28 = .ok (.iconst 1, 1) := by decide +kernel
theorem dX4_skipSpaces_29 : decode cX4_skipSpaces 29 = .ok (.iadd, 1) := by decide +kernel
theorem dX4_skipSpaces_30 : decode cX4_skipSpaces 30 = .ok (.putfield 41, 3) := by decide +kernel
theorem dX4_skipSpaces_33 : decode cX4_skipSpaces 33 = .ok (.iinc 1 1, 3) := by decide +kernel
theorem dX4_skipSpaces_36 : decode cX4_skipSpaces 36 = .ok (.goto (-31), 3) := by decide +kernel
theorem dX4_skipSpaces_39 : decode cX4_skipSpaces 39 = .ok (.return_, 1) := by decide +kernel
theorem dX4_skipLetters_0 : decode cX4_skipLetters 0 = .ok (.aload_n 0, 1) := by decide +kernel
theorem dX4_skipLetters_1 : decode cX4_skipLetters 1 = .ok (.getfield 41, 3) := by decide +kernel
theorem dX4_skipLetters_4 : decode cX4_skipLetters 4 = .ok (.istore_n 1, 1) := by decide +kernel
theorem dX4_skipLetters_5 : decode cX4_skipLetters 5 = .ok (.iload_n 1, 1) := by decide +kernel
theorem dX4_skipLetters_6 : decode cX4_skipLetters 6 = .ok (.aload_n 0, 1) := by decide +kernel
theorem dX4_skipLetters_7 : decode cX4_skipLetters 7 = .ok (.getfield 38, 3) := by decide +kernel
theorem dX4_skipLetters_10 : decode cX4_skipLetters 10 = .ok (.if_icmp .ge 30, 3) := by decide +kernel
theorem dX4_skipLetters_13 : decode cX4_skipLetters 13 = .ok (.aload_n 0, 1) := by decide +kernel
theorem dX4_skipLetters_14 : decode cX4_skipLetters 14 = .ok (.iload_n 1, 1) := by decide +kernel
theorem dX4_skipLetters_15 : decode cX4_skipLetters 15 = .ok (.invokevirtual 120, 3) := by decide +kernel
theorem dX4_skipLetters_18 : decode cX4_skipLetters 18 = .ok (.invokestatic 139, 3) := by decide +kernel
theorem dX4_skipLetters_21 : decode cX4_skipLetters 21 = .ok (.ifCond .eq 19, 3) := by decide +kernel
theorem dX4_skipLetters_24 : decode cX4_skipLetters 24 = .ok (.aload_n 0, 1) := by decide +kernel
theorem dX4_skipLetters_25 : decode cX4_skipLetters 25 = .ok (.dup, 1) := by decide +kernel
theorem dX4_skipLetters_26 : decode cX4_skipLetters 26 = .ok (.getfield 41, 3) := by decide +kernel
theorem dX4_skipLetters_29 : decode cX4_skipLetters 29 = .ok (.iconst 1, 1) := by decide +kernel
theorem dX4_skipLetters_30 : decode cX4_skipLetters 30 = .ok (.iadd, 1) := by decide +kernel
theorem dX4_skipLetters_31 : decode cX4_skipLetters 31 = .ok (.putfield 41, 3) := by decide +kernel
theorem dX4_skipLetters_34 : decode cX4_skipLetters 34 = .ok (.iinc 1 1, 3) := by decide +kernel
theorem dX4_skipLetters_37 : decode cX4_skipLetters 37 = .ok (.goto (-32), 3) := by decide +kernel
theorem dX4_skipLetters_40 : decode cX4_skipLetters 40 = .ok (.return_, 1) := by decide +kernel
theorem dX4_skipDigits_0 : decode cX4_skipDigits 0 = .ok (.aload_n 0, 1) := by decide +kernel
theorem dX4_skipDigits_1 : decode cX4_skipDigits 1 = .ok (.getfield 41, 3) := by decide +kernel
theorem dX4_skipDigits_4 : decode cX4_skipDigits 4 = .ok (.istore_n 1, 1) := by decide +kernel
theorem dX4_skipDigits_5 : decode cX4_skipDigits 5 = .ok (.iload_n 1, 1) := by decide +kernel
theorem dX4_skipDigits_6 : decode cX4_skipDigits 6 = .ok (.aload_n 0, 1) := by decide +kernel
theorem dX4_skipDigits_7 : decode cX4_skipDigits 7 = .ok (.getfield 38, 3) := by decide +kernel
theorem dX4_skipDigits_10 : decode cX4_skipDigits 10 = .ok (.if_icmp .ge 30, 3) := by decide +kernel
theorem dX4_skipDigits_13 : decode cX4_skipDigits 13 = .ok (.aload_n 0, 1) := by decide +kernel
theorem dX4_skipDigits_14 : decode cX4_skipDigits 14 = .ok (.iload_n 1, 1) := by decide +kernel
theorem dX4_skipDigits_15 : decode cX4_skipDigits 15 = .ok (.invokevirtual 120, 3) := by decide +kernel
theorem dX4_skipDigits_18 : decode cX4_skipDigits 18 = .ok (.invokestatic 143, 3) := by decide +kernel
theorem dX4_skipDigits_21 : decode cX4_skipDigits 21 = .ok (.ifCond .eq 19, 3) := by decide +kernel
theorem dX4_skipDigits_24 : decode cX4_skipDigits 24 = .ok (.aload_n 0, 1) := by decide +kernel
theorem dX4_skipDigits_25 : decode cX4_skipDigits 25 = .ok (.dup, 1) := by decide +kernel
theorem dX4_skipDigits_26 : decode cX4_skipDigits 26 = .ok (.getfield 41, 3) := by decide +kernel
theorem dX4_skipDigits_29 : decode cX4_skipDigits 29 = .ok (.iconst 1, 1) := by decide +kernel
theorem dX4_skipDigits_30 : decode cX4_skipDigits 30 = .ok (.iadd, 1) := by decide +kernel
theorem dX4_skipDigits_31 : decode cX4_skipDigits 31 = .ok (.putfield 41, 3) := by decide +kernel
theorem dX4_skipDigits_34 : decode cX4_skipDigits 34 = .ok (.iinc 1 1, 3) := by decide +kernel
theorem dX4_skipDigits_37 : decode cX4_skipDigits 37 = .ok (.goto (-32), 3) := by decide +kernel
theorem dX4_skipDigits_40 : decode cX4_skipDigits 40 = .ok (.return_, 1) := by decide +kernel
theorem dX4_isLetter_0 : decode cX4_isLetter 0 = .ok (.iload_n 0, 1) := by decide +kernel
theorem dX4_isLetter_1 : decode cX4_isLetter 1 = .ok (.bipush 97, 2) := by decide +kernel
theorem dX4_isLetter_3 : decode cX4_isLetter 3 = .ok (.if_icmp .lt 13, 3) := by decide +kernel
theorem dX4_isLetter_6 : decode cX4_isLetter 6 = .ok (.iload_n 0, 1) := by decide +kernel
theorem dX4_isLetter_7 : decode cX4_isLetter 7 = .ok (.bipush 122, 2) := by decide +kernel
theorem dX4_isLetter_9 : decode cX4_isLetter 9 = .ok (.if_icmp .gt 7, 3) := by decide +kernel
theorem dX4_isLetter_12 : decode cX4_isLetter 12 = .ok (.iconst 1, 1) := by decide +kernel
theorem dX4_isLetter_13 : decode cX4_isLetter 13 = .ok (.goto 4, 3) := by decide +kernel
theorem dX4_isLetter_16 : decode cX4_isLetter 16 = .ok (.iconst 0, 1) := by decide +kernel
theorem dX4_isLetter_17 : decode cX4_isLetter 17 = .ok (.ireturn, 1) := by decide +kernel
theorem dX4_isDigit_0 : decode cX4_isDigit 0 = .ok (.iload_n 0, 1) := by decide +kernel
theorem dX4_isDigit_1 : decode cX4_isDigit 1 = .ok (.bipush 48, 2) := by decide +kernel
theorem dX4_isDigit_3 : decode cX4_isDigit 3 = .ok (.if_icmp .lt 13, 3) := by decide +kernel
theorem dX4_isDigit_6 : decode cX4_isDigit 6 = .ok (.iload_n 0, 1) := by decide +kernel
theorem dX4_isDigit_7 : decode cX4_isDigit 7 = .ok (.bipush 57, 2) := by decide +kernel
theorem dX4_isDigit_9 : decode cX4_isDigit 9 = .ok (.if_icmp .gt 7, 3) := by decide +kernel
theorem dX4_isDigit_12 : decode cX4_isDigit 12 = .ok (.iconst 1, 1) := by decide +kernel
theorem dX4_isDigit_13 : decode cX4_isDigit 13 = .ok (.goto 4, 3) := by decide +kernel
theorem dX4_isDigit_16 : decode cX4_isDigit 16 = .ok (.iconst 0, 1) := by decide +kernel
theorem dX4_isDigit_17 : decode cX4_isDigit 17 = .ok (.ireturn, 1) := by decide +kernel
theorem dX4_signAt_0 : decode cX4_signAt 0 = .ok (.iload_n 1, 1) := by decide +kernel
theorem dX4_signAt_1 : decode cX4_signAt 1 = .ok (.ifCond .lt 29, 3) := by decide +kernel
theorem dX4_signAt_4 : decode cX4_signAt 4 = .ok (.iload_n 1, 1) := by decide +kernel
theorem dX4_signAt_5 : decode cX4_signAt 5 = .ok (.aload_n 0, 1) := by decide +kernel
theorem dX4_signAt_6 : decode cX4_signAt 6 = .ok (.getfield 38, 3) := by decide +kernel
theorem dX4_signAt_9 : decode cX4_signAt 9 = .ok (.if_icmp .ge 21, 3) := by decide +kernel
theorem dX4_signAt_12 : decode cX4_signAt 12 = .ok (.iload_n 1, 1) := by decide +kernel
theorem dX4_signAt_13 : decode cX4_signAt 13 = .ok (.aload_n 0, 1) := by decide +kernel
theorem dX4_signAt_14 : decode cX4_signAt 14 = .ok (.getfield 22, 3) := by decide +kernel
theorem dX4_signAt_17 : decode cX4_signAt 17 = .ok (.arraylength, 1) := by decide +kernel
theorem dX4_signAt_18 : decode cX4_signAt 18 = .ok (.if_icmp .ge 12, 3) := by decide +kernel
theorem dX4_signAt_21 : decode cX4_signAt 21 = .ok (.aload_n 0, 1) := by decide +kernel
theorem dX4_signAt_22 : decode cX4_signAt 22 = .ok (.getfield 22, 3) := by decide +kernel
theorem dX4_signAt_25 : decode cX4_signAt 25 = .ok (.iload_n 1, 1) := by decide +kernel
theorem dX4_signAt_26 : decode cX4_signAt 26 = .ok (.iaload, 1) := by decide +kernel
theorem dX4_signAt_27 : decode cX4_signAt 27 = .ok (.goto 4, 3) := by decide +kernel
theorem dX4_signAt_30 : decode cX4_signAt 30 = .ok (.iconst (-1), 1) := by decide +kernel
theorem dX4_signAt_31 : decode cX4_signAt 31 = .ok (.ireturn, 1) := by decide +kernel
theorem dX5_init_0 : decode cX5_init 0 = .ok (.aload_n 0, 1) := by decide +kernel
theorem dX5_init_1 : decode cX5_init 1 = .ok (.invokespecial 3, 3) := by decide +kernel
theorem dX5_init_4 : decode cX5_init 4 = .ok (.aload_n 0, 1) := by decide +kernel
theorem dX5_init_5 : decode cX5_init 5 = .ok (.bipush 8, 2) := by decide +kernel
theorem dX5_init_7 : decode cX5_init 7 = .ok (.putfield 9, 3) := by decide +kernel
theorem dX5_init_10 : decode cX5_init 10 = .ok (.aload_n 0, 1) := by decide +kernel
theorem dX5_init_11 : decode cX5_init 11 = .ok (.bipush 8, 2) := by decide +kernel
theorem dX5_init_13 : decode cX5_init 13 = .ok (.putfield 15, 3) := by decide +kernel
theorem dX5_init_16 : decode cX5_init 16 = .ok (.aload_n 0, 1) := by decide +kernel
theorem dX5_init_17 : decode cX5_init 17 = .ok (.iconst 3, 1) := by decide +kernel
theorem dX5_init_18 : decode cX5_init 18 = .ok (.putfield 18, 3) := by decide +kernel
theorem dX5_init_21 : decode cX5_init 21 = .ok (.aload_n 0, 1) := by decide +kernel
theorem dX5_init_22 : decode cX5_init 22 = .ok (.bipush 40, 2) := by decide +kernel
theorem dX5_init_24 : decode cX5_init 24 = .ok (.newarray .int, 2) := by decide +kernel
theorem dX5_init_26 : decode cX5_init 26 = .ok (.putfield 21, 3) := by decide +kernel
theorem dX5_init_29 : decode cX5_init 29 = .ok (.aload_n 0, 1) := by decide +kernel
theorem dX5_init_30 : decode cX5_init 30 = .ok (.bipush 20, 2) := by decide +kernel
theorem dX5_init_32 : decode cX5_init 32 = .ok (.newarray .int, 2) := by decide +kernel
theorem dX5_init_34 : decode cX5_init 34 = .ok (.putfield 25, 3) := by decide +kernel
theorem dX5_init_37 : decode cX5_init 37 = .ok (.aload_n 0, 1) := by decide +kernel
theorem dX5_init_38 : decode cX5_init 38 = .ok (.bipush 9, 2) := by decide +kernel
theorem dX5_init_40 : decode cX5_init 40 = .ok (.newarray .int, 2) := by decide +kernel
theorem dX5_init_42 : decode cX5_init 42 = .ok (.putfield 28, 3) := by decide +kernel
theorem dX5_init_45 : decode cX5_init 45 = .ok (.aload_n 0, 1) := by decide +kernel
theorem dX5_init_46 : decode cX5_init 46 = .ok (.getfield 28, 3) := by decide +kernel
theorem dX5_init_49 : decode cX5_init 49 = .ok (.bipush 99, 2) := by decide +kernel
theorem dX5_init_51 : decode cX5_init 51 = .ok (.invokestatic 31, 3) := by decide +kernel
theorem dX5_init_54 : decode cX5_init 54 = .ok (.return_, 1) := by decide +kernel
theorem dX5_addCard_0 : decode cX5_addCard 0 = .ok (.aload_n 0, 1) := by decide +kernel
theorem dX5_addCard_1 : decode cX5_addCard 1 = .ok (.getfield 37, 3) := by decide +kernel
theorem dX5_addCard_4 : decode cX5_addCard 4 = .ok (.bipush 40, 2) := by decide +kernel
theorem dX5_addCard_6 : decode cX5_addCard 6 = .ok (.if_icmp .ge 43, 3) := by decide +kernel
theorem dX5_addCard_9 : decode cX5_addCard 9 = .ok (.iload_n 1, 1) := by decide +kernel
theorem dX5_addCard_10 : decode cX5_addCard 10 = .ok (.ifCond .lt 39, 3) := by decide +kernel
theorem dX5_addCard_13 : decode cX5_addCard 13 = .ok (.iload_n 1, 1) := by decide +kernel
theorem dX5_addCard_14 : decode cX5_addCard 14 = .ok (.bipush 20, 2) := by decide +kernel
theorem dX5_addCard_16 : decode cX5_addCard 16 = .ok (.if_icmp .ge 33, 3) := by decide +kernel
theorem dX5_addCard_19 : decode cX5_addCard 19 = .ok (.aload_n 0, 1) := by decide +kernel
theorem dX5_addCard_20 : decode cX5_addCard 20 = .ok (.getfield 21, 3) := by decide +kernel
theorem dX5_addCard_23 : decode cX5_addCard 23 = .ok (.aload_n 0, 1) := by decide +kernel
theorem dX5_addCard_24 : decode cX5_addCard 24 = .ok (.getfield 37, 3) := by decide +kernel
theorem dX5_addCard_27 : decode cX5_addCard 27 = .ok (.iload_n 1, 1) := by decide +kernel
theorem dX5_addCard_28 : decode cX5_addCard 28 = .ok (.iastore, 1) := by decide +kernel
theorem dX5_addCard_29 : decode cX5_addCard 29 = .ok (.aload_n 0, 1) := by decide +kernel
theorem dX5_addCard_30 : decode cX5_addCard 30 = .ok (.getfield 25, 3) := by decide +kernel
theorem dX5_addCard_33 : decode cX5_addCard 33 = .ok (.iload_n 1, 1) := by decide +kernel
theorem dX5_addCard_34 : decode cX5_addCard 34 = .ok (.dup2, 1) := by decide +kernel
theorem dX5_addCard_35 : decode cX5_addCard 35 = .ok (.iaload, 1) := by decide +kernel
theorem dX5_addCard_36 : decode cX5_addCard 36 = .ok (.iconst 1, 1) := by decide +kernel
theorem dX5_addCard_37 : decode cX5_addCard 37 = .ok (.iadd, 1) := by decide +kernel
theorem dX5_addCard_38 : decode cX5_addCard 38 = .ok (.iastore, 1) := by decide +kernel
theorem dX5_addCard_39 : decode cX5_addCard 39 = .ok (.aload_n 0, 1) := by decide +kernel
theorem dX5_addCard_40 : decode cX5_addCard 40 = .ok (.dup, 1) := by decide +kernel
theorem dX5_addCard_41 : decode cX5_addCard 41 = .ok (.getfield 37, 3) := by decide +kernel
theorem dX5_addCard_44 : decode cX5_addCard 44 = .ok (.iconst 1, 1) := by decide +kernel
theorem dX5_addCard_45 : decode cX5_addCard 45 = .ok (.iadd, 1) := by decide +kernel
theorem dX5_addCard_46 : decode cX5_addCard 46 = .ok (.putfield 37, 3) := by decide +kernel
theorem dX5_addCard_49 : decode cX5_addCard 49 = .ok (.return_, 1) := by decide +kernel
theorem dX5_copiesOf_0 : decode cX5_copiesOf 0 = .ok (.iload_n 1, 1) := by decide +kernel
theorem dX5_copiesOf_1 : decode cX5_copiesOf 1 = .ok (.ifCond .lt 18, 3) := by decide +kernel
theorem dX5_copiesOf_4 : decode cX5_copiesOf 4 = .ok (.iload_n 1, 1) := by decide +kernel
theorem dX5_copiesOf_5 : decode cX5_copiesOf 5 = .ok (.bipush 20, 2) := by decide +kernel
theorem dX5_copiesOf_7 : decode cX5_copiesOf 7 = .ok (.if_icmp .ge 12, 3) := by decide +kernel
theorem dX5_copiesOf_10 : decode cX5_copiesOf 10 = .ok (.aload_n 0, 1) := by decide +kernel
theorem dX5_copiesOf_11 : decode cX5_copiesOf 11 = .ok (.getfield 25, 3) := by decide +kernel
theorem dX5_copiesOf_14 : decode cX5_copiesOf 14 = .ok (.iload_n 1, 1) := by decide +kernel
theorem dX5_copiesOf_15 : decode cX5_copiesOf 15 = .ok (.iaload, 1) := by decide +kernel
theorem dX5_copiesOf_16 : decode cX5_copiesOf 16 = .ok (.goto 4, 3) := by decide +kernel
theorem dX5_copiesOf_19 : decode cX5_copiesOf 19 = .ok (.iconst 0, 1) := by decide +kernel
theorem dX5_copiesOf_20 : decode cX5_copiesOf 20 = .ok (.ireturn, 1) := by decide +kernel
theorem dX5_exchangeCards_0 : decode cX5_exchangeCards 0 = .ok (.iload_n 1, 1) := by decide +kernel
theorem dX5_exchangeCards_1 : decode cX5_exchangeCards 1 = .ok (.i2l, 1) := by decide +kernel
theorem dX5_exchangeCards_2 : decode cX5_exchangeCards 2 = .ok (.lstore_n 2, 1) := by decide +kernel
theorem dX5_exchangeCards_3 : decode cX5_exchangeCards 3 = .ok (.aload_n 0, 1) := by decide +kernel
theorem dX5_exchangeCards_4 : decode cX5_exchangeCards 4 = .ok (.getfield 37, 3) := by decide +kernel
theorem dX5_exchangeCards_7 : decode cX5_exchangeCards 7 = .ok (.iconst 1, 1) := by decide +kernel
theorem dX5_exchangeCards_8 : decode cX5_exchangeCards 8 = .ok (.isub, 1) := by decide +kernel
theorem dX5_exchangeCards_9 : decode cX5_exchangeCards 9 = .ok (.istore 4, 2) := by decide +kernel
theorem dX5_exchangeCards_11 : decode cX5_exchangeCards 11 = .ok (.iload 4, 2) := by decide +kernel
theorem dX5_exchangeCards_13 : decode cX5_exchangeCards 13 = .ok (.iconst 1, 1) := by decide +kernel
theorem dX5_exchangeCards_14 : decode cX5_exchangeCards 14 = .ok (.if_icmp .lt 69, 3) := by decide +kernel
theorem dX5_exchangeCards_17 : decode cX5_exchangeCards 17 = .ok (.lload_n 2, 1) := by decide +kernel
theorem dX5_exchangeCards_18 : decode cX5_exchangeCards 18 = .ok (.ldc2_w 40, 3) := by decide +kernel
theorem dX5_exchangeCards_21 : decode cX5_exchangeCards 21 = .ok (.lmul, 1) := by decide +kernel
theorem dX5_exchangeCards_22 : decode cX5_exchangeCards 22 = .ok (.ldc2_w 42, 3) := by decide +kernel
theorem dX5_exchangeCards_25 : decode cX5_exchangeCards 25 = .ok (.ladd, 1) := by decide +kernel
theorem dX5_exchangeCards_26 : decode cX5_exchangeCards 26 = .ok (.ldc2_w 44, 3) := by decide +kernel
theorem dX5_exchangeCards_29 : decode cX5_exchangeCards 29 = .ok (.lrem, 1) := by decide +kernel
theorem dX5_exchangeCards_30 : decode cX5_exchangeCards 30 = .ok (.lstore_n 2, 1) := by decide +kernel
theorem dX5_exchangeCards_31 : decode cX5_exchangeCards 31 = .ok (.lload_n 2, 1) := by decide +kernel
theorem dX5_exchangeCards_32 : decode cX5_exchangeCards 32 = .ok (.ldc2_w 46, 3) := by decide +kernel
theorem dX5_exchangeCards_35 : decode cX5_exchangeCards 35 = .ok (.ldiv, 1) := by decide +kernel
theorem dX5_exchangeCards_36 : decode cX5_exchangeCards 36 = .ok (.iload 4, 2) := by decide +kernel
theorem dX5_exchangeCards_38 : decode cX5_exchangeCards 38 = .ok (.iconst 1, 1) := by decide +kernel
theorem dX5_exchangeCards_39 : decode cX5_exchangeCards 39 = .ok (.iadd, 1) := by decide +kernel
theorem dX5_exchangeCards_40 : decode cX5_exchangeCards 40 = .ok (.i2l, 1) := by decide +kernel
theorem dX5_exchangeCards_41 : decode cX5_exchangeCards 41 = .ok (.lrem, 1) := by decide +kernel
theorem dX5_exchangeCards_42 : decode cX5_exchangeCards 42 = .ok (.l2i, 1) := by decide +kernel
theorem dX5_exchangeCards_43 : decode cX5_exchangeCards 43 = .ok (.istore 5, 2) := by decide +kernel
theorem dX5_exchangeCards_45 : decode cX5_exchangeCards 45 = .ok (.aload_n 0, 1) := by decide +kernel
theorem dX5_exchangeCards_46 : decode cX5_exchangeCards 46 = .ok (.getfield 21, 3) := by decide +kernel
theorem dX5_exchangeCards_49 : decode cX5_exchangeCards 49 = .ok (.iload 4, 2) := by decide +kernel
theorem dX5_exchangeCards_51 : decode cX5_exchangeCards 51 = .ok (.iaload, 1) := by decide +kernel
theorem dX5_exchangeCards_52 : decode cX5_exchangeCards 52 = .ok (.istore 6, 2) := by decide +kernel
theorem dX5_exchangeCards_54 : decode cX5_exchangeCards 54 = .ok (.aload_n 0, 1) := by decide +kernel
theorem dX5_exchangeCards_55 : decode cX5_exchangeCards 55 = .ok (.getfield 21, 3) := by decide +kernel
theorem dX5_exchangeCards_58 : decode cX5_exchangeCards 58 = .ok (.iload 4, 2) := by decide +kernel
theorem dX5_exchangeCards_60 : decode cX5_exchangeCards 60 = .ok (.aload_n 0, 1) := by decide +kernel
theorem dX5_exchangeCards_61 : decode cX5_exchangeCards 61 = .ok (.getfield 21, 3) := by decide +kernel
theorem dX5_exchangeCards_64 : decode cX5_exchangeCards 64 = .ok (.iload 5, 2) := by decide +kernel
theorem dX5_exchangeCards_66 : decode cX5_exchangeCards 66 = .ok (.iaload, 1) := by decide +kernel
theorem dX5_exchangeCards_67 : decode cX5_exchangeCards 67 = .ok (.iastore, 1) := by decide +kernel
theorem dX5_exchangeCards_68 : decode cX5_exchangeCards 68 = .ok (.aload_n 0, 1) := by decide +kernel
theorem dX5_exchangeCards_69 : decode cX5_exchangeCards 69 = .ok (.getfield 21, 3) := by decide +kernel
theorem dX5_exchangeCards_72 : decode cX5_exchangeCards 72 = .ok (.iload 5, 2) := by decide +kernel
theorem dX5_exchangeCards_74 : decode cX5_exchangeCards 74 = .ok (.iload 6, 2) := by decide +kernel
theorem dX5_exchangeCards_76 : decode cX5_exchangeCards 76 = .ok (.iastore, 1) := by decide +kernel
theorem dX5_exchangeCards_77 : decode cX5_exchangeCards 77 = .ok (.iinc 4 (-1), 3) := by decide +kernel
theorem dX5_exchangeCards_80 : decode cX5_exchangeCards 80 = .ok (.goto (-69), 3) := by decide +kernel
theorem dX5_exchangeCards_83 : decode cX5_exchangeCards 83 = .ok (.return_, 1) := by decide +kernel
theorem dX5_allKinds_0 : decode cX5_allKinds 0 = .ok (.iconst 0, 1) := by decide +kernel
theorem dX5_allKinds_1 : decode cX5_allKinds 1 = .ok (.istore_n 1, 1) := by decide +kernel
theorem dX5_allKinds_2 : decode cX5_allKinds 2 = .ok (.iconst 0, 1) := by decide +kernel
theorem dX5_allKinds_3 : decode cX5_allKinds 3 = .ok (.istore_n 2, 1) := by decide +kernel
theorem dX5_allKinds_4 : decode cX5_allKinds 4 = .ok (.iload_n 2, 1) := by decide +kernel
theorem dX5_allKinds_5 : decode cX5_allKinds 5 = .ok (.aload_n 0, 1) := by decide +kernel
theorem dX5_allKinds_6 : decode cX5_allKinds 6 = .ok (.getfield 48, 3) := by decide +kernel
theorem dX5_allKinds_9 : decode cX5_allKinds 9 = .ok (.if_icmp .ge 24, 3) := by decide +kernel
theorem dX5_allKinds_12 : decode cX5_allKinds 12 = .ok (.iload_n 1, 1) := by decide +kernel
theorem dX5_allKinds_13 : decode cX5_allKinds 13 = .ok (.iconst 1, 1) := by decide +kernel
theorem dX5_allKinds_14 : decode cX5_allKinds 14 = .ok (.aload_n 0, 1) := by decide +kernel
theorem dX5_allKinds_15 : decode cX5_allKinds 15 = .ok (.getfield 51, 3) := by decide +kernel
theorem dX5_allKinds_18 : decode cX5_allKinds 18 = .ok (.ishl, 1) := by decide +kernel
theorem dX5_allKinds_19 : decode cX5_allKinds 19 = .ok (.iconst 1, 1) := by decide +kernel
theorem dX5_allKinds_20 : decode cX5_allKinds 20 = .ok (.isub, 1) := by decide +kernel
theorem dX5_allKinds_21 : decode cX5_allKinds 21 = .ok (.iload_n 2, 1) := by decide +kernel
theorem dX5_allKinds_22 : decode cX5_allKinds 22 = .ok (.iconst 5, 1) := by decide +kernel
theorem dX5_allKinds_23 : decode cX5_allKinds 23 = .ok (.imul, 1) := by decide +kernel
theorem dX5_allKinds_24 : decode cX5_allKinds 24 = .ok (.ishl, 1) := by decide +kernel
theorem dX5_allKinds_25 : decode cX5_allKinds 25 = .ok (.ior, 1) := by decide +kernel
theorem dX5_allKinds_26 : decode cX5_allKinds 26 = .ok (.istore_n 1, 1) := by decide +kernel
theorem dX5_allKinds_27 : decode cX5_allKinds 27 = .ok (.iinc 2 1, 3) := by decide +kernel
theorem dX5_allKinds_30 : decode cX5_allKinds 30 = .ok (.goto (-26), 3) := by decide +kernel
theorem dX5_allKinds_33 : decode cX5_allKinds 33 = .ok (.iload_n 1, 1) := by decide +kernel
theorem dX5_allKinds_34 : decode cX5_allKinds 34 = .ok (.ireturn, 1) := by decide +kernel
theorem dX5_indexOfWord_0 : decode cX5_indexOfWord 0 = .ok (.iload_n 0, 1) := by decide +kernel
theorem dX5_indexOfWord_1 : decode cX5_indexOfWord 1 = .ok (.ifCond .ne 18, 3) := by decide +kernel
theorem dX5_indexOfWord_4 : decode cX5_indexOfWord 4 = .ok (.iload_n 1, 1) := by decide +kernel
theorem dX5_indexOfWord_5 : decode cX5_indexOfWord 5 = .ok (.ifCond .lt 12, 3) := by decide +kernel
theorem dX5_indexOfWord_8 : decode cX5_indexOfWord 8 = .ok (.iload_n 1, 1) := by decide +kernel
theorem dX5_indexOfWord_9 : decode cX5_indexOfWord 9 = .ok (.iconst 4, 1) := by decide +kernel
theorem dX5_indexOfWord_10 : decode cX5_indexOfWord 10 = .ok (.if_icmp .ge 7, 3) := by decide +kernel
theorem dX5_indexOfWord_13 : decode cX5_indexOfWord 13 = .ok (.iload_n 1, 1) := by decide +kernel
theorem dX5_indexOfWord_14 : decode cX5_indexOfWord 14 = .ok (.goto 4, 3) := by decide +kernel
theorem dX5_indexOfWord_17 : decode cX5_indexOfWord 17 = .ok (.iconst (-1), 1) := by decide +kernel
theorem dX5_indexOfWord_18 : decode cX5_indexOfWord 18 = .ok (.ireturn, 1) := by decide +kernel
theorem dX5_indexOfWord_19 : decode cX5_indexOfWord 19 = .ok (.iload_n 1, 1) := by decide +kernel
theorem dX5_indexOfWord_20 : decode cX5_indexOfWord 20 = .ok (.iconst 1, 1) := by decide +kernel
theorem dX5_indexOfWord_21 : decode cX5_indexOfWord 21 = .ok (.if_icmp .lt 16, 3) := by decide +kernel
theorem dX5_indexOfWord_24 : decode cX5_indexOfWord 24 = .ok (.iload_n 1, 1) := by decide +kernel
theorem dX5_indexOfWord_25 : decode cX5_indexOfWord 25 = .ok (.iconst 5, 1) := by decide +kernel
theorem dX5_indexOfWord_26 : decode cX5_indexOfWord 26 = .ok (.if_icmp .gt 11, 3) := by decide +kernel
theorem dX5_indexOfWord_29 : decode cX5_indexOfWord 29 = .ok (.iconst 4, 1) := by decide +kernel
theorem dX5_indexOfWord_30 : decode cX5_indexOfWord 30 = .ok (.iload_n 1, 1) := by decide +kernel
theorem dX5_indexOfWord_31 : decode cX5_indexOfWord 31 = .ok (.iadd, 1) := by decide +kernel
theorem dX5_indexOfWord_32 : decode cX5_indexOfWord 32 = .ok (.iconst 1, 1) := by decide +kernel
theorem dX5_indexOfWord_33 : decode cX5_indexOfWord 33 = .ok (.isub, 1) := by decide +kernel
theorem dX5_indexOfWord_34 : decode cX5_indexOfWord 34 = .ok (.goto 4, 3) := by decide +kernel
theorem dX5_indexOfWord_37 : decode cX5_indexOfWord 37 = .ok (.iconst (-1), 1) := by decide +kernel
theorem dX5_indexOfWord_38 : decode cX5_indexOfWord 38 = .ok (.ireturn, 1) := by decide +kernel
theorem dX6_init_0 : decode cX6_init 0 = .ok (.aload_n 0, 1) := by decide +kernel
theorem dX6_init_1 : decode cX6_init 1 = .ok (.invokespecial 5, 3) := by decide +kernel
theorem dX6_init_4 : decode cX6_init 4 = .ok (.aload_n 0, 1) := by decide +kernel
theorem dX6_init_5 : decode cX6_init 5 = .ok (.sipush 16000, 3) := by decide +kernel
theorem dX6_init_8 : decode cX6_init 8 = .ok (.newarray .long, 2) := by decide +kernel
theorem dX6_init_10 : decode cX6_init 10 = .ok (.putfield 11, 3) := by decide +kernel
theorem dX6_init_13 : decode cX6_init 13 = .ok (.aload_n 0, 1) := by decide +kernel
theorem dX6_init_14 : decode cX6_init 14 = .ok (.sipush 4000, 3) := by decide +kernel
theorem dX6_init_17 : decode cX6_init 17 = .ok (.newarray .int, 2) := by decide +kernel
theorem dX6_init_19 : decode cX6_init 19 = .ok (.putfield 15, 3) := by decide +kernel
theorem dX6_init_22 : decode cX6_init 22 = .ok (.aload_n 0, 1) := by decide +kernel
theorem dX6_init_23 : decode cX6_init 23 = .ok (.sipush 8192, 3) := by decide +kernel
theorem dX6_init_26 : decode cX6_init 26 = .ok (.newarray .int, 2) := by decide +kernel
theorem dX6_init_28 : decode cX6_init 28 = .ok (.putfield 19, 3) := by decide +kernel
theorem dX6_init_31 : decode cX6_init 31 = .ok (.new 22, 3) := by decide +kernel
theorem dX6_init_34 : decode cX6_init 34 = .ok (.dup, 1) := by decide +kernel
theorem dX6_init_35 : decode cX6_init 35 = .ok (.invokespecial 24, 3) := by decide +kernel
theorem dX6_init_38 : decode cX6_init 38 = .ok (.astore_n 1, 1) := by decide +kernel
theorem dX6_init_39 : decode cX6_init 39 = .ok (.aload_n 0, 1) := by decide +kernel
theorem dX6_init_40 : decode cX6_init 40 = .ok (.new 25, 3) := by decide +kernel
theorem dX6_init_43 : decode cX6_init 43 = .ok (.dup, 1) := by decide +kernel
theorem dX6_init_44 : decode cX6_init 44 = .ok (.aload_n 1, 1) := by decide +kernel
theorem dX6_init_45 : decode cX6_init 45 = .ok (.invokespecial 27, 3) := by decide +kernel
theorem dX6_init_48 : decode cX6_init 48 = .ok (.putfield 30, 3) := by decide +kernel
theorem dX6_init_51 : decode cX6_init 51 = .ok (.aload_n 0, 1) := by decide +kernel
theorem dX6_init_52 : decode cX6_init 52 = .ok (.new 25, 3) := by decide +kernel
theorem dX6_init_55 : decode cX6_init 55 = .ok (.dup, 1) := by decide +kernel
theorem dX6_init_56 : decode cX6_init 56 = .ok (.aload_n 1, 1) := by decide +kernel
theorem dX6_init_57 : decode cX6_init 57 = .ok (.invokespecial 27, 3) := by decide +kernel
theorem dX6_init_60 : decode cX6_init 60 = .ok (.putfield 34, 3) := by decide +kernel
theorem dX6_init_63 : decode cX6_init 63 = .ok (.return_, 1) := by decide +kernel
theorem dX6_survey_0 : decode cX6_survey 0 = .ok (.aload_n 0, 1) := by decide +kernel
theorem dX6_survey_1 : decode cX6_survey 1 = .ok (.aload_n 1, 1) := by decide +kernel
theorem dX6_survey_2 : decode cX6_survey 2 = .ok (.getfield 37, 3) := by decide +kernel
theorem dX6_survey_5 : decode cX6_survey 5 = .ok (.invokevirtual 43, 3) := by decide +kernel
theorem dX6_survey_8 : decode cX6_survey 8 = .ok (.aload_n 0, 1) := by decide +kernel
theorem dX6_survey_9 : decode cX6_survey 9 = .ok (.getfield 34, 3) := by decide +kernel
theorem dX6_survey_12 : decode cX6_survey 12 = .ok (.aload_n 1, 1) := by decide +kernel
theorem dX6_survey_13 : decode cX6_survey 13 = .ok (.invokevirtual 46, 3) := by decide +kernel
theorem dX6_survey_16 : decode cX6_survey 16 = .ok (.aload_n 0, 1) := by decide +kernel
theorem dX6_survey_17 : decode cX6_survey 17 = .ok (.invokevirtual 50, 3) := by decide +kernel
theorem dX6_survey_20 : decode cX6_survey 20 = .ok (.aload_n 1, 1) := by decide +kernel
theorem dX6_survey_21 : decode cX6_survey 21 = .ok (.invokevirtual 53, 3) := by decide +kernel
theorem dX6_survey_24 : decode cX6_survey 24 = .ok (.ifCond .eq 14, 3) := by decide +kernel
theorem dX6_survey_27 : decode cX6_survey 27 = .ok (.aload_n 0, 1) := by decide +kernel
theorem dX6_survey_28 : decode cX6_survey 28 = .ok (.aload_n 1, 1) := by decide +kernel
theorem dX6_survey_29 : decode cX6_survey 29 = .ok (.invokevirtual 57, 3) := by decide +kernel
theorem dX6_survey_32 : decode cX6_survey 32 = .ok (.putfield 61, 3) := by decide +kernel
theorem dX6_survey_35 : decode cX6_survey 35 = .ok (.goto 11, 3) := by decide +kernel
theorem dX6_survey_38 : decode cX6_survey 38 = .ok (.aload_n 0, 1) := by decide +kernel
theorem dX6_survey_39 : decode cX6_survey 39 = .ok (.iconst 0, 1) := by decide +kernel
theorem dX6_survey_40 : decode cX6_survey 40 = .ok (.sipush 1000, 3) := by decide +kernel
theorem dX6_survey_43 : decode cX6_survey 43 = .ok (.invokevirtual 65, 3) := by decide +kernel
theorem dX6_survey_46 : decode cX6_survey 46 = .ok (.return_, 1) := by decide +kernel
theorem dX6_surveyBehind_0 : decode cX6_surveyBehind 0 = .ok (.aload_n 0, 1) := by decide +kernel
theorem dX6_surveyBehind_1 : decode cX6_surveyBehind 1 = .ok (.aload_n 1, 1) := by decide +kernel
theorem dX6_surveyBehind_2 : decode cX6_surveyBehind 2 = .ok (.getfield 37, 3) := by decide +kernel
theorem dX6_surveyBehind_5 : decode cX6_surveyBehind 5 = .ok (.invokevirtual 43, 3) := by decide +kernel
theorem dX6_surveyBehind_8 : decode cX6_surveyBehind 8 = .ok (.aload_n 0, 1) := by decide +kernel
theorem dX6_surveyBehind_9 : decode cX6_surveyBehind 9 = .ok (.aload_n 1, 1) := by decide +kernel
theorem dX6_surveyBehind_10 : decode cX6_surveyBehind 10 = .ok (.iload_n 2, 1) := by decide +kernel
theorem dX6_surveyBehind_11 : decode cX6_surveyBehind 11 = .ok (.iload_n 3, 1) := by decide +kernel
theorem dX6_surveyBehind_12 : decode cX6_surveyBehind 12 = .ok (.invokevirtual 69, 3) := by decide +kernel
theorem dX6_surveyBehind_15 : decode cX6_surveyBehind 15 = .ok (.ifCond .ne 5, 3) := by decide +kernel
theorem dX6_surveyBehind_18 : decode cX6_surveyBehind 18 = .ok (.iconst 0, 1) := by decide +kernel
theorem dX6_surveyBehind_19 : decode cX6_surveyBehind 19 = .ok (.ireturn, 1) := by decide +kernel
theorem dX6_surveyBehind_20 : decode cX6_surveyBehind 20 = .ok (.aload_n 0, 1) := by decide +kernel
theorem dX6_surveyBehind_21 : decode cX6_surveyBehind 21 = .ok (.invokevirtual 50, 3) := by decide +kernel
theorem dX6_surveyBehind_24 : decode cX6_surveyBehind 24 = .ok (.aload_n 0, 1) := by decide +kernel
theorem dX6_surveyBehind_25 : decode cX6_surveyBehind 25 = .ok (.iconst 0, 1) := by decide +kernel
theorem dX6_surveyBehind_26 : decode cX6_surveyBehind 26 = .ok (.sipush 1000, 3) := by decide +kernel
theorem dX6_surveyBehind_29 : decode cX6_surveyBehind 29 = .ok (.invokevirtual 65, 3) := by decide +kernel
theorem dX6_surveyBehind_32 : decode cX6_surveyBehind 32 = .ok (.iconst 1, 1) := by decide +kernel
theorem dX6_surveyBehind_33 : decode cX6_surveyBehind 33 = .ok (.ireturn, 1) := by decide +kernel
theorem dX6_findMove_0 : decode cX6_findMove 0 = .ok (.aload_n 0, 1) := by decide +kernel
theorem dX6_findMove_1 : decode cX6_findMove 1 = .ok (.aload_n 1, 1) := by decide +kernel
theorem dX6_findMove_2 : decode cX6_findMove 2 = .ok (.getfield 37, 3) := by decide +kernel
theorem dX6_findMove_5 : decode cX6_findMove 5 = .ok (.invokevirtual 43, 3) := by decide +kernel
theorem dX6_findMove_8 : decode cX6_findMove 8 = .ok (.iconst 0, 1) := by decide +kernel
theorem dX6_findMove_9 : decode cX6_findMove 9 = .ok (.istore_n 3, 1) := by decide +kernel
theorem dX6_findMove_10 : decode cX6_findMove 10 = .ok (.iload_n 3, 1) := by decide +kernel
theorem dX6_findMove_11 : decode cX6_findMove 11 = .ok (.iconst 3, 1) := by decide +kernel
theorem dX6_findMove_12 : decode cX6_findMove 12 = .ok (.if_icmp .gt 100, 3) := by decide +kernel
theorem dX6_findMove_15 : decode cX6_findMove 15 = .ok (.iload_n 3, 1) := by decide +kernel
theorem dX6_findMove_16 : decode cX6_findMove 16 = .ok (.ifCond .eq 8, 3) := by decide +kernel
theorem dX6_findMove_19 : decode cX6_findMove 19 = .ok (.iload_n 3, 1) := by decide +kernel
theorem dX6_findMove_20 : decode cX6_findMove 20 = .ok (.iconst 1, 1) := by decide +kernel
theorem dX6_findMove_21 : decode cX6_findMove 21 = .ok (.if_icmp .ne 7, 3) := by decide +kernel
theorem dX6_findMove_24 : decode cX6_findMove 24 = .ok (.iconst 1, 1) := by decide +kernel
theorem dX6_findMove_25 : decode cX6_findMove 25 = .ok (.goto 4, 3) := by decide +kernel
theorem dX6_findMove_28 : decode cX6_findMove 28 = .ok (.iconst 0, 1) := by decide +kernel
theorem dX6_findMove_29 : decode cX6_findMove 29 = .ok (.istore 4, 2) := by decide +kernel
theorem dX6_findMove_31 : decode cX6_findMove 31 = .ok (.iload 4, 2) := by decide +kernel
theorem dX6_findMove_33 : decode cX6_findMove 33 = .ok (.ifCond .eq 14, 3) := by decide +kernel
theorem dX6_findMove_36 : decode cX6_findMove 36 = .ok (.aload_n 1, 1) := by decide +kernel
theorem dX6_findMove_37 : decode cX6_findMove 37 = .ok (.aload_n 1, 1) := by decide +kernel
theorem dX6_findMove_38 : decode cX6_findMove 38 = .ok (.getfield 73, 3) := by decide +kernel
theorem dX6_findMove_41 : decode cX6_findMove 41 = .ok (.invokevirtual 76, 3) := by decide +kernel
theorem dX6_findMove_44 : decode cX6_findMove 44 = .ok (.goto 4, 3) := by decide +kernel
theorem dX6_findMove_47 : decode cX6_findMove 47 = .ok (.iconst 1, 1) := by decide +kernel
theorem dX6_findMove_48 : decode cX6_findMove 48 = .ok (.istore 5, 2) := by decide +kernel
theorem dX6_findMove_50 : decode cX6_findMove 50 = .ok (.iconst 0, 1) := by decide +kernel
theorem dX6_findMove_51 : decode cX6_findMove 51 = .ok (.istore 6, 2) := by decide +kernel
theorem dX6_findMove_53 : decode cX6_findMove 53 = .ok (.iload 6, 2) := by decide +kernel
theorem dX6_findMove_55 : decode cX6_findMove 55 = .ok (.iload 5, 2) := by decide +kernel
theorem dX6_findMove_57 : decode cX6_findMove 57 = .ok (.if_icmp .ge 49, 3) := by decide +kernel
theorem dX6_findMove_60 : decode cX6_findMove 60 = .ok (.aload_n 0, 1) := by decide +kernel
theorem dX6_findMove_61 : decode cX6_findMove 61 = .ok (.aload_n 1, 1) := by decide +kernel
theorem dX6_findMove_62 : decode cX6_findMove 62 = .ok (.iload_n 3, 1) := by decide +kernel
theorem dX6_findMove_63 : decode cX6_findMove 63 = .ok (.iload 6, 2) := by decide +kernel
theorem dX6_findMove_65 : decode cX6_findMove 65 = .ok (.invokevirtual 69, 3) := by decide +kernel
theorem dX6_findMove_68 : decode cX6_findMove 68 = .ok (.ifCond .eq 32, 3) := by decide +kernel
theorem dX6_findMove_71 : decode cX6_findMove 71 = .ok (.aload_n 0, 1) := by decide +kernel
theorem dX6_findMove_72 : decode cX6_findMove 72 = .ok (.iload_n 2, 1) := by decide +kernel
theorem dX6_findMove_73 : decode cX6_findMove 73 = .ok (.invokevirtual 80, 3) := by decide +kernel
theorem dX6_findMove_76 : decode cX6_findMove 76 = .ok (.ifCond .eq 24, 3) := by decide +kernel
theorem dX6_findMove_79 : decode cX6_findMove 79 = .ok (.aload_n 0, 1) := by decide +kernel
theorem dX6_findMove_80 : decode cX6_findMove 80 = .ok (.iload_n 3, 1) := by decide +kernel
theorem dX6_findMove_81 : decode cX6_findMove 81 = .ok (.putfield 84, 3) := by decide +kernel
theorem dX6_findMove_84 : decode cX6_findMove 84 = .ok (.aload_n 0, 1) := by decide +kernel
theorem dX6_findMove_85 : decode cX6_findMove 85 = .ok (.iload 4, 2) := by decide +kernel
theorem dX6_findMove_87 : decode cX6_findMove 87 = .ok (.ifCond .eq 8, 3) := by decide +kernel
theorem dX6_findMove_90 : decode cX6_findMove 90 = .ok (.iload 6, 2) := by decide +kernel
theorem dX6_findMove_92 : decode cX6_findMove 92 = .ok (.goto 4, 3) := by decide +kernel
theorem dX6_findMove_95 : decode cX6_findMove 95 = .ok (.iconst (-1), 1) := by decide +kernel
theorem dX6_findMove_96 : decode cX6_findMove 96 = .ok (.putfield 87, 3) := by decide +kernel
theorem dX6_findMove_99 : decode cX6_findMove 99 = .ok (.return_, 1) := by decide +kernel
theorem dX6_findMove_100 : decode cX6_findMove 100 = .ok (.iinc 6 1, 3) := by decide +kernel
theorem dX6_findMove_103 : decode cX6_findMove 103 = .ok (.goto (-50), 3) := by decide +kernel
theorem dX6_findMove_106 : decode cX6_findMove 106 = .ok (.iinc 3 1, 3) := by decide +kernel
theorem dX6_findMove_109 : decode cX6_findMove 109 = .ok (.goto (-99), 3) := by decide +kernel
theorem dX6_findMove_112 : decode cX6_findMove 112 = .ok (.return_, 1) := by decide +kernel
theorem dX6_reaches_0 : decode cX6_reaches 0 = .ok (.aload_n 0, 1) := by decide +kernel
theorem dX6_reaches_1 : decode cX6_reaches 1 = .ok (.getfield 90, 3) := by decide +kernel
theorem dX6_reaches_4 : decode cX6_reaches 4 = .ok (.istore_n 2, 1) := by decide +kernel
theorem dX6_reaches_5 : decode cX6_reaches 5 = .ok (.aload_n 0, 1) := by decide +kernel
theorem dX6_reaches_6 : decode cX6_reaches 6 = .ok (.invokevirtual 50, 3) := by decide +kernel
theorem dX6_reaches_9 : decode cX6_reaches 9 = .ok (.aload_n 0, 1) := by decide +kernel
theorem dX6_reaches_10 : decode cX6_reaches 10 = .ok (.iload_n 2, 1) := by decide +kernel
theorem dX6_reaches_11 : decode cX6_reaches 11 = .ok (.iload_n 1, 1) := by decide +kernel
theorem dX6_reaches_12 : decode cX6_reaches 12 = .ok (.invokevirtual 65, 3) := by decide +kernel
theorem dX6_reaches_15 : decode cX6_reaches 15 = .ok (.aload_n 0, 1) := by decide +kernel
theorem dX6_reaches_16 : decode cX6_reaches 16 = .ok (.getfield 61, 3) := by decide +kernel
theorem dX6_reaches_19 : decode cX6_reaches 19 = .ok (.iload_n 1, 1) := by decide +kernel
theorem dX6_reaches_20 : decode cX6_reaches 20 = .ok (.if_icmp .lt 7, 3) := by decide +kernel
theorem dX6_reaches_23 : decode cX6_reaches 23 = .ok (.iconst 1, 1) := by decide +kernel
theorem dX6_reaches_24 : decode cX6_reaches 24 = .ok (.goto 4, 3) := by decide +kernel
theorem dX6_reaches_27 : decode cX6_reaches 27 = .ok (.iconst 0, 1) := by decide +kernel
theorem dX6_reaches_28 : decode cX6_reaches 28 = .ok (.ireturn, 1) := by decide +kernel
theorem dX6_clear_0 : decode cX6_clear 0 = .ok (.aload_n 0, 1) := by decide +kernel
theorem dX6_clear_1 : decode cX6_clear 1 = .ok (.getfield 30, 3) := by decide +kernel
theorem dX6_clear_4 : decode cX6_clear 4 = .ok (.aload_n 1, 1) := by decide +kernel
theorem dX6_clear_5 : decode cX6_clear 5 = .ok (.putfield 93, 3) := by decide +kernel
theorem dX6_clear_8 : decode cX6_clear 8 = .ok (.aload_n 0, 1) := by decide +kernel
theorem dX6_clear_9 : decode cX6_clear 9 = .ok (.getfield 34, 3) := by decide +kernel
theorem dX6_clear_12 : decode cX6_clear 12 = .ok (.aload_n 1, 1) := by decide +kernel
theorem dX6_clear_13 : decode cX6_clear 13 = .ok (.putfield 93, 3) := by decide +kernel
theorem dX6_clear_16 : decode cX6_clear 16 = .ok (.aload_n 0, 1) := by decide +kernel
theorem dX6_clear_17 : decode cX6_clear 17 = .ok (.getfield 19, 3) := by decide +kernel
theorem dX6_clear_20 : decode cX6_clear 20 = .ok (.iconst 0, 1) := by decide +kernel
theorem dX6_clear_21 : decode cX6_clear 21 = .ok (.invokestatic 94, 3) := by decide +kernel
theorem dX6_clear_24 : decode cX6_clear 24 = .ok (.aload_n 0, 1) := by decide +kernel
theorem dX6_clear_25 : decode cX6_clear 25 = .ok (.iconst 0, 1) := by decide +kernel
theorem dX6_clear_26 : decode cX6_clear 26 = .ok (.putfield 100, 3) := by decide +kernel
theorem dX6_clear_29 : decode cX6_clear 29 = .ok (.aload_n 0, 1) := by decide +kernel
theorem dX6_clear_30 : decode cX6_clear 30 = .ok (.iconst (-1), 1) := by decide +kernel
theorem dX6_clear_31 : decode cX6_clear 31 = .ok (.putfield 61, 3) := by decide +kernel
theorem dX6_clear_34 : decode cX6_clear 34 = .ok (.aload_n 0, 1) := by decide +kernel
theorem dX6_clear_35 : decode cX6_clear 35 = .ok (.iconst 0, 1) := by decide +kernel
theorem dX6_clear_36 : decode cX6_clear 36 = .ok (.putfield 90, 3) := by decide +kernel
theorem dX6_clear_39 : decode cX6_clear 39 = .ok (.aload_n 0, 1) := by decide +kernel
theorem dX6_clear_40 : decode cX6_clear 40 = .ok (.iconst (-1), 1) := by decide +kernel
theorem dX6_clear_41 : decode cX6_clear 41 = .ok (.putfield 84, 3) := by decide +kernel
theorem dX6_clear_44 : decode cX6_clear 44 = .ok (.aload_n 0, 1) := by decide +kernel
theorem dX6_clear_45 : decode cX6_clear 45 = .ok (.iconst (-1), 1) := by decide +kernel
theorem dX6_clear_46 : decode cX6_clear 46 = .ok (.putfield 87, 3) := by decide +kernel
theorem dX6_clear_49 : decode cX6_clear 49 = .ok (.return_, 1) := by decide +kernel
theorem dX6_step_0 : decode cX6_step 0 = .ok (.aload_n 1, 1) := by decide +kernel
theorem dX6_step_1 : decode cX6_step 1 = .ok (.aload_n 1, 1) := by decide +kernel
theorem dX6_step_2 : decode cX6_step 2 = .ok (.getfield 73, 3) := by decide +kernel
theorem dX6_step_5 : decode cX6_step 5 = .ok (.iload_n 3, 1) := by decide +kernel
theorem dX6_step_6 : decode cX6_step 6 = .ok (.invokevirtual 104, 3) := by decide +kernel
theorem dX6_step_9 : decode cX6_step 9 = .ok (.istore 4, 2) := by decide +kernel
theorem dX6_step_11 : decode cX6_step 11 = .ok (.aload_n 0, 1) := by decide +kernel
theorem dX6_step_12 : decode cX6_step 12 = .ok (.getfield 34, 3) := by decide +kernel
theorem dX6_step_15 : decode cX6_step 15 = .ok (.aload_n 1, 1) := by decide +kernel
theorem dX6_step_16 : decode cX6_step 16 = .ok (.invokevirtual 46, 3) := by decide +kernel
theorem dX6_step_19 : decode cX6_step 19 = .ok (.aload_n 0, 1) := by decide +kernel
theorem dX6_step_20 : decode cX6_step 20 = .ok (.getfield 34, 3) := by decide +kernel
theorem dX6_step_23 : decode cX6_step 23 = .ok (.iload_n 2, 1) := by decide +kernel
theorem dX6_step_24 : decode cX6_step 24 = .ok (.iload 4, 2) := by decide +kernel
theorem dX6_step_26 : decode cX6_step 26 = .ok (.invokevirtual 108, 3) := by decide +kernel
theorem dX6_step_29 : decode cX6_step 29 = .ok (.ifCond .ne 5, 3) := by decide +kernel
theorem dX6_step_32 : decode cX6_step 32 = .ok (.iconst 0, 1) := by decide +kernel
theorem dX6_step_33 : decode cX6_step 33 = .ok (.ireturn, 1) := by decide +kernel
theorem dX6_step_34 : decode cX6_step 34 = .ok (.aload_n 0, 1) := by decide +kernel
theorem dX6_step_35 : decode cX6_step 35 = .ok (.getfield 34, 3) := by decide +kernel
theorem dX6_step_38 : decode cX6_step 38 = .ok (.iload_n 2, 1) := by decide +kernel
theorem dX6_step_39 : decode cX6_step 39 = .ok (.iload 4, 2) := by decide +kernel
theorem dX6_step_41 : decode cX6_step 41 = .ok (.invokevirtual 112, 3) := by decide +kernel
theorem dX6_step_44 : decode cX6_step 44 = .ok (.iconst 1, 1) := by decide +kernel
theorem dX6_step_45 : decode cX6_step 45 = .ok (.ireturn, 1) := by decide +kernel
theorem dX6_spread_0 : decode cX6_spread 0 = .ok (.iload_n 1, 1) := by decide +kernel
theorem dX6_spread_1 : decode cX6_spread 1 = .ok (.istore_n 3, 1) := by decide +kernel
theorem dX6_spread_2 : decode cX6_spread 2 = .ok (.iload_n 3, 1) := by decide +kernel
theorem dX6_spread_3 : decode cX6_spread 3 = .ok (.aload_n 0, 1) := by decide +kernel
theorem dX6_spread_4 : decode cX6_spread 4 = .ok (.getfield 90, 3) := by decide +kernel
theorem dX6_spread_7 : decode cX6_spread 7 = .ok (.if_icmp .ge 173, 3) := by decide +kernel
theorem dX6_spread_10 : decode cX6_spread 10 = .ok (.iload_n 3, 1) := by decide +kernel
theorem dX6_spread_11 : decode cX6_spread 11 = .ok (.sipush 4000, 3) := by decide +kernel
theorem dX6_spread_14 : decode cX6_spread 14 = .ok (.if_icmp .ge 166, 3) := by decide +kernel
theorem dX6_spread_17 : decode cX6_spread 17 = .ok (.aload_n 0, 1) := by decide +kernel
theorem dX6_spread_18 : decode cX6_spread 18 = .ok (.getfield 100, 3) := by decide +kernel
theorem dX6_spread_21 : decode cX6_spread 21 = .ok (.ifCond .ne 159, 3) := by decide +kernel
theorem dX6_spread_24 : decode cX6_spread 24 = .ok (.aload_n 0, 1) := by decide +kernel
theorem dX6_spread_25 : decode cX6_spread 25 = .ok (.getfield 61, 3) := by decide +kernel
theorem dX6_spread_28 : decode cX6_spread 28 = .ok (.iload_n 2, 1) := by decide +kernel
theorem dX6_spread_29 : decode cX6_spread 29 = .ok (.if_icmp .ge 151, 3) := by decide +kernel
theorem dX6_spread_32 : decode cX6_spread 32 = .ok (.aload_n 0, 1) := by decide +kernel
theorem dX6_spread_33 : decode cX6_spread 33 = .ok (.getfield 30, 3) := by decide +kernel
theorem dX6_spread_36 : decode cX6_spread 36 = .ok (.aload_n 0, 1) := by decide +kernel
theorem dX6_spread_37 : decode cX6_spread 37 = .ok (.getfield 15, 3) := by decide +kernel
theorem dX6_spread_40 : decode cX6_spread 40 = .ok (.iload_n 3, 1) := by decide +kernel
theorem dX6_spread_41 : decode cX6_spread 41 = .ok (.iaload, 1) := by decide +kernel
theorem dX6_spread_42 : decode cX6_spread 42 = .ok (.invokevirtual 115, 3) := by decide +kernel
theorem dX6_spread_45 : decode cX6_spread 45 = .ok (.aload_n 0, 1) := by decide +kernel
theorem dX6_spread_46 : decode cX6_spread 46 = .ok (.getfield 11, 3) := by decide +kernel
theorem dX6_spread_49 : decode cX6_spread 49 = .ok (.iload_n 3, 1) := by decide +kernel
theorem dX6_spread_50 : decode cX6_spread 50 = .ok (.iconst 4, 1) := by decide +kernel
theorem dX6_spread_51 : decode cX6_spread 51 = .ok (.imul, 1) := by decide +kernel
theorem dX6_spread_52 : decode cX6_spread 52 = .ok (.aload_n 0, 1) := by decide +kernel
theorem dX6_spread_53 : decode cX6_spread 53 = .ok (.getfield 30, 3) := by decide +kernel
theorem dX6_spread_56 : decode cX6_spread 56 = .ok (.getfield 119, 3) := by decide +kernel
theorem dX6_spread_59 : decode cX6_spread 59 = .ok (.iconst 0, 1) := by decide +kernel
theorem dX6_spread_60 : decode cX6_spread 60 = .ok (.iconst 4, 1) := by decide +kernel
theorem dX6_spread_61 : decode cX6_spread 61 = .ok (.invokestatic 120, 3) := by decide +kernel
theorem dX6_spread_64 : decode cX6_spread 64 = .ok (.aload_n 0, 1) := by decide +kernel
theorem dX6_spread_65 : decode cX6_spread 65 = .ok (.aload_n 0, 1) := by decide +kernel
theorem dX6_spread_66 : decode cX6_spread 66 = .ok (.getfield 61, 3) := by decide +kernel
theorem dX6_spread_69 : decode cX6_spread 69 = .ok (.aload_n 0, 1) := by decide +kernel
theorem dX6_spread_70 : decode cX6_spread 70 = .ok (.getfield 30, 3) := by decide +kernel
theorem dX6_spread_73 : decode cX6_spread 73 = .ok (.invokevirtual 126, 3) := by decide +kernel
theorem dX6_spread_76 : decode cX6_spread 76 = .ok (.invokestatic 129, 3) := by decide +kernel
theorem dX6_spread_79 : decode cX6_spread 79 = .ok (.putfield 61, 3) := by decide +kernel
theorem dX6_spread_82 : decode cX6_spread 82 = .ok (.aload_n 0, 1) := by decide +kernel
theorem dX6_spread_83 : decode cX6_spread 83 = .ok (.getfield 30, 3) := by decide +kernel
theorem dX6_spread_86 : decode cX6_spread 86 = .ok (.invokevirtual 134, 3) := by decide +kernel
theorem dX6_spread_89 : decode cX6_spread 89 = .ok (.ifCond .eq 6, 3) := by decide +kernel
theorem dX6_spread_92 : decode cX6_spread 92 = .ok (.goto 82, 3) := by decide +kernel
theorem dX6_spread_95 : decode cX6_spread 95 = .ok (.aload_n 0, 1) := by decide +kernel
theorem dX6_spread_96 : decode cX6_spread 96 = .ok (.getfield 30, 3) := by decide +kernel
theorem dX6_spread_99 : decode cX6_spread 99 = .ok (.invokevirtual 137, 3) := by decide +kernel
theorem dX6_spread_102 : decode cX6_spread 102 = .ok (.lstore 4, 2) := by decide +kernel
theorem dX6_spread_104 : decode cX6_spread 104 = .ok (.iconst 0, 1) := by decide +kernel
theorem dX6_spread_105 : decode cX6_spread 105 = .ok (.istore 6, 2) := by decide +kernel
theorem dX6_spread_107 : decode cX6_spread 107 = .ok (.iload 6, 2) := by decide +kernel
theorem dX6_spread_109 : decode cX6_spread 109 = .ok (.iconst 5, 1) := by decide +kernel
theorem dX6_spread_110 : decode cX6_spread 110 = .ok (.if_icmp .ge 52, 3) := by decide +kernel
theorem dX6_spread_113 : decode cX6_spread 113 = .ok (.lload 4, 2) := by decide +kernel
theorem dX6_spread_115 : decode cX6_spread 115 = .ok (.lconst 0, 1) := by decide +kernel
theorem dX6_spread_116 : decode cX6_spread 116 = .ok (.lcmp, 1) := by decide +kernel
theorem dX6_spread_117 : decode cX6_spread 117 = .ok (.ifCond .eq 45, 3) := by decide +kernel
theorem dX6_spread_120 : decode cX6_spread 120 = .ok (.lload 4, 2) := by decide +kernel
theorem dX6_spread_122 : decode cX6_spread 122 = .ok (.lload 4, 2) := by decide +kernel
theorem dX6_spread_124 : decode cX6_spread 124 = .ok (.lneg, 1) := by decide +kernel
theorem dX6_spread_125 : decode cX6_spread 125 = .ok (.land, 1) := by decide +kernel
theorem dX6_spread_126 : decode cX6_spread 126 = .ok (.lconst 1, 1) := by decide +kernel
theorem dX6_spread_127 : decode cX6_spread 127 = .ok (.lsub, 1) := by decide +kernel
theorem dX6_spread_128 : decode cX6_spread 128 = .ok (.invokestatic 141, 3) := by decide +kernel
theorem dX6_spread_131 : decode cX6_spread 131 = .ok (.istore 7, 2) := by decide +kernel
theorem dX6_spread_133 : decode cX6_spread 133 = .ok (.aload_n 0, 1) := by decide +kernel
theorem dX6_spread_134 : decode cX6_spread 134 = .ok (.iconst 0, 1) := by decide +kernel
theorem dX6_spread_135 : decode cX6_spread 135 = .ok (.iload 7, 2) := by decide +kernel
theorem dX6_spread_137 : decode cX6_spread 137 = .ok (.invokevirtual 147, 3) := by decide +kernel
theorem dX6_spread_140 : decode cX6_spread 140 = .ok (.aload_n 0, 1) := by decide +kernel
theorem dX6_spread_141 : decode cX6_spread 141 = .ok (.iconst 1, 1) := by decide +kernel
theorem dX6_spread_142 : decode cX6_spread 142 = .ok (.iload 7, 2) := by decide +kernel
theorem dX6_spread_144 : decode cX6_spread 144 = .ok (.invokevirtual 147, 3) := by decide +kernel
theorem dX6_spread_147 : decode cX6_spread 147 = .ok (.lload 4, 2) := by decide +kernel
theorem dX6_spread_149 : decode cX6_spread 149 = .ok (.lload 4, 2) := by decide +kernel
theorem dX6_spread_151 : decode cX6_spread 151 = .ok (.lconst 1, 1) := by decide +kernel
theorem dX6_spread_152 : decode cX6_spread 152 = .ok (.lsub, 1) := by decide +kernel
theorem dX6_spread_153 : decode cX6_spread 153 = .ok (.land, 1) := by decide +kernel
theorem dX6_spread_154 : decode cX6_spread 154 = .ok (.lstore 4, 2) := by decide +kernel
theorem dX6_spread_156 : decode cX6_spread 156 = .ok (.iinc 6 1, 3) := by decide +kernel
theorem dX6_spread_159 : decode cX6_spread 159 = .ok (.goto (-52), 3) := by decide +kernel
theorem dX6_spread_162 : decode cX6_spread 162 = .ok (.aload_n 0, 1) := by decide +kernel
theorem dX6_spread_163 : decode cX6_spread 163 = .ok (.iconst 2, 1) := by decide +kernel
theorem dX6_spread_164 : decode cX6_spread 164 = .ok (.iconst (-1), 1) := by decide +kernel
theorem dX6_spread_165 : decode cX6_spread 165 = .ok (.invokevirtual 147, 3) := by decide +kernel
theorem dX6_spread_168 : decode cX6_spread 168 = .ok (.aload_n 0, 1) := by decide +kernel
theorem dX6_spread_169 : decode cX6_spread 169 = .ok (.iconst 3, 1) := by decide +kernel
theorem dX6_spread_170 : decode cX6_spread 170 = .ok (.iconst (-1), 1) := by decide +kernel
theorem dX6_spread_171 : decode cX6_spread 171 = .ok (.invokevirtual 147, 3) := by decide +kernel
theorem dX6_spread_174 : decode cX6_spread 174 = .ok (.iinc 3 1, 3) := by decide +kernel
theorem dX6_spread_177 : decode cX6_spread 177 = .ok (.goto (-175), 3) := by decide +kernel
theorem dX6_spread_180 : decode cX6_spread 180 = .ok (.return_, 1) := by decide +kernel
theorem dX6_addBehind_0 : decode cX6_addBehind 0 = .ok (.aload_n 0, 1) := by decide +kernel
theorem dX6_addBehind_1 : decode cX6_addBehind 1 = .ok (.getfield 30, 3) := by decide +kernel
theorem dX6_addBehind_4 : decode cX6_addBehind 4 = .ok (.iload_n 1, 1) := by decide +kernel
theorem dX6_addBehind_5 : decode cX6_addBehind 5 = .ok (.iload_n 2, 1) := by decide +kernel
theorem dX6_addBehind_6 : decode cX6_addBehind 6 = .ok (.invokevirtual 108, 3) := by decide +kernel
theorem dX6_addBehind_9 : decode cX6_addBehind 9 = .ok (.ifCond .eq 27, 3) := by decide +kernel
theorem dX6_addBehind_12 : decode cX6_addBehind 12 = .ok (.aload_n 0, 1) := by decide +kernel
theorem dX6_addBehind_13 : decode cX6_addBehind 13 = .ok (.getfield 34, 3) := by decide +kernel
theorem dX6_addBehind_16 : decode cX6_addBehind 16 = .ok (.aload_n 0, 1) := by decide +kernel
theorem dX6_addBehind_17 : decode cX6_addBehind 17 = .ok (.getfield 30, 3) := by decide +kernel
theorem dX6_addBehind_20 : decode cX6_addBehind 20 = .ok (.invokevirtual 150, 3) := by decide +kernel
theorem dX6_addBehind_23 : decode cX6_addBehind 23 = .ok (.aload_n 0, 1) := by decide +kernel
theorem dX6_addBehind_24 : decode cX6_addBehind 24 = .ok (.getfield 34, 3) := by decide +kernel
theorem dX6_addBehind_27 : decode cX6_addBehind 27 = .ok (.iload_n 1, 1) := by decide +kernel
theorem dX6_addBehind_28 : decode cX6_addBehind 28 = .ok (.iload_n 2, 1) := by decide +kernel
theorem dX6_addBehind_29 : decode cX6_addBehind 29 = .ok (.invokevirtual 112, 3) := by decide +kernel
theorem dX6_addBehind_32 : decode cX6_addBehind 32 = .ok (.aload_n 0, 1) := by decide +kernel
theorem dX6_addBehind_33 : decode cX6_addBehind 33 = .ok (.invokevirtual 50, 3) := by decide +kernel
theorem dX6_addBehind_36 : decode cX6_addBehind 36 = .ok (.return_, 1) := by decide +kernel
theorem dX6_add_0 : decode cX6_add 0 = .ok (.aload_n 0, 1) := by decide +kernel
theorem dX6_add_1 : decode cX6_add 1 = .ok (.getfield 34, 3) := by decide +kernel
theorem dX6_add_4 : decode cX6_add 4 = .ok (.invokevirtual 154, 3) := by decide +kernel
theorem dX6_add_7 : decode cX6_add 7 = .ok (.istore_n 1, 1) := by decide +kernel
theorem dX6_add_8 : decode cX6_add 8 = .ok (.aload_n 0, 1) := by decide +kernel
theorem dX6_add_9 : decode cX6_add 9 = .ok (.iload_n 1, 1) := by decide +kernel
theorem dX6_add_10 : decode cX6_add 10 = .ok (.invokevirtual 157, 3) := by decide +kernel
theorem dX6_add_13 : decode cX6_add 13 = .ok (.istore_n 2, 1) := by decide +kernel
theorem dX6_add_14 : decode cX6_add 14 = .ok (.iconst 0, 1) := by decide +kernel
theorem dX6_add_15 : decode cX6_add 15 = .ok (.istore_n 3, 1) := by decide +kernel
theorem dX6_add_16 : decode cX6_add 16 = .ok (.iload_n 3, 1) := by decide +kernel
theorem dX6_add_17 : decode cX6_add 17 = .ok (.sipush 8192, 3) := by decide +kernel
theorem dX6_add_20 : decode cX6_add 20 = .ok (.if_icmp .ge 59, 3) := by decide +kernel
theorem dX6_add_23 : decode cX6_add 23 = .ok (.aload_n 0, 1) := by decide +kernel
theorem dX6_add_24 : decode cX6_add 24 = .ok (.getfield 19, 3) := by decide +kernel
theorem dX6_add_27 : decode cX6_add 27 = .ok (.iload_n 2, 1) := by decide +kernel
theorem dX6_add_28 : decode cX6_add 28 = .ok (.iaload, 1) := by decide +kernel
theorem dX6_add_29 : decode cX6_add 29 = .ok (.ifCond .ne 10, 3) := by decide +kernel
theorem dX6_add_32 : decode cX6_add 32 = .ok (.aload_n 0, 1) := by decide +kernel
theorem dX6_add_33 : decode cX6_add 33 = .ok (.iload_n 2, 1) := by decide +kernel
theorem dX6_add_34 : decode cX6_add 34 = .ok (.iload_n 1, 1) := by decide +kernel
theorem dX6_add_35 : decode cX6_add 35 = .ok (.invokevirtual 160, 3) := by decide +kernel
theorem dX6_add_38 : decode cX6_add 38 = .ok (.return_, 1) := by decide +kernel
theorem dX6_add_39 : decode cX6_add 39 = .ok (.aload_n 0, 1) := by decide +kernel
theorem dX6_add_40 : decode cX6_add 40 = .ok (.aload_n 0, 1) := by decide +kernel
theorem dX6_add_41 : decode cX6_add 41 = .ok (.getfield 19, 3) := by decide +kernel
theorem dX6_add_44 : decode cX6_add 44 = .ok (.iload_n 2, 1) := by decide +kernel
theorem dX6_add_45 : decode cX6_add 45 = .ok (.iaload, 1) := by decide +kernel
theorem dX6_add_46 : decode cX6_add 46 = .ok (.iconst 1, 1) := by decide +kernel
theorem dX6_add_47 : decode cX6_add 47 = .ok (.isub, 1) := by decide +kernel
theorem dX6_add_48 : decode cX6_add 48 = .ok (.iload_n 1, 1) := by decide +kernel
theorem dX6_add_49 : decode cX6_add 49 = .ok (.invokevirtual 163, 3) := by decide +kernel
theorem dX6_add_52 : decode cX6_add 52 = .ok (.ifCond .eq 4, 3) := by decide +kernel
theorem dX6_add_55 : decode cX6_add 55 = .ok (.return_, 1) := by decide +kernel
theorem dX6_add_56 : decode cX6_add 56 = .ok (.iload_n 2, 1) := by decide +kernel
theorem dX6_add_57 : decode cX6_add 57 = .ok (.iconst 1, 1) := by decide +kernel
theorem dX6_add_58 : decode cX6_add 58 = .ok (.iadd, 1) := by decide +kernel
theorem dX6_add_59 : decode cX6_add 59 = .ok (.sipush 8192, 3) := by decide +kernel
theorem dX6_add_62 : decode cX6_add 62 = .ok (.if_icmp .ge 9, 3) := by decide +kernel
theorem dX6_add_65 : decode cX6_add 65 = .ok (.iload_n 2, 1) := by decide +kernel
theorem dX6_add_66 : decode cX6_add 66 = .ok (.iconst 1, 1) := by decide +kernel
theorem dX6_add_67 : decode cX6_add 67 = .ok (.iadd, 1) := by decide +kernel
theorem dX6_add_68 : decode cX6_add 68 = .ok (.goto 4, 3) := by decide +kernel
theorem dX6_add_71 : decode cX6_add 71 = .ok (.iconst 0, 1) := by decide +kernel
theorem dX6_add_72 : decode cX6_add 72 = .ok (.istore_n 2, 1) := by decide +kernel
theorem dX6_add_73 : decode cX6_add 73 = .ok (.iinc 3 1, 3) := by decide +kernel
theorem dX6_add_76 : decode cX6_add 76 = .ok (.goto (-60), 3) := by decide +kernel
theorem dX6_add_79 : decode cX6_add 79 = .ok (.return_, 1) := by decide +kernel
theorem dX6_slotOf_0 : decode cX6_slotOf 0 = .ok (.iload_n 1, 1) := by decide +kernel
theorem dX6_slotOf_1 : decode cX6_slotOf 1 = .ok (.i2l, 1) := by decide +kernel
theorem dX6_slotOf_2 : decode cX6_slotOf 2 = .ok (.lstore_n 2, 1) := by decide +kernel
theorem dX6_slotOf_3 : decode cX6_slotOf 3 = .ok (.iconst 0, 1) := by decide +kernel
theorem dX6_slotOf_4 : decode cX6_slotOf 4 = .ok (.istore 4, 2) := by decide +kernel
theorem dX6_slotOf_6 : decode cX6_slotOf 6 = .ok (.iload 4, 2) := by decide +kernel
theorem dX6_slotOf_8 : decode cX6_slotOf 8 = .ok (.iconst 4, 1) := by decide +kernel
theorem dX6_slotOf_9 : decode cX6_slotOf 9 = .ok (.if_icmp .ge 31, 3) := by decide +kernel
theorem dX6_slotOf_12 : decode cX6_slotOf 12 = .ok (.lload_n 2, 1) := by decide +kernel
theorem dX6_slotOf_13 : decode cX6_slotOf 13 = .ok (.lload_n 2, 1) := by decide +kernel
theorem dX6_slotOf_14 : decode cX6_slotOf 14 = .ok (.bipush 29, 2) := by decide +kernel
theorem dX6_slotOf_16 : decode cX6_slotOf 16 = .ok (.lushr, 1) := by decide +kernel
theorem dX6_slotOf_17 : decode cX6_slotOf 17 = .ok (.lxor, 1) := by decide +kernel
theorem dX6_slotOf_18 : decode cX6_slotOf 18 = .ok (.ldc2_w 166, 3) := by decide +kernel
theorem dX6_slotOf_21 : decode cX6_slotOf 21 = .ok (.lmul, 1) := by decide +kernel
theorem dX6_slotOf_22 : decode cX6_slotOf 22 = .ok (.aload_n 0, 1) := by decide +kernel
theorem dX6_slotOf_23 : decode cX6_slotOf 23 = .ok (.getfield 34, 3) := by decide +kernel
theorem dX6_slotOf_26 : decode cX6_slotOf 26 = .ok (.getfield 119, 3) := by decide +kernel
theorem dX6_slotOf_29 : decode cX6_slotOf 29 = .ok (.iload 4, 2) := by decide +kernel
theorem dX6_slotOf_31 : decode cX6_slotOf 31 = .ok (.laload, 1) := by decide +kernel
theorem dX6_slotOf_32 : decode cX6_slotOf 32 = .ok (.ladd, 1) := by decide +kernel
theorem dX6_slotOf_33 : decode cX6_slotOf 33 = .ok (.lstore_n 2, 1) := by decide +kernel
theorem dX6_slotOf_34 : decode cX6_slotOf 34 = .ok (.iinc 4 1, 3) := by decide +kernel
theorem dX6_slotOf_37 : decode cX6_slotOf 37 = .ok (.goto (-31), 3) := by decide +kernel
theorem dX6_slotOf_40 : decode cX6_slotOf 40 = .ok (.lload_n 2, 1) := by decide +kernel
theorem dX6_slotOf_41 : decode cX6_slotOf 41 = .ok (.lload_n 2, 1) := by decide +kernel
theorem dX6_slotOf_42 : decode cX6_slotOf 42 = .ok (.bipush 32, 2) := by decide +kernel
theorem dX6_slotOf_44 : decode cX6_slotOf 44 = .ok (.lushr, 1) := by decide +kernel
theorem dX6_slotOf_45 : decode cX6_slotOf 45 = .ok (.lxor, 1) := by decide +kernel
theorem dX6_slotOf_46 : decode cX6_slotOf 46 = .ok (.ldc2_w 166, 3) := by decide +kernel
theorem dX6_slotOf_49 : decode cX6_slotOf 49 = .ok (.lmul, 1) := by decide +kernel
theorem dX6_slotOf_50 : decode cX6_slotOf 50 = .ok (.lstore_n 2, 1) := by decide +kernel
theorem dX6_slotOf_51 : decode cX6_slotOf 51 = .ok (.lload_n 2, 1) := by decide +kernel
theorem dX6_slotOf_52 : decode cX6_slotOf 52 = .ok (.bipush 51, 2) := by decide +kernel
theorem dX6_slotOf_54 : decode cX6_slotOf 54 = .ok (.lushr, 1) := by decide +kernel
theorem dX6_slotOf_55 : decode cX6_slotOf 55 = .ok (.l2i, 1) := by decide +kernel
theorem dX6_slotOf_56 : decode cX6_slotOf 56 = .ok (.ireturn, 1) := by decide +kernel
theorem dX6_isStored_0 : decode cX6_isStored 0 = .ok (.iload_n 1, 1) := by decide +kernel
theorem dX6_isStored_1 : decode cX6_isStored 1 = .ok (.ifCond .lt 20, 3) := by decide +kernel
theorem dX6_isStored_4 : decode cX6_isStored 4 = .ok (.iload_n 1, 1) := by decide +kernel
theorem dX6_isStored_5 : decode cX6_isStored 5 = .ok (.sipush 4000, 3) := by decide +kernel
theorem dX6_isStored_8 : decode cX6_isStored 8 = .ok (.if_icmp .ge 13, 3) := by decide +kernel
theorem dX6_isStored_11 : decode cX6_isStored 11 = .ok (.aload_n 0, 1) := by decide +kernel
theorem dX6_isStored_12 : decode cX6_isStored 12 = .ok (.getfield 15, 3) := by decide +kernel
theorem dX6_isStored_15 : decode cX6_isStored 15 = .ok (.iload_n 1, 1) := by decide +kernel
theorem dX6_isStored_16 : decode cX6_isStored 16 = .ok (.iaload, 1) := by decide +kernel
theorem dX6_isStored_17 : decode cX6_isStored 17 = .ok (.iload_n 2, 1) := by decide +kernel
theorem dX6_isStored_18 : decode cX6_isStored 18 = .ok (.if_icmp .eq 5, 3) := by decide +kernel
theorem dX6_isStored_21 : decode cX6_isStored 21 = .ok (.iconst 0, 1) := by decide +kernel
theorem dX6_isStored_22 : decode cX6_isStored 22 = .ok (.ireturn, 1) := by decide +kernel
theorem dX6_isStored_23 : decode cX6_isStored 23 = .ok (.iconst 0, 1) := by decide +kernel
theorem dX6_isStored_24 : decode cX6_isStored 24 = .ok (.istore_n 3, 1) := by decide +kernel
theorem dX6_isStored_25 : decode cX6_isStored 25 = .ok (.iload_n 3, 1) := by decide +kernel
theorem dX6_isStored_26 : decode cX6_isStored 26 = .ok (.iconst 4, 1) := by decide +kernel
theorem dX6_isStored_27 : decode cX6_isStored 27 = .ok (.if_icmp .ge 34, 3) := by decide +kernel
theorem dX6_isStored_30 : decode cX6_isStored 30 = .ok (.aload_n 0, 1) := by decide +kernel
theorem dX6_isStored_31 : decode cX6_isStored 31 = .ok (.getfield 11, 3) := by decide +kernel
theorem dX6_isStored_34 : decode cX6_isStored 34 = .ok (.iload_n 1, 1) := by decide +kernel
theorem dX6_isStored_35 : decode cX6_isStored 35 = .ok (.iconst 4, 1) := by decide +kernel
theorem dX6_isStored_36 : decode cX6_isStored 36 = .ok (.imul, 1) := by decide +kernel
theorem dX6_isStored_37 : decode cX6_isStored 37 = .ok (.iload_n 3, 1) := by decide +kernel
theorem dX6_isStored_38 : decode cX6_isStored 38 = .ok (.iadd, 1) := by decide +kernel
theorem dX6_isStored_39 : decode cX6_isStored 39 = .ok (.laload, 1) := by decide +kernel
theorem dX6_isStored_40 : decode cX6_isStored 40 = .ok (.aload_n 0, 1) := by decide +kernel
theorem dX6_isStored_41 : decode cX6_isStored 41 = .ok (.getfield 34, 3) := by decide +kernel
theorem dX6_isStored_44 : decode cX6_isStored 44 = .ok (.getfield 119, 3) := by decide +kernel
theorem dX6_isStored_47 : decode cX6_isStored 47 = .ok (.iload_n 3, 1) := by decide +kernel
theorem dX6_isStored_48 : decode cX6_isStored 48 = .ok (.laload, 1) := by decide +kernel
theorem dX6_isStored_49 : decode cX6_isStored 49 = .ok (.lcmp, 1) := by decide +kernel
theorem dX6_isStored_50 : decode cX6_isStored 50 = .ok (.ifCond .eq 5, 3) := by decide +kernel
theorem dX6_isStored_53 : decode cX6_isStored 53 = .ok (.iconst 0, 1) := by decide +kernel
theorem dX6_isStored_54 : decode cX6_isStored 54 = .ok (.ireturn, 1) := by decide +kernel
theorem dX6_isStored_55 : decode cX6_isStored 55 = .ok (.iinc 3 1, 3) := by decide +kernel
theorem dX6_isStored_58 : decode cX6_isStored 58 = .ok (.goto (-33), 3) := by decide +kernel
theorem dX6_isStored_61 : decode cX6_isStored 61 = .ok (.iconst 1, 1) := by decide +kernel
theorem dX6_isStored_62 : decode cX6_isStored 62 = .ok (.ireturn, 1) := by decide +kernel
theorem dX6_store_0 : decode cX6_store 0 = .ok (.aload_n 0, 1) := by decide +kernel
theorem dX6_store_1 : decode cX6_store 1 = .ok (.getfield 90, 3) := by decide +kernel
theorem dX6_store_4 : decode cX6_store 4 = .ok (.sipush 4000, 3) := by decide +kernel
theorem dX6_store_7 : decode cX6_store 7 = .ok (.if_icmp .lt 9, 3) := by decide +kernel
theorem dX6_store_10 : decode cX6_store 10 = .ok (.aload_n 0, 1) := by decide +kernel
theorem dX6_store_11 : decode cX6_store 11 = .ok (.iconst 1, 1) := by decide +kernel
theorem dX6_store_12 : decode cX6_store 12 = .ok (.putfield 100, 3) := by decide +kernel
theorem dX6_store_15 : decode cX6_store 15 = .ok (.return_, 1) := by decide +kernel
theorem dX6_store_16 : decode cX6_store 16 = .ok (.aload_n 0, 1) := by decide +kernel
theorem dX6_store_17 : decode cX6_store 17 = .ok (.getfield 15, 3) := by decide +kernel
theorem dX6_store_20 : decode cX6_store 20 = .ok (.aload_n 0, 1) := by decide +kernel
theorem dX6_store_21 : decode cX6_store 21 = .ok (.getfield 90, 3) := by decide +kernel
theorem dX6_store_24 : decode cX6_store 24 = .ok (.iload_n 2, 1) := by decide +kernel
theorem dX6_store_25 : decode cX6_store 25 = .ok (.iastore, 1) := by decide +kernel
theorem dX6_store_26 : decode cX6_store 26 = .ok (.aload_n 0, 1) := by decide +kernel
theorem dX6_store_27 : decode cX6_store 27 = .ok (.getfield 34, 3) := by decide +kernel
theorem dX6_store_30 : decode cX6_store 30 = .ok (.getfield 119, 3) := by decide +kernel
theorem dX6_store_33 : decode cX6_store 33 = .ok (.iconst 0, 1) := by decide +kernel
theorem dX6_store_34 : decode cX6_store 34 = .ok (.aload_n 0, 1) := by decide +kernel
theorem dX6_store_35 : decode cX6_store 35 = .ok (.getfield 11, 3) := by decide +kernel
theorem dX6_store_38 : decode cX6_store 38 = .ok (.aload_n 0, 1) := by decide +kernel
theorem dX6_store_39 : decode cX6_store 39 = .ok (.getfield 90, 3) := by decide +kernel
theorem dX6_store_42 : decode cX6_store 42 = .ok (.iconst 4, 1) := by decide +kernel
theorem dX6_store_43 : decode cX6_store 43 = .ok (.imul, 1) := by decide +kernel
theorem dX6_store_44 : decode cX6_store 44 = .ok (.iconst 4, 1) := by decide +kernel
theorem dX6_store_45 : decode cX6_store 45 = .ok (.invokestatic 120, 3) := by decide +kernel
theorem dX6_store_48 : decode cX6_store 48 = .ok (.aload_n 0, 1) := by decide +kernel
theorem dX6_store_49 : decode cX6_store 49 = .ok (.dup, 1) := by decide +kernel
theorem dX6_store_50 : decode cX6_store 50 = .ok (.getfield 90, 3) := by decide +kernel
theorem dX6_store_53 : decode cX6_store 53 = .ok (.iconst 1, 1) := by decide +kernel
theorem dX6_store_54 : decode cX6_store 54 = .ok (.iadd, 1) := by decide +kernel
theorem dX6_store_55 : decode cX6_store 55 = .ok (.putfield 90, 3) := by decide +kernel
theorem dX6_store_58 : decode cX6_store 58 = .ok (.aload_n 0, 1) := by decide +kernel
theorem dX6_store_59 : decode cX6_store 59 = .ok (.getfield 19, 3) := by decide +kernel
theorem dX6_store_62 : decode cX6_store 62 = .ok (.iload_n 1, 1) := by decide +kernel
theorem dX6_store_63 : decode cX6_store 63 = .ok (.aload_n 0, 1) := by decide +kernel
theorem dX6_store_64 : decode cX6_store 64 = .ok (.getfield 90, 3) := by decide +kernel
theorem dX6_store_67 : decode cX6_store 67 = .ok (.iastore, 1) := by decide +kernel
theorem dX6_store_68 : decode cX6_store 68 = .ok (.return_, 1) := by decide +kernel
theorem dX7_init_0 : decode cX7_init 0 = .ok (.aload_n 0, 1) := by decide +kernel
theorem dX7_init_1 : decode cX7_init 1 = .ok (.invokespecial 3, 3) := by decide +kernel
theorem dX7_init_4 : decode cX7_init 4 = .ok (.aload_n 0, 1) := by decide +kernel
theorem dX7_init_5 : decode cX7_init 5 = .ok (.sipush 600, 3) := by decide +kernel
theorem dX7_init_8 : decode cX7_init 8 = .ok (.newarray .int, 2) := by decide +kernel
theorem dX7_init_10 : decode cX7_init 10 = .ok (.putfield 9, 3) := by decide +kernel
theorem dX7_init_13 : decode cX7_init 13 = .ok (.aload_n 0, 1) := by decide +kernel
theorem dX7_init_14 : decode cX7_init 14 = .ok (.new 13, 3) := by decide +kernel
theorem dX7_init_17 : decode cX7_init 17 = .ok (.dup, 1) := by decide +kernel
theorem dX7_init_18 : decode cX7_init 18 = .ok (.aload_n 0, 1) := by decide +kernel
theorem dX7_init_19 : decode cX7_init 19 = .ok (.getfield 9, 3) := by decide +kernel
theorem dX7_init_22 : decode cX7_init 22 = .ok (.invokespecial 15, 3) := by decide +kernel
theorem dX7_init_25 : decode cX7_init 25 = .ok (.putfield 18, 3) := by decide +kernel
theorem dX7_init_28 : decode cX7_init 28 = .ok (.aload_n 0, 1) := by decide +kernel
theorem dX7_init_29 : decode cX7_init 29 = .ok (.bipush 20, 2) := by decide +kernel
theorem dX7_init_31 : decode cX7_init 31 = .ok (.anewarray 22, 3) := by decide +kernel
theorem dX7_init_34 : decode cX7_init 34 = .ok (.putfield 24, 3) := by decide +kernel
theorem dX7_init_37 : decode cX7_init 37 = .ok (.aload_n 0, 1) := by decide +kernel
theorem dX7_init_38 : decode cX7_init 38 = .ok (.iconst 2, 1) := by decide +kernel
theorem dX7_init_39 : decode cX7_init 39 = .ok (.anewarray 22, 3) := by decide +kernel
theorem dX7_init_42 : decode cX7_init 42 = .ok (.putfield 28, 3) := by decide +kernel
theorem dX7_init_45 : decode cX7_init 45 = .ok (.aload_n 0, 1) := by decide +kernel
theorem dX7_init_46 : decode cX7_init 46 = .ok (.iconst 2, 1) := by decide +kernel
theorem dX7_init_47 : decode cX7_init 47 = .ok (.newarray .boolean, 2) := by decide +kernel
theorem dX7_init_49 : decode cX7_init 49 = .ok (.putfield 31, 3) := by decide +kernel
theorem dX7_init_52 : decode cX7_init 52 = .ok (.aload_n 0, 1) := by decide +kernel
theorem dX7_init_53 : decode cX7_init 53 = .ok (.new 35, 3) := by decide +kernel
theorem dX7_init_56 : decode cX7_init 56 = .ok (.dup, 1) := by decide +kernel
theorem dX7_init_57 : decode cX7_init 57 = .ok (.invokespecial 37, 3) := by decide +kernel
theorem dX7_init_60 : decode cX7_init 60 = .ok (.putfield 38, 3) := by decide +kernel
theorem dX7_init_63 : decode cX7_init 63 = .ok (.aload_n 0, 1) := by decide +kernel
theorem dX7_init_64 : decode cX7_init 64 = .ok (.new 42, 3) := by decide +kernel
theorem dX7_init_67 : decode cX7_init 67 = .ok (.dup, 1) := by decide +kernel
theorem dX7_init_68 : decode cX7_init 68 = .ok (.aload_n 0, 1) := by decide +kernel
theorem dX7_init_69 : decode cX7_init 69 = .ok (.getfield 38, 3) := by decide +kernel
theorem dX7_init_72 : decode cX7_init 72 = .ok (.invokespecial 44, 3) := by decide +kernel
theorem dX7_init_75 : decode cX7_init 75 = .ok (.putfield 47, 3) := by decide +kernel
theorem dX7_init_78 : decode cX7_init 78 = .ok (.aload_n 0, 1) := by decide +kernel
theorem dX7_init_79 : decode cX7_init 79 = .ok (.new 51, 3) := by decide +kernel
theorem dX7_init_82 : decode cX7_init 82 = .ok (.dup, 1) := by decide +kernel
theorem dX7_init_83 : decode cX7_init 83 = .ok (.invokespecial 53, 3) := by decide +kernel
theorem dX7_init_86 : decode cX7_init 86 = .ok (.putfield 54, 3) := by decide +kernel
theorem dX7_init_89 : decode cX7_init 89 = .ok (.aload_n 0, 1) := by decide +kernel
theorem dX7_init_90 : decode cX7_init 90 = .ok (.bipush 15, 2) := by decide +kernel
theorem dX7_init_92 : decode cX7_init 92 = .ok (.newarray .int, 2) := by decide +kernel
theorem dX7_init_94 : decode cX7_init 94 = .ok (.putfield 58, 3) := by decide +kernel
theorem dX7_init_97 : decode cX7_init 97 = .ok (.new 61, 3) := by decide +kernel
theorem dX7_init_100 : decode cX7_init 100 = .ok (.dup, 1) := by decide +kernel
theorem dX7_init_101 : decode cX7_init 101 = .ok (.invokespecial 63, 3) := by decide +kernel
theorem dX7_init_104 : decode cX7_init 104 = .ok (.astore_n 1, 1) := by decide +kernel
theorem dX7_init_105 : decode cX7_init 105 = .ok (.aload_n 0, 1) := by decide +kernel
theorem dX7_init_106 : decode cX7_init 106 = .ok (.new 22, 3) := by decide +kernel
theorem dX7_init_109 : decode cX7_init 109 = .ok (.dup, 1) := by decide +kernel
theorem dX7_init_110 : decode cX7_init 110 = .ok (.aload_n 1, 1) := by decide +kernel
theorem dX7_init_111 : decode cX7_init 111 = .ok (.invokespecial 64, 3) := by decide +kernel
theorem dX7_init_114 : decode cX7_init 114 = .ok (.putfield 67, 3) := by decide +kernel
theorem dX7_init_117 : decode cX7_init 117 = .ok (.aload_n 0, 1) := by decide +kernel
theorem dX7_init_118 : decode cX7_init 118 = .ok (.new 22, 3) := by decide +kernel
theorem dX7_init_121 : decode cX7_init 121 = .ok (.dup, 1) := by decide +kernel
theorem dX7_init_122 : decode cX7_init 122 = .ok (.aload_n 1, 1) := by decide +kernel
theorem dX7_init_123 : decode cX7_init 123 = .ok (.invokespecial 64, 3) := by decide +kernel
theorem dX7_init_126 : decode cX7_init 126 = .ok (.putfield 71, 3) := by decide +kernel
theorem dX7_init_129 : decode cX7_init 129 = .ok (.iconst 0, 1) := by decide +kernel
theorem dX7_init_130 : decode cX7_init 130 = .ok (.istore_n 2, 1) := by decide +kernel
theorem dX7_init_131 : decode cX7_init 131 = .ok (.iload_n 2, 1) := by decide +kernel
theorem dX7_init_132 : decode cX7_init 132 = .ok (.bipush 20, 2) := by decide +kernel
theorem dX7_init_134 : decode cX7_init 134 = .ok (.if_icmp .ge 23, 3) := by decide +kernel
theorem dX7_init_137 : decode cX7_init 137 = .ok (.aload_n 0, 1) := by decide +kernel
theorem dX7_init_138 : decode cX7_init 138 = .ok (.getfield 24, 3) := by decide +kernel
theorem dX7_init_141 : decode cX7_init 141 = .ok (.iload_n 2, 1) := by decide +kernel
theorem dX7_init_142 : decode cX7_init 142 = .ok (.new 22, 3) := by decide +kernel
theorem dX7_init_145 : decode cX7_init 145 = .ok (.dup, 1) := by decide +kernel
theorem dX7_init_146 : decode cX7_init 146 = .ok (.aload_n 1, 1) := by decide +kernel
theorem dX7_init_147 : decode cX7_init 147 = .ok (.invokespecial 64, 3) := by decide +kernel
theorem dX7_init_150 : decode cX7_init 150 = .ok (.aastore, 1) := by decide +kernel
theorem dX7_init_151 : decode cX7_init 151 = .ok (.iinc 2 1, 3) := by decide +kernel
theorem dX7_init_154 : decode cX7_init 154 = .ok (.goto (-23), 3) := by decide +kernel
theorem dX7_init_157 : decode cX7_init 157 = .ok (.iconst 0, 1) := by decide +kernel
theorem dX7_init_158 : decode cX7_init 158 = .ok (.istore_n 2, 1) := by decide +kernel
theorem dX7_init_159 : decode cX7_init 159 = .ok (.iload_n 2, 1) := by decide +kernel
theorem dX7_init_160 : decode cX7_init 160 = .ok (.iconst 2, 1) := by decide +kernel
theorem dX7_init_161 : decode cX7_init 161 = .ok (.if_icmp .ge 23, 3) := by decide +kernel
theorem dX7_init_164 : decode cX7_init 164 = .ok (.aload_n 0, 1) := by decide +kernel
theorem dX7_init_165 : decode cX7_init 165 = .ok (.getfield 28, 3) := by decide +kernel
theorem dX7_init_168 : decode cX7_init 168 = .ok (.iload_n 2, 1) := by decide +kernel
theorem dX7_init_169 : decode cX7_init 169 = .ok (.new 22, 3) := by decide +kernel
theorem dX7_init_172 : decode cX7_init 172 = .ok (.dup, 1) := by decide +kernel
theorem dX7_init_173 : decode cX7_init 173 = .ok (.aload_n 1, 1) := by decide +kernel
theorem dX7_init_174 : decode cX7_init 174 = .ok (.invokespecial 64, 3) := by decide +kernel
theorem dX7_init_177 : decode cX7_init 177 = .ok (.aastore, 1) := by decide +kernel
theorem dX7_init_178 : decode cX7_init 178 = .ok (.iinc 2 1, 3) := by decide +kernel
theorem dX7_init_181 : decode cX7_init 181 = .ok (.goto (-22), 3) := by decide +kernel
theorem dX7_init_184 : decode cX7_init 184 = .ok (.return_, 1) := by decide +kernel
theorem dX7_append_0 : decode cX7_append 0 = .ok (.iconst 0, 1) := by decide +kernel
theorem dX7_append_1 : decode cX7_append 1 = .ok (.istore_n 3, 1) := by decide +kernel
theorem dX7_append_2 : decode cX7_append 2 = .ok (.bipush 56, 2) := by decide +kernel
theorem dX7_append_4 : decode cX7_append 4 = .ok (.istore 4, 2) := by decide +kernel
theorem dX7_append_6 : decode cX7_append 6 = .ok (.iload 4, 2) := by decide +kernel
theorem dX7_append_8 : decode cX7_append 8 = .ok (.ifCond .lt 25, 3) := by decide +kernel
theorem dX7_append_11 : decode cX7_append 11 = .ok (.lload_n 1, 1) := by decide +kernel
theorem dX7_append_12 : decode cX7_append 12 = .ok (.iload 4, 2) := by decide +kernel
theorem dX7_append_14 : decode cX7_append 14 = .ok (.lushr, 1) := by decide +kernel
theorem dX7_append_15 : decode cX7_append 15 = .ok (.ldc2_w 74, 3) := by decide +kernel
theorem dX7_append_18 : decode cX7_append 18 = .ok (.land, 1) := by decide +kernel
theorem dX7_append_19 : decode cX7_append 19 = .ok (.lconst 0, 1) := by decide +kernel
theorem dX7_append_20 : decode cX7_append 20 = .ok (.lcmp, 1) := by decide +kernel
theorem dX7_append_21 : decode cX7_append 21 = .ok (.ifCond .eq 6, 3) := by decide +kernel
theorem dX7_append_24 : decode cX7_append 24 = .ok (.iinc 3 1, 3) := by decide +kernel
theorem dX7_append_27 : decode cX7_append 27 = .ok (.iinc 4 (-8), 3) := by decide +kernel
theorem dX7_append_30 : decode cX7_append 30 = .ok (.goto (-24), 3) := by decide +kernel
theorem dX7_append_33 : decode cX7_append 33 = .ok (.aload_n 0, 1) := by decide +kernel
theorem dX7_append_34 : decode cX7_append 34 = .ok (.getfield 76, 3) := by decide +kernel
theorem dX7_append_37 : decode cX7_append 37 = .ok (.iload_n 3, 1) := by decide +kernel
theorem dX7_append_38 : decode cX7_append 38 = .ok (.iadd, 1) := by decide +kernel
theorem dX7_append_39 : decode cX7_append 39 = .ok (.sipush 600, 3) := by decide +kernel
theorem dX7_append_42 : decode cX7_append 42 = .ok (.if_icmp .le 6, 3) := by decide +kernel
theorem dX7_append_45 : decode cX7_append 45 = .ok (.bipush (-2), 2) := by decide +kernel
theorem dX7_append_47 : decode cX7_append 47 = .ok (.ireturn, 1) := by decide +kernel
theorem dX7_append_48 : decode cX7_append 48 = .ok (.bipush 56, 2) := by decide +kernel
theorem dX7_append_50 : decode cX7_append 50 = .ok (.istore 4, 2) := by decide +kernel
theorem dX7_append_52 : decode cX7_append 52 = .ok (.iload 4, 2) := by decide +kernel
theorem dX7_append_54 : decode cX7_append 54 = .ok (.ifCond .lt 56, 3) := by decide +kernel
theorem dX7_append_57 : decode cX7_append 57 = .ok (.lload_n 1, 1) := by decide +kernel
theorem dX7_append_58 : decode cX7_append 58 = .ok (.iload 4, 2) := by decide +kernel
theorem dX7_append_60 : decode cX7_append 60 = .ok (.lushr, 1) := by decide +kernel
theorem dX7_append_61 : decode cX7_append 61 = .ok (.ldc2_w 74, 3) := by decide +kernel
theorem dX7_append_64 : decode cX7_append 64 = .ok (.land, 1) := by decide +kernel
theorem dX7_append_65 : decode cX7_append 65 = .ok (.l2i, 1) := by decide +kernel
theorem dX7_append_66 : decode cX7_append 66 = .ok (.istore 5, 2) := by decide +kernel
theorem dX7_append_68 : decode cX7_append 68 = .ok (.iload 5, 2) := by decide +kernel
theorem dX7_append_70 : decode cX7_append 70 = .ok (.ifCond .eq 34, 3) := by decide +kernel
theorem dX7_append_73 : decode cX7_append 73 = .ok (.aload_n 0, 1) := by decide +kernel
theorem dX7_append_74 : decode cX7_append 74 = .ok (.getfield 76, 3) := by decide +kernel
theorem dX7_append_77 : decode cX7_append 77 = .ok (.sipush 600, 3) := by decide +kernel
theorem dX7_append_80 : decode cX7_append 80 = .ok (.if_icmp .ge 24, 3) := by decide +kernel
theorem dX7_append_83 : decode cX7_append 83 = .ok (.aload_n 0, 1) := by decide +kernel
theorem dX7_append_84 : decode cX7_append 84 = .ok (.getfield 9, 3) := by decide +kernel
theorem dX7_append_87 : decode cX7_append 87 = .ok (.aload_n 0, 1) := by decide +kernel
theorem dX7_append_88 : decode cX7_append 88 = .ok (.getfield 76, 3) := by decide +kernel
theorem dX7_append_91 : decode cX7_append 91 = .ok (.iload 5, 2) := by decide +kernel
theorem dX7_append_93 : decode cX7_append 93 = .ok (.iastore, 1) := by decide +kernel
theorem dX7_append_94 : decode cX7_append 94 = .ok (.aload_n 0, 1) := by decide +kernel
theorem dX7_append_95 : decode cX7_append 95 = .ok (.dup, 1) := by decide +kernel
theorem dX7_append_96 : decode cX7_append 96 = .ok (.getfield 76, 3) := by decide +kernel
theorem dX7_append_99 : decode cX7_append 99 = .ok (.iconst 1, 1) := by decide +kernel
theorem dX7_append_100 : decode cX7_append 100 = .ok (.iadd, 1) := by decide +kernel
theorem dX7_append_101 : decode cX7_append 101 = .ok (.putfield 76, 3) := by decide +kernel
theorem dX7_append_104 : decode cX7_append 104 = .ok (.iinc 4 (-8), 3) := by decide +kernel
theorem dX7_append_107 : decode cX7_append 107 = .ok (.goto (-55), 3) := by decide +kernel
theorem dX7_append_110 : decode cX7_append 110 = .ok (.aload_n 0, 1) := by decide +kernel
theorem dX7_append_111 : decode cX7_append 111 = .ok (.getfield 76, 3) := by decide +kernel
theorem dX7_append_114 : decode cX7_append 114 = .ok (.ireturn, 1) := by decide +kernel
theorem dX7_load_0 : decode cX7_load 0 = .ok (.aload_n 0, 1) := by decide +kernel
theorem dX7_load_1 : decode cX7_load 1 = .ok (.getfield 18, 3) := by decide +kernel
theorem dX7_load_4 : decode cX7_load 4 = .ok (.aload_n 0, 1) := by decide +kernel
theorem dX7_load_5 : decode cX7_load 5 = .ok (.getfield 76, 3) := by decide +kernel
theorem dX7_load_8 : decode cX7_load 8 = .ok (.invokevirtual 80, 3) := by decide +kernel
theorem dX7_load_11 : decode cX7_load 11 = .ok (.aload_n 0, 1) := by decide +kernel
theorem dX7_load_12 : decode cX7_load 12 = .ok (.iconst 0, 1) := by decide +kernel
theorem dX7_load_13 : decode cX7_load 13 = .ok (.putfield 76, 3) := by decide +kernel
theorem dX7_load_16 : decode cX7_load 16 = .ok (.aload_n 0, 1) := by decide +kernel
theorem dX7_load_17 : decode cX7_load 17 = .ok (.getfield 18, 3) := by decide +kernel
theorem dX7_load_20 : decode cX7_load 20 = .ok (.getfield 84, 3) := by decide +kernel
theorem dX7_load_23 : decode cX7_load 23 = .ok (.ifCond .eq 14, 3) := by decide +kernel
theorem dX7_load_26 : decode cX7_load 26 = .ok (.bipush (-100), 2) := by decide +kernel
theorem dX7_load_28 : decode cX7_load 28 = .ok (.aload_n 0, 1) := by decide +kernel
theorem dX7_load_29 : decode cX7_load 29 = .ok (.getfield 18, 3) := by decide +kernel
theorem dX7_load_32 : decode cX7_load 32 = .ok (.getfield 87, 3) := by decide +kernel
theorem dX7_load_35 : decode cX7_load 35 = .ok (.isub, 1) := by decide +kernel
theorem dX7_load_36 : decode cX7_load 36 = .ok (.ireturn, 1) := by decide +kernel
theorem dX7_load_37 : decode cX7_load 37 = .ok (.aload_n 0, 1) := by decide +kernel
theorem dX7_load_38 : decode cX7_load 38 = .ok (.getfield 67, 3) := by decide +kernel
theorem dX7_load_41 : decode cX7_load 41 = .ok (.aload_n 0, 1) := by decide +kernel
theorem dX7_load_42 : decode cX7_load 42 = .ok (.getfield 18, 3) := by decide +kernel
theorem dX7_load_45 : decode cX7_load 45 = .ok (.getfield 90, 3) := by decide +kernel
theorem dX7_load_48 : decode cX7_load 48 = .ok (.invokevirtual 94, 3) := by decide +kernel
theorem dX7_load_51 : decode cX7_load 51 = .ok (.aload_n 0, 1) := by decide +kernel
theorem dX7_load_52 : decode cX7_load 52 = .ok (.iconst 0, 1) := by decide +kernel
theorem dX7_load_53 : decode cX7_load 53 = .ok (.putfield 97, 3) := by decide +kernel
theorem dX7_load_56 : decode cX7_load 56 = .ok (.aload_n 0, 1) := by decide +kernel
theorem dX7_load_57 : decode cX7_load 57 = .ok (.getfield 67, 3) := by decide +kernel
theorem dX7_load_60 : decode cX7_load 60 = .ok (.getfield 100, 3) := by decide +kernel
theorem dX7_load_63 : decode cX7_load 63 = .ok (.getfield 101, 3) := by decide +kernel
theorem dX7_load_66 : decode cX7_load 66 = .ok (.ireturn, 1) := by decide +kernel
theorem dX7_loadError_0 : decode cX7_loadError 0 = .ok (.aload_n 0, 1) := by decide +kernel
theorem dX7_loadError_1 : decode cX7_loadError 1 = .ok (.getfield 18, 3) := by decide +kernel
theorem dX7_loadError_4 : decode cX7_loadError 4 = .ok (.getfield 84, 3) := by decide +kernel
theorem dX7_loadError_7 : decode cX7_loadError 7 = .ok (.ireturn, 1) := by decide +kernel
theorem dX7_loadStatement_0 : decode cX7_loadStatement 0 = .ok (.aload_n 0, 1) := by decide +kernel
theorem dX7_loadStatement_1 : decode cX7_loadStatement 1 = .ok (.getfield 18, 3) := by decide +kernel
theorem dX7_loadStatement_4 : decode cX7_loadStatement 4 = .ok (.getfield 104, 3) := by decide +kernel
theorem dX7_loadStatement_7 : decode cX7_loadStatement 7 = .ok (.ireturn, 1) := by decide +kernel
theorem dX7_count_0 : decode cX7_count 0 = .ok (.iload_n 1, 1) := by decide +kernel
theorem dX7_count_1 : decode cX7_count 1 = .ok (.tableswitch 167 0 10 #[59, 70, 81, 92, 103, 122, 130, 138, 146, 154, 162], 59) := by decide +kernel
theorem dX7_count_60 : decode cX7_count 60 = .ok (.aload_n 0, 1) := by decide +kernel
theorem dX7_count_61 : decode cX7_count 61 = .ok (.getfield 67, 3) := by decide +kernel
theorem dX7_count_64 : decode cX7_count 64 = .ok (.getfield 100, 3) := by decide +kernel
theorem dX7_count_67 : decode cX7_count 67 = .ok (.getfield 107, 3) := by decide +kernel
theorem dX7_count_70 : decode cX7_count 70 = .ok (.ireturn, 1) := by decide +kernel
theorem dX7_count_71 : decode cX7_count 71 = .ok (.aload_n 0, 1) := by decide +kernel
theorem dX7_count_72 : decode cX7_count 72 = .ok (.getfield 67, 3) := by decide +kernel
theorem dX7_count_75 : decode cX7_count 75 = .ok (.getfield 100, 3) := by decide +kernel
theorem dX7_count_78 : decode cX7_count 78 = .ok (.getfield 110, 3) := by decide +kernel
theorem dX7_count_81 : decode cX7_count 81 = .ok (.ireturn, 1) := by decide +kernel
theorem dX7_count_82 : decode cX7_count 82 = .ok (.aload_n 0, 1) := by decide +kernel
theorem dX7_count_83 : decode cX7_count 83 = .ok (.getfield 67, 3) := by decide +kernel
theorem dX7_count_86 : decode cX7_count 86 = .ok (.getfield 100, 3) := by decide +kernel
theorem dX7_count_89 : decode cX7_count 89 = .ok (.getfield 113, 3) := by decide +kernel
theorem dX7_count_92 : decode cX7_count 92 = .ok (.ireturn, 1) := by decide +kernel
theorem dX7_count_93 : decode cX7_count 93 = .ok (.aload_n 0, 1) := by decide +kernel
theorem dX7_count_94 : decode cX7_count 94 = .ok (.getfield 67, 3) := by decide +kernel
theorem dX7_count_97 : decode cX7_count 97 = .ok (.getfield 100, 3) := by decide +kernel
theorem dX7_count_100 : decode cX7_count 100 = .ok (.getfield 116, 3) := by decide +kernel
theorem dX7_count_103 : decode cX7_count 103 = .ok (.ireturn, 1) := by decide +kernel
theorem dX7_count_104 : decode cX7_count 104 = .ok (.aload_n 0, 1) := by decide +kernel
theorem dX7_count_105 : decode cX7_count 105 = .ok (.getfield 67, 3) := by decide +kernel
theorem dX7_count_108 : decode cX7_count 108 = .ok (.getfield 100, 3) := by decide +kernel
theorem dX7_count_111 : decode cX7_count 111 = .ok (.getfield 101, 3) := by decide +kernel
theorem dX7_count_114 : decode cX7_count 114 = .ok (.aload_n 0, 1) := by decide +kernel
theorem dX7_count_115 : decode cX7_count 115 = .ok (.getfield 67, 3) := by decide +kernel
theorem dX7_count_118 : decode cX7_count 118 = .ok (.getfield 119, 3) := by decide +kernel
theorem dX7_count_121 : decode cX7_count 121 = .ok (.isub, 1) := by decide +kernel
theorem dX7_count_122 : decode cX7_count 122 = .ok (.ireturn, 1) := by decide +kernel
theorem dX7_count_123 : decode cX7_count 123 = .ok (.aload_n 0, 1) := by decide +kernel
theorem dX7_count_124 : decode cX7_count 124 = .ok (.getfield 67, 3) := by decide +kernel
theorem dX7_count_127 : decode cX7_count 127 = .ok (.getfield 122, 3) := by decide +kernel
theorem dX7_count_130 : decode cX7_count 130 = .ok (.ireturn, 1) := by decide +kernel
theorem dX7_count_131 : decode cX7_count 131 = .ok (.aload_n 0, 1) := by decide +kernel
theorem dX7_count_132 : decode cX7_count 132 = .ok (.getfield 67, 3) := by decide +kernel
theorem dX7_count_135 : decode cX7_count 135 = .ok (.getfield 125, 3) := by decide +kernel
theorem dX7_count_138 : decode cX7_count 138 = .ok (.ireturn, 1) := by decide +kernel
theorem dX7_count_139 : decode cX7_count 139 = .ok (.aload_n 0, 1) := by decide +kernel
theorem dX7_count_140 : decode cX7_count 140 = .ok (.getfield 67, 3) := by decide +kernel
theorem dX7_count_143 : decode cX7_count 143 = .ok (.invokevirtual 128, 3) := by decide +kernel
theorem dX7_count_146 : decode cX7_count 146 = .ok (.ireturn, 1) := by decide +kernel
theorem dX7_count_147 : decode cX7_count 147 = .ok (.aload_n 0, 1) := by decide +kernel
theorem dX7_count_148 : decode cX7_count 148 = .ok (.getfield 67, 3) := by decide +kernel
theorem dX7_count_151 : decode cX7_count 151 = .ok (.getfield 132, 3) := by decide +kernel
theorem dX7_count_154 : decode cX7_count 154 = .ok (.ireturn, 1) := by decide +kernel
theorem dX7_count_155 : decode cX7_count 155 = .ok (.aload_n 0, 1) := by decide +kernel
theorem dX7_count_156 : decode cX7_count 156 = .ok (.getfield 67, 3) := by decide +kernel
theorem dX7_count_159 : decode cX7_count 159 = .ok (.getfield 135, 3) := by decide +kernel
theorem dX7_count_162 : decode cX7_count 162 = .ok (.ireturn, 1) := by decide +kernel
theorem dX7_count_163 : decode cX7_count 163 = .ok (.aload_n 0, 1) := by decide +kernel
theorem dX7_count_164 : decode cX7_count 164 = .ok (.getfield 97, 3) := by decide +kernel
theorem dX7_count_167 : decode cX7_count 167 = .ok (.ireturn, 1) := by decide +kernel
theorem dX7_count_168 : decode cX7_count 168 = .ok (.new 138, 3) := by decide +kernel
theorem dX7_count_171 : decode cX7_count 171 = .ok (.dup, 1) := by decide +kernel
theorem dX7_count_172 : decode cX7_count 172 = .ok (.ldc 140, 2) := by decide +kernel
theorem dX7_count_174 : decode cX7_count 174 = .ok (.invokespecial 142, 3) := by decide +kernel
theorem dX7_count_177 : decode cX7_count 177 = .ok (.athrow, 1) := by decide +kernel
theorem dX7_turnOf_0 : decode cX7_turnOf 0 = .ok (.aload_n 0, 1) := by decide +kernel
theorem dX7_turnOf_1 : decode cX7_turnOf 1 = .ok (.getfield 67, 3) := by decide +kernel
theorem dX7_turnOf_4 : decode cX7_turnOf 4 = .ok (.invokevirtual 145, 3) := by decide +kernel
theorem dX7_turnOf_7 : decode cX7_turnOf 7 = .ok (.ifCond .eq 7, 3) := by decide +kernel
theorem dX7_turnOf_10 : decode cX7_turnOf 10 = .ok (.iconst (-1), 1) := by decide +kernel
theorem dX7_turnOf_11 : decode cX7_turnOf 11 = .ok (.goto 10, 3) := by decide +kernel
theorem dX7_turnOf_14 : decode cX7_turnOf 14 = .ok (.aload_n 0, 1) := by decide +kernel
theorem dX7_turnOf_15 : decode cX7_turnOf 15 = .ok (.getfield 67, 3) := by decide +kernel
theorem dX7_turnOf_18 : decode cX7_turnOf 18 = .ok (.getfield 149, 3) := by decide +kernel
theorem dX7_turnOf_21 : decode cX7_turnOf 21 = .ok (.ireturn, 1) := by decide +kernel
theorem dX7_over_0 : decode cX7_over 0 = .ok (.aload_n 0, 1) := by decide +kernel
theorem dX7_over_1 : decode cX7_over 1 = .ok (.getfield 67, 3) := by decide +kernel
theorem dX7_over_4 : decode cX7_over 4 = .ok (.invokevirtual 152, 3) := by decide +kernel
theorem dX7_over_7 : decode cX7_over 7 = .ok (.ireturn, 1) := by decide +kernel
theorem dX7_pile_0 : decode cX7_pile 0 = .ok (.iload_n 1, 1) := by decide +kernel
theorem dX7_pile_1 : decode cX7_pile 1 = .ok (.ifCond .lt 17, 3) := by decide +kernel
theorem dX7_pile_4 : decode cX7_pile 4 = .ok (.iload_n 1, 1) := by decide +kernel
theorem dX7_pile_5 : decode cX7_pile 5 = .ok (.aload_n 0, 1) := by decide +kernel
theorem dX7_pile_6 : decode cX7_pile 6 = .ok (.getfield 67, 3) := by decide +kernel
theorem dX7_pile_9 : decode cX7_pile 9 = .ok (.getfield 100, 3) := by decide +kernel
theorem dX7_pile_12 : decode cX7_pile 12 = .ok (.getfield 107, 3) := by decide +kernel
theorem dX7_pile_15 : decode cX7_pile 15 = .ok (.if_icmp .lt 13, 3) := by decide +kernel
theorem dX7_pile_18 : decode cX7_pile 18 = .ok (.new 155, 3) := by decide +kernel
theorem dX7_pile_21 : decode cX7_pile 21 = .ok (.dup, 1) := by decide +kernel
theorem dX7_pile_22 : decode cX7_pile 22 = .ok (.ldc 157, 2) := by decide +kernel
theorem dX7_pile_24 : decode cX7_pile 24 = .ok (.invokespecial 159, 3) := by decide +kernel
theorem dX7_pile_27 : decode cX7_pile 27 = .ok (.athrow, 1) := by decide +kernel
theorem dX7_pile_28 : decode cX7_pile 28 = .ok (.aload_n 0, 1) := by decide +kernel
theorem dX7_pile_29 : decode cX7_pile 29 = .ok (.getfield 67, 3) := by decide +kernel
theorem dX7_pile_32 : decode cX7_pile 32 = .ok (.iload_n 1, 1) := by decide +kernel
theorem dX7_pile_33 : decode cX7_pile 33 = .ok (.invokevirtual 160, 3) := by decide +kernel
theorem dX7_pile_36 : decode cX7_pile 36 = .ok (.ireturn, 1) := by decide +kernel
theorem dX7_hand_0 : decode cX7_hand 0 = .ok (.aload_n 0, 1) := by decide +kernel
theorem dX7_hand_1 : decode cX7_hand 1 = .ok (.iload_n 1, 1) := by decide +kernel
theorem dX7_hand_2 : decode cX7_hand 2 = .ok (.invokevirtual 164, 3) := by decide +kernel
theorem dX7_hand_5 : decode cX7_hand 5 = .ok (.aload_n 0, 1) := by decide +kernel
theorem dX7_hand_6 : decode cX7_hand 6 = .ok (.getfield 67, 3) := by decide +kernel
theorem dX7_hand_9 : decode cX7_hand 9 = .ok (.iload_n 1, 1) := by decide +kernel
theorem dX7_hand_10 : decode cX7_hand 10 = .ok (.invokevirtual 167, 3) := by decide +kernel
theorem dX7_hand_13 : decode cX7_hand 13 = .ok (.ireturn, 1) := by decide +kernel
theorem dX7_card_0 : decode cX7_card 0 = .ok (.aload_n 0, 1) := by decide +kernel
theorem dX7_card_1 : decode cX7_card 1 = .ok (.getfield 67, 3) := by decide +kernel
theorem dX7_card_4 : decode cX7_card 4 = .ok (.aload_n 0, 1) := by decide +kernel
theorem dX7_card_5 : decode cX7_card 5 = .ok (.iload_n 1, 1) := by decide +kernel
theorem dX7_card_6 : decode cX7_card 6 = .ok (.iload_n 2, 1) := by decide +kernel
theorem dX7_card_7 : decode cX7_card 7 = .ok (.invokevirtual 170, 3) := by decide +kernel
theorem dX7_card_10 : decode cX7_card 10 = .ok (.invokevirtual 174, 3) := by decide +kernel
theorem dX7_card_13 : decode cX7_card 13 = .ok (.invokestatic 177, 3) := by decide +kernel
theorem dX7_card_16 : decode cX7_card 16 = .ok (.ireturn, 1) := by decide +kernel
theorem dX7_drawn_0 : decode cX7_drawn 0 = .ok (.iload_n 1, 1) := by decide +kernel
theorem dX7_drawn_1 : decode cX7_drawn 1 = .ok (.ifCond .lt 25, 3) := by decide +kernel
theorem dX7_drawn_4 : decode cX7_drawn 4 = .ok (.iload_n 1, 1) := by decide +kernel
theorem dX7_drawn_5 : decode cX7_drawn 5 = .ok (.aload_n 0, 1) := by decide +kernel
theorem dX7_drawn_6 : decode cX7_drawn 6 = .ok (.getfield 67, 3) := by decide +kernel
theorem dX7_drawn_9 : decode cX7_drawn 9 = .ok (.getfield 100, 3) := by decide +kernel
theorem dX7_drawn_12 : decode cX7_drawn 12 = .ok (.getfield 101, 3) := by decide +kernel
theorem dX7_drawn_15 : decode cX7_drawn 15 = .ok (.aload_n 0, 1) := by decide +kernel
theorem dX7_drawn_16 : decode cX7_drawn 16 = .ok (.getfield 67, 3) := by decide +kernel
theorem dX7_drawn_19 : decode cX7_drawn 19 = .ok (.getfield 119, 3) := by decide +kernel
theorem dX7_drawn_22 : decode cX7_drawn 22 = .ok (.isub, 1) := by decide +kernel
theorem dX7_drawn_23 : decode cX7_drawn 23 = .ok (.if_icmp .lt 5, 3) := by decide +kernel
theorem dX7_drawn_26 : decode cX7_drawn 26 = .ok (.iconst (-1), 1) := by decide +kernel
theorem dX7_drawn_27 : decode cX7_drawn 27 = .ok (.ireturn, 1) := by decide +kernel
theorem dX7_drawn_28 : decode cX7_drawn 28 = .ok (.aload_n 0, 1) := by decide +kernel
theorem dX7_drawn_29 : decode cX7_drawn 29 = .ok (.getfield 67, 3) := by decide +kernel
theorem dX7_drawn_32 : decode cX7_drawn 32 = .ok (.aload_n 0, 1) := by decide +kernel
theorem dX7_drawn_33 : decode cX7_drawn 33 = .ok (.getfield 67, 3) := by decide +kernel
theorem dX7_drawn_36 : decode cX7_drawn 36 = .ok (.getfield 119, 3) := by decide +kernel
theorem dX7_drawn_39 : decode cX7_drawn 39 = .ok (.iload_n 1, 1) := by decide +kernel
theorem dX7_drawn_40 : decode cX7_drawn 40 = .ok (.iadd, 1) := by decide +kernel
theorem dX7_drawn_41 : decode cX7_drawn 41 = .ok (.invokevirtual 174, 3) := by decide +kernel
theorem dX7_drawn_44 : decode cX7_drawn 44 = .ok (.invokestatic 177, 3) := by decide +kernel
theorem dX7_drawn_47 : decode cX7_drawn 47 = .ok (.ireturn, 1) := by decide +kernel
theorem dX7_copies_0 : decode cX7_copies 0 = .ok (.aload_n 0, 1) := by decide +kernel
theorem dX7_copies_1 : decode cX7_copies 1 = .ok (.iload_n 1, 1) := by decide +kernel
theorem dX7_copies_2 : decode cX7_copies 2 = .ok (.iload_n 2, 1) := by decide +kernel
theorem dX7_copies_3 : decode cX7_copies 3 = .ok (.invokevirtual 180, 3) := by decide +kernel
theorem dX7_copies_6 : decode cX7_copies 6 = .ok (.istore 4, 2) := by decide +kernel
theorem dX7_copies_8 : decode cX7_copies 8 = .ok (.iload_n 3, 1) := by decide +kernel
theorem dX7_copies_9 : decode cX7_copies 9 = .ok (.tableswitch 74 0 3 #[31, 44, 54, 64], 31) := by decide +kernel
theorem dX7_copies_40 : decode cX7_copies 40 = .ok (.aload_n 0, 1) := by decide +kernel
theorem dX7_copies_41 : decode cX7_copies 41 = .ok (.getfield 67, 3) := by decide +kernel
theorem dX7_copies_44 : decode cX7_copies 44 = .ok (.getfield 100, 3) := by decide +kernel
theorem dX7_copies_47 : decode cX7_copies 47 = .ok (.iload 4, 2) := by decide +kernel
theorem dX7_copies_49 : decode cX7_copies 49 = .ok (.invokevirtual 183, 3) := by decide +kernel
theorem dX7_copies_52 : decode cX7_copies 52 = .ok (.ireturn, 1) := by decide +kernel
theorem dX7_copies_53 : decode cX7_copies 53 = .ok (.aload_n 0, 1) := by decide +kernel
theorem dX7_copies_54 : decode cX7_copies 54 = .ok (.getfield 67, 3) := by decide +kernel
theorem dX7_copies_57 : decode cX7_copies 57 = .ok (.iload 4, 2) := by decide +kernel
theorem dX7_copies_59 : decode cX7_copies 59 = .ok (.invokevirtual 186, 3) := by decide +kernel
theorem dX7_copies_62 : decode cX7_copies 62 = .ok (.ireturn, 1) := by decide +kernel
theorem dX7_copies_63 : decode cX7_copies 63 = .ok (.aload_n 0, 1) := by decide +kernel
theorem dX7_copies_64 : decode cX7_copies 64 = .ok (.getfield 67, 3) := by decide +kernel
theorem dX7_copies_67 : decode cX7_copies 67 = .ok (.iload 4, 2) := by decide +kernel
theorem dX7_copies_69 : decode cX7_copies 69 = .ok (.invokevirtual 189, 3) := by decide +kernel
theorem dX7_copies_72 : decode cX7_copies 72 = .ok (.ireturn, 1) := by decide +kernel
theorem dX7_copies_73 : decode cX7_copies 73 = .ok (.aload_n 0, 1) := by decide +kernel
theorem dX7_copies_74 : decode cX7_copies 74 = .ok (.getfield 67, 3) := by decide +kernel
theorem dX7_copies_77 : decode cX7_copies 77 = .ok (.iload 4, 2) := by decide +kernel
theorem dX7_copies_79 : decode cX7_copies 79 = .ok (.invokevirtual 192, 3) := by decide +kernel
theorem dX7_copies_82 : decode cX7_copies 82 = .ok (.ireturn, 1) := by decide +kernel
theorem dX7_copies_83 : decode cX7_copies 83 = .ok (.new 138, 3) := by decide +kernel
theorem dX7_copies_86 : decode cX7_copies 86 = .ok (.dup, 1) := by decide +kernel
theorem dX7_copies_87 : decode cX7_copies 87 = .ok (.ldc 140, 2) := by decide +kernel
theorem dX7_copies_89 : decode cX7_copies 89 = .ok (.invokespecial 142, 3) := by decide +kernel
theorem dX7_copies_92 : decode cX7_copies 92 = .ok (.athrow, 1) := by decide +kernel
theorem dX7_isUseless_0 : decode cX7_isUseless 0 = .ok (.aload_n 0, 1) := by decide +kernel
theorem dX7_isUseless_1 : decode cX7_isUseless 1 = .ok (.getfield 67, 3) := by decide +kernel
theorem dX7_isUseless_4 : decode cX7_isUseless 4 = .ok (.aload_n 0, 1) := by decide +kernel
theorem dX7_isUseless_5 : decode cX7_isUseless 5 = .ok (.iload_n 1, 1) := by decide +kernel
theorem dX7_isUseless_6 : decode cX7_isUseless 6 = .ok (.iload_n 2, 1) := by decide +kernel
theorem dX7_isUseless_7 : decode cX7_isUseless 7 = .ok (.invokevirtual 180, 3) := by decide +kernel
theorem dX7_isUseless_10 : decode cX7_isUseless 10 = .ok (.invokevirtual 195, 3) := by decide +kernel
theorem dX7_isUseless_13 : decode cX7_isUseless 13 = .ok (.ifCond .ne 7, 3) := by decide +kernel
theorem dX7_isUseless_16 : decode cX7_isUseless 16 = .ok (.iconst 1, 1) := by decide +kernel
theorem dX7_isUseless_17 : decode cX7_isUseless 17 = .ok (.goto 4, 3) := by decide +kernel
theorem dX7_isUseless_20 : decode cX7_isUseless 20 = .ok (.iconst 0, 1) := by decide +kernel
theorem dX7_isUseless_21 : decode cX7_isUseless 21 = .ok (.ireturn, 1) := by decide +kernel
theorem dX7_isCritical_0 : decode cX7_isCritical 0 = .ok (.aload_n 0, 1) := by decide +kernel
theorem dX7_isCritical_1 : decode cX7_isCritical 1 = .ok (.getfield 67, 3) := by decide +kernel
theorem dX7_isCritical_4 : decode cX7_isCritical 4 = .ok (.aload_n 0, 1) := by decide +kernel
theorem dX7_isCritical_5 : decode cX7_isCritical 5 = .ok (.iload_n 1, 1) := by decide +kernel
theorem dX7_isCritical_6 : decode cX7_isCritical 6 = .ok (.iload_n 2, 1) := by decide +kernel
theorem dX7_isCritical_7 : decode cX7_isCritical 7 = .ok (.invokevirtual 180, 3) := by decide +kernel
theorem dX7_isCritical_10 : decode cX7_isCritical 10 = .ok (.invokevirtual 199, 3) := by decide +kernel
theorem dX7_isCritical_13 : decode cX7_isCritical 13 = .ok (.ireturn, 1) := by decide +kernel
theorem dX7_colorsOf_0 : decode cX7_colorsOf 0 = .ok (.aload_n 0, 1) := by decide +kernel
theorem dX7_colorsOf_1 : decode cX7_colorsOf 1 = .ok (.getfield 67, 3) := by decide +kernel
theorem dX7_colorsOf_4 : decode cX7_colorsOf 4 = .ok (.aload_n 0, 1) := by decide +kernel
theorem dX7_colorsOf_5 : decode cX7_colorsOf 5 = .ok (.iload_n 1, 1) := by decide +kernel
theorem dX7_colorsOf_6 : decode cX7_colorsOf 6 = .ok (.iload_n 2, 1) := by decide +kernel
theorem dX7_colorsOf_7 : decode cX7_colorsOf 7 = .ok (.invokevirtual 170, 3) := by decide +kernel
theorem dX7_colorsOf_10 : decode cX7_colorsOf 10 = .ok (.invokevirtual 202, 3) := by decide +kernel
theorem dX7_colorsOf_13 : decode cX7_colorsOf 13 = .ok (.invokestatic 205, 3) := by decide +kernel
theorem dX7_colorsOf_16 : decode cX7_colorsOf 16 = .ok (.ireturn, 1) := by decide +kernel
theorem dX7_ranksOf_0 : decode cX7_ranksOf 0 = .ok (.aload_n 0, 1) := by decide +kernel
theorem dX7_ranksOf_1 : decode cX7_ranksOf 1 = .ok (.getfield 67, 3) := by decide +kernel
theorem dX7_ranksOf_4 : decode cX7_ranksOf 4 = .ok (.aload_n 0, 1) := by decide +kernel
theorem dX7_ranksOf_5 : decode cX7_ranksOf 5 = .ok (.iload_n 1, 1) := by decide +kernel
theorem dX7_ranksOf_6 : decode cX7_ranksOf 6 = .ok (.iload_n 2, 1) := by decide +kernel
theorem dX7_ranksOf_7 : decode cX7_ranksOf 7 = .ok (.invokevirtual 170, 3) := by decide +kernel
theorem dX7_ranksOf_10 : decode cX7_ranksOf 10 = .ok (.invokevirtual 202, 3) := by decide +kernel
theorem dX7_ranksOf_13 : decode cX7_ranksOf 13 = .ok (.invokestatic 208, 3) := by decide +kernel
theorem dX7_ranksOf_16 : decode cX7_ranksOf 16 = .ok (.ireturn, 1) := by decide +kernel
theorem dX7_isTouched_0 : decode cX7_isTouched 0 = .ok (.aload_n 0, 1) := by decide +kernel
theorem dX7_isTouched_1 : decode cX7_isTouched 1 = .ok (.getfield 67, 3) := by decide +kernel
theorem dX7_isTouched_4 : decode cX7_isTouched 4 = .ok (.aload_n 0, 1) := by decide +kernel
theorem dX7_isTouched_5 : decode cX7_isTouched 5 = .ok (.iload_n 1, 1) := by decide +kernel
theorem dX7_isTouched_6 : decode cX7_isTouched 6 = .ok (.iload_n 2, 1) := by decide +kernel
theorem dX7_isTouched_7 : decode cX7_isTouched 7 = .ok (.invokevirtual 170, 3) := by decide +kernel
theorem dX7_isTouched_10 : decode cX7_isTouched 10 = .ok (.invokevirtual 211, 3) := by decide +kernel
theorem dX7_isTouched_13 : decode cX7_isTouched 13 = .ok (.ireturn, 1) := by decide +kernel
theorem dX7_thinks_0 : decode cX7_thinks 0 = .ok (.aload_n 0, 1) := by decide +kernel
theorem dX7_thinks_1 : decode cX7_thinks 1 = .ok (.iload_n 1, 1) := by decide +kernel
theorem dX7_thinks_2 : decode cX7_thinks 2 = .ok (.aload_n 0, 1) := by decide +kernel
theorem dX7_thinks_3 : decode cX7_thinks 3 = .ok (.iload_n 1, 1) := by decide +kernel
theorem dX7_thinks_4 : decode cX7_thinks 4 = .ok (.iload_n 2, 1) := by decide +kernel
theorem dX7_thinks_5 : decode cX7_thinks 5 = .ok (.invokevirtual 170, 3) := by decide +kernel
theorem dX7_thinks_8 : decode cX7_thinks 8 = .ok (.invokevirtual 214, 3) := by decide +kernel
theorem dX7_thinks_11 : decode cX7_thinks 11 = .ok (.invokestatic 217, 3) := by decide +kernel
theorem dX7_thinks_14 : decode cX7_thinks 14 = .ok (.ireturn, 1) := by decide +kernel
theorem dX7_thought_0 : decode cX7_thought 0 = .ok (.aload_n 0, 1) := by decide +kernel
theorem dX7_thought_1 : decode cX7_thought 1 = .ok (.iload_n 1, 1) := by decide +kernel
theorem dX7_thought_2 : decode cX7_thought 2 = .ok (.aload_n 0, 1) := by decide +kernel
theorem dX7_thought_3 : decode cX7_thought 3 = .ok (.iload_n 1, 1) := by decide +kernel
theorem dX7_thought_4 : decode cX7_thought 4 = .ok (.iload_n 2, 1) := by decide +kernel
theorem dX7_thought_5 : decode cX7_thought 5 = .ok (.invokevirtual 170, 3) := by decide +kernel
theorem dX7_thought_8 : decode cX7_thought 8 = .ok (.invokevirtual 214, 3) := by decide +kernel
theorem dX7_thought_11 : decode cX7_thought 11 = .ok (.istore 4, 2) := by decide +kernel
theorem dX7_thought_13 : decode cX7_thought 13 = .ok (.iconst 0, 1) := by decide +kernel
theorem dX7_thought_14 : decode cX7_thought 14 = .ok (.istore 5, 2) := by decide +kernel
theorem dX7_thought_16 : decode cX7_thought 16 = .ok (.iconst 0, 1) := by decide +kernel
theorem dX7_thought_17 : decode cX7_thought 17 = .ok (.istore 6, 2) := by decide +kernel
theorem dX7_thought_19 : decode cX7_thought 19 = .ok (.iload 6, 2) := by decide +kernel
theorem dX7_thought_21 : decode cX7_thought 21 = .ok (.bipush 20, 2) := by decide +kernel
theorem dX7_thought_23 : decode cX7_thought 23 = .ok (.if_icmp .ge 34, 3) := by decide +kernel
theorem dX7_thought_26 : decode cX7_thought 26 = .ok (.iload 6, 2) := by decide +kernel
theorem dX7_thought_28 : decode cX7_thought 28 = .ok (.iload 4, 2) := by decide +kernel
theorem dX7_thought_30 : decode cX7_thought 30 = .ok (.invokestatic 222, 3) := by decide +kernel
theorem dX7_thought_33 : decode cX7_thought 33 = .ok (.ifCond .eq 18, 3) := by decide +kernel
theorem dX7_thought_36 : decode cX7_thought 36 = .ok (.iload 5, 2) := by decide +kernel
theorem dX7_thought_38 : decode cX7_thought 38 = .ok (.iload_n 3, 1) := by decide +kernel
theorem dX7_thought_39 : decode cX7_thought 39 = .ok (.if_icmp .ne 9, 3) := by decide +kernel
theorem dX7_thought_42 : decode cX7_thought 42 = .ok (.iload 6, 2) := by decide +kernel
theorem dX7_thought_44 : decode cX7_thought 44 = .ok (.invokestatic 177, 3) := by decide +kernel
theorem dX7_thought_47 : decode cX7_thought 47 = .ok (.ireturn, 1) := by decide +kernel
theorem dX7_thought_48 : decode cX7_thought 48 = .ok (.iinc 5 1, 3) := by decide +kernel
theorem dX7_thought_51 : decode cX7_thought 51 = .ok (.iinc 6 1, 3) := by decide +kernel
theorem dX7_thought_54 : decode cX7_thought 54 = .ok (.goto (-35), 3) := by decide +kernel
theorem dX7_thought_57 : decode cX7_thought 57 = .ok (.iconst (-1), 1) := by decide +kernel
theorem dX7_thought_58 : decode cX7_thought 58 = .ok (.ireturn, 1) := by decide +kernel
theorem dX7_knows_0 : decode cX7_knows 0 = .ok (.aload_n 0, 1) := by decide +kernel
theorem dX7_knows_1 : decode cX7_knows 1 = .ok (.iload_n 1, 1) := by decide +kernel
theorem dX7_knows_2 : decode cX7_knows 2 = .ok (.aload_n 0, 1) := by decide +kernel
theorem dX7_knows_3 : decode cX7_knows 3 = .ok (.iload_n 1, 1) := by decide +kernel
theorem dX7_knows_4 : decode cX7_knows 4 = .ok (.iload_n 2, 1) := by decide +kernel
theorem dX7_knows_5 : decode cX7_knows 5 = .ok (.invokevirtual 170, 3) := by decide +kernel
theorem dX7_knows_8 : decode cX7_knows 8 = .ok (.invokevirtual 214, 3) := by decide +kernel
theorem dX7_knows_11 : decode cX7_knows 11 = .ok (.istore_n 3, 1) := by decide +kernel
theorem dX7_knows_12 : decode cX7_knows 12 = .ok (.iload_n 3, 1) := by decide +kernel
theorem dX7_knows_13 : decode cX7_knows 13 = .ok (.aload_n 0, 1) := by decide +kernel
theorem dX7_knows_14 : decode cX7_knows 14 = .ok (.getfield 67, 3) := by decide +kernel
theorem dX7_knows_17 : decode cX7_knows 17 = .ok (.invokevirtual 226, 3) := by decide +kernel
theorem dX7_knows_20 : decode cX7_knows 20 = .ok (.invokestatic 229, 3) := by decide +kernel
theorem dX7_knows_23 : decode cX7_knows 23 = .ok (.ifCond .eq 5, 3) := by decide +kernel
theorem dX7_knows_26 : decode cX7_knows 26 = .ok (.iconst 1, 1) := by decide +kernel
theorem dX7_knows_27 : decode cX7_knows 27 = .ok (.ireturn, 1) := by decide +kernel
theorem dX7_knows_28 : decode cX7_knows 28 = .ok (.iload_n 3, 1) := by decide +kernel
theorem dX7_knows_29 : decode cX7_knows 29 = .ok (.aload_n 0, 1) := by decide +kernel
theorem dX7_knows_30 : decode cX7_knows 30 = .ok (.getfield 67, 3) := by decide +kernel
theorem dX7_knows_33 : decode cX7_knows 33 = .ok (.invokevirtual 232, 3) := by decide +kernel
theorem dX7_knows_36 : decode cX7_knows 36 = .ok (.invokestatic 229, 3) := by decide +kernel
theorem dX7_knows_39 : decode cX7_knows 39 = .ok (.ifCond .eq 7, 3) := by decide +kernel
theorem dX7_knows_42 : decode cX7_knows 42 = .ok (.iconst 2, 1) := by decide +kernel
theorem dX7_knows_43 : decode cX7_knows 43 = .ok (.goto 4, 3) := by decide +kernel
theorem dX7_knows_46 : decode cX7_knows 46 = .ok (.iconst 0, 1) := by decide +kernel
theorem dX7_knows_47 : decode cX7_knows 47 = .ok (.ireturn, 1) := by decide +kernel
theorem dX7_wordsLeft_0 : decode cX7_wordsLeft 0 = .ok (.aload_n 0, 1) := by decide +kernel
theorem dX7_wordsLeft_1 : decode cX7_wordsLeft 1 = .ok (.iload_n 1, 1) := by decide +kernel
theorem dX7_wordsLeft_2 : decode cX7_wordsLeft 2 = .ok (.iload_n 2, 1) := by decide +kernel
theorem dX7_wordsLeft_3 : decode cX7_wordsLeft 3 = .ok (.invokevirtual 235, 3) := by decide +kernel
theorem dX7_wordsLeft_6 : decode cX7_wordsLeft 6 = .ok (.aload_n 0, 1) := by decide +kernel
theorem dX7_wordsLeft_7 : decode cX7_wordsLeft 7 = .ok (.getfield 67, 3) := by decide +kernel
theorem dX7_wordsLeft_10 : decode cX7_wordsLeft 10 = .ok (.iload_n 1, 1) := by decide +kernel
theorem dX7_wordsLeft_11 : decode cX7_wordsLeft 11 = .ok (.iload_n 2, 1) := by decide +kernel
theorem dX7_wordsLeft_12 : decode cX7_wordsLeft 12 = .ok (.invokevirtual 239, 3) := by decide +kernel
theorem dX7_wordsLeft_15 : decode cX7_wordsLeft 15 = .ok (.ireturn, 1) := by decide +kernel
theorem dX7_touches_0 : decode cX7_touches 0 = .ok (.aload_n 0, 1) := by decide +kernel
theorem dX7_touches_1 : decode cX7_touches 1 = .ok (.iload_n 1, 1) := by decide +kernel
theorem dX7_touches_2 : decode cX7_touches 2 = .ok (.invokevirtual 164, 3) := by decide +kernel
theorem dX7_touches_5 : decode cX7_touches 5 = .ok (.aload_n 0, 1) := by decide +kernel
theorem dX7_touches_6 : decode cX7_touches 6 = .ok (.iload_n 2, 1) := by decide +kernel
theorem dX7_touches_7 : decode cX7_touches 7 = .ok (.iload_n 3, 1) := by decide +kernel
theorem dX7_touches_8 : decode cX7_touches 8 = .ok (.invokevirtual 235, 3) := by decide +kernel
theorem dX7_touches_11 : decode cX7_touches 11 = .ok (.aload_n 0, 1) := by decide +kernel
theorem dX7_touches_12 : decode cX7_touches 12 = .ok (.getfield 67, 3) := by decide +kernel
theorem dX7_touches_15 : decode cX7_touches 15 = .ok (.iload_n 1, 1) := by decide +kernel
theorem dX7_touches_16 : decode cX7_touches 16 = .ok (.iload_n 2, 1) := by decide +kernel
theorem dX7_touches_17 : decode cX7_touches 17 = .ok (.iload_n 3, 1) := by decide +kernel
theorem dX7_touches_18 : decode cX7_touches 18 = .ok (.invokestatic 242, 3) := by decide +kernel
theorem dX7_touches_21 : decode cX7_touches 21 = .ok (.invokevirtual 245, 3) := by decide +kernel
theorem dX7_touches_24 : decode cX7_touches 24 = .ok (.ireturn, 1) := by decide +kernel
theorem dX7_tells_0 : decode cX7_tells 0 = .ok (.aload_n 0, 1) := by decide +kernel
theorem dX7_tells_1 : decode cX7_tells 1 = .ok (.iload_n 1, 1) := by decide +kernel
theorem dX7_tells_2 : decode cX7_tells 2 = .ok (.invokevirtual 164, 3) := by decide +kernel
theorem dX7_tells_5 : decode cX7_tells 5 = .ok (.aload_n 0, 1) := by decide +kernel
theorem dX7_tells_6 : decode cX7_tells 6 = .ok (.iload_n 2, 1) := by decide +kernel
theorem dX7_tells_7 : decode cX7_tells 7 = .ok (.iload_n 3, 1) := by decide +kernel
theorem dX7_tells_8 : decode cX7_tells 8 = .ok (.invokevirtual 235, 3) := by decide +kernel
theorem dX7_tells_11 : decode cX7_tells 11 = .ok (.aload_n 0, 1) := by decide +kernel
theorem dX7_tells_12 : decode cX7_tells 12 = .ok (.getfield 38, 3) := by decide +kernel
theorem dX7_tells_15 : decode cX7_tells 15 = .ok (.aload_n 0, 1) := by decide +kernel
theorem dX7_tells_16 : decode cX7_tells 16 = .ok (.getfield 67, 3) := by decide +kernel
theorem dX7_tells_19 : decode cX7_tells 19 = .ok (.iload_n 1, 1) := by decide +kernel
theorem dX7_tells_20 : decode cX7_tells 20 = .ok (.aload_n 0, 1) := by decide +kernel
theorem dX7_tells_21 : decode cX7_tells 21 = .ok (.getfield 38, 3) := by decide +kernel
theorem dX7_tells_24 : decode cX7_tells 24 = .ok (.aload_n 0, 1) := by decide +kernel
theorem dX7_tells_25 : decode cX7_tells 25 = .ok (.getfield 67, 3) := by decide +kernel
theorem dX7_tells_28 : decode cX7_tells 28 = .ok (.iload_n 1, 1) := by decide +kernel
theorem dX7_tells_29 : decode cX7_tells 29 = .ok (.invokevirtual 248, 3) := by decide +kernel
theorem dX7_tells_32 : decode cX7_tells 32 = .ok (.iload_n 2, 1) := by decide +kernel
theorem dX7_tells_33 : decode cX7_tells 33 = .ok (.iload_n 3, 1) := by decide +kernel
theorem dX7_tells_34 : decode cX7_tells 34 = .ok (.invokestatic 242, 3) := by decide +kernel
theorem dX7_tells_37 : decode cX7_tells 37 = .ok (.invokevirtual 252, 3) := by decide +kernel
theorem dX7_tells_40 : decode cX7_tells 40 = .ok (.ireturn, 1) := by decide +kernel
theorem dX7_play_0 : decode cX7_play 0 = .ok (.aload_n 0, 1) := by decide +kernel
theorem dX7_play_1 : decode cX7_play 1 = .ok (.getfield 67, 3) := by decide +kernel
theorem dX7_play_4 : decode cX7_play 4 = .ok (.invokevirtual 145, 3) := by decide +kernel
theorem dX7_play_7 : decode cX7_play 7 = .ok (.ifCond .eq 6, 3) := by decide +kernel
theorem dX7_play_10 : decode cX7_play 10 = .ok (.bipush (-3), 2) := by decide +kernel
theorem dX7_play_12 : decode cX7_play 12 = .ok (.ireturn, 1) := by decide +kernel
theorem dX7_play_13 : decode cX7_play 13 = .ok (.aload_n 0, 1) := by decide +kernel
theorem dX7_play_14 : decode cX7_play 14 = .ok (.aload_n 0, 1) := by decide +kernel
theorem dX7_play_15 : decode cX7_play 15 = .ok (.getfield 67, 3) := by decide +kernel
theorem dX7_play_18 : decode cX7_play 18 = .ok (.getfield 149, 3) := by decide +kernel
theorem dX7_play_21 : decode cX7_play 21 = .ok (.iload_n 1, 1) := by decide +kernel
theorem dX7_play_22 : decode cX7_play 22 = .ok (.invokevirtual 170, 3) := by decide +kernel
theorem dX7_play_25 : decode cX7_play 25 = .ok (.pop, 1) := by decide +kernel
theorem dX7_play_26 : decode cX7_play 26 = .ok (.aload_n 0, 1) := by decide +kernel
theorem dX7_play_27 : decode cX7_play 27 = .ok (.invokevirtual 256, 3) := by decide +kernel
theorem dX7_play_30 : decode cX7_play 30 = .ok (.aload_n 0, 1) := by decide +kernel
theorem dX7_play_31 : decode cX7_play 31 = .ok (.getfield 67, 3) := by decide +kernel
theorem dX7_play_34 : decode cX7_play 34 = .ok (.iload_n 1, 1) := by decide +kernel
theorem dX7_play_35 : decode cX7_play 35 = .ok (.invokevirtual 259, 3) := by decide +kernel
theorem dX7_play_38 : decode cX7_play 38 = .ok (.aload_n 0, 1) := by decide +kernel
theorem dX7_play_39 : decode cX7_play 39 = .ok (.getfield 67, 3) := by decide +kernel
theorem dX7_play_42 : decode cX7_play 42 = .ok (.invokevirtual 128, 3) := by decide +kernel
theorem dX7_play_45 : decode cX7_play 45 = .ok (.ireturn, 1) := by decide +kernel
theorem dX7_discard_0 : decode cX7_discard 0 = .ok (.aload_n 0, 1) := by decide +kernel
theorem dX7_discard_1 : decode cX7_discard 1 = .ok (.getfield 67, 3) := by decide +kernel
theorem dX7_discard_4 : decode cX7_discard 4 = .ok (.invokevirtual 145, 3) := by decide +kernel
theorem dX7_discard_7 : decode cX7_discard 7 = .ok (.ifCond .eq 6, 3) := by decide +kernel
theorem dX7_discard_10 : decode cX7_discard 10 = .ok (.bipush (-3), 2) := by decide +kernel
theorem dX7_discard_12 : decode cX7_discard 12 = .ok (.ireturn, 1) := by decide +kernel
theorem dX7_discard_13 : decode cX7_discard 13 = .ok (.aload_n 0, 1) := by decide +kernel
theorem dX7_discard_14 : decode cX7_discard 14 = .ok (.aload_n 0, 1) := by decide +kernel
theorem dX7_discard_15 : decode cX7_discard 15 = .ok (.getfield 67, 3) := by decide +kernel
theorem dX7_discard_18 : decode cX7_discard 18 = .ok (.getfield 149, 3) := by decide +kernel
theorem dX7_discard_21 : decode cX7_discard 21 = .ok (.iload_n 1, 1) := by decide +kernel
theorem dX7_discard_22 : decode cX7_discard 22 = .ok (.invokevirtual 170, 3) := by decide +kernel
theorem dX7_discard_25 : decode cX7_discard 25 = .ok (.pop, 1) := by decide +kernel
theorem dX7_discard_26 : decode cX7_discard 26 = .ok (.aload_n 0, 1) := by decide +kernel
theorem dX7_discard_27 : decode cX7_discard 27 = .ok (.invokevirtual 256, 3) := by decide +kernel
theorem dX7_discard_30 : decode cX7_discard 30 = .ok (.aload_n 0, 1) := by decide +kernel
theorem dX7_discard_31 : decode cX7_discard 31 = .ok (.getfield 67, 3) := by decide +kernel
theorem dX7_discard_34 : decode cX7_discard 34 = .ok (.iload_n 1, 1) := by decide +kernel
theorem dX7_discard_35 : decode cX7_discard 35 = .ok (.invokevirtual 262, 3) := by decide +kernel
theorem dX7_discard_38 : decode cX7_discard 38 = .ok (.aload_n 0, 1) := by decide +kernel
theorem dX7_discard_39 : decode cX7_discard 39 = .ok (.getfield 67, 3) := by decide +kernel
theorem dX7_discard_42 : decode cX7_discard 42 = .ok (.getfield 122, 3) := by decide +kernel
theorem dX7_discard_45 : decode cX7_discard 45 = .ok (.ireturn, 1) := by decide +kernel
theorem dX7_hint_0 : decode cX7_hint 0 = .ok (.aload_n 0, 1) := by decide +kernel
theorem dX7_hint_1 : decode cX7_hint 1 = .ok (.iload_n 1, 1) := by decide +kernel
theorem dX7_hint_2 : decode cX7_hint 2 = .ok (.invokevirtual 164, 3) := by decide +kernel
theorem dX7_hint_5 : decode cX7_hint 5 = .ok (.aload_n 0, 1) := by decide +kernel
theorem dX7_hint_6 : decode cX7_hint 6 = .ok (.getfield 67, 3) := by decide +kernel
theorem dX7_hint_9 : decode cX7_hint 9 = .ok (.invokevirtual 145, 3) := by decide +kernel
theorem dX7_hint_12 : decode cX7_hint 12 = .ok (.istore 4, 2) := by decide +kernel
theorem dX7_hint_14 : decode cX7_hint 14 = .ok (.iload 4, 2) := by decide +kernel
theorem dX7_hint_16 : decode cX7_hint 16 = .ok (.ifCond .ne 25, 3) := by decide +kernel
theorem dX7_hint_19 : decode cX7_hint 19 = .ok (.iload_n 1, 1) := by decide +kernel
theorem dX7_hint_20 : decode cX7_hint 20 = .ok (.aload_n 0, 1) := by decide +kernel
theorem dX7_hint_21 : decode cX7_hint 21 = .ok (.getfield 67, 3) := by decide +kernel
theorem dX7_hint_24 : decode cX7_hint 24 = .ok (.getfield 149, 3) := by decide +kernel
theorem dX7_hint_27 : decode cX7_hint 27 = .ok (.if_icmp .ne 14, 3) := by decide +kernel
theorem dX7_hint_30 : decode cX7_hint 30 = .ok (.new 155, 3) := by decide +kernel
theorem dX7_hint_33 : decode cX7_hint 33 = .ok (.dup, 1) := by decide +kernel
theorem dX7_hint_34 : decode cX7_hint 34 = .ok (.ldc_w 265, 3) := by decide +kernel
theorem dX7_hint_37 : decode cX7_hint 37 = .ok (.invokespecial 159, 3) := by decide +kernel
theorem dX7_hint_40 : decode cX7_hint 40 = .ok (.athrow, 1) := by decide +kernel
theorem dX7_hint_41 : decode cX7_hint 41 = .ok (.aload_n 0, 1) := by decide +kernel
theorem dX7_hint_42 : decode cX7_hint 42 = .ok (.iload_n 2, 1) := by decide +kernel
theorem dX7_hint_43 : decode cX7_hint 43 = .ok (.iload_n 3, 1) := by decide +kernel
theorem dX7_hint_44 : decode cX7_hint 44 = .ok (.invokevirtual 235, 3) := by decide +kernel
theorem dX7_hint_47 : decode cX7_hint 47 = .ok (.iload 4, 2) := by decide +kernel
theorem dX7_hint_49 : decode cX7_hint 49 = .ok (.ifCond .eq 6, 3) := by decide +kernel
theorem dX7_hint_52 : decode cX7_hint 52 = .ok (.bipush (-3), 2) := by decide +kernel
theorem dX7_hint_54 : decode cX7_hint 54 = .ok (.ireturn, 1) := by decide +kernel
theorem dX7_hint_55 : decode cX7_hint 55 = .ok (.aload_n 0, 1) := by decide +kernel
theorem dX7_hint_56 : decode cX7_hint 56 = .ok (.getfield 67, 3) := by decide +kernel
theorem dX7_hint_59 : decode cX7_hint 59 = .ok (.getfield 122, 3) := by decide +kernel
theorem dX7_hint_62 : decode cX7_hint 62 = .ok (.ifCond .gt 6, 3) := by decide +kernel
theorem dX7_hint_65 : decode cX7_hint 65 = .ok (.bipush (-4), 2) := by decide +kernel
theorem dX7_hint_67 : decode cX7_hint 67 = .ok (.ireturn, 1) := by decide +kernel
theorem dX7_hint_68 : decode cX7_hint 68 = .ok (.aload_n 0, 1) := by decide +kernel
theorem dX7_hint_69 : decode cX7_hint 69 = .ok (.getfield 67, 3) := by decide +kernel
theorem dX7_hint_72 : decode cX7_hint 72 = .ok (.iload_n 1, 1) := by decide +kernel
theorem dX7_hint_73 : decode cX7_hint 73 = .ok (.iload_n 2, 1) := by decide +kernel
theorem dX7_hint_74 : decode cX7_hint 74 = .ok (.iload_n 3, 1) := by decide +kernel
theorem dX7_hint_75 : decode cX7_hint 75 = .ok (.invokevirtual 267, 3) := by decide +kernel
theorem dX7_hint_78 : decode cX7_hint 78 = .ok (.ifCond .ne 6, 3) := by decide +kernel
theorem dX7_hint_81 : decode cX7_hint 81 = .ok (.bipush (-5), 2) := by decide +kernel
theorem dX7_hint_83 : decode cX7_hint 83 = .ok (.ireturn, 1) := by decide +kernel
theorem dX7_hint_84 : decode cX7_hint 84 = .ok (.aload_n 0, 1) := by decide +kernel
theorem dX7_hint_85 : decode cX7_hint 85 = .ok (.invokevirtual 256, 3) := by decide +kernel
theorem dX7_hint_88 : decode cX7_hint 88 = .ok (.aload_n 0, 1) := by decide +kernel
theorem dX7_hint_89 : decode cX7_hint 89 = .ok (.getfield 67, 3) := by decide +kernel
theorem dX7_hint_92 : decode cX7_hint 92 = .ok (.iload_n 1, 1) := by decide +kernel
theorem dX7_hint_93 : decode cX7_hint 93 = .ok (.iload_n 2, 1) := by decide +kernel
theorem dX7_hint_94 : decode cX7_hint 94 = .ok (.iload_n 3, 1) := by decide +kernel
theorem dX7_hint_95 : decode cX7_hint 95 = .ok (.invokevirtual 271, 3) := by decide +kernel
theorem dX7_hint_98 : decode cX7_hint 98 = .ok (.ireturn, 1) := by decide +kernel
theorem dX7_pass_0 : decode cX7_pass 0 = .ok (.aload_n 0, 1) := by decide +kernel
theorem dX7_pass_1 : decode cX7_pass 1 = .ok (.getfield 67, 3) := by decide +kernel
theorem dX7_pass_4 : decode cX7_pass 4 = .ok (.invokevirtual 145, 3) := by decide +kernel
theorem dX7_pass_7 : decode cX7_pass 7 = .ok (.ifCond .eq 6, 3) := by decide +kernel
theorem dX7_pass_10 : decode cX7_pass 10 = .ok (.bipush (-3), 2) := by decide +kernel
theorem dX7_pass_12 : decode cX7_pass 12 = .ok (.ireturn, 1) := by decide +kernel
theorem dX7_pass_13 : decode cX7_pass 13 = .ok (.aload_n 0, 1) := by decide +kernel
theorem dX7_pass_14 : decode cX7_pass 14 = .ok (.getfield 67, 3) := by decide +kernel
theorem dX7_pass_17 : decode cX7_pass 17 = .ok (.aload_n 0, 1) := by decide +kernel
theorem dX7_pass_18 : decode cX7_pass 18 = .ok (.getfield 67, 3) := by decide +kernel
theorem dX7_pass_21 : decode cX7_pass 21 = .ok (.getfield 149, 3) := by decide +kernel
theorem dX7_pass_24 : decode cX7_pass 24 = .ok (.invokevirtual 167, 3) := by decide +kernel
theorem dX7_pass_27 : decode cX7_pass 27 = .ok (.ifCond .le 6, 3) := by decide +kernel
theorem dX7_pass_30 : decode cX7_pass 30 = .ok (.bipush (-6), 2) := by decide +kernel
theorem dX7_pass_32 : decode cX7_pass 32 = .ok (.ireturn, 1) := by decide +kernel
theorem dX7_pass_33 : decode cX7_pass 33 = .ok (.aload_n 0, 1) := by decide +kernel
theorem dX7_pass_34 : decode cX7_pass 34 = .ok (.invokevirtual 256, 3) := by decide +kernel
theorem dX7_pass_37 : decode cX7_pass 37 = .ok (.aload_n 0, 1) := by decide +kernel
theorem dX7_pass_38 : decode cX7_pass 38 = .ok (.getfield 67, 3) := by decide +kernel
theorem dX7_pass_41 : decode cX7_pass 41 = .ok (.invokevirtual 275, 3) := by decide +kernel
theorem dX7_pass_44 : decode cX7_pass 44 = .ok (.aload_n 0, 1) := by decide +kernel
theorem dX7_pass_45 : decode cX7_pass 45 = .ok (.getfield 67, 3) := by decide +kernel
theorem dX7_pass_48 : decode cX7_pass 48 = .ok (.invokevirtual 145, 3) := by decide +kernel
theorem dX7_pass_51 : decode cX7_pass 51 = .ok (.ifCond .eq 7, 3) := by decide +kernel
theorem dX7_pass_54 : decode cX7_pass 54 = .ok (.iconst (-1), 1) := by decide +kernel
theorem dX7_pass_55 : decode cX7_pass 55 = .ok (.goto 10, 3) := by decide +kernel
theorem dX7_pass_58 : decode cX7_pass 58 = .ok (.aload_n 0, 1) := by decide +kernel
theorem dX7_pass_59 : decode cX7_pass 59 = .ok (.getfield 67, 3) := by decide +kernel
theorem dX7_pass_62 : decode cX7_pass 62 = .ok (.getfield 149, 3) := by decide +kernel
theorem dX7_pass_65 : decode cX7_pass 65 = .ok (.ireturn, 1) := by decide +kernel
theorem dX7_advice_0 : decode cX7_advice 0 = .ok (.iload_n 1, 1) := by decide +kernel
theorem dX7_advice_1 : decode cX7_advice 1 = .ok (.ifCond .lt 8, 3) := by decide +kernel
theorem dX7_advice_4 : decode cX7_advice 4 = .ok (.iload_n 1, 1) := by decide +kernel
theorem dX7_advice_5 : decode cX7_advice 5 = .ok (.iconst 3, 1) := by decide +kernel
theorem dX7_advice_6 : decode cX7_advice 6 = .ok (.if_icmp .le 14, 3) := by decide +kernel
theorem dX7_advice_9 : decode cX7_advice 9 = .ok (.new 138, 3) := by decide +kernel
theorem dX7_advice_12 : decode cX7_advice 12 = .ok (.dup, 1) := by decide +kernel
theorem dX7_advice_13 : decode cX7_advice 13 = .ok (.ldc_w 278, 3) := by decide +kernel
theorem dX7_advice_16 : decode cX7_advice 16 = .ok (.invokespecial 142, 3) := by decide +kernel
theorem dX7_advice_19 : decode cX7_advice 19 = .ok (.athrow, 1) := by decide +kernel
theorem dX7_advice_20 : decode cX7_advice 20 = .ok (.aload_n 0, 1) := by decide +kernel
theorem dX7_advice_21 : decode cX7_advice 21 = .ok (.getfield 67, 3) := by decide +kernel
theorem dX7_advice_24 : decode cX7_advice 24 = .ok (.invokevirtual 145, 3) := by decide +kernel
theorem dX7_advice_27 : decode cX7_advice 27 = .ok (.ifCond .eq 6, 3) := by decide +kernel
theorem dX7_advice_30 : decode cX7_advice 30 = .ok (.bipush (-3), 2) := by decide +kernel
theorem dX7_advice_32 : decode cX7_advice 32 = .ok (.ireturn, 1) := by decide +kernel
theorem dX7_advice_33 : decode cX7_advice 33 = .ok (.aload_n 0, 1) := by decide +kernel
theorem dX7_advice_34 : decode cX7_advice 34 = .ok (.getfield 47, 3) := by decide +kernel
theorem dX7_advice_37 : decode cX7_advice 37 = .ok (.aload_n 0, 1) := by decide +kernel
theorem dX7_advice_38 : decode cX7_advice 38 = .ok (.getfield 67, 3) := by decide +kernel
theorem dX7_advice_41 : decode cX7_advice 41 = .ok (.invokevirtual 280, 3) := by decide +kernel
theorem dX7_advice_44 : decode cX7_advice 44 = .ok (.iload_n 1, 1) := by decide +kernel
theorem dX7_advice_45 : decode cX7_advice 45 = .ok (.tableswitch 51 0 2 #[27, 35, 43], 27) := by decide +kernel
theorem dX7_advice_72 : decode cX7_advice 72 = .ok (.aload_n 0, 1) := by decide +kernel
theorem dX7_advice_73 : decode cX7_advice 73 = .ok (.getfield 47, 3) := by decide +kernel
theorem dX7_advice_76 : decode cX7_advice 76 = .ok (.getfield 284, 3) := by decide +kernel
theorem dX7_advice_79 : decode cX7_advice 79 = .ok (.ireturn, 1) := by decide +kernel
theorem dX7_advice_80 : decode cX7_advice 80 = .ok (.aload_n 0, 1) := by decide +kernel
theorem dX7_advice_81 : decode cX7_advice 81 = .ok (.getfield 47, 3) := by decide +kernel
theorem dX7_advice_84 : decode cX7_advice 84 = .ok (.getfield 287, 3) := by decide +kernel
theorem dX7_advice_87 : decode cX7_advice 87 = .ok (.ireturn, 1) := by decide +kernel
theorem dX7_advice_88 : decode cX7_advice 88 = .ok (.aload_n 0, 1) := by decide +kernel
theorem dX7_advice_89 : decode cX7_advice 89 = .ok (.getfield 47, 3) := by decide +kernel
theorem dX7_advice_92 : decode cX7_advice 92 = .ok (.getfield 290, 3) := by decide +kernel
theorem dX7_advice_95 : decode cX7_advice 95 = .ok (.ireturn, 1) := by decide +kernel
theorem dX7_advice_96 : decode cX7_advice 96 = .ok (.aload_n 0, 1) := by decide +kernel
theorem dX7_advice_97 : decode cX7_advice 97 = .ok (.getfield 47, 3) := by decide +kernel
theorem dX7_advice_100 : decode cX7_advice 100 = .ok (.getfield 293, 3) := by decide +kernel
theorem dX7_advice_103 : decode cX7_advice 103 = .ok (.ireturn, 1) := by decide +kernel
theorem dX7_follow_0 : decode cX7_follow 0 = .ok (.iload_n 1, 1) := by decide +kernel
theorem dX7_follow_1 : decode cX7_follow 1 = .ok (.iconst 1, 1) := by decide +kernel
theorem dX7_follow_2 : decode cX7_follow 2 = .ok (.if_icmp .lt 9, 3) := by decide +kernel
theorem dX7_follow_5 : decode cX7_follow 5 = .ok (.iload_n 1, 1) := by decide +kernel
theorem dX7_follow_6 : decode cX7_follow 6 = .ok (.bipush 100, 2) := by decide +kernel
theorem dX7_follow_8 : decode cX7_follow 8 = .ok (.if_icmp .le 14, 3) := by decide +kernel
theorem dX7_follow_11 : decode cX7_follow 11 = .ok (.new 138, 3) := by decide +kernel
theorem dX7_follow_14 : decode cX7_follow 14 = .ok (.dup, 1) := by decide +kernel
theorem dX7_follow_15 : decode cX7_follow 15 = .ok (.ldc_w 296, 3) := by decide +kernel
theorem dX7_follow_18 : decode cX7_follow 18 = .ok (.invokespecial 142, 3) := by decide +kernel
theorem dX7_follow_21 : decode cX7_follow 21 = .ok (.athrow, 1) := by decide +kernel
theorem dX7_follow_22 : decode cX7_follow 22 = .ok (.iconst 0, 1) := by decide +kernel
theorem dX7_follow_23 : decode cX7_follow 23 = .ok (.istore_n 2, 1) := by decide +kernel
theorem dX7_follow_24 : decode cX7_follow 24 = .ok (.iconst 0, 1) := by decide +kernel
theorem dX7_follow_25 : decode cX7_follow 25 = .ok (.istore_n 3, 1) := by decide +kernel
theorem dX7_follow_26 : decode cX7_follow 26 = .ok (.iload_n 3, 1) := by decide +kernel
theorem dX7_follow_27 : decode cX7_follow 27 = .ok (.iload_n 1, 1) := by decide +kernel
theorem dX7_follow_28 : decode cX7_follow 28 = .ok (.if_icmp .ge 48, 3) := by decide +kernel
theorem dX7_follow_31 : decode cX7_follow 31 = .ok (.aload_n 0, 1) := by decide +kernel
theorem dX7_follow_32 : decode cX7_follow 32 = .ok (.getfield 67, 3) := by decide +kernel
theorem dX7_follow_35 : decode cX7_follow 35 = .ok (.invokevirtual 145, 3) := by decide +kernel
theorem dX7_follow_38 : decode cX7_follow 38 = .ok (.ifCond .ne 38, 3) := by decide +kernel
theorem dX7_follow_41 : decode cX7_follow 41 = .ok (.aload_n 0, 1) := by decide +kernel
theorem dX7_follow_42 : decode cX7_follow 42 = .ok (.invokevirtual 256, 3) := by decide +kernel
theorem dX7_follow_45 : decode cX7_follow 45 = .ok (.aload_n 0, 1) := by decide +kernel
theorem dX7_follow_46 : decode cX7_follow 46 = .ok (.getfield 47, 3) := by decide +kernel
theorem dX7_follow_49 : decode cX7_follow 49 = .ok (.aload_n 0, 1) := by decide +kernel
theorem dX7_follow_50 : decode cX7_follow 50 = .ok (.getfield 67, 3) := by decide +kernel
theorem dX7_follow_53 : decode cX7_follow 53 = .ok (.invokevirtual 280, 3) := by decide +kernel
theorem dX7_follow_56 : decode cX7_follow 56 = .ok (.aload_n 0, 1) := by decide +kernel
theorem dX7_follow_57 : decode cX7_follow 57 = .ok (.getfield 47, 3) := by decide +kernel
theorem dX7_follow_60 : decode cX7_follow 60 = .ok (.aload_n 0, 1) := by decide +kernel
theorem dX7_follow_61 : decode cX7_follow 61 = .ok (.getfield 67, 3) := by decide +kernel
theorem dX7_follow_64 : decode cX7_follow 64 = .ok (.invokevirtual 298, 3) := by decide +kernel
theorem dX7_follow_67 : decode cX7_follow 67 = .ok (.iinc 2 1, 3) := by decide +kernel
theorem dX7_follow_70 : decode cX7_follow 70 = .ok (.iinc 3 1, 3) := by decide +kernel
theorem dX7_follow_73 : decode cX7_follow 73 = .ok (.goto (-47), 3) := by decide +kernel
theorem dX7_follow_76 : decode cX7_follow 76 = .ok (.iload_n 2, 1) := by decide +kernel
theorem dX7_follow_77 : decode cX7_follow 77 = .ok (.ireturn, 1) := by decide +kernel
theorem dX7_foreseen_0 : decode cX7_foreseen 0 = .ok (.aload_n 0, 1) := by decide +kernel
theorem dX7_foreseen_1 : decode cX7_foreseen 1 = .ok (.getfield 71, 3) := by decide +kernel
theorem dX7_foreseen_4 : decode cX7_foreseen 4 = .ok (.aload_n 0, 1) := by decide +kernel
theorem dX7_foreseen_5 : decode cX7_foreseen 5 = .ok (.getfield 67, 3) := by decide +kernel
theorem dX7_foreseen_8 : decode cX7_foreseen 8 = .ok (.invokevirtual 301, 3) := by decide +kernel
theorem dX7_foreseen_11 : decode cX7_foreseen 11 = .ok (.iconst 0, 1) := by decide +kernel
theorem dX7_foreseen_12 : decode cX7_foreseen 12 = .ok (.istore_n 1, 1) := by decide +kernel
theorem dX7_foreseen_13 : decode cX7_foreseen 13 = .ok (.iload_n 1, 1) := by decide +kernel
theorem dX7_foreseen_14 : decode cX7_foreseen 14 = .ok (.sipush 300, 3) := by decide +kernel
theorem dX7_foreseen_17 : decode cX7_foreseen 17 = .ok (.if_icmp .ge 41, 3) := by decide +kernel
theorem dX7_foreseen_20 : decode cX7_foreseen 20 = .ok (.aload_n 0, 1) := by decide +kernel
theorem dX7_foreseen_21 : decode cX7_foreseen 21 = .ok (.getfield 71, 3) := by decide +kernel
theorem dX7_foreseen_24 : decode cX7_foreseen 24 = .ok (.invokevirtual 145, 3) := by decide +kernel
theorem dX7_foreseen_27 : decode cX7_foreseen 27 = .ok (.ifCond .ne 31, 3) := by decide +kernel
theorem dX7_foreseen_30 : decode cX7_foreseen 30 = .ok (.aload_n 0, 1) := by decide +kernel
theorem dX7_foreseen_31 : decode cX7_foreseen 31 = .ok (.getfield 47, 3) := by decide +kernel
theorem dX7_foreseen_34 : decode cX7_foreseen 34 = .ok (.aload_n 0, 1) := by decide +kernel
theorem dX7_foreseen_35 : decode cX7_foreseen 35 = .ok (.getfield 71, 3) := by decide +kernel
theorem dX7_foreseen_38 : decode cX7_foreseen 38 = .ok (.invokevirtual 280, 3) := by decide +kernel
theorem dX7_foreseen_41 : decode cX7_foreseen 41 = .ok (.aload_n 0, 1) := by decide +kernel
theorem dX7_foreseen_42 : decode cX7_foreseen 42 = .ok (.getfield 47, 3) := by decide +kernel
theorem dX7_foreseen_45 : decode cX7_foreseen 45 = .ok (.aload_n 0, 1) := by decide +kernel
theorem dX7_foreseen_46 : decode cX7_foreseen 46 = .ok (.getfield 71, 3) := by decide +kernel
theorem dX7_foreseen_49 : decode cX7_foreseen 49 = .ok (.invokevirtual 298, 3) := by decide +kernel
theorem dX7_foreseen_52 : decode cX7_foreseen 52 = .ok (.iinc 1 1, 3) := by decide +kernel
theorem dX7_foreseen_55 : decode cX7_foreseen 55 = .ok (.goto (-42), 3) := by decide +kernel
theorem dX7_foreseen_58 : decode cX7_foreseen 58 = .ok (.aload_n 0, 1) := by decide +kernel
theorem dX7_foreseen_59 : decode cX7_foreseen 59 = .ok (.getfield 71, 3) := by decide +kernel
theorem dX7_foreseen_62 : decode cX7_foreseen 62 = .ok (.invokevirtual 128, 3) := by decide +kernel
theorem dX7_foreseen_65 : decode cX7_foreseen 65 = .ok (.ireturn, 1) := by decide +kernel
theorem dX7_bound_0 : decode cX7_bound 0 = .ok (.aload_n 0, 1) := by decide +kernel
theorem dX7_bound_1 : decode cX7_bound 1 = .ok (.getfield 67, 3) := by decide +kernel
theorem dX7_bound_4 : decode cX7_bound 4 = .ok (.invokevirtual 304, 3) := by decide +kernel
theorem dX7_bound_7 : decode cX7_bound 7 = .ok (.ireturn, 1) := by decide +kernel
theorem dX7_pace_0 : decode cX7_pace 0 = .ok (.aload_n 0, 1) := by decide +kernel
theorem dX7_pace_1 : decode cX7_pace 1 = .ok (.getfield 67, 3) := by decide +kernel
theorem dX7_pace_4 : decode cX7_pace 4 = .ok (.invokevirtual 128, 3) := by decide +kernel
theorem dX7_pace_7 : decode cX7_pace 7 = .ok (.aload_n 0, 1) := by decide +kernel
theorem dX7_pace_8 : decode cX7_pace 8 = .ok (.getfield 67, 3) := by decide +kernel
theorem dX7_pace_11 : decode cX7_pace 11 = .ok (.getfield 100, 3) := by decide +kernel
theorem dX7_pace_14 : decode cX7_pace 14 = .ok (.getfield 101, 3) := by decide +kernel
theorem dX7_pace_17 : decode cX7_pace 17 = .ok (.iadd, 1) := by decide +kernel
theorem dX7_pace_18 : decode cX7_pace 18 = .ok (.aload_n 0, 1) := by decide +kernel
theorem dX7_pace_19 : decode cX7_pace 19 = .ok (.getfield 67, 3) := by decide +kernel
theorem dX7_pace_22 : decode cX7_pace 22 = .ok (.getfield 119, 3) := by decide +kernel
theorem dX7_pace_25 : decode cX7_pace 25 = .ok (.isub, 1) := by decide +kernel
theorem dX7_pace_26 : decode cX7_pace 26 = .ok (.aload_n 0, 1) := by decide +kernel
theorem dX7_pace_27 : decode cX7_pace 27 = .ok (.getfield 67, 3) := by decide +kernel
theorem dX7_pace_30 : decode cX7_pace 30 = .ok (.getfield 100, 3) := by decide +kernel
theorem dX7_pace_33 : decode cX7_pace 33 = .ok (.getfield 113, 3) := by decide +kernel
theorem dX7_pace_36 : decode cX7_pace 36 = .ok (.iadd, 1) := by decide +kernel
theorem dX7_pace_37 : decode cX7_pace 37 = .ok (.aload_n 0, 1) := by decide +kernel
theorem dX7_pace_38 : decode cX7_pace 38 = .ok (.getfield 67, 3) := by decide +kernel
theorem dX7_pace_41 : decode cX7_pace 41 = .ok (.invokevirtual 304, 3) := by decide +kernel
theorem dX7_pace_44 : decode cX7_pace 44 = .ok (.isub, 1) := by decide +kernel
theorem dX7_pace_45 : decode cX7_pace 45 = .ok (.ireturn, 1) := by decide +kernel
theorem dX7_value_0 : decode cX7_value 0 = .ok (.aload_n 0, 1) := by decide +kernel
theorem dX7_value_1 : decode cX7_value 1 = .ok (.getfield 54, 3) := by decide +kernel
theorem dX7_value_4 : decode cX7_value 4 = .ok (.aload_n 0, 1) := by decide +kernel
theorem dX7_value_5 : decode cX7_value 5 = .ok (.getfield 67, 3) := by decide +kernel
theorem dX7_value_8 : decode cX7_value 8 = .ok (.invokevirtual 307, 3) := by decide +kernel
theorem dX7_value_11 : decode cX7_value 11 = .ok (.aload_n 0, 1) := by decide +kernel
theorem dX7_value_12 : decode cX7_value 12 = .ok (.getfield 54, 3) := by decide +kernel
theorem dX7_value_15 : decode cX7_value 15 = .ok (.getfield 310, 3) := by decide +kernel
theorem dX7_value_18 : decode cX7_value 18 = .ok (.ifCond .eq 8, 3) := by decide +kernel
theorem dX7_value_21 : decode cX7_value 21 = .ok (.bipush (-8), 2) := by decide +kernel
theorem dX7_value_23 : decode cX7_value 23 = .ok (.goto 10, 3) := by decide +kernel
theorem dX7_value_26 : decode cX7_value 26 = .ok (.aload_n 0, 1) := by decide +kernel
theorem dX7_value_27 : decode cX7_value 27 = .ok (.getfield 54, 3) := by decide +kernel
theorem dX7_value_30 : decode cX7_value 30 = .ok (.getfield 314, 3) := by decide +kernel
theorem dX7_value_33 : decode cX7_value 33 = .ok (.ireturn, 1) := by decide +kernel
theorem dX7_positions_0 : decode cX7_positions 0 = .ok (.aload_n 0, 1) := by decide +kernel
theorem dX7_positions_1 : decode cX7_positions 1 = .ok (.getfield 54, 3) := by decide +kernel
theorem dX7_positions_4 : decode cX7_positions 4 = .ok (.aload_n 0, 1) := by decide +kernel
theorem dX7_positions_5 : decode cX7_positions 5 = .ok (.getfield 67, 3) := by decide +kernel
theorem dX7_positions_8 : decode cX7_positions 8 = .ok (.invokevirtual 307, 3) := by decide +kernel
theorem dX7_positions_11 : decode cX7_positions 11 = .ok (.aload_n 0, 1) := by decide +kernel
theorem dX7_positions_12 : decode cX7_positions 12 = .ok (.getfield 54, 3) := by decide +kernel
theorem dX7_positions_15 : decode cX7_positions 15 = .ok (.getfield 310, 3) := by decide +kernel
theorem dX7_positions_18 : decode cX7_positions 18 = .ok (.ifCond .eq 8, 3) := by decide +kernel
theorem dX7_positions_21 : decode cX7_positions 21 = .ok (.bipush (-8), 2) := by decide +kernel
theorem dX7_positions_23 : decode cX7_positions 23 = .ok (.goto 10, 3) := by decide +kernel
theorem dX7_positions_26 : decode cX7_positions 26 = .ok (.aload_n 0, 1) := by decide +kernel
theorem dX7_positions_27 : decode cX7_positions 27 = .ok (.getfield 54, 3) := by decide +kernel
theorem dX7_positions_30 : decode cX7_positions 30 = .ok (.getfield 317, 3) := by decide +kernel
theorem dX7_positions_33 : decode cX7_positions 33 = .ok (.ireturn, 1) := by decide +kernel
theorem dX7_valueBehind_0 : decode cX7_valueBehind 0 = .ok (.iload_n 1, 1) := by decide +kernel
theorem dX7_valueBehind_1 : decode cX7_valueBehind 1 = .ok (.ifCond .lt 8, 3) := by decide +kernel
theorem dX7_valueBehind_4 : decode cX7_valueBehind 4 = .ok (.iload_n 1, 1) := by decide +kernel
theorem dX7_valueBehind_5 : decode cX7_valueBehind 5 = .ok (.iconst 3, 1) := by decide +kernel
theorem dX7_valueBehind_6 : decode cX7_valueBehind 6 = .ok (.if_icmp .le 14, 3) := by decide +kernel
theorem dX7_valueBehind_9 : decode cX7_valueBehind 9 = .ok (.new 138, 3) := by decide +kernel
theorem dX7_valueBehind_12 : decode cX7_valueBehind 12 = .ok (.dup, 1) := by decide +kernel
theorem dX7_valueBehind_13 : decode cX7_valueBehind 13 = .ok (.ldc_w 320, 3) := by decide +kernel
theorem dX7_valueBehind_16 : decode cX7_valueBehind 16 = .ok (.invokespecial 142, 3) := by decide +kernel
theorem dX7_valueBehind_19 : decode cX7_valueBehind 19 = .ok (.athrow, 1) := by decide +kernel
theorem dX7_valueBehind_20 : decode cX7_valueBehind 20 = .ok (.aload_n 0, 1) := by decide +kernel
theorem dX7_valueBehind_21 : decode cX7_valueBehind 21 = .ok (.getfield 67, 3) := by decide +kernel
theorem dX7_valueBehind_24 : decode cX7_valueBehind 24 = .ok (.invokevirtual 145, 3) := by decide +kernel
theorem dX7_valueBehind_27 : decode cX7_valueBehind 27 = .ok (.ifCond .eq 6, 3) := by decide +kernel
theorem dX7_valueBehind_30 : decode cX7_valueBehind 30 = .ok (.bipush (-3), 2) := by decide +kernel
theorem dX7_valueBehind_32 : decode cX7_valueBehind 32 = .ok (.ireturn, 1) := by decide +kernel
theorem dX7_valueBehind_33 : decode cX7_valueBehind 33 = .ok (.aload_n 0, 1) := by decide +kernel
theorem dX7_valueBehind_34 : decode cX7_valueBehind 34 = .ok (.getfield 54, 3) := by decide +kernel
theorem dX7_valueBehind_37 : decode cX7_valueBehind 37 = .ok (.aload_n 0, 1) := by decide +kernel
theorem dX7_valueBehind_38 : decode cX7_valueBehind 38 = .ok (.getfield 67, 3) := by decide +kernel
theorem dX7_valueBehind_41 : decode cX7_valueBehind 41 = .ok (.iload_n 1, 1) := by decide +kernel
theorem dX7_valueBehind_42 : decode cX7_valueBehind 42 = .ok (.iload_n 2, 1) := by decide +kernel
theorem dX7_valueBehind_43 : decode cX7_valueBehind 43 = .ok (.invokevirtual 322, 3) := by decide +kernel
theorem dX7_valueBehind_46 : decode cX7_valueBehind 46 = .ok (.ifCond .ne 6, 3) := by decide +kernel
theorem dX7_valueBehind_49 : decode cX7_valueBehind 49 = .ok (.bipush (-7), 2) := by decide +kernel
theorem dX7_valueBehind_51 : decode cX7_valueBehind 51 = .ok (.ireturn, 1) := by decide +kernel
theorem dX7_valueBehind_52 : decode cX7_valueBehind 52 = .ok (.aload_n 0, 1) := by decide +kernel
theorem dX7_valueBehind_53 : decode cX7_valueBehind 53 = .ok (.getfield 54, 3) := by decide +kernel
theorem dX7_valueBehind_56 : decode cX7_valueBehind 56 = .ok (.getfield 310, 3) := by decide +kernel
theorem dX7_valueBehind_59 : decode cX7_valueBehind 59 = .ok (.ifCond .eq 8, 3) := by decide +kernel
theorem dX7_valueBehind_62 : decode cX7_valueBehind 62 = .ok (.bipush (-8), 2) := by decide +kernel
theorem dX7_valueBehind_64 : decode cX7_valueBehind 64 = .ok (.goto 10, 3) := by decide +kernel
theorem dX7_valueBehind_67 : decode cX7_valueBehind 67 = .ok (.aload_n 0, 1) := by decide +kernel
theorem dX7_valueBehind_68 : decode cX7_valueBehind 68 = .ok (.getfield 54, 3) := by decide +kernel
theorem dX7_valueBehind_71 : decode cX7_valueBehind 71 = .ok (.getfield 314, 3) := by decide +kernel
theorem dX7_valueBehind_74 : decode cX7_valueBehind 74 = .ok (.ireturn, 1) := by decide +kernel
theorem dX7_bestMove_0 : decode cX7_bestMove 0 = .ok (.iload_n 1, 1) := by decide +kernel
theorem dX7_bestMove_1 : decode cX7_bestMove 1 = .ok (.ifCond .eq 19, 3) := by decide +kernel
theorem dX7_bestMove_4 : decode cX7_bestMove 4 = .ok (.iload_n 1, 1) := by decide +kernel
theorem dX7_bestMove_5 : decode cX7_bestMove 5 = .ok (.iconst 1, 1) := by decide +kernel
theorem dX7_bestMove_6 : decode cX7_bestMove 6 = .ok (.if_icmp .eq 14, 3) := by decide +kernel
theorem dX7_bestMove_9 : decode cX7_bestMove 9 = .ok (.new 138, 3) := by decide +kernel
theorem dX7_bestMove_12 : decode cX7_bestMove 12 = .ok (.dup, 1) := by decide +kernel
theorem dX7_bestMove_13 : decode cX7_bestMove 13 = .ok (.ldc_w 326, 3) := by decide +kernel
theorem dX7_bestMove_16 : decode cX7_bestMove 16 = .ok (.invokespecial 142, 3) := by decide +kernel
theorem dX7_bestMove_19 : decode cX7_bestMove 19 = .ok (.athrow, 1) := by decide +kernel
theorem dX7_bestMove_20 : decode cX7_bestMove 20 = .ok (.aload_n 0, 1) := by decide +kernel
theorem dX7_bestMove_21 : decode cX7_bestMove 21 = .ok (.getfield 67, 3) := by decide +kernel
theorem dX7_bestMove_24 : decode cX7_bestMove 24 = .ok (.invokevirtual 145, 3) := by decide +kernel
theorem dX7_bestMove_27 : decode cX7_bestMove 27 = .ok (.ifCond .eq 6, 3) := by decide +kernel
theorem dX7_bestMove_30 : decode cX7_bestMove 30 = .ok (.bipush (-3), 2) := by decide +kernel
theorem dX7_bestMove_32 : decode cX7_bestMove 32 = .ok (.ireturn, 1) := by decide +kernel
theorem dX7_bestMove_33 : decode cX7_bestMove 33 = .ok (.aload_n 0, 1) := by decide +kernel
theorem dX7_bestMove_34 : decode cX7_bestMove 34 = .ok (.getfield 54, 3) := by decide +kernel
theorem dX7_bestMove_37 : decode cX7_bestMove 37 = .ok (.aload_n 0, 1) := by decide +kernel
theorem dX7_bestMove_38 : decode cX7_bestMove 38 = .ok (.getfield 67, 3) := by decide +kernel
theorem dX7_bestMove_41 : decode cX7_bestMove 41 = .ok (.invokevirtual 307, 3) := by decide +kernel
theorem dX7_bestMove_44 : decode cX7_bestMove 44 = .ok (.aload_n 0, 1) := by decide +kernel
theorem dX7_bestMove_45 : decode cX7_bestMove 45 = .ok (.getfield 54, 3) := by decide +kernel
theorem dX7_bestMove_48 : decode cX7_bestMove 48 = .ok (.getfield 310, 3) := by decide +kernel
theorem dX7_bestMove_51 : decode cX7_bestMove 51 = .ok (.ifCond .eq 6, 3) := by decide +kernel
theorem dX7_bestMove_54 : decode cX7_bestMove 54 = .ok (.bipush (-8), 2) := by decide +kernel
theorem dX7_bestMove_56 : decode cX7_bestMove 56 = .ok (.ireturn, 1) := by decide +kernel
theorem dX7_bestMove_57 : decode cX7_bestMove 57 = .ok (.aload_n 0, 1) := by decide +kernel
theorem dX7_bestMove_58 : decode cX7_bestMove 58 = .ok (.getfield 54, 3) := by decide +kernel
theorem dX7_bestMove_61 : decode cX7_bestMove 61 = .ok (.aload_n 0, 1) := by decide +kernel
theorem dX7_bestMove_62 : decode cX7_bestMove 62 = .ok (.getfield 67, 3) := by decide +kernel
theorem dX7_bestMove_65 : decode cX7_bestMove 65 = .ok (.aload_n 0, 1) := by decide +kernel
theorem dX7_bestMove_66 : decode cX7_bestMove 66 = .ok (.getfield 54, 3) := by decide +kernel
theorem dX7_bestMove_69 : decode cX7_bestMove 69 = .ok (.getfield 314, 3) := by decide +kernel
theorem dX7_bestMove_72 : decode cX7_bestMove 72 = .ok (.invokevirtual 328, 3) := by decide +kernel
theorem dX7_bestMove_75 : decode cX7_bestMove 75 = .ok (.iload_n 1, 1) := by decide +kernel
theorem dX7_bestMove_76 : decode cX7_bestMove 76 = .ok (.ifCond .ne 13, 3) := by decide +kernel
theorem dX7_bestMove_79 : decode cX7_bestMove 79 = .ok (.aload_n 0, 1) := by decide +kernel
theorem dX7_bestMove_80 : decode cX7_bestMove 80 = .ok (.getfield 54, 3) := by decide +kernel
theorem dX7_bestMove_83 : decode cX7_bestMove 83 = .ok (.getfield 332, 3) := by decide +kernel
theorem dX7_bestMove_86 : decode cX7_bestMove 86 = .ok (.goto 10, 3) := by decide +kernel
theorem dX7_bestMove_89 : decode cX7_bestMove 89 = .ok (.aload_n 0, 1) := by decide +kernel
theorem dX7_bestMove_90 : decode cX7_bestMove 90 = .ok (.getfield 54, 3) := by decide +kernel
theorem dX7_bestMove_93 : decode cX7_bestMove 93 = .ok (.getfield 335, 3) := by decide +kernel
theorem dX7_bestMove_96 : decode cX7_bestMove 96 = .ok (.ireturn, 1) := by decide +kernel
theorem dX7_total_0 : decode cX7_total 0 = .ok (.iload_n 1, 1) := by decide +kernel
theorem dX7_total_1 : decode cX7_total 1 = .ok (.ifCond .lt 9, 3) := by decide +kernel
theorem dX7_total_4 : decode cX7_total 4 = .ok (.iload_n 1, 1) := by decide +kernel
theorem dX7_total_5 : decode cX7_total 5 = .ok (.bipush 7, 2) := by decide +kernel
theorem dX7_total_7 : decode cX7_total 7 = .ok (.if_icmp .lt 14, 3) := by decide +kernel
theorem dX7_total_10 : decode cX7_total 10 = .ok (.new 138, 3) := by decide +kernel
theorem dX7_total_13 : decode cX7_total 13 = .ok (.dup, 1) := by decide +kernel
theorem dX7_total_14 : decode cX7_total 14 = .ok (.ldc_w 338, 3) := by decide +kernel
theorem dX7_total_17 : decode cX7_total 17 = .ok (.invokespecial 142, 3) := by decide +kernel
theorem dX7_total_20 : decode cX7_total 20 = .ok (.athrow, 1) := by decide +kernel
theorem dX7_total_21 : decode cX7_total 21 = .ok (.aload_n 0, 1) := by decide +kernel
theorem dX7_total_22 : decode cX7_total 22 = .ok (.getfield 67, 3) := by decide +kernel
theorem dX7_total_25 : decode cX7_total 25 = .ok (.getfield 340, 3) := by decide +kernel
theorem dX7_total_28 : decode cX7_total 28 = .ok (.iload_n 1, 1) := by decide +kernel
theorem dX7_total_29 : decode cX7_total 29 = .ok (.iaload, 1) := by decide +kernel
theorem dX7_total_30 : decode cX7_total 30 = .ok (.ireturn, 1) := by decide +kernel
theorem dX7_logPart_0 : decode cX7_logPart 0 = .ok (.iload_n 2, 1) := by decide +kernel
theorem dX7_logPart_1 : decode cX7_logPart 1 = .ok (.ifCond .lt 8, 3) := by decide +kernel
theorem dX7_logPart_4 : decode cX7_logPart 4 = .ok (.iload_n 2, 1) := by decide +kernel
theorem dX7_logPart_5 : decode cX7_logPart 5 = .ok (.iconst 4, 1) := by decide +kernel
theorem dX7_logPart_6 : decode cX7_logPart 6 = .ok (.if_icmp .lt 14, 3) := by decide +kernel
theorem dX7_logPart_9 : decode cX7_logPart 9 = .ok (.new 138, 3) := by decide +kernel
theorem dX7_logPart_12 : decode cX7_logPart 12 = .ok (.dup, 1) := by decide +kernel
theorem dX7_logPart_13 : decode cX7_logPart 13 = .ok (.ldc_w 343, 3) := by decide +kernel
theorem dX7_logPart_16 : decode cX7_logPart 16 = .ok (.invokespecial 142, 3) := by decide +kernel
theorem dX7_logPart_19 : decode cX7_logPart 19 = .ok (.athrow, 1) := by decide +kernel
theorem dX7_logPart_20 : decode cX7_logPart 20 = .ok (.aload_n 0, 1) := by decide +kernel
theorem dX7_logPart_21 : decode cX7_logPart 21 = .ok (.getfield 67, 3) := by decide +kernel
theorem dX7_logPart_24 : decode cX7_logPart 24 = .ok (.iload_n 1, 1) := by decide +kernel
theorem dX7_logPart_25 : decode cX7_logPart 25 = .ok (.iload_n 2, 1) := by decide +kernel
theorem dX7_logPart_26 : decode cX7_logPart 26 = .ok (.invokevirtual 345, 3) := by decide +kernel
theorem dX7_logPart_29 : decode cX7_logPart 29 = .ok (.ireturn, 1) := by decide +kernel
theorem dX7_undo_0 : decode cX7_undo 0 = .ok (.aload_n 0, 1) := by decide +kernel
theorem dX7_undo_1 : decode cX7_undo 1 = .ok (.getfield 97, 3) := by decide +kernel
theorem dX7_undo_4 : decode cX7_undo 4 = .ok (.ifCond .gt 5, 3) := by decide +kernel
theorem dX7_undo_7 : decode cX7_undo 7 = .ok (.iconst (-1), 1) := by decide +kernel
theorem dX7_undo_8 : decode cX7_undo 8 = .ok (.ireturn, 1) := by decide +kernel
theorem dX7_undo_9 : decode cX7_undo 9 = .ok (.aload_n 0, 1) := by decide +kernel
theorem dX7_undo_10 : decode cX7_undo 10 = .ok (.aload_n 0, 1) := by decide +kernel
theorem dX7_undo_11 : decode cX7_undo 11 = .ok (.getfield 348, 3) := by decide +kernel
theorem dX7_undo_14 : decode cX7_undo 14 = .ok (.ifCond .le 12, 3) := by decide +kernel
theorem dX7_undo_17 : decode cX7_undo 17 = .ok (.aload_n 0, 1) := by decide +kernel
theorem dX7_undo_18 : decode cX7_undo 18 = .ok (.getfield 348, 3) := by decide +kernel
theorem dX7_undo_21 : decode cX7_undo 21 = .ok (.iconst 1, 1) := by decide +kernel
theorem dX7_undo_22 : decode cX7_undo 22 = .ok (.isub, 1) := by decide +kernel
theorem dX7_undo_23 : decode cX7_undo 23 = .ok (.goto 5, 3) := by decide +kernel
theorem dX7_undo_26 : decode cX7_undo 26 = .ok (.bipush 19, 2) := by decide +kernel
theorem dX7_undo_28 : decode cX7_undo 28 = .ok (.putfield 348, 3) := by decide +kernel
theorem dX7_undo_31 : decode cX7_undo 31 = .ok (.aload_n 0, 1) := by decide +kernel
theorem dX7_undo_32 : decode cX7_undo 32 = .ok (.dup, 1) := by decide +kernel
theorem dX7_undo_33 : decode cX7_undo 33 = .ok (.getfield 97, 3) := by decide +kernel
theorem dX7_undo_36 : decode cX7_undo 36 = .ok (.iconst 1, 1) := by decide +kernel
theorem dX7_undo_37 : decode cX7_undo 37 = .ok (.isub, 1) := by decide +kernel
theorem dX7_undo_38 : decode cX7_undo 38 = .ok (.putfield 97, 3) := by decide +kernel
theorem dX7_undo_41 : decode cX7_undo 41 = .ok (.aload_n 0, 1) := by decide +kernel
theorem dX7_undo_42 : decode cX7_undo 42 = .ok (.getfield 67, 3) := by decide +kernel
theorem dX7_undo_45 : decode cX7_undo 45 = .ok (.aload_n 0, 1) := by decide +kernel
theorem dX7_undo_46 : decode cX7_undo 46 = .ok (.getfield 24, 3) := by decide +kernel
theorem dX7_undo_49 : decode cX7_undo 49 = .ok (.aload_n 0, 1) := by decide +kernel
theorem dX7_undo_50 : decode cX7_undo 50 = .ok (.getfield 348, 3) := by decide +kernel
theorem dX7_undo_53 : decode cX7_undo 53 = .ok (.aaload, 1) := by decide +kernel
theorem dX7_undo_54 : decode cX7_undo 54 = .ok (.invokevirtual 301, 3) := by decide +kernel
theorem dX7_undo_57 : decode cX7_undo 57 = .ok (.aload_n 0, 1) := by decide +kernel
theorem dX7_undo_58 : decode cX7_undo 58 = .ok (.getfield 97, 3) := by decide +kernel
theorem dX7_undo_61 : decode cX7_undo 61 = .ok (.ireturn, 1) := by decide +kernel
theorem dX7_writeHand_0 : decode cX7_writeHand 0 = .ok (.aload_n 0, 1) := by decide +kernel
theorem dX7_writeHand_1 : decode cX7_writeHand 1 = .ok (.iload_n 1, 1) := by decide +kernel
theorem dX7_writeHand_2 : decode cX7_writeHand 2 = .ok (.invokevirtual 164, 3) := by decide +kernel
theorem dX7_writeHand_5 : decode cX7_writeHand 5 = .ok (.aload_n 0, 1) := by decide +kernel
theorem dX7_writeHand_6 : decode cX7_writeHand 6 = .ok (.iconst 0, 1) := by decide +kernel
theorem dX7_writeHand_7 : decode cX7_writeHand 7 = .ok (.putfield 351, 3) := by decide +kernel
theorem dX7_writeHand_10 : decode cX7_writeHand 10 = .ok (.iconst 0, 1) := by decide +kernel
theorem dX7_writeHand_11 : decode cX7_writeHand 11 = .ok (.istore_n 3, 1) := by decide +kernel
theorem dX7_writeHand_12 : decode cX7_writeHand 12 = .ok (.iload_n 3, 1) := by decide +kernel
theorem dX7_writeHand_13 : decode cX7_writeHand 13 = .ok (.aload_n 0, 1) := by decide +kernel
theorem dX7_writeHand_14 : decode cX7_writeHand 14 = .ok (.getfield 67, 3) := by decide +kernel
theorem dX7_writeHand_17 : decode cX7_writeHand 17 = .ok (.iload_n 1, 1) := by decide +kernel
theorem dX7_writeHand_18 : decode cX7_writeHand 18 = .ok (.invokevirtual 167, 3) := by decide +kernel
theorem dX7_writeHand_21 : decode cX7_writeHand 21 = .ok (.if_icmp .ge 81, 3) := by decide +kernel
theorem dX7_writeHand_24 : decode cX7_writeHand 24 = .ok (.aload_n 0, 1) := by decide +kernel
theorem dX7_writeHand_25 : decode cX7_writeHand 25 = .ok (.getfield 67, 3) := by decide +kernel
theorem dX7_writeHand_28 : decode cX7_writeHand 28 = .ok (.iload_n 1, 1) := by decide +kernel
theorem dX7_writeHand_29 : decode cX7_writeHand 29 = .ok (.iload_n 3, 1) := by decide +kernel
theorem dX7_writeHand_30 : decode cX7_writeHand 30 = .ok (.invokevirtual 354, 3) := by decide +kernel
theorem dX7_writeHand_33 : decode cX7_writeHand 33 = .ok (.istore 4, 2) := by decide +kernel
theorem dX7_writeHand_35 : decode cX7_writeHand 35 = .ok (.iload_n 2, 1) := by decide +kernel
theorem dX7_writeHand_36 : decode cX7_writeHand 36 = .ok (.ifCond .eq 17, 3) := by decide +kernel
theorem dX7_writeHand_39 : decode cX7_writeHand 39 = .ok (.iconst 1, 1) := by decide +kernel
theorem dX7_writeHand_40 : decode cX7_writeHand 40 = .ok (.aload_n 0, 1) := by decide +kernel
theorem dX7_writeHand_41 : decode cX7_writeHand 41 = .ok (.getfield 67, 3) := by decide +kernel
theorem dX7_writeHand_44 : decode cX7_writeHand 44 = .ok (.iload 4, 2) := by decide +kernel
theorem dX7_writeHand_46 : decode cX7_writeHand 46 = .ok (.invokevirtual 174, 3) := by decide +kernel
theorem dX7_writeHand_49 : decode cX7_writeHand 49 = .ok (.ishl, 1) := by decide +kernel
theorem dX7_writeHand_50 : decode cX7_writeHand 50 = .ok (.goto 12, 3) := by decide +kernel
theorem dX7_writeHand_53 : decode cX7_writeHand 53 = .ok (.aload_n 0, 1) := by decide +kernel
theorem dX7_writeHand_54 : decode cX7_writeHand 54 = .ok (.getfield 67, 3) := by decide +kernel
theorem dX7_writeHand_57 : decode cX7_writeHand 57 = .ok (.iload 4, 2) := by decide +kernel
theorem dX7_writeHand_59 : decode cX7_writeHand 59 = .ok (.invokevirtual 202, 3) := by decide +kernel
theorem dX7_writeHand_62 : decode cX7_writeHand 62 = .ok (.istore 5, 2) := by decide +kernel
theorem dX7_writeHand_64 : decode cX7_writeHand 64 = .ok (.iload_n 3, 1) := by decide +kernel
theorem dX7_writeHand_65 : decode cX7_writeHand 65 = .ok (.ifCond .le 9, 3) := by decide +kernel
theorem dX7_writeHand_68 : decode cX7_writeHand 68 = .ok (.aload_n 0, 1) := by decide +kernel
theorem dX7_writeHand_69 : decode cX7_writeHand 69 = .ok (.bipush 32, 2) := by decide +kernel
theorem dX7_writeHand_71 : decode cX7_writeHand 71 = .ok (.invokevirtual 357, 3) := by decide +kernel
theorem dX7_writeHand_74 : decode cX7_writeHand 74 = .ok (.aload_n 0, 1) := by decide +kernel
theorem dX7_writeHand_75 : decode cX7_writeHand 75 = .ok (.bipush 97, 2) := by decide +kernel
theorem dX7_writeHand_77 : decode cX7_writeHand 77 = .ok (.iload 5, 2) := by decide +kernel
theorem dX7_writeHand_79 : decode cX7_writeHand 79 = .ok (.invokestatic 205, 3) := by decide +kernel
theorem dX7_writeHand_82 : decode cX7_writeHand 82 = .ok (.invokevirtual 360, 3) := by decide +kernel
theorem dX7_writeHand_85 : decode cX7_writeHand 85 = .ok (.aload_n 0, 1) := by decide +kernel
theorem dX7_writeHand_86 : decode cX7_writeHand 86 = .ok (.bipush 49, 2) := by decide +kernel
theorem dX7_writeHand_88 : decode cX7_writeHand 88 = .ok (.iload 5, 2) := by decide +kernel
theorem dX7_writeHand_90 : decode cX7_writeHand 90 = .ok (.invokestatic 208, 3) := by decide +kernel
theorem dX7_writeHand_93 : decode cX7_writeHand 93 = .ok (.invokevirtual 360, 3) := by decide +kernel
theorem dX7_writeHand_96 : decode cX7_writeHand 96 = .ok (.iinc 3 1, 3) := by decide +kernel
theorem dX7_writeHand_99 : decode cX7_writeHand 99 = .ok (.goto (-87), 3) := by decide +kernel
theorem dX7_writeHand_102 : decode cX7_writeHand 102 = .ok (.aload_n 0, 1) := by decide +kernel
theorem dX7_writeHand_103 : decode cX7_writeHand 103 = .ok (.getfield 351, 3) := by decide +kernel
theorem dX7_writeHand_106 : decode cX7_writeHand 106 = .ok (.ireturn, 1) := by decide +kernel
theorem dX7_outputByte_0 : decode cX7_outputByte 0 = .ok (.iload_n 1, 1) := by decide +kernel
theorem dX7_outputByte_1 : decode cX7_outputByte 1 = .ok (.ifCond .lt 20, 3) := by decide +kernel
theorem dX7_outputByte_4 : decode cX7_outputByte 4 = .ok (.iload_n 1, 1) := by decide +kernel
theorem dX7_outputByte_5 : decode cX7_outputByte 5 = .ok (.aload_n 0, 1) := by decide +kernel
theorem dX7_outputByte_6 : decode cX7_outputByte 6 = .ok (.getfield 351, 3) := by decide +kernel
theorem dX7_outputByte_9 : decode cX7_outputByte 9 = .ok (.if_icmp .ge 12, 3) := by decide +kernel
theorem dX7_outputByte_12 : decode cX7_outputByte 12 = .ok (.iload_n 1, 1) := by decide +kernel
theorem dX7_outputByte_13 : decode cX7_outputByte 13 = .ok (.aload_n 0, 1) := by decide +kernel
theorem dX7_outputByte_14 : decode cX7_outputByte 14 = .ok (.getfield 58, 3) := by decide +kernel
theorem dX7_outputByte_17 : decode cX7_outputByte 17 = .ok (.arraylength, 1) := by decide +kernel
theorem dX7_outputByte_18 : decode cX7_outputByte 18 = .ok (.if_icmp .lt 5, 3) := by decide +kernel
theorem dX7_outputByte_21 : decode cX7_outputByte 21 = .ok (.iconst (-1), 1) := by decide +kernel
theorem dX7_outputByte_22 : decode cX7_outputByte 22 = .ok (.ireturn, 1) := by decide +kernel
theorem dX7_outputByte_23 : decode cX7_outputByte 23 = .ok (.aload_n 0, 1) := by decide +kernel
theorem dX7_outputByte_24 : decode cX7_outputByte 24 = .ok (.getfield 58, 3) := by decide +kernel
theorem dX7_outputByte_27 : decode cX7_outputByte 27 = .ok (.iload_n 1, 1) := by decide +kernel
theorem dX7_outputByte_28 : decode cX7_outputByte 28 = .ok (.iaload, 1) := by decide +kernel
theorem dX7_outputByte_29 : decode cX7_outputByte 29 = .ok (.ireturn, 1) := by decide +kernel
theorem dX7_saveSnapshot_0 : decode cX7_saveSnapshot 0 = .ok (.aload_n 0, 1) := by decide +kernel
theorem dX7_saveSnapshot_1 : decode cX7_saveSnapshot 1 = .ok (.iload_n 1, 1) := by decide +kernel
theorem dX7_saveSnapshot_2 : decode cX7_saveSnapshot 2 = .ok (.invokevirtual 364, 3) := by decide +kernel
theorem dX7_saveSnapshot_5 : decode cX7_saveSnapshot 5 = .ok (.aload_n 0, 1) := by decide +kernel
theorem dX7_saveSnapshot_6 : decode cX7_saveSnapshot 6 = .ok (.getfield 28, 3) := by decide +kernel
theorem dX7_saveSnapshot_9 : decode cX7_saveSnapshot 9 = .ok (.iload_n 1, 1) := by decide +kernel
theorem dX7_saveSnapshot_10 : decode cX7_saveSnapshot 10 = .ok (.aaload, 1) := by decide +kernel
theorem dX7_saveSnapshot_11 : decode cX7_saveSnapshot 11 = .ok (.aload_n 0, 1) := by decide +kernel
theorem dX7_saveSnapshot_12 : decode cX7_saveSnapshot 12 = .ok (.getfield 67, 3) := by decide +kernel
theorem dX7_saveSnapshot_15 : decode cX7_saveSnapshot 15 = .ok (.invokevirtual 301, 3) := by decide +kernel
theorem dX7_saveSnapshot_18 : decode cX7_saveSnapshot 18 = .ok (.aload_n 0, 1) := by decide +kernel
theorem dX7_saveSnapshot_19 : decode cX7_saveSnapshot 19 = .ok (.getfield 31, 3) := by decide +kernel
theorem dX7_saveSnapshot_22 : decode cX7_saveSnapshot 22 = .ok (.iload_n 1, 1) := by decide +kernel
theorem dX7_saveSnapshot_23 : decode cX7_saveSnapshot 23 = .ok (.iconst 1, 1) := by decide +kernel
theorem dX7_saveSnapshot_24 : decode cX7_saveSnapshot 24 = .ok (.bastore, 1) := by decide +kernel
theorem dX7_saveSnapshot_25 : decode cX7_saveSnapshot 25 = .ok (.aload_n 0, 1) := by decide +kernel
theorem dX7_saveSnapshot_26 : decode cX7_saveSnapshot 26 = .ok (.getfield 67, 3) := by decide +kernel
theorem dX7_saveSnapshot_29 : decode cX7_saveSnapshot 29 = .ok (.invokevirtual 128, 3) := by decide +kernel
theorem dX7_saveSnapshot_32 : decode cX7_saveSnapshot 32 = .ok (.ireturn, 1) := by decide +kernel
theorem dX7_restoreSnapshot_0 : decode cX7_restoreSnapshot 0 = .ok (.aload_n 0, 1) := by decide +kernel
theorem dX7_restoreSnapshot_1 : decode cX7_restoreSnapshot 1 = .ok (.iload_n 1, 1) := by decide +kernel
theorem dX7_restoreSnapshot_2 : decode cX7_restoreSnapshot 2 = .ok (.invokevirtual 364, 3) := by decide +kernel
theorem dX7_restoreSnapshot_5 : decode cX7_restoreSnapshot 5 = .ok (.aload_n 0, 1) := by decide +kernel
theorem dX7_restoreSnapshot_6 : decode cX7_restoreSnapshot 6 = .ok (.getfield 31, 3) := by decide +kernel
theorem dX7_restoreSnapshot_9 : decode cX7_restoreSnapshot 9 = .ok (.iload_n 1, 1) := by decide +kernel
theorem dX7_restoreSnapshot_10 : decode cX7_restoreSnapshot 10 = .ok (.baload, 1) := by decide +kernel
theorem dX7_restoreSnapshot_11 : decode cX7_restoreSnapshot 11 = .ok (.ifCond .ne 5, 3) := by decide +kernel
theorem dX7_restoreSnapshot_14 : decode cX7_restoreSnapshot 14 = .ok (.iconst (-1), 1) := by decide +kernel
theorem dX7_restoreSnapshot_15 : decode cX7_restoreSnapshot 15 = .ok (.ireturn, 1) := by decide +kernel
theorem dX7_restoreSnapshot_16 : decode cX7_restoreSnapshot 16 = .ok (.aload_n 0, 1) := by decide +kernel
theorem dX7_restoreSnapshot_17 : decode cX7_restoreSnapshot 17 = .ok (.getfield 67, 3) := by decide +kernel
theorem dX7_restoreSnapshot_20 : decode cX7_restoreSnapshot 20 = .ok (.aload_n 0, 1) := by decide +kernel
theorem dX7_restoreSnapshot_21 : decode cX7_restoreSnapshot 21 = .ok (.getfield 28, 3) := by decide +kernel
theorem dX7_restoreSnapshot_24 : decode cX7_restoreSnapshot 24 = .ok (.iload_n 1, 1) := by decide +kernel
theorem dX7_restoreSnapshot_25 : decode cX7_restoreSnapshot 25 = .ok (.aaload, 1) := by decide +kernel
theorem dX7_restoreSnapshot_26 : decode cX7_restoreSnapshot 26 = .ok (.invokevirtual 301, 3) := by decide +kernel
theorem dX7_restoreSnapshot_29 : decode cX7_restoreSnapshot 29 = .ok (.aload_n 0, 1) := by decide +kernel
theorem dX7_restoreSnapshot_30 : decode cX7_restoreSnapshot 30 = .ok (.iconst 0, 1) := by decide +kernel
theorem dX7_restoreSnapshot_31 : decode cX7_restoreSnapshot 31 = .ok (.putfield 97, 3) := by decide +kernel
theorem dX7_restoreSnapshot_34 : decode cX7_restoreSnapshot 34 = .ok (.aload_n 0, 1) := by decide +kernel
theorem dX7_restoreSnapshot_35 : decode cX7_restoreSnapshot 35 = .ok (.getfield 67, 3) := by decide +kernel
theorem dX7_restoreSnapshot_38 : decode cX7_restoreSnapshot 38 = .ok (.invokevirtual 128, 3) := by decide +kernel
theorem dX7_restoreSnapshot_41 : decode cX7_restoreSnapshot 41 = .ok (.ireturn, 1) := by decide +kernel
theorem dX7_needPlayer_0 : decode cX7_needPlayer 0 = .ok (.iload_n 1, 1) := by decide +kernel
theorem dX7_needPlayer_1 : decode cX7_needPlayer 1 = .ok (.ifCond .lt 17, 3) := by decide +kernel
theorem dX7_needPlayer_4 : decode cX7_needPlayer 4 = .ok (.iload_n 1, 1) := by decide +kernel
theorem dX7_needPlayer_5 : decode cX7_needPlayer 5 = .ok (.aload_n 0, 1) := by decide +kernel
theorem dX7_needPlayer_6 : decode cX7_needPlayer 6 = .ok (.getfield 67, 3) := by decide +kernel
theorem dX7_needPlayer_9 : decode cX7_needPlayer 9 = .ok (.getfield 100, 3) := by decide +kernel
theorem dX7_needPlayer_12 : decode cX7_needPlayer 12 = .ok (.getfield 113, 3) := by decide +kernel
theorem dX7_needPlayer_15 : decode cX7_needPlayer 15 = .ok (.if_icmp .lt 14, 3) := by decide +kernel
theorem dX7_needPlayer_18 : decode cX7_needPlayer 18 = .ok (.new 155, 3) := by decide +kernel
theorem dX7_needPlayer_21 : decode cX7_needPlayer 21 = .ok (.dup, 1) := by decide +kernel
theorem dX7_needPlayer_22 : decode cX7_needPlayer 22 = .ok (.ldc_w 367, 3) := by decide +kernel
theorem dX7_needPlayer_25 : decode cX7_needPlayer 25 = .ok (.invokespecial 159, 3) := by decide +kernel
theorem dX7_needPlayer_28 : decode cX7_needPlayer 28 = .ok (.athrow, 1) := by decide +kernel
theorem dX7_needPlayer_29 : decode cX7_needPlayer 29 = .ok (.return_, 1) := by decide +kernel
theorem dX7_needCard_0 : decode cX7_needCard 0 = .ok (.aload_n 0, 1) := by decide +kernel
theorem dX7_needCard_1 : decode cX7_needCard 1 = .ok (.iload_n 1, 1) := by decide +kernel
theorem dX7_needCard_2 : decode cX7_needCard 2 = .ok (.invokevirtual 164, 3) := by decide +kernel
theorem dX7_needCard_5 : decode cX7_needCard 5 = .ok (.aload_n 0, 1) := by decide +kernel
theorem dX7_needCard_6 : decode cX7_needCard 6 = .ok (.getfield 67, 3) := by decide +kernel
theorem dX7_needCard_9 : decode cX7_needCard 9 = .ok (.iload_n 1, 1) := by decide +kernel
theorem dX7_needCard_10 : decode cX7_needCard 10 = .ok (.iload_n 2, 1) := by decide +kernel
theorem dX7_needCard_11 : decode cX7_needCard 11 = .ok (.invokevirtual 354, 3) := by decide +kernel
theorem dX7_needCard_14 : decode cX7_needCard 14 = .ok (.istore_n 3, 1) := by decide +kernel
theorem dX7_needCard_15 : decode cX7_needCard 15 = .ok (.iload_n 3, 1) := by decide +kernel
theorem dX7_needCard_16 : decode cX7_needCard 16 = .ok (.iconst (-1), 1) := by decide +kernel
theorem dX7_needCard_17 : decode cX7_needCard 17 = .ok (.if_icmp .ne 14, 3) := by decide +kernel
theorem dX7_needCard_20 : decode cX7_needCard 20 = .ok (.new 155, 3) := by decide +kernel
theorem dX7_needCard_23 : decode cX7_needCard 23 = .ok (.dup, 1) := by decide +kernel
theorem dX7_needCard_24 : decode cX7_needCard 24 = .ok (.ldc_w 369, 3) := by decide +kernel
theorem dX7_needCard_27 : decode cX7_needCard 27 = .ok (.invokespecial 159, 3) := by decide +kernel
theorem dX7_needCard_30 : decode cX7_needCard 30 = .ok (.athrow, 1) := by decide +kernel
theorem dX7_needCard_31 : decode cX7_needCard 31 = .ok (.iload_n 3, 1) := by decide +kernel
theorem dX7_needCard_32 : decode cX7_needCard 32 = .ok (.ireturn, 1) := by decide +kernel
theorem dX7_needKind_0 : decode cX7_needKind 0 = .ok (.iload_n 1, 1) := by decide +kernel
theorem dX7_needKind_1 : decode cX7_needKind 1 = .ok (.ifCond .lt 36, 3) := by decide +kernel
theorem dX7_needKind_4 : decode cX7_needKind 4 = .ok (.iload_n 1, 1) := by decide +kernel
theorem dX7_needKind_5 : decode cX7_needKind 5 = .ok (.aload_n 0, 1) := by decide +kernel
theorem dX7_needKind_6 : decode cX7_needKind 6 = .ok (.getfield 67, 3) := by decide +kernel
theorem dX7_needKind_9 : decode cX7_needKind 9 = .ok (.getfield 100, 3) := by decide +kernel
theorem dX7_needKind_12 : decode cX7_needKind 12 = .ok (.getfield 107, 3) := by decide +kernel
theorem dX7_needKind_15 : decode cX7_needKind 15 = .ok (.if_icmp .ge 22, 3) := by decide +kernel
theorem dX7_needKind_18 : decode cX7_needKind 18 = .ok (.iload_n 2, 1) := by decide +kernel
theorem dX7_needKind_19 : decode cX7_needKind 19 = .ok (.iconst 1, 1) := by decide +kernel
theorem dX7_needKind_20 : decode cX7_needKind 20 = .ok (.if_icmp .lt 17, 3) := by decide +kernel
theorem dX7_needKind_23 : decode cX7_needKind 23 = .ok (.iload_n 2, 1) := by decide +kernel
theorem dX7_needKind_24 : decode cX7_needKind 24 = .ok (.aload_n 0, 1) := by decide +kernel
theorem dX7_needKind_25 : decode cX7_needKind 25 = .ok (.getfield 67, 3) := by decide +kernel
theorem dX7_needKind_28 : decode cX7_needKind 28 = .ok (.getfield 100, 3) := by decide +kernel
theorem dX7_needKind_31 : decode cX7_needKind 31 = .ok (.getfield 110, 3) := by decide +kernel
theorem dX7_needKind_34 : decode cX7_needKind 34 = .ok (.if_icmp .le 14, 3) := by decide +kernel
theorem dX7_needKind_37 : decode cX7_needKind 37 = .ok (.new 155, 3) := by decide +kernel
theorem dX7_needKind_40 : decode cX7_needKind 40 = .ok (.dup, 1) := by decide +kernel
theorem dX7_needKind_41 : decode cX7_needKind 41 = .ok (.ldc_w 371, 3) := by decide +kernel
theorem dX7_needKind_44 : decode cX7_needKind 44 = .ok (.invokespecial 159, 3) := by decide +kernel
theorem dX7_needKind_47 : decode cX7_needKind 47 = .ok (.athrow, 1) := by decide +kernel
theorem dX7_needKind_48 : decode cX7_needKind 48 = .ok (.iload_n 1, 1) := by decide +kernel
theorem dX7_needKind_49 : decode cX7_needKind 49 = .ok (.iconst 5, 1) := by decide +kernel
theorem dX7_needKind_50 : decode cX7_needKind 50 = .ok (.imul, 1) := by decide +kernel
theorem dX7_needKind_51 : decode cX7_needKind 51 = .ok (.iload_n 2, 1) := by decide +kernel
theorem dX7_needKind_52 : decode cX7_needKind 52 = .ok (.iadd, 1) := by decide +kernel
theorem dX7_needKind_53 : decode cX7_needKind 53 = .ok (.iconst 1, 1) := by decide +kernel
theorem dX7_needKind_54 : decode cX7_needKind 54 = .ok (.isub, 1) := by decide +kernel
theorem dX7_needKind_55 : decode cX7_needKind 55 = .ok (.ireturn, 1) := by decide +kernel
theorem dX7_needWord_0 : decode cX7_needWord 0 = .ok (.iload_n 1, 1) := by decide +kernel
theorem dX7_needWord_1 : decode cX7_needWord 1 = .ok (.ifCond .ne 25, 3) := by decide +kernel
theorem dX7_needWord_4 : decode cX7_needWord 4 = .ok (.iload_n 2, 1) := by decide +kernel
theorem dX7_needWord_5 : decode cX7_needWord 5 = .ok (.ifCond .lt 21, 3) := by decide +kernel
theorem dX7_needWord_8 : decode cX7_needWord 8 = .ok (.iload_n 2, 1) := by decide +kernel
theorem dX7_needWord_9 : decode cX7_needWord 9 = .ok (.aload_n 0, 1) := by decide +kernel
theorem dX7_needWord_10 : decode cX7_needWord 10 = .ok (.getfield 67, 3) := by decide +kernel
theorem dX7_needWord_13 : decode cX7_needWord 13 = .ok (.getfield 100, 3) := by decide +kernel
theorem dX7_needWord_16 : decode cX7_needWord 16 = .ok (.getfield 107, 3) := by decide +kernel
theorem dX7_needWord_19 : decode cX7_needWord 19 = .ok (.if_icmp .ge 7, 3) := by decide +kernel
theorem dX7_needWord_22 : decode cX7_needWord 22 = .ok (.iconst 1, 1) := by decide +kernel
theorem dX7_needWord_23 : decode cX7_needWord 23 = .ok (.goto 4, 3) := by decide +kernel
theorem dX7_needWord_26 : decode cX7_needWord 26 = .ok (.iconst 0, 1) := by decide +kernel
theorem dX7_needWord_27 : decode cX7_needWord 27 = .ok (.istore_n 3, 1) := by decide +kernel
theorem dX7_needWord_28 : decode cX7_needWord 28 = .ok (.iload_n 1, 1) := by decide +kernel
theorem dX7_needWord_29 : decode cX7_needWord 29 = .ok (.iconst 1, 1) := by decide +kernel
theorem dX7_needWord_30 : decode cX7_needWord 30 = .ok (.if_icmp .ne 26, 3) := by decide +kernel
theorem dX7_needWord_33 : decode cX7_needWord 33 = .ok (.iload_n 2, 1) := by decide +kernel
theorem dX7_needWord_34 : decode cX7_needWord 34 = .ok (.iconst 1, 1) := by decide +kernel
theorem dX7_needWord_35 : decode cX7_needWord 35 = .ok (.if_icmp .lt 21, 3) := by decide +kernel
theorem dX7_needWord_38 : decode cX7_needWord 38 = .ok (.iload_n 2, 1) := by decide +kernel
theorem dX7_needWord_39 : decode cX7_needWord 39 = .ok (.aload_n 0, 1) := by decide +kernel
theorem dX7_needWord_40 : decode cX7_needWord 40 = .ok (.getfield 67, 3) := by decide +kernel
theorem dX7_needWord_43 : decode cX7_needWord 43 = .ok (.getfield 100, 3) := by decide +kernel
theorem dX7_needWord_46 : decode cX7_needWord 46 = .ok (.getfield 110, 3) := by decide +kernel
theorem dX7_needWord_49 : decode cX7_needWord 49 = .ok (.if_icmp .gt 7, 3) := by decide +kernel
theorem dX7_needWord_52 : decode cX7_needWord 52 = .ok (.iconst 1, 1) := by decide +kernel
theorem dX7_needWord_53 : decode cX7_needWord 53 = .ok (.goto 4, 3) := by decide +kernel
theorem dX7_needWord_56 : decode cX7_needWord 56 = .ok (.iconst 0, 1) := by decide +kernel
theorem dX7_needWord_57 : decode cX7_needWord 57 = .ok (.istore 4, 2) := by decide +kernel
theorem dX7_needWord_59 : decode cX7_needWord 59 = .ok (.iload_n 3, 1) := by decide +kernel
theorem dX7_needWord_60 : decode cX7_needWord 60 = .ok (.ifCond .ne 19, 3) := by decide +kernel
theorem dX7_needWord_63 : decode cX7_needWord 63 = .ok (.iload 4, 2) := by decide +kernel
theorem dX7_needWord_65 : decode cX7_needWord 65 = .ok (.ifCond .ne 14, 3) := by decide +kernel
theorem dX7_needWord_68 : decode cX7_needWord 68 = .ok (.new 138, 3) := by decide +kernel
theorem dX7_needWord_71 : decode cX7_needWord 71 = .ok (.dup, 1) := by decide +kernel
theorem dX7_needWord_72 : decode cX7_needWord 72 = .ok (.ldc_w 373, 3) := by decide +kernel
theorem dX7_needWord_75 : decode cX7_needWord 75 = .ok (.invokespecial 142, 3) := by decide +kernel
theorem dX7_needWord_78 : decode cX7_needWord 78 = .ok (.athrow, 1) := by decide +kernel
theorem dX7_needWord_79 : decode cX7_needWord 79 = .ok (.return_, 1) := by decide +kernel
theorem dX7_needSlot_0 : decode cX7_needSlot 0 = .ok (.iload_n 1, 1) := by decide +kernel
theorem dX7_needSlot_1 : decode cX7_needSlot 1 = .ok (.ifCond .lt 8, 3) := by decide +kernel
theorem dX7_needSlot_4 : decode cX7_needSlot 4 = .ok (.iload_n 1, 1) := by decide +kernel
theorem dX7_needSlot_5 : decode cX7_needSlot 5 = .ok (.iconst 2, 1) := by decide +kernel
theorem dX7_needSlot_6 : decode cX7_needSlot 6 = .ok (.if_icmp .lt 14, 3) := by decide +kernel
theorem dX7_needSlot_9 : decode cX7_needSlot 9 = .ok (.new 138, 3) := by decide +kernel
theorem dX7_needSlot_12 : decode cX7_needSlot 12 = .ok (.dup, 1) := by decide +kernel
theorem dX7_needSlot_13 : decode cX7_needSlot 13 = .ok (.ldc_w 375, 3) := by decide +kernel
theorem dX7_needSlot_16 : decode cX7_needSlot 16 = .ok (.invokespecial 142, 3) := by decide +kernel
theorem dX7_needSlot_19 : decode cX7_needSlot 19 = .ok (.athrow, 1) := by decide +kernel
theorem dX7_needSlot_20 : decode cX7_needSlot 20 = .ok (.return_, 1) := by decide +kernel
theorem dX7_possibleKinds_0 : decode cX7_possibleKinds 0 = .ok (.aload_n 0, 1) := by decide +kernel
theorem dX7_possibleKinds_1 : decode cX7_possibleKinds 1 = .ok (.getfield 38, 3) := by decide +kernel
theorem dX7_possibleKinds_4 : decode cX7_possibleKinds 4 = .ok (.aload_n 0, 1) := by decide +kernel
theorem dX7_possibleKinds_5 : decode cX7_possibleKinds 5 = .ok (.getfield 67, 3) := by decide +kernel
theorem dX7_possibleKinds_8 : decode cX7_possibleKinds 8 = .ok (.iload_n 1, 1) := by decide +kernel
theorem dX7_possibleKinds_9 : decode cX7_possibleKinds 9 = .ok (.invokevirtual 248, 3) := by decide +kernel
theorem dX7_possibleKinds_12 : decode cX7_possibleKinds 12 = .ok (.aload_n 0, 1) := by decide +kernel
theorem dX7_possibleKinds_13 : decode cX7_possibleKinds 13 = .ok (.getfield 67, 3) := by decide +kernel
theorem dX7_possibleKinds_16 : decode cX7_possibleKinds 16 = .ok (.iload_n 2, 1) := by decide +kernel
theorem dX7_possibleKinds_17 : decode cX7_possibleKinds 17 = .ok (.invokevirtual 202, 3) := by decide +kernel
theorem dX7_possibleKinds_20 : decode cX7_possibleKinds 20 = .ok (.iand, 1) := by decide +kernel
theorem dX7_possibleKinds_21 : decode cX7_possibleKinds 21 = .ok (.ireturn, 1) := by decide +kernel
theorem dX7_remember_0 : decode cX7_remember 0 = .ok (.aload_n 0, 1) := by decide +kernel
theorem dX7_remember_1 : decode cX7_remember 1 = .ok (.getfield 24, 3) := by decide +kernel
theorem dX7_remember_4 : decode cX7_remember 4 = .ok (.aload_n 0, 1) := by decide +kernel
theorem dX7_remember_5 : decode cX7_remember 5 = .ok (.getfield 348, 3) := by decide +kernel
theorem dX7_remember_8 : decode cX7_remember 8 = .ok (.aaload, 1) := by decide +kernel
theorem dX7_remember_9 : decode cX7_remember 9 = .ok (.aload_n 0, 1) := by decide +kernel
theorem dX7_remember_10 : decode cX7_remember 10 = .ok (.getfield 67, 3) := by decide +kernel
theorem dX7_remember_13 : decode cX7_remember 13 = .ok (.invokevirtual 301, 3) := by decide +kernel
theorem dX7_remember_16 : decode cX7_remember 16 = .ok (.aload_n 0, 1) := by decide +kernel
theorem dX7_remember_17 : decode cX7_remember 17 = .ok (.aload_n 0, 1) := by decide +kernel
theorem dX7_remember_18 : decode cX7_remember 18 = .ok (.getfield 348, 3) := by decide +kernel
theorem dX7_remember_21 : decode cX7_remember 21 = .ok (.iconst 1, 1) := by decide +kernel
theorem dX7_remember_22 : decode cX7_remember 22 = .ok (.iadd, 1) := by decide +kernel
theorem dX7_remember_23 : decode cX7_remember 23 = .ok (.bipush 20, 2) := by decide +kernel
theorem dX7_remember_25 : decode cX7_remember 25 = .ok (.if_icmp .ge 12, 3) := by decide +kernel
theorem dX7_remember_28 : decode cX7_remember 28 = .ok (.aload_n 0, 1) := by decide +kernel
theorem dX7_remember_29 : decode cX7_remember 29 = .ok (.getfield 348, 3) := by decide +kernel
theorem dX7_remember_32 : decode cX7_remember 32 = .ok (.iconst 1, 1) := by decide +kernel
theorem dX7_remember_33 : decode cX7_remember 33 = .ok (.iadd, 1) := by decide +kernel
theorem dX7_remember_34 : decode cX7_remember 34 = .ok (.goto 4, 3) := by decide +kernel
theorem dX7_remember_37 : decode cX7_remember 37 = .ok (.iconst 0, 1) := by decide +kernel
theorem dX7_remember_38 : decode cX7_remember 38 = .ok (.putfield 348, 3) := by decide +kernel
theorem dX7_remember_41 : decode cX7_remember 41 = .ok (.aload_n 0, 1) := by decide +kernel
theorem dX7_remember_42 : decode cX7_remember 42 = .ok (.aload_n 0, 1) := by decide +kernel
theorem dX7_remember_43 : decode cX7_remember 43 = .ok (.getfield 97, 3) := by decide +kernel
theorem dX7_remember_46 : decode cX7_remember 46 = .ok (.iconst 1, 1) := by decide +kernel
theorem dX7_remember_47 : decode cX7_remember 47 = .ok (.iadd, 1) := by decide +kernel
theorem dX7_remember_48 : decode cX7_remember 48 = .ok (.bipush 20, 2) := by decide +kernel
theorem dX7_remember_50 : decode cX7_remember 50 = .ok (.invokestatic 377, 3) := by decide +kernel
theorem dX7_remember_53 : decode cX7_remember 53 = .ok (.putfield 97, 3) := by decide +kernel
theorem dX7_remember_56 : decode cX7_remember 56 = .ok (.return_, 1) := by decide +kernel
theorem dX7_writeOnly_0 : decode cX7_writeOnly 0 = .ok (.iload_n 2, 1) := by decide +kernel
theorem dX7_writeOnly_1 : decode cX7_writeOnly 1 = .ok (.invokestatic 217, 3) := by decide +kernel
theorem dX7_writeOnly_4 : decode cX7_writeOnly 4 = .ok (.iconst 1, 1) := by decide +kernel
theorem dX7_writeOnly_5 : decode cX7_writeOnly 5 = .ok (.if_icmp .ne 7, 3) := by decide +kernel
theorem dX7_writeOnly_8 : decode cX7_writeOnly 8 = .ok (.iconst 1, 1) := by decide +kernel
theorem dX7_writeOnly_9 : decode cX7_writeOnly 9 = .ok (.goto 4, 3) := by decide +kernel
theorem dX7_writeOnly_12 : decode cX7_writeOnly 12 = .ok (.iconst 0, 1) := by decide +kernel
theorem dX7_writeOnly_13 : decode cX7_writeOnly 13 = .ok (.istore_n 3, 1) := by decide +kernel
theorem dX7_writeOnly_14 : decode cX7_writeOnly 14 = .ok (.aload_n 0, 1) := by decide +kernel
theorem dX7_writeOnly_15 : decode cX7_writeOnly 15 = .ok (.iload_n 3, 1) := by decide +kernel
theorem dX7_writeOnly_16 : decode cX7_writeOnly 16 = .ok (.ifCond .eq 14, 3) := by decide +kernel
theorem dX7_writeOnly_19 : decode cX7_writeOnly 19 = .ok (.iload_n 1, 1) := by decide +kernel
theorem dX7_writeOnly_20 : decode cX7_writeOnly 20 = .ok (.iload_n 2, 1) := by decide +kernel
theorem dX7_writeOnly_21 : decode cX7_writeOnly 21 = .ok (.iconst 1, 1) := by decide +kernel
theorem dX7_writeOnly_22 : decode cX7_writeOnly 22 = .ok (.isub, 1) := by decide +kernel
theorem dX7_writeOnly_23 : decode cX7_writeOnly 23 = .ok (.invokestatic 217, 3) := by decide +kernel
theorem dX7_writeOnly_26 : decode cX7_writeOnly 26 = .ok (.iadd, 1) := by decide +kernel
theorem dX7_writeOnly_27 : decode cX7_writeOnly 27 = .ok (.goto 5, 3) := by decide +kernel
theorem dX7_writeOnly_30 : decode cX7_writeOnly 30 = .ok (.bipush 63, 2) := by decide +kernel
theorem dX7_writeOnly_32 : decode cX7_writeOnly 32 = .ok (.invokevirtual 357, 3) := by decide +kernel
theorem dX7_writeOnly_35 : decode cX7_writeOnly 35 = .ok (.return_, 1) := by decide +kernel
theorem dX7_write_0 : decode cX7_write 0 = .ok (.aload_n 0, 1) := by decide +kernel
theorem dX7_write_1 : decode cX7_write 1 = .ok (.getfield 351, 3) := by decide +kernel
theorem dX7_write_4 : decode cX7_write 4 = .ok (.aload_n 0, 1) := by decide +kernel
theorem dX7_write_5 : decode cX7_write 5 = .ok (.getfield 58, 3) := by decide +kernel
theorem dX7_write_8 : decode cX7_write 8 = .ok (.arraylength, 1) := by decide +kernel
theorem dX7_write_9 : decode cX7_write 9 = .ok (.if_icmp .ge 23, 3) := by decide +kernel
theorem dX7_write_12 : decode cX7_write 12 = .ok (.aload_n 0, 1) := by decide +kernel
theorem dX7_write_13 : decode cX7_write 13 = .ok (.getfield 58, 3) := by decide +kernel
theorem dX7_write_16 : decode cX7_write 16 = .ok (.aload_n 0, 1) := by decide +kernel
theorem dX7_write_17 : decode cX7_write 17 = .ok (.getfield 351, 3) := by decide +kernel
theorem dX7_write_20 : decode cX7_write 20 = .ok (.iload_n 1, 1) := by decide +kernel
theorem dX7_write_21 : decode cX7_write 21 = .ok (.iastore, 1) := by decide +kernel
theorem dX7_write_22 : decode cX7_write 22 = .ok (.aload_n 0, 1) := by decide +kernel
theorem dX7_write_23 : decode cX7_write 23 = .ok (.dup, 1) := by decide +kernel
theorem dX7_write_24 : decode cX7_write 24 = .ok (.getfield 351, 3) := by decide +kernel
theorem dX7_write_27 : decode cX7_write 27 = .ok (.iconst 1, 1) := by decide +kernel
theorem dX7_write_28 : decode cX7_write 28 = .ok (.iadd, 1) := by decide +kernel
theorem dX7_write_29 : decode cX7_write 29 = .ok (.putfield 351, 3) := by decide +kernel
theorem dX7_write_32 : decode cX7_write 32 = .ok (.return_, 1) := by decide +kernel
theorem dX7_codeOf_0 : decode cX7_codeOf 0 = .ok (.bipush 10, 2) := by decide +kernel
theorem dX7_codeOf_2 : decode cX7_codeOf 2 = .ok (.iload_n 0, 1) := by decide +kernel
theorem dX7_codeOf_3 : decode cX7_codeOf 3 = .ok (.iconst 5, 1) := by decide +kernel
theorem dX7_codeOf_4 : decode cX7_codeOf 4 = .ok (.idiv, 1) := by decide +kernel
theorem dX7_codeOf_5 : decode cX7_codeOf 5 = .ok (.imul, 1) := by decide +kernel
theorem dX7_codeOf_6 : decode cX7_codeOf 6 = .ok (.iload_n 0, 1) := by decide +kernel
theorem dX7_codeOf_7 : decode cX7_codeOf 7 = .ok (.iconst 5, 1) := by decide +kernel
theorem dX7_codeOf_8 : decode cX7_codeOf 8 = .ok (.irem, 1) := by decide +kernel
theorem dX7_codeOf_9 : decode cX7_codeOf 9 = .ok (.iadd, 1) := by decide +kernel
theorem dX7_codeOf_10 : decode cX7_codeOf 10 = .ok (.iconst 1, 1) := by decide +kernel
theorem dX7_codeOf_11 : decode cX7_codeOf 11 = .ok (.iadd, 1) := by decide +kernel
theorem dX7_codeOf_12 : decode cX7_codeOf 12 = .ok (.ireturn, 1) := by decide +kernel
theorem dX7_isIn_0 : decode cX7_isIn 0 = .ok (.iload_n 1, 1) := by decide +kernel
theorem dX7_isIn_1 : decode cX7_isIn 1 = .ok (.iload_n 0, 1) := by decide +kernel
theorem dX7_isIn_2 : decode cX7_isIn 2 = .ok (.ishr, 1) := by decide +kernel
theorem dX7_isIn_3 : decode cX7_isIn 3 = .ok (.iconst 1, 1) := by decide +kernel
theorem dX7_isIn_4 : decode cX7_isIn 4 = .ok (.iand, 1) := by decide +kernel
theorem dX7_isIn_5 : decode cX7_isIn 5 = .ok (.ifCond .eq 7, 3) := by decide +kernel
theorem dX7_isIn_8 : decode cX7_isIn 8 = .ok (.iconst 1, 1) := by decide +kernel
theorem dX7_isIn_9 : decode cX7_isIn 9 = .ok (.goto 4, 3) := by decide +kernel
theorem dX7_isIn_12 : decode cX7_isIn 12 = .ok (.iconst 0, 1) := by decide +kernel
theorem dX7_isIn_13 : decode cX7_isIn 13 = .ok (.ireturn, 1) := by decide +kernel
theorem dX7_areAllIn_0 : decode cX7_areAllIn 0 = .ok (.iload_n 0, 1) := by decide +kernel
theorem dX7_areAllIn_1 : decode cX7_areAllIn 1 = .ok (.ifCond .eq 15, 3) := by decide +kernel
theorem dX7_areAllIn_4 : decode cX7_areAllIn 4 = .ok (.iload_n 0, 1) := by decide +kernel
theorem dX7_areAllIn_5 : decode cX7_areAllIn 5 = .ok (.iload_n 1, 1) := by decide +kernel
theorem dX7_areAllIn_6 : decode cX7_areAllIn 6 = .ok (.iconst (-1), 1) := by decide +kernel
theorem dX7_areAllIn_7 : decode cX7_areAllIn 7 = .ok (.ixor, 1) := by decide +kernel
theorem dX7_areAllIn_8 : decode cX7_areAllIn 8 = .ok (.iand, 1) := by decide +kernel
theorem dX7_areAllIn_9 : decode cX7_areAllIn 9 = .ok (.ifCond .ne 7, 3) := by decide +kernel
theorem dX7_areAllIn_12 : decode cX7_areAllIn 12 = .ok (.iconst 1, 1) := by decide +kernel
theorem dX7_areAllIn_13 : decode cX7_areAllIn 13 = .ok (.goto 4, 3) := by decide +kernel
theorem dX7_areAllIn_16 : decode cX7_areAllIn 16 = .ok (.iconst 0, 1) := by decide +kernel
theorem dX7_areAllIn_17 : decode cX7_areAllIn 17 = .ok (.ireturn, 1) := by decide +kernel
theorem dX7_colorsIn_0 : decode cX7_colorsIn 0 = .ok (.iconst 0, 1) := by decide +kernel
theorem dX7_colorsIn_1 : decode cX7_colorsIn 1 = .ok (.istore_n 1, 1) := by decide +kernel
theorem dX7_colorsIn_2 : decode cX7_colorsIn 2 = .ok (.iconst 0, 1) := by decide +kernel
theorem dX7_colorsIn_3 : decode cX7_colorsIn 3 = .ok (.istore_n 2, 1) := by decide +kernel
theorem dX7_colorsIn_4 : decode cX7_colorsIn 4 = .ok (.iload_n 2, 1) := by decide +kernel
theorem dX7_colorsIn_5 : decode cX7_colorsIn 5 = .ok (.iconst 4, 1) := by decide +kernel
theorem dX7_colorsIn_6 : decode cX7_colorsIn 6 = .ok (.if_icmp .ge 25, 3) := by decide +kernel
theorem dX7_colorsIn_9 : decode cX7_colorsIn 9 = .ok (.iload_n 0, 1) := by decide +kernel
theorem dX7_colorsIn_10 : decode cX7_colorsIn 10 = .ok (.iconst 0, 1) := by decide +kernel
theorem dX7_colorsIn_11 : decode cX7_colorsIn 11 = .ok (.iload_n 2, 1) := by decide +kernel
theorem dX7_colorsIn_12 : decode cX7_colorsIn 12 = .ok (.invokestatic 242, 3) := by decide +kernel
theorem dX7_colorsIn_15 : decode cX7_colorsIn 15 = .ok (.iand, 1) := by decide +kernel
theorem dX7_colorsIn_16 : decode cX7_colorsIn 16 = .ok (.ifCond .eq 9, 3) := by decide +kernel
theorem dX7_colorsIn_19 : decode cX7_colorsIn 19 = .ok (.iload_n 1, 1) := by decide +kernel
theorem dX7_colorsIn_20 : decode cX7_colorsIn 20 = .ok (.iconst 1, 1) := by decide +kernel
theorem dX7_colorsIn_21 : decode cX7_colorsIn 21 = .ok (.iload_n 2, 1) := by decide +kernel
theorem dX7_colorsIn_22 : decode cX7_colorsIn 22 = .ok (.ishl, 1) := by decide +kernel
theorem dX7_colorsIn_23 : decode cX7_colorsIn 23 = .ok (.ior, 1) := by decide +kernel
theorem dX7_colorsIn_24 : decode cX7_colorsIn 24 = .ok (.istore_n 1, 1) := by decide +kernel
theorem dX7_colorsIn_25 : decode cX7_colorsIn 25 = .ok (.iinc 2 1, 3) := by decide +kernel
theorem dX7_colorsIn_28 : decode cX7_colorsIn 28 = .ok (.goto (-24), 3) := by decide +kernel
theorem dX7_colorsIn_31 : decode cX7_colorsIn 31 = .ok (.iload_n 1, 1) := by decide +kernel
theorem dX7_colorsIn_32 : decode cX7_colorsIn 32 = .ok (.ireturn, 1) := by decide +kernel
theorem dX7_ranksIn_0 : decode cX7_ranksIn 0 = .ok (.iconst 0, 1) := by decide +kernel
theorem dX7_ranksIn_1 : decode cX7_ranksIn 1 = .ok (.istore_n 1, 1) := by decide +kernel
theorem dX7_ranksIn_2 : decode cX7_ranksIn 2 = .ok (.iconst 1, 1) := by decide +kernel
theorem dX7_ranksIn_3 : decode cX7_ranksIn 3 = .ok (.istore_n 2, 1) := by decide +kernel
theorem dX7_ranksIn_4 : decode cX7_ranksIn 4 = .ok (.iload_n 2, 1) := by decide +kernel
theorem dX7_ranksIn_5 : decode cX7_ranksIn 5 = .ok (.iconst 5, 1) := by decide +kernel
theorem dX7_ranksIn_6 : decode cX7_ranksIn 6 = .ok (.if_icmp .gt 27, 3) := by decide +kernel
theorem dX7_ranksIn_9 : decode cX7_ranksIn 9 = .ok (.iload_n 0, 1) := by decide +kernel
theorem dX7_ranksIn_10 : decode cX7_ranksIn 10 = .ok (.iconst 1, 1) := by decide +kernel
theorem dX7_ranksIn_11 : decode cX7_ranksIn 11 = .ok (.iload_n 2, 1) := by decide +kernel
theorem dX7_ranksIn_12 : decode cX7_ranksIn 12 = .ok (.invokestatic 242, 3) := by decide +kernel
theorem dX7_ranksIn_15 : decode cX7_ranksIn 15 = .ok (.iand, 1) := by decide +kernel
theorem dX7_ranksIn_16 : decode cX7_ranksIn 16 = .ok (.ifCond .eq 11, 3) := by decide +kernel
theorem dX7_ranksIn_19 : decode cX7_ranksIn 19 = .ok (.iload_n 1, 1) := by decide +kernel
theorem dX7_ranksIn_20 : decode cX7_ranksIn 20 = .ok (.iconst 1, 1) := by decide +kernel
theorem dX7_ranksIn_21 : decode cX7_ranksIn 21 = .ok (.iload_n 2, 1) := by decide +kernel
theorem dX7_ranksIn_22 : decode cX7_ranksIn 22 = .ok (.iconst 1, 1) := by decide +kernel
theorem dX7_ranksIn_23 : decode cX7_ranksIn 23 = .ok (.isub, 1) := by decide +kernel
theorem dX7_ranksIn_24 : decode cX7_ranksIn 24 = .ok (.ishl, 1) := by decide +kernel
theorem dX7_ranksIn_25 : decode cX7_ranksIn 25 = .ok (.ior, 1) := by decide +kernel
theorem dX7_ranksIn_26 : decode cX7_ranksIn 26 = .ok (.istore_n 1, 1) := by decide +kernel
theorem dX7_ranksIn_27 : decode cX7_ranksIn 27 = .ok (.iinc 2 1, 3) := by decide +kernel
theorem dX7_ranksIn_30 : decode cX7_ranksIn 30 = .ok (.goto (-26), 3) := by decide +kernel
theorem dX7_ranksIn_33 : decode cX7_ranksIn 33 = .ok (.iload_n 1, 1) := by decide +kernel
theorem dX7_ranksIn_34 : decode cX7_ranksIn 34 = .ok (.ireturn, 1) := by decide +kernel
theorem dX7_kindsOfWord_0 : decode cX7_kindsOfWord 0 = .ok (.iload_n 0, 1) := by decide +kernel
theorem dX7_kindsOfWord_1 : decode cX7_kindsOfWord 1 = .ok (.ifCond .ne 12, 3) := by decide +kernel
theorem dX7_kindsOfWord_4 : decode cX7_kindsOfWord 4 = .ok (.bipush 31, 2) := by decide +kernel
theorem dX7_kindsOfWord_6 : decode cX7_kindsOfWord 6 = .ok (.iload_n 1, 1) := by decide +kernel
theorem dX7_kindsOfWord_7 : decode cX7_kindsOfWord 7 = .ok (.iconst 5, 1) := by decide +kernel
theorem dX7_kindsOfWord_8 : decode cX7_kindsOfWord 8 = .ok (.imul, 1) := by decide +kernel
theorem dX7_kindsOfWord_9 : decode cX7_kindsOfWord 9 = .ok (.ishl, 1) := by decide +kernel
theorem dX7_kindsOfWord_10 : decode cX7_kindsOfWord 10 = .ok (.goto 10, 3) := by decide +kernel
theorem dX7_kindsOfWord_13 : decode cX7_kindsOfWord 13 = .ok (.ldc_w 382, 3) := by decide +kernel
theorem dX7_kindsOfWord_16 : decode cX7_kindsOfWord 16 = .ok (.iload_n 1, 1) := by decide +kernel
theorem dX7_kindsOfWord_17 : decode cX7_kindsOfWord 17 = .ok (.iconst 1, 1) := by decide +kernel
theorem dX7_kindsOfWord_18 : decode cX7_kindsOfWord 18 = .ok (.isub, 1) := by decide +kernel
theorem dX7_kindsOfWord_19 : decode cX7_kindsOfWord 19 = .ok (.ishl, 1) := by decide +kernel
theorem dX7_kindsOfWord_20 : decode cX7_kindsOfWord 20 = .ok (.ireturn, 1) := by decide +kernel
