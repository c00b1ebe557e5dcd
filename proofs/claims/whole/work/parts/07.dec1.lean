theorem dX0_init_0 : decode cX0_init 0 = .ok (.aload_n 0, 1) := by decide +kernel
theorem dX0_init_1 : decode cX0_init 1 = .ok (.invokespecial 3, 3) := by decide +kernel
theorem dX0_init_4 : decode cX0_init 4 = .ok (.aload_n 0, 1) := by decide +kernel
theorem dX0_init_5 : decode cX0_init 5 = .ok (.bipush 64, 2) := by decide +kernel
theorem dX0_init_7 : decode cX0_init 7 = .ok (.newarray .long, 2) := by decide +kernel
theorem dX0_init_9 : decode cX0_init 9 = .ok (.putfield 9, 3) := by decide +kernel
theorem dX0_init_12 : decode cX0_init 12 = .ok (.return_, 1) := by decide +kernel
theorem dX0_search_0 : decode cX0_search 0 = .ok (.aload_n 3, 1) := by decide +kernel
theorem dX0_search_1 : decode cX0_search 1 = .ok (.invokevirtual 15, 3) := by decide +kernel
theorem dX0_search_4 : decode cX0_search 4 = .ok (.istore 5, 2) := by decide +kernel
theorem dX0_search_6 : decode cX0_search 6 = .ok (.iload 5, 2) := by decide +kernel
theorem dX0_search_8 : decode cX0_search 8 = .ok (.iload 4, 2) := by decide +kernel
theorem dX0_search_10 : decode cX0_search 10 = .ok (.iadd, 1) := by decide +kernel
theorem dX0_search_11 : decode cX0_search 11 = .ok (.aload_n 1, 1) := by decide +kernel
theorem dX0_search_12 : decode cX0_search 12 = .ok (.getfield 21, 3) := by decide +kernel
theorem dX0_search_15 : decode cX0_search 15 = .ok (.invokestatic 27, 3) := by decide +kernel
theorem dX0_search_18 : decode cX0_search 18 = .ok (.istore 6, 2) := by decide +kernel
theorem dX0_search_20 : decode cX0_search 20 = .ok (.aload_n 0, 1) := by decide +kernel
theorem dX0_search_21 : decode cX0_search 21 = .ok (.getfield 9, 3) := by decide +kernel
theorem dX0_search_24 : decode cX0_search 24 = .ok (.lconst 0, 1) := by decide +kernel
theorem dX0_search_25 : decode cX0_search 25 = .ok (.invokestatic 33, 3) := by decide +kernel
theorem dX0_search_28 : decode cX0_search 28 = .ok (.aload_n 0, 1) := by decide +kernel
theorem dX0_search_29 : decode cX0_search 29 = .ok (.lconst 1, 1) := by decide +kernel
theorem dX0_search_30 : decode cX0_search 30 = .ok (.putfield 39, 3) := by decide +kernel
theorem dX0_search_33 : decode cX0_search 33 = .ok (.iload 6, 2) := by decide +kernel
theorem dX0_search_35 : decode cX0_search 35 = .ok (.iconst 1, 1) := by decide +kernel
theorem dX0_search_36 : decode cX0_search 36 = .ok (.isub, 1) := by decide +kernel
theorem dX0_search_37 : decode cX0_search 37 = .ok (.istore 7, 2) := by decide +kernel
theorem dX0_search_39 : decode cX0_search 39 = .ok (.iload 7, 2) := by decide +kernel
theorem dX0_search_41 : decode cX0_search 41 = .ok (.iload 5, 2) := by decide +kernel
theorem dX0_search_43 : decode cX0_search 43 = .ok (.if_icmp .le 65, 3) := by decide +kernel
theorem dX0_search_46 : decode cX0_search 46 = .ok (.iconst 1, 1) := by decide +kernel
theorem dX0_search_47 : decode cX0_search 47 = .ok (.aload_n 2, 1) := by decide +kernel
theorem dX0_search_48 : decode cX0_search 48 = .ok (.getfield 43, 3) := by decide +kernel
theorem dX0_search_51 : decode cX0_search 51 = .ok (.ishl, 1) := by decide +kernel
theorem dX0_search_52 : decode cX0_search 52 = .ok (.iconst 1, 1) := by decide +kernel
theorem dX0_search_53 : decode cX0_search 53 = .ok (.isub, 1) := by decide +kernel
theorem dX0_search_54 : decode cX0_search 54 = .ok (.istore 8, 2) := by decide +kernel
theorem dX0_search_56 : decode cX0_search 56 = .ok (.iload 8, 2) := by decide +kernel
theorem dX0_search_58 : decode cX0_search 58 = .ok (.ifCond .lt 32, 3) := by decide +kernel
theorem dX0_search_61 : decode cX0_search 61 = .ok (.aload_n 0, 1) := by decide +kernel
theorem dX0_search_62 : decode cX0_search 62 = .ok (.aload_n 1, 1) := by decide +kernel
theorem dX0_search_63 : decode cX0_search 63 = .ok (.aload_n 2, 1) := by decide +kernel
theorem dX0_search_64 : decode cX0_search 64 = .ok (.iload 8, 2) := by decide +kernel
theorem dX0_search_66 : decode cX0_search 66 = .ok (.iload 7, 2) := by decide +kernel
theorem dX0_search_68 : decode cX0_search 68 = .ok (.invokevirtual 48, 3) := by decide +kernel
theorem dX0_search_71 : decode cX0_search 71 = .ok (.aload_n 0, 1) := by decide +kernel
theorem dX0_search_72 : decode cX0_search 72 = .ok (.getfield 9, 3) := by decide +kernel
theorem dX0_search_75 : decode cX0_search 75 = .ok (.iload 8, 2) := by decide +kernel
theorem dX0_search_77 : decode cX0_search 77 = .ok (.aload_n 0, 1) := by decide +kernel
theorem dX0_search_78 : decode cX0_search 78 = .ok (.getfield 52, 3) := by decide +kernel
theorem dX0_search_81 : decode cX0_search 81 = .ok (.invokestatic 55, 3) := by decide +kernel
theorem dX0_search_84 : decode cX0_search 84 = .ok (.iinc 8 (-1), 3) := by decide +kernel
theorem dX0_search_87 : decode cX0_search 87 = .ok (.goto (-31), 3) := by decide +kernel
theorem dX0_search_90 : decode cX0_search 90 = .ok (.aload_n 0, 1) := by decide +kernel
theorem dX0_search_91 : decode cX0_search 91 = .ok (.dup, 1) := by decide +kernel
theorem dX0_search_92 : decode cX0_search 92 = .ok (.getfield 39, 3) := by decide +kernel
theorem dX0_search_95 : decode cX0_search 95 = .ok (.ldc2_w 59, 3) := by decide +kernel
theorem dX0_search_98 : decode cX0_search 98 = .ok (.lmul, 1) := by decide +kernel
theorem dX0_search_99 : decode cX0_search 99 = .ok (.putfield 39, 3) := by decide +kernel
theorem dX0_search_102 : decode cX0_search 102 = .ok (.iinc 7 (-1), 3) := by decide +kernel
theorem dX0_search_105 : decode cX0_search 105 = .ok (.goto (-66), 3) := by decide +kernel
theorem dX0_search_108 : decode cX0_search 108 = .ok (.aload_n 0, 1) := by decide +kernel
theorem dX0_search_109 : decode cX0_search 109 = .ok (.aload_n 1, 1) := by decide +kernel
theorem dX0_search_110 : decode cX0_search 110 = .ok (.aload_n 2, 1) := by decide +kernel
theorem dX0_search_111 : decode cX0_search 111 = .ok (.aload_n 2, 1) := by decide +kernel
theorem dX0_search_112 : decode cX0_search 112 = .ok (.aload_n 3, 1) := by decide +kernel
theorem dX0_search_113 : decode cX0_search 113 = .ok (.getfield 61, 3) := by decide +kernel
theorem dX0_search_116 : decode cX0_search 116 = .ok (.invokevirtual 64, 3) := by decide +kernel
theorem dX0_search_119 : decode cX0_search 119 = .ok (.iload 5, 2) := by decide +kernel
theorem dX0_search_121 : decode cX0_search 121 = .ok (.invokevirtual 48, 3) := by decide +kernel
theorem dX0_search_124 : decode cX0_search 124 = .ok (.aload_n 0, 1) := by decide +kernel
theorem dX0_search_125 : decode cX0_search 125 = .ok (.dup, 1) := by decide +kernel
theorem dX0_search_126 : decode cX0_search 126 = .ok (.getfield 39, 3) := by decide +kernel
theorem dX0_search_129 : decode cX0_search 129 = .ok (.ldc2_w 59, 3) := by decide +kernel
theorem dX0_search_132 : decode cX0_search 132 = .ok (.lmul, 1) := by decide +kernel
theorem dX0_search_133 : decode cX0_search 133 = .ok (.putfield 39, 3) := by decide +kernel
theorem dX0_search_136 : decode cX0_search 136 = .ok (.return_, 1) := by decide +kernel
theorem dX0_findBest_0 : decode cX0_findBest 0 = .ok (.bipush 10, 2) := by decide +kernel
theorem dX0_findBest_2 : decode cX0_findBest 2 = .ok (.aload_n 1, 1) := by decide +kernel
theorem dX0_findBest_3 : decode cX0_findBest 3 = .ok (.iload 4, 2) := by decide +kernel
theorem dX0_findBest_5 : decode cX0_findBest 5 = .ok (.invokevirtual 68, 3) := by decide +kernel
theorem dX0_findBest_8 : decode cX0_findBest 8 = .ok (.isub, 1) := by decide +kernel
theorem dX0_findBest_9 : decode cX0_findBest 9 = .ok (.istore 5, 2) := by decide +kernel
theorem dX0_findBest_11 : decode cX0_findBest 11 = .ok (.aload_n 0, 1) := by decide +kernel
theorem dX0_findBest_12 : decode cX0_findBest 12 = .ok (.aload_n 0, 1) := by decide +kernel
theorem dX0_findBest_13 : decode cX0_findBest 13 = .ok (.iconst 0, 1) := by decide +kernel
theorem dX0_findBest_14 : decode cX0_findBest 14 = .ok (.iload 5, 2) := by decide +kernel
theorem dX0_findBest_16 : decode cX0_findBest 16 = .ok (.aload_n 0, 1) := by decide +kernel
theorem dX0_findBest_17 : decode cX0_findBest 17 = .ok (.getfield 9, 3) := by decide +kernel
theorem dX0_findBest_20 : decode cX0_findBest 20 = .ok (.iload_n 3, 1) := by decide +kernel
theorem dX0_findBest_21 : decode cX0_findBest 21 = .ok (.invokestatic 71, 3) := by decide +kernel
theorem dX0_findBest_24 : decode cX0_findBest 24 = .ok (.invokevirtual 75, 3) := by decide +kernel
theorem dX0_findBest_27 : decode cX0_findBest 27 = .ok (.putfield 52, 3) := by decide +kernel
theorem dX0_findBest_30 : decode cX0_findBest 30 = .ok (.aload_n 0, 1) := by decide +kernel
theorem dX0_findBest_31 : decode cX0_findBest 31 = .ok (.iconst (-1), 1) := by decide +kernel
theorem dX0_findBest_32 : decode cX0_findBest 32 = .ok (.putfield 79, 3) := by decide +kernel
theorem dX0_findBest_35 : decode cX0_findBest 35 = .ok (.iconst 0, 1) := by decide +kernel
theorem dX0_findBest_36 : decode cX0_findBest 36 = .ok (.istore 6, 2) := by decide +kernel
theorem dX0_findBest_38 : decode cX0_findBest 38 = .ok (.iload 6, 2) := by decide +kernel
theorem dX0_findBest_40 : decode cX0_findBest 40 = .ok (.aload_n 2, 1) := by decide +kernel
theorem dX0_findBest_41 : decode cX0_findBest 41 = .ok (.getfield 43, 3) := by decide +kernel
theorem dX0_findBest_44 : decode cX0_findBest 44 = .ok (.if_icmp .ge 74, 3) := by decide +kernel
theorem dX0_findBest_47 : decode cX0_findBest 47 = .ok (.iload_n 3, 1) := by decide +kernel
theorem dX0_findBest_48 : decode cX0_findBest 48 = .ok (.iload 6, 2) := by decide +kernel
theorem dX0_findBest_50 : decode cX0_findBest 50 = .ok (.invokestatic 82, 3) := by decide +kernel
theorem dX0_findBest_53 : decode cX0_findBest 53 = .ok (.ifCond .eq 59, 3) := by decide +kernel
theorem dX0_findBest_56 : decode cX0_findBest 56 = .ok (.aload_n 2, 1) := by decide +kernel
theorem dX0_findBest_57 : decode cX0_findBest 57 = .ok (.iload 6, 2) := by decide +kernel
theorem dX0_findBest_59 : decode cX0_findBest 59 = .ok (.iload 4, 2) := by decide +kernel
theorem dX0_findBest_61 : decode cX0_findBest 61 = .ok (.aload_n 1, 1) := by decide +kernel
theorem dX0_findBest_62 : decode cX0_findBest 62 = .ok (.invokevirtual 86, 3) := by decide +kernel
theorem dX0_findBest_65 : decode cX0_findBest 65 = .ok (.istore 7, 2) := by decide +kernel
theorem dX0_findBest_67 : decode cX0_findBest 67 = .ok (.aload_n 0, 1) := by decide +kernel
theorem dX0_findBest_68 : decode cX0_findBest 68 = .ok (.iload 7, 2) := by decide +kernel
theorem dX0_findBest_70 : decode cX0_findBest 70 = .ok (.iload 5, 2) := by decide +kernel
theorem dX0_findBest_72 : decode cX0_findBest 72 = .ok (.aload_n 0, 1) := by decide +kernel
theorem dX0_findBest_73 : decode cX0_findBest 73 = .ok (.getfield 9, 3) := by decide +kernel
theorem dX0_findBest_76 : decode cX0_findBest 76 = .ok (.iload_n 3, 1) := by decide +kernel
theorem dX0_findBest_77 : decode cX0_findBest 77 = .ok (.iload 6, 2) := by decide +kernel
theorem dX0_findBest_79 : decode cX0_findBest 79 = .ok (.invokestatic 90, 3) := by decide +kernel
theorem dX0_findBest_82 : decode cX0_findBest 82 = .ok (.invokestatic 71, 3) := by decide +kernel
theorem dX0_findBest_85 : decode cX0_findBest 85 = .ok (.invokevirtual 75, 3) := by decide +kernel
theorem dX0_findBest_88 : decode cX0_findBest 88 = .ok (.lstore 8, 2) := by decide +kernel
theorem dX0_findBest_90 : decode cX0_findBest 90 = .ok (.lload 8, 2) := by decide +kernel
theorem dX0_findBest_92 : decode cX0_findBest 92 = .ok (.aload_n 0, 1) := by decide +kernel
theorem dX0_findBest_93 : decode cX0_findBest 93 = .ok (.getfield 52, 3) := by decide +kernel
theorem dX0_findBest_96 : decode cX0_findBest 96 = .ok (.lcmp, 1) := by decide +kernel
theorem dX0_findBest_97 : decode cX0_findBest 97 = .ok (.ifCond .le 15, 3) := by decide +kernel
theorem dX0_findBest_100 : decode cX0_findBest 100 = .ok (.aload_n 0, 1) := by decide +kernel
theorem dX0_findBest_101 : decode cX0_findBest 101 = .ok (.lload 8, 2) := by decide +kernel
theorem dX0_findBest_103 : decode cX0_findBest 103 = .ok (.putfield 52, 3) := by decide +kernel
theorem dX0_findBest_106 : decode cX0_findBest 106 = .ok (.aload_n 0, 1) := by decide +kernel
theorem dX0_findBest_107 : decode cX0_findBest 107 = .ok (.iload 6, 2) := by decide +kernel
theorem dX0_findBest_109 : decode cX0_findBest 109 = .ok (.putfield 79, 3) := by decide +kernel
theorem dX0_findBest_112 : decode cX0_findBest 112 = .ok (.iinc 6 1, 3) := by decide +kernel
theorem dX0_findBest_115 : decode cX0_findBest 115 = .ok (.goto (-77), 3) := by decide +kernel
theorem dX0_findBest_118 : decode cX0_findBest 118 = .ok (.return_, 1) := by decide +kernel
theorem dX0_chance_0 : decode cX0_chance 0 = .ok (.bipush 10, 2) := by decide +kernel
theorem dX0_chance_2 : decode cX0_chance 2 = .ok (.iload_n 1, 1) := by decide +kernel
theorem dX0_chance_3 : decode cX0_chance 3 = .ok (.imul, 1) := by decide +kernel
theorem dX0_chance_4 : decode cX0_chance 4 = .ok (.i2l, 1) := by decide +kernel
theorem dX0_chance_5 : decode cX0_chance 5 = .ok (.aload_n 0, 1) := by decide +kernel
theorem dX0_chance_6 : decode cX0_chance 6 = .ok (.getfield 39, 3) := by decide +kernel
theorem dX0_chance_9 : decode cX0_chance 9 = .ok (.lmul, 1) := by decide +kernel
theorem dX0_chance_10 : decode cX0_chance 10 = .ok (.bipush 10, 2) := by decide +kernel
theorem dX0_chance_12 : decode cX0_chance 12 = .ok (.iload_n 1, 1) := by decide +kernel
theorem dX0_chance_13 : decode cX0_chance 13 = .ok (.isub, 1) := by decide +kernel
theorem dX0_chance_14 : decode cX0_chance 14 = .ok (.iload_n 2, 1) := by decide +kernel
theorem dX0_chance_15 : decode cX0_chance 15 = .ok (.imul, 1) := by decide +kernel
theorem dX0_chance_16 : decode cX0_chance 16 = .ok (.i2l, 1) := by decide +kernel
theorem dX0_chance_17 : decode cX0_chance 17 = .ok (.lload_n 3, 1) := by decide +kernel
theorem dX0_chance_18 : decode cX0_chance 18 = .ok (.lmul, 1) := by decide +kernel
theorem dX0_chance_19 : decode cX0_chance 19 = .ok (.ladd, 1) := by decide +kernel
theorem dX0_chance_20 : decode cX0_chance 20 = .ok (.lreturn, 1) := by decide +kernel
theorem dX1_init_0 : decode cX1_init 0 = .ok (.aload_n 0, 1) := by decide +kernel
theorem dX1_init_1 : decode cX1_init 1 = .ok (.invokespecial 3, 3) := by decide +kernel
theorem dX1_init_4 : decode cX1_init 4 = .ok (.aload_n 0, 1) := by decide +kernel
theorem dX1_init_5 : decode cX1_init 5 = .ok (.bipush 60, 2) := by decide +kernel
theorem dX1_init_7 : decode cX1_init 7 = .ok (.putfield 9, 3) := by decide +kernel
theorem dX1_init_10 : decode cX1_init 10 = .ok (.aload_n 0, 1) := by decide +kernel
theorem dX1_init_11 : decode cX1_init 11 = .ok (.bipush 6, 2) := by decide +kernel
theorem dX1_init_13 : decode cX1_init 13 = .ok (.newarray .int, 2) := by decide +kernel
theorem dX1_init_15 : decode cX1_init 15 = .ok (.putfield 15, 3) := by decide +kernel
theorem dX1_init_18 : decode cX1_init 18 = .ok (.aload_n 0, 1) := by decide +kernel
theorem dX1_init_19 : decode cX1_init 19 = .ok (.bipush 6, 2) := by decide +kernel
theorem dX1_init_21 : decode cX1_init 21 = .ok (.newarray .int, 2) := by decide +kernel
theorem dX1_init_23 : decode cX1_init 23 = .ok (.putfield 19, 3) := by decide +kernel
theorem dX1_init_26 : decode cX1_init 26 = .ok (.aload_n 0, 1) := by decide +kernel
theorem dX1_init_27 : decode cX1_init 27 = .ok (.bipush 8, 2) := by decide +kernel
theorem dX1_init_29 : decode cX1_init 29 = .ok (.newarray .int, 2) := by decide +kernel
theorem dX1_init_31 : decode cX1_init 31 = .ok (.putfield 22, 3) := by decide +kernel
theorem dX1_init_34 : decode cX1_init 34 = .ok (.return_, 1) := by decide +kernel
theorem dX1_clear_0 : decode cX1_clear 0 = .ok (.aload_n 0, 1) := by decide +kernel
theorem dX1_clear_1 : decode cX1_clear 1 = .ok (.iconst 0, 1) := by decide +kernel
theorem dX1_clear_2 : decode cX1_clear 2 = .ok (.putfield 25, 3) := by decide +kernel
theorem dX1_clear_5 : decode cX1_clear 5 = .ok (.aload_n 0, 1) := by decide +kernel
theorem dX1_clear_6 : decode cX1_clear 6 = .ok (.iconst 0, 1) := by decide +kernel
theorem dX1_clear_7 : decode cX1_clear 7 = .ok (.putfield 28, 3) := by decide +kernel
theorem dX1_clear_10 : decode cX1_clear 10 = .ok (.aload_n 0, 1) := by decide +kernel
theorem dX1_clear_11 : decode cX1_clear 11 = .ok (.iconst 0, 1) := by decide +kernel
theorem dX1_clear_12 : decode cX1_clear 12 = .ok (.putfield 32, 3) := by decide +kernel
theorem dX1_clear_15 : decode cX1_clear 15 = .ok (.aload_n 0, 1) := by decide +kernel
theorem dX1_clear_16 : decode cX1_clear 16 = .ok (.iconst 0, 1) := by decide +kernel
theorem dX1_clear_17 : decode cX1_clear 17 = .ok (.putfield 35, 3) := by decide +kernel
theorem dX1_clear_20 : decode cX1_clear 20 = .ok (.aload_n 0, 1) := by decide +kernel
theorem dX1_clear_21 : decode cX1_clear 21 = .ok (.iconst 0, 1) := by decide +kernel
theorem dX1_clear_22 : decode cX1_clear 22 = .ok (.putfield 38, 3) := by decide +kernel
theorem dX1_clear_25 : decode cX1_clear 25 = .ok (.aload_n 0, 1) := by decide +kernel
theorem dX1_clear_26 : decode cX1_clear 26 = .ok (.bipush 60, 2) := by decide +kernel
theorem dX1_clear_28 : decode cX1_clear 28 = .ok (.putfield 9, 3) := by decide +kernel
theorem dX1_clear_31 : decode cX1_clear 31 = .ok (.aload_n 0, 1) := by decide +kernel
theorem dX1_clear_32 : decode cX1_clear 32 = .ok (.iconst 0, 1) := by decide +kernel
theorem dX1_clear_33 : decode cX1_clear 33 = .ok (.putfield 41, 3) := by decide +kernel
theorem dX1_clear_36 : decode cX1_clear 36 = .ok (.aload_n 0, 1) := by decide +kernel
theorem dX1_clear_37 : decode cX1_clear 37 = .ok (.iconst 0, 1) := by decide +kernel
theorem dX1_clear_38 : decode cX1_clear 38 = .ok (.putfield 44, 3) := by decide +kernel
theorem dX1_clear_41 : decode cX1_clear 41 = .ok (.aload_n 0, 1) := by decide +kernel
theorem dX1_clear_42 : decode cX1_clear 42 = .ok (.getfield 19, 3) := by decide +kernel
theorem dX1_clear_45 : decode cX1_clear 45 = .ok (.iconst 0, 1) := by decide +kernel
theorem dX1_clear_46 : decode cX1_clear 46 = .ok (.invokestatic 47, 3) := by decide +kernel
theorem dX1_clear_49 : decode cX1_clear 49 = .ok (.return_, 1) := by decide +kernel
theorem dX1_takeFrom_0 : decode cX1_takeFrom 0 = .ok (.aload_n 0, 1) := by decide +kernel
theorem dX1_takeFrom_1 : decode cX1_takeFrom 1 = .ok (.aload_n 1, 1) := by decide +kernel
theorem dX1_takeFrom_2 : decode cX1_takeFrom 2 = .ok (.getfield 25, 3) := by decide +kernel
theorem dX1_takeFrom_5 : decode cX1_takeFrom 5 = .ok (.putfield 25, 3) := by decide +kernel
theorem dX1_takeFrom_8 : decode cX1_takeFrom 8 = .ok (.aload_n 0, 1) := by decide +kernel
theorem dX1_takeFrom_9 : decode cX1_takeFrom 9 = .ok (.aload_n 1, 1) := by decide +kernel
theorem dX1_takeFrom_10 : decode cX1_takeFrom 10 = .ok (.getfield 28, 3) := by decide +kernel
theorem dX1_takeFrom_13 : decode cX1_takeFrom 13 = .ok (.putfield 28, 3) := by decide +kernel
theorem dX1_takeFrom_16 : decode cX1_takeFrom 16 = .ok (.aload_n 0, 1) := by decide +kernel
theorem dX1_takeFrom_17 : decode cX1_takeFrom 17 = .ok (.aload_n 1, 1) := by decide +kernel
theorem dX1_takeFrom_18 : decode cX1_takeFrom 18 = .ok (.getfield 32, 3) := by decide +kernel
theorem dX1_takeFrom_21 : decode cX1_takeFrom 21 = .ok (.putfield 32, 3) := by decide +kernel
theorem dX1_takeFrom_24 : decode cX1_takeFrom 24 = .ok (.aload_n 0, 1) := by decide +kernel
theorem dX1_takeFrom_25 : decode cX1_takeFrom 25 = .ok (.aload_n 1, 1) := by decide +kernel
theorem dX1_takeFrom_26 : decode cX1_takeFrom 26 = .ok (.getfield 35, 3) := by decide +kernel
theorem dX1_takeFrom_29 : decode cX1_takeFrom 29 = .ok (.putfield 35, 3) := by decide +kernel
theorem dX1_takeFrom_32 : decode cX1_takeFrom 32 = .ok (.aload_n 0, 1) := by decide +kernel
theorem dX1_takeFrom_33 : decode cX1_takeFrom 33 = .ok (.aload_n 1, 1) := by decide +kernel
theorem dX1_takeFrom_34 : decode cX1_takeFrom 34 = .ok (.getfield 38, 3) := by decide +kernel
theorem dX1_takeFrom_37 : decode cX1_takeFrom 37 = .ok (.putfield 38, 3) := by decide +kernel
theorem dX1_takeFrom_40 : decode cX1_takeFrom 40 = .ok (.aload_n 0, 1) := by decide +kernel
theorem dX1_takeFrom_41 : decode cX1_takeFrom 41 = .ok (.aload_n 1, 1) := by decide +kernel
theorem dX1_takeFrom_42 : decode cX1_takeFrom 42 = .ok (.getfield 9, 3) := by decide +kernel
theorem dX1_takeFrom_45 : decode cX1_takeFrom 45 = .ok (.putfield 9, 3) := by decide +kernel
theorem dX1_takeFrom_48 : decode cX1_takeFrom 48 = .ok (.aload_n 0, 1) := by decide +kernel
theorem dX1_takeFrom_49 : decode cX1_takeFrom 49 = .ok (.aload_n 1, 1) := by decide +kernel
theorem dX1_takeFrom_50 : decode cX1_takeFrom 50 = .ok (.getfield 41, 3) := by decide +kernel
theorem dX1_takeFrom_53 : decode cX1_takeFrom 53 = .ok (.putfield 41, 3) := by decide +kernel
theorem dX1_takeFrom_56 : decode cX1_takeFrom 56 = .ok (.aload_n 0, 1) := by decide +kernel
theorem dX1_takeFrom_57 : decode cX1_takeFrom 57 = .ok (.aload_n 1, 1) := by decide +kernel
theorem dX1_takeFrom_58 : decode cX1_takeFrom 58 = .ok (.getfield 44, 3) := by decide +kernel
theorem dX1_takeFrom_61 : decode cX1_takeFrom 61 = .ok (.putfield 44, 3) := by decide +kernel
theorem dX1_takeFrom_64 : decode cX1_takeFrom 64 = .ok (.iconst 0, 1) := by decide +kernel
theorem dX1_takeFrom_65 : decode cX1_takeFrom 65 = .ok (.istore_n 2, 1) := by decide +kernel
theorem dX1_takeFrom_66 : decode cX1_takeFrom 66 = .ok (.iload_n 2, 1) := by decide +kernel
theorem dX1_takeFrom_67 : decode cX1_takeFrom 67 = .ok (.bipush 6, 2) := by decide +kernel
theorem dX1_takeFrom_69 : decode cX1_takeFrom 69 = .ok (.if_icmp .ge 41, 3) := by decide +kernel
theorem dX1_takeFrom_72 : decode cX1_takeFrom 72 = .ok (.aload_n 0, 1) := by decide +kernel
theorem dX1_takeFrom_73 : decode cX1_takeFrom 73 = .ok (.getfield 15, 3) := by decide +kernel
theorem dX1_takeFrom_76 : decode cX1_takeFrom 76 = .ok (.iload_n 2, 1) := by decide +kernel
theorem dX1_takeFrom_77 : decode cX1_takeFrom 77 = .ok (.aload_n 1, 1) := by decide +kernel
theorem dX1_takeFrom_78 : decode cX1_takeFrom 78 = .ok (.getfield 15, 3) := by decide +kernel
theorem dX1_takeFrom_81 : decode cX1_takeFrom 81 = .ok (.iload_n 2, 1) := by decide +kernel
theorem dX1_takeFrom_82 : decode cX1_takeFrom 82 = .ok (.invokestatic 53, 3) := by decide +kernel
theorem dX1_takeFrom_85 : decode cX1_takeFrom 85 = .ok (.invokestatic 57, 3) := by decide +kernel
theorem dX1_takeFrom_88 : decode cX1_takeFrom 88 = .ok (.aload_n 0, 1) := by decide +kernel
theorem dX1_takeFrom_89 : decode cX1_takeFrom 89 = .ok (.getfield 19, 3) := by decide +kernel
theorem dX1_takeFrom_92 : decode cX1_takeFrom 92 = .ok (.iload_n 2, 1) := by decide +kernel
theorem dX1_takeFrom_93 : decode cX1_takeFrom 93 = .ok (.aload_n 1, 1) := by decide +kernel
theorem dX1_takeFrom_94 : decode cX1_takeFrom 94 = .ok (.getfield 19, 3) := by decide +kernel
theorem dX1_takeFrom_97 : decode cX1_takeFrom 97 = .ok (.iload_n 2, 1) := by decide +kernel
theorem dX1_takeFrom_98 : decode cX1_takeFrom 98 = .ok (.invokestatic 53, 3) := by decide +kernel
theorem dX1_takeFrom_101 : decode cX1_takeFrom 101 = .ok (.invokestatic 57, 3) := by decide +kernel
theorem dX1_takeFrom_104 : decode cX1_takeFrom 104 = .ok (.iinc 2 1, 3) := by decide +kernel
theorem dX1_takeFrom_107 : decode cX1_takeFrom 107 = .ok (.goto (-41), 3) := by decide +kernel
theorem dX1_takeFrom_110 : decode cX1_takeFrom 110 = .ok (.iconst 0, 1) := by decide +kernel
theorem dX1_takeFrom_111 : decode cX1_takeFrom 111 = .ok (.istore_n 2, 1) := by decide +kernel
theorem dX1_takeFrom_112 : decode cX1_takeFrom 112 = .ok (.iload_n 2, 1) := by decide +kernel
theorem dX1_takeFrom_113 : decode cX1_takeFrom 113 = .ok (.bipush 8, 2) := by decide +kernel
theorem dX1_takeFrom_115 : decode cX1_takeFrom 115 = .ok (.if_icmp .ge 25, 3) := by decide +kernel
theorem dX1_takeFrom_118 : decode cX1_takeFrom 118 = .ok (.aload_n 0, 1) := by decide +kernel
theorem dX1_takeFrom_119 : decode cX1_takeFrom 119 = .ok (.getfield 22, 3) := by decide +kernel
theorem dX1_takeFrom_122 : decode cX1_takeFrom 122 = .ok (.iload_n 2, 1) := by decide +kernel
theorem dX1_takeFrom_123 : decode cX1_takeFrom 123 = .ok (.aload_n 1, 1) := by decide +kernel
theorem dX1_takeFrom_124 : decode cX1_takeFrom 124 = .ok (.getfield 22, 3) := by decide +kernel
theorem dX1_takeFrom_127 : decode cX1_takeFrom 127 = .ok (.iload_n 2, 1) := by decide +kernel
theorem dX1_takeFrom_128 : decode cX1_takeFrom 128 = .ok (.invokestatic 53, 3) := by decide +kernel
theorem dX1_takeFrom_131 : decode cX1_takeFrom 131 = .ok (.invokestatic 57, 3) := by decide +kernel
theorem dX1_takeFrom_134 : decode cX1_takeFrom 134 = .ok (.iinc 2 1, 3) := by decide +kernel
theorem dX1_takeFrom_137 : decode cX1_takeFrom 137 = .ok (.goto (-25), 3) := by decide +kernel
theorem dX1_takeFrom_140 : decode cX1_takeFrom 140 = .ok (.return_, 1) := by decide +kernel
theorem dX1_stage_0 : decode cX1_stage 0 = .ok (.aload_n 0, 1) := by decide +kernel
theorem dX1_stage_1 : decode cX1_stage 1 = .ok (.getfield 25, 3) := by decide +kernel
theorem dX1_stage_4 : decode cX1_stage 4 = .ok (.iconst 5, 1) := by decide +kernel
theorem dX1_stage_5 : decode cX1_stage 5 = .ok (.idiv, 1) := by decide +kernel
theorem dX1_stage_6 : decode cX1_stage 6 = .ok (.ireturn, 1) := by decide +kernel
theorem dX1_bringOver_0 : decode cX1_bringOver 0 = .ok (.aload_n 0, 1) := by decide +kernel
theorem dX1_bringOver_1 : decode cX1_bringOver 1 = .ok (.dup, 1) := by decide +kernel
theorem dX1_bringOver_2 : decode cX1_bringOver 2 = .ok (.getfield 25, 3) := by decide +kernel
theorem dX1_bringOver_5 : decode cX1_bringOver 5 = .ok (.iload_n 2, 1) := by decide +kernel
theorem dX1_bringOver_6 : decode cX1_bringOver 6 = .ok (.iadd, 1) := by decide +kernel
theorem dX1_bringOver_7 : decode cX1_bringOver 7 = .ok (.putfield 25, 3) := by decide +kernel
theorem dX1_bringOver_10 : decode cX1_bringOver 10 = .ok (.aload_n 0, 1) := by decide +kernel
theorem dX1_bringOver_11 : decode cX1_bringOver 11 = .ok (.aload_n 0, 1) := by decide +kernel
theorem dX1_bringOver_12 : decode cX1_bringOver 12 = .ok (.getfield 38, 3) := by decide +kernel
theorem dX1_bringOver_15 : decode cX1_bringOver 15 = .ok (.iload_n 1, 1) := by decide +kernel
theorem dX1_bringOver_16 : decode cX1_bringOver 16 = .ok (.invokestatic 61, 3) := by decide +kernel
theorem dX1_bringOver_19 : decode cX1_bringOver 19 = .ok (.putfield 38, 3) := by decide +kernel
theorem dX1_bringOver_22 : decode cX1_bringOver 22 = .ok (.aload_n 0, 1) := by decide +kernel
theorem dX1_bringOver_23 : decode cX1_bringOver 23 = .ok (.getfield 15, 3) := by decide +kernel
theorem dX1_bringOver_26 : decode cX1_bringOver 26 = .ok (.iload_n 1, 1) := by decide +kernel
theorem dX1_bringOver_27 : decode cX1_bringOver 27 = .ok (.aload_n 0, 1) := by decide +kernel
theorem dX1_bringOver_28 : decode cX1_bringOver 28 = .ok (.getfield 25, 3) := by decide +kernel
theorem dX1_bringOver_31 : decode cX1_bringOver 31 = .ok (.invokestatic 57, 3) := by decide +kernel
theorem dX1_bringOver_34 : decode cX1_bringOver 34 = .ok (.return_, 1) := by decide +kernel
theorem dX1_overMinute_0 : decode cX1_overMinute 0 = .ok (.aload_n 0, 1) := by decide +kernel
theorem dX1_overMinute_1 : decode cX1_overMinute 1 = .ok (.getfield 38, 3) := by decide +kernel
theorem dX1_overMinute_4 : decode cX1_overMinute 4 = .ok (.iload_n 1, 1) := by decide +kernel
theorem dX1_overMinute_5 : decode cX1_overMinute 5 = .ok (.invokestatic 65, 3) := by decide +kernel
theorem dX1_overMinute_8 : decode cX1_overMinute 8 = .ok (.ifCond .eq 14, 3) := by decide +kernel
theorem dX1_overMinute_11 : decode cX1_overMinute 11 = .ok (.aload_n 0, 1) := by decide +kernel
theorem dX1_overMinute_12 : decode cX1_overMinute 12 = .ok (.getfield 15, 3) := by decide +kernel
theorem dX1_overMinute_15 : decode cX1_overMinute 15 = .ok (.iload_n 1, 1) := by decide +kernel
theorem dX1_overMinute_16 : decode cX1_overMinute 16 = .ok (.invokestatic 53, 3) := by decide +kernel
theorem dX1_overMinute_19 : decode cX1_overMinute 19 = .ok (.goto 4, 3) := by decide +kernel
theorem dX1_overMinute_22 : decode cX1_overMinute 22 = .ok (.iconst (-1), 1) := by decide +kernel
theorem dX1_overMinute_23 : decode cX1_overMinute 23 = .ok (.ireturn, 1) := by decide +kernel
theorem dX1_say_0 : decode cX1_say 0 = .ok (.aload_n 0, 1) := by decide +kernel
theorem dX1_say_1 : decode cX1_say 1 = .ok (.getfield 19, 3) := by decide +kernel
theorem dX1_say_4 : decode cX1_say 4 = .ok (.iload_n 2, 1) := by decide +kernel
theorem dX1_say_5 : decode cX1_say 5 = .ok (.aload_n 0, 1) := by decide +kernel
theorem dX1_say_6 : decode cX1_say 6 = .ok (.getfield 19, 3) := by decide +kernel
theorem dX1_say_9 : decode cX1_say 9 = .ok (.iload_n 2, 1) := by decide +kernel
theorem dX1_say_10 : decode cX1_say 10 = .ok (.invokestatic 53, 3) := by decide +kernel
theorem dX1_say_13 : decode cX1_say 13 = .ok (.iload_n 1, 1) := by decide +kernel
theorem dX1_say_14 : decode cX1_say 14 = .ok (.invokestatic 61, 3) := by decide +kernel
theorem dX1_say_17 : decode cX1_say 17 = .ok (.invokestatic 57, 3) := by decide +kernel
theorem dX1_say_20 : decode cX1_say 20 = .ok (.aload_n 0, 1) := by decide +kernel
theorem dX1_say_21 : decode cX1_say 21 = .ok (.dup, 1) := by decide +kernel
theorem dX1_say_22 : decode cX1_say 22 = .ok (.getfield 41, 3) := by decide +kernel
theorem dX1_say_25 : decode cX1_say 25 = .ok (.iconst 1, 1) := by decide +kernel
theorem dX1_say_26 : decode cX1_say 26 = .ok (.iadd, 1) := by decide +kernel
theorem dX1_say_27 : decode cX1_say 27 = .ok (.putfield 41, 3) := by decide +kernel
theorem dX1_say_30 : decode cX1_say 30 = .ok (.return_, 1) := by decide +kernel
theorem dX1_saidAhead_0 : decode cX1_saidAhead 0 = .ok (.aload_n 0, 1) := by decide +kernel
theorem dX1_saidAhead_1 : decode cX1_saidAhead 1 = .ok (.getfield 19, 3) := by decide +kernel
theorem dX1_saidAhead_4 : decode cX1_saidAhead 4 = .ok (.iload_n 1, 1) := by decide +kernel
theorem dX1_saidAhead_5 : decode cX1_saidAhead 5 = .ok (.invokestatic 53, 3) := by decide +kernel
theorem dX1_saidAhead_8 : decode cX1_saidAhead 8 = .ok (.ireturn, 1) := by decide +kernel
theorem dX1_addWreck_0 : decode cX1_addWreck 0 = .ok (.aload_n 0, 1) := by decide +kernel
theorem dX1_addWreck_1 : decode cX1_addWreck 1 = .ok (.getfield 22, 3) := by decide +kernel
theorem dX1_addWreck_4 : decode cX1_addWreck 4 = .ok (.aload_n 0, 1) := by decide +kernel
theorem dX1_addWreck_5 : decode cX1_addWreck 5 = .ok (.getfield 44, 3) := by decide +kernel
theorem dX1_addWreck_8 : decode cX1_addWreck 8 = .ok (.iload_n 1, 1) := by decide +kernel
theorem dX1_addWreck_9 : decode cX1_addWreck 9 = .ok (.invokestatic 57, 3) := by decide +kernel
theorem dX1_addWreck_12 : decode cX1_addWreck 12 = .ok (.aload_n 0, 1) := by decide +kernel
theorem dX1_addWreck_13 : decode cX1_addWreck 13 = .ok (.dup, 1) := by decide +kernel
theorem dX1_addWreck_14 : decode cX1_addWreck 14 = .ok (.getfield 44, 3) := by decide +kernel
theorem dX1_addWreck_17 : decode cX1_addWreck 17 = .ok (.iconst 1, 1) := by decide +kernel
theorem dX1_addWreck_18 : decode cX1_addWreck 18 = .ok (.iadd, 1) := by decide +kernel
theorem dX1_addWreck_19 : decode cX1_addWreck 19 = .ok (.putfield 44, 3) := by decide +kernel
theorem dX1_addWreck_22 : decode cX1_addWreck 22 = .ok (.return_, 1) := by decide +kernel
theorem dX1_firstStation_0 : decode cX1_firstStation 0 = .ok (.aload_n 0, 1) := by decide +kernel
theorem dX1_firstStation_1 : decode cX1_firstStation 1 = .ok (.getfield 44, 3) := by decide +kernel
theorem dX1_firstStation_4 : decode cX1_firstStation 4 = .ok (.ifCond .ne 7, 3) := by decide +kernel
theorem dX1_firstStation_7 : decode cX1_firstStation 7 = .ok (.iconst (-1), 1) := by decide +kernel
theorem dX1_firstStation_8 : decode cX1_firstStation 8 = .ok (.goto 13, 3) := by decide +kernel
theorem dX1_firstStation_11 : decode cX1_firstStation 11 = .ok (.aload_n 0, 1) := by decide +kernel
theorem dX1_firstStation_12 : decode cX1_firstStation 12 = .ok (.aload_n 0, 1) := by decide +kernel
theorem dX1_firstStation_13 : decode cX1_firstStation 13 = .ok (.iconst 0, 1) := by decide +kernel
theorem dX1_firstStation_14 : decode cX1_firstStation 14 = .ok (.invokevirtual 69, 3) := by decide +kernel
theorem dX1_firstStation_17 : decode cX1_firstStation 17 = .ok (.iload_n 1, 1) := by decide +kernel
theorem dX1_firstStation_18 : decode cX1_firstStation 18 = .ok (.invokevirtual 73, 3) := by decide +kernel
theorem dX1_firstStation_21 : decode cX1_firstStation 21 = .ok (.ireturn, 1) := by decide +kernel
theorem dX1_fewestStations_0 : decode cX1_fewestStations 0 = .ok (.iconst 0, 1) := by decide +kernel
theorem dX1_fewestStations_1 : decode cX1_fewestStations 1 = .ok (.istore_n 2, 1) := by decide +kernel
theorem dX1_fewestStations_2 : decode cX1_fewestStations 2 = .ok (.iconst 0, 1) := by decide +kernel
theorem dX1_fewestStations_3 : decode cX1_fewestStations 3 = .ok (.istore_n 3, 1) := by decide +kernel
theorem dX1_fewestStations_4 : decode cX1_fewestStations 4 = .ok (.iconst 0, 1) := by decide +kernel
theorem dX1_fewestStations_5 : decode cX1_fewestStations 5 = .ok (.istore 4, 2) := by decide +kernel
theorem dX1_fewestStations_7 : decode cX1_fewestStations 7 = .ok (.iload 4, 2) := by decide +kernel
theorem dX1_fewestStations_9 : decode cX1_fewestStations 9 = .ok (.aload_n 0, 1) := by decide +kernel
theorem dX1_fewestStations_10 : decode cX1_fewestStations 10 = .ok (.getfield 44, 3) := by decide +kernel
theorem dX1_fewestStations_13 : decode cX1_fewestStations 13 = .ok (.if_icmp .ge 40, 3) := by decide +kernel
theorem dX1_fewestStations_16 : decode cX1_fewestStations 16 = .ok (.aload_n 0, 1) := by decide +kernel
theorem dX1_fewestStations_17 : decode cX1_fewestStations 17 = .ok (.iload_n 3, 1) := by decide +kernel
theorem dX1_fewestStations_18 : decode cX1_fewestStations 18 = .ok (.invokevirtual 69, 3) := by decide +kernel
theorem dX1_fewestStations_21 : decode cX1_fewestStations 21 = .ok (.istore 5, 2) := by decide +kernel
theorem dX1_fewestStations_23 : decode cX1_fewestStations 23 = .ok (.iload 5, 2) := by decide +kernel
theorem dX1_fewestStations_25 : decode cX1_fewestStations 25 = .ok (.bipush 99, 2) := by decide +kernel
theorem dX1_fewestStations_27 : decode cX1_fewestStations 27 = .ok (.if_icmp .le 5, 3) := by decide +kernel
theorem dX1_fewestStations_30 : decode cX1_fewestStations 30 = .ok (.iload_n 2, 1) := by decide +kernel
theorem dX1_fewestStations_31 : decode cX1_fewestStations 31 = .ok (.ireturn, 1) := by decide +kernel
theorem dX1_fewestStations_32 : decode cX1_fewestStations 32 = .ok (.aload_n 0, 1) := by decide +kernel
theorem dX1_fewestStations_33 : decode cX1_fewestStations 33 = .ok (.iload 5, 2) := by decide +kernel
theorem dX1_fewestStations_35 : decode cX1_fewestStations 35 = .ok (.iload_n 1, 1) := by decide +kernel
theorem dX1_fewestStations_36 : decode cX1_fewestStations 36 = .ok (.invokevirtual 73, 3) := by decide +kernel
theorem dX1_fewestStations_39 : decode cX1_fewestStations 39 = .ok (.iload_n 1, 1) := by decide +kernel
theorem dX1_fewestStations_40 : decode cX1_fewestStations 40 = .ok (.iadd, 1) := by decide +kernel
theorem dX1_fewestStations_41 : decode cX1_fewestStations 41 = .ok (.iconst 1, 1) := by decide +kernel
theorem dX1_fewestStations_42 : decode cX1_fewestStations 42 = .ok (.iadd, 1) := by decide +kernel
theorem dX1_fewestStations_43 : decode cX1_fewestStations 43 = .ok (.istore_n 3, 1) := by decide +kernel
theorem dX1_fewestStations_44 : decode cX1_fewestStations 44 = .ok (.iinc 2 1, 3) := by decide +kernel
theorem dX1_fewestStations_47 : decode cX1_fewestStations 47 = .ok (.iinc 4 1, 3) := by decide +kernel
theorem dX1_fewestStations_50 : decode cX1_fewestStations 50 = .ok (.goto (-43), 3) := by decide +kernel
theorem dX1_fewestStations_53 : decode cX1_fewestStations 53 = .ok (.iload_n 2, 1) := by decide +kernel
theorem dX1_fewestStations_54 : decode cX1_fewestStations 54 = .ok (.ireturn, 1) := by decide +kernel
theorem dX1_stationFor_0 : decode cX1_stationFor 0 = .ok (.iload_n 1, 1) := by decide +kernel
theorem dX1_stationFor_1 : decode cX1_stationFor 1 = .ok (.iload_n 2, 1) := by decide +kernel
theorem dX1_stationFor_2 : decode cX1_stationFor 2 = .ok (.iadd, 1) := by decide +kernel
theorem dX1_stationFor_3 : decode cX1_stationFor 3 = .ok (.bipush 99, 2) := by decide +kernel
theorem dX1_stationFor_5 : decode cX1_stationFor 5 = .ok (.invokestatic 76, 3) := by decide +kernel
theorem dX1_stationFor_8 : decode cX1_stationFor 8 = .ok (.ireturn, 1) := by decide +kernel
theorem dX1_leastWreckFrom_0 : decode cX1_leastWreckFrom 0 = .ok (.bipush 100, 2) := by decide +kernel
theorem dX1_leastWreckFrom_2 : decode cX1_leastWreckFrom 2 = .ok (.istore_n 2, 1) := by decide +kernel
theorem dX1_leastWreckFrom_3 : decode cX1_leastWreckFrom 3 = .ok (.iconst 0, 1) := by decide +kernel
theorem dX1_leastWreckFrom_4 : decode cX1_leastWreckFrom 4 = .ok (.istore_n 3, 1) := by decide +kernel
theorem dX1_leastWreckFrom_5 : decode cX1_leastWreckFrom 5 = .ok (.iload_n 3, 1) := by decide +kernel
theorem dX1_leastWreckFrom_6 : decode cX1_leastWreckFrom 6 = .ok (.aload_n 0, 1) := by decide +kernel
theorem dX1_leastWreckFrom_7 : decode cX1_leastWreckFrom 7 = .ok (.getfield 44, 3) := by decide +kernel
theorem dX1_leastWreckFrom_10 : decode cX1_leastWreckFrom 10 = .ok (.if_icmp .ge 34, 3) := by decide +kernel
theorem dX1_leastWreckFrom_13 : decode cX1_leastWreckFrom 13 = .ok (.aload_n 0, 1) := by decide +kernel
theorem dX1_leastWreckFrom_14 : decode cX1_leastWreckFrom 14 = .ok (.getfield 22, 3) := by decide +kernel
theorem dX1_leastWreckFrom_17 : decode cX1_leastWreckFrom 17 = .ok (.iload_n 3, 1) := by decide +kernel
theorem dX1_leastWreckFrom_18 : decode cX1_leastWreckFrom 18 = .ok (.invokestatic 53, 3) := by decide +kernel
theorem dX1_leastWreckFrom_21 : decode cX1_leastWreckFrom 21 = .ok (.istore 4, 2) := by decide +kernel
theorem dX1_leastWreckFrom_23 : decode cX1_leastWreckFrom 23 = .ok (.iload 4, 2) := by decide +kernel
theorem dX1_leastWreckFrom_25 : decode cX1_leastWreckFrom 25 = .ok (.iload_n 1, 1) := by decide +kernel
theorem dX1_leastWreckFrom_26 : decode cX1_leastWreckFrom 26 = .ok (.if_icmp .lt 12, 3) := by decide +kernel
theorem dX1_leastWreckFrom_29 : decode cX1_leastWreckFrom 29 = .ok (.iload 4, 2) := by decide +kernel
theorem dX1_leastWreckFrom_31 : decode cX1_leastWreckFrom 31 = .ok (.iload_n 2, 1) := by decide +kernel
theorem dX1_leastWreckFrom_32 : decode cX1_leastWreckFrom 32 = .ok (.if_icmp .ge 6, 3) := by decide +kernel
theorem dX1_leastWreckFrom_35 : decode cX1_leastWreckFrom 35 = .ok (.iload 4, 2) := by decide +kernel
theorem dX1_leastWreckFrom_37 : decode cX1_leastWreckFrom 37 = .ok (.istore_n 2, 1) := by decide +kernel
theorem dX1_leastWreckFrom_38 : decode cX1_leastWreckFrom 38 = .ok (.iinc 3 1, 3) := by decide +kernel
theorem dX1_leastWreckFrom_41 : decode cX1_leastWreckFrom 41 = .ok (.goto (-36), 3) := by decide +kernel
theorem dX1_leastWreckFrom_44 : decode cX1_leastWreckFrom 44 = .ok (.iload_n 2, 1) := by decide +kernel
theorem dX1_leastWreckFrom_45 : decode cX1_leastWreckFrom 45 = .ok (.ireturn, 1) := by decide +kernel
theorem dX2_init_0 : decode cX2_init 0 = .ok (.aload_n 0, 1) := by decide +kernel
theorem dX2_init_1 : decode cX2_init 1 = .ok (.invokespecial 3, 3) := by decide +kernel
theorem dX2_init_4 : decode cX2_init 4 = .ok (.aload_n 0, 1) := by decide +kernel
theorem dX2_init_5 : decode cX2_init 5 = .ok (.bipush 6, 2) := by decide +kernel
theorem dX2_init_7 : decode cX2_init 7 = .ok (.newarray .int, 2) := by decide +kernel
theorem dX2_init_9 : decode cX2_init 9 = .ok (.putfield 9, 3) := by decide +kernel
theorem dX2_init_12 : decode cX2_init 12 = .ok (.aload_n 0, 1) := by decide +kernel
theorem dX2_init_13 : decode cX2_init 13 = .ok (.bipush 6, 2) := by decide +kernel
theorem dX2_init_15 : decode cX2_init 15 = .ok (.newarray .int, 2) := by decide +kernel
theorem dX2_init_17 : decode cX2_init 17 = .ok (.putfield 15, 3) := by decide +kernel
theorem dX2_init_20 : decode cX2_init 20 = .ok (.aload_n 0, 1) := by decide +kernel
theorem dX2_init_21 : decode cX2_init 21 = .ok (.bipush 6, 2) := by decide +kernel
theorem dX2_init_23 : decode cX2_init 23 = .ok (.newarray .int, 2) := by decide +kernel
theorem dX2_init_25 : decode cX2_init 25 = .ok (.putfield 18, 3) := by decide +kernel
theorem dX2_init_28 : decode cX2_init 28 = .ok (.return_, 1) := by decide +kernel
theorem dX2_clear_0 : decode cX2_clear 0 = .ok (.aload_n 0, 1) := by decide +kernel
theorem dX2_clear_1 : decode cX2_clear 1 = .ok (.iconst 0, 1) := by decide +kernel
theorem dX2_clear_2 : decode cX2_clear 2 = .ok (.putfield 21, 3) := by decide +kernel
theorem dX2_clear_5 : decode cX2_clear 5 = .ok (.aload_n 0, 1) := by decide +kernel
theorem dX2_clear_6 : decode cX2_clear 6 = .ok (.getfield 18, 3) := by decide +kernel
theorem dX2_clear_9 : decode cX2_clear 9 = .ok (.iconst 0, 1) := by decide +kernel
theorem dX2_clear_10 : decode cX2_clear 10 = .ok (.invokestatic 25, 3) := by decide +kernel
theorem dX2_clear_13 : decode cX2_clear 13 = .ok (.return_, 1) := by decide +kernel
theorem dX2_has_0 : decode cX2_has 0 = .ok (.iload_n 1, 1) := by decide +kernel
theorem dX2_has_1 : decode cX2_has 1 = .ok (.ifCond .lt 15, 3) := by decide +kernel
theorem dX2_has_4 : decode cX2_has 4 = .ok (.iload_n 1, 1) := by decide +kernel
theorem dX2_has_5 : decode cX2_has 5 = .ok (.aload_n 0, 1) := by decide +kernel
theorem dX2_has_6 : decode cX2_has 6 = .ok (.getfield 21, 3) := by decide +kernel
theorem dX2_has_9 : decode cX2_has 9 = .ok (.if_icmp .ge 7, 3) := by decide +kernel
theorem dX2_has_12 : decode cX2_has 12 = .ok (.iconst 1, 1) := by decide +kernel
theorem dX2_has_13 : decode cX2_has 13 = .ok (.goto 4, 3) := by decide +kernel
theorem dX2_has_16 : decode cX2_has 16 = .ok (.iconst 0, 1) := by decide +kernel
theorem dX2_has_17 : decode cX2_has 17 = .ok (.ireturn, 1) := by decide +kernel
theorem dX2_add_0 : decode cX2_add 0 = .ok (.aload_n 0, 1) := by decide +kernel
theorem dX2_add_1 : decode cX2_add 1 = .ok (.getfield 9, 3) := by decide +kernel
theorem dX2_add_4 : decode cX2_add 4 = .ok (.aload_n 0, 1) := by decide +kernel
theorem dX2_add_5 : decode cX2_add 5 = .ok (.getfield 21, 3) := by decide +kernel
theorem dX2_add_8 : decode cX2_add 8 = .ok (.iload_n 1, 1) := by decide +kernel
theorem dX2_add_9 : decode cX2_add 9 = .ok (.invokestatic 31, 3) := by decide +kernel
theorem dX2_add_12 : decode cX2_add 12 = .ok (.aload_n 0, 1) := by decide +kernel
theorem dX2_add_13 : decode cX2_add 13 = .ok (.getfield 15, 3) := by decide +kernel
theorem dX2_add_16 : decode cX2_add 16 = .ok (.aload_n 0, 1) := by decide +kernel
theorem dX2_add_17 : decode cX2_add 17 = .ok (.getfield 21, 3) := by decide +kernel
theorem dX2_add_20 : decode cX2_add 20 = .ok (.iload_n 2, 1) := by decide +kernel
theorem dX2_add_21 : decode cX2_add 21 = .ok (.invokestatic 31, 3) := by decide +kernel
theorem dX2_add_24 : decode cX2_add 24 = .ok (.aload_n 0, 1) := by decide +kernel
theorem dX2_add_25 : decode cX2_add 25 = .ok (.dup, 1) := by decide +kernel
theorem dX2_add_26 : decode cX2_add 26 = .ok (.getfield 21, 3) := by decide +kernel
theorem dX2_add_29 : decode cX2_add 29 = .ok (.iconst 1, 1) := by decide +kernel
theorem dX2_add_30 : decode cX2_add 30 = .ok (.iadd, 1) := by decide +kernel
theorem dX2_add_31 : decode cX2_add 31 = .ok (.putfield 21, 3) := by decide +kernel
theorem dX2_add_34 : decode cX2_add 34 = .ok (.aload_n 0, 1) := by decide +kernel
theorem dX2_add_35 : decode cX2_add 35 = .ok (.getfield 21, 3) := by decide +kernel
theorem dX2_add_38 : decode cX2_add 38 = .ok (.iconst 1, 1) := by decide +kernel
theorem dX2_add_39 : decode cX2_add 39 = .ok (.isub, 1) := by decide +kernel
theorem dX2_add_40 : decode cX2_add 40 = .ok (.ireturn, 1) := by decide +kernel
theorem dX2_all_0 : decode cX2_all 0 = .ok (.iconst 1, 1) := by decide +kernel
theorem dX2_all_1 : decode cX2_all 1 = .ok (.aload_n 0, 1) := by decide +kernel
theorem dX2_all_2 : decode cX2_all 2 = .ok (.getfield 21, 3) := by decide +kernel
theorem dX2_all_5 : decode cX2_all 5 = .ok (.ishl, 1) := by decide +kernel
theorem dX2_all_6 : decode cX2_all 6 = .ok (.iconst 1, 1) := by decide +kernel
theorem dX2_all_7 : decode cX2_all 7 = .ok (.isub, 1) := by decide +kernel
theorem dX2_all_8 : decode cX2_all 8 = .ok (.ireturn, 1) := by decide +kernel
theorem dX2_kind_0 : decode cX2_kind 0 = .ok (.aload_n 0, 1) := by decide +kernel
theorem dX2_kind_1 : decode cX2_kind 1 = .ok (.getfield 9, 3) := by decide +kernel
theorem dX2_kind_4 : decode cX2_kind 4 = .ok (.iload_n 1, 1) := by decide +kernel
theorem dX2_kind_5 : decode cX2_kind 5 = .ok (.invokestatic 35, 3) := by decide +kernel
theorem dX2_kind_8 : decode cX2_kind 8 = .ok (.ireturn, 1) := by decide +kernel
theorem dX2_weight_0 : decode cX2_weight 0 = .ok (.aload_n 0, 1) := by decide +kernel
theorem dX2_weight_1 : decode cX2_weight 1 = .ok (.getfield 15, 3) := by decide +kernel
theorem dX2_weight_4 : decode cX2_weight 4 = .ok (.iload_n 1, 1) := by decide +kernel
theorem dX2_weight_5 : decode cX2_weight 5 = .ok (.invokestatic 35, 3) := by decide +kernel
theorem dX2_weight_8 : decode cX2_weight 8 = .ok (.ireturn, 1) := by decide +kernel
theorem dX2_isOf_0 : decode cX2_isOf 0 = .ok (.aload_n 0, 1) := by decide +kernel
theorem dX2_isOf_1 : decode cX2_isOf 1 = .ok (.iload_n 1, 1) := by decide +kernel
theorem dX2_isOf_2 : decode cX2_isOf 2 = .ok (.invokevirtual 39, 3) := by decide +kernel
theorem dX2_isOf_5 : decode cX2_isOf 5 = .ok (.istore_n 3, 1) := by decide +kernel
theorem dX2_isOf_6 : decode cX2_isOf 6 = .ok (.iload_n 2, 1) := by decide +kernel
theorem dX2_isOf_7 : decode cX2_isOf 7 = .ok (.ifCond .eq 18, 3) := by decide +kernel
theorem dX2_isOf_10 : decode cX2_isOf 10 = .ok (.iload_n 2, 1) := by decide +kernel
theorem dX2_isOf_11 : decode cX2_isOf 11 = .ok (.iload_n 3, 1) := by decide +kernel
theorem dX2_isOf_12 : decode cX2_isOf 12 = .ok (.if_icmp .eq 13, 3) := by decide +kernel
theorem dX2_isOf_15 : decode cX2_isOf 15 = .ok (.iload_n 2, 1) := by decide +kernel
theorem dX2_isOf_16 : decode cX2_isOf 16 = .ok (.iconst 2, 1) := by decide +kernel
theorem dX2_isOf_17 : decode cX2_isOf 17 = .ok (.if_icmp .ne 12, 3) := by decide +kernel
theorem dX2_isOf_20 : decode cX2_isOf 20 = .ok (.iload_n 3, 1) := by decide +kernel
theorem dX2_isOf_21 : decode cX2_isOf 21 = .ok (.iconst 4, 1) := by decide +kernel
theorem dX2_isOf_22 : decode cX2_isOf 22 = .ok (.if_icmp .ne 7, 3) := by decide +kernel
theorem dX2_isOf_25 : decode cX2_isOf 25 = .ok (.iconst 1, 1) := by decide +kernel
theorem dX2_isOf_26 : decode cX2_isOf 26 = .ok (.goto 4, 3) := by decide +kernel
theorem dX2_isOf_29 : decode cX2_isOf 29 = .ok (.iconst 0, 1) := by decide +kernel
theorem dX2_isOf_30 : decode cX2_isOf 30 = .ok (.ireturn, 1) := by decide +kernel
theorem dX2_putBehind_0 : decode cX2_putBehind 0 = .ok (.aload_n 0, 1) := by decide +kernel
theorem dX2_putBehind_1 : decode cX2_putBehind 1 = .ok (.getfield 18, 3) := by decide +kernel
theorem dX2_putBehind_4 : decode cX2_putBehind 4 = .ok (.iload_n 1, 1) := by decide +kernel
theorem dX2_putBehind_5 : decode cX2_putBehind 5 = .ok (.invokestatic 35, 3) := by decide +kernel
theorem dX2_putBehind_8 : decode cX2_putBehind 8 = .ok (.istore 4, 2) := by decide +kernel
theorem dX2_putBehind_10 : decode cX2_putBehind 10 = .ok (.aload_n 0, 1) := by decide +kernel
theorem dX2_putBehind_11 : decode cX2_putBehind 11 = .ok (.getfield 18, 3) := by decide +kernel
theorem dX2_putBehind_14 : decode cX2_putBehind 14 = .ok (.iload_n 1, 1) := by decide +kernel
theorem dX2_putBehind_15 : decode cX2_putBehind 15 = .ok (.iload_n 3, 1) := by decide +kernel
theorem dX2_putBehind_16 : decode cX2_putBehind 16 = .ok (.ifCond .eq 12, 3) := by decide +kernel
theorem dX2_putBehind_19 : decode cX2_putBehind 19 = .ok (.iload 4, 2) := by decide +kernel
theorem dX2_putBehind_21 : decode cX2_putBehind 21 = .ok (.iload_n 2, 1) := by decide +kernel
theorem dX2_putBehind_22 : decode cX2_putBehind 22 = .ok (.invokestatic 43, 3) := by decide +kernel
theorem dX2_putBehind_25 : decode cX2_putBehind 25 = .ok (.goto 9, 3) := by decide +kernel
theorem dX2_putBehind_28 : decode cX2_putBehind 28 = .ok (.iload 4, 2) := by decide +kernel
theorem dX2_putBehind_30 : decode cX2_putBehind 30 = .ok (.iload_n 2, 1) := by decide +kernel
theorem dX2_putBehind_31 : decode cX2_putBehind 31 = .ok (.invokestatic 47, 3) := by decide +kernel
theorem dX2_putBehind_34 : decode cX2_putBehind 34 = .ok (.invokestatic 31, 3) := by decide +kernel
theorem dX2_putBehind_37 : decode cX2_putBehind 37 = .ok (.iload 4, 2) := by decide +kernel
theorem dX2_putBehind_39 : decode cX2_putBehind 39 = .ok (.iload_n 2, 1) := by decide +kernel
theorem dX2_putBehind_40 : decode cX2_putBehind 40 = .ok (.invokestatic 50, 3) := by decide +kernel
theorem dX2_putBehind_43 : decode cX2_putBehind 43 = .ok (.ireturn, 1) := by decide +kernel
theorem dX2_ahead_0 : decode cX2_ahead 0 = .ok (.aload_n 0, 1) := by decide +kernel
theorem dX2_ahead_1 : decode cX2_ahead 1 = .ok (.getfield 18, 3) := by decide +kernel
theorem dX2_ahead_4 : decode cX2_ahead 4 = .ok (.iload_n 1, 1) := by decide +kernel
theorem dX2_ahead_5 : decode cX2_ahead 5 = .ok (.invokestatic 35, 3) := by decide +kernel
theorem dX2_ahead_8 : decode cX2_ahead 8 = .ok (.istore_n 2, 1) := by decide +kernel
theorem dX2_ahead_9 : decode cX2_ahead 9 = .ok (.aload_n 0, 1) := by decide +kernel
theorem dX2_ahead_10 : decode cX2_ahead 10 = .ok (.iload_n 1, 1) := by decide +kernel
theorem dX2_ahead_11 : decode cX2_ahead 11 = .ok (.invokevirtual 39, 3) := by decide +kernel
theorem dX2_ahead_14 : decode cX2_ahead 14 = .ok (.iconst 4, 1) := by decide +kernel
theorem dX2_ahead_15 : decode cX2_ahead 15 = .ok (.if_icmp .ne 12, 3) := by decide +kernel
theorem dX2_ahead_18 : decode cX2_ahead 18 = .ok (.iload_n 2, 1) := by decide +kernel
theorem dX2_ahead_19 : decode cX2_ahead 19 = .ok (.aload_n 0, 1) := by decide +kernel
theorem dX2_ahead_20 : decode cX2_ahead 20 = .ok (.invokevirtual 54, 3) := by decide +kernel
theorem dX2_ahead_23 : decode cX2_ahead 23 = .ok (.ior, 1) := by decide +kernel
theorem dX2_ahead_24 : decode cX2_ahead 24 = .ok (.goto 4, 3) := by decide +kernel
theorem dX2_ahead_27 : decode cX2_ahead 27 = .ok (.iload_n 2, 1) := by decide +kernel
theorem dX2_ahead_28 : decode cX2_ahead 28 = .ok (.ireturn, 1) := by decide +kernel
theorem dX2_allButCaptains_0 : decode cX2_allButCaptains 0 = .ok (.iconst 0, 1) := by decide +kernel
theorem dX2_allButCaptains_1 : decode cX2_allButCaptains 1 = .ok (.istore_n 1, 1) := by decide +kernel
theorem dX2_allButCaptains_2 : decode cX2_allButCaptains 2 = .ok (.iconst 0, 1) := by decide +kernel
theorem dX2_allButCaptains_3 : decode cX2_allButCaptains 3 = .ok (.istore_n 2, 1) := by decide +kernel
theorem dX2_allButCaptains_4 : decode cX2_allButCaptains 4 = .ok (.iload_n 2, 1) := by decide +kernel
theorem dX2_allButCaptains_5 : decode cX2_allButCaptains 5 = .ok (.aload_n 0, 1) := by decide +kernel
theorem dX2_allButCaptains_6 : decode cX2_allButCaptains 6 = .ok (.getfield 21, 3) := by decide +kernel
theorem dX2_allButCaptains_9 : decode cX2_allButCaptains 9 = .ok (.if_icmp .ge 24, 3) := by decide +kernel
theorem dX2_allButCaptains_12 : decode cX2_allButCaptains 12 = .ok (.aload_n 0, 1) := by decide +kernel
theorem dX2_allButCaptains_13 : decode cX2_allButCaptains 13 = .ok (.iload_n 2, 1) := by decide +kernel
theorem dX2_allButCaptains_14 : decode cX2_allButCaptains 14 = .ok (.invokevirtual 39, 3) := by decide +kernel
theorem dX2_allButCaptains_17 : decode cX2_allButCaptains 17 = .ok (.iconst 4, 1) := by decide +kernel
theorem dX2_allButCaptains_18 : decode cX2_allButCaptains 18 = .ok (.if_icmp .eq 9, 3) := by decide +kernel
theorem dX2_allButCaptains_21 : decode cX2_allButCaptains 21 = .ok (.iload_n 1, 1) := by decide +kernel
theorem dX2_allButCaptains_22 : decode cX2_allButCaptains 22 = .ok (.iload_n 2, 1) := by decide +kernel
theorem dX2_allButCaptains_23 : decode cX2_allButCaptains 23 = .ok (.invokestatic 43, 3) := by decide +kernel
theorem dX2_allButCaptains_26 : decode cX2_allButCaptains 26 = .ok (.istore_n 1, 1) := by decide +kernel
theorem dX2_allButCaptains_27 : decode cX2_allButCaptains 27 = .ok (.iinc 2 1, 3) := by decide +kernel
theorem dX2_allButCaptains_30 : decode cX2_allButCaptains 30 = .ok (.goto (-26), 3) := by decide +kernel
theorem dX2_allButCaptains_33 : decode cX2_allButCaptains 33 = .ok (.iload_n 1, 1) := by decide +kernel
theorem dX2_allButCaptains_34 : decode cX2_allButCaptains 34 = .ok (.ireturn, 1) := by decide +kernel
theorem dX2_sags_0 : decode cX2_sags 0 = .ok (.aload_n 0, 1) := by decide +kernel
theorem dX2_sags_1 : decode cX2_sags 1 = .ok (.iload_n 1, 1) := by decide +kernel
theorem dX2_sags_2 : decode cX2_sags 2 = .ok (.invokevirtual 58, 3) := by decide +kernel
theorem dX2_sags_5 : decode cX2_sags 5 = .ok (.iload_n 2, 1) := by decide +kernel
theorem dX2_sags_6 : decode cX2_sags 6 = .ok (.imul, 1) := by decide +kernel
theorem dX2_sags_7 : decode cX2_sags 7 = .ok (.bipush 50, 2) := by decide +kernel
theorem dX2_sags_9 : decode cX2_sags 9 = .ok (.idiv, 1) := by decide +kernel
theorem dX2_sags_10 : decode cX2_sags 10 = .ok (.iload_n 3, 1) := by decide +kernel
theorem dX2_sags_11 : decode cX2_sags 11 = .ok (.if_icmp .le 7, 3) := by decide +kernel
theorem dX2_sags_14 : decode cX2_sags 14 = .ok (.iconst 1, 1) := by decide +kernel
theorem dX2_sags_15 : decode cX2_sags 15 = .ok (.goto 4, 3) := by decide +kernel
theorem dX2_sags_18 : decode cX2_sags 18 = .ok (.iconst 0, 1) := by decide +kernel
theorem dX2_sags_19 : decode cX2_sags 19 = .ok (.ireturn, 1) := by decide +kernel
theorem dX2_takes_0 : decode cX2_takes 0 = .ok (.iconst 2, 1) := by decide +kernel
theorem dX2_takes_1 : decode cX2_takes 1 = .ok (.aload_n 0, 1) := by decide +kernel
theorem dX2_takes_2 : decode cX2_takes 2 = .ok (.iload_n 1, 1) := by decide +kernel
theorem dX2_takes_3 : decode cX2_takes 3 = .ok (.invokevirtual 58, 3) := by decide +kernel
theorem dX2_takes_6 : decode cX2_takes 6 = .ok (.iconst 5, 1) := by decide +kernel
theorem dX2_takes_7 : decode cX2_takes 7 = .ok (.idiv, 1) := by decide +kernel
theorem dX2_takes_8 : decode cX2_takes 8 = .ok (.iadd, 1) := by decide +kernel
theorem dX2_takes_9 : decode cX2_takes 9 = .ok (.istore 4, 2) := by decide +kernel
theorem dX2_takes_11 : decode cX2_takes 11 = .ok (.aload_n 0, 1) := by decide +kernel
theorem dX2_takes_12 : decode cX2_takes 12 = .ok (.iload_n 1, 1) := by decide +kernel
theorem dX2_takes_13 : decode cX2_takes 13 = .ok (.invokevirtual 39, 3) := by decide +kernel
theorem dX2_takes_16 : decode cX2_takes 16 = .ok (.iconst 1, 1) := by decide +kernel
theorem dX2_takes_17 : decode cX2_takes 17 = .ok (.if_icmp .ne 11, 3) := by decide +kernel
theorem dX2_takes_20 : decode cX2_takes 20 = .ok (.iload 4, 2) := by decide +kernel
theorem dX2_takes_22 : decode cX2_takes 22 = .ok (.iconst 1, 1) := by decide +kernel
theorem dX2_takes_23 : decode cX2_takes 23 = .ok (.iadd, 1) := by decide +kernel
theorem dX2_takes_24 : decode cX2_takes 24 = .ok (.iconst 2, 1) := by decide +kernel
theorem dX2_takes_25 : decode cX2_takes 25 = .ok (.idiv, 1) := by decide +kernel
theorem dX2_takes_26 : decode cX2_takes 26 = .ok (.istore 4, 2) := by decide +kernel
theorem dX2_takes_28 : decode cX2_takes 28 = .ok (.aload_n 0, 1) := by decide +kernel
theorem dX2_takes_29 : decode cX2_takes 29 = .ok (.iload_n 1, 1) := by decide +kernel
theorem dX2_takes_30 : decode cX2_takes 30 = .ok (.invokevirtual 39, 3) := by decide +kernel
theorem dX2_takes_33 : decode cX2_takes 33 = .ok (.iconst 3, 1) := by decide +kernel
theorem dX2_takes_34 : decode cX2_takes 34 = .ok (.if_icmp .ne 6, 3) := by decide +kernel
theorem dX2_takes_37 : decode cX2_takes 37 = .ok (.iinc 4 3, 3) := by decide +kernel
theorem dX2_takes_40 : decode cX2_takes 40 = .ok (.aload_n 0, 1) := by decide +kernel
theorem dX2_takes_41 : decode cX2_takes 41 = .ok (.iload_n 1, 1) := by decide +kernel
theorem dX2_takes_42 : decode cX2_takes 42 = .ok (.iload_n 2, 1) := by decide +kernel
theorem dX2_takes_43 : decode cX2_takes 43 = .ok (.iload_n 3, 1) := by decide +kernel
theorem dX2_takes_44 : decode cX2_takes 44 = .ok (.invokevirtual 61, 3) := by decide +kernel
theorem dX2_takes_47 : decode cX2_takes 47 = .ok (.ifCond .eq 10, 3) := by decide +kernel
theorem dX2_takes_50 : decode cX2_takes 50 = .ok (.iload 4, 2) := by decide +kernel
theorem dX2_takes_52 : decode cX2_takes 52 = .ok (.iconst 2, 1) := by decide +kernel
theorem dX2_takes_53 : decode cX2_takes 53 = .ok (.iadd, 1) := by decide +kernel
theorem dX2_takes_54 : decode cX2_takes 54 = .ok (.goto 5, 3) := by decide +kernel
theorem dX2_takes_57 : decode cX2_takes 57 = .ok (.iload 4, 2) := by decide +kernel
theorem dX2_takes_59 : decode cX2_takes 59 = .ok (.ireturn, 1) := by decide +kernel
theorem dX3_init_0 : decode cX3_init 0 = .ok (.aload_n 0, 1) := by decide +kernel
theorem dX3_init_1 : decode cX3_init 1 = .ok (.invokespecial 1, 3) := by decide +kernel
theorem dX3_init_4 : decode cX3_init 4 = .ok (.aload_n 0, 1) := by decide +kernel
theorem dX3_init_5 : decode cX3_init 5 = .ok (.new 7, 3) := by decide +kernel
theorem dX3_init_8 : decode cX3_init 8 = .ok (.dup, 1) := by decide +kernel
theorem dX3_init_9 : decode cX3_init 9 = .ok (.invokespecial 9, 3) := by decide +kernel
theorem dX3_init_12 : decode cX3_init 12 = .ok (.putfield 10, 3) := by decide +kernel
theorem dX3_init_15 : decode cX3_init 15 = .ok (.return_, 1) := by decide +kernel
theorem dX4_init_0 : decode cX4_init 0 = .ok (.aload_n 0, 1) := by decide +kernel
theorem dX4_init_1 : decode cX4_init 1 = .ok (.invokespecial 3, 3) := by decide +kernel
theorem dX4_init_4 : decode cX4_init 4 = .ok (.aload_n 0, 1) := by decide +kernel
theorem dX4_init_5 : decode cX4_init 5 = .ok (.bipush 64, 2) := by decide +kernel
theorem dX4_init_7 : decode cX4_init 7 = .ok (.newarray .long, 2) := by decide +kernel
theorem dX4_init_9 : decode cX4_init 9 = .ok (.putfield 9, 3) := by decide +kernel
theorem dX4_init_12 : decode cX4_init 12 = .ok (.aload_n 0, 1) := by decide +kernel
theorem dX4_init_13 : decode cX4_init 13 = .ok (.bipush 64, 2) := by decide +kernel
theorem dX4_init_15 : decode cX4_init 15 = .ok (.newarray .int, 2) := by decide +kernel
theorem dX4_init_17 : decode cX4_init 17 = .ok (.putfield 15, 3) := by decide +kernel
theorem dX4_init_20 : decode cX4_init 20 = .ok (.return_, 1) := by decide +kernel
theorem dX4_search_0 : decode cX4_search 0 = .ok (.aload_n 0, 1) := by decide +kernel
theorem dX4_search_1 : decode cX4_search 1 = .ok (.aload_n 3, 1) := by decide +kernel
theorem dX4_search_2 : decode cX4_search 2 = .ok (.getfield 19, 3) := by decide +kernel
theorem dX4_search_5 : decode cX4_search 5 = .ok (.putfield 25, 3) := by decide +kernel
theorem dX4_search_8 : decode cX4_search 8 = .ok (.aload_n 2, 1) := by decide +kernel
theorem dX4_search_9 : decode cX4_search 9 = .ok (.invokevirtual 28, 3) := by decide +kernel
theorem dX4_search_12 : decode cX4_search 12 = .ok (.istore 4, 2) := by decide +kernel
theorem dX4_search_14 : decode cX4_search 14 = .ok (.iload 4, 2) := by decide +kernel
theorem dX4_search_16 : decode cX4_search 16 = .ok (.ifCond .lt 72, 3) := by decide +kernel
theorem dX4_search_19 : decode cX4_search 19 = .ok (.iload 4, 2) := by decide +kernel
theorem dX4_search_21 : decode cX4_search 21 = .ok (.aload_n 0, 1) := by decide +kernel
theorem dX4_search_22 : decode cX4_search 22 = .ok (.getfield 25, 3) := by decide +kernel
theorem dX4_search_25 : decode cX4_search 25 = .ok (.invokestatic 34, 3) := by decide +kernel
theorem dX4_search_28 : decode cX4_search 28 = .ok (.ifCond .eq 54, 3) := by decide +kernel
theorem dX4_search_31 : decode cX4_search 31 = .ok (.aload_n 0, 1) := by decide +kernel
theorem dX4_search_32 : decode cX4_search 32 = .ok (.aload_n 2, 1) := by decide +kernel
theorem dX4_search_33 : decode cX4_search 33 = .ok (.iload 4, 2) := by decide +kernel
theorem dX4_search_35 : decode cX4_search 35 = .ok (.invokevirtual 38, 3) := by decide +kernel
theorem dX4_search_38 : decode cX4_search 38 = .ok (.aload_n 1, 1) := by decide +kernel
theorem dX4_search_39 : decode cX4_search 39 = .ok (.aload_n 3, 1) := by decide +kernel
theorem dX4_search_40 : decode cX4_search 40 = .ok (.aload_n 1, 1) := by decide +kernel
theorem dX4_search_41 : decode cX4_search 41 = .ok (.aload_n 2, 1) := by decide +kernel
theorem dX4_search_42 : decode cX4_search 42 = .ok (.aload_n 3, 1) := by decide +kernel
theorem dX4_search_43 : decode cX4_search 43 = .ok (.iload 4, 2) := by decide +kernel
theorem dX4_search_45 : decode cX4_search 45 = .ok (.invokestatic 42, 3) := by decide +kernel
theorem dX4_search_48 : decode cX4_search 48 = .ok (.invokestatic 46, 3) := by decide +kernel
theorem dX4_search_51 : decode cX4_search 51 = .ok (.lstore 5, 2) := by decide +kernel
theorem dX4_search_53 : decode cX4_search 53 = .ok (.aload_n 0, 1) := by decide +kernel
theorem dX4_search_54 : decode cX4_search 54 = .ok (.getfield 9, 3) := by decide +kernel
theorem dX4_search_57 : decode cX4_search 57 = .ok (.iload 4, 2) := by decide +kernel
theorem dX4_search_59 : decode cX4_search 59 = .ok (.aload_n 0, 1) := by decide +kernel
theorem dX4_search_60 : decode cX4_search 60 = .ok (.invokevirtual 50, 3) := by decide +kernel
theorem dX4_search_63 : decode cX4_search 63 = .ok (.ifCond .eq 13, 3) := by decide +kernel
theorem dX4_search_66 : decode cX4_search 66 = .ok (.lload 5, 2) := by decide +kernel
theorem dX4_search_68 : decode cX4_search 68 = .ok (.aload_n 0, 1) := by decide +kernel
theorem dX4_search_69 : decode cX4_search 69 = .ok (.getfield 54, 3) := by decide +kernel
theorem dX4_search_72 : decode cX4_search 72 = .ok (.ladd, 1) := by decide +kernel
theorem dX4_search_73 : decode cX4_search 73 = .ok (.goto 6, 3) := by decide +kernel
theorem dX4_search_76 : decode cX4_search 76 = .ok (.ldc2_w 58, 3) := by decide +kernel
theorem dX4_search_79 : decode cX4_search 79 = .ok (.invokestatic 60, 3) := by decide +kernel
theorem dX4_search_82 : decode cX4_search 82 = .ok (.iinc 4 (-1), 3) := by decide +kernel
theorem dX4_search_85 : decode cX4_search 85 = .ok (.goto (-71), 3) := by decide +kernel
theorem dX4_search_88 : decode cX4_search 88 = .ok (.return_, 1) := by decide +kernel
theorem dX4_isThere_0 : decode cX4_isThere 0 = .ok (.aload_n 0, 1) := by decide +kernel
theorem dX4_isThere_1 : decode cX4_isThere 1 = .ok (.getfield 54, 3) := by decide +kernel
theorem dX4_isThere_4 : decode cX4_isThere 4 = .ok (.ldc2_w 58, 3) := by decide +kernel
theorem dX4_isThere_7 : decode cX4_isThere 7 = .ok (.lcmp, 1) := by decide +kernel
theorem dX4_isThere_8 : decode cX4_isThere 8 = .ok (.ifCond .eq 7, 3) := by decide +kernel
theorem dX4_isThere_11 : decode cX4_isThere 11 = .ok (.iconst 1, 1) := by decide +kernel
theorem dX4_isThere_12 : decode cX4_isThere 12 = .ok (.goto 4, 3) := by decide +kernel
theorem dX4_isThere_15 : decode cX4_isThere 15 = .ok (.iconst 0, 1) := by decide +kernel
theorem dX4_isThere_16 : decode cX4_isThere 16 = .ok (.ireturn, 1) := by decide +kernel
theorem dX4_most_0 : decode cX4_most 0 = .ok (.aload_n 0, 1) := by decide +kernel
theorem dX4_most_1 : decode cX4_most 1 = .ok (.getfield 54, 3) := by decide +kernel
theorem dX4_most_4 : decode cX4_most 4 = .ok (.lreturn, 1) := by decide +kernel
theorem dX4_manAt_0 : decode cX4_manAt 0 = .ok (.aload_n 0, 1) := by decide +kernel
theorem dX4_manAt_1 : decode cX4_manAt 1 = .ok (.getfield 25, 3) := by decide +kernel
theorem dX4_manAt_4 : decode cX4_manAt 4 = .ok (.istore_n 2, 1) := by decide +kernel
theorem dX4_manAt_5 : decode cX4_manAt 5 = .ok (.iconst (-1), 1) := by decide +kernel
theorem dX4_manAt_6 : decode cX4_manAt 6 = .ok (.istore_n 3, 1) := by decide +kernel
theorem dX4_manAt_7 : decode cX4_manAt 7 = .ok (.iconst 0, 1) := by decide +kernel
theorem dX4_manAt_8 : decode cX4_manAt 8 = .ok (.istore 4, 2) := by decide +kernel
theorem dX4_manAt_10 : decode cX4_manAt 10 = .ok (.iload 4, 2) := by decide +kernel
theorem dX4_manAt_12 : decode cX4_manAt 12 = .ok (.iload_n 1, 1) := by decide +kernel
theorem dX4_manAt_13 : decode cX4_manAt 13 = .ok (.if_icmp .gt 31, 3) := by decide +kernel
theorem dX4_manAt_16 : decode cX4_manAt 16 = .ok (.aload_n 0, 1) := by decide +kernel
theorem dX4_manAt_17 : decode cX4_manAt 17 = .ok (.getfield 15, 3) := by decide +kernel
theorem dX4_manAt_20 : decode cX4_manAt 20 = .ok (.iload_n 2, 1) := by decide +kernel
theorem dX4_manAt_21 : decode cX4_manAt 21 = .ok (.invokestatic 64, 3) := by decide +kernel
theorem dX4_manAt_24 : decode cX4_manAt 24 = .ok (.istore_n 3, 1) := by decide +kernel
theorem dX4_manAt_25 : decode cX4_manAt 25 = .ok (.iload_n 3, 1) := by decide +kernel
theorem dX4_manAt_26 : decode cX4_manAt 26 = .ok (.iconst (-1), 1) := by decide +kernel
theorem dX4_manAt_27 : decode cX4_manAt 27 = .ok (.if_icmp .ne 5, 3) := by decide +kernel
theorem dX4_manAt_30 : decode cX4_manAt 30 = .ok (.iconst (-1), 1) := by decide +kernel
theorem dX4_manAt_31 : decode cX4_manAt 31 = .ok (.ireturn, 1) := by decide +kernel
theorem dX4_manAt_32 : decode cX4_manAt 32 = .ok (.iload_n 2, 1) := by decide +kernel
theorem dX4_manAt_33 : decode cX4_manAt 33 = .ok (.iload_n 3, 1) := by decide +kernel
theorem dX4_manAt_34 : decode cX4_manAt 34 = .ok (.invokestatic 68, 3) := by decide +kernel
theorem dX4_manAt_37 : decode cX4_manAt 37 = .ok (.istore_n 2, 1) := by decide +kernel
theorem dX4_manAt_38 : decode cX4_manAt 38 = .ok (.iinc 4 1, 3) := by decide +kernel
theorem dX4_manAt_41 : decode cX4_manAt 41 = .ok (.goto (-31), 3) := by decide +kernel
theorem dX4_manAt_44 : decode cX4_manAt 44 = .ok (.iload_n 3, 1) := by decide +kernel
theorem dX4_manAt_45 : decode cX4_manAt 45 = .ok (.ireturn, 1) := by decide +kernel
theorem dX4_findNext_0 : decode cX4_findNext 0 = .ok (.aload_n 0, 1) := by decide +kernel
theorem dX4_findNext_1 : decode cX4_findNext 1 = .ok (.iload_n 2, 1) := by decide +kernel
theorem dX4_findNext_2 : decode cX4_findNext 2 = .ok (.aload_n 1, 1) := by decide +kernel
theorem dX4_findNext_3 : decode cX4_findNext 3 = .ok (.invokevirtual 28, 3) := by decide +kernel
theorem dX4_findNext_6 : decode cX4_findNext 6 = .ok (.if_icmp .ne 7, 3) := by decide +kernel
theorem dX4_findNext_9 : decode cX4_findNext 9 = .ok (.lconst 0, 1) := by decide +kernel
theorem dX4_findNext_10 : decode cX4_findNext 10 = .ok (.goto 6, 3) := by decide +kernel
theorem dX4_findNext_13 : decode cX4_findNext 13 = .ok (.ldc2_w 58, 3) := by decide +kernel
theorem dX4_findNext_16 : decode cX4_findNext 16 = .ok (.putfield 54, 3) := by decide +kernel
theorem dX4_findNext_19 : decode cX4_findNext 19 = .ok (.aload_n 0, 1) := by decide +kernel
theorem dX4_findNext_20 : decode cX4_findNext 20 = .ok (.getfield 15, 3) := by decide +kernel
theorem dX4_findNext_23 : decode cX4_findNext 23 = .ok (.iload_n 2, 1) := by decide +kernel
theorem dX4_findNext_24 : decode cX4_findNext 24 = .ok (.iconst (-1), 1) := by decide +kernel
theorem dX4_findNext_25 : decode cX4_findNext 25 = .ok (.invokestatic 72, 3) := by decide +kernel
theorem dX4_findNext_28 : decode cX4_findNext 28 = .ok (.iconst 0, 1) := by decide +kernel
theorem dX4_findNext_29 : decode cX4_findNext 29 = .ok (.istore_n 3, 1) := by decide +kernel
theorem dX4_findNext_30 : decode cX4_findNext 30 = .ok (.iload_n 3, 1) := by decide +kernel
theorem dX4_findNext_31 : decode cX4_findNext 31 = .ok (.aload_n 1, 1) := by decide +kernel
theorem dX4_findNext_32 : decode cX4_findNext 32 = .ok (.getfield 75, 3) := by decide +kernel
theorem dX4_findNext_35 : decode cX4_findNext 35 = .ok (.if_icmp .ge 68, 3) := by decide +kernel
theorem dX4_findNext_38 : decode cX4_findNext 38 = .ok (.iload_n 2, 1) := by decide +kernel
theorem dX4_findNext_39 : decode cX4_findNext 39 = .ok (.iload_n 3, 1) := by decide +kernel
theorem dX4_findNext_40 : decode cX4_findNext 40 = .ok (.invokestatic 78, 3) := by decide +kernel
theorem dX4_findNext_43 : decode cX4_findNext 43 = .ok (.ifCond .ne 54, 3) := by decide +kernel
theorem dX4_findNext_46 : decode cX4_findNext 46 = .ok (.iload_n 2, 1) := by decide +kernel
theorem dX4_findNext_47 : decode cX4_findNext 47 = .ok (.aload_n 1, 1) := by decide +kernel
theorem dX4_findNext_48 : decode cX4_findNext 48 = .ok (.iload_n 3, 1) := by decide +kernel
theorem dX4_findNext_49 : decode cX4_findNext 49 = .ok (.invokevirtual 81, 3) := by decide +kernel
theorem dX4_findNext_52 : decode cX4_findNext 52 = .ok (.invokestatic 34, 3) := by decide +kernel
theorem dX4_findNext_55 : decode cX4_findNext 55 = .ok (.ifCond .eq 42, 3) := by decide +kernel
theorem dX4_findNext_58 : decode cX4_findNext 58 = .ok (.aload_n 0, 1) := by decide +kernel
theorem dX4_findNext_59 : decode cX4_findNext 59 = .ok (.getfield 9, 3) := by decide +kernel
theorem dX4_findNext_62 : decode cX4_findNext 62 = .ok (.iload_n 2, 1) := by decide +kernel
theorem dX4_findNext_63 : decode cX4_findNext 63 = .ok (.iload_n 3, 1) := by decide +kernel
theorem dX4_findNext_64 : decode cX4_findNext 64 = .ok (.invokestatic 68, 3) := by decide +kernel
theorem dX4_findNext_67 : decode cX4_findNext 67 = .ok (.invokestatic 85, 3) := by decide +kernel
theorem dX4_findNext_70 : decode cX4_findNext 70 = .ok (.lstore 4, 2) := by decide +kernel
theorem dX4_findNext_72 : decode cX4_findNext 72 = .ok (.lload 4, 2) := by decide +kernel
theorem dX4_findNext_74 : decode cX4_findNext 74 = .ok (.aload_n 0, 1) := by decide +kernel
theorem dX4_findNext_75 : decode cX4_findNext 75 = .ok (.getfield 54, 3) := by decide +kernel
theorem dX4_findNext_78 : decode cX4_findNext 78 = .ok (.lcmp, 1) := by decide +kernel
theorem dX4_findNext_79 : decode cX4_findNext 79 = .ok (.ifCond .le 18, 3) := by decide +kernel
theorem dX4_findNext_82 : decode cX4_findNext 82 = .ok (.aload_n 0, 1) := by decide +kernel
theorem dX4_findNext_83 : decode cX4_findNext 83 = .ok (.lload 4, 2) := by decide +kernel
theorem dX4_findNext_85 : decode cX4_findNext 85 = .ok (.putfield 54, 3) := by decide +kernel
theorem dX4_findNext_88 : decode cX4_findNext 88 = .ok (.aload_n 0, 1) := by decide +kernel
theorem dX4_findNext_89 : decode cX4_findNext 89 = .ok (.getfield 15, 3) := by decide +kernel
theorem dX4_findNext_92 : decode cX4_findNext 92 = .ok (.iload_n 2, 1) := by decide +kernel
theorem dX4_findNext_93 : decode cX4_findNext 93 = .ok (.iload_n 3, 1) := by decide +kernel
theorem dX4_findNext_94 : decode cX4_findNext 94 = .ok (.invokestatic 72, 3) := by decide +kernel
theorem dX4_findNext_97 : decode cX4_findNext 97 = .ok (.iinc 3 1, 3) := by decide +kernel
theorem dX4_findNext_100 : decode cX4_findNext 100 = .ok (.goto (-70), 3) := by decide +kernel
theorem dX4_findNext_103 : decode cX4_findNext 103 = .ok (.return_, 1) := by decide +kernel
theorem dX4_minuteWith_0 : decode cX4_minuteWith 0 = .ok (.aload_n 2, 1) := by decide +kernel
theorem dX4_minuteWith_1 : decode cX4_minuteWith 1 = .ok (.getfield 88, 3) := by decide +kernel
theorem dX4_minuteWith_4 : decode cX4_minuteWith 4 = .ok (.istore 4, 2) := by decide +kernel
theorem dX4_minuteWith_6 : decode cX4_minuteWith 6 = .ok (.iconst 0, 1) := by decide +kernel
theorem dX4_minuteWith_7 : decode cX4_minuteWith 7 = .ok (.istore 5, 2) := by decide +kernel
theorem dX4_minuteWith_9 : decode cX4_minuteWith 9 = .ok (.iload 5, 2) := by decide +kernel
theorem dX4_minuteWith_11 : decode cX4_minuteWith 11 = .ok (.aload_n 1, 1) := by decide +kernel
theorem dX4_minuteWith_12 : decode cX4_minuteWith 12 = .ok (.getfield 75, 3) := by decide +kernel
theorem dX4_minuteWith_15 : decode cX4_minuteWith 15 = .ok (.if_icmp .ge 49, 3) := by decide +kernel
theorem dX4_minuteWith_18 : decode cX4_minuteWith 18 = .ok (.iload_n 3, 1) := by decide +kernel
theorem dX4_minuteWith_19 : decode cX4_minuteWith 19 = .ok (.iload 5, 2) := by decide +kernel
theorem dX4_minuteWith_21 : decode cX4_minuteWith 21 = .ok (.invokestatic 78, 3) := by decide +kernel
theorem dX4_minuteWith_24 : decode cX4_minuteWith 24 = .ok (.ifCond .eq 34, 3) := by decide +kernel
theorem dX4_minuteWith_27 : decode cX4_minuteWith 27 = .ok (.aload_n 2, 1) := by decide +kernel
theorem dX4_minuteWith_28 : decode cX4_minuteWith 28 = .ok (.getfield 19, 3) := by decide +kernel
theorem dX4_minuteWith_31 : decode cX4_minuteWith 31 = .ok (.iload 5, 2) := by decide +kernel
theorem dX4_minuteWith_33 : decode cX4_minuteWith 33 = .ok (.invokestatic 78, 3) := by decide +kernel
theorem dX4_minuteWith_36 : decode cX4_minuteWith 36 = .ok (.ifCond .ne 22, 3) := by decide +kernel
theorem dX4_minuteWith_39 : decode cX4_minuteWith 39 = .ok (.iload 4, 2) := by decide +kernel
theorem dX4_minuteWith_41 : decode cX4_minuteWith 41 = .ok (.aload_n 1, 1) := by decide +kernel
theorem dX4_minuteWith_42 : decode cX4_minuteWith 42 = .ok (.iload 5, 2) := by decide +kernel
theorem dX4_minuteWith_44 : decode cX4_minuteWith 44 = .ok (.aload_n 0, 1) := by decide +kernel
theorem dX4_minuteWith_45 : decode cX4_minuteWith 45 = .ok (.getfield 91, 3) := by decide +kernel
theorem dX4_minuteWith_48 : decode cX4_minuteWith 48 = .ok (.aload_n 2, 1) := by decide +kernel
theorem dX4_minuteWith_49 : decode cX4_minuteWith 49 = .ok (.getfield 96, 3) := by decide +kernel
theorem dX4_minuteWith_52 : decode cX4_minuteWith 52 = .ok (.invokevirtual 99, 3) := by decide +kernel
theorem dX4_minuteWith_55 : decode cX4_minuteWith 55 = .ok (.iadd, 1) := by decide +kernel
theorem dX4_minuteWith_56 : decode cX4_minuteWith 56 = .ok (.istore 4, 2) := by decide +kernel
theorem dX4_minuteWith_58 : decode cX4_minuteWith 58 = .ok (.iinc 5 1, 3) := by decide +kernel
theorem dX4_minuteWith_61 : decode cX4_minuteWith 61 = .ok (.goto (-52), 3) := by decide +kernel
theorem dX4_minuteWith_64 : decode cX4_minuteWith 64 = .ok (.iload 4, 2) := by decide +kernel
theorem dX4_minuteWith_66 : decode cX4_minuteWith 66 = .ok (.ireturn, 1) := by decide +kernel
theorem dX4_holding_0 : decode cX4_holding 0 = .ok (.ldc2_w 103, 3) := by decide +kernel
theorem dX4_holding_3 : decode cX4_holding 3 = .ok (.lstore_n 3, 1) := by decide +kernel
theorem dX4_holding_4 : decode cX4_holding 4 = .ok (.aload_n 1, 1) := by decide +kernel
theorem dX4_holding_5 : decode cX4_holding 5 = .ok (.invokevirtual 105, 3) := by decide +kernel
theorem dX4_holding_8 : decode cX4_holding 8 = .ok (.istore 5, 2) := by decide +kernel
theorem dX4_holding_10 : decode cX4_holding 10 = .ok (.iload 5, 2) := by decide +kernel
theorem dX4_holding_12 : decode cX4_holding 12 = .ok (.aload_n 0, 1) := by decide +kernel
theorem dX4_holding_13 : decode cX4_holding 13 = .ok (.getfield 108, 3) := by decide +kernel
theorem dX4_holding_16 : decode cX4_holding 16 = .ok (.if_icmp .ge 38, 3) := by decide +kernel
theorem dX4_holding_19 : decode cX4_holding 19 = .ok (.iload 5, 2) := by decide +kernel
theorem dX4_holding_21 : decode cX4_holding 21 = .ok (.iconst 1, 1) := by decide +kernel
theorem dX4_holding_22 : decode cX4_holding 22 = .ok (.iadd, 1) := by decide +kernel
theorem dX4_holding_23 : decode cX4_holding 23 = .ok (.iconst 5, 1) := by decide +kernel
theorem dX4_holding_24 : decode cX4_holding 24 = .ok (.imul, 1) := by decide +kernel
theorem dX4_holding_25 : decode cX4_holding 25 = .ok (.iload_n 2, 1) := by decide +kernel
theorem dX4_holding_26 : decode cX4_holding 26 = .ok (.if_icmp .le 5, 3) := by decide +kernel
theorem dX4_holding_29 : decode cX4_holding 29 = .ok (.lload_n 3, 1) := by decide +kernel
theorem dX4_holding_30 : decode cX4_holding 30 = .ok (.lreturn, 1) := by decide +kernel
theorem dX4_holding_31 : decode cX4_holding 31 = .ok (.lload_n 3, 1) := by decide +kernel
theorem dX4_holding_32 : decode cX4_holding 32 = .ok (.ldc2_w 111, 3) := by decide +kernel
theorem dX4_holding_35 : decode cX4_holding 35 = .ok (.ldiv, 1) := by decide +kernel
theorem dX4_holding_36 : decode cX4_holding 36 = .ok (.bipush 10, 2) := by decide +kernel
theorem dX4_holding_38 : decode cX4_holding 38 = .ok (.aload_n 0, 1) := by decide +kernel
theorem dX4_holding_39 : decode cX4_holding 39 = .ok (.iload 5, 2) := by decide +kernel
theorem dX4_holding_41 : decode cX4_holding 41 = .ok (.invokevirtual 113, 3) := by decide +kernel
theorem dX4_holding_44 : decode cX4_holding 44 = .ok (.isub, 1) := by decide +kernel
theorem dX4_holding_45 : decode cX4_holding 45 = .ok (.i2l, 1) := by decide +kernel
theorem dX4_holding_46 : decode cX4_holding 46 = .ok (.lmul, 1) := by decide +kernel
theorem dX4_holding_47 : decode cX4_holding 47 = .ok (.lstore_n 3, 1) := by decide +kernel
theorem dX4_holding_48 : decode cX4_holding 48 = .ok (.iinc 5 1, 3) := by decide +kernel
theorem dX4_holding_51 : decode cX4_holding 51 = .ok (.goto (-41), 3) := by decide +kernel
theorem dX4_holding_54 : decode cX4_holding 54 = .ok (.lconst 0, 1) := by decide +kernel
theorem dX4_holding_55 : decode cX4_holding 55 = .ok (.lreturn, 1) := by decide +kernel
theorem dX5_init_0 : decode cX5_init 0 = .ok (.aload_n 0, 1) := by decide +kernel
theorem dX5_init_1 : decode cX5_init 1 = .ok (.invokespecial 3, 3) := by decide +kernel
theorem dX5_init_4 : decode cX5_init 4 = .ok (.aload_n 0, 1) := by decide +kernel
theorem dX5_init_5 : decode cX5_init 5 = .ok (.bipush 22, 2) := by decide +kernel
theorem dX5_init_7 : decode cX5_init 7 = .ok (.newarray .int, 2) := by decide +kernel
theorem dX5_init_9 : decode cX5_init 9 = .ok (.putfield 9, 3) := by decide +kernel
theorem dX5_init_12 : decode cX5_init 12 = .ok (.return_, 1) := by decide +kernel
theorem dX5_add_0 : decode cX5_add 0 = .ok (.aload_n 0, 1) := by decide +kernel
theorem dX5_add_1 : decode cX5_add 1 = .ok (.getfield 9, 3) := by decide +kernel
theorem dX5_add_4 : decode cX5_add 4 = .ok (.aload_n 0, 1) := by decide +kernel
theorem dX5_add_5 : decode cX5_add 5 = .ok (.getfield 15, 3) := by decide +kernel
theorem dX5_add_8 : decode cX5_add 8 = .ok (.iload_n 1, 1) := by decide +kernel
theorem dX5_add_9 : decode cX5_add 9 = .ok (.invokestatic 19, 3) := by decide +kernel
theorem dX5_add_12 : decode cX5_add 12 = .ok (.aload_n 0, 1) := by decide +kernel
theorem dX5_add_13 : decode cX5_add 13 = .ok (.dup, 1) := by decide +kernel
theorem dX5_add_14 : decode cX5_add 14 = .ok (.getfield 15, 3) := by decide +kernel
theorem dX5_add_17 : decode cX5_add 17 = .ok (.iconst 1, 1) := by decide +kernel
theorem dX5_add_18 : decode cX5_add 18 = .ok (.iadd, 1) := by decide +kernel
theorem dX5_add_19 : decode cX5_add 19 = .ok (.putfield 15, 3) := by decide +kernel
theorem dX5_add_22 : decode cX5_add 22 = .ok (.return_, 1) := by decide +kernel
theorem dX5_clear_0 : decode cX5_clear 0 = .ok (.aload_n 0, 1) := by decide +kernel
theorem dX5_clear_1 : decode cX5_clear 1 = .ok (.iconst 0, 1) := by decide +kernel
theorem dX5_clear_2 : decode cX5_clear 2 = .ok (.putfield 15, 3) := by decide +kernel
theorem dX5_clear_5 : decode cX5_clear 5 = .ok (.return_, 1) := by decide +kernel
theorem dX5_letterAt_0 : decode cX5_letterAt 0 = .ok (.aload_n 0, 1) := by decide +kernel
theorem dX5_letterAt_1 : decode cX5_letterAt 1 = .ok (.getfield 9, 3) := by decide +kernel
theorem dX5_letterAt_4 : decode cX5_letterAt 4 = .ok (.iload_n 1, 1) := by decide +kernel
theorem dX5_letterAt_5 : decode cX5_letterAt 5 = .ok (.invokestatic 23, 3) := by decide +kernel
theorem dX5_letterAt_8 : decode cX5_letterAt 8 = .ok (.ireturn, 1) := by decide +kernel
theorem dX5_digitAt_0 : decode cX5_digitAt 0 = .ok (.aload_n 0, 1) := by decide +kernel
theorem dX5_digitAt_1 : decode cX5_digitAt 1 = .ok (.getfield 9, 3) := by decide +kernel
theorem dX5_digitAt_4 : decode cX5_digitAt 4 = .ok (.iload_n 1, 1) := by decide +kernel
theorem dX5_digitAt_5 : decode cX5_digitAt 5 = .ok (.invokestatic 23, 3) := by decide +kernel
theorem dX5_digitAt_8 : decode cX5_digitAt 8 = .ok (.bipush 48, 2) := by decide +kernel
theorem dX5_digitAt_10 : decode cX5_digitAt 10 = .ok (.isub, 1) := by decide +kernel
theorem dX5_digitAt_11 : decode cX5_digitAt 11 = .ok (.ireturn, 1) := by decide +kernel
theorem dX5_isNight_0 : decode cX5_isNight 0 = .ok (.aload_n 0, 1) := by decide +kernel
theorem dX5_isNight_1 : decode cX5_isNight 1 = .ok (.getfield 15, 3) := by decide +kernel
theorem dX5_isNight_4 : decode cX5_isNight 4 = .ok (.bipush 9, 2) := by decide +kernel
theorem dX5_isNight_6 : decode cX5_isNight 6 = .ok (.if_icmp .le 18, 3) := by decide +kernel
theorem dX5_isNight_9 : decode cX5_isNight 9 = .ok (.aload_n 0, 1) := by decide +kernel
theorem dX5_isNight_10 : decode cX5_isNight 10 = .ok (.invokevirtual 27, 3) := by decide +kernel
theorem dX5_isNight_13 : decode cX5_isNight 13 = .ok (.aload_n 0, 1) := by decide +kernel
theorem dX5_isNight_14 : decode cX5_isNight 14 = .ok (.getfield 15, 3) := by decide +kernel
theorem dX5_isNight_17 : decode cX5_isNight 17 = .ok (.if_icmp .ne 7, 3) := by decide +kernel
theorem dX5_isNight_20 : decode cX5_isNight 20 = .ok (.iconst 1, 1) := by decide +kernel
theorem dX5_isNight_21 : decode cX5_isNight 21 = .ok (.goto 4, 3) := by decide +kernel
theorem dX5_isNight_24 : decode cX5_isNight 24 = .ok (.iconst 0, 1) := by decide +kernel
theorem dX5_isNight_25 : decode cX5_isNight 25 = .ok (.ireturn, 1) := by decide +kernel
theorem dX5_faultPlace_0 : decode cX5_faultPlace 0 = .ok (.iconst 0, 1) := by decide +kernel
theorem dX5_faultPlace_1 : decode cX5_faultPlace 1 = .ok (.istore_n 1, 1) := by decide +kernel
theorem dX5_faultPlace_2 : decode cX5_faultPlace 2 = .ok (.iload_n 1, 1) := by decide +kernel
theorem dX5_faultPlace_3 : decode cX5_faultPlace 3 = .ok (.aload_n 0, 1) := by decide +kernel
theorem dX5_faultPlace_4 : decode cX5_faultPlace 4 = .ok (.getfield 15, 3) := by decide +kernel
theorem dX5_faultPlace_7 : decode cX5_faultPlace 7 = .ok (.if_icmp .ge 19, 3) := by decide +kernel
theorem dX5_faultPlace_10 : decode cX5_faultPlace 10 = .ok (.aload_n 0, 1) := by decide +kernel
theorem dX5_faultPlace_11 : decode cX5_faultPlace 11 = .ok (.iload_n 1, 1) := by decide +kernel
theorem dX5_faultPlace_12 : decode cX5_faultPlace 12 = .ok (.invokevirtual 31, 3) := by decide +kernel
theorem dX5_faultPlace_15 : decode cX5_faultPlace 15 = .ok (.ifCond .ne 5, 3) := by decide +kernel
theorem dX5_faultPlace_18 : decode cX5_faultPlace 18 = .ok (.iload_n 1, 1) := by decide +kernel
theorem dX5_faultPlace_19 : decode cX5_faultPlace 19 = .ok (.ireturn, 1) := by decide +kernel
theorem dX5_faultPlace_20 : decode cX5_faultPlace 20 = .ok (.iinc 1 1, 3) := by decide +kernel
theorem dX5_faultPlace_23 : decode cX5_faultPlace 23 = .ok (.goto (-21), 3) := by decide +kernel
theorem dX5_faultPlace_26 : decode cX5_faultPlace 26 = .ok (.aload_n 0, 1) := by decide +kernel
theorem dX5_faultPlace_27 : decode cX5_faultPlace 27 = .ok (.getfield 15, 3) := by decide +kernel
theorem dX5_faultPlace_30 : decode cX5_faultPlace 30 = .ok (.ireturn, 1) := by decide +kernel
theorem dX5_fits_0 : decode cX5_fits 0 = .ok (.iload_n 1, 1) := by decide +kernel
theorem dX5_fits_1 : decode cX5_fits 1 = .ok (.iconst 2, 1) := by decide +kernel
theorem dX5_fits_2 : decode cX5_fits 2 = .ok (.if_icmp .eq 14, 3) := by decide +kernel
theorem dX5_fits_5 : decode cX5_fits 5 = .ok (.iload_n 1, 1) := by decide +kernel
theorem dX5_fits_6 : decode cX5_fits 6 = .ok (.iconst 4, 1) := by decide +kernel
theorem dX5_fits_7 : decode cX5_fits 7 = .ok (.if_icmp .eq 9, 3) := by decide +kernel
theorem dX5_fits_10 : decode cX5_fits 10 = .ok (.iload_n 1, 1) := by decide +kernel
theorem dX5_fits_11 : decode cX5_fits 11 = .ok (.bipush 8, 2) := by decide +kernel
theorem dX5_fits_13 : decode cX5_fits 13 = .ok (.if_icmp .ne 19, 3) := by decide +kernel
theorem dX5_fits_16 : decode cX5_fits 16 = .ok (.aload_n 0, 1) := by decide +kernel
theorem dX5_fits_17 : decode cX5_fits 17 = .ok (.iload_n 1, 1) := by decide +kernel
theorem dX5_fits_18 : decode cX5_fits 18 = .ok (.invokevirtual 35, 3) := by decide +kernel
theorem dX5_fits_21 : decode cX5_fits 21 = .ok (.bipush 58, 2) := by decide +kernel
theorem dX5_fits_23 : decode cX5_fits 23 = .ok (.if_icmp .ne 7, 3) := by decide +kernel
theorem dX5_fits_26 : decode cX5_fits 26 = .ok (.iconst 1, 1) := by decide +kernel
theorem dX5_fits_27 : decode cX5_fits 27 = .ok (.goto 4, 3) := by decide +kernel
theorem dX5_fits_30 : decode cX5_fits 30 = .ok (.iconst 0, 1) := by decide +kernel
theorem dX5_fits_31 : decode cX5_fits 31 = .ok (.ireturn, 1) := by decide +kernel
theorem dX5_fits_32 : decode cX5_fits 32 = .ok (.aload_n 0, 1) := by decide +kernel
theorem dX5_fits_33 : decode cX5_fits 33 = .ok (.iload_n 1, 1) := by decide +kernel
theorem dX5_fits_34 : decode cX5_fits 34 = .ok (.invokevirtual 39, 3) := by decide +kernel
theorem dX5_fits_37 : decode cX5_fits 37 = .ok (.iconst 0, 1) := by decide +kernel
theorem dX5_fits_38 : decode cX5_fits 38 = .ok (.bipush 9, 2) := by decide +kernel
theorem dX5_fits_40 : decode cX5_fits 40 = .ok (.invokestatic 42, 3) := by decide +kernel
theorem dX5_fits_43 : decode cX5_fits 43 = .ok (.ifCond .eq 5, 3) := by decide +kernel
theorem dX5_fits_46 : decode cX5_fits 46 = .ok (.iconst 0, 1) := by decide +kernel
theorem dX5_fits_47 : decode cX5_fits 47 = .ok (.ireturn, 1) := by decide +kernel
theorem dX5_fits_48 : decode cX5_fits 48 = .ok (.iload_n 1, 1) := by decide +kernel
theorem dX5_fits_49 : decode cX5_fits 49 = .ok (.lookupswitch 81 #[(0, 35), (6, 49), (7, 65)], 35) := by decide +kernel
theorem dX5_fits_84 : decode cX5_fits 84 = .ok (.aload_n 0, 1) := by decide +kernel
theorem dX5_fits_85 : decode cX5_fits 85 = .ok (.iconst 0, 1) := by decide +kernel
theorem dX5_fits_86 : decode cX5_fits 86 = .ok (.invokevirtual 39, 3) := by decide +kernel
theorem dX5_fits_89 : decode cX5_fits 89 = .ok (.ifCond .eq 7, 3) := by decide +kernel
theorem dX5_fits_92 : decode cX5_fits 92 = .ok (.iconst 1, 1) := by decide +kernel
theorem dX5_fits_93 : decode cX5_fits 93 = .ok (.goto 4, 3) := by decide +kernel
theorem dX5_fits_96 : decode cX5_fits 96 = .ok (.iconst 0, 1) := by decide +kernel
theorem dX5_fits_97 : decode cX5_fits 97 = .ok (.ireturn, 1) := by decide +kernel
theorem dX5_fits_98 : decode cX5_fits 98 = .ok (.aload_n 0, 1) := by decide +kernel
theorem dX5_fits_99 : decode cX5_fits 99 = .ok (.iload_n 1, 1) := by decide +kernel
theorem dX5_fits_100 : decode cX5_fits 100 = .ok (.invokevirtual 46, 3) := by decide +kernel
theorem dX5_fits_103 : decode cX5_fits 103 = .ok (.bipush 10, 2) := by decide +kernel
theorem dX5_fits_105 : decode cX5_fits 105 = .ok (.if_icmp .gt 7, 3) := by decide +kernel
theorem dX5_fits_108 : decode cX5_fits 108 = .ok (.iconst 1, 1) := by decide +kernel
theorem dX5_fits_109 : decode cX5_fits 109 = .ok (.goto 4, 3) := by decide +kernel
theorem dX5_fits_112 : decode cX5_fits 112 = .ok (.iconst 0, 1) := by decide +kernel
theorem dX5_fits_113 : decode cX5_fits 113 = .ok (.ireturn, 1) := by decide +kernel
theorem dX5_fits_114 : decode cX5_fits 114 = .ok (.aload_n 0, 1) := by decide +kernel
theorem dX5_fits_115 : decode cX5_fits 115 = .ok (.iload_n 1, 1) := by decide +kernel
theorem dX5_fits_116 : decode cX5_fits 116 = .ok (.invokevirtual 46, 3) := by decide +kernel
theorem dX5_fits_119 : decode cX5_fits 119 = .ok (.bipush 10, 2) := by decide +kernel
theorem dX5_fits_121 : decode cX5_fits 121 = .ok (.if_icmp .ne 7, 3) := by decide +kernel
theorem dX5_fits_124 : decode cX5_fits 124 = .ok (.iconst 1, 1) := by decide +kernel
theorem dX5_fits_125 : decode cX5_fits 125 = .ok (.goto 4, 3) := by decide +kernel
theorem dX5_fits_128 : decode cX5_fits 128 = .ok (.iconst 0, 1) := by decide +kernel
theorem dX5_fits_129 : decode cX5_fits 129 = .ok (.ireturn, 1) := by decide +kernel
theorem dX5_fits_130 : decode cX5_fits 130 = .ok (.iload_n 1, 1) := by decide +kernel
theorem dX5_fits_131 : decode cX5_fits 131 = .ok (.bipush 19, 2) := by decide +kernel
theorem dX5_fits_133 : decode cX5_fits 133 = .ok (.if_icmp .ge 7, 3) := by decide +kernel
theorem dX5_fits_136 : decode cX5_fits 136 = .ok (.iconst 1, 1) := by decide +kernel
theorem dX5_fits_137 : decode cX5_fits 137 = .ok (.goto 4, 3) := by decide +kernel
theorem dX5_fits_140 : decode cX5_fits 140 = .ok (.iconst 0, 1) := by decide +kernel
theorem dX5_fits_141 : decode cX5_fits 141 = .ok (.ireturn, 1) := by decide +kernel
theorem dX5_gustsTo_0 : decode cX5_gustsTo 0 = .ok (.iconst 0, 1) := by decide +kernel
theorem dX5_gustsTo_1 : decode cX5_gustsTo 1 = .ok (.istore_n 2, 1) := by decide +kernel
theorem dX5_gustsTo_2 : decode cX5_gustsTo 2 = .ok (.iconst 5, 1) := by decide +kernel
theorem dX5_gustsTo_3 : decode cX5_gustsTo 3 = .ok (.istore_n 3, 1) := by decide +kernel
theorem dX5_gustsTo_4 : decode cX5_gustsTo 4 = .ok (.iload_n 3, 1) := by decide +kernel
theorem dX5_gustsTo_5 : decode cX5_gustsTo 5 = .ok (.iload_n 1, 1) := by decide +kernel
theorem dX5_gustsTo_6 : decode cX5_gustsTo 6 = .ok (.if_icmp .gt 17, 3) := by decide +kernel
theorem dX5_gustsTo_9 : decode cX5_gustsTo 9 = .ok (.iload_n 2, 1) := by decide +kernel
theorem dX5_gustsTo_10 : decode cX5_gustsTo 10 = .ok (.aload_n 0, 1) := by decide +kernel
theorem dX5_gustsTo_11 : decode cX5_gustsTo 11 = .ok (.iload_n 3, 1) := by decide +kernel
theorem dX5_gustsTo_12 : decode cX5_gustsTo 12 = .ok (.invokevirtual 39, 3) := by decide +kernel
theorem dX5_gustsTo_15 : decode cX5_gustsTo 15 = .ok (.iadd, 1) := by decide +kernel
theorem dX5_gustsTo_16 : decode cX5_gustsTo 16 = .ok (.istore_n 2, 1) := by decide +kernel
theorem dX5_gustsTo_17 : decode cX5_gustsTo 17 = .ok (.iinc 3 1, 3) := by decide +kernel
theorem dX5_gustsTo_20 : decode cX5_gustsTo 20 = .ok (.goto (-16), 3) := by decide +kernel
theorem dX5_gustsTo_23 : decode cX5_gustsTo 23 = .ok (.iload_n 2, 1) := by decide +kernel
theorem dX5_gustsTo_24 : decode cX5_gustsTo 24 = .ok (.ireturn, 1) := by decide +kernel
theorem dX6_init_0 : decode cX6_init 0 = .ok (.aload_n 0, 1) := by decide +kernel
theorem dX6_init_1 : decode cX6_init 1 = .ok (.invokespecial 3, 3) := by decide +kernel
theorem dX6_init_4 : decode cX6_init 4 = .ok (.aload_n 0, 1) := by decide +kernel
theorem dX6_init_5 : decode cX6_init 5 = .ok (.bipush 6, 2) := by decide +kernel
theorem dX6_init_7 : decode cX6_init 7 = .ok (.newarray .int, 2) := by decide +kernel
theorem dX6_init_9 : decode cX6_init 9 = .ok (.putfield 9, 3) := by decide +kernel
theorem dX6_init_12 : decode cX6_init 12 = .ok (.aload_n 0, 1) := by decide +kernel
theorem dX6_init_13 : decode cX6_init 13 = .ok (.bipush 6, 2) := by decide +kernel
theorem dX6_init_15 : decode cX6_init 15 = .ok (.newarray .int, 2) := by decide +kernel
theorem dX6_init_17 : decode cX6_init 17 = .ok (.putfield 15, 3) := by decide +kernel
theorem dX6_init_20 : decode cX6_init 20 = .ok (.return_, 1) := by decide +kernel
theorem dX6_clear_0 : decode cX6_clear 0 = .ok (.aload_n 0, 1) := by decide +kernel
theorem dX6_clear_1 : decode cX6_clear 1 = .ok (.iconst 0, 1) := by decide +kernel
theorem dX6_clear_2 : decode cX6_clear 2 = .ok (.putfield 18, 3) := by decide +kernel
theorem dX6_clear_5 : decode cX6_clear 5 = .ok (.return_, 1) := by decide +kernel
theorem dX6_has_0 : decode cX6_has 0 = .ok (.iload_n 1, 1) := by decide +kernel
theorem dX6_has_1 : decode cX6_has 1 = .ok (.ifCond .lt 15, 3) := by decide +kernel
theorem dX6_has_4 : decode cX6_has 4 = .ok (.iload_n 1, 1) := by decide +kernel
theorem dX6_has_5 : decode cX6_has 5 = .ok (.aload_n 0, 1) := by decide +kernel
theorem dX6_has_6 : decode cX6_has 6 = .ok (.getfield 18, 3) := by decide +kernel
theorem dX6_has_9 : decode cX6_has 9 = .ok (.if_icmp .ge 7, 3) := by decide +kernel
theorem dX6_has_12 : decode cX6_has 12 = .ok (.iconst 1, 1) := by decide +kernel
theorem dX6_has_13 : decode cX6_has 13 = .ok (.goto 4, 3) := by decide +kernel
theorem dX6_has_16 : decode cX6_has 16 = .ok (.iconst 0, 1) := by decide +kernel
theorem dX6_has_17 : decode cX6_has 17 = .ok (.ireturn, 1) := by decide +kernel
theorem dX6_add_0 : decode cX6_add 0 = .ok (.aload_n 0, 1) := by decide +kernel
theorem dX6_add_1 : decode cX6_add 1 = .ok (.getfield 9, 3) := by decide +kernel
theorem dX6_add_4 : decode cX6_add 4 = .ok (.aload_n 0, 1) := by decide +kernel
theorem dX6_add_5 : decode cX6_add 5 = .ok (.getfield 18, 3) := by decide +kernel
theorem dX6_add_8 : decode cX6_add 8 = .ok (.iload_n 1, 1) := by decide +kernel
theorem dX6_add_9 : decode cX6_add 9 = .ok (.invokestatic 22, 3) := by decide +kernel
theorem dX6_add_12 : decode cX6_add 12 = .ok (.aload_n 0, 1) := by decide +kernel
theorem dX6_add_13 : decode cX6_add 13 = .ok (.getfield 15, 3) := by decide +kernel
theorem dX6_add_16 : decode cX6_add 16 = .ok (.aload_n 0, 1) := by decide +kernel
theorem dX6_add_17 : decode cX6_add 17 = .ok (.getfield 18, 3) := by decide +kernel
theorem dX6_add_20 : decode cX6_add 20 = .ok (.iload_n 2, 1) := by decide +kernel
theorem dX6_add_21 : decode cX6_add 21 = .ok (.invokestatic 22, 3) := by decide +kernel
theorem dX6_add_24 : decode cX6_add 24 = .ok (.aload_n 0, 1) := by decide +kernel
theorem dX6_add_25 : decode cX6_add 25 = .ok (.dup, 1) := by decide +kernel
theorem dX6_add_26 : decode cX6_add 26 = .ok (.getfield 18, 3) := by decide +kernel
theorem dX6_add_29 : decode cX6_add 29 = .ok (.iconst 1, 1) := by decide +kernel
theorem dX6_add_30 : decode cX6_add 30 = .ok (.iadd, 1) := by decide +kernel
theorem dX6_add_31 : decode cX6_add 31 = .ok (.putfield 18, 3) := by decide +kernel
theorem dX6_add_34 : decode cX6_add 34 = .ok (.aload_n 0, 1) := by decide +kernel
theorem dX6_add_35 : decode cX6_add 35 = .ok (.getfield 18, 3) := by decide +kernel
theorem dX6_add_38 : decode cX6_add 38 = .ok (.iconst 1, 1) := by decide +kernel
theorem dX6_add_39 : decode cX6_add 39 = .ok (.isub, 1) := by decide +kernel
theorem dX6_add_40 : decode cX6_add 40 = .ok (.ireturn, 1) := by decide +kernel
theorem dX6_fallsAt_0 : decode cX6_fallsAt 0 = .ok (.aload_n 0, 1) := by decide +kernel
theorem dX6_fallsAt_1 : decode cX6_fallsAt 1 = .ok (.getfield 9, 3) := by decide +kernel
theorem dX6_fallsAt_4 : decode cX6_fallsAt 4 = .ok (.iload_n 1, 1) := by decide +kernel
theorem dX6_fallsAt_5 : decode cX6_fallsAt 5 = .ok (.invokestatic 26, 3) := by decide +kernel
theorem dX6_fallsAt_8 : decode cX6_fallsAt 8 = .ok (.aload_n 0, 1) := by decide +kernel
theorem dX6_fallsAt_9 : decode cX6_fallsAt 9 = .ok (.getfield 15, 3) := by decide +kernel
theorem dX6_fallsAt_12 : decode cX6_fallsAt 12 = .ok (.iload_n 1, 1) := by decide +kernel
theorem dX6_fallsAt_13 : decode cX6_fallsAt 13 = .ok (.invokestatic 26, 3) := by decide +kernel
theorem dX6_fallsAt_16 : decode cX6_fallsAt 16 = .ok (.iload_n 2, 1) := by decide +kernel
theorem dX6_fallsAt_17 : decode cX6_fallsAt 17 = .ok (.imul, 1) := by decide +kernel
theorem dX6_fallsAt_18 : decode cX6_fallsAt 18 = .ok (.isub, 1) := by decide +kernel
theorem dX6_fallsAt_19 : decode cX6_fallsAt 19 = .ok (.aload 4, 2) := by decide +kernel
theorem dX6_fallsAt_21 : decode cX6_fallsAt 21 = .ok (.iload_n 3, 1) := by decide +kernel
theorem dX6_fallsAt_22 : decode cX6_fallsAt 22 = .ok (.invokevirtual 30, 3) := by decide +kernel
theorem dX6_fallsAt_25 : decode cX6_fallsAt 25 = .ok (.iadd, 1) := by decide +kernel
theorem dX6_fallsAt_26 : decode cX6_fallsAt 26 = .ok (.ireturn, 1) := by decide +kernel
theorem dX6_hitTenths_0 : decode cX6_hitTenths 0 = .ok (.iconst 0, 1) := by decide +kernel
theorem dX6_hitTenths_1 : decode cX6_hitTenths 1 = .ok (.istore 4, 2) := by decide +kernel
theorem dX6_hitTenths_3 : decode cX6_hitTenths 3 = .ok (.iconst (-1), 1) := by decide +kernel
theorem dX6_hitTenths_4 : decode cX6_hitTenths 4 = .ok (.istore 5, 2) := by decide +kernel
theorem dX6_hitTenths_6 : decode cX6_hitTenths 6 = .ok (.iload 5, 2) := by decide +kernel
theorem dX6_hitTenths_8 : decode cX6_hitTenths 8 = .ok (.iconst 1, 1) := by decide +kernel
theorem dX6_hitTenths_9 : decode cX6_hitTenths 9 = .ok (.if_icmp .gt 36, 3) := by decide +kernel
theorem dX6_hitTenths_12 : decode cX6_hitTenths 12 = .ok (.aload_n 3, 1) := by decide +kernel
theorem dX6_hitTenths_13 : decode cX6_hitTenths 13 = .ok (.aload_n 0, 1) := by decide +kernel
theorem dX6_hitTenths_14 : decode cX6_hitTenths 14 = .ok (.iload_n 1, 1) := by decide +kernel
theorem dX6_hitTenths_15 : decode cX6_hitTenths 15 = .ok (.iload_n 2, 1) := by decide +kernel
theorem dX6_hitTenths_16 : decode cX6_hitTenths 16 = .ok (.iload 5, 2) := by decide +kernel
theorem dX6_hitTenths_18 : decode cX6_hitTenths 18 = .ok (.aload_n 3, 1) := by decide +kernel
theorem dX6_hitTenths_19 : decode cX6_hitTenths 19 = .ok (.invokevirtual 36, 3) := by decide +kernel
theorem dX6_hitTenths_22 : decode cX6_hitTenths 22 = .ok (.invokevirtual 40, 3) := by decide +kernel
theorem dX6_hitTenths_25 : decode cX6_hitTenths 25 = .ok (.ifCond .eq 14, 3) := by decide +kernel
theorem dX6_hitTenths_28 : decode cX6_hitTenths 28 = .ok (.iload 4, 2) := by decide +kernel
theorem dX6_hitTenths_30 : decode cX6_hitTenths 30 = .ok (.aload_n 3, 1) := by decide +kernel
theorem dX6_hitTenths_31 : decode cX6_hitTenths 31 = .ok (.iload 5, 2) := by decide +kernel
theorem dX6_hitTenths_33 : decode cX6_hitTenths 33 = .ok (.invokevirtual 44, 3) := by decide +kernel
theorem dX6_hitTenths_36 : decode cX6_hitTenths 36 = .ok (.iadd, 1) := by decide +kernel
theorem dX6_hitTenths_37 : decode cX6_hitTenths 37 = .ok (.istore 4, 2) := by decide +kernel
theorem dX6_hitTenths_39 : decode cX6_hitTenths 39 = .ok (.iinc 5 1, 3) := by decide +kernel
theorem dX6_hitTenths_42 : decode cX6_hitTenths 42 = .ok (.goto (-36), 3) := by decide +kernel
theorem dX6_hitTenths_45 : decode cX6_hitTenths 45 = .ok (.iload 4, 2) := by decide +kernel
theorem dX6_hitTenths_47 : decode cX6_hitTenths 47 = .ok (.ireturn, 1) := by decide +kernel
theorem dX6_left_0 : decode cX6_left 0 = .ok (.iconst 1, 1) := by decide +kernel
theorem dX6_left_1 : decode cX6_left 1 = .ok (.aload_n 0, 1) := by decide +kernel
theorem dX6_left_2 : decode cX6_left 2 = .ok (.getfield 18, 3) := by decide +kernel
theorem dX6_left_5 : decode cX6_left 5 = .ok (.ishl, 1) := by decide +kernel
theorem dX6_left_6 : decode cX6_left 6 = .ok (.iconst 1, 1) := by decide +kernel
theorem dX6_left_7 : decode cX6_left 7 = .ok (.isub, 1) := by decide +kernel
theorem dX6_left_8 : decode cX6_left 8 = .ok (.iload_n 1, 1) := by decide +kernel
theorem dX6_left_9 : decode cX6_left 9 = .ok (.iconst (-1), 1) := by decide +kernel
theorem dX6_left_10 : decode cX6_left 10 = .ok (.ixor, 1) := by decide +kernel
theorem dX6_left_11 : decode cX6_left 11 = .ok (.iand, 1) := by decide +kernel
theorem dX6_left_12 : decode cX6_left 12 = .ok (.ireturn, 1) := by decide +kernel
theorem dX6_leastOf_0 : decode cX6_leastOf 0 = .ok (.iconst 0, 1) := by decide +kernel
theorem dX6_leastOf_1 : decode cX6_leastOf 1 = .ok (.istore_n 2, 1) := by decide +kernel
theorem dX6_leastOf_2 : decode cX6_leastOf 2 = .ok (.iload_n 2, 1) := by decide +kernel
theorem dX6_leastOf_3 : decode cX6_leastOf 3 = .ok (.aload_n 0, 1) := by decide +kernel
theorem dX6_leastOf_4 : decode cX6_leastOf 4 = .ok (.getfield 18, 3) := by decide +kernel
theorem dX6_leastOf_7 : decode cX6_leastOf 7 = .ok (.if_icmp .ge 19, 3) := by decide +kernel
theorem dX6_leastOf_10 : decode cX6_leastOf 10 = .ok (.iload_n 1, 1) := by decide +kernel
theorem dX6_leastOf_11 : decode cX6_leastOf 11 = .ok (.iload_n 2, 1) := by decide +kernel
theorem dX6_leastOf_12 : decode cX6_leastOf 12 = .ok (.invokestatic 47, 3) := by decide +kernel
theorem dX6_leastOf_15 : decode cX6_leastOf 15 = .ok (.ifCond .eq 5, 3) := by decide +kernel
theorem dX6_leastOf_18 : decode cX6_leastOf 18 = .ok (.iload_n 2, 1) := by decide +kernel
theorem dX6_leastOf_19 : decode cX6_leastOf 19 = .ok (.ireturn, 1) := by decide +kernel
theorem dX6_leastOf_20 : decode cX6_leastOf 20 = .ok (.iinc 2 1, 3) := by decide +kernel
theorem dX6_leastOf_23 : decode cX6_leastOf 23 = .ok (.goto (-21), 3) := by decide +kernel
theorem dX6_leastOf_26 : decode cX6_leastOf 26 = .ok (.iconst (-1), 1) := by decide +kernel
theorem dX6_leastOf_27 : decode cX6_leastOf 27 = .ok (.ireturn, 1) := by decide +kernel
theorem dX7_init_0 : decode cX7_init 0 = .ok (.aload_n 0, 1) := by decide +kernel
theorem dX7_init_1 : decode cX7_init 1 = .ok (.invokespecial 3, 3) := by decide +kernel
theorem dX7_init_4 : decode cX7_init 4 = .ok (.aload_n 0, 1) := by decide +kernel
theorem dX7_init_5 : decode cX7_init 5 = .ok (.iconst 3, 1) := by decide +kernel
theorem dX7_init_6 : decode cX7_init 6 = .ok (.newarray .int, 2) := by decide +kernel
theorem dX7_init_8 : decode cX7_init 8 = .ok (.putfield 9, 3) := by decide +kernel
theorem dX7_init_11 : decode cX7_init 11 = .ok (.aload_n 0, 1) := by decide +kernel
theorem dX7_init_12 : decode cX7_init 12 = .ok (.bipush 10, 2) := by decide +kernel
theorem dX7_init_14 : decode cX7_init 14 = .ok (.newarray .int, 2) := by decide +kernel
theorem dX7_init_16 : decode cX7_init 16 = .ok (.putfield 15, 3) := by decide +kernel
theorem dX7_init_19 : decode cX7_init 19 = .ok (.return_, 1) := by decide +kernel
theorem dX7_read_0 : decode cX7_read 0 = .ok (.aload_n 0, 1) := by decide +kernel
theorem dX7_read_1 : decode cX7_read 1 = .ok (.bipush 10, 2) := by decide +kernel
theorem dX7_read_3 : decode cX7_read 3 = .ok (.aload_n 1, 1) := by decide +kernel
theorem dX7_read_4 : decode cX7_read 4 = .ok (.iconst 0, 1) := by decide +kernel
theorem dX7_read_5 : decode cX7_read 5 = .ok (.invokevirtual 18, 3) := by decide +kernel
theorem dX7_read_8 : decode cX7_read 8 = .ok (.imul, 1) := by decide +kernel
theorem dX7_read_9 : decode cX7_read 9 = .ok (.aload_n 1, 1) := by decide +kernel
theorem dX7_read_10 : decode cX7_read 10 = .ok (.iconst 1, 1) := by decide +kernel
theorem dX7_read_11 : decode cX7_read 11 = .ok (.invokevirtual 18, 3) := by decide +kernel
theorem dX7_read_14 : decode cX7_read 14 = .ok (.iadd, 1) := by decide +kernel
theorem dX7_read_15 : decode cX7_read 15 = .ok (.putfield 24, 3) := by decide +kernel
theorem dX7_read_18 : decode cX7_read 18 = .ok (.aload_n 0, 1) := by decide +kernel
theorem dX7_read_19 : decode cX7_read 19 = .ok (.aload_n 1, 1) := by decide +kernel
theorem dX7_read_20 : decode cX7_read 20 = .ok (.iconst 3, 1) := by decide +kernel
theorem dX7_read_21 : decode cX7_read 21 = .ok (.invokevirtual 18, 3) := by decide +kernel
theorem dX7_read_24 : decode cX7_read 24 = .ok (.putfield 28, 3) := by decide +kernel
theorem dX7_read_27 : decode cX7_read 27 = .ok (.iconst 0, 1) := by decide +kernel
theorem dX7_read_28 : decode cX7_read 28 = .ok (.istore_n 2, 1) := by decide +kernel
theorem dX7_read_29 : decode cX7_read 29 = .ok (.iload_n 2, 1) := by decide +kernel
theorem dX7_read_30 : decode cX7_read 30 = .ok (.aload_n 0, 1) := by decide +kernel
theorem dX7_read_31 : decode cX7_read 31 = .ok (.getfield 9, 3) := by decide +kernel
theorem dX7_read_34 : decode cX7_read 34 = .ok (.arraylength, 1) := by decide +kernel
theorem dX7_read_35 : decode cX7_read 35 = .ok (.if_icmp .ge 24, 3) := by decide +kernel
theorem dX7_read_38 : decode cX7_read 38 = .ok (.aload_n 0, 1) := by decide +kernel
theorem dX7_read_39 : decode cX7_read 39 = .ok (.getfield 9, 3) := by decide +kernel
theorem dX7_read_42 : decode cX7_read 42 = .ok (.iload_n 2, 1) := by decide +kernel
theorem dX7_read_43 : decode cX7_read 43 = .ok (.aload_n 1, 1) := by decide +kernel
theorem dX7_read_44 : decode cX7_read 44 = .ok (.iconst 5, 1) := by decide +kernel
theorem dX7_read_45 : decode cX7_read 45 = .ok (.iload_n 2, 1) := by decide +kernel
theorem dX7_read_46 : decode cX7_read 46 = .ok (.iadd, 1) := by decide +kernel
theorem dX7_read_47 : decode cX7_read 47 = .ok (.invokevirtual 18, 3) := by decide +kernel
theorem dX7_read_50 : decode cX7_read 50 = .ok (.invokestatic 31, 3) := by decide +kernel
theorem dX7_read_53 : decode cX7_read 53 = .ok (.iinc 2 1, 3) := by decide +kernel
theorem dX7_read_56 : decode cX7_read 56 = .ok (.goto (-27), 3) := by decide +kernel
theorem dX7_read_59 : decode cX7_read 59 = .ok (.aload_n 0, 1) := by decide +kernel
theorem dX7_read_60 : decode cX7_read 60 = .ok (.aload_n 1, 1) := by decide +kernel
theorem dX7_read_61 : decode cX7_read 61 = .ok (.getfield 35, 3) := by decide +kernel
theorem dX7_read_64 : decode cX7_read 64 = .ok (.bipush 9, 2) := by decide +kernel
theorem dX7_read_66 : decode cX7_read 66 = .ok (.isub, 1) := by decide +kernel
theorem dX7_read_67 : decode cX7_read 67 = .ok (.putfield 38, 3) := by decide +kernel
theorem dX7_read_70 : decode cX7_read 70 = .ok (.iconst 0, 1) := by decide +kernel
theorem dX7_read_71 : decode cX7_read 71 = .ok (.istore_n 2, 1) := by decide +kernel
theorem dX7_read_72 : decode cX7_read 72 = .ok (.iload_n 2, 1) := by decide +kernel
theorem dX7_read_73 : decode cX7_read 73 = .ok (.aload_n 0, 1) := by decide +kernel
theorem dX7_read_74 : decode cX7_read 74 = .ok (.getfield 38, 3) := by decide +kernel
theorem dX7_read_77 : decode cX7_read 77 = .ok (.if_icmp .ge 25, 3) := by decide +kernel
theorem dX7_read_80 : decode cX7_read 80 = .ok (.aload_n 0, 1) := by decide +kernel
theorem dX7_read_81 : decode cX7_read 81 = .ok (.getfield 15, 3) := by decide +kernel
theorem dX7_read_84 : decode cX7_read 84 = .ok (.iload_n 2, 1) := by decide +kernel
theorem dX7_read_85 : decode cX7_read 85 = .ok (.aload_n 1, 1) := by decide +kernel
theorem dX7_read_86 : decode cX7_read 86 = .ok (.bipush 9, 2) := by decide +kernel
theorem dX7_read_88 : decode cX7_read 88 = .ok (.iload_n 2, 1) := by decide +kernel
theorem dX7_read_89 : decode cX7_read 89 = .ok (.iadd, 1) := by decide +kernel
theorem dX7_read_90 : decode cX7_read 90 = .ok (.invokevirtual 18, 3) := by decide +kernel
theorem dX7_read_93 : decode cX7_read 93 = .ok (.invokestatic 31, 3) := by decide +kernel
theorem dX7_read_96 : decode cX7_read 96 = .ok (.iinc 2 1, 3) := by decide +kernel
theorem dX7_read_99 : decode cX7_read 99 = .ok (.goto (-27), 3) := by decide +kernel
theorem dX7_read_102 : decode cX7_read 102 = .ok (.return_, 1) := by decide +kernel
theorem dX7_tell_0 : decode cX7_tell 0 = .ok (.iload_n 1, 1) := by decide +kernel
theorem dX7_tell_1 : decode cX7_tell 1 = .ok (.ifCond .ne 8, 3) := by decide +kernel
theorem dX7_tell_4 : decode cX7_tell 4 = .ok (.aload_n 0, 1) := by decide +kernel
theorem dX7_tell_5 : decode cX7_tell 5 = .ok (.getfield 24, 3) := by decide +kernel
theorem dX7_tell_8 : decode cX7_tell 8 = .ok (.ireturn, 1) := by decide +kernel
theorem dX7_tell_9 : decode cX7_tell 9 = .ok (.iload_n 1, 1) := by decide +kernel
theorem dX7_tell_10 : decode cX7_tell 10 = .ok (.iconst 1, 1) := by decide +kernel
theorem dX7_tell_11 : decode cX7_tell 11 = .ok (.if_icmp .ne 8, 3) := by decide +kernel
theorem dX7_tell_14 : decode cX7_tell 14 = .ok (.aload_n 0, 1) := by decide +kernel
theorem dX7_tell_15 : decode cX7_tell 15 = .ok (.getfield 28, 3) := by decide +kernel
theorem dX7_tell_18 : decode cX7_tell 18 = .ok (.ireturn, 1) := by decide +kernel
theorem dX7_tell_19 : decode cX7_tell 19 = .ok (.iload_n 1, 1) := by decide +kernel
theorem dX7_tell_20 : decode cX7_tell 20 = .ok (.bipush 10, 2) := by decide +kernel
theorem dX7_tell_22 : decode cX7_tell 22 = .ok (.if_icmp .ge 14, 3) := by decide +kernel
theorem dX7_tell_25 : decode cX7_tell 25 = .ok (.aload_n 0, 1) := by decide +kernel
theorem dX7_tell_26 : decode cX7_tell 26 = .ok (.getfield 9, 3) := by decide +kernel
theorem dX7_tell_29 : decode cX7_tell 29 = .ok (.iload_n 1, 1) := by decide +kernel
theorem dX7_tell_30 : decode cX7_tell 30 = .ok (.iconst 2, 1) := by decide +kernel
theorem dX7_tell_31 : decode cX7_tell 31 = .ok (.isub, 1) := by decide +kernel
theorem dX7_tell_32 : decode cX7_tell 32 = .ok (.invokestatic 41, 3) := by decide +kernel
theorem dX7_tell_35 : decode cX7_tell 35 = .ok (.ireturn, 1) := by decide +kernel
theorem dX7_tell_36 : decode cX7_tell 36 = .ok (.iload_n 1, 1) := by decide +kernel
theorem dX7_tell_37 : decode cX7_tell 37 = .ok (.bipush 10, 2) := by decide +kernel
theorem dX7_tell_39 : decode cX7_tell 39 = .ok (.isub, 1) := by decide +kernel
theorem dX7_tell_40 : decode cX7_tell 40 = .ok (.aload_n 0, 1) := by decide +kernel
theorem dX7_tell_41 : decode cX7_tell 41 = .ok (.getfield 38, 3) := by decide +kernel
theorem dX7_tell_44 : decode cX7_tell 44 = .ok (.if_icmp .ge 17, 3) := by decide +kernel
theorem dX7_tell_47 : decode cX7_tell 47 = .ok (.aload_n 0, 1) := by decide +kernel
theorem dX7_tell_48 : decode cX7_tell 48 = .ok (.getfield 15, 3) := by decide +kernel
theorem dX7_tell_51 : decode cX7_tell 51 = .ok (.iload_n 1, 1) := by decide +kernel
theorem dX7_tell_52 : decode cX7_tell 52 = .ok (.bipush 10, 2) := by decide +kernel
theorem dX7_tell_54 : decode cX7_tell 54 = .ok (.isub, 1) := by decide +kernel
theorem dX7_tell_55 : decode cX7_tell 55 = .ok (.invokestatic 41, 3) := by decide +kernel
theorem dX7_tell_58 : decode cX7_tell 58 = .ok (.goto 4, 3) := by decide +kernel
theorem dX7_tell_61 : decode cX7_tell 61 = .ok (.iconst (-1), 1) := by decide +kernel
theorem dX7_tell_62 : decode cX7_tell 62 = .ok (.ireturn, 1) := by decide +kernel
theorem dX7_endMinute_0 : decode cX7_endMinute 0 = .ok (.aload_n 0, 1) := by decide +kernel
theorem dX7_endMinute_1 : decode cX7_endMinute 1 = .ok (.getfield 38, 3) := by decide +kernel
theorem dX7_endMinute_4 : decode cX7_endMinute 4 = .ok (.iconst 5, 1) := by decide +kernel
theorem dX7_endMinute_5 : decode cX7_endMinute 5 = .ok (.imul, 1) := by decide +kernel
theorem dX7_endMinute_6 : decode cX7_endMinute 6 = .ok (.ireturn, 1) := by decide +kernel
theorem dX7_gustTenths_0 : decode cX7_gustTenths 0 = .ok (.aload_n 0, 1) := by decide +kernel
theorem dX7_gustTenths_1 : decode cX7_gustTenths 1 = .ok (.getfield 9, 3) := by decide +kernel
theorem dX7_gustTenths_4 : decode cX7_gustTenths 4 = .ok (.iload_n 1, 1) := by decide +kernel
theorem dX7_gustTenths_5 : decode cX7_gustTenths 5 = .ok (.iconst 1, 1) := by decide +kernel
theorem dX7_gustTenths_6 : decode cX7_gustTenths 6 = .ok (.iadd, 1) := by decide +kernel
theorem dX7_gustTenths_7 : decode cX7_gustTenths 7 = .ok (.invokestatic 41, 3) := by decide +kernel
theorem dX7_gustTenths_10 : decode cX7_gustTenths 10 = .ok (.ireturn, 1) := by decide +kernel
theorem dX7_breakTenths_0 : decode cX7_breakTenths 0 = .ok (.aload_n 0, 1) := by decide +kernel
theorem dX7_breakTenths_1 : decode cX7_breakTenths 1 = .ok (.getfield 15, 3) := by decide +kernel
theorem dX7_breakTenths_4 : decode cX7_breakTenths 4 = .ok (.iload_n 1, 1) := by decide +kernel
theorem dX7_breakTenths_5 : decode cX7_breakTenths 5 = .ok (.invokestatic 41, 3) := by decide +kernel
theorem dX7_breakTenths_8 : decode cX7_breakTenths 8 = .ok (.ireturn, 1) := by decide +kernel
theorem dX7_isLast_0 : decode cX7_isLast 0 = .ok (.iload_n 1, 1) := by decide +kernel
theorem dX7_isLast_1 : decode cX7_isLast 1 = .ok (.aload_n 0, 1) := by decide +kernel
theorem dX7_isLast_2 : decode cX7_isLast 2 = .ok (.getfield 38, 3) := by decide +kernel
theorem dX7_isLast_5 : decode cX7_isLast 5 = .ok (.iconst 1, 1) := by decide +kernel
theorem dX7_isLast_6 : decode cX7_isLast 6 = .ok (.isub, 1) := by decide +kernel
theorem dX7_isLast_7 : decode cX7_isLast 7 = .ok (.if_icmp .lt 7, 3) := by decide +kernel
theorem dX7_isLast_10 : decode cX7_isLast 10 = .ok (.iconst 1, 1) := by decide +kernel
theorem dX7_isLast_11 : decode cX7_isLast 11 = .ok (.goto 4, 3) := by decide +kernel
theorem dX7_isLast_14 : decode cX7_isLast 14 = .ok (.iconst 0, 1) := by decide +kernel
theorem dX7_isLast_15 : decode cX7_isLast 15 = .ok (.ireturn, 1) := by decide +kernel
theorem dX7_drift_0 : decode cX7_drift 0 = .ok (.iload_n 1, 1) := by decide +kernel
theorem dX7_drift_1 : decode cX7_drift 1 = .ok (.aload_n 0, 1) := by decide +kernel
theorem dX7_drift_2 : decode cX7_drift 2 = .ok (.getfield 28, 3) := by decide +kernel
theorem dX7_drift_5 : decode cX7_drift 5 = .ok (.imul, 1) := by decide +kernel
theorem dX7_drift_6 : decode cX7_drift 6 = .ok (.ireturn, 1) := by decide +kernel
theorem dX7_isRight_0 : decode cX7_isRight 0 = .ok (.iload_n 1, 1) := by decide +kernel
theorem dX7_isRight_1 : decode cX7_isRight 1 = .ok (.aload_n 0, 1) := by decide +kernel
theorem dX7_isRight_2 : decode cX7_isRight 2 = .ok (.getfield 24, 3) := by decide +kernel
theorem dX7_isRight_5 : decode cX7_isRight 5 = .ok (.if_icmp .lt 17, 3) := by decide +kernel
theorem dX7_isRight_8 : decode cX7_isRight 8 = .ok (.iload_n 1, 1) := by decide +kernel
theorem dX7_isRight_9 : decode cX7_isRight 9 = .ok (.aload_n 0, 1) := by decide +kernel
theorem dX7_isRight_10 : decode cX7_isRight 10 = .ok (.getfield 24, 3) := by decide +kernel
theorem dX7_isRight_13 : decode cX7_isRight 13 = .ok (.iconst 5, 1) := by decide +kernel
theorem dX7_isRight_14 : decode cX7_isRight 14 = .ok (.iadd, 1) := by decide +kernel
theorem dX7_isRight_15 : decode cX7_isRight 15 = .ok (.if_icmp .gt 7, 3) := by decide +kernel
theorem dX7_isRight_18 : decode cX7_isRight 18 = .ok (.iconst 1, 1) := by decide +kernel
theorem dX7_isRight_19 : decode cX7_isRight 19 = .ok (.goto 4, 3) := by decide +kernel
theorem dX7_isRight_22 : decode cX7_isRight 22 = .ok (.iconst 0, 1) := by decide +kernel
theorem dX7_isRight_23 : decode cX7_isRight 23 = .ok (.ireturn, 1) := by decide +kernel
theorem dX8_init_0 : decode cX8_init 0 = .ok (.aload_n 0, 1) := by decide +kernel
theorem dX8_init_1 : decode cX8_init 1 = .ok (.invokespecial 3, 3) := by decide +kernel
theorem dX8_init_4 : decode cX8_init 4 = .ok (.aload_n 0, 1) := by decide +kernel
theorem dX8_init_5 : decode cX8_init 5 = .ok (.bipush 6, 2) := by decide +kernel
theorem dX8_init_7 : decode cX8_init 7 = .ok (.newarray .int, 2) := by decide +kernel
theorem dX8_init_9 : decode cX8_init 9 = .ok (.putfield 9, 3) := by decide +kernel
theorem dX8_init_12 : decode cX8_init 12 = .ok (.aload_n 0, 1) := by decide +kernel
theorem dX8_init_13 : decode cX8_init 13 = .ok (.bipush 64, 2) := by decide +kernel
theorem dX8_init_15 : decode cX8_init 15 = .ok (.newarray .int, 2) := by decide +kernel
theorem dX8_init_17 : decode cX8_init 17 = .ok (.putfield 15, 3) := by decide +kernel
theorem dX8_init_20 : decode cX8_init 20 = .ok (.aload_n 0, 1) := by decide +kernel
theorem dX8_init_21 : decode cX8_init 21 = .ok (.bipush 64, 2) := by decide +kernel
theorem dX8_init_23 : decode cX8_init 23 = .ok (.newarray .int, 2) := by decide +kernel
theorem dX8_init_25 : decode cX8_init 25 = .ok (.putfield 18, 3) := by decide +kernel
theorem dX8_init_28 : decode cX8_init 28 = .ok (.return_, 1) := by decide +kernel
theorem dX8_search_0 : decode cX8_search 0 = .ok (.aload_n 0, 1) := by decide +kernel
theorem dX8_search_1 : decode cX8_search 1 = .ok (.aload_n 1, 1) := by decide +kernel
theorem dX8_search_2 : decode cX8_search 2 = .ok (.getfield 21, 3) := by decide +kernel
theorem dX8_search_5 : decode cX8_search 5 = .ok (.putfield 27, 3) := by decide +kernel
theorem dX8_search_8 : decode cX8_search 8 = .ok (.aload_n 0, 1) := by decide +kernel
theorem dX8_search_9 : decode cX8_search 9 = .ok (.aload_n 1, 1) := by decide +kernel
theorem dX8_search_10 : decode cX8_search 10 = .ok (.invokevirtual 28, 3) := by decide +kernel
theorem dX8_search_13 : decode cX8_search 13 = .ok (.putfield 32, 3) := by decide +kernel
theorem dX8_search_16 : decode cX8_search 16 = .ok (.iconst 0, 1) := by decide +kernel
theorem dX8_search_17 : decode cX8_search 17 = .ok (.istore_n 3, 1) := by decide +kernel
theorem dX8_search_18 : decode cX8_search 18 = .ok (.iload_n 3, 1) := by decide +kernel
theorem dX8_search_19 : decode cX8_search 19 = .ok (.aload_n 0, 1) := by decide +kernel
theorem dX8_search_20 : decode cX8_search 20 = .ok (.getfield 27, 3) := by decide +kernel
theorem dX8_search_23 : decode cX8_search 23 = .ok (.if_icmp .ge 28, 3) := by decide +kernel
theorem dX8_search_26 : decode cX8_search 26 = .ok (.aload_n 0, 1) := by decide +kernel
theorem dX8_search_27 : decode cX8_search 27 = .ok (.getfield 9, 3) := by decide +kernel
theorem dX8_search_30 : decode cX8_search 30 = .ok (.iload_n 3, 1) := by decide +kernel
theorem dX8_search_31 : decode cX8_search 31 = .ok (.aload_n 1, 1) := by decide +kernel
theorem dX8_search_32 : decode cX8_search 32 = .ok (.iload_n 3, 1) := by decide +kernel
theorem dX8_search_33 : decode cX8_search 33 = .ok (.invokevirtual 34, 3) := by decide +kernel
theorem dX8_search_36 : decode cX8_search 36 = .ok (.aload_n 2, 1) := by decide +kernel
theorem dX8_search_37 : decode cX8_search 37 = .ok (.iload_n 3, 1) := by decide +kernel
theorem dX8_search_38 : decode cX8_search 38 = .ok (.invokevirtual 38, 3) := by decide +kernel
theorem dX8_search_41 : decode cX8_search 41 = .ok (.ior, 1) := by decide +kernel
theorem dX8_search_42 : decode cX8_search 42 = .ok (.invokestatic 43, 3) := by decide +kernel
theorem dX8_search_45 : decode cX8_search 45 = .ok (.iinc 3 1, 3) := by decide +kernel
theorem dX8_search_48 : decode cX8_search 48 = .ok (.goto (-30), 3) := by decide +kernel
theorem dX8_search_51 : decode cX8_search 51 = .ok (.aload_n 0, 1) := by decide +kernel
theorem dX8_search_52 : decode cX8_search 52 = .ok (.invokevirtual 47, 3) := by decide +kernel
theorem dX8_search_55 : decode cX8_search 55 = .ok (.aload_n 0, 1) := by decide +kernel
