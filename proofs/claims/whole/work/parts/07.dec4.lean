theorem dX11_layLater_62 : decode cX11_layLater 62 = .ok (.iload 6, 2) := by decide +kernel
theorem dX11_layLater_64 : decode cX11_layLater 64 = .ok (.iload_n 1, 1) := by decide +kernel
theorem dX11_layLater_65 : decode cX11_layLater 65 = .ok (.iconst 1, 1) := by decide +kernel
theorem dX11_layLater_66 : decode cX11_layLater 66 = .ok (.isub, 1) := by decide +kernel
theorem dX11_layLater_67 : decode cX11_layLater 67 = .ok (.iload 5, 2) := by decide +kernel
theorem dX11_layLater_69 : decode cX11_layLater 69 = .ok (.iload 4, 2) := by decide +kernel
theorem dX11_layLater_71 : decode cX11_layLater 71 = .ok (.isub, 1) := by decide +kernel
theorem dX11_layLater_72 : decode cX11_layLater 72 = .ok (.isub, 1) := by decide +kernel
theorem dX11_layLater_73 : decode cX11_layLater 73 = .ok (.if_icmp .ge 15, 3) := by decide +kernel
theorem dX11_layLater_76 : decode cX11_layLater 76 = .ok (.lload_n 2, 1) := by decide +kernel
theorem dX11_layLater_77 : decode cX11_layLater 77 = .ok (.ldc2_w 186, 3) := by decide +kernel
theorem dX11_layLater_80 : decode cX11_layLater 80 = .ok (.lmul, 1) := by decide +kernel
theorem dX11_layLater_81 : decode cX11_layLater 81 = .ok (.lstore_n 2, 1) := by decide +kernel
theorem dX11_layLater_82 : decode cX11_layLater 82 = .ok (.iinc 6 1, 3) := by decide +kernel
theorem dX11_layLater_85 : decode cX11_layLater 85 = .ok (.goto (-23), 3) := by decide +kernel
theorem dX11_layLater_88 : decode cX11_layLater 88 = .ok (.iload 5, 2) := by decide +kernel
theorem dX11_layLater_90 : decode cX11_layLater 90 = .ok (.iconst 1, 1) := by decide +kernel
theorem dX11_layLater_91 : decode cX11_layLater 91 = .ok (.isub, 1) := by decide +kernel
theorem dX11_layLater_92 : decode cX11_layLater 92 = .ok (.istore 6, 2) := by decide +kernel
theorem dX11_layLater_94 : decode cX11_layLater 94 = .ok (.iload 6, 2) := by decide +kernel
theorem dX11_layLater_96 : decode cX11_layLater 96 = .ok (.iload 4, 2) := by decide +kernel
theorem dX11_layLater_98 : decode cX11_layLater 98 = .ok (.if_icmp .lt 77, 3) := by decide +kernel
theorem dX11_layLater_101 : decode cX11_layLater 101 = .ok (.iconst 0, 1) := by decide +kernel
theorem dX11_layLater_102 : decode cX11_layLater 102 = .ok (.istore 7, 2) := by decide +kernel
theorem dX11_layLater_104 : decode cX11_layLater 104 = .ok (.iload 7, 2) := by decide +kernel
theorem dX11_layLater_106 : decode cX11_layLater 106 = .ok (.bipush 64, 2) := by decide +kernel
theorem dX11_layLater_108 : decode cX11_layLater 108 = .ok (.if_icmp .ge 25, 3) := by decide +kernel
theorem dX11_layLater_111 : decode cX11_layLater 111 = .ok (.aload_n 0, 1) := by decide +kernel
theorem dX11_layLater_112 : decode cX11_layLater 112 = .ok (.getfield 32, 3) := by decide +kernel
theorem dX11_layLater_115 : decode cX11_layLater 115 = .ok (.iload 7, 2) := by decide +kernel
theorem dX11_layLater_117 : decode cX11_layLater 117 = .ok (.aload_n 0, 1) := by decide +kernel
theorem dX11_layLater_118 : decode cX11_layLater 118 = .ok (.iload 6, 2) := by decide +kernel
theorem dX11_layLater_120 : decode cX11_layLater 120 = .ok (.lload_n 2, 1) := by decide +kernel
theorem dX11_layLater_121 : decode cX11_layLater 121 = .ok (.iload 7, 2) := by decide +kernel
theorem dX11_layLater_123 : decode cX11_layLater 123 = .ok (.invokevirtual 188, 3) := by decide +kernel
theorem dX11_layLater_126 : decode cX11_layLater 126 = .ok (.lastore, 1) := by decide +kernel
theorem dX11_layLater_127 : decode cX11_layLater 127 = .ok (.iinc 7 1, 3) := by decide +kernel
theorem dX11_layLater_130 : decode cX11_layLater 130 = .ok (.goto (-26), 3) := by decide +kernel
theorem dX11_layLater_133 : decode cX11_layLater 133 = .ok (.iconst 0, 1) := by decide +kernel
theorem dX11_layLater_134 : decode cX11_layLater 134 = .ok (.istore 7, 2) := by decide +kernel
theorem dX11_layLater_136 : decode cX11_layLater 136 = .ok (.iload 7, 2) := by decide +kernel
theorem dX11_layLater_138 : decode cX11_layLater 138 = .ok (.bipush 64, 2) := by decide +kernel
theorem dX11_layLater_140 : decode cX11_layLater 140 = .ok (.if_icmp .ge 23, 3) := by decide +kernel
theorem dX11_layLater_143 : decode cX11_layLater 143 = .ok (.aload_n 0, 1) := by decide +kernel
theorem dX11_layLater_144 : decode cX11_layLater 144 = .ok (.getfield 28, 3) := by decide +kernel
theorem dX11_layLater_147 : decode cX11_layLater 147 = .ok (.iload 7, 2) := by decide +kernel
theorem dX11_layLater_149 : decode cX11_layLater 149 = .ok (.aload_n 0, 1) := by decide +kernel
theorem dX11_layLater_150 : decode cX11_layLater 150 = .ok (.getfield 32, 3) := by decide +kernel
theorem dX11_layLater_153 : decode cX11_layLater 153 = .ok (.iload 7, 2) := by decide +kernel
theorem dX11_layLater_155 : decode cX11_layLater 155 = .ok (.laload, 1) := by decide +kernel
theorem dX11_layLater_156 : decode cX11_layLater 156 = .ok (.lastore, 1) := by decide +kernel
theorem dX11_layLater_157 : decode cX11_layLater 157 = .ok (.iinc 7 1, 3) := by decide +kernel
theorem dX11_layLater_160 : decode cX11_layLater 160 = .ok (.goto (-24), 3) := by decide +kernel
theorem dX11_layLater_163 : decode cX11_layLater 163 = .ok (.lload_n 2, 1) := by decide +kernel
theorem dX11_layLater_164 : decode cX11_layLater 164 = .ok (.ldc2_w 186, 3) := by decide +kernel
theorem dX11_layLater_167 : decode cX11_layLater 167 = .ok (.lmul, 1) := by decide +kernel
theorem dX11_layLater_168 : decode cX11_layLater 168 = .ok (.lstore_n 2, 1) := by decide +kernel
theorem dX11_layLater_169 : decode cX11_layLater 169 = .ok (.iinc 6 (-1), 3) := by decide +kernel
theorem dX11_layLater_172 : decode cX11_layLater 172 = .ok (.goto (-78), 3) := by decide +kernel
theorem dX11_layLater_175 : decode cX11_layLater 175 = .ok (.return_, 1) := by decide +kernel
theorem dX11_isMan_0 : decode cX11_isMan 0 = .ok (.iload_n 1, 1) := by decide +kernel
theorem dX11_isMan_1 : decode cX11_isMan 1 = .ok (.i2l, 1) := by decide +kernel
theorem dX11_isMan_2 : decode cX11_isMan 2 = .ok (.lconst 0, 1) := by decide +kernel
theorem dX11_isMan_3 : decode cX11_isMan 3 = .ok (.aload_n 0, 1) := by decide +kernel
theorem dX11_isMan_4 : decode cX11_isMan 4 = .ok (.getfield 127, 3) := by decide +kernel
theorem dX11_isMan_7 : decode cX11_isMan 7 = .ok (.iconst 1, 1) := by decide +kernel
theorem dX11_isMan_8 : decode cX11_isMan 8 = .ok (.isub, 1) := by decide +kernel
theorem dX11_isMan_9 : decode cX11_isMan 9 = .ok (.i2l, 1) := by decide +kernel
theorem dX11_isMan_10 : decode cX11_isMan 10 = .ok (.invokestatic 77, 3) := by decide +kernel
theorem dX11_isMan_13 : decode cX11_isMan 13 = .ok (.ireturn, 1) := by decide +kernel
theorem dX11_man_0 : decode cX11_man 0 = .ok (.iload_n 1, 1) := by decide +kernel
theorem dX11_man_1 : decode cX11_man 1 = .ok (.i2l, 1) := by decide +kernel
theorem dX11_man_2 : decode cX11_man 2 = .ok (.lconst 0, 1) := by decide +kernel
theorem dX11_man_3 : decode cX11_man 3 = .ok (.ldc2_w 139, 3) := by decide +kernel
theorem dX11_man_6 : decode cX11_man 6 = .ok (.invokestatic 77, 3) := by decide +kernel
theorem dX11_man_9 : decode cX11_man 9 = .ok (.ifCond .eq 15, 3) := by decide +kernel
theorem dX11_man_12 : decode cX11_man 12 = .ok (.iload_n 2, 1) := by decide +kernel
theorem dX11_man_13 : decode cX11_man 13 = .ok (.i2l, 1) := by decide +kernel
theorem dX11_man_14 : decode cX11_man 14 = .ok (.lconst 1, 1) := by decide +kernel
theorem dX11_man_15 : decode cX11_man 15 = .ok (.ldc2_w 211, 3) := by decide +kernel
theorem dX11_man_18 : decode cX11_man 18 = .ok (.invokestatic 77, 3) := by decide +kernel
theorem dX11_man_21 : decode cX11_man 21 = .ok (.ifCond .ne 6, 3) := by decide +kernel
theorem dX11_man_24 : decode cX11_man 24 = .ok (.bipush (-102), 2) := by decide +kernel
theorem dX11_man_26 : decode cX11_man 26 = .ok (.ireturn, 1) := by decide +kernel
theorem dX11_man_27 : decode cX11_man 27 = .ok (.aload_n 0, 1) := by decide +kernel
theorem dX11_man_28 : decode cX11_man 28 = .ok (.invokevirtual 145, 3) := by decide +kernel
theorem dX11_man_31 : decode cX11_man 31 = .ok (.ifCond .eq 6, 3) := by decide +kernel
theorem dX11_man_34 : decode cX11_man 34 = .ok (.bipush (-103), 2) := by decide +kernel
theorem dX11_man_36 : decode cX11_man 36 = .ok (.ireturn, 1) := by decide +kernel
theorem dX11_man_37 : decode cX11_man 37 = .ok (.aload_n 0, 1) := by decide +kernel
theorem dX11_man_38 : decode cX11_man 38 = .ok (.getfield 127, 3) := by decide +kernel
theorem dX11_man_41 : decode cX11_man 41 = .ok (.bipush 6, 2) := by decide +kernel
theorem dX11_man_43 : decode cX11_man 43 = .ok (.if_icmp .ne 6, 3) := by decide +kernel
theorem dX11_man_46 : decode cX11_man 46 = .ok (.bipush (-104), 2) := by decide +kernel
theorem dX11_man_48 : decode cX11_man 48 = .ok (.ireturn, 1) := by decide +kernel
theorem dX11_man_49 : decode cX11_man 49 = .ok (.aload_n 0, 1) := by decide +kernel
theorem dX11_man_50 : decode cX11_man 50 = .ok (.getfield 35, 3) := by decide +kernel
theorem dX11_man_53 : decode cX11_man 53 = .ok (.iconst 3, 1) := by decide +kernel
theorem dX11_man_54 : decode cX11_man 54 = .ok (.aload_n 0, 1) := by decide +kernel
theorem dX11_man_55 : decode cX11_man 55 = .ok (.getfield 127, 3) := by decide +kernel
theorem dX11_man_58 : decode cX11_man 58 = .ok (.imul, 1) := by decide +kernel
theorem dX11_man_59 : decode cX11_man 59 = .ok (.iload_n 1, 1) := by decide +kernel
theorem dX11_man_60 : decode cX11_man 60 = .ok (.iastore, 1) := by decide +kernel
theorem dX11_man_61 : decode cX11_man 61 = .ok (.aload_n 0, 1) := by decide +kernel
theorem dX11_man_62 : decode cX11_man 62 = .ok (.getfield 35, 3) := by decide +kernel
theorem dX11_man_65 : decode cX11_man 65 = .ok (.iconst 3, 1) := by decide +kernel
theorem dX11_man_66 : decode cX11_man 66 = .ok (.aload_n 0, 1) := by decide +kernel
theorem dX11_man_67 : decode cX11_man 67 = .ok (.getfield 127, 3) := by decide +kernel
theorem dX11_man_70 : decode cX11_man 70 = .ok (.imul, 1) := by decide +kernel
theorem dX11_man_71 : decode cX11_man 71 = .ok (.iconst 1, 1) := by decide +kernel
theorem dX11_man_72 : decode cX11_man 72 = .ok (.iadd, 1) := by decide +kernel
theorem dX11_man_73 : decode cX11_man 73 = .ok (.iload_n 2, 1) := by decide +kernel
theorem dX11_man_74 : decode cX11_man 74 = .ok (.iastore, 1) := by decide +kernel
theorem dX11_man_75 : decode cX11_man 75 = .ok (.aload_n 0, 1) := by decide +kernel
theorem dX11_man_76 : decode cX11_man 76 = .ok (.getfield 35, 3) := by decide +kernel
theorem dX11_man_79 : decode cX11_man 79 = .ok (.iconst 3, 1) := by decide +kernel
theorem dX11_man_80 : decode cX11_man 80 = .ok (.aload_n 0, 1) := by decide +kernel
theorem dX11_man_81 : decode cX11_man 81 = .ok (.getfield 127, 3) := by decide +kernel
theorem dX11_man_84 : decode cX11_man 84 = .ok (.imul, 1) := by decide +kernel
theorem dX11_man_85 : decode cX11_man 85 = .ok (.iconst 2, 1) := by decide +kernel
theorem dX11_man_86 : decode cX11_man 86 = .ok (.iadd, 1) := by decide +kernel
theorem dX11_man_87 : decode cX11_man 87 = .ok (.iconst (-1), 1) := by decide +kernel
theorem dX11_man_88 : decode cX11_man 88 = .ok (.iastore, 1) := by decide +kernel
theorem dX11_man_89 : decode cX11_man 89 = .ok (.aload_n 0, 1) := by decide +kernel
theorem dX11_man_90 : decode cX11_man 90 = .ok (.getfield 38, 3) := by decide +kernel
theorem dX11_man_93 : decode cX11_man 93 = .ok (.aload_n 0, 1) := by decide +kernel
theorem dX11_man_94 : decode cX11_man 94 = .ok (.getfield 127, 3) := by decide +kernel
theorem dX11_man_97 : decode cX11_man 97 = .ok (.iconst 0, 1) := by decide +kernel
theorem dX11_man_98 : decode cX11_man 98 = .ok (.iastore, 1) := by decide +kernel
theorem dX11_man_99 : decode cX11_man 99 = .ok (.aload_n 0, 1) := by decide +kernel
theorem dX11_man_100 : decode cX11_man 100 = .ok (.dup, 1) := by decide +kernel
theorem dX11_man_101 : decode cX11_man 101 = .ok (.getfield 127, 3) := by decide +kernel
theorem dX11_man_104 : decode cX11_man 104 = .ok (.iconst 1, 1) := by decide +kernel
theorem dX11_man_105 : decode cX11_man 105 = .ok (.iadd, 1) := by decide +kernel
theorem dX11_man_106 : decode cX11_man 106 = .ok (.putfield 127, 3) := by decide +kernel
theorem dX11_man_109 : decode cX11_man 109 = .ok (.aload_n 0, 1) := by decide +kernel
theorem dX11_man_110 : decode cX11_man 110 = .ok (.getfield 127, 3) := by decide +kernel
theorem dX11_man_113 : decode cX11_man 113 = .ok (.iconst 1, 1) := by decide +kernel
theorem dX11_man_114 : decode cX11_man 114 = .ok (.isub, 1) := by decide +kernel
theorem dX11_man_115 : decode cX11_man 115 = .ok (.ireturn, 1) := by decide +kernel
theorem dX11_sags_0 : decode cX11_sags 0 = .ok (.aload_n 0, 1) := by decide +kernel
theorem dX11_sags_1 : decode cX11_sags 1 = .ok (.getfield 35, 3) := by decide +kernel
theorem dX11_sags_4 : decode cX11_sags 4 = .ok (.iconst 3, 1) := by decide +kernel
theorem dX11_sags_5 : decode cX11_sags 5 = .ok (.iload_n 1, 1) := by decide +kernel
theorem dX11_sags_6 : decode cX11_sags 6 = .ok (.imul, 1) := by decide +kernel
theorem dX11_sags_7 : decode cX11_sags 7 = .ok (.iconst 1, 1) := by decide +kernel
theorem dX11_sags_8 : decode cX11_sags 8 = .ok (.iadd, 1) := by decide +kernel
theorem dX11_sags_9 : decode cX11_sags 9 = .ok (.iaload, 1) := by decide +kernel
theorem dX11_sags_10 : decode cX11_sags 10 = .ok (.aload_n 0, 1) := by decide +kernel
theorem dX11_sags_11 : decode cX11_sags 11 = .ok (.getfield 109, 3) := by decide +kernel
theorem dX11_sags_14 : decode cX11_sags 14 = .ok (.imul, 1) := by decide +kernel
theorem dX11_sags_15 : decode cX11_sags 15 = .ok (.bipush 50, 2) := by decide +kernel
theorem dX11_sags_17 : decode cX11_sags 17 = .ok (.idiv, 1) := by decide +kernel
theorem dX11_sags_18 : decode cX11_sags 18 = .ok (.aload_n 0, 1) := by decide +kernel
theorem dX11_sags_19 : decode cX11_sags 19 = .ok (.getfield 72, 3) := by decide +kernel
theorem dX11_sags_22 : decode cX11_sags 22 = .ok (.if_icmp .le 7, 3) := by decide +kernel
theorem dX11_sags_25 : decode cX11_sags 25 = .ok (.iconst 1, 1) := by decide +kernel
theorem dX11_sags_26 : decode cX11_sags 26 = .ok (.goto 4, 3) := by decide +kernel
theorem dX11_sags_29 : decode cX11_sags 29 = .ok (.iconst 0, 1) := by decide +kernel
theorem dX11_sags_30 : decode cX11_sags 30 = .ok (.ireturn, 1) := by decide +kernel
theorem dX11_takes_0 : decode cX11_takes 0 = .ok (.aload_n 0, 1) := by decide +kernel
theorem dX11_takes_1 : decode cX11_takes 1 = .ok (.getfield 35, 3) := by decide +kernel
theorem dX11_takes_4 : decode cX11_takes 4 = .ok (.iconst 3, 1) := by decide +kernel
theorem dX11_takes_5 : decode cX11_takes 5 = .ok (.iload_n 1, 1) := by decide +kernel
theorem dX11_takes_6 : decode cX11_takes 6 = .ok (.imul, 1) := by decide +kernel
theorem dX11_takes_7 : decode cX11_takes 7 = .ok (.iaload, 1) := by decide +kernel
theorem dX11_takes_8 : decode cX11_takes 8 = .ok (.istore_n 2, 1) := by decide +kernel
theorem dX11_takes_9 : decode cX11_takes 9 = .ok (.iconst 2, 1) := by decide +kernel
theorem dX11_takes_10 : decode cX11_takes 10 = .ok (.aload_n 0, 1) := by decide +kernel
theorem dX11_takes_11 : decode cX11_takes 11 = .ok (.getfield 35, 3) := by decide +kernel
theorem dX11_takes_14 : decode cX11_takes 14 = .ok (.iconst 3, 1) := by decide +kernel
theorem dX11_takes_15 : decode cX11_takes 15 = .ok (.iload_n 1, 1) := by decide +kernel
theorem dX11_takes_16 : decode cX11_takes 16 = .ok (.imul, 1) := by decide +kernel
theorem dX11_takes_17 : decode cX11_takes 17 = .ok (.iconst 1, 1) := by decide +kernel
theorem dX11_takes_18 : decode cX11_takes 18 = .ok (.iadd, 1) := by decide +kernel
theorem dX11_takes_19 : decode cX11_takes 19 = .ok (.iaload, 1) := by decide +kernel
theorem dX11_takes_20 : decode cX11_takes 20 = .ok (.iconst 5, 1) := by decide +kernel
theorem dX11_takes_21 : decode cX11_takes 21 = .ok (.idiv, 1) := by decide +kernel
theorem dX11_takes_22 : decode cX11_takes 22 = .ok (.iadd, 1) := by decide +kernel
theorem dX11_takes_23 : decode cX11_takes 23 = .ok (.istore_n 3, 1) := by decide +kernel
theorem dX11_takes_24 : decode cX11_takes 24 = .ok (.iload_n 2, 1) := by decide +kernel
theorem dX11_takes_25 : decode cX11_takes 25 = .ok (.iconst 1, 1) := by decide +kernel
theorem dX11_takes_26 : decode cX11_takes 26 = .ok (.if_icmp .ne 11, 3) := by decide +kernel
theorem dX11_takes_29 : decode cX11_takes 29 = .ok (.iload_n 3, 1) := by decide +kernel
theorem dX11_takes_30 : decode cX11_takes 30 = .ok (.iconst 1, 1) := by decide +kernel
theorem dX11_takes_31 : decode cX11_takes 31 = .ok (.iadd, 1) := by decide +kernel
theorem dX11_takes_32 : decode cX11_takes 32 = .ok (.iconst 2, 1) := by decide +kernel
theorem dX11_takes_33 : decode cX11_takes 33 = .ok (.idiv, 1) := by decide +kernel
theorem dX11_takes_34 : decode cX11_takes 34 = .ok (.goto 15, 3) := by decide +kernel
theorem dX11_takes_37 : decode cX11_takes 37 = .ok (.iload_n 2, 1) := by decide +kernel
theorem dX11_takes_38 : decode cX11_takes 38 = .ok (.iconst 3, 1) := by decide +kernel
theorem dX11_takes_39 : decode cX11_takes 39 = .ok (.if_icmp .ne 9, 3) := by decide +kernel
theorem dX11_takes_42 : decode cX11_takes 42 = .ok (.iload_n 3, 1) := by decide +kernel
theorem dX11_takes_43 : decode cX11_takes 43 = .ok (.iconst 3, 1) := by decide +kernel
theorem dX11_takes_44 : decode cX11_takes 44 = .ok (.iadd, 1) := by decide +kernel
theorem dX11_takes_45 : decode cX11_takes 45 = .ok (.goto 4, 3) := by decide +kernel
theorem dX11_takes_48 : decode cX11_takes 48 = .ok (.iload_n 3, 1) := by decide +kernel
theorem dX11_takes_49 : decode cX11_takes 49 = .ok (.istore_n 3, 1) := by decide +kernel
theorem dX11_takes_50 : decode cX11_takes 50 = .ok (.aload_n 0, 1) := by decide +kernel
theorem dX11_takes_51 : decode cX11_takes 51 = .ok (.iload_n 1, 1) := by decide +kernel
theorem dX11_takes_52 : decode cX11_takes 52 = .ok (.invokevirtual 213, 3) := by decide +kernel
theorem dX11_takes_55 : decode cX11_takes 55 = .ok (.ifCond .eq 9, 3) := by decide +kernel
theorem dX11_takes_58 : decode cX11_takes 58 = .ok (.iload_n 3, 1) := by decide +kernel
theorem dX11_takes_59 : decode cX11_takes 59 = .ok (.iconst 2, 1) := by decide +kernel
theorem dX11_takes_60 : decode cX11_takes 60 = .ok (.iadd, 1) := by decide +kernel
theorem dX11_takes_61 : decode cX11_takes 61 = .ok (.goto 4, 3) := by decide +kernel
theorem dX11_takes_64 : decode cX11_takes 64 = .ok (.iload_n 3, 1) := by decide +kernel
theorem dX11_takes_65 : decode cX11_takes 65 = .ok (.ireturn, 1) := by decide +kernel
theorem dX11_overBits_0 : decode cX11_overBits 0 = .ok (.iconst 0, 1) := by decide +kernel
theorem dX11_overBits_1 : decode cX11_overBits 1 = .ok (.istore_n 1, 1) := by decide +kernel
theorem dX11_overBits_2 : decode cX11_overBits 2 = .ok (.iconst 0, 1) := by decide +kernel
theorem dX11_overBits_3 : decode cX11_overBits 3 = .ok (.istore_n 2, 1) := by decide +kernel
theorem dX11_overBits_4 : decode cX11_overBits 4 = .ok (.iload_n 2, 1) := by decide +kernel
theorem dX11_overBits_5 : decode cX11_overBits 5 = .ok (.aload_n 0, 1) := by decide +kernel
theorem dX11_overBits_6 : decode cX11_overBits 6 = .ok (.getfield 127, 3) := by decide +kernel
theorem dX11_overBits_9 : decode cX11_overBits 9 = .ok (.if_icmp .ge 33, 3) := by decide +kernel
theorem dX11_overBits_12 : decode cX11_overBits 12 = .ok (.iload_n 1, 1) := by decide +kernel
theorem dX11_overBits_13 : decode cX11_overBits 13 = .ok (.aload_n 0, 1) := by decide +kernel
theorem dX11_overBits_14 : decode cX11_overBits 14 = .ok (.getfield 35, 3) := by decide +kernel
theorem dX11_overBits_17 : decode cX11_overBits 17 = .ok (.iconst 3, 1) := by decide +kernel
theorem dX11_overBits_18 : decode cX11_overBits 18 = .ok (.iload_n 2, 1) := by decide +kernel
theorem dX11_overBits_19 : decode cX11_overBits 19 = .ok (.imul, 1) := by decide +kernel
theorem dX11_overBits_20 : decode cX11_overBits 20 = .ok (.iconst 2, 1) := by decide +kernel
theorem dX11_overBits_21 : decode cX11_overBits 21 = .ok (.iadd, 1) := by decide +kernel
theorem dX11_overBits_22 : decode cX11_overBits 22 = .ok (.iaload, 1) := by decide +kernel
theorem dX11_overBits_23 : decode cX11_overBits 23 = .ok (.iconst (-1), 1) := by decide +kernel
theorem dX11_overBits_24 : decode cX11_overBits 24 = .ok (.if_icmp .ne 7, 3) := by decide +kernel
theorem dX11_overBits_27 : decode cX11_overBits 27 = .ok (.iconst 0, 1) := by decide +kernel
theorem dX11_overBits_28 : decode cX11_overBits 28 = .ok (.goto 6, 3) := by decide +kernel
theorem dX11_overBits_31 : decode cX11_overBits 31 = .ok (.iconst 1, 1) := by decide +kernel
theorem dX11_overBits_32 : decode cX11_overBits 32 = .ok (.iload_n 2, 1) := by decide +kernel
theorem dX11_overBits_33 : decode cX11_overBits 33 = .ok (.ishl, 1) := by decide +kernel
theorem dX11_overBits_34 : decode cX11_overBits 34 = .ok (.ior, 1) := by decide +kernel
theorem dX11_overBits_35 : decode cX11_overBits 35 = .ok (.istore_n 1, 1) := by decide +kernel
theorem dX11_overBits_36 : decode cX11_overBits 36 = .ok (.iinc 2 1, 3) := by decide +kernel
theorem dX11_overBits_39 : decode cX11_overBits 39 = .ok (.goto (-35), 3) := by decide +kernel
theorem dX11_overBits_42 : decode cX11_overBits 42 = .ok (.iload_n 1, 1) := by decide +kernel
theorem dX11_overBits_43 : decode cX11_overBits 43 = .ok (.ireturn, 1) := by decide +kernel
theorem dX11_canCome_0 : decode cX11_canCome 0 = .ok (.iload_n 2, 1) := by decide +kernel
theorem dX11_canCome_1 : decode cX11_canCome 1 = .ok (.iload_n 1, 1) := by decide +kernel
theorem dX11_canCome_2 : decode cX11_canCome 2 = .ok (.ishr, 1) := by decide +kernel
theorem dX11_canCome_3 : decode cX11_canCome 3 = .ok (.iconst 1, 1) := by decide +kernel
theorem dX11_canCome_4 : decode cX11_canCome 4 = .ok (.iand, 1) := by decide +kernel
theorem dX11_canCome_5 : decode cX11_canCome 5 = .ok (.ifCond .ne 20, 3) := by decide +kernel
theorem dX11_canCome_8 : decode cX11_canCome 8 = .ok (.aload_n 0, 1) := by decide +kernel
theorem dX11_canCome_9 : decode cX11_canCome 9 = .ok (.getfield 38, 3) := by decide +kernel
theorem dX11_canCome_12 : decode cX11_canCome 12 = .ok (.iload_n 1, 1) := by decide +kernel
theorem dX11_canCome_13 : decode cX11_canCome 13 = .ok (.iaload, 1) := by decide +kernel
theorem dX11_canCome_14 : decode cX11_canCome 14 = .ok (.iload_n 2, 1) := by decide +kernel
theorem dX11_canCome_15 : decode cX11_canCome 15 = .ok (.iconst (-1), 1) := by decide +kernel
theorem dX11_canCome_16 : decode cX11_canCome 16 = .ok (.ixor, 1) := by decide +kernel
theorem dX11_canCome_17 : decode cX11_canCome 17 = .ok (.iand, 1) := by decide +kernel
theorem dX11_canCome_18 : decode cX11_canCome 18 = .ok (.ifCond .ne 7, 3) := by decide +kernel
theorem dX11_canCome_21 : decode cX11_canCome 21 = .ok (.iconst 1, 1) := by decide +kernel
theorem dX11_canCome_22 : decode cX11_canCome 22 = .ok (.goto 4, 3) := by decide +kernel
theorem dX11_canCome_25 : decode cX11_canCome 25 = .ok (.iconst 0, 1) := by decide +kernel
theorem dX11_canCome_26 : decode cX11_canCome 26 = .ok (.istore_n 3, 1) := by decide +kernel
theorem dX11_canCome_27 : decode cX11_canCome 27 = .ok (.iconst 0, 1) := by decide +kernel
theorem dX11_canCome_28 : decode cX11_canCome 28 = .ok (.istore 4, 2) := by decide +kernel
theorem dX11_canCome_30 : decode cX11_canCome 30 = .ok (.iload 4, 2) := by decide +kernel
theorem dX11_canCome_32 : decode cX11_canCome 32 = .ok (.aload_n 0, 1) := by decide +kernel
theorem dX11_canCome_33 : decode cX11_canCome 33 = .ok (.getfield 127, 3) := by decide +kernel
theorem dX11_canCome_36 : decode cX11_canCome 36 = .ok (.if_icmp .ge 54, 3) := by decide +kernel
theorem dX11_canCome_39 : decode cX11_canCome 39 = .ok (.iload_n 3, 1) := by decide +kernel
theorem dX11_canCome_40 : decode cX11_canCome 40 = .ok (.ifCond .eq 42, 3) := by decide +kernel
theorem dX11_canCome_43 : decode cX11_canCome 43 = .ok (.aload_n 0, 1) := by decide +kernel
theorem dX11_canCome_44 : decode cX11_canCome 44 = .ok (.getfield 35, 3) := by decide +kernel
theorem dX11_canCome_47 : decode cX11_canCome 47 = .ok (.iconst 3, 1) := by decide +kernel
theorem dX11_canCome_48 : decode cX11_canCome 48 = .ok (.iload_n 1, 1) := by decide +kernel
theorem dX11_canCome_49 : decode cX11_canCome 49 = .ok (.imul, 1) := by decide +kernel
theorem dX11_canCome_50 : decode cX11_canCome 50 = .ok (.iaload, 1) := by decide +kernel
theorem dX11_canCome_51 : decode cX11_canCome 51 = .ok (.iconst 4, 1) := by decide +kernel
theorem dX11_canCome_52 : decode cX11_canCome 52 = .ok (.if_icmp .ne 26, 3) := by decide +kernel
theorem dX11_canCome_55 : decode cX11_canCome 55 = .ok (.aload_n 0, 1) := by decide +kernel
theorem dX11_canCome_56 : decode cX11_canCome 56 = .ok (.getfield 35, 3) := by decide +kernel
theorem dX11_canCome_59 : decode cX11_canCome 59 = .ok (.iconst 3, 1) := by decide +kernel
theorem dX11_canCome_60 : decode cX11_canCome 60 = .ok (.iload 4, 2) := by decide +kernel
theorem dX11_canCome_62 : decode cX11_canCome 62 = .ok (.imul, 1) := by decide +kernel
theorem dX11_canCome_63 : decode cX11_canCome 63 = .ok (.iaload, 1) := by decide +kernel
theorem dX11_canCome_64 : decode cX11_canCome 64 = .ok (.iconst 4, 1) := by decide +kernel
theorem dX11_canCome_65 : decode cX11_canCome 65 = .ok (.if_icmp .eq 13, 3) := by decide +kernel
theorem dX11_canCome_68 : decode cX11_canCome 68 = .ok (.iload_n 2, 1) := by decide +kernel
theorem dX11_canCome_69 : decode cX11_canCome 69 = .ok (.iload 4, 2) := by decide +kernel
theorem dX11_canCome_71 : decode cX11_canCome 71 = .ok (.ishr, 1) := by decide +kernel
theorem dX11_canCome_72 : decode cX11_canCome 72 = .ok (.iconst 1, 1) := by decide +kernel
theorem dX11_canCome_73 : decode cX11_canCome 73 = .ok (.iand, 1) := by decide +kernel
theorem dX11_canCome_74 : decode cX11_canCome 74 = .ok (.iconst 1, 1) := by decide +kernel
theorem dX11_canCome_75 : decode cX11_canCome 75 = .ok (.if_icmp .ne 7, 3) := by decide +kernel
theorem dX11_canCome_78 : decode cX11_canCome 78 = .ok (.iconst 1, 1) := by decide +kernel
theorem dX11_canCome_79 : decode cX11_canCome 79 = .ok (.goto 4, 3) := by decide +kernel
theorem dX11_canCome_82 : decode cX11_canCome 82 = .ok (.iconst 0, 1) := by decide +kernel
theorem dX11_canCome_83 : decode cX11_canCome 83 = .ok (.istore_n 3, 1) := by decide +kernel
theorem dX11_canCome_84 : decode cX11_canCome 84 = .ok (.iinc 4 1, 3) := by decide +kernel
theorem dX11_canCome_87 : decode cX11_canCome 87 = .ok (.goto (-57), 3) := by decide +kernel
theorem dX11_canCome_90 : decode cX11_canCome 90 = .ok (.iload_n 3, 1) := by decide +kernel
theorem dX11_canCome_91 : decode cX11_canCome 91 = .ok (.ireturn, 1) := by decide +kernel
theorem dX11_mayCome_0 : decode cX11_mayCome 0 = .ok (.aload_n 0, 1) := by decide +kernel
theorem dX11_mayCome_1 : decode cX11_mayCome 1 = .ok (.getfield 118, 3) := by decide +kernel
theorem dX11_mayCome_4 : decode cX11_mayCome 4 = .ok (.iconst 1, 1) := by decide +kernel
theorem dX11_mayCome_5 : decode cX11_mayCome 5 = .ok (.if_icmp .ne 45, 3) := by decide +kernel
theorem dX11_mayCome_8 : decode cX11_mayCome 8 = .ok (.aload_n 0, 1) := by decide +kernel
theorem dX11_mayCome_9 : decode cX11_mayCome 9 = .ok (.getfield 121, 3) := by decide +kernel
theorem dX11_mayCome_12 : decode cX11_mayCome 12 = .ok (.ifCond .ne 38, 3) := by decide +kernel
theorem dX11_mayCome_15 : decode cX11_mayCome 15 = .ok (.aload_n 0, 1) := by decide +kernel
theorem dX11_mayCome_16 : decode cX11_mayCome 16 = .ok (.iload_n 1, 1) := by decide +kernel
theorem dX11_mayCome_17 : decode cX11_mayCome 17 = .ok (.aload_n 0, 1) := by decide +kernel
theorem dX11_mayCome_18 : decode cX11_mayCome 18 = .ok (.invokevirtual 216, 3) := by decide +kernel
theorem dX11_mayCome_21 : decode cX11_mayCome 21 = .ok (.invokevirtual 219, 3) := by decide +kernel
theorem dX11_mayCome_24 : decode cX11_mayCome 24 = .ok (.ifCond .eq 26, 3) := by decide +kernel
theorem dX11_mayCome_27 : decode cX11_mayCome 27 = .ok (.aload_n 0, 1) := by decide +kernel
theorem dX11_mayCome_28 : decode cX11_mayCome 28 = .ok (.getfield 115, 3) := by decide +kernel
theorem dX11_mayCome_31 : decode cX11_mayCome 31 = .ok (.aload_n 0, 1) := by decide +kernel
theorem dX11_mayCome_32 : decode cX11_mayCome 32 = .ok (.iload_n 1, 1) := by decide +kernel
theorem dX11_mayCome_33 : decode cX11_mayCome 33 = .ok (.invokevirtual 222, 3) := by decide +kernel
theorem dX11_mayCome_36 : decode cX11_mayCome 36 = .ok (.iadd, 1) := by decide +kernel
theorem dX11_mayCome_37 : decode cX11_mayCome 37 = .ok (.iconst 5, 1) := by decide +kernel
theorem dX11_mayCome_38 : decode cX11_mayCome 38 = .ok (.aload_n 0, 1) := by decide +kernel
theorem dX11_mayCome_39 : decode cX11_mayCome 39 = .ok (.getfield 106, 3) := by decide +kernel
theorem dX11_mayCome_42 : decode cX11_mayCome 42 = .ok (.imul, 1) := by decide +kernel
theorem dX11_mayCome_43 : decode cX11_mayCome 43 = .ok (.if_icmp .ge 7, 3) := by decide +kernel
theorem dX11_mayCome_46 : decode cX11_mayCome 46 = .ok (.iconst 1, 1) := by decide +kernel
theorem dX11_mayCome_47 : decode cX11_mayCome 47 = .ok (.goto 4, 3) := by decide +kernel
theorem dX11_mayCome_50 : decode cX11_mayCome 50 = .ok (.iconst 0, 1) := by decide +kernel
theorem dX11_mayCome_51 : decode cX11_mayCome 51 = .ok (.ireturn, 1) := by decide +kernel
theorem dX11_tellMan_0 : decode cX11_tellMan 0 = .ok (.iload_n 2, 1) := by decide +kernel
theorem dX11_tellMan_1 : decode cX11_tellMan 1 = .ok (.tableswitch 119 0 6 #[43, 43, 54, 60, 74, 94, 105], 43) := by decide +kernel
theorem dX11_tellMan_44 : decode cX11_tellMan 44 = .ok (.aload_n 0, 1) := by decide +kernel
theorem dX11_tellMan_45 : decode cX11_tellMan 45 = .ok (.getfield 35, 3) := by decide +kernel
theorem dX11_tellMan_48 : decode cX11_tellMan 48 = .ok (.iconst 3, 1) := by decide +kernel
theorem dX11_tellMan_49 : decode cX11_tellMan 49 = .ok (.iload_n 1, 1) := by decide +kernel
theorem dX11_tellMan_50 : decode cX11_tellMan 50 = .ok (.imul, 1) := by decide +kernel
theorem dX11_tellMan_51 : decode cX11_tellMan 51 = .ok (.iload_n 2, 1) := by decide +kernel
theorem dX11_tellMan_52 : decode cX11_tellMan 52 = .ok (.iadd, 1) := by decide +kernel
theorem dX11_tellMan_53 : decode cX11_tellMan 53 = .ok (.iaload, 1) := by decide +kernel
theorem dX11_tellMan_54 : decode cX11_tellMan 54 = .ok (.ireturn, 1) := by decide +kernel
theorem dX11_tellMan_55 : decode cX11_tellMan 55 = .ok (.aload_n 0, 1) := by decide +kernel
theorem dX11_tellMan_56 : decode cX11_tellMan 56 = .ok (.iload_n 1, 1) := by decide +kernel
theorem dX11_tellMan_57 : decode cX11_tellMan 57 = .ok (.invokevirtual 222, 3) := by decide +kernel
theorem dX11_tellMan_60 : decode cX11_tellMan 60 = .ok (.ireturn, 1) := by decide +kernel
theorem dX11_tellMan_61 : decode cX11_tellMan 61 = .ok (.aload_n 0, 1) := by decide +kernel
theorem dX11_tellMan_62 : decode cX11_tellMan 62 = .ok (.iload_n 1, 1) := by decide +kernel
theorem dX11_tellMan_63 : decode cX11_tellMan 63 = .ok (.invokevirtual 213, 3) := by decide +kernel
theorem dX11_tellMan_66 : decode cX11_tellMan 66 = .ok (.ifCond .eq 7, 3) := by decide +kernel
theorem dX11_tellMan_69 : decode cX11_tellMan 69 = .ok (.iconst 1, 1) := by decide +kernel
theorem dX11_tellMan_70 : decode cX11_tellMan 70 = .ok (.goto 4, 3) := by decide +kernel
theorem dX11_tellMan_73 : decode cX11_tellMan 73 = .ok (.iconst 0, 1) := by decide +kernel
theorem dX11_tellMan_74 : decode cX11_tellMan 74 = .ok (.ireturn, 1) := by decide +kernel
theorem dX11_tellMan_75 : decode cX11_tellMan 75 = .ok (.aload_n 0, 1) := by decide +kernel
theorem dX11_tellMan_76 : decode cX11_tellMan 76 = .ok (.getfield 35, 3) := by decide +kernel
theorem dX11_tellMan_79 : decode cX11_tellMan 79 = .ok (.iconst 3, 1) := by decide +kernel
theorem dX11_tellMan_80 : decode cX11_tellMan 80 = .ok (.iload_n 1, 1) := by decide +kernel
theorem dX11_tellMan_81 : decode cX11_tellMan 81 = .ok (.imul, 1) := by decide +kernel
theorem dX11_tellMan_82 : decode cX11_tellMan 82 = .ok (.iconst 2, 1) := by decide +kernel
theorem dX11_tellMan_83 : decode cX11_tellMan 83 = .ok (.iadd, 1) := by decide +kernel
theorem dX11_tellMan_84 : decode cX11_tellMan 84 = .ok (.iaload, 1) := by decide +kernel
theorem dX11_tellMan_85 : decode cX11_tellMan 85 = .ok (.iconst (-1), 1) := by decide +kernel
theorem dX11_tellMan_86 : decode cX11_tellMan 86 = .ok (.if_icmp .ne 7, 3) := by decide +kernel
theorem dX11_tellMan_89 : decode cX11_tellMan 89 = .ok (.iconst 0, 1) := by decide +kernel
theorem dX11_tellMan_90 : decode cX11_tellMan 90 = .ok (.goto 4, 3) := by decide +kernel
theorem dX11_tellMan_93 : decode cX11_tellMan 93 = .ok (.iconst 1, 1) := by decide +kernel
theorem dX11_tellMan_94 : decode cX11_tellMan 94 = .ok (.ireturn, 1) := by decide +kernel
theorem dX11_tellMan_95 : decode cX11_tellMan 95 = .ok (.aload_n 0, 1) := by decide +kernel
theorem dX11_tellMan_96 : decode cX11_tellMan 96 = .ok (.getfield 35, 3) := by decide +kernel
theorem dX11_tellMan_99 : decode cX11_tellMan 99 = .ok (.iconst 3, 1) := by decide +kernel
theorem dX11_tellMan_100 : decode cX11_tellMan 100 = .ok (.iload_n 1, 1) := by decide +kernel
theorem dX11_tellMan_101 : decode cX11_tellMan 101 = .ok (.imul, 1) := by decide +kernel
theorem dX11_tellMan_102 : decode cX11_tellMan 102 = .ok (.iconst 2, 1) := by decide +kernel
theorem dX11_tellMan_103 : decode cX11_tellMan 103 = .ok (.iadd, 1) := by decide +kernel
theorem dX11_tellMan_104 : decode cX11_tellMan 104 = .ok (.iaload, 1) := by decide +kernel
theorem dX11_tellMan_105 : decode cX11_tellMan 105 = .ok (.ireturn, 1) := by decide +kernel
theorem dX11_tellMan_106 : decode cX11_tellMan 106 = .ok (.aload_n 0, 1) := by decide +kernel
theorem dX11_tellMan_107 : decode cX11_tellMan 107 = .ok (.iload_n 1, 1) := by decide +kernel
theorem dX11_tellMan_108 : decode cX11_tellMan 108 = .ok (.invokevirtual 225, 3) := by decide +kernel
theorem dX11_tellMan_111 : decode cX11_tellMan 111 = .ok (.ifCond .eq 7, 3) := by decide +kernel
theorem dX11_tellMan_114 : decode cX11_tellMan 114 = .ok (.iconst 1, 1) := by decide +kernel
theorem dX11_tellMan_115 : decode cX11_tellMan 115 = .ok (.goto 4, 3) := by decide +kernel
theorem dX11_tellMan_118 : decode cX11_tellMan 118 = .ok (.iconst 0, 1) := by decide +kernel
theorem dX11_tellMan_119 : decode cX11_tellMan 119 = .ok (.ireturn, 1) := by decide +kernel
theorem dX11_tellMan_120 : decode cX11_tellMan 120 = .ok (.bipush (-102), 2) := by decide +kernel
theorem dX11_tellMan_122 : decode cX11_tellMan 122 = .ok (.ireturn, 1) := by decide +kernel
theorem dX11_about_0 : decode cX11_about 0 = .ok (.aload_n 0, 1) := by decide +kernel
theorem dX11_about_1 : decode cX11_about 1 = .ok (.iload_n 1, 1) := by decide +kernel
theorem dX11_about_2 : decode cX11_about 2 = .ok (.invokevirtual 228, 3) := by decide +kernel
theorem dX11_about_5 : decode cX11_about 5 = .ok (.ifCond .eq 12, 3) := by decide +kernel
theorem dX11_about_8 : decode cX11_about 8 = .ok (.aload_n 0, 1) := by decide +kernel
theorem dX11_about_9 : decode cX11_about 9 = .ok (.iload_n 1, 1) := by decide +kernel
theorem dX11_about_10 : decode cX11_about 10 = .ok (.iload_n 2, 1) := by decide +kernel
theorem dX11_about_11 : decode cX11_about 11 = .ok (.invokevirtual 231, 3) := by decide +kernel
theorem dX11_about_14 : decode cX11_about 14 = .ok (.goto 5, 3) := by decide +kernel
theorem dX11_about_17 : decode cX11_about 17 = .ok (.bipush (-101), 2) := by decide +kernel
theorem dX11_about_19 : decode cX11_about 19 = .ok (.ireturn, 1) := by decide +kernel
theorem dX11_as_0 : decode cX11_as 0 = .ok (.aload_n 0, 1) := by decide +kernel
theorem dX11_as_1 : decode cX11_as 1 = .ok (.iload_n 1, 1) := by decide +kernel
theorem dX11_as_2 : decode cX11_as 2 = .ok (.invokevirtual 228, 3) := by decide +kernel
theorem dX11_as_5 : decode cX11_as 5 = .ok (.ifCond .ne 6, 3) := by decide +kernel
theorem dX11_as_8 : decode cX11_as 8 = .ok (.bipush (-101), 2) := by decide +kernel
theorem dX11_as_10 : decode cX11_as 10 = .ok (.ireturn, 1) := by decide +kernel
theorem dX11_as_11 : decode cX11_as 11 = .ok (.iload_n 2, 1) := by decide +kernel
theorem dX11_as_12 : decode cX11_as 12 = .ok (.i2l, 1) := by decide +kernel
theorem dX11_as_13 : decode cX11_as 13 = .ok (.lconst 0, 1) := by decide +kernel
theorem dX11_as_14 : decode cX11_as 14 = .ok (.ldc2_w 139, 3) := by decide +kernel
theorem dX11_as_17 : decode cX11_as 17 = .ok (.invokestatic 77, 3) := by decide +kernel
theorem dX11_as_20 : decode cX11_as 20 = .ok (.ifCond .ne 6, 3) := by decide +kernel
theorem dX11_as_23 : decode cX11_as 23 = .ok (.bipush (-102), 2) := by decide +kernel
theorem dX11_as_25 : decode cX11_as 25 = .ok (.ireturn, 1) := by decide +kernel
theorem dX11_as_26 : decode cX11_as 26 = .ok (.aload_n 0, 1) := by decide +kernel
theorem dX11_as_27 : decode cX11_as 27 = .ok (.getfield 35, 3) := by decide +kernel
theorem dX11_as_30 : decode cX11_as 30 = .ok (.iconst 3, 1) := by decide +kernel
theorem dX11_as_31 : decode cX11_as 31 = .ok (.iload_n 1, 1) := by decide +kernel
theorem dX11_as_32 : decode cX11_as 32 = .ok (.imul, 1) := by decide +kernel
theorem dX11_as_33 : decode cX11_as 33 = .ok (.iaload, 1) := by decide +kernel
theorem dX11_as_34 : decode cX11_as 34 = .ok (.istore_n 3, 1) := by decide +kernel
theorem dX11_as_35 : decode cX11_as 35 = .ok (.iload_n 2, 1) := by decide +kernel
theorem dX11_as_36 : decode cX11_as 36 = .ok (.ifCond .eq 18, 3) := by decide +kernel
theorem dX11_as_39 : decode cX11_as 39 = .ok (.iload_n 2, 1) := by decide +kernel
theorem dX11_as_40 : decode cX11_as 40 = .ok (.iload_n 3, 1) := by decide +kernel
theorem dX11_as_41 : decode cX11_as 41 = .ok (.if_icmp .eq 13, 3) := by decide +kernel
theorem dX11_as_44 : decode cX11_as 44 = .ok (.iload_n 2, 1) := by decide +kernel
theorem dX11_as_45 : decode cX11_as 45 = .ok (.iconst 2, 1) := by decide +kernel
theorem dX11_as_46 : decode cX11_as 46 = .ok (.if_icmp .ne 12, 3) := by decide +kernel
theorem dX11_as_49 : decode cX11_as 49 = .ok (.iload_n 3, 1) := by decide +kernel
theorem dX11_as_50 : decode cX11_as 50 = .ok (.iconst 4, 1) := by decide +kernel
theorem dX11_as_51 : decode cX11_as 51 = .ok (.if_icmp .ne 7, 3) := by decide +kernel
theorem dX11_as_54 : decode cX11_as 54 = .ok (.iconst 1, 1) := by decide +kernel
theorem dX11_as_55 : decode cX11_as 55 = .ok (.goto 4, 3) := by decide +kernel
theorem dX11_as_58 : decode cX11_as 58 = .ok (.iconst 0, 1) := by decide +kernel
theorem dX11_as_59 : decode cX11_as 59 = .ok (.istore 4, 2) := by decide +kernel
theorem dX11_as_61 : decode cX11_as 61 = .ok (.iload 4, 2) := by decide +kernel
theorem dX11_as_63 : decode cX11_as 63 = .ok (.ifCond .eq 7, 3) := by decide +kernel
theorem dX11_as_66 : decode cX11_as 66 = .ok (.iload_n 1, 1) := by decide +kernel
theorem dX11_as_67 : decode cX11_as 67 = .ok (.goto 4, 3) := by decide +kernel
theorem dX11_as_70 : decode cX11_as 70 = .ok (.iconst (-1), 1) := by decide +kernel
theorem dX11_as_71 : decode cX11_as 71 = .ok (.ireturn, 1) := by decide +kernel
theorem dX11_behind_0 : decode cX11_behind 0 = .ok (.aload_n 0, 1) := by decide +kernel
theorem dX11_behind_1 : decode cX11_behind 1 = .ok (.iload_n 1, 1) := by decide +kernel
theorem dX11_behind_2 : decode cX11_behind 2 = .ok (.invokevirtual 228, 3) := by decide +kernel
theorem dX11_behind_5 : decode cX11_behind 5 = .ok (.ifCond .eq 16, 3) := by decide +kernel
theorem dX11_behind_8 : decode cX11_behind 8 = .ok (.aload_n 0, 1) := by decide +kernel
theorem dX11_behind_9 : decode cX11_behind 9 = .ok (.iload_n 2, 1) := by decide +kernel
theorem dX11_behind_10 : decode cX11_behind 10 = .ok (.invokevirtual 228, 3) := by decide +kernel
theorem dX11_behind_13 : decode cX11_behind 13 = .ok (.ifCond .eq 8, 3) := by decide +kernel
theorem dX11_behind_16 : decode cX11_behind 16 = .ok (.iload_n 1, 1) := by decide +kernel
theorem dX11_behind_17 : decode cX11_behind 17 = .ok (.iload_n 2, 1) := by decide +kernel
theorem dX11_behind_18 : decode cX11_behind 18 = .ok (.if_icmp .ne 6, 3) := by decide +kernel
theorem dX11_behind_21 : decode cX11_behind 21 = .ok (.bipush (-101), 2) := by decide +kernel
theorem dX11_behind_23 : decode cX11_behind 23 = .ok (.ireturn, 1) := by decide +kernel
theorem dX11_behind_24 : decode cX11_behind 24 = .ok (.aload_n 0, 1) := by decide +kernel
theorem dX11_behind_25 : decode cX11_behind 25 = .ok (.getfield 38, 3) := by decide +kernel
theorem dX11_behind_28 : decode cX11_behind 28 = .ok (.iload_n 1, 1) := by decide +kernel
theorem dX11_behind_29 : decode cX11_behind 29 = .ok (.iaload, 1) := by decide +kernel
theorem dX11_behind_30 : decode cX11_behind 30 = .ok (.iload_n 2, 1) := by decide +kernel
theorem dX11_behind_31 : decode cX11_behind 31 = .ok (.ishr, 1) := by decide +kernel
theorem dX11_behind_32 : decode cX11_behind 32 = .ok (.iconst 1, 1) := by decide +kernel
theorem dX11_behind_33 : decode cX11_behind 33 = .ok (.iand, 1) := by decide +kernel
theorem dX11_behind_34 : decode cX11_behind 34 = .ok (.istore 4, 2) := by decide +kernel
theorem dX11_behind_36 : decode cX11_behind 36 = .ok (.aload_n 0, 1) := by decide +kernel
theorem dX11_behind_37 : decode cX11_behind 37 = .ok (.getfield 38, 3) := by decide +kernel
theorem dX11_behind_40 : decode cX11_behind 40 = .ok (.iload_n 1, 1) := by decide +kernel
theorem dX11_behind_41 : decode cX11_behind 41 = .ok (.iload_n 3, 1) := by decide +kernel
theorem dX11_behind_42 : decode cX11_behind 42 = .ok (.ifCond .eq 16, 3) := by decide +kernel
theorem dX11_behind_45 : decode cX11_behind 45 = .ok (.aload_n 0, 1) := by decide +kernel
theorem dX11_behind_46 : decode cX11_behind 46 = .ok (.getfield 38, 3) := by decide +kernel
theorem dX11_behind_49 : decode cX11_behind 49 = .ok (.iload_n 1, 1) := by decide +kernel
theorem dX11_behind_50 : decode cX11_behind 50 = .ok (.iaload, 1) := by decide +kernel
theorem dX11_behind_51 : decode cX11_behind 51 = .ok (.iconst 1, 1) := by decide +kernel
theorem dX11_behind_52 : decode cX11_behind 52 = .ok (.iload_n 2, 1) := by decide +kernel
theorem dX11_behind_53 : decode cX11_behind 53 = .ok (.ishl, 1) := by decide +kernel
theorem dX11_behind_54 : decode cX11_behind 54 = .ok (.ior, 1) := by decide +kernel
theorem dX11_behind_55 : decode cX11_behind 55 = .ok (.goto 15, 3) := by decide +kernel
theorem dX11_behind_58 : decode cX11_behind 58 = .ok (.aload_n 0, 1) := by decide +kernel
theorem dX11_behind_59 : decode cX11_behind 59 = .ok (.getfield 38, 3) := by decide +kernel
theorem dX11_behind_62 : decode cX11_behind 62 = .ok (.iload_n 1, 1) := by decide +kernel
theorem dX11_behind_63 : decode cX11_behind 63 = .ok (.iaload, 1) := by decide +kernel
theorem dX11_behind_64 : decode cX11_behind 64 = .ok (.iconst 1, 1) := by decide +kernel
theorem dX11_behind_65 : decode cX11_behind 65 = .ok (.iload_n 2, 1) := by decide +kernel
theorem dX11_behind_66 : decode cX11_behind 66 = .ok (.ishl, 1) := by decide +kernel
theorem dX11_behind_67 : decode cX11_behind 67 = .ok (.iconst (-1), 1) := by decide +kernel
theorem dX11_behind_68 : decode cX11_behind 68 = .ok (.ixor, 1) := by decide +kernel
theorem dX11_behind_69 : decode cX11_behind 69 = .ok (.iand, 1) := by decide +kernel
theorem dX11_behind_70 : decode cX11_behind 70 = .ok (.iastore, 1) := by decide +kernel
theorem dX11_behind_71 : decode cX11_behind 71 = .ok (.iload 4, 2) := by decide +kernel
theorem dX11_behind_73 : decode cX11_behind 73 = .ok (.ireturn, 1) := by decide +kernel
theorem dX11_hawser_0 : decode cX11_hawser 0 = .ok (.iload_n 1, 1) := by decide +kernel
theorem dX11_hawser_1 : decode cX11_hawser 1 = .ok (.i2l, 1) := by decide +kernel
theorem dX11_hawser_2 : decode cX11_hawser 2 = .ok (.lconst 0, 1) := by decide +kernel
theorem dX11_hawser_3 : decode cX11_hawser 3 = .ok (.ldc2_w 234, 3) := by decide +kernel
theorem dX11_hawser_6 : decode cX11_hawser 6 = .ok (.invokestatic 77, 3) := by decide +kernel
theorem dX11_hawser_9 : decode cX11_hawser 9 = .ok (.ifCond .ne 6, 3) := by decide +kernel
theorem dX11_hawser_12 : decode cX11_hawser 12 = .ok (.bipush (-102), 2) := by decide +kernel
theorem dX11_hawser_14 : decode cX11_hawser 14 = .ok (.ireturn, 1) := by decide +kernel
theorem dX11_hawser_15 : decode cX11_hawser 15 = .ok (.aload_n 0, 1) := by decide +kernel
theorem dX11_hawser_16 : decode cX11_hawser 16 = .ok (.invokevirtual 145, 3) := by decide +kernel
theorem dX11_hawser_19 : decode cX11_hawser 19 = .ok (.ifCond .eq 6, 3) := by decide +kernel
theorem dX11_hawser_22 : decode cX11_hawser 22 = .ok (.bipush (-103), 2) := by decide +kernel
theorem dX11_hawser_24 : decode cX11_hawser 24 = .ok (.ireturn, 1) := by decide +kernel
theorem dX11_hawser_25 : decode cX11_hawser 25 = .ok (.aload_n 0, 1) := by decide +kernel
theorem dX11_hawser_26 : decode cX11_hawser 26 = .ok (.getfield 72, 3) := by decide +kernel
theorem dX11_hawser_29 : decode cX11_hawser 29 = .ok (.istore_n 2, 1) := by decide +kernel
theorem dX11_hawser_30 : decode cX11_hawser 30 = .ok (.aload_n 0, 1) := by decide +kernel
theorem dX11_hawser_31 : decode cX11_hawser 31 = .ok (.iload_n 1, 1) := by decide +kernel
theorem dX11_hawser_32 : decode cX11_hawser 32 = .ok (.putfield 72, 3) := by decide +kernel
theorem dX11_hawser_35 : decode cX11_hawser 35 = .ok (.iload_n 2, 1) := by decide +kernel
theorem dX11_hawser_36 : decode cX11_hawser 36 = .ok (.ireturn, 1) := by decide +kernel
theorem dX11_come_0 : decode cX11_come 0 = .ok (.aload_n 0, 1) := by decide +kernel
theorem dX11_come_1 : decode cX11_come 1 = .ok (.iload_n 1, 1) := by decide +kernel
theorem dX11_come_2 : decode cX11_come 2 = .ok (.invokevirtual 228, 3) := by decide +kernel
theorem dX11_come_5 : decode cX11_come 5 = .ok (.ifCond .ne 6, 3) := by decide +kernel
theorem dX11_come_8 : decode cX11_come 8 = .ok (.bipush (-101), 2) := by decide +kernel
theorem dX11_come_10 : decode cX11_come 10 = .ok (.ireturn, 1) := by decide +kernel
theorem dX11_come_11 : decode cX11_come 11 = .ok (.aload_n 0, 1) := by decide +kernel
theorem dX11_come_12 : decode cX11_come 12 = .ok (.iload_n 1, 1) := by decide +kernel
theorem dX11_come_13 : decode cX11_come 13 = .ok (.invokevirtual 225, 3) := by decide +kernel
theorem dX11_come_16 : decode cX11_come 16 = .ok (.ifCond .ne 6, 3) := by decide +kernel
theorem dX11_come_19 : decode cX11_come 19 = .ok (.bipush (-103), 2) := by decide +kernel
theorem dX11_come_21 : decode cX11_come 21 = .ok (.ireturn, 1) := by decide +kernel
theorem dX11_come_22 : decode cX11_come 22 = .ok (.aload_n 0, 1) := by decide +kernel
theorem dX11_come_23 : decode cX11_come 23 = .ok (.dup, 1) := by decide +kernel
theorem dX11_come_24 : decode cX11_come 24 = .ok (.getfield 115, 3) := by decide +kernel
theorem dX11_come_27 : decode cX11_come 27 = .ok (.aload_n 0, 1) := by decide +kernel
theorem dX11_come_28 : decode cX11_come 28 = .ok (.iload_n 1, 1) := by decide +kernel
theorem dX11_come_29 : decode cX11_come 29 = .ok (.invokevirtual 222, 3) := by decide +kernel
theorem dX11_come_32 : decode cX11_come 32 = .ok (.iadd, 1) := by decide +kernel
theorem dX11_come_33 : decode cX11_come 33 = .ok (.putfield 115, 3) := by decide +kernel
theorem dX11_come_36 : decode cX11_come 36 = .ok (.aload_n 0, 1) := by decide +kernel
theorem dX11_come_37 : decode cX11_come 37 = .ok (.getfield 35, 3) := by decide +kernel
theorem dX11_come_40 : decode cX11_come 40 = .ok (.iconst 3, 1) := by decide +kernel
theorem dX11_come_41 : decode cX11_come 41 = .ok (.iload_n 1, 1) := by decide +kernel
theorem dX11_come_42 : decode cX11_come 42 = .ok (.imul, 1) := by decide +kernel
theorem dX11_come_43 : decode cX11_come 43 = .ok (.iconst 2, 1) := by decide +kernel
theorem dX11_come_44 : decode cX11_come 44 = .ok (.iadd, 1) := by decide +kernel
theorem dX11_come_45 : decode cX11_come 45 = .ok (.aload_n 0, 1) := by decide +kernel
theorem dX11_come_46 : decode cX11_come 46 = .ok (.getfield 115, 3) := by decide +kernel
theorem dX11_come_49 : decode cX11_come 49 = .ok (.iastore, 1) := by decide +kernel
theorem dX11_come_50 : decode cX11_come 50 = .ok (.aload_n 0, 1) := by decide +kernel
theorem dX11_come_51 : decode cX11_come 51 = .ok (.getfield 115, 3) := by decide +kernel
theorem dX11_come_54 : decode cX11_come 54 = .ok (.ireturn, 1) := by decide +kernel
theorem dX11_minutes_0 : decode cX11_minutes 0 = .ok (.iload_n 1, 1) := by decide +kernel
theorem dX11_minutes_1 : decode cX11_minutes 1 = .ok (.i2l, 1) := by decide +kernel
theorem dX11_minutes_2 : decode cX11_minutes 2 = .ok (.lconst 1, 1) := by decide +kernel
theorem dX11_minutes_3 : decode cX11_minutes 3 = .ok (.ldc2_w 236, 3) := by decide +kernel
theorem dX11_minutes_6 : decode cX11_minutes 6 = .ok (.invokestatic 77, 3) := by decide +kernel
theorem dX11_minutes_9 : decode cX11_minutes 9 = .ok (.ifCond .ne 6, 3) := by decide +kernel
theorem dX11_minutes_12 : decode cX11_minutes 12 = .ok (.bipush (-102), 2) := by decide +kernel
theorem dX11_minutes_14 : decode cX11_minutes 14 = .ok (.ireturn, 1) := by decide +kernel
theorem dX11_minutes_15 : decode cX11_minutes 15 = .ok (.aload_n 0, 1) := by decide +kernel
theorem dX11_minutes_16 : decode cX11_minutes 16 = .ok (.invokevirtual 145, 3) := by decide +kernel
theorem dX11_minutes_19 : decode cX11_minutes 19 = .ok (.ifCond .ne 26, 3) := by decide +kernel
theorem dX11_minutes_22 : decode cX11_minutes 22 = .ok (.aload_n 0, 1) := by decide +kernel
theorem dX11_minutes_23 : decode cX11_minutes 23 = .ok (.getfield 121, 3) := by decide +kernel
theorem dX11_minutes_26 : decode cX11_minutes 26 = .ok (.iconst 1, 1) := by decide +kernel
theorem dX11_minutes_27 : decode cX11_minutes 27 = .ok (.if_icmp .eq 18, 3) := by decide +kernel
theorem dX11_minutes_30 : decode cX11_minutes 30 = .ok (.aload_n 0, 1) := by decide +kernel
theorem dX11_minutes_31 : decode cX11_minutes 31 = .ok (.getfield 115, 3) := by decide +kernel
theorem dX11_minutes_34 : decode cX11_minutes 34 = .ok (.iload_n 1, 1) := by decide +kernel
theorem dX11_minutes_35 : decode cX11_minutes 35 = .ok (.iadd, 1) := by decide +kernel
theorem dX11_minutes_36 : decode cX11_minutes 36 = .ok (.iconst 5, 1) := by decide +kernel
theorem dX11_minutes_37 : decode cX11_minutes 37 = .ok (.aload_n 0, 1) := by decide +kernel
theorem dX11_minutes_38 : decode cX11_minutes 38 = .ok (.getfield 106, 3) := by decide +kernel
theorem dX11_minutes_41 : decode cX11_minutes 41 = .ok (.imul, 1) := by decide +kernel
theorem dX11_minutes_42 : decode cX11_minutes 42 = .ok (.if_icmp .lt 6, 3) := by decide +kernel
theorem dX11_minutes_45 : decode cX11_minutes 45 = .ok (.bipush (-103), 2) := by decide +kernel
theorem dX11_minutes_47 : decode cX11_minutes 47 = .ok (.ireturn, 1) := by decide +kernel
theorem dX11_minutes_48 : decode cX11_minutes 48 = .ok (.aload_n 0, 1) := by decide +kernel
theorem dX11_minutes_49 : decode cX11_minutes 49 = .ok (.dup, 1) := by decide +kernel
theorem dX11_minutes_50 : decode cX11_minutes 50 = .ok (.getfield 115, 3) := by decide +kernel
theorem dX11_minutes_53 : decode cX11_minutes 53 = .ok (.iload_n 1, 1) := by decide +kernel
theorem dX11_minutes_54 : decode cX11_minutes 54 = .ok (.iadd, 1) := by decide +kernel
theorem dX11_minutes_55 : decode cX11_minutes 55 = .ok (.putfield 115, 3) := by decide +kernel
theorem dX11_minutes_58 : decode cX11_minutes 58 = .ok (.aload_n 0, 1) := by decide +kernel
theorem dX11_minutes_59 : decode cX11_minutes 59 = .ok (.getfield 115, 3) := by decide +kernel
theorem dX11_minutes_62 : decode cX11_minutes 62 = .ok (.ireturn, 1) := by decide +kernel
theorem dX11_ones_0 : decode cX11_ones 0 = .ok (.iconst 0, 1) := by decide +kernel
theorem dX11_ones_1 : decode cX11_ones 1 = .ok (.istore_n 1, 1) := by decide +kernel
theorem dX11_ones_2 : decode cX11_ones 2 = .ok (.iconst 0, 1) := by decide +kernel
theorem dX11_ones_3 : decode cX11_ones 3 = .ok (.istore_n 2, 1) := by decide +kernel
theorem dX11_ones_4 : decode cX11_ones 4 = .ok (.iload_n 2, 1) := by decide +kernel
theorem dX11_ones_5 : decode cX11_ones 5 = .ok (.bipush 6, 2) := by decide +kernel
theorem dX11_ones_7 : decode cX11_ones 7 = .ok (.if_icmp .ge 17, 3) := by decide +kernel
theorem dX11_ones_10 : decode cX11_ones 10 = .ok (.iload_n 1, 1) := by decide +kernel
theorem dX11_ones_11 : decode cX11_ones 11 = .ok (.iload_n 0, 1) := by decide +kernel
theorem dX11_ones_12 : decode cX11_ones 12 = .ok (.iload_n 2, 1) := by decide +kernel
theorem dX11_ones_13 : decode cX11_ones 13 = .ok (.ishr, 1) := by decide +kernel
theorem dX11_ones_14 : decode cX11_ones 14 = .ok (.iconst 1, 1) := by decide +kernel
theorem dX11_ones_15 : decode cX11_ones 15 = .ok (.iand, 1) := by decide +kernel
theorem dX11_ones_16 : decode cX11_ones 16 = .ok (.iadd, 1) := by decide +kernel
theorem dX11_ones_17 : decode cX11_ones 17 = .ok (.istore_n 1, 1) := by decide +kernel
theorem dX11_ones_18 : decode cX11_ones 18 = .ok (.iinc 2 1, 3) := by decide +kernel
theorem dX11_ones_21 : decode cX11_ones 21 = .ok (.goto (-17), 3) := by decide +kernel
theorem dX11_ones_24 : decode cX11_ones 24 = .ok (.iload_n 1, 1) := by decide +kernel
theorem dX11_ones_25 : decode cX11_ones 25 = .ok (.ireturn, 1) := by decide +kernel
theorem dX11_breaks_0 : decode cX11_breaks 0 = .ok (.aload_n 0, 1) := by decide +kernel
theorem dX11_breaks_1 : decode cX11_breaks 1 = .ok (.invokevirtual 145, 3) := by decide +kernel
theorem dX11_breaks_4 : decode cX11_breaks 4 = .ok (.ifCond .ne 11, 3) := by decide +kernel
theorem dX11_breaks_7 : decode cX11_breaks 7 = .ok (.aload_n 0, 1) := by decide +kernel
theorem dX11_breaks_8 : decode cX11_breaks 8 = .ok (.getfield 121, 3) := by decide +kernel
theorem dX11_breaks_11 : decode cX11_breaks 11 = .ok (.iconst 1, 1) := by decide +kernel
theorem dX11_breaks_12 : decode cX11_breaks 12 = .ok (.if_icmp .ne 6, 3) := by decide +kernel
theorem dX11_breaks_15 : decode cX11_breaks 15 = .ok (.bipush (-103), 2) := by decide +kernel
theorem dX11_breaks_17 : decode cX11_breaks 17 = .ok (.ireturn, 1) := by decide +kernel
theorem dX11_breaks_18 : decode cX11_breaks 18 = .ok (.aload_n 0, 1) := by decide +kernel
theorem dX11_breaks_19 : decode cX11_breaks 19 = .ok (.iconst 1, 1) := by decide +kernel
theorem dX11_breaks_20 : decode cX11_breaks 20 = .ok (.putfield 121, 3) := by decide +kernel
theorem dX11_breaks_23 : decode cX11_breaks 23 = .ok (.aload_n 0, 1) := by decide +kernel
theorem dX11_breaks_24 : decode cX11_breaks 24 = .ok (.getfield 127, 3) := by decide +kernel
theorem dX11_breaks_27 : decode cX11_breaks 27 = .ok (.aload_n 0, 1) := by decide +kernel
theorem dX11_breaks_28 : decode cX11_breaks 28 = .ok (.invokevirtual 216, 3) := by decide +kernel
theorem dX11_breaks_31 : decode cX11_breaks 31 = .ok (.invokestatic 238, 3) := by decide +kernel
theorem dX11_breaks_34 : decode cX11_breaks 34 = .ok (.isub, 1) := by decide +kernel
theorem dX11_breaks_35 : decode cX11_breaks 35 = .ok (.ireturn, 1) := by decide +kernel
theorem dX11_firstOrder_0 : decode cX11_firstOrder 0 = .ok (.aload_n 0, 1) := by decide +kernel
theorem dX11_firstOrder_1 : decode cX11_firstOrder 1 = .ok (.iconst 0, 1) := by decide +kernel
theorem dX11_firstOrder_2 : decode cX11_firstOrder 2 = .ok (.putfield 241, 3) := by decide +kernel
theorem dX11_firstOrder_5 : decode cX11_firstOrder 5 = .ok (.iconst 0, 1) := by decide +kernel
theorem dX11_firstOrder_6 : decode cX11_firstOrder 6 = .ok (.istore_n 2, 1) := by decide +kernel
theorem dX11_firstOrder_7 : decode cX11_firstOrder 7 = .ok (.iload_n 2, 1) := by decide +kernel
theorem dX11_firstOrder_8 : decode cX11_firstOrder 8 = .ok (.aload_n 0, 1) := by decide +kernel
theorem dX11_firstOrder_9 : decode cX11_firstOrder 9 = .ok (.getfield 127, 3) := by decide +kernel
theorem dX11_firstOrder_12 : decode cX11_firstOrder 12 = .ok (.if_icmp .ge 38, 3) := by decide +kernel
theorem dX11_firstOrder_15 : decode cX11_firstOrder 15 = .ok (.iload_n 1, 1) := by decide +kernel
theorem dX11_firstOrder_16 : decode cX11_firstOrder 16 = .ok (.iload_n 2, 1) := by decide +kernel
theorem dX11_firstOrder_17 : decode cX11_firstOrder 17 = .ok (.ishr, 1) := by decide +kernel
theorem dX11_firstOrder_18 : decode cX11_firstOrder 18 = .ok (.iconst 1, 1) := by decide +kernel
theorem dX11_firstOrder_19 : decode cX11_firstOrder 19 = .ok (.iand, 1) := by decide +kernel
theorem dX11_firstOrder_20 : decode cX11_firstOrder 20 = .ok (.iconst 1, 1) := by decide +kernel
theorem dX11_firstOrder_21 : decode cX11_firstOrder 21 = .ok (.if_icmp .ne 23, 3) := by decide +kernel
theorem dX11_firstOrder_24 : decode cX11_firstOrder 24 = .ok (.aload_n 0, 1) := by decide +kernel
theorem dX11_firstOrder_25 : decode cX11_firstOrder 25 = .ok (.getfield 41, 3) := by decide +kernel
theorem dX11_firstOrder_28 : decode cX11_firstOrder 28 = .ok (.aload_n 0, 1) := by decide +kernel
theorem dX11_firstOrder_29 : decode cX11_firstOrder 29 = .ok (.getfield 241, 3) := by decide +kernel
theorem dX11_firstOrder_32 : decode cX11_firstOrder 32 = .ok (.iload_n 2, 1) := by decide +kernel
theorem dX11_firstOrder_33 : decode cX11_firstOrder 33 = .ok (.iastore, 1) := by decide +kernel
theorem dX11_firstOrder_34 : decode cX11_firstOrder 34 = .ok (.aload_n 0, 1) := by decide +kernel
theorem dX11_firstOrder_35 : decode cX11_firstOrder 35 = .ok (.dup, 1) := by decide +kernel
theorem dX11_firstOrder_36 : decode cX11_firstOrder 36 = .ok (.getfield 241, 3) := by decide +kernel
theorem dX11_firstOrder_39 : decode cX11_firstOrder 39 = .ok (.iconst 1, 1) := by decide +kernel
theorem dX11_firstOrder_40 : decode cX11_firstOrder 40 = .ok (.iadd, 1) := by decide +kernel
theorem dX11_firstOrder_41 : decode cX11_firstOrder 41 = .ok (.putfield 241, 3) := by decide +kernel
theorem dX11_firstOrder_44 : decode cX11_firstOrder 44 = .ok (.iinc 2 1, 3) := by decide +kernel
theorem dX11_firstOrder_47 : decode cX11_firstOrder 47 = .ok (.goto (-40), 3) := by decide +kernel
theorem dX11_firstOrder_50 : decode cX11_firstOrder 50 = .ok (.return_, 1) := by decide +kernel
theorem dX11_nextOrder_0 : decode cX11_nextOrder 0 = .ok (.aload_n 0, 1) := by decide +kernel
theorem dX11_nextOrder_1 : decode cX11_nextOrder 1 = .ok (.getfield 241, 3) := by decide +kernel
theorem dX11_nextOrder_4 : decode cX11_nextOrder 4 = .ok (.iconst 2, 1) := by decide +kernel
theorem dX11_nextOrder_5 : decode cX11_nextOrder 5 = .ok (.isub, 1) := by decide +kernel
theorem dX11_nextOrder_6 : decode cX11_nextOrder 6 = .ok (.istore_n 1, 1) := by decide +kernel
theorem dX11_nextOrder_7 : decode cX11_nextOrder 7 = .ok (.iload_n 1, 1) := by decide +kernel
theorem dX11_nextOrder_8 : decode cX11_nextOrder 8 = .ok (.ifCond .lt 26, 3) := by decide +kernel
theorem dX11_nextOrder_11 : decode cX11_nextOrder 11 = .ok (.aload_n 0, 1) := by decide +kernel
theorem dX11_nextOrder_12 : decode cX11_nextOrder 12 = .ok (.getfield 41, 3) := by decide +kernel
theorem dX11_nextOrder_15 : decode cX11_nextOrder 15 = .ok (.iload_n 1, 1) := by decide +kernel
theorem dX11_nextOrder_16 : decode cX11_nextOrder 16 = .ok (.iaload, 1) := by decide +kernel
theorem dX11_nextOrder_17 : decode cX11_nextOrder 17 = .ok (.aload_n 0, 1) := by decide +kernel
theorem dX11_nextOrder_18 : decode cX11_nextOrder 18 = .ok (.getfield 41, 3) := by decide +kernel
theorem dX11_nextOrder_21 : decode cX11_nextOrder 21 = .ok (.iload_n 1, 1) := by decide +kernel
theorem dX11_nextOrder_22 : decode cX11_nextOrder 22 = .ok (.iconst 1, 1) := by decide +kernel
theorem dX11_nextOrder_23 : decode cX11_nextOrder 23 = .ok (.iadd, 1) := by decide +kernel
theorem dX11_nextOrder_24 : decode cX11_nextOrder 24 = .ok (.iaload, 1) := by decide +kernel
theorem dX11_nextOrder_25 : decode cX11_nextOrder 25 = .ok (.if_icmp .le 9, 3) := by decide +kernel
theorem dX11_nextOrder_28 : decode cX11_nextOrder 28 = .ok (.iinc 1 (-1), 3) := by decide +kernel
theorem dX11_nextOrder_31 : decode cX11_nextOrder 31 = .ok (.goto (-24), 3) := by decide +kernel
theorem dX11_nextOrder_34 : decode cX11_nextOrder 34 = .ok (.iload_n 1, 1) := by decide +kernel
theorem dX11_nextOrder_35 : decode cX11_nextOrder 35 = .ok (.ifCond .ge 5, 3) := by decide +kernel
theorem dX11_nextOrder_38 : decode cX11_nextOrder 38 = .ok (.iconst 0, 1) := by decide +kernel
theorem dX11_nextOrder_39 : decode cX11_nextOrder 39 = .ok (.ireturn, 1) := by decide +kernel
theorem dX11_nextOrder_40 : decode cX11_nextOrder 40 = .ok (.aload_n 0, 1) := by decide +kernel
theorem dX11_nextOrder_41 : decode cX11_nextOrder 41 = .ok (.getfield 241, 3) := by decide +kernel
theorem dX11_nextOrder_44 : decode cX11_nextOrder 44 = .ok (.iconst 1, 1) := by decide +kernel
theorem dX11_nextOrder_45 : decode cX11_nextOrder 45 = .ok (.isub, 1) := by decide +kernel
theorem dX11_nextOrder_46 : decode cX11_nextOrder 46 = .ok (.istore_n 2, 1) := by decide +kernel
theorem dX11_nextOrder_47 : decode cX11_nextOrder 47 = .ok (.aload_n 0, 1) := by decide +kernel
theorem dX11_nextOrder_48 : decode cX11_nextOrder 48 = .ok (.getfield 41, 3) := by decide +kernel
theorem dX11_nextOrder_51 : decode cX11_nextOrder 51 = .ok (.iload_n 2, 1) := by decide +kernel
theorem dX11_nextOrder_52 : decode cX11_nextOrder 52 = .ok (.iaload, 1) := by decide +kernel
theorem dX11_nextOrder_53 : decode cX11_nextOrder 53 = .ok (.aload_n 0, 1) := by decide +kernel
theorem dX11_nextOrder_54 : decode cX11_nextOrder 54 = .ok (.getfield 41, 3) := by decide +kernel
theorem dX11_nextOrder_57 : decode cX11_nextOrder 57 = .ok (.iload_n 1, 1) := by decide +kernel
theorem dX11_nextOrder_58 : decode cX11_nextOrder 58 = .ok (.iaload, 1) := by decide +kernel
theorem dX11_nextOrder_59 : decode cX11_nextOrder 59 = .ok (.if_icmp .ge 9, 3) := by decide +kernel
theorem dX11_nextOrder_62 : decode cX11_nextOrder 62 = .ok (.iinc 2 (-1), 3) := by decide +kernel
theorem dX11_nextOrder_65 : decode cX11_nextOrder 65 = .ok (.goto (-18), 3) := by decide +kernel
theorem dX11_nextOrder_68 : decode cX11_nextOrder 68 = .ok (.aload_n 0, 1) := by decide +kernel
theorem dX11_nextOrder_69 : decode cX11_nextOrder 69 = .ok (.getfield 41, 3) := by decide +kernel
theorem dX11_nextOrder_72 : decode cX11_nextOrder 72 = .ok (.iload_n 1, 1) := by decide +kernel
theorem dX11_nextOrder_73 : decode cX11_nextOrder 73 = .ok (.iaload, 1) := by decide +kernel
theorem dX11_nextOrder_74 : decode cX11_nextOrder 74 = .ok (.istore_n 3, 1) := by decide +kernel
theorem dX11_nextOrder_75 : decode cX11_nextOrder 75 = .ok (.aload_n 0, 1) := by decide +kernel
theorem dX11_nextOrder_76 : decode cX11_nextOrder 76 = .ok (.getfield 41, 3) := by decide +kernel
theorem dX11_nextOrder_79 : decode cX11_nextOrder 79 = .ok (.iload_n 1, 1) := by decide +kernel
theorem dX11_nextOrder_80 : decode cX11_nextOrder 80 = .ok (.aload_n 0, 1) := by decide +kernel
theorem dX11_nextOrder_81 : decode cX11_nextOrder 81 = .ok (.getfield 41, 3) := by decide +kernel
theorem dX11_nextOrder_84 : decode cX11_nextOrder 84 = .ok (.iload_n 2, 1) := by decide +kernel
theorem dX11_nextOrder_85 : decode cX11_nextOrder 85 = .ok (.iaload, 1) := by decide +kernel
theorem dX11_nextOrder_86 : decode cX11_nextOrder 86 = .ok (.iastore, 1) := by decide +kernel
theorem dX11_nextOrder_87 : decode cX11_nextOrder 87 = .ok (.aload_n 0, 1) := by decide +kernel
theorem dX11_nextOrder_88 : decode cX11_nextOrder 88 = .ok (.getfield 41, 3) := by decide +kernel
theorem dX11_nextOrder_91 : decode cX11_nextOrder 91 = .ok (.iload_n 2, 1) := by decide +kernel
theorem dX11_nextOrder_92 : decode cX11_nextOrder 92 = .ok (.iload_n 3, 1) := by decide +kernel
theorem dX11_nextOrder_93 : decode cX11_nextOrder 93 = .ok (.iastore, 1) := by decide +kernel
theorem dX11_nextOrder_94 : decode cX11_nextOrder 94 = .ok (.aload_n 0, 1) := by decide +kernel
theorem dX11_nextOrder_95 : decode cX11_nextOrder 95 = .ok (.getfield 241, 3) := by decide +kernel
theorem dX11_nextOrder_98 : decode cX11_nextOrder 98 = .ok (.iconst 1, 1) := by decide +kernel
theorem dX11_nextOrder_99 : decode cX11_nextOrder 99 = .ok (.isub, 1) := by decide +kernel
theorem dX11_nextOrder_100 : decode cX11_nextOrder 100 = .ok (.istore 4, 2) := by decide +kernel
theorem dX11_nextOrder_102 : decode cX11_nextOrder 102 = .ok (.iload_n 1, 1) := by decide +kernel
theorem dX11_nextOrder_103 : decode cX11_nextOrder 103 = .ok (.iconst 1, 1) := by decide +kernel
theorem dX11_nextOrder_104 : decode cX11_nextOrder 104 = .ok (.iadd, 1) := by decide +kernel
theorem dX11_nextOrder_105 : decode cX11_nextOrder 105 = .ok (.istore 5, 2) := by decide +kernel
theorem dX11_nextOrder_107 : decode cX11_nextOrder 107 = .ok (.iload 5, 2) := by decide +kernel
theorem dX11_nextOrder_109 : decode cX11_nextOrder 109 = .ok (.iload 4, 2) := by decide +kernel
theorem dX11_nextOrder_111 : decode cX11_nextOrder 111 = .ok (.if_icmp .ge 42, 3) := by decide +kernel
theorem dX11_nextOrder_114 : decode cX11_nextOrder 114 = .ok (.aload_n 0, 1) := by decide +kernel
theorem dX11_nextOrder_115 : decode cX11_nextOrder 115 = .ok (.getfield 41, 3) := by decide +kernel
theorem dX11_nextOrder_118 : decode cX11_nextOrder 118 = .ok (.iload 5, 2) := by decide +kernel
theorem dX11_nextOrder_120 : decode cX11_nextOrder 120 = .ok (.iaload, 1) := by decide +kernel
theorem dX11_nextOrder_121 : decode cX11_nextOrder 121 = .ok (.istore_n 3, 1) := by decide +kernel
theorem dX11_nextOrder_122 : decode cX11_nextOrder 122 = .ok (.aload_n 0, 1) := by decide +kernel
theorem dX11_nextOrder_123 : decode cX11_nextOrder 123 = .ok (.getfield 41, 3) := by decide +kernel
theorem dX11_nextOrder_126 : decode cX11_nextOrder 126 = .ok (.iload 5, 2) := by decide +kernel
theorem dX11_nextOrder_128 : decode cX11_nextOrder 128 = .ok (.aload_n 0, 1) := by decide +kernel
theorem dX11_nextOrder_129 : decode cX11_nextOrder 129 = .ok (.getfield 41, 3) := by decide +kernel
theorem dX11_nextOrder_132 : decode cX11_nextOrder 132 = .ok (.iload 4, 2) := by decide +kernel
theorem dX11_nextOrder_134 : decode cX11_nextOrder 134 = .ok (.iaload, 1) := by decide +kernel
theorem dX11_nextOrder_135 : decode cX11_nextOrder 135 = .ok (.iastore, 1) := by decide +kernel
theorem dX11_nextOrder_136 : decode cX11_nextOrder 136 = .ok (.aload_n 0, 1) := by decide +kernel
theorem dX11_nextOrder_137 : decode cX11_nextOrder 137 = .ok (.getfield 41, 3) := by decide +kernel
theorem dX11_nextOrder_140 : decode cX11_nextOrder 140 = .ok (.iload 4, 2) := by decide +kernel
theorem dX11_nextOrder_142 : decode cX11_nextOrder 142 = .ok (.iload_n 3, 1) := by decide +kernel
theorem dX11_nextOrder_143 : decode cX11_nextOrder 143 = .ok (.iastore, 1) := by decide +kernel
theorem dX11_nextOrder_144 : decode cX11_nextOrder 144 = .ok (.iinc 4 (-1), 3) := by decide +kernel
theorem dX11_nextOrder_147 : decode cX11_nextOrder 147 = .ok (.iinc 5 1, 3) := by decide +kernel
theorem dX11_nextOrder_150 : decode cX11_nextOrder 150 = .ok (.goto (-43), 3) := by decide +kernel
theorem dX11_nextOrder_153 : decode cX11_nextOrder 153 = .ok (.iconst 1, 1) := by decide +kernel
theorem dX11_nextOrder_154 : decode cX11_nextOrder 154 = .ok (.ireturn, 1) := by decide +kernel
theorem dX11_holds_0 : decode cX11_holds 0 = .ok (.ldc2_w 244, 3) := by decide +kernel
theorem dX11_holds_3 : decode cX11_holds 3 = .ok (.lstore_n 2, 1) := by decide +kernel
theorem dX11_holds_4 : decode cX11_holds 4 = .ok (.aload_n 0, 1) := by decide +kernel
theorem dX11_holds_5 : decode cX11_holds 5 = .ok (.invokevirtual 161, 3) := by decide +kernel
theorem dX11_holds_8 : decode cX11_holds 8 = .ok (.istore 4, 2) := by decide +kernel
theorem dX11_holds_10 : decode cX11_holds 10 = .ok (.iload 4, 2) := by decide +kernel
theorem dX11_holds_12 : decode cX11_holds 12 = .ok (.aload_n 0, 1) := by decide +kernel
theorem dX11_holds_13 : decode cX11_holds 13 = .ok (.getfield 106, 3) := by decide +kernel
theorem dX11_holds_16 : decode cX11_holds 16 = .ok (.if_icmp .ge 53, 3) := by decide +kernel
theorem dX11_holds_19 : decode cX11_holds 19 = .ok (.iconst 5, 1) := by decide +kernel
theorem dX11_holds_20 : decode cX11_holds 20 = .ok (.iload 4, 2) := by decide +kernel
theorem dX11_holds_22 : decode cX11_holds 22 = .ok (.imul, 1) := by decide +kernel
theorem dX11_holds_23 : decode cX11_holds 23 = .ok (.iconst 5, 1) := by decide +kernel
theorem dX11_holds_24 : decode cX11_holds 24 = .ok (.iadd, 1) := by decide +kernel
theorem dX11_holds_25 : decode cX11_holds 25 = .ok (.iload_n 1, 1) := by decide +kernel
theorem dX11_holds_26 : decode cX11_holds 26 = .ok (.if_icmp .gt 37, 3) := by decide +kernel
theorem dX11_holds_29 : decode cX11_holds 29 = .ok (.iload 4, 2) := by decide +kernel
theorem dX11_holds_31 : decode cX11_holds 31 = .ok (.aload_n 0, 1) := by decide +kernel
theorem dX11_holds_32 : decode cX11_holds 32 = .ok (.getfield 106, 3) := by decide +kernel
theorem dX11_holds_35 : decode cX11_holds 35 = .ok (.iconst 1, 1) := by decide +kernel
theorem dX11_holds_36 : decode cX11_holds 36 = .ok (.isub, 1) := by decide +kernel
theorem dX11_holds_37 : decode cX11_holds 37 = .ok (.if_icmp .ne 7, 3) := by decide +kernel
theorem dX11_holds_40 : decode cX11_holds 40 = .ok (.lconst 0, 1) := by decide +kernel
theorem dX11_holds_41 : decode cX11_holds 41 = .ok (.goto 21, 3) := by decide +kernel
theorem dX11_holds_44 : decode cX11_holds 44 = .ok (.lload_n 2, 1) := by decide +kernel
theorem dX11_holds_45 : decode cX11_holds 45 = .ok (.ldc2_w 141, 3) := by decide +kernel
theorem dX11_holds_48 : decode cX11_holds 48 = .ok (.ldiv, 1) := by decide +kernel
theorem dX11_holds_49 : decode cX11_holds 49 = .ok (.ldc2_w 141, 3) := by decide +kernel
theorem dX11_holds_52 : decode cX11_holds 52 = .ok (.aload_n 0, 1) := by decide +kernel
theorem dX11_holds_53 : decode cX11_holds 53 = .ok (.getfield 22, 3) := by decide +kernel
theorem dX11_holds_56 : decode cX11_holds 56 = .ok (.iload 4, 2) := by decide +kernel
theorem dX11_holds_58 : decode cX11_holds 58 = .ok (.iaload, 1) := by decide +kernel
theorem dX11_holds_59 : decode cX11_holds 59 = .ok (.i2l, 1) := by decide +kernel
theorem dX11_holds_60 : decode cX11_holds 60 = .ok (.lsub, 1) := by decide +kernel
theorem dX11_holds_61 : decode cX11_holds 61 = .ok (.lmul, 1) := by decide +kernel
theorem dX11_holds_62 : decode cX11_holds 62 = .ok (.lstore_n 2, 1) := by decide +kernel
theorem dX11_holds_63 : decode cX11_holds 63 = .ok (.iinc 4 1, 3) := by decide +kernel
theorem dX11_holds_66 : decode cX11_holds 66 = .ok (.goto (-56), 3) := by decide +kernel
theorem dX11_holds_69 : decode cX11_holds 69 = .ok (.lload_n 2, 1) := by decide +kernel
theorem dX11_holds_70 : decode cX11_holds 70 = .ok (.lreturn, 1) := by decide +kernel
theorem dX11_meanOf_0 : decode cX11_meanOf 0 = .ok (.aload_n 0, 1) := by decide +kernel
theorem dX11_meanOf_1 : decode cX11_meanOf 1 = .ok (.invokevirtual 216, 3) := by decide +kernel
theorem dX11_meanOf_4 : decode cX11_meanOf 4 = .ok (.istore_n 1, 1) := by decide +kernel
theorem dX11_meanOf_5 : decode cX11_meanOf 5 = .ok (.aload_n 0, 1) := by decide +kernel
theorem dX11_meanOf_6 : decode cX11_meanOf 6 = .ok (.getfield 115, 3) := by decide +kernel
theorem dX11_meanOf_9 : decode cX11_meanOf 9 = .ok (.istore_n 2, 1) := by decide +kernel
theorem dX11_meanOf_10 : decode cX11_meanOf 10 = .ok (.lconst 0, 1) := by decide +kernel
theorem dX11_meanOf_11 : decode cX11_meanOf 11 = .ok (.lstore_n 3, 1) := by decide +kernel
theorem dX11_meanOf_12 : decode cX11_meanOf 12 = .ok (.iconst 0, 1) := by decide +kernel
theorem dX11_meanOf_13 : decode cX11_meanOf 13 = .ok (.istore 5, 2) := by decide +kernel
theorem dX11_meanOf_15 : decode cX11_meanOf 15 = .ok (.iload 5, 2) := by decide +kernel
theorem dX11_meanOf_17 : decode cX11_meanOf 17 = .ok (.aload_n 0, 1) := by decide +kernel
theorem dX11_meanOf_18 : decode cX11_meanOf 18 = .ok (.getfield 241, 3) := by decide +kernel
theorem dX11_meanOf_21 : decode cX11_meanOf 21 = .ok (.if_icmp .ge 62, 3) := by decide +kernel
theorem dX11_meanOf_24 : decode cX11_meanOf 24 = .ok (.aload_n 0, 1) := by decide +kernel
theorem dX11_meanOf_25 : decode cX11_meanOf 25 = .ok (.aload_n 0, 1) := by decide +kernel
theorem dX11_meanOf_26 : decode cX11_meanOf 26 = .ok (.getfield 41, 3) := by decide +kernel
theorem dX11_meanOf_29 : decode cX11_meanOf 29 = .ok (.iload 5, 2) := by decide +kernel
theorem dX11_meanOf_31 : decode cX11_meanOf 31 = .ok (.iaload, 1) := by decide +kernel
theorem dX11_meanOf_32 : decode cX11_meanOf 32 = .ok (.iload_n 1, 1) := by decide +kernel
theorem dX11_meanOf_33 : decode cX11_meanOf 33 = .ok (.invokevirtual 219, 3) := by decide +kernel
theorem dX11_meanOf_36 : decode cX11_meanOf 36 = .ok (.ifCond .ne 7, 3) := by decide +kernel
theorem dX11_meanOf_39 : decode cX11_meanOf 39 = .ok (.ldc2_w 159, 3) := by decide +kernel
theorem dX11_meanOf_42 : decode cX11_meanOf 42 = .ok (.lreturn, 1) := by decide +kernel
theorem dX11_meanOf_43 : decode cX11_meanOf 43 = .ok (.iload_n 1, 1) := by decide +kernel
theorem dX11_meanOf_44 : decode cX11_meanOf 44 = .ok (.iconst 1, 1) := by decide +kernel
theorem dX11_meanOf_45 : decode cX11_meanOf 45 = .ok (.aload_n 0, 1) := by decide +kernel
theorem dX11_meanOf_46 : decode cX11_meanOf 46 = .ok (.getfield 41, 3) := by decide +kernel
theorem dX11_meanOf_49 : decode cX11_meanOf 49 = .ok (.iload 5, 2) := by decide +kernel
theorem dX11_meanOf_51 : decode cX11_meanOf 51 = .ok (.iaload, 1) := by decide +kernel
theorem dX11_meanOf_52 : decode cX11_meanOf 52 = .ok (.ishl, 1) := by decide +kernel
theorem dX11_meanOf_53 : decode cX11_meanOf 53 = .ok (.ior, 1) := by decide +kernel
theorem dX11_meanOf_54 : decode cX11_meanOf 54 = .ok (.istore_n 1, 1) := by decide +kernel
theorem dX11_meanOf_55 : decode cX11_meanOf 55 = .ok (.iload_n 2, 1) := by decide +kernel
theorem dX11_meanOf_56 : decode cX11_meanOf 56 = .ok (.aload_n 0, 1) := by decide +kernel
theorem dX11_meanOf_57 : decode cX11_meanOf 57 = .ok (.aload_n 0, 1) := by decide +kernel
theorem dX11_meanOf_58 : decode cX11_meanOf 58 = .ok (.getfield 41, 3) := by decide +kernel
theorem dX11_meanOf_61 : decode cX11_meanOf 61 = .ok (.iload 5, 2) := by decide +kernel
theorem dX11_meanOf_63 : decode cX11_meanOf 63 = .ok (.iaload, 1) := by decide +kernel
theorem dX11_meanOf_64 : decode cX11_meanOf 64 = .ok (.invokevirtual 222, 3) := by decide +kernel
theorem dX11_meanOf_67 : decode cX11_meanOf 67 = .ok (.iadd, 1) := by decide +kernel
theorem dX11_meanOf_68 : decode cX11_meanOf 68 = .ok (.istore_n 2, 1) := by decide +kernel
theorem dX11_meanOf_69 : decode cX11_meanOf 69 = .ok (.lload_n 3, 1) := by decide +kernel
theorem dX11_meanOf_70 : decode cX11_meanOf 70 = .ok (.aload_n 0, 1) := by decide +kernel
theorem dX11_meanOf_71 : decode cX11_meanOf 71 = .ok (.iload_n 2, 1) := by decide +kernel
theorem dX11_meanOf_72 : decode cX11_meanOf 72 = .ok (.invokevirtual 246, 3) := by decide +kernel
theorem dX11_meanOf_75 : decode cX11_meanOf 75 = .ok (.ladd, 1) := by decide +kernel
theorem dX11_meanOf_76 : decode cX11_meanOf 76 = .ok (.lstore_n 3, 1) := by decide +kernel
theorem dX11_meanOf_77 : decode cX11_meanOf 77 = .ok (.iinc 5 1, 3) := by decide +kernel
theorem dX11_meanOf_80 : decode cX11_meanOf 80 = .ok (.goto (-65), 3) := by decide +kernel
theorem dX11_meanOf_83 : decode cX11_meanOf 83 = .ok (.lload_n 3, 1) := by decide +kernel
theorem dX11_meanOf_84 : decode cX11_meanOf 84 = .ok (.lreturn, 1) := by decide +kernel
theorem dX11_order_0 : decode cX11_order 0 = .ok (.iload_n 1, 1) := by decide +kernel
theorem dX11_order_1 : decode cX11_order 1 = .ok (.i2l, 1) := by decide +kernel
theorem dX11_order_2 : decode cX11_order 2 = .ok (.lconst 0, 1) := by decide +kernel
theorem dX11_order_3 : decode cX11_order 3 = .ok (.lconst 1, 1) := by decide +kernel
theorem dX11_order_4 : decode cX11_order 4 = .ok (.invokestatic 77, 3) := by decide +kernel
theorem dX11_order_7 : decode cX11_order 7 = .ok (.ifCond .ne 21, 3) := by decide +kernel
theorem dX11_order_10 : decode cX11_order 10 = .ok (.iload_n 1, 1) := by decide +kernel
theorem dX11_order_11 : decode cX11_order 11 = .ok (.i2l, 1) := by decide +kernel
theorem dX11_order_12 : decode cX11_order 12 = .ok (.ldc2_w 141, 3) := by decide +kernel
theorem dX11_order_15 : decode cX11_order 15 = .ok (.ldc2_w 249, 3) := by decide +kernel
theorem dX11_order_18 : decode cX11_order 18 = .ok (.invokestatic 77, 3) := by decide +kernel
theorem dX11_order_21 : decode cX11_order 21 = .ok (.ifCond .ne 7, 3) := by decide +kernel
theorem dX11_order_24 : decode cX11_order 24 = .ok (.ldc2_w 173, 3) := by decide +kernel
theorem dX11_order_27 : decode cX11_order 27 = .ok (.lreturn, 1) := by decide +kernel
theorem dX11_order_28 : decode cX11_order 28 = .ok (.aload_n 0, 1) := by decide +kernel
theorem dX11_order_29 : decode cX11_order 29 = .ok (.invokevirtual 145, 3) := by decide +kernel
theorem dX11_order_32 : decode cX11_order 32 = .ok (.ifCond .ne 20, 3) := by decide +kernel
theorem dX11_order_35 : decode cX11_order 35 = .ok (.aload_n 0, 1) := by decide +kernel
theorem dX11_order_36 : decode cX11_order 36 = .ok (.getfield 121, 3) := by decide +kernel
theorem dX11_order_39 : decode cX11_order 39 = .ok (.iconst 1, 1) := by decide +kernel
theorem dX11_order_40 : decode cX11_order 40 = .ok (.if_icmp .eq 12, 3) := by decide +kernel
theorem dX11_order_43 : decode cX11_order 43 = .ok (.aload_n 0, 1) := by decide +kernel
theorem dX11_order_44 : decode cX11_order 44 = .ok (.getfield 251, 3) := by decide +kernel
theorem dX11_order_47 : decode cX11_order 47 = .ok (.bipush 30, 2) := by decide +kernel
theorem dX11_order_49 : decode cX11_order 49 = .ok (.if_icmp .ne 7, 3) := by decide +kernel
theorem dX11_order_52 : decode cX11_order 52 = .ok (.ldc2_w 205, 3) := by decide +kernel
theorem dX11_order_55 : decode cX11_order 55 = .ok (.lreturn, 1) := by decide +kernel
theorem dX11_order_56 : decode cX11_order 56 = .ok (.aload_n 0, 1) := by decide +kernel
theorem dX11_order_57 : decode cX11_order 57 = .ok (.dup, 1) := by decide +kernel
theorem dX11_order_58 : decode cX11_order 58 = .ok (.getfield 251, 3) := by decide +kernel
theorem dX11_order_61 : decode cX11_order 61 = .ok (.iconst 1, 1) := by decide +kernel
theorem dX11_order_62 : decode cX11_order 62 = .ok (.iadd, 1) := by decide +kernel
theorem dX11_order_63 : decode cX11_order 63 = .ok (.putfield 251, 3) := by decide +kernel
theorem dX11_order_66 : decode cX11_order 66 = .ok (.aload_n 0, 1) := by decide +kernel
theorem dX11_order_67 : decode cX11_order 67 = .ok (.iconst 1, 1) := by decide +kernel
theorem dX11_order_68 : decode cX11_order 68 = .ok (.aload_n 0, 1) := by decide +kernel
theorem dX11_order_69 : decode cX11_order 69 = .ok (.getfield 127, 3) := by decide +kernel
theorem dX11_order_72 : decode cX11_order 72 = .ok (.ishl, 1) := by decide +kernel
theorem dX11_order_73 : decode cX11_order 73 = .ok (.iconst 1, 1) := by decide +kernel
theorem dX11_order_74 : decode cX11_order 74 = .ok (.isub, 1) := by decide +kernel
theorem dX11_order_75 : decode cX11_order 75 = .ok (.aload_n 0, 1) := by decide +kernel
theorem dX11_order_76 : decode cX11_order 76 = .ok (.invokevirtual 216, 3) := by decide +kernel
theorem dX11_order_79 : decode cX11_order 79 = .ok (.iconst (-1), 1) := by decide +kernel
theorem dX11_order_80 : decode cX11_order 80 = .ok (.ixor, 1) := by decide +kernel
theorem dX11_order_81 : decode cX11_order 81 = .ok (.iand, 1) := by decide +kernel
theorem dX11_order_82 : decode cX11_order 82 = .ok (.invokevirtual 254, 3) := by decide +kernel
theorem dX11_order_85 : decode cX11_order 85 = .ok (.ldc2_w 159, 3) := by decide +kernel
theorem dX11_order_88 : decode cX11_order 88 = .ok (.lstore_n 2, 1) := by decide +kernel
theorem dX11_order_89 : decode cX11_order 89 = .ok (.iconst 1, 1) := by decide +kernel
theorem dX11_order_90 : decode cX11_order 90 = .ok (.istore 4, 2) := by decide +kernel
theorem dX11_order_92 : decode cX11_order 92 = .ok (.iload 4, 2) := by decide +kernel
theorem dX11_order_94 : decode cX11_order 94 = .ok (.ifCond .eq 60, 3) := by decide +kernel
theorem dX11_order_97 : decode cX11_order 97 = .ok (.aload_n 0, 1) := by decide +kernel
theorem dX11_order_98 : decode cX11_order 98 = .ok (.invokevirtual 257, 3) := by decide +kernel
theorem dX11_order_101 : decode cX11_order 101 = .ok (.lstore 5, 2) := by decide +kernel
theorem dX11_order_103 : decode cX11_order 103 = .ok (.lload 5, 2) := by decide +kernel
theorem dX11_order_105 : decode cX11_order 105 = .ok (.lload_n 2, 1) := by decide +kernel
theorem dX11_order_106 : decode cX11_order 106 = .ok (.lcmp, 1) := by decide +kernel
theorem dX11_order_107 : decode cX11_order 107 = .ok (.ifCond .le 38, 3) := by decide +kernel
theorem dX11_order_110 : decode cX11_order 110 = .ok (.lload 5, 2) := by decide +kernel
theorem dX11_order_112 : decode cX11_order 112 = .ok (.lstore_n 2, 1) := by decide +kernel
theorem dX11_order_113 : decode cX11_order 113 = .ok (.iconst 0, 1) := by decide +kernel
theorem dX11_order_114 : decode cX11_order 114 = .ok (.istore 7, 2) := by decide +kernel
theorem dX11_order_116 : decode cX11_order 116 = .ok (.iload 7, 2) := by decide +kernel
theorem dX11_order_118 : decode cX11_order 118 = .ok (.aload_n 0, 1) := by decide +kernel
theorem dX11_order_119 : decode cX11_order 119 = .ok (.getfield 241, 3) := by decide +kernel
theorem dX11_order_122 : decode cX11_order 122 = .ok (.if_icmp .ge 23, 3) := by decide +kernel
theorem dX11_order_125 : decode cX11_order 125 = .ok (.aload_n 0, 1) := by decide +kernel
theorem dX11_order_126 : decode cX11_order 126 = .ok (.getfield 44, 3) := by decide +kernel
theorem dX11_order_129 : decode cX11_order 129 = .ok (.iload 7, 2) := by decide +kernel
theorem dX11_order_131 : decode cX11_order 131 = .ok (.aload_n 0, 1) := by decide +kernel
theorem dX11_order_132 : decode cX11_order 132 = .ok (.getfield 41, 3) := by decide +kernel
theorem dX11_order_135 : decode cX11_order 135 = .ok (.iload 7, 2) := by decide +kernel
theorem dX11_order_137 : decode cX11_order 137 = .ok (.iaload, 1) := by decide +kernel
theorem dX11_order_138 : decode cX11_order 138 = .ok (.iastore, 1) := by decide +kernel
theorem dX11_order_139 : decode cX11_order 139 = .ok (.iinc 7 1, 3) := by decide +kernel
theorem dX11_order_142 : decode cX11_order 142 = .ok (.goto (-26), 3) := by decide +kernel
theorem dX11_order_145 : decode cX11_order 145 = .ok (.aload_n 0, 1) := by decide +kernel
theorem dX11_order_146 : decode cX11_order 146 = .ok (.invokevirtual 261, 3) := by decide +kernel
theorem dX11_order_149 : decode cX11_order 149 = .ok (.istore 4, 2) := by decide +kernel
theorem dX11_order_151 : decode cX11_order 151 = .ok (.goto (-59), 3) := by decide +kernel
theorem dX11_order_154 : decode cX11_order 154 = .ok (.lload_n 2, 1) := by decide +kernel
theorem dX11_order_155 : decode cX11_order 155 = .ok (.ldc2_w 159, 3) := by decide +kernel
theorem dX11_order_158 : decode cX11_order 158 = .ok (.lcmp, 1) := by decide +kernel
theorem dX11_order_159 : decode cX11_order 159 = .ok (.ifCond .ne 16, 3) := by decide +kernel
theorem dX11_order_162 : decode cX11_order 162 = .ok (.iload_n 1, 1) := by decide +kernel
theorem dX11_order_163 : decode cX11_order 163 = .ok (.iconst 1, 1) := by decide +kernel
theorem dX11_order_164 : decode cX11_order 164 = .ok (.if_icmp .ne 7, 3) := by decide +kernel
theorem dX11_order_167 : decode cX11_order 167 = .ok (.lconst 1, 1) := by decide +kernel
theorem dX11_order_168 : decode cX11_order 168 = .ok (.goto 6, 3) := by decide +kernel
theorem dX11_order_171 : decode cX11_order 171 = .ok (.ldc2_w 159, 3) := by decide +kernel
theorem dX11_order_174 : decode cX11_order 174 = .ok (.lreturn, 1) := by decide +kernel
theorem dX11_order_175 : decode cX11_order 175 = .ok (.iload_n 1, 1) := by decide +kernel
theorem dX11_order_176 : decode cX11_order 176 = .ok (.iconst 2, 1) := by decide +kernel
theorem dX11_order_177 : decode cX11_order 177 = .ok (.if_icmp .ge 12, 3) := by decide +kernel
theorem dX11_order_180 : decode cX11_order 180 = .ok (.lload_n 2, 1) := by decide +kernel
theorem dX11_order_181 : decode cX11_order 181 = .ok (.ldc2_w 244, 3) := by decide +kernel
theorem dX11_order_184 : decode cX11_order 184 = .ok (.iload_n 1, 1) := by decide +kernel
theorem dX11_order_185 : decode cX11_order 185 = .ok (.invokestatic 179, 3) := by decide +kernel
theorem dX11_order_188 : decode cX11_order 188 = .ok (.lreturn, 1) := by decide +kernel
theorem dX11_order_189 : decode cX11_order 189 = .ok (.iload_n 1, 1) := by decide +kernel
theorem dX11_order_190 : decode cX11_order 190 = .ok (.bipush 10, 2) := by decide +kernel
theorem dX11_order_192 : decode cX11_order 192 = .ok (.isub, 1) := by decide +kernel
theorem dX11_order_193 : decode cX11_order 193 = .ok (.aload_n 0, 1) := by decide +kernel
theorem dX11_order_194 : decode cX11_order 194 = .ok (.getfield 241, 3) := by decide +kernel
theorem dX11_order_197 : decode cX11_order 197 = .ok (.if_icmp .ge 16, 3) := by decide +kernel
theorem dX11_order_200 : decode cX11_order 200 = .ok (.aload_n 0, 1) := by decide +kernel
theorem dX11_order_201 : decode cX11_order 201 = .ok (.getfield 44, 3) := by decide +kernel
theorem dX11_order_204 : decode cX11_order 204 = .ok (.iload_n 1, 1) := by decide +kernel
theorem dX11_order_205 : decode cX11_order 205 = .ok (.bipush 10, 2) := by decide +kernel
theorem dX11_order_207 : decode cX11_order 207 = .ok (.isub, 1) := by decide +kernel
theorem dX11_order_208 : decode cX11_order 208 = .ok (.iaload, 1) := by decide +kernel
theorem dX11_order_209 : decode cX11_order 209 = .ok (.i2l, 1) := by decide +kernel
theorem dX11_order_210 : decode cX11_order 210 = .ok (.goto 6, 3) := by decide +kernel
theorem dX11_order_213 : decode cX11_order 213 = .ok (.ldc2_w 159, 3) := by decide +kernel
theorem dX11_order_216 : decode cX11_order 216 = .ok (.lreturn, 1) := by decide +kernel
theorem dX11_said_0 : decode cX11_said 0 = .ok (.aload_n 0, 1) := by decide +kernel
theorem dX11_said_1 : decode cX11_said 1 = .ok (.iload_n 1, 1) := by decide +kernel
theorem dX11_said_2 : decode cX11_said 2 = .ok (.invokevirtual 228, 3) := by decide +kernel
theorem dX11_said_5 : decode cX11_said 5 = .ok (.ifCond .eq 16, 3) := by decide +kernel
theorem dX11_said_8 : decode cX11_said 8 = .ok (.aload_n 0, 1) := by decide +kernel
theorem dX11_said_9 : decode cX11_said 9 = .ok (.iload_n 2, 1) := by decide +kernel
theorem dX11_said_10 : decode cX11_said 10 = .ok (.invokevirtual 228, 3) := by decide +kernel
theorem dX11_said_13 : decode cX11_said 13 = .ok (.ifCond .eq 8, 3) := by decide +kernel
theorem dX11_said_16 : decode cX11_said 16 = .ok (.iload_n 1, 1) := by decide +kernel
theorem dX11_said_17 : decode cX11_said 17 = .ok (.iload_n 2, 1) := by decide +kernel
theorem dX11_said_18 : decode cX11_said 18 = .ok (.if_icmp .ne 6, 3) := by decide +kernel
theorem dX11_said_21 : decode cX11_said 21 = .ok (.bipush (-101), 2) := by decide +kernel
theorem dX11_said_23 : decode cX11_said 23 = .ok (.ireturn, 1) := by decide +kernel
theorem dX11_said_24 : decode cX11_said 24 = .ok (.aload_n 0, 1) := by decide +kernel
theorem dX11_said_25 : decode cX11_said 25 = .ok (.getfield 130, 3) := by decide +kernel
theorem dX11_said_28 : decode cX11_said 28 = .ok (.bipush 15, 2) := by decide +kernel
theorem dX11_said_30 : decode cX11_said 30 = .ok (.if_icmp .ne 6, 3) := by decide +kernel
theorem dX11_said_33 : decode cX11_said 33 = .ok (.bipush (-104), 2) := by decide +kernel
theorem dX11_said_35 : decode cX11_said 35 = .ok (.ireturn, 1) := by decide +kernel
theorem dX11_said_36 : decode cX11_said 36 = .ok (.aload_n 0, 1) := by decide +kernel
theorem dX11_said_37 : decode cX11_said 37 = .ok (.getfield 47, 3) := by decide +kernel
theorem dX11_said_40 : decode cX11_said 40 = .ok (.iconst 2, 1) := by decide +kernel
theorem dX11_said_41 : decode cX11_said 41 = .ok (.aload_n 0, 1) := by decide +kernel
theorem dX11_said_42 : decode cX11_said 42 = .ok (.getfield 130, 3) := by decide +kernel
theorem dX11_said_45 : decode cX11_said 45 = .ok (.imul, 1) := by decide +kernel
theorem dX11_said_46 : decode cX11_said 46 = .ok (.iload_n 1, 1) := by decide +kernel
theorem dX11_said_47 : decode cX11_said 47 = .ok (.iastore, 1) := by decide +kernel
theorem dX11_said_48 : decode cX11_said 48 = .ok (.aload_n 0, 1) := by decide +kernel
theorem dX11_said_49 : decode cX11_said 49 = .ok (.getfield 47, 3) := by decide +kernel
theorem dX11_said_52 : decode cX11_said 52 = .ok (.iconst 2, 1) := by decide +kernel
theorem dX11_said_53 : decode cX11_said 53 = .ok (.aload_n 0, 1) := by decide +kernel
theorem dX11_said_54 : decode cX11_said 54 = .ok (.getfield 130, 3) := by decide +kernel
theorem dX11_said_57 : decode cX11_said 57 = .ok (.imul, 1) := by decide +kernel
theorem dX11_said_58 : decode cX11_said 58 = .ok (.iconst 1, 1) := by decide +kernel
theorem dX11_said_59 : decode cX11_said 59 = .ok (.iadd, 1) := by decide +kernel
theorem dX11_said_60 : decode cX11_said 60 = .ok (.iload_n 2, 1) := by decide +kernel
theorem dX11_said_61 : decode cX11_said 61 = .ok (.iastore, 1) := by decide +kernel
theorem dX11_said_62 : decode cX11_said 62 = .ok (.aload_n 0, 1) := by decide +kernel
theorem dX11_said_63 : decode cX11_said 63 = .ok (.dup, 1) := by decide +kernel
theorem dX11_said_64 : decode cX11_said 64 = .ok (.getfield 130, 3) := by decide +kernel
theorem dX11_said_67 : decode cX11_said 67 = .ok (.iconst 1, 1) := by decide +kernel
theorem dX11_said_68 : decode cX11_said 68 = .ok (.iadd, 1) := by decide +kernel
theorem dX11_said_69 : decode cX11_said 69 = .ok (.putfield 130, 3) := by decide +kernel
theorem dX11_said_72 : decode cX11_said 72 = .ok (.aload_n 0, 1) := by decide +kernel
theorem dX11_said_73 : decode cX11_said 73 = .ok (.getfield 130, 3) := by decide +kernel
theorem dX11_said_76 : decode cX11_said 76 = .ok (.ireturn, 1) := by decide +kernel
theorem dX11_placeOf_0 : decode cX11_placeOf 0 = .ok (.iconst (-1), 1) := by decide +kernel
theorem dX11_placeOf_1 : decode cX11_placeOf 1 = .ok (.istore_n 2, 1) := by decide +kernel
theorem dX11_placeOf_2 : decode cX11_placeOf 2 = .ok (.iconst 0, 1) := by decide +kernel
theorem dX11_placeOf_3 : decode cX11_placeOf 3 = .ok (.istore_n 3, 1) := by decide +kernel
theorem dX11_placeOf_4 : decode cX11_placeOf 4 = .ok (.iload_n 3, 1) := by decide +kernel
theorem dX11_placeOf_5 : decode cX11_placeOf 5 = .ok (.aload_n 0, 1) := by decide +kernel
theorem dX11_placeOf_6 : decode cX11_placeOf 6 = .ok (.getfield 241, 3) := by decide +kernel
theorem dX11_placeOf_9 : decode cX11_placeOf 9 = .ok (.if_icmp .ge 25, 3) := by decide +kernel
theorem dX11_placeOf_12 : decode cX11_placeOf 12 = .ok (.aload_n 0, 1) := by decide +kernel
theorem dX11_placeOf_13 : decode cX11_placeOf 13 = .ok (.getfield 41, 3) := by decide +kernel
theorem dX11_placeOf_16 : decode cX11_placeOf 16 = .ok (.iload_n 3, 1) := by decide +kernel
theorem dX11_placeOf_17 : decode cX11_placeOf 17 = .ok (.iaload, 1) := by decide +kernel
theorem dX11_placeOf_18 : decode cX11_placeOf 18 = .ok (.iload_n 1, 1) := by decide +kernel
theorem dX11_placeOf_19 : decode cX11_placeOf 19 = .ok (.if_icmp .ne 7, 3) := by decide +kernel
theorem dX11_placeOf_22 : decode cX11_placeOf 22 = .ok (.iload_n 3, 1) := by decide +kernel
theorem dX11_placeOf_23 : decode cX11_placeOf 23 = .ok (.goto 4, 3) := by decide +kernel
theorem dX11_placeOf_26 : decode cX11_placeOf 26 = .ok (.iload_n 2, 1) := by decide +kernel
theorem dX11_placeOf_27 : decode cX11_placeOf 27 = .ok (.istore_n 2, 1) := by decide +kernel
theorem dX11_placeOf_28 : decode cX11_placeOf 28 = .ok (.iinc 3 1, 3) := by decide +kernel
theorem dX11_placeOf_31 : decode cX11_placeOf 31 = .ok (.goto (-27), 3) := by decide +kernel
theorem dX11_placeOf_34 : decode cX11_placeOf 34 = .ok (.iload_n 2, 1) := by decide +kernel
theorem dX11_placeOf_35 : decode cX11_placeOf 35 = .ok (.ireturn, 1) := by decide +kernel
theorem dX11_isSaidSo_0 : decode cX11_isSaidSo 0 = .ok (.iconst 1, 1) := by decide +kernel
theorem dX11_isSaidSo_1 : decode cX11_isSaidSo 1 = .ok (.istore_n 1, 1) := by decide +kernel
theorem dX11_isSaidSo_2 : decode cX11_isSaidSo 2 = .ok (.iconst 0, 1) := by decide +kernel
theorem dX11_isSaidSo_3 : decode cX11_isSaidSo 3 = .ok (.istore_n 2, 1) := by decide +kernel
theorem dX11_isSaidSo_4 : decode cX11_isSaidSo 4 = .ok (.iload_n 2, 1) := by decide +kernel
theorem dX11_isSaidSo_5 : decode cX11_isSaidSo 5 = .ok (.aload_n 0, 1) := by decide +kernel
theorem dX11_isSaidSo_6 : decode cX11_isSaidSo 6 = .ok (.getfield 130, 3) := by decide +kernel
theorem dX11_isSaidSo_9 : decode cX11_isSaidSo 9 = .ok (.if_icmp .ge 48, 3) := by decide +kernel
theorem dX11_isSaidSo_12 : decode cX11_isSaidSo 12 = .ok (.iload_n 1, 1) := by decide +kernel
theorem dX11_isSaidSo_13 : decode cX11_isSaidSo 13 = .ok (.ifCond .eq 36, 3) := by decide +kernel
theorem dX11_isSaidSo_16 : decode cX11_isSaidSo 16 = .ok (.aload_n 0, 1) := by decide +kernel
theorem dX11_isSaidSo_17 : decode cX11_isSaidSo 17 = .ok (.aload_n 0, 1) := by decide +kernel
theorem dX11_isSaidSo_18 : decode cX11_isSaidSo 18 = .ok (.getfield 47, 3) := by decide +kernel
theorem dX11_isSaidSo_21 : decode cX11_isSaidSo 21 = .ok (.iconst 2, 1) := by decide +kernel
theorem dX11_isSaidSo_22 : decode cX11_isSaidSo 22 = .ok (.iload_n 2, 1) := by decide +kernel
theorem dX11_isSaidSo_23 : decode cX11_isSaidSo 23 = .ok (.imul, 1) := by decide +kernel
theorem dX11_isSaidSo_24 : decode cX11_isSaidSo 24 = .ok (.iaload, 1) := by decide +kernel
theorem dX11_isSaidSo_25 : decode cX11_isSaidSo 25 = .ok (.invokevirtual 264, 3) := by decide +kernel
theorem dX11_isSaidSo_28 : decode cX11_isSaidSo 28 = .ok (.aload_n 0, 1) := by decide +kernel
theorem dX11_isSaidSo_29 : decode cX11_isSaidSo 29 = .ok (.aload_n 0, 1) := by decide +kernel
theorem dX11_isSaidSo_30 : decode cX11_isSaidSo 30 = .ok (.getfield 47, 3) := by decide +kernel
theorem dX11_isSaidSo_33 : decode cX11_isSaidSo 33 = .ok (.iconst 2, 1) := by decide +kernel
theorem dX11_isSaidSo_34 : decode cX11_isSaidSo 34 = .ok (.iload_n 2, 1) := by decide +kernel
theorem dX11_isSaidSo_35 : decode cX11_isSaidSo 35 = .ok (.imul, 1) := by decide +kernel
theorem dX11_isSaidSo_36 : decode cX11_isSaidSo 36 = .ok (.iconst 1, 1) := by decide +kernel
theorem dX11_isSaidSo_37 : decode cX11_isSaidSo 37 = .ok (.iadd, 1) := by decide +kernel
theorem dX11_isSaidSo_38 : decode cX11_isSaidSo 38 = .ok (.iaload, 1) := by decide +kernel
theorem dX11_isSaidSo_39 : decode cX11_isSaidSo 39 = .ok (.invokevirtual 264, 3) := by decide +kernel
theorem dX11_isSaidSo_42 : decode cX11_isSaidSo 42 = .ok (.if_icmp .ge 7, 3) := by decide +kernel
theorem dX11_isSaidSo_45 : decode cX11_isSaidSo 45 = .ok (.iconst 1, 1) := by decide +kernel
theorem dX11_isSaidSo_46 : decode cX11_isSaidSo 46 = .ok (.goto 4, 3) := by decide +kernel
theorem dX11_isSaidSo_49 : decode cX11_isSaidSo 49 = .ok (.iconst 0, 1) := by decide +kernel
theorem dX11_isSaidSo_50 : decode cX11_isSaidSo 50 = .ok (.istore_n 1, 1) := by decide +kernel
theorem dX11_isSaidSo_51 : decode cX11_isSaidSo 51 = .ok (.iinc 2 1, 3) := by decide +kernel
theorem dX11_isSaidSo_54 : decode cX11_isSaidSo 54 = .ok (.goto (-50), 3) := by decide +kernel
theorem dX11_isSaidSo_57 : decode cX11_isSaidSo 57 = .ok (.iconst 0, 1) := by decide +kernel
theorem dX11_isSaidSo_58 : decode cX11_isSaidSo 58 = .ok (.istore_n 2, 1) := by decide +kernel
theorem dX11_isSaidSo_59 : decode cX11_isSaidSo 59 = .ok (.iload_n 2, 1) := by decide +kernel
theorem dX11_isSaidSo_60 : decode cX11_isSaidSo 60 = .ok (.bipush 36, 2) := by decide +kernel
theorem dX11_isSaidSo_62 : decode cX11_isSaidSo 62 = .ok (.if_icmp .ge 113, 3) := by decide +kernel
theorem dX11_isSaidSo_65 : decode cX11_isSaidSo 65 = .ok (.iload_n 2, 1) := by decide +kernel
theorem dX11_isSaidSo_66 : decode cX11_isSaidSo 66 = .ok (.bipush 6, 2) := by decide +kernel
theorem dX11_isSaidSo_68 : decode cX11_isSaidSo 68 = .ok (.idiv, 1) := by decide +kernel
theorem dX11_isSaidSo_69 : decode cX11_isSaidSo 69 = .ok (.istore_n 3, 1) := by decide +kernel
theorem dX11_isSaidSo_70 : decode cX11_isSaidSo 70 = .ok (.iload_n 2, 1) := by decide +kernel
theorem dX11_isSaidSo_71 : decode cX11_isSaidSo 71 = .ok (.bipush 6, 2) := by decide +kernel
theorem dX11_isSaidSo_73 : decode cX11_isSaidSo 73 = .ok (.irem, 1) := by decide +kernel
theorem dX11_isSaidSo_74 : decode cX11_isSaidSo 74 = .ok (.istore 4, 2) := by decide +kernel
theorem dX11_isSaidSo_76 : decode cX11_isSaidSo 76 = .ok (.iload_n 3, 1) := by decide +kernel
theorem dX11_isSaidSo_77 : decode cX11_isSaidSo 77 = .ok (.aload_n 0, 1) := by decide +kernel
theorem dX11_isSaidSo_78 : decode cX11_isSaidSo 78 = .ok (.getfield 127, 3) := by decide +kernel
theorem dX11_isSaidSo_81 : decode cX11_isSaidSo 81 = .ok (.if_icmp .ge 56, 3) := by decide +kernel
theorem dX11_isSaidSo_84 : decode cX11_isSaidSo 84 = .ok (.iload 4, 2) := by decide +kernel
theorem dX11_isSaidSo_86 : decode cX11_isSaidSo 86 = .ok (.aload_n 0, 1) := by decide +kernel
theorem dX11_isSaidSo_87 : decode cX11_isSaidSo 87 = .ok (.getfield 127, 3) := by decide +kernel
theorem dX11_isSaidSo_90 : decode cX11_isSaidSo 90 = .ok (.if_icmp .ge 47, 3) := by decide +kernel
theorem dX11_isSaidSo_93 : decode cX11_isSaidSo 93 = .ok (.aload_n 0, 1) := by decide +kernel
theorem dX11_isSaidSo_94 : decode cX11_isSaidSo 94 = .ok (.getfield 38, 3) := by decide +kernel
theorem dX11_isSaidSo_97 : decode cX11_isSaidSo 97 = .ok (.iload_n 3, 1) := by decide +kernel
theorem dX11_isSaidSo_98 : decode cX11_isSaidSo 98 = .ok (.iaload, 1) := by decide +kernel
theorem dX11_isSaidSo_99 : decode cX11_isSaidSo 99 = .ok (.iload 4, 2) := by decide +kernel
theorem dX11_isSaidSo_101 : decode cX11_isSaidSo 101 = .ok (.ishr, 1) := by decide +kernel
theorem dX11_isSaidSo_102 : decode cX11_isSaidSo 102 = .ok (.iconst 1, 1) := by decide +kernel
theorem dX11_isSaidSo_103 : decode cX11_isSaidSo 103 = .ok (.iand, 1) := by decide +kernel
theorem dX11_isSaidSo_104 : decode cX11_isSaidSo 104 = .ok (.iconst 1, 1) := by decide +kernel
theorem dX11_isSaidSo_105 : decode cX11_isSaidSo 105 = .ok (.if_icmp .eq 28, 3) := by decide +kernel
theorem dX11_isSaidSo_108 : decode cX11_isSaidSo 108 = .ok (.aload_n 0, 1) := by decide +kernel
theorem dX11_isSaidSo_109 : decode cX11_isSaidSo 109 = .ok (.getfield 35, 3) := by decide +kernel
theorem dX11_isSaidSo_112 : decode cX11_isSaidSo 112 = .ok (.iconst 3, 1) := by decide +kernel
theorem dX11_isSaidSo_113 : decode cX11_isSaidSo 113 = .ok (.iload_n 3, 1) := by decide +kernel
theorem dX11_isSaidSo_114 : decode cX11_isSaidSo 114 = .ok (.imul, 1) := by decide +kernel
theorem dX11_isSaidSo_115 : decode cX11_isSaidSo 115 = .ok (.iaload, 1) := by decide +kernel
theorem dX11_isSaidSo_116 : decode cX11_isSaidSo 116 = .ok (.iconst 4, 1) := by decide +kernel
theorem dX11_isSaidSo_117 : decode cX11_isSaidSo 117 = .ok (.if_icmp .ne 20, 3) := by decide +kernel
theorem dX11_isSaidSo_120 : decode cX11_isSaidSo 120 = .ok (.aload_n 0, 1) := by decide +kernel
theorem dX11_isSaidSo_121 : decode cX11_isSaidSo 121 = .ok (.getfield 35, 3) := by decide +kernel
theorem dX11_isSaidSo_124 : decode cX11_isSaidSo 124 = .ok (.iconst 3, 1) := by decide +kernel
theorem dX11_isSaidSo_125 : decode cX11_isSaidSo 125 = .ok (.iload 4, 2) := by decide +kernel
theorem dX11_isSaidSo_127 : decode cX11_isSaidSo 127 = .ok (.imul, 1) := by decide +kernel
theorem dX11_isSaidSo_128 : decode cX11_isSaidSo 128 = .ok (.iaload, 1) := by decide +kernel
theorem dX11_isSaidSo_129 : decode cX11_isSaidSo 129 = .ok (.iconst 4, 1) := by decide +kernel
theorem dX11_isSaidSo_130 : decode cX11_isSaidSo 130 = .ok (.if_icmp .eq 7, 3) := by decide +kernel
theorem dX11_isSaidSo_133 : decode cX11_isSaidSo 133 = .ok (.iconst 1, 1) := by decide +kernel
theorem dX11_isSaidSo_134 : decode cX11_isSaidSo 134 = .ok (.goto 4, 3) := by decide +kernel
theorem dX11_isSaidSo_137 : decode cX11_isSaidSo 137 = .ok (.iconst 0, 1) := by decide +kernel
theorem dX11_isSaidSo_138 : decode cX11_isSaidSo 138 = .ok (.istore 5, 2) := by decide +kernel
theorem dX11_isSaidSo_140 : decode cX11_isSaidSo 140 = .ok (.iload_n 1, 1) := by decide +kernel
theorem dX11_isSaidSo_141 : decode cX11_isSaidSo 141 = .ok (.ifCond .eq 26, 3) := by decide +kernel
theorem dX11_isSaidSo_144 : decode cX11_isSaidSo 144 = .ok (.iload 5, 2) := by decide +kernel
theorem dX11_isSaidSo_146 : decode cX11_isSaidSo 146 = .ok (.ifCond .eq 17, 3) := by decide +kernel
theorem dX11_isSaidSo_149 : decode cX11_isSaidSo 149 = .ok (.aload_n 0, 1) := by decide +kernel
theorem dX11_isSaidSo_150 : decode cX11_isSaidSo 150 = .ok (.iload 4, 2) := by decide +kernel
theorem dX11_isSaidSo_152 : decode cX11_isSaidSo 152 = .ok (.invokevirtual 264, 3) := by decide +kernel
theorem dX11_isSaidSo_155 : decode cX11_isSaidSo 155 = .ok (.aload_n 0, 1) := by decide +kernel
theorem dX11_isSaidSo_156 : decode cX11_isSaidSo 156 = .ok (.iload_n 3, 1) := by decide +kernel
theorem dX11_isSaidSo_157 : decode cX11_isSaidSo 157 = .ok (.invokevirtual 264, 3) := by decide +kernel
theorem dX11_isSaidSo_160 : decode cX11_isSaidSo 160 = .ok (.if_icmp .ge 7, 3) := by decide +kernel
theorem dX11_isSaidSo_163 : decode cX11_isSaidSo 163 = .ok (.iconst 1, 1) := by decide +kernel
theorem dX11_isSaidSo_164 : decode cX11_isSaidSo 164 = .ok (.goto 4, 3) := by decide +kernel
theorem dX11_isSaidSo_167 : decode cX11_isSaidSo 167 = .ok (.iconst 0, 1) := by decide +kernel
theorem dX11_isSaidSo_168 : decode cX11_isSaidSo 168 = .ok (.istore_n 1, 1) := by decide +kernel
theorem dX11_isSaidSo_169 : decode cX11_isSaidSo 169 = .ok (.iinc 2 1, 3) := by decide +kernel
theorem dX11_isSaidSo_172 : decode cX11_isSaidSo 172 = .ok (.goto (-113), 3) := by decide +kernel
theorem dX11_isSaidSo_175 : decode cX11_isSaidSo 175 = .ok (.iload_n 1, 1) := by decide +kernel
theorem dX11_isSaidSo_176 : decode cX11_isSaidSo 176 = .ok (.ireturn, 1) := by decide +kernel
theorem dX11_layOrders_0 : decode cX11_layOrders 0 = .ok (.iconst 0, 1) := by decide +kernel
theorem dX11_layOrders_1 : decode cX11_layOrders 1 = .ok (.istore_n 1, 1) := by decide +kernel
theorem dX11_layOrders_2 : decode cX11_layOrders 2 = .ok (.iload_n 1, 1) := by decide +kernel
theorem dX11_layOrders_3 : decode cX11_layOrders 3 = .ok (.bipush 6, 2) := by decide +kernel
theorem dX11_layOrders_5 : decode cX11_layOrders 5 = .ok (.if_icmp .ge 16, 3) := by decide +kernel
theorem dX11_layOrders_8 : decode cX11_layOrders 8 = .ok (.aload_n 0, 1) := by decide +kernel
theorem dX11_layOrders_9 : decode cX11_layOrders 9 = .ok (.getfield 50, 3) := by decide +kernel
theorem dX11_layOrders_12 : decode cX11_layOrders 12 = .ok (.iload_n 1, 1) := by decide +kernel
theorem dX11_layOrders_13 : decode cX11_layOrders 13 = .ok (.iconst 0, 1) := by decide +kernel
theorem dX11_layOrders_14 : decode cX11_layOrders 14 = .ok (.iastore, 1) := by decide +kernel
theorem dX11_layOrders_15 : decode cX11_layOrders 15 = .ok (.iinc 1 1, 3) := by decide +kernel
theorem dX11_layOrders_18 : decode cX11_layOrders 18 = .ok (.goto (-16), 3) := by decide +kernel
theorem dX11_layOrders_21 : decode cX11_layOrders 21 = .ok (.aload_n 0, 1) := by decide +kernel
theorem dX11_layOrders_22 : decode cX11_layOrders 22 = .ok (.iconst 1, 1) := by decide +kernel
theorem dX11_layOrders_23 : decode cX11_layOrders 23 = .ok (.aload_n 0, 1) := by decide +kernel
theorem dX11_layOrders_24 : decode cX11_layOrders 24 = .ok (.getfield 127, 3) := by decide +kernel
theorem dX11_layOrders_27 : decode cX11_layOrders 27 = .ok (.ishl, 1) := by decide +kernel
theorem dX11_layOrders_28 : decode cX11_layOrders 28 = .ok (.iconst 1, 1) := by decide +kernel
theorem dX11_layOrders_29 : decode cX11_layOrders 29 = .ok (.isub, 1) := by decide +kernel
theorem dX11_layOrders_30 : decode cX11_layOrders 30 = .ok (.invokevirtual 254, 3) := by decide +kernel
theorem dX11_layOrders_33 : decode cX11_layOrders 33 = .ok (.iconst 0, 1) := by decide +kernel
theorem dX11_layOrders_34 : decode cX11_layOrders 34 = .ok (.istore_n 1, 1) := by decide +kernel
theorem dX11_layOrders_35 : decode cX11_layOrders 35 = .ok (.iconst 1, 1) := by decide +kernel
theorem dX11_layOrders_36 : decode cX11_layOrders 36 = .ok (.istore_n 2, 1) := by decide +kernel
theorem dX11_layOrders_37 : decode cX11_layOrders 37 = .ok (.iload_n 2, 1) := by decide +kernel
theorem dX11_layOrders_38 : decode cX11_layOrders 38 = .ok (.ifCond .eq 54, 3) := by decide +kernel
theorem dX11_layOrders_41 : decode cX11_layOrders 41 = .ok (.aload_n 0, 1) := by decide +kernel
theorem dX11_layOrders_42 : decode cX11_layOrders 42 = .ok (.invokevirtual 267, 3) := by decide +kernel
theorem dX11_layOrders_45 : decode cX11_layOrders 45 = .ok (.ifCond .eq 39, 3) := by decide +kernel
theorem dX11_layOrders_48 : decode cX11_layOrders 48 = .ok (.iinc 1 1, 3) := by decide +kernel
theorem dX11_layOrders_51 : decode cX11_layOrders 51 = .ok (.iconst 0, 1) := by decide +kernel
theorem dX11_layOrders_52 : decode cX11_layOrders 52 = .ok (.istore_n 3, 1) := by decide +kernel
theorem dX11_layOrders_53 : decode cX11_layOrders 53 = .ok (.iload_n 3, 1) := by decide +kernel
theorem dX11_layOrders_54 : decode cX11_layOrders 54 = .ok (.aload_n 0, 1) := by decide +kernel
theorem dX11_layOrders_55 : decode cX11_layOrders 55 = .ok (.getfield 241, 3) := by decide +kernel
theorem dX11_layOrders_58 : decode cX11_layOrders 58 = .ok (.if_icmp .ge 26, 3) := by decide +kernel
theorem dX11_layOrders_61 : decode cX11_layOrders 61 = .ok (.aload_n 0, 1) := by decide +kernel
theorem dX11_layOrders_62 : decode cX11_layOrders 62 = .ok (.getfield 50, 3) := by decide +kernel
theorem dX11_layOrders_65 : decode cX11_layOrders 65 = .ok (.aload_n 0, 1) := by decide +kernel
theorem dX11_layOrders_66 : decode cX11_layOrders 66 = .ok (.getfield 41, 3) := by decide +kernel
theorem dX11_layOrders_69 : decode cX11_layOrders 69 = .ok (.iload_n 3, 1) := by decide +kernel
theorem dX11_layOrders_70 : decode cX11_layOrders 70 = .ok (.iaload, 1) := by decide +kernel
theorem dX11_layOrders_71 : decode cX11_layOrders 71 = .ok (.dup2, 1) := by decide +kernel
theorem dX11_layOrders_72 : decode cX11_layOrders 72 = .ok (.iaload, 1) := by decide +kernel
theorem dX11_layOrders_73 : decode cX11_layOrders 73 = .ok (.iconst 1, 1) := by decide +kernel
theorem dX11_layOrders_74 : decode cX11_layOrders 74 = .ok (.iload_n 3, 1) := by decide +kernel
theorem dX11_layOrders_75 : decode cX11_layOrders 75 = .ok (.ishl, 1) := by decide +kernel
theorem dX11_layOrders_76 : decode cX11_layOrders 76 = .ok (.ior, 1) := by decide +kernel
theorem dX11_layOrders_77 : decode cX11_layOrders 77 = .ok (.iastore, 1) := by decide +kernel
theorem dX11_layOrders_78 : decode cX11_layOrders 78 = .ok (.iinc 3 1, 3) := by decide +kernel
theorem dX11_layOrders_81 : decode cX11_layOrders 81 = .ok (.goto (-28), 3) := by decide +kernel
theorem dX11_layOrders_84 : decode cX11_layOrders 84 = .ok (.aload_n 0, 1) := by decide +kernel
theorem dX11_layOrders_85 : decode cX11_layOrders 85 = .ok (.invokevirtual 261, 3) := by decide +kernel
theorem dX11_layOrders_88 : decode cX11_layOrders 88 = .ok (.istore_n 2, 1) := by decide +kernel
theorem dX11_layOrders_89 : decode cX11_layOrders 89 = .ok (.goto (-52), 3) := by decide +kernel
theorem dX11_layOrders_92 : decode cX11_layOrders 92 = .ok (.iload_n 1, 1) := by decide +kernel
theorem dX11_layOrders_93 : decode cX11_layOrders 93 = .ok (.ireturn, 1) := by decide +kernel
theorem dX11_orders_0 : decode cX11_orders 0 = .ok (.aload_n 0, 1) := by decide +kernel
theorem dX11_orders_1 : decode cX11_orders 1 = .ok (.invokevirtual 270, 3) := by decide +kernel
theorem dX11_orders_4 : decode cX11_orders 4 = .ok (.ireturn, 1) := by decide +kernel
theorem dX11_sure_0 : decode cX11_sure 0 = .ok (.aload_n 0, 1) := by decide +kernel
theorem dX11_sure_1 : decode cX11_sure 1 = .ok (.iload_n 1, 1) := by decide +kernel
theorem dX11_sure_2 : decode cX11_sure 2 = .ok (.invokevirtual 228, 3) := by decide +kernel
theorem dX11_sure_5 : decode cX11_sure 5 = .ok (.ifCond .ne 6, 3) := by decide +kernel
theorem dX11_sure_8 : decode cX11_sure 8 = .ok (.bipush (-101), 2) := by decide +kernel
theorem dX11_sure_10 : decode cX11_sure 10 = .ok (.ireturn, 1) := by decide +kernel
theorem dX11_sure_11 : decode cX11_sure 11 = .ok (.aload_n 0, 1) := by decide +kernel
theorem dX11_sure_12 : decode cX11_sure 12 = .ok (.invokevirtual 270, 3) := by decide +kernel
theorem dX11_sure_15 : decode cX11_sure 15 = .ok (.istore_n 2, 1) := by decide +kernel
theorem dX11_sure_16 : decode cX11_sure 16 = .ok (.iconst 0, 1) := by decide +kernel
theorem dX11_sure_17 : decode cX11_sure 17 = .ok (.istore_n 3, 1) := by decide +kernel
theorem dX11_sure_18 : decode cX11_sure 18 = .ok (.iload_n 3, 1) := by decide +kernel
theorem dX11_sure_19 : decode cX11_sure 19 = .ok (.bipush 6, 2) := by decide +kernel
theorem dX11_sure_21 : decode cX11_sure 21 = .ok (.if_icmp .ge 23, 3) := by decide +kernel
theorem dX11_sure_24 : decode cX11_sure 24 = .ok (.aload_n 0, 1) := by decide +kernel
theorem dX11_sure_25 : decode cX11_sure 25 = .ok (.getfield 50, 3) := by decide +kernel
theorem dX11_sure_28 : decode cX11_sure 28 = .ok (.iload_n 1, 1) := by decide +kernel
theorem dX11_sure_29 : decode cX11_sure 29 = .ok (.iaload, 1) := by decide +kernel
theorem dX11_sure_30 : decode cX11_sure 30 = .ok (.iconst 1, 1) := by decide +kernel
theorem dX11_sure_31 : decode cX11_sure 31 = .ok (.iload_n 3, 1) := by decide +kernel
theorem dX11_sure_32 : decode cX11_sure 32 = .ok (.ishl, 1) := by decide +kernel
theorem dX11_sure_33 : decode cX11_sure 33 = .ok (.if_icmp .ne 5, 3) := by decide +kernel
theorem dX11_sure_36 : decode cX11_sure 36 = .ok (.iload_n 3, 1) := by decide +kernel
theorem dX11_sure_37 : decode cX11_sure 37 = .ok (.ireturn, 1) := by decide +kernel
theorem dX11_sure_38 : decode cX11_sure 38 = .ok (.iinc 3 1, 3) := by decide +kernel
theorem dX11_sure_41 : decode cX11_sure 41 = .ok (.goto (-23), 3) := by decide +kernel
theorem dX11_sure_44 : decode cX11_sure 44 = .ok (.iconst (-1), 1) := by decide +kernel
theorem dX11_sure_45 : decode cX11_sure 45 = .ok (.ireturn, 1) := by decide +kernel
theorem dX11_wreck_0 : decode cX11_wreck 0 = .ok (.iload_n 1, 1) := by decide +kernel
theorem dX11_wreck_1 : decode cX11_wreck 1 = .ok (.i2l, 1) := by decide +kernel
theorem dX11_wreck_2 : decode cX11_wreck 2 = .ok (.lconst 0, 1) := by decide +kernel
theorem dX11_wreck_3 : decode cX11_wreck 3 = .ok (.ldc2_w 273, 3) := by decide +kernel
theorem dX11_wreck_6 : decode cX11_wreck 6 = .ok (.invokestatic 77, 3) := by decide +kernel
theorem dX11_wreck_9 : decode cX11_wreck 9 = .ok (.ifCond .ne 6, 3) := by decide +kernel
theorem dX11_wreck_12 : decode cX11_wreck 12 = .ok (.bipush (-102), 2) := by decide +kernel
theorem dX11_wreck_14 : decode cX11_wreck 14 = .ok (.ireturn, 1) := by decide +kernel
theorem dX11_wreck_15 : decode cX11_wreck 15 = .ok (.aload_n 0, 1) := by decide +kernel
theorem dX11_wreck_16 : decode cX11_wreck 16 = .ok (.invokevirtual 145, 3) := by decide +kernel
theorem dX11_wreck_19 : decode cX11_wreck 19 = .ok (.ifCond .eq 6, 3) := by decide +kernel
theorem dX11_wreck_22 : decode cX11_wreck 22 = .ok (.bipush (-103), 2) := by decide +kernel
theorem dX11_wreck_24 : decode cX11_wreck 24 = .ok (.ireturn, 1) := by decide +kernel
theorem dX11_wreck_25 : decode cX11_wreck 25 = .ok (.aload_n 0, 1) := by decide +kernel
theorem dX11_wreck_26 : decode cX11_wreck 26 = .ok (.getfield 133, 3) := by decide +kernel
theorem dX11_wreck_29 : decode cX11_wreck 29 = .ok (.bipush 8, 2) := by decide +kernel
theorem dX11_wreck_31 : decode cX11_wreck 31 = .ok (.if_icmp .ne 6, 3) := by decide +kernel
theorem dX11_wreck_34 : decode cX11_wreck 34 = .ok (.bipush (-104), 2) := by decide +kernel
theorem dX11_wreck_36 : decode cX11_wreck 36 = .ok (.ireturn, 1) := by decide +kernel
theorem dX11_wreck_37 : decode cX11_wreck 37 = .ok (.aload_n 0, 1) := by decide +kernel
theorem dX11_wreck_38 : decode cX11_wreck 38 = .ok (.getfield 53, 3) := by decide +kernel
theorem dX11_wreck_41 : decode cX11_wreck 41 = .ok (.aload_n 0, 1) := by decide +kernel
theorem dX11_wreck_42 : decode cX11_wreck 42 = .ok (.getfield 133, 3) := by decide +kernel
theorem dX11_wreck_45 : decode cX11_wreck 45 = .ok (.iload_n 1, 1) := by decide +kernel
theorem dX11_wreck_46 : decode cX11_wreck 46 = .ok (.iastore, 1) := by decide +kernel
theorem dX11_wreck_47 : decode cX11_wreck 47 = .ok (.aload_n 0, 1) := by decide +kernel
theorem dX11_wreck_48 : decode cX11_wreck 48 = .ok (.dup, 1) := by decide +kernel
theorem dX11_wreck_49 : decode cX11_wreck 49 = .ok (.getfield 133, 3) := by decide +kernel
theorem dX11_wreck_52 : decode cX11_wreck 52 = .ok (.iconst 1, 1) := by decide +kernel
theorem dX11_wreck_53 : decode cX11_wreck 53 = .ok (.iadd, 1) := by decide +kernel
theorem dX11_wreck_54 : decode cX11_wreck 54 = .ok (.putfield 133, 3) := by decide +kernel
theorem dX11_wreck_57 : decode cX11_wreck 57 = .ok (.aload_n 0, 1) := by decide +kernel
theorem dX11_wreck_58 : decode cX11_wreck 58 = .ok (.getfield 133, 3) := by decide +kernel
theorem dX11_wreck_61 : decode cX11_wreck 61 = .ok (.ireturn, 1) := by decide +kernel
theorem dX11_stationsOf_0 : decode cX11_stationsOf 0 = .ok (.iconst 0, 1) := by decide +kernel
theorem dX11_stationsOf_1 : decode cX11_stationsOf 1 = .ok (.istore_n 3, 1) := by decide +kernel
theorem dX11_stationsOf_2 : decode cX11_stationsOf 2 = .ok (.iconst (-1), 1) := by decide +kernel
theorem dX11_stationsOf_3 : decode cX11_stationsOf 3 = .ok (.istore 4, 2) := by decide +kernel
theorem dX11_stationsOf_5 : decode cX11_stationsOf 5 = .ok (.iconst (-1), 1) := by decide +kernel
theorem dX11_stationsOf_6 : decode cX11_stationsOf 6 = .ok (.istore 5, 2) := by decide +kernel
theorem dX11_stationsOf_8 : decode cX11_stationsOf 8 = .ok (.iconst 0, 1) := by decide +kernel
theorem dX11_stationsOf_9 : decode cX11_stationsOf 9 = .ok (.istore 6, 2) := by decide +kernel
theorem dX11_stationsOf_11 : decode cX11_stationsOf 11 = .ok (.iload 6, 2) := by decide +kernel
theorem dX11_stationsOf_13 : decode cX11_stationsOf 13 = .ok (.bipush 100, 2) := by decide +kernel
theorem dX11_stationsOf_15 : decode cX11_stationsOf 15 = .ok (.if_icmp .ge 108, 3) := by decide +kernel
theorem dX11_stationsOf_18 : decode cX11_stationsOf 18 = .ok (.iconst 0, 1) := by decide +kernel
theorem dX11_stationsOf_19 : decode cX11_stationsOf 19 = .ok (.istore 7, 2) := by decide +kernel
theorem dX11_stationsOf_21 : decode cX11_stationsOf 21 = .ok (.iconst 0, 1) := by decide +kernel
theorem dX11_stationsOf_22 : decode cX11_stationsOf 22 = .ok (.istore 8, 2) := by decide +kernel
theorem dX11_stationsOf_24 : decode cX11_stationsOf 24 = .ok (.iload 8, 2) := by decide +kernel
theorem dX11_stationsOf_26 : decode cX11_stationsOf 26 = .ok (.aload_n 0, 1) := by decide +kernel
theorem dX11_stationsOf_27 : decode cX11_stationsOf 27 = .ok (.getfield 133, 3) := by decide +kernel
theorem dX11_stationsOf_30 : decode cX11_stationsOf 30 = .ok (.if_icmp .ge 33, 3) := by decide +kernel
theorem dX11_stationsOf_33 : decode cX11_stationsOf 33 = .ok (.iload 7, 2) := by decide +kernel
theorem dX11_stationsOf_35 : decode cX11_stationsOf 35 = .ok (.ifCond .ne 15, 3) := by decide +kernel
theorem dX11_stationsOf_38 : decode cX11_stationsOf 38 = .ok (.aload_n 0, 1) := by decide +kernel
theorem dX11_stationsOf_39 : decode cX11_stationsOf 39 = .ok (.getfield 53, 3) := by decide +kernel
theorem dX11_stationsOf_42 : decode cX11_stationsOf 42 = .ok (.iload 8, 2) := by decide +kernel
theorem dX11_stationsOf_44 : decode cX11_stationsOf 44 = .ok (.iaload, 1) := by decide +kernel
theorem dX11_stationsOf_45 : decode cX11_stationsOf 45 = .ok (.iload 6, 2) := by decide +kernel
theorem dX11_stationsOf_47 : decode cX11_stationsOf 47 = .ok (.if_icmp .ne 7, 3) := by decide +kernel
theorem dX11_stationsOf_50 : decode cX11_stationsOf 50 = .ok (.iconst 1, 1) := by decide +kernel
theorem dX11_stationsOf_51 : decode cX11_stationsOf 51 = .ok (.goto 4, 3) := by decide +kernel
theorem dX11_stationsOf_54 : decode cX11_stationsOf 54 = .ok (.iconst 0, 1) := by decide +kernel
theorem dX11_stationsOf_55 : decode cX11_stationsOf 55 = .ok (.istore 7, 2) := by decide +kernel
theorem dX11_stationsOf_57 : decode cX11_stationsOf 57 = .ok (.iinc 8 1, 3) := by decide +kernel
theorem dX11_stationsOf_60 : decode cX11_stationsOf 60 = .ok (.goto (-36), 3) := by decide +kernel
theorem dX11_stationsOf_63 : decode cX11_stationsOf 63 = .ok (.iload 7, 2) := by decide +kernel
theorem dX11_stationsOf_65 : decode cX11_stationsOf 65 = .ok (.ifCond .eq 52, 3) := by decide +kernel
theorem dX11_stationsOf_68 : decode cX11_stationsOf 68 = .ok (.iload 6, 2) := by decide +kernel
theorem dX11_stationsOf_70 : decode cX11_stationsOf 70 = .ok (.iload 5, 2) := by decide +kernel
theorem dX11_stationsOf_72 : decode cX11_stationsOf 72 = .ok (.if_icmp .le 45, 3) := by decide +kernel
theorem dX11_stationsOf_75 : decode cX11_stationsOf 75 = .ok (.iload 6, 2) := by decide +kernel
theorem dX11_stationsOf_77 : decode cX11_stationsOf 77 = .ok (.iload_n 1, 1) := by decide +kernel
theorem dX11_stationsOf_78 : decode cX11_stationsOf 78 = .ok (.iadd, 1) := by decide +kernel
theorem dX11_stationsOf_79 : decode cX11_stationsOf 79 = .ok (.bipush 99, 2) := by decide +kernel
theorem dX11_stationsOf_81 : decode cX11_stationsOf 81 = .ok (.if_icmp .le 8, 3) := by decide +kernel
theorem dX11_stationsOf_84 : decode cX11_stationsOf 84 = .ok (.bipush 99, 2) := by decide +kernel
theorem dX11_stationsOf_86 : decode cX11_stationsOf 86 = .ok (.goto 7, 3) := by decide +kernel
theorem dX11_stationsOf_89 : decode cX11_stationsOf 89 = .ok (.iload 6, 2) := by decide +kernel
theorem dX11_stationsOf_91 : decode cX11_stationsOf 91 = .ok (.iload_n 1, 1) := by decide +kernel
theorem dX11_stationsOf_92 : decode cX11_stationsOf 92 = .ok (.iadd, 1) := by decide +kernel
theorem dX11_stationsOf_93 : decode cX11_stationsOf 93 = .ok (.istore 8, 2) := by decide +kernel
theorem dX11_stationsOf_95 : decode cX11_stationsOf 95 = .ok (.iload_n 3, 1) := by decide +kernel
theorem dX11_stationsOf_96 : decode cX11_stationsOf 96 = .ok (.ifCond .ne 8, 3) := by decide +kernel
theorem dX11_stationsOf_99 : decode cX11_stationsOf 99 = .ok (.iload 8, 2) := by decide +kernel
theorem dX11_stationsOf_101 : decode cX11_stationsOf 101 = .ok (.goto 5, 3) := by decide +kernel
theorem dX11_stationsOf_104 : decode cX11_stationsOf 104 = .ok (.iload 4, 2) := by decide +kernel
theorem dX11_stationsOf_106 : decode cX11_stationsOf 106 = .ok (.istore 4, 2) := by decide +kernel
theorem dX11_stationsOf_108 : decode cX11_stationsOf 108 = .ok (.iinc 3 1, 3) := by decide +kernel
theorem dX11_stationsOf_111 : decode cX11_stationsOf 111 = .ok (.iload 8, 2) := by decide +kernel
theorem dX11_stationsOf_113 : decode cX11_stationsOf 113 = .ok (.iload_n 1, 1) := by decide +kernel
theorem dX11_stationsOf_114 : decode cX11_stationsOf 114 = .ok (.iadd, 1) := by decide +kernel
theorem dX11_stationsOf_115 : decode cX11_stationsOf 115 = .ok (.istore 5, 2) := by decide +kernel
theorem dX11_stationsOf_117 : decode cX11_stationsOf 117 = .ok (.iinc 6 1, 3) := by decide +kernel
theorem dX11_stationsOf_120 : decode cX11_stationsOf 120 = .ok (.goto (-109), 3) := by decide +kernel
theorem dX11_stationsOf_123 : decode cX11_stationsOf 123 = .ok (.iload_n 2, 1) := by decide +kernel
theorem dX11_stationsOf_124 : decode cX11_stationsOf 124 = .ok (.ifCond .ne 7, 3) := by decide +kernel
