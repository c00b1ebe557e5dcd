theorem dX10_digest_213 : decode cX10_digest 213 = .ok (.lreturn, 1) := by decide +kernel
theorem dX10_mixSea_0 : decode cX10_mixSea 0 = .ok (.lload_n 1, 1) := by decide +kernel
theorem dX10_mixSea_1 : decode cX10_mixSea 1 = .ok (.lstore_n 3, 1) := by decide +kernel
theorem dX10_mixSea_2 : decode cX10_mixSea 2 = .ok (.iconst 0, 1) := by decide +kernel
theorem dX10_mixSea_3 : decode cX10_mixSea 3 = .ok (.istore 5, 2) := by decide +kernel
theorem dX10_mixSea_5 : decode cX10_mixSea 5 = .ok (.iload 5, 2) := by decide +kernel
theorem dX10_mixSea_7 : decode cX10_mixSea 7 = .ok (.iconst 4, 1) := by decide +kernel
theorem dX10_mixSea_8 : decode cX10_mixSea 8 = .ok (.if_icmp .gt 21, 3) := by decide +kernel
theorem dX10_mixSea_11 : decode cX10_mixSea 11 = .ok (.lload_n 3, 1) := by decide +kernel
theorem dX10_mixSea_12 : decode cX10_mixSea 12 = .ok (.aload_n 0, 1) := by decide +kernel
theorem dX10_mixSea_13 : decode cX10_mixSea 13 = .ok (.iload 5, 2) := by decide +kernel
theorem dX10_mixSea_15 : decode cX10_mixSea 15 = .ok (.invokevirtual 357, 3) := by decide +kernel
theorem dX10_mixSea_18 : decode cX10_mixSea 18 = .ok (.i2l, 1) := by decide +kernel
theorem dX10_mixSea_19 : decode cX10_mixSea 19 = .ok (.invokestatic 338, 3) := by decide +kernel
theorem dX10_mixSea_22 : decode cX10_mixSea 22 = .ok (.lstore_n 3, 1) := by decide +kernel
theorem dX10_mixSea_23 : decode cX10_mixSea 23 = .ok (.iinc 5 1, 3) := by decide +kernel
theorem dX10_mixSea_26 : decode cX10_mixSea 26 = .ok (.goto (-21), 3) := by decide +kernel
theorem dX10_mixSea_29 : decode cX10_mixSea 29 = .ok (.bipush 10, 2) := by decide +kernel
theorem dX10_mixSea_31 : decode cX10_mixSea 31 = .ok (.istore 5, 2) := by decide +kernel
theorem dX10_mixSea_33 : decode cX10_mixSea 33 = .ok (.iload 5, 2) := by decide +kernel
theorem dX10_mixSea_35 : decode cX10_mixSea 35 = .ok (.bipush 19, 2) := by decide +kernel
theorem dX10_mixSea_37 : decode cX10_mixSea 37 = .ok (.if_icmp .gt 21, 3) := by decide +kernel
theorem dX10_mixSea_40 : decode cX10_mixSea 40 = .ok (.lload_n 3, 1) := by decide +kernel
theorem dX10_mixSea_41 : decode cX10_mixSea 41 = .ok (.aload_n 0, 1) := by decide +kernel
theorem dX10_mixSea_42 : decode cX10_mixSea 42 = .ok (.iload 5, 2) := by decide +kernel
theorem dX10_mixSea_44 : decode cX10_mixSea 44 = .ok (.invokevirtual 357, 3) := by decide +kernel
theorem dX10_mixSea_47 : decode cX10_mixSea 47 = .ok (.i2l, 1) := by decide +kernel
theorem dX10_mixSea_48 : decode cX10_mixSea 48 = .ok (.invokestatic 338, 3) := by decide +kernel
theorem dX10_mixSea_51 : decode cX10_mixSea 51 = .ok (.lstore_n 3, 1) := by decide +kernel
theorem dX10_mixSea_52 : decode cX10_mixSea 52 = .ok (.iinc 5 1, 3) := by decide +kernel
theorem dX10_mixSea_55 : decode cX10_mixSea 55 = .ok (.goto (-22), 3) := by decide +kernel
theorem dX10_mixSea_58 : decode cX10_mixSea 58 = .ok (.lload_n 3, 1) := by decide +kernel
theorem dX10_mixSea_59 : decode cX10_mixSea 59 = .ok (.lreturn, 1) := by decide +kernel
theorem dX10_hasNight_0 : decode cX10_hasNight 0 = .ok (.aload_n 0, 1) := by decide +kernel
theorem dX10_hasNight_1 : decode cX10_hasNight 1 = .ok (.getfield 109, 3) := by decide +kernel
theorem dX10_hasNight_4 : decode cX10_hasNight 4 = .ok (.ifCond .le 7, 3) := by decide +kernel
theorem dX10_hasNight_7 : decode cX10_hasNight 7 = .ok (.iconst 1, 1) := by decide +kernel
theorem dX10_hasNight_8 : decode cX10_hasNight 8 = .ok (.goto 4, 3) := by decide +kernel
theorem dX10_hasNight_11 : decode cX10_hasNight 11 = .ok (.iconst 0, 1) := by decide +kernel
theorem dX10_hasNight_12 : decode cX10_hasNight 12 = .ok (.ireturn, 1) := by decide +kernel
theorem dX10_isAfloat_0 : decode cX10_isAfloat 0 = .ok (.aload_n 0, 1) := by decide +kernel
theorem dX10_isAfloat_1 : decode cX10_isAfloat 1 = .ok (.invokevirtual 115, 3) := by decide +kernel
theorem dX10_isAfloat_4 : decode cX10_isAfloat 4 = .ok (.ifCond .eq 17, 3) := by decide +kernel
theorem dX10_isAfloat_7 : decode cX10_isAfloat 7 = .ok (.aload_n 0, 1) := by decide +kernel
theorem dX10_isAfloat_8 : decode cX10_isAfloat 8 = .ok (.getfield 40, 3) := by decide +kernel
theorem dX10_isAfloat_11 : decode cX10_isAfloat 11 = .ok (.getfield 139, 3) := by decide +kernel
theorem dX10_isAfloat_14 : decode cX10_isAfloat 14 = .ok (.ifCond .ne 7, 3) := by decide +kernel
theorem dX10_isAfloat_17 : decode cX10_isAfloat 17 = .ok (.iconst 1, 1) := by decide +kernel
theorem dX10_isAfloat_18 : decode cX10_isAfloat 18 = .ok (.goto 4, 3) := by decide +kernel
theorem dX10_isAfloat_21 : decode cX10_isAfloat 21 = .ok (.iconst 0, 1) := by decide +kernel
theorem dX10_isAfloat_22 : decode cX10_isAfloat 22 = .ok (.ireturn, 1) := by decide +kernel
theorem dX10_canAim_0 : decode cX10_canAim 0 = .ok (.aload_n 0, 1) := by decide +kernel
theorem dX10_canAim_1 : decode cX10_canAim 1 = .ok (.invokevirtual 244, 3) := by decide +kernel
theorem dX10_canAim_4 : decode cX10_canAim 4 = .ok (.ifCond .eq 17, 3) := by decide +kernel
theorem dX10_canAim_7 : decode cX10_canAim 7 = .ok (.aload_n 0, 1) := by decide +kernel
theorem dX10_canAim_8 : decode cX10_canAim 8 = .ok (.getfield 40, 3) := by decide +kernel
theorem dX10_canAim_11 : decode cX10_canAim 11 = .ok (.getfield 156, 3) := by decide +kernel
theorem dX10_canAim_14 : decode cX10_canAim 14 = .ok (.ifCond .ne 7, 3) := by decide +kernel
theorem dX10_canAim_17 : decode cX10_canAim 17 = .ok (.iconst 1, 1) := by decide +kernel
theorem dX10_canAim_18 : decode cX10_canAim 18 = .ok (.goto 4, 3) := by decide +kernel
theorem dX10_canAim_21 : decode cX10_canAim 21 = .ok (.iconst 0, 1) := by decide +kernel
theorem dX10_canAim_22 : decode cX10_canAim 22 = .ok (.ireturn, 1) := by decide +kernel
theorem dX10_areTwoMen_0 : decode cX10_areTwoMen 0 = .ok (.iload_n 1, 1) := by decide +kernel
theorem dX10_areTwoMen_1 : decode cX10_areTwoMen 1 = .ok (.iload_n 2, 1) := by decide +kernel
theorem dX10_areTwoMen_2 : decode cX10_areTwoMen 2 = .ok (.if_icmp .eq 29, 3) := by decide +kernel
theorem dX10_areTwoMen_5 : decode cX10_areTwoMen 5 = .ok (.aload_n 0, 1) := by decide +kernel
theorem dX10_areTwoMen_6 : decode cX10_areTwoMen 6 = .ok (.getfield 33, 3) := by decide +kernel
theorem dX10_areTwoMen_9 : decode cX10_areTwoMen 9 = .ok (.iload_n 1, 1) := by decide +kernel
theorem dX10_areTwoMen_10 : decode cX10_areTwoMen 10 = .ok (.invokevirtual 194, 3) := by decide +kernel
theorem dX10_areTwoMen_13 : decode cX10_areTwoMen 13 = .ok (.ifCond .eq 18, 3) := by decide +kernel
theorem dX10_areTwoMen_16 : decode cX10_areTwoMen 16 = .ok (.aload_n 0, 1) := by decide +kernel
theorem dX10_areTwoMen_17 : decode cX10_areTwoMen 17 = .ok (.getfield 33, 3) := by decide +kernel
theorem dX10_areTwoMen_20 : decode cX10_areTwoMen 20 = .ok (.iload_n 2, 1) := by decide +kernel
theorem dX10_areTwoMen_21 : decode cX10_areTwoMen 21 = .ok (.invokevirtual 194, 3) := by decide +kernel
theorem dX10_areTwoMen_24 : decode cX10_areTwoMen 24 = .ok (.ifCond .eq 7, 3) := by decide +kernel
theorem dX10_areTwoMen_27 : decode cX10_areTwoMen 27 = .ok (.iconst 1, 1) := by decide +kernel
theorem dX10_areTwoMen_28 : decode cX10_areTwoMen 28 = .ok (.goto 4, 3) := by decide +kernel
theorem dX10_areTwoMen_31 : decode cX10_areTwoMen 31 = .ok (.iconst 0, 1) := by decide +kernel
theorem dX10_areTwoMen_32 : decode cX10_areTwoMen 32 = .ok (.ireturn, 1) := by decide +kernel
theorem dX10_mayCome_0 : decode cX10_mayCome 0 = .ok (.aload_n 0, 1) := by decide +kernel
theorem dX10_mayCome_1 : decode cX10_mayCome 1 = .ok (.getfield 40, 3) := by decide +kernel
theorem dX10_mayCome_4 : decode cX10_mayCome 4 = .ok (.getfield 156, 3) := by decide +kernel
theorem dX10_mayCome_7 : decode cX10_mayCome 7 = .ok (.ifCond .eq 92, 3) := by decide +kernel
theorem dX10_mayCome_10 : decode cX10_mayCome 10 = .ok (.aload_n 0, 1) := by decide +kernel
theorem dX10_mayCome_11 : decode cX10_mayCome 11 = .ok (.getfield 40, 3) := by decide +kernel
theorem dX10_mayCome_14 : decode cX10_mayCome 14 = .ok (.getfield 139, 3) := by decide +kernel
theorem dX10_mayCome_17 : decode cX10_mayCome 17 = .ok (.ifCond .ne 82, 3) := by decide +kernel
theorem dX10_mayCome_20 : decode cX10_mayCome 20 = .ok (.aload_n 0, 1) := by decide +kernel
theorem dX10_mayCome_21 : decode cX10_mayCome 21 = .ok (.getfield 40, 3) := by decide +kernel
theorem dX10_mayCome_24 : decode cX10_mayCome 24 = .ok (.getfield 218, 3) := by decide +kernel
theorem dX10_mayCome_27 : decode cX10_mayCome 27 = .ok (.iload_n 1, 1) := by decide +kernel
theorem dX10_mayCome_28 : decode cX10_mayCome 28 = .ok (.invokestatic 135, 3) := by decide +kernel
theorem dX10_mayCome_31 : decode cX10_mayCome 31 = .ok (.ifCond .ne 68, 3) := by decide +kernel
theorem dX10_mayCome_34 : decode cX10_mayCome 34 = .ok (.aload_n 0, 1) := by decide +kernel
theorem dX10_mayCome_35 : decode cX10_mayCome 35 = .ok (.getfield 40, 3) := by decide +kernel
theorem dX10_mayCome_38 : decode cX10_mayCome 38 = .ok (.getfield 218, 3) := by decide +kernel
theorem dX10_mayCome_41 : decode cX10_mayCome 41 = .ok (.aload_n 0, 1) := by decide +kernel
theorem dX10_mayCome_42 : decode cX10_mayCome 42 = .ok (.getfield 33, 3) := by decide +kernel
theorem dX10_mayCome_45 : decode cX10_mayCome 45 = .ok (.iload_n 1, 1) := by decide +kernel
theorem dX10_mayCome_46 : decode cX10_mayCome 46 = .ok (.invokevirtual 360, 3) := by decide +kernel
theorem dX10_mayCome_49 : decode cX10_mayCome 49 = .ok (.invokestatic 363, 3) := by decide +kernel
theorem dX10_mayCome_52 : decode cX10_mayCome 52 = .ok (.ifCond .eq 47, 3) := by decide +kernel
theorem dX10_mayCome_55 : decode cX10_mayCome 55 = .ok (.aload_n 0, 1) := by decide +kernel
theorem dX10_mayCome_56 : decode cX10_mayCome 56 = .ok (.getfield 40, 3) := by decide +kernel
theorem dX10_mayCome_59 : decode cX10_mayCome 59 = .ok (.getfield 241, 3) := by decide +kernel
theorem dX10_mayCome_62 : decode cX10_mayCome 62 = .ok (.aload_n 0, 1) := by decide +kernel
theorem dX10_mayCome_63 : decode cX10_mayCome 63 = .ok (.getfield 33, 3) := by decide +kernel
theorem dX10_mayCome_66 : decode cX10_mayCome 66 = .ok (.iload_n 1, 1) := by decide +kernel
theorem dX10_mayCome_67 : decode cX10_mayCome 67 = .ok (.aload_n 0, 1) := by decide +kernel
theorem dX10_mayCome_68 : decode cX10_mayCome 68 = .ok (.getfield 19, 3) := by decide +kernel
theorem dX10_mayCome_71 : decode cX10_mayCome 71 = .ok (.getfield 201, 3) := by decide +kernel
theorem dX10_mayCome_74 : decode cX10_mayCome 74 = .ok (.aload_n 0, 1) := by decide +kernel
theorem dX10_mayCome_75 : decode cX10_mayCome 75 = .ok (.getfield 40, 3) := by decide +kernel
theorem dX10_mayCome_78 : decode cX10_mayCome 78 = .ok (.getfield 204, 3) := by decide +kernel
theorem dX10_mayCome_81 : decode cX10_mayCome 81 = .ok (.invokevirtual 207, 3) := by decide +kernel
theorem dX10_mayCome_84 : decode cX10_mayCome 84 = .ok (.iadd, 1) := by decide +kernel
theorem dX10_mayCome_85 : decode cX10_mayCome 85 = .ok (.aload_n 0, 1) := by decide +kernel
theorem dX10_mayCome_86 : decode cX10_mayCome 86 = .ok (.getfield 19, 3) := by decide +kernel
theorem dX10_mayCome_89 : decode cX10_mayCome 89 = .ok (.invokevirtual 247, 3) := by decide +kernel
theorem dX10_mayCome_92 : decode cX10_mayCome 92 = .ok (.if_icmp .ge 7, 3) := by decide +kernel
theorem dX10_mayCome_95 : decode cX10_mayCome 95 = .ok (.iconst 1, 1) := by decide +kernel
theorem dX10_mayCome_96 : decode cX10_mayCome 96 = .ok (.goto 4, 3) := by decide +kernel
theorem dX10_mayCome_99 : decode cX10_mayCome 99 = .ok (.iconst 0, 1) := by decide +kernel
theorem dX10_mayCome_100 : decode cX10_mayCome 100 = .ok (.ireturn, 1) := by decide +kernel
theorem dX10_isOutside_0 : decode cX10_isOutside 0 = .ok (.iload_n 0, 1) := by decide +kernel
theorem dX10_isOutside_1 : decode cX10_isOutside 1 = .ok (.iload_n 1, 1) := by decide +kernel
theorem dX10_isOutside_2 : decode cX10_isOutside 2 = .ok (.if_icmp .lt 8, 3) := by decide +kernel
theorem dX10_isOutside_5 : decode cX10_isOutside 5 = .ok (.iload_n 0, 1) := by decide +kernel
theorem dX10_isOutside_6 : decode cX10_isOutside 6 = .ok (.iload_n 2, 1) := by decide +kernel
theorem dX10_isOutside_7 : decode cX10_isOutside 7 = .ok (.if_icmp .le 7, 3) := by decide +kernel
theorem dX10_isOutside_10 : decode cX10_isOutside 10 = .ok (.iconst 1, 1) := by decide +kernel
theorem dX10_isOutside_11 : decode cX10_isOutside 11 = .ok (.goto 4, 3) := by decide +kernel
theorem dX10_isOutside_14 : decode cX10_isOutside 14 = .ok (.iconst 0, 1) := by decide +kernel
theorem dX10_isOutside_15 : decode cX10_isOutside 15 = .ok (.ireturn, 1) := by decide +kernel
theorem dX10_asNumber_0 : decode cX10_asNumber 0 = .ok (.iload_n 0, 1) := by decide +kernel
theorem dX10_asNumber_1 : decode cX10_asNumber 1 = .ok (.ifCond .eq 7, 3) := by decide +kernel
theorem dX10_asNumber_4 : decode cX10_asNumber 4 = .ok (.iconst 1, 1) := by decide +kernel
theorem dX10_asNumber_5 : decode cX10_asNumber 5 = .ok (.goto 4, 3) := by decide +kernel
theorem dX10_asNumber_8 : decode cX10_asNumber 8 = .ok (.iconst 0, 1) := by decide +kernel
theorem dX10_asNumber_9 : decode cX10_asNumber 9 = .ok (.ireturn, 1) := by decide +kernel
theorem dX10_mix_0 : decode cX10_mix 0 = .ok (.ldc2_w 366, 3) := by decide +kernel
theorem dX10_mix_3 : decode cX10_mix 3 = .ok (.lload_n 0, 1) := by decide +kernel
theorem dX10_mix_4 : decode cX10_mix 4 = .ok (.lmul, 1) := by decide +kernel
theorem dX10_mix_5 : decode cX10_mix 5 = .ok (.lload_n 2, 1) := by decide +kernel
theorem dX10_mix_6 : decode cX10_mix 6 = .ok (.ladd, 1) := by decide +kernel
theorem dX10_mix_7 : decode cX10_mix 7 = .ok (.lreturn, 1) := by decide +kernel
theorem dX10_isIn_0 : decode cX10_isIn 0 = .ok (.iload_n 0, 1) := by decide +kernel
theorem dX10_isIn_1 : decode cX10_isIn 1 = .ok (.iload_n 1, 1) := by decide +kernel
theorem dX10_isIn_2 : decode cX10_isIn 2 = .ok (.ishr, 1) := by decide +kernel
theorem dX10_isIn_3 : decode cX10_isIn 3 = .ok (.iconst 1, 1) := by decide +kernel
theorem dX10_isIn_4 : decode cX10_isIn 4 = .ok (.iand, 1) := by decide +kernel
theorem dX10_isIn_5 : decode cX10_isIn 5 = .ok (.ifCond .eq 7, 3) := by decide +kernel
theorem dX10_isIn_8 : decode cX10_isIn 8 = .ok (.iconst 1, 1) := by decide +kernel
theorem dX10_isIn_9 : decode cX10_isIn 9 = .ok (.goto 4, 3) := by decide +kernel
theorem dX10_isIn_12 : decode cX10_isIn 12 = .ok (.iconst 0, 1) := by decide +kernel
theorem dX10_isIn_13 : decode cX10_isIn 13 = .ok (.ireturn, 1) := by decide +kernel
theorem dX10_with_0 : decode cX10_with 0 = .ok (.iload_n 0, 1) := by decide +kernel
theorem dX10_with_1 : decode cX10_with 1 = .ok (.iconst 1, 1) := by decide +kernel
theorem dX10_with_2 : decode cX10_with 2 = .ok (.iload_n 1, 1) := by decide +kernel
theorem dX10_with_3 : decode cX10_with 3 = .ok (.ishl, 1) := by decide +kernel
theorem dX10_with_4 : decode cX10_with 4 = .ok (.ior, 1) := by decide +kernel
theorem dX10_with_5 : decode cX10_with 5 = .ok (.ireturn, 1) := by decide +kernel
theorem dX10_without_0 : decode cX10_without 0 = .ok (.iload_n 0, 1) := by decide +kernel
theorem dX10_without_1 : decode cX10_without 1 = .ok (.iconst 1, 1) := by decide +kernel
theorem dX10_without_2 : decode cX10_without 2 = .ok (.iload_n 1, 1) := by decide +kernel
theorem dX10_without_3 : decode cX10_without 3 = .ok (.ishl, 1) := by decide +kernel
theorem dX10_without_4 : decode cX10_without 4 = .ok (.iconst (-1), 1) := by decide +kernel
theorem dX10_without_5 : decode cX10_without 5 = .ok (.ixor, 1) := by decide +kernel
theorem dX10_without_6 : decode cX10_without 6 = .ok (.iand, 1) := by decide +kernel
theorem dX10_without_7 : decode cX10_without 7 = .ok (.ireturn, 1) := by decide +kernel
theorem dX10_holdsAll_0 : decode cX10_holdsAll 0 = .ok (.iload_n 1, 1) := by decide +kernel
theorem dX10_holdsAll_1 : decode cX10_holdsAll 1 = .ok (.iload_n 0, 1) := by decide +kernel
theorem dX10_holdsAll_2 : decode cX10_holdsAll 2 = .ok (.iconst (-1), 1) := by decide +kernel
theorem dX10_holdsAll_3 : decode cX10_holdsAll 3 = .ok (.ixor, 1) := by decide +kernel
theorem dX10_holdsAll_4 : decode cX10_holdsAll 4 = .ok (.iand, 1) := by decide +kernel
theorem dX10_holdsAll_5 : decode cX10_holdsAll 5 = .ok (.ifCond .ne 7, 3) := by decide +kernel
theorem dX10_holdsAll_8 : decode cX10_holdsAll 8 = .ok (.iconst 1, 1) := by decide +kernel
theorem dX10_holdsAll_9 : decode cX10_holdsAll 9 = .ok (.goto 4, 3) := by decide +kernel
theorem dX10_holdsAll_12 : decode cX10_holdsAll 12 = .ok (.iconst 0, 1) := by decide +kernel
theorem dX10_holdsAll_13 : decode cX10_holdsAll 13 = .ok (.ireturn, 1) := by decide +kernel
theorem dX10_at_0 : decode cX10_at 0 = .ok (.iload_n 1, 1) := by decide +kernel
theorem dX10_at_1 : decode cX10_at 1 = .ok (.ifCond .lt 15, 3) := by decide +kernel
theorem dX10_at_4 : decode cX10_at 4 = .ok (.iload_n 1, 1) := by decide +kernel
theorem dX10_at_5 : decode cX10_at 5 = .ok (.aload_n 0, 1) := by decide +kernel
theorem dX10_at_6 : decode cX10_at 6 = .ok (.arraylength, 1) := by decide +kernel
theorem dX10_at_7 : decode cX10_at 7 = .ok (.if_icmp .ge 9, 3) := by decide +kernel
theorem dX10_at_10 : decode cX10_at 10 = .ok (.aload_n 0, 1) := by decide +kernel
theorem dX10_at_11 : decode cX10_at 11 = .ok (.iload_n 1, 1) := by decide +kernel
theorem dX10_at_12 : decode cX10_at 12 = .ok (.iaload, 1) := by decide +kernel
theorem dX10_at_13 : decode cX10_at 13 = .ok (.goto 4, 3) := by decide +kernel
theorem dX10_at_16 : decode cX10_at 16 = .ok (.iconst 0, 1) := by decide +kernel
theorem dX10_at_17 : decode cX10_at 17 = .ok (.ireturn, 1) := by decide +kernel
theorem dX10_at__0 : decode cX10_at_ 0 = .ok (.iload_n 1, 1) := by decide +kernel
theorem dX10_at__1 : decode cX10_at_ 1 = .ok (.ifCond .lt 15, 3) := by decide +kernel
theorem dX10_at__4 : decode cX10_at_ 4 = .ok (.iload_n 1, 1) := by decide +kernel
theorem dX10_at__5 : decode cX10_at_ 5 = .ok (.aload_n 0, 1) := by decide +kernel
theorem dX10_at__6 : decode cX10_at_ 6 = .ok (.arraylength, 1) := by decide +kernel
theorem dX10_at__7 : decode cX10_at_ 7 = .ok (.if_icmp .ge 9, 3) := by decide +kernel
theorem dX10_at__10 : decode cX10_at_ 10 = .ok (.aload_n 0, 1) := by decide +kernel
theorem dX10_at__11 : decode cX10_at_ 11 = .ok (.iload_n 1, 1) := by decide +kernel
theorem dX10_at__12 : decode cX10_at_ 12 = .ok (.laload, 1) := by decide +kernel
theorem dX10_at__13 : decode cX10_at_ 13 = .ok (.goto 4, 3) := by decide +kernel
theorem dX10_at__16 : decode cX10_at_ 16 = .ok (.lconst 0, 1) := by decide +kernel
theorem dX10_at__17 : decode cX10_at_ 17 = .ok (.lreturn, 1) := by decide +kernel
theorem dX10_put_0 : decode cX10_put 0 = .ok (.iload_n 1, 1) := by decide +kernel
theorem dX10_put_1 : decode cX10_put 1 = .ok (.ifCond .lt 13, 3) := by decide +kernel
theorem dX10_put_4 : decode cX10_put 4 = .ok (.iload_n 1, 1) := by decide +kernel
theorem dX10_put_5 : decode cX10_put 5 = .ok (.aload_n 0, 1) := by decide +kernel
theorem dX10_put_6 : decode cX10_put 6 = .ok (.arraylength, 1) := by decide +kernel
theorem dX10_put_7 : decode cX10_put 7 = .ok (.if_icmp .ge 7, 3) := by decide +kernel
theorem dX10_put_10 : decode cX10_put 10 = .ok (.aload_n 0, 1) := by decide +kernel
theorem dX10_put_11 : decode cX10_put 11 = .ok (.iload_n 1, 1) := by decide +kernel
theorem dX10_put_12 : decode cX10_put 12 = .ok (.iload_n 2, 1) := by decide +kernel
theorem dX10_put_13 : decode cX10_put 13 = .ok (.iastore, 1) := by decide +kernel
theorem dX10_put_14 : decode cX10_put 14 = .ok (.return_, 1) := by decide +kernel
theorem dX10_put__0 : decode cX10_put_ 0 = .ok (.iload_n 1, 1) := by decide +kernel
theorem dX10_put__1 : decode cX10_put_ 1 = .ok (.ifCond .lt 13, 3) := by decide +kernel
theorem dX10_put__4 : decode cX10_put_ 4 = .ok (.iload_n 1, 1) := by decide +kernel
theorem dX10_put__5 : decode cX10_put_ 5 = .ok (.aload_n 0, 1) := by decide +kernel
theorem dX10_put__6 : decode cX10_put_ 6 = .ok (.arraylength, 1) := by decide +kernel
theorem dX10_put__7 : decode cX10_put_ 7 = .ok (.if_icmp .ge 7, 3) := by decide +kernel
theorem dX10_put__10 : decode cX10_put_ 10 = .ok (.aload_n 0, 1) := by decide +kernel
theorem dX10_put__11 : decode cX10_put_ 11 = .ok (.iload_n 1, 1) := by decide +kernel
theorem dX10_put__12 : decode cX10_put_ 12 = .ok (.lload_n 2, 1) := by decide +kernel
theorem dX10_put__13 : decode cX10_put_ 13 = .ok (.lastore, 1) := by decide +kernel
theorem dX10_put__14 : decode cX10_put_ 14 = .ok (.return_, 1) := by decide +kernel
theorem dX10_inLowestTerms_0 : decode cX10_inLowestTerms 0 = .ok (.lload_n 0, 1) := by decide +kernel
theorem dX10_inLowestTerms_1 : decode cX10_inLowestTerms 1 = .ok (.lload_n 2, 1) := by decide +kernel
theorem dX10_inLowestTerms_2 : decode cX10_inLowestTerms 2 = .ok (.invokestatic 368, 3) := by decide +kernel
theorem dX10_inLowestTerms_5 : decode cX10_inLowestTerms 5 = .ok (.lstore 5, 2) := by decide +kernel
theorem dX10_inLowestTerms_7 : decode cX10_inLowestTerms 7 = .ok (.lload 5, 2) := by decide +kernel
theorem dX10_inLowestTerms_9 : decode cX10_inLowestTerms 9 = .ok (.lconst 0, 1) := by decide +kernel
theorem dX10_inLowestTerms_10 : decode cX10_inLowestTerms 10 = .ok (.lcmp, 1) := by decide +kernel
theorem dX10_inLowestTerms_11 : decode cX10_inLowestTerms 11 = .ok (.ifCond .gt 5, 3) := by decide +kernel
theorem dX10_inLowestTerms_14 : decode cX10_inLowestTerms 14 = .ok (.lconst 0, 1) := by decide +kernel
theorem dX10_inLowestTerms_15 : decode cX10_inLowestTerms 15 = .ok (.lreturn, 1) := by decide +kernel
theorem dX10_inLowestTerms_16 : decode cX10_inLowestTerms 16 = .ok (.iload 4, 2) := by decide +kernel
theorem dX10_inLowestTerms_18 : decode cX10_inLowestTerms 18 = .ok (.ifCond .ne 7, 3) := by decide +kernel
theorem dX10_inLowestTerms_21 : decode cX10_inLowestTerms 21 = .ok (.lload_n 0, 1) := by decide +kernel
theorem dX10_inLowestTerms_22 : decode cX10_inLowestTerms 22 = .ok (.goto 4, 3) := by decide +kernel
theorem dX10_inLowestTerms_25 : decode cX10_inLowestTerms 25 = .ok (.lload_n 2, 1) := by decide +kernel
theorem dX10_inLowestTerms_26 : decode cX10_inLowestTerms 26 = .ok (.lload 5, 2) := by decide +kernel
theorem dX10_inLowestTerms_28 : decode cX10_inLowestTerms 28 = .ok (.ldiv, 1) := by decide +kernel
theorem dX10_inLowestTerms_29 : decode cX10_inLowestTerms 29 = .ok (.lreturn, 1) := by decide +kernel
theorem dX10_commonDivisor_0 : decode cX10_commonDivisor 0 = .ok (.lload_n 0, 1) := by decide +kernel
theorem dX10_commonDivisor_1 : decode cX10_commonDivisor 1 = .ok (.lstore 4, 2) := by decide +kernel
theorem dX10_commonDivisor_3 : decode cX10_commonDivisor 3 = .ok (.lload_n 2, 1) := by decide +kernel
theorem dX10_commonDivisor_4 : decode cX10_commonDivisor 4 = .ok (.lstore 6, 2) := by decide +kernel
theorem dX10_commonDivisor_6 : decode cX10_commonDivisor 6 = .ok (.iconst 0, 1) := by decide +kernel
theorem dX10_commonDivisor_7 : decode cX10_commonDivisor 7 = .ok (.istore 8, 2) := by decide +kernel
theorem dX10_commonDivisor_9 : decode cX10_commonDivisor 9 = .ok (.iload 8, 2) := by decide +kernel
theorem dX10_commonDivisor_11 : decode cX10_commonDivisor 11 = .ok (.bipush 100, 2) := by decide +kernel
theorem dX10_commonDivisor_13 : decode cX10_commonDivisor 13 = .ok (.if_icmp .ge 31, 3) := by decide +kernel
theorem dX10_commonDivisor_16 : decode cX10_commonDivisor 16 = .ok (.lload 6, 2) := by decide +kernel
theorem dX10_commonDivisor_18 : decode cX10_commonDivisor 18 = .ok (.lconst 0, 1) := by decide +kernel
theorem dX10_commonDivisor_19 : decode cX10_commonDivisor 19 = .ok (.lcmp, 1) := by decide +kernel
theorem dX10_commonDivisor_20 : decode cX10_commonDivisor 20 = .ok (.ifCond .eq 24, 3) := by decide +kernel
theorem dX10_commonDivisor_23 : decode cX10_commonDivisor 23 = .ok (.lload 4, 2) := by decide +kernel
theorem dX10_commonDivisor_25 : decode cX10_commonDivisor 25 = .ok (.lload 6, 2) := by decide +kernel
theorem dX10_commonDivisor_27 : decode cX10_commonDivisor 27 = .ok (.lrem, 1) := by decide +kernel
theorem dX10_commonDivisor_28 : decode cX10_commonDivisor 28 = .ok (.lstore 9, 2) := by decide +kernel
theorem dX10_commonDivisor_30 : decode cX10_commonDivisor 30 = .ok (.lload 6, 2) := by decide +kernel
theorem dX10_commonDivisor_32 : decode cX10_commonDivisor 32 = .ok (.lstore 4, 2) := by decide +kernel
theorem dX10_commonDivisor_34 : decode cX10_commonDivisor 34 = .ok (.lload 9, 2) := by decide +kernel
theorem dX10_commonDivisor_36 : decode cX10_commonDivisor 36 = .ok (.lstore 6, 2) := by decide +kernel
theorem dX10_commonDivisor_38 : decode cX10_commonDivisor 38 = .ok (.iinc 8 1, 3) := by decide +kernel
theorem dX10_commonDivisor_41 : decode cX10_commonDivisor 41 = .ok (.goto (-32), 3) := by decide +kernel
theorem dX10_commonDivisor_44 : decode cX10_commonDivisor 44 = .ok (.lload 4, 2) := by decide +kernel
theorem dX10_commonDivisor_46 : decode cX10_commonDivisor 46 = .ok (.lreturn, 1) := by decide +kernel
theorem dX11_init_0 : decode cX11_init 0 = .ok (.aload_n 0, 1) := by decide +kernel
theorem dX11_init_1 : decode cX11_init 1 = .ok (.invokespecial 1, 3) := by decide +kernel
theorem dX11_init_4 : decode cX11_init 4 = .ok (.aload_n 0, 1) := by decide +kernel
theorem dX11_init_5 : decode cX11_init 5 = .ok (.bipush 22, 2) := by decide +kernel
theorem dX11_init_7 : decode cX11_init 7 = .ok (.newarray .int, 2) := by decide +kernel
theorem dX11_init_9 : decode cX11_init 9 = .ok (.putfield 7, 3) := by decide +kernel
theorem dX11_init_12 : decode cX11_init 12 = .ok (.aload_n 0, 1) := by decide +kernel
theorem dX11_init_13 : decode cX11_init 13 = .ok (.iconst 3, 1) := by decide +kernel
theorem dX11_init_14 : decode cX11_init 14 = .ok (.newarray .int, 2) := by decide +kernel
theorem dX11_init_16 : decode cX11_init 16 = .ok (.putfield 13, 3) := by decide +kernel
theorem dX11_init_19 : decode cX11_init 19 = .ok (.aload_n 0, 1) := by decide +kernel
theorem dX11_init_20 : decode cX11_init 20 = .ok (.bipush 10, 2) := by decide +kernel
theorem dX11_init_22 : decode cX11_init 22 = .ok (.newarray .int, 2) := by decide +kernel
theorem dX11_init_24 : decode cX11_init 24 = .ok (.putfield 16, 3) := by decide +kernel
theorem dX11_init_27 : decode cX11_init 27 = .ok (.aload_n 0, 1) := by decide +kernel
theorem dX11_init_28 : decode cX11_init 28 = .ok (.iconst 3, 1) := by decide +kernel
theorem dX11_init_29 : decode cX11_init 29 = .ok (.newarray .int, 2) := by decide +kernel
theorem dX11_init_31 : decode cX11_init 31 = .ok (.putfield 19, 3) := by decide +kernel
theorem dX11_init_34 : decode cX11_init 34 = .ok (.aload_n 0, 1) := by decide +kernel
theorem dX11_init_35 : decode cX11_init 35 = .ok (.bipush 10, 2) := by decide +kernel
theorem dX11_init_37 : decode cX11_init 37 = .ok (.newarray .int, 2) := by decide +kernel
theorem dX11_init_39 : decode cX11_init 39 = .ok (.putfield 22, 3) := by decide +kernel
theorem dX11_init_42 : decode cX11_init 42 = .ok (.aload_n 0, 1) := by decide +kernel
theorem dX11_init_43 : decode cX11_init 43 = .ok (.bipush 18, 2) := by decide +kernel
theorem dX11_init_45 : decode cX11_init 45 = .ok (.newarray .int, 2) := by decide +kernel
theorem dX11_init_47 : decode cX11_init 47 = .ok (.putfield 25, 3) := by decide +kernel
theorem dX11_init_50 : decode cX11_init 50 = .ok (.aload_n 0, 1) := by decide +kernel
theorem dX11_init_51 : decode cX11_init 51 = .ok (.bipush 64, 2) := by decide +kernel
theorem dX11_init_53 : decode cX11_init 53 = .ok (.newarray .long, 2) := by decide +kernel
theorem dX11_init_55 : decode cX11_init 55 = .ok (.putfield 28, 3) := by decide +kernel
theorem dX11_init_58 : decode cX11_init 58 = .ok (.aload_n 0, 1) := by decide +kernel
theorem dX11_init_59 : decode cX11_init 59 = .ok (.bipush 64, 2) := by decide +kernel
theorem dX11_init_61 : decode cX11_init 61 = .ok (.newarray .long, 2) := by decide +kernel
theorem dX11_init_63 : decode cX11_init 63 = .ok (.putfield 32, 3) := by decide +kernel
theorem dX11_init_66 : decode cX11_init 66 = .ok (.aload_n 0, 1) := by decide +kernel
theorem dX11_init_67 : decode cX11_init 67 = .ok (.bipush 18, 2) := by decide +kernel
theorem dX11_init_69 : decode cX11_init 69 = .ok (.newarray .int, 2) := by decide +kernel
theorem dX11_init_71 : decode cX11_init 71 = .ok (.putfield 35, 3) := by decide +kernel
theorem dX11_init_74 : decode cX11_init 74 = .ok (.aload_n 0, 1) := by decide +kernel
theorem dX11_init_75 : decode cX11_init 75 = .ok (.bipush 6, 2) := by decide +kernel
theorem dX11_init_77 : decode cX11_init 77 = .ok (.newarray .int, 2) := by decide +kernel
theorem dX11_init_79 : decode cX11_init 79 = .ok (.putfield 38, 3) := by decide +kernel
theorem dX11_init_82 : decode cX11_init 82 = .ok (.aload_n 0, 1) := by decide +kernel
theorem dX11_init_83 : decode cX11_init 83 = .ok (.bipush 6, 2) := by decide +kernel
theorem dX11_init_85 : decode cX11_init 85 = .ok (.newarray .int, 2) := by decide +kernel
theorem dX11_init_87 : decode cX11_init 87 = .ok (.putfield 41, 3) := by decide +kernel
theorem dX11_init_90 : decode cX11_init 90 = .ok (.aload_n 0, 1) := by decide +kernel
theorem dX11_init_91 : decode cX11_init 91 = .ok (.bipush 6, 2) := by decide +kernel
theorem dX11_init_93 : decode cX11_init 93 = .ok (.newarray .int, 2) := by decide +kernel
theorem dX11_init_95 : decode cX11_init 95 = .ok (.putfield 44, 3) := by decide +kernel
theorem dX11_init_98 : decode cX11_init 98 = .ok (.aload_n 0, 1) := by decide +kernel
theorem dX11_init_99 : decode cX11_init 99 = .ok (.bipush 30, 2) := by decide +kernel
theorem dX11_init_101 : decode cX11_init 101 = .ok (.newarray .int, 2) := by decide +kernel
theorem dX11_init_103 : decode cX11_init 103 = .ok (.putfield 47, 3) := by decide +kernel
theorem dX11_init_106 : decode cX11_init 106 = .ok (.aload_n 0, 1) := by decide +kernel
theorem dX11_init_107 : decode cX11_init 107 = .ok (.bipush 6, 2) := by decide +kernel
theorem dX11_init_109 : decode cX11_init 109 = .ok (.newarray .int, 2) := by decide +kernel
theorem dX11_init_111 : decode cX11_init 111 = .ok (.putfield 50, 3) := by decide +kernel
theorem dX11_init_114 : decode cX11_init 114 = .ok (.aload_n 0, 1) := by decide +kernel
theorem dX11_init_115 : decode cX11_init 115 = .ok (.bipush 8, 2) := by decide +kernel
theorem dX11_init_117 : decode cX11_init 117 = .ok (.newarray .int, 2) := by decide +kernel
theorem dX11_init_119 : decode cX11_init 119 = .ok (.putfield 53, 3) := by decide +kernel
theorem dX11_init_122 : decode cX11_init 122 = .ok (.aload_n 0, 1) := by decide +kernel
theorem dX11_init_123 : decode cX11_init 123 = .ok (.bipush 18, 2) := by decide +kernel
theorem dX11_init_125 : decode cX11_init 125 = .ok (.newarray .int, 2) := by decide +kernel
theorem dX11_init_127 : decode cX11_init 127 = .ok (.putfield 56, 3) := by decide +kernel
theorem dX11_init_130 : decode cX11_init 130 = .ok (.aload_n 0, 1) := by decide +kernel
theorem dX11_init_131 : decode cX11_init 131 = .ok (.bipush 18, 2) := by decide +kernel
theorem dX11_init_133 : decode cX11_init 133 = .ok (.newarray .int, 2) := by decide +kernel
theorem dX11_init_135 : decode cX11_init 135 = .ok (.putfield 59, 3) := by decide +kernel
theorem dX11_init_138 : decode cX11_init 138 = .ok (.aload_n 0, 1) := by decide +kernel
theorem dX11_init_139 : decode cX11_init 139 = .ok (.bipush 30, 2) := by decide +kernel
theorem dX11_init_141 : decode cX11_init 141 = .ok (.newarray .int, 2) := by decide +kernel
theorem dX11_init_143 : decode cX11_init 143 = .ok (.putfield 62, 3) := by decide +kernel
theorem dX11_init_146 : decode cX11_init 146 = .ok (.aload_n 0, 1) := by decide +kernel
theorem dX11_init_147 : decode cX11_init 147 = .ok (.bipush 8, 2) := by decide +kernel
theorem dX11_init_149 : decode cX11_init 149 = .ok (.newarray .int, 2) := by decide +kernel
theorem dX11_init_151 : decode cX11_init 151 = .ok (.putfield 65, 3) := by decide +kernel
theorem dX11_init_154 : decode cX11_init 154 = .ok (.aload_n 0, 1) := by decide +kernel
theorem dX11_init_155 : decode cX11_init 155 = .ok (.iconst (-1), 1) := by decide +kernel
theorem dX11_init_156 : decode cX11_init 156 = .ok (.putfield 68, 3) := by decide +kernel
theorem dX11_init_159 : decode cX11_init 159 = .ok (.aload_n 0, 1) := by decide +kernel
theorem dX11_init_160 : decode cX11_init 160 = .ok (.bipush 60, 2) := by decide +kernel
theorem dX11_init_162 : decode cX11_init 162 = .ok (.putfield 72, 3) := by decide +kernel
theorem dX11_init_165 : decode cX11_init 165 = .ok (.return_, 1) := by decide +kernel
theorem dX11_in_0 : decode cX11_in 0 = .ok (.lload_n 0, 1) := by decide +kernel
theorem dX11_in_1 : decode cX11_in 1 = .ok (.lload_n 2, 1) := by decide +kernel
theorem dX11_in_2 : decode cX11_in 2 = .ok (.lcmp, 1) := by decide +kernel
theorem dX11_in_3 : decode cX11_in 3 = .ok (.ifCond .lt 14, 3) := by decide +kernel
theorem dX11_in_6 : decode cX11_in 6 = .ok (.lload_n 0, 1) := by decide +kernel
theorem dX11_in_7 : decode cX11_in 7 = .ok (.lload 4, 2) := by decide +kernel
theorem dX11_in_9 : decode cX11_in 9 = .ok (.lcmp, 1) := by decide +kernel
theorem dX11_in_10 : decode cX11_in 10 = .ok (.ifCond .gt 7, 3) := by decide +kernel
theorem dX11_in_13 : decode cX11_in 13 = .ok (.iconst 1, 1) := by decide +kernel
theorem dX11_in_14 : decode cX11_in 14 = .ok (.goto 4, 3) := by decide +kernel
theorem dX11_in_17 : decode cX11_in 17 = .ok (.iconst 0, 1) := by decide +kernel
theorem dX11_in_18 : decode cX11_in 18 = .ok (.ireturn, 1) := by decide +kernel
theorem dX11_letter_0 : decode cX11_letter 0 = .ok (.iload_n 1, 1) := by decide +kernel
theorem dX11_letter_1 : decode cX11_letter 1 = .ok (.i2l, 1) := by decide +kernel
theorem dX11_letter_2 : decode cX11_letter 2 = .ok (.lconst 1, 1) := by decide +kernel
theorem dX11_letter_3 : decode cX11_letter 3 = .ok (.ldc2_w 75, 3) := by decide +kernel
theorem dX11_letter_6 : decode cX11_letter 6 = .ok (.invokestatic 77, 3) := by decide +kernel
theorem dX11_letter_9 : decode cX11_letter 9 = .ok (.ifCond .ne 6, 3) := by decide +kernel
theorem dX11_letter_12 : decode cX11_letter 12 = .ok (.bipush (-102), 2) := by decide +kernel
theorem dX11_letter_14 : decode cX11_letter 14 = .ok (.ireturn, 1) := by decide +kernel
theorem dX11_letter_15 : decode cX11_letter 15 = .ok (.aload_n 0, 1) := by decide +kernel
theorem dX11_letter_16 : decode cX11_letter 16 = .ok (.getfield 81, 3) := by decide +kernel
theorem dX11_letter_19 : decode cX11_letter 19 = .ok (.bipush 22, 2) := by decide +kernel
theorem dX11_letter_21 : decode cX11_letter 21 = .ok (.if_icmp .ne 6, 3) := by decide +kernel
theorem dX11_letter_24 : decode cX11_letter 24 = .ok (.bipush (-104), 2) := by decide +kernel
theorem dX11_letter_26 : decode cX11_letter 26 = .ok (.ireturn, 1) := by decide +kernel
theorem dX11_letter_27 : decode cX11_letter 27 = .ok (.aload_n 0, 1) := by decide +kernel
theorem dX11_letter_28 : decode cX11_letter 28 = .ok (.getfield 7, 3) := by decide +kernel
theorem dX11_letter_31 : decode cX11_letter 31 = .ok (.aload_n 0, 1) := by decide +kernel
theorem dX11_letter_32 : decode cX11_letter 32 = .ok (.getfield 81, 3) := by decide +kernel
theorem dX11_letter_35 : decode cX11_letter 35 = .ok (.iload_n 1, 1) := by decide +kernel
theorem dX11_letter_36 : decode cX11_letter 36 = .ok (.iastore, 1) := by decide +kernel
theorem dX11_letter_37 : decode cX11_letter 37 = .ok (.aload_n 0, 1) := by decide +kernel
theorem dX11_letter_38 : decode cX11_letter 38 = .ok (.dup, 1) := by decide +kernel
theorem dX11_letter_39 : decode cX11_letter 39 = .ok (.getfield 81, 3) := by decide +kernel
theorem dX11_letter_42 : decode cX11_letter 42 = .ok (.iconst 1, 1) := by decide +kernel
theorem dX11_letter_43 : decode cX11_letter 43 = .ok (.iadd, 1) := by decide +kernel
theorem dX11_letter_44 : decode cX11_letter 44 = .ok (.putfield 81, 3) := by decide +kernel
theorem dX11_letter_47 : decode cX11_letter 47 = .ok (.aload_n 0, 1) := by decide +kernel
theorem dX11_letter_48 : decode cX11_letter 48 = .ok (.getfield 81, 3) := by decide +kernel
theorem dX11_letter_51 : decode cX11_letter 51 = .ok (.ireturn, 1) := by decide +kernel
theorem dX11_blank_0 : decode cX11_blank 0 = .ok (.aload_n 0, 1) := by decide +kernel
theorem dX11_blank_1 : decode cX11_blank 1 = .ok (.getfield 81, 3) := by decide +kernel
theorem dX11_blank_4 : decode cX11_blank 4 = .ok (.istore_n 1, 1) := by decide +kernel
theorem dX11_blank_5 : decode cX11_blank 5 = .ok (.aload_n 0, 1) := by decide +kernel
theorem dX11_blank_6 : decode cX11_blank 6 = .ok (.iconst 0, 1) := by decide +kernel
theorem dX11_blank_7 : decode cX11_blank 7 = .ok (.putfield 81, 3) := by decide +kernel
theorem dX11_blank_10 : decode cX11_blank 10 = .ok (.iload_n 1, 1) := by decide +kernel
theorem dX11_blank_11 : decode cX11_blank 11 = .ok (.ireturn, 1) := by decide +kernel
theorem dX11_goGust_0 : decode cX11_goGust 0 = .ok (.iload_n 2, 1) := by decide +kernel
theorem dX11_goGust_1 : decode cX11_goGust 1 = .ok (.istore_n 3, 1) := by decide +kernel
theorem dX11_goGust_2 : decode cX11_goGust 2 = .ok (.iconst 0, 1) := by decide +kernel
theorem dX11_goGust_3 : decode cX11_goGust 3 = .ok (.istore 4, 2) := by decide +kernel
theorem dX11_goGust_5 : decode cX11_goGust 5 = .ok (.iload 4, 2) := by decide +kernel
theorem dX11_goGust_7 : decode cX11_goGust 7 = .ok (.iload_n 1, 1) := by decide +kernel
theorem dX11_goGust_8 : decode cX11_goGust 8 = .ok (.if_icmp .ge 19, 3) := by decide +kernel
theorem dX11_goGust_11 : decode cX11_goGust 11 = .ok (.iload_n 3, 1) := by decide +kernel
theorem dX11_goGust_12 : decode cX11_goGust 12 = .ok (.aload_n 0, 1) := by decide +kernel
theorem dX11_goGust_13 : decode cX11_goGust 13 = .ok (.getfield 13, 3) := by decide +kernel
theorem dX11_goGust_16 : decode cX11_goGust 16 = .ok (.iload 4, 2) := by decide +kernel
theorem dX11_goGust_18 : decode cX11_goGust 18 = .ok (.iaload, 1) := by decide +kernel
theorem dX11_goGust_19 : decode cX11_goGust 19 = .ok (.iadd, 1) := by decide +kernel
theorem dX11_goGust_20 : decode cX11_goGust 20 = .ok (.istore_n 3, 1) := by decide +kernel
theorem dX11_goGust_21 : decode cX11_goGust 21 = .ok (.iinc 4 1, 3) := by decide +kernel
theorem dX11_goGust_24 : decode cX11_goGust 24 = .ok (.goto (-19), 3) := by decide +kernel
theorem dX11_goGust_27 : decode cX11_goGust 27 = .ok (.aload_n 0, 1) := by decide +kernel
theorem dX11_goGust_28 : decode cX11_goGust 28 = .ok (.getfield 13, 3) := by decide +kernel
theorem dX11_goGust_31 : decode cX11_goGust 31 = .ok (.iload_n 1, 1) := by decide +kernel
theorem dX11_goGust_32 : decode cX11_goGust 32 = .ok (.iload_n 2, 1) := by decide +kernel
theorem dX11_goGust_33 : decode cX11_goGust 33 = .ok (.iastore, 1) := by decide +kernel
theorem dX11_goGust_34 : decode cX11_goGust 34 = .ok (.iload_n 2, 1) := by decide +kernel
theorem dX11_goGust_35 : decode cX11_goGust 35 = .ok (.i2l, 1) := by decide +kernel
theorem dX11_goGust_36 : decode cX11_goGust 36 = .ok (.lconst 0, 1) := by decide +kernel
theorem dX11_goGust_37 : decode cX11_goGust 37 = .ok (.ldc2_w 84, 3) := by decide +kernel
theorem dX11_goGust_40 : decode cX11_goGust 40 = .ok (.invokestatic 77, 3) := by decide +kernel
theorem dX11_goGust_43 : decode cX11_goGust 43 = .ok (.ifCond .eq 24, 3) := by decide +kernel
theorem dX11_goGust_46 : decode cX11_goGust 46 = .ok (.iload_n 3, 1) := by decide +kernel
theorem dX11_goGust_47 : decode cX11_goGust 47 = .ok (.bipush 10, 2) := by decide +kernel
theorem dX11_goGust_49 : decode cX11_goGust 49 = .ok (.if_icmp .gt 18, 3) := by decide +kernel
theorem dX11_goGust_52 : decode cX11_goGust 52 = .ok (.iload_n 1, 1) := by decide +kernel
theorem dX11_goGust_53 : decode cX11_goGust 53 = .ok (.iconst 2, 1) := by decide +kernel
theorem dX11_goGust_54 : decode cX11_goGust 54 = .ok (.if_icmp .lt 9, 3) := by decide +kernel
theorem dX11_goGust_57 : decode cX11_goGust 57 = .ok (.iload_n 3, 1) := by decide +kernel
theorem dX11_goGust_58 : decode cX11_goGust 58 = .ok (.bipush 10, 2) := by decide +kernel
theorem dX11_goGust_60 : decode cX11_goGust 60 = .ok (.if_icmp .ne 7, 3) := by decide +kernel
theorem dX11_goGust_63 : decode cX11_goGust 63 = .ok (.iconst 1, 1) := by decide +kernel
theorem dX11_goGust_64 : decode cX11_goGust 64 = .ok (.goto 4, 3) := by decide +kernel
theorem dX11_goGust_67 : decode cX11_goGust 67 = .ok (.iconst 0, 1) := by decide +kernel
theorem dX11_goGust_68 : decode cX11_goGust 68 = .ok (.ireturn, 1) := by decide +kernel
theorem dX11_go_0 : decode cX11_go 0 = .ok (.iload_n 2, 1) := by decide +kernel
theorem dX11_go_1 : decode cX11_go 1 = .ok (.bipush 48, 2) := by decide +kernel
theorem dX11_go_3 : decode cX11_go 3 = .ok (.isub, 1) := by decide +kernel
theorem dX11_go_4 : decode cX11_go 4 = .ok (.istore_n 3, 1) := by decide +kernel
theorem dX11_go_5 : decode cX11_go 5 = .ok (.iload_n 1, 1) := by decide +kernel
theorem dX11_go_6 : decode cX11_go 6 = .ok (.tableswitch 124 0 8 #[50, 65, 88, 100, 88, 115, 115, 115, 88], 50) := by decide +kernel
theorem dX11_go_56 : decode cX11_go 56 = .ok (.aload_n 0, 1) := by decide +kernel
theorem dX11_go_57 : decode cX11_go 57 = .ok (.iload_n 3, 1) := by decide +kernel
theorem dX11_go_58 : decode cX11_go 58 = .ok (.putfield 86, 3) := by decide +kernel
theorem dX11_go_61 : decode cX11_go 61 = .ok (.iload_n 3, 1) := by decide +kernel
theorem dX11_go_62 : decode cX11_go 62 = .ok (.i2l, 1) := by decide +kernel
theorem dX11_go_63 : decode cX11_go 63 = .ok (.lconst 1, 1) := by decide +kernel
theorem dX11_go_64 : decode cX11_go 64 = .ok (.ldc2_w 84, 3) := by decide +kernel
theorem dX11_go_67 : decode cX11_go 67 = .ok (.invokestatic 77, 3) := by decide +kernel
theorem dX11_go_70 : decode cX11_go 70 = .ok (.ireturn, 1) := by decide +kernel
theorem dX11_go_71 : decode cX11_go 71 = .ok (.aload_n 0, 1) := by decide +kernel
theorem dX11_go_72 : decode cX11_go 72 = .ok (.bipush 10, 2) := by decide +kernel
theorem dX11_go_74 : decode cX11_go 74 = .ok (.aload_n 0, 1) := by decide +kernel
theorem dX11_go_75 : decode cX11_go 75 = .ok (.getfield 86, 3) := by decide +kernel
theorem dX11_go_78 : decode cX11_go 78 = .ok (.imul, 1) := by decide +kernel
theorem dX11_go_79 : decode cX11_go 79 = .ok (.iload_n 3, 1) := by decide +kernel
theorem dX11_go_80 : decode cX11_go 80 = .ok (.iadd, 1) := by decide +kernel
theorem dX11_go_81 : decode cX11_go 81 = .ok (.putfield 86, 3) := by decide +kernel
theorem dX11_go_84 : decode cX11_go 84 = .ok (.iload_n 3, 1) := by decide +kernel
theorem dX11_go_85 : decode cX11_go 85 = .ok (.i2l, 1) := by decide +kernel
theorem dX11_go_86 : decode cX11_go 86 = .ok (.lconst 0, 1) := by decide +kernel
theorem dX11_go_87 : decode cX11_go 87 = .ok (.ldc2_w 84, 3) := by decide +kernel
theorem dX11_go_90 : decode cX11_go 90 = .ok (.invokestatic 77, 3) := by decide +kernel
theorem dX11_go_93 : decode cX11_go 93 = .ok (.ireturn, 1) := by decide +kernel
theorem dX11_go_94 : decode cX11_go 94 = .ok (.iload_n 2, 1) := by decide +kernel
theorem dX11_go_95 : decode cX11_go 95 = .ok (.bipush 58, 2) := by decide +kernel
theorem dX11_go_97 : decode cX11_go 97 = .ok (.if_icmp .ne 7, 3) := by decide +kernel
theorem dX11_go_100 : decode cX11_go 100 = .ok (.iconst 1, 1) := by decide +kernel
theorem dX11_go_101 : decode cX11_go 101 = .ok (.goto 4, 3) := by decide +kernel
theorem dX11_go_104 : decode cX11_go 104 = .ok (.iconst 0, 1) := by decide +kernel
theorem dX11_go_105 : decode cX11_go 105 = .ok (.ireturn, 1) := by decide +kernel
theorem dX11_go_106 : decode cX11_go 106 = .ok (.aload_n 0, 1) := by decide +kernel
theorem dX11_go_107 : decode cX11_go 107 = .ok (.iload_n 3, 1) := by decide +kernel
theorem dX11_go_108 : decode cX11_go 108 = .ok (.putfield 89, 3) := by decide +kernel
theorem dX11_go_111 : decode cX11_go 111 = .ok (.iload_n 3, 1) := by decide +kernel
theorem dX11_go_112 : decode cX11_go 112 = .ok (.i2l, 1) := by decide +kernel
theorem dX11_go_113 : decode cX11_go 113 = .ok (.lconst 0, 1) := by decide +kernel
theorem dX11_go_114 : decode cX11_go 114 = .ok (.ldc2_w 84, 3) := by decide +kernel
theorem dX11_go_117 : decode cX11_go 117 = .ok (.invokestatic 77, 3) := by decide +kernel
theorem dX11_go_120 : decode cX11_go 120 = .ok (.ireturn, 1) := by decide +kernel
theorem dX11_go_121 : decode cX11_go 121 = .ok (.aload_n 0, 1) := by decide +kernel
theorem dX11_go_122 : decode cX11_go 122 = .ok (.iload_n 1, 1) := by decide +kernel
theorem dX11_go_123 : decode cX11_go 123 = .ok (.iconst 5, 1) := by decide +kernel
theorem dX11_go_124 : decode cX11_go 124 = .ok (.isub, 1) := by decide +kernel
theorem dX11_go_125 : decode cX11_go 125 = .ok (.iload_n 3, 1) := by decide +kernel
theorem dX11_go_126 : decode cX11_go 126 = .ok (.invokevirtual 92, 3) := by decide +kernel
theorem dX11_go_129 : decode cX11_go 129 = .ok (.ireturn, 1) := by decide +kernel
theorem dX11_go_130 : decode cX11_go 130 = .ok (.aload_n 0, 1) := by decide +kernel
theorem dX11_go_131 : decode cX11_go 131 = .ok (.getfield 96, 3) := by decide +kernel
theorem dX11_go_134 : decode cX11_go 134 = .ok (.bipush 10, 2) := by decide +kernel
theorem dX11_go_136 : decode cX11_go 136 = .ok (.if_icmp .eq 15, 3) := by decide +kernel
theorem dX11_go_139 : decode cX11_go 139 = .ok (.iload_n 3, 1) := by decide +kernel
theorem dX11_go_140 : decode cX11_go 140 = .ok (.i2l, 1) := by decide +kernel
theorem dX11_go_141 : decode cX11_go 141 = .ok (.lconst 0, 1) := by decide +kernel
theorem dX11_go_142 : decode cX11_go 142 = .ok (.ldc2_w 84, 3) := by decide +kernel
theorem dX11_go_145 : decode cX11_go 145 = .ok (.invokestatic 77, 3) := by decide +kernel
theorem dX11_go_148 : decode cX11_go 148 = .ok (.ifCond .ne 5, 3) := by decide +kernel
theorem dX11_go_151 : decode cX11_go 151 = .ok (.iconst 0, 1) := by decide +kernel
theorem dX11_go_152 : decode cX11_go 152 = .ok (.ireturn, 1) := by decide +kernel
theorem dX11_go_153 : decode cX11_go 153 = .ok (.aload_n 0, 1) := by decide +kernel
theorem dX11_go_154 : decode cX11_go 154 = .ok (.getfield 16, 3) := by decide +kernel
theorem dX11_go_157 : decode cX11_go 157 = .ok (.aload_n 0, 1) := by decide +kernel
theorem dX11_go_158 : decode cX11_go 158 = .ok (.getfield 96, 3) := by decide +kernel
theorem dX11_go_161 : decode cX11_go 161 = .ok (.iload_n 3, 1) := by decide +kernel
theorem dX11_go_162 : decode cX11_go 162 = .ok (.iastore, 1) := by decide +kernel
theorem dX11_go_163 : decode cX11_go 163 = .ok (.aload_n 0, 1) := by decide +kernel
theorem dX11_go_164 : decode cX11_go 164 = .ok (.dup, 1) := by decide +kernel
theorem dX11_go_165 : decode cX11_go 165 = .ok (.getfield 96, 3) := by decide +kernel
theorem dX11_go_168 : decode cX11_go 168 = .ok (.iconst 1, 1) := by decide +kernel
theorem dX11_go_169 : decode cX11_go 169 = .ok (.iadd, 1) := by decide +kernel
theorem dX11_go_170 : decode cX11_go 170 = .ok (.putfield 96, 3) := by decide +kernel
theorem dX11_go_173 : decode cX11_go 173 = .ok (.iconst 1, 1) := by decide +kernel
theorem dX11_go_174 : decode cX11_go 174 = .ok (.ireturn, 1) := by decide +kernel
theorem dX11_faultOf_0 : decode cX11_faultOf 0 = .ok (.aload_n 0, 1) := by decide +kernel
theorem dX11_faultOf_1 : decode cX11_faultOf 1 = .ok (.iconst 0, 1) := by decide +kernel
theorem dX11_faultOf_2 : decode cX11_faultOf 2 = .ok (.putfield 96, 3) := by decide +kernel
theorem dX11_faultOf_5 : decode cX11_faultOf 5 = .ok (.iconst 0, 1) := by decide +kernel
theorem dX11_faultOf_6 : decode cX11_faultOf 6 = .ok (.istore_n 1, 1) := by decide +kernel
theorem dX11_faultOf_7 : decode cX11_faultOf 7 = .ok (.iload_n 1, 1) := by decide +kernel
theorem dX11_faultOf_8 : decode cX11_faultOf 8 = .ok (.aload_n 0, 1) := by decide +kernel
theorem dX11_faultOf_9 : decode cX11_faultOf 9 = .ok (.getfield 81, 3) := by decide +kernel
theorem dX11_faultOf_12 : decode cX11_faultOf 12 = .ok (.if_icmp .ge 23, 3) := by decide +kernel
theorem dX11_faultOf_15 : decode cX11_faultOf 15 = .ok (.aload_n 0, 1) := by decide +kernel
theorem dX11_faultOf_16 : decode cX11_faultOf 16 = .ok (.iload_n 1, 1) := by decide +kernel
theorem dX11_faultOf_17 : decode cX11_faultOf 17 = .ok (.aload_n 0, 1) := by decide +kernel
theorem dX11_faultOf_18 : decode cX11_faultOf 18 = .ok (.getfield 7, 3) := by decide +kernel
theorem dX11_faultOf_21 : decode cX11_faultOf 21 = .ok (.iload_n 1, 1) := by decide +kernel
theorem dX11_faultOf_22 : decode cX11_faultOf 22 = .ok (.iaload, 1) := by decide +kernel
theorem dX11_faultOf_23 : decode cX11_faultOf 23 = .ok (.invokevirtual 99, 3) := by decide +kernel
theorem dX11_faultOf_26 : decode cX11_faultOf 26 = .ok (.ifCond .eq 9, 3) := by decide +kernel
theorem dX11_faultOf_29 : decode cX11_faultOf 29 = .ok (.iinc 1 1, 3) := by decide +kernel
theorem dX11_faultOf_32 : decode cX11_faultOf 32 = .ok (.goto (-25), 3) := by decide +kernel
theorem dX11_faultOf_35 : decode cX11_faultOf 35 = .ok (.iload_n 1, 1) := by decide +kernel
theorem dX11_faultOf_36 : decode cX11_faultOf 36 = .ok (.ireturn, 1) := by decide +kernel
theorem dX11_fault_0 : decode cX11_fault 0 = .ok (.aload_n 0, 1) := by decide +kernel
theorem dX11_fault_1 : decode cX11_fault 1 = .ok (.invokevirtual 102, 3) := by decide +kernel
theorem dX11_fault_4 : decode cX11_fault 4 = .ok (.ireturn, 1) := by decide +kernel
theorem dX11_night_0 : decode cX11_night 0 = .ok (.aload_n 0, 1) := by decide +kernel
theorem dX11_night_1 : decode cX11_night 1 = .ok (.invokevirtual 102, 3) := by decide +kernel
theorem dX11_night_4 : decode cX11_night 4 = .ok (.aload_n 0, 1) := by decide +kernel
theorem dX11_night_5 : decode cX11_night 5 = .ok (.getfield 81, 3) := by decide +kernel
theorem dX11_night_8 : decode cX11_night 8 = .ok (.if_icmp .lt 10, 3) := by decide +kernel
theorem dX11_night_11 : decode cX11_night 11 = .ok (.aload_n 0, 1) := by decide +kernel
theorem dX11_night_12 : decode cX11_night 12 = .ok (.getfield 96, 3) := by decide +kernel
theorem dX11_night_15 : decode cX11_night 15 = .ok (.ifCond .ne 6, 3) := by decide +kernel
theorem dX11_night_18 : decode cX11_night 18 = .ok (.bipush (-103), 2) := by decide +kernel
theorem dX11_night_20 : decode cX11_night 20 = .ok (.ireturn, 1) := by decide +kernel
theorem dX11_night_21 : decode cX11_night 21 = .ok (.aload_n 0, 1) := by decide +kernel
theorem dX11_night_22 : decode cX11_night 22 = .ok (.aload_n 0, 1) := by decide +kernel
theorem dX11_night_23 : decode cX11_night 23 = .ok (.getfield 96, 3) := by decide +kernel
theorem dX11_night_26 : decode cX11_night 26 = .ok (.putfield 106, 3) := by decide +kernel
theorem dX11_night_29 : decode cX11_night 29 = .ok (.aload_n 0, 1) := by decide +kernel
theorem dX11_night_30 : decode cX11_night 30 = .ok (.aload_n 0, 1) := by decide +kernel
theorem dX11_night_31 : decode cX11_night 31 = .ok (.getfield 86, 3) := by decide +kernel
theorem dX11_night_34 : decode cX11_night 34 = .ok (.putfield 109, 3) := by decide +kernel
theorem dX11_night_37 : decode cX11_night 37 = .ok (.aload_n 0, 1) := by decide +kernel
theorem dX11_night_38 : decode cX11_night 38 = .ok (.aload_n 0, 1) := by decide +kernel
theorem dX11_night_39 : decode cX11_night 39 = .ok (.getfield 89, 3) := by decide +kernel
theorem dX11_night_42 : decode cX11_night 42 = .ok (.putfield 112, 3) := by decide +kernel
theorem dX11_night_45 : decode cX11_night 45 = .ok (.iconst 0, 1) := by decide +kernel
theorem dX11_night_46 : decode cX11_night 46 = .ok (.istore_n 1, 1) := by decide +kernel
theorem dX11_night_47 : decode cX11_night 47 = .ok (.iload_n 1, 1) := by decide +kernel
theorem dX11_night_48 : decode cX11_night 48 = .ok (.iconst 3, 1) := by decide +kernel
theorem dX11_night_49 : decode cX11_night 49 = .ok (.if_icmp .ge 21, 3) := by decide +kernel
theorem dX11_night_52 : decode cX11_night 52 = .ok (.aload_n 0, 1) := by decide +kernel
theorem dX11_night_53 : decode cX11_night 53 = .ok (.getfield 19, 3) := by decide +kernel
theorem dX11_night_56 : decode cX11_night 56 = .ok (.iload_n 1, 1) := by decide +kernel
theorem dX11_night_57 : decode cX11_night 57 = .ok (.aload_n 0, 1) := by decide +kernel
theorem dX11_night_58 : decode cX11_night 58 = .ok (.getfield 13, 3) := by decide +kernel
theorem dX11_night_61 : decode cX11_night 61 = .ok (.iload_n 1, 1) := by decide +kernel
theorem dX11_night_62 : decode cX11_night 62 = .ok (.iaload, 1) := by decide +kernel
theorem dX11_night_63 : decode cX11_night 63 = .ok (.iastore, 1) := by decide +kernel
theorem dX11_night_64 : decode cX11_night 64 = .ok (.iinc 1 1, 3) := by decide +kernel
theorem dX11_night_67 : decode cX11_night 67 = .ok (.goto (-20), 3) := by decide +kernel
theorem dX11_night_70 : decode cX11_night 70 = .ok (.iconst 0, 1) := by decide +kernel
theorem dX11_night_71 : decode cX11_night 71 = .ok (.istore_n 1, 1) := by decide +kernel
theorem dX11_night_72 : decode cX11_night 72 = .ok (.iload_n 1, 1) := by decide +kernel
theorem dX11_night_73 : decode cX11_night 73 = .ok (.bipush 10, 2) := by decide +kernel
theorem dX11_night_75 : decode cX11_night 75 = .ok (.if_icmp .ge 33, 3) := by decide +kernel
theorem dX11_night_78 : decode cX11_night 78 = .ok (.aload_n 0, 1) := by decide +kernel
theorem dX11_night_79 : decode cX11_night 79 = .ok (.getfield 22, 3) := by decide +kernel
theorem dX11_night_82 : decode cX11_night 82 = .ok (.iload_n 1, 1) := by decide +kernel
theorem dX11_night_83 : decode cX11_night 83 = .ok (.iload_n 1, 1) := by decide +kernel
theorem dX11_night_84 : decode cX11_night 84 = .ok (.aload_n 0, 1) := by decide +kernel
theorem dX11_night_85 : decode cX11_night 85 = .ok (.getfield 106, 3) := by decide +kernel
theorem dX11_night_88 : decode cX11_night 88 = .ok (.if_icmp .ge 12, 3) := by decide +kernel
theorem dX11_night_91 : decode cX11_night 91 = .ok (.aload_n 0, 1) := by decide +kernel
theorem dX11_night_92 : decode cX11_night 92 = .ok (.getfield 16, 3) := by decide +kernel
theorem dX11_night_95 : decode cX11_night 95 = .ok (.iload_n 1, 1) := by decide +kernel
theorem dX11_night_96 : decode cX11_night 96 = .ok (.iaload, 1) := by decide +kernel
theorem dX11_night_97 : decode cX11_night 97 = .ok (.goto 4, 3) := by decide +kernel
theorem dX11_night_100 : decode cX11_night 100 = .ok (.iconst (-1), 1) := by decide +kernel
theorem dX11_night_101 : decode cX11_night 101 = .ok (.iastore, 1) := by decide +kernel
theorem dX11_night_102 : decode cX11_night 102 = .ok (.iinc 1 1, 3) := by decide +kernel
theorem dX11_night_105 : decode cX11_night 105 = .ok (.goto (-33), 3) := by decide +kernel
theorem dX11_night_108 : decode cX11_night 108 = .ok (.aload_n 0, 1) := by decide +kernel
theorem dX11_night_109 : decode cX11_night 109 = .ok (.iconst 0, 1) := by decide +kernel
theorem dX11_night_110 : decode cX11_night 110 = .ok (.putfield 115, 3) := by decide +kernel
theorem dX11_night_113 : decode cX11_night 113 = .ok (.aload_n 0, 1) := by decide +kernel
theorem dX11_night_114 : decode cX11_night 114 = .ok (.iconst 0, 1) := by decide +kernel
theorem dX11_night_115 : decode cX11_night 115 = .ok (.putfield 118, 3) := by decide +kernel
theorem dX11_night_118 : decode cX11_night 118 = .ok (.aload_n 0, 1) := by decide +kernel
theorem dX11_night_119 : decode cX11_night 119 = .ok (.iconst 0, 1) := by decide +kernel
theorem dX11_night_120 : decode cX11_night 120 = .ok (.putfield 121, 3) := by decide +kernel
theorem dX11_night_123 : decode cX11_night 123 = .ok (.aload_n 0, 1) := by decide +kernel
theorem dX11_night_124 : decode cX11_night 124 = .ok (.bipush 60, 2) := by decide +kernel
theorem dX11_night_126 : decode cX11_night 126 = .ok (.putfield 72, 3) := by decide +kernel
theorem dX11_night_129 : decode cX11_night 129 = .ok (.aload_n 0, 1) := by decide +kernel
theorem dX11_night_130 : decode cX11_night 130 = .ok (.iconst 0, 1) := by decide +kernel
theorem dX11_night_131 : decode cX11_night 131 = .ok (.putfield 124, 3) := by decide +kernel
theorem dX11_night_134 : decode cX11_night 134 = .ok (.aload_n 0, 1) := by decide +kernel
theorem dX11_night_135 : decode cX11_night 135 = .ok (.iconst 0, 1) := by decide +kernel
theorem dX11_night_136 : decode cX11_night 136 = .ok (.putfield 127, 3) := by decide +kernel
theorem dX11_night_139 : decode cX11_night 139 = .ok (.aload_n 0, 1) := by decide +kernel
theorem dX11_night_140 : decode cX11_night 140 = .ok (.iconst 0, 1) := by decide +kernel
theorem dX11_night_141 : decode cX11_night 141 = .ok (.putfield 130, 3) := by decide +kernel
theorem dX11_night_144 : decode cX11_night 144 = .ok (.aload_n 0, 1) := by decide +kernel
theorem dX11_night_145 : decode cX11_night 145 = .ok (.iconst 0, 1) := by decide +kernel
theorem dX11_night_146 : decode cX11_night 146 = .ok (.putfield 133, 3) := by decide +kernel
theorem dX11_night_149 : decode cX11_night 149 = .ok (.aload_n 0, 1) := by decide +kernel
theorem dX11_night_150 : decode cX11_night 150 = .ok (.dup, 1) := by decide +kernel
theorem dX11_night_151 : decode cX11_night 151 = .ok (.getfield 136, 3) := by decide +kernel
theorem dX11_night_154 : decode cX11_night 154 = .ok (.iconst 1, 1) := by decide +kernel
theorem dX11_night_155 : decode cX11_night 155 = .ok (.iadd, 1) := by decide +kernel
theorem dX11_night_156 : decode cX11_night 156 = .ok (.putfield 136, 3) := by decide +kernel
theorem dX11_night_159 : decode cX11_night 159 = .ok (.aload_n 0, 1) := by decide +kernel
theorem dX11_night_160 : decode cX11_night 160 = .ok (.iconst 0, 1) := by decide +kernel
theorem dX11_night_161 : decode cX11_night 161 = .ok (.putfield 81, 3) := by decide +kernel
theorem dX11_night_164 : decode cX11_night 164 = .ok (.aload_n 0, 1) := by decide +kernel
theorem dX11_night_165 : decode cX11_night 165 = .ok (.getfield 106, 3) := by decide +kernel
theorem dX11_night_168 : decode cX11_night 168 = .ok (.ireturn, 1) := by decide +kernel
theorem dX11_lacks_0 : decode cX11_lacks 0 = .ok (.aload_n 0, 1) := by decide +kernel
theorem dX11_lacks_1 : decode cX11_lacks 1 = .ok (.getfield 106, 3) := by decide +kernel
theorem dX11_lacks_4 : decode cX11_lacks 4 = .ok (.ifCond .ne 7, 3) := by decide +kernel
theorem dX11_lacks_7 : decode cX11_lacks 7 = .ok (.iconst 1, 1) := by decide +kernel
theorem dX11_lacks_8 : decode cX11_lacks 8 = .ok (.goto 4, 3) := by decide +kernel
theorem dX11_lacks_11 : decode cX11_lacks 11 = .ok (.iconst 0, 1) := by decide +kernel
theorem dX11_lacks_12 : decode cX11_lacks 12 = .ok (.ireturn, 1) := by decide +kernel
theorem dX11_stageNow_0 : decode cX11_stageNow 0 = .ok (.aload_n 0, 1) := by decide +kernel
theorem dX11_stageNow_1 : decode cX11_stageNow 1 = .ok (.getfield 115, 3) := by decide +kernel
theorem dX11_stageNow_4 : decode cX11_stageNow 4 = .ok (.iconst 5, 1) := by decide +kernel
theorem dX11_stageNow_5 : decode cX11_stageNow 5 = .ok (.idiv, 1) := by decide +kernel
theorem dX11_stageNow_6 : decode cX11_stageNow 6 = .ok (.ireturn, 1) := by decide +kernel
theorem dX11_tellSea_0 : decode cX11_tellSea 0 = .ok (.iload_n 1, 1) := by decide +kernel
theorem dX11_tellSea_1 : decode cX11_tellSea 1 = .ok (.ifCond .ne 10, 3) := by decide +kernel
theorem dX11_tellSea_4 : decode cX11_tellSea 4 = .ok (.aload_n 0, 1) := by decide +kernel
theorem dX11_tellSea_5 : decode cX11_tellSea 5 = .ok (.getfield 109, 3) := by decide +kernel
theorem dX11_tellSea_8 : decode cX11_tellSea 8 = .ok (.goto 40, 3) := by decide +kernel
theorem dX11_tellSea_11 : decode cX11_tellSea 11 = .ok (.iload_n 1, 1) := by decide +kernel
theorem dX11_tellSea_12 : decode cX11_tellSea 12 = .ok (.iconst 1, 1) := by decide +kernel
theorem dX11_tellSea_13 : decode cX11_tellSea 13 = .ok (.if_icmp .ne 10, 3) := by decide +kernel
theorem dX11_tellSea_16 : decode cX11_tellSea 16 = .ok (.aload_n 0, 1) := by decide +kernel
theorem dX11_tellSea_17 : decode cX11_tellSea 17 = .ok (.getfield 112, 3) := by decide +kernel
theorem dX11_tellSea_20 : decode cX11_tellSea 20 = .ok (.goto 28, 3) := by decide +kernel
theorem dX11_tellSea_23 : decode cX11_tellSea 23 = .ok (.iload_n 1, 1) := by decide +kernel
theorem dX11_tellSea_24 : decode cX11_tellSea 24 = .ok (.iconst 5, 1) := by decide +kernel
theorem dX11_tellSea_25 : decode cX11_tellSea 25 = .ok (.if_icmp .ge 14, 3) := by decide +kernel
theorem dX11_tellSea_28 : decode cX11_tellSea 28 = .ok (.aload_n 0, 1) := by decide +kernel
theorem dX11_tellSea_29 : decode cX11_tellSea 29 = .ok (.getfield 19, 3) := by decide +kernel
theorem dX11_tellSea_32 : decode cX11_tellSea 32 = .ok (.iload_n 1, 1) := by decide +kernel
theorem dX11_tellSea_33 : decode cX11_tellSea 33 = .ok (.iconst 2, 1) := by decide +kernel
theorem dX11_tellSea_34 : decode cX11_tellSea 34 = .ok (.isub, 1) := by decide +kernel
theorem dX11_tellSea_35 : decode cX11_tellSea 35 = .ok (.iaload, 1) := by decide +kernel
theorem dX11_tellSea_36 : decode cX11_tellSea 36 = .ok (.goto 12, 3) := by decide +kernel
theorem dX11_tellSea_39 : decode cX11_tellSea 39 = .ok (.aload_n 0, 1) := by decide +kernel
theorem dX11_tellSea_40 : decode cX11_tellSea 40 = .ok (.getfield 22, 3) := by decide +kernel
theorem dX11_tellSea_43 : decode cX11_tellSea 43 = .ok (.iload_n 1, 1) := by decide +kernel
theorem dX11_tellSea_44 : decode cX11_tellSea 44 = .ok (.bipush 10, 2) := by decide +kernel
theorem dX11_tellSea_46 : decode cX11_tellSea 46 = .ok (.isub, 1) := by decide +kernel
theorem dX11_tellSea_47 : decode cX11_tellSea 47 = .ok (.iaload, 1) := by decide +kernel
theorem dX11_tellSea_48 : decode cX11_tellSea 48 = .ok (.ireturn, 1) := by decide +kernel
theorem dX11_sea_0 : decode cX11_sea 0 = .ok (.iload_n 1, 1) := by decide +kernel
theorem dX11_sea_1 : decode cX11_sea 1 = .ok (.i2l, 1) := by decide +kernel
theorem dX11_sea_2 : decode cX11_sea 2 = .ok (.lconst 0, 1) := by decide +kernel
theorem dX11_sea_3 : decode cX11_sea 3 = .ok (.ldc2_w 139, 3) := by decide +kernel
theorem dX11_sea_6 : decode cX11_sea 6 = .ok (.invokestatic 77, 3) := by decide +kernel
theorem dX11_sea_9 : decode cX11_sea 9 = .ok (.ifCond .ne 20, 3) := by decide +kernel
theorem dX11_sea_12 : decode cX11_sea 12 = .ok (.iload_n 1, 1) := by decide +kernel
theorem dX11_sea_13 : decode cX11_sea 13 = .ok (.i2l, 1) := by decide +kernel
theorem dX11_sea_14 : decode cX11_sea 14 = .ok (.ldc2_w 141, 3) := by decide +kernel
theorem dX11_sea_17 : decode cX11_sea 17 = .ok (.ldc2_w 143, 3) := by decide +kernel
theorem dX11_sea_20 : decode cX11_sea 20 = .ok (.invokestatic 77, 3) := by decide +kernel
theorem dX11_sea_23 : decode cX11_sea 23 = .ok (.ifCond .ne 6, 3) := by decide +kernel
theorem dX11_sea_26 : decode cX11_sea 26 = .ok (.bipush (-102), 2) := by decide +kernel
theorem dX11_sea_28 : decode cX11_sea 28 = .ok (.ireturn, 1) := by decide +kernel
theorem dX11_sea_29 : decode cX11_sea 29 = .ok (.aload_n 0, 1) := by decide +kernel
theorem dX11_sea_30 : decode cX11_sea 30 = .ok (.invokevirtual 145, 3) := by decide +kernel
theorem dX11_sea_33 : decode cX11_sea 33 = .ok (.ifCond .eq 8, 3) := by decide +kernel
theorem dX11_sea_36 : decode cX11_sea 36 = .ok (.bipush (-103), 2) := by decide +kernel
theorem dX11_sea_38 : decode cX11_sea 38 = .ok (.goto 8, 3) := by decide +kernel
theorem dX11_sea_41 : decode cX11_sea 41 = .ok (.aload_n 0, 1) := by decide +kernel
theorem dX11_sea_42 : decode cX11_sea 42 = .ok (.iload_n 1, 1) := by decide +kernel
theorem dX11_sea_43 : decode cX11_sea 43 = .ok (.invokevirtual 149, 3) := by decide +kernel
theorem dX11_sea_46 : decode cX11_sea 46 = .ok (.ireturn, 1) := by decide +kernel
theorem dX11_isRocket_0 : decode cX11_isRocket 0 = .ok (.iload_n 1, 1) := by decide +kernel
theorem dX11_isRocket_1 : decode cX11_isRocket 1 = .ok (.i2l, 1) := by decide +kernel
theorem dX11_isRocket_2 : decode cX11_isRocket 2 = .ok (.lconst 0, 1) := by decide +kernel
theorem dX11_isRocket_3 : decode cX11_isRocket 3 = .ok (.aload_n 0, 1) := by decide +kernel
theorem dX11_isRocket_4 : decode cX11_isRocket 4 = .ok (.getfield 124, 3) := by decide +kernel
theorem dX11_isRocket_7 : decode cX11_isRocket 7 = .ok (.iconst 1, 1) := by decide +kernel
theorem dX11_isRocket_8 : decode cX11_isRocket 8 = .ok (.isub, 1) := by decide +kernel
theorem dX11_isRocket_9 : decode cX11_isRocket 9 = .ok (.i2l, 1) := by decide +kernel
theorem dX11_isRocket_10 : decode cX11_isRocket 10 = .ok (.invokestatic 77, 3) := by decide +kernel
theorem dX11_isRocket_13 : decode cX11_isRocket 13 = .ok (.ireturn, 1) := by decide +kernel
theorem dX11_rocket_0 : decode cX11_rocket 0 = .ok (.iload_n 1, 1) := by decide +kernel
theorem dX11_rocket_1 : decode cX11_rocket 1 = .ok (.i2l, 1) := by decide +kernel
theorem dX11_rocket_2 : decode cX11_rocket 2 = .ok (.ldc2_w 141, 3) := by decide +kernel
theorem dX11_rocket_5 : decode cX11_rocket 5 = .ok (.ldc2_w 153, 3) := by decide +kernel
theorem dX11_rocket_8 : decode cX11_rocket 8 = .ok (.invokestatic 77, 3) := by decide +kernel
theorem dX11_rocket_11 : decode cX11_rocket 11 = .ok (.ifCond .eq 15, 3) := by decide +kernel
theorem dX11_rocket_14 : decode cX11_rocket 14 = .ok (.iload_n 2, 1) := by decide +kernel
theorem dX11_rocket_15 : decode cX11_rocket 15 = .ok (.i2l, 1) := by decide +kernel
theorem dX11_rocket_16 : decode cX11_rocket 16 = .ok (.lconst 0, 1) := by decide +kernel
theorem dX11_rocket_17 : decode cX11_rocket 17 = .ok (.ldc2_w 84, 3) := by decide +kernel
theorem dX11_rocket_20 : decode cX11_rocket 20 = .ok (.invokestatic 77, 3) := by decide +kernel
theorem dX11_rocket_23 : decode cX11_rocket 23 = .ok (.ifCond .ne 6, 3) := by decide +kernel
theorem dX11_rocket_26 : decode cX11_rocket 26 = .ok (.bipush (-102), 2) := by decide +kernel
theorem dX11_rocket_28 : decode cX11_rocket 28 = .ok (.ireturn, 1) := by decide +kernel
theorem dX11_rocket_29 : decode cX11_rocket 29 = .ok (.aload_n 0, 1) := by decide +kernel
theorem dX11_rocket_30 : decode cX11_rocket 30 = .ok (.invokevirtual 145, 3) := by decide +kernel
theorem dX11_rocket_33 : decode cX11_rocket 33 = .ok (.ifCond .eq 6, 3) := by decide +kernel
theorem dX11_rocket_36 : decode cX11_rocket 36 = .ok (.bipush (-103), 2) := by decide +kernel
theorem dX11_rocket_38 : decode cX11_rocket 38 = .ok (.ireturn, 1) := by decide +kernel
theorem dX11_rocket_39 : decode cX11_rocket 39 = .ok (.aload_n 0, 1) := by decide +kernel
theorem dX11_rocket_40 : decode cX11_rocket 40 = .ok (.getfield 124, 3) := by decide +kernel
theorem dX11_rocket_43 : decode cX11_rocket 43 = .ok (.bipush 6, 2) := by decide +kernel
theorem dX11_rocket_45 : decode cX11_rocket 45 = .ok (.if_icmp .ne 6, 3) := by decide +kernel
theorem dX11_rocket_48 : decode cX11_rocket 48 = .ok (.bipush (-104), 2) := by decide +kernel
theorem dX11_rocket_50 : decode cX11_rocket 50 = .ok (.ireturn, 1) := by decide +kernel
theorem dX11_rocket_51 : decode cX11_rocket 51 = .ok (.aload_n 0, 1) := by decide +kernel
theorem dX11_rocket_52 : decode cX11_rocket 52 = .ok (.getfield 25, 3) := by decide +kernel
theorem dX11_rocket_55 : decode cX11_rocket 55 = .ok (.iconst 3, 1) := by decide +kernel
theorem dX11_rocket_56 : decode cX11_rocket 56 = .ok (.aload_n 0, 1) := by decide +kernel
theorem dX11_rocket_57 : decode cX11_rocket 57 = .ok (.getfield 124, 3) := by decide +kernel
theorem dX11_rocket_60 : decode cX11_rocket 60 = .ok (.imul, 1) := by decide +kernel
theorem dX11_rocket_61 : decode cX11_rocket 61 = .ok (.iload_n 1, 1) := by decide +kernel
theorem dX11_rocket_62 : decode cX11_rocket 62 = .ok (.iastore, 1) := by decide +kernel
theorem dX11_rocket_63 : decode cX11_rocket 63 = .ok (.aload_n 0, 1) := by decide +kernel
theorem dX11_rocket_64 : decode cX11_rocket 64 = .ok (.getfield 25, 3) := by decide +kernel
theorem dX11_rocket_67 : decode cX11_rocket 67 = .ok (.iconst 3, 1) := by decide +kernel
theorem dX11_rocket_68 : decode cX11_rocket 68 = .ok (.aload_n 0, 1) := by decide +kernel
theorem dX11_rocket_69 : decode cX11_rocket 69 = .ok (.getfield 124, 3) := by decide +kernel
theorem dX11_rocket_72 : decode cX11_rocket 72 = .ok (.imul, 1) := by decide +kernel
theorem dX11_rocket_73 : decode cX11_rocket 73 = .ok (.iconst 1, 1) := by decide +kernel
theorem dX11_rocket_74 : decode cX11_rocket 74 = .ok (.iadd, 1) := by decide +kernel
theorem dX11_rocket_75 : decode cX11_rocket 75 = .ok (.iload_n 2, 1) := by decide +kernel
theorem dX11_rocket_76 : decode cX11_rocket 76 = .ok (.iastore, 1) := by decide +kernel
theorem dX11_rocket_77 : decode cX11_rocket 77 = .ok (.aload_n 0, 1) := by decide +kernel
theorem dX11_rocket_78 : decode cX11_rocket 78 = .ok (.getfield 25, 3) := by decide +kernel
theorem dX11_rocket_81 : decode cX11_rocket 81 = .ok (.iconst 3, 1) := by decide +kernel
theorem dX11_rocket_82 : decode cX11_rocket 82 = .ok (.aload_n 0, 1) := by decide +kernel
theorem dX11_rocket_83 : decode cX11_rocket 83 = .ok (.getfield 124, 3) := by decide +kernel
theorem dX11_rocket_86 : decode cX11_rocket 86 = .ok (.imul, 1) := by decide +kernel
theorem dX11_rocket_87 : decode cX11_rocket 87 = .ok (.iconst 2, 1) := by decide +kernel
theorem dX11_rocket_88 : decode cX11_rocket 88 = .ok (.iadd, 1) := by decide +kernel
theorem dX11_rocket_89 : decode cX11_rocket 89 = .ok (.iconst 0, 1) := by decide +kernel
theorem dX11_rocket_90 : decode cX11_rocket 90 = .ok (.iastore, 1) := by decide +kernel
theorem dX11_rocket_91 : decode cX11_rocket 91 = .ok (.aload_n 0, 1) := by decide +kernel
theorem dX11_rocket_92 : decode cX11_rocket 92 = .ok (.dup, 1) := by decide +kernel
theorem dX11_rocket_93 : decode cX11_rocket 93 = .ok (.getfield 124, 3) := by decide +kernel
theorem dX11_rocket_96 : decode cX11_rocket 96 = .ok (.iconst 1, 1) := by decide +kernel
theorem dX11_rocket_97 : decode cX11_rocket 97 = .ok (.iadd, 1) := by decide +kernel
theorem dX11_rocket_98 : decode cX11_rocket 98 = .ok (.putfield 124, 3) := by decide +kernel
theorem dX11_rocket_101 : decode cX11_rocket 101 = .ok (.aload_n 0, 1) := by decide +kernel
theorem dX11_rocket_102 : decode cX11_rocket 102 = .ok (.getfield 124, 3) := by decide +kernel
theorem dX11_rocket_105 : decode cX11_rocket 105 = .ok (.iconst 1, 1) := by decide +kernel
theorem dX11_rocket_106 : decode cX11_rocket 106 = .ok (.isub, 1) := by decide +kernel
theorem dX11_rocket_107 : decode cX11_rocket 107 = .ok (.ireturn, 1) := by decide +kernel
theorem dX11_fallsAt_0 : decode cX11_fallsAt 0 = .ok (.aload_n 0, 1) := by decide +kernel
theorem dX11_fallsAt_1 : decode cX11_fallsAt 1 = .ok (.getfield 25, 3) := by decide +kernel
theorem dX11_fallsAt_4 : decode cX11_fallsAt 4 = .ok (.iconst 3, 1) := by decide +kernel
theorem dX11_fallsAt_5 : decode cX11_fallsAt 5 = .ok (.iload_n 1, 1) := by decide +kernel
theorem dX11_fallsAt_6 : decode cX11_fallsAt 6 = .ok (.imul, 1) := by decide +kernel
theorem dX11_fallsAt_7 : decode cX11_fallsAt 7 = .ok (.iaload, 1) := by decide +kernel
theorem dX11_fallsAt_8 : decode cX11_fallsAt 8 = .ok (.aload_n 0, 1) := by decide +kernel
theorem dX11_fallsAt_9 : decode cX11_fallsAt 9 = .ok (.getfield 25, 3) := by decide +kernel
theorem dX11_fallsAt_12 : decode cX11_fallsAt 12 = .ok (.iconst 3, 1) := by decide +kernel
theorem dX11_fallsAt_13 : decode cX11_fallsAt 13 = .ok (.iload_n 1, 1) := by decide +kernel
theorem dX11_fallsAt_14 : decode cX11_fallsAt 14 = .ok (.imul, 1) := by decide +kernel
theorem dX11_fallsAt_15 : decode cX11_fallsAt 15 = .ok (.iconst 1, 1) := by decide +kernel
theorem dX11_fallsAt_16 : decode cX11_fallsAt 16 = .ok (.iadd, 1) := by decide +kernel
theorem dX11_fallsAt_17 : decode cX11_fallsAt 17 = .ok (.iaload, 1) := by decide +kernel
theorem dX11_fallsAt_18 : decode cX11_fallsAt 18 = .ok (.iload_n 2, 1) := by decide +kernel
theorem dX11_fallsAt_19 : decode cX11_fallsAt 19 = .ok (.imul, 1) := by decide +kernel
theorem dX11_fallsAt_20 : decode cX11_fallsAt 20 = .ok (.isub, 1) := by decide +kernel
theorem dX11_fallsAt_21 : decode cX11_fallsAt 21 = .ok (.iload_n 3, 1) := by decide +kernel
theorem dX11_fallsAt_22 : decode cX11_fallsAt 22 = .ok (.aload_n 0, 1) := by decide +kernel
theorem dX11_fallsAt_23 : decode cX11_fallsAt 23 = .ok (.getfield 112, 3) := by decide +kernel
theorem dX11_fallsAt_26 : decode cX11_fallsAt 26 = .ok (.imul, 1) := by decide +kernel
theorem dX11_fallsAt_27 : decode cX11_fallsAt 27 = .ok (.iadd, 1) := by decide +kernel
theorem dX11_fallsAt_28 : decode cX11_fallsAt 28 = .ok (.ireturn, 1) := by decide +kernel
theorem dX11_isRight_0 : decode cX11_isRight 0 = .ok (.iload_n 1, 1) := by decide +kernel
theorem dX11_isRight_1 : decode cX11_isRight 1 = .ok (.i2l, 1) := by decide +kernel
theorem dX11_isRight_2 : decode cX11_isRight 2 = .ok (.aload_n 0, 1) := by decide +kernel
theorem dX11_isRight_3 : decode cX11_isRight 3 = .ok (.getfield 109, 3) := by decide +kernel
theorem dX11_isRight_6 : decode cX11_isRight 6 = .ok (.i2l, 1) := by decide +kernel
theorem dX11_isRight_7 : decode cX11_isRight 7 = .ok (.aload_n 0, 1) := by decide +kernel
theorem dX11_isRight_8 : decode cX11_isRight 8 = .ok (.getfield 109, 3) := by decide +kernel
theorem dX11_isRight_11 : decode cX11_isRight 11 = .ok (.iconst 5, 1) := by decide +kernel
theorem dX11_isRight_12 : decode cX11_isRight 12 = .ok (.iadd, 1) := by decide +kernel
theorem dX11_isRight_13 : decode cX11_isRight 13 = .ok (.i2l, 1) := by decide +kernel
theorem dX11_isRight_14 : decode cX11_isRight 14 = .ok (.invokestatic 77, 3) := by decide +kernel
theorem dX11_isRight_17 : decode cX11_isRight 17 = .ok (.ireturn, 1) := by decide +kernel
theorem dX11_fire_0 : decode cX11_fire 0 = .ok (.aload_n 0, 1) := by decide +kernel
theorem dX11_fire_1 : decode cX11_fire 1 = .ok (.iload_n 1, 1) := by decide +kernel
theorem dX11_fire_2 : decode cX11_fire 2 = .ok (.invokevirtual 155, 3) := by decide +kernel
theorem dX11_fire_5 : decode cX11_fire 5 = .ok (.ifCond .ne 6, 3) := by decide +kernel
theorem dX11_fire_8 : decode cX11_fire 8 = .ok (.bipush (-101), 2) := by decide +kernel
theorem dX11_fire_10 : decode cX11_fire 10 = .ok (.ireturn, 1) := by decide +kernel
theorem dX11_fire_11 : decode cX11_fire 11 = .ok (.iload_n 2, 1) := by decide +kernel
theorem dX11_fire_12 : decode cX11_fire 12 = .ok (.i2l, 1) := by decide +kernel
theorem dX11_fire_13 : decode cX11_fire 13 = .ok (.ldc2_w 159, 3) := by decide +kernel
theorem dX11_fire_16 : decode cX11_fire 16 = .ok (.lconst 1, 1) := by decide +kernel
theorem dX11_fire_17 : decode cX11_fire 17 = .ok (.invokestatic 77, 3) := by decide +kernel
theorem dX11_fire_20 : decode cX11_fire 20 = .ok (.ifCond .ne 6, 3) := by decide +kernel
theorem dX11_fire_23 : decode cX11_fire 23 = .ok (.bipush (-102), 2) := by decide +kernel
theorem dX11_fire_25 : decode cX11_fire 25 = .ok (.ireturn, 1) := by decide +kernel
theorem dX11_fire_26 : decode cX11_fire 26 = .ok (.aload_n 0, 1) := by decide +kernel
theorem dX11_fire_27 : decode cX11_fire 27 = .ok (.getfield 25, 3) := by decide +kernel
theorem dX11_fire_30 : decode cX11_fire 30 = .ok (.iconst 3, 1) := by decide +kernel
theorem dX11_fire_31 : decode cX11_fire 31 = .ok (.iload_n 1, 1) := by decide +kernel
theorem dX11_fire_32 : decode cX11_fire 32 = .ok (.imul, 1) := by decide +kernel
theorem dX11_fire_33 : decode cX11_fire 33 = .ok (.iconst 2, 1) := by decide +kernel
theorem dX11_fire_34 : decode cX11_fire 34 = .ok (.iadd, 1) := by decide +kernel
theorem dX11_fire_35 : decode cX11_fire 35 = .ok (.iaload, 1) := by decide +kernel
theorem dX11_fire_36 : decode cX11_fire 36 = .ok (.iconst 1, 1) := by decide +kernel
theorem dX11_fire_37 : decode cX11_fire 37 = .ok (.if_icmp .eq 22, 3) := by decide +kernel
theorem dX11_fire_40 : decode cX11_fire 40 = .ok (.aload_n 0, 1) := by decide +kernel
theorem dX11_fire_41 : decode cX11_fire 41 = .ok (.getfield 121, 3) := by decide +kernel
theorem dX11_fire_44 : decode cX11_fire 44 = .ok (.iconst 1, 1) := by decide +kernel
theorem dX11_fire_45 : decode cX11_fire 45 = .ok (.if_icmp .eq 14, 3) := by decide +kernel
theorem dX11_fire_48 : decode cX11_fire 48 = .ok (.aload_n 0, 1) := by decide +kernel
theorem dX11_fire_49 : decode cX11_fire 49 = .ok (.invokevirtual 161, 3) := by decide +kernel
theorem dX11_fire_52 : decode cX11_fire 52 = .ok (.aload_n 0, 1) := by decide +kernel
theorem dX11_fire_53 : decode cX11_fire 53 = .ok (.getfield 106, 3) := by decide +kernel
theorem dX11_fire_56 : decode cX11_fire 56 = .ok (.if_icmp .lt 6, 3) := by decide +kernel
theorem dX11_fire_59 : decode cX11_fire 59 = .ok (.bipush (-103), 2) := by decide +kernel
theorem dX11_fire_61 : decode cX11_fire 61 = .ok (.ireturn, 1) := by decide +kernel
theorem dX11_fire_62 : decode cX11_fire 62 = .ok (.aload_n 0, 1) := by decide +kernel
theorem dX11_fire_63 : decode cX11_fire 63 = .ok (.getfield 25, 3) := by decide +kernel
theorem dX11_fire_66 : decode cX11_fire 66 = .ok (.iconst 3, 1) := by decide +kernel
theorem dX11_fire_67 : decode cX11_fire 67 = .ok (.iload_n 1, 1) := by decide +kernel
theorem dX11_fire_68 : decode cX11_fire 68 = .ok (.imul, 1) := by decide +kernel
theorem dX11_fire_69 : decode cX11_fire 69 = .ok (.iconst 2, 1) := by decide +kernel
theorem dX11_fire_70 : decode cX11_fire 70 = .ok (.iadd, 1) := by decide +kernel
theorem dX11_fire_71 : decode cX11_fire 71 = .ok (.iconst 1, 1) := by decide +kernel
theorem dX11_fire_72 : decode cX11_fire 72 = .ok (.iastore, 1) := by decide +kernel
theorem dX11_fire_73 : decode cX11_fire 73 = .ok (.aload_n 0, 1) := by decide +kernel
theorem dX11_fire_74 : decode cX11_fire 74 = .ok (.iload_n 1, 1) := by decide +kernel
theorem dX11_fire_75 : decode cX11_fire 75 = .ok (.aload_n 0, 1) := by decide +kernel
theorem dX11_fire_76 : decode cX11_fire 76 = .ok (.invokevirtual 161, 3) := by decide +kernel
theorem dX11_fire_79 : decode cX11_fire 79 = .ok (.iload_n 2, 1) := by decide +kernel
theorem dX11_fire_80 : decode cX11_fire 80 = .ok (.invokevirtual 164, 3) := by decide +kernel
theorem dX11_fire_83 : decode cX11_fire 83 = .ok (.istore_n 3, 1) := by decide +kernel
theorem dX11_fire_84 : decode cX11_fire 84 = .ok (.aload_n 0, 1) := by decide +kernel
theorem dX11_fire_85 : decode cX11_fire 85 = .ok (.aload_n 0, 1) := by decide +kernel
theorem dX11_fire_86 : decode cX11_fire 86 = .ok (.iload_n 3, 1) := by decide +kernel
theorem dX11_fire_87 : decode cX11_fire 87 = .ok (.invokevirtual 168, 3) := by decide +kernel
theorem dX11_fire_90 : decode cX11_fire 90 = .ok (.ifCond .eq 7, 3) := by decide +kernel
theorem dX11_fire_93 : decode cX11_fire 93 = .ok (.iconst 1, 1) := by decide +kernel
theorem dX11_fire_94 : decode cX11_fire 94 = .ok (.goto 7, 3) := by decide +kernel
theorem dX11_fire_97 : decode cX11_fire 97 = .ok (.aload_n 0, 1) := by decide +kernel
theorem dX11_fire_98 : decode cX11_fire 98 = .ok (.getfield 118, 3) := by decide +kernel
theorem dX11_fire_101 : decode cX11_fire 101 = .ok (.putfield 118, 3) := by decide +kernel
theorem dX11_fire_104 : decode cX11_fire 104 = .ok (.iload_n 3, 1) := by decide +kernel
theorem dX11_fire_105 : decode cX11_fire 105 = .ok (.ireturn, 1) := by decide +kernel
theorem dX11_hitTenths_0 : decode cX11_hitTenths 0 = .ok (.iconst 0, 1) := by decide +kernel
theorem dX11_hitTenths_1 : decode cX11_hitTenths 1 = .ok (.istore_n 3, 1) := by decide +kernel
theorem dX11_hitTenths_2 : decode cX11_hitTenths 2 = .ok (.iconst (-1), 1) := by decide +kernel
theorem dX11_hitTenths_3 : decode cX11_hitTenths 3 = .ok (.istore 4, 2) := by decide +kernel
theorem dX11_hitTenths_5 : decode cX11_hitTenths 5 = .ok (.iload 4, 2) := by decide +kernel
theorem dX11_hitTenths_7 : decode cX11_hitTenths 7 = .ok (.iconst 2, 1) := by decide +kernel
theorem dX11_hitTenths_8 : decode cX11_hitTenths 8 = .ok (.if_icmp .ge 40, 3) := by decide +kernel
theorem dX11_hitTenths_11 : decode cX11_hitTenths 11 = .ok (.iload_n 3, 1) := by decide +kernel
theorem dX11_hitTenths_12 : decode cX11_hitTenths 12 = .ok (.aload_n 0, 1) := by decide +kernel
theorem dX11_hitTenths_13 : decode cX11_hitTenths 13 = .ok (.aload_n 0, 1) := by decide +kernel
theorem dX11_hitTenths_14 : decode cX11_hitTenths 14 = .ok (.iload_n 1, 1) := by decide +kernel
theorem dX11_hitTenths_15 : decode cX11_hitTenths 15 = .ok (.iload_n 2, 1) := by decide +kernel
theorem dX11_hitTenths_16 : decode cX11_hitTenths 16 = .ok (.iload 4, 2) := by decide +kernel
theorem dX11_hitTenths_18 : decode cX11_hitTenths 18 = .ok (.invokevirtual 164, 3) := by decide +kernel
theorem dX11_hitTenths_21 : decode cX11_hitTenths 21 = .ok (.invokevirtual 168, 3) := by decide +kernel
theorem dX11_hitTenths_24 : decode cX11_hitTenths 24 = .ok (.ifCond .eq 15, 3) := by decide +kernel
theorem dX11_hitTenths_27 : decode cX11_hitTenths 27 = .ok (.aload_n 0, 1) := by decide +kernel
theorem dX11_hitTenths_28 : decode cX11_hitTenths 28 = .ok (.getfield 19, 3) := by decide +kernel
theorem dX11_hitTenths_31 : decode cX11_hitTenths 31 = .ok (.iload 4, 2) := by decide +kernel
theorem dX11_hitTenths_33 : decode cX11_hitTenths 33 = .ok (.iconst 1, 1) := by decide +kernel
theorem dX11_hitTenths_34 : decode cX11_hitTenths 34 = .ok (.iadd, 1) := by decide +kernel
theorem dX11_hitTenths_35 : decode cX11_hitTenths 35 = .ok (.iaload, 1) := by decide +kernel
theorem dX11_hitTenths_36 : decode cX11_hitTenths 36 = .ok (.goto 4, 3) := by decide +kernel
theorem dX11_hitTenths_39 : decode cX11_hitTenths 39 = .ok (.iconst 0, 1) := by decide +kernel
theorem dX11_hitTenths_40 : decode cX11_hitTenths 40 = .ok (.iadd, 1) := by decide +kernel
theorem dX11_hitTenths_41 : decode cX11_hitTenths 41 = .ok (.istore_n 3, 1) := by decide +kernel
theorem dX11_hitTenths_42 : decode cX11_hitTenths 42 = .ok (.iinc 4 1, 3) := by decide +kernel
theorem dX11_hitTenths_45 : decode cX11_hitTenths 45 = .ok (.goto (-40), 3) := by decide +kernel
theorem dX11_hitTenths_48 : decode cX11_hitTenths 48 = .ok (.iload_n 3, 1) := by decide +kernel
theorem dX11_hitTenths_49 : decode cX11_hitTenths 49 = .ok (.ireturn, 1) := by decide +kernel
theorem dX11_term_0 : decode cX11_term 0 = .ok (.lload_n 0, 1) := by decide +kernel
theorem dX11_term_1 : decode cX11_term 1 = .ok (.lstore 5, 2) := by decide +kernel
theorem dX11_term_3 : decode cX11_term 3 = .ok (.lload_n 2, 1) := by decide +kernel
theorem dX11_term_4 : decode cX11_term 4 = .ok (.lstore 7, 2) := by decide +kernel
theorem dX11_term_6 : decode cX11_term 6 = .ok (.lload 5, 2) := by decide +kernel
theorem dX11_term_8 : decode cX11_term 8 = .ok (.lconst 0, 1) := by decide +kernel
theorem dX11_term_9 : decode cX11_term 9 = .ok (.lcmp, 1) := by decide +kernel
theorem dX11_term_10 : decode cX11_term 10 = .ok (.ifCond .eq 21, 3) := by decide +kernel
theorem dX11_term_13 : decode cX11_term 13 = .ok (.lload 7, 2) := by decide +kernel
theorem dX11_term_15 : decode cX11_term 15 = .ok (.lload 5, 2) := by decide +kernel
theorem dX11_term_17 : decode cX11_term 17 = .ok (.lrem, 1) := by decide +kernel
theorem dX11_term_18 : decode cX11_term 18 = .ok (.lstore 9, 2) := by decide +kernel
theorem dX11_term_20 : decode cX11_term 20 = .ok (.lload 5, 2) := by decide +kernel
theorem dX11_term_22 : decode cX11_term 22 = .ok (.lstore 7, 2) := by decide +kernel
theorem dX11_term_24 : decode cX11_term 24 = .ok (.lload 9, 2) := by decide +kernel
theorem dX11_term_26 : decode cX11_term 26 = .ok (.lstore 5, 2) := by decide +kernel
theorem dX11_term_28 : decode cX11_term 28 = .ok (.goto (-22), 3) := by decide +kernel
theorem dX11_term_31 : decode cX11_term 31 = .ok (.iload 4, 2) := by decide +kernel
theorem dX11_term_33 : decode cX11_term 33 = .ok (.ifCond .ne 10, 3) := by decide +kernel
theorem dX11_term_36 : decode cX11_term 36 = .ok (.lload_n 0, 1) := by decide +kernel
theorem dX11_term_37 : decode cX11_term 37 = .ok (.lload 7, 2) := by decide +kernel
theorem dX11_term_39 : decode cX11_term 39 = .ok (.ldiv, 1) := by decide +kernel
theorem dX11_term_40 : decode cX11_term 40 = .ok (.goto 7, 3) := by decide +kernel
theorem dX11_term_43 : decode cX11_term 43 = .ok (.lload_n 2, 1) := by decide +kernel
theorem dX11_term_44 : decode cX11_term 44 = .ok (.lload 7, 2) := by decide +kernel
theorem dX11_term_46 : decode cX11_term 46 = .ok (.ldiv, 1) := by decide +kernel
theorem dX11_term_47 : decode cX11_term 47 = .ok (.lreturn, 1) := by decide +kernel
theorem dX11_hits_0 : decode cX11_hits 0 = .ok (.aload_n 0, 1) := by decide +kernel
theorem dX11_hits_1 : decode cX11_hits 1 = .ok (.iload_n 1, 1) := by decide +kernel
theorem dX11_hits_2 : decode cX11_hits 2 = .ok (.invokevirtual 155, 3) := by decide +kernel
theorem dX11_hits_5 : decode cX11_hits 5 = .ok (.ifCond .ne 7, 3) := by decide +kernel
theorem dX11_hits_8 : decode cX11_hits 8 = .ok (.ldc2_w 171, 3) := by decide +kernel
theorem dX11_hits_11 : decode cX11_hits 11 = .ok (.lreturn, 1) := by decide +kernel
theorem dX11_hits_12 : decode cX11_hits 12 = .ok (.iload_n 2, 1) := by decide +kernel
theorem dX11_hits_13 : decode cX11_hits 13 = .ok (.i2l, 1) := by decide +kernel
theorem dX11_hits_14 : decode cX11_hits 14 = .ok (.lconst 0, 1) := by decide +kernel
theorem dX11_hits_15 : decode cX11_hits 15 = .ok (.ldc2_w 84, 3) := by decide +kernel
theorem dX11_hits_18 : decode cX11_hits 18 = .ok (.invokestatic 77, 3) := by decide +kernel
theorem dX11_hits_21 : decode cX11_hits 21 = .ok (.ifCond .eq 13, 3) := by decide +kernel
theorem dX11_hits_24 : decode cX11_hits 24 = .ok (.iload_n 3, 1) := by decide +kernel
theorem dX11_hits_25 : decode cX11_hits 25 = .ok (.i2l, 1) := by decide +kernel
theorem dX11_hits_26 : decode cX11_hits 26 = .ok (.lconst 0, 1) := by decide +kernel
theorem dX11_hits_27 : decode cX11_hits 27 = .ok (.lconst 1, 1) := by decide +kernel
theorem dX11_hits_28 : decode cX11_hits 28 = .ok (.invokestatic 77, 3) := by decide +kernel
theorem dX11_hits_31 : decode cX11_hits 31 = .ok (.ifCond .ne 7, 3) := by decide +kernel
theorem dX11_hits_34 : decode cX11_hits 34 = .ok (.ldc2_w 173, 3) := by decide +kernel
theorem dX11_hits_37 : decode cX11_hits 37 = .ok (.lreturn, 1) := by decide +kernel
theorem dX11_hits_38 : decode cX11_hits 38 = .ok (.aload_n 0, 1) := by decide +kernel
theorem dX11_hits_39 : decode cX11_hits 39 = .ok (.iload_n 1, 1) := by decide +kernel
theorem dX11_hits_40 : decode cX11_hits 40 = .ok (.iload_n 2, 1) := by decide +kernel
theorem dX11_hits_41 : decode cX11_hits 41 = .ok (.invokevirtual 175, 3) := by decide +kernel
theorem dX11_hits_44 : decode cX11_hits 44 = .ok (.i2l, 1) := by decide +kernel
theorem dX11_hits_45 : decode cX11_hits 45 = .ok (.ldc2_w 141, 3) := by decide +kernel
theorem dX11_hits_48 : decode cX11_hits 48 = .ok (.iload_n 3, 1) := by decide +kernel
theorem dX11_hits_49 : decode cX11_hits 49 = .ok (.invokestatic 179, 3) := by decide +kernel
theorem dX11_hits_52 : decode cX11_hits 52 = .ok (.lreturn, 1) := by decide +kernel
theorem dX11_leftBits_0 : decode cX11_leftBits 0 = .ok (.iconst 0, 1) := by decide +kernel
theorem dX11_leftBits_1 : decode cX11_leftBits 1 = .ok (.istore_n 1, 1) := by decide +kernel
theorem dX11_leftBits_2 : decode cX11_leftBits 2 = .ok (.iconst 0, 1) := by decide +kernel
theorem dX11_leftBits_3 : decode cX11_leftBits 3 = .ok (.istore_n 2, 1) := by decide +kernel
theorem dX11_leftBits_4 : decode cX11_leftBits 4 = .ok (.iload_n 2, 1) := by decide +kernel
theorem dX11_leftBits_5 : decode cX11_leftBits 5 = .ok (.aload_n 0, 1) := by decide +kernel
theorem dX11_leftBits_6 : decode cX11_leftBits 6 = .ok (.getfield 124, 3) := by decide +kernel
theorem dX11_leftBits_9 : decode cX11_leftBits 9 = .ok (.if_icmp .ge 32, 3) := by decide +kernel
theorem dX11_leftBits_12 : decode cX11_leftBits 12 = .ok (.iload_n 1, 1) := by decide +kernel
theorem dX11_leftBits_13 : decode cX11_leftBits 13 = .ok (.aload_n 0, 1) := by decide +kernel
theorem dX11_leftBits_14 : decode cX11_leftBits 14 = .ok (.getfield 25, 3) := by decide +kernel
theorem dX11_leftBits_17 : decode cX11_leftBits 17 = .ok (.iconst 3, 1) := by decide +kernel
theorem dX11_leftBits_18 : decode cX11_leftBits 18 = .ok (.iload_n 2, 1) := by decide +kernel
theorem dX11_leftBits_19 : decode cX11_leftBits 19 = .ok (.imul, 1) := by decide +kernel
theorem dX11_leftBits_20 : decode cX11_leftBits 20 = .ok (.iconst 2, 1) := by decide +kernel
theorem dX11_leftBits_21 : decode cX11_leftBits 21 = .ok (.iadd, 1) := by decide +kernel
theorem dX11_leftBits_22 : decode cX11_leftBits 22 = .ok (.iaload, 1) := by decide +kernel
theorem dX11_leftBits_23 : decode cX11_leftBits 23 = .ok (.ifCond .ne 9, 3) := by decide +kernel
theorem dX11_leftBits_26 : decode cX11_leftBits 26 = .ok (.iconst 1, 1) := by decide +kernel
theorem dX11_leftBits_27 : decode cX11_leftBits 27 = .ok (.iload_n 2, 1) := by decide +kernel
theorem dX11_leftBits_28 : decode cX11_leftBits 28 = .ok (.ishl, 1) := by decide +kernel
theorem dX11_leftBits_29 : decode cX11_leftBits 29 = .ok (.goto 4, 3) := by decide +kernel
theorem dX11_leftBits_32 : decode cX11_leftBits 32 = .ok (.iconst 0, 1) := by decide +kernel
theorem dX11_leftBits_33 : decode cX11_leftBits 33 = .ok (.ior, 1) := by decide +kernel
theorem dX11_leftBits_34 : decode cX11_leftBits 34 = .ok (.istore_n 1, 1) := by decide +kernel
theorem dX11_leftBits_35 : decode cX11_leftBits 35 = .ok (.iinc 2 1, 3) := by decide +kernel
theorem dX11_leftBits_38 : decode cX11_leftBits 38 = .ok (.goto (-34), 3) := by decide +kernel
theorem dX11_leftBits_41 : decode cX11_leftBits 41 = .ok (.iload_n 1, 1) := by decide +kernel
theorem dX11_leftBits_42 : decode cX11_leftBits 42 = .ok (.ireturn, 1) := by decide +kernel
theorem dX11_bestOf_0 : decode cX11_bestOf 0 = .ok (.ldc2_w 141, 3) := by decide +kernel
theorem dX11_bestOf_3 : decode cX11_bestOf 3 = .ok (.aload_n 0, 1) := by decide +kernel
theorem dX11_bestOf_4 : decode cX11_bestOf 4 = .ok (.getfield 22, 3) := by decide +kernel
theorem dX11_bestOf_7 : decode cX11_bestOf 7 = .ok (.iload_n 1, 1) := by decide +kernel
theorem dX11_bestOf_8 : decode cX11_bestOf 8 = .ok (.iaload, 1) := by decide +kernel
theorem dX11_bestOf_9 : decode cX11_bestOf 9 = .ok (.i2l, 1) := by decide +kernel
theorem dX11_bestOf_10 : decode cX11_bestOf 10 = .ok (.lsub, 1) := by decide +kernel
theorem dX11_bestOf_11 : decode cX11_bestOf 11 = .ok (.lstore 5, 2) := by decide +kernel
theorem dX11_bestOf_13 : decode cX11_bestOf 13 = .ok (.aload_n 0, 1) := by decide +kernel
theorem dX11_bestOf_14 : decode cX11_bestOf 14 = .ok (.iconst (-1), 1) := by decide +kernel
theorem dX11_bestOf_15 : decode cX11_bestOf 15 = .ok (.putfield 183, 3) := by decide +kernel
theorem dX11_bestOf_18 : decode cX11_bestOf 18 = .ok (.ldc2_w 141, 3) := by decide +kernel
theorem dX11_bestOf_21 : decode cX11_bestOf 21 = .ok (.lload 5, 2) := by decide +kernel
theorem dX11_bestOf_23 : decode cX11_bestOf 23 = .ok (.lmul, 1) := by decide +kernel
theorem dX11_bestOf_24 : decode cX11_bestOf 24 = .ok (.aload_n 0, 1) := by decide +kernel
theorem dX11_bestOf_25 : decode cX11_bestOf 25 = .ok (.getfield 28, 3) := by decide +kernel
theorem dX11_bestOf_28 : decode cX11_bestOf 28 = .ok (.iload 4, 2) := by decide +kernel
theorem dX11_bestOf_30 : decode cX11_bestOf 30 = .ok (.laload, 1) := by decide +kernel
theorem dX11_bestOf_31 : decode cX11_bestOf 31 = .ok (.lmul, 1) := by decide +kernel
theorem dX11_bestOf_32 : decode cX11_bestOf 32 = .ok (.lstore 7, 2) := by decide +kernel
theorem dX11_bestOf_34 : decode cX11_bestOf 34 = .ok (.iconst 0, 1) := by decide +kernel
theorem dX11_bestOf_35 : decode cX11_bestOf 35 = .ok (.istore 9, 2) := by decide +kernel
theorem dX11_bestOf_37 : decode cX11_bestOf 37 = .ok (.iload 9, 2) := by decide +kernel
theorem dX11_bestOf_39 : decode cX11_bestOf 39 = .ok (.aload_n 0, 1) := by decide +kernel
theorem dX11_bestOf_40 : decode cX11_bestOf 40 = .ok (.getfield 124, 3) := by decide +kernel
theorem dX11_bestOf_43 : decode cX11_bestOf 43 = .ok (.if_icmp .ge 103, 3) := by decide +kernel
theorem dX11_bestOf_46 : decode cX11_bestOf 46 = .ok (.iload 4, 2) := by decide +kernel
theorem dX11_bestOf_48 : decode cX11_bestOf 48 = .ok (.iload 9, 2) := by decide +kernel
theorem dX11_bestOf_50 : decode cX11_bestOf 50 = .ok (.ishr, 1) := by decide +kernel
theorem dX11_bestOf_51 : decode cX11_bestOf 51 = .ok (.iconst 1, 1) := by decide +kernel
theorem dX11_bestOf_52 : decode cX11_bestOf 52 = .ok (.iand, 1) := by decide +kernel
theorem dX11_bestOf_53 : decode cX11_bestOf 53 = .ok (.iconst 1, 1) := by decide +kernel
theorem dX11_bestOf_54 : decode cX11_bestOf 54 = .ok (.if_icmp .ne 86, 3) := by decide +kernel
theorem dX11_bestOf_57 : decode cX11_bestOf 57 = .ok (.aload_n 0, 1) := by decide +kernel
theorem dX11_bestOf_58 : decode cX11_bestOf 58 = .ok (.iload 9, 2) := by decide +kernel
theorem dX11_bestOf_60 : decode cX11_bestOf 60 = .ok (.iload_n 1, 1) := by decide +kernel
theorem dX11_bestOf_61 : decode cX11_bestOf 61 = .ok (.invokevirtual 175, 3) := by decide +kernel
theorem dX11_bestOf_64 : decode cX11_bestOf 64 = .ok (.i2l, 1) := by decide +kernel
theorem dX11_bestOf_65 : decode cX11_bestOf 65 = .ok (.lstore 10, 2) := by decide +kernel
theorem dX11_bestOf_67 : decode cX11_bestOf 67 = .ok (.ldc2_w 141, 3) := by decide +kernel
theorem dX11_bestOf_70 : decode cX11_bestOf 70 = .ok (.lload 10, 2) := by decide +kernel
theorem dX11_bestOf_72 : decode cX11_bestOf 72 = .ok (.lmul, 1) := by decide +kernel
theorem dX11_bestOf_73 : decode cX11_bestOf 73 = .ok (.lload_n 2, 1) := by decide +kernel
theorem dX11_bestOf_74 : decode cX11_bestOf 74 = .ok (.lmul, 1) := by decide +kernel
theorem dX11_bestOf_75 : decode cX11_bestOf 75 = .ok (.ldc2_w 141, 3) := by decide +kernel
theorem dX11_bestOf_78 : decode cX11_bestOf 78 = .ok (.lload 10, 2) := by decide +kernel
theorem dX11_bestOf_80 : decode cX11_bestOf 80 = .ok (.lsub, 1) := by decide +kernel
theorem dX11_bestOf_81 : decode cX11_bestOf 81 = .ok (.lload 5, 2) := by decide +kernel
theorem dX11_bestOf_83 : decode cX11_bestOf 83 = .ok (.lmul, 1) := by decide +kernel
theorem dX11_bestOf_84 : decode cX11_bestOf 84 = .ok (.aload_n 0, 1) := by decide +kernel
theorem dX11_bestOf_85 : decode cX11_bestOf 85 = .ok (.getfield 28, 3) := by decide +kernel
theorem dX11_bestOf_88 : decode cX11_bestOf 88 = .ok (.iload 4, 2) := by decide +kernel
theorem dX11_bestOf_90 : decode cX11_bestOf 90 = .ok (.iconst 1, 1) := by decide +kernel
theorem dX11_bestOf_91 : decode cX11_bestOf 91 = .ok (.iload 9, 2) := by decide +kernel
theorem dX11_bestOf_93 : decode cX11_bestOf 93 = .ok (.ishl, 1) := by decide +kernel
theorem dX11_bestOf_94 : decode cX11_bestOf 94 = .ok (.iconst (-1), 1) := by decide +kernel
theorem dX11_bestOf_95 : decode cX11_bestOf 95 = .ok (.ixor, 1) := by decide +kernel
theorem dX11_bestOf_96 : decode cX11_bestOf 96 = .ok (.iand, 1) := by decide +kernel
theorem dX11_bestOf_97 : decode cX11_bestOf 97 = .ok (.laload, 1) := by decide +kernel
theorem dX11_bestOf_98 : decode cX11_bestOf 98 = .ok (.lmul, 1) := by decide +kernel
theorem dX11_bestOf_99 : decode cX11_bestOf 99 = .ok (.ladd, 1) := by decide +kernel
theorem dX11_bestOf_100 : decode cX11_bestOf 100 = .ok (.lstore 12, 2) := by decide +kernel
theorem dX11_bestOf_102 : decode cX11_bestOf 102 = .ok (.aload_n 0, 1) := by decide +kernel
theorem dX11_bestOf_103 : decode cX11_bestOf 103 = .ok (.lload 12, 2) := by decide +kernel
theorem dX11_bestOf_105 : decode cX11_bestOf 105 = .ok (.lload 7, 2) := by decide +kernel
theorem dX11_bestOf_107 : decode cX11_bestOf 107 = .ok (.lcmp, 1) := by decide +kernel
theorem dX11_bestOf_108 : decode cX11_bestOf 108 = .ok (.ifCond .le 8, 3) := by decide +kernel
theorem dX11_bestOf_111 : decode cX11_bestOf 111 = .ok (.iload 9, 2) := by decide +kernel
theorem dX11_bestOf_113 : decode cX11_bestOf 113 = .ok (.goto 7, 3) := by decide +kernel
theorem dX11_bestOf_116 : decode cX11_bestOf 116 = .ok (.aload_n 0, 1) := by decide +kernel
theorem dX11_bestOf_117 : decode cX11_bestOf 117 = .ok (.getfield 183, 3) := by decide +kernel
theorem dX11_bestOf_120 : decode cX11_bestOf 120 = .ok (.putfield 183, 3) := by decide +kernel
theorem dX11_bestOf_123 : decode cX11_bestOf 123 = .ok (.lload 12, 2) := by decide +kernel
theorem dX11_bestOf_125 : decode cX11_bestOf 125 = .ok (.lload 7, 2) := by decide +kernel
theorem dX11_bestOf_127 : decode cX11_bestOf 127 = .ok (.lcmp, 1) := by decide +kernel
theorem dX11_bestOf_128 : decode cX11_bestOf 128 = .ok (.ifCond .le 8, 3) := by decide +kernel
theorem dX11_bestOf_131 : decode cX11_bestOf 131 = .ok (.lload 12, 2) := by decide +kernel
theorem dX11_bestOf_133 : decode cX11_bestOf 133 = .ok (.goto 5, 3) := by decide +kernel
theorem dX11_bestOf_136 : decode cX11_bestOf 136 = .ok (.lload 7, 2) := by decide +kernel
theorem dX11_bestOf_138 : decode cX11_bestOf 138 = .ok (.lstore 7, 2) := by decide +kernel
theorem dX11_bestOf_140 : decode cX11_bestOf 140 = .ok (.iinc 9 1, 3) := by decide +kernel
theorem dX11_bestOf_143 : decode cX11_bestOf 143 = .ok (.goto (-106), 3) := by decide +kernel
theorem dX11_bestOf_146 : decode cX11_bestOf 146 = .ok (.lload 7, 2) := by decide +kernel
theorem dX11_bestOf_148 : decode cX11_bestOf 148 = .ok (.lreturn, 1) := by decide +kernel
theorem dX11_aimOf_0 : decode cX11_aimOf 0 = .ok (.iconst 0, 1) := by decide +kernel
theorem dX11_aimOf_1 : decode cX11_aimOf 1 = .ok (.istore_n 2, 1) := by decide +kernel
theorem dX11_aimOf_2 : decode cX11_aimOf 2 = .ok (.iload_n 2, 1) := by decide +kernel
theorem dX11_aimOf_3 : decode cX11_aimOf 3 = .ok (.bipush 64, 2) := by decide +kernel
theorem dX11_aimOf_5 : decode cX11_aimOf 5 = .ok (.if_icmp .ge 16, 3) := by decide +kernel
theorem dX11_aimOf_8 : decode cX11_aimOf 8 = .ok (.aload_n 0, 1) := by decide +kernel
theorem dX11_aimOf_9 : decode cX11_aimOf 9 = .ok (.getfield 28, 3) := by decide +kernel
theorem dX11_aimOf_12 : decode cX11_aimOf 12 = .ok (.iload_n 2, 1) := by decide +kernel
theorem dX11_aimOf_13 : decode cX11_aimOf 13 = .ok (.lconst 0, 1) := by decide +kernel
theorem dX11_aimOf_14 : decode cX11_aimOf 14 = .ok (.lastore, 1) := by decide +kernel
theorem dX11_aimOf_15 : decode cX11_aimOf 15 = .ok (.iinc 2 1, 3) := by decide +kernel
theorem dX11_aimOf_18 : decode cX11_aimOf 18 = .ok (.goto (-16), 3) := by decide +kernel
theorem dX11_aimOf_21 : decode cX11_aimOf 21 = .ok (.lconst 1, 1) := by decide +kernel
theorem dX11_aimOf_22 : decode cX11_aimOf 22 = .ok (.lstore_n 2, 1) := by decide +kernel
theorem dX11_aimOf_23 : decode cX11_aimOf 23 = .ok (.aload_n 0, 1) := by decide +kernel
theorem dX11_aimOf_24 : decode cX11_aimOf 24 = .ok (.invokevirtual 161, 3) := by decide +kernel
theorem dX11_aimOf_27 : decode cX11_aimOf 27 = .ok (.istore 4, 2) := by decide +kernel
theorem dX11_aimOf_29 : decode cX11_aimOf 29 = .ok (.iload 4, 2) := by decide +kernel
theorem dX11_aimOf_31 : decode cX11_aimOf 31 = .ok (.iload_n 1, 1) := by decide +kernel
theorem dX11_aimOf_32 : decode cX11_aimOf 32 = .ok (.iadd, 1) := by decide +kernel
theorem dX11_aimOf_33 : decode cX11_aimOf 33 = .ok (.aload_n 0, 1) := by decide +kernel
theorem dX11_aimOf_34 : decode cX11_aimOf 34 = .ok (.getfield 106, 3) := by decide +kernel
theorem dX11_aimOf_37 : decode cX11_aimOf 37 = .ok (.if_icmp .ge 10, 3) := by decide +kernel
theorem dX11_aimOf_40 : decode cX11_aimOf 40 = .ok (.iload 4, 2) := by decide +kernel
theorem dX11_aimOf_42 : decode cX11_aimOf 42 = .ok (.iload_n 1, 1) := by decide +kernel
theorem dX11_aimOf_43 : decode cX11_aimOf 43 = .ok (.iadd, 1) := by decide +kernel
theorem dX11_aimOf_44 : decode cX11_aimOf 44 = .ok (.goto 7, 3) := by decide +kernel
theorem dX11_aimOf_47 : decode cX11_aimOf 47 = .ok (.aload_n 0, 1) := by decide +kernel
theorem dX11_aimOf_48 : decode cX11_aimOf 48 = .ok (.getfield 106, 3) := by decide +kernel
theorem dX11_aimOf_51 : decode cX11_aimOf 51 = .ok (.istore 5, 2) := by decide +kernel
theorem dX11_aimOf_53 : decode cX11_aimOf 53 = .ok (.iconst 0, 1) := by decide +kernel
theorem dX11_aimOf_54 : decode cX11_aimOf 54 = .ok (.istore 6, 2) := by decide +kernel
theorem dX11_aimOf_56 : decode cX11_aimOf 56 = .ok (.iload 6, 2) := by decide +kernel
theorem dX11_aimOf_58 : decode cX11_aimOf 58 = .ok (.iload_n 1, 1) := by decide +kernel
theorem dX11_aimOf_59 : decode cX11_aimOf 59 = .ok (.iload 5, 2) := by decide +kernel
theorem dX11_aimOf_61 : decode cX11_aimOf 61 = .ok (.iload 4, 2) := by decide +kernel
theorem dX11_aimOf_63 : decode cX11_aimOf 63 = .ok (.isub, 1) := by decide +kernel
theorem dX11_aimOf_64 : decode cX11_aimOf 64 = .ok (.isub, 1) := by decide +kernel
theorem dX11_aimOf_65 : decode cX11_aimOf 65 = .ok (.if_icmp .ge 15, 3) := by decide +kernel
theorem dX11_aimOf_68 : decode cX11_aimOf 68 = .ok (.lload_n 2, 1) := by decide +kernel
theorem dX11_aimOf_69 : decode cX11_aimOf 69 = .ok (.ldc2_w 186, 3) := by decide +kernel
theorem dX11_aimOf_72 : decode cX11_aimOf 72 = .ok (.lmul, 1) := by decide +kernel
theorem dX11_aimOf_73 : decode cX11_aimOf 73 = .ok (.lstore_n 2, 1) := by decide +kernel
theorem dX11_aimOf_74 : decode cX11_aimOf 74 = .ok (.iinc 6 1, 3) := by decide +kernel
theorem dX11_aimOf_77 : decode cX11_aimOf 77 = .ok (.goto (-21), 3) := by decide +kernel
theorem dX11_aimOf_80 : decode cX11_aimOf 80 = .ok (.iload 5, 2) := by decide +kernel
theorem dX11_aimOf_82 : decode cX11_aimOf 82 = .ok (.iconst 1, 1) := by decide +kernel
theorem dX11_aimOf_83 : decode cX11_aimOf 83 = .ok (.isub, 1) := by decide +kernel
theorem dX11_aimOf_84 : decode cX11_aimOf 84 = .ok (.istore 6, 2) := by decide +kernel
theorem dX11_aimOf_86 : decode cX11_aimOf 86 = .ok (.iload 6, 2) := by decide +kernel
theorem dX11_aimOf_88 : decode cX11_aimOf 88 = .ok (.iload 4, 2) := by decide +kernel
theorem dX11_aimOf_90 : decode cX11_aimOf 90 = .ok (.if_icmp .lt 77, 3) := by decide +kernel
theorem dX11_aimOf_93 : decode cX11_aimOf 93 = .ok (.iconst 0, 1) := by decide +kernel
theorem dX11_aimOf_94 : decode cX11_aimOf 94 = .ok (.istore 7, 2) := by decide +kernel
theorem dX11_aimOf_96 : decode cX11_aimOf 96 = .ok (.iload 7, 2) := by decide +kernel
theorem dX11_aimOf_98 : decode cX11_aimOf 98 = .ok (.bipush 64, 2) := by decide +kernel
theorem dX11_aimOf_100 : decode cX11_aimOf 100 = .ok (.if_icmp .ge 25, 3) := by decide +kernel
theorem dX11_aimOf_103 : decode cX11_aimOf 103 = .ok (.aload_n 0, 1) := by decide +kernel
theorem dX11_aimOf_104 : decode cX11_aimOf 104 = .ok (.getfield 32, 3) := by decide +kernel
theorem dX11_aimOf_107 : decode cX11_aimOf 107 = .ok (.iload 7, 2) := by decide +kernel
theorem dX11_aimOf_109 : decode cX11_aimOf 109 = .ok (.aload_n 0, 1) := by decide +kernel
theorem dX11_aimOf_110 : decode cX11_aimOf 110 = .ok (.iload 6, 2) := by decide +kernel
theorem dX11_aimOf_112 : decode cX11_aimOf 112 = .ok (.lload_n 2, 1) := by decide +kernel
theorem dX11_aimOf_113 : decode cX11_aimOf 113 = .ok (.iload 7, 2) := by decide +kernel
theorem dX11_aimOf_115 : decode cX11_aimOf 115 = .ok (.invokevirtual 188, 3) := by decide +kernel
theorem dX11_aimOf_118 : decode cX11_aimOf 118 = .ok (.lastore, 1) := by decide +kernel
theorem dX11_aimOf_119 : decode cX11_aimOf 119 = .ok (.iinc 7 1, 3) := by decide +kernel
theorem dX11_aimOf_122 : decode cX11_aimOf 122 = .ok (.goto (-26), 3) := by decide +kernel
theorem dX11_aimOf_125 : decode cX11_aimOf 125 = .ok (.iconst 0, 1) := by decide +kernel
theorem dX11_aimOf_126 : decode cX11_aimOf 126 = .ok (.istore 7, 2) := by decide +kernel
theorem dX11_aimOf_128 : decode cX11_aimOf 128 = .ok (.iload 7, 2) := by decide +kernel
theorem dX11_aimOf_130 : decode cX11_aimOf 130 = .ok (.bipush 64, 2) := by decide +kernel
theorem dX11_aimOf_132 : decode cX11_aimOf 132 = .ok (.if_icmp .ge 23, 3) := by decide +kernel
theorem dX11_aimOf_135 : decode cX11_aimOf 135 = .ok (.aload_n 0, 1) := by decide +kernel
theorem dX11_aimOf_136 : decode cX11_aimOf 136 = .ok (.getfield 28, 3) := by decide +kernel
theorem dX11_aimOf_139 : decode cX11_aimOf 139 = .ok (.iload 7, 2) := by decide +kernel
theorem dX11_aimOf_141 : decode cX11_aimOf 141 = .ok (.aload_n 0, 1) := by decide +kernel
theorem dX11_aimOf_142 : decode cX11_aimOf 142 = .ok (.getfield 32, 3) := by decide +kernel
theorem dX11_aimOf_145 : decode cX11_aimOf 145 = .ok (.iload 7, 2) := by decide +kernel
theorem dX11_aimOf_147 : decode cX11_aimOf 147 = .ok (.laload, 1) := by decide +kernel
theorem dX11_aimOf_148 : decode cX11_aimOf 148 = .ok (.lastore, 1) := by decide +kernel
theorem dX11_aimOf_149 : decode cX11_aimOf 149 = .ok (.iinc 7 1, 3) := by decide +kernel
theorem dX11_aimOf_152 : decode cX11_aimOf 152 = .ok (.goto (-24), 3) := by decide +kernel
theorem dX11_aimOf_155 : decode cX11_aimOf 155 = .ok (.lload_n 2, 1) := by decide +kernel
theorem dX11_aimOf_156 : decode cX11_aimOf 156 = .ok (.ldc2_w 186, 3) := by decide +kernel
theorem dX11_aimOf_159 : decode cX11_aimOf 159 = .ok (.lmul, 1) := by decide +kernel
theorem dX11_aimOf_160 : decode cX11_aimOf 160 = .ok (.lstore_n 2, 1) := by decide +kernel
theorem dX11_aimOf_161 : decode cX11_aimOf 161 = .ok (.iinc 6 (-1), 3) := by decide +kernel
theorem dX11_aimOf_164 : decode cX11_aimOf 164 = .ok (.goto (-78), 3) := by decide +kernel
theorem dX11_aimOf_167 : decode cX11_aimOf 167 = .ok (.aload_n 0, 1) := by decide +kernel
theorem dX11_aimOf_168 : decode cX11_aimOf 168 = .ok (.getfield 28, 3) := by decide +kernel
theorem dX11_aimOf_171 : decode cX11_aimOf 171 = .ok (.aload_n 0, 1) := by decide +kernel
theorem dX11_aimOf_172 : decode cX11_aimOf 172 = .ok (.invokevirtual 192, 3) := by decide +kernel
theorem dX11_aimOf_175 : decode cX11_aimOf 175 = .ok (.laload, 1) := by decide +kernel
theorem dX11_aimOf_176 : decode cX11_aimOf 176 = .ok (.lreturn, 1) := by decide +kernel
theorem dX11_hundreds_0 : decode cX11_hundreds 0 = .ok (.lconst 1, 1) := by decide +kernel
theorem dX11_hundreds_1 : decode cX11_hundreds 1 = .ok (.lstore_n 1, 1) := by decide +kernel
theorem dX11_hundreds_2 : decode cX11_hundreds 2 = .ok (.iconst 0, 1) := by decide +kernel
theorem dX11_hundreds_3 : decode cX11_hundreds 3 = .ok (.istore_n 3, 1) := by decide +kernel
theorem dX11_hundreds_4 : decode cX11_hundreds 4 = .ok (.iload_n 3, 1) := by decide +kernel
theorem dX11_hundreds_5 : decode cX11_hundreds 5 = .ok (.iload_n 0, 1) := by decide +kernel
theorem dX11_hundreds_6 : decode cX11_hundreds 6 = .ok (.if_icmp .ge 15, 3) := by decide +kernel
theorem dX11_hundreds_9 : decode cX11_hundreds 9 = .ok (.lload_n 1, 1) := by decide +kernel
theorem dX11_hundreds_10 : decode cX11_hundreds 10 = .ok (.ldc2_w 186, 3) := by decide +kernel
theorem dX11_hundreds_13 : decode cX11_hundreds 13 = .ok (.lmul, 1) := by decide +kernel
theorem dX11_hundreds_14 : decode cX11_hundreds 14 = .ok (.lstore_n 1, 1) := by decide +kernel
theorem dX11_hundreds_15 : decode cX11_hundreds 15 = .ok (.iinc 3 1, 3) := by decide +kernel
theorem dX11_hundreds_18 : decode cX11_hundreds 18 = .ok (.goto (-14), 3) := by decide +kernel
theorem dX11_hundreds_21 : decode cX11_hundreds 21 = .ok (.lload_n 1, 1) := by decide +kernel
theorem dX11_hundreds_22 : decode cX11_hundreds 22 = .ok (.lreturn, 1) := by decide +kernel
theorem dX11_isAiming_0 : decode cX11_isAiming 0 = .ok (.aload_n 0, 1) := by decide +kernel
theorem dX11_isAiming_1 : decode cX11_isAiming 1 = .ok (.invokevirtual 145, 3) := by decide +kernel
theorem dX11_isAiming_4 : decode cX11_isAiming 4 = .ok (.ifCond .ne 32, 3) := by decide +kernel
theorem dX11_isAiming_7 : decode cX11_isAiming 7 = .ok (.aload_n 0, 1) := by decide +kernel
theorem dX11_isAiming_8 : decode cX11_isAiming 8 = .ok (.getfield 118, 3) := by decide +kernel
theorem dX11_isAiming_11 : decode cX11_isAiming 11 = .ok (.ifCond .ne 25, 3) := by decide +kernel
theorem dX11_isAiming_14 : decode cX11_isAiming 14 = .ok (.aload_n 0, 1) := by decide +kernel
theorem dX11_isAiming_15 : decode cX11_isAiming 15 = .ok (.getfield 121, 3) := by decide +kernel
theorem dX11_isAiming_18 : decode cX11_isAiming 18 = .ok (.ifCond .ne 18, 3) := by decide +kernel
theorem dX11_isAiming_21 : decode cX11_isAiming 21 = .ok (.aload_n 0, 1) := by decide +kernel
theorem dX11_isAiming_22 : decode cX11_isAiming 22 = .ok (.invokevirtual 161, 3) := by decide +kernel
theorem dX11_isAiming_25 : decode cX11_isAiming 25 = .ok (.aload_n 0, 1) := by decide +kernel
theorem dX11_isAiming_26 : decode cX11_isAiming 26 = .ok (.getfield 106, 3) := by decide +kernel
theorem dX11_isAiming_29 : decode cX11_isAiming 29 = .ok (.if_icmp .ge 7, 3) := by decide +kernel
theorem dX11_isAiming_32 : decode cX11_isAiming 32 = .ok (.iconst 1, 1) := by decide +kernel
theorem dX11_isAiming_33 : decode cX11_isAiming 33 = .ok (.goto 4, 3) := by decide +kernel
theorem dX11_isAiming_36 : decode cX11_isAiming 36 = .ok (.iconst 0, 1) := by decide +kernel
theorem dX11_isAiming_37 : decode cX11_isAiming 37 = .ok (.ireturn, 1) := by decide +kernel
theorem dX11_aim_0 : decode cX11_aim 0 = .ok (.iload_n 1, 1) := by decide +kernel
theorem dX11_aim_1 : decode cX11_aim 1 = .ok (.i2l, 1) := by decide +kernel
theorem dX11_aim_2 : decode cX11_aim 2 = .ok (.lconst 1, 1) := by decide +kernel
theorem dX11_aim_3 : decode cX11_aim 3 = .ok (.ldc2_w 139, 3) := by decide +kernel
theorem dX11_aim_6 : decode cX11_aim 6 = .ok (.invokestatic 77, 3) := by decide +kernel
theorem dX11_aim_9 : decode cX11_aim 9 = .ok (.ifCond .eq 13, 3) := by decide +kernel
theorem dX11_aim_12 : decode cX11_aim 12 = .ok (.iload_n 2, 1) := by decide +kernel
theorem dX11_aim_13 : decode cX11_aim 13 = .ok (.i2l, 1) := by decide +kernel
theorem dX11_aim_14 : decode cX11_aim 14 = .ok (.lconst 0, 1) := by decide +kernel
theorem dX11_aim_15 : decode cX11_aim 15 = .ok (.lconst 1, 1) := by decide +kernel
theorem dX11_aim_16 : decode cX11_aim 16 = .ok (.invokestatic 77, 3) := by decide +kernel
theorem dX11_aim_19 : decode cX11_aim 19 = .ok (.ifCond .ne 7, 3) := by decide +kernel
theorem dX11_aim_22 : decode cX11_aim 22 = .ok (.ldc2_w 173, 3) := by decide +kernel
theorem dX11_aim_25 : decode cX11_aim 25 = .ok (.lreturn, 1) := by decide +kernel
theorem dX11_aim_26 : decode cX11_aim 26 = .ok (.aload_n 0, 1) := by decide +kernel
theorem dX11_aim_27 : decode cX11_aim 27 = .ok (.invokevirtual 195, 3) := by decide +kernel
theorem dX11_aim_30 : decode cX11_aim 30 = .ok (.ifCond .eq 19, 3) := by decide +kernel
theorem dX11_aim_33 : decode cX11_aim 33 = .ok (.aload_n 0, 1) := by decide +kernel
theorem dX11_aim_34 : decode cX11_aim 34 = .ok (.iload_n 1, 1) := by decide +kernel
theorem dX11_aim_35 : decode cX11_aim 35 = .ok (.invokevirtual 198, 3) := by decide +kernel
theorem dX11_aim_38 : decode cX11_aim 38 = .ok (.iload_n 1, 1) := by decide +kernel
theorem dX11_aim_39 : decode cX11_aim 39 = .ok (.invokestatic 202, 3) := by decide +kernel
theorem dX11_aim_42 : decode cX11_aim 42 = .ok (.iload_n 2, 1) := by decide +kernel
theorem dX11_aim_43 : decode cX11_aim 43 = .ok (.invokestatic 179, 3) := by decide +kernel
theorem dX11_aim_46 : decode cX11_aim 46 = .ok (.goto 6, 3) := by decide +kernel
theorem dX11_aim_49 : decode cX11_aim 49 = .ok (.ldc2_w 205, 3) := by decide +kernel
theorem dX11_aim_52 : decode cX11_aim 52 = .ok (.lreturn, 1) := by decide +kernel
theorem dX11_which_0 : decode cX11_which 0 = .ok (.iload_n 1, 1) := by decide +kernel
theorem dX11_which_1 : decode cX11_which 1 = .ok (.i2l, 1) := by decide +kernel
theorem dX11_which_2 : decode cX11_which 2 = .ok (.lconst 1, 1) := by decide +kernel
theorem dX11_which_3 : decode cX11_which 3 = .ok (.ldc2_w 139, 3) := by decide +kernel
theorem dX11_which_6 : decode cX11_which 6 = .ok (.invokestatic 77, 3) := by decide +kernel
theorem dX11_which_9 : decode cX11_which 9 = .ok (.ifCond .ne 6, 3) := by decide +kernel
theorem dX11_which_12 : decode cX11_which 12 = .ok (.bipush (-102), 2) := by decide +kernel
theorem dX11_which_14 : decode cX11_which 14 = .ok (.ireturn, 1) := by decide +kernel
theorem dX11_which_15 : decode cX11_which 15 = .ok (.aload_n 0, 1) := by decide +kernel
theorem dX11_which_16 : decode cX11_which 16 = .ok (.invokevirtual 195, 3) := by decide +kernel
theorem dX11_which_19 : decode cX11_which 19 = .ok (.ifCond .ne 6, 3) := by decide +kernel
theorem dX11_which_22 : decode cX11_which 22 = .ok (.bipush (-103), 2) := by decide +kernel
theorem dX11_which_24 : decode cX11_which 24 = .ok (.ireturn, 1) := by decide +kernel
theorem dX11_which_25 : decode cX11_which 25 = .ok (.aload_n 0, 1) := by decide +kernel
theorem dX11_which_26 : decode cX11_which 26 = .ok (.iload_n 1, 1) := by decide +kernel
theorem dX11_which_27 : decode cX11_which 27 = .ok (.invokevirtual 207, 3) := by decide +kernel
theorem dX11_which_30 : decode cX11_which 30 = .ok (.aload_n 0, 1) := by decide +kernel
theorem dX11_which_31 : decode cX11_which 31 = .ok (.aload_n 0, 1) := by decide +kernel
theorem dX11_which_32 : decode cX11_which 32 = .ok (.invokevirtual 161, 3) := by decide +kernel
theorem dX11_which_35 : decode cX11_which 35 = .ok (.iload_n 1, 1) := by decide +kernel
theorem dX11_which_36 : decode cX11_which 36 = .ok (.iconst 1, 1) := by decide +kernel
theorem dX11_which_37 : decode cX11_which 37 = .ok (.isub, 1) := by decide +kernel
theorem dX11_which_38 : decode cX11_which 38 = .ok (.invokestatic 202, 3) := by decide +kernel
theorem dX11_which_41 : decode cX11_which 41 = .ok (.aload_n 0, 1) := by decide +kernel
theorem dX11_which_42 : decode cX11_which 42 = .ok (.invokevirtual 192, 3) := by decide +kernel
theorem dX11_which_45 : decode cX11_which 45 = .ok (.invokevirtual 188, 3) := by decide +kernel
theorem dX11_which_48 : decode cX11_which 48 = .ok (.lstore_n 2, 1) := by decide +kernel
theorem dX11_which_49 : decode cX11_which 49 = .ok (.lload_n 2, 1) := by decide +kernel
theorem dX11_which_50 : decode cX11_which 50 = .ok (.lconst 0, 1) := by decide +kernel
theorem dX11_which_51 : decode cX11_which 51 = .ok (.lcmp, 1) := by decide +kernel
theorem dX11_which_52 : decode cX11_which 52 = .ok (.ifCond .ge 7, 3) := by decide +kernel
theorem dX11_which_55 : decode cX11_which 55 = .ok (.iconst (-1), 1) := by decide +kernel
theorem dX11_which_56 : decode cX11_which 56 = .ok (.goto 7, 3) := by decide +kernel
theorem dX11_which_59 : decode cX11_which 59 = .ok (.aload_n 0, 1) := by decide +kernel
theorem dX11_which_60 : decode cX11_which 60 = .ok (.getfield 183, 3) := by decide +kernel
theorem dX11_which_63 : decode cX11_which 63 = .ok (.ireturn, 1) := by decide +kernel
theorem dX11_layLater_0 : decode cX11_layLater 0 = .ok (.iconst 0, 1) := by decide +kernel
theorem dX11_layLater_1 : decode cX11_layLater 1 = .ok (.istore_n 2, 1) := by decide +kernel
theorem dX11_layLater_2 : decode cX11_layLater 2 = .ok (.iload_n 2, 1) := by decide +kernel
theorem dX11_layLater_3 : decode cX11_layLater 3 = .ok (.bipush 64, 2) := by decide +kernel
theorem dX11_layLater_5 : decode cX11_layLater 5 = .ok (.if_icmp .ge 16, 3) := by decide +kernel
theorem dX11_layLater_8 : decode cX11_layLater 8 = .ok (.aload_n 0, 1) := by decide +kernel
theorem dX11_layLater_9 : decode cX11_layLater 9 = .ok (.getfield 28, 3) := by decide +kernel
theorem dX11_layLater_12 : decode cX11_layLater 12 = .ok (.iload_n 2, 1) := by decide +kernel
theorem dX11_layLater_13 : decode cX11_layLater 13 = .ok (.lconst 0, 1) := by decide +kernel
theorem dX11_layLater_14 : decode cX11_layLater 14 = .ok (.lastore, 1) := by decide +kernel
theorem dX11_layLater_15 : decode cX11_layLater 15 = .ok (.iinc 2 1, 3) := by decide +kernel
theorem dX11_layLater_18 : decode cX11_layLater 18 = .ok (.goto (-16), 3) := by decide +kernel
theorem dX11_layLater_21 : decode cX11_layLater 21 = .ok (.lconst 1, 1) := by decide +kernel
theorem dX11_layLater_22 : decode cX11_layLater 22 = .ok (.lstore_n 2, 1) := by decide +kernel
theorem dX11_layLater_23 : decode cX11_layLater 23 = .ok (.aload_n 0, 1) := by decide +kernel
theorem dX11_layLater_24 : decode cX11_layLater 24 = .ok (.invokevirtual 161, 3) := by decide +kernel
theorem dX11_layLater_27 : decode cX11_layLater 27 = .ok (.iconst 1, 1) := by decide +kernel
theorem dX11_layLater_28 : decode cX11_layLater 28 = .ok (.iadd, 1) := by decide +kernel
theorem dX11_layLater_29 : decode cX11_layLater 29 = .ok (.istore 4, 2) := by decide +kernel
theorem dX11_layLater_31 : decode cX11_layLater 31 = .ok (.aload_n 0, 1) := by decide +kernel
theorem dX11_layLater_32 : decode cX11_layLater 32 = .ok (.invokevirtual 161, 3) := by decide +kernel
theorem dX11_layLater_35 : decode cX11_layLater 35 = .ok (.iload_n 1, 1) := by decide +kernel
theorem dX11_layLater_36 : decode cX11_layLater 36 = .ok (.iadd, 1) := by decide +kernel
theorem dX11_layLater_37 : decode cX11_layLater 37 = .ok (.aload_n 0, 1) := by decide +kernel
theorem dX11_layLater_38 : decode cX11_layLater 38 = .ok (.getfield 106, 3) := by decide +kernel
theorem dX11_layLater_41 : decode cX11_layLater 41 = .ok (.if_icmp .ge 12, 3) := by decide +kernel
theorem dX11_layLater_44 : decode cX11_layLater 44 = .ok (.aload_n 0, 1) := by decide +kernel
theorem dX11_layLater_45 : decode cX11_layLater 45 = .ok (.invokevirtual 161, 3) := by decide +kernel
theorem dX11_layLater_48 : decode cX11_layLater 48 = .ok (.iload_n 1, 1) := by decide +kernel
theorem dX11_layLater_49 : decode cX11_layLater 49 = .ok (.iadd, 1) := by decide +kernel
theorem dX11_layLater_50 : decode cX11_layLater 50 = .ok (.goto 7, 3) := by decide +kernel
theorem dX11_layLater_53 : decode cX11_layLater 53 = .ok (.aload_n 0, 1) := by decide +kernel
theorem dX11_layLater_54 : decode cX11_layLater 54 = .ok (.getfield 106, 3) := by decide +kernel
theorem dX11_layLater_57 : decode cX11_layLater 57 = .ok (.istore 5, 2) := by decide +kernel
theorem dX11_layLater_59 : decode cX11_layLater 59 = .ok (.iconst 0, 1) := by decide +kernel
theorem dX11_layLater_60 : decode cX11_layLater 60 = .ok (.istore 6, 2) := by decide +kernel
