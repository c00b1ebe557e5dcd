theorem dX8_search_56 : decode cX8_search 56 = .ok (.invokevirtual 50, 3) := by decide +kernel
theorem dX8_search_59 : decode cX8_search 59 = .ok (.return_, 1) := by decide +kernel
theorem dX8_total_0 : decode cX8_total 0 = .ok (.aload_n 0, 1) := by decide +kernel
theorem dX8_total_1 : decode cX8_total 1 = .ok (.getfield 18, 3) := by decide +kernel
theorem dX8_total_4 : decode cX8_total 4 = .ok (.iconst 0, 1) := by decide +kernel
theorem dX8_total_5 : decode cX8_total 5 = .ok (.invokestatic 53, 3) := by decide +kernel
theorem dX8_total_8 : decode cX8_total 8 = .ok (.ireturn, 1) := by decide +kernel
theorem dX8_surePlace_0 : decode cX8_surePlace 0 = .ok (.iconst (-1), 1) := by decide +kernel
theorem dX8_surePlace_1 : decode cX8_surePlace 1 = .ok (.istore_n 2, 1) := by decide +kernel
theorem dX8_surePlace_2 : decode cX8_surePlace 2 = .ok (.iconst 0, 1) := by decide +kernel
theorem dX8_surePlace_3 : decode cX8_surePlace 3 = .ok (.istore_n 3, 1) := by decide +kernel
theorem dX8_surePlace_4 : decode cX8_surePlace 4 = .ok (.iload_n 3, 1) := by decide +kernel
theorem dX8_surePlace_5 : decode cX8_surePlace 5 = .ok (.aload_n 0, 1) := by decide +kernel
theorem dX8_surePlace_6 : decode cX8_surePlace 6 = .ok (.getfield 32, 3) := by decide +kernel
theorem dX8_surePlace_9 : decode cX8_surePlace 9 = .ok (.if_icmp .gt 66, 3) := by decide +kernel
theorem dX8_surePlace_12 : decode cX8_surePlace 12 = .ok (.aload_n 0, 1) := by decide +kernel
theorem dX8_surePlace_13 : decode cX8_surePlace 13 = .ok (.iload_n 3, 1) := by decide +kernel
theorem dX8_surePlace_14 : decode cX8_surePlace 14 = .ok (.iload_n 1, 1) := by decide +kernel
theorem dX8_surePlace_15 : decode cX8_surePlace 15 = .ok (.invokevirtual 57, 3) := by decide +kernel
theorem dX8_surePlace_18 : decode cX8_surePlace 18 = .ok (.ifCond .eq 51, 3) := by decide +kernel
theorem dX8_surePlace_21 : decode cX8_surePlace 21 = .ok (.aload_n 0, 1) := by decide +kernel
theorem dX8_surePlace_22 : decode cX8_surePlace 22 = .ok (.getfield 15, 3) := by decide +kernel
theorem dX8_surePlace_25 : decode cX8_surePlace 25 = .ok (.iload_n 3, 1) := by decide +kernel
theorem dX8_surePlace_26 : decode cX8_surePlace 26 = .ok (.invokestatic 53, 3) := by decide +kernel
theorem dX8_surePlace_29 : decode cX8_surePlace 29 = .ok (.ifCond .le 40, 3) := by decide +kernel
theorem dX8_surePlace_32 : decode cX8_surePlace 32 = .ok (.aload_n 0, 1) := by decide +kernel
theorem dX8_surePlace_33 : decode cX8_surePlace 33 = .ok (.getfield 18, 3) := by decide +kernel
theorem dX8_surePlace_36 : decode cX8_surePlace 36 = .ok (.iload_n 3, 1) := by decide +kernel
theorem dX8_surePlace_37 : decode cX8_surePlace 37 = .ok (.iload_n 1, 1) := by decide +kernel
theorem dX8_surePlace_38 : decode cX8_surePlace 38 = .ok (.invokestatic 61, 3) := by decide +kernel
theorem dX8_surePlace_41 : decode cX8_surePlace 41 = .ok (.invokestatic 53, 3) := by decide +kernel
theorem dX8_surePlace_44 : decode cX8_surePlace 44 = .ok (.ifCond .le 25, 3) := by decide +kernel
theorem dX8_surePlace_47 : decode cX8_surePlace 47 = .ok (.iload_n 3, 1) := by decide +kernel
theorem dX8_surePlace_48 : decode cX8_surePlace 48 = .ok (.invokestatic 65, 3) := by decide +kernel
theorem dX8_surePlace_51 : decode cX8_surePlace 51 = .ok (.istore 4, 2) := by decide +kernel
theorem dX8_surePlace_53 : decode cX8_surePlace 53 = .ok (.iload_n 2, 1) := by decide +kernel
theorem dX8_surePlace_54 : decode cX8_surePlace 54 = .ok (.iconst (-1), 1) := by decide +kernel
theorem dX8_surePlace_55 : decode cX8_surePlace 55 = .ok (.if_icmp .eq 11, 3) := by decide +kernel
theorem dX8_surePlace_58 : decode cX8_surePlace 58 = .ok (.iload_n 2, 1) := by decide +kernel
theorem dX8_surePlace_59 : decode cX8_surePlace 59 = .ok (.iload 4, 2) := by decide +kernel
theorem dX8_surePlace_61 : decode cX8_surePlace 61 = .ok (.if_icmp .eq 5, 3) := by decide +kernel
theorem dX8_surePlace_64 : decode cX8_surePlace 64 = .ok (.iconst (-1), 1) := by decide +kernel
theorem dX8_surePlace_65 : decode cX8_surePlace 65 = .ok (.ireturn, 1) := by decide +kernel
theorem dX8_surePlace_66 : decode cX8_surePlace 66 = .ok (.iload 4, 2) := by decide +kernel
theorem dX8_surePlace_68 : decode cX8_surePlace 68 = .ok (.istore_n 2, 1) := by decide +kernel
theorem dX8_surePlace_69 : decode cX8_surePlace 69 = .ok (.iinc 3 1, 3) := by decide +kernel
theorem dX8_surePlace_72 : decode cX8_surePlace 72 = .ok (.goto (-68), 3) := by decide +kernel
theorem dX8_surePlace_75 : decode cX8_surePlace 75 = .ok (.iload_n 2, 1) := by decide +kernel
theorem dX8_surePlace_76 : decode cX8_surePlace 76 = .ok (.ireturn, 1) := by decide +kernel
theorem dX8_countWays_0 : decode cX8_countWays 0 = .ok (.aload_n 0, 1) := by decide +kernel
theorem dX8_countWays_1 : decode cX8_countWays 1 = .ok (.getfield 15, 3) := by decide +kernel
theorem dX8_countWays_4 : decode cX8_countWays 4 = .ok (.iconst 0, 1) := by decide +kernel
theorem dX8_countWays_5 : decode cX8_countWays 5 = .ok (.invokestatic 70, 3) := by decide +kernel
theorem dX8_countWays_8 : decode cX8_countWays 8 = .ok (.aload_n 0, 1) := by decide +kernel
theorem dX8_countWays_9 : decode cX8_countWays 9 = .ok (.getfield 15, 3) := by decide +kernel
theorem dX8_countWays_12 : decode cX8_countWays 12 = .ok (.iconst 0, 1) := by decide +kernel
theorem dX8_countWays_13 : decode cX8_countWays 13 = .ok (.iconst 1, 1) := by decide +kernel
theorem dX8_countWays_14 : decode cX8_countWays 14 = .ok (.invokestatic 43, 3) := by decide +kernel
theorem dX8_countWays_17 : decode cX8_countWays 17 = .ok (.iconst 0, 1) := by decide +kernel
theorem dX8_countWays_18 : decode cX8_countWays 18 = .ok (.istore_n 1, 1) := by decide +kernel
theorem dX8_countWays_19 : decode cX8_countWays 19 = .ok (.iload_n 1, 1) := by decide +kernel
theorem dX8_countWays_20 : decode cX8_countWays 20 = .ok (.aload_n 0, 1) := by decide +kernel
theorem dX8_countWays_21 : decode cX8_countWays 21 = .ok (.getfield 32, 3) := by decide +kernel
theorem dX8_countWays_24 : decode cX8_countWays 24 = .ok (.if_icmp .gt 65, 3) := by decide +kernel
theorem dX8_countWays_27 : decode cX8_countWays 27 = .ok (.iconst 0, 1) := by decide +kernel
theorem dX8_countWays_28 : decode cX8_countWays 28 = .ok (.istore_n 2, 1) := by decide +kernel
theorem dX8_countWays_29 : decode cX8_countWays 29 = .ok (.iload_n 2, 1) := by decide +kernel
theorem dX8_countWays_30 : decode cX8_countWays 30 = .ok (.aload_n 0, 1) := by decide +kernel
theorem dX8_countWays_31 : decode cX8_countWays 31 = .ok (.getfield 27, 3) := by decide +kernel
theorem dX8_countWays_34 : decode cX8_countWays 34 = .ok (.if_icmp .ge 49, 3) := by decide +kernel
theorem dX8_countWays_37 : decode cX8_countWays 37 = .ok (.aload_n 0, 1) := by decide +kernel
theorem dX8_countWays_38 : decode cX8_countWays 38 = .ok (.iload_n 1, 1) := by decide +kernel
theorem dX8_countWays_39 : decode cX8_countWays 39 = .ok (.iload_n 2, 1) := by decide +kernel
theorem dX8_countWays_40 : decode cX8_countWays 40 = .ok (.invokevirtual 57, 3) := by decide +kernel
theorem dX8_countWays_43 : decode cX8_countWays 43 = .ok (.ifCond .eq 34, 3) := by decide +kernel
theorem dX8_countWays_46 : decode cX8_countWays 46 = .ok (.iload_n 1, 1) := by decide +kernel
theorem dX8_countWays_47 : decode cX8_countWays 47 = .ok (.iload_n 2, 1) := by decide +kernel
theorem dX8_countWays_48 : decode cX8_countWays 48 = .ok (.invokestatic 61, 3) := by decide +kernel
theorem dX8_countWays_51 : decode cX8_countWays 51 = .ok (.istore_n 3, 1) := by decide +kernel
theorem dX8_countWays_52 : decode cX8_countWays 52 = .ok (.aload_n 0, 1) := by decide +kernel
theorem dX8_countWays_53 : decode cX8_countWays 53 = .ok (.getfield 15, 3) := by decide +kernel
theorem dX8_countWays_56 : decode cX8_countWays 56 = .ok (.iload_n 3, 1) := by decide +kernel
theorem dX8_countWays_57 : decode cX8_countWays 57 = .ok (.aload_n 0, 1) := by decide +kernel
theorem dX8_countWays_58 : decode cX8_countWays 58 = .ok (.getfield 15, 3) := by decide +kernel
theorem dX8_countWays_61 : decode cX8_countWays 61 = .ok (.iload_n 3, 1) := by decide +kernel
theorem dX8_countWays_62 : decode cX8_countWays 62 = .ok (.invokestatic 53, 3) := by decide +kernel
theorem dX8_countWays_65 : decode cX8_countWays 65 = .ok (.aload_n 0, 1) := by decide +kernel
theorem dX8_countWays_66 : decode cX8_countWays 66 = .ok (.getfield 15, 3) := by decide +kernel
theorem dX8_countWays_69 : decode cX8_countWays 69 = .ok (.iload_n 1, 1) := by decide +kernel
theorem dX8_countWays_70 : decode cX8_countWays 70 = .ok (.invokestatic 53, 3) := by decide +kernel
theorem dX8_countWays_73 : decode cX8_countWays 73 = .ok (.iadd, 1) := by decide +kernel
theorem dX8_countWays_74 : decode cX8_countWays 74 = .ok (.invokestatic 43, 3) := by decide +kernel
theorem dX8_countWays_77 : decode cX8_countWays 77 = .ok (.iinc 2 1, 3) := by decide +kernel
theorem dX8_countWays_80 : decode cX8_countWays 80 = .ok (.goto (-51), 3) := by decide +kernel
theorem dX8_countWays_83 : decode cX8_countWays 83 = .ok (.iinc 1 1, 3) := by decide +kernel
theorem dX8_countWays_86 : decode cX8_countWays 86 = .ok (.goto (-67), 3) := by decide +kernel
theorem dX8_countWays_89 : decode cX8_countWays 89 = .ok (.return_, 1) := by decide +kernel
theorem dX8_countRests_0 : decode cX8_countRests 0 = .ok (.aload_n 0, 1) := by decide +kernel
theorem dX8_countRests_1 : decode cX8_countRests 1 = .ok (.getfield 18, 3) := by decide +kernel
theorem dX8_countRests_4 : decode cX8_countRests 4 = .ok (.iconst 0, 1) := by decide +kernel
theorem dX8_countRests_5 : decode cX8_countRests 5 = .ok (.invokestatic 70, 3) := by decide +kernel
theorem dX8_countRests_8 : decode cX8_countRests 8 = .ok (.aload_n 0, 1) := by decide +kernel
theorem dX8_countRests_9 : decode cX8_countRests 9 = .ok (.getfield 18, 3) := by decide +kernel
theorem dX8_countRests_12 : decode cX8_countRests 12 = .ok (.aload_n 0, 1) := by decide +kernel
theorem dX8_countRests_13 : decode cX8_countRests 13 = .ok (.getfield 32, 3) := by decide +kernel
theorem dX8_countRests_16 : decode cX8_countRests 16 = .ok (.iconst 1, 1) := by decide +kernel
theorem dX8_countRests_17 : decode cX8_countRests 17 = .ok (.invokestatic 43, 3) := by decide +kernel
theorem dX8_countRests_20 : decode cX8_countRests 20 = .ok (.aload_n 0, 1) := by decide +kernel
theorem dX8_countRests_21 : decode cX8_countRests 21 = .ok (.getfield 32, 3) := by decide +kernel
theorem dX8_countRests_24 : decode cX8_countRests 24 = .ok (.istore_n 1, 1) := by decide +kernel
theorem dX8_countRests_25 : decode cX8_countRests 25 = .ok (.iload_n 1, 1) := by decide +kernel
theorem dX8_countRests_26 : decode cX8_countRests 26 = .ok (.ifCond .lt 63, 3) := by decide +kernel
theorem dX8_countRests_29 : decode cX8_countRests 29 = .ok (.iconst 0, 1) := by decide +kernel
theorem dX8_countRests_30 : decode cX8_countRests 30 = .ok (.istore_n 2, 1) := by decide +kernel
theorem dX8_countRests_31 : decode cX8_countRests 31 = .ok (.iload_n 2, 1) := by decide +kernel
theorem dX8_countRests_32 : decode cX8_countRests 32 = .ok (.aload_n 0, 1) := by decide +kernel
theorem dX8_countRests_33 : decode cX8_countRests 33 = .ok (.getfield 27, 3) := by decide +kernel
theorem dX8_countRests_36 : decode cX8_countRests 36 = .ok (.if_icmp .ge 47, 3) := by decide +kernel
theorem dX8_countRests_39 : decode cX8_countRests 39 = .ok (.aload_n 0, 1) := by decide +kernel
theorem dX8_countRests_40 : decode cX8_countRests 40 = .ok (.iload_n 1, 1) := by decide +kernel
theorem dX8_countRests_41 : decode cX8_countRests 41 = .ok (.iload_n 2, 1) := by decide +kernel
theorem dX8_countRests_42 : decode cX8_countRests 42 = .ok (.invokevirtual 57, 3) := by decide +kernel
theorem dX8_countRests_45 : decode cX8_countRests 45 = .ok (.ifCond .eq 32, 3) := by decide +kernel
theorem dX8_countRests_48 : decode cX8_countRests 48 = .ok (.aload_n 0, 1) := by decide +kernel
theorem dX8_countRests_49 : decode cX8_countRests 49 = .ok (.getfield 18, 3) := by decide +kernel
theorem dX8_countRests_52 : decode cX8_countRests 52 = .ok (.iload_n 1, 1) := by decide +kernel
theorem dX8_countRests_53 : decode cX8_countRests 53 = .ok (.aload_n 0, 1) := by decide +kernel
theorem dX8_countRests_54 : decode cX8_countRests 54 = .ok (.getfield 18, 3) := by decide +kernel
theorem dX8_countRests_57 : decode cX8_countRests 57 = .ok (.iload_n 1, 1) := by decide +kernel
theorem dX8_countRests_58 : decode cX8_countRests 58 = .ok (.invokestatic 53, 3) := by decide +kernel
theorem dX8_countRests_61 : decode cX8_countRests 61 = .ok (.aload_n 0, 1) := by decide +kernel
theorem dX8_countRests_62 : decode cX8_countRests 62 = .ok (.getfield 18, 3) := by decide +kernel
theorem dX8_countRests_65 : decode cX8_countRests 65 = .ok (.iload_n 1, 1) := by decide +kernel
theorem dX8_countRests_66 : decode cX8_countRests 66 = .ok (.iload_n 2, 1) := by decide +kernel
theorem dX8_countRests_67 : decode cX8_countRests 67 = .ok (.invokestatic 61, 3) := by decide +kernel
theorem dX8_countRests_70 : decode cX8_countRests 70 = .ok (.invokestatic 53, 3) := by decide +kernel
theorem dX8_countRests_73 : decode cX8_countRests 73 = .ok (.iadd, 1) := by decide +kernel
theorem dX8_countRests_74 : decode cX8_countRests 74 = .ok (.invokestatic 43, 3) := by decide +kernel
theorem dX8_countRests_77 : decode cX8_countRests 77 = .ok (.iinc 2 1, 3) := by decide +kernel
theorem dX8_countRests_80 : decode cX8_countRests 80 = .ok (.goto (-49), 3) := by decide +kernel
theorem dX8_countRests_83 : decode cX8_countRests 83 = .ok (.iinc 1 (-1), 3) := by decide +kernel
theorem dX8_countRests_86 : decode cX8_countRests 86 = .ok (.goto (-61), 3) := by decide +kernel
theorem dX8_countRests_89 : decode cX8_countRests 89 = .ok (.return_, 1) := by decide +kernel
theorem dX8_mayFollow_0 : decode cX8_mayFollow 0 = .ok (.iload_n 1, 1) := by decide +kernel
theorem dX8_mayFollow_1 : decode cX8_mayFollow 1 = .ok (.iload_n 2, 1) := by decide +kernel
theorem dX8_mayFollow_2 : decode cX8_mayFollow 2 = .ok (.invokestatic 76, 3) := by decide +kernel
theorem dX8_mayFollow_5 : decode cX8_mayFollow 5 = .ok (.ifCond .ne 22, 3) := by decide +kernel
theorem dX8_mayFollow_8 : decode cX8_mayFollow 8 = .ok (.iload_n 1, 1) := by decide +kernel
theorem dX8_mayFollow_9 : decode cX8_mayFollow 9 = .ok (.aload_n 0, 1) := by decide +kernel
theorem dX8_mayFollow_10 : decode cX8_mayFollow 10 = .ok (.getfield 9, 3) := by decide +kernel
theorem dX8_mayFollow_13 : decode cX8_mayFollow 13 = .ok (.iload_n 2, 1) := by decide +kernel
theorem dX8_mayFollow_14 : decode cX8_mayFollow 14 = .ok (.invokestatic 53, 3) := by decide +kernel
theorem dX8_mayFollow_17 : decode cX8_mayFollow 17 = .ok (.invokestatic 79, 3) := by decide +kernel
theorem dX8_mayFollow_20 : decode cX8_mayFollow 20 = .ok (.ifCond .eq 7, 3) := by decide +kernel
theorem dX8_mayFollow_23 : decode cX8_mayFollow 23 = .ok (.iconst 1, 1) := by decide +kernel
theorem dX8_mayFollow_24 : decode cX8_mayFollow 24 = .ok (.goto 4, 3) := by decide +kernel
theorem dX8_mayFollow_27 : decode cX8_mayFollow 27 = .ok (.iconst 0, 1) := by decide +kernel
theorem dX8_mayFollow_28 : decode cX8_mayFollow 28 = .ok (.ireturn, 1) := by decide +kernel
theorem dX9_init_0 : decode cX9_init 0 = .ok (.aload_n 0, 1) := by decide +kernel
theorem dX9_init_1 : decode cX9_init 1 = .ok (.invokespecial 1, 3) := by decide +kernel
theorem dX9_init_4 : decode cX9_init 4 = .ok (.return_, 1) := by decide +kernel
theorem dX9_run_0 : decode cX9_run 0 = .ok (.aload_n 0, 1) := by decide +kernel
theorem dX9_run_1 : decode cX9_run 1 = .ok (.iload 4, 2) := by decide +kernel
theorem dX9_run_3 : decode cX9_run 3 = .ok (.i2l, 1) := by decide +kernel
theorem dX9_run_4 : decode cX9_run 4 = .ok (.putfield 7, 3) := by decide +kernel
theorem dX9_run_7 : decode cX9_run 7 = .ok (.aload_n 0, 1) := by decide +kernel
theorem dX9_run_8 : decode cX9_run 8 = .ok (.iconst 0, 1) := by decide +kernel
theorem dX9_run_9 : decode cX9_run 9 = .ok (.putfield 13, 3) := by decide +kernel
theorem dX9_run_12 : decode cX9_run 12 = .ok (.aload_n 0, 1) := by decide +kernel
theorem dX9_run_13 : decode cX9_run 13 = .ok (.aload_n 3, 1) := by decide +kernel
theorem dX9_run_14 : decode cX9_run 14 = .ok (.getfield 17, 3) := by decide +kernel
theorem dX9_run_17 : decode cX9_run 17 = .ok (.putfield 23, 3) := by decide +kernel
theorem dX9_run_20 : decode cX9_run 20 = .ok (.aload_n 0, 1) := by decide +kernel
theorem dX9_run_21 : decode cX9_run 21 = .ok (.aload_n 3, 1) := by decide +kernel
theorem dX9_run_22 : decode cX9_run 22 = .ok (.getfield 24, 3) := by decide +kernel
theorem dX9_run_25 : decode cX9_run 25 = .ok (.putfield 27, 3) := by decide +kernel
theorem dX9_run_28 : decode cX9_run 28 = .ok (.aload_n 2, 1) := by decide +kernel
theorem dX9_run_29 : decode cX9_run 29 = .ok (.aload_n 3, 1) := by decide +kernel
theorem dX9_run_30 : decode cX9_run 30 = .ok (.getfield 28, 3) := by decide +kernel
theorem dX9_run_33 : decode cX9_run 33 = .ok (.invokevirtual 31, 3) := by decide +kernel
theorem dX9_run_36 : decode cX9_run 36 = .ok (.istore 5, 2) := by decide +kernel
theorem dX9_run_38 : decode cX9_run 38 = .ok (.aload_n 3, 1) := by decide +kernel
theorem dX9_run_39 : decode cX9_run 39 = .ok (.invokevirtual 37, 3) := by decide +kernel
theorem dX9_run_42 : decode cX9_run 42 = .ok (.istore 6, 2) := by decide +kernel
theorem dX9_run_44 : decode cX9_run 44 = .ok (.iload 6, 2) := by decide +kernel
theorem dX9_run_46 : decode cX9_run 46 = .ok (.aload_n 1, 1) := by decide +kernel
theorem dX9_run_47 : decode cX9_run 47 = .ok (.getfield 41, 3) := by decide +kernel
theorem dX9_run_50 : decode cX9_run 50 = .ok (.if_icmp .ge 120, 3) := by decide +kernel
theorem dX9_run_53 : decode cX9_run 53 = .ok (.aload_n 0, 1) := by decide +kernel
theorem dX9_run_54 : decode cX9_run 54 = .ok (.getfield 23, 3) := by decide +kernel
theorem dX9_run_57 : decode cX9_run 57 = .ok (.ifCond .ne 15, 3) := by decide +kernel
theorem dX9_run_60 : decode cX9_run 60 = .ok (.aload_n 0, 1) := by decide +kernel
theorem dX9_run_61 : decode cX9_run 61 = .ok (.getfield 27, 3) := by decide +kernel
theorem dX9_run_64 : decode cX9_run 64 = .ok (.ifCond .ne 8, 3) := by decide +kernel
theorem dX9_run_67 : decode cX9_run 67 = .ok (.iload 5, 2) := by decide +kernel
theorem dX9_run_69 : decode cX9_run 69 = .ok (.ifCond .ne 4, 3) := by decide +kernel
theorem dX9_run_72 : decode cX9_run 72 = .ok (.return_, 1) := by decide +kernel
theorem dX9_run_73 : decode cX9_run 73 = .ok (.aload_n 2, 1) := by decide +kernel
theorem dX9_run_74 : decode cX9_run 74 = .ok (.iload 5, 2) := by decide +kernel
theorem dX9_run_76 : decode cX9_run 76 = .ok (.invokevirtual 46, 3) := by decide +kernel
theorem dX9_run_79 : decode cX9_run 79 = .ok (.istore 7, 2) := by decide +kernel
theorem dX9_run_81 : decode cX9_run 81 = .ok (.iload 5, 2) := by decide +kernel
theorem dX9_run_83 : decode cX9_run 83 = .ok (.iload 7, 2) := by decide +kernel
theorem dX9_run_85 : decode cX9_run 85 = .ok (.invokestatic 49, 3) := by decide +kernel
theorem dX9_run_88 : decode cX9_run 88 = .ok (.istore 5, 2) := by decide +kernel
theorem dX9_run_90 : decode cX9_run 90 = .ok (.aload_n 0, 1) := by decide +kernel
theorem dX9_run_91 : decode cX9_run 91 = .ok (.dup, 1) := by decide +kernel
theorem dX9_run_92 : decode cX9_run 92 = .ok (.getfield 13, 3) := by decide +kernel
theorem dX9_run_95 : decode cX9_run 95 = .ok (.iconst 1, 1) := by decide +kernel
theorem dX9_run_96 : decode cX9_run 96 = .ok (.iadd, 1) := by decide +kernel
theorem dX9_run_97 : decode cX9_run 97 = .ok (.putfield 13, 3) := by decide +kernel
theorem dX9_run_100 : decode cX9_run 100 = .ok (.aload_n 0, 1) := by decide +kernel
theorem dX9_run_101 : decode cX9_run 101 = .ok (.aload_n 1, 1) := by decide +kernel
theorem dX9_run_102 : decode cX9_run 102 = .ok (.aload_n 2, 1) := by decide +kernel
theorem dX9_run_103 : decode cX9_run 103 = .ok (.iload 7, 2) := by decide +kernel
theorem dX9_run_105 : decode cX9_run 105 = .ok (.iload 6, 2) := by decide +kernel
theorem dX9_run_107 : decode cX9_run 107 = .ok (.aload_n 0, 1) := by decide +kernel
theorem dX9_run_108 : decode cX9_run 108 = .ok (.aload_n 1, 1) := by decide +kernel
theorem dX9_run_109 : decode cX9_run 109 = .ok (.invokevirtual 55, 3) := by decide +kernel
theorem dX9_run_112 : decode cX9_run 112 = .ok (.aload_n 1, 1) := by decide +kernel
theorem dX9_run_113 : decode cX9_run 113 = .ok (.invokevirtual 59, 3) := by decide +kernel
theorem dX9_run_116 : decode cX9_run 116 = .ok (.invokevirtual 63, 3) := by decide +kernel
theorem dX9_run_119 : decode cX9_run 119 = .ok (.putfield 23, 3) := by decide +kernel
theorem dX9_run_122 : decode cX9_run 122 = .ok (.aload_n 0, 1) := by decide +kernel
theorem dX9_run_123 : decode cX9_run 123 = .ok (.getfield 23, 3) := by decide +kernel
theorem dX9_run_126 : decode cX9_run 126 = .ok (.ifCond .ne 38, 3) := by decide +kernel
theorem dX9_run_129 : decode cX9_run 129 = .ok (.aload_n 0, 1) := by decide +kernel
theorem dX9_run_130 : decode cX9_run 130 = .ok (.invokevirtual 67, 3) := by decide +kernel
theorem dX9_run_133 : decode cX9_run 133 = .ok (.istore 8, 2) := by decide +kernel
theorem dX9_run_135 : decode cX9_run 135 = .ok (.aload_n 0, 1) := by decide +kernel
theorem dX9_run_136 : decode cX9_run 136 = .ok (.aload_n 1, 1) := by decide +kernel
theorem dX9_run_137 : decode cX9_run 137 = .ok (.iload 6, 2) := by decide +kernel
theorem dX9_run_139 : decode cX9_run 139 = .ok (.invokevirtual 70, 3) := by decide +kernel
theorem dX9_run_142 : decode cX9_run 142 = .ok (.ifCond .ne 14, 3) := by decide +kernel
theorem dX9_run_145 : decode cX9_run 145 = .ok (.iload 8, 2) := by decide +kernel
theorem dX9_run_147 : decode cX9_run 147 = .ok (.aload_n 1, 1) := by decide +kernel
theorem dX9_run_148 : decode cX9_run 148 = .ok (.iload 6, 2) := by decide +kernel
theorem dX9_run_150 : decode cX9_run 150 = .ok (.invokevirtual 73, 3) := by decide +kernel
theorem dX9_run_153 : decode cX9_run 153 = .ok (.if_icmp .ge 7, 3) := by decide +kernel
theorem dX9_run_156 : decode cX9_run 156 = .ok (.iconst 1, 1) := by decide +kernel
theorem dX9_run_157 : decode cX9_run 157 = .ok (.goto 4, 3) := by decide +kernel
theorem dX9_run_160 : decode cX9_run 160 = .ok (.iconst 0, 1) := by decide +kernel
theorem dX9_run_161 : decode cX9_run 161 = .ok (.putfield 27, 3) := by decide +kernel
theorem dX9_run_164 : decode cX9_run 164 = .ok (.iinc 6 1, 3) := by decide +kernel
theorem dX9_run_167 : decode cX9_run 167 = .ok (.goto (-123), 3) := by decide +kernel
theorem dX9_run_170 : decode cX9_run 170 = .ok (.return_, 1) := by decide +kernel
theorem dX9_drawGust_0 : decode cX9_drawGust 0 = .ok (.aload_n 0, 1) := by decide +kernel
theorem dX9_drawGust_1 : decode cX9_drawGust 1 = .ok (.invokevirtual 67, 3) := by decide +kernel
theorem dX9_drawGust_4 : decode cX9_drawGust 4 = .ok (.istore_n 2, 1) := by decide +kernel
theorem dX9_drawGust_5 : decode cX9_drawGust 5 = .ok (.iload_n 2, 1) := by decide +kernel
theorem dX9_drawGust_6 : decode cX9_drawGust 6 = .ok (.aload_n 1, 1) := by decide +kernel
theorem dX9_drawGust_7 : decode cX9_drawGust 7 = .ok (.iconst (-1), 1) := by decide +kernel
theorem dX9_drawGust_8 : decode cX9_drawGust 8 = .ok (.invokevirtual 76, 3) := by decide +kernel
theorem dX9_drawGust_11 : decode cX9_drawGust 11 = .ok (.if_icmp .ge 5, 3) := by decide +kernel
theorem dX9_drawGust_14 : decode cX9_drawGust 14 = .ok (.iconst (-1), 1) := by decide +kernel
theorem dX9_drawGust_15 : decode cX9_drawGust 15 = .ok (.ireturn, 1) := by decide +kernel
theorem dX9_drawGust_16 : decode cX9_drawGust 16 = .ok (.iload_n 2, 1) := by decide +kernel
theorem dX9_drawGust_17 : decode cX9_drawGust 17 = .ok (.aload_n 1, 1) := by decide +kernel
theorem dX9_drawGust_18 : decode cX9_drawGust 18 = .ok (.iconst (-1), 1) := by decide +kernel
theorem dX9_drawGust_19 : decode cX9_drawGust 19 = .ok (.invokevirtual 76, 3) := by decide +kernel
theorem dX9_drawGust_22 : decode cX9_drawGust 22 = .ok (.aload_n 1, 1) := by decide +kernel
theorem dX9_drawGust_23 : decode cX9_drawGust 23 = .ok (.iconst 0, 1) := by decide +kernel
theorem dX9_drawGust_24 : decode cX9_drawGust 24 = .ok (.invokevirtual 76, 3) := by decide +kernel
theorem dX9_drawGust_27 : decode cX9_drawGust 27 = .ok (.iadd, 1) := by decide +kernel
theorem dX9_drawGust_28 : decode cX9_drawGust 28 = .ok (.if_icmp .ge 7, 3) := by decide +kernel
theorem dX9_drawGust_31 : decode cX9_drawGust 31 = .ok (.iconst 0, 1) := by decide +kernel
theorem dX9_drawGust_32 : decode cX9_drawGust 32 = .ok (.goto 4, 3) := by decide +kernel
theorem dX9_drawGust_35 : decode cX9_drawGust 35 = .ok (.iconst 1, 1) := by decide +kernel
theorem dX9_drawGust_36 : decode cX9_drawGust 36 = .ok (.ireturn, 1) := by decide +kernel
theorem dX9_draw_0 : decode cX9_draw 0 = .ok (.aload_n 0, 1) := by decide +kernel
theorem dX9_draw_1 : decode cX9_draw 1 = .ok (.ldc2_w 79, 3) := by decide +kernel
theorem dX9_draw_4 : decode cX9_draw 4 = .ok (.aload_n 0, 1) := by decide +kernel
theorem dX9_draw_5 : decode cX9_draw 5 = .ok (.getfield 7, 3) := by decide +kernel
theorem dX9_draw_8 : decode cX9_draw 8 = .ok (.lmul, 1) := by decide +kernel
theorem dX9_draw_9 : decode cX9_draw 9 = .ok (.ldc2_w 81, 3) := by decide +kernel
theorem dX9_draw_12 : decode cX9_draw 12 = .ok (.ladd, 1) := by decide +kernel
theorem dX9_draw_13 : decode cX9_draw 13 = .ok (.ldc2_w 83, 3) := by decide +kernel
theorem dX9_draw_16 : decode cX9_draw 16 = .ok (.lrem, 1) := by decide +kernel
theorem dX9_draw_17 : decode cX9_draw 17 = .ok (.putfield 7, 3) := by decide +kernel
theorem dX9_draw_20 : decode cX9_draw 20 = .ok (.aload_n 0, 1) := by decide +kernel
theorem dX9_draw_21 : decode cX9_draw 21 = .ok (.getfield 7, 3) := by decide +kernel
theorem dX9_draw_24 : decode cX9_draw 24 = .ok (.ldc2_w 85, 3) := by decide +kernel
theorem dX9_draw_27 : decode cX9_draw 27 = .ok (.ldiv, 1) := by decide +kernel
theorem dX9_draw_28 : decode cX9_draw 28 = .ok (.ldc2_w 87, 3) := by decide +kernel
theorem dX9_draw_31 : decode cX9_draw 31 = .ok (.lrem, 1) := by decide +kernel
theorem dX9_draw_32 : decode cX9_draw 32 = .ok (.l2i, 1) := by decide +kernel
theorem dX9_draw_33 : decode cX9_draw 33 = .ok (.ireturn, 1) := by decide +kernel
theorem dX10_init_0 : decode cX10_init 0 = .ok (.aload_n 0, 1) := by decide +kernel
theorem dX10_init_1 : decode cX10_init 1 = .ok (.invokespecial 1, 3) := by decide +kernel
theorem dX10_init_4 : decode cX10_init 4 = .ok (.aload_n 0, 1) := by decide +kernel
theorem dX10_init_5 : decode cX10_init 5 = .ok (.new 7, 3) := by decide +kernel
theorem dX10_init_8 : decode cX10_init 8 = .ok (.dup, 1) := by decide +kernel
theorem dX10_init_9 : decode cX10_init 9 = .ok (.invokespecial 9, 3) := by decide +kernel
theorem dX10_init_12 : decode cX10_init 12 = .ok (.putfield 10, 3) := by decide +kernel
theorem dX10_init_15 : decode cX10_init 15 = .ok (.aload_n 0, 1) := by decide +kernel
theorem dX10_init_16 : decode cX10_init 16 = .ok (.new 16, 3) := by decide +kernel
theorem dX10_init_19 : decode cX10_init 19 = .ok (.dup, 1) := by decide +kernel
theorem dX10_init_20 : decode cX10_init 20 = .ok (.invokespecial 18, 3) := by decide +kernel
theorem dX10_init_23 : decode cX10_init 23 = .ok (.putfield 19, 3) := by decide +kernel
theorem dX10_init_26 : decode cX10_init 26 = .ok (.aload_n 0, 1) := by decide +kernel
theorem dX10_init_27 : decode cX10_init 27 = .ok (.new 23, 3) := by decide +kernel
theorem dX10_init_30 : decode cX10_init 30 = .ok (.dup, 1) := by decide +kernel
theorem dX10_init_31 : decode cX10_init 31 = .ok (.invokespecial 25, 3) := by decide +kernel
theorem dX10_init_34 : decode cX10_init 34 = .ok (.putfield 26, 3) := by decide +kernel
theorem dX10_init_37 : decode cX10_init 37 = .ok (.aload_n 0, 1) := by decide +kernel
theorem dX10_init_38 : decode cX10_init 38 = .ok (.new 30, 3) := by decide +kernel
theorem dX10_init_41 : decode cX10_init 41 = .ok (.dup, 1) := by decide +kernel
theorem dX10_init_42 : decode cX10_init 42 = .ok (.invokespecial 32, 3) := by decide +kernel
theorem dX10_init_45 : decode cX10_init 45 = .ok (.putfield 33, 3) := by decide +kernel
theorem dX10_init_48 : decode cX10_init 48 = .ok (.aload_n 0, 1) := by decide +kernel
theorem dX10_init_49 : decode cX10_init 49 = .ok (.new 37, 3) := by decide +kernel
theorem dX10_init_52 : decode cX10_init 52 = .ok (.dup, 1) := by decide +kernel
theorem dX10_init_53 : decode cX10_init 53 = .ok (.invokespecial 39, 3) := by decide +kernel
theorem dX10_init_56 : decode cX10_init 56 = .ok (.putfield 40, 3) := by decide +kernel
theorem dX10_init_59 : decode cX10_init 59 = .ok (.aload_n 0, 1) := by decide +kernel
theorem dX10_init_60 : decode cX10_init 60 = .ok (.new 44, 3) := by decide +kernel
theorem dX10_init_63 : decode cX10_init 63 = .ok (.dup, 1) := by decide +kernel
theorem dX10_init_64 : decode cX10_init 64 = .ok (.invokespecial 46, 3) := by decide +kernel
theorem dX10_init_67 : decode cX10_init 67 = .ok (.putfield 47, 3) := by decide +kernel
theorem dX10_init_70 : decode cX10_init 70 = .ok (.aload_n 0, 1) := by decide +kernel
theorem dX10_init_71 : decode cX10_init 71 = .ok (.new 51, 3) := by decide +kernel
theorem dX10_init_74 : decode cX10_init 74 = .ok (.dup, 1) := by decide +kernel
theorem dX10_init_75 : decode cX10_init 75 = .ok (.invokespecial 53, 3) := by decide +kernel
theorem dX10_init_78 : decode cX10_init 78 = .ok (.putfield 54, 3) := by decide +kernel
theorem dX10_init_81 : decode cX10_init 81 = .ok (.aload_n 0, 1) := by decide +kernel
theorem dX10_init_82 : decode cX10_init 82 = .ok (.new 58, 3) := by decide +kernel
theorem dX10_init_85 : decode cX10_init 85 = .ok (.dup, 1) := by decide +kernel
theorem dX10_init_86 : decode cX10_init 86 = .ok (.invokespecial 60, 3) := by decide +kernel
theorem dX10_init_89 : decode cX10_init 89 = .ok (.putfield 61, 3) := by decide +kernel
theorem dX10_init_92 : decode cX10_init 92 = .ok (.aload_n 0, 1) := by decide +kernel
theorem dX10_init_93 : decode cX10_init 93 = .ok (.new 65, 3) := by decide +kernel
theorem dX10_init_96 : decode cX10_init 96 = .ok (.dup, 1) := by decide +kernel
theorem dX10_init_97 : decode cX10_init 97 = .ok (.invokespecial 67, 3) := by decide +kernel
theorem dX10_init_100 : decode cX10_init 100 = .ok (.putfield 68, 3) := by decide +kernel
theorem dX10_init_103 : decode cX10_init 103 = .ok (.aload_n 0, 1) := by decide +kernel
theorem dX10_init_104 : decode cX10_init 104 = .ok (.new 72, 3) := by decide +kernel
theorem dX10_init_107 : decode cX10_init 107 = .ok (.dup, 1) := by decide +kernel
theorem dX10_init_108 : decode cX10_init 108 = .ok (.invokespecial 74, 3) := by decide +kernel
theorem dX10_init_111 : decode cX10_init 111 = .ok (.putfield 75, 3) := by decide +kernel
theorem dX10_init_114 : decode cX10_init 114 = .ok (.return_, 1) := by decide +kernel
theorem dX10_letter_0 : decode cX10_letter 0 = .ok (.iload_n 1, 1) := by decide +kernel
theorem dX10_letter_1 : decode cX10_letter 1 = .ok (.iconst 1, 1) := by decide +kernel
theorem dX10_letter_2 : decode cX10_letter 2 = .ok (.bipush 126, 2) := by decide +kernel
theorem dX10_letter_4 : decode cX10_letter 4 = .ok (.invokestatic 79, 3) := by decide +kernel
theorem dX10_letter_7 : decode cX10_letter 7 = .ok (.ifCond .eq 6, 3) := by decide +kernel
theorem dX10_letter_10 : decode cX10_letter 10 = .ok (.bipush (-102), 2) := by decide +kernel
theorem dX10_letter_12 : decode cX10_letter 12 = .ok (.ireturn, 1) := by decide +kernel
theorem dX10_letter_13 : decode cX10_letter 13 = .ok (.aload_n 0, 1) := by decide +kernel
theorem dX10_letter_14 : decode cX10_letter 14 = .ok (.getfield 10, 3) := by decide +kernel
theorem dX10_letter_17 : decode cX10_letter 17 = .ok (.getfield 83, 3) := by decide +kernel
theorem dX10_letter_20 : decode cX10_letter 20 = .ok (.bipush 22, 2) := by decide +kernel
theorem dX10_letter_22 : decode cX10_letter 22 = .ok (.if_icmp .lt 6, 3) := by decide +kernel
theorem dX10_letter_25 : decode cX10_letter 25 = .ok (.bipush (-104), 2) := by decide +kernel
theorem dX10_letter_27 : decode cX10_letter 27 = .ok (.ireturn, 1) := by decide +kernel
theorem dX10_letter_28 : decode cX10_letter 28 = .ok (.aload_n 0, 1) := by decide +kernel
theorem dX10_letter_29 : decode cX10_letter 29 = .ok (.getfield 10, 3) := by decide +kernel
theorem dX10_letter_32 : decode cX10_letter 32 = .ok (.iload_n 1, 1) := by decide +kernel
theorem dX10_letter_33 : decode cX10_letter 33 = .ok (.invokevirtual 87, 3) := by decide +kernel
theorem dX10_letter_36 : decode cX10_letter 36 = .ok (.aload_n 0, 1) := by decide +kernel
theorem dX10_letter_37 : decode cX10_letter 37 = .ok (.getfield 10, 3) := by decide +kernel
theorem dX10_letter_40 : decode cX10_letter 40 = .ok (.getfield 83, 3) := by decide +kernel
theorem dX10_letter_43 : decode cX10_letter 43 = .ok (.ireturn, 1) := by decide +kernel
theorem dX10_blank_0 : decode cX10_blank 0 = .ok (.aload_n 0, 1) := by decide +kernel
theorem dX10_blank_1 : decode cX10_blank 1 = .ok (.getfield 10, 3) := by decide +kernel
theorem dX10_blank_4 : decode cX10_blank 4 = .ok (.getfield 83, 3) := by decide +kernel
theorem dX10_blank_7 : decode cX10_blank 7 = .ok (.istore_n 1, 1) := by decide +kernel
theorem dX10_blank_8 : decode cX10_blank 8 = .ok (.aload_n 0, 1) := by decide +kernel
theorem dX10_blank_9 : decode cX10_blank 9 = .ok (.getfield 10, 3) := by decide +kernel
theorem dX10_blank_12 : decode cX10_blank 12 = .ok (.invokevirtual 91, 3) := by decide +kernel
theorem dX10_blank_15 : decode cX10_blank 15 = .ok (.iload_n 1, 1) := by decide +kernel
theorem dX10_blank_16 : decode cX10_blank 16 = .ok (.ireturn, 1) := by decide +kernel
theorem dX10_fault_0 : decode cX10_fault 0 = .ok (.aload_n 0, 1) := by decide +kernel
theorem dX10_fault_1 : decode cX10_fault 1 = .ok (.getfield 10, 3) := by decide +kernel
theorem dX10_fault_4 : decode cX10_fault 4 = .ok (.invokevirtual 94, 3) := by decide +kernel
theorem dX10_fault_7 : decode cX10_fault 7 = .ok (.ireturn, 1) := by decide +kernel
theorem dX10_night_0 : decode cX10_night 0 = .ok (.aload_n 0, 1) := by decide +kernel
theorem dX10_night_1 : decode cX10_night 1 = .ok (.getfield 10, 3) := by decide +kernel
theorem dX10_night_4 : decode cX10_night 4 = .ok (.invokevirtual 98, 3) := by decide +kernel
theorem dX10_night_7 : decode cX10_night 7 = .ok (.ifCond .ne 6, 3) := by decide +kernel
theorem dX10_night_10 : decode cX10_night 10 = .ok (.bipush (-103), 2) := by decide +kernel
theorem dX10_night_12 : decode cX10_night 12 = .ok (.ireturn, 1) := by decide +kernel
theorem dX10_night_13 : decode cX10_night 13 = .ok (.aload_n 0, 1) := by decide +kernel
theorem dX10_night_14 : decode cX10_night 14 = .ok (.getfield 19, 3) := by decide +kernel
theorem dX10_night_17 : decode cX10_night 17 = .ok (.aload_n 0, 1) := by decide +kernel
theorem dX10_night_18 : decode cX10_night 18 = .ok (.getfield 10, 3) := by decide +kernel
theorem dX10_night_21 : decode cX10_night 21 = .ok (.invokevirtual 102, 3) := by decide +kernel
theorem dX10_night_24 : decode cX10_night 24 = .ok (.aload_n 0, 1) := by decide +kernel
theorem dX10_night_25 : decode cX10_night 25 = .ok (.getfield 10, 3) := by decide +kernel
theorem dX10_night_28 : decode cX10_night 28 = .ok (.invokevirtual 91, 3) := by decide +kernel
theorem dX10_night_31 : decode cX10_night 31 = .ok (.aload_n 0, 1) := by decide +kernel
theorem dX10_night_32 : decode cX10_night 32 = .ok (.getfield 26, 3) := by decide +kernel
theorem dX10_night_35 : decode cX10_night 35 = .ok (.invokevirtual 106, 3) := by decide +kernel
theorem dX10_night_38 : decode cX10_night 38 = .ok (.aload_n 0, 1) := by decide +kernel
theorem dX10_night_39 : decode cX10_night 39 = .ok (.getfield 33, 3) := by decide +kernel
theorem dX10_night_42 : decode cX10_night 42 = .ok (.invokevirtual 107, 3) := by decide +kernel
theorem dX10_night_45 : decode cX10_night 45 = .ok (.aload_n 0, 1) := by decide +kernel
theorem dX10_night_46 : decode cX10_night 46 = .ok (.getfield 40, 3) := by decide +kernel
theorem dX10_night_49 : decode cX10_night 49 = .ok (.invokevirtual 108, 3) := by decide +kernel
theorem dX10_night_52 : decode cX10_night 52 = .ok (.aload_n 0, 1) := by decide +kernel
theorem dX10_night_53 : decode cX10_night 53 = .ok (.dup, 1) := by decide +kernel
theorem dX10_night_54 : decode cX10_night 54 = .ok (.getfield 109, 3) := by decide +kernel
theorem dX10_night_57 : decode cX10_night 57 = .ok (.iconst 1, 1) := by decide +kernel
theorem dX10_night_58 : decode cX10_night 58 = .ok (.iadd, 1) := by decide +kernel
theorem dX10_night_59 : decode cX10_night 59 = .ok (.putfield 109, 3) := by decide +kernel
theorem dX10_night_62 : decode cX10_night 62 = .ok (.aload_n 0, 1) := by decide +kernel
theorem dX10_night_63 : decode cX10_night 63 = .ok (.getfield 19, 3) := by decide +kernel
theorem dX10_night_66 : decode cX10_night 66 = .ok (.getfield 112, 3) := by decide +kernel
theorem dX10_night_69 : decode cX10_night 69 = .ok (.ireturn, 1) := by decide +kernel
theorem dX10_sea_0 : decode cX10_sea 0 = .ok (.iload_n 1, 1) := by decide +kernel
theorem dX10_sea_1 : decode cX10_sea 1 = .ok (.iconst 0, 1) := by decide +kernel
theorem dX10_sea_2 : decode cX10_sea 2 = .ok (.iconst 4, 1) := by decide +kernel
theorem dX10_sea_3 : decode cX10_sea 3 = .ok (.invokestatic 79, 3) := by decide +kernel
theorem dX10_sea_6 : decode cX10_sea 6 = .ok (.ifCond .eq 17, 3) := by decide +kernel
theorem dX10_sea_9 : decode cX10_sea 9 = .ok (.iload_n 1, 1) := by decide +kernel
theorem dX10_sea_10 : decode cX10_sea 10 = .ok (.bipush 10, 2) := by decide +kernel
theorem dX10_sea_12 : decode cX10_sea 12 = .ok (.bipush 19, 2) := by decide +kernel
theorem dX10_sea_14 : decode cX10_sea 14 = .ok (.invokestatic 79, 3) := by decide +kernel
theorem dX10_sea_17 : decode cX10_sea 17 = .ok (.ifCond .eq 6, 3) := by decide +kernel
theorem dX10_sea_20 : decode cX10_sea 20 = .ok (.bipush (-102), 2) := by decide +kernel
theorem dX10_sea_22 : decode cX10_sea 22 = .ok (.ireturn, 1) := by decide +kernel
theorem dX10_sea_23 : decode cX10_sea 23 = .ok (.aload_n 0, 1) := by decide +kernel
theorem dX10_sea_24 : decode cX10_sea 24 = .ok (.invokevirtual 115, 3) := by decide +kernel
theorem dX10_sea_27 : decode cX10_sea 27 = .ok (.ifCond .ne 6, 3) := by decide +kernel
theorem dX10_sea_30 : decode cX10_sea 30 = .ok (.bipush (-103), 2) := by decide +kernel
theorem dX10_sea_32 : decode cX10_sea 32 = .ok (.ireturn, 1) := by decide +kernel
theorem dX10_sea_33 : decode cX10_sea 33 = .ok (.aload_n 0, 1) := by decide +kernel
theorem dX10_sea_34 : decode cX10_sea 34 = .ok (.getfield 19, 3) := by decide +kernel
theorem dX10_sea_37 : decode cX10_sea 37 = .ok (.iload_n 1, 1) := by decide +kernel
theorem dX10_sea_38 : decode cX10_sea 38 = .ok (.invokevirtual 118, 3) := by decide +kernel
theorem dX10_sea_41 : decode cX10_sea 41 = .ok (.ireturn, 1) := by decide +kernel
theorem dX10_rocket_0 : decode cX10_rocket 0 = .ok (.iload_n 1, 1) := by decide +kernel
theorem dX10_rocket_1 : decode cX10_rocket 1 = .ok (.bipush 10, 2) := by decide +kernel
theorem dX10_rocket_3 : decode cX10_rocket 3 = .ok (.bipush 120, 2) := by decide +kernel
theorem dX10_rocket_5 : decode cX10_rocket 5 = .ok (.invokestatic 79, 3) := by decide +kernel
theorem dX10_rocket_8 : decode cX10_rocket 8 = .ok (.ifCond .ne 13, 3) := by decide +kernel
theorem dX10_rocket_11 : decode cX10_rocket 11 = .ok (.iload_n 2, 1) := by decide +kernel
theorem dX10_rocket_12 : decode cX10_rocket 12 = .ok (.iconst 0, 1) := by decide +kernel
theorem dX10_rocket_13 : decode cX10_rocket 13 = .ok (.bipush 9, 2) := by decide +kernel
theorem dX10_rocket_15 : decode cX10_rocket 15 = .ok (.invokestatic 79, 3) := by decide +kernel
theorem dX10_rocket_18 : decode cX10_rocket 18 = .ok (.ifCond .eq 6, 3) := by decide +kernel
theorem dX10_rocket_21 : decode cX10_rocket 21 = .ok (.bipush (-102), 2) := by decide +kernel
theorem dX10_rocket_23 : decode cX10_rocket 23 = .ok (.ireturn, 1) := by decide +kernel
theorem dX10_rocket_24 : decode cX10_rocket 24 = .ok (.aload_n 0, 1) := by decide +kernel
theorem dX10_rocket_25 : decode cX10_rocket 25 = .ok (.invokevirtual 115, 3) := by decide +kernel
theorem dX10_rocket_28 : decode cX10_rocket 28 = .ok (.ifCond .ne 6, 3) := by decide +kernel
theorem dX10_rocket_31 : decode cX10_rocket 31 = .ok (.bipush (-103), 2) := by decide +kernel
theorem dX10_rocket_33 : decode cX10_rocket 33 = .ok (.ireturn, 1) := by decide +kernel
theorem dX10_rocket_34 : decode cX10_rocket 34 = .ok (.aload_n 0, 1) := by decide +kernel
theorem dX10_rocket_35 : decode cX10_rocket 35 = .ok (.getfield 26, 3) := by decide +kernel
theorem dX10_rocket_38 : decode cX10_rocket 38 = .ok (.getfield 122, 3) := by decide +kernel
theorem dX10_rocket_41 : decode cX10_rocket 41 = .ok (.bipush 6, 2) := by decide +kernel
theorem dX10_rocket_43 : decode cX10_rocket 43 = .ok (.if_icmp .lt 6, 3) := by decide +kernel
theorem dX10_rocket_46 : decode cX10_rocket 46 = .ok (.bipush (-104), 2) := by decide +kernel
theorem dX10_rocket_48 : decode cX10_rocket 48 = .ok (.ireturn, 1) := by decide +kernel
theorem dX10_rocket_49 : decode cX10_rocket 49 = .ok (.aload_n 0, 1) := by decide +kernel
theorem dX10_rocket_50 : decode cX10_rocket 50 = .ok (.getfield 26, 3) := by decide +kernel
theorem dX10_rocket_53 : decode cX10_rocket 53 = .ok (.iload_n 1, 1) := by decide +kernel
theorem dX10_rocket_54 : decode cX10_rocket 54 = .ok (.iload_n 2, 1) := by decide +kernel
theorem dX10_rocket_55 : decode cX10_rocket 55 = .ok (.invokevirtual 125, 3) := by decide +kernel
theorem dX10_rocket_58 : decode cX10_rocket 58 = .ok (.ireturn, 1) := by decide +kernel
theorem dX10_fire_0 : decode cX10_fire 0 = .ok (.aload_n 0, 1) := by decide +kernel
theorem dX10_fire_1 : decode cX10_fire 1 = .ok (.getfield 26, 3) := by decide +kernel
theorem dX10_fire_4 : decode cX10_fire 4 = .ok (.iload_n 1, 1) := by decide +kernel
theorem dX10_fire_5 : decode cX10_fire 5 = .ok (.invokevirtual 128, 3) := by decide +kernel
theorem dX10_fire_8 : decode cX10_fire 8 = .ok (.ifCond .ne 6, 3) := by decide +kernel
theorem dX10_fire_11 : decode cX10_fire 11 = .ok (.bipush (-101), 2) := by decide +kernel
theorem dX10_fire_13 : decode cX10_fire 13 = .ok (.ireturn, 1) := by decide +kernel
theorem dX10_fire_14 : decode cX10_fire 14 = .ok (.iload_n 2, 1) := by decide +kernel
theorem dX10_fire_15 : decode cX10_fire 15 = .ok (.iconst (-1), 1) := by decide +kernel
theorem dX10_fire_16 : decode cX10_fire 16 = .ok (.iconst 1, 1) := by decide +kernel
theorem dX10_fire_17 : decode cX10_fire 17 = .ok (.invokestatic 79, 3) := by decide +kernel
theorem dX10_fire_20 : decode cX10_fire 20 = .ok (.ifCond .eq 6, 3) := by decide +kernel
theorem dX10_fire_23 : decode cX10_fire 23 = .ok (.bipush (-102), 2) := by decide +kernel
theorem dX10_fire_25 : decode cX10_fire 25 = .ok (.ireturn, 1) := by decide +kernel
theorem dX10_fire_26 : decode cX10_fire 26 = .ok (.aload_n 0, 1) := by decide +kernel
theorem dX10_fire_27 : decode cX10_fire 27 = .ok (.getfield 40, 3) := by decide +kernel
theorem dX10_fire_30 : decode cX10_fire 30 = .ok (.getfield 132, 3) := by decide +kernel
theorem dX10_fire_33 : decode cX10_fire 33 = .ok (.iload_n 1, 1) := by decide +kernel
theorem dX10_fire_34 : decode cX10_fire 34 = .ok (.invokestatic 135, 3) := by decide +kernel
theorem dX10_fire_37 : decode cX10_fire 37 = .ok (.ifCond .ne 13, 3) := by decide +kernel
theorem dX10_fire_40 : decode cX10_fire 40 = .ok (.aload_n 0, 1) := by decide +kernel
theorem dX10_fire_41 : decode cX10_fire 41 = .ok (.getfield 40, 3) := by decide +kernel
theorem dX10_fire_44 : decode cX10_fire 44 = .ok (.getfield 139, 3) := by decide +kernel
theorem dX10_fire_47 : decode cX10_fire 47 = .ok (.ifCond .eq 6, 3) := by decide +kernel
theorem dX10_fire_50 : decode cX10_fire 50 = .ok (.bipush (-103), 2) := by decide +kernel
theorem dX10_fire_52 : decode cX10_fire 52 = .ok (.ireturn, 1) := by decide +kernel
theorem dX10_fire_53 : decode cX10_fire 53 = .ok (.aload_n 0, 1) := by decide +kernel
theorem dX10_fire_54 : decode cX10_fire 54 = .ok (.getfield 26, 3) := by decide +kernel
theorem dX10_fire_57 : decode cX10_fire 57 = .ok (.iload_n 1, 1) := by decide +kernel
theorem dX10_fire_58 : decode cX10_fire 58 = .ok (.aload_n 0, 1) := by decide +kernel
theorem dX10_fire_59 : decode cX10_fire 59 = .ok (.getfield 40, 3) := by decide +kernel
theorem dX10_fire_62 : decode cX10_fire 62 = .ok (.invokevirtual 143, 3) := by decide +kernel
theorem dX10_fire_65 : decode cX10_fire 65 = .ok (.iload_n 2, 1) := by decide +kernel
theorem dX10_fire_66 : decode cX10_fire 66 = .ok (.aload_n 0, 1) := by decide +kernel
theorem dX10_fire_67 : decode cX10_fire 67 = .ok (.getfield 19, 3) := by decide +kernel
theorem dX10_fire_70 : decode cX10_fire 70 = .ok (.invokevirtual 146, 3) := by decide +kernel
theorem dX10_fire_73 : decode cX10_fire 73 = .ok (.istore_n 3, 1) := by decide +kernel
theorem dX10_fire_74 : decode cX10_fire 74 = .ok (.aload_n 0, 1) := by decide +kernel
theorem dX10_fire_75 : decode cX10_fire 75 = .ok (.getfield 40, 3) := by decide +kernel
theorem dX10_fire_78 : decode cX10_fire 78 = .ok (.aload_n 0, 1) := by decide +kernel
theorem dX10_fire_79 : decode cX10_fire 79 = .ok (.getfield 40, 3) := by decide +kernel
theorem dX10_fire_82 : decode cX10_fire 82 = .ok (.getfield 132, 3) := by decide +kernel
theorem dX10_fire_85 : decode cX10_fire 85 = .ok (.iload_n 1, 1) := by decide +kernel
theorem dX10_fire_86 : decode cX10_fire 86 = .ok (.invokestatic 150, 3) := by decide +kernel
theorem dX10_fire_89 : decode cX10_fire 89 = .ok (.putfield 132, 3) := by decide +kernel
theorem dX10_fire_92 : decode cX10_fire 92 = .ok (.aload_n 0, 1) := by decide +kernel
theorem dX10_fire_93 : decode cX10_fire 93 = .ok (.getfield 19, 3) := by decide +kernel
theorem dX10_fire_96 : decode cX10_fire 96 = .ok (.iload_n 3, 1) := by decide +kernel
theorem dX10_fire_97 : decode cX10_fire 97 = .ok (.invokevirtual 153, 3) := by decide +kernel
theorem dX10_fire_100 : decode cX10_fire 100 = .ok (.ifCond .eq 11, 3) := by decide +kernel
theorem dX10_fire_103 : decode cX10_fire 103 = .ok (.aload_n 0, 1) := by decide +kernel
theorem dX10_fire_104 : decode cX10_fire 104 = .ok (.getfield 40, 3) := by decide +kernel
theorem dX10_fire_107 : decode cX10_fire 107 = .ok (.iconst 1, 1) := by decide +kernel
theorem dX10_fire_108 : decode cX10_fire 108 = .ok (.putfield 156, 3) := by decide +kernel
theorem dX10_fire_111 : decode cX10_fire 111 = .ok (.iload_n 3, 1) := by decide +kernel
theorem dX10_fire_112 : decode cX10_fire 112 = .ok (.ireturn, 1) := by decide +kernel
theorem dX10_hits_0 : decode cX10_hits 0 = .ok (.aload_n 0, 1) := by decide +kernel
theorem dX10_hits_1 : decode cX10_hits 1 = .ok (.getfield 26, 3) := by decide +kernel
theorem dX10_hits_4 : decode cX10_hits 4 = .ok (.iload_n 1, 1) := by decide +kernel
theorem dX10_hits_5 : decode cX10_hits 5 = .ok (.invokevirtual 128, 3) := by decide +kernel
theorem dX10_hits_8 : decode cX10_hits 8 = .ok (.ifCond .ne 7, 3) := by decide +kernel
theorem dX10_hits_11 : decode cX10_hits 11 = .ok (.ldc2_w 159, 3) := by decide +kernel
theorem dX10_hits_14 : decode cX10_hits 14 = .ok (.lreturn, 1) := by decide +kernel
theorem dX10_hits_15 : decode cX10_hits 15 = .ok (.iload_n 2, 1) := by decide +kernel
theorem dX10_hits_16 : decode cX10_hits 16 = .ok (.iconst 0, 1) := by decide +kernel
theorem dX10_hits_17 : decode cX10_hits 17 = .ok (.bipush 9, 2) := by decide +kernel
theorem dX10_hits_19 : decode cX10_hits 19 = .ok (.invokestatic 79, 3) := by decide +kernel
theorem dX10_hits_22 : decode cX10_hits 22 = .ok (.ifCond .ne 12, 3) := by decide +kernel
theorem dX10_hits_25 : decode cX10_hits 25 = .ok (.iload_n 3, 1) := by decide +kernel
theorem dX10_hits_26 : decode cX10_hits 26 = .ok (.iconst 0, 1) := by decide +kernel
theorem dX10_hits_27 : decode cX10_hits 27 = .ok (.iconst 1, 1) := by decide +kernel
theorem dX10_hits_28 : decode cX10_hits 28 = .ok (.invokestatic 79, 3) := by decide +kernel
theorem dX10_hits_31 : decode cX10_hits 31 = .ok (.ifCond .eq 7, 3) := by decide +kernel
theorem dX10_hits_34 : decode cX10_hits 34 = .ok (.ldc2_w 161, 3) := by decide +kernel
theorem dX10_hits_37 : decode cX10_hits 37 = .ok (.lreturn, 1) := by decide +kernel
theorem dX10_hits_38 : decode cX10_hits 38 = .ok (.aload_n 0, 1) := by decide +kernel
theorem dX10_hits_39 : decode cX10_hits 39 = .ok (.getfield 26, 3) := by decide +kernel
theorem dX10_hits_42 : decode cX10_hits 42 = .ok (.iload_n 1, 1) := by decide +kernel
theorem dX10_hits_43 : decode cX10_hits 43 = .ok (.iload_n 2, 1) := by decide +kernel
theorem dX10_hits_44 : decode cX10_hits 44 = .ok (.aload_n 0, 1) := by decide +kernel
theorem dX10_hits_45 : decode cX10_hits 45 = .ok (.getfield 19, 3) := by decide +kernel
theorem dX10_hits_48 : decode cX10_hits 48 = .ok (.invokevirtual 163, 3) := by decide +kernel
theorem dX10_hits_51 : decode cX10_hits 51 = .ok (.i2l, 1) := by decide +kernel
theorem dX10_hits_52 : decode cX10_hits 52 = .ok (.ldc2_w 167, 3) := by decide +kernel
theorem dX10_hits_55 : decode cX10_hits 55 = .ok (.iload_n 3, 1) := by decide +kernel
theorem dX10_hits_56 : decode cX10_hits 56 = .ok (.invokestatic 169, 3) := by decide +kernel
theorem dX10_hits_59 : decode cX10_hits 59 = .ok (.lreturn, 1) := by decide +kernel
theorem dX10_aim_0 : decode cX10_aim 0 = .ok (.iload_n 1, 1) := by decide +kernel
theorem dX10_aim_1 : decode cX10_aim 1 = .ok (.iconst 1, 1) := by decide +kernel
theorem dX10_aim_2 : decode cX10_aim 2 = .ok (.iconst 4, 1) := by decide +kernel
theorem dX10_aim_3 : decode cX10_aim 3 = .ok (.invokestatic 79, 3) := by decide +kernel
theorem dX10_aim_6 : decode cX10_aim 6 = .ok (.ifCond .ne 12, 3) := by decide +kernel
theorem dX10_aim_9 : decode cX10_aim 9 = .ok (.iload_n 2, 1) := by decide +kernel
theorem dX10_aim_10 : decode cX10_aim 10 = .ok (.iconst 0, 1) := by decide +kernel
theorem dX10_aim_11 : decode cX10_aim 11 = .ok (.iconst 1, 1) := by decide +kernel
theorem dX10_aim_12 : decode cX10_aim 12 = .ok (.invokestatic 79, 3) := by decide +kernel
theorem dX10_aim_15 : decode cX10_aim 15 = .ok (.ifCond .eq 7, 3) := by decide +kernel
theorem dX10_aim_18 : decode cX10_aim 18 = .ok (.ldc2_w 161, 3) := by decide +kernel
theorem dX10_aim_21 : decode cX10_aim 21 = .ok (.lreturn, 1) := by decide +kernel
theorem dX10_aim_22 : decode cX10_aim 22 = .ok (.aload_n 0, 1) := by decide +kernel
theorem dX10_aim_23 : decode cX10_aim 23 = .ok (.invokevirtual 173, 3) := by decide +kernel
theorem dX10_aim_26 : decode cX10_aim 26 = .ok (.ifCond .ne 7, 3) := by decide +kernel
theorem dX10_aim_29 : decode cX10_aim 29 = .ok (.ldc2_w 176, 3) := by decide +kernel
theorem dX10_aim_32 : decode cX10_aim 32 = .ok (.lreturn, 1) := by decide +kernel
theorem dX10_aim_33 : decode cX10_aim 33 = .ok (.aload_n 0, 1) := by decide +kernel
theorem dX10_aim_34 : decode cX10_aim 34 = .ok (.getfield 54, 3) := by decide +kernel
theorem dX10_aim_37 : decode cX10_aim 37 = .ok (.aload_n 0, 1) := by decide +kernel
theorem dX10_aim_38 : decode cX10_aim 38 = .ok (.getfield 19, 3) := by decide +kernel
theorem dX10_aim_41 : decode cX10_aim 41 = .ok (.aload_n 0, 1) := by decide +kernel
theorem dX10_aim_42 : decode cX10_aim 42 = .ok (.getfield 26, 3) := by decide +kernel
theorem dX10_aim_45 : decode cX10_aim 45 = .ok (.aload_n 0, 1) := by decide +kernel
theorem dX10_aim_46 : decode cX10_aim 46 = .ok (.getfield 40, 3) := by decide +kernel
theorem dX10_aim_49 : decode cX10_aim 49 = .ok (.iload_n 1, 1) := by decide +kernel
theorem dX10_aim_50 : decode cX10_aim 50 = .ok (.invokevirtual 178, 3) := by decide +kernel
theorem dX10_aim_53 : decode cX10_aim 53 = .ok (.aload_n 0, 1) := by decide +kernel
theorem dX10_aim_54 : decode cX10_aim 54 = .ok (.getfield 54, 3) := by decide +kernel
theorem dX10_aim_57 : decode cX10_aim 57 = .ok (.getfield 182, 3) := by decide +kernel
theorem dX10_aim_60 : decode cX10_aim 60 = .ok (.aload_n 0, 1) := by decide +kernel
theorem dX10_aim_61 : decode cX10_aim 61 = .ok (.getfield 54, 3) := by decide +kernel
theorem dX10_aim_64 : decode cX10_aim 64 = .ok (.getfield 186, 3) := by decide +kernel
theorem dX10_aim_67 : decode cX10_aim 67 = .ok (.iload_n 2, 1) := by decide +kernel
theorem dX10_aim_68 : decode cX10_aim 68 = .ok (.invokestatic 169, 3) := by decide +kernel
theorem dX10_aim_71 : decode cX10_aim 71 = .ok (.lreturn, 1) := by decide +kernel
theorem dX10_which_0 : decode cX10_which 0 = .ok (.iload_n 1, 1) := by decide +kernel
theorem dX10_which_1 : decode cX10_which 1 = .ok (.iconst 1, 1) := by decide +kernel
theorem dX10_which_2 : decode cX10_which 2 = .ok (.iconst 4, 1) := by decide +kernel
theorem dX10_which_3 : decode cX10_which 3 = .ok (.invokestatic 79, 3) := by decide +kernel
theorem dX10_which_6 : decode cX10_which 6 = .ok (.ifCond .eq 6, 3) := by decide +kernel
theorem dX10_which_9 : decode cX10_which 9 = .ok (.bipush (-102), 2) := by decide +kernel
theorem dX10_which_11 : decode cX10_which 11 = .ok (.ireturn, 1) := by decide +kernel
theorem dX10_which_12 : decode cX10_which 12 = .ok (.aload_n 0, 1) := by decide +kernel
theorem dX10_which_13 : decode cX10_which 13 = .ok (.invokevirtual 173, 3) := by decide +kernel
theorem dX10_which_16 : decode cX10_which 16 = .ok (.ifCond .ne 6, 3) := by decide +kernel
theorem dX10_which_19 : decode cX10_which 19 = .ok (.bipush (-103), 2) := by decide +kernel
theorem dX10_which_21 : decode cX10_which 21 = .ok (.ireturn, 1) := by decide +kernel
theorem dX10_which_22 : decode cX10_which 22 = .ok (.aload_n 0, 1) := by decide +kernel
theorem dX10_which_23 : decode cX10_which 23 = .ok (.getfield 54, 3) := by decide +kernel
theorem dX10_which_26 : decode cX10_which 26 = .ok (.aload_n 0, 1) := by decide +kernel
theorem dX10_which_27 : decode cX10_which 27 = .ok (.getfield 19, 3) := by decide +kernel
theorem dX10_which_30 : decode cX10_which 30 = .ok (.aload_n 0, 1) := by decide +kernel
theorem dX10_which_31 : decode cX10_which 31 = .ok (.getfield 26, 3) := by decide +kernel
theorem dX10_which_34 : decode cX10_which 34 = .ok (.aload_n 0, 1) := by decide +kernel
theorem dX10_which_35 : decode cX10_which 35 = .ok (.getfield 40, 3) := by decide +kernel
theorem dX10_which_38 : decode cX10_which 38 = .ok (.iload_n 1, 1) := by decide +kernel
theorem dX10_which_39 : decode cX10_which 39 = .ok (.invokevirtual 178, 3) := by decide +kernel
theorem dX10_which_42 : decode cX10_which 42 = .ok (.aload_n 0, 1) := by decide +kernel
theorem dX10_which_43 : decode cX10_which 43 = .ok (.getfield 54, 3) := by decide +kernel
theorem dX10_which_46 : decode cX10_which 46 = .ok (.getfield 189, 3) := by decide +kernel
theorem dX10_which_49 : decode cX10_which 49 = .ok (.ireturn, 1) := by decide +kernel
theorem dX10_man_0 : decode cX10_man 0 = .ok (.iload_n 1, 1) := by decide +kernel
theorem dX10_man_1 : decode cX10_man 1 = .ok (.iconst 0, 1) := by decide +kernel
theorem dX10_man_2 : decode cX10_man 2 = .ok (.iconst 4, 1) := by decide +kernel
theorem dX10_man_3 : decode cX10_man 3 = .ok (.invokestatic 79, 3) := by decide +kernel
theorem dX10_man_6 : decode cX10_man 6 = .ok (.ifCond .ne 13, 3) := by decide +kernel
theorem dX10_man_9 : decode cX10_man 9 = .ok (.iload_n 2, 1) := by decide +kernel
theorem dX10_man_10 : decode cX10_man 10 = .ok (.iconst 1, 1) := by decide +kernel
theorem dX10_man_11 : decode cX10_man 11 = .ok (.bipush 30, 2) := by decide +kernel
theorem dX10_man_13 : decode cX10_man 13 = .ok (.invokestatic 79, 3) := by decide +kernel
theorem dX10_man_16 : decode cX10_man 16 = .ok (.ifCond .eq 6, 3) := by decide +kernel
theorem dX10_man_19 : decode cX10_man 19 = .ok (.bipush (-102), 2) := by decide +kernel
theorem dX10_man_21 : decode cX10_man 21 = .ok (.ireturn, 1) := by decide +kernel
theorem dX10_man_22 : decode cX10_man 22 = .ok (.aload_n 0, 1) := by decide +kernel
theorem dX10_man_23 : decode cX10_man 23 = .ok (.invokevirtual 115, 3) := by decide +kernel
theorem dX10_man_26 : decode cX10_man 26 = .ok (.ifCond .ne 6, 3) := by decide +kernel
theorem dX10_man_29 : decode cX10_man 29 = .ok (.bipush (-103), 2) := by decide +kernel
theorem dX10_man_31 : decode cX10_man 31 = .ok (.ireturn, 1) := by decide +kernel
theorem dX10_man_32 : decode cX10_man 32 = .ok (.aload_n 0, 1) := by decide +kernel
theorem dX10_man_33 : decode cX10_man 33 = .ok (.getfield 33, 3) := by decide +kernel
theorem dX10_man_36 : decode cX10_man 36 = .ok (.getfield 192, 3) := by decide +kernel
theorem dX10_man_39 : decode cX10_man 39 = .ok (.bipush 6, 2) := by decide +kernel
theorem dX10_man_41 : decode cX10_man 41 = .ok (.if_icmp .lt 6, 3) := by decide +kernel
theorem dX10_man_44 : decode cX10_man 44 = .ok (.bipush (-104), 2) := by decide +kernel
theorem dX10_man_46 : decode cX10_man 46 = .ok (.ireturn, 1) := by decide +kernel
theorem dX10_man_47 : decode cX10_man 47 = .ok (.aload_n 0, 1) := by decide +kernel
theorem dX10_man_48 : decode cX10_man 48 = .ok (.getfield 33, 3) := by decide +kernel
theorem dX10_man_51 : decode cX10_man 51 = .ok (.iload_n 1, 1) := by decide +kernel
theorem dX10_man_52 : decode cX10_man 52 = .ok (.iload_n 2, 1) := by decide +kernel
theorem dX10_man_53 : decode cX10_man 53 = .ok (.invokevirtual 193, 3) := by decide +kernel
theorem dX10_man_56 : decode cX10_man 56 = .ok (.ireturn, 1) := by decide +kernel
theorem dX10_about_0 : decode cX10_about 0 = .ok (.aload_n 0, 1) := by decide +kernel
theorem dX10_about_1 : decode cX10_about 1 = .ok (.getfield 33, 3) := by decide +kernel
theorem dX10_about_4 : decode cX10_about 4 = .ok (.iload_n 1, 1) := by decide +kernel
theorem dX10_about_5 : decode cX10_about 5 = .ok (.invokevirtual 194, 3) := by decide +kernel
theorem dX10_about_8 : decode cX10_about 8 = .ok (.ifCond .ne 6, 3) := by decide +kernel
theorem dX10_about_11 : decode cX10_about 11 = .ok (.bipush (-101), 2) := by decide +kernel
theorem dX10_about_13 : decode cX10_about 13 = .ok (.ireturn, 1) := by decide +kernel
theorem dX10_about_14 : decode cX10_about 14 = .ok (.iload_n 2, 1) := by decide +kernel
theorem dX10_about_15 : decode cX10_about 15 = .ok (.tableswitch 141 0 6 #[41, 50, 59, 82, 108, 123, 132], 41) := by decide +kernel
theorem dX10_about_56 : decode cX10_about 56 = .ok (.aload_n 0, 1) := by decide +kernel
theorem dX10_about_57 : decode cX10_about 57 = .ok (.getfield 33, 3) := by decide +kernel
theorem dX10_about_60 : decode cX10_about 60 = .ok (.iload_n 1, 1) := by decide +kernel
theorem dX10_about_61 : decode cX10_about 61 = .ok (.invokevirtual 195, 3) := by decide +kernel
theorem dX10_about_64 : decode cX10_about 64 = .ok (.ireturn, 1) := by decide +kernel
theorem dX10_about_65 : decode cX10_about 65 = .ok (.aload_n 0, 1) := by decide +kernel
theorem dX10_about_66 : decode cX10_about 66 = .ok (.getfield 33, 3) := by decide +kernel
theorem dX10_about_69 : decode cX10_about 69 = .ok (.iload_n 1, 1) := by decide +kernel
theorem dX10_about_70 : decode cX10_about 70 = .ok (.invokevirtual 198, 3) := by decide +kernel
theorem dX10_about_73 : decode cX10_about 73 = .ok (.ireturn, 1) := by decide +kernel
theorem dX10_about_74 : decode cX10_about 74 = .ok (.aload_n 0, 1) := by decide +kernel
theorem dX10_about_75 : decode cX10_about 75 = .ok (.getfield 33, 3) := by decide +kernel
theorem dX10_about_78 : decode cX10_about 78 = .ok (.iload_n 1, 1) := by decide +kernel
theorem dX10_about_79 : decode cX10_about 79 = .ok (.aload_n 0, 1) := by decide +kernel
theorem dX10_about_80 : decode cX10_about 80 = .ok (.getfield 19, 3) := by decide +kernel
theorem dX10_about_83 : decode cX10_about 83 = .ok (.getfield 201, 3) := by decide +kernel
theorem dX10_about_86 : decode cX10_about 86 = .ok (.aload_n 0, 1) := by decide +kernel
theorem dX10_about_87 : decode cX10_about 87 = .ok (.getfield 40, 3) := by decide +kernel
theorem dX10_about_90 : decode cX10_about 90 = .ok (.getfield 204, 3) := by decide +kernel
theorem dX10_about_93 : decode cX10_about 93 = .ok (.invokevirtual 207, 3) := by decide +kernel
theorem dX10_about_96 : decode cX10_about 96 = .ok (.ireturn, 1) := by decide +kernel
theorem dX10_about_97 : decode cX10_about 97 = .ok (.aload_n 0, 1) := by decide +kernel
theorem dX10_about_98 : decode cX10_about 98 = .ok (.getfield 33, 3) := by decide +kernel
theorem dX10_about_101 : decode cX10_about 101 = .ok (.iload_n 1, 1) := by decide +kernel
theorem dX10_about_102 : decode cX10_about 102 = .ok (.aload_n 0, 1) := by decide +kernel
theorem dX10_about_103 : decode cX10_about 103 = .ok (.getfield 19, 3) := by decide +kernel
theorem dX10_about_106 : decode cX10_about 106 = .ok (.getfield 201, 3) := by decide +kernel
theorem dX10_about_109 : decode cX10_about 109 = .ok (.aload_n 0, 1) := by decide +kernel
theorem dX10_about_110 : decode cX10_about 110 = .ok (.getfield 40, 3) := by decide +kernel
theorem dX10_about_113 : decode cX10_about 113 = .ok (.getfield 204, 3) := by decide +kernel
theorem dX10_about_116 : decode cX10_about 116 = .ok (.invokevirtual 211, 3) := by decide +kernel
theorem dX10_about_119 : decode cX10_about 119 = .ok (.invokestatic 214, 3) := by decide +kernel
theorem dX10_about_122 : decode cX10_about 122 = .ok (.ireturn, 1) := by decide +kernel
theorem dX10_about_123 : decode cX10_about 123 = .ok (.aload_n 0, 1) := by decide +kernel
theorem dX10_about_124 : decode cX10_about 124 = .ok (.getfield 40, 3) := by decide +kernel
theorem dX10_about_127 : decode cX10_about 127 = .ok (.getfield 218, 3) := by decide +kernel
theorem dX10_about_130 : decode cX10_about 130 = .ok (.iload_n 1, 1) := by decide +kernel
theorem dX10_about_131 : decode cX10_about 131 = .ok (.invokestatic 135, 3) := by decide +kernel
theorem dX10_about_134 : decode cX10_about 134 = .ok (.invokestatic 214, 3) := by decide +kernel
theorem dX10_about_137 : decode cX10_about 137 = .ok (.ireturn, 1) := by decide +kernel
theorem dX10_about_138 : decode cX10_about 138 = .ok (.aload_n 0, 1) := by decide +kernel
theorem dX10_about_139 : decode cX10_about 139 = .ok (.getfield 40, 3) := by decide +kernel
theorem dX10_about_142 : decode cX10_about 142 = .ok (.iload_n 1, 1) := by decide +kernel
theorem dX10_about_143 : decode cX10_about 143 = .ok (.invokevirtual 221, 3) := by decide +kernel
theorem dX10_about_146 : decode cX10_about 146 = .ok (.ireturn, 1) := by decide +kernel
theorem dX10_about_147 : decode cX10_about 147 = .ok (.aload_n 0, 1) := by decide +kernel
theorem dX10_about_148 : decode cX10_about 148 = .ok (.iload_n 1, 1) := by decide +kernel
theorem dX10_about_149 : decode cX10_about 149 = .ok (.invokevirtual 224, 3) := by decide +kernel
theorem dX10_about_152 : decode cX10_about 152 = .ok (.invokestatic 214, 3) := by decide +kernel
theorem dX10_about_155 : decode cX10_about 155 = .ok (.ireturn, 1) := by decide +kernel
theorem dX10_about_156 : decode cX10_about 156 = .ok (.bipush (-102), 2) := by decide +kernel
theorem dX10_about_158 : decode cX10_about 158 = .ok (.ireturn, 1) := by decide +kernel
theorem dX10_as_0 : decode cX10_as 0 = .ok (.aload_n 0, 1) := by decide +kernel
theorem dX10_as_1 : decode cX10_as 1 = .ok (.getfield 33, 3) := by decide +kernel
theorem dX10_as_4 : decode cX10_as 4 = .ok (.iload_n 1, 1) := by decide +kernel
theorem dX10_as_5 : decode cX10_as 5 = .ok (.invokevirtual 194, 3) := by decide +kernel
theorem dX10_as_8 : decode cX10_as 8 = .ok (.ifCond .ne 6, 3) := by decide +kernel
theorem dX10_as_11 : decode cX10_as 11 = .ok (.bipush (-101), 2) := by decide +kernel
theorem dX10_as_13 : decode cX10_as 13 = .ok (.ireturn, 1) := by decide +kernel
theorem dX10_as_14 : decode cX10_as 14 = .ok (.iload_n 2, 1) := by decide +kernel
theorem dX10_as_15 : decode cX10_as 15 = .ok (.iconst 0, 1) := by decide +kernel
theorem dX10_as_16 : decode cX10_as 16 = .ok (.iconst 4, 1) := by decide +kernel
theorem dX10_as_17 : decode cX10_as 17 = .ok (.invokestatic 79, 3) := by decide +kernel
theorem dX10_as_20 : decode cX10_as 20 = .ok (.ifCond .eq 6, 3) := by decide +kernel
theorem dX10_as_23 : decode cX10_as 23 = .ok (.bipush (-102), 2) := by decide +kernel
theorem dX10_as_25 : decode cX10_as 25 = .ok (.ireturn, 1) := by decide +kernel
theorem dX10_as_26 : decode cX10_as 26 = .ok (.aload_n 0, 1) := by decide +kernel
theorem dX10_as_27 : decode cX10_as 27 = .ok (.getfield 33, 3) := by decide +kernel
theorem dX10_as_30 : decode cX10_as 30 = .ok (.iload_n 1, 1) := by decide +kernel
theorem dX10_as_31 : decode cX10_as 31 = .ok (.iload_n 2, 1) := by decide +kernel
theorem dX10_as_32 : decode cX10_as 32 = .ok (.invokevirtual 227, 3) := by decide +kernel
theorem dX10_as_35 : decode cX10_as 35 = .ok (.ifCond .eq 7, 3) := by decide +kernel
theorem dX10_as_38 : decode cX10_as 38 = .ok (.iload_n 1, 1) := by decide +kernel
theorem dX10_as_39 : decode cX10_as 39 = .ok (.goto 4, 3) := by decide +kernel
theorem dX10_as_42 : decode cX10_as 42 = .ok (.iconst (-1), 1) := by decide +kernel
theorem dX10_as_43 : decode cX10_as 43 = .ok (.ireturn, 1) := by decide +kernel
theorem dX10_behind_0 : decode cX10_behind 0 = .ok (.aload_n 0, 1) := by decide +kernel
theorem dX10_behind_1 : decode cX10_behind 1 = .ok (.iload_n 1, 1) := by decide +kernel
theorem dX10_behind_2 : decode cX10_behind 2 = .ok (.iload_n 2, 1) := by decide +kernel
theorem dX10_behind_3 : decode cX10_behind 3 = .ok (.invokevirtual 230, 3) := by decide +kernel
theorem dX10_behind_6 : decode cX10_behind 6 = .ok (.ifCond .ne 6, 3) := by decide +kernel
theorem dX10_behind_9 : decode cX10_behind 9 = .ok (.bipush (-101), 2) := by decide +kernel
theorem dX10_behind_11 : decode cX10_behind 11 = .ok (.ireturn, 1) := by decide +kernel
theorem dX10_behind_12 : decode cX10_behind 12 = .ok (.aload_n 0, 1) := by decide +kernel
theorem dX10_behind_13 : decode cX10_behind 13 = .ok (.getfield 33, 3) := by decide +kernel
theorem dX10_behind_16 : decode cX10_behind 16 = .ok (.iload_n 1, 1) := by decide +kernel
theorem dX10_behind_17 : decode cX10_behind 17 = .ok (.iload_n 2, 1) := by decide +kernel
theorem dX10_behind_18 : decode cX10_behind 18 = .ok (.iload_n 3, 1) := by decide +kernel
theorem dX10_behind_19 : decode cX10_behind 19 = .ok (.invokevirtual 233, 3) := by decide +kernel
theorem dX10_behind_22 : decode cX10_behind 22 = .ok (.invokestatic 214, 3) := by decide +kernel
theorem dX10_behind_25 : decode cX10_behind 25 = .ok (.ireturn, 1) := by decide +kernel
theorem dX10_hawser_0 : decode cX10_hawser 0 = .ok (.iload_n 1, 1) := by decide +kernel
theorem dX10_hawser_1 : decode cX10_hawser 1 = .ok (.iconst 0, 1) := by decide +kernel
theorem dX10_hawser_2 : decode cX10_hawser 2 = .ok (.bipush 60, 2) := by decide +kernel
theorem dX10_hawser_4 : decode cX10_hawser 4 = .ok (.invokestatic 79, 3) := by decide +kernel
theorem dX10_hawser_7 : decode cX10_hawser 7 = .ok (.ifCond .eq 6, 3) := by decide +kernel
theorem dX10_hawser_10 : decode cX10_hawser 10 = .ok (.bipush (-102), 2) := by decide +kernel
theorem dX10_hawser_12 : decode cX10_hawser 12 = .ok (.ireturn, 1) := by decide +kernel
theorem dX10_hawser_13 : decode cX10_hawser 13 = .ok (.aload_n 0, 1) := by decide +kernel
theorem dX10_hawser_14 : decode cX10_hawser 14 = .ok (.invokevirtual 115, 3) := by decide +kernel
theorem dX10_hawser_17 : decode cX10_hawser 17 = .ok (.ifCond .ne 6, 3) := by decide +kernel
theorem dX10_hawser_20 : decode cX10_hawser 20 = .ok (.bipush (-103), 2) := by decide +kernel
theorem dX10_hawser_22 : decode cX10_hawser 22 = .ok (.ireturn, 1) := by decide +kernel
theorem dX10_hawser_23 : decode cX10_hawser 23 = .ok (.aload_n 0, 1) := by decide +kernel
theorem dX10_hawser_24 : decode cX10_hawser 24 = .ok (.getfield 40, 3) := by decide +kernel
theorem dX10_hawser_27 : decode cX10_hawser 27 = .ok (.getfield 204, 3) := by decide +kernel
theorem dX10_hawser_30 : decode cX10_hawser 30 = .ok (.istore_n 2, 1) := by decide +kernel
theorem dX10_hawser_31 : decode cX10_hawser 31 = .ok (.aload_n 0, 1) := by decide +kernel
theorem dX10_hawser_32 : decode cX10_hawser 32 = .ok (.getfield 40, 3) := by decide +kernel
theorem dX10_hawser_35 : decode cX10_hawser 35 = .ok (.iload_n 1, 1) := by decide +kernel
theorem dX10_hawser_36 : decode cX10_hawser 36 = .ok (.putfield 204, 3) := by decide +kernel
theorem dX10_hawser_39 : decode cX10_hawser 39 = .ok (.iload_n 2, 1) := by decide +kernel
theorem dX10_hawser_40 : decode cX10_hawser 40 = .ok (.ireturn, 1) := by decide +kernel
theorem dX10_come_0 : decode cX10_come 0 = .ok (.aload_n 0, 1) := by decide +kernel
theorem dX10_come_1 : decode cX10_come 1 = .ok (.getfield 33, 3) := by decide +kernel
theorem dX10_come_4 : decode cX10_come 4 = .ok (.iload_n 1, 1) := by decide +kernel
theorem dX10_come_5 : decode cX10_come 5 = .ok (.invokevirtual 194, 3) := by decide +kernel
theorem dX10_come_8 : decode cX10_come 8 = .ok (.ifCond .ne 6, 3) := by decide +kernel
theorem dX10_come_11 : decode cX10_come 11 = .ok (.bipush (-101), 2) := by decide +kernel
theorem dX10_come_13 : decode cX10_come 13 = .ok (.ireturn, 1) := by decide +kernel
theorem dX10_come_14 : decode cX10_come 14 = .ok (.aload_n 0, 1) := by decide +kernel
theorem dX10_come_15 : decode cX10_come 15 = .ok (.iload_n 1, 1) := by decide +kernel
theorem dX10_come_16 : decode cX10_come 16 = .ok (.invokevirtual 224, 3) := by decide +kernel
theorem dX10_come_19 : decode cX10_come 19 = .ok (.ifCond .ne 6, 3) := by decide +kernel
theorem dX10_come_22 : decode cX10_come 22 = .ok (.bipush (-103), 2) := by decide +kernel
theorem dX10_come_24 : decode cX10_come 24 = .ok (.ireturn, 1) := by decide +kernel
theorem dX10_come_25 : decode cX10_come 25 = .ok (.aload_n 0, 1) := by decide +kernel
theorem dX10_come_26 : decode cX10_come 26 = .ok (.getfield 40, 3) := by decide +kernel
theorem dX10_come_29 : decode cX10_come 29 = .ok (.iload_n 1, 1) := by decide +kernel
theorem dX10_come_30 : decode cX10_come 30 = .ok (.aload_n 0, 1) := by decide +kernel
theorem dX10_come_31 : decode cX10_come 31 = .ok (.getfield 33, 3) := by decide +kernel
theorem dX10_come_34 : decode cX10_come 34 = .ok (.iload_n 1, 1) := by decide +kernel
theorem dX10_come_35 : decode cX10_come 35 = .ok (.aload_n 0, 1) := by decide +kernel
theorem dX10_come_36 : decode cX10_come 36 = .ok (.getfield 19, 3) := by decide +kernel
theorem dX10_come_39 : decode cX10_come 39 = .ok (.getfield 201, 3) := by decide +kernel
theorem dX10_come_42 : decode cX10_come 42 = .ok (.aload_n 0, 1) := by decide +kernel
theorem dX10_come_43 : decode cX10_come 43 = .ok (.getfield 40, 3) := by decide +kernel
theorem dX10_come_46 : decode cX10_come 46 = .ok (.getfield 204, 3) := by decide +kernel
theorem dX10_come_49 : decode cX10_come 49 = .ok (.invokevirtual 207, 3) := by decide +kernel
theorem dX10_come_52 : decode cX10_come 52 = .ok (.invokevirtual 237, 3) := by decide +kernel
theorem dX10_come_55 : decode cX10_come 55 = .ok (.aload_n 0, 1) := by decide +kernel
theorem dX10_come_56 : decode cX10_come 56 = .ok (.getfield 40, 3) := by decide +kernel
theorem dX10_come_59 : decode cX10_come 59 = .ok (.getfield 241, 3) := by decide +kernel
theorem dX10_come_62 : decode cX10_come 62 = .ok (.ireturn, 1) := by decide +kernel
theorem dX10_minutes_0 : decode cX10_minutes 0 = .ok (.iload_n 1, 1) := by decide +kernel
theorem dX10_minutes_1 : decode cX10_minutes 1 = .ok (.iconst 1, 1) := by decide +kernel
theorem dX10_minutes_2 : decode cX10_minutes 2 = .ok (.bipush 50, 2) := by decide +kernel
theorem dX10_minutes_4 : decode cX10_minutes 4 = .ok (.invokestatic 79, 3) := by decide +kernel
theorem dX10_minutes_7 : decode cX10_minutes 7 = .ok (.ifCond .eq 6, 3) := by decide +kernel
theorem dX10_minutes_10 : decode cX10_minutes 10 = .ok (.bipush (-102), 2) := by decide +kernel
theorem dX10_minutes_12 : decode cX10_minutes 12 = .ok (.ireturn, 1) := by decide +kernel
theorem dX10_minutes_13 : decode cX10_minutes 13 = .ok (.aload_n 0, 1) := by decide +kernel
theorem dX10_minutes_14 : decode cX10_minutes 14 = .ok (.invokevirtual 244, 3) := by decide +kernel
theorem dX10_minutes_17 : decode cX10_minutes 17 = .ok (.ifCond .eq 22, 3) := by decide +kernel
theorem dX10_minutes_20 : decode cX10_minutes 20 = .ok (.aload_n 0, 1) := by decide +kernel
theorem dX10_minutes_21 : decode cX10_minutes 21 = .ok (.getfield 40, 3) := by decide +kernel
theorem dX10_minutes_24 : decode cX10_minutes 24 = .ok (.getfield 241, 3) := by decide +kernel
theorem dX10_minutes_27 : decode cX10_minutes 27 = .ok (.iload_n 1, 1) := by decide +kernel
theorem dX10_minutes_28 : decode cX10_minutes 28 = .ok (.iadd, 1) := by decide +kernel
theorem dX10_minutes_29 : decode cX10_minutes 29 = .ok (.aload_n 0, 1) := by decide +kernel
theorem dX10_minutes_30 : decode cX10_minutes 30 = .ok (.getfield 19, 3) := by decide +kernel
theorem dX10_minutes_33 : decode cX10_minutes 33 = .ok (.invokevirtual 247, 3) := by decide +kernel
theorem dX10_minutes_36 : decode cX10_minutes 36 = .ok (.if_icmp .lt 6, 3) := by decide +kernel
theorem dX10_minutes_39 : decode cX10_minutes 39 = .ok (.bipush (-103), 2) := by decide +kernel
theorem dX10_minutes_41 : decode cX10_minutes 41 = .ok (.ireturn, 1) := by decide +kernel
theorem dX10_minutes_42 : decode cX10_minutes 42 = .ok (.aload_n 0, 1) := by decide +kernel
theorem dX10_minutes_43 : decode cX10_minutes 43 = .ok (.getfield 40, 3) := by decide +kernel
theorem dX10_minutes_46 : decode cX10_minutes 46 = .ok (.dup, 1) := by decide +kernel
theorem dX10_minutes_47 : decode cX10_minutes 47 = .ok (.getfield 241, 3) := by decide +kernel
theorem dX10_minutes_50 : decode cX10_minutes 50 = .ok (.iload_n 1, 1) := by decide +kernel
theorem dX10_minutes_51 : decode cX10_minutes 51 = .ok (.iadd, 1) := by decide +kernel
theorem dX10_minutes_52 : decode cX10_minutes 52 = .ok (.putfield 241, 3) := by decide +kernel
theorem dX10_minutes_55 : decode cX10_minutes 55 = .ok (.aload_n 0, 1) := by decide +kernel
theorem dX10_minutes_56 : decode cX10_minutes 56 = .ok (.getfield 40, 3) := by decide +kernel
theorem dX10_minutes_59 : decode cX10_minutes 59 = .ok (.getfield 241, 3) := by decide +kernel
theorem dX10_minutes_62 : decode cX10_minutes 62 = .ok (.ireturn, 1) := by decide +kernel
theorem dX10_breaks_0 : decode cX10_breaks 0 = .ok (.aload_n 0, 1) := by decide +kernel
theorem dX10_breaks_1 : decode cX10_breaks 1 = .ok (.invokevirtual 244, 3) := by decide +kernel
theorem dX10_breaks_4 : decode cX10_breaks 4 = .ok (.ifCond .ne 6, 3) := by decide +kernel
theorem dX10_breaks_7 : decode cX10_breaks 7 = .ok (.bipush (-103), 2) := by decide +kernel
theorem dX10_breaks_9 : decode cX10_breaks 9 = .ok (.ireturn, 1) := by decide +kernel
theorem dX10_breaks_10 : decode cX10_breaks 10 = .ok (.aload_n 0, 1) := by decide +kernel
theorem dX10_breaks_11 : decode cX10_breaks 11 = .ok (.getfield 40, 3) := by decide +kernel
theorem dX10_breaks_14 : decode cX10_breaks 14 = .ok (.iconst 1, 1) := by decide +kernel
theorem dX10_breaks_15 : decode cX10_breaks 15 = .ok (.putfield 139, 3) := by decide +kernel
theorem dX10_breaks_18 : decode cX10_breaks 18 = .ok (.aload_n 0, 1) := by decide +kernel
theorem dX10_breaks_19 : decode cX10_breaks 19 = .ok (.getfield 33, 3) := by decide +kernel
theorem dX10_breaks_22 : decode cX10_breaks 22 = .ok (.getfield 192, 3) := by decide +kernel
theorem dX10_breaks_25 : decode cX10_breaks 25 = .ok (.aload_n 0, 1) := by decide +kernel
theorem dX10_breaks_26 : decode cX10_breaks 26 = .ok (.getfield 40, 3) := by decide +kernel
theorem dX10_breaks_29 : decode cX10_breaks 29 = .ok (.getfield 218, 3) := by decide +kernel
theorem dX10_breaks_32 : decode cX10_breaks 32 = .ok (.invokestatic 250, 3) := by decide +kernel
theorem dX10_breaks_35 : decode cX10_breaks 35 = .ok (.isub, 1) := by decide +kernel
theorem dX10_breaks_36 : decode cX10_breaks 36 = .ok (.ireturn, 1) := by decide +kernel
theorem dX10_order_0 : decode cX10_order 0 = .ok (.iload_n 1, 1) := by decide +kernel
theorem dX10_order_1 : decode cX10_order 1 = .ok (.iconst 0, 1) := by decide +kernel
theorem dX10_order_2 : decode cX10_order 2 = .ok (.iconst 1, 1) := by decide +kernel
theorem dX10_order_3 : decode cX10_order 3 = .ok (.invokestatic 79, 3) := by decide +kernel
theorem dX10_order_6 : decode cX10_order 6 = .ok (.ifCond .eq 18, 3) := by decide +kernel
theorem dX10_order_9 : decode cX10_order 9 = .ok (.iload_n 1, 1) := by decide +kernel
theorem dX10_order_10 : decode cX10_order 10 = .ok (.bipush 10, 2) := by decide +kernel
theorem dX10_order_12 : decode cX10_order 12 = .ok (.bipush 15, 2) := by decide +kernel
theorem dX10_order_14 : decode cX10_order 14 = .ok (.invokestatic 79, 3) := by decide +kernel
theorem dX10_order_17 : decode cX10_order 17 = .ok (.ifCond .eq 7, 3) := by decide +kernel
theorem dX10_order_20 : decode cX10_order 20 = .ok (.ldc2_w 161, 3) := by decide +kernel
theorem dX10_order_23 : decode cX10_order 23 = .ok (.lreturn, 1) := by decide +kernel
theorem dX10_order_24 : decode cX10_order 24 = .ok (.aload_n 0, 1) := by decide +kernel
theorem dX10_order_25 : decode cX10_order 25 = .ok (.invokevirtual 244, 3) := by decide +kernel
theorem dX10_order_28 : decode cX10_order 28 = .ok (.ifCond .eq 12, 3) := by decide +kernel
theorem dX10_order_31 : decode cX10_order 31 = .ok (.aload_n 0, 1) := by decide +kernel
theorem dX10_order_32 : decode cX10_order 32 = .ok (.getfield 255, 3) := by decide +kernel
theorem dX10_order_35 : decode cX10_order 35 = .ok (.bipush 30, 2) := by decide +kernel
theorem dX10_order_37 : decode cX10_order 37 = .ok (.if_icmp .lt 7, 3) := by decide +kernel
theorem dX10_order_40 : decode cX10_order 40 = .ok (.ldc2_w 176, 3) := by decide +kernel
theorem dX10_order_43 : decode cX10_order 43 = .ok (.lreturn, 1) := by decide +kernel
theorem dX10_order_44 : decode cX10_order 44 = .ok (.aload_n 0, 1) := by decide +kernel
theorem dX10_order_45 : decode cX10_order 45 = .ok (.dup, 1) := by decide +kernel
theorem dX10_order_46 : decode cX10_order 46 = .ok (.getfield 255, 3) := by decide +kernel
theorem dX10_order_49 : decode cX10_order 49 = .ok (.iconst 1, 1) := by decide +kernel
theorem dX10_order_50 : decode cX10_order 50 = .ok (.iadd, 1) := by decide +kernel
theorem dX10_order_51 : decode cX10_order 51 = .ok (.putfield 255, 3) := by decide +kernel
theorem dX10_order_54 : decode cX10_order 54 = .ok (.aload_n 0, 1) := by decide +kernel
theorem dX10_order_55 : decode cX10_order 55 = .ok (.getfield 61, 3) := by decide +kernel
theorem dX10_order_58 : decode cX10_order 58 = .ok (.aload_n 0, 1) := by decide +kernel
theorem dX10_order_59 : decode cX10_order 59 = .ok (.getfield 19, 3) := by decide +kernel
theorem dX10_order_62 : decode cX10_order 62 = .ok (.aload_n 0, 1) := by decide +kernel
theorem dX10_order_63 : decode cX10_order 63 = .ok (.getfield 33, 3) := by decide +kernel
theorem dX10_order_66 : decode cX10_order 66 = .ok (.aload_n 0, 1) := by decide +kernel
theorem dX10_order_67 : decode cX10_order 67 = .ok (.getfield 40, 3) := by decide +kernel
theorem dX10_order_70 : decode cX10_order 70 = .ok (.invokevirtual 258, 3) := by decide +kernel
theorem dX10_order_73 : decode cX10_order 73 = .ok (.iload_n 1, 1) := by decide +kernel
theorem dX10_order_74 : decode cX10_order 74 = .ok (.bipush 10, 2) := by decide +kernel
theorem dX10_order_76 : decode cX10_order 76 = .ok (.if_icmp .lt 16, 3) := by decide +kernel
theorem dX10_order_79 : decode cX10_order 79 = .ok (.aload_n 0, 1) := by decide +kernel
theorem dX10_order_80 : decode cX10_order 80 = .ok (.getfield 61, 3) := by decide +kernel
theorem dX10_order_83 : decode cX10_order 83 = .ok (.iload_n 1, 1) := by decide +kernel
theorem dX10_order_84 : decode cX10_order 84 = .ok (.bipush 10, 2) := by decide +kernel
theorem dX10_order_86 : decode cX10_order 86 = .ok (.isub, 1) := by decide +kernel
theorem dX10_order_87 : decode cX10_order 87 = .ok (.invokevirtual 261, 3) := by decide +kernel
theorem dX10_order_90 : decode cX10_order 90 = .ok (.i2l, 1) := by decide +kernel
theorem dX10_order_91 : decode cX10_order 91 = .ok (.lreturn, 1) := by decide +kernel
theorem dX10_order_92 : decode cX10_order 92 = .ok (.aload_n 0, 1) := by decide +kernel
theorem dX10_order_93 : decode cX10_order 93 = .ok (.getfield 61, 3) := by decide +kernel
theorem dX10_order_96 : decode cX10_order 96 = .ok (.invokevirtual 264, 3) := by decide +kernel
theorem dX10_order_99 : decode cX10_order 99 = .ok (.ifCond .ne 15, 3) := by decide +kernel
theorem dX10_order_102 : decode cX10_order 102 = .ok (.iload_n 1, 1) := by decide +kernel
theorem dX10_order_103 : decode cX10_order 103 = .ok (.ifCond .ne 9, 3) := by decide +kernel
theorem dX10_order_106 : decode cX10_order 106 = .ok (.ldc2_w 267, 3) := by decide +kernel
theorem dX10_order_109 : decode cX10_order 109 = .ok (.goto 4, 3) := by decide +kernel
theorem dX10_order_112 : decode cX10_order 112 = .ok (.lconst 1, 1) := by decide +kernel
theorem dX10_order_113 : decode cX10_order 113 = .ok (.lreturn, 1) := by decide +kernel
theorem dX10_order_114 : decode cX10_order 114 = .ok (.aload_n 0, 1) := by decide +kernel
theorem dX10_order_115 : decode cX10_order 115 = .ok (.getfield 61, 3) := by decide +kernel
theorem dX10_order_118 : decode cX10_order 118 = .ok (.invokevirtual 269, 3) := by decide +kernel
theorem dX10_order_121 : decode cX10_order 121 = .ok (.ldc2_w 273, 3) := by decide +kernel
theorem dX10_order_124 : decode cX10_order 124 = .ok (.iload_n 1, 1) := by decide +kernel
theorem dX10_order_125 : decode cX10_order 125 = .ok (.invokestatic 169, 3) := by decide +kernel
theorem dX10_order_128 : decode cX10_order 128 = .ok (.lreturn, 1) := by decide +kernel
theorem dX10_said_0 : decode cX10_said 0 = .ok (.aload_n 0, 1) := by decide +kernel
theorem dX10_said_1 : decode cX10_said 1 = .ok (.iload_n 1, 1) := by decide +kernel
theorem dX10_said_2 : decode cX10_said 2 = .ok (.iload_n 2, 1) := by decide +kernel
theorem dX10_said_3 : decode cX10_said 3 = .ok (.invokevirtual 230, 3) := by decide +kernel
theorem dX10_said_6 : decode cX10_said 6 = .ok (.ifCond .ne 6, 3) := by decide +kernel
theorem dX10_said_9 : decode cX10_said 9 = .ok (.bipush (-101), 2) := by decide +kernel
theorem dX10_said_11 : decode cX10_said 11 = .ok (.ireturn, 1) := by decide +kernel
theorem dX10_said_12 : decode cX10_said 12 = .ok (.aload_n 0, 1) := by decide +kernel
theorem dX10_said_13 : decode cX10_said 13 = .ok (.getfield 40, 3) := by decide +kernel
theorem dX10_said_16 : decode cX10_said 16 = .ok (.getfield 275, 3) := by decide +kernel
theorem dX10_said_19 : decode cX10_said 19 = .ok (.bipush 15, 2) := by decide +kernel
theorem dX10_said_21 : decode cX10_said 21 = .ok (.if_icmp .lt 6, 3) := by decide +kernel
theorem dX10_said_24 : decode cX10_said 24 = .ok (.bipush (-104), 2) := by decide +kernel
theorem dX10_said_26 : decode cX10_said 26 = .ok (.ireturn, 1) := by decide +kernel
theorem dX10_said_27 : decode cX10_said 27 = .ok (.aload_n 0, 1) := by decide +kernel
theorem dX10_said_28 : decode cX10_said 28 = .ok (.getfield 40, 3) := by decide +kernel
theorem dX10_said_31 : decode cX10_said 31 = .ok (.iload_n 1, 1) := by decide +kernel
theorem dX10_said_32 : decode cX10_said 32 = .ok (.iload_n 2, 1) := by decide +kernel
theorem dX10_said_33 : decode cX10_said 33 = .ok (.invokevirtual 278, 3) := by decide +kernel
theorem dX10_said_36 : decode cX10_said 36 = .ok (.aload_n 0, 1) := by decide +kernel
theorem dX10_said_37 : decode cX10_said 37 = .ok (.getfield 40, 3) := by decide +kernel
theorem dX10_said_40 : decode cX10_said 40 = .ok (.getfield 275, 3) := by decide +kernel
theorem dX10_said_43 : decode cX10_said 43 = .ok (.ireturn, 1) := by decide +kernel
theorem dX10_orders_0 : decode cX10_orders 0 = .ok (.aload_n 0, 1) := by decide +kernel
theorem dX10_orders_1 : decode cX10_orders 1 = .ok (.getfield 68, 3) := by decide +kernel
theorem dX10_orders_4 : decode cX10_orders 4 = .ok (.aload_n 0, 1) := by decide +kernel
theorem dX10_orders_5 : decode cX10_orders 5 = .ok (.getfield 33, 3) := by decide +kernel
theorem dX10_orders_8 : decode cX10_orders 8 = .ok (.aload_n 0, 1) := by decide +kernel
theorem dX10_orders_9 : decode cX10_orders 9 = .ok (.getfield 40, 3) := by decide +kernel
theorem dX10_orders_12 : decode cX10_orders 12 = .ok (.invokevirtual 281, 3) := by decide +kernel
theorem dX10_orders_15 : decode cX10_orders 15 = .ok (.aload_n 0, 1) := by decide +kernel
theorem dX10_orders_16 : decode cX10_orders 16 = .ok (.getfield 68, 3) := by decide +kernel
theorem dX10_orders_19 : decode cX10_orders 19 = .ok (.invokevirtual 284, 3) := by decide +kernel
theorem dX10_orders_22 : decode cX10_orders 22 = .ok (.ireturn, 1) := by decide +kernel
theorem dX10_sure_0 : decode cX10_sure 0 = .ok (.aload_n 0, 1) := by decide +kernel
theorem dX10_sure_1 : decode cX10_sure 1 = .ok (.getfield 33, 3) := by decide +kernel
theorem dX10_sure_4 : decode cX10_sure 4 = .ok (.iload_n 1, 1) := by decide +kernel
theorem dX10_sure_5 : decode cX10_sure 5 = .ok (.invokevirtual 194, 3) := by decide +kernel
theorem dX10_sure_8 : decode cX10_sure 8 = .ok (.ifCond .ne 6, 3) := by decide +kernel
theorem dX10_sure_11 : decode cX10_sure 11 = .ok (.bipush (-101), 2) := by decide +kernel
theorem dX10_sure_13 : decode cX10_sure 13 = .ok (.ireturn, 1) := by decide +kernel
theorem dX10_sure_14 : decode cX10_sure 14 = .ok (.aload_n 0, 1) := by decide +kernel
theorem dX10_sure_15 : decode cX10_sure 15 = .ok (.getfield 68, 3) := by decide +kernel
theorem dX10_sure_18 : decode cX10_sure 18 = .ok (.aload_n 0, 1) := by decide +kernel
theorem dX10_sure_19 : decode cX10_sure 19 = .ok (.getfield 33, 3) := by decide +kernel
theorem dX10_sure_22 : decode cX10_sure 22 = .ok (.aload_n 0, 1) := by decide +kernel
theorem dX10_sure_23 : decode cX10_sure 23 = .ok (.getfield 40, 3) := by decide +kernel
theorem dX10_sure_26 : decode cX10_sure 26 = .ok (.invokevirtual 281, 3) := by decide +kernel
theorem dX10_sure_29 : decode cX10_sure 29 = .ok (.aload_n 0, 1) := by decide +kernel
theorem dX10_sure_30 : decode cX10_sure 30 = .ok (.getfield 68, 3) := by decide +kernel
theorem dX10_sure_33 : decode cX10_sure 33 = .ok (.iload_n 1, 1) := by decide +kernel
theorem dX10_sure_34 : decode cX10_sure 34 = .ok (.invokevirtual 287, 3) := by decide +kernel
theorem dX10_sure_37 : decode cX10_sure 37 = .ok (.ireturn, 1) := by decide +kernel
theorem dX10_wreck_0 : decode cX10_wreck 0 = .ok (.iload_n 1, 1) := by decide +kernel
theorem dX10_wreck_1 : decode cX10_wreck 1 = .ok (.iconst 0, 1) := by decide +kernel
theorem dX10_wreck_2 : decode cX10_wreck 2 = .ok (.bipush 99, 2) := by decide +kernel
theorem dX10_wreck_4 : decode cX10_wreck 4 = .ok (.invokestatic 79, 3) := by decide +kernel
theorem dX10_wreck_7 : decode cX10_wreck 7 = .ok (.ifCond .eq 6, 3) := by decide +kernel
theorem dX10_wreck_10 : decode cX10_wreck 10 = .ok (.bipush (-102), 2) := by decide +kernel
theorem dX10_wreck_12 : decode cX10_wreck 12 = .ok (.ireturn, 1) := by decide +kernel
theorem dX10_wreck_13 : decode cX10_wreck 13 = .ok (.aload_n 0, 1) := by decide +kernel
theorem dX10_wreck_14 : decode cX10_wreck 14 = .ok (.invokevirtual 115, 3) := by decide +kernel
theorem dX10_wreck_17 : decode cX10_wreck 17 = .ok (.ifCond .ne 6, 3) := by decide +kernel
theorem dX10_wreck_20 : decode cX10_wreck 20 = .ok (.bipush (-103), 2) := by decide +kernel
theorem dX10_wreck_22 : decode cX10_wreck 22 = .ok (.ireturn, 1) := by decide +kernel
theorem dX10_wreck_23 : decode cX10_wreck 23 = .ok (.aload_n 0, 1) := by decide +kernel
theorem dX10_wreck_24 : decode cX10_wreck 24 = .ok (.getfield 40, 3) := by decide +kernel
theorem dX10_wreck_27 : decode cX10_wreck 27 = .ok (.getfield 290, 3) := by decide +kernel
theorem dX10_wreck_30 : decode cX10_wreck 30 = .ok (.bipush 8, 2) := by decide +kernel
theorem dX10_wreck_32 : decode cX10_wreck 32 = .ok (.if_icmp .lt 6, 3) := by decide +kernel
theorem dX10_wreck_35 : decode cX10_wreck 35 = .ok (.bipush (-104), 2) := by decide +kernel
theorem dX10_wreck_37 : decode cX10_wreck 37 = .ok (.ireturn, 1) := by decide +kernel
theorem dX10_wreck_38 : decode cX10_wreck 38 = .ok (.aload_n 0, 1) := by decide +kernel
theorem dX10_wreck_39 : decode cX10_wreck 39 = .ok (.getfield 40, 3) := by decide +kernel
theorem dX10_wreck_42 : decode cX10_wreck 42 = .ok (.iload_n 1, 1) := by decide +kernel
theorem dX10_wreck_43 : decode cX10_wreck 43 = .ok (.invokevirtual 293, 3) := by decide +kernel
theorem dX10_wreck_46 : decode cX10_wreck 46 = .ok (.aload_n 0, 1) := by decide +kernel
theorem dX10_wreck_47 : decode cX10_wreck 47 = .ok (.getfield 40, 3) := by decide +kernel
theorem dX10_wreck_50 : decode cX10_wreck 50 = .ok (.getfield 290, 3) := by decide +kernel
theorem dX10_wreck_53 : decode cX10_wreck 53 = .ok (.ireturn, 1) := by decide +kernel
theorem dX10_stations_0 : decode cX10_stations 0 = .ok (.iload_n 1, 1) := by decide +kernel
theorem dX10_stations_1 : decode cX10_stations 1 = .ok (.iconst 0, 1) := by decide +kernel
theorem dX10_stations_2 : decode cX10_stations 2 = .ok (.bipush 50, 2) := by decide +kernel
theorem dX10_stations_4 : decode cX10_stations 4 = .ok (.invokestatic 79, 3) := by decide +kernel
theorem dX10_stations_7 : decode cX10_stations 7 = .ok (.ifCond .ne 12, 3) := by decide +kernel
theorem dX10_stations_10 : decode cX10_stations 10 = .ok (.iload_n 2, 1) := by decide +kernel
theorem dX10_stations_11 : decode cX10_stations 11 = .ok (.iconst 0, 1) := by decide +kernel
theorem dX10_stations_12 : decode cX10_stations 12 = .ok (.iconst 1, 1) := by decide +kernel
theorem dX10_stations_13 : decode cX10_stations 13 = .ok (.invokestatic 79, 3) := by decide +kernel
theorem dX10_stations_16 : decode cX10_stations 16 = .ok (.ifCond .eq 6, 3) := by decide +kernel
theorem dX10_stations_19 : decode cX10_stations 19 = .ok (.bipush (-102), 2) := by decide +kernel
theorem dX10_stations_21 : decode cX10_stations 21 = .ok (.ireturn, 1) := by decide +kernel
theorem dX10_stations_22 : decode cX10_stations 22 = .ok (.iload_n 2, 1) := by decide +kernel
theorem dX10_stations_23 : decode cX10_stations 23 = .ok (.ifCond .ne 14, 3) := by decide +kernel
theorem dX10_stations_26 : decode cX10_stations 26 = .ok (.aload_n 0, 1) := by decide +kernel
theorem dX10_stations_27 : decode cX10_stations 27 = .ok (.getfield 40, 3) := by decide +kernel
theorem dX10_stations_30 : decode cX10_stations 30 = .ok (.iload_n 1, 1) := by decide +kernel
theorem dX10_stations_31 : decode cX10_stations 31 = .ok (.invokevirtual 296, 3) := by decide +kernel
theorem dX10_stations_34 : decode cX10_stations 34 = .ok (.goto 11, 3) := by decide +kernel
theorem dX10_stations_37 : decode cX10_stations 37 = .ok (.aload_n 0, 1) := by decide +kernel
theorem dX10_stations_38 : decode cX10_stations 38 = .ok (.getfield 40, 3) := by decide +kernel
theorem dX10_stations_41 : decode cX10_stations 41 = .ok (.iload_n 1, 1) := by decide +kernel
theorem dX10_stations_42 : decode cX10_stations 42 = .ok (.invokevirtual 299, 3) := by decide +kernel
theorem dX10_stations_45 : decode cX10_stations 45 = .ok (.ireturn, 1) := by decide +kernel
theorem dX10_nights_0 : decode cX10_nights 0 = .ok (.iload_n 1, 1) := by decide +kernel
theorem dX10_nights_1 : decode cX10_nights 1 = .ok (.ifCond .lt 12, 3) := by decide +kernel
theorem dX10_nights_4 : decode cX10_nights 4 = .ok (.iload_n 2, 1) := by decide +kernel
theorem dX10_nights_5 : decode cX10_nights 5 = .ok (.iconst 0, 1) := by decide +kernel
theorem dX10_nights_6 : decode cX10_nights 6 = .ok (.iconst 3, 1) := by decide +kernel
theorem dX10_nights_7 : decode cX10_nights 7 = .ok (.invokestatic 79, 3) := by decide +kernel
theorem dX10_nights_10 : decode cX10_nights 10 = .ok (.ifCond .eq 6, 3) := by decide +kernel
theorem dX10_nights_13 : decode cX10_nights 13 = .ok (.bipush (-102), 2) := by decide +kernel
theorem dX10_nights_15 : decode cX10_nights 15 = .ok (.ireturn, 1) := by decide +kernel
theorem dX10_nights_16 : decode cX10_nights 16 = .ok (.aload_n 0, 1) := by decide +kernel
theorem dX10_nights_17 : decode cX10_nights 17 = .ok (.invokevirtual 244, 3) := by decide +kernel
theorem dX10_nights_20 : decode cX10_nights 20 = .ok (.ifCond .ne 6, 3) := by decide +kernel
theorem dX10_nights_23 : decode cX10_nights 23 = .ok (.bipush (-103), 2) := by decide +kernel
theorem dX10_nights_25 : decode cX10_nights 25 = .ok (.ireturn, 1) := by decide +kernel
theorem dX10_nights_26 : decode cX10_nights 26 = .ok (.aload_n 0, 1) := by decide +kernel
theorem dX10_nights_27 : decode cX10_nights 27 = .ok (.getfield 75, 3) := by decide +kernel
theorem dX10_nights_30 : decode cX10_nights 30 = .ok (.aload_n 0, 1) := by decide +kernel
theorem dX10_nights_31 : decode cX10_nights 31 = .ok (.getfield 19, 3) := by decide +kernel
theorem dX10_nights_34 : decode cX10_nights 34 = .ok (.aload_n 0, 1) := by decide +kernel
theorem dX10_nights_35 : decode cX10_nights 35 = .ok (.getfield 26, 3) := by decide +kernel
theorem dX10_nights_38 : decode cX10_nights 38 = .ok (.aload_n 0, 1) := by decide +kernel
theorem dX10_nights_39 : decode cX10_nights 39 = .ok (.getfield 40, 3) := by decide +kernel
theorem dX10_nights_42 : decode cX10_nights 42 = .ok (.iload_n 1, 1) := by decide +kernel
theorem dX10_nights_43 : decode cX10_nights 43 = .ok (.invokevirtual 302, 3) := by decide +kernel
theorem dX10_nights_46 : decode cX10_nights 46 = .ok (.iload_n 2, 1) := by decide +kernel
theorem dX10_nights_47 : decode cX10_nights 47 = .ok (.tableswitch 55 0 2 #[25, 36, 44], 25) := by decide +kernel
theorem dX10_nights_72 : decode cX10_nights 72 = .ok (.aload_n 0, 1) := by decide +kernel
theorem dX10_nights_73 : decode cX10_nights 73 = .ok (.getfield 75, 3) := by decide +kernel
theorem dX10_nights_76 : decode cX10_nights 76 = .ok (.getfield 305, 3) := by decide +kernel
theorem dX10_nights_79 : decode cX10_nights 79 = .ok (.invokestatic 214, 3) := by decide +kernel
theorem dX10_nights_82 : decode cX10_nights 82 = .ok (.ireturn, 1) := by decide +kernel
theorem dX10_nights_83 : decode cX10_nights 83 = .ok (.aload_n 0, 1) := by decide +kernel
theorem dX10_nights_84 : decode cX10_nights 84 = .ok (.getfield 75, 3) := by decide +kernel
theorem dX10_nights_87 : decode cX10_nights 87 = .ok (.getfield 306, 3) := by decide +kernel
theorem dX10_nights_90 : decode cX10_nights 90 = .ok (.ireturn, 1) := by decide +kernel
theorem dX10_nights_91 : decode cX10_nights 91 = .ok (.aload_n 0, 1) := by decide +kernel
theorem dX10_nights_92 : decode cX10_nights 92 = .ok (.getfield 75, 3) := by decide +kernel
theorem dX10_nights_95 : decode cX10_nights 95 = .ok (.getfield 309, 3) := by decide +kernel
theorem dX10_nights_98 : decode cX10_nights 98 = .ok (.invokestatic 214, 3) := by decide +kernel
theorem dX10_nights_101 : decode cX10_nights 101 = .ok (.ireturn, 1) := by decide +kernel
theorem dX10_nights_102 : decode cX10_nights 102 = .ok (.aload_n 0, 1) := by decide +kernel
theorem dX10_nights_103 : decode cX10_nights 103 = .ok (.getfield 75, 3) := by decide +kernel
theorem dX10_nights_106 : decode cX10_nights 106 = .ok (.getfield 310, 3) := by decide +kernel
theorem dX10_nights_109 : decode cX10_nights 109 = .ok (.l2i, 1) := by decide +kernel
theorem dX10_nights_110 : decode cX10_nights 110 = .ok (.ireturn, 1) := by decide +kernel
theorem dX10_image_0 : decode cX10_image 0 = .ok (.aload_n 0, 1) := by decide +kernel
theorem dX10_image_1 : decode cX10_image 1 = .ok (.invokevirtual 115, 3) := by decide +kernel
theorem dX10_image_4 : decode cX10_image 4 = .ok (.ifCond .ne 6, 3) := by decide +kernel
theorem dX10_image_7 : decode cX10_image 7 = .ok (.bipush (-103), 2) := by decide +kernel
theorem dX10_image_9 : decode cX10_image 9 = .ok (.ireturn, 1) := by decide +kernel
theorem dX10_image_10 : decode cX10_image 10 = .ok (.aload_n 0, 1) := by decide +kernel
theorem dX10_image_11 : decode cX10_image 11 = .ok (.getfield 47, 3) := by decide +kernel
theorem dX10_image_14 : decode cX10_image 14 = .ok (.getfield 313, 3) := by decide +kernel
theorem dX10_image_17 : decode cX10_image 17 = .ok (.aload_n 0, 1) := by decide +kernel
theorem dX10_image_18 : decode cX10_image 18 = .ok (.getfield 40, 3) := by decide +kernel
theorem dX10_image_21 : decode cX10_image 21 = .ok (.invokevirtual 316, 3) := by decide +kernel
theorem dX10_image_24 : decode cX10_image 24 = .ok (.aload_n 0, 1) := by decide +kernel
theorem dX10_image_25 : decode cX10_image 25 = .ok (.getfield 47, 3) := by decide +kernel
theorem dX10_image_28 : decode cX10_image 28 = .ok (.aload_n 0, 1) := by decide +kernel
theorem dX10_image_29 : decode cX10_image 29 = .ok (.getfield 109, 3) := by decide +kernel
theorem dX10_image_32 : decode cX10_image 32 = .ok (.putfield 320, 3) := by decide +kernel
theorem dX10_image_35 : decode cX10_image 35 = .ok (.aload_n 0, 1) := by decide +kernel
theorem dX10_image_36 : decode cX10_image 36 = .ok (.getfield 47, 3) := by decide +kernel
theorem dX10_image_39 : decode cX10_image 39 = .ok (.aload_n 0, 1) := by decide +kernel
theorem dX10_image_40 : decode cX10_image 40 = .ok (.getfield 26, 3) := by decide +kernel
theorem dX10_image_43 : decode cX10_image 43 = .ok (.getfield 122, 3) := by decide +kernel
theorem dX10_image_46 : decode cX10_image 46 = .ok (.putfield 323, 3) := by decide +kernel
theorem dX10_image_49 : decode cX10_image 49 = .ok (.aload_n 0, 1) := by decide +kernel
theorem dX10_image_50 : decode cX10_image 50 = .ok (.getfield 47, 3) := by decide +kernel
theorem dX10_image_53 : decode cX10_image 53 = .ok (.aload_n 0, 1) := by decide +kernel
theorem dX10_image_54 : decode cX10_image 54 = .ok (.getfield 33, 3) := by decide +kernel
theorem dX10_image_57 : decode cX10_image 57 = .ok (.getfield 192, 3) := by decide +kernel
theorem dX10_image_60 : decode cX10_image 60 = .ok (.putfield 325, 3) := by decide +kernel
theorem dX10_image_63 : decode cX10_image 63 = .ok (.aload_n 0, 1) := by decide +kernel
theorem dX10_image_64 : decode cX10_image 64 = .ok (.getfield 40, 3) := by decide +kernel
theorem dX10_image_67 : decode cX10_image 67 = .ok (.getfield 241, 3) := by decide +kernel
theorem dX10_image_70 : decode cX10_image 70 = .ok (.ireturn, 1) := by decide +kernel
theorem dX10_restore_0 : decode cX10_restore 0 = .ok (.aload_n 0, 1) := by decide +kernel
theorem dX10_restore_1 : decode cX10_restore 1 = .ok (.invokevirtual 115, 3) := by decide +kernel
theorem dX10_restore_4 : decode cX10_restore 4 = .ok (.ifCond .eq 51, 3) := by decide +kernel
theorem dX10_restore_7 : decode cX10_restore 7 = .ok (.aload_n 0, 1) := by decide +kernel
theorem dX10_restore_8 : decode cX10_restore 8 = .ok (.getfield 47, 3) := by decide +kernel
theorem dX10_restore_11 : decode cX10_restore 11 = .ok (.getfield 320, 3) := by decide +kernel
theorem dX10_restore_14 : decode cX10_restore 14 = .ok (.aload_n 0, 1) := by decide +kernel
theorem dX10_restore_15 : decode cX10_restore 15 = .ok (.getfield 109, 3) := by decide +kernel
theorem dX10_restore_18 : decode cX10_restore 18 = .ok (.if_icmp .ne 37, 3) := by decide +kernel
theorem dX10_restore_21 : decode cX10_restore 21 = .ok (.aload_n 0, 1) := by decide +kernel
theorem dX10_restore_22 : decode cX10_restore 22 = .ok (.getfield 47, 3) := by decide +kernel
theorem dX10_restore_25 : decode cX10_restore 25 = .ok (.getfield 323, 3) := by decide +kernel
theorem dX10_restore_28 : decode cX10_restore 28 = .ok (.aload_n 0, 1) := by decide +kernel
theorem dX10_restore_29 : decode cX10_restore 29 = .ok (.getfield 26, 3) := by decide +kernel
theorem dX10_restore_32 : decode cX10_restore 32 = .ok (.getfield 122, 3) := by decide +kernel
theorem dX10_restore_35 : decode cX10_restore 35 = .ok (.if_icmp .ne 20, 3) := by decide +kernel
theorem dX10_restore_38 : decode cX10_restore 38 = .ok (.aload_n 0, 1) := by decide +kernel
theorem dX10_restore_39 : decode cX10_restore 39 = .ok (.getfield 47, 3) := by decide +kernel
theorem dX10_restore_42 : decode cX10_restore 42 = .ok (.getfield 325, 3) := by decide +kernel
theorem dX10_restore_45 : decode cX10_restore 45 = .ok (.aload_n 0, 1) := by decide +kernel
theorem dX10_restore_46 : decode cX10_restore 46 = .ok (.getfield 33, 3) := by decide +kernel
theorem dX10_restore_49 : decode cX10_restore 49 = .ok (.getfield 192, 3) := by decide +kernel
theorem dX10_restore_52 : decode cX10_restore 52 = .ok (.if_icmp .eq 6, 3) := by decide +kernel
theorem dX10_restore_55 : decode cX10_restore 55 = .ok (.bipush (-103), 2) := by decide +kernel
theorem dX10_restore_57 : decode cX10_restore 57 = .ok (.ireturn, 1) := by decide +kernel
theorem dX10_restore_58 : decode cX10_restore 58 = .ok (.aload_n 0, 1) := by decide +kernel
theorem dX10_restore_59 : decode cX10_restore 59 = .ok (.getfield 40, 3) := by decide +kernel
theorem dX10_restore_62 : decode cX10_restore 62 = .ok (.aload_n 0, 1) := by decide +kernel
theorem dX10_restore_63 : decode cX10_restore 63 = .ok (.getfield 47, 3) := by decide +kernel
theorem dX10_restore_66 : decode cX10_restore 66 = .ok (.getfield 313, 3) := by decide +kernel
theorem dX10_restore_69 : decode cX10_restore 69 = .ok (.invokevirtual 316, 3) := by decide +kernel
theorem dX10_restore_72 : decode cX10_restore 72 = .ok (.aload_n 0, 1) := by decide +kernel
theorem dX10_restore_73 : decode cX10_restore 73 = .ok (.getfield 40, 3) := by decide +kernel
theorem dX10_restore_76 : decode cX10_restore 76 = .ok (.getfield 241, 3) := by decide +kernel
theorem dX10_restore_79 : decode cX10_restore 79 = .ok (.ireturn, 1) := by decide +kernel
theorem dX10_count_0 : decode cX10_count 0 = .ok (.iload_n 1, 1) := by decide +kernel
theorem dX10_count_1 : decode cX10_count 1 = .ok (.tableswitch 189 0 13 #[71, 79, 90, 98, 109, 117, 128, 139, 147, 155, 163, 171, 179, 184], 71) := by decide +kernel
theorem dX10_count_72 : decode cX10_count 72 = .ok (.aload_n 0, 1) := by decide +kernel
theorem dX10_count_73 : decode cX10_count 73 = .ok (.getfield 26, 3) := by decide +kernel
theorem dX10_count_76 : decode cX10_count 76 = .ok (.getfield 122, 3) := by decide +kernel
theorem dX10_count_79 : decode cX10_count 79 = .ok (.ireturn, 1) := by decide +kernel
theorem dX10_count_80 : decode cX10_count 80 = .ok (.aload_n 0, 1) := by decide +kernel
theorem dX10_count_81 : decode cX10_count 81 = .ok (.getfield 40, 3) := by decide +kernel
theorem dX10_count_84 : decode cX10_count 84 = .ok (.getfield 132, 3) := by decide +kernel
theorem dX10_count_87 : decode cX10_count 87 = .ok (.invokestatic 250, 3) := by decide +kernel
theorem dX10_count_90 : decode cX10_count 90 = .ok (.ireturn, 1) := by decide +kernel
theorem dX10_count_91 : decode cX10_count 91 = .ok (.aload_n 0, 1) := by decide +kernel
theorem dX10_count_92 : decode cX10_count 92 = .ok (.getfield 33, 3) := by decide +kernel
theorem dX10_count_95 : decode cX10_count 95 = .ok (.getfield 192, 3) := by decide +kernel
theorem dX10_count_98 : decode cX10_count 98 = .ok (.ireturn, 1) := by decide +kernel
theorem dX10_count_99 : decode cX10_count 99 = .ok (.aload_n 0, 1) := by decide +kernel
theorem dX10_count_100 : decode cX10_count 100 = .ok (.getfield 40, 3) := by decide +kernel
theorem dX10_count_103 : decode cX10_count 103 = .ok (.getfield 218, 3) := by decide +kernel
theorem dX10_count_106 : decode cX10_count 106 = .ok (.invokestatic 250, 3) := by decide +kernel
theorem dX10_count_109 : decode cX10_count 109 = .ok (.ireturn, 1) := by decide +kernel
theorem dX10_count_110 : decode cX10_count 110 = .ok (.aload_n 0, 1) := by decide +kernel
theorem dX10_count_111 : decode cX10_count 111 = .ok (.getfield 40, 3) := by decide +kernel
theorem dX10_count_114 : decode cX10_count 114 = .ok (.getfield 241, 3) := by decide +kernel
theorem dX10_count_117 : decode cX10_count 117 = .ok (.ireturn, 1) := by decide +kernel
theorem dX10_count_118 : decode cX10_count 118 = .ok (.aload_n 0, 1) := by decide +kernel
theorem dX10_count_119 : decode cX10_count 119 = .ok (.getfield 40, 3) := by decide +kernel
theorem dX10_count_122 : decode cX10_count 122 = .ok (.getfield 156, 3) := by decide +kernel
theorem dX10_count_125 : decode cX10_count 125 = .ok (.invokestatic 214, 3) := by decide +kernel
theorem dX10_count_128 : decode cX10_count 128 = .ok (.ireturn, 1) := by decide +kernel
theorem dX10_count_129 : decode cX10_count 129 = .ok (.aload_n 0, 1) := by decide +kernel
theorem dX10_count_130 : decode cX10_count 130 = .ok (.getfield 40, 3) := by decide +kernel
theorem dX10_count_133 : decode cX10_count 133 = .ok (.getfield 139, 3) := by decide +kernel
theorem dX10_count_136 : decode cX10_count 136 = .ok (.invokestatic 214, 3) := by decide +kernel
theorem dX10_count_139 : decode cX10_count 139 = .ok (.ireturn, 1) := by decide +kernel
theorem dX10_count_140 : decode cX10_count 140 = .ok (.aload_n 0, 1) := by decide +kernel
theorem dX10_count_141 : decode cX10_count 141 = .ok (.getfield 19, 3) := by decide +kernel
theorem dX10_count_144 : decode cX10_count 144 = .ok (.getfield 112, 3) := by decide +kernel
theorem dX10_count_147 : decode cX10_count 147 = .ok (.ireturn, 1) := by decide +kernel
theorem dX10_count_148 : decode cX10_count 148 = .ok (.aload_n 0, 1) := by decide +kernel
theorem dX10_count_149 : decode cX10_count 149 = .ok (.getfield 40, 3) := by decide +kernel
theorem dX10_count_152 : decode cX10_count 152 = .ok (.getfield 204, 3) := by decide +kernel
theorem dX10_count_155 : decode cX10_count 155 = .ok (.ireturn, 1) := by decide +kernel
theorem dX10_count_156 : decode cX10_count 156 = .ok (.aload_n 0, 1) := by decide +kernel
theorem dX10_count_157 : decode cX10_count 157 = .ok (.getfield 40, 3) := by decide +kernel
theorem dX10_count_160 : decode cX10_count 160 = .ok (.getfield 275, 3) := by decide +kernel
theorem dX10_count_163 : decode cX10_count 163 = .ok (.ireturn, 1) := by decide +kernel
theorem dX10_count_164 : decode cX10_count 164 = .ok (.aload_n 0, 1) := by decide +kernel
theorem dX10_count_165 : decode cX10_count 165 = .ok (.getfield 40, 3) := by decide +kernel
theorem dX10_count_168 : decode cX10_count 168 = .ok (.getfield 290, 3) := by decide +kernel
theorem dX10_count_171 : decode cX10_count 171 = .ok (.ireturn, 1) := by decide +kernel
theorem dX10_count_172 : decode cX10_count 172 = .ok (.aload_n 0, 1) := by decide +kernel
theorem dX10_count_173 : decode cX10_count 173 = .ok (.getfield 10, 3) := by decide +kernel
theorem dX10_count_176 : decode cX10_count 176 = .ok (.getfield 83, 3) := by decide +kernel
theorem dX10_count_179 : decode cX10_count 179 = .ok (.ireturn, 1) := by decide +kernel
theorem dX10_count_180 : decode cX10_count 180 = .ok (.aload_n 0, 1) := by decide +kernel
theorem dX10_count_181 : decode cX10_count 181 = .ok (.getfield 109, 3) := by decide +kernel
theorem dX10_count_184 : decode cX10_count 184 = .ok (.ireturn, 1) := by decide +kernel
theorem dX10_count_185 : decode cX10_count 185 = .ok (.aload_n 0, 1) := by decide +kernel
theorem dX10_count_186 : decode cX10_count 186 = .ok (.getfield 255, 3) := by decide +kernel
theorem dX10_count_189 : decode cX10_count 189 = .ok (.ireturn, 1) := by decide +kernel
theorem dX10_count_190 : decode cX10_count 190 = .ok (.bipush (-102), 2) := by decide +kernel
theorem dX10_count_192 : decode cX10_count 192 = .ok (.ireturn, 1) := by decide +kernel
theorem dX10_digest_0 : decode cX10_digest 0 = .ok (.ldc2_w 328, 3) := by decide +kernel
theorem dX10_digest_3 : decode cX10_digest 3 = .ok (.lstore_n 1, 1) := by decide +kernel
theorem dX10_digest_4 : decode cX10_digest 4 = .ok (.aload_n 0, 1) := by decide +kernel
theorem dX10_digest_5 : decode cX10_digest 5 = .ok (.invokevirtual 115, 3) := by decide +kernel
theorem dX10_digest_8 : decode cX10_digest 8 = .ok (.ifCond .eq 9, 3) := by decide +kernel
theorem dX10_digest_11 : decode cX10_digest 11 = .ok (.aload_n 0, 1) := by decide +kernel
theorem dX10_digest_12 : decode cX10_digest 12 = .ok (.lload_n 1, 1) := by decide +kernel
theorem dX10_digest_13 : decode cX10_digest 13 = .ok (.invokevirtual 330, 3) := by decide +kernel
theorem dX10_digest_16 : decode cX10_digest 16 = .ok (.lstore_n 1, 1) := by decide +kernel
theorem dX10_digest_17 : decode cX10_digest 17 = .ok (.iconst 0, 1) := by decide +kernel
theorem dX10_digest_18 : decode cX10_digest 18 = .ok (.istore_n 3, 1) := by decide +kernel
theorem dX10_digest_19 : decode cX10_digest 19 = .ok (.iload_n 3, 1) := by decide +kernel
theorem dX10_digest_20 : decode cX10_digest 20 = .ok (.aload_n 0, 1) := by decide +kernel
theorem dX10_digest_21 : decode cX10_digest 21 = .ok (.getfield 26, 3) := by decide +kernel
theorem dX10_digest_24 : decode cX10_digest 24 = .ok (.getfield 122, 3) := by decide +kernel
theorem dX10_digest_27 : decode cX10_digest 27 = .ok (.if_icmp .ge 33, 3) := by decide +kernel
theorem dX10_digest_30 : decode cX10_digest 30 = .ok (.lload_n 1, 1) := by decide +kernel
theorem dX10_digest_31 : decode cX10_digest 31 = .ok (.aload_n 0, 1) := by decide +kernel
theorem dX10_digest_32 : decode cX10_digest 32 = .ok (.iload_n 3, 1) := by decide +kernel
theorem dX10_digest_33 : decode cX10_digest 33 = .ok (.iconst 0, 1) := by decide +kernel
theorem dX10_digest_34 : decode cX10_digest 34 = .ok (.iconst 0, 1) := by decide +kernel
theorem dX10_digest_35 : decode cX10_digest 35 = .ok (.invokevirtual 334, 3) := by decide +kernel
theorem dX10_digest_38 : decode cX10_digest 38 = .ok (.invokestatic 338, 3) := by decide +kernel
theorem dX10_digest_41 : decode cX10_digest 41 = .ok (.lstore_n 1, 1) := by decide +kernel
theorem dX10_digest_42 : decode cX10_digest 42 = .ok (.lload_n 1, 1) := by decide +kernel
theorem dX10_digest_43 : decode cX10_digest 43 = .ok (.aload_n 0, 1) := by decide +kernel
theorem dX10_digest_44 : decode cX10_digest 44 = .ok (.iload_n 3, 1) := by decide +kernel
theorem dX10_digest_45 : decode cX10_digest 45 = .ok (.iconst 0, 1) := by decide +kernel
theorem dX10_digest_46 : decode cX10_digest 46 = .ok (.iconst 1, 1) := by decide +kernel
theorem dX10_digest_47 : decode cX10_digest 47 = .ok (.invokevirtual 334, 3) := by decide +kernel
theorem dX10_digest_50 : decode cX10_digest 50 = .ok (.invokestatic 338, 3) := by decide +kernel
theorem dX10_digest_53 : decode cX10_digest 53 = .ok (.lstore_n 1, 1) := by decide +kernel
theorem dX10_digest_54 : decode cX10_digest 54 = .ok (.iinc 3 1, 3) := by decide +kernel
theorem dX10_digest_57 : decode cX10_digest 57 = .ok (.goto (-38), 3) := by decide +kernel
theorem dX10_digest_60 : decode cX10_digest 60 = .ok (.iconst 0, 1) := by decide +kernel
theorem dX10_digest_61 : decode cX10_digest 61 = .ok (.istore_n 3, 1) := by decide +kernel
theorem dX10_digest_62 : decode cX10_digest 62 = .ok (.iload_n 3, 1) := by decide +kernel
theorem dX10_digest_63 : decode cX10_digest 63 = .ok (.aload_n 0, 1) := by decide +kernel
theorem dX10_digest_64 : decode cX10_digest 64 = .ok (.getfield 33, 3) := by decide +kernel
theorem dX10_digest_67 : decode cX10_digest 67 = .ok (.getfield 192, 3) := by decide +kernel
theorem dX10_digest_70 : decode cX10_digest 70 = .ok (.if_icmp .ge 38, 3) := by decide +kernel
theorem dX10_digest_73 : decode cX10_digest 73 = .ok (.iconst 0, 1) := by decide +kernel
theorem dX10_digest_74 : decode cX10_digest 74 = .ok (.istore 4, 2) := by decide +kernel
theorem dX10_digest_76 : decode cX10_digest 76 = .ok (.iload 4, 2) := by decide +kernel
theorem dX10_digest_78 : decode cX10_digest 78 = .ok (.bipush 6, 2) := by decide +kernel
theorem dX10_digest_80 : decode cX10_digest 80 = .ok (.if_icmp .gt 22, 3) := by decide +kernel
theorem dX10_digest_83 : decode cX10_digest 83 = .ok (.lload_n 1, 1) := by decide +kernel
theorem dX10_digest_84 : decode cX10_digest 84 = .ok (.aload_n 0, 1) := by decide +kernel
theorem dX10_digest_85 : decode cX10_digest 85 = .ok (.iload_n 3, 1) := by decide +kernel
theorem dX10_digest_86 : decode cX10_digest 86 = .ok (.iload 4, 2) := by decide +kernel
theorem dX10_digest_88 : decode cX10_digest 88 = .ok (.invokevirtual 342, 3) := by decide +kernel
theorem dX10_digest_91 : decode cX10_digest 91 = .ok (.i2l, 1) := by decide +kernel
theorem dX10_digest_92 : decode cX10_digest 92 = .ok (.invokestatic 338, 3) := by decide +kernel
theorem dX10_digest_95 : decode cX10_digest 95 = .ok (.lstore_n 1, 1) := by decide +kernel
theorem dX10_digest_96 : decode cX10_digest 96 = .ok (.iinc 4 1, 3) := by decide +kernel
theorem dX10_digest_99 : decode cX10_digest 99 = .ok (.goto (-23), 3) := by decide +kernel
theorem dX10_digest_102 : decode cX10_digest 102 = .ok (.iinc 3 1, 3) := by decide +kernel
theorem dX10_digest_105 : decode cX10_digest 105 = .ok (.goto (-43), 3) := by decide +kernel
theorem dX10_digest_108 : decode cX10_digest 108 = .ok (.lload_n 1, 1) := by decide +kernel
theorem dX10_digest_109 : decode cX10_digest 109 = .ok (.aload_n 0, 1) := by decide +kernel
theorem dX10_digest_110 : decode cX10_digest 110 = .ok (.invokevirtual 345, 3) := by decide +kernel
theorem dX10_digest_113 : decode cX10_digest 113 = .ok (.i2l, 1) := by decide +kernel
theorem dX10_digest_114 : decode cX10_digest 114 = .ok (.invokestatic 338, 3) := by decide +kernel
theorem dX10_digest_117 : decode cX10_digest 117 = .ok (.lstore_n 1, 1) := by decide +kernel
theorem dX10_digest_118 : decode cX10_digest 118 = .ok (.aload_n 0, 1) := by decide +kernel
theorem dX10_digest_119 : decode cX10_digest 119 = .ok (.getfield 40, 3) := by decide +kernel
theorem dX10_digest_122 : decode cX10_digest 122 = .ok (.getfield 290, 3) := by decide +kernel
theorem dX10_digest_125 : decode cX10_digest 125 = .ok (.ifCond .le 29, 3) := by decide +kernel
theorem dX10_digest_128 : decode cX10_digest 128 = .ok (.lload_n 1, 1) := by decide +kernel
theorem dX10_digest_129 : decode cX10_digest 129 = .ok (.aload_n 0, 1) := by decide +kernel
theorem dX10_digest_130 : decode cX10_digest 130 = .ok (.bipush 10, 2) := by decide +kernel
theorem dX10_digest_132 : decode cX10_digest 132 = .ok (.iconst 0, 1) := by decide +kernel
theorem dX10_digest_133 : decode cX10_digest 133 = .ok (.invokevirtual 348, 3) := by decide +kernel
theorem dX10_digest_136 : decode cX10_digest 136 = .ok (.i2l, 1) := by decide +kernel
theorem dX10_digest_137 : decode cX10_digest 137 = .ok (.invokestatic 338, 3) := by decide +kernel
theorem dX10_digest_140 : decode cX10_digest 140 = .ok (.lstore_n 1, 1) := by decide +kernel
theorem dX10_digest_141 : decode cX10_digest 141 = .ok (.lload_n 1, 1) := by decide +kernel
theorem dX10_digest_142 : decode cX10_digest 142 = .ok (.aload_n 0, 1) := by decide +kernel
theorem dX10_digest_143 : decode cX10_digest 143 = .ok (.bipush 10, 2) := by decide +kernel
theorem dX10_digest_145 : decode cX10_digest 145 = .ok (.iconst 1, 1) := by decide +kernel
theorem dX10_digest_146 : decode cX10_digest 146 = .ok (.invokevirtual 348, 3) := by decide +kernel
theorem dX10_digest_149 : decode cX10_digest 149 = .ok (.i2l, 1) := by decide +kernel
theorem dX10_digest_150 : decode cX10_digest 150 = .ok (.invokestatic 338, 3) := by decide +kernel
theorem dX10_digest_153 : decode cX10_digest 153 = .ok (.lstore_n 1, 1) := by decide +kernel
theorem dX10_digest_154 : decode cX10_digest 154 = .ok (.iconst 0, 1) := by decide +kernel
theorem dX10_digest_155 : decode cX10_digest 155 = .ok (.istore_n 3, 1) := by decide +kernel
theorem dX10_digest_156 : decode cX10_digest 156 = .ok (.iload_n 3, 1) := by decide +kernel
theorem dX10_digest_157 : decode cX10_digest 157 = .ok (.aload_n 0, 1) := by decide +kernel
theorem dX10_digest_158 : decode cX10_digest 158 = .ok (.getfield 10, 3) := by decide +kernel
theorem dX10_digest_161 : decode cX10_digest 161 = .ok (.getfield 83, 3) := by decide +kernel
theorem dX10_digest_164 : decode cX10_digest 164 = .ok (.if_icmp .ge 23, 3) := by decide +kernel
theorem dX10_digest_167 : decode cX10_digest 167 = .ok (.lload_n 1, 1) := by decide +kernel
theorem dX10_digest_168 : decode cX10_digest 168 = .ok (.aload_n 0, 1) := by decide +kernel
theorem dX10_digest_169 : decode cX10_digest 169 = .ok (.getfield 10, 3) := by decide +kernel
theorem dX10_digest_172 : decode cX10_digest 172 = .ok (.iload_n 3, 1) := by decide +kernel
theorem dX10_digest_173 : decode cX10_digest 173 = .ok (.invokevirtual 351, 3) := by decide +kernel
theorem dX10_digest_176 : decode cX10_digest 176 = .ok (.i2l, 1) := by decide +kernel
theorem dX10_digest_177 : decode cX10_digest 177 = .ok (.invokestatic 338, 3) := by decide +kernel
theorem dX10_digest_180 : decode cX10_digest 180 = .ok (.lstore_n 1, 1) := by decide +kernel
theorem dX10_digest_181 : decode cX10_digest 181 = .ok (.iinc 3 1, 3) := by decide +kernel
theorem dX10_digest_184 : decode cX10_digest 184 = .ok (.goto (-28), 3) := by decide +kernel
theorem dX10_digest_187 : decode cX10_digest 187 = .ok (.iconst 0, 1) := by decide +kernel
theorem dX10_digest_188 : decode cX10_digest 188 = .ok (.istore_n 3, 1) := by decide +kernel
theorem dX10_digest_189 : decode cX10_digest 189 = .ok (.iload_n 3, 1) := by decide +kernel
theorem dX10_digest_190 : decode cX10_digest 190 = .ok (.bipush 13, 2) := by decide +kernel
theorem dX10_digest_192 : decode cX10_digest 192 = .ok (.if_icmp .gt 20, 3) := by decide +kernel
theorem dX10_digest_195 : decode cX10_digest 195 = .ok (.lload_n 1, 1) := by decide +kernel
theorem dX10_digest_196 : decode cX10_digest 196 = .ok (.aload_n 0, 1) := by decide +kernel
theorem dX10_digest_197 : decode cX10_digest 197 = .ok (.iload_n 3, 1) := by decide +kernel
theorem dX10_digest_198 : decode cX10_digest 198 = .ok (.invokevirtual 354, 3) := by decide +kernel
theorem dX10_digest_201 : decode cX10_digest 201 = .ok (.i2l, 1) := by decide +kernel
theorem dX10_digest_202 : decode cX10_digest 202 = .ok (.invokestatic 338, 3) := by decide +kernel
theorem dX10_digest_205 : decode cX10_digest 205 = .ok (.lstore_n 1, 1) := by decide +kernel
theorem dX10_digest_206 : decode cX10_digest 206 = .ok (.iinc 3 1, 3) := by decide +kernel
theorem dX10_digest_209 : decode cX10_digest 209 = .ok (.goto (-20), 3) := by decide +kernel
theorem dX10_digest_212 : decode cX10_digest 212 = .ok (.lload_n 1, 1) := by decide +kernel
