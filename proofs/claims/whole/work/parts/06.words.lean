theorem zA_l {ws : List Cond} (ps : List Nat) (hp : ws = ps.filterMap (fun i => tables_1[i]?)) (h : ws.all goodWord = true) : ∀ q ∈ ws, q ∈ zA := by
  intro q hq
  have h1 := List.all_eq_true.mp h q hq
  rw [hp] at hq
  obtain ⟨i, -, hi⟩ := List.mem_filterMap.mp hq
  exact zA_t i hi h1
set_option maxRecDepth 20000 in
theorem kn_X0 : Kn 0 RX0 TX0 4 tyX0 := ⟨rfl, zA_l [198, 200, 202, 204] (by decide +kernel) (by decide +kernel), tyX0_ok, nmX0, rfl, by decide⟩
set_option maxRecDepth 20000 in
theorem kn_X1 : Kn 1 RX1 TX1 11 tyX1 := ⟨rfl, zA_l [140, 142, 144, 146, 148, 150, 152, 154, 156, 158, 160] (by decide +kernel) (by decide +kernel), tyX1_ok, nmX1, rfl, by decide⟩
set_option maxRecDepth 20000 in
theorem kn_X2 : Kn 2 RX2 TX2 4 tyX2 := ⟨rfl, zA_l [99, 101, 103, 105] (by decide +kernel) (by decide +kernel), tyX2_ok, nmX2, rfl, by decide⟩
set_option maxRecDepth 20000 in
theorem kn_X3 : Kn 3 RX3 TX3 4 tyX3 := ⟨rfl, zA_l [176, 178, 180, 182] (by decide +kernel) (by decide +kernel), tyX3_ok, nmX3, rfl, by decide⟩
set_option maxRecDepth 20000 in
theorem kn_X4 : Kn 4 RX4 TX4 4 tyX4 := ⟨rfl, zA_l [218, 220, 222, 224] (by decide +kernel) (by decide +kernel), tyX4_ok, nmX4, rfl, by decide⟩
set_option maxRecDepth 20000 in
theorem kn_X5 : Kn 5 RX5 TX5 2 tyX5 := ⟨rfl, zA_l [34, 36] (by decide +kernel) (by decide +kernel), tyX5_ok, nmX5, rfl, by decide⟩
set_option maxRecDepth 20000 in
theorem kn_X6 : Kn 6 RX6 TX6 3 tyX6 := ⟨rfl, zA_l [79, 81, 83] (by decide +kernel) (by decide +kernel), tyX6_ok, nmX6, rfl, by decide⟩
set_option maxRecDepth 20000 in
theorem kn_X7 : Kn 7 RX7 TX7 5 tyX7 := ⟨rfl, zA_l [57, 59, 61, 63, 65] (by decide +kernel) (by decide +kernel), tyX7_ok, nmX7, rfl, by decide⟩
set_option maxRecDepth 20000 in
theorem kn_X8 : Kn 8 RX8 TX8 5 tyX8 := ⟨rfl, zA_l [238, 240, 242, 244, 246] (by decide +kernel) (by decide +kernel), tyX8_ok, nmX8, rfl, by decide⟩
set_option maxRecDepth 20000 in
theorem kn_X9 : Kn 9 RX9 TX9 4 tyX9 := ⟨rfl, zA_l [263, 265, 267, 269] (by decide +kernel) (by decide +kernel), tyX9_ok, nmX9, rfl, by decide⟩
set_option maxRecDepth 20000 in
theorem kn_X10 : Kn 10 RX10 TX10 12 tyX10 := ⟨rfl, zA_l [284, 286, 288, 290, 292, 294, 296, 298, 300, 302, 304, 306] (by decide +kernel) (by decide +kernel), tyX10_ok, nmX10, rfl, by decide⟩
set_option maxRecDepth 20000 in
theorem kn_X11 : Kn 11 RX11 TX11 49 tyX11 := ⟨rfl, zA_l [899, 901, 903, 905, 907, 909, 911, 913, 915, 917, 919, 921, 923, 925, 927, 929, 931, 933, 935, 937, 939, 941, 943, 945, 947, 949, 951, 953, 955, 957, 959, 961, 963, 965, 967, 969, 971, 973, 975, 977, 979, 981, 983, 985, 987, 989, 991, 993, 995] (by decide +kernel) (by decide +kernel), tyX11_ok, nmX11, rfl, by decide⟩
theorem kf_X5_9 : Cond.fieldLink RX5 9 "LineToWreck$Page" "letters" "[I" ∈ zA := (zA_t 30 (by decide +kernel) rfl)
theorem kf_X5_15 : Cond.fieldLink RX5 15 "LineToWreck$Page" "length" "I" ∈ zA := (zA_t 31 (by decide +kernel) rfl)
theorem kf_X10_83 : Cond.fieldLink RX10 83 "LineToWreck$Page" "length" "I" ∈ zA := (zA_t 32 (by decide +kernel) rfl)
theorem kf_X7_35 : Cond.fieldLink RX7 35 "LineToWreck$Page" "length" "I" ∈ zA := (zA_t 33 (by decide +kernel) rfl)
theorem kf_X7_24 : Cond.fieldLink RX7 24 "LineToWreck$Sea" "far" "I" ∈ zA := (zA_t 46 (by decide +kernel) rfl)
theorem kf_X4_91 : Cond.fieldLink RX4 91 "LineToWreck$Sea" "far" "I" ∈ zA := (zA_t 47 (by decide +kernel) rfl)
theorem kf_X10_201 : Cond.fieldLink RX10 201 "LineToWreck$Sea" "far" "I" ∈ zA := (zA_t 48 (by decide +kernel) rfl)
theorem kf_X0_21 : Cond.fieldLink RX0 21 "LineToWreck$Sea" "stages" "I" ∈ zA := (zA_t 49 (by decide +kernel) rfl)
theorem kf_X9_41 : Cond.fieldLink RX9 41 "LineToWreck$Sea" "stages" "I" ∈ zA := (zA_t 50 (by decide +kernel) rfl)
theorem kf_X7_38 : Cond.fieldLink RX7 38 "LineToWreck$Sea" "stages" "I" ∈ zA := (zA_t 51 (by decide +kernel) rfl)
theorem kf_X10_112 : Cond.fieldLink RX10 112 "LineToWreck$Sea" "stages" "I" ∈ zA := (zA_t 52 (by decide +kernel) rfl)
theorem kf_X4_108 : Cond.fieldLink RX4 108 "LineToWreck$Sea" "stages" "I" ∈ zA := (zA_t 53 (by decide +kernel) rfl)
theorem kf_X7_28 : Cond.fieldLink RX7 28 "LineToWreck$Sea" "wind" "I" ∈ zA := (zA_t 54 (by decide +kernel) rfl)
theorem kf_X7_9 : Cond.fieldLink RX7 9 "LineToWreck$Sea" "gusts" "[I" ∈ zA := (zA_t 55 (by decide +kernel) rfl)
theorem kf_X7_15 : Cond.fieldLink RX7 15 "LineToWreck$Sea" "tenths" "[I" ∈ zA := (zA_t 56 (by decide +kernel) rfl)
theorem kf_X6_18 : Cond.fieldLink RX6 18 "LineToWreck$Rockets" "number" "I" ∈ zA := (zA_t 74 (by decide +kernel) rfl)
theorem kf_X0_43 : Cond.fieldLink RX0 43 "LineToWreck$Rockets" "number" "I" ∈ zA := (zA_t 75 (by decide +kernel) rfl)
theorem kf_X10_122 : Cond.fieldLink RX10 122 "LineToWreck$Rockets" "number" "I" ∈ zA := (zA_t 76 (by decide +kernel) rfl)
theorem kf_X6_9 : Cond.fieldLink RX6 9 "LineToWreck$Rockets" "ranges" "[I" ∈ zA := (zA_t 77 (by decide +kernel) rfl)
theorem kf_X6_15 : Cond.fieldLink RX6 15 "LineToWreck$Rockets" "damps" "[I" ∈ zA := (zA_t 78 (by decide +kernel) rfl)
theorem kf_X2_21 : Cond.fieldLink RX2 21 "LineToWreck$Crew" "number" "I" ∈ zA := (zA_t 92 (by decide +kernel) rfl)
theorem kf_X8_21 : Cond.fieldLink RX8 21 "LineToWreck$Crew" "number" "I" ∈ zA := (zA_t 93 (by decide +kernel) rfl)
theorem kf_X4_75 : Cond.fieldLink RX4 75 "LineToWreck$Crew" "number" "I" ∈ zA := (zA_t 94 (by decide +kernel) rfl)
theorem kf_X10_192 : Cond.fieldLink RX10 192 "LineToWreck$Crew" "number" "I" ∈ zA := (zA_t 95 (by decide +kernel) rfl)
theorem kf_X2_9 : Cond.fieldLink RX2 9 "LineToWreck$Crew" "kinds" "[I" ∈ zA := (zA_t 96 (by decide +kernel) rfl)
theorem kf_X2_15 : Cond.fieldLink RX2 15 "LineToWreck$Crew" "weights" "[I" ∈ zA := (zA_t 97 (by decide +kernel) rfl)
theorem kf_X2_18 : Cond.fieldLink RX2 18 "LineToWreck$Crew" "aheads" "[I" ∈ zA := (zA_t 98 (by decide +kernel) rfl)
theorem kf_X1_25 : Cond.fieldLink RX1 25 "LineToWreck$Course" "minute" "I" ∈ zA := (zA_t 114 (by decide +kernel) rfl)
theorem kf_X4_88 : Cond.fieldLink RX4 88 "LineToWreck$Course" "minute" "I" ∈ zA := (zA_t 115 (by decide +kernel) rfl)
theorem kf_X10_241 : Cond.fieldLink RX10 241 "LineToWreck$Course" "minute" "I" ∈ zA := (zA_t 116 (by decide +kernel) rfl)
theorem kf_X1_28 : Cond.fieldLink RX1 28 "LineToWreck$Course" "line" "Z" ∈ zA := (zA_t 117 (by decide +kernel) rfl)
theorem kf_X9_17 : Cond.fieldLink RX9 17 "LineToWreck$Course" "line" "Z" ∈ zA := (zA_t 118 (by decide +kernel) rfl)
theorem kf_X10_156 : Cond.fieldLink RX10 156 "LineToWreck$Course" "line" "Z" ∈ zA := (zA_t 119 (by decide +kernel) rfl)
theorem kf_X1_32 : Cond.fieldLink RX1 32 "LineToWreck$Course" "broken" "Z" ∈ zA := (zA_t 120 (by decide +kernel) rfl)
theorem kf_X9_24 : Cond.fieldLink RX9 24 "LineToWreck$Course" "broken" "Z" ∈ zA := (zA_t 121 (by decide +kernel) rfl)
theorem kf_X10_139 : Cond.fieldLink RX10 139 "LineToWreck$Course" "broken" "Z" ∈ zA := (zA_t 122 (by decide +kernel) rfl)
theorem kf_X1_35 : Cond.fieldLink RX1 35 "LineToWreck$Course" "fired" "I" ∈ zA := (zA_t 123 (by decide +kernel) rfl)
theorem kf_X9_28 : Cond.fieldLink RX9 28 "LineToWreck$Course" "fired" "I" ∈ zA := (zA_t 124 (by decide +kernel) rfl)
theorem kf_X0_61 : Cond.fieldLink RX0 61 "LineToWreck$Course" "fired" "I" ∈ zA := (zA_t 125 (by decide +kernel) rfl)
theorem kf_X10_132 : Cond.fieldLink RX10 132 "LineToWreck$Course" "fired" "I" ∈ zA := (zA_t 126 (by decide +kernel) rfl)
theorem kf_X4_19 : Cond.fieldLink RX4 19 "LineToWreck$Course" "over" "I" ∈ zA := (zA_t 127 (by decide +kernel) rfl)
theorem kf_X1_38 : Cond.fieldLink RX1 38 "LineToWreck$Course" "over" "I" ∈ zA := (zA_t 128 (by decide +kernel) rfl)
theorem kf_X10_218 : Cond.fieldLink RX10 218 "LineToWreck$Course" "over" "I" ∈ zA := (zA_t 129 (by decide +kernel) rfl)
theorem kf_X1_9 : Cond.fieldLink RX1 9 "LineToWreck$Course" "hawser" "I" ∈ zA := (zA_t 130 (by decide +kernel) rfl)
theorem kf_X4_96 : Cond.fieldLink RX4 96 "LineToWreck$Course" "hawser" "I" ∈ zA := (zA_t 131 (by decide +kernel) rfl)
theorem kf_X10_204 : Cond.fieldLink RX10 204 "LineToWreck$Course" "hawser" "I" ∈ zA := (zA_t 132 (by decide +kernel) rfl)
theorem kf_X1_41 : Cond.fieldLink RX1 41 "LineToWreck$Course" "saidCount" "I" ∈ zA := (zA_t 133 (by decide +kernel) rfl)
theorem kf_X10_275 : Cond.fieldLink RX10 275 "LineToWreck$Course" "saidCount" "I" ∈ zA := (zA_t 134 (by decide +kernel) rfl)
theorem kf_X1_44 : Cond.fieldLink RX1 44 "LineToWreck$Course" "wreckCount" "I" ∈ zA := (zA_t 135 (by decide +kernel) rfl)
theorem kf_X10_290 : Cond.fieldLink RX10 290 "LineToWreck$Course" "wreckCount" "I" ∈ zA := (zA_t 136 (by decide +kernel) rfl)
theorem kf_X1_15 : Cond.fieldLink RX1 15 "LineToWreck$Course" "overMinutes" "[I" ∈ zA := (zA_t 137 (by decide +kernel) rfl)
theorem kf_X1_19 : Cond.fieldLink RX1 19 "LineToWreck$Course" "saidAheads" "[I" ∈ zA := (zA_t 138 (by decide +kernel) rfl)
theorem kf_X1_22 : Cond.fieldLink RX1 22 "LineToWreck$Course" "wrecks" "[I" ∈ zA := (zA_t 139 (by decide +kernel) rfl)
theorem kf_X3_10 : Cond.fieldLink RX3 10 "LineToWreck$Image" "course" "LLineToWreck$Course;" ∈ zA := (zA_t 171 (by decide +kernel) rfl)
theorem kf_X10_313 : Cond.fieldLink RX10 313 "LineToWreck$Image" "course" "LLineToWreck$Course;" ∈ zA := (zA_t 172 (by decide +kernel) rfl)
theorem kf_X10_320 : Cond.fieldLink RX10 320 "LineToWreck$Image" "night" "I" ∈ zA := (zA_t 173 (by decide +kernel) rfl)
theorem kf_X10_323 : Cond.fieldLink RX10 323 "LineToWreck$Image" "rockets" "I" ∈ zA := (zA_t 174 (by decide +kernel) rfl)
theorem kf_X10_325 : Cond.fieldLink RX10 325 "LineToWreck$Image" "men" "I" ∈ zA := (zA_t 175 (by decide +kernel) rfl)
theorem kf_X0_52 : Cond.fieldLink RX0 52 "LineToWreck$AimSearch" "best" "J" ∈ zA := (zA_t 191 (by decide +kernel) rfl)
theorem kf_X10_182 : Cond.fieldLink RX10 182 "LineToWreck$AimSearch" "best" "J" ∈ zA := (zA_t 192 (by decide +kernel) rfl)
theorem kf_X0_39 : Cond.fieldLink RX0 39 "LineToWreck$AimSearch" "whole" "J" ∈ zA := (zA_t 193 (by decide +kernel) rfl)
theorem kf_X10_186 : Cond.fieldLink RX10 186 "LineToWreck$AimSearch" "whole" "J" ∈ zA := (zA_t 194 (by decide +kernel) rfl)
theorem kf_X0_79 : Cond.fieldLink RX0 79 "LineToWreck$AimSearch" "choice" "I" ∈ zA := (zA_t 195 (by decide +kernel) rfl)
theorem kf_X10_189 : Cond.fieldLink RX10 189 "LineToWreck$AimSearch" "choice" "I" ∈ zA := (zA_t 196 (by decide +kernel) rfl)
theorem kf_X0_9 : Cond.fieldLink RX0 9 "LineToWreck$AimSearch" "chances" "[J" ∈ zA := (zA_t 197 (by decide +kernel) rfl)
theorem kf_X4_54 : Cond.fieldLink RX4 54 "LineToWreck$OrderSearch" "most" "J" ∈ zA := (zA_t 214 (by decide +kernel) rfl)
theorem kf_X4_25 : Cond.fieldLink RX4 25 "LineToWreck$OrderSearch" "start" "I" ∈ zA := (zA_t 215 (by decide +kernel) rfl)
theorem kf_X4_9 : Cond.fieldLink RX4 9 "LineToWreck$OrderSearch" "worths" "[J" ∈ zA := (zA_t 216 (by decide +kernel) rfl)
theorem kf_X4_15 : Cond.fieldLink RX4 15 "LineToWreck$OrderSearch" "nexts" "[I" ∈ zA := (zA_t 217 (by decide +kernel) rfl)
theorem kf_X8_27 : Cond.fieldLink RX8 27 "LineToWreck$Successions" "number" "I" ∈ zA := (zA_t 233 (by decide +kernel) rfl)
theorem kf_X8_32 : Cond.fieldLink RX8 32 "LineToWreck$Successions" "all" "I" ∈ zA := (zA_t 234 (by decide +kernel) rfl)
theorem kf_X8_9 : Cond.fieldLink RX8 9 "LineToWreck$Successions" "aheads" "[I" ∈ zA := (zA_t 235 (by decide +kernel) rfl)
theorem kf_X8_15 : Cond.fieldLink RX8 15 "LineToWreck$Successions" "ways" "[I" ∈ zA := (zA_t 236 (by decide +kernel) rfl)
theorem kf_X8_18 : Cond.fieldLink RX8 18 "LineToWreck$Successions" "rests" "[I" ∈ zA := (zA_t 237 (by decide +kernel) rfl)
theorem kf_X9_7 : Cond.fieldLink RX9 7 "LineToWreck$Trial" "seed" "J" ∈ zA := (zA_t 255 (by decide +kernel) rfl)
theorem kf_X10_310 : Cond.fieldLink RX10 310 "LineToWreck$Trial" "seed" "J" ∈ zA := (zA_t 256 (by decide +kernel) rfl)
theorem kf_X9_13 : Cond.fieldLink RX9 13 "LineToWreck$Trial" "shots" "I" ∈ zA := (zA_t 257 (by decide +kernel) rfl)
theorem kf_X10_306 : Cond.fieldLink RX10 306 "LineToWreck$Trial" "shots" "I" ∈ zA := (zA_t 258 (by decide +kernel) rfl)
theorem kf_X9_23 : Cond.fieldLink RX9 23 "LineToWreck$Trial" "line" "Z" ∈ zA := (zA_t 259 (by decide +kernel) rfl)
theorem kf_X10_305 : Cond.fieldLink RX10 305 "LineToWreck$Trial" "line" "Z" ∈ zA := (zA_t 260 (by decide +kernel) rfl)
theorem kf_X9_27 : Cond.fieldLink RX9 27 "LineToWreck$Trial" "broken" "Z" ∈ zA := (zA_t 261 (by decide +kernel) rfl)
theorem kf_X10_309 : Cond.fieldLink RX10 309 "LineToWreck$Trial" "broken" "Z" ∈ zA := (zA_t 262 (by decide +kernel) rfl)
theorem kf_X10_10 : Cond.fieldLink RX10 10 "LineToWreck" "page" "LLineToWreck$Page;" ∈ zA := (zA_t 272 (by decide +kernel) rfl)
theorem kf_X10_19 : Cond.fieldLink RX10 19 "LineToWreck" "waters" "LLineToWreck$Sea;" ∈ zA := (zA_t 273 (by decide +kernel) rfl)
theorem kf_X10_26 : Cond.fieldLink RX10 26 "LineToWreck" "rockets" "LLineToWreck$Rockets;" ∈ zA := (zA_t 274 (by decide +kernel) rfl)
theorem kf_X10_33 : Cond.fieldLink RX10 33 "LineToWreck" "crew" "LLineToWreck$Crew;" ∈ zA := (zA_t 275 (by decide +kernel) rfl)
theorem kf_X10_40 : Cond.fieldLink RX10 40 "LineToWreck" "now" "LLineToWreck$Course;" ∈ zA := (zA_t 276 (by decide +kernel) rfl)
theorem kf_X10_47 : Cond.fieldLink RX10 47 "LineToWreck" "kept" "LLineToWreck$Image;" ∈ zA := (zA_t 277 (by decide +kernel) rfl)
theorem kf_X10_54 : Cond.fieldLink RX10 54 "LineToWreck" "aimSearch" "LLineToWreck$AimSearch;" ∈ zA := (zA_t 278 (by decide +kernel) rfl)
theorem kf_X10_61 : Cond.fieldLink RX10 61 "LineToWreck" "orderSearch" "LLineToWreck$OrderSearch;" ∈ zA := (zA_t 279 (by decide +kernel) rfl)
theorem kf_X10_68 : Cond.fieldLink RX10 68 "LineToWreck" "successions" "LLineToWreck$Successions;" ∈ zA := (zA_t 280 (by decide +kernel) rfl)
theorem kf_X10_75 : Cond.fieldLink RX10 75 "LineToWreck" "trial" "LLineToWreck$Trial;" ∈ zA := (zA_t 281 (by decide +kernel) rfl)
theorem kf_X10_109 : Cond.fieldLink RX10 109 "LineToWreck" "nightsRead" "I" ∈ zA := (zA_t 282 (by decide +kernel) rfl)
theorem kf_X10_255 : Cond.fieldLink RX10 255 "LineToWreck" "ordersDone" "I" ∈ zA := (zA_t 283 (by decide +kernel) rfl)
theorem kl_X10_159 : Cond.constantLong RX10 159 (-101) ∈ zA := (zA_t 447 (by decide +kernel) rfl)
theorem kl_X10_161 : Cond.constantLong RX10 161 (-102) ∈ zA := (zA_t 448 (by decide +kernel) rfl)
theorem kl_X10_167 : Cond.constantLong RX10 167 (10) ∈ zA := (zA_t 459 (by decide +kernel) rfl)
theorem kl_X10_176 : Cond.constantLong RX10 176 (-103) ∈ zA := (zA_t 478 (by decide +kernel) rfl)
theorem kl_X0_59 : Cond.constantLong RX0 59 (100) ∈ zA := (zA_t 513 (by decide +kernel) rfl)
theorem kc_J6_265 : Cond.constant RJ6 265 (1431655765) ∈ zA := (zA_t 635 (by decide +kernel) rfl)
theorem kc_J6_266 : Cond.constant RJ6 266 (858993459) ∈ zA := (zA_t 636 (by decide +kernel) rfl)
theorem kc_J6_267 : Cond.constant RJ6 267 (252645135) ∈ zA := (zA_t 637 (by decide +kernel) rfl)
theorem kl_X4_58 : Cond.constantLong RX4 58 (-1) ∈ zA := (zA_t 655 (by decide +kernel) rfl)
theorem kl_X4_103 : Cond.constantLong RX4 103 (1000000000) ∈ zA := (zA_t 668 (by decide +kernel) rfl)
theorem kl_X4_111 : Cond.constantLong RX4 111 (10) ∈ zA := (zA_t 670 (by decide +kernel) rfl)
theorem kl_X10_267 : Cond.constantLong RX10 267 (-1) ∈ zA := (zA_t 683 (by decide +kernel) rfl)
theorem kl_X10_273 : Cond.constantLong RX10 273 (1000000000) ∈ zA := (zA_t 688 (by decide +kernel) rfl)
theorem kl_X9_79 : Cond.constantLong RX9 79 (1103515245) ∈ zA := (zA_t 795 (by decide +kernel) rfl)
theorem kl_X9_81 : Cond.constantLong RX9 81 (12345) ∈ zA := (zA_t 796 (by decide +kernel) rfl)
theorem kl_X9_83 : Cond.constantLong RX9 83 (2147483648) ∈ zA := (zA_t 797 (by decide +kernel) rfl)
theorem kl_X9_85 : Cond.constantLong RX9 85 (65536) ∈ zA := (zA_t 798 (by decide +kernel) rfl)
theorem kl_X9_87 : Cond.constantLong RX9 87 (10) ∈ zA := (zA_t 799 (by decide +kernel) rfl)
theorem kl_X10_328 : Cond.constantLong RX10 328 (701) ∈ zA := (zA_t 828 (by decide +kernel) rfl)
theorem kl_X10_366 : Cond.constantLong RX10 366 (31) ∈ zA := (zA_t 837 (by decide +kernel) rfl)
theorem kf_X11_7 : Cond.fieldLink RX11 7 "LineToWreckModel" "page" "[I" ∈ zA := (zA_t 850 (by decide +kernel) rfl)
theorem kf_X11_81 : Cond.fieldLink RX11 81 "LineToWreckModel" "pageMany" "I" ∈ zA := (zA_t 851 (by decide +kernel) rfl)
theorem kf_X11_86 : Cond.fieldLink RX11 86 "LineToWreckModel" "readFar" "I" ∈ zA := (zA_t 852 (by decide +kernel) rfl)
theorem kf_X11_89 : Cond.fieldLink RX11 89 "LineToWreckModel" "readWind" "I" ∈ zA := (zA_t 853 (by decide +kernel) rfl)
theorem kf_X11_13 : Cond.fieldLink RX11 13 "LineToWreckModel" "readGusts" "[I" ∈ zA := (zA_t 854 (by decide +kernel) rfl)
theorem kf_X11_16 : Cond.fieldLink RX11 16 "LineToWreckModel" "readStages" "[I" ∈ zA := (zA_t 855 (by decide +kernel) rfl)
theorem kf_X11_96 : Cond.fieldLink RX11 96 "LineToWreckModel" "readMany" "I" ∈ zA := (zA_t 856 (by decide +kernel) rfl)
theorem kf_X11_106 : Cond.fieldLink RX11 106 "LineToWreckModel" "stages" "I" ∈ zA := (zA_t 857 (by decide +kernel) rfl)
theorem kf_X11_109 : Cond.fieldLink RX11 109 "LineToWreckModel" "far" "I" ∈ zA := (zA_t 858 (by decide +kernel) rfl)
theorem kf_X11_112 : Cond.fieldLink RX11 112 "LineToWreckModel" "wind" "I" ∈ zA := (zA_t 859 (by decide +kernel) rfl)
theorem kf_X11_115 : Cond.fieldLink RX11 115 "LineToWreckModel" "minute" "I" ∈ zA := (zA_t 860 (by decide +kernel) rfl)
theorem kf_X11_118 : Cond.fieldLink RX11 118 "LineToWreckModel" "line" "I" ∈ zA := (zA_t 861 (by decide +kernel) rfl)
theorem kf_X11_121 : Cond.fieldLink RX11 121 "LineToWreckModel" "broken" "I" ∈ zA := (zA_t 862 (by decide +kernel) rfl)
theorem kf_X11_72 : Cond.fieldLink RX11 72 "LineToWreckModel" "hawserNow" "I" ∈ zA := (zA_t 863 (by decide +kernel) rfl)
theorem kf_X11_136 : Cond.fieldLink RX11 136 "LineToWreckModel" "nightsRead" "I" ∈ zA := (zA_t 864 (by decide +kernel) rfl)
theorem kf_X11_19 : Cond.fieldLink RX11 19 "LineToWreckModel" "gusts" "[I" ∈ zA := (zA_t 865 (by decide +kernel) rfl)
theorem kf_X11_22 : Cond.fieldLink RX11 22 "LineToWreckModel" "breakTenths" "[I" ∈ zA := (zA_t 866 (by decide +kernel) rfl)
theorem kf_X11_124 : Cond.fieldLink RX11 124 "LineToWreckModel" "rockets" "I" ∈ zA := (zA_t 867 (by decide +kernel) rfl)
theorem kf_X11_25 : Cond.fieldLink RX11 25 "LineToWreckModel" "rocketRows" "[I" ∈ zA := (zA_t 868 (by decide +kernel) rfl)
theorem kf_X11_28 : Cond.fieldLink RX11 28 "LineToWreckModel" "made" "[J" ∈ zA := (zA_t 869 (by decide +kernel) rfl)
theorem kf_X11_32 : Cond.fieldLink RX11 32 "LineToWreckModel" "madeThen" "[J" ∈ zA := (zA_t 870 (by decide +kernel) rfl)
theorem kf_X11_183 : Cond.fieldLink RX11 183 "LineToWreckModel" "bestNow" "I" ∈ zA := (zA_t 871 (by decide +kernel) rfl)
theorem kf_X11_127 : Cond.fieldLink RX11 127 "LineToWreckModel" "men" "I" ∈ zA := (zA_t 872 (by decide +kernel) rfl)
theorem kf_X11_35 : Cond.fieldLink RX11 35 "LineToWreckModel" "menRows" "[I" ∈ zA := (zA_t 873 (by decide +kernel) rfl)
theorem kf_X11_38 : Cond.fieldLink RX11 38 "LineToWreckModel" "behindBits" "[I" ∈ zA := (zA_t 874 (by decide +kernel) rfl)
theorem kf_X11_251 : Cond.fieldLink RX11 251 "LineToWreckModel" "done" "I" ∈ zA := (zA_t 875 (by decide +kernel) rfl)
theorem kf_X11_41 : Cond.fieldLink RX11 41 "LineToWreckModel" "order" "[I" ∈ zA := (zA_t 876 (by decide +kernel) rfl)
theorem kf_X11_44 : Cond.fieldLink RX11 44 "LineToWreckModel" "bestOrder" "[I" ∈ zA := (zA_t 877 (by decide +kernel) rfl)
theorem kf_X11_241 : Cond.fieldLink RX11 241 "LineToWreckModel" "orderMany" "I" ∈ zA := (zA_t 878 (by decide +kernel) rfl)
theorem kf_X11_130 : Cond.fieldLink RX11 130 "LineToWreckModel" "saidMany" "I" ∈ zA := (zA_t 879 (by decide +kernel) rfl)
theorem kf_X11_47 : Cond.fieldLink RX11 47 "LineToWreckModel" "saidRows" "[I" ∈ zA := (zA_t 880 (by decide +kernel) rfl)
theorem kf_X11_50 : Cond.fieldLink RX11 50 "LineToWreckModel" "mayPlaces" "[I" ∈ zA := (zA_t 881 (by decide +kernel) rfl)
theorem kf_X11_133 : Cond.fieldLink RX11 133 "LineToWreckModel" "wrecks" "I" ∈ zA := (zA_t 882 (by decide +kernel) rfl)
theorem kf_X11_53 : Cond.fieldLink RX11 53 "LineToWreckModel" "wreckRows" "[I" ∈ zA := (zA_t 883 (by decide +kernel) rfl)
theorem kf_X11_280 : Cond.fieldLink RX11 280 "LineToWreckModel" "seedNow" "I" ∈ zA := (zA_t 884 (by decide +kernel) rfl)
theorem kf_X11_68 : Cond.fieldLink RX11 68 "LineToWreckModel" "keptNight" "I" ∈ zA := (zA_t 885 (by decide +kernel) rfl)
theorem kf_X11_297 : Cond.fieldLink RX11 297 "LineToWreckModel" "keptMinute" "I" ∈ zA := (zA_t 886 (by decide +kernel) rfl)
theorem kf_X11_300 : Cond.fieldLink RX11 300 "LineToWreckModel" "keptLine" "I" ∈ zA := (zA_t 887 (by decide +kernel) rfl)
theorem kf_X11_303 : Cond.fieldLink RX11 303 "LineToWreckModel" "keptBroken" "I" ∈ zA := (zA_t 888 (by decide +kernel) rfl)
theorem kf_X11_306 : Cond.fieldLink RX11 306 "LineToWreckModel" "keptHawser" "I" ∈ zA := (zA_t 889 (by decide +kernel) rfl)
theorem kf_X11_309 : Cond.fieldLink RX11 309 "LineToWreckModel" "keptSaid" "I" ∈ zA := (zA_t 890 (by decide +kernel) rfl)
theorem kf_X11_312 : Cond.fieldLink RX11 312 "LineToWreckModel" "keptWrecks" "I" ∈ zA := (zA_t 891 (by decide +kernel) rfl)
theorem kf_X11_315 : Cond.fieldLink RX11 315 "LineToWreckModel" "keptRockets" "I" ∈ zA := (zA_t 892 (by decide +kernel) rfl)
theorem kf_X11_318 : Cond.fieldLink RX11 318 "LineToWreckModel" "keptMen" "I" ∈ zA := (zA_t 893 (by decide +kernel) rfl)
theorem kf_X11_56 : Cond.fieldLink RX11 56 "LineToWreckModel" "keptRocketRows" "[I" ∈ zA := (zA_t 894 (by decide +kernel) rfl)
theorem kf_X11_59 : Cond.fieldLink RX11 59 "LineToWreckModel" "keptMenRows" "[I" ∈ zA := (zA_t 895 (by decide +kernel) rfl)
theorem kf_X11_62 : Cond.fieldLink RX11 62 "LineToWreckModel" "keptSaidRows" "[I" ∈ zA := (zA_t 896 (by decide +kernel) rfl)
theorem kf_X11_65 : Cond.fieldLink RX11 65 "LineToWreckModel" "keptWreckRows" "[I" ∈ zA := (zA_t 897 (by decide +kernel) rfl)
theorem kf_X11_326 : Cond.fieldLink RX11 326 "LineToWreckModel" "hash" "J" ∈ zA := (zA_t 898 (by decide +kernel) rfl)
theorem kl_X11_75 : Cond.constantLong RX11 75 (126) ∈ zA := (zA_t 1002 (by decide +kernel) rfl)
theorem kl_X11_84 : Cond.constantLong RX11 84 (9) ∈ zA := (zA_t 1022 (by decide +kernel) rfl)
theorem kl_X11_139 : Cond.constantLong RX11 139 (4) ∈ zA := (zA_t 1035 (by decide +kernel) rfl)
theorem kl_X11_141 : Cond.constantLong RX11 141 (10) ∈ zA := (zA_t 1036 (by decide +kernel) rfl)
theorem kl_X11_143 : Cond.constantLong RX11 143 (19) ∈ zA := (zA_t 1037 (by decide +kernel) rfl)
theorem kl_X11_153 : Cond.constantLong RX11 153 (120) ∈ zA := (zA_t 1050 (by decide +kernel) rfl)
theorem kl_X11_159 : Cond.constantLong RX11 159 (-1) ∈ zA := (zA_t 1059 (by decide +kernel) rfl)
theorem kl_X11_171 : Cond.constantLong RX11 171 (-101) ∈ zA := (zA_t 1076 (by decide +kernel) rfl)
theorem kl_X11_173 : Cond.constantLong RX11 173 (-102) ∈ zA := (zA_t 1077 (by decide +kernel) rfl)
theorem kl_X11_186 : Cond.constantLong RX11 186 (100) ∈ zA := (zA_t 1097 (by decide +kernel) rfl)
theorem kl_X11_205 : Cond.constantLong RX11 205 (-103) ∈ zA := (zA_t 1109 (by decide +kernel) rfl)
theorem kl_X11_211 : Cond.constantLong RX11 211 (30) ∈ zA := (zA_t 1122 (by decide +kernel) rfl)
theorem kl_X11_234 : Cond.constantLong RX11 234 (60) ∈ zA := (zA_t 1167 (by decide +kernel) rfl)
theorem kl_X11_236 : Cond.constantLong RX11 236 (50) ∈ zA := (zA_t 1176 (by decide +kernel) rfl)
theorem kl_X11_249 : Cond.constantLong RX11 249 (15) ∈ zA := (zA_t 1188 (by decide +kernel) rfl)
theorem kl_X11_244 : Cond.constantLong RX11 244 (10000000000) ∈ zA := (zA_t 1201 (by decide +kernel) rfl)
theorem kl_X11_273 : Cond.constantLong RX11 273 (99) ∈ zA := (zA_t 1234 (by decide +kernel) rfl)
theorem kl_X11_288 : Cond.constantLong RX11 288 (3) ∈ zA := (zA_t 1247 (by decide +kernel) rfl)
theorem kl_X11_278 : Cond.constantLong RX11 278 (1103515245) ∈ zA := (zA_t 1252 (by decide +kernel) rfl)
theorem kl_X11_283 : Cond.constantLong RX11 283 (12345) ∈ zA := (zA_t 1253 (by decide +kernel) rfl)
theorem kl_X11_285 : Cond.constantLong RX11 285 (2147483647) ∈ zA := (zA_t 1254 (by decide +kernel) rfl)
theorem kc_X11_287 : Cond.constant RX11 287 (65536) ∈ zA := (zA_t 1255 (by decide +kernel) rfl)
theorem kl_X11_330 : Cond.constantLong RX11 330 (701) ∈ zA := (zA_t 1279 (by decide +kernel) rfl)
theorem kl_X11_324 : Cond.constantLong RX11 324 (31) ∈ zA := (zA_t 1284 (by decide +kernel) rfl)
theorem km_L_9 : Cond.methodLink RL 9 yX10_init ∈ zA := (zA_t 18 (by decide +kernel) rfl)
theorem km_L_13 : Cond.methodLink RL 13 yX10_letter ∈ zA := (zA_t 309 (by decide +kernel) rfl)
theorem km_X10_79 : Cond.methodLink RX10 79 yX10_isOutside ∈ zA := (zA_t 313 (by decide +kernel) rfl)
theorem km_X10_87 : Cond.methodLink RX10 87 yX5_add ∈ zA := (zA_t 316 (by decide +kernel) rfl)
theorem km_L_18 : Cond.methodLink RL 18 yX10_blank ∈ zA := (zA_t 323 (by decide +kernel) rfl)
theorem km_X10_91 : Cond.methodLink RX10 91 yX5_clear ∈ zA := (zA_t 327 (by decide +kernel) rfl)
theorem km_L_23 : Cond.methodLink RL 23 yX10_fault ∈ zA := (zA_t 331 (by decide +kernel) rfl)
theorem km_X10_94 : Cond.methodLink RX10 94 yX5_faultPlace ∈ zA := (zA_t 335 (by decide +kernel) rfl)
theorem km_X5_31 : Cond.methodLink RX5 31 yX5_fits ∈ zA := (zA_t 339 (by decide +kernel) rfl)
theorem km_X5_35 : Cond.methodLink RX5 35 yX5_letterAt ∈ zA := (zA_t 343 (by decide +kernel) rfl)
theorem km_X5_39 : Cond.methodLink RX5 39 yX5_digitAt ∈ zA := (zA_t 350 (by decide +kernel) rfl)
theorem km_X5_46 : Cond.methodLink RX5 46 yX5_gustsTo ∈ zA := (zA_t 355 (by decide +kernel) rfl)
theorem km_L_27 : Cond.methodLink RL 27 yX10_night ∈ zA := (zA_t 359 (by decide +kernel) rfl)
theorem km_X10_98 : Cond.methodLink RX10 98 yX5_isNight ∈ zA := (zA_t 363 (by decide +kernel) rfl)
theorem km_X5_27 : Cond.methodLink RX5 27 yX5_faultPlace ∈ zA := (zA_t 367 (by decide +kernel) rfl)
theorem km_X10_102 : Cond.methodLink RX10 102 yX7_read ∈ zA := (zA_t 368 (by decide +kernel) rfl)
theorem km_X7_18 : Cond.methodLink RX7 18 yX5_digitAt ∈ zA := (zA_t 372 (by decide +kernel) rfl)
theorem km_X10_106 : Cond.methodLink RX10 106 yX6_clear ∈ zA := (zA_t 374 (by decide +kernel) rfl)
theorem km_X10_107 : Cond.methodLink RX10 107 yX2_clear ∈ zA := (zA_t 378 (by decide +kernel) rfl)
theorem km_X2_25 : Cond.methodLink RX2 25 yJ7_fill_53178 ∈ zA := (zA_t 382 (by decide +kernel) rfl)
theorem km_X10_108 : Cond.methodLink RX10 108 yX1_clear ∈ zA := (zA_t 385 (by decide +kernel) rfl)
theorem km_X1_47 : Cond.methodLink RX1 47 yJ7_fill_53178 ∈ zA := (zA_t 389 (by decide +kernel) rfl)
theorem km_L_31 : Cond.methodLink RL 31 yX10_sea ∈ zA := (zA_t 390 (by decide +kernel) rfl)
theorem km_X10_115 : Cond.methodLink RX10 115 yX10_hasNight ∈ zA := (zA_t 394 (by decide +kernel) rfl)
theorem km_X10_118 : Cond.methodLink RX10 118 yX7_tell ∈ zA := (zA_t 398 (by decide +kernel) rfl)
theorem km_L_35 : Cond.methodLink RL 35 yX10_rocket ∈ zA := (zA_t 403 (by decide +kernel) rfl)
theorem km_X10_125 : Cond.methodLink RX10 125 yX6_add ∈ zA := (zA_t 407 (by decide +kernel) rfl)
theorem km_L_40 : Cond.methodLink RL 40 yX10_fire ∈ zA := (zA_t 412 (by decide +kernel) rfl)
theorem km_X10_128 : Cond.methodLink RX10 128 yX6_has ∈ zA := (zA_t 416 (by decide +kernel) rfl)
theorem km_X10_135 : Cond.methodLink RX10 135 yX10_isIn ∈ zA := (zA_t 420 (by decide +kernel) rfl)
theorem km_X10_143 : Cond.methodLink RX10 143 yX1_stage ∈ zA := (zA_t 423 (by decide +kernel) rfl)
theorem km_X10_146 : Cond.methodLink RX10 146 yX6_fallsAt ∈ zA := (zA_t 427 (by decide +kernel) rfl)
theorem km_X6_30 : Cond.methodLink RX6 30 yX7_drift ∈ zA := (zA_t 432 (by decide +kernel) rfl)
theorem km_X10_150 : Cond.methodLink RX10 150 yX10_with ∈ zA := (zA_t 436 (by decide +kernel) rfl)
theorem km_X10_153 : Cond.methodLink RX10 153 yX7_isRight ∈ zA := (zA_t 439 (by decide +kernel) rfl)
theorem km_L_44 : Cond.methodLink RL 44 yX10_hits ∈ zA := (zA_t 443 (by decide +kernel) rfl)
theorem km_X10_163 : Cond.methodLink RX10 163 yX6_hitTenths ∈ zA := (zA_t 449 (by decide +kernel) rfl)
theorem km_X6_36 : Cond.methodLink RX6 36 yX6_fallsAt ∈ zA := (zA_t 453 (by decide +kernel) rfl)
theorem km_X6_40 : Cond.methodLink RX6 40 yX7_isRight ∈ zA := (zA_t 454 (by decide +kernel) rfl)
theorem km_X6_44 : Cond.methodLink RX6 44 yX7_gustTenths ∈ zA := (zA_t 455 (by decide +kernel) rfl)
theorem km_X10_169 : Cond.methodLink RX10 169 yX10_inLowestTerms ∈ zA := (zA_t 460 (by decide +kernel) rfl)
theorem km_X10_368 : Cond.methodLink RX10 368 yX10_commonDivisor ∈ zA := (zA_t 463 (by decide +kernel) rfl)
theorem km_L_49 : Cond.methodLink RL 49 yX10_aim ∈ zA := (zA_t 466 (by decide +kernel) rfl)
theorem km_X10_173 : Cond.methodLink RX10 173 yX10_canAim ∈ zA := (zA_t 470 (by decide +kernel) rfl)
theorem km_X10_244 : Cond.methodLink RX10 244 yX10_isAfloat ∈ zA := (zA_t 474 (by decide +kernel) rfl)
theorem km_X10_178 : Cond.methodLink RX10 178 yX0_search ∈ zA := (zA_t 479 (by decide +kernel) rfl)
theorem km_X0_15 : Cond.methodLink RX0 15 yX1_stage ∈ zA := (zA_t 483 (by decide +kernel) rfl)
theorem km_min_X0_27 : Cond.methodLink RX0 27 Lib.Math.min.name ∈ zA := (zA_t 484 (by decide +kernel) rfl)
theorem km_X0_33 : Cond.methodLink RX0 33 yJ7_fill_d0a16 ∈ zA := (zA_t 487 (by decide +kernel) rfl)
theorem km_X0_48 : Cond.methodLink RX0 48 yX0_findBest ∈ zA := (zA_t 490 (by decide +kernel) rfl)
theorem km_X0_68 : Cond.methodLink RX0 68 yX7_breakTenths ∈ zA := (zA_t 494 (by decide +kernel) rfl)
theorem km_X0_75 : Cond.methodLink RX0 75 yX0_chance ∈ zA := (zA_t 501 (by decide +kernel) rfl)
theorem km_X0_86 : Cond.methodLink RX0 86 yX6_hitTenths ∈ zA := (zA_t 506 (by decide +kernel) rfl)
theorem km_X0_64 : Cond.methodLink RX0 64 yX6_left ∈ zA := (zA_t 514 (by decide +kernel) rfl)
theorem km_L_54 : Cond.methodLink RL 54 yX10_which ∈ zA := (zA_t 518 (by decide +kernel) rfl)
theorem km_L_58 : Cond.methodLink RL 58 yX10_man ∈ zA := (zA_t 522 (by decide +kernel) rfl)
theorem km_X10_193 : Cond.methodLink RX10 193 yX2_add ∈ zA := (zA_t 526 (by decide +kernel) rfl)
theorem km_L_62 : Cond.methodLink RL 62 yX10_about ∈ zA := (zA_t 531 (by decide +kernel) rfl)
theorem km_X10_194 : Cond.methodLink RX10 194 yX2_has ∈ zA := (zA_t 535 (by decide +kernel) rfl)
theorem km_X10_195 : Cond.methodLink RX10 195 yX2_kind ∈ zA := (zA_t 539 (by decide +kernel) rfl)
theorem km_X10_198 : Cond.methodLink RX10 198 yX2_weight ∈ zA := (zA_t 544 (by decide +kernel) rfl)
theorem km_X10_207 : Cond.methodLink RX10 207 yX2_takes ∈ zA := (zA_t 548 (by decide +kernel) rfl)
theorem km_X2_58 : Cond.methodLink RX2 58 yX2_weight ∈ zA := (zA_t 552 (by decide +kernel) rfl)
theorem km_X2_39 : Cond.methodLink RX2 39 yX2_kind ∈ zA := (zA_t 553 (by decide +kernel) rfl)
theorem km_X2_61 : Cond.methodLink RX2 61 yX2_sags ∈ zA := (zA_t 554 (by decide +kernel) rfl)
theorem km_X10_211 : Cond.methodLink RX10 211 yX2_sags ∈ zA := (zA_t 558 (by decide +kernel) rfl)
theorem km_X10_214 : Cond.methodLink RX10 214 yX10_asNumber ∈ zA := (zA_t 559 (by decide +kernel) rfl)
theorem km_X10_221 : Cond.methodLink RX10 221 yX1_overMinute ∈ zA := (zA_t 562 (by decide +kernel) rfl)
theorem km_X10_224 : Cond.methodLink RX10 224 yX10_mayCome ∈ zA := (zA_t 568 (by decide +kernel) rfl)
theorem km_X10_360 : Cond.methodLink RX10 360 yX2_ahead ∈ zA := (zA_t 572 (by decide +kernel) rfl)
theorem km_X2_54 : Cond.methodLink RX2 54 yX2_allButCaptains ∈ zA := (zA_t 576 (by decide +kernel) rfl)
theorem km_X10_363 : Cond.methodLink RX10 363 yX10_holdsAll ∈ zA := (zA_t 581 (by decide +kernel) rfl)
theorem km_X10_247 : Cond.methodLink RX10 247 yX7_endMinute ∈ zA := (zA_t 584 (by decide +kernel) rfl)
theorem km_L_66 : Cond.methodLink RL 66 yX10_as ∈ zA := (zA_t 588 (by decide +kernel) rfl)
theorem km_X10_227 : Cond.methodLink RX10 227 yX2_isOf ∈ zA := (zA_t 592 (by decide +kernel) rfl)
theorem km_L_70 : Cond.methodLink RL 70 yX10_behind ∈ zA := (zA_t 596 (by decide +kernel) rfl)
theorem km_X10_230 : Cond.methodLink RX10 230 yX10_areTwoMen ∈ zA := (zA_t 600 (by decide +kernel) rfl)
theorem km_X10_233 : Cond.methodLink RX10 233 yX2_putBehind ∈ zA := (zA_t 604 (by decide +kernel) rfl)
theorem km_L_75 : Cond.methodLink RL 75 yX10_hawser ∈ zA := (zA_t 610 (by decide +kernel) rfl)
theorem km_L_79 : Cond.methodLink RL 79 yX10_come ∈ zA := (zA_t 614 (by decide +kernel) rfl)
theorem km_X10_237 : Cond.methodLink RX10 237 yX1_bringOver ∈ zA := (zA_t 618 (by decide +kernel) rfl)
theorem km_L_83 : Cond.methodLink RL 83 yX10_minutes ∈ zA := (zA_t 624 (by decide +kernel) rfl)
theorem km_L_87 : Cond.methodLink RL 87 yX10_breaks ∈ zA := (zA_t 628 (by decide +kernel) rfl)
theorem km_X10_250 : Cond.methodLink RX10 250 yJ6_bitCount_0f7a4 ∈ zA := (zA_t 632 (by decide +kernel) rfl)
theorem km_L_91 : Cond.methodLink RL 91 yX10_order ∈ zA := (zA_t 638 (by decide +kernel) rfl)
theorem km_X10_258 : Cond.methodLink RX10 258 yX4_search ∈ zA := (zA_t 642 (by decide +kernel) rfl)
theorem km_X4_28 : Cond.methodLink RX4 28 yX2_all ∈ zA := (zA_t 646 (by decide +kernel) rfl)
theorem km_X4_38 : Cond.methodLink RX4 38 yX4_findNext ∈ zA := (zA_t 651 (by decide +kernel) rfl)
theorem km_X4_81 : Cond.methodLink RX4 81 yX2_ahead ∈ zA := (zA_t 658 (by decide +kernel) rfl)
theorem km_X4_42 : Cond.methodLink RX4 42 yX4_minuteWith ∈ zA := (zA_t 661 (by decide +kernel) rfl)
theorem km_X4_99 : Cond.methodLink RX4 99 yX2_takes ∈ zA := (zA_t 664 (by decide +kernel) rfl)
theorem km_X4_46 : Cond.methodLink RX4 46 yX4_holding ∈ zA := (zA_t 665 (by decide +kernel) rfl)
theorem km_X4_105 : Cond.methodLink RX4 105 yX1_stage ∈ zA := (zA_t 669 (by decide +kernel) rfl)
theorem km_X4_113 : Cond.methodLink RX4 113 yX7_breakTenths ∈ zA := (zA_t 671 (by decide +kernel) rfl)
theorem km_X4_50 : Cond.methodLink RX4 50 yX4_isThere ∈ zA := (zA_t 672 (by decide +kernel) rfl)
theorem km_X10_261 : Cond.methodLink RX10 261 yX4_manAt ∈ zA := (zA_t 677 (by decide +kernel) rfl)
theorem km_X10_264 : Cond.methodLink RX10 264 yX4_isThere ∈ zA := (zA_t 682 (by decide +kernel) rfl)
theorem km_X10_269 : Cond.methodLink RX10 269 yX4_most ∈ zA := (zA_t 684 (by decide +kernel) rfl)
theorem km_L_96 : Cond.methodLink RL 96 yX10_said ∈ zA := (zA_t 689 (by decide +kernel) rfl)
theorem km_X10_278 : Cond.methodLink RX10 278 yX1_say ∈ zA := (zA_t 693 (by decide +kernel) rfl)
theorem km_L_100 : Cond.methodLink RL 100 yX10_orders ∈ zA := (zA_t 697 (by decide +kernel) rfl)
theorem km_X10_281 : Cond.methodLink RX10 281 yX8_search ∈ zA := (zA_t 701 (by decide +kernel) rfl)
theorem km_X8_28 : Cond.methodLink RX8 28 yX2_all ∈ zA := (zA_t 705 (by decide +kernel) rfl)
theorem km_X8_34 : Cond.methodLink RX8 34 yX2_ahead ∈ zA := (zA_t 706 (by decide +kernel) rfl)
theorem km_X8_38 : Cond.methodLink RX8 38 yX1_saidAhead ∈ zA := (zA_t 707 (by decide +kernel) rfl)
theorem km_X8_47 : Cond.methodLink RX8 47 yX8_countWays ∈ zA := (zA_t 712 (by decide +kernel) rfl)
theorem km_X8_70 : Cond.methodLink RX8 70 yJ7_fill_53178 ∈ zA := (zA_t 716 (by decide +kernel) rfl)
theorem km_X8_57 : Cond.methodLink RX8 57 yX8_mayFollow ∈ zA := (zA_t 717 (by decide +kernel) rfl)
theorem km_X8_50 : Cond.methodLink RX8 50 yX8_countRests ∈ zA := (zA_t 725 (by decide +kernel) rfl)
theorem km_X10_284 : Cond.methodLink RX10 284 yX8_total ∈ zA := (zA_t 729 (by decide +kernel) rfl)
theorem km_L_104 : Cond.methodLink RL 104 yX10_sure ∈ zA := (zA_t 733 (by decide +kernel) rfl)
theorem km_X10_287 : Cond.methodLink RX10 287 yX8_surePlace ∈ zA := (zA_t 737 (by decide +kernel) rfl)
theorem km_X8_65 : Cond.methodLink RX8 65 yJ6_bitCount_0f7a4 ∈ zA := (zA_t 741 (by decide +kernel) rfl)
theorem km_L_108 : Cond.methodLink RL 108 yX10_wreck ∈ zA := (zA_t 742 (by decide +kernel) rfl)
theorem km_X10_293 : Cond.methodLink RX10 293 yX1_addWreck ∈ zA := (zA_t 746 (by decide +kernel) rfl)
theorem km_L_112 : Cond.methodLink RL 112 yX10_stations ∈ zA := (zA_t 750 (by decide +kernel) rfl)
theorem km_X10_296 : Cond.methodLink RX10 296 yX1_fewestStations ∈ zA := (zA_t 754 (by decide +kernel) rfl)
theorem km_X1_69 : Cond.methodLink RX1 69 yX1_leastWreckFrom ∈ zA := (zA_t 758 (by decide +kernel) rfl)
theorem km_X1_73 : Cond.methodLink RX1 73 yX1_stationFor ∈ zA := (zA_t 762 (by decide +kernel) rfl)
theorem km_min_X1_76 : Cond.methodLink RX1 76 Lib.Math.min.name ∈ zA := (zA_t 766 (by decide +kernel) rfl)
theorem km_X10_299 : Cond.methodLink RX10 299 yX1_firstStation ∈ zA := (zA_t 767 (by decide +kernel) rfl)
theorem km_L_116 : Cond.methodLink RL 116 yX10_nights ∈ zA := (zA_t 771 (by decide +kernel) rfl)
theorem km_X10_302 : Cond.methodLink RX10 302 yX9_run ∈ zA := (zA_t 775 (by decide +kernel) rfl)
theorem km_X9_31 : Cond.methodLink RX9 31 yX6_left ∈ zA := (zA_t 779 (by decide +kernel) rfl)
theorem km_X9_37 : Cond.methodLink RX9 37 yX1_stage ∈ zA := (zA_t 780 (by decide +kernel) rfl)
theorem km_X9_46 : Cond.methodLink RX9 46 yX6_leastOf ∈ zA := (zA_t 781 (by decide +kernel) rfl)
theorem km_X9_55 : Cond.methodLink RX9 55 yX9_drawGust ∈ zA := (zA_t 787 (by decide +kernel) rfl)
theorem km_X9_67 : Cond.methodLink RX9 67 yX9_draw ∈ zA := (zA_t 791 (by decide +kernel) rfl)
theorem km_X9_76 : Cond.methodLink RX9 76 yX7_gustTenths ∈ zA := (zA_t 800 (by decide +kernel) rfl)
theorem km_X9_59 : Cond.methodLink RX9 59 yX6_fallsAt ∈ zA := (zA_t 801 (by decide +kernel) rfl)
theorem km_X9_63 : Cond.methodLink RX9 63 yX7_isRight ∈ zA := (zA_t 802 (by decide +kernel) rfl)
theorem km_X9_70 : Cond.methodLink RX9 70 yX7_isLast ∈ zA := (zA_t 803 (by decide +kernel) rfl)
theorem km_X9_73 : Cond.methodLink RX9 73 yX7_breakTenths ∈ zA := (zA_t 807 (by decide +kernel) rfl)
theorem km_L_120 : Cond.methodLink RL 120 yX10_image ∈ zA := (zA_t 808 (by decide +kernel) rfl)
theorem km_X10_316 : Cond.methodLink RX10 316 yX1_takeFrom ∈ zA := (zA_t 812 (by decide +kernel) rfl)
theorem km_L_124 : Cond.methodLink RL 124 yX10_restore ∈ zA := (zA_t 816 (by decide +kernel) rfl)
theorem km_L_128 : Cond.methodLink RL 128 yX10_count ∈ zA := (zA_t 820 (by decide +kernel) rfl)
theorem km_L_132 : Cond.methodLink RL 132 yX10_digest ∈ zA := (zA_t 824 (by decide +kernel) rfl)
theorem km_X10_330 : Cond.methodLink RX10 330 yX10_mixSea ∈ zA := (zA_t 829 (by decide +kernel) rfl)
theorem km_X10_357 : Cond.methodLink RX10 357 yX10_sea ∈ zA := (zA_t 833 (by decide +kernel) rfl)
theorem km_X10_338 : Cond.methodLink RX10 338 yX10_mix ∈ zA := (zA_t 834 (by decide +kernel) rfl)
theorem km_X10_334 : Cond.methodLink RX10 334 yX10_hits ∈ zA := (zA_t 838 (by decide +kernel) rfl)
theorem km_X10_342 : Cond.methodLink RX10 342 yX10_about ∈ zA := (zA_t 839 (by decide +kernel) rfl)
theorem km_X10_345 : Cond.methodLink RX10 345 yX10_orders ∈ zA := (zA_t 840 (by decide +kernel) rfl)
theorem km_X10_348 : Cond.methodLink RX10 348 yX10_stations ∈ zA := (zA_t 841 (by decide +kernel) rfl)
theorem km_X10_351 : Cond.methodLink RX10 351 yX5_letterAt ∈ zA := (zA_t 842 (by decide +kernel) rfl)
theorem km_X10_354 : Cond.methodLink RX10 354 yX10_count ∈ zA := (zA_t 843 (by decide +kernel) rfl)
theorem km_L_12 : Cond.methodLink RL 12 yX11_init ∈ zA := (zA_t 846 (by decide +kernel) rfl)
theorem km_L_17 : Cond.methodLink RL 17 yX11_letter ∈ zA := (zA_t 998 (by decide +kernel) rfl)
theorem km_X11_77 : Cond.methodLink RX11 77 yX11_in ∈ zA := (zA_t 1003 (by decide +kernel) rfl)
theorem km_L_22 : Cond.methodLink RL 22 yX11_blank ∈ zA := (zA_t 1006 (by decide +kernel) rfl)
theorem km_L_26 : Cond.methodLink RL 26 yX11_fault ∈ zA := (zA_t 1010 (by decide +kernel) rfl)
theorem km_X11_102 : Cond.methodLink RX11 102 yX11_faultOf ∈ zA := (zA_t 1014 (by decide +kernel) rfl)
theorem km_X11_99 : Cond.methodLink RX11 99 yX11_go ∈ zA := (zA_t 1018 (by decide +kernel) rfl)
theorem km_X11_92 : Cond.methodLink RX11 92 yX11_goGust ∈ zA := (zA_t 1023 (by decide +kernel) rfl)
theorem km_L_30 : Cond.methodLink RL 30 yX11_night ∈ zA := (zA_t 1027 (by decide +kernel) rfl)
theorem km_L_34 : Cond.methodLink RL 34 yX11_sea ∈ zA := (zA_t 1031 (by decide +kernel) rfl)
theorem km_X11_145 : Cond.methodLink RX11 145 yX11_lacks ∈ zA := (zA_t 1038 (by decide +kernel) rfl)
theorem km_X11_149 : Cond.methodLink RX11 149 yX11_tellSea ∈ zA := (zA_t 1042 (by decide +kernel) rfl)
theorem km_L_39 : Cond.methodLink RL 39 yX11_rocket ∈ zA := (zA_t 1046 (by decide +kernel) rfl)
theorem km_L_43 : Cond.methodLink RL 43 yX11_fire ∈ zA := (zA_t 1051 (by decide +kernel) rfl)
theorem km_X11_155 : Cond.methodLink RX11 155 yX11_isRocket ∈ zA := (zA_t 1055 (by decide +kernel) rfl)
theorem km_X11_161 : Cond.methodLink RX11 161 yX11_stageNow ∈ zA := (zA_t 1060 (by decide +kernel) rfl)
theorem km_X11_164 : Cond.methodLink RX11 164 yX11_fallsAt ∈ zA := (zA_t 1064 (by decide +kernel) rfl)
theorem km_X11_168 : Cond.methodLink RX11 168 yX11_isRight ∈ zA := (zA_t 1068 (by decide +kernel) rfl)
theorem km_L_48 : Cond.methodLink RL 48 yX11_hits ∈ zA := (zA_t 1072 (by decide +kernel) rfl)
theorem km_X11_175 : Cond.methodLink RX11 175 yX11_hitTenths ∈ zA := (zA_t 1078 (by decide +kernel) rfl)
theorem km_X11_179 : Cond.methodLink RX11 179 yX11_term ∈ zA := (zA_t 1082 (by decide +kernel) rfl)
theorem km_L_53 : Cond.methodLink RL 53 yX11_aim ∈ zA := (zA_t 1085 (by decide +kernel) rfl)
theorem km_X11_195 : Cond.methodLink RX11 195 yX11_isAiming ∈ zA := (zA_t 1089 (by decide +kernel) rfl)
theorem km_X11_198 : Cond.methodLink RX11 198 yX11_aimOf ∈ zA := (zA_t 1093 (by decide +kernel) rfl)
theorem km_X11_188 : Cond.methodLink RX11 188 yX11_bestOf ∈ zA := (zA_t 1098 (by decide +kernel) rfl)
theorem km_X11_192 : Cond.methodLink RX11 192 yX11_leftBits ∈ zA := (zA_t 1102 (by decide +kernel) rfl)
theorem km_X11_202 : Cond.methodLink RX11 202 yX11_hundreds ∈ zA := (zA_t 1106 (by decide +kernel) rfl)
theorem km_L_57 : Cond.methodLink RL 57 yX11_which ∈ zA := (zA_t 1110 (by decide +kernel) rfl)
theorem km_X11_207 : Cond.methodLink RX11 207 yX11_layLater ∈ zA := (zA_t 1114 (by decide +kernel) rfl)
theorem km_L_61 : Cond.methodLink RL 61 yX11_man ∈ zA := (zA_t 1118 (by decide +kernel) rfl)
theorem km_L_65 : Cond.methodLink RL 65 yX11_about ∈ zA := (zA_t 1123 (by decide +kernel) rfl)
theorem km_X11_228 : Cond.methodLink RX11 228 yX11_isMan ∈ zA := (zA_t 1127 (by decide +kernel) rfl)
theorem km_X11_231 : Cond.methodLink RX11 231 yX11_tellMan ∈ zA := (zA_t 1131 (by decide +kernel) rfl)
theorem km_X11_222 : Cond.methodLink RX11 222 yX11_takes ∈ zA := (zA_t 1135 (by decide +kernel) rfl)
theorem km_X11_213 : Cond.methodLink RX11 213 yX11_sags ∈ zA := (zA_t 1139 (by decide +kernel) rfl)
theorem km_X11_225 : Cond.methodLink RX11 225 yX11_mayCome ∈ zA := (zA_t 1143 (by decide +kernel) rfl)
theorem km_X11_216 : Cond.methodLink RX11 216 yX11_overBits ∈ zA := (zA_t 1147 (by decide +kernel) rfl)
theorem km_X11_219 : Cond.methodLink RX11 219 yX11_canCome ∈ zA := (zA_t 1151 (by decide +kernel) rfl)
theorem km_L_69 : Cond.methodLink RL 69 yX11_as ∈ zA := (zA_t 1155 (by decide +kernel) rfl)
theorem km_L_74 : Cond.methodLink RL 74 yX11_behind ∈ zA := (zA_t 1159 (by decide +kernel) rfl)
theorem km_L_78 : Cond.methodLink RL 78 yX11_hawser ∈ zA := (zA_t 1163 (by decide +kernel) rfl)
theorem km_L_82 : Cond.methodLink RL 82 yX11_come ∈ zA := (zA_t 1168 (by decide +kernel) rfl)
theorem km_L_86 : Cond.methodLink RL 86 yX11_minutes ∈ zA := (zA_t 1172 (by decide +kernel) rfl)
theorem km_L_90 : Cond.methodLink RL 90 yX11_breaks ∈ zA := (zA_t 1177 (by decide +kernel) rfl)
theorem km_X11_238 : Cond.methodLink RX11 238 yX11_ones ∈ zA := (zA_t 1181 (by decide +kernel) rfl)
theorem km_L_95 : Cond.methodLink RL 95 yX11_order ∈ zA := (zA_t 1184 (by decide +kernel) rfl)
theorem km_X11_254 : Cond.methodLink RX11 254 yX11_firstOrder ∈ zA := (zA_t 1189 (by decide +kernel) rfl)
theorem km_X11_257 : Cond.methodLink RX11 257 yX11_meanOf ∈ zA := (zA_t 1193 (by decide +kernel) rfl)
theorem km_X11_246 : Cond.methodLink RX11 246 yX11_holds ∈ zA := (zA_t 1197 (by decide +kernel) rfl)
theorem km_X11_261 : Cond.methodLink RX11 261 yX11_nextOrder ∈ zA := (zA_t 1202 (by decide +kernel) rfl)
theorem km_L_99 : Cond.methodLink RL 99 yX11_said ∈ zA := (zA_t 1206 (by decide +kernel) rfl)
theorem km_L_103 : Cond.methodLink RL 103 yX11_orders ∈ zA := (zA_t 1210 (by decide +kernel) rfl)
theorem km_X11_270 : Cond.methodLink RX11 270 yX11_layOrders ∈ zA := (zA_t 1214 (by decide +kernel) rfl)
theorem km_X11_267 : Cond.methodLink RX11 267 yX11_isSaidSo ∈ zA := (zA_t 1218 (by decide +kernel) rfl)
theorem km_X11_264 : Cond.methodLink RX11 264 yX11_placeOf ∈ zA := (zA_t 1222 (by decide +kernel) rfl)
theorem km_L_107 : Cond.methodLink RL 107 yX11_sure ∈ zA := (zA_t 1226 (by decide +kernel) rfl)
theorem km_L_111 : Cond.methodLink RL 111 yX11_wreck ∈ zA := (zA_t 1230 (by decide +kernel) rfl)
theorem km_L_115 : Cond.methodLink RL 115 yX11_stations ∈ zA := (zA_t 1235 (by decide +kernel) rfl)
theorem km_X11_275 : Cond.methodLink RX11 275 yX11_stationsOf ∈ zA := (zA_t 1239 (by decide +kernel) rfl)
theorem km_L_119 : Cond.methodLink RL 119 yX11_nights ∈ zA := (zA_t 1243 (by decide +kernel) rfl)
theorem km_X11_290 : Cond.methodLink RX11 290 yX11_draw ∈ zA := (zA_t 1248 (by decide +kernel) rfl)
theorem km_L_123 : Cond.methodLink RL 123 yX11_image ∈ zA := (zA_t 1256 (by decide +kernel) rfl)
theorem km_X11_293 : Cond.methodLink RX11 293 yX11_copy ∈ zA := (zA_t 1260 (by decide +kernel) rfl)
theorem km_L_127 : Cond.methodLink RL 127 yX11_restore ∈ zA := (zA_t 1263 (by decide +kernel) rfl)
theorem km_L_131 : Cond.methodLink RL 131 yX11_count ∈ zA := (zA_t 1267 (by decide +kernel) rfl)
theorem km_X11_321 : Cond.methodLink RX11 321 yX11_countOf ∈ zA := (zA_t 1271 (by decide +kernel) rfl)
theorem km_L_136 : Cond.methodLink RL 136 yX11_digest ∈ zA := (zA_t 1275 (by decide +kernel) rfl)
theorem km_X11_332 : Cond.methodLink RX11 332 yX11_say ∈ zA := (zA_t 1280 (by decide +kernel) rfl)
theorem cal_X0_search : CalV yX0_search cX0_search 9 none 4 := ⟨⟨(zA_t 482 (by decide +kernel) rfl), (zA_t 8 (by decide +kernel) rfl), by decide +kernel, by decide +kernel, by decide +kernel⟩, (zA_t 480 (by decide +kernel) rfl), (zA_t 481 (by decide +kernel) rfl)⟩
theorem cal_X0_findBest : CalV yX0_findBest cX0_findBest 10 none 4 := ⟨⟨(zA_t 493 (by decide +kernel) rfl), (zA_t 8 (by decide +kernel) rfl), by decide +kernel, by decide +kernel, by decide +kernel⟩, (zA_t 492 (by decide +kernel) rfl), (zA_p (List.mem_of_getElem? (i := 5) (by decide +kernel)) rfl)⟩
theorem cal_X0_chance : CalV yX0_chance cX0_chance 5 (some .long) 3 := ⟨⟨(zA_t 504 (by decide +kernel) rfl), (zA_t 8 (by decide +kernel) rfl), by decide +kernel, by decide +kernel, by decide +kernel⟩, (zA_t 503 (by decide +kernel) rfl), (zA_p (List.mem_of_getElem? (i := 6) (by decide +kernel)) rfl)⟩
theorem cal_X1_clear : CalV yX1_clear cX1_clear 1 none 0 := ⟨⟨(zA_t 388 (by decide +kernel) rfl), (zA_t 6 (by decide +kernel) rfl), by decide +kernel, by decide +kernel, by decide +kernel⟩, (zA_t 386 (by decide +kernel) rfl), (zA_t 387 (by decide +kernel) rfl)⟩
theorem cal_X1_takeFrom : CalV yX1_takeFrom cX1_takeFrom 3 none 1 := ⟨⟨(zA_t 815 (by decide +kernel) rfl), (zA_t 6 (by decide +kernel) rfl), by decide +kernel, by decide +kernel, by decide +kernel⟩, (zA_t 813 (by decide +kernel) rfl), (zA_t 814 (by decide +kernel) rfl)⟩
theorem cal_X1_stage : CalV yX1_stage cX1_stage 1 (some .int) 0 := ⟨⟨(zA_t 426 (by decide +kernel) rfl), (zA_t 6 (by decide +kernel) rfl), by decide +kernel, by decide +kernel, by decide +kernel⟩, (zA_t 424 (by decide +kernel) rfl), (zA_t 425 (by decide +kernel) rfl)⟩
theorem cal_X1_bringOver : CalV yX1_bringOver cX1_bringOver 3 none 2 := ⟨⟨(zA_t 621 (by decide +kernel) rfl), (zA_t 6 (by decide +kernel) rfl), by decide +kernel, by decide +kernel, by decide +kernel⟩, (zA_t 619 (by decide +kernel) rfl), (zA_t 620 (by decide +kernel) rfl)⟩
theorem cal_X1_overMinute : CalV yX1_overMinute cX1_overMinute 2 (some .int) 1 := ⟨⟨(zA_t 565 (by decide +kernel) rfl), (zA_t 6 (by decide +kernel) rfl), by decide +kernel, by decide +kernel, by decide +kernel⟩, (zA_t 563 (by decide +kernel) rfl), (zA_t 564 (by decide +kernel) rfl)⟩
theorem cal_X1_say : CalV yX1_say cX1_say 3 none 2 := ⟨⟨(zA_t 696 (by decide +kernel) rfl), (zA_t 6 (by decide +kernel) rfl), by decide +kernel, by decide +kernel, by decide +kernel⟩, (zA_t 694 (by decide +kernel) rfl), (zA_t 695 (by decide +kernel) rfl)⟩
theorem cal_X1_saidAhead : CalV yX1_saidAhead cX1_saidAhead 2 (some .int) 1 := ⟨⟨(zA_t 710 (by decide +kernel) rfl), (zA_t 6 (by decide +kernel) rfl), by decide +kernel, by decide +kernel, by decide +kernel⟩, (zA_t 708 (by decide +kernel) rfl), (zA_t 709 (by decide +kernel) rfl)⟩
theorem cal_X1_addWreck : CalV yX1_addWreck cX1_addWreck 2 none 1 := ⟨⟨(zA_t 749 (by decide +kernel) rfl), (zA_t 6 (by decide +kernel) rfl), by decide +kernel, by decide +kernel, by decide +kernel⟩, (zA_t 747 (by decide +kernel) rfl), (zA_t 748 (by decide +kernel) rfl)⟩
theorem cal_X1_firstStation : CalV yX1_firstStation cX1_firstStation 2 (some .int) 1 := ⟨⟨(zA_t 770 (by decide +kernel) rfl), (zA_t 6 (by decide +kernel) rfl), by decide +kernel, by decide +kernel, by decide +kernel⟩, (zA_t 768 (by decide +kernel) rfl), (zA_t 769 (by decide +kernel) rfl)⟩
theorem cal_X1_fewestStations : CalV yX1_fewestStations cX1_fewestStations 6 (some .int) 1 := ⟨⟨(zA_t 757 (by decide +kernel) rfl), (zA_t 6 (by decide +kernel) rfl), by decide +kernel, by decide +kernel, by decide +kernel⟩, (zA_t 755 (by decide +kernel) rfl), (zA_t 756 (by decide +kernel) rfl)⟩
theorem cal_X1_stationFor : CalV yX1_stationFor cX1_stationFor 3 (some .int) 2 := ⟨⟨(zA_t 765 (by decide +kernel) rfl), (zA_t 6 (by decide +kernel) rfl), by decide +kernel, by decide +kernel, by decide +kernel⟩, (zA_t 764 (by decide +kernel) rfl), (zA_p (List.mem_of_getElem? (i := 15) (by decide +kernel)) rfl)⟩
theorem cal_X1_leastWreckFrom : CalV yX1_leastWreckFrom cX1_leastWreckFrom 5 (some .int) 1 := ⟨⟨(zA_t 761 (by decide +kernel) rfl), (zA_t 6 (by decide +kernel) rfl), by decide +kernel, by decide +kernel, by decide +kernel⟩, (zA_t 760 (by decide +kernel) rfl), (zA_p (List.mem_of_getElem? (i := 14) (by decide +kernel)) rfl)⟩
theorem cal_X2_clear : CalV yX2_clear cX2_clear 1 none 0 := ⟨⟨(zA_t 381 (by decide +kernel) rfl), (zA_t 5 (by decide +kernel) rfl), by decide +kernel, by decide +kernel, by decide +kernel⟩, (zA_t 379 (by decide +kernel) rfl), (zA_t 380 (by decide +kernel) rfl)⟩
theorem cal_X2_has : CalV yX2_has cX2_has 2 (some .boolean) 1 := ⟨⟨(zA_t 538 (by decide +kernel) rfl), (zA_t 5 (by decide +kernel) rfl), by decide +kernel, by decide +kernel, by decide +kernel⟩, (zA_t 536 (by decide +kernel) rfl), (zA_t 537 (by decide +kernel) rfl)⟩
theorem cal_X2_add : CalV yX2_add cX2_add 3 (some .int) 2 := ⟨⟨(zA_t 529 (by decide +kernel) rfl), (zA_t 5 (by decide +kernel) rfl), by decide +kernel, by decide +kernel, by decide +kernel⟩, (zA_t 527 (by decide +kernel) rfl), (zA_t 528 (by decide +kernel) rfl)⟩
theorem cal_X2_all : CalV yX2_all cX2_all 1 (some .int) 0 := ⟨⟨(zA_t 649 (by decide +kernel) rfl), (zA_t 5 (by decide +kernel) rfl), by decide +kernel, by decide +kernel, by decide +kernel⟩, (zA_t 647 (by decide +kernel) rfl), (zA_t 648 (by decide +kernel) rfl)⟩
theorem cal_X2_kind : CalV yX2_kind cX2_kind 2 (some .int) 1 := ⟨⟨(zA_t 542 (by decide +kernel) rfl), (zA_t 5 (by decide +kernel) rfl), by decide +kernel, by decide +kernel, by decide +kernel⟩, (zA_t 540 (by decide +kernel) rfl), (zA_t 541 (by decide +kernel) rfl)⟩
theorem cal_X2_weight : CalV yX2_weight cX2_weight 2 (some .int) 1 := ⟨⟨(zA_t 547 (by decide +kernel) rfl), (zA_t 5 (by decide +kernel) rfl), by decide +kernel, by decide +kernel, by decide +kernel⟩, (zA_t 545 (by decide +kernel) rfl), (zA_t 546 (by decide +kernel) rfl)⟩
theorem cal_X2_isOf : CalV yX2_isOf cX2_isOf 4 (some .boolean) 2 := ⟨⟨(zA_t 595 (by decide +kernel) rfl), (zA_t 5 (by decide +kernel) rfl), by decide +kernel, by decide +kernel, by decide +kernel⟩, (zA_t 593 (by decide +kernel) rfl), (zA_t 594 (by decide +kernel) rfl)⟩
theorem cal_X2_putBehind : CalV yX2_putBehind cX2_putBehind 5 (some .boolean) 3 := ⟨⟨(zA_t 607 (by decide +kernel) rfl), (zA_t 5 (by decide +kernel) rfl), by decide +kernel, by decide +kernel, by decide +kernel⟩, (zA_t 605 (by decide +kernel) rfl), (zA_t 606 (by decide +kernel) rfl)⟩
theorem cal_X2_ahead : CalV yX2_ahead cX2_ahead 3 (some .int) 1 := ⟨⟨(zA_t 575 (by decide +kernel) rfl), (zA_t 5 (by decide +kernel) rfl), by decide +kernel, by decide +kernel, by decide +kernel⟩, (zA_t 573 (by decide +kernel) rfl), (zA_t 574 (by decide +kernel) rfl)⟩
theorem cal_X2_allButCaptains : CalV yX2_allButCaptains cX2_allButCaptains 3 (some .int) 0 := ⟨⟨(zA_t 579 (by decide +kernel) rfl), (zA_t 5 (by decide +kernel) rfl), by decide +kernel, by decide +kernel, by decide +kernel⟩, (zA_t 578 (by decide +kernel) rfl), (zA_p (List.mem_of_getElem? (i := 8) (by decide +kernel)) rfl)⟩
theorem cal_X2_sags : CalV yX2_sags cX2_sags 4 (some .boolean) 3 := ⟨⟨(zA_t 557 (by decide +kernel) rfl), (zA_t 5 (by decide +kernel) rfl), by decide +kernel, by decide +kernel, by decide +kernel⟩, (zA_t 555 (by decide +kernel) rfl), (zA_t 556 (by decide +kernel) rfl)⟩
theorem cal_X2_takes : CalV yX2_takes cX2_takes 5 (some .int) 3 := ⟨⟨(zA_t 551 (by decide +kernel) rfl), (zA_t 5 (by decide +kernel) rfl), by decide +kernel, by decide +kernel, by decide +kernel⟩, (zA_t 549 (by decide +kernel) rfl), (zA_t 550 (by decide +kernel) rfl)⟩
theorem cal_X4_search : CalV yX4_search cX4_search 7 none 3 := ⟨⟨(zA_t 645 (by decide +kernel) rfl), (zA_t 9 (by decide +kernel) rfl), by decide +kernel, by decide +kernel, by decide +kernel⟩, (zA_t 643 (by decide +kernel) rfl), (zA_t 644 (by decide +kernel) rfl)⟩
theorem cal_X4_isThere : CalV yX4_isThere cX4_isThere 1 (some .boolean) 0 := ⟨⟨(zA_t 675 (by decide +kernel) rfl), (zA_t 9 (by decide +kernel) rfl), by decide +kernel, by decide +kernel, by decide +kernel⟩, (zA_t 673 (by decide +kernel) rfl), (zA_t 674 (by decide +kernel) rfl)⟩
theorem cal_X4_most : CalV yX4_most cX4_most 1 (some .long) 0 := ⟨⟨(zA_t 687 (by decide +kernel) rfl), (zA_t 9 (by decide +kernel) rfl), by decide +kernel, by decide +kernel, by decide +kernel⟩, (zA_t 685 (by decide +kernel) rfl), (zA_t 686 (by decide +kernel) rfl)⟩
theorem cal_X4_manAt : CalV yX4_manAt cX4_manAt 5 (some .int) 1 := ⟨⟨(zA_t 680 (by decide +kernel) rfl), (zA_t 9 (by decide +kernel) rfl), by decide +kernel, by decide +kernel, by decide +kernel⟩, (zA_t 678 (by decide +kernel) rfl), (zA_t 679 (by decide +kernel) rfl)⟩
theorem cal_X4_findNext : CalV yX4_findNext cX4_findNext 6 none 2 := ⟨⟨(zA_t 654 (by decide +kernel) rfl), (zA_t 9 (by decide +kernel) rfl), by decide +kernel, by decide +kernel, by decide +kernel⟩, (zA_t 653 (by decide +kernel) rfl), (zA_p (List.mem_of_getElem? (i := 10) (by decide +kernel)) rfl)⟩
theorem cal_X4_minuteWith : CalS yX4_minuteWith cX4_minuteWith 6 (some .int) 4 := ⟨⟨(zA_t 663 (by decide +kernel) rfl), (zA_t 9 (by decide +kernel) rfl), by decide +kernel, by decide +kernel, by decide +kernel⟩, (zA_t 662 (by decide +kernel) rfl)⟩
theorem cal_X4_holding : CalS yX4_holding cX4_holding 6 (some .long) 3 := ⟨⟨(zA_t 667 (by decide +kernel) rfl), (zA_t 9 (by decide +kernel) rfl), by decide +kernel, by decide +kernel, by decide +kernel⟩, (zA_t 666 (by decide +kernel) rfl)⟩
theorem cal_X5_add : CalV yX5_add cX5_add 2 none 1 := ⟨⟨(zA_t 319 (by decide +kernel) rfl), (zA_t 2 (by decide +kernel) rfl), by decide +kernel, by decide +kernel, by decide +kernel⟩, (zA_t 317 (by decide +kernel) rfl), (zA_t 318 (by decide +kernel) rfl)⟩
theorem cal_X5_clear : CalV yX5_clear cX5_clear 1 none 0 := ⟨⟨(zA_t 330 (by decide +kernel) rfl), (zA_t 2 (by decide +kernel) rfl), by decide +kernel, by decide +kernel, by decide +kernel⟩, (zA_t 328 (by decide +kernel) rfl), (zA_t 329 (by decide +kernel) rfl)⟩
theorem cal_X5_letterAt : CalV yX5_letterAt cX5_letterAt 2 (some .int) 1 := ⟨⟨(zA_t 346 (by decide +kernel) rfl), (zA_t 2 (by decide +kernel) rfl), by decide +kernel, by decide +kernel, by decide +kernel⟩, (zA_t 344 (by decide +kernel) rfl), (zA_t 345 (by decide +kernel) rfl)⟩
theorem cal_X5_digitAt : CalV yX5_digitAt cX5_digitAt 2 (some .int) 1 := ⟨⟨(zA_t 353 (by decide +kernel) rfl), (zA_t 2 (by decide +kernel) rfl), by decide +kernel, by decide +kernel, by decide +kernel⟩, (zA_t 351 (by decide +kernel) rfl), (zA_t 352 (by decide +kernel) rfl)⟩
theorem cal_X5_isNight : CalV yX5_isNight cX5_isNight 1 (some .boolean) 0 := ⟨⟨(zA_t 366 (by decide +kernel) rfl), (zA_t 2 (by decide +kernel) rfl), by decide +kernel, by decide +kernel, by decide +kernel⟩, (zA_t 364 (by decide +kernel) rfl), (zA_t 365 (by decide +kernel) rfl)⟩
theorem cal_X5_faultPlace : CalV yX5_faultPlace cX5_faultPlace 2 (some .int) 0 := ⟨⟨(zA_t 338 (by decide +kernel) rfl), (zA_t 2 (by decide +kernel) rfl), by decide +kernel, by decide +kernel, by decide +kernel⟩, (zA_t 336 (by decide +kernel) rfl), (zA_t 337 (by decide +kernel) rfl)⟩
theorem cal_X5_fits : CalV yX5_fits cX5_fits 2 (some .boolean) 1 := ⟨⟨(zA_t 342 (by decide +kernel) rfl), (zA_t 2 (by decide +kernel) rfl), by decide +kernel, by decide +kernel, by decide +kernel⟩, (zA_t 341 (by decide +kernel) rfl), (zA_p (List.mem_of_getElem? (i := 0) (by decide +kernel)) rfl)⟩
theorem cal_X5_gustsTo : CalV yX5_gustsTo cX5_gustsTo 4 (some .int) 1 := ⟨⟨(zA_t 358 (by decide +kernel) rfl), (zA_t 2 (by decide +kernel) rfl), by decide +kernel, by decide +kernel, by decide +kernel⟩, (zA_t 357 (by decide +kernel) rfl), (zA_p (List.mem_of_getElem? (i := 1) (by decide +kernel)) rfl)⟩
theorem cal_X6_clear : CalV yX6_clear cX6_clear 1 none 0 := ⟨⟨(zA_t 377 (by decide +kernel) rfl), (zA_t 4 (by decide +kernel) rfl), by decide +kernel, by decide +kernel, by decide +kernel⟩, (zA_t 375 (by decide +kernel) rfl), (zA_t 376 (by decide +kernel) rfl)⟩
theorem cal_X6_has : CalV yX6_has cX6_has 2 (some .boolean) 1 := ⟨⟨(zA_t 419 (by decide +kernel) rfl), (zA_t 4 (by decide +kernel) rfl), by decide +kernel, by decide +kernel, by decide +kernel⟩, (zA_t 417 (by decide +kernel) rfl), (zA_t 418 (by decide +kernel) rfl)⟩
theorem cal_X6_add : CalV yX6_add cX6_add 3 (some .int) 2 := ⟨⟨(zA_t 410 (by decide +kernel) rfl), (zA_t 4 (by decide +kernel) rfl), by decide +kernel, by decide +kernel, by decide +kernel⟩, (zA_t 408 (by decide +kernel) rfl), (zA_t 409 (by decide +kernel) rfl)⟩
theorem cal_X6_fallsAt : CalV yX6_fallsAt cX6_fallsAt 5 (some .int) 4 := ⟨⟨(zA_t 430 (by decide +kernel) rfl), (zA_t 4 (by decide +kernel) rfl), by decide +kernel, by decide +kernel, by decide +kernel⟩, (zA_t 428 (by decide +kernel) rfl), (zA_t 429 (by decide +kernel) rfl)⟩
theorem cal_X6_hitTenths : CalV yX6_hitTenths cX6_hitTenths 6 (some .int) 3 := ⟨⟨(zA_t 452 (by decide +kernel) rfl), (zA_t 4 (by decide +kernel) rfl), by decide +kernel, by decide +kernel, by decide +kernel⟩, (zA_t 450 (by decide +kernel) rfl), (zA_t 451 (by decide +kernel) rfl)⟩
theorem cal_X6_left : CalV yX6_left cX6_left 2 (some .int) 1 := ⟨⟨(zA_t 517 (by decide +kernel) rfl), (zA_t 4 (by decide +kernel) rfl), by decide +kernel, by decide +kernel, by decide +kernel⟩, (zA_t 515 (by decide +kernel) rfl), (zA_t 516 (by decide +kernel) rfl)⟩
theorem cal_X6_leastOf : CalV yX6_leastOf cX6_leastOf 3 (some .int) 1 := ⟨⟨(zA_t 784 (by decide +kernel) rfl), (zA_t 4 (by decide +kernel) rfl), by decide +kernel, by decide +kernel, by decide +kernel⟩, (zA_t 782 (by decide +kernel) rfl), (zA_t 783 (by decide +kernel) rfl)⟩
theorem cal_X7_read : CalV yX7_read cX7_read 3 none 1 := ⟨⟨(zA_t 371 (by decide +kernel) rfl), (zA_t 3 (by decide +kernel) rfl), by decide +kernel, by decide +kernel, by decide +kernel⟩, (zA_t 369 (by decide +kernel) rfl), (zA_t 370 (by decide +kernel) rfl)⟩
theorem cal_X7_tell : CalV yX7_tell cX7_tell 2 (some .int) 1 := ⟨⟨(zA_t 401 (by decide +kernel) rfl), (zA_t 3 (by decide +kernel) rfl), by decide +kernel, by decide +kernel, by decide +kernel⟩, (zA_t 399 (by decide +kernel) rfl), (zA_t 400 (by decide +kernel) rfl)⟩
theorem cal_X7_endMinute : CalV yX7_endMinute cX7_endMinute 1 (some .int) 0 := ⟨⟨(zA_t 587 (by decide +kernel) rfl), (zA_t 3 (by decide +kernel) rfl), by decide +kernel, by decide +kernel, by decide +kernel⟩, (zA_t 585 (by decide +kernel) rfl), (zA_t 586 (by decide +kernel) rfl)⟩
theorem cal_X7_gustTenths : CalV yX7_gustTenths cX7_gustTenths 2 (some .int) 1 := ⟨⟨(zA_t 458 (by decide +kernel) rfl), (zA_t 3 (by decide +kernel) rfl), by decide +kernel, by decide +kernel, by decide +kernel⟩, (zA_t 456 (by decide +kernel) rfl), (zA_t 457 (by decide +kernel) rfl)⟩
theorem cal_X7_breakTenths : CalV yX7_breakTenths cX7_breakTenths 2 (some .int) 1 := ⟨⟨(zA_t 497 (by decide +kernel) rfl), (zA_t 3 (by decide +kernel) rfl), by decide +kernel, by decide +kernel, by decide +kernel⟩, (zA_t 495 (by decide +kernel) rfl), (zA_t 496 (by decide +kernel) rfl)⟩
theorem cal_X7_isLast : CalV yX7_isLast cX7_isLast 2 (some .boolean) 1 := ⟨⟨(zA_t 806 (by decide +kernel) rfl), (zA_t 3 (by decide +kernel) rfl), by decide +kernel, by decide +kernel, by decide +kernel⟩, (zA_t 804 (by decide +kernel) rfl), (zA_t 805 (by decide +kernel) rfl)⟩
theorem cal_X7_drift : CalV yX7_drift cX7_drift 2 (some .int) 1 := ⟨⟨(zA_t 435 (by decide +kernel) rfl), (zA_t 3 (by decide +kernel) rfl), by decide +kernel, by decide +kernel, by decide +kernel⟩, (zA_t 433 (by decide +kernel) rfl), (zA_t 434 (by decide +kernel) rfl)⟩
theorem cal_X7_isRight : CalV yX7_isRight cX7_isRight 2 (some .boolean) 1 := ⟨⟨(zA_t 442 (by decide +kernel) rfl), (zA_t 3 (by decide +kernel) rfl), by decide +kernel, by decide +kernel, by decide +kernel⟩, (zA_t 440 (by decide +kernel) rfl), (zA_t 441 (by decide +kernel) rfl)⟩
theorem cal_X8_search : CalV yX8_search cX8_search 4 none 2 := ⟨⟨(zA_t 704 (by decide +kernel) rfl), (zA_t 10 (by decide +kernel) rfl), by decide +kernel, by decide +kernel, by decide +kernel⟩, (zA_t 702 (by decide +kernel) rfl), (zA_t 703 (by decide +kernel) rfl)⟩
theorem cal_X8_total : CalV yX8_total cX8_total 1 (some .int) 0 := ⟨⟨(zA_t 732 (by decide +kernel) rfl), (zA_t 10 (by decide +kernel) rfl), by decide +kernel, by decide +kernel, by decide +kernel⟩, (zA_t 730 (by decide +kernel) rfl), (zA_t 731 (by decide +kernel) rfl)⟩
theorem cal_X8_surePlace : CalV yX8_surePlace cX8_surePlace 5 (some .int) 1 := ⟨⟨(zA_t 740 (by decide +kernel) rfl), (zA_t 10 (by decide +kernel) rfl), by decide +kernel, by decide +kernel, by decide +kernel⟩, (zA_t 738 (by decide +kernel) rfl), (zA_t 739 (by decide +kernel) rfl)⟩
theorem cal_X8_countWays : CalV yX8_countWays cX8_countWays 4 none 0 := ⟨⟨(zA_t 715 (by decide +kernel) rfl), (zA_t 10 (by decide +kernel) rfl), by decide +kernel, by decide +kernel, by decide +kernel⟩, (zA_t 714 (by decide +kernel) rfl), (zA_p (List.mem_of_getElem? (i := 11) (by decide +kernel)) rfl)⟩
theorem cal_X8_countRests : CalV yX8_countRests cX8_countRests 3 none 0 := ⟨⟨(zA_t 728 (by decide +kernel) rfl), (zA_t 10 (by decide +kernel) rfl), by decide +kernel, by decide +kernel, by decide +kernel⟩, (zA_t 727 (by decide +kernel) rfl), (zA_p (List.mem_of_getElem? (i := 13) (by decide +kernel)) rfl)⟩
theorem cal_X8_mayFollow : CalV yX8_mayFollow cX8_mayFollow 3 (some .boolean) 2 := ⟨⟨(zA_t 720 (by decide +kernel) rfl), (zA_t 10 (by decide +kernel) rfl), by decide +kernel, by decide +kernel, by decide +kernel⟩, (zA_t 719 (by decide +kernel) rfl), (zA_p (List.mem_of_getElem? (i := 12) (by decide +kernel)) rfl)⟩
theorem cal_X9_run : CalV yX9_run cX9_run 9 none 4 := ⟨⟨(zA_t 778 (by decide +kernel) rfl), (zA_t 11 (by decide +kernel) rfl), by decide +kernel, by decide +kernel, by decide +kernel⟩, (zA_t 776 (by decide +kernel) rfl), (zA_t 777 (by decide +kernel) rfl)⟩
theorem cal_X9_drawGust : CalV yX9_drawGust cX9_drawGust 3 (some .int) 1 := ⟨⟨(zA_t 790 (by decide +kernel) rfl), (zA_t 11 (by decide +kernel) rfl), by decide +kernel, by decide +kernel, by decide +kernel⟩, (zA_t 789 (by decide +kernel) rfl), (zA_p (List.mem_of_getElem? (i := 16) (by decide +kernel)) rfl)⟩
theorem cal_X9_draw : CalV yX9_draw cX9_draw 1 (some .int) 0 := ⟨⟨(zA_t 794 (by decide +kernel) rfl), (zA_t 11 (by decide +kernel) rfl), by decide +kernel, by decide +kernel, by decide +kernel⟩, (zA_t 793 (by decide +kernel) rfl), (zA_p (List.mem_of_getElem? (i := 17) (by decide +kernel)) rfl)⟩
theorem cal_X10_letter : CalV yX10_letter cX10_letter 2 (some .int) 1 := ⟨⟨(zA_t 312 (by decide +kernel) rfl), (zA_t 1 (by decide +kernel) rfl), by decide +kernel, by decide +kernel, by decide +kernel⟩, (zA_t 310 (by decide +kernel) rfl), (zA_t 311 (by decide +kernel) rfl)⟩
theorem cal_X10_blank : CalV yX10_blank cX10_blank 2 (some .int) 0 := ⟨⟨(zA_t 326 (by decide +kernel) rfl), (zA_t 1 (by decide +kernel) rfl), by decide +kernel, by decide +kernel, by decide +kernel⟩, (zA_t 324 (by decide +kernel) rfl), (zA_t 325 (by decide +kernel) rfl)⟩
theorem cal_X10_fault : CalV yX10_fault cX10_fault 1 (some .int) 0 := ⟨⟨(zA_t 334 (by decide +kernel) rfl), (zA_t 1 (by decide +kernel) rfl), by decide +kernel, by decide +kernel, by decide +kernel⟩, (zA_t 332 (by decide +kernel) rfl), (zA_t 333 (by decide +kernel) rfl)⟩
theorem cal_X10_night : CalV yX10_night cX10_night 1 (some .int) 0 := ⟨⟨(zA_t 362 (by decide +kernel) rfl), (zA_t 1 (by decide +kernel) rfl), by decide +kernel, by decide +kernel, by decide +kernel⟩, (zA_t 360 (by decide +kernel) rfl), (zA_t 361 (by decide +kernel) rfl)⟩
theorem cal_X10_sea : CalV yX10_sea cX10_sea 2 (some .int) 1 := ⟨⟨(zA_t 393 (by decide +kernel) rfl), (zA_t 1 (by decide +kernel) rfl), by decide +kernel, by decide +kernel, by decide +kernel⟩, (zA_t 391 (by decide +kernel) rfl), (zA_t 392 (by decide +kernel) rfl)⟩
theorem cal_X10_rocket : CalV yX10_rocket cX10_rocket 3 (some .int) 2 := ⟨⟨(zA_t 406 (by decide +kernel) rfl), (zA_t 1 (by decide +kernel) rfl), by decide +kernel, by decide +kernel, by decide +kernel⟩, (zA_t 404 (by decide +kernel) rfl), (zA_t 405 (by decide +kernel) rfl)⟩
theorem cal_X10_fire : CalV yX10_fire cX10_fire 4 (some .int) 2 := ⟨⟨(zA_t 415 (by decide +kernel) rfl), (zA_t 1 (by decide +kernel) rfl), by decide +kernel, by decide +kernel, by decide +kernel⟩, (zA_t 413 (by decide +kernel) rfl), (zA_t 414 (by decide +kernel) rfl)⟩
theorem cal_X10_hits : CalV yX10_hits cX10_hits 4 (some .long) 3 := ⟨⟨(zA_t 446 (by decide +kernel) rfl), (zA_t 1 (by decide +kernel) rfl), by decide +kernel, by decide +kernel, by decide +kernel⟩, (zA_t 444 (by decide +kernel) rfl), (zA_t 445 (by decide +kernel) rfl)⟩
theorem cal_X10_aim : CalV yX10_aim cX10_aim 3 (some .long) 2 := ⟨⟨(zA_t 469 (by decide +kernel) rfl), (zA_t 1 (by decide +kernel) rfl), by decide +kernel, by decide +kernel, by decide +kernel⟩, (zA_t 467 (by decide +kernel) rfl), (zA_t 468 (by decide +kernel) rfl)⟩
theorem cal_X10_which : CalV yX10_which cX10_which 2 (some .int) 1 := ⟨⟨(zA_t 521 (by decide +kernel) rfl), (zA_t 1 (by decide +kernel) rfl), by decide +kernel, by decide +kernel, by decide +kernel⟩, (zA_t 519 (by decide +kernel) rfl), (zA_t 520 (by decide +kernel) rfl)⟩
theorem cal_X10_man : CalV yX10_man cX10_man 3 (some .int) 2 := ⟨⟨(zA_t 525 (by decide +kernel) rfl), (zA_t 1 (by decide +kernel) rfl), by decide +kernel, by decide +kernel, by decide +kernel⟩, (zA_t 523 (by decide +kernel) rfl), (zA_t 524 (by decide +kernel) rfl)⟩
theorem cal_X10_about : CalV yX10_about cX10_about 3 (some .int) 2 := ⟨⟨(zA_t 534 (by decide +kernel) rfl), (zA_t 1 (by decide +kernel) rfl), by decide +kernel, by decide +kernel, by decide +kernel⟩, (zA_t 532 (by decide +kernel) rfl), (zA_t 533 (by decide +kernel) rfl)⟩
theorem cal_X10_as : CalV yX10_as cX10_as 3 (some .int) 2 := ⟨⟨(zA_t 591 (by decide +kernel) rfl), (zA_t 1 (by decide +kernel) rfl), by decide +kernel, by decide +kernel, by decide +kernel⟩, (zA_t 589 (by decide +kernel) rfl), (zA_t 590 (by decide +kernel) rfl)⟩
theorem cal_X10_behind : CalV yX10_behind cX10_behind 4 (some .int) 3 := ⟨⟨(zA_t 599 (by decide +kernel) rfl), (zA_t 1 (by decide +kernel) rfl), by decide +kernel, by decide +kernel, by decide +kernel⟩, (zA_t 597 (by decide +kernel) rfl), (zA_t 598 (by decide +kernel) rfl)⟩
theorem cal_X10_hawser : CalV yX10_hawser cX10_hawser 3 (some .int) 1 := ⟨⟨(zA_t 613 (by decide +kernel) rfl), (zA_t 1 (by decide +kernel) rfl), by decide +kernel, by decide +kernel, by decide +kernel⟩, (zA_t 611 (by decide +kernel) rfl), (zA_t 612 (by decide +kernel) rfl)⟩
theorem cal_X10_come : CalV yX10_come cX10_come 2 (some .int) 1 := ⟨⟨(zA_t 617 (by decide +kernel) rfl), (zA_t 1 (by decide +kernel) rfl), by decide +kernel, by decide +kernel, by decide +kernel⟩, (zA_t 615 (by decide +kernel) rfl), (zA_t 616 (by decide +kernel) rfl)⟩
theorem cal_X10_minutes : CalV yX10_minutes cX10_minutes 2 (some .int) 1 := ⟨⟨(zA_t 627 (by decide +kernel) rfl), (zA_t 1 (by decide +kernel) rfl), by decide +kernel, by decide +kernel, by decide +kernel⟩, (zA_t 625 (by decide +kernel) rfl), (zA_t 626 (by decide +kernel) rfl)⟩
theorem cal_X10_breaks : CalV yX10_breaks cX10_breaks 1 (some .int) 0 := ⟨⟨(zA_t 631 (by decide +kernel) rfl), (zA_t 1 (by decide +kernel) rfl), by decide +kernel, by decide +kernel, by decide +kernel⟩, (zA_t 629 (by decide +kernel) rfl), (zA_t 630 (by decide +kernel) rfl)⟩
theorem cal_X10_order : CalV yX10_order cX10_order 2 (some .long) 1 := ⟨⟨(zA_t 641 (by decide +kernel) rfl), (zA_t 1 (by decide +kernel) rfl), by decide +kernel, by decide +kernel, by decide +kernel⟩, (zA_t 639 (by decide +kernel) rfl), (zA_t 640 (by decide +kernel) rfl)⟩
theorem cal_X10_said : CalV yX10_said cX10_said 3 (some .int) 2 := ⟨⟨(zA_t 692 (by decide +kernel) rfl), (zA_t 1 (by decide +kernel) rfl), by decide +kernel, by decide +kernel, by decide +kernel⟩, (zA_t 690 (by decide +kernel) rfl), (zA_t 691 (by decide +kernel) rfl)⟩
theorem cal_X10_orders : CalV yX10_orders cX10_orders 1 (some .int) 0 := ⟨⟨(zA_t 700 (by decide +kernel) rfl), (zA_t 1 (by decide +kernel) rfl), by decide +kernel, by decide +kernel, by decide +kernel⟩, (zA_t 698 (by decide +kernel) rfl), (zA_t 699 (by decide +kernel) rfl)⟩
theorem cal_X10_sure : CalV yX10_sure cX10_sure 2 (some .int) 1 := ⟨⟨(zA_t 736 (by decide +kernel) rfl), (zA_t 1 (by decide +kernel) rfl), by decide +kernel, by decide +kernel, by decide +kernel⟩, (zA_t 734 (by decide +kernel) rfl), (zA_t 735 (by decide +kernel) rfl)⟩
theorem cal_X10_wreck : CalV yX10_wreck cX10_wreck 2 (some .int) 1 := ⟨⟨(zA_t 745 (by decide +kernel) rfl), (zA_t 1 (by decide +kernel) rfl), by decide +kernel, by decide +kernel, by decide +kernel⟩, (zA_t 743 (by decide +kernel) rfl), (zA_t 744 (by decide +kernel) rfl)⟩
theorem cal_X10_stations : CalV yX10_stations cX10_stations 3 (some .int) 2 := ⟨⟨(zA_t 753 (by decide +kernel) rfl), (zA_t 1 (by decide +kernel) rfl), by decide +kernel, by decide +kernel, by decide +kernel⟩, (zA_t 751 (by decide +kernel) rfl), (zA_t 752 (by decide +kernel) rfl)⟩
theorem cal_X10_nights : CalV yX10_nights cX10_nights 3 (some .int) 2 := ⟨⟨(zA_t 774 (by decide +kernel) rfl), (zA_t 1 (by decide +kernel) rfl), by decide +kernel, by decide +kernel, by decide +kernel⟩, (zA_t 772 (by decide +kernel) rfl), (zA_t 773 (by decide +kernel) rfl)⟩
theorem cal_X10_image : CalV yX10_image cX10_image 1 (some .int) 0 := ⟨⟨(zA_t 811 (by decide +kernel) rfl), (zA_t 1 (by decide +kernel) rfl), by decide +kernel, by decide +kernel, by decide +kernel⟩, (zA_t 809 (by decide +kernel) rfl), (zA_t 810 (by decide +kernel) rfl)⟩
theorem cal_X10_restore : CalV yX10_restore cX10_restore 1 (some .int) 0 := ⟨⟨(zA_t 819 (by decide +kernel) rfl), (zA_t 1 (by decide +kernel) rfl), by decide +kernel, by decide +kernel, by decide +kernel⟩, (zA_t 817 (by decide +kernel) rfl), (zA_t 818 (by decide +kernel) rfl)⟩
theorem cal_X10_count : CalV yX10_count cX10_count 2 (some .int) 1 := ⟨⟨(zA_t 823 (by decide +kernel) rfl), (zA_t 1 (by decide +kernel) rfl), by decide +kernel, by decide +kernel, by decide +kernel⟩, (zA_t 821 (by decide +kernel) rfl), (zA_t 822 (by decide +kernel) rfl)⟩
theorem cal_X10_digest : CalV yX10_digest cX10_digest 5 (some .long) 0 := ⟨⟨(zA_t 827 (by decide +kernel) rfl), (zA_t 1 (by decide +kernel) rfl), by decide +kernel, by decide +kernel, by decide +kernel⟩, (zA_t 825 (by decide +kernel) rfl), (zA_t 826 (by decide +kernel) rfl)⟩
theorem cal_X10_mixSea : CalV yX10_mixSea cX10_mixSea 6 (some .long) 1 := ⟨⟨(zA_t 832 (by decide +kernel) rfl), (zA_t 1 (by decide +kernel) rfl), by decide +kernel, by decide +kernel, by decide +kernel⟩, (zA_t 831 (by decide +kernel) rfl), (zA_p (List.mem_of_getElem? (i := 18) (by decide +kernel)) rfl)⟩
theorem cal_X10_hasNight : CalV yX10_hasNight cX10_hasNight 1 (some .boolean) 0 := ⟨⟨(zA_t 397 (by decide +kernel) rfl), (zA_t 1 (by decide +kernel) rfl), by decide +kernel, by decide +kernel, by decide +kernel⟩, (zA_t 396 (by decide +kernel) rfl), (zA_p (List.mem_of_getElem? (i := 2) (by decide +kernel)) rfl)⟩
theorem cal_X10_isAfloat : CalV yX10_isAfloat cX10_isAfloat 1 (some .boolean) 0 := ⟨⟨(zA_t 477 (by decide +kernel) rfl), (zA_t 1 (by decide +kernel) rfl), by decide +kernel, by decide +kernel, by decide +kernel⟩, (zA_t 476 (by decide +kernel) rfl), (zA_p (List.mem_of_getElem? (i := 4) (by decide +kernel)) rfl)⟩
theorem cal_X10_canAim : CalV yX10_canAim cX10_canAim 1 (some .boolean) 0 := ⟨⟨(zA_t 473 (by decide +kernel) rfl), (zA_t 1 (by decide +kernel) rfl), by decide +kernel, by decide +kernel, by decide +kernel⟩, (zA_t 472 (by decide +kernel) rfl), (zA_p (List.mem_of_getElem? (i := 3) (by decide +kernel)) rfl)⟩
theorem cal_X10_areTwoMen : CalV yX10_areTwoMen cX10_areTwoMen 3 (some .boolean) 2 := ⟨⟨(zA_t 603 (by decide +kernel) rfl), (zA_t 1 (by decide +kernel) rfl), by decide +kernel, by decide +kernel, by decide +kernel⟩, (zA_t 602 (by decide +kernel) rfl), (zA_p (List.mem_of_getElem? (i := 9) (by decide +kernel)) rfl)⟩
theorem cal_X10_mayCome : CalV yX10_mayCome cX10_mayCome 2 (some .boolean) 1 := ⟨⟨(zA_t 571 (by decide +kernel) rfl), (zA_t 1 (by decide +kernel) rfl), by decide +kernel, by decide +kernel, by decide +kernel⟩, (zA_t 570 (by decide +kernel) rfl), (zA_p (List.mem_of_getElem? (i := 7) (by decide +kernel)) rfl)⟩
theorem cal_X10_isOutside : CalS yX10_isOutside cX10_isOutside 3 (some .boolean) 3 := ⟨⟨(zA_t 315 (by decide +kernel) rfl), (zA_t 1 (by decide +kernel) rfl), by decide +kernel, by decide +kernel, by decide +kernel⟩, (zA_t 314 (by decide +kernel) rfl)⟩
theorem cal_X10_asNumber : CalS yX10_asNumber cX10_asNumber 1 (some .int) 1 := ⟨⟨(zA_t 561 (by decide +kernel) rfl), (zA_t 1 (by decide +kernel) rfl), by decide +kernel, by decide +kernel, by decide +kernel⟩, (zA_t 560 (by decide +kernel) rfl)⟩
theorem cal_X10_mix : CalS yX10_mix cX10_mix 4 (some .long) 2 := ⟨⟨(zA_t 836 (by decide +kernel) rfl), (zA_t 1 (by decide +kernel) rfl), by decide +kernel, by decide +kernel, by decide +kernel⟩, (zA_t 835 (by decide +kernel) rfl)⟩
theorem cal_X10_isIn : CalS yX10_isIn cX10_isIn 2 (some .boolean) 2 := ⟨⟨(zA_t 422 (by decide +kernel) rfl), (zA_t 1 (by decide +kernel) rfl), by decide +kernel, by decide +kernel, by decide +kernel⟩, (zA_t 421 (by decide +kernel) rfl)⟩
theorem cal_X10_with : CalS yX10_with cX10_with 2 (some .int) 2 := ⟨⟨(zA_t 438 (by decide +kernel) rfl), (zA_t 1 (by decide +kernel) rfl), by decide +kernel, by decide +kernel, by decide +kernel⟩, (zA_t 437 (by decide +kernel) rfl)⟩
theorem cal_X10_without : CalS yX10_without cX10_without 2 (some .int) 2 := ⟨⟨(zA_t 509 (by decide +kernel) rfl), (zA_t 1 (by decide +kernel) rfl), by decide +kernel, by decide +kernel, by decide +kernel⟩, (zA_t 508 (by decide +kernel) rfl)⟩
theorem cal_X10_holdsAll : CalS yX10_holdsAll cX10_holdsAll 2 (some .boolean) 2 := ⟨⟨(zA_t 583 (by decide +kernel) rfl), (zA_t 1 (by decide +kernel) rfl), by decide +kernel, by decide +kernel, by decide +kernel⟩, (zA_t 582 (by decide +kernel) rfl)⟩
theorem cal_X10_at : CalS yX10_at cX10_at 2 (some .int) 2 := ⟨⟨(zA_t 349 (by decide +kernel) rfl), (zA_t 1 (by decide +kernel) rfl), by decide +kernel, by decide +kernel, by decide +kernel⟩, (zA_t 348 (by decide +kernel) rfl)⟩
theorem cal_X10_at_ : CalS yX10_at_ cX10_at_ 2 (some .long) 2 := ⟨⟨(zA_t 500 (by decide +kernel) rfl), (zA_t 1 (by decide +kernel) rfl), by decide +kernel, by decide +kernel, by decide +kernel⟩, (zA_t 499 (by decide +kernel) rfl)⟩
theorem cal_X10_put : CalS yX10_put cX10_put 3 none 3 := ⟨⟨(zA_t 322 (by decide +kernel) rfl), (zA_t 1 (by decide +kernel) rfl), by decide +kernel, by decide +kernel, by decide +kernel⟩, (zA_t 321 (by decide +kernel) rfl)⟩
theorem cal_X10_put_ : CalS yX10_put_ cX10_put_ 4 none 3 := ⟨⟨(zA_t 512 (by decide +kernel) rfl), (zA_t 1 (by decide +kernel) rfl), by decide +kernel, by decide +kernel, by decide +kernel⟩, (zA_t 511 (by decide +kernel) rfl)⟩
theorem cal_X10_inLowestTerms : CalS yX10_inLowestTerms cX10_inLowestTerms 7 (some .long) 3 := ⟨⟨(zA_t 462 (by decide +kernel) rfl), (zA_t 1 (by decide +kernel) rfl), by decide +kernel, by decide +kernel, by decide +kernel⟩, (zA_t 461 (by decide +kernel) rfl)⟩
theorem cal_X10_commonDivisor : CalS yX10_commonDivisor cX10_commonDivisor 11 (some .long) 2 := ⟨⟨(zA_t 465 (by decide +kernel) rfl), (zA_t 1 (by decide +kernel) rfl), by decide +kernel, by decide +kernel, by decide +kernel⟩, (zA_t 464 (by decide +kernel) rfl)⟩
theorem cal_X11_in : CalS yX11_in cX11_in 6 (some .boolean) 3 := ⟨⟨(zA_t 1005 (by decide +kernel) rfl), (zA_t 12 (by decide +kernel) rfl), by decide +kernel, by decide +kernel, by decide +kernel⟩, (zA_t 1004 (by decide +kernel) rfl)⟩
theorem cal_X11_letter : CalV yX11_letter cX11_letter 2 (some .int) 1 := ⟨⟨(zA_t 1001 (by decide +kernel) rfl), (zA_t 12 (by decide +kernel) rfl), by decide +kernel, by decide +kernel, by decide +kernel⟩, (zA_t 999 (by decide +kernel) rfl), (zA_t 1000 (by decide +kernel) rfl)⟩
theorem cal_X11_blank : CalV yX11_blank cX11_blank 2 (some .int) 0 := ⟨⟨(zA_t 1009 (by decide +kernel) rfl), (zA_t 12 (by decide +kernel) rfl), by decide +kernel, by decide +kernel, by decide +kernel⟩, (zA_t 1007 (by decide +kernel) rfl), (zA_t 1008 (by decide +kernel) rfl)⟩
theorem cal_X11_goGust : CalV yX11_goGust cX11_goGust 5 (some .boolean) 2 := ⟨⟨(zA_t 1026 (by decide +kernel) rfl), (zA_t 12 (by decide +kernel) rfl), by decide +kernel, by decide +kernel, by decide +kernel⟩, (zA_t 1025 (by decide +kernel) rfl), (zA_p (List.mem_of_getElem? (i := 21) (by decide +kernel)) rfl)⟩
theorem cal_X11_go : CalV yX11_go cX11_go 4 (some .boolean) 2 := ⟨⟨(zA_t 1021 (by decide +kernel) rfl), (zA_t 12 (by decide +kernel) rfl), by decide +kernel, by decide +kernel, by decide +kernel⟩, (zA_t 1020 (by decide +kernel) rfl), (zA_p (List.mem_of_getElem? (i := 20) (by decide +kernel)) rfl)⟩
theorem cal_X11_faultOf : CalV yX11_faultOf cX11_faultOf 2 (some .int) 0 := ⟨⟨(zA_t 1017 (by decide +kernel) rfl), (zA_t 12 (by decide +kernel) rfl), by decide +kernel, by decide +kernel, by decide +kernel⟩, (zA_t 1016 (by decide +kernel) rfl), (zA_p (List.mem_of_getElem? (i := 19) (by decide +kernel)) rfl)⟩
theorem cal_X11_fault : CalV yX11_fault cX11_fault 1 (some .int) 0 := ⟨⟨(zA_t 1013 (by decide +kernel) rfl), (zA_t 12 (by decide +kernel) rfl), by decide +kernel, by decide +kernel, by decide +kernel⟩, (zA_t 1011 (by decide +kernel) rfl), (zA_t 1012 (by decide +kernel) rfl)⟩
theorem cal_X11_night : CalV yX11_night cX11_night 2 (some .int) 0 := ⟨⟨(zA_t 1030 (by decide +kernel) rfl), (zA_t 12 (by decide +kernel) rfl), by decide +kernel, by decide +kernel, by decide +kernel⟩, (zA_t 1028 (by decide +kernel) rfl), (zA_t 1029 (by decide +kernel) rfl)⟩
theorem cal_X11_lacks : CalV yX11_lacks cX11_lacks 1 (some .boolean) 0 := ⟨⟨(zA_t 1041 (by decide +kernel) rfl), (zA_t 12 (by decide +kernel) rfl), by decide +kernel, by decide +kernel, by decide +kernel⟩, (zA_t 1040 (by decide +kernel) rfl), (zA_p (List.mem_of_getElem? (i := 22) (by decide +kernel)) rfl)⟩
theorem cal_X11_stageNow : CalV yX11_stageNow cX11_stageNow 1 (some .int) 0 := ⟨⟨(zA_t 1063 (by decide +kernel) rfl), (zA_t 12 (by decide +kernel) rfl), by decide +kernel, by decide +kernel, by decide +kernel⟩, (zA_t 1062 (by decide +kernel) rfl), (zA_p (List.mem_of_getElem? (i := 25) (by decide +kernel)) rfl)⟩
theorem cal_X11_tellSea : CalV yX11_tellSea cX11_tellSea 2 (some .int) 1 := ⟨⟨(zA_t 1045 (by decide +kernel) rfl), (zA_t 12 (by decide +kernel) rfl), by decide +kernel, by decide +kernel, by decide +kernel⟩, (zA_t 1044 (by decide +kernel) rfl), (zA_p (List.mem_of_getElem? (i := 23) (by decide +kernel)) rfl)⟩
theorem cal_X11_sea : CalV yX11_sea cX11_sea 2 (some .int) 1 := ⟨⟨(zA_t 1034 (by decide +kernel) rfl), (zA_t 12 (by decide +kernel) rfl), by decide +kernel, by decide +kernel, by decide +kernel⟩, (zA_t 1032 (by decide +kernel) rfl), (zA_t 1033 (by decide +kernel) rfl)⟩
theorem cal_X11_isRocket : CalV yX11_isRocket cX11_isRocket 2 (some .boolean) 1 := ⟨⟨(zA_t 1058 (by decide +kernel) rfl), (zA_t 12 (by decide +kernel) rfl), by decide +kernel, by decide +kernel, by decide +kernel⟩, (zA_t 1057 (by decide +kernel) rfl), (zA_p (List.mem_of_getElem? (i := 24) (by decide +kernel)) rfl)⟩
theorem cal_X11_rocket : CalV yX11_rocket cX11_rocket 3 (some .int) 2 := ⟨⟨(zA_t 1049 (by decide +kernel) rfl), (zA_t 12 (by decide +kernel) rfl), by decide +kernel, by decide +kernel, by decide +kernel⟩, (zA_t 1047 (by decide +kernel) rfl), (zA_t 1048 (by decide +kernel) rfl)⟩
theorem cal_X11_fallsAt : CalV yX11_fallsAt cX11_fallsAt 4 (some .int) 3 := ⟨⟨(zA_t 1067 (by decide +kernel) rfl), (zA_t 12 (by decide +kernel) rfl), by decide +kernel, by decide +kernel, by decide +kernel⟩, (zA_t 1066 (by decide +kernel) rfl), (zA_p (List.mem_of_getElem? (i := 26) (by decide +kernel)) rfl)⟩
theorem cal_X11_isRight : CalV yX11_isRight cX11_isRight 2 (some .boolean) 1 := ⟨⟨(zA_t 1071 (by decide +kernel) rfl), (zA_t 12 (by decide +kernel) rfl), by decide +kernel, by decide +kernel, by decide +kernel⟩, (zA_t 1070 (by decide +kernel) rfl), (zA_p (List.mem_of_getElem? (i := 27) (by decide +kernel)) rfl)⟩
theorem cal_X11_fire : CalV yX11_fire cX11_fire 4 (some .int) 2 := ⟨⟨(zA_t 1054 (by decide +kernel) rfl), (zA_t 12 (by decide +kernel) rfl), by decide +kernel, by decide +kernel, by decide +kernel⟩, (zA_t 1052 (by decide +kernel) rfl), (zA_t 1053 (by decide +kernel) rfl)⟩
theorem cal_X11_hitTenths : CalV yX11_hitTenths cX11_hitTenths 5 (some .int) 2 := ⟨⟨(zA_t 1081 (by decide +kernel) rfl), (zA_t 12 (by decide +kernel) rfl), by decide +kernel, by decide +kernel, by decide +kernel⟩, (zA_t 1080 (by decide +kernel) rfl), (zA_p (List.mem_of_getElem? (i := 28) (by decide +kernel)) rfl)⟩
theorem cal_X11_term : CalS yX11_term cX11_term 11 (some .long) 3 := ⟨⟨(zA_t 1084 (by decide +kernel) rfl), (zA_t 12 (by decide +kernel) rfl), by decide +kernel, by decide +kernel, by decide +kernel⟩, (zA_t 1083 (by decide +kernel) rfl)⟩
theorem cal_X11_hits : CalV yX11_hits cX11_hits 4 (some .long) 3 := ⟨⟨(zA_t 1075 (by decide +kernel) rfl), (zA_t 12 (by decide +kernel) rfl), by decide +kernel, by decide +kernel, by decide +kernel⟩, (zA_t 1073 (by decide +kernel) rfl), (zA_t 1074 (by decide +kernel) rfl)⟩
theorem cal_X11_leftBits : CalV yX11_leftBits cX11_leftBits 3 (some .int) 0 := ⟨⟨(zA_t 1105 (by decide +kernel) rfl), (zA_t 12 (by decide +kernel) rfl), by decide +kernel, by decide +kernel, by decide +kernel⟩, (zA_t 1104 (by decide +kernel) rfl), (zA_p (List.mem_of_getElem? (i := 32) (by decide +kernel)) rfl)⟩
theorem cal_X11_bestOf : CalV yX11_bestOf cX11_bestOf 14 (some .long) 3 := ⟨⟨(zA_t 1101 (by decide +kernel) rfl), (zA_t 12 (by decide +kernel) rfl), by decide +kernel, by decide +kernel, by decide +kernel⟩, (zA_t 1100 (by decide +kernel) rfl), (zA_p (List.mem_of_getElem? (i := 31) (by decide +kernel)) rfl)⟩
theorem cal_X11_aimOf : CalV yX11_aimOf cX11_aimOf 8 (some .long) 1 := ⟨⟨(zA_t 1096 (by decide +kernel) rfl), (zA_t 12 (by decide +kernel) rfl), by decide +kernel, by decide +kernel, by decide +kernel⟩, (zA_t 1095 (by decide +kernel) rfl), (zA_p (List.mem_of_getElem? (i := 30) (by decide +kernel)) rfl)⟩
theorem cal_X11_hundreds : CalS yX11_hundreds cX11_hundreds 4 (some .long) 1 := ⟨⟨(zA_t 1108 (by decide +kernel) rfl), (zA_t 12 (by decide +kernel) rfl), by decide +kernel, by decide +kernel, by decide +kernel⟩, (zA_t 1107 (by decide +kernel) rfl)⟩
theorem cal_X11_isAiming : CalV yX11_isAiming cX11_isAiming 1 (some .boolean) 0 := ⟨⟨(zA_t 1092 (by decide +kernel) rfl), (zA_t 12 (by decide +kernel) rfl), by decide +kernel, by decide +kernel, by decide +kernel⟩, (zA_t 1091 (by decide +kernel) rfl), (zA_p (List.mem_of_getElem? (i := 29) (by decide +kernel)) rfl)⟩
theorem cal_X11_aim : CalV yX11_aim cX11_aim 3 (some .long) 2 := ⟨⟨(zA_t 1088 (by decide +kernel) rfl), (zA_t 12 (by decide +kernel) rfl), by decide +kernel, by decide +kernel, by decide +kernel⟩, (zA_t 1086 (by decide +kernel) rfl), (zA_t 1087 (by decide +kernel) rfl)⟩
theorem cal_X11_which : CalV yX11_which cX11_which 4 (some .int) 1 := ⟨⟨(zA_t 1113 (by decide +kernel) rfl), (zA_t 12 (by decide +kernel) rfl), by decide +kernel, by decide +kernel, by decide +kernel⟩, (zA_t 1111 (by decide +kernel) rfl), (zA_t 1112 (by decide +kernel) rfl)⟩
theorem cal_X11_layLater : CalV yX11_layLater cX11_layLater 8 none 1 := ⟨⟨(zA_t 1117 (by decide +kernel) rfl), (zA_t 12 (by decide +kernel) rfl), by decide +kernel, by decide +kernel, by decide +kernel⟩, (zA_t 1116 (by decide +kernel) rfl), (zA_p (List.mem_of_getElem? (i := 33) (by decide +kernel)) rfl)⟩
theorem cal_X11_isMan : CalV yX11_isMan cX11_isMan 2 (some .boolean) 1 := ⟨⟨(zA_t 1130 (by decide +kernel) rfl), (zA_t 12 (by decide +kernel) rfl), by decide +kernel, by decide +kernel, by decide +kernel⟩, (zA_t 1129 (by decide +kernel) rfl), (zA_p (List.mem_of_getElem? (i := 34) (by decide +kernel)) rfl)⟩
theorem cal_X11_man : CalV yX11_man cX11_man 3 (some .int) 2 := ⟨⟨(zA_t 1121 (by decide +kernel) rfl), (zA_t 12 (by decide +kernel) rfl), by decide +kernel, by decide +kernel, by decide +kernel⟩, (zA_t 1119 (by decide +kernel) rfl), (zA_t 1120 (by decide +kernel) rfl)⟩
theorem cal_X11_sags : CalV yX11_sags cX11_sags 2 (some .boolean) 1 := ⟨⟨(zA_t 1142 (by decide +kernel) rfl), (zA_t 12 (by decide +kernel) rfl), by decide +kernel, by decide +kernel, by decide +kernel⟩, (zA_t 1141 (by decide +kernel) rfl), (zA_p (List.mem_of_getElem? (i := 37) (by decide +kernel)) rfl)⟩
theorem cal_X11_takes : CalV yX11_takes cX11_takes 4 (some .int) 1 := ⟨⟨(zA_t 1138 (by decide +kernel) rfl), (zA_t 12 (by decide +kernel) rfl), by decide +kernel, by decide +kernel, by decide +kernel⟩, (zA_t 1137 (by decide +kernel) rfl), (zA_p (List.mem_of_getElem? (i := 36) (by decide +kernel)) rfl)⟩
theorem cal_X11_overBits : CalV yX11_overBits cX11_overBits 3 (some .int) 0 := ⟨⟨(zA_t 1150 (by decide +kernel) rfl), (zA_t 12 (by decide +kernel) rfl), by decide +kernel, by decide +kernel, by decide +kernel⟩, (zA_t 1149 (by decide +kernel) rfl), (zA_p (List.mem_of_getElem? (i := 39) (by decide +kernel)) rfl)⟩
theorem cal_X11_canCome : CalV yX11_canCome cX11_canCome 5 (some .boolean) 2 := ⟨⟨(zA_t 1154 (by decide +kernel) rfl), (zA_t 12 (by decide +kernel) rfl), by decide +kernel, by decide +kernel, by decide +kernel⟩, (zA_t 1153 (by decide +kernel) rfl), (zA_p (List.mem_of_getElem? (i := 40) (by decide +kernel)) rfl)⟩
theorem cal_X11_mayCome : CalV yX11_mayCome cX11_mayCome 2 (some .boolean) 1 := ⟨⟨(zA_t 1146 (by decide +kernel) rfl), (zA_t 12 (by decide +kernel) rfl), by decide +kernel, by decide +kernel, by decide +kernel⟩, (zA_t 1145 (by decide +kernel) rfl), (zA_p (List.mem_of_getElem? (i := 38) (by decide +kernel)) rfl)⟩
theorem cal_X11_tellMan : CalV yX11_tellMan cX11_tellMan 3 (some .int) 2 := ⟨⟨(zA_t 1134 (by decide +kernel) rfl), (zA_t 12 (by decide +kernel) rfl), by decide +kernel, by decide +kernel, by decide +kernel⟩, (zA_t 1133 (by decide +kernel) rfl), (zA_p (List.mem_of_getElem? (i := 35) (by decide +kernel)) rfl)⟩
theorem cal_X11_about : CalV yX11_about cX11_about 3 (some .int) 2 := ⟨⟨(zA_t 1126 (by decide +kernel) rfl), (zA_t 12 (by decide +kernel) rfl), by decide +kernel, by decide +kernel, by decide +kernel⟩, (zA_t 1124 (by decide +kernel) rfl), (zA_t 1125 (by decide +kernel) rfl)⟩
theorem cal_X11_as : CalV yX11_as cX11_as 5 (some .int) 2 := ⟨⟨(zA_t 1158 (by decide +kernel) rfl), (zA_t 12 (by decide +kernel) rfl), by decide +kernel, by decide +kernel, by decide +kernel⟩, (zA_t 1156 (by decide +kernel) rfl), (zA_t 1157 (by decide +kernel) rfl)⟩
theorem cal_X11_behind : CalV yX11_behind cX11_behind 5 (some .int) 3 := ⟨⟨(zA_t 1162 (by decide +kernel) rfl), (zA_t 12 (by decide +kernel) rfl), by decide +kernel, by decide +kernel, by decide +kernel⟩, (zA_t 1160 (by decide +kernel) rfl), (zA_t 1161 (by decide +kernel) rfl)⟩
theorem cal_X11_hawser : CalV yX11_hawser cX11_hawser 3 (some .int) 1 := ⟨⟨(zA_t 1166 (by decide +kernel) rfl), (zA_t 12 (by decide +kernel) rfl), by decide +kernel, by decide +kernel, by decide +kernel⟩, (zA_t 1164 (by decide +kernel) rfl), (zA_t 1165 (by decide +kernel) rfl)⟩
theorem cal_X11_come : CalV yX11_come cX11_come 2 (some .int) 1 := ⟨⟨(zA_t 1171 (by decide +kernel) rfl), (zA_t 12 (by decide +kernel) rfl), by decide +kernel, by decide +kernel, by decide +kernel⟩, (zA_t 1169 (by decide +kernel) rfl), (zA_t 1170 (by decide +kernel) rfl)⟩
theorem cal_X11_minutes : CalV yX11_minutes cX11_minutes 2 (some .int) 1 := ⟨⟨(zA_t 1175 (by decide +kernel) rfl), (zA_t 12 (by decide +kernel) rfl), by decide +kernel, by decide +kernel, by decide +kernel⟩, (zA_t 1173 (by decide +kernel) rfl), (zA_t 1174 (by decide +kernel) rfl)⟩
theorem cal_X11_ones : CalS yX11_ones cX11_ones 3 (some .int) 1 := ⟨⟨(zA_t 1183 (by decide +kernel) rfl), (zA_t 12 (by decide +kernel) rfl), by decide +kernel, by decide +kernel, by decide +kernel⟩, (zA_t 1182 (by decide +kernel) rfl)⟩
theorem cal_X11_breaks : CalV yX11_breaks cX11_breaks 1 (some .int) 0 := ⟨⟨(zA_t 1180 (by decide +kernel) rfl), (zA_t 12 (by decide +kernel) rfl), by decide +kernel, by decide +kernel, by decide +kernel⟩, (zA_t 1178 (by decide +kernel) rfl), (zA_t 1179 (by decide +kernel) rfl)⟩
theorem cal_X11_firstOrder : CalV yX11_firstOrder cX11_firstOrder 3 none 1 := ⟨⟨(zA_t 1192 (by decide +kernel) rfl), (zA_t 12 (by decide +kernel) rfl), by decide +kernel, by decide +kernel, by decide +kernel⟩, (zA_t 1191 (by decide +kernel) rfl), (zA_p (List.mem_of_getElem? (i := 41) (by decide +kernel)) rfl)⟩
theorem cal_X11_nextOrder : CalV yX11_nextOrder cX11_nextOrder 6 (some .boolean) 0 := ⟨⟨(zA_t 1205 (by decide +kernel) rfl), (zA_t 12 (by decide +kernel) rfl), by decide +kernel, by decide +kernel, by decide +kernel⟩, (zA_t 1204 (by decide +kernel) rfl), (zA_p (List.mem_of_getElem? (i := 44) (by decide +kernel)) rfl)⟩
theorem cal_X11_holds : CalV yX11_holds cX11_holds 5 (some .long) 1 := ⟨⟨(zA_t 1200 (by decide +kernel) rfl), (zA_t 12 (by decide +kernel) rfl), by decide +kernel, by decide +kernel, by decide +kernel⟩, (zA_t 1199 (by decide +kernel) rfl), (zA_p (List.mem_of_getElem? (i := 43) (by decide +kernel)) rfl)⟩
theorem cal_X11_meanOf : CalV yX11_meanOf cX11_meanOf 6 (some .long) 0 := ⟨⟨(zA_t 1196 (by decide +kernel) rfl), (zA_t 12 (by decide +kernel) rfl), by decide +kernel, by decide +kernel, by decide +kernel⟩, (zA_t 1195 (by decide +kernel) rfl), (zA_p (List.mem_of_getElem? (i := 42) (by decide +kernel)) rfl)⟩
theorem cal_X11_order : CalV yX11_order cX11_order 8 (some .long) 1 := ⟨⟨(zA_t 1187 (by decide +kernel) rfl), (zA_t 12 (by decide +kernel) rfl), by decide +kernel, by decide +kernel, by decide +kernel⟩, (zA_t 1185 (by decide +kernel) rfl), (zA_t 1186 (by decide +kernel) rfl)⟩
theorem cal_X11_said : CalV yX11_said cX11_said 3 (some .int) 2 := ⟨⟨(zA_t 1209 (by decide +kernel) rfl), (zA_t 12 (by decide +kernel) rfl), by decide +kernel, by decide +kernel, by decide +kernel⟩, (zA_t 1207 (by decide +kernel) rfl), (zA_t 1208 (by decide +kernel) rfl)⟩
theorem cal_X11_placeOf : CalV yX11_placeOf cX11_placeOf 4 (some .int) 1 := ⟨⟨(zA_t 1225 (by decide +kernel) rfl), (zA_t 12 (by decide +kernel) rfl), by decide +kernel, by decide +kernel, by decide +kernel⟩, (zA_t 1224 (by decide +kernel) rfl), (zA_p (List.mem_of_getElem? (i := 47) (by decide +kernel)) rfl)⟩
theorem cal_X11_isSaidSo : CalV yX11_isSaidSo cX11_isSaidSo 6 (some .boolean) 0 := ⟨⟨(zA_t 1221 (by decide +kernel) rfl), (zA_t 12 (by decide +kernel) rfl), by decide +kernel, by decide +kernel, by decide +kernel⟩, (zA_t 1220 (by decide +kernel) rfl), (zA_p (List.mem_of_getElem? (i := 46) (by decide +kernel)) rfl)⟩
theorem cal_X11_layOrders : CalV yX11_layOrders cX11_layOrders 4 (some .int) 0 := ⟨⟨(zA_t 1217 (by decide +kernel) rfl), (zA_t 12 (by decide +kernel) rfl), by decide +kernel, by decide +kernel, by decide +kernel⟩, (zA_t 1216 (by decide +kernel) rfl), (zA_p (List.mem_of_getElem? (i := 45) (by decide +kernel)) rfl)⟩
theorem cal_X11_orders : CalV yX11_orders cX11_orders 1 (some .int) 0 := ⟨⟨(zA_t 1213 (by decide +kernel) rfl), (zA_t 12 (by decide +kernel) rfl), by decide +kernel, by decide +kernel, by decide +kernel⟩, (zA_t 1211 (by decide +kernel) rfl), (zA_t 1212 (by decide +kernel) rfl)⟩
theorem cal_X11_sure : CalV yX11_sure cX11_sure 4 (some .int) 1 := ⟨⟨(zA_t 1229 (by decide +kernel) rfl), (zA_t 12 (by decide +kernel) rfl), by decide +kernel, by decide +kernel, by decide +kernel⟩, (zA_t 1227 (by decide +kernel) rfl), (zA_t 1228 (by decide +kernel) rfl)⟩
theorem cal_X11_wreck : CalV yX11_wreck cX11_wreck 2 (some .int) 1 := ⟨⟨(zA_t 1233 (by decide +kernel) rfl), (zA_t 12 (by decide +kernel) rfl), by decide +kernel, by decide +kernel, by decide +kernel⟩, (zA_t 1231 (by decide +kernel) rfl), (zA_t 1232 (by decide +kernel) rfl)⟩
theorem cal_X11_stationsOf : CalV yX11_stationsOf cX11_stationsOf 9 (some .int) 2 := ⟨⟨(zA_t 1242 (by decide +kernel) rfl), (zA_t 12 (by decide +kernel) rfl), by decide +kernel, by decide +kernel, by decide +kernel⟩, (zA_t 1241 (by decide +kernel) rfl), (zA_p (List.mem_of_getElem? (i := 48) (by decide +kernel)) rfl)⟩
theorem cal_X11_stations : CalV yX11_stations cX11_stations 3 (some .int) 2 := ⟨⟨(zA_t 1238 (by decide +kernel) rfl), (zA_t 12 (by decide +kernel) rfl), by decide +kernel, by decide +kernel, by decide +kernel⟩, (zA_t 1236 (by decide +kernel) rfl), (zA_t 1237 (by decide +kernel) rfl)⟩
theorem cal_X11_draw : CalV yX11_draw cX11_draw 2 (some .int) 1 := ⟨⟨(zA_t 1251 (by decide +kernel) rfl), (zA_t 12 (by decide +kernel) rfl), by decide +kernel, by decide +kernel, by decide +kernel⟩, (zA_t 1250 (by decide +kernel) rfl), (zA_p (List.mem_of_getElem? (i := 49) (by decide +kernel)) rfl)⟩
theorem cal_X11_nights : CalV yX11_nights cX11_nights 12 (some .int) 2 := ⟨⟨(zA_t 1246 (by decide +kernel) rfl), (zA_t 12 (by decide +kernel) rfl), by decide +kernel, by decide +kernel, by decide +kernel⟩, (zA_t 1244 (by decide +kernel) rfl), (zA_t 1245 (by decide +kernel) rfl)⟩
theorem cal_X11_copy : CalS yX11_copy cX11_copy 3 none 2 := ⟨⟨(zA_t 1262 (by decide +kernel) rfl), (zA_t 12 (by decide +kernel) rfl), by decide +kernel, by decide +kernel, by decide +kernel⟩, (zA_t 1261 (by decide +kernel) rfl)⟩
theorem cal_X11_image : CalV yX11_image cX11_image 1 (some .int) 0 := ⟨⟨(zA_t 1259 (by decide +kernel) rfl), (zA_t 12 (by decide +kernel) rfl), by decide +kernel, by decide +kernel, by decide +kernel⟩, (zA_t 1257 (by decide +kernel) rfl), (zA_t 1258 (by decide +kernel) rfl)⟩
theorem cal_X11_restore : CalV yX11_restore cX11_restore 1 (some .int) 0 := ⟨⟨(zA_t 1266 (by decide +kernel) rfl), (zA_t 12 (by decide +kernel) rfl), by decide +kernel, by decide +kernel, by decide +kernel⟩, (zA_t 1264 (by decide +kernel) rfl), (zA_t 1265 (by decide +kernel) rfl)⟩
theorem cal_X11_countOf : CalV yX11_countOf cX11_countOf 2 (some .int) 1 := ⟨⟨(zA_t 1274 (by decide +kernel) rfl), (zA_t 12 (by decide +kernel) rfl), by decide +kernel, by decide +kernel, by decide +kernel⟩, (zA_t 1273 (by decide +kernel) rfl), (zA_p (List.mem_of_getElem? (i := 50) (by decide +kernel)) rfl)⟩
theorem cal_X11_count : CalV yX11_count cX11_count 2 (some .int) 1 := ⟨⟨(zA_t 1270 (by decide +kernel) rfl), (zA_t 12 (by decide +kernel) rfl), by decide +kernel, by decide +kernel, by decide +kernel⟩, (zA_t 1268 (by decide +kernel) rfl), (zA_t 1269 (by decide +kernel) rfl)⟩
theorem cal_X11_say : CalV yX11_say cX11_say 3 none 1 := ⟨⟨(zA_t 1283 (by decide +kernel) rfl), (zA_t 12 (by decide +kernel) rfl), by decide +kernel, by decide +kernel, by decide +kernel⟩, (zA_t 1282 (by decide +kernel) rfl), (zA_p (List.mem_of_getElem? (i := 51) (by decide +kernel)) rfl)⟩
theorem cal_X11_digest : CalV yX11_digest cX11_digest 3 (some .long) 0 := ⟨⟨(zA_t 1278 (by decide +kernel) rfl), (zA_t 12 (by decide +kernel) rfl), by decide +kernel, by decide +kernel, by decide +kernel⟩, (zA_t 1276 (by decide +kernel) rfl), (zA_t 1277 (by decide +kernel) rfl)⟩
theorem cal_J6_bitCount_0f7a4 : CalS yJ6_bitCount_0f7a4 cJ6_bitCount_0f7a4 1 (some .int) 1 := ⟨⟨(zA_t 634 (by decide +kernel) rfl), (zA_t 15 (by decide +kernel) rfl), by decide +kernel, by decide +kernel, by decide +kernel⟩, (zA_t 633 (by decide +kernel) rfl)⟩
theorem cal_J7_fill_d0a16 : CalS yJ7_fill_d0a16 cJ7_fill_d0a16 5 none 2 := ⟨⟨(zA_t 489 (by decide +kernel) rfl), (zA_t 13 (by decide +kernel) rfl), by decide +kernel, by decide +kernel, by decide +kernel⟩, (zA_t 488 (by decide +kernel) rfl)⟩
theorem cal_J7_fill_53178 : CalS yJ7_fill_53178 cJ7_fill_53178 4 none 2 := ⟨⟨(zA_t 384 (by decide +kernel) rfl), (zA_t 13 (by decide +kernel) rfl), by decide +kernel, by decide +kernel, by decide +kernel⟩, (zA_t 383 (by decide +kernel) rfl)⟩
theorem st_min : Cond.static Lib.Math.min.name ∈ zA := (zA_t 485 (by decide +kernel) rfl)
theorem in_min : Cond.initialized "java/lang/Math" ∈ zA := (zA_t 14 (by decide +kernel) rfl)
theorem co_min : Cond.code Lib.Math.min.name Lib.Math.min.code 2 (some .int) ∈ zA := (zA_t 486 (by decide +kernel) rfl)
