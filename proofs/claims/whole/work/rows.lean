section
-- ===== PART A: goes FIRST, ahead of the names: the tables' words, and 'selects' of the private methods out of them =====
/-- a private method of a class that the tables say can be made, by its rows of tables_1 -/
def lw_okq (q : MethodName × Nat) : Prop := (q.1.cls ≠ "java/lang/invoke/MethodHandle" ∧ q.1.cls ≠ "java/lang/invoke/VarHandle") ∧ Cond.instantiable q.1.cls q.2 ∈ tables_1 ∧ Cond.privateMethod q.1 ∈ tables_1 ∧ Cond.instanceMethod q.1 ∈ tables_1
theorem lw_p0 : lw_okq (⟨"LineToWreck$Page", "fits", "(I)Z"⟩, 2) := ⟨⟨by decide +kernel, by decide +kernel⟩, List.mem_of_getElem? (i := 25) (by decide +kernel), List.mem_of_getElem? (i := 340) (by decide +kernel), List.mem_of_getElem? (i := 341) (by decide +kernel)⟩
theorem lw_p1 : lw_okq (⟨"LineToWreck$Page", "gustsTo", "(I)I"⟩, 2) := ⟨⟨by decide +kernel, by decide +kernel⟩, List.mem_of_getElem? (i := 25) (by decide +kernel), List.mem_of_getElem? (i := 356) (by decide +kernel), List.mem_of_getElem? (i := 357) (by decide +kernel)⟩
theorem lw_p2 : lw_okq (⟨"LineToWreck", "hasNight", "()Z"⟩, 12) := ⟨⟨by decide +kernel, by decide +kernel⟩, List.mem_of_getElem? (i := 17) (by decide +kernel), List.mem_of_getElem? (i := 395) (by decide +kernel), List.mem_of_getElem? (i := 396) (by decide +kernel)⟩
theorem lw_p3 : lw_okq (⟨"LineToWreck", "canAim", "()Z"⟩, 12) := ⟨⟨by decide +kernel, by decide +kernel⟩, List.mem_of_getElem? (i := 17) (by decide +kernel), List.mem_of_getElem? (i := 471) (by decide +kernel), List.mem_of_getElem? (i := 472) (by decide +kernel)⟩
theorem lw_p4 : lw_okq (⟨"LineToWreck", "isAfloat", "()Z"⟩, 12) := ⟨⟨by decide +kernel, by decide +kernel⟩, List.mem_of_getElem? (i := 17) (by decide +kernel), List.mem_of_getElem? (i := 475) (by decide +kernel), List.mem_of_getElem? (i := 476) (by decide +kernel)⟩
theorem lw_p5 : lw_okq (⟨"LineToWreck$AimSearch", "findBest", "(LLineToWreck$Sea;LLineToWreck$Rockets;II)V"⟩, 4) := ⟨⟨by decide +kernel, by decide +kernel⟩, List.mem_of_getElem? (i := 186) (by decide +kernel), List.mem_of_getElem? (i := 491) (by decide +kernel), List.mem_of_getElem? (i := 492) (by decide +kernel)⟩
theorem lw_p6 : lw_okq (⟨"LineToWreck$AimSearch", "chance", "(IIJ)J"⟩, 4) := ⟨⟨by decide +kernel, by decide +kernel⟩, List.mem_of_getElem? (i := 186) (by decide +kernel), List.mem_of_getElem? (i := 502) (by decide +kernel), List.mem_of_getElem? (i := 503) (by decide +kernel)⟩
theorem lw_p7 : lw_okq (⟨"LineToWreck", "mayCome", "(I)Z"⟩, 12) := ⟨⟨by decide +kernel, by decide +kernel⟩, List.mem_of_getElem? (i := 17) (by decide +kernel), List.mem_of_getElem? (i := 569) (by decide +kernel), List.mem_of_getElem? (i := 570) (by decide +kernel)⟩
theorem lw_p8 : lw_okq (⟨"LineToWreck$Crew", "allButCaptains", "()I"⟩, 4) := ⟨⟨by decide +kernel, by decide +kernel⟩, List.mem_of_getElem? (i := 87) (by decide +kernel), List.mem_of_getElem? (i := 577) (by decide +kernel), List.mem_of_getElem? (i := 578) (by decide +kernel)⟩
theorem lw_p9 : lw_okq (⟨"LineToWreck", "areTwoMen", "(II)Z"⟩, 12) := ⟨⟨by decide +kernel, by decide +kernel⟩, List.mem_of_getElem? (i := 17) (by decide +kernel), List.mem_of_getElem? (i := 601) (by decide +kernel), List.mem_of_getElem? (i := 602) (by decide +kernel)⟩
theorem lw_p10 : lw_okq (⟨"LineToWreck$OrderSearch", "findNext", "(LLineToWreck$Crew;I)V"⟩, 4) := ⟨⟨by decide +kernel, by decide +kernel⟩, List.mem_of_getElem? (i := 209) (by decide +kernel), List.mem_of_getElem? (i := 652) (by decide +kernel), List.mem_of_getElem? (i := 653) (by decide +kernel)⟩
theorem lw_p11 : lw_okq (⟨"LineToWreck$Successions", "countWays", "()V"⟩, 5) := ⟨⟨by decide +kernel, by decide +kernel⟩, List.mem_of_getElem? (i := 228) (by decide +kernel), List.mem_of_getElem? (i := 713) (by decide +kernel), List.mem_of_getElem? (i := 714) (by decide +kernel)⟩
theorem lw_p12 : lw_okq (⟨"LineToWreck$Successions", "mayFollow", "(II)Z"⟩, 5) := ⟨⟨by decide +kernel, by decide +kernel⟩, List.mem_of_getElem? (i := 228) (by decide +kernel), List.mem_of_getElem? (i := 718) (by decide +kernel), List.mem_of_getElem? (i := 719) (by decide +kernel)⟩
theorem lw_p13 : lw_okq (⟨"LineToWreck$Successions", "countRests", "()V"⟩, 5) := ⟨⟨by decide +kernel, by decide +kernel⟩, List.mem_of_getElem? (i := 228) (by decide +kernel), List.mem_of_getElem? (i := 726) (by decide +kernel), List.mem_of_getElem? (i := 727) (by decide +kernel)⟩
theorem lw_p14 : lw_okq (⟨"LineToWreck$Course", "leastWreckFrom", "(I)I"⟩, 11) := ⟨⟨by decide +kernel, by decide +kernel⟩, List.mem_of_getElem? (i := 109) (by decide +kernel), List.mem_of_getElem? (i := 759) (by decide +kernel), List.mem_of_getElem? (i := 760) (by decide +kernel)⟩
theorem lw_p15 : lw_okq (⟨"LineToWreck$Course", "stationFor", "(II)I"⟩, 11) := ⟨⟨by decide +kernel, by decide +kernel⟩, List.mem_of_getElem? (i := 109) (by decide +kernel), List.mem_of_getElem? (i := 763) (by decide +kernel), List.mem_of_getElem? (i := 764) (by decide +kernel)⟩
def lw_privs_1 : List (MethodName × Nat) := [(⟨"LineToWreck$Page", "fits", "(I)Z"⟩, 2), (⟨"LineToWreck$Page", "gustsTo", "(I)I"⟩, 2), (⟨"LineToWreck", "hasNight", "()Z"⟩, 12), (⟨"LineToWreck", "canAim", "()Z"⟩, 12), (⟨"LineToWreck", "isAfloat", "()Z"⟩, 12), (⟨"LineToWreck$AimSearch", "findBest", "(LLineToWreck$Sea;LLineToWreck$Rockets;II)V"⟩, 4), (⟨"LineToWreck$AimSearch", "chance", "(IIJ)J"⟩, 4), (⟨"LineToWreck", "mayCome", "(I)Z"⟩, 12), (⟨"LineToWreck$Crew", "allButCaptains", "()I"⟩, 4), (⟨"LineToWreck", "areTwoMen", "(II)Z"⟩, 12), (⟨"LineToWreck$OrderSearch", "findNext", "(LLineToWreck$Crew;I)V"⟩, 4), (⟨"LineToWreck$Successions", "countWays", "()V"⟩, 5), (⟨"LineToWreck$Successions", "mayFollow", "(II)Z"⟩, 5), (⟨"LineToWreck$Successions", "countRests", "()V"⟩, 5), (⟨"LineToWreck$Course", "leastWreckFrom", "(I)I"⟩, 11), (⟨"LineToWreck$Course", "stationFor", "(II)I"⟩, 11)]
theorem lw_r1 : ∀ q ∈ lw_privs_1, lw_okq q := List.forall_mem_cons.mpr ⟨lw_p0, List.forall_mem_cons.mpr ⟨lw_p1, List.forall_mem_cons.mpr ⟨lw_p2, List.forall_mem_cons.mpr ⟨lw_p3, List.forall_mem_cons.mpr ⟨lw_p4, List.forall_mem_cons.mpr ⟨lw_p5, List.forall_mem_cons.mpr ⟨lw_p6, List.forall_mem_cons.mpr ⟨lw_p7, List.forall_mem_cons.mpr ⟨lw_p8, List.forall_mem_cons.mpr ⟨lw_p9, List.forall_mem_cons.mpr ⟨lw_p10, List.forall_mem_cons.mpr ⟨lw_p11, List.forall_mem_cons.mpr ⟨lw_p12, List.forall_mem_cons.mpr ⟨lw_p13, List.forall_mem_cons.mpr ⟨lw_p14, List.forall_mem_cons.mpr ⟨lw_p15, fun _ h => absurd h List.not_mem_nil⟩⟩⟩⟩⟩⟩⟩⟩⟩⟩⟩⟩⟩⟩⟩⟩
theorem lw_p16 : lw_okq (⟨"LineToWreck$Trial", "drawGust", "(LLineToWreck$Sea;)I"⟩, 4) := ⟨⟨by decide +kernel, by decide +kernel⟩, List.mem_of_getElem? (i := 250) (by decide +kernel), List.mem_of_getElem? (i := 788) (by decide +kernel), List.mem_of_getElem? (i := 789) (by decide +kernel)⟩
theorem lw_p17 : lw_okq (⟨"LineToWreck$Trial", "draw", "()I"⟩, 4) := ⟨⟨by decide +kernel, by decide +kernel⟩, List.mem_of_getElem? (i := 250) (by decide +kernel), List.mem_of_getElem? (i := 792) (by decide +kernel), List.mem_of_getElem? (i := 793) (by decide +kernel)⟩
theorem lw_p18 : lw_okq (⟨"LineToWreck", "mixSea", "(J)J"⟩, 12) := ⟨⟨by decide +kernel, by decide +kernel⟩, List.mem_of_getElem? (i := 17) (by decide +kernel), List.mem_of_getElem? (i := 830) (by decide +kernel), List.mem_of_getElem? (i := 831) (by decide +kernel)⟩
theorem lw_p19 : lw_okq (⟨"LineToWreckModel", "faultOf", "()I"⟩, 49) := ⟨⟨by decide +kernel, by decide +kernel⟩, List.mem_of_getElem? (i := 845) (by decide +kernel), List.mem_of_getElem? (i := 1015) (by decide +kernel), List.mem_of_getElem? (i := 1016) (by decide +kernel)⟩
theorem lw_p20 : lw_okq (⟨"LineToWreckModel", "go", "(II)Z"⟩, 49) := ⟨⟨by decide +kernel, by decide +kernel⟩, List.mem_of_getElem? (i := 845) (by decide +kernel), List.mem_of_getElem? (i := 1019) (by decide +kernel), List.mem_of_getElem? (i := 1020) (by decide +kernel)⟩
theorem lw_p21 : lw_okq (⟨"LineToWreckModel", "goGust", "(II)Z"⟩, 49) := ⟨⟨by decide +kernel, by decide +kernel⟩, List.mem_of_getElem? (i := 845) (by decide +kernel), List.mem_of_getElem? (i := 1024) (by decide +kernel), List.mem_of_getElem? (i := 1025) (by decide +kernel)⟩
theorem lw_p22 : lw_okq (⟨"LineToWreckModel", "lacks", "()Z"⟩, 49) := ⟨⟨by decide +kernel, by decide +kernel⟩, List.mem_of_getElem? (i := 845) (by decide +kernel), List.mem_of_getElem? (i := 1039) (by decide +kernel), List.mem_of_getElem? (i := 1040) (by decide +kernel)⟩
theorem lw_p23 : lw_okq (⟨"LineToWreckModel", "tellSea", "(I)I"⟩, 49) := ⟨⟨by decide +kernel, by decide +kernel⟩, List.mem_of_getElem? (i := 845) (by decide +kernel), List.mem_of_getElem? (i := 1043) (by decide +kernel), List.mem_of_getElem? (i := 1044) (by decide +kernel)⟩
theorem lw_p24 : lw_okq (⟨"LineToWreckModel", "isRocket", "(I)Z"⟩, 49) := ⟨⟨by decide +kernel, by decide +kernel⟩, List.mem_of_getElem? (i := 845) (by decide +kernel), List.mem_of_getElem? (i := 1056) (by decide +kernel), List.mem_of_getElem? (i := 1057) (by decide +kernel)⟩
theorem lw_p25 : lw_okq (⟨"LineToWreckModel", "stageNow", "()I"⟩, 49) := ⟨⟨by decide +kernel, by decide +kernel⟩, List.mem_of_getElem? (i := 845) (by decide +kernel), List.mem_of_getElem? (i := 1061) (by decide +kernel), List.mem_of_getElem? (i := 1062) (by decide +kernel)⟩
theorem lw_p26 : lw_okq (⟨"LineToWreckModel", "fallsAt", "(III)I"⟩, 49) := ⟨⟨by decide +kernel, by decide +kernel⟩, List.mem_of_getElem? (i := 845) (by decide +kernel), List.mem_of_getElem? (i := 1065) (by decide +kernel), List.mem_of_getElem? (i := 1066) (by decide +kernel)⟩
theorem lw_p27 : lw_okq (⟨"LineToWreckModel", "isRight", "(I)Z"⟩, 49) := ⟨⟨by decide +kernel, by decide +kernel⟩, List.mem_of_getElem? (i := 845) (by decide +kernel), List.mem_of_getElem? (i := 1069) (by decide +kernel), List.mem_of_getElem? (i := 1070) (by decide +kernel)⟩
theorem lw_p28 : lw_okq (⟨"LineToWreckModel", "hitTenths", "(II)I"⟩, 49) := ⟨⟨by decide +kernel, by decide +kernel⟩, List.mem_of_getElem? (i := 845) (by decide +kernel), List.mem_of_getElem? (i := 1079) (by decide +kernel), List.mem_of_getElem? (i := 1080) (by decide +kernel)⟩
theorem lw_p29 : lw_okq (⟨"LineToWreckModel", "isAiming", "()Z"⟩, 49) := ⟨⟨by decide +kernel, by decide +kernel⟩, List.mem_of_getElem? (i := 845) (by decide +kernel), List.mem_of_getElem? (i := 1090) (by decide +kernel), List.mem_of_getElem? (i := 1091) (by decide +kernel)⟩
theorem lw_p30 : lw_okq (⟨"LineToWreckModel", "aimOf", "(I)J"⟩, 49) := ⟨⟨by decide +kernel, by decide +kernel⟩, List.mem_of_getElem? (i := 845) (by decide +kernel), List.mem_of_getElem? (i := 1094) (by decide +kernel), List.mem_of_getElem? (i := 1095) (by decide +kernel)⟩
theorem lw_p31 : lw_okq (⟨"LineToWreckModel", "bestOf", "(IJI)J"⟩, 49) := ⟨⟨by decide +kernel, by decide +kernel⟩, List.mem_of_getElem? (i := 845) (by decide +kernel), List.mem_of_getElem? (i := 1099) (by decide +kernel), List.mem_of_getElem? (i := 1100) (by decide +kernel)⟩
def lw_privs_2 : List (MethodName × Nat) := [(⟨"LineToWreck$Trial", "drawGust", "(LLineToWreck$Sea;)I"⟩, 4), (⟨"LineToWreck$Trial", "draw", "()I"⟩, 4), (⟨"LineToWreck", "mixSea", "(J)J"⟩, 12), (⟨"LineToWreckModel", "faultOf", "()I"⟩, 49), (⟨"LineToWreckModel", "go", "(II)Z"⟩, 49), (⟨"LineToWreckModel", "goGust", "(II)Z"⟩, 49), (⟨"LineToWreckModel", "lacks", "()Z"⟩, 49), (⟨"LineToWreckModel", "tellSea", "(I)I"⟩, 49), (⟨"LineToWreckModel", "isRocket", "(I)Z"⟩, 49), (⟨"LineToWreckModel", "stageNow", "()I"⟩, 49), (⟨"LineToWreckModel", "fallsAt", "(III)I"⟩, 49), (⟨"LineToWreckModel", "isRight", "(I)Z"⟩, 49), (⟨"LineToWreckModel", "hitTenths", "(II)I"⟩, 49), (⟨"LineToWreckModel", "isAiming", "()Z"⟩, 49), (⟨"LineToWreckModel", "aimOf", "(I)J"⟩, 49), (⟨"LineToWreckModel", "bestOf", "(IJI)J"⟩, 49)]
theorem lw_r2 : ∀ q ∈ lw_privs_2, lw_okq q := List.forall_mem_cons.mpr ⟨lw_p16, List.forall_mem_cons.mpr ⟨lw_p17, List.forall_mem_cons.mpr ⟨lw_p18, List.forall_mem_cons.mpr ⟨lw_p19, List.forall_mem_cons.mpr ⟨lw_p20, List.forall_mem_cons.mpr ⟨lw_p21, List.forall_mem_cons.mpr ⟨lw_p22, List.forall_mem_cons.mpr ⟨lw_p23, List.forall_mem_cons.mpr ⟨lw_p24, List.forall_mem_cons.mpr ⟨lw_p25, List.forall_mem_cons.mpr ⟨lw_p26, List.forall_mem_cons.mpr ⟨lw_p27, List.forall_mem_cons.mpr ⟨lw_p28, List.forall_mem_cons.mpr ⟨lw_p29, List.forall_mem_cons.mpr ⟨lw_p30, List.forall_mem_cons.mpr ⟨lw_p31, fun _ h => absurd h List.not_mem_nil⟩⟩⟩⟩⟩⟩⟩⟩⟩⟩⟩⟩⟩⟩⟩⟩
theorem lw_p32 : lw_okq (⟨"LineToWreckModel", "leftBits", "()I"⟩, 49) := ⟨⟨by decide +kernel, by decide +kernel⟩, List.mem_of_getElem? (i := 845) (by decide +kernel), List.mem_of_getElem? (i := 1103) (by decide +kernel), List.mem_of_getElem? (i := 1104) (by decide +kernel)⟩
theorem lw_p33 : lw_okq (⟨"LineToWreckModel", "layLater", "(I)V"⟩, 49) := ⟨⟨by decide +kernel, by decide +kernel⟩, List.mem_of_getElem? (i := 845) (by decide +kernel), List.mem_of_getElem? (i := 1115) (by decide +kernel), List.mem_of_getElem? (i := 1116) (by decide +kernel)⟩
theorem lw_p34 : lw_okq (⟨"LineToWreckModel", "isMan", "(I)Z"⟩, 49) := ⟨⟨by decide +kernel, by decide +kernel⟩, List.mem_of_getElem? (i := 845) (by decide +kernel), List.mem_of_getElem? (i := 1128) (by decide +kernel), List.mem_of_getElem? (i := 1129) (by decide +kernel)⟩
theorem lw_p35 : lw_okq (⟨"LineToWreckModel", "tellMan", "(II)I"⟩, 49) := ⟨⟨by decide +kernel, by decide +kernel⟩, List.mem_of_getElem? (i := 845) (by decide +kernel), List.mem_of_getElem? (i := 1132) (by decide +kernel), List.mem_of_getElem? (i := 1133) (by decide +kernel)⟩
theorem lw_p36 : lw_okq (⟨"LineToWreckModel", "takes", "(I)I"⟩, 49) := ⟨⟨by decide +kernel, by decide +kernel⟩, List.mem_of_getElem? (i := 845) (by decide +kernel), List.mem_of_getElem? (i := 1136) (by decide +kernel), List.mem_of_getElem? (i := 1137) (by decide +kernel)⟩
theorem lw_p37 : lw_okq (⟨"LineToWreckModel", "sags", "(I)Z"⟩, 49) := ⟨⟨by decide +kernel, by decide +kernel⟩, List.mem_of_getElem? (i := 845) (by decide +kernel), List.mem_of_getElem? (i := 1140) (by decide +kernel), List.mem_of_getElem? (i := 1141) (by decide +kernel)⟩
theorem lw_p38 : lw_okq (⟨"LineToWreckModel", "mayCome", "(I)Z"⟩, 49) := ⟨⟨by decide +kernel, by decide +kernel⟩, List.mem_of_getElem? (i := 845) (by decide +kernel), List.mem_of_getElem? (i := 1144) (by decide +kernel), List.mem_of_getElem? (i := 1145) (by decide +kernel)⟩
theorem lw_p39 : lw_okq (⟨"LineToWreckModel", "overBits", "()I"⟩, 49) := ⟨⟨by decide +kernel, by decide +kernel⟩, List.mem_of_getElem? (i := 845) (by decide +kernel), List.mem_of_getElem? (i := 1148) (by decide +kernel), List.mem_of_getElem? (i := 1149) (by decide +kernel)⟩
theorem lw_p40 : lw_okq (⟨"LineToWreckModel", "canCome", "(II)Z"⟩, 49) := ⟨⟨by decide +kernel, by decide +kernel⟩, List.mem_of_getElem? (i := 845) (by decide +kernel), List.mem_of_getElem? (i := 1152) (by decide +kernel), List.mem_of_getElem? (i := 1153) (by decide +kernel)⟩
theorem lw_p41 : lw_okq (⟨"LineToWreckModel", "firstOrder", "(I)V"⟩, 49) := ⟨⟨by decide +kernel, by decide +kernel⟩, List.mem_of_getElem? (i := 845) (by decide +kernel), List.mem_of_getElem? (i := 1190) (by decide +kernel), List.mem_of_getElem? (i := 1191) (by decide +kernel)⟩
theorem lw_p42 : lw_okq (⟨"LineToWreckModel", "meanOf", "()J"⟩, 49) := ⟨⟨by decide +kernel, by decide +kernel⟩, List.mem_of_getElem? (i := 845) (by decide +kernel), List.mem_of_getElem? (i := 1194) (by decide +kernel), List.mem_of_getElem? (i := 1195) (by decide +kernel)⟩
theorem lw_p43 : lw_okq (⟨"LineToWreckModel", "holds", "(I)J"⟩, 49) := ⟨⟨by decide +kernel, by decide +kernel⟩, List.mem_of_getElem? (i := 845) (by decide +kernel), List.mem_of_getElem? (i := 1198) (by decide +kernel), List.mem_of_getElem? (i := 1199) (by decide +kernel)⟩
theorem lw_p44 : lw_okq (⟨"LineToWreckModel", "nextOrder", "()Z"⟩, 49) := ⟨⟨by decide +kernel, by decide +kernel⟩, List.mem_of_getElem? (i := 845) (by decide +kernel), List.mem_of_getElem? (i := 1203) (by decide +kernel), List.mem_of_getElem? (i := 1204) (by decide +kernel)⟩
theorem lw_p45 : lw_okq (⟨"LineToWreckModel", "layOrders", "()I"⟩, 49) := ⟨⟨by decide +kernel, by decide +kernel⟩, List.mem_of_getElem? (i := 845) (by decide +kernel), List.mem_of_getElem? (i := 1215) (by decide +kernel), List.mem_of_getElem? (i := 1216) (by decide +kernel)⟩
theorem lw_p46 : lw_okq (⟨"LineToWreckModel", "isSaidSo", "()Z"⟩, 49) := ⟨⟨by decide +kernel, by decide +kernel⟩, List.mem_of_getElem? (i := 845) (by decide +kernel), List.mem_of_getElem? (i := 1219) (by decide +kernel), List.mem_of_getElem? (i := 1220) (by decide +kernel)⟩
theorem lw_p47 : lw_okq (⟨"LineToWreckModel", "placeOf", "(I)I"⟩, 49) := ⟨⟨by decide +kernel, by decide +kernel⟩, List.mem_of_getElem? (i := 845) (by decide +kernel), List.mem_of_getElem? (i := 1223) (by decide +kernel), List.mem_of_getElem? (i := 1224) (by decide +kernel)⟩
def lw_privs_3 : List (MethodName × Nat) := [(⟨"LineToWreckModel", "leftBits", "()I"⟩, 49), (⟨"LineToWreckModel", "layLater", "(I)V"⟩, 49), (⟨"LineToWreckModel", "isMan", "(I)Z"⟩, 49), (⟨"LineToWreckModel", "tellMan", "(II)I"⟩, 49), (⟨"LineToWreckModel", "takes", "(I)I"⟩, 49), (⟨"LineToWreckModel", "sags", "(I)Z"⟩, 49), (⟨"LineToWreckModel", "mayCome", "(I)Z"⟩, 49), (⟨"LineToWreckModel", "overBits", "()I"⟩, 49), (⟨"LineToWreckModel", "canCome", "(II)Z"⟩, 49), (⟨"LineToWreckModel", "firstOrder", "(I)V"⟩, 49), (⟨"LineToWreckModel", "meanOf", "()J"⟩, 49), (⟨"LineToWreckModel", "holds", "(I)J"⟩, 49), (⟨"LineToWreckModel", "nextOrder", "()Z"⟩, 49), (⟨"LineToWreckModel", "layOrders", "()I"⟩, 49), (⟨"LineToWreckModel", "isSaidSo", "()Z"⟩, 49), (⟨"LineToWreckModel", "placeOf", "(I)I"⟩, 49)]
theorem lw_r3 : ∀ q ∈ lw_privs_3, lw_okq q := List.forall_mem_cons.mpr ⟨lw_p32, List.forall_mem_cons.mpr ⟨lw_p33, List.forall_mem_cons.mpr ⟨lw_p34, List.forall_mem_cons.mpr ⟨lw_p35, List.forall_mem_cons.mpr ⟨lw_p36, List.forall_mem_cons.mpr ⟨lw_p37, List.forall_mem_cons.mpr ⟨lw_p38, List.forall_mem_cons.mpr ⟨lw_p39, List.forall_mem_cons.mpr ⟨lw_p40, List.forall_mem_cons.mpr ⟨lw_p41, List.forall_mem_cons.mpr ⟨lw_p42, List.forall_mem_cons.mpr ⟨lw_p43, List.forall_mem_cons.mpr ⟨lw_p44, List.forall_mem_cons.mpr ⟨lw_p45, List.forall_mem_cons.mpr ⟨lw_p46, List.forall_mem_cons.mpr ⟨lw_p47, fun _ h => absurd h List.not_mem_nil⟩⟩⟩⟩⟩⟩⟩⟩⟩⟩⟩⟩⟩⟩⟩⟩
theorem lw_p48 : lw_okq (⟨"LineToWreckModel", "stationsOf", "(II)I"⟩, 49) := ⟨⟨by decide +kernel, by decide +kernel⟩, List.mem_of_getElem? (i := 845) (by decide +kernel), List.mem_of_getElem? (i := 1240) (by decide +kernel), List.mem_of_getElem? (i := 1241) (by decide +kernel)⟩
theorem lw_p49 : lw_okq (⟨"LineToWreckModel", "draw", "(I)I"⟩, 49) := ⟨⟨by decide +kernel, by decide +kernel⟩, List.mem_of_getElem? (i := 845) (by decide +kernel), List.mem_of_getElem? (i := 1249) (by decide +kernel), List.mem_of_getElem? (i := 1250) (by decide +kernel)⟩
theorem lw_p50 : lw_okq (⟨"LineToWreckModel", "countOf", "(I)I"⟩, 49) := ⟨⟨by decide +kernel, by decide +kernel⟩, List.mem_of_getElem? (i := 845) (by decide +kernel), List.mem_of_getElem? (i := 1272) (by decide +kernel), List.mem_of_getElem? (i := 1273) (by decide +kernel)⟩
theorem lw_p51 : lw_okq (⟨"LineToWreckModel", "say", "(J)V"⟩, 49) := ⟨⟨by decide +kernel, by decide +kernel⟩, List.mem_of_getElem? (i := 845) (by decide +kernel), List.mem_of_getElem? (i := 1281) (by decide +kernel), List.mem_of_getElem? (i := 1282) (by decide +kernel)⟩
def lw_privs_4 : List (MethodName × Nat) := [(⟨"LineToWreckModel", "stationsOf", "(II)I"⟩, 49), (⟨"LineToWreckModel", "draw", "(I)I"⟩, 49), (⟨"LineToWreckModel", "countOf", "(I)I"⟩, 49), (⟨"LineToWreckModel", "say", "(J)V"⟩, 49)]
theorem lw_r4 : ∀ q ∈ lw_privs_4, lw_okq q := List.forall_mem_cons.mpr ⟨lw_p48, List.forall_mem_cons.mpr ⟨lw_p49, List.forall_mem_cons.mpr ⟨lw_p50, List.forall_mem_cons.mpr ⟨lw_p51, fun _ h => absurd h List.not_mem_nil⟩⟩⟩⟩
def lw_privs : List (MethodName × Nat) := lw_privs_1 ++ (lw_privs_2 ++ (lw_privs_3 ++ (lw_privs_4)))
def lw_tbl : List Cond := k2_sels lw_privs ++ tables_1
theorem lw_privs_ok : ∀ q ∈ lw_privs, lw_okq q := by
  show ∀ q ∈ lw_privs_1 ++ (lw_privs_2 ++ (lw_privs_3 ++ (lw_privs_4))), lw_okq q
  exact List.forall_mem_append.mpr ⟨lw_r1, List.forall_mem_append.mpr ⟨lw_r2, List.forall_mem_append.mpr ⟨lw_r3, lw_r4⟩⟩⟩
-- ===== end of PART A; then your names; then what follows =====
end
section
def RX0 : String := "LineToWreck$AimSearch"
def TX0 : u_T := fun k => match k with
  | 0 => ("LineToWreck$AimSearch", "best", "J", false)
  | 1 => ("LineToWreck$AimSearch", "whole", "J", false)
  | 2 => ("LineToWreck$AimSearch", "choice", "I", false)
  | _ => ("LineToWreck$AimSearch", "chances", "[J", true)
def tyX0 : Nat → FieldType := fun k => match k with
  | 0 => .long
  | 1 => .long
  | 2 => .int
  | _ => .array .long
abbrev wsX00 : List Cond := u_ws RX0 TX0 4
theorem nmX0 : ∀ a, a < 4 → ∀ b, b < 4 → a ≠ b → (TX0 a).2.1 ≠ (TX0 b).2.1 := by decide +kernel
theorem tyX0_ok : ∀ k, k < 4 → parseFieldDescriptor (TX0 k).2.2.1 = some (tyX0 k) := by decide +kernel
abbrev cX0_init : ByteArray := prog_2_method_1_code
def yX0_init : MethodName := ⟨RX0, "<init>", "()V"⟩
abbrev cX0_search : ByteArray := prog_2_method_2_code
def yX0_search : MethodName := ⟨RX0, "search", "(LLineToWreck$Sea;LLineToWreck$Rockets;LLineToWreck$Course;I)V"⟩
abbrev cX0_findBest : ByteArray := prog_2_method_3_code
def yX0_findBest : MethodName := ⟨RX0, "findBest", "(LLineToWreck$Sea;LLineToWreck$Rockets;II)V"⟩
abbrev cX0_chance : ByteArray := prog_2_method_4_code
def yX0_chance : MethodName := ⟨RX0, "chance", "(IIJ)J"⟩
def RX1 : String := "LineToWreck$Course"
def TX1 : u_T := fun k => match k with
  | 0 => ("LineToWreck$Course", "minute", "I", false)
  | 1 => ("LineToWreck$Course", "line", "Z", false)
  | 2 => ("LineToWreck$Course", "broken", "Z", false)
  | 3 => ("LineToWreck$Course", "fired", "I", false)
  | 4 => ("LineToWreck$Course", "over", "I", false)
  | 5 => ("LineToWreck$Course", "hawser", "I", false)
  | 6 => ("LineToWreck$Course", "saidCount", "I", false)
  | 7 => ("LineToWreck$Course", "wreckCount", "I", false)
  | 8 => ("LineToWreck$Course", "overMinutes", "[I", true)
  | 9 => ("LineToWreck$Course", "saidAheads", "[I", true)
  | _ => ("LineToWreck$Course", "wrecks", "[I", true)
def tyX1 : Nat → FieldType := fun k => match k with
  | 0 => .int
  | 1 => .boolean
  | 2 => .boolean
  | 3 => .int
  | 4 => .int
  | 5 => .int
  | 6 => .int
  | 7 => .int
  | 8 => .array .int
  | 9 => .array .int
  | _ => .array .int
abbrev wsX10 : List Cond := u_ws RX1 TX1 11
theorem nmX1 : ∀ a, a < 11 → ∀ b, b < 11 → a ≠ b → (TX1 a).2.1 ≠ (TX1 b).2.1 := by decide +kernel
theorem tyX1_ok : ∀ k, k < 11 → parseFieldDescriptor (TX1 k).2.2.1 = some (tyX1 k) := by decide +kernel
abbrev cX1_init : ByteArray := prog_3_method_1_code
def yX1_init : MethodName := ⟨RX1, "<init>", "()V"⟩
abbrev cX1_clear : ByteArray := prog_3_method_2_code
def yX1_clear : MethodName := ⟨RX1, "clear", "()V"⟩
abbrev cX1_takeFrom : ByteArray := prog_3_method_3_code
def yX1_takeFrom : MethodName := ⟨RX1, "takeFrom", "(LLineToWreck$Course;)V"⟩
abbrev cX1_stage : ByteArray := prog_3_method_4_code
def yX1_stage : MethodName := ⟨RX1, "stage", "()I"⟩
abbrev cX1_bringOver : ByteArray := prog_3_method_5_code
def yX1_bringOver : MethodName := ⟨RX1, "bringOver", "(II)V"⟩
abbrev cX1_overMinute : ByteArray := prog_3_method_6_code
def yX1_overMinute : MethodName := ⟨RX1, "overMinute", "(I)I"⟩
abbrev cX1_say : ByteArray := prog_3_method_7_code
def yX1_say : MethodName := ⟨RX1, "say", "(II)V"⟩
abbrev cX1_saidAhead : ByteArray := prog_3_method_8_code
def yX1_saidAhead : MethodName := ⟨RX1, "saidAhead", "(I)I"⟩
abbrev cX1_addWreck : ByteArray := prog_3_method_9_code
def yX1_addWreck : MethodName := ⟨RX1, "addWreck", "(I)V"⟩
abbrev cX1_firstStation : ByteArray := prog_3_method_10_code
def yX1_firstStation : MethodName := ⟨RX1, "firstStation", "(I)I"⟩
abbrev cX1_fewestStations : ByteArray := prog_3_method_11_code
def yX1_fewestStations : MethodName := ⟨RX1, "fewestStations", "(I)I"⟩
abbrev cX1_stationFor : ByteArray := prog_3_method_12_code
def yX1_stationFor : MethodName := ⟨RX1, "stationFor", "(II)I"⟩
abbrev cX1_leastWreckFrom : ByteArray := prog_3_method_13_code
def yX1_leastWreckFrom : MethodName := ⟨RX1, "leastWreckFrom", "(I)I"⟩
def RX2 : String := "LineToWreck$Crew"
def TX2 : u_T := fun k => match k with
  | 0 => ("LineToWreck$Crew", "number", "I", false)
  | 1 => ("LineToWreck$Crew", "kinds", "[I", true)
  | 2 => ("LineToWreck$Crew", "weights", "[I", true)
  | _ => ("LineToWreck$Crew", "aheads", "[I", true)
def tyX2 : Nat → FieldType := fun k => match k with
  | 0 => .int
  | 1 => .array .int
  | 2 => .array .int
  | _ => .array .int
abbrev wsX20 : List Cond := u_ws RX2 TX2 4
theorem nmX2 : ∀ a, a < 4 → ∀ b, b < 4 → a ≠ b → (TX2 a).2.1 ≠ (TX2 b).2.1 := by decide +kernel
theorem tyX2_ok : ∀ k, k < 4 → parseFieldDescriptor (TX2 k).2.2.1 = some (tyX2 k) := by decide +kernel
abbrev cX2_init : ByteArray := prog_4_method_1_code
def yX2_init : MethodName := ⟨RX2, "<init>", "()V"⟩
abbrev cX2_clear : ByteArray := prog_4_method_2_code
def yX2_clear : MethodName := ⟨RX2, "clear", "()V"⟩
abbrev cX2_has : ByteArray := prog_4_method_3_code
def yX2_has : MethodName := ⟨RX2, "has", "(I)Z"⟩
abbrev cX2_add : ByteArray := prog_4_method_4_code
def yX2_add : MethodName := ⟨RX2, "add", "(II)I"⟩
abbrev cX2_all : ByteArray := prog_4_method_5_code
def yX2_all : MethodName := ⟨RX2, "all", "()I"⟩
abbrev cX2_kind : ByteArray := prog_4_method_6_code
def yX2_kind : MethodName := ⟨RX2, "kind", "(I)I"⟩
abbrev cX2_weight : ByteArray := prog_4_method_7_code
def yX2_weight : MethodName := ⟨RX2, "weight", "(I)I"⟩
abbrev cX2_isOf : ByteArray := prog_4_method_8_code
def yX2_isOf : MethodName := ⟨RX2, "isOf", "(II)Z"⟩
abbrev cX2_putBehind : ByteArray := prog_4_method_9_code
def yX2_putBehind : MethodName := ⟨RX2, "putBehind", "(IIZ)Z"⟩
abbrev cX2_ahead : ByteArray := prog_4_method_10_code
def yX2_ahead : MethodName := ⟨RX2, "ahead", "(I)I"⟩
abbrev cX2_allButCaptains : ByteArray := prog_4_method_11_code
def yX2_allButCaptains : MethodName := ⟨RX2, "allButCaptains", "()I"⟩
abbrev cX2_sags : ByteArray := prog_4_method_12_code
def yX2_sags : MethodName := ⟨RX2, "sags", "(III)Z"⟩
abbrev cX2_takes : ByteArray := prog_4_method_13_code
def yX2_takes : MethodName := ⟨RX2, "takes", "(III)I"⟩
def RX3 : String := "LineToWreck$Image"
def TX3 : u_T := fun k => match k with
  | 0 => ("LineToWreck$Image", "course", "LLineToWreck$Course;", true)
  | 1 => ("LineToWreck$Image", "night", "I", false)
  | 2 => ("LineToWreck$Image", "rockets", "I", false)
  | _ => ("LineToWreck$Image", "men", "I", false)
def tyX3 : Nat → FieldType := fun k => match k with
  | 0 => .object "LineToWreck$Course"
  | 1 => .int
  | 2 => .int
  | _ => .int
abbrev wsX30 : List Cond := u_ws RX3 TX3 4
theorem nmX3 : ∀ a, a < 4 → ∀ b, b < 4 → a ≠ b → (TX3 a).2.1 ≠ (TX3 b).2.1 := by decide +kernel
theorem tyX3_ok : ∀ k, k < 4 → parseFieldDescriptor (TX3 k).2.2.1 = some (tyX3 k) := by decide +kernel
abbrev cX3_init : ByteArray := prog_5_method_1_code
def yX3_init : MethodName := ⟨RX3, "<init>", "()V"⟩
def RX4 : String := "LineToWreck$OrderSearch"
def TX4 : u_T := fun k => match k with
  | 0 => ("LineToWreck$OrderSearch", "most", "J", false)
  | 1 => ("LineToWreck$OrderSearch", "start", "I", false)
  | 2 => ("LineToWreck$OrderSearch", "worths", "[J", true)
  | _ => ("LineToWreck$OrderSearch", "nexts", "[I", true)
def tyX4 : Nat → FieldType := fun k => match k with
  | 0 => .long
  | 1 => .int
  | 2 => .array .long
  | _ => .array .int
abbrev wsX40 : List Cond := u_ws RX4 TX4 4
theorem nmX4 : ∀ a, a < 4 → ∀ b, b < 4 → a ≠ b → (TX4 a).2.1 ≠ (TX4 b).2.1 := by decide +kernel
theorem tyX4_ok : ∀ k, k < 4 → parseFieldDescriptor (TX4 k).2.2.1 = some (tyX4 k) := by decide +kernel
abbrev cX4_init : ByteArray := prog_6_method_1_code
def yX4_init : MethodName := ⟨RX4, "<init>", "()V"⟩
abbrev cX4_search : ByteArray := prog_6_method_2_code
def yX4_search : MethodName := ⟨RX4, "search", "(LLineToWreck$Sea;LLineToWreck$Crew;LLineToWreck$Course;)V"⟩
abbrev cX4_isThere : ByteArray := prog_6_method_3_code
def yX4_isThere : MethodName := ⟨RX4, "isThere", "()Z"⟩
abbrev cX4_most : ByteArray := prog_6_method_4_code
def yX4_most : MethodName := ⟨RX4, "most", "()J"⟩
abbrev cX4_manAt : ByteArray := prog_6_method_5_code
def yX4_manAt : MethodName := ⟨RX4, "manAt", "(I)I"⟩
abbrev cX4_findNext : ByteArray := prog_6_method_6_code
def yX4_findNext : MethodName := ⟨RX4, "findNext", "(LLineToWreck$Crew;I)V"⟩
abbrev cX4_minuteWith : ByteArray := prog_6_method_7_code
def yX4_minuteWith : MethodName := ⟨RX4, "minuteWith", "(LLineToWreck$Sea;LLineToWreck$Crew;LLineToWreck$Course;I)I"⟩
abbrev cX4_holding : ByteArray := prog_6_method_8_code
def yX4_holding : MethodName := ⟨RX4, "holding", "(LLineToWreck$Sea;LLineToWreck$Course;I)J"⟩
def RX5 : String := "LineToWreck$Page"
def TX5 : u_T := fun k => match k with
  | 0 => ("LineToWreck$Page", "letters", "[I", true)
  | _ => ("LineToWreck$Page", "length", "I", false)
def tyX5 : Nat → FieldType := fun k => match k with
  | 0 => .array .int
  | _ => .int
abbrev wsX50 : List Cond := u_ws RX5 TX5 2
theorem nmX5 : ∀ a, a < 2 → ∀ b, b < 2 → a ≠ b → (TX5 a).2.1 ≠ (TX5 b).2.1 := by decide +kernel
theorem tyX5_ok : ∀ k, k < 2 → parseFieldDescriptor (TX5 k).2.2.1 = some (tyX5 k) := by decide +kernel
abbrev cX5_init : ByteArray := prog_7_method_1_code
def yX5_init : MethodName := ⟨RX5, "<init>", "()V"⟩
abbrev cX5_add : ByteArray := prog_7_method_2_code
def yX5_add : MethodName := ⟨RX5, "add", "(I)V"⟩
abbrev cX5_clear : ByteArray := prog_7_method_3_code
def yX5_clear : MethodName := ⟨RX5, "clear", "()V"⟩
abbrev cX5_letterAt : ByteArray := prog_7_method_4_code
def yX5_letterAt : MethodName := ⟨RX5, "letterAt", "(I)I"⟩
abbrev cX5_digitAt : ByteArray := prog_7_method_5_code
def yX5_digitAt : MethodName := ⟨RX5, "digitAt", "(I)I"⟩
abbrev cX5_isNight : ByteArray := prog_7_method_6_code
def yX5_isNight : MethodName := ⟨RX5, "isNight", "()Z"⟩
abbrev cX5_faultPlace : ByteArray := prog_7_method_7_code
def yX5_faultPlace : MethodName := ⟨RX5, "faultPlace", "()I"⟩
abbrev cX5_fits : ByteArray := prog_7_method_8_code
def yX5_fits : MethodName := ⟨RX5, "fits", "(I)Z"⟩
abbrev cX5_gustsTo : ByteArray := prog_7_method_9_code
def yX5_gustsTo : MethodName := ⟨RX5, "gustsTo", "(I)I"⟩
def RX6 : String := "LineToWreck$Rockets"
def TX6 : u_T := fun k => match k with
  | 0 => ("LineToWreck$Rockets", "number", "I", false)
  | 1 => ("LineToWreck$Rockets", "ranges", "[I", true)
  | _ => ("LineToWreck$Rockets", "damps", "[I", true)
def tyX6 : Nat → FieldType := fun k => match k with
  | 0 => .int
  | 1 => .array .int
  | _ => .array .int
abbrev wsX60 : List Cond := u_ws RX6 TX6 3
theorem nmX6 : ∀ a, a < 3 → ∀ b, b < 3 → a ≠ b → (TX6 a).2.1 ≠ (TX6 b).2.1 := by decide +kernel
theorem tyX6_ok : ∀ k, k < 3 → parseFieldDescriptor (TX6 k).2.2.1 = some (tyX6 k) := by decide +kernel
abbrev cX6_init : ByteArray := prog_8_method_1_code
def yX6_init : MethodName := ⟨RX6, "<init>", "()V"⟩
abbrev cX6_clear : ByteArray := prog_8_method_2_code
def yX6_clear : MethodName := ⟨RX6, "clear", "()V"⟩
abbrev cX6_has : ByteArray := prog_8_method_3_code
def yX6_has : MethodName := ⟨RX6, "has", "(I)Z"⟩
abbrev cX6_add : ByteArray := prog_8_method_4_code
def yX6_add : MethodName := ⟨RX6, "add", "(II)I"⟩
abbrev cX6_fallsAt : ByteArray := prog_8_method_5_code
def yX6_fallsAt : MethodName := ⟨RX6, "fallsAt", "(IIILLineToWreck$Sea;)I"⟩
abbrev cX6_hitTenths : ByteArray := prog_8_method_6_code
def yX6_hitTenths : MethodName := ⟨RX6, "hitTenths", "(IILLineToWreck$Sea;)I"⟩
abbrev cX6_left : ByteArray := prog_8_method_7_code
def yX6_left : MethodName := ⟨RX6, "left", "(I)I"⟩
abbrev cX6_leastOf : ByteArray := prog_8_method_8_code
def yX6_leastOf : MethodName := ⟨RX6, "leastOf", "(I)I"⟩
def RX7 : String := "LineToWreck$Sea"
def TX7 : u_T := fun k => match k with
  | 0 => ("LineToWreck$Sea", "far", "I", false)
  | 1 => ("LineToWreck$Sea", "stages", "I", false)
  | 2 => ("LineToWreck$Sea", "wind", "I", false)
  | 3 => ("LineToWreck$Sea", "gusts", "[I", true)
  | _ => ("LineToWreck$Sea", "tenths", "[I", true)
def tyX7 : Nat → FieldType := fun k => match k with
  | 0 => .int
  | 1 => .int
  | 2 => .int
  | 3 => .array .int
  | _ => .array .int
abbrev wsX70 : List Cond := u_ws RX7 TX7 5
theorem nmX7 : ∀ a, a < 5 → ∀ b, b < 5 → a ≠ b → (TX7 a).2.1 ≠ (TX7 b).2.1 := by decide +kernel
theorem tyX7_ok : ∀ k, k < 5 → parseFieldDescriptor (TX7 k).2.2.1 = some (tyX7 k) := by decide +kernel
abbrev cX7_init : ByteArray := prog_9_method_1_code
def yX7_init : MethodName := ⟨RX7, "<init>", "()V"⟩
abbrev cX7_read : ByteArray := prog_9_method_2_code
def yX7_read : MethodName := ⟨RX7, "read", "(LLineToWreck$Page;)V"⟩
abbrev cX7_tell : ByteArray := prog_9_method_3_code
def yX7_tell : MethodName := ⟨RX7, "tell", "(I)I"⟩
abbrev cX7_endMinute : ByteArray := prog_9_method_4_code
def yX7_endMinute : MethodName := ⟨RX7, "endMinute", "()I"⟩
abbrev cX7_gustTenths : ByteArray := prog_9_method_5_code
def yX7_gustTenths : MethodName := ⟨RX7, "gustTenths", "(I)I"⟩
abbrev cX7_breakTenths : ByteArray := prog_9_method_6_code
def yX7_breakTenths : MethodName := ⟨RX7, "breakTenths", "(I)I"⟩
abbrev cX7_isLast : ByteArray := prog_9_method_7_code
def yX7_isLast : MethodName := ⟨RX7, "isLast", "(I)Z"⟩
abbrev cX7_drift : ByteArray := prog_9_method_8_code
def yX7_drift : MethodName := ⟨RX7, "drift", "(I)I"⟩
abbrev cX7_isRight : ByteArray := prog_9_method_9_code
def yX7_isRight : MethodName := ⟨RX7, "isRight", "(I)Z"⟩
def RX8 : String := "LineToWreck$Successions"
def TX8 : u_T := fun k => match k with
  | 0 => ("LineToWreck$Successions", "number", "I", false)
  | 1 => ("LineToWreck$Successions", "all", "I", false)
  | 2 => ("LineToWreck$Successions", "aheads", "[I", true)
  | 3 => ("LineToWreck$Successions", "ways", "[I", true)
  | _ => ("LineToWreck$Successions", "rests", "[I", true)
def tyX8 : Nat → FieldType := fun k => match k with
  | 0 => .int
  | 1 => .int
  | 2 => .array .int
  | 3 => .array .int
  | _ => .array .int
abbrev wsX80 : List Cond := u_ws RX8 TX8 5
theorem nmX8 : ∀ a, a < 5 → ∀ b, b < 5 → a ≠ b → (TX8 a).2.1 ≠ (TX8 b).2.1 := by decide +kernel
theorem tyX8_ok : ∀ k, k < 5 → parseFieldDescriptor (TX8 k).2.2.1 = some (tyX8 k) := by decide +kernel
abbrev cX8_init : ByteArray := prog_10_method_1_code
def yX8_init : MethodName := ⟨RX8, "<init>", "()V"⟩
abbrev cX8_search : ByteArray := prog_10_method_2_code
def yX8_search : MethodName := ⟨RX8, "search", "(LLineToWreck$Crew;LLineToWreck$Course;)V"⟩
abbrev cX8_total : ByteArray := prog_10_method_3_code
def yX8_total : MethodName := ⟨RX8, "total", "()I"⟩
abbrev cX8_surePlace : ByteArray := prog_10_method_4_code
def yX8_surePlace : MethodName := ⟨RX8, "surePlace", "(I)I"⟩
abbrev cX8_countWays : ByteArray := prog_10_method_5_code
def yX8_countWays : MethodName := ⟨RX8, "countWays", "()V"⟩
abbrev cX8_countRests : ByteArray := prog_10_method_6_code
def yX8_countRests : MethodName := ⟨RX8, "countRests", "()V"⟩
abbrev cX8_mayFollow : ByteArray := prog_10_method_7_code
def yX8_mayFollow : MethodName := ⟨RX8, "mayFollow", "(II)Z"⟩
def RX9 : String := "LineToWreck$Trial"
def TX9 : u_T := fun k => match k with
  | 0 => ("LineToWreck$Trial", "seed", "J", false)
  | 1 => ("LineToWreck$Trial", "shots", "I", false)
  | 2 => ("LineToWreck$Trial", "line", "Z", false)
  | _ => ("LineToWreck$Trial", "broken", "Z", false)
def tyX9 : Nat → FieldType := fun k => match k with
  | 0 => .long
  | 1 => .int
  | 2 => .boolean
  | _ => .boolean
abbrev wsX90 : List Cond := u_ws RX9 TX9 4
theorem nmX9 : ∀ a, a < 4 → ∀ b, b < 4 → a ≠ b → (TX9 a).2.1 ≠ (TX9 b).2.1 := by decide +kernel
theorem tyX9_ok : ∀ k, k < 4 → parseFieldDescriptor (TX9 k).2.2.1 = some (tyX9 k) := by decide +kernel
abbrev cX9_init : ByteArray := prog_11_method_1_code
def yX9_init : MethodName := ⟨RX9, "<init>", "()V"⟩
abbrev cX9_run : ByteArray := prog_11_method_2_code
def yX9_run : MethodName := ⟨RX9, "run", "(LLineToWreck$Sea;LLineToWreck$Rockets;LLineToWreck$Course;I)V"⟩
abbrev cX9_drawGust : ByteArray := prog_11_method_3_code
def yX9_drawGust : MethodName := ⟨RX9, "drawGust", "(LLineToWreck$Sea;)I"⟩
abbrev cX9_draw : ByteArray := prog_11_method_4_code
def yX9_draw : MethodName := ⟨RX9, "draw", "()I"⟩
def RX10 : String := "LineToWreck"
def TX10 : u_T := fun k => match k with
  | 0 => ("LineToWreck", "page", "LLineToWreck$Page;", true)
  | 1 => ("LineToWreck", "waters", "LLineToWreck$Sea;", true)
  | 2 => ("LineToWreck", "rockets", "LLineToWreck$Rockets;", true)
  | 3 => ("LineToWreck", "crew", "LLineToWreck$Crew;", true)
  | 4 => ("LineToWreck", "now", "LLineToWreck$Course;", true)
  | 5 => ("LineToWreck", "kept", "LLineToWreck$Image;", true)
  | 6 => ("LineToWreck", "aimSearch", "LLineToWreck$AimSearch;", true)
  | 7 => ("LineToWreck", "orderSearch", "LLineToWreck$OrderSearch;", true)
  | 8 => ("LineToWreck", "successions", "LLineToWreck$Successions;", true)
  | 9 => ("LineToWreck", "trial", "LLineToWreck$Trial;", true)
  | 10 => ("LineToWreck", "nightsRead", "I", false)
  | _ => ("LineToWreck", "ordersDone", "I", false)
def tyX10 : Nat → FieldType := fun k => match k with
  | 0 => .object "LineToWreck$Page"
  | 1 => .object "LineToWreck$Sea"
  | 2 => .object "LineToWreck$Rockets"
  | 3 => .object "LineToWreck$Crew"
  | 4 => .object "LineToWreck$Course"
  | 5 => .object "LineToWreck$Image"
  | 6 => .object "LineToWreck$AimSearch"
  | 7 => .object "LineToWreck$OrderSearch"
  | 8 => .object "LineToWreck$Successions"
  | 9 => .object "LineToWreck$Trial"
  | 10 => .int
  | _ => .int
abbrev wsX100 : List Cond := u_ws RX10 TX10 12
theorem nmX10 : ∀ a, a < 12 → ∀ b, b < 12 → a ≠ b → (TX10 a).2.1 ≠ (TX10 b).2.1 := by decide +kernel
theorem tyX10_ok : ∀ k, k < 12 → parseFieldDescriptor (TX10 k).2.2.1 = some (tyX10 k) := by decide +kernel
abbrev cX10_init : ByteArray := prog_1_method_1_code
def yX10_init : MethodName := ⟨RX10, "<init>", "()V"⟩
abbrev cX10_letter : ByteArray := prog_1_method_2_code
def yX10_letter : MethodName := ⟨RX10, "letter", "(I)I"⟩
abbrev cX10_blank : ByteArray := prog_1_method_3_code
def yX10_blank : MethodName := ⟨RX10, "blank", "()I"⟩
abbrev cX10_fault : ByteArray := prog_1_method_4_code
def yX10_fault : MethodName := ⟨RX10, "fault", "()I"⟩
abbrev cX10_night : ByteArray := prog_1_method_5_code
def yX10_night : MethodName := ⟨RX10, "night", "()I"⟩
abbrev cX10_sea : ByteArray := prog_1_method_6_code
def yX10_sea : MethodName := ⟨RX10, "sea", "(I)I"⟩
abbrev cX10_rocket : ByteArray := prog_1_method_7_code
def yX10_rocket : MethodName := ⟨RX10, "rocket", "(II)I"⟩
abbrev cX10_fire : ByteArray := prog_1_method_8_code
def yX10_fire : MethodName := ⟨RX10, "fire", "(II)I"⟩
abbrev cX10_hits : ByteArray := prog_1_method_9_code
def yX10_hits : MethodName := ⟨RX10, "hits", "(III)J"⟩
abbrev cX10_aim : ByteArray := prog_1_method_10_code
def yX10_aim : MethodName := ⟨RX10, "aim", "(II)J"⟩
abbrev cX10_which : ByteArray := prog_1_method_11_code
def yX10_which : MethodName := ⟨RX10, "which", "(I)I"⟩
abbrev cX10_man : ByteArray := prog_1_method_12_code
def yX10_man : MethodName := ⟨RX10, "man", "(II)I"⟩
abbrev cX10_about : ByteArray := prog_1_method_13_code
def yX10_about : MethodName := ⟨RX10, "about", "(II)I"⟩
abbrev cX10_as : ByteArray := prog_1_method_14_code
def yX10_as : MethodName := ⟨RX10, "as", "(II)I"⟩
abbrev cX10_behind : ByteArray := prog_1_method_15_code
def yX10_behind : MethodName := ⟨RX10, "behind", "(IIZ)I"⟩
abbrev cX10_hawser : ByteArray := prog_1_method_16_code
def yX10_hawser : MethodName := ⟨RX10, "hawser", "(I)I"⟩
abbrev cX10_come : ByteArray := prog_1_method_17_code
def yX10_come : MethodName := ⟨RX10, "come", "(I)I"⟩
abbrev cX10_minutes : ByteArray := prog_1_method_18_code
def yX10_minutes : MethodName := ⟨RX10, "minutes", "(I)I"⟩
abbrev cX10_breaks : ByteArray := prog_1_method_19_code
def yX10_breaks : MethodName := ⟨RX10, "breaks", "()I"⟩
abbrev cX10_order : ByteArray := prog_1_method_20_code
def yX10_order : MethodName := ⟨RX10, "order", "(I)J"⟩
abbrev cX10_said : ByteArray := prog_1_method_21_code
def yX10_said : MethodName := ⟨RX10, "said", "(II)I"⟩
abbrev cX10_orders : ByteArray := prog_1_method_22_code
def yX10_orders : MethodName := ⟨RX10, "orders", "()I"⟩
abbrev cX10_sure : ByteArray := prog_1_method_23_code
def yX10_sure : MethodName := ⟨RX10, "sure", "(I)I"⟩
abbrev cX10_wreck : ByteArray := prog_1_method_24_code
def yX10_wreck : MethodName := ⟨RX10, "wreck", "(I)I"⟩
abbrev cX10_stations : ByteArray := prog_1_method_25_code
def yX10_stations : MethodName := ⟨RX10, "stations", "(II)I"⟩
abbrev cX10_nights : ByteArray := prog_1_method_26_code
def yX10_nights : MethodName := ⟨RX10, "nights", "(II)I"⟩
abbrev cX10_image : ByteArray := prog_1_method_27_code
def yX10_image : MethodName := ⟨RX10, "image", "()I"⟩
abbrev cX10_restore : ByteArray := prog_1_method_28_code
def yX10_restore : MethodName := ⟨RX10, "restore", "()I"⟩
abbrev cX10_count : ByteArray := prog_1_method_29_code
def yX10_count : MethodName := ⟨RX10, "count", "(I)I"⟩
abbrev cX10_digest : ByteArray := prog_1_method_30_code
def yX10_digest : MethodName := ⟨RX10, "digest", "()J"⟩
abbrev cX10_mixSea : ByteArray := prog_1_method_31_code
def yX10_mixSea : MethodName := ⟨RX10, "mixSea", "(J)J"⟩
abbrev cX10_hasNight : ByteArray := prog_1_method_32_code
def yX10_hasNight : MethodName := ⟨RX10, "hasNight", "()Z"⟩
abbrev cX10_isAfloat : ByteArray := prog_1_method_33_code
def yX10_isAfloat : MethodName := ⟨RX10, "isAfloat", "()Z"⟩
abbrev cX10_canAim : ByteArray := prog_1_method_34_code
def yX10_canAim : MethodName := ⟨RX10, "canAim", "()Z"⟩
abbrev cX10_areTwoMen : ByteArray := prog_1_method_35_code
def yX10_areTwoMen : MethodName := ⟨RX10, "areTwoMen", "(II)Z"⟩
abbrev cX10_mayCome : ByteArray := prog_1_method_36_code
def yX10_mayCome : MethodName := ⟨RX10, "mayCome", "(I)Z"⟩
abbrev cX10_isOutside : ByteArray := prog_1_method_37_code
def yX10_isOutside : MethodName := ⟨RX10, "isOutside", "(III)Z"⟩
abbrev cX10_asNumber : ByteArray := prog_1_method_38_code
def yX10_asNumber : MethodName := ⟨RX10, "asNumber", "(Z)I"⟩
abbrev cX10_mix : ByteArray := prog_1_method_39_code
def yX10_mix : MethodName := ⟨RX10, "mix", "(JJ)J"⟩
abbrev cX10_isIn : ByteArray := prog_1_method_40_code
def yX10_isIn : MethodName := ⟨RX10, "isIn", "(II)Z"⟩
abbrev cX10_with : ByteArray := prog_1_method_41_code
def yX10_with : MethodName := ⟨RX10, "with", "(II)I"⟩
abbrev cX10_without : ByteArray := prog_1_method_42_code
def yX10_without : MethodName := ⟨RX10, "without", "(II)I"⟩
abbrev cX10_holdsAll : ByteArray := prog_1_method_43_code
def yX10_holdsAll : MethodName := ⟨RX10, "holdsAll", "(II)Z"⟩
abbrev cX10_at : ByteArray := prog_1_method_44_code
def yX10_at : MethodName := ⟨RX10, "at", "([II)I"⟩
abbrev cX10_at_ : ByteArray := prog_1_method_45_code
def yX10_at_ : MethodName := ⟨RX10, "at", "([JI)J"⟩
abbrev cX10_put : ByteArray := prog_1_method_46_code
def yX10_put : MethodName := ⟨RX10, "put", "([III)V"⟩
abbrev cX10_put_ : ByteArray := prog_1_method_47_code
def yX10_put_ : MethodName := ⟨RX10, "put", "([JIJ)V"⟩
abbrev cX10_inLowestTerms : ByteArray := prog_1_method_48_code
def yX10_inLowestTerms : MethodName := ⟨RX10, "inLowestTerms", "(JJI)J"⟩
abbrev cX10_commonDivisor : ByteArray := prog_1_method_49_code
def yX10_commonDivisor : MethodName := ⟨RX10, "commonDivisor", "(JJ)J"⟩
def RX11 : String := "LineToWreckModel"
def TX11 : u_T := fun k => match k with
  | 0 => ("LineToWreckModel", "page", "[I", true)
  | 1 => ("LineToWreckModel", "pageMany", "I", false)
  | 2 => ("LineToWreckModel", "readFar", "I", false)
  | 3 => ("LineToWreckModel", "readWind", "I", false)
  | 4 => ("LineToWreckModel", "readGusts", "[I", true)
  | 5 => ("LineToWreckModel", "readStages", "[I", true)
  | 6 => ("LineToWreckModel", "readMany", "I", false)
  | 7 => ("LineToWreckModel", "stages", "I", false)
  | 8 => ("LineToWreckModel", "far", "I", false)
  | 9 => ("LineToWreckModel", "wind", "I", false)
  | 10 => ("LineToWreckModel", "minute", "I", false)
  | 11 => ("LineToWreckModel", "line", "I", false)
  | 12 => ("LineToWreckModel", "broken", "I", false)
  | 13 => ("LineToWreckModel", "hawserNow", "I", false)
  | 14 => ("LineToWreckModel", "nightsRead", "I", false)
  | 15 => ("LineToWreckModel", "gusts", "[I", true)
  | 16 => ("LineToWreckModel", "breakTenths", "[I", true)
  | 17 => ("LineToWreckModel", "rockets", "I", false)
  | 18 => ("LineToWreckModel", "rocketRows", "[I", true)
  | 19 => ("LineToWreckModel", "made", "[J", true)
  | 20 => ("LineToWreckModel", "madeThen", "[J", true)
  | 21 => ("LineToWreckModel", "bestNow", "I", false)
  | 22 => ("LineToWreckModel", "men", "I", false)
  | 23 => ("LineToWreckModel", "menRows", "[I", true)
  | 24 => ("LineToWreckModel", "behindBits", "[I", true)
  | 25 => ("LineToWreckModel", "done", "I", false)
  | 26 => ("LineToWreckModel", "order", "[I", true)
  | 27 => ("LineToWreckModel", "bestOrder", "[I", true)
  | 28 => ("LineToWreckModel", "orderMany", "I", false)
  | 29 => ("LineToWreckModel", "saidMany", "I", false)
  | 30 => ("LineToWreckModel", "saidRows", "[I", true)
  | 31 => ("LineToWreckModel", "mayPlaces", "[I", true)
  | 32 => ("LineToWreckModel", "wrecks", "I", false)
  | 33 => ("LineToWreckModel", "wreckRows", "[I", true)
  | 34 => ("LineToWreckModel", "seedNow", "I", false)
  | 35 => ("LineToWreckModel", "keptNight", "I", false)
  | 36 => ("LineToWreckModel", "keptMinute", "I", false)
  | 37 => ("LineToWreckModel", "keptLine", "I", false)
  | 38 => ("LineToWreckModel", "keptBroken", "I", false)
  | 39 => ("LineToWreckModel", "keptHawser", "I", false)
  | 40 => ("LineToWreckModel", "keptSaid", "I", false)
  | 41 => ("LineToWreckModel", "keptWrecks", "I", false)
  | 42 => ("LineToWreckModel", "keptRockets", "I", false)
  | 43 => ("LineToWreckModel", "keptMen", "I", false)
  | 44 => ("LineToWreckModel", "keptRocketRows", "[I", true)
  | 45 => ("LineToWreckModel", "keptMenRows", "[I", true)
  | 46 => ("LineToWreckModel", "keptSaidRows", "[I", true)
  | 47 => ("LineToWreckModel", "keptWreckRows", "[I", true)
  | _ => ("LineToWreckModel", "hash", "J", false)
def tyX11 : Nat → FieldType := fun k => match k with
  | 0 => .array .int
  | 1 => .int
  | 2 => .int
  | 3 => .int
  | 4 => .array .int
  | 5 => .array .int
  | 6 => .int
  | 7 => .int
  | 8 => .int
  | 9 => .int
  | 10 => .int
  | 11 => .int
  | 12 => .int
  | 13 => .int
  | 14 => .int
  | 15 => .array .int
  | 16 => .array .int
  | 17 => .int
  | 18 => .array .int
  | 19 => .array .long
  | 20 => .array .long
  | 21 => .int
  | 22 => .int
  | 23 => .array .int
  | 24 => .array .int
  | 25 => .int
  | 26 => .array .int
  | 27 => .array .int
  | 28 => .int
  | 29 => .int
  | 30 => .array .int
  | 31 => .array .int
  | 32 => .int
  | 33 => .array .int
  | 34 => .int
  | 35 => .int
  | 36 => .int
  | 37 => .int
  | 38 => .int
  | 39 => .int
  | 40 => .int
  | 41 => .int
  | 42 => .int
  | 43 => .int
  | 44 => .array .int
  | 45 => .array .int
  | 46 => .array .int
  | 47 => .array .int
  | _ => .long
abbrev wsX110 : List Cond := u_ws RX11 TX11 49
theorem nmX11 : ∀ a, a < 49 → ∀ b, b < 49 → a ≠ b → (TX11 a).2.1 ≠ (TX11 b).2.1 := by decide +kernel
theorem tyX11_ok : ∀ k, k < 49 → parseFieldDescriptor (TX11 k).2.2.1 = some (tyX11 k) := by decide +kernel
abbrev cX11_init : ByteArray := prog_13_method_1_code
def yX11_init : MethodName := ⟨RX11, "<init>", "()V"⟩
abbrev cX11_in : ByteArray := prog_13_method_2_code
def yX11_in : MethodName := ⟨RX11, "in", "(JJJ)Z"⟩
abbrev cX11_letter : ByteArray := prog_13_method_3_code
def yX11_letter : MethodName := ⟨RX11, "letter", "(I)I"⟩
abbrev cX11_blank : ByteArray := prog_13_method_4_code
def yX11_blank : MethodName := ⟨RX11, "blank", "()I"⟩
abbrev cX11_goGust : ByteArray := prog_13_method_5_code
def yX11_goGust : MethodName := ⟨RX11, "goGust", "(II)Z"⟩
abbrev cX11_go : ByteArray := prog_13_method_6_code
def yX11_go : MethodName := ⟨RX11, "go", "(II)Z"⟩
abbrev cX11_faultOf : ByteArray := prog_13_method_7_code
def yX11_faultOf : MethodName := ⟨RX11, "faultOf", "()I"⟩
abbrev cX11_fault : ByteArray := prog_13_method_8_code
def yX11_fault : MethodName := ⟨RX11, "fault", "()I"⟩
abbrev cX11_night : ByteArray := prog_13_method_9_code
def yX11_night : MethodName := ⟨RX11, "night", "()I"⟩
abbrev cX11_lacks : ByteArray := prog_13_method_10_code
def yX11_lacks : MethodName := ⟨RX11, "lacks", "()Z"⟩
abbrev cX11_stageNow : ByteArray := prog_13_method_11_code
def yX11_stageNow : MethodName := ⟨RX11, "stageNow", "()I"⟩
abbrev cX11_tellSea : ByteArray := prog_13_method_12_code
def yX11_tellSea : MethodName := ⟨RX11, "tellSea", "(I)I"⟩
abbrev cX11_sea : ByteArray := prog_13_method_13_code
def yX11_sea : MethodName := ⟨RX11, "sea", "(I)I"⟩
abbrev cX11_isRocket : ByteArray := prog_13_method_14_code
def yX11_isRocket : MethodName := ⟨RX11, "isRocket", "(I)Z"⟩
abbrev cX11_rocket : ByteArray := prog_13_method_15_code
def yX11_rocket : MethodName := ⟨RX11, "rocket", "(II)I"⟩
abbrev cX11_fallsAt : ByteArray := prog_13_method_16_code
def yX11_fallsAt : MethodName := ⟨RX11, "fallsAt", "(III)I"⟩
abbrev cX11_isRight : ByteArray := prog_13_method_17_code
def yX11_isRight : MethodName := ⟨RX11, "isRight", "(I)Z"⟩
abbrev cX11_fire : ByteArray := prog_13_method_18_code
def yX11_fire : MethodName := ⟨RX11, "fire", "(II)I"⟩
abbrev cX11_hitTenths : ByteArray := prog_13_method_19_code
def yX11_hitTenths : MethodName := ⟨RX11, "hitTenths", "(II)I"⟩
abbrev cX11_term : ByteArray := prog_13_method_20_code
def yX11_term : MethodName := ⟨RX11, "term", "(JJI)J"⟩
abbrev cX11_hits : ByteArray := prog_13_method_21_code
def yX11_hits : MethodName := ⟨RX11, "hits", "(III)J"⟩
abbrev cX11_leftBits : ByteArray := prog_13_method_22_code
def yX11_leftBits : MethodName := ⟨RX11, "leftBits", "()I"⟩
abbrev cX11_bestOf : ByteArray := prog_13_method_23_code
def yX11_bestOf : MethodName := ⟨RX11, "bestOf", "(IJI)J"⟩
abbrev cX11_aimOf : ByteArray := prog_13_method_24_code
def yX11_aimOf : MethodName := ⟨RX11, "aimOf", "(I)J"⟩
abbrev cX11_hundreds : ByteArray := prog_13_method_25_code
def yX11_hundreds : MethodName := ⟨RX11, "hundreds", "(I)J"⟩
abbrev cX11_isAiming : ByteArray := prog_13_method_26_code
def yX11_isAiming : MethodName := ⟨RX11, "isAiming", "()Z"⟩
abbrev cX11_aim : ByteArray := prog_13_method_27_code
def yX11_aim : MethodName := ⟨RX11, "aim", "(II)J"⟩
abbrev cX11_which : ByteArray := prog_13_method_28_code
def yX11_which : MethodName := ⟨RX11, "which", "(I)I"⟩
abbrev cX11_layLater : ByteArray := prog_13_method_29_code
def yX11_layLater : MethodName := ⟨RX11, "layLater", "(I)V"⟩
abbrev cX11_isMan : ByteArray := prog_13_method_30_code
def yX11_isMan : MethodName := ⟨RX11, "isMan", "(I)Z"⟩
abbrev cX11_man : ByteArray := prog_13_method_31_code
def yX11_man : MethodName := ⟨RX11, "man", "(II)I"⟩
abbrev cX11_sags : ByteArray := prog_13_method_32_code
def yX11_sags : MethodName := ⟨RX11, "sags", "(I)Z"⟩
abbrev cX11_takes : ByteArray := prog_13_method_33_code
def yX11_takes : MethodName := ⟨RX11, "takes", "(I)I"⟩
abbrev cX11_overBits : ByteArray := prog_13_method_34_code
def yX11_overBits : MethodName := ⟨RX11, "overBits", "()I"⟩
abbrev cX11_canCome : ByteArray := prog_13_method_35_code
def yX11_canCome : MethodName := ⟨RX11, "canCome", "(II)Z"⟩
abbrev cX11_mayCome : ByteArray := prog_13_method_36_code
def yX11_mayCome : MethodName := ⟨RX11, "mayCome", "(I)Z"⟩
abbrev cX11_tellMan : ByteArray := prog_13_method_37_code
def yX11_tellMan : MethodName := ⟨RX11, "tellMan", "(II)I"⟩
abbrev cX11_about : ByteArray := prog_13_method_38_code
def yX11_about : MethodName := ⟨RX11, "about", "(II)I"⟩
abbrev cX11_as : ByteArray := prog_13_method_39_code
def yX11_as : MethodName := ⟨RX11, "as", "(II)I"⟩
abbrev cX11_behind : ByteArray := prog_13_method_40_code
def yX11_behind : MethodName := ⟨RX11, "behind", "(IIZ)I"⟩
abbrev cX11_hawser : ByteArray := prog_13_method_41_code
def yX11_hawser : MethodName := ⟨RX11, "hawser", "(I)I"⟩
abbrev cX11_come : ByteArray := prog_13_method_42_code
def yX11_come : MethodName := ⟨RX11, "come", "(I)I"⟩
abbrev cX11_minutes : ByteArray := prog_13_method_43_code
def yX11_minutes : MethodName := ⟨RX11, "minutes", "(I)I"⟩
abbrev cX11_ones : ByteArray := prog_13_method_44_code
def yX11_ones : MethodName := ⟨RX11, "ones", "(I)I"⟩
abbrev cX11_breaks : ByteArray := prog_13_method_45_code
def yX11_breaks : MethodName := ⟨RX11, "breaks", "()I"⟩
abbrev cX11_firstOrder : ByteArray := prog_13_method_46_code
def yX11_firstOrder : MethodName := ⟨RX11, "firstOrder", "(I)V"⟩
abbrev cX11_nextOrder : ByteArray := prog_13_method_47_code
def yX11_nextOrder : MethodName := ⟨RX11, "nextOrder", "()Z"⟩
abbrev cX11_holds : ByteArray := prog_13_method_48_code
def yX11_holds : MethodName := ⟨RX11, "holds", "(I)J"⟩
abbrev cX11_meanOf : ByteArray := prog_13_method_49_code
def yX11_meanOf : MethodName := ⟨RX11, "meanOf", "()J"⟩
abbrev cX11_order : ByteArray := prog_13_method_50_code
def yX11_order : MethodName := ⟨RX11, "order", "(I)J"⟩
abbrev cX11_said : ByteArray := prog_13_method_51_code
def yX11_said : MethodName := ⟨RX11, "said", "(II)I"⟩
abbrev cX11_placeOf : ByteArray := prog_13_method_52_code
def yX11_placeOf : MethodName := ⟨RX11, "placeOf", "(I)I"⟩
abbrev cX11_isSaidSo : ByteArray := prog_13_method_53_code
def yX11_isSaidSo : MethodName := ⟨RX11, "isSaidSo", "()Z"⟩
abbrev cX11_layOrders : ByteArray := prog_13_method_54_code
def yX11_layOrders : MethodName := ⟨RX11, "layOrders", "()I"⟩
abbrev cX11_orders : ByteArray := prog_13_method_55_code
def yX11_orders : MethodName := ⟨RX11, "orders", "()I"⟩
abbrev cX11_sure : ByteArray := prog_13_method_56_code
def yX11_sure : MethodName := ⟨RX11, "sure", "(I)I"⟩
abbrev cX11_wreck : ByteArray := prog_13_method_57_code
def yX11_wreck : MethodName := ⟨RX11, "wreck", "(I)I"⟩
abbrev cX11_stationsOf : ByteArray := prog_13_method_58_code
def yX11_stationsOf : MethodName := ⟨RX11, "stationsOf", "(II)I"⟩
abbrev cX11_stations : ByteArray := prog_13_method_59_code
def yX11_stations : MethodName := ⟨RX11, "stations", "(II)I"⟩
abbrev cX11_draw : ByteArray := prog_13_method_60_code
def yX11_draw : MethodName := ⟨RX11, "draw", "(I)I"⟩
abbrev cX11_nights : ByteArray := prog_13_method_61_code
def yX11_nights : MethodName := ⟨RX11, "nights", "(II)I"⟩
abbrev cX11_copy : ByteArray := prog_13_method_62_code
def yX11_copy : MethodName := ⟨RX11, "copy", "([I[I)V"⟩
abbrev cX11_image : ByteArray := prog_13_method_63_code
def yX11_image : MethodName := ⟨RX11, "image", "()I"⟩
abbrev cX11_restore : ByteArray := prog_13_method_64_code
def yX11_restore : MethodName := ⟨RX11, "restore", "()I"⟩
abbrev cX11_countOf : ByteArray := prog_13_method_65_code
def yX11_countOf : MethodName := ⟨RX11, "countOf", "(I)I"⟩
abbrev cX11_count : ByteArray := prog_13_method_66_code
def yX11_count : MethodName := ⟨RX11, "count", "(I)I"⟩
abbrev cX11_say : ByteArray := prog_13_method_67_code
def yX11_say : MethodName := ⟨RX11, "say", "(J)V"⟩
abbrev cX11_digest : ByteArray := prog_13_method_68_code
def yX11_digest : MethodName := ⟨RX11, "digest", "()J"⟩
def RJ6 : String := "java/lang/Integer"
abbrev cJ6_bitCount_0f7a4 : ByteArray := prog_14_method_49_code
def yJ6_bitCount_0f7a4 : MethodName := ⟨RJ6, "bitCount", "(I)I"⟩
def RJ7 : String := "java/util/Arrays"
abbrev cJ7_fill_d0a16 : ByteArray := prog_16_method_101_code
def yJ7_fill_d0a16 : MethodName := ⟨RJ7, "fill", "([JJ)V"⟩
abbrev cJ7_fill_53178 : ByteArray := prog_16_method_103_code
def yJ7_fill_53178 : MethodName := ⟨RJ7, "fill", "([II)V"⟩
def RL : String := "LineToWreckLaw"
abbrev cL_law : ByteArray := code
def yL_law : MethodName := ⟨RL, "law", "([I)Z"⟩
abbrev vwCl : List vw_C := [(RX0, TX0, 4), (RX1, TX1, 11), (RX2, TX2, 4), (RX3, TX3, 4), (RX4, TX4, 4), (RX5, TX5, 2), (RX6, TX6, 3), (RX7, TX7, 5), (RX8, TX8, 5), (RX9, TX9, 4), (RX10, TX10, 12), (RX11, TX11, 49)]
/-! the 52 cells: kind of each, length of a row, the cells that its references name -/
def kdL : List Nat := [10, 5, 12, 7, 12, 12, 6, 12, 12, 2, 12, 12, 12, 1, 12, 12, 12, 3, 1, 12, 12, 12, 0, 13, 4, 13, 12, 8, 12, 12, 12, 9, 11, 12, 12, 12, 12, 12, 12, 13, 13, 12, 12, 12, 12, 12, 12, 12, 12, 12, 12, 12]
def lnL : List Nat := [0, 0, 22, 0, 3, 10, 0, 6, 6, 0, 6, 6, 6, 0, 6, 6, 8, 0, 0, 6, 6, 8, 0, 64, 0, 64, 64, 0, 6, 64, 64, 0, 0, 22, 3, 10, 3, 10, 18, 64, 64, 18, 6, 6, 6, 30, 6, 8, 18, 18, 30, 8]
def rtL : List (List Nat) := [[1, 3, 6, 9, 13, 17, 22, 24, 27, 31, 0, 0], [2, 0], [], [0, 0, 0, 4, 5], [], [], [0, 7, 8], [], [], [0, 10, 11, 12], [], [], [], [0, 0, 0, 0, 0, 0, 0, 0, 14, 15, 16], [], [], [], [18, 0, 0, 0], [0, 0, 0, 0, 0, 0, 0, 0, 19, 20, 21], [], [], [], [0, 0, 0, 23], [], [0, 0, 25, 26], [], [], [0, 0, 28, 29, 30], [], [], [], [], [33, 0, 0, 0, 34, 35, 0, 0, 0, 0, 0, 0, 0, 0, 0, 36, 37, 0, 38, 39, 40, 0, 0, 41, 42, 0, 43, 44, 0, 0, 45, 46, 0, 47, 0, 0, 0, 0, 0, 0, 0, 0, 0, 0, 48, 49, 50, 51, 0], [], [], [], [], [], [], [], [], [], [], [], [], [], [], [], [], [], [], []]
def ftL : List (List Nat) := [[1, 1, 0, 2], [0, 0, 0, 0, 0, 0, 0, 0, 2, 2, 2], [0, 2, 2, 2], [2, 0, 0, 0], [1, 0, 2, 2], [2, 0], [0, 2, 2], [0, 0, 0, 2, 2], [0, 0, 2, 2, 2], [1, 0, 0, 0], [2, 2, 2, 2, 2, 2, 2, 2, 2, 2, 0, 0], [2, 0, 0, 0, 2, 2, 0, 0, 0, 0, 0, 0, 0, 0, 0, 2, 2, 0, 2, 2, 2, 0, 0, 2, 2, 0, 2, 2, 0, 0, 2, 2, 0, 2, 0, 0, 0, 0, 0, 0, 0, 0, 0, 0, 2, 2, 2, 2, 1]]
def nfL : List Nat := [4, 11, 4, 4, 4, 2, 3, 5, 5, 4, 12, 49]
def nwL : List (String × Nat × MethodName × String) := [("LineToWreck", 9, ⟨"LineToWreck$Page", "<init>", "()V"⟩, "LineToWreck"), ("LineToWreck", 18, ⟨"LineToWreck$Sea", "<init>", "()V"⟩, "LineToWreck"), ("LineToWreck", 25, ⟨"LineToWreck$Rockets", "<init>", "()V"⟩, "LineToWreck"), ("LineToWreck", 32, ⟨"LineToWreck$Crew", "<init>", "()V"⟩, "LineToWreck"), ("LineToWreck", 39, ⟨"LineToWreck$Course", "<init>", "()V"⟩, "LineToWreck"), ("LineToWreck", 46, ⟨"LineToWreck$Image", "<init>", "()V"⟩, "LineToWreck"), ("LineToWreck$Image", 9, ⟨"LineToWreck$Course", "<init>", "()V"⟩, "LineToWreck"), ("LineToWreck", 53, ⟨"LineToWreck$AimSearch", "<init>", "()V"⟩, "LineToWreck"), ("LineToWreck", 60, ⟨"LineToWreck$OrderSearch", "<init>", "()V"⟩, "LineToWreck"), ("LineToWreck", 67, ⟨"LineToWreck$Successions", "<init>", "()V"⟩, "LineToWreck"), ("LineToWreck", 74, ⟨"LineToWreck$Trial", "<init>", "()V"⟩, "LineToWreck"), ("LineToWreck$Page", 19, ⟨"LineToWreck", "put", "([III)V"⟩, "LineToWreck"), ("LineToWreck$Page", 23, ⟨"LineToWreck", "at", "([II)I"⟩, "LineToWreck"), ("LineToWreck$Page", 42, ⟨"LineToWreck", "isOutside", "(III)Z"⟩, "LineToWreck"), ("LineToWreck$Sea", 31, ⟨"LineToWreck", "put", "([III)V"⟩, "LineToWreck"), ("LineToWreck$Sea", 41, ⟨"LineToWreck", "at", "([II)I"⟩, "LineToWreck"), ("LineToWreck$Rockets", 22, ⟨"LineToWreck", "put", "([III)V"⟩, "LineToWreck"), ("LineToWreck$Rockets", 26, ⟨"LineToWreck", "at", "([II)I"⟩, "LineToWreck"), ("LineToWreck$AimSearch", 71, ⟨"LineToWreck", "at", "([JI)J"⟩, "LineToWreck"), ("LineToWreck$AimSearch", 82, ⟨"LineToWreck", "isIn", "(II)Z"⟩, "LineToWreck"), ("LineToWreck$AimSearch", 90, ⟨"LineToWreck", "without", "(II)I"⟩, "LineToWreck"), ("LineToWreck$AimSearch", 55, ⟨"LineToWreck", "put", "([JIJ)V"⟩, "LineToWreck"), ("LineToWreck$Crew", 31, ⟨"LineToWreck", "put", "([III)V"⟩, "LineToWreck"), ("LineToWreck$Crew", 35, ⟨"LineToWreck", "at", "([II)I"⟩, "LineToWreck"), ("LineToWreck$Course", 65, ⟨"LineToWreck", "isIn", "(II)Z"⟩, "LineToWreck"), ("LineToWreck$Course", 53, ⟨"LineToWreck", "at", "([II)I"⟩, "LineToWreck"), ("LineToWreck$Crew", 43, ⟨"LineToWreck", "with", "(II)I"⟩, "LineToWreck"), ("LineToWreck$Crew", 47, ⟨"LineToWreck", "without", "(II)I"⟩, "LineToWreck"), ("LineToWreck$Crew", 50, ⟨"LineToWreck", "isIn", "(II)Z"⟩, "LineToWreck"), ("LineToWreck$Course", 61, ⟨"LineToWreck", "with", "(II)I"⟩, "LineToWreck"), ("LineToWreck$Course", 57, ⟨"LineToWreck", "put", "([III)V"⟩, "LineToWreck"), ("LineToWreck$OrderSearch", 34, ⟨"LineToWreck", "holdsAll", "(II)Z"⟩, "LineToWreck"), ("LineToWreck$OrderSearch", 72, ⟨"LineToWreck", "put", "([III)V"⟩, "LineToWreck"), ("LineToWreck$OrderSearch", 78, ⟨"LineToWreck", "isIn", "(II)Z"⟩, "LineToWreck"), ("LineToWreck$OrderSearch", 68, ⟨"LineToWreck", "with", "(II)I"⟩, "LineToWreck"), ("LineToWreck$OrderSearch", 85, ⟨"LineToWreck", "at", "([JI)J"⟩, "LineToWreck"), ("LineToWreck$OrderSearch", 60, ⟨"LineToWreck", "put", "([JIJ)V"⟩, "LineToWreck"), ("LineToWreck$OrderSearch", 64, ⟨"LineToWreck", "at", "([II)I"⟩, "LineToWreck"), ("LineToWreck$Successions", 43, ⟨"LineToWreck", "put", "([III)V"⟩, "LineToWreck"), ("LineToWreck$Successions", 76, ⟨"LineToWreck", "isIn", "(II)Z"⟩, "LineToWreck"), ("LineToWreck$Successions", 53, ⟨"LineToWreck", "at", "([II)I"⟩, "LineToWreck"), ("LineToWreck$Successions", 79, ⟨"LineToWreck", "holdsAll", "(II)Z"⟩, "LineToWreck"), ("LineToWreck$Successions", 61, ⟨"LineToWreck", "with", "(II)I"⟩, "LineToWreck"), ("LineToWreck$Rockets", 47, ⟨"LineToWreck", "isIn", "(II)Z"⟩, "LineToWreck"), ("LineToWreck$Trial", 49, ⟨"LineToWreck", "without", "(II)I"⟩, "LineToWreck")]
end
section
/-! WORDS: all good words of the tables in one list; each method's contract has its own code word and this list -/
def zA : List Cond := lw_tbl.filter goodWord
theorem zA_in : ∀ w ∈ zA, w ∈ lw_tbl := fun _ h => (List.mem_filter.mp h).1
theorem zA_mk {w : Cond} (h : w ∈ lw_tbl) (hg : goodWord w = true) : w ∈ zA := List.mem_filter.mpr ⟨h, hg⟩
theorem zA_t {w : Cond} (i : Nat) (h : tables_1[i]? = some w) (hg : goodWord w = true) : w ∈ zA := zA_mk (List.mem_append_right _ (List.mem_of_getElem? h)) hg
theorem zA_p {w : Cond} (h : w ∈ k2_sels lw_privs) (hg : goodWord w = true) : w ∈ zA := zA_mk (List.mem_append_left _ h) hg
theorem zA_good {c0 c1 : Cond} (h : c1 ∈ zA) : GoodIn (c0 :: zA) (c1 :: zA) := by
  intro w hw
  have hw' : w ∈ zA := by
    rcases List.mem_cons.mp hw with rfl | q
    · exact h
    · exact q
  exact ⟨List.mem_cons_of_mem _ hw', good_of_word (List.mem_filter.mp hw').2⟩
/-! MEMORY: ints by cell and place (a field, or an element of a row), longs by cell and place -/
abbrev Mm : Type := (Nat → Nat → Int32) × (Nat → Nat → Int64)
def gI (M : Mm) (c k : Nat) : Int32 := M.1 c k
def gJ (M : Mm) (c k : Nat) : Int64 := M.2 c k
def sI (M : Mm) (c k : Nat) (v : Int32) : Mm := (fun a b => if a = c ∧ b = k then v else M.1 a b, M.2)
def sJ (M : Mm) (c k : Nat) (v : Int64) : Mm := (M.1, fun a b => if a = c ∧ b = k then v else M.2 a b)
def kd (c : Nat) : Nat := kdL.getD c 99
def ln (c : Nat) : Nat := lnL.getD c 0
def rt (c k : Nat) : Nat := (rtL.getD c []).getD k 0
def ft (t k : Nat) : Nat := (ftL.getD t []).getD k 9
def nf (t : Nat) : Nat := nfL.getD t 0
/-- the geometry: addresses, the tables' numbers of the classes, the classes of the two kinds of rows -/
abbrev Wd : Type := (Nat → Nat) × va_G × ClassId × ClassId
def fval (w : Wd) (M : Mm) (c k : Nat) : Value := if ft (kd c) k = 0 then .int (M.1 c k) else if ft (kd c) k = 1 then .long (M.2 c k) else .ref (w.1 (rt c k))
def cel (w : Wd) (M : Mm) (c : Nat) : va_E := if kd c = 12 then .inl (w.2.2.1, ln c, .inl (M.1 c)) else if kd c = 13 then .inl (w.2.2.2, ln c, .inr (.inl (M.2 c))) else .inr (kd c, (List.range (nf (kd c))).map (fval w M c))
def gw (w : Wd) (M : Mm) : va_W := (List.range 52).map (fun c => (w.1 c, cel w M c))
def FA (w : Wd) : Nat → Prop := fun q => ∃ c, c < 52 ∧ q = w.1 c
def adok (w : Wd) : Prop := ∀ i j, i < 52 → j < 52 → w.1 i = w.1 j → i = j
def tysW (w : Wd) : List (ClassId × FieldType) := [(w.2.2.1, .int), (w.2.2.2, .long)]
def NWs (U : State) : Prop := ∀ q ∈ nwL, va_Nw (.methodLinkNest q.1 q.2.1 q.2.2.1 q.2.2.2) U
theorem kd_lt {c : Nat} (h : kd c < 99) : c < 52 := by
  unfold kd at h
  rcases Nat.lt_or_ge c 52 with q | q
  · exact q
  · rw [List.getD_eq_getElem?_getD, List.getElem?_eq_none (by exact q)] at h
    exact absurd h (by decide)
theorem gw_at (w : Wd) (M : Mm) {c : Nat} (hc : c < 52) : (gw w M)[c]? = some (w.1 c, cel w M c) := by
  unfold gw
  rw [List.getElem?_map, List.getElem?_range hc]
  rfl
theorem gw_len (w : Wd) (M : Mm) : (gw w M).length = 52 := by simp [gw]
theorem gw_D {w : Wd} (h : adok w) (M : Mm) : va_D (FA w) (gw w M) := by
  have key : ∀ (k : Nat) (q : Nat × va_E), (gw w M)[k]? = some q → k < 52 ∧ q.1 = w.1 k := by
    intro k q hk
    have hl : k < 52 := by have := (List.getElem?_eq_some_iff.mp hk).1; rwa [gw_len] at this
    rw [gw_at w M hl] at hk
    exact ⟨hl, by rw [← Option.some.inj hk]⟩
  refine ⟨fun i j p q hi hj hpq => ?_, fun k q hk => ?_⟩
  · obtain ⟨a1, a2⟩ := key i p hi
    obtain ⟨b1, b2⟩ := key j q hj
    exact h i j a1 b1 (by rw [← a2, ← b2, hpq])
  · obtain ⟨a1, a2⟩ := key k q hk
    exact ⟨k, a1, a2⟩
theorem gw_set {w : Wd} {M M' : Mm} {c : Nat} {e : va_E} (hc : c < 52) (he : cel w M' c = e) (ho : ∀ j, j ≠ c → cel w M' j = cel w M j) : (gw w M).set c (w.1 c, e) = gw w M' := by
  apply List.ext_getElem?
  intro j
  rw [List.getElem?_set]
  by_cases hj : j < 52
  · rw [gw_at w M' hj, gw_at w M hj, gw_len]
    by_cases h : c = j
    · subst h; simp [hc, he]
    · simp [h, ho j (fun q => h q.symm)]
  · rw [List.getElem?_eq_none (by rw [gw_len]; omega), List.getElem?_eq_none (by rw [gw_len]; omega)]
    have : ¬ c = j := by omega
    simp [this]
theorem cel_oI (w : Wd) (M : Mm) {c k j : Nat} (v : Int32) (h : j ≠ c) : cel w (sI M c k v) j = cel w M j := by
  have e : (sI M c k v).1 j = M.1 j := by funext b; simp [sI, h]
  have e2 : (sI M c k v).2 = M.2 := rfl
  have e3 : fval w (sI M c k v) j = fval w M j := by funext b; simp [fval, e, e2]
  simp only [cel, e, e2, e3]
theorem cel_oJ (w : Wd) (M : Mm) {c k j : Nat} (v : Int64) (h : j ≠ c) : cel w (sJ M c k v) j = cel w M j := by
  have e : (sJ M c k v).2 j = M.2 j := by funext b; simp [sJ, h]
  have e2 : (sJ M c k v).1 = M.1 := rfl
  have e3 : fval w (sJ M c k v) j = fval w M j := by funext b; simp [fval, e, e2]
  simp only [cel, e, e2, e3]
theorem map_set {f g : Nat → Value} {n k : Nat} {v : Value} (h : ∀ j, g j = if j = k then v else f j) : ((List.range n).map f).set k v = (List.range n).map g := by
  apply List.ext_getElem?
  intro j
  rw [List.getElem?_set]
  simp only [List.getElem?_map, List.length_map, List.length_range]
  by_cases hj : j < n
  · rw [List.getElem?_range hj]
    by_cases e : k = j
    · subst e; simp [hj, h]
    · have : ¬ j = k := fun q => e q.symm
      simp [e, h, this]
  · rw [List.getElem?_eq_none (by simpa using hj)]
    by_cases e : k = j
    · subst e; simp [hj]
    · simp [e]
theorem gw_putI {w : Wd} {M : Mm} {c k : Nat} {v : Int32} (hk : kd c < 12) (hf : ft (kd c) k = 0) : (gw w M).set c (w.1 c, .inr (kd c, ((List.range (nf (kd c))).map (fval w M c)).set k (.int v))) = gw w (sI M c k v) := by
  refine gw_set (kd_lt (by omega)) ?_ (fun j hj => cel_oI w M v hj)
  have h1 : ¬ kd c = 12 := by omega
  have h2 : ¬ kd c = 13 := by omega
  simp only [cel, h1, h2, if_false]
  congr 2
  refine (map_set (fun j => ?_)).symm
  by_cases e : j = k
  · subst e; simp [fval, hf, sI]
  · simp [fval, sI, e]
theorem gw_putJ {w : Wd} {M : Mm} {c k : Nat} {v : Int64} (hk : kd c < 12) (hf : ft (kd c) k = 1) : (gw w M).set c (w.1 c, .inr (kd c, ((List.range (nf (kd c))).map (fval w M c)).set k (.long v))) = gw w (sJ M c k v) := by
  refine gw_set (kd_lt (by omega)) ?_ (fun j hj => cel_oJ w M v hj)
  have h1 : ¬ kd c = 12 := by omega
  have h2 : ¬ kd c = 13 := by omega
  simp only [cel, h1, h2, if_false]
  congr 2
  refine (map_set (fun j => ?_)).symm
  by_cases e : j = k
  · subst e; simp [fval, hf, sJ]
  · simp [fval, sJ, e]
theorem gw_arI {w : Wd} {M : Mm} {c k : Nat} {v : Int32} (hk : kd c = 12) : (gw w M).set c (w.1 c, .inl (w.2.2.1, ln c, .inl (upd (M.1 c) k v))) = gw w (sI M c k v) := by
  refine gw_set (kd_lt (by omega)) ?_ (fun j hj => cel_oI w M v hj)
  simp only [cel, hk, if_true]
  congr 4
  funext j
  simp [sI, upd]
theorem gw_arJ {w : Wd} {M : Mm} {c k : Nat} {v : Int64} (hk : kd c = 13) : (gw w M).set c (w.1 c, .inl (w.2.2.2, ln c, .inr (.inl (vp_updL (M.2 c) k v)))) = gw w (sJ M c k v) := by
  refine gw_set (kd_lt (by omega)) ?_ (fun j hj => cel_oJ w M v hj)
  have h1 : ¬ kd c = 12 := by omega
  simp only [cel, hk]
  simp only [show ¬ (13 = 12) by decide, if_false, if_true]
  congr 5
  funext j
  simp [sJ, vp_updL]
/-! the words of the spec language -/
def bd {α β : Type} (o : Option (α × Mm)) (k : α → Mm → Option β) : Option β := match o with | none => none | some p => k p.1 p.2
def bl {α β : Type} (v : α) (k : α → β) : β := k v
def jn {α β : Type} (k : α) (f : α → β) : β := f k
def ix (i : Int32) : Nat := i.toNatClampNeg
def inB (i : Int32) (n : Nat) : Prop := 0 ≤ i.toInt ∧ i.toInt < n
def rdI {β : Type} (M : Mm) (c : Nat) (i : Int32) (k : Int32 → Option β) : Option β := if 0 ≤ i.toInt ∧ i.toInt < ln c then k (gI M c (ix i)) else none
def rdJ {β : Type} (M : Mm) (c : Nat) (i : Int32) (k : Int64 → Option β) : Option β := if 0 ≤ i.toInt ∧ i.toInt < ln c then k (gJ M c (ix i)) else none
def wrI {β : Type} (M : Mm) (c : Nat) (i v : Int32) (k : Mm → Option β) : Option β := if 0 ≤ i.toInt ∧ i.toInt < ln c then k (sI M c (ix i) v) else none
def wrJ {β : Type} (M : Mm) (c : Nat) (i : Int32) (v : Int64) (k : Mm → Option β) : Option β := if 0 ≤ i.toInt ∧ i.toInt < ln c then k (sJ M c (ix i) v) else none
/-- a boolean is 0 or 1 -/
def zb {β : Type} (v : Int32) (k : Option β) : Option β := if v = 0 ∨ v = 1 then k else none
def nzI {β : Type} (v : Int32) (k : Option β) : Option β := if v = 0 then none else k
def nzJ {β : Type} (v : Int64) (k : Option β) : Option β := if v = 0 then none else k
def fu : Nat := 1000
/-! THE JUDGEMENT -/
abbrev Cx : Type := Program × Launch × Env × Room × State × MethodId × Array Value × List Frame × Method × Code
def cS (x : Cx) : State := x.2.2.2.2.1
def cM (x : Cx) : MethodId := x.2.2.2.2.2.1
def cB (x : Cx) : List Frame := x.2.2.2.2.2.2.2.1
def cAr (x : Cx) : Array Value := x.2.2.2.2.2.2.1
def Wx (x : Cx) (H : Heap) (locs : List Loc) (Q : State → Prop) (g : JFrame) : Prop := W x.1 x.2.1 x.2.2.1 x.2.2.2.1 (cS x) (cM x) (cAr x) (cB x) x.2.2.2.2.2.2.2.2.1 x.2.2.2.2.2.2.2.2.2 H locs 0 0 Q g
def Ok (x : Cx) (w : Wd) (cc : ByteArray) (nL : Nat) (own : String) (ret : Option FieldType) (rm : Room) : Prop :=
  x.1.tables.exec = Jvm.exec ∧ x.2.2.2.2.2.2.2.2.2.code = cc ∧ x.2.2.2.2.2.2.2.2.2.maxLocals = nL ∧ (cS x).vm.findClass own = some (cM x).cls ∧ (∀ q ∈ zA, q.before (cAr x) (cS x) = true) ∧ va_K w.2.1 vwCl (tysW w) (cS x) ∧ adok w ∧ NWs (cS x) ∧ x.2.2.2.2.2.2.2.2.1.sig.returnType = ret ∧ x.2.2.2.2.2.2.2.2.1.locks = false ∧ x.2.2.2.1 = rm ∧ rm.cells = 0 ∧ rm.slots = 0
def G {α : Type} (x : Cx) (w : Wd) (nL : Nat) (Qf : α → Mm → Array Value → State → Outcome → State → Prop) (o : Option (α × Mm)) (M : Mm) (lv : List (Nat × Value)) (pc : Nat) (st : List Value) : Prop :=
  ∀ (r : α) (M' : Mm), o = some (r, M') → ∀ (H : Heap) (locs : List Loc) (ls : Array Slot), va_P w.2.1 vwCl (gw w M) H → va_S (FA w) (cS x).heap H locs → lv_has ls nL lv → Wx x H locs (MQ (cB x) (Qf r M') (cAr x) (cS x) 0 0 (FA w)) (F0 (cM x) pc ls st)
def qI (w : Wd) (r : Int32) (M' : Mm) : Array Value → State → Outcome → State → Prop := va_Qi (fun (q : Int32) (_ : Unit) => q = r) (fun _ t => va_P w.2.1 vwCl (gw w M') t.heap) (FA w)
def qJ (w : Wd) (r : Int64) (M' : Mm) : Array Value → State → Outcome → State → Prop := va_Ql (fun (q : Int64) (_ : Unit) => q = r) (fun _ t => va_P w.2.1 vwCl (gw w M') t.heap) (FA w)
def qV (w : Wd) (_ : Unit) (M' : Mm) : Array Value → State → Outcome → State → Prop := va_Qv (fun (_ : Unit) => True) (fun _ t => va_P w.2.1 vwCl (gw w M') t.heap) (FA w)
def PU (w : Wd) (M : Mm) (U : State) : Prop := va_P w.2.1 vwCl (gw w M) U.heap ∧ va_K w.2.1 vwCl (tysW w) U ∧ adok w ∧ NWs U
/-- a method's contract: where its spec has an answer, it returns that answer and leaves that memory -/
def CT {α : Type} (l : Launch) (y : MethodName) (cc : ByteArray) (maxL : Nat) (ret : Option FieldType) (rm : Room) (w : Wd) (Qf : α → Mm → Array Value → State → Outcome → State → Prop) (av : List Value) (o : Option (α × Mm)) (M : Mm) : Prop :=
  ∀ (r : α) (M' : Mm), o = some (r, M') → Met l y (.code y cc maxL ret :: zA) rm (va_Pc av (PU w M)) (Qf r M') 0 0 (FA w)
theorem NWs.warm {s U : State} (hW : s.WarmedH U.vm) (h : NWs s) : NWs U := fun q hq => va_Nw.warmM hW (h q hq)
theorem ct_of {α : Type} {l : Launch} {y : MethodName} {cc : ByteArray} {maxL : Nat} {ret : Option FieldType} {rm : Room} {w : Wd} {Qf : α → Mm → Array Value → State → Outcome → State → Prop} {av : List Value} {o : Option (α × Mm)} {M : Mm} (own : String) (lv : List (Nat × Value)) (ho : y.cls = own) (hn : (lg_sl av).length ≤ maxL) (hy : plainName y.cls = true) (hlv : lv_args 0 av = lv) (hc : rm.cells = 0) (hs : rm.slots = 0)
    (h : ∀ x : Cx, Ok x w cc maxL own ret rm → G x w maxL Qf o M lv 0 []) : CT l y cc maxL ret rm w Qf av o M := by
  intro r M' hr
  refine Met.ofW (cc := cc) (maxL := maxL) (ret := ret) hy rfl ?_
  intro p e s m args below meth c s₁ B hml hv
  obtain ⟨rfl, hP, hK, hA, hN⟩ := hv
  have hts := atoms_spec (ws := (.code y cc maxL ret :: zA)) B.pre
  have hown : s.vm.findClass own = some m.cls := by rw [← ho]; exact findClass_of_methodNamed B.named
  have hl := lv_entry av (n := maxL) hn
  rw [hlv] at hl
  rw [lg_entry_eq]
  exact h (p, l, e, rm, s, m, av.toArray, below, meth, c) ⟨B.exec, B.bytes, hml, hown, fun q hq => hts q (List.mem_cons_of_mem _ hq), hK, hA, hN, B.returns, B.notSynchronized, rfl, hc, hs⟩ r M' hr s.heap [] _ hP va_S.rf hl
end
section
/-! ROWS of the judgement G: an instruction each; the spec's words are used up by unification -/
section GR
variable {α β γ : Type} {x : Cx} {w : Wd} {cc : ByteArray} {nL : Nat} {own : String} {ret : Option FieldType} {rm : Room} {Qf : α → Mm → Array Value → State → Outcome → State → Prop} {o a b : Option (α × Mm)} {M : Mm} {lv lv' : List (Nat × Value)} {pc : Nat} {st : List Value}
theorem gz_none : G x w nL Qf none M lv pc st := fun r M' h => by cases h
theorem gz_eq {o' : Option (α × Mm)} (h : o = o') (k : G x w nL Qf o' M lv pc st) : G x w nL Qf o M lv pc st := by rw [h]; exact k
theorem gz_if {c : Prop} [h : Decidable c] (ha : c → G x w nL Qf a M lv pc st) (hb : ¬ c → G x w nL Qf b M lv pc st) : G x w nL Qf (if c then a else b) M lv pc st := by
  by_cases q : c
  · rw [if_pos q]; exact ha q
  · rw [if_neg q]; exact hb q
theorem gz_jn {κ : Type} {k : κ} {f : κ → Option (α × Mm)} (P : κ → Prop) (h1 : P k) (h2 : ∀ K, P K → G x w nL Qf (f K) M lv pc st) : G x w nL Qf (jn k f) M lv pc st := h2 k h1
theorem gz_sub (ks : List Nat) (hl : lv_pick lv ks = lv') (k : G x w nL Qf o M lv' pc st) : G x w nL Qf o M lv pc st := fun r M' ho H locs ls hP hS h => k r M' ho H locs ls hP hS (lv_sub h ks hl)
theorem gz_bl {v : γ} {f : γ → Option (α × Mm)} (k : G x w nL Qf (f v) M lv pc st) : G x w nL Qf (bl v f) M lv pc st := k
theorem gz_blt {v : Int32} {f : Int32 → Option (α × Mm)} (k : ∀ y, G x w nL Qf (f y) M lv pc (.int y :: st)) : G x w nL Qf (bl v f) M lv pc (.int v :: st) := k v
theorem gz_bltJ {v : Int64} {f : Int64 → Option (α × Mm)} (k : ∀ y, G x w nL Qf (f y) M lv pc (.long y :: st)) : G x w nL Qf (bl v f) M lv pc (.long v :: st) := k v
-- constants
theorem gz_iconst (C : Ok x w cc nL own ret rm) {n : Int} {v : Int32} (d : decode cc pc = .ok (.iconst n, 1)) (hv : Int32.ofInt n = v) (k : G x w nL Qf o M lv (pc + 1) (.int v :: st)) : G x w nL Qf o M lv pc st := fun r M' ho H locs ls hP hS h => lv_iconst C.1 C.2.1 d hv (k r M' ho H locs ls hP hS h)
theorem gz_bipush (C : Ok x w cc nL own ret rm) {n : Int} {v : Int32} (d : decode cc pc = .ok (.bipush n, 2)) (hv : (Int8.ofInt n).toInt32 = v) (k : G x w nL Qf o M lv (pc + 2) (.int v :: st)) : G x w nL Qf o M lv pc st := fun r M' ho H locs ls hP hS h => lv_bipush C.1 C.2.1 d hv (k r M' ho H locs ls hP hS h)
theorem gz_lconst (C : Ok x w cc nL own ret rm) {n : Fin 2} {v : Int64} (d : decode cc pc = .ok (.lconst n, 1)) (hv : Int64.ofNat (n : Nat) = v) (k : G x w nL Qf o M lv (pc + 1) (.long v :: st)) : G x w nL Qf o M lv pc st := fun r M' ho H locs ls hP hS h => lv_lconst C.1 C.2.1 d hv (k r M' ho H locs ls hP hS h)
theorem gz_ldc2 (C : Ok x w cc nL own ret rm) {n : Nat} {v : Int64} (hc : Cond.constantLong own n v ∈ zA) (d : decode cc pc = .ok (.ldc2_w n, 3)) (k : G x w nL Qf o M lv (pc + 3) (.long v :: st)) : G x w nL Qf o M lv pc st := fun r M' ho H locs ls hP hS h => lv_ldc2 C.1 C.2.1 C.2.2.2.1 (C.2.2.2.2.1 _ hc) d (k r M' ho H locs ls hP hS h)
theorem gz_ldcw (C : Ok x w cc nL own ret rm) {n : Nat} {v : Int32} (hc : Cond.constant own n v ∈ zA) (d : decode cc pc = .ok (.ldc_w n, 3)) (k : G x w nL Qf o M lv (pc + 3) (.int v :: st)) : G x w nL Qf o M lv pc st := fun r M' ho H locs ls hP hS h => lv_ldcw C.1 C.2.1 C.2.2.2.1 (C.2.2.2.2.1 _ hc) d (k r M' ho H locs ls hP hS h)
-- locals
theorem gz_iloadn (C : Ok x w cc nL own ret rm) {i : Fin 4} {v : Int32} (j : Nat) (hj : lv[j]? = some ((i : Nat), .int v)) (d : decode cc pc = .ok (.iload_n i, 1)) (k : G x w nL Qf o M lv (pc + 1) (.int v :: st)) : G x w nL Qf o M lv pc st := fun r M' ho H locs ls hP hS h => lv_iload_n C.1 C.2.1 d rfl (lv_at h j hj) (k r M' ho H locs ls hP hS h)
theorem gz_iload (C : Ok x w cc nL own ret rm) {i : Nat} {v : Int32} (j : Nat) (hj : lv[j]? = some (i, .int v)) (d : decode cc pc = .ok (.iload i, 2)) (k : G x w nL Qf o M lv (pc + 2) (.int v :: st)) : G x w nL Qf o M lv pc st := fun r M' ho H locs ls hP hS h => lv_iload C.1 C.2.1 d (lv_at h j hj) (k r M' ho H locs ls hP hS h)
theorem gz_lloadn (C : Ok x w cc nL own ret rm) {i : Fin 4} {v : Int64} (j : Nat) (hj : lv[j]? = some ((i : Nat), .long v)) (d : decode cc pc = .ok (.lload_n i, 1)) (k : G x w nL Qf o M lv (pc + 1) (.long v :: st)) : G x w nL Qf o M lv pc st := fun r M' ho H locs ls hP hS h => lv_lload_n C.1 C.2.1 d rfl (lv_at h j hj) (k r M' ho H locs ls hP hS h)
theorem gz_lload (C : Ok x w cc nL own ret rm) {i : Nat} {v : Int64} (j : Nat) (hj : lv[j]? = some (i, .long v)) (d : decode cc pc = .ok (.lload i, 2)) (k : G x w nL Qf o M lv (pc + 2) (.long v :: st)) : G x w nL Qf o M lv pc st := fun r M' ho H locs ls hP hS h => lv_lload C.1 C.2.1 d (lv_at h j hj) (k r M' ho H locs ls hP hS h)
theorem gz_aloadn (C : Ok x w cc nL own ret rm) {i : Fin 4} {v : Nat} (j : Nat) (hj : lv[j]? = some ((i : Nat), .ref v)) (d : decode cc pc = .ok (.aload_n i, 1)) (k : G x w nL Qf o M lv (pc + 1) (.ref v :: st)) : G x w nL Qf o M lv pc st := fun r M' ho H locs ls hP hS h => lv_aload_n C.1 C.2.1 d rfl (lv_at h j hj) (k r M' ho H locs ls hP hS h)
theorem gz_aload (C : Ok x w cc nL own ret rm) {i : Nat} {v : Nat} (j : Nat) (hj : lv[j]? = some (i, .ref v)) (d : decode cc pc = .ok (.aload i, 2)) (k : G x w nL Qf o M lv (pc + 2) (.ref v :: st)) : G x w nL Qf o M lv pc st := fun r M' ho H locs ls hP hS h => lv_aload C.1 C.2.1 d (lv_at h j hj) (k r M' ho H locs ls hP hS h)
theorem gz_istoren (C : Ok x w cc nL own ret rm) {i : Fin 4} {v : Int32} (lv' : List (Nat × Value)) (d : decode cc pc = .ok (.istore_n i, 1)) (hn : (i : Nat) < nL) (hl : ((i : Nat), Value.int v) :: lv.filter (fun q => !(q.1 == (i : Nat)) && !(q.1 + 1 == (i : Nat) && q.2.category == 2)) = lv') (k : G x w nL Qf o M lv' (pc + 1) st) : G x w nL Qf o M lv pc (.int v :: st) := fun r M' ho H locs ls hP hS h => lv_istore_n C.1 C.2.1 d rfl h hn hl (fun ls' h' => k r M' ho H locs ls' hP hS h')
theorem gz_istore (C : Ok x w cc nL own ret rm) {i : Nat} {v : Int32} (lv' : List (Nat × Value)) (d : decode cc pc = .ok (.istore i, 2)) (hn : i < nL) (hl : (i, Value.int v) :: lv.filter (fun q => !(q.1 == i) && !(q.1 + 1 == i && q.2.category == 2)) = lv') (k : G x w nL Qf o M lv' (pc + 2) st) : G x w nL Qf o M lv pc (.int v :: st) := fun r M' ho H locs ls hP hS h => lv_istore C.1 C.2.1 d h hn hl (fun ls' h' => k r M' ho H locs ls' hP hS h')
theorem gz_lstoren (C : Ok x w cc nL own ret rm) {i : Fin 4} {v : Int64} (lv' : List (Nat × Value)) (d : decode cc pc = .ok (.lstore_n i, 1)) (hn : (i : Nat) + 1 < nL) (hl : ((i : Nat), Value.long v) :: lv.filter (fun q => !(q.1 == (i : Nat)) && (!(q.1 == (i : Nat) + 1) && !(q.1 + 1 == (i : Nat) && q.2.category == 2))) = lv') (k : G x w nL Qf o M lv' (pc + 1) st) : G x w nL Qf o M lv pc (.long v :: st) := fun r M' ho H locs ls hP hS h => lv_lstore_n C.1 C.2.1 d rfl h hn hl (fun ls' h' => k r M' ho H locs ls' hP hS h')
theorem gz_lstore (C : Ok x w cc nL own ret rm) {i : Nat} {v : Int64} (lv' : List (Nat × Value)) (d : decode cc pc = .ok (.lstore i, 2)) (hn : i + 1 < nL) (hl : (i, Value.long v) :: lv.filter (fun q => !(q.1 == i) && (!(q.1 == i + 1) && !(q.1 + 1 == i && q.2.category == 2))) = lv') (k : G x w nL Qf o M lv' (pc + 2) st) : G x w nL Qf o M lv pc (.long v :: st) := fun r M' ho H locs ls hP hS h => lv_lstore C.1 C.2.1 d h hn hl (fun ls' h' => k r M' ho H locs ls' hP hS h')
theorem gz_iinc (C : Ok x w cc nL own ret rm) {i : Nat} {n : Int} {v v' : Int32} (j : Nat) (lv' : List (Nat × Value)) (hj : lv[j]? = some (i, .int v)) (d : decode cc pc = .ok (.iinc i n, 3)) (hv : v + Int32.ofInt n = v') (hn : i < nL) (hl : (i, Value.int v') :: lv.filter (fun q => !(q.1 == i) && !(q.1 + 1 == i && q.2.category == 2)) = lv') (k : G x w nL Qf o M lv' (pc + 3) st) : G x w nL Qf o M lv pc st := fun r M' ho H locs ls hP hS h => lv_iinc C.1 C.2.1 d h hj hv hn hl (fun ls' h' => k r M' ho H locs ls' hP hS h')
-- stack
theorem gz_dup (C : Ok x w cc nL own ret rm) {v : Value} (d : decode cc pc = .ok (.dup, 1)) (hv : v.category = 1) (k : G x w nL Qf o M lv (pc + 1) (v :: v :: st)) : G x w nL Qf o M lv pc (v :: st) := fun r M' ho H locs ls hP hS h => lv_dup C.1 C.2.1 d hv (k r M' ho H locs ls hP hS h)
theorem gz_dup2 (C : Ok x w cc nL own ret rm) {v u : Value} (d : decode cc pc = .ok (.dup2, 1)) (hv : v.category = 1) (hu : u.category = 1) (k : G x w nL Qf o M lv (pc + 1) (v :: u :: v :: u :: st)) : G x w nL Qf o M lv pc (v :: u :: st) := fun r M' ho H locs ls hP hS h => lv_dup2_11 C.1 C.2.1 d hv hu (k r M' ho H locs ls hP hS h)
-- arithmetic
theorem gz_iadd (C : Ok x w cc nL own ret rm) {u v : Int32} (d : decode cc pc = .ok (.iadd, 1)) (k : G x w nL Qf o M lv (pc + 1) (.int (u + v) :: st)) : G x w nL Qf o M lv pc (.int v :: .int u :: st) := fun r M' ho H locs ls hP hS h => lv_iadd C.1 C.2.1 d (k r M' ho H locs ls hP hS h)
theorem gz_isub (C : Ok x w cc nL own ret rm) {u v : Int32} (d : decode cc pc = .ok (.isub, 1)) (k : G x w nL Qf o M lv (pc + 1) (.int (u - v) :: st)) : G x w nL Qf o M lv pc (.int v :: .int u :: st) := fun r M' ho H locs ls hP hS h => lv_isub C.1 C.2.1 d (k r M' ho H locs ls hP hS h)
theorem gz_imul (C : Ok x w cc nL own ret rm) {u v : Int32} (d : decode cc pc = .ok (.imul, 1)) (k : G x w nL Qf o M lv (pc + 1) (.int (u * v) :: st)) : G x w nL Qf o M lv pc (.int v :: .int u :: st) := fun r M' ho H locs ls hP hS h => lv_imul C.1 C.2.1 d (k r M' ho H locs ls hP hS h)
theorem gz_iand (C : Ok x w cc nL own ret rm) {u v : Int32} (d : decode cc pc = .ok (.iand, 1)) (k : G x w nL Qf o M lv (pc + 1) (.int (u &&& v) :: st)) : G x w nL Qf o M lv pc (.int v :: .int u :: st) := fun r M' ho H locs ls hP hS h => lv_iand C.1 C.2.1 d (k r M' ho H locs ls hP hS h)
theorem gz_ior (C : Ok x w cc nL own ret rm) {u v : Int32} (d : decode cc pc = .ok (.ior, 1)) (k : G x w nL Qf o M lv (pc + 1) (.int (u ||| v) :: st)) : G x w nL Qf o M lv pc (.int v :: .int u :: st) := fun r M' ho H locs ls hP hS h => lv_ior C.1 C.2.1 d (k r M' ho H locs ls hP hS h)
theorem gz_ixor (C : Ok x w cc nL own ret rm) {u v : Int32} (d : decode cc pc = .ok (.ixor, 1)) (k : G x w nL Qf o M lv (pc + 1) (.int (u ^^^ v) :: st)) : G x w nL Qf o M lv pc (.int v :: .int u :: st) := fun r M' ho H locs ls hP hS h => lv_ixor C.1 C.2.1 d (k r M' ho H locs ls hP hS h)
theorem gz_ishl (C : Ok x w cc nL own ret rm) {u v : Int32} (d : decode cc pc = .ok (.ishl, 1)) (k : G x w nL Qf o M lv (pc + 1) (.int (u <<< (v &&& 31)) :: st)) : G x w nL Qf o M lv pc (.int v :: .int u :: st) := fun r M' ho H locs ls hP hS h => lv_ishl C.1 C.2.1 d (k r M' ho H locs ls hP hS h)
theorem gz_ishr (C : Ok x w cc nL own ret rm) {u v : Int32} (d : decode cc pc = .ok (.ishr, 1)) (k : G x w nL Qf o M lv (pc + 1) (.int (u >>> (v &&& 31)) :: st)) : G x w nL Qf o M lv pc (.int v :: .int u :: st) := fun r M' ho H locs ls hP hS h => lv_ishr C.1 C.2.1 d (k r M' ho H locs ls hP hS h)
theorem gz_iushr (C : Ok x w cc nL own ret rm) {u v : Int32} (d : decode cc pc = .ok (.iushr, 1)) (k : G x w nL Qf o M lv (pc + 1) (.int ((u.toUInt32 >>> (v.toUInt32 &&& Int32.toUInt32 31)).toInt32) :: st)) : G x w nL Qf o M lv pc (.int v :: .int u :: st) := fun r M' ho H locs ls hP hS h => lv_iushr C.1 C.2.1 d rfl (k r M' ho H locs ls hP hS h)
theorem gz_ladd (C : Ok x w cc nL own ret rm) {u v : Int64} (d : decode cc pc = .ok (.ladd, 1)) (k : G x w nL Qf o M lv (pc + 1) (.long (u + v) :: st)) : G x w nL Qf o M lv pc (.long v :: .long u :: st) := fun r M' ho H locs ls hP hS h => lv_ladd C.1 C.2.1 d (k r M' ho H locs ls hP hS h)
theorem gz_lsub (C : Ok x w cc nL own ret rm) {u v : Int64} (d : decode cc pc = .ok (.lsub, 1)) (k : G x w nL Qf o M lv (pc + 1) (.long (u - v) :: st)) : G x w nL Qf o M lv pc (.long v :: .long u :: st) := fun r M' ho H locs ls hP hS h => lv_lsub C.1 C.2.1 d (k r M' ho H locs ls hP hS h)
theorem gz_lmul (C : Ok x w cc nL own ret rm) {u v : Int64} (d : decode cc pc = .ok (.lmul, 1)) (k : G x w nL Qf o M lv (pc + 1) (.long (u * v) :: st)) : G x w nL Qf o M lv pc (.long v :: .long u :: st) := fun r M' ho H locs ls hP hS h => lv_lmul C.1 C.2.1 d (k r M' ho H locs ls hP hS h)
theorem gz_land (C : Ok x w cc nL own ret rm) {u v : Int64} (d : decode cc pc = .ok (.land, 1)) (k : G x w nL Qf o M lv (pc + 1) (.long (u &&& v) :: st)) : G x w nL Qf o M lv pc (.long v :: .long u :: st) := fun r M' ho H locs ls hP hS h => lv_land C.1 C.2.1 d (k r M' ho H locs ls hP hS h)
theorem gz_i2l (C : Ok x w cc nL own ret rm) {u : Int32} (d : decode cc pc = .ok (.i2l, 1)) (k : G x w nL Qf o M lv (pc + 1) (.long u.toInt64 :: st)) : G x w nL Qf o M lv pc (.int u :: st) := fun r M' ho H locs ls hP hS h => lv_i2l C.1 C.2.1 d rfl (k r M' ho H locs ls hP hS h)
theorem gz_l2i (C : Ok x w cc nL own ret rm) {u : Int64} (d : decode cc pc = .ok (.l2i, 1)) (k : G x w nL Qf o M lv (pc + 1) (.int u.toInt32 :: st)) : G x w nL Qf o M lv pc (.long u :: st) := fun r M' ho H locs ls hP hS h => lv_l2i C.1 C.2.1 d rfl (k r M' ho H locs ls hP hS h)
-- divisions: by a constant (hv), or by a number that the spec looks at
theorem gz_idivc (C : Ok x w cc nL own ret rm) {u v : Int32} (hv : ¬ v = 0) (d : decode cc pc = .ok (.idiv, 1)) (k : G x w nL Qf o M lv (pc + 1) (.int (u / v) :: st)) : G x w nL Qf o M lv pc (.int v :: .int u :: st) := fun r M' ho H locs ls hP hS h => lv_idiv C.1 C.2.1 d hv (k r M' ho H locs ls hP hS h)
theorem gz_iremc (C : Ok x w cc nL own ret rm) {u v : Int32} (hv : ¬ v = 0) (d : decode cc pc = .ok (.irem, 1)) (k : G x w nL Qf o M lv (pc + 1) (.int (u - u / v * v) :: st)) : G x w nL Qf o M lv pc (.int v :: .int u :: st) := fun r M' ho H locs ls hP hS h => lv_irem C.1 C.2.1 d hv (k r M' ho H locs ls hP hS h)
theorem gz_ldivc (C : Ok x w cc nL own ret rm) {u v : Int64} (hv : ¬ v = 0) (d : decode cc pc = .ok (.ldiv, 1)) (k : G x w nL Qf o M lv (pc + 1) (.long (u / v) :: st)) : G x w nL Qf o M lv pc (.long v :: .long u :: st) := fun r M' ho H locs ls hP hS h => lv_ldiv C.1 C.2.1 d hv (k r M' ho H locs ls hP hS h)
theorem gz_lremc (C : Ok x w cc nL own ret rm) {u v : Int64} (hv : ¬ v = 0) (d : decode cc pc = .ok (.lrem, 1)) (k : G x w nL Qf o M lv (pc + 1) (.long (u - u / v * v) :: st)) : G x w nL Qf o M lv pc (.long v :: .long u :: st) := fun r M' ho H locs ls hP hS h => lv_lrem C.1 C.2.1 d hv (k r M' ho H locs ls hP hS h)
theorem gz_nzI {v : Int32} (k : ¬ v = 0 → G x w nL Qf o M lv pc st) : G x w nL Qf (nzI v o) M lv pc st := by
  unfold nzI; by_cases q : v = 0
  · rw [if_pos q]; exact gz_none
  · rw [if_neg q]; exact k q
theorem gz_nzJ {v : Int64} (k : ¬ v = 0 → G x w nL Qf o M lv pc st) : G x w nL Qf (nzJ v o) M lv pc st := by
  unfold nzJ; by_cases q : v = 0
  · rw [if_pos q]; exact gz_none
  · rw [if_neg q]; exact k q
theorem gz_zb {v : Int32} (k : v = 0 ∨ v = 1 → G x w nL Qf o M lv pc st) : G x w nL Qf (zb v o) M lv pc st := by
  unfold zb; by_cases q : v = 0 ∨ v = 1
  · rw [if_pos q]; exact k q
  · rw [if_neg q]; exact gz_none
-- branches: the spec's if is over =, < alone; the first branch is where it holds
theorem gz_goto (C : Ok x w cc nL own ret rm) {off : Int} (tgt : Nat) (d : decode cc pc = .ok (.goto off, 3)) (ht : (pc : Int) + off = (tgt : Int)) (k : G x w nL Qf o M lv tgt st) : G x w nL Qf o M lv pc st := fun r M' ho H locs ls hP hS h => lv_goto C.1 C.2.1 d ht (k r M' ho H locs ls hP hS h)
theorem gz_ifeq (C : Ok x w cc nL own ret rm) {u : Int32} {off : Int} (tgt : Nat) (d : decode cc pc = .ok (.ifCond .eq off, 3)) (ht : (pc : Int) + off = (tgt : Int)) (ka : G x w nL Qf a M lv tgt st) (kb : G x w nL Qf b M lv (pc + 3) st) : G x w nL Qf (if u = 0 then a else b) M lv pc (.int u :: st) := gz_if (fun q r M' ho H locs ls hP hS h => lv_if_eq C.1 C.2.1 d ht (fun _ => ka r M' ho H locs ls hP hS h) (fun q' => absurd q q')) (fun q r M' ho H locs ls hP hS h => lv_if_eq C.1 C.2.1 d ht (fun q' => absurd q' q) (fun _ => kb r M' ho H locs ls hP hS h))
theorem gz_ifne (C : Ok x w cc nL own ret rm) {u : Int32} {off : Int} (tgt : Nat) (d : decode cc pc = .ok (.ifCond .ne off, 3)) (ht : (pc : Int) + off = (tgt : Int)) (ka : G x w nL Qf a M lv (pc + 3) st) (kb : G x w nL Qf b M lv tgt st) : G x w nL Qf (if u = 0 then a else b) M lv pc (.int u :: st) := gz_if (fun q r M' ho H locs ls hP hS h => lv_if_ne C.1 C.2.1 d ht (fun q' => absurd q q') (fun _ => ka r M' ho H locs ls hP hS h)) (fun q r M' ho H locs ls hP hS h => lv_if_ne C.1 C.2.1 d ht (fun _ => kb r M' ho H locs ls hP hS h) (fun q' => absurd q' q))
theorem gz_iflt (C : Ok x w cc nL own ret rm) {u : Int32} {off : Int} (tgt : Nat) (d : decode cc pc = .ok (.ifCond .lt off, 3)) (ht : (pc : Int) + off = (tgt : Int)) (ka : G x w nL Qf a M lv tgt st) (kb : G x w nL Qf b M lv (pc + 3) st) : G x w nL Qf (if u < 0 then a else b) M lv pc (.int u :: st) := gz_if (fun q r M' ho H locs ls hP hS h => lv_if_lt C.1 C.2.1 d ht (fun _ => ka r M' ho H locs ls hP hS h) (fun q' => absurd q q')) (fun q r M' ho H locs ls hP hS h => lv_if_lt C.1 C.2.1 d ht (fun q' => absurd q' q) (fun _ => kb r M' ho H locs ls hP hS h))
theorem gz_ifge (C : Ok x w cc nL own ret rm) {u : Int32} {off : Int} (tgt : Nat) (d : decode cc pc = .ok (.ifCond .ge off, 3)) (ht : (pc : Int) + off = (tgt : Int)) (ka : G x w nL Qf a M lv (pc + 3) st) (kb : G x w nL Qf b M lv tgt st) : G x w nL Qf (if u < 0 then a else b) M lv pc (.int u :: st) := gz_if (fun q r M' ho H locs ls hP hS h => lv_if_ge C.1 C.2.1 d ht (fun q' => absurd q (Int32.not_lt.mpr q')) (fun _ => ka r M' ho H locs ls hP hS h)) (fun q r M' ho H locs ls hP hS h => lv_if_ge C.1 C.2.1 d ht (fun _ => kb r M' ho H locs ls hP hS h) (fun q' => absurd (Int32.not_lt.mp q) q'))
theorem gz_ifgt (C : Ok x w cc nL own ret rm) {u : Int32} {off : Int} (tgt : Nat) (d : decode cc pc = .ok (.ifCond .gt off, 3)) (ht : (pc : Int) + off = (tgt : Int)) (ka : G x w nL Qf a M lv tgt st) (kb : G x w nL Qf b M lv (pc + 3) st) : G x w nL Qf (if 0 < u then a else b) M lv pc (.int u :: st) := gz_if (fun q r M' ho H locs ls hP hS h => lv_if_gt C.1 C.2.1 d ht (fun _ => ka r M' ho H locs ls hP hS h) (fun q' => absurd q q')) (fun q r M' ho H locs ls hP hS h => lv_if_gt C.1 C.2.1 d ht (fun q' => absurd q' q) (fun _ => kb r M' ho H locs ls hP hS h))
theorem gz_ifle (C : Ok x w cc nL own ret rm) {u : Int32} {off : Int} (tgt : Nat) (d : decode cc pc = .ok (.ifCond .le off, 3)) (ht : (pc : Int) + off = (tgt : Int)) (ka : G x w nL Qf a M lv (pc + 3) st) (kb : G x w nL Qf b M lv tgt st) : G x w nL Qf (if 0 < u then a else b) M lv pc (.int u :: st) := gz_if (fun q r M' ho H locs ls hP hS h => lv_if_le C.1 C.2.1 d ht (fun q' => absurd q (Int32.not_lt.mpr q')) (fun _ => ka r M' ho H locs ls hP hS h)) (fun q r M' ho H locs ls hP hS h => lv_if_le C.1 C.2.1 d ht (fun _ => kb r M' ho H locs ls hP hS h) (fun q' => absurd (Int32.not_lt.mp q) q'))
theorem gz_icmpeq (C : Ok x w cc nL own ret rm) {u v : Int32} {off : Int} (tgt : Nat) (d : decode cc pc = .ok (.if_icmp .eq off, 3)) (ht : (pc : Int) + off = (tgt : Int)) (ka : G x w nL Qf a M lv tgt st) (kb : G x w nL Qf b M lv (pc + 3) st) : G x w nL Qf (if u = v then a else b) M lv pc (.int v :: .int u :: st) := gz_if (fun q r M' ho H locs ls hP hS h => lv_icmp_eq C.1 C.2.1 d ht (fun _ => ka r M' ho H locs ls hP hS h) (fun q' => absurd q q')) (fun q r M' ho H locs ls hP hS h => lv_icmp_eq C.1 C.2.1 d ht (fun q' => absurd q' q) (fun _ => kb r M' ho H locs ls hP hS h))
theorem gz_icmpne (C : Ok x w cc nL own ret rm) {u v : Int32} {off : Int} (tgt : Nat) (d : decode cc pc = .ok (.if_icmp .ne off, 3)) (ht : (pc : Int) + off = (tgt : Int)) (ka : G x w nL Qf a M lv (pc + 3) st) (kb : G x w nL Qf b M lv tgt st) : G x w nL Qf (if u = v then a else b) M lv pc (.int v :: .int u :: st) := gz_if (fun q r M' ho H locs ls hP hS h => lv_icmp_ne C.1 C.2.1 d ht (fun q' => absurd q q') (fun _ => ka r M' ho H locs ls hP hS h)) (fun q r M' ho H locs ls hP hS h => lv_icmp_ne C.1 C.2.1 d ht (fun _ => kb r M' ho H locs ls hP hS h) (fun q' => absurd q' q))
theorem gz_icmplt (C : Ok x w cc nL own ret rm) {u v : Int32} {off : Int} (tgt : Nat) (d : decode cc pc = .ok (.if_icmp .lt off, 3)) (ht : (pc : Int) + off = (tgt : Int)) (ka : G x w nL Qf a M lv tgt st) (kb : G x w nL Qf b M lv (pc + 3) st) : G x w nL Qf (if u < v then a else b) M lv pc (.int v :: .int u :: st) := gz_if (fun q r M' ho H locs ls hP hS h => lv_icmp_lt C.1 C.2.1 d ht (fun _ => ka r M' ho H locs ls hP hS h) (fun q' => absurd q q')) (fun q r M' ho H locs ls hP hS h => lv_icmp_lt C.1 C.2.1 d ht (fun q' => absurd q' q) (fun _ => kb r M' ho H locs ls hP hS h))
theorem gz_icmpge (C : Ok x w cc nL own ret rm) {u v : Int32} {off : Int} (tgt : Nat) (d : decode cc pc = .ok (.if_icmp .ge off, 3)) (ht : (pc : Int) + off = (tgt : Int)) (ka : G x w nL Qf a M lv (pc + 3) st) (kb : G x w nL Qf b M lv tgt st) : G x w nL Qf (if u < v then a else b) M lv pc (.int v :: .int u :: st) := gz_if (fun q r M' ho H locs ls hP hS h => lv_icmp_ge C.1 C.2.1 d ht (fun q' => absurd q (Int32.not_lt.mpr q')) (fun _ => ka r M' ho H locs ls hP hS h)) (fun q r M' ho H locs ls hP hS h => lv_icmp_ge C.1 C.2.1 d ht (fun _ => kb r M' ho H locs ls hP hS h) (fun q' => absurd (Int32.not_lt.mp q) q'))
theorem gz_icmpgt (C : Ok x w cc nL own ret rm) {u v : Int32} {off : Int} (tgt : Nat) (d : decode cc pc = .ok (.if_icmp .gt off, 3)) (ht : (pc : Int) + off = (tgt : Int)) (ka : G x w nL Qf a M lv tgt st) (kb : G x w nL Qf b M lv (pc + 3) st) : G x w nL Qf (if v < u then a else b) M lv pc (.int v :: .int u :: st) := gz_if (fun q r M' ho H locs ls hP hS h => lv_icmp_gt C.1 C.2.1 d ht (fun _ => ka r M' ho H locs ls hP hS h) (fun q' => absurd q q')) (fun q r M' ho H locs ls hP hS h => lv_icmp_gt C.1 C.2.1 d ht (fun q' => absurd q' q) (fun _ => kb r M' ho H locs ls hP hS h))
theorem gz_icmple (C : Ok x w cc nL own ret rm) {u v : Int32} {off : Int} (tgt : Nat) (d : decode cc pc = .ok (.if_icmp .le off, 3)) (ht : (pc : Int) + off = (tgt : Int)) (ka : G x w nL Qf a M lv (pc + 3) st) (kb : G x w nL Qf b M lv tgt st) : G x w nL Qf (if v < u then a else b) M lv pc (.int v :: .int u :: st) := gz_if (fun q r M' ho H locs ls hP hS h => lv_icmp_le C.1 C.2.1 d ht (fun q' => absurd q (Int32.not_lt.mpr q')) (fun _ => ka r M' ho H locs ls hP hS h)) (fun q r M' ho H locs ls hP hS h => lv_icmp_le C.1 C.2.1 d ht (fun _ => kb r M' ho H locs ls hP hS h) (fun q' => absurd (Int32.not_lt.mp q) q'))
/-- lcmp: the row behind it (an if) takes one of three ways -/
theorem gz_lcmp (C : Ok x w cc nL own ret rm) {u v : Int64} (d : decode cc pc = .ok (.lcmp, 1)) (k : G x w nL Qf o M lv (pc + 1) (.int (lg_cmp u v) :: st)) : G x w nL Qf o M lv pc (.long v :: .long u :: st) := fun r M' ho H locs ls hP hS h => W.lcmp C.1 C.2.1 d (k r M' ho H locs ls hP hS h)
theorem gz_cnd {c c' : Prop} [Decidable c] [Decidable c'] (h : c ↔ c') (k : G x w nL Qf (if c' then a else b) M lv pc st) : G x w nL Qf (if c then a else b) M lv pc st := by
  by_cases q : c
  · rw [if_pos q]; rwa [if_pos (h.mp q)] at k
  · rw [if_neg q]; rwa [if_neg (fun z => q (h.mpr z))] at k
theorem lc_lt (u v : Int64) : u < v ↔ lg_cmp u v < 0 := by
  unfold lg_cmp
  simp only [gt_iff_lt, Int64.lt_iff_toInt_lt, ← Int64.toInt_inj]
  repeat' split
  all_goals first
    | (constructor <;> intro h <;> first | omega | (exact absurd h (by decide)) | decide)
theorem lc_gt (u v : Int64) : v < u ↔ 0 < lg_cmp u v := by
  unfold lg_cmp
  simp only [gt_iff_lt, Int64.lt_iff_toInt_lt, ← Int64.toInt_inj]
  repeat' split
  all_goals first
    | (constructor <;> intro h <;> first | omega | (exact absurd h (by decide)) | decide)
theorem lc_eq (u v : Int64) : u = v ↔ lg_cmp u v = 0 := by
  unfold lg_cmp
  simp only [gt_iff_lt, Int64.lt_iff_toInt_lt, ← Int64.toInt_inj]
  repeat' split
  all_goals first
    | (constructor <;> intro h <;> first | omega | (exact absurd h (by decide)) | decide)
-- switches
theorem gz_tabOut (C : Ok x w cc nL own ret rm) {df lo hi : Int} {offs : Array Int} {len : Nat} {u : Int32} (tgt : Nat) (d : decode cc pc = .ok (.tableswitch df lo hi offs, len)) (hu : u.toInt < lo ∨ hi < u.toInt) (ht : (pc : Int) + df = (tgt : Int)) (k : G x w nL Qf o M lv tgt st) : G x w nL Qf o M lv pc (.int u :: st) := fun r M' ho H locs ls hP hS h => lv_tableOut C.1 C.2.1 d hu ht (k r M' ho H locs ls hP hS h)
theorem gz_tabIn (C : Ok x w cc nL own ret rm) {df lo hi : Int} {offs : Array Int} {len : Nat} {u : Int32} (v : Int32) {off : Int} (tgt : Nat) (d : decode cc pc = .ok (.tableswitch df lo hi offs, len)) (hu : u = v) (h1 : ¬ v.toInt < lo) (h2 : ¬ hi < v.toInt) (ho : offs[(v.toInt - lo).toNat]? = some off) (ht : (pc : Int) + off = (tgt : Int)) (k : G x w nL Qf o M lv tgt st) : G x w nL Qf o M lv pc (.int u :: st) := by
  subst hu
  exact fun r M' hr H locs ls hP hS h => lv_tableIn C.1 C.2.1 d h1 h2 ho ht (k r M' hr H locs ls hP hS h)
theorem gz_look (C : Ok x w cc nL own ret rm) {df : Int} {ps : Array (Int × Int)} {len : Nat} {u : Int32} {off : Int} (tgt : Nat) (d : decode cc pc = .ok (.lookupswitch df ps, len)) (hp : (ps.toList.zip (ps.toList.drop 1)).all (fun (a, next) => a.1 < next.1) = true) (ho : Op.lookupswitch.offset ps.toList df u.toInt = off) (ht : (pc : Int) + off = (tgt : Int)) (k : G x w nL Qf o M lv tgt st) : G x w nL Qf o M lv pc (.int u :: st) := fun r M' hr H locs ls hP hS h => lv_lookup C.1 C.2.1 d hp ho ht (k r M' hr H locs ls hP hS h)
-- fields
theorem cel_o {w : Wd} {M : Mm} {c : Nat} (h : kd c < 12) : cel w M c = .inr (kd c, (List.range (nf (kd c))).map (fval w M c)) := by
  have h1 : ¬ kd c = 12 := by omega
  have h2 : ¬ kd c = 13 := by omega
  simp only [cel, h1, h2, if_false]
theorem cel_i {w : Wd} {M : Mm} {c : Nat} (h : kd c = 12) : cel w M c = .inl (w.2.2.1, ln c, .inl (M.1 c)) := by simp only [cel, h, if_true]
theorem cel_j {w : Wd} {M : Mm} {c : Nat} (h : kd c = 13) : cel w M c = .inl (w.2.2.2, ln c, .inr (.inl (M.2 c))) := by simp only [cel, h]; simp only [show ¬ (13 = 12) by decide, if_false, if_true]
theorem fld {w : Wd} {M : Mm} {c k : Nat} (h : k < nf (kd c)) : ((List.range (nf (kd c))).map (fval w M c))[k]? = some (fval w M c k) := by rw [List.getElem?_map, List.getElem?_range h]; rfl
/-- what the tables say of the class of a kind -/
def Kn (ci : Nat) (C : String) (T : u_T) (N : Nat) (ty : Nat → FieldType) : Prop := vwCl[ci]? = some (C, T, N) ∧ (∀ q ∈ u_ws C T N, q ∈ zA) ∧ (∀ k, k < N → parseFieldDescriptor (T k).2.2.1 = some (ty k)) ∧ (∀ a, a < N → ∀ b, b < N → a ≠ b → (T a).2.1 ≠ (T b).2.1) ∧ nf ci = N ∧ ci < 12
theorem gz_get (C : Ok x w cc nL own ret rm) {Cn : String} {T : u_T} {N ci : Nat} {ty : Nat → FieldType} {n : Nat} (c k : Nat) (v : Value) (kn : Kn ci Cn T N ty) (hc : kd c = ci) (hl : Cond.fieldLink own n (T k).1 (T k).2.1 (T k).2.2.1 ∈ zA) (hk : k < N) (d : decode cc pc = .ok (.getfield n, 3)) (hv : fval w M c k = v) (kk : G x w nL Qf o M lv (pc + 3) (v :: st)) : G x w nL Qf o M lv pc (.ref (w.1 c) :: st) := by
  intro r M' ho H locs ls hP hS h
  subst hc; subst hv
  obtain ⟨k1, k2, k3, k4, k5, k6⟩ := kn
  exact va_get C.1 C.2.1 C.2.2.2.2.1 k2 C.2.2.2.1 C.2.2.2.2.2.1 hP c ((gw_at w M (kd_lt (by omega))).trans (by rw [cel_o k6])) k1 k hk (C.2.2.2.2.1 _ hl) (fun _ h9 => h9) (fld (by rw [k5]; exact hk)) d (kk r M' ho H locs ls hP hS h)
theorem fv_I {w : Wd} {M : Mm} {c k : Nat} (h : ft (kd c) k = 0) : fval w M c k = .int (gI M c k) := by simp [fval, h, gI]
theorem fv_J {w : Wd} {M : Mm} {c k : Nat} (h : ft (kd c) k = 1) : fval w M c k = .long (gJ M c k) := by simp [fval, h, gJ]
theorem fv_R {w : Wd} {M : Mm} {c k c' : Nat} (h : ft (kd c) k = 2) (h2 : rt c k = c') : fval w M c k = .ref (w.1 c') := by simp [fval, h, h2]
theorem gz_putI (C : Ok x w cc nL own ret rm) {Cn : String} {T : u_T} {N ci : Nat} {ty : Nat → FieldType} {n : Nat} {f : Mm → Option (α × Mm)} (c k : Nat) {v : Int32} (kn : Kn ci Cn T N ty) (hc : kd c = ci) (hl : Cond.fieldLink own n (T k).1 (T k).2.1 (T k).2.2.1 ∈ zA) (hk : k < N) (hft : ft (kd c) k = 0) (hfin : (T k).2.2.2 = false) {tv : FieldType} (htv : parseFieldDescriptor (T k).2.2.1 = some tv) (hn : narrow tv (.int v) = .int v) (hfit : fits tv (.int v) = true) (d : decode cc pc = .ok (.putfield n, 3)) (kk : ∀ M1, G x w nL Qf (f M1) M1 lv (pc + 3) st) : G x w nL Qf (bl (sI M c k v) f) M lv pc (.int v :: .ref (w.1 c) :: st) := by
  intro r M' ho H locs ls hP hS h
  subst hc
  obtain ⟨k1, k2, k3, k4, k5, k6⟩ := kn
  refine va_put C.1 C.2.1 C.2.2.2.2.1 k2 ty k3 k4 C.2.2.2.1 C.2.2.2.2.2.1 hP (gw_D C.2.2.2.2.2.2.1 M) hS c ((gw_at w M (kd_lt (by omega))).trans (by rw [cel_o k6])) k1 k hk (C.2.2.2.2.1 _ hl) (fun _ h9 => h9) hfin htv hn hfit (by simp [k5, hk]) d (fun H1 locs1 hP1 _ hS1 => ?_)
  rw [gw_putI k6 hft] at hP1
  exact kk _ r M' ho H1 locs1 ls hP1 hS1 h
theorem gz_putJ (C : Ok x w cc nL own ret rm) {Cn : String} {T : u_T} {N ci : Nat} {ty : Nat → FieldType} {n : Nat} {f : Mm → Option (α × Mm)} (c k : Nat) {v : Int64} (kn : Kn ci Cn T N ty) (hc : kd c = ci) (hl : Cond.fieldLink own n (T k).1 (T k).2.1 (T k).2.2.1 ∈ zA) (hk : k < N) (hft : ft (kd c) k = 1) (hfin : (T k).2.2.2 = false) {tv : FieldType} (htv : parseFieldDescriptor (T k).2.2.1 = some tv) (hn : narrow tv (.long v) = .long v) (hfit : fits tv (.long v) = true) (d : decode cc pc = .ok (.putfield n, 3)) (kk : ∀ M1, G x w nL Qf (f M1) M1 lv (pc + 3) st) : G x w nL Qf (bl (sJ M c k v) f) M lv pc (.long v :: .ref (w.1 c) :: st) := by
  intro r M' ho H locs ls hP hS h
  subst hc
  obtain ⟨k1, k2, k3, k4, k5, k6⟩ := kn
  refine va_put C.1 C.2.1 C.2.2.2.2.1 k2 ty k3 k4 C.2.2.2.1 C.2.2.2.2.2.1 hP (gw_D C.2.2.2.2.2.2.1 M) hS c ((gw_at w M (kd_lt (by omega))).trans (by rw [cel_o k6])) k1 k hk (C.2.2.2.2.1 _ hl) (fun _ h9 => h9) hfin htv hn hfit (by simp [k5, hk]) d (fun H1 locs1 hP1 _ hS1 => ?_)
  rw [gw_putJ k6 hft] at hP1
  exact kk _ r M' ho H1 locs1 ls hP1 hS1 h
theorem nrw_z {v : Int32} (h : v = 0 ∨ v = 1) : narrow .boolean (.int v) = .int v := by rcases h with rfl | rfl <;> decide
-- rows (arrays)
theorem in_of {i : Int32} {n : Nat} (h : 0 ≤ i.toInt ∧ i.toInt < n) : vp_in i n := vp_in_iff.mpr h
theorem gz_iald (C : Ok x w cc nL own ret rm) {f : Int32 → Option (α × Mm)} {i : Int32} {c : Nat} (hc : kd c = 12) (d : decode cc pc = .ok (.iaload, 1)) (kk : ∀ y, G x w nL Qf (f y) M lv (pc + 1) (.int y :: st)) : G x w nL Qf (rdI M c i f) M lv pc (.int i :: .ref (w.1 c) :: st) := by
  unfold rdI
  refine gz_if (fun q r M' ho H locs ls hP hS h => ?_) (fun _ => gz_none)
  exact va_iald (f := M.1 c) C.1 C.2.1 C.2.2.2.2.2.1 hP c 0 ((gw_at w M (kd_lt (by omega))).trans (by rw [cel_i hc])) rfl (in_of q) d (kk _ r M' ho H locs ls hP hS h)
theorem gz_lald (C : Ok x w cc nL own ret rm) {f : Int64 → Option (α × Mm)} {i : Int32} {c : Nat} (hc : kd c = 13) (d : decode cc pc = .ok (.laload, 1)) (kk : ∀ y, G x w nL Qf (f y) M lv (pc + 1) (.long y :: st)) : G x w nL Qf (rdJ M c i f) M lv pc (.int i :: .ref (w.1 c) :: st) := by
  unfold rdJ
  refine gz_if (fun q r M' ho H locs ls hP hS h => ?_) (fun _ => gz_none)
  exact va_lald (f := M.2 c) C.1 C.2.1 C.2.2.2.2.2.1 hP c 1 ((gw_at w M (kd_lt (by omega))).trans (by rw [cel_j hc])) rfl (in_of q) d (kk _ r M' ho H locs ls hP hS h)
theorem gz_iast (C : Ok x w cc nL own ret rm) {f : Mm → Option (α × Mm)} {i v : Int32} {c : Nat} (hc : kd c = 12) (d : decode cc pc = .ok (.iastore, 1)) (kk : ∀ M1, G x w nL Qf (f M1) M1 lv (pc + 1) st) : G x w nL Qf (wrI M c i v f) M lv pc (.int v :: .int i :: .ref (w.1 c) :: st) := by
  unfold wrI
  refine gz_if (fun q r M' ho H locs ls hP hS h => ?_) (fun _ => gz_none)
  refine va_iast C.1 C.2.1 C.2.2.2.2.2.1 hP (gw_D C.2.2.2.2.2.2.1 M) hS c 0 ((gw_at w M (kd_lt (by omega))).trans (by rw [cel_i hc])) rfl (in_of q) d (fun H1 locs1 hP1 _ hS1 => ?_)
  rw [gw_arI hc] at hP1
  exact kk _ r M' ho H1 locs1 ls hP1 hS1 h
theorem gz_last (C : Ok x w cc nL own ret rm) {f : Mm → Option (α × Mm)} {i : Int32} {v : Int64} {c : Nat} (hc : kd c = 13) (d : decode cc pc = .ok (.lastore, 1)) (kk : ∀ M1, G x w nL Qf (f M1) M1 lv (pc + 1) st) : G x w nL Qf (wrJ M c i v f) M lv pc (.long v :: .int i :: .ref (w.1 c) :: st) := by
  unfold wrJ
  refine gz_if (fun q r M' ho H locs ls hP hS h => ?_) (fun _ => gz_none)
  refine va_last C.1 C.2.1 C.2.2.2.2.2.1 hP (gw_D C.2.2.2.2.2.2.1 M) hS c 1 ((gw_at w M (kd_lt (by omega))).trans (by rw [cel_j hc])) rfl (in_of q) d (fun H1 locs1 hP1 _ hS1 => ?_)
  rw [gw_arJ hc] at hP1
  exact kk _ r M' ho H1 locs1 ls hP1 hS1 h
theorem gz_alenI (C : Ok x w cc nL own ret rm) {c : Nat} {v : Int32} (hc : kd c = 12) (hv : nI (ln c) = v) (d : decode cc pc = .ok (.arraylength, 1)) (kk : G x w nL Qf o M lv (pc + 1) (.int v :: st)) : G x w nL Qf o M lv pc (.ref (w.1 c) :: st) := fun r M' ho H locs ls hP hS h => va_alen (x := (ln c, .inl (M.1 c))) C.1 C.2.1 C.2.2.2.2.2.1 hP c 0 ((gw_at w M (kd_lt (by omega))).trans (by rw [cel_i hc])) rfl hv d (kk r M' ho H locs ls hP hS h)
theorem gz_alenJ (C : Ok x w cc nL own ret rm) {c : Nat} {v : Int32} (hc : kd c = 13) (hv : nI (ln c) = v) (d : decode cc pc = .ok (.arraylength, 1)) (kk : G x w nL Qf o M lv (pc + 1) (.int v :: st)) : G x w nL Qf o M lv pc (.ref (w.1 c) :: st) := fun r M' ho H locs ls hP hS h => va_alen (x := (ln c, .inr (.inl (M.2 c)))) C.1 C.2.1 C.2.2.2.2.2.1 hP c 1 ((gw_at w M (kd_lt (by omega))).trans (by rw [cel_j hc])) rfl hv d (kk r M' ho H locs ls hP hS h)
end GR
end
section
/-! RETURNS and CALLS of the judgement G -/
section GC
variable {α β γ : Type} {x : Cx} {w : Wd} {cc : ByteArray} {nL : Nat} {own : String} {ret : Option FieldType} {rm : Room} {Qf : α → Mm → Array Value → State → Outcome → State → Prop} {o : Option (α × Mm)} {M : Mm} {lv : List (Nat × Value)} {pc : Nat} {st : List Value}
theorem gz_iret (C : Ok x w cc nL own (some .int) rm) {v : Int32} (d : decode cc pc = .ok (.ireturn, 1)) : G x w nL (qI w) (some (v, M)) M lv pc [.int v] := by
  intro r M' ho H locs ls hP hS h
  cases ho
  exact W.iret C.1 C.2.1 C.2.2.2.2.2.2.2.2.1 (fun t ht hW => ⟨⟨v, (), rfl, rfl, by show va_P _ _ _ t.heap; rw [ht]; exact hP⟩, hS.F ht⟩) hS.2.2 d C.2.2.2.2.2.2.2.2.2.1
theorem gz_zret (C : Ok x w cc nL own (some .boolean) rm) {v : Int32} (hv : v = 0 ∨ v = 1) (d : decode cc pc = .ok (.ireturn, 1)) : G x w nL (qI w) (some (v, M)) M lv pc [.int v] := by
  intro r M' ho H locs ls hP hS h
  cases ho
  exact W.zret C.1 C.2.1 C.2.2.2.2.2.2.2.2.1 (nrw_z hv) (fun t ht hW => ⟨⟨v, (), rfl, rfl, by show va_P _ _ _ t.heap; rw [ht]; exact hP⟩, hS.F ht⟩) hS.2.2 d C.2.2.2.2.2.2.2.2.2.1
theorem gz_lret (C : Ok x w cc nL own (some .long) rm) {v : Int64} (d : decode cc pc = .ok (.lreturn, 1)) : G x w nL (qJ w) (some (v, M)) M lv pc [.long v] := by
  intro r M' ho H locs ls hP hS h
  cases ho
  exact W.lret C.1 C.2.1 C.2.2.2.2.2.2.2.2.1 (fun t ht hW => ⟨⟨v, (), rfl, rfl, by show va_P _ _ _ t.heap; rw [ht]; exact hP⟩, hS.F ht⟩) hS.2.2 d C.2.2.2.2.2.2.2.2.2.1
theorem gz_vret (C : Ok x w cc nL own none rm) (d : decode cc pc = .ok (.return_, 1)) : G x w nL (qV w) (some ((), M)) M lv pc [] := by
  intro r M' ho H locs ls hP hS h
  cases ho
  exact W.vret C.1 C.2.1 C.2.2.2.2.2.2.2.2.1 (fun t ht hW => ⟨⟨(), rfl, trivial, by show va_P _ _ _ t.heap; rw [ht]; exact hP⟩, hS.F ht⟩) hS.2.2 d C.2.2.2.2.2.2.2.2.2.1
/-- what the tables say of a method that is called -/
def Cal (y : MethodName) (cc : ByteArray) (maxL : Nat) (ret : Option FieldType) (n : Nat) : Prop := Cond.code y cc maxL ret ∈ zA ∧ Cond.initialized y.cls ∈ zA ∧ y.cls ≠ "java/lang/invoke/MethodHandle" ∧ y.cls ≠ "java/lang/invoke/VarHandle" ∧ (parseMethodDescriptor y.desc).map (fun d => d.parameters.length) = some n
def CalV (y : MethodName) (cc : ByteArray) (maxL : Nat) (ret : Option FieldType) (n : Nat) : Prop := Cal y cc maxL ret n ∧ Cond.instanceMethod y ∈ zA ∧ Cond.selects y.cls y y ∈ zA
def CalS (y : MethodName) (cc : ByteArray) (maxL : Nat) (ret : Option FieldType) (n : Nat) : Prop := Cal y cc maxL ret n ∧ Cond.static y ∈ zA
/-- the link of a call: in the tables, or a nest mate's -/
def Lnk (own : String) (n : Nat) (y : MethodName) : Prop := Cond.methodLink own n y ∈ zA ∨ ∃ h : String, (own, n, y, h) ∈ nwL
theorem callB_z {y : MethodName} {cy : ByteArray} {mL n k : Nat} {ry : Option FieldType} {ro : Room} (C : Ok x w cc nL own ret rm) (hc : Cal y cy mL ry n) (hl : Cond.methodLink own k y ∈ zA) (ho : ro.cells = 0 ∧ ro.slots = 0) (hR : ro.frames + 1 ≤ rm.frames ∧ 8 + (mL + 11) + ro.locals ≤ rm.locals) : CallB x.2.2.2.1 (cS x) (cAr x) own k y cy mL ry (.code y cy mL ry :: zA) ro 0 0 n := by
  obtain ⟨h1, h2, h3⟩ := hc
  have hts : ∀ q ∈ (.code y cy mL ry :: zA), q.before (cAr x) (cS x) = true := fun q hq => C.2.2.2.2.1 q ((List.mem_cons.mp hq).elim (fun e => e ▸ h1) id)
  exact callB_of n hts (zA_good h1) rfl ho.1 ho.2 (C.2.2.2.2.1 _ h2) (C.2.2.2.2.1 _ hl) h3 (by rw [C.2.2.2.2.2.2.2.2.2.2.1]; exact hR)
theorem callN_z {y : MethodName} {cy : ByteArray} {mL n k : Nat} {ry : Option FieldType} {ro : Room} {host : String} (C : Ok x w cc nL own ret rm) (hc : Cal y cy mL ry n) (hl : (own, k, y, host) ∈ nwL) (ho : ro.cells = 0 ∧ ro.slots = 0) (hR : ro.frames + 1 ≤ rm.frames ∧ 8 + (mL + 11) + ro.locals ≤ rm.locals) : va_CN x.2.2.2.1 (cS x) (cAr x) own k y host cy mL ry (.code y cy mL ry :: zA) ro 0 0 n := by
  obtain ⟨h1, h2, h3⟩ := hc
  have hts : ∀ q ∈ (.code y cy mL ry :: zA), q.before (cAr x) (cS x) = true := fun q hq => C.2.2.2.2.1 q ((List.mem_cons.mp hq).elim (fun e => e ▸ h1) id)
  exact va_cnB n hts (zA_good h1) rfl ho.1 ho.2 (C.2.2.2.2.2.2.2.1 _ hl) (C.2.2.2.2.1 _ h2) h3 (by rw [C.2.2.2.2.2.2.2.2.2.2.1]; exact hR)
theorem blind_z {w : Wd} {M : Mm} {av : List Value} : FrameBlind (va_Pc av (PU w M)) := fun a U g mk q => by
  obtain ⟨q0, q1, q2, q3, q4⟩ := q
  exact ⟨q0, q1, va_K.moved (u := U) (U := U.calling g mk a) (Vm.Alike.refl U.vm) q2, q3, fun z hz => va_Nw.same rfl (show U.vm = (U.calling g mk a).vm from rfl) (q4 z hz)⟩
theorem pre_z {H : Heap} (C : Ok x w cc nL own ret rm) (hP : va_P w.2.1 vwCl (gw w M) H) (av : List Value) : ∀ U : State, U.heap = H → (cS x).WarmedH U.vm → va_Pc av (PU w M) av.toArray U := fun U hU hW => ⟨rfl, by rw [hU]; exact hP, va_K.moved hW.alike C.2.2.2.2.2.1, C.2.2.2.2.2.2.1, C.2.2.2.2.2.2.2.1.warm hW⟩
/-- a call has run: from the callee's contract -/
def Run (x : Cx) (H : Heap) (locs : List Loc) (g : JFrame) (rest : List Value) (Qa : State → Outcome → State → Prop) (free : Addr → Prop) : Prop := va_Run x.1 x.2.1 x.2.2.1 x.2.2.2.1 (cS x) (cM x) (cAr x) (cB x) x.2.2.2.2.2.2.2.2.1 x.2.2.2.2.2.2.2.2.2 H locs 0 0 0 0 g rest Qa free
theorem run_S {Qc : α → Mm → Array Value → State → Outcome → State → Prop} {y : MethodName} {cy : ByteArray} {mL k n : Nat} {ry : Option FieldType} {ro : Room} {As rest : List Value} {oy : Option (α × Mm)} {r : α} {M1 : Mm} {H : Heap} {locs : List Loc} {ls : Array Slot} (C : Ok x w cc nL own ret rm) (hM : CT x.2.1 y cy mL ry ro w Qc As oy M) (hr : oy = some (r, M1)) (cy1 : CalS y cy mL ry n) (hl : Lnk own k y) (hro : ro.cells = 0 ∧ ro.slots = 0) (hR : ro.frames + 1 ≤ rm.frames ∧ 8 + (mL + 11) + ro.locals ≤ rm.locals) (hn : As.length = n) (hst : st = As.reverse ++ rest) (hw8 : (rest.map fun v => v.category).sum ≤ 8) (d : decode cc pc = .ok (.invokestatic k, 3)) (hP : va_P w.2.1 vwCl (gw w M) H) (h : lv_has ls nL lv) :
    Run x H locs (F0 (cM x) pc ls st) rest (Qc r M1 As.toArray) (FA w) := by
  have hf : 0 + 0 ≤ x.2.2.2.1.cells ∧ 0 + 0 ≤ x.2.2.2.1.slots := ⟨Nat.zero_le _, Nat.zero_le _⟩
  rcases hl with hl | ⟨host, hl⟩
  · exact va_runS ⟨C.1, C.2.1, C.2.2.1, C.2.2.2.1, C.2.2.2.2.1⟩ (hM r M1 hr) ⟨callB_z C cy1.1 hl hro hR, C.2.2.2.2.1 _ cy1.2⟩ ⟨blind_z, pre_z C hP As⟩ rfl hn h.1 hst (lv_room hw8) d hf
  · exact va_runSN ⟨C.1, C.2.1, C.2.2.1, C.2.2.2.1, C.2.2.2.2.1⟩ (hM r M1 hr) ⟨callN_z C cy1.1 hl hro hR, C.2.2.2.2.1 _ cy1.2, trivial⟩ ⟨blind_z, pre_z C hP As⟩ rfl hn h.1 hst (lv_room hw8) d hf
theorem run_V {Qc : α → Mm → Array Value → State → Outcome → State → Prop} {y : MethodName} {cy : ByteArray} {mL k n : Nat} {ry : Option FieldType} {ro : Room} {As rest : List Value} {oy : Option (α × Mm)} {r : α} {M1 : Mm} {H : Heap} {locs : List Loc} {ls : Array Slot} {Cn : String} {T : u_T} {N ci : Nat} {ty : Nat → FieldType} (c : Nat) (kn : Kn ci Cn T N ty) (hc : kd c = ci) (hcn : y.cls = Cn) (C : Ok x w cc nL own ret rm) (hM : CT x.2.1 y cy mL ry ro w Qc (.ref (w.1 c) :: As) oy M) (hr : oy = some (r, M1)) (cy1 : CalV y cy mL ry n) (hl : Cond.methodLink own k y ∈ zA) (hro : ro.cells = 0 ∧ ro.slots = 0) (hR : ro.frames + 1 ≤ rm.frames ∧ 8 + (mL + 11) + ro.locals ≤ rm.locals) (hn : As.length = n) (hst : st = As.reverse ++ .ref (w.1 c) :: rest) (hw8 : (rest.map fun v => v.category).sum ≤ 8) (d : decode cc pc = .ok (.invokevirtual k, 3)) (hP : va_P w.2.1 vwCl (gw w M) H) (h : lv_has ls nL lv) :
    Run x H locs (F0 (cM x) pc ls st) rest (Qc r M1 (Value.ref (w.1 c) :: As).toArray) (FA w) := by
  subst hc; subst hcn
  obtain ⟨k1, k2, k3, k4, k5, k6⟩ := kn
  have h52 : c < 52 := kd_lt (by omega)
  have hg : (gw w M)[c]? = some (w.1 c, .inr (kd c, (List.range (nf (kd c))).map (fval w M c))) := (gw_at w M h52).trans (by rw [cel_o k6])
  exact va_runV ⟨C.1, C.2.1, C.2.2.1, C.2.2.2.1, C.2.2.2.2.1⟩ (hM r M1 hr) ⟨callB_z C cy1.1 hl hro hR, C.2.2.2.2.1 _ cy1.2.1, C.2.2.2.2.1 _ cy1.2.2⟩ ⟨blind_z, va_recv C.2.2.2.2.2.1 hP k1 hg, pre_z C hP _⟩ rfl hn h.1 hst (lv_room hw8) d ⟨Nat.zero_le _, Nat.zero_le _⟩
theorem gz_cI {As : List Value} {oy : Option (Int32 × Mm)} {f : Int32 → Mm → Option (α × Mm)} {rest : List Value} {av : Array Value} (k : ∀ (r : Int32) (M1 : Mm), oy = some (r, M1) → ∀ (H : Heap) (locs : List Loc) (ls : Array Slot), va_P w.2.1 vwCl (gw w M) H → lv_has ls nL lv → Run x H locs (F0 (cM x) pc ls st) rest (qI w r M1 av) (FA w)) (kk : ∀ r M1, G x w nL Qf (f r M1) M1 lv (pc + 3) (.int r :: rest)) : G x w nL Qf (bd oy f) M lv pc st := by
  intro r M' ho H locs ls hP hS h
  unfold bd at ho
  cases hq : oy with
  | none => rw [hq] at ho; cases ho
  | some q =>
    rw [hq] at ho
    exact va_calli (k q.1 q.2 hq H locs ls hP h) hS (fun _ _ z => z) (fun _ z => z) (fun r1 u t H1 locs1 ht hvm hp hB hz hk hS1 => by
      cases hp
      rw [ht] at hB
      exact kk q.1 q.2 r M' ho H1 locs1 ls hB hS1 h)
theorem gz_cJ {As : List Value} {oy : Option (Int64 × Mm)} {f : Int64 → Mm → Option (α × Mm)} {rest : List Value} {av : Array Value} (k : ∀ (r : Int64) (M1 : Mm), oy = some (r, M1) → ∀ (H : Heap) (locs : List Loc) (ls : Array Slot), va_P w.2.1 vwCl (gw w M) H → lv_has ls nL lv → Run x H locs (F0 (cM x) pc ls st) rest (qJ w r M1 av) (FA w)) (kk : ∀ r M1, G x w nL Qf (f r M1) M1 lv (pc + 3) (.long r :: rest)) : G x w nL Qf (bd oy f) M lv pc st := by
  intro r M' ho H locs ls hP hS h
  unfold bd at ho
  cases hq : oy with
  | none => rw [hq] at ho; cases ho
  | some q =>
    rw [hq] at ho
    exact va_calll (k q.1 q.2 hq H locs ls hP h) hS (fun _ _ z => z) (fun _ z => z) (fun r1 u t H1 locs1 ht hvm hp hB hz hk hS1 => by
      cases hp
      rw [ht] at hB
      exact kk q.1 q.2 r M' ho H1 locs1 ls hB hS1 h)
theorem gz_cV {As : List Value} {oy : Option (Unit × Mm)} {f : Unit → Mm → Option (α × Mm)} {rest : List Value} {av : Array Value} (k : ∀ (r : Unit) (M1 : Mm), oy = some (r, M1) → ∀ (H : Heap) (locs : List Loc) (ls : Array Slot), va_P w.2.1 vwCl (gw w M) H → lv_has ls nL lv → Run x H locs (F0 (cM x) pc ls st) rest (qV w r M1 av) (FA w)) (kk : ∀ r M1, G x w nL Qf (f r M1) M1 lv (pc + 3) rest) : G x w nL Qf (bd oy f) M lv pc st := by
  intro r M' ho H locs ls hP hS h
  unfold bd at ho
  cases hq : oy with
  | none => rw [hq] at ho; cases ho
  | some q =>
    rw [hq] at ho
    exact va_callv (k q.1 q.2 hq H locs ls hP h) hS (fun _ _ z => z) (fun _ z => z) (fun u t H1 locs1 ht hvm hp hB hz hk hS1 => by
      rw [ht] at hB
      exact kk q.1 q.2 r M' ho H1 locs1 ls hB hS1 h)
-- the six kinds of calls
theorem gz_callSI {y : MethodName} {cy : ByteArray} {mL k n : Nat} {ry : Option FieldType} {ro : Room} {oy : Option (Int32 × Mm)} {f : Int32 → Mm → Option (α × Mm)} (As rest : List Value) (C : Ok x w cc nL own ret rm) (hM : CT x.2.1 y cy mL ry ro w (qI w) As oy M) (cy1 : CalS y cy mL ry n) (hl : Lnk own k y) (hro : ro.cells = 0 ∧ ro.slots = 0) (hR : ro.frames + 1 ≤ rm.frames ∧ 8 + (mL + 11) + ro.locals ≤ rm.locals) (hn : As.length = n) (hst : st = As.reverse ++ rest) (hw8 : (rest.map fun v => v.category).sum ≤ 8) (d : decode cc pc = .ok (.invokestatic k, 3)) (kk : ∀ r M1, G x w nL Qf (f r M1) M1 lv (pc + 3) (.int r :: rest)) : G x w nL Qf (bd oy f) M lv pc st :=
  gz_cI (As := As) (fun r M1 hr H locs ls hP h => run_S C hM hr cy1 hl hro hR hn hst hw8 d hP h) kk
theorem gz_callSJ {y : MethodName} {cy : ByteArray} {mL k n : Nat} {ry : Option FieldType} {ro : Room} {oy : Option (Int64 × Mm)} {f : Int64 → Mm → Option (α × Mm)} (As rest : List Value) (C : Ok x w cc nL own ret rm) (hM : CT x.2.1 y cy mL ry ro w (qJ w) As oy M) (cy1 : CalS y cy mL ry n) (hl : Lnk own k y) (hro : ro.cells = 0 ∧ ro.slots = 0) (hR : ro.frames + 1 ≤ rm.frames ∧ 8 + (mL + 11) + ro.locals ≤ rm.locals) (hn : As.length = n) (hst : st = As.reverse ++ rest) (hw8 : (rest.map fun v => v.category).sum ≤ 8) (d : decode cc pc = .ok (.invokestatic k, 3)) (kk : ∀ r M1, G x w nL Qf (f r M1) M1 lv (pc + 3) (.long r :: rest)) : G x w nL Qf (bd oy f) M lv pc st :=
  gz_cJ (As := As) (fun r M1 hr H locs ls hP h => run_S C hM hr cy1 hl hro hR hn hst hw8 d hP h) kk
theorem gz_callSV {y : MethodName} {cy : ByteArray} {mL k n : Nat} {ry : Option FieldType} {ro : Room} {oy : Option (Unit × Mm)} {f : Unit → Mm → Option (α × Mm)} (As rest : List Value) (C : Ok x w cc nL own ret rm) (hM : CT x.2.1 y cy mL ry ro w (qV w) As oy M) (cy1 : CalS y cy mL ry n) (hl : Lnk own k y) (hro : ro.cells = 0 ∧ ro.slots = 0) (hR : ro.frames + 1 ≤ rm.frames ∧ 8 + (mL + 11) + ro.locals ≤ rm.locals) (hn : As.length = n) (hst : st = As.reverse ++ rest) (hw8 : (rest.map fun v => v.category).sum ≤ 8) (d : decode cc pc = .ok (.invokestatic k, 3)) (kk : ∀ r M1, G x w nL Qf (f r M1) M1 lv (pc + 3) rest) : G x w nL Qf (bd oy f) M lv pc st :=
  gz_cV (As := As) (fun r M1 hr H locs ls hP h => run_S C hM hr cy1 hl hro hR hn hst hw8 d hP h) kk
theorem gz_callVI {y : MethodName} {cy : ByteArray} {mL k n : Nat} {ry : Option FieldType} {ro : Room} {oy : Option (Int32 × Mm)} {f : Int32 → Mm → Option (α × Mm)} {Cn : String} {T : u_T} {N ci : Nat} {ty : Nat → FieldType} (c : Nat) (As rest : List Value) (C : Ok x w cc nL own ret rm) (kn : Kn ci Cn T N ty) (hc : kd c = ci) (hcn : y.cls = Cn) (hM : CT x.2.1 y cy mL ry ro w (qI w) (.ref (w.1 c) :: As) oy M) (cy1 : CalV y cy mL ry n) (hl : Cond.methodLink own k y ∈ zA) (hro : ro.cells = 0 ∧ ro.slots = 0) (hR : ro.frames + 1 ≤ rm.frames ∧ 8 + (mL + 11) + ro.locals ≤ rm.locals) (hn : As.length = n) (hst : st = As.reverse ++ .ref (w.1 c) :: rest) (hw8 : (rest.map fun v => v.category).sum ≤ 8) (d : decode cc pc = .ok (.invokevirtual k, 3)) (kk : ∀ r M1, G x w nL Qf (f r M1) M1 lv (pc + 3) (.int r :: rest)) : G x w nL Qf (bd oy f) M lv pc st :=
  gz_cI (As := As) (fun r M1 hr H locs ls hP h => run_V c kn hc hcn C hM hr cy1 hl hro hR hn hst hw8 d hP h) kk
theorem gz_callVJ {y : MethodName} {cy : ByteArray} {mL k n : Nat} {ry : Option FieldType} {ro : Room} {oy : Option (Int64 × Mm)} {f : Int64 → Mm → Option (α × Mm)} {Cn : String} {T : u_T} {N ci : Nat} {ty : Nat → FieldType} (c : Nat) (As rest : List Value) (C : Ok x w cc nL own ret rm) (kn : Kn ci Cn T N ty) (hc : kd c = ci) (hcn : y.cls = Cn) (hM : CT x.2.1 y cy mL ry ro w (qJ w) (.ref (w.1 c) :: As) oy M) (cy1 : CalV y cy mL ry n) (hl : Cond.methodLink own k y ∈ zA) (hro : ro.cells = 0 ∧ ro.slots = 0) (hR : ro.frames + 1 ≤ rm.frames ∧ 8 + (mL + 11) + ro.locals ≤ rm.locals) (hn : As.length = n) (hst : st = As.reverse ++ .ref (w.1 c) :: rest) (hw8 : (rest.map fun v => v.category).sum ≤ 8) (d : decode cc pc = .ok (.invokevirtual k, 3)) (kk : ∀ r M1, G x w nL Qf (f r M1) M1 lv (pc + 3) (.long r :: rest)) : G x w nL Qf (bd oy f) M lv pc st :=
  gz_cJ (As := As) (fun r M1 hr H locs ls hP h => run_V c kn hc hcn C hM hr cy1 hl hro hR hn hst hw8 d hP h) kk
theorem gz_callVV {y : MethodName} {cy : ByteArray} {mL k n : Nat} {ry : Option FieldType} {ro : Room} {oy : Option (Unit × Mm)} {f : Unit → Mm → Option (α × Mm)} {Cn : String} {T : u_T} {N ci : Nat} {ty : Nat → FieldType} (c : Nat) (As rest : List Value) (C : Ok x w cc nL own ret rm) (kn : Kn ci Cn T N ty) (hc : kd c = ci) (hcn : y.cls = Cn) (hM : CT x.2.1 y cy mL ry ro w (qV w) (.ref (w.1 c) :: As) oy M) (cy1 : CalV y cy mL ry n) (hl : Cond.methodLink own k y ∈ zA) (hro : ro.cells = 0 ∧ ro.slots = 0) (hR : ro.frames + 1 ≤ rm.frames ∧ 8 + (mL + 11) + ro.locals ≤ rm.locals) (hn : As.length = n) (hst : st = As.reverse ++ .ref (w.1 c) :: rest) (hw8 : (rest.map fun v => v.category).sum ≤ 8) (d : decode cc pc = .ok (.invokevirtual k, 3)) (kk : ∀ r M1, G x w nL Qf (f r M1) M1 lv (pc + 3) rest) : G x w nL Qf (bd oy f) M lv pc st :=
  gz_cV (As := As) (fun r M1 hr H locs ls hP h => run_V c kn hc hcn C hM hr cy1 hl hro hR hn hst hw8 d hP h) kk
/-- Math.min -/
theorem gz_min (C : Ok x w cc nL own ret rm) {n : Nat} {u v : Int32} (hl : Cond.methodLink own n Lib.Math.min.name ∈ zA) (hs : Cond.static Lib.Math.min.name ∈ zA) (hi : Cond.initialized "java/lang/Math" ∈ zA) (hc : Cond.code Lib.Math.min.name Lib.Math.min.code 2 (some .int) ∈ zA) (hf : 1 ≤ rm.frames) (hlo : (st.map fun v => v.category).sum + 13 ≤ rm.locals) (d : decode cc pc = .ok (.invokestatic n, 3)) (k : G x w nL Qf o M lv (pc + 3) (.int (if v < u then v else u) :: st)) : G x w nL Qf o M lv pc (.int v :: .int u :: st) := by
  intro r M' ho H locs ls hP hS h
  exact va_mmin C.1 C.2.1 (C.2.2.1.trans h.1.symm) C.2.2.2.1 (C.2.2.2.2.1 _ hl) (C.2.2.2.2.1 _ hs) (C.2.2.2.2.1 _ hi) (C.2.2.2.2.1 _ hc) (by rw [C.2.2.2.2.2.2.2.2.2.2.1]; exact hf) (by rw [C.2.2.2.2.2.2.2.2.2.2.1]; exact hlo) (Nat.zero_le _) (Nat.zero_le _) d (k r M' ho H locs ls hP hS h)
end GC
end
section
theorem zA_l {ws : List Cond} (ps : List Nat) (hp : ws = ps.filterMap (fun i => tables_1[i]?)) (h : ws.all goodWord = true) : ∀ q ∈ ws, q ∈ zA := by
  intro q hq
  have h1 := List.all_eq_true.mp h q hq
  rw [hp] at hq
  obtain ⟨i, -, hi⟩ := List.mem_filterMap.mp hq
  exact zA_t i hi h1
set_option maxRecDepth 20000 in
theorem kn_X0 : Kn 0 RX0 TX0 4 tyX0 := ⟨rfl, zA_l [198, 200, 202, 204] (by decide +kernel) (by decide +kernel), tyX0_ok, nmX0, rfl, by decide⟩
set_option maxRecDepth 20000 in
theorem kn_X1 : Kn 1 RX1 TX1 11 tyX1 := ⟨rfl, zA_l [140, 142, 144, 146, 148, 150, 152, 154, 156, 158, 160] (by decide +kernel) (by decide +kernel), tyX1_ok, nmX1, rfl, by decide⟩
set_option maxRecDepth 20000 in
theorem kn_X2 : Kn 2 RX2 TX2 4 tyX2 := ⟨rfl, zA_l [99, 101, 103, 105] (by decide +kernel) (by decide +kernel), tyX2_ok, nmX2, rfl, by decide⟩
set_option maxRecDepth 20000 in
theorem kn_X3 : Kn 3 RX3 TX3 4 tyX3 := ⟨rfl, zA_l [176, 178, 180, 182] (by decide +kernel) (by decide +kernel), tyX3_ok, nmX3, rfl, by decide⟩
set_option maxRecDepth 20000 in
theorem kn_X4 : Kn 4 RX4 TX4 4 tyX4 := ⟨rfl, zA_l [218, 220, 222, 224] (by decide +kernel) (by decide +kernel), tyX4_ok, nmX4, rfl, by decide⟩
set_option maxRecDepth 20000 in
theorem kn_X5 : Kn 5 RX5 TX5 2 tyX5 := ⟨rfl, zA_l [34, 36] (by decide +kernel) (by decide +kernel), tyX5_ok, nmX5, rfl, by decide⟩
set_option maxRecDepth 20000 in
theorem kn_X6 : Kn 6 RX6 TX6 3 tyX6 := ⟨rfl, zA_l [79, 81, 83] (by decide +kernel) (by decide +kernel), tyX6_ok, nmX6, rfl, by decide⟩
set_option maxRecDepth 20000 in
theorem kn_X7 : Kn 7 RX7 TX7 5 tyX7 := ⟨rfl, zA_l [57, 59, 61, 63, 65] (by decide +kernel) (by decide +kernel), tyX7_ok, nmX7, rfl, by decide⟩
set_option maxRecDepth 20000 in
theorem kn_X8 : Kn 8 RX8 TX8 5 tyX8 := ⟨rfl, zA_l [238, 240, 242, 244, 246] (by decide +kernel) (by decide +kernel), tyX8_ok, nmX8, rfl, by decide⟩
set_option maxRecDepth 20000 in
theorem kn_X9 : Kn 9 RX9 TX9 4 tyX9 := ⟨rfl, zA_l [263, 265, 267, 269] (by decide +kernel) (by decide +kernel), tyX9_ok, nmX9, rfl, by decide⟩
set_option maxRecDepth 20000 in
theorem kn_X10 : Kn 10 RX10 TX10 12 tyX10 := ⟨rfl, zA_l [284, 286, 288, 290, 292, 294, 296, 298, 300, 302, 304, 306] (by decide +kernel) (by decide +kernel), tyX10_ok, nmX10, rfl, by decide⟩
set_option maxRecDepth 20000 in
theorem kn_X11 : Kn 11 RX11 TX11 49 tyX11 := ⟨rfl, zA_l [899, 901, 903, 905, 907, 909, 911, 913, 915, 917, 919, 921, 923, 925, 927, 929, 931, 933, 935, 937, 939, 941, 943, 945, 947, 949, 951, 953, 955, 957, 959, 961, 963, 965, 967, 969, 971, 973, 975, 977, 979, 981, 983, 985, 987, 989, 991, 993, 995] (by decide +kernel) (by decide +kernel), tyX11_ok, nmX11, rfl, by decide⟩
theorem kf_X5_9 : Cond.fieldLink RX5 9 "LineToWreck$Page" "letters" "[I" ∈ zA := (zA_t 30 (by decide +kernel) rfl)
theorem kf_X5_15 : Cond.fieldLink RX5 15 "LineToWreck$Page" "length" "I" ∈ zA := (zA_t 31 (by decide +kernel) rfl)
theorem kf_X10_83 : Cond.fieldLink RX10 83 "LineToWreck$Page" "length" "I" ∈ zA := (zA_t 32 (by decide +kernel) rfl)
theorem kf_X7_35 : Cond.fieldLink RX7 35 "LineToWreck$Page" "length" "I" ∈ zA := (zA_t 33 (by decide +kernel) rfl)
theorem kf_X7_24 : Cond.fieldLink RX7 24 "LineToWreck$Sea" "far" "I" ∈ zA := (zA_t 46 (by decide +kernel) rfl)
theorem kf_X4_91 : Cond.fieldLink RX4 91 "LineToWreck$Sea" "far" "I" ∈ zA := (zA_t 47 (by decide +kernel) rfl)
theorem kf_X10_201 : Cond.fieldLink RX10 201 "LineToWreck$Sea" "far" "I" ∈ zA := (zA_t 48 (by decide +kernel) rfl)
theorem kf_X0_21 : Cond.fieldLink RX0 21 "LineToWreck$Sea" "stages" "I" ∈ zA := (zA_t 49 (by decide +kernel) rfl)
theorem kf_X9_41 : Cond.fieldLink RX9 41 "LineToWreck$Sea" "stages" "I" ∈ zA := (zA_t 50 (by decide +kernel) rfl)
theorem kf_X7_38 : Cond.fieldLink RX7 38 "LineToWreck$Sea" "stages" "I" ∈ zA := (zA_t 51 (by decide +kernel) rfl)
theorem kf_X10_112 : Cond.fieldLink RX10 112 "LineToWreck$Sea" "stages" "I" ∈ zA := (zA_t 52 (by decide +kernel) rfl)
theorem kf_X4_108 : Cond.fieldLink RX4 108 "LineToWreck$Sea" "stages" "I" ∈ zA := (zA_t 53 (by decide +kernel) rfl)
theorem kf_X7_28 : Cond.fieldLink RX7 28 "LineToWreck$Sea" "wind" "I" ∈ zA := (zA_t 54 (by decide +kernel) rfl)
theorem kf_X7_9 : Cond.fieldLink RX7 9 "LineToWreck$Sea" "gusts" "[I" ∈ zA := (zA_t 55 (by decide +kernel) rfl)
theorem kf_X7_15 : Cond.fieldLink RX7 15 "LineToWreck$Sea" "tenths" "[I" ∈ zA := (zA_t 56 (by decide +kernel) rfl)
theorem kf_X6_18 : Cond.fieldLink RX6 18 "LineToWreck$Rockets" "number" "I" ∈ zA := (zA_t 74 (by decide +kernel) rfl)
theorem kf_X0_43 : Cond.fieldLink RX0 43 "LineToWreck$Rockets" "number" "I" ∈ zA := (zA_t 75 (by decide +kernel) rfl)
theorem kf_X10_122 : Cond.fieldLink RX10 122 "LineToWreck$Rockets" "number" "I" ∈ zA := (zA_t 76 (by decide +kernel) rfl)
theorem kf_X6_9 : Cond.fieldLink RX6 9 "LineToWreck$Rockets" "ranges" "[I" ∈ zA := (zA_t 77 (by decide +kernel) rfl)
theorem kf_X6_15 : Cond.fieldLink RX6 15 "LineToWreck$Rockets" "damps" "[I" ∈ zA := (zA_t 78 (by decide +kernel) rfl)
theorem kf_X2_21 : Cond.fieldLink RX2 21 "LineToWreck$Crew" "number" "I" ∈ zA := (zA_t 92 (by decide +kernel) rfl)
theorem kf_X8_21 : Cond.fieldLink RX8 21 "LineToWreck$Crew" "number" "I" ∈ zA := (zA_t 93 (by decide +kernel) rfl)
theorem kf_X4_75 : Cond.fieldLink RX4 75 "LineToWreck$Crew" "number" "I" ∈ zA := (zA_t 94 (by decide +kernel) rfl)
theorem kf_X10_192 : Cond.fieldLink RX10 192 "LineToWreck$Crew" "number" "I" ∈ zA := (zA_t 95 (by decide +kernel) rfl)
theorem kf_X2_9 : Cond.fieldLink RX2 9 "LineToWreck$Crew" "kinds" "[I" ∈ zA := (zA_t 96 (by decide +kernel) rfl)
theorem kf_X2_15 : Cond.fieldLink RX2 15 "LineToWreck$Crew" "weights" "[I" ∈ zA := (zA_t 97 (by decide +kernel) rfl)
theorem kf_X2_18 : Cond.fieldLink RX2 18 "LineToWreck$Crew" "aheads" "[I" ∈ zA := (zA_t 98 (by decide +kernel) rfl)
theorem kf_X1_25 : Cond.fieldLink RX1 25 "LineToWreck$Course" "minute" "I" ∈ zA := (zA_t 114 (by decide +kernel) rfl)
theorem kf_X4_88 : Cond.fieldLink RX4 88 "LineToWreck$Course" "minute" "I" ∈ zA := (zA_t 115 (by decide +kernel) rfl)
theorem kf_X10_241 : Cond.fieldLink RX10 241 "LineToWreck$Course" "minute" "I" ∈ zA := (zA_t 116 (by decide +kernel) rfl)
theorem kf_X1_28 : Cond.fieldLink RX1 28 "LineToWreck$Course" "line" "Z" ∈ zA := (zA_t 117 (by decide +kernel) rfl)
theorem kf_X9_17 : Cond.fieldLink RX9 17 "LineToWreck$Course" "line" "Z" ∈ zA := (zA_t 118 (by decide +kernel) rfl)
theorem kf_X10_156 : Cond.fieldLink RX10 156 "LineToWreck$Course" "line" "Z" ∈ zA := (zA_t 119 (by decide +kernel) rfl)
theorem kf_X1_32 : Cond.fieldLink RX1 32 "LineToWreck$Course" "broken" "Z" ∈ zA := (zA_t 120 (by decide +kernel) rfl)
theorem kf_X9_24 : Cond.fieldLink RX9 24 "LineToWreck$Course" "broken" "Z" ∈ zA := (zA_t 121 (by decide +kernel) rfl)
theorem kf_X10_139 : Cond.fieldLink RX10 139 "LineToWreck$Course" "broken" "Z" ∈ zA := (zA_t 122 (by decide +kernel) rfl)
theorem kf_X1_35 : Cond.fieldLink RX1 35 "LineToWreck$Course" "fired" "I" ∈ zA := (zA_t 123 (by decide +kernel) rfl)
theorem kf_X9_28 : Cond.fieldLink RX9 28 "LineToWreck$Course" "fired" "I" ∈ zA := (zA_t 124 (by decide +kernel) rfl)
theorem kf_X0_61 : Cond.fieldLink RX0 61 "LineToWreck$Course" "fired" "I" ∈ zA := (zA_t 125 (by decide +kernel) rfl)
theorem kf_X10_132 : Cond.fieldLink RX10 132 "LineToWreck$Course" "fired" "I" ∈ zA := (zA_t 126 (by decide +kernel) rfl)
theorem kf_X4_19 : Cond.fieldLink RX4 19 "LineToWreck$Course" "over" "I" ∈ zA := (zA_t 127 (by decide +kernel) rfl)
theorem kf_X1_38 : Cond.fieldLink RX1 38 "LineToWreck$Course" "over" "I" ∈ zA := (zA_t 128 (by decide +kernel) rfl)
theorem kf_X10_218 : Cond.fieldLink RX10 218 "LineToWreck$Course" "over" "I" ∈ zA := (zA_t 129 (by decide +kernel) rfl)
theorem kf_X1_9 : Cond.fieldLink RX1 9 "LineToWreck$Course" "hawser" "I" ∈ zA := (zA_t 130 (by decide +kernel) rfl)
theorem kf_X4_96 : Cond.fieldLink RX4 96 "LineToWreck$Course" "hawser" "I" ∈ zA := (zA_t 131 (by decide +kernel) rfl)
theorem kf_X10_204 : Cond.fieldLink RX10 204 "LineToWreck$Course" "hawser" "I" ∈ zA := (zA_t 132 (by decide +kernel) rfl)
theorem kf_X1_41 : Cond.fieldLink RX1 41 "LineToWreck$Course" "saidCount" "I" ∈ zA := (zA_t 133 (by decide +kernel) rfl)
theorem kf_X10_275 : Cond.fieldLink RX10 275 "LineToWreck$Course" "saidCount" "I" ∈ zA := (zA_t 134 (by decide +kernel) rfl)
theorem kf_X1_44 : Cond.fieldLink RX1 44 "LineToWreck$Course" "wreckCount" "I" ∈ zA := (zA_t 135 (by decide +kernel) rfl)
theorem kf_X10_290 : Cond.fieldLink RX10 290 "LineToWreck$Course" "wreckCount" "I" ∈ zA := (zA_t 136 (by decide +kernel) rfl)
theorem kf_X1_15 : Cond.fieldLink RX1 15 "LineToWreck$Course" "overMinutes" "[I" ∈ zA := (zA_t 137 (by decide +kernel) rfl)
theorem kf_X1_19 : Cond.fieldLink RX1 19 "LineToWreck$Course" "saidAheads" "[I" ∈ zA := (zA_t 138 (by decide +kernel) rfl)
theorem kf_X1_22 : Cond.fieldLink RX1 22 "LineToWreck$Course" "wrecks" "[I" ∈ zA := (zA_t 139 (by decide +kernel) rfl)
theorem kf_X3_10 : Cond.fieldLink RX3 10 "LineToWreck$Image" "course" "LLineToWreck$Course;" ∈ zA := (zA_t 171 (by decide +kernel) rfl)
theorem kf_X10_313 : Cond.fieldLink RX10 313 "LineToWreck$Image" "course" "LLineToWreck$Course;" ∈ zA := (zA_t 172 (by decide +kernel) rfl)
theorem kf_X10_320 : Cond.fieldLink RX10 320 "LineToWreck$Image" "night" "I" ∈ zA := (zA_t 173 (by decide +kernel) rfl)
theorem kf_X10_323 : Cond.fieldLink RX10 323 "LineToWreck$Image" "rockets" "I" ∈ zA := (zA_t 174 (by decide +kernel) rfl)
theorem kf_X10_325 : Cond.fieldLink RX10 325 "LineToWreck$Image" "men" "I" ∈ zA := (zA_t 175 (by decide +kernel) rfl)
theorem kf_X0_52 : Cond.fieldLink RX0 52 "LineToWreck$AimSearch" "best" "J" ∈ zA := (zA_t 191 (by decide +kernel) rfl)
theorem kf_X10_182 : Cond.fieldLink RX10 182 "LineToWreck$AimSearch" "best" "J" ∈ zA := (zA_t 192 (by decide +kernel) rfl)
theorem kf_X0_39 : Cond.fieldLink RX0 39 "LineToWreck$AimSearch" "whole" "J" ∈ zA := (zA_t 193 (by decide +kernel) rfl)
theorem kf_X10_186 : Cond.fieldLink RX10 186 "LineToWreck$AimSearch" "whole" "J" ∈ zA := (zA_t 194 (by decide +kernel) rfl)
theorem kf_X0_79 : Cond.fieldLink RX0 79 "LineToWreck$AimSearch" "choice" "I" ∈ zA := (zA_t 195 (by decide +kernel) rfl)
theorem kf_X10_189 : Cond.fieldLink RX10 189 "LineToWreck$AimSearch" "choice" "I" ∈ zA := (zA_t 196 (by decide +kernel) rfl)
theorem kf_X0_9 : Cond.fieldLink RX0 9 "LineToWreck$AimSearch" "chances" "[J" ∈ zA := (zA_t 197 (by decide +kernel) rfl)
theorem kf_X4_54 : Cond.fieldLink RX4 54 "LineToWreck$OrderSearch" "most" "J" ∈ zA := (zA_t 214 (by decide +kernel) rfl)
theorem kf_X4_25 : Cond.fieldLink RX4 25 "LineToWreck$OrderSearch" "start" "I" ∈ zA := (zA_t 215 (by decide +kernel) rfl)
theorem kf_X4_9 : Cond.fieldLink RX4 9 "LineToWreck$OrderSearch" "worths" "[J" ∈ zA := (zA_t 216 (by decide +kernel) rfl)
theorem kf_X4_15 : Cond.fieldLink RX4 15 "LineToWreck$OrderSearch" "nexts" "[I" ∈ zA := (zA_t 217 (by decide +kernel) rfl)
theorem kf_X8_27 : Cond.fieldLink RX8 27 "LineToWreck$Successions" "number" "I" ∈ zA := (zA_t 233 (by decide +kernel) rfl)
theorem kf_X8_32 : Cond.fieldLink RX8 32 "LineToWreck$Successions" "all" "I" ∈ zA := (zA_t 234 (by decide +kernel) rfl)
theorem kf_X8_9 : Cond.fieldLink RX8 9 "LineToWreck$Successions" "aheads" "[I" ∈ zA := (zA_t 235 (by decide +kernel) rfl)
theorem kf_X8_15 : Cond.fieldLink RX8 15 "LineToWreck$Successions" "ways" "[I" ∈ zA := (zA_t 236 (by decide +kernel) rfl)
theorem kf_X8_18 : Cond.fieldLink RX8 18 "LineToWreck$Successions" "rests" "[I" ∈ zA := (zA_t 237 (by decide +kernel) rfl)
theorem kf_X9_7 : Cond.fieldLink RX9 7 "LineToWreck$Trial" "seed" "J" ∈ zA := (zA_t 255 (by decide +kernel) rfl)
theorem kf_X10_310 : Cond.fieldLink RX10 310 "LineToWreck$Trial" "seed" "J" ∈ zA := (zA_t 256 (by decide +kernel) rfl)
theorem kf_X9_13 : Cond.fieldLink RX9 13 "LineToWreck$Trial" "shots" "I" ∈ zA := (zA_t 257 (by decide +kernel) rfl)
theorem kf_X10_306 : Cond.fieldLink RX10 306 "LineToWreck$Trial" "shots" "I" ∈ zA := (zA_t 258 (by decide +kernel) rfl)
theorem kf_X9_23 : Cond.fieldLink RX9 23 "LineToWreck$Trial" "line" "Z" ∈ zA := (zA_t 259 (by decide +kernel) rfl)
theorem kf_X10_305 : Cond.fieldLink RX10 305 "LineToWreck$Trial" "line" "Z" ∈ zA := (zA_t 260 (by decide +kernel) rfl)
theorem kf_X9_27 : Cond.fieldLink RX9 27 "LineToWreck$Trial" "broken" "Z" ∈ zA := (zA_t 261 (by decide +kernel) rfl)
theorem kf_X10_309 : Cond.fieldLink RX10 309 "LineToWreck$Trial" "broken" "Z" ∈ zA := (zA_t 262 (by decide +kernel) rfl)
theorem kf_X10_10 : Cond.fieldLink RX10 10 "LineToWreck" "page" "LLineToWreck$Page;" ∈ zA := (zA_t 272 (by decide +kernel) rfl)
theorem kf_X10_19 : Cond.fieldLink RX10 19 "LineToWreck" "waters" "LLineToWreck$Sea;" ∈ zA := (zA_t 273 (by decide +kernel) rfl)
theorem kf_X10_26 : Cond.fieldLink RX10 26 "LineToWreck" "rockets" "LLineToWreck$Rockets;" ∈ zA := (zA_t 274 (by decide +kernel) rfl)
theorem kf_X10_33 : Cond.fieldLink RX10 33 "LineToWreck" "crew" "LLineToWreck$Crew;" ∈ zA := (zA_t 275 (by decide +kernel) rfl)
theorem kf_X10_40 : Cond.fieldLink RX10 40 "LineToWreck" "now" "LLineToWreck$Course;" ∈ zA := (zA_t 276 (by decide +kernel) rfl)
theorem kf_X10_47 : Cond.fieldLink RX10 47 "LineToWreck" "kept" "LLineToWreck$Image;" ∈ zA := (zA_t 277 (by decide +kernel) rfl)
theorem kf_X10_54 : Cond.fieldLink RX10 54 "LineToWreck" "aimSearch" "LLineToWreck$AimSearch;" ∈ zA := (zA_t 278 (by decide +kernel) rfl)
theorem kf_X10_61 : Cond.fieldLink RX10 61 "LineToWreck" "orderSearch" "LLineToWreck$OrderSearch;" ∈ zA := (zA_t 279 (by decide +kernel) rfl)
theorem kf_X10_68 : Cond.fieldLink RX10 68 "LineToWreck" "successions" "LLineToWreck$Successions;" ∈ zA := (zA_t 280 (by decide +kernel) rfl)
theorem kf_X10_75 : Cond.fieldLink RX10 75 "LineToWreck" "trial" "LLineToWreck$Trial;" ∈ zA := (zA_t 281 (by decide +kernel) rfl)
theorem kf_X10_109 : Cond.fieldLink RX10 109 "LineToWreck" "nightsRead" "I" ∈ zA := (zA_t 282 (by decide +kernel) rfl)
theorem kf_X10_255 : Cond.fieldLink RX10 255 "LineToWreck" "ordersDone" "I" ∈ zA := (zA_t 283 (by decide +kernel) rfl)
theorem kl_X10_159 : Cond.constantLong RX10 159 (-101) ∈ zA := (zA_t 447 (by decide +kernel) rfl)
theorem kl_X10_161 : Cond.constantLong RX10 161 (-102) ∈ zA := (zA_t 448 (by decide +kernel) rfl)
theorem kl_X10_167 : Cond.constantLong RX10 167 (10) ∈ zA := (zA_t 459 (by decide +kernel) rfl)
theorem kl_X10_176 : Cond.constantLong RX10 176 (-103) ∈ zA := (zA_t 478 (by decide +kernel) rfl)
theorem kl_X0_59 : Cond.constantLong RX0 59 (100) ∈ zA := (zA_t 513 (by decide +kernel) rfl)
theorem kc_J6_265 : Cond.constant RJ6 265 (1431655765) ∈ zA := (zA_t 635 (by decide +kernel) rfl)
theorem kc_J6_266 : Cond.constant RJ6 266 (858993459) ∈ zA := (zA_t 636 (by decide +kernel) rfl)
theorem kc_J6_267 : Cond.constant RJ6 267 (252645135) ∈ zA := (zA_t 637 (by decide +kernel) rfl)
theorem kl_X4_58 : Cond.constantLong RX4 58 (-1) ∈ zA := (zA_t 655 (by decide +kernel) rfl)
theorem kl_X4_103 : Cond.constantLong RX4 103 (1000000000) ∈ zA := (zA_t 668 (by decide +kernel) rfl)
theorem kl_X4_111 : Cond.constantLong RX4 111 (10) ∈ zA := (zA_t 670 (by decide +kernel) rfl)
theorem kl_X10_267 : Cond.constantLong RX10 267 (-1) ∈ zA := (zA_t 683 (by decide +kernel) rfl)
theorem kl_X10_273 : Cond.constantLong RX10 273 (1000000000) ∈ zA := (zA_t 688 (by decide +kernel) rfl)
theorem kl_X9_79 : Cond.constantLong RX9 79 (1103515245) ∈ zA := (zA_t 795 (by decide +kernel) rfl)
theorem kl_X9_81 : Cond.constantLong RX9 81 (12345) ∈ zA := (zA_t 796 (by decide +kernel) rfl)
theorem kl_X9_83 : Cond.constantLong RX9 83 (2147483648) ∈ zA := (zA_t 797 (by decide +kernel) rfl)
theorem kl_X9_85 : Cond.constantLong RX9 85 (65536) ∈ zA := (zA_t 798 (by decide +kernel) rfl)
theorem kl_X9_87 : Cond.constantLong RX9 87 (10) ∈ zA := (zA_t 799 (by decide +kernel) rfl)
theorem kl_X10_328 : Cond.constantLong RX10 328 (701) ∈ zA := (zA_t 828 (by decide +kernel) rfl)
theorem kl_X10_366 : Cond.constantLong RX10 366 (31) ∈ zA := (zA_t 837 (by decide +kernel) rfl)
theorem kf_X11_7 : Cond.fieldLink RX11 7 "LineToWreckModel" "page" "[I" ∈ zA := (zA_t 850 (by decide +kernel) rfl)
theorem kf_X11_81 : Cond.fieldLink RX11 81 "LineToWreckModel" "pageMany" "I" ∈ zA := (zA_t 851 (by decide +kernel) rfl)
theorem kf_X11_86 : Cond.fieldLink RX11 86 "LineToWreckModel" "readFar" "I" ∈ zA := (zA_t 852 (by decide +kernel) rfl)
theorem kf_X11_89 : Cond.fieldLink RX11 89 "LineToWreckModel" "readWind" "I" ∈ zA := (zA_t 853 (by decide +kernel) rfl)
theorem kf_X11_13 : Cond.fieldLink RX11 13 "LineToWreckModel" "readGusts" "[I" ∈ zA := (zA_t 854 (by decide +kernel) rfl)
theorem kf_X11_16 : Cond.fieldLink RX11 16 "LineToWreckModel" "readStages" "[I" ∈ zA := (zA_t 855 (by decide +kernel) rfl)
theorem kf_X11_96 : Cond.fieldLink RX11 96 "LineToWreckModel" "readMany" "I" ∈ zA := (zA_t 856 (by decide +kernel) rfl)
theorem kf_X11_106 : Cond.fieldLink RX11 106 "LineToWreckModel" "stages" "I" ∈ zA := (zA_t 857 (by decide +kernel) rfl)
theorem kf_X11_109 : Cond.fieldLink RX11 109 "LineToWreckModel" "far" "I" ∈ zA := (zA_t 858 (by decide +kernel) rfl)
theorem kf_X11_112 : Cond.fieldLink RX11 112 "LineToWreckModel" "wind" "I" ∈ zA := (zA_t 859 (by decide +kernel) rfl)
theorem kf_X11_115 : Cond.fieldLink RX11 115 "LineToWreckModel" "minute" "I" ∈ zA := (zA_t 860 (by decide +kernel) rfl)
theorem kf_X11_118 : Cond.fieldLink RX11 118 "LineToWreckModel" "line" "I" ∈ zA := (zA_t 861 (by decide +kernel) rfl)
theorem kf_X11_121 : Cond.fieldLink RX11 121 "LineToWreckModel" "broken" "I" ∈ zA := (zA_t 862 (by decide +kernel) rfl)
theorem kf_X11_72 : Cond.fieldLink RX11 72 "LineToWreckModel" "hawserNow" "I" ∈ zA := (zA_t 863 (by decide +kernel) rfl)
theorem kf_X11_136 : Cond.fieldLink RX11 136 "LineToWreckModel" "nightsRead" "I" ∈ zA := (zA_t 864 (by decide +kernel) rfl)
theorem kf_X11_19 : Cond.fieldLink RX11 19 "LineToWreckModel" "gusts" "[I" ∈ zA := (zA_t 865 (by decide +kernel) rfl)
theorem kf_X11_22 : Cond.fieldLink RX11 22 "LineToWreckModel" "breakTenths" "[I" ∈ zA := (zA_t 866 (by decide +kernel) rfl)
theorem kf_X11_124 : Cond.fieldLink RX11 124 "LineToWreckModel" "rockets" "I" ∈ zA := (zA_t 867 (by decide +kernel) rfl)
theorem kf_X11_25 : Cond.fieldLink RX11 25 "LineToWreckModel" "rocketRows" "[I" ∈ zA := (zA_t 868 (by decide +kernel) rfl)
theorem kf_X11_28 : Cond.fieldLink RX11 28 "LineToWreckModel" "made" "[J" ∈ zA := (zA_t 869 (by decide +kernel) rfl)
theorem kf_X11_32 : Cond.fieldLink RX11 32 "LineToWreckModel" "madeThen" "[J" ∈ zA := (zA_t 870 (by decide +kernel) rfl)
theorem kf_X11_183 : Cond.fieldLink RX11 183 "LineToWreckModel" "bestNow" "I" ∈ zA := (zA_t 871 (by decide +kernel) rfl)
theorem kf_X11_127 : Cond.fieldLink RX11 127 "LineToWreckModel" "men" "I" ∈ zA := (zA_t 872 (by decide +kernel) rfl)
theorem kf_X11_35 : Cond.fieldLink RX11 35 "LineToWreckModel" "menRows" "[I" ∈ zA := (zA_t 873 (by decide +kernel) rfl)
theorem kf_X11_38 : Cond.fieldLink RX11 38 "LineToWreckModel" "behindBits" "[I" ∈ zA := (zA_t 874 (by decide +kernel) rfl)
theorem kf_X11_251 : Cond.fieldLink RX11 251 "LineToWreckModel" "done" "I" ∈ zA := (zA_t 875 (by decide +kernel) rfl)
theorem kf_X11_41 : Cond.fieldLink RX11 41 "LineToWreckModel" "order" "[I" ∈ zA := (zA_t 876 (by decide +kernel) rfl)
theorem kf_X11_44 : Cond.fieldLink RX11 44 "LineToWreckModel" "bestOrder" "[I" ∈ zA := (zA_t 877 (by decide +kernel) rfl)
theorem kf_X11_241 : Cond.fieldLink RX11 241 "LineToWreckModel" "orderMany" "I" ∈ zA := (zA_t 878 (by decide +kernel) rfl)
theorem kf_X11_130 : Cond.fieldLink RX11 130 "LineToWreckModel" "saidMany" "I" ∈ zA := (zA_t 879 (by decide +kernel) rfl)
theorem kf_X11_47 : Cond.fieldLink RX11 47 "LineToWreckModel" "saidRows" "[I" ∈ zA := (zA_t 880 (by decide +kernel) rfl)
theorem kf_X11_50 : Cond.fieldLink RX11 50 "LineToWreckModel" "mayPlaces" "[I" ∈ zA := (zA_t 881 (by decide +kernel) rfl)
theorem kf_X11_133 : Cond.fieldLink RX11 133 "LineToWreckModel" "wrecks" "I" ∈ zA := (zA_t 882 (by decide +kernel) rfl)
theorem kf_X11_53 : Cond.fieldLink RX11 53 "LineToWreckModel" "wreckRows" "[I" ∈ zA := (zA_t 883 (by decide +kernel) rfl)
theorem kf_X11_280 : Cond.fieldLink RX11 280 "LineToWreckModel" "seedNow" "I" ∈ zA := (zA_t 884 (by decide +kernel) rfl)
theorem kf_X11_68 : Cond.fieldLink RX11 68 "LineToWreckModel" "keptNight" "I" ∈ zA := (zA_t 885 (by decide +kernel) rfl)
theorem kf_X11_297 : Cond.fieldLink RX11 297 "LineToWreckModel" "keptMinute" "I" ∈ zA := (zA_t 886 (by decide +kernel) rfl)
theorem kf_X11_300 : Cond.fieldLink RX11 300 "LineToWreckModel" "keptLine" "I" ∈ zA := (zA_t 887 (by decide +kernel) rfl)
theorem kf_X11_303 : Cond.fieldLink RX11 303 "LineToWreckModel" "keptBroken" "I" ∈ zA := (zA_t 888 (by decide +kernel) rfl)
theorem kf_X11_306 : Cond.fieldLink RX11 306 "LineToWreckModel" "keptHawser" "I" ∈ zA := (zA_t 889 (by decide +kernel) rfl)
theorem kf_X11_309 : Cond.fieldLink RX11 309 "LineToWreckModel" "keptSaid" "I" ∈ zA := (zA_t 890 (by decide +kernel) rfl)
theorem kf_X11_312 : Cond.fieldLink RX11 312 "LineToWreckModel" "keptWrecks" "I" ∈ zA := (zA_t 891 (by decide +kernel) rfl)
theorem kf_X11_315 : Cond.fieldLink RX11 315 "LineToWreckModel" "keptRockets" "I" ∈ zA := (zA_t 892 (by decide +kernel) rfl)
theorem kf_X11_318 : Cond.fieldLink RX11 318 "LineToWreckModel" "keptMen" "I" ∈ zA := (zA_t 893 (by decide +kernel) rfl)
theorem kf_X11_56 : Cond.fieldLink RX11 56 "LineToWreckModel" "keptRocketRows" "[I" ∈ zA := (zA_t 894 (by decide +kernel) rfl)
theorem kf_X11_59 : Cond.fieldLink RX11 59 "LineToWreckModel" "keptMenRows" "[I" ∈ zA := (zA_t 895 (by decide +kernel) rfl)
theorem kf_X11_62 : Cond.fieldLink RX11 62 "LineToWreckModel" "keptSaidRows" "[I" ∈ zA := (zA_t 896 (by decide +kernel) rfl)
theorem kf_X11_65 : Cond.fieldLink RX11 65 "LineToWreckModel" "keptWreckRows" "[I" ∈ zA := (zA_t 897 (by decide +kernel) rfl)
theorem kf_X11_326 : Cond.fieldLink RX11 326 "LineToWreckModel" "hash" "J" ∈ zA := (zA_t 898 (by decide +kernel) rfl)
theorem kl_X11_75 : Cond.constantLong RX11 75 (126) ∈ zA := (zA_t 1002 (by decide +kernel) rfl)
theorem kl_X11_84 : Cond.constantLong RX11 84 (9) ∈ zA := (zA_t 1022 (by decide +kernel) rfl)
theorem kl_X11_139 : Cond.constantLong RX11 139 (4) ∈ zA := (zA_t 1035 (by decide +kernel) rfl)
theorem kl_X11_141 : Cond.constantLong RX11 141 (10) ∈ zA := (zA_t 1036 (by decide +kernel) rfl)
theorem kl_X11_143 : Cond.constantLong RX11 143 (19) ∈ zA := (zA_t 1037 (by decide +kernel) rfl)
theorem kl_X11_153 : Cond.constantLong RX11 153 (120) ∈ zA := (zA_t 1050 (by decide +kernel) rfl)
theorem kl_X11_159 : Cond.constantLong RX11 159 (-1) ∈ zA := (zA_t 1059 (by decide +kernel) rfl)
theorem kl_X11_171 : Cond.constantLong RX11 171 (-101) ∈ zA := (zA_t 1076 (by decide +kernel) rfl)
theorem kl_X11_173 : Cond.constantLong RX11 173 (-102) ∈ zA := (zA_t 1077 (by decide +kernel) rfl)
theorem kl_X11_186 : Cond.constantLong RX11 186 (100) ∈ zA := (zA_t 1097 (by decide +kernel) rfl)
theorem kl_X11_205 : Cond.constantLong RX11 205 (-103) ∈ zA := (zA_t 1109 (by decide +kernel) rfl)
theorem kl_X11_211 : Cond.constantLong RX11 211 (30) ∈ zA := (zA_t 1122 (by decide +kernel) rfl)
theorem kl_X11_234 : Cond.constantLong RX11 234 (60) ∈ zA := (zA_t 1167 (by decide +kernel) rfl)
theorem kl_X11_236 : Cond.constantLong RX11 236 (50) ∈ zA := (zA_t 1176 (by decide +kernel) rfl)
theorem kl_X11_249 : Cond.constantLong RX11 249 (15) ∈ zA := (zA_t 1188 (by decide +kernel) rfl)
theorem kl_X11_244 : Cond.constantLong RX11 244 (10000000000) ∈ zA := (zA_t 1201 (by decide +kernel) rfl)
theorem kl_X11_273 : Cond.constantLong RX11 273 (99) ∈ zA := (zA_t 1234 (by decide +kernel) rfl)
theorem kl_X11_288 : Cond.constantLong RX11 288 (3) ∈ zA := (zA_t 1247 (by decide +kernel) rfl)
theorem kl_X11_278 : Cond.constantLong RX11 278 (1103515245) ∈ zA := (zA_t 1252 (by decide +kernel) rfl)
theorem kl_X11_283 : Cond.constantLong RX11 283 (12345) ∈ zA := (zA_t 1253 (by decide +kernel) rfl)
theorem kl_X11_285 : Cond.constantLong RX11 285 (2147483647) ∈ zA := (zA_t 1254 (by decide +kernel) rfl)
theorem kc_X11_287 : Cond.constant RX11 287 (65536) ∈ zA := (zA_t 1255 (by decide +kernel) rfl)
theorem kl_X11_330 : Cond.constantLong RX11 330 (701) ∈ zA := (zA_t 1279 (by decide +kernel) rfl)
theorem kl_X11_324 : Cond.constantLong RX11 324 (31) ∈ zA := (zA_t 1284 (by decide +kernel) rfl)
theorem km_L_9 : Cond.methodLink RL 9 yX10_init ∈ zA := (zA_t 18 (by decide +kernel) rfl)
theorem km_L_13 : Cond.methodLink RL 13 yX10_letter ∈ zA := (zA_t 309 (by decide +kernel) rfl)
theorem km_X10_79 : Cond.methodLink RX10 79 yX10_isOutside ∈ zA := (zA_t 313 (by decide +kernel) rfl)
theorem km_X10_87 : Cond.methodLink RX10 87 yX5_add ∈ zA := (zA_t 316 (by decide +kernel) rfl)
theorem km_L_18 : Cond.methodLink RL 18 yX10_blank ∈ zA := (zA_t 323 (by decide +kernel) rfl)
theorem km_X10_91 : Cond.methodLink RX10 91 yX5_clear ∈ zA := (zA_t 327 (by decide +kernel) rfl)
theorem km_L_23 : Cond.methodLink RL 23 yX10_fault ∈ zA := (zA_t 331 (by decide +kernel) rfl)
theorem km_X10_94 : Cond.methodLink RX10 94 yX5_faultPlace ∈ zA := (zA_t 335 (by decide +kernel) rfl)
theorem km_X5_31 : Cond.methodLink RX5 31 yX5_fits ∈ zA := (zA_t 339 (by decide +kernel) rfl)
theorem km_X5_35 : Cond.methodLink RX5 35 yX5_letterAt ∈ zA := (zA_t 343 (by decide +kernel) rfl)
theorem km_X5_39 : Cond.methodLink RX5 39 yX5_digitAt ∈ zA := (zA_t 350 (by decide +kernel) rfl)
theorem km_X5_46 : Cond.methodLink RX5 46 yX5_gustsTo ∈ zA := (zA_t 355 (by decide +kernel) rfl)
theorem km_L_27 : Cond.methodLink RL 27 yX10_night ∈ zA := (zA_t 359 (by decide +kernel) rfl)
theorem km_X10_98 : Cond.methodLink RX10 98 yX5_isNight ∈ zA := (zA_t 363 (by decide +kernel) rfl)
theorem km_X5_27 : Cond.methodLink RX5 27 yX5_faultPlace ∈ zA := (zA_t 367 (by decide +kernel) rfl)
theorem km_X10_102 : Cond.methodLink RX10 102 yX7_read ∈ zA := (zA_t 368 (by decide +kernel) rfl)
theorem km_X7_18 : Cond.methodLink RX7 18 yX5_digitAt ∈ zA := (zA_t 372 (by decide +kernel) rfl)
theorem km_X10_106 : Cond.methodLink RX10 106 yX6_clear ∈ zA := (zA_t 374 (by decide +kernel) rfl)
theorem km_X10_107 : Cond.methodLink RX10 107 yX2_clear ∈ zA := (zA_t 378 (by decide +kernel) rfl)
theorem km_X2_25 : Cond.methodLink RX2 25 yJ7_fill_53178 ∈ zA := (zA_t 382 (by decide +kernel) rfl)
theorem km_X10_108 : Cond.methodLink RX10 108 yX1_clear ∈ zA := (zA_t 385 (by decide +kernel) rfl)
theorem km_X1_47 : Cond.methodLink RX1 47 yJ7_fill_53178 ∈ zA := (zA_t 389 (by decide +kernel) rfl)
theorem km_L_31 : Cond.methodLink RL 31 yX10_sea ∈ zA := (zA_t 390 (by decide +kernel) rfl)
theorem km_X10_115 : Cond.methodLink RX10 115 yX10_hasNight ∈ zA := (zA_t 394 (by decide +kernel) rfl)
theorem km_X10_118 : Cond.methodLink RX10 118 yX7_tell ∈ zA := (zA_t 398 (by decide +kernel) rfl)
theorem km_L_35 : Cond.methodLink RL 35 yX10_rocket ∈ zA := (zA_t 403 (by decide +kernel) rfl)
theorem km_X10_125 : Cond.methodLink RX10 125 yX6_add ∈ zA := (zA_t 407 (by decide +kernel) rfl)
theorem km_L_40 : Cond.methodLink RL 40 yX10_fire ∈ zA := (zA_t 412 (by decide +kernel) rfl)
theorem km_X10_128 : Cond.methodLink RX10 128 yX6_has ∈ zA := (zA_t 416 (by decide +kernel) rfl)
theorem km_X10_135 : Cond.methodLink RX10 135 yX10_isIn ∈ zA := (zA_t 420 (by decide +kernel) rfl)
theorem km_X10_143 : Cond.methodLink RX10 143 yX1_stage ∈ zA := (zA_t 423 (by decide +kernel) rfl)
theorem km_X10_146 : Cond.methodLink RX10 146 yX6_fallsAt ∈ zA := (zA_t 427 (by decide +kernel) rfl)
theorem km_X6_30 : Cond.methodLink RX6 30 yX7_drift ∈ zA := (zA_t 432 (by decide +kernel) rfl)
theorem km_X10_150 : Cond.methodLink RX10 150 yX10_with ∈ zA := (zA_t 436 (by decide +kernel) rfl)
theorem km_X10_153 : Cond.methodLink RX10 153 yX7_isRight ∈ zA := (zA_t 439 (by decide +kernel) rfl)
theorem km_L_44 : Cond.methodLink RL 44 yX10_hits ∈ zA := (zA_t 443 (by decide +kernel) rfl)
theorem km_X10_163 : Cond.methodLink RX10 163 yX6_hitTenths ∈ zA := (zA_t 449 (by decide +kernel) rfl)
theorem km_X6_36 : Cond.methodLink RX6 36 yX6_fallsAt ∈ zA := (zA_t 453 (by decide +kernel) rfl)
theorem km_X6_40 : Cond.methodLink RX6 40 yX7_isRight ∈ zA := (zA_t 454 (by decide +kernel) rfl)
theorem km_X6_44 : Cond.methodLink RX6 44 yX7_gustTenths ∈ zA := (zA_t 455 (by decide +kernel) rfl)
theorem km_X10_169 : Cond.methodLink RX10 169 yX10_inLowestTerms ∈ zA := (zA_t 460 (by decide +kernel) rfl)
theorem km_X10_368 : Cond.methodLink RX10 368 yX10_commonDivisor ∈ zA := (zA_t 463 (by decide +kernel) rfl)
theorem km_L_49 : Cond.methodLink RL 49 yX10_aim ∈ zA := (zA_t 466 (by decide +kernel) rfl)
theorem km_X10_173 : Cond.methodLink RX10 173 yX10_canAim ∈ zA := (zA_t 470 (by decide +kernel) rfl)
theorem km_X10_244 : Cond.methodLink RX10 244 yX10_isAfloat ∈ zA := (zA_t 474 (by decide +kernel) rfl)
theorem km_X10_178 : Cond.methodLink RX10 178 yX0_search ∈ zA := (zA_t 479 (by decide +kernel) rfl)
theorem km_X0_15 : Cond.methodLink RX0 15 yX1_stage ∈ zA := (zA_t 483 (by decide +kernel) rfl)
theorem km_min_X0_27 : Cond.methodLink RX0 27 Lib.Math.min.name ∈ zA := (zA_t 484 (by decide +kernel) rfl)
theorem km_X0_33 : Cond.methodLink RX0 33 yJ7_fill_d0a16 ∈ zA := (zA_t 487 (by decide +kernel) rfl)
theorem km_X0_48 : Cond.methodLink RX0 48 yX0_findBest ∈ zA := (zA_t 490 (by decide +kernel) rfl)
theorem km_X0_68 : Cond.methodLink RX0 68 yX7_breakTenths ∈ zA := (zA_t 494 (by decide +kernel) rfl)
theorem km_X0_75 : Cond.methodLink RX0 75 yX0_chance ∈ zA := (zA_t 501 (by decide +kernel) rfl)
theorem km_X0_86 : Cond.methodLink RX0 86 yX6_hitTenths ∈ zA := (zA_t 506 (by decide +kernel) rfl)
theorem km_X0_64 : Cond.methodLink RX0 64 yX6_left ∈ zA := (zA_t 514 (by decide +kernel) rfl)
theorem km_L_54 : Cond.methodLink RL 54 yX10_which ∈ zA := (zA_t 518 (by decide +kernel) rfl)
theorem km_L_58 : Cond.methodLink RL 58 yX10_man ∈ zA := (zA_t 522 (by decide +kernel) rfl)
theorem km_X10_193 : Cond.methodLink RX10 193 yX2_add ∈ zA := (zA_t 526 (by decide +kernel) rfl)
theorem km_L_62 : Cond.methodLink RL 62 yX10_about ∈ zA := (zA_t 531 (by decide +kernel) rfl)
theorem km_X10_194 : Cond.methodLink RX10 194 yX2_has ∈ zA := (zA_t 535 (by decide +kernel) rfl)
theorem km_X10_195 : Cond.methodLink RX10 195 yX2_kind ∈ zA := (zA_t 539 (by decide +kernel) rfl)
theorem km_X10_198 : Cond.methodLink RX10 198 yX2_weight ∈ zA := (zA_t 544 (by decide +kernel) rfl)
theorem km_X10_207 : Cond.methodLink RX10 207 yX2_takes ∈ zA := (zA_t 548 (by decide +kernel) rfl)
theorem km_X2_58 : Cond.methodLink RX2 58 yX2_weight ∈ zA := (zA_t 552 (by decide +kernel) rfl)
theorem km_X2_39 : Cond.methodLink RX2 39 yX2_kind ∈ zA := (zA_t 553 (by decide +kernel) rfl)
theorem km_X2_61 : Cond.methodLink RX2 61 yX2_sags ∈ zA := (zA_t 554 (by decide +kernel) rfl)
theorem km_X10_211 : Cond.methodLink RX10 211 yX2_sags ∈ zA := (zA_t 558 (by decide +kernel) rfl)
theorem km_X10_214 : Cond.methodLink RX10 214 yX10_asNumber ∈ zA := (zA_t 559 (by decide +kernel) rfl)
theorem km_X10_221 : Cond.methodLink RX10 221 yX1_overMinute ∈ zA := (zA_t 562 (by decide +kernel) rfl)
theorem km_X10_224 : Cond.methodLink RX10 224 yX10_mayCome ∈ zA := (zA_t 568 (by decide +kernel) rfl)
theorem km_X10_360 : Cond.methodLink RX10 360 yX2_ahead ∈ zA := (zA_t 572 (by decide +kernel) rfl)
theorem km_X2_54 : Cond.methodLink RX2 54 yX2_allButCaptains ∈ zA := (zA_t 576 (by decide +kernel) rfl)
theorem km_X10_363 : Cond.methodLink RX10 363 yX10_holdsAll ∈ zA := (zA_t 581 (by decide +kernel) rfl)
theorem km_X10_247 : Cond.methodLink RX10 247 yX7_endMinute ∈ zA := (zA_t 584 (by decide +kernel) rfl)
theorem km_L_66 : Cond.methodLink RL 66 yX10_as ∈ zA := (zA_t 588 (by decide +kernel) rfl)
theorem km_X10_227 : Cond.methodLink RX10 227 yX2_isOf ∈ zA := (zA_t 592 (by decide +kernel) rfl)
theorem km_L_70 : Cond.methodLink RL 70 yX10_behind ∈ zA := (zA_t 596 (by decide +kernel) rfl)
theorem km_X10_230 : Cond.methodLink RX10 230 yX10_areTwoMen ∈ zA := (zA_t 600 (by decide +kernel) rfl)
theorem km_X10_233 : Cond.methodLink RX10 233 yX2_putBehind ∈ zA := (zA_t 604 (by decide +kernel) rfl)
theorem km_L_75 : Cond.methodLink RL 75 yX10_hawser ∈ zA := (zA_t 610 (by decide +kernel) rfl)
theorem km_L_79 : Cond.methodLink RL 79 yX10_come ∈ zA := (zA_t 614 (by decide +kernel) rfl)
theorem km_X10_237 : Cond.methodLink RX10 237 yX1_bringOver ∈ zA := (zA_t 618 (by decide +kernel) rfl)
theorem km_L_83 : Cond.methodLink RL 83 yX10_minutes ∈ zA := (zA_t 624 (by decide +kernel) rfl)
theorem km_L_87 : Cond.methodLink RL 87 yX10_breaks ∈ zA := (zA_t 628 (by decide +kernel) rfl)
theorem km_X10_250 : Cond.methodLink RX10 250 yJ6_bitCount_0f7a4 ∈ zA := (zA_t 632 (by decide +kernel) rfl)
theorem km_L_91 : Cond.methodLink RL 91 yX10_order ∈ zA := (zA_t 638 (by decide +kernel) rfl)
theorem km_X10_258 : Cond.methodLink RX10 258 yX4_search ∈ zA := (zA_t 642 (by decide +kernel) rfl)
theorem km_X4_28 : Cond.methodLink RX4 28 yX2_all ∈ zA := (zA_t 646 (by decide +kernel) rfl)
theorem km_X4_38 : Cond.methodLink RX4 38 yX4_findNext ∈ zA := (zA_t 651 (by decide +kernel) rfl)
theorem km_X4_81 : Cond.methodLink RX4 81 yX2_ahead ∈ zA := (zA_t 658 (by decide +kernel) rfl)
theorem km_X4_42 : Cond.methodLink RX4 42 yX4_minuteWith ∈ zA := (zA_t 661 (by decide +kernel) rfl)
theorem km_X4_99 : Cond.methodLink RX4 99 yX2_takes ∈ zA := (zA_t 664 (by decide +kernel) rfl)
theorem km_X4_46 : Cond.methodLink RX4 46 yX4_holding ∈ zA := (zA_t 665 (by decide +kernel) rfl)
theorem km_X4_105 : Cond.methodLink RX4 105 yX1_stage ∈ zA := (zA_t 669 (by decide +kernel) rfl)
theorem km_X4_113 : Cond.methodLink RX4 113 yX7_breakTenths ∈ zA := (zA_t 671 (by decide +kernel) rfl)
theorem km_X4_50 : Cond.methodLink RX4 50 yX4_isThere ∈ zA := (zA_t 672 (by decide +kernel) rfl)
theorem km_X10_261 : Cond.methodLink RX10 261 yX4_manAt ∈ zA := (zA_t 677 (by decide +kernel) rfl)
theorem km_X10_264 : Cond.methodLink RX10 264 yX4_isThere ∈ zA := (zA_t 682 (by decide +kernel) rfl)
theorem km_X10_269 : Cond.methodLink RX10 269 yX4_most ∈ zA := (zA_t 684 (by decide +kernel) rfl)
theorem km_L_96 : Cond.methodLink RL 96 yX10_said ∈ zA := (zA_t 689 (by decide +kernel) rfl)
theorem km_X10_278 : Cond.methodLink RX10 278 yX1_say ∈ zA := (zA_t 693 (by decide +kernel) rfl)
theorem km_L_100 : Cond.methodLink RL 100 yX10_orders ∈ zA := (zA_t 697 (by decide +kernel) rfl)
theorem km_X10_281 : Cond.methodLink RX10 281 yX8_search ∈ zA := (zA_t 701 (by decide +kernel) rfl)
theorem km_X8_28 : Cond.methodLink RX8 28 yX2_all ∈ zA := (zA_t 705 (by decide +kernel) rfl)
theorem km_X8_34 : Cond.methodLink RX8 34 yX2_ahead ∈ zA := (zA_t 706 (by decide +kernel) rfl)
theorem km_X8_38 : Cond.methodLink RX8 38 yX1_saidAhead ∈ zA := (zA_t 707 (by decide +kernel) rfl)
theorem km_X8_47 : Cond.methodLink RX8 47 yX8_countWays ∈ zA := (zA_t 712 (by decide +kernel) rfl)
theorem km_X8_70 : Cond.methodLink RX8 70 yJ7_fill_53178 ∈ zA := (zA_t 716 (by decide +kernel) rfl)
theorem km_X8_57 : Cond.methodLink RX8 57 yX8_mayFollow ∈ zA := (zA_t 717 (by decide +kernel) rfl)
theorem km_X8_50 : Cond.methodLink RX8 50 yX8_countRests ∈ zA := (zA_t 725 (by decide +kernel) rfl)
theorem km_X10_284 : Cond.methodLink RX10 284 yX8_total ∈ zA := (zA_t 729 (by decide +kernel) rfl)
theorem km_L_104 : Cond.methodLink RL 104 yX10_sure ∈ zA := (zA_t 733 (by decide +kernel) rfl)
theorem km_X10_287 : Cond.methodLink RX10 287 yX8_surePlace ∈ zA := (zA_t 737 (by decide +kernel) rfl)
theorem km_X8_65 : Cond.methodLink RX8 65 yJ6_bitCount_0f7a4 ∈ zA := (zA_t 741 (by decide +kernel) rfl)
theorem km_L_108 : Cond.methodLink RL 108 yX10_wreck ∈ zA := (zA_t 742 (by decide +kernel) rfl)
theorem km_X10_293 : Cond.methodLink RX10 293 yX1_addWreck ∈ zA := (zA_t 746 (by decide +kernel) rfl)
theorem km_L_112 : Cond.methodLink RL 112 yX10_stations ∈ zA := (zA_t 750 (by decide +kernel) rfl)
theorem km_X10_296 : Cond.methodLink RX10 296 yX1_fewestStations ∈ zA := (zA_t 754 (by decide +kernel) rfl)
theorem km_X1_69 : Cond.methodLink RX1 69 yX1_leastWreckFrom ∈ zA := (zA_t 758 (by decide +kernel) rfl)
theorem km_X1_73 : Cond.methodLink RX1 73 yX1_stationFor ∈ zA := (zA_t 762 (by decide +kernel) rfl)
theorem km_min_X1_76 : Cond.methodLink RX1 76 Lib.Math.min.name ∈ zA := (zA_t 766 (by decide +kernel) rfl)
theorem km_X10_299 : Cond.methodLink RX10 299 yX1_firstStation ∈ zA := (zA_t 767 (by decide +kernel) rfl)
theorem km_L_116 : Cond.methodLink RL 116 yX10_nights ∈ zA := (zA_t 771 (by decide +kernel) rfl)
theorem km_X10_302 : Cond.methodLink RX10 302 yX9_run ∈ zA := (zA_t 775 (by decide +kernel) rfl)
theorem km_X9_31 : Cond.methodLink RX9 31 yX6_left ∈ zA := (zA_t 779 (by decide +kernel) rfl)
theorem km_X9_37 : Cond.methodLink RX9 37 yX1_stage ∈ zA := (zA_t 780 (by decide +kernel) rfl)
theorem km_X9_46 : Cond.methodLink RX9 46 yX6_leastOf ∈ zA := (zA_t 781 (by decide +kernel) rfl)
theorem km_X9_55 : Cond.methodLink RX9 55 yX9_drawGust ∈ zA := (zA_t 787 (by decide +kernel) rfl)
theorem km_X9_67 : Cond.methodLink RX9 67 yX9_draw ∈ zA := (zA_t 791 (by decide +kernel) rfl)
theorem km_X9_76 : Cond.methodLink RX9 76 yX7_gustTenths ∈ zA := (zA_t 800 (by decide +kernel) rfl)
theorem km_X9_59 : Cond.methodLink RX9 59 yX6_fallsAt ∈ zA := (zA_t 801 (by decide +kernel) rfl)
theorem km_X9_63 : Cond.methodLink RX9 63 yX7_isRight ∈ zA := (zA_t 802 (by decide +kernel) rfl)
theorem km_X9_70 : Cond.methodLink RX9 70 yX7_isLast ∈ zA := (zA_t 803 (by decide +kernel) rfl)
theorem km_X9_73 : Cond.methodLink RX9 73 yX7_breakTenths ∈ zA := (zA_t 807 (by decide +kernel) rfl)
theorem km_L_120 : Cond.methodLink RL 120 yX10_image ∈ zA := (zA_t 808 (by decide +kernel) rfl)
theorem km_X10_316 : Cond.methodLink RX10 316 yX1_takeFrom ∈ zA := (zA_t 812 (by decide +kernel) rfl)
theorem km_L_124 : Cond.methodLink RL 124 yX10_restore ∈ zA := (zA_t 816 (by decide +kernel) rfl)
theorem km_L_128 : Cond.methodLink RL 128 yX10_count ∈ zA := (zA_t 820 (by decide +kernel) rfl)
theorem km_L_132 : Cond.methodLink RL 132 yX10_digest ∈ zA := (zA_t 824 (by decide +kernel) rfl)
theorem km_X10_330 : Cond.methodLink RX10 330 yX10_mixSea ∈ zA := (zA_t 829 (by decide +kernel) rfl)
theorem km_X10_357 : Cond.methodLink RX10 357 yX10_sea ∈ zA := (zA_t 833 (by decide +kernel) rfl)
theorem km_X10_338 : Cond.methodLink RX10 338 yX10_mix ∈ zA := (zA_t 834 (by decide +kernel) rfl)
theorem km_X10_334 : Cond.methodLink RX10 334 yX10_hits ∈ zA := (zA_t 838 (by decide +kernel) rfl)
theorem km_X10_342 : Cond.methodLink RX10 342 yX10_about ∈ zA := (zA_t 839 (by decide +kernel) rfl)
theorem km_X10_345 : Cond.methodLink RX10 345 yX10_orders ∈ zA := (zA_t 840 (by decide +kernel) rfl)
theorem km_X10_348 : Cond.methodLink RX10 348 yX10_stations ∈ zA := (zA_t 841 (by decide +kernel) rfl)
theorem km_X10_351 : Cond.methodLink RX10 351 yX5_letterAt ∈ zA := (zA_t 842 (by decide +kernel) rfl)
theorem km_X10_354 : Cond.methodLink RX10 354 yX10_count ∈ zA := (zA_t 843 (by decide +kernel) rfl)
theorem km_L_12 : Cond.methodLink RL 12 yX11_init ∈ zA := (zA_t 846 (by decide +kernel) rfl)
theorem km_L_17 : Cond.methodLink RL 17 yX11_letter ∈ zA := (zA_t 998 (by decide +kernel) rfl)
theorem km_X11_77 : Cond.methodLink RX11 77 yX11_in ∈ zA := (zA_t 1003 (by decide +kernel) rfl)
theorem km_L_22 : Cond.methodLink RL 22 yX11_blank ∈ zA := (zA_t 1006 (by decide +kernel) rfl)
theorem km_L_26 : Cond.methodLink RL 26 yX11_fault ∈ zA := (zA_t 1010 (by decide +kernel) rfl)
theorem km_X11_102 : Cond.methodLink RX11 102 yX11_faultOf ∈ zA := (zA_t 1014 (by decide +kernel) rfl)
theorem km_X11_99 : Cond.methodLink RX11 99 yX11_go ∈ zA := (zA_t 1018 (by decide +kernel) rfl)
theorem km_X11_92 : Cond.methodLink RX11 92 yX11_goGust ∈ zA := (zA_t 1023 (by decide +kernel) rfl)
theorem km_L_30 : Cond.methodLink RL 30 yX11_night ∈ zA := (zA_t 1027 (by decide +kernel) rfl)
theorem km_L_34 : Cond.methodLink RL 34 yX11_sea ∈ zA := (zA_t 1031 (by decide +kernel) rfl)
theorem km_X11_145 : Cond.methodLink RX11 145 yX11_lacks ∈ zA := (zA_t 1038 (by decide +kernel) rfl)
theorem km_X11_149 : Cond.methodLink RX11 149 yX11_tellSea ∈ zA := (zA_t 1042 (by decide +kernel) rfl)
theorem km_L_39 : Cond.methodLink RL 39 yX11_rocket ∈ zA := (zA_t 1046 (by decide +kernel) rfl)
theorem km_L_43 : Cond.methodLink RL 43 yX11_fire ∈ zA := (zA_t 1051 (by decide +kernel) rfl)
theorem km_X11_155 : Cond.methodLink RX11 155 yX11_isRocket ∈ zA := (zA_t 1055 (by decide +kernel) rfl)
theorem km_X11_161 : Cond.methodLink RX11 161 yX11_stageNow ∈ zA := (zA_t 1060 (by decide +kernel) rfl)
theorem km_X11_164 : Cond.methodLink RX11 164 yX11_fallsAt ∈ zA := (zA_t 1064 (by decide +kernel) rfl)
theorem km_X11_168 : Cond.methodLink RX11 168 yX11_isRight ∈ zA := (zA_t 1068 (by decide +kernel) rfl)
theorem km_L_48 : Cond.methodLink RL 48 yX11_hits ∈ zA := (zA_t 1072 (by decide +kernel) rfl)
theorem km_X11_175 : Cond.methodLink RX11 175 yX11_hitTenths ∈ zA := (zA_t 1078 (by decide +kernel) rfl)
theorem km_X11_179 : Cond.methodLink RX11 179 yX11_term ∈ zA := (zA_t 1082 (by decide +kernel) rfl)
theorem km_L_53 : Cond.methodLink RL 53 yX11_aim ∈ zA := (zA_t 1085 (by decide +kernel) rfl)
theorem km_X11_195 : Cond.methodLink RX11 195 yX11_isAiming ∈ zA := (zA_t 1089 (by decide +kernel) rfl)
theorem km_X11_198 : Cond.methodLink RX11 198 yX11_aimOf ∈ zA := (zA_t 1093 (by decide +kernel) rfl)
theorem km_X11_188 : Cond.methodLink RX11 188 yX11_bestOf ∈ zA := (zA_t 1098 (by decide +kernel) rfl)
theorem km_X11_192 : Cond.methodLink RX11 192 yX11_leftBits ∈ zA := (zA_t 1102 (by decide +kernel) rfl)
theorem km_X11_202 : Cond.methodLink RX11 202 yX11_hundreds ∈ zA := (zA_t 1106 (by decide +kernel) rfl)
theorem km_L_57 : Cond.methodLink RL 57 yX11_which ∈ zA := (zA_t 1110 (by decide +kernel) rfl)
theorem km_X11_207 : Cond.methodLink RX11 207 yX11_layLater ∈ zA := (zA_t 1114 (by decide +kernel) rfl)
theorem km_L_61 : Cond.methodLink RL 61 yX11_man ∈ zA := (zA_t 1118 (by decide +kernel) rfl)
theorem km_L_65 : Cond.methodLink RL 65 yX11_about ∈ zA := (zA_t 1123 (by decide +kernel) rfl)
theorem km_X11_228 : Cond.methodLink RX11 228 yX11_isMan ∈ zA := (zA_t 1127 (by decide +kernel) rfl)
theorem km_X11_231 : Cond.methodLink RX11 231 yX11_tellMan ∈ zA := (zA_t 1131 (by decide +kernel) rfl)
theorem km_X11_222 : Cond.methodLink RX11 222 yX11_takes ∈ zA := (zA_t 1135 (by decide +kernel) rfl)
theorem km_X11_213 : Cond.methodLink RX11 213 yX11_sags ∈ zA := (zA_t 1139 (by decide +kernel) rfl)
theorem km_X11_225 : Cond.methodLink RX11 225 yX11_mayCome ∈ zA := (zA_t 1143 (by decide +kernel) rfl)
theorem km_X11_216 : Cond.methodLink RX11 216 yX11_overBits ∈ zA := (zA_t 1147 (by decide +kernel) rfl)
theorem km_X11_219 : Cond.methodLink RX11 219 yX11_canCome ∈ zA := (zA_t 1151 (by decide +kernel) rfl)
theorem km_L_69 : Cond.methodLink RL 69 yX11_as ∈ zA := (zA_t 1155 (by decide +kernel) rfl)
theorem km_L_74 : Cond.methodLink RL 74 yX11_behind ∈ zA := (zA_t 1159 (by decide +kernel) rfl)
theorem km_L_78 : Cond.methodLink RL 78 yX11_hawser ∈ zA := (zA_t 1163 (by decide +kernel) rfl)
theorem km_L_82 : Cond.methodLink RL 82 yX11_come ∈ zA := (zA_t 1168 (by decide +kernel) rfl)
theorem km_L_86 : Cond.methodLink RL 86 yX11_minutes ∈ zA := (zA_t 1172 (by decide +kernel) rfl)
theorem km_L_90 : Cond.methodLink RL 90 yX11_breaks ∈ zA := (zA_t 1177 (by decide +kernel) rfl)
theorem km_X11_238 : Cond.methodLink RX11 238 yX11_ones ∈ zA := (zA_t 1181 (by decide +kernel) rfl)
theorem km_L_95 : Cond.methodLink RL 95 yX11_order ∈ zA := (zA_t 1184 (by decide +kernel) rfl)
theorem km_X11_254 : Cond.methodLink RX11 254 yX11_firstOrder ∈ zA := (zA_t 1189 (by decide +kernel) rfl)
theorem km_X11_257 : Cond.methodLink RX11 257 yX11_meanOf ∈ zA := (zA_t 1193 (by decide +kernel) rfl)
theorem km_X11_246 : Cond.methodLink RX11 246 yX11_holds ∈ zA := (zA_t 1197 (by decide +kernel) rfl)
theorem km_X11_261 : Cond.methodLink RX11 261 yX11_nextOrder ∈ zA := (zA_t 1202 (by decide +kernel) rfl)
theorem km_L_99 : Cond.methodLink RL 99 yX11_said ∈ zA := (zA_t 1206 (by decide +kernel) rfl)
theorem km_L_103 : Cond.methodLink RL 103 yX11_orders ∈ zA := (zA_t 1210 (by decide +kernel) rfl)
theorem km_X11_270 : Cond.methodLink RX11 270 yX11_layOrders ∈ zA := (zA_t 1214 (by decide +kernel) rfl)
theorem km_X11_267 : Cond.methodLink RX11 267 yX11_isSaidSo ∈ zA := (zA_t 1218 (by decide +kernel) rfl)
theorem km_X11_264 : Cond.methodLink RX11 264 yX11_placeOf ∈ zA := (zA_t 1222 (by decide +kernel) rfl)
theorem km_L_107 : Cond.methodLink RL 107 yX11_sure ∈ zA := (zA_t 1226 (by decide +kernel) rfl)
theorem km_L_111 : Cond.methodLink RL 111 yX11_wreck ∈ zA := (zA_t 1230 (by decide +kernel) rfl)
theorem km_L_115 : Cond.methodLink RL 115 yX11_stations ∈ zA := (zA_t 1235 (by decide +kernel) rfl)
theorem km_X11_275 : Cond.methodLink RX11 275 yX11_stationsOf ∈ zA := (zA_t 1239 (by decide +kernel) rfl)
theorem km_L_119 : Cond.methodLink RL 119 yX11_nights ∈ zA := (zA_t 1243 (by decide +kernel) rfl)
theorem km_X11_290 : Cond.methodLink RX11 290 yX11_draw ∈ zA := (zA_t 1248 (by decide +kernel) rfl)
theorem km_L_123 : Cond.methodLink RL 123 yX11_image ∈ zA := (zA_t 1256 (by decide +kernel) rfl)
theorem km_X11_293 : Cond.methodLink RX11 293 yX11_copy ∈ zA := (zA_t 1260 (by decide +kernel) rfl)
theorem km_L_127 : Cond.methodLink RL 127 yX11_restore ∈ zA := (zA_t 1263 (by decide +kernel) rfl)
theorem km_L_131 : Cond.methodLink RL 131 yX11_count ∈ zA := (zA_t 1267 (by decide +kernel) rfl)
theorem km_X11_321 : Cond.methodLink RX11 321 yX11_countOf ∈ zA := (zA_t 1271 (by decide +kernel) rfl)
theorem km_L_136 : Cond.methodLink RL 136 yX11_digest ∈ zA := (zA_t 1275 (by decide +kernel) rfl)
theorem km_X11_332 : Cond.methodLink RX11 332 yX11_say ∈ zA := (zA_t 1280 (by decide +kernel) rfl)
theorem cal_X0_search : CalV yX0_search cX0_search 9 none 4 := ⟨⟨(zA_t 482 (by decide +kernel) rfl), (zA_t 8 (by decide +kernel) rfl), by decide +kernel, by decide +kernel, by decide +kernel⟩, (zA_t 480 (by decide +kernel) rfl), (zA_t 481 (by decide +kernel) rfl)⟩
theorem cal_X0_findBest : CalV yX0_findBest cX0_findBest 10 none 4 := ⟨⟨(zA_t 493 (by decide +kernel) rfl), (zA_t 8 (by decide +kernel) rfl), by decide +kernel, by decide +kernel, by decide +kernel⟩, (zA_t 492 (by decide +kernel) rfl), (zA_p (List.mem_of_getElem? (i := 5) (by decide +kernel)) rfl)⟩
theorem cal_X0_chance : CalV yX0_chance cX0_chance 5 (some .long) 3 := ⟨⟨(zA_t 504 (by decide +kernel) rfl), (zA_t 8 (by decide +kernel) rfl), by decide +kernel, by decide +kernel, by decide +kernel⟩, (zA_t 503 (by decide +kernel) rfl), (zA_p (List.mem_of_getElem? (i := 6) (by decide +kernel)) rfl)⟩
theorem cal_X1_clear : CalV yX1_clear cX1_clear 1 none 0 := ⟨⟨(zA_t 388 (by decide +kernel) rfl), (zA_t 6 (by decide +kernel) rfl), by decide +kernel, by decide +kernel, by decide +kernel⟩, (zA_t 386 (by decide +kernel) rfl), (zA_t 387 (by decide +kernel) rfl)⟩
theorem cal_X1_takeFrom : CalV yX1_takeFrom cX1_takeFrom 3 none 1 := ⟨⟨(zA_t 815 (by decide +kernel) rfl), (zA_t 6 (by decide +kernel) rfl), by decide +kernel, by decide +kernel, by decide +kernel⟩, (zA_t 813 (by decide +kernel) rfl), (zA_t 814 (by decide +kernel) rfl)⟩
theorem cal_X1_stage : CalV yX1_stage cX1_stage 1 (some .int) 0 := ⟨⟨(zA_t 426 (by decide +kernel) rfl), (zA_t 6 (by decide +kernel) rfl), by decide +kernel, by decide +kernel, by decide +kernel⟩, (zA_t 424 (by decide +kernel) rfl), (zA_t 425 (by decide +kernel) rfl)⟩
theorem cal_X1_bringOver : CalV yX1_bringOver cX1_bringOver 3 none 2 := ⟨⟨(zA_t 621 (by decide +kernel) rfl), (zA_t 6 (by decide +kernel) rfl), by decide +kernel, by decide +kernel, by decide +kernel⟩, (zA_t 619 (by decide +kernel) rfl), (zA_t 620 (by decide +kernel) rfl)⟩
theorem cal_X1_overMinute : CalV yX1_overMinute cX1_overMinute 2 (some .int) 1 := ⟨⟨(zA_t 565 (by decide +kernel) rfl), (zA_t 6 (by decide +kernel) rfl), by decide +kernel, by decide +kernel, by decide +kernel⟩, (zA_t 563 (by decide +kernel) rfl), (zA_t 564 (by decide +kernel) rfl)⟩
theorem cal_X1_say : CalV yX1_say cX1_say 3 none 2 := ⟨⟨(zA_t 696 (by decide +kernel) rfl), (zA_t 6 (by decide +kernel) rfl), by decide +kernel, by decide +kernel, by decide +kernel⟩, (zA_t 694 (by decide +kernel) rfl), (zA_t 695 (by decide +kernel) rfl)⟩
theorem cal_X1_saidAhead : CalV yX1_saidAhead cX1_saidAhead 2 (some .int) 1 := ⟨⟨(zA_t 710 (by decide +kernel) rfl), (zA_t 6 (by decide +kernel) rfl), by decide +kernel, by decide +kernel, by decide +kernel⟩, (zA_t 708 (by decide +kernel) rfl), (zA_t 709 (by decide +kernel) rfl)⟩
theorem cal_X1_addWreck : CalV yX1_addWreck cX1_addWreck 2 none 1 := ⟨⟨(zA_t 749 (by decide +kernel) rfl), (zA_t 6 (by decide +kernel) rfl), by decide +kernel, by decide +kernel, by decide +kernel⟩, (zA_t 747 (by decide +kernel) rfl), (zA_t 748 (by decide +kernel) rfl)⟩
theorem cal_X1_firstStation : CalV yX1_firstStation cX1_firstStation 2 (some .int) 1 := ⟨⟨(zA_t 770 (by decide +kernel) rfl), (zA_t 6 (by decide +kernel) rfl), by decide +kernel, by decide +kernel, by decide +kernel⟩, (zA_t 768 (by decide +kernel) rfl), (zA_t 769 (by decide +kernel) rfl)⟩
theorem cal_X1_fewestStations : CalV yX1_fewestStations cX1_fewestStations 6 (some .int) 1 := ⟨⟨(zA_t 757 (by decide +kernel) rfl), (zA_t 6 (by decide +kernel) rfl), by decide +kernel, by decide +kernel, by decide +kernel⟩, (zA_t 755 (by decide +kernel) rfl), (zA_t 756 (by decide +kernel) rfl)⟩
theorem cal_X1_stationFor : CalV yX1_stationFor cX1_stationFor 3 (some .int) 2 := ⟨⟨(zA_t 765 (by decide +kernel) rfl), (zA_t 6 (by decide +kernel) rfl), by decide +kernel, by decide +kernel, by decide +kernel⟩, (zA_t 764 (by decide +kernel) rfl), (zA_p (List.mem_of_getElem? (i := 15) (by decide +kernel)) rfl)⟩
theorem cal_X1_leastWreckFrom : CalV yX1_leastWreckFrom cX1_leastWreckFrom 5 (some .int) 1 := ⟨⟨(zA_t 761 (by decide +kernel) rfl), (zA_t 6 (by decide +kernel) rfl), by decide +kernel, by decide +kernel, by decide +kernel⟩, (zA_t 760 (by decide +kernel) rfl), (zA_p (List.mem_of_getElem? (i := 14) (by decide +kernel)) rfl)⟩
theorem cal_X2_clear : CalV yX2_clear cX2_clear 1 none 0 := ⟨⟨(zA_t 381 (by decide +kernel) rfl), (zA_t 5 (by decide +kernel) rfl), by decide +kernel, by decide +kernel, by decide +kernel⟩, (zA_t 379 (by decide +kernel) rfl), (zA_t 380 (by decide +kernel) rfl)⟩
theorem cal_X2_has : CalV yX2_has cX2_has 2 (some .boolean) 1 := ⟨⟨(zA_t 538 (by decide +kernel) rfl), (zA_t 5 (by decide +kernel) rfl), by decide +kernel, by decide +kernel, by decide +kernel⟩, (zA_t 536 (by decide +kernel) rfl), (zA_t 537 (by decide +kernel) rfl)⟩
theorem cal_X2_add : CalV yX2_add cX2_add 3 (some .int) 2 := ⟨⟨(zA_t 529 (by decide +kernel) rfl), (zA_t 5 (by decide +kernel) rfl), by decide +kernel, by decide +kernel, by decide +kernel⟩, (zA_t 527 (by decide +kernel) rfl), (zA_t 528 (by decide +kernel) rfl)⟩
theorem cal_X2_all : CalV yX2_all cX2_all 1 (some .int) 0 := ⟨⟨(zA_t 649 (by decide +kernel) rfl), (zA_t 5 (by decide +kernel) rfl), by decide +kernel, by decide +kernel, by decide +kernel⟩, (zA_t 647 (by decide +kernel) rfl), (zA_t 648 (by decide +kernel) rfl)⟩
theorem cal_X2_kind : CalV yX2_kind cX2_kind 2 (some .int) 1 := ⟨⟨(zA_t 542 (by decide +kernel) rfl), (zA_t 5 (by decide +kernel) rfl), by decide +kernel, by decide +kernel, by decide +kernel⟩, (zA_t 540 (by decide +kernel) rfl), (zA_t 541 (by decide +kernel) rfl)⟩
theorem cal_X2_weight : CalV yX2_weight cX2_weight 2 (some .int) 1 := ⟨⟨(zA_t 547 (by decide +kernel) rfl), (zA_t 5 (by decide +kernel) rfl), by decide +kernel, by decide +kernel, by decide +kernel⟩, (zA_t 545 (by decide +kernel) rfl), (zA_t 546 (by decide +kernel) rfl)⟩
theorem cal_X2_isOf : CalV yX2_isOf cX2_isOf 4 (some .boolean) 2 := ⟨⟨(zA_t 595 (by decide +kernel) rfl), (zA_t 5 (by decide +kernel) rfl), by decide +kernel, by decide +kernel, by decide +kernel⟩, (zA_t 593 (by decide +kernel) rfl), (zA_t 594 (by decide +kernel) rfl)⟩
theorem cal_X2_putBehind : CalV yX2_putBehind cX2_putBehind 5 (some .boolean) 3 := ⟨⟨(zA_t 607 (by decide +kernel) rfl), (zA_t 5 (by decide +kernel) rfl), by decide +kernel, by decide +kernel, by decide +kernel⟩, (zA_t 605 (by decide +kernel) rfl), (zA_t 606 (by decide +kernel) rfl)⟩
theorem cal_X2_ahead : CalV yX2_ahead cX2_ahead 3 (some .int) 1 := ⟨⟨(zA_t 575 (by decide +kernel) rfl), (zA_t 5 (by decide +kernel) rfl), by decide +kernel, by decide +kernel, by decide +kernel⟩, (zA_t 573 (by decide +kernel) rfl), (zA_t 574 (by decide +kernel) rfl)⟩
theorem cal_X2_allButCaptains : CalV yX2_allButCaptains cX2_allButCaptains 3 (some .int) 0 := ⟨⟨(zA_t 579 (by decide +kernel) rfl), (zA_t 5 (by decide +kernel) rfl), by decide +kernel, by decide +kernel, by decide +kernel⟩, (zA_t 578 (by decide +kernel) rfl), (zA_p (List.mem_of_getElem? (i := 8) (by decide +kernel)) rfl)⟩
theorem cal_X2_sags : CalV yX2_sags cX2_sags 4 (some .boolean) 3 := ⟨⟨(zA_t 557 (by decide +kernel) rfl), (zA_t 5 (by decide +kernel) rfl), by decide +kernel, by decide +kernel, by decide +kernel⟩, (zA_t 555 (by decide +kernel) rfl), (zA_t 556 (by decide +kernel) rfl)⟩
theorem cal_X2_takes : CalV yX2_takes cX2_takes 5 (some .int) 3 := ⟨⟨(zA_t 551 (by decide +kernel) rfl), (zA_t 5 (by decide +kernel) rfl), by decide +kernel, by decide +kernel, by decide +kernel⟩, (zA_t 549 (by decide +kernel) rfl), (zA_t 550 (by decide +kernel) rfl)⟩
theorem cal_X4_search : CalV yX4_search cX4_search 7 none 3 := ⟨⟨(zA_t 645 (by decide +kernel) rfl), (zA_t 9 (by decide +kernel) rfl), by decide +kernel, by decide +kernel, by decide +kernel⟩, (zA_t 643 (by decide +kernel) rfl), (zA_t 644 (by decide +kernel) rfl)⟩
theorem cal_X4_isThere : CalV yX4_isThere cX4_isThere 1 (some .boolean) 0 := ⟨⟨(zA_t 675 (by decide +kernel) rfl), (zA_t 9 (by decide +kernel) rfl), by decide +kernel, by decide +kernel, by decide +kernel⟩, (zA_t 673 (by decide +kernel) rfl), (zA_t 674 (by decide +kernel) rfl)⟩
theorem cal_X4_most : CalV yX4_most cX4_most 1 (some .long) 0 := ⟨⟨(zA_t 687 (by decide +kernel) rfl), (zA_t 9 (by decide +kernel) rfl), by decide +kernel, by decide +kernel, by decide +kernel⟩, (zA_t 685 (by decide +kernel) rfl), (zA_t 686 (by decide +kernel) rfl)⟩
theorem cal_X4_manAt : CalV yX4_manAt cX4_manAt 5 (some .int) 1 := ⟨⟨(zA_t 680 (by decide +kernel) rfl), (zA_t 9 (by decide +kernel) rfl), by decide +kernel, by decide +kernel, by decide +kernel⟩, (zA_t 678 (by decide +kernel) rfl), (zA_t 679 (by decide +kernel) rfl)⟩
theorem cal_X4_findNext : CalV yX4_findNext cX4_findNext 6 none 2 := ⟨⟨(zA_t 654 (by decide +kernel) rfl), (zA_t 9 (by decide +kernel) rfl), by decide +kernel, by decide +kernel, by decide +kernel⟩, (zA_t 653 (by decide +kernel) rfl), (zA_p (List.mem_of_getElem? (i := 10) (by decide +kernel)) rfl)⟩
theorem cal_X4_minuteWith : CalS yX4_minuteWith cX4_minuteWith 6 (some .int) 4 := ⟨⟨(zA_t 663 (by decide +kernel) rfl), (zA_t 9 (by decide +kernel) rfl), by decide +kernel, by decide +kernel, by decide +kernel⟩, (zA_t 662 (by decide +kernel) rfl)⟩
theorem cal_X4_holding : CalS yX4_holding cX4_holding 6 (some .long) 3 := ⟨⟨(zA_t 667 (by decide +kernel) rfl), (zA_t 9 (by decide +kernel) rfl), by decide +kernel, by decide +kernel, by decide +kernel⟩, (zA_t 666 (by decide +kernel) rfl)⟩
theorem cal_X5_add : CalV yX5_add cX5_add 2 none 1 := ⟨⟨(zA_t 319 (by decide +kernel) rfl), (zA_t 2 (by decide +kernel) rfl), by decide +kernel, by decide +kernel, by decide +kernel⟩, (zA_t 317 (by decide +kernel) rfl), (zA_t 318 (by decide +kernel) rfl)⟩
theorem cal_X5_clear : CalV yX5_clear cX5_clear 1 none 0 := ⟨⟨(zA_t 330 (by decide +kernel) rfl), (zA_t 2 (by decide +kernel) rfl), by decide +kernel, by decide +kernel, by decide +kernel⟩, (zA_t 328 (by decide +kernel) rfl), (zA_t 329 (by decide +kernel) rfl)⟩
theorem cal_X5_letterAt : CalV yX5_letterAt cX5_letterAt 2 (some .int) 1 := ⟨⟨(zA_t 346 (by decide +kernel) rfl), (zA_t 2 (by decide +kernel) rfl), by decide +kernel, by decide +kernel, by decide +kernel⟩, (zA_t 344 (by decide +kernel) rfl), (zA_t 345 (by decide +kernel) rfl)⟩
theorem cal_X5_digitAt : CalV yX5_digitAt cX5_digitAt 2 (some .int) 1 := ⟨⟨(zA_t 353 (by decide +kernel) rfl), (zA_t 2 (by decide +kernel) rfl), by decide +kernel, by decide +kernel, by decide +kernel⟩, (zA_t 351 (by decide +kernel) rfl), (zA_t 352 (by decide +kernel) rfl)⟩
theorem cal_X5_isNight : CalV yX5_isNight cX5_isNight 1 (some .boolean) 0 := ⟨⟨(zA_t 366 (by decide +kernel) rfl), (zA_t 2 (by decide +kernel) rfl), by decide +kernel, by decide +kernel, by decide +kernel⟩, (zA_t 364 (by decide +kernel) rfl), (zA_t 365 (by decide +kernel) rfl)⟩
theorem cal_X5_faultPlace : CalV yX5_faultPlace cX5_faultPlace 2 (some .int) 0 := ⟨⟨(zA_t 338 (by decide +kernel) rfl), (zA_t 2 (by decide +kernel) rfl), by decide +kernel, by decide +kernel, by decide +kernel⟩, (zA_t 336 (by decide +kernel) rfl), (zA_t 337 (by decide +kernel) rfl)⟩
theorem cal_X5_fits : CalV yX5_fits cX5_fits 2 (some .boolean) 1 := ⟨⟨(zA_t 342 (by decide +kernel) rfl), (zA_t 2 (by decide +kernel) rfl), by decide +kernel, by decide +kernel, by decide +kernel⟩, (zA_t 341 (by decide +kernel) rfl), (zA_p (List.mem_of_getElem? (i := 0) (by decide +kernel)) rfl)⟩
theorem cal_X5_gustsTo : CalV yX5_gustsTo cX5_gustsTo 4 (some .int) 1 := ⟨⟨(zA_t 358 (by decide +kernel) rfl), (zA_t 2 (by decide +kernel) rfl), by decide +kernel, by decide +kernel, by decide +kernel⟩, (zA_t 357 (by decide +kernel) rfl), (zA_p (List.mem_of_getElem? (i := 1) (by decide +kernel)) rfl)⟩
theorem cal_X6_clear : CalV yX6_clear cX6_clear 1 none 0 := ⟨⟨(zA_t 377 (by decide +kernel) rfl), (zA_t 4 (by decide +kernel) rfl), by decide +kernel, by decide +kernel, by decide +kernel⟩, (zA_t 375 (by decide +kernel) rfl), (zA_t 376 (by decide +kernel) rfl)⟩
theorem cal_X6_has : CalV yX6_has cX6_has 2 (some .boolean) 1 := ⟨⟨(zA_t 419 (by decide +kernel) rfl), (zA_t 4 (by decide +kernel) rfl), by decide +kernel, by decide +kernel, by decide +kernel⟩, (zA_t 417 (by decide +kernel) rfl), (zA_t 418 (by decide +kernel) rfl)⟩
theorem cal_X6_add : CalV yX6_add cX6_add 3 (some .int) 2 := ⟨⟨(zA_t 410 (by decide +kernel) rfl), (zA_t 4 (by decide +kernel) rfl), by decide +kernel, by decide +kernel, by decide +kernel⟩, (zA_t 408 (by decide +kernel) rfl), (zA_t 409 (by decide +kernel) rfl)⟩
theorem cal_X6_fallsAt : CalV yX6_fallsAt cX6_fallsAt 5 (some .int) 4 := ⟨⟨(zA_t 430 (by decide +kernel) rfl), (zA_t 4 (by decide +kernel) rfl), by decide +kernel, by decide +kernel, by decide +kernel⟩, (zA_t 428 (by decide +kernel) rfl), (zA_t 429 (by decide +kernel) rfl)⟩
theorem cal_X6_hitTenths : CalV yX6_hitTenths cX6_hitTenths 6 (some .int) 3 := ⟨⟨(zA_t 452 (by decide +kernel) rfl), (zA_t 4 (by decide +kernel) rfl), by decide +kernel, by decide +kernel, by decide +kernel⟩, (zA_t 450 (by decide +kernel) rfl), (zA_t 451 (by decide +kernel) rfl)⟩
theorem cal_X6_left : CalV yX6_left cX6_left 2 (some .int) 1 := ⟨⟨(zA_t 517 (by decide +kernel) rfl), (zA_t 4 (by decide +kernel) rfl), by decide +kernel, by decide +kernel, by decide +kernel⟩, (zA_t 515 (by decide +kernel) rfl), (zA_t 516 (by decide +kernel) rfl)⟩
theorem cal_X6_leastOf : CalV yX6_leastOf cX6_leastOf 3 (some .int) 1 := ⟨⟨(zA_t 784 (by decide +kernel) rfl), (zA_t 4 (by decide +kernel) rfl), by decide +kernel, by decide +kernel, by decide +kernel⟩, (zA_t 782 (by decide +kernel) rfl), (zA_t 783 (by decide +kernel) rfl)⟩
theorem cal_X7_read : CalV yX7_read cX7_read 3 none 1 := ⟨⟨(zA_t 371 (by decide +kernel) rfl), (zA_t 3 (by decide +kernel) rfl), by decide +kernel, by decide +kernel, by decide +kernel⟩, (zA_t 369 (by decide +kernel) rfl), (zA_t 370 (by decide +kernel) rfl)⟩
theorem cal_X7_tell : CalV yX7_tell cX7_tell 2 (some .int) 1 := ⟨⟨(zA_t 401 (by decide +kernel) rfl), (zA_t 3 (by decide +kernel) rfl), by decide +kernel, by decide +kernel, by decide +kernel⟩, (zA_t 399 (by decide +kernel) rfl), (zA_t 400 (by decide +kernel) rfl)⟩
theorem cal_X7_endMinute : CalV yX7_endMinute cX7_endMinute 1 (some .int) 0 := ⟨⟨(zA_t 587 (by decide +kernel) rfl), (zA_t 3 (by decide +kernel) rfl), by decide +kernel, by decide +kernel, by decide +kernel⟩, (zA_t 585 (by decide +kernel) rfl), (zA_t 586 (by decide +kernel) rfl)⟩
theorem cal_X7_gustTenths : CalV yX7_gustTenths cX7_gustTenths 2 (some .int) 1 := ⟨⟨(zA_t 458 (by decide +kernel) rfl), (zA_t 3 (by decide +kernel) rfl), by decide +kernel, by decide +kernel, by decide +kernel⟩, (zA_t 456 (by decide +kernel) rfl), (zA_t 457 (by decide +kernel) rfl)⟩
theorem cal_X7_breakTenths : CalV yX7_breakTenths cX7_breakTenths 2 (some .int) 1 := ⟨⟨(zA_t 497 (by decide +kernel) rfl), (zA_t 3 (by decide +kernel) rfl), by decide +kernel, by decide +kernel, by decide +kernel⟩, (zA_t 495 (by decide +kernel) rfl), (zA_t 496 (by decide +kernel) rfl)⟩
theorem cal_X7_isLast : CalV yX7_isLast cX7_isLast 2 (some .boolean) 1 := ⟨⟨(zA_t 806 (by decide +kernel) rfl), (zA_t 3 (by decide +kernel) rfl), by decide +kernel, by decide +kernel, by decide +kernel⟩, (zA_t 804 (by decide +kernel) rfl), (zA_t 805 (by decide +kernel) rfl)⟩
theorem cal_X7_drift : CalV yX7_drift cX7_drift 2 (some .int) 1 := ⟨⟨(zA_t 435 (by decide +kernel) rfl), (zA_t 3 (by decide +kernel) rfl), by decide +kernel, by decide +kernel, by decide +kernel⟩, (zA_t 433 (by decide +kernel) rfl), (zA_t 434 (by decide +kernel) rfl)⟩
theorem cal_X7_isRight : CalV yX7_isRight cX7_isRight 2 (some .boolean) 1 := ⟨⟨(zA_t 442 (by decide +kernel) rfl), (zA_t 3 (by decide +kernel) rfl), by decide +kernel, by decide +kernel, by decide +kernel⟩, (zA_t 440 (by decide +kernel) rfl), (zA_t 441 (by decide +kernel) rfl)⟩
theorem cal_X8_search : CalV yX8_search cX8_search 4 none 2 := ⟨⟨(zA_t 704 (by decide +kernel) rfl), (zA_t 10 (by decide +kernel) rfl), by decide +kernel, by decide +kernel, by decide +kernel⟩, (zA_t 702 (by decide +kernel) rfl), (zA_t 703 (by decide +kernel) rfl)⟩
theorem cal_X8_total : CalV yX8_total cX8_total 1 (some .int) 0 := ⟨⟨(zA_t 732 (by decide +kernel) rfl), (zA_t 10 (by decide +kernel) rfl), by decide +kernel, by decide +kernel, by decide +kernel⟩, (zA_t 730 (by decide +kernel) rfl), (zA_t 731 (by decide +kernel) rfl)⟩
theorem cal_X8_surePlace : CalV yX8_surePlace cX8_surePlace 5 (some .int) 1 := ⟨⟨(zA_t 740 (by decide +kernel) rfl), (zA_t 10 (by decide +kernel) rfl), by decide +kernel, by decide +kernel, by decide +kernel⟩, (zA_t 738 (by decide +kernel) rfl), (zA_t 739 (by decide +kernel) rfl)⟩
theorem cal_X8_countWays : CalV yX8_countWays cX8_countWays 4 none 0 := ⟨⟨(zA_t 715 (by decide +kernel) rfl), (zA_t 10 (by decide +kernel) rfl), by decide +kernel, by decide +kernel, by decide +kernel⟩, (zA_t 714 (by decide +kernel) rfl), (zA_p (List.mem_of_getElem? (i := 11) (by decide +kernel)) rfl)⟩
theorem cal_X8_countRests : CalV yX8_countRests cX8_countRests 3 none 0 := ⟨⟨(zA_t 728 (by decide +kernel) rfl), (zA_t 10 (by decide +kernel) rfl), by decide +kernel, by decide +kernel, by decide +kernel⟩, (zA_t 727 (by decide +kernel) rfl), (zA_p (List.mem_of_getElem? (i := 13) (by decide +kernel)) rfl)⟩
theorem cal_X8_mayFollow : CalV yX8_mayFollow cX8_mayFollow 3 (some .boolean) 2 := ⟨⟨(zA_t 720 (by decide +kernel) rfl), (zA_t 10 (by decide +kernel) rfl), by decide +kernel, by decide +kernel, by decide +kernel⟩, (zA_t 719 (by decide +kernel) rfl), (zA_p (List.mem_of_getElem? (i := 12) (by decide +kernel)) rfl)⟩
theorem cal_X9_run : CalV yX9_run cX9_run 9 none 4 := ⟨⟨(zA_t 778 (by decide +kernel) rfl), (zA_t 11 (by decide +kernel) rfl), by decide +kernel, by decide +kernel, by decide +kernel⟩, (zA_t 776 (by decide +kernel) rfl), (zA_t 777 (by decide +kernel) rfl)⟩
theorem cal_X9_drawGust : CalV yX9_drawGust cX9_drawGust 3 (some .int) 1 := ⟨⟨(zA_t 790 (by decide +kernel) rfl), (zA_t 11 (by decide +kernel) rfl), by decide +kernel, by decide +kernel, by decide +kernel⟩, (zA_t 789 (by decide +kernel) rfl), (zA_p (List.mem_of_getElem? (i := 16) (by decide +kernel)) rfl)⟩
theorem cal_X9_draw : CalV yX9_draw cX9_draw 1 (some .int) 0 := ⟨⟨(zA_t 794 (by decide +kernel) rfl), (zA_t 11 (by decide +kernel) rfl), by decide +kernel, by decide +kernel, by decide +kernel⟩, (zA_t 793 (by decide +kernel) rfl), (zA_p (List.mem_of_getElem? (i := 17) (by decide +kernel)) rfl)⟩
theorem cal_X10_letter : CalV yX10_letter cX10_letter 2 (some .int) 1 := ⟨⟨(zA_t 312 (by decide +kernel) rfl), (zA_t 1 (by decide +kernel) rfl), by decide +kernel, by decide +kernel, by decide +kernel⟩, (zA_t 310 (by decide +kernel) rfl), (zA_t 311 (by decide +kernel) rfl)⟩
theorem cal_X10_blank : CalV yX10_blank cX10_blank 2 (some .int) 0 := ⟨⟨(zA_t 326 (by decide +kernel) rfl), (zA_t 1 (by decide +kernel) rfl), by decide +kernel, by decide +kernel, by decide +kernel⟩, (zA_t 324 (by decide +kernel) rfl), (zA_t 325 (by decide +kernel) rfl)⟩
theorem cal_X10_fault : CalV yX10_fault cX10_fault 1 (some .int) 0 := ⟨⟨(zA_t 334 (by decide +kernel) rfl), (zA_t 1 (by decide +kernel) rfl), by decide +kernel, by decide +kernel, by decide +kernel⟩, (zA_t 332 (by decide +kernel) rfl), (zA_t 333 (by decide +kernel) rfl)⟩
theorem cal_X10_night : CalV yX10_night cX10_night 1 (some .int) 0 := ⟨⟨(zA_t 362 (by decide +kernel) rfl), (zA_t 1 (by decide +kernel) rfl), by decide +kernel, by decide +kernel, by decide +kernel⟩, (zA_t 360 (by decide +kernel) rfl), (zA_t 361 (by decide +kernel) rfl)⟩
theorem cal_X10_sea : CalV yX10_sea cX10_sea 2 (some .int) 1 := ⟨⟨(zA_t 393 (by decide +kernel) rfl), (zA_t 1 (by decide +kernel) rfl), by decide +kernel, by decide +kernel, by decide +kernel⟩, (zA_t 391 (by decide +kernel) rfl), (zA_t 392 (by decide +kernel) rfl)⟩
theorem cal_X10_rocket : CalV yX10_rocket cX10_rocket 3 (some .int) 2 := ⟨⟨(zA_t 406 (by decide +kernel) rfl), (zA_t 1 (by decide +kernel) rfl), by decide +kernel, by decide +kernel, by decide +kernel⟩, (zA_t 404 (by decide +kernel) rfl), (zA_t 405 (by decide +kernel) rfl)⟩
theorem cal_X10_fire : CalV yX10_fire cX10_fire 4 (some .int) 2 := ⟨⟨(zA_t 415 (by decide +kernel) rfl), (zA_t 1 (by decide +kernel) rfl), by decide +kernel, by decide +kernel, by decide +kernel⟩, (zA_t 413 (by decide +kernel) rfl), (zA_t 414 (by decide +kernel) rfl)⟩
theorem cal_X10_hits : CalV yX10_hits cX10_hits 4 (some .long) 3 := ⟨⟨(zA_t 446 (by decide +kernel) rfl), (zA_t 1 (by decide +kernel) rfl), by decide +kernel, by decide +kernel, by decide +kernel⟩, (zA_t 444 (by decide +kernel) rfl), (zA_t 445 (by decide +kernel) rfl)⟩
theorem cal_X10_aim : CalV yX10_aim cX10_aim 3 (some .long) 2 := ⟨⟨(zA_t 469 (by decide +kernel) rfl), (zA_t 1 (by decide +kernel) rfl), by decide +kernel, by decide +kernel, by decide +kernel⟩, (zA_t 467 (by decide +kernel) rfl), (zA_t 468 (by decide +kernel) rfl)⟩
theorem cal_X10_which : CalV yX10_which cX10_which 2 (some .int) 1 := ⟨⟨(zA_t 521 (by decide +kernel) rfl), (zA_t 1 (by decide +kernel) rfl), by decide +kernel, by decide +kernel, by decide +kernel⟩, (zA_t 519 (by decide +kernel) rfl), (zA_t 520 (by decide +kernel) rfl)⟩
theorem cal_X10_man : CalV yX10_man cX10_man 3 (some .int) 2 := ⟨⟨(zA_t 525 (by decide +kernel) rfl), (zA_t 1 (by decide +kernel) rfl), by decide +kernel, by decide +kernel, by decide +kernel⟩, (zA_t 523 (by decide +kernel) rfl), (zA_t 524 (by decide +kernel) rfl)⟩
theorem cal_X10_about : CalV yX10_about cX10_about 3 (some .int) 2 := ⟨⟨(zA_t 534 (by decide +kernel) rfl), (zA_t 1 (by decide +kernel) rfl), by decide +kernel, by decide +kernel, by decide +kernel⟩, (zA_t 532 (by decide +kernel) rfl), (zA_t 533 (by decide +kernel) rfl)⟩
theorem cal_X10_as : CalV yX10_as cX10_as 3 (some .int) 2 := ⟨⟨(zA_t 591 (by decide +kernel) rfl), (zA_t 1 (by decide +kernel) rfl), by decide +kernel, by decide +kernel, by decide +kernel⟩, (zA_t 589 (by decide +kernel) rfl), (zA_t 590 (by decide +kernel) rfl)⟩
theorem cal_X10_behind : CalV yX10_behind cX10_behind 4 (some .int) 3 := ⟨⟨(zA_t 599 (by decide +kernel) rfl), (zA_t 1 (by decide +kernel) rfl), by decide +kernel, by decide +kernel, by decide +kernel⟩, (zA_t 597 (by decide +kernel) rfl), (zA_t 598 (by decide +kernel) rfl)⟩
theorem cal_X10_hawser : CalV yX10_hawser cX10_hawser 3 (some .int) 1 := ⟨⟨(zA_t 613 (by decide +kernel) rfl), (zA_t 1 (by decide +kernel) rfl), by decide +kernel, by decide +kernel, by decide +kernel⟩, (zA_t 611 (by decide +kernel) rfl), (zA_t 612 (by decide +kernel) rfl)⟩
theorem cal_X10_come : CalV yX10_come cX10_come 2 (some .int) 1 := ⟨⟨(zA_t 617 (by decide +kernel) rfl), (zA_t 1 (by decide +kernel) rfl), by decide +kernel, by decide +kernel, by decide +kernel⟩, (zA_t 615 (by decide +kernel) rfl), (zA_t 616 (by decide +kernel) rfl)⟩
theorem cal_X10_minutes : CalV yX10_minutes cX10_minutes 2 (some .int) 1 := ⟨⟨(zA_t 627 (by decide +kernel) rfl), (zA_t 1 (by decide +kernel) rfl), by decide +kernel, by decide +kernel, by decide +kernel⟩, (zA_t 625 (by decide +kernel) rfl), (zA_t 626 (by decide +kernel) rfl)⟩
theorem cal_X10_breaks : CalV yX10_breaks cX10_breaks 1 (some .int) 0 := ⟨⟨(zA_t 631 (by decide +kernel) rfl), (zA_t 1 (by decide +kernel) rfl), by decide +kernel, by decide +kernel, by decide +kernel⟩, (zA_t 629 (by decide +kernel) rfl), (zA_t 630 (by decide +kernel) rfl)⟩
theorem cal_X10_order : CalV yX10_order cX10_order 2 (some .long) 1 := ⟨⟨(zA_t 641 (by decide +kernel) rfl), (zA_t 1 (by decide +kernel) rfl), by decide +kernel, by decide +kernel, by decide +kernel⟩, (zA_t 639 (by decide +kernel) rfl), (zA_t 640 (by decide +kernel) rfl)⟩
theorem cal_X10_said : CalV yX10_said cX10_said 3 (some .int) 2 := ⟨⟨(zA_t 692 (by decide +kernel) rfl), (zA_t 1 (by decide +kernel) rfl), by decide +kernel, by decide +kernel, by decide +kernel⟩, (zA_t 690 (by decide +kernel) rfl), (zA_t 691 (by decide +kernel) rfl)⟩
theorem cal_X10_orders : CalV yX10_orders cX10_orders 1 (some .int) 0 := ⟨⟨(zA_t 700 (by decide +kernel) rfl), (zA_t 1 (by decide +kernel) rfl), by decide +kernel, by decide +kernel, by decide +kernel⟩, (zA_t 698 (by decide +kernel) rfl), (zA_t 699 (by decide +kernel) rfl)⟩
theorem cal_X10_sure : CalV yX10_sure cX10_sure 2 (some .int) 1 := ⟨⟨(zA_t 736 (by decide +kernel) rfl), (zA_t 1 (by decide +kernel) rfl), by decide +kernel, by decide +kernel, by decide +kernel⟩, (zA_t 734 (by decide +kernel) rfl), (zA_t 735 (by decide +kernel) rfl)⟩
theorem cal_X10_wreck : CalV yX10_wreck cX10_wreck 2 (some .int) 1 := ⟨⟨(zA_t 745 (by decide +kernel) rfl), (zA_t 1 (by decide +kernel) rfl), by decide +kernel, by decide +kernel, by decide +kernel⟩, (zA_t 743 (by decide +kernel) rfl), (zA_t 744 (by decide +kernel) rfl)⟩
theorem cal_X10_stations : CalV yX10_stations cX10_stations 3 (some .int) 2 := ⟨⟨(zA_t 753 (by decide +kernel) rfl), (zA_t 1 (by decide +kernel) rfl), by decide +kernel, by decide +kernel, by decide +kernel⟩, (zA_t 751 (by decide +kernel) rfl), (zA_t 752 (by decide +kernel) rfl)⟩
theorem cal_X10_nights : CalV yX10_nights cX10_nights 3 (some .int) 2 := ⟨⟨(zA_t 774 (by decide +kernel) rfl), (zA_t 1 (by decide +kernel) rfl), by decide +kernel, by decide +kernel, by decide +kernel⟩, (zA_t 772 (by decide +kernel) rfl), (zA_t 773 (by decide +kernel) rfl)⟩
theorem cal_X10_image : CalV yX10_image cX10_image 1 (some .int) 0 := ⟨⟨(zA_t 811 (by decide +kernel) rfl), (zA_t 1 (by decide +kernel) rfl), by decide +kernel, by decide +kernel, by decide +kernel⟩, (zA_t 809 (by decide +kernel) rfl), (zA_t 810 (by decide +kernel) rfl)⟩
theorem cal_X10_restore : CalV yX10_restore cX10_restore 1 (some .int) 0 := ⟨⟨(zA_t 819 (by decide +kernel) rfl), (zA_t 1 (by decide +kernel) rfl), by decide +kernel, by decide +kernel, by decide +kernel⟩, (zA_t 817 (by decide +kernel) rfl), (zA_t 818 (by decide +kernel) rfl)⟩
theorem cal_X10_count : CalV yX10_count cX10_count 2 (some .int) 1 := ⟨⟨(zA_t 823 (by decide +kernel) rfl), (zA_t 1 (by decide +kernel) rfl), by decide +kernel, by decide +kernel, by decide +kernel⟩, (zA_t 821 (by decide +kernel) rfl), (zA_t 822 (by decide +kernel) rfl)⟩
theorem cal_X10_digest : CalV yX10_digest cX10_digest 5 (some .long) 0 := ⟨⟨(zA_t 827 (by decide +kernel) rfl), (zA_t 1 (by decide +kernel) rfl), by decide +kernel, by decide +kernel, by decide +kernel⟩, (zA_t 825 (by decide +kernel) rfl), (zA_t 826 (by decide +kernel) rfl)⟩
theorem cal_X10_mixSea : CalV yX10_mixSea cX10_mixSea 6 (some .long) 1 := ⟨⟨(zA_t 832 (by decide +kernel) rfl), (zA_t 1 (by decide +kernel) rfl), by decide +kernel, by decide +kernel, by decide +kernel⟩, (zA_t 831 (by decide +kernel) rfl), (zA_p (List.mem_of_getElem? (i := 18) (by decide +kernel)) rfl)⟩
theorem cal_X10_hasNight : CalV yX10_hasNight cX10_hasNight 1 (some .boolean) 0 := ⟨⟨(zA_t 397 (by decide +kernel) rfl), (zA_t 1 (by decide +kernel) rfl), by decide +kernel, by decide +kernel, by decide +kernel⟩, (zA_t 396 (by decide +kernel) rfl), (zA_p (List.mem_of_getElem? (i := 2) (by decide +kernel)) rfl)⟩
theorem cal_X10_isAfloat : CalV yX10_isAfloat cX10_isAfloat 1 (some .boolean) 0 := ⟨⟨(zA_t 477 (by decide +kernel) rfl), (zA_t 1 (by decide +kernel) rfl), by decide +kernel, by decide +kernel, by decide +kernel⟩, (zA_t 476 (by decide +kernel) rfl), (zA_p (List.mem_of_getElem? (i := 4) (by decide +kernel)) rfl)⟩
theorem cal_X10_canAim : CalV yX10_canAim cX10_canAim 1 (some .boolean) 0 := ⟨⟨(zA_t 473 (by decide +kernel) rfl), (zA_t 1 (by decide +kernel) rfl), by decide +kernel, by decide +kernel, by decide +kernel⟩, (zA_t 472 (by decide +kernel) rfl), (zA_p (List.mem_of_getElem? (i := 3) (by decide +kernel)) rfl)⟩
theorem cal_X10_areTwoMen : CalV yX10_areTwoMen cX10_areTwoMen 3 (some .boolean) 2 := ⟨⟨(zA_t 603 (by decide +kernel) rfl), (zA_t 1 (by decide +kernel) rfl), by decide +kernel, by decide +kernel, by decide +kernel⟩, (zA_t 602 (by decide +kernel) rfl), (zA_p (List.mem_of_getElem? (i := 9) (by decide +kernel)) rfl)⟩
theorem cal_X10_mayCome : CalV yX10_mayCome cX10_mayCome 2 (some .boolean) 1 := ⟨⟨(zA_t 571 (by decide +kernel) rfl), (zA_t 1 (by decide +kernel) rfl), by decide +kernel, by decide +kernel, by decide +kernel⟩, (zA_t 570 (by decide +kernel) rfl), (zA_p (List.mem_of_getElem? (i := 7) (by decide +kernel)) rfl)⟩
theorem cal_X10_isOutside : CalS yX10_isOutside cX10_isOutside 3 (some .boolean) 3 := ⟨⟨(zA_t 315 (by decide +kernel) rfl), (zA_t 1 (by decide +kernel) rfl), by decide +kernel, by decide +kernel, by decide +kernel⟩, (zA_t 314 (by decide +kernel) rfl)⟩
theorem cal_X10_asNumber : CalS yX10_asNumber cX10_asNumber 1 (some .int) 1 := ⟨⟨(zA_t 561 (by decide +kernel) rfl), (zA_t 1 (by decide +kernel) rfl), by decide +kernel, by decide +kernel, by decide +kernel⟩, (zA_t 560 (by decide +kernel) rfl)⟩
theorem cal_X10_mix : CalS yX10_mix cX10_mix 4 (some .long) 2 := ⟨⟨(zA_t 836 (by decide +kernel) rfl), (zA_t 1 (by decide +kernel) rfl), by decide +kernel, by decide +kernel, by decide +kernel⟩, (zA_t 835 (by decide +kernel) rfl)⟩
theorem cal_X10_isIn : CalS yX10_isIn cX10_isIn 2 (some .boolean) 2 := ⟨⟨(zA_t 422 (by decide +kernel) rfl), (zA_t 1 (by decide +kernel) rfl), by decide +kernel, by decide +kernel, by decide +kernel⟩, (zA_t 421 (by decide +kernel) rfl)⟩
theorem cal_X10_with : CalS yX10_with cX10_with 2 (some .int) 2 := ⟨⟨(zA_t 438 (by decide +kernel) rfl), (zA_t 1 (by decide +kernel) rfl), by decide +kernel, by decide +kernel, by decide +kernel⟩, (zA_t 437 (by decide +kernel) rfl)⟩
theorem cal_X10_without : CalS yX10_without cX10_without 2 (some .int) 2 := ⟨⟨(zA_t 509 (by decide +kernel) rfl), (zA_t 1 (by decide +kernel) rfl), by decide +kernel, by decide +kernel, by decide +kernel⟩, (zA_t 508 (by decide +kernel) rfl)⟩
theorem cal_X10_holdsAll : CalS yX10_holdsAll cX10_holdsAll 2 (some .boolean) 2 := ⟨⟨(zA_t 583 (by decide +kernel) rfl), (zA_t 1 (by decide +kernel) rfl), by decide +kernel, by decide +kernel, by decide +kernel⟩, (zA_t 582 (by decide +kernel) rfl)⟩
theorem cal_X10_at : CalS yX10_at cX10_at 2 (some .int) 2 := ⟨⟨(zA_t 349 (by decide +kernel) rfl), (zA_t 1 (by decide +kernel) rfl), by decide +kernel, by decide +kernel, by decide +kernel⟩, (zA_t 348 (by decide +kernel) rfl)⟩
theorem cal_X10_at_ : CalS yX10_at_ cX10_at_ 2 (some .long) 2 := ⟨⟨(zA_t 500 (by decide +kernel) rfl), (zA_t 1 (by decide +kernel) rfl), by decide +kernel, by decide +kernel, by decide +kernel⟩, (zA_t 499 (by decide +kernel) rfl)⟩
theorem cal_X10_put : CalS yX10_put cX10_put 3 none 3 := ⟨⟨(zA_t 322 (by decide +kernel) rfl), (zA_t 1 (by decide +kernel) rfl), by decide +kernel, by decide +kernel, by decide +kernel⟩, (zA_t 321 (by decide +kernel) rfl)⟩
theorem cal_X10_put_ : CalS yX10_put_ cX10_put_ 4 none 3 := ⟨⟨(zA_t 512 (by decide +kernel) rfl), (zA_t 1 (by decide +kernel) rfl), by decide +kernel, by decide +kernel, by decide +kernel⟩, (zA_t 511 (by decide +kernel) rfl)⟩
theorem cal_X10_inLowestTerms : CalS yX10_inLowestTerms cX10_inLowestTerms 7 (some .long) 3 := ⟨⟨(zA_t 462 (by decide +kernel) rfl), (zA_t 1 (by decide +kernel) rfl), by decide +kernel, by decide +kernel, by decide +kernel⟩, (zA_t 461 (by decide +kernel) rfl)⟩
theorem cal_X10_commonDivisor : CalS yX10_commonDivisor cX10_commonDivisor 11 (some .long) 2 := ⟨⟨(zA_t 465 (by decide +kernel) rfl), (zA_t 1 (by decide +kernel) rfl), by decide +kernel, by decide +kernel, by decide +kernel⟩, (zA_t 464 (by decide +kernel) rfl)⟩
theorem cal_X11_in : CalS yX11_in cX11_in 6 (some .boolean) 3 := ⟨⟨(zA_t 1005 (by decide +kernel) rfl), (zA_t 12 (by decide +kernel) rfl), by decide +kernel, by decide +kernel, by decide +kernel⟩, (zA_t 1004 (by decide +kernel) rfl)⟩
theorem cal_X11_letter : CalV yX11_letter cX11_letter 2 (some .int) 1 := ⟨⟨(zA_t 1001 (by decide +kernel) rfl), (zA_t 12 (by decide +kernel) rfl), by decide +kernel, by decide +kernel, by decide +kernel⟩, (zA_t 999 (by decide +kernel) rfl), (zA_t 1000 (by decide +kernel) rfl)⟩
theorem cal_X11_blank : CalV yX11_blank cX11_blank 2 (some .int) 0 := ⟨⟨(zA_t 1009 (by decide +kernel) rfl), (zA_t 12 (by decide +kernel) rfl), by decide +kernel, by decide +kernel, by decide +kernel⟩, (zA_t 1007 (by decide +kernel) rfl), (zA_t 1008 (by decide +kernel) rfl)⟩
theorem cal_X11_goGust : CalV yX11_goGust cX11_goGust 5 (some .boolean) 2 := ⟨⟨(zA_t 1026 (by decide +kernel) rfl), (zA_t 12 (by decide +kernel) rfl), by decide +kernel, by decide +kernel, by decide +kernel⟩, (zA_t 1025 (by decide +kernel) rfl), (zA_p (List.mem_of_getElem? (i := 21) (by decide +kernel)) rfl)⟩
theorem cal_X11_go : CalV yX11_go cX11_go 4 (some .boolean) 2 := ⟨⟨(zA_t 1021 (by decide +kernel) rfl), (zA_t 12 (by decide +kernel) rfl), by decide +kernel, by decide +kernel, by decide +kernel⟩, (zA_t 1020 (by decide +kernel) rfl), (zA_p (List.mem_of_getElem? (i := 20) (by decide +kernel)) rfl)⟩
theorem cal_X11_faultOf : CalV yX11_faultOf cX11_faultOf 2 (some .int) 0 := ⟨⟨(zA_t 1017 (by decide +kernel) rfl), (zA_t 12 (by decide +kernel) rfl), by decide +kernel, by decide +kernel, by decide +kernel⟩, (zA_t 1016 (by decide +kernel) rfl), (zA_p (List.mem_of_getElem? (i := 19) (by decide +kernel)) rfl)⟩
theorem cal_X11_fault : CalV yX11_fault cX11_fault 1 (some .int) 0 := ⟨⟨(zA_t 1013 (by decide +kernel) rfl), (zA_t 12 (by decide +kernel) rfl), by decide +kernel, by decide +kernel, by decide +kernel⟩, (zA_t 1011 (by decide +kernel) rfl), (zA_t 1012 (by decide +kernel) rfl)⟩
theorem cal_X11_night : CalV yX11_night cX11_night 2 (some .int) 0 := ⟨⟨(zA_t 1030 (by decide +kernel) rfl), (zA_t 12 (by decide +kernel) rfl), by decide +kernel, by decide +kernel, by decide +kernel⟩, (zA_t 1028 (by decide +kernel) rfl), (zA_t 1029 (by decide +kernel) rfl)⟩
theorem cal_X11_lacks : CalV yX11_lacks cX11_lacks 1 (some .boolean) 0 := ⟨⟨(zA_t 1041 (by decide +kernel) rfl), (zA_t 12 (by decide +kernel) rfl), by decide +kernel, by decide +kernel, by decide +kernel⟩, (zA_t 1040 (by decide +kernel) rfl), (zA_p (List.mem_of_getElem? (i := 22) (by decide +kernel)) rfl)⟩
theorem cal_X11_stageNow : CalV yX11_stageNow cX11_stageNow 1 (some .int) 0 := ⟨⟨(zA_t 1063 (by decide +kernel) rfl), (zA_t 12 (by decide +kernel) rfl), by decide +kernel, by decide +kernel, by decide +kernel⟩, (zA_t 1062 (by decide +kernel) rfl), (zA_p (List.mem_of_getElem? (i := 25) (by decide +kernel)) rfl)⟩
theorem cal_X11_tellSea : CalV yX11_tellSea cX11_tellSea 2 (some .int) 1 := ⟨⟨(zA_t 1045 (by decide +kernel) rfl), (zA_t 12 (by decide +kernel) rfl), by decide +kernel, by decide +kernel, by decide +kernel⟩, (zA_t 1044 (by decide +kernel) rfl), (zA_p (List.mem_of_getElem? (i := 23) (by decide +kernel)) rfl)⟩
theorem cal_X11_sea : CalV yX11_sea cX11_sea 2 (some .int) 1 := ⟨⟨(zA_t 1034 (by decide +kernel) rfl), (zA_t 12 (by decide +kernel) rfl), by decide +kernel, by decide +kernel, by decide +kernel⟩, (zA_t 1032 (by decide +kernel) rfl), (zA_t 1033 (by decide +kernel) rfl)⟩
theorem cal_X11_isRocket : CalV yX11_isRocket cX11_isRocket 2 (some .boolean) 1 := ⟨⟨(zA_t 1058 (by decide +kernel) rfl), (zA_t 12 (by decide +kernel) rfl), by decide +kernel, by decide +kernel, by decide +kernel⟩, (zA_t 1057 (by decide +kernel) rfl), (zA_p (List.mem_of_getElem? (i := 24) (by decide +kernel)) rfl)⟩
theorem cal_X11_rocket : CalV yX11_rocket cX11_rocket 3 (some .int) 2 := ⟨⟨(zA_t 1049 (by decide +kernel) rfl), (zA_t 12 (by decide +kernel) rfl), by decide +kernel, by decide +kernel, by decide +kernel⟩, (zA_t 1047 (by decide +kernel) rfl), (zA_t 1048 (by decide +kernel) rfl)⟩
theorem cal_X11_fallsAt : CalV yX11_fallsAt cX11_fallsAt 4 (some .int) 3 := ⟨⟨(zA_t 1067 (by decide +kernel) rfl), (zA_t 12 (by decide +kernel) rfl), by decide +kernel, by decide +kernel, by decide +kernel⟩, (zA_t 1066 (by decide +kernel) rfl), (zA_p (List.mem_of_getElem? (i := 26) (by decide +kernel)) rfl)⟩
theorem cal_X11_isRight : CalV yX11_isRight cX11_isRight 2 (some .boolean) 1 := ⟨⟨(zA_t 1071 (by decide +kernel) rfl), (zA_t 12 (by decide +kernel) rfl), by decide +kernel, by decide +kernel, by decide +kernel⟩, (zA_t 1070 (by decide +kernel) rfl), (zA_p (List.mem_of_getElem? (i := 27) (by decide +kernel)) rfl)⟩
theorem cal_X11_fire : CalV yX11_fire cX11_fire 4 (some .int) 2 := ⟨⟨(zA_t 1054 (by decide +kernel) rfl), (zA_t 12 (by decide +kernel) rfl), by decide +kernel, by decide +kernel, by decide +kernel⟩, (zA_t 1052 (by decide +kernel) rfl), (zA_t 1053 (by decide +kernel) rfl)⟩
theorem cal_X11_hitTenths : CalV yX11_hitTenths cX11_hitTenths 5 (some .int) 2 := ⟨⟨(zA_t 1081 (by decide +kernel) rfl), (zA_t 12 (by decide +kernel) rfl), by decide +kernel, by decide +kernel, by decide +kernel⟩, (zA_t 1080 (by decide +kernel) rfl), (zA_p (List.mem_of_getElem? (i := 28) (by decide +kernel)) rfl)⟩
theorem cal_X11_term : CalS yX11_term cX11_term 11 (some .long) 3 := ⟨⟨(zA_t 1084 (by decide +kernel) rfl), (zA_t 12 (by decide +kernel) rfl), by decide +kernel, by decide +kernel, by decide +kernel⟩, (zA_t 1083 (by decide +kernel) rfl)⟩
theorem cal_X11_hits : CalV yX11_hits cX11_hits 4 (some .long) 3 := ⟨⟨(zA_t 1075 (by decide +kernel) rfl), (zA_t 12 (by decide +kernel) rfl), by decide +kernel, by decide +kernel, by decide +kernel⟩, (zA_t 1073 (by decide +kernel) rfl), (zA_t 1074 (by decide +kernel) rfl)⟩
theorem cal_X11_leftBits : CalV yX11_leftBits cX11_leftBits 3 (some .int) 0 := ⟨⟨(zA_t 1105 (by decide +kernel) rfl), (zA_t 12 (by decide +kernel) rfl), by decide +kernel, by decide +kernel, by decide +kernel⟩, (zA_t 1104 (by decide +kernel) rfl), (zA_p (List.mem_of_getElem? (i := 32) (by decide +kernel)) rfl)⟩
theorem cal_X11_bestOf : CalV yX11_bestOf cX11_bestOf 14 (some .long) 3 := ⟨⟨(zA_t 1101 (by decide +kernel) rfl), (zA_t 12 (by decide +kernel) rfl), by decide +kernel, by decide +kernel, by decide +kernel⟩, (zA_t 1100 (by decide +kernel) rfl), (zA_p (List.mem_of_getElem? (i := 31) (by decide +kernel)) rfl)⟩
theorem cal_X11_aimOf : CalV yX11_aimOf cX11_aimOf 8 (some .long) 1 := ⟨⟨(zA_t 1096 (by decide +kernel) rfl), (zA_t 12 (by decide +kernel) rfl), by decide +kernel, by decide +kernel, by decide +kernel⟩, (zA_t 1095 (by decide +kernel) rfl), (zA_p (List.mem_of_getElem? (i := 30) (by decide +kernel)) rfl)⟩
theorem cal_X11_hundreds : CalS yX11_hundreds cX11_hundreds 4 (some .long) 1 := ⟨⟨(zA_t 1108 (by decide +kernel) rfl), (zA_t 12 (by decide +kernel) rfl), by decide +kernel, by decide +kernel, by decide +kernel⟩, (zA_t 1107 (by decide +kernel) rfl)⟩
theorem cal_X11_isAiming : CalV yX11_isAiming cX11_isAiming 1 (some .boolean) 0 := ⟨⟨(zA_t 1092 (by decide +kernel) rfl), (zA_t 12 (by decide +kernel) rfl), by decide +kernel, by decide +kernel, by decide +kernel⟩, (zA_t 1091 (by decide +kernel) rfl), (zA_p (List.mem_of_getElem? (i := 29) (by decide +kernel)) rfl)⟩
theorem cal_X11_aim : CalV yX11_aim cX11_aim 3 (some .long) 2 := ⟨⟨(zA_t 1088 (by decide +kernel) rfl), (zA_t 12 (by decide +kernel) rfl), by decide +kernel, by decide +kernel, by decide +kernel⟩, (zA_t 1086 (by decide +kernel) rfl), (zA_t 1087 (by decide +kernel) rfl)⟩
theorem cal_X11_which : CalV yX11_which cX11_which 4 (some .int) 1 := ⟨⟨(zA_t 1113 (by decide +kernel) rfl), (zA_t 12 (by decide +kernel) rfl), by decide +kernel, by decide +kernel, by decide +kernel⟩, (zA_t 1111 (by decide +kernel) rfl), (zA_t 1112 (by decide +kernel) rfl)⟩
theorem cal_X11_layLater : CalV yX11_layLater cX11_layLater 8 none 1 := ⟨⟨(zA_t 1117 (by decide +kernel) rfl), (zA_t 12 (by decide +kernel) rfl), by decide +kernel, by decide +kernel, by decide +kernel⟩, (zA_t 1116 (by decide +kernel) rfl), (zA_p (List.mem_of_getElem? (i := 33) (by decide +kernel)) rfl)⟩
theorem cal_X11_isMan : CalV yX11_isMan cX11_isMan 2 (some .boolean) 1 := ⟨⟨(zA_t 1130 (by decide +kernel) rfl), (zA_t 12 (by decide +kernel) rfl), by decide +kernel, by decide +kernel, by decide +kernel⟩, (zA_t 1129 (by decide +kernel) rfl), (zA_p (List.mem_of_getElem? (i := 34) (by decide +kernel)) rfl)⟩
theorem cal_X11_man : CalV yX11_man cX11_man 3 (some .int) 2 := ⟨⟨(zA_t 1121 (by decide +kernel) rfl), (zA_t 12 (by decide +kernel) rfl), by decide +kernel, by decide +kernel, by decide +kernel⟩, (zA_t 1119 (by decide +kernel) rfl), (zA_t 1120 (by decide +kernel) rfl)⟩
theorem cal_X11_sags : CalV yX11_sags cX11_sags 2 (some .boolean) 1 := ⟨⟨(zA_t 1142 (by decide +kernel) rfl), (zA_t 12 (by decide +kernel) rfl), by decide +kernel, by decide +kernel, by decide +kernel⟩, (zA_t 1141 (by decide +kernel) rfl), (zA_p (List.mem_of_getElem? (i := 37) (by decide +kernel)) rfl)⟩
theorem cal_X11_takes : CalV yX11_takes cX11_takes 4 (some .int) 1 := ⟨⟨(zA_t 1138 (by decide +kernel) rfl), (zA_t 12 (by decide +kernel) rfl), by decide +kernel, by decide +kernel, by decide +kernel⟩, (zA_t 1137 (by decide +kernel) rfl), (zA_p (List.mem_of_getElem? (i := 36) (by decide +kernel)) rfl)⟩
theorem cal_X11_overBits : CalV yX11_overBits cX11_overBits 3 (some .int) 0 := ⟨⟨(zA_t 1150 (by decide +kernel) rfl), (zA_t 12 (by decide +kernel) rfl), by decide +kernel, by decide +kernel, by decide +kernel⟩, (zA_t 1149 (by decide +kernel) rfl), (zA_p (List.mem_of_getElem? (i := 39) (by decide +kernel)) rfl)⟩
theorem cal_X11_canCome : CalV yX11_canCome cX11_canCome 5 (some .boolean) 2 := ⟨⟨(zA_t 1154 (by decide +kernel) rfl), (zA_t 12 (by decide +kernel) rfl), by decide +kernel, by decide +kernel, by decide +kernel⟩, (zA_t 1153 (by decide +kernel) rfl), (zA_p (List.mem_of_getElem? (i := 40) (by decide +kernel)) rfl)⟩
theorem cal_X11_mayCome : CalV yX11_mayCome cX11_mayCome 2 (some .boolean) 1 := ⟨⟨(zA_t 1146 (by decide +kernel) rfl), (zA_t 12 (by decide +kernel) rfl), by decide +kernel, by decide +kernel, by decide +kernel⟩, (zA_t 1145 (by decide +kernel) rfl), (zA_p (List.mem_of_getElem? (i := 38) (by decide +kernel)) rfl)⟩
theorem cal_X11_tellMan : CalV yX11_tellMan cX11_tellMan 3 (some .int) 2 := ⟨⟨(zA_t 1134 (by decide +kernel) rfl), (zA_t 12 (by decide +kernel) rfl), by decide +kernel, by decide +kernel, by decide +kernel⟩, (zA_t 1133 (by decide +kernel) rfl), (zA_p (List.mem_of_getElem? (i := 35) (by decide +kernel)) rfl)⟩
theorem cal_X11_about : CalV yX11_about cX11_about 3 (some .int) 2 := ⟨⟨(zA_t 1126 (by decide +kernel) rfl), (zA_t 12 (by decide +kernel) rfl), by decide +kernel, by decide +kernel, by decide +kernel⟩, (zA_t 1124 (by decide +kernel) rfl), (zA_t 1125 (by decide +kernel) rfl)⟩
theorem cal_X11_as : CalV yX11_as cX11_as 5 (some .int) 2 := ⟨⟨(zA_t 1158 (by decide +kernel) rfl), (zA_t 12 (by decide +kernel) rfl), by decide +kernel, by decide +kernel, by decide +kernel⟩, (zA_t 1156 (by decide +kernel) rfl), (zA_t 1157 (by decide +kernel) rfl)⟩
theorem cal_X11_behind : CalV yX11_behind cX11_behind 5 (some .int) 3 := ⟨⟨(zA_t 1162 (by decide +kernel) rfl), (zA_t 12 (by decide +kernel) rfl), by decide +kernel, by decide +kernel, by decide +kernel⟩, (zA_t 1160 (by decide +kernel) rfl), (zA_t 1161 (by decide +kernel) rfl)⟩
theorem cal_X11_hawser : CalV yX11_hawser cX11_hawser 3 (some .int) 1 := ⟨⟨(zA_t 1166 (by decide +kernel) rfl), (zA_t 12 (by decide +kernel) rfl), by decide +kernel, by decide +kernel, by decide +kernel⟩, (zA_t 1164 (by decide +kernel) rfl), (zA_t 1165 (by decide +kernel) rfl)⟩
theorem cal_X11_come : CalV yX11_come cX11_come 2 (some .int) 1 := ⟨⟨(zA_t 1171 (by decide +kernel) rfl), (zA_t 12 (by decide +kernel) rfl), by decide +kernel, by decide +kernel, by decide +kernel⟩, (zA_t 1169 (by decide +kernel) rfl), (zA_t 1170 (by decide +kernel) rfl)⟩
theorem cal_X11_minutes : CalV yX11_minutes cX11_minutes 2 (some .int) 1 := ⟨⟨(zA_t 1175 (by decide +kernel) rfl), (zA_t 12 (by decide +kernel) rfl), by decide +kernel, by decide +kernel, by decide +kernel⟩, (zA_t 1173 (by decide +kernel) rfl), (zA_t 1174 (by decide +kernel) rfl)⟩
theorem cal_X11_ones : CalS yX11_ones cX11_ones 3 (some .int) 1 := ⟨⟨(zA_t 1183 (by decide +kernel) rfl), (zA_t 12 (by decide +kernel) rfl), by decide +kernel, by decide +kernel, by decide +kernel⟩, (zA_t 1182 (by decide +kernel) rfl)⟩
theorem cal_X11_breaks : CalV yX11_breaks cX11_breaks 1 (some .int) 0 := ⟨⟨(zA_t 1180 (by decide +kernel) rfl), (zA_t 12 (by decide +kernel) rfl), by decide +kernel, by decide +kernel, by decide +kernel⟩, (zA_t 1178 (by decide +kernel) rfl), (zA_t 1179 (by decide +kernel) rfl)⟩
theorem cal_X11_firstOrder : CalV yX11_firstOrder cX11_firstOrder 3 none 1 := ⟨⟨(zA_t 1192 (by decide +kernel) rfl), (zA_t 12 (by decide +kernel) rfl), by decide +kernel, by decide +kernel, by decide +kernel⟩, (zA_t 1191 (by decide +kernel) rfl), (zA_p (List.mem_of_getElem? (i := 41) (by decide +kernel)) rfl)⟩
theorem cal_X11_nextOrder : CalV yX11_nextOrder cX11_nextOrder 6 (some .boolean) 0 := ⟨⟨(zA_t 1205 (by decide +kernel) rfl), (zA_t 12 (by decide +kernel) rfl), by decide +kernel, by decide +kernel, by decide +kernel⟩, (zA_t 1204 (by decide +kernel) rfl), (zA_p (List.mem_of_getElem? (i := 44) (by decide +kernel)) rfl)⟩
theorem cal_X11_holds : CalV yX11_holds cX11_holds 5 (some .long) 1 := ⟨⟨(zA_t 1200 (by decide +kernel) rfl), (zA_t 12 (by decide +kernel) rfl), by decide +kernel, by decide +kernel, by decide +kernel⟩, (zA_t 1199 (by decide +kernel) rfl), (zA_p (List.mem_of_getElem? (i := 43) (by decide +kernel)) rfl)⟩
theorem cal_X11_meanOf : CalV yX11_meanOf cX11_meanOf 6 (some .long) 0 := ⟨⟨(zA_t 1196 (by decide +kernel) rfl), (zA_t 12 (by decide +kernel) rfl), by decide +kernel, by decide +kernel, by decide +kernel⟩, (zA_t 1195 (by decide +kernel) rfl), (zA_p (List.mem_of_getElem? (i := 42) (by decide +kernel)) rfl)⟩
theorem cal_X11_order : CalV yX11_order cX11_order 8 (some .long) 1 := ⟨⟨(zA_t 1187 (by decide +kernel) rfl), (zA_t 12 (by decide +kernel) rfl), by decide +kernel, by decide +kernel, by decide +kernel⟩, (zA_t 1185 (by decide +kernel) rfl), (zA_t 1186 (by decide +kernel) rfl)⟩
theorem cal_X11_said : CalV yX11_said cX11_said 3 (some .int) 2 := ⟨⟨(zA_t 1209 (by decide +kernel) rfl), (zA_t 12 (by decide +kernel) rfl), by decide +kernel, by decide +kernel, by decide +kernel⟩, (zA_t 1207 (by decide +kernel) rfl), (zA_t 1208 (by decide +kernel) rfl)⟩
theorem cal_X11_placeOf : CalV yX11_placeOf cX11_placeOf 4 (some .int) 1 := ⟨⟨(zA_t 1225 (by decide +kernel) rfl), (zA_t 12 (by decide +kernel) rfl), by decide +kernel, by decide +kernel, by decide +kernel⟩, (zA_t 1224 (by decide +kernel) rfl), (zA_p (List.mem_of_getElem? (i := 47) (by decide +kernel)) rfl)⟩
theorem cal_X11_isSaidSo : CalV yX11_isSaidSo cX11_isSaidSo 6 (some .boolean) 0 := ⟨⟨(zA_t 1221 (by decide +kernel) rfl), (zA_t 12 (by decide +kernel) rfl), by decide +kernel, by decide +kernel, by decide +kernel⟩, (zA_t 1220 (by decide +kernel) rfl), (zA_p (List.mem_of_getElem? (i := 46) (by decide +kernel)) rfl)⟩
theorem cal_X11_layOrders : CalV yX11_layOrders cX11_layOrders 4 (some .int) 0 := ⟨⟨(zA_t 1217 (by decide +kernel) rfl), (zA_t 12 (by decide +kernel) rfl), by decide +kernel, by decide +kernel, by decide +kernel⟩, (zA_t 1216 (by decide +kernel) rfl), (zA_p (List.mem_of_getElem? (i := 45) (by decide +kernel)) rfl)⟩
theorem cal_X11_orders : CalV yX11_orders cX11_orders 1 (some .int) 0 := ⟨⟨(zA_t 1213 (by decide +kernel) rfl), (zA_t 12 (by decide +kernel) rfl), by decide +kernel, by decide +kernel, by decide +kernel⟩, (zA_t 1211 (by decide +kernel) rfl), (zA_t 1212 (by decide +kernel) rfl)⟩
theorem cal_X11_sure : CalV yX11_sure cX11_sure 4 (some .int) 1 := ⟨⟨(zA_t 1229 (by decide +kernel) rfl), (zA_t 12 (by decide +kernel) rfl), by decide +kernel, by decide +kernel, by decide +kernel⟩, (zA_t 1227 (by decide +kernel) rfl), (zA_t 1228 (by decide +kernel) rfl)⟩
theorem cal_X11_wreck : CalV yX11_wreck cX11_wreck 2 (some .int) 1 := ⟨⟨(zA_t 1233 (by decide +kernel) rfl), (zA_t 12 (by decide +kernel) rfl), by decide +kernel, by decide +kernel, by decide +kernel⟩, (zA_t 1231 (by decide +kernel) rfl), (zA_t 1232 (by decide +kernel) rfl)⟩
theorem cal_X11_stationsOf : CalV yX11_stationsOf cX11_stationsOf 9 (some .int) 2 := ⟨⟨(zA_t 1242 (by decide +kernel) rfl), (zA_t 12 (by decide +kernel) rfl), by decide +kernel, by decide +kernel, by decide +kernel⟩, (zA_t 1241 (by decide +kernel) rfl), (zA_p (List.mem_of_getElem? (i := 48) (by decide +kernel)) rfl)⟩
theorem cal_X11_stations : CalV yX11_stations cX11_stations 3 (some .int) 2 := ⟨⟨(zA_t 1238 (by decide +kernel) rfl), (zA_t 12 (by decide +kernel) rfl), by decide +kernel, by decide +kernel, by decide +kernel⟩, (zA_t 1236 (by decide +kernel) rfl), (zA_t 1237 (by decide +kernel) rfl)⟩
theorem cal_X11_draw : CalV yX11_draw cX11_draw 2 (some .int) 1 := ⟨⟨(zA_t 1251 (by decide +kernel) rfl), (zA_t 12 (by decide +kernel) rfl), by decide +kernel, by decide +kernel, by decide +kernel⟩, (zA_t 1250 (by decide +kernel) rfl), (zA_p (List.mem_of_getElem? (i := 49) (by decide +kernel)) rfl)⟩
theorem cal_X11_nights : CalV yX11_nights cX11_nights 12 (some .int) 2 := ⟨⟨(zA_t 1246 (by decide +kernel) rfl), (zA_t 12 (by decide +kernel) rfl), by decide +kernel, by decide +kernel, by decide +kernel⟩, (zA_t 1244 (by decide +kernel) rfl), (zA_t 1245 (by decide +kernel) rfl)⟩
theorem cal_X11_copy : CalS yX11_copy cX11_copy 3 none 2 := ⟨⟨(zA_t 1262 (by decide +kernel) rfl), (zA_t 12 (by decide +kernel) rfl), by decide +kernel, by decide +kernel, by decide +kernel⟩, (zA_t 1261 (by decide +kernel) rfl)⟩
theorem cal_X11_image : CalV yX11_image cX11_image 1 (some .int) 0 := ⟨⟨(zA_t 1259 (by decide +kernel) rfl), (zA_t 12 (by decide +kernel) rfl), by decide +kernel, by decide +kernel, by decide +kernel⟩, (zA_t 1257 (by decide +kernel) rfl), (zA_t 1258 (by decide +kernel) rfl)⟩
theorem cal_X11_restore : CalV yX11_restore cX11_restore 1 (some .int) 0 := ⟨⟨(zA_t 1266 (by decide +kernel) rfl), (zA_t 12 (by decide +kernel) rfl), by decide +kernel, by decide +kernel, by decide +kernel⟩, (zA_t 1264 (by decide +kernel) rfl), (zA_t 1265 (by decide +kernel) rfl)⟩
theorem cal_X11_countOf : CalV yX11_countOf cX11_countOf 2 (some .int) 1 := ⟨⟨(zA_t 1274 (by decide +kernel) rfl), (zA_t 12 (by decide +kernel) rfl), by decide +kernel, by decide +kernel, by decide +kernel⟩, (zA_t 1273 (by decide +kernel) rfl), (zA_p (List.mem_of_getElem? (i := 50) (by decide +kernel)) rfl)⟩
theorem cal_X11_count : CalV yX11_count cX11_count 2 (some .int) 1 := ⟨⟨(zA_t 1270 (by decide +kernel) rfl), (zA_t 12 (by decide +kernel) rfl), by decide +kernel, by decide +kernel, by decide +kernel⟩, (zA_t 1268 (by decide +kernel) rfl), (zA_t 1269 (by decide +kernel) rfl)⟩
theorem cal_X11_say : CalV yX11_say cX11_say 3 none 1 := ⟨⟨(zA_t 1283 (by decide +kernel) rfl), (zA_t 12 (by decide +kernel) rfl), by decide +kernel, by decide +kernel, by decide +kernel⟩, (zA_t 1282 (by decide +kernel) rfl), (zA_p (List.mem_of_getElem? (i := 51) (by decide +kernel)) rfl)⟩
theorem cal_X11_digest : CalV yX11_digest cX11_digest 3 (some .long) 0 := ⟨⟨(zA_t 1278 (by decide +kernel) rfl), (zA_t 12 (by decide +kernel) rfl), by decide +kernel, by decide +kernel, by decide +kernel⟩, (zA_t 1276 (by decide +kernel) rfl), (zA_t 1277 (by decide +kernel) rfl)⟩
theorem cal_J6_bitCount_0f7a4 : CalS yJ6_bitCount_0f7a4 cJ6_bitCount_0f7a4 1 (some .int) 1 := ⟨⟨(zA_t 634 (by decide +kernel) rfl), (zA_t 15 (by decide +kernel) rfl), by decide +kernel, by decide +kernel, by decide +kernel⟩, (zA_t 633 (by decide +kernel) rfl)⟩
theorem cal_J7_fill_d0a16 : CalS yJ7_fill_d0a16 cJ7_fill_d0a16 5 none 2 := ⟨⟨(zA_t 489 (by decide +kernel) rfl), (zA_t 13 (by decide +kernel) rfl), by decide +kernel, by decide +kernel, by decide +kernel⟩, (zA_t 488 (by decide +kernel) rfl)⟩
theorem cal_J7_fill_53178 : CalS yJ7_fill_53178 cJ7_fill_53178 4 none 2 := ⟨⟨(zA_t 384 (by decide +kernel) rfl), (zA_t 13 (by decide +kernel) rfl), by decide +kernel, by decide +kernel, by decide +kernel⟩, (zA_t 383 (by decide +kernel) rfl)⟩
theorem st_min : Cond.static Lib.Math.min.name ∈ zA := (zA_t 485 (by decide +kernel) rfl)
theorem in_min : Cond.initialized "java/lang/Math" ∈ zA := (zA_t 14 (by decide +kernel) rfl)
theorem co_min : Cond.code Lib.Math.min.name Lib.Math.min.code 2 (some .int) ∈ zA := (zA_t 486 (by decide +kernel) rfl)
end
section
theorem dX0_init_0 : decode cX0_init 0 = .ok (.aload_n 0, 1) := by decide +kernel
theorem dX0_init_1 : decode cX0_init 1 = .ok (.invokespecial 3, 3) := by decide +kernel
theorem dX0_init_4 : decode cX0_init 4 = .ok (.aload_n 0, 1) := by decide +kernel
theorem dX0_init_5 : decode cX0_init 5 = .ok (.bipush 64, 2) := by decide +kernel
theorem dX0_init_7 : decode cX0_init 7 = .ok (.newarray .long, 2) := by decide +kernel
theorem dX0_init_9 : decode cX0_init 9 = .ok (.putfield 9, 3) := by decide +kernel
theorem dX0_init_12 : decode cX0_init 12 = .ok (.return_, 1) := by decide +kernel
theorem dX0_search_0 : decode cX0_search 0 = .ok (.aload_n 3, 1) := by decide +kernel
theorem dX0_search_1 : decode cX0_search 1 = .ok (.invokevirtual 15, 3) := by decide +kernel
theorem dX0_search_4 : decode cX0_search 4 = .ok (.istore 5, 2) := by decide +kernel
theorem dX0_search_6 : decode cX0_search 6 = .ok (.iload 5, 2) := by decide +kernel
theorem dX0_search_8 : decode cX0_search 8 = .ok (.iload 4, 2) := by decide +kernel
theorem dX0_search_10 : decode cX0_search 10 = .ok (.iadd, 1) := by decide +kernel
theorem dX0_search_11 : decode cX0_search 11 = .ok (.aload_n 1, 1) := by decide +kernel
theorem dX0_search_12 : decode cX0_search 12 = .ok (.getfield 21, 3) := by decide +kernel
theorem dX0_search_15 : decode cX0_search 15 = .ok (.invokestatic 27, 3) := by decide +kernel
theorem dX0_search_18 : decode cX0_search 18 = .ok (.istore 6, 2) := by decide +kernel
theorem dX0_search_20 : decode cX0_search 20 = .ok (.aload_n 0, 1) := by decide +kernel
theorem dX0_search_21 : decode cX0_search 21 = .ok (.getfield 9, 3) := by decide +kernel
theorem dX0_search_24 : decode cX0_search 24 = .ok (.lconst 0, 1) := by decide +kernel
theorem dX0_search_25 : decode cX0_search 25 = .ok (.invokestatic 33, 3) := by decide +kernel
theorem dX0_search_28 : decode cX0_search 28 = .ok (.aload_n 0, 1) := by decide +kernel
theorem dX0_search_29 : decode cX0_search 29 = .ok (.lconst 1, 1) := by decide +kernel
theorem dX0_search_30 : decode cX0_search 30 = .ok (.putfield 39, 3) := by decide +kernel
theorem dX0_search_33 : decode cX0_search 33 = .ok (.iload 6, 2) := by decide +kernel
theorem dX0_search_35 : decode cX0_search 35 = .ok (.iconst 1, 1) := by decide +kernel
theorem dX0_search_36 : decode cX0_search 36 = .ok (.isub, 1) := by decide +kernel
theorem dX0_search_37 : decode cX0_search 37 = .ok (.istore 7, 2) := by decide +kernel
theorem dX0_search_39 : decode cX0_search 39 = .ok (.iload 7, 2) := by decide +kernel
theorem dX0_search_41 : decode cX0_search 41 = .ok (.iload 5, 2) := by decide +kernel
theorem dX0_search_43 : decode cX0_search 43 = .ok (.if_icmp .le 65, 3) := by decide +kernel
theorem dX0_search_46 : decode cX0_search 46 = .ok (.iconst 1, 1) := by decide +kernel
theorem dX0_search_47 : decode cX0_search 47 = .ok (.aload_n 2, 1) := by decide +kernel
theorem dX0_search_48 : decode cX0_search 48 = .ok (.getfield 43, 3) := by decide +kernel
theorem dX0_search_51 : decode cX0_search 51 = .ok (.ishl, 1) := by decide +kernel
theorem dX0_search_52 : decode cX0_search 52 = .ok (.iconst 1, 1) := by decide +kernel
theorem dX0_search_53 : decode cX0_search 53 = .ok (.isub, 1) := by decide +kernel
theorem dX0_search_54 : decode cX0_search 54 = .ok (.istore 8, 2) := by decide +kernel
theorem dX0_search_56 : decode cX0_search 56 = .ok (.iload 8, 2) := by decide +kernel
theorem dX0_search_58 : decode cX0_search 58 = .ok (.ifCond .lt 32, 3) := by decide +kernel
theorem dX0_search_61 : decode cX0_search 61 = .ok (.aload_n 0, 1) := by decide +kernel
theorem dX0_search_62 : decode cX0_search 62 = .ok (.aload_n 1, 1) := by decide +kernel
theorem dX0_search_63 : decode cX0_search 63 = .ok (.aload_n 2, 1) := by decide +kernel
theorem dX0_search_64 : decode cX0_search 64 = .ok (.iload 8, 2) := by decide +kernel
theorem dX0_search_66 : decode cX0_search 66 = .ok (.iload 7, 2) := by decide +kernel
theorem dX0_search_68 : decode cX0_search 68 = .ok (.invokevirtual 48, 3) := by decide +kernel
theorem dX0_search_71 : decode cX0_search 71 = .ok (.aload_n 0, 1) := by decide +kernel
theorem dX0_search_72 : decode cX0_search 72 = .ok (.getfield 9, 3) := by decide +kernel
theorem dX0_search_75 : decode cX0_search 75 = .ok (.iload 8, 2) := by decide +kernel
theorem dX0_search_77 : decode cX0_search 77 = .ok (.aload_n 0, 1) := by decide +kernel
theorem dX0_search_78 : decode cX0_search 78 = .ok (.getfield 52, 3) := by decide +kernel
theorem dX0_search_81 : decode cX0_search 81 = .ok (.invokestatic 55, 3) := by decide +kernel
theorem dX0_search_84 : decode cX0_search 84 = .ok (.iinc 8 (-1), 3) := by decide +kernel
theorem dX0_search_87 : decode cX0_search 87 = .ok (.goto (-31), 3) := by decide +kernel
theorem dX0_search_90 : decode cX0_search 90 = .ok (.aload_n 0, 1) := by decide +kernel
theorem dX0_search_91 : decode cX0_search 91 = .ok (.dup, 1) := by decide +kernel
theorem dX0_search_92 : decode cX0_search 92 = .ok (.getfield 39, 3) := by decide +kernel
theorem dX0_search_95 : decode cX0_search 95 = .ok (.ldc2_w 59, 3) := by decide +kernel
theorem dX0_search_98 : decode cX0_search 98 = .ok (.lmul, 1) := by decide +kernel
theorem dX0_search_99 : decode cX0_search 99 = .ok (.putfield 39, 3) := by decide +kernel
theorem dX0_search_102 : decode cX0_search 102 = .ok (.iinc 7 (-1), 3) := by decide +kernel
theorem dX0_search_105 : decode cX0_search 105 = .ok (.goto (-66), 3) := by decide +kernel
theorem dX0_search_108 : decode cX0_search 108 = .ok (.aload_n 0, 1) := by decide +kernel
theorem dX0_search_109 : decode cX0_search 109 = .ok (.aload_n 1, 1) := by decide +kernel
theorem dX0_search_110 : decode cX0_search 110 = .ok (.aload_n 2, 1) := by decide +kernel
theorem dX0_search_111 : decode cX0_search 111 = .ok (.aload_n 2, 1) := by decide +kernel
theorem dX0_search_112 : decode cX0_search 112 = .ok (.aload_n 3, 1) := by decide +kernel
theorem dX0_search_113 : decode cX0_search 113 = .ok (.getfield 61, 3) := by decide +kernel
theorem dX0_search_116 : decode cX0_search 116 = .ok (.invokevirtual 64, 3) := by decide +kernel
theorem dX0_search_119 : decode cX0_search 119 = .ok (.iload 5, 2) := by decide +kernel
theorem dX0_search_121 : decode cX0_search 121 = .ok (.invokevirtual 48, 3) := by decide +kernel
theorem dX0_search_124 : decode cX0_search 124 = .ok (.aload_n 0, 1) := by decide +kernel
theorem dX0_search_125 : decode cX0_search 125 = .ok (.dup, 1) := by decide +kernel
theorem dX0_search_126 : decode cX0_search 126 = .ok (.getfield 39, 3) := by decide +kernel
theorem dX0_search_129 : decode cX0_search 129 = .ok (.ldc2_w 59, 3) := by decide +kernel
theorem dX0_search_132 : decode cX0_search 132 = .ok (.lmul, 1) := by decide +kernel
theorem dX0_search_133 : decode cX0_search 133 = .ok (.putfield 39, 3) := by decide +kernel
theorem dX0_search_136 : decode cX0_search 136 = .ok (.return_, 1) := by decide +kernel
theorem dX0_findBest_0 : decode cX0_findBest 0 = .ok (.bipush 10, 2) := by decide +kernel
theorem dX0_findBest_2 : decode cX0_findBest 2 = .ok (.aload_n 1, 1) := by decide +kernel
theorem dX0_findBest_3 : decode cX0_findBest 3 = .ok (.iload 4, 2) := by decide +kernel
theorem dX0_findBest_5 : decode cX0_findBest 5 = .ok (.invokevirtual 68, 3) := by decide +kernel
theorem dX0_findBest_8 : decode cX0_findBest 8 = .ok (.isub, 1) := by decide +kernel
theorem dX0_findBest_9 : decode cX0_findBest 9 = .ok (.istore 5, 2) := by decide +kernel
theorem dX0_findBest_11 : decode cX0_findBest 11 = .ok (.aload_n 0, 1) := by decide +kernel
theorem dX0_findBest_12 : decode cX0_findBest 12 = .ok (.aload_n 0, 1) := by decide +kernel
theorem dX0_findBest_13 : decode cX0_findBest 13 = .ok (.iconst 0, 1) := by decide +kernel
theorem dX0_findBest_14 : decode cX0_findBest 14 = .ok (.iload 5, 2) := by decide +kernel
theorem dX0_findBest_16 : decode cX0_findBest 16 = .ok (.aload_n 0, 1) := by decide +kernel
theorem dX0_findBest_17 : decode cX0_findBest 17 = .ok (.getfield 9, 3) := by decide +kernel
theorem dX0_findBest_20 : decode cX0_findBest 20 = .ok (.iload_n 3, 1) := by decide +kernel
theorem dX0_findBest_21 : decode cX0_findBest 21 = .ok (.invokestatic 71, 3) := by decide +kernel
theorem dX0_findBest_24 : decode cX0_findBest 24 = .ok (.invokevirtual 75, 3) := by decide +kernel
theorem dX0_findBest_27 : decode cX0_findBest 27 = .ok (.putfield 52, 3) := by decide +kernel
theorem dX0_findBest_30 : decode cX0_findBest 30 = .ok (.aload_n 0, 1) := by decide +kernel
theorem dX0_findBest_31 : decode cX0_findBest 31 = .ok (.iconst (-1), 1) := by decide +kernel
theorem dX0_findBest_32 : decode cX0_findBest 32 = .ok (.putfield 79, 3) := by decide +kernel
theorem dX0_findBest_35 : decode cX0_findBest 35 = .ok (.iconst 0, 1) := by decide +kernel
theorem dX0_findBest_36 : decode cX0_findBest 36 = .ok (.istore 6, 2) := by decide +kernel
theorem dX0_findBest_38 : decode cX0_findBest 38 = .ok (.iload 6, 2) := by decide +kernel
theorem dX0_findBest_40 : decode cX0_findBest 40 = .ok (.aload_n 2, 1) := by decide +kernel
theorem dX0_findBest_41 : decode cX0_findBest 41 = .ok (.getfield 43, 3) := by decide +kernel
theorem dX0_findBest_44 : decode cX0_findBest 44 = .ok (.if_icmp .ge 74, 3) := by decide +kernel
theorem dX0_findBest_47 : decode cX0_findBest 47 = .ok (.iload_n 3, 1) := by decide +kernel
theorem dX0_findBest_48 : decode cX0_findBest 48 = .ok (.iload 6, 2) := by decide +kernel
theorem dX0_findBest_50 : decode cX0_findBest 50 = .ok (.invokestatic 82, 3) := by decide +kernel
theorem dX0_findBest_53 : decode cX0_findBest 53 = .ok (.ifCond .eq 59, 3) := by decide +kernel
theorem dX0_findBest_56 : decode cX0_findBest 56 = .ok (.aload_n 2, 1) := by decide +kernel
theorem dX0_findBest_57 : decode cX0_findBest 57 = .ok (.iload 6, 2) := by decide +kernel
theorem dX0_findBest_59 : decode cX0_findBest 59 = .ok (.iload 4, 2) := by decide +kernel
theorem dX0_findBest_61 : decode cX0_findBest 61 = .ok (.aload_n 1, 1) := by decide +kernel
theorem dX0_findBest_62 : decode cX0_findBest 62 = .ok (.invokevirtual 86, 3) := by decide +kernel
theorem dX0_findBest_65 : decode cX0_findBest 65 = .ok (.istore 7, 2) := by decide +kernel
theorem dX0_findBest_67 : decode cX0_findBest 67 = .ok (.aload_n 0, 1) := by decide +kernel
theorem dX0_findBest_68 : decode cX0_findBest 68 = .ok (.iload 7, 2) := by decide +kernel
theorem dX0_findBest_70 : decode cX0_findBest 70 = .ok (.iload 5, 2) := by decide +kernel
theorem dX0_findBest_72 : decode cX0_findBest 72 = .ok (.aload_n 0, 1) := by decide +kernel
theorem dX0_findBest_73 : decode cX0_findBest 73 = .ok (.getfield 9, 3) := by decide +kernel
theorem dX0_findBest_76 : decode cX0_findBest 76 = .ok (.iload_n 3, 1) := by decide +kernel
theorem dX0_findBest_77 : decode cX0_findBest 77 = .ok (.iload 6, 2) := by decide +kernel
theorem dX0_findBest_79 : decode cX0_findBest 79 = .ok (.invokestatic 90, 3) := by decide +kernel
theorem dX0_findBest_82 : decode cX0_findBest 82 = .ok (.invokestatic 71, 3) := by decide +kernel
theorem dX0_findBest_85 : decode cX0_findBest 85 = .ok (.invokevirtual 75, 3) := by decide +kernel
theorem dX0_findBest_88 : decode cX0_findBest 88 = .ok (.lstore 8, 2) := by decide +kernel
theorem dX0_findBest_90 : decode cX0_findBest 90 = .ok (.lload 8, 2) := by decide +kernel
theorem dX0_findBest_92 : decode cX0_findBest 92 = .ok (.aload_n 0, 1) := by decide +kernel
theorem dX0_findBest_93 : decode cX0_findBest 93 = .ok (.getfield 52, 3) := by decide +kernel
theorem dX0_findBest_96 : decode cX0_findBest 96 = .ok (.lcmp, 1) := by decide +kernel
theorem dX0_findBest_97 : decode cX0_findBest 97 = .ok (.ifCond .le 15, 3) := by decide +kernel
theorem dX0_findBest_100 : decode cX0_findBest 100 = .ok (.aload_n 0, 1) := by decide +kernel
theorem dX0_findBest_101 : decode cX0_findBest 101 = .ok (.lload 8, 2) := by decide +kernel
theorem dX0_findBest_103 : decode cX0_findBest 103 = .ok (.putfield 52, 3) := by decide +kernel
theorem dX0_findBest_106 : decode cX0_findBest 106 = .ok (.aload_n 0, 1) := by decide +kernel
theorem dX0_findBest_107 : decode cX0_findBest 107 = .ok (.iload 6, 2) := by decide +kernel
theorem dX0_findBest_109 : decode cX0_findBest 109 = .ok (.putfield 79, 3) := by decide +kernel
theorem dX0_findBest_112 : decode cX0_findBest 112 = .ok (.iinc 6 1, 3) := by decide +kernel
theorem dX0_findBest_115 : decode cX0_findBest 115 = .ok (.goto (-77), 3) := by decide +kernel
theorem dX0_findBest_118 : decode cX0_findBest 118 = .ok (.return_, 1) := by decide +kernel
theorem dX0_chance_0 : decode cX0_chance 0 = .ok (.bipush 10, 2) := by decide +kernel
theorem dX0_chance_2 : decode cX0_chance 2 = .ok (.iload_n 1, 1) := by decide +kernel
theorem dX0_chance_3 : decode cX0_chance 3 = .ok (.imul, 1) := by decide +kernel
theorem dX0_chance_4 : decode cX0_chance 4 = .ok (.i2l, 1) := by decide +kernel
theorem dX0_chance_5 : decode cX0_chance 5 = .ok (.aload_n 0, 1) := by decide +kernel
theorem dX0_chance_6 : decode cX0_chance 6 = .ok (.getfield 39, 3) := by decide +kernel
theorem dX0_chance_9 : decode cX0_chance 9 = .ok (.lmul, 1) := by decide +kernel
theorem dX0_chance_10 : decode cX0_chance 10 = .ok (.bipush 10, 2) := by decide +kernel
theorem dX0_chance_12 : decode cX0_chance 12 = .ok (.iload_n 1, 1) := by decide +kernel
theorem dX0_chance_13 : decode cX0_chance 13 = .ok (.isub, 1) := by decide +kernel
theorem dX0_chance_14 : decode cX0_chance 14 = .ok (.iload_n 2, 1) := by decide +kernel
theorem dX0_chance_15 : decode cX0_chance 15 = .ok (.imul, 1) := by decide +kernel
theorem dX0_chance_16 : decode cX0_chance 16 = .ok (.i2l, 1) := by decide +kernel
theorem dX0_chance_17 : decode cX0_chance 17 = .ok (.lload_n 3, 1) := by decide +kernel
theorem dX0_chance_18 : decode cX0_chance 18 = .ok (.lmul, 1) := by decide +kernel
theorem dX0_chance_19 : decode cX0_chance 19 = .ok (.ladd, 1) := by decide +kernel
theorem dX0_chance_20 : decode cX0_chance 20 = .ok (.lreturn, 1) := by decide +kernel
theorem dX1_init_0 : decode cX1_init 0 = .ok (.aload_n 0, 1) := by decide +kernel
theorem dX1_init_1 : decode cX1_init 1 = .ok (.invokespecial 3, 3) := by decide +kernel
theorem dX1_init_4 : decode cX1_init 4 = .ok (.aload_n 0, 1) := by decide +kernel
theorem dX1_init_5 : decode cX1_init 5 = .ok (.bipush 60, 2) := by decide +kernel
theorem dX1_init_7 : decode cX1_init 7 = .ok (.putfield 9, 3) := by decide +kernel
theorem dX1_init_10 : decode cX1_init 10 = .ok (.aload_n 0, 1) := by decide +kernel
theorem dX1_init_11 : decode cX1_init 11 = .ok (.bipush 6, 2) := by decide +kernel
theorem dX1_init_13 : decode cX1_init 13 = .ok (.newarray .int, 2) := by decide +kernel
theorem dX1_init_15 : decode cX1_init 15 = .ok (.putfield 15, 3) := by decide +kernel
theorem dX1_init_18 : decode cX1_init 18 = .ok (.aload_n 0, 1) := by decide +kernel
theorem dX1_init_19 : decode cX1_init 19 = .ok (.bipush 6, 2) := by decide +kernel
theorem dX1_init_21 : decode cX1_init 21 = .ok (.newarray .int, 2) := by decide +kernel
theorem dX1_init_23 : decode cX1_init 23 = .ok (.putfield 19, 3) := by decide +kernel
theorem dX1_init_26 : decode cX1_init 26 = .ok (.aload_n 0, 1) := by decide +kernel
theorem dX1_init_27 : decode cX1_init 27 = .ok (.bipush 8, 2) := by decide +kernel
theorem dX1_init_29 : decode cX1_init 29 = .ok (.newarray .int, 2) := by decide +kernel
theorem dX1_init_31 : decode cX1_init 31 = .ok (.putfield 22, 3) := by decide +kernel
theorem dX1_init_34 : decode cX1_init 34 = .ok (.return_, 1) := by decide +kernel
theorem dX1_clear_0 : decode cX1_clear 0 = .ok (.aload_n 0, 1) := by decide +kernel
theorem dX1_clear_1 : decode cX1_clear 1 = .ok (.iconst 0, 1) := by decide +kernel
theorem dX1_clear_2 : decode cX1_clear 2 = .ok (.putfield 25, 3) := by decide +kernel
theorem dX1_clear_5 : decode cX1_clear 5 = .ok (.aload_n 0, 1) := by decide +kernel
theorem dX1_clear_6 : decode cX1_clear 6 = .ok (.iconst 0, 1) := by decide +kernel
theorem dX1_clear_7 : decode cX1_clear 7 = .ok (.putfield 28, 3) := by decide +kernel
theorem dX1_clear_10 : decode cX1_clear 10 = .ok (.aload_n 0, 1) := by decide +kernel
theorem dX1_clear_11 : decode cX1_clear 11 = .ok (.iconst 0, 1) := by decide +kernel
theorem dX1_clear_12 : decode cX1_clear 12 = .ok (.putfield 32, 3) := by decide +kernel
theorem dX1_clear_15 : decode cX1_clear 15 = .ok (.aload_n 0, 1) := by decide +kernel
theorem dX1_clear_16 : decode cX1_clear 16 = .ok (.iconst 0, 1) := by decide +kernel
theorem dX1_clear_17 : decode cX1_clear 17 = .ok (.putfield 35, 3) := by decide +kernel
theorem dX1_clear_20 : decode cX1_clear 20 = .ok (.aload_n 0, 1) := by decide +kernel
theorem dX1_clear_21 : decode cX1_clear 21 = .ok (.iconst 0, 1) := by decide +kernel
theorem dX1_clear_22 : decode cX1_clear 22 = .ok (.putfield 38, 3) := by decide +kernel
theorem dX1_clear_25 : decode cX1_clear 25 = .ok (.aload_n 0, 1) := by decide +kernel
theorem dX1_clear_26 : decode cX1_clear 26 = .ok (.bipush 60, 2) := by decide +kernel
theorem dX1_clear_28 : decode cX1_clear 28 = .ok (.putfield 9, 3) := by decide +kernel
theorem dX1_clear_31 : decode cX1_clear 31 = .ok (.aload_n 0, 1) := by decide +kernel
theorem dX1_clear_32 : decode cX1_clear 32 = .ok (.iconst 0, 1) := by decide +kernel
theorem dX1_clear_33 : decode cX1_clear 33 = .ok (.putfield 41, 3) := by decide +kernel
theorem dX1_clear_36 : decode cX1_clear 36 = .ok (.aload_n 0, 1) := by decide +kernel
theorem dX1_clear_37 : decode cX1_clear 37 = .ok (.iconst 0, 1) := by decide +kernel
theorem dX1_clear_38 : decode cX1_clear 38 = .ok (.putfield 44, 3) := by decide +kernel
theorem dX1_clear_41 : decode cX1_clear 41 = .ok (.aload_n 0, 1) := by decide +kernel
theorem dX1_clear_42 : decode cX1_clear 42 = .ok (.getfield 19, 3) := by decide +kernel
theorem dX1_clear_45 : decode cX1_clear 45 = .ok (.iconst 0, 1) := by decide +kernel
theorem dX1_clear_46 : decode cX1_clear 46 = .ok (.invokestatic 47, 3) := by decide +kernel
theorem dX1_clear_49 : decode cX1_clear 49 = .ok (.return_, 1) := by decide +kernel
theorem dX1_takeFrom_0 : decode cX1_takeFrom 0 = .ok (.aload_n 0, 1) := by decide +kernel
theorem dX1_takeFrom_1 : decode cX1_takeFrom 1 = .ok (.aload_n 1, 1) := by decide +kernel
theorem dX1_takeFrom_2 : decode cX1_takeFrom 2 = .ok (.getfield 25, 3) := by decide +kernel
theorem dX1_takeFrom_5 : decode cX1_takeFrom 5 = .ok (.putfield 25, 3) := by decide +kernel
theorem dX1_takeFrom_8 : decode cX1_takeFrom 8 = .ok (.aload_n 0, 1) := by decide +kernel
theorem dX1_takeFrom_9 : decode cX1_takeFrom 9 = .ok (.aload_n 1, 1) := by decide +kernel
theorem dX1_takeFrom_10 : decode cX1_takeFrom 10 = .ok (.getfield 28, 3) := by decide +kernel
theorem dX1_takeFrom_13 : decode cX1_takeFrom 13 = .ok (.putfield 28, 3) := by decide +kernel
theorem dX1_takeFrom_16 : decode cX1_takeFrom 16 = .ok (.aload_n 0, 1) := by decide +kernel
theorem dX1_takeFrom_17 : decode cX1_takeFrom 17 = .ok (.aload_n 1, 1) := by decide +kernel
theorem dX1_takeFrom_18 : decode cX1_takeFrom 18 = .ok (.getfield 32, 3) := by decide +kernel
theorem dX1_takeFrom_21 : decode cX1_takeFrom 21 = .ok (.putfield 32, 3) := by decide +kernel
theorem dX1_takeFrom_24 : decode cX1_takeFrom 24 = .ok (.aload_n 0, 1) := by decide +kernel
theorem dX1_takeFrom_25 : decode cX1_takeFrom 25 = .ok (.aload_n 1, 1) := by decide +kernel
theorem dX1_takeFrom_26 : decode cX1_takeFrom 26 = .ok (.getfield 35, 3) := by decide +kernel
theorem dX1_takeFrom_29 : decode cX1_takeFrom 29 = .ok (.putfield 35, 3) := by decide +kernel
theorem dX1_takeFrom_32 : decode cX1_takeFrom 32 = .ok (.aload_n 0, 1) := by decide +kernel
theorem dX1_takeFrom_33 : decode cX1_takeFrom 33 = .ok (.aload_n 1, 1) := by decide +kernel
theorem dX1_takeFrom_34 : decode cX1_takeFrom 34 = .ok (.getfield 38, 3) := by decide +kernel
theorem dX1_takeFrom_37 : decode cX1_takeFrom 37 = .ok (.putfield 38, 3) := by decide +kernel
theorem dX1_takeFrom_40 : decode cX1_takeFrom 40 = .ok (.aload_n 0, 1) := by decide +kernel
theorem dX1_takeFrom_41 : decode cX1_takeFrom 41 = .ok (.aload_n 1, 1) := by decide +kernel
theorem dX1_takeFrom_42 : decode cX1_takeFrom 42 = .ok (.getfield 9, 3) := by decide +kernel
theorem dX1_takeFrom_45 : decode cX1_takeFrom 45 = .ok (.putfield 9, 3) := by decide +kernel
theorem dX1_takeFrom_48 : decode cX1_takeFrom 48 = .ok (.aload_n 0, 1) := by decide +kernel
theorem dX1_takeFrom_49 : decode cX1_takeFrom 49 = .ok (.aload_n 1, 1) := by decide +kernel
theorem dX1_takeFrom_50 : decode cX1_takeFrom 50 = .ok (.getfield 41, 3) := by decide +kernel
theorem dX1_takeFrom_53 : decode cX1_takeFrom 53 = .ok (.putfield 41, 3) := by decide +kernel
theorem dX1_takeFrom_56 : decode cX1_takeFrom 56 = .ok (.aload_n 0, 1) := by decide +kernel
theorem dX1_takeFrom_57 : decode cX1_takeFrom 57 = .ok (.aload_n 1, 1) := by decide +kernel
theorem dX1_takeFrom_58 : decode cX1_takeFrom 58 = .ok (.getfield 44, 3) := by decide +kernel
theorem dX1_takeFrom_61 : decode cX1_takeFrom 61 = .ok (.putfield 44, 3) := by decide +kernel
theorem dX1_takeFrom_64 : decode cX1_takeFrom 64 = .ok (.iconst 0, 1) := by decide +kernel
theorem dX1_takeFrom_65 : decode cX1_takeFrom 65 = .ok (.istore_n 2, 1) := by decide +kernel
theorem dX1_takeFrom_66 : decode cX1_takeFrom 66 = .ok (.iload_n 2, 1) := by decide +kernel
theorem dX1_takeFrom_67 : decode cX1_takeFrom 67 = .ok (.bipush 6, 2) := by decide +kernel
theorem dX1_takeFrom_69 : decode cX1_takeFrom 69 = .ok (.if_icmp .ge 41, 3) := by decide +kernel
theorem dX1_takeFrom_72 : decode cX1_takeFrom 72 = .ok (.aload_n 0, 1) := by decide +kernel
theorem dX1_takeFrom_73 : decode cX1_takeFrom 73 = .ok (.getfield 15, 3) := by decide +kernel
theorem dX1_takeFrom_76 : decode cX1_takeFrom 76 = .ok (.iload_n 2, 1) := by decide +kernel
theorem dX1_takeFrom_77 : decode cX1_takeFrom 77 = .ok (.aload_n 1, 1) := by decide +kernel
theorem dX1_takeFrom_78 : decode cX1_takeFrom 78 = .ok (.getfield 15, 3) := by decide +kernel
theorem dX1_takeFrom_81 : decode cX1_takeFrom 81 = .ok (.iload_n 2, 1) := by decide +kernel
theorem dX1_takeFrom_82 : decode cX1_takeFrom 82 = .ok (.invokestatic 53, 3) := by decide +kernel
theorem dX1_takeFrom_85 : decode cX1_takeFrom 85 = .ok (.invokestatic 57, 3) := by decide +kernel
theorem dX1_takeFrom_88 : decode cX1_takeFrom 88 = .ok (.aload_n 0, 1) := by decide +kernel
theorem dX1_takeFrom_89 : decode cX1_takeFrom 89 = .ok (.getfield 19, 3) := by decide +kernel
theorem dX1_takeFrom_92 : decode cX1_takeFrom 92 = .ok (.iload_n 2, 1) := by decide +kernel
theorem dX1_takeFrom_93 : decode cX1_takeFrom 93 = .ok (.aload_n 1, 1) := by decide +kernel
theorem dX1_takeFrom_94 : decode cX1_takeFrom 94 = .ok (.getfield 19, 3) := by decide +kernel
theorem dX1_takeFrom_97 : decode cX1_takeFrom 97 = .ok (.iload_n 2, 1) := by decide +kernel
theorem dX1_takeFrom_98 : decode cX1_takeFrom 98 = .ok (.invokestatic 53, 3) := by decide +kernel
theorem dX1_takeFrom_101 : decode cX1_takeFrom 101 = .ok (.invokestatic 57, 3) := by decide +kernel
theorem dX1_takeFrom_104 : decode cX1_takeFrom 104 = .ok (.iinc 2 1, 3) := by decide +kernel
theorem dX1_takeFrom_107 : decode cX1_takeFrom 107 = .ok (.goto (-41), 3) := by decide +kernel
theorem dX1_takeFrom_110 : decode cX1_takeFrom 110 = .ok (.iconst 0, 1) := by decide +kernel
theorem dX1_takeFrom_111 : decode cX1_takeFrom 111 = .ok (.istore_n 2, 1) := by decide +kernel
theorem dX1_takeFrom_112 : decode cX1_takeFrom 112 = .ok (.iload_n 2, 1) := by decide +kernel
theorem dX1_takeFrom_113 : decode cX1_takeFrom 113 = .ok (.bipush 8, 2) := by decide +kernel
theorem dX1_takeFrom_115 : decode cX1_takeFrom 115 = .ok (.if_icmp .ge 25, 3) := by decide +kernel
theorem dX1_takeFrom_118 : decode cX1_takeFrom 118 = .ok (.aload_n 0, 1) := by decide +kernel
theorem dX1_takeFrom_119 : decode cX1_takeFrom 119 = .ok (.getfield 22, 3) := by decide +kernel
theorem dX1_takeFrom_122 : decode cX1_takeFrom 122 = .ok (.iload_n 2, 1) := by decide +kernel
theorem dX1_takeFrom_123 : decode cX1_takeFrom 123 = .ok (.aload_n 1, 1) := by decide +kernel
theorem dX1_takeFrom_124 : decode cX1_takeFrom 124 = .ok (.getfield 22, 3) := by decide +kernel
theorem dX1_takeFrom_127 : decode cX1_takeFrom 127 = .ok (.iload_n 2, 1) := by decide +kernel
theorem dX1_takeFrom_128 : decode cX1_takeFrom 128 = .ok (.invokestatic 53, 3) := by decide +kernel
theorem dX1_takeFrom_131 : decode cX1_takeFrom 131 = .ok (.invokestatic 57, 3) := by decide +kernel
theorem dX1_takeFrom_134 : decode cX1_takeFrom 134 = .ok (.iinc 2 1, 3) := by decide +kernel
theorem dX1_takeFrom_137 : decode cX1_takeFrom 137 = .ok (.goto (-25), 3) := by decide +kernel
theorem dX1_takeFrom_140 : decode cX1_takeFrom 140 = .ok (.return_, 1) := by decide +kernel
theorem dX1_stage_0 : decode cX1_stage 0 = .ok (.aload_n 0, 1) := by decide +kernel
theorem dX1_stage_1 : decode cX1_stage 1 = .ok (.getfield 25, 3) := by decide +kernel
theorem dX1_stage_4 : decode cX1_stage 4 = .ok (.iconst 5, 1) := by decide +kernel
theorem dX1_stage_5 : decode cX1_stage 5 = .ok (.idiv, 1) := by decide +kernel
theorem dX1_stage_6 : decode cX1_stage 6 = .ok (.ireturn, 1) := by decide +kernel
theorem dX1_bringOver_0 : decode cX1_bringOver 0 = .ok (.aload_n 0, 1) := by decide +kernel
theorem dX1_bringOver_1 : decode cX1_bringOver 1 = .ok (.dup, 1) := by decide +kernel
theorem dX1_bringOver_2 : decode cX1_bringOver 2 = .ok (.getfield 25, 3) := by decide +kernel
theorem dX1_bringOver_5 : decode cX1_bringOver 5 = .ok (.iload_n 2, 1) := by decide +kernel
theorem dX1_bringOver_6 : decode cX1_bringOver 6 = .ok (.iadd, 1) := by decide +kernel
theorem dX1_bringOver_7 : decode cX1_bringOver 7 = .ok (.putfield 25, 3) := by decide +kernel
theorem dX1_bringOver_10 : decode cX1_bringOver 10 = .ok (.aload_n 0, 1) := by decide +kernel
theorem dX1_bringOver_11 : decode cX1_bringOver 11 = .ok (.aload_n 0, 1) := by decide +kernel
theorem dX1_bringOver_12 : decode cX1_bringOver 12 = .ok (.getfield 38, 3) := by decide +kernel
theorem dX1_bringOver_15 : decode cX1_bringOver 15 = .ok (.iload_n 1, 1) := by decide +kernel
theorem dX1_bringOver_16 : decode cX1_bringOver 16 = .ok (.invokestatic 61, 3) := by decide +kernel
theorem dX1_bringOver_19 : decode cX1_bringOver 19 = .ok (.putfield 38, 3) := by decide +kernel
theorem dX1_bringOver_22 : decode cX1_bringOver 22 = .ok (.aload_n 0, 1) := by decide +kernel
theorem dX1_bringOver_23 : decode cX1_bringOver 23 = .ok (.getfield 15, 3) := by decide +kernel
theorem dX1_bringOver_26 : decode cX1_bringOver 26 = .ok (.iload_n 1, 1) := by decide +kernel
theorem dX1_bringOver_27 : decode cX1_bringOver 27 = .ok (.aload_n 0, 1) := by decide +kernel
theorem dX1_bringOver_28 : decode cX1_bringOver 28 = .ok (.getfield 25, 3) := by decide +kernel
theorem dX1_bringOver_31 : decode cX1_bringOver 31 = .ok (.invokestatic 57, 3) := by decide +kernel
theorem dX1_bringOver_34 : decode cX1_bringOver 34 = .ok (.return_, 1) := by decide +kernel
theorem dX1_overMinute_0 : decode cX1_overMinute 0 = .ok (.aload_n 0, 1) := by decide +kernel
theorem dX1_overMinute_1 : decode cX1_overMinute 1 = .ok (.getfield 38, 3) := by decide +kernel
theorem dX1_overMinute_4 : decode cX1_overMinute 4 = .ok (.iload_n 1, 1) := by decide +kernel
theorem dX1_overMinute_5 : decode cX1_overMinute 5 = .ok (.invokestatic 65, 3) := by decide +kernel
theorem dX1_overMinute_8 : decode cX1_overMinute 8 = .ok (.ifCond .eq 14, 3) := by decide +kernel
theorem dX1_overMinute_11 : decode cX1_overMinute 11 = .ok (.aload_n 0, 1) := by decide +kernel
theorem dX1_overMinute_12 : decode cX1_overMinute 12 = .ok (.getfield 15, 3) := by decide +kernel
theorem dX1_overMinute_15 : decode cX1_overMinute 15 = .ok (.iload_n 1, 1) := by decide +kernel
theorem dX1_overMinute_16 : decode cX1_overMinute 16 = .ok (.invokestatic 53, 3) := by decide +kernel
theorem dX1_overMinute_19 : decode cX1_overMinute 19 = .ok (.goto 4, 3) := by decide +kernel
theorem dX1_overMinute_22 : decode cX1_overMinute 22 = .ok (.iconst (-1), 1) := by decide +kernel
theorem dX1_overMinute_23 : decode cX1_overMinute 23 = .ok (.ireturn, 1) := by decide +kernel
theorem dX1_say_0 : decode cX1_say 0 = .ok (.aload_n 0, 1) := by decide +kernel
theorem dX1_say_1 : decode cX1_say 1 = .ok (.getfield 19, 3) := by decide +kernel
theorem dX1_say_4 : decode cX1_say 4 = .ok (.iload_n 2, 1) := by decide +kernel
theorem dX1_say_5 : decode cX1_say 5 = .ok (.aload_n 0, 1) := by decide +kernel
theorem dX1_say_6 : decode cX1_say 6 = .ok (.getfield 19, 3) := by decide +kernel
theorem dX1_say_9 : decode cX1_say 9 = .ok (.iload_n 2, 1) := by decide +kernel
theorem dX1_say_10 : decode cX1_say 10 = .ok (.invokestatic 53, 3) := by decide +kernel
theorem dX1_say_13 : decode cX1_say 13 = .ok (.iload_n 1, 1) := by decide +kernel
theorem dX1_say_14 : decode cX1_say 14 = .ok (.invokestatic 61, 3) := by decide +kernel
theorem dX1_say_17 : decode cX1_say 17 = .ok (.invokestatic 57, 3) := by decide +kernel
theorem dX1_say_20 : decode cX1_say 20 = .ok (.aload_n 0, 1) := by decide +kernel
theorem dX1_say_21 : decode cX1_say 21 = .ok (.dup, 1) := by decide +kernel
theorem dX1_say_22 : decode cX1_say 22 = .ok (.getfield 41, 3) := by decide +kernel
theorem dX1_say_25 : decode cX1_say 25 = .ok (.iconst 1, 1) := by decide +kernel
theorem dX1_say_26 : decode cX1_say 26 = .ok (.iadd, 1) := by decide +kernel
theorem dX1_say_27 : decode cX1_say 27 = .ok (.putfield 41, 3) := by decide +kernel
theorem dX1_say_30 : decode cX1_say 30 = .ok (.return_, 1) := by decide +kernel
theorem dX1_saidAhead_0 : decode cX1_saidAhead 0 = .ok (.aload_n 0, 1) := by decide +kernel
theorem dX1_saidAhead_1 : decode cX1_saidAhead 1 = .ok (.getfield 19, 3) := by decide +kernel
theorem dX1_saidAhead_4 : decode cX1_saidAhead 4 = .ok (.iload_n 1, 1) := by decide +kernel
theorem dX1_saidAhead_5 : decode cX1_saidAhead 5 = .ok (.invokestatic 53, 3) := by decide +kernel
theorem dX1_saidAhead_8 : decode cX1_saidAhead 8 = .ok (.ireturn, 1) := by decide +kernel
theorem dX1_addWreck_0 : decode cX1_addWreck 0 = .ok (.aload_n 0, 1) := by decide +kernel
theorem dX1_addWreck_1 : decode cX1_addWreck 1 = .ok (.getfield 22, 3) := by decide +kernel
theorem dX1_addWreck_4 : decode cX1_addWreck 4 = .ok (.aload_n 0, 1) := by decide +kernel
theorem dX1_addWreck_5 : decode cX1_addWreck 5 = .ok (.getfield 44, 3) := by decide +kernel
theorem dX1_addWreck_8 : decode cX1_addWreck 8 = .ok (.iload_n 1, 1) := by decide +kernel
theorem dX1_addWreck_9 : decode cX1_addWreck 9 = .ok (.invokestatic 57, 3) := by decide +kernel
theorem dX1_addWreck_12 : decode cX1_addWreck 12 = .ok (.aload_n 0, 1) := by decide +kernel
theorem dX1_addWreck_13 : decode cX1_addWreck 13 = .ok (.dup, 1) := by decide +kernel
theorem dX1_addWreck_14 : decode cX1_addWreck 14 = .ok (.getfield 44, 3) := by decide +kernel
theorem dX1_addWreck_17 : decode cX1_addWreck 17 = .ok (.iconst 1, 1) := by decide +kernel
theorem dX1_addWreck_18 : decode cX1_addWreck 18 = .ok (.iadd, 1) := by decide +kernel
theorem dX1_addWreck_19 : decode cX1_addWreck 19 = .ok (.putfield 44, 3) := by decide +kernel
theorem dX1_addWreck_22 : decode cX1_addWreck 22 = .ok (.return_, 1) := by decide +kernel
theorem dX1_firstStation_0 : decode cX1_firstStation 0 = .ok (.aload_n 0, 1) := by decide +kernel
theorem dX1_firstStation_1 : decode cX1_firstStation 1 = .ok (.getfield 44, 3) := by decide +kernel
theorem dX1_firstStation_4 : decode cX1_firstStation 4 = .ok (.ifCond .ne 7, 3) := by decide +kernel
theorem dX1_firstStation_7 : decode cX1_firstStation 7 = .ok (.iconst (-1), 1) := by decide +kernel
theorem dX1_firstStation_8 : decode cX1_firstStation 8 = .ok (.goto 13, 3) := by decide +kernel
theorem dX1_firstStation_11 : decode cX1_firstStation 11 = .ok (.aload_n 0, 1) := by decide +kernel
theorem dX1_firstStation_12 : decode cX1_firstStation 12 = .ok (.aload_n 0, 1) := by decide +kernel
theorem dX1_firstStation_13 : decode cX1_firstStation 13 = .ok (.iconst 0, 1) := by decide +kernel
theorem dX1_firstStation_14 : decode cX1_firstStation 14 = .ok (.invokevirtual 69, 3) := by decide +kernel
theorem dX1_firstStation_17 : decode cX1_firstStation 17 = .ok (.iload_n 1, 1) := by decide +kernel
theorem dX1_firstStation_18 : decode cX1_firstStation 18 = .ok (.invokevirtual 73, 3) := by decide +kernel
theorem dX1_firstStation_21 : decode cX1_firstStation 21 = .ok (.ireturn, 1) := by decide +kernel
theorem dX1_fewestStations_0 : decode cX1_fewestStations 0 = .ok (.iconst 0, 1) := by decide +kernel
theorem dX1_fewestStations_1 : decode cX1_fewestStations 1 = .ok (.istore_n 2, 1) := by decide +kernel
theorem dX1_fewestStations_2 : decode cX1_fewestStations 2 = .ok (.iconst 0, 1) := by decide +kernel
theorem dX1_fewestStations_3 : decode cX1_fewestStations 3 = .ok (.istore_n 3, 1) := by decide +kernel
theorem dX1_fewestStations_4 : decode cX1_fewestStations 4 = .ok (.iconst 0, 1) := by decide +kernel
theorem dX1_fewestStations_5 : decode cX1_fewestStations 5 = .ok (.istore 4, 2) := by decide +kernel
theorem dX1_fewestStations_7 : decode cX1_fewestStations 7 = .ok (.iload 4, 2) := by decide +kernel
theorem dX1_fewestStations_9 : decode cX1_fewestStations 9 = .ok (.aload_n 0, 1) := by decide +kernel
theorem dX1_fewestStations_10 : decode cX1_fewestStations 10 = .ok (.getfield 44, 3) := by decide +kernel
theorem dX1_fewestStations_13 : decode cX1_fewestStations 13 = .ok (.if_icmp .ge 40, 3) := by decide +kernel
theorem dX1_fewestStations_16 : decode cX1_fewestStations 16 = .ok (.aload_n 0, 1) := by decide +kernel
theorem dX1_fewestStations_17 : decode cX1_fewestStations 17 = .ok (.iload_n 3, 1) := by decide +kernel
theorem dX1_fewestStations_18 : decode cX1_fewestStations 18 = .ok (.invokevirtual 69, 3) := by decide +kernel
theorem dX1_fewestStations_21 : decode cX1_fewestStations 21 = .ok (.istore 5, 2) := by decide +kernel
theorem dX1_fewestStations_23 : decode cX1_fewestStations 23 = .ok (.iload 5, 2) := by decide +kernel
theorem dX1_fewestStations_25 : decode cX1_fewestStations 25 = .ok (.bipush 99, 2) := by decide +kernel
theorem dX1_fewestStations_27 : decode cX1_fewestStations 27 = .ok (.if_icmp .le 5, 3) := by decide +kernel
theorem dX1_fewestStations_30 : decode cX1_fewestStations 30 = .ok (.iload_n 2, 1) := by decide +kernel
theorem dX1_fewestStations_31 : decode cX1_fewestStations 31 = .ok (.ireturn, 1) := by decide +kernel
theorem dX1_fewestStations_32 : decode cX1_fewestStations 32 = .ok (.aload_n 0, 1) := by decide +kernel
theorem dX1_fewestStations_33 : decode cX1_fewestStations 33 = .ok (.iload 5, 2) := by decide +kernel
theorem dX1_fewestStations_35 : decode cX1_fewestStations 35 = .ok (.iload_n 1, 1) := by decide +kernel
theorem dX1_fewestStations_36 : decode cX1_fewestStations 36 = .ok (.invokevirtual 73, 3) := by decide +kernel
theorem dX1_fewestStations_39 : decode cX1_fewestStations 39 = .ok (.iload_n 1, 1) := by decide +kernel
theorem dX1_fewestStations_40 : decode cX1_fewestStations 40 = .ok (.iadd, 1) := by decide +kernel
theorem dX1_fewestStations_41 : decode cX1_fewestStations 41 = .ok (.iconst 1, 1) := by decide +kernel
theorem dX1_fewestStations_42 : decode cX1_fewestStations 42 = .ok (.iadd, 1) := by decide +kernel
theorem dX1_fewestStations_43 : decode cX1_fewestStations 43 = .ok (.istore_n 3, 1) := by decide +kernel
theorem dX1_fewestStations_44 : decode cX1_fewestStations 44 = .ok (.iinc 2 1, 3) := by decide +kernel
theorem dX1_fewestStations_47 : decode cX1_fewestStations 47 = .ok (.iinc 4 1, 3) := by decide +kernel
theorem dX1_fewestStations_50 : decode cX1_fewestStations 50 = .ok (.goto (-43), 3) := by decide +kernel
theorem dX1_fewestStations_53 : decode cX1_fewestStations 53 = .ok (.iload_n 2, 1) := by decide +kernel
theorem dX1_fewestStations_54 : decode cX1_fewestStations 54 = .ok (.ireturn, 1) := by decide +kernel
theorem dX1_stationFor_0 : decode cX1_stationFor 0 = .ok (.iload_n 1, 1) := by decide +kernel
theorem dX1_stationFor_1 : decode cX1_stationFor 1 = .ok (.iload_n 2, 1) := by decide +kernel
theorem dX1_stationFor_2 : decode cX1_stationFor 2 = .ok (.iadd, 1) := by decide +kernel
theorem dX1_stationFor_3 : decode cX1_stationFor 3 = .ok (.bipush 99, 2) := by decide +kernel
theorem dX1_stationFor_5 : decode cX1_stationFor 5 = .ok (.invokestatic 76, 3) := by decide +kernel
theorem dX1_stationFor_8 : decode cX1_stationFor 8 = .ok (.ireturn, 1) := by decide +kernel
theorem dX1_leastWreckFrom_0 : decode cX1_leastWreckFrom 0 = .ok (.bipush 100, 2) := by decide +kernel
theorem dX1_leastWreckFrom_2 : decode cX1_leastWreckFrom 2 = .ok (.istore_n 2, 1) := by decide +kernel
theorem dX1_leastWreckFrom_3 : decode cX1_leastWreckFrom 3 = .ok (.iconst 0, 1) := by decide +kernel
theorem dX1_leastWreckFrom_4 : decode cX1_leastWreckFrom 4 = .ok (.istore_n 3, 1) := by decide +kernel
theorem dX1_leastWreckFrom_5 : decode cX1_leastWreckFrom 5 = .ok (.iload_n 3, 1) := by decide +kernel
theorem dX1_leastWreckFrom_6 : decode cX1_leastWreckFrom 6 = .ok (.aload_n 0, 1) := by decide +kernel
theorem dX1_leastWreckFrom_7 : decode cX1_leastWreckFrom 7 = .ok (.getfield 44, 3) := by decide +kernel
theorem dX1_leastWreckFrom_10 : decode cX1_leastWreckFrom 10 = .ok (.if_icmp .ge 34, 3) := by decide +kernel
theorem dX1_leastWreckFrom_13 : decode cX1_leastWreckFrom 13 = .ok (.aload_n 0, 1) := by decide +kernel
theorem dX1_leastWreckFrom_14 : decode cX1_leastWreckFrom 14 = .ok (.getfield 22, 3) := by decide +kernel
theorem dX1_leastWreckFrom_17 : decode cX1_leastWreckFrom 17 = .ok (.iload_n 3, 1) := by decide +kernel
theorem dX1_leastWreckFrom_18 : decode cX1_leastWreckFrom 18 = .ok (.invokestatic 53, 3) := by decide +kernel
theorem dX1_leastWreckFrom_21 : decode cX1_leastWreckFrom 21 = .ok (.istore 4, 2) := by decide +kernel
theorem dX1_leastWreckFrom_23 : decode cX1_leastWreckFrom 23 = .ok (.iload 4, 2) := by decide +kernel
theorem dX1_leastWreckFrom_25 : decode cX1_leastWreckFrom 25 = .ok (.iload_n 1, 1) := by decide +kernel
theorem dX1_leastWreckFrom_26 : decode cX1_leastWreckFrom 26 = .ok (.if_icmp .lt 12, 3) := by decide +kernel
theorem dX1_leastWreckFrom_29 : decode cX1_leastWreckFrom 29 = .ok (.iload 4, 2) := by decide +kernel
theorem dX1_leastWreckFrom_31 : decode cX1_leastWreckFrom 31 = .ok (.iload_n 2, 1) := by decide +kernel
theorem dX1_leastWreckFrom_32 : decode cX1_leastWreckFrom 32 = .ok (.if_icmp .ge 6, 3) := by decide +kernel
theorem dX1_leastWreckFrom_35 : decode cX1_leastWreckFrom 35 = .ok (.iload 4, 2) := by decide +kernel
theorem dX1_leastWreckFrom_37 : decode cX1_leastWreckFrom 37 = .ok (.istore_n 2, 1) := by decide +kernel
theorem dX1_leastWreckFrom_38 : decode cX1_leastWreckFrom 38 = .ok (.iinc 3 1, 3) := by decide +kernel
theorem dX1_leastWreckFrom_41 : decode cX1_leastWreckFrom 41 = .ok (.goto (-36), 3) := by decide +kernel
theorem dX1_leastWreckFrom_44 : decode cX1_leastWreckFrom 44 = .ok (.iload_n 2, 1) := by decide +kernel
theorem dX1_leastWreckFrom_45 : decode cX1_leastWreckFrom 45 = .ok (.ireturn, 1) := by decide +kernel
theorem dX2_init_0 : decode cX2_init 0 = .ok (.aload_n 0, 1) := by decide +kernel
theorem dX2_init_1 : decode cX2_init 1 = .ok (.invokespecial 3, 3) := by decide +kernel
theorem dX2_init_4 : decode cX2_init 4 = .ok (.aload_n 0, 1) := by decide +kernel
theorem dX2_init_5 : decode cX2_init 5 = .ok (.bipush 6, 2) := by decide +kernel
theorem dX2_init_7 : decode cX2_init 7 = .ok (.newarray .int, 2) := by decide +kernel
theorem dX2_init_9 : decode cX2_init 9 = .ok (.putfield 9, 3) := by decide +kernel
theorem dX2_init_12 : decode cX2_init 12 = .ok (.aload_n 0, 1) := by decide +kernel
theorem dX2_init_13 : decode cX2_init 13 = .ok (.bipush 6, 2) := by decide +kernel
theorem dX2_init_15 : decode cX2_init 15 = .ok (.newarray .int, 2) := by decide +kernel
theorem dX2_init_17 : decode cX2_init 17 = .ok (.putfield 15, 3) := by decide +kernel
theorem dX2_init_20 : decode cX2_init 20 = .ok (.aload_n 0, 1) := by decide +kernel
theorem dX2_init_21 : decode cX2_init 21 = .ok (.bipush 6, 2) := by decide +kernel
theorem dX2_init_23 : decode cX2_init 23 = .ok (.newarray .int, 2) := by decide +kernel
theorem dX2_init_25 : decode cX2_init 25 = .ok (.putfield 18, 3) := by decide +kernel
theorem dX2_init_28 : decode cX2_init 28 = .ok (.return_, 1) := by decide +kernel
theorem dX2_clear_0 : decode cX2_clear 0 = .ok (.aload_n 0, 1) := by decide +kernel
theorem dX2_clear_1 : decode cX2_clear 1 = .ok (.iconst 0, 1) := by decide +kernel
theorem dX2_clear_2 : decode cX2_clear 2 = .ok (.putfield 21, 3) := by decide +kernel
theorem dX2_clear_5 : decode cX2_clear 5 = .ok (.aload_n 0, 1) := by decide +kernel
theorem dX2_clear_6 : decode cX2_clear 6 = .ok (.getfield 18, 3) := by decide +kernel
theorem dX2_clear_9 : decode cX2_clear 9 = .ok (.iconst 0, 1) := by decide +kernel
theorem dX2_clear_10 : decode cX2_clear 10 = .ok (.invokestatic 25, 3) := by decide +kernel
theorem dX2_clear_13 : decode cX2_clear 13 = .ok (.return_, 1) := by decide +kernel
theorem dX2_has_0 : decode cX2_has 0 = .ok (.iload_n 1, 1) := by decide +kernel
theorem dX2_has_1 : decode cX2_has 1 = .ok (.ifCond .lt 15, 3) := by decide +kernel
theorem dX2_has_4 : decode cX2_has 4 = .ok (.iload_n 1, 1) := by decide +kernel
theorem dX2_has_5 : decode cX2_has 5 = .ok (.aload_n 0, 1) := by decide +kernel
theorem dX2_has_6 : decode cX2_has 6 = .ok (.getfield 21, 3) := by decide +kernel
theorem dX2_has_9 : decode cX2_has 9 = .ok (.if_icmp .ge 7, 3) := by decide +kernel
theorem dX2_has_12 : decode cX2_has 12 = .ok (.iconst 1, 1) := by decide +kernel
theorem dX2_has_13 : decode cX2_has 13 = .ok (.goto 4, 3) := by decide +kernel
theorem dX2_has_16 : decode cX2_has 16 = .ok (.iconst 0, 1) := by decide +kernel
theorem dX2_has_17 : decode cX2_has 17 = .ok (.ireturn, 1) := by decide +kernel
theorem dX2_add_0 : decode cX2_add 0 = .ok (.aload_n 0, 1) := by decide +kernel
theorem dX2_add_1 : decode cX2_add 1 = .ok (.getfield 9, 3) := by decide +kernel
theorem dX2_add_4 : decode cX2_add 4 = .ok (.aload_n 0, 1) := by decide +kernel
theorem dX2_add_5 : decode cX2_add 5 = .ok (.getfield 21, 3) := by decide +kernel
theorem dX2_add_8 : decode cX2_add 8 = .ok (.iload_n 1, 1) := by decide +kernel
theorem dX2_add_9 : decode cX2_add 9 = .ok (.invokestatic 31, 3) := by decide +kernel
theorem dX2_add_12 : decode cX2_add 12 = .ok (.aload_n 0, 1) := by decide +kernel
theorem dX2_add_13 : decode cX2_add 13 = .ok (.getfield 15, 3) := by decide +kernel
theorem dX2_add_16 : decode cX2_add 16 = .ok (.aload_n 0, 1) := by decide +kernel
theorem dX2_add_17 : decode cX2_add 17 = .ok (.getfield 21, 3) := by decide +kernel
theorem dX2_add_20 : decode cX2_add 20 = .ok (.iload_n 2, 1) := by decide +kernel
theorem dX2_add_21 : decode cX2_add 21 = .ok (.invokestatic 31, 3) := by decide +kernel
theorem dX2_add_24 : decode cX2_add 24 = .ok (.aload_n 0, 1) := by decide +kernel
theorem dX2_add_25 : decode cX2_add 25 = .ok (.dup, 1) := by decide +kernel
theorem dX2_add_26 : decode cX2_add 26 = .ok (.getfield 21, 3) := by decide +kernel
theorem dX2_add_29 : decode cX2_add 29 = .ok (.iconst 1, 1) := by decide +kernel
theorem dX2_add_30 : decode cX2_add 30 = .ok (.iadd, 1) := by decide +kernel
theorem dX2_add_31 : decode cX2_add 31 = .ok (.putfield 21, 3) := by decide +kernel
theorem dX2_add_34 : decode cX2_add 34 = .ok (.aload_n 0, 1) := by decide +kernel
theorem dX2_add_35 : decode cX2_add 35 = .ok (.getfield 21, 3) := by decide +kernel
theorem dX2_add_38 : decode cX2_add 38 = .ok (.iconst 1, 1) := by decide +kernel
theorem dX2_add_39 : decode cX2_add 39 = .ok (.isub, 1) := by decide +kernel
theorem dX2_add_40 : decode cX2_add 40 = .ok (.ireturn, 1) := by decide +kernel
theorem dX2_all_0 : decode cX2_all 0 = .ok (.iconst 1, 1) := by decide +kernel
theorem dX2_all_1 : decode cX2_all 1 = .ok (.aload_n 0, 1) := by decide +kernel
theorem dX2_all_2 : decode cX2_all 2 = .ok (.getfield 21, 3) := by decide +kernel
theorem dX2_all_5 : decode cX2_all 5 = .ok (.ishl, 1) := by decide +kernel
theorem dX2_all_6 : decode cX2_all 6 = .ok (.iconst 1, 1) := by decide +kernel
theorem dX2_all_7 : decode cX2_all 7 = .ok (.isub, 1) := by decide +kernel
theorem dX2_all_8 : decode cX2_all 8 = .ok (.ireturn, 1) := by decide +kernel
theorem dX2_kind_0 : decode cX2_kind 0 = .ok (.aload_n 0, 1) := by decide +kernel
theorem dX2_kind_1 : decode cX2_kind 1 = .ok (.getfield 9, 3) := by decide +kernel
theorem dX2_kind_4 : decode cX2_kind 4 = .ok (.iload_n 1, 1) := by decide +kernel
theorem dX2_kind_5 : decode cX2_kind 5 = .ok (.invokestatic 35, 3) := by decide +kernel
theorem dX2_kind_8 : decode cX2_kind 8 = .ok (.ireturn, 1) := by decide +kernel
theorem dX2_weight_0 : decode cX2_weight 0 = .ok (.aload_n 0, 1) := by decide +kernel
theorem dX2_weight_1 : decode cX2_weight 1 = .ok (.getfield 15, 3) := by decide +kernel
theorem dX2_weight_4 : decode cX2_weight 4 = .ok (.iload_n 1, 1) := by decide +kernel
theorem dX2_weight_5 : decode cX2_weight 5 = .ok (.invokestatic 35, 3) := by decide +kernel
theorem dX2_weight_8 : decode cX2_weight 8 = .ok (.ireturn, 1) := by decide +kernel
theorem dX2_isOf_0 : decode cX2_isOf 0 = .ok (.aload_n 0, 1) := by decide +kernel
theorem dX2_isOf_1 : decode cX2_isOf 1 = .ok (.iload_n 1, 1) := by decide +kernel
theorem dX2_isOf_2 : decode cX2_isOf 2 = .ok (.invokevirtual 39, 3) := by decide +kernel
theorem dX2_isOf_5 : decode cX2_isOf 5 = .ok (.istore_n 3, 1) := by decide +kernel
theorem dX2_isOf_6 : decode cX2_isOf 6 = .ok (.iload_n 2, 1) := by decide +kernel
theorem dX2_isOf_7 : decode cX2_isOf 7 = .ok (.ifCond .eq 18, 3) := by decide +kernel
theorem dX2_isOf_10 : decode cX2_isOf 10 = .ok (.iload_n 2, 1) := by decide +kernel
theorem dX2_isOf_11 : decode cX2_isOf 11 = .ok (.iload_n 3, 1) := by decide +kernel
theorem dX2_isOf_12 : decode cX2_isOf 12 = .ok (.if_icmp .eq 13, 3) := by decide +kernel
theorem dX2_isOf_15 : decode cX2_isOf 15 = .ok (.iload_n 2, 1) := by decide +kernel
theorem dX2_isOf_16 : decode cX2_isOf 16 = .ok (.iconst 2, 1) := by decide +kernel
theorem dX2_isOf_17 : decode cX2_isOf 17 = .ok (.if_icmp .ne 12, 3) := by decide +kernel
theorem dX2_isOf_20 : decode cX2_isOf 20 = .ok (.iload_n 3, 1) := by decide +kernel
theorem dX2_isOf_21 : decode cX2_isOf 21 = .ok (.iconst 4, 1) := by decide +kernel
theorem dX2_isOf_22 : decode cX2_isOf 22 = .ok (.if_icmp .ne 7, 3) := by decide +kernel
theorem dX2_isOf_25 : decode cX2_isOf 25 = .ok (.iconst 1, 1) := by decide +kernel
theorem dX2_isOf_26 : decode cX2_isOf 26 = .ok (.goto 4, 3) := by decide +kernel
theorem dX2_isOf_29 : decode cX2_isOf 29 = .ok (.iconst 0, 1) := by decide +kernel
theorem dX2_isOf_30 : decode cX2_isOf 30 = .ok (.ireturn, 1) := by decide +kernel
theorem dX2_putBehind_0 : decode cX2_putBehind 0 = .ok (.aload_n 0, 1) := by decide +kernel
theorem dX2_putBehind_1 : decode cX2_putBehind 1 = .ok (.getfield 18, 3) := by decide +kernel
theorem dX2_putBehind_4 : decode cX2_putBehind 4 = .ok (.iload_n 1, 1) := by decide +kernel
theorem dX2_putBehind_5 : decode cX2_putBehind 5 = .ok (.invokestatic 35, 3) := by decide +kernel
theorem dX2_putBehind_8 : decode cX2_putBehind 8 = .ok (.istore 4, 2) := by decide +kernel
theorem dX2_putBehind_10 : decode cX2_putBehind 10 = .ok (.aload_n 0, 1) := by decide +kernel
theorem dX2_putBehind_11 : decode cX2_putBehind 11 = .ok (.getfield 18, 3) := by decide +kernel
theorem dX2_putBehind_14 : decode cX2_putBehind 14 = .ok (.iload_n 1, 1) := by decide +kernel
theorem dX2_putBehind_15 : decode cX2_putBehind 15 = .ok (.iload_n 3, 1) := by decide +kernel
theorem dX2_putBehind_16 : decode cX2_putBehind 16 = .ok (.ifCond .eq 12, 3) := by decide +kernel
theorem dX2_putBehind_19 : decode cX2_putBehind 19 = .ok (.iload 4, 2) := by decide +kernel
theorem dX2_putBehind_21 : decode cX2_putBehind 21 = .ok (.iload_n 2, 1) := by decide +kernel
theorem dX2_putBehind_22 : decode cX2_putBehind 22 = .ok (.invokestatic 43, 3) := by decide +kernel
theorem dX2_putBehind_25 : decode cX2_putBehind 25 = .ok (.goto 9, 3) := by decide +kernel
theorem dX2_putBehind_28 : decode cX2_putBehind 28 = .ok (.iload 4, 2) := by decide +kernel
theorem dX2_putBehind_30 : decode cX2_putBehind 30 = .ok (.iload_n 2, 1) := by decide +kernel
theorem dX2_putBehind_31 : decode cX2_putBehind 31 = .ok (.invokestatic 47, 3) := by decide +kernel
theorem dX2_putBehind_34 : decode cX2_putBehind 34 = .ok (.invokestatic 31, 3) := by decide +kernel
theorem dX2_putBehind_37 : decode cX2_putBehind 37 = .ok (.iload 4, 2) := by decide +kernel
theorem dX2_putBehind_39 : decode cX2_putBehind 39 = .ok (.iload_n 2, 1) := by decide +kernel
theorem dX2_putBehind_40 : decode cX2_putBehind 40 = .ok (.invokestatic 50, 3) := by decide +kernel
theorem dX2_putBehind_43 : decode cX2_putBehind 43 = .ok (.ireturn, 1) := by decide +kernel
theorem dX2_ahead_0 : decode cX2_ahead 0 = .ok (.aload_n 0, 1) := by decide +kernel
theorem dX2_ahead_1 : decode cX2_ahead 1 = .ok (.getfield 18, 3) := by decide +kernel
theorem dX2_ahead_4 : decode cX2_ahead 4 = .ok (.iload_n 1, 1) := by decide +kernel
theorem dX2_ahead_5 : decode cX2_ahead 5 = .ok (.invokestatic 35, 3) := by decide +kernel
theorem dX2_ahead_8 : decode cX2_ahead 8 = .ok (.istore_n 2, 1) := by decide +kernel
theorem dX2_ahead_9 : decode cX2_ahead 9 = .ok (.aload_n 0, 1) := by decide +kernel
theorem dX2_ahead_10 : decode cX2_ahead 10 = .ok (.iload_n 1, 1) := by decide +kernel
theorem dX2_ahead_11 : decode cX2_ahead 11 = .ok (.invokevirtual 39, 3) := by decide +kernel
theorem dX2_ahead_14 : decode cX2_ahead 14 = .ok (.iconst 4, 1) := by decide +kernel
theorem dX2_ahead_15 : decode cX2_ahead 15 = .ok (.if_icmp .ne 12, 3) := by decide +kernel
theorem dX2_ahead_18 : decode cX2_ahead 18 = .ok (.iload_n 2, 1) := by decide +kernel
theorem dX2_ahead_19 : decode cX2_ahead 19 = .ok (.aload_n 0, 1) := by decide +kernel
theorem dX2_ahead_20 : decode cX2_ahead 20 = .ok (.invokevirtual 54, 3) := by decide +kernel
theorem dX2_ahead_23 : decode cX2_ahead 23 = .ok (.ior, 1) := by decide +kernel
theorem dX2_ahead_24 : decode cX2_ahead 24 = .ok (.goto 4, 3) := by decide +kernel
theorem dX2_ahead_27 : decode cX2_ahead 27 = .ok (.iload_n 2, 1) := by decide +kernel
theorem dX2_ahead_28 : decode cX2_ahead 28 = .ok (.ireturn, 1) := by decide +kernel
theorem dX2_allButCaptains_0 : decode cX2_allButCaptains 0 = .ok (.iconst 0, 1) := by decide +kernel
theorem dX2_allButCaptains_1 : decode cX2_allButCaptains 1 = .ok (.istore_n 1, 1) := by decide +kernel
theorem dX2_allButCaptains_2 : decode cX2_allButCaptains 2 = .ok (.iconst 0, 1) := by decide +kernel
theorem dX2_allButCaptains_3 : decode cX2_allButCaptains 3 = .ok (.istore_n 2, 1) := by decide +kernel
theorem dX2_allButCaptains_4 : decode cX2_allButCaptains 4 = .ok (.iload_n 2, 1) := by decide +kernel
theorem dX2_allButCaptains_5 : decode cX2_allButCaptains 5 = .ok (.aload_n 0, 1) := by decide +kernel
theorem dX2_allButCaptains_6 : decode cX2_allButCaptains 6 = .ok (.getfield 21, 3) := by decide +kernel
theorem dX2_allButCaptains_9 : decode cX2_allButCaptains 9 = .ok (.if_icmp .ge 24, 3) := by decide +kernel
theorem dX2_allButCaptains_12 : decode cX2_allButCaptains 12 = .ok (.aload_n 0, 1) := by decide +kernel
theorem dX2_allButCaptains_13 : decode cX2_allButCaptains 13 = .ok (.iload_n 2, 1) := by decide +kernel
theorem dX2_allButCaptains_14 : decode cX2_allButCaptains 14 = .ok (.invokevirtual 39, 3) := by decide +kernel
theorem dX2_allButCaptains_17 : decode cX2_allButCaptains 17 = .ok (.iconst 4, 1) := by decide +kernel
theorem dX2_allButCaptains_18 : decode cX2_allButCaptains 18 = .ok (.if_icmp .eq 9, 3) := by decide +kernel
theorem dX2_allButCaptains_21 : decode cX2_allButCaptains 21 = .ok (.iload_n 1, 1) := by decide +kernel
theorem dX2_allButCaptains_22 : decode cX2_allButCaptains 22 = .ok (.iload_n 2, 1) := by decide +kernel
theorem dX2_allButCaptains_23 : decode cX2_allButCaptains 23 = .ok (.invokestatic 43, 3) := by decide +kernel
theorem dX2_allButCaptains_26 : decode cX2_allButCaptains 26 = .ok (.istore_n 1, 1) := by decide +kernel
theorem dX2_allButCaptains_27 : decode cX2_allButCaptains 27 = .ok (.iinc 2 1, 3) := by decide +kernel
theorem dX2_allButCaptains_30 : decode cX2_allButCaptains 30 = .ok (.goto (-26), 3) := by decide +kernel
theorem dX2_allButCaptains_33 : decode cX2_allButCaptains 33 = .ok (.iload_n 1, 1) := by decide +kernel
theorem dX2_allButCaptains_34 : decode cX2_allButCaptains 34 = .ok (.ireturn, 1) := by decide +kernel
theorem dX2_sags_0 : decode cX2_sags 0 = .ok (.aload_n 0, 1) := by decide +kernel
theorem dX2_sags_1 : decode cX2_sags 1 = .ok (.iload_n 1, 1) := by decide +kernel
theorem dX2_sags_2 : decode cX2_sags 2 = .ok (.invokevirtual 58, 3) := by decide +kernel
theorem dX2_sags_5 : decode cX2_sags 5 = .ok (.iload_n 2, 1) := by decide +kernel
theorem dX2_sags_6 : decode cX2_sags 6 = .ok (.imul, 1) := by decide +kernel
theorem dX2_sags_7 : decode cX2_sags 7 = .ok (.bipush 50, 2) := by decide +kernel
theorem dX2_sags_9 : decode cX2_sags 9 = .ok (.idiv, 1) := by decide +kernel
theorem dX2_sags_10 : decode cX2_sags 10 = .ok (.iload_n 3, 1) := by decide +kernel
theorem dX2_sags_11 : decode cX2_sags 11 = .ok (.if_icmp .le 7, 3) := by decide +kernel
theorem dX2_sags_14 : decode cX2_sags 14 = .ok (.iconst 1, 1) := by decide +kernel
theorem dX2_sags_15 : decode cX2_sags 15 = .ok (.goto 4, 3) := by decide +kernel
theorem dX2_sags_18 : decode cX2_sags 18 = .ok (.iconst 0, 1) := by decide +kernel
theorem dX2_sags_19 : decode cX2_sags 19 = .ok (.ireturn, 1) := by decide +kernel
theorem dX2_takes_0 : decode cX2_takes 0 = .ok (.iconst 2, 1) := by decide +kernel
theorem dX2_takes_1 : decode cX2_takes 1 = .ok (.aload_n 0, 1) := by decide +kernel
theorem dX2_takes_2 : decode cX2_takes 2 = .ok (.iload_n 1, 1) := by decide +kernel
theorem dX2_takes_3 : decode cX2_takes 3 = .ok (.invokevirtual 58, 3) := by decide +kernel
theorem dX2_takes_6 : decode cX2_takes 6 = .ok (.iconst 5, 1) := by decide +kernel
theorem dX2_takes_7 : decode cX2_takes 7 = .ok (.idiv, 1) := by decide +kernel
theorem dX2_takes_8 : decode cX2_takes 8 = .ok (.iadd, 1) := by decide +kernel
theorem dX2_takes_9 : decode cX2_takes 9 = .ok (.istore 4, 2) := by decide +kernel
theorem dX2_takes_11 : decode cX2_takes 11 = .ok (.aload_n 0, 1) := by decide +kernel
theorem dX2_takes_12 : decode cX2_takes 12 = .ok (.iload_n 1, 1) := by decide +kernel
theorem dX2_takes_13 : decode cX2_takes 13 = .ok (.invokevirtual 39, 3) := by decide +kernel
theorem dX2_takes_16 : decode cX2_takes 16 = .ok (.iconst 1, 1) := by decide +kernel
theorem dX2_takes_17 : decode cX2_takes 17 = .ok (.if_icmp .ne 11, 3) := by decide +kernel
theorem dX2_takes_20 : decode cX2_takes 20 = .ok (.iload 4, 2) := by decide +kernel
theorem dX2_takes_22 : decode cX2_takes 22 = .ok (.iconst 1, 1) := by decide +kernel
theorem dX2_takes_23 : decode cX2_takes 23 = .ok (.iadd, 1) := by decide +kernel
theorem dX2_takes_24 : decode cX2_takes 24 = .ok (.iconst 2, 1) := by decide +kernel
theorem dX2_takes_25 : decode cX2_takes 25 = .ok (.idiv, 1) := by decide +kernel
theorem dX2_takes_26 : decode cX2_takes 26 = .ok (.istore 4, 2) := by decide +kernel
theorem dX2_takes_28 : decode cX2_takes 28 = .ok (.aload_n 0, 1) := by decide +kernel
theorem dX2_takes_29 : decode cX2_takes 29 = .ok (.iload_n 1, 1) := by decide +kernel
theorem dX2_takes_30 : decode cX2_takes 30 = .ok (.invokevirtual 39, 3) := by decide +kernel
theorem dX2_takes_33 : decode cX2_takes 33 = .ok (.iconst 3, 1) := by decide +kernel
theorem dX2_takes_34 : decode cX2_takes 34 = .ok (.if_icmp .ne 6, 3) := by decide +kernel
theorem dX2_takes_37 : decode cX2_takes 37 = .ok (.iinc 4 3, 3) := by decide +kernel
theorem dX2_takes_40 : decode cX2_takes 40 = .ok (.aload_n 0, 1) := by decide +kernel
theorem dX2_takes_41 : decode cX2_takes 41 = .ok (.iload_n 1, 1) := by decide +kernel
theorem dX2_takes_42 : decode cX2_takes 42 = .ok (.iload_n 2, 1) := by decide +kernel
theorem dX2_takes_43 : decode cX2_takes 43 = .ok (.iload_n 3, 1) := by decide +kernel
theorem dX2_takes_44 : decode cX2_takes 44 = .ok (.invokevirtual 61, 3) := by decide +kernel
theorem dX2_takes_47 : decode cX2_takes 47 = .ok (.ifCond .eq 10, 3) := by decide +kernel
theorem dX2_takes_50 : decode cX2_takes 50 = .ok (.iload 4, 2) := by decide +kernel
theorem dX2_takes_52 : decode cX2_takes 52 = .ok (.iconst 2, 1) := by decide +kernel
theorem dX2_takes_53 : decode cX2_takes 53 = .ok (.iadd, 1) := by decide +kernel
theorem dX2_takes_54 : decode cX2_takes 54 = .ok (.goto 5, 3) := by decide +kernel
theorem dX2_takes_57 : decode cX2_takes 57 = .ok (.iload 4, 2) := by decide +kernel
theorem dX2_takes_59 : decode cX2_takes 59 = .ok (.ireturn, 1) := by decide +kernel
theorem dX3_init_0 : decode cX3_init 0 = .ok (.aload_n 0, 1) := by decide +kernel
theorem dX3_init_1 : decode cX3_init 1 = .ok (.invokespecial 1, 3) := by decide +kernel
theorem dX3_init_4 : decode cX3_init 4 = .ok (.aload_n 0, 1) := by decide +kernel
theorem dX3_init_5 : decode cX3_init 5 = .ok (.new 7, 3) := by decide +kernel
theorem dX3_init_8 : decode cX3_init 8 = .ok (.dup, 1) := by decide +kernel
theorem dX3_init_9 : decode cX3_init 9 = .ok (.invokespecial 9, 3) := by decide +kernel
theorem dX3_init_12 : decode cX3_init 12 = .ok (.putfield 10, 3) := by decide +kernel
theorem dX3_init_15 : decode cX3_init 15 = .ok (.return_, 1) := by decide +kernel
theorem dX4_init_0 : decode cX4_init 0 = .ok (.aload_n 0, 1) := by decide +kernel
theorem dX4_init_1 : decode cX4_init 1 = .ok (.invokespecial 3, 3) := by decide +kernel
theorem dX4_init_4 : decode cX4_init 4 = .ok (.aload_n 0, 1) := by decide +kernel
theorem dX4_init_5 : decode cX4_init 5 = .ok (.bipush 64, 2) := by decide +kernel
theorem dX4_init_7 : decode cX4_init 7 = .ok (.newarray .long, 2) := by decide +kernel
theorem dX4_init_9 : decode cX4_init 9 = .ok (.putfield 9, 3) := by decide +kernel
theorem dX4_init_12 : decode cX4_init 12 = .ok (.aload_n 0, 1) := by decide +kernel
theorem dX4_init_13 : decode cX4_init 13 = .ok (.bipush 64, 2) := by decide +kernel
theorem dX4_init_15 : decode cX4_init 15 = .ok (.newarray .int, 2) := by decide +kernel
theorem dX4_init_17 : decode cX4_init 17 = .ok (.putfield 15, 3) := by decide +kernel
theorem dX4_init_20 : decode cX4_init 20 = .ok (.return_, 1) := by decide +kernel
theorem dX4_search_0 : decode cX4_search 0 = .ok (.aload_n 0, 1) := by decide +kernel
theorem dX4_search_1 : decode cX4_search 1 = .ok (.aload_n 3, 1) := by decide +kernel
theorem dX4_search_2 : decode cX4_search 2 = .ok (.getfield 19, 3) := by decide +kernel
theorem dX4_search_5 : decode cX4_search 5 = .ok (.putfield 25, 3) := by decide +kernel
theorem dX4_search_8 : decode cX4_search 8 = .ok (.aload_n 2, 1) := by decide +kernel
theorem dX4_search_9 : decode cX4_search 9 = .ok (.invokevirtual 28, 3) := by decide +kernel
theorem dX4_search_12 : decode cX4_search 12 = .ok (.istore 4, 2) := by decide +kernel
theorem dX4_search_14 : decode cX4_search 14 = .ok (.iload 4, 2) := by decide +kernel
theorem dX4_search_16 : decode cX4_search 16 = .ok (.ifCond .lt 72, 3) := by decide +kernel
theorem dX4_search_19 : decode cX4_search 19 = .ok (.iload 4, 2) := by decide +kernel
theorem dX4_search_21 : decode cX4_search 21 = .ok (.aload_n 0, 1) := by decide +kernel
theorem dX4_search_22 : decode cX4_search 22 = .ok (.getfield 25, 3) := by decide +kernel
theorem dX4_search_25 : decode cX4_search 25 = .ok (.invokestatic 34, 3) := by decide +kernel
theorem dX4_search_28 : decode cX4_search 28 = .ok (.ifCond .eq 54, 3) := by decide +kernel
theorem dX4_search_31 : decode cX4_search 31 = .ok (.aload_n 0, 1) := by decide +kernel
theorem dX4_search_32 : decode cX4_search 32 = .ok (.aload_n 2, 1) := by decide +kernel
theorem dX4_search_33 : decode cX4_search 33 = .ok (.iload 4, 2) := by decide +kernel
theorem dX4_search_35 : decode cX4_search 35 = .ok (.invokevirtual 38, 3) := by decide +kernel
theorem dX4_search_38 : decode cX4_search 38 = .ok (.aload_n 1, 1) := by decide +kernel
theorem dX4_search_39 : decode cX4_search 39 = .ok (.aload_n 3, 1) := by decide +kernel
theorem dX4_search_40 : decode cX4_search 40 = .ok (.aload_n 1, 1) := by decide +kernel
theorem dX4_search_41 : decode cX4_search 41 = .ok (.aload_n 2, 1) := by decide +kernel
theorem dX4_search_42 : decode cX4_search 42 = .ok (.aload_n 3, 1) := by decide +kernel
theorem dX4_search_43 : decode cX4_search 43 = .ok (.iload 4, 2) := by decide +kernel
theorem dX4_search_45 : decode cX4_search 45 = .ok (.invokestatic 42, 3) := by decide +kernel
theorem dX4_search_48 : decode cX4_search 48 = .ok (.invokestatic 46, 3) := by decide +kernel
theorem dX4_search_51 : decode cX4_search 51 = .ok (.lstore 5, 2) := by decide +kernel
theorem dX4_search_53 : decode cX4_search 53 = .ok (.aload_n 0, 1) := by decide +kernel
theorem dX4_search_54 : decode cX4_search 54 = .ok (.getfield 9, 3) := by decide +kernel
theorem dX4_search_57 : decode cX4_search 57 = .ok (.iload 4, 2) := by decide +kernel
theorem dX4_search_59 : decode cX4_search 59 = .ok (.aload_n 0, 1) := by decide +kernel
theorem dX4_search_60 : decode cX4_search 60 = .ok (.invokevirtual 50, 3) := by decide +kernel
theorem dX4_search_63 : decode cX4_search 63 = .ok (.ifCond .eq 13, 3) := by decide +kernel
theorem dX4_search_66 : decode cX4_search 66 = .ok (.lload 5, 2) := by decide +kernel
theorem dX4_search_68 : decode cX4_search 68 = .ok (.aload_n 0, 1) := by decide +kernel
theorem dX4_search_69 : decode cX4_search 69 = .ok (.getfield 54, 3) := by decide +kernel
theorem dX4_search_72 : decode cX4_search 72 = .ok (.ladd, 1) := by decide +kernel
theorem dX4_search_73 : decode cX4_search 73 = .ok (.goto 6, 3) := by decide +kernel
theorem dX4_search_76 : decode cX4_search 76 = .ok (.ldc2_w 58, 3) := by decide +kernel
theorem dX4_search_79 : decode cX4_search 79 = .ok (.invokestatic 60, 3) := by decide +kernel
theorem dX4_search_82 : decode cX4_search 82 = .ok (.iinc 4 (-1), 3) := by decide +kernel
theorem dX4_search_85 : decode cX4_search 85 = .ok (.goto (-71), 3) := by decide +kernel
theorem dX4_search_88 : decode cX4_search 88 = .ok (.return_, 1) := by decide +kernel
theorem dX4_isThere_0 : decode cX4_isThere 0 = .ok (.aload_n 0, 1) := by decide +kernel
theorem dX4_isThere_1 : decode cX4_isThere 1 = .ok (.getfield 54, 3) := by decide +kernel
theorem dX4_isThere_4 : decode cX4_isThere 4 = .ok (.ldc2_w 58, 3) := by decide +kernel
theorem dX4_isThere_7 : decode cX4_isThere 7 = .ok (.lcmp, 1) := by decide +kernel
theorem dX4_isThere_8 : decode cX4_isThere 8 = .ok (.ifCond .eq 7, 3) := by decide +kernel
theorem dX4_isThere_11 : decode cX4_isThere 11 = .ok (.iconst 1, 1) := by decide +kernel
theorem dX4_isThere_12 : decode cX4_isThere 12 = .ok (.goto 4, 3) := by decide +kernel
theorem dX4_isThere_15 : decode cX4_isThere 15 = .ok (.iconst 0, 1) := by decide +kernel
theorem dX4_isThere_16 : decode cX4_isThere 16 = .ok (.ireturn, 1) := by decide +kernel
theorem dX4_most_0 : decode cX4_most 0 = .ok (.aload_n 0, 1) := by decide +kernel
theorem dX4_most_1 : decode cX4_most 1 = .ok (.getfield 54, 3) := by decide +kernel
theorem dX4_most_4 : decode cX4_most 4 = .ok (.lreturn, 1) := by decide +kernel
theorem dX4_manAt_0 : decode cX4_manAt 0 = .ok (.aload_n 0, 1) := by decide +kernel
theorem dX4_manAt_1 : decode cX4_manAt 1 = .ok (.getfield 25, 3) := by decide +kernel
theorem dX4_manAt_4 : decode cX4_manAt 4 = .ok (.istore_n 2, 1) := by decide +kernel
theorem dX4_manAt_5 : decode cX4_manAt 5 = .ok (.iconst (-1), 1) := by decide +kernel
theorem dX4_manAt_6 : decode cX4_manAt 6 = .ok (.istore_n 3, 1) := by decide +kernel
theorem dX4_manAt_7 : decode cX4_manAt 7 = .ok (.iconst 0, 1) := by decide +kernel
theorem dX4_manAt_8 : decode cX4_manAt 8 = .ok (.istore 4, 2) := by decide +kernel
theorem dX4_manAt_10 : decode cX4_manAt 10 = .ok (.iload 4, 2) := by decide +kernel
theorem dX4_manAt_12 : decode cX4_manAt 12 = .ok (.iload_n 1, 1) := by decide +kernel
theorem dX4_manAt_13 : decode cX4_manAt 13 = .ok (.if_icmp .gt 31, 3) := by decide +kernel
theorem dX4_manAt_16 : decode cX4_manAt 16 = .ok (.aload_n 0, 1) := by decide +kernel
theorem dX4_manAt_17 : decode cX4_manAt 17 = .ok (.getfield 15, 3) := by decide +kernel
theorem dX4_manAt_20 : decode cX4_manAt 20 = .ok (.iload_n 2, 1) := by decide +kernel
theorem dX4_manAt_21 : decode cX4_manAt 21 = .ok (.invokestatic 64, 3) := by decide +kernel
theorem dX4_manAt_24 : decode cX4_manAt 24 = .ok (.istore_n 3, 1) := by decide +kernel
theorem dX4_manAt_25 : decode cX4_manAt 25 = .ok (.iload_n 3, 1) := by decide +kernel
theorem dX4_manAt_26 : decode cX4_manAt 26 = .ok (.iconst (-1), 1) := by decide +kernel
theorem dX4_manAt_27 : decode cX4_manAt 27 = .ok (.if_icmp .ne 5, 3) := by decide +kernel
theorem dX4_manAt_30 : decode cX4_manAt 30 = .ok (.iconst (-1), 1) := by decide +kernel
theorem dX4_manAt_31 : decode cX4_manAt 31 = .ok (.ireturn, 1) := by decide +kernel
theorem dX4_manAt_32 : decode cX4_manAt 32 = .ok (.iload_n 2, 1) := by decide +kernel
theorem dX4_manAt_33 : decode cX4_manAt 33 = .ok (.iload_n 3, 1) := by decide +kernel
theorem dX4_manAt_34 : decode cX4_manAt 34 = .ok (.invokestatic 68, 3) := by decide +kernel
theorem dX4_manAt_37 : decode cX4_manAt 37 = .ok (.istore_n 2, 1) := by decide +kernel
theorem dX4_manAt_38 : decode cX4_manAt 38 = .ok (.iinc 4 1, 3) := by decide +kernel
theorem dX4_manAt_41 : decode cX4_manAt 41 = .ok (.goto (-31), 3) := by decide +kernel
theorem dX4_manAt_44 : decode cX4_manAt 44 = .ok (.iload_n 3, 1) := by decide +kernel
theorem dX4_manAt_45 : decode cX4_manAt 45 = .ok (.ireturn, 1) := by decide +kernel
theorem dX4_findNext_0 : decode cX4_findNext 0 = .ok (.aload_n 0, 1) := by decide +kernel
theorem dX4_findNext_1 : decode cX4_findNext 1 = .ok (.iload_n 2, 1) := by decide +kernel
theorem dX4_findNext_2 : decode cX4_findNext 2 = .ok (.aload_n 1, 1) := by decide +kernel
theorem dX4_findNext_3 : decode cX4_findNext 3 = .ok (.invokevirtual 28, 3) := by decide +kernel
theorem dX4_findNext_6 : decode cX4_findNext 6 = .ok (.if_icmp .ne 7, 3) := by decide +kernel
theorem dX4_findNext_9 : decode cX4_findNext 9 = .ok (.lconst 0, 1) := by decide +kernel
theorem dX4_findNext_10 : decode cX4_findNext 10 = .ok (.goto 6, 3) := by decide +kernel
theorem dX4_findNext_13 : decode cX4_findNext 13 = .ok (.ldc2_w 58, 3) := by decide +kernel
theorem dX4_findNext_16 : decode cX4_findNext 16 = .ok (.putfield 54, 3) := by decide +kernel
theorem dX4_findNext_19 : decode cX4_findNext 19 = .ok (.aload_n 0, 1) := by decide +kernel
theorem dX4_findNext_20 : decode cX4_findNext 20 = .ok (.getfield 15, 3) := by decide +kernel
theorem dX4_findNext_23 : decode cX4_findNext 23 = .ok (.iload_n 2, 1) := by decide +kernel
theorem dX4_findNext_24 : decode cX4_findNext 24 = .ok (.iconst (-1), 1) := by decide +kernel
theorem dX4_findNext_25 : decode cX4_findNext 25 = .ok (.invokestatic 72, 3) := by decide +kernel
theorem dX4_findNext_28 : decode cX4_findNext 28 = .ok (.iconst 0, 1) := by decide +kernel
theorem dX4_findNext_29 : decode cX4_findNext 29 = .ok (.istore_n 3, 1) := by decide +kernel
theorem dX4_findNext_30 : decode cX4_findNext 30 = .ok (.iload_n 3, 1) := by decide +kernel
theorem dX4_findNext_31 : decode cX4_findNext 31 = .ok (.aload_n 1, 1) := by decide +kernel
theorem dX4_findNext_32 : decode cX4_findNext 32 = .ok (.getfield 75, 3) := by decide +kernel
theorem dX4_findNext_35 : decode cX4_findNext 35 = .ok (.if_icmp .ge 68, 3) := by decide +kernel
theorem dX4_findNext_38 : decode cX4_findNext 38 = .ok (.iload_n 2, 1) := by decide +kernel
theorem dX4_findNext_39 : decode cX4_findNext 39 = .ok (.iload_n 3, 1) := by decide +kernel
theorem dX4_findNext_40 : decode cX4_findNext 40 = .ok (.invokestatic 78, 3) := by decide +kernel
theorem dX4_findNext_43 : decode cX4_findNext 43 = .ok (.ifCond .ne 54, 3) := by decide +kernel
theorem dX4_findNext_46 : decode cX4_findNext 46 = .ok (.iload_n 2, 1) := by decide +kernel
theorem dX4_findNext_47 : decode cX4_findNext 47 = .ok (.aload_n 1, 1) := by decide +kernel
theorem dX4_findNext_48 : decode cX4_findNext 48 = .ok (.iload_n 3, 1) := by decide +kernel
theorem dX4_findNext_49 : decode cX4_findNext 49 = .ok (.invokevirtual 81, 3) := by decide +kernel
theorem dX4_findNext_52 : decode cX4_findNext 52 = .ok (.invokestatic 34, 3) := by decide +kernel
theorem dX4_findNext_55 : decode cX4_findNext 55 = .ok (.ifCond .eq 42, 3) := by decide +kernel
theorem dX4_findNext_58 : decode cX4_findNext 58 = .ok (.aload_n 0, 1) := by decide +kernel
theorem dX4_findNext_59 : decode cX4_findNext 59 = .ok (.getfield 9, 3) := by decide +kernel
theorem dX4_findNext_62 : decode cX4_findNext 62 = .ok (.iload_n 2, 1) := by decide +kernel
theorem dX4_findNext_63 : decode cX4_findNext 63 = .ok (.iload_n 3, 1) := by decide +kernel
theorem dX4_findNext_64 : decode cX4_findNext 64 = .ok (.invokestatic 68, 3) := by decide +kernel
theorem dX4_findNext_67 : decode cX4_findNext 67 = .ok (.invokestatic 85, 3) := by decide +kernel
theorem dX4_findNext_70 : decode cX4_findNext 70 = .ok (.lstore 4, 2) := by decide +kernel
theorem dX4_findNext_72 : decode cX4_findNext 72 = .ok (.lload 4, 2) := by decide +kernel
theorem dX4_findNext_74 : decode cX4_findNext 74 = .ok (.aload_n 0, 1) := by decide +kernel
theorem dX4_findNext_75 : decode cX4_findNext 75 = .ok (.getfield 54, 3) := by decide +kernel
theorem dX4_findNext_78 : decode cX4_findNext 78 = .ok (.lcmp, 1) := by decide +kernel
theorem dX4_findNext_79 : decode cX4_findNext 79 = .ok (.ifCond .le 18, 3) := by decide +kernel
theorem dX4_findNext_82 : decode cX4_findNext 82 = .ok (.aload_n 0, 1) := by decide +kernel
theorem dX4_findNext_83 : decode cX4_findNext 83 = .ok (.lload 4, 2) := by decide +kernel
theorem dX4_findNext_85 : decode cX4_findNext 85 = .ok (.putfield 54, 3) := by decide +kernel
theorem dX4_findNext_88 : decode cX4_findNext 88 = .ok (.aload_n 0, 1) := by decide +kernel
theorem dX4_findNext_89 : decode cX4_findNext 89 = .ok (.getfield 15, 3) := by decide +kernel
theorem dX4_findNext_92 : decode cX4_findNext 92 = .ok (.iload_n 2, 1) := by decide +kernel
theorem dX4_findNext_93 : decode cX4_findNext 93 = .ok (.iload_n 3, 1) := by decide +kernel
theorem dX4_findNext_94 : decode cX4_findNext 94 = .ok (.invokestatic 72, 3) := by decide +kernel
theorem dX4_findNext_97 : decode cX4_findNext 97 = .ok (.iinc 3 1, 3) := by decide +kernel
theorem dX4_findNext_100 : decode cX4_findNext 100 = .ok (.goto (-70), 3) := by decide +kernel
theorem dX4_findNext_103 : decode cX4_findNext 103 = .ok (.return_, 1) := by decide +kernel
theorem dX4_minuteWith_0 : decode cX4_minuteWith 0 = .ok (.aload_n 2, 1) := by decide +kernel
theorem dX4_minuteWith_1 : decode cX4_minuteWith 1 = .ok (.getfield 88, 3) := by decide +kernel
theorem dX4_minuteWith_4 : decode cX4_minuteWith 4 = .ok (.istore 4, 2) := by decide +kernel
theorem dX4_minuteWith_6 : decode cX4_minuteWith 6 = .ok (.iconst 0, 1) := by decide +kernel
theorem dX4_minuteWith_7 : decode cX4_minuteWith 7 = .ok (.istore 5, 2) := by decide +kernel
theorem dX4_minuteWith_9 : decode cX4_minuteWith 9 = .ok (.iload 5, 2) := by decide +kernel
theorem dX4_minuteWith_11 : decode cX4_minuteWith 11 = .ok (.aload_n 1, 1) := by decide +kernel
theorem dX4_minuteWith_12 : decode cX4_minuteWith 12 = .ok (.getfield 75, 3) := by decide +kernel
theorem dX4_minuteWith_15 : decode cX4_minuteWith 15 = .ok (.if_icmp .ge 49, 3) := by decide +kernel
theorem dX4_minuteWith_18 : decode cX4_minuteWith 18 = .ok (.iload_n 3, 1) := by decide +kernel
theorem dX4_minuteWith_19 : decode cX4_minuteWith 19 = .ok (.iload 5, 2) := by decide +kernel
theorem dX4_minuteWith_21 : decode cX4_minuteWith 21 = .ok (.invokestatic 78, 3) := by decide +kernel
theorem dX4_minuteWith_24 : decode cX4_minuteWith 24 = .ok (.ifCond .eq 34, 3) := by decide +kernel
theorem dX4_minuteWith_27 : decode cX4_minuteWith 27 = .ok (.aload_n 2, 1) := by decide +kernel
theorem dX4_minuteWith_28 : decode cX4_minuteWith 28 = .ok (.getfield 19, 3) := by decide +kernel
theorem dX4_minuteWith_31 : decode cX4_minuteWith 31 = .ok (.iload 5, 2) := by decide +kernel
theorem dX4_minuteWith_33 : decode cX4_minuteWith 33 = .ok (.invokestatic 78, 3) := by decide +kernel
theorem dX4_minuteWith_36 : decode cX4_minuteWith 36 = .ok (.ifCond .ne 22, 3) := by decide +kernel
theorem dX4_minuteWith_39 : decode cX4_minuteWith 39 = .ok (.iload 4, 2) := by decide +kernel
theorem dX4_minuteWith_41 : decode cX4_minuteWith 41 = .ok (.aload_n 1, 1) := by decide +kernel
theorem dX4_minuteWith_42 : decode cX4_minuteWith 42 = .ok (.iload 5, 2) := by decide +kernel
theorem dX4_minuteWith_44 : decode cX4_minuteWith 44 = .ok (.aload_n 0, 1) := by decide +kernel
theorem dX4_minuteWith_45 : decode cX4_minuteWith 45 = .ok (.getfield 91, 3) := by decide +kernel
theorem dX4_minuteWith_48 : decode cX4_minuteWith 48 = .ok (.aload_n 2, 1) := by decide +kernel
theorem dX4_minuteWith_49 : decode cX4_minuteWith 49 = .ok (.getfield 96, 3) := by decide +kernel
theorem dX4_minuteWith_52 : decode cX4_minuteWith 52 = .ok (.invokevirtual 99, 3) := by decide +kernel
theorem dX4_minuteWith_55 : decode cX4_minuteWith 55 = .ok (.iadd, 1) := by decide +kernel
theorem dX4_minuteWith_56 : decode cX4_minuteWith 56 = .ok (.istore 4, 2) := by decide +kernel
theorem dX4_minuteWith_58 : decode cX4_minuteWith 58 = .ok (.iinc 5 1, 3) := by decide +kernel
theorem dX4_minuteWith_61 : decode cX4_minuteWith 61 = .ok (.goto (-52), 3) := by decide +kernel
theorem dX4_minuteWith_64 : decode cX4_minuteWith 64 = .ok (.iload 4, 2) := by decide +kernel
theorem dX4_minuteWith_66 : decode cX4_minuteWith 66 = .ok (.ireturn, 1) := by decide +kernel
theorem dX4_holding_0 : decode cX4_holding 0 = .ok (.ldc2_w 103, 3) := by decide +kernel
theorem dX4_holding_3 : decode cX4_holding 3 = .ok (.lstore_n 3, 1) := by decide +kernel
theorem dX4_holding_4 : decode cX4_holding 4 = .ok (.aload_n 1, 1) := by decide +kernel
theorem dX4_holding_5 : decode cX4_holding 5 = .ok (.invokevirtual 105, 3) := by decide +kernel
theorem dX4_holding_8 : decode cX4_holding 8 = .ok (.istore 5, 2) := by decide +kernel
theorem dX4_holding_10 : decode cX4_holding 10 = .ok (.iload 5, 2) := by decide +kernel
theorem dX4_holding_12 : decode cX4_holding 12 = .ok (.aload_n 0, 1) := by decide +kernel
theorem dX4_holding_13 : decode cX4_holding 13 = .ok (.getfield 108, 3) := by decide +kernel
theorem dX4_holding_16 : decode cX4_holding 16 = .ok (.if_icmp .ge 38, 3) := by decide +kernel
theorem dX4_holding_19 : decode cX4_holding 19 = .ok (.iload 5, 2) := by decide +kernel
theorem dX4_holding_21 : decode cX4_holding 21 = .ok (.iconst 1, 1) := by decide +kernel
theorem dX4_holding_22 : decode cX4_holding 22 = .ok (.iadd, 1) := by decide +kernel
theorem dX4_holding_23 : decode cX4_holding 23 = .ok (.iconst 5, 1) := by decide +kernel
theorem dX4_holding_24 : decode cX4_holding 24 = .ok (.imul, 1) := by decide +kernel
theorem dX4_holding_25 : decode cX4_holding 25 = .ok (.iload_n 2, 1) := by decide +kernel
theorem dX4_holding_26 : decode cX4_holding 26 = .ok (.if_icmp .le 5, 3) := by decide +kernel
theorem dX4_holding_29 : decode cX4_holding 29 = .ok (.lload_n 3, 1) := by decide +kernel
theorem dX4_holding_30 : decode cX4_holding 30 = .ok (.lreturn, 1) := by decide +kernel
theorem dX4_holding_31 : decode cX4_holding 31 = .ok (.lload_n 3, 1) := by decide +kernel
theorem dX4_holding_32 : decode cX4_holding 32 = .ok (.ldc2_w 111, 3) := by decide +kernel
theorem dX4_holding_35 : decode cX4_holding 35 = .ok (.ldiv, 1) := by decide +kernel
theorem dX4_holding_36 : decode cX4_holding 36 = .ok (.bipush 10, 2) := by decide +kernel
theorem dX4_holding_38 : decode cX4_holding 38 = .ok (.aload_n 0, 1) := by decide +kernel
theorem dX4_holding_39 : decode cX4_holding 39 = .ok (.iload 5, 2) := by decide +kernel
theorem dX4_holding_41 : decode cX4_holding 41 = .ok (.invokevirtual 113, 3) := by decide +kernel
theorem dX4_holding_44 : decode cX4_holding 44 = .ok (.isub, 1) := by decide +kernel
theorem dX4_holding_45 : decode cX4_holding 45 = .ok (.i2l, 1) := by decide +kernel
theorem dX4_holding_46 : decode cX4_holding 46 = .ok (.lmul, 1) := by decide +kernel
theorem dX4_holding_47 : decode cX4_holding 47 = .ok (.lstore_n 3, 1) := by decide +kernel
theorem dX4_holding_48 : decode cX4_holding 48 = .ok (.iinc 5 1, 3) := by decide +kernel
theorem dX4_holding_51 : decode cX4_holding 51 = .ok (.goto (-41), 3) := by decide +kernel
theorem dX4_holding_54 : decode cX4_holding 54 = .ok (.lconst 0, 1) := by decide +kernel
theorem dX4_holding_55 : decode cX4_holding 55 = .ok (.lreturn, 1) := by decide +kernel
theorem dX5_init_0 : decode cX5_init 0 = .ok (.aload_n 0, 1) := by decide +kernel
theorem dX5_init_1 : decode cX5_init 1 = .ok (.invokespecial 3, 3) := by decide +kernel
theorem dX5_init_4 : decode cX5_init 4 = .ok (.aload_n 0, 1) := by decide +kernel
theorem dX5_init_5 : decode cX5_init 5 = .ok (.bipush 22, 2) := by decide +kernel
theorem dX5_init_7 : decode cX5_init 7 = .ok (.newarray .int, 2) := by decide +kernel
theorem dX5_init_9 : decode cX5_init 9 = .ok (.putfield 9, 3) := by decide +kernel
theorem dX5_init_12 : decode cX5_init 12 = .ok (.return_, 1) := by decide +kernel
theorem dX5_add_0 : decode cX5_add 0 = .ok (.aload_n 0, 1) := by decide +kernel
theorem dX5_add_1 : decode cX5_add 1 = .ok (.getfield 9, 3) := by decide +kernel
theorem dX5_add_4 : decode cX5_add 4 = .ok (.aload_n 0, 1) := by decide +kernel
theorem dX5_add_5 : decode cX5_add 5 = .ok (.getfield 15, 3) := by decide +kernel
theorem dX5_add_8 : decode cX5_add 8 = .ok (.iload_n 1, 1) := by decide +kernel
theorem dX5_add_9 : decode cX5_add 9 = .ok (.invokestatic 19, 3) := by decide +kernel
theorem dX5_add_12 : decode cX5_add 12 = .ok (.aload_n 0, 1) := by decide +kernel
theorem dX5_add_13 : decode cX5_add 13 = .ok (.dup, 1) := by decide +kernel
theorem dX5_add_14 : decode cX5_add 14 = .ok (.getfield 15, 3) := by decide +kernel
theorem dX5_add_17 : decode cX5_add 17 = .ok (.iconst 1, 1) := by decide +kernel
theorem dX5_add_18 : decode cX5_add 18 = .ok (.iadd, 1) := by decide +kernel
theorem dX5_add_19 : decode cX5_add 19 = .ok (.putfield 15, 3) := by decide +kernel
theorem dX5_add_22 : decode cX5_add 22 = .ok (.return_, 1) := by decide +kernel
theorem dX5_clear_0 : decode cX5_clear 0 = .ok (.aload_n 0, 1) := by decide +kernel
theorem dX5_clear_1 : decode cX5_clear 1 = .ok (.iconst 0, 1) := by decide +kernel
theorem dX5_clear_2 : decode cX5_clear 2 = .ok (.putfield 15, 3) := by decide +kernel
theorem dX5_clear_5 : decode cX5_clear 5 = .ok (.return_, 1) := by decide +kernel
theorem dX5_letterAt_0 : decode cX5_letterAt 0 = .ok (.aload_n 0, 1) := by decide +kernel
theorem dX5_letterAt_1 : decode cX5_letterAt 1 = .ok (.getfield 9, 3) := by decide +kernel
theorem dX5_letterAt_4 : decode cX5_letterAt 4 = .ok (.iload_n 1, 1) := by decide +kernel
theorem dX5_letterAt_5 : decode cX5_letterAt 5 = .ok (.invokestatic 23, 3) := by decide +kernel
theorem dX5_letterAt_8 : decode cX5_letterAt 8 = .ok (.ireturn, 1) := by decide +kernel
theorem dX5_digitAt_0 : decode cX5_digitAt 0 = .ok (.aload_n 0, 1) := by decide +kernel
theorem dX5_digitAt_1 : decode cX5_digitAt 1 = .ok (.getfield 9, 3) := by decide +kernel
theorem dX5_digitAt_4 : decode cX5_digitAt 4 = .ok (.iload_n 1, 1) := by decide +kernel
theorem dX5_digitAt_5 : decode cX5_digitAt 5 = .ok (.invokestatic 23, 3) := by decide +kernel
theorem dX5_digitAt_8 : decode cX5_digitAt 8 = .ok (.bipush 48, 2) := by decide +kernel
theorem dX5_digitAt_10 : decode cX5_digitAt 10 = .ok (.isub, 1) := by decide +kernel
theorem dX5_digitAt_11 : decode cX5_digitAt 11 = .ok (.ireturn, 1) := by decide +kernel
theorem dX5_isNight_0 : decode cX5_isNight 0 = .ok (.aload_n 0, 1) := by decide +kernel
theorem dX5_isNight_1 : decode cX5_isNight 1 = .ok (.getfield 15, 3) := by decide +kernel
theorem dX5_isNight_4 : decode cX5_isNight 4 = .ok (.bipush 9, 2) := by decide +kernel
theorem dX5_isNight_6 : decode cX5_isNight 6 = .ok (.if_icmp .le 18, 3) := by decide +kernel
theorem dX5_isNight_9 : decode cX5_isNight 9 = .ok (.aload_n 0, 1) := by decide +kernel
theorem dX5_isNight_10 : decode cX5_isNight 10 = .ok (.invokevirtual 27, 3) := by decide +kernel
theorem dX5_isNight_13 : decode cX5_isNight 13 = .ok (.aload_n 0, 1) := by decide +kernel
theorem dX5_isNight_14 : decode cX5_isNight 14 = .ok (.getfield 15, 3) := by decide +kernel
theorem dX5_isNight_17 : decode cX5_isNight 17 = .ok (.if_icmp .ne 7, 3) := by decide +kernel
theorem dX5_isNight_20 : decode cX5_isNight 20 = .ok (.iconst 1, 1) := by decide +kernel
theorem dX5_isNight_21 : decode cX5_isNight 21 = .ok (.goto 4, 3) := by decide +kernel
theorem dX5_isNight_24 : decode cX5_isNight 24 = .ok (.iconst 0, 1) := by decide +kernel
theorem dX5_isNight_25 : decode cX5_isNight 25 = .ok (.ireturn, 1) := by decide +kernel
theorem dX5_faultPlace_0 : decode cX5_faultPlace 0 = .ok (.iconst 0, 1) := by decide +kernel
theorem dX5_faultPlace_1 : decode cX5_faultPlace 1 = .ok (.istore_n 1, 1) := by decide +kernel
theorem dX5_faultPlace_2 : decode cX5_faultPlace 2 = .ok (.iload_n 1, 1) := by decide +kernel
theorem dX5_faultPlace_3 : decode cX5_faultPlace 3 = .ok (.aload_n 0, 1) := by decide +kernel
theorem dX5_faultPlace_4 : decode cX5_faultPlace 4 = .ok (.getfield 15, 3) := by decide +kernel
theorem dX5_faultPlace_7 : decode cX5_faultPlace 7 = .ok (.if_icmp .ge 19, 3) := by decide +kernel
theorem dX5_faultPlace_10 : decode cX5_faultPlace 10 = .ok (.aload_n 0, 1) := by decide +kernel
theorem dX5_faultPlace_11 : decode cX5_faultPlace 11 = .ok (.iload_n 1, 1) := by decide +kernel
theorem dX5_faultPlace_12 : decode cX5_faultPlace 12 = .ok (.invokevirtual 31, 3) := by decide +kernel
theorem dX5_faultPlace_15 : decode cX5_faultPlace 15 = .ok (.ifCond .ne 5, 3) := by decide +kernel
theorem dX5_faultPlace_18 : decode cX5_faultPlace 18 = .ok (.iload_n 1, 1) := by decide +kernel
theorem dX5_faultPlace_19 : decode cX5_faultPlace 19 = .ok (.ireturn, 1) := by decide +kernel
theorem dX5_faultPlace_20 : decode cX5_faultPlace 20 = .ok (.iinc 1 1, 3) := by decide +kernel
theorem dX5_faultPlace_23 : decode cX5_faultPlace 23 = .ok (.goto (-21), 3) := by decide +kernel
theorem dX5_faultPlace_26 : decode cX5_faultPlace 26 = .ok (.aload_n 0, 1) := by decide +kernel
theorem dX5_faultPlace_27 : decode cX5_faultPlace 27 = .ok (.getfield 15, 3) := by decide +kernel
theorem dX5_faultPlace_30 : decode cX5_faultPlace 30 = .ok (.ireturn, 1) := by decide +kernel
theorem dX5_fits_0 : decode cX5_fits 0 = .ok (.iload_n 1, 1) := by decide +kernel
theorem dX5_fits_1 : decode cX5_fits 1 = .ok (.iconst 2, 1) := by decide +kernel
theorem dX5_fits_2 : decode cX5_fits 2 = .ok (.if_icmp .eq 14, 3) := by decide +kernel
theorem dX5_fits_5 : decode cX5_fits 5 = .ok (.iload_n 1, 1) := by decide +kernel
theorem dX5_fits_6 : decode cX5_fits 6 = .ok (.iconst 4, 1) := by decide +kernel
theorem dX5_fits_7 : decode cX5_fits 7 = .ok (.if_icmp .eq 9, 3) := by decide +kernel
theorem dX5_fits_10 : decode cX5_fits 10 = .ok (.iload_n 1, 1) := by decide +kernel
theorem dX5_fits_11 : decode cX5_fits 11 = .ok (.bipush 8, 2) := by decide +kernel
theorem dX5_fits_13 : decode cX5_fits 13 = .ok (.if_icmp .ne 19, 3) := by decide +kernel
theorem dX5_fits_16 : decode cX5_fits 16 = .ok (.aload_n 0, 1) := by decide +kernel
theorem dX5_fits_17 : decode cX5_fits 17 = .ok (.iload_n 1, 1) := by decide +kernel
theorem dX5_fits_18 : decode cX5_fits 18 = .ok (.invokevirtual 35, 3) := by decide +kernel
theorem dX5_fits_21 : decode cX5_fits 21 = .ok (.bipush 58, 2) := by decide +kernel
theorem dX5_fits_23 : decode cX5_fits 23 = .ok (.if_icmp .ne 7, 3) := by decide +kernel
theorem dX5_fits_26 : decode cX5_fits 26 = .ok (.iconst 1, 1) := by decide +kernel
theorem dX5_fits_27 : decode cX5_fits 27 = .ok (.goto 4, 3) := by decide +kernel
theorem dX5_fits_30 : decode cX5_fits 30 = .ok (.iconst 0, 1) := by decide +kernel
theorem dX5_fits_31 : decode cX5_fits 31 = .ok (.ireturn, 1) := by decide +kernel
theorem dX5_fits_32 : decode cX5_fits 32 = .ok (.aload_n 0, 1) := by decide +kernel
theorem dX5_fits_33 : decode cX5_fits 33 = .ok (.iload_n 1, 1) := by decide +kernel
theorem dX5_fits_34 : decode cX5_fits 34 = .ok (.invokevirtual 39, 3) := by decide +kernel
theorem dX5_fits_37 : decode cX5_fits 37 = .ok (.iconst 0, 1) := by decide +kernel
theorem dX5_fits_38 : decode cX5_fits 38 = .ok (.bipush 9, 2) := by decide +kernel
theorem dX5_fits_40 : decode cX5_fits 40 = .ok (.invokestatic 42, 3) := by decide +kernel
theorem dX5_fits_43 : decode cX5_fits 43 = .ok (.ifCond .eq 5, 3) := by decide +kernel
theorem dX5_fits_46 : decode cX5_fits 46 = .ok (.iconst 0, 1) := by decide +kernel
theorem dX5_fits_47 : decode cX5_fits 47 = .ok (.ireturn, 1) := by decide +kernel
theorem dX5_fits_48 : decode cX5_fits 48 = .ok (.iload_n 1, 1) := by decide +kernel
theorem dX5_fits_49 : decode cX5_fits 49 = .ok (.lookupswitch 81 #[(0, 35), (6, 49), (7, 65)], 35) := by decide +kernel
theorem dX5_fits_84 : decode cX5_fits 84 = .ok (.aload_n 0, 1) := by decide +kernel
theorem dX5_fits_85 : decode cX5_fits 85 = .ok (.iconst 0, 1) := by decide +kernel
theorem dX5_fits_86 : decode cX5_fits 86 = .ok (.invokevirtual 39, 3) := by decide +kernel
theorem dX5_fits_89 : decode cX5_fits 89 = .ok (.ifCond .eq 7, 3) := by decide +kernel
theorem dX5_fits_92 : decode cX5_fits 92 = .ok (.iconst 1, 1) := by decide +kernel
theorem dX5_fits_93 : decode cX5_fits 93 = .ok (.goto 4, 3) := by decide +kernel
theorem dX5_fits_96 : decode cX5_fits 96 = .ok (.iconst 0, 1) := by decide +kernel
theorem dX5_fits_97 : decode cX5_fits 97 = .ok (.ireturn, 1) := by decide +kernel
theorem dX5_fits_98 : decode cX5_fits 98 = .ok (.aload_n 0, 1) := by decide +kernel
theorem dX5_fits_99 : decode cX5_fits 99 = .ok (.iload_n 1, 1) := by decide +kernel
theorem dX5_fits_100 : decode cX5_fits 100 = .ok (.invokevirtual 46, 3) := by decide +kernel
theorem dX5_fits_103 : decode cX5_fits 103 = .ok (.bipush 10, 2) := by decide +kernel
theorem dX5_fits_105 : decode cX5_fits 105 = .ok (.if_icmp .gt 7, 3) := by decide +kernel
theorem dX5_fits_108 : decode cX5_fits 108 = .ok (.iconst 1, 1) := by decide +kernel
theorem dX5_fits_109 : decode cX5_fits 109 = .ok (.goto 4, 3) := by decide +kernel
theorem dX5_fits_112 : decode cX5_fits 112 = .ok (.iconst 0, 1) := by decide +kernel
theorem dX5_fits_113 : decode cX5_fits 113 = .ok (.ireturn, 1) := by decide +kernel
theorem dX5_fits_114 : decode cX5_fits 114 = .ok (.aload_n 0, 1) := by decide +kernel
theorem dX5_fits_115 : decode cX5_fits 115 = .ok (.iload_n 1, 1) := by decide +kernel
theorem dX5_fits_116 : decode cX5_fits 116 = .ok (.invokevirtual 46, 3) := by decide +kernel
theorem dX5_fits_119 : decode cX5_fits 119 = .ok (.bipush 10, 2) := by decide +kernel
theorem dX5_fits_121 : decode cX5_fits 121 = .ok (.if_icmp .ne 7, 3) := by decide +kernel
theorem dX5_fits_124 : decode cX5_fits 124 = .ok (.iconst 1, 1) := by decide +kernel
theorem dX5_fits_125 : decode cX5_fits 125 = .ok (.goto 4, 3) := by decide +kernel
theorem dX5_fits_128 : decode cX5_fits 128 = .ok (.iconst 0, 1) := by decide +kernel
theorem dX5_fits_129 : decode cX5_fits 129 = .ok (.ireturn, 1) := by decide +kernel
theorem dX5_fits_130 : decode cX5_fits 130 = .ok (.iload_n 1, 1) := by decide +kernel
theorem dX5_fits_131 : decode cX5_fits 131 = .ok (.bipush 19, 2) := by decide +kernel
theorem dX5_fits_133 : decode cX5_fits 133 = .ok (.if_icmp .ge 7, 3) := by decide +kernel
theorem dX5_fits_136 : decode cX5_fits 136 = .ok (.iconst 1, 1) := by decide +kernel
theorem dX5_fits_137 : decode cX5_fits 137 = .ok (.goto 4, 3) := by decide +kernel
theorem dX5_fits_140 : decode cX5_fits 140 = .ok (.iconst 0, 1) := by decide +kernel
theorem dX5_fits_141 : decode cX5_fits 141 = .ok (.ireturn, 1) := by decide +kernel
theorem dX5_gustsTo_0 : decode cX5_gustsTo 0 = .ok (.iconst 0, 1) := by decide +kernel
theorem dX5_gustsTo_1 : decode cX5_gustsTo 1 = .ok (.istore_n 2, 1) := by decide +kernel
theorem dX5_gustsTo_2 : decode cX5_gustsTo 2 = .ok (.iconst 5, 1) := by decide +kernel
theorem dX5_gustsTo_3 : decode cX5_gustsTo 3 = .ok (.istore_n 3, 1) := by decide +kernel
theorem dX5_gustsTo_4 : decode cX5_gustsTo 4 = .ok (.iload_n 3, 1) := by decide +kernel
theorem dX5_gustsTo_5 : decode cX5_gustsTo 5 = .ok (.iload_n 1, 1) := by decide +kernel
theorem dX5_gustsTo_6 : decode cX5_gustsTo 6 = .ok (.if_icmp .gt 17, 3) := by decide +kernel
theorem dX5_gustsTo_9 : decode cX5_gustsTo 9 = .ok (.iload_n 2, 1) := by decide +kernel
theorem dX5_gustsTo_10 : decode cX5_gustsTo 10 = .ok (.aload_n 0, 1) := by decide +kernel
theorem dX5_gustsTo_11 : decode cX5_gustsTo 11 = .ok (.iload_n 3, 1) := by decide +kernel
theorem dX5_gustsTo_12 : decode cX5_gustsTo 12 = .ok (.invokevirtual 39, 3) := by decide +kernel
theorem dX5_gustsTo_15 : decode cX5_gustsTo 15 = .ok (.iadd, 1) := by decide +kernel
theorem dX5_gustsTo_16 : decode cX5_gustsTo 16 = .ok (.istore_n 2, 1) := by decide +kernel
theorem dX5_gustsTo_17 : decode cX5_gustsTo 17 = .ok (.iinc 3 1, 3) := by decide +kernel
theorem dX5_gustsTo_20 : decode cX5_gustsTo 20 = .ok (.goto (-16), 3) := by decide +kernel
theorem dX5_gustsTo_23 : decode cX5_gustsTo 23 = .ok (.iload_n 2, 1) := by decide +kernel
theorem dX5_gustsTo_24 : decode cX5_gustsTo 24 = .ok (.ireturn, 1) := by decide +kernel
theorem dX6_init_0 : decode cX6_init 0 = .ok (.aload_n 0, 1) := by decide +kernel
theorem dX6_init_1 : decode cX6_init 1 = .ok (.invokespecial 3, 3) := by decide +kernel
theorem dX6_init_4 : decode cX6_init 4 = .ok (.aload_n 0, 1) := by decide +kernel
theorem dX6_init_5 : decode cX6_init 5 = .ok (.bipush 6, 2) := by decide +kernel
theorem dX6_init_7 : decode cX6_init 7 = .ok (.newarray .int, 2) := by decide +kernel
theorem dX6_init_9 : decode cX6_init 9 = .ok (.putfield 9, 3) := by decide +kernel
theorem dX6_init_12 : decode cX6_init 12 = .ok (.aload_n 0, 1) := by decide +kernel
theorem dX6_init_13 : decode cX6_init 13 = .ok (.bipush 6, 2) := by decide +kernel
theorem dX6_init_15 : decode cX6_init 15 = .ok (.newarray .int, 2) := by decide +kernel
theorem dX6_init_17 : decode cX6_init 17 = .ok (.putfield 15, 3) := by decide +kernel
theorem dX6_init_20 : decode cX6_init 20 = .ok (.return_, 1) := by decide +kernel
theorem dX6_clear_0 : decode cX6_clear 0 = .ok (.aload_n 0, 1) := by decide +kernel
theorem dX6_clear_1 : decode cX6_clear 1 = .ok (.iconst 0, 1) := by decide +kernel
theorem dX6_clear_2 : decode cX6_clear 2 = .ok (.putfield 18, 3) := by decide +kernel
theorem dX6_clear_5 : decode cX6_clear 5 = .ok (.return_, 1) := by decide +kernel
theorem dX6_has_0 : decode cX6_has 0 = .ok (.iload_n 1, 1) := by decide +kernel
theorem dX6_has_1 : decode cX6_has 1 = .ok (.ifCond .lt 15, 3) := by decide +kernel
theorem dX6_has_4 : decode cX6_has 4 = .ok (.iload_n 1, 1) := by decide +kernel
theorem dX6_has_5 : decode cX6_has 5 = .ok (.aload_n 0, 1) := by decide +kernel
theorem dX6_has_6 : decode cX6_has 6 = .ok (.getfield 18, 3) := by decide +kernel
theorem dX6_has_9 : decode cX6_has 9 = .ok (.if_icmp .ge 7, 3) := by decide +kernel
theorem dX6_has_12 : decode cX6_has 12 = .ok (.iconst 1, 1) := by decide +kernel
theorem dX6_has_13 : decode cX6_has 13 = .ok (.goto 4, 3) := by decide +kernel
theorem dX6_has_16 : decode cX6_has 16 = .ok (.iconst 0, 1) := by decide +kernel
theorem dX6_has_17 : decode cX6_has 17 = .ok (.ireturn, 1) := by decide +kernel
theorem dX6_add_0 : decode cX6_add 0 = .ok (.aload_n 0, 1) := by decide +kernel
theorem dX6_add_1 : decode cX6_add 1 = .ok (.getfield 9, 3) := by decide +kernel
theorem dX6_add_4 : decode cX6_add 4 = .ok (.aload_n 0, 1) := by decide +kernel
theorem dX6_add_5 : decode cX6_add 5 = .ok (.getfield 18, 3) := by decide +kernel
theorem dX6_add_8 : decode cX6_add 8 = .ok (.iload_n 1, 1) := by decide +kernel
theorem dX6_add_9 : decode cX6_add 9 = .ok (.invokestatic 22, 3) := by decide +kernel
theorem dX6_add_12 : decode cX6_add 12 = .ok (.aload_n 0, 1) := by decide +kernel
theorem dX6_add_13 : decode cX6_add 13 = .ok (.getfield 15, 3) := by decide +kernel
theorem dX6_add_16 : decode cX6_add 16 = .ok (.aload_n 0, 1) := by decide +kernel
theorem dX6_add_17 : decode cX6_add 17 = .ok (.getfield 18, 3) := by decide +kernel
theorem dX6_add_20 : decode cX6_add 20 = .ok (.iload_n 2, 1) := by decide +kernel
theorem dX6_add_21 : decode cX6_add 21 = .ok (.invokestatic 22, 3) := by decide +kernel
theorem dX6_add_24 : decode cX6_add 24 = .ok (.aload_n 0, 1) := by decide +kernel
theorem dX6_add_25 : decode cX6_add 25 = .ok (.dup, 1) := by decide +kernel
theorem dX6_add_26 : decode cX6_add 26 = .ok (.getfield 18, 3) := by decide +kernel
theorem dX6_add_29 : decode cX6_add 29 = .ok (.iconst 1, 1) := by decide +kernel
theorem dX6_add_30 : decode cX6_add 30 = .ok (.iadd, 1) := by decide +kernel
theorem dX6_add_31 : decode cX6_add 31 = .ok (.putfield 18, 3) := by decide +kernel
theorem dX6_add_34 : decode cX6_add 34 = .ok (.aload_n 0, 1) := by decide +kernel
theorem dX6_add_35 : decode cX6_add 35 = .ok (.getfield 18, 3) := by decide +kernel
theorem dX6_add_38 : decode cX6_add 38 = .ok (.iconst 1, 1) := by decide +kernel
theorem dX6_add_39 : decode cX6_add 39 = .ok (.isub, 1) := by decide +kernel
theorem dX6_add_40 : decode cX6_add 40 = .ok (.ireturn, 1) := by decide +kernel
theorem dX6_fallsAt_0 : decode cX6_fallsAt 0 = .ok (.aload_n 0, 1) := by decide +kernel
theorem dX6_fallsAt_1 : decode cX6_fallsAt 1 = .ok (.getfield 9, 3) := by decide +kernel
theorem dX6_fallsAt_4 : decode cX6_fallsAt 4 = .ok (.iload_n 1, 1) := by decide +kernel
theorem dX6_fallsAt_5 : decode cX6_fallsAt 5 = .ok (.invokestatic 26, 3) := by decide +kernel
theorem dX6_fallsAt_8 : decode cX6_fallsAt 8 = .ok (.aload_n 0, 1) := by decide +kernel
theorem dX6_fallsAt_9 : decode cX6_fallsAt 9 = .ok (.getfield 15, 3) := by decide +kernel
theorem dX6_fallsAt_12 : decode cX6_fallsAt 12 = .ok (.iload_n 1, 1) := by decide +kernel
theorem dX6_fallsAt_13 : decode cX6_fallsAt 13 = .ok (.invokestatic 26, 3) := by decide +kernel
theorem dX6_fallsAt_16 : decode cX6_fallsAt 16 = .ok (.iload_n 2, 1) := by decide +kernel
theorem dX6_fallsAt_17 : decode cX6_fallsAt 17 = .ok (.imul, 1) := by decide +kernel
theorem dX6_fallsAt_18 : decode cX6_fallsAt 18 = .ok (.isub, 1) := by decide +kernel
theorem dX6_fallsAt_19 : decode cX6_fallsAt 19 = .ok (.aload 4, 2) := by decide +kernel
theorem dX6_fallsAt_21 : decode cX6_fallsAt 21 = .ok (.iload_n 3, 1) := by decide +kernel
theorem dX6_fallsAt_22 : decode cX6_fallsAt 22 = .ok (.invokevirtual 30, 3) := by decide +kernel
theorem dX6_fallsAt_25 : decode cX6_fallsAt 25 = .ok (.iadd, 1) := by decide +kernel
theorem dX6_fallsAt_26 : decode cX6_fallsAt 26 = .ok (.ireturn, 1) := by decide +kernel
theorem dX6_hitTenths_0 : decode cX6_hitTenths 0 = .ok (.iconst 0, 1) := by decide +kernel
theorem dX6_hitTenths_1 : decode cX6_hitTenths 1 = .ok (.istore 4, 2) := by decide +kernel
theorem dX6_hitTenths_3 : decode cX6_hitTenths 3 = .ok (.iconst (-1), 1) := by decide +kernel
theorem dX6_hitTenths_4 : decode cX6_hitTenths 4 = .ok (.istore 5, 2) := by decide +kernel
theorem dX6_hitTenths_6 : decode cX6_hitTenths 6 = .ok (.iload 5, 2) := by decide +kernel
theorem dX6_hitTenths_8 : decode cX6_hitTenths 8 = .ok (.iconst 1, 1) := by decide +kernel
theorem dX6_hitTenths_9 : decode cX6_hitTenths 9 = .ok (.if_icmp .gt 36, 3) := by decide +kernel
theorem dX6_hitTenths_12 : decode cX6_hitTenths 12 = .ok (.aload_n 3, 1) := by decide +kernel
theorem dX6_hitTenths_13 : decode cX6_hitTenths 13 = .ok (.aload_n 0, 1) := by decide +kernel
theorem dX6_hitTenths_14 : decode cX6_hitTenths 14 = .ok (.iload_n 1, 1) := by decide +kernel
theorem dX6_hitTenths_15 : decode cX6_hitTenths 15 = .ok (.iload_n 2, 1) := by decide +kernel
theorem dX6_hitTenths_16 : decode cX6_hitTenths 16 = .ok (.iload 5, 2) := by decide +kernel
theorem dX6_hitTenths_18 : decode cX6_hitTenths 18 = .ok (.aload_n 3, 1) := by decide +kernel
theorem dX6_hitTenths_19 : decode cX6_hitTenths 19 = .ok (.invokevirtual 36, 3) := by decide +kernel
theorem dX6_hitTenths_22 : decode cX6_hitTenths 22 = .ok (.invokevirtual 40, 3) := by decide +kernel
theorem dX6_hitTenths_25 : decode cX6_hitTenths 25 = .ok (.ifCond .eq 14, 3) := by decide +kernel
theorem dX6_hitTenths_28 : decode cX6_hitTenths 28 = .ok (.iload 4, 2) := by decide +kernel
theorem dX6_hitTenths_30 : decode cX6_hitTenths 30 = .ok (.aload_n 3, 1) := by decide +kernel
theorem dX6_hitTenths_31 : decode cX6_hitTenths 31 = .ok (.iload 5, 2) := by decide +kernel
theorem dX6_hitTenths_33 : decode cX6_hitTenths 33 = .ok (.invokevirtual 44, 3) := by decide +kernel
theorem dX6_hitTenths_36 : decode cX6_hitTenths 36 = .ok (.iadd, 1) := by decide +kernel
theorem dX6_hitTenths_37 : decode cX6_hitTenths 37 = .ok (.istore 4, 2) := by decide +kernel
theorem dX6_hitTenths_39 : decode cX6_hitTenths 39 = .ok (.iinc 5 1, 3) := by decide +kernel
theorem dX6_hitTenths_42 : decode cX6_hitTenths 42 = .ok (.goto (-36), 3) := by decide +kernel
theorem dX6_hitTenths_45 : decode cX6_hitTenths 45 = .ok (.iload 4, 2) := by decide +kernel
theorem dX6_hitTenths_47 : decode cX6_hitTenths 47 = .ok (.ireturn, 1) := by decide +kernel
theorem dX6_left_0 : decode cX6_left 0 = .ok (.iconst 1, 1) := by decide +kernel
theorem dX6_left_1 : decode cX6_left 1 = .ok (.aload_n 0, 1) := by decide +kernel
theorem dX6_left_2 : decode cX6_left 2 = .ok (.getfield 18, 3) := by decide +kernel
theorem dX6_left_5 : decode cX6_left 5 = .ok (.ishl, 1) := by decide +kernel
theorem dX6_left_6 : decode cX6_left 6 = .ok (.iconst 1, 1) := by decide +kernel
theorem dX6_left_7 : decode cX6_left 7 = .ok (.isub, 1) := by decide +kernel
theorem dX6_left_8 : decode cX6_left 8 = .ok (.iload_n 1, 1) := by decide +kernel
theorem dX6_left_9 : decode cX6_left 9 = .ok (.iconst (-1), 1) := by decide +kernel
theorem dX6_left_10 : decode cX6_left 10 = .ok (.ixor, 1) := by decide +kernel
theorem dX6_left_11 : decode cX6_left 11 = .ok (.iand, 1) := by decide +kernel
theorem dX6_left_12 : decode cX6_left 12 = .ok (.ireturn, 1) := by decide +kernel
theorem dX6_leastOf_0 : decode cX6_leastOf 0 = .ok (.iconst 0, 1) := by decide +kernel
theorem dX6_leastOf_1 : decode cX6_leastOf 1 = .ok (.istore_n 2, 1) := by decide +kernel
theorem dX6_leastOf_2 : decode cX6_leastOf 2 = .ok (.iload_n 2, 1) := by decide +kernel
theorem dX6_leastOf_3 : decode cX6_leastOf 3 = .ok (.aload_n 0, 1) := by decide +kernel
theorem dX6_leastOf_4 : decode cX6_leastOf 4 = .ok (.getfield 18, 3) := by decide +kernel
theorem dX6_leastOf_7 : decode cX6_leastOf 7 = .ok (.if_icmp .ge 19, 3) := by decide +kernel
theorem dX6_leastOf_10 : decode cX6_leastOf 10 = .ok (.iload_n 1, 1) := by decide +kernel
theorem dX6_leastOf_11 : decode cX6_leastOf 11 = .ok (.iload_n 2, 1) := by decide +kernel
theorem dX6_leastOf_12 : decode cX6_leastOf 12 = .ok (.invokestatic 47, 3) := by decide +kernel
theorem dX6_leastOf_15 : decode cX6_leastOf 15 = .ok (.ifCond .eq 5, 3) := by decide +kernel
theorem dX6_leastOf_18 : decode cX6_leastOf 18 = .ok (.iload_n 2, 1) := by decide +kernel
theorem dX6_leastOf_19 : decode cX6_leastOf 19 = .ok (.ireturn, 1) := by decide +kernel
theorem dX6_leastOf_20 : decode cX6_leastOf 20 = .ok (.iinc 2 1, 3) := by decide +kernel
theorem dX6_leastOf_23 : decode cX6_leastOf 23 = .ok (.goto (-21), 3) := by decide +kernel
theorem dX6_leastOf_26 : decode cX6_leastOf 26 = .ok (.iconst (-1), 1) := by decide +kernel
theorem dX6_leastOf_27 : decode cX6_leastOf 27 = .ok (.ireturn, 1) := by decide +kernel
theorem dX7_init_0 : decode cX7_init 0 = .ok (.aload_n 0, 1) := by decide +kernel
theorem dX7_init_1 : decode cX7_init 1 = .ok (.invokespecial 3, 3) := by decide +kernel
theorem dX7_init_4 : decode cX7_init 4 = .ok (.aload_n 0, 1) := by decide +kernel
theorem dX7_init_5 : decode cX7_init 5 = .ok (.iconst 3, 1) := by decide +kernel
theorem dX7_init_6 : decode cX7_init 6 = .ok (.newarray .int, 2) := by decide +kernel
theorem dX7_init_8 : decode cX7_init 8 = .ok (.putfield 9, 3) := by decide +kernel
theorem dX7_init_11 : decode cX7_init 11 = .ok (.aload_n 0, 1) := by decide +kernel
theorem dX7_init_12 : decode cX7_init 12 = .ok (.bipush 10, 2) := by decide +kernel
theorem dX7_init_14 : decode cX7_init 14 = .ok (.newarray .int, 2) := by decide +kernel
theorem dX7_init_16 : decode cX7_init 16 = .ok (.putfield 15, 3) := by decide +kernel
theorem dX7_init_19 : decode cX7_init 19 = .ok (.return_, 1) := by decide +kernel
theorem dX7_read_0 : decode cX7_read 0 = .ok (.aload_n 0, 1) := by decide +kernel
theorem dX7_read_1 : decode cX7_read 1 = .ok (.bipush 10, 2) := by decide +kernel
theorem dX7_read_3 : decode cX7_read 3 = .ok (.aload_n 1, 1) := by decide +kernel
theorem dX7_read_4 : decode cX7_read 4 = .ok (.iconst 0, 1) := by decide +kernel
theorem dX7_read_5 : decode cX7_read 5 = .ok (.invokevirtual 18, 3) := by decide +kernel
theorem dX7_read_8 : decode cX7_read 8 = .ok (.imul, 1) := by decide +kernel
theorem dX7_read_9 : decode cX7_read 9 = .ok (.aload_n 1, 1) := by decide +kernel
theorem dX7_read_10 : decode cX7_read 10 = .ok (.iconst 1, 1) := by decide +kernel
theorem dX7_read_11 : decode cX7_read 11 = .ok (.invokevirtual 18, 3) := by decide +kernel
theorem dX7_read_14 : decode cX7_read 14 = .ok (.iadd, 1) := by decide +kernel
theorem dX7_read_15 : decode cX7_read 15 = .ok (.putfield 24, 3) := by decide +kernel
theorem dX7_read_18 : decode cX7_read 18 = .ok (.aload_n 0, 1) := by decide +kernel
theorem dX7_read_19 : decode cX7_read 19 = .ok (.aload_n 1, 1) := by decide +kernel
theorem dX7_read_20 : decode cX7_read 20 = .ok (.iconst 3, 1) := by decide +kernel
theorem dX7_read_21 : decode cX7_read 21 = .ok (.invokevirtual 18, 3) := by decide +kernel
theorem dX7_read_24 : decode cX7_read 24 = .ok (.putfield 28, 3) := by decide +kernel
theorem dX7_read_27 : decode cX7_read 27 = .ok (.iconst 0, 1) := by decide +kernel
theorem dX7_read_28 : decode cX7_read 28 = .ok (.istore_n 2, 1) := by decide +kernel
theorem dX7_read_29 : decode cX7_read 29 = .ok (.iload_n 2, 1) := by decide +kernel
theorem dX7_read_30 : decode cX7_read 30 = .ok (.aload_n 0, 1) := by decide +kernel
theorem dX7_read_31 : decode cX7_read 31 = .ok (.getfield 9, 3) := by decide +kernel
theorem dX7_read_34 : decode cX7_read 34 = .ok (.arraylength, 1) := by decide +kernel
theorem dX7_read_35 : decode cX7_read 35 = .ok (.if_icmp .ge 24, 3) := by decide +kernel
theorem dX7_read_38 : decode cX7_read 38 = .ok (.aload_n 0, 1) := by decide +kernel
theorem dX7_read_39 : decode cX7_read 39 = .ok (.getfield 9, 3) := by decide +kernel
theorem dX7_read_42 : decode cX7_read 42 = .ok (.iload_n 2, 1) := by decide +kernel
theorem dX7_read_43 : decode cX7_read 43 = .ok (.aload_n 1, 1) := by decide +kernel
theorem dX7_read_44 : decode cX7_read 44 = .ok (.iconst 5, 1) := by decide +kernel
theorem dX7_read_45 : decode cX7_read 45 = .ok (.iload_n 2, 1) := by decide +kernel
theorem dX7_read_46 : decode cX7_read 46 = .ok (.iadd, 1) := by decide +kernel
theorem dX7_read_47 : decode cX7_read 47 = .ok (.invokevirtual 18, 3) := by decide +kernel
theorem dX7_read_50 : decode cX7_read 50 = .ok (.invokestatic 31, 3) := by decide +kernel
theorem dX7_read_53 : decode cX7_read 53 = .ok (.iinc 2 1, 3) := by decide +kernel
theorem dX7_read_56 : decode cX7_read 56 = .ok (.goto (-27), 3) := by decide +kernel
theorem dX7_read_59 : decode cX7_read 59 = .ok (.aload_n 0, 1) := by decide +kernel
theorem dX7_read_60 : decode cX7_read 60 = .ok (.aload_n 1, 1) := by decide +kernel
theorem dX7_read_61 : decode cX7_read 61 = .ok (.getfield 35, 3) := by decide +kernel
theorem dX7_read_64 : decode cX7_read 64 = .ok (.bipush 9, 2) := by decide +kernel
theorem dX7_read_66 : decode cX7_read 66 = .ok (.isub, 1) := by decide +kernel
theorem dX7_read_67 : decode cX7_read 67 = .ok (.putfield 38, 3) := by decide +kernel
theorem dX7_read_70 : decode cX7_read 70 = .ok (.iconst 0, 1) := by decide +kernel
theorem dX7_read_71 : decode cX7_read 71 = .ok (.istore_n 2, 1) := by decide +kernel
theorem dX7_read_72 : decode cX7_read 72 = .ok (.iload_n 2, 1) := by decide +kernel
theorem dX7_read_73 : decode cX7_read 73 = .ok (.aload_n 0, 1) := by decide +kernel
theorem dX7_read_74 : decode cX7_read 74 = .ok (.getfield 38, 3) := by decide +kernel
theorem dX7_read_77 : decode cX7_read 77 = .ok (.if_icmp .ge 25, 3) := by decide +kernel
theorem dX7_read_80 : decode cX7_read 80 = .ok (.aload_n 0, 1) := by decide +kernel
theorem dX7_read_81 : decode cX7_read 81 = .ok (.getfield 15, 3) := by decide +kernel
theorem dX7_read_84 : decode cX7_read 84 = .ok (.iload_n 2, 1) := by decide +kernel
theorem dX7_read_85 : decode cX7_read 85 = .ok (.aload_n 1, 1) := by decide +kernel
theorem dX7_read_86 : decode cX7_read 86 = .ok (.bipush 9, 2) := by decide +kernel
theorem dX7_read_88 : decode cX7_read 88 = .ok (.iload_n 2, 1) := by decide +kernel
theorem dX7_read_89 : decode cX7_read 89 = .ok (.iadd, 1) := by decide +kernel
theorem dX7_read_90 : decode cX7_read 90 = .ok (.invokevirtual 18, 3) := by decide +kernel
theorem dX7_read_93 : decode cX7_read 93 = .ok (.invokestatic 31, 3) := by decide +kernel
theorem dX7_read_96 : decode cX7_read 96 = .ok (.iinc 2 1, 3) := by decide +kernel
theorem dX7_read_99 : decode cX7_read 99 = .ok (.goto (-27), 3) := by decide +kernel
theorem dX7_read_102 : decode cX7_read 102 = .ok (.return_, 1) := by decide +kernel
theorem dX7_tell_0 : decode cX7_tell 0 = .ok (.iload_n 1, 1) := by decide +kernel
theorem dX7_tell_1 : decode cX7_tell 1 = .ok (.ifCond .ne 8, 3) := by decide +kernel
theorem dX7_tell_4 : decode cX7_tell 4 = .ok (.aload_n 0, 1) := by decide +kernel
theorem dX7_tell_5 : decode cX7_tell 5 = .ok (.getfield 24, 3) := by decide +kernel
theorem dX7_tell_8 : decode cX7_tell 8 = .ok (.ireturn, 1) := by decide +kernel
theorem dX7_tell_9 : decode cX7_tell 9 = .ok (.iload_n 1, 1) := by decide +kernel
theorem dX7_tell_10 : decode cX7_tell 10 = .ok (.iconst 1, 1) := by decide +kernel
theorem dX7_tell_11 : decode cX7_tell 11 = .ok (.if_icmp .ne 8, 3) := by decide +kernel
theorem dX7_tell_14 : decode cX7_tell 14 = .ok (.aload_n 0, 1) := by decide +kernel
theorem dX7_tell_15 : decode cX7_tell 15 = .ok (.getfield 28, 3) := by decide +kernel
theorem dX7_tell_18 : decode cX7_tell 18 = .ok (.ireturn, 1) := by decide +kernel
theorem dX7_tell_19 : decode cX7_tell 19 = .ok (.iload_n 1, 1) := by decide +kernel
theorem dX7_tell_20 : decode cX7_tell 20 = .ok (.bipush 10, 2) := by decide +kernel
theorem dX7_tell_22 : decode cX7_tell 22 = .ok (.if_icmp .ge 14, 3) := by decide +kernel
theorem dX7_tell_25 : decode cX7_tell 25 = .ok (.aload_n 0, 1) := by decide +kernel
theorem dX7_tell_26 : decode cX7_tell 26 = .ok (.getfield 9, 3) := by decide +kernel
theorem dX7_tell_29 : decode cX7_tell 29 = .ok (.iload_n 1, 1) := by decide +kernel
theorem dX7_tell_30 : decode cX7_tell 30 = .ok (.iconst 2, 1) := by decide +kernel
theorem dX7_tell_31 : decode cX7_tell 31 = .ok (.isub, 1) := by decide +kernel
theorem dX7_tell_32 : decode cX7_tell 32 = .ok (.invokestatic 41, 3) := by decide +kernel
theorem dX7_tell_35 : decode cX7_tell 35 = .ok (.ireturn, 1) := by decide +kernel
theorem dX7_tell_36 : decode cX7_tell 36 = .ok (.iload_n 1, 1) := by decide +kernel
theorem dX7_tell_37 : decode cX7_tell 37 = .ok (.bipush 10, 2) := by decide +kernel
theorem dX7_tell_39 : decode cX7_tell 39 = .ok (.isub, 1) := by decide +kernel
theorem dX7_tell_40 : decode cX7_tell 40 = .ok (.aload_n 0, 1) := by decide +kernel
theorem dX7_tell_41 : decode cX7_tell 41 = .ok (.getfield 38, 3) := by decide +kernel
theorem dX7_tell_44 : decode cX7_tell 44 = .ok (.if_icmp .ge 17, 3) := by decide +kernel
theorem dX7_tell_47 : decode cX7_tell 47 = .ok (.aload_n 0, 1) := by decide +kernel
theorem dX7_tell_48 : decode cX7_tell 48 = .ok (.getfield 15, 3) := by decide +kernel
theorem dX7_tell_51 : decode cX7_tell 51 = .ok (.iload_n 1, 1) := by decide +kernel
theorem dX7_tell_52 : decode cX7_tell 52 = .ok (.bipush 10, 2) := by decide +kernel
theorem dX7_tell_54 : decode cX7_tell 54 = .ok (.isub, 1) := by decide +kernel
theorem dX7_tell_55 : decode cX7_tell 55 = .ok (.invokestatic 41, 3) := by decide +kernel
theorem dX7_tell_58 : decode cX7_tell 58 = .ok (.goto 4, 3) := by decide +kernel
theorem dX7_tell_61 : decode cX7_tell 61 = .ok (.iconst (-1), 1) := by decide +kernel
theorem dX7_tell_62 : decode cX7_tell 62 = .ok (.ireturn, 1) := by decide +kernel
theorem dX7_endMinute_0 : decode cX7_endMinute 0 = .ok (.aload_n 0, 1) := by decide +kernel
theorem dX7_endMinute_1 : decode cX7_endMinute 1 = .ok (.getfield 38, 3) := by decide +kernel
theorem dX7_endMinute_4 : decode cX7_endMinute 4 = .ok (.iconst 5, 1) := by decide +kernel
theorem dX7_endMinute_5 : decode cX7_endMinute 5 = .ok (.imul, 1) := by decide +kernel
theorem dX7_endMinute_6 : decode cX7_endMinute 6 = .ok (.ireturn, 1) := by decide +kernel
theorem dX7_gustTenths_0 : decode cX7_gustTenths 0 = .ok (.aload_n 0, 1) := by decide +kernel
theorem dX7_gustTenths_1 : decode cX7_gustTenths 1 = .ok (.getfield 9, 3) := by decide +kernel
theorem dX7_gustTenths_4 : decode cX7_gustTenths 4 = .ok (.iload_n 1, 1) := by decide +kernel
theorem dX7_gustTenths_5 : decode cX7_gustTenths 5 = .ok (.iconst 1, 1) := by decide +kernel
theorem dX7_gustTenths_6 : decode cX7_gustTenths 6 = .ok (.iadd, 1) := by decide +kernel
theorem dX7_gustTenths_7 : decode cX7_gustTenths 7 = .ok (.invokestatic 41, 3) := by decide +kernel
theorem dX7_gustTenths_10 : decode cX7_gustTenths 10 = .ok (.ireturn, 1) := by decide +kernel
theorem dX7_breakTenths_0 : decode cX7_breakTenths 0 = .ok (.aload_n 0, 1) := by decide +kernel
theorem dX7_breakTenths_1 : decode cX7_breakTenths 1 = .ok (.getfield 15, 3) := by decide +kernel
theorem dX7_breakTenths_4 : decode cX7_breakTenths 4 = .ok (.iload_n 1, 1) := by decide +kernel
theorem dX7_breakTenths_5 : decode cX7_breakTenths 5 = .ok (.invokestatic 41, 3) := by decide +kernel
theorem dX7_breakTenths_8 : decode cX7_breakTenths 8 = .ok (.ireturn, 1) := by decide +kernel
theorem dX7_isLast_0 : decode cX7_isLast 0 = .ok (.iload_n 1, 1) := by decide +kernel
theorem dX7_isLast_1 : decode cX7_isLast 1 = .ok (.aload_n 0, 1) := by decide +kernel
theorem dX7_isLast_2 : decode cX7_isLast 2 = .ok (.getfield 38, 3) := by decide +kernel
theorem dX7_isLast_5 : decode cX7_isLast 5 = .ok (.iconst 1, 1) := by decide +kernel
theorem dX7_isLast_6 : decode cX7_isLast 6 = .ok (.isub, 1) := by decide +kernel
theorem dX7_isLast_7 : decode cX7_isLast 7 = .ok (.if_icmp .lt 7, 3) := by decide +kernel
theorem dX7_isLast_10 : decode cX7_isLast 10 = .ok (.iconst 1, 1) := by decide +kernel
theorem dX7_isLast_11 : decode cX7_isLast 11 = .ok (.goto 4, 3) := by decide +kernel
theorem dX7_isLast_14 : decode cX7_isLast 14 = .ok (.iconst 0, 1) := by decide +kernel
theorem dX7_isLast_15 : decode cX7_isLast 15 = .ok (.ireturn, 1) := by decide +kernel
theorem dX7_drift_0 : decode cX7_drift 0 = .ok (.iload_n 1, 1) := by decide +kernel
theorem dX7_drift_1 : decode cX7_drift 1 = .ok (.aload_n 0, 1) := by decide +kernel
theorem dX7_drift_2 : decode cX7_drift 2 = .ok (.getfield 28, 3) := by decide +kernel
theorem dX7_drift_5 : decode cX7_drift 5 = .ok (.imul, 1) := by decide +kernel
theorem dX7_drift_6 : decode cX7_drift 6 = .ok (.ireturn, 1) := by decide +kernel
theorem dX7_isRight_0 : decode cX7_isRight 0 = .ok (.iload_n 1, 1) := by decide +kernel
theorem dX7_isRight_1 : decode cX7_isRight 1 = .ok (.aload_n 0, 1) := by decide +kernel
theorem dX7_isRight_2 : decode cX7_isRight 2 = .ok (.getfield 24, 3) := by decide +kernel
theorem dX7_isRight_5 : decode cX7_isRight 5 = .ok (.if_icmp .lt 17, 3) := by decide +kernel
theorem dX7_isRight_8 : decode cX7_isRight 8 = .ok (.iload_n 1, 1) := by decide +kernel
theorem dX7_isRight_9 : decode cX7_isRight 9 = .ok (.aload_n 0, 1) := by decide +kernel
theorem dX7_isRight_10 : decode cX7_isRight 10 = .ok (.getfield 24, 3) := by decide +kernel
theorem dX7_isRight_13 : decode cX7_isRight 13 = .ok (.iconst 5, 1) := by decide +kernel
theorem dX7_isRight_14 : decode cX7_isRight 14 = .ok (.iadd, 1) := by decide +kernel
theorem dX7_isRight_15 : decode cX7_isRight 15 = .ok (.if_icmp .gt 7, 3) := by decide +kernel
theorem dX7_isRight_18 : decode cX7_isRight 18 = .ok (.iconst 1, 1) := by decide +kernel
theorem dX7_isRight_19 : decode cX7_isRight 19 = .ok (.goto 4, 3) := by decide +kernel
theorem dX7_isRight_22 : decode cX7_isRight 22 = .ok (.iconst 0, 1) := by decide +kernel
theorem dX7_isRight_23 : decode cX7_isRight 23 = .ok (.ireturn, 1) := by decide +kernel
theorem dX8_init_0 : decode cX8_init 0 = .ok (.aload_n 0, 1) := by decide +kernel
theorem dX8_init_1 : decode cX8_init 1 = .ok (.invokespecial 3, 3) := by decide +kernel
theorem dX8_init_4 : decode cX8_init 4 = .ok (.aload_n 0, 1) := by decide +kernel
theorem dX8_init_5 : decode cX8_init 5 = .ok (.bipush 6, 2) := by decide +kernel
theorem dX8_init_7 : decode cX8_init 7 = .ok (.newarray .int, 2) := by decide +kernel
theorem dX8_init_9 : decode cX8_init 9 = .ok (.putfield 9, 3) := by decide +kernel
theorem dX8_init_12 : decode cX8_init 12 = .ok (.aload_n 0, 1) := by decide +kernel
theorem dX8_init_13 : decode cX8_init 13 = .ok (.bipush 64, 2) := by decide +kernel
theorem dX8_init_15 : decode cX8_init 15 = .ok (.newarray .int, 2) := by decide +kernel
theorem dX8_init_17 : decode cX8_init 17 = .ok (.putfield 15, 3) := by decide +kernel
theorem dX8_init_20 : decode cX8_init 20 = .ok (.aload_n 0, 1) := by decide +kernel
theorem dX8_init_21 : decode cX8_init 21 = .ok (.bipush 64, 2) := by decide +kernel
theorem dX8_init_23 : decode cX8_init 23 = .ok (.newarray .int, 2) := by decide +kernel
theorem dX8_init_25 : decode cX8_init 25 = .ok (.putfield 18, 3) := by decide +kernel
theorem dX8_init_28 : decode cX8_init 28 = .ok (.return_, 1) := by decide +kernel
theorem dX8_search_0 : decode cX8_search 0 = .ok (.aload_n 0, 1) := by decide +kernel
theorem dX8_search_1 : decode cX8_search 1 = .ok (.aload_n 1, 1) := by decide +kernel
theorem dX8_search_2 : decode cX8_search 2 = .ok (.getfield 21, 3) := by decide +kernel
theorem dX8_search_5 : decode cX8_search 5 = .ok (.putfield 27, 3) := by decide +kernel
theorem dX8_search_8 : decode cX8_search 8 = .ok (.aload_n 0, 1) := by decide +kernel
theorem dX8_search_9 : decode cX8_search 9 = .ok (.aload_n 1, 1) := by decide +kernel
theorem dX8_search_10 : decode cX8_search 10 = .ok (.invokevirtual 28, 3) := by decide +kernel
theorem dX8_search_13 : decode cX8_search 13 = .ok (.putfield 32, 3) := by decide +kernel
theorem dX8_search_16 : decode cX8_search 16 = .ok (.iconst 0, 1) := by decide +kernel
theorem dX8_search_17 : decode cX8_search 17 = .ok (.istore_n 3, 1) := by decide +kernel
theorem dX8_search_18 : decode cX8_search 18 = .ok (.iload_n 3, 1) := by decide +kernel
theorem dX8_search_19 : decode cX8_search 19 = .ok (.aload_n 0, 1) := by decide +kernel
theorem dX8_search_20 : decode cX8_search 20 = .ok (.getfield 27, 3) := by decide +kernel
theorem dX8_search_23 : decode cX8_search 23 = .ok (.if_icmp .ge 28, 3) := by decide +kernel
theorem dX8_search_26 : decode cX8_search 26 = .ok (.aload_n 0, 1) := by decide +kernel
theorem dX8_search_27 : decode cX8_search 27 = .ok (.getfield 9, 3) := by decide +kernel
theorem dX8_search_30 : decode cX8_search 30 = .ok (.iload_n 3, 1) := by decide +kernel
theorem dX8_search_31 : decode cX8_search 31 = .ok (.aload_n 1, 1) := by decide +kernel
theorem dX8_search_32 : decode cX8_search 32 = .ok (.iload_n 3, 1) := by decide +kernel
theorem dX8_search_33 : decode cX8_search 33 = .ok (.invokevirtual 34, 3) := by decide +kernel
theorem dX8_search_36 : decode cX8_search 36 = .ok (.aload_n 2, 1) := by decide +kernel
theorem dX8_search_37 : decode cX8_search 37 = .ok (.iload_n 3, 1) := by decide +kernel
theorem dX8_search_38 : decode cX8_search 38 = .ok (.invokevirtual 38, 3) := by decide +kernel
theorem dX8_search_41 : decode cX8_search 41 = .ok (.ior, 1) := by decide +kernel
theorem dX8_search_42 : decode cX8_search 42 = .ok (.invokestatic 43, 3) := by decide +kernel
theorem dX8_search_45 : decode cX8_search 45 = .ok (.iinc 3 1, 3) := by decide +kernel
theorem dX8_search_48 : decode cX8_search 48 = .ok (.goto (-30), 3) := by decide +kernel
theorem dX8_search_51 : decode cX8_search 51 = .ok (.aload_n 0, 1) := by decide +kernel
theorem dX8_search_52 : decode cX8_search 52 = .ok (.invokevirtual 47, 3) := by decide +kernel
theorem dX8_search_55 : decode cX8_search 55 = .ok (.aload_n 0, 1) := by decide +kernel
end
section
theorem dX8_search_56 : decode cX8_search 56 = .ok (.invokevirtual 50, 3) := by decide +kernel
theorem dX8_search_59 : decode cX8_search 59 = .ok (.return_, 1) := by decide +kernel
theorem dX8_total_0 : decode cX8_total 0 = .ok (.aload_n 0, 1) := by decide +kernel
theorem dX8_total_1 : decode cX8_total 1 = .ok (.getfield 18, 3) := by decide +kernel
theorem dX8_total_4 : decode cX8_total 4 = .ok (.iconst 0, 1) := by decide +kernel
theorem dX8_total_5 : decode cX8_total 5 = .ok (.invokestatic 53, 3) := by decide +kernel
theorem dX8_total_8 : decode cX8_total 8 = .ok (.ireturn, 1) := by decide +kernel
theorem dX8_surePlace_0 : decode cX8_surePlace 0 = .ok (.iconst (-1), 1) := by decide +kernel
theorem dX8_surePlace_1 : decode cX8_surePlace 1 = .ok (.istore_n 2, 1) := by decide +kernel
theorem dX8_surePlace_2 : decode cX8_surePlace 2 = .ok (.iconst 0, 1) := by decide +kernel
theorem dX8_surePlace_3 : decode cX8_surePlace 3 = .ok (.istore_n 3, 1) := by decide +kernel
theorem dX8_surePlace_4 : decode cX8_surePlace 4 = .ok (.iload_n 3, 1) := by decide +kernel
theorem dX8_surePlace_5 : decode cX8_surePlace 5 = .ok (.aload_n 0, 1) := by decide +kernel
theorem dX8_surePlace_6 : decode cX8_surePlace 6 = .ok (.getfield 32, 3) := by decide +kernel
theorem dX8_surePlace_9 : decode cX8_surePlace 9 = .ok (.if_icmp .gt 66, 3) := by decide +kernel
theorem dX8_surePlace_12 : decode cX8_surePlace 12 = .ok (.aload_n 0, 1) := by decide +kernel
theorem dX8_surePlace_13 : decode cX8_surePlace 13 = .ok (.iload_n 3, 1) := by decide +kernel
theorem dX8_surePlace_14 : decode cX8_surePlace 14 = .ok (.iload_n 1, 1) := by decide +kernel
theorem dX8_surePlace_15 : decode cX8_surePlace 15 = .ok (.invokevirtual 57, 3) := by decide +kernel
theorem dX8_surePlace_18 : decode cX8_surePlace 18 = .ok (.ifCond .eq 51, 3) := by decide +kernel
theorem dX8_surePlace_21 : decode cX8_surePlace 21 = .ok (.aload_n 0, 1) := by decide +kernel
theorem dX8_surePlace_22 : decode cX8_surePlace 22 = .ok (.getfield 15, 3) := by decide +kernel
theorem dX8_surePlace_25 : decode cX8_surePlace 25 = .ok (.iload_n 3, 1) := by decide +kernel
theorem dX8_surePlace_26 : decode cX8_surePlace 26 = .ok (.invokestatic 53, 3) := by decide +kernel
theorem dX8_surePlace_29 : decode cX8_surePlace 29 = .ok (.ifCond .le 40, 3) := by decide +kernel
theorem dX8_surePlace_32 : decode cX8_surePlace 32 = .ok (.aload_n 0, 1) := by decide +kernel
theorem dX8_surePlace_33 : decode cX8_surePlace 33 = .ok (.getfield 18, 3) := by decide +kernel
theorem dX8_surePlace_36 : decode cX8_surePlace 36 = .ok (.iload_n 3, 1) := by decide +kernel
theorem dX8_surePlace_37 : decode cX8_surePlace 37 = .ok (.iload_n 1, 1) := by decide +kernel
theorem dX8_surePlace_38 : decode cX8_surePlace 38 = .ok (.invokestatic 61, 3) := by decide +kernel
theorem dX8_surePlace_41 : decode cX8_surePlace 41 = .ok (.invokestatic 53, 3) := by decide +kernel
theorem dX8_surePlace_44 : decode cX8_surePlace 44 = .ok (.ifCond .le 25, 3) := by decide +kernel
theorem dX8_surePlace_47 : decode cX8_surePlace 47 = .ok (.iload_n 3, 1) := by decide +kernel
theorem dX8_surePlace_48 : decode cX8_surePlace 48 = .ok (.invokestatic 65, 3) := by decide +kernel
theorem dX8_surePlace_51 : decode cX8_surePlace 51 = .ok (.istore 4, 2) := by decide +kernel
theorem dX8_surePlace_53 : decode cX8_surePlace 53 = .ok (.iload_n 2, 1) := by decide +kernel
theorem dX8_surePlace_54 : decode cX8_surePlace 54 = .ok (.iconst (-1), 1) := by decide +kernel
theorem dX8_surePlace_55 : decode cX8_surePlace 55 = .ok (.if_icmp .eq 11, 3) := by decide +kernel
theorem dX8_surePlace_58 : decode cX8_surePlace 58 = .ok (.iload_n 2, 1) := by decide +kernel
theorem dX8_surePlace_59 : decode cX8_surePlace 59 = .ok (.iload 4, 2) := by decide +kernel
theorem dX8_surePlace_61 : decode cX8_surePlace 61 = .ok (.if_icmp .eq 5, 3) := by decide +kernel
theorem dX8_surePlace_64 : decode cX8_surePlace 64 = .ok (.iconst (-1), 1) := by decide +kernel
theorem dX8_surePlace_65 : decode cX8_surePlace 65 = .ok (.ireturn, 1) := by decide +kernel
theorem dX8_surePlace_66 : decode cX8_surePlace 66 = .ok (.iload 4, 2) := by decide +kernel
theorem dX8_surePlace_68 : decode cX8_surePlace 68 = .ok (.istore_n 2, 1) := by decide +kernel
theorem dX8_surePlace_69 : decode cX8_surePlace 69 = .ok (.iinc 3 1, 3) := by decide +kernel
theorem dX8_surePlace_72 : decode cX8_surePlace 72 = .ok (.goto (-68), 3) := by decide +kernel
theorem dX8_surePlace_75 : decode cX8_surePlace 75 = .ok (.iload_n 2, 1) := by decide +kernel
theorem dX8_surePlace_76 : decode cX8_surePlace 76 = .ok (.ireturn, 1) := by decide +kernel
theorem dX8_countWays_0 : decode cX8_countWays 0 = .ok (.aload_n 0, 1) := by decide +kernel
theorem dX8_countWays_1 : decode cX8_countWays 1 = .ok (.getfield 15, 3) := by decide +kernel
theorem dX8_countWays_4 : decode cX8_countWays 4 = .ok (.iconst 0, 1) := by decide +kernel
theorem dX8_countWays_5 : decode cX8_countWays 5 = .ok (.invokestatic 70, 3) := by decide +kernel
theorem dX8_countWays_8 : decode cX8_countWays 8 = .ok (.aload_n 0, 1) := by decide +kernel
theorem dX8_countWays_9 : decode cX8_countWays 9 = .ok (.getfield 15, 3) := by decide +kernel
theorem dX8_countWays_12 : decode cX8_countWays 12 = .ok (.iconst 0, 1) := by decide +kernel
theorem dX8_countWays_13 : decode cX8_countWays 13 = .ok (.iconst 1, 1) := by decide +kernel
theorem dX8_countWays_14 : decode cX8_countWays 14 = .ok (.invokestatic 43, 3) := by decide +kernel
theorem dX8_countWays_17 : decode cX8_countWays 17 = .ok (.iconst 0, 1) := by decide +kernel
theorem dX8_countWays_18 : decode cX8_countWays 18 = .ok (.istore_n 1, 1) := by decide +kernel
theorem dX8_countWays_19 : decode cX8_countWays 19 = .ok (.iload_n 1, 1) := by decide +kernel
theorem dX8_countWays_20 : decode cX8_countWays 20 = .ok (.aload_n 0, 1) := by decide +kernel
theorem dX8_countWays_21 : decode cX8_countWays 21 = .ok (.getfield 32, 3) := by decide +kernel
theorem dX8_countWays_24 : decode cX8_countWays 24 = .ok (.if_icmp .gt 65, 3) := by decide +kernel
theorem dX8_countWays_27 : decode cX8_countWays 27 = .ok (.iconst 0, 1) := by decide +kernel
theorem dX8_countWays_28 : decode cX8_countWays 28 = .ok (.istore_n 2, 1) := by decide +kernel
theorem dX8_countWays_29 : decode cX8_countWays 29 = .ok (.iload_n 2, 1) := by decide +kernel
theorem dX8_countWays_30 : decode cX8_countWays 30 = .ok (.aload_n 0, 1) := by decide +kernel
theorem dX8_countWays_31 : decode cX8_countWays 31 = .ok (.getfield 27, 3) := by decide +kernel
theorem dX8_countWays_34 : decode cX8_countWays 34 = .ok (.if_icmp .ge 49, 3) := by decide +kernel
theorem dX8_countWays_37 : decode cX8_countWays 37 = .ok (.aload_n 0, 1) := by decide +kernel
theorem dX8_countWays_38 : decode cX8_countWays 38 = .ok (.iload_n 1, 1) := by decide +kernel
theorem dX8_countWays_39 : decode cX8_countWays 39 = .ok (.iload_n 2, 1) := by decide +kernel
theorem dX8_countWays_40 : decode cX8_countWays 40 = .ok (.invokevirtual 57, 3) := by decide +kernel
theorem dX8_countWays_43 : decode cX8_countWays 43 = .ok (.ifCond .eq 34, 3) := by decide +kernel
theorem dX8_countWays_46 : decode cX8_countWays 46 = .ok (.iload_n 1, 1) := by decide +kernel
theorem dX8_countWays_47 : decode cX8_countWays 47 = .ok (.iload_n 2, 1) := by decide +kernel
theorem dX8_countWays_48 : decode cX8_countWays 48 = .ok (.invokestatic 61, 3) := by decide +kernel
theorem dX8_countWays_51 : decode cX8_countWays 51 = .ok (.istore_n 3, 1) := by decide +kernel
theorem dX8_countWays_52 : decode cX8_countWays 52 = .ok (.aload_n 0, 1) := by decide +kernel
theorem dX8_countWays_53 : decode cX8_countWays 53 = .ok (.getfield 15, 3) := by decide +kernel
theorem dX8_countWays_56 : decode cX8_countWays 56 = .ok (.iload_n 3, 1) := by decide +kernel
theorem dX8_countWays_57 : decode cX8_countWays 57 = .ok (.aload_n 0, 1) := by decide +kernel
theorem dX8_countWays_58 : decode cX8_countWays 58 = .ok (.getfield 15, 3) := by decide +kernel
theorem dX8_countWays_61 : decode cX8_countWays 61 = .ok (.iload_n 3, 1) := by decide +kernel
theorem dX8_countWays_62 : decode cX8_countWays 62 = .ok (.invokestatic 53, 3) := by decide +kernel
theorem dX8_countWays_65 : decode cX8_countWays 65 = .ok (.aload_n 0, 1) := by decide +kernel
theorem dX8_countWays_66 : decode cX8_countWays 66 = .ok (.getfield 15, 3) := by decide +kernel
theorem dX8_countWays_69 : decode cX8_countWays 69 = .ok (.iload_n 1, 1) := by decide +kernel
theorem dX8_countWays_70 : decode cX8_countWays 70 = .ok (.invokestatic 53, 3) := by decide +kernel
theorem dX8_countWays_73 : decode cX8_countWays 73 = .ok (.iadd, 1) := by decide +kernel
theorem dX8_countWays_74 : decode cX8_countWays 74 = .ok (.invokestatic 43, 3) := by decide +kernel
theorem dX8_countWays_77 : decode cX8_countWays 77 = .ok (.iinc 2 1, 3) := by decide +kernel
theorem dX8_countWays_80 : decode cX8_countWays 80 = .ok (.goto (-51), 3) := by decide +kernel
theorem dX8_countWays_83 : decode cX8_countWays 83 = .ok (.iinc 1 1, 3) := by decide +kernel
theorem dX8_countWays_86 : decode cX8_countWays 86 = .ok (.goto (-67), 3) := by decide +kernel
theorem dX8_countWays_89 : decode cX8_countWays 89 = .ok (.return_, 1) := by decide +kernel
theorem dX8_countRests_0 : decode cX8_countRests 0 = .ok (.aload_n 0, 1) := by decide +kernel
theorem dX8_countRests_1 : decode cX8_countRests 1 = .ok (.getfield 18, 3) := by decide +kernel
theorem dX8_countRests_4 : decode cX8_countRests 4 = .ok (.iconst 0, 1) := by decide +kernel
theorem dX8_countRests_5 : decode cX8_countRests 5 = .ok (.invokestatic 70, 3) := by decide +kernel
theorem dX8_countRests_8 : decode cX8_countRests 8 = .ok (.aload_n 0, 1) := by decide +kernel
theorem dX8_countRests_9 : decode cX8_countRests 9 = .ok (.getfield 18, 3) := by decide +kernel
theorem dX8_countRests_12 : decode cX8_countRests 12 = .ok (.aload_n 0, 1) := by decide +kernel
theorem dX8_countRests_13 : decode cX8_countRests 13 = .ok (.getfield 32, 3) := by decide +kernel
theorem dX8_countRests_16 : decode cX8_countRests 16 = .ok (.iconst 1, 1) := by decide +kernel
theorem dX8_countRests_17 : decode cX8_countRests 17 = .ok (.invokestatic 43, 3) := by decide +kernel
theorem dX8_countRests_20 : decode cX8_countRests 20 = .ok (.aload_n 0, 1) := by decide +kernel
theorem dX8_countRests_21 : decode cX8_countRests 21 = .ok (.getfield 32, 3) := by decide +kernel
theorem dX8_countRests_24 : decode cX8_countRests 24 = .ok (.istore_n 1, 1) := by decide +kernel
theorem dX8_countRests_25 : decode cX8_countRests 25 = .ok (.iload_n 1, 1) := by decide +kernel
theorem dX8_countRests_26 : decode cX8_countRests 26 = .ok (.ifCond .lt 63, 3) := by decide +kernel
theorem dX8_countRests_29 : decode cX8_countRests 29 = .ok (.iconst 0, 1) := by decide +kernel
theorem dX8_countRests_30 : decode cX8_countRests 30 = .ok (.istore_n 2, 1) := by decide +kernel
theorem dX8_countRests_31 : decode cX8_countRests 31 = .ok (.iload_n 2, 1) := by decide +kernel
theorem dX8_countRests_32 : decode cX8_countRests 32 = .ok (.aload_n 0, 1) := by decide +kernel
theorem dX8_countRests_33 : decode cX8_countRests 33 = .ok (.getfield 27, 3) := by decide +kernel
theorem dX8_countRests_36 : decode cX8_countRests 36 = .ok (.if_icmp .ge 47, 3) := by decide +kernel
theorem dX8_countRests_39 : decode cX8_countRests 39 = .ok (.aload_n 0, 1) := by decide +kernel
theorem dX8_countRests_40 : decode cX8_countRests 40 = .ok (.iload_n 1, 1) := by decide +kernel
theorem dX8_countRests_41 : decode cX8_countRests 41 = .ok (.iload_n 2, 1) := by decide +kernel
theorem dX8_countRests_42 : decode cX8_countRests 42 = .ok (.invokevirtual 57, 3) := by decide +kernel
theorem dX8_countRests_45 : decode cX8_countRests 45 = .ok (.ifCond .eq 32, 3) := by decide +kernel
theorem dX8_countRests_48 : decode cX8_countRests 48 = .ok (.aload_n 0, 1) := by decide +kernel
theorem dX8_countRests_49 : decode cX8_countRests 49 = .ok (.getfield 18, 3) := by decide +kernel
theorem dX8_countRests_52 : decode cX8_countRests 52 = .ok (.iload_n 1, 1) := by decide +kernel
theorem dX8_countRests_53 : decode cX8_countRests 53 = .ok (.aload_n 0, 1) := by decide +kernel
theorem dX8_countRests_54 : decode cX8_countRests 54 = .ok (.getfield 18, 3) := by decide +kernel
theorem dX8_countRests_57 : decode cX8_countRests 57 = .ok (.iload_n 1, 1) := by decide +kernel
theorem dX8_countRests_58 : decode cX8_countRests 58 = .ok (.invokestatic 53, 3) := by decide +kernel
theorem dX8_countRests_61 : decode cX8_countRests 61 = .ok (.aload_n 0, 1) := by decide +kernel
theorem dX8_countRests_62 : decode cX8_countRests 62 = .ok (.getfield 18, 3) := by decide +kernel
theorem dX8_countRests_65 : decode cX8_countRests 65 = .ok (.iload_n 1, 1) := by decide +kernel
theorem dX8_countRests_66 : decode cX8_countRests 66 = .ok (.iload_n 2, 1) := by decide +kernel
theorem dX8_countRests_67 : decode cX8_countRests 67 = .ok (.invokestatic 61, 3) := by decide +kernel
theorem dX8_countRests_70 : decode cX8_countRests 70 = .ok (.invokestatic 53, 3) := by decide +kernel
theorem dX8_countRests_73 : decode cX8_countRests 73 = .ok (.iadd, 1) := by decide +kernel
theorem dX8_countRests_74 : decode cX8_countRests 74 = .ok (.invokestatic 43, 3) := by decide +kernel
theorem dX8_countRests_77 : decode cX8_countRests 77 = .ok (.iinc 2 1, 3) := by decide +kernel
theorem dX8_countRests_80 : decode cX8_countRests 80 = .ok (.goto (-49), 3) := by decide +kernel
theorem dX8_countRests_83 : decode cX8_countRests 83 = .ok (.iinc 1 (-1), 3) := by decide +kernel
theorem dX8_countRests_86 : decode cX8_countRests 86 = .ok (.goto (-61), 3) := by decide +kernel
theorem dX8_countRests_89 : decode cX8_countRests 89 = .ok (.return_, 1) := by decide +kernel
theorem dX8_mayFollow_0 : decode cX8_mayFollow 0 = .ok (.iload_n 1, 1) := by decide +kernel
theorem dX8_mayFollow_1 : decode cX8_mayFollow 1 = .ok (.iload_n 2, 1) := by decide +kernel
theorem dX8_mayFollow_2 : decode cX8_mayFollow 2 = .ok (.invokestatic 76, 3) := by decide +kernel
theorem dX8_mayFollow_5 : decode cX8_mayFollow 5 = .ok (.ifCond .ne 22, 3) := by decide +kernel
theorem dX8_mayFollow_8 : decode cX8_mayFollow 8 = .ok (.iload_n 1, 1) := by decide +kernel
theorem dX8_mayFollow_9 : decode cX8_mayFollow 9 = .ok (.aload_n 0, 1) := by decide +kernel
theorem dX8_mayFollow_10 : decode cX8_mayFollow 10 = .ok (.getfield 9, 3) := by decide +kernel
theorem dX8_mayFollow_13 : decode cX8_mayFollow 13 = .ok (.iload_n 2, 1) := by decide +kernel
theorem dX8_mayFollow_14 : decode cX8_mayFollow 14 = .ok (.invokestatic 53, 3) := by decide +kernel
theorem dX8_mayFollow_17 : decode cX8_mayFollow 17 = .ok (.invokestatic 79, 3) := by decide +kernel
theorem dX8_mayFollow_20 : decode cX8_mayFollow 20 = .ok (.ifCond .eq 7, 3) := by decide +kernel
theorem dX8_mayFollow_23 : decode cX8_mayFollow 23 = .ok (.iconst 1, 1) := by decide +kernel
theorem dX8_mayFollow_24 : decode cX8_mayFollow 24 = .ok (.goto 4, 3) := by decide +kernel
theorem dX8_mayFollow_27 : decode cX8_mayFollow 27 = .ok (.iconst 0, 1) := by decide +kernel
theorem dX8_mayFollow_28 : decode cX8_mayFollow 28 = .ok (.ireturn, 1) := by decide +kernel
theorem dX9_init_0 : decode cX9_init 0 = .ok (.aload_n 0, 1) := by decide +kernel
theorem dX9_init_1 : decode cX9_init 1 = .ok (.invokespecial 1, 3) := by decide +kernel
theorem dX9_init_4 : decode cX9_init 4 = .ok (.return_, 1) := by decide +kernel
theorem dX9_run_0 : decode cX9_run 0 = .ok (.aload_n 0, 1) := by decide +kernel
theorem dX9_run_1 : decode cX9_run 1 = .ok (.iload 4, 2) := by decide +kernel
theorem dX9_run_3 : decode cX9_run 3 = .ok (.i2l, 1) := by decide +kernel
theorem dX9_run_4 : decode cX9_run 4 = .ok (.putfield 7, 3) := by decide +kernel
theorem dX9_run_7 : decode cX9_run 7 = .ok (.aload_n 0, 1) := by decide +kernel
theorem dX9_run_8 : decode cX9_run 8 = .ok (.iconst 0, 1) := by decide +kernel
theorem dX9_run_9 : decode cX9_run 9 = .ok (.putfield 13, 3) := by decide +kernel
theorem dX9_run_12 : decode cX9_run 12 = .ok (.aload_n 0, 1) := by decide +kernel
theorem dX9_run_13 : decode cX9_run 13 = .ok (.aload_n 3, 1) := by decide +kernel
theorem dX9_run_14 : decode cX9_run 14 = .ok (.getfield 17, 3) := by decide +kernel
theorem dX9_run_17 : decode cX9_run 17 = .ok (.putfield 23, 3) := by decide +kernel
theorem dX9_run_20 : decode cX9_run 20 = .ok (.aload_n 0, 1) := by decide +kernel
theorem dX9_run_21 : decode cX9_run 21 = .ok (.aload_n 3, 1) := by decide +kernel
theorem dX9_run_22 : decode cX9_run 22 = .ok (.getfield 24, 3) := by decide +kernel
theorem dX9_run_25 : decode cX9_run 25 = .ok (.putfield 27, 3) := by decide +kernel
theorem dX9_run_28 : decode cX9_run 28 = .ok (.aload_n 2, 1) := by decide +kernel
theorem dX9_run_29 : decode cX9_run 29 = .ok (.aload_n 3, 1) := by decide +kernel
theorem dX9_run_30 : decode cX9_run 30 = .ok (.getfield 28, 3) := by decide +kernel
theorem dX9_run_33 : decode cX9_run 33 = .ok (.invokevirtual 31, 3) := by decide +kernel
theorem dX9_run_36 : decode cX9_run 36 = .ok (.istore 5, 2) := by decide +kernel
theorem dX9_run_38 : decode cX9_run 38 = .ok (.aload_n 3, 1) := by decide +kernel
theorem dX9_run_39 : decode cX9_run 39 = .ok (.invokevirtual 37, 3) := by decide +kernel
theorem dX9_run_42 : decode cX9_run 42 = .ok (.istore 6, 2) := by decide +kernel
theorem dX9_run_44 : decode cX9_run 44 = .ok (.iload 6, 2) := by decide +kernel
theorem dX9_run_46 : decode cX9_run 46 = .ok (.aload_n 1, 1) := by decide +kernel
theorem dX9_run_47 : decode cX9_run 47 = .ok (.getfield 41, 3) := by decide +kernel
theorem dX9_run_50 : decode cX9_run 50 = .ok (.if_icmp .ge 120, 3) := by decide +kernel
theorem dX9_run_53 : decode cX9_run 53 = .ok (.aload_n 0, 1) := by decide +kernel
theorem dX9_run_54 : decode cX9_run 54 = .ok (.getfield 23, 3) := by decide +kernel
theorem dX9_run_57 : decode cX9_run 57 = .ok (.ifCond .ne 15, 3) := by decide +kernel
theorem dX9_run_60 : decode cX9_run 60 = .ok (.aload_n 0, 1) := by decide +kernel
theorem dX9_run_61 : decode cX9_run 61 = .ok (.getfield 27, 3) := by decide +kernel
theorem dX9_run_64 : decode cX9_run 64 = .ok (.ifCond .ne 8, 3) := by decide +kernel
theorem dX9_run_67 : decode cX9_run 67 = .ok (.iload 5, 2) := by decide +kernel
theorem dX9_run_69 : decode cX9_run 69 = .ok (.ifCond .ne 4, 3) := by decide +kernel
theorem dX9_run_72 : decode cX9_run 72 = .ok (.return_, 1) := by decide +kernel
theorem dX9_run_73 : decode cX9_run 73 = .ok (.aload_n 2, 1) := by decide +kernel
theorem dX9_run_74 : decode cX9_run 74 = .ok (.iload 5, 2) := by decide +kernel
theorem dX9_run_76 : decode cX9_run 76 = .ok (.invokevirtual 46, 3) := by decide +kernel
theorem dX9_run_79 : decode cX9_run 79 = .ok (.istore 7, 2) := by decide +kernel
theorem dX9_run_81 : decode cX9_run 81 = .ok (.iload 5, 2) := by decide +kernel
theorem dX9_run_83 : decode cX9_run 83 = .ok (.iload 7, 2) := by decide +kernel
theorem dX9_run_85 : decode cX9_run 85 = .ok (.invokestatic 49, 3) := by decide +kernel
theorem dX9_run_88 : decode cX9_run 88 = .ok (.istore 5, 2) := by decide +kernel
theorem dX9_run_90 : decode cX9_run 90 = .ok (.aload_n 0, 1) := by decide +kernel
theorem dX9_run_91 : decode cX9_run 91 = .ok (.dup, 1) := by decide +kernel
theorem dX9_run_92 : decode cX9_run 92 = .ok (.getfield 13, 3) := by decide +kernel
theorem dX9_run_95 : decode cX9_run 95 = .ok (.iconst 1, 1) := by decide +kernel
theorem dX9_run_96 : decode cX9_run 96 = .ok (.iadd, 1) := by decide +kernel
theorem dX9_run_97 : decode cX9_run 97 = .ok (.putfield 13, 3) := by decide +kernel
theorem dX9_run_100 : decode cX9_run 100 = .ok (.aload_n 0, 1) := by decide +kernel
theorem dX9_run_101 : decode cX9_run 101 = .ok (.aload_n 1, 1) := by decide +kernel
theorem dX9_run_102 : decode cX9_run 102 = .ok (.aload_n 2, 1) := by decide +kernel
theorem dX9_run_103 : decode cX9_run 103 = .ok (.iload 7, 2) := by decide +kernel
theorem dX9_run_105 : decode cX9_run 105 = .ok (.iload 6, 2) := by decide +kernel
theorem dX9_run_107 : decode cX9_run 107 = .ok (.aload_n 0, 1) := by decide +kernel
theorem dX9_run_108 : decode cX9_run 108 = .ok (.aload_n 1, 1) := by decide +kernel
theorem dX9_run_109 : decode cX9_run 109 = .ok (.invokevirtual 55, 3) := by decide +kernel
theorem dX9_run_112 : decode cX9_run 112 = .ok (.aload_n 1, 1) := by decide +kernel
theorem dX9_run_113 : decode cX9_run 113 = .ok (.invokevirtual 59, 3) := by decide +kernel
theorem dX9_run_116 : decode cX9_run 116 = .ok (.invokevirtual 63, 3) := by decide +kernel
theorem dX9_run_119 : decode cX9_run 119 = .ok (.putfield 23, 3) := by decide +kernel
theorem dX9_run_122 : decode cX9_run 122 = .ok (.aload_n 0, 1) := by decide +kernel
theorem dX9_run_123 : decode cX9_run 123 = .ok (.getfield 23, 3) := by decide +kernel
theorem dX9_run_126 : decode cX9_run 126 = .ok (.ifCond .ne 38, 3) := by decide +kernel
theorem dX9_run_129 : decode cX9_run 129 = .ok (.aload_n 0, 1) := by decide +kernel
theorem dX9_run_130 : decode cX9_run 130 = .ok (.invokevirtual 67, 3) := by decide +kernel
theorem dX9_run_133 : decode cX9_run 133 = .ok (.istore 8, 2) := by decide +kernel
theorem dX9_run_135 : decode cX9_run 135 = .ok (.aload_n 0, 1) := by decide +kernel
theorem dX9_run_136 : decode cX9_run 136 = .ok (.aload_n 1, 1) := by decide +kernel
theorem dX9_run_137 : decode cX9_run 137 = .ok (.iload 6, 2) := by decide +kernel
theorem dX9_run_139 : decode cX9_run 139 = .ok (.invokevirtual 70, 3) := by decide +kernel
theorem dX9_run_142 : decode cX9_run 142 = .ok (.ifCond .ne 14, 3) := by decide +kernel
theorem dX9_run_145 : decode cX9_run 145 = .ok (.iload 8, 2) := by decide +kernel
theorem dX9_run_147 : decode cX9_run 147 = .ok (.aload_n 1, 1) := by decide +kernel
theorem dX9_run_148 : decode cX9_run 148 = .ok (.iload 6, 2) := by decide +kernel
theorem dX9_run_150 : decode cX9_run 150 = .ok (.invokevirtual 73, 3) := by decide +kernel
theorem dX9_run_153 : decode cX9_run 153 = .ok (.if_icmp .ge 7, 3) := by decide +kernel
theorem dX9_run_156 : decode cX9_run 156 = .ok (.iconst 1, 1) := by decide +kernel
theorem dX9_run_157 : decode cX9_run 157 = .ok (.goto 4, 3) := by decide +kernel
theorem dX9_run_160 : decode cX9_run 160 = .ok (.iconst 0, 1) := by decide +kernel
theorem dX9_run_161 : decode cX9_run 161 = .ok (.putfield 27, 3) := by decide +kernel
theorem dX9_run_164 : decode cX9_run 164 = .ok (.iinc 6 1, 3) := by decide +kernel
theorem dX9_run_167 : decode cX9_run 167 = .ok (.goto (-123), 3) := by decide +kernel
theorem dX9_run_170 : decode cX9_run 170 = .ok (.return_, 1) := by decide +kernel
theorem dX9_drawGust_0 : decode cX9_drawGust 0 = .ok (.aload_n 0, 1) := by decide +kernel
theorem dX9_drawGust_1 : decode cX9_drawGust 1 = .ok (.invokevirtual 67, 3) := by decide +kernel
theorem dX9_drawGust_4 : decode cX9_drawGust 4 = .ok (.istore_n 2, 1) := by decide +kernel
theorem dX9_drawGust_5 : decode cX9_drawGust 5 = .ok (.iload_n 2, 1) := by decide +kernel
theorem dX9_drawGust_6 : decode cX9_drawGust 6 = .ok (.aload_n 1, 1) := by decide +kernel
theorem dX9_drawGust_7 : decode cX9_drawGust 7 = .ok (.iconst (-1), 1) := by decide +kernel
theorem dX9_drawGust_8 : decode cX9_drawGust 8 = .ok (.invokevirtual 76, 3) := by decide +kernel
theorem dX9_drawGust_11 : decode cX9_drawGust 11 = .ok (.if_icmp .ge 5, 3) := by decide +kernel
theorem dX9_drawGust_14 : decode cX9_drawGust 14 = .ok (.iconst (-1), 1) := by decide +kernel
theorem dX9_drawGust_15 : decode cX9_drawGust 15 = .ok (.ireturn, 1) := by decide +kernel
theorem dX9_drawGust_16 : decode cX9_drawGust 16 = .ok (.iload_n 2, 1) := by decide +kernel
theorem dX9_drawGust_17 : decode cX9_drawGust 17 = .ok (.aload_n 1, 1) := by decide +kernel
theorem dX9_drawGust_18 : decode cX9_drawGust 18 = .ok (.iconst (-1), 1) := by decide +kernel
theorem dX9_drawGust_19 : decode cX9_drawGust 19 = .ok (.invokevirtual 76, 3) := by decide +kernel
theorem dX9_drawGust_22 : decode cX9_drawGust 22 = .ok (.aload_n 1, 1) := by decide +kernel
theorem dX9_drawGust_23 : decode cX9_drawGust 23 = .ok (.iconst 0, 1) := by decide +kernel
theorem dX9_drawGust_24 : decode cX9_drawGust 24 = .ok (.invokevirtual 76, 3) := by decide +kernel
theorem dX9_drawGust_27 : decode cX9_drawGust 27 = .ok (.iadd, 1) := by decide +kernel
theorem dX9_drawGust_28 : decode cX9_drawGust 28 = .ok (.if_icmp .ge 7, 3) := by decide +kernel
theorem dX9_drawGust_31 : decode cX9_drawGust 31 = .ok (.iconst 0, 1) := by decide +kernel
theorem dX9_drawGust_32 : decode cX9_drawGust 32 = .ok (.goto 4, 3) := by decide +kernel
theorem dX9_drawGust_35 : decode cX9_drawGust 35 = .ok (.iconst 1, 1) := by decide +kernel
theorem dX9_drawGust_36 : decode cX9_drawGust 36 = .ok (.ireturn, 1) := by decide +kernel
theorem dX9_draw_0 : decode cX9_draw 0 = .ok (.aload_n 0, 1) := by decide +kernel
theorem dX9_draw_1 : decode cX9_draw 1 = .ok (.ldc2_w 79, 3) := by decide +kernel
theorem dX9_draw_4 : decode cX9_draw 4 = .ok (.aload_n 0, 1) := by decide +kernel
theorem dX9_draw_5 : decode cX9_draw 5 = .ok (.getfield 7, 3) := by decide +kernel
theorem dX9_draw_8 : decode cX9_draw 8 = .ok (.lmul, 1) := by decide +kernel
theorem dX9_draw_9 : decode cX9_draw 9 = .ok (.ldc2_w 81, 3) := by decide +kernel
theorem dX9_draw_12 : decode cX9_draw 12 = .ok (.ladd, 1) := by decide +kernel
theorem dX9_draw_13 : decode cX9_draw 13 = .ok (.ldc2_w 83, 3) := by decide +kernel
theorem dX9_draw_16 : decode cX9_draw 16 = .ok (.lrem, 1) := by decide +kernel
theorem dX9_draw_17 : decode cX9_draw 17 = .ok (.putfield 7, 3) := by decide +kernel
theorem dX9_draw_20 : decode cX9_draw 20 = .ok (.aload_n 0, 1) := by decide +kernel
theorem dX9_draw_21 : decode cX9_draw 21 = .ok (.getfield 7, 3) := by decide +kernel
theorem dX9_draw_24 : decode cX9_draw 24 = .ok (.ldc2_w 85, 3) := by decide +kernel
theorem dX9_draw_27 : decode cX9_draw 27 = .ok (.ldiv, 1) := by decide +kernel
theorem dX9_draw_28 : decode cX9_draw 28 = .ok (.ldc2_w 87, 3) := by decide +kernel
theorem dX9_draw_31 : decode cX9_draw 31 = .ok (.lrem, 1) := by decide +kernel
theorem dX9_draw_32 : decode cX9_draw 32 = .ok (.l2i, 1) := by decide +kernel
theorem dX9_draw_33 : decode cX9_draw 33 = .ok (.ireturn, 1) := by decide +kernel
theorem dX10_init_0 : decode cX10_init 0 = .ok (.aload_n 0, 1) := by decide +kernel
theorem dX10_init_1 : decode cX10_init 1 = .ok (.invokespecial 1, 3) := by decide +kernel
theorem dX10_init_4 : decode cX10_init 4 = .ok (.aload_n 0, 1) := by decide +kernel
theorem dX10_init_5 : decode cX10_init 5 = .ok (.new 7, 3) := by decide +kernel
theorem dX10_init_8 : decode cX10_init 8 = .ok (.dup, 1) := by decide +kernel
theorem dX10_init_9 : decode cX10_init 9 = .ok (.invokespecial 9, 3) := by decide +kernel
theorem dX10_init_12 : decode cX10_init 12 = .ok (.putfield 10, 3) := by decide +kernel
theorem dX10_init_15 : decode cX10_init 15 = .ok (.aload_n 0, 1) := by decide +kernel
theorem dX10_init_16 : decode cX10_init 16 = .ok (.new 16, 3) := by decide +kernel
theorem dX10_init_19 : decode cX10_init 19 = .ok (.dup, 1) := by decide +kernel
theorem dX10_init_20 : decode cX10_init 20 = .ok (.invokespecial 18, 3) := by decide +kernel
theorem dX10_init_23 : decode cX10_init 23 = .ok (.putfield 19, 3) := by decide +kernel
theorem dX10_init_26 : decode cX10_init 26 = .ok (.aload_n 0, 1) := by decide +kernel
theorem dX10_init_27 : decode cX10_init 27 = .ok (.new 23, 3) := by decide +kernel
theorem dX10_init_30 : decode cX10_init 30 = .ok (.dup, 1) := by decide +kernel
theorem dX10_init_31 : decode cX10_init 31 = .ok (.invokespecial 25, 3) := by decide +kernel
theorem dX10_init_34 : decode cX10_init 34 = .ok (.putfield 26, 3) := by decide +kernel
theorem dX10_init_37 : decode cX10_init 37 = .ok (.aload_n 0, 1) := by decide +kernel
theorem dX10_init_38 : decode cX10_init 38 = .ok (.new 30, 3) := by decide +kernel
theorem dX10_init_41 : decode cX10_init 41 = .ok (.dup, 1) := by decide +kernel
theorem dX10_init_42 : decode cX10_init 42 = .ok (.invokespecial 32, 3) := by decide +kernel
theorem dX10_init_45 : decode cX10_init 45 = .ok (.putfield 33, 3) := by decide +kernel
theorem dX10_init_48 : decode cX10_init 48 = .ok (.aload_n 0, 1) := by decide +kernel
theorem dX10_init_49 : decode cX10_init 49 = .ok (.new 37, 3) := by decide +kernel
theorem dX10_init_52 : decode cX10_init 52 = .ok (.dup, 1) := by decide +kernel
theorem dX10_init_53 : decode cX10_init 53 = .ok (.invokespecial 39, 3) := by decide +kernel
theorem dX10_init_56 : decode cX10_init 56 = .ok (.putfield 40, 3) := by decide +kernel
theorem dX10_init_59 : decode cX10_init 59 = .ok (.aload_n 0, 1) := by decide +kernel
theorem dX10_init_60 : decode cX10_init 60 = .ok (.new 44, 3) := by decide +kernel
theorem dX10_init_63 : decode cX10_init 63 = .ok (.dup, 1) := by decide +kernel
theorem dX10_init_64 : decode cX10_init 64 = .ok (.invokespecial 46, 3) := by decide +kernel
theorem dX10_init_67 : decode cX10_init 67 = .ok (.putfield 47, 3) := by decide +kernel
theorem dX10_init_70 : decode cX10_init 70 = .ok (.aload_n 0, 1) := by decide +kernel
theorem dX10_init_71 : decode cX10_init 71 = .ok (.new 51, 3) := by decide +kernel
theorem dX10_init_74 : decode cX10_init 74 = .ok (.dup, 1) := by decide +kernel
theorem dX10_init_75 : decode cX10_init 75 = .ok (.invokespecial 53, 3) := by decide +kernel
theorem dX10_init_78 : decode cX10_init 78 = .ok (.putfield 54, 3) := by decide +kernel
theorem dX10_init_81 : decode cX10_init 81 = .ok (.aload_n 0, 1) := by decide +kernel
theorem dX10_init_82 : decode cX10_init 82 = .ok (.new 58, 3) := by decide +kernel
theorem dX10_init_85 : decode cX10_init 85 = .ok (.dup, 1) := by decide +kernel
theorem dX10_init_86 : decode cX10_init 86 = .ok (.invokespecial 60, 3) := by decide +kernel
theorem dX10_init_89 : decode cX10_init 89 = .ok (.putfield 61, 3) := by decide +kernel
theorem dX10_init_92 : decode cX10_init 92 = .ok (.aload_n 0, 1) := by decide +kernel
theorem dX10_init_93 : decode cX10_init 93 = .ok (.new 65, 3) := by decide +kernel
theorem dX10_init_96 : decode cX10_init 96 = .ok (.dup, 1) := by decide +kernel
theorem dX10_init_97 : decode cX10_init 97 = .ok (.invokespecial 67, 3) := by decide +kernel
theorem dX10_init_100 : decode cX10_init 100 = .ok (.putfield 68, 3) := by decide +kernel
theorem dX10_init_103 : decode cX10_init 103 = .ok (.aload_n 0, 1) := by decide +kernel
theorem dX10_init_104 : decode cX10_init 104 = .ok (.new 72, 3) := by decide +kernel
theorem dX10_init_107 : decode cX10_init 107 = .ok (.dup, 1) := by decide +kernel
theorem dX10_init_108 : decode cX10_init 108 = .ok (.invokespecial 74, 3) := by decide +kernel
theorem dX10_init_111 : decode cX10_init 111 = .ok (.putfield 75, 3) := by decide +kernel
theorem dX10_init_114 : decode cX10_init 114 = .ok (.return_, 1) := by decide +kernel
theorem dX10_letter_0 : decode cX10_letter 0 = .ok (.iload_n 1, 1) := by decide +kernel
theorem dX10_letter_1 : decode cX10_letter 1 = .ok (.iconst 1, 1) := by decide +kernel
theorem dX10_letter_2 : decode cX10_letter 2 = .ok (.bipush 126, 2) := by decide +kernel
theorem dX10_letter_4 : decode cX10_letter 4 = .ok (.invokestatic 79, 3) := by decide +kernel
theorem dX10_letter_7 : decode cX10_letter 7 = .ok (.ifCond .eq 6, 3) := by decide +kernel
theorem dX10_letter_10 : decode cX10_letter 10 = .ok (.bipush (-102), 2) := by decide +kernel
theorem dX10_letter_12 : decode cX10_letter 12 = .ok (.ireturn, 1) := by decide +kernel
theorem dX10_letter_13 : decode cX10_letter 13 = .ok (.aload_n 0, 1) := by decide +kernel
theorem dX10_letter_14 : decode cX10_letter 14 = .ok (.getfield 10, 3) := by decide +kernel
theorem dX10_letter_17 : decode cX10_letter 17 = .ok (.getfield 83, 3) := by decide +kernel
theorem dX10_letter_20 : decode cX10_letter 20 = .ok (.bipush 22, 2) := by decide +kernel
theorem dX10_letter_22 : decode cX10_letter 22 = .ok (.if_icmp .lt 6, 3) := by decide +kernel
theorem dX10_letter_25 : decode cX10_letter 25 = .ok (.bipush (-104), 2) := by decide +kernel
theorem dX10_letter_27 : decode cX10_letter 27 = .ok (.ireturn, 1) := by decide +kernel
theorem dX10_letter_28 : decode cX10_letter 28 = .ok (.aload_n 0, 1) := by decide +kernel
theorem dX10_letter_29 : decode cX10_letter 29 = .ok (.getfield 10, 3) := by decide +kernel
theorem dX10_letter_32 : decode cX10_letter 32 = .ok (.iload_n 1, 1) := by decide +kernel
theorem dX10_letter_33 : decode cX10_letter 33 = .ok (.invokevirtual 87, 3) := by decide +kernel
theorem dX10_letter_36 : decode cX10_letter 36 = .ok (.aload_n 0, 1) := by decide +kernel
theorem dX10_letter_37 : decode cX10_letter 37 = .ok (.getfield 10, 3) := by decide +kernel
theorem dX10_letter_40 : decode cX10_letter 40 = .ok (.getfield 83, 3) := by decide +kernel
theorem dX10_letter_43 : decode cX10_letter 43 = .ok (.ireturn, 1) := by decide +kernel
theorem dX10_blank_0 : decode cX10_blank 0 = .ok (.aload_n 0, 1) := by decide +kernel
theorem dX10_blank_1 : decode cX10_blank 1 = .ok (.getfield 10, 3) := by decide +kernel
theorem dX10_blank_4 : decode cX10_blank 4 = .ok (.getfield 83, 3) := by decide +kernel
theorem dX10_blank_7 : decode cX10_blank 7 = .ok (.istore_n 1, 1) := by decide +kernel
theorem dX10_blank_8 : decode cX10_blank 8 = .ok (.aload_n 0, 1) := by decide +kernel
theorem dX10_blank_9 : decode cX10_blank 9 = .ok (.getfield 10, 3) := by decide +kernel
theorem dX10_blank_12 : decode cX10_blank 12 = .ok (.invokevirtual 91, 3) := by decide +kernel
theorem dX10_blank_15 : decode cX10_blank 15 = .ok (.iload_n 1, 1) := by decide +kernel
theorem dX10_blank_16 : decode cX10_blank 16 = .ok (.ireturn, 1) := by decide +kernel
theorem dX10_fault_0 : decode cX10_fault 0 = .ok (.aload_n 0, 1) := by decide +kernel
theorem dX10_fault_1 : decode cX10_fault 1 = .ok (.getfield 10, 3) := by decide +kernel
theorem dX10_fault_4 : decode cX10_fault 4 = .ok (.invokevirtual 94, 3) := by decide +kernel
theorem dX10_fault_7 : decode cX10_fault 7 = .ok (.ireturn, 1) := by decide +kernel
theorem dX10_night_0 : decode cX10_night 0 = .ok (.aload_n 0, 1) := by decide +kernel
theorem dX10_night_1 : decode cX10_night 1 = .ok (.getfield 10, 3) := by decide +kernel
theorem dX10_night_4 : decode cX10_night 4 = .ok (.invokevirtual 98, 3) := by decide +kernel
theorem dX10_night_7 : decode cX10_night 7 = .ok (.ifCond .ne 6, 3) := by decide +kernel
theorem dX10_night_10 : decode cX10_night 10 = .ok (.bipush (-103), 2) := by decide +kernel
theorem dX10_night_12 : decode cX10_night 12 = .ok (.ireturn, 1) := by decide +kernel
theorem dX10_night_13 : decode cX10_night 13 = .ok (.aload_n 0, 1) := by decide +kernel
theorem dX10_night_14 : decode cX10_night 14 = .ok (.getfield 19, 3) := by decide +kernel
theorem dX10_night_17 : decode cX10_night 17 = .ok (.aload_n 0, 1) := by decide +kernel
theorem dX10_night_18 : decode cX10_night 18 = .ok (.getfield 10, 3) := by decide +kernel
theorem dX10_night_21 : decode cX10_night 21 = .ok (.invokevirtual 102, 3) := by decide +kernel
theorem dX10_night_24 : decode cX10_night 24 = .ok (.aload_n 0, 1) := by decide +kernel
theorem dX10_night_25 : decode cX10_night 25 = .ok (.getfield 10, 3) := by decide +kernel
theorem dX10_night_28 : decode cX10_night 28 = .ok (.invokevirtual 91, 3) := by decide +kernel
theorem dX10_night_31 : decode cX10_night 31 = .ok (.aload_n 0, 1) := by decide +kernel
theorem dX10_night_32 : decode cX10_night 32 = .ok (.getfield 26, 3) := by decide +kernel
theorem dX10_night_35 : decode cX10_night 35 = .ok (.invokevirtual 106, 3) := by decide +kernel
theorem dX10_night_38 : decode cX10_night 38 = .ok (.aload_n 0, 1) := by decide +kernel
theorem dX10_night_39 : decode cX10_night 39 = .ok (.getfield 33, 3) := by decide +kernel
theorem dX10_night_42 : decode cX10_night 42 = .ok (.invokevirtual 107, 3) := by decide +kernel
theorem dX10_night_45 : decode cX10_night 45 = .ok (.aload_n 0, 1) := by decide +kernel
theorem dX10_night_46 : decode cX10_night 46 = .ok (.getfield 40, 3) := by decide +kernel
theorem dX10_night_49 : decode cX10_night 49 = .ok (.invokevirtual 108, 3) := by decide +kernel
theorem dX10_night_52 : decode cX10_night 52 = .ok (.aload_n 0, 1) := by decide +kernel
theorem dX10_night_53 : decode cX10_night 53 = .ok (.dup, 1) := by decide +kernel
theorem dX10_night_54 : decode cX10_night 54 = .ok (.getfield 109, 3) := by decide +kernel
theorem dX10_night_57 : decode cX10_night 57 = .ok (.iconst 1, 1) := by decide +kernel
theorem dX10_night_58 : decode cX10_night 58 = .ok (.iadd, 1) := by decide +kernel
theorem dX10_night_59 : decode cX10_night 59 = .ok (.putfield 109, 3) := by decide +kernel
theorem dX10_night_62 : decode cX10_night 62 = .ok (.aload_n 0, 1) := by decide +kernel
theorem dX10_night_63 : decode cX10_night 63 = .ok (.getfield 19, 3) := by decide +kernel
theorem dX10_night_66 : decode cX10_night 66 = .ok (.getfield 112, 3) := by decide +kernel
theorem dX10_night_69 : decode cX10_night 69 = .ok (.ireturn, 1) := by decide +kernel
theorem dX10_sea_0 : decode cX10_sea 0 = .ok (.iload_n 1, 1) := by decide +kernel
theorem dX10_sea_1 : decode cX10_sea 1 = .ok (.iconst 0, 1) := by decide +kernel
theorem dX10_sea_2 : decode cX10_sea 2 = .ok (.iconst 4, 1) := by decide +kernel
theorem dX10_sea_3 : decode cX10_sea 3 = .ok (.invokestatic 79, 3) := by decide +kernel
theorem dX10_sea_6 : decode cX10_sea 6 = .ok (.ifCond .eq 17, 3) := by decide +kernel
theorem dX10_sea_9 : decode cX10_sea 9 = .ok (.iload_n 1, 1) := by decide +kernel
theorem dX10_sea_10 : decode cX10_sea 10 = .ok (.bipush 10, 2) := by decide +kernel
theorem dX10_sea_12 : decode cX10_sea 12 = .ok (.bipush 19, 2) := by decide +kernel
theorem dX10_sea_14 : decode cX10_sea 14 = .ok (.invokestatic 79, 3) := by decide +kernel
theorem dX10_sea_17 : decode cX10_sea 17 = .ok (.ifCond .eq 6, 3) := by decide +kernel
theorem dX10_sea_20 : decode cX10_sea 20 = .ok (.bipush (-102), 2) := by decide +kernel
theorem dX10_sea_22 : decode cX10_sea 22 = .ok (.ireturn, 1) := by decide +kernel
theorem dX10_sea_23 : decode cX10_sea 23 = .ok (.aload_n 0, 1) := by decide +kernel
theorem dX10_sea_24 : decode cX10_sea 24 = .ok (.invokevirtual 115, 3) := by decide +kernel
theorem dX10_sea_27 : decode cX10_sea 27 = .ok (.ifCond .ne 6, 3) := by decide +kernel
theorem dX10_sea_30 : decode cX10_sea 30 = .ok (.bipush (-103), 2) := by decide +kernel
theorem dX10_sea_32 : decode cX10_sea 32 = .ok (.ireturn, 1) := by decide +kernel
theorem dX10_sea_33 : decode cX10_sea 33 = .ok (.aload_n 0, 1) := by decide +kernel
theorem dX10_sea_34 : decode cX10_sea 34 = .ok (.getfield 19, 3) := by decide +kernel
theorem dX10_sea_37 : decode cX10_sea 37 = .ok (.iload_n 1, 1) := by decide +kernel
theorem dX10_sea_38 : decode cX10_sea 38 = .ok (.invokevirtual 118, 3) := by decide +kernel
theorem dX10_sea_41 : decode cX10_sea 41 = .ok (.ireturn, 1) := by decide +kernel
theorem dX10_rocket_0 : decode cX10_rocket 0 = .ok (.iload_n 1, 1) := by decide +kernel
theorem dX10_rocket_1 : decode cX10_rocket 1 = .ok (.bipush 10, 2) := by decide +kernel
theorem dX10_rocket_3 : decode cX10_rocket 3 = .ok (.bipush 120, 2) := by decide +kernel
theorem dX10_rocket_5 : decode cX10_rocket 5 = .ok (.invokestatic 79, 3) := by decide +kernel
theorem dX10_rocket_8 : decode cX10_rocket 8 = .ok (.ifCond .ne 13, 3) := by decide +kernel
theorem dX10_rocket_11 : decode cX10_rocket 11 = .ok (.iload_n 2, 1) := by decide +kernel
theorem dX10_rocket_12 : decode cX10_rocket 12 = .ok (.iconst 0, 1) := by decide +kernel
theorem dX10_rocket_13 : decode cX10_rocket 13 = .ok (.bipush 9, 2) := by decide +kernel
theorem dX10_rocket_15 : decode cX10_rocket 15 = .ok (.invokestatic 79, 3) := by decide +kernel
theorem dX10_rocket_18 : decode cX10_rocket 18 = .ok (.ifCond .eq 6, 3) := by decide +kernel
theorem dX10_rocket_21 : decode cX10_rocket 21 = .ok (.bipush (-102), 2) := by decide +kernel
theorem dX10_rocket_23 : decode cX10_rocket 23 = .ok (.ireturn, 1) := by decide +kernel
theorem dX10_rocket_24 : decode cX10_rocket 24 = .ok (.aload_n 0, 1) := by decide +kernel
theorem dX10_rocket_25 : decode cX10_rocket 25 = .ok (.invokevirtual 115, 3) := by decide +kernel
theorem dX10_rocket_28 : decode cX10_rocket 28 = .ok (.ifCond .ne 6, 3) := by decide +kernel
theorem dX10_rocket_31 : decode cX10_rocket 31 = .ok (.bipush (-103), 2) := by decide +kernel
theorem dX10_rocket_33 : decode cX10_rocket 33 = .ok (.ireturn, 1) := by decide +kernel
theorem dX10_rocket_34 : decode cX10_rocket 34 = .ok (.aload_n 0, 1) := by decide +kernel
theorem dX10_rocket_35 : decode cX10_rocket 35 = .ok (.getfield 26, 3) := by decide +kernel
theorem dX10_rocket_38 : decode cX10_rocket 38 = .ok (.getfield 122, 3) := by decide +kernel
theorem dX10_rocket_41 : decode cX10_rocket 41 = .ok (.bipush 6, 2) := by decide +kernel
theorem dX10_rocket_43 : decode cX10_rocket 43 = .ok (.if_icmp .lt 6, 3) := by decide +kernel
theorem dX10_rocket_46 : decode cX10_rocket 46 = .ok (.bipush (-104), 2) := by decide +kernel
theorem dX10_rocket_48 : decode cX10_rocket 48 = .ok (.ireturn, 1) := by decide +kernel
theorem dX10_rocket_49 : decode cX10_rocket 49 = .ok (.aload_n 0, 1) := by decide +kernel
theorem dX10_rocket_50 : decode cX10_rocket 50 = .ok (.getfield 26, 3) := by decide +kernel
theorem dX10_rocket_53 : decode cX10_rocket 53 = .ok (.iload_n 1, 1) := by decide +kernel
theorem dX10_rocket_54 : decode cX10_rocket 54 = .ok (.iload_n 2, 1) := by decide +kernel
theorem dX10_rocket_55 : decode cX10_rocket 55 = .ok (.invokevirtual 125, 3) := by decide +kernel
theorem dX10_rocket_58 : decode cX10_rocket 58 = .ok (.ireturn, 1) := by decide +kernel
theorem dX10_fire_0 : decode cX10_fire 0 = .ok (.aload_n 0, 1) := by decide +kernel
theorem dX10_fire_1 : decode cX10_fire 1 = .ok (.getfield 26, 3) := by decide +kernel
theorem dX10_fire_4 : decode cX10_fire 4 = .ok (.iload_n 1, 1) := by decide +kernel
theorem dX10_fire_5 : decode cX10_fire 5 = .ok (.invokevirtual 128, 3) := by decide +kernel
theorem dX10_fire_8 : decode cX10_fire 8 = .ok (.ifCond .ne 6, 3) := by decide +kernel
theorem dX10_fire_11 : decode cX10_fire 11 = .ok (.bipush (-101), 2) := by decide +kernel
theorem dX10_fire_13 : decode cX10_fire 13 = .ok (.ireturn, 1) := by decide +kernel
theorem dX10_fire_14 : decode cX10_fire 14 = .ok (.iload_n 2, 1) := by decide +kernel
theorem dX10_fire_15 : decode cX10_fire 15 = .ok (.iconst (-1), 1) := by decide +kernel
theorem dX10_fire_16 : decode cX10_fire 16 = .ok (.iconst 1, 1) := by decide +kernel
theorem dX10_fire_17 : decode cX10_fire 17 = .ok (.invokestatic 79, 3) := by decide +kernel
theorem dX10_fire_20 : decode cX10_fire 20 = .ok (.ifCond .eq 6, 3) := by decide +kernel
theorem dX10_fire_23 : decode cX10_fire 23 = .ok (.bipush (-102), 2) := by decide +kernel
theorem dX10_fire_25 : decode cX10_fire 25 = .ok (.ireturn, 1) := by decide +kernel
theorem dX10_fire_26 : decode cX10_fire 26 = .ok (.aload_n 0, 1) := by decide +kernel
theorem dX10_fire_27 : decode cX10_fire 27 = .ok (.getfield 40, 3) := by decide +kernel
theorem dX10_fire_30 : decode cX10_fire 30 = .ok (.getfield 132, 3) := by decide +kernel
theorem dX10_fire_33 : decode cX10_fire 33 = .ok (.iload_n 1, 1) := by decide +kernel
theorem dX10_fire_34 : decode cX10_fire 34 = .ok (.invokestatic 135, 3) := by decide +kernel
theorem dX10_fire_37 : decode cX10_fire 37 = .ok (.ifCond .ne 13, 3) := by decide +kernel
theorem dX10_fire_40 : decode cX10_fire 40 = .ok (.aload_n 0, 1) := by decide +kernel
theorem dX10_fire_41 : decode cX10_fire 41 = .ok (.getfield 40, 3) := by decide +kernel
theorem dX10_fire_44 : decode cX10_fire 44 = .ok (.getfield 139, 3) := by decide +kernel
theorem dX10_fire_47 : decode cX10_fire 47 = .ok (.ifCond .eq 6, 3) := by decide +kernel
theorem dX10_fire_50 : decode cX10_fire 50 = .ok (.bipush (-103), 2) := by decide +kernel
theorem dX10_fire_52 : decode cX10_fire 52 = .ok (.ireturn, 1) := by decide +kernel
theorem dX10_fire_53 : decode cX10_fire 53 = .ok (.aload_n 0, 1) := by decide +kernel
theorem dX10_fire_54 : decode cX10_fire 54 = .ok (.getfield 26, 3) := by decide +kernel
theorem dX10_fire_57 : decode cX10_fire 57 = .ok (.iload_n 1, 1) := by decide +kernel
theorem dX10_fire_58 : decode cX10_fire 58 = .ok (.aload_n 0, 1) := by decide +kernel
theorem dX10_fire_59 : decode cX10_fire 59 = .ok (.getfield 40, 3) := by decide +kernel
theorem dX10_fire_62 : decode cX10_fire 62 = .ok (.invokevirtual 143, 3) := by decide +kernel
theorem dX10_fire_65 : decode cX10_fire 65 = .ok (.iload_n 2, 1) := by decide +kernel
theorem dX10_fire_66 : decode cX10_fire 66 = .ok (.aload_n 0, 1) := by decide +kernel
theorem dX10_fire_67 : decode cX10_fire 67 = .ok (.getfield 19, 3) := by decide +kernel
theorem dX10_fire_70 : decode cX10_fire 70 = .ok (.invokevirtual 146, 3) := by decide +kernel
theorem dX10_fire_73 : decode cX10_fire 73 = .ok (.istore_n 3, 1) := by decide +kernel
theorem dX10_fire_74 : decode cX10_fire 74 = .ok (.aload_n 0, 1) := by decide +kernel
theorem dX10_fire_75 : decode cX10_fire 75 = .ok (.getfield 40, 3) := by decide +kernel
theorem dX10_fire_78 : decode cX10_fire 78 = .ok (.aload_n 0, 1) := by decide +kernel
theorem dX10_fire_79 : decode cX10_fire 79 = .ok (.getfield 40, 3) := by decide +kernel
theorem dX10_fire_82 : decode cX10_fire 82 = .ok (.getfield 132, 3) := by decide +kernel
theorem dX10_fire_85 : decode cX10_fire 85 = .ok (.iload_n 1, 1) := by decide +kernel
theorem dX10_fire_86 : decode cX10_fire 86 = .ok (.invokestatic 150, 3) := by decide +kernel
theorem dX10_fire_89 : decode cX10_fire 89 = .ok (.putfield 132, 3) := by decide +kernel
theorem dX10_fire_92 : decode cX10_fire 92 = .ok (.aload_n 0, 1) := by decide +kernel
theorem dX10_fire_93 : decode cX10_fire 93 = .ok (.getfield 19, 3) := by decide +kernel
theorem dX10_fire_96 : decode cX10_fire 96 = .ok (.iload_n 3, 1) := by decide +kernel
theorem dX10_fire_97 : decode cX10_fire 97 = .ok (.invokevirtual 153, 3) := by decide +kernel
theorem dX10_fire_100 : decode cX10_fire 100 = .ok (.ifCond .eq 11, 3) := by decide +kernel
theorem dX10_fire_103 : decode cX10_fire 103 = .ok (.aload_n 0, 1) := by decide +kernel
theorem dX10_fire_104 : decode cX10_fire 104 = .ok (.getfield 40, 3) := by decide +kernel
theorem dX10_fire_107 : decode cX10_fire 107 = .ok (.iconst 1, 1) := by decide +kernel
theorem dX10_fire_108 : decode cX10_fire 108 = .ok (.putfield 156, 3) := by decide +kernel
theorem dX10_fire_111 : decode cX10_fire 111 = .ok (.iload_n 3, 1) := by decide +kernel
theorem dX10_fire_112 : decode cX10_fire 112 = .ok (.ireturn, 1) := by decide +kernel
theorem dX10_hits_0 : decode cX10_hits 0 = .ok (.aload_n 0, 1) := by decide +kernel
theorem dX10_hits_1 : decode cX10_hits 1 = .ok (.getfield 26, 3) := by decide +kernel
theorem dX10_hits_4 : decode cX10_hits 4 = .ok (.iload_n 1, 1) := by decide +kernel
theorem dX10_hits_5 : decode cX10_hits 5 = .ok (.invokevirtual 128, 3) := by decide +kernel
theorem dX10_hits_8 : decode cX10_hits 8 = .ok (.ifCond .ne 7, 3) := by decide +kernel
theorem dX10_hits_11 : decode cX10_hits 11 = .ok (.ldc2_w 159, 3) := by decide +kernel
theorem dX10_hits_14 : decode cX10_hits 14 = .ok (.lreturn, 1) := by decide +kernel
theorem dX10_hits_15 : decode cX10_hits 15 = .ok (.iload_n 2, 1) := by decide +kernel
theorem dX10_hits_16 : decode cX10_hits 16 = .ok (.iconst 0, 1) := by decide +kernel
theorem dX10_hits_17 : decode cX10_hits 17 = .ok (.bipush 9, 2) := by decide +kernel
theorem dX10_hits_19 : decode cX10_hits 19 = .ok (.invokestatic 79, 3) := by decide +kernel
theorem dX10_hits_22 : decode cX10_hits 22 = .ok (.ifCond .ne 12, 3) := by decide +kernel
theorem dX10_hits_25 : decode cX10_hits 25 = .ok (.iload_n 3, 1) := by decide +kernel
theorem dX10_hits_26 : decode cX10_hits 26 = .ok (.iconst 0, 1) := by decide +kernel
theorem dX10_hits_27 : decode cX10_hits 27 = .ok (.iconst 1, 1) := by decide +kernel
theorem dX10_hits_28 : decode cX10_hits 28 = .ok (.invokestatic 79, 3) := by decide +kernel
theorem dX10_hits_31 : decode cX10_hits 31 = .ok (.ifCond .eq 7, 3) := by decide +kernel
theorem dX10_hits_34 : decode cX10_hits 34 = .ok (.ldc2_w 161, 3) := by decide +kernel
theorem dX10_hits_37 : decode cX10_hits 37 = .ok (.lreturn, 1) := by decide +kernel
theorem dX10_hits_38 : decode cX10_hits 38 = .ok (.aload_n 0, 1) := by decide +kernel
theorem dX10_hits_39 : decode cX10_hits 39 = .ok (.getfield 26, 3) := by decide +kernel
theorem dX10_hits_42 : decode cX10_hits 42 = .ok (.iload_n 1, 1) := by decide +kernel
theorem dX10_hits_43 : decode cX10_hits 43 = .ok (.iload_n 2, 1) := by decide +kernel
theorem dX10_hits_44 : decode cX10_hits 44 = .ok (.aload_n 0, 1) := by decide +kernel
theorem dX10_hits_45 : decode cX10_hits 45 = .ok (.getfield 19, 3) := by decide +kernel
theorem dX10_hits_48 : decode cX10_hits 48 = .ok (.invokevirtual 163, 3) := by decide +kernel
theorem dX10_hits_51 : decode cX10_hits 51 = .ok (.i2l, 1) := by decide +kernel
theorem dX10_hits_52 : decode cX10_hits 52 = .ok (.ldc2_w 167, 3) := by decide +kernel
theorem dX10_hits_55 : decode cX10_hits 55 = .ok (.iload_n 3, 1) := by decide +kernel
theorem dX10_hits_56 : decode cX10_hits 56 = .ok (.invokestatic 169, 3) := by decide +kernel
theorem dX10_hits_59 : decode cX10_hits 59 = .ok (.lreturn, 1) := by decide +kernel
theorem dX10_aim_0 : decode cX10_aim 0 = .ok (.iload_n 1, 1) := by decide +kernel
theorem dX10_aim_1 : decode cX10_aim 1 = .ok (.iconst 1, 1) := by decide +kernel
theorem dX10_aim_2 : decode cX10_aim 2 = .ok (.iconst 4, 1) := by decide +kernel
theorem dX10_aim_3 : decode cX10_aim 3 = .ok (.invokestatic 79, 3) := by decide +kernel
theorem dX10_aim_6 : decode cX10_aim 6 = .ok (.ifCond .ne 12, 3) := by decide +kernel
theorem dX10_aim_9 : decode cX10_aim 9 = .ok (.iload_n 2, 1) := by decide +kernel
theorem dX10_aim_10 : decode cX10_aim 10 = .ok (.iconst 0, 1) := by decide +kernel
theorem dX10_aim_11 : decode cX10_aim 11 = .ok (.iconst 1, 1) := by decide +kernel
theorem dX10_aim_12 : decode cX10_aim 12 = .ok (.invokestatic 79, 3) := by decide +kernel
theorem dX10_aim_15 : decode cX10_aim 15 = .ok (.ifCond .eq 7, 3) := by decide +kernel
theorem dX10_aim_18 : decode cX10_aim 18 = .ok (.ldc2_w 161, 3) := by decide +kernel
theorem dX10_aim_21 : decode cX10_aim 21 = .ok (.lreturn, 1) := by decide +kernel
theorem dX10_aim_22 : decode cX10_aim 22 = .ok (.aload_n 0, 1) := by decide +kernel
theorem dX10_aim_23 : decode cX10_aim 23 = .ok (.invokevirtual 173, 3) := by decide +kernel
theorem dX10_aim_26 : decode cX10_aim 26 = .ok (.ifCond .ne 7, 3) := by decide +kernel
theorem dX10_aim_29 : decode cX10_aim 29 = .ok (.ldc2_w 176, 3) := by decide +kernel
theorem dX10_aim_32 : decode cX10_aim 32 = .ok (.lreturn, 1) := by decide +kernel
theorem dX10_aim_33 : decode cX10_aim 33 = .ok (.aload_n 0, 1) := by decide +kernel
theorem dX10_aim_34 : decode cX10_aim 34 = .ok (.getfield 54, 3) := by decide +kernel
theorem dX10_aim_37 : decode cX10_aim 37 = .ok (.aload_n 0, 1) := by decide +kernel
theorem dX10_aim_38 : decode cX10_aim 38 = .ok (.getfield 19, 3) := by decide +kernel
theorem dX10_aim_41 : decode cX10_aim 41 = .ok (.aload_n 0, 1) := by decide +kernel
theorem dX10_aim_42 : decode cX10_aim 42 = .ok (.getfield 26, 3) := by decide +kernel
theorem dX10_aim_45 : decode cX10_aim 45 = .ok (.aload_n 0, 1) := by decide +kernel
theorem dX10_aim_46 : decode cX10_aim 46 = .ok (.getfield 40, 3) := by decide +kernel
theorem dX10_aim_49 : decode cX10_aim 49 = .ok (.iload_n 1, 1) := by decide +kernel
theorem dX10_aim_50 : decode cX10_aim 50 = .ok (.invokevirtual 178, 3) := by decide +kernel
theorem dX10_aim_53 : decode cX10_aim 53 = .ok (.aload_n 0, 1) := by decide +kernel
theorem dX10_aim_54 : decode cX10_aim 54 = .ok (.getfield 54, 3) := by decide +kernel
theorem dX10_aim_57 : decode cX10_aim 57 = .ok (.getfield 182, 3) := by decide +kernel
theorem dX10_aim_60 : decode cX10_aim 60 = .ok (.aload_n 0, 1) := by decide +kernel
theorem dX10_aim_61 : decode cX10_aim 61 = .ok (.getfield 54, 3) := by decide +kernel
theorem dX10_aim_64 : decode cX10_aim 64 = .ok (.getfield 186, 3) := by decide +kernel
theorem dX10_aim_67 : decode cX10_aim 67 = .ok (.iload_n 2, 1) := by decide +kernel
theorem dX10_aim_68 : decode cX10_aim 68 = .ok (.invokestatic 169, 3) := by decide +kernel
theorem dX10_aim_71 : decode cX10_aim 71 = .ok (.lreturn, 1) := by decide +kernel
theorem dX10_which_0 : decode cX10_which 0 = .ok (.iload_n 1, 1) := by decide +kernel
theorem dX10_which_1 : decode cX10_which 1 = .ok (.iconst 1, 1) := by decide +kernel
theorem dX10_which_2 : decode cX10_which 2 = .ok (.iconst 4, 1) := by decide +kernel
theorem dX10_which_3 : decode cX10_which 3 = .ok (.invokestatic 79, 3) := by decide +kernel
theorem dX10_which_6 : decode cX10_which 6 = .ok (.ifCond .eq 6, 3) := by decide +kernel
theorem dX10_which_9 : decode cX10_which 9 = .ok (.bipush (-102), 2) := by decide +kernel
theorem dX10_which_11 : decode cX10_which 11 = .ok (.ireturn, 1) := by decide +kernel
theorem dX10_which_12 : decode cX10_which 12 = .ok (.aload_n 0, 1) := by decide +kernel
theorem dX10_which_13 : decode cX10_which 13 = .ok (.invokevirtual 173, 3) := by decide +kernel
theorem dX10_which_16 : decode cX10_which 16 = .ok (.ifCond .ne 6, 3) := by decide +kernel
theorem dX10_which_19 : decode cX10_which 19 = .ok (.bipush (-103), 2) := by decide +kernel
theorem dX10_which_21 : decode cX10_which 21 = .ok (.ireturn, 1) := by decide +kernel
theorem dX10_which_22 : decode cX10_which 22 = .ok (.aload_n 0, 1) := by decide +kernel
theorem dX10_which_23 : decode cX10_which 23 = .ok (.getfield 54, 3) := by decide +kernel
theorem dX10_which_26 : decode cX10_which 26 = .ok (.aload_n 0, 1) := by decide +kernel
theorem dX10_which_27 : decode cX10_which 27 = .ok (.getfield 19, 3) := by decide +kernel
theorem dX10_which_30 : decode cX10_which 30 = .ok (.aload_n 0, 1) := by decide +kernel
theorem dX10_which_31 : decode cX10_which 31 = .ok (.getfield 26, 3) := by decide +kernel
theorem dX10_which_34 : decode cX10_which 34 = .ok (.aload_n 0, 1) := by decide +kernel
theorem dX10_which_35 : decode cX10_which 35 = .ok (.getfield 40, 3) := by decide +kernel
theorem dX10_which_38 : decode cX10_which 38 = .ok (.iload_n 1, 1) := by decide +kernel
theorem dX10_which_39 : decode cX10_which 39 = .ok (.invokevirtual 178, 3) := by decide +kernel
theorem dX10_which_42 : decode cX10_which 42 = .ok (.aload_n 0, 1) := by decide +kernel
theorem dX10_which_43 : decode cX10_which 43 = .ok (.getfield 54, 3) := by decide +kernel
theorem dX10_which_46 : decode cX10_which 46 = .ok (.getfield 189, 3) := by decide +kernel
theorem dX10_which_49 : decode cX10_which 49 = .ok (.ireturn, 1) := by decide +kernel
theorem dX10_man_0 : decode cX10_man 0 = .ok (.iload_n 1, 1) := by decide +kernel
theorem dX10_man_1 : decode cX10_man 1 = .ok (.iconst 0, 1) := by decide +kernel
theorem dX10_man_2 : decode cX10_man 2 = .ok (.iconst 4, 1) := by decide +kernel
theorem dX10_man_3 : decode cX10_man 3 = .ok (.invokestatic 79, 3) := by decide +kernel
theorem dX10_man_6 : decode cX10_man 6 = .ok (.ifCond .ne 13, 3) := by decide +kernel
theorem dX10_man_9 : decode cX10_man 9 = .ok (.iload_n 2, 1) := by decide +kernel
theorem dX10_man_10 : decode cX10_man 10 = .ok (.iconst 1, 1) := by decide +kernel
theorem dX10_man_11 : decode cX10_man 11 = .ok (.bipush 30, 2) := by decide +kernel
theorem dX10_man_13 : decode cX10_man 13 = .ok (.invokestatic 79, 3) := by decide +kernel
theorem dX10_man_16 : decode cX10_man 16 = .ok (.ifCond .eq 6, 3) := by decide +kernel
theorem dX10_man_19 : decode cX10_man 19 = .ok (.bipush (-102), 2) := by decide +kernel
theorem dX10_man_21 : decode cX10_man 21 = .ok (.ireturn, 1) := by decide +kernel
theorem dX10_man_22 : decode cX10_man 22 = .ok (.aload_n 0, 1) := by decide +kernel
theorem dX10_man_23 : decode cX10_man 23 = .ok (.invokevirtual 115, 3) := by decide +kernel
theorem dX10_man_26 : decode cX10_man 26 = .ok (.ifCond .ne 6, 3) := by decide +kernel
theorem dX10_man_29 : decode cX10_man 29 = .ok (.bipush (-103), 2) := by decide +kernel
theorem dX10_man_31 : decode cX10_man 31 = .ok (.ireturn, 1) := by decide +kernel
theorem dX10_man_32 : decode cX10_man 32 = .ok (.aload_n 0, 1) := by decide +kernel
theorem dX10_man_33 : decode cX10_man 33 = .ok (.getfield 33, 3) := by decide +kernel
theorem dX10_man_36 : decode cX10_man 36 = .ok (.getfield 192, 3) := by decide +kernel
theorem dX10_man_39 : decode cX10_man 39 = .ok (.bipush 6, 2) := by decide +kernel
theorem dX10_man_41 : decode cX10_man 41 = .ok (.if_icmp .lt 6, 3) := by decide +kernel
theorem dX10_man_44 : decode cX10_man 44 = .ok (.bipush (-104), 2) := by decide +kernel
theorem dX10_man_46 : decode cX10_man 46 = .ok (.ireturn, 1) := by decide +kernel
theorem dX10_man_47 : decode cX10_man 47 = .ok (.aload_n 0, 1) := by decide +kernel
theorem dX10_man_48 : decode cX10_man 48 = .ok (.getfield 33, 3) := by decide +kernel
theorem dX10_man_51 : decode cX10_man 51 = .ok (.iload_n 1, 1) := by decide +kernel
theorem dX10_man_52 : decode cX10_man 52 = .ok (.iload_n 2, 1) := by decide +kernel
theorem dX10_man_53 : decode cX10_man 53 = .ok (.invokevirtual 193, 3) := by decide +kernel
theorem dX10_man_56 : decode cX10_man 56 = .ok (.ireturn, 1) := by decide +kernel
theorem dX10_about_0 : decode cX10_about 0 = .ok (.aload_n 0, 1) := by decide +kernel
theorem dX10_about_1 : decode cX10_about 1 = .ok (.getfield 33, 3) := by decide +kernel
theorem dX10_about_4 : decode cX10_about 4 = .ok (.iload_n 1, 1) := by decide +kernel
theorem dX10_about_5 : decode cX10_about 5 = .ok (.invokevirtual 194, 3) := by decide +kernel
theorem dX10_about_8 : decode cX10_about 8 = .ok (.ifCond .ne 6, 3) := by decide +kernel
theorem dX10_about_11 : decode cX10_about 11 = .ok (.bipush (-101), 2) := by decide +kernel
theorem dX10_about_13 : decode cX10_about 13 = .ok (.ireturn, 1) := by decide +kernel
theorem dX10_about_14 : decode cX10_about 14 = .ok (.iload_n 2, 1) := by decide +kernel
theorem dX10_about_15 : decode cX10_about 15 = .ok (.tableswitch 141 0 6 #[41, 50, 59, 82, 108, 123, 132], 41) := by decide +kernel
theorem dX10_about_56 : decode cX10_about 56 = .ok (.aload_n 0, 1) := by decide +kernel
theorem dX10_about_57 : decode cX10_about 57 = .ok (.getfield 33, 3) := by decide +kernel
theorem dX10_about_60 : decode cX10_about 60 = .ok (.iload_n 1, 1) := by decide +kernel
theorem dX10_about_61 : decode cX10_about 61 = .ok (.invokevirtual 195, 3) := by decide +kernel
theorem dX10_about_64 : decode cX10_about 64 = .ok (.ireturn, 1) := by decide +kernel
theorem dX10_about_65 : decode cX10_about 65 = .ok (.aload_n 0, 1) := by decide +kernel
theorem dX10_about_66 : decode cX10_about 66 = .ok (.getfield 33, 3) := by decide +kernel
theorem dX10_about_69 : decode cX10_about 69 = .ok (.iload_n 1, 1) := by decide +kernel
theorem dX10_about_70 : decode cX10_about 70 = .ok (.invokevirtual 198, 3) := by decide +kernel
theorem dX10_about_73 : decode cX10_about 73 = .ok (.ireturn, 1) := by decide +kernel
theorem dX10_about_74 : decode cX10_about 74 = .ok (.aload_n 0, 1) := by decide +kernel
theorem dX10_about_75 : decode cX10_about 75 = .ok (.getfield 33, 3) := by decide +kernel
theorem dX10_about_78 : decode cX10_about 78 = .ok (.iload_n 1, 1) := by decide +kernel
theorem dX10_about_79 : decode cX10_about 79 = .ok (.aload_n 0, 1) := by decide +kernel
theorem dX10_about_80 : decode cX10_about 80 = .ok (.getfield 19, 3) := by decide +kernel
theorem dX10_about_83 : decode cX10_about 83 = .ok (.getfield 201, 3) := by decide +kernel
theorem dX10_about_86 : decode cX10_about 86 = .ok (.aload_n 0, 1) := by decide +kernel
theorem dX10_about_87 : decode cX10_about 87 = .ok (.getfield 40, 3) := by decide +kernel
theorem dX10_about_90 : decode cX10_about 90 = .ok (.getfield 204, 3) := by decide +kernel
theorem dX10_about_93 : decode cX10_about 93 = .ok (.invokevirtual 207, 3) := by decide +kernel
theorem dX10_about_96 : decode cX10_about 96 = .ok (.ireturn, 1) := by decide +kernel
theorem dX10_about_97 : decode cX10_about 97 = .ok (.aload_n 0, 1) := by decide +kernel
theorem dX10_about_98 : decode cX10_about 98 = .ok (.getfield 33, 3) := by decide +kernel
theorem dX10_about_101 : decode cX10_about 101 = .ok (.iload_n 1, 1) := by decide +kernel
theorem dX10_about_102 : decode cX10_about 102 = .ok (.aload_n 0, 1) := by decide +kernel
theorem dX10_about_103 : decode cX10_about 103 = .ok (.getfield 19, 3) := by decide +kernel
theorem dX10_about_106 : decode cX10_about 106 = .ok (.getfield 201, 3) := by decide +kernel
theorem dX10_about_109 : decode cX10_about 109 = .ok (.aload_n 0, 1) := by decide +kernel
theorem dX10_about_110 : decode cX10_about 110 = .ok (.getfield 40, 3) := by decide +kernel
theorem dX10_about_113 : decode cX10_about 113 = .ok (.getfield 204, 3) := by decide +kernel
theorem dX10_about_116 : decode cX10_about 116 = .ok (.invokevirtual 211, 3) := by decide +kernel
theorem dX10_about_119 : decode cX10_about 119 = .ok (.invokestatic 214, 3) := by decide +kernel
theorem dX10_about_122 : decode cX10_about 122 = .ok (.ireturn, 1) := by decide +kernel
theorem dX10_about_123 : decode cX10_about 123 = .ok (.aload_n 0, 1) := by decide +kernel
theorem dX10_about_124 : decode cX10_about 124 = .ok (.getfield 40, 3) := by decide +kernel
theorem dX10_about_127 : decode cX10_about 127 = .ok (.getfield 218, 3) := by decide +kernel
theorem dX10_about_130 : decode cX10_about 130 = .ok (.iload_n 1, 1) := by decide +kernel
theorem dX10_about_131 : decode cX10_about 131 = .ok (.invokestatic 135, 3) := by decide +kernel
theorem dX10_about_134 : decode cX10_about 134 = .ok (.invokestatic 214, 3) := by decide +kernel
theorem dX10_about_137 : decode cX10_about 137 = .ok (.ireturn, 1) := by decide +kernel
theorem dX10_about_138 : decode cX10_about 138 = .ok (.aload_n 0, 1) := by decide +kernel
theorem dX10_about_139 : decode cX10_about 139 = .ok (.getfield 40, 3) := by decide +kernel
theorem dX10_about_142 : decode cX10_about 142 = .ok (.iload_n 1, 1) := by decide +kernel
theorem dX10_about_143 : decode cX10_about 143 = .ok (.invokevirtual 221, 3) := by decide +kernel
theorem dX10_about_146 : decode cX10_about 146 = .ok (.ireturn, 1) := by decide +kernel
theorem dX10_about_147 : decode cX10_about 147 = .ok (.aload_n 0, 1) := by decide +kernel
theorem dX10_about_148 : decode cX10_about 148 = .ok (.iload_n 1, 1) := by decide +kernel
theorem dX10_about_149 : decode cX10_about 149 = .ok (.invokevirtual 224, 3) := by decide +kernel
theorem dX10_about_152 : decode cX10_about 152 = .ok (.invokestatic 214, 3) := by decide +kernel
theorem dX10_about_155 : decode cX10_about 155 = .ok (.ireturn, 1) := by decide +kernel
theorem dX10_about_156 : decode cX10_about 156 = .ok (.bipush (-102), 2) := by decide +kernel
theorem dX10_about_158 : decode cX10_about 158 = .ok (.ireturn, 1) := by decide +kernel
theorem dX10_as_0 : decode cX10_as 0 = .ok (.aload_n 0, 1) := by decide +kernel
theorem dX10_as_1 : decode cX10_as 1 = .ok (.getfield 33, 3) := by decide +kernel
theorem dX10_as_4 : decode cX10_as 4 = .ok (.iload_n 1, 1) := by decide +kernel
theorem dX10_as_5 : decode cX10_as 5 = .ok (.invokevirtual 194, 3) := by decide +kernel
theorem dX10_as_8 : decode cX10_as 8 = .ok (.ifCond .ne 6, 3) := by decide +kernel
theorem dX10_as_11 : decode cX10_as 11 = .ok (.bipush (-101), 2) := by decide +kernel
theorem dX10_as_13 : decode cX10_as 13 = .ok (.ireturn, 1) := by decide +kernel
theorem dX10_as_14 : decode cX10_as 14 = .ok (.iload_n 2, 1) := by decide +kernel
theorem dX10_as_15 : decode cX10_as 15 = .ok (.iconst 0, 1) := by decide +kernel
theorem dX10_as_16 : decode cX10_as 16 = .ok (.iconst 4, 1) := by decide +kernel
theorem dX10_as_17 : decode cX10_as 17 = .ok (.invokestatic 79, 3) := by decide +kernel
theorem dX10_as_20 : decode cX10_as 20 = .ok (.ifCond .eq 6, 3) := by decide +kernel
theorem dX10_as_23 : decode cX10_as 23 = .ok (.bipush (-102), 2) := by decide +kernel
theorem dX10_as_25 : decode cX10_as 25 = .ok (.ireturn, 1) := by decide +kernel
theorem dX10_as_26 : decode cX10_as 26 = .ok (.aload_n 0, 1) := by decide +kernel
theorem dX10_as_27 : decode cX10_as 27 = .ok (.getfield 33, 3) := by decide +kernel
theorem dX10_as_30 : decode cX10_as 30 = .ok (.iload_n 1, 1) := by decide +kernel
theorem dX10_as_31 : decode cX10_as 31 = .ok (.iload_n 2, 1) := by decide +kernel
theorem dX10_as_32 : decode cX10_as 32 = .ok (.invokevirtual 227, 3) := by decide +kernel
theorem dX10_as_35 : decode cX10_as 35 = .ok (.ifCond .eq 7, 3) := by decide +kernel
theorem dX10_as_38 : decode cX10_as 38 = .ok (.iload_n 1, 1) := by decide +kernel
theorem dX10_as_39 : decode cX10_as 39 = .ok (.goto 4, 3) := by decide +kernel
theorem dX10_as_42 : decode cX10_as 42 = .ok (.iconst (-1), 1) := by decide +kernel
theorem dX10_as_43 : decode cX10_as 43 = .ok (.ireturn, 1) := by decide +kernel
theorem dX10_behind_0 : decode cX10_behind 0 = .ok (.aload_n 0, 1) := by decide +kernel
theorem dX10_behind_1 : decode cX10_behind 1 = .ok (.iload_n 1, 1) := by decide +kernel
theorem dX10_behind_2 : decode cX10_behind 2 = .ok (.iload_n 2, 1) := by decide +kernel
theorem dX10_behind_3 : decode cX10_behind 3 = .ok (.invokevirtual 230, 3) := by decide +kernel
theorem dX10_behind_6 : decode cX10_behind 6 = .ok (.ifCond .ne 6, 3) := by decide +kernel
theorem dX10_behind_9 : decode cX10_behind 9 = .ok (.bipush (-101), 2) := by decide +kernel
theorem dX10_behind_11 : decode cX10_behind 11 = .ok (.ireturn, 1) := by decide +kernel
theorem dX10_behind_12 : decode cX10_behind 12 = .ok (.aload_n 0, 1) := by decide +kernel
theorem dX10_behind_13 : decode cX10_behind 13 = .ok (.getfield 33, 3) := by decide +kernel
theorem dX10_behind_16 : decode cX10_behind 16 = .ok (.iload_n 1, 1) := by decide +kernel
theorem dX10_behind_17 : decode cX10_behind 17 = .ok (.iload_n 2, 1) := by decide +kernel
theorem dX10_behind_18 : decode cX10_behind 18 = .ok (.iload_n 3, 1) := by decide +kernel
theorem dX10_behind_19 : decode cX10_behind 19 = .ok (.invokevirtual 233, 3) := by decide +kernel
theorem dX10_behind_22 : decode cX10_behind 22 = .ok (.invokestatic 214, 3) := by decide +kernel
theorem dX10_behind_25 : decode cX10_behind 25 = .ok (.ireturn, 1) := by decide +kernel
theorem dX10_hawser_0 : decode cX10_hawser 0 = .ok (.iload_n 1, 1) := by decide +kernel
theorem dX10_hawser_1 : decode cX10_hawser 1 = .ok (.iconst 0, 1) := by decide +kernel
theorem dX10_hawser_2 : decode cX10_hawser 2 = .ok (.bipush 60, 2) := by decide +kernel
theorem dX10_hawser_4 : decode cX10_hawser 4 = .ok (.invokestatic 79, 3) := by decide +kernel
theorem dX10_hawser_7 : decode cX10_hawser 7 = .ok (.ifCond .eq 6, 3) := by decide +kernel
theorem dX10_hawser_10 : decode cX10_hawser 10 = .ok (.bipush (-102), 2) := by decide +kernel
theorem dX10_hawser_12 : decode cX10_hawser 12 = .ok (.ireturn, 1) := by decide +kernel
theorem dX10_hawser_13 : decode cX10_hawser 13 = .ok (.aload_n 0, 1) := by decide +kernel
theorem dX10_hawser_14 : decode cX10_hawser 14 = .ok (.invokevirtual 115, 3) := by decide +kernel
theorem dX10_hawser_17 : decode cX10_hawser 17 = .ok (.ifCond .ne 6, 3) := by decide +kernel
theorem dX10_hawser_20 : decode cX10_hawser 20 = .ok (.bipush (-103), 2) := by decide +kernel
theorem dX10_hawser_22 : decode cX10_hawser 22 = .ok (.ireturn, 1) := by decide +kernel
theorem dX10_hawser_23 : decode cX10_hawser 23 = .ok (.aload_n 0, 1) := by decide +kernel
theorem dX10_hawser_24 : decode cX10_hawser 24 = .ok (.getfield 40, 3) := by decide +kernel
theorem dX10_hawser_27 : decode cX10_hawser 27 = .ok (.getfield 204, 3) := by decide +kernel
theorem dX10_hawser_30 : decode cX10_hawser 30 = .ok (.istore_n 2, 1) := by decide +kernel
theorem dX10_hawser_31 : decode cX10_hawser 31 = .ok (.aload_n 0, 1) := by decide +kernel
theorem dX10_hawser_32 : decode cX10_hawser 32 = .ok (.getfield 40, 3) := by decide +kernel
theorem dX10_hawser_35 : decode cX10_hawser 35 = .ok (.iload_n 1, 1) := by decide +kernel
theorem dX10_hawser_36 : decode cX10_hawser 36 = .ok (.putfield 204, 3) := by decide +kernel
theorem dX10_hawser_39 : decode cX10_hawser 39 = .ok (.iload_n 2, 1) := by decide +kernel
theorem dX10_hawser_40 : decode cX10_hawser 40 = .ok (.ireturn, 1) := by decide +kernel
theorem dX10_come_0 : decode cX10_come 0 = .ok (.aload_n 0, 1) := by decide +kernel
theorem dX10_come_1 : decode cX10_come 1 = .ok (.getfield 33, 3) := by decide +kernel
theorem dX10_come_4 : decode cX10_come 4 = .ok (.iload_n 1, 1) := by decide +kernel
theorem dX10_come_5 : decode cX10_come 5 = .ok (.invokevirtual 194, 3) := by decide +kernel
theorem dX10_come_8 : decode cX10_come 8 = .ok (.ifCond .ne 6, 3) := by decide +kernel
theorem dX10_come_11 : decode cX10_come 11 = .ok (.bipush (-101), 2) := by decide +kernel
theorem dX10_come_13 : decode cX10_come 13 = .ok (.ireturn, 1) := by decide +kernel
theorem dX10_come_14 : decode cX10_come 14 = .ok (.aload_n 0, 1) := by decide +kernel
theorem dX10_come_15 : decode cX10_come 15 = .ok (.iload_n 1, 1) := by decide +kernel
theorem dX10_come_16 : decode cX10_come 16 = .ok (.invokevirtual 224, 3) := by decide +kernel
theorem dX10_come_19 : decode cX10_come 19 = .ok (.ifCond .ne 6, 3) := by decide +kernel
theorem dX10_come_22 : decode cX10_come 22 = .ok (.bipush (-103), 2) := by decide +kernel
theorem dX10_come_24 : decode cX10_come 24 = .ok (.ireturn, 1) := by decide +kernel
theorem dX10_come_25 : decode cX10_come 25 = .ok (.aload_n 0, 1) := by decide +kernel
theorem dX10_come_26 : decode cX10_come 26 = .ok (.getfield 40, 3) := by decide +kernel
theorem dX10_come_29 : decode cX10_come 29 = .ok (.iload_n 1, 1) := by decide +kernel
theorem dX10_come_30 : decode cX10_come 30 = .ok (.aload_n 0, 1) := by decide +kernel
theorem dX10_come_31 : decode cX10_come 31 = .ok (.getfield 33, 3) := by decide +kernel
theorem dX10_come_34 : decode cX10_come 34 = .ok (.iload_n 1, 1) := by decide +kernel
theorem dX10_come_35 : decode cX10_come 35 = .ok (.aload_n 0, 1) := by decide +kernel
theorem dX10_come_36 : decode cX10_come 36 = .ok (.getfield 19, 3) := by decide +kernel
theorem dX10_come_39 : decode cX10_come 39 = .ok (.getfield 201, 3) := by decide +kernel
theorem dX10_come_42 : decode cX10_come 42 = .ok (.aload_n 0, 1) := by decide +kernel
theorem dX10_come_43 : decode cX10_come 43 = .ok (.getfield 40, 3) := by decide +kernel
theorem dX10_come_46 : decode cX10_come 46 = .ok (.getfield 204, 3) := by decide +kernel
theorem dX10_come_49 : decode cX10_come 49 = .ok (.invokevirtual 207, 3) := by decide +kernel
theorem dX10_come_52 : decode cX10_come 52 = .ok (.invokevirtual 237, 3) := by decide +kernel
theorem dX10_come_55 : decode cX10_come 55 = .ok (.aload_n 0, 1) := by decide +kernel
theorem dX10_come_56 : decode cX10_come 56 = .ok (.getfield 40, 3) := by decide +kernel
theorem dX10_come_59 : decode cX10_come 59 = .ok (.getfield 241, 3) := by decide +kernel
theorem dX10_come_62 : decode cX10_come 62 = .ok (.ireturn, 1) := by decide +kernel
theorem dX10_minutes_0 : decode cX10_minutes 0 = .ok (.iload_n 1, 1) := by decide +kernel
theorem dX10_minutes_1 : decode cX10_minutes 1 = .ok (.iconst 1, 1) := by decide +kernel
theorem dX10_minutes_2 : decode cX10_minutes 2 = .ok (.bipush 50, 2) := by decide +kernel
theorem dX10_minutes_4 : decode cX10_minutes 4 = .ok (.invokestatic 79, 3) := by decide +kernel
theorem dX10_minutes_7 : decode cX10_minutes 7 = .ok (.ifCond .eq 6, 3) := by decide +kernel
theorem dX10_minutes_10 : decode cX10_minutes 10 = .ok (.bipush (-102), 2) := by decide +kernel
theorem dX10_minutes_12 : decode cX10_minutes 12 = .ok (.ireturn, 1) := by decide +kernel
theorem dX10_minutes_13 : decode cX10_minutes 13 = .ok (.aload_n 0, 1) := by decide +kernel
theorem dX10_minutes_14 : decode cX10_minutes 14 = .ok (.invokevirtual 244, 3) := by decide +kernel
theorem dX10_minutes_17 : decode cX10_minutes 17 = .ok (.ifCond .eq 22, 3) := by decide +kernel
theorem dX10_minutes_20 : decode cX10_minutes 20 = .ok (.aload_n 0, 1) := by decide +kernel
theorem dX10_minutes_21 : decode cX10_minutes 21 = .ok (.getfield 40, 3) := by decide +kernel
theorem dX10_minutes_24 : decode cX10_minutes 24 = .ok (.getfield 241, 3) := by decide +kernel
theorem dX10_minutes_27 : decode cX10_minutes 27 = .ok (.iload_n 1, 1) := by decide +kernel
theorem dX10_minutes_28 : decode cX10_minutes 28 = .ok (.iadd, 1) := by decide +kernel
theorem dX10_minutes_29 : decode cX10_minutes 29 = .ok (.aload_n 0, 1) := by decide +kernel
theorem dX10_minutes_30 : decode cX10_minutes 30 = .ok (.getfield 19, 3) := by decide +kernel
theorem dX10_minutes_33 : decode cX10_minutes 33 = .ok (.invokevirtual 247, 3) := by decide +kernel
theorem dX10_minutes_36 : decode cX10_minutes 36 = .ok (.if_icmp .lt 6, 3) := by decide +kernel
theorem dX10_minutes_39 : decode cX10_minutes 39 = .ok (.bipush (-103), 2) := by decide +kernel
theorem dX10_minutes_41 : decode cX10_minutes 41 = .ok (.ireturn, 1) := by decide +kernel
theorem dX10_minutes_42 : decode cX10_minutes 42 = .ok (.aload_n 0, 1) := by decide +kernel
theorem dX10_minutes_43 : decode cX10_minutes 43 = .ok (.getfield 40, 3) := by decide +kernel
theorem dX10_minutes_46 : decode cX10_minutes 46 = .ok (.dup, 1) := by decide +kernel
theorem dX10_minutes_47 : decode cX10_minutes 47 = .ok (.getfield 241, 3) := by decide +kernel
theorem dX10_minutes_50 : decode cX10_minutes 50 = .ok (.iload_n 1, 1) := by decide +kernel
theorem dX10_minutes_51 : decode cX10_minutes 51 = .ok (.iadd, 1) := by decide +kernel
theorem dX10_minutes_52 : decode cX10_minutes 52 = .ok (.putfield 241, 3) := by decide +kernel
theorem dX10_minutes_55 : decode cX10_minutes 55 = .ok (.aload_n 0, 1) := by decide +kernel
theorem dX10_minutes_56 : decode cX10_minutes 56 = .ok (.getfield 40, 3) := by decide +kernel
theorem dX10_minutes_59 : decode cX10_minutes 59 = .ok (.getfield 241, 3) := by decide +kernel
theorem dX10_minutes_62 : decode cX10_minutes 62 = .ok (.ireturn, 1) := by decide +kernel
theorem dX10_breaks_0 : decode cX10_breaks 0 = .ok (.aload_n 0, 1) := by decide +kernel
theorem dX10_breaks_1 : decode cX10_breaks 1 = .ok (.invokevirtual 244, 3) := by decide +kernel
theorem dX10_breaks_4 : decode cX10_breaks 4 = .ok (.ifCond .ne 6, 3) := by decide +kernel
theorem dX10_breaks_7 : decode cX10_breaks 7 = .ok (.bipush (-103), 2) := by decide +kernel
theorem dX10_breaks_9 : decode cX10_breaks 9 = .ok (.ireturn, 1) := by decide +kernel
theorem dX10_breaks_10 : decode cX10_breaks 10 = .ok (.aload_n 0, 1) := by decide +kernel
theorem dX10_breaks_11 : decode cX10_breaks 11 = .ok (.getfield 40, 3) := by decide +kernel
theorem dX10_breaks_14 : decode cX10_breaks 14 = .ok (.iconst 1, 1) := by decide +kernel
theorem dX10_breaks_15 : decode cX10_breaks 15 = .ok (.putfield 139, 3) := by decide +kernel
theorem dX10_breaks_18 : decode cX10_breaks 18 = .ok (.aload_n 0, 1) := by decide +kernel
theorem dX10_breaks_19 : decode cX10_breaks 19 = .ok (.getfield 33, 3) := by decide +kernel
theorem dX10_breaks_22 : decode cX10_breaks 22 = .ok (.getfield 192, 3) := by decide +kernel
theorem dX10_breaks_25 : decode cX10_breaks 25 = .ok (.aload_n 0, 1) := by decide +kernel
theorem dX10_breaks_26 : decode cX10_breaks 26 = .ok (.getfield 40, 3) := by decide +kernel
theorem dX10_breaks_29 : decode cX10_breaks 29 = .ok (.getfield 218, 3) := by decide +kernel
theorem dX10_breaks_32 : decode cX10_breaks 32 = .ok (.invokestatic 250, 3) := by decide +kernel
theorem dX10_breaks_35 : decode cX10_breaks 35 = .ok (.isub, 1) := by decide +kernel
theorem dX10_breaks_36 : decode cX10_breaks 36 = .ok (.ireturn, 1) := by decide +kernel
theorem dX10_order_0 : decode cX10_order 0 = .ok (.iload_n 1, 1) := by decide +kernel
theorem dX10_order_1 : decode cX10_order 1 = .ok (.iconst 0, 1) := by decide +kernel
theorem dX10_order_2 : decode cX10_order 2 = .ok (.iconst 1, 1) := by decide +kernel
theorem dX10_order_3 : decode cX10_order 3 = .ok (.invokestatic 79, 3) := by decide +kernel
theorem dX10_order_6 : decode cX10_order 6 = .ok (.ifCond .eq 18, 3) := by decide +kernel
theorem dX10_order_9 : decode cX10_order 9 = .ok (.iload_n 1, 1) := by decide +kernel
theorem dX10_order_10 : decode cX10_order 10 = .ok (.bipush 10, 2) := by decide +kernel
theorem dX10_order_12 : decode cX10_order 12 = .ok (.bipush 15, 2) := by decide +kernel
theorem dX10_order_14 : decode cX10_order 14 = .ok (.invokestatic 79, 3) := by decide +kernel
theorem dX10_order_17 : decode cX10_order 17 = .ok (.ifCond .eq 7, 3) := by decide +kernel
theorem dX10_order_20 : decode cX10_order 20 = .ok (.ldc2_w 161, 3) := by decide +kernel
theorem dX10_order_23 : decode cX10_order 23 = .ok (.lreturn, 1) := by decide +kernel
theorem dX10_order_24 : decode cX10_order 24 = .ok (.aload_n 0, 1) := by decide +kernel
theorem dX10_order_25 : decode cX10_order 25 = .ok (.invokevirtual 244, 3) := by decide +kernel
theorem dX10_order_28 : decode cX10_order 28 = .ok (.ifCond .eq 12, 3) := by decide +kernel
theorem dX10_order_31 : decode cX10_order 31 = .ok (.aload_n 0, 1) := by decide +kernel
theorem dX10_order_32 : decode cX10_order 32 = .ok (.getfield 255, 3) := by decide +kernel
theorem dX10_order_35 : decode cX10_order 35 = .ok (.bipush 30, 2) := by decide +kernel
theorem dX10_order_37 : decode cX10_order 37 = .ok (.if_icmp .lt 7, 3) := by decide +kernel
theorem dX10_order_40 : decode cX10_order 40 = .ok (.ldc2_w 176, 3) := by decide +kernel
theorem dX10_order_43 : decode cX10_order 43 = .ok (.lreturn, 1) := by decide +kernel
theorem dX10_order_44 : decode cX10_order 44 = .ok (.aload_n 0, 1) := by decide +kernel
theorem dX10_order_45 : decode cX10_order 45 = .ok (.dup, 1) := by decide +kernel
theorem dX10_order_46 : decode cX10_order 46 = .ok (.getfield 255, 3) := by decide +kernel
theorem dX10_order_49 : decode cX10_order 49 = .ok (.iconst 1, 1) := by decide +kernel
theorem dX10_order_50 : decode cX10_order 50 = .ok (.iadd, 1) := by decide +kernel
theorem dX10_order_51 : decode cX10_order 51 = .ok (.putfield 255, 3) := by decide +kernel
theorem dX10_order_54 : decode cX10_order 54 = .ok (.aload_n 0, 1) := by decide +kernel
theorem dX10_order_55 : decode cX10_order 55 = .ok (.getfield 61, 3) := by decide +kernel
theorem dX10_order_58 : decode cX10_order 58 = .ok (.aload_n 0, 1) := by decide +kernel
theorem dX10_order_59 : decode cX10_order 59 = .ok (.getfield 19, 3) := by decide +kernel
theorem dX10_order_62 : decode cX10_order 62 = .ok (.aload_n 0, 1) := by decide +kernel
theorem dX10_order_63 : decode cX10_order 63 = .ok (.getfield 33, 3) := by decide +kernel
theorem dX10_order_66 : decode cX10_order 66 = .ok (.aload_n 0, 1) := by decide +kernel
theorem dX10_order_67 : decode cX10_order 67 = .ok (.getfield 40, 3) := by decide +kernel
theorem dX10_order_70 : decode cX10_order 70 = .ok (.invokevirtual 258, 3) := by decide +kernel
theorem dX10_order_73 : decode cX10_order 73 = .ok (.iload_n 1, 1) := by decide +kernel
theorem dX10_order_74 : decode cX10_order 74 = .ok (.bipush 10, 2) := by decide +kernel
theorem dX10_order_76 : decode cX10_order 76 = .ok (.if_icmp .lt 16, 3) := by decide +kernel
theorem dX10_order_79 : decode cX10_order 79 = .ok (.aload_n 0, 1) := by decide +kernel
theorem dX10_order_80 : decode cX10_order 80 = .ok (.getfield 61, 3) := by decide +kernel
theorem dX10_order_83 : decode cX10_order 83 = .ok (.iload_n 1, 1) := by decide +kernel
theorem dX10_order_84 : decode cX10_order 84 = .ok (.bipush 10, 2) := by decide +kernel
theorem dX10_order_86 : decode cX10_order 86 = .ok (.isub, 1) := by decide +kernel
theorem dX10_order_87 : decode cX10_order 87 = .ok (.invokevirtual 261, 3) := by decide +kernel
theorem dX10_order_90 : decode cX10_order 90 = .ok (.i2l, 1) := by decide +kernel
theorem dX10_order_91 : decode cX10_order 91 = .ok (.lreturn, 1) := by decide +kernel
theorem dX10_order_92 : decode cX10_order 92 = .ok (.aload_n 0, 1) := by decide +kernel
theorem dX10_order_93 : decode cX10_order 93 = .ok (.getfield 61, 3) := by decide +kernel
theorem dX10_order_96 : decode cX10_order 96 = .ok (.invokevirtual 264, 3) := by decide +kernel
theorem dX10_order_99 : decode cX10_order 99 = .ok (.ifCond .ne 15, 3) := by decide +kernel
theorem dX10_order_102 : decode cX10_order 102 = .ok (.iload_n 1, 1) := by decide +kernel
theorem dX10_order_103 : decode cX10_order 103 = .ok (.ifCond .ne 9, 3) := by decide +kernel
theorem dX10_order_106 : decode cX10_order 106 = .ok (.ldc2_w 267, 3) := by decide +kernel
theorem dX10_order_109 : decode cX10_order 109 = .ok (.goto 4, 3) := by decide +kernel
theorem dX10_order_112 : decode cX10_order 112 = .ok (.lconst 1, 1) := by decide +kernel
theorem dX10_order_113 : decode cX10_order 113 = .ok (.lreturn, 1) := by decide +kernel
theorem dX10_order_114 : decode cX10_order 114 = .ok (.aload_n 0, 1) := by decide +kernel
theorem dX10_order_115 : decode cX10_order 115 = .ok (.getfield 61, 3) := by decide +kernel
theorem dX10_order_118 : decode cX10_order 118 = .ok (.invokevirtual 269, 3) := by decide +kernel
theorem dX10_order_121 : decode cX10_order 121 = .ok (.ldc2_w 273, 3) := by decide +kernel
theorem dX10_order_124 : decode cX10_order 124 = .ok (.iload_n 1, 1) := by decide +kernel
theorem dX10_order_125 : decode cX10_order 125 = .ok (.invokestatic 169, 3) := by decide +kernel
theorem dX10_order_128 : decode cX10_order 128 = .ok (.lreturn, 1) := by decide +kernel
theorem dX10_said_0 : decode cX10_said 0 = .ok (.aload_n 0, 1) := by decide +kernel
theorem dX10_said_1 : decode cX10_said 1 = .ok (.iload_n 1, 1) := by decide +kernel
theorem dX10_said_2 : decode cX10_said 2 = .ok (.iload_n 2, 1) := by decide +kernel
theorem dX10_said_3 : decode cX10_said 3 = .ok (.invokevirtual 230, 3) := by decide +kernel
theorem dX10_said_6 : decode cX10_said 6 = .ok (.ifCond .ne 6, 3) := by decide +kernel
theorem dX10_said_9 : decode cX10_said 9 = .ok (.bipush (-101), 2) := by decide +kernel
theorem dX10_said_11 : decode cX10_said 11 = .ok (.ireturn, 1) := by decide +kernel
theorem dX10_said_12 : decode cX10_said 12 = .ok (.aload_n 0, 1) := by decide +kernel
theorem dX10_said_13 : decode cX10_said 13 = .ok (.getfield 40, 3) := by decide +kernel
theorem dX10_said_16 : decode cX10_said 16 = .ok (.getfield 275, 3) := by decide +kernel
theorem dX10_said_19 : decode cX10_said 19 = .ok (.bipush 15, 2) := by decide +kernel
theorem dX10_said_21 : decode cX10_said 21 = .ok (.if_icmp .lt 6, 3) := by decide +kernel
theorem dX10_said_24 : decode cX10_said 24 = .ok (.bipush (-104), 2) := by decide +kernel
theorem dX10_said_26 : decode cX10_said 26 = .ok (.ireturn, 1) := by decide +kernel
theorem dX10_said_27 : decode cX10_said 27 = .ok (.aload_n 0, 1) := by decide +kernel
theorem dX10_said_28 : decode cX10_said 28 = .ok (.getfield 40, 3) := by decide +kernel
theorem dX10_said_31 : decode cX10_said 31 = .ok (.iload_n 1, 1) := by decide +kernel
theorem dX10_said_32 : decode cX10_said 32 = .ok (.iload_n 2, 1) := by decide +kernel
theorem dX10_said_33 : decode cX10_said 33 = .ok (.invokevirtual 278, 3) := by decide +kernel
theorem dX10_said_36 : decode cX10_said 36 = .ok (.aload_n 0, 1) := by decide +kernel
theorem dX10_said_37 : decode cX10_said 37 = .ok (.getfield 40, 3) := by decide +kernel
theorem dX10_said_40 : decode cX10_said 40 = .ok (.getfield 275, 3) := by decide +kernel
theorem dX10_said_43 : decode cX10_said 43 = .ok (.ireturn, 1) := by decide +kernel
theorem dX10_orders_0 : decode cX10_orders 0 = .ok (.aload_n 0, 1) := by decide +kernel
theorem dX10_orders_1 : decode cX10_orders 1 = .ok (.getfield 68, 3) := by decide +kernel
theorem dX10_orders_4 : decode cX10_orders 4 = .ok (.aload_n 0, 1) := by decide +kernel
theorem dX10_orders_5 : decode cX10_orders 5 = .ok (.getfield 33, 3) := by decide +kernel
theorem dX10_orders_8 : decode cX10_orders 8 = .ok (.aload_n 0, 1) := by decide +kernel
theorem dX10_orders_9 : decode cX10_orders 9 = .ok (.getfield 40, 3) := by decide +kernel
theorem dX10_orders_12 : decode cX10_orders 12 = .ok (.invokevirtual 281, 3) := by decide +kernel
theorem dX10_orders_15 : decode cX10_orders 15 = .ok (.aload_n 0, 1) := by decide +kernel
theorem dX10_orders_16 : decode cX10_orders 16 = .ok (.getfield 68, 3) := by decide +kernel
theorem dX10_orders_19 : decode cX10_orders 19 = .ok (.invokevirtual 284, 3) := by decide +kernel
theorem dX10_orders_22 : decode cX10_orders 22 = .ok (.ireturn, 1) := by decide +kernel
theorem dX10_sure_0 : decode cX10_sure 0 = .ok (.aload_n 0, 1) := by decide +kernel
theorem dX10_sure_1 : decode cX10_sure 1 = .ok (.getfield 33, 3) := by decide +kernel
theorem dX10_sure_4 : decode cX10_sure 4 = .ok (.iload_n 1, 1) := by decide +kernel
theorem dX10_sure_5 : decode cX10_sure 5 = .ok (.invokevirtual 194, 3) := by decide +kernel
theorem dX10_sure_8 : decode cX10_sure 8 = .ok (.ifCond .ne 6, 3) := by decide +kernel
theorem dX10_sure_11 : decode cX10_sure 11 = .ok (.bipush (-101), 2) := by decide +kernel
theorem dX10_sure_13 : decode cX10_sure 13 = .ok (.ireturn, 1) := by decide +kernel
theorem dX10_sure_14 : decode cX10_sure 14 = .ok (.aload_n 0, 1) := by decide +kernel
theorem dX10_sure_15 : decode cX10_sure 15 = .ok (.getfield 68, 3) := by decide +kernel
theorem dX10_sure_18 : decode cX10_sure 18 = .ok (.aload_n 0, 1) := by decide +kernel
theorem dX10_sure_19 : decode cX10_sure 19 = .ok (.getfield 33, 3) := by decide +kernel
theorem dX10_sure_22 : decode cX10_sure 22 = .ok (.aload_n 0, 1) := by decide +kernel
theorem dX10_sure_23 : decode cX10_sure 23 = .ok (.getfield 40, 3) := by decide +kernel
theorem dX10_sure_26 : decode cX10_sure 26 = .ok (.invokevirtual 281, 3) := by decide +kernel
theorem dX10_sure_29 : decode cX10_sure 29 = .ok (.aload_n 0, 1) := by decide +kernel
theorem dX10_sure_30 : decode cX10_sure 30 = .ok (.getfield 68, 3) := by decide +kernel
theorem dX10_sure_33 : decode cX10_sure 33 = .ok (.iload_n 1, 1) := by decide +kernel
theorem dX10_sure_34 : decode cX10_sure 34 = .ok (.invokevirtual 287, 3) := by decide +kernel
theorem dX10_sure_37 : decode cX10_sure 37 = .ok (.ireturn, 1) := by decide +kernel
theorem dX10_wreck_0 : decode cX10_wreck 0 = .ok (.iload_n 1, 1) := by decide +kernel
theorem dX10_wreck_1 : decode cX10_wreck 1 = .ok (.iconst 0, 1) := by decide +kernel
theorem dX10_wreck_2 : decode cX10_wreck 2 = .ok (.bipush 99, 2) := by decide +kernel
theorem dX10_wreck_4 : decode cX10_wreck 4 = .ok (.invokestatic 79, 3) := by decide +kernel
theorem dX10_wreck_7 : decode cX10_wreck 7 = .ok (.ifCond .eq 6, 3) := by decide +kernel
theorem dX10_wreck_10 : decode cX10_wreck 10 = .ok (.bipush (-102), 2) := by decide +kernel
theorem dX10_wreck_12 : decode cX10_wreck 12 = .ok (.ireturn, 1) := by decide +kernel
theorem dX10_wreck_13 : decode cX10_wreck 13 = .ok (.aload_n 0, 1) := by decide +kernel
theorem dX10_wreck_14 : decode cX10_wreck 14 = .ok (.invokevirtual 115, 3) := by decide +kernel
theorem dX10_wreck_17 : decode cX10_wreck 17 = .ok (.ifCond .ne 6, 3) := by decide +kernel
theorem dX10_wreck_20 : decode cX10_wreck 20 = .ok (.bipush (-103), 2) := by decide +kernel
theorem dX10_wreck_22 : decode cX10_wreck 22 = .ok (.ireturn, 1) := by decide +kernel
theorem dX10_wreck_23 : decode cX10_wreck 23 = .ok (.aload_n 0, 1) := by decide +kernel
theorem dX10_wreck_24 : decode cX10_wreck 24 = .ok (.getfield 40, 3) := by decide +kernel
theorem dX10_wreck_27 : decode cX10_wreck 27 = .ok (.getfield 290, 3) := by decide +kernel
theorem dX10_wreck_30 : decode cX10_wreck 30 = .ok (.bipush 8, 2) := by decide +kernel
theorem dX10_wreck_32 : decode cX10_wreck 32 = .ok (.if_icmp .lt 6, 3) := by decide +kernel
theorem dX10_wreck_35 : decode cX10_wreck 35 = .ok (.bipush (-104), 2) := by decide +kernel
theorem dX10_wreck_37 : decode cX10_wreck 37 = .ok (.ireturn, 1) := by decide +kernel
theorem dX10_wreck_38 : decode cX10_wreck 38 = .ok (.aload_n 0, 1) := by decide +kernel
theorem dX10_wreck_39 : decode cX10_wreck 39 = .ok (.getfield 40, 3) := by decide +kernel
theorem dX10_wreck_42 : decode cX10_wreck 42 = .ok (.iload_n 1, 1) := by decide +kernel
theorem dX10_wreck_43 : decode cX10_wreck 43 = .ok (.invokevirtual 293, 3) := by decide +kernel
theorem dX10_wreck_46 : decode cX10_wreck 46 = .ok (.aload_n 0, 1) := by decide +kernel
theorem dX10_wreck_47 : decode cX10_wreck 47 = .ok (.getfield 40, 3) := by decide +kernel
theorem dX10_wreck_50 : decode cX10_wreck 50 = .ok (.getfield 290, 3) := by decide +kernel
theorem dX10_wreck_53 : decode cX10_wreck 53 = .ok (.ireturn, 1) := by decide +kernel
theorem dX10_stations_0 : decode cX10_stations 0 = .ok (.iload_n 1, 1) := by decide +kernel
theorem dX10_stations_1 : decode cX10_stations 1 = .ok (.iconst 0, 1) := by decide +kernel
theorem dX10_stations_2 : decode cX10_stations 2 = .ok (.bipush 50, 2) := by decide +kernel
theorem dX10_stations_4 : decode cX10_stations 4 = .ok (.invokestatic 79, 3) := by decide +kernel
theorem dX10_stations_7 : decode cX10_stations 7 = .ok (.ifCond .ne 12, 3) := by decide +kernel
theorem dX10_stations_10 : decode cX10_stations 10 = .ok (.iload_n 2, 1) := by decide +kernel
theorem dX10_stations_11 : decode cX10_stations 11 = .ok (.iconst 0, 1) := by decide +kernel
theorem dX10_stations_12 : decode cX10_stations 12 = .ok (.iconst 1, 1) := by decide +kernel
theorem dX10_stations_13 : decode cX10_stations 13 = .ok (.invokestatic 79, 3) := by decide +kernel
theorem dX10_stations_16 : decode cX10_stations 16 = .ok (.ifCond .eq 6, 3) := by decide +kernel
theorem dX10_stations_19 : decode cX10_stations 19 = .ok (.bipush (-102), 2) := by decide +kernel
theorem dX10_stations_21 : decode cX10_stations 21 = .ok (.ireturn, 1) := by decide +kernel
theorem dX10_stations_22 : decode cX10_stations 22 = .ok (.iload_n 2, 1) := by decide +kernel
theorem dX10_stations_23 : decode cX10_stations 23 = .ok (.ifCond .ne 14, 3) := by decide +kernel
theorem dX10_stations_26 : decode cX10_stations 26 = .ok (.aload_n 0, 1) := by decide +kernel
theorem dX10_stations_27 : decode cX10_stations 27 = .ok (.getfield 40, 3) := by decide +kernel
theorem dX10_stations_30 : decode cX10_stations 30 = .ok (.iload_n 1, 1) := by decide +kernel
theorem dX10_stations_31 : decode cX10_stations 31 = .ok (.invokevirtual 296, 3) := by decide +kernel
theorem dX10_stations_34 : decode cX10_stations 34 = .ok (.goto 11, 3) := by decide +kernel
theorem dX10_stations_37 : decode cX10_stations 37 = .ok (.aload_n 0, 1) := by decide +kernel
theorem dX10_stations_38 : decode cX10_stations 38 = .ok (.getfield 40, 3) := by decide +kernel
theorem dX10_stations_41 : decode cX10_stations 41 = .ok (.iload_n 1, 1) := by decide +kernel
theorem dX10_stations_42 : decode cX10_stations 42 = .ok (.invokevirtual 299, 3) := by decide +kernel
theorem dX10_stations_45 : decode cX10_stations 45 = .ok (.ireturn, 1) := by decide +kernel
theorem dX10_nights_0 : decode cX10_nights 0 = .ok (.iload_n 1, 1) := by decide +kernel
theorem dX10_nights_1 : decode cX10_nights 1 = .ok (.ifCond .lt 12, 3) := by decide +kernel
theorem dX10_nights_4 : decode cX10_nights 4 = .ok (.iload_n 2, 1) := by decide +kernel
theorem dX10_nights_5 : decode cX10_nights 5 = .ok (.iconst 0, 1) := by decide +kernel
theorem dX10_nights_6 : decode cX10_nights 6 = .ok (.iconst 3, 1) := by decide +kernel
theorem dX10_nights_7 : decode cX10_nights 7 = .ok (.invokestatic 79, 3) := by decide +kernel
theorem dX10_nights_10 : decode cX10_nights 10 = .ok (.ifCond .eq 6, 3) := by decide +kernel
theorem dX10_nights_13 : decode cX10_nights 13 = .ok (.bipush (-102), 2) := by decide +kernel
theorem dX10_nights_15 : decode cX10_nights 15 = .ok (.ireturn, 1) := by decide +kernel
theorem dX10_nights_16 : decode cX10_nights 16 = .ok (.aload_n 0, 1) := by decide +kernel
theorem dX10_nights_17 : decode cX10_nights 17 = .ok (.invokevirtual 244, 3) := by decide +kernel
theorem dX10_nights_20 : decode cX10_nights 20 = .ok (.ifCond .ne 6, 3) := by decide +kernel
theorem dX10_nights_23 : decode cX10_nights 23 = .ok (.bipush (-103), 2) := by decide +kernel
theorem dX10_nights_25 : decode cX10_nights 25 = .ok (.ireturn, 1) := by decide +kernel
theorem dX10_nights_26 : decode cX10_nights 26 = .ok (.aload_n 0, 1) := by decide +kernel
theorem dX10_nights_27 : decode cX10_nights 27 = .ok (.getfield 75, 3) := by decide +kernel
theorem dX10_nights_30 : decode cX10_nights 30 = .ok (.aload_n 0, 1) := by decide +kernel
theorem dX10_nights_31 : decode cX10_nights 31 = .ok (.getfield 19, 3) := by decide +kernel
theorem dX10_nights_34 : decode cX10_nights 34 = .ok (.aload_n 0, 1) := by decide +kernel
theorem dX10_nights_35 : decode cX10_nights 35 = .ok (.getfield 26, 3) := by decide +kernel
theorem dX10_nights_38 : decode cX10_nights 38 = .ok (.aload_n 0, 1) := by decide +kernel
theorem dX10_nights_39 : decode cX10_nights 39 = .ok (.getfield 40, 3) := by decide +kernel
theorem dX10_nights_42 : decode cX10_nights 42 = .ok (.iload_n 1, 1) := by decide +kernel
theorem dX10_nights_43 : decode cX10_nights 43 = .ok (.invokevirtual 302, 3) := by decide +kernel
theorem dX10_nights_46 : decode cX10_nights 46 = .ok (.iload_n 2, 1) := by decide +kernel
theorem dX10_nights_47 : decode cX10_nights 47 = .ok (.tableswitch 55 0 2 #[25, 36, 44], 25) := by decide +kernel
theorem dX10_nights_72 : decode cX10_nights 72 = .ok (.aload_n 0, 1) := by decide +kernel
theorem dX10_nights_73 : decode cX10_nights 73 = .ok (.getfield 75, 3) := by decide +kernel
theorem dX10_nights_76 : decode cX10_nights 76 = .ok (.getfield 305, 3) := by decide +kernel
theorem dX10_nights_79 : decode cX10_nights 79 = .ok (.invokestatic 214, 3) := by decide +kernel
theorem dX10_nights_82 : decode cX10_nights 82 = .ok (.ireturn, 1) := by decide +kernel
theorem dX10_nights_83 : decode cX10_nights 83 = .ok (.aload_n 0, 1) := by decide +kernel
theorem dX10_nights_84 : decode cX10_nights 84 = .ok (.getfield 75, 3) := by decide +kernel
theorem dX10_nights_87 : decode cX10_nights 87 = .ok (.getfield 306, 3) := by decide +kernel
theorem dX10_nights_90 : decode cX10_nights 90 = .ok (.ireturn, 1) := by decide +kernel
theorem dX10_nights_91 : decode cX10_nights 91 = .ok (.aload_n 0, 1) := by decide +kernel
theorem dX10_nights_92 : decode cX10_nights 92 = .ok (.getfield 75, 3) := by decide +kernel
theorem dX10_nights_95 : decode cX10_nights 95 = .ok (.getfield 309, 3) := by decide +kernel
theorem dX10_nights_98 : decode cX10_nights 98 = .ok (.invokestatic 214, 3) := by decide +kernel
theorem dX10_nights_101 : decode cX10_nights 101 = .ok (.ireturn, 1) := by decide +kernel
theorem dX10_nights_102 : decode cX10_nights 102 = .ok (.aload_n 0, 1) := by decide +kernel
theorem dX10_nights_103 : decode cX10_nights 103 = .ok (.getfield 75, 3) := by decide +kernel
theorem dX10_nights_106 : decode cX10_nights 106 = .ok (.getfield 310, 3) := by decide +kernel
theorem dX10_nights_109 : decode cX10_nights 109 = .ok (.l2i, 1) := by decide +kernel
theorem dX10_nights_110 : decode cX10_nights 110 = .ok (.ireturn, 1) := by decide +kernel
theorem dX10_image_0 : decode cX10_image 0 = .ok (.aload_n 0, 1) := by decide +kernel
theorem dX10_image_1 : decode cX10_image 1 = .ok (.invokevirtual 115, 3) := by decide +kernel
theorem dX10_image_4 : decode cX10_image 4 = .ok (.ifCond .ne 6, 3) := by decide +kernel
theorem dX10_image_7 : decode cX10_image 7 = .ok (.bipush (-103), 2) := by decide +kernel
theorem dX10_image_9 : decode cX10_image 9 = .ok (.ireturn, 1) := by decide +kernel
theorem dX10_image_10 : decode cX10_image 10 = .ok (.aload_n 0, 1) := by decide +kernel
theorem dX10_image_11 : decode cX10_image 11 = .ok (.getfield 47, 3) := by decide +kernel
theorem dX10_image_14 : decode cX10_image 14 = .ok (.getfield 313, 3) := by decide +kernel
theorem dX10_image_17 : decode cX10_image 17 = .ok (.aload_n 0, 1) := by decide +kernel
theorem dX10_image_18 : decode cX10_image 18 = .ok (.getfield 40, 3) := by decide +kernel
theorem dX10_image_21 : decode cX10_image 21 = .ok (.invokevirtual 316, 3) := by decide +kernel
theorem dX10_image_24 : decode cX10_image 24 = .ok (.aload_n 0, 1) := by decide +kernel
theorem dX10_image_25 : decode cX10_image 25 = .ok (.getfield 47, 3) := by decide +kernel
theorem dX10_image_28 : decode cX10_image 28 = .ok (.aload_n 0, 1) := by decide +kernel
theorem dX10_image_29 : decode cX10_image 29 = .ok (.getfield 109, 3) := by decide +kernel
theorem dX10_image_32 : decode cX10_image 32 = .ok (.putfield 320, 3) := by decide +kernel
theorem dX10_image_35 : decode cX10_image 35 = .ok (.aload_n 0, 1) := by decide +kernel
theorem dX10_image_36 : decode cX10_image 36 = .ok (.getfield 47, 3) := by decide +kernel
theorem dX10_image_39 : decode cX10_image 39 = .ok (.aload_n 0, 1) := by decide +kernel
theorem dX10_image_40 : decode cX10_image 40 = .ok (.getfield 26, 3) := by decide +kernel
theorem dX10_image_43 : decode cX10_image 43 = .ok (.getfield 122, 3) := by decide +kernel
theorem dX10_image_46 : decode cX10_image 46 = .ok (.putfield 323, 3) := by decide +kernel
theorem dX10_image_49 : decode cX10_image 49 = .ok (.aload_n 0, 1) := by decide +kernel
theorem dX10_image_50 : decode cX10_image 50 = .ok (.getfield 47, 3) := by decide +kernel
theorem dX10_image_53 : decode cX10_image 53 = .ok (.aload_n 0, 1) := by decide +kernel
theorem dX10_image_54 : decode cX10_image 54 = .ok (.getfield 33, 3) := by decide +kernel
theorem dX10_image_57 : decode cX10_image 57 = .ok (.getfield 192, 3) := by decide +kernel
theorem dX10_image_60 : decode cX10_image 60 = .ok (.putfield 325, 3) := by decide +kernel
theorem dX10_image_63 : decode cX10_image 63 = .ok (.aload_n 0, 1) := by decide +kernel
theorem dX10_image_64 : decode cX10_image 64 = .ok (.getfield 40, 3) := by decide +kernel
theorem dX10_image_67 : decode cX10_image 67 = .ok (.getfield 241, 3) := by decide +kernel
theorem dX10_image_70 : decode cX10_image 70 = .ok (.ireturn, 1) := by decide +kernel
theorem dX10_restore_0 : decode cX10_restore 0 = .ok (.aload_n 0, 1) := by decide +kernel
theorem dX10_restore_1 : decode cX10_restore 1 = .ok (.invokevirtual 115, 3) := by decide +kernel
theorem dX10_restore_4 : decode cX10_restore 4 = .ok (.ifCond .eq 51, 3) := by decide +kernel
theorem dX10_restore_7 : decode cX10_restore 7 = .ok (.aload_n 0, 1) := by decide +kernel
theorem dX10_restore_8 : decode cX10_restore 8 = .ok (.getfield 47, 3) := by decide +kernel
theorem dX10_restore_11 : decode cX10_restore 11 = .ok (.getfield 320, 3) := by decide +kernel
theorem dX10_restore_14 : decode cX10_restore 14 = .ok (.aload_n 0, 1) := by decide +kernel
theorem dX10_restore_15 : decode cX10_restore 15 = .ok (.getfield 109, 3) := by decide +kernel
theorem dX10_restore_18 : decode cX10_restore 18 = .ok (.if_icmp .ne 37, 3) := by decide +kernel
theorem dX10_restore_21 : decode cX10_restore 21 = .ok (.aload_n 0, 1) := by decide +kernel
theorem dX10_restore_22 : decode cX10_restore 22 = .ok (.getfield 47, 3) := by decide +kernel
theorem dX10_restore_25 : decode cX10_restore 25 = .ok (.getfield 323, 3) := by decide +kernel
theorem dX10_restore_28 : decode cX10_restore 28 = .ok (.aload_n 0, 1) := by decide +kernel
theorem dX10_restore_29 : decode cX10_restore 29 = .ok (.getfield 26, 3) := by decide +kernel
theorem dX10_restore_32 : decode cX10_restore 32 = .ok (.getfield 122, 3) := by decide +kernel
theorem dX10_restore_35 : decode cX10_restore 35 = .ok (.if_icmp .ne 20, 3) := by decide +kernel
theorem dX10_restore_38 : decode cX10_restore 38 = .ok (.aload_n 0, 1) := by decide +kernel
theorem dX10_restore_39 : decode cX10_restore 39 = .ok (.getfield 47, 3) := by decide +kernel
theorem dX10_restore_42 : decode cX10_restore 42 = .ok (.getfield 325, 3) := by decide +kernel
theorem dX10_restore_45 : decode cX10_restore 45 = .ok (.aload_n 0, 1) := by decide +kernel
theorem dX10_restore_46 : decode cX10_restore 46 = .ok (.getfield 33, 3) := by decide +kernel
theorem dX10_restore_49 : decode cX10_restore 49 = .ok (.getfield 192, 3) := by decide +kernel
theorem dX10_restore_52 : decode cX10_restore 52 = .ok (.if_icmp .eq 6, 3) := by decide +kernel
theorem dX10_restore_55 : decode cX10_restore 55 = .ok (.bipush (-103), 2) := by decide +kernel
theorem dX10_restore_57 : decode cX10_restore 57 = .ok (.ireturn, 1) := by decide +kernel
theorem dX10_restore_58 : decode cX10_restore 58 = .ok (.aload_n 0, 1) := by decide +kernel
theorem dX10_restore_59 : decode cX10_restore 59 = .ok (.getfield 40, 3) := by decide +kernel
theorem dX10_restore_62 : decode cX10_restore 62 = .ok (.aload_n 0, 1) := by decide +kernel
theorem dX10_restore_63 : decode cX10_restore 63 = .ok (.getfield 47, 3) := by decide +kernel
theorem dX10_restore_66 : decode cX10_restore 66 = .ok (.getfield 313, 3) := by decide +kernel
theorem dX10_restore_69 : decode cX10_restore 69 = .ok (.invokevirtual 316, 3) := by decide +kernel
theorem dX10_restore_72 : decode cX10_restore 72 = .ok (.aload_n 0, 1) := by decide +kernel
theorem dX10_restore_73 : decode cX10_restore 73 = .ok (.getfield 40, 3) := by decide +kernel
theorem dX10_restore_76 : decode cX10_restore 76 = .ok (.getfield 241, 3) := by decide +kernel
theorem dX10_restore_79 : decode cX10_restore 79 = .ok (.ireturn, 1) := by decide +kernel
theorem dX10_count_0 : decode cX10_count 0 = .ok (.iload_n 1, 1) := by decide +kernel
theorem dX10_count_1 : decode cX10_count 1 = .ok (.tableswitch 189 0 13 #[71, 79, 90, 98, 109, 117, 128, 139, 147, 155, 163, 171, 179, 184], 71) := by decide +kernel
theorem dX10_count_72 : decode cX10_count 72 = .ok (.aload_n 0, 1) := by decide +kernel
theorem dX10_count_73 : decode cX10_count 73 = .ok (.getfield 26, 3) := by decide +kernel
theorem dX10_count_76 : decode cX10_count 76 = .ok (.getfield 122, 3) := by decide +kernel
theorem dX10_count_79 : decode cX10_count 79 = .ok (.ireturn, 1) := by decide +kernel
theorem dX10_count_80 : decode cX10_count 80 = .ok (.aload_n 0, 1) := by decide +kernel
theorem dX10_count_81 : decode cX10_count 81 = .ok (.getfield 40, 3) := by decide +kernel
theorem dX10_count_84 : decode cX10_count 84 = .ok (.getfield 132, 3) := by decide +kernel
theorem dX10_count_87 : decode cX10_count 87 = .ok (.invokestatic 250, 3) := by decide +kernel
theorem dX10_count_90 : decode cX10_count 90 = .ok (.ireturn, 1) := by decide +kernel
theorem dX10_count_91 : decode cX10_count 91 = .ok (.aload_n 0, 1) := by decide +kernel
theorem dX10_count_92 : decode cX10_count 92 = .ok (.getfield 33, 3) := by decide +kernel
theorem dX10_count_95 : decode cX10_count 95 = .ok (.getfield 192, 3) := by decide +kernel
theorem dX10_count_98 : decode cX10_count 98 = .ok (.ireturn, 1) := by decide +kernel
theorem dX10_count_99 : decode cX10_count 99 = .ok (.aload_n 0, 1) := by decide +kernel
theorem dX10_count_100 : decode cX10_count 100 = .ok (.getfield 40, 3) := by decide +kernel
theorem dX10_count_103 : decode cX10_count 103 = .ok (.getfield 218, 3) := by decide +kernel
theorem dX10_count_106 : decode cX10_count 106 = .ok (.invokestatic 250, 3) := by decide +kernel
theorem dX10_count_109 : decode cX10_count 109 = .ok (.ireturn, 1) := by decide +kernel
theorem dX10_count_110 : decode cX10_count 110 = .ok (.aload_n 0, 1) := by decide +kernel
theorem dX10_count_111 : decode cX10_count 111 = .ok (.getfield 40, 3) := by decide +kernel
theorem dX10_count_114 : decode cX10_count 114 = .ok (.getfield 241, 3) := by decide +kernel
theorem dX10_count_117 : decode cX10_count 117 = .ok (.ireturn, 1) := by decide +kernel
theorem dX10_count_118 : decode cX10_count 118 = .ok (.aload_n 0, 1) := by decide +kernel
theorem dX10_count_119 : decode cX10_count 119 = .ok (.getfield 40, 3) := by decide +kernel
theorem dX10_count_122 : decode cX10_count 122 = .ok (.getfield 156, 3) := by decide +kernel
theorem dX10_count_125 : decode cX10_count 125 = .ok (.invokestatic 214, 3) := by decide +kernel
theorem dX10_count_128 : decode cX10_count 128 = .ok (.ireturn, 1) := by decide +kernel
theorem dX10_count_129 : decode cX10_count 129 = .ok (.aload_n 0, 1) := by decide +kernel
theorem dX10_count_130 : decode cX10_count 130 = .ok (.getfield 40, 3) := by decide +kernel
theorem dX10_count_133 : decode cX10_count 133 = .ok (.getfield 139, 3) := by decide +kernel
theorem dX10_count_136 : decode cX10_count 136 = .ok (.invokestatic 214, 3) := by decide +kernel
theorem dX10_count_139 : decode cX10_count 139 = .ok (.ireturn, 1) := by decide +kernel
theorem dX10_count_140 : decode cX10_count 140 = .ok (.aload_n 0, 1) := by decide +kernel
theorem dX10_count_141 : decode cX10_count 141 = .ok (.getfield 19, 3) := by decide +kernel
theorem dX10_count_144 : decode cX10_count 144 = .ok (.getfield 112, 3) := by decide +kernel
theorem dX10_count_147 : decode cX10_count 147 = .ok (.ireturn, 1) := by decide +kernel
theorem dX10_count_148 : decode cX10_count 148 = .ok (.aload_n 0, 1) := by decide +kernel
theorem dX10_count_149 : decode cX10_count 149 = .ok (.getfield 40, 3) := by decide +kernel
theorem dX10_count_152 : decode cX10_count 152 = .ok (.getfield 204, 3) := by decide +kernel
theorem dX10_count_155 : decode cX10_count 155 = .ok (.ireturn, 1) := by decide +kernel
theorem dX10_count_156 : decode cX10_count 156 = .ok (.aload_n 0, 1) := by decide +kernel
theorem dX10_count_157 : decode cX10_count 157 = .ok (.getfield 40, 3) := by decide +kernel
theorem dX10_count_160 : decode cX10_count 160 = .ok (.getfield 275, 3) := by decide +kernel
theorem dX10_count_163 : decode cX10_count 163 = .ok (.ireturn, 1) := by decide +kernel
theorem dX10_count_164 : decode cX10_count 164 = .ok (.aload_n 0, 1) := by decide +kernel
theorem dX10_count_165 : decode cX10_count 165 = .ok (.getfield 40, 3) := by decide +kernel
theorem dX10_count_168 : decode cX10_count 168 = .ok (.getfield 290, 3) := by decide +kernel
theorem dX10_count_171 : decode cX10_count 171 = .ok (.ireturn, 1) := by decide +kernel
theorem dX10_count_172 : decode cX10_count 172 = .ok (.aload_n 0, 1) := by decide +kernel
theorem dX10_count_173 : decode cX10_count 173 = .ok (.getfield 10, 3) := by decide +kernel
theorem dX10_count_176 : decode cX10_count 176 = .ok (.getfield 83, 3) := by decide +kernel
theorem dX10_count_179 : decode cX10_count 179 = .ok (.ireturn, 1) := by decide +kernel
theorem dX10_count_180 : decode cX10_count 180 = .ok (.aload_n 0, 1) := by decide +kernel
theorem dX10_count_181 : decode cX10_count 181 = .ok (.getfield 109, 3) := by decide +kernel
theorem dX10_count_184 : decode cX10_count 184 = .ok (.ireturn, 1) := by decide +kernel
theorem dX10_count_185 : decode cX10_count 185 = .ok (.aload_n 0, 1) := by decide +kernel
theorem dX10_count_186 : decode cX10_count 186 = .ok (.getfield 255, 3) := by decide +kernel
theorem dX10_count_189 : decode cX10_count 189 = .ok (.ireturn, 1) := by decide +kernel
theorem dX10_count_190 : decode cX10_count 190 = .ok (.bipush (-102), 2) := by decide +kernel
theorem dX10_count_192 : decode cX10_count 192 = .ok (.ireturn, 1) := by decide +kernel
theorem dX10_digest_0 : decode cX10_digest 0 = .ok (.ldc2_w 328, 3) := by decide +kernel
theorem dX10_digest_3 : decode cX10_digest 3 = .ok (.lstore_n 1, 1) := by decide +kernel
theorem dX10_digest_4 : decode cX10_digest 4 = .ok (.aload_n 0, 1) := by decide +kernel
theorem dX10_digest_5 : decode cX10_digest 5 = .ok (.invokevirtual 115, 3) := by decide +kernel
theorem dX10_digest_8 : decode cX10_digest 8 = .ok (.ifCond .eq 9, 3) := by decide +kernel
theorem dX10_digest_11 : decode cX10_digest 11 = .ok (.aload_n 0, 1) := by decide +kernel
theorem dX10_digest_12 : decode cX10_digest 12 = .ok (.lload_n 1, 1) := by decide +kernel
theorem dX10_digest_13 : decode cX10_digest 13 = .ok (.invokevirtual 330, 3) := by decide +kernel
theorem dX10_digest_16 : decode cX10_digest 16 = .ok (.lstore_n 1, 1) := by decide +kernel
theorem dX10_digest_17 : decode cX10_digest 17 = .ok (.iconst 0, 1) := by decide +kernel
theorem dX10_digest_18 : decode cX10_digest 18 = .ok (.istore_n 3, 1) := by decide +kernel
theorem dX10_digest_19 : decode cX10_digest 19 = .ok (.iload_n 3, 1) := by decide +kernel
theorem dX10_digest_20 : decode cX10_digest 20 = .ok (.aload_n 0, 1) := by decide +kernel
theorem dX10_digest_21 : decode cX10_digest 21 = .ok (.getfield 26, 3) := by decide +kernel
theorem dX10_digest_24 : decode cX10_digest 24 = .ok (.getfield 122, 3) := by decide +kernel
theorem dX10_digest_27 : decode cX10_digest 27 = .ok (.if_icmp .ge 33, 3) := by decide +kernel
theorem dX10_digest_30 : decode cX10_digest 30 = .ok (.lload_n 1, 1) := by decide +kernel
theorem dX10_digest_31 : decode cX10_digest 31 = .ok (.aload_n 0, 1) := by decide +kernel
theorem dX10_digest_32 : decode cX10_digest 32 = .ok (.iload_n 3, 1) := by decide +kernel
theorem dX10_digest_33 : decode cX10_digest 33 = .ok (.iconst 0, 1) := by decide +kernel
theorem dX10_digest_34 : decode cX10_digest 34 = .ok (.iconst 0, 1) := by decide +kernel
theorem dX10_digest_35 : decode cX10_digest 35 = .ok (.invokevirtual 334, 3) := by decide +kernel
theorem dX10_digest_38 : decode cX10_digest 38 = .ok (.invokestatic 338, 3) := by decide +kernel
theorem dX10_digest_41 : decode cX10_digest 41 = .ok (.lstore_n 1, 1) := by decide +kernel
theorem dX10_digest_42 : decode cX10_digest 42 = .ok (.lload_n 1, 1) := by decide +kernel
theorem dX10_digest_43 : decode cX10_digest 43 = .ok (.aload_n 0, 1) := by decide +kernel
theorem dX10_digest_44 : decode cX10_digest 44 = .ok (.iload_n 3, 1) := by decide +kernel
theorem dX10_digest_45 : decode cX10_digest 45 = .ok (.iconst 0, 1) := by decide +kernel
theorem dX10_digest_46 : decode cX10_digest 46 = .ok (.iconst 1, 1) := by decide +kernel
theorem dX10_digest_47 : decode cX10_digest 47 = .ok (.invokevirtual 334, 3) := by decide +kernel
theorem dX10_digest_50 : decode cX10_digest 50 = .ok (.invokestatic 338, 3) := by decide +kernel
theorem dX10_digest_53 : decode cX10_digest 53 = .ok (.lstore_n 1, 1) := by decide +kernel
theorem dX10_digest_54 : decode cX10_digest 54 = .ok (.iinc 3 1, 3) := by decide +kernel
theorem dX10_digest_57 : decode cX10_digest 57 = .ok (.goto (-38), 3) := by decide +kernel
theorem dX10_digest_60 : decode cX10_digest 60 = .ok (.iconst 0, 1) := by decide +kernel
theorem dX10_digest_61 : decode cX10_digest 61 = .ok (.istore_n 3, 1) := by decide +kernel
theorem dX10_digest_62 : decode cX10_digest 62 = .ok (.iload_n 3, 1) := by decide +kernel
theorem dX10_digest_63 : decode cX10_digest 63 = .ok (.aload_n 0, 1) := by decide +kernel
theorem dX10_digest_64 : decode cX10_digest 64 = .ok (.getfield 33, 3) := by decide +kernel
theorem dX10_digest_67 : decode cX10_digest 67 = .ok (.getfield 192, 3) := by decide +kernel
theorem dX10_digest_70 : decode cX10_digest 70 = .ok (.if_icmp .ge 38, 3) := by decide +kernel
theorem dX10_digest_73 : decode cX10_digest 73 = .ok (.iconst 0, 1) := by decide +kernel
theorem dX10_digest_74 : decode cX10_digest 74 = .ok (.istore 4, 2) := by decide +kernel
theorem dX10_digest_76 : decode cX10_digest 76 = .ok (.iload 4, 2) := by decide +kernel
theorem dX10_digest_78 : decode cX10_digest 78 = .ok (.bipush 6, 2) := by decide +kernel
theorem dX10_digest_80 : decode cX10_digest 80 = .ok (.if_icmp .gt 22, 3) := by decide +kernel
theorem dX10_digest_83 : decode cX10_digest 83 = .ok (.lload_n 1, 1) := by decide +kernel
theorem dX10_digest_84 : decode cX10_digest 84 = .ok (.aload_n 0, 1) := by decide +kernel
theorem dX10_digest_85 : decode cX10_digest 85 = .ok (.iload_n 3, 1) := by decide +kernel
theorem dX10_digest_86 : decode cX10_digest 86 = .ok (.iload 4, 2) := by decide +kernel
theorem dX10_digest_88 : decode cX10_digest 88 = .ok (.invokevirtual 342, 3) := by decide +kernel
theorem dX10_digest_91 : decode cX10_digest 91 = .ok (.i2l, 1) := by decide +kernel
theorem dX10_digest_92 : decode cX10_digest 92 = .ok (.invokestatic 338, 3) := by decide +kernel
theorem dX10_digest_95 : decode cX10_digest 95 = .ok (.lstore_n 1, 1) := by decide +kernel
theorem dX10_digest_96 : decode cX10_digest 96 = .ok (.iinc 4 1, 3) := by decide +kernel
theorem dX10_digest_99 : decode cX10_digest 99 = .ok (.goto (-23), 3) := by decide +kernel
theorem dX10_digest_102 : decode cX10_digest 102 = .ok (.iinc 3 1, 3) := by decide +kernel
theorem dX10_digest_105 : decode cX10_digest 105 = .ok (.goto (-43), 3) := by decide +kernel
theorem dX10_digest_108 : decode cX10_digest 108 = .ok (.lload_n 1, 1) := by decide +kernel
theorem dX10_digest_109 : decode cX10_digest 109 = .ok (.aload_n 0, 1) := by decide +kernel
theorem dX10_digest_110 : decode cX10_digest 110 = .ok (.invokevirtual 345, 3) := by decide +kernel
theorem dX10_digest_113 : decode cX10_digest 113 = .ok (.i2l, 1) := by decide +kernel
theorem dX10_digest_114 : decode cX10_digest 114 = .ok (.invokestatic 338, 3) := by decide +kernel
theorem dX10_digest_117 : decode cX10_digest 117 = .ok (.lstore_n 1, 1) := by decide +kernel
theorem dX10_digest_118 : decode cX10_digest 118 = .ok (.aload_n 0, 1) := by decide +kernel
theorem dX10_digest_119 : decode cX10_digest 119 = .ok (.getfield 40, 3) := by decide +kernel
theorem dX10_digest_122 : decode cX10_digest 122 = .ok (.getfield 290, 3) := by decide +kernel
theorem dX10_digest_125 : decode cX10_digest 125 = .ok (.ifCond .le 29, 3) := by decide +kernel
theorem dX10_digest_128 : decode cX10_digest 128 = .ok (.lload_n 1, 1) := by decide +kernel
theorem dX10_digest_129 : decode cX10_digest 129 = .ok (.aload_n 0, 1) := by decide +kernel
theorem dX10_digest_130 : decode cX10_digest 130 = .ok (.bipush 10, 2) := by decide +kernel
theorem dX10_digest_132 : decode cX10_digest 132 = .ok (.iconst 0, 1) := by decide +kernel
theorem dX10_digest_133 : decode cX10_digest 133 = .ok (.invokevirtual 348, 3) := by decide +kernel
theorem dX10_digest_136 : decode cX10_digest 136 = .ok (.i2l, 1) := by decide +kernel
theorem dX10_digest_137 : decode cX10_digest 137 = .ok (.invokestatic 338, 3) := by decide +kernel
theorem dX10_digest_140 : decode cX10_digest 140 = .ok (.lstore_n 1, 1) := by decide +kernel
theorem dX10_digest_141 : decode cX10_digest 141 = .ok (.lload_n 1, 1) := by decide +kernel
theorem dX10_digest_142 : decode cX10_digest 142 = .ok (.aload_n 0, 1) := by decide +kernel
theorem dX10_digest_143 : decode cX10_digest 143 = .ok (.bipush 10, 2) := by decide +kernel
theorem dX10_digest_145 : decode cX10_digest 145 = .ok (.iconst 1, 1) := by decide +kernel
theorem dX10_digest_146 : decode cX10_digest 146 = .ok (.invokevirtual 348, 3) := by decide +kernel
theorem dX10_digest_149 : decode cX10_digest 149 = .ok (.i2l, 1) := by decide +kernel
theorem dX10_digest_150 : decode cX10_digest 150 = .ok (.invokestatic 338, 3) := by decide +kernel
theorem dX10_digest_153 : decode cX10_digest 153 = .ok (.lstore_n 1, 1) := by decide +kernel
theorem dX10_digest_154 : decode cX10_digest 154 = .ok (.iconst 0, 1) := by decide +kernel
theorem dX10_digest_155 : decode cX10_digest 155 = .ok (.istore_n 3, 1) := by decide +kernel
theorem dX10_digest_156 : decode cX10_digest 156 = .ok (.iload_n 3, 1) := by decide +kernel
theorem dX10_digest_157 : decode cX10_digest 157 = .ok (.aload_n 0, 1) := by decide +kernel
theorem dX10_digest_158 : decode cX10_digest 158 = .ok (.getfield 10, 3) := by decide +kernel
theorem dX10_digest_161 : decode cX10_digest 161 = .ok (.getfield 83, 3) := by decide +kernel
theorem dX10_digest_164 : decode cX10_digest 164 = .ok (.if_icmp .ge 23, 3) := by decide +kernel
theorem dX10_digest_167 : decode cX10_digest 167 = .ok (.lload_n 1, 1) := by decide +kernel
theorem dX10_digest_168 : decode cX10_digest 168 = .ok (.aload_n 0, 1) := by decide +kernel
theorem dX10_digest_169 : decode cX10_digest 169 = .ok (.getfield 10, 3) := by decide +kernel
theorem dX10_digest_172 : decode cX10_digest 172 = .ok (.iload_n 3, 1) := by decide +kernel
theorem dX10_digest_173 : decode cX10_digest 173 = .ok (.invokevirtual 351, 3) := by decide +kernel
theorem dX10_digest_176 : decode cX10_digest 176 = .ok (.i2l, 1) := by decide +kernel
theorem dX10_digest_177 : decode cX10_digest 177 = .ok (.invokestatic 338, 3) := by decide +kernel
theorem dX10_digest_180 : decode cX10_digest 180 = .ok (.lstore_n 1, 1) := by decide +kernel
theorem dX10_digest_181 : decode cX10_digest 181 = .ok (.iinc 3 1, 3) := by decide +kernel
theorem dX10_digest_184 : decode cX10_digest 184 = .ok (.goto (-28), 3) := by decide +kernel
theorem dX10_digest_187 : decode cX10_digest 187 = .ok (.iconst 0, 1) := by decide +kernel
theorem dX10_digest_188 : decode cX10_digest 188 = .ok (.istore_n 3, 1) := by decide +kernel
theorem dX10_digest_189 : decode cX10_digest 189 = .ok (.iload_n 3, 1) := by decide +kernel
theorem dX10_digest_190 : decode cX10_digest 190 = .ok (.bipush 13, 2) := by decide +kernel
theorem dX10_digest_192 : decode cX10_digest 192 = .ok (.if_icmp .gt 20, 3) := by decide +kernel
theorem dX10_digest_195 : decode cX10_digest 195 = .ok (.lload_n 1, 1) := by decide +kernel
theorem dX10_digest_196 : decode cX10_digest 196 = .ok (.aload_n 0, 1) := by decide +kernel
theorem dX10_digest_197 : decode cX10_digest 197 = .ok (.iload_n 3, 1) := by decide +kernel
theorem dX10_digest_198 : decode cX10_digest 198 = .ok (.invokevirtual 354, 3) := by decide +kernel
theorem dX10_digest_201 : decode cX10_digest 201 = .ok (.i2l, 1) := by decide +kernel
theorem dX10_digest_202 : decode cX10_digest 202 = .ok (.invokestatic 338, 3) := by decide +kernel
theorem dX10_digest_205 : decode cX10_digest 205 = .ok (.lstore_n 1, 1) := by decide +kernel
theorem dX10_digest_206 : decode cX10_digest 206 = .ok (.iinc 3 1, 3) := by decide +kernel
theorem dX10_digest_209 : decode cX10_digest 209 = .ok (.goto (-20), 3) := by decide +kernel
theorem dX10_digest_212 : decode cX10_digest 212 = .ok (.lload_n 1, 1) := by decide +kernel
end
section
theorem dX10_digest_213 : decode cX10_digest 213 = .ok (.lreturn, 1) := by decide +kernel
theorem dX10_mixSea_0 : decode cX10_mixSea 0 = .ok (.lload_n 1, 1) := by decide +kernel
theorem dX10_mixSea_1 : decode cX10_mixSea 1 = .ok (.lstore_n 3, 1) := by decide +kernel
theorem dX10_mixSea_2 : decode cX10_mixSea 2 = .ok (.iconst 0, 1) := by decide +kernel
theorem dX10_mixSea_3 : decode cX10_mixSea 3 = .ok (.istore 5, 2) := by decide +kernel
theorem dX10_mixSea_5 : decode cX10_mixSea 5 = .ok (.iload 5, 2) := by decide +kernel
theorem dX10_mixSea_7 : decode cX10_mixSea 7 = .ok (.iconst 4, 1) := by decide +kernel
theorem dX10_mixSea_8 : decode cX10_mixSea 8 = .ok (.if_icmp .gt 21, 3) := by decide +kernel
theorem dX10_mixSea_11 : decode cX10_mixSea 11 = .ok (.lload_n 3, 1) := by decide +kernel
theorem dX10_mixSea_12 : decode cX10_mixSea 12 = .ok (.aload_n 0, 1) := by decide +kernel
theorem dX10_mixSea_13 : decode cX10_mixSea 13 = .ok (.iload 5, 2) := by decide +kernel
theorem dX10_mixSea_15 : decode cX10_mixSea 15 = .ok (.invokevirtual 357, 3) := by decide +kernel
theorem dX10_mixSea_18 : decode cX10_mixSea 18 = .ok (.i2l, 1) := by decide +kernel
theorem dX10_mixSea_19 : decode cX10_mixSea 19 = .ok (.invokestatic 338, 3) := by decide +kernel
theorem dX10_mixSea_22 : decode cX10_mixSea 22 = .ok (.lstore_n 3, 1) := by decide +kernel
theorem dX10_mixSea_23 : decode cX10_mixSea 23 = .ok (.iinc 5 1, 3) := by decide +kernel
theorem dX10_mixSea_26 : decode cX10_mixSea 26 = .ok (.goto (-21), 3) := by decide +kernel
theorem dX10_mixSea_29 : decode cX10_mixSea 29 = .ok (.bipush 10, 2) := by decide +kernel
theorem dX10_mixSea_31 : decode cX10_mixSea 31 = .ok (.istore 5, 2) := by decide +kernel
theorem dX10_mixSea_33 : decode cX10_mixSea 33 = .ok (.iload 5, 2) := by decide +kernel
theorem dX10_mixSea_35 : decode cX10_mixSea 35 = .ok (.bipush 19, 2) := by decide +kernel
theorem dX10_mixSea_37 : decode cX10_mixSea 37 = .ok (.if_icmp .gt 21, 3) := by decide +kernel
theorem dX10_mixSea_40 : decode cX10_mixSea 40 = .ok (.lload_n 3, 1) := by decide +kernel
theorem dX10_mixSea_41 : decode cX10_mixSea 41 = .ok (.aload_n 0, 1) := by decide +kernel
theorem dX10_mixSea_42 : decode cX10_mixSea 42 = .ok (.iload 5, 2) := by decide +kernel
theorem dX10_mixSea_44 : decode cX10_mixSea 44 = .ok (.invokevirtual 357, 3) := by decide +kernel
theorem dX10_mixSea_47 : decode cX10_mixSea 47 = .ok (.i2l, 1) := by decide +kernel
theorem dX10_mixSea_48 : decode cX10_mixSea 48 = .ok (.invokestatic 338, 3) := by decide +kernel
theorem dX10_mixSea_51 : decode cX10_mixSea 51 = .ok (.lstore_n 3, 1) := by decide +kernel
theorem dX10_mixSea_52 : decode cX10_mixSea 52 = .ok (.iinc 5 1, 3) := by decide +kernel
theorem dX10_mixSea_55 : decode cX10_mixSea 55 = .ok (.goto (-22), 3) := by decide +kernel
theorem dX10_mixSea_58 : decode cX10_mixSea 58 = .ok (.lload_n 3, 1) := by decide +kernel
theorem dX10_mixSea_59 : decode cX10_mixSea 59 = .ok (.lreturn, 1) := by decide +kernel
theorem dX10_hasNight_0 : decode cX10_hasNight 0 = .ok (.aload_n 0, 1) := by decide +kernel
theorem dX10_hasNight_1 : decode cX10_hasNight 1 = .ok (.getfield 109, 3) := by decide +kernel
theorem dX10_hasNight_4 : decode cX10_hasNight 4 = .ok (.ifCond .le 7, 3) := by decide +kernel
theorem dX10_hasNight_7 : decode cX10_hasNight 7 = .ok (.iconst 1, 1) := by decide +kernel
theorem dX10_hasNight_8 : decode cX10_hasNight 8 = .ok (.goto 4, 3) := by decide +kernel
theorem dX10_hasNight_11 : decode cX10_hasNight 11 = .ok (.iconst 0, 1) := by decide +kernel
theorem dX10_hasNight_12 : decode cX10_hasNight 12 = .ok (.ireturn, 1) := by decide +kernel
theorem dX10_isAfloat_0 : decode cX10_isAfloat 0 = .ok (.aload_n 0, 1) := by decide +kernel
theorem dX10_isAfloat_1 : decode cX10_isAfloat 1 = .ok (.invokevirtual 115, 3) := by decide +kernel
theorem dX10_isAfloat_4 : decode cX10_isAfloat 4 = .ok (.ifCond .eq 17, 3) := by decide +kernel
theorem dX10_isAfloat_7 : decode cX10_isAfloat 7 = .ok (.aload_n 0, 1) := by decide +kernel
theorem dX10_isAfloat_8 : decode cX10_isAfloat 8 = .ok (.getfield 40, 3) := by decide +kernel
theorem dX10_isAfloat_11 : decode cX10_isAfloat 11 = .ok (.getfield 139, 3) := by decide +kernel
theorem dX10_isAfloat_14 : decode cX10_isAfloat 14 = .ok (.ifCond .ne 7, 3) := by decide +kernel
theorem dX10_isAfloat_17 : decode cX10_isAfloat 17 = .ok (.iconst 1, 1) := by decide +kernel
theorem dX10_isAfloat_18 : decode cX10_isAfloat 18 = .ok (.goto 4, 3) := by decide +kernel
theorem dX10_isAfloat_21 : decode cX10_isAfloat 21 = .ok (.iconst 0, 1) := by decide +kernel
theorem dX10_isAfloat_22 : decode cX10_isAfloat 22 = .ok (.ireturn, 1) := by decide +kernel
theorem dX10_canAim_0 : decode cX10_canAim 0 = .ok (.aload_n 0, 1) := by decide +kernel
theorem dX10_canAim_1 : decode cX10_canAim 1 = .ok (.invokevirtual 244, 3) := by decide +kernel
theorem dX10_canAim_4 : decode cX10_canAim 4 = .ok (.ifCond .eq 17, 3) := by decide +kernel
theorem dX10_canAim_7 : decode cX10_canAim 7 = .ok (.aload_n 0, 1) := by decide +kernel
theorem dX10_canAim_8 : decode cX10_canAim 8 = .ok (.getfield 40, 3) := by decide +kernel
theorem dX10_canAim_11 : decode cX10_canAim 11 = .ok (.getfield 156, 3) := by decide +kernel
theorem dX10_canAim_14 : decode cX10_canAim 14 = .ok (.ifCond .ne 7, 3) := by decide +kernel
theorem dX10_canAim_17 : decode cX10_canAim 17 = .ok (.iconst 1, 1) := by decide +kernel
theorem dX10_canAim_18 : decode cX10_canAim 18 = .ok (.goto 4, 3) := by decide +kernel
theorem dX10_canAim_21 : decode cX10_canAim 21 = .ok (.iconst 0, 1) := by decide +kernel
theorem dX10_canAim_22 : decode cX10_canAim 22 = .ok (.ireturn, 1) := by decide +kernel
theorem dX10_areTwoMen_0 : decode cX10_areTwoMen 0 = .ok (.iload_n 1, 1) := by decide +kernel
theorem dX10_areTwoMen_1 : decode cX10_areTwoMen 1 = .ok (.iload_n 2, 1) := by decide +kernel
theorem dX10_areTwoMen_2 : decode cX10_areTwoMen 2 = .ok (.if_icmp .eq 29, 3) := by decide +kernel
theorem dX10_areTwoMen_5 : decode cX10_areTwoMen 5 = .ok (.aload_n 0, 1) := by decide +kernel
theorem dX10_areTwoMen_6 : decode cX10_areTwoMen 6 = .ok (.getfield 33, 3) := by decide +kernel
theorem dX10_areTwoMen_9 : decode cX10_areTwoMen 9 = .ok (.iload_n 1, 1) := by decide +kernel
theorem dX10_areTwoMen_10 : decode cX10_areTwoMen 10 = .ok (.invokevirtual 194, 3) := by decide +kernel
theorem dX10_areTwoMen_13 : decode cX10_areTwoMen 13 = .ok (.ifCond .eq 18, 3) := by decide +kernel
theorem dX10_areTwoMen_16 : decode cX10_areTwoMen 16 = .ok (.aload_n 0, 1) := by decide +kernel
theorem dX10_areTwoMen_17 : decode cX10_areTwoMen 17 = .ok (.getfield 33, 3) := by decide +kernel
theorem dX10_areTwoMen_20 : decode cX10_areTwoMen 20 = .ok (.iload_n 2, 1) := by decide +kernel
theorem dX10_areTwoMen_21 : decode cX10_areTwoMen 21 = .ok (.invokevirtual 194, 3) := by decide +kernel
theorem dX10_areTwoMen_24 : decode cX10_areTwoMen 24 = .ok (.ifCond .eq 7, 3) := by decide +kernel
theorem dX10_areTwoMen_27 : decode cX10_areTwoMen 27 = .ok (.iconst 1, 1) := by decide +kernel
theorem dX10_areTwoMen_28 : decode cX10_areTwoMen 28 = .ok (.goto 4, 3) := by decide +kernel
theorem dX10_areTwoMen_31 : decode cX10_areTwoMen 31 = .ok (.iconst 0, 1) := by decide +kernel
theorem dX10_areTwoMen_32 : decode cX10_areTwoMen 32 = .ok (.ireturn, 1) := by decide +kernel
theorem dX10_mayCome_0 : decode cX10_mayCome 0 = .ok (.aload_n 0, 1) := by decide +kernel
theorem dX10_mayCome_1 : decode cX10_mayCome 1 = .ok (.getfield 40, 3) := by decide +kernel
theorem dX10_mayCome_4 : decode cX10_mayCome 4 = .ok (.getfield 156, 3) := by decide +kernel
theorem dX10_mayCome_7 : decode cX10_mayCome 7 = .ok (.ifCond .eq 92, 3) := by decide +kernel
theorem dX10_mayCome_10 : decode cX10_mayCome 10 = .ok (.aload_n 0, 1) := by decide +kernel
theorem dX10_mayCome_11 : decode cX10_mayCome 11 = .ok (.getfield 40, 3) := by decide +kernel
theorem dX10_mayCome_14 : decode cX10_mayCome 14 = .ok (.getfield 139, 3) := by decide +kernel
theorem dX10_mayCome_17 : decode cX10_mayCome 17 = .ok (.ifCond .ne 82, 3) := by decide +kernel
theorem dX10_mayCome_20 : decode cX10_mayCome 20 = .ok (.aload_n 0, 1) := by decide +kernel
theorem dX10_mayCome_21 : decode cX10_mayCome 21 = .ok (.getfield 40, 3) := by decide +kernel
theorem dX10_mayCome_24 : decode cX10_mayCome 24 = .ok (.getfield 218, 3) := by decide +kernel
theorem dX10_mayCome_27 : decode cX10_mayCome 27 = .ok (.iload_n 1, 1) := by decide +kernel
theorem dX10_mayCome_28 : decode cX10_mayCome 28 = .ok (.invokestatic 135, 3) := by decide +kernel
theorem dX10_mayCome_31 : decode cX10_mayCome 31 = .ok (.ifCond .ne 68, 3) := by decide +kernel
theorem dX10_mayCome_34 : decode cX10_mayCome 34 = .ok (.aload_n 0, 1) := by decide +kernel
theorem dX10_mayCome_35 : decode cX10_mayCome 35 = .ok (.getfield 40, 3) := by decide +kernel
theorem dX10_mayCome_38 : decode cX10_mayCome 38 = .ok (.getfield 218, 3) := by decide +kernel
theorem dX10_mayCome_41 : decode cX10_mayCome 41 = .ok (.aload_n 0, 1) := by decide +kernel
theorem dX10_mayCome_42 : decode cX10_mayCome 42 = .ok (.getfield 33, 3) := by decide +kernel
theorem dX10_mayCome_45 : decode cX10_mayCome 45 = .ok (.iload_n 1, 1) := by decide +kernel
theorem dX10_mayCome_46 : decode cX10_mayCome 46 = .ok (.invokevirtual 360, 3) := by decide +kernel
theorem dX10_mayCome_49 : decode cX10_mayCome 49 = .ok (.invokestatic 363, 3) := by decide +kernel
theorem dX10_mayCome_52 : decode cX10_mayCome 52 = .ok (.ifCond .eq 47, 3) := by decide +kernel
theorem dX10_mayCome_55 : decode cX10_mayCome 55 = .ok (.aload_n 0, 1) := by decide +kernel
theorem dX10_mayCome_56 : decode cX10_mayCome 56 = .ok (.getfield 40, 3) := by decide +kernel
theorem dX10_mayCome_59 : decode cX10_mayCome 59 = .ok (.getfield 241, 3) := by decide +kernel
theorem dX10_mayCome_62 : decode cX10_mayCome 62 = .ok (.aload_n 0, 1) := by decide +kernel
theorem dX10_mayCome_63 : decode cX10_mayCome 63 = .ok (.getfield 33, 3) := by decide +kernel
theorem dX10_mayCome_66 : decode cX10_mayCome 66 = .ok (.iload_n 1, 1) := by decide +kernel
theorem dX10_mayCome_67 : decode cX10_mayCome 67 = .ok (.aload_n 0, 1) := by decide +kernel
theorem dX10_mayCome_68 : decode cX10_mayCome 68 = .ok (.getfield 19, 3) := by decide +kernel
theorem dX10_mayCome_71 : decode cX10_mayCome 71 = .ok (.getfield 201, 3) := by decide +kernel
theorem dX10_mayCome_74 : decode cX10_mayCome 74 = .ok (.aload_n 0, 1) := by decide +kernel
theorem dX10_mayCome_75 : decode cX10_mayCome 75 = .ok (.getfield 40, 3) := by decide +kernel
theorem dX10_mayCome_78 : decode cX10_mayCome 78 = .ok (.getfield 204, 3) := by decide +kernel
theorem dX10_mayCome_81 : decode cX10_mayCome 81 = .ok (.invokevirtual 207, 3) := by decide +kernel
theorem dX10_mayCome_84 : decode cX10_mayCome 84 = .ok (.iadd, 1) := by decide +kernel
theorem dX10_mayCome_85 : decode cX10_mayCome 85 = .ok (.aload_n 0, 1) := by decide +kernel
theorem dX10_mayCome_86 : decode cX10_mayCome 86 = .ok (.getfield 19, 3) := by decide +kernel
theorem dX10_mayCome_89 : decode cX10_mayCome 89 = .ok (.invokevirtual 247, 3) := by decide +kernel
theorem dX10_mayCome_92 : decode cX10_mayCome 92 = .ok (.if_icmp .ge 7, 3) := by decide +kernel
theorem dX10_mayCome_95 : decode cX10_mayCome 95 = .ok (.iconst 1, 1) := by decide +kernel
theorem dX10_mayCome_96 : decode cX10_mayCome 96 = .ok (.goto 4, 3) := by decide +kernel
theorem dX10_mayCome_99 : decode cX10_mayCome 99 = .ok (.iconst 0, 1) := by decide +kernel
theorem dX10_mayCome_100 : decode cX10_mayCome 100 = .ok (.ireturn, 1) := by decide +kernel
theorem dX10_isOutside_0 : decode cX10_isOutside 0 = .ok (.iload_n 0, 1) := by decide +kernel
theorem dX10_isOutside_1 : decode cX10_isOutside 1 = .ok (.iload_n 1, 1) := by decide +kernel
theorem dX10_isOutside_2 : decode cX10_isOutside 2 = .ok (.if_icmp .lt 8, 3) := by decide +kernel
theorem dX10_isOutside_5 : decode cX10_isOutside 5 = .ok (.iload_n 0, 1) := by decide +kernel
theorem dX10_isOutside_6 : decode cX10_isOutside 6 = .ok (.iload_n 2, 1) := by decide +kernel
theorem dX10_isOutside_7 : decode cX10_isOutside 7 = .ok (.if_icmp .le 7, 3) := by decide +kernel
theorem dX10_isOutside_10 : decode cX10_isOutside 10 = .ok (.iconst 1, 1) := by decide +kernel
theorem dX10_isOutside_11 : decode cX10_isOutside 11 = .ok (.goto 4, 3) := by decide +kernel
theorem dX10_isOutside_14 : decode cX10_isOutside 14 = .ok (.iconst 0, 1) := by decide +kernel
theorem dX10_isOutside_15 : decode cX10_isOutside 15 = .ok (.ireturn, 1) := by decide +kernel
theorem dX10_asNumber_0 : decode cX10_asNumber 0 = .ok (.iload_n 0, 1) := by decide +kernel
theorem dX10_asNumber_1 : decode cX10_asNumber 1 = .ok (.ifCond .eq 7, 3) := by decide +kernel
theorem dX10_asNumber_4 : decode cX10_asNumber 4 = .ok (.iconst 1, 1) := by decide +kernel
theorem dX10_asNumber_5 : decode cX10_asNumber 5 = .ok (.goto 4, 3) := by decide +kernel
theorem dX10_asNumber_8 : decode cX10_asNumber 8 = .ok (.iconst 0, 1) := by decide +kernel
theorem dX10_asNumber_9 : decode cX10_asNumber 9 = .ok (.ireturn, 1) := by decide +kernel
theorem dX10_mix_0 : decode cX10_mix 0 = .ok (.ldc2_w 366, 3) := by decide +kernel
theorem dX10_mix_3 : decode cX10_mix 3 = .ok (.lload_n 0, 1) := by decide +kernel
theorem dX10_mix_4 : decode cX10_mix 4 = .ok (.lmul, 1) := by decide +kernel
theorem dX10_mix_5 : decode cX10_mix 5 = .ok (.lload_n 2, 1) := by decide +kernel
theorem dX10_mix_6 : decode cX10_mix 6 = .ok (.ladd, 1) := by decide +kernel
theorem dX10_mix_7 : decode cX10_mix 7 = .ok (.lreturn, 1) := by decide +kernel
theorem dX10_isIn_0 : decode cX10_isIn 0 = .ok (.iload_n 0, 1) := by decide +kernel
theorem dX10_isIn_1 : decode cX10_isIn 1 = .ok (.iload_n 1, 1) := by decide +kernel
theorem dX10_isIn_2 : decode cX10_isIn 2 = .ok (.ishr, 1) := by decide +kernel
theorem dX10_isIn_3 : decode cX10_isIn 3 = .ok (.iconst 1, 1) := by decide +kernel
theorem dX10_isIn_4 : decode cX10_isIn 4 = .ok (.iand, 1) := by decide +kernel
theorem dX10_isIn_5 : decode cX10_isIn 5 = .ok (.ifCond .eq 7, 3) := by decide +kernel
theorem dX10_isIn_8 : decode cX10_isIn 8 = .ok (.iconst 1, 1) := by decide +kernel
theorem dX10_isIn_9 : decode cX10_isIn 9 = .ok (.goto 4, 3) := by decide +kernel
theorem dX10_isIn_12 : decode cX10_isIn 12 = .ok (.iconst 0, 1) := by decide +kernel
theorem dX10_isIn_13 : decode cX10_isIn 13 = .ok (.ireturn, 1) := by decide +kernel
theorem dX10_with_0 : decode cX10_with 0 = .ok (.iload_n 0, 1) := by decide +kernel
theorem dX10_with_1 : decode cX10_with 1 = .ok (.iconst 1, 1) := by decide +kernel
theorem dX10_with_2 : decode cX10_with 2 = .ok (.iload_n 1, 1) := by decide +kernel
theorem dX10_with_3 : decode cX10_with 3 = .ok (.ishl, 1) := by decide +kernel
theorem dX10_with_4 : decode cX10_with 4 = .ok (.ior, 1) := by decide +kernel
theorem dX10_with_5 : decode cX10_with 5 = .ok (.ireturn, 1) := by decide +kernel
theorem dX10_without_0 : decode cX10_without 0 = .ok (.iload_n 0, 1) := by decide +kernel
theorem dX10_without_1 : decode cX10_without 1 = .ok (.iconst 1, 1) := by decide +kernel
theorem dX10_without_2 : decode cX10_without 2 = .ok (.iload_n 1, 1) := by decide +kernel
theorem dX10_without_3 : decode cX10_without 3 = .ok (.ishl, 1) := by decide +kernel
theorem dX10_without_4 : decode cX10_without 4 = .ok (.iconst (-1), 1) := by decide +kernel
theorem dX10_without_5 : decode cX10_without 5 = .ok (.ixor, 1) := by decide +kernel
theorem dX10_without_6 : decode cX10_without 6 = .ok (.iand, 1) := by decide +kernel
theorem dX10_without_7 : decode cX10_without 7 = .ok (.ireturn, 1) := by decide +kernel
theorem dX10_holdsAll_0 : decode cX10_holdsAll 0 = .ok (.iload_n 1, 1) := by decide +kernel
theorem dX10_holdsAll_1 : decode cX10_holdsAll 1 = .ok (.iload_n 0, 1) := by decide +kernel
theorem dX10_holdsAll_2 : decode cX10_holdsAll 2 = .ok (.iconst (-1), 1) := by decide +kernel
theorem dX10_holdsAll_3 : decode cX10_holdsAll 3 = .ok (.ixor, 1) := by decide +kernel
theorem dX10_holdsAll_4 : decode cX10_holdsAll 4 = .ok (.iand, 1) := by decide +kernel
theorem dX10_holdsAll_5 : decode cX10_holdsAll 5 = .ok (.ifCond .ne 7, 3) := by decide +kernel
theorem dX10_holdsAll_8 : decode cX10_holdsAll 8 = .ok (.iconst 1, 1) := by decide +kernel
theorem dX10_holdsAll_9 : decode cX10_holdsAll 9 = .ok (.goto 4, 3) := by decide +kernel
theorem dX10_holdsAll_12 : decode cX10_holdsAll 12 = .ok (.iconst 0, 1) := by decide +kernel
theorem dX10_holdsAll_13 : decode cX10_holdsAll 13 = .ok (.ireturn, 1) := by decide +kernel
theorem dX10_at_0 : decode cX10_at 0 = .ok (.iload_n 1, 1) := by decide +kernel
theorem dX10_at_1 : decode cX10_at 1 = .ok (.ifCond .lt 15, 3) := by decide +kernel
theorem dX10_at_4 : decode cX10_at 4 = .ok (.iload_n 1, 1) := by decide +kernel
theorem dX10_at_5 : decode cX10_at 5 = .ok (.aload_n 0, 1) := by decide +kernel
theorem dX10_at_6 : decode cX10_at 6 = .ok (.arraylength, 1) := by decide +kernel
theorem dX10_at_7 : decode cX10_at 7 = .ok (.if_icmp .ge 9, 3) := by decide +kernel
theorem dX10_at_10 : decode cX10_at 10 = .ok (.aload_n 0, 1) := by decide +kernel
theorem dX10_at_11 : decode cX10_at 11 = .ok (.iload_n 1, 1) := by decide +kernel
theorem dX10_at_12 : decode cX10_at 12 = .ok (.iaload, 1) := by decide +kernel
theorem dX10_at_13 : decode cX10_at 13 = .ok (.goto 4, 3) := by decide +kernel
theorem dX10_at_16 : decode cX10_at 16 = .ok (.iconst 0, 1) := by decide +kernel
theorem dX10_at_17 : decode cX10_at 17 = .ok (.ireturn, 1) := by decide +kernel
theorem dX10_at__0 : decode cX10_at_ 0 = .ok (.iload_n 1, 1) := by decide +kernel
theorem dX10_at__1 : decode cX10_at_ 1 = .ok (.ifCond .lt 15, 3) := by decide +kernel
theorem dX10_at__4 : decode cX10_at_ 4 = .ok (.iload_n 1, 1) := by decide +kernel
theorem dX10_at__5 : decode cX10_at_ 5 = .ok (.aload_n 0, 1) := by decide +kernel
theorem dX10_at__6 : decode cX10_at_ 6 = .ok (.arraylength, 1) := by decide +kernel
theorem dX10_at__7 : decode cX10_at_ 7 = .ok (.if_icmp .ge 9, 3) := by decide +kernel
theorem dX10_at__10 : decode cX10_at_ 10 = .ok (.aload_n 0, 1) := by decide +kernel
theorem dX10_at__11 : decode cX10_at_ 11 = .ok (.iload_n 1, 1) := by decide +kernel
theorem dX10_at__12 : decode cX10_at_ 12 = .ok (.laload, 1) := by decide +kernel
theorem dX10_at__13 : decode cX10_at_ 13 = .ok (.goto 4, 3) := by decide +kernel
theorem dX10_at__16 : decode cX10_at_ 16 = .ok (.lconst 0, 1) := by decide +kernel
theorem dX10_at__17 : decode cX10_at_ 17 = .ok (.lreturn, 1) := by decide +kernel
theorem dX10_put_0 : decode cX10_put 0 = .ok (.iload_n 1, 1) := by decide +kernel
theorem dX10_put_1 : decode cX10_put 1 = .ok (.ifCond .lt 13, 3) := by decide +kernel
theorem dX10_put_4 : decode cX10_put 4 = .ok (.iload_n 1, 1) := by decide +kernel
theorem dX10_put_5 : decode cX10_put 5 = .ok (.aload_n 0, 1) := by decide +kernel
theorem dX10_put_6 : decode cX10_put 6 = .ok (.arraylength, 1) := by decide +kernel
theorem dX10_put_7 : decode cX10_put 7 = .ok (.if_icmp .ge 7, 3) := by decide +kernel
theorem dX10_put_10 : decode cX10_put 10 = .ok (.aload_n 0, 1) := by decide +kernel
theorem dX10_put_11 : decode cX10_put 11 = .ok (.iload_n 1, 1) := by decide +kernel
theorem dX10_put_12 : decode cX10_put 12 = .ok (.iload_n 2, 1) := by decide +kernel
theorem dX10_put_13 : decode cX10_put 13 = .ok (.iastore, 1) := by decide +kernel
theorem dX10_put_14 : decode cX10_put 14 = .ok (.return_, 1) := by decide +kernel
theorem dX10_put__0 : decode cX10_put_ 0 = .ok (.iload_n 1, 1) := by decide +kernel
theorem dX10_put__1 : decode cX10_put_ 1 = .ok (.ifCond .lt 13, 3) := by decide +kernel
theorem dX10_put__4 : decode cX10_put_ 4 = .ok (.iload_n 1, 1) := by decide +kernel
theorem dX10_put__5 : decode cX10_put_ 5 = .ok (.aload_n 0, 1) := by decide +kernel
theorem dX10_put__6 : decode cX10_put_ 6 = .ok (.arraylength, 1) := by decide +kernel
theorem dX10_put__7 : decode cX10_put_ 7 = .ok (.if_icmp .ge 7, 3) := by decide +kernel
theorem dX10_put__10 : decode cX10_put_ 10 = .ok (.aload_n 0, 1) := by decide +kernel
theorem dX10_put__11 : decode cX10_put_ 11 = .ok (.iload_n 1, 1) := by decide +kernel
theorem dX10_put__12 : decode cX10_put_ 12 = .ok (.lload_n 2, 1) := by decide +kernel
theorem dX10_put__13 : decode cX10_put_ 13 = .ok (.lastore, 1) := by decide +kernel
theorem dX10_put__14 : decode cX10_put_ 14 = .ok (.return_, 1) := by decide +kernel
theorem dX10_inLowestTerms_0 : decode cX10_inLowestTerms 0 = .ok (.lload_n 0, 1) := by decide +kernel
theorem dX10_inLowestTerms_1 : decode cX10_inLowestTerms 1 = .ok (.lload_n 2, 1) := by decide +kernel
theorem dX10_inLowestTerms_2 : decode cX10_inLowestTerms 2 = .ok (.invokestatic 368, 3) := by decide +kernel
theorem dX10_inLowestTerms_5 : decode cX10_inLowestTerms 5 = .ok (.lstore 5, 2) := by decide +kernel
theorem dX10_inLowestTerms_7 : decode cX10_inLowestTerms 7 = .ok (.lload 5, 2) := by decide +kernel
theorem dX10_inLowestTerms_9 : decode cX10_inLowestTerms 9 = .ok (.lconst 0, 1) := by decide +kernel
theorem dX10_inLowestTerms_10 : decode cX10_inLowestTerms 10 = .ok (.lcmp, 1) := by decide +kernel
theorem dX10_inLowestTerms_11 : decode cX10_inLowestTerms 11 = .ok (.ifCond .gt 5, 3) := by decide +kernel
theorem dX10_inLowestTerms_14 : decode cX10_inLowestTerms 14 = .ok (.lconst 0, 1) := by decide +kernel
theorem dX10_inLowestTerms_15 : decode cX10_inLowestTerms 15 = .ok (.lreturn, 1) := by decide +kernel
theorem dX10_inLowestTerms_16 : decode cX10_inLowestTerms 16 = .ok (.iload 4, 2) := by decide +kernel
theorem dX10_inLowestTerms_18 : decode cX10_inLowestTerms 18 = .ok (.ifCond .ne 7, 3) := by decide +kernel
theorem dX10_inLowestTerms_21 : decode cX10_inLowestTerms 21 = .ok (.lload_n 0, 1) := by decide +kernel
theorem dX10_inLowestTerms_22 : decode cX10_inLowestTerms 22 = .ok (.goto 4, 3) := by decide +kernel
theorem dX10_inLowestTerms_25 : decode cX10_inLowestTerms 25 = .ok (.lload_n 2, 1) := by decide +kernel
theorem dX10_inLowestTerms_26 : decode cX10_inLowestTerms 26 = .ok (.lload 5, 2) := by decide +kernel
theorem dX10_inLowestTerms_28 : decode cX10_inLowestTerms 28 = .ok (.ldiv, 1) := by decide +kernel
theorem dX10_inLowestTerms_29 : decode cX10_inLowestTerms 29 = .ok (.lreturn, 1) := by decide +kernel
theorem dX10_commonDivisor_0 : decode cX10_commonDivisor 0 = .ok (.lload_n 0, 1) := by decide +kernel
theorem dX10_commonDivisor_1 : decode cX10_commonDivisor 1 = .ok (.lstore 4, 2) := by decide +kernel
theorem dX10_commonDivisor_3 : decode cX10_commonDivisor 3 = .ok (.lload_n 2, 1) := by decide +kernel
theorem dX10_commonDivisor_4 : decode cX10_commonDivisor 4 = .ok (.lstore 6, 2) := by decide +kernel
theorem dX10_commonDivisor_6 : decode cX10_commonDivisor 6 = .ok (.iconst 0, 1) := by decide +kernel
theorem dX10_commonDivisor_7 : decode cX10_commonDivisor 7 = .ok (.istore 8, 2) := by decide +kernel
theorem dX10_commonDivisor_9 : decode cX10_commonDivisor 9 = .ok (.iload 8, 2) := by decide +kernel
theorem dX10_commonDivisor_11 : decode cX10_commonDivisor 11 = .ok (.bipush 100, 2) := by decide +kernel
theorem dX10_commonDivisor_13 : decode cX10_commonDivisor 13 = .ok (.if_icmp .ge 31, 3) := by decide +kernel
theorem dX10_commonDivisor_16 : decode cX10_commonDivisor 16 = .ok (.lload 6, 2) := by decide +kernel
theorem dX10_commonDivisor_18 : decode cX10_commonDivisor 18 = .ok (.lconst 0, 1) := by decide +kernel
theorem dX10_commonDivisor_19 : decode cX10_commonDivisor 19 = .ok (.lcmp, 1) := by decide +kernel
theorem dX10_commonDivisor_20 : decode cX10_commonDivisor 20 = .ok (.ifCond .eq 24, 3) := by decide +kernel
theorem dX10_commonDivisor_23 : decode cX10_commonDivisor 23 = .ok (.lload 4, 2) := by decide +kernel
theorem dX10_commonDivisor_25 : decode cX10_commonDivisor 25 = .ok (.lload 6, 2) := by decide +kernel
theorem dX10_commonDivisor_27 : decode cX10_commonDivisor 27 = .ok (.lrem, 1) := by decide +kernel
theorem dX10_commonDivisor_28 : decode cX10_commonDivisor 28 = .ok (.lstore 9, 2) := by decide +kernel
theorem dX10_commonDivisor_30 : decode cX10_commonDivisor 30 = .ok (.lload 6, 2) := by decide +kernel
theorem dX10_commonDivisor_32 : decode cX10_commonDivisor 32 = .ok (.lstore 4, 2) := by decide +kernel
theorem dX10_commonDivisor_34 : decode cX10_commonDivisor 34 = .ok (.lload 9, 2) := by decide +kernel
theorem dX10_commonDivisor_36 : decode cX10_commonDivisor 36 = .ok (.lstore 6, 2) := by decide +kernel
theorem dX10_commonDivisor_38 : decode cX10_commonDivisor 38 = .ok (.iinc 8 1, 3) := by decide +kernel
theorem dX10_commonDivisor_41 : decode cX10_commonDivisor 41 = .ok (.goto (-32), 3) := by decide +kernel
theorem dX10_commonDivisor_44 : decode cX10_commonDivisor 44 = .ok (.lload 4, 2) := by decide +kernel
theorem dX10_commonDivisor_46 : decode cX10_commonDivisor 46 = .ok (.lreturn, 1) := by decide +kernel
theorem dX11_init_0 : decode cX11_init 0 = .ok (.aload_n 0, 1) := by decide +kernel
theorem dX11_init_1 : decode cX11_init 1 = .ok (.invokespecial 1, 3) := by decide +kernel
theorem dX11_init_4 : decode cX11_init 4 = .ok (.aload_n 0, 1) := by decide +kernel
theorem dX11_init_5 : decode cX11_init 5 = .ok (.bipush 22, 2) := by decide +kernel
theorem dX11_init_7 : decode cX11_init 7 = .ok (.newarray .int, 2) := by decide +kernel
theorem dX11_init_9 : decode cX11_init 9 = .ok (.putfield 7, 3) := by decide +kernel
theorem dX11_init_12 : decode cX11_init 12 = .ok (.aload_n 0, 1) := by decide +kernel
theorem dX11_init_13 : decode cX11_init 13 = .ok (.iconst 3, 1) := by decide +kernel
theorem dX11_init_14 : decode cX11_init 14 = .ok (.newarray .int, 2) := by decide +kernel
theorem dX11_init_16 : decode cX11_init 16 = .ok (.putfield 13, 3) := by decide +kernel
theorem dX11_init_19 : decode cX11_init 19 = .ok (.aload_n 0, 1) := by decide +kernel
theorem dX11_init_20 : decode cX11_init 20 = .ok (.bipush 10, 2) := by decide +kernel
theorem dX11_init_22 : decode cX11_init 22 = .ok (.newarray .int, 2) := by decide +kernel
theorem dX11_init_24 : decode cX11_init 24 = .ok (.putfield 16, 3) := by decide +kernel
theorem dX11_init_27 : decode cX11_init 27 = .ok (.aload_n 0, 1) := by decide +kernel
theorem dX11_init_28 : decode cX11_init 28 = .ok (.iconst 3, 1) := by decide +kernel
theorem dX11_init_29 : decode cX11_init 29 = .ok (.newarray .int, 2) := by decide +kernel
theorem dX11_init_31 : decode cX11_init 31 = .ok (.putfield 19, 3) := by decide +kernel
theorem dX11_init_34 : decode cX11_init 34 = .ok (.aload_n 0, 1) := by decide +kernel
theorem dX11_init_35 : decode cX11_init 35 = .ok (.bipush 10, 2) := by decide +kernel
theorem dX11_init_37 : decode cX11_init 37 = .ok (.newarray .int, 2) := by decide +kernel
theorem dX11_init_39 : decode cX11_init 39 = .ok (.putfield 22, 3) := by decide +kernel
theorem dX11_init_42 : decode cX11_init 42 = .ok (.aload_n 0, 1) := by decide +kernel
theorem dX11_init_43 : decode cX11_init 43 = .ok (.bipush 18, 2) := by decide +kernel
theorem dX11_init_45 : decode cX11_init 45 = .ok (.newarray .int, 2) := by decide +kernel
theorem dX11_init_47 : decode cX11_init 47 = .ok (.putfield 25, 3) := by decide +kernel
theorem dX11_init_50 : decode cX11_init 50 = .ok (.aload_n 0, 1) := by decide +kernel
theorem dX11_init_51 : decode cX11_init 51 = .ok (.bipush 64, 2) := by decide +kernel
theorem dX11_init_53 : decode cX11_init 53 = .ok (.newarray .long, 2) := by decide +kernel
theorem dX11_init_55 : decode cX11_init 55 = .ok (.putfield 28, 3) := by decide +kernel
theorem dX11_init_58 : decode cX11_init 58 = .ok (.aload_n 0, 1) := by decide +kernel
theorem dX11_init_59 : decode cX11_init 59 = .ok (.bipush 64, 2) := by decide +kernel
theorem dX11_init_61 : decode cX11_init 61 = .ok (.newarray .long, 2) := by decide +kernel
theorem dX11_init_63 : decode cX11_init 63 = .ok (.putfield 32, 3) := by decide +kernel
theorem dX11_init_66 : decode cX11_init 66 = .ok (.aload_n 0, 1) := by decide +kernel
theorem dX11_init_67 : decode cX11_init 67 = .ok (.bipush 18, 2) := by decide +kernel
theorem dX11_init_69 : decode cX11_init 69 = .ok (.newarray .int, 2) := by decide +kernel
theorem dX11_init_71 : decode cX11_init 71 = .ok (.putfield 35, 3) := by decide +kernel
theorem dX11_init_74 : decode cX11_init 74 = .ok (.aload_n 0, 1) := by decide +kernel
theorem dX11_init_75 : decode cX11_init 75 = .ok (.bipush 6, 2) := by decide +kernel
theorem dX11_init_77 : decode cX11_init 77 = .ok (.newarray .int, 2) := by decide +kernel
theorem dX11_init_79 : decode cX11_init 79 = .ok (.putfield 38, 3) := by decide +kernel
theorem dX11_init_82 : decode cX11_init 82 = .ok (.aload_n 0, 1) := by decide +kernel
theorem dX11_init_83 : decode cX11_init 83 = .ok (.bipush 6, 2) := by decide +kernel
theorem dX11_init_85 : decode cX11_init 85 = .ok (.newarray .int, 2) := by decide +kernel
theorem dX11_init_87 : decode cX11_init 87 = .ok (.putfield 41, 3) := by decide +kernel
theorem dX11_init_90 : decode cX11_init 90 = .ok (.aload_n 0, 1) := by decide +kernel
theorem dX11_init_91 : decode cX11_init 91 = .ok (.bipush 6, 2) := by decide +kernel
theorem dX11_init_93 : decode cX11_init 93 = .ok (.newarray .int, 2) := by decide +kernel
theorem dX11_init_95 : decode cX11_init 95 = .ok (.putfield 44, 3) := by decide +kernel
theorem dX11_init_98 : decode cX11_init 98 = .ok (.aload_n 0, 1) := by decide +kernel
theorem dX11_init_99 : decode cX11_init 99 = .ok (.bipush 30, 2) := by decide +kernel
theorem dX11_init_101 : decode cX11_init 101 = .ok (.newarray .int, 2) := by decide +kernel
theorem dX11_init_103 : decode cX11_init 103 = .ok (.putfield 47, 3) := by decide +kernel
theorem dX11_init_106 : decode cX11_init 106 = .ok (.aload_n 0, 1) := by decide +kernel
theorem dX11_init_107 : decode cX11_init 107 = .ok (.bipush 6, 2) := by decide +kernel
theorem dX11_init_109 : decode cX11_init 109 = .ok (.newarray .int, 2) := by decide +kernel
theorem dX11_init_111 : decode cX11_init 111 = .ok (.putfield 50, 3) := by decide +kernel
theorem dX11_init_114 : decode cX11_init 114 = .ok (.aload_n 0, 1) := by decide +kernel
theorem dX11_init_115 : decode cX11_init 115 = .ok (.bipush 8, 2) := by decide +kernel
theorem dX11_init_117 : decode cX11_init 117 = .ok (.newarray .int, 2) := by decide +kernel
theorem dX11_init_119 : decode cX11_init 119 = .ok (.putfield 53, 3) := by decide +kernel
theorem dX11_init_122 : decode cX11_init 122 = .ok (.aload_n 0, 1) := by decide +kernel
theorem dX11_init_123 : decode cX11_init 123 = .ok (.bipush 18, 2) := by decide +kernel
theorem dX11_init_125 : decode cX11_init 125 = .ok (.newarray .int, 2) := by decide +kernel
theorem dX11_init_127 : decode cX11_init 127 = .ok (.putfield 56, 3) := by decide +kernel
theorem dX11_init_130 : decode cX11_init 130 = .ok (.aload_n 0, 1) := by decide +kernel
theorem dX11_init_131 : decode cX11_init 131 = .ok (.bipush 18, 2) := by decide +kernel
theorem dX11_init_133 : decode cX11_init 133 = .ok (.newarray .int, 2) := by decide +kernel
theorem dX11_init_135 : decode cX11_init 135 = .ok (.putfield 59, 3) := by decide +kernel
theorem dX11_init_138 : decode cX11_init 138 = .ok (.aload_n 0, 1) := by decide +kernel
theorem dX11_init_139 : decode cX11_init 139 = .ok (.bipush 30, 2) := by decide +kernel
theorem dX11_init_141 : decode cX11_init 141 = .ok (.newarray .int, 2) := by decide +kernel
theorem dX11_init_143 : decode cX11_init 143 = .ok (.putfield 62, 3) := by decide +kernel
theorem dX11_init_146 : decode cX11_init 146 = .ok (.aload_n 0, 1) := by decide +kernel
theorem dX11_init_147 : decode cX11_init 147 = .ok (.bipush 8, 2) := by decide +kernel
theorem dX11_init_149 : decode cX11_init 149 = .ok (.newarray .int, 2) := by decide +kernel
theorem dX11_init_151 : decode cX11_init 151 = .ok (.putfield 65, 3) := by decide +kernel
theorem dX11_init_154 : decode cX11_init 154 = .ok (.aload_n 0, 1) := by decide +kernel
theorem dX11_init_155 : decode cX11_init 155 = .ok (.iconst (-1), 1) := by decide +kernel
theorem dX11_init_156 : decode cX11_init 156 = .ok (.putfield 68, 3) := by decide +kernel
theorem dX11_init_159 : decode cX11_init 159 = .ok (.aload_n 0, 1) := by decide +kernel
theorem dX11_init_160 : decode cX11_init 160 = .ok (.bipush 60, 2) := by decide +kernel
theorem dX11_init_162 : decode cX11_init 162 = .ok (.putfield 72, 3) := by decide +kernel
theorem dX11_init_165 : decode cX11_init 165 = .ok (.return_, 1) := by decide +kernel
theorem dX11_in_0 : decode cX11_in 0 = .ok (.lload_n 0, 1) := by decide +kernel
theorem dX11_in_1 : decode cX11_in 1 = .ok (.lload_n 2, 1) := by decide +kernel
theorem dX11_in_2 : decode cX11_in 2 = .ok (.lcmp, 1) := by decide +kernel
theorem dX11_in_3 : decode cX11_in 3 = .ok (.ifCond .lt 14, 3) := by decide +kernel
theorem dX11_in_6 : decode cX11_in 6 = .ok (.lload_n 0, 1) := by decide +kernel
theorem dX11_in_7 : decode cX11_in 7 = .ok (.lload 4, 2) := by decide +kernel
theorem dX11_in_9 : decode cX11_in 9 = .ok (.lcmp, 1) := by decide +kernel
theorem dX11_in_10 : decode cX11_in 10 = .ok (.ifCond .gt 7, 3) := by decide +kernel
theorem dX11_in_13 : decode cX11_in 13 = .ok (.iconst 1, 1) := by decide +kernel
theorem dX11_in_14 : decode cX11_in 14 = .ok (.goto 4, 3) := by decide +kernel
theorem dX11_in_17 : decode cX11_in 17 = .ok (.iconst 0, 1) := by decide +kernel
theorem dX11_in_18 : decode cX11_in 18 = .ok (.ireturn, 1) := by decide +kernel
theorem dX11_letter_0 : decode cX11_letter 0 = .ok (.iload_n 1, 1) := by decide +kernel
theorem dX11_letter_1 : decode cX11_letter 1 = .ok (.i2l, 1) := by decide +kernel
theorem dX11_letter_2 : decode cX11_letter 2 = .ok (.lconst 1, 1) := by decide +kernel
theorem dX11_letter_3 : decode cX11_letter 3 = .ok (.ldc2_w 75, 3) := by decide +kernel
theorem dX11_letter_6 : decode cX11_letter 6 = .ok (.invokestatic 77, 3) := by decide +kernel
theorem dX11_letter_9 : decode cX11_letter 9 = .ok (.ifCond .ne 6, 3) := by decide +kernel
theorem dX11_letter_12 : decode cX11_letter 12 = .ok (.bipush (-102), 2) := by decide +kernel
theorem dX11_letter_14 : decode cX11_letter 14 = .ok (.ireturn, 1) := by decide +kernel
theorem dX11_letter_15 : decode cX11_letter 15 = .ok (.aload_n 0, 1) := by decide +kernel
theorem dX11_letter_16 : decode cX11_letter 16 = .ok (.getfield 81, 3) := by decide +kernel
theorem dX11_letter_19 : decode cX11_letter 19 = .ok (.bipush 22, 2) := by decide +kernel
theorem dX11_letter_21 : decode cX11_letter 21 = .ok (.if_icmp .ne 6, 3) := by decide +kernel
theorem dX11_letter_24 : decode cX11_letter 24 = .ok (.bipush (-104), 2) := by decide +kernel
theorem dX11_letter_26 : decode cX11_letter 26 = .ok (.ireturn, 1) := by decide +kernel
theorem dX11_letter_27 : decode cX11_letter 27 = .ok (.aload_n 0, 1) := by decide +kernel
theorem dX11_letter_28 : decode cX11_letter 28 = .ok (.getfield 7, 3) := by decide +kernel
theorem dX11_letter_31 : decode cX11_letter 31 = .ok (.aload_n 0, 1) := by decide +kernel
theorem dX11_letter_32 : decode cX11_letter 32 = .ok (.getfield 81, 3) := by decide +kernel
theorem dX11_letter_35 : decode cX11_letter 35 = .ok (.iload_n 1, 1) := by decide +kernel
theorem dX11_letter_36 : decode cX11_letter 36 = .ok (.iastore, 1) := by decide +kernel
theorem dX11_letter_37 : decode cX11_letter 37 = .ok (.aload_n 0, 1) := by decide +kernel
theorem dX11_letter_38 : decode cX11_letter 38 = .ok (.dup, 1) := by decide +kernel
theorem dX11_letter_39 : decode cX11_letter 39 = .ok (.getfield 81, 3) := by decide +kernel
theorem dX11_letter_42 : decode cX11_letter 42 = .ok (.iconst 1, 1) := by decide +kernel
theorem dX11_letter_43 : decode cX11_letter 43 = .ok (.iadd, 1) := by decide +kernel
theorem dX11_letter_44 : decode cX11_letter 44 = .ok (.putfield 81, 3) := by decide +kernel
theorem dX11_letter_47 : decode cX11_letter 47 = .ok (.aload_n 0, 1) := by decide +kernel
theorem dX11_letter_48 : decode cX11_letter 48 = .ok (.getfield 81, 3) := by decide +kernel
theorem dX11_letter_51 : decode cX11_letter 51 = .ok (.ireturn, 1) := by decide +kernel
theorem dX11_blank_0 : decode cX11_blank 0 = .ok (.aload_n 0, 1) := by decide +kernel
theorem dX11_blank_1 : decode cX11_blank 1 = .ok (.getfield 81, 3) := by decide +kernel
theorem dX11_blank_4 : decode cX11_blank 4 = .ok (.istore_n 1, 1) := by decide +kernel
theorem dX11_blank_5 : decode cX11_blank 5 = .ok (.aload_n 0, 1) := by decide +kernel
theorem dX11_blank_6 : decode cX11_blank 6 = .ok (.iconst 0, 1) := by decide +kernel
theorem dX11_blank_7 : decode cX11_blank 7 = .ok (.putfield 81, 3) := by decide +kernel
theorem dX11_blank_10 : decode cX11_blank 10 = .ok (.iload_n 1, 1) := by decide +kernel
theorem dX11_blank_11 : decode cX11_blank 11 = .ok (.ireturn, 1) := by decide +kernel
theorem dX11_goGust_0 : decode cX11_goGust 0 = .ok (.iload_n 2, 1) := by decide +kernel
theorem dX11_goGust_1 : decode cX11_goGust 1 = .ok (.istore_n 3, 1) := by decide +kernel
theorem dX11_goGust_2 : decode cX11_goGust 2 = .ok (.iconst 0, 1) := by decide +kernel
theorem dX11_goGust_3 : decode cX11_goGust 3 = .ok (.istore 4, 2) := by decide +kernel
theorem dX11_goGust_5 : decode cX11_goGust 5 = .ok (.iload 4, 2) := by decide +kernel
theorem dX11_goGust_7 : decode cX11_goGust 7 = .ok (.iload_n 1, 1) := by decide +kernel
theorem dX11_goGust_8 : decode cX11_goGust 8 = .ok (.if_icmp .ge 19, 3) := by decide +kernel
theorem dX11_goGust_11 : decode cX11_goGust 11 = .ok (.iload_n 3, 1) := by decide +kernel
theorem dX11_goGust_12 : decode cX11_goGust 12 = .ok (.aload_n 0, 1) := by decide +kernel
theorem dX11_goGust_13 : decode cX11_goGust 13 = .ok (.getfield 13, 3) := by decide +kernel
theorem dX11_goGust_16 : decode cX11_goGust 16 = .ok (.iload 4, 2) := by decide +kernel
theorem dX11_goGust_18 : decode cX11_goGust 18 = .ok (.iaload, 1) := by decide +kernel
theorem dX11_goGust_19 : decode cX11_goGust 19 = .ok (.iadd, 1) := by decide +kernel
theorem dX11_goGust_20 : decode cX11_goGust 20 = .ok (.istore_n 3, 1) := by decide +kernel
theorem dX11_goGust_21 : decode cX11_goGust 21 = .ok (.iinc 4 1, 3) := by decide +kernel
theorem dX11_goGust_24 : decode cX11_goGust 24 = .ok (.goto (-19), 3) := by decide +kernel
theorem dX11_goGust_27 : decode cX11_goGust 27 = .ok (.aload_n 0, 1) := by decide +kernel
theorem dX11_goGust_28 : decode cX11_goGust 28 = .ok (.getfield 13, 3) := by decide +kernel
theorem dX11_goGust_31 : decode cX11_goGust 31 = .ok (.iload_n 1, 1) := by decide +kernel
theorem dX11_goGust_32 : decode cX11_goGust 32 = .ok (.iload_n 2, 1) := by decide +kernel
theorem dX11_goGust_33 : decode cX11_goGust 33 = .ok (.iastore, 1) := by decide +kernel
theorem dX11_goGust_34 : decode cX11_goGust 34 = .ok (.iload_n 2, 1) := by decide +kernel
theorem dX11_goGust_35 : decode cX11_goGust 35 = .ok (.i2l, 1) := by decide +kernel
theorem dX11_goGust_36 : decode cX11_goGust 36 = .ok (.lconst 0, 1) := by decide +kernel
theorem dX11_goGust_37 : decode cX11_goGust 37 = .ok (.ldc2_w 84, 3) := by decide +kernel
theorem dX11_goGust_40 : decode cX11_goGust 40 = .ok (.invokestatic 77, 3) := by decide +kernel
theorem dX11_goGust_43 : decode cX11_goGust 43 = .ok (.ifCond .eq 24, 3) := by decide +kernel
theorem dX11_goGust_46 : decode cX11_goGust 46 = .ok (.iload_n 3, 1) := by decide +kernel
theorem dX11_goGust_47 : decode cX11_goGust 47 = .ok (.bipush 10, 2) := by decide +kernel
theorem dX11_goGust_49 : decode cX11_goGust 49 = .ok (.if_icmp .gt 18, 3) := by decide +kernel
theorem dX11_goGust_52 : decode cX11_goGust 52 = .ok (.iload_n 1, 1) := by decide +kernel
theorem dX11_goGust_53 : decode cX11_goGust 53 = .ok (.iconst 2, 1) := by decide +kernel
theorem dX11_goGust_54 : decode cX11_goGust 54 = .ok (.if_icmp .lt 9, 3) := by decide +kernel
theorem dX11_goGust_57 : decode cX11_goGust 57 = .ok (.iload_n 3, 1) := by decide +kernel
theorem dX11_goGust_58 : decode cX11_goGust 58 = .ok (.bipush 10, 2) := by decide +kernel
theorem dX11_goGust_60 : decode cX11_goGust 60 = .ok (.if_icmp .ne 7, 3) := by decide +kernel
theorem dX11_goGust_63 : decode cX11_goGust 63 = .ok (.iconst 1, 1) := by decide +kernel
theorem dX11_goGust_64 : decode cX11_goGust 64 = .ok (.goto 4, 3) := by decide +kernel
theorem dX11_goGust_67 : decode cX11_goGust 67 = .ok (.iconst 0, 1) := by decide +kernel
theorem dX11_goGust_68 : decode cX11_goGust 68 = .ok (.ireturn, 1) := by decide +kernel
theorem dX11_go_0 : decode cX11_go 0 = .ok (.iload_n 2, 1) := by decide +kernel
theorem dX11_go_1 : decode cX11_go 1 = .ok (.bipush 48, 2) := by decide +kernel
theorem dX11_go_3 : decode cX11_go 3 = .ok (.isub, 1) := by decide +kernel
theorem dX11_go_4 : decode cX11_go 4 = .ok (.istore_n 3, 1) := by decide +kernel
theorem dX11_go_5 : decode cX11_go 5 = .ok (.iload_n 1, 1) := by decide +kernel
theorem dX11_go_6 : decode cX11_go 6 = .ok (.tableswitch 124 0 8 #[50, 65, 88, 100, 88, 115, 115, 115, 88], 50) := by decide +kernel
theorem dX11_go_56 : decode cX11_go 56 = .ok (.aload_n 0, 1) := by decide +kernel
theorem dX11_go_57 : decode cX11_go 57 = .ok (.iload_n 3, 1) := by decide +kernel
theorem dX11_go_58 : decode cX11_go 58 = .ok (.putfield 86, 3) := by decide +kernel
theorem dX11_go_61 : decode cX11_go 61 = .ok (.iload_n 3, 1) := by decide +kernel
theorem dX11_go_62 : decode cX11_go 62 = .ok (.i2l, 1) := by decide +kernel
theorem dX11_go_63 : decode cX11_go 63 = .ok (.lconst 1, 1) := by decide +kernel
theorem dX11_go_64 : decode cX11_go 64 = .ok (.ldc2_w 84, 3) := by decide +kernel
theorem dX11_go_67 : decode cX11_go 67 = .ok (.invokestatic 77, 3) := by decide +kernel
theorem dX11_go_70 : decode cX11_go 70 = .ok (.ireturn, 1) := by decide +kernel
theorem dX11_go_71 : decode cX11_go 71 = .ok (.aload_n 0, 1) := by decide +kernel
theorem dX11_go_72 : decode cX11_go 72 = .ok (.bipush 10, 2) := by decide +kernel
theorem dX11_go_74 : decode cX11_go 74 = .ok (.aload_n 0, 1) := by decide +kernel
theorem dX11_go_75 : decode cX11_go 75 = .ok (.getfield 86, 3) := by decide +kernel
theorem dX11_go_78 : decode cX11_go 78 = .ok (.imul, 1) := by decide +kernel
theorem dX11_go_79 : decode cX11_go 79 = .ok (.iload_n 3, 1) := by decide +kernel
theorem dX11_go_80 : decode cX11_go 80 = .ok (.iadd, 1) := by decide +kernel
theorem dX11_go_81 : decode cX11_go 81 = .ok (.putfield 86, 3) := by decide +kernel
theorem dX11_go_84 : decode cX11_go 84 = .ok (.iload_n 3, 1) := by decide +kernel
theorem dX11_go_85 : decode cX11_go 85 = .ok (.i2l, 1) := by decide +kernel
theorem dX11_go_86 : decode cX11_go 86 = .ok (.lconst 0, 1) := by decide +kernel
theorem dX11_go_87 : decode cX11_go 87 = .ok (.ldc2_w 84, 3) := by decide +kernel
theorem dX11_go_90 : decode cX11_go 90 = .ok (.invokestatic 77, 3) := by decide +kernel
theorem dX11_go_93 : decode cX11_go 93 = .ok (.ireturn, 1) := by decide +kernel
theorem dX11_go_94 : decode cX11_go 94 = .ok (.iload_n 2, 1) := by decide +kernel
theorem dX11_go_95 : decode cX11_go 95 = .ok (.bipush 58, 2) := by decide +kernel
theorem dX11_go_97 : decode cX11_go 97 = .ok (.if_icmp .ne 7, 3) := by decide +kernel
theorem dX11_go_100 : decode cX11_go 100 = .ok (.iconst 1, 1) := by decide +kernel
theorem dX11_go_101 : decode cX11_go 101 = .ok (.goto 4, 3) := by decide +kernel
theorem dX11_go_104 : decode cX11_go 104 = .ok (.iconst 0, 1) := by decide +kernel
theorem dX11_go_105 : decode cX11_go 105 = .ok (.ireturn, 1) := by decide +kernel
theorem dX11_go_106 : decode cX11_go 106 = .ok (.aload_n 0, 1) := by decide +kernel
theorem dX11_go_107 : decode cX11_go 107 = .ok (.iload_n 3, 1) := by decide +kernel
theorem dX11_go_108 : decode cX11_go 108 = .ok (.putfield 89, 3) := by decide +kernel
theorem dX11_go_111 : decode cX11_go 111 = .ok (.iload_n 3, 1) := by decide +kernel
theorem dX11_go_112 : decode cX11_go 112 = .ok (.i2l, 1) := by decide +kernel
theorem dX11_go_113 : decode cX11_go 113 = .ok (.lconst 0, 1) := by decide +kernel
theorem dX11_go_114 : decode cX11_go 114 = .ok (.ldc2_w 84, 3) := by decide +kernel
theorem dX11_go_117 : decode cX11_go 117 = .ok (.invokestatic 77, 3) := by decide +kernel
theorem dX11_go_120 : decode cX11_go 120 = .ok (.ireturn, 1) := by decide +kernel
theorem dX11_go_121 : decode cX11_go 121 = .ok (.aload_n 0, 1) := by decide +kernel
theorem dX11_go_122 : decode cX11_go 122 = .ok (.iload_n 1, 1) := by decide +kernel
theorem dX11_go_123 : decode cX11_go 123 = .ok (.iconst 5, 1) := by decide +kernel
theorem dX11_go_124 : decode cX11_go 124 = .ok (.isub, 1) := by decide +kernel
theorem dX11_go_125 : decode cX11_go 125 = .ok (.iload_n 3, 1) := by decide +kernel
theorem dX11_go_126 : decode cX11_go 126 = .ok (.invokevirtual 92, 3) := by decide +kernel
theorem dX11_go_129 : decode cX11_go 129 = .ok (.ireturn, 1) := by decide +kernel
theorem dX11_go_130 : decode cX11_go 130 = .ok (.aload_n 0, 1) := by decide +kernel
theorem dX11_go_131 : decode cX11_go 131 = .ok (.getfield 96, 3) := by decide +kernel
theorem dX11_go_134 : decode cX11_go 134 = .ok (.bipush 10, 2) := by decide +kernel
theorem dX11_go_136 : decode cX11_go 136 = .ok (.if_icmp .eq 15, 3) := by decide +kernel
theorem dX11_go_139 : decode cX11_go 139 = .ok (.iload_n 3, 1) := by decide +kernel
theorem dX11_go_140 : decode cX11_go 140 = .ok (.i2l, 1) := by decide +kernel
theorem dX11_go_141 : decode cX11_go 141 = .ok (.lconst 0, 1) := by decide +kernel
theorem dX11_go_142 : decode cX11_go 142 = .ok (.ldc2_w 84, 3) := by decide +kernel
theorem dX11_go_145 : decode cX11_go 145 = .ok (.invokestatic 77, 3) := by decide +kernel
theorem dX11_go_148 : decode cX11_go 148 = .ok (.ifCond .ne 5, 3) := by decide +kernel
theorem dX11_go_151 : decode cX11_go 151 = .ok (.iconst 0, 1) := by decide +kernel
theorem dX11_go_152 : decode cX11_go 152 = .ok (.ireturn, 1) := by decide +kernel
theorem dX11_go_153 : decode cX11_go 153 = .ok (.aload_n 0, 1) := by decide +kernel
theorem dX11_go_154 : decode cX11_go 154 = .ok (.getfield 16, 3) := by decide +kernel
theorem dX11_go_157 : decode cX11_go 157 = .ok (.aload_n 0, 1) := by decide +kernel
theorem dX11_go_158 : decode cX11_go 158 = .ok (.getfield 96, 3) := by decide +kernel
theorem dX11_go_161 : decode cX11_go 161 = .ok (.iload_n 3, 1) := by decide +kernel
theorem dX11_go_162 : decode cX11_go 162 = .ok (.iastore, 1) := by decide +kernel
theorem dX11_go_163 : decode cX11_go 163 = .ok (.aload_n 0, 1) := by decide +kernel
theorem dX11_go_164 : decode cX11_go 164 = .ok (.dup, 1) := by decide +kernel
theorem dX11_go_165 : decode cX11_go 165 = .ok (.getfield 96, 3) := by decide +kernel
theorem dX11_go_168 : decode cX11_go 168 = .ok (.iconst 1, 1) := by decide +kernel
theorem dX11_go_169 : decode cX11_go 169 = .ok (.iadd, 1) := by decide +kernel
theorem dX11_go_170 : decode cX11_go 170 = .ok (.putfield 96, 3) := by decide +kernel
theorem dX11_go_173 : decode cX11_go 173 = .ok (.iconst 1, 1) := by decide +kernel
theorem dX11_go_174 : decode cX11_go 174 = .ok (.ireturn, 1) := by decide +kernel
theorem dX11_faultOf_0 : decode cX11_faultOf 0 = .ok (.aload_n 0, 1) := by decide +kernel
theorem dX11_faultOf_1 : decode cX11_faultOf 1 = .ok (.iconst 0, 1) := by decide +kernel
theorem dX11_faultOf_2 : decode cX11_faultOf 2 = .ok (.putfield 96, 3) := by decide +kernel
theorem dX11_faultOf_5 : decode cX11_faultOf 5 = .ok (.iconst 0, 1) := by decide +kernel
theorem dX11_faultOf_6 : decode cX11_faultOf 6 = .ok (.istore_n 1, 1) := by decide +kernel
theorem dX11_faultOf_7 : decode cX11_faultOf 7 = .ok (.iload_n 1, 1) := by decide +kernel
theorem dX11_faultOf_8 : decode cX11_faultOf 8 = .ok (.aload_n 0, 1) := by decide +kernel
theorem dX11_faultOf_9 : decode cX11_faultOf 9 = .ok (.getfield 81, 3) := by decide +kernel
theorem dX11_faultOf_12 : decode cX11_faultOf 12 = .ok (.if_icmp .ge 23, 3) := by decide +kernel
theorem dX11_faultOf_15 : decode cX11_faultOf 15 = .ok (.aload_n 0, 1) := by decide +kernel
theorem dX11_faultOf_16 : decode cX11_faultOf 16 = .ok (.iload_n 1, 1) := by decide +kernel
theorem dX11_faultOf_17 : decode cX11_faultOf 17 = .ok (.aload_n 0, 1) := by decide +kernel
theorem dX11_faultOf_18 : decode cX11_faultOf 18 = .ok (.getfield 7, 3) := by decide +kernel
theorem dX11_faultOf_21 : decode cX11_faultOf 21 = .ok (.iload_n 1, 1) := by decide +kernel
theorem dX11_faultOf_22 : decode cX11_faultOf 22 = .ok (.iaload, 1) := by decide +kernel
theorem dX11_faultOf_23 : decode cX11_faultOf 23 = .ok (.invokevirtual 99, 3) := by decide +kernel
theorem dX11_faultOf_26 : decode cX11_faultOf 26 = .ok (.ifCond .eq 9, 3) := by decide +kernel
theorem dX11_faultOf_29 : decode cX11_faultOf 29 = .ok (.iinc 1 1, 3) := by decide +kernel
theorem dX11_faultOf_32 : decode cX11_faultOf 32 = .ok (.goto (-25), 3) := by decide +kernel
theorem dX11_faultOf_35 : decode cX11_faultOf 35 = .ok (.iload_n 1, 1) := by decide +kernel
theorem dX11_faultOf_36 : decode cX11_faultOf 36 = .ok (.ireturn, 1) := by decide +kernel
theorem dX11_fault_0 : decode cX11_fault 0 = .ok (.aload_n 0, 1) := by decide +kernel
theorem dX11_fault_1 : decode cX11_fault 1 = .ok (.invokevirtual 102, 3) := by decide +kernel
theorem dX11_fault_4 : decode cX11_fault 4 = .ok (.ireturn, 1) := by decide +kernel
theorem dX11_night_0 : decode cX11_night 0 = .ok (.aload_n 0, 1) := by decide +kernel
theorem dX11_night_1 : decode cX11_night 1 = .ok (.invokevirtual 102, 3) := by decide +kernel
theorem dX11_night_4 : decode cX11_night 4 = .ok (.aload_n 0, 1) := by decide +kernel
theorem dX11_night_5 : decode cX11_night 5 = .ok (.getfield 81, 3) := by decide +kernel
theorem dX11_night_8 : decode cX11_night 8 = .ok (.if_icmp .lt 10, 3) := by decide +kernel
theorem dX11_night_11 : decode cX11_night 11 = .ok (.aload_n 0, 1) := by decide +kernel
theorem dX11_night_12 : decode cX11_night 12 = .ok (.getfield 96, 3) := by decide +kernel
theorem dX11_night_15 : decode cX11_night 15 = .ok (.ifCond .ne 6, 3) := by decide +kernel
theorem dX11_night_18 : decode cX11_night 18 = .ok (.bipush (-103), 2) := by decide +kernel
theorem dX11_night_20 : decode cX11_night 20 = .ok (.ireturn, 1) := by decide +kernel
theorem dX11_night_21 : decode cX11_night 21 = .ok (.aload_n 0, 1) := by decide +kernel
theorem dX11_night_22 : decode cX11_night 22 = .ok (.aload_n 0, 1) := by decide +kernel
theorem dX11_night_23 : decode cX11_night 23 = .ok (.getfield 96, 3) := by decide +kernel
theorem dX11_night_26 : decode cX11_night 26 = .ok (.putfield 106, 3) := by decide +kernel
theorem dX11_night_29 : decode cX11_night 29 = .ok (.aload_n 0, 1) := by decide +kernel
theorem dX11_night_30 : decode cX11_night 30 = .ok (.aload_n 0, 1) := by decide +kernel
theorem dX11_night_31 : decode cX11_night 31 = .ok (.getfield 86, 3) := by decide +kernel
theorem dX11_night_34 : decode cX11_night 34 = .ok (.putfield 109, 3) := by decide +kernel
theorem dX11_night_37 : decode cX11_night 37 = .ok (.aload_n 0, 1) := by decide +kernel
theorem dX11_night_38 : decode cX11_night 38 = .ok (.aload_n 0, 1) := by decide +kernel
theorem dX11_night_39 : decode cX11_night 39 = .ok (.getfield 89, 3) := by decide +kernel
theorem dX11_night_42 : decode cX11_night 42 = .ok (.putfield 112, 3) := by decide +kernel
theorem dX11_night_45 : decode cX11_night 45 = .ok (.iconst 0, 1) := by decide +kernel
theorem dX11_night_46 : decode cX11_night 46 = .ok (.istore_n 1, 1) := by decide +kernel
theorem dX11_night_47 : decode cX11_night 47 = .ok (.iload_n 1, 1) := by decide +kernel
theorem dX11_night_48 : decode cX11_night 48 = .ok (.iconst 3, 1) := by decide +kernel
theorem dX11_night_49 : decode cX11_night 49 = .ok (.if_icmp .ge 21, 3) := by decide +kernel
theorem dX11_night_52 : decode cX11_night 52 = .ok (.aload_n 0, 1) := by decide +kernel
theorem dX11_night_53 : decode cX11_night 53 = .ok (.getfield 19, 3) := by decide +kernel
theorem dX11_night_56 : decode cX11_night 56 = .ok (.iload_n 1, 1) := by decide +kernel
theorem dX11_night_57 : decode cX11_night 57 = .ok (.aload_n 0, 1) := by decide +kernel
theorem dX11_night_58 : decode cX11_night 58 = .ok (.getfield 13, 3) := by decide +kernel
theorem dX11_night_61 : decode cX11_night 61 = .ok (.iload_n 1, 1) := by decide +kernel
theorem dX11_night_62 : decode cX11_night 62 = .ok (.iaload, 1) := by decide +kernel
theorem dX11_night_63 : decode cX11_night 63 = .ok (.iastore, 1) := by decide +kernel
theorem dX11_night_64 : decode cX11_night 64 = .ok (.iinc 1 1, 3) := by decide +kernel
theorem dX11_night_67 : decode cX11_night 67 = .ok (.goto (-20), 3) := by decide +kernel
theorem dX11_night_70 : decode cX11_night 70 = .ok (.iconst 0, 1) := by decide +kernel
theorem dX11_night_71 : decode cX11_night 71 = .ok (.istore_n 1, 1) := by decide +kernel
theorem dX11_night_72 : decode cX11_night 72 = .ok (.iload_n 1, 1) := by decide +kernel
theorem dX11_night_73 : decode cX11_night 73 = .ok (.bipush 10, 2) := by decide +kernel
theorem dX11_night_75 : decode cX11_night 75 = .ok (.if_icmp .ge 33, 3) := by decide +kernel
theorem dX11_night_78 : decode cX11_night 78 = .ok (.aload_n 0, 1) := by decide +kernel
theorem dX11_night_79 : decode cX11_night 79 = .ok (.getfield 22, 3) := by decide +kernel
theorem dX11_night_82 : decode cX11_night 82 = .ok (.iload_n 1, 1) := by decide +kernel
theorem dX11_night_83 : decode cX11_night 83 = .ok (.iload_n 1, 1) := by decide +kernel
theorem dX11_night_84 : decode cX11_night 84 = .ok (.aload_n 0, 1) := by decide +kernel
theorem dX11_night_85 : decode cX11_night 85 = .ok (.getfield 106, 3) := by decide +kernel
theorem dX11_night_88 : decode cX11_night 88 = .ok (.if_icmp .ge 12, 3) := by decide +kernel
theorem dX11_night_91 : decode cX11_night 91 = .ok (.aload_n 0, 1) := by decide +kernel
theorem dX11_night_92 : decode cX11_night 92 = .ok (.getfield 16, 3) := by decide +kernel
theorem dX11_night_95 : decode cX11_night 95 = .ok (.iload_n 1, 1) := by decide +kernel
theorem dX11_night_96 : decode cX11_night 96 = .ok (.iaload, 1) := by decide +kernel
theorem dX11_night_97 : decode cX11_night 97 = .ok (.goto 4, 3) := by decide +kernel
theorem dX11_night_100 : decode cX11_night 100 = .ok (.iconst (-1), 1) := by decide +kernel
theorem dX11_night_101 : decode cX11_night 101 = .ok (.iastore, 1) := by decide +kernel
theorem dX11_night_102 : decode cX11_night 102 = .ok (.iinc 1 1, 3) := by decide +kernel
theorem dX11_night_105 : decode cX11_night 105 = .ok (.goto (-33), 3) := by decide +kernel
theorem dX11_night_108 : decode cX11_night 108 = .ok (.aload_n 0, 1) := by decide +kernel
theorem dX11_night_109 : decode cX11_night 109 = .ok (.iconst 0, 1) := by decide +kernel
theorem dX11_night_110 : decode cX11_night 110 = .ok (.putfield 115, 3) := by decide +kernel
theorem dX11_night_113 : decode cX11_night 113 = .ok (.aload_n 0, 1) := by decide +kernel
theorem dX11_night_114 : decode cX11_night 114 = .ok (.iconst 0, 1) := by decide +kernel
theorem dX11_night_115 : decode cX11_night 115 = .ok (.putfield 118, 3) := by decide +kernel
theorem dX11_night_118 : decode cX11_night 118 = .ok (.aload_n 0, 1) := by decide +kernel
theorem dX11_night_119 : decode cX11_night 119 = .ok (.iconst 0, 1) := by decide +kernel
theorem dX11_night_120 : decode cX11_night 120 = .ok (.putfield 121, 3) := by decide +kernel
theorem dX11_night_123 : decode cX11_night 123 = .ok (.aload_n 0, 1) := by decide +kernel
theorem dX11_night_124 : decode cX11_night 124 = .ok (.bipush 60, 2) := by decide +kernel
theorem dX11_night_126 : decode cX11_night 126 = .ok (.putfield 72, 3) := by decide +kernel
theorem dX11_night_129 : decode cX11_night 129 = .ok (.aload_n 0, 1) := by decide +kernel
theorem dX11_night_130 : decode cX11_night 130 = .ok (.iconst 0, 1) := by decide +kernel
theorem dX11_night_131 : decode cX11_night 131 = .ok (.putfield 124, 3) := by decide +kernel
theorem dX11_night_134 : decode cX11_night 134 = .ok (.aload_n 0, 1) := by decide +kernel
theorem dX11_night_135 : decode cX11_night 135 = .ok (.iconst 0, 1) := by decide +kernel
theorem dX11_night_136 : decode cX11_night 136 = .ok (.putfield 127, 3) := by decide +kernel
theorem dX11_night_139 : decode cX11_night 139 = .ok (.aload_n 0, 1) := by decide +kernel
theorem dX11_night_140 : decode cX11_night 140 = .ok (.iconst 0, 1) := by decide +kernel
theorem dX11_night_141 : decode cX11_night 141 = .ok (.putfield 130, 3) := by decide +kernel
theorem dX11_night_144 : decode cX11_night 144 = .ok (.aload_n 0, 1) := by decide +kernel
theorem dX11_night_145 : decode cX11_night 145 = .ok (.iconst 0, 1) := by decide +kernel
theorem dX11_night_146 : decode cX11_night 146 = .ok (.putfield 133, 3) := by decide +kernel
theorem dX11_night_149 : decode cX11_night 149 = .ok (.aload_n 0, 1) := by decide +kernel
theorem dX11_night_150 : decode cX11_night 150 = .ok (.dup, 1) := by decide +kernel
theorem dX11_night_151 : decode cX11_night 151 = .ok (.getfield 136, 3) := by decide +kernel
theorem dX11_night_154 : decode cX11_night 154 = .ok (.iconst 1, 1) := by decide +kernel
theorem dX11_night_155 : decode cX11_night 155 = .ok (.iadd, 1) := by decide +kernel
theorem dX11_night_156 : decode cX11_night 156 = .ok (.putfield 136, 3) := by decide +kernel
theorem dX11_night_159 : decode cX11_night 159 = .ok (.aload_n 0, 1) := by decide +kernel
theorem dX11_night_160 : decode cX11_night 160 = .ok (.iconst 0, 1) := by decide +kernel
theorem dX11_night_161 : decode cX11_night 161 = .ok (.putfield 81, 3) := by decide +kernel
theorem dX11_night_164 : decode cX11_night 164 = .ok (.aload_n 0, 1) := by decide +kernel
theorem dX11_night_165 : decode cX11_night 165 = .ok (.getfield 106, 3) := by decide +kernel
theorem dX11_night_168 : decode cX11_night 168 = .ok (.ireturn, 1) := by decide +kernel
theorem dX11_lacks_0 : decode cX11_lacks 0 = .ok (.aload_n 0, 1) := by decide +kernel
theorem dX11_lacks_1 : decode cX11_lacks 1 = .ok (.getfield 106, 3) := by decide +kernel
theorem dX11_lacks_4 : decode cX11_lacks 4 = .ok (.ifCond .ne 7, 3) := by decide +kernel
theorem dX11_lacks_7 : decode cX11_lacks 7 = .ok (.iconst 1, 1) := by decide +kernel
theorem dX11_lacks_8 : decode cX11_lacks 8 = .ok (.goto 4, 3) := by decide +kernel
theorem dX11_lacks_11 : decode cX11_lacks 11 = .ok (.iconst 0, 1) := by decide +kernel
theorem dX11_lacks_12 : decode cX11_lacks 12 = .ok (.ireturn, 1) := by decide +kernel
theorem dX11_stageNow_0 : decode cX11_stageNow 0 = .ok (.aload_n 0, 1) := by decide +kernel
theorem dX11_stageNow_1 : decode cX11_stageNow 1 = .ok (.getfield 115, 3) := by decide +kernel
theorem dX11_stageNow_4 : decode cX11_stageNow 4 = .ok (.iconst 5, 1) := by decide +kernel
theorem dX11_stageNow_5 : decode cX11_stageNow 5 = .ok (.idiv, 1) := by decide +kernel
theorem dX11_stageNow_6 : decode cX11_stageNow 6 = .ok (.ireturn, 1) := by decide +kernel
theorem dX11_tellSea_0 : decode cX11_tellSea 0 = .ok (.iload_n 1, 1) := by decide +kernel
theorem dX11_tellSea_1 : decode cX11_tellSea 1 = .ok (.ifCond .ne 10, 3) := by decide +kernel
theorem dX11_tellSea_4 : decode cX11_tellSea 4 = .ok (.aload_n 0, 1) := by decide +kernel
theorem dX11_tellSea_5 : decode cX11_tellSea 5 = .ok (.getfield 109, 3) := by decide +kernel
theorem dX11_tellSea_8 : decode cX11_tellSea 8 = .ok (.goto 40, 3) := by decide +kernel
theorem dX11_tellSea_11 : decode cX11_tellSea 11 = .ok (.iload_n 1, 1) := by decide +kernel
theorem dX11_tellSea_12 : decode cX11_tellSea 12 = .ok (.iconst 1, 1) := by decide +kernel
theorem dX11_tellSea_13 : decode cX11_tellSea 13 = .ok (.if_icmp .ne 10, 3) := by decide +kernel
theorem dX11_tellSea_16 : decode cX11_tellSea 16 = .ok (.aload_n 0, 1) := by decide +kernel
theorem dX11_tellSea_17 : decode cX11_tellSea 17 = .ok (.getfield 112, 3) := by decide +kernel
theorem dX11_tellSea_20 : decode cX11_tellSea 20 = .ok (.goto 28, 3) := by decide +kernel
theorem dX11_tellSea_23 : decode cX11_tellSea 23 = .ok (.iload_n 1, 1) := by decide +kernel
theorem dX11_tellSea_24 : decode cX11_tellSea 24 = .ok (.iconst 5, 1) := by decide +kernel
theorem dX11_tellSea_25 : decode cX11_tellSea 25 = .ok (.if_icmp .ge 14, 3) := by decide +kernel
theorem dX11_tellSea_28 : decode cX11_tellSea 28 = .ok (.aload_n 0, 1) := by decide +kernel
theorem dX11_tellSea_29 : decode cX11_tellSea 29 = .ok (.getfield 19, 3) := by decide +kernel
theorem dX11_tellSea_32 : decode cX11_tellSea 32 = .ok (.iload_n 1, 1) := by decide +kernel
theorem dX11_tellSea_33 : decode cX11_tellSea 33 = .ok (.iconst 2, 1) := by decide +kernel
theorem dX11_tellSea_34 : decode cX11_tellSea 34 = .ok (.isub, 1) := by decide +kernel
theorem dX11_tellSea_35 : decode cX11_tellSea 35 = .ok (.iaload, 1) := by decide +kernel
theorem dX11_tellSea_36 : decode cX11_tellSea 36 = .ok (.goto 12, 3) := by decide +kernel
theorem dX11_tellSea_39 : decode cX11_tellSea 39 = .ok (.aload_n 0, 1) := by decide +kernel
theorem dX11_tellSea_40 : decode cX11_tellSea 40 = .ok (.getfield 22, 3) := by decide +kernel
theorem dX11_tellSea_43 : decode cX11_tellSea 43 = .ok (.iload_n 1, 1) := by decide +kernel
theorem dX11_tellSea_44 : decode cX11_tellSea 44 = .ok (.bipush 10, 2) := by decide +kernel
theorem dX11_tellSea_46 : decode cX11_tellSea 46 = .ok (.isub, 1) := by decide +kernel
theorem dX11_tellSea_47 : decode cX11_tellSea 47 = .ok (.iaload, 1) := by decide +kernel
theorem dX11_tellSea_48 : decode cX11_tellSea 48 = .ok (.ireturn, 1) := by decide +kernel
theorem dX11_sea_0 : decode cX11_sea 0 = .ok (.iload_n 1, 1) := by decide +kernel
theorem dX11_sea_1 : decode cX11_sea 1 = .ok (.i2l, 1) := by decide +kernel
theorem dX11_sea_2 : decode cX11_sea 2 = .ok (.lconst 0, 1) := by decide +kernel
theorem dX11_sea_3 : decode cX11_sea 3 = .ok (.ldc2_w 139, 3) := by decide +kernel
theorem dX11_sea_6 : decode cX11_sea 6 = .ok (.invokestatic 77, 3) := by decide +kernel
theorem dX11_sea_9 : decode cX11_sea 9 = .ok (.ifCond .ne 20, 3) := by decide +kernel
theorem dX11_sea_12 : decode cX11_sea 12 = .ok (.iload_n 1, 1) := by decide +kernel
theorem dX11_sea_13 : decode cX11_sea 13 = .ok (.i2l, 1) := by decide +kernel
theorem dX11_sea_14 : decode cX11_sea 14 = .ok (.ldc2_w 141, 3) := by decide +kernel
theorem dX11_sea_17 : decode cX11_sea 17 = .ok (.ldc2_w 143, 3) := by decide +kernel
theorem dX11_sea_20 : decode cX11_sea 20 = .ok (.invokestatic 77, 3) := by decide +kernel
theorem dX11_sea_23 : decode cX11_sea 23 = .ok (.ifCond .ne 6, 3) := by decide +kernel
theorem dX11_sea_26 : decode cX11_sea 26 = .ok (.bipush (-102), 2) := by decide +kernel
theorem dX11_sea_28 : decode cX11_sea 28 = .ok (.ireturn, 1) := by decide +kernel
theorem dX11_sea_29 : decode cX11_sea 29 = .ok (.aload_n 0, 1) := by decide +kernel
theorem dX11_sea_30 : decode cX11_sea 30 = .ok (.invokevirtual 145, 3) := by decide +kernel
theorem dX11_sea_33 : decode cX11_sea 33 = .ok (.ifCond .eq 8, 3) := by decide +kernel
theorem dX11_sea_36 : decode cX11_sea 36 = .ok (.bipush (-103), 2) := by decide +kernel
theorem dX11_sea_38 : decode cX11_sea 38 = .ok (.goto 8, 3) := by decide +kernel
theorem dX11_sea_41 : decode cX11_sea 41 = .ok (.aload_n 0, 1) := by decide +kernel
theorem dX11_sea_42 : decode cX11_sea 42 = .ok (.iload_n 1, 1) := by decide +kernel
theorem dX11_sea_43 : decode cX11_sea 43 = .ok (.invokevirtual 149, 3) := by decide +kernel
theorem dX11_sea_46 : decode cX11_sea 46 = .ok (.ireturn, 1) := by decide +kernel
theorem dX11_isRocket_0 : decode cX11_isRocket 0 = .ok (.iload_n 1, 1) := by decide +kernel
theorem dX11_isRocket_1 : decode cX11_isRocket 1 = .ok (.i2l, 1) := by decide +kernel
theorem dX11_isRocket_2 : decode cX11_isRocket 2 = .ok (.lconst 0, 1) := by decide +kernel
theorem dX11_isRocket_3 : decode cX11_isRocket 3 = .ok (.aload_n 0, 1) := by decide +kernel
theorem dX11_isRocket_4 : decode cX11_isRocket 4 = .ok (.getfield 124, 3) := by decide +kernel
theorem dX11_isRocket_7 : decode cX11_isRocket 7 = .ok (.iconst 1, 1) := by decide +kernel
theorem dX11_isRocket_8 : decode cX11_isRocket 8 = .ok (.isub, 1) := by decide +kernel
theorem dX11_isRocket_9 : decode cX11_isRocket 9 = .ok (.i2l, 1) := by decide +kernel
theorem dX11_isRocket_10 : decode cX11_isRocket 10 = .ok (.invokestatic 77, 3) := by decide +kernel
theorem dX11_isRocket_13 : decode cX11_isRocket 13 = .ok (.ireturn, 1) := by decide +kernel
theorem dX11_rocket_0 : decode cX11_rocket 0 = .ok (.iload_n 1, 1) := by decide +kernel
theorem dX11_rocket_1 : decode cX11_rocket 1 = .ok (.i2l, 1) := by decide +kernel
theorem dX11_rocket_2 : decode cX11_rocket 2 = .ok (.ldc2_w 141, 3) := by decide +kernel
theorem dX11_rocket_5 : decode cX11_rocket 5 = .ok (.ldc2_w 153, 3) := by decide +kernel
theorem dX11_rocket_8 : decode cX11_rocket 8 = .ok (.invokestatic 77, 3) := by decide +kernel
theorem dX11_rocket_11 : decode cX11_rocket 11 = .ok (.ifCond .eq 15, 3) := by decide +kernel
theorem dX11_rocket_14 : decode cX11_rocket 14 = .ok (.iload_n 2, 1) := by decide +kernel
theorem dX11_rocket_15 : decode cX11_rocket 15 = .ok (.i2l, 1) := by decide +kernel
theorem dX11_rocket_16 : decode cX11_rocket 16 = .ok (.lconst 0, 1) := by decide +kernel
theorem dX11_rocket_17 : decode cX11_rocket 17 = .ok (.ldc2_w 84, 3) := by decide +kernel
theorem dX11_rocket_20 : decode cX11_rocket 20 = .ok (.invokestatic 77, 3) := by decide +kernel
theorem dX11_rocket_23 : decode cX11_rocket 23 = .ok (.ifCond .ne 6, 3) := by decide +kernel
theorem dX11_rocket_26 : decode cX11_rocket 26 = .ok (.bipush (-102), 2) := by decide +kernel
theorem dX11_rocket_28 : decode cX11_rocket 28 = .ok (.ireturn, 1) := by decide +kernel
theorem dX11_rocket_29 : decode cX11_rocket 29 = .ok (.aload_n 0, 1) := by decide +kernel
theorem dX11_rocket_30 : decode cX11_rocket 30 = .ok (.invokevirtual 145, 3) := by decide +kernel
theorem dX11_rocket_33 : decode cX11_rocket 33 = .ok (.ifCond .eq 6, 3) := by decide +kernel
theorem dX11_rocket_36 : decode cX11_rocket 36 = .ok (.bipush (-103), 2) := by decide +kernel
theorem dX11_rocket_38 : decode cX11_rocket 38 = .ok (.ireturn, 1) := by decide +kernel
theorem dX11_rocket_39 : decode cX11_rocket 39 = .ok (.aload_n 0, 1) := by decide +kernel
theorem dX11_rocket_40 : decode cX11_rocket 40 = .ok (.getfield 124, 3) := by decide +kernel
theorem dX11_rocket_43 : decode cX11_rocket 43 = .ok (.bipush 6, 2) := by decide +kernel
theorem dX11_rocket_45 : decode cX11_rocket 45 = .ok (.if_icmp .ne 6, 3) := by decide +kernel
theorem dX11_rocket_48 : decode cX11_rocket 48 = .ok (.bipush (-104), 2) := by decide +kernel
theorem dX11_rocket_50 : decode cX11_rocket 50 = .ok (.ireturn, 1) := by decide +kernel
theorem dX11_rocket_51 : decode cX11_rocket 51 = .ok (.aload_n 0, 1) := by decide +kernel
theorem dX11_rocket_52 : decode cX11_rocket 52 = .ok (.getfield 25, 3) := by decide +kernel
theorem dX11_rocket_55 : decode cX11_rocket 55 = .ok (.iconst 3, 1) := by decide +kernel
theorem dX11_rocket_56 : decode cX11_rocket 56 = .ok (.aload_n 0, 1) := by decide +kernel
theorem dX11_rocket_57 : decode cX11_rocket 57 = .ok (.getfield 124, 3) := by decide +kernel
theorem dX11_rocket_60 : decode cX11_rocket 60 = .ok (.imul, 1) := by decide +kernel
theorem dX11_rocket_61 : decode cX11_rocket 61 = .ok (.iload_n 1, 1) := by decide +kernel
theorem dX11_rocket_62 : decode cX11_rocket 62 = .ok (.iastore, 1) := by decide +kernel
theorem dX11_rocket_63 : decode cX11_rocket 63 = .ok (.aload_n 0, 1) := by decide +kernel
theorem dX11_rocket_64 : decode cX11_rocket 64 = .ok (.getfield 25, 3) := by decide +kernel
theorem dX11_rocket_67 : decode cX11_rocket 67 = .ok (.iconst 3, 1) := by decide +kernel
theorem dX11_rocket_68 : decode cX11_rocket 68 = .ok (.aload_n 0, 1) := by decide +kernel
theorem dX11_rocket_69 : decode cX11_rocket 69 = .ok (.getfield 124, 3) := by decide +kernel
theorem dX11_rocket_72 : decode cX11_rocket 72 = .ok (.imul, 1) := by decide +kernel
theorem dX11_rocket_73 : decode cX11_rocket 73 = .ok (.iconst 1, 1) := by decide +kernel
theorem dX11_rocket_74 : decode cX11_rocket 74 = .ok (.iadd, 1) := by decide +kernel
theorem dX11_rocket_75 : decode cX11_rocket 75 = .ok (.iload_n 2, 1) := by decide +kernel
theorem dX11_rocket_76 : decode cX11_rocket 76 = .ok (.iastore, 1) := by decide +kernel
theorem dX11_rocket_77 : decode cX11_rocket 77 = .ok (.aload_n 0, 1) := by decide +kernel
theorem dX11_rocket_78 : decode cX11_rocket 78 = .ok (.getfield 25, 3) := by decide +kernel
theorem dX11_rocket_81 : decode cX11_rocket 81 = .ok (.iconst 3, 1) := by decide +kernel
theorem dX11_rocket_82 : decode cX11_rocket 82 = .ok (.aload_n 0, 1) := by decide +kernel
theorem dX11_rocket_83 : decode cX11_rocket 83 = .ok (.getfield 124, 3) := by decide +kernel
theorem dX11_rocket_86 : decode cX11_rocket 86 = .ok (.imul, 1) := by decide +kernel
theorem dX11_rocket_87 : decode cX11_rocket 87 = .ok (.iconst 2, 1) := by decide +kernel
theorem dX11_rocket_88 : decode cX11_rocket 88 = .ok (.iadd, 1) := by decide +kernel
theorem dX11_rocket_89 : decode cX11_rocket 89 = .ok (.iconst 0, 1) := by decide +kernel
theorem dX11_rocket_90 : decode cX11_rocket 90 = .ok (.iastore, 1) := by decide +kernel
theorem dX11_rocket_91 : decode cX11_rocket 91 = .ok (.aload_n 0, 1) := by decide +kernel
theorem dX11_rocket_92 : decode cX11_rocket 92 = .ok (.dup, 1) := by decide +kernel
theorem dX11_rocket_93 : decode cX11_rocket 93 = .ok (.getfield 124, 3) := by decide +kernel
theorem dX11_rocket_96 : decode cX11_rocket 96 = .ok (.iconst 1, 1) := by decide +kernel
theorem dX11_rocket_97 : decode cX11_rocket 97 = .ok (.iadd, 1) := by decide +kernel
theorem dX11_rocket_98 : decode cX11_rocket 98 = .ok (.putfield 124, 3) := by decide +kernel
theorem dX11_rocket_101 : decode cX11_rocket 101 = .ok (.aload_n 0, 1) := by decide +kernel
theorem dX11_rocket_102 : decode cX11_rocket 102 = .ok (.getfield 124, 3) := by decide +kernel
theorem dX11_rocket_105 : decode cX11_rocket 105 = .ok (.iconst 1, 1) := by decide +kernel
theorem dX11_rocket_106 : decode cX11_rocket 106 = .ok (.isub, 1) := by decide +kernel
theorem dX11_rocket_107 : decode cX11_rocket 107 = .ok (.ireturn, 1) := by decide +kernel
theorem dX11_fallsAt_0 : decode cX11_fallsAt 0 = .ok (.aload_n 0, 1) := by decide +kernel
theorem dX11_fallsAt_1 : decode cX11_fallsAt 1 = .ok (.getfield 25, 3) := by decide +kernel
theorem dX11_fallsAt_4 : decode cX11_fallsAt 4 = .ok (.iconst 3, 1) := by decide +kernel
theorem dX11_fallsAt_5 : decode cX11_fallsAt 5 = .ok (.iload_n 1, 1) := by decide +kernel
theorem dX11_fallsAt_6 : decode cX11_fallsAt 6 = .ok (.imul, 1) := by decide +kernel
theorem dX11_fallsAt_7 : decode cX11_fallsAt 7 = .ok (.iaload, 1) := by decide +kernel
theorem dX11_fallsAt_8 : decode cX11_fallsAt 8 = .ok (.aload_n 0, 1) := by decide +kernel
theorem dX11_fallsAt_9 : decode cX11_fallsAt 9 = .ok (.getfield 25, 3) := by decide +kernel
theorem dX11_fallsAt_12 : decode cX11_fallsAt 12 = .ok (.iconst 3, 1) := by decide +kernel
theorem dX11_fallsAt_13 : decode cX11_fallsAt 13 = .ok (.iload_n 1, 1) := by decide +kernel
theorem dX11_fallsAt_14 : decode cX11_fallsAt 14 = .ok (.imul, 1) := by decide +kernel
theorem dX11_fallsAt_15 : decode cX11_fallsAt 15 = .ok (.iconst 1, 1) := by decide +kernel
theorem dX11_fallsAt_16 : decode cX11_fallsAt 16 = .ok (.iadd, 1) := by decide +kernel
theorem dX11_fallsAt_17 : decode cX11_fallsAt 17 = .ok (.iaload, 1) := by decide +kernel
theorem dX11_fallsAt_18 : decode cX11_fallsAt 18 = .ok (.iload_n 2, 1) := by decide +kernel
theorem dX11_fallsAt_19 : decode cX11_fallsAt 19 = .ok (.imul, 1) := by decide +kernel
theorem dX11_fallsAt_20 : decode cX11_fallsAt 20 = .ok (.isub, 1) := by decide +kernel
theorem dX11_fallsAt_21 : decode cX11_fallsAt 21 = .ok (.iload_n 3, 1) := by decide +kernel
theorem dX11_fallsAt_22 : decode cX11_fallsAt 22 = .ok (.aload_n 0, 1) := by decide +kernel
theorem dX11_fallsAt_23 : decode cX11_fallsAt 23 = .ok (.getfield 112, 3) := by decide +kernel
theorem dX11_fallsAt_26 : decode cX11_fallsAt 26 = .ok (.imul, 1) := by decide +kernel
theorem dX11_fallsAt_27 : decode cX11_fallsAt 27 = .ok (.iadd, 1) := by decide +kernel
theorem dX11_fallsAt_28 : decode cX11_fallsAt 28 = .ok (.ireturn, 1) := by decide +kernel
theorem dX11_isRight_0 : decode cX11_isRight 0 = .ok (.iload_n 1, 1) := by decide +kernel
theorem dX11_isRight_1 : decode cX11_isRight 1 = .ok (.i2l, 1) := by decide +kernel
theorem dX11_isRight_2 : decode cX11_isRight 2 = .ok (.aload_n 0, 1) := by decide +kernel
theorem dX11_isRight_3 : decode cX11_isRight 3 = .ok (.getfield 109, 3) := by decide +kernel
theorem dX11_isRight_6 : decode cX11_isRight 6 = .ok (.i2l, 1) := by decide +kernel
theorem dX11_isRight_7 : decode cX11_isRight 7 = .ok (.aload_n 0, 1) := by decide +kernel
theorem dX11_isRight_8 : decode cX11_isRight 8 = .ok (.getfield 109, 3) := by decide +kernel
theorem dX11_isRight_11 : decode cX11_isRight 11 = .ok (.iconst 5, 1) := by decide +kernel
theorem dX11_isRight_12 : decode cX11_isRight 12 = .ok (.iadd, 1) := by decide +kernel
theorem dX11_isRight_13 : decode cX11_isRight 13 = .ok (.i2l, 1) := by decide +kernel
theorem dX11_isRight_14 : decode cX11_isRight 14 = .ok (.invokestatic 77, 3) := by decide +kernel
theorem dX11_isRight_17 : decode cX11_isRight 17 = .ok (.ireturn, 1) := by decide +kernel
theorem dX11_fire_0 : decode cX11_fire 0 = .ok (.aload_n 0, 1) := by decide +kernel
theorem dX11_fire_1 : decode cX11_fire 1 = .ok (.iload_n 1, 1) := by decide +kernel
theorem dX11_fire_2 : decode cX11_fire 2 = .ok (.invokevirtual 155, 3) := by decide +kernel
theorem dX11_fire_5 : decode cX11_fire 5 = .ok (.ifCond .ne 6, 3) := by decide +kernel
theorem dX11_fire_8 : decode cX11_fire 8 = .ok (.bipush (-101), 2) := by decide +kernel
theorem dX11_fire_10 : decode cX11_fire 10 = .ok (.ireturn, 1) := by decide +kernel
theorem dX11_fire_11 : decode cX11_fire 11 = .ok (.iload_n 2, 1) := by decide +kernel
theorem dX11_fire_12 : decode cX11_fire 12 = .ok (.i2l, 1) := by decide +kernel
theorem dX11_fire_13 : decode cX11_fire 13 = .ok (.ldc2_w 159, 3) := by decide +kernel
theorem dX11_fire_16 : decode cX11_fire 16 = .ok (.lconst 1, 1) := by decide +kernel
theorem dX11_fire_17 : decode cX11_fire 17 = .ok (.invokestatic 77, 3) := by decide +kernel
theorem dX11_fire_20 : decode cX11_fire 20 = .ok (.ifCond .ne 6, 3) := by decide +kernel
theorem dX11_fire_23 : decode cX11_fire 23 = .ok (.bipush (-102), 2) := by decide +kernel
theorem dX11_fire_25 : decode cX11_fire 25 = .ok (.ireturn, 1) := by decide +kernel
theorem dX11_fire_26 : decode cX11_fire 26 = .ok (.aload_n 0, 1) := by decide +kernel
theorem dX11_fire_27 : decode cX11_fire 27 = .ok (.getfield 25, 3) := by decide +kernel
theorem dX11_fire_30 : decode cX11_fire 30 = .ok (.iconst 3, 1) := by decide +kernel
theorem dX11_fire_31 : decode cX11_fire 31 = .ok (.iload_n 1, 1) := by decide +kernel
theorem dX11_fire_32 : decode cX11_fire 32 = .ok (.imul, 1) := by decide +kernel
theorem dX11_fire_33 : decode cX11_fire 33 = .ok (.iconst 2, 1) := by decide +kernel
theorem dX11_fire_34 : decode cX11_fire 34 = .ok (.iadd, 1) := by decide +kernel
theorem dX11_fire_35 : decode cX11_fire 35 = .ok (.iaload, 1) := by decide +kernel
theorem dX11_fire_36 : decode cX11_fire 36 = .ok (.iconst 1, 1) := by decide +kernel
theorem dX11_fire_37 : decode cX11_fire 37 = .ok (.if_icmp .eq 22, 3) := by decide +kernel
theorem dX11_fire_40 : decode cX11_fire 40 = .ok (.aload_n 0, 1) := by decide +kernel
theorem dX11_fire_41 : decode cX11_fire 41 = .ok (.getfield 121, 3) := by decide +kernel
theorem dX11_fire_44 : decode cX11_fire 44 = .ok (.iconst 1, 1) := by decide +kernel
theorem dX11_fire_45 : decode cX11_fire 45 = .ok (.if_icmp .eq 14, 3) := by decide +kernel
theorem dX11_fire_48 : decode cX11_fire 48 = .ok (.aload_n 0, 1) := by decide +kernel
theorem dX11_fire_49 : decode cX11_fire 49 = .ok (.invokevirtual 161, 3) := by decide +kernel
theorem dX11_fire_52 : decode cX11_fire 52 = .ok (.aload_n 0, 1) := by decide +kernel
theorem dX11_fire_53 : decode cX11_fire 53 = .ok (.getfield 106, 3) := by decide +kernel
theorem dX11_fire_56 : decode cX11_fire 56 = .ok (.if_icmp .lt 6, 3) := by decide +kernel
theorem dX11_fire_59 : decode cX11_fire 59 = .ok (.bipush (-103), 2) := by decide +kernel
theorem dX11_fire_61 : decode cX11_fire 61 = .ok (.ireturn, 1) := by decide +kernel
theorem dX11_fire_62 : decode cX11_fire 62 = .ok (.aload_n 0, 1) := by decide +kernel
theorem dX11_fire_63 : decode cX11_fire 63 = .ok (.getfield 25, 3) := by decide +kernel
theorem dX11_fire_66 : decode cX11_fire 66 = .ok (.iconst 3, 1) := by decide +kernel
theorem dX11_fire_67 : decode cX11_fire 67 = .ok (.iload_n 1, 1) := by decide +kernel
theorem dX11_fire_68 : decode cX11_fire 68 = .ok (.imul, 1) := by decide +kernel
theorem dX11_fire_69 : decode cX11_fire 69 = .ok (.iconst 2, 1) := by decide +kernel
theorem dX11_fire_70 : decode cX11_fire 70 = .ok (.iadd, 1) := by decide +kernel
theorem dX11_fire_71 : decode cX11_fire 71 = .ok (.iconst 1, 1) := by decide +kernel
theorem dX11_fire_72 : decode cX11_fire 72 = .ok (.iastore, 1) := by decide +kernel
theorem dX11_fire_73 : decode cX11_fire 73 = .ok (.aload_n 0, 1) := by decide +kernel
theorem dX11_fire_74 : decode cX11_fire 74 = .ok (.iload_n 1, 1) := by decide +kernel
theorem dX11_fire_75 : decode cX11_fire 75 = .ok (.aload_n 0, 1) := by decide +kernel
theorem dX11_fire_76 : decode cX11_fire 76 = .ok (.invokevirtual 161, 3) := by decide +kernel
theorem dX11_fire_79 : decode cX11_fire 79 = .ok (.iload_n 2, 1) := by decide +kernel
theorem dX11_fire_80 : decode cX11_fire 80 = .ok (.invokevirtual 164, 3) := by decide +kernel
theorem dX11_fire_83 : decode cX11_fire 83 = .ok (.istore_n 3, 1) := by decide +kernel
theorem dX11_fire_84 : decode cX11_fire 84 = .ok (.aload_n 0, 1) := by decide +kernel
theorem dX11_fire_85 : decode cX11_fire 85 = .ok (.aload_n 0, 1) := by decide +kernel
theorem dX11_fire_86 : decode cX11_fire 86 = .ok (.iload_n 3, 1) := by decide +kernel
theorem dX11_fire_87 : decode cX11_fire 87 = .ok (.invokevirtual 168, 3) := by decide +kernel
theorem dX11_fire_90 : decode cX11_fire 90 = .ok (.ifCond .eq 7, 3) := by decide +kernel
theorem dX11_fire_93 : decode cX11_fire 93 = .ok (.iconst 1, 1) := by decide +kernel
theorem dX11_fire_94 : decode cX11_fire 94 = .ok (.goto 7, 3) := by decide +kernel
theorem dX11_fire_97 : decode cX11_fire 97 = .ok (.aload_n 0, 1) := by decide +kernel
theorem dX11_fire_98 : decode cX11_fire 98 = .ok (.getfield 118, 3) := by decide +kernel
theorem dX11_fire_101 : decode cX11_fire 101 = .ok (.putfield 118, 3) := by decide +kernel
theorem dX11_fire_104 : decode cX11_fire 104 = .ok (.iload_n 3, 1) := by decide +kernel
theorem dX11_fire_105 : decode cX11_fire 105 = .ok (.ireturn, 1) := by decide +kernel
theorem dX11_hitTenths_0 : decode cX11_hitTenths 0 = .ok (.iconst 0, 1) := by decide +kernel
theorem dX11_hitTenths_1 : decode cX11_hitTenths 1 = .ok (.istore_n 3, 1) := by decide +kernel
theorem dX11_hitTenths_2 : decode cX11_hitTenths 2 = .ok (.iconst (-1), 1) := by decide +kernel
theorem dX11_hitTenths_3 : decode cX11_hitTenths 3 = .ok (.istore 4, 2) := by decide +kernel
theorem dX11_hitTenths_5 : decode cX11_hitTenths 5 = .ok (.iload 4, 2) := by decide +kernel
theorem dX11_hitTenths_7 : decode cX11_hitTenths 7 = .ok (.iconst 2, 1) := by decide +kernel
theorem dX11_hitTenths_8 : decode cX11_hitTenths 8 = .ok (.if_icmp .ge 40, 3) := by decide +kernel
theorem dX11_hitTenths_11 : decode cX11_hitTenths 11 = .ok (.iload_n 3, 1) := by decide +kernel
theorem dX11_hitTenths_12 : decode cX11_hitTenths 12 = .ok (.aload_n 0, 1) := by decide +kernel
theorem dX11_hitTenths_13 : decode cX11_hitTenths 13 = .ok (.aload_n 0, 1) := by decide +kernel
theorem dX11_hitTenths_14 : decode cX11_hitTenths 14 = .ok (.iload_n 1, 1) := by decide +kernel
theorem dX11_hitTenths_15 : decode cX11_hitTenths 15 = .ok (.iload_n 2, 1) := by decide +kernel
theorem dX11_hitTenths_16 : decode cX11_hitTenths 16 = .ok (.iload 4, 2) := by decide +kernel
theorem dX11_hitTenths_18 : decode cX11_hitTenths 18 = .ok (.invokevirtual 164, 3) := by decide +kernel
theorem dX11_hitTenths_21 : decode cX11_hitTenths 21 = .ok (.invokevirtual 168, 3) := by decide +kernel
theorem dX11_hitTenths_24 : decode cX11_hitTenths 24 = .ok (.ifCond .eq 15, 3) := by decide +kernel
theorem dX11_hitTenths_27 : decode cX11_hitTenths 27 = .ok (.aload_n 0, 1) := by decide +kernel
theorem dX11_hitTenths_28 : decode cX11_hitTenths 28 = .ok (.getfield 19, 3) := by decide +kernel
theorem dX11_hitTenths_31 : decode cX11_hitTenths 31 = .ok (.iload 4, 2) := by decide +kernel
theorem dX11_hitTenths_33 : decode cX11_hitTenths 33 = .ok (.iconst 1, 1) := by decide +kernel
theorem dX11_hitTenths_34 : decode cX11_hitTenths 34 = .ok (.iadd, 1) := by decide +kernel
theorem dX11_hitTenths_35 : decode cX11_hitTenths 35 = .ok (.iaload, 1) := by decide +kernel
theorem dX11_hitTenths_36 : decode cX11_hitTenths 36 = .ok (.goto 4, 3) := by decide +kernel
theorem dX11_hitTenths_39 : decode cX11_hitTenths 39 = .ok (.iconst 0, 1) := by decide +kernel
theorem dX11_hitTenths_40 : decode cX11_hitTenths 40 = .ok (.iadd, 1) := by decide +kernel
theorem dX11_hitTenths_41 : decode cX11_hitTenths 41 = .ok (.istore_n 3, 1) := by decide +kernel
theorem dX11_hitTenths_42 : decode cX11_hitTenths 42 = .ok (.iinc 4 1, 3) := by decide +kernel
theorem dX11_hitTenths_45 : decode cX11_hitTenths 45 = .ok (.goto (-40), 3) := by decide +kernel
theorem dX11_hitTenths_48 : decode cX11_hitTenths 48 = .ok (.iload_n 3, 1) := by decide +kernel
theorem dX11_hitTenths_49 : decode cX11_hitTenths 49 = .ok (.ireturn, 1) := by decide +kernel
theorem dX11_term_0 : decode cX11_term 0 = .ok (.lload_n 0, 1) := by decide +kernel
theorem dX11_term_1 : decode cX11_term 1 = .ok (.lstore 5, 2) := by decide +kernel
theorem dX11_term_3 : decode cX11_term 3 = .ok (.lload_n 2, 1) := by decide +kernel
theorem dX11_term_4 : decode cX11_term 4 = .ok (.lstore 7, 2) := by decide +kernel
theorem dX11_term_6 : decode cX11_term 6 = .ok (.lload 5, 2) := by decide +kernel
theorem dX11_term_8 : decode cX11_term 8 = .ok (.lconst 0, 1) := by decide +kernel
theorem dX11_term_9 : decode cX11_term 9 = .ok (.lcmp, 1) := by decide +kernel
theorem dX11_term_10 : decode cX11_term 10 = .ok (.ifCond .eq 21, 3) := by decide +kernel
theorem dX11_term_13 : decode cX11_term 13 = .ok (.lload 7, 2) := by decide +kernel
theorem dX11_term_15 : decode cX11_term 15 = .ok (.lload 5, 2) := by decide +kernel
theorem dX11_term_17 : decode cX11_term 17 = .ok (.lrem, 1) := by decide +kernel
theorem dX11_term_18 : decode cX11_term 18 = .ok (.lstore 9, 2) := by decide +kernel
theorem dX11_term_20 : decode cX11_term 20 = .ok (.lload 5, 2) := by decide +kernel
theorem dX11_term_22 : decode cX11_term 22 = .ok (.lstore 7, 2) := by decide +kernel
theorem dX11_term_24 : decode cX11_term 24 = .ok (.lload 9, 2) := by decide +kernel
theorem dX11_term_26 : decode cX11_term 26 = .ok (.lstore 5, 2) := by decide +kernel
theorem dX11_term_28 : decode cX11_term 28 = .ok (.goto (-22), 3) := by decide +kernel
theorem dX11_term_31 : decode cX11_term 31 = .ok (.iload 4, 2) := by decide +kernel
theorem dX11_term_33 : decode cX11_term 33 = .ok (.ifCond .ne 10, 3) := by decide +kernel
theorem dX11_term_36 : decode cX11_term 36 = .ok (.lload_n 0, 1) := by decide +kernel
theorem dX11_term_37 : decode cX11_term 37 = .ok (.lload 7, 2) := by decide +kernel
theorem dX11_term_39 : decode cX11_term 39 = .ok (.ldiv, 1) := by decide +kernel
theorem dX11_term_40 : decode cX11_term 40 = .ok (.goto 7, 3) := by decide +kernel
theorem dX11_term_43 : decode cX11_term 43 = .ok (.lload_n 2, 1) := by decide +kernel
theorem dX11_term_44 : decode cX11_term 44 = .ok (.lload 7, 2) := by decide +kernel
theorem dX11_term_46 : decode cX11_term 46 = .ok (.ldiv, 1) := by decide +kernel
theorem dX11_term_47 : decode cX11_term 47 = .ok (.lreturn, 1) := by decide +kernel
theorem dX11_hits_0 : decode cX11_hits 0 = .ok (.aload_n 0, 1) := by decide +kernel
theorem dX11_hits_1 : decode cX11_hits 1 = .ok (.iload_n 1, 1) := by decide +kernel
theorem dX11_hits_2 : decode cX11_hits 2 = .ok (.invokevirtual 155, 3) := by decide +kernel
theorem dX11_hits_5 : decode cX11_hits 5 = .ok (.ifCond .ne 7, 3) := by decide +kernel
theorem dX11_hits_8 : decode cX11_hits 8 = .ok (.ldc2_w 171, 3) := by decide +kernel
theorem dX11_hits_11 : decode cX11_hits 11 = .ok (.lreturn, 1) := by decide +kernel
theorem dX11_hits_12 : decode cX11_hits 12 = .ok (.iload_n 2, 1) := by decide +kernel
theorem dX11_hits_13 : decode cX11_hits 13 = .ok (.i2l, 1) := by decide +kernel
theorem dX11_hits_14 : decode cX11_hits 14 = .ok (.lconst 0, 1) := by decide +kernel
theorem dX11_hits_15 : decode cX11_hits 15 = .ok (.ldc2_w 84, 3) := by decide +kernel
theorem dX11_hits_18 : decode cX11_hits 18 = .ok (.invokestatic 77, 3) := by decide +kernel
theorem dX11_hits_21 : decode cX11_hits 21 = .ok (.ifCond .eq 13, 3) := by decide +kernel
theorem dX11_hits_24 : decode cX11_hits 24 = .ok (.iload_n 3, 1) := by decide +kernel
theorem dX11_hits_25 : decode cX11_hits 25 = .ok (.i2l, 1) := by decide +kernel
theorem dX11_hits_26 : decode cX11_hits 26 = .ok (.lconst 0, 1) := by decide +kernel
theorem dX11_hits_27 : decode cX11_hits 27 = .ok (.lconst 1, 1) := by decide +kernel
theorem dX11_hits_28 : decode cX11_hits 28 = .ok (.invokestatic 77, 3) := by decide +kernel
theorem dX11_hits_31 : decode cX11_hits 31 = .ok (.ifCond .ne 7, 3) := by decide +kernel
theorem dX11_hits_34 : decode cX11_hits 34 = .ok (.ldc2_w 173, 3) := by decide +kernel
theorem dX11_hits_37 : decode cX11_hits 37 = .ok (.lreturn, 1) := by decide +kernel
theorem dX11_hits_38 : decode cX11_hits 38 = .ok (.aload_n 0, 1) := by decide +kernel
theorem dX11_hits_39 : decode cX11_hits 39 = .ok (.iload_n 1, 1) := by decide +kernel
theorem dX11_hits_40 : decode cX11_hits 40 = .ok (.iload_n 2, 1) := by decide +kernel
theorem dX11_hits_41 : decode cX11_hits 41 = .ok (.invokevirtual 175, 3) := by decide +kernel
theorem dX11_hits_44 : decode cX11_hits 44 = .ok (.i2l, 1) := by decide +kernel
theorem dX11_hits_45 : decode cX11_hits 45 = .ok (.ldc2_w 141, 3) := by decide +kernel
theorem dX11_hits_48 : decode cX11_hits 48 = .ok (.iload_n 3, 1) := by decide +kernel
theorem dX11_hits_49 : decode cX11_hits 49 = .ok (.invokestatic 179, 3) := by decide +kernel
theorem dX11_hits_52 : decode cX11_hits 52 = .ok (.lreturn, 1) := by decide +kernel
theorem dX11_leftBits_0 : decode cX11_leftBits 0 = .ok (.iconst 0, 1) := by decide +kernel
theorem dX11_leftBits_1 : decode cX11_leftBits 1 = .ok (.istore_n 1, 1) := by decide +kernel
theorem dX11_leftBits_2 : decode cX11_leftBits 2 = .ok (.iconst 0, 1) := by decide +kernel
theorem dX11_leftBits_3 : decode cX11_leftBits 3 = .ok (.istore_n 2, 1) := by decide +kernel
theorem dX11_leftBits_4 : decode cX11_leftBits 4 = .ok (.iload_n 2, 1) := by decide +kernel
theorem dX11_leftBits_5 : decode cX11_leftBits 5 = .ok (.aload_n 0, 1) := by decide +kernel
theorem dX11_leftBits_6 : decode cX11_leftBits 6 = .ok (.getfield 124, 3) := by decide +kernel
theorem dX11_leftBits_9 : decode cX11_leftBits 9 = .ok (.if_icmp .ge 32, 3) := by decide +kernel
theorem dX11_leftBits_12 : decode cX11_leftBits 12 = .ok (.iload_n 1, 1) := by decide +kernel
theorem dX11_leftBits_13 : decode cX11_leftBits 13 = .ok (.aload_n 0, 1) := by decide +kernel
theorem dX11_leftBits_14 : decode cX11_leftBits 14 = .ok (.getfield 25, 3) := by decide +kernel
theorem dX11_leftBits_17 : decode cX11_leftBits 17 = .ok (.iconst 3, 1) := by decide +kernel
theorem dX11_leftBits_18 : decode cX11_leftBits 18 = .ok (.iload_n 2, 1) := by decide +kernel
theorem dX11_leftBits_19 : decode cX11_leftBits 19 = .ok (.imul, 1) := by decide +kernel
theorem dX11_leftBits_20 : decode cX11_leftBits 20 = .ok (.iconst 2, 1) := by decide +kernel
theorem dX11_leftBits_21 : decode cX11_leftBits 21 = .ok (.iadd, 1) := by decide +kernel
theorem dX11_leftBits_22 : decode cX11_leftBits 22 = .ok (.iaload, 1) := by decide +kernel
theorem dX11_leftBits_23 : decode cX11_leftBits 23 = .ok (.ifCond .ne 9, 3) := by decide +kernel
theorem dX11_leftBits_26 : decode cX11_leftBits 26 = .ok (.iconst 1, 1) := by decide +kernel
theorem dX11_leftBits_27 : decode cX11_leftBits 27 = .ok (.iload_n 2, 1) := by decide +kernel
theorem dX11_leftBits_28 : decode cX11_leftBits 28 = .ok (.ishl, 1) := by decide +kernel
theorem dX11_leftBits_29 : decode cX11_leftBits 29 = .ok (.goto 4, 3) := by decide +kernel
theorem dX11_leftBits_32 : decode cX11_leftBits 32 = .ok (.iconst 0, 1) := by decide +kernel
theorem dX11_leftBits_33 : decode cX11_leftBits 33 = .ok (.ior, 1) := by decide +kernel
theorem dX11_leftBits_34 : decode cX11_leftBits 34 = .ok (.istore_n 1, 1) := by decide +kernel
theorem dX11_leftBits_35 : decode cX11_leftBits 35 = .ok (.iinc 2 1, 3) := by decide +kernel
theorem dX11_leftBits_38 : decode cX11_leftBits 38 = .ok (.goto (-34), 3) := by decide +kernel
theorem dX11_leftBits_41 : decode cX11_leftBits 41 = .ok (.iload_n 1, 1) := by decide +kernel
theorem dX11_leftBits_42 : decode cX11_leftBits 42 = .ok (.ireturn, 1) := by decide +kernel
theorem dX11_bestOf_0 : decode cX11_bestOf 0 = .ok (.ldc2_w 141, 3) := by decide +kernel
theorem dX11_bestOf_3 : decode cX11_bestOf 3 = .ok (.aload_n 0, 1) := by decide +kernel
theorem dX11_bestOf_4 : decode cX11_bestOf 4 = .ok (.getfield 22, 3) := by decide +kernel
theorem dX11_bestOf_7 : decode cX11_bestOf 7 = .ok (.iload_n 1, 1) := by decide +kernel
theorem dX11_bestOf_8 : decode cX11_bestOf 8 = .ok (.iaload, 1) := by decide +kernel
theorem dX11_bestOf_9 : decode cX11_bestOf 9 = .ok (.i2l, 1) := by decide +kernel
theorem dX11_bestOf_10 : decode cX11_bestOf 10 = .ok (.lsub, 1) := by decide +kernel
theorem dX11_bestOf_11 : decode cX11_bestOf 11 = .ok (.lstore 5, 2) := by decide +kernel
theorem dX11_bestOf_13 : decode cX11_bestOf 13 = .ok (.aload_n 0, 1) := by decide +kernel
theorem dX11_bestOf_14 : decode cX11_bestOf 14 = .ok (.iconst (-1), 1) := by decide +kernel
theorem dX11_bestOf_15 : decode cX11_bestOf 15 = .ok (.putfield 183, 3) := by decide +kernel
theorem dX11_bestOf_18 : decode cX11_bestOf 18 = .ok (.ldc2_w 141, 3) := by decide +kernel
theorem dX11_bestOf_21 : decode cX11_bestOf 21 = .ok (.lload 5, 2) := by decide +kernel
theorem dX11_bestOf_23 : decode cX11_bestOf 23 = .ok (.lmul, 1) := by decide +kernel
theorem dX11_bestOf_24 : decode cX11_bestOf 24 = .ok (.aload_n 0, 1) := by decide +kernel
theorem dX11_bestOf_25 : decode cX11_bestOf 25 = .ok (.getfield 28, 3) := by decide +kernel
theorem dX11_bestOf_28 : decode cX11_bestOf 28 = .ok (.iload 4, 2) := by decide +kernel
theorem dX11_bestOf_30 : decode cX11_bestOf 30 = .ok (.laload, 1) := by decide +kernel
theorem dX11_bestOf_31 : decode cX11_bestOf 31 = .ok (.lmul, 1) := by decide +kernel
theorem dX11_bestOf_32 : decode cX11_bestOf 32 = .ok (.lstore 7, 2) := by decide +kernel
theorem dX11_bestOf_34 : decode cX11_bestOf 34 = .ok (.iconst 0, 1) := by decide +kernel
theorem dX11_bestOf_35 : decode cX11_bestOf 35 = .ok (.istore 9, 2) := by decide +kernel
theorem dX11_bestOf_37 : decode cX11_bestOf 37 = .ok (.iload 9, 2) := by decide +kernel
theorem dX11_bestOf_39 : decode cX11_bestOf 39 = .ok (.aload_n 0, 1) := by decide +kernel
theorem dX11_bestOf_40 : decode cX11_bestOf 40 = .ok (.getfield 124, 3) := by decide +kernel
theorem dX11_bestOf_43 : decode cX11_bestOf 43 = .ok (.if_icmp .ge 103, 3) := by decide +kernel
theorem dX11_bestOf_46 : decode cX11_bestOf 46 = .ok (.iload 4, 2) := by decide +kernel
theorem dX11_bestOf_48 : decode cX11_bestOf 48 = .ok (.iload 9, 2) := by decide +kernel
theorem dX11_bestOf_50 : decode cX11_bestOf 50 = .ok (.ishr, 1) := by decide +kernel
theorem dX11_bestOf_51 : decode cX11_bestOf 51 = .ok (.iconst 1, 1) := by decide +kernel
theorem dX11_bestOf_52 : decode cX11_bestOf 52 = .ok (.iand, 1) := by decide +kernel
theorem dX11_bestOf_53 : decode cX11_bestOf 53 = .ok (.iconst 1, 1) := by decide +kernel
theorem dX11_bestOf_54 : decode cX11_bestOf 54 = .ok (.if_icmp .ne 86, 3) := by decide +kernel
theorem dX11_bestOf_57 : decode cX11_bestOf 57 = .ok (.aload_n 0, 1) := by decide +kernel
theorem dX11_bestOf_58 : decode cX11_bestOf 58 = .ok (.iload 9, 2) := by decide +kernel
theorem dX11_bestOf_60 : decode cX11_bestOf 60 = .ok (.iload_n 1, 1) := by decide +kernel
theorem dX11_bestOf_61 : decode cX11_bestOf 61 = .ok (.invokevirtual 175, 3) := by decide +kernel
theorem dX11_bestOf_64 : decode cX11_bestOf 64 = .ok (.i2l, 1) := by decide +kernel
theorem dX11_bestOf_65 : decode cX11_bestOf 65 = .ok (.lstore 10, 2) := by decide +kernel
theorem dX11_bestOf_67 : decode cX11_bestOf 67 = .ok (.ldc2_w 141, 3) := by decide +kernel
theorem dX11_bestOf_70 : decode cX11_bestOf 70 = .ok (.lload 10, 2) := by decide +kernel
theorem dX11_bestOf_72 : decode cX11_bestOf 72 = .ok (.lmul, 1) := by decide +kernel
theorem dX11_bestOf_73 : decode cX11_bestOf 73 = .ok (.lload_n 2, 1) := by decide +kernel
theorem dX11_bestOf_74 : decode cX11_bestOf 74 = .ok (.lmul, 1) := by decide +kernel
theorem dX11_bestOf_75 : decode cX11_bestOf 75 = .ok (.ldc2_w 141, 3) := by decide +kernel
theorem dX11_bestOf_78 : decode cX11_bestOf 78 = .ok (.lload 10, 2) := by decide +kernel
theorem dX11_bestOf_80 : decode cX11_bestOf 80 = .ok (.lsub, 1) := by decide +kernel
theorem dX11_bestOf_81 : decode cX11_bestOf 81 = .ok (.lload 5, 2) := by decide +kernel
theorem dX11_bestOf_83 : decode cX11_bestOf 83 = .ok (.lmul, 1) := by decide +kernel
theorem dX11_bestOf_84 : decode cX11_bestOf 84 = .ok (.aload_n 0, 1) := by decide +kernel
theorem dX11_bestOf_85 : decode cX11_bestOf 85 = .ok (.getfield 28, 3) := by decide +kernel
theorem dX11_bestOf_88 : decode cX11_bestOf 88 = .ok (.iload 4, 2) := by decide +kernel
theorem dX11_bestOf_90 : decode cX11_bestOf 90 = .ok (.iconst 1, 1) := by decide +kernel
theorem dX11_bestOf_91 : decode cX11_bestOf 91 = .ok (.iload 9, 2) := by decide +kernel
theorem dX11_bestOf_93 : decode cX11_bestOf 93 = .ok (.ishl, 1) := by decide +kernel
theorem dX11_bestOf_94 : decode cX11_bestOf 94 = .ok (.iconst (-1), 1) := by decide +kernel
theorem dX11_bestOf_95 : decode cX11_bestOf 95 = .ok (.ixor, 1) := by decide +kernel
theorem dX11_bestOf_96 : decode cX11_bestOf 96 = .ok (.iand, 1) := by decide +kernel
theorem dX11_bestOf_97 : decode cX11_bestOf 97 = .ok (.laload, 1) := by decide +kernel
theorem dX11_bestOf_98 : decode cX11_bestOf 98 = .ok (.lmul, 1) := by decide +kernel
theorem dX11_bestOf_99 : decode cX11_bestOf 99 = .ok (.ladd, 1) := by decide +kernel
theorem dX11_bestOf_100 : decode cX11_bestOf 100 = .ok (.lstore 12, 2) := by decide +kernel
theorem dX11_bestOf_102 : decode cX11_bestOf 102 = .ok (.aload_n 0, 1) := by decide +kernel
theorem dX11_bestOf_103 : decode cX11_bestOf 103 = .ok (.lload 12, 2) := by decide +kernel
theorem dX11_bestOf_105 : decode cX11_bestOf 105 = .ok (.lload 7, 2) := by decide +kernel
theorem dX11_bestOf_107 : decode cX11_bestOf 107 = .ok (.lcmp, 1) := by decide +kernel
theorem dX11_bestOf_108 : decode cX11_bestOf 108 = .ok (.ifCond .le 8, 3) := by decide +kernel
theorem dX11_bestOf_111 : decode cX11_bestOf 111 = .ok (.iload 9, 2) := by decide +kernel
theorem dX11_bestOf_113 : decode cX11_bestOf 113 = .ok (.goto 7, 3) := by decide +kernel
theorem dX11_bestOf_116 : decode cX11_bestOf 116 = .ok (.aload_n 0, 1) := by decide +kernel
theorem dX11_bestOf_117 : decode cX11_bestOf 117 = .ok (.getfield 183, 3) := by decide +kernel
theorem dX11_bestOf_120 : decode cX11_bestOf 120 = .ok (.putfield 183, 3) := by decide +kernel
theorem dX11_bestOf_123 : decode cX11_bestOf 123 = .ok (.lload 12, 2) := by decide +kernel
theorem dX11_bestOf_125 : decode cX11_bestOf 125 = .ok (.lload 7, 2) := by decide +kernel
theorem dX11_bestOf_127 : decode cX11_bestOf 127 = .ok (.lcmp, 1) := by decide +kernel
theorem dX11_bestOf_128 : decode cX11_bestOf 128 = .ok (.ifCond .le 8, 3) := by decide +kernel
theorem dX11_bestOf_131 : decode cX11_bestOf 131 = .ok (.lload 12, 2) := by decide +kernel
theorem dX11_bestOf_133 : decode cX11_bestOf 133 = .ok (.goto 5, 3) := by decide +kernel
theorem dX11_bestOf_136 : decode cX11_bestOf 136 = .ok (.lload 7, 2) := by decide +kernel
theorem dX11_bestOf_138 : decode cX11_bestOf 138 = .ok (.lstore 7, 2) := by decide +kernel
theorem dX11_bestOf_140 : decode cX11_bestOf 140 = .ok (.iinc 9 1, 3) := by decide +kernel
theorem dX11_bestOf_143 : decode cX11_bestOf 143 = .ok (.goto (-106), 3) := by decide +kernel
theorem dX11_bestOf_146 : decode cX11_bestOf 146 = .ok (.lload 7, 2) := by decide +kernel
theorem dX11_bestOf_148 : decode cX11_bestOf 148 = .ok (.lreturn, 1) := by decide +kernel
theorem dX11_aimOf_0 : decode cX11_aimOf 0 = .ok (.iconst 0, 1) := by decide +kernel
theorem dX11_aimOf_1 : decode cX11_aimOf 1 = .ok (.istore_n 2, 1) := by decide +kernel
theorem dX11_aimOf_2 : decode cX11_aimOf 2 = .ok (.iload_n 2, 1) := by decide +kernel
theorem dX11_aimOf_3 : decode cX11_aimOf 3 = .ok (.bipush 64, 2) := by decide +kernel
theorem dX11_aimOf_5 : decode cX11_aimOf 5 = .ok (.if_icmp .ge 16, 3) := by decide +kernel
theorem dX11_aimOf_8 : decode cX11_aimOf 8 = .ok (.aload_n 0, 1) := by decide +kernel
theorem dX11_aimOf_9 : decode cX11_aimOf 9 = .ok (.getfield 28, 3) := by decide +kernel
theorem dX11_aimOf_12 : decode cX11_aimOf 12 = .ok (.iload_n 2, 1) := by decide +kernel
theorem dX11_aimOf_13 : decode cX11_aimOf 13 = .ok (.lconst 0, 1) := by decide +kernel
theorem dX11_aimOf_14 : decode cX11_aimOf 14 = .ok (.lastore, 1) := by decide +kernel
theorem dX11_aimOf_15 : decode cX11_aimOf 15 = .ok (.iinc 2 1, 3) := by decide +kernel
theorem dX11_aimOf_18 : decode cX11_aimOf 18 = .ok (.goto (-16), 3) := by decide +kernel
theorem dX11_aimOf_21 : decode cX11_aimOf 21 = .ok (.lconst 1, 1) := by decide +kernel
theorem dX11_aimOf_22 : decode cX11_aimOf 22 = .ok (.lstore_n 2, 1) := by decide +kernel
theorem dX11_aimOf_23 : decode cX11_aimOf 23 = .ok (.aload_n 0, 1) := by decide +kernel
theorem dX11_aimOf_24 : decode cX11_aimOf 24 = .ok (.invokevirtual 161, 3) := by decide +kernel
theorem dX11_aimOf_27 : decode cX11_aimOf 27 = .ok (.istore 4, 2) := by decide +kernel
theorem dX11_aimOf_29 : decode cX11_aimOf 29 = .ok (.iload 4, 2) := by decide +kernel
theorem dX11_aimOf_31 : decode cX11_aimOf 31 = .ok (.iload_n 1, 1) := by decide +kernel
theorem dX11_aimOf_32 : decode cX11_aimOf 32 = .ok (.iadd, 1) := by decide +kernel
theorem dX11_aimOf_33 : decode cX11_aimOf 33 = .ok (.aload_n 0, 1) := by decide +kernel
theorem dX11_aimOf_34 : decode cX11_aimOf 34 = .ok (.getfield 106, 3) := by decide +kernel
theorem dX11_aimOf_37 : decode cX11_aimOf 37 = .ok (.if_icmp .ge 10, 3) := by decide +kernel
theorem dX11_aimOf_40 : decode cX11_aimOf 40 = .ok (.iload 4, 2) := by decide +kernel
theorem dX11_aimOf_42 : decode cX11_aimOf 42 = .ok (.iload_n 1, 1) := by decide +kernel
theorem dX11_aimOf_43 : decode cX11_aimOf 43 = .ok (.iadd, 1) := by decide +kernel
theorem dX11_aimOf_44 : decode cX11_aimOf 44 = .ok (.goto 7, 3) := by decide +kernel
theorem dX11_aimOf_47 : decode cX11_aimOf 47 = .ok (.aload_n 0, 1) := by decide +kernel
theorem dX11_aimOf_48 : decode cX11_aimOf 48 = .ok (.getfield 106, 3) := by decide +kernel
theorem dX11_aimOf_51 : decode cX11_aimOf 51 = .ok (.istore 5, 2) := by decide +kernel
theorem dX11_aimOf_53 : decode cX11_aimOf 53 = .ok (.iconst 0, 1) := by decide +kernel
theorem dX11_aimOf_54 : decode cX11_aimOf 54 = .ok (.istore 6, 2) := by decide +kernel
theorem dX11_aimOf_56 : decode cX11_aimOf 56 = .ok (.iload 6, 2) := by decide +kernel
theorem dX11_aimOf_58 : decode cX11_aimOf 58 = .ok (.iload_n 1, 1) := by decide +kernel
theorem dX11_aimOf_59 : decode cX11_aimOf 59 = .ok (.iload 5, 2) := by decide +kernel
theorem dX11_aimOf_61 : decode cX11_aimOf 61 = .ok (.iload 4, 2) := by decide +kernel
theorem dX11_aimOf_63 : decode cX11_aimOf 63 = .ok (.isub, 1) := by decide +kernel
theorem dX11_aimOf_64 : decode cX11_aimOf 64 = .ok (.isub, 1) := by decide +kernel
theorem dX11_aimOf_65 : decode cX11_aimOf 65 = .ok (.if_icmp .ge 15, 3) := by decide +kernel
theorem dX11_aimOf_68 : decode cX11_aimOf 68 = .ok (.lload_n 2, 1) := by decide +kernel
theorem dX11_aimOf_69 : decode cX11_aimOf 69 = .ok (.ldc2_w 186, 3) := by decide +kernel
theorem dX11_aimOf_72 : decode cX11_aimOf 72 = .ok (.lmul, 1) := by decide +kernel
theorem dX11_aimOf_73 : decode cX11_aimOf 73 = .ok (.lstore_n 2, 1) := by decide +kernel
theorem dX11_aimOf_74 : decode cX11_aimOf 74 = .ok (.iinc 6 1, 3) := by decide +kernel
theorem dX11_aimOf_77 : decode cX11_aimOf 77 = .ok (.goto (-21), 3) := by decide +kernel
theorem dX11_aimOf_80 : decode cX11_aimOf 80 = .ok (.iload 5, 2) := by decide +kernel
theorem dX11_aimOf_82 : decode cX11_aimOf 82 = .ok (.iconst 1, 1) := by decide +kernel
theorem dX11_aimOf_83 : decode cX11_aimOf 83 = .ok (.isub, 1) := by decide +kernel
theorem dX11_aimOf_84 : decode cX11_aimOf 84 = .ok (.istore 6, 2) := by decide +kernel
theorem dX11_aimOf_86 : decode cX11_aimOf 86 = .ok (.iload 6, 2) := by decide +kernel
theorem dX11_aimOf_88 : decode cX11_aimOf 88 = .ok (.iload 4, 2) := by decide +kernel
theorem dX11_aimOf_90 : decode cX11_aimOf 90 = .ok (.if_icmp .lt 77, 3) := by decide +kernel
theorem dX11_aimOf_93 : decode cX11_aimOf 93 = .ok (.iconst 0, 1) := by decide +kernel
theorem dX11_aimOf_94 : decode cX11_aimOf 94 = .ok (.istore 7, 2) := by decide +kernel
theorem dX11_aimOf_96 : decode cX11_aimOf 96 = .ok (.iload 7, 2) := by decide +kernel
theorem dX11_aimOf_98 : decode cX11_aimOf 98 = .ok (.bipush 64, 2) := by decide +kernel
theorem dX11_aimOf_100 : decode cX11_aimOf 100 = .ok (.if_icmp .ge 25, 3) := by decide +kernel
theorem dX11_aimOf_103 : decode cX11_aimOf 103 = .ok (.aload_n 0, 1) := by decide +kernel
theorem dX11_aimOf_104 : decode cX11_aimOf 104 = .ok (.getfield 32, 3) := by decide +kernel
theorem dX11_aimOf_107 : decode cX11_aimOf 107 = .ok (.iload 7, 2) := by decide +kernel
theorem dX11_aimOf_109 : decode cX11_aimOf 109 = .ok (.aload_n 0, 1) := by decide +kernel
theorem dX11_aimOf_110 : decode cX11_aimOf 110 = .ok (.iload 6, 2) := by decide +kernel
theorem dX11_aimOf_112 : decode cX11_aimOf 112 = .ok (.lload_n 2, 1) := by decide +kernel
theorem dX11_aimOf_113 : decode cX11_aimOf 113 = .ok (.iload 7, 2) := by decide +kernel
theorem dX11_aimOf_115 : decode cX11_aimOf 115 = .ok (.invokevirtual 188, 3) := by decide +kernel
theorem dX11_aimOf_118 : decode cX11_aimOf 118 = .ok (.lastore, 1) := by decide +kernel
theorem dX11_aimOf_119 : decode cX11_aimOf 119 = .ok (.iinc 7 1, 3) := by decide +kernel
theorem dX11_aimOf_122 : decode cX11_aimOf 122 = .ok (.goto (-26), 3) := by decide +kernel
theorem dX11_aimOf_125 : decode cX11_aimOf 125 = .ok (.iconst 0, 1) := by decide +kernel
theorem dX11_aimOf_126 : decode cX11_aimOf 126 = .ok (.istore 7, 2) := by decide +kernel
theorem dX11_aimOf_128 : decode cX11_aimOf 128 = .ok (.iload 7, 2) := by decide +kernel
theorem dX11_aimOf_130 : decode cX11_aimOf 130 = .ok (.bipush 64, 2) := by decide +kernel
theorem dX11_aimOf_132 : decode cX11_aimOf 132 = .ok (.if_icmp .ge 23, 3) := by decide +kernel
theorem dX11_aimOf_135 : decode cX11_aimOf 135 = .ok (.aload_n 0, 1) := by decide +kernel
theorem dX11_aimOf_136 : decode cX11_aimOf 136 = .ok (.getfield 28, 3) := by decide +kernel
theorem dX11_aimOf_139 : decode cX11_aimOf 139 = .ok (.iload 7, 2) := by decide +kernel
theorem dX11_aimOf_141 : decode cX11_aimOf 141 = .ok (.aload_n 0, 1) := by decide +kernel
theorem dX11_aimOf_142 : decode cX11_aimOf 142 = .ok (.getfield 32, 3) := by decide +kernel
theorem dX11_aimOf_145 : decode cX11_aimOf 145 = .ok (.iload 7, 2) := by decide +kernel
theorem dX11_aimOf_147 : decode cX11_aimOf 147 = .ok (.laload, 1) := by decide +kernel
theorem dX11_aimOf_148 : decode cX11_aimOf 148 = .ok (.lastore, 1) := by decide +kernel
theorem dX11_aimOf_149 : decode cX11_aimOf 149 = .ok (.iinc 7 1, 3) := by decide +kernel
theorem dX11_aimOf_152 : decode cX11_aimOf 152 = .ok (.goto (-24), 3) := by decide +kernel
theorem dX11_aimOf_155 : decode cX11_aimOf 155 = .ok (.lload_n 2, 1) := by decide +kernel
theorem dX11_aimOf_156 : decode cX11_aimOf 156 = .ok (.ldc2_w 186, 3) := by decide +kernel
theorem dX11_aimOf_159 : decode cX11_aimOf 159 = .ok (.lmul, 1) := by decide +kernel
theorem dX11_aimOf_160 : decode cX11_aimOf 160 = .ok (.lstore_n 2, 1) := by decide +kernel
theorem dX11_aimOf_161 : decode cX11_aimOf 161 = .ok (.iinc 6 (-1), 3) := by decide +kernel
theorem dX11_aimOf_164 : decode cX11_aimOf 164 = .ok (.goto (-78), 3) := by decide +kernel
theorem dX11_aimOf_167 : decode cX11_aimOf 167 = .ok (.aload_n 0, 1) := by decide +kernel
theorem dX11_aimOf_168 : decode cX11_aimOf 168 = .ok (.getfield 28, 3) := by decide +kernel
theorem dX11_aimOf_171 : decode cX11_aimOf 171 = .ok (.aload_n 0, 1) := by decide +kernel
theorem dX11_aimOf_172 : decode cX11_aimOf 172 = .ok (.invokevirtual 192, 3) := by decide +kernel
theorem dX11_aimOf_175 : decode cX11_aimOf 175 = .ok (.laload, 1) := by decide +kernel
theorem dX11_aimOf_176 : decode cX11_aimOf 176 = .ok (.lreturn, 1) := by decide +kernel
theorem dX11_hundreds_0 : decode cX11_hundreds 0 = .ok (.lconst 1, 1) := by decide +kernel
theorem dX11_hundreds_1 : decode cX11_hundreds 1 = .ok (.lstore_n 1, 1) := by decide +kernel
theorem dX11_hundreds_2 : decode cX11_hundreds 2 = .ok (.iconst 0, 1) := by decide +kernel
theorem dX11_hundreds_3 : decode cX11_hundreds 3 = .ok (.istore_n 3, 1) := by decide +kernel
theorem dX11_hundreds_4 : decode cX11_hundreds 4 = .ok (.iload_n 3, 1) := by decide +kernel
theorem dX11_hundreds_5 : decode cX11_hundreds 5 = .ok (.iload_n 0, 1) := by decide +kernel
theorem dX11_hundreds_6 : decode cX11_hundreds 6 = .ok (.if_icmp .ge 15, 3) := by decide +kernel
theorem dX11_hundreds_9 : decode cX11_hundreds 9 = .ok (.lload_n 1, 1) := by decide +kernel
theorem dX11_hundreds_10 : decode cX11_hundreds 10 = .ok (.ldc2_w 186, 3) := by decide +kernel
theorem dX11_hundreds_13 : decode cX11_hundreds 13 = .ok (.lmul, 1) := by decide +kernel
theorem dX11_hundreds_14 : decode cX11_hundreds 14 = .ok (.lstore_n 1, 1) := by decide +kernel
theorem dX11_hundreds_15 : decode cX11_hundreds 15 = .ok (.iinc 3 1, 3) := by decide +kernel
theorem dX11_hundreds_18 : decode cX11_hundreds 18 = .ok (.goto (-14), 3) := by decide +kernel
theorem dX11_hundreds_21 : decode cX11_hundreds 21 = .ok (.lload_n 1, 1) := by decide +kernel
theorem dX11_hundreds_22 : decode cX11_hundreds 22 = .ok (.lreturn, 1) := by decide +kernel
theorem dX11_isAiming_0 : decode cX11_isAiming 0 = .ok (.aload_n 0, 1) := by decide +kernel
theorem dX11_isAiming_1 : decode cX11_isAiming 1 = .ok (.invokevirtual 145, 3) := by decide +kernel
theorem dX11_isAiming_4 : decode cX11_isAiming 4 = .ok (.ifCond .ne 32, 3) := by decide +kernel
theorem dX11_isAiming_7 : decode cX11_isAiming 7 = .ok (.aload_n 0, 1) := by decide +kernel
theorem dX11_isAiming_8 : decode cX11_isAiming 8 = .ok (.getfield 118, 3) := by decide +kernel
theorem dX11_isAiming_11 : decode cX11_isAiming 11 = .ok (.ifCond .ne 25, 3) := by decide +kernel
theorem dX11_isAiming_14 : decode cX11_isAiming 14 = .ok (.aload_n 0, 1) := by decide +kernel
theorem dX11_isAiming_15 : decode cX11_isAiming 15 = .ok (.getfield 121, 3) := by decide +kernel
theorem dX11_isAiming_18 : decode cX11_isAiming 18 = .ok (.ifCond .ne 18, 3) := by decide +kernel
theorem dX11_isAiming_21 : decode cX11_isAiming 21 = .ok (.aload_n 0, 1) := by decide +kernel
theorem dX11_isAiming_22 : decode cX11_isAiming 22 = .ok (.invokevirtual 161, 3) := by decide +kernel
theorem dX11_isAiming_25 : decode cX11_isAiming 25 = .ok (.aload_n 0, 1) := by decide +kernel
theorem dX11_isAiming_26 : decode cX11_isAiming 26 = .ok (.getfield 106, 3) := by decide +kernel
theorem dX11_isAiming_29 : decode cX11_isAiming 29 = .ok (.if_icmp .ge 7, 3) := by decide +kernel
theorem dX11_isAiming_32 : decode cX11_isAiming 32 = .ok (.iconst 1, 1) := by decide +kernel
theorem dX11_isAiming_33 : decode cX11_isAiming 33 = .ok (.goto 4, 3) := by decide +kernel
theorem dX11_isAiming_36 : decode cX11_isAiming 36 = .ok (.iconst 0, 1) := by decide +kernel
theorem dX11_isAiming_37 : decode cX11_isAiming 37 = .ok (.ireturn, 1) := by decide +kernel
theorem dX11_aim_0 : decode cX11_aim 0 = .ok (.iload_n 1, 1) := by decide +kernel
theorem dX11_aim_1 : decode cX11_aim 1 = .ok (.i2l, 1) := by decide +kernel
theorem dX11_aim_2 : decode cX11_aim 2 = .ok (.lconst 1, 1) := by decide +kernel
theorem dX11_aim_3 : decode cX11_aim 3 = .ok (.ldc2_w 139, 3) := by decide +kernel
theorem dX11_aim_6 : decode cX11_aim 6 = .ok (.invokestatic 77, 3) := by decide +kernel
theorem dX11_aim_9 : decode cX11_aim 9 = .ok (.ifCond .eq 13, 3) := by decide +kernel
theorem dX11_aim_12 : decode cX11_aim 12 = .ok (.iload_n 2, 1) := by decide +kernel
theorem dX11_aim_13 : decode cX11_aim 13 = .ok (.i2l, 1) := by decide +kernel
theorem dX11_aim_14 : decode cX11_aim 14 = .ok (.lconst 0, 1) := by decide +kernel
theorem dX11_aim_15 : decode cX11_aim 15 = .ok (.lconst 1, 1) := by decide +kernel
theorem dX11_aim_16 : decode cX11_aim 16 = .ok (.invokestatic 77, 3) := by decide +kernel
theorem dX11_aim_19 : decode cX11_aim 19 = .ok (.ifCond .ne 7, 3) := by decide +kernel
theorem dX11_aim_22 : decode cX11_aim 22 = .ok (.ldc2_w 173, 3) := by decide +kernel
theorem dX11_aim_25 : decode cX11_aim 25 = .ok (.lreturn, 1) := by decide +kernel
theorem dX11_aim_26 : decode cX11_aim 26 = .ok (.aload_n 0, 1) := by decide +kernel
theorem dX11_aim_27 : decode cX11_aim 27 = .ok (.invokevirtual 195, 3) := by decide +kernel
theorem dX11_aim_30 : decode cX11_aim 30 = .ok (.ifCond .eq 19, 3) := by decide +kernel
theorem dX11_aim_33 : decode cX11_aim 33 = .ok (.aload_n 0, 1) := by decide +kernel
theorem dX11_aim_34 : decode cX11_aim 34 = .ok (.iload_n 1, 1) := by decide +kernel
theorem dX11_aim_35 : decode cX11_aim 35 = .ok (.invokevirtual 198, 3) := by decide +kernel
theorem dX11_aim_38 : decode cX11_aim 38 = .ok (.iload_n 1, 1) := by decide +kernel
theorem dX11_aim_39 : decode cX11_aim 39 = .ok (.invokestatic 202, 3) := by decide +kernel
theorem dX11_aim_42 : decode cX11_aim 42 = .ok (.iload_n 2, 1) := by decide +kernel
theorem dX11_aim_43 : decode cX11_aim 43 = .ok (.invokestatic 179, 3) := by decide +kernel
theorem dX11_aim_46 : decode cX11_aim 46 = .ok (.goto 6, 3) := by decide +kernel
theorem dX11_aim_49 : decode cX11_aim 49 = .ok (.ldc2_w 205, 3) := by decide +kernel
theorem dX11_aim_52 : decode cX11_aim 52 = .ok (.lreturn, 1) := by decide +kernel
theorem dX11_which_0 : decode cX11_which 0 = .ok (.iload_n 1, 1) := by decide +kernel
theorem dX11_which_1 : decode cX11_which 1 = .ok (.i2l, 1) := by decide +kernel
theorem dX11_which_2 : decode cX11_which 2 = .ok (.lconst 1, 1) := by decide +kernel
theorem dX11_which_3 : decode cX11_which 3 = .ok (.ldc2_w 139, 3) := by decide +kernel
theorem dX11_which_6 : decode cX11_which 6 = .ok (.invokestatic 77, 3) := by decide +kernel
theorem dX11_which_9 : decode cX11_which 9 = .ok (.ifCond .ne 6, 3) := by decide +kernel
theorem dX11_which_12 : decode cX11_which 12 = .ok (.bipush (-102), 2) := by decide +kernel
theorem dX11_which_14 : decode cX11_which 14 = .ok (.ireturn, 1) := by decide +kernel
theorem dX11_which_15 : decode cX11_which 15 = .ok (.aload_n 0, 1) := by decide +kernel
theorem dX11_which_16 : decode cX11_which 16 = .ok (.invokevirtual 195, 3) := by decide +kernel
theorem dX11_which_19 : decode cX11_which 19 = .ok (.ifCond .ne 6, 3) := by decide +kernel
theorem dX11_which_22 : decode cX11_which 22 = .ok (.bipush (-103), 2) := by decide +kernel
theorem dX11_which_24 : decode cX11_which 24 = .ok (.ireturn, 1) := by decide +kernel
theorem dX11_which_25 : decode cX11_which 25 = .ok (.aload_n 0, 1) := by decide +kernel
theorem dX11_which_26 : decode cX11_which 26 = .ok (.iload_n 1, 1) := by decide +kernel
theorem dX11_which_27 : decode cX11_which 27 = .ok (.invokevirtual 207, 3) := by decide +kernel
theorem dX11_which_30 : decode cX11_which 30 = .ok (.aload_n 0, 1) := by decide +kernel
theorem dX11_which_31 : decode cX11_which 31 = .ok (.aload_n 0, 1) := by decide +kernel
theorem dX11_which_32 : decode cX11_which 32 = .ok (.invokevirtual 161, 3) := by decide +kernel
theorem dX11_which_35 : decode cX11_which 35 = .ok (.iload_n 1, 1) := by decide +kernel
theorem dX11_which_36 : decode cX11_which 36 = .ok (.iconst 1, 1) := by decide +kernel
theorem dX11_which_37 : decode cX11_which 37 = .ok (.isub, 1) := by decide +kernel
theorem dX11_which_38 : decode cX11_which 38 = .ok (.invokestatic 202, 3) := by decide +kernel
theorem dX11_which_41 : decode cX11_which 41 = .ok (.aload_n 0, 1) := by decide +kernel
theorem dX11_which_42 : decode cX11_which 42 = .ok (.invokevirtual 192, 3) := by decide +kernel
theorem dX11_which_45 : decode cX11_which 45 = .ok (.invokevirtual 188, 3) := by decide +kernel
theorem dX11_which_48 : decode cX11_which 48 = .ok (.lstore_n 2, 1) := by decide +kernel
theorem dX11_which_49 : decode cX11_which 49 = .ok (.lload_n 2, 1) := by decide +kernel
theorem dX11_which_50 : decode cX11_which 50 = .ok (.lconst 0, 1) := by decide +kernel
theorem dX11_which_51 : decode cX11_which 51 = .ok (.lcmp, 1) := by decide +kernel
theorem dX11_which_52 : decode cX11_which 52 = .ok (.ifCond .ge 7, 3) := by decide +kernel
theorem dX11_which_55 : decode cX11_which 55 = .ok (.iconst (-1), 1) := by decide +kernel
theorem dX11_which_56 : decode cX11_which 56 = .ok (.goto 7, 3) := by decide +kernel
theorem dX11_which_59 : decode cX11_which 59 = .ok (.aload_n 0, 1) := by decide +kernel
theorem dX11_which_60 : decode cX11_which 60 = .ok (.getfield 183, 3) := by decide +kernel
theorem dX11_which_63 : decode cX11_which 63 = .ok (.ireturn, 1) := by decide +kernel
theorem dX11_layLater_0 : decode cX11_layLater 0 = .ok (.iconst 0, 1) := by decide +kernel
theorem dX11_layLater_1 : decode cX11_layLater 1 = .ok (.istore_n 2, 1) := by decide +kernel
theorem dX11_layLater_2 : decode cX11_layLater 2 = .ok (.iload_n 2, 1) := by decide +kernel
theorem dX11_layLater_3 : decode cX11_layLater 3 = .ok (.bipush 64, 2) := by decide +kernel
theorem dX11_layLater_5 : decode cX11_layLater 5 = .ok (.if_icmp .ge 16, 3) := by decide +kernel
theorem dX11_layLater_8 : decode cX11_layLater 8 = .ok (.aload_n 0, 1) := by decide +kernel
theorem dX11_layLater_9 : decode cX11_layLater 9 = .ok (.getfield 28, 3) := by decide +kernel
theorem dX11_layLater_12 : decode cX11_layLater 12 = .ok (.iload_n 2, 1) := by decide +kernel
theorem dX11_layLater_13 : decode cX11_layLater 13 = .ok (.lconst 0, 1) := by decide +kernel
theorem dX11_layLater_14 : decode cX11_layLater 14 = .ok (.lastore, 1) := by decide +kernel
theorem dX11_layLater_15 : decode cX11_layLater 15 = .ok (.iinc 2 1, 3) := by decide +kernel
theorem dX11_layLater_18 : decode cX11_layLater 18 = .ok (.goto (-16), 3) := by decide +kernel
theorem dX11_layLater_21 : decode cX11_layLater 21 = .ok (.lconst 1, 1) := by decide +kernel
theorem dX11_layLater_22 : decode cX11_layLater 22 = .ok (.lstore_n 2, 1) := by decide +kernel
theorem dX11_layLater_23 : decode cX11_layLater 23 = .ok (.aload_n 0, 1) := by decide +kernel
theorem dX11_layLater_24 : decode cX11_layLater 24 = .ok (.invokevirtual 161, 3) := by decide +kernel
theorem dX11_layLater_27 : decode cX11_layLater 27 = .ok (.iconst 1, 1) := by decide +kernel
theorem dX11_layLater_28 : decode cX11_layLater 28 = .ok (.iadd, 1) := by decide +kernel
theorem dX11_layLater_29 : decode cX11_layLater 29 = .ok (.istore 4, 2) := by decide +kernel
theorem dX11_layLater_31 : decode cX11_layLater 31 = .ok (.aload_n 0, 1) := by decide +kernel
theorem dX11_layLater_32 : decode cX11_layLater 32 = .ok (.invokevirtual 161, 3) := by decide +kernel
theorem dX11_layLater_35 : decode cX11_layLater 35 = .ok (.iload_n 1, 1) := by decide +kernel
theorem dX11_layLater_36 : decode cX11_layLater 36 = .ok (.iadd, 1) := by decide +kernel
theorem dX11_layLater_37 : decode cX11_layLater 37 = .ok (.aload_n 0, 1) := by decide +kernel
theorem dX11_layLater_38 : decode cX11_layLater 38 = .ok (.getfield 106, 3) := by decide +kernel
theorem dX11_layLater_41 : decode cX11_layLater 41 = .ok (.if_icmp .ge 12, 3) := by decide +kernel
theorem dX11_layLater_44 : decode cX11_layLater 44 = .ok (.aload_n 0, 1) := by decide +kernel
theorem dX11_layLater_45 : decode cX11_layLater 45 = .ok (.invokevirtual 161, 3) := by decide +kernel
theorem dX11_layLater_48 : decode cX11_layLater 48 = .ok (.iload_n 1, 1) := by decide +kernel
theorem dX11_layLater_49 : decode cX11_layLater 49 = .ok (.iadd, 1) := by decide +kernel
theorem dX11_layLater_50 : decode cX11_layLater 50 = .ok (.goto 7, 3) := by decide +kernel
theorem dX11_layLater_53 : decode cX11_layLater 53 = .ok (.aload_n 0, 1) := by decide +kernel
theorem dX11_layLater_54 : decode cX11_layLater 54 = .ok (.getfield 106, 3) := by decide +kernel
theorem dX11_layLater_57 : decode cX11_layLater 57 = .ok (.istore 5, 2) := by decide +kernel
theorem dX11_layLater_59 : decode cX11_layLater 59 = .ok (.iconst 0, 1) := by decide +kernel
theorem dX11_layLater_60 : decode cX11_layLater 60 = .ok (.istore 6, 2) := by decide +kernel
end
section
theorem dX11_layLater_62 : decode cX11_layLater 62 = .ok (.iload 6, 2) := by decide +kernel
theorem dX11_layLater_64 : decode cX11_layLater 64 = .ok (.iload_n 1, 1) := by decide +kernel
theorem dX11_layLater_65 : decode cX11_layLater 65 = .ok (.iconst 1, 1) := by decide +kernel
theorem dX11_layLater_66 : decode cX11_layLater 66 = .ok (.isub, 1) := by decide +kernel
theorem dX11_layLater_67 : decode cX11_layLater 67 = .ok (.iload 5, 2) := by decide +kernel
theorem dX11_layLater_69 : decode cX11_layLater 69 = .ok (.iload 4, 2) := by decide +kernel
theorem dX11_layLater_71 : decode cX11_layLater 71 = .ok (.isub, 1) := by decide +kernel
theorem dX11_layLater_72 : decode cX11_layLater 72 = .ok (.isub, 1) := by decide +kernel
theorem dX11_layLater_73 : decode cX11_layLater 73 = .ok (.if_icmp .ge 15, 3) := by decide +kernel
theorem dX11_layLater_76 : decode cX11_layLater 76 = .ok (.lload_n 2, 1) := by decide +kernel
theorem dX11_layLater_77 : decode cX11_layLater 77 = .ok (.ldc2_w 186, 3) := by decide +kernel
theorem dX11_layLater_80 : decode cX11_layLater 80 = .ok (.lmul, 1) := by decide +kernel
theorem dX11_layLater_81 : decode cX11_layLater 81 = .ok (.lstore_n 2, 1) := by decide +kernel
theorem dX11_layLater_82 : decode cX11_layLater 82 = .ok (.iinc 6 1, 3) := by decide +kernel
theorem dX11_layLater_85 : decode cX11_layLater 85 = .ok (.goto (-23), 3) := by decide +kernel
theorem dX11_layLater_88 : decode cX11_layLater 88 = .ok (.iload 5, 2) := by decide +kernel
theorem dX11_layLater_90 : decode cX11_layLater 90 = .ok (.iconst 1, 1) := by decide +kernel
theorem dX11_layLater_91 : decode cX11_layLater 91 = .ok (.isub, 1) := by decide +kernel
theorem dX11_layLater_92 : decode cX11_layLater 92 = .ok (.istore 6, 2) := by decide +kernel
theorem dX11_layLater_94 : decode cX11_layLater 94 = .ok (.iload 6, 2) := by decide +kernel
theorem dX11_layLater_96 : decode cX11_layLater 96 = .ok (.iload 4, 2) := by decide +kernel
theorem dX11_layLater_98 : decode cX11_layLater 98 = .ok (.if_icmp .lt 77, 3) := by decide +kernel
theorem dX11_layLater_101 : decode cX11_layLater 101 = .ok (.iconst 0, 1) := by decide +kernel
theorem dX11_layLater_102 : decode cX11_layLater 102 = .ok (.istore 7, 2) := by decide +kernel
theorem dX11_layLater_104 : decode cX11_layLater 104 = .ok (.iload 7, 2) := by decide +kernel
theorem dX11_layLater_106 : decode cX11_layLater 106 = .ok (.bipush 64, 2) := by decide +kernel
theorem dX11_layLater_108 : decode cX11_layLater 108 = .ok (.if_icmp .ge 25, 3) := by decide +kernel
theorem dX11_layLater_111 : decode cX11_layLater 111 = .ok (.aload_n 0, 1) := by decide +kernel
theorem dX11_layLater_112 : decode cX11_layLater 112 = .ok (.getfield 32, 3) := by decide +kernel
theorem dX11_layLater_115 : decode cX11_layLater 115 = .ok (.iload 7, 2) := by decide +kernel
theorem dX11_layLater_117 : decode cX11_layLater 117 = .ok (.aload_n 0, 1) := by decide +kernel
theorem dX11_layLater_118 : decode cX11_layLater 118 = .ok (.iload 6, 2) := by decide +kernel
theorem dX11_layLater_120 : decode cX11_layLater 120 = .ok (.lload_n 2, 1) := by decide +kernel
theorem dX11_layLater_121 : decode cX11_layLater 121 = .ok (.iload 7, 2) := by decide +kernel
theorem dX11_layLater_123 : decode cX11_layLater 123 = .ok (.invokevirtual 188, 3) := by decide +kernel
theorem dX11_layLater_126 : decode cX11_layLater 126 = .ok (.lastore, 1) := by decide +kernel
theorem dX11_layLater_127 : decode cX11_layLater 127 = .ok (.iinc 7 1, 3) := by decide +kernel
theorem dX11_layLater_130 : decode cX11_layLater 130 = .ok (.goto (-26), 3) := by decide +kernel
theorem dX11_layLater_133 : decode cX11_layLater 133 = .ok (.iconst 0, 1) := by decide +kernel
theorem dX11_layLater_134 : decode cX11_layLater 134 = .ok (.istore 7, 2) := by decide +kernel
theorem dX11_layLater_136 : decode cX11_layLater 136 = .ok (.iload 7, 2) := by decide +kernel
theorem dX11_layLater_138 : decode cX11_layLater 138 = .ok (.bipush 64, 2) := by decide +kernel
theorem dX11_layLater_140 : decode cX11_layLater 140 = .ok (.if_icmp .ge 23, 3) := by decide +kernel
theorem dX11_layLater_143 : decode cX11_layLater 143 = .ok (.aload_n 0, 1) := by decide +kernel
theorem dX11_layLater_144 : decode cX11_layLater 144 = .ok (.getfield 28, 3) := by decide +kernel
theorem dX11_layLater_147 : decode cX11_layLater 147 = .ok (.iload 7, 2) := by decide +kernel
theorem dX11_layLater_149 : decode cX11_layLater 149 = .ok (.aload_n 0, 1) := by decide +kernel
theorem dX11_layLater_150 : decode cX11_layLater 150 = .ok (.getfield 32, 3) := by decide +kernel
theorem dX11_layLater_153 : decode cX11_layLater 153 = .ok (.iload 7, 2) := by decide +kernel
theorem dX11_layLater_155 : decode cX11_layLater 155 = .ok (.laload, 1) := by decide +kernel
theorem dX11_layLater_156 : decode cX11_layLater 156 = .ok (.lastore, 1) := by decide +kernel
theorem dX11_layLater_157 : decode cX11_layLater 157 = .ok (.iinc 7 1, 3) := by decide +kernel
theorem dX11_layLater_160 : decode cX11_layLater 160 = .ok (.goto (-24), 3) := by decide +kernel
theorem dX11_layLater_163 : decode cX11_layLater 163 = .ok (.lload_n 2, 1) := by decide +kernel
theorem dX11_layLater_164 : decode cX11_layLater 164 = .ok (.ldc2_w 186, 3) := by decide +kernel
theorem dX11_layLater_167 : decode cX11_layLater 167 = .ok (.lmul, 1) := by decide +kernel
theorem dX11_layLater_168 : decode cX11_layLater 168 = .ok (.lstore_n 2, 1) := by decide +kernel
theorem dX11_layLater_169 : decode cX11_layLater 169 = .ok (.iinc 6 (-1), 3) := by decide +kernel
theorem dX11_layLater_172 : decode cX11_layLater 172 = .ok (.goto (-78), 3) := by decide +kernel
theorem dX11_layLater_175 : decode cX11_layLater 175 = .ok (.return_, 1) := by decide +kernel
theorem dX11_isMan_0 : decode cX11_isMan 0 = .ok (.iload_n 1, 1) := by decide +kernel
theorem dX11_isMan_1 : decode cX11_isMan 1 = .ok (.i2l, 1) := by decide +kernel
theorem dX11_isMan_2 : decode cX11_isMan 2 = .ok (.lconst 0, 1) := by decide +kernel
theorem dX11_isMan_3 : decode cX11_isMan 3 = .ok (.aload_n 0, 1) := by decide +kernel
theorem dX11_isMan_4 : decode cX11_isMan 4 = .ok (.getfield 127, 3) := by decide +kernel
theorem dX11_isMan_7 : decode cX11_isMan 7 = .ok (.iconst 1, 1) := by decide +kernel
theorem dX11_isMan_8 : decode cX11_isMan 8 = .ok (.isub, 1) := by decide +kernel
theorem dX11_isMan_9 : decode cX11_isMan 9 = .ok (.i2l, 1) := by decide +kernel
theorem dX11_isMan_10 : decode cX11_isMan 10 = .ok (.invokestatic 77, 3) := by decide +kernel
theorem dX11_isMan_13 : decode cX11_isMan 13 = .ok (.ireturn, 1) := by decide +kernel
theorem dX11_man_0 : decode cX11_man 0 = .ok (.iload_n 1, 1) := by decide +kernel
theorem dX11_man_1 : decode cX11_man 1 = .ok (.i2l, 1) := by decide +kernel
theorem dX11_man_2 : decode cX11_man 2 = .ok (.lconst 0, 1) := by decide +kernel
theorem dX11_man_3 : decode cX11_man 3 = .ok (.ldc2_w 139, 3) := by decide +kernel
theorem dX11_man_6 : decode cX11_man 6 = .ok (.invokestatic 77, 3) := by decide +kernel
theorem dX11_man_9 : decode cX11_man 9 = .ok (.ifCond .eq 15, 3) := by decide +kernel
theorem dX11_man_12 : decode cX11_man 12 = .ok (.iload_n 2, 1) := by decide +kernel
theorem dX11_man_13 : decode cX11_man 13 = .ok (.i2l, 1) := by decide +kernel
theorem dX11_man_14 : decode cX11_man 14 = .ok (.lconst 1, 1) := by decide +kernel
theorem dX11_man_15 : decode cX11_man 15 = .ok (.ldc2_w 211, 3) := by decide +kernel
theorem dX11_man_18 : decode cX11_man 18 = .ok (.invokestatic 77, 3) := by decide +kernel
theorem dX11_man_21 : decode cX11_man 21 = .ok (.ifCond .ne 6, 3) := by decide +kernel
theorem dX11_man_24 : decode cX11_man 24 = .ok (.bipush (-102), 2) := by decide +kernel
theorem dX11_man_26 : decode cX11_man 26 = .ok (.ireturn, 1) := by decide +kernel
theorem dX11_man_27 : decode cX11_man 27 = .ok (.aload_n 0, 1) := by decide +kernel
theorem dX11_man_28 : decode cX11_man 28 = .ok (.invokevirtual 145, 3) := by decide +kernel
theorem dX11_man_31 : decode cX11_man 31 = .ok (.ifCond .eq 6, 3) := by decide +kernel
theorem dX11_man_34 : decode cX11_man 34 = .ok (.bipush (-103), 2) := by decide +kernel
theorem dX11_man_36 : decode cX11_man 36 = .ok (.ireturn, 1) := by decide +kernel
theorem dX11_man_37 : decode cX11_man 37 = .ok (.aload_n 0, 1) := by decide +kernel
theorem dX11_man_38 : decode cX11_man 38 = .ok (.getfield 127, 3) := by decide +kernel
theorem dX11_man_41 : decode cX11_man 41 = .ok (.bipush 6, 2) := by decide +kernel
theorem dX11_man_43 : decode cX11_man 43 = .ok (.if_icmp .ne 6, 3) := by decide +kernel
theorem dX11_man_46 : decode cX11_man 46 = .ok (.bipush (-104), 2) := by decide +kernel
theorem dX11_man_48 : decode cX11_man 48 = .ok (.ireturn, 1) := by decide +kernel
theorem dX11_man_49 : decode cX11_man 49 = .ok (.aload_n 0, 1) := by decide +kernel
theorem dX11_man_50 : decode cX11_man 50 = .ok (.getfield 35, 3) := by decide +kernel
theorem dX11_man_53 : decode cX11_man 53 = .ok (.iconst 3, 1) := by decide +kernel
theorem dX11_man_54 : decode cX11_man 54 = .ok (.aload_n 0, 1) := by decide +kernel
theorem dX11_man_55 : decode cX11_man 55 = .ok (.getfield 127, 3) := by decide +kernel
theorem dX11_man_58 : decode cX11_man 58 = .ok (.imul, 1) := by decide +kernel
theorem dX11_man_59 : decode cX11_man 59 = .ok (.iload_n 1, 1) := by decide +kernel
theorem dX11_man_60 : decode cX11_man 60 = .ok (.iastore, 1) := by decide +kernel
theorem dX11_man_61 : decode cX11_man 61 = .ok (.aload_n 0, 1) := by decide +kernel
theorem dX11_man_62 : decode cX11_man 62 = .ok (.getfield 35, 3) := by decide +kernel
theorem dX11_man_65 : decode cX11_man 65 = .ok (.iconst 3, 1) := by decide +kernel
theorem dX11_man_66 : decode cX11_man 66 = .ok (.aload_n 0, 1) := by decide +kernel
theorem dX11_man_67 : decode cX11_man 67 = .ok (.getfield 127, 3) := by decide +kernel
theorem dX11_man_70 : decode cX11_man 70 = .ok (.imul, 1) := by decide +kernel
theorem dX11_man_71 : decode cX11_man 71 = .ok (.iconst 1, 1) := by decide +kernel
theorem dX11_man_72 : decode cX11_man 72 = .ok (.iadd, 1) := by decide +kernel
theorem dX11_man_73 : decode cX11_man 73 = .ok (.iload_n 2, 1) := by decide +kernel
theorem dX11_man_74 : decode cX11_man 74 = .ok (.iastore, 1) := by decide +kernel
theorem dX11_man_75 : decode cX11_man 75 = .ok (.aload_n 0, 1) := by decide +kernel
theorem dX11_man_76 : decode cX11_man 76 = .ok (.getfield 35, 3) := by decide +kernel
theorem dX11_man_79 : decode cX11_man 79 = .ok (.iconst 3, 1) := by decide +kernel
theorem dX11_man_80 : decode cX11_man 80 = .ok (.aload_n 0, 1) := by decide +kernel
theorem dX11_man_81 : decode cX11_man 81 = .ok (.getfield 127, 3) := by decide +kernel
theorem dX11_man_84 : decode cX11_man 84 = .ok (.imul, 1) := by decide +kernel
theorem dX11_man_85 : decode cX11_man 85 = .ok (.iconst 2, 1) := by decide +kernel
theorem dX11_man_86 : decode cX11_man 86 = .ok (.iadd, 1) := by decide +kernel
theorem dX11_man_87 : decode cX11_man 87 = .ok (.iconst (-1), 1) := by decide +kernel
theorem dX11_man_88 : decode cX11_man 88 = .ok (.iastore, 1) := by decide +kernel
theorem dX11_man_89 : decode cX11_man 89 = .ok (.aload_n 0, 1) := by decide +kernel
theorem dX11_man_90 : decode cX11_man 90 = .ok (.getfield 38, 3) := by decide +kernel
theorem dX11_man_93 : decode cX11_man 93 = .ok (.aload_n 0, 1) := by decide +kernel
theorem dX11_man_94 : decode cX11_man 94 = .ok (.getfield 127, 3) := by decide +kernel
theorem dX11_man_97 : decode cX11_man 97 = .ok (.iconst 0, 1) := by decide +kernel
theorem dX11_man_98 : decode cX11_man 98 = .ok (.iastore, 1) := by decide +kernel
theorem dX11_man_99 : decode cX11_man 99 = .ok (.aload_n 0, 1) := by decide +kernel
theorem dX11_man_100 : decode cX11_man 100 = .ok (.dup, 1) := by decide +kernel
theorem dX11_man_101 : decode cX11_man 101 = .ok (.getfield 127, 3) := by decide +kernel
theorem dX11_man_104 : decode cX11_man 104 = .ok (.iconst 1, 1) := by decide +kernel
theorem dX11_man_105 : decode cX11_man 105 = .ok (.iadd, 1) := by decide +kernel
theorem dX11_man_106 : decode cX11_man 106 = .ok (.putfield 127, 3) := by decide +kernel
theorem dX11_man_109 : decode cX11_man 109 = .ok (.aload_n 0, 1) := by decide +kernel
theorem dX11_man_110 : decode cX11_man 110 = .ok (.getfield 127, 3) := by decide +kernel
theorem dX11_man_113 : decode cX11_man 113 = .ok (.iconst 1, 1) := by decide +kernel
theorem dX11_man_114 : decode cX11_man 114 = .ok (.isub, 1) := by decide +kernel
theorem dX11_man_115 : decode cX11_man 115 = .ok (.ireturn, 1) := by decide +kernel
theorem dX11_sags_0 : decode cX11_sags 0 = .ok (.aload_n 0, 1) := by decide +kernel
theorem dX11_sags_1 : decode cX11_sags 1 = .ok (.getfield 35, 3) := by decide +kernel
theorem dX11_sags_4 : decode cX11_sags 4 = .ok (.iconst 3, 1) := by decide +kernel
theorem dX11_sags_5 : decode cX11_sags 5 = .ok (.iload_n 1, 1) := by decide +kernel
theorem dX11_sags_6 : decode cX11_sags 6 = .ok (.imul, 1) := by decide +kernel
theorem dX11_sags_7 : decode cX11_sags 7 = .ok (.iconst 1, 1) := by decide +kernel
theorem dX11_sags_8 : decode cX11_sags 8 = .ok (.iadd, 1) := by decide +kernel
theorem dX11_sags_9 : decode cX11_sags 9 = .ok (.iaload, 1) := by decide +kernel
theorem dX11_sags_10 : decode cX11_sags 10 = .ok (.aload_n 0, 1) := by decide +kernel
theorem dX11_sags_11 : decode cX11_sags 11 = .ok (.getfield 109, 3) := by decide +kernel
theorem dX11_sags_14 : decode cX11_sags 14 = .ok (.imul, 1) := by decide +kernel
theorem dX11_sags_15 : decode cX11_sags 15 = .ok (.bipush 50, 2) := by decide +kernel
theorem dX11_sags_17 : decode cX11_sags 17 = .ok (.idiv, 1) := by decide +kernel
theorem dX11_sags_18 : decode cX11_sags 18 = .ok (.aload_n 0, 1) := by decide +kernel
theorem dX11_sags_19 : decode cX11_sags 19 = .ok (.getfield 72, 3) := by decide +kernel
theorem dX11_sags_22 : decode cX11_sags 22 = .ok (.if_icmp .le 7, 3) := by decide +kernel
theorem dX11_sags_25 : decode cX11_sags 25 = .ok (.iconst 1, 1) := by decide +kernel
theorem dX11_sags_26 : decode cX11_sags 26 = .ok (.goto 4, 3) := by decide +kernel
theorem dX11_sags_29 : decode cX11_sags 29 = .ok (.iconst 0, 1) := by decide +kernel
theorem dX11_sags_30 : decode cX11_sags 30 = .ok (.ireturn, 1) := by decide +kernel
theorem dX11_takes_0 : decode cX11_takes 0 = .ok (.aload_n 0, 1) := by decide +kernel
theorem dX11_takes_1 : decode cX11_takes 1 = .ok (.getfield 35, 3) := by decide +kernel
theorem dX11_takes_4 : decode cX11_takes 4 = .ok (.iconst 3, 1) := by decide +kernel
theorem dX11_takes_5 : decode cX11_takes 5 = .ok (.iload_n 1, 1) := by decide +kernel
theorem dX11_takes_6 : decode cX11_takes 6 = .ok (.imul, 1) := by decide +kernel
theorem dX11_takes_7 : decode cX11_takes 7 = .ok (.iaload, 1) := by decide +kernel
theorem dX11_takes_8 : decode cX11_takes 8 = .ok (.istore_n 2, 1) := by decide +kernel
theorem dX11_takes_9 : decode cX11_takes 9 = .ok (.iconst 2, 1) := by decide +kernel
theorem dX11_takes_10 : decode cX11_takes 10 = .ok (.aload_n 0, 1) := by decide +kernel
theorem dX11_takes_11 : decode cX11_takes 11 = .ok (.getfield 35, 3) := by decide +kernel
theorem dX11_takes_14 : decode cX11_takes 14 = .ok (.iconst 3, 1) := by decide +kernel
theorem dX11_takes_15 : decode cX11_takes 15 = .ok (.iload_n 1, 1) := by decide +kernel
theorem dX11_takes_16 : decode cX11_takes 16 = .ok (.imul, 1) := by decide +kernel
theorem dX11_takes_17 : decode cX11_takes 17 = .ok (.iconst 1, 1) := by decide +kernel
theorem dX11_takes_18 : decode cX11_takes 18 = .ok (.iadd, 1) := by decide +kernel
theorem dX11_takes_19 : decode cX11_takes 19 = .ok (.iaload, 1) := by decide +kernel
theorem dX11_takes_20 : decode cX11_takes 20 = .ok (.iconst 5, 1) := by decide +kernel
theorem dX11_takes_21 : decode cX11_takes 21 = .ok (.idiv, 1) := by decide +kernel
theorem dX11_takes_22 : decode cX11_takes 22 = .ok (.iadd, 1) := by decide +kernel
theorem dX11_takes_23 : decode cX11_takes 23 = .ok (.istore_n 3, 1) := by decide +kernel
theorem dX11_takes_24 : decode cX11_takes 24 = .ok (.iload_n 2, 1) := by decide +kernel
theorem dX11_takes_25 : decode cX11_takes 25 = .ok (.iconst 1, 1) := by decide +kernel
theorem dX11_takes_26 : decode cX11_takes 26 = .ok (.if_icmp .ne 11, 3) := by decide +kernel
theorem dX11_takes_29 : decode cX11_takes 29 = .ok (.iload_n 3, 1) := by decide +kernel
theorem dX11_takes_30 : decode cX11_takes 30 = .ok (.iconst 1, 1) := by decide +kernel
theorem dX11_takes_31 : decode cX11_takes 31 = .ok (.iadd, 1) := by decide +kernel
theorem dX11_takes_32 : decode cX11_takes 32 = .ok (.iconst 2, 1) := by decide +kernel
theorem dX11_takes_33 : decode cX11_takes 33 = .ok (.idiv, 1) := by decide +kernel
theorem dX11_takes_34 : decode cX11_takes 34 = .ok (.goto 15, 3) := by decide +kernel
theorem dX11_takes_37 : decode cX11_takes 37 = .ok (.iload_n 2, 1) := by decide +kernel
theorem dX11_takes_38 : decode cX11_takes 38 = .ok (.iconst 3, 1) := by decide +kernel
theorem dX11_takes_39 : decode cX11_takes 39 = .ok (.if_icmp .ne 9, 3) := by decide +kernel
theorem dX11_takes_42 : decode cX11_takes 42 = .ok (.iload_n 3, 1) := by decide +kernel
theorem dX11_takes_43 : decode cX11_takes 43 = .ok (.iconst 3, 1) := by decide +kernel
theorem dX11_takes_44 : decode cX11_takes 44 = .ok (.iadd, 1) := by decide +kernel
theorem dX11_takes_45 : decode cX11_takes 45 = .ok (.goto 4, 3) := by decide +kernel
theorem dX11_takes_48 : decode cX11_takes 48 = .ok (.iload_n 3, 1) := by decide +kernel
theorem dX11_takes_49 : decode cX11_takes 49 = .ok (.istore_n 3, 1) := by decide +kernel
theorem dX11_takes_50 : decode cX11_takes 50 = .ok (.aload_n 0, 1) := by decide +kernel
theorem dX11_takes_51 : decode cX11_takes 51 = .ok (.iload_n 1, 1) := by decide +kernel
theorem dX11_takes_52 : decode cX11_takes 52 = .ok (.invokevirtual 213, 3) := by decide +kernel
theorem dX11_takes_55 : decode cX11_takes 55 = .ok (.ifCond .eq 9, 3) := by decide +kernel
theorem dX11_takes_58 : decode cX11_takes 58 = .ok (.iload_n 3, 1) := by decide +kernel
theorem dX11_takes_59 : decode cX11_takes 59 = .ok (.iconst 2, 1) := by decide +kernel
theorem dX11_takes_60 : decode cX11_takes 60 = .ok (.iadd, 1) := by decide +kernel
theorem dX11_takes_61 : decode cX11_takes 61 = .ok (.goto 4, 3) := by decide +kernel
theorem dX11_takes_64 : decode cX11_takes 64 = .ok (.iload_n 3, 1) := by decide +kernel
theorem dX11_takes_65 : decode cX11_takes 65 = .ok (.ireturn, 1) := by decide +kernel
theorem dX11_overBits_0 : decode cX11_overBits 0 = .ok (.iconst 0, 1) := by decide +kernel
theorem dX11_overBits_1 : decode cX11_overBits 1 = .ok (.istore_n 1, 1) := by decide +kernel
theorem dX11_overBits_2 : decode cX11_overBits 2 = .ok (.iconst 0, 1) := by decide +kernel
theorem dX11_overBits_3 : decode cX11_overBits 3 = .ok (.istore_n 2, 1) := by decide +kernel
theorem dX11_overBits_4 : decode cX11_overBits 4 = .ok (.iload_n 2, 1) := by decide +kernel
theorem dX11_overBits_5 : decode cX11_overBits 5 = .ok (.aload_n 0, 1) := by decide +kernel
theorem dX11_overBits_6 : decode cX11_overBits 6 = .ok (.getfield 127, 3) := by decide +kernel
theorem dX11_overBits_9 : decode cX11_overBits 9 = .ok (.if_icmp .ge 33, 3) := by decide +kernel
theorem dX11_overBits_12 : decode cX11_overBits 12 = .ok (.iload_n 1, 1) := by decide +kernel
theorem dX11_overBits_13 : decode cX11_overBits 13 = .ok (.aload_n 0, 1) := by decide +kernel
theorem dX11_overBits_14 : decode cX11_overBits 14 = .ok (.getfield 35, 3) := by decide +kernel
theorem dX11_overBits_17 : decode cX11_overBits 17 = .ok (.iconst 3, 1) := by decide +kernel
theorem dX11_overBits_18 : decode cX11_overBits 18 = .ok (.iload_n 2, 1) := by decide +kernel
theorem dX11_overBits_19 : decode cX11_overBits 19 = .ok (.imul, 1) := by decide +kernel
theorem dX11_overBits_20 : decode cX11_overBits 20 = .ok (.iconst 2, 1) := by decide +kernel
theorem dX11_overBits_21 : decode cX11_overBits 21 = .ok (.iadd, 1) := by decide +kernel
theorem dX11_overBits_22 : decode cX11_overBits 22 = .ok (.iaload, 1) := by decide +kernel
theorem dX11_overBits_23 : decode cX11_overBits 23 = .ok (.iconst (-1), 1) := by decide +kernel
theorem dX11_overBits_24 : decode cX11_overBits 24 = .ok (.if_icmp .ne 7, 3) := by decide +kernel
theorem dX11_overBits_27 : decode cX11_overBits 27 = .ok (.iconst 0, 1) := by decide +kernel
theorem dX11_overBits_28 : decode cX11_overBits 28 = .ok (.goto 6, 3) := by decide +kernel
theorem dX11_overBits_31 : decode cX11_overBits 31 = .ok (.iconst 1, 1) := by decide +kernel
theorem dX11_overBits_32 : decode cX11_overBits 32 = .ok (.iload_n 2, 1) := by decide +kernel
theorem dX11_overBits_33 : decode cX11_overBits 33 = .ok (.ishl, 1) := by decide +kernel
theorem dX11_overBits_34 : decode cX11_overBits 34 = .ok (.ior, 1) := by decide +kernel
theorem dX11_overBits_35 : decode cX11_overBits 35 = .ok (.istore_n 1, 1) := by decide +kernel
theorem dX11_overBits_36 : decode cX11_overBits 36 = .ok (.iinc 2 1, 3) := by decide +kernel
theorem dX11_overBits_39 : decode cX11_overBits 39 = .ok (.goto (-35), 3) := by decide +kernel
theorem dX11_overBits_42 : decode cX11_overBits 42 = .ok (.iload_n 1, 1) := by decide +kernel
theorem dX11_overBits_43 : decode cX11_overBits 43 = .ok (.ireturn, 1) := by decide +kernel
theorem dX11_canCome_0 : decode cX11_canCome 0 = .ok (.iload_n 2, 1) := by decide +kernel
theorem dX11_canCome_1 : decode cX11_canCome 1 = .ok (.iload_n 1, 1) := by decide +kernel
theorem dX11_canCome_2 : decode cX11_canCome 2 = .ok (.ishr, 1) := by decide +kernel
theorem dX11_canCome_3 : decode cX11_canCome 3 = .ok (.iconst 1, 1) := by decide +kernel
theorem dX11_canCome_4 : decode cX11_canCome 4 = .ok (.iand, 1) := by decide +kernel
theorem dX11_canCome_5 : decode cX11_canCome 5 = .ok (.ifCond .ne 20, 3) := by decide +kernel
theorem dX11_canCome_8 : decode cX11_canCome 8 = .ok (.aload_n 0, 1) := by decide +kernel
theorem dX11_canCome_9 : decode cX11_canCome 9 = .ok (.getfield 38, 3) := by decide +kernel
theorem dX11_canCome_12 : decode cX11_canCome 12 = .ok (.iload_n 1, 1) := by decide +kernel
theorem dX11_canCome_13 : decode cX11_canCome 13 = .ok (.iaload, 1) := by decide +kernel
theorem dX11_canCome_14 : decode cX11_canCome 14 = .ok (.iload_n 2, 1) := by decide +kernel
theorem dX11_canCome_15 : decode cX11_canCome 15 = .ok (.iconst (-1), 1) := by decide +kernel
theorem dX11_canCome_16 : decode cX11_canCome 16 = .ok (.ixor, 1) := by decide +kernel
theorem dX11_canCome_17 : decode cX11_canCome 17 = .ok (.iand, 1) := by decide +kernel
theorem dX11_canCome_18 : decode cX11_canCome 18 = .ok (.ifCond .ne 7, 3) := by decide +kernel
theorem dX11_canCome_21 : decode cX11_canCome 21 = .ok (.iconst 1, 1) := by decide +kernel
theorem dX11_canCome_22 : decode cX11_canCome 22 = .ok (.goto 4, 3) := by decide +kernel
theorem dX11_canCome_25 : decode cX11_canCome 25 = .ok (.iconst 0, 1) := by decide +kernel
theorem dX11_canCome_26 : decode cX11_canCome 26 = .ok (.istore_n 3, 1) := by decide +kernel
theorem dX11_canCome_27 : decode cX11_canCome 27 = .ok (.iconst 0, 1) := by decide +kernel
theorem dX11_canCome_28 : decode cX11_canCome 28 = .ok (.istore 4, 2) := by decide +kernel
theorem dX11_canCome_30 : decode cX11_canCome 30 = .ok (.iload 4, 2) := by decide +kernel
theorem dX11_canCome_32 : decode cX11_canCome 32 = .ok (.aload_n 0, 1) := by decide +kernel
theorem dX11_canCome_33 : decode cX11_canCome 33 = .ok (.getfield 127, 3) := by decide +kernel
theorem dX11_canCome_36 : decode cX11_canCome 36 = .ok (.if_icmp .ge 54, 3) := by decide +kernel
theorem dX11_canCome_39 : decode cX11_canCome 39 = .ok (.iload_n 3, 1) := by decide +kernel
theorem dX11_canCome_40 : decode cX11_canCome 40 = .ok (.ifCond .eq 42, 3) := by decide +kernel
theorem dX11_canCome_43 : decode cX11_canCome 43 = .ok (.aload_n 0, 1) := by decide +kernel
theorem dX11_canCome_44 : decode cX11_canCome 44 = .ok (.getfield 35, 3) := by decide +kernel
theorem dX11_canCome_47 : decode cX11_canCome 47 = .ok (.iconst 3, 1) := by decide +kernel
theorem dX11_canCome_48 : decode cX11_canCome 48 = .ok (.iload_n 1, 1) := by decide +kernel
theorem dX11_canCome_49 : decode cX11_canCome 49 = .ok (.imul, 1) := by decide +kernel
theorem dX11_canCome_50 : decode cX11_canCome 50 = .ok (.iaload, 1) := by decide +kernel
theorem dX11_canCome_51 : decode cX11_canCome 51 = .ok (.iconst 4, 1) := by decide +kernel
theorem dX11_canCome_52 : decode cX11_canCome 52 = .ok (.if_icmp .ne 26, 3) := by decide +kernel
theorem dX11_canCome_55 : decode cX11_canCome 55 = .ok (.aload_n 0, 1) := by decide +kernel
theorem dX11_canCome_56 : decode cX11_canCome 56 = .ok (.getfield 35, 3) := by decide +kernel
theorem dX11_canCome_59 : decode cX11_canCome 59 = .ok (.iconst 3, 1) := by decide +kernel
theorem dX11_canCome_60 : decode cX11_canCome 60 = .ok (.iload 4, 2) := by decide +kernel
theorem dX11_canCome_62 : decode cX11_canCome 62 = .ok (.imul, 1) := by decide +kernel
theorem dX11_canCome_63 : decode cX11_canCome 63 = .ok (.iaload, 1) := by decide +kernel
theorem dX11_canCome_64 : decode cX11_canCome 64 = .ok (.iconst 4, 1) := by decide +kernel
theorem dX11_canCome_65 : decode cX11_canCome 65 = .ok (.if_icmp .eq 13, 3) := by decide +kernel
theorem dX11_canCome_68 : decode cX11_canCome 68 = .ok (.iload_n 2, 1) := by decide +kernel
theorem dX11_canCome_69 : decode cX11_canCome 69 = .ok (.iload 4, 2) := by decide +kernel
theorem dX11_canCome_71 : decode cX11_canCome 71 = .ok (.ishr, 1) := by decide +kernel
theorem dX11_canCome_72 : decode cX11_canCome 72 = .ok (.iconst 1, 1) := by decide +kernel
theorem dX11_canCome_73 : decode cX11_canCome 73 = .ok (.iand, 1) := by decide +kernel
theorem dX11_canCome_74 : decode cX11_canCome 74 = .ok (.iconst 1, 1) := by decide +kernel
theorem dX11_canCome_75 : decode cX11_canCome 75 = .ok (.if_icmp .ne 7, 3) := by decide +kernel
theorem dX11_canCome_78 : decode cX11_canCome 78 = .ok (.iconst 1, 1) := by decide +kernel
theorem dX11_canCome_79 : decode cX11_canCome 79 = .ok (.goto 4, 3) := by decide +kernel
theorem dX11_canCome_82 : decode cX11_canCome 82 = .ok (.iconst 0, 1) := by decide +kernel
theorem dX11_canCome_83 : decode cX11_canCome 83 = .ok (.istore_n 3, 1) := by decide +kernel
theorem dX11_canCome_84 : decode cX11_canCome 84 = .ok (.iinc 4 1, 3) := by decide +kernel
theorem dX11_canCome_87 : decode cX11_canCome 87 = .ok (.goto (-57), 3) := by decide +kernel
theorem dX11_canCome_90 : decode cX11_canCome 90 = .ok (.iload_n 3, 1) := by decide +kernel
theorem dX11_canCome_91 : decode cX11_canCome 91 = .ok (.ireturn, 1) := by decide +kernel
theorem dX11_mayCome_0 : decode cX11_mayCome 0 = .ok (.aload_n 0, 1) := by decide +kernel
theorem dX11_mayCome_1 : decode cX11_mayCome 1 = .ok (.getfield 118, 3) := by decide +kernel
theorem dX11_mayCome_4 : decode cX11_mayCome 4 = .ok (.iconst 1, 1) := by decide +kernel
theorem dX11_mayCome_5 : decode cX11_mayCome 5 = .ok (.if_icmp .ne 45, 3) := by decide +kernel
theorem dX11_mayCome_8 : decode cX11_mayCome 8 = .ok (.aload_n 0, 1) := by decide +kernel
theorem dX11_mayCome_9 : decode cX11_mayCome 9 = .ok (.getfield 121, 3) := by decide +kernel
theorem dX11_mayCome_12 : decode cX11_mayCome 12 = .ok (.ifCond .ne 38, 3) := by decide +kernel
theorem dX11_mayCome_15 : decode cX11_mayCome 15 = .ok (.aload_n 0, 1) := by decide +kernel
theorem dX11_mayCome_16 : decode cX11_mayCome 16 = .ok (.iload_n 1, 1) := by decide +kernel
theorem dX11_mayCome_17 : decode cX11_mayCome 17 = .ok (.aload_n 0, 1) := by decide +kernel
theorem dX11_mayCome_18 : decode cX11_mayCome 18 = .ok (.invokevirtual 216, 3) := by decide +kernel
theorem dX11_mayCome_21 : decode cX11_mayCome 21 = .ok (.invokevirtual 219, 3) := by decide +kernel
theorem dX11_mayCome_24 : decode cX11_mayCome 24 = .ok (.ifCond .eq 26, 3) := by decide +kernel
theorem dX11_mayCome_27 : decode cX11_mayCome 27 = .ok (.aload_n 0, 1) := by decide +kernel
theorem dX11_mayCome_28 : decode cX11_mayCome 28 = .ok (.getfield 115, 3) := by decide +kernel
theorem dX11_mayCome_31 : decode cX11_mayCome 31 = .ok (.aload_n 0, 1) := by decide +kernel
theorem dX11_mayCome_32 : decode cX11_mayCome 32 = .ok (.iload_n 1, 1) := by decide +kernel
theorem dX11_mayCome_33 : decode cX11_mayCome 33 = .ok (.invokevirtual 222, 3) := by decide +kernel
theorem dX11_mayCome_36 : decode cX11_mayCome 36 = .ok (.iadd, 1) := by decide +kernel
theorem dX11_mayCome_37 : decode cX11_mayCome 37 = .ok (.iconst 5, 1) := by decide +kernel
theorem dX11_mayCome_38 : decode cX11_mayCome 38 = .ok (.aload_n 0, 1) := by decide +kernel
theorem dX11_mayCome_39 : decode cX11_mayCome 39 = .ok (.getfield 106, 3) := by decide +kernel
theorem dX11_mayCome_42 : decode cX11_mayCome 42 = .ok (.imul, 1) := by decide +kernel
theorem dX11_mayCome_43 : decode cX11_mayCome 43 = .ok (.if_icmp .ge 7, 3) := by decide +kernel
theorem dX11_mayCome_46 : decode cX11_mayCome 46 = .ok (.iconst 1, 1) := by decide +kernel
theorem dX11_mayCome_47 : decode cX11_mayCome 47 = .ok (.goto 4, 3) := by decide +kernel
theorem dX11_mayCome_50 : decode cX11_mayCome 50 = .ok (.iconst 0, 1) := by decide +kernel
theorem dX11_mayCome_51 : decode cX11_mayCome 51 = .ok (.ireturn, 1) := by decide +kernel
theorem dX11_tellMan_0 : decode cX11_tellMan 0 = .ok (.iload_n 2, 1) := by decide +kernel
theorem dX11_tellMan_1 : decode cX11_tellMan 1 = .ok (.tableswitch 119 0 6 #[43, 43, 54, 60, 74, 94, 105], 43) := by decide +kernel
theorem dX11_tellMan_44 : decode cX11_tellMan 44 = .ok (.aload_n 0, 1) := by decide +kernel
theorem dX11_tellMan_45 : decode cX11_tellMan 45 = .ok (.getfield 35, 3) := by decide +kernel
theorem dX11_tellMan_48 : decode cX11_tellMan 48 = .ok (.iconst 3, 1) := by decide +kernel
theorem dX11_tellMan_49 : decode cX11_tellMan 49 = .ok (.iload_n 1, 1) := by decide +kernel
theorem dX11_tellMan_50 : decode cX11_tellMan 50 = .ok (.imul, 1) := by decide +kernel
theorem dX11_tellMan_51 : decode cX11_tellMan 51 = .ok (.iload_n 2, 1) := by decide +kernel
theorem dX11_tellMan_52 : decode cX11_tellMan 52 = .ok (.iadd, 1) := by decide +kernel
theorem dX11_tellMan_53 : decode cX11_tellMan 53 = .ok (.iaload, 1) := by decide +kernel
theorem dX11_tellMan_54 : decode cX11_tellMan 54 = .ok (.ireturn, 1) := by decide +kernel
theorem dX11_tellMan_55 : decode cX11_tellMan 55 = .ok (.aload_n 0, 1) := by decide +kernel
theorem dX11_tellMan_56 : decode cX11_tellMan 56 = .ok (.iload_n 1, 1) := by decide +kernel
theorem dX11_tellMan_57 : decode cX11_tellMan 57 = .ok (.invokevirtual 222, 3) := by decide +kernel
theorem dX11_tellMan_60 : decode cX11_tellMan 60 = .ok (.ireturn, 1) := by decide +kernel
theorem dX11_tellMan_61 : decode cX11_tellMan 61 = .ok (.aload_n 0, 1) := by decide +kernel
theorem dX11_tellMan_62 : decode cX11_tellMan 62 = .ok (.iload_n 1, 1) := by decide +kernel
theorem dX11_tellMan_63 : decode cX11_tellMan 63 = .ok (.invokevirtual 213, 3) := by decide +kernel
theorem dX11_tellMan_66 : decode cX11_tellMan 66 = .ok (.ifCond .eq 7, 3) := by decide +kernel
theorem dX11_tellMan_69 : decode cX11_tellMan 69 = .ok (.iconst 1, 1) := by decide +kernel
theorem dX11_tellMan_70 : decode cX11_tellMan 70 = .ok (.goto 4, 3) := by decide +kernel
theorem dX11_tellMan_73 : decode cX11_tellMan 73 = .ok (.iconst 0, 1) := by decide +kernel
theorem dX11_tellMan_74 : decode cX11_tellMan 74 = .ok (.ireturn, 1) := by decide +kernel
theorem dX11_tellMan_75 : decode cX11_tellMan 75 = .ok (.aload_n 0, 1) := by decide +kernel
theorem dX11_tellMan_76 : decode cX11_tellMan 76 = .ok (.getfield 35, 3) := by decide +kernel
theorem dX11_tellMan_79 : decode cX11_tellMan 79 = .ok (.iconst 3, 1) := by decide +kernel
theorem dX11_tellMan_80 : decode cX11_tellMan 80 = .ok (.iload_n 1, 1) := by decide +kernel
theorem dX11_tellMan_81 : decode cX11_tellMan 81 = .ok (.imul, 1) := by decide +kernel
theorem dX11_tellMan_82 : decode cX11_tellMan 82 = .ok (.iconst 2, 1) := by decide +kernel
theorem dX11_tellMan_83 : decode cX11_tellMan 83 = .ok (.iadd, 1) := by decide +kernel
theorem dX11_tellMan_84 : decode cX11_tellMan 84 = .ok (.iaload, 1) := by decide +kernel
theorem dX11_tellMan_85 : decode cX11_tellMan 85 = .ok (.iconst (-1), 1) := by decide +kernel
theorem dX11_tellMan_86 : decode cX11_tellMan 86 = .ok (.if_icmp .ne 7, 3) := by decide +kernel
theorem dX11_tellMan_89 : decode cX11_tellMan 89 = .ok (.iconst 0, 1) := by decide +kernel
theorem dX11_tellMan_90 : decode cX11_tellMan 90 = .ok (.goto 4, 3) := by decide +kernel
theorem dX11_tellMan_93 : decode cX11_tellMan 93 = .ok (.iconst 1, 1) := by decide +kernel
theorem dX11_tellMan_94 : decode cX11_tellMan 94 = .ok (.ireturn, 1) := by decide +kernel
theorem dX11_tellMan_95 : decode cX11_tellMan 95 = .ok (.aload_n 0, 1) := by decide +kernel
theorem dX11_tellMan_96 : decode cX11_tellMan 96 = .ok (.getfield 35, 3) := by decide +kernel
theorem dX11_tellMan_99 : decode cX11_tellMan 99 = .ok (.iconst 3, 1) := by decide +kernel
theorem dX11_tellMan_100 : decode cX11_tellMan 100 = .ok (.iload_n 1, 1) := by decide +kernel
theorem dX11_tellMan_101 : decode cX11_tellMan 101 = .ok (.imul, 1) := by decide +kernel
theorem dX11_tellMan_102 : decode cX11_tellMan 102 = .ok (.iconst 2, 1) := by decide +kernel
theorem dX11_tellMan_103 : decode cX11_tellMan 103 = .ok (.iadd, 1) := by decide +kernel
theorem dX11_tellMan_104 : decode cX11_tellMan 104 = .ok (.iaload, 1) := by decide +kernel
theorem dX11_tellMan_105 : decode cX11_tellMan 105 = .ok (.ireturn, 1) := by decide +kernel
theorem dX11_tellMan_106 : decode cX11_tellMan 106 = .ok (.aload_n 0, 1) := by decide +kernel
theorem dX11_tellMan_107 : decode cX11_tellMan 107 = .ok (.iload_n 1, 1) := by decide +kernel
theorem dX11_tellMan_108 : decode cX11_tellMan 108 = .ok (.invokevirtual 225, 3) := by decide +kernel
theorem dX11_tellMan_111 : decode cX11_tellMan 111 = .ok (.ifCond .eq 7, 3) := by decide +kernel
theorem dX11_tellMan_114 : decode cX11_tellMan 114 = .ok (.iconst 1, 1) := by decide +kernel
theorem dX11_tellMan_115 : decode cX11_tellMan 115 = .ok (.goto 4, 3) := by decide +kernel
theorem dX11_tellMan_118 : decode cX11_tellMan 118 = .ok (.iconst 0, 1) := by decide +kernel
theorem dX11_tellMan_119 : decode cX11_tellMan 119 = .ok (.ireturn, 1) := by decide +kernel
theorem dX11_tellMan_120 : decode cX11_tellMan 120 = .ok (.bipush (-102), 2) := by decide +kernel
theorem dX11_tellMan_122 : decode cX11_tellMan 122 = .ok (.ireturn, 1) := by decide +kernel
theorem dX11_about_0 : decode cX11_about 0 = .ok (.aload_n 0, 1) := by decide +kernel
theorem dX11_about_1 : decode cX11_about 1 = .ok (.iload_n 1, 1) := by decide +kernel
theorem dX11_about_2 : decode cX11_about 2 = .ok (.invokevirtual 228, 3) := by decide +kernel
theorem dX11_about_5 : decode cX11_about 5 = .ok (.ifCond .eq 12, 3) := by decide +kernel
theorem dX11_about_8 : decode cX11_about 8 = .ok (.aload_n 0, 1) := by decide +kernel
theorem dX11_about_9 : decode cX11_about 9 = .ok (.iload_n 1, 1) := by decide +kernel
theorem dX11_about_10 : decode cX11_about 10 = .ok (.iload_n 2, 1) := by decide +kernel
theorem dX11_about_11 : decode cX11_about 11 = .ok (.invokevirtual 231, 3) := by decide +kernel
theorem dX11_about_14 : decode cX11_about 14 = .ok (.goto 5, 3) := by decide +kernel
theorem dX11_about_17 : decode cX11_about 17 = .ok (.bipush (-101), 2) := by decide +kernel
theorem dX11_about_19 : decode cX11_about 19 = .ok (.ireturn, 1) := by decide +kernel
theorem dX11_as_0 : decode cX11_as 0 = .ok (.aload_n 0, 1) := by decide +kernel
theorem dX11_as_1 : decode cX11_as 1 = .ok (.iload_n 1, 1) := by decide +kernel
theorem dX11_as_2 : decode cX11_as 2 = .ok (.invokevirtual 228, 3) := by decide +kernel
theorem dX11_as_5 : decode cX11_as 5 = .ok (.ifCond .ne 6, 3) := by decide +kernel
theorem dX11_as_8 : decode cX11_as 8 = .ok (.bipush (-101), 2) := by decide +kernel
theorem dX11_as_10 : decode cX11_as 10 = .ok (.ireturn, 1) := by decide +kernel
theorem dX11_as_11 : decode cX11_as 11 = .ok (.iload_n 2, 1) := by decide +kernel
theorem dX11_as_12 : decode cX11_as 12 = .ok (.i2l, 1) := by decide +kernel
theorem dX11_as_13 : decode cX11_as 13 = .ok (.lconst 0, 1) := by decide +kernel
theorem dX11_as_14 : decode cX11_as 14 = .ok (.ldc2_w 139, 3) := by decide +kernel
theorem dX11_as_17 : decode cX11_as 17 = .ok (.invokestatic 77, 3) := by decide +kernel
theorem dX11_as_20 : decode cX11_as 20 = .ok (.ifCond .ne 6, 3) := by decide +kernel
theorem dX11_as_23 : decode cX11_as 23 = .ok (.bipush (-102), 2) := by decide +kernel
theorem dX11_as_25 : decode cX11_as 25 = .ok (.ireturn, 1) := by decide +kernel
theorem dX11_as_26 : decode cX11_as 26 = .ok (.aload_n 0, 1) := by decide +kernel
theorem dX11_as_27 : decode cX11_as 27 = .ok (.getfield 35, 3) := by decide +kernel
theorem dX11_as_30 : decode cX11_as 30 = .ok (.iconst 3, 1) := by decide +kernel
theorem dX11_as_31 : decode cX11_as 31 = .ok (.iload_n 1, 1) := by decide +kernel
theorem dX11_as_32 : decode cX11_as 32 = .ok (.imul, 1) := by decide +kernel
theorem dX11_as_33 : decode cX11_as 33 = .ok (.iaload, 1) := by decide +kernel
theorem dX11_as_34 : decode cX11_as 34 = .ok (.istore_n 3, 1) := by decide +kernel
theorem dX11_as_35 : decode cX11_as 35 = .ok (.iload_n 2, 1) := by decide +kernel
theorem dX11_as_36 : decode cX11_as 36 = .ok (.ifCond .eq 18, 3) := by decide +kernel
theorem dX11_as_39 : decode cX11_as 39 = .ok (.iload_n 2, 1) := by decide +kernel
theorem dX11_as_40 : decode cX11_as 40 = .ok (.iload_n 3, 1) := by decide +kernel
theorem dX11_as_41 : decode cX11_as 41 = .ok (.if_icmp .eq 13, 3) := by decide +kernel
theorem dX11_as_44 : decode cX11_as 44 = .ok (.iload_n 2, 1) := by decide +kernel
theorem dX11_as_45 : decode cX11_as 45 = .ok (.iconst 2, 1) := by decide +kernel
theorem dX11_as_46 : decode cX11_as 46 = .ok (.if_icmp .ne 12, 3) := by decide +kernel
theorem dX11_as_49 : decode cX11_as 49 = .ok (.iload_n 3, 1) := by decide +kernel
theorem dX11_as_50 : decode cX11_as 50 = .ok (.iconst 4, 1) := by decide +kernel
theorem dX11_as_51 : decode cX11_as 51 = .ok (.if_icmp .ne 7, 3) := by decide +kernel
theorem dX11_as_54 : decode cX11_as 54 = .ok (.iconst 1, 1) := by decide +kernel
theorem dX11_as_55 : decode cX11_as 55 = .ok (.goto 4, 3) := by decide +kernel
theorem dX11_as_58 : decode cX11_as 58 = .ok (.iconst 0, 1) := by decide +kernel
theorem dX11_as_59 : decode cX11_as 59 = .ok (.istore 4, 2) := by decide +kernel
theorem dX11_as_61 : decode cX11_as 61 = .ok (.iload 4, 2) := by decide +kernel
theorem dX11_as_63 : decode cX11_as 63 = .ok (.ifCond .eq 7, 3) := by decide +kernel
theorem dX11_as_66 : decode cX11_as 66 = .ok (.iload_n 1, 1) := by decide +kernel
theorem dX11_as_67 : decode cX11_as 67 = .ok (.goto 4, 3) := by decide +kernel
theorem dX11_as_70 : decode cX11_as 70 = .ok (.iconst (-1), 1) := by decide +kernel
theorem dX11_as_71 : decode cX11_as 71 = .ok (.ireturn, 1) := by decide +kernel
theorem dX11_behind_0 : decode cX11_behind 0 = .ok (.aload_n 0, 1) := by decide +kernel
theorem dX11_behind_1 : decode cX11_behind 1 = .ok (.iload_n 1, 1) := by decide +kernel
theorem dX11_behind_2 : decode cX11_behind 2 = .ok (.invokevirtual 228, 3) := by decide +kernel
theorem dX11_behind_5 : decode cX11_behind 5 = .ok (.ifCond .eq 16, 3) := by decide +kernel
theorem dX11_behind_8 : decode cX11_behind 8 = .ok (.aload_n 0, 1) := by decide +kernel
theorem dX11_behind_9 : decode cX11_behind 9 = .ok (.iload_n 2, 1) := by decide +kernel
theorem dX11_behind_10 : decode cX11_behind 10 = .ok (.invokevirtual 228, 3) := by decide +kernel
theorem dX11_behind_13 : decode cX11_behind 13 = .ok (.ifCond .eq 8, 3) := by decide +kernel
theorem dX11_behind_16 : decode cX11_behind 16 = .ok (.iload_n 1, 1) := by decide +kernel
theorem dX11_behind_17 : decode cX11_behind 17 = .ok (.iload_n 2, 1) := by decide +kernel
theorem dX11_behind_18 : decode cX11_behind 18 = .ok (.if_icmp .ne 6, 3) := by decide +kernel
theorem dX11_behind_21 : decode cX11_behind 21 = .ok (.bipush (-101), 2) := by decide +kernel
theorem dX11_behind_23 : decode cX11_behind 23 = .ok (.ireturn, 1) := by decide +kernel
theorem dX11_behind_24 : decode cX11_behind 24 = .ok (.aload_n 0, 1) := by decide +kernel
theorem dX11_behind_25 : decode cX11_behind 25 = .ok (.getfield 38, 3) := by decide +kernel
theorem dX11_behind_28 : decode cX11_behind 28 = .ok (.iload_n 1, 1) := by decide +kernel
theorem dX11_behind_29 : decode cX11_behind 29 = .ok (.iaload, 1) := by decide +kernel
theorem dX11_behind_30 : decode cX11_behind 30 = .ok (.iload_n 2, 1) := by decide +kernel
theorem dX11_behind_31 : decode cX11_behind 31 = .ok (.ishr, 1) := by decide +kernel
theorem dX11_behind_32 : decode cX11_behind 32 = .ok (.iconst 1, 1) := by decide +kernel
theorem dX11_behind_33 : decode cX11_behind 33 = .ok (.iand, 1) := by decide +kernel
theorem dX11_behind_34 : decode cX11_behind 34 = .ok (.istore 4, 2) := by decide +kernel
theorem dX11_behind_36 : decode cX11_behind 36 = .ok (.aload_n 0, 1) := by decide +kernel
theorem dX11_behind_37 : decode cX11_behind 37 = .ok (.getfield 38, 3) := by decide +kernel
theorem dX11_behind_40 : decode cX11_behind 40 = .ok (.iload_n 1, 1) := by decide +kernel
theorem dX11_behind_41 : decode cX11_behind 41 = .ok (.iload_n 3, 1) := by decide +kernel
theorem dX11_behind_42 : decode cX11_behind 42 = .ok (.ifCond .eq 16, 3) := by decide +kernel
theorem dX11_behind_45 : decode cX11_behind 45 = .ok (.aload_n 0, 1) := by decide +kernel
theorem dX11_behind_46 : decode cX11_behind 46 = .ok (.getfield 38, 3) := by decide +kernel
theorem dX11_behind_49 : decode cX11_behind 49 = .ok (.iload_n 1, 1) := by decide +kernel
theorem dX11_behind_50 : decode cX11_behind 50 = .ok (.iaload, 1) := by decide +kernel
theorem dX11_behind_51 : decode cX11_behind 51 = .ok (.iconst 1, 1) := by decide +kernel
theorem dX11_behind_52 : decode cX11_behind 52 = .ok (.iload_n 2, 1) := by decide +kernel
theorem dX11_behind_53 : decode cX11_behind 53 = .ok (.ishl, 1) := by decide +kernel
theorem dX11_behind_54 : decode cX11_behind 54 = .ok (.ior, 1) := by decide +kernel
theorem dX11_behind_55 : decode cX11_behind 55 = .ok (.goto 15, 3) := by decide +kernel
theorem dX11_behind_58 : decode cX11_behind 58 = .ok (.aload_n 0, 1) := by decide +kernel
theorem dX11_behind_59 : decode cX11_behind 59 = .ok (.getfield 38, 3) := by decide +kernel
theorem dX11_behind_62 : decode cX11_behind 62 = .ok (.iload_n 1, 1) := by decide +kernel
theorem dX11_behind_63 : decode cX11_behind 63 = .ok (.iaload, 1) := by decide +kernel
theorem dX11_behind_64 : decode cX11_behind 64 = .ok (.iconst 1, 1) := by decide +kernel
theorem dX11_behind_65 : decode cX11_behind 65 = .ok (.iload_n 2, 1) := by decide +kernel
theorem dX11_behind_66 : decode cX11_behind 66 = .ok (.ishl, 1) := by decide +kernel
theorem dX11_behind_67 : decode cX11_behind 67 = .ok (.iconst (-1), 1) := by decide +kernel
theorem dX11_behind_68 : decode cX11_behind 68 = .ok (.ixor, 1) := by decide +kernel
theorem dX11_behind_69 : decode cX11_behind 69 = .ok (.iand, 1) := by decide +kernel
theorem dX11_behind_70 : decode cX11_behind 70 = .ok (.iastore, 1) := by decide +kernel
theorem dX11_behind_71 : decode cX11_behind 71 = .ok (.iload 4, 2) := by decide +kernel
theorem dX11_behind_73 : decode cX11_behind 73 = .ok (.ireturn, 1) := by decide +kernel
theorem dX11_hawser_0 : decode cX11_hawser 0 = .ok (.iload_n 1, 1) := by decide +kernel
theorem dX11_hawser_1 : decode cX11_hawser 1 = .ok (.i2l, 1) := by decide +kernel
theorem dX11_hawser_2 : decode cX11_hawser 2 = .ok (.lconst 0, 1) := by decide +kernel
theorem dX11_hawser_3 : decode cX11_hawser 3 = .ok (.ldc2_w 234, 3) := by decide +kernel
theorem dX11_hawser_6 : decode cX11_hawser 6 = .ok (.invokestatic 77, 3) := by decide +kernel
theorem dX11_hawser_9 : decode cX11_hawser 9 = .ok (.ifCond .ne 6, 3) := by decide +kernel
theorem dX11_hawser_12 : decode cX11_hawser 12 = .ok (.bipush (-102), 2) := by decide +kernel
theorem dX11_hawser_14 : decode cX11_hawser 14 = .ok (.ireturn, 1) := by decide +kernel
theorem dX11_hawser_15 : decode cX11_hawser 15 = .ok (.aload_n 0, 1) := by decide +kernel
theorem dX11_hawser_16 : decode cX11_hawser 16 = .ok (.invokevirtual 145, 3) := by decide +kernel
theorem dX11_hawser_19 : decode cX11_hawser 19 = .ok (.ifCond .eq 6, 3) := by decide +kernel
theorem dX11_hawser_22 : decode cX11_hawser 22 = .ok (.bipush (-103), 2) := by decide +kernel
theorem dX11_hawser_24 : decode cX11_hawser 24 = .ok (.ireturn, 1) := by decide +kernel
theorem dX11_hawser_25 : decode cX11_hawser 25 = .ok (.aload_n 0, 1) := by decide +kernel
theorem dX11_hawser_26 : decode cX11_hawser 26 = .ok (.getfield 72, 3) := by decide +kernel
theorem dX11_hawser_29 : decode cX11_hawser 29 = .ok (.istore_n 2, 1) := by decide +kernel
theorem dX11_hawser_30 : decode cX11_hawser 30 = .ok (.aload_n 0, 1) := by decide +kernel
theorem dX11_hawser_31 : decode cX11_hawser 31 = .ok (.iload_n 1, 1) := by decide +kernel
theorem dX11_hawser_32 : decode cX11_hawser 32 = .ok (.putfield 72, 3) := by decide +kernel
theorem dX11_hawser_35 : decode cX11_hawser 35 = .ok (.iload_n 2, 1) := by decide +kernel
theorem dX11_hawser_36 : decode cX11_hawser 36 = .ok (.ireturn, 1) := by decide +kernel
theorem dX11_come_0 : decode cX11_come 0 = .ok (.aload_n 0, 1) := by decide +kernel
theorem dX11_come_1 : decode cX11_come 1 = .ok (.iload_n 1, 1) := by decide +kernel
theorem dX11_come_2 : decode cX11_come 2 = .ok (.invokevirtual 228, 3) := by decide +kernel
theorem dX11_come_5 : decode cX11_come 5 = .ok (.ifCond .ne 6, 3) := by decide +kernel
theorem dX11_come_8 : decode cX11_come 8 = .ok (.bipush (-101), 2) := by decide +kernel
theorem dX11_come_10 : decode cX11_come 10 = .ok (.ireturn, 1) := by decide +kernel
theorem dX11_come_11 : decode cX11_come 11 = .ok (.aload_n 0, 1) := by decide +kernel
theorem dX11_come_12 : decode cX11_come 12 = .ok (.iload_n 1, 1) := by decide +kernel
theorem dX11_come_13 : decode cX11_come 13 = .ok (.invokevirtual 225, 3) := by decide +kernel
theorem dX11_come_16 : decode cX11_come 16 = .ok (.ifCond .ne 6, 3) := by decide +kernel
theorem dX11_come_19 : decode cX11_come 19 = .ok (.bipush (-103), 2) := by decide +kernel
theorem dX11_come_21 : decode cX11_come 21 = .ok (.ireturn, 1) := by decide +kernel
theorem dX11_come_22 : decode cX11_come 22 = .ok (.aload_n 0, 1) := by decide +kernel
theorem dX11_come_23 : decode cX11_come 23 = .ok (.dup, 1) := by decide +kernel
theorem dX11_come_24 : decode cX11_come 24 = .ok (.getfield 115, 3) := by decide +kernel
theorem dX11_come_27 : decode cX11_come 27 = .ok (.aload_n 0, 1) := by decide +kernel
theorem dX11_come_28 : decode cX11_come 28 = .ok (.iload_n 1, 1) := by decide +kernel
theorem dX11_come_29 : decode cX11_come 29 = .ok (.invokevirtual 222, 3) := by decide +kernel
theorem dX11_come_32 : decode cX11_come 32 = .ok (.iadd, 1) := by decide +kernel
theorem dX11_come_33 : decode cX11_come 33 = .ok (.putfield 115, 3) := by decide +kernel
theorem dX11_come_36 : decode cX11_come 36 = .ok (.aload_n 0, 1) := by decide +kernel
theorem dX11_come_37 : decode cX11_come 37 = .ok (.getfield 35, 3) := by decide +kernel
theorem dX11_come_40 : decode cX11_come 40 = .ok (.iconst 3, 1) := by decide +kernel
theorem dX11_come_41 : decode cX11_come 41 = .ok (.iload_n 1, 1) := by decide +kernel
theorem dX11_come_42 : decode cX11_come 42 = .ok (.imul, 1) := by decide +kernel
theorem dX11_come_43 : decode cX11_come 43 = .ok (.iconst 2, 1) := by decide +kernel
theorem dX11_come_44 : decode cX11_come 44 = .ok (.iadd, 1) := by decide +kernel
theorem dX11_come_45 : decode cX11_come 45 = .ok (.aload_n 0, 1) := by decide +kernel
theorem dX11_come_46 : decode cX11_come 46 = .ok (.getfield 115, 3) := by decide +kernel
theorem dX11_come_49 : decode cX11_come 49 = .ok (.iastore, 1) := by decide +kernel
theorem dX11_come_50 : decode cX11_come 50 = .ok (.aload_n 0, 1) := by decide +kernel
theorem dX11_come_51 : decode cX11_come 51 = .ok (.getfield 115, 3) := by decide +kernel
theorem dX11_come_54 : decode cX11_come 54 = .ok (.ireturn, 1) := by decide +kernel
theorem dX11_minutes_0 : decode cX11_minutes 0 = .ok (.iload_n 1, 1) := by decide +kernel
theorem dX11_minutes_1 : decode cX11_minutes 1 = .ok (.i2l, 1) := by decide +kernel
theorem dX11_minutes_2 : decode cX11_minutes 2 = .ok (.lconst 1, 1) := by decide +kernel
theorem dX11_minutes_3 : decode cX11_minutes 3 = .ok (.ldc2_w 236, 3) := by decide +kernel
theorem dX11_minutes_6 : decode cX11_minutes 6 = .ok (.invokestatic 77, 3) := by decide +kernel
theorem dX11_minutes_9 : decode cX11_minutes 9 = .ok (.ifCond .ne 6, 3) := by decide +kernel
theorem dX11_minutes_12 : decode cX11_minutes 12 = .ok (.bipush (-102), 2) := by decide +kernel
theorem dX11_minutes_14 : decode cX11_minutes 14 = .ok (.ireturn, 1) := by decide +kernel
theorem dX11_minutes_15 : decode cX11_minutes 15 = .ok (.aload_n 0, 1) := by decide +kernel
theorem dX11_minutes_16 : decode cX11_minutes 16 = .ok (.invokevirtual 145, 3) := by decide +kernel
theorem dX11_minutes_19 : decode cX11_minutes 19 = .ok (.ifCond .ne 26, 3) := by decide +kernel
theorem dX11_minutes_22 : decode cX11_minutes 22 = .ok (.aload_n 0, 1) := by decide +kernel
theorem dX11_minutes_23 : decode cX11_minutes 23 = .ok (.getfield 121, 3) := by decide +kernel
theorem dX11_minutes_26 : decode cX11_minutes 26 = .ok (.iconst 1, 1) := by decide +kernel
theorem dX11_minutes_27 : decode cX11_minutes 27 = .ok (.if_icmp .eq 18, 3) := by decide +kernel
theorem dX11_minutes_30 : decode cX11_minutes 30 = .ok (.aload_n 0, 1) := by decide +kernel
theorem dX11_minutes_31 : decode cX11_minutes 31 = .ok (.getfield 115, 3) := by decide +kernel
theorem dX11_minutes_34 : decode cX11_minutes 34 = .ok (.iload_n 1, 1) := by decide +kernel
theorem dX11_minutes_35 : decode cX11_minutes 35 = .ok (.iadd, 1) := by decide +kernel
theorem dX11_minutes_36 : decode cX11_minutes 36 = .ok (.iconst 5, 1) := by decide +kernel
theorem dX11_minutes_37 : decode cX11_minutes 37 = .ok (.aload_n 0, 1) := by decide +kernel
theorem dX11_minutes_38 : decode cX11_minutes 38 = .ok (.getfield 106, 3) := by decide +kernel
theorem dX11_minutes_41 : decode cX11_minutes 41 = .ok (.imul, 1) := by decide +kernel
theorem dX11_minutes_42 : decode cX11_minutes 42 = .ok (.if_icmp .lt 6, 3) := by decide +kernel
theorem dX11_minutes_45 : decode cX11_minutes 45 = .ok (.bipush (-103), 2) := by decide +kernel
theorem dX11_minutes_47 : decode cX11_minutes 47 = .ok (.ireturn, 1) := by decide +kernel
theorem dX11_minutes_48 : decode cX11_minutes 48 = .ok (.aload_n 0, 1) := by decide +kernel
theorem dX11_minutes_49 : decode cX11_minutes 49 = .ok (.dup, 1) := by decide +kernel
theorem dX11_minutes_50 : decode cX11_minutes 50 = .ok (.getfield 115, 3) := by decide +kernel
theorem dX11_minutes_53 : decode cX11_minutes 53 = .ok (.iload_n 1, 1) := by decide +kernel
theorem dX11_minutes_54 : decode cX11_minutes 54 = .ok (.iadd, 1) := by decide +kernel
theorem dX11_minutes_55 : decode cX11_minutes 55 = .ok (.putfield 115, 3) := by decide +kernel
theorem dX11_minutes_58 : decode cX11_minutes 58 = .ok (.aload_n 0, 1) := by decide +kernel
theorem dX11_minutes_59 : decode cX11_minutes 59 = .ok (.getfield 115, 3) := by decide +kernel
theorem dX11_minutes_62 : decode cX11_minutes 62 = .ok (.ireturn, 1) := by decide +kernel
theorem dX11_ones_0 : decode cX11_ones 0 = .ok (.iconst 0, 1) := by decide +kernel
theorem dX11_ones_1 : decode cX11_ones 1 = .ok (.istore_n 1, 1) := by decide +kernel
theorem dX11_ones_2 : decode cX11_ones 2 = .ok (.iconst 0, 1) := by decide +kernel
theorem dX11_ones_3 : decode cX11_ones 3 = .ok (.istore_n 2, 1) := by decide +kernel
theorem dX11_ones_4 : decode cX11_ones 4 = .ok (.iload_n 2, 1) := by decide +kernel
theorem dX11_ones_5 : decode cX11_ones 5 = .ok (.bipush 6, 2) := by decide +kernel
theorem dX11_ones_7 : decode cX11_ones 7 = .ok (.if_icmp .ge 17, 3) := by decide +kernel
theorem dX11_ones_10 : decode cX11_ones 10 = .ok (.iload_n 1, 1) := by decide +kernel
theorem dX11_ones_11 : decode cX11_ones 11 = .ok (.iload_n 0, 1) := by decide +kernel
theorem dX11_ones_12 : decode cX11_ones 12 = .ok (.iload_n 2, 1) := by decide +kernel
theorem dX11_ones_13 : decode cX11_ones 13 = .ok (.ishr, 1) := by decide +kernel
theorem dX11_ones_14 : decode cX11_ones 14 = .ok (.iconst 1, 1) := by decide +kernel
theorem dX11_ones_15 : decode cX11_ones 15 = .ok (.iand, 1) := by decide +kernel
theorem dX11_ones_16 : decode cX11_ones 16 = .ok (.iadd, 1) := by decide +kernel
theorem dX11_ones_17 : decode cX11_ones 17 = .ok (.istore_n 1, 1) := by decide +kernel
theorem dX11_ones_18 : decode cX11_ones 18 = .ok (.iinc 2 1, 3) := by decide +kernel
theorem dX11_ones_21 : decode cX11_ones 21 = .ok (.goto (-17), 3) := by decide +kernel
theorem dX11_ones_24 : decode cX11_ones 24 = .ok (.iload_n 1, 1) := by decide +kernel
theorem dX11_ones_25 : decode cX11_ones 25 = .ok (.ireturn, 1) := by decide +kernel
theorem dX11_breaks_0 : decode cX11_breaks 0 = .ok (.aload_n 0, 1) := by decide +kernel
theorem dX11_breaks_1 : decode cX11_breaks 1 = .ok (.invokevirtual 145, 3) := by decide +kernel
theorem dX11_breaks_4 : decode cX11_breaks 4 = .ok (.ifCond .ne 11, 3) := by decide +kernel
theorem dX11_breaks_7 : decode cX11_breaks 7 = .ok (.aload_n 0, 1) := by decide +kernel
theorem dX11_breaks_8 : decode cX11_breaks 8 = .ok (.getfield 121, 3) := by decide +kernel
theorem dX11_breaks_11 : decode cX11_breaks 11 = .ok (.iconst 1, 1) := by decide +kernel
theorem dX11_breaks_12 : decode cX11_breaks 12 = .ok (.if_icmp .ne 6, 3) := by decide +kernel
theorem dX11_breaks_15 : decode cX11_breaks 15 = .ok (.bipush (-103), 2) := by decide +kernel
theorem dX11_breaks_17 : decode cX11_breaks 17 = .ok (.ireturn, 1) := by decide +kernel
theorem dX11_breaks_18 : decode cX11_breaks 18 = .ok (.aload_n 0, 1) := by decide +kernel
theorem dX11_breaks_19 : decode cX11_breaks 19 = .ok (.iconst 1, 1) := by decide +kernel
theorem dX11_breaks_20 : decode cX11_breaks 20 = .ok (.putfield 121, 3) := by decide +kernel
theorem dX11_breaks_23 : decode cX11_breaks 23 = .ok (.aload_n 0, 1) := by decide +kernel
theorem dX11_breaks_24 : decode cX11_breaks 24 = .ok (.getfield 127, 3) := by decide +kernel
theorem dX11_breaks_27 : decode cX11_breaks 27 = .ok (.aload_n 0, 1) := by decide +kernel
theorem dX11_breaks_28 : decode cX11_breaks 28 = .ok (.invokevirtual 216, 3) := by decide +kernel
theorem dX11_breaks_31 : decode cX11_breaks 31 = .ok (.invokestatic 238, 3) := by decide +kernel
theorem dX11_breaks_34 : decode cX11_breaks 34 = .ok (.isub, 1) := by decide +kernel
theorem dX11_breaks_35 : decode cX11_breaks 35 = .ok (.ireturn, 1) := by decide +kernel
theorem dX11_firstOrder_0 : decode cX11_firstOrder 0 = .ok (.aload_n 0, 1) := by decide +kernel
theorem dX11_firstOrder_1 : decode cX11_firstOrder 1 = .ok (.iconst 0, 1) := by decide +kernel
theorem dX11_firstOrder_2 : decode cX11_firstOrder 2 = .ok (.putfield 241, 3) := by decide +kernel
theorem dX11_firstOrder_5 : decode cX11_firstOrder 5 = .ok (.iconst 0, 1) := by decide +kernel
theorem dX11_firstOrder_6 : decode cX11_firstOrder 6 = .ok (.istore_n 2, 1) := by decide +kernel
theorem dX11_firstOrder_7 : decode cX11_firstOrder 7 = .ok (.iload_n 2, 1) := by decide +kernel
theorem dX11_firstOrder_8 : decode cX11_firstOrder 8 = .ok (.aload_n 0, 1) := by decide +kernel
theorem dX11_firstOrder_9 : decode cX11_firstOrder 9 = .ok (.getfield 127, 3) := by decide +kernel
theorem dX11_firstOrder_12 : decode cX11_firstOrder 12 = .ok (.if_icmp .ge 38, 3) := by decide +kernel
theorem dX11_firstOrder_15 : decode cX11_firstOrder 15 = .ok (.iload_n 1, 1) := by decide +kernel
theorem dX11_firstOrder_16 : decode cX11_firstOrder 16 = .ok (.iload_n 2, 1) := by decide +kernel
theorem dX11_firstOrder_17 : decode cX11_firstOrder 17 = .ok (.ishr, 1) := by decide +kernel
theorem dX11_firstOrder_18 : decode cX11_firstOrder 18 = .ok (.iconst 1, 1) := by decide +kernel
theorem dX11_firstOrder_19 : decode cX11_firstOrder 19 = .ok (.iand, 1) := by decide +kernel
theorem dX11_firstOrder_20 : decode cX11_firstOrder 20 = .ok (.iconst 1, 1) := by decide +kernel
theorem dX11_firstOrder_21 : decode cX11_firstOrder 21 = .ok (.if_icmp .ne 23, 3) := by decide +kernel
theorem dX11_firstOrder_24 : decode cX11_firstOrder 24 = .ok (.aload_n 0, 1) := by decide +kernel
theorem dX11_firstOrder_25 : decode cX11_firstOrder 25 = .ok (.getfield 41, 3) := by decide +kernel
theorem dX11_firstOrder_28 : decode cX11_firstOrder 28 = .ok (.aload_n 0, 1) := by decide +kernel
theorem dX11_firstOrder_29 : decode cX11_firstOrder 29 = .ok (.getfield 241, 3) := by decide +kernel
theorem dX11_firstOrder_32 : decode cX11_firstOrder 32 = .ok (.iload_n 2, 1) := by decide +kernel
theorem dX11_firstOrder_33 : decode cX11_firstOrder 33 = .ok (.iastore, 1) := by decide +kernel
theorem dX11_firstOrder_34 : decode cX11_firstOrder 34 = .ok (.aload_n 0, 1) := by decide +kernel
theorem dX11_firstOrder_35 : decode cX11_firstOrder 35 = .ok (.dup, 1) := by decide +kernel
theorem dX11_firstOrder_36 : decode cX11_firstOrder 36 = .ok (.getfield 241, 3) := by decide +kernel
theorem dX11_firstOrder_39 : decode cX11_firstOrder 39 = .ok (.iconst 1, 1) := by decide +kernel
theorem dX11_firstOrder_40 : decode cX11_firstOrder 40 = .ok (.iadd, 1) := by decide +kernel
theorem dX11_firstOrder_41 : decode cX11_firstOrder 41 = .ok (.putfield 241, 3) := by decide +kernel
theorem dX11_firstOrder_44 : decode cX11_firstOrder 44 = .ok (.iinc 2 1, 3) := by decide +kernel
theorem dX11_firstOrder_47 : decode cX11_firstOrder 47 = .ok (.goto (-40), 3) := by decide +kernel
theorem dX11_firstOrder_50 : decode cX11_firstOrder 50 = .ok (.return_, 1) := by decide +kernel
theorem dX11_nextOrder_0 : decode cX11_nextOrder 0 = .ok (.aload_n 0, 1) := by decide +kernel
theorem dX11_nextOrder_1 : decode cX11_nextOrder 1 = .ok (.getfield 241, 3) := by decide +kernel
theorem dX11_nextOrder_4 : decode cX11_nextOrder 4 = .ok (.iconst 2, 1) := by decide +kernel
theorem dX11_nextOrder_5 : decode cX11_nextOrder 5 = .ok (.isub, 1) := by decide +kernel
theorem dX11_nextOrder_6 : decode cX11_nextOrder 6 = .ok (.istore_n 1, 1) := by decide +kernel
theorem dX11_nextOrder_7 : decode cX11_nextOrder 7 = .ok (.iload_n 1, 1) := by decide +kernel
theorem dX11_nextOrder_8 : decode cX11_nextOrder 8 = .ok (.ifCond .lt 26, 3) := by decide +kernel
theorem dX11_nextOrder_11 : decode cX11_nextOrder 11 = .ok (.aload_n 0, 1) := by decide +kernel
theorem dX11_nextOrder_12 : decode cX11_nextOrder 12 = .ok (.getfield 41, 3) := by decide +kernel
theorem dX11_nextOrder_15 : decode cX11_nextOrder 15 = .ok (.iload_n 1, 1) := by decide +kernel
theorem dX11_nextOrder_16 : decode cX11_nextOrder 16 = .ok (.iaload, 1) := by decide +kernel
theorem dX11_nextOrder_17 : decode cX11_nextOrder 17 = .ok (.aload_n 0, 1) := by decide +kernel
theorem dX11_nextOrder_18 : decode cX11_nextOrder 18 = .ok (.getfield 41, 3) := by decide +kernel
theorem dX11_nextOrder_21 : decode cX11_nextOrder 21 = .ok (.iload_n 1, 1) := by decide +kernel
theorem dX11_nextOrder_22 : decode cX11_nextOrder 22 = .ok (.iconst 1, 1) := by decide +kernel
theorem dX11_nextOrder_23 : decode cX11_nextOrder 23 = .ok (.iadd, 1) := by decide +kernel
theorem dX11_nextOrder_24 : decode cX11_nextOrder 24 = .ok (.iaload, 1) := by decide +kernel
theorem dX11_nextOrder_25 : decode cX11_nextOrder 25 = .ok (.if_icmp .le 9, 3) := by decide +kernel
theorem dX11_nextOrder_28 : decode cX11_nextOrder 28 = .ok (.iinc 1 (-1), 3) := by decide +kernel
theorem dX11_nextOrder_31 : decode cX11_nextOrder 31 = .ok (.goto (-24), 3) := by decide +kernel
theorem dX11_nextOrder_34 : decode cX11_nextOrder 34 = .ok (.iload_n 1, 1) := by decide +kernel
theorem dX11_nextOrder_35 : decode cX11_nextOrder 35 = .ok (.ifCond .ge 5, 3) := by decide +kernel
theorem dX11_nextOrder_38 : decode cX11_nextOrder 38 = .ok (.iconst 0, 1) := by decide +kernel
theorem dX11_nextOrder_39 : decode cX11_nextOrder 39 = .ok (.ireturn, 1) := by decide +kernel
theorem dX11_nextOrder_40 : decode cX11_nextOrder 40 = .ok (.aload_n 0, 1) := by decide +kernel
theorem dX11_nextOrder_41 : decode cX11_nextOrder 41 = .ok (.getfield 241, 3) := by decide +kernel
theorem dX11_nextOrder_44 : decode cX11_nextOrder 44 = .ok (.iconst 1, 1) := by decide +kernel
theorem dX11_nextOrder_45 : decode cX11_nextOrder 45 = .ok (.isub, 1) := by decide +kernel
theorem dX11_nextOrder_46 : decode cX11_nextOrder 46 = .ok (.istore_n 2, 1) := by decide +kernel
theorem dX11_nextOrder_47 : decode cX11_nextOrder 47 = .ok (.aload_n 0, 1) := by decide +kernel
theorem dX11_nextOrder_48 : decode cX11_nextOrder 48 = .ok (.getfield 41, 3) := by decide +kernel
theorem dX11_nextOrder_51 : decode cX11_nextOrder 51 = .ok (.iload_n 2, 1) := by decide +kernel
theorem dX11_nextOrder_52 : decode cX11_nextOrder 52 = .ok (.iaload, 1) := by decide +kernel
theorem dX11_nextOrder_53 : decode cX11_nextOrder 53 = .ok (.aload_n 0, 1) := by decide +kernel
theorem dX11_nextOrder_54 : decode cX11_nextOrder 54 = .ok (.getfield 41, 3) := by decide +kernel
theorem dX11_nextOrder_57 : decode cX11_nextOrder 57 = .ok (.iload_n 1, 1) := by decide +kernel
theorem dX11_nextOrder_58 : decode cX11_nextOrder 58 = .ok (.iaload, 1) := by decide +kernel
theorem dX11_nextOrder_59 : decode cX11_nextOrder 59 = .ok (.if_icmp .ge 9, 3) := by decide +kernel
theorem dX11_nextOrder_62 : decode cX11_nextOrder 62 = .ok (.iinc 2 (-1), 3) := by decide +kernel
theorem dX11_nextOrder_65 : decode cX11_nextOrder 65 = .ok (.goto (-18), 3) := by decide +kernel
theorem dX11_nextOrder_68 : decode cX11_nextOrder 68 = .ok (.aload_n 0, 1) := by decide +kernel
theorem dX11_nextOrder_69 : decode cX11_nextOrder 69 = .ok (.getfield 41, 3) := by decide +kernel
theorem dX11_nextOrder_72 : decode cX11_nextOrder 72 = .ok (.iload_n 1, 1) := by decide +kernel
theorem dX11_nextOrder_73 : decode cX11_nextOrder 73 = .ok (.iaload, 1) := by decide +kernel
theorem dX11_nextOrder_74 : decode cX11_nextOrder 74 = .ok (.istore_n 3, 1) := by decide +kernel
theorem dX11_nextOrder_75 : decode cX11_nextOrder 75 = .ok (.aload_n 0, 1) := by decide +kernel
theorem dX11_nextOrder_76 : decode cX11_nextOrder 76 = .ok (.getfield 41, 3) := by decide +kernel
theorem dX11_nextOrder_79 : decode cX11_nextOrder 79 = .ok (.iload_n 1, 1) := by decide +kernel
theorem dX11_nextOrder_80 : decode cX11_nextOrder 80 = .ok (.aload_n 0, 1) := by decide +kernel
theorem dX11_nextOrder_81 : decode cX11_nextOrder 81 = .ok (.getfield 41, 3) := by decide +kernel
theorem dX11_nextOrder_84 : decode cX11_nextOrder 84 = .ok (.iload_n 2, 1) := by decide +kernel
theorem dX11_nextOrder_85 : decode cX11_nextOrder 85 = .ok (.iaload, 1) := by decide +kernel
theorem dX11_nextOrder_86 : decode cX11_nextOrder 86 = .ok (.iastore, 1) := by decide +kernel
theorem dX11_nextOrder_87 : decode cX11_nextOrder 87 = .ok (.aload_n 0, 1) := by decide +kernel
theorem dX11_nextOrder_88 : decode cX11_nextOrder 88 = .ok (.getfield 41, 3) := by decide +kernel
theorem dX11_nextOrder_91 : decode cX11_nextOrder 91 = .ok (.iload_n 2, 1) := by decide +kernel
theorem dX11_nextOrder_92 : decode cX11_nextOrder 92 = .ok (.iload_n 3, 1) := by decide +kernel
theorem dX11_nextOrder_93 : decode cX11_nextOrder 93 = .ok (.iastore, 1) := by decide +kernel
theorem dX11_nextOrder_94 : decode cX11_nextOrder 94 = .ok (.aload_n 0, 1) := by decide +kernel
theorem dX11_nextOrder_95 : decode cX11_nextOrder 95 = .ok (.getfield 241, 3) := by decide +kernel
theorem dX11_nextOrder_98 : decode cX11_nextOrder 98 = .ok (.iconst 1, 1) := by decide +kernel
theorem dX11_nextOrder_99 : decode cX11_nextOrder 99 = .ok (.isub, 1) := by decide +kernel
theorem dX11_nextOrder_100 : decode cX11_nextOrder 100 = .ok (.istore 4, 2) := by decide +kernel
theorem dX11_nextOrder_102 : decode cX11_nextOrder 102 = .ok (.iload_n 1, 1) := by decide +kernel
theorem dX11_nextOrder_103 : decode cX11_nextOrder 103 = .ok (.iconst 1, 1) := by decide +kernel
theorem dX11_nextOrder_104 : decode cX11_nextOrder 104 = .ok (.iadd, 1) := by decide +kernel
theorem dX11_nextOrder_105 : decode cX11_nextOrder 105 = .ok (.istore 5, 2) := by decide +kernel
theorem dX11_nextOrder_107 : decode cX11_nextOrder 107 = .ok (.iload 5, 2) := by decide +kernel
theorem dX11_nextOrder_109 : decode cX11_nextOrder 109 = .ok (.iload 4, 2) := by decide +kernel
theorem dX11_nextOrder_111 : decode cX11_nextOrder 111 = .ok (.if_icmp .ge 42, 3) := by decide +kernel
theorem dX11_nextOrder_114 : decode cX11_nextOrder 114 = .ok (.aload_n 0, 1) := by decide +kernel
theorem dX11_nextOrder_115 : decode cX11_nextOrder 115 = .ok (.getfield 41, 3) := by decide +kernel
theorem dX11_nextOrder_118 : decode cX11_nextOrder 118 = .ok (.iload 5, 2) := by decide +kernel
theorem dX11_nextOrder_120 : decode cX11_nextOrder 120 = .ok (.iaload, 1) := by decide +kernel
theorem dX11_nextOrder_121 : decode cX11_nextOrder 121 = .ok (.istore_n 3, 1) := by decide +kernel
theorem dX11_nextOrder_122 : decode cX11_nextOrder 122 = .ok (.aload_n 0, 1) := by decide +kernel
theorem dX11_nextOrder_123 : decode cX11_nextOrder 123 = .ok (.getfield 41, 3) := by decide +kernel
theorem dX11_nextOrder_126 : decode cX11_nextOrder 126 = .ok (.iload 5, 2) := by decide +kernel
theorem dX11_nextOrder_128 : decode cX11_nextOrder 128 = .ok (.aload_n 0, 1) := by decide +kernel
theorem dX11_nextOrder_129 : decode cX11_nextOrder 129 = .ok (.getfield 41, 3) := by decide +kernel
theorem dX11_nextOrder_132 : decode cX11_nextOrder 132 = .ok (.iload 4, 2) := by decide +kernel
theorem dX11_nextOrder_134 : decode cX11_nextOrder 134 = .ok (.iaload, 1) := by decide +kernel
theorem dX11_nextOrder_135 : decode cX11_nextOrder 135 = .ok (.iastore, 1) := by decide +kernel
theorem dX11_nextOrder_136 : decode cX11_nextOrder 136 = .ok (.aload_n 0, 1) := by decide +kernel
theorem dX11_nextOrder_137 : decode cX11_nextOrder 137 = .ok (.getfield 41, 3) := by decide +kernel
theorem dX11_nextOrder_140 : decode cX11_nextOrder 140 = .ok (.iload 4, 2) := by decide +kernel
theorem dX11_nextOrder_142 : decode cX11_nextOrder 142 = .ok (.iload_n 3, 1) := by decide +kernel
theorem dX11_nextOrder_143 : decode cX11_nextOrder 143 = .ok (.iastore, 1) := by decide +kernel
theorem dX11_nextOrder_144 : decode cX11_nextOrder 144 = .ok (.iinc 4 (-1), 3) := by decide +kernel
theorem dX11_nextOrder_147 : decode cX11_nextOrder 147 = .ok (.iinc 5 1, 3) := by decide +kernel
theorem dX11_nextOrder_150 : decode cX11_nextOrder 150 = .ok (.goto (-43), 3) := by decide +kernel
theorem dX11_nextOrder_153 : decode cX11_nextOrder 153 = .ok (.iconst 1, 1) := by decide +kernel
theorem dX11_nextOrder_154 : decode cX11_nextOrder 154 = .ok (.ireturn, 1) := by decide +kernel
theorem dX11_holds_0 : decode cX11_holds 0 = .ok (.ldc2_w 244, 3) := by decide +kernel
theorem dX11_holds_3 : decode cX11_holds 3 = .ok (.lstore_n 2, 1) := by decide +kernel
theorem dX11_holds_4 : decode cX11_holds 4 = .ok (.aload_n 0, 1) := by decide +kernel
theorem dX11_holds_5 : decode cX11_holds 5 = .ok (.invokevirtual 161, 3) := by decide +kernel
theorem dX11_holds_8 : decode cX11_holds 8 = .ok (.istore 4, 2) := by decide +kernel
theorem dX11_holds_10 : decode cX11_holds 10 = .ok (.iload 4, 2) := by decide +kernel
theorem dX11_holds_12 : decode cX11_holds 12 = .ok (.aload_n 0, 1) := by decide +kernel
theorem dX11_holds_13 : decode cX11_holds 13 = .ok (.getfield 106, 3) := by decide +kernel
theorem dX11_holds_16 : decode cX11_holds 16 = .ok (.if_icmp .ge 53, 3) := by decide +kernel
theorem dX11_holds_19 : decode cX11_holds 19 = .ok (.iconst 5, 1) := by decide +kernel
theorem dX11_holds_20 : decode cX11_holds 20 = .ok (.iload 4, 2) := by decide +kernel
theorem dX11_holds_22 : decode cX11_holds 22 = .ok (.imul, 1) := by decide +kernel
theorem dX11_holds_23 : decode cX11_holds 23 = .ok (.iconst 5, 1) := by decide +kernel
theorem dX11_holds_24 : decode cX11_holds 24 = .ok (.iadd, 1) := by decide +kernel
theorem dX11_holds_25 : decode cX11_holds 25 = .ok (.iload_n 1, 1) := by decide +kernel
theorem dX11_holds_26 : decode cX11_holds 26 = .ok (.if_icmp .gt 37, 3) := by decide +kernel
theorem dX11_holds_29 : decode cX11_holds 29 = .ok (.iload 4, 2) := by decide +kernel
theorem dX11_holds_31 : decode cX11_holds 31 = .ok (.aload_n 0, 1) := by decide +kernel
theorem dX11_holds_32 : decode cX11_holds 32 = .ok (.getfield 106, 3) := by decide +kernel
theorem dX11_holds_35 : decode cX11_holds 35 = .ok (.iconst 1, 1) := by decide +kernel
theorem dX11_holds_36 : decode cX11_holds 36 = .ok (.isub, 1) := by decide +kernel
theorem dX11_holds_37 : decode cX11_holds 37 = .ok (.if_icmp .ne 7, 3) := by decide +kernel
theorem dX11_holds_40 : decode cX11_holds 40 = .ok (.lconst 0, 1) := by decide +kernel
theorem dX11_holds_41 : decode cX11_holds 41 = .ok (.goto 21, 3) := by decide +kernel
theorem dX11_holds_44 : decode cX11_holds 44 = .ok (.lload_n 2, 1) := by decide +kernel
theorem dX11_holds_45 : decode cX11_holds 45 = .ok (.ldc2_w 141, 3) := by decide +kernel
theorem dX11_holds_48 : decode cX11_holds 48 = .ok (.ldiv, 1) := by decide +kernel
theorem dX11_holds_49 : decode cX11_holds 49 = .ok (.ldc2_w 141, 3) := by decide +kernel
theorem dX11_holds_52 : decode cX11_holds 52 = .ok (.aload_n 0, 1) := by decide +kernel
theorem dX11_holds_53 : decode cX11_holds 53 = .ok (.getfield 22, 3) := by decide +kernel
theorem dX11_holds_56 : decode cX11_holds 56 = .ok (.iload 4, 2) := by decide +kernel
theorem dX11_holds_58 : decode cX11_holds 58 = .ok (.iaload, 1) := by decide +kernel
theorem dX11_holds_59 : decode cX11_holds 59 = .ok (.i2l, 1) := by decide +kernel
theorem dX11_holds_60 : decode cX11_holds 60 = .ok (.lsub, 1) := by decide +kernel
theorem dX11_holds_61 : decode cX11_holds 61 = .ok (.lmul, 1) := by decide +kernel
theorem dX11_holds_62 : decode cX11_holds 62 = .ok (.lstore_n 2, 1) := by decide +kernel
theorem dX11_holds_63 : decode cX11_holds 63 = .ok (.iinc 4 1, 3) := by decide +kernel
theorem dX11_holds_66 : decode cX11_holds 66 = .ok (.goto (-56), 3) := by decide +kernel
theorem dX11_holds_69 : decode cX11_holds 69 = .ok (.lload_n 2, 1) := by decide +kernel
theorem dX11_holds_70 : decode cX11_holds 70 = .ok (.lreturn, 1) := by decide +kernel
theorem dX11_meanOf_0 : decode cX11_meanOf 0 = .ok (.aload_n 0, 1) := by decide +kernel
theorem dX11_meanOf_1 : decode cX11_meanOf 1 = .ok (.invokevirtual 216, 3) := by decide +kernel
theorem dX11_meanOf_4 : decode cX11_meanOf 4 = .ok (.istore_n 1, 1) := by decide +kernel
theorem dX11_meanOf_5 : decode cX11_meanOf 5 = .ok (.aload_n 0, 1) := by decide +kernel
theorem dX11_meanOf_6 : decode cX11_meanOf 6 = .ok (.getfield 115, 3) := by decide +kernel
theorem dX11_meanOf_9 : decode cX11_meanOf 9 = .ok (.istore_n 2, 1) := by decide +kernel
theorem dX11_meanOf_10 : decode cX11_meanOf 10 = .ok (.lconst 0, 1) := by decide +kernel
theorem dX11_meanOf_11 : decode cX11_meanOf 11 = .ok (.lstore_n 3, 1) := by decide +kernel
theorem dX11_meanOf_12 : decode cX11_meanOf 12 = .ok (.iconst 0, 1) := by decide +kernel
theorem dX11_meanOf_13 : decode cX11_meanOf 13 = .ok (.istore 5, 2) := by decide +kernel
theorem dX11_meanOf_15 : decode cX11_meanOf 15 = .ok (.iload 5, 2) := by decide +kernel
theorem dX11_meanOf_17 : decode cX11_meanOf 17 = .ok (.aload_n 0, 1) := by decide +kernel
theorem dX11_meanOf_18 : decode cX11_meanOf 18 = .ok (.getfield 241, 3) := by decide +kernel
theorem dX11_meanOf_21 : decode cX11_meanOf 21 = .ok (.if_icmp .ge 62, 3) := by decide +kernel
theorem dX11_meanOf_24 : decode cX11_meanOf 24 = .ok (.aload_n 0, 1) := by decide +kernel
theorem dX11_meanOf_25 : decode cX11_meanOf 25 = .ok (.aload_n 0, 1) := by decide +kernel
theorem dX11_meanOf_26 : decode cX11_meanOf 26 = .ok (.getfield 41, 3) := by decide +kernel
theorem dX11_meanOf_29 : decode cX11_meanOf 29 = .ok (.iload 5, 2) := by decide +kernel
theorem dX11_meanOf_31 : decode cX11_meanOf 31 = .ok (.iaload, 1) := by decide +kernel
theorem dX11_meanOf_32 : decode cX11_meanOf 32 = .ok (.iload_n 1, 1) := by decide +kernel
theorem dX11_meanOf_33 : decode cX11_meanOf 33 = .ok (.invokevirtual 219, 3) := by decide +kernel
theorem dX11_meanOf_36 : decode cX11_meanOf 36 = .ok (.ifCond .ne 7, 3) := by decide +kernel
theorem dX11_meanOf_39 : decode cX11_meanOf 39 = .ok (.ldc2_w 159, 3) := by decide +kernel
theorem dX11_meanOf_42 : decode cX11_meanOf 42 = .ok (.lreturn, 1) := by decide +kernel
theorem dX11_meanOf_43 : decode cX11_meanOf 43 = .ok (.iload_n 1, 1) := by decide +kernel
theorem dX11_meanOf_44 : decode cX11_meanOf 44 = .ok (.iconst 1, 1) := by decide +kernel
theorem dX11_meanOf_45 : decode cX11_meanOf 45 = .ok (.aload_n 0, 1) := by decide +kernel
theorem dX11_meanOf_46 : decode cX11_meanOf 46 = .ok (.getfield 41, 3) := by decide +kernel
theorem dX11_meanOf_49 : decode cX11_meanOf 49 = .ok (.iload 5, 2) := by decide +kernel
theorem dX11_meanOf_51 : decode cX11_meanOf 51 = .ok (.iaload, 1) := by decide +kernel
theorem dX11_meanOf_52 : decode cX11_meanOf 52 = .ok (.ishl, 1) := by decide +kernel
theorem dX11_meanOf_53 : decode cX11_meanOf 53 = .ok (.ior, 1) := by decide +kernel
theorem dX11_meanOf_54 : decode cX11_meanOf 54 = .ok (.istore_n 1, 1) := by decide +kernel
theorem dX11_meanOf_55 : decode cX11_meanOf 55 = .ok (.iload_n 2, 1) := by decide +kernel
theorem dX11_meanOf_56 : decode cX11_meanOf 56 = .ok (.aload_n 0, 1) := by decide +kernel
theorem dX11_meanOf_57 : decode cX11_meanOf 57 = .ok (.aload_n 0, 1) := by decide +kernel
theorem dX11_meanOf_58 : decode cX11_meanOf 58 = .ok (.getfield 41, 3) := by decide +kernel
theorem dX11_meanOf_61 : decode cX11_meanOf 61 = .ok (.iload 5, 2) := by decide +kernel
theorem dX11_meanOf_63 : decode cX11_meanOf 63 = .ok (.iaload, 1) := by decide +kernel
theorem dX11_meanOf_64 : decode cX11_meanOf 64 = .ok (.invokevirtual 222, 3) := by decide +kernel
theorem dX11_meanOf_67 : decode cX11_meanOf 67 = .ok (.iadd, 1) := by decide +kernel
theorem dX11_meanOf_68 : decode cX11_meanOf 68 = .ok (.istore_n 2, 1) := by decide +kernel
theorem dX11_meanOf_69 : decode cX11_meanOf 69 = .ok (.lload_n 3, 1) := by decide +kernel
theorem dX11_meanOf_70 : decode cX11_meanOf 70 = .ok (.aload_n 0, 1) := by decide +kernel
theorem dX11_meanOf_71 : decode cX11_meanOf 71 = .ok (.iload_n 2, 1) := by decide +kernel
theorem dX11_meanOf_72 : decode cX11_meanOf 72 = .ok (.invokevirtual 246, 3) := by decide +kernel
theorem dX11_meanOf_75 : decode cX11_meanOf 75 = .ok (.ladd, 1) := by decide +kernel
theorem dX11_meanOf_76 : decode cX11_meanOf 76 = .ok (.lstore_n 3, 1) := by decide +kernel
theorem dX11_meanOf_77 : decode cX11_meanOf 77 = .ok (.iinc 5 1, 3) := by decide +kernel
theorem dX11_meanOf_80 : decode cX11_meanOf 80 = .ok (.goto (-65), 3) := by decide +kernel
theorem dX11_meanOf_83 : decode cX11_meanOf 83 = .ok (.lload_n 3, 1) := by decide +kernel
theorem dX11_meanOf_84 : decode cX11_meanOf 84 = .ok (.lreturn, 1) := by decide +kernel
theorem dX11_order_0 : decode cX11_order 0 = .ok (.iload_n 1, 1) := by decide +kernel
theorem dX11_order_1 : decode cX11_order 1 = .ok (.i2l, 1) := by decide +kernel
theorem dX11_order_2 : decode cX11_order 2 = .ok (.lconst 0, 1) := by decide +kernel
theorem dX11_order_3 : decode cX11_order 3 = .ok (.lconst 1, 1) := by decide +kernel
theorem dX11_order_4 : decode cX11_order 4 = .ok (.invokestatic 77, 3) := by decide +kernel
theorem dX11_order_7 : decode cX11_order 7 = .ok (.ifCond .ne 21, 3) := by decide +kernel
theorem dX11_order_10 : decode cX11_order 10 = .ok (.iload_n 1, 1) := by decide +kernel
theorem dX11_order_11 : decode cX11_order 11 = .ok (.i2l, 1) := by decide +kernel
theorem dX11_order_12 : decode cX11_order 12 = .ok (.ldc2_w 141, 3) := by decide +kernel
theorem dX11_order_15 : decode cX11_order 15 = .ok (.ldc2_w 249, 3) := by decide +kernel
theorem dX11_order_18 : decode cX11_order 18 = .ok (.invokestatic 77, 3) := by decide +kernel
theorem dX11_order_21 : decode cX11_order 21 = .ok (.ifCond .ne 7, 3) := by decide +kernel
theorem dX11_order_24 : decode cX11_order 24 = .ok (.ldc2_w 173, 3) := by decide +kernel
theorem dX11_order_27 : decode cX11_order 27 = .ok (.lreturn, 1) := by decide +kernel
theorem dX11_order_28 : decode cX11_order 28 = .ok (.aload_n 0, 1) := by decide +kernel
theorem dX11_order_29 : decode cX11_order 29 = .ok (.invokevirtual 145, 3) := by decide +kernel
theorem dX11_order_32 : decode cX11_order 32 = .ok (.ifCond .ne 20, 3) := by decide +kernel
theorem dX11_order_35 : decode cX11_order 35 = .ok (.aload_n 0, 1) := by decide +kernel
theorem dX11_order_36 : decode cX11_order 36 = .ok (.getfield 121, 3) := by decide +kernel
theorem dX11_order_39 : decode cX11_order 39 = .ok (.iconst 1, 1) := by decide +kernel
theorem dX11_order_40 : decode cX11_order 40 = .ok (.if_icmp .eq 12, 3) := by decide +kernel
theorem dX11_order_43 : decode cX11_order 43 = .ok (.aload_n 0, 1) := by decide +kernel
theorem dX11_order_44 : decode cX11_order 44 = .ok (.getfield 251, 3) := by decide +kernel
theorem dX11_order_47 : decode cX11_order 47 = .ok (.bipush 30, 2) := by decide +kernel
theorem dX11_order_49 : decode cX11_order 49 = .ok (.if_icmp .ne 7, 3) := by decide +kernel
theorem dX11_order_52 : decode cX11_order 52 = .ok (.ldc2_w 205, 3) := by decide +kernel
theorem dX11_order_55 : decode cX11_order 55 = .ok (.lreturn, 1) := by decide +kernel
theorem dX11_order_56 : decode cX11_order 56 = .ok (.aload_n 0, 1) := by decide +kernel
theorem dX11_order_57 : decode cX11_order 57 = .ok (.dup, 1) := by decide +kernel
theorem dX11_order_58 : decode cX11_order 58 = .ok (.getfield 251, 3) := by decide +kernel
theorem dX11_order_61 : decode cX11_order 61 = .ok (.iconst 1, 1) := by decide +kernel
theorem dX11_order_62 : decode cX11_order 62 = .ok (.iadd, 1) := by decide +kernel
theorem dX11_order_63 : decode cX11_order 63 = .ok (.putfield 251, 3) := by decide +kernel
theorem dX11_order_66 : decode cX11_order 66 = .ok (.aload_n 0, 1) := by decide +kernel
theorem dX11_order_67 : decode cX11_order 67 = .ok (.iconst 1, 1) := by decide +kernel
theorem dX11_order_68 : decode cX11_order 68 = .ok (.aload_n 0, 1) := by decide +kernel
theorem dX11_order_69 : decode cX11_order 69 = .ok (.getfield 127, 3) := by decide +kernel
theorem dX11_order_72 : decode cX11_order 72 = .ok (.ishl, 1) := by decide +kernel
theorem dX11_order_73 : decode cX11_order 73 = .ok (.iconst 1, 1) := by decide +kernel
theorem dX11_order_74 : decode cX11_order 74 = .ok (.isub, 1) := by decide +kernel
theorem dX11_order_75 : decode cX11_order 75 = .ok (.aload_n 0, 1) := by decide +kernel
theorem dX11_order_76 : decode cX11_order 76 = .ok (.invokevirtual 216, 3) := by decide +kernel
theorem dX11_order_79 : decode cX11_order 79 = .ok (.iconst (-1), 1) := by decide +kernel
theorem dX11_order_80 : decode cX11_order 80 = .ok (.ixor, 1) := by decide +kernel
theorem dX11_order_81 : decode cX11_order 81 = .ok (.iand, 1) := by decide +kernel
theorem dX11_order_82 : decode cX11_order 82 = .ok (.invokevirtual 254, 3) := by decide +kernel
theorem dX11_order_85 : decode cX11_order 85 = .ok (.ldc2_w 159, 3) := by decide +kernel
theorem dX11_order_88 : decode cX11_order 88 = .ok (.lstore_n 2, 1) := by decide +kernel
theorem dX11_order_89 : decode cX11_order 89 = .ok (.iconst 1, 1) := by decide +kernel
theorem dX11_order_90 : decode cX11_order 90 = .ok (.istore 4, 2) := by decide +kernel
theorem dX11_order_92 : decode cX11_order 92 = .ok (.iload 4, 2) := by decide +kernel
theorem dX11_order_94 : decode cX11_order 94 = .ok (.ifCond .eq 60, 3) := by decide +kernel
theorem dX11_order_97 : decode cX11_order 97 = .ok (.aload_n 0, 1) := by decide +kernel
theorem dX11_order_98 : decode cX11_order 98 = .ok (.invokevirtual 257, 3) := by decide +kernel
theorem dX11_order_101 : decode cX11_order 101 = .ok (.lstore 5, 2) := by decide +kernel
theorem dX11_order_103 : decode cX11_order 103 = .ok (.lload 5, 2) := by decide +kernel
theorem dX11_order_105 : decode cX11_order 105 = .ok (.lload_n 2, 1) := by decide +kernel
theorem dX11_order_106 : decode cX11_order 106 = .ok (.lcmp, 1) := by decide +kernel
theorem dX11_order_107 : decode cX11_order 107 = .ok (.ifCond .le 38, 3) := by decide +kernel
theorem dX11_order_110 : decode cX11_order 110 = .ok (.lload 5, 2) := by decide +kernel
theorem dX11_order_112 : decode cX11_order 112 = .ok (.lstore_n 2, 1) := by decide +kernel
theorem dX11_order_113 : decode cX11_order 113 = .ok (.iconst 0, 1) := by decide +kernel
theorem dX11_order_114 : decode cX11_order 114 = .ok (.istore 7, 2) := by decide +kernel
theorem dX11_order_116 : decode cX11_order 116 = .ok (.iload 7, 2) := by decide +kernel
theorem dX11_order_118 : decode cX11_order 118 = .ok (.aload_n 0, 1) := by decide +kernel
theorem dX11_order_119 : decode cX11_order 119 = .ok (.getfield 241, 3) := by decide +kernel
theorem dX11_order_122 : decode cX11_order 122 = .ok (.if_icmp .ge 23, 3) := by decide +kernel
theorem dX11_order_125 : decode cX11_order 125 = .ok (.aload_n 0, 1) := by decide +kernel
theorem dX11_order_126 : decode cX11_order 126 = .ok (.getfield 44, 3) := by decide +kernel
theorem dX11_order_129 : decode cX11_order 129 = .ok (.iload 7, 2) := by decide +kernel
theorem dX11_order_131 : decode cX11_order 131 = .ok (.aload_n 0, 1) := by decide +kernel
theorem dX11_order_132 : decode cX11_order 132 = .ok (.getfield 41, 3) := by decide +kernel
theorem dX11_order_135 : decode cX11_order 135 = .ok (.iload 7, 2) := by decide +kernel
theorem dX11_order_137 : decode cX11_order 137 = .ok (.iaload, 1) := by decide +kernel
theorem dX11_order_138 : decode cX11_order 138 = .ok (.iastore, 1) := by decide +kernel
theorem dX11_order_139 : decode cX11_order 139 = .ok (.iinc 7 1, 3) := by decide +kernel
theorem dX11_order_142 : decode cX11_order 142 = .ok (.goto (-26), 3) := by decide +kernel
theorem dX11_order_145 : decode cX11_order 145 = .ok (.aload_n 0, 1) := by decide +kernel
theorem dX11_order_146 : decode cX11_order 146 = .ok (.invokevirtual 261, 3) := by decide +kernel
theorem dX11_order_149 : decode cX11_order 149 = .ok (.istore 4, 2) := by decide +kernel
theorem dX11_order_151 : decode cX11_order 151 = .ok (.goto (-59), 3) := by decide +kernel
theorem dX11_order_154 : decode cX11_order 154 = .ok (.lload_n 2, 1) := by decide +kernel
theorem dX11_order_155 : decode cX11_order 155 = .ok (.ldc2_w 159, 3) := by decide +kernel
theorem dX11_order_158 : decode cX11_order 158 = .ok (.lcmp, 1) := by decide +kernel
theorem dX11_order_159 : decode cX11_order 159 = .ok (.ifCond .ne 16, 3) := by decide +kernel
theorem dX11_order_162 : decode cX11_order 162 = .ok (.iload_n 1, 1) := by decide +kernel
theorem dX11_order_163 : decode cX11_order 163 = .ok (.iconst 1, 1) := by decide +kernel
theorem dX11_order_164 : decode cX11_order 164 = .ok (.if_icmp .ne 7, 3) := by decide +kernel
theorem dX11_order_167 : decode cX11_order 167 = .ok (.lconst 1, 1) := by decide +kernel
theorem dX11_order_168 : decode cX11_order 168 = .ok (.goto 6, 3) := by decide +kernel
theorem dX11_order_171 : decode cX11_order 171 = .ok (.ldc2_w 159, 3) := by decide +kernel
theorem dX11_order_174 : decode cX11_order 174 = .ok (.lreturn, 1) := by decide +kernel
theorem dX11_order_175 : decode cX11_order 175 = .ok (.iload_n 1, 1) := by decide +kernel
theorem dX11_order_176 : decode cX11_order 176 = .ok (.iconst 2, 1) := by decide +kernel
theorem dX11_order_177 : decode cX11_order 177 = .ok (.if_icmp .ge 12, 3) := by decide +kernel
theorem dX11_order_180 : decode cX11_order 180 = .ok (.lload_n 2, 1) := by decide +kernel
theorem dX11_order_181 : decode cX11_order 181 = .ok (.ldc2_w 244, 3) := by decide +kernel
theorem dX11_order_184 : decode cX11_order 184 = .ok (.iload_n 1, 1) := by decide +kernel
theorem dX11_order_185 : decode cX11_order 185 = .ok (.invokestatic 179, 3) := by decide +kernel
theorem dX11_order_188 : decode cX11_order 188 = .ok (.lreturn, 1) := by decide +kernel
theorem dX11_order_189 : decode cX11_order 189 = .ok (.iload_n 1, 1) := by decide +kernel
theorem dX11_order_190 : decode cX11_order 190 = .ok (.bipush 10, 2) := by decide +kernel
theorem dX11_order_192 : decode cX11_order 192 = .ok (.isub, 1) := by decide +kernel
theorem dX11_order_193 : decode cX11_order 193 = .ok (.aload_n 0, 1) := by decide +kernel
theorem dX11_order_194 : decode cX11_order 194 = .ok (.getfield 241, 3) := by decide +kernel
theorem dX11_order_197 : decode cX11_order 197 = .ok (.if_icmp .ge 16, 3) := by decide +kernel
theorem dX11_order_200 : decode cX11_order 200 = .ok (.aload_n 0, 1) := by decide +kernel
theorem dX11_order_201 : decode cX11_order 201 = .ok (.getfield 44, 3) := by decide +kernel
theorem dX11_order_204 : decode cX11_order 204 = .ok (.iload_n 1, 1) := by decide +kernel
theorem dX11_order_205 : decode cX11_order 205 = .ok (.bipush 10, 2) := by decide +kernel
theorem dX11_order_207 : decode cX11_order 207 = .ok (.isub, 1) := by decide +kernel
theorem dX11_order_208 : decode cX11_order 208 = .ok (.iaload, 1) := by decide +kernel
theorem dX11_order_209 : decode cX11_order 209 = .ok (.i2l, 1) := by decide +kernel
theorem dX11_order_210 : decode cX11_order 210 = .ok (.goto 6, 3) := by decide +kernel
theorem dX11_order_213 : decode cX11_order 213 = .ok (.ldc2_w 159, 3) := by decide +kernel
theorem dX11_order_216 : decode cX11_order 216 = .ok (.lreturn, 1) := by decide +kernel
theorem dX11_said_0 : decode cX11_said 0 = .ok (.aload_n 0, 1) := by decide +kernel
theorem dX11_said_1 : decode cX11_said 1 = .ok (.iload_n 1, 1) := by decide +kernel
theorem dX11_said_2 : decode cX11_said 2 = .ok (.invokevirtual 228, 3) := by decide +kernel
theorem dX11_said_5 : decode cX11_said 5 = .ok (.ifCond .eq 16, 3) := by decide +kernel
theorem dX11_said_8 : decode cX11_said 8 = .ok (.aload_n 0, 1) := by decide +kernel
theorem dX11_said_9 : decode cX11_said 9 = .ok (.iload_n 2, 1) := by decide +kernel
theorem dX11_said_10 : decode cX11_said 10 = .ok (.invokevirtual 228, 3) := by decide +kernel
theorem dX11_said_13 : decode cX11_said 13 = .ok (.ifCond .eq 8, 3) := by decide +kernel
theorem dX11_said_16 : decode cX11_said 16 = .ok (.iload_n 1, 1) := by decide +kernel
theorem dX11_said_17 : decode cX11_said 17 = .ok (.iload_n 2, 1) := by decide +kernel
theorem dX11_said_18 : decode cX11_said 18 = .ok (.if_icmp .ne 6, 3) := by decide +kernel
theorem dX11_said_21 : decode cX11_said 21 = .ok (.bipush (-101), 2) := by decide +kernel
theorem dX11_said_23 : decode cX11_said 23 = .ok (.ireturn, 1) := by decide +kernel
theorem dX11_said_24 : decode cX11_said 24 = .ok (.aload_n 0, 1) := by decide +kernel
theorem dX11_said_25 : decode cX11_said 25 = .ok (.getfield 130, 3) := by decide +kernel
theorem dX11_said_28 : decode cX11_said 28 = .ok (.bipush 15, 2) := by decide +kernel
theorem dX11_said_30 : decode cX11_said 30 = .ok (.if_icmp .ne 6, 3) := by decide +kernel
theorem dX11_said_33 : decode cX11_said 33 = .ok (.bipush (-104), 2) := by decide +kernel
theorem dX11_said_35 : decode cX11_said 35 = .ok (.ireturn, 1) := by decide +kernel
theorem dX11_said_36 : decode cX11_said 36 = .ok (.aload_n 0, 1) := by decide +kernel
theorem dX11_said_37 : decode cX11_said 37 = .ok (.getfield 47, 3) := by decide +kernel
theorem dX11_said_40 : decode cX11_said 40 = .ok (.iconst 2, 1) := by decide +kernel
theorem dX11_said_41 : decode cX11_said 41 = .ok (.aload_n 0, 1) := by decide +kernel
theorem dX11_said_42 : decode cX11_said 42 = .ok (.getfield 130, 3) := by decide +kernel
theorem dX11_said_45 : decode cX11_said 45 = .ok (.imul, 1) := by decide +kernel
theorem dX11_said_46 : decode cX11_said 46 = .ok (.iload_n 1, 1) := by decide +kernel
theorem dX11_said_47 : decode cX11_said 47 = .ok (.iastore, 1) := by decide +kernel
theorem dX11_said_48 : decode cX11_said 48 = .ok (.aload_n 0, 1) := by decide +kernel
theorem dX11_said_49 : decode cX11_said 49 = .ok (.getfield 47, 3) := by decide +kernel
theorem dX11_said_52 : decode cX11_said 52 = .ok (.iconst 2, 1) := by decide +kernel
theorem dX11_said_53 : decode cX11_said 53 = .ok (.aload_n 0, 1) := by decide +kernel
theorem dX11_said_54 : decode cX11_said 54 = .ok (.getfield 130, 3) := by decide +kernel
theorem dX11_said_57 : decode cX11_said 57 = .ok (.imul, 1) := by decide +kernel
theorem dX11_said_58 : decode cX11_said 58 = .ok (.iconst 1, 1) := by decide +kernel
theorem dX11_said_59 : decode cX11_said 59 = .ok (.iadd, 1) := by decide +kernel
theorem dX11_said_60 : decode cX11_said 60 = .ok (.iload_n 2, 1) := by decide +kernel
theorem dX11_said_61 : decode cX11_said 61 = .ok (.iastore, 1) := by decide +kernel
theorem dX11_said_62 : decode cX11_said 62 = .ok (.aload_n 0, 1) := by decide +kernel
theorem dX11_said_63 : decode cX11_said 63 = .ok (.dup, 1) := by decide +kernel
theorem dX11_said_64 : decode cX11_said 64 = .ok (.getfield 130, 3) := by decide +kernel
theorem dX11_said_67 : decode cX11_said 67 = .ok (.iconst 1, 1) := by decide +kernel
theorem dX11_said_68 : decode cX11_said 68 = .ok (.iadd, 1) := by decide +kernel
theorem dX11_said_69 : decode cX11_said 69 = .ok (.putfield 130, 3) := by decide +kernel
theorem dX11_said_72 : decode cX11_said 72 = .ok (.aload_n 0, 1) := by decide +kernel
theorem dX11_said_73 : decode cX11_said 73 = .ok (.getfield 130, 3) := by decide +kernel
theorem dX11_said_76 : decode cX11_said 76 = .ok (.ireturn, 1) := by decide +kernel
theorem dX11_placeOf_0 : decode cX11_placeOf 0 = .ok (.iconst (-1), 1) := by decide +kernel
theorem dX11_placeOf_1 : decode cX11_placeOf 1 = .ok (.istore_n 2, 1) := by decide +kernel
theorem dX11_placeOf_2 : decode cX11_placeOf 2 = .ok (.iconst 0, 1) := by decide +kernel
theorem dX11_placeOf_3 : decode cX11_placeOf 3 = .ok (.istore_n 3, 1) := by decide +kernel
theorem dX11_placeOf_4 : decode cX11_placeOf 4 = .ok (.iload_n 3, 1) := by decide +kernel
theorem dX11_placeOf_5 : decode cX11_placeOf 5 = .ok (.aload_n 0, 1) := by decide +kernel
theorem dX11_placeOf_6 : decode cX11_placeOf 6 = .ok (.getfield 241, 3) := by decide +kernel
theorem dX11_placeOf_9 : decode cX11_placeOf 9 = .ok (.if_icmp .ge 25, 3) := by decide +kernel
theorem dX11_placeOf_12 : decode cX11_placeOf 12 = .ok (.aload_n 0, 1) := by decide +kernel
theorem dX11_placeOf_13 : decode cX11_placeOf 13 = .ok (.getfield 41, 3) := by decide +kernel
theorem dX11_placeOf_16 : decode cX11_placeOf 16 = .ok (.iload_n 3, 1) := by decide +kernel
theorem dX11_placeOf_17 : decode cX11_placeOf 17 = .ok (.iaload, 1) := by decide +kernel
theorem dX11_placeOf_18 : decode cX11_placeOf 18 = .ok (.iload_n 1, 1) := by decide +kernel
theorem dX11_placeOf_19 : decode cX11_placeOf 19 = .ok (.if_icmp .ne 7, 3) := by decide +kernel
theorem dX11_placeOf_22 : decode cX11_placeOf 22 = .ok (.iload_n 3, 1) := by decide +kernel
theorem dX11_placeOf_23 : decode cX11_placeOf 23 = .ok (.goto 4, 3) := by decide +kernel
theorem dX11_placeOf_26 : decode cX11_placeOf 26 = .ok (.iload_n 2, 1) := by decide +kernel
theorem dX11_placeOf_27 : decode cX11_placeOf 27 = .ok (.istore_n 2, 1) := by decide +kernel
theorem dX11_placeOf_28 : decode cX11_placeOf 28 = .ok (.iinc 3 1, 3) := by decide +kernel
theorem dX11_placeOf_31 : decode cX11_placeOf 31 = .ok (.goto (-27), 3) := by decide +kernel
theorem dX11_placeOf_34 : decode cX11_placeOf 34 = .ok (.iload_n 2, 1) := by decide +kernel
theorem dX11_placeOf_35 : decode cX11_placeOf 35 = .ok (.ireturn, 1) := by decide +kernel
theorem dX11_isSaidSo_0 : decode cX11_isSaidSo 0 = .ok (.iconst 1, 1) := by decide +kernel
theorem dX11_isSaidSo_1 : decode cX11_isSaidSo 1 = .ok (.istore_n 1, 1) := by decide +kernel
theorem dX11_isSaidSo_2 : decode cX11_isSaidSo 2 = .ok (.iconst 0, 1) := by decide +kernel
theorem dX11_isSaidSo_3 : decode cX11_isSaidSo 3 = .ok (.istore_n 2, 1) := by decide +kernel
theorem dX11_isSaidSo_4 : decode cX11_isSaidSo 4 = .ok (.iload_n 2, 1) := by decide +kernel
theorem dX11_isSaidSo_5 : decode cX11_isSaidSo 5 = .ok (.aload_n 0, 1) := by decide +kernel
theorem dX11_isSaidSo_6 : decode cX11_isSaidSo 6 = .ok (.getfield 130, 3) := by decide +kernel
theorem dX11_isSaidSo_9 : decode cX11_isSaidSo 9 = .ok (.if_icmp .ge 48, 3) := by decide +kernel
theorem dX11_isSaidSo_12 : decode cX11_isSaidSo 12 = .ok (.iload_n 1, 1) := by decide +kernel
theorem dX11_isSaidSo_13 : decode cX11_isSaidSo 13 = .ok (.ifCond .eq 36, 3) := by decide +kernel
theorem dX11_isSaidSo_16 : decode cX11_isSaidSo 16 = .ok (.aload_n 0, 1) := by decide +kernel
theorem dX11_isSaidSo_17 : decode cX11_isSaidSo 17 = .ok (.aload_n 0, 1) := by decide +kernel
theorem dX11_isSaidSo_18 : decode cX11_isSaidSo 18 = .ok (.getfield 47, 3) := by decide +kernel
theorem dX11_isSaidSo_21 : decode cX11_isSaidSo 21 = .ok (.iconst 2, 1) := by decide +kernel
theorem dX11_isSaidSo_22 : decode cX11_isSaidSo 22 = .ok (.iload_n 2, 1) := by decide +kernel
theorem dX11_isSaidSo_23 : decode cX11_isSaidSo 23 = .ok (.imul, 1) := by decide +kernel
theorem dX11_isSaidSo_24 : decode cX11_isSaidSo 24 = .ok (.iaload, 1) := by decide +kernel
theorem dX11_isSaidSo_25 : decode cX11_isSaidSo 25 = .ok (.invokevirtual 264, 3) := by decide +kernel
theorem dX11_isSaidSo_28 : decode cX11_isSaidSo 28 = .ok (.aload_n 0, 1) := by decide +kernel
theorem dX11_isSaidSo_29 : decode cX11_isSaidSo 29 = .ok (.aload_n 0, 1) := by decide +kernel
theorem dX11_isSaidSo_30 : decode cX11_isSaidSo 30 = .ok (.getfield 47, 3) := by decide +kernel
theorem dX11_isSaidSo_33 : decode cX11_isSaidSo 33 = .ok (.iconst 2, 1) := by decide +kernel
theorem dX11_isSaidSo_34 : decode cX11_isSaidSo 34 = .ok (.iload_n 2, 1) := by decide +kernel
theorem dX11_isSaidSo_35 : decode cX11_isSaidSo 35 = .ok (.imul, 1) := by decide +kernel
theorem dX11_isSaidSo_36 : decode cX11_isSaidSo 36 = .ok (.iconst 1, 1) := by decide +kernel
theorem dX11_isSaidSo_37 : decode cX11_isSaidSo 37 = .ok (.iadd, 1) := by decide +kernel
theorem dX11_isSaidSo_38 : decode cX11_isSaidSo 38 = .ok (.iaload, 1) := by decide +kernel
theorem dX11_isSaidSo_39 : decode cX11_isSaidSo 39 = .ok (.invokevirtual 264, 3) := by decide +kernel
theorem dX11_isSaidSo_42 : decode cX11_isSaidSo 42 = .ok (.if_icmp .ge 7, 3) := by decide +kernel
theorem dX11_isSaidSo_45 : decode cX11_isSaidSo 45 = .ok (.iconst 1, 1) := by decide +kernel
theorem dX11_isSaidSo_46 : decode cX11_isSaidSo 46 = .ok (.goto 4, 3) := by decide +kernel
theorem dX11_isSaidSo_49 : decode cX11_isSaidSo 49 = .ok (.iconst 0, 1) := by decide +kernel
theorem dX11_isSaidSo_50 : decode cX11_isSaidSo 50 = .ok (.istore_n 1, 1) := by decide +kernel
theorem dX11_isSaidSo_51 : decode cX11_isSaidSo 51 = .ok (.iinc 2 1, 3) := by decide +kernel
theorem dX11_isSaidSo_54 : decode cX11_isSaidSo 54 = .ok (.goto (-50), 3) := by decide +kernel
theorem dX11_isSaidSo_57 : decode cX11_isSaidSo 57 = .ok (.iconst 0, 1) := by decide +kernel
theorem dX11_isSaidSo_58 : decode cX11_isSaidSo 58 = .ok (.istore_n 2, 1) := by decide +kernel
theorem dX11_isSaidSo_59 : decode cX11_isSaidSo 59 = .ok (.iload_n 2, 1) := by decide +kernel
theorem dX11_isSaidSo_60 : decode cX11_isSaidSo 60 = .ok (.bipush 36, 2) := by decide +kernel
theorem dX11_isSaidSo_62 : decode cX11_isSaidSo 62 = .ok (.if_icmp .ge 113, 3) := by decide +kernel
theorem dX11_isSaidSo_65 : decode cX11_isSaidSo 65 = .ok (.iload_n 2, 1) := by decide +kernel
theorem dX11_isSaidSo_66 : decode cX11_isSaidSo 66 = .ok (.bipush 6, 2) := by decide +kernel
theorem dX11_isSaidSo_68 : decode cX11_isSaidSo 68 = .ok (.idiv, 1) := by decide +kernel
theorem dX11_isSaidSo_69 : decode cX11_isSaidSo 69 = .ok (.istore_n 3, 1) := by decide +kernel
theorem dX11_isSaidSo_70 : decode cX11_isSaidSo 70 = .ok (.iload_n 2, 1) := by decide +kernel
theorem dX11_isSaidSo_71 : decode cX11_isSaidSo 71 = .ok (.bipush 6, 2) := by decide +kernel
theorem dX11_isSaidSo_73 : decode cX11_isSaidSo 73 = .ok (.irem, 1) := by decide +kernel
theorem dX11_isSaidSo_74 : decode cX11_isSaidSo 74 = .ok (.istore 4, 2) := by decide +kernel
theorem dX11_isSaidSo_76 : decode cX11_isSaidSo 76 = .ok (.iload_n 3, 1) := by decide +kernel
theorem dX11_isSaidSo_77 : decode cX11_isSaidSo 77 = .ok (.aload_n 0, 1) := by decide +kernel
theorem dX11_isSaidSo_78 : decode cX11_isSaidSo 78 = .ok (.getfield 127, 3) := by decide +kernel
theorem dX11_isSaidSo_81 : decode cX11_isSaidSo 81 = .ok (.if_icmp .ge 56, 3) := by decide +kernel
theorem dX11_isSaidSo_84 : decode cX11_isSaidSo 84 = .ok (.iload 4, 2) := by decide +kernel
theorem dX11_isSaidSo_86 : decode cX11_isSaidSo 86 = .ok (.aload_n 0, 1) := by decide +kernel
theorem dX11_isSaidSo_87 : decode cX11_isSaidSo 87 = .ok (.getfield 127, 3) := by decide +kernel
theorem dX11_isSaidSo_90 : decode cX11_isSaidSo 90 = .ok (.if_icmp .ge 47, 3) := by decide +kernel
theorem dX11_isSaidSo_93 : decode cX11_isSaidSo 93 = .ok (.aload_n 0, 1) := by decide +kernel
theorem dX11_isSaidSo_94 : decode cX11_isSaidSo 94 = .ok (.getfield 38, 3) := by decide +kernel
theorem dX11_isSaidSo_97 : decode cX11_isSaidSo 97 = .ok (.iload_n 3, 1) := by decide +kernel
theorem dX11_isSaidSo_98 : decode cX11_isSaidSo 98 = .ok (.iaload, 1) := by decide +kernel
theorem dX11_isSaidSo_99 : decode cX11_isSaidSo 99 = .ok (.iload 4, 2) := by decide +kernel
theorem dX11_isSaidSo_101 : decode cX11_isSaidSo 101 = .ok (.ishr, 1) := by decide +kernel
theorem dX11_isSaidSo_102 : decode cX11_isSaidSo 102 = .ok (.iconst 1, 1) := by decide +kernel
theorem dX11_isSaidSo_103 : decode cX11_isSaidSo 103 = .ok (.iand, 1) := by decide +kernel
theorem dX11_isSaidSo_104 : decode cX11_isSaidSo 104 = .ok (.iconst 1, 1) := by decide +kernel
theorem dX11_isSaidSo_105 : decode cX11_isSaidSo 105 = .ok (.if_icmp .eq 28, 3) := by decide +kernel
theorem dX11_isSaidSo_108 : decode cX11_isSaidSo 108 = .ok (.aload_n 0, 1) := by decide +kernel
theorem dX11_isSaidSo_109 : decode cX11_isSaidSo 109 = .ok (.getfield 35, 3) := by decide +kernel
theorem dX11_isSaidSo_112 : decode cX11_isSaidSo 112 = .ok (.iconst 3, 1) := by decide +kernel
theorem dX11_isSaidSo_113 : decode cX11_isSaidSo 113 = .ok (.iload_n 3, 1) := by decide +kernel
theorem dX11_isSaidSo_114 : decode cX11_isSaidSo 114 = .ok (.imul, 1) := by decide +kernel
theorem dX11_isSaidSo_115 : decode cX11_isSaidSo 115 = .ok (.iaload, 1) := by decide +kernel
theorem dX11_isSaidSo_116 : decode cX11_isSaidSo 116 = .ok (.iconst 4, 1) := by decide +kernel
theorem dX11_isSaidSo_117 : decode cX11_isSaidSo 117 = .ok (.if_icmp .ne 20, 3) := by decide +kernel
theorem dX11_isSaidSo_120 : decode cX11_isSaidSo 120 = .ok (.aload_n 0, 1) := by decide +kernel
theorem dX11_isSaidSo_121 : decode cX11_isSaidSo 121 = .ok (.getfield 35, 3) := by decide +kernel
theorem dX11_isSaidSo_124 : decode cX11_isSaidSo 124 = .ok (.iconst 3, 1) := by decide +kernel
theorem dX11_isSaidSo_125 : decode cX11_isSaidSo 125 = .ok (.iload 4, 2) := by decide +kernel
theorem dX11_isSaidSo_127 : decode cX11_isSaidSo 127 = .ok (.imul, 1) := by decide +kernel
theorem dX11_isSaidSo_128 : decode cX11_isSaidSo 128 = .ok (.iaload, 1) := by decide +kernel
theorem dX11_isSaidSo_129 : decode cX11_isSaidSo 129 = .ok (.iconst 4, 1) := by decide +kernel
theorem dX11_isSaidSo_130 : decode cX11_isSaidSo 130 = .ok (.if_icmp .eq 7, 3) := by decide +kernel
theorem dX11_isSaidSo_133 : decode cX11_isSaidSo 133 = .ok (.iconst 1, 1) := by decide +kernel
theorem dX11_isSaidSo_134 : decode cX11_isSaidSo 134 = .ok (.goto 4, 3) := by decide +kernel
theorem dX11_isSaidSo_137 : decode cX11_isSaidSo 137 = .ok (.iconst 0, 1) := by decide +kernel
theorem dX11_isSaidSo_138 : decode cX11_isSaidSo 138 = .ok (.istore 5, 2) := by decide +kernel
theorem dX11_isSaidSo_140 : decode cX11_isSaidSo 140 = .ok (.iload_n 1, 1) := by decide +kernel
theorem dX11_isSaidSo_141 : decode cX11_isSaidSo 141 = .ok (.ifCond .eq 26, 3) := by decide +kernel
theorem dX11_isSaidSo_144 : decode cX11_isSaidSo 144 = .ok (.iload 5, 2) := by decide +kernel
theorem dX11_isSaidSo_146 : decode cX11_isSaidSo 146 = .ok (.ifCond .eq 17, 3) := by decide +kernel
theorem dX11_isSaidSo_149 : decode cX11_isSaidSo 149 = .ok (.aload_n 0, 1) := by decide +kernel
theorem dX11_isSaidSo_150 : decode cX11_isSaidSo 150 = .ok (.iload 4, 2) := by decide +kernel
theorem dX11_isSaidSo_152 : decode cX11_isSaidSo 152 = .ok (.invokevirtual 264, 3) := by decide +kernel
theorem dX11_isSaidSo_155 : decode cX11_isSaidSo 155 = .ok (.aload_n 0, 1) := by decide +kernel
theorem dX11_isSaidSo_156 : decode cX11_isSaidSo 156 = .ok (.iload_n 3, 1) := by decide +kernel
theorem dX11_isSaidSo_157 : decode cX11_isSaidSo 157 = .ok (.invokevirtual 264, 3) := by decide +kernel
theorem dX11_isSaidSo_160 : decode cX11_isSaidSo 160 = .ok (.if_icmp .ge 7, 3) := by decide +kernel
theorem dX11_isSaidSo_163 : decode cX11_isSaidSo 163 = .ok (.iconst 1, 1) := by decide +kernel
theorem dX11_isSaidSo_164 : decode cX11_isSaidSo 164 = .ok (.goto 4, 3) := by decide +kernel
theorem dX11_isSaidSo_167 : decode cX11_isSaidSo 167 = .ok (.iconst 0, 1) := by decide +kernel
theorem dX11_isSaidSo_168 : decode cX11_isSaidSo 168 = .ok (.istore_n 1, 1) := by decide +kernel
theorem dX11_isSaidSo_169 : decode cX11_isSaidSo 169 = .ok (.iinc 2 1, 3) := by decide +kernel
theorem dX11_isSaidSo_172 : decode cX11_isSaidSo 172 = .ok (.goto (-113), 3) := by decide +kernel
theorem dX11_isSaidSo_175 : decode cX11_isSaidSo 175 = .ok (.iload_n 1, 1) := by decide +kernel
theorem dX11_isSaidSo_176 : decode cX11_isSaidSo 176 = .ok (.ireturn, 1) := by decide +kernel
theorem dX11_layOrders_0 : decode cX11_layOrders 0 = .ok (.iconst 0, 1) := by decide +kernel
theorem dX11_layOrders_1 : decode cX11_layOrders 1 = .ok (.istore_n 1, 1) := by decide +kernel
theorem dX11_layOrders_2 : decode cX11_layOrders 2 = .ok (.iload_n 1, 1) := by decide +kernel
theorem dX11_layOrders_3 : decode cX11_layOrders 3 = .ok (.bipush 6, 2) := by decide +kernel
theorem dX11_layOrders_5 : decode cX11_layOrders 5 = .ok (.if_icmp .ge 16, 3) := by decide +kernel
theorem dX11_layOrders_8 : decode cX11_layOrders 8 = .ok (.aload_n 0, 1) := by decide +kernel
theorem dX11_layOrders_9 : decode cX11_layOrders 9 = .ok (.getfield 50, 3) := by decide +kernel
theorem dX11_layOrders_12 : decode cX11_layOrders 12 = .ok (.iload_n 1, 1) := by decide +kernel
theorem dX11_layOrders_13 : decode cX11_layOrders 13 = .ok (.iconst 0, 1) := by decide +kernel
theorem dX11_layOrders_14 : decode cX11_layOrders 14 = .ok (.iastore, 1) := by decide +kernel
theorem dX11_layOrders_15 : decode cX11_layOrders 15 = .ok (.iinc 1 1, 3) := by decide +kernel
theorem dX11_layOrders_18 : decode cX11_layOrders 18 = .ok (.goto (-16), 3) := by decide +kernel
theorem dX11_layOrders_21 : decode cX11_layOrders 21 = .ok (.aload_n 0, 1) := by decide +kernel
theorem dX11_layOrders_22 : decode cX11_layOrders 22 = .ok (.iconst 1, 1) := by decide +kernel
theorem dX11_layOrders_23 : decode cX11_layOrders 23 = .ok (.aload_n 0, 1) := by decide +kernel
theorem dX11_layOrders_24 : decode cX11_layOrders 24 = .ok (.getfield 127, 3) := by decide +kernel
theorem dX11_layOrders_27 : decode cX11_layOrders 27 = .ok (.ishl, 1) := by decide +kernel
theorem dX11_layOrders_28 : decode cX11_layOrders 28 = .ok (.iconst 1, 1) := by decide +kernel
theorem dX11_layOrders_29 : decode cX11_layOrders 29 = .ok (.isub, 1) := by decide +kernel
theorem dX11_layOrders_30 : decode cX11_layOrders 30 = .ok (.invokevirtual 254, 3) := by decide +kernel
theorem dX11_layOrders_33 : decode cX11_layOrders 33 = .ok (.iconst 0, 1) := by decide +kernel
theorem dX11_layOrders_34 : decode cX11_layOrders 34 = .ok (.istore_n 1, 1) := by decide +kernel
theorem dX11_layOrders_35 : decode cX11_layOrders 35 = .ok (.iconst 1, 1) := by decide +kernel
theorem dX11_layOrders_36 : decode cX11_layOrders 36 = .ok (.istore_n 2, 1) := by decide +kernel
theorem dX11_layOrders_37 : decode cX11_layOrders 37 = .ok (.iload_n 2, 1) := by decide +kernel
theorem dX11_layOrders_38 : decode cX11_layOrders 38 = .ok (.ifCond .eq 54, 3) := by decide +kernel
theorem dX11_layOrders_41 : decode cX11_layOrders 41 = .ok (.aload_n 0, 1) := by decide +kernel
theorem dX11_layOrders_42 : decode cX11_layOrders 42 = .ok (.invokevirtual 267, 3) := by decide +kernel
theorem dX11_layOrders_45 : decode cX11_layOrders 45 = .ok (.ifCond .eq 39, 3) := by decide +kernel
theorem dX11_layOrders_48 : decode cX11_layOrders 48 = .ok (.iinc 1 1, 3) := by decide +kernel
theorem dX11_layOrders_51 : decode cX11_layOrders 51 = .ok (.iconst 0, 1) := by decide +kernel
theorem dX11_layOrders_52 : decode cX11_layOrders 52 = .ok (.istore_n 3, 1) := by decide +kernel
theorem dX11_layOrders_53 : decode cX11_layOrders 53 = .ok (.iload_n 3, 1) := by decide +kernel
theorem dX11_layOrders_54 : decode cX11_layOrders 54 = .ok (.aload_n 0, 1) := by decide +kernel
theorem dX11_layOrders_55 : decode cX11_layOrders 55 = .ok (.getfield 241, 3) := by decide +kernel
theorem dX11_layOrders_58 : decode cX11_layOrders 58 = .ok (.if_icmp .ge 26, 3) := by decide +kernel
theorem dX11_layOrders_61 : decode cX11_layOrders 61 = .ok (.aload_n 0, 1) := by decide +kernel
theorem dX11_layOrders_62 : decode cX11_layOrders 62 = .ok (.getfield 50, 3) := by decide +kernel
theorem dX11_layOrders_65 : decode cX11_layOrders 65 = .ok (.aload_n 0, 1) := by decide +kernel
theorem dX11_layOrders_66 : decode cX11_layOrders 66 = .ok (.getfield 41, 3) := by decide +kernel
theorem dX11_layOrders_69 : decode cX11_layOrders 69 = .ok (.iload_n 3, 1) := by decide +kernel
theorem dX11_layOrders_70 : decode cX11_layOrders 70 = .ok (.iaload, 1) := by decide +kernel
theorem dX11_layOrders_71 : decode cX11_layOrders 71 = .ok (.dup2, 1) := by decide +kernel
theorem dX11_layOrders_72 : decode cX11_layOrders 72 = .ok (.iaload, 1) := by decide +kernel
theorem dX11_layOrders_73 : decode cX11_layOrders 73 = .ok (.iconst 1, 1) := by decide +kernel
theorem dX11_layOrders_74 : decode cX11_layOrders 74 = .ok (.iload_n 3, 1) := by decide +kernel
theorem dX11_layOrders_75 : decode cX11_layOrders 75 = .ok (.ishl, 1) := by decide +kernel
theorem dX11_layOrders_76 : decode cX11_layOrders 76 = .ok (.ior, 1) := by decide +kernel
theorem dX11_layOrders_77 : decode cX11_layOrders 77 = .ok (.iastore, 1) := by decide +kernel
theorem dX11_layOrders_78 : decode cX11_layOrders 78 = .ok (.iinc 3 1, 3) := by decide +kernel
theorem dX11_layOrders_81 : decode cX11_layOrders 81 = .ok (.goto (-28), 3) := by decide +kernel
theorem dX11_layOrders_84 : decode cX11_layOrders 84 = .ok (.aload_n 0, 1) := by decide +kernel
theorem dX11_layOrders_85 : decode cX11_layOrders 85 = .ok (.invokevirtual 261, 3) := by decide +kernel
theorem dX11_layOrders_88 : decode cX11_layOrders 88 = .ok (.istore_n 2, 1) := by decide +kernel
theorem dX11_layOrders_89 : decode cX11_layOrders 89 = .ok (.goto (-52), 3) := by decide +kernel
theorem dX11_layOrders_92 : decode cX11_layOrders 92 = .ok (.iload_n 1, 1) := by decide +kernel
theorem dX11_layOrders_93 : decode cX11_layOrders 93 = .ok (.ireturn, 1) := by decide +kernel
theorem dX11_orders_0 : decode cX11_orders 0 = .ok (.aload_n 0, 1) := by decide +kernel
theorem dX11_orders_1 : decode cX11_orders 1 = .ok (.invokevirtual 270, 3) := by decide +kernel
theorem dX11_orders_4 : decode cX11_orders 4 = .ok (.ireturn, 1) := by decide +kernel
theorem dX11_sure_0 : decode cX11_sure 0 = .ok (.aload_n 0, 1) := by decide +kernel
theorem dX11_sure_1 : decode cX11_sure 1 = .ok (.iload_n 1, 1) := by decide +kernel
theorem dX11_sure_2 : decode cX11_sure 2 = .ok (.invokevirtual 228, 3) := by decide +kernel
theorem dX11_sure_5 : decode cX11_sure 5 = .ok (.ifCond .ne 6, 3) := by decide +kernel
theorem dX11_sure_8 : decode cX11_sure 8 = .ok (.bipush (-101), 2) := by decide +kernel
theorem dX11_sure_10 : decode cX11_sure 10 = .ok (.ireturn, 1) := by decide +kernel
theorem dX11_sure_11 : decode cX11_sure 11 = .ok (.aload_n 0, 1) := by decide +kernel
theorem dX11_sure_12 : decode cX11_sure 12 = .ok (.invokevirtual 270, 3) := by decide +kernel
theorem dX11_sure_15 : decode cX11_sure 15 = .ok (.istore_n 2, 1) := by decide +kernel
theorem dX11_sure_16 : decode cX11_sure 16 = .ok (.iconst 0, 1) := by decide +kernel
theorem dX11_sure_17 : decode cX11_sure 17 = .ok (.istore_n 3, 1) := by decide +kernel
theorem dX11_sure_18 : decode cX11_sure 18 = .ok (.iload_n 3, 1) := by decide +kernel
theorem dX11_sure_19 : decode cX11_sure 19 = .ok (.bipush 6, 2) := by decide +kernel
theorem dX11_sure_21 : decode cX11_sure 21 = .ok (.if_icmp .ge 23, 3) := by decide +kernel
theorem dX11_sure_24 : decode cX11_sure 24 = .ok (.aload_n 0, 1) := by decide +kernel
theorem dX11_sure_25 : decode cX11_sure 25 = .ok (.getfield 50, 3) := by decide +kernel
theorem dX11_sure_28 : decode cX11_sure 28 = .ok (.iload_n 1, 1) := by decide +kernel
theorem dX11_sure_29 : decode cX11_sure 29 = .ok (.iaload, 1) := by decide +kernel
theorem dX11_sure_30 : decode cX11_sure 30 = .ok (.iconst 1, 1) := by decide +kernel
theorem dX11_sure_31 : decode cX11_sure 31 = .ok (.iload_n 3, 1) := by decide +kernel
theorem dX11_sure_32 : decode cX11_sure 32 = .ok (.ishl, 1) := by decide +kernel
theorem dX11_sure_33 : decode cX11_sure 33 = .ok (.if_icmp .ne 5, 3) := by decide +kernel
theorem dX11_sure_36 : decode cX11_sure 36 = .ok (.iload_n 3, 1) := by decide +kernel
theorem dX11_sure_37 : decode cX11_sure 37 = .ok (.ireturn, 1) := by decide +kernel
theorem dX11_sure_38 : decode cX11_sure 38 = .ok (.iinc 3 1, 3) := by decide +kernel
theorem dX11_sure_41 : decode cX11_sure 41 = .ok (.goto (-23), 3) := by decide +kernel
theorem dX11_sure_44 : decode cX11_sure 44 = .ok (.iconst (-1), 1) := by decide +kernel
theorem dX11_sure_45 : decode cX11_sure 45 = .ok (.ireturn, 1) := by decide +kernel
theorem dX11_wreck_0 : decode cX11_wreck 0 = .ok (.iload_n 1, 1) := by decide +kernel
theorem dX11_wreck_1 : decode cX11_wreck 1 = .ok (.i2l, 1) := by decide +kernel
theorem dX11_wreck_2 : decode cX11_wreck 2 = .ok (.lconst 0, 1) := by decide +kernel
theorem dX11_wreck_3 : decode cX11_wreck 3 = .ok (.ldc2_w 273, 3) := by decide +kernel
theorem dX11_wreck_6 : decode cX11_wreck 6 = .ok (.invokestatic 77, 3) := by decide +kernel
theorem dX11_wreck_9 : decode cX11_wreck 9 = .ok (.ifCond .ne 6, 3) := by decide +kernel
theorem dX11_wreck_12 : decode cX11_wreck 12 = .ok (.bipush (-102), 2) := by decide +kernel
theorem dX11_wreck_14 : decode cX11_wreck 14 = .ok (.ireturn, 1) := by decide +kernel
theorem dX11_wreck_15 : decode cX11_wreck 15 = .ok (.aload_n 0, 1) := by decide +kernel
theorem dX11_wreck_16 : decode cX11_wreck 16 = .ok (.invokevirtual 145, 3) := by decide +kernel
theorem dX11_wreck_19 : decode cX11_wreck 19 = .ok (.ifCond .eq 6, 3) := by decide +kernel
theorem dX11_wreck_22 : decode cX11_wreck 22 = .ok (.bipush (-103), 2) := by decide +kernel
theorem dX11_wreck_24 : decode cX11_wreck 24 = .ok (.ireturn, 1) := by decide +kernel
theorem dX11_wreck_25 : decode cX11_wreck 25 = .ok (.aload_n 0, 1) := by decide +kernel
theorem dX11_wreck_26 : decode cX11_wreck 26 = .ok (.getfield 133, 3) := by decide +kernel
theorem dX11_wreck_29 : decode cX11_wreck 29 = .ok (.bipush 8, 2) := by decide +kernel
theorem dX11_wreck_31 : decode cX11_wreck 31 = .ok (.if_icmp .ne 6, 3) := by decide +kernel
theorem dX11_wreck_34 : decode cX11_wreck 34 = .ok (.bipush (-104), 2) := by decide +kernel
theorem dX11_wreck_36 : decode cX11_wreck 36 = .ok (.ireturn, 1) := by decide +kernel
theorem dX11_wreck_37 : decode cX11_wreck 37 = .ok (.aload_n 0, 1) := by decide +kernel
theorem dX11_wreck_38 : decode cX11_wreck 38 = .ok (.getfield 53, 3) := by decide +kernel
theorem dX11_wreck_41 : decode cX11_wreck 41 = .ok (.aload_n 0, 1) := by decide +kernel
theorem dX11_wreck_42 : decode cX11_wreck 42 = .ok (.getfield 133, 3) := by decide +kernel
theorem dX11_wreck_45 : decode cX11_wreck 45 = .ok (.iload_n 1, 1) := by decide +kernel
theorem dX11_wreck_46 : decode cX11_wreck 46 = .ok (.iastore, 1) := by decide +kernel
theorem dX11_wreck_47 : decode cX11_wreck 47 = .ok (.aload_n 0, 1) := by decide +kernel
theorem dX11_wreck_48 : decode cX11_wreck 48 = .ok (.dup, 1) := by decide +kernel
theorem dX11_wreck_49 : decode cX11_wreck 49 = .ok (.getfield 133, 3) := by decide +kernel
theorem dX11_wreck_52 : decode cX11_wreck 52 = .ok (.iconst 1, 1) := by decide +kernel
theorem dX11_wreck_53 : decode cX11_wreck 53 = .ok (.iadd, 1) := by decide +kernel
theorem dX11_wreck_54 : decode cX11_wreck 54 = .ok (.putfield 133, 3) := by decide +kernel
theorem dX11_wreck_57 : decode cX11_wreck 57 = .ok (.aload_n 0, 1) := by decide +kernel
theorem dX11_wreck_58 : decode cX11_wreck 58 = .ok (.getfield 133, 3) := by decide +kernel
theorem dX11_wreck_61 : decode cX11_wreck 61 = .ok (.ireturn, 1) := by decide +kernel
theorem dX11_stationsOf_0 : decode cX11_stationsOf 0 = .ok (.iconst 0, 1) := by decide +kernel
theorem dX11_stationsOf_1 : decode cX11_stationsOf 1 = .ok (.istore_n 3, 1) := by decide +kernel
theorem dX11_stationsOf_2 : decode cX11_stationsOf 2 = .ok (.iconst (-1), 1) := by decide +kernel
theorem dX11_stationsOf_3 : decode cX11_stationsOf 3 = .ok (.istore 4, 2) := by decide +kernel
theorem dX11_stationsOf_5 : decode cX11_stationsOf 5 = .ok (.iconst (-1), 1) := by decide +kernel
theorem dX11_stationsOf_6 : decode cX11_stationsOf 6 = .ok (.istore 5, 2) := by decide +kernel
theorem dX11_stationsOf_8 : decode cX11_stationsOf 8 = .ok (.iconst 0, 1) := by decide +kernel
theorem dX11_stationsOf_9 : decode cX11_stationsOf 9 = .ok (.istore 6, 2) := by decide +kernel
theorem dX11_stationsOf_11 : decode cX11_stationsOf 11 = .ok (.iload 6, 2) := by decide +kernel
theorem dX11_stationsOf_13 : decode cX11_stationsOf 13 = .ok (.bipush 100, 2) := by decide +kernel
theorem dX11_stationsOf_15 : decode cX11_stationsOf 15 = .ok (.if_icmp .ge 108, 3) := by decide +kernel
theorem dX11_stationsOf_18 : decode cX11_stationsOf 18 = .ok (.iconst 0, 1) := by decide +kernel
theorem dX11_stationsOf_19 : decode cX11_stationsOf 19 = .ok (.istore 7, 2) := by decide +kernel
theorem dX11_stationsOf_21 : decode cX11_stationsOf 21 = .ok (.iconst 0, 1) := by decide +kernel
theorem dX11_stationsOf_22 : decode cX11_stationsOf 22 = .ok (.istore 8, 2) := by decide +kernel
theorem dX11_stationsOf_24 : decode cX11_stationsOf 24 = .ok (.iload 8, 2) := by decide +kernel
theorem dX11_stationsOf_26 : decode cX11_stationsOf 26 = .ok (.aload_n 0, 1) := by decide +kernel
theorem dX11_stationsOf_27 : decode cX11_stationsOf 27 = .ok (.getfield 133, 3) := by decide +kernel
theorem dX11_stationsOf_30 : decode cX11_stationsOf 30 = .ok (.if_icmp .ge 33, 3) := by decide +kernel
theorem dX11_stationsOf_33 : decode cX11_stationsOf 33 = .ok (.iload 7, 2) := by decide +kernel
theorem dX11_stationsOf_35 : decode cX11_stationsOf 35 = .ok (.ifCond .ne 15, 3) := by decide +kernel
theorem dX11_stationsOf_38 : decode cX11_stationsOf 38 = .ok (.aload_n 0, 1) := by decide +kernel
theorem dX11_stationsOf_39 : decode cX11_stationsOf 39 = .ok (.getfield 53, 3) := by decide +kernel
theorem dX11_stationsOf_42 : decode cX11_stationsOf 42 = .ok (.iload 8, 2) := by decide +kernel
theorem dX11_stationsOf_44 : decode cX11_stationsOf 44 = .ok (.iaload, 1) := by decide +kernel
theorem dX11_stationsOf_45 : decode cX11_stationsOf 45 = .ok (.iload 6, 2) := by decide +kernel
theorem dX11_stationsOf_47 : decode cX11_stationsOf 47 = .ok (.if_icmp .ne 7, 3) := by decide +kernel
theorem dX11_stationsOf_50 : decode cX11_stationsOf 50 = .ok (.iconst 1, 1) := by decide +kernel
theorem dX11_stationsOf_51 : decode cX11_stationsOf 51 = .ok (.goto 4, 3) := by decide +kernel
theorem dX11_stationsOf_54 : decode cX11_stationsOf 54 = .ok (.iconst 0, 1) := by decide +kernel
theorem dX11_stationsOf_55 : decode cX11_stationsOf 55 = .ok (.istore 7, 2) := by decide +kernel
theorem dX11_stationsOf_57 : decode cX11_stationsOf 57 = .ok (.iinc 8 1, 3) := by decide +kernel
theorem dX11_stationsOf_60 : decode cX11_stationsOf 60 = .ok (.goto (-36), 3) := by decide +kernel
theorem dX11_stationsOf_63 : decode cX11_stationsOf 63 = .ok (.iload 7, 2) := by decide +kernel
theorem dX11_stationsOf_65 : decode cX11_stationsOf 65 = .ok (.ifCond .eq 52, 3) := by decide +kernel
theorem dX11_stationsOf_68 : decode cX11_stationsOf 68 = .ok (.iload 6, 2) := by decide +kernel
theorem dX11_stationsOf_70 : decode cX11_stationsOf 70 = .ok (.iload 5, 2) := by decide +kernel
theorem dX11_stationsOf_72 : decode cX11_stationsOf 72 = .ok (.if_icmp .le 45, 3) := by decide +kernel
theorem dX11_stationsOf_75 : decode cX11_stationsOf 75 = .ok (.iload 6, 2) := by decide +kernel
theorem dX11_stationsOf_77 : decode cX11_stationsOf 77 = .ok (.iload_n 1, 1) := by decide +kernel
theorem dX11_stationsOf_78 : decode cX11_stationsOf 78 = .ok (.iadd, 1) := by decide +kernel
theorem dX11_stationsOf_79 : decode cX11_stationsOf 79 = .ok (.bipush 99, 2) := by decide +kernel
theorem dX11_stationsOf_81 : decode cX11_stationsOf 81 = .ok (.if_icmp .le 8, 3) := by decide +kernel
theorem dX11_stationsOf_84 : decode cX11_stationsOf 84 = .ok (.bipush 99, 2) := by decide +kernel
theorem dX11_stationsOf_86 : decode cX11_stationsOf 86 = .ok (.goto 7, 3) := by decide +kernel
theorem dX11_stationsOf_89 : decode cX11_stationsOf 89 = .ok (.iload 6, 2) := by decide +kernel
theorem dX11_stationsOf_91 : decode cX11_stationsOf 91 = .ok (.iload_n 1, 1) := by decide +kernel
theorem dX11_stationsOf_92 : decode cX11_stationsOf 92 = .ok (.iadd, 1) := by decide +kernel
theorem dX11_stationsOf_93 : decode cX11_stationsOf 93 = .ok (.istore 8, 2) := by decide +kernel
theorem dX11_stationsOf_95 : decode cX11_stationsOf 95 = .ok (.iload_n 3, 1) := by decide +kernel
theorem dX11_stationsOf_96 : decode cX11_stationsOf 96 = .ok (.ifCond .ne 8, 3) := by decide +kernel
theorem dX11_stationsOf_99 : decode cX11_stationsOf 99 = .ok (.iload 8, 2) := by decide +kernel
theorem dX11_stationsOf_101 : decode cX11_stationsOf 101 = .ok (.goto 5, 3) := by decide +kernel
theorem dX11_stationsOf_104 : decode cX11_stationsOf 104 = .ok (.iload 4, 2) := by decide +kernel
theorem dX11_stationsOf_106 : decode cX11_stationsOf 106 = .ok (.istore 4, 2) := by decide +kernel
theorem dX11_stationsOf_108 : decode cX11_stationsOf 108 = .ok (.iinc 3 1, 3) := by decide +kernel
theorem dX11_stationsOf_111 : decode cX11_stationsOf 111 = .ok (.iload 8, 2) := by decide +kernel
theorem dX11_stationsOf_113 : decode cX11_stationsOf 113 = .ok (.iload_n 1, 1) := by decide +kernel
theorem dX11_stationsOf_114 : decode cX11_stationsOf 114 = .ok (.iadd, 1) := by decide +kernel
theorem dX11_stationsOf_115 : decode cX11_stationsOf 115 = .ok (.istore 5, 2) := by decide +kernel
theorem dX11_stationsOf_117 : decode cX11_stationsOf 117 = .ok (.iinc 6 1, 3) := by decide +kernel
theorem dX11_stationsOf_120 : decode cX11_stationsOf 120 = .ok (.goto (-109), 3) := by decide +kernel
theorem dX11_stationsOf_123 : decode cX11_stationsOf 123 = .ok (.iload_n 2, 1) := by decide +kernel
theorem dX11_stationsOf_124 : decode cX11_stationsOf 124 = .ok (.ifCond .ne 7, 3) := by decide +kernel
end
section
theorem dX11_stationsOf_127 : decode cX11_stationsOf 127 = .ok (.iload_n 3, 1) := by decide +kernel
theorem dX11_stationsOf_128 : decode cX11_stationsOf 128 = .ok (.goto 5, 3) := by decide +kernel
theorem dX11_stationsOf_131 : decode cX11_stationsOf 131 = .ok (.iload 4, 2) := by decide +kernel
theorem dX11_stationsOf_133 : decode cX11_stationsOf 133 = .ok (.ireturn, 1) := by decide +kernel
theorem dX11_stations_0 : decode cX11_stations 0 = .ok (.iload_n 1, 1) := by decide +kernel
theorem dX11_stations_1 : decode cX11_stations 1 = .ok (.i2l, 1) := by decide +kernel
theorem dX11_stations_2 : decode cX11_stations 2 = .ok (.lconst 0, 1) := by decide +kernel
theorem dX11_stations_3 : decode cX11_stations 3 = .ok (.ldc2_w 236, 3) := by decide +kernel
theorem dX11_stations_6 : decode cX11_stations 6 = .ok (.invokestatic 77, 3) := by decide +kernel
theorem dX11_stations_9 : decode cX11_stations 9 = .ok (.ifCond .eq 22, 3) := by decide +kernel
theorem dX11_stations_12 : decode cX11_stations 12 = .ok (.iload_n 2, 1) := by decide +kernel
theorem dX11_stations_13 : decode cX11_stations 13 = .ok (.i2l, 1) := by decide +kernel
theorem dX11_stations_14 : decode cX11_stations 14 = .ok (.lconst 0, 1) := by decide +kernel
theorem dX11_stations_15 : decode cX11_stations 15 = .ok (.lconst 1, 1) := by decide +kernel
theorem dX11_stations_16 : decode cX11_stations 16 = .ok (.invokestatic 77, 3) := by decide +kernel
theorem dX11_stations_19 : decode cX11_stations 19 = .ok (.ifCond .eq 12, 3) := by decide +kernel
theorem dX11_stations_22 : decode cX11_stations 22 = .ok (.aload_n 0, 1) := by decide +kernel
theorem dX11_stations_23 : decode cX11_stations 23 = .ok (.iload_n 1, 1) := by decide +kernel
theorem dX11_stations_24 : decode cX11_stations 24 = .ok (.iload_n 2, 1) := by decide +kernel
theorem dX11_stations_25 : decode cX11_stations 25 = .ok (.invokevirtual 275, 3) := by decide +kernel
theorem dX11_stations_28 : decode cX11_stations 28 = .ok (.goto 5, 3) := by decide +kernel
theorem dX11_stations_31 : decode cX11_stations 31 = .ok (.bipush (-102), 2) := by decide +kernel
theorem dX11_stations_33 : decode cX11_stations 33 = .ok (.ireturn, 1) := by decide +kernel
theorem dX11_draw_0 : decode cX11_draw 0 = .ok (.aload_n 0, 1) := by decide +kernel
theorem dX11_draw_1 : decode cX11_draw 1 = .ok (.ldc2_w 278, 3) := by decide +kernel
theorem dX11_draw_4 : decode cX11_draw 4 = .ok (.aload_n 0, 1) := by decide +kernel
theorem dX11_draw_5 : decode cX11_draw 5 = .ok (.getfield 280, 3) := by decide +kernel
theorem dX11_draw_8 : decode cX11_draw 8 = .ok (.i2l, 1) := by decide +kernel
theorem dX11_draw_9 : decode cX11_draw 9 = .ok (.lmul, 1) := by decide +kernel
theorem dX11_draw_10 : decode cX11_draw 10 = .ok (.ldc2_w 283, 3) := by decide +kernel
theorem dX11_draw_13 : decode cX11_draw 13 = .ok (.ladd, 1) := by decide +kernel
theorem dX11_draw_14 : decode cX11_draw 14 = .ok (.ldc2_w 285, 3) := by decide +kernel
theorem dX11_draw_17 : decode cX11_draw 17 = .ok (.land, 1) := by decide +kernel
theorem dX11_draw_18 : decode cX11_draw 18 = .ok (.l2i, 1) := by decide +kernel
theorem dX11_draw_19 : decode cX11_draw 19 = .ok (.putfield 280, 3) := by decide +kernel
theorem dX11_draw_22 : decode cX11_draw 22 = .ok (.aload_n 0, 1) := by decide +kernel
theorem dX11_draw_23 : decode cX11_draw 23 = .ok (.getfield 280, 3) := by decide +kernel
theorem dX11_draw_26 : decode cX11_draw 26 = .ok (.ldc_w 287, 3) := by decide +kernel
theorem dX11_draw_29 : decode cX11_draw 29 = .ok (.idiv, 1) := by decide +kernel
theorem dX11_draw_30 : decode cX11_draw 30 = .ok (.iload_n 1, 1) := by decide +kernel
theorem dX11_draw_31 : decode cX11_draw 31 = .ok (.irem, 1) := by decide +kernel
theorem dX11_draw_32 : decode cX11_draw 32 = .ok (.ireturn, 1) := by decide +kernel
theorem dX11_nights_0 : decode cX11_nights 0 = .ok (.iload_n 1, 1) := by decide +kernel
theorem dX11_nights_1 : decode cX11_nights 1 = .ok (.ifCond .lt 15, 3) := by decide +kernel
theorem dX11_nights_4 : decode cX11_nights 4 = .ok (.iload_n 2, 1) := by decide +kernel
theorem dX11_nights_5 : decode cX11_nights 5 = .ok (.i2l, 1) := by decide +kernel
theorem dX11_nights_6 : decode cX11_nights 6 = .ok (.lconst 0, 1) := by decide +kernel
theorem dX11_nights_7 : decode cX11_nights 7 = .ok (.ldc2_w 288, 3) := by decide +kernel
theorem dX11_nights_10 : decode cX11_nights 10 = .ok (.invokestatic 77, 3) := by decide +kernel
theorem dX11_nights_13 : decode cX11_nights 13 = .ok (.ifCond .ne 6, 3) := by decide +kernel
theorem dX11_nights_16 : decode cX11_nights 16 = .ok (.bipush (-102), 2) := by decide +kernel
theorem dX11_nights_18 : decode cX11_nights 18 = .ok (.ireturn, 1) := by decide +kernel
theorem dX11_nights_19 : decode cX11_nights 19 = .ok (.aload_n 0, 1) := by decide +kernel
theorem dX11_nights_20 : decode cX11_nights 20 = .ok (.invokevirtual 145, 3) := by decide +kernel
theorem dX11_nights_23 : decode cX11_nights 23 = .ok (.ifCond .ne 22, 3) := by decide +kernel
theorem dX11_nights_26 : decode cX11_nights 26 = .ok (.aload_n 0, 1) := by decide +kernel
theorem dX11_nights_27 : decode cX11_nights 27 = .ok (.getfield 121, 3) := by decide +kernel
theorem dX11_nights_30 : decode cX11_nights 30 = .ok (.iconst 1, 1) := by decide +kernel
theorem dX11_nights_31 : decode cX11_nights 31 = .ok (.if_icmp .eq 14, 3) := by decide +kernel
theorem dX11_nights_34 : decode cX11_nights 34 = .ok (.aload_n 0, 1) := by decide +kernel
theorem dX11_nights_35 : decode cX11_nights 35 = .ok (.invokevirtual 161, 3) := by decide +kernel
theorem dX11_nights_38 : decode cX11_nights 38 = .ok (.aload_n 0, 1) := by decide +kernel
theorem dX11_nights_39 : decode cX11_nights 39 = .ok (.getfield 106, 3) := by decide +kernel
theorem dX11_nights_42 : decode cX11_nights 42 = .ok (.if_icmp .lt 6, 3) := by decide +kernel
theorem dX11_nights_45 : decode cX11_nights 45 = .ok (.bipush (-103), 2) := by decide +kernel
theorem dX11_nights_47 : decode cX11_nights 47 = .ok (.ireturn, 1) := by decide +kernel
theorem dX11_nights_48 : decode cX11_nights 48 = .ok (.aload_n 0, 1) := by decide +kernel
theorem dX11_nights_49 : decode cX11_nights 49 = .ok (.iload_n 1, 1) := by decide +kernel
theorem dX11_nights_50 : decode cX11_nights 50 = .ok (.putfield 280, 3) := by decide +kernel
theorem dX11_nights_53 : decode cX11_nights 53 = .ok (.aload_n 0, 1) := by decide +kernel
theorem dX11_nights_54 : decode cX11_nights 54 = .ok (.getfield 118, 3) := by decide +kernel
theorem dX11_nights_57 : decode cX11_nights 57 = .ok (.istore_n 3, 1) := by decide +kernel
theorem dX11_nights_58 : decode cX11_nights 58 = .ok (.aload_n 0, 1) := by decide +kernel
theorem dX11_nights_59 : decode cX11_nights 59 = .ok (.invokevirtual 192, 3) := by decide +kernel
theorem dX11_nights_62 : decode cX11_nights 62 = .ok (.istore 4, 2) := by decide +kernel
theorem dX11_nights_64 : decode cX11_nights 64 = .ok (.iconst 0, 1) := by decide +kernel
theorem dX11_nights_65 : decode cX11_nights 65 = .ok (.istore 5, 2) := by decide +kernel
theorem dX11_nights_67 : decode cX11_nights 67 = .ok (.iconst 0, 1) := by decide +kernel
theorem dX11_nights_68 : decode cX11_nights 68 = .ok (.istore 6, 2) := by decide +kernel
theorem dX11_nights_70 : decode cX11_nights 70 = .ok (.aload_n 0, 1) := by decide +kernel
theorem dX11_nights_71 : decode cX11_nights 71 = .ok (.invokevirtual 161, 3) := by decide +kernel
theorem dX11_nights_74 : decode cX11_nights 74 = .ok (.istore 7, 2) := by decide +kernel
theorem dX11_nights_76 : decode cX11_nights 76 = .ok (.iload_n 3, 1) := by decide +kernel
theorem dX11_nights_77 : decode cX11_nights 77 = .ok (.ifCond .ne 165, 3) := by decide +kernel
theorem dX11_nights_80 : decode cX11_nights 80 = .ok (.iload 4, 2) := by decide +kernel
theorem dX11_nights_82 : decode cX11_nights 82 = .ok (.ifCond .eq 160, 3) := by decide +kernel
theorem dX11_nights_85 : decode cX11_nights 85 = .ok (.iload 6, 2) := by decide +kernel
theorem dX11_nights_87 : decode cX11_nights 87 = .ok (.ifCond .ne 155, 3) := by decide +kernel
theorem dX11_nights_90 : decode cX11_nights 90 = .ok (.iconst 0, 1) := by decide +kernel
theorem dX11_nights_91 : decode cX11_nights 91 = .ok (.istore 8, 2) := by decide +kernel
theorem dX11_nights_93 : decode cX11_nights 93 = .ok (.iload 4, 2) := by decide +kernel
theorem dX11_nights_95 : decode cX11_nights 95 = .ok (.iload 8, 2) := by decide +kernel
theorem dX11_nights_97 : decode cX11_nights 97 = .ok (.ishr, 1) := by decide +kernel
theorem dX11_nights_98 : decode cX11_nights 98 = .ok (.iconst 1, 1) := by decide +kernel
theorem dX11_nights_99 : decode cX11_nights 99 = .ok (.iand, 1) := by decide +kernel
theorem dX11_nights_100 : decode cX11_nights 100 = .ok (.ifCond .ne 9, 3) := by decide +kernel
theorem dX11_nights_103 : decode cX11_nights 103 = .ok (.iinc 8 1, 3) := by decide +kernel
theorem dX11_nights_106 : decode cX11_nights 106 = .ok (.goto (-13), 3) := by decide +kernel
theorem dX11_nights_109 : decode cX11_nights 109 = .ok (.iload 4, 2) := by decide +kernel
theorem dX11_nights_111 : decode cX11_nights 111 = .ok (.iconst 1, 1) := by decide +kernel
theorem dX11_nights_112 : decode cX11_nights 112 = .ok (.iload 8, 2) := by decide +kernel
theorem dX11_nights_114 : decode cX11_nights 114 = .ok (.ishl, 1) := by decide +kernel
theorem dX11_nights_115 : decode cX11_nights 115 = .ok (.iconst (-1), 1) := by decide +kernel
theorem dX11_nights_116 : decode cX11_nights 116 = .ok (.ixor, 1) := by decide +kernel
theorem dX11_nights_117 : decode cX11_nights 117 = .ok (.iand, 1) := by decide +kernel
theorem dX11_nights_118 : decode cX11_nights 118 = .ok (.istore 4, 2) := by decide +kernel
theorem dX11_nights_120 : decode cX11_nights 120 = .ok (.iinc 5 1, 3) := by decide +kernel
theorem dX11_nights_123 : decode cX11_nights 123 = .ok (.aload_n 0, 1) := by decide +kernel
theorem dX11_nights_124 : decode cX11_nights 124 = .ok (.bipush 10, 2) := by decide +kernel
theorem dX11_nights_126 : decode cX11_nights 126 = .ok (.invokevirtual 290, 3) := by decide +kernel
theorem dX11_nights_129 : decode cX11_nights 129 = .ok (.istore 9, 2) := by decide +kernel
theorem dX11_nights_131 : decode cX11_nights 131 = .ok (.iload 9, 2) := by decide +kernel
theorem dX11_nights_133 : decode cX11_nights 133 = .ok (.aload_n 0, 1) := by decide +kernel
theorem dX11_nights_134 : decode cX11_nights 134 = .ok (.getfield 19, 3) := by decide +kernel
theorem dX11_nights_137 : decode cX11_nights 137 = .ok (.iconst 0, 1) := by decide +kernel
theorem dX11_nights_138 : decode cX11_nights 138 = .ok (.iaload, 1) := by decide +kernel
theorem dX11_nights_139 : decode cX11_nights 139 = .ok (.if_icmp .ge 7, 3) := by decide +kernel
theorem dX11_nights_142 : decode cX11_nights 142 = .ok (.iconst (-1), 1) := by decide +kernel
theorem dX11_nights_143 : decode cX11_nights 143 = .ok (.goto 26, 3) := by decide +kernel
theorem dX11_nights_146 : decode cX11_nights 146 = .ok (.iload 9, 2) := by decide +kernel
theorem dX11_nights_148 : decode cX11_nights 148 = .ok (.aload_n 0, 1) := by decide +kernel
theorem dX11_nights_149 : decode cX11_nights 149 = .ok (.getfield 19, 3) := by decide +kernel
theorem dX11_nights_152 : decode cX11_nights 152 = .ok (.iconst 0, 1) := by decide +kernel
theorem dX11_nights_153 : decode cX11_nights 153 = .ok (.iaload, 1) := by decide +kernel
theorem dX11_nights_154 : decode cX11_nights 154 = .ok (.aload_n 0, 1) := by decide +kernel
theorem dX11_nights_155 : decode cX11_nights 155 = .ok (.getfield 19, 3) := by decide +kernel
theorem dX11_nights_158 : decode cX11_nights 158 = .ok (.iconst 1, 1) := by decide +kernel
theorem dX11_nights_159 : decode cX11_nights 159 = .ok (.iaload, 1) := by decide +kernel
theorem dX11_nights_160 : decode cX11_nights 160 = .ok (.iadd, 1) := by decide +kernel
theorem dX11_nights_161 : decode cX11_nights 161 = .ok (.if_icmp .ge 7, 3) := by decide +kernel
theorem dX11_nights_164 : decode cX11_nights 164 = .ok (.iconst 0, 1) := by decide +kernel
theorem dX11_nights_165 : decode cX11_nights 165 = .ok (.goto 4, 3) := by decide +kernel
theorem dX11_nights_168 : decode cX11_nights 168 = .ok (.iconst 1, 1) := by decide +kernel
theorem dX11_nights_169 : decode cX11_nights 169 = .ok (.istore 10, 2) := by decide +kernel
theorem dX11_nights_171 : decode cX11_nights 171 = .ok (.aload_n 0, 1) := by decide +kernel
theorem dX11_nights_172 : decode cX11_nights 172 = .ok (.aload_n 0, 1) := by decide +kernel
theorem dX11_nights_173 : decode cX11_nights 173 = .ok (.iload 8, 2) := by decide +kernel
theorem dX11_nights_175 : decode cX11_nights 175 = .ok (.iload 7, 2) := by decide +kernel
theorem dX11_nights_177 : decode cX11_nights 177 = .ok (.iload 10, 2) := by decide +kernel
theorem dX11_nights_179 : decode cX11_nights 179 = .ok (.invokevirtual 164, 3) := by decide +kernel
theorem dX11_nights_182 : decode cX11_nights 182 = .ok (.invokevirtual 168, 3) := by decide +kernel
theorem dX11_nights_185 : decode cX11_nights 185 = .ok (.ifCond .eq 7, 3) := by decide +kernel
theorem dX11_nights_188 : decode cX11_nights 188 = .ok (.iconst 1, 1) := by decide +kernel
theorem dX11_nights_189 : decode cX11_nights 189 = .ok (.goto 4, 3) := by decide +kernel
theorem dX11_nights_192 : decode cX11_nights 192 = .ok (.iconst 0, 1) := by decide +kernel
theorem dX11_nights_193 : decode cX11_nights 193 = .ok (.istore_n 3, 1) := by decide +kernel
theorem dX11_nights_194 : decode cX11_nights 194 = .ok (.iload_n 3, 1) := by decide +kernel
theorem dX11_nights_195 : decode cX11_nights 195 = .ok (.ifCond .ne 44, 3) := by decide +kernel
theorem dX11_nights_198 : decode cX11_nights 198 = .ok (.aload_n 0, 1) := by decide +kernel
theorem dX11_nights_199 : decode cX11_nights 199 = .ok (.bipush 10, 2) := by decide +kernel
theorem dX11_nights_201 : decode cX11_nights 201 = .ok (.invokevirtual 290, 3) := by decide +kernel
theorem dX11_nights_204 : decode cX11_nights 204 = .ok (.istore 11, 2) := by decide +kernel
theorem dX11_nights_206 : decode cX11_nights 206 = .ok (.iload 11, 2) := by decide +kernel
theorem dX11_nights_208 : decode cX11_nights 208 = .ok (.aload_n 0, 1) := by decide +kernel
theorem dX11_nights_209 : decode cX11_nights 209 = .ok (.getfield 22, 3) := by decide +kernel
theorem dX11_nights_212 : decode cX11_nights 212 = .ok (.iload 7, 2) := by decide +kernel
theorem dX11_nights_214 : decode cX11_nights 214 = .ok (.iaload, 1) := by decide +kernel
theorem dX11_nights_215 : decode cX11_nights 215 = .ok (.if_icmp .lt 14, 3) := by decide +kernel
theorem dX11_nights_218 : decode cX11_nights 218 = .ok (.iload 7, 2) := by decide +kernel
theorem dX11_nights_220 : decode cX11_nights 220 = .ok (.aload_n 0, 1) := by decide +kernel
theorem dX11_nights_221 : decode cX11_nights 221 = .ok (.getfield 106, 3) := by decide +kernel
theorem dX11_nights_224 : decode cX11_nights 224 = .ok (.iconst 1, 1) := by decide +kernel
theorem dX11_nights_225 : decode cX11_nights 225 = .ok (.isub, 1) := by decide +kernel
theorem dX11_nights_226 : decode cX11_nights 226 = .ok (.if_icmp .ne 7, 3) := by decide +kernel
theorem dX11_nights_229 : decode cX11_nights 229 = .ok (.iconst 1, 1) := by decide +kernel
theorem dX11_nights_230 : decode cX11_nights 230 = .ok (.goto 4, 3) := by decide +kernel
theorem dX11_nights_233 : decode cX11_nights 233 = .ok (.iconst 0, 1) := by decide +kernel
theorem dX11_nights_234 : decode cX11_nights 234 = .ok (.istore 6, 2) := by decide +kernel
theorem dX11_nights_236 : decode cX11_nights 236 = .ok (.iinc 7 1, 3) := by decide +kernel
theorem dX11_nights_239 : decode cX11_nights 239 = .ok (.goto (-163), 3) := by decide +kernel
theorem dX11_nights_242 : decode cX11_nights 242 = .ok (.iload_n 2, 1) := by decide +kernel
theorem dX11_nights_243 : decode cX11_nights 243 = .ok (.ifCond .ne 7, 3) := by decide +kernel
theorem dX11_nights_246 : decode cX11_nights 246 = .ok (.iload_n 3, 1) := by decide +kernel
theorem dX11_nights_247 : decode cX11_nights 247 = .ok (.goto 27, 3) := by decide +kernel
theorem dX11_nights_250 : decode cX11_nights 250 = .ok (.iload_n 2, 1) := by decide +kernel
theorem dX11_nights_251 : decode cX11_nights 251 = .ok (.iconst 1, 1) := by decide +kernel
theorem dX11_nights_252 : decode cX11_nights 252 = .ok (.if_icmp .ne 8, 3) := by decide +kernel
theorem dX11_nights_255 : decode cX11_nights 255 = .ok (.iload 5, 2) := by decide +kernel
theorem dX11_nights_257 : decode cX11_nights 257 = .ok (.goto 17, 3) := by decide +kernel
theorem dX11_nights_260 : decode cX11_nights 260 = .ok (.iload_n 2, 1) := by decide +kernel
theorem dX11_nights_261 : decode cX11_nights 261 = .ok (.iconst 2, 1) := by decide +kernel
theorem dX11_nights_262 : decode cX11_nights 262 = .ok (.if_icmp .ne 8, 3) := by decide +kernel
theorem dX11_nights_265 : decode cX11_nights 265 = .ok (.iload 6, 2) := by decide +kernel
theorem dX11_nights_267 : decode cX11_nights 267 = .ok (.goto 7, 3) := by decide +kernel
theorem dX11_nights_270 : decode cX11_nights 270 = .ok (.aload_n 0, 1) := by decide +kernel
theorem dX11_nights_271 : decode cX11_nights 271 = .ok (.getfield 280, 3) := by decide +kernel
theorem dX11_nights_274 : decode cX11_nights 274 = .ok (.ireturn, 1) := by decide +kernel
theorem dX11_copy_0 : decode cX11_copy 0 = .ok (.iconst 0, 1) := by decide +kernel
theorem dX11_copy_1 : decode cX11_copy 1 = .ok (.istore_n 2, 1) := by decide +kernel
theorem dX11_copy_2 : decode cX11_copy 2 = .ok (.iload_n 2, 1) := by decide +kernel
theorem dX11_copy_3 : decode cX11_copy 3 = .ok (.aload_n 0, 1) := by decide +kernel
theorem dX11_copy_4 : decode cX11_copy 4 = .ok (.arraylength, 1) := by decide +kernel
theorem dX11_copy_5 : decode cX11_copy 5 = .ok (.if_icmp .ge 15, 3) := by decide +kernel
theorem dX11_copy_8 : decode cX11_copy 8 = .ok (.aload_n 1, 1) := by decide +kernel
theorem dX11_copy_9 : decode cX11_copy 9 = .ok (.iload_n 2, 1) := by decide +kernel
theorem dX11_copy_10 : decode cX11_copy 10 = .ok (.aload_n 0, 1) := by decide +kernel
theorem dX11_copy_11 : decode cX11_copy 11 = .ok (.iload_n 2, 1) := by decide +kernel
theorem dX11_copy_12 : decode cX11_copy 12 = .ok (.iaload, 1) := by decide +kernel
theorem dX11_copy_13 : decode cX11_copy 13 = .ok (.iastore, 1) := by decide +kernel
theorem dX11_copy_14 : decode cX11_copy 14 = .ok (.iinc 2 1, 3) := by decide +kernel
theorem dX11_copy_17 : decode cX11_copy 17 = .ok (.goto (-15), 3) := by decide +kernel
theorem dX11_copy_20 : decode cX11_copy 20 = .ok (.return_, 1) := by decide +kernel
theorem dX11_image_0 : decode cX11_image 0 = .ok (.aload_n 0, 1) := by decide +kernel
theorem dX11_image_1 : decode cX11_image 1 = .ok (.invokevirtual 145, 3) := by decide +kernel
theorem dX11_image_4 : decode cX11_image 4 = .ok (.ifCond .eq 6, 3) := by decide +kernel
theorem dX11_image_7 : decode cX11_image 7 = .ok (.bipush (-103), 2) := by decide +kernel
theorem dX11_image_9 : decode cX11_image 9 = .ok (.ireturn, 1) := by decide +kernel
theorem dX11_image_10 : decode cX11_image 10 = .ok (.aload_n 0, 1) := by decide +kernel
theorem dX11_image_11 : decode cX11_image 11 = .ok (.getfield 25, 3) := by decide +kernel
theorem dX11_image_14 : decode cX11_image 14 = .ok (.aload_n 0, 1) := by decide +kernel
theorem dX11_image_15 : decode cX11_image 15 = .ok (.getfield 56, 3) := by decide +kernel
theorem dX11_image_18 : decode cX11_image 18 = .ok (.invokestatic 293, 3) := by decide +kernel
theorem dX11_image_21 : decode cX11_image 21 = .ok (.aload_n 0, 1) := by decide +kernel
theorem dX11_image_22 : decode cX11_image 22 = .ok (.getfield 35, 3) := by decide +kernel
theorem dX11_image_25 : decode cX11_image 25 = .ok (.aload_n 0, 1) := by decide +kernel
theorem dX11_image_26 : decode cX11_image 26 = .ok (.getfield 59, 3) := by decide +kernel
theorem dX11_image_29 : decode cX11_image 29 = .ok (.invokestatic 293, 3) := by decide +kernel
theorem dX11_image_32 : decode cX11_image 32 = .ok (.aload_n 0, 1) := by decide +kernel
theorem dX11_image_33 : decode cX11_image 33 = .ok (.getfield 47, 3) := by decide +kernel
theorem dX11_image_36 : decode cX11_image 36 = .ok (.aload_n 0, 1) := by decide +kernel
theorem dX11_image_37 : decode cX11_image 37 = .ok (.getfield 62, 3) := by decide +kernel
theorem dX11_image_40 : decode cX11_image 40 = .ok (.invokestatic 293, 3) := by decide +kernel
theorem dX11_image_43 : decode cX11_image 43 = .ok (.aload_n 0, 1) := by decide +kernel
theorem dX11_image_44 : decode cX11_image 44 = .ok (.getfield 53, 3) := by decide +kernel
theorem dX11_image_47 : decode cX11_image 47 = .ok (.aload_n 0, 1) := by decide +kernel
theorem dX11_image_48 : decode cX11_image 48 = .ok (.getfield 65, 3) := by decide +kernel
theorem dX11_image_51 : decode cX11_image 51 = .ok (.invokestatic 293, 3) := by decide +kernel
theorem dX11_image_54 : decode cX11_image 54 = .ok (.aload_n 0, 1) := by decide +kernel
theorem dX11_image_55 : decode cX11_image 55 = .ok (.aload_n 0, 1) := by decide +kernel
theorem dX11_image_56 : decode cX11_image 56 = .ok (.getfield 115, 3) := by decide +kernel
theorem dX11_image_59 : decode cX11_image 59 = .ok (.putfield 297, 3) := by decide +kernel
theorem dX11_image_62 : decode cX11_image 62 = .ok (.aload_n 0, 1) := by decide +kernel
theorem dX11_image_63 : decode cX11_image 63 = .ok (.aload_n 0, 1) := by decide +kernel
theorem dX11_image_64 : decode cX11_image 64 = .ok (.getfield 118, 3) := by decide +kernel
theorem dX11_image_67 : decode cX11_image 67 = .ok (.putfield 300, 3) := by decide +kernel
theorem dX11_image_70 : decode cX11_image 70 = .ok (.aload_n 0, 1) := by decide +kernel
theorem dX11_image_71 : decode cX11_image 71 = .ok (.aload_n 0, 1) := by decide +kernel
theorem dX11_image_72 : decode cX11_image 72 = .ok (.getfield 121, 3) := by decide +kernel
theorem dX11_image_75 : decode cX11_image 75 = .ok (.putfield 303, 3) := by decide +kernel
theorem dX11_image_78 : decode cX11_image 78 = .ok (.aload_n 0, 1) := by decide +kernel
theorem dX11_image_79 : decode cX11_image 79 = .ok (.aload_n 0, 1) := by decide +kernel
theorem dX11_image_80 : decode cX11_image 80 = .ok (.getfield 72, 3) := by decide +kernel
theorem dX11_image_83 : decode cX11_image 83 = .ok (.putfield 306, 3) := by decide +kernel
theorem dX11_image_86 : decode cX11_image 86 = .ok (.aload_n 0, 1) := by decide +kernel
theorem dX11_image_87 : decode cX11_image 87 = .ok (.aload_n 0, 1) := by decide +kernel
theorem dX11_image_88 : decode cX11_image 88 = .ok (.getfield 130, 3) := by decide +kernel
theorem dX11_image_91 : decode cX11_image 91 = .ok (.putfield 309, 3) := by decide +kernel
theorem dX11_image_94 : decode cX11_image 94 = .ok (.aload_n 0, 1) := by decide +kernel
theorem dX11_image_95 : decode cX11_image 95 = .ok (.aload_n 0, 1) := by decide +kernel
theorem dX11_image_96 : decode cX11_image 96 = .ok (.getfield 133, 3) := by decide +kernel
theorem dX11_image_99 : decode cX11_image 99 = .ok (.putfield 312, 3) := by decide +kernel
theorem dX11_image_102 : decode cX11_image 102 = .ok (.aload_n 0, 1) := by decide +kernel
theorem dX11_image_103 : decode cX11_image 103 = .ok (.aload_n 0, 1) := by decide +kernel
theorem dX11_image_104 : decode cX11_image 104 = .ok (.getfield 124, 3) := by decide +kernel
theorem dX11_image_107 : decode cX11_image 107 = .ok (.putfield 315, 3) := by decide +kernel
theorem dX11_image_110 : decode cX11_image 110 = .ok (.aload_n 0, 1) := by decide +kernel
theorem dX11_image_111 : decode cX11_image 111 = .ok (.aload_n 0, 1) := by decide +kernel
theorem dX11_image_112 : decode cX11_image 112 = .ok (.getfield 127, 3) := by decide +kernel
theorem dX11_image_115 : decode cX11_image 115 = .ok (.putfield 318, 3) := by decide +kernel
theorem dX11_image_118 : decode cX11_image 118 = .ok (.aload_n 0, 1) := by decide +kernel
theorem dX11_image_119 : decode cX11_image 119 = .ok (.aload_n 0, 1) := by decide +kernel
theorem dX11_image_120 : decode cX11_image 120 = .ok (.getfield 136, 3) := by decide +kernel
theorem dX11_image_123 : decode cX11_image 123 = .ok (.putfield 68, 3) := by decide +kernel
theorem dX11_image_126 : decode cX11_image 126 = .ok (.aload_n 0, 1) := by decide +kernel
theorem dX11_image_127 : decode cX11_image 127 = .ok (.getfield 115, 3) := by decide +kernel
theorem dX11_image_130 : decode cX11_image 130 = .ok (.ireturn, 1) := by decide +kernel
theorem dX11_restore_0 : decode cX11_restore 0 = .ok (.aload_n 0, 1) := by decide +kernel
theorem dX11_restore_1 : decode cX11_restore 1 = .ok (.getfield 68, 3) := by decide +kernel
theorem dX11_restore_4 : decode cX11_restore 4 = .ok (.aload_n 0, 1) := by decide +kernel
theorem dX11_restore_5 : decode cX11_restore 5 = .ok (.getfield 136, 3) := by decide +kernel
theorem dX11_restore_8 : decode cX11_restore 8 = .ok (.if_icmp .ne 25, 3) := by decide +kernel
theorem dX11_restore_11 : decode cX11_restore 11 = .ok (.aload_n 0, 1) := by decide +kernel
theorem dX11_restore_12 : decode cX11_restore 12 = .ok (.getfield 315, 3) := by decide +kernel
theorem dX11_restore_15 : decode cX11_restore 15 = .ok (.aload_n 0, 1) := by decide +kernel
theorem dX11_restore_16 : decode cX11_restore 16 = .ok (.getfield 124, 3) := by decide +kernel
theorem dX11_restore_19 : decode cX11_restore 19 = .ok (.if_icmp .ne 14, 3) := by decide +kernel
theorem dX11_restore_22 : decode cX11_restore 22 = .ok (.aload_n 0, 1) := by decide +kernel
theorem dX11_restore_23 : decode cX11_restore 23 = .ok (.getfield 318, 3) := by decide +kernel
theorem dX11_restore_26 : decode cX11_restore 26 = .ok (.aload_n 0, 1) := by decide +kernel
theorem dX11_restore_27 : decode cX11_restore 27 = .ok (.getfield 127, 3) := by decide +kernel
theorem dX11_restore_30 : decode cX11_restore 30 = .ok (.if_icmp .eq 6, 3) := by decide +kernel
theorem dX11_restore_33 : decode cX11_restore 33 = .ok (.bipush (-103), 2) := by decide +kernel
theorem dX11_restore_35 : decode cX11_restore 35 = .ok (.ireturn, 1) := by decide +kernel
theorem dX11_restore_36 : decode cX11_restore 36 = .ok (.aload_n 0, 1) := by decide +kernel
theorem dX11_restore_37 : decode cX11_restore 37 = .ok (.getfield 56, 3) := by decide +kernel
theorem dX11_restore_40 : decode cX11_restore 40 = .ok (.aload_n 0, 1) := by decide +kernel
theorem dX11_restore_41 : decode cX11_restore 41 = .ok (.getfield 25, 3) := by decide +kernel
theorem dX11_restore_44 : decode cX11_restore 44 = .ok (.invokestatic 293, 3) := by decide +kernel
theorem dX11_restore_47 : decode cX11_restore 47 = .ok (.aload_n 0, 1) := by decide +kernel
theorem dX11_restore_48 : decode cX11_restore 48 = .ok (.getfield 59, 3) := by decide +kernel
theorem dX11_restore_51 : decode cX11_restore 51 = .ok (.aload_n 0, 1) := by decide +kernel
theorem dX11_restore_52 : decode cX11_restore 52 = .ok (.getfield 35, 3) := by decide +kernel
theorem dX11_restore_55 : decode cX11_restore 55 = .ok (.invokestatic 293, 3) := by decide +kernel
theorem dX11_restore_58 : decode cX11_restore 58 = .ok (.aload_n 0, 1) := by decide +kernel
theorem dX11_restore_59 : decode cX11_restore 59 = .ok (.getfield 62, 3) := by decide +kernel
theorem dX11_restore_62 : decode cX11_restore 62 = .ok (.aload_n 0, 1) := by decide +kernel
theorem dX11_restore_63 : decode cX11_restore 63 = .ok (.getfield 47, 3) := by decide +kernel
theorem dX11_restore_66 : decode cX11_restore 66 = .ok (.invokestatic 293, 3) := by decide +kernel
theorem dX11_restore_69 : decode cX11_restore 69 = .ok (.aload_n 0, 1) := by decide +kernel
theorem dX11_restore_70 : decode cX11_restore 70 = .ok (.getfield 65, 3) := by decide +kernel
theorem dX11_restore_73 : decode cX11_restore 73 = .ok (.aload_n 0, 1) := by decide +kernel
theorem dX11_restore_74 : decode cX11_restore 74 = .ok (.getfield 53, 3) := by decide +kernel
theorem dX11_restore_77 : decode cX11_restore 77 = .ok (.invokestatic 293, 3) := by decide +kernel
theorem dX11_restore_80 : decode cX11_restore 80 = .ok (.aload_n 0, 1) := by decide +kernel
theorem dX11_restore_81 : decode cX11_restore 81 = .ok (.aload_n 0, 1) := by decide +kernel
theorem dX11_restore_82 : decode cX11_restore 82 = .ok (.getfield 297, 3) := by decide +kernel
theorem dX11_restore_85 : decode cX11_restore 85 = .ok (.putfield 115, 3) := by decide +kernel
theorem dX11_restore_88 : decode cX11_restore 88 = .ok (.aload_n 0, 1) := by decide +kernel
theorem dX11_restore_89 : decode cX11_restore 89 = .ok (.aload_n 0, 1) := by decide +kernel
theorem dX11_restore_90 : decode cX11_restore 90 = .ok (.getfield 300, 3) := by decide +kernel
theorem dX11_restore_93 : decode cX11_restore 93 = .ok (.putfield 118, 3) := by decide +kernel
theorem dX11_restore_96 : decode cX11_restore 96 = .ok (.aload_n 0, 1) := by decide +kernel
theorem dX11_restore_97 : decode cX11_restore 97 = .ok (.aload_n 0, 1) := by decide +kernel
theorem dX11_restore_98 : decode cX11_restore 98 = .ok (.getfield 303, 3) := by decide +kernel
theorem dX11_restore_101 : decode cX11_restore 101 = .ok (.putfield 121, 3) := by decide +kernel
theorem dX11_restore_104 : decode cX11_restore 104 = .ok (.aload_n 0, 1) := by decide +kernel
theorem dX11_restore_105 : decode cX11_restore 105 = .ok (.aload_n 0, 1) := by decide +kernel
theorem dX11_restore_106 : decode cX11_restore 106 = .ok (.getfield 306, 3) := by decide +kernel
theorem dX11_restore_109 : decode cX11_restore 109 = .ok (.putfield 72, 3) := by decide +kernel
theorem dX11_restore_112 : decode cX11_restore 112 = .ok (.aload_n 0, 1) := by decide +kernel
theorem dX11_restore_113 : decode cX11_restore 113 = .ok (.aload_n 0, 1) := by decide +kernel
theorem dX11_restore_114 : decode cX11_restore 114 = .ok (.getfield 309, 3) := by decide +kernel
theorem dX11_restore_117 : decode cX11_restore 117 = .ok (.putfield 130, 3) := by decide +kernel
theorem dX11_restore_120 : decode cX11_restore 120 = .ok (.aload_n 0, 1) := by decide +kernel
theorem dX11_restore_121 : decode cX11_restore 121 = .ok (.aload_n 0, 1) := by decide +kernel
theorem dX11_restore_122 : decode cX11_restore 122 = .ok (.getfield 312, 3) := by decide +kernel
theorem dX11_restore_125 : decode cX11_restore 125 = .ok (.putfield 133, 3) := by decide +kernel
theorem dX11_restore_128 : decode cX11_restore 128 = .ok (.aload_n 0, 1) := by decide +kernel
theorem dX11_restore_129 : decode cX11_restore 129 = .ok (.getfield 115, 3) := by decide +kernel
theorem dX11_restore_132 : decode cX11_restore 132 = .ok (.ireturn, 1) := by decide +kernel
theorem dX11_countOf_0 : decode cX11_countOf 0 = .ok (.iload_n 1, 1) := by decide +kernel
theorem dX11_countOf_1 : decode cX11_countOf 1 = .ok (.tableswitch 152 0 13 #[71, 76, 89, 94, 102, 107, 112, 117, 122, 127, 132, 137, 142, 147], 71) := by decide +kernel
theorem dX11_countOf_72 : decode cX11_countOf 72 = .ok (.aload_n 0, 1) := by decide +kernel
theorem dX11_countOf_73 : decode cX11_countOf 73 = .ok (.getfield 124, 3) := by decide +kernel
theorem dX11_countOf_76 : decode cX11_countOf 76 = .ok (.ireturn, 1) := by decide +kernel
theorem dX11_countOf_77 : decode cX11_countOf 77 = .ok (.aload_n 0, 1) := by decide +kernel
theorem dX11_countOf_78 : decode cX11_countOf 78 = .ok (.getfield 124, 3) := by decide +kernel
theorem dX11_countOf_81 : decode cX11_countOf 81 = .ok (.aload_n 0, 1) := by decide +kernel
theorem dX11_countOf_82 : decode cX11_countOf 82 = .ok (.invokevirtual 192, 3) := by decide +kernel
theorem dX11_countOf_85 : decode cX11_countOf 85 = .ok (.invokestatic 238, 3) := by decide +kernel
theorem dX11_countOf_88 : decode cX11_countOf 88 = .ok (.isub, 1) := by decide +kernel
theorem dX11_countOf_89 : decode cX11_countOf 89 = .ok (.ireturn, 1) := by decide +kernel
theorem dX11_countOf_90 : decode cX11_countOf 90 = .ok (.aload_n 0, 1) := by decide +kernel
theorem dX11_countOf_91 : decode cX11_countOf 91 = .ok (.getfield 127, 3) := by decide +kernel
theorem dX11_countOf_94 : decode cX11_countOf 94 = .ok (.ireturn, 1) := by decide +kernel
theorem dX11_countOf_95 : decode cX11_countOf 95 = .ok (.aload_n 0, 1) := by decide +kernel
theorem dX11_countOf_96 : decode cX11_countOf 96 = .ok (.invokevirtual 216, 3) := by decide +kernel
theorem dX11_countOf_99 : decode cX11_countOf 99 = .ok (.invokestatic 238, 3) := by decide +kernel
theorem dX11_countOf_102 : decode cX11_countOf 102 = .ok (.ireturn, 1) := by decide +kernel
theorem dX11_countOf_103 : decode cX11_countOf 103 = .ok (.aload_n 0, 1) := by decide +kernel
theorem dX11_countOf_104 : decode cX11_countOf 104 = .ok (.getfield 115, 3) := by decide +kernel
theorem dX11_countOf_107 : decode cX11_countOf 107 = .ok (.ireturn, 1) := by decide +kernel
theorem dX11_countOf_108 : decode cX11_countOf 108 = .ok (.aload_n 0, 1) := by decide +kernel
theorem dX11_countOf_109 : decode cX11_countOf 109 = .ok (.getfield 118, 3) := by decide +kernel
theorem dX11_countOf_112 : decode cX11_countOf 112 = .ok (.ireturn, 1) := by decide +kernel
theorem dX11_countOf_113 : decode cX11_countOf 113 = .ok (.aload_n 0, 1) := by decide +kernel
theorem dX11_countOf_114 : decode cX11_countOf 114 = .ok (.getfield 121, 3) := by decide +kernel
theorem dX11_countOf_117 : decode cX11_countOf 117 = .ok (.ireturn, 1) := by decide +kernel
theorem dX11_countOf_118 : decode cX11_countOf 118 = .ok (.aload_n 0, 1) := by decide +kernel
theorem dX11_countOf_119 : decode cX11_countOf 119 = .ok (.getfield 106, 3) := by decide +kernel
theorem dX11_countOf_122 : decode cX11_countOf 122 = .ok (.ireturn, 1) := by decide +kernel
theorem dX11_countOf_123 : decode cX11_countOf 123 = .ok (.aload_n 0, 1) := by decide +kernel
theorem dX11_countOf_124 : decode cX11_countOf 124 = .ok (.getfield 72, 3) := by decide +kernel
theorem dX11_countOf_127 : decode cX11_countOf 127 = .ok (.ireturn, 1) := by decide +kernel
theorem dX11_countOf_128 : decode cX11_countOf 128 = .ok (.aload_n 0, 1) := by decide +kernel
theorem dX11_countOf_129 : decode cX11_countOf 129 = .ok (.getfield 130, 3) := by decide +kernel
theorem dX11_countOf_132 : decode cX11_countOf 132 = .ok (.ireturn, 1) := by decide +kernel
theorem dX11_countOf_133 : decode cX11_countOf 133 = .ok (.aload_n 0, 1) := by decide +kernel
theorem dX11_countOf_134 : decode cX11_countOf 134 = .ok (.getfield 133, 3) := by decide +kernel
theorem dX11_countOf_137 : decode cX11_countOf 137 = .ok (.ireturn, 1) := by decide +kernel
theorem dX11_countOf_138 : decode cX11_countOf 138 = .ok (.aload_n 0, 1) := by decide +kernel
theorem dX11_countOf_139 : decode cX11_countOf 139 = .ok (.getfield 81, 3) := by decide +kernel
theorem dX11_countOf_142 : decode cX11_countOf 142 = .ok (.ireturn, 1) := by decide +kernel
theorem dX11_countOf_143 : decode cX11_countOf 143 = .ok (.aload_n 0, 1) := by decide +kernel
theorem dX11_countOf_144 : decode cX11_countOf 144 = .ok (.getfield 136, 3) := by decide +kernel
theorem dX11_countOf_147 : decode cX11_countOf 147 = .ok (.ireturn, 1) := by decide +kernel
theorem dX11_countOf_148 : decode cX11_countOf 148 = .ok (.aload_n 0, 1) := by decide +kernel
theorem dX11_countOf_149 : decode cX11_countOf 149 = .ok (.getfield 251, 3) := by decide +kernel
theorem dX11_countOf_152 : decode cX11_countOf 152 = .ok (.ireturn, 1) := by decide +kernel
theorem dX11_countOf_153 : decode cX11_countOf 153 = .ok (.bipush (-102), 2) := by decide +kernel
theorem dX11_countOf_155 : decode cX11_countOf 155 = .ok (.ireturn, 1) := by decide +kernel
theorem dX11_count_0 : decode cX11_count 0 = .ok (.aload_n 0, 1) := by decide +kernel
theorem dX11_count_1 : decode cX11_count 1 = .ok (.iload_n 1, 1) := by decide +kernel
theorem dX11_count_2 : decode cX11_count 2 = .ok (.invokevirtual 321, 3) := by decide +kernel
theorem dX11_count_5 : decode cX11_count 5 = .ok (.ireturn, 1) := by decide +kernel
theorem dX11_say_0 : decode cX11_say 0 = .ok (.aload_n 0, 1) := by decide +kernel
theorem dX11_say_1 : decode cX11_say 1 = .ok (.ldc2_w 324, 3) := by decide +kernel
theorem dX11_say_4 : decode cX11_say 4 = .ok (.aload_n 0, 1) := by decide +kernel
theorem dX11_say_5 : decode cX11_say 5 = .ok (.getfield 326, 3) := by decide +kernel
theorem dX11_say_8 : decode cX11_say 8 = .ok (.lmul, 1) := by decide +kernel
theorem dX11_say_9 : decode cX11_say 9 = .ok (.lload_n 1, 1) := by decide +kernel
theorem dX11_say_10 : decode cX11_say 10 = .ok (.ladd, 1) := by decide +kernel
theorem dX11_say_11 : decode cX11_say 11 = .ok (.putfield 326, 3) := by decide +kernel
theorem dX11_say_14 : decode cX11_say 14 = .ok (.return_, 1) := by decide +kernel
theorem dX11_digest_0 : decode cX11_digest 0 = .ok (.aload_n 0, 1) := by decide +kernel
theorem dX11_digest_1 : decode cX11_digest 1 = .ok (.ldc2_w 330, 3) := by decide +kernel
theorem dX11_digest_4 : decode cX11_digest 4 = .ok (.putfield 326, 3) := by decide +kernel
theorem dX11_digest_7 : decode cX11_digest 7 = .ok (.iconst 0, 1) := by decide +kernel
theorem dX11_digest_8 : decode cX11_digest 8 = .ok (.istore_n 1, 1) := by decide +kernel
theorem dX11_digest_9 : decode cX11_digest 9 = .ok (.iload_n 1, 1) := by decide +kernel
theorem dX11_digest_10 : decode cX11_digest 10 = .ok (.bipush 20, 2) := by decide +kernel
theorem dX11_digest_12 : decode cX11_digest 12 = .ok (.if_icmp .ge 37, 3) := by decide +kernel
theorem dX11_digest_15 : decode cX11_digest 15 = .ok (.aload_n 0, 1) := by decide +kernel
theorem dX11_digest_16 : decode cX11_digest 16 = .ok (.invokevirtual 145, 3) := by decide +kernel
theorem dX11_digest_19 : decode cX11_digest 19 = .ok (.ifCond .ne 30, 3) := by decide +kernel
theorem dX11_digest_22 : decode cX11_digest 22 = .ok (.iload_n 1, 1) := by decide +kernel
theorem dX11_digest_23 : decode cX11_digest 23 = .ok (.iconst 5, 1) := by decide +kernel
theorem dX11_digest_24 : decode cX11_digest 24 = .ok (.if_icmp .lt 9, 3) := by decide +kernel
theorem dX11_digest_27 : decode cX11_digest 27 = .ok (.iload_n 1, 1) := by decide +kernel
theorem dX11_digest_28 : decode cX11_digest 28 = .ok (.bipush 9, 2) := by decide +kernel
theorem dX11_digest_30 : decode cX11_digest 30 = .ok (.if_icmp .le 13, 3) := by decide +kernel
theorem dX11_digest_33 : decode cX11_digest 33 = .ok (.aload_n 0, 1) := by decide +kernel
theorem dX11_digest_34 : decode cX11_digest 34 = .ok (.aload_n 0, 1) := by decide +kernel
theorem dX11_digest_35 : decode cX11_digest 35 = .ok (.iload_n 1, 1) := by decide +kernel
theorem dX11_digest_36 : decode cX11_digest 36 = .ok (.invokevirtual 149, 3) := by decide +kernel
theorem dX11_digest_39 : decode cX11_digest 39 = .ok (.i2l, 1) := by decide +kernel
theorem dX11_digest_40 : decode cX11_digest 40 = .ok (.invokevirtual 332, 3) := by decide +kernel
theorem dX11_digest_43 : decode cX11_digest 43 = .ok (.iinc 1 1, 3) := by decide +kernel
theorem dX11_digest_46 : decode cX11_digest 46 = .ok (.goto (-37), 3) := by decide +kernel
theorem dX11_digest_49 : decode cX11_digest 49 = .ok (.iconst 0, 1) := by decide +kernel
theorem dX11_digest_50 : decode cX11_digest 50 = .ok (.istore_n 1, 1) := by decide +kernel
theorem dX11_digest_51 : decode cX11_digest 51 = .ok (.iload_n 1, 1) := by decide +kernel
theorem dX11_digest_52 : decode cX11_digest 52 = .ok (.aload_n 0, 1) := by decide +kernel
theorem dX11_digest_53 : decode cX11_digest 53 = .ok (.getfield 124, 3) := by decide +kernel
theorem dX11_digest_56 : decode cX11_digest 56 = .ok (.if_icmp .ge 45, 3) := by decide +kernel
theorem dX11_digest_59 : decode cX11_digest 59 = .ok (.aload_n 0, 1) := by decide +kernel
theorem dX11_digest_60 : decode cX11_digest 60 = .ok (.aload_n 0, 1) := by decide +kernel
theorem dX11_digest_61 : decode cX11_digest 61 = .ok (.iload_n 1, 1) := by decide +kernel
theorem dX11_digest_62 : decode cX11_digest 62 = .ok (.iconst 0, 1) := by decide +kernel
theorem dX11_digest_63 : decode cX11_digest 63 = .ok (.invokevirtual 175, 3) := by decide +kernel
theorem dX11_digest_66 : decode cX11_digest 66 = .ok (.i2l, 1) := by decide +kernel
theorem dX11_digest_67 : decode cX11_digest 67 = .ok (.ldc2_w 141, 3) := by decide +kernel
theorem dX11_digest_70 : decode cX11_digest 70 = .ok (.iconst 0, 1) := by decide +kernel
theorem dX11_digest_71 : decode cX11_digest 71 = .ok (.invokestatic 179, 3) := by decide +kernel
theorem dX11_digest_74 : decode cX11_digest 74 = .ok (.invokevirtual 332, 3) := by decide +kernel
theorem dX11_digest_77 : decode cX11_digest 77 = .ok (.aload_n 0, 1) := by decide +kernel
theorem dX11_digest_78 : decode cX11_digest 78 = .ok (.aload_n 0, 1) := by decide +kernel
theorem dX11_digest_79 : decode cX11_digest 79 = .ok (.iload_n 1, 1) := by decide +kernel
theorem dX11_digest_80 : decode cX11_digest 80 = .ok (.iconst 0, 1) := by decide +kernel
theorem dX11_digest_81 : decode cX11_digest 81 = .ok (.invokevirtual 175, 3) := by decide +kernel
theorem dX11_digest_84 : decode cX11_digest 84 = .ok (.i2l, 1) := by decide +kernel
theorem dX11_digest_85 : decode cX11_digest 85 = .ok (.ldc2_w 141, 3) := by decide +kernel
theorem dX11_digest_88 : decode cX11_digest 88 = .ok (.iconst 1, 1) := by decide +kernel
theorem dX11_digest_89 : decode cX11_digest 89 = .ok (.invokestatic 179, 3) := by decide +kernel
theorem dX11_digest_92 : decode cX11_digest 92 = .ok (.invokevirtual 332, 3) := by decide +kernel
theorem dX11_digest_95 : decode cX11_digest 95 = .ok (.iinc 1 1, 3) := by decide +kernel
theorem dX11_digest_98 : decode cX11_digest 98 = .ok (.goto (-47), 3) := by decide +kernel
theorem dX11_digest_101 : decode cX11_digest 101 = .ok (.iconst 0, 1) := by decide +kernel
theorem dX11_digest_102 : decode cX11_digest 102 = .ok (.istore_n 1, 1) := by decide +kernel
theorem dX11_digest_103 : decode cX11_digest 103 = .ok (.iload_n 1, 1) := by decide +kernel
theorem dX11_digest_104 : decode cX11_digest 104 = .ok (.aload_n 0, 1) := by decide +kernel
theorem dX11_digest_105 : decode cX11_digest 105 = .ok (.getfield 127, 3) := by decide +kernel
theorem dX11_digest_108 : decode cX11_digest 108 = .ok (.if_icmp .ge 34, 3) := by decide +kernel
theorem dX11_digest_111 : decode cX11_digest 111 = .ok (.iconst 0, 1) := by decide +kernel
theorem dX11_digest_112 : decode cX11_digest 112 = .ok (.istore_n 2, 1) := by decide +kernel
theorem dX11_digest_113 : decode cX11_digest 113 = .ok (.iload_n 2, 1) := by decide +kernel
theorem dX11_digest_114 : decode cX11_digest 114 = .ok (.bipush 7, 2) := by decide +kernel
theorem dX11_digest_116 : decode cX11_digest 116 = .ok (.if_icmp .ge 20, 3) := by decide +kernel
theorem dX11_digest_119 : decode cX11_digest 119 = .ok (.aload_n 0, 1) := by decide +kernel
theorem dX11_digest_120 : decode cX11_digest 120 = .ok (.aload_n 0, 1) := by decide +kernel
theorem dX11_digest_121 : decode cX11_digest 121 = .ok (.iload_n 1, 1) := by decide +kernel
theorem dX11_digest_122 : decode cX11_digest 122 = .ok (.iload_n 2, 1) := by decide +kernel
theorem dX11_digest_123 : decode cX11_digest 123 = .ok (.invokevirtual 231, 3) := by decide +kernel
theorem dX11_digest_126 : decode cX11_digest 126 = .ok (.i2l, 1) := by decide +kernel
theorem dX11_digest_127 : decode cX11_digest 127 = .ok (.invokevirtual 332, 3) := by decide +kernel
theorem dX11_digest_130 : decode cX11_digest 130 = .ok (.iinc 2 1, 3) := by decide +kernel
theorem dX11_digest_133 : decode cX11_digest 133 = .ok (.goto (-20), 3) := by decide +kernel
theorem dX11_digest_136 : decode cX11_digest 136 = .ok (.iinc 1 1, 3) := by decide +kernel
theorem dX11_digest_139 : decode cX11_digest 139 = .ok (.goto (-36), 3) := by decide +kernel
theorem dX11_digest_142 : decode cX11_digest 142 = .ok (.aload_n 0, 1) := by decide +kernel
theorem dX11_digest_143 : decode cX11_digest 143 = .ok (.aload_n 0, 1) := by decide +kernel
theorem dX11_digest_144 : decode cX11_digest 144 = .ok (.invokevirtual 270, 3) := by decide +kernel
theorem dX11_digest_147 : decode cX11_digest 147 = .ok (.i2l, 1) := by decide +kernel
theorem dX11_digest_148 : decode cX11_digest 148 = .ok (.invokevirtual 332, 3) := by decide +kernel
theorem dX11_digest_151 : decode cX11_digest 151 = .ok (.aload_n 0, 1) := by decide +kernel
theorem dX11_digest_152 : decode cX11_digest 152 = .ok (.getfield 133, 3) := by decide +kernel
theorem dX11_digest_155 : decode cX11_digest 155 = .ok (.ifCond .le 27, 3) := by decide +kernel
theorem dX11_digest_158 : decode cX11_digest 158 = .ok (.aload_n 0, 1) := by decide +kernel
theorem dX11_digest_159 : decode cX11_digest 159 = .ok (.aload_n 0, 1) := by decide +kernel
theorem dX11_digest_160 : decode cX11_digest 160 = .ok (.bipush 10, 2) := by decide +kernel
theorem dX11_digest_162 : decode cX11_digest 162 = .ok (.iconst 0, 1) := by decide +kernel
theorem dX11_digest_163 : decode cX11_digest 163 = .ok (.invokevirtual 275, 3) := by decide +kernel
theorem dX11_digest_166 : decode cX11_digest 166 = .ok (.i2l, 1) := by decide +kernel
theorem dX11_digest_167 : decode cX11_digest 167 = .ok (.invokevirtual 332, 3) := by decide +kernel
theorem dX11_digest_170 : decode cX11_digest 170 = .ok (.aload_n 0, 1) := by decide +kernel
theorem dX11_digest_171 : decode cX11_digest 171 = .ok (.aload_n 0, 1) := by decide +kernel
theorem dX11_digest_172 : decode cX11_digest 172 = .ok (.bipush 10, 2) := by decide +kernel
theorem dX11_digest_174 : decode cX11_digest 174 = .ok (.iconst 1, 1) := by decide +kernel
theorem dX11_digest_175 : decode cX11_digest 175 = .ok (.invokevirtual 275, 3) := by decide +kernel
theorem dX11_digest_178 : decode cX11_digest 178 = .ok (.i2l, 1) := by decide +kernel
theorem dX11_digest_179 : decode cX11_digest 179 = .ok (.invokevirtual 332, 3) := by decide +kernel
theorem dX11_digest_182 : decode cX11_digest 182 = .ok (.iconst 0, 1) := by decide +kernel
theorem dX11_digest_183 : decode cX11_digest 183 = .ok (.istore_n 1, 1) := by decide +kernel
theorem dX11_digest_184 : decode cX11_digest 184 = .ok (.iload_n 1, 1) := by decide +kernel
theorem dX11_digest_185 : decode cX11_digest 185 = .ok (.aload_n 0, 1) := by decide +kernel
theorem dX11_digest_186 : decode cX11_digest 186 = .ok (.getfield 81, 3) := by decide +kernel
theorem dX11_digest_189 : decode cX11_digest 189 = .ok (.if_icmp .ge 20, 3) := by decide +kernel
theorem dX11_digest_192 : decode cX11_digest 192 = .ok (.aload_n 0, 1) := by decide +kernel
theorem dX11_digest_193 : decode cX11_digest 193 = .ok (.aload_n 0, 1) := by decide +kernel
theorem dX11_digest_194 : decode cX11_digest 194 = .ok (.getfield 7, 3) := by decide +kernel
theorem dX11_digest_197 : decode cX11_digest 197 = .ok (.iload_n 1, 1) := by decide +kernel
theorem dX11_digest_198 : decode cX11_digest 198 = .ok (.iaload, 1) := by decide +kernel
theorem dX11_digest_199 : decode cX11_digest 199 = .ok (.i2l, 1) := by decide +kernel
theorem dX11_digest_200 : decode cX11_digest 200 = .ok (.invokevirtual 332, 3) := by decide +kernel
theorem dX11_digest_203 : decode cX11_digest 203 = .ok (.iinc 1 1, 3) := by decide +kernel
theorem dX11_digest_206 : decode cX11_digest 206 = .ok (.goto (-22), 3) := by decide +kernel
theorem dX11_digest_209 : decode cX11_digest 209 = .ok (.iconst 0, 1) := by decide +kernel
theorem dX11_digest_210 : decode cX11_digest 210 = .ok (.istore_n 1, 1) := by decide +kernel
theorem dX11_digest_211 : decode cX11_digest 211 = .ok (.iload_n 1, 1) := by decide +kernel
theorem dX11_digest_212 : decode cX11_digest 212 = .ok (.bipush 14, 2) := by decide +kernel
theorem dX11_digest_214 : decode cX11_digest 214 = .ok (.if_icmp .ge 19, 3) := by decide +kernel
theorem dX11_digest_217 : decode cX11_digest 217 = .ok (.aload_n 0, 1) := by decide +kernel
theorem dX11_digest_218 : decode cX11_digest 218 = .ok (.aload_n 0, 1) := by decide +kernel
theorem dX11_digest_219 : decode cX11_digest 219 = .ok (.iload_n 1, 1) := by decide +kernel
theorem dX11_digest_220 : decode cX11_digest 220 = .ok (.invokevirtual 321, 3) := by decide +kernel
theorem dX11_digest_223 : decode cX11_digest 223 = .ok (.i2l, 1) := by decide +kernel
theorem dX11_digest_224 : decode cX11_digest 224 = .ok (.invokevirtual 332, 3) := by decide +kernel
theorem dX11_digest_227 : decode cX11_digest 227 = .ok (.iinc 1 1, 3) := by decide +kernel
theorem dX11_digest_230 : decode cX11_digest 230 = .ok (.goto (-19), 3) := by decide +kernel
theorem dX11_digest_233 : decode cX11_digest 233 = .ok (.aload_n 0, 1) := by decide +kernel
theorem dX11_digest_234 : decode cX11_digest 234 = .ok (.getfield 326, 3) := by decide +kernel
theorem dX11_digest_237 : decode cX11_digest 237 = .ok (.lreturn, 1) := by decide +kernel
theorem dJ6_bitCount_0f7a4_0 : decode cJ6_bitCount_0f7a4 0 = .ok (.iload_n 0, 1) := by decide +kernel
theorem dJ6_bitCount_0f7a4_1 : decode cJ6_bitCount_0f7a4 1 = .ok (.iload_n 0, 1) := by decide +kernel
theorem dJ6_bitCount_0f7a4_2 : decode cJ6_bitCount_0f7a4 2 = .ok (.iconst 1, 1) := by decide +kernel
theorem dJ6_bitCount_0f7a4_3 : decode cJ6_bitCount_0f7a4 3 = .ok (.iushr, 1) := by decide +kernel
theorem dJ6_bitCount_0f7a4_4 : decode cJ6_bitCount_0f7a4 4 = .ok (.ldc_w 265, 3) := by decide +kernel
theorem dJ6_bitCount_0f7a4_7 : decode cJ6_bitCount_0f7a4 7 = .ok (.iand, 1) := by decide +kernel
theorem dJ6_bitCount_0f7a4_8 : decode cJ6_bitCount_0f7a4 8 = .ok (.isub, 1) := by decide +kernel
theorem dJ6_bitCount_0f7a4_9 : decode cJ6_bitCount_0f7a4 9 = .ok (.istore_n 0, 1) := by decide +kernel
theorem dJ6_bitCount_0f7a4_10 : decode cJ6_bitCount_0f7a4 10 = .ok (.iload_n 0, 1) := by decide +kernel
theorem dJ6_bitCount_0f7a4_11 : decode cJ6_bitCount_0f7a4 11 = .ok (.ldc_w 266, 3) := by decide +kernel
theorem dJ6_bitCount_0f7a4_14 : decode cJ6_bitCount_0f7a4 14 = .ok (.iand, 1) := by decide +kernel
theorem dJ6_bitCount_0f7a4_15 : decode cJ6_bitCount_0f7a4 15 = .ok (.iload_n 0, 1) := by decide +kernel
theorem dJ6_bitCount_0f7a4_16 : decode cJ6_bitCount_0f7a4 16 = .ok (.iconst 2, 1) := by decide +kernel
theorem dJ6_bitCount_0f7a4_17 : decode cJ6_bitCount_0f7a4 17 = .ok (.iushr, 1) := by decide +kernel
theorem dJ6_bitCount_0f7a4_18 : decode cJ6_bitCount_0f7a4 18 = .ok (.ldc_w 266, 3) := by decide +kernel
theorem dJ6_bitCount_0f7a4_21 : decode cJ6_bitCount_0f7a4 21 = .ok (.iand, 1) := by decide +kernel
theorem dJ6_bitCount_0f7a4_22 : decode cJ6_bitCount_0f7a4 22 = .ok (.iadd, 1) := by decide +kernel
theorem dJ6_bitCount_0f7a4_23 : decode cJ6_bitCount_0f7a4 23 = .ok (.istore_n 0, 1) := by decide +kernel
theorem dJ6_bitCount_0f7a4_24 : decode cJ6_bitCount_0f7a4 24 = .ok (.iload_n 0, 1) := by decide +kernel
theorem dJ6_bitCount_0f7a4_25 : decode cJ6_bitCount_0f7a4 25 = .ok (.iload_n 0, 1) := by decide +kernel
theorem dJ6_bitCount_0f7a4_26 : decode cJ6_bitCount_0f7a4 26 = .ok (.iconst 4, 1) := by decide +kernel
theorem dJ6_bitCount_0f7a4_27 : decode cJ6_bitCount_0f7a4 27 = .ok (.iushr, 1) := by decide +kernel
theorem dJ6_bitCount_0f7a4_28 : decode cJ6_bitCount_0f7a4 28 = .ok (.iadd, 1) := by decide +kernel
theorem dJ6_bitCount_0f7a4_29 : decode cJ6_bitCount_0f7a4 29 = .ok (.ldc_w 267, 3) := by decide +kernel
theorem dJ6_bitCount_0f7a4_32 : decode cJ6_bitCount_0f7a4 32 = .ok (.iand, 1) := by decide +kernel
theorem dJ6_bitCount_0f7a4_33 : decode cJ6_bitCount_0f7a4 33 = .ok (.istore_n 0, 1) := by decide +kernel
theorem dJ6_bitCount_0f7a4_34 : decode cJ6_bitCount_0f7a4 34 = .ok (.iload_n 0, 1) := by decide +kernel
theorem dJ6_bitCount_0f7a4_35 : decode cJ6_bitCount_0f7a4 35 = .ok (.iload_n 0, 1) := by decide +kernel
theorem dJ6_bitCount_0f7a4_36 : decode cJ6_bitCount_0f7a4 36 = .ok (.bipush 8, 2) := by decide +kernel
theorem dJ6_bitCount_0f7a4_38 : decode cJ6_bitCount_0f7a4 38 = .ok (.iushr, 1) := by decide +kernel
theorem dJ6_bitCount_0f7a4_39 : decode cJ6_bitCount_0f7a4 39 = .ok (.iadd, 1) := by decide +kernel
theorem dJ6_bitCount_0f7a4_40 : decode cJ6_bitCount_0f7a4 40 = .ok (.istore_n 0, 1) := by decide +kernel
theorem dJ6_bitCount_0f7a4_41 : decode cJ6_bitCount_0f7a4 41 = .ok (.iload_n 0, 1) := by decide +kernel
theorem dJ6_bitCount_0f7a4_42 : decode cJ6_bitCount_0f7a4 42 = .ok (.iload_n 0, 1) := by decide +kernel
theorem dJ6_bitCount_0f7a4_43 : decode cJ6_bitCount_0f7a4 43 = .ok (.bipush 16, 2) := by decide +kernel
theorem dJ6_bitCount_0f7a4_45 : decode cJ6_bitCount_0f7a4 45 = .ok (.iushr, 1) := by decide +kernel
theorem dJ6_bitCount_0f7a4_46 : decode cJ6_bitCount_0f7a4 46 = .ok (.iadd, 1) := by decide +kernel
theorem dJ6_bitCount_0f7a4_47 : decode cJ6_bitCount_0f7a4 47 = .ok (.istore_n 0, 1) := by decide +kernel
theorem dJ6_bitCount_0f7a4_48 : decode cJ6_bitCount_0f7a4 48 = .ok (.iload_n 0, 1) := by decide +kernel
theorem dJ6_bitCount_0f7a4_49 : decode cJ6_bitCount_0f7a4 49 = .ok (.bipush 63, 2) := by decide +kernel
theorem dJ6_bitCount_0f7a4_51 : decode cJ6_bitCount_0f7a4 51 = .ok (.iand, 1) := by decide +kernel
theorem dJ6_bitCount_0f7a4_52 : decode cJ6_bitCount_0f7a4 52 = .ok (.ireturn, 1) := by decide +kernel
theorem dJ9_min_7cf53_0 : decode cJ9_min_7cf53 0 = .ok (.iload_n 0, 1) := by decide +kernel
theorem dJ9_min_7cf53_1 : decode cJ9_min_7cf53 1 = .ok (.iload_n 1, 1) := by decide +kernel
theorem dJ9_min_7cf53_2 : decode cJ9_min_7cf53 2 = .ok (.if_icmp .gt 7, 3) := by decide +kernel
theorem dJ9_min_7cf53_5 : decode cJ9_min_7cf53 5 = .ok (.iload_n 0, 1) := by decide +kernel
theorem dJ9_min_7cf53_6 : decode cJ9_min_7cf53 6 = .ok (.goto 4, 3) := by decide +kernel
theorem dJ9_min_7cf53_9 : decode cJ9_min_7cf53 9 = .ok (.iload_n 1, 1) := by decide +kernel
theorem dJ9_min_7cf53_10 : decode cJ9_min_7cf53 10 = .ok (.ireturn, 1) := by decide +kernel
theorem dJ7_fill_d0a16_0 : decode cJ7_fill_d0a16 0 = .ok (.iconst 0, 1) := by decide +kernel
theorem dJ7_fill_d0a16_1 : decode cJ7_fill_d0a16 1 = .ok (.istore_n 3, 1) := by decide +kernel
theorem dJ7_fill_d0a16_2 : decode cJ7_fill_d0a16 2 = .ok (.aload_n 0, 1) := by decide +kernel
theorem dJ7_fill_d0a16_3 : decode cJ7_fill_d0a16 3 = .ok (.arraylength, 1) := by decide +kernel
theorem dJ7_fill_d0a16_4 : decode cJ7_fill_d0a16 4 = .ok (.istore 4, 2) := by decide +kernel
theorem dJ7_fill_d0a16_6 : decode cJ7_fill_d0a16 6 = .ok (.iload_n 3, 1) := by decide +kernel
theorem dJ7_fill_d0a16_7 : decode cJ7_fill_d0a16 7 = .ok (.iload 4, 2) := by decide +kernel
theorem dJ7_fill_d0a16_9 : decode cJ7_fill_d0a16 9 = .ok (.if_icmp .ge 13, 3) := by decide +kernel
theorem dJ7_fill_d0a16_12 : decode cJ7_fill_d0a16 12 = .ok (.aload_n 0, 1) := by decide +kernel
theorem dJ7_fill_d0a16_13 : decode cJ7_fill_d0a16 13 = .ok (.iload_n 3, 1) := by decide +kernel
theorem dJ7_fill_d0a16_14 : decode cJ7_fill_d0a16 14 = .ok (.lload_n 1, 1) := by decide +kernel
theorem dJ7_fill_d0a16_15 : decode cJ7_fill_d0a16 15 = .ok (.lastore, 1) := by decide +kernel
theorem dJ7_fill_d0a16_16 : decode cJ7_fill_d0a16 16 = .ok (.iinc 3 1, 3) := by decide +kernel
theorem dJ7_fill_d0a16_19 : decode cJ7_fill_d0a16 19 = .ok (.goto (-13), 3) := by decide +kernel
theorem dJ7_fill_d0a16_22 : decode cJ7_fill_d0a16 22 = .ok (.return_, 1) := by decide +kernel
theorem dJ7_fill_53178_0 : decode cJ7_fill_53178 0 = .ok (.iconst 0, 1) := by decide +kernel
theorem dJ7_fill_53178_1 : decode cJ7_fill_53178 1 = .ok (.istore_n 2, 1) := by decide +kernel
theorem dJ7_fill_53178_2 : decode cJ7_fill_53178 2 = .ok (.aload_n 0, 1) := by decide +kernel
theorem dJ7_fill_53178_3 : decode cJ7_fill_53178 3 = .ok (.arraylength, 1) := by decide +kernel
theorem dJ7_fill_53178_4 : decode cJ7_fill_53178 4 = .ok (.istore_n 3, 1) := by decide +kernel
theorem dJ7_fill_53178_5 : decode cJ7_fill_53178 5 = .ok (.iload_n 2, 1) := by decide +kernel
theorem dJ7_fill_53178_6 : decode cJ7_fill_53178 6 = .ok (.iload_n 3, 1) := by decide +kernel
theorem dJ7_fill_53178_7 : decode cJ7_fill_53178 7 = .ok (.if_icmp .ge 13, 3) := by decide +kernel
theorem dJ7_fill_53178_10 : decode cJ7_fill_53178 10 = .ok (.aload_n 0, 1) := by decide +kernel
theorem dJ7_fill_53178_11 : decode cJ7_fill_53178 11 = .ok (.iload_n 2, 1) := by decide +kernel
theorem dJ7_fill_53178_12 : decode cJ7_fill_53178 12 = .ok (.iload_n 1, 1) := by decide +kernel
theorem dJ7_fill_53178_13 : decode cJ7_fill_53178 13 = .ok (.iastore, 1) := by decide +kernel
theorem dJ7_fill_53178_14 : decode cJ7_fill_53178 14 = .ok (.iinc 2 1, 3) := by decide +kernel
theorem dJ7_fill_53178_17 : decode cJ7_fill_53178 17 = .ok (.goto (-12), 3) := by decide +kernel
theorem dJ7_fill_53178_20 : decode cJ7_fill_53178 20 = .ok (.return_, 1) := by decide +kernel
theorem dL_law_0 : decode cL_law 0 = .ok (.new 7, 3) := by decide +kernel
theorem dL_law_3 : decode cL_law 3 = .ok (.dup, 1) := by decide +kernel
theorem dL_law_4 : decode cL_law 4 = .ok (.invokespecial 9, 3) := by decide +kernel
theorem dL_law_7 : decode cL_law 7 = .ok (.astore_n 1, 1) := by decide +kernel
theorem dL_law_8 : decode cL_law 8 = .ok (.new 10, 3) := by decide +kernel
theorem dL_law_11 : decode cL_law 11 = .ok (.dup, 1) := by decide +kernel
theorem dL_law_12 : decode cL_law 12 = .ok (.invokespecial 12, 3) := by decide +kernel
theorem dL_law_15 : decode cL_law 15 = .ok (.astore_n 2, 1) := by decide +kernel
theorem dL_law_16 : decode cL_law 16 = .ok (.iconst 0, 1) := by decide +kernel
theorem dL_law_17 : decode cL_law 17 = .ok (.istore_n 3, 1) := by decide +kernel
theorem dL_law_18 : decode cL_law 18 = .ok (.iload_n 3, 1) := by decide +kernel
theorem dL_law_19 : decode cL_law 19 = .ok (.aload_n 0, 1) := by decide +kernel
theorem dL_law_20 : decode cL_law 20 = .ok (.arraylength, 1) := by decide +kernel
theorem dL_law_21 : decode cL_law 21 = .ok (.iconst 4, 1) := by decide +kernel
theorem dL_law_22 : decode cL_law 22 = .ok (.isub, 1) := by decide +kernel
theorem dL_law_23 : decode cL_law 23 = .ok (.if_icmp .gt 884, 3) := by decide +kernel
theorem dL_law_26 : decode cL_law 26 = .ok (.aload_n 0, 1) := by decide +kernel
theorem dL_law_27 : decode cL_law 27 = .ok (.iload_n 3, 1) := by decide +kernel
theorem dL_law_28 : decode cL_law 28 = .ok (.iaload, 1) := by decide +kernel
theorem dL_law_29 : decode cL_law 29 = .ok (.bipush 31, 2) := by decide +kernel
theorem dL_law_31 : decode cL_law 31 = .ok (.iand, 1) := by decide +kernel
theorem dL_law_32 : decode cL_law 32 = .ok (.tableswitch 869 0 28 #[132, 155, 168, 181, 194, 217, 250, 283, 327, 361, 384, 417, 450, 483, 542, 565, 588, 611, 624, 648, 681, 694, 717, 740, 773, 806, 819, 832, 855], 132) := by decide +kernel
theorem dL_law_164 : decode cL_law 164 = .ok (.aload_n 1, 1) := by decide +kernel
theorem dL_law_165 : decode cL_law 165 = .ok (.aload_n 0, 1) := by decide +kernel
theorem dL_law_166 : decode cL_law 166 = .ok (.iload_n 3, 1) := by decide +kernel
theorem dL_law_167 : decode cL_law 167 = .ok (.iconst 1, 1) := by decide +kernel
theorem dL_law_168 : decode cL_law 168 = .ok (.iadd, 1) := by decide +kernel
theorem dL_law_169 : decode cL_law 169 = .ok (.iaload, 1) := by decide +kernel
theorem dL_law_170 : decode cL_law 170 = .ok (.invokevirtual 13, 3) := by decide +kernel
theorem dL_law_173 : decode cL_law 173 = .ok (.aload_n 2, 1) := by decide +kernel
theorem dL_law_174 : decode cL_law 174 = .ok (.aload_n 0, 1) := by decide +kernel
theorem dL_law_175 : decode cL_law 175 = .ok (.iload_n 3, 1) := by decide +kernel
theorem dL_law_176 : decode cL_law 176 = .ok (.iconst 1, 1) := by decide +kernel
theorem dL_law_177 : decode cL_law 177 = .ok (.iadd, 1) := by decide +kernel
theorem dL_law_178 : decode cL_law 178 = .ok (.iaload, 1) := by decide +kernel
theorem dL_law_179 : decode cL_law 179 = .ok (.invokevirtual 17, 3) := by decide +kernel
theorem dL_law_182 : decode cL_law 182 = .ok (.if_icmp .eq 719, 3) := by decide +kernel
theorem dL_law_185 : decode cL_law 185 = .ok (.iconst 0, 1) := by decide +kernel
theorem dL_law_186 : decode cL_law 186 = .ok (.ireturn, 1) := by decide +kernel
theorem dL_law_187 : decode cL_law 187 = .ok (.aload_n 1, 1) := by decide +kernel
theorem dL_law_188 : decode cL_law 188 = .ok (.invokevirtual 18, 3) := by decide +kernel
theorem dL_law_191 : decode cL_law 191 = .ok (.aload_n 2, 1) := by decide +kernel
theorem dL_law_192 : decode cL_law 192 = .ok (.invokevirtual 22, 3) := by decide +kernel
theorem dL_law_195 : decode cL_law 195 = .ok (.if_icmp .eq 706, 3) := by decide +kernel
theorem dL_law_198 : decode cL_law 198 = .ok (.iconst 0, 1) := by decide +kernel
theorem dL_law_199 : decode cL_law 199 = .ok (.ireturn, 1) := by decide +kernel
theorem dL_law_200 : decode cL_law 200 = .ok (.aload_n 1, 1) := by decide +kernel
theorem dL_law_201 : decode cL_law 201 = .ok (.invokevirtual 23, 3) := by decide +kernel
theorem dL_law_204 : decode cL_law 204 = .ok (.aload_n 2, 1) := by decide +kernel
theorem dL_law_205 : decode cL_law 205 = .ok (.invokevirtual 26, 3) := by decide +kernel
theorem dL_law_208 : decode cL_law 208 = .ok (.if_icmp .eq 693, 3) := by decide +kernel
theorem dL_law_211 : decode cL_law 211 = .ok (.iconst 0, 1) := by decide +kernel
theorem dL_law_212 : decode cL_law 212 = .ok (.ireturn, 1) := by decide +kernel
theorem dL_law_213 : decode cL_law 213 = .ok (.aload_n 1, 1) := by decide +kernel
theorem dL_law_214 : decode cL_law 214 = .ok (.invokevirtual 27, 3) := by decide +kernel
theorem dL_law_217 : decode cL_law 217 = .ok (.aload_n 2, 1) := by decide +kernel
theorem dL_law_218 : decode cL_law 218 = .ok (.invokevirtual 30, 3) := by decide +kernel
theorem dL_law_221 : decode cL_law 221 = .ok (.if_icmp .eq 680, 3) := by decide +kernel
theorem dL_law_224 : decode cL_law 224 = .ok (.iconst 0, 1) := by decide +kernel
theorem dL_law_225 : decode cL_law 225 = .ok (.ireturn, 1) := by decide +kernel
theorem dL_law_226 : decode cL_law 226 = .ok (.aload_n 1, 1) := by decide +kernel
theorem dL_law_227 : decode cL_law 227 = .ok (.aload_n 0, 1) := by decide +kernel
theorem dL_law_228 : decode cL_law 228 = .ok (.iload_n 3, 1) := by decide +kernel
theorem dL_law_229 : decode cL_law 229 = .ok (.iconst 1, 1) := by decide +kernel
theorem dL_law_230 : decode cL_law 230 = .ok (.iadd, 1) := by decide +kernel
theorem dL_law_231 : decode cL_law 231 = .ok (.iaload, 1) := by decide +kernel
theorem dL_law_232 : decode cL_law 232 = .ok (.invokevirtual 31, 3) := by decide +kernel
theorem dL_law_235 : decode cL_law 235 = .ok (.aload_n 2, 1) := by decide +kernel
theorem dL_law_236 : decode cL_law 236 = .ok (.aload_n 0, 1) := by decide +kernel
theorem dL_law_237 : decode cL_law 237 = .ok (.iload_n 3, 1) := by decide +kernel
theorem dL_law_238 : decode cL_law 238 = .ok (.iconst 1, 1) := by decide +kernel
theorem dL_law_239 : decode cL_law 239 = .ok (.iadd, 1) := by decide +kernel
theorem dL_law_240 : decode cL_law 240 = .ok (.iaload, 1) := by decide +kernel
theorem dL_law_241 : decode cL_law 241 = .ok (.invokevirtual 34, 3) := by decide +kernel
theorem dL_law_244 : decode cL_law 244 = .ok (.if_icmp .eq 657, 3) := by decide +kernel
theorem dL_law_247 : decode cL_law 247 = .ok (.iconst 0, 1) := by decide +kernel
theorem dL_law_248 : decode cL_law 248 = .ok (.ireturn, 1) := by decide +kernel
theorem dL_law_249 : decode cL_law 249 = .ok (.aload_n 1, 1) := by decide +kernel
theorem dL_law_250 : decode cL_law 250 = .ok (.aload_n 0, 1) := by decide +kernel
theorem dL_law_251 : decode cL_law 251 = .ok (.iload_n 3, 1) := by decide +kernel
theorem dL_law_252 : decode cL_law 252 = .ok (.iconst 1, 1) := by decide +kernel
theorem dL_law_253 : decode cL_law 253 = .ok (.iadd, 1) := by decide +kernel
theorem dL_law_254 : decode cL_law 254 = .ok (.iaload, 1) := by decide +kernel
theorem dL_law_255 : decode cL_law 255 = .ok (.aload_n 0, 1) := by decide +kernel
theorem dL_law_256 : decode cL_law 256 = .ok (.iload_n 3, 1) := by decide +kernel
theorem dL_law_257 : decode cL_law 257 = .ok (.iconst 2, 1) := by decide +kernel
theorem dL_law_258 : decode cL_law 258 = .ok (.iadd, 1) := by decide +kernel
theorem dL_law_259 : decode cL_law 259 = .ok (.iaload, 1) := by decide +kernel
theorem dL_law_260 : decode cL_law 260 = .ok (.invokevirtual 35, 3) := by decide +kernel
theorem dL_law_263 : decode cL_law 263 = .ok (.aload_n 2, 1) := by decide +kernel
theorem dL_law_264 : decode cL_law 264 = .ok (.aload_n 0, 1) := by decide +kernel
theorem dL_law_265 : decode cL_law 265 = .ok (.iload_n 3, 1) := by decide +kernel
theorem dL_law_266 : decode cL_law 266 = .ok (.iconst 1, 1) := by decide +kernel
theorem dL_law_267 : decode cL_law 267 = .ok (.iadd, 1) := by decide +kernel
theorem dL_law_268 : decode cL_law 268 = .ok (.iaload, 1) := by decide +kernel
theorem dL_law_269 : decode cL_law 269 = .ok (.aload_n 0, 1) := by decide +kernel
theorem dL_law_270 : decode cL_law 270 = .ok (.iload_n 3, 1) := by decide +kernel
theorem dL_law_271 : decode cL_law 271 = .ok (.iconst 2, 1) := by decide +kernel
theorem dL_law_272 : decode cL_law 272 = .ok (.iadd, 1) := by decide +kernel
theorem dL_law_273 : decode cL_law 273 = .ok (.iaload, 1) := by decide +kernel
theorem dL_law_274 : decode cL_law 274 = .ok (.invokevirtual 39, 3) := by decide +kernel
theorem dL_law_277 : decode cL_law 277 = .ok (.if_icmp .eq 624, 3) := by decide +kernel
theorem dL_law_280 : decode cL_law 280 = .ok (.iconst 0, 1) := by decide +kernel
theorem dL_law_281 : decode cL_law 281 = .ok (.ireturn, 1) := by decide +kernel
theorem dL_law_282 : decode cL_law 282 = .ok (.aload_n 1, 1) := by decide +kernel
theorem dL_law_283 : decode cL_law 283 = .ok (.aload_n 0, 1) := by decide +kernel
theorem dL_law_284 : decode cL_law 284 = .ok (.iload_n 3, 1) := by decide +kernel
theorem dL_law_285 : decode cL_law 285 = .ok (.iconst 1, 1) := by decide +kernel
theorem dL_law_286 : decode cL_law 286 = .ok (.iadd, 1) := by decide +kernel
theorem dL_law_287 : decode cL_law 287 = .ok (.iaload, 1) := by decide +kernel
theorem dL_law_288 : decode cL_law 288 = .ok (.aload_n 0, 1) := by decide +kernel
theorem dL_law_289 : decode cL_law 289 = .ok (.iload_n 3, 1) := by decide +kernel
theorem dL_law_290 : decode cL_law 290 = .ok (.iconst 2, 1) := by decide +kernel
theorem dL_law_291 : decode cL_law 291 = .ok (.iadd, 1) := by decide +kernel
theorem dL_law_292 : decode cL_law 292 = .ok (.iaload, 1) := by decide +kernel
theorem dL_law_293 : decode cL_law 293 = .ok (.invokevirtual 40, 3) := by decide +kernel
theorem dL_law_296 : decode cL_law 296 = .ok (.aload_n 2, 1) := by decide +kernel
theorem dL_law_297 : decode cL_law 297 = .ok (.aload_n 0, 1) := by decide +kernel
theorem dL_law_298 : decode cL_law 298 = .ok (.iload_n 3, 1) := by decide +kernel
theorem dL_law_299 : decode cL_law 299 = .ok (.iconst 1, 1) := by decide +kernel
theorem dL_law_300 : decode cL_law 300 = .ok (.iadd, 1) := by decide +kernel
theorem dL_law_301 : decode cL_law 301 = .ok (.iaload, 1) := by decide +kernel
theorem dL_law_302 : decode cL_law 302 = .ok (.aload_n 0, 1) := by decide +kernel
theorem dL_law_303 : decode cL_law 303 = .ok (.iload_n 3, 1) := by decide +kernel
theorem dL_law_304 : decode cL_law 304 = .ok (.iconst 2, 1) := by decide +kernel
theorem dL_law_305 : decode cL_law 305 = .ok (.iadd, 1) := by decide +kernel
theorem dL_law_306 : decode cL_law 306 = .ok (.iaload, 1) := by decide +kernel
theorem dL_law_307 : decode cL_law 307 = .ok (.invokevirtual 43, 3) := by decide +kernel
theorem dL_law_310 : decode cL_law 310 = .ok (.if_icmp .eq 591, 3) := by decide +kernel
theorem dL_law_313 : decode cL_law 313 = .ok (.iconst 0, 1) := by decide +kernel
theorem dL_law_314 : decode cL_law 314 = .ok (.ireturn, 1) := by decide +kernel
theorem dL_law_315 : decode cL_law 315 = .ok (.aload_n 1, 1) := by decide +kernel
theorem dL_law_316 : decode cL_law 316 = .ok (.aload_n 0, 1) := by decide +kernel
theorem dL_law_317 : decode cL_law 317 = .ok (.iload_n 3, 1) := by decide +kernel
theorem dL_law_318 : decode cL_law 318 = .ok (.iconst 1, 1) := by decide +kernel
theorem dL_law_319 : decode cL_law 319 = .ok (.iadd, 1) := by decide +kernel
theorem dL_law_320 : decode cL_law 320 = .ok (.iaload, 1) := by decide +kernel
theorem dL_law_321 : decode cL_law 321 = .ok (.aload_n 0, 1) := by decide +kernel
theorem dL_law_322 : decode cL_law 322 = .ok (.iload_n 3, 1) := by decide +kernel
theorem dL_law_323 : decode cL_law 323 = .ok (.iconst 2, 1) := by decide +kernel
theorem dL_law_324 : decode cL_law 324 = .ok (.iadd, 1) := by decide +kernel
theorem dL_law_325 : decode cL_law 325 = .ok (.iaload, 1) := by decide +kernel
theorem dL_law_326 : decode cL_law 326 = .ok (.aload_n 0, 1) := by decide +kernel
theorem dL_law_327 : decode cL_law 327 = .ok (.iload_n 3, 1) := by decide +kernel
theorem dL_law_328 : decode cL_law 328 = .ok (.iconst 3, 1) := by decide +kernel
theorem dL_law_329 : decode cL_law 329 = .ok (.iadd, 1) := by decide +kernel
theorem dL_law_330 : decode cL_law 330 = .ok (.iaload, 1) := by decide +kernel
theorem dL_law_331 : decode cL_law 331 = .ok (.invokevirtual 44, 3) := by decide +kernel
theorem dL_law_334 : decode cL_law 334 = .ok (.aload_n 2, 1) := by decide +kernel
theorem dL_law_335 : decode cL_law 335 = .ok (.aload_n 0, 1) := by decide +kernel
theorem dL_law_336 : decode cL_law 336 = .ok (.iload_n 3, 1) := by decide +kernel
theorem dL_law_337 : decode cL_law 337 = .ok (.iconst 1, 1) := by decide +kernel
theorem dL_law_338 : decode cL_law 338 = .ok (.iadd, 1) := by decide +kernel
theorem dL_law_339 : decode cL_law 339 = .ok (.iaload, 1) := by decide +kernel
theorem dL_law_340 : decode cL_law 340 = .ok (.aload_n 0, 1) := by decide +kernel
theorem dL_law_341 : decode cL_law 341 = .ok (.iload_n 3, 1) := by decide +kernel
theorem dL_law_342 : decode cL_law 342 = .ok (.iconst 2, 1) := by decide +kernel
theorem dL_law_343 : decode cL_law 343 = .ok (.iadd, 1) := by decide +kernel
theorem dL_law_344 : decode cL_law 344 = .ok (.iaload, 1) := by decide +kernel
theorem dL_law_345 : decode cL_law 345 = .ok (.aload_n 0, 1) := by decide +kernel
theorem dL_law_346 : decode cL_law 346 = .ok (.iload_n 3, 1) := by decide +kernel
theorem dL_law_347 : decode cL_law 347 = .ok (.iconst 3, 1) := by decide +kernel
theorem dL_law_348 : decode cL_law 348 = .ok (.iadd, 1) := by decide +kernel
theorem dL_law_349 : decode cL_law 349 = .ok (.iaload, 1) := by decide +kernel
theorem dL_law_350 : decode cL_law 350 = .ok (.invokevirtual 48, 3) := by decide +kernel
theorem dL_law_353 : decode cL_law 353 = .ok (.lcmp, 1) := by decide +kernel
theorem dL_law_354 : decode cL_law 354 = .ok (.ifCond .eq 547, 3) := by decide +kernel
theorem dL_law_357 : decode cL_law 357 = .ok (.iconst 0, 1) := by decide +kernel
theorem dL_law_358 : decode cL_law 358 = .ok (.ireturn, 1) := by decide +kernel
theorem dL_law_359 : decode cL_law 359 = .ok (.aload_n 1, 1) := by decide +kernel
theorem dL_law_360 : decode cL_law 360 = .ok (.aload_n 0, 1) := by decide +kernel
theorem dL_law_361 : decode cL_law 361 = .ok (.iload_n 3, 1) := by decide +kernel
theorem dL_law_362 : decode cL_law 362 = .ok (.iconst 1, 1) := by decide +kernel
theorem dL_law_363 : decode cL_law 363 = .ok (.iadd, 1) := by decide +kernel
theorem dL_law_364 : decode cL_law 364 = .ok (.iaload, 1) := by decide +kernel
theorem dL_law_365 : decode cL_law 365 = .ok (.aload_n 0, 1) := by decide +kernel
theorem dL_law_366 : decode cL_law 366 = .ok (.iload_n 3, 1) := by decide +kernel
theorem dL_law_367 : decode cL_law 367 = .ok (.iconst 2, 1) := by decide +kernel
theorem dL_law_368 : decode cL_law 368 = .ok (.iadd, 1) := by decide +kernel
theorem dL_law_369 : decode cL_law 369 = .ok (.iaload, 1) := by decide +kernel
theorem dL_law_370 : decode cL_law 370 = .ok (.invokevirtual 49, 3) := by decide +kernel
theorem dL_law_373 : decode cL_law 373 = .ok (.aload_n 2, 1) := by decide +kernel
theorem dL_law_374 : decode cL_law 374 = .ok (.aload_n 0, 1) := by decide +kernel
theorem dL_law_375 : decode cL_law 375 = .ok (.iload_n 3, 1) := by decide +kernel
theorem dL_law_376 : decode cL_law 376 = .ok (.iconst 1, 1) := by decide +kernel
theorem dL_law_377 : decode cL_law 377 = .ok (.iadd, 1) := by decide +kernel
theorem dL_law_378 : decode cL_law 378 = .ok (.iaload, 1) := by decide +kernel
theorem dL_law_379 : decode cL_law 379 = .ok (.aload_n 0, 1) := by decide +kernel
theorem dL_law_380 : decode cL_law 380 = .ok (.iload_n 3, 1) := by decide +kernel
theorem dL_law_381 : decode cL_law 381 = .ok (.iconst 2, 1) := by decide +kernel
theorem dL_law_382 : decode cL_law 382 = .ok (.iadd, 1) := by decide +kernel
theorem dL_law_383 : decode cL_law 383 = .ok (.iaload, 1) := by decide +kernel
theorem dL_law_384 : decode cL_law 384 = .ok (.invokevirtual 53, 3) := by decide +kernel
theorem dL_law_387 : decode cL_law 387 = .ok (.lcmp, 1) := by decide +kernel
theorem dL_law_388 : decode cL_law 388 = .ok (.ifCond .eq 513, 3) := by decide +kernel
theorem dL_law_391 : decode cL_law 391 = .ok (.iconst 0, 1) := by decide +kernel
theorem dL_law_392 : decode cL_law 392 = .ok (.ireturn, 1) := by decide +kernel
theorem dL_law_393 : decode cL_law 393 = .ok (.aload_n 1, 1) := by decide +kernel
theorem dL_law_394 : decode cL_law 394 = .ok (.aload_n 0, 1) := by decide +kernel
theorem dL_law_395 : decode cL_law 395 = .ok (.iload_n 3, 1) := by decide +kernel
theorem dL_law_396 : decode cL_law 396 = .ok (.iconst 1, 1) := by decide +kernel
theorem dL_law_397 : decode cL_law 397 = .ok (.iadd, 1) := by decide +kernel
theorem dL_law_398 : decode cL_law 398 = .ok (.iaload, 1) := by decide +kernel
theorem dL_law_399 : decode cL_law 399 = .ok (.invokevirtual 54, 3) := by decide +kernel
theorem dL_law_402 : decode cL_law 402 = .ok (.aload_n 2, 1) := by decide +kernel
theorem dL_law_403 : decode cL_law 403 = .ok (.aload_n 0, 1) := by decide +kernel
theorem dL_law_404 : decode cL_law 404 = .ok (.iload_n 3, 1) := by decide +kernel
theorem dL_law_405 : decode cL_law 405 = .ok (.iconst 1, 1) := by decide +kernel
theorem dL_law_406 : decode cL_law 406 = .ok (.iadd, 1) := by decide +kernel
theorem dL_law_407 : decode cL_law 407 = .ok (.iaload, 1) := by decide +kernel
theorem dL_law_408 : decode cL_law 408 = .ok (.invokevirtual 57, 3) := by decide +kernel
theorem dL_law_411 : decode cL_law 411 = .ok (.if_icmp .eq 490, 3) := by decide +kernel
theorem dL_law_414 : decode cL_law 414 = .ok (.iconst 0, 1) := by decide +kernel
theorem dL_law_415 : decode cL_law 415 = .ok (.ireturn, 1) := by decide +kernel
theorem dL_law_416 : decode cL_law 416 = .ok (.aload_n 1, 1) := by decide +kernel
theorem dL_law_417 : decode cL_law 417 = .ok (.aload_n 0, 1) := by decide +kernel
theorem dL_law_418 : decode cL_law 418 = .ok (.iload_n 3, 1) := by decide +kernel
theorem dL_law_419 : decode cL_law 419 = .ok (.iconst 1, 1) := by decide +kernel
theorem dL_law_420 : decode cL_law 420 = .ok (.iadd, 1) := by decide +kernel
theorem dL_law_421 : decode cL_law 421 = .ok (.iaload, 1) := by decide +kernel
theorem dL_law_422 : decode cL_law 422 = .ok (.aload_n 0, 1) := by decide +kernel
theorem dL_law_423 : decode cL_law 423 = .ok (.iload_n 3, 1) := by decide +kernel
theorem dL_law_424 : decode cL_law 424 = .ok (.iconst 2, 1) := by decide +kernel
theorem dL_law_425 : decode cL_law 425 = .ok (.iadd, 1) := by decide +kernel
theorem dL_law_426 : decode cL_law 426 = .ok (.iaload, 1) := by decide +kernel
theorem dL_law_427 : decode cL_law 427 = .ok (.invokevirtual 58, 3) := by decide +kernel
theorem dL_law_430 : decode cL_law 430 = .ok (.aload_n 2, 1) := by decide +kernel
theorem dL_law_431 : decode cL_law 431 = .ok (.aload_n 0, 1) := by decide +kernel
theorem dL_law_432 : decode cL_law 432 = .ok (.iload_n 3, 1) := by decide +kernel
theorem dL_law_433 : decode cL_law 433 = .ok (.iconst 1, 1) := by decide +kernel
theorem dL_law_434 : decode cL_law 434 = .ok (.iadd, 1) := by decide +kernel
theorem dL_law_435 : decode cL_law 435 = .ok (.iaload, 1) := by decide +kernel
theorem dL_law_436 : decode cL_law 436 = .ok (.aload_n 0, 1) := by decide +kernel
theorem dL_law_437 : decode cL_law 437 = .ok (.iload_n 3, 1) := by decide +kernel
theorem dL_law_438 : decode cL_law 438 = .ok (.iconst 2, 1) := by decide +kernel
theorem dL_law_439 : decode cL_law 439 = .ok (.iadd, 1) := by decide +kernel
theorem dL_law_440 : decode cL_law 440 = .ok (.iaload, 1) := by decide +kernel
theorem dL_law_441 : decode cL_law 441 = .ok (.invokevirtual 61, 3) := by decide +kernel
theorem dL_law_444 : decode cL_law 444 = .ok (.if_icmp .eq 457, 3) := by decide +kernel
theorem dL_law_447 : decode cL_law 447 = .ok (.iconst 0, 1) := by decide +kernel
theorem dL_law_448 : decode cL_law 448 = .ok (.ireturn, 1) := by decide +kernel
theorem dL_law_449 : decode cL_law 449 = .ok (.aload_n 1, 1) := by decide +kernel
theorem dL_law_450 : decode cL_law 450 = .ok (.aload_n 0, 1) := by decide +kernel
theorem dL_law_451 : decode cL_law 451 = .ok (.iload_n 3, 1) := by decide +kernel
theorem dL_law_452 : decode cL_law 452 = .ok (.iconst 1, 1) := by decide +kernel
theorem dL_law_453 : decode cL_law 453 = .ok (.iadd, 1) := by decide +kernel
theorem dL_law_454 : decode cL_law 454 = .ok (.iaload, 1) := by decide +kernel
theorem dL_law_455 : decode cL_law 455 = .ok (.aload_n 0, 1) := by decide +kernel
theorem dL_law_456 : decode cL_law 456 = .ok (.iload_n 3, 1) := by decide +kernel
theorem dL_law_457 : decode cL_law 457 = .ok (.iconst 2, 1) := by decide +kernel
theorem dL_law_458 : decode cL_law 458 = .ok (.iadd, 1) := by decide +kernel
theorem dL_law_459 : decode cL_law 459 = .ok (.iaload, 1) := by decide +kernel
theorem dL_law_460 : decode cL_law 460 = .ok (.invokevirtual 62, 3) := by decide +kernel
theorem dL_law_463 : decode cL_law 463 = .ok (.aload_n 2, 1) := by decide +kernel
theorem dL_law_464 : decode cL_law 464 = .ok (.aload_n 0, 1) := by decide +kernel
theorem dL_law_465 : decode cL_law 465 = .ok (.iload_n 3, 1) := by decide +kernel
theorem dL_law_466 : decode cL_law 466 = .ok (.iconst 1, 1) := by decide +kernel
theorem dL_law_467 : decode cL_law 467 = .ok (.iadd, 1) := by decide +kernel
theorem dL_law_468 : decode cL_law 468 = .ok (.iaload, 1) := by decide +kernel
theorem dL_law_469 : decode cL_law 469 = .ok (.aload_n 0, 1) := by decide +kernel
theorem dL_law_470 : decode cL_law 470 = .ok (.iload_n 3, 1) := by decide +kernel
theorem dL_law_471 : decode cL_law 471 = .ok (.iconst 2, 1) := by decide +kernel
theorem dL_law_472 : decode cL_law 472 = .ok (.iadd, 1) := by decide +kernel
theorem dL_law_473 : decode cL_law 473 = .ok (.iaload, 1) := by decide +kernel
theorem dL_law_474 : decode cL_law 474 = .ok (.invokevirtual 65, 3) := by decide +kernel
theorem dL_law_477 : decode cL_law 477 = .ok (.if_icmp .eq 424, 3) := by decide +kernel
theorem dL_law_480 : decode cL_law 480 = .ok (.iconst 0, 1) := by decide +kernel
theorem dL_law_481 : decode cL_law 481 = .ok (.ireturn, 1) := by decide +kernel
theorem dL_law_482 : decode cL_law 482 = .ok (.aload_n 1, 1) := by decide +kernel
theorem dL_law_483 : decode cL_law 483 = .ok (.aload_n 0, 1) := by decide +kernel
theorem dL_law_484 : decode cL_law 484 = .ok (.iload_n 3, 1) := by decide +kernel
theorem dL_law_485 : decode cL_law 485 = .ok (.iconst 1, 1) := by decide +kernel
theorem dL_law_486 : decode cL_law 486 = .ok (.iadd, 1) := by decide +kernel
theorem dL_law_487 : decode cL_law 487 = .ok (.iaload, 1) := by decide +kernel
theorem dL_law_488 : decode cL_law 488 = .ok (.aload_n 0, 1) := by decide +kernel
theorem dL_law_489 : decode cL_law 489 = .ok (.iload_n 3, 1) := by decide +kernel
theorem dL_law_490 : decode cL_law 490 = .ok (.iconst 2, 1) := by decide +kernel
theorem dL_law_491 : decode cL_law 491 = .ok (.iadd, 1) := by decide +kernel
theorem dL_law_492 : decode cL_law 492 = .ok (.iaload, 1) := by decide +kernel
theorem dL_law_493 : decode cL_law 493 = .ok (.invokevirtual 66, 3) := by decide +kernel
theorem dL_law_496 : decode cL_law 496 = .ok (.aload_n 2, 1) := by decide +kernel
theorem dL_law_497 : decode cL_law 497 = .ok (.aload_n 0, 1) := by decide +kernel
theorem dL_law_498 : decode cL_law 498 = .ok (.iload_n 3, 1) := by decide +kernel
theorem dL_law_499 : decode cL_law 499 = .ok (.iconst 1, 1) := by decide +kernel
theorem dL_law_500 : decode cL_law 500 = .ok (.iadd, 1) := by decide +kernel
theorem dL_law_501 : decode cL_law 501 = .ok (.iaload, 1) := by decide +kernel
theorem dL_law_502 : decode cL_law 502 = .ok (.aload_n 0, 1) := by decide +kernel
theorem dL_law_503 : decode cL_law 503 = .ok (.iload_n 3, 1) := by decide +kernel
theorem dL_law_504 : decode cL_law 504 = .ok (.iconst 2, 1) := by decide +kernel
theorem dL_law_505 : decode cL_law 505 = .ok (.iadd, 1) := by decide +kernel
theorem dL_law_506 : decode cL_law 506 = .ok (.iaload, 1) := by decide +kernel
theorem dL_law_507 : decode cL_law 507 = .ok (.invokevirtual 69, 3) := by decide +kernel
theorem dL_law_510 : decode cL_law 510 = .ok (.if_icmp .eq 391, 3) := by decide +kernel
theorem dL_law_513 : decode cL_law 513 = .ok (.iconst 0, 1) := by decide +kernel
theorem dL_law_514 : decode cL_law 514 = .ok (.ireturn, 1) := by decide +kernel
theorem dL_law_515 : decode cL_law 515 = .ok (.aload_n 1, 1) := by decide +kernel
theorem dL_law_516 : decode cL_law 516 = .ok (.aload_n 0, 1) := by decide +kernel
theorem dL_law_517 : decode cL_law 517 = .ok (.iload_n 3, 1) := by decide +kernel
theorem dL_law_518 : decode cL_law 518 = .ok (.iconst 1, 1) := by decide +kernel
theorem dL_law_519 : decode cL_law 519 = .ok (.iadd, 1) := by decide +kernel
theorem dL_law_520 : decode cL_law 520 = .ok (.iaload, 1) := by decide +kernel
theorem dL_law_521 : decode cL_law 521 = .ok (.aload_n 0, 1) := by decide +kernel
theorem dL_law_522 : decode cL_law 522 = .ok (.iload_n 3, 1) := by decide +kernel
theorem dL_law_523 : decode cL_law 523 = .ok (.iconst 2, 1) := by decide +kernel
theorem dL_law_524 : decode cL_law 524 = .ok (.iadd, 1) := by decide +kernel
theorem dL_law_525 : decode cL_law 525 = .ok (.iaload, 1) := by decide +kernel
theorem dL_law_526 : decode cL_law 526 = .ok (.aload_n 0, 1) := by decide +kernel
theorem dL_law_527 : decode cL_law 527 = .ok (.iload_n 3, 1) := by decide +kernel
theorem dL_law_528 : decode cL_law 528 = .ok (.iconst 3, 1) := by decide +kernel
theorem dL_law_529 : decode cL_law 529 = .ok (.iadd, 1) := by decide +kernel
theorem dL_law_530 : decode cL_law 530 = .ok (.iaload, 1) := by decide +kernel
theorem dL_law_531 : decode cL_law 531 = .ok (.ifCond .eq 7, 3) := by decide +kernel
theorem dL_law_534 : decode cL_law 534 = .ok (.iconst 1, 1) := by decide +kernel
theorem dL_law_535 : decode cL_law 535 = .ok (.goto 4, 3) := by decide +kernel
theorem dL_law_538 : decode cL_law 538 = .ok (.iconst 0, 1) := by decide +kernel
theorem dL_law_539 : decode cL_law 539 = .ok (.invokevirtual 70, 3) := by decide +kernel
theorem dL_law_542 : decode cL_law 542 = .ok (.aload_n 2, 1) := by decide +kernel
theorem dL_law_543 : decode cL_law 543 = .ok (.aload_n 0, 1) := by decide +kernel
theorem dL_law_544 : decode cL_law 544 = .ok (.iload_n 3, 1) := by decide +kernel
theorem dL_law_545 : decode cL_law 545 = .ok (.iconst 1, 1) := by decide +kernel
theorem dL_law_546 : decode cL_law 546 = .ok (.iadd, 1) := by decide +kernel
theorem dL_law_547 : decode cL_law 547 = .ok (.iaload, 1) := by decide +kernel
theorem dL_law_548 : decode cL_law 548 = .ok (.aload_n 0, 1) := by decide +kernel
theorem dL_law_549 : decode cL_law 549 = .ok (.iload_n 3, 1) := by decide +kernel
theorem dL_law_550 : decode cL_law 550 = .ok (.iconst 2, 1) := by decide +kernel
theorem dL_law_551 : decode cL_law 551 = .ok (.iadd, 1) := by decide +kernel
theorem dL_law_552 : decode cL_law 552 = .ok (.iaload, 1) := by decide +kernel
theorem dL_law_553 : decode cL_law 553 = .ok (.aload_n 0, 1) := by decide +kernel
theorem dL_law_554 : decode cL_law 554 = .ok (.iload_n 3, 1) := by decide +kernel
theorem dL_law_555 : decode cL_law 555 = .ok (.iconst 3, 1) := by decide +kernel
theorem dL_law_556 : decode cL_law 556 = .ok (.iadd, 1) := by decide +kernel
theorem dL_law_557 : decode cL_law 557 = .ok (.iaload, 1) := by decide +kernel
theorem dL_law_558 : decode cL_law 558 = .ok (.ifCond .eq 7, 3) := by decide +kernel
theorem dL_law_561 : decode cL_law 561 = .ok (.iconst 1, 1) := by decide +kernel
theorem dL_law_562 : decode cL_law 562 = .ok (.goto 4, 3) := by decide +kernel
theorem dL_law_565 : decode cL_law 565 = .ok (.iconst 0, 1) := by decide +kernel
theorem dL_law_566 : decode cL_law 566 = .ok (.invokevirtual 74, 3) := by decide +kernel
theorem dL_law_569 : decode cL_law 569 = .ok (.if_icmp .eq 332, 3) := by decide +kernel
theorem dL_law_572 : decode cL_law 572 = .ok (.iconst 0, 1) := by decide +kernel
theorem dL_law_573 : decode cL_law 573 = .ok (.ireturn, 1) := by decide +kernel
theorem dL_law_574 : decode cL_law 574 = .ok (.aload_n 1, 1) := by decide +kernel
theorem dL_law_575 : decode cL_law 575 = .ok (.aload_n 0, 1) := by decide +kernel
theorem dL_law_576 : decode cL_law 576 = .ok (.iload_n 3, 1) := by decide +kernel
theorem dL_law_577 : decode cL_law 577 = .ok (.iconst 1, 1) := by decide +kernel
theorem dL_law_578 : decode cL_law 578 = .ok (.iadd, 1) := by decide +kernel
theorem dL_law_579 : decode cL_law 579 = .ok (.iaload, 1) := by decide +kernel
theorem dL_law_580 : decode cL_law 580 = .ok (.invokevirtual 75, 3) := by decide +kernel
theorem dL_law_583 : decode cL_law 583 = .ok (.aload_n 2, 1) := by decide +kernel
theorem dL_law_584 : decode cL_law 584 = .ok (.aload_n 0, 1) := by decide +kernel
theorem dL_law_585 : decode cL_law 585 = .ok (.iload_n 3, 1) := by decide +kernel
theorem dL_law_586 : decode cL_law 586 = .ok (.iconst 1, 1) := by decide +kernel
theorem dL_law_587 : decode cL_law 587 = .ok (.iadd, 1) := by decide +kernel
theorem dL_law_588 : decode cL_law 588 = .ok (.iaload, 1) := by decide +kernel
theorem dL_law_589 : decode cL_law 589 = .ok (.invokevirtual 78, 3) := by decide +kernel
theorem dL_law_592 : decode cL_law 592 = .ok (.if_icmp .eq 309, 3) := by decide +kernel
theorem dL_law_595 : decode cL_law 595 = .ok (.iconst 0, 1) := by decide +kernel
theorem dL_law_596 : decode cL_law 596 = .ok (.ireturn, 1) := by decide +kernel
theorem dL_law_597 : decode cL_law 597 = .ok (.aload_n 1, 1) := by decide +kernel
theorem dL_law_598 : decode cL_law 598 = .ok (.aload_n 0, 1) := by decide +kernel
theorem dL_law_599 : decode cL_law 599 = .ok (.iload_n 3, 1) := by decide +kernel
theorem dL_law_600 : decode cL_law 600 = .ok (.iconst 1, 1) := by decide +kernel
theorem dL_law_601 : decode cL_law 601 = .ok (.iadd, 1) := by decide +kernel
theorem dL_law_602 : decode cL_law 602 = .ok (.iaload, 1) := by decide +kernel
theorem dL_law_603 : decode cL_law 603 = .ok (.invokevirtual 79, 3) := by decide +kernel
theorem dL_law_606 : decode cL_law 606 = .ok (.aload_n 2, 1) := by decide +kernel
theorem dL_law_607 : decode cL_law 607 = .ok (.aload_n 0, 1) := by decide +kernel
theorem dL_law_608 : decode cL_law 608 = .ok (.iload_n 3, 1) := by decide +kernel
theorem dL_law_609 : decode cL_law 609 = .ok (.iconst 1, 1) := by decide +kernel
theorem dL_law_610 : decode cL_law 610 = .ok (.iadd, 1) := by decide +kernel
theorem dL_law_611 : decode cL_law 611 = .ok (.iaload, 1) := by decide +kernel
theorem dL_law_612 : decode cL_law 612 = .ok (.invokevirtual 82, 3) := by decide +kernel
theorem dL_law_615 : decode cL_law 615 = .ok (.if_icmp .eq 286, 3) := by decide +kernel
theorem dL_law_618 : decode cL_law 618 = .ok (.iconst 0, 1) := by decide +kernel
theorem dL_law_619 : decode cL_law 619 = .ok (.ireturn, 1) := by decide +kernel
theorem dL_law_620 : decode cL_law 620 = .ok (.aload_n 1, 1) := by decide +kernel
theorem dL_law_621 : decode cL_law 621 = .ok (.aload_n 0, 1) := by decide +kernel
theorem dL_law_622 : decode cL_law 622 = .ok (.iload_n 3, 1) := by decide +kernel
theorem dL_law_623 : decode cL_law 623 = .ok (.iconst 1, 1) := by decide +kernel
theorem dL_law_624 : decode cL_law 624 = .ok (.iadd, 1) := by decide +kernel
theorem dL_law_625 : decode cL_law 625 = .ok (.iaload, 1) := by decide +kernel
theorem dL_law_626 : decode cL_law 626 = .ok (.invokevirtual 83, 3) := by decide +kernel
theorem dL_law_629 : decode cL_law 629 = .ok (.aload_n 2, 1) := by decide +kernel
theorem dL_law_630 : decode cL_law 630 = .ok (.aload_n 0, 1) := by decide +kernel
theorem dL_law_631 : decode cL_law 631 = .ok (.iload_n 3, 1) := by decide +kernel
theorem dL_law_632 : decode cL_law 632 = .ok (.iconst 1, 1) := by decide +kernel
theorem dL_law_633 : decode cL_law 633 = .ok (.iadd, 1) := by decide +kernel
theorem dL_law_634 : decode cL_law 634 = .ok (.iaload, 1) := by decide +kernel
theorem dL_law_635 : decode cL_law 635 = .ok (.invokevirtual 86, 3) := by decide +kernel
theorem dL_law_638 : decode cL_law 638 = .ok (.if_icmp .eq 263, 3) := by decide +kernel
theorem dL_law_641 : decode cL_law 641 = .ok (.iconst 0, 1) := by decide +kernel
theorem dL_law_642 : decode cL_law 642 = .ok (.ireturn, 1) := by decide +kernel
theorem dL_law_643 : decode cL_law 643 = .ok (.aload_n 1, 1) := by decide +kernel
theorem dL_law_644 : decode cL_law 644 = .ok (.invokevirtual 87, 3) := by decide +kernel
theorem dL_law_647 : decode cL_law 647 = .ok (.aload_n 2, 1) := by decide +kernel
theorem dL_law_648 : decode cL_law 648 = .ok (.invokevirtual 90, 3) := by decide +kernel
theorem dL_law_651 : decode cL_law 651 = .ok (.if_icmp .eq 250, 3) := by decide +kernel
theorem dL_law_654 : decode cL_law 654 = .ok (.iconst 0, 1) := by decide +kernel
theorem dL_law_655 : decode cL_law 655 = .ok (.ireturn, 1) := by decide +kernel
theorem dL_law_656 : decode cL_law 656 = .ok (.aload_n 1, 1) := by decide +kernel
theorem dL_law_657 : decode cL_law 657 = .ok (.aload_n 0, 1) := by decide +kernel
theorem dL_law_658 : decode cL_law 658 = .ok (.iload_n 3, 1) := by decide +kernel
theorem dL_law_659 : decode cL_law 659 = .ok (.iconst 1, 1) := by decide +kernel
theorem dL_law_660 : decode cL_law 660 = .ok (.iadd, 1) := by decide +kernel
theorem dL_law_661 : decode cL_law 661 = .ok (.iaload, 1) := by decide +kernel
theorem dL_law_662 : decode cL_law 662 = .ok (.invokevirtual 91, 3) := by decide +kernel
theorem dL_law_665 : decode cL_law 665 = .ok (.aload_n 2, 1) := by decide +kernel
theorem dL_law_666 : decode cL_law 666 = .ok (.aload_n 0, 1) := by decide +kernel
theorem dL_law_667 : decode cL_law 667 = .ok (.iload_n 3, 1) := by decide +kernel
theorem dL_law_668 : decode cL_law 668 = .ok (.iconst 1, 1) := by decide +kernel
theorem dL_law_669 : decode cL_law 669 = .ok (.iadd, 1) := by decide +kernel
theorem dL_law_670 : decode cL_law 670 = .ok (.iaload, 1) := by decide +kernel
theorem dL_law_671 : decode cL_law 671 = .ok (.invokevirtual 95, 3) := by decide +kernel
theorem dL_law_674 : decode cL_law 674 = .ok (.lcmp, 1) := by decide +kernel
theorem dL_law_675 : decode cL_law 675 = .ok (.ifCond .eq 226, 3) := by decide +kernel
theorem dL_law_678 : decode cL_law 678 = .ok (.iconst 0, 1) := by decide +kernel
theorem dL_law_679 : decode cL_law 679 = .ok (.ireturn, 1) := by decide +kernel
theorem dL_law_680 : decode cL_law 680 = .ok (.aload_n 1, 1) := by decide +kernel
theorem dL_law_681 : decode cL_law 681 = .ok (.aload_n 0, 1) := by decide +kernel
theorem dL_law_682 : decode cL_law 682 = .ok (.iload_n 3, 1) := by decide +kernel
theorem dL_law_683 : decode cL_law 683 = .ok (.iconst 1, 1) := by decide +kernel
theorem dL_law_684 : decode cL_law 684 = .ok (.iadd, 1) := by decide +kernel
theorem dL_law_685 : decode cL_law 685 = .ok (.iaload, 1) := by decide +kernel
theorem dL_law_686 : decode cL_law 686 = .ok (.aload_n 0, 1) := by decide +kernel
theorem dL_law_687 : decode cL_law 687 = .ok (.iload_n 3, 1) := by decide +kernel
theorem dL_law_688 : decode cL_law 688 = .ok (.iconst 2, 1) := by decide +kernel
theorem dL_law_689 : decode cL_law 689 = .ok (.iadd, 1) := by decide +kernel
theorem dL_law_690 : decode cL_law 690 = .ok (.iaload, 1) := by decide +kernel
theorem dL_law_691 : decode cL_law 691 = .ok (.invokevirtual 96, 3) := by decide +kernel
theorem dL_law_694 : decode cL_law 694 = .ok (.aload_n 2, 1) := by decide +kernel
theorem dL_law_695 : decode cL_law 695 = .ok (.aload_n 0, 1) := by decide +kernel
theorem dL_law_696 : decode cL_law 696 = .ok (.iload_n 3, 1) := by decide +kernel
theorem dL_law_697 : decode cL_law 697 = .ok (.iconst 1, 1) := by decide +kernel
theorem dL_law_698 : decode cL_law 698 = .ok (.iadd, 1) := by decide +kernel
theorem dL_law_699 : decode cL_law 699 = .ok (.iaload, 1) := by decide +kernel
theorem dL_law_700 : decode cL_law 700 = .ok (.aload_n 0, 1) := by decide +kernel
theorem dL_law_701 : decode cL_law 701 = .ok (.iload_n 3, 1) := by decide +kernel
theorem dL_law_702 : decode cL_law 702 = .ok (.iconst 2, 1) := by decide +kernel
theorem dL_law_703 : decode cL_law 703 = .ok (.iadd, 1) := by decide +kernel
theorem dL_law_704 : decode cL_law 704 = .ok (.iaload, 1) := by decide +kernel
theorem dL_law_705 : decode cL_law 705 = .ok (.invokevirtual 99, 3) := by decide +kernel
theorem dL_law_708 : decode cL_law 708 = .ok (.if_icmp .eq 193, 3) := by decide +kernel
theorem dL_law_711 : decode cL_law 711 = .ok (.iconst 0, 1) := by decide +kernel
theorem dL_law_712 : decode cL_law 712 = .ok (.ireturn, 1) := by decide +kernel
theorem dL_law_713 : decode cL_law 713 = .ok (.aload_n 1, 1) := by decide +kernel
theorem dL_law_714 : decode cL_law 714 = .ok (.invokevirtual 100, 3) := by decide +kernel
theorem dL_law_717 : decode cL_law 717 = .ok (.aload_n 2, 1) := by decide +kernel
theorem dL_law_718 : decode cL_law 718 = .ok (.invokevirtual 103, 3) := by decide +kernel
theorem dL_law_721 : decode cL_law 721 = .ok (.if_icmp .eq 180, 3) := by decide +kernel
theorem dL_law_724 : decode cL_law 724 = .ok (.iconst 0, 1) := by decide +kernel
theorem dL_law_725 : decode cL_law 725 = .ok (.ireturn, 1) := by decide +kernel
theorem dL_law_726 : decode cL_law 726 = .ok (.aload_n 1, 1) := by decide +kernel
theorem dL_law_727 : decode cL_law 727 = .ok (.aload_n 0, 1) := by decide +kernel
theorem dL_law_728 : decode cL_law 728 = .ok (.iload_n 3, 1) := by decide +kernel
theorem dL_law_729 : decode cL_law 729 = .ok (.iconst 1, 1) := by decide +kernel
theorem dL_law_730 : decode cL_law 730 = .ok (.iadd, 1) := by decide +kernel
theorem dL_law_731 : decode cL_law 731 = .ok (.iaload, 1) := by decide +kernel
theorem dL_law_732 : decode cL_law 732 = .ok (.invokevirtual 104, 3) := by decide +kernel
theorem dL_law_735 : decode cL_law 735 = .ok (.aload_n 2, 1) := by decide +kernel
theorem dL_law_736 : decode cL_law 736 = .ok (.aload_n 0, 1) := by decide +kernel
theorem dL_law_737 : decode cL_law 737 = .ok (.iload_n 3, 1) := by decide +kernel
theorem dL_law_738 : decode cL_law 738 = .ok (.iconst 1, 1) := by decide +kernel
theorem dL_law_739 : decode cL_law 739 = .ok (.iadd, 1) := by decide +kernel
theorem dL_law_740 : decode cL_law 740 = .ok (.iaload, 1) := by decide +kernel
theorem dL_law_741 : decode cL_law 741 = .ok (.invokevirtual 107, 3) := by decide +kernel
theorem dL_law_744 : decode cL_law 744 = .ok (.if_icmp .eq 157, 3) := by decide +kernel
theorem dL_law_747 : decode cL_law 747 = .ok (.iconst 0, 1) := by decide +kernel
theorem dL_law_748 : decode cL_law 748 = .ok (.ireturn, 1) := by decide +kernel
theorem dL_law_749 : decode cL_law 749 = .ok (.aload_n 1, 1) := by decide +kernel
theorem dL_law_750 : decode cL_law 750 = .ok (.aload_n 0, 1) := by decide +kernel
theorem dL_law_751 : decode cL_law 751 = .ok (.iload_n 3, 1) := by decide +kernel
theorem dL_law_752 : decode cL_law 752 = .ok (.iconst 1, 1) := by decide +kernel
theorem dL_law_753 : decode cL_law 753 = .ok (.iadd, 1) := by decide +kernel
theorem dL_law_754 : decode cL_law 754 = .ok (.iaload, 1) := by decide +kernel
theorem dL_law_755 : decode cL_law 755 = .ok (.invokevirtual 108, 3) := by decide +kernel
theorem dL_law_758 : decode cL_law 758 = .ok (.aload_n 2, 1) := by decide +kernel
theorem dL_law_759 : decode cL_law 759 = .ok (.aload_n 0, 1) := by decide +kernel
theorem dL_law_760 : decode cL_law 760 = .ok (.iload_n 3, 1) := by decide +kernel
theorem dL_law_761 : decode cL_law 761 = .ok (.iconst 1, 1) := by decide +kernel
theorem dL_law_762 : decode cL_law 762 = .ok (.iadd, 1) := by decide +kernel
theorem dL_law_763 : decode cL_law 763 = .ok (.iaload, 1) := by decide +kernel
theorem dL_law_764 : decode cL_law 764 = .ok (.invokevirtual 111, 3) := by decide +kernel
theorem dL_law_767 : decode cL_law 767 = .ok (.if_icmp .eq 134, 3) := by decide +kernel
theorem dL_law_770 : decode cL_law 770 = .ok (.iconst 0, 1) := by decide +kernel
theorem dL_law_771 : decode cL_law 771 = .ok (.ireturn, 1) := by decide +kernel
theorem dL_law_772 : decode cL_law 772 = .ok (.aload_n 1, 1) := by decide +kernel
theorem dL_law_773 : decode cL_law 773 = .ok (.aload_n 0, 1) := by decide +kernel
theorem dL_law_774 : decode cL_law 774 = .ok (.iload_n 3, 1) := by decide +kernel
theorem dL_law_775 : decode cL_law 775 = .ok (.iconst 1, 1) := by decide +kernel
theorem dL_law_776 : decode cL_law 776 = .ok (.iadd, 1) := by decide +kernel
theorem dL_law_777 : decode cL_law 777 = .ok (.iaload, 1) := by decide +kernel
theorem dL_law_778 : decode cL_law 778 = .ok (.aload_n 0, 1) := by decide +kernel
theorem dL_law_779 : decode cL_law 779 = .ok (.iload_n 3, 1) := by decide +kernel
theorem dL_law_780 : decode cL_law 780 = .ok (.iconst 2, 1) := by decide +kernel
theorem dL_law_781 : decode cL_law 781 = .ok (.iadd, 1) := by decide +kernel
theorem dL_law_782 : decode cL_law 782 = .ok (.iaload, 1) := by decide +kernel
theorem dL_law_783 : decode cL_law 783 = .ok (.invokevirtual 112, 3) := by decide +kernel
theorem dL_law_786 : decode cL_law 786 = .ok (.aload_n 2, 1) := by decide +kernel
theorem dL_law_787 : decode cL_law 787 = .ok (.aload_n 0, 1) := by decide +kernel
theorem dL_law_788 : decode cL_law 788 = .ok (.iload_n 3, 1) := by decide +kernel
theorem dL_law_789 : decode cL_law 789 = .ok (.iconst 1, 1) := by decide +kernel
theorem dL_law_790 : decode cL_law 790 = .ok (.iadd, 1) := by decide +kernel
theorem dL_law_791 : decode cL_law 791 = .ok (.iaload, 1) := by decide +kernel
theorem dL_law_792 : decode cL_law 792 = .ok (.aload_n 0, 1) := by decide +kernel
theorem dL_law_793 : decode cL_law 793 = .ok (.iload_n 3, 1) := by decide +kernel
theorem dL_law_794 : decode cL_law 794 = .ok (.iconst 2, 1) := by decide +kernel
theorem dL_law_795 : decode cL_law 795 = .ok (.iadd, 1) := by decide +kernel
theorem dL_law_796 : decode cL_law 796 = .ok (.iaload, 1) := by decide +kernel
theorem dL_law_797 : decode cL_law 797 = .ok (.invokevirtual 115, 3) := by decide +kernel
theorem dL_law_800 : decode cL_law 800 = .ok (.if_icmp .eq 101, 3) := by decide +kernel
theorem dL_law_803 : decode cL_law 803 = .ok (.iconst 0, 1) := by decide +kernel
theorem dL_law_804 : decode cL_law 804 = .ok (.ireturn, 1) := by decide +kernel
theorem dL_law_805 : decode cL_law 805 = .ok (.aload_n 1, 1) := by decide +kernel
theorem dL_law_806 : decode cL_law 806 = .ok (.aload_n 0, 1) := by decide +kernel
theorem dL_law_807 : decode cL_law 807 = .ok (.iload_n 3, 1) := by decide +kernel
theorem dL_law_808 : decode cL_law 808 = .ok (.iconst 1, 1) := by decide +kernel
theorem dL_law_809 : decode cL_law 809 = .ok (.iadd, 1) := by decide +kernel
theorem dL_law_810 : decode cL_law 810 = .ok (.iaload, 1) := by decide +kernel
theorem dL_law_811 : decode cL_law 811 = .ok (.aload_n 0, 1) := by decide +kernel
theorem dL_law_812 : decode cL_law 812 = .ok (.iload_n 3, 1) := by decide +kernel
theorem dL_law_813 : decode cL_law 813 = .ok (.iconst 2, 1) := by decide +kernel
theorem dL_law_814 : decode cL_law 814 = .ok (.iadd, 1) := by decide +kernel
theorem dL_law_815 : decode cL_law 815 = .ok (.iaload, 1) := by decide +kernel
theorem dL_law_816 : decode cL_law 816 = .ok (.invokevirtual 116, 3) := by decide +kernel
theorem dL_law_819 : decode cL_law 819 = .ok (.aload_n 2, 1) := by decide +kernel
theorem dL_law_820 : decode cL_law 820 = .ok (.aload_n 0, 1) := by decide +kernel
theorem dL_law_821 : decode cL_law 821 = .ok (.iload_n 3, 1) := by decide +kernel
theorem dL_law_822 : decode cL_law 822 = .ok (.iconst 1, 1) := by decide +kernel
theorem dL_law_823 : decode cL_law 823 = .ok (.iadd, 1) := by decide +kernel
theorem dL_law_824 : decode cL_law 824 = .ok (.iaload, 1) := by decide +kernel
theorem dL_law_825 : decode cL_law 825 = .ok (.aload_n 0, 1) := by decide +kernel
theorem dL_law_826 : decode cL_law 826 = .ok (.iload_n 3, 1) := by decide +kernel
theorem dL_law_827 : decode cL_law 827 = .ok (.iconst 2, 1) := by decide +kernel
theorem dL_law_828 : decode cL_law 828 = .ok (.iadd, 1) := by decide +kernel
theorem dL_law_829 : decode cL_law 829 = .ok (.iaload, 1) := by decide +kernel
theorem dL_law_830 : decode cL_law 830 = .ok (.invokevirtual 119, 3) := by decide +kernel
theorem dL_law_833 : decode cL_law 833 = .ok (.if_icmp .eq 68, 3) := by decide +kernel
theorem dL_law_836 : decode cL_law 836 = .ok (.iconst 0, 1) := by decide +kernel
theorem dL_law_837 : decode cL_law 837 = .ok (.ireturn, 1) := by decide +kernel
theorem dL_law_838 : decode cL_law 838 = .ok (.aload_n 1, 1) := by decide +kernel
theorem dL_law_839 : decode cL_law 839 = .ok (.invokevirtual 120, 3) := by decide +kernel
theorem dL_law_842 : decode cL_law 842 = .ok (.aload_n 2, 1) := by decide +kernel
theorem dL_law_843 : decode cL_law 843 = .ok (.invokevirtual 123, 3) := by decide +kernel
theorem dL_law_846 : decode cL_law 846 = .ok (.if_icmp .eq 55, 3) := by decide +kernel
theorem dL_law_849 : decode cL_law 849 = .ok (.iconst 0, 1) := by decide +kernel
theorem dL_law_850 : decode cL_law 850 = .ok (.ireturn, 1) := by decide +kernel
theorem dL_law_851 : decode cL_law 851 = .ok (.aload_n 1, 1) := by decide +kernel
theorem dL_law_852 : decode cL_law 852 = .ok (.invokevirtual 124, 3) := by decide +kernel
theorem dL_law_855 : decode cL_law 855 = .ok (.aload_n 2, 1) := by decide +kernel
theorem dL_law_856 : decode cL_law 856 = .ok (.invokevirtual 127, 3) := by decide +kernel
theorem dL_law_859 : decode cL_law 859 = .ok (.if_icmp .eq 42, 3) := by decide +kernel
theorem dL_law_862 : decode cL_law 862 = .ok (.iconst 0, 1) := by decide +kernel
theorem dL_law_863 : decode cL_law 863 = .ok (.ireturn, 1) := by decide +kernel
theorem dL_law_864 : decode cL_law 864 = .ok (.aload_n 1, 1) := by decide +kernel
theorem dL_law_865 : decode cL_law 865 = .ok (.aload_n 0, 1) := by decide +kernel
theorem dL_law_866 : decode cL_law 866 = .ok (.iload_n 3, 1) := by decide +kernel
theorem dL_law_867 : decode cL_law 867 = .ok (.iconst 1, 1) := by decide +kernel
theorem dL_law_868 : decode cL_law 868 = .ok (.iadd, 1) := by decide +kernel
theorem dL_law_869 : decode cL_law 869 = .ok (.iaload, 1) := by decide +kernel
theorem dL_law_870 : decode cL_law 870 = .ok (.invokevirtual 128, 3) := by decide +kernel
theorem dL_law_873 : decode cL_law 873 = .ok (.aload_n 2, 1) := by decide +kernel
theorem dL_law_874 : decode cL_law 874 = .ok (.aload_n 0, 1) := by decide +kernel
theorem dL_law_875 : decode cL_law 875 = .ok (.iload_n 3, 1) := by decide +kernel
theorem dL_law_876 : decode cL_law 876 = .ok (.iconst 1, 1) := by decide +kernel
theorem dL_law_877 : decode cL_law 877 = .ok (.iadd, 1) := by decide +kernel
theorem dL_law_878 : decode cL_law 878 = .ok (.iaload, 1) := by decide +kernel
theorem dL_law_879 : decode cL_law 879 = .ok (.invokevirtual 131, 3) := by decide +kernel
theorem dL_law_882 : decode cL_law 882 = .ok (.if_icmp .eq 19, 3) := by decide +kernel
theorem dL_law_885 : decode cL_law 885 = .ok (.iconst 0, 1) := by decide +kernel
theorem dL_law_886 : decode cL_law 886 = .ok (.ireturn, 1) := by decide +kernel
theorem dL_law_887 : decode cL_law 887 = .ok (.aload_n 1, 1) := by decide +kernel
theorem dL_law_888 : decode cL_law 888 = .ok (.invokevirtual 132, 3) := by decide +kernel
theorem dL_law_891 : decode cL_law 891 = .ok (.aload_n 2, 1) := by decide +kernel
theorem dL_law_892 : decode cL_law 892 = .ok (.invokevirtual 136, 3) := by decide +kernel
theorem dL_law_895 : decode cL_law 895 = .ok (.lcmp, 1) := by decide +kernel
theorem dL_law_896 : decode cL_law 896 = .ok (.ifCond .eq 5, 3) := by decide +kernel
theorem dL_law_899 : decode cL_law 899 = .ok (.iconst 0, 1) := by decide +kernel
theorem dL_law_900 : decode cL_law 900 = .ok (.ireturn, 1) := by decide +kernel
theorem dL_law_901 : decode cL_law 901 = .ok (.iinc 3 4, 3) := by decide +kernel
theorem dL_law_904 : decode cL_law 904 = .ok (.goto (-886), 3) := by decide +kernel
theorem dL_law_907 : decode cL_law 907 = .ok (.iconst 1, 1) := by decide +kernel
theorem dL_law_908 : decode cL_law 908 = .ok (.ireturn, 1) := by decide +kernel
end
