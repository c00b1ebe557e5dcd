section
-- ===== PART A: goes FIRST, ahead of the names: the tables' words, and 'selects' of the private methods out of them =====
/-- a private method of a class that the tables say can be made, by its rows of tables_1 -/
def lw_okq (q : MethodName × Nat) : Prop := (q.1.cls ≠ "java/lang/invoke/MethodHandle" ∧ q.1.cls ≠ "java/lang/invoke/VarHandle") ∧ Cond.instantiable q.1.cls q.2 ∈ tables_1 ∧ Cond.privateMethod q.1 ∈ tables_1 ∧ Cond.instanceMethod q.1 ∈ tables_1
theorem lw_p0 : lw_okq (⟨"LineToWreck$Page", "fits", "(I)Z"⟩, 2) := ⟨⟨by decide +kernel, by decide +kernel⟩, List.mem_of_getElem? (i := 25) (by decide +kernel), List.mem_of_getElem? (i := 340) (by decide +kernel), List.mem_of_getElem? (i := 341) (by decide +kernel)⟩
theorem lw_p1 : lw_okq (⟨"LineToWreck$Page", "gustsTo", "(I)I"⟩, 2) := ⟨⟨by decide +kernel, by decide +kernel⟩, List.mem_of_getElem? (i := 25) (by decide +kernel), List.mem_of_getElem? (i := 356) (by decide +kernel), List.mem_of_getElem? (i := 357) (by decide +kernel)⟩
theorem lw_p2 : lw_okq (⟨"LineToWreck", "hasNight", "()Z"⟩, 12) := ⟨⟨by decide +kernel, by decide +kernel⟩, List.mem_of_getElem? (i := 17) (by decide +kernel), List.mem_of_getElem? (i := 395) (by decide +kernel), List.mem_of_getElem? (i := 396) (by decide +kernel)⟩
theorem lw_p3 : lw_okq (⟨"LineToWreck", "canAim", "()Z"⟩, 12) := ⟨⟨by decide +kernel, by decide +kernel⟩, List.mem_of_getElem? (i := 17) (by decide +kernel), List.mem_of_getElem? (i := 471) (by decide +kernel), List.mem_of_getElem? (i := 472) (by decide +kernel)⟩
theorem lw_p4 : lw_okq (⟨"LineToWreck", "isAfloat", "()Z"⟩, 12) := ⟨⟨by decide +kernel, by decide +kernel⟩, List.mem_of_getElem? (i := 17) (by decide +kernel), List.mem_of_getElem? (i := 475) (by decide +kernel), List.mem_of_getElem? (i := 476) (by decide +kernel)⟩
theorem lw_p5 : lw_okq (⟨"LineToWreck$AimSearch", "findBest", "(LLineToWreck$Sea;LLineToWreck$Rockets;II)V"⟩, 4) := ⟨⟨by decide +kernel, by decide +kernel⟩, List.mem_of_getElem? (i := 186) (by decide +kernel), List.mem_of_getElem? (i := 491) (by decide +kernel), List.mem_of_getElem? (i := 492) (by decide +kernel)⟩
theorem lw_p6 : lw_okq (⟨"LineToWreck$AimSearch", "chance", "(IIJ)J"⟩, 4) := ⟨⟨by decide +kernel, by decide +kernel⟩, List.mem_of_getElem? (i := 186) (by decide +kernel), List.mem_of_getElem? (i := 502) (by decide +kernel), List.mem_of_getElem? (i := 503) (by decide +kernel)⟩
theorem lw_p7 : lw_okq (⟨"LineToWreck", "mayCome", "(I)Z"⟩, 12) := ⟨⟨by decide +kernel, by decide +kernel⟩, List.mem_of_getElem? (i := 17) (by decide +kernel), List.mem_of_getElem? (i := 569) (by decide +kernel), List.mem_of_getElem? (i := 570) (by decide +kernel)⟩
theorem lw_p8 : lw_okq (⟨"LineToWreck$Crew", "allButCaptains", "()I"⟩, 4) := ⟨⟨by decide +kernel, by decide +kernel⟩, List.mem_of_getElem? (i := 87) (by decide +kernel), List.mem_of_getElem? (i := 577) (by decide +kernel), List.mem_of_getElem? (i := 578) (by decide +kernel)⟩
theorem lw_p9 : lw_okq (⟨"LineToWreck", "areTwoMen", "(II)Z"⟩, 12) := ⟨⟨by decide +kernel, by decide +kernel⟩, List.mem_of_getElem? (i := 17) (by decide +kernel), List.mem_of_getElem? (i := 601) (by decide +kernel), List.mem_of_getElem? (i := 602) (by decide +kernel)⟩
theorem lw_p10 : lw_okq (⟨"LineToWreck$OrderSearch", "findNext", "(LLineToWreck$Crew;I)V"⟩, 4) := ⟨⟨by decide +kernel, by decide +kernel⟩, List.mem_of_getElem? (i := 209) (by decide +kernel), List.mem_of_getElem? (i := 652) (by decide +kernel), List.mem_of_getElem? (i := 653) (by decide +kernel)⟩
theorem lw_p11 : lw_okq (⟨"LineToWreck$Successions", "countWays", "()V"⟩, 5) := ⟨⟨by decide +kernel, by decide +kernel⟩, List.mem_of_getElem? (i := 228) (by decide +kernel), List.mem_of_getElem? (i := 713) (by decide +kernel), List.mem_of_getElem? (i := 714) (by decide +kernel)⟩
theorem lw_p12 : lw_okq (⟨"LineToWreck$Successions", "mayFollow", "(II)Z"⟩, 5) := ⟨⟨by decide +kernel, by decide +kernel⟩, List.mem_of_getElem? (i := 228) (by decide +kernel), List.mem_of_getElem? (i := 718) (by decide +kernel), List.mem_of_getElem? (i := 719) (by decide +kernel)⟩
theorem lw_p13 : lw_okq (⟨"LineToWreck$Successions", "countRests", "()V"⟩, 5) := ⟨⟨by decide +kernel, by decide +kernel⟩, List.mem_of_getElem? (i := 228) (by decide +kernel), List.mem_of_getElem? (i := 726) (by decide +kernel), List.mem_of_getElem? (i := 727) (by decide +kernel)⟩
theorem lw_p14 : lw_okq (⟨"LineToWreck$Course", "leastWreckFrom", "(I)I"⟩, 11) := ⟨⟨by decide +kernel, by decide +kernel⟩, List.mem_of_getElem? (i := 109) (by decide +kernel), List.mem_of_getElem? (i := 759) (by decide +kernel), List.mem_of_getElem? (i := 760) (by decide +kernel)⟩
theorem lw_p15 : lw_okq (⟨"LineToWreck$Course", "stationFor", "(II)I"⟩, 11) := ⟨⟨by decide +kernel, by decide +kernel⟩, List.mem_of_getElem? (i := 109) (by decide +kernel), List.mem_of_getElem? (i := 763) (by decide +kernel), List.mem_of_getElem? (i := 764) (by decide +kernel)⟩
def lw_privs_1 : List (MethodName × Nat) := [(⟨"LineToWreck$Page", "fits", "(I)Z"⟩, 2), (⟨"LineToWreck$Page", "gustsTo", "(I)I"⟩, 2), (⟨"LineToWreck", "hasNight", "()Z"⟩, 12), (⟨"LineToWreck", "canAim", "()Z"⟩, 12), (⟨"LineToWreck", "isAfloat", "()Z"⟩, 12), (⟨"LineToWreck$AimSearch", "findBest", "(LLineToWreck$Sea;LLineToWreck$Rockets;II)V"⟩, 4), (⟨"LineToWreck$AimSearch", "chance", "(IIJ)J"⟩, 4), (⟨"LineToWreck", "mayCome", "(I)Z"⟩, 12), (⟨"LineToWreck$Crew", "allButCaptains", "()I"⟩, 4), (⟨"LineToWreck", "areTwoMen", "(II)Z"⟩, 12), (⟨"LineToWreck$OrderSearch", "findNext", "(LLineToWreck$Crew;I)V"⟩, 4), (⟨"LineToWreck$Successions", "countWays", "()V"⟩, 5), (⟨"LineToWreck$Successions", "mayFollow", "(II)Z"⟩, 5), (⟨"LineToWreck$Successions", "countRests", "()V"⟩, 5), (⟨"LineToWreck$Course", "leastWreckFrom", "(I)I"⟩, 11), (⟨"LineToWreck$Course", "stationFor", "(II)I"⟩, 11)]
theorem lw_r1 : ∀ q ∈ lw_privs_1, lw_okq q := List.forall_mem_cons.mpr ⟨lw_p0, List.forall_mem_cons.mpr ⟨lw_p1, List.forall_mem_cons.mpr ⟨lw_p2, List.forall_mem_cons.mpr ⟨lw_p3, List.forall_mem_cons.mpr ⟨lw_p4, List.forall_mem_cons.mpr ⟨lw_p5, List.forall_mem_cons.mpr ⟨lw_p6, List.forall_mem_cons.mpr ⟨lw_p7, List.forall_mem_cons.mpr ⟨lw_p8, List.forall_mem_cons.mpr ⟨lw_p9, List.forall_mem_cons.mpr ⟨lw_p10, List.forall_mem_cons.mpr ⟨lw_p11, List.forall_mem_cons.mpr ⟨lw_p12, List.forall_mem_cons.mpr ⟨lw_p13, List.forall_mem_cons.mpr ⟨lw_p14, List.forall_mem_cons.mpr ⟨lw_p15, fun _ h => absurd h List.not_mem_nil⟩⟩⟩⟩⟩⟩⟩⟩⟩⟩⟩⟩⟩⟩⟩⟩
theorem lw_p16 : lw_okq (⟨"LineToWreck$Trial", "drawGust", "(LLineToWreck$Sea;)I"⟩, 4) := ⟨⟨by decide +kernel, by decide +kernel⟩, List.mem_of_getElem? (i := 250) (by decide +kernel), List.mem_of_getElem? (i := 788) (by decide +kernel), List.mem_of_getElem? (i := 789) (by decide +kernel)⟩
theorem lw_p17 : lw_okq (⟨"LineToWreck$Trial", "draw", "()I"⟩, 4) := ⟨⟨by decide +kernel, by decide +kernel⟩, List.mem_of_getElem? (i := 250) (by decide +kernel), List.mem_of_getElem? (i := 792) (by decide +kernel), List.mem_of_getElem? (i := 793) (by decide +kernel)⟩
theorem lw_p18 : lw_okq (⟨"LineToWreck", "mixSea", "(J)J"⟩, 12) := ⟨⟨by decide +kernel, by decide +kernel⟩, List.mem_of_getElem? (i := 17) (by decide +kernel), List.mem_of_getElem? (i := 830) (by decide +kernel), List.mem_of_getElem? (i := 831) (by decide +kernel)⟩
theorem lw_p19 : lw_okq (⟨"LineToWreckModel", "faultOf", "()I"⟩, 49) := ⟨⟨by decide +kernel, by decide +kernel⟩, List.mem_of_getElem? (i := 845) (by decide +kernel), List.mem_of_getElem? (i := 1015) (by decide +kernel), List.mem_of_getElem? (i := 1016) (by decide +kernel)⟩
theorem lw_p20 : lw_okq (⟨"LineToWreckModel", "go", "(II)Z"⟩, 49) := ⟨⟨by decide +kernel, by decide +kernel⟩, List.mem_of_getElem? (i := 845) (by decide +kernel), List.mem_of_getElem? (i := 1019) (by decide +kernel), List.mem_of_getElem? (i := 1020) (by decide +kernel)⟩
theorem lw_p21 : lw_okq (⟨"LineToWreckModel", "goGust", "(II)Z"⟩, 49) := ⟨⟨by decide +kernel, by decide +kernel⟩, List.mem_of_getElem? (i := 845) (by decide +kernel), List.mem_of_getElem? (i := 1024) (by decide +kernel), List.mem_of_getElem? (i := 1025) (by decide +kernel)⟩
theorem lw_p22 : lw_okq (⟨"LineToWreckModel", "lacks", "()Z"⟩, 49) := ⟨⟨by decide +kernel, by decide +kernel⟩, List.mem_of_getElem? (i := 845) (by decide +kernel), List.mem_of_getElem? (i := 1039) (by decide +kernel), List.mem_of_getElem? (i := 1040) (by decide +kernel)⟩
theorem lw_p23 : lw_okq (⟨"LineToWreckModel", "tellSea", "(I)I"⟩, 49) := ⟨⟨by decide +kernel, by decide +kernel⟩, List.mem_of_getElem? (i := 845) (by decide +kernel), List.mem_of_getElem? (i := 1043) (by decide +kernel), List.mem_of_getElem? (i := 1044) (by decide +kernel)⟩
theorem lw_p24 : lw_okq (⟨"LineToWreckModel", "isRocket", "(I)Z"⟩, 49) := ⟨⟨by decide +kernel, by decide +kernel⟩, List.mem_of_getElem? (i := 845) (by decide +kernel), List.mem_of_getElem? (i := 1056) (by decide +kernel), List.mem_of_getElem? (i := 1057) (by decide +kernel)⟩
theorem lw_p25 : lw_okq (⟨"LineToWreckModel", "stageNow", "()I"⟩, 49) := ⟨⟨by decide +kernel, by decide +kernel⟩, List.mem_of_getElem? (i := 845) (by decide +kernel), List.mem_of_getElem? (i := 1061) (by decide +kernel), List.mem_of_getElem? (i := 1062) (by decide +kernel)⟩
theorem lw_p26 : lw_okq (⟨"LineToWreckModel", "fallsAt", "(III)I"⟩, 49) := ⟨⟨by decide +kernel, by decide +kernel⟩, List.mem_of_getElem? (i := 845) (by decide +kernel), List.mem_of_getElem? (i := 1065) (by decide +kernel), List.mem_of_getElem? (i := 1066) (by decide +kernel)⟩
theorem lw_p27 : lw_okq (⟨"LineToWreckModel", "isRight", "(I)Z"⟩, 49) := ⟨⟨by decide +kernel, by decide +kernel⟩, List.mem_of_getElem? (i := 845) (by decide +kernel), List.mem_of_getElem? (i := 1069) (by decide +kernel), List.mem_of_getElem? (i := 1070) (by decide +kernel)⟩
theorem lw_p28 : lw_okq (⟨"LineToWreckModel", "hitTenths", "(II)I"⟩, 49) := ⟨⟨by decide +kernel, by decide +kernel⟩, List.mem_of_getElem? (i := 845) (by decide +kernel), List.mem_of_getElem? (i := 1079) (by decide +kernel), List.mem_of_getElem? (i := 1080) (by decide +kernel)⟩
theorem lw_p29 : lw_okq (⟨"LineToWreckModel", "isAiming", "()Z"⟩, 49) := ⟨⟨by decide +kernel, by decide +kernel⟩, List.mem_of_getElem? (i := 845) (by decide +kernel), List.mem_of_getElem? (i := 1090) (by decide +kernel), List.mem_of_getElem? (i := 1091) (by decide +kernel)⟩
theorem lw_p30 : lw_okq (⟨"LineToWreckModel", "aimOf", "(I)J"⟩, 49) := ⟨⟨by decide +kernel, by decide +kernel⟩, List.mem_of_getElem? (i := 845) (by decide +kernel), List.mem_of_getElem? (i := 1094) (by decide +kernel), List.mem_of_getElem? (i := 1095) (by decide +kernel)⟩
theorem lw_p31 : lw_okq (⟨"LineToWreckModel", "bestOf", "(IJI)J"⟩, 49) := ⟨⟨by decide +kernel, by decide +kernel⟩, List.mem_of_getElem? (i := 845) (by decide +kernel), List.mem_of_getElem? (i := 1099) (by decide +kernel), List.mem_of_getElem? (i := 1100) (by decide +kernel)⟩
def lw_privs_2 : List (MethodName × Nat) := [(⟨"LineToWreck$Trial", "drawGust", "(LLineToWreck$Sea;)I"⟩, 4), (⟨"LineToWreck$Trial", "draw", "()I"⟩, 4), (⟨"LineToWreck", "mixSea", "(J)J"⟩, 12), (⟨"LineToWreckModel", "faultOf", "()I"⟩, 49), (⟨"LineToWreckModel", "go", "(II)Z"⟩, 49), (⟨"LineToWreckModel", "goGust", "(II)Z"⟩, 49), (⟨"LineToWreckModel", "lacks", "()Z"⟩, 49), (⟨"LineToWreckModel", "tellSea", "(I)I"⟩, 49), (⟨"LineToWreckModel", "isRocket", "(I)Z"⟩, 49), (⟨"LineToWreckModel", "stageNow", "()I"⟩, 49), (⟨"LineToWreckModel", "fallsAt", "(III)I"⟩, 49), (⟨"LineToWreckModel", "isRight", "(I)Z"⟩, 49), (⟨"LineToWreckModel", "hitTenths", "(II)I"⟩, 49), (⟨"LineToWreckModel", "isAiming", "()Z"⟩, 49), (⟨"LineToWreckModel", "aimOf", "(I)J"⟩, 49), (⟨"LineToWreckModel", "bestOf", "(IJI)J"⟩, 49)]
theorem lw_r2 : ∀ q ∈ lw_privs_2, lw_okq q := List.forall_mem_cons.mpr ⟨lw_p16, List.forall_mem_cons.mpr ⟨lw_p17, List.forall_mem_cons.mpr ⟨lw_p18, List.forall_mem_cons.mpr ⟨lw_p19, List.forall_mem_cons.mpr ⟨lw_p20, List.forall_mem_cons.mpr ⟨lw_p21, List.forall_mem_cons.mpr ⟨lw_p22, List.forall_mem_cons.mpr ⟨lw_p23, List.forall_mem_cons.mpr ⟨lw_p24, List.forall_mem_cons.mpr ⟨lw_p25, List.forall_mem_cons.mpr ⟨lw_p26, List.forall_mem_cons.mpr ⟨lw_p27, List.forall_mem_cons.mpr ⟨lw_p28, List.forall_mem_cons.mpr ⟨lw_p29, List.forall_mem_cons.mpr ⟨lw_p30, List.forall_mem_cons.mpr ⟨lw_p31, fun _ h => absurd h List.not_mem_nil⟩⟩⟩⟩⟩⟩⟩⟩⟩⟩⟩⟩⟩⟩⟩⟩
theorem lw_p32 : lw_okq (⟨"LineToWreckModel", "leftBits", "()I"⟩, 49) := ⟨⟨by decide +kernel, by decide +kernel⟩, List.mem_of_getElem? (i := 845) (by decide +kernel), List.mem_of_getElem? (i := 1103) (by decide +kernel), List.mem_of_getElem? (i := 1104) (by decide +kernel)⟩
theorem lw_p33 : lw_okq (⟨"LineToWreckModel", "layLater", "(I)V"⟩, 49) := ⟨⟨by decide +kernel, by decide +kernel⟩, List.mem_of_getElem? (i := 845) (by decide +kernel), List.mem_of_getElem? (i := 1115) (by decide +kernel), List.mem_of_getElem? (i := 1116) (by decide +kernel)⟩
theorem lw_p34 : lw_okq (⟨"LineToWreckModel", "isMan", "(I)Z"⟩, 49) := ⟨⟨by decide +kernel, by decide +kernel⟩, List.mem_of_getElem? (i := 845) (by decide +kernel), List.mem_of_getElem? (i := 1128) (by decide +kernel), List.mem_of_getElem? (i := 1129) (by decide +kernel)⟩
theorem lw_p35 : lw_okq (⟨"LineToWreckModel", "tellMan", "(II)I"⟩, 49) := ⟨⟨by decide +kernel, by decide +kernel⟩, List.mem_of_getElem? (i := 845) (by decide +kernel), List.mem_of_getElem? (i := 1132) (by decide +kernel), List.mem_of_getElem? (i := 1133) (by decide +kernel)⟩
theorem lw_p36 : lw_okq (⟨"LineToWreckModel", "takes", "(I)I"⟩, 49) := ⟨⟨by decide +kernel, by decide +kernel⟩, List.mem_of_getElem? (i := 845) (by decide +kernel), List.mem_of_getElem? (i := 1136) (by decide +kernel), List.mem_of_getElem? (i := 1137) (by decide +kernel)⟩
theorem lw_p37 : lw_okq (⟨"LineToWreckModel", "sags", "(I)Z"⟩, 49) := ⟨⟨by decide +kernel, by decide +kernel⟩, List.mem_of_getElem? (i := 845) (by decide +kernel), List.mem_of_getElem? (i := 1140) (by decide +kernel), List.mem_of_getElem? (i := 1141) (by decide +kernel)⟩
theorem lw_p38 : lw_okq (⟨"LineToWreckModel", "mayCome", "(I)Z"⟩, 49) := ⟨⟨by decide +kernel, by decide +kernel⟩, List.mem_of_getElem? (i := 845) (by decide +kernel), List.mem_of_getElem? (i := 1144) (by decide +kernel), List.mem_of_getElem? (i := 1145) (by decide +kernel)⟩
theorem lw_p39 : lw_okq (⟨"LineToWreckModel", "overBits", "()I"⟩, 49) := ⟨⟨by decide +kernel, by decide +kernel⟩, List.mem_of_getElem? (i := 845) (by decide +kernel), List.mem_of_getElem? (i := 1148) (by decide +kernel), List.mem_of_getElem? (i := 1149) (by decide +kernel)⟩
theorem lw_p40 : lw_okq (⟨"LineToWreckModel", "canCome", "(II)Z"⟩, 49) := ⟨⟨by decide +kernel, by decide +kernel⟩, List.mem_of_getElem? (i := 845) (by decide +kernel), List.mem_of_getElem? (i := 1152) (by decide +kernel), List.mem_of_getElem? (i := 1153) (by decide +kernel)⟩
theorem lw_p41 : lw_okq (⟨"LineToWreckModel", "firstOrder", "(I)V"⟩, 49) := ⟨⟨by decide +kernel, by decide +kernel⟩, List.mem_of_getElem? (i := 845) (by decide +kernel), List.mem_of_getElem? (i := 1190) (by decide +kernel), List.mem_of_getElem? (i := 1191) (by decide +kernel)⟩
theorem lw_p42 : lw_okq (⟨"LineToWreckModel", "meanOf", "()J"⟩, 49) := ⟨⟨by decide +kernel, by decide +kernel⟩, List.mem_of_getElem? (i := 845) (by decide +kernel), List.mem_of_getElem? (i := 1194) (by decide +kernel), List.mem_of_getElem? (i := 1195) (by decide +kernel)⟩
theorem lw_p43 : lw_okq (⟨"LineToWreckModel", "holds", "(I)J"⟩, 49) := ⟨⟨by decide +kernel, by decide +kernel⟩, List.mem_of_getElem? (i := 845) (by decide +kernel), List.mem_of_getElem? (i := 1198) (by decide +kernel), List.mem_of_getElem? (i := 1199) (by decide +kernel)⟩
theorem lw_p44 : lw_okq (⟨"LineToWreckModel", "nextOrder", "()Z"⟩, 49) := ⟨⟨by decide +kernel, by decide +kernel⟩, List.mem_of_getElem? (i := 845) (by decide +kernel), List.mem_of_getElem? (i := 1203) (by decide +kernel), List.mem_of_getElem? (i := 1204) (by decide +kernel)⟩
theorem lw_p45 : lw_okq (⟨"LineToWreckModel", "layOrders", "()I"⟩, 49) := ⟨⟨by decide +kernel, by decide +kernel⟩, List.mem_of_getElem? (i := 845) (by decide +kernel), List.mem_of_getElem? (i := 1215) (by decide +kernel), List.mem_of_getElem? (i := 1216) (by decide +kernel)⟩
theorem lw_p46 : lw_okq (⟨"LineToWreckModel", "isSaidSo", "()Z"⟩, 49) := ⟨⟨by decide +kernel, by decide +kernel⟩, List.mem_of_getElem? (i := 845) (by decide +kernel), List.mem_of_getElem? (i := 1219) (by decide +kernel), List.mem_of_getElem? (i := 1220) (by decide +kernel)⟩
theorem lw_p47 : lw_okq (⟨"LineToWreckModel", "placeOf", "(I)I"⟩, 49) := ⟨⟨by decide +kernel, by decide +kernel⟩, List.mem_of_getElem? (i := 845) (by decide +kernel), List.mem_of_getElem? (i := 1223) (by decide +kernel), List.mem_of_getElem? (i := 1224) (by decide +kernel)⟩
def lw_privs_3 : List (MethodName × Nat) := [(⟨"LineToWreckModel", "leftBits", "()I"⟩, 49), (⟨"LineToWreckModel", "layLater", "(I)V"⟩, 49), (⟨"LineToWreckModel", "isMan", "(I)Z"⟩, 49), (⟨"LineToWreckModel", "tellMan", "(II)I"⟩, 49), (⟨"LineToWreckModel", "takes", "(I)I"⟩, 49), (⟨"LineToWreckModel", "sags", "(I)Z"⟩, 49), (⟨"LineToWreckModel", "mayCome", "(I)Z"⟩, 49), (⟨"LineToWreckModel", "overBits", "()I"⟩, 49), (⟨"LineToWreckModel", "canCome", "(II)Z"⟩, 49), (⟨"LineToWreckModel", "firstOrder", "(I)V"⟩, 49), (⟨"LineToWreckModel", "meanOf", "()J"⟩, 49), (⟨"LineToWreckModel", "holds", "(I)J"⟩, 49), (⟨"LineToWreckModel", "nextOrder", "()Z"⟩, 49), (⟨"LineToWreckModel", "layOrders", "()I"⟩, 49), (⟨"LineToWreckModel", "isSaidSo", "()Z"⟩, 49), (⟨"LineToWreckModel", "placeOf", "(I)I"⟩, 49)]
theorem lw_r3 : ∀ q ∈ lw_privs_3, lw_okq q := List.forall_mem_cons.mpr ⟨lw_p32, List.forall_mem_cons.mpr ⟨lw_p33, List.forall_mem_cons.mpr ⟨lw_p34, List.forall_mem_cons.mpr ⟨lw_p35, List.forall_mem_cons.mpr ⟨lw_p36, List.forall_mem_cons.mpr ⟨lw_p37, List.forall_mem_cons.mpr ⟨lw_p38, List.forall_mem_cons.mpr ⟨lw_p39, List.forall_mem_cons.mpr ⟨lw_p40, List.forall_mem_cons.mpr ⟨lw_p41, List.forall_mem_cons.mpr ⟨lw_p42, List.forall_mem_cons.mpr ⟨lw_p43, List.forall_mem_cons.mpr ⟨lw_p44, List.forall_mem_cons.mpr ⟨lw_p45, List.forall_mem_cons.mpr ⟨lw_p46, List.forall_mem_cons.mpr ⟨lw_p47, fun _ h => absurd h List.not_mem_nil⟩⟩⟩⟩⟩⟩⟩⟩⟩⟩⟩⟩⟩⟩⟩⟩
theorem lw_p48 : lw_okq (⟨"LineToWreckModel", "stationsOf", "(II)I"⟩, 49) := ⟨⟨by decide +kernel, by decide +kernel⟩, List.mem_of_getElem? (i := 845) (by decide +kernel), List.mem_of_getElem? (i := 1240) (by decide +kernel), List.mem_of_getElem? (i := 1241) (by decide +kernel)⟩
theorem lw_p49 : lw_okq (⟨"LineToWreckModel", "draw", "(I)I"⟩, 49) := ⟨⟨by decide +kernel, by decide +kernel⟩, List.mem_of_getElem? (i := 845) (by decide +kernel), List.mem_of_getElem? (i := 1249) (by decide +kernel), List.mem_of_getElem? (i := 1250) (by decide +kernel)⟩
theorem lw_p50 : lw_okq (⟨"LineToWreckModel", "countOf", "(I)I"⟩, 49) := ⟨⟨by decide +kernel, by decide +kernel⟩, List.mem_of_getElem? (i := 845) (by decide +kernel), List.mem_of_getElem? (i := 1272) (by decide +kernel), List.mem_of_getElem? (i := 1273) (by decide +kernel)⟩
theorem lw_p51 : lw_okq (⟨"LineToWreckModel", "say", "(J)V"⟩, 49) := ⟨⟨by decide +kernel, by decide +kernel⟩, List.mem_of_getElem? (i := 845) (by decide +kernel), List.mem_of_getElem? (i := 1281) (by decide +kernel), List.mem_of_getElem? (i := 1282) (by decide +kernel)⟩
def lw_privs_4 : List (MethodName × Nat) := [(⟨"LineToWreckModel", "stationsOf", "(II)I"⟩, 49), (⟨"LineToWreckModel", "draw", "(I)I"⟩, 49), (⟨"LineToWreckModel", "countOf", "(I)I"⟩, 49), (⟨"LineToWreckModel", "say", "(J)V"⟩, 49)]
theorem lw_r4 : ∀ q ∈ lw_privs_4, lw_okq q := List.forall_mem_cons.mpr ⟨lw_p48, List.forall_mem_cons.mpr ⟨lw_p49, List.forall_mem_cons.mpr ⟨lw_p50, List.forall_mem_cons.mpr ⟨lw_p51, fun _ h => absurd h List.not_mem_nil⟩⟩⟩⟩
def lw_privs : List (MethodName × Nat) := lw_privs_1 ++ (lw_privs_2 ++ (lw_privs_3 ++ (lw_privs_4)))
def lw_tbl : List Cond := k2_sels lw_privs ++ tables_1
theorem lw_privs_ok : ∀ q ∈ lw_privs, lw_okq q := by
  show ∀ q ∈ lw_privs_1 ++ (lw_privs_2 ++ (lw_privs_3 ++ (lw_privs_4))), lw_okq q
  exact List.forall_mem_append.mpr ⟨lw_r1, List.forall_mem_append.mpr ⟨lw_r2, List.forall_mem_append.mpr ⟨lw_r3, lw_r4⟩⟩⟩
-- ===== end of PART A; then your names; then what follows =====
end
section
def RX0 : String := "LineToWreck$AimSearch"
def TX0 : u_T := fun k => match k with
  | 0 => ("LineToWreck$AimSearch", "best", "J", false)
  | 1 => ("LineToWreck$AimSearch", "whole", "J", false)
  | 2 => ("LineToWreck$AimSearch", "choice", "I", false)
  | _ => ("LineToWreck$AimSearch", "chances", "[J", true)
def tyX0 : Nat → FieldType := fun k => match k with
  | 0 => .long
  | 1 => .long
  | 2 => .int
  | _ => .array .long
abbrev wsX00 : List Cond := u_ws RX0 TX0 4
theorem nmX0 : ∀ a, a < 4 → ∀ b, b < 4 → a ≠ b → (TX0 a).2.1 ≠ (TX0 b).2.1 := by decide +kernel
theorem tyX0_ok : ∀ k, k < 4 → parseFieldDescriptor (TX0 k).2.2.1 = some (tyX0 k) := by decide +kernel
abbrev cX0_init : ByteArray := prog_2_method_1_code
def yX0_init : MethodName := ⟨RX0, "<init>", "()V"⟩
abbrev cX0_search : ByteArray := prog_2_method_2_code
def yX0_search : MethodName := ⟨RX0, "search", "(LLineToWreck$Sea;LLineToWreck$Rockets;LLineToWreck$Course;I)V"⟩
abbrev cX0_findBest : ByteArray := prog_2_method_3_code
def yX0_findBest : MethodName := ⟨RX0, "findBest", "(LLineToWreck$Sea;LLineToWreck$Rockets;II)V"⟩
abbrev cX0_chance : ByteArray := prog_2_method_4_code
def yX0_chance : MethodName := ⟨RX0, "chance", "(IIJ)J"⟩
def RX1 : String := "LineToWreck$Course"
def TX1 : u_T := fun k => match k with
  | 0 => ("LineToWreck$Course", "minute", "I", false)
  | 1 => ("LineToWreck$Course", "line", "Z", false)
  | 2 => ("LineToWreck$Course", "broken", "Z", false)
  | 3 => ("LineToWreck$Course", "fired", "I", false)
  | 4 => ("LineToWreck$Course", "over", "I", false)
  | 5 => ("LineToWreck$Course", "hawser", "I", false)
  | 6 => ("LineToWreck$Course", "saidCount", "I", false)
  | 7 => ("LineToWreck$Course", "wreckCount", "I", false)
  | 8 => ("LineToWreck$Course", "overMinutes", "[I", true)
  | 9 => ("LineToWreck$Course", "saidAheads", "[I", true)
  | _ => ("LineToWreck$Course", "wrecks", "[I", true)
def tyX1 : Nat → FieldType := fun k => match k with
  | 0 => .int
  | 1 => .boolean
  | 2 => .boolean
  | 3 => .int
  | 4 => .int
  | 5 => .int
  | 6 => .int
  | 7 => .int
  | 8 => .array .int
  | 9 => .array .int
  | _ => .array .int
abbrev wsX10 : List Cond := u_ws RX1 TX1 11
theorem nmX1 : ∀ a, a < 11 → ∀ b, b < 11 → a ≠ b → (TX1 a).2.1 ≠ (TX1 b).2.1 := by decide +kernel
theorem tyX1_ok : ∀ k, k < 11 → parseFieldDescriptor (TX1 k).2.2.1 = some (tyX1 k) := by decide +kernel
abbrev cX1_init : ByteArray := prog_3_method_1_code
def yX1_init : MethodName := ⟨RX1, "<init>", "()V"⟩
abbrev cX1_clear : ByteArray := prog_3_method_2_code
def yX1_clear : MethodName := ⟨RX1, "clear", "()V"⟩
abbrev cX1_takeFrom : ByteArray := prog_3_method_3_code
def yX1_takeFrom : MethodName := ⟨RX1, "takeFrom", "(LLineToWreck$Course;)V"⟩
abbrev cX1_stage : ByteArray := prog_3_method_4_code
def yX1_stage : MethodName := ⟨RX1, "stage", "()I"⟩
abbrev cX1_bringOver : ByteArray := prog_3_method_5_code
def yX1_bringOver : MethodName := ⟨RX1, "bringOver", "(II)V"⟩
abbrev cX1_overMinute : ByteArray := prog_3_method_6_code
def yX1_overMinute : MethodName := ⟨RX1, "overMinute", "(I)I"⟩
abbrev cX1_say : ByteArray := prog_3_method_7_code
def yX1_say : MethodName := ⟨RX1, "say", "(II)V"⟩
abbrev cX1_saidAhead : ByteArray := prog_3_method_8_code
def yX1_saidAhead : MethodName := ⟨RX1, "saidAhead", "(I)I"⟩
abbrev cX1_addWreck : ByteArray := prog_3_method_9_code
def yX1_addWreck : MethodName := ⟨RX1, "addWreck", "(I)V"⟩
abbrev cX1_firstStation : ByteArray := prog_3_method_10_code
def yX1_firstStation : MethodName := ⟨RX1, "firstStation", "(I)I"⟩
abbrev cX1_fewestStations : ByteArray := prog_3_method_11_code
def yX1_fewestStations : MethodName := ⟨RX1, "fewestStations", "(I)I"⟩
abbrev cX1_stationFor : ByteArray := prog_3_method_12_code
def yX1_stationFor : MethodName := ⟨RX1, "stationFor", "(II)I"⟩
abbrev cX1_leastWreckFrom : ByteArray := prog_3_method_13_code
def yX1_leastWreckFrom : MethodName := ⟨RX1, "leastWreckFrom", "(I)I"⟩
def RX2 : String := "LineToWreck$Crew"
def TX2 : u_T := fun k => match k with
  | 0 => ("LineToWreck$Crew", "number", "I", false)
  | 1 => ("LineToWreck$Crew", "kinds", "[I", true)
  | 2 => ("LineToWreck$Crew", "weights", "[I", true)
  | _ => ("LineToWreck$Crew", "aheads", "[I", true)
def tyX2 : Nat → FieldType := fun k => match k with
  | 0 => .int
  | 1 => .array .int
  | 2 => .array .int
  | _ => .array .int
abbrev wsX20 : List Cond := u_ws RX2 TX2 4
theorem nmX2 : ∀ a, a < 4 → ∀ b, b < 4 → a ≠ b → (TX2 a).2.1 ≠ (TX2 b).2.1 := by decide +kernel
theorem tyX2_ok : ∀ k, k < 4 → parseFieldDescriptor (TX2 k).2.2.1 = some (tyX2 k) := by decide +kernel
abbrev cX2_init : ByteArray := prog_4_method_1_code
def yX2_init : MethodName := ⟨RX2, "<init>", "()V"⟩
abbrev cX2_clear : ByteArray := prog_4_method_2_code
def yX2_clear : MethodName := ⟨RX2, "clear", "()V"⟩
abbrev cX2_has : ByteArray := prog_4_method_3_code
def yX2_has : MethodName := ⟨RX2, "has", "(I)Z"⟩
abbrev cX2_add : ByteArray := prog_4_method_4_code
def yX2_add : MethodName := ⟨RX2, "add", "(II)I"⟩
abbrev cX2_all : ByteArray := prog_4_method_5_code
def yX2_all : MethodName := ⟨RX2, "all", "()I"⟩
abbrev cX2_kind : ByteArray := prog_4_method_6_code
def yX2_kind : MethodName := ⟨RX2, "kind", "(I)I"⟩
abbrev cX2_weight : ByteArray := prog_4_method_7_code
def yX2_weight : MethodName := ⟨RX2, "weight", "(I)I"⟩
abbrev cX2_isOf : ByteArray := prog_4_method_8_code
def yX2_isOf : MethodName := ⟨RX2, "isOf", "(II)Z"⟩
abbrev cX2_putBehind : ByteArray := prog_4_method_9_code
def yX2_putBehind : MethodName := ⟨RX2, "putBehind", "(IIZ)Z"⟩
abbrev cX2_ahead : ByteArray := prog_4_method_10_code
def yX2_ahead : MethodName := ⟨RX2, "ahead", "(I)I"⟩
abbrev cX2_allButCaptains : ByteArray := prog_4_method_11_code
def yX2_allButCaptains : MethodName := ⟨RX2, "allButCaptains", "()I"⟩
abbrev cX2_sags : ByteArray := prog_4_method_12_code
def yX2_sags : MethodName := ⟨RX2, "sags", "(III)Z"⟩
abbrev cX2_takes : ByteArray := prog_4_method_13_code
def yX2_takes : MethodName := ⟨RX2, "takes", "(III)I"⟩
def RX3 : String := "LineToWreck$Image"
def TX3 : u_T := fun k => match k with
  | 0 => ("LineToWreck$Image", "course", "LLineToWreck$Course;", true)
  | 1 => ("LineToWreck$Image", "night", "I", false)
  | 2 => ("LineToWreck$Image", "rockets", "I", false)
  | _ => ("LineToWreck$Image", "men", "I", false)
def tyX3 : Nat → FieldType := fun k => match k with
  | 0 => .object "LineToWreck$Course"
  | 1 => .int
  | 2 => .int
  | _ => .int
abbrev wsX30 : List Cond := u_ws RX3 TX3 4
theorem nmX3 : ∀ a, a < 4 → ∀ b, b < 4 → a ≠ b → (TX3 a).2.1 ≠ (TX3 b).2.1 := by decide +kernel
theorem tyX3_ok : ∀ k, k < 4 → parseFieldDescriptor (TX3 k).2.2.1 = some (tyX3 k) := by decide +kernel
abbrev cX3_init : ByteArray := prog_5_method_1_code
def yX3_init : MethodName := ⟨RX3, "<init>", "()V"⟩
def RX4 : String := "LineToWreck$OrderSearch"
def TX4 : u_T := fun k => match k with
  | 0 => ("LineToWreck$OrderSearch", "most", "J", false)
  | 1 => ("LineToWreck$OrderSearch", "start", "I", false)
  | 2 => ("LineToWreck$OrderSearch", "worths", "[J", true)
  | _ => ("LineToWreck$OrderSearch", "nexts", "[I", true)
def tyX4 : Nat → FieldType := fun k => match k with
  | 0 => .long
  | 1 => .int
  | 2 => .array .long
  | _ => .array .int
abbrev wsX40 : List Cond := u_ws RX4 TX4 4
theorem nmX4 : ∀ a, a < 4 → ∀ b, b < 4 → a ≠ b → (TX4 a).2.1 ≠ (TX4 b).2.1 := by decide +kernel
theorem tyX4_ok : ∀ k, k < 4 → parseFieldDescriptor (TX4 k).2.2.1 = some (tyX4 k) := by decide +kernel
abbrev cX4_init : ByteArray := prog_6_method_1_code
def yX4_init : MethodName := ⟨RX4, "<init>", "()V"⟩
abbrev cX4_search : ByteArray := prog_6_method_2_code
def yX4_search : MethodName := ⟨RX4, "search", "(LLineToWreck$Sea;LLineToWreck$Crew;LLineToWreck$Course;)V"⟩
abbrev cX4_isThere : ByteArray := prog_6_method_3_code
def yX4_isThere : MethodName := ⟨RX4, "isThere", "()Z"⟩
abbrev cX4_most : ByteArray := prog_6_method_4_code
def yX4_most : MethodName := ⟨RX4, "most", "()J"⟩
abbrev cX4_manAt : ByteArray := prog_6_method_5_code
def yX4_manAt : MethodName := ⟨RX4, "manAt", "(I)I"⟩
abbrev cX4_findNext : ByteArray := prog_6_method_6_code
def yX4_findNext : MethodName := ⟨RX4, "findNext", "(LLineToWreck$Crew;I)V"⟩
abbrev cX4_minuteWith : ByteArray := prog_6_method_7_code
def yX4_minuteWith : MethodName := ⟨RX4, "minuteWith", "(LLineToWreck$Sea;LLineToWreck$Crew;LLineToWreck$Course;I)I"⟩
abbrev cX4_holding : ByteArray := prog_6_method_8_code
def yX4_holding : MethodName := ⟨RX4, "holding", "(LLineToWreck$Sea;LLineToWreck$Course;I)J"⟩
def RX5 : String := "LineToWreck$Page"
def TX5 : u_T := fun k => match k with
  | 0 => ("LineToWreck$Page", "letters", "[I", true)
  | _ => ("LineToWreck$Page", "length", "I", false)
def tyX5 : Nat → FieldType := fun k => match k with
  | 0 => .array .int
  | _ => .int
abbrev wsX50 : List Cond := u_ws RX5 TX5 2
theorem nmX5 : ∀ a, a < 2 → ∀ b, b < 2 → a ≠ b → (TX5 a).2.1 ≠ (TX5 b).2.1 := by decide +kernel
theorem tyX5_ok : ∀ k, k < 2 → parseFieldDescriptor (TX5 k).2.2.1 = some (tyX5 k) := by decide +kernel
abbrev cX5_init : ByteArray := prog_7_method_1_code
def yX5_init : MethodName := ⟨RX5, "<init>", "()V"⟩
abbrev cX5_add : ByteArray := prog_7_method_2_code
def yX5_add : MethodName := ⟨RX5, "add", "(I)V"⟩
abbrev cX5_clear : ByteArray := prog_7_method_3_code
def yX5_clear : MethodName := ⟨RX5, "clear", "()V"⟩
abbrev cX5_letterAt : ByteArray := prog_7_method_4_code
def yX5_letterAt : MethodName := ⟨RX5, "letterAt", "(I)I"⟩
abbrev cX5_digitAt : ByteArray := prog_7_method_5_code
def yX5_digitAt : MethodName := ⟨RX5, "digitAt", "(I)I"⟩
abbrev cX5_isNight : ByteArray := prog_7_method_6_code
def yX5_isNight : MethodName := ⟨RX5, "isNight", "()Z"⟩
abbrev cX5_faultPlace : ByteArray := prog_7_method_7_code
def yX5_faultPlace : MethodName := ⟨RX5, "faultPlace", "()I"⟩
abbrev cX5_fits : ByteArray := prog_7_method_8_code
def yX5_fits : MethodName := ⟨RX5, "fits", "(I)Z"⟩
abbrev cX5_gustsTo : ByteArray := prog_7_method_9_code
def yX5_gustsTo : MethodName := ⟨RX5, "gustsTo", "(I)I"⟩
def RX6 : String := "LineToWreck$Rockets"
def TX6 : u_T := fun k => match k with
  | 0 => ("LineToWreck$Rockets", "number", "I", false)
  | 1 => ("LineToWreck$Rockets", "ranges", "[I", true)
  | _ => ("LineToWreck$Rockets", "damps", "[I", true)
def tyX6 : Nat → FieldType := fun k => match k with
  | 0 => .int
  | 1 => .array .int
  | _ => .array .int
abbrev wsX60 : List Cond := u_ws RX6 TX6 3
theorem nmX6 : ∀ a, a < 3 → ∀ b, b < 3 → a ≠ b → (TX6 a).2.1 ≠ (TX6 b).2.1 := by decide +kernel
theorem tyX6_ok : ∀ k, k < 3 → parseFieldDescriptor (TX6 k).2.2.1 = some (tyX6 k) := by decide +kernel
abbrev cX6_init : ByteArray := prog_8_method_1_code
def yX6_init : MethodName := ⟨RX6, "<init>", "()V"⟩
abbrev cX6_clear : ByteArray := prog_8_method_2_code
def yX6_clear : MethodName := ⟨RX6, "clear", "()V"⟩
abbrev cX6_has : ByteArray := prog_8_method_3_code
def yX6_has : MethodName := ⟨RX6, "has", "(I)Z"⟩
abbrev cX6_add : ByteArray := prog_8_method_4_code
def yX6_add : MethodName := ⟨RX6, "add", "(II)I"⟩
abbrev cX6_fallsAt : ByteArray := prog_8_method_5_code
def yX6_fallsAt : MethodName := ⟨RX6, "fallsAt", "(IIILLineToWreck$Sea;)I"⟩
abbrev cX6_hitTenths : ByteArray := prog_8_method_6_code
def yX6_hitTenths : MethodName := ⟨RX6, "hitTenths", "(IILLineToWreck$Sea;)I"⟩
abbrev cX6_left : ByteArray := prog_8_method_7_code
def yX6_left : MethodName := ⟨RX6, "left", "(I)I"⟩
abbrev cX6_leastOf : ByteArray := prog_8_method_8_code
def yX6_leastOf : MethodName := ⟨RX6, "leastOf", "(I)I"⟩
def RX7 : String := "LineToWreck$Sea"
def TX7 : u_T := fun k => match k with
  | 0 => ("LineToWreck$Sea", "far", "I", false)
  | 1 => ("LineToWreck$Sea", "stages", "I", false)
  | 2 => ("LineToWreck$Sea", "wind", "I", false)
  | 3 => ("LineToWreck$Sea", "gusts", "[I", true)
  | _ => ("LineToWreck$Sea", "tenths", "[I", true)
def tyX7 : Nat → FieldType := fun k => match k with
  | 0 => .int
  | 1 => .int
  | 2 => .int
  | 3 => .array .int
  | _ => .array .int
abbrev wsX70 : List Cond := u_ws RX7 TX7 5
theorem nmX7 : ∀ a, a < 5 → ∀ b, b < 5 → a ≠ b → (TX7 a).2.1 ≠ (TX7 b).2.1 := by decide +kernel
theorem tyX7_ok : ∀ k, k < 5 → parseFieldDescriptor (TX7 k).2.2.1 = some (tyX7 k) := by decide +kernel
abbrev cX7_init : ByteArray := prog_9_method_1_code
def yX7_init : MethodName := ⟨RX7, "<init>", "()V"⟩
abbrev cX7_read : ByteArray := prog_9_method_2_code
def yX7_read : MethodName := ⟨RX7, "read", "(LLineToWreck$Page;)V"⟩
abbrev cX7_tell : ByteArray := prog_9_method_3_code
def yX7_tell : MethodName := ⟨RX7, "tell", "(I)I"⟩
abbrev cX7_endMinute : ByteArray := prog_9_method_4_code
def yX7_endMinute : MethodName := ⟨RX7, "endMinute", "()I"⟩
abbrev cX7_gustTenths : ByteArray := prog_9_method_5_code
def yX7_gustTenths : MethodName := ⟨RX7, "gustTenths", "(I)I"⟩
abbrev cX7_breakTenths : ByteArray := prog_9_method_6_code
def yX7_breakTenths : MethodName := ⟨RX7, "breakTenths", "(I)I"⟩
abbrev cX7_isLast : ByteArray := prog_9_method_7_code
def yX7_isLast : MethodName := ⟨RX7, "isLast", "(I)Z"⟩
abbrev cX7_drift : ByteArray := prog_9_method_8_code
def yX7_drift : MethodName := ⟨RX7, "drift", "(I)I"⟩
abbrev cX7_isRight : ByteArray := prog_9_method_9_code
def yX7_isRight : MethodName := ⟨RX7, "isRight", "(I)Z"⟩
def RX8 : String := "LineToWreck$Successions"
def TX8 : u_T := fun k => match k with
  | 0 => ("LineToWreck$Successions", "number", "I", false)
  | 1 => ("LineToWreck$Successions", "all", "I", false)
  | 2 => ("LineToWreck$Successions", "aheads", "[I", true)
  | 3 => ("LineToWreck$Successions", "ways", "[I", true)
  | _ => ("LineToWreck$Successions", "rests", "[I", true)
def tyX8 : Nat → FieldType := fun k => match k with
  | 0 => .int
  | 1 => .int
  | 2 => .array .int
  | 3 => .array .int
  | _ => .array .int
abbrev wsX80 : List Cond := u_ws RX8 TX8 5
theorem nmX8 : ∀ a, a < 5 → ∀ b, b < 5 → a ≠ b → (TX8 a).2.1 ≠ (TX8 b).2.1 := by decide +kernel
theorem tyX8_ok : ∀ k, k < 5 → parseFieldDescriptor (TX8 k).2.2.1 = some (tyX8 k) := by decide +kernel
abbrev cX8_init : ByteArray := prog_10_method_1_code
def yX8_init : MethodName := ⟨RX8, "<init>", "()V"⟩
abbrev cX8_search : ByteArray := prog_10_method_2_code
def yX8_search : MethodName := ⟨RX8, "search", "(LLineToWreck$Crew;LLineToWreck$Course;)V"⟩
abbrev cX8_total : ByteArray := prog_10_method_3_code
def yX8_total : MethodName := ⟨RX8, "total", "()I"⟩
abbrev cX8_surePlace : ByteArray := prog_10_method_4_code
def yX8_surePlace : MethodName := ⟨RX8, "surePlace", "(I)I"⟩
abbrev cX8_countWays : ByteArray := prog_10_method_5_code
def yX8_countWays : MethodName := ⟨RX8, "countWays", "()V"⟩
abbrev cX8_countRests : ByteArray := prog_10_method_6_code
def yX8_countRests : MethodName := ⟨RX8, "countRests", "()V"⟩
abbrev cX8_mayFollow : ByteArray := prog_10_method_7_code
def yX8_mayFollow : MethodName := ⟨RX8, "mayFollow", "(II)Z"⟩
def RX9 : String := "LineToWreck$Trial"
def TX9 : u_T := fun k => match k with
  | 0 => ("LineToWreck$Trial", "seed", "J", false)
  | 1 => ("LineToWreck$Trial", "shots", "I", false)
  | 2 => ("LineToWreck$Trial", "line", "Z", false)
  | _ => ("LineToWreck$Trial", "broken", "Z", false)
def tyX9 : Nat → FieldType := fun k => match k with
  | 0 => .long
  | 1 => .int
  | 2 => .boolean
  | _ => .boolean
abbrev wsX90 : List Cond := u_ws RX9 TX9 4
theorem nmX9 : ∀ a, a < 4 → ∀ b, b < 4 → a ≠ b → (TX9 a).2.1 ≠ (TX9 b).2.1 := by decide +kernel
theorem tyX9_ok : ∀ k, k < 4 → parseFieldDescriptor (TX9 k).2.2.1 = some (tyX9 k) := by decide +kernel
abbrev cX9_init : ByteArray := prog_11_method_1_code
def yX9_init : MethodName := ⟨RX9, "<init>", "()V"⟩
abbrev cX9_run : ByteArray := prog_11_method_2_code
def yX9_run : MethodName := ⟨RX9, "run", "(LLineToWreck$Sea;LLineToWreck$Rockets;LLineToWreck$Course;I)V"⟩
abbrev cX9_drawGust : ByteArray := prog_11_method_3_code
def yX9_drawGust : MethodName := ⟨RX9, "drawGust", "(LLineToWreck$Sea;)I"⟩
abbrev cX9_draw : ByteArray := prog_11_method_4_code
def yX9_draw : MethodName := ⟨RX9, "draw", "()I"⟩
def RX10 : String := "LineToWreck"
def TX10 : u_T := fun k => match k with
  | 0 => ("LineToWreck", "page", "LLineToWreck$Page;", true)
  | 1 => ("LineToWreck", "waters", "LLineToWreck$Sea;", true)
  | 2 => ("LineToWreck", "rockets", "LLineToWreck$Rockets;", true)
  | 3 => ("LineToWreck", "crew", "LLineToWreck$Crew;", true)
  | 4 => ("LineToWreck", "now", "LLineToWreck$Course;", true)
  | 5 => ("LineToWreck", "kept", "LLineToWreck$Image;", true)
  | 6 => ("LineToWreck", "aimSearch", "LLineToWreck$AimSearch;", true)
  | 7 => ("LineToWreck", "orderSearch", "LLineToWreck$OrderSearch;", true)
  | 8 => ("LineToWreck", "successions", "LLineToWreck$Successions;", true)
  | 9 => ("LineToWreck", "trial", "LLineToWreck$Trial;", true)
  | 10 => ("LineToWreck", "nightsRead", "I", false)
  | _ => ("LineToWreck", "ordersDone", "I", false)
def tyX10 : Nat → FieldType := fun k => match k with
  | 0 => .object "LineToWreck$Page"
  | 1 => .object "LineToWreck$Sea"
  | 2 => .object "LineToWreck$Rockets"
  | 3 => .object "LineToWreck$Crew"
  | 4 => .object "LineToWreck$Course"
  | 5 => .object "LineToWreck$Image"
  | 6 => .object "LineToWreck$AimSearch"
  | 7 => .object "LineToWreck$OrderSearch"
  | 8 => .object "LineToWreck$Successions"
  | 9 => .object "LineToWreck$Trial"
  | 10 => .int
  | _ => .int
abbrev wsX100 : List Cond := u_ws RX10 TX10 12
theorem nmX10 : ∀ a, a < 12 → ∀ b, b < 12 → a ≠ b → (TX10 a).2.1 ≠ (TX10 b).2.1 := by decide +kernel
theorem tyX10_ok : ∀ k, k < 12 → parseFieldDescriptor (TX10 k).2.2.1 = some (tyX10 k) := by decide +kernel
abbrev cX10_init : ByteArray := prog_1_method_1_code
def yX10_init : MethodName := ⟨RX10, "<init>", "()V"⟩
abbrev cX10_letter : ByteArray := prog_1_method_2_code
def yX10_letter : MethodName := ⟨RX10, "letter", "(I)I"⟩
abbrev cX10_blank : ByteArray := prog_1_method_3_code
def yX10_blank : MethodName := ⟨RX10, "blank", "()I"⟩
abbrev cX10_fault : ByteArray := prog_1_method_4_code
def yX10_fault : MethodName := ⟨RX10, "fault", "()I"⟩
abbrev cX10_night : ByteArray := prog_1_method_5_code
def yX10_night : MethodName := ⟨RX10, "night", "()I"⟩
abbrev cX10_sea : ByteArray := prog_1_method_6_code
def yX10_sea : MethodName := ⟨RX10, "sea", "(I)I"⟩
abbrev cX10_rocket : ByteArray := prog_1_method_7_code
def yX10_rocket : MethodName := ⟨RX10, "rocket", "(II)I"⟩
abbrev cX10_fire : ByteArray := prog_1_method_8_code
def yX10_fire : MethodName := ⟨RX10, "fire", "(II)I"⟩
abbrev cX10_hits : ByteArray := prog_1_method_9_code
def yX10_hits : MethodName := ⟨RX10, "hits", "(III)J"⟩
abbrev cX10_aim : ByteArray := prog_1_method_10_code
def yX10_aim : MethodName := ⟨RX10, "aim", "(II)J"⟩
abbrev cX10_which : ByteArray := prog_1_method_11_code
def yX10_which : MethodName := ⟨RX10, "which", "(I)I"⟩
abbrev cX10_man : ByteArray := prog_1_method_12_code
def yX10_man : MethodName := ⟨RX10, "man", "(II)I"⟩
abbrev cX10_about : ByteArray := prog_1_method_13_code
def yX10_about : MethodName := ⟨RX10, "about", "(II)I"⟩
abbrev cX10_as : ByteArray := prog_1_method_14_code
def yX10_as : MethodName := ⟨RX10, "as", "(II)I"⟩
abbrev cX10_behind : ByteArray := prog_1_method_15_code
def yX10_behind : MethodName := ⟨RX10, "behind", "(IIZ)I"⟩
abbrev cX10_hawser : ByteArray := prog_1_method_16_code
def yX10_hawser : MethodName := ⟨RX10, "hawser", "(I)I"⟩
abbrev cX10_come : ByteArray := prog_1_method_17_code
def yX10_come : MethodName := ⟨RX10, "come", "(I)I"⟩
abbrev cX10_minutes : ByteArray := prog_1_method_18_code
def yX10_minutes : MethodName := ⟨RX10, "minutes", "(I)I"⟩
abbrev cX10_breaks : ByteArray := prog_1_method_19_code
def yX10_breaks : MethodName := ⟨RX10, "breaks", "()I"⟩
abbrev cX10_order : ByteArray := prog_1_method_20_code
def yX10_order : MethodName := ⟨RX10, "order", "(I)J"⟩
abbrev cX10_said : ByteArray := prog_1_method_21_code
def yX10_said : MethodName := ⟨RX10, "said", "(II)I"⟩
abbrev cX10_orders : ByteArray := prog_1_method_22_code
def yX10_orders : MethodName := ⟨RX10, "orders", "()I"⟩
abbrev cX10_sure : ByteArray := prog_1_method_23_code
def yX10_sure : MethodName := ⟨RX10, "sure", "(I)I"⟩
abbrev cX10_wreck : ByteArray := prog_1_method_24_code
def yX10_wreck : MethodName := ⟨RX10, "wreck", "(I)I"⟩
abbrev cX10_stations : ByteArray := prog_1_method_25_code
def yX10_stations : MethodName := ⟨RX10, "stations", "(II)I"⟩
abbrev cX10_nights : ByteArray := prog_1_method_26_code
def yX10_nights : MethodName := ⟨RX10, "nights", "(II)I"⟩
abbrev cX10_image : ByteArray := prog_1_method_27_code
def yX10_image : MethodName := ⟨RX10, "image", "()I"⟩
abbrev cX10_restore : ByteArray := prog_1_method_28_code
def yX10_restore : MethodName := ⟨RX10, "restore", "()I"⟩
abbrev cX10_count : ByteArray := prog_1_method_29_code
def yX10_count : MethodName := ⟨RX10, "count", "(I)I"⟩
abbrev cX10_digest : ByteArray := prog_1_method_30_code
def yX10_digest : MethodName := ⟨RX10, "digest", "()J"⟩
abbrev cX10_mixSea : ByteArray := prog_1_method_31_code
def yX10_mixSea : MethodName := ⟨RX10, "mixSea", "(J)J"⟩
abbrev cX10_hasNight : ByteArray := prog_1_method_32_code
def yX10_hasNight : MethodName := ⟨RX10, "hasNight", "()Z"⟩
abbrev cX10_isAfloat : ByteArray := prog_1_method_33_code
def yX10_isAfloat : MethodName := ⟨RX10, "isAfloat", "()Z"⟩
abbrev cX10_canAim : ByteArray := prog_1_method_34_code
def yX10_canAim : MethodName := ⟨RX10, "canAim", "()Z"⟩
abbrev cX10_areTwoMen : ByteArray := prog_1_method_35_code
def yX10_areTwoMen : MethodName := ⟨RX10, "areTwoMen", "(II)Z"⟩
abbrev cX10_mayCome : ByteArray := prog_1_method_36_code
def yX10_mayCome : MethodName := ⟨RX10, "mayCome", "(I)Z"⟩
abbrev cX10_isOutside : ByteArray := prog_1_method_37_code
def yX10_isOutside : MethodName := ⟨RX10, "isOutside", "(III)Z"⟩
abbrev cX10_asNumber : ByteArray := prog_1_method_38_code
def yX10_asNumber : MethodName := ⟨RX10, "asNumber", "(Z)I"⟩
abbrev cX10_mix : ByteArray := prog_1_method_39_code
def yX10_mix : MethodName := ⟨RX10, "mix", "(JJ)J"⟩
abbrev cX10_isIn : ByteArray := prog_1_method_40_code
def yX10_isIn : MethodName := ⟨RX10, "isIn", "(II)Z"⟩
abbrev cX10_with : ByteArray := prog_1_method_41_code
def yX10_with : MethodName := ⟨RX10, "with", "(II)I"⟩
abbrev cX10_without : ByteArray := prog_1_method_42_code
def yX10_without : MethodName := ⟨RX10, "without", "(II)I"⟩
abbrev cX10_holdsAll : ByteArray := prog_1_method_43_code
def yX10_holdsAll : MethodName := ⟨RX10, "holdsAll", "(II)Z"⟩
abbrev cX10_at : ByteArray := prog_1_method_44_code
def yX10_at : MethodName := ⟨RX10, "at", "([II)I"⟩
abbrev cX10_at_ : ByteArray := prog_1_method_45_code
def yX10_at_ : MethodName := ⟨RX10, "at", "([JI)J"⟩
abbrev cX10_put : ByteArray := prog_1_method_46_code
def yX10_put : MethodName := ⟨RX10, "put", "([III)V"⟩
abbrev cX10_put_ : ByteArray := prog_1_method_47_code
def yX10_put_ : MethodName := ⟨RX10, "put", "([JIJ)V"⟩
abbrev cX10_inLowestTerms : ByteArray := prog_1_method_48_code
def yX10_inLowestTerms : MethodName := ⟨RX10, "inLowestTerms", "(JJI)J"⟩
abbrev cX10_commonDivisor : ByteArray := prog_1_method_49_code
def yX10_commonDivisor : MethodName := ⟨RX10, "commonDivisor", "(JJ)J"⟩
def RX11 : String := "LineToWreckModel"
def TX11 : u_T := fun k => match k with
  | 0 => ("LineToWreckModel", "page", "[I", true)
  | 1 => ("LineToWreckModel", "pageMany", "I", false)
  | 2 => ("LineToWreckModel", "readFar", "I", false)
  | 3 => ("LineToWreckModel", "readWind", "I", false)
  | 4 => ("LineToWreckModel", "readGusts", "[I", true)
  | 5 => ("LineToWreckModel", "readStages", "[I", true)
  | 6 => ("LineToWreckModel", "readMany", "I", false)
  | 7 => ("LineToWreckModel", "stages", "I", false)
  | 8 => ("LineToWreckModel", "far", "I", false)
  | 9 => ("LineToWreckModel", "wind", "I", false)
  | 10 => ("LineToWreckModel", "minute", "I", false)
  | 11 => ("LineToWreckModel", "line", "I", false)
  | 12 => ("LineToWreckModel", "broken", "I", false)
  | 13 => ("LineToWreckModel", "hawserNow", "I", false)
  | 14 => ("LineToWreckModel", "nightsRead", "I", false)
  | 15 => ("LineToWreckModel", "gusts", "[I", true)
  | 16 => ("LineToWreckModel", "breakTenths", "[I", true)
  | 17 => ("LineToWreckModel", "rockets", "I", false)
  | 18 => ("LineToWreckModel", "rocketRows", "[I", true)
  | 19 => ("LineToWreckModel", "made", "[J", true)
  | 20 => ("LineToWreckModel", "madeThen", "[J", true)
  | 21 => ("LineToWreckModel", "bestNow", "I", false)
  | 22 => ("LineToWreckModel", "men", "I", false)
  | 23 => ("LineToWreckModel", "menRows", "[I", true)
  | 24 => ("LineToWreckModel", "behindBits", "[I", true)
  | 25 => ("LineToWreckModel", "done", "I", false)
  | 26 => ("LineToWreckModel", "order", "[I", true)
  | 27 => ("LineToWreckModel", "bestOrder", "[I", true)
  | 28 => ("LineToWreckModel", "orderMany", "I", false)
  | 29 => ("LineToWreckModel", "saidMany", "I", false)
  | 30 => ("LineToWreckModel", "saidRows", "[I", true)
  | 31 => ("LineToWreckModel", "mayPlaces", "[I", true)
  | 32 => ("LineToWreckModel", "wrecks", "I", false)
  | 33 => ("LineToWreckModel", "wreckRows", "[I", true)
  | 34 => ("LineToWreckModel", "seedNow", "I", false)
  | 35 => ("LineToWreckModel", "keptNight", "I", false)
  | 36 => ("LineToWreckModel", "keptMinute", "I", false)
  | 37 => ("LineToWreckModel", "keptLine", "I", false)
  | 38 => ("LineToWreckModel", "keptBroken", "I", false)
  | 39 => ("LineToWreckModel", "keptHawser", "I", false)
  | 40 => ("LineToWreckModel", "keptSaid", "I", false)
  | 41 => ("LineToWreckModel", "keptWrecks", "I", false)
  | 42 => ("LineToWreckModel", "keptRockets", "I", false)
  | 43 => ("LineToWreckModel", "keptMen", "I", false)
  | 44 => ("LineToWreckModel", "keptRocketRows", "[I", true)
  | 45 => ("LineToWreckModel", "keptMenRows", "[I", true)
  | 46 => ("LineToWreckModel", "keptSaidRows", "[I", true)
  | 47 => ("LineToWreckModel", "keptWreckRows", "[I", true)
  | _ => ("LineToWreckModel", "hash", "J", false)
def tyX11 : Nat → FieldType := fun k => match k with
  | 0 => .array .int
  | 1 => .int
  | 2 => .int
  | 3 => .int
  | 4 => .array .int
  | 5 => .array .int
  | 6 => .int
  | 7 => .int
  | 8 => .int
  | 9 => .int
  | 10 => .int
  | 11 => .int
  | 12 => .int
  | 13 => .int
  | 14 => .int
  | 15 => .array .int
  | 16 => .array .int
  | 17 => .int
  | 18 => .array .int
  | 19 => .array .long
  | 20 => .array .long
  | 21 => .int
  | 22 => .int
  | 23 => .array .int
  | 24 => .array .int
  | 25 => .int
  | 26 => .array .int
  | 27 => .array .int
  | 28 => .int
  | 29 => .int
  | 30 => .array .int
  | 31 => .array .int
  | 32 => .int
  | 33 => .array .int
  | 34 => .int
  | 35 => .int
  | 36 => .int
  | 37 => .int
  | 38 => .int
  | 39 => .int
  | 40 => .int
  | 41 => .int
  | 42 => .int
  | 43 => .int
  | 44 => .array .int
  | 45 => .array .int
  | 46 => .array .int
  | 47 => .array .int
  | _ => .long
abbrev wsX110 : List Cond := u_ws RX11 TX11 49
theorem nmX11 : ∀ a, a < 49 → ∀ b, b < 49 → a ≠ b → (TX11 a).2.1 ≠ (TX11 b).2.1 := by decide +kernel
theorem tyX11_ok : ∀ k, k < 49 → parseFieldDescriptor (TX11 k).2.2.1 = some (tyX11 k) := by decide +kernel
abbrev cX11_init : ByteArray := prog_13_method_1_code
def yX11_init : MethodName := ⟨RX11, "<init>", "()V"⟩
abbrev cX11_in : ByteArray := prog_13_method_2_code
def yX11_in : MethodName := ⟨RX11, "in", "(JJJ)Z"⟩
abbrev cX11_letter : ByteArray := prog_13_method_3_code
def yX11_letter : MethodName := ⟨RX11, "letter", "(I)I"⟩
abbrev cX11_blank : ByteArray := prog_13_method_4_code
def yX11_blank : MethodName := ⟨RX11, "blank", "()I"⟩
abbrev cX11_goGust : ByteArray := prog_13_method_5_code
def yX11_goGust : MethodName := ⟨RX11, "goGust", "(II)Z"⟩
abbrev cX11_go : ByteArray := prog_13_method_6_code
def yX11_go : MethodName := ⟨RX11, "go", "(II)Z"⟩
abbrev cX11_faultOf : ByteArray := prog_13_method_7_code
def yX11_faultOf : MethodName := ⟨RX11, "faultOf", "()I"⟩
abbrev cX11_fault : ByteArray := prog_13_method_8_code
def yX11_fault : MethodName := ⟨RX11, "fault", "()I"⟩
abbrev cX11_night : ByteArray := prog_13_method_9_code
def yX11_night : MethodName := ⟨RX11, "night", "()I"⟩
abbrev cX11_lacks : ByteArray := prog_13_method_10_code
def yX11_lacks : MethodName := ⟨RX11, "lacks", "()Z"⟩
abbrev cX11_stageNow : ByteArray := prog_13_method_11_code
def yX11_stageNow : MethodName := ⟨RX11, "stageNow", "()I"⟩
abbrev cX11_tellSea : ByteArray := prog_13_method_12_code
def yX11_tellSea : MethodName := ⟨RX11, "tellSea", "(I)I"⟩
abbrev cX11_sea : ByteArray := prog_13_method_13_code
def yX11_sea : MethodName := ⟨RX11, "sea", "(I)I"⟩
abbrev cX11_isRocket : ByteArray := prog_13_method_14_code
def yX11_isRocket : MethodName := ⟨RX11, "isRocket", "(I)Z"⟩
abbrev cX11_rocket : ByteArray := prog_13_method_15_code
def yX11_rocket : MethodName := ⟨RX11, "rocket", "(II)I"⟩
abbrev cX11_fallsAt : ByteArray := prog_13_method_16_code
def yX11_fallsAt : MethodName := ⟨RX11, "fallsAt", "(III)I"⟩
abbrev cX11_isRight : ByteArray := prog_13_method_17_code
def yX11_isRight : MethodName := ⟨RX11, "isRight", "(I)Z"⟩
abbrev cX11_fire : ByteArray := prog_13_method_18_code
def yX11_fire : MethodName := ⟨RX11, "fire", "(II)I"⟩
abbrev cX11_hitTenths : ByteArray := prog_13_method_19_code
def yX11_hitTenths : MethodName := ⟨RX11, "hitTenths", "(II)I"⟩
abbrev cX11_term : ByteArray := prog_13_method_20_code
def yX11_term : MethodName := ⟨RX11, "term", "(JJI)J"⟩
abbrev cX11_hits : ByteArray := prog_13_method_21_code
def yX11_hits : MethodName := ⟨RX11, "hits", "(III)J"⟩
abbrev cX11_leftBits : ByteArray := prog_13_method_22_code
def yX11_leftBits : MethodName := ⟨RX11, "leftBits", "()I"⟩
abbrev cX11_bestOf : ByteArray := prog_13_method_23_code
def yX11_bestOf : MethodName := ⟨RX11, "bestOf", "(IJI)J"⟩
abbrev cX11_aimOf : ByteArray := prog_13_method_24_code
def yX11_aimOf : MethodName := ⟨RX11, "aimOf", "(I)J"⟩
abbrev cX11_hundreds : ByteArray := prog_13_method_25_code
def yX11_hundreds : MethodName := ⟨RX11, "hundreds", "(I)J"⟩
abbrev cX11_isAiming : ByteArray := prog_13_method_26_code
def yX11_isAiming : MethodName := ⟨RX11, "isAiming", "()Z"⟩
abbrev cX11_aim : ByteArray := prog_13_method_27_code
def yX11_aim : MethodName := ⟨RX11, "aim", "(II)J"⟩
abbrev cX11_which : ByteArray := prog_13_method_28_code
def yX11_which : MethodName := ⟨RX11, "which", "(I)I"⟩
abbrev cX11_layLater : ByteArray := prog_13_method_29_code
def yX11_layLater : MethodName := ⟨RX11, "layLater", "(I)V"⟩
abbrev cX11_isMan : ByteArray := prog_13_method_30_code
def yX11_isMan : MethodName := ⟨RX11, "isMan", "(I)Z"⟩
abbrev cX11_man : ByteArray := prog_13_method_31_code
def yX11_man : MethodName := ⟨RX11, "man", "(II)I"⟩
abbrev cX11_sags : ByteArray := prog_13_method_32_code
def yX11_sags : MethodName := ⟨RX11, "sags", "(I)Z"⟩
abbrev cX11_takes : ByteArray := prog_13_method_33_code
def yX11_takes : MethodName := ⟨RX11, "takes", "(I)I"⟩
abbrev cX11_overBits : ByteArray := prog_13_method_34_code
def yX11_overBits : MethodName := ⟨RX11, "overBits", "()I"⟩
abbrev cX11_canCome : ByteArray := prog_13_method_35_code
def yX11_canCome : MethodName := ⟨RX11, "canCome", "(II)Z"⟩
abbrev cX11_mayCome : ByteArray := prog_13_method_36_code
def yX11_mayCome : MethodName := ⟨RX11, "mayCome", "(I)Z"⟩
abbrev cX11_tellMan : ByteArray := prog_13_method_37_code
def yX11_tellMan : MethodName := ⟨RX11, "tellMan", "(II)I"⟩
abbrev cX11_about : ByteArray := prog_13_method_38_code
def yX11_about : MethodName := ⟨RX11, "about", "(II)I"⟩
abbrev cX11_as : ByteArray := prog_13_method_39_code
def yX11_as : MethodName := ⟨RX11, "as", "(II)I"⟩
abbrev cX11_behind : ByteArray := prog_13_method_40_code
def yX11_behind : MethodName := ⟨RX11, "behind", "(IIZ)I"⟩
abbrev cX11_hawser : ByteArray := prog_13_method_41_code
def yX11_hawser : MethodName := ⟨RX11, "hawser", "(I)I"⟩
abbrev cX11_come : ByteArray := prog_13_method_42_code
def yX11_come : MethodName := ⟨RX11, "come", "(I)I"⟩
abbrev cX11_minutes : ByteArray := prog_13_method_43_code
def yX11_minutes : MethodName := ⟨RX11, "minutes", "(I)I"⟩
abbrev cX11_ones : ByteArray := prog_13_method_44_code
def yX11_ones : MethodName := ⟨RX11, "ones", "(I)I"⟩
abbrev cX11_breaks : ByteArray := prog_13_method_45_code
def yX11_breaks : MethodName := ⟨RX11, "breaks", "()I"⟩
abbrev cX11_firstOrder : ByteArray := prog_13_method_46_code
def yX11_firstOrder : MethodName := ⟨RX11, "firstOrder", "(I)V"⟩
abbrev cX11_nextOrder : ByteArray := prog_13_method_47_code
def yX11_nextOrder : MethodName := ⟨RX11, "nextOrder", "()Z"⟩
abbrev cX11_holds : ByteArray := prog_13_method_48_code
def yX11_holds : MethodName := ⟨RX11, "holds", "(I)J"⟩
abbrev cX11_meanOf : ByteArray := prog_13_method_49_code
def yX11_meanOf : MethodName := ⟨RX11, "meanOf", "()J"⟩
abbrev cX11_order : ByteArray := prog_13_method_50_code
def yX11_order : MethodName := ⟨RX11, "order", "(I)J"⟩
abbrev cX11_said : ByteArray := prog_13_method_51_code
def yX11_said : MethodName := ⟨RX11, "said", "(II)I"⟩
abbrev cX11_placeOf : ByteArray := prog_13_method_52_code
def yX11_placeOf : MethodName := ⟨RX11, "placeOf", "(I)I"⟩
abbrev cX11_isSaidSo : ByteArray := prog_13_method_53_code
def yX11_isSaidSo : MethodName := ⟨RX11, "isSaidSo", "()Z"⟩
abbrev cX11_layOrders : ByteArray := prog_13_method_54_code
def yX11_layOrders : MethodName := ⟨RX11, "layOrders", "()I"⟩
abbrev cX11_orders : ByteArray := prog_13_method_55_code
def yX11_orders : MethodName := ⟨RX11, "orders", "()I"⟩
abbrev cX11_sure : ByteArray := prog_13_method_56_code
def yX11_sure : MethodName := ⟨RX11, "sure", "(I)I"⟩
abbrev cX11_wreck : ByteArray := prog_13_method_57_code
def yX11_wreck : MethodName := ⟨RX11, "wreck", "(I)I"⟩
abbrev cX11_stationsOf : ByteArray := prog_13_method_58_code
def yX11_stationsOf : MethodName := ⟨RX11, "stationsOf", "(II)I"⟩
abbrev cX11_stations : ByteArray := prog_13_method_59_code
def yX11_stations : MethodName := ⟨RX11, "stations", "(II)I"⟩
abbrev cX11_draw : ByteArray := prog_13_method_60_code
def yX11_draw : MethodName := ⟨RX11, "draw", "(I)I"⟩
abbrev cX11_nights : ByteArray := prog_13_method_61_code
def yX11_nights : MethodName := ⟨RX11, "nights", "(II)I"⟩
abbrev cX11_copy : ByteArray := prog_13_method_62_code
def yX11_copy : MethodName := ⟨RX11, "copy", "([I[I)V"⟩
abbrev cX11_image : ByteArray := prog_13_method_63_code
def yX11_image : MethodName := ⟨RX11, "image", "()I"⟩
abbrev cX11_restore : ByteArray := prog_13_method_64_code
def yX11_restore : MethodName := ⟨RX11, "restore", "()I"⟩
abbrev cX11_countOf : ByteArray := prog_13_method_65_code
def yX11_countOf : MethodName := ⟨RX11, "countOf", "(I)I"⟩
abbrev cX11_count : ByteArray := prog_13_method_66_code
def yX11_count : MethodName := ⟨RX11, "count", "(I)I"⟩
abbrev cX11_say : ByteArray := prog_13_method_67_code
def yX11_say : MethodName := ⟨RX11, "say", "(J)V"⟩
abbrev cX11_digest : ByteArray := prog_13_method_68_code
def yX11_digest : MethodName := ⟨RX11, "digest", "()J"⟩
def RJ6 : String := "java/lang/Integer"
abbrev cJ6_bitCount_0f7a4 : ByteArray := prog_14_method_49_code
def yJ6_bitCount_0f7a4 : MethodName := ⟨RJ6, "bitCount", "(I)I"⟩
def RJ7 : String := "java/util/Arrays"
abbrev cJ7_fill_d0a16 : ByteArray := prog_16_method_101_code
def yJ7_fill_d0a16 : MethodName := ⟨RJ7, "fill", "([JJ)V"⟩
abbrev cJ7_fill_53178 : ByteArray := prog_16_method_103_code
def yJ7_fill_53178 : MethodName := ⟨RJ7, "fill", "([II)V"⟩
def RL : String := "LineToWreckLaw"
abbrev cL_law : ByteArray := code
def yL_law : MethodName := ⟨RL, "law", "([I)Z"⟩
abbrev vwCl : List vw_C := [(RX0, TX0, 4), (RX1, TX1, 11), (RX2, TX2, 4), (RX3, TX3, 4), (RX4, TX4, 4), (RX5, TX5, 2), (RX6, TX6, 3), (RX7, TX7, 5), (RX8, TX8, 5), (RX9, TX9, 4), (RX10, TX10, 12), (RX11, TX11, 49)]
/-! the 52 cells: kind of each, length of a row, the cells that its references name -/
def kdL : List Nat := [10, 5, 12, 7, 12, 12, 6, 12, 12, 2, 12, 12, 12, 1, 12, 12, 12, 3, 1, 12, 12, 12, 0, 13, 4, 13, 12, 8, 12, 12, 12, 9, 11, 12, 12, 12, 12, 12, 12, 13, 13, 12, 12, 12, 12, 12, 12, 12, 12, 12, 12, 12]
def lnL : List Nat := [0, 0, 22, 0, 3, 10, 0, 6, 6, 0, 6, 6, 6, 0, 6, 6, 8, 0, 0, 6, 6, 8, 0, 64, 0, 64, 64, 0, 6, 64, 64, 0, 0, 22, 3, 10, 3, 10, 18, 64, 64, 18, 6, 6, 6, 30, 6, 8, 18, 18, 30, 8]
def rtL : List (List Nat) := [[1, 3, 6, 9, 13, 17, 22, 24, 27, 31, 0, 0], [2, 0], [], [0, 0, 0, 4, 5], [], [], [0, 7, 8], [], [], [0, 10, 11, 12], [], [], [], [0, 0, 0, 0, 0, 0, 0, 0, 14, 15, 16], [], [], [], [18, 0, 0, 0], [0, 0, 0, 0, 0, 0, 0, 0, 19, 20, 21], [], [], [], [0, 0, 0, 23], [], [0, 0, 25, 26], [], [], [0, 0, 28, 29, 30], [], [], [], [], [33, 0, 0, 0, 34, 35, 0, 0, 0, 0, 0, 0, 0, 0, 0, 36, 37, 0, 38, 39, 40, 0, 0, 41, 42, 0, 43, 44, 0, 0, 45, 46, 0, 47, 0, 0, 0, 0, 0, 0, 0, 0, 0, 0, 48, 49, 50, 51, 0], [], [], [], [], [], [], [], [], [], [], [], [], [], [], [], [], [], [], []]
def ftL : List (List Nat) := [[1, 1, 0, 2], [0, 0, 0, 0, 0, 0, 0, 0, 2, 2, 2], [0, 2, 2, 2], [2, 0, 0, 0], [1, 0, 2, 2], [2, 0], [0, 2, 2], [0, 0, 0, 2, 2], [0, 0, 2, 2, 2], [1, 0, 0, 0], [2, 2, 2, 2, 2, 2, 2, 2, 2, 2, 0, 0], [2, 0, 0, 0, 2, 2, 0, 0, 0, 0, 0, 0, 0, 0, 0, 2, 2, 0, 2, 2, 2, 0, 0, 2, 2, 0, 2, 2, 0, 0, 2, 2, 0, 2, 0, 0, 0, 0, 0, 0, 0, 0, 0, 0, 2, 2, 2, 2, 1]]
def nfL : List Nat := [4, 11, 4, 4, 4, 2, 3, 5, 5, 4, 12, 49]
def nwL : List (String × Nat × MethodName × String) := [("LineToWreck", 9, ⟨"LineToWreck$Page", "<init>", "()V"⟩, "LineToWreck"), ("LineToWreck", 18, ⟨"LineToWreck$Sea", "<init>", "()V"⟩, "LineToWreck"), ("LineToWreck", 25, ⟨"LineToWreck$Rockets", "<init>", "()V"⟩, "LineToWreck"), ("LineToWreck", 32, ⟨"LineToWreck$Crew", "<init>", "()V"⟩, "LineToWreck"), ("LineToWreck", 39, ⟨"LineToWreck$Course", "<init>", "()V"⟩, "LineToWreck"), ("LineToWreck", 46, ⟨"LineToWreck$Image", "<init>", "()V"⟩, "LineToWreck"), ("LineToWreck$Image", 9, ⟨"LineToWreck$Course", "<init>", "()V"⟩, "LineToWreck"), ("LineToWreck", 53, ⟨"LineToWreck$AimSearch", "<init>", "()V"⟩, "LineToWreck"), ("LineToWreck", 60, ⟨"LineToWreck$OrderSearch", "<init>", "()V"⟩, "LineToWreck"), ("LineToWreck", 67, ⟨"LineToWreck$Successions", "<init>", "()V"⟩, "LineToWreck"), ("LineToWreck", 74, ⟨"LineToWreck$Trial", "<init>", "()V"⟩, "LineToWreck"), ("LineToWreck$Page", 19, ⟨"LineToWreck", "put", "([III)V"⟩, "LineToWreck"), ("LineToWreck$Page", 23, ⟨"LineToWreck", "at", "([II)I"⟩, "LineToWreck"), ("LineToWreck$Page", 42, ⟨"LineToWreck", "isOutside", "(III)Z"⟩, "LineToWreck"), ("LineToWreck$Sea", 31, ⟨"LineToWreck", "put", "([III)V"⟩, "LineToWreck"), ("LineToWreck$Sea", 41, ⟨"LineToWreck", "at", "([II)I"⟩, "LineToWreck"), ("LineToWreck$Rockets", 22, ⟨"LineToWreck", "put", "([III)V"⟩, "LineToWreck"), ("LineToWreck$Rockets", 26, ⟨"LineToWreck", "at", "([II)I"⟩, "LineToWreck"), ("LineToWreck$AimSearch", 71, ⟨"LineToWreck", "at", "([JI)J"⟩, "LineToWreck"), ("LineToWreck$AimSearch", 82, ⟨"LineToWreck", "isIn", "(II)Z"⟩, "LineToWreck"), ("LineToWreck$AimSearch", 90, ⟨"LineToWreck", "without", "(II)I"⟩, "LineToWreck"), ("LineToWreck$AimSearch", 55, ⟨"LineToWreck", "put", "([JIJ)V"⟩, "LineToWreck"), ("LineToWreck$Crew", 31, ⟨"LineToWreck", "put", "([III)V"⟩, "LineToWreck"), ("LineToWreck$Crew", 35, ⟨"LineToWreck", "at", "([II)I"⟩, "LineToWreck"), ("LineToWreck$Course", 65, ⟨"LineToWreck", "isIn", "(II)Z"⟩, "LineToWreck"), ("LineToWreck$Course", 53, ⟨"LineToWreck", "at", "([II)I"⟩, "LineToWreck"), ("LineToWreck$Crew", 43, ⟨"LineToWreck", "with", "(II)I"⟩, "LineToWreck"), ("LineToWreck$Crew", 47, ⟨"LineToWreck", "without", "(II)I"⟩, "LineToWreck"), ("LineToWreck$Crew", 50, ⟨"LineToWreck", "isIn", "(II)Z"⟩, "LineToWreck"), ("LineToWreck$Course", 61, ⟨"LineToWreck", "with", "(II)I"⟩, "LineToWreck"), ("LineToWreck$Course", 57, ⟨"LineToWreck", "put", "([III)V"⟩, "LineToWreck"), ("LineToWreck$OrderSearch", 34, ⟨"LineToWreck", "holdsAll", "(II)Z"⟩, "LineToWreck"), ("LineToWreck$OrderSearch", 72, ⟨"LineToWreck", "put", "([III)V"⟩, "LineToWreck"), ("LineToWreck$OrderSearch", 78, ⟨"LineToWreck", "isIn", "(II)Z"⟩, "LineToWreck"), ("LineToWreck$OrderSearch", 68, ⟨"LineToWreck", "with", "(II)I"⟩, "LineToWreck"), ("LineToWreck$OrderSearch", 85, ⟨"LineToWreck", "at", "([JI)J"⟩, "LineToWreck"), ("LineToWreck$OrderSearch", 60, ⟨"LineToWreck", "put", "([JIJ)V"⟩, "LineToWreck"), ("LineToWreck$OrderSearch", 64, ⟨"LineToWreck", "at", "([II)I"⟩, "LineToWreck"), ("LineToWreck$Successions", 43, ⟨"LineToWreck", "put", "([III)V"⟩, "LineToWreck"), ("LineToWreck$Successions", 76, ⟨"LineToWreck", "isIn", "(II)Z"⟩, "LineToWreck"), ("LineToWreck$Successions", 53, ⟨"LineToWreck", "at", "([II)I"⟩, "LineToWreck"), ("LineToWreck$Successions", 79, ⟨"LineToWreck", "holdsAll", "(II)Z"⟩, "LineToWreck"), ("LineToWreck$Successions", 61, ⟨"LineToWreck", "with", "(II)I"⟩, "LineToWreck"), ("LineToWreck$Rockets", 47, ⟨"LineToWreck", "isIn", "(II)Z"⟩, "LineToWreck"), ("LineToWreck$Trial", 49, ⟨"LineToWreck", "without", "(II)I"⟩, "LineToWreck")]
end
section
/-! WORDS: all good words of the tables in one list; each method's contract has its own code word and this list -/
def zA : List Cond := lw_tbl.filter goodWord
theorem zA_in : ∀ w ∈ zA, w ∈ lw_tbl := fun _ h => (List.mem_filter.mp h).1
theorem zA_mk {w : Cond} (h : w ∈ lw_tbl) (hg : goodWord w = true) : w ∈ zA := List.mem_filter.mpr ⟨h, hg⟩
theorem zA_t {w : Cond} (i : Nat) (h : tables_1[i]? = some w) (hg : goodWord w = true) : w ∈ zA := zA_mk (List.mem_append_right _ (List.mem_of_getElem? h)) hg
theorem zA_p {w : Cond} (h : w ∈ k2_sels lw_privs) (hg : goodWord w = true) : w ∈ zA := zA_mk (List.mem_append_left _ h) hg
theorem zA_good {c0 c1 : Cond} (h : c1 ∈ zA) : GoodIn (c0 :: zA) (c1 :: zA) := by
  intro w hw
  have hw' : w ∈ zA := by
    rcases List.mem_cons.mp hw with rfl | q
    · exact h
    · exact q
  exact ⟨List.mem_cons_of_mem _ hw', good_of_word (List.mem_filter.mp hw').2⟩
/-! MEMORY: ints by cell and place (a field, or an element of a row), longs by cell and place -/
abbrev Mm : Type := (Nat → Nat → Int32) × (Nat → Nat → Int64)
def gI (M : Mm) (c k : Nat) : Int32 := M.1 c k
def gJ (M : Mm) (c k : Nat) : Int64 := M.2 c k
def sI (M : Mm) (c k : Nat) (v : Int32) : Mm := (fun a b => if a = c ∧ b = k then v else M.1 a b, M.2)
def sJ (M : Mm) (c k : Nat) (v : Int64) : Mm := (M.1, fun a b => if a = c ∧ b = k then v else M.2 a b)
def kd (c : Nat) : Nat := kdL.getD c 99
def ln (c : Nat) : Nat := lnL.getD c 0
def rt (c k : Nat) : Nat := (rtL.getD c []).getD k 0
def ft (t k : Nat) : Nat := (ftL.getD t []).getD k 9
def nf (t : Nat) : Nat := nfL.getD t 0
/-- the geometry: addresses, the tables' numbers of the classes, the classes of the two kinds of rows -/
abbrev Wd : Type := (Nat → Nat) × va_G × ClassId × ClassId
def fval (w : Wd) (M : Mm) (c k : Nat) : Value := if ft (kd c) k = 0 then .int (M.1 c k) else if ft (kd c) k = 1 then .long (M.2 c k) else .ref (w.1 (rt c k))
def cel (w : Wd) (M : Mm) (c : Nat) : va_E := if kd c = 12 then .inl (w.2.2.1, ln c, .inl (M.1 c)) else if kd c = 13 then .inl (w.2.2.2, ln c, .inr (.inl (M.2 c))) else .inr (kd c, (List.range (nf (kd c))).map (fval w M c))
def gw (w : Wd) (M : Mm) : va_W := (List.range 52).map (fun c => (w.1 c, cel w M c))
def FA (w : Wd) : Nat → Prop := fun q => ∃ c, c < 52 ∧ q = w.1 c
def adok (w : Wd) : Prop := ∀ i j, i < 52 → j < 52 → w.1 i = w.1 j → i = j
def tysW (w : Wd) : List (ClassId × FieldType) := [(w.2.2.1, .int), (w.2.2.2, .long)]
def NWs (U : State) : Prop := ∀ q ∈ nwL, va_Nw (.methodLinkNest q.1 q.2.1 q.2.2.1 q.2.2.2) U
theorem kd_lt {c : Nat} (h : kd c < 99) : c < 52 := by
  unfold kd at h
  rcases Nat.lt_or_ge c 52 with q | q
  · exact q
  · rw [List.getD_eq_getElem?_getD, List.getElem?_eq_none (by exact q)] at h
    exact absurd h (by decide)
theorem gw_at (w : Wd) (M : Mm) {c : Nat} (hc : c < 52) : (gw w M)[c]? = some (w.1 c, cel w M c) := by
  unfold gw
  rw [List.getElem?_map, List.getElem?_range hc]
  rfl
theorem gw_len (w : Wd) (M : Mm) : (gw w M).length = 52 := by simp [gw]
theorem gw_D {w : Wd} (h : adok w) (M : Mm) : va_D (FA w) (gw w M) := by
  have key : ∀ (k : Nat) (q : Nat × va_E), (gw w M)[k]? = some q → k < 52 ∧ q.1 = w.1 k := by
    intro k q hk
    have hl : k < 52 := by have := (List.getElem?_eq_some_iff.mp hk).1; rwa [gw_len] at this
    rw [gw_at w M hl] at hk
    exact ⟨hl, by rw [← Option.some.inj hk]⟩
  refine ⟨fun i j p q hi hj hpq => ?_, fun k q hk => ?_⟩
  · obtain ⟨a1, a2⟩ := key i p hi
    obtain ⟨b1, b2⟩ := key j q hj
    exact h i j a1 b1 (by rw [← a2, ← b2, hpq])
  · obtain ⟨a1, a2⟩ := key k q hk
    exact ⟨k, a1, a2⟩
theorem gw_set {w : Wd} {M M' : Mm} {c : Nat} {e : va_E} (hc : c < 52) (he : cel w M' c = e) (ho : ∀ j, j ≠ c → cel w M' j = cel w M j) : (gw w M).set c (w.1 c, e) = gw w M' := by
  apply List.ext_getElem?
  intro j
  rw [List.getElem?_set]
  by_cases hj : j < 52
  · rw [gw_at w M' hj, gw_at w M hj, gw_len]
    by_cases h : c = j
    · subst h; simp [hc, he]
    · simp [h, ho j (fun q => h q.symm)]
  · rw [List.getElem?_eq_none (by rw [gw_len]; omega), List.getElem?_eq_none (by rw [gw_len]; omega)]
    have : ¬ c = j := by omega
    simp [this]
theorem cel_oI (w : Wd) (M : Mm) {c k j : Nat} (v : Int32) (h : j ≠ c) : cel w (sI M c k v) j = cel w M j := by
  have e : (sI M c k v).1 j = M.1 j := by funext b; simp [sI, h]
  have e2 : (sI M c k v).2 = M.2 := rfl
  have e3 : fval w (sI M c k v) j = fval w M j := by funext b; simp [fval, e, e2]
  simp only [cel, e, e2, e3]
theorem cel_oJ (w : Wd) (M : Mm) {c k j : Nat} (v : Int64) (h : j ≠ c) : cel w (sJ M c k v) j = cel w M j := by
  have e : (sJ M c k v).2 j = M.2 j := by funext b; simp [sJ, h]
  have e2 : (sJ M c k v).1 = M.1 := rfl
  have e3 : fval w (sJ M c k v) j = fval w M j := by funext b; simp [fval, e, e2]
  simp only [cel, e, e2, e3]
theorem map_set {f g : Nat → Value} {n k : Nat} {v : Value} (h : ∀ j, g j = if j = k then v else f j) : ((List.range n).map f).set k v = (List.range n).map g := by
  apply List.ext_getElem?
  intro j
  rw [List.getElem?_set]
  simp only [List.getElem?_map, List.length_map, List.length_range]
  by_cases hj : j < n
  · rw [List.getElem?_range hj]
    by_cases e : k = j
    · subst e; simp [hj, h]
    · have : ¬ j = k := fun q => e q.symm
      simp [e, h, this]
  · rw [List.getElem?_eq_none (by simpa using hj)]
    by_cases e : k = j
    · subst e; simp [hj]
    · simp [e]
theorem gw_putI {w : Wd} {M : Mm} {c k : Nat} {v : Int32} (hk : kd c < 12) (hf : ft (kd c) k = 0) : (gw w M).set c (w.1 c, .inr (kd c, ((List.range (nf (kd c))).map (fval w M c)).set k (.int v))) = gw w (sI M c k v) := by
  refine gw_set (kd_lt (by omega)) ?_ (fun j hj => cel_oI w M v hj)
  have h1 : ¬ kd c = 12 := by omega
  have h2 : ¬ kd c = 13 := by omega
  simp only [cel, h1, h2, if_false]
  congr 2
  refine (map_set (fun j => ?_)).symm
  by_cases e : j = k
  · subst e; simp [fval, hf, sI]
  · simp [fval, sI, e]
theorem gw_putJ {w : Wd} {M : Mm} {c k : Nat} {v : Int64} (hk : kd c < 12) (hf : ft (kd c) k = 1) : (gw w M).set c (w.1 c, .inr (kd c, ((List.range (nf (kd c))).map (fval w M c)).set k (.long v))) = gw w (sJ M c k v) := by
  refine gw_set (kd_lt (by omega)) ?_ (fun j hj => cel_oJ w M v hj)
  have h1 : ¬ kd c = 12 := by omega
  have h2 : ¬ kd c = 13 := by omega
  simp only [cel, h1, h2, if_false]
  congr 2
  refine (map_set (fun j => ?_)).symm
  by_cases e : j = k
  · subst e; simp [fval, hf, sJ]
  · simp [fval, sJ, e]
theorem gw_arI {w : Wd} {M : Mm} {c k : Nat} {v : Int32} (hk : kd c = 12) : (gw w M).set c (w.1 c, .inl (w.2.2.1, ln c, .inl (upd (M.1 c) k v))) = gw w (sI M c k v) := by
  refine gw_set (kd_lt (by omega)) ?_ (fun j hj => cel_oI w M v hj)
  simp only [cel, hk, if_true]
  congr 4
  funext j
  simp [sI, upd]
theorem gw_arJ {w : Wd} {M : Mm} {c k : Nat} {v : Int64} (hk : kd c = 13) : (gw w M).set c (w.1 c, .inl (w.2.2.2, ln c, .inr (.inl (vp_updL (M.2 c) k v)))) = gw w (sJ M c k v) := by
  refine gw_set (kd_lt (by omega)) ?_ (fun j hj => cel_oJ w M v hj)
  have h1 : ¬ kd c = 12 := by omega
  simp only [cel, hk]
  simp only [show ¬ (13 = 12) by decide, if_false, if_true]
  congr 5
  funext j
  simp [sJ, vp_updL]
/-! the words of the spec language -/
def bd {α β : Type} (o : Option (α × Mm)) (k : α → Mm → Option β) : Option β := match o with | none => none | some p => k p.1 p.2
def bl {α β : Type} (v : α) (k : α → β) : β := k v
def jn {α β : Type} (k : α) (f : α → β) : β := f k
def ix (i : Int32) : Nat := i.toNatClampNeg
def inB (i : Int32) (n : Nat) : Prop := 0 ≤ i.toInt ∧ i.toInt < n
def rdI {β : Type} (M : Mm) (c : Nat) (i : Int32) (k : Int32 → Option β) : Option β := if 0 ≤ i.toInt ∧ i.toInt < ln c then k (gI M c (ix i)) else none
def rdJ {β : Type} (M : Mm) (c : Nat) (i : Int32) (k : Int64 → Option β) : Option β := if 0 ≤ i.toInt ∧ i.toInt < ln c then k (gJ M c (ix i)) else none
def wrI {β : Type} (M : Mm) (c : Nat) (i v : Int32) (k : Mm → Option β) : Option β := if 0 ≤ i.toInt ∧ i.toInt < ln c then k (sI M c (ix i) v) else none
def wrJ {β : Type} (M : Mm) (c : Nat) (i : Int32) (v : Int64) (k : Mm → Option β) : Option β := if 0 ≤ i.toInt ∧ i.toInt < ln c then k (sJ M c (ix i) v) else none
/-- a boolean is 0 or 1 -/
def zb {β : Type} (v : Int32) (k : Option β) : Option β := if v = 0 ∨ v = 1 then k else none
def nzI {β : Type} (v : Int32) (k : Option β) : Option β := if v = 0 then none else k
def nzJ {β : Type} (v : Int64) (k : Option β) : Option β := if v = 0 then none else k
def fu : Nat := 1000
/-! THE JUDGEMENT -/
abbrev Cx : Type := Program × Launch × Env × Room × State × MethodId × Array Value × List Frame × Method × Code
def cS (x : Cx) : State := x.2.2.2.2.1
def cM (x : Cx) : MethodId := x.2.2.2.2.2.1
def cB (x : Cx) : List Frame := x.2.2.2.2.2.2.2.1
def cAr (x : Cx) : Array Value := x.2.2.2.2.2.2.1
def Wx (x : Cx) (H : Heap) (locs : List Loc) (Q : State → Prop) (g : JFrame) : Prop := W x.1 x.2.1 x.2.2.1 x.2.2.2.1 (cS x) (cM x) (cAr x) (cB x) x.2.2.2.2.2.2.2.2.1 x.2.2.2.2.2.2.2.2.2 H locs 0 0 Q g
def Ok (x : Cx) (w : Wd) (cc : ByteArray) (nL : Nat) (own : String) (ret : Option FieldType) (rm : Room) : Prop :=
  x.1.tables.exec = Jvm.exec ∧ x.2.2.2.2.2.2.2.2.2.code = cc ∧ x.2.2.2.2.2.2.2.2.2.maxLocals = nL ∧ (cS x).vm.findClass own = some (cM x).cls ∧ (∀ q ∈ zA, q.before (cAr x) (cS x) = true) ∧ va_K w.2.1 vwCl (tysW w) (cS x) ∧ adok w ∧ NWs (cS x) ∧ x.2.2.2.2.2.2.2.2.1.sig.returnType = ret ∧ x.2.2.2.2.2.2.2.2.1.locks = false ∧ x.2.2.2.1 = rm ∧ rm.cells = 0 ∧ rm.slots = 0
def G {α : Type} (x : Cx) (w : Wd) (nL : Nat) (Qf : α → Mm → Array Value → State → Outcome → State → Prop) (o : Option (α × Mm)) (M : Mm) (lv : List (Nat × Value)) (pc : Nat) (st : List Value) : Prop :=
  ∀ (r : α) (M' : Mm), o = some (r, M') → ∀ (H : Heap) (locs : List Loc) (ls : Array Slot), va_P w.2.1 vwCl (gw w M) H → va_S (FA w) (cS x).heap H locs → lv_has ls nL lv → Wx x H locs (MQ (cB x) (Qf r M') (cAr x) (cS x) 0 0 (FA w)) (F0 (cM x) pc ls st)
def qI (w : Wd) (r : Int32) (M' : Mm) : Array Value → State → Outcome → State → Prop := va_Qi (fun (q : Int32) (_ : Unit) => q = r) (fun _ t => va_P w.2.1 vwCl (gw w M') t.heap) (FA w)
def qJ (w : Wd) (r : Int64) (M' : Mm) : Array Value → State → Outcome → State → Prop := va_Ql (fun (q : Int64) (_ : Unit) => q = r) (fun _ t => va_P w.2.1 vwCl (gw w M') t.heap) (FA w)
def qV (w : Wd) (_ : Unit) (M' : Mm) : Array Value → State → Outcome → State → Prop := va_Qv (fun (_ : Unit) => True) (fun _ t => va_P w.2.1 vwCl (gw w M') t.heap) (FA w)
def PU (w : Wd) (M : Mm) (U : State) : Prop := va_P w.2.1 vwCl (gw w M) U.heap ∧ va_K w.2.1 vwCl (tysW w) U ∧ adok w ∧ NWs U
/-- a method's contract: where its spec has an answer, it returns that answer and leaves that memory -/
def CT {α : Type} (l : Launch) (y : MethodName) (cc : ByteArray) (maxL : Nat) (ret : Option FieldType) (rm : Room) (w : Wd) (Qf : α → Mm → Array Value → State → Outcome → State → Prop) (av : List Value) (o : Option (α × Mm)) (M : Mm) : Prop :=
  ∀ (r : α) (M' : Mm), o = some (r, M') → Met l y (.code y cc maxL ret :: zA) rm (va_Pc av (PU w M)) (Qf r M') 0 0 (FA w)
theorem NWs.warm {s U : State} (hW : s.WarmedH U.vm) (h : NWs s) : NWs U := fun q hq => va_Nw.warmM hW (h q hq)
theorem ct_of {α : Type} {l : Launch} {y : MethodName} {cc : ByteArray} {maxL : Nat} {ret : Option FieldType} {rm : Room} {w : Wd} {Qf : α → Mm → Array Value → State → Outcome → State → Prop} {av : List Value} {o : Option (α × Mm)} {M : Mm} (own : String) (lv : List (Nat × Value)) (ho : y.cls = own) (hn : (lg_sl av).length ≤ maxL) (hy : plainName y.cls = true) (hlv : lv_args 0 av = lv) (hc : rm.cells = 0) (hs : rm.slots = 0)
    (h : ∀ x : Cx, Ok x w cc maxL own ret rm → G x w maxL Qf o M lv 0 []) : CT l y cc maxL ret rm w Qf av o M := by
  intro r M' hr
  refine Met.ofW (cc := cc) (maxL := maxL) (ret := ret) hy rfl ?_
  intro p e s m args below meth c s₁ B hml hv
  obtain ⟨rfl, hP, hK, hA, hN⟩ := hv
  have hts := atoms_spec (ws := (.code y cc maxL ret :: zA)) B.pre
  have hown : s.vm.findClass own = some m.cls := by rw [← ho]; exact findClass_of_methodNamed B.named
  have hl := lv_entry av (n := maxL) hn
  rw [hlv] at hl
  rw [lg_entry_eq]
  exact h (p, l, e, rm, s, m, av.toArray, below, meth, c) ⟨B.exec, B.bytes, hml, hown, fun q hq => hts q (List.mem_cons_of_mem _ hq), hK, hA, hN, B.returns, B.notSynchronized, rfl, hc, hs⟩ r M' hr s.heap [] _ hP va_S.rf hl
end
section
/-! ROWS of the judgement G: an instruction each; the spec's words are used up by unification -/
section GR
variable {α β γ : Type} {x : Cx} {w : Wd} {cc : ByteArray} {nL : Nat} {own : String} {ret : Option FieldType} {rm : Room} {Qf : α → Mm → Array Value → State → Outcome → State → Prop} {o a b : Option (α × Mm)} {M : Mm} {lv lv' : List (Nat × Value)} {pc : Nat} {st : List Value}
theorem gz_none : G x w nL Qf none M lv pc st := fun r M' h => by cases h
theorem gz_eq {o' : Option (α × Mm)} (h : o = o') (k : G x w nL Qf o' M lv pc st) : G x w nL Qf o M lv pc st := by rw [h]; exact k
theorem gz_if {c : Prop} [h : Decidable c] (ha : c → G x w nL Qf a M lv pc st) (hb : ¬ c → G x w nL Qf b M lv pc st) : G x w nL Qf (if c then a else b) M lv pc st := by
  by_cases q : c
  · rw [if_pos q]; exact ha q
  · rw [if_neg q]; exact hb q
theorem gz_jn {κ : Type} {k : κ} {f : κ → Option (α × Mm)} (P : κ → Prop) (h1 : P k) (h2 : ∀ K, P K → G x w nL Qf (f K) M lv pc st) : G x w nL Qf (jn k f) M lv pc st := h2 k h1
theorem gz_sub (ks : List Nat) (hl : lv_pick lv ks = lv') (k : G x w nL Qf o M lv' pc st) : G x w nL Qf o M lv pc st := fun r M' ho H locs ls hP hS h => k r M' ho H locs ls hP hS (lv_sub h ks hl)
theorem gz_bl {v : γ} {f : γ → Option (α × Mm)} (k : G x w nL Qf (f v) M lv pc st) : G x w nL Qf (bl v f) M lv pc st := k
theorem gz_blt {v : Int32} {f : Int32 → Option (α × Mm)} (k : ∀ y, G x w nL Qf (f y) M lv pc (.int y :: st)) : G x w nL Qf (bl v f) M lv pc (.int v :: st) := k v
theorem gz_bltJ {v : Int64} {f : Int64 → Option (α × Mm)} (k : ∀ y, G x w nL Qf (f y) M lv pc (.long y :: st)) : G x w nL Qf (bl v f) M lv pc (.long v :: st) := k v
-- constants
theorem gz_iconst (C : Ok x w cc nL own ret rm) {n : Int} {v : Int32} (d : decode cc pc = .ok (.iconst n, 1)) (hv : Int32.ofInt n = v) (k : G x w nL Qf o M lv (pc + 1) (.int v :: st)) : G x w nL Qf o M lv pc st := fun r M' ho H locs ls hP hS h => lv_iconst C.1 C.2.1 d hv (k r M' ho H locs ls hP hS h)
theorem gz_bipush (C : Ok x w cc nL own ret rm) {n : Int} {v : Int32} (d : decode cc pc = .ok (.bipush n, 2)) (hv : (Int8.ofInt n).toInt32 = v) (k : G x w nL Qf o M lv (pc + 2) (.int v :: st)) : G x w nL Qf o M lv pc st := fun r M' ho H locs ls hP hS h => lv_bipush C.1 C.2.1 d hv (k r M' ho H locs ls hP hS h)
theorem gz_lconst (C : Ok x w cc nL own ret rm) {n : Fin 2} {v : Int64} (d : decode cc pc = .ok (.lconst n, 1)) (hv : Int64.ofNat (n : Nat) = v) (k : G x w nL Qf o M lv (pc + 1) (.long v :: st)) : G x w nL Qf o M lv pc st := fun r M' ho H locs ls hP hS h => lv_lconst C.1 C.2.1 d hv (k r M' ho H locs ls hP hS h)
theorem gz_ldc2 (C : Ok x w cc nL own ret rm) {n : Nat} {v : Int64} (hc : Cond.constantLong own n v ∈ zA) (d : decode cc pc = .ok (.ldc2_w n, 3)) (k : G x w nL Qf o M lv (pc + 3) (.long v :: st)) : G x w nL Qf o M lv pc st := fun r M' ho H locs ls hP hS h => lv_ldc2 C.1 C.2.1 C.2.2.2.1 (C.2.2.2.2.1 _ hc) d (k r M' ho H locs ls hP hS h)
theorem gz_ldcw (C : Ok x w cc nL own ret rm) {n : Nat} {v : Int32} (hc : Cond.constant own n v ∈ zA) (d : decode cc pc = .ok (.ldc_w n, 3)) (k : G x w nL Qf o M lv (pc + 3) (.int v :: st)) : G x w nL Qf o M lv pc st := fun r M' ho H locs ls hP hS h => lv_ldcw C.1 C.2.1 C.2.2.2.1 (C.2.2.2.2.1 _ hc) d (k r M' ho H locs ls hP hS h)
-- locals
theorem gz_iloadn (C : Ok x w cc nL own ret rm) {i : Fin 4} {v : Int32} (j : Nat) (hj : lv[j]? = some ((i : Nat), .int v)) (d : decode cc pc = .ok (.iload_n i, 1)) (k : G x w nL Qf o M lv (pc + 1) (.int v :: st)) : G x w nL Qf o M lv pc st := fun r M' ho H locs ls hP hS h => lv_iload_n C.1 C.2.1 d rfl (lv_at h j hj) (k r M' ho H locs ls hP hS h)
theorem gz_iload (C : Ok x w cc nL own ret rm) {i : Nat} {v : Int32} (j : Nat) (hj : lv[j]? = some (i, .int v)) (d : decode cc pc = .ok (.iload i, 2)) (k : G x w nL Qf o M lv (pc + 2) (.int v :: st)) : G x w nL Qf o M lv pc st := fun r M' ho H locs ls hP hS h => lv_iload C.1 C.2.1 d (lv_at h j hj) (k r M' ho H locs ls hP hS h)
theorem gz_lloadn (C : Ok x w cc nL own ret rm) {i : Fin 4} {v : Int64} (j : Nat) (hj : lv[j]? = some ((i : Nat), .long v)) (d : decode cc pc = .ok (.lload_n i, 1)) (k : G x w nL Qf o M lv (pc + 1) (.long v :: st)) : G x w nL Qf o M lv pc st := fun r M' ho H locs ls hP hS h => lv_lload_n C.1 C.2.1 d rfl (lv_at h j hj) (k r M' ho H locs ls hP hS h)
theorem gz_lload (C : Ok x w cc nL own ret rm) {i : Nat} {v : Int64} (j : Nat) (hj : lv[j]? = some (i, .long v)) (d : decode cc pc = .ok (.lload i, 2)) (k : G x w nL Qf o M lv (pc + 2) (.long v :: st)) : G x w nL Qf o M lv pc st := fun r M' ho H locs ls hP hS h => lv_lload C.1 C.2.1 d (lv_at h j hj) (k r M' ho H locs ls hP hS h)
theorem gz_aloadn (C : Ok x w cc nL own ret rm) {i : Fin 4} {v : Nat} (j : Nat) (hj : lv[j]? = some ((i : Nat), .ref v)) (d : decode cc pc = .ok (.aload_n i, 1)) (k : G x w nL Qf o M lv (pc + 1) (.ref v :: st)) : G x w nL Qf o M lv pc st := fun r M' ho H locs ls hP hS h => lv_aload_n C.1 C.2.1 d rfl (lv_at h j hj) (k r M' ho H locs ls hP hS h)
theorem gz_aload (C : Ok x w cc nL own ret rm) {i : Nat} {v : Nat} (j : Nat) (hj : lv[j]? = some (i, .ref v)) (d : decode cc pc = .ok (.aload i, 2)) (k : G x w nL Qf o M lv (pc + 2) (.ref v :: st)) : G x w nL Qf o M lv pc st := fun r M' ho H locs ls hP hS h => lv_aload C.1 C.2.1 d (lv_at h j hj) (k r M' ho H locs ls hP hS h)
theorem gz_istoren (C : Ok x w cc nL own ret rm) {i : Fin 4} {v : Int32} (lv' : List (Nat × Value)) (d : decode cc pc = .ok (.istore_n i, 1)) (hn : (i : Nat) < nL) (hl : ((i : Nat), Value.int v) :: lv.filter (fun q => !(q.1 == (i : Nat)) && !(q.1 + 1 == (i : Nat) && q.2.category == 2)) = lv') (k : G x w nL Qf o M lv' (pc + 1) st) : G x w nL Qf o M lv pc (.int v :: st) := fun r M' ho H locs ls hP hS h => lv_istore_n C.1 C.2.1 d rfl h hn hl (fun ls' h' => k r M' ho H locs ls' hP hS h')
theorem gz_istore (C : Ok x w cc nL own ret rm) {i : Nat} {v : Int32} (lv' : List (Nat × Value)) (d : decode cc pc = .ok (.istore i, 2)) (hn : i < nL) (hl : (i, Value.int v) :: lv.filter (fun q => !(q.1 == i) && !(q.1 + 1 == i && q.2.category == 2)) = lv') (k : G x w nL Qf o M lv' (pc + 2) st) : G x w nL Qf o M lv pc (.int v :: st) := fun r M' ho H locs ls hP hS h => lv_istore C.1 C.2.1 d h hn hl (fun ls' h' => k r M' ho H locs ls' hP hS h')
theorem gz_lstoren (C : Ok x w cc nL own ret rm) {i : Fin 4} {v : Int64} (lv' : List (Nat × Value)) (d : decode cc pc = .ok (.lstore_n i, 1)) (hn : (i : Nat) + 1 < nL) (hl : ((i : Nat), Value.long v) :: lv.filter (fun q => !(q.1 == (i : Nat)) && (!(q.1 == (i : Nat) + 1) && !(q.1 + 1 == (i : Nat) && q.2.category == 2))) = lv') (k : G x w nL Qf o M lv' (pc + 1) st) : G x w nL Qf o M lv pc (.long v :: st) := fun r M' ho H locs ls hP hS h => lv_lstore_n C.1 C.2.1 d rfl h hn hl (fun ls' h' => k r M' ho H locs ls' hP hS h')
theorem gz_lstore (C : Ok x w cc nL own ret rm) {i : Nat} {v : Int64} (lv' : List (Nat × Value)) (d : decode cc pc = .ok (.lstore i, 2)) (hn : i + 1 < nL) (hl : (i, Value.long v) :: lv.filter (fun q => !(q.1 == i) && (!(q.1 == i + 1) && !(q.1 + 1 == i && q.2.category == 2))) = lv') (k : G x w nL Qf o M lv' (pc + 2) st) : G x w nL Qf o M lv pc (.long v :: st) := fun r M' ho H locs ls hP hS h => lv_lstore C.1 C.2.1 d h hn hl (fun ls' h' => k r M' ho H locs ls' hP hS h')
theorem gz_iinc (C : Ok x w cc nL own ret rm) {i : Nat} {n : Int} {v v' : Int32} (j : Nat) (lv' : List (Nat × Value)) (hj : lv[j]? = some (i, .int v)) (d : decode cc pc = .ok (.iinc i n, 3)) (hv : v + Int32.ofInt n = v') (hn : i < nL) (hl : (i, Value.int v') :: lv.filter (fun q => !(q.1 == i) && !(q.1 + 1 == i && q.2.category == 2)) = lv') (k : G x w nL Qf o M lv' (pc + 3) st) : G x w nL Qf o M lv pc st := fun r M' ho H locs ls hP hS h => lv_iinc C.1 C.2.1 d h hj hv hn hl (fun ls' h' => k r M' ho H locs ls' hP hS h')
-- stack
theorem gz_dup (C : Ok x w cc nL own ret rm) {v : Value} (d : decode cc pc = .ok (.dup, 1)) (hv : v.category = 1) (k : G x w nL Qf o M lv (pc + 1) (v :: v :: st)) : G x w nL Qf o M lv pc (v :: st) := fun r M' ho H locs ls hP hS h => lv_dup C.1 C.2.1 d hv (k r M' ho H locs ls hP hS h)
theorem gz_dup2 (C : Ok x w cc nL own ret rm) {v u : Value} (d : decode cc pc = .ok (.dup2, 1)) (hv : v.category = 1) (hu : u.category = 1) (k : G x w nL Qf o M lv (pc + 1) (v :: u :: v :: u :: st)) : G x w nL Qf o M lv pc (v :: u :: st) := fun r M' ho H locs ls hP hS h => lv_dup2_11 C.1 C.2.1 d hv hu (k r M' ho H locs ls hP hS h)
-- arithmetic
theorem gz_iadd (C : Ok x w cc nL own ret rm) {u v : Int32} (d : decode cc pc = .ok (.iadd, 1)) (k : G x w nL Qf o M lv (pc + 1) (.int (u + v) :: st)) : G x w nL Qf o M lv pc (.int v :: .int u :: st) := fun r M' ho H locs ls hP hS h => lv_iadd C.1 C.2.1 d (k r M' ho H locs ls hP hS h)
theorem gz_isub (C : Ok x w cc nL own ret rm) {u v : Int32} (d : decode cc pc = .ok (.isub, 1)) (k : G x w nL Qf o M lv (pc + 1) (.int (u - v) :: st)) : G x w nL Qf o M lv pc (.int v :: .int u :: st) := fun r M' ho H locs ls hP hS h => lv_isub C.1 C.2.1 d (k r M' ho H locs ls hP hS h)
theorem gz_imul (C : Ok x w cc nL own ret rm) {u v : Int32} (d : decode cc pc = .ok (.imul, 1)) (k : G x w nL Qf o M lv (pc + 1) (.int (u * v) :: st)) : G x w nL Qf o M lv pc (.int v :: .int u :: st) := fun r M' ho H locs ls hP hS h => lv_imul C.1 C.2.1 d (k r M' ho H locs ls hP hS h)
theorem gz_iand (C : Ok x w cc nL own ret rm) {u v : Int32} (d : decode cc pc = .ok (.iand, 1)) (k : G x w nL Qf o M lv (pc + 1) (.int (u &&& v) :: st)) : G x w nL Qf o M lv pc (.int v :: .int u :: st) := fun r M' ho H locs ls hP hS h => lv_iand C.1 C.2.1 d (k r M' ho H locs ls hP hS h)
theorem gz_ior (C : Ok x w cc nL own ret rm) {u v : Int32} (d : decode cc pc = .ok (.ior, 1)) (k : G x w nL Qf o M lv (pc + 1) (.int (u ||| v) :: st)) : G x w nL Qf o M lv pc (.int v :: .int u :: st) := fun r M' ho H locs ls hP hS h => lv_ior C.1 C.2.1 d (k r M' ho H locs ls hP hS h)
theorem gz_ixor (C : Ok x w cc nL own ret rm) {u v : Int32} (d : decode cc pc = .ok (.ixor, 1)) (k : G x w nL Qf o M lv (pc + 1) (.int (u ^^^ v) :: st)) : G x w nL Qf o M lv pc (.int v :: .int u :: st) := fun r M' ho H locs ls hP hS h => lv_ixor C.1 C.2.1 d (k r M' ho H locs ls hP hS h)
theorem gz_ishl (C : Ok x w cc nL own ret rm) {u v : Int32} (d : decode cc pc = .ok (.ishl, 1)) (k : G x w nL Qf o M lv (pc + 1) (.int (u <<< (v &&& 31)) :: st)) : G x w nL Qf o M lv pc (.int v :: .int u :: st) := fun r M' ho H locs ls hP hS h => lv_ishl C.1 C.2.1 d (k r M' ho H locs ls hP hS h)
theorem gz_ishr (C : Ok x w cc nL own ret rm) {u v : Int32} (d : decode cc pc = .ok (.ishr, 1)) (k : G x w nL Qf o M lv (pc + 1) (.int (u >>> (v &&& 31)) :: st)) : G x w nL Qf o M lv pc (.int v :: .int u :: st) := fun r M' ho H locs ls hP hS h => lv_ishr C.1 C.2.1 d (k r M' ho H locs ls hP hS h)
theorem gz_iushr (C : Ok x w cc nL own ret rm) {u v : Int32} (d : decode cc pc = .ok (.iushr, 1)) (k : G x w nL Qf o M lv (pc + 1) (.int ((u.toUInt32 >>> (v.toUInt32 &&& Int32.toUInt32 31)).toInt32) :: st)) : G x w nL Qf o M lv pc (.int v :: .int u :: st) := fun r M' ho H locs ls hP hS h => lv_iushr C.1 C.2.1 d rfl (k r M' ho H locs ls hP hS h)
theorem gz_ladd (C : Ok x w cc nL own ret rm) {u v : Int64} (d : decode cc pc = .ok (.ladd, 1)) (k : G x w nL Qf o M lv (pc + 1) (.long (u + v) :: st)) : G x w nL Qf o M lv pc (.long v :: .long u :: st) := fun r M' ho H locs ls hP hS h => lv_ladd C.1 C.2.1 d (k r M' ho H locs ls hP hS h)
theorem gz_lsub (C : Ok x w cc nL own ret rm) {u v : Int64} (d : decode cc pc = .ok (.lsub, 1)) (k : G x w nL Qf o M lv (pc + 1) (.long (u - v) :: st)) : G x w nL Qf o M lv pc (.long v :: .long u :: st) := fun r M' ho H locs ls hP hS h => lv_lsub C.1 C.2.1 d (k r M' ho H locs ls hP hS h)
theorem gz_lmul (C : Ok x w cc nL own ret rm) {u v : Int64} (d : decode cc pc = .ok (.lmul, 1)) (k : G x w nL Qf o M lv (pc + 1) (.long (u * v) :: st)) : G x w nL Qf o M lv pc (.long v :: .long u :: st) := fun r M' ho H locs ls hP hS h => lv_lmul C.1 C.2.1 d (k r M' ho H locs ls hP hS h)
theorem gz_land (C : Ok x w cc nL own ret rm) {u v : Int64} (d : decode cc pc = .ok (.land, 1)) (k : G x w nL Qf o M lv (pc + 1) (.long (u &&& v) :: st)) : G x w nL Qf o M lv pc (.long v :: .long u :: st) := fun r M' ho H locs ls hP hS h => lv_land C.1 C.2.1 d (k r M' ho H locs ls hP hS h)
theorem gz_i2l (C : Ok x w cc nL own ret rm) {u : Int32} (d : decode cc pc = .ok (.i2l, 1)) (k : G x w nL Qf o M lv (pc + 1) (.long u.toInt64 :: st)) : G x w nL Qf o M lv pc (.int u :: st) := fun r M' ho H locs ls hP hS h => lv_i2l C.1 C.2.1 d rfl (k r M' ho H locs ls hP hS h)
theorem gz_l2i (C : Ok x w cc nL own ret rm) {u : Int64} (d : decode cc pc = .ok (.l2i, 1)) (k : G x w nL Qf o M lv (pc + 1) (.int u.toInt32 :: st)) : G x w nL Qf o M lv pc (.long u :: st) := fun r M' ho H locs ls hP hS h => lv_l2i C.1 C.2.1 d rfl (k r M' ho H locs ls hP hS h)
-- divisions: by a constant (hv), or by a number that the spec looks at
theorem gz_idivc (C : Ok x w cc nL own ret rm) {u v : Int32} (hv : ¬ v = 0) (d : decode cc pc = .ok (.idiv, 1)) (k : G x w nL Qf o M lv (pc + 1) (.int (u / v) :: st)) : G x w nL Qf o M lv pc (.int v :: .int u :: st) := fun r M' ho H locs ls hP hS h => lv_idiv C.1 C.2.1 d hv (k r M' ho H locs ls hP hS h)
theorem gz_iremc (C : Ok x w cc nL own ret rm) {u v : Int32} (hv : ¬ v = 0) (d : decode cc pc = .ok (.irem, 1)) (k : G x w nL Qf o M lv (pc + 1) (.int (u - u / v * v) :: st)) : G x w nL Qf o M lv pc (.int v :: .int u :: st) := fun r M' ho H locs ls hP hS h => lv_irem C.1 C.2.1 d hv (k r M' ho H locs ls hP hS h)
theorem gz_ldivc (C : Ok x w cc nL own ret rm) {u v : Int64} (hv : ¬ v = 0) (d : decode cc pc = .ok (.ldiv, 1)) (k : G x w nL Qf o M lv (pc + 1) (.long (u / v) :: st)) : G x w nL Qf o M lv pc (.long v :: .long u :: st) := fun r M' ho H locs ls hP hS h => lv_ldiv C.1 C.2.1 d hv (k r M' ho H locs ls hP hS h)
theorem gz_lremc (C : Ok x w cc nL own ret rm) {u v : Int64} (hv : ¬ v = 0) (d : decode cc pc = .ok (.lrem, 1)) (k : G x w nL Qf o M lv (pc + 1) (.long (u - u / v * v) :: st)) : G x w nL Qf o M lv pc (.long v :: .long u :: st) := fun r M' ho H locs ls hP hS h => lv_lrem C.1 C.2.1 d hv (k r M' ho H locs ls hP hS h)
theorem gz_nzI {v : Int32} (k : ¬ v = 0 → G x w nL Qf o M lv pc st) : G x w nL Qf (nzI v o) M lv pc st := by
  unfold nzI; by_cases q : v = 0
  · rw [if_pos q]; exact gz_none
  · rw [if_neg q]; exact k q
theorem gz_nzJ {v : Int64} (k : ¬ v = 0 → G x w nL Qf o M lv pc st) : G x w nL Qf (nzJ v o) M lv pc st := by
  unfold nzJ; by_cases q : v = 0
  · rw [if_pos q]; exact gz_none
  · rw [if_neg q]; exact k q
theorem gz_zb {v : Int32} (k : v = 0 ∨ v = 1 → G x w nL Qf o M lv pc st) : G x w nL Qf (zb v o) M lv pc st := by
  unfold zb; by_cases q : v = 0 ∨ v = 1
  · rw [if_pos q]; exact k q
  · rw [if_neg q]; exact gz_none
-- branches: the spec's if is over =, < alone; the first branch is where it holds
theorem gz_goto (C : Ok x w cc nL own ret rm) {off : Int} (tgt : Nat) (d : decode cc pc = .ok (.goto off, 3)) (ht : (pc : Int) + off = (tgt : Int)) (k : G x w nL Qf o M lv tgt st) : G x w nL Qf o M lv pc st := fun r M' ho H locs ls hP hS h => lv_goto C.1 C.2.1 d ht (k r M' ho H locs ls hP hS h)
theorem gz_ifeq (C : Ok x w cc nL own ret rm) {u : Int32} {off : Int} (tgt : Nat) (d : decode cc pc = .ok (.ifCond .eq off, 3)) (ht : (pc : Int) + off = (tgt : Int)) (ka : G x w nL Qf a M lv tgt st) (kb : G x w nL Qf b M lv (pc + 3) st) : G x w nL Qf (if u = 0 then a else b) M lv pc (.int u :: st) := gz_if (fun q r M' ho H locs ls hP hS h => lv_if_eq C.1 C.2.1 d ht (fun _ => ka r M' ho H locs ls hP hS h) (fun q' => absurd q q')) (fun q r M' ho H locs ls hP hS h => lv_if_eq C.1 C.2.1 d ht (fun q' => absurd q' q) (fun _ => kb r M' ho H locs ls hP hS h))
theorem gz_ifne (C : Ok x w cc nL own ret rm) {u : Int32} {off : Int} (tgt : Nat) (d : decode cc pc = .ok (.ifCond .ne off, 3)) (ht : (pc : Int) + off = (tgt : Int)) (ka : G x w nL Qf a M lv (pc + 3) st) (kb : G x w nL Qf b M lv tgt st) : G x w nL Qf (if u = 0 then a else b) M lv pc (.int u :: st) := gz_if (fun q r M' ho H locs ls hP hS h => lv_if_ne C.1 C.2.1 d ht (fun q' => absurd q q') (fun _ => ka r M' ho H locs ls hP hS h)) (fun q r M' ho H locs ls hP hS h => lv_if_ne C.1 C.2.1 d ht (fun _ => kb r M' ho H locs ls hP hS h) (fun q' => absurd q' q))
theorem gz_iflt (C : Ok x w cc nL own ret rm) {u : Int32} {off : Int} (tgt : Nat) (d : decode cc pc = .ok (.ifCond .lt off, 3)) (ht : (pc : Int) + off = (tgt : Int)) (ka : G x w nL Qf a M lv tgt st) (kb : G x w nL Qf b M lv (pc + 3) st) : G x w nL Qf (if u < 0 then a else b) M lv pc (.int u :: st) := gz_if (fun q r M' ho H locs ls hP hS h => lv_if_lt C.1 C.2.1 d ht (fun _ => ka r M' ho H locs ls hP hS h) (fun q' => absurd q q')) (fun q r M' ho H locs ls hP hS h => lv_if_lt C.1 C.2.1 d ht (fun q' => absurd q' q) (fun _ => kb r M' ho H locs ls hP hS h))
theorem gz_ifge (C : Ok x w cc nL own ret rm) {u : Int32} {off : Int} (tgt : Nat) (d : decode cc pc = .ok (.ifCond .ge off, 3)) (ht : (pc : Int) + off = (tgt : Int)) (ka : G x w nL Qf a M lv (pc + 3) st) (kb : G x w nL Qf b M lv tgt st) : G x w nL Qf (if u < 0 then a else b) M lv pc (.int u :: st) := gz_if (fun q r M' ho H locs ls hP hS h => lv_if_ge C.1 C.2.1 d ht (fun q' => absurd q (Int32.not_lt.mpr q')) (fun _ => ka r M' ho H locs ls hP hS h)) (fun q r M' ho H locs ls hP hS h => lv_if_ge C.1 C.2.1 d ht (fun _ => kb r M' ho H locs ls hP hS h) (fun q' => absurd (Int32.not_lt.mp q) q'))
theorem gz_ifgt (C : Ok x w cc nL own ret rm) {u : Int32} {off : Int} (tgt : Nat) (d : decode cc pc = .ok (.ifCond .gt off, 3)) (ht : (pc : Int) + off = (tgt : Int)) (ka : G x w nL Qf a M lv tgt st) (kb : G x w nL Qf b M lv (pc + 3) st) : G x w nL Qf (if 0 < u then a else b) M lv pc (.int u :: st) := gz_if (fun q r M' ho H locs ls hP hS h => lv_if_gt C.1 C.2.1 d ht (fun _ => ka r M' ho H locs ls hP hS h) (fun q' => absurd q q')) (fun q r M' ho H locs ls hP hS h => lv_if_gt C.1 C.2.1 d ht (fun q' => absurd q' q) (fun _ => kb r M' ho H locs ls hP hS h))
theorem gz_ifle (C : Ok x w cc nL own ret rm) {u : Int32} {off : Int} (tgt : Nat) (d : decode cc pc = .ok (.ifCond .le off, 3)) (ht : (pc : Int) + off = (tgt : Int)) (ka : G x w nL Qf a M lv (pc + 3) st) (kb : G x w nL Qf b M lv tgt st) : G x w nL Qf (if 0 < u then a else b) M lv pc (.int u :: st) := gz_if (fun q r M' ho H locs ls hP hS h => lv_if_le C.1 C.2.1 d ht (fun q' => absurd q (Int32.not_lt.mpr q')) (fun _ => ka r M' ho H locs ls hP hS h)) (fun q r M' ho H locs ls hP hS h => lv_if_le C.1 C.2.1 d ht (fun _ => kb r M' ho H locs ls hP hS h) (fun q' => absurd (Int32.not_lt.mp q) q'))
theorem gz_icmpeq (C : Ok x w cc nL own ret rm) {u v : Int32} {off : Int} (tgt : Nat) (d : decode cc pc = .ok (.if_icmp .eq off, 3)) (ht : (pc : Int) + off = (tgt : Int)) (ka : G x w nL Qf a M lv tgt st) (kb : G x w nL Qf b M lv (pc + 3) st) : G x w nL Qf (if u = v then a else b) M lv pc (.int v :: .int u :: st) := gz_if (fun q r M' ho H locs ls hP hS h => lv_icmp_eq C.1 C.2.1 d ht (fun _ => ka r M' ho H locs ls hP hS h) (fun q' => absurd q q')) (fun q r M' ho H locs ls hP hS h => lv_icmp_eq C.1 C.2.1 d ht (fun q' => absurd q' q) (fun _ => kb r M' ho H locs ls hP hS h))
theorem gz_icmpne (C : Ok x w cc nL own ret rm) {u v : Int32} {off : Int} (tgt : Nat) (d : decode cc pc = .ok (.if_icmp .ne off, 3)) (ht : (pc : Int) + off = (tgt : Int)) (ka : G x w nL Qf a M lv (pc + 3) st) (kb : G x w nL Qf b M lv tgt st) : G x w nL Qf (if u = v then a else b) M lv pc (.int v :: .int u :: st) := gz_if (fun q r M' ho H locs ls hP hS h => lv_icmp_ne C.1 C.2.1 d ht (fun q' => absurd q q') (fun _ => ka r M' ho H locs ls hP hS h)) (fun q r M' ho H locs ls hP hS h => lv_icmp_ne C.1 C.2.1 d ht (fun _ => kb r M' ho H locs ls hP hS h) (fun q' => absurd q' q))
theorem gz_icmplt (C : Ok x w cc nL own ret rm) {u v : Int32} {off : Int} (tgt : Nat) (d : decode cc pc = .ok (.if_icmp .lt off, 3)) (ht : (pc : Int) + off = (tgt : Int)) (ka : G x w nL Qf a M lv tgt st) (kb : G x w nL Qf b M lv (pc + 3) st) : G x w nL Qf (if u < v then a else b) M lv pc (.int v :: .int u :: st) := gz_if (fun q r M' ho H locs ls hP hS h => lv_icmp_lt C.1 C.2.1 d ht (fun _ => ka r M' ho H locs ls hP hS h) (fun q' => absurd q q')) (fun q r M' ho H locs ls hP hS h => lv_icmp_lt C.1 C.2.1 d ht (fun q' => absurd q' q) (fun _ => kb r M' ho H locs ls hP hS h))
theorem gz_icmpge (C : Ok x w cc nL own ret rm) {u v : Int32} {off : Int} (tgt : Nat) (d : decode cc pc = .ok (.if_icmp .ge off, 3)) (ht : (pc : Int) + off = (tgt : Int)) (ka : G x w nL Qf a M lv (pc + 3) st) (kb : G x w nL Qf b M lv tgt st) : G x w nL Qf (if u < v then a else b) M lv pc (.int v :: .int u :: st) := gz_if (fun q r M' ho H locs ls hP hS h => lv_icmp_ge C.1 C.2.1 d ht (fun q' => absurd q (Int32.not_lt.mpr q')) (fun _ => ka r M' ho H locs ls hP hS h)) (fun q r M' ho H locs ls hP hS h => lv_icmp_ge C.1 C.2.1 d ht (fun _ => kb r M' ho H locs ls hP hS h) (fun q' => absurd (Int32.not_lt.mp q) q'))
theorem gz_icmpgt (C : Ok x w cc nL own ret rm) {u v : Int32} {off : Int} (tgt : Nat) (d : decode cc pc = .ok (.if_icmp .gt off, 3)) (ht : (pc : Int) + off = (tgt : Int)) (ka : G x w nL Qf a M lv tgt st) (kb : G x w nL Qf b M lv (pc + 3) st) : G x w nL Qf (if v < u then a else b) M lv pc (.int v :: .int u :: st) := gz_if (fun q r M' ho H locs ls hP hS h => lv_icmp_gt C.1 C.2.1 d ht (fun _ => ka r M' ho H locs ls hP hS h) (fun q' => absurd q q')) (fun q r M' ho H locs ls hP hS h => lv_icmp_gt C.1 C.2.1 d ht (fun q' => absurd q' q) (fun _ => kb r M' ho H locs ls hP hS h))
theorem gz_icmple (C : Ok x w cc nL own ret rm) {u v : Int32} {off : Int} (tgt : Nat) (d : decode cc pc = .ok (.if_icmp .le off, 3)) (ht : (pc : Int) + off = (tgt : Int)) (ka : G x w nL Qf a M lv (pc + 3) st) (kb : G x w nL Qf b M lv tgt st) : G x w nL Qf (if v < u then a else b) M lv pc (.int v :: .int u :: st) := gz_if (fun q r M' ho H locs ls hP hS h => lv_icmp_le C.1 C.2.1 d ht (fun q' => absurd q (Int32.not_lt.mpr q')) (fun _ => ka r M' ho H locs ls hP hS h)) (fun q r M' ho H locs ls hP hS h => lv_icmp_le C.1 C.2.1 d ht (fun _ => kb r M' ho H locs ls hP hS h) (fun q' => absurd (Int32.not_lt.mp q) q'))
/-- lcmp: the row behind it (an if) takes one of three ways -/
theorem gz_lcmp (C : Ok x w cc nL own ret rm) {u v : Int64} (d : decode cc pc = .ok (.lcmp, 1)) (k : G x w nL Qf o M lv (pc + 1) (.int (lg_cmp u v) :: st)) : G x w nL Qf o M lv pc (.long v :: .long u :: st) := fun r M' ho H locs ls hP hS h => W.lcmp C.1 C.2.1 d (k r M' ho H locs ls hP hS h)
theorem gz_cnd {c c' : Prop} [Decidable c] [Decidable c'] (h : c ↔ c') (k : G x w nL Qf (if c' then a else b) M lv pc st) : G x w nL Qf (if c then a else b) M lv pc st := by
  by_cases q : c
  · rw [if_pos q]; rwa [if_pos (h.mp q)] at k
  · rw [if_neg q]; rwa [if_neg (fun z => q (h.mpr z))] at k
theorem lc_lt (u v : Int64) : u < v ↔ lg_cmp u v < 0 := by
  unfold lg_cmp
  simp only [gt_iff_lt, Int64.lt_iff_toInt_lt, ← Int64.toInt_inj]
  repeat' split
  all_goals first
    | (constructor <;> intro h <;> first | omega | (exact absurd h (by decide)) | decide)
theorem lc_gt (u v : Int64) : v < u ↔ 0 < lg_cmp u v := by
  unfold lg_cmp
  simp only [gt_iff_lt, Int64.lt_iff_toInt_lt, ← Int64.toInt_inj]
  repeat' split
  all_goals first
    | (constructor <;> intro h <;> first | omega | (exact absurd h (by decide)) | decide)
theorem lc_eq (u v : Int64) : u = v ↔ lg_cmp u v = 0 := by
  unfold lg_cmp
  simp only [gt_iff_lt, Int64.lt_iff_toInt_lt, ← Int64.toInt_inj]
  repeat' split
  all_goals first
    | (constructor <;> intro h <;> first | omega | (exact absurd h (by decide)) | decide)
-- switches
theorem gz_tabOut (C : Ok x w cc nL own ret rm) {df lo hi : Int} {offs : Array Int} {len : Nat} {u : Int32} (tgt : Nat) (d : decode cc pc = .ok (.tableswitch df lo hi offs, len)) (hu : u.toInt < lo ∨ hi < u.toInt) (ht : (pc : Int) + df = (tgt : Int)) (k : G x w nL Qf o M lv tgt st) : G x w nL Qf o M lv pc (.int u :: st) := fun r M' ho H locs ls hP hS h => lv_tableOut C.1 C.2.1 d hu ht (k r M' ho H locs ls hP hS h)
theorem gz_tabIn (C : Ok x w cc nL own ret rm) {df lo hi : Int} {offs : Array Int} {len : Nat} {u : Int32} (v : Int32) {off : Int} (tgt : Nat) (d : decode cc pc = .ok (.tableswitch df lo hi offs, len)) (hu : u = v) (h1 : ¬ v.toInt < lo) (h2 : ¬ hi < v.toInt) (ho : offs[(v.toInt - lo).toNat]? = some off) (ht : (pc : Int) + off = (tgt : Int)) (k : G x w nL Qf o M lv tgt st) : G x w nL Qf o M lv pc (.int u :: st) := by
  subst hu
  exact fun r M' hr H locs ls hP hS h => lv_tableIn C.1 C.2.1 d h1 h2 ho ht (k r M' hr H locs ls hP hS h)
theorem gz_look (C : Ok x w cc nL own ret rm) {df : Int} {ps : Array (Int × Int)} {len : Nat} {u : Int32} {off : Int} (tgt : Nat) (d : decode cc pc = .ok (.lookupswitch df ps, len)) (hp : (ps.toList.zip (ps.toList.drop 1)).all (fun (a, next) => a.1 < next.1) = true) (ho : Op.lookupswitch.offset ps.toList df u.toInt = off) (ht : (pc : Int) + off = (tgt : Int)) (k : G x w nL Qf o M lv tgt st) : G x w nL Qf o M lv pc (.int u :: st) := fun r M' hr H locs ls hP hS h => lv_lookup C.1 C.2.1 d hp ho ht (k r M' hr H locs ls hP hS h)
-- fields
theorem cel_o {w : Wd} {M : Mm} {c : Nat} (h : kd c < 12) : cel w M c = .inr (kd c, (List.range (nf (kd c))).map (fval w M c)) := by
  have h1 : ¬ kd c = 12 := by omega
  have h2 : ¬ kd c = 13 := by omega
  simp only [cel, h1, h2, if_false]
theorem cel_i {w : Wd} {M : Mm} {c : Nat} (h : kd c = 12) : cel w M c = .inl (w.2.2.1, ln c, .inl (M.1 c)) := by simp only [cel, h, if_true]
theorem cel_j {w : Wd} {M : Mm} {c : Nat} (h : kd c = 13) : cel w M c = .inl (w.2.2.2, ln c, .inr (.inl (M.2 c))) := by simp only [cel, h]; simp only [show ¬ (13 = 12) by decide, if_false, if_true]
theorem fld {w : Wd} {M : Mm} {c k : Nat} (h : k < nf (kd c)) : ((List.range (nf (kd c))).map (fval w M c))[k]? = some (fval w M c k) := by rw [List.getElem?_map, List.getElem?_range h]; rfl
/-- what the tables say of the class of a kind -/
def Kn (ci : Nat) (C : String) (T : u_T) (N : Nat) (ty : Nat → FieldType) : Prop := vwCl[ci]? = some (C, T, N) ∧ (∀ q ∈ u_ws C T N, q ∈ zA) ∧ (∀ k, k < N → parseFieldDescriptor (T k).2.2.1 = some (ty k)) ∧ (∀ a, a < N → ∀ b, b < N → a ≠ b → (T a).2.1 ≠ (T b).2.1) ∧ nf ci = N ∧ ci < 12
theorem gz_get (C : Ok x w cc nL own ret rm) {Cn : String} {T : u_T} {N ci : Nat} {ty : Nat → FieldType} {n : Nat} (c k : Nat) (v : Value) (kn : Kn ci Cn T N ty) (hc : kd c = ci) (hl : Cond.fieldLink own n (T k).1 (T k).2.1 (T k).2.2.1 ∈ zA) (hk : k < N) (d : decode cc pc = .ok (.getfield n, 3)) (hv : fval w M c k = v) (kk : G x w nL Qf o M lv (pc + 3) (v :: st)) : G x w nL Qf o M lv pc (.ref (w.1 c) :: st) := by
  intro r M' ho H locs ls hP hS h
  subst hc; subst hv
  obtain ⟨k1, k2, k3, k4, k5, k6⟩ := kn
  exact va_get C.1 C.2.1 C.2.2.2.2.1 k2 C.2.2.2.1 C.2.2.2.2.2.1 hP c ((gw_at w M (kd_lt (by omega))).trans (by rw [cel_o k6])) k1 k hk (C.2.2.2.2.1 _ hl) (fun _ h9 => h9) (fld (by rw [k5]; exact hk)) d (kk r M' ho H locs ls hP hS h)
theorem fv_I {w : Wd} {M : Mm} {c k : Nat} (h : ft (kd c) k = 0) : fval w M c k = .int (gI M c k) := by simp [fval, h, gI]
theorem fv_J {w : Wd} {M : Mm} {c k : Nat} (h : ft (kd c) k = 1) : fval w M c k = .long (gJ M c k) := by simp [fval, h, gJ]
theorem fv_R {w : Wd} {M : Mm} {c k c' : Nat} (h : ft (kd c) k = 2) (h2 : rt c k = c') : fval w M c k = .ref (w.1 c') := by simp [fval, h, h2]
theorem gz_putI (C : Ok x w cc nL own ret rm) {Cn : String} {T : u_T} {N ci : Nat} {ty : Nat → FieldType} {n : Nat} {f : Mm → Option (α × Mm)} (c k : Nat) {v : Int32} (kn : Kn ci Cn T N ty) (hc : kd c = ci) (hl : Cond.fieldLink own n (T k).1 (T k).2.1 (T k).2.2.1 ∈ zA) (hk : k < N) (hft : ft (kd c) k = 0) (hfin : (T k).2.2.2 = false) {tv : FieldType} (htv : parseFieldDescriptor (T k).2.2.1 = some tv) (hn : narrow tv (.int v) = .int v) (hfit : fits tv (.int v) = true) (d : decode cc pc = .ok (.putfield n, 3)) (kk : ∀ M1, G x w nL Qf (f M1) M1 lv (pc + 3) st) : G x w nL Qf (bl (sI M c k v) f) M lv pc (.int v :: .ref (w.1 c) :: st) := by
  intro r M' ho H locs ls hP hS h
  subst hc
  obtain ⟨k1, k2, k3, k4, k5, k6⟩ := kn
  refine va_put C.1 C.2.1 C.2.2.2.2.1 k2 ty k3 k4 C.2.2.2.1 C.2.2.2.2.2.1 hP (gw_D C.2.2.2.2.2.2.1 M) hS c ((gw_at w M (kd_lt (by omega))).trans (by rw [cel_o k6])) k1 k hk (C.2.2.2.2.1 _ hl) (fun _ h9 => h9) hfin htv hn hfit (by simp [k5, hk]) d (fun H1 locs1 hP1 _ hS1 => ?_)
  rw [gw_putI k6 hft] at hP1
  exact kk _ r M' ho H1 locs1 ls hP1 hS1 h
theorem gz_putJ (C : Ok x w cc nL own ret rm) {Cn : String} {T : u_T} {N ci : Nat} {ty : Nat → FieldType} {n : Nat} {f : Mm → Option (α × Mm)} (c k : Nat) {v : Int64} (kn : Kn ci Cn T N ty) (hc : kd c = ci) (hl : Cond.fieldLink own n (T k).1 (T k).2.1 (T k).2.2.1 ∈ zA) (hk : k < N) (hft : ft (kd c) k = 1) (hfin : (T k).2.2.2 = false) {tv : FieldType} (htv : parseFieldDescriptor (T k).2.2.1 = some tv) (hn : narrow tv (.long v) = .long v) (hfit : fits tv (.long v) = true) (d : decode cc pc = .ok (.putfield n, 3)) (kk : ∀ M1, G x w nL Qf (f M1) M1 lv (pc + 3) st) : G x w nL Qf (bl (sJ M c k v) f) M lv pc (.long v :: .ref (w.1 c) :: st) := by
  intro r M' ho H locs ls hP hS h
  subst hc
  obtain ⟨k1, k2, k3, k4, k5, k6⟩ := kn
  refine va_put C.1 C.2.1 C.2.2.2.2.1 k2 ty k3 k4 C.2.2.2.1 C.2.2.2.2.2.1 hP (gw_D C.2.2.2.2.2.2.1 M) hS c ((gw_at w M (kd_lt (by omega))).trans (by rw [cel_o k6])) k1 k hk (C.2.2.2.2.1 _ hl) (fun _ h9 => h9) hfin htv hn hfit (by simp [k5, hk]) d (fun H1 locs1 hP1 _ hS1 => ?_)
  rw [gw_putJ k6 hft] at hP1
  exact kk _ r M' ho H1 locs1 ls hP1 hS1 h
theorem nrw_z {v : Int32} (h : v = 0 ∨ v = 1) : narrow .boolean (.int v) = .int v := by rcases h with rfl | rfl <;> decide
-- rows (arrays)
theorem in_of {i : Int32} {n : Nat} (h : 0 ≤ i.toInt ∧ i.toInt < n) : vp_in i n := vp_in_iff.mpr h
theorem gz_iald (C : Ok x w cc nL own ret rm) {f : Int32 → Option (α × Mm)} {i : Int32} {c : Nat} (hc : kd c = 12) (d : decode cc pc = .ok (.iaload, 1)) (kk : ∀ y, G x w nL Qf (f y) M lv (pc + 1) (.int y :: st)) : G x w nL Qf (rdI M c i f) M lv pc (.int i :: .ref (w.1 c) :: st) := by
  unfold rdI
  refine gz_if (fun q r M' ho H locs ls hP hS h => ?_) (fun _ => gz_none)
  exact va_iald (f := M.1 c) C.1 C.2.1 C.2.2.2.2.2.1 hP c 0 ((gw_at w M (kd_lt (by omega))).trans (by rw [cel_i hc])) rfl (in_of q) d (kk _ r M' ho H locs ls hP hS h)
theorem gz_lald (C : Ok x w cc nL own ret rm) {f : Int64 → Option (α × Mm)} {i : Int32} {c : Nat} (hc : kd c = 13) (d : decode cc pc = .ok (.laload, 1)) (kk : ∀ y, G x w nL Qf (f y) M lv (pc + 1) (.long y :: st)) : G x w nL Qf (rdJ M c i f) M lv pc (.int i :: .ref (w.1 c) :: st) := by
  unfold rdJ
  refine gz_if (fun q r M' ho H locs ls hP hS h => ?_) (fun _ => gz_none)
  exact va_lald (f := M.2 c) C.1 C.2.1 C.2.2.2.2.2.1 hP c 1 ((gw_at w M (kd_lt (by omega))).trans (by rw [cel_j hc])) rfl (in_of q) d (kk _ r M' ho H locs ls hP hS h)
theorem gz_iast (C : Ok x w cc nL own ret rm) {f : Mm → Option (α × Mm)} {i v : Int32} {c : Nat} (hc : kd c = 12) (d : decode cc pc = .ok (.iastore, 1)) (kk : ∀ M1, G x w nL Qf (f M1) M1 lv (pc + 1) st) : G x w nL Qf (wrI M c i v f) M lv pc (.int v :: .int i :: .ref (w.1 c) :: st) := by
  unfold wrI
  refine gz_if (fun q r M' ho H locs ls hP hS h => ?_) (fun _ => gz_none)
  refine va_iast C.1 C.2.1 C.2.2.2.2.2.1 hP (gw_D C.2.2.2.2.2.2.1 M) hS c 0 ((gw_at w M (kd_lt (by omega))).trans (by rw [cel_i hc])) rfl (in_of q) d (fun H1 locs1 hP1 _ hS1 => ?_)
  rw [gw_arI hc] at hP1
  exact kk _ r M' ho H1 locs1 ls hP1 hS1 h
theorem gz_last (C : Ok x w cc nL own ret rm) {f : Mm → Option (α × Mm)} {i : Int32} {v : Int64} {c : Nat} (hc : kd c = 13) (d : decode cc pc = .ok (.lastore, 1)) (kk : ∀ M1, G x w nL Qf (f M1) M1 lv (pc + 1) st) : G x w nL Qf (wrJ M c i v f) M lv pc (.long v :: .int i :: .ref (w.1 c) :: st) := by
  unfold wrJ
  refine gz_if (fun q r M' ho H locs ls hP hS h => ?_) (fun _ => gz_none)
  refine va_last C.1 C.2.1 C.2.2.2.2.2.1 hP (gw_D C.2.2.2.2.2.2.1 M) hS c 1 ((gw_at w M (kd_lt (by omega))).trans (by rw [cel_j hc])) rfl (in_of q) d (fun H1 locs1 hP1 _ hS1 => ?_)
  rw [gw_arJ hc] at hP1
  exact kk _ r M' ho H1 locs1 ls hP1 hS1 h
theorem gz_alenI (C : Ok x w cc nL own ret rm) {c : Nat} {v : Int32} (hc : kd c = 12) (hv : nI (ln c) = v) (d : decode cc pc = .ok (.arraylength, 1)) (kk : G x w nL Qf o M lv (pc + 1) (.int v :: st)) : G x w nL Qf o M lv pc (.ref (w.1 c) :: st) := fun r M' ho H locs ls hP hS h => va_alen (x := (ln c, .inl (M.1 c))) C.1 C.2.1 C.2.2.2.2.2.1 hP c 0 ((gw_at w M (kd_lt (by omega))).trans (by rw [cel_i hc])) rfl hv d (kk r M' ho H locs ls hP hS h)
theorem gz_alenJ (C : Ok x w cc nL own ret rm) {c : Nat} {v : Int32} (hc : kd c = 13) (hv : nI (ln c) = v) (d : decode cc pc = .ok (.arraylength, 1)) (kk : G x w nL Qf o M lv (pc + 1) (.int v :: st)) : G x w nL Qf o M lv pc (.ref (w.1 c) :: st) := fun r M' ho H locs ls hP hS h => va_alen (x := (ln c, .inr (.inl (M.2 c)))) C.1 C.2.1 C.2.2.2.2.2.1 hP c 1 ((gw_at w M (kd_lt (by omega))).trans (by rw [cel_j hc])) rfl hv d (kk r M' ho H locs ls hP hS h)
end GR
end
section
/-! RETURNS and CALLS of the judgement G -/
section GC
variable {α β γ : Type} {x : Cx} {w : Wd} {cc : ByteArray} {nL : Nat} {own : String} {ret : Option FieldType} {rm : Room} {Qf : α → Mm → Array Value → State → Outcome → State → Prop} {o : Option (α × Mm)} {M : Mm} {lv : List (Nat × Value)} {pc : Nat} {st : List Value}
theorem gz_iret (C : Ok x w cc nL own (some .int) rm) {v : Int32} (d : decode cc pc = .ok (.ireturn, 1)) : G x w nL (qI w) (some (v, M)) M lv pc [.int v] := by
  intro r M' ho H locs ls hP hS h
  cases ho
  exact W.iret C.1 C.2.1 C.2.2.2.2.2.2.2.2.1 (fun t ht hW => ⟨⟨v, (), rfl, rfl, by show va_P _ _ _ t.heap; rw [ht]; exact hP⟩, hS.F ht⟩) hS.2.2 d C.2.2.2.2.2.2.2.2.2.1
theorem gz_zret (C : Ok x w cc nL own (some .boolean) rm) {v : Int32} (hv : v = 0 ∨ v = 1) (d : decode cc pc = .ok (.ireturn, 1)) : G x w nL (qI w) (some (v, M)) M lv pc [.int v] := by
  intro r M' ho H locs ls hP hS h
  cases ho
  exact W.zret C.1 C.2.1 C.2.2.2.2.2.2.2.2.1 (nrw_z hv) (fun t ht hW => ⟨⟨v, (), rfl, rfl, by show va_P _ _ _ t.heap; rw [ht]; exact hP⟩, hS.F ht⟩) hS.2.2 d C.2.2.2.2.2.2.2.2.2.1
theorem gz_lret (C : Ok x w cc nL own (some .long) rm) {v : Int64} (d : decode cc pc = .ok (.lreturn, 1)) : G x w nL (qJ w) (some (v, M)) M lv pc [.long v] := by
  intro r M' ho H locs ls hP hS h
  cases ho
  exact W.lret C.1 C.2.1 C.2.2.2.2.2.2.2.2.1 (fun t ht hW => ⟨⟨v, (), rfl, rfl, by show va_P _ _ _ t.heap; rw [ht]; exact hP⟩, hS.F ht⟩) hS.2.2 d C.2.2.2.2.2.2.2.2.2.1
theorem gz_vret (C : Ok x w cc nL own none rm) (d : decode cc pc = .ok (.return_, 1)) : G x w nL (qV w) (some ((), M)) M lv pc [] := by
  intro r M' ho H locs ls hP hS h
  cases ho
  exact W.vret C.1 C.2.1 C.2.2.2.2.2.2.2.2.1 (fun t ht hW => ⟨⟨(), rfl, trivial, by show va_P _ _ _ t.heap; rw [ht]; exact hP⟩, hS.F ht⟩) hS.2.2 d C.2.2.2.2.2.2.2.2.2.1
/-- what the tables say of a method that is called -/
def Cal (y : MethodName) (cc : ByteArray) (maxL : Nat) (ret : Option FieldType) (n : Nat) : Prop := Cond.code y cc maxL ret ∈ zA ∧ Cond.initialized y.cls ∈ zA ∧ y.cls ≠ "java/lang/invoke/MethodHandle" ∧ y.cls ≠ "java/lang/invoke/VarHandle" ∧ (parseMethodDescriptor y.desc).map (fun d => d.parameters.length) = some n
def CalV (y : MethodName) (cc : ByteArray) (maxL : Nat) (ret : Option FieldType) (n : Nat) : Prop := Cal y cc maxL ret n ∧ Cond.instanceMethod y ∈ zA ∧ Cond.selects y.cls y y ∈ zA
def CalS (y : MethodName) (cc : ByteArray) (maxL : Nat) (ret : Option FieldType) (n : Nat) : Prop := Cal y cc maxL ret n ∧ Cond.static y ∈ zA
/-- the link of a call: in the tables, or a nest mate's -/
def Lnk (own : String) (n : Nat) (y : MethodName) : Prop := Cond.methodLink own n y ∈ zA ∨ ∃ h : String, (own, n, y, h) ∈ nwL
theorem callB_z {y : MethodName} {cy : ByteArray} {mL n k : Nat} {ry : Option FieldType} {ro : Room} (C : Ok x w cc nL own ret rm) (hc : Cal y cy mL ry n) (hl : Cond.methodLink own k y ∈ zA) (ho : ro.cells = 0 ∧ ro.slots = 0) (hR : ro.frames + 1 ≤ rm.frames ∧ 8 + (mL + 11) + ro.locals ≤ rm.locals) : CallB x.2.2.2.1 (cS x) (cAr x) own k y cy mL ry (.code y cy mL ry :: zA) ro 0 0 n := by
  obtain ⟨h1, h2, h3⟩ := hc
  have hts : ∀ q ∈ (.code y cy mL ry :: zA), q.before (cAr x) (cS x) = true := fun q hq => C.2.2.2.2.1 q ((List.mem_cons.mp hq).elim (fun e => e ▸ h1) id)
  exact callB_of n hts (zA_good h1) rfl ho.1 ho.2 (C.2.2.2.2.1 _ h2) (C.2.2.2.2.1 _ hl) h3 (by rw [C.2.2.2.2.2.2.2.2.2.2.1]; exact hR)
theorem callN_z {y : MethodName} {cy : ByteArray} {mL n k : Nat} {ry : Option FieldType} {ro : Room} {host : String} (C : Ok x w cc nL own ret rm) (hc : Cal y cy mL ry n) (hl : (own, k, y, host) ∈ nwL) (ho : ro.cells = 0 ∧ ro.slots = 0) (hR : ro.frames + 1 ≤ rm.frames ∧ 8 + (mL + 11) + ro.locals ≤ rm.locals) : va_CN x.2.2.2.1 (cS x) (cAr x) own k y host cy mL ry (.code y cy mL ry :: zA) ro 0 0 n := by
  obtain ⟨h1, h2, h3⟩ := hc
  have hts : ∀ q ∈ (.code y cy mL ry :: zA), q.before (cAr x) (cS x) = true := fun q hq => C.2.2.2.2.1 q ((List.mem_cons.mp hq).elim (fun e => e ▸ h1) id)
  exact va_cnB n hts (zA_good h1) rfl ho.1 ho.2 (C.2.2.2.2.2.2.2.1 _ hl) (C.2.2.2.2.1 _ h2) h3 (by rw [C.2.2.2.2.2.2.2.2.2.2.1]; exact hR)
theorem blind_z {w : Wd} {M : Mm} {av : List Value} : FrameBlind (va_Pc av (PU w M)) := fun a U g mk q => by
  obtain ⟨q0, q1, q2, q3, q4⟩ := q
  exact ⟨q0, q1, va_K.moved (u := U) (U := U.calling g mk a) (Vm.Alike.refl U.vm) q2, q3, fun z hz => va_Nw.same rfl (show U.vm = (U.calling g mk a).vm from rfl) (q4 z hz)⟩
theorem pre_z {H : Heap} (C : Ok x w cc nL own ret rm) (hP : va_P w.2.1 vwCl (gw w M) H) (av : List Value) : ∀ U : State, U.heap = H → (cS x).WarmedH U.vm → va_Pc av (PU w M) av.toArray U := fun U hU hW => ⟨rfl, by rw [hU]; exact hP, va_K.moved hW.alike C.2.2.2.2.2.1, C.2.2.2.2.2.2.1, C.2.2.2.2.2.2.2.1.warm hW⟩
/-- a call has run: from the callee's contract -/
def Run (x : Cx) (H : Heap) (locs : List Loc) (g : JFrame) (rest : List Value) (Qa : State → Outcome → State → Prop) (free : Addr → Prop) : Prop := va_Run x.1 x.2.1 x.2.2.1 x.2.2.2.1 (cS x) (cM x) (cAr x) (cB x) x.2.2.2.2.2.2.2.2.1 x.2.2.2.2.2.2.2.2.2 H locs 0 0 0 0 g rest Qa free
theorem run_S {Qc : α → Mm → Array Value → State → Outcome → State → Prop} {y : MethodName} {cy : ByteArray} {mL k n : Nat} {ry : Option FieldType} {ro : Room} {As rest : List Value} {oy : Option (α × Mm)} {r : α} {M1 : Mm} {H : Heap} {locs : List Loc} {ls : Array Slot} (C : Ok x w cc nL own ret rm) (hM : CT x.2.1 y cy mL ry ro w Qc As oy M) (hr : oy = some (r, M1)) (cy1 : CalS y cy mL ry n) (hl : Lnk own k y) (hro : ro.cells = 0 ∧ ro.slots = 0) (hR : ro.frames + 1 ≤ rm.frames ∧ 8 + (mL + 11) + ro.locals ≤ rm.locals) (hn : As.length = n) (hst : st = As.reverse ++ rest) (hw8 : (rest.map fun v => v.category).sum ≤ 8) (d : decode cc pc = .ok (.invokestatic k, 3)) (hP : va_P w.2.1 vwCl (gw w M) H) (h : lv_has ls nL lv) :
    Run x H locs (F0 (cM x) pc ls st) rest (Qc r M1 As.toArray) (FA w) := by
  have hf : 0 + 0 ≤ x.2.2.2.1.cells ∧ 0 + 0 ≤ x.2.2.2.1.slots := ⟨Nat.zero_le _, Nat.zero_le _⟩
  rcases hl with hl | ⟨host, hl⟩
  · exact va_runS ⟨C.1, C.2.1, C.2.2.1, C.2.2.2.1, C.2.2.2.2.1⟩ (hM r M1 hr) ⟨callB_z C cy1.1 hl hro hR, C.2.2.2.2.1 _ cy1.2⟩ ⟨blind_z, pre_z C hP As⟩ rfl hn h.1 hst (lv_room hw8) d hf
  · exact va_runSN ⟨C.1, C.2.1, C.2.2.1, C.2.2.2.1, C.2.2.2.2.1⟩ (hM r M1 hr) ⟨callN_z C cy1.1 hl hro hR, C.2.2.2.2.1 _ cy1.2, trivial⟩ ⟨blind_z, pre_z C hP As⟩ rfl hn h.1 hst (lv_room hw8) d hf
theorem run_V {Qc : α → Mm → Array Value → State → Outcome → State → Prop} {y : MethodName} {cy : ByteArray} {mL k n : Nat} {ry : Option FieldType} {ro : Room} {As rest : List Value} {oy : Option (α × Mm)} {r : α} {M1 : Mm} {H : Heap} {locs : List Loc} {ls : Array Slot} {Cn : String} {T : u_T} {N ci : Nat} {ty : Nat → FieldType} (c : Nat) (kn : Kn ci Cn T N ty) (hc : kd c = ci) (hcn : y.cls = Cn) (C : Ok x w cc nL own ret rm) (hM : CT x.2.1 y cy mL ry ro w Qc (.ref (w.1 c) :: As) oy M) (hr : oy = some (r, M1)) (cy1 : CalV y cy mL ry n) (hl : Cond.methodLink own k y ∈ zA) (hro : ro.cells = 0 ∧ ro.slots = 0) (hR : ro.frames + 1 ≤ rm.frames ∧ 8 + (mL + 11) + ro.locals ≤ rm.locals) (hn : As.length = n) (hst : st = As.reverse ++ .ref (w.1 c) :: rest) (hw8 : (rest.map fun v => v.category).sum ≤ 8) (d : decode cc pc = .ok (.invokevirtual k, 3)) (hP : va_P w.2.1 vwCl (gw w M) H) (h : lv_has ls nL lv) :
    Run x H locs (F0 (cM x) pc ls st) rest (Qc r M1 (Value.ref (w.1 c) :: As).toArray) (FA w) := by
  subst hc; subst hcn
  obtain ⟨k1, k2, k3, k4, k5, k6⟩ := kn
  have h52 : c < 52 := kd_lt (by omega)
  have hg : (gw w M)[c]? = some (w.1 c, .inr (kd c, (List.range (nf (kd c))).map (fval w M c))) := (gw_at w M h52).trans (by rw [cel_o k6])
  exact va_runV ⟨C.1, C.2.1, C.2.2.1, C.2.2.2.1, C.2.2.2.2.1⟩ (hM r M1 hr) ⟨callB_z C cy1.1 hl hro hR, C.2.2.2.2.1 _ cy1.2.1, C.2.2.2.2.1 _ cy1.2.2⟩ ⟨blind_z, va_recv C.2.2.2.2.2.1 hP k1 hg, pre_z C hP _⟩ rfl hn h.1 hst (lv_room hw8) d ⟨Nat.zero_le _, Nat.zero_le _⟩
theorem gz_cI {As : List Value} {oy : Option (Int32 × Mm)} {f : Int32 → Mm → Option (α × Mm)} {rest : List Value} {av : Array Value} (k : ∀ (r : Int32) (M1 : Mm), oy = some (r, M1) → ∀ (H : Heap) (locs : List Loc) (ls : Array Slot), va_P w.2.1 vwCl (gw w M) H → lv_has ls nL lv → Run x H locs (F0 (cM x) pc ls st) rest (qI w r M1 av) (FA w)) (kk : ∀ r M1, G x w nL Qf (f r M1) M1 lv (pc + 3) (.int r :: rest)) : G x w nL Qf (bd oy f) M lv pc st := by
  intro r M' ho H locs ls hP hS h
  unfold bd at ho
  cases hq : oy with
  | none => rw [hq] at ho; cases ho
  | some q =>
    rw [hq] at ho
    exact va_calli (k q.1 q.2 hq H locs ls hP h) hS (fun _ _ z => z) (fun _ z => z) (fun r1 u t H1 locs1 ht hvm hp hB hz hk hS1 => by
      cases hp
      rw [ht] at hB
      exact kk q.1 q.2 r M' ho H1 locs1 ls hB hS1 h)
theorem gz_cJ {As : List Value} {oy : Option (Int64 × Mm)} {f : Int64 → Mm → Option (α × Mm)} {rest : List Value} {av : Array Value} (k : ∀ (r : Int64) (M1 : Mm), oy = some (r, M1) → ∀ (H : Heap) (locs : List Loc) (ls : Array Slot), va_P w.2.1 vwCl (gw w M) H → lv_has ls nL lv → Run x H locs (F0 (cM x) pc ls st) rest (qJ w r M1 av) (FA w)) (kk : ∀ r M1, G x w nL Qf (f r M1) M1 lv (pc + 3) (.long r :: rest)) : G x w nL Qf (bd oy f) M lv pc st := by
  intro r M' ho H locs ls hP hS h
  unfold bd at ho
  cases hq : oy with
  | none => rw [hq] at ho; cases ho
  | some q =>
    rw [hq] at ho
    exact va_calll (k q.1 q.2 hq H locs ls hP h) hS (fun _ _ z => z) (fun _ z => z) (fun r1 u t H1 locs1 ht hvm hp hB hz hk hS1 => by
      cases hp
      rw [ht] at hB
      exact kk q.1 q.2 r M' ho H1 locs1 ls hB hS1 h)
theorem gz_cV {As : List Value} {oy : Option (Unit × Mm)} {f : Unit → Mm → Option (α × Mm)} {rest : List Value} {av : Array Value} (k : ∀ (r : Unit) (M1 : Mm), oy = some (r, M1) → ∀ (H : Heap) (locs : List Loc) (ls : Array Slot), va_P w.2.1 vwCl (gw w M) H → lv_has ls nL lv → Run x H locs (F0 (cM x) pc ls st) rest (qV w r M1 av) (FA w)) (kk : ∀ r M1, G x w nL Qf (f r M1) M1 lv (pc + 3) rest) : G x w nL Qf (bd oy f) M lv pc st := by
  intro r M' ho H locs ls hP hS h
  unfold bd at ho
  cases hq : oy with
  | none => rw [hq] at ho; cases ho
  | some q =>
    rw [hq] at ho
    exact va_callv (k q.1 q.2 hq H locs ls hP h) hS (fun _ _ z => z) (fun _ z => z) (fun u t H1 locs1 ht hvm hp hB hz hk hS1 => by
      rw [ht] at hB
      exact kk q.1 q.2 r M' ho H1 locs1 ls hB hS1 h)
-- the six kinds of calls
theorem gz_callSI {y : MethodName} {cy : ByteArray} {mL k n : Nat} {ry : Option FieldType} {ro : Room} {oy : Option (Int32 × Mm)} {f : Int32 → Mm → Option (α × Mm)} (As rest : List Value) (C : Ok x w cc nL own ret rm) (hM : CT x.2.1 y cy mL ry ro w (qI w) As oy M) (cy1 : CalS y cy mL ry n) (hl : Lnk own k y) (hro : ro.cells = 0 ∧ ro.slots = 0) (hR : ro.frames + 1 ≤ rm.frames ∧ 8 + (mL + 11) + ro.locals ≤ rm.locals) (hn : As.length = n) (hst : st = As.reverse ++ rest) (hw8 : (rest.map fun v => v.category).sum ≤ 8) (d : decode cc pc = .ok (.invokestatic k, 3)) (kk : ∀ r M1, G x w nL Qf (f r M1) M1 lv (pc + 3) (.int r :: rest)) : G x w nL Qf (bd oy f) M lv pc st :=
  gz_cI (As := As) (fun r M1 hr H locs ls hP h => run_S C hM hr cy1 hl hro hR hn hst hw8 d hP h) kk
theorem gz_callSJ {y : MethodName} {cy : ByteArray} {mL k n : Nat} {ry : Option FieldType} {ro : Room} {oy : Option (Int64 × Mm)} {f : Int64 → Mm → Option (α × Mm)} (As rest : List Value) (C : Ok x w cc nL own ret rm) (hM : CT x.2.1 y cy mL ry ro w (qJ w) As oy M) (cy1 : CalS y cy mL ry n) (hl : Lnk own k y) (hro : ro.cells = 0 ∧ ro.slots = 0) (hR : ro.frames + 1 ≤ rm.frames ∧ 8 + (mL + 11) + ro.locals ≤ rm.locals) (hn : As.length = n) (hst : st = As.reverse ++ rest) (hw8 : (rest.map fun v => v.category).sum ≤ 8) (d : decode cc pc = .ok (.invokestatic k, 3)) (kk : ∀ r M1, G x w nL Qf (f r M1) M1 lv (pc + 3) (.long r :: rest)) : G x w nL Qf (bd oy f) M lv pc st :=
  gz_cJ (As := As) (fun r M1 hr H locs ls hP h => run_S C hM hr cy1 hl hro hR hn hst hw8 d hP h) kk
theorem gz_callSV {y : MethodName} {cy : ByteArray} {mL k n : Nat} {ry : Option FieldType} {ro : Room} {oy : Option (Unit × Mm)} {f : Unit → Mm → Option (α × Mm)} (As rest : List Value) (C : Ok x w cc nL own ret rm) (hM : CT x.2.1 y cy mL ry ro w (qV w) As oy M) (cy1 : CalS y cy mL ry n) (hl : Lnk own k y) (hro : ro.cells = 0 ∧ ro.slots = 0) (hR : ro.frames + 1 ≤ rm.frames ∧ 8 + (mL + 11) + ro.locals ≤ rm.locals) (hn : As.length = n) (hst : st = As.reverse ++ rest) (hw8 : (rest.map fun v => v.category).sum ≤ 8) (d : decode cc pc = .ok (.invokestatic k, 3)) (kk : ∀ r M1, G x w nL Qf (f r M1) M1 lv (pc + 3) rest) : G x w nL Qf (bd oy f) M lv pc st :=
  gz_cV (As := As) (fun r M1 hr H locs ls hP h => run_S C hM hr cy1 hl hro hR hn hst hw8 d hP h) kk
theorem gz_callVI {y : MethodName} {cy : ByteArray} {mL k n : Nat} {ry : Option FieldType} {ro : Room} {oy : Option (Int32 × Mm)} {f : Int32 → Mm → Option (α × Mm)} {Cn : String} {T : u_T} {N ci : Nat} {ty : Nat → FieldType} (c : Nat) (As rest : List Value) (C : Ok x w cc nL own ret rm) (kn : Kn ci Cn T N ty) (hc : kd c = ci) (hcn : y.cls = Cn) (hM : CT x.2.1 y cy mL ry ro w (qI w) (.ref (w.1 c) :: As) oy M) (cy1 : CalV y cy mL ry n) (hl : Cond.methodLink own k y ∈ zA) (hro : ro.cells = 0 ∧ ro.slots = 0) (hR : ro.frames + 1 ≤ rm.frames ∧ 8 + (mL + 11) + ro.locals ≤ rm.locals) (hn : As.length = n) (hst : st = As.reverse ++ .ref (w.1 c) :: rest) (hw8 : (rest.map fun v => v.category).sum ≤ 8) (d : decode cc pc = .ok (.invokevirtual k, 3)) (kk : ∀ r M1, G x w nL Qf (f r M1) M1 lv (pc + 3) (.int r :: rest)) : G x w nL Qf (bd oy f) M lv pc st :=
  gz_cI (As := As) (fun r M1 hr H locs ls hP h => run_V c kn hc hcn C hM hr cy1 hl hro hR hn hst hw8 d hP h) kk
theorem gz_callVJ {y : MethodName} {cy : ByteArray} {mL k n : Nat} {ry : Option FieldType} {ro : Room} {oy : Option (Int64 × Mm)} {f : Int64 → Mm → Option (α × Mm)} {Cn : String} {T : u_T} {N ci : Nat} {ty : Nat → FieldType} (c : Nat) (As rest : List Value) (C : Ok x w cc nL own ret rm) (kn : Kn ci Cn T N ty) (hc : kd c = ci) (hcn : y.cls = Cn) (hM : CT x.2.1 y cy mL ry ro w (qJ w) (.ref (w.1 c) :: As) oy M) (cy1 : CalV y cy mL ry n) (hl : Cond.methodLink own k y ∈ zA) (hro : ro.cells = 0 ∧ ro.slots = 0) (hR : ro.frames + 1 ≤ rm.frames ∧ 8 + (mL + 11) + ro.locals ≤ rm.locals) (hn : As.length = n) (hst : st = As.reverse ++ .ref (w.1 c) :: rest) (hw8 : (rest.map fun v => v.category).sum ≤ 8) (d : decode cc pc = .ok (.invokevirtual k, 3)) (kk : ∀ r M1, G x w nL Qf (f r M1) M1 lv (pc + 3) (.long r :: rest)) : G x w nL Qf (bd oy f) M lv pc st :=
  gz_cJ (As := As) (fun r M1 hr H locs ls hP h => run_V c kn hc hcn C hM hr cy1 hl hro hR hn hst hw8 d hP h) kk
theorem gz_callVV {y : MethodName} {cy : ByteArray} {mL k n : Nat} {ry : Option FieldType} {ro : Room} {oy : Option (Unit × Mm)} {f : Unit → Mm → Option (α × Mm)} {Cn : String} {T : u_T} {N ci : Nat} {ty : Nat → FieldType} (c : Nat) (As rest : List Value) (C : Ok x w cc nL own ret rm) (kn : Kn ci Cn T N ty) (hc : kd c = ci) (hcn : y.cls = Cn) (hM : CT x.2.1 y cy mL ry ro w (qV w) (.ref (w.1 c) :: As) oy M) (cy1 : CalV y cy mL ry n) (hl : Cond.methodLink own k y ∈ zA) (hro : ro.cells = 0 ∧ ro.slots = 0) (hR : ro.frames + 1 ≤ rm.frames ∧ 8 + (mL + 11) + ro.locals ≤ rm.locals) (hn : As.length = n) (hst : st = As.reverse ++ .ref (w.1 c) :: rest) (hw8 : (rest.map fun v => v.category).sum ≤ 8) (d : decode cc pc = .ok (.invokevirtual k, 3)) (kk : ∀ r M1, G x w nL Qf (f r M1) M1 lv (pc + 3) rest) : G x w nL Qf (bd oy f) M lv pc st :=
  gz_cV (As := As) (fun r M1 hr H locs ls hP h => run_V c kn hc hcn C hM hr cy1 hl hro hR hn hst hw8 d hP h) kk
/-- Math.min -/
theorem gz_min (C : Ok x w cc nL own ret rm) {n : Nat} {u v : Int32} (hl : Cond.methodLink own n Lib.Math.min.name ∈ zA) (hs : Cond.static Lib.Math.min.name ∈ zA) (hi : Cond.initialized "java/lang/Math" ∈ zA) (hc : Cond.code Lib.Math.min.name Lib.Math.min.code 2 (some .int) ∈ zA) (hf : 1 ≤ rm.frames) (hlo : (st.map fun v => v.category).sum + 13 ≤ rm.locals) (d : decode cc pc = .ok (.invokestatic n, 3)) (k : G x w nL Qf o M lv (pc + 3) (.int (if v < u then v else u) :: st)) : G x w nL Qf o M lv pc (.int v :: .int u :: st) := by
  intro r M' ho H locs ls hP hS h
  exact va_mmin C.1 C.2.1 (C.2.2.1.trans h.1.symm) C.2.2.2.1 (C.2.2.2.2.1 _ hl) (C.2.2.2.2.1 _ hs) (C.2.2.2.2.1 _ hi) (C.2.2.2.2.1 _ hc) (by rw [C.2.2.2.2.2.2.2.2.2.2.1]; exact hf) (by rw [C.2.2.2.2.2.2.2.2.2.2.1]; exact hlo) (Nat.zero_le _) (Nat.zero_le _) d (k r M' ho H locs ls hP hS h)
end GC
end
