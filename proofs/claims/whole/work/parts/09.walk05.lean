set_option maxRecDepth 100000 in
set_option maxHeartbeats 4000000 in
theorem ct_X10_image (l : Launch) (w : Wd) (M : Mm) : CT l yX10_image cX10_image 1 (some .int) rm_X10_image w (qI w) [.ref (w.1 0)] (sp_X10_image M) M := by
  refine ct_of RX10 [(0, .ref (w.1 0))] rfl (Nat.le_of_ble_eq_true rfl) (by decide) rfl rfl rfl (fun x C => ?_)
  unfold sp_X10_image
  refine gz_aloadn C 0 rfl dX10_image_0 ?_
  refine gz_callVI 0 [] [] C kn_X10 rfl rfl (ct_X10_hasNight x.2.1 w M) cal_X10_hasNight km_X10_115 ⟨rfl, rfl⟩ ⟨by decide, by decide⟩ rfl rfl (Nat.le_of_ble_eq_true rfl) dX10_image_1 (fun r1 M1 => ?_)
  refine gz_ifne C 10 dX10_image_4 (by decide) ?_ ?_
  · refine gz_bipush (v := (-103)) C dX10_image_7 (by decide) ?_
    exact gz_iret C dX10_image_9
  · refine gz_aloadn C 0 rfl dX10_image_10 ?_
    refine gz_get C 0 5 (.ref (w.1 17)) kn_X10 rfl kf_X10_47 (by decide) dX10_image_11 (fv_R rfl rfl) ?_
    refine gz_get C 17 0 (.ref (w.1 18)) kn_X3 rfl kf_X10_313 (by decide) dX10_image_14 (fv_R rfl rfl) ?_
    refine gz_aloadn C 0 rfl dX10_image_17 ?_
    refine gz_get C 0 4 (.ref (w.1 13)) kn_X10 rfl kf_X10_40 (by decide) dX10_image_18 (fv_R rfl rfl) ?_
    refine gz_callVV 18 [.ref (w.1 13)] [] C kn_X1 rfl rfl (ct_X1_takeFrom_18_13 x.2.1 w M1) cal_X1_takeFrom km_X10_316 ⟨rfl, rfl⟩ ⟨by decide, by decide⟩ rfl rfl (Nat.le_of_ble_eq_true rfl) dX10_image_21 (fun _ M21 => ?_)
    refine gz_aloadn C 0 rfl dX10_image_24 ?_
    refine gz_get C 0 5 (.ref (w.1 17)) kn_X10 rfl kf_X10_47 (by decide) dX10_image_25 (fv_R rfl rfl) ?_
    refine gz_aloadn C 0 rfl dX10_image_28 ?_
    refine gz_get C 0 10 (.int (gI M21 0 10)) kn_X10 rfl kf_X10_109 (by decide) dX10_image_29 (fv_I rfl) ?_
    refine gz_putI C 17 1 kn_X3 rfl kf_X10_320 (by decide) rfl rfl (tyX3_ok 1 (by decide)) rfl rfl dX10_image_32 (fun M32 => ?_)
    refine gz_aloadn C 0 rfl dX10_image_35 ?_
    refine gz_get C 0 5 (.ref (w.1 17)) kn_X10 rfl kf_X10_47 (by decide) dX10_image_36 (fv_R rfl rfl) ?_
    refine gz_aloadn C 0 rfl dX10_image_39 ?_
    refine gz_get C 0 2 (.ref (w.1 6)) kn_X10 rfl kf_X10_26 (by decide) dX10_image_40 (fv_R rfl rfl) ?_
    refine gz_get C 6 0 (.int (gI M32 6 0)) kn_X6 rfl kf_X10_122 (by decide) dX10_image_43 (fv_I rfl) ?_
    refine gz_putI C 17 2 kn_X3 rfl kf_X10_323 (by decide) rfl rfl (tyX3_ok 2 (by decide)) rfl rfl dX10_image_46 (fun M46 => ?_)
    refine gz_aloadn C 0 rfl dX10_image_49 ?_
    refine gz_get C 0 5 (.ref (w.1 17)) kn_X10 rfl kf_X10_47 (by decide) dX10_image_50 (fv_R rfl rfl) ?_
    refine gz_aloadn C 0 rfl dX10_image_53 ?_
    refine gz_get C 0 3 (.ref (w.1 9)) kn_X10 rfl kf_X10_33 (by decide) dX10_image_54 (fv_R rfl rfl) ?_
    refine gz_get C 9 0 (.int (gI M46 9 0)) kn_X2 rfl kf_X10_192 (by decide) dX10_image_57 (fv_I rfl) ?_
    refine gz_putI C 17 3 kn_X3 rfl kf_X10_325 (by decide) rfl rfl (tyX3_ok 3 (by decide)) rfl rfl dX10_image_60 (fun M60 => ?_)
    refine gz_aloadn C 0 rfl dX10_image_63 ?_
    refine gz_get C 0 4 (.ref (w.1 13)) kn_X10 rfl kf_X10_40 (by decide) dX10_image_64 (fv_R rfl rfl) ?_
    refine gz_get C 13 0 (.int (gI M60 13 0)) kn_X1 rfl kf_X10_241 (by decide) dX10_image_67 (fv_I rfl) ?_
    exact gz_iret C dX10_image_70
set_option maxRecDepth 100000 in
set_option maxHeartbeats 4000000 in
theorem ct_X1_takeFrom_13_18 (l : Launch) (w : Wd) (M : Mm) : CT l yX1_takeFrom cX1_takeFrom 3 none rm_X1_takeFrom_13_18 w (qV w) [.ref (w.1 13), .ref (w.1 18)] (sp_X1_takeFrom_13_18 M) M := by
  refine ct_of RX1 [(0, .ref (w.1 13)), (1, .ref (w.1 18))] rfl (Nat.le_of_ble_eq_true rfl) (by decide) rfl rfl rfl (fun x C => ?_)
  unfold sp_X1_takeFrom_13_18
  refine gz_aloadn C 0 rfl dX1_takeFrom_0 ?_
  refine gz_aloadn C 1 rfl dX1_takeFrom_1 ?_
  refine gz_get C 18 0 (.int (gI M 18 0)) kn_X1 rfl kf_X1_25 (by decide) dX1_takeFrom_2 (fv_I rfl) ?_
  refine gz_putI C 13 0 kn_X1 rfl kf_X1_25 (by decide) rfl rfl (tyX1_ok 0 (by decide)) rfl rfl dX1_takeFrom_5 (fun M5 => ?_)
  refine gz_aloadn C 0 rfl dX1_takeFrom_8 ?_
  refine gz_aloadn C 1 rfl dX1_takeFrom_9 ?_
  refine gz_get C 18 1 (.int (gI M5 18 1)) kn_X1 rfl kf_X1_28 (by decide) dX1_takeFrom_10 (fv_I rfl) ?_
  refine gz_zb (fun hb13 => ?_)
  refine gz_putI C 13 1 kn_X1 rfl kf_X1_28 (by decide) rfl rfl (tyX1_ok 1 (by decide)) (nrw_z hb13) (fit_z hb13) dX1_takeFrom_13 (fun M13 => ?_)
  refine gz_aloadn C 0 rfl dX1_takeFrom_16 ?_
  refine gz_aloadn C 1 rfl dX1_takeFrom_17 ?_
  refine gz_get C 18 2 (.int (gI M13 18 2)) kn_X1 rfl kf_X1_32 (by decide) dX1_takeFrom_18 (fv_I rfl) ?_
  refine gz_zb (fun hb21 => ?_)
  refine gz_putI C 13 2 kn_X1 rfl kf_X1_32 (by decide) rfl rfl (tyX1_ok 2 (by decide)) (nrw_z hb21) (fit_z hb21) dX1_takeFrom_21 (fun M21 => ?_)
  refine gz_aloadn C 0 rfl dX1_takeFrom_24 ?_
  refine gz_aloadn C 1 rfl dX1_takeFrom_25 ?_
  refine gz_get C 18 3 (.int (gI M21 18 3)) kn_X1 rfl kf_X1_35 (by decide) dX1_takeFrom_26 (fv_I rfl) ?_
  refine gz_putI C 13 3 kn_X1 rfl kf_X1_35 (by decide) rfl rfl (tyX1_ok 3 (by decide)) rfl rfl dX1_takeFrom_29 (fun M29 => ?_)
  refine gz_aloadn C 0 rfl dX1_takeFrom_32 ?_
  refine gz_aloadn C 1 rfl dX1_takeFrom_33 ?_
  refine gz_get C 18 4 (.int (gI M29 18 4)) kn_X1 rfl kf_X1_38 (by decide) dX1_takeFrom_34 (fv_I rfl) ?_
  refine gz_putI C 13 4 kn_X1 rfl kf_X1_38 (by decide) rfl rfl (tyX1_ok 4 (by decide)) rfl rfl dX1_takeFrom_37 (fun M37 => ?_)
  refine gz_aloadn C 0 rfl dX1_takeFrom_40 ?_
  refine gz_aloadn C 1 rfl dX1_takeFrom_41 ?_
  refine gz_get C 18 5 (.int (gI M37 18 5)) kn_X1 rfl kf_X1_9 (by decide) dX1_takeFrom_42 (fv_I rfl) ?_
  refine gz_putI C 13 5 kn_X1 rfl kf_X1_9 (by decide) rfl rfl (tyX1_ok 5 (by decide)) rfl rfl dX1_takeFrom_45 (fun M45 => ?_)
  refine gz_aloadn C 0 rfl dX1_takeFrom_48 ?_
  refine gz_aloadn C 1 rfl dX1_takeFrom_49 ?_
  refine gz_get C 18 6 (.int (gI M45 18 6)) kn_X1 rfl kf_X1_41 (by decide) dX1_takeFrom_50 (fv_I rfl) ?_
  refine gz_putI C 13 6 kn_X1 rfl kf_X1_41 (by decide) rfl rfl (tyX1_ok 6 (by decide)) rfl rfl dX1_takeFrom_53 (fun M53 => ?_)
  refine gz_aloadn C 0 rfl dX1_takeFrom_56 ?_
  refine gz_aloadn C 1 rfl dX1_takeFrom_57 ?_
  refine gz_get C 18 7 (.int (gI M53 18 7)) kn_X1 rfl kf_X1_44 (by decide) dX1_takeFrom_58 (fv_I rfl) ?_
  refine gz_putI C 13 7 kn_X1 rfl kf_X1_44 (by decide) rfl rfl (tyX1_ok 7 (by decide)) rfl rfl dX1_takeFrom_61 (fun M61 => ?_)
  refine gz_iconst (v := 0) C dX1_takeFrom_64 (by decide) ?_
  refine gz_istoren C [(2, .int (0 : Int32)), (0, .ref (w.1 13)), (1, .ref (w.1 18))] dX1_takeFrom_65 (by decide) rfl ?_
  refine gz_jn (fun K110 => ∀ (M_110 : Mm), G x w 3 (qV w) (K110 M_110) M_110 [(0, .ref (w.1 13)), (1, .ref (w.1 18))] 110 []) ?_ ?_
  · intro M_110
    refine gz_iconst (v := 0) C dX1_takeFrom_110 (by decide) ?_
    refine gz_istoren C [(2, .int (0 : Int32)), (0, .ref (w.1 13)), (1, .ref (w.1 18))] dX1_takeFrom_111 (by decide) rfl ?_
    have hL112 : ∀ (n112 : Nat) (v2_112 : Int32) (M_112 : Mm), G x w 3 (qV w) (sp_X1_takeFrom_13_18_L112 n112 v2_112 M_112) M_112 [(0, .ref (w.1 13)), (1, .ref (w.1 18)), (2, .int v2_112)] 112 [] := by
      intro n112
      induction n112 with
      | zero => intros; exact gz_none
      | succ n112 ih112 =>
        intro v2_112 M_112
        rw [sp_X1_takeFrom_13_18_L112]
        refine gz_iloadn C 2 rfl dX1_takeFrom_112 ?_
        refine gz_bipush (v := (8)) C dX1_takeFrom_113 (by decide) ?_
        refine gz_icmpge C 140 dX1_takeFrom_115 (by decide) ?_ ?_
        · refine gz_aloadn C 0 rfl dX1_takeFrom_118 ?_
          refine gz_get C 13 10 (.ref (w.1 16)) kn_X1 rfl kf_X1_22 (by decide) dX1_takeFrom_119 (fv_R rfl rfl) ?_
          refine gz_iloadn C 2 rfl dX1_takeFrom_122 ?_
          refine gz_aloadn C 1 rfl dX1_takeFrom_123 ?_
          refine gz_get C 18 10 (.ref (w.1 21)) kn_X1 rfl kf_X1_22 (by decide) dX1_takeFrom_124 (fv_R rfl rfl) ?_
          refine gz_iloadn C 2 rfl dX1_takeFrom_127 ?_
          refine gz_callSI [.ref (w.1 21), .int v2_112] [.int v2_112, .ref (w.1 16)] C (ct_X10_at x.2.1 w 21 rfl v2_112 M_112) cal_X10_at (Or.inr ⟨_, List.mem_of_getElem? (i := 25) rfl⟩) ⟨rfl, rfl⟩ ⟨by decide, by decide⟩ rfl rfl (Nat.le_of_ble_eq_true rfl) dX1_takeFrom_128 (fun r128 M128 => ?_)
          refine gz_callSV [.ref (w.1 16), .int v2_112, .int r128] [] C (ct_X10_put x.2.1 w 16 rfl v2_112 r128 M128) cal_X10_put (Or.inr ⟨_, List.mem_of_getElem? (i := 30) rfl⟩) ⟨rfl, rfl⟩ ⟨by decide, by decide⟩ rfl rfl (Nat.le_of_ble_eq_true rfl) dX1_takeFrom_131 (fun _ M131 => ?_)
          refine gz_iinc (v' := v2_112 + 1) C 2 [(2, .int (v2_112 + 1)), (0, .ref (w.1 13)), (1, .ref (w.1 18))] rfl dX1_takeFrom_134 rfl (by decide) rfl ?_
          refine gz_goto C 112 dX1_takeFrom_137 (by decide) ?_
          refine gz_sub [1, 2, 0] rfl ?_
          exact ih112 _ _
        · exact gz_vret C dX1_takeFrom_140
    refine gz_sub [1, 2, 0] rfl ?_
    exact hL112 fu _ _
  · intro K110 hK110
    have hL66 : ∀ (n66 : Nat) (v2_66 : Int32) (M_66 : Mm), G x w 3 (qV w) (sp_X1_takeFrom_13_18_L66 K110 n66 v2_66 M_66) M_66 [(0, .ref (w.1 13)), (1, .ref (w.1 18)), (2, .int v2_66)] 66 [] := by
      intro n66
      induction n66 with
      | zero => intros; exact gz_none
      | succ n66 ih66 =>
        intro v2_66 M_66
        rw [sp_X1_takeFrom_13_18_L66]
        refine gz_iloadn C 2 rfl dX1_takeFrom_66 ?_
        refine gz_bipush (v := (6)) C dX1_takeFrom_67 (by decide) ?_
        refine gz_icmpge C 110 dX1_takeFrom_69 (by decide) ?_ ?_
        · refine gz_aloadn C 0 rfl dX1_takeFrom_72 ?_
          refine gz_get C 13 8 (.ref (w.1 14)) kn_X1 rfl kf_X1_15 (by decide) dX1_takeFrom_73 (fv_R rfl rfl) ?_
          refine gz_iloadn C 2 rfl dX1_takeFrom_76 ?_
          refine gz_aloadn C 1 rfl dX1_takeFrom_77 ?_
          refine gz_get C 18 8 (.ref (w.1 19)) kn_X1 rfl kf_X1_15 (by decide) dX1_takeFrom_78 (fv_R rfl rfl) ?_
          refine gz_iloadn C 2 rfl dX1_takeFrom_81 ?_
          refine gz_callSI [.ref (w.1 19), .int v2_66] [.int v2_66, .ref (w.1 14)] C (ct_X10_at x.2.1 w 19 rfl v2_66 M_66) cal_X10_at (Or.inr ⟨_, List.mem_of_getElem? (i := 25) rfl⟩) ⟨rfl, rfl⟩ ⟨by decide, by decide⟩ rfl rfl (Nat.le_of_ble_eq_true rfl) dX1_takeFrom_82 (fun r82 M82 => ?_)
          refine gz_callSV [.ref (w.1 14), .int v2_66, .int r82] [] C (ct_X10_put x.2.1 w 14 rfl v2_66 r82 M82) cal_X10_put (Or.inr ⟨_, List.mem_of_getElem? (i := 30) rfl⟩) ⟨rfl, rfl⟩ ⟨by decide, by decide⟩ rfl rfl (Nat.le_of_ble_eq_true rfl) dX1_takeFrom_85 (fun _ M85 => ?_)
          refine gz_aloadn C 0 rfl dX1_takeFrom_88 ?_
          refine gz_get C 13 9 (.ref (w.1 15)) kn_X1 rfl kf_X1_19 (by decide) dX1_takeFrom_89 (fv_R rfl rfl) ?_
          refine gz_iloadn C 2 rfl dX1_takeFrom_92 ?_
          refine gz_aloadn C 1 rfl dX1_takeFrom_93 ?_
          refine gz_get C 18 9 (.ref (w.1 20)) kn_X1 rfl kf_X1_19 (by decide) dX1_takeFrom_94 (fv_R rfl rfl) ?_
          refine gz_iloadn C 2 rfl dX1_takeFrom_97 ?_
          refine gz_callSI [.ref (w.1 20), .int v2_66] [.int v2_66, .ref (w.1 15)] C (ct_X10_at x.2.1 w 20 rfl v2_66 M85) cal_X10_at (Or.inr ⟨_, List.mem_of_getElem? (i := 25) rfl⟩) ⟨rfl, rfl⟩ ⟨by decide, by decide⟩ rfl rfl (Nat.le_of_ble_eq_true rfl) dX1_takeFrom_98 (fun r98 M98 => ?_)
          refine gz_callSV [.ref (w.1 15), .int v2_66, .int r98] [] C (ct_X10_put x.2.1 w 15 rfl v2_66 r98 M98) cal_X10_put (Or.inr ⟨_, List.mem_of_getElem? (i := 30) rfl⟩) ⟨rfl, rfl⟩ ⟨by decide, by decide⟩ rfl rfl (Nat.le_of_ble_eq_true rfl) dX1_takeFrom_101 (fun _ M101 => ?_)
          refine gz_iinc (v' := v2_66 + 1) C 2 [(2, .int (v2_66 + 1)), (0, .ref (w.1 13)), (1, .ref (w.1 18))] rfl dX1_takeFrom_104 rfl (by decide) rfl ?_
          refine gz_goto C 66 dX1_takeFrom_107 (by decide) ?_
          refine gz_sub [1, 2, 0] rfl ?_
          exact ih66 _ _
        · refine gz_sub [0, 1] rfl ?_
          exact hK110 _
    refine gz_sub [1, 2, 0] rfl ?_
    exact hL66 fu _ _
set_option maxRecDepth 100000 in
set_option maxHeartbeats 4000000 in
theorem ct_X10_restore (l : Launch) (w : Wd) (M : Mm) : CT l yX10_restore cX10_restore 1 (some .int) rm_X10_restore w (qI w) [.ref (w.1 0)] (sp_X10_restore M) M := by
  refine ct_of RX10 [(0, .ref (w.1 0))] rfl (Nat.le_of_ble_eq_true rfl) (by decide) rfl rfl rfl (fun x C => ?_)
  unfold sp_X10_restore
  refine gz_aloadn C 0 rfl dX10_restore_0 ?_
  refine gz_callVI 0 [] [] C kn_X10 rfl rfl (ct_X10_hasNight x.2.1 w M) cal_X10_hasNight km_X10_115 ⟨rfl, rfl⟩ ⟨by decide, by decide⟩ rfl rfl (Nat.le_of_ble_eq_true rfl) dX10_restore_1 (fun r1 M1 => ?_)
  refine gz_ifeq C 55 dX10_restore_4 (by decide) ?_ ?_
  · refine gz_bipush (v := (-103)) C dX10_restore_55 (by decide) ?_
    exact gz_iret C dX10_restore_57
  · refine gz_aloadn C 0 rfl dX10_restore_7 ?_
    refine gz_get C 0 5 (.ref (w.1 17)) kn_X10 rfl kf_X10_47 (by decide) dX10_restore_8 (fv_R rfl rfl) ?_
    refine gz_get C 17 1 (.int (gI M1 17 1)) kn_X3 rfl kf_X10_320 (by decide) dX10_restore_11 (fv_I rfl) ?_
    refine gz_aloadn C 0 rfl dX10_restore_14 ?_
    refine gz_get C 0 10 (.int (gI M1 0 10)) kn_X10 rfl kf_X10_109 (by decide) dX10_restore_15 (fv_I rfl) ?_
    refine gz_icmpne C 55 dX10_restore_18 (by decide) ?_ ?_
    · refine gz_aloadn C 0 rfl dX10_restore_21 ?_
      refine gz_get C 0 5 (.ref (w.1 17)) kn_X10 rfl kf_X10_47 (by decide) dX10_restore_22 (fv_R rfl rfl) ?_
      refine gz_get C 17 2 (.int (gI M1 17 2)) kn_X3 rfl kf_X10_323 (by decide) dX10_restore_25 (fv_I rfl) ?_
      refine gz_aloadn C 0 rfl dX10_restore_28 ?_
      refine gz_get C 0 2 (.ref (w.1 6)) kn_X10 rfl kf_X10_26 (by decide) dX10_restore_29 (fv_R rfl rfl) ?_
      refine gz_get C 6 0 (.int (gI M1 6 0)) kn_X6 rfl kf_X10_122 (by decide) dX10_restore_32 (fv_I rfl) ?_
      refine gz_icmpne C 55 dX10_restore_35 (by decide) ?_ ?_
      · refine gz_aloadn C 0 rfl dX10_restore_38 ?_
        refine gz_get C 0 5 (.ref (w.1 17)) kn_X10 rfl kf_X10_47 (by decide) dX10_restore_39 (fv_R rfl rfl) ?_
        refine gz_get C 17 3 (.int (gI M1 17 3)) kn_X3 rfl kf_X10_325 (by decide) dX10_restore_42 (fv_I rfl) ?_
        refine gz_aloadn C 0 rfl dX10_restore_45 ?_
        refine gz_get C 0 3 (.ref (w.1 9)) kn_X10 rfl kf_X10_33 (by decide) dX10_restore_46 (fv_R rfl rfl) ?_
        refine gz_get C 9 0 (.int (gI M1 9 0)) kn_X2 rfl kf_X10_192 (by decide) dX10_restore_49 (fv_I rfl) ?_
        refine gz_icmpeq C 58 dX10_restore_52 (by decide) ?_ ?_
        · refine gz_aloadn C 0 rfl dX10_restore_58 ?_
          refine gz_get C 0 4 (.ref (w.1 13)) kn_X10 rfl kf_X10_40 (by decide) dX10_restore_59 (fv_R rfl rfl) ?_
          refine gz_aloadn C 0 rfl dX10_restore_62 ?_
          refine gz_get C 0 5 (.ref (w.1 17)) kn_X10 rfl kf_X10_47 (by decide) dX10_restore_63 (fv_R rfl rfl) ?_
          refine gz_get C 17 0 (.ref (w.1 18)) kn_X3 rfl kf_X10_313 (by decide) dX10_restore_66 (fv_R rfl rfl) ?_
          refine gz_callVV 13 [.ref (w.1 18)] [] C kn_X1 rfl rfl (ct_X1_takeFrom_13_18 x.2.1 w M1) cal_X1_takeFrom km_X10_316 ⟨rfl, rfl⟩ ⟨by decide, by decide⟩ rfl rfl (Nat.le_of_ble_eq_true rfl) dX10_restore_69 (fun _ M69 => ?_)
          refine gz_aloadn C 0 rfl dX10_restore_72 ?_
          refine gz_get C 0 4 (.ref (w.1 13)) kn_X10 rfl kf_X10_40 (by decide) dX10_restore_73 (fv_R rfl rfl) ?_
          refine gz_get C 13 0 (.int (gI M69 13 0)) kn_X1 rfl kf_X10_241 (by decide) dX10_restore_76 (fv_I rfl) ?_
          exact gz_iret C dX10_restore_79
        · refine gz_bipush (v := (-103)) C dX10_restore_55 (by decide) ?_
          exact gz_iret C dX10_restore_57
      · refine gz_bipush (v := (-103)) C dX10_restore_55 (by decide) ?_
        exact gz_iret C dX10_restore_57
    · refine gz_bipush (v := (-103)) C dX10_restore_55 (by decide) ?_
      exact gz_iret C dX10_restore_57
set_option maxRecDepth 100000 in
set_option maxHeartbeats 4000000 in
theorem ct_X10_count (l : Launch) (w : Wd) (p1 : Int32) (M : Mm) : CT l yX10_count cX10_count 2 (some .int) rm_X10_count w (qI w) [.ref (w.1 0), .int p1] (sp_X10_count p1 M) M := by
  refine ct_of RX10 [(0, .ref (w.1 0)), (1, .int p1)] rfl (Nat.le_of_ble_eq_true rfl) (by decide) rfl rfl rfl (fun x C => ?_)
  unfold sp_X10_count
  refine gz_iloadn C 1 rfl dX10_count_0 ?_
  refine gz_if (fun hs0 => ?_) (fun hs0 => ?_)
  · refine gz_tabIn (off := 71) C (0) 72 dX10_count_1 hs0 (by decide) (by decide) (by decide) (by decide) ?_
    refine gz_aloadn C 0 rfl dX10_count_72 ?_
    refine gz_get C 0 2 (.ref (w.1 6)) kn_X10 rfl kf_X10_26 (by decide) dX10_count_73 (fv_R rfl rfl) ?_
    refine gz_get C 6 0 (.int (gI M 6 0)) kn_X6 rfl kf_X10_122 (by decide) dX10_count_76 (fv_I rfl) ?_
    exact gz_iret C dX10_count_79
  refine gz_if (fun hs1 => ?_) (fun hs1 => ?_)
  · refine gz_tabIn (off := 79) C (1) 80 dX10_count_1 hs1 (by decide) (by decide) (by decide) (by decide) ?_
    refine gz_aloadn C 0 rfl dX10_count_80 ?_
    refine gz_get C 0 4 (.ref (w.1 13)) kn_X10 rfl kf_X10_40 (by decide) dX10_count_81 (fv_R rfl rfl) ?_
    refine gz_get C 13 3 (.int (gI M 13 3)) kn_X1 rfl kf_X10_132 (by decide) dX10_count_84 (fv_I rfl) ?_
    refine gz_callSI [.int (gI M 13 3)] [] C (ct_J6_bitCount_0f7a4 x.2.1 w (gI M 13 3) M) cal_J6_bitCount_0f7a4 (Or.inl km_X10_250) ⟨rfl, rfl⟩ ⟨by decide, by decide⟩ rfl rfl (Nat.le_of_ble_eq_true rfl) dX10_count_87 (fun r87 M87 => ?_)
    exact gz_iret C dX10_count_90
  refine gz_if (fun hs2 => ?_) (fun hs2 => ?_)
  · refine gz_tabIn (off := 90) C (2) 91 dX10_count_1 hs2 (by decide) (by decide) (by decide) (by decide) ?_
    refine gz_aloadn C 0 rfl dX10_count_91 ?_
    refine gz_get C 0 3 (.ref (w.1 9)) kn_X10 rfl kf_X10_33 (by decide) dX10_count_92 (fv_R rfl rfl) ?_
    refine gz_get C 9 0 (.int (gI M 9 0)) kn_X2 rfl kf_X10_192 (by decide) dX10_count_95 (fv_I rfl) ?_
    exact gz_iret C dX10_count_98
  refine gz_if (fun hs3 => ?_) (fun hs3 => ?_)
  · refine gz_tabIn (off := 98) C (3) 99 dX10_count_1 hs3 (by decide) (by decide) (by decide) (by decide) ?_
    refine gz_aloadn C 0 rfl dX10_count_99 ?_
    refine gz_get C 0 4 (.ref (w.1 13)) kn_X10 rfl kf_X10_40 (by decide) dX10_count_100 (fv_R rfl rfl) ?_
    refine gz_get C 13 4 (.int (gI M 13 4)) kn_X1 rfl kf_X10_218 (by decide) dX10_count_103 (fv_I rfl) ?_
    refine gz_callSI [.int (gI M 13 4)] [] C (ct_J6_bitCount_0f7a4 x.2.1 w (gI M 13 4) M) cal_J6_bitCount_0f7a4 (Or.inl km_X10_250) ⟨rfl, rfl⟩ ⟨by decide, by decide⟩ rfl rfl (Nat.le_of_ble_eq_true rfl) dX10_count_106 (fun r106 M106 => ?_)
    exact gz_iret C dX10_count_109
  refine gz_if (fun hs4 => ?_) (fun hs4 => ?_)
  · refine gz_tabIn (off := 109) C (4) 110 dX10_count_1 hs4 (by decide) (by decide) (by decide) (by decide) ?_
    refine gz_aloadn C 0 rfl dX10_count_110 ?_
    refine gz_get C 0 4 (.ref (w.1 13)) kn_X10 rfl kf_X10_40 (by decide) dX10_count_111 (fv_R rfl rfl) ?_
    refine gz_get C 13 0 (.int (gI M 13 0)) kn_X1 rfl kf_X10_241 (by decide) dX10_count_114 (fv_I rfl) ?_
    exact gz_iret C dX10_count_117
  refine gz_if (fun hs5 => ?_) (fun hs5 => ?_)
  · refine gz_tabIn (off := 117) C (5) 118 dX10_count_1 hs5 (by decide) (by decide) (by decide) (by decide) ?_
    refine gz_aloadn C 0 rfl dX10_count_118 ?_
    refine gz_get C 0 4 (.ref (w.1 13)) kn_X10 rfl kf_X10_40 (by decide) dX10_count_119 (fv_R rfl rfl) ?_
    refine gz_get C 13 1 (.int (gI M 13 1)) kn_X1 rfl kf_X10_156 (by decide) dX10_count_122 (fv_I rfl) ?_
    refine gz_callSI [.int (gI M 13 1)] [] C (ct_X10_asNumber x.2.1 w (gI M 13 1) M) cal_X10_asNumber (Or.inl km_X10_214) ⟨rfl, rfl⟩ ⟨by decide, by decide⟩ rfl rfl (Nat.le_of_ble_eq_true rfl) dX10_count_125 (fun r125 M125 => ?_)
    exact gz_iret C dX10_count_128
  refine gz_if (fun hs6 => ?_) (fun hs6 => ?_)
  · refine gz_tabIn (off := 128) C (6) 129 dX10_count_1 hs6 (by decide) (by decide) (by decide) (by decide) ?_
    refine gz_aloadn C 0 rfl dX10_count_129 ?_
    refine gz_get C 0 4 (.ref (w.1 13)) kn_X10 rfl kf_X10_40 (by decide) dX10_count_130 (fv_R rfl rfl) ?_
    refine gz_get C 13 2 (.int (gI M 13 2)) kn_X1 rfl kf_X10_139 (by decide) dX10_count_133 (fv_I rfl) ?_
    refine gz_callSI [.int (gI M 13 2)] [] C (ct_X10_asNumber x.2.1 w (gI M 13 2) M) cal_X10_asNumber (Or.inl km_X10_214) ⟨rfl, rfl⟩ ⟨by decide, by decide⟩ rfl rfl (Nat.le_of_ble_eq_true rfl) dX10_count_136 (fun r136 M136 => ?_)
    exact gz_iret C dX10_count_139
  refine gz_if (fun hs7 => ?_) (fun hs7 => ?_)
  · refine gz_tabIn (off := 139) C (7) 140 dX10_count_1 hs7 (by decide) (by decide) (by decide) (by decide) ?_
    refine gz_aloadn C 0 rfl dX10_count_140 ?_
    refine gz_get C 0 1 (.ref (w.1 3)) kn_X10 rfl kf_X10_19 (by decide) dX10_count_141 (fv_R rfl rfl) ?_
    refine gz_get C 3 1 (.int (gI M 3 1)) kn_X7 rfl kf_X10_112 (by decide) dX10_count_144 (fv_I rfl) ?_
    exact gz_iret C dX10_count_147
  refine gz_if (fun hs8 => ?_) (fun hs8 => ?_)
  · refine gz_tabIn (off := 147) C (8) 148 dX10_count_1 hs8 (by decide) (by decide) (by decide) (by decide) ?_
    refine gz_aloadn C 0 rfl dX10_count_148 ?_
    refine gz_get C 0 4 (.ref (w.1 13)) kn_X10 rfl kf_X10_40 (by decide) dX10_count_149 (fv_R rfl rfl) ?_
    refine gz_get C 13 5 (.int (gI M 13 5)) kn_X1 rfl kf_X10_204 (by decide) dX10_count_152 (fv_I rfl) ?_
    exact gz_iret C dX10_count_155
  refine gz_if (fun hs9 => ?_) (fun hs9 => ?_)
  · refine gz_tabIn (off := 155) C (9) 156 dX10_count_1 hs9 (by decide) (by decide) (by decide) (by decide) ?_
    refine gz_aloadn C 0 rfl dX10_count_156 ?_
    refine gz_get C 0 4 (.ref (w.1 13)) kn_X10 rfl kf_X10_40 (by decide) dX10_count_157 (fv_R rfl rfl) ?_
    refine gz_get C 13 6 (.int (gI M 13 6)) kn_X1 rfl kf_X10_275 (by decide) dX10_count_160 (fv_I rfl) ?_
    exact gz_iret C dX10_count_163
  refine gz_if (fun hs10 => ?_) (fun hs10 => ?_)
  · refine gz_tabIn (off := 163) C (10) 164 dX10_count_1 hs10 (by decide) (by decide) (by decide) (by decide) ?_
    refine gz_aloadn C 0 rfl dX10_count_164 ?_
    refine gz_get C 0 4 (.ref (w.1 13)) kn_X10 rfl kf_X10_40 (by decide) dX10_count_165 (fv_R rfl rfl) ?_
    refine gz_get C 13 7 (.int (gI M 13 7)) kn_X1 rfl kf_X10_290 (by decide) dX10_count_168 (fv_I rfl) ?_
    exact gz_iret C dX10_count_171
  refine gz_if (fun hs11 => ?_) (fun hs11 => ?_)
  · refine gz_tabIn (off := 171) C (11) 172 dX10_count_1 hs11 (by decide) (by decide) (by decide) (by decide) ?_
    refine gz_aloadn C 0 rfl dX10_count_172 ?_
    refine gz_get C 0 0 (.ref (w.1 1)) kn_X10 rfl kf_X10_10 (by decide) dX10_count_173 (fv_R rfl rfl) ?_
    refine gz_get C 1 1 (.int (gI M 1 1)) kn_X5 rfl kf_X10_83 (by decide) dX10_count_176 (fv_I rfl) ?_
    exact gz_iret C dX10_count_179
  refine gz_if (fun hs12 => ?_) (fun hs12 => ?_)
  · refine gz_tabIn (off := 179) C (12) 180 dX10_count_1 hs12 (by decide) (by decide) (by decide) (by decide) ?_
    refine gz_aloadn C 0 rfl dX10_count_180 ?_
    refine gz_get C 0 10 (.int (gI M 0 10)) kn_X10 rfl kf_X10_109 (by decide) dX10_count_181 (fv_I rfl) ?_
    exact gz_iret C dX10_count_184
  refine gz_if (fun hs13 => ?_) (fun hs13 => ?_)
  · refine gz_tabIn (off := 184) C (13) 185 dX10_count_1 hs13 (by decide) (by decide) (by decide) (by decide) ?_
    refine gz_aloadn C 0 rfl dX10_count_185 ?_
    refine gz_get C 0 11 (.int (gI M 0 11)) kn_X10 rfl kf_X10_255 (by decide) dX10_count_186 (fv_I rfl) ?_
    exact gz_iret C dX10_count_189
  refine gz_tabOut C 190 dX10_count_1 (by have e0 := lv_neT (a := 0) hs0 (by decide); have e1 := lv_neT (a := 1) hs1 (by decide); have e2 := lv_neT (a := 2) hs2 (by decide); have e3 := lv_neT (a := 3) hs3 (by decide); have e4 := lv_neT (a := 4) hs4 (by decide); have e5 := lv_neT (a := 5) hs5 (by decide); have e6 := lv_neT (a := 6) hs6 (by decide); have e7 := lv_neT (a := 7) hs7 (by decide); have e8 := lv_neT (a := 8) hs8 (by decide); have e9 := lv_neT (a := 9) hs9 (by decide); have e10 := lv_neT (a := 10) hs10 (by decide); have e11 := lv_neT (a := 11) hs11 (by decide); have e12 := lv_neT (a := 12) hs12 (by decide); have e13 := lv_neT (a := 13) hs13 (by decide); omega) (by decide) ?_
  refine gz_bipush (v := (-102)) C dX10_count_190 (by decide) ?_
  exact gz_iret C dX10_count_192
set_option maxRecDepth 100000 in
set_option maxHeartbeats 4000000 in
theorem ct_X10_mix (l : Launch) (w : Wd) (p0 : Int64) (p2 : Int64) (M : Mm) : CT l yX10_mix cX10_mix 4 (some .long) rm_X10_mix w (qJ w) [.long p0, .long p2] (sp_X10_mix p0 p2 M) M := by
  refine ct_of RX10 [(0, .long p0), (2, .long p2)] rfl (Nat.le_of_ble_eq_true rfl) (by decide) rfl rfl rfl (fun x C => ?_)
  unfold sp_X10_mix
  refine gz_ldc2 C kl_X10_366 dX10_mix_0 ?_
  refine gz_lloadn C 0 rfl dX10_mix_3 ?_
  refine gz_lmul C dX10_mix_4 ?_
  refine gz_lloadn C 1 rfl dX10_mix_5 ?_
  refine gz_ladd C dX10_mix_6 ?_
  exact gz_lret C dX10_mix_7
set_option maxRecDepth 100000 in
set_option maxHeartbeats 4000000 in
theorem ct_X10_mixSea (l : Launch) (w : Wd) (p1 : Int64) (M : Mm) : CT l yX10_mixSea cX10_mixSea 6 (some .long) rm_X10_mixSea w (qJ w) [.ref (w.1 0), .long p1] (sp_X10_mixSea p1 M) M := by
  refine ct_of RX10 [(0, .ref (w.1 0)), (1, .long p1)] rfl (Nat.le_of_ble_eq_true rfl) (by decide) rfl rfl rfl (fun x C => ?_)
  unfold sp_X10_mixSea
  refine gz_lloadn C 1 rfl dX10_mixSea_0 ?_
  refine gz_lstoren C [(3, .long p1), (0, .ref (w.1 0)), (1, .long p1)] dX10_mixSea_1 (by decide) rfl ?_
  refine gz_iconst (v := 0) C dX10_mixSea_2 (by decide) ?_
  refine gz_istore C [(5, .int (0 : Int32)), (3, .long p1), (0, .ref (w.1 0)), (1, .long p1)] dX10_mixSea_3 (by decide) rfl ?_
  refine gz_jn (fun K29 => ∀ (v3_29 : Int64) (M_29 : Mm), G x w 6 (qJ w) (K29 v3_29 M_29) M_29 [(0, .ref (w.1 0)), (3, .long v3_29)] 29 []) ?_ ?_
  · intro v3_29 M_29
    refine gz_bipush (v := (10)) C dX10_mixSea_29 (by decide) ?_
    refine gz_istore C [(5, .int (10 : Int32)), (0, .ref (w.1 0)), (3, .long v3_29)] dX10_mixSea_31 (by decide) rfl ?_
    have hL33 : ∀ (n33 : Nat) (v3_33 : Int64) (v5_33 : Int32) (M_33 : Mm), G x w 6 (qJ w) (sp_X10_mixSea_L33 n33 v3_33 v5_33 M_33) M_33 [(0, .ref (w.1 0)), (3, .long v3_33), (5, .int v5_33)] 33 [] := by
      intro n33
      induction n33 with
      | zero => intros; exact gz_none
      | succ n33 ih33 =>
        intro v3_33 v5_33 M_33
        rw [sp_X10_mixSea_L33]
        refine gz_iload C 2 rfl dX10_mixSea_33 ?_
        refine gz_bipush (v := (19)) C dX10_mixSea_35 (by decide) ?_
        refine gz_icmpgt C 58 dX10_mixSea_37 (by decide) ?_ ?_
        · refine gz_lloadn C 1 rfl dX10_mixSea_58 ?_
          exact gz_lret C dX10_mixSea_59
        · refine gz_lloadn C 1 rfl dX10_mixSea_40 ?_
          refine gz_aloadn C 0 rfl dX10_mixSea_41 ?_
          refine gz_iload C 2 rfl dX10_mixSea_42 ?_
          refine gz_callVI 0 [.int v5_33] [.long v3_33] C kn_X10 rfl rfl (ct_X10_sea x.2.1 w v5_33 M_33) cal_X10_sea km_X10_357 ⟨rfl, rfl⟩ ⟨by decide, by decide⟩ rfl rfl (Nat.le_of_ble_eq_true rfl) dX10_mixSea_44 (fun r44 M44 => ?_)
          refine gz_i2l C dX10_mixSea_47 ?_
          refine gz_callSJ [.long v3_33, .long (r44.toInt64)] [] C (ct_X10_mix x.2.1 w v3_33 (r44.toInt64) M44) cal_X10_mix (Or.inl km_X10_338) ⟨rfl, rfl⟩ ⟨by decide, by decide⟩ rfl rfl (Nat.le_of_ble_eq_true rfl) dX10_mixSea_48 (fun r48 M48 => ?_)
          refine gz_lstoren C [(3, .long r48), (0, .ref (w.1 0)), (5, .int v5_33)] dX10_mixSea_51 (by decide) rfl ?_
          refine gz_iinc (v' := v5_33 + 1) C 2 [(5, .int (v5_33 + 1)), (3, .long r48), (0, .ref (w.1 0))] rfl dX10_mixSea_52 rfl (by decide) rfl ?_
          refine gz_goto C 33 dX10_mixSea_55 (by decide) ?_
          refine gz_sub [2, 1, 0] rfl ?_
          exact ih33 _ _ _
    refine gz_sub [1, 2, 0] rfl ?_
    exact hL33 fu _ _ _
  · intro K29 hK29
    have hL5 : ∀ (n5 : Nat) (v3_5 : Int64) (v5_5 : Int32) (M_5 : Mm), G x w 6 (qJ w) (sp_X10_mixSea_L5 K29 n5 v3_5 v5_5 M_5) M_5 [(0, .ref (w.1 0)), (3, .long v3_5), (5, .int v5_5)] 5 [] := by
      intro n5
      induction n5 with
      | zero => intros; exact gz_none
      | succ n5 ih5 =>
        intro v3_5 v5_5 M_5
        rw [sp_X10_mixSea_L5]
        refine gz_iload C 2 rfl dX10_mixSea_5 ?_
        refine gz_iconst (v := 4) C dX10_mixSea_7 (by decide) ?_
        refine gz_icmpgt C 29 dX10_mixSea_8 (by decide) ?_ ?_
        · refine gz_sub [0, 1] rfl ?_
          exact hK29 _ _
        · refine gz_lloadn C 1 rfl dX10_mixSea_11 ?_
          refine gz_aloadn C 0 rfl dX10_mixSea_12 ?_
          refine gz_iload C 2 rfl dX10_mixSea_13 ?_
          refine gz_callVI 0 [.int v5_5] [.long v3_5] C kn_X10 rfl rfl (ct_X10_sea x.2.1 w v5_5 M_5) cal_X10_sea km_X10_357 ⟨rfl, rfl⟩ ⟨by decide, by decide⟩ rfl rfl (Nat.le_of_ble_eq_true rfl) dX10_mixSea_15 (fun r15 M15 => ?_)
          refine gz_i2l C dX10_mixSea_18 ?_
          refine gz_callSJ [.long v3_5, .long (r15.toInt64)] [] C (ct_X10_mix x.2.1 w v3_5 (r15.toInt64) M15) cal_X10_mix (Or.inl km_X10_338) ⟨rfl, rfl⟩ ⟨by decide, by decide⟩ rfl rfl (Nat.le_of_ble_eq_true rfl) dX10_mixSea_19 (fun r19 M19 => ?_)
          refine gz_lstoren C [(3, .long r19), (0, .ref (w.1 0)), (5, .int v5_5)] dX10_mixSea_22 (by decide) rfl ?_
          refine gz_iinc (v' := v5_5 + 1) C 2 [(5, .int (v5_5 + 1)), (3, .long r19), (0, .ref (w.1 0))] rfl dX10_mixSea_23 rfl (by decide) rfl ?_
          refine gz_goto C 5 dX10_mixSea_26 (by decide) ?_
          refine gz_sub [2, 1, 0] rfl ?_
          exact ih5 _ _ _
    refine gz_sub [2, 1, 0] rfl ?_
    exact hL5 fu _ _ _
set_option maxRecDepth 100000 in
set_option maxHeartbeats 4000000 in
theorem ct_X10_digest (l : Launch) (w : Wd) (M : Mm) : CT l yX10_digest cX10_digest 5 (some .long) rm_X10_digest w (qJ w) [.ref (w.1 0)] (sp_X10_digest M) M := by
  refine ct_of RX10 [(0, .ref (w.1 0))] rfl (Nat.le_of_ble_eq_true rfl) (by decide) rfl rfl rfl (fun x C => ?_)
  unfold sp_X10_digest
  refine gz_ldc2 C kl_X10_328 dX10_digest_0 ?_
  refine gz_lstoren C [(1, .long (701 : Int64)), (0, .ref (w.1 0))] dX10_digest_3 (by decide) rfl ?_
  refine gz_aloadn C 1 rfl dX10_digest_4 ?_
  refine gz_callVI 0 [] [] C kn_X10 rfl rfl (ct_X10_hasNight x.2.1 w M) cal_X10_hasNight km_X10_115 ⟨rfl, rfl⟩ ⟨by decide, by decide⟩ rfl rfl (Nat.le_of_ble_eq_true rfl) dX10_digest_5 (fun r5 M5 => ?_)
  refine gz_jn (fun K17 => ∀ (v1_17 : Int64) (M_17 : Mm), G x w 5 (qJ w) (K17 v1_17 M_17) M_17 [(0, .ref (w.1 0)), (1, .long v1_17)] 17 []) ?_ ?_
  · intro v1_17 M_17
    refine gz_iconst (v := 0) C dX10_digest_17 (by decide) ?_
    refine gz_istoren C [(3, .int (0 : Int32)), (0, .ref (w.1 0)), (1, .long v1_17)] dX10_digest_18 (by decide) rfl ?_
    refine gz_jn (fun K60 => ∀ (v1_60 : Int64) (M_60 : Mm), G x w 5 (qJ w) (K60 v1_60 M_60) M_60 [(0, .ref (w.1 0)), (1, .long v1_60)] 60 []) ?_ ?_
    · intro v1_60 M_60
      refine gz_iconst (v := 0) C dX10_digest_60 (by decide) ?_
      refine gz_istoren C [(3, .int (0 : Int32)), (0, .ref (w.1 0)), (1, .long v1_60)] dX10_digest_61 (by decide) rfl ?_
      refine gz_jn (fun K108 => ∀ (v1_108 : Int64) (M_108 : Mm), G x w 5 (qJ w) (K108 v1_108 M_108) M_108 [(0, .ref (w.1 0)), (1, .long v1_108)] 108 []) ?_ ?_
      · intro v1_108 M_108
        refine gz_lloadn C 1 rfl dX10_digest_108 ?_
        refine gz_aloadn C 0 rfl dX10_digest_109 ?_
        refine gz_callVI 0 [] [.long v1_108] C kn_X10 rfl rfl (ct_X10_orders x.2.1 w M_108) cal_X10_orders km_X10_345 ⟨rfl, rfl⟩ ⟨by decide, by decide⟩ rfl rfl (Nat.le_of_ble_eq_true rfl) dX10_digest_110 (fun r110 M110 => ?_)
        refine gz_i2l C dX10_digest_113 ?_
        refine gz_callSJ [.long v1_108, .long (r110.toInt64)] [] C (ct_X10_mix x.2.1 w v1_108 (r110.toInt64) M110) cal_X10_mix (Or.inl km_X10_338) ⟨rfl, rfl⟩ ⟨by decide, by decide⟩ rfl rfl (Nat.le_of_ble_eq_true rfl) dX10_digest_114 (fun r114 M114 => ?_)
        refine gz_lstoren C [(1, .long r114), (0, .ref (w.1 0))] dX10_digest_117 (by decide) rfl ?_
        refine gz_aloadn C 1 rfl dX10_digest_118 ?_
        refine gz_get C 0 4 (.ref (w.1 13)) kn_X10 rfl kf_X10_40 (by decide) dX10_digest_119 (fv_R rfl rfl) ?_
        refine gz_get C 13 7 (.int (gI M114 13 7)) kn_X1 rfl kf_X10_290 (by decide) dX10_digest_122 (fv_I rfl) ?_
        refine gz_jn (fun K154 => ∀ (v1_154 : Int64) (M_154 : Mm), G x w 5 (qJ w) (K154 v1_154 M_154) M_154 [(0, .ref (w.1 0)), (1, .long v1_154)] 154 []) ?_ ?_
        · intro v1_154 M_154
          refine gz_iconst (v := 0) C dX10_digest_154 (by decide) ?_
          refine gz_istoren C [(3, .int (0 : Int32)), (0, .ref (w.1 0)), (1, .long v1_154)] dX10_digest_155 (by decide) rfl ?_
          refine gz_jn (fun K187 => ∀ (v1_187 : Int64) (M_187 : Mm), G x w 5 (qJ w) (K187 v1_187 M_187) M_187 [(0, .ref (w.1 0)), (1, .long v1_187)] 187 []) ?_ ?_
          · intro v1_187 M_187
            refine gz_iconst (v := 0) C dX10_digest_187 (by decide) ?_
            refine gz_istoren C [(3, .int (0 : Int32)), (0, .ref (w.1 0)), (1, .long v1_187)] dX10_digest_188 (by decide) rfl ?_
            have hL189 : ∀ (n189 : Nat) (v1_189 : Int64) (v3_189 : Int32) (M_189 : Mm), G x w 5 (qJ w) (sp_X10_digest_L189 n189 v1_189 v3_189 M_189) M_189 [(0, .ref (w.1 0)), (1, .long v1_189), (3, .int v3_189)] 189 [] := by
              intro n189
              induction n189 with
              | zero => intros; exact gz_none
              | succ n189 ih189 =>
                intro v1_189 v3_189 M_189
                rw [sp_X10_digest_L189]
                refine gz_iloadn C 2 rfl dX10_digest_189 ?_
                refine gz_bipush (v := (13)) C dX10_digest_190 (by decide) ?_
                refine gz_icmpgt C 212 dX10_digest_192 (by decide) ?_ ?_
                · refine gz_lloadn C 1 rfl dX10_digest_212 ?_
                  exact gz_lret C dX10_digest_213
                · refine gz_lloadn C 1 rfl dX10_digest_195 ?_
                  refine gz_aloadn C 0 rfl dX10_digest_196 ?_
                  refine gz_iloadn C 2 rfl dX10_digest_197 ?_
                  refine gz_callVI 0 [.int v3_189] [.long v1_189] C kn_X10 rfl rfl (ct_X10_count x.2.1 w v3_189 M_189) cal_X10_count km_X10_354 ⟨rfl, rfl⟩ ⟨by decide, by decide⟩ rfl rfl (Nat.le_of_ble_eq_true rfl) dX10_digest_198 (fun r198 M198 => ?_)
                  refine gz_i2l C dX10_digest_201 ?_
                  refine gz_callSJ [.long v1_189, .long (r198.toInt64)] [] C (ct_X10_mix x.2.1 w v1_189 (r198.toInt64) M198) cal_X10_mix (Or.inl km_X10_338) ⟨rfl, rfl⟩ ⟨by decide, by decide⟩ rfl rfl (Nat.le_of_ble_eq_true rfl) dX10_digest_202 (fun r202 M202 => ?_)
                  refine gz_lstoren C [(1, .long r202), (0, .ref (w.1 0)), (3, .int v3_189)] dX10_digest_205 (by decide) rfl ?_
                  refine gz_iinc (v' := v3_189 + 1) C 2 [(3, .int (v3_189 + 1)), (1, .long r202), (0, .ref (w.1 0))] rfl dX10_digest_206 rfl (by decide) rfl ?_
                  refine gz_goto C 189 dX10_digest_209 (by decide) ?_
                  refine gz_sub [2, 1, 0] rfl ?_
                  exact ih189 _ _ _
            refine gz_sub [1, 2, 0] rfl ?_
            exact hL189 fu _ _ _
          · intro K187 hK187
            have hL156 : ∀ (n156 : Nat) (v1_156 : Int64) (v3_156 : Int32) (M_156 : Mm), G x w 5 (qJ w) (sp_X10_digest_L156 K187 n156 v1_156 v3_156 M_156) M_156 [(0, .ref (w.1 0)), (1, .long v1_156), (3, .int v3_156)] 156 [] := by
              intro n156
              induction n156 with
              | zero => intros; exact gz_none
              | succ n156 ih156 =>
                intro v1_156 v3_156 M_156
                rw [sp_X10_digest_L156]
                refine gz_iloadn C 2 rfl dX10_digest_156 ?_
                refine gz_aloadn C 0 rfl dX10_digest_157 ?_
                refine gz_get C 0 0 (.ref (w.1 1)) kn_X10 rfl kf_X10_10 (by decide) dX10_digest_158 (fv_R rfl rfl) ?_
                refine gz_get C 1 1 (.int (gI M_156 1 1)) kn_X5 rfl kf_X10_83 (by decide) dX10_digest_161 (fv_I rfl) ?_
                refine gz_icmpge C 187 dX10_digest_164 (by decide) ?_ ?_
                · refine gz_lloadn C 1 rfl dX10_digest_167 ?_
                  refine gz_aloadn C 0 rfl dX10_digest_168 ?_
                  refine gz_get C 0 0 (.ref (w.1 1)) kn_X10 rfl kf_X10_10 (by decide) dX10_digest_169 (fv_R rfl rfl) ?_
                  refine gz_iloadn C 2 rfl dX10_digest_172 ?_
                  refine gz_callVI 1 [.int v3_156] [.long v1_156] C kn_X5 rfl rfl (ct_X5_letterAt x.2.1 w v3_156 M_156) cal_X5_letterAt km_X10_351 ⟨rfl, rfl⟩ ⟨by decide, by decide⟩ rfl rfl (Nat.le_of_ble_eq_true rfl) dX10_digest_173 (fun r173 M173 => ?_)
                  refine gz_i2l C dX10_digest_176 ?_
                  refine gz_callSJ [.long v1_156, .long (r173.toInt64)] [] C (ct_X10_mix x.2.1 w v1_156 (r173.toInt64) M173) cal_X10_mix (Or.inl km_X10_338) ⟨rfl, rfl⟩ ⟨by decide, by decide⟩ rfl rfl (Nat.le_of_ble_eq_true rfl) dX10_digest_177 (fun r177 M177 => ?_)
                  refine gz_lstoren C [(1, .long r177), (0, .ref (w.1 0)), (3, .int v3_156)] dX10_digest_180 (by decide) rfl ?_
                  refine gz_iinc (v' := v3_156 + 1) C 2 [(3, .int (v3_156 + 1)), (1, .long r177), (0, .ref (w.1 0))] rfl dX10_digest_181 rfl (by decide) rfl ?_
                  refine gz_goto C 156 dX10_digest_184 (by decide) ?_
                  refine gz_sub [2, 1, 0] rfl ?_
                  exact ih156 _ _ _
                · refine gz_sub [0, 1] rfl ?_
                  exact hK187 _ _
            refine gz_sub [1, 2, 0] rfl ?_
            exact hL156 fu _ _ _
        · intro K154 hK154
          refine gz_ifle C 154 dX10_digest_125 (by decide) ?_ ?_
          · refine gz_lloadn C 0 rfl dX10_digest_128 ?_
            refine gz_aloadn C 1 rfl dX10_digest_129 ?_
            refine gz_bipush (v := (10)) C dX10_digest_130 (by decide) ?_
            refine gz_iconst (v := 0) C dX10_digest_132 (by decide) ?_
            refine gz_callVI 0 [.int (10 : Int32), .int (0 : Int32)] [.long r114] C kn_X10 rfl rfl (ct_X10_stations x.2.1 w (10 : Int32) (0 : Int32) M114) cal_X10_stations km_X10_348 ⟨rfl, rfl⟩ ⟨by decide, by decide⟩ rfl rfl (Nat.le_of_ble_eq_true rfl) dX10_digest_133 (fun r133 M133 => ?_)
            refine gz_i2l C dX10_digest_136 ?_
            refine gz_callSJ [.long r114, .long (r133.toInt64)] [] C (ct_X10_mix x.2.1 w r114 (r133.toInt64) M133) cal_X10_mix (Or.inl km_X10_338) ⟨rfl, rfl⟩ ⟨by decide, by decide⟩ rfl rfl (Nat.le_of_ble_eq_true rfl) dX10_digest_137 (fun r137 M137 => ?_)
            refine gz_lstoren C [(1, .long r137), (0, .ref (w.1 0))] dX10_digest_140 (by decide) rfl ?_
            refine gz_lloadn C 0 rfl dX10_digest_141 ?_
            refine gz_aloadn C 1 rfl dX10_digest_142 ?_
            refine gz_bipush (v := (10)) C dX10_digest_143 (by decide) ?_
            refine gz_iconst (v := 1) C dX10_digest_145 (by decide) ?_
            refine gz_callVI 0 [.int (10 : Int32), .int (1 : Int32)] [.long r137] C kn_X10 rfl rfl (ct_X10_stations x.2.1 w (10 : Int32) (1 : Int32) M137) cal_X10_stations km_X10_348 ⟨rfl, rfl⟩ ⟨by decide, by decide⟩ rfl rfl (Nat.le_of_ble_eq_true rfl) dX10_digest_146 (fun r146 M146 => ?_)
            refine gz_i2l C dX10_digest_149 ?_
            refine gz_callSJ [.long r137, .long (r146.toInt64)] [] C (ct_X10_mix x.2.1 w r137 (r146.toInt64) M146) cal_X10_mix (Or.inl km_X10_338) ⟨rfl, rfl⟩ ⟨by decide, by decide⟩ rfl rfl (Nat.le_of_ble_eq_true rfl) dX10_digest_150 (fun r150 M150 => ?_)
            refine gz_lstoren C [(1, .long r150), (0, .ref (w.1 0))] dX10_digest_153 (by decide) rfl ?_
            refine gz_sub [1, 0] rfl ?_
            exact hK154 _ _
          · refine gz_sub [1, 0] rfl ?_
            exact hK154 _ _
      · intro K108 hK108
        have hL62 : ∀ (n62 : Nat) (v1_62 : Int64) (v3_62 : Int32) (M_62 : Mm), G x w 5 (qJ w) (sp_X10_digest_L62 K108 n62 v1_62 v3_62 M_62) M_62 [(0, .ref (w.1 0)), (1, .long v1_62), (3, .int v3_62)] 62 [] := by
          intro n62
          induction n62 with
          | zero => intros; exact gz_none
          | succ n62 ih62 =>
            intro v1_62 v3_62 M_62
            rw [sp_X10_digest_L62]
            refine gz_iloadn C 2 rfl dX10_digest_62 ?_
            refine gz_aloadn C 0 rfl dX10_digest_63 ?_
            refine gz_get C 0 3 (.ref (w.1 9)) kn_X10 rfl kf_X10_33 (by decide) dX10_digest_64 (fv_R rfl rfl) ?_
            refine gz_get C 9 0 (.int (gI M_62 9 0)) kn_X2 rfl kf_X10_192 (by decide) dX10_digest_67 (fv_I rfl) ?_
            refine gz_icmpge C 108 dX10_digest_70 (by decide) ?_ ?_
            · refine gz_iconst (v := 0) C dX10_digest_73 (by decide) ?_
              refine gz_istore C [(4, .int (0 : Int32)), (0, .ref (w.1 0)), (1, .long v1_62), (3, .int v3_62)] dX10_digest_74 (by decide) rfl ?_
              refine gz_jn (fun K102 => ∀ (v1_102 : Int64) (M_102 : Mm), G x w 5 (qJ w) (K102 v1_102 M_102) M_102 [(0, .ref (w.1 0)), (1, .long v1_102), (3, .int v3_62)] 102 []) ?_ ?_
              · intro v1_102 M_102
                refine gz_iinc (v' := v3_62 + 1) C 2 [(3, .int (v3_62 + 1)), (0, .ref (w.1 0)), (1, .long v1_102)] rfl dX10_digest_102 rfl (by decide) rfl ?_
                refine gz_goto C 62 dX10_digest_105 (by decide) ?_
                refine gz_sub [1, 2, 0] rfl ?_
                exact ih62 _ _ _
              · intro K102 hK102
                have hL76 : ∀ (n76 : Nat) (v1_76 : Int64) (v4_76 : Int32) (M_76 : Mm), G x w 5 (qJ w) (sp_X10_digest_L76 K102 v3_62 n76 v1_76 v4_76 M_76) M_76 [(0, .ref (w.1 0)), (1, .long v1_76), (3, .int v3_62), (4, .int v4_76)] 76 [] := by
                  intro n76
                  induction n76 with
                  | zero => intros; exact gz_none
                  | succ n76 ih76 =>
                    intro v1_76 v4_76 M_76
                    rw [sp_X10_digest_L76]
                    refine gz_iload C 3 rfl dX10_digest_76 ?_
                    refine gz_bipush (v := (6)) C dX10_digest_78 (by decide) ?_
                    refine gz_icmpgt C 102 dX10_digest_80 (by decide) ?_ ?_
                    · refine gz_sub [0, 1, 2] rfl ?_
                      exact hK102 _ _
                    · refine gz_lloadn C 1 rfl dX10_digest_83 ?_
                      refine gz_aloadn C 0 rfl dX10_digest_84 ?_
                      refine gz_iloadn C 2 rfl dX10_digest_85 ?_
                      refine gz_iload C 3 rfl dX10_digest_86 ?_
                      refine gz_callVI 0 [.int v3_62, .int v4_76] [.long v1_76] C kn_X10 rfl rfl (ct_X10_about x.2.1 w v3_62 v4_76 M_76) cal_X10_about km_X10_342 ⟨rfl, rfl⟩ ⟨by decide, by decide⟩ rfl rfl (Nat.le_of_ble_eq_true rfl) dX10_digest_88 (fun r88 M88 => ?_)
                      refine gz_i2l C dX10_digest_91 ?_
                      refine gz_callSJ [.long v1_76, .long (r88.toInt64)] [] C (ct_X10_mix x.2.1 w v1_76 (r88.toInt64) M88) cal_X10_mix (Or.inl km_X10_338) ⟨rfl, rfl⟩ ⟨by decide, by decide⟩ rfl rfl (Nat.le_of_ble_eq_true rfl) dX10_digest_92 (fun r92 M92 => ?_)
                      refine gz_lstoren C [(1, .long r92), (0, .ref (w.1 0)), (3, .int v3_62), (4, .int v4_76)] dX10_digest_95 (by decide) rfl ?_
                      refine gz_iinc (v' := v4_76 + 1) C 3 [(4, .int (v4_76 + 1)), (1, .long r92), (0, .ref (w.1 0)), (3, .int v3_62)] rfl dX10_digest_96 rfl (by decide) rfl ?_
                      refine gz_goto C 76 dX10_digest_99 (by decide) ?_
                      refine gz_sub [2, 1, 3, 0] rfl ?_
                      exact ih76 _ _ _
                refine gz_sub [1, 2, 3, 0] rfl ?_
                exact hL76 fu _ _ _
            · refine gz_sub [0, 1] rfl ?_
              exact hK108 _ _
        refine gz_sub [1, 2, 0] rfl ?_
        exact hL62 fu _ _ _
    · intro K60 hK60
      have hL19 : ∀ (n19 : Nat) (v1_19 : Int64) (v3_19 : Int32) (M_19 : Mm), G x w 5 (qJ w) (sp_X10_digest_L19 K60 n19 v1_19 v3_19 M_19) M_19 [(0, .ref (w.1 0)), (1, .long v1_19), (3, .int v3_19)] 19 [] := by
        intro n19
        induction n19 with
        | zero => intros; exact gz_none
        | succ n19 ih19 =>
          intro v1_19 v3_19 M_19
          rw [sp_X10_digest_L19]
          refine gz_iloadn C 2 rfl dX10_digest_19 ?_
          refine gz_aloadn C 0 rfl dX10_digest_20 ?_
          refine gz_get C 0 2 (.ref (w.1 6)) kn_X10 rfl kf_X10_26 (by decide) dX10_digest_21 (fv_R rfl rfl) ?_
          refine gz_get C 6 0 (.int (gI M_19 6 0)) kn_X6 rfl kf_X10_122 (by decide) dX10_digest_24 (fv_I rfl) ?_
          refine gz_icmpge C 60 dX10_digest_27 (by decide) ?_ ?_
          · refine gz_lloadn C 1 rfl dX10_digest_30 ?_
            refine gz_aloadn C 0 rfl dX10_digest_31 ?_
            refine gz_iloadn C 2 rfl dX10_digest_32 ?_
            refine gz_iconst (v := 0) C dX10_digest_33 (by decide) ?_
            refine gz_iconst (v := 0) C dX10_digest_34 (by decide) ?_
            refine gz_callVJ 0 [.int v3_19, .int (0 : Int32), .int (0 : Int32)] [.long v1_19] C kn_X10 rfl rfl (ct_X10_hits x.2.1 w v3_19 (0 : Int32) (0 : Int32) M_19) cal_X10_hits km_X10_334 ⟨rfl, rfl⟩ ⟨by decide, by decide⟩ rfl rfl (Nat.le_of_ble_eq_true rfl) dX10_digest_35 (fun r35 M35 => ?_)
            refine gz_callSJ [.long v1_19, .long r35] [] C (ct_X10_mix x.2.1 w v1_19 r35 M35) cal_X10_mix (Or.inl km_X10_338) ⟨rfl, rfl⟩ ⟨by decide, by decide⟩ rfl rfl (Nat.le_of_ble_eq_true rfl) dX10_digest_38 (fun r38 M38 => ?_)
            refine gz_lstoren C [(1, .long r38), (0, .ref (w.1 0)), (3, .int v3_19)] dX10_digest_41 (by decide) rfl ?_
            refine gz_lloadn C 0 rfl dX10_digest_42 ?_
            refine gz_aloadn C 1 rfl dX10_digest_43 ?_
            refine gz_iloadn C 2 rfl dX10_digest_44 ?_
            refine gz_iconst (v := 0) C dX10_digest_45 (by decide) ?_
            refine gz_iconst (v := 1) C dX10_digest_46 (by decide) ?_
            refine gz_callVJ 0 [.int v3_19, .int (0 : Int32), .int (1 : Int32)] [.long r38] C kn_X10 rfl rfl (ct_X10_hits x.2.1 w v3_19 (0 : Int32) (1 : Int32) M38) cal_X10_hits km_X10_334 ⟨rfl, rfl⟩ ⟨by decide, by decide⟩ rfl rfl (Nat.le_of_ble_eq_true rfl) dX10_digest_47 (fun r47 M47 => ?_)
            refine gz_callSJ [.long r38, .long r47] [] C (ct_X10_mix x.2.1 w r38 r47 M47) cal_X10_mix (Or.inl km_X10_338) ⟨rfl, rfl⟩ ⟨by decide, by decide⟩ rfl rfl (Nat.le_of_ble_eq_true rfl) dX10_digest_50 (fun r50 M50 => ?_)
            refine gz_lstoren C [(1, .long r50), (0, .ref (w.1 0)), (3, .int v3_19)] dX10_digest_53 (by decide) rfl ?_
            refine gz_iinc (v' := v3_19 + 1) C 2 [(3, .int (v3_19 + 1)), (1, .long r50), (0, .ref (w.1 0))] rfl dX10_digest_54 rfl (by decide) rfl ?_
            refine gz_goto C 19 dX10_digest_57 (by decide) ?_
            refine gz_sub [2, 1, 0] rfl ?_
            exact ih19 _ _ _
          · refine gz_sub [0, 1] rfl ?_
            exact hK60 _ _
      refine gz_sub [1, 2, 0] rfl ?_
      exact hL19 fu _ _ _
  · intro K17 hK17
    refine gz_ifeq C 17 dX10_digest_8 (by decide) ?_ ?_
    · refine gz_sub [1, 0] rfl ?_
      exact hK17 _ _
    · refine gz_aloadn C 1 rfl dX10_digest_11 ?_
      refine gz_lloadn C 0 rfl dX10_digest_12 ?_
      refine gz_callVJ 0 [.long (701 : Int64)] [] C kn_X10 rfl rfl (ct_X10_mixSea x.2.1 w (701 : Int64) M5) cal_X10_mixSea km_X10_330 ⟨rfl, rfl⟩ ⟨by decide, by decide⟩ rfl rfl (Nat.le_of_ble_eq_true rfl) dX10_digest_13 (fun r13 M13 => ?_)
      refine gz_lstoren C [(1, .long r13), (0, .ref (w.1 0))] dX10_digest_16 (by decide) rfl ?_
      refine gz_sub [1, 0] rfl ?_
      exact hK17 _ _
set_option maxRecDepth 100000 in
set_option maxHeartbeats 4000000 in
theorem ct_X11_in (l : Launch) (w : Wd) (p0 : Int64) (p2 : Int64) (p4 : Int64) (M : Mm) : CT l yX11_in cX11_in 6 (some .boolean) rm_X11_in w (qI w) [.long p0, .long p2, .long p4] (sp_X11_in p0 p2 p4 M) M := by
  refine ct_of RX11 [(0, .long p0), (2, .long p2), (4, .long p4)] rfl (Nat.le_of_ble_eq_true rfl) (by decide) rfl rfl rfl (fun x C => ?_)
  unfold sp_X11_in
  refine gz_lloadn C 0 rfl dX11_in_0 ?_
  refine gz_lloadn C 1 rfl dX11_in_1 ?_
  refine gz_lcmp C dX11_in_2 ?_
  refine gz_cnd (lc_lt p0 p2) ?_
  refine gz_iflt C 17 dX11_in_3 (by decide) ?_ ?_
  · refine gz_iconst (v := 0) C dX11_in_17 (by decide) ?_
    exact gz_zret C (Or.inl rfl) dX11_in_18
  · refine gz_lloadn C 0 rfl dX11_in_6 ?_
    refine gz_lload C 2 rfl dX11_in_7 ?_
    refine gz_lcmp C dX11_in_9 ?_
    refine gz_cnd (lc_gt p0 p4) ?_
    refine gz_ifgt C 17 dX11_in_10 (by decide) ?_ ?_
    · refine gz_iconst (v := 0) C dX11_in_17 (by decide) ?_
      exact gz_zret C (Or.inl rfl) dX11_in_18
    · refine gz_iconst (v := 1) C dX11_in_13 (by decide) ?_
      refine gz_goto C 18 dX11_in_14 (by decide) ?_
      exact gz_zret C (Or.inr rfl) dX11_in_18
set_option maxRecDepth 100000 in
set_option maxHeartbeats 4000000 in
theorem ct_X11_letter (l : Launch) (w : Wd) (p1 : Int32) (M : Mm) : CT l yX11_letter cX11_letter 2 (some .int) rm_X11_letter w (qI w) [.ref (w.1 32), .int p1] (sp_X11_letter p1 M) M := by
  refine ct_of RX11 [(0, .ref (w.1 32)), (1, .int p1)] rfl (Nat.le_of_ble_eq_true rfl) (by decide) rfl rfl rfl (fun x C => ?_)
  unfold sp_X11_letter
  refine gz_iloadn C 1 rfl dX11_letter_0 ?_
  refine gz_i2l C dX11_letter_1 ?_
  refine gz_lconst (v := 1) C dX11_letter_2 (by decide) ?_
  refine gz_ldc2 C kl_X11_75 dX11_letter_3 ?_
  refine gz_callSI [.long (p1.toInt64), .long (1 : Int64), .long (126 : Int64)] [] C (ct_X11_in x.2.1 w (p1.toInt64) (1 : Int64) (126 : Int64) M) cal_X11_in (Or.inl km_X11_77) ⟨rfl, rfl⟩ ⟨by decide, by decide⟩ rfl rfl (Nat.le_of_ble_eq_true rfl) dX11_letter_6 (fun r6 M6 => ?_)
  refine gz_ifne C 15 dX11_letter_9 (by decide) ?_ ?_
  · refine gz_bipush (v := (-102)) C dX11_letter_12 (by decide) ?_
    exact gz_iret C dX11_letter_14
  · refine gz_aloadn C 0 rfl dX11_letter_15 ?_
    refine gz_get C 32 1 (.int (gI M6 32 1)) kn_X11 rfl kf_X11_81 (by decide) dX11_letter_16 (fv_I rfl) ?_
    refine gz_bipush (v := (22)) C dX11_letter_19 (by decide) ?_
    refine gz_icmpne C 27 dX11_letter_21 (by decide) ?_ ?_
    · refine gz_bipush (v := (-104)) C dX11_letter_24 (by decide) ?_
      exact gz_iret C dX11_letter_26
    · refine gz_aloadn C 0 rfl dX11_letter_27 ?_
      refine gz_get C 32 0 (.ref (w.1 33)) kn_X11 rfl kf_X11_7 (by decide) dX11_letter_28 (fv_R rfl rfl) ?_
      refine gz_aloadn C 0 rfl dX11_letter_31 ?_
      refine gz_get C 32 1 (.int (gI M6 32 1)) kn_X11 rfl kf_X11_81 (by decide) dX11_letter_32 (fv_I rfl) ?_
      refine gz_iloadn C 1 rfl dX11_letter_35 ?_
      refine gz_iast C rfl dX11_letter_36 (fun M36 => ?_)
      refine gz_aloadn C 0 rfl dX11_letter_37 ?_
      refine gz_dup C dX11_letter_38 rfl ?_
      refine gz_get C 32 1 (.int (gI M36 32 1)) kn_X11 rfl kf_X11_81 (by decide) dX11_letter_39 (fv_I rfl) ?_
      refine gz_iconst (v := 1) C dX11_letter_42 (by decide) ?_
      refine gz_iadd C dX11_letter_43 ?_
      refine gz_putI C 32 1 kn_X11 rfl kf_X11_81 (by decide) rfl rfl (tyX11_ok 1 (by decide)) rfl rfl dX11_letter_44 (fun M44 => ?_)
      refine gz_aloadn C 0 rfl dX11_letter_47 ?_
      refine gz_get C 32 1 (.int (gI M44 32 1)) kn_X11 rfl kf_X11_81 (by decide) dX11_letter_48 (fv_I rfl) ?_
      exact gz_iret C dX11_letter_51
set_option maxRecDepth 100000 in
set_option maxHeartbeats 4000000 in
theorem ct_X11_blank (l : Launch) (w : Wd) (M : Mm) : CT l yX11_blank cX11_blank 2 (some .int) rm_X11_blank w (qI w) [.ref (w.1 32)] (sp_X11_blank M) M := by
  refine ct_of RX11 [(0, .ref (w.1 32))] rfl (Nat.le_of_ble_eq_true rfl) (by decide) rfl rfl rfl (fun x C => ?_)
  unfold sp_X11_blank
  refine gz_aloadn C 0 rfl dX11_blank_0 ?_
  refine gz_get C 32 1 (.int (gI M 32 1)) kn_X11 rfl kf_X11_81 (by decide) dX11_blank_1 (fv_I rfl) ?_
  refine gz_blt (fun y4 => ?_)
  refine gz_istoren C [(1, .int y4), (0, .ref (w.1 32))] dX11_blank_4 (by decide) rfl ?_
  refine gz_aloadn C 1 rfl dX11_blank_5 ?_
  refine gz_iconst (v := 0) C dX11_blank_6 (by decide) ?_
  refine gz_putI C 32 1 kn_X11 rfl kf_X11_81 (by decide) rfl rfl (tyX11_ok 1 (by decide)) rfl rfl dX11_blank_7 (fun M7 => ?_)
  refine gz_iloadn C 0 rfl dX11_blank_10 ?_
  exact gz_iret C dX11_blank_11
set_option maxRecDepth 100000 in
set_option maxHeartbeats 4000000 in
theorem ct_X11_goGust (l : Launch) (w : Wd) (p1 : Int32) (p2 : Int32) (M : Mm) : CT l yX11_goGust cX11_goGust 5 (some .boolean) rm_X11_goGust w (qI w) [.ref (w.1 32), .int p1, .int p2] (sp_X11_goGust p1 p2 M) M := by
  refine ct_of RX11 [(0, .ref (w.1 32)), (1, .int p1), (2, .int p2)] rfl (Nat.le_of_ble_eq_true rfl) (by decide) rfl rfl rfl (fun x C => ?_)
  unfold sp_X11_goGust
  refine gz_iloadn C 2 rfl dX11_goGust_0 ?_
  refine gz_istoren C [(3, .int p2), (0, .ref (w.1 32)), (1, .int p1), (2, .int p2)] dX11_goGust_1 (by decide) rfl ?_
  refine gz_iconst (v := 0) C dX11_goGust_2 (by decide) ?_
  refine gz_istore C [(4, .int (0 : Int32)), (3, .int p2), (0, .ref (w.1 32)), (1, .int p1), (2, .int p2)] dX11_goGust_3 (by decide) rfl ?_
  refine gz_jn (fun K27 => ∀ (v3_27 : Int32), G x w 5 (qI w) (K27 v3_27) M [(0, .ref (w.1 32)), (1, .int p1), (2, .int p2), (3, .int v3_27)] 27 []) ?_ ?_
  · intro v3_27
    refine gz_aloadn C 0 rfl dX11_goGust_27 ?_
    refine gz_get C 32 4 (.ref (w.1 34)) kn_X11 rfl kf_X11_13 (by decide) dX11_goGust_28 (fv_R rfl rfl) ?_
    refine gz_iloadn C 1 rfl dX11_goGust_31 ?_
    refine gz_iloadn C 2 rfl dX11_goGust_32 ?_
    refine gz_iast C rfl dX11_goGust_33 (fun M33 => ?_)
    refine gz_iloadn C 2 rfl dX11_goGust_34 ?_
    refine gz_i2l C dX11_goGust_35 ?_
    refine gz_lconst (v := 0) C dX11_goGust_36 (by decide) ?_
    refine gz_ldc2 C kl_X11_84 dX11_goGust_37 ?_
    refine gz_callSI [.long (p2.toInt64), .long (0 : Int64), .long (9 : Int64)] [] C (ct_X11_in x.2.1 w (p2.toInt64) (0 : Int64) (9 : Int64) M33) cal_X11_in (Or.inl km_X11_77) ⟨rfl, rfl⟩ ⟨by decide, by decide⟩ rfl rfl (Nat.le_of_ble_eq_true rfl) dX11_goGust_40 (fun r40 M40 => ?_)
    refine gz_ifeq C 67 dX11_goGust_43 (by decide) ?_ ?_
    · refine gz_iconst (v := 0) C dX11_goGust_67 (by decide) ?_
      exact gz_zret C (Or.inl rfl) dX11_goGust_68
    · refine gz_iloadn C 3 rfl dX11_goGust_46 ?_
      refine gz_bipush (v := (10)) C dX11_goGust_47 (by decide) ?_
      refine gz_icmpgt C 67 dX11_goGust_49 (by decide) ?_ ?_
      · refine gz_iconst (v := 0) C dX11_goGust_67 (by decide) ?_
        exact gz_zret C (Or.inl rfl) dX11_goGust_68
      · refine gz_iloadn C 1 rfl dX11_goGust_52 ?_
        refine gz_iconst (v := 2) C dX11_goGust_53 (by decide) ?_
        refine gz_icmplt C 63 dX11_goGust_54 (by decide) ?_ ?_
        · refine gz_iconst (v := 1) C dX11_goGust_63 (by decide) ?_
          refine gz_goto C 68 dX11_goGust_64 (by decide) ?_
          exact gz_zret C (Or.inr rfl) dX11_goGust_68
        · refine gz_iloadn C 3 rfl dX11_goGust_57 ?_
          refine gz_bipush (v := (10)) C dX11_goGust_58 (by decide) ?_
          refine gz_icmpne C 67 dX11_goGust_60 (by decide) ?_ ?_
          · refine gz_iconst (v := 1) C dX11_goGust_63 (by decide) ?_
            refine gz_goto C 68 dX11_goGust_64 (by decide) ?_
            exact gz_zret C (Or.inr rfl) dX11_goGust_68
          · refine gz_iconst (v := 0) C dX11_goGust_67 (by decide) ?_
            exact gz_zret C (Or.inl rfl) dX11_goGust_68
  · intro K27 hK27
    have hL5 : ∀ (n5 : Nat) (v3_5 : Int32) (v4_5 : Int32), G x w 5 (qI w) (sp_X11_goGust_L5 p1 M K27 n5 v3_5 v4_5) M [(0, .ref (w.1 32)), (1, .int p1), (2, .int p2), (3, .int v3_5), (4, .int v4_5)] 5 [] := by
      intro n5
      induction n5 with
      | zero => intros; exact gz_none
      | succ n5 ih5 =>
        intro v3_5 v4_5
        rw [sp_X11_goGust_L5]
        refine gz_iload C 4 rfl dX11_goGust_5 ?_
        refine gz_iloadn C 1 rfl dX11_goGust_7 ?_
        refine gz_icmpge C 27 dX11_goGust_8 (by decide) ?_ ?_
        · refine gz_iloadn C 3 rfl dX11_goGust_11 ?_
          refine gz_aloadn C 0 rfl dX11_goGust_12 ?_
          refine gz_get C 32 4 (.ref (w.1 34)) kn_X11 rfl kf_X11_13 (by decide) dX11_goGust_13 (fv_R rfl rfl) ?_
          refine gz_iload C 4 rfl dX11_goGust_16 ?_
          refine gz_iald C rfl dX11_goGust_18 (fun a18 => ?_)
          refine gz_iadd C dX11_goGust_19 ?_
          refine gz_blt (fun y20 => ?_)
          refine gz_istoren C [(3, .int y20), (0, .ref (w.1 32)), (1, .int p1), (2, .int p2), (4, .int v4_5)] dX11_goGust_20 (by decide) rfl ?_
          refine gz_iinc (v' := v4_5 + 1) C 4 [(4, .int (v4_5 + 1)), (3, .int y20), (0, .ref (w.1 32)), (1, .int p1), (2, .int p2)] rfl dX11_goGust_21 rfl (by decide) rfl ?_
          refine gz_goto C 5 dX11_goGust_24 (by decide) ?_
          refine gz_sub [2, 3, 4, 1, 0] rfl ?_
          exact ih5 _ _
        · refine gz_sub [0, 1, 2, 3] rfl ?_
          exact hK27 _
    refine gz_sub [2, 3, 4, 1, 0] rfl ?_
    exact hL5 fu _ _
set_option maxRecDepth 100000 in
set_option maxHeartbeats 4000000 in
theorem ct_X11_go (l : Launch) (w : Wd) (p1 : Int32) (p2 : Int32) (M : Mm) : CT l yX11_go cX11_go 4 (some .boolean) rm_X11_go w (qI w) [.ref (w.1 32), .int p1, .int p2] (sp_X11_go p1 p2 M) M := by
  refine ct_of RX11 [(0, .ref (w.1 32)), (1, .int p1), (2, .int p2)] rfl (Nat.le_of_ble_eq_true rfl) (by decide) rfl rfl rfl (fun x C => ?_)
  unfold sp_X11_go
  refine gz_iloadn C 2 rfl dX11_go_0 ?_
  refine gz_bipush (v := (48)) C dX11_go_1 (by decide) ?_
  refine gz_isub C dX11_go_3 ?_
  refine gz_blt (fun y4 => ?_)
  refine gz_istoren C [(3, .int y4), (0, .ref (w.1 32)), (1, .int p1), (2, .int p2)] dX11_go_4 (by decide) rfl ?_
  refine gz_iloadn C 2 rfl dX11_go_5 ?_
  refine gz_if (fun hs0 => ?_) (fun hs0 => ?_)
  · refine gz_tabIn (off := 50) C (0) 56 dX11_go_6 hs0 (by decide) (by decide) (by decide) (by decide) ?_
    refine gz_aloadn C 1 rfl dX11_go_56 ?_
    refine gz_iloadn C 0 rfl dX11_go_57 ?_
    refine gz_putI C 32 2 kn_X11 rfl kf_X11_86 (by decide) rfl rfl (tyX11_ok 2 (by decide)) rfl rfl dX11_go_58 (fun M58 => ?_)
    refine gz_iloadn C 0 rfl dX11_go_61 ?_
    refine gz_i2l C dX11_go_62 ?_
    refine gz_lconst (v := 1) C dX11_go_63 (by decide) ?_
    refine gz_ldc2 C kl_X11_84 dX11_go_64 ?_
    refine gz_callSI [.long (y4.toInt64), .long (1 : Int64), .long (9 : Int64)] [] C (ct_X11_in x.2.1 w (y4.toInt64) (1 : Int64) (9 : Int64) M58) cal_X11_in (Or.inl km_X11_77) ⟨rfl, rfl⟩ ⟨by decide, by decide⟩ rfl rfl (Nat.le_of_ble_eq_true rfl) dX11_go_67 (fun r67 M67 => ?_)
    refine gz_zb (fun hb70 => ?_)
    exact gz_zret C hb70 dX11_go_70
  refine gz_if (fun hs1 => ?_) (fun hs1 => ?_)
  · refine gz_tabIn (off := 65) C (1) 71 dX11_go_6 hs1 (by decide) (by decide) (by decide) (by decide) ?_
    refine gz_aloadn C 1 rfl dX11_go_71 ?_
    refine gz_bipush (v := (10)) C dX11_go_72 (by decide) ?_
    refine gz_aloadn C 1 rfl dX11_go_74 ?_
    refine gz_get C 32 2 (.int (gI M 32 2)) kn_X11 rfl kf_X11_86 (by decide) dX11_go_75 (fv_I rfl) ?_
    refine gz_imul C dX11_go_78 ?_
    refine gz_iloadn C 0 rfl dX11_go_79 ?_
    refine gz_iadd C dX11_go_80 ?_
    refine gz_putI C 32 2 kn_X11 rfl kf_X11_86 (by decide) rfl rfl (tyX11_ok 2 (by decide)) rfl rfl dX11_go_81 (fun M81 => ?_)
    refine gz_iloadn C 0 rfl dX11_go_84 ?_
    refine gz_i2l C dX11_go_85 ?_
    refine gz_lconst (v := 0) C dX11_go_86 (by decide) ?_
    refine gz_ldc2 C kl_X11_84 dX11_go_87 ?_
    refine gz_callSI [.long (y4.toInt64), .long (0 : Int64), .long (9 : Int64)] [] C (ct_X11_in x.2.1 w (y4.toInt64) (0 : Int64) (9 : Int64) M81) cal_X11_in (Or.inl km_X11_77) ⟨rfl, rfl⟩ ⟨by decide, by decide⟩ rfl rfl (Nat.le_of_ble_eq_true rfl) dX11_go_90 (fun r90 M90 => ?_)
    refine gz_zb (fun hb93 => ?_)
    exact gz_zret C hb93 dX11_go_93
  refine gz_if (fun hs2 => ?_) (fun hs2 => ?_)
  · refine gz_tabIn (off := 88) C (2) 94 dX11_go_6 hs2 (by decide) (by decide) (by decide) (by decide) ?_
    refine gz_iloadn C 3 rfl dX11_go_94 ?_
    refine gz_bipush (v := (58)) C dX11_go_95 (by decide) ?_
    refine gz_icmpne C 104 dX11_go_97 (by decide) ?_ ?_
    · refine gz_iconst (v := 1) C dX11_go_100 (by decide) ?_
      refine gz_goto C 105 dX11_go_101 (by decide) ?_
      exact gz_zret C (Or.inr rfl) dX11_go_105
    · refine gz_iconst (v := 0) C dX11_go_104 (by decide) ?_
      exact gz_zret C (Or.inl rfl) dX11_go_105
  refine gz_if (fun hs3 => ?_) (fun hs3 => ?_)
  · refine gz_tabIn (off := 100) C (3) 106 dX11_go_6 hs3 (by decide) (by decide) (by decide) (by decide) ?_
    refine gz_aloadn C 1 rfl dX11_go_106 ?_
    refine gz_iloadn C 0 rfl dX11_go_107 ?_
    refine gz_putI C 32 3 kn_X11 rfl kf_X11_89 (by decide) rfl rfl (tyX11_ok 3 (by decide)) rfl rfl dX11_go_108 (fun M108 => ?_)
    refine gz_iloadn C 0 rfl dX11_go_111 ?_
    refine gz_i2l C dX11_go_112 ?_
    refine gz_lconst (v := 0) C dX11_go_113 (by decide) ?_
    refine gz_ldc2 C kl_X11_84 dX11_go_114 ?_
    refine gz_callSI [.long (y4.toInt64), .long (0 : Int64), .long (9 : Int64)] [] C (ct_X11_in x.2.1 w (y4.toInt64) (0 : Int64) (9 : Int64) M108) cal_X11_in (Or.inl km_X11_77) ⟨rfl, rfl⟩ ⟨by decide, by decide⟩ rfl rfl (Nat.le_of_ble_eq_true rfl) dX11_go_117 (fun r117 M117 => ?_)
    refine gz_zb (fun hb120 => ?_)
    exact gz_zret C hb120 dX11_go_120
  refine gz_if (fun hs4 => ?_) (fun hs4 => ?_)
  · refine gz_tabIn (off := 88) C (4) 94 dX11_go_6 hs4 (by decide) (by decide) (by decide) (by decide) ?_
    refine gz_iloadn C 3 rfl dX11_go_94 ?_
    refine gz_bipush (v := (58)) C dX11_go_95 (by decide) ?_
    refine gz_icmpne C 104 dX11_go_97 (by decide) ?_ ?_
    · refine gz_iconst (v := 1) C dX11_go_100 (by decide) ?_
      refine gz_goto C 105 dX11_go_101 (by decide) ?_
      exact gz_zret C (Or.inr rfl) dX11_go_105
    · refine gz_iconst (v := 0) C dX11_go_104 (by decide) ?_
      exact gz_zret C (Or.inl rfl) dX11_go_105
  refine gz_if (fun hs5 => ?_) (fun hs5 => ?_)
  · refine gz_tabIn (off := 115) C (5) 121 dX11_go_6 hs5 (by decide) (by decide) (by decide) (by decide) ?_
    refine gz_aloadn C 1 rfl dX11_go_121 ?_
    refine gz_iloadn C 2 rfl dX11_go_122 ?_
    refine gz_iconst (v := 5) C dX11_go_123 (by decide) ?_
    refine gz_isub C dX11_go_124 ?_
    refine gz_iloadn C 0 rfl dX11_go_125 ?_
    refine gz_callVI 32 [.int (p1 - (5 : Int32)), .int y4] [] C kn_X11 rfl rfl (ct_X11_goGust x.2.1 w (p1 - (5 : Int32)) y4 M) cal_X11_goGust km_X11_92 ⟨rfl, rfl⟩ ⟨by decide, by decide⟩ rfl rfl (Nat.le_of_ble_eq_true rfl) dX11_go_126 (fun r126 M126 => ?_)
    refine gz_zb (fun hb129 => ?_)
    exact gz_zret C hb129 dX11_go_129
  refine gz_if (fun hs6 => ?_) (fun hs6 => ?_)
  · refine gz_tabIn (off := 115) C (6) 121 dX11_go_6 hs6 (by decide) (by decide) (by decide) (by decide) ?_
    refine gz_aloadn C 1 rfl dX11_go_121 ?_
    refine gz_iloadn C 2 rfl dX11_go_122 ?_
    refine gz_iconst (v := 5) C dX11_go_123 (by decide) ?_
    refine gz_isub C dX11_go_124 ?_
    refine gz_iloadn C 0 rfl dX11_go_125 ?_
    refine gz_callVI 32 [.int (p1 - (5 : Int32)), .int y4] [] C kn_X11 rfl rfl (ct_X11_goGust x.2.1 w (p1 - (5 : Int32)) y4 M) cal_X11_goGust km_X11_92 ⟨rfl, rfl⟩ ⟨by decide, by decide⟩ rfl rfl (Nat.le_of_ble_eq_true rfl) dX11_go_126 (fun r126 M126 => ?_)
    refine gz_zb (fun hb129 => ?_)
    exact gz_zret C hb129 dX11_go_129
  refine gz_if (fun hs7 => ?_) (fun hs7 => ?_)
  · refine gz_tabIn (off := 115) C (7) 121 dX11_go_6 hs7 (by decide) (by decide) (by decide) (by decide) ?_
    refine gz_aloadn C 1 rfl dX11_go_121 ?_
    refine gz_iloadn C 2 rfl dX11_go_122 ?_
    refine gz_iconst (v := 5) C dX11_go_123 (by decide) ?_
    refine gz_isub C dX11_go_124 ?_
    refine gz_iloadn C 0 rfl dX11_go_125 ?_
    refine gz_callVI 32 [.int (p1 - (5 : Int32)), .int y4] [] C kn_X11 rfl rfl (ct_X11_goGust x.2.1 w (p1 - (5 : Int32)) y4 M) cal_X11_goGust km_X11_92 ⟨rfl, rfl⟩ ⟨by decide, by decide⟩ rfl rfl (Nat.le_of_ble_eq_true rfl) dX11_go_126 (fun r126 M126 => ?_)
    refine gz_zb (fun hb129 => ?_)
    exact gz_zret C hb129 dX11_go_129
  refine gz_if (fun hs8 => ?_) (fun hs8 => ?_)
  · refine gz_tabIn (off := 88) C (8) 94 dX11_go_6 hs8 (by decide) (by decide) (by decide) (by decide) ?_
    refine gz_iloadn C 3 rfl dX11_go_94 ?_
    refine gz_bipush (v := (58)) C dX11_go_95 (by decide) ?_
    refine gz_icmpne C 104 dX11_go_97 (by decide) ?_ ?_
    · refine gz_iconst (v := 1) C dX11_go_100 (by decide) ?_
      refine gz_goto C 105 dX11_go_101 (by decide) ?_
      exact gz_zret C (Or.inr rfl) dX11_go_105
    · refine gz_iconst (v := 0) C dX11_go_104 (by decide) ?_
      exact gz_zret C (Or.inl rfl) dX11_go_105
  refine gz_tabOut C 130 dX11_go_6 (by have e0 := lv_neT (a := 0) hs0 (by decide); have e1 := lv_neT (a := 1) hs1 (by decide); have e2 := lv_neT (a := 2) hs2 (by decide); have e3 := lv_neT (a := 3) hs3 (by decide); have e4 := lv_neT (a := 4) hs4 (by decide); have e5 := lv_neT (a := 5) hs5 (by decide); have e6 := lv_neT (a := 6) hs6 (by decide); have e7 := lv_neT (a := 7) hs7 (by decide); have e8 := lv_neT (a := 8) hs8 (by decide); omega) (by decide) ?_
  refine gz_aloadn C 1 rfl dX11_go_130 ?_
  refine gz_get C 32 6 (.int (gI M 32 6)) kn_X11 rfl kf_X11_96 (by decide) dX11_go_131 (fv_I rfl) ?_
  refine gz_bipush (v := (10)) C dX11_go_134 (by decide) ?_
  refine gz_icmpeq C 151 dX11_go_136 (by decide) ?_ ?_
  · refine gz_iconst (v := 0) C dX11_go_151 (by decide) ?_
    exact gz_zret C (Or.inl rfl) dX11_go_152
  · refine gz_iloadn C 0 rfl dX11_go_139 ?_
    refine gz_i2l C dX11_go_140 ?_
    refine gz_lconst (v := 0) C dX11_go_141 (by decide) ?_
    refine gz_ldc2 C kl_X11_84 dX11_go_142 ?_
    refine gz_callSI [.long (y4.toInt64), .long (0 : Int64), .long (9 : Int64)] [] C (ct_X11_in x.2.1 w (y4.toInt64) (0 : Int64) (9 : Int64) M) cal_X11_in (Or.inl km_X11_77) ⟨rfl, rfl⟩ ⟨by decide, by decide⟩ rfl rfl (Nat.le_of_ble_eq_true rfl) dX11_go_145 (fun r145 M145 => ?_)
    refine gz_ifne C 153 dX11_go_148 (by decide) ?_ ?_
    · refine gz_iconst (v := 0) C dX11_go_151 (by decide) ?_
      exact gz_zret C (Or.inl rfl) dX11_go_152
    · refine gz_aloadn C 1 rfl dX11_go_153 ?_
      refine gz_get C 32 5 (.ref (w.1 35)) kn_X11 rfl kf_X11_16 (by decide) dX11_go_154 (fv_R rfl rfl) ?_
      refine gz_aloadn C 1 rfl dX11_go_157 ?_
      refine gz_get C 32 6 (.int (gI M145 32 6)) kn_X11 rfl kf_X11_96 (by decide) dX11_go_158 (fv_I rfl) ?_
      refine gz_iloadn C 0 rfl dX11_go_161 ?_
      refine gz_iast C rfl dX11_go_162 (fun M162 => ?_)
      refine gz_aloadn C 1 rfl dX11_go_163 ?_
      refine gz_dup C dX11_go_164 rfl ?_
      refine gz_get C 32 6 (.int (gI M162 32 6)) kn_X11 rfl kf_X11_96 (by decide) dX11_go_165 (fv_I rfl) ?_
      refine gz_iconst (v := 1) C dX11_go_168 (by decide) ?_
      refine gz_iadd C dX11_go_169 ?_
      refine gz_putI C 32 6 kn_X11 rfl kf_X11_96 (by decide) rfl rfl (tyX11_ok 6 (by decide)) rfl rfl dX11_go_170 (fun M170 => ?_)
      refine gz_iconst (v := 1) C dX11_go_173 (by decide) ?_
      exact gz_zret C (Or.inr rfl) dX11_go_174
set_option maxRecDepth 100000 in
set_option maxHeartbeats 4000000 in
theorem ct_X11_faultOf (l : Launch) (w : Wd) (M : Mm) : CT l yX11_faultOf cX11_faultOf 2 (some .int) rm_X11_faultOf w (qI w) [.ref (w.1 32)] (sp_X11_faultOf M) M := by
  refine ct_of RX11 [(0, .ref (w.1 32))] rfl (Nat.le_of_ble_eq_true rfl) (by decide) rfl rfl rfl (fun x C => ?_)
  unfold sp_X11_faultOf
  refine gz_aloadn C 0 rfl dX11_faultOf_0 ?_
  refine gz_iconst (v := 0) C dX11_faultOf_1 (by decide) ?_
  refine gz_putI C 32 6 kn_X11 rfl kf_X11_96 (by decide) rfl rfl (tyX11_ok 6 (by decide)) rfl rfl dX11_faultOf_2 (fun M2 => ?_)
  refine gz_iconst (v := 0) C dX11_faultOf_5 (by decide) ?_
  refine gz_istoren C [(1, .int (0 : Int32)), (0, .ref (w.1 32))] dX11_faultOf_6 (by decide) rfl ?_
  have hL7 : ∀ (n7 : Nat) (v1_7 : Int32) (M_7 : Mm), G x w 2 (qI w) (sp_X11_faultOf_L7 n7 v1_7 M_7) M_7 [(0, .ref (w.1 32)), (1, .int v1_7)] 7 [] := by
    intro n7
    induction n7 with
    | zero => intros; exact gz_none
    | succ n7 ih7 =>
      intro v1_7 M_7
      rw [sp_X11_faultOf_L7]
      refine gz_iloadn C 1 rfl dX11_faultOf_7 ?_
      refine gz_aloadn C 0 rfl dX11_faultOf_8 ?_
      refine gz_get C 32 1 (.int (gI M_7 32 1)) kn_X11 rfl kf_X11_81 (by decide) dX11_faultOf_9 (fv_I rfl) ?_
      refine gz_icmpge C 35 dX11_faultOf_12 (by decide) ?_ ?_
      · refine gz_aloadn C 0 rfl dX11_faultOf_15 ?_
        refine gz_iloadn C 1 rfl dX11_faultOf_16 ?_
        refine gz_aloadn C 0 rfl dX11_faultOf_17 ?_
        refine gz_get C 32 0 (.ref (w.1 33)) kn_X11 rfl kf_X11_7 (by decide) dX11_faultOf_18 (fv_R rfl rfl) ?_
        refine gz_iloadn C 1 rfl dX11_faultOf_21 ?_
        refine gz_iald C rfl dX11_faultOf_22 (fun a22 => ?_)
        refine gz_callVI 32 [.int v1_7, .int a22] [] C kn_X11 rfl rfl (ct_X11_go x.2.1 w v1_7 a22 M_7) cal_X11_go km_X11_99 ⟨rfl, rfl⟩ ⟨by decide, by decide⟩ rfl rfl (Nat.le_of_ble_eq_true rfl) dX11_faultOf_23 (fun r23 M23 => ?_)
        refine gz_ifeq C 35 dX11_faultOf_26 (by decide) ?_ ?_
        · refine gz_iloadn C 1 rfl dX11_faultOf_35 ?_
          exact gz_iret C dX11_faultOf_36
        · refine gz_iinc (v' := v1_7 + 1) C 1 [(1, .int (v1_7 + 1)), (0, .ref (w.1 32))] rfl dX11_faultOf_29 rfl (by decide) rfl ?_
          refine gz_goto C 7 dX11_faultOf_32 (by decide) ?_
          refine gz_sub [1, 0] rfl ?_
          exact ih7 _ _
      · refine gz_iloadn C 1 rfl dX11_faultOf_35 ?_
        exact gz_iret C dX11_faultOf_36
  refine gz_sub [1, 0] rfl ?_
  exact hL7 fu _ _
set_option maxRecDepth 100000 in
set_option maxHeartbeats 4000000 in
theorem ct_X11_fault (l : Launch) (w : Wd) (M : Mm) : CT l yX11_fault cX11_fault 1 (some .int) rm_X11_fault w (qI w) [.ref (w.1 32)] (sp_X11_fault M) M := by
  refine ct_of RX11 [(0, .ref (w.1 32))] rfl (Nat.le_of_ble_eq_true rfl) (by decide) rfl rfl rfl (fun x C => ?_)
  unfold sp_X11_fault
  refine gz_aloadn C 0 rfl dX11_fault_0 ?_
  refine gz_callVI 32 [] [] C kn_X11 rfl rfl (ct_X11_faultOf x.2.1 w M) cal_X11_faultOf km_X11_102 ⟨rfl, rfl⟩ ⟨by decide, by decide⟩ rfl rfl (Nat.le_of_ble_eq_true rfl) dX11_fault_1 (fun r1 M1 => ?_)
  exact gz_iret C dX11_fault_4
set_option maxRecDepth 100000 in
set_option maxHeartbeats 4000000 in
theorem ct_X11_night (l : Launch) (w : Wd) (M : Mm) : CT l yX11_night cX11_night 2 (some .int) rm_X11_night w (qI w) [.ref (w.1 32)] (sp_X11_night M) M := by
  refine ct_of RX11 [(0, .ref (w.1 32))] rfl (Nat.le_of_ble_eq_true rfl) (by decide) rfl rfl rfl (fun x C => ?_)
  unfold sp_X11_night
  refine gz_aloadn C 0 rfl dX11_night_0 ?_
  refine gz_callVI 32 [] [] C kn_X11 rfl rfl (ct_X11_faultOf x.2.1 w M) cal_X11_faultOf km_X11_102 ⟨rfl, rfl⟩ ⟨by decide, by decide⟩ rfl rfl (Nat.le_of_ble_eq_true rfl) dX11_night_1 (fun r1 M1 => ?_)
  refine gz_aloadn C 0 rfl dX11_night_4 ?_
  refine gz_get C 32 1 (.int (gI M1 32 1)) kn_X11 rfl kf_X11_81 (by decide) dX11_night_5 (fv_I rfl) ?_
  refine gz_icmplt C 18 dX11_night_8 (by decide) ?_ ?_
  · refine gz_bipush (v := (-103)) C dX11_night_18 (by decide) ?_
    exact gz_iret C dX11_night_20
  · refine gz_aloadn C 0 rfl dX11_night_11 ?_
    refine gz_get C 32 6 (.int (gI M1 32 6)) kn_X11 rfl kf_X11_96 (by decide) dX11_night_12 (fv_I rfl) ?_
    refine gz_ifne C 21 dX11_night_15 (by decide) ?_ ?_
    · refine gz_bipush (v := (-103)) C dX11_night_18 (by decide) ?_
      exact gz_iret C dX11_night_20
    · refine gz_aloadn C 0 rfl dX11_night_21 ?_
      refine gz_aloadn C 0 rfl dX11_night_22 ?_
      refine gz_get C 32 6 (.int (gI M1 32 6)) kn_X11 rfl kf_X11_96 (by decide) dX11_night_23 (fv_I rfl) ?_
      refine gz_putI C 32 7 kn_X11 rfl kf_X11_106 (by decide) rfl rfl (tyX11_ok 7 (by decide)) rfl rfl dX11_night_26 (fun M26 => ?_)
      refine gz_aloadn C 0 rfl dX11_night_29 ?_
      refine gz_aloadn C 0 rfl dX11_night_30 ?_
      refine gz_get C 32 2 (.int (gI M26 32 2)) kn_X11 rfl kf_X11_86 (by decide) dX11_night_31 (fv_I rfl) ?_
      refine gz_putI C 32 8 kn_X11 rfl kf_X11_109 (by decide) rfl rfl (tyX11_ok 8 (by decide)) rfl rfl dX11_night_34 (fun M34 => ?_)
      refine gz_aloadn C 0 rfl dX11_night_37 ?_
      refine gz_aloadn C 0 rfl dX11_night_38 ?_
      refine gz_get C 32 3 (.int (gI M34 32 3)) kn_X11 rfl kf_X11_89 (by decide) dX11_night_39 (fv_I rfl) ?_
      refine gz_putI C 32 9 kn_X11 rfl kf_X11_112 (by decide) rfl rfl (tyX11_ok 9 (by decide)) rfl rfl dX11_night_42 (fun M42 => ?_)
      refine gz_iconst (v := 0) C dX11_night_45 (by decide) ?_
      refine gz_istoren C [(1, .int (0 : Int32)), (0, .ref (w.1 32))] dX11_night_46 (by decide) rfl ?_
      refine gz_jn (fun K70 => ∀ (M_70 : Mm), G x w 2 (qI w) (K70 M_70) M_70 [(0, .ref (w.1 32))] 70 []) ?_ ?_
      · intro M_70
        refine gz_iconst (v := 0) C dX11_night_70 (by decide) ?_
        refine gz_istoren C [(1, .int (0 : Int32)), (0, .ref (w.1 32))] dX11_night_71 (by decide) rfl ?_
        refine gz_jn (fun K108 => ∀ (M_108 : Mm), G x w 2 (qI w) (K108 M_108) M_108 [(0, .ref (w.1 32))] 108 []) ?_ ?_
        · intro M_108
          refine gz_aloadn C 0 rfl dX11_night_108 ?_
          refine gz_iconst (v := 0) C dX11_night_109 (by decide) ?_
          refine gz_putI C 32 10 kn_X11 rfl kf_X11_115 (by decide) rfl rfl (tyX11_ok 10 (by decide)) rfl rfl dX11_night_110 (fun M110 => ?_)
          refine gz_aloadn C 0 rfl dX11_night_113 ?_
          refine gz_iconst (v := 0) C dX11_night_114 (by decide) ?_
          refine gz_putI C 32 11 kn_X11 rfl kf_X11_118 (by decide) rfl rfl (tyX11_ok 11 (by decide)) rfl rfl dX11_night_115 (fun M115 => ?_)
          refine gz_aloadn C 0 rfl dX11_night_118 ?_
          refine gz_iconst (v := 0) C dX11_night_119 (by decide) ?_
          refine gz_putI C 32 12 kn_X11 rfl kf_X11_121 (by decide) rfl rfl (tyX11_ok 12 (by decide)) rfl rfl dX11_night_120 (fun M120 => ?_)
          refine gz_aloadn C 0 rfl dX11_night_123 ?_
          refine gz_bipush (v := (60)) C dX11_night_124 (by decide) ?_
          refine gz_putI C 32 13 kn_X11 rfl kf_X11_72 (by decide) rfl rfl (tyX11_ok 13 (by decide)) rfl rfl dX11_night_126 (fun M126 => ?_)
          refine gz_aloadn C 0 rfl dX11_night_129 ?_
          refine gz_iconst (v := 0) C dX11_night_130 (by decide) ?_
          refine gz_putI C 32 17 kn_X11 rfl kf_X11_124 (by decide) rfl rfl (tyX11_ok 17 (by decide)) rfl rfl dX11_night_131 (fun M131 => ?_)
          refine gz_aloadn C 0 rfl dX11_night_134 ?_
          refine gz_iconst (v := 0) C dX11_night_135 (by decide) ?_
          refine gz_putI C 32 22 kn_X11 rfl kf_X11_127 (by decide) rfl rfl (tyX11_ok 22 (by decide)) rfl rfl dX11_night_136 (fun M136 => ?_)
          refine gz_aloadn C 0 rfl dX11_night_139 ?_
          refine gz_iconst (v := 0) C dX11_night_140 (by decide) ?_
          refine gz_putI C 32 29 kn_X11 rfl kf_X11_130 (by decide) rfl rfl (tyX11_ok 29 (by decide)) rfl rfl dX11_night_141 (fun M141 => ?_)
          refine gz_aloadn C 0 rfl dX11_night_144 ?_
          refine gz_iconst (v := 0) C dX11_night_145 (by decide) ?_
          refine gz_putI C 32 32 kn_X11 rfl kf_X11_133 (by decide) rfl rfl (tyX11_ok 32 (by decide)) rfl rfl dX11_night_146 (fun M146 => ?_)
          refine gz_aloadn C 0 rfl dX11_night_149 ?_
          refine gz_dup C dX11_night_150 rfl ?_
          refine gz_get C 32 14 (.int (gI M146 32 14)) kn_X11 rfl kf_X11_136 (by decide) dX11_night_151 (fv_I rfl) ?_
          refine gz_iconst (v := 1) C dX11_night_154 (by decide) ?_
          refine gz_iadd C dX11_night_155 ?_
          refine gz_putI C 32 14 kn_X11 rfl kf_X11_136 (by decide) rfl rfl (tyX11_ok 14 (by decide)) rfl rfl dX11_night_156 (fun M156 => ?_)
          refine gz_aloadn C 0 rfl dX11_night_159 ?_
          refine gz_iconst (v := 0) C dX11_night_160 (by decide) ?_
          refine gz_putI C 32 1 kn_X11 rfl kf_X11_81 (by decide) rfl rfl (tyX11_ok 1 (by decide)) rfl rfl dX11_night_161 (fun M161 => ?_)
          refine gz_aloadn C 0 rfl dX11_night_164 ?_
          refine gz_get C 32 7 (.int (gI M161 32 7)) kn_X11 rfl kf_X11_106 (by decide) dX11_night_165 (fv_I rfl) ?_
          exact gz_iret C dX11_night_168
        · intro K108 hK108
          have hL72 : ∀ (n72 : Nat) (v1_72 : Int32) (M_72 : Mm), G x w 2 (qI w) (sp_X11_night_L72 K108 n72 v1_72 M_72) M_72 [(0, .ref (w.1 32)), (1, .int v1_72)] 72 [] := by
            intro n72
            induction n72 with
            | zero => intros; exact gz_none
            | succ n72 ih72 =>
              intro v1_72 M_72
              rw [sp_X11_night_L72]
              refine gz_iloadn C 1 rfl dX11_night_72 ?_
              refine gz_bipush (v := (10)) C dX11_night_73 (by decide) ?_
              refine gz_icmpge C 108 dX11_night_75 (by decide) ?_ ?_
              · refine gz_aloadn C 0 rfl dX11_night_78 ?_
                refine gz_get C 32 16 (.ref (w.1 37)) kn_X11 rfl kf_X11_22 (by decide) dX11_night_79 (fv_R rfl rfl) ?_
                refine gz_iloadn C 1 rfl dX11_night_82 ?_
                refine gz_iloadn C 1 rfl dX11_night_83 ?_
                refine gz_aloadn C 0 rfl dX11_night_84 ?_
                refine gz_get C 32 7 (.int (gI M_72 32 7)) kn_X11 rfl kf_X11_106 (by decide) dX11_night_85 (fv_I rfl) ?_
                refine gz_icmpge C 100 dX11_night_88 (by decide) ?_ ?_
                · refine gz_aloadn C 0 rfl dX11_night_91 ?_
                  refine gz_get C 32 5 (.ref (w.1 35)) kn_X11 rfl kf_X11_16 (by decide) dX11_night_92 (fv_R rfl rfl) ?_
                  refine gz_iloadn C 1 rfl dX11_night_95 ?_
                  refine gz_iald C rfl dX11_night_96 (fun a96 => ?_)
                  refine gz_goto C 101 dX11_night_97 (by decide) ?_
                  refine gz_iast C rfl dX11_night_101 (fun M101 => ?_)
                  refine gz_iinc (v' := v1_72 + 1) C 1 [(1, .int (v1_72 + 1)), (0, .ref (w.1 32))] rfl dX11_night_102 rfl (by decide) rfl ?_
                  refine gz_goto C 72 dX11_night_105 (by decide) ?_
                  refine gz_sub [1, 0] rfl ?_
                  exact ih72 _ _
                · refine gz_iconst (v := (-1)) C dX11_night_100 (by decide) ?_
                  refine gz_iast C rfl dX11_night_101 (fun M101 => ?_)
                  refine gz_iinc (v' := v1_72 + 1) C 1 [(1, .int (v1_72 + 1)), (0, .ref (w.1 32))] rfl dX11_night_102 rfl (by decide) rfl ?_
                  refine gz_goto C 72 dX11_night_105 (by decide) ?_
                  refine gz_sub [1, 0] rfl ?_
                  exact ih72 _ _
              · refine gz_sub [0] rfl ?_
                exact hK108 _
          refine gz_sub [1, 0] rfl ?_
          exact hL72 fu _ _
      · intro K70 hK70
        have hL47 : ∀ (n47 : Nat) (v1_47 : Int32) (M_47 : Mm), G x w 2 (qI w) (sp_X11_night_L47 K70 n47 v1_47 M_47) M_47 [(0, .ref (w.1 32)), (1, .int v1_47)] 47 [] := by
          intro n47
          induction n47 with
          | zero => intros; exact gz_none
          | succ n47 ih47 =>
            intro v1_47 M_47
            rw [sp_X11_night_L47]
            refine gz_iloadn C 1 rfl dX11_night_47 ?_
            refine gz_iconst (v := 3) C dX11_night_48 (by decide) ?_
            refine gz_icmpge C 70 dX11_night_49 (by decide) ?_ ?_
            · refine gz_aloadn C 0 rfl dX11_night_52 ?_
              refine gz_get C 32 15 (.ref (w.1 36)) kn_X11 rfl kf_X11_19 (by decide) dX11_night_53 (fv_R rfl rfl) ?_
              refine gz_iloadn C 1 rfl dX11_night_56 ?_
              refine gz_aloadn C 0 rfl dX11_night_57 ?_
              refine gz_get C 32 4 (.ref (w.1 34)) kn_X11 rfl kf_X11_13 (by decide) dX11_night_58 (fv_R rfl rfl) ?_
              refine gz_iloadn C 1 rfl dX11_night_61 ?_
              refine gz_iald C rfl dX11_night_62 (fun a62 => ?_)
              refine gz_iast C rfl dX11_night_63 (fun M63 => ?_)
              refine gz_iinc (v' := v1_47 + 1) C 1 [(1, .int (v1_47 + 1)), (0, .ref (w.1 32))] rfl dX11_night_64 rfl (by decide) rfl ?_
              refine gz_goto C 47 dX11_night_67 (by decide) ?_
              refine gz_sub [1, 0] rfl ?_
              exact ih47 _ _
            · refine gz_sub [0] rfl ?_
              exact hK70 _
        refine gz_sub [1, 0] rfl ?_
        exact hL47 fu _ _
