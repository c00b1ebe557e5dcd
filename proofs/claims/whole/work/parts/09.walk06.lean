set_option maxRecDepth 100000 in
set_option maxHeartbeats 4000000 in
theorem ct_X11_lacks (l : Launch) (w : Wd) (M : Mm) : CT l yX11_lacks cX11_lacks 1 (some .boolean) rm_X11_lacks w (qI w) [.ref (w.1 32)] (sp_X11_lacks M) M := by
  refine ct_of RX11 [(0, .ref (w.1 32))] rfl (Nat.le_of_ble_eq_true rfl) (by decide) rfl rfl rfl (fun x C => ?_)
  unfold sp_X11_lacks
  refine gz_aloadn C 0 rfl dX11_lacks_0 ?_
  refine gz_get C 32 7 (.int (gI M 32 7)) kn_X11 rfl kf_X11_106 (by decide) dX11_lacks_1 (fv_I rfl) ?_
  refine gz_ifne C 11 dX11_lacks_4 (by decide) ?_ ?_
  · refine gz_iconst (v := 1) C dX11_lacks_7 (by decide) ?_
    refine gz_goto C 12 dX11_lacks_8 (by decide) ?_
    exact gz_zret C (Or.inr rfl) dX11_lacks_12
  · refine gz_iconst (v := 0) C dX11_lacks_11 (by decide) ?_
    exact gz_zret C (Or.inl rfl) dX11_lacks_12
set_option maxRecDepth 100000 in
set_option maxHeartbeats 4000000 in
theorem ct_X11_tellSea (l : Launch) (w : Wd) (p1 : Int32) (M : Mm) : CT l yX11_tellSea cX11_tellSea 2 (some .int) rm_X11_tellSea w (qI w) [.ref (w.1 32), .int p1] (sp_X11_tellSea p1 M) M := by
  refine ct_of RX11 [(0, .ref (w.1 32)), (1, .int p1)] rfl (Nat.le_of_ble_eq_true rfl) (by decide) rfl rfl rfl (fun x C => ?_)
  unfold sp_X11_tellSea
  refine gz_iloadn C 1 rfl dX11_tellSea_0 ?_
  refine gz_ifne C 11 dX11_tellSea_1 (by decide) ?_ ?_
  · refine gz_aloadn C 0 rfl dX11_tellSea_4 ?_
    refine gz_get C 32 8 (.int (gI M 32 8)) kn_X11 rfl kf_X11_109 (by decide) dX11_tellSea_5 (fv_I rfl) ?_
    refine gz_goto C 48 dX11_tellSea_8 (by decide) ?_
    exact gz_iret C dX11_tellSea_48
  · refine gz_iloadn C 1 rfl dX11_tellSea_11 ?_
    refine gz_iconst (v := 1) C dX11_tellSea_12 (by decide) ?_
    refine gz_icmpne C 23 dX11_tellSea_13 (by decide) ?_ ?_
    · refine gz_aloadn C 0 rfl dX11_tellSea_16 ?_
      refine gz_get C 32 9 (.int (gI M 32 9)) kn_X11 rfl kf_X11_112 (by decide) dX11_tellSea_17 (fv_I rfl) ?_
      refine gz_goto C 48 dX11_tellSea_20 (by decide) ?_
      exact gz_iret C dX11_tellSea_48
    · refine gz_iloadn C 1 rfl dX11_tellSea_23 ?_
      refine gz_iconst (v := 5) C dX11_tellSea_24 (by decide) ?_
      refine gz_icmpge C 39 dX11_tellSea_25 (by decide) ?_ ?_
      · refine gz_aloadn C 0 rfl dX11_tellSea_28 ?_
        refine gz_get C 32 15 (.ref (w.1 36)) kn_X11 rfl kf_X11_19 (by decide) dX11_tellSea_29 (fv_R rfl rfl) ?_
        refine gz_iloadn C 1 rfl dX11_tellSea_32 ?_
        refine gz_iconst (v := 2) C dX11_tellSea_33 (by decide) ?_
        refine gz_isub C dX11_tellSea_34 ?_
        refine gz_iald C rfl dX11_tellSea_35 (fun a35 => ?_)
        refine gz_goto C 48 dX11_tellSea_36 (by decide) ?_
        exact gz_iret C dX11_tellSea_48
      · refine gz_aloadn C 0 rfl dX11_tellSea_39 ?_
        refine gz_get C 32 16 (.ref (w.1 37)) kn_X11 rfl kf_X11_22 (by decide) dX11_tellSea_40 (fv_R rfl rfl) ?_
        refine gz_iloadn C 1 rfl dX11_tellSea_43 ?_
        refine gz_bipush (v := (10)) C dX11_tellSea_44 (by decide) ?_
        refine gz_isub C dX11_tellSea_46 ?_
        refine gz_iald C rfl dX11_tellSea_47 (fun a47 => ?_)
        exact gz_iret C dX11_tellSea_48
set_option maxRecDepth 100000 in
set_option maxHeartbeats 4000000 in
theorem ct_X11_sea (l : Launch) (w : Wd) (p1 : Int32) (M : Mm) : CT l yX11_sea cX11_sea 2 (some .int) rm_X11_sea w (qI w) [.ref (w.1 32), .int p1] (sp_X11_sea p1 M) M := by
  refine ct_of RX11 [(0, .ref (w.1 32)), (1, .int p1)] rfl (Nat.le_of_ble_eq_true rfl) (by decide) rfl rfl rfl (fun x C => ?_)
  unfold sp_X11_sea
  refine gz_iloadn C 1 rfl dX11_sea_0 ?_
  refine gz_i2l C dX11_sea_1 ?_
  refine gz_lconst (v := 0) C dX11_sea_2 (by decide) ?_
  refine gz_ldc2 C kl_X11_139 dX11_sea_3 ?_
  refine gz_callSI [.long (p1.toInt64), .long (0 : Int64), .long (4 : Int64)] [] C (ct_X11_in x.2.1 w (p1.toInt64) (0 : Int64) (4 : Int64) M) cal_X11_in (Or.inl km_X11_77) ⟨rfl, rfl⟩ ⟨by decide, by decide⟩ rfl rfl (Nat.le_of_ble_eq_true rfl) dX11_sea_6 (fun r6 M6 => ?_)
  refine gz_jn (fun K29 => ∀ (M_29 : Mm), G x w 2 (qI w) (K29 M_29) M_29 [(0, .ref (w.1 32)), (1, .int p1)] 29 []) ?_ ?_
  · intro M_29
    refine gz_aloadn C 0 rfl dX11_sea_29 ?_
    refine gz_callVI 32 [] [] C kn_X11 rfl rfl (ct_X11_lacks x.2.1 w M_29) cal_X11_lacks km_X11_145 ⟨rfl, rfl⟩ ⟨by decide, by decide⟩ rfl rfl (Nat.le_of_ble_eq_true rfl) dX11_sea_30 (fun r30 M30 => ?_)
    refine gz_ifeq C 41 dX11_sea_33 (by decide) ?_ ?_
    · refine gz_aloadn C 0 rfl dX11_sea_41 ?_
      refine gz_iloadn C 1 rfl dX11_sea_42 ?_
      refine gz_callVI 32 [.int p1] [] C kn_X11 rfl rfl (ct_X11_tellSea x.2.1 w p1 M30) cal_X11_tellSea km_X11_149 ⟨rfl, rfl⟩ ⟨by decide, by decide⟩ rfl rfl (Nat.le_of_ble_eq_true rfl) dX11_sea_43 (fun r43 M43 => ?_)
      exact gz_iret C dX11_sea_46
    · refine gz_bipush (v := (-103)) C dX11_sea_36 (by decide) ?_
      refine gz_goto C 46 dX11_sea_38 (by decide) ?_
      exact gz_iret C dX11_sea_46
  · intro K29 hK29
    refine gz_ifne C 29 dX11_sea_9 (by decide) ?_ ?_
    · refine gz_iloadn C 1 rfl dX11_sea_12 ?_
      refine gz_i2l C dX11_sea_13 ?_
      refine gz_ldc2 C kl_X11_141 dX11_sea_14 ?_
      refine gz_ldc2 C kl_X11_143 dX11_sea_17 ?_
      refine gz_callSI [.long (p1.toInt64), .long (10 : Int64), .long (19 : Int64)] [] C (ct_X11_in x.2.1 w (p1.toInt64) (10 : Int64) (19 : Int64) M6) cal_X11_in (Or.inl km_X11_77) ⟨rfl, rfl⟩ ⟨by decide, by decide⟩ rfl rfl (Nat.le_of_ble_eq_true rfl) dX11_sea_20 (fun r20 M20 => ?_)
      refine gz_ifne C 29 dX11_sea_23 (by decide) ?_ ?_
      · refine gz_bipush (v := (-102)) C dX11_sea_26 (by decide) ?_
        exact gz_iret C dX11_sea_28
      · exact hK29 _
    · exact hK29 _
set_option maxRecDepth 100000 in
set_option maxHeartbeats 4000000 in
theorem ct_X11_rocket (l : Launch) (w : Wd) (p1 : Int32) (p2 : Int32) (M : Mm) : CT l yX11_rocket cX11_rocket 3 (some .int) rm_X11_rocket w (qI w) [.ref (w.1 32), .int p1, .int p2] (sp_X11_rocket p1 p2 M) M := by
  refine ct_of RX11 [(0, .ref (w.1 32)), (1, .int p1), (2, .int p2)] rfl (Nat.le_of_ble_eq_true rfl) (by decide) rfl rfl rfl (fun x C => ?_)
  unfold sp_X11_rocket
  refine gz_iloadn C 1 rfl dX11_rocket_0 ?_
  refine gz_i2l C dX11_rocket_1 ?_
  refine gz_ldc2 C kl_X11_141 dX11_rocket_2 ?_
  refine gz_ldc2 C kl_X11_153 dX11_rocket_5 ?_
  refine gz_callSI [.long (p1.toInt64), .long (10 : Int64), .long (120 : Int64)] [] C (ct_X11_in x.2.1 w (p1.toInt64) (10 : Int64) (120 : Int64) M) cal_X11_in (Or.inl km_X11_77) ⟨rfl, rfl⟩ ⟨by decide, by decide⟩ rfl rfl (Nat.le_of_ble_eq_true rfl) dX11_rocket_8 (fun r8 M8 => ?_)
  refine gz_ifeq C 26 dX11_rocket_11 (by decide) ?_ ?_
  · refine gz_bipush (v := (-102)) C dX11_rocket_26 (by decide) ?_
    exact gz_iret C dX11_rocket_28
  · refine gz_iloadn C 2 rfl dX11_rocket_14 ?_
    refine gz_i2l C dX11_rocket_15 ?_
    refine gz_lconst (v := 0) C dX11_rocket_16 (by decide) ?_
    refine gz_ldc2 C kl_X11_84 dX11_rocket_17 ?_
    refine gz_callSI [.long (p2.toInt64), .long (0 : Int64), .long (9 : Int64)] [] C (ct_X11_in x.2.1 w (p2.toInt64) (0 : Int64) (9 : Int64) M8) cal_X11_in (Or.inl km_X11_77) ⟨rfl, rfl⟩ ⟨by decide, by decide⟩ rfl rfl (Nat.le_of_ble_eq_true rfl) dX11_rocket_20 (fun r20 M20 => ?_)
    refine gz_ifne C 29 dX11_rocket_23 (by decide) ?_ ?_
    · refine gz_bipush (v := (-102)) C dX11_rocket_26 (by decide) ?_
      exact gz_iret C dX11_rocket_28
    · refine gz_aloadn C 0 rfl dX11_rocket_29 ?_
      refine gz_callVI 32 [] [] C kn_X11 rfl rfl (ct_X11_lacks x.2.1 w M20) cal_X11_lacks km_X11_145 ⟨rfl, rfl⟩ ⟨by decide, by decide⟩ rfl rfl (Nat.le_of_ble_eq_true rfl) dX11_rocket_30 (fun r30 M30 => ?_)
      refine gz_ifeq C 39 dX11_rocket_33 (by decide) ?_ ?_
      · refine gz_aloadn C 0 rfl dX11_rocket_39 ?_
        refine gz_get C 32 17 (.int (gI M30 32 17)) kn_X11 rfl kf_X11_124 (by decide) dX11_rocket_40 (fv_I rfl) ?_
        refine gz_bipush (v := (6)) C dX11_rocket_43 (by decide) ?_
        refine gz_icmpne C 51 dX11_rocket_45 (by decide) ?_ ?_
        · refine gz_bipush (v := (-104)) C dX11_rocket_48 (by decide) ?_
          exact gz_iret C dX11_rocket_50
        · refine gz_aloadn C 0 rfl dX11_rocket_51 ?_
          refine gz_get C 32 18 (.ref (w.1 38)) kn_X11 rfl kf_X11_25 (by decide) dX11_rocket_52 (fv_R rfl rfl) ?_
          refine gz_iconst (v := 3) C dX11_rocket_55 (by decide) ?_
          refine gz_aloadn C 0 rfl dX11_rocket_56 ?_
          refine gz_get C 32 17 (.int (gI M30 32 17)) kn_X11 rfl kf_X11_124 (by decide) dX11_rocket_57 (fv_I rfl) ?_
          refine gz_imul C dX11_rocket_60 ?_
          refine gz_iloadn C 1 rfl dX11_rocket_61 ?_
          refine gz_iast C rfl dX11_rocket_62 (fun M62 => ?_)
          refine gz_aloadn C 0 rfl dX11_rocket_63 ?_
          refine gz_get C 32 18 (.ref (w.1 38)) kn_X11 rfl kf_X11_25 (by decide) dX11_rocket_64 (fv_R rfl rfl) ?_
          refine gz_iconst (v := 3) C dX11_rocket_67 (by decide) ?_
          refine gz_aloadn C 0 rfl dX11_rocket_68 ?_
          refine gz_get C 32 17 (.int (gI M62 32 17)) kn_X11 rfl kf_X11_124 (by decide) dX11_rocket_69 (fv_I rfl) ?_
          refine gz_imul C dX11_rocket_72 ?_
          refine gz_iconst (v := 1) C dX11_rocket_73 (by decide) ?_
          refine gz_iadd C dX11_rocket_74 ?_
          refine gz_iloadn C 2 rfl dX11_rocket_75 ?_
          refine gz_iast C rfl dX11_rocket_76 (fun M76 => ?_)
          refine gz_aloadn C 0 rfl dX11_rocket_77 ?_
          refine gz_get C 32 18 (.ref (w.1 38)) kn_X11 rfl kf_X11_25 (by decide) dX11_rocket_78 (fv_R rfl rfl) ?_
          refine gz_iconst (v := 3) C dX11_rocket_81 (by decide) ?_
          refine gz_aloadn C 0 rfl dX11_rocket_82 ?_
          refine gz_get C 32 17 (.int (gI M76 32 17)) kn_X11 rfl kf_X11_124 (by decide) dX11_rocket_83 (fv_I rfl) ?_
          refine gz_imul C dX11_rocket_86 ?_
          refine gz_iconst (v := 2) C dX11_rocket_87 (by decide) ?_
          refine gz_iadd C dX11_rocket_88 ?_
          refine gz_iconst (v := 0) C dX11_rocket_89 (by decide) ?_
          refine gz_iast C rfl dX11_rocket_90 (fun M90 => ?_)
          refine gz_aloadn C 0 rfl dX11_rocket_91 ?_
          refine gz_dup C dX11_rocket_92 rfl ?_
          refine gz_get C 32 17 (.int (gI M90 32 17)) kn_X11 rfl kf_X11_124 (by decide) dX11_rocket_93 (fv_I rfl) ?_
          refine gz_iconst (v := 1) C dX11_rocket_96 (by decide) ?_
          refine gz_iadd C dX11_rocket_97 ?_
          refine gz_putI C 32 17 kn_X11 rfl kf_X11_124 (by decide) rfl rfl (tyX11_ok 17 (by decide)) rfl rfl dX11_rocket_98 (fun M98 => ?_)
          refine gz_aloadn C 0 rfl dX11_rocket_101 ?_
          refine gz_get C 32 17 (.int (gI M98 32 17)) kn_X11 rfl kf_X11_124 (by decide) dX11_rocket_102 (fv_I rfl) ?_
          refine gz_iconst (v := 1) C dX11_rocket_105 (by decide) ?_
          refine gz_isub C dX11_rocket_106 ?_
          exact gz_iret C dX11_rocket_107
      · refine gz_bipush (v := (-103)) C dX11_rocket_36 (by decide) ?_
        exact gz_iret C dX11_rocket_38
set_option maxRecDepth 100000 in
set_option maxHeartbeats 4000000 in
theorem ct_X11_isRocket (l : Launch) (w : Wd) (p1 : Int32) (M : Mm) : CT l yX11_isRocket cX11_isRocket 2 (some .boolean) rm_X11_isRocket w (qI w) [.ref (w.1 32), .int p1] (sp_X11_isRocket p1 M) M := by
  refine ct_of RX11 [(0, .ref (w.1 32)), (1, .int p1)] rfl (Nat.le_of_ble_eq_true rfl) (by decide) rfl rfl rfl (fun x C => ?_)
  unfold sp_X11_isRocket
  refine gz_iloadn C 1 rfl dX11_isRocket_0 ?_
  refine gz_i2l C dX11_isRocket_1 ?_
  refine gz_lconst (v := 0) C dX11_isRocket_2 (by decide) ?_
  refine gz_aloadn C 0 rfl dX11_isRocket_3 ?_
  refine gz_get C 32 17 (.int (gI M 32 17)) kn_X11 rfl kf_X11_124 (by decide) dX11_isRocket_4 (fv_I rfl) ?_
  refine gz_iconst (v := 1) C dX11_isRocket_7 (by decide) ?_
  refine gz_isub C dX11_isRocket_8 ?_
  refine gz_i2l C dX11_isRocket_9 ?_
  refine gz_callSI [.long (p1.toInt64), .long (0 : Int64), .long (((gI M 32 17) - (1 : Int32)).toInt64)] [] C (ct_X11_in x.2.1 w (p1.toInt64) (0 : Int64) (((gI M 32 17) - (1 : Int32)).toInt64) M) cal_X11_in (Or.inl km_X11_77) ⟨rfl, rfl⟩ ⟨by decide, by decide⟩ rfl rfl (Nat.le_of_ble_eq_true rfl) dX11_isRocket_10 (fun r10 M10 => ?_)
  refine gz_zb (fun hb13 => ?_)
  exact gz_zret C hb13 dX11_isRocket_13
set_option maxRecDepth 100000 in
set_option maxHeartbeats 4000000 in
theorem ct_X11_stageNow (l : Launch) (w : Wd) (M : Mm) : CT l yX11_stageNow cX11_stageNow 1 (some .int) rm_X11_stageNow w (qI w) [.ref (w.1 32)] (sp_X11_stageNow M) M := by
  refine ct_of RX11 [(0, .ref (w.1 32))] rfl (Nat.le_of_ble_eq_true rfl) (by decide) rfl rfl rfl (fun x C => ?_)
  unfold sp_X11_stageNow
  refine gz_aloadn C 0 rfl dX11_stageNow_0 ?_
  refine gz_get C 32 10 (.int (gI M 32 10)) kn_X11 rfl kf_X11_115 (by decide) dX11_stageNow_1 (fv_I rfl) ?_
  refine gz_iconst (v := 5) C dX11_stageNow_4 (by decide) ?_
  refine gz_idivc C (by decide) dX11_stageNow_5 ?_
  exact gz_iret C dX11_stageNow_6
set_option maxRecDepth 100000 in
set_option maxHeartbeats 4000000 in
theorem ct_X11_fallsAt (l : Launch) (w : Wd) (p1 : Int32) (p2 : Int32) (p3 : Int32) (M : Mm) : CT l yX11_fallsAt cX11_fallsAt 4 (some .int) rm_X11_fallsAt w (qI w) [.ref (w.1 32), .int p1, .int p2, .int p3] (sp_X11_fallsAt p1 p2 p3 M) M := by
  refine ct_of RX11 [(0, .ref (w.1 32)), (1, .int p1), (2, .int p2), (3, .int p3)] rfl (Nat.le_of_ble_eq_true rfl) (by decide) rfl rfl rfl (fun x C => ?_)
  unfold sp_X11_fallsAt
  refine gz_aloadn C 0 rfl dX11_fallsAt_0 ?_
  refine gz_get C 32 18 (.ref (w.1 38)) kn_X11 rfl kf_X11_25 (by decide) dX11_fallsAt_1 (fv_R rfl rfl) ?_
  refine gz_iconst (v := 3) C dX11_fallsAt_4 (by decide) ?_
  refine gz_iloadn C 1 rfl dX11_fallsAt_5 ?_
  refine gz_imul C dX11_fallsAt_6 ?_
  refine gz_iald C rfl dX11_fallsAt_7 (fun a7 => ?_)
  refine gz_aloadn C 0 rfl dX11_fallsAt_8 ?_
  refine gz_get C 32 18 (.ref (w.1 38)) kn_X11 rfl kf_X11_25 (by decide) dX11_fallsAt_9 (fv_R rfl rfl) ?_
  refine gz_iconst (v := 3) C dX11_fallsAt_12 (by decide) ?_
  refine gz_iloadn C 1 rfl dX11_fallsAt_13 ?_
  refine gz_imul C dX11_fallsAt_14 ?_
  refine gz_iconst (v := 1) C dX11_fallsAt_15 (by decide) ?_
  refine gz_iadd C dX11_fallsAt_16 ?_
  refine gz_iald C rfl dX11_fallsAt_17 (fun a17 => ?_)
  refine gz_iloadn C 2 rfl dX11_fallsAt_18 ?_
  refine gz_imul C dX11_fallsAt_19 ?_
  refine gz_isub C dX11_fallsAt_20 ?_
  refine gz_iloadn C 3 rfl dX11_fallsAt_21 ?_
  refine gz_aloadn C 0 rfl dX11_fallsAt_22 ?_
  refine gz_get C 32 9 (.int (gI M 32 9)) kn_X11 rfl kf_X11_112 (by decide) dX11_fallsAt_23 (fv_I rfl) ?_
  refine gz_imul C dX11_fallsAt_26 ?_
  refine gz_iadd C dX11_fallsAt_27 ?_
  exact gz_iret C dX11_fallsAt_28
set_option maxRecDepth 100000 in
set_option maxHeartbeats 4000000 in
theorem ct_X11_isRight (l : Launch) (w : Wd) (p1 : Int32) (M : Mm) : CT l yX11_isRight cX11_isRight 2 (some .boolean) rm_X11_isRight w (qI w) [.ref (w.1 32), .int p1] (sp_X11_isRight p1 M) M := by
  refine ct_of RX11 [(0, .ref (w.1 32)), (1, .int p1)] rfl (Nat.le_of_ble_eq_true rfl) (by decide) rfl rfl rfl (fun x C => ?_)
  unfold sp_X11_isRight
  refine gz_iloadn C 1 rfl dX11_isRight_0 ?_
  refine gz_i2l C dX11_isRight_1 ?_
  refine gz_aloadn C 0 rfl dX11_isRight_2 ?_
  refine gz_get C 32 8 (.int (gI M 32 8)) kn_X11 rfl kf_X11_109 (by decide) dX11_isRight_3 (fv_I rfl) ?_
  refine gz_i2l C dX11_isRight_6 ?_
  refine gz_aloadn C 0 rfl dX11_isRight_7 ?_
  refine gz_get C 32 8 (.int (gI M 32 8)) kn_X11 rfl kf_X11_109 (by decide) dX11_isRight_8 (fv_I rfl) ?_
  refine gz_iconst (v := 5) C dX11_isRight_11 (by decide) ?_
  refine gz_iadd C dX11_isRight_12 ?_
  refine gz_i2l C dX11_isRight_13 ?_
  refine gz_callSI [.long (p1.toInt64), .long ((gI M 32 8).toInt64), .long (((gI M 32 8) + (5 : Int32)).toInt64)] [] C (ct_X11_in x.2.1 w (p1.toInt64) ((gI M 32 8).toInt64) (((gI M 32 8) + (5 : Int32)).toInt64) M) cal_X11_in (Or.inl km_X11_77) ⟨rfl, rfl⟩ ⟨by decide, by decide⟩ rfl rfl (Nat.le_of_ble_eq_true rfl) dX11_isRight_14 (fun r14 M14 => ?_)
  refine gz_zb (fun hb17 => ?_)
  exact gz_zret C hb17 dX11_isRight_17
set_option maxRecDepth 100000 in
set_option maxHeartbeats 4000000 in
theorem ct_X11_fire (l : Launch) (w : Wd) (p1 : Int32) (p2 : Int32) (M : Mm) : CT l yX11_fire cX11_fire 4 (some .int) rm_X11_fire w (qI w) [.ref (w.1 32), .int p1, .int p2] (sp_X11_fire p1 p2 M) M := by
  refine ct_of RX11 [(0, .ref (w.1 32)), (1, .int p1), (2, .int p2)] rfl (Nat.le_of_ble_eq_true rfl) (by decide) rfl rfl rfl (fun x C => ?_)
  unfold sp_X11_fire
  refine gz_aloadn C 0 rfl dX11_fire_0 ?_
  refine gz_iloadn C 1 rfl dX11_fire_1 ?_
  refine gz_callVI 32 [.int p1] [] C kn_X11 rfl rfl (ct_X11_isRocket x.2.1 w p1 M) cal_X11_isRocket km_X11_155 ⟨rfl, rfl⟩ ⟨by decide, by decide⟩ rfl rfl (Nat.le_of_ble_eq_true rfl) dX11_fire_2 (fun r2 M2 => ?_)
  refine gz_ifne C 11 dX11_fire_5 (by decide) ?_ ?_
  · refine gz_bipush (v := (-101)) C dX11_fire_8 (by decide) ?_
    exact gz_iret C dX11_fire_10
  · refine gz_iloadn C 2 rfl dX11_fire_11 ?_
    refine gz_i2l C dX11_fire_12 ?_
    refine gz_ldc2 C kl_X11_159 dX11_fire_13 ?_
    refine gz_lconst (v := 1) C dX11_fire_16 (by decide) ?_
    refine gz_callSI [.long (p2.toInt64), .long (-1 : Int64), .long (1 : Int64)] [] C (ct_X11_in x.2.1 w (p2.toInt64) (-1 : Int64) (1 : Int64) M2) cal_X11_in (Or.inl km_X11_77) ⟨rfl, rfl⟩ ⟨by decide, by decide⟩ rfl rfl (Nat.le_of_ble_eq_true rfl) dX11_fire_17 (fun r17 M17 => ?_)
    refine gz_ifne C 26 dX11_fire_20 (by decide) ?_ ?_
    · refine gz_bipush (v := (-102)) C dX11_fire_23 (by decide) ?_
      exact gz_iret C dX11_fire_25
    · refine gz_aloadn C 0 rfl dX11_fire_26 ?_
      refine gz_get C 32 18 (.ref (w.1 38)) kn_X11 rfl kf_X11_25 (by decide) dX11_fire_27 (fv_R rfl rfl) ?_
      refine gz_iconst (v := 3) C dX11_fire_30 (by decide) ?_
      refine gz_iloadn C 1 rfl dX11_fire_31 ?_
      refine gz_imul C dX11_fire_32 ?_
      refine gz_iconst (v := 2) C dX11_fire_33 (by decide) ?_
      refine gz_iadd C dX11_fire_34 ?_
      refine gz_iald C rfl dX11_fire_35 (fun a35 => ?_)
      refine gz_iconst (v := 1) C dX11_fire_36 (by decide) ?_
      refine gz_icmpeq C 59 dX11_fire_37 (by decide) ?_ ?_
      · refine gz_bipush (v := (-103)) C dX11_fire_59 (by decide) ?_
        exact gz_iret C dX11_fire_61
      · refine gz_aloadn C 0 rfl dX11_fire_40 ?_
        refine gz_get C 32 12 (.int (gI M17 32 12)) kn_X11 rfl kf_X11_121 (by decide) dX11_fire_41 (fv_I rfl) ?_
        refine gz_iconst (v := 1) C dX11_fire_44 (by decide) ?_
        refine gz_icmpeq C 59 dX11_fire_45 (by decide) ?_ ?_
        · refine gz_bipush (v := (-103)) C dX11_fire_59 (by decide) ?_
          exact gz_iret C dX11_fire_61
        · refine gz_aloadn C 0 rfl dX11_fire_48 ?_
          refine gz_callVI 32 [] [] C kn_X11 rfl rfl (ct_X11_stageNow x.2.1 w M17) cal_X11_stageNow km_X11_161 ⟨rfl, rfl⟩ ⟨by decide, by decide⟩ rfl rfl (Nat.le_of_ble_eq_true rfl) dX11_fire_49 (fun r49 M49 => ?_)
          refine gz_aloadn C 0 rfl dX11_fire_52 ?_
          refine gz_get C 32 7 (.int (gI M49 32 7)) kn_X11 rfl kf_X11_106 (by decide) dX11_fire_53 (fv_I rfl) ?_
          refine gz_icmplt C 62 dX11_fire_56 (by decide) ?_ ?_
          · refine gz_aloadn C 0 rfl dX11_fire_62 ?_
            refine gz_get C 32 18 (.ref (w.1 38)) kn_X11 rfl kf_X11_25 (by decide) dX11_fire_63 (fv_R rfl rfl) ?_
            refine gz_iconst (v := 3) C dX11_fire_66 (by decide) ?_
            refine gz_iloadn C 1 rfl dX11_fire_67 ?_
            refine gz_imul C dX11_fire_68 ?_
            refine gz_iconst (v := 2) C dX11_fire_69 (by decide) ?_
            refine gz_iadd C dX11_fire_70 ?_
            refine gz_iconst (v := 1) C dX11_fire_71 (by decide) ?_
            refine gz_iast C rfl dX11_fire_72 (fun M72 => ?_)
            refine gz_aloadn C 0 rfl dX11_fire_73 ?_
            refine gz_iloadn C 1 rfl dX11_fire_74 ?_
            refine gz_aloadn C 0 rfl dX11_fire_75 ?_
            refine gz_callVI 32 [] [.int p1, .ref (w.1 32)] C kn_X11 rfl rfl (ct_X11_stageNow x.2.1 w M72) cal_X11_stageNow km_X11_161 ⟨rfl, rfl⟩ ⟨by decide, by decide⟩ rfl rfl (Nat.le_of_ble_eq_true rfl) dX11_fire_76 (fun r76 M76 => ?_)
            refine gz_iloadn C 2 rfl dX11_fire_79 ?_
            refine gz_callVI 32 [.int p1, .int r76, .int p2] [] C kn_X11 rfl rfl (ct_X11_fallsAt x.2.1 w p1 r76 p2 M76) cal_X11_fallsAt km_X11_164 ⟨rfl, rfl⟩ ⟨by decide, by decide⟩ rfl rfl (Nat.le_of_ble_eq_true rfl) dX11_fire_80 (fun r80 M80 => ?_)
            refine gz_istoren C [(3, .int r80), (0, .ref (w.1 32)), (1, .int p1), (2, .int p2)] dX11_fire_83 (by decide) rfl ?_
            refine gz_aloadn C 1 rfl dX11_fire_84 ?_
            refine gz_aloadn C 1 rfl dX11_fire_85 ?_
            refine gz_iloadn C 0 rfl dX11_fire_86 ?_
            refine gz_callVI 32 [.int r80] [.ref (w.1 32)] C kn_X11 rfl rfl (ct_X11_isRight x.2.1 w r80 M80) cal_X11_isRight km_X11_168 ⟨rfl, rfl⟩ ⟨by decide, by decide⟩ rfl rfl (Nat.le_of_ble_eq_true rfl) dX11_fire_87 (fun r87 M87 => ?_)
            refine gz_ifeq C 97 dX11_fire_90 (by decide) ?_ ?_
            · refine gz_aloadn C 1 rfl dX11_fire_97 ?_
              refine gz_get C 32 11 (.int (gI M87 32 11)) kn_X11 rfl kf_X11_118 (by decide) dX11_fire_98 (fv_I rfl) ?_
              refine gz_putI C 32 11 kn_X11 rfl kf_X11_118 (by decide) rfl rfl (tyX11_ok 11 (by decide)) rfl rfl dX11_fire_101 (fun M101 => ?_)
              refine gz_iloadn C 0 rfl dX11_fire_104 ?_
              exact gz_iret C dX11_fire_105
            · refine gz_iconst (v := 1) C dX11_fire_93 (by decide) ?_
              refine gz_goto C 101 dX11_fire_94 (by decide) ?_
              refine gz_putI C 32 11 kn_X11 rfl kf_X11_118 (by decide) rfl rfl (tyX11_ok 11 (by decide)) rfl rfl dX11_fire_101 (fun M101 => ?_)
              refine gz_iloadn C 0 rfl dX11_fire_104 ?_
              exact gz_iret C dX11_fire_105
          · refine gz_bipush (v := (-103)) C dX11_fire_59 (by decide) ?_
            exact gz_iret C dX11_fire_61
set_option maxRecDepth 100000 in
set_option maxHeartbeats 4000000 in
theorem ct_X11_hitTenths (l : Launch) (w : Wd) (p1 : Int32) (p2 : Int32) (M : Mm) : CT l yX11_hitTenths cX11_hitTenths 5 (some .int) rm_X11_hitTenths w (qI w) [.ref (w.1 32), .int p1, .int p2] (sp_X11_hitTenths p1 p2 M) M := by
  refine ct_of RX11 [(0, .ref (w.1 32)), (1, .int p1), (2, .int p2)] rfl (Nat.le_of_ble_eq_true rfl) (by decide) rfl rfl rfl (fun x C => ?_)
  unfold sp_X11_hitTenths
  refine gz_iconst (v := 0) C dX11_hitTenths_0 (by decide) ?_
  refine gz_istoren C [(3, .int (0 : Int32)), (0, .ref (w.1 32)), (1, .int p1), (2, .int p2)] dX11_hitTenths_1 (by decide) rfl ?_
  refine gz_iconst (v := (-1)) C dX11_hitTenths_2 (by decide) ?_
  refine gz_istore C [(4, .int (-1 : Int32)), (3, .int (0 : Int32)), (0, .ref (w.1 32)), (1, .int p1), (2, .int p2)] dX11_hitTenths_3 (by decide) rfl ?_
  have hL5 : ∀ (n5 : Nat) (v3_5 : Int32) (v4_5 : Int32) (M_5 : Mm), G x w 5 (qI w) (sp_X11_hitTenths_L5 p1 p2 n5 v3_5 v4_5 M_5) M_5 [(0, .ref (w.1 32)), (1, .int p1), (2, .int p2), (3, .int v3_5), (4, .int v4_5)] 5 [] := by
    intro n5
    induction n5 with
    | zero => intros; exact gz_none
    | succ n5 ih5 =>
      intro v3_5 v4_5 M_5
      rw [sp_X11_hitTenths_L5]
      refine gz_iload C 4 rfl dX11_hitTenths_5 ?_
      refine gz_iconst (v := 2) C dX11_hitTenths_7 (by decide) ?_
      refine gz_icmpge C 48 dX11_hitTenths_8 (by decide) ?_ ?_
      · refine gz_iloadn C 3 rfl dX11_hitTenths_11 ?_
        refine gz_aloadn C 0 rfl dX11_hitTenths_12 ?_
        refine gz_aloadn C 0 rfl dX11_hitTenths_13 ?_
        refine gz_iloadn C 1 rfl dX11_hitTenths_14 ?_
        refine gz_iloadn C 2 rfl dX11_hitTenths_15 ?_
        refine gz_iload C 4 rfl dX11_hitTenths_16 ?_
        refine gz_callVI 32 [.int p1, .int p2, .int v4_5] [.ref (w.1 32), .int v3_5] C kn_X11 rfl rfl (ct_X11_fallsAt x.2.1 w p1 p2 v4_5 M_5) cal_X11_fallsAt km_X11_164 ⟨rfl, rfl⟩ ⟨by decide, by decide⟩ rfl rfl (Nat.le_of_ble_eq_true rfl) dX11_hitTenths_18 (fun r18 M18 => ?_)
        refine gz_callVI 32 [.int r18] [.int v3_5] C kn_X11 rfl rfl (ct_X11_isRight x.2.1 w r18 M18) cal_X11_isRight km_X11_168 ⟨rfl, rfl⟩ ⟨by decide, by decide⟩ rfl rfl (Nat.le_of_ble_eq_true rfl) dX11_hitTenths_21 (fun r21 M21 => ?_)
        refine gz_ifeq C 39 dX11_hitTenths_24 (by decide) ?_ ?_
        · refine gz_iconst (v := 0) C dX11_hitTenths_39 (by decide) ?_
          refine gz_iadd C dX11_hitTenths_40 ?_
          refine gz_blt (fun y41 => ?_)
          refine gz_istoren C [(3, .int y41), (0, .ref (w.1 32)), (1, .int p1), (2, .int p2), (4, .int v4_5)] dX11_hitTenths_41 (by decide) rfl ?_
          refine gz_iinc (v' := v4_5 + 1) C 4 [(4, .int (v4_5 + 1)), (3, .int y41), (0, .ref (w.1 32)), (1, .int p1), (2, .int p2)] rfl dX11_hitTenths_42 rfl (by decide) rfl ?_
          refine gz_goto C 5 dX11_hitTenths_45 (by decide) ?_
          refine gz_sub [2, 3, 4, 1, 0] rfl ?_
          exact ih5 _ _ _
        · refine gz_aloadn C 0 rfl dX11_hitTenths_27 ?_
          refine gz_get C 32 15 (.ref (w.1 36)) kn_X11 rfl kf_X11_19 (by decide) dX11_hitTenths_28 (fv_R rfl rfl) ?_
          refine gz_iload C 4 rfl dX11_hitTenths_31 ?_
          refine gz_iconst (v := 1) C dX11_hitTenths_33 (by decide) ?_
          refine gz_iadd C dX11_hitTenths_34 ?_
          refine gz_iald C rfl dX11_hitTenths_35 (fun a35 => ?_)
          refine gz_goto C 40 dX11_hitTenths_36 (by decide) ?_
          refine gz_iadd C dX11_hitTenths_40 ?_
          refine gz_blt (fun y41 => ?_)
          refine gz_istoren C [(3, .int y41), (0, .ref (w.1 32)), (1, .int p1), (2, .int p2), (4, .int v4_5)] dX11_hitTenths_41 (by decide) rfl ?_
          refine gz_iinc (v' := v4_5 + 1) C 4 [(4, .int (v4_5 + 1)), (3, .int y41), (0, .ref (w.1 32)), (1, .int p1), (2, .int p2)] rfl dX11_hitTenths_42 rfl (by decide) rfl ?_
          refine gz_goto C 5 dX11_hitTenths_45 (by decide) ?_
          refine gz_sub [2, 3, 4, 1, 0] rfl ?_
          exact ih5 _ _ _
      · refine gz_iloadn C 3 rfl dX11_hitTenths_48 ?_
        exact gz_iret C dX11_hitTenths_49
  refine gz_sub [2, 3, 4, 1, 0] rfl ?_
  exact hL5 fu _ _ _
set_option maxRecDepth 100000 in
set_option maxHeartbeats 4000000 in
theorem ct_X11_term (l : Launch) (w : Wd) (p0 : Int64) (p2 : Int64) (p4 : Int32) (M : Mm) : CT l yX11_term cX11_term 11 (some .long) rm_X11_term w (qJ w) [.long p0, .long p2, .int p4] (sp_X11_term p0 p2 p4 M) M := by
  refine ct_of RX11 [(0, .long p0), (2, .long p2), (4, .int p4)] rfl (Nat.le_of_ble_eq_true rfl) (by decide) rfl rfl rfl (fun x C => ?_)
  unfold sp_X11_term
  refine gz_lloadn C 0 rfl dX11_term_0 ?_
  refine gz_lstore C [(5, .long p0), (0, .long p0), (2, .long p2), (4, .int p4)] dX11_term_1 (by decide) rfl ?_
  refine gz_lloadn C 2 rfl dX11_term_3 ?_
  refine gz_lstore C [(7, .long p2), (5, .long p0), (0, .long p0), (2, .long p2), (4, .int p4)] dX11_term_4 (by decide) rfl ?_
  refine gz_jn (fun K31 => ∀ (v7_31 : Int64), G x w 11 (qJ w) (K31 v7_31) M [(0, .long p0), (2, .long p2), (4, .int p4), (7, .long v7_31)] 31 []) ?_ ?_
  · intro v7_31
    refine gz_iload C 2 rfl dX11_term_31 ?_
    refine gz_ifne C 43 dX11_term_33 (by decide) ?_ ?_
    · refine gz_lloadn C 0 rfl dX11_term_36 ?_
      refine gz_lload C 3 rfl dX11_term_37 ?_
      refine gz_nzJ (fun hz39 => ?_)
      refine gz_ldivc C hz39 dX11_term_39 ?_
      refine gz_goto C 47 dX11_term_40 (by decide) ?_
      exact gz_lret C dX11_term_47
    · refine gz_lloadn C 1 rfl dX11_term_43 ?_
      refine gz_lload C 3 rfl dX11_term_44 ?_
      refine gz_nzJ (fun hz46 => ?_)
      refine gz_ldivc C hz46 dX11_term_46 ?_
      exact gz_lret C dX11_term_47
  · intro K31 hK31
    have hL6 : ∀ (n6 : Nat) (v5_6 : Int64) (v7_6 : Int64), G x w 11 (qJ w) (sp_X11_term_L6 K31 n6 v5_6 v7_6) M [(0, .long p0), (2, .long p2), (4, .int p4), (5, .long v5_6), (7, .long v7_6)] 6 [] := by
      intro n6
      induction n6 with
      | zero => intros; exact gz_none
      | succ n6 ih6 =>
        intro v5_6 v7_6
        rw [sp_X11_term_L6]
        refine gz_lload C 3 rfl dX11_term_6 ?_
        refine gz_lconst (v := 0) C dX11_term_8 (by decide) ?_
        refine gz_lcmp C dX11_term_9 ?_
        refine gz_cnd (lc_eq v5_6 (0 : Int64)) ?_
        refine gz_ifeq C 31 dX11_term_10 (by decide) ?_ ?_
        · refine gz_sub [0, 1, 2, 4] rfl ?_
          exact hK31 _
        · refine gz_lload C 4 rfl dX11_term_13 ?_
          refine gz_lload C 3 rfl dX11_term_15 ?_
          refine gz_nzJ (fun hz17 => ?_)
          refine gz_lremc C hz17 dX11_term_17 ?_
          refine gz_bltJ (fun y18 => ?_)
          refine gz_lstore C [(9, .long y18), (0, .long p0), (2, .long p2), (4, .int p4), (5, .long v5_6), (7, .long v7_6)] dX11_term_18 (by decide) rfl ?_
          refine gz_lload C 4 rfl dX11_term_20 ?_
          refine gz_lstore C [(7, .long v5_6), (9, .long y18), (0, .long p0), (2, .long p2), (4, .int p4), (5, .long v5_6)] dX11_term_22 (by decide) rfl ?_
          refine gz_lload C 1 rfl dX11_term_24 ?_
          refine gz_lstore C [(5, .long y18), (7, .long v5_6), (9, .long y18), (0, .long p0), (2, .long p2), (4, .int p4)] dX11_term_26 (by decide) rfl ?_
          refine gz_goto C 6 dX11_term_28 (by decide) ?_
          refine gz_sub [3, 4, 5, 0, 1] rfl ?_
          exact ih6 _ _
    refine gz_sub [2, 3, 4, 1, 0] rfl ?_
    exact hL6 fu _ _
set_option maxRecDepth 100000 in
set_option maxHeartbeats 4000000 in
theorem ct_X11_hits (l : Launch) (w : Wd) (p1 : Int32) (p2 : Int32) (p3 : Int32) (M : Mm) : CT l yX11_hits cX11_hits 4 (some .long) rm_X11_hits w (qJ w) [.ref (w.1 32), .int p1, .int p2, .int p3] (sp_X11_hits p1 p2 p3 M) M := by
  refine ct_of RX11 [(0, .ref (w.1 32)), (1, .int p1), (2, .int p2), (3, .int p3)] rfl (Nat.le_of_ble_eq_true rfl) (by decide) rfl rfl rfl (fun x C => ?_)
  unfold sp_X11_hits
  refine gz_aloadn C 0 rfl dX11_hits_0 ?_
  refine gz_iloadn C 1 rfl dX11_hits_1 ?_
  refine gz_callVI 32 [.int p1] [] C kn_X11 rfl rfl (ct_X11_isRocket x.2.1 w p1 M) cal_X11_isRocket km_X11_155 ⟨rfl, rfl⟩ ⟨by decide, by decide⟩ rfl rfl (Nat.le_of_ble_eq_true rfl) dX11_hits_2 (fun r2 M2 => ?_)
  refine gz_ifne C 12 dX11_hits_5 (by decide) ?_ ?_
  · refine gz_ldc2 C kl_X11_171 dX11_hits_8 ?_
    exact gz_lret C dX11_hits_11
  · refine gz_iloadn C 2 rfl dX11_hits_12 ?_
    refine gz_i2l C dX11_hits_13 ?_
    refine gz_lconst (v := 0) C dX11_hits_14 (by decide) ?_
    refine gz_ldc2 C kl_X11_84 dX11_hits_15 ?_
    refine gz_callSI [.long (p2.toInt64), .long (0 : Int64), .long (9 : Int64)] [] C (ct_X11_in x.2.1 w (p2.toInt64) (0 : Int64) (9 : Int64) M2) cal_X11_in (Or.inl km_X11_77) ⟨rfl, rfl⟩ ⟨by decide, by decide⟩ rfl rfl (Nat.le_of_ble_eq_true rfl) dX11_hits_18 (fun r18 M18 => ?_)
    refine gz_ifeq C 34 dX11_hits_21 (by decide) ?_ ?_
    · refine gz_ldc2 C kl_X11_173 dX11_hits_34 ?_
      exact gz_lret C dX11_hits_37
    · refine gz_iloadn C 3 rfl dX11_hits_24 ?_
      refine gz_i2l C dX11_hits_25 ?_
      refine gz_lconst (v := 0) C dX11_hits_26 (by decide) ?_
      refine gz_lconst (v := 1) C dX11_hits_27 (by decide) ?_
      refine gz_callSI [.long (p3.toInt64), .long (0 : Int64), .long (1 : Int64)] [] C (ct_X11_in x.2.1 w (p3.toInt64) (0 : Int64) (1 : Int64) M18) cal_X11_in (Or.inl km_X11_77) ⟨rfl, rfl⟩ ⟨by decide, by decide⟩ rfl rfl (Nat.le_of_ble_eq_true rfl) dX11_hits_28 (fun r28 M28 => ?_)
      refine gz_ifne C 38 dX11_hits_31 (by decide) ?_ ?_
      · refine gz_ldc2 C kl_X11_173 dX11_hits_34 ?_
        exact gz_lret C dX11_hits_37
      · refine gz_aloadn C 0 rfl dX11_hits_38 ?_
        refine gz_iloadn C 1 rfl dX11_hits_39 ?_
        refine gz_iloadn C 2 rfl dX11_hits_40 ?_
        refine gz_callVI 32 [.int p1, .int p2] [] C kn_X11 rfl rfl (ct_X11_hitTenths x.2.1 w p1 p2 M28) cal_X11_hitTenths km_X11_175 ⟨rfl, rfl⟩ ⟨by decide, by decide⟩ rfl rfl (Nat.le_of_ble_eq_true rfl) dX11_hits_41 (fun r41 M41 => ?_)
        refine gz_i2l C dX11_hits_44 ?_
        refine gz_ldc2 C kl_X11_141 dX11_hits_45 ?_
        refine gz_iloadn C 3 rfl dX11_hits_48 ?_
        refine gz_callSJ [.long (r41.toInt64), .long (10 : Int64), .int p3] [] C (ct_X11_term x.2.1 w (r41.toInt64) (10 : Int64) p3 M41) cal_X11_term (Or.inl km_X11_179) ⟨rfl, rfl⟩ ⟨by decide, by decide⟩ rfl rfl (Nat.le_of_ble_eq_true rfl) dX11_hits_49 (fun r49 M49 => ?_)
        exact gz_lret C dX11_hits_52
set_option maxRecDepth 100000 in
set_option maxHeartbeats 4000000 in
theorem ct_X11_isAiming (l : Launch) (w : Wd) (M : Mm) : CT l yX11_isAiming cX11_isAiming 1 (some .boolean) rm_X11_isAiming w (qI w) [.ref (w.1 32)] (sp_X11_isAiming M) M := by
  refine ct_of RX11 [(0, .ref (w.1 32))] rfl (Nat.le_of_ble_eq_true rfl) (by decide) rfl rfl rfl (fun x C => ?_)
  unfold sp_X11_isAiming
  refine gz_aloadn C 0 rfl dX11_isAiming_0 ?_
  refine gz_callVI 32 [] [] C kn_X11 rfl rfl (ct_X11_lacks x.2.1 w M) cal_X11_lacks km_X11_145 ⟨rfl, rfl⟩ ⟨by decide, by decide⟩ rfl rfl (Nat.le_of_ble_eq_true rfl) dX11_isAiming_1 (fun r1 M1 => ?_)
  refine gz_ifne C 36 dX11_isAiming_4 (by decide) ?_ ?_
  · refine gz_aloadn C 0 rfl dX11_isAiming_7 ?_
    refine gz_get C 32 11 (.int (gI M1 32 11)) kn_X11 rfl kf_X11_118 (by decide) dX11_isAiming_8 (fv_I rfl) ?_
    refine gz_ifne C 36 dX11_isAiming_11 (by decide) ?_ ?_
    · refine gz_aloadn C 0 rfl dX11_isAiming_14 ?_
      refine gz_get C 32 12 (.int (gI M1 32 12)) kn_X11 rfl kf_X11_121 (by decide) dX11_isAiming_15 (fv_I rfl) ?_
      refine gz_ifne C 36 dX11_isAiming_18 (by decide) ?_ ?_
      · refine gz_aloadn C 0 rfl dX11_isAiming_21 ?_
        refine gz_callVI 32 [] [] C kn_X11 rfl rfl (ct_X11_stageNow x.2.1 w M1) cal_X11_stageNow km_X11_161 ⟨rfl, rfl⟩ ⟨by decide, by decide⟩ rfl rfl (Nat.le_of_ble_eq_true rfl) dX11_isAiming_22 (fun r22 M22 => ?_)
        refine gz_aloadn C 0 rfl dX11_isAiming_25 ?_
        refine gz_get C 32 7 (.int (gI M22 32 7)) kn_X11 rfl kf_X11_106 (by decide) dX11_isAiming_26 (fv_I rfl) ?_
        refine gz_icmpge C 36 dX11_isAiming_29 (by decide) ?_ ?_
        · refine gz_iconst (v := 1) C dX11_isAiming_32 (by decide) ?_
          refine gz_goto C 37 dX11_isAiming_33 (by decide) ?_
          exact gz_zret C (Or.inr rfl) dX11_isAiming_37
        · refine gz_iconst (v := 0) C dX11_isAiming_36 (by decide) ?_
          exact gz_zret C (Or.inl rfl) dX11_isAiming_37
      · refine gz_iconst (v := 0) C dX11_isAiming_36 (by decide) ?_
        exact gz_zret C (Or.inl rfl) dX11_isAiming_37
    · refine gz_iconst (v := 0) C dX11_isAiming_36 (by decide) ?_
      exact gz_zret C (Or.inl rfl) dX11_isAiming_37
  · refine gz_iconst (v := 0) C dX11_isAiming_36 (by decide) ?_
    exact gz_zret C (Or.inl rfl) dX11_isAiming_37
set_option maxRecDepth 100000 in
set_option maxHeartbeats 4000000 in
theorem ct_X11_leftBits (l : Launch) (w : Wd) (M : Mm) : CT l yX11_leftBits cX11_leftBits 3 (some .int) rm_X11_leftBits w (qI w) [.ref (w.1 32)] (sp_X11_leftBits M) M := by
  refine ct_of RX11 [(0, .ref (w.1 32))] rfl (Nat.le_of_ble_eq_true rfl) (by decide) rfl rfl rfl (fun x C => ?_)
  unfold sp_X11_leftBits
  refine gz_iconst (v := 0) C dX11_leftBits_0 (by decide) ?_
  refine gz_istoren C [(1, .int (0 : Int32)), (0, .ref (w.1 32))] dX11_leftBits_1 (by decide) rfl ?_
  refine gz_iconst (v := 0) C dX11_leftBits_2 (by decide) ?_
  refine gz_istoren C [(2, .int (0 : Int32)), (1, .int (0 : Int32)), (0, .ref (w.1 32))] dX11_leftBits_3 (by decide) rfl ?_
  have hL4 : ∀ (n4 : Nat) (v1_4 : Int32) (v2_4 : Int32), G x w 3 (qI w) (sp_X11_leftBits_L4 M n4 v1_4 v2_4) M [(0, .ref (w.1 32)), (1, .int v1_4), (2, .int v2_4)] 4 [] := by
    intro n4
    induction n4 with
    | zero => intros; exact gz_none
    | succ n4 ih4 =>
      intro v1_4 v2_4
      rw [sp_X11_leftBits_L4]
      refine gz_iloadn C 2 rfl dX11_leftBits_4 ?_
      refine gz_aloadn C 0 rfl dX11_leftBits_5 ?_
      refine gz_get C 32 17 (.int (gI M 32 17)) kn_X11 rfl kf_X11_124 (by decide) dX11_leftBits_6 (fv_I rfl) ?_
      refine gz_icmpge C 41 dX11_leftBits_9 (by decide) ?_ ?_
      · refine gz_iloadn C 1 rfl dX11_leftBits_12 ?_
        refine gz_aloadn C 0 rfl dX11_leftBits_13 ?_
        refine gz_get C 32 18 (.ref (w.1 38)) kn_X11 rfl kf_X11_25 (by decide) dX11_leftBits_14 (fv_R rfl rfl) ?_
        refine gz_iconst (v := 3) C dX11_leftBits_17 (by decide) ?_
        refine gz_iloadn C 2 rfl dX11_leftBits_18 ?_
        refine gz_imul C dX11_leftBits_19 ?_
        refine gz_iconst (v := 2) C dX11_leftBits_20 (by decide) ?_
        refine gz_iadd C dX11_leftBits_21 ?_
        refine gz_iald C rfl dX11_leftBits_22 (fun a22 => ?_)
        refine gz_ifne C 32 dX11_leftBits_23 (by decide) ?_ ?_
        · refine gz_iconst (v := 1) C dX11_leftBits_26 (by decide) ?_
          refine gz_iloadn C 2 rfl dX11_leftBits_27 ?_
          refine gz_ishl C dX11_leftBits_28 ?_
          refine gz_goto C 33 dX11_leftBits_29 (by decide) ?_
          refine gz_ior C dX11_leftBits_33 ?_
          refine gz_blt (fun y34 => ?_)
          refine gz_istoren C [(1, .int y34), (0, .ref (w.1 32)), (2, .int v2_4)] dX11_leftBits_34 (by decide) rfl ?_
          refine gz_iinc (v' := v2_4 + 1) C 2 [(2, .int (v2_4 + 1)), (1, .int y34), (0, .ref (w.1 32))] rfl dX11_leftBits_35 rfl (by decide) rfl ?_
          refine gz_goto C 4 dX11_leftBits_38 (by decide) ?_
          refine gz_sub [2, 1, 0] rfl ?_
          exact ih4 _ _
        · refine gz_iconst (v := 0) C dX11_leftBits_32 (by decide) ?_
          refine gz_ior C dX11_leftBits_33 ?_
          refine gz_blt (fun y34 => ?_)
          refine gz_istoren C [(1, .int y34), (0, .ref (w.1 32)), (2, .int v2_4)] dX11_leftBits_34 (by decide) rfl ?_
          refine gz_iinc (v' := v2_4 + 1) C 2 [(2, .int (v2_4 + 1)), (1, .int y34), (0, .ref (w.1 32))] rfl dX11_leftBits_35 rfl (by decide) rfl ?_
          refine gz_goto C 4 dX11_leftBits_38 (by decide) ?_
          refine gz_sub [2, 1, 0] rfl ?_
          exact ih4 _ _
      · refine gz_iloadn C 1 rfl dX11_leftBits_41 ?_
        exact gz_iret C dX11_leftBits_42
  refine gz_sub [2, 1, 0] rfl ?_
  exact hL4 fu _ _
set_option maxRecDepth 100000 in
set_option maxHeartbeats 4000000 in
theorem ct_X11_bestOf (l : Launch) (w : Wd) (p1 : Int32) (p2 : Int64) (p4 : Int32) (M : Mm) : CT l yX11_bestOf cX11_bestOf 14 (some .long) rm_X11_bestOf w (qJ w) [.ref (w.1 32), .int p1, .long p2, .int p4] (sp_X11_bestOf p1 p2 p4 M) M := by
  refine ct_of RX11 [(0, .ref (w.1 32)), (1, .int p1), (2, .long p2), (4, .int p4)] rfl (Nat.le_of_ble_eq_true rfl) (by decide) rfl rfl rfl (fun x C => ?_)
  unfold sp_X11_bestOf
  refine gz_ldc2 C kl_X11_141 dX11_bestOf_0 ?_
  refine gz_aloadn C 0 rfl dX11_bestOf_3 ?_
  refine gz_get C 32 16 (.ref (w.1 37)) kn_X11 rfl kf_X11_22 (by decide) dX11_bestOf_4 (fv_R rfl rfl) ?_
  refine gz_iloadn C 1 rfl dX11_bestOf_7 ?_
  refine gz_iald C rfl dX11_bestOf_8 (fun a8 => ?_)
  refine gz_i2l C dX11_bestOf_9 ?_
  refine gz_lsub C dX11_bestOf_10 ?_
  refine gz_bltJ (fun y11 => ?_)
  refine gz_lstore C [(5, .long y11), (0, .ref (w.1 32)), (1, .int p1), (2, .long p2), (4, .int p4)] dX11_bestOf_11 (by decide) rfl ?_
  refine gz_aloadn C 1 rfl dX11_bestOf_13 ?_
  refine gz_iconst (v := (-1)) C dX11_bestOf_14 (by decide) ?_
  refine gz_putI C 32 21 kn_X11 rfl kf_X11_183 (by decide) rfl rfl (tyX11_ok 21 (by decide)) rfl rfl dX11_bestOf_15 (fun M15 => ?_)
  refine gz_ldc2 C kl_X11_141 dX11_bestOf_18 ?_
  refine gz_lload C 0 rfl dX11_bestOf_21 ?_
  refine gz_lmul C dX11_bestOf_23 ?_
  refine gz_aloadn C 1 rfl dX11_bestOf_24 ?_
  refine gz_get C 32 19 (.ref (w.1 39)) kn_X11 rfl kf_X11_28 (by decide) dX11_bestOf_25 (fv_R rfl rfl) ?_
  refine gz_iload C 4 rfl dX11_bestOf_28 ?_
  refine gz_lald C rfl dX11_bestOf_30 (fun a30 => ?_)
  refine gz_lmul C dX11_bestOf_31 ?_
  refine gz_bltJ (fun y32 => ?_)
  refine gz_lstore C [(7, .long y32), (5, .long y11), (0, .ref (w.1 32)), (1, .int p1), (2, .long p2), (4, .int p4)] dX11_bestOf_32 (by decide) rfl ?_
  refine gz_iconst (v := 0) C dX11_bestOf_34 (by decide) ?_
  refine gz_istore C [(9, .int (0 : Int32)), (7, .long y32), (5, .long y11), (0, .ref (w.1 32)), (1, .int p1), (2, .long p2), (4, .int p4)] dX11_bestOf_35 (by decide) rfl ?_
  have hL37 : ∀ (n37 : Nat) (v7_37 : Int64) (v9_37 : Int32) (M_37 : Mm), G x w 14 (qJ w) (sp_X11_bestOf_L37 p4 p1 p2 y11 n37 v7_37 v9_37 M_37) M_37 [(0, .ref (w.1 32)), (1, .int p1), (2, .long p2), (4, .int p4), (5, .long y11), (7, .long v7_37), (9, .int v9_37)] 37 [] := by
    intro n37
    induction n37 with
    | zero => intros; exact gz_none
    | succ n37 ih37 =>
      intro v7_37 v9_37 M_37
      rw [sp_X11_bestOf_L37]
      refine gz_iload C 6 rfl dX11_bestOf_37 ?_
      refine gz_aloadn C 0 rfl dX11_bestOf_39 ?_
      refine gz_get C 32 17 (.int (gI M_37 32 17)) kn_X11 rfl kf_X11_124 (by decide) dX11_bestOf_40 (fv_I rfl) ?_
      refine gz_icmpge C 146 dX11_bestOf_43 (by decide) ?_ ?_
      · refine gz_iload C 3 rfl dX11_bestOf_46 ?_
        refine gz_iload C 6 rfl dX11_bestOf_48 ?_
        refine gz_ishr C dX11_bestOf_50 ?_
        refine gz_iconst (v := 1) C dX11_bestOf_51 (by decide) ?_
        refine gz_iand C dX11_bestOf_52 ?_
        refine gz_iconst (v := 1) C dX11_bestOf_53 (by decide) ?_
        refine gz_icmpne C 140 dX11_bestOf_54 (by decide) ?_ ?_
        · refine gz_aloadn C 0 rfl dX11_bestOf_57 ?_
          refine gz_iload C 6 rfl dX11_bestOf_58 ?_
          refine gz_iloadn C 1 rfl dX11_bestOf_60 ?_
          refine gz_callVI 32 [.int v9_37, .int p1] [] C kn_X11 rfl rfl (ct_X11_hitTenths x.2.1 w v9_37 p1 M_37) cal_X11_hitTenths km_X11_175 ⟨rfl, rfl⟩ ⟨by decide, by decide⟩ rfl rfl (Nat.le_of_ble_eq_true rfl) dX11_bestOf_61 (fun r61 M61 => ?_)
          refine gz_i2l C dX11_bestOf_64 ?_
          refine gz_bltJ (fun y65 => ?_)
          refine gz_lstore C [(10, .long y65), (0, .ref (w.1 32)), (1, .int p1), (2, .long p2), (4, .int p4), (5, .long y11), (7, .long v7_37), (9, .int v9_37)] dX11_bestOf_65 (by decide) rfl ?_
          refine gz_ldc2 C kl_X11_141 dX11_bestOf_67 ?_
          refine gz_lload C 0 rfl dX11_bestOf_70 ?_
          refine gz_lmul C dX11_bestOf_72 ?_
          refine gz_lloadn C 3 rfl dX11_bestOf_73 ?_
          refine gz_lmul C dX11_bestOf_74 ?_
          refine gz_ldc2 C kl_X11_141 dX11_bestOf_75 ?_
          refine gz_lload C 0 rfl dX11_bestOf_78 ?_
          refine gz_lsub C dX11_bestOf_80 ?_
          refine gz_lload C 5 rfl dX11_bestOf_81 ?_
          refine gz_lmul C dX11_bestOf_83 ?_
          refine gz_aloadn C 1 rfl dX11_bestOf_84 ?_
          refine gz_get C 32 19 (.ref (w.1 39)) kn_X11 rfl kf_X11_28 (by decide) dX11_bestOf_85 (fv_R rfl rfl) ?_
          refine gz_iload C 4 rfl dX11_bestOf_88 ?_
          refine gz_iconst (v := 1) C dX11_bestOf_90 (by decide) ?_
          refine gz_iload C 7 rfl dX11_bestOf_91 ?_
          refine gz_ishl C dX11_bestOf_93 ?_
          refine gz_iconst (v := (-1)) C dX11_bestOf_94 (by decide) ?_
          refine gz_ixor C dX11_bestOf_95 ?_
          refine gz_iand C dX11_bestOf_96 ?_
          refine gz_lald C rfl dX11_bestOf_97 (fun a97 => ?_)
          refine gz_lmul C dX11_bestOf_98 ?_
          refine gz_ladd C dX11_bestOf_99 ?_
          refine gz_bltJ (fun y100 => ?_)
          refine gz_lstore C [(12, .long y100), (10, .long y65), (0, .ref (w.1 32)), (1, .int p1), (2, .long p2), (4, .int p4), (5, .long y11), (7, .long v7_37), (9, .int v9_37)] dX11_bestOf_100 (by decide) rfl ?_
          refine gz_aloadn C 2 rfl dX11_bestOf_102 ?_
          refine gz_lload C 0 rfl dX11_bestOf_103 ?_
          refine gz_lload C 7 rfl dX11_bestOf_105 ?_
          refine gz_lcmp C dX11_bestOf_107 ?_
          refine gz_jn (fun K120 => ∀ (t0_120 : Int32), G x w 14 (qJ w) (K120 t0_120) M61 [(0, .ref (w.1 32)), (1, .int p1), (2, .long p2), (4, .int p4), (5, .long y11), (7, .long v7_37), (9, .int v9_37), (12, .long y100)] 120 [.int t0_120, .ref (w.1 32)]) ?_ ?_
          · intro t0_120
            refine gz_putI C 32 21 kn_X11 rfl kf_X11_183 (by decide) rfl rfl (tyX11_ok 21 (by decide)) rfl rfl dX11_bestOf_120 (fun M120 => ?_)
            refine gz_lload C 7 rfl dX11_bestOf_123 ?_
            refine gz_lload C 5 rfl dX11_bestOf_125 ?_
            refine gz_lcmp C dX11_bestOf_127 ?_
            refine gz_cnd (lc_gt y100 v7_37) ?_
            refine gz_ifle C 136 dX11_bestOf_128 (by decide) ?_ ?_
            · refine gz_lload C 7 rfl dX11_bestOf_131 ?_
              refine gz_goto C 138 dX11_bestOf_133 (by decide) ?_
              refine gz_lstore C [(7, .long y100), (0, .ref (w.1 32)), (1, .int p1), (2, .long p2), (4, .int p4), (5, .long y11), (9, .int v9_37), (12, .long y100)] dX11_bestOf_138 (by decide) rfl ?_
              refine gz_iinc (v' := v9_37 + 1) C 6 [(9, .int (v9_37 + 1)), (7, .long y100), (0, .ref (w.1 32)), (1, .int p1), (2, .long p2), (4, .int p4), (5, .long y11), (12, .long y100)] rfl dX11_bestOf_140 rfl (by decide) rfl ?_
              refine gz_goto C 37 dX11_bestOf_143 (by decide) ?_
              refine gz_sub [2, 3, 4, 5, 6, 1, 0] rfl ?_
              exact ih37 _ _ _
            · refine gz_lload C 5 rfl dX11_bestOf_136 ?_
              refine gz_lstore C [(7, .long v7_37), (0, .ref (w.1 32)), (1, .int p1), (2, .long p2), (4, .int p4), (5, .long y11), (9, .int v9_37), (12, .long y100)] dX11_bestOf_138 (by decide) rfl ?_
              refine gz_iinc (v' := v9_37 + 1) C 6 [(9, .int (v9_37 + 1)), (7, .long v7_37), (0, .ref (w.1 32)), (1, .int p1), (2, .long p2), (4, .int p4), (5, .long y11), (12, .long y100)] rfl dX11_bestOf_140 rfl (by decide) rfl ?_
              refine gz_goto C 37 dX11_bestOf_143 (by decide) ?_
              refine gz_sub [2, 3, 4, 5, 6, 1, 0] rfl ?_
              exact ih37 _ _ _
          · intro K120 hK120
            refine gz_cnd (lc_gt y100 v7_37) ?_
            refine gz_ifle C 116 dX11_bestOf_108 (by decide) ?_ ?_
            · refine gz_iload C 8 rfl dX11_bestOf_111 ?_
              refine gz_goto C 120 dX11_bestOf_113 (by decide) ?_
              refine gz_sub [2, 3, 4, 5, 6, 7, 8, 0] rfl ?_
              exact hK120 _
            · refine gz_aloadn C 2 rfl dX11_bestOf_116 ?_
              refine gz_get C 32 21 (.int (gI M61 32 21)) kn_X11 rfl kf_X11_183 (by decide) dX11_bestOf_117 (fv_I rfl) ?_
              refine gz_sub [2, 3, 4, 5, 6, 7, 8, 0] rfl ?_
              exact hK120 _
        · refine gz_iinc (v' := v9_37 + 1) C 6 [(9, .int (v9_37 + 1)), (0, .ref (w.1 32)), (1, .int p1), (2, .long p2), (4, .int p4), (5, .long y11), (7, .long v7_37)] rfl dX11_bestOf_140 rfl (by decide) rfl ?_
          refine gz_goto C 37 dX11_bestOf_143 (by decide) ?_
          refine gz_sub [1, 2, 3, 4, 5, 6, 0] rfl ?_
          exact ih37 _ _ _
      · refine gz_lload C 5 rfl dX11_bestOf_146 ?_
        exact gz_lret C dX11_bestOf_148
  refine gz_sub [3, 4, 5, 6, 2, 1, 0] rfl ?_
  exact hL37 fu _ _ _
set_option maxRecDepth 100000 in
set_option maxHeartbeats 4000000 in
theorem ct_X11_aimOf (l : Launch) (w : Wd) (p1 : Int32) (M : Mm) : CT l yX11_aimOf cX11_aimOf 8 (some .long) rm_X11_aimOf w (qJ w) [.ref (w.1 32), .int p1] (sp_X11_aimOf p1 M) M := by
  refine ct_of RX11 [(0, .ref (w.1 32)), (1, .int p1)] rfl (Nat.le_of_ble_eq_true rfl) (by decide) rfl rfl rfl (fun x C => ?_)
  unfold sp_X11_aimOf
  refine gz_iconst (v := 0) C dX11_aimOf_0 (by decide) ?_
  refine gz_istoren C [(2, .int (0 : Int32)), (0, .ref (w.1 32)), (1, .int p1)] dX11_aimOf_1 (by decide) rfl ?_
  refine gz_jn (fun K21 => ∀ (M_21 : Mm), G x w 8 (qJ w) (K21 M_21) M_21 [(0, .ref (w.1 32)), (1, .int p1)] 21 []) ?_ ?_
  · intro M_21
    refine gz_lconst (v := 1) C dX11_aimOf_21 (by decide) ?_
    refine gz_lstoren C [(2, .long (1 : Int64)), (0, .ref (w.1 32)), (1, .int p1)] dX11_aimOf_22 (by decide) rfl ?_
    refine gz_aloadn C 1 rfl dX11_aimOf_23 ?_
    refine gz_callVI 32 [] [] C kn_X11 rfl rfl (ct_X11_stageNow x.2.1 w M_21) cal_X11_stageNow km_X11_161 ⟨rfl, rfl⟩ ⟨by decide, by decide⟩ rfl rfl (Nat.le_of_ble_eq_true rfl) dX11_aimOf_24 (fun r24 M24 => ?_)
    refine gz_istore C [(4, .int r24), (2, .long (1 : Int64)), (0, .ref (w.1 32)), (1, .int p1)] dX11_aimOf_27 (by decide) rfl ?_
    refine gz_iload C 0 rfl dX11_aimOf_29 ?_
    refine gz_iloadn C 3 rfl dX11_aimOf_31 ?_
    refine gz_iadd C dX11_aimOf_32 ?_
    refine gz_aloadn C 2 rfl dX11_aimOf_33 ?_
    refine gz_get C 32 7 (.int (gI M24 32 7)) kn_X11 rfl kf_X11_106 (by decide) dX11_aimOf_34 (fv_I rfl) ?_
    refine gz_jn (fun K51 => ∀ (t0_51 : Int32), G x w 8 (qJ w) (K51 t0_51) M24 [(0, .ref (w.1 32)), (1, .int p1), (2, .long (1 : Int64)), (4, .int r24)] 51 [.int t0_51]) ?_ ?_
    · intro t0_51
      refine gz_istore C [(5, .int t0_51), (0, .ref (w.1 32)), (1, .int p1), (2, .long (1 : Int64)), (4, .int r24)] dX11_aimOf_51 (by decide) rfl ?_
      refine gz_iconst (v := 0) C dX11_aimOf_53 (by decide) ?_
      refine gz_istore C [(6, .int (0 : Int32)), (5, .int t0_51), (0, .ref (w.1 32)), (1, .int p1), (2, .long (1 : Int64)), (4, .int r24)] dX11_aimOf_54 (by decide) rfl ?_
      refine gz_jn (fun K80 => ∀ (v2_80 : Int64), G x w 8 (qJ w) (K80 v2_80) M24 [(0, .ref (w.1 32)), (2, .long v2_80), (4, .int r24), (5, .int t0_51)] 80 []) ?_ ?_
      · intro v2_80
        refine gz_iload C 3 rfl dX11_aimOf_80 ?_
        refine gz_iconst (v := 1) C dX11_aimOf_82 (by decide) ?_
        refine gz_isub C dX11_aimOf_83 ?_
        refine gz_blt (fun y84 => ?_)
        refine gz_istore C [(6, .int y84), (0, .ref (w.1 32)), (2, .long v2_80), (4, .int r24), (5, .int t0_51)] dX11_aimOf_84 (by decide) rfl ?_
        refine gz_jn (fun K167 => ∀ (M_167 : Mm), G x w 8 (qJ w) (K167 M_167) M_167 [(0, .ref (w.1 32))] 167 []) ?_ ?_
        · intro M_167
          refine gz_aloadn C 0 rfl dX11_aimOf_167 ?_
          refine gz_get C 32 19 (.ref (w.1 39)) kn_X11 rfl kf_X11_28 (by decide) dX11_aimOf_168 (fv_R rfl rfl) ?_
          refine gz_aloadn C 0 rfl dX11_aimOf_171 ?_
          refine gz_callVI 32 [] [.ref (w.1 39)] C kn_X11 rfl rfl (ct_X11_leftBits x.2.1 w M_167) cal_X11_leftBits km_X11_192 ⟨rfl, rfl⟩ ⟨by decide, by decide⟩ rfl rfl (Nat.le_of_ble_eq_true rfl) dX11_aimOf_172 (fun r172 M172 => ?_)
          refine gz_lald C rfl dX11_aimOf_175 (fun a175 => ?_)
          exact gz_lret C dX11_aimOf_176
        · intro K167 hK167
          have hL86 : ∀ (n86 : Nat) (v2_86 : Int64) (v6_86 : Int32) (M_86 : Mm), G x w 8 (qJ w) (sp_X11_aimOf_L86 r24 K167 n86 v2_86 v6_86 M_86) M_86 [(0, .ref (w.1 32)), (2, .long v2_86), (4, .int r24), (6, .int v6_86)] 86 [] := by
            intro n86
            induction n86 with
            | zero => intros; exact gz_none
            | succ n86 ih86 =>
              intro v2_86 v6_86 M_86
              rw [sp_X11_aimOf_L86]
              refine gz_iload C 3 rfl dX11_aimOf_86 ?_
              refine gz_iload C 2 rfl dX11_aimOf_88 ?_
              refine gz_icmplt C 167 dX11_aimOf_90 (by decide) ?_ ?_
              · refine gz_sub [0] rfl ?_
                exact hK167 _
              · refine gz_iconst (v := 0) C dX11_aimOf_93 (by decide) ?_
                refine gz_istore C [(7, .int (0 : Int32)), (0, .ref (w.1 32)), (2, .long v2_86), (4, .int r24), (6, .int v6_86)] dX11_aimOf_94 (by decide) rfl ?_
                refine gz_jn (fun K125 => ∀ (M_125 : Mm), G x w 8 (qJ w) (K125 M_125) M_125 [(0, .ref (w.1 32)), (2, .long v2_86), (4, .int r24), (6, .int v6_86)] 125 []) ?_ ?_
                · intro M_125
                  refine gz_iconst (v := 0) C dX11_aimOf_125 (by decide) ?_
                  refine gz_istore C [(7, .int (0 : Int32)), (0, .ref (w.1 32)), (2, .long v2_86), (4, .int r24), (6, .int v6_86)] dX11_aimOf_126 (by decide) rfl ?_
                  refine gz_jn (fun K155 => ∀ (M_155 : Mm), G x w 8 (qJ w) (K155 M_155) M_155 [(0, .ref (w.1 32)), (2, .long v2_86), (4, .int r24), (6, .int v6_86)] 155 []) ?_ ?_
                  · intro M_155
                    refine gz_lloadn C 1 rfl dX11_aimOf_155 ?_
                    refine gz_ldc2 C kl_X11_186 dX11_aimOf_156 ?_
                    refine gz_lmul C dX11_aimOf_159 ?_
                    refine gz_bltJ (fun y160 => ?_)
                    refine gz_lstoren C [(2, .long y160), (0, .ref (w.1 32)), (4, .int r24), (6, .int v6_86)] dX11_aimOf_160 (by decide) rfl ?_
                    refine gz_iinc (v' := v6_86 + (-1)) C 3 [(6, .int (v6_86 + (-1))), (2, .long y160), (0, .ref (w.1 32)), (4, .int r24)] rfl dX11_aimOf_161 rfl (by decide) rfl ?_
                    refine gz_goto C 86 dX11_aimOf_164 (by decide) ?_
                    refine gz_sub [2, 1, 3, 0] rfl ?_
                    exact ih86 _ _ _
                  · intro K155 hK155
                    have hL128 : ∀ (n128 : Nat) (v7_128 : Int32) (M_128 : Mm), G x w 8 (qJ w) (sp_X11_aimOf_L128 K155 n128 v7_128 M_128) M_128 [(0, .ref (w.1 32)), (2, .long v2_86), (4, .int r24), (6, .int v6_86), (7, .int v7_128)] 128 [] := by
                      intro n128
                      induction n128 with
                      | zero => intros; exact gz_none
                      | succ n128 ih128 =>
                        intro v7_128 M_128
                        rw [sp_X11_aimOf_L128]
                        refine gz_iload C 4 rfl dX11_aimOf_128 ?_
                        refine gz_bipush (v := (64)) C dX11_aimOf_130 (by decide) ?_
                        refine gz_icmpge C 155 dX11_aimOf_132 (by decide) ?_ ?_
                        · refine gz_aloadn C 0 rfl dX11_aimOf_135 ?_
                          refine gz_get C 32 19 (.ref (w.1 39)) kn_X11 rfl kf_X11_28 (by decide) dX11_aimOf_136 (fv_R rfl rfl) ?_
                          refine gz_iload C 4 rfl dX11_aimOf_139 ?_
                          refine gz_aloadn C 0 rfl dX11_aimOf_141 ?_
                          refine gz_get C 32 20 (.ref (w.1 40)) kn_X11 rfl kf_X11_32 (by decide) dX11_aimOf_142 (fv_R rfl rfl) ?_
                          refine gz_iload C 4 rfl dX11_aimOf_145 ?_
                          refine gz_lald C rfl dX11_aimOf_147 (fun a147 => ?_)
                          refine gz_last C rfl dX11_aimOf_148 (fun M148 => ?_)
                          refine gz_iinc (v' := v7_128 + 1) C 4 [(7, .int (v7_128 + 1)), (0, .ref (w.1 32)), (2, .long v2_86), (4, .int r24), (6, .int v6_86)] rfl dX11_aimOf_149 rfl (by decide) rfl ?_
                          refine gz_goto C 128 dX11_aimOf_152 (by decide) ?_
                          refine gz_sub [1, 2, 3, 4, 0] rfl ?_
                          exact ih128 _ _
                        · refine gz_sub [0, 1, 2, 3] rfl ?_
                          exact hK155 _
                    refine gz_sub [1, 2, 3, 4, 0] rfl ?_
                    exact hL128 fu _ _
                · intro K125 hK125
                  have hL96 : ∀ (n96 : Nat) (v7_96 : Int32) (M_96 : Mm), G x w 8 (qJ w) (sp_X11_aimOf_L96 v6_86 v2_86 K125 n96 v7_96 M_96) M_96 [(0, .ref (w.1 32)), (2, .long v2_86), (4, .int r24), (6, .int v6_86), (7, .int v7_96)] 96 [] := by
                    intro n96
                    induction n96 with
                    | zero => intros; exact gz_none
                    | succ n96 ih96 =>
                      intro v7_96 M_96
                      rw [sp_X11_aimOf_L96]
                      refine gz_iload C 4 rfl dX11_aimOf_96 ?_
                      refine gz_bipush (v := (64)) C dX11_aimOf_98 (by decide) ?_
                      refine gz_icmpge C 125 dX11_aimOf_100 (by decide) ?_ ?_
                      · refine gz_aloadn C 0 rfl dX11_aimOf_103 ?_
                        refine gz_get C 32 20 (.ref (w.1 40)) kn_X11 rfl kf_X11_32 (by decide) dX11_aimOf_104 (fv_R rfl rfl) ?_
                        refine gz_iload C 4 rfl dX11_aimOf_107 ?_
                        refine gz_aloadn C 0 rfl dX11_aimOf_109 ?_
                        refine gz_iload C 3 rfl dX11_aimOf_110 ?_
                        refine gz_lloadn C 1 rfl dX11_aimOf_112 ?_
                        refine gz_iload C 4 rfl dX11_aimOf_113 ?_
                        refine gz_callVJ 32 [.int v6_86, .long v2_86, .int v7_96] [.int v7_96, .ref (w.1 40)] C kn_X11 rfl rfl (ct_X11_bestOf x.2.1 w v6_86 v2_86 v7_96 M_96) cal_X11_bestOf km_X11_188 ⟨rfl, rfl⟩ ⟨by decide, by decide⟩ rfl rfl (Nat.le_of_ble_eq_true rfl) dX11_aimOf_115 (fun r115 M115 => ?_)
                        refine gz_last C rfl dX11_aimOf_118 (fun M118 => ?_)
                        refine gz_iinc (v' := v7_96 + 1) C 4 [(7, .int (v7_96 + 1)), (0, .ref (w.1 32)), (2, .long v2_86), (4, .int r24), (6, .int v6_86)] rfl dX11_aimOf_119 rfl (by decide) rfl ?_
                        refine gz_goto C 96 dX11_aimOf_122 (by decide) ?_
                        refine gz_sub [1, 2, 3, 4, 0] rfl ?_
                        exact ih96 _ _
                      · refine gz_sub [0, 1, 2, 3] rfl ?_
                        exact hK125 _
                  refine gz_sub [1, 2, 3, 4, 0] rfl ?_
                  exact hL96 fu _ _
          refine gz_sub [1, 2, 3, 0] rfl ?_
          exact hL86 fu _ _ _
      · intro K80 hK80
        have hL56 : ∀ (n56 : Nat) (v2_56 : Int64) (v6_56 : Int32), G x w 8 (qJ w) (sp_X11_aimOf_L56 p1 t0_51 r24 K80 n56 v2_56 v6_56) M24 [(0, .ref (w.1 32)), (1, .int p1), (2, .long v2_56), (4, .int r24), (5, .int t0_51), (6, .int v6_56)] 56 [] := by
          intro n56
          induction n56 with
          | zero => intros; exact gz_none
          | succ n56 ih56 =>
            intro v2_56 v6_56
            rw [sp_X11_aimOf_L56]
            refine gz_iload C 5 rfl dX11_aimOf_56 ?_
            refine gz_iloadn C 1 rfl dX11_aimOf_58 ?_
            refine gz_iload C 4 rfl dX11_aimOf_59 ?_
            refine gz_iload C 3 rfl dX11_aimOf_61 ?_
            refine gz_isub C dX11_aimOf_63 ?_
            refine gz_isub C dX11_aimOf_64 ?_
            refine gz_icmpge C 80 dX11_aimOf_65 (by decide) ?_ ?_
            · refine gz_lloadn C 2 rfl dX11_aimOf_68 ?_
              refine gz_ldc2 C kl_X11_186 dX11_aimOf_69 ?_
              refine gz_lmul C dX11_aimOf_72 ?_
              refine gz_bltJ (fun y73 => ?_)
              refine gz_lstoren C [(2, .long y73), (0, .ref (w.1 32)), (1, .int p1), (4, .int r24), (5, .int t0_51), (6, .int v6_56)] dX11_aimOf_73 (by decide) rfl ?_
              refine gz_iinc (v' := v6_56 + 1) C 5 [(6, .int (v6_56 + 1)), (2, .long y73), (0, .ref (w.1 32)), (1, .int p1), (4, .int r24), (5, .int t0_51)] rfl dX11_aimOf_74 rfl (by decide) rfl ?_
              refine gz_goto C 56 dX11_aimOf_77 (by decide) ?_
              refine gz_sub [2, 3, 1, 4, 5, 0] rfl ?_
              exact ih56 _ _
            · refine gz_sub [0, 2, 3, 4] rfl ?_
              exact hK80 _
        refine gz_sub [2, 3, 4, 5, 1, 0] rfl ?_
        exact hL56 fu _ _
    · intro K51 hK51
      refine gz_icmpge C 47 dX11_aimOf_37 (by decide) ?_ ?_
      · refine gz_iload C 0 rfl dX11_aimOf_40 ?_
        refine gz_iloadn C 3 rfl dX11_aimOf_42 ?_
        refine gz_iadd C dX11_aimOf_43 ?_
        refine gz_goto C 51 dX11_aimOf_44 (by decide) ?_
        refine gz_sub [2, 3, 1, 0] rfl ?_
        exact hK51 _
      · refine gz_aloadn C 2 rfl dX11_aimOf_47 ?_
        refine gz_get C 32 7 (.int (gI M24 32 7)) kn_X11 rfl kf_X11_106 (by decide) dX11_aimOf_48 (fv_I rfl) ?_
        refine gz_sub [2, 3, 1, 0] rfl ?_
        exact hK51 _
  · intro K21 hK21
    have hL2 : ∀ (n2 : Nat) (v2_2 : Int32) (M_2 : Mm), G x w 8 (qJ w) (sp_X11_aimOf_L2 K21 n2 v2_2 M_2) M_2 [(0, .ref (w.1 32)), (1, .int p1), (2, .int v2_2)] 2 [] := by
      intro n2
      induction n2 with
      | zero => intros; exact gz_none
      | succ n2 ih2 =>
        intro v2_2 M_2
        rw [sp_X11_aimOf_L2]
        refine gz_iloadn C 2 rfl dX11_aimOf_2 ?_
        refine gz_bipush (v := (64)) C dX11_aimOf_3 (by decide) ?_
        refine gz_icmpge C 21 dX11_aimOf_5 (by decide) ?_ ?_
        · refine gz_aloadn C 0 rfl dX11_aimOf_8 ?_
          refine gz_get C 32 19 (.ref (w.1 39)) kn_X11 rfl kf_X11_28 (by decide) dX11_aimOf_9 (fv_R rfl rfl) ?_
          refine gz_iloadn C 2 rfl dX11_aimOf_12 ?_
          refine gz_lconst (v := 0) C dX11_aimOf_13 (by decide) ?_
          refine gz_last C rfl dX11_aimOf_14 (fun M14 => ?_)
          refine gz_iinc (v' := v2_2 + 1) C 2 [(2, .int (v2_2 + 1)), (0, .ref (w.1 32)), (1, .int p1)] rfl dX11_aimOf_15 rfl (by decide) rfl ?_
          refine gz_goto C 2 dX11_aimOf_18 (by decide) ?_
          refine gz_sub [1, 2, 0] rfl ?_
          exact ih2 _ _
        · refine gz_sub [0, 1] rfl ?_
          exact hK21 _
    refine gz_sub [1, 2, 0] rfl ?_
    exact hL2 fu _ _
set_option maxRecDepth 100000 in
set_option maxHeartbeats 4000000 in
theorem ct_X11_hundreds (l : Launch) (w : Wd) (p0 : Int32) (M : Mm) : CT l yX11_hundreds cX11_hundreds 4 (some .long) rm_X11_hundreds w (qJ w) [.int p0] (sp_X11_hundreds p0 M) M := by
  refine ct_of RX11 [(0, .int p0)] rfl (Nat.le_of_ble_eq_true rfl) (by decide) rfl rfl rfl (fun x C => ?_)
  unfold sp_X11_hundreds
  refine gz_lconst (v := 1) C dX11_hundreds_0 (by decide) ?_
  refine gz_lstoren C [(1, .long (1 : Int64)), (0, .int p0)] dX11_hundreds_1 (by decide) rfl ?_
  refine gz_iconst (v := 0) C dX11_hundreds_2 (by decide) ?_
  refine gz_istoren C [(3, .int (0 : Int32)), (1, .long (1 : Int64)), (0, .int p0)] dX11_hundreds_3 (by decide) rfl ?_
  have hL4 : ∀ (n4 : Nat) (v1_4 : Int64) (v3_4 : Int32), G x w 4 (qJ w) (sp_X11_hundreds_L4 p0 M n4 v1_4 v3_4) M [(0, .int p0), (1, .long v1_4), (3, .int v3_4)] 4 [] := by
    intro n4
    induction n4 with
    | zero => intros; exact gz_none
    | succ n4 ih4 =>
      intro v1_4 v3_4
      rw [sp_X11_hundreds_L4]
      refine gz_iloadn C 2 rfl dX11_hundreds_4 ?_
      refine gz_iloadn C 0 rfl dX11_hundreds_5 ?_
      refine gz_icmpge C 21 dX11_hundreds_6 (by decide) ?_ ?_
      · refine gz_lloadn C 1 rfl dX11_hundreds_9 ?_
        refine gz_ldc2 C kl_X11_186 dX11_hundreds_10 ?_
        refine gz_lmul C dX11_hundreds_13 ?_
        refine gz_bltJ (fun y14 => ?_)
        refine gz_lstoren C [(1, .long y14), (0, .int p0), (3, .int v3_4)] dX11_hundreds_14 (by decide) rfl ?_
        refine gz_iinc (v' := v3_4 + 1) C 2 [(3, .int (v3_4 + 1)), (1, .long y14), (0, .int p0)] rfl dX11_hundreds_15 rfl (by decide) rfl ?_
        refine gz_goto C 4 dX11_hundreds_18 (by decide) ?_
        refine gz_sub [2, 1, 0] rfl ?_
        exact ih4 _ _
      · refine gz_lloadn C 1 rfl dX11_hundreds_21 ?_
        exact gz_lret C dX11_hundreds_22
  refine gz_sub [2, 1, 0] rfl ?_
  exact hL4 fu _ _
set_option maxRecDepth 100000 in
set_option maxHeartbeats 4000000 in
theorem ct_X11_aim (l : Launch) (w : Wd) (p1 : Int32) (p2 : Int32) (M : Mm) : CT l yX11_aim cX11_aim 3 (some .long) rm_X11_aim w (qJ w) [.ref (w.1 32), .int p1, .int p2] (sp_X11_aim p1 p2 M) M := by
  refine ct_of RX11 [(0, .ref (w.1 32)), (1, .int p1), (2, .int p2)] rfl (Nat.le_of_ble_eq_true rfl) (by decide) rfl rfl rfl (fun x C => ?_)
  unfold sp_X11_aim
  refine gz_iloadn C 1 rfl dX11_aim_0 ?_
  refine gz_i2l C dX11_aim_1 ?_
  refine gz_lconst (v := 1) C dX11_aim_2 (by decide) ?_
  refine gz_ldc2 C kl_X11_139 dX11_aim_3 ?_
  refine gz_callSI [.long (p1.toInt64), .long (1 : Int64), .long (4 : Int64)] [] C (ct_X11_in x.2.1 w (p1.toInt64) (1 : Int64) (4 : Int64) M) cal_X11_in (Or.inl km_X11_77) ⟨rfl, rfl⟩ ⟨by decide, by decide⟩ rfl rfl (Nat.le_of_ble_eq_true rfl) dX11_aim_6 (fun r6 M6 => ?_)
  refine gz_ifeq C 22 dX11_aim_9 (by decide) ?_ ?_
  · refine gz_ldc2 C kl_X11_173 dX11_aim_22 ?_
    exact gz_lret C dX11_aim_25
  · refine gz_iloadn C 2 rfl dX11_aim_12 ?_
    refine gz_i2l C dX11_aim_13 ?_
    refine gz_lconst (v := 0) C dX11_aim_14 (by decide) ?_
    refine gz_lconst (v := 1) C dX11_aim_15 (by decide) ?_
    refine gz_callSI [.long (p2.toInt64), .long (0 : Int64), .long (1 : Int64)] [] C (ct_X11_in x.2.1 w (p2.toInt64) (0 : Int64) (1 : Int64) M6) cal_X11_in (Or.inl km_X11_77) ⟨rfl, rfl⟩ ⟨by decide, by decide⟩ rfl rfl (Nat.le_of_ble_eq_true rfl) dX11_aim_16 (fun r16 M16 => ?_)
    refine gz_ifne C 26 dX11_aim_19 (by decide) ?_ ?_
    · refine gz_ldc2 C kl_X11_173 dX11_aim_22 ?_
      exact gz_lret C dX11_aim_25
    · refine gz_aloadn C 0 rfl dX11_aim_26 ?_
      refine gz_callVI 32 [] [] C kn_X11 rfl rfl (ct_X11_isAiming x.2.1 w M16) cal_X11_isAiming km_X11_195 ⟨rfl, rfl⟩ ⟨by decide, by decide⟩ rfl rfl (Nat.le_of_ble_eq_true rfl) dX11_aim_27 (fun r27 M27 => ?_)
      refine gz_ifeq C 49 dX11_aim_30 (by decide) ?_ ?_
      · refine gz_ldc2 C kl_X11_205 dX11_aim_49 ?_
        exact gz_lret C dX11_aim_52
      · refine gz_aloadn C 0 rfl dX11_aim_33 ?_
        refine gz_iloadn C 1 rfl dX11_aim_34 ?_
        refine gz_callVJ 32 [.int p1] [] C kn_X11 rfl rfl (ct_X11_aimOf x.2.1 w p1 M27) cal_X11_aimOf km_X11_198 ⟨rfl, rfl⟩ ⟨by decide, by decide⟩ rfl rfl (Nat.le_of_ble_eq_true rfl) dX11_aim_35 (fun r35 M35 => ?_)
        refine gz_iloadn C 1 rfl dX11_aim_38 ?_
        refine gz_callSJ [.int p1] [.long r35] C (ct_X11_hundreds x.2.1 w p1 M35) cal_X11_hundreds (Or.inl km_X11_202) ⟨rfl, rfl⟩ ⟨by decide, by decide⟩ rfl rfl (Nat.le_of_ble_eq_true rfl) dX11_aim_39 (fun r39 M39 => ?_)
        refine gz_iloadn C 2 rfl dX11_aim_42 ?_
        refine gz_callSJ [.long r35, .long r39, .int p2] [] C (ct_X11_term x.2.1 w r35 r39 p2 M39) cal_X11_term (Or.inl km_X11_179) ⟨rfl, rfl⟩ ⟨by decide, by decide⟩ rfl rfl (Nat.le_of_ble_eq_true rfl) dX11_aim_43 (fun r43 M43 => ?_)
        refine gz_goto C 52 dX11_aim_46 (by decide) ?_
        exact gz_lret C dX11_aim_52
