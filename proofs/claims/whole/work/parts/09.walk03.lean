set_option maxRecDepth 100000 in
set_option maxHeartbeats 4000000 in
theorem ct_X10_about (l : Launch) (w : Wd) (p1 : Int32) (p2 : Int32) (M : Mm) : CT l yX10_about cX10_about 3 (some .int) rm_X10_about w (qI w) [.ref (w.1 0), .int p1, .int p2] (sp_X10_about p1 p2 M) M := by
  refine ct_of RX10 [(0, .ref (w.1 0)), (1, .int p1), (2, .int p2)] rfl (Nat.le_of_ble_eq_true rfl) (by decide) rfl rfl rfl (fun x C => ?_)
  unfold sp_X10_about
  refine gz_aloadn C 0 rfl dX10_about_0 ?_
  refine gz_get C 0 3 (.ref (w.1 9)) kn_X10 rfl kf_X10_33 (by decide) dX10_about_1 (fv_R rfl rfl) ?_
  refine gz_iloadn C 1 rfl dX10_about_4 ?_
  refine gz_callVI 9 [.int p1] [] C kn_X2 rfl rfl (ct_X2_has x.2.1 w p1 M) cal_X2_has km_X10_194 ⟨rfl, rfl⟩ ⟨by decide, by decide⟩ rfl rfl (Nat.le_of_ble_eq_true rfl) dX10_about_5 (fun r5 M5 => ?_)
  refine gz_ifne C 14 dX10_about_8 (by decide) ?_ ?_
  · refine gz_bipush (v := (-101)) C dX10_about_11 (by decide) ?_
    exact gz_iret C dX10_about_13
  · refine gz_iloadn C 2 rfl dX10_about_14 ?_
    refine gz_if (fun hs0 => ?_) (fun hs0 => ?_)
    · refine gz_tabIn (off := 41) C (0) 56 dX10_about_15 hs0 (by decide) (by decide) (by decide) (by decide) ?_
      refine gz_aloadn C 0 rfl dX10_about_56 ?_
      refine gz_get C 0 3 (.ref (w.1 9)) kn_X10 rfl kf_X10_33 (by decide) dX10_about_57 (fv_R rfl rfl) ?_
      refine gz_iloadn C 1 rfl dX10_about_60 ?_
      refine gz_callVI 9 [.int p1] [] C kn_X2 rfl rfl (ct_X2_kind x.2.1 w p1 M5) cal_X2_kind km_X10_195 ⟨rfl, rfl⟩ ⟨by decide, by decide⟩ rfl rfl (Nat.le_of_ble_eq_true rfl) dX10_about_61 (fun r61 M61 => ?_)
      exact gz_iret C dX10_about_64
    refine gz_if (fun hs1 => ?_) (fun hs1 => ?_)
    · refine gz_tabIn (off := 50) C (1) 65 dX10_about_15 hs1 (by decide) (by decide) (by decide) (by decide) ?_
      refine gz_aloadn C 0 rfl dX10_about_65 ?_
      refine gz_get C 0 3 (.ref (w.1 9)) kn_X10 rfl kf_X10_33 (by decide) dX10_about_66 (fv_R rfl rfl) ?_
      refine gz_iloadn C 1 rfl dX10_about_69 ?_
      refine gz_callVI 9 [.int p1] [] C kn_X2 rfl rfl (ct_X2_weight x.2.1 w p1 M5) cal_X2_weight km_X10_198 ⟨rfl, rfl⟩ ⟨by decide, by decide⟩ rfl rfl (Nat.le_of_ble_eq_true rfl) dX10_about_70 (fun r70 M70 => ?_)
      exact gz_iret C dX10_about_73
    refine gz_if (fun hs2 => ?_) (fun hs2 => ?_)
    · refine gz_tabIn (off := 59) C (2) 74 dX10_about_15 hs2 (by decide) (by decide) (by decide) (by decide) ?_
      refine gz_aloadn C 0 rfl dX10_about_74 ?_
      refine gz_get C 0 3 (.ref (w.1 9)) kn_X10 rfl kf_X10_33 (by decide) dX10_about_75 (fv_R rfl rfl) ?_
      refine gz_iloadn C 1 rfl dX10_about_78 ?_
      refine gz_aloadn C 0 rfl dX10_about_79 ?_
      refine gz_get C 0 1 (.ref (w.1 3)) kn_X10 rfl kf_X10_19 (by decide) dX10_about_80 (fv_R rfl rfl) ?_
      refine gz_get C 3 0 (.int (gI M5 3 0)) kn_X7 rfl kf_X10_201 (by decide) dX10_about_83 (fv_I rfl) ?_
      refine gz_aloadn C 0 rfl dX10_about_86 ?_
      refine gz_get C 0 4 (.ref (w.1 13)) kn_X10 rfl kf_X10_40 (by decide) dX10_about_87 (fv_R rfl rfl) ?_
      refine gz_get C 13 5 (.int (gI M5 13 5)) kn_X1 rfl kf_X10_204 (by decide) dX10_about_90 (fv_I rfl) ?_
      refine gz_callVI 9 [.int p1, .int (gI M5 3 0), .int (gI M5 13 5)] [] C kn_X2 rfl rfl (ct_X2_takes x.2.1 w p1 (gI M5 3 0) (gI M5 13 5) M5) cal_X2_takes km_X10_207 ⟨rfl, rfl⟩ ⟨by decide, by decide⟩ rfl rfl (Nat.le_of_ble_eq_true rfl) dX10_about_93 (fun r93 M93 => ?_)
      exact gz_iret C dX10_about_96
    refine gz_if (fun hs3 => ?_) (fun hs3 => ?_)
    · refine gz_tabIn (off := 82) C (3) 97 dX10_about_15 hs3 (by decide) (by decide) (by decide) (by decide) ?_
      refine gz_aloadn C 0 rfl dX10_about_97 ?_
      refine gz_get C 0 3 (.ref (w.1 9)) kn_X10 rfl kf_X10_33 (by decide) dX10_about_98 (fv_R rfl rfl) ?_
      refine gz_iloadn C 1 rfl dX10_about_101 ?_
      refine gz_aloadn C 0 rfl dX10_about_102 ?_
      refine gz_get C 0 1 (.ref (w.1 3)) kn_X10 rfl kf_X10_19 (by decide) dX10_about_103 (fv_R rfl rfl) ?_
      refine gz_get C 3 0 (.int (gI M5 3 0)) kn_X7 rfl kf_X10_201 (by decide) dX10_about_106 (fv_I rfl) ?_
      refine gz_aloadn C 0 rfl dX10_about_109 ?_
      refine gz_get C 0 4 (.ref (w.1 13)) kn_X10 rfl kf_X10_40 (by decide) dX10_about_110 (fv_R rfl rfl) ?_
      refine gz_get C 13 5 (.int (gI M5 13 5)) kn_X1 rfl kf_X10_204 (by decide) dX10_about_113 (fv_I rfl) ?_
      refine gz_callVI 9 [.int p1, .int (gI M5 3 0), .int (gI M5 13 5)] [] C kn_X2 rfl rfl (ct_X2_sags x.2.1 w p1 (gI M5 3 0) (gI M5 13 5) M5) cal_X2_sags km_X10_211 ⟨rfl, rfl⟩ ⟨by decide, by decide⟩ rfl rfl (Nat.le_of_ble_eq_true rfl) dX10_about_116 (fun r116 M116 => ?_)
      refine gz_callSI [.int r116] [] C (ct_X10_asNumber x.2.1 w r116 M116) cal_X10_asNumber (Or.inl km_X10_214) ⟨rfl, rfl⟩ ⟨by decide, by decide⟩ rfl rfl (Nat.le_of_ble_eq_true rfl) dX10_about_119 (fun r119 M119 => ?_)
      exact gz_iret C dX10_about_122
    refine gz_if (fun hs4 => ?_) (fun hs4 => ?_)
    · refine gz_tabIn (off := 108) C (4) 123 dX10_about_15 hs4 (by decide) (by decide) (by decide) (by decide) ?_
      refine gz_aloadn C 0 rfl dX10_about_123 ?_
      refine gz_get C 0 4 (.ref (w.1 13)) kn_X10 rfl kf_X10_40 (by decide) dX10_about_124 (fv_R rfl rfl) ?_
      refine gz_get C 13 4 (.int (gI M5 13 4)) kn_X1 rfl kf_X10_218 (by decide) dX10_about_127 (fv_I rfl) ?_
      refine gz_iloadn C 1 rfl dX10_about_130 ?_
      refine gz_callSI [.int (gI M5 13 4), .int p1] [] C (ct_X10_isIn x.2.1 w (gI M5 13 4) p1 M5) cal_X10_isIn (Or.inl km_X10_135) ⟨rfl, rfl⟩ ⟨by decide, by decide⟩ rfl rfl (Nat.le_of_ble_eq_true rfl) dX10_about_131 (fun r131 M131 => ?_)
      refine gz_callSI [.int r131] [] C (ct_X10_asNumber x.2.1 w r131 M131) cal_X10_asNumber (Or.inl km_X10_214) ⟨rfl, rfl⟩ ⟨by decide, by decide⟩ rfl rfl (Nat.le_of_ble_eq_true rfl) dX10_about_134 (fun r134 M134 => ?_)
      exact gz_iret C dX10_about_137
    refine gz_if (fun hs5 => ?_) (fun hs5 => ?_)
    · refine gz_tabIn (off := 123) C (5) 138 dX10_about_15 hs5 (by decide) (by decide) (by decide) (by decide) ?_
      refine gz_aloadn C 0 rfl dX10_about_138 ?_
      refine gz_get C 0 4 (.ref (w.1 13)) kn_X10 rfl kf_X10_40 (by decide) dX10_about_139 (fv_R rfl rfl) ?_
      refine gz_iloadn C 1 rfl dX10_about_142 ?_
      refine gz_callVI 13 [.int p1] [] C kn_X1 rfl rfl (ct_X1_overMinute x.2.1 w p1 M5) cal_X1_overMinute km_X10_221 ⟨rfl, rfl⟩ ⟨by decide, by decide⟩ rfl rfl (Nat.le_of_ble_eq_true rfl) dX10_about_143 (fun r143 M143 => ?_)
      exact gz_iret C dX10_about_146
    refine gz_if (fun hs6 => ?_) (fun hs6 => ?_)
    · refine gz_tabIn (off := 132) C (6) 147 dX10_about_15 hs6 (by decide) (by decide) (by decide) (by decide) ?_
      refine gz_aloadn C 0 rfl dX10_about_147 ?_
      refine gz_iloadn C 1 rfl dX10_about_148 ?_
      refine gz_callVI 0 [.int p1] [] C kn_X10 rfl rfl (ct_X10_mayCome x.2.1 w p1 M5) cal_X10_mayCome km_X10_224 ⟨rfl, rfl⟩ ⟨by decide, by decide⟩ rfl rfl (Nat.le_of_ble_eq_true rfl) dX10_about_149 (fun r149 M149 => ?_)
      refine gz_callSI [.int r149] [] C (ct_X10_asNumber x.2.1 w r149 M149) cal_X10_asNumber (Or.inl km_X10_214) ⟨rfl, rfl⟩ ⟨by decide, by decide⟩ rfl rfl (Nat.le_of_ble_eq_true rfl) dX10_about_152 (fun r152 M152 => ?_)
      exact gz_iret C dX10_about_155
    refine gz_tabOut C 156 dX10_about_15 (by have e0 := lv_neT (a := 0) hs0 (by decide); have e1 := lv_neT (a := 1) hs1 (by decide); have e2 := lv_neT (a := 2) hs2 (by decide); have e3 := lv_neT (a := 3) hs3 (by decide); have e4 := lv_neT (a := 4) hs4 (by decide); have e5 := lv_neT (a := 5) hs5 (by decide); have e6 := lv_neT (a := 6) hs6 (by decide); omega) (by decide) ?_
    refine gz_bipush (v := (-102)) C dX10_about_156 (by decide) ?_
    exact gz_iret C dX10_about_158
set_option maxRecDepth 100000 in
set_option maxHeartbeats 4000000 in
theorem ct_X2_isOf (l : Launch) (w : Wd) (p1 : Int32) (p2 : Int32) (M : Mm) : CT l yX2_isOf cX2_isOf 4 (some .boolean) rm_X2_isOf w (qI w) [.ref (w.1 9), .int p1, .int p2] (sp_X2_isOf p1 p2 M) M := by
  refine ct_of RX2 [(0, .ref (w.1 9)), (1, .int p1), (2, .int p2)] rfl (Nat.le_of_ble_eq_true rfl) (by decide) rfl rfl rfl (fun x C => ?_)
  unfold sp_X2_isOf
  refine gz_aloadn C 0 rfl dX2_isOf_0 ?_
  refine gz_iloadn C 1 rfl dX2_isOf_1 ?_
  refine gz_callVI 9 [.int p1] [] C kn_X2 rfl rfl (ct_X2_kind x.2.1 w p1 M) cal_X2_kind km_X2_39 ⟨rfl, rfl⟩ ⟨by decide, by decide⟩ rfl rfl (Nat.le_of_ble_eq_true rfl) dX2_isOf_2 (fun r2 M2 => ?_)
  refine gz_istoren C [(3, .int r2), (0, .ref (w.1 9)), (1, .int p1), (2, .int p2)] dX2_isOf_5 (by decide) rfl ?_
  refine gz_iloadn C 3 rfl dX2_isOf_6 ?_
  refine gz_ifeq C 25 dX2_isOf_7 (by decide) ?_ ?_
  · refine gz_iconst (v := 1) C dX2_isOf_25 (by decide) ?_
    refine gz_goto C 30 dX2_isOf_26 (by decide) ?_
    exact gz_zret C (Or.inr rfl) dX2_isOf_30
  · refine gz_iloadn C 3 rfl dX2_isOf_10 ?_
    refine gz_iloadn C 0 rfl dX2_isOf_11 ?_
    refine gz_icmpeq C 25 dX2_isOf_12 (by decide) ?_ ?_
    · refine gz_iconst (v := 1) C dX2_isOf_25 (by decide) ?_
      refine gz_goto C 30 dX2_isOf_26 (by decide) ?_
      exact gz_zret C (Or.inr rfl) dX2_isOf_30
    · refine gz_iloadn C 3 rfl dX2_isOf_15 ?_
      refine gz_iconst (v := 2) C dX2_isOf_16 (by decide) ?_
      refine gz_icmpne C 29 dX2_isOf_17 (by decide) ?_ ?_
      · refine gz_iloadn C 0 rfl dX2_isOf_20 ?_
        refine gz_iconst (v := 4) C dX2_isOf_21 (by decide) ?_
        refine gz_icmpne C 29 dX2_isOf_22 (by decide) ?_ ?_
        · refine gz_iconst (v := 1) C dX2_isOf_25 (by decide) ?_
          refine gz_goto C 30 dX2_isOf_26 (by decide) ?_
          exact gz_zret C (Or.inr rfl) dX2_isOf_30
        · refine gz_iconst (v := 0) C dX2_isOf_29 (by decide) ?_
          exact gz_zret C (Or.inl rfl) dX2_isOf_30
      · refine gz_iconst (v := 0) C dX2_isOf_29 (by decide) ?_
        exact gz_zret C (Or.inl rfl) dX2_isOf_30
set_option maxRecDepth 100000 in
set_option maxHeartbeats 4000000 in
theorem ct_X10_as (l : Launch) (w : Wd) (p1 : Int32) (p2 : Int32) (M : Mm) : CT l yX10_as cX10_as 3 (some .int) rm_X10_as w (qI w) [.ref (w.1 0), .int p1, .int p2] (sp_X10_as p1 p2 M) M := by
  refine ct_of RX10 [(0, .ref (w.1 0)), (1, .int p1), (2, .int p2)] rfl (Nat.le_of_ble_eq_true rfl) (by decide) rfl rfl rfl (fun x C => ?_)
  unfold sp_X10_as
  refine gz_aloadn C 0 rfl dX10_as_0 ?_
  refine gz_get C 0 3 (.ref (w.1 9)) kn_X10 rfl kf_X10_33 (by decide) dX10_as_1 (fv_R rfl rfl) ?_
  refine gz_iloadn C 1 rfl dX10_as_4 ?_
  refine gz_callVI 9 [.int p1] [] C kn_X2 rfl rfl (ct_X2_has x.2.1 w p1 M) cal_X2_has km_X10_194 ⟨rfl, rfl⟩ ⟨by decide, by decide⟩ rfl rfl (Nat.le_of_ble_eq_true rfl) dX10_as_5 (fun r5 M5 => ?_)
  refine gz_ifne C 14 dX10_as_8 (by decide) ?_ ?_
  · refine gz_bipush (v := (-101)) C dX10_as_11 (by decide) ?_
    exact gz_iret C dX10_as_13
  · refine gz_iloadn C 2 rfl dX10_as_14 ?_
    refine gz_iconst (v := 0) C dX10_as_15 (by decide) ?_
    refine gz_iconst (v := 4) C dX10_as_16 (by decide) ?_
    refine gz_callSI [.int p2, .int (0 : Int32), .int (4 : Int32)] [] C (ct_X10_isOutside x.2.1 w p2 (0 : Int32) (4 : Int32) M5) cal_X10_isOutside (Or.inl km_X10_79) ⟨rfl, rfl⟩ ⟨by decide, by decide⟩ rfl rfl (Nat.le_of_ble_eq_true rfl) dX10_as_17 (fun r17 M17 => ?_)
    refine gz_ifeq C 26 dX10_as_20 (by decide) ?_ ?_
    · refine gz_aloadn C 0 rfl dX10_as_26 ?_
      refine gz_get C 0 3 (.ref (w.1 9)) kn_X10 rfl kf_X10_33 (by decide) dX10_as_27 (fv_R rfl rfl) ?_
      refine gz_iloadn C 1 rfl dX10_as_30 ?_
      refine gz_iloadn C 2 rfl dX10_as_31 ?_
      refine gz_callVI 9 [.int p1, .int p2] [] C kn_X2 rfl rfl (ct_X2_isOf x.2.1 w p1 p2 M17) cal_X2_isOf km_X10_227 ⟨rfl, rfl⟩ ⟨by decide, by decide⟩ rfl rfl (Nat.le_of_ble_eq_true rfl) dX10_as_32 (fun r32 M32 => ?_)
      refine gz_ifeq C 42 dX10_as_35 (by decide) ?_ ?_
      · refine gz_iconst (v := (-1)) C dX10_as_42 (by decide) ?_
        exact gz_iret C dX10_as_43
      · refine gz_iloadn C 1 rfl dX10_as_38 ?_
        refine gz_goto C 43 dX10_as_39 (by decide) ?_
        exact gz_iret C dX10_as_43
    · refine gz_bipush (v := (-102)) C dX10_as_23 (by decide) ?_
      exact gz_iret C dX10_as_25
set_option maxRecDepth 100000 in
set_option maxHeartbeats 4000000 in
theorem ct_X10_areTwoMen (l : Launch) (w : Wd) (p1 : Int32) (p2 : Int32) (M : Mm) : CT l yX10_areTwoMen cX10_areTwoMen 3 (some .boolean) rm_X10_areTwoMen w (qI w) [.ref (w.1 0), .int p1, .int p2] (sp_X10_areTwoMen p1 p2 M) M := by
  refine ct_of RX10 [(0, .ref (w.1 0)), (1, .int p1), (2, .int p2)] rfl (Nat.le_of_ble_eq_true rfl) (by decide) rfl rfl rfl (fun x C => ?_)
  unfold sp_X10_areTwoMen
  refine gz_iloadn C 1 rfl dX10_areTwoMen_0 ?_
  refine gz_iloadn C 2 rfl dX10_areTwoMen_1 ?_
  refine gz_icmpeq C 31 dX10_areTwoMen_2 (by decide) ?_ ?_
  · refine gz_iconst (v := 0) C dX10_areTwoMen_31 (by decide) ?_
    exact gz_zret C (Or.inl rfl) dX10_areTwoMen_32
  · refine gz_aloadn C 0 rfl dX10_areTwoMen_5 ?_
    refine gz_get C 0 3 (.ref (w.1 9)) kn_X10 rfl kf_X10_33 (by decide) dX10_areTwoMen_6 (fv_R rfl rfl) ?_
    refine gz_iloadn C 1 rfl dX10_areTwoMen_9 ?_
    refine gz_callVI 9 [.int p1] [] C kn_X2 rfl rfl (ct_X2_has x.2.1 w p1 M) cal_X2_has km_X10_194 ⟨rfl, rfl⟩ ⟨by decide, by decide⟩ rfl rfl (Nat.le_of_ble_eq_true rfl) dX10_areTwoMen_10 (fun r10 M10 => ?_)
    refine gz_ifeq C 31 dX10_areTwoMen_13 (by decide) ?_ ?_
    · refine gz_iconst (v := 0) C dX10_areTwoMen_31 (by decide) ?_
      exact gz_zret C (Or.inl rfl) dX10_areTwoMen_32
    · refine gz_aloadn C 0 rfl dX10_areTwoMen_16 ?_
      refine gz_get C 0 3 (.ref (w.1 9)) kn_X10 rfl kf_X10_33 (by decide) dX10_areTwoMen_17 (fv_R rfl rfl) ?_
      refine gz_iloadn C 2 rfl dX10_areTwoMen_20 ?_
      refine gz_callVI 9 [.int p2] [] C kn_X2 rfl rfl (ct_X2_has x.2.1 w p2 M10) cal_X2_has km_X10_194 ⟨rfl, rfl⟩ ⟨by decide, by decide⟩ rfl rfl (Nat.le_of_ble_eq_true rfl) dX10_areTwoMen_21 (fun r21 M21 => ?_)
      refine gz_ifeq C 31 dX10_areTwoMen_24 (by decide) ?_ ?_
      · refine gz_iconst (v := 0) C dX10_areTwoMen_31 (by decide) ?_
        exact gz_zret C (Or.inl rfl) dX10_areTwoMen_32
      · refine gz_iconst (v := 1) C dX10_areTwoMen_27 (by decide) ?_
        refine gz_goto C 32 dX10_areTwoMen_28 (by decide) ?_
        exact gz_zret C (Or.inr rfl) dX10_areTwoMen_32
set_option maxRecDepth 100000 in
set_option maxHeartbeats 4000000 in
theorem ct_X2_putBehind (l : Launch) (w : Wd) (p1 : Int32) (p2 : Int32) (p3 : Int32) (M : Mm) : CT l yX2_putBehind cX2_putBehind 5 (some .boolean) rm_X2_putBehind w (qI w) [.ref (w.1 9), .int p1, .int p2, .int p3] (sp_X2_putBehind p1 p2 p3 M) M := by
  refine ct_of RX2 [(0, .ref (w.1 9)), (1, .int p1), (2, .int p2), (3, .int p3)] rfl (Nat.le_of_ble_eq_true rfl) (by decide) rfl rfl rfl (fun x C => ?_)
  unfold sp_X2_putBehind
  refine gz_aloadn C 0 rfl dX2_putBehind_0 ?_
  refine gz_get C 9 3 (.ref (w.1 12)) kn_X2 rfl kf_X2_18 (by decide) dX2_putBehind_1 (fv_R rfl rfl) ?_
  refine gz_iloadn C 1 rfl dX2_putBehind_4 ?_
  refine gz_callSI [.ref (w.1 12), .int p1] [] C (ct_X10_at x.2.1 w 12 rfl p1 M) cal_X10_at (Or.inr ⟨_, List.mem_of_getElem? (i := 23) rfl⟩) ⟨rfl, rfl⟩ ⟨by decide, by decide⟩ rfl rfl (Nat.le_of_ble_eq_true rfl) dX2_putBehind_5 (fun r5 M5 => ?_)
  refine gz_istore C [(4, .int r5), (0, .ref (w.1 9)), (1, .int p1), (2, .int p2), (3, .int p3)] dX2_putBehind_8 (by decide) rfl ?_
  refine gz_aloadn C 1 rfl dX2_putBehind_10 ?_
  refine gz_get C 9 3 (.ref (w.1 12)) kn_X2 rfl kf_X2_18 (by decide) dX2_putBehind_11 (fv_R rfl rfl) ?_
  refine gz_iloadn C 2 rfl dX2_putBehind_14 ?_
  refine gz_iloadn C 4 rfl dX2_putBehind_15 ?_
  refine gz_jn (fun K34 => ∀ (t0_34 : Int32) (M_34 : Mm), G x w 5 (qI w) (K34 t0_34 M_34) M_34 [(2, .int p2), (4, .int r5)] 34 [.int t0_34, .int p1, .ref (w.1 12)]) ?_ ?_
  · intro t0_34 M_34
    refine gz_callSV [.ref (w.1 12), .int p1, .int t0_34] [] C (ct_X10_put x.2.1 w 12 rfl p1 t0_34 M_34) cal_X10_put (Or.inr ⟨_, List.mem_of_getElem? (i := 22) rfl⟩) ⟨rfl, rfl⟩ ⟨by decide, by decide⟩ rfl rfl (Nat.le_of_ble_eq_true rfl) dX2_putBehind_34 (fun _ M34 => ?_)
    refine gz_iload C 1 rfl dX2_putBehind_37 ?_
    refine gz_iloadn C 0 rfl dX2_putBehind_39 ?_
    refine gz_callSI [.int r5, .int p2] [] C (ct_X10_isIn x.2.1 w r5 p2 M34) cal_X10_isIn (Or.inr ⟨_, List.mem_of_getElem? (i := 28) rfl⟩) ⟨rfl, rfl⟩ ⟨by decide, by decide⟩ rfl rfl (Nat.le_of_ble_eq_true rfl) dX2_putBehind_40 (fun r40 M40 => ?_)
    refine gz_zb (fun hb43 => ?_)
    exact gz_zret C hb43 dX2_putBehind_43
  · intro K34 hK34
    refine gz_ifeq C 28 dX2_putBehind_16 (by decide) ?_ ?_
    · refine gz_iload C 0 rfl dX2_putBehind_28 ?_
      refine gz_iloadn C 3 rfl dX2_putBehind_30 ?_
      refine gz_callSI [.int r5, .int p2] [.int p1, .ref (w.1 12)] C (ct_X10_without x.2.1 w r5 p2 M5) cal_X10_without (Or.inr ⟨_, List.mem_of_getElem? (i := 27) rfl⟩) ⟨rfl, rfl⟩ ⟨by decide, by decide⟩ rfl rfl (Nat.le_of_ble_eq_true rfl) dX2_putBehind_31 (fun r31 M31 => ?_)
      refine gz_sub [3, 0] rfl ?_
      exact hK34 _ _
    · refine gz_iload C 0 rfl dX2_putBehind_19 ?_
      refine gz_iloadn C 3 rfl dX2_putBehind_21 ?_
      refine gz_callSI [.int r5, .int p2] [.int p1, .ref (w.1 12)] C (ct_X10_with x.2.1 w r5 p2 M5) cal_X10_with (Or.inr ⟨_, List.mem_of_getElem? (i := 26) rfl⟩) ⟨rfl, rfl⟩ ⟨by decide, by decide⟩ rfl rfl (Nat.le_of_ble_eq_true rfl) dX2_putBehind_22 (fun r22 M22 => ?_)
      refine gz_goto C 34 dX2_putBehind_25 (by decide) ?_
      refine gz_sub [3, 0] rfl ?_
      exact hK34 _ _
set_option maxRecDepth 100000 in
set_option maxHeartbeats 4000000 in
theorem ct_X10_behind (l : Launch) (w : Wd) (p1 : Int32) (p2 : Int32) (p3 : Int32) (M : Mm) : CT l yX10_behind cX10_behind 4 (some .int) rm_X10_behind w (qI w) [.ref (w.1 0), .int p1, .int p2, .int p3] (sp_X10_behind p1 p2 p3 M) M := by
  refine ct_of RX10 [(0, .ref (w.1 0)), (1, .int p1), (2, .int p2), (3, .int p3)] rfl (Nat.le_of_ble_eq_true rfl) (by decide) rfl rfl rfl (fun x C => ?_)
  unfold sp_X10_behind
  refine gz_aloadn C 0 rfl dX10_behind_0 ?_
  refine gz_iloadn C 1 rfl dX10_behind_1 ?_
  refine gz_iloadn C 2 rfl dX10_behind_2 ?_
  refine gz_callVI 0 [.int p1, .int p2] [] C kn_X10 rfl rfl (ct_X10_areTwoMen x.2.1 w p1 p2 M) cal_X10_areTwoMen km_X10_230 ⟨rfl, rfl⟩ ⟨by decide, by decide⟩ rfl rfl (Nat.le_of_ble_eq_true rfl) dX10_behind_3 (fun r3 M3 => ?_)
  refine gz_ifne C 12 dX10_behind_6 (by decide) ?_ ?_
  · refine gz_bipush (v := (-101)) C dX10_behind_9 (by decide) ?_
    exact gz_iret C dX10_behind_11
  · refine gz_aloadn C 0 rfl dX10_behind_12 ?_
    refine gz_get C 0 3 (.ref (w.1 9)) kn_X10 rfl kf_X10_33 (by decide) dX10_behind_13 (fv_R rfl rfl) ?_
    refine gz_iloadn C 1 rfl dX10_behind_16 ?_
    refine gz_iloadn C 2 rfl dX10_behind_17 ?_
    refine gz_iloadn C 3 rfl dX10_behind_18 ?_
    refine gz_callVI 9 [.int p1, .int p2, .int p3] [] C kn_X2 rfl rfl (ct_X2_putBehind x.2.1 w p1 p2 p3 M3) cal_X2_putBehind km_X10_233 ⟨rfl, rfl⟩ ⟨by decide, by decide⟩ rfl rfl (Nat.le_of_ble_eq_true rfl) dX10_behind_19 (fun r19 M19 => ?_)
    refine gz_callSI [.int r19] [] C (ct_X10_asNumber x.2.1 w r19 M19) cal_X10_asNumber (Or.inl km_X10_214) ⟨rfl, rfl⟩ ⟨by decide, by decide⟩ rfl rfl (Nat.le_of_ble_eq_true rfl) dX10_behind_22 (fun r22 M22 => ?_)
    exact gz_iret C dX10_behind_25
set_option maxRecDepth 100000 in
set_option maxHeartbeats 4000000 in
theorem ct_X10_hawser (l : Launch) (w : Wd) (p1 : Int32) (M : Mm) : CT l yX10_hawser cX10_hawser 3 (some .int) rm_X10_hawser w (qI w) [.ref (w.1 0), .int p1] (sp_X10_hawser p1 M) M := by
  refine ct_of RX10 [(0, .ref (w.1 0)), (1, .int p1)] rfl (Nat.le_of_ble_eq_true rfl) (by decide) rfl rfl rfl (fun x C => ?_)
  unfold sp_X10_hawser
  refine gz_iloadn C 1 rfl dX10_hawser_0 ?_
  refine gz_iconst (v := 0) C dX10_hawser_1 (by decide) ?_
  refine gz_bipush (v := (60)) C dX10_hawser_2 (by decide) ?_
  refine gz_callSI [.int p1, .int (0 : Int32), .int (60 : Int32)] [] C (ct_X10_isOutside x.2.1 w p1 (0 : Int32) (60 : Int32) M) cal_X10_isOutside (Or.inl km_X10_79) ⟨rfl, rfl⟩ ⟨by decide, by decide⟩ rfl rfl (Nat.le_of_ble_eq_true rfl) dX10_hawser_4 (fun r4 M4 => ?_)
  refine gz_ifeq C 13 dX10_hawser_7 (by decide) ?_ ?_
  · refine gz_aloadn C 0 rfl dX10_hawser_13 ?_
    refine gz_callVI 0 [] [] C kn_X10 rfl rfl (ct_X10_hasNight x.2.1 w M4) cal_X10_hasNight km_X10_115 ⟨rfl, rfl⟩ ⟨by decide, by decide⟩ rfl rfl (Nat.le_of_ble_eq_true rfl) dX10_hawser_14 (fun r14 M14 => ?_)
    refine gz_ifne C 23 dX10_hawser_17 (by decide) ?_ ?_
    · refine gz_bipush (v := (-103)) C dX10_hawser_20 (by decide) ?_
      exact gz_iret C dX10_hawser_22
    · refine gz_aloadn C 0 rfl dX10_hawser_23 ?_
      refine gz_get C 0 4 (.ref (w.1 13)) kn_X10 rfl kf_X10_40 (by decide) dX10_hawser_24 (fv_R rfl rfl) ?_
      refine gz_get C 13 5 (.int (gI M14 13 5)) kn_X1 rfl kf_X10_204 (by decide) dX10_hawser_27 (fv_I rfl) ?_
      refine gz_blt (fun y30 => ?_)
      refine gz_istoren C [(2, .int y30), (0, .ref (w.1 0)), (1, .int p1)] dX10_hawser_30 (by decide) rfl ?_
      refine gz_aloadn C 1 rfl dX10_hawser_31 ?_
      refine gz_get C 0 4 (.ref (w.1 13)) kn_X10 rfl kf_X10_40 (by decide) dX10_hawser_32 (fv_R rfl rfl) ?_
      refine gz_iloadn C 2 rfl dX10_hawser_35 ?_
      refine gz_putI C 13 5 kn_X1 rfl kf_X10_204 (by decide) rfl rfl (tyX1_ok 5 (by decide)) rfl rfl dX10_hawser_36 (fun M36 => ?_)
      refine gz_iloadn C 0 rfl dX10_hawser_39 ?_
      exact gz_iret C dX10_hawser_40
  · refine gz_bipush (v := (-102)) C dX10_hawser_10 (by decide) ?_
    exact gz_iret C dX10_hawser_12
set_option maxRecDepth 100000 in
set_option maxHeartbeats 4000000 in
theorem ct_X1_bringOver (l : Launch) (w : Wd) (p1 : Int32) (p2 : Int32) (M : Mm) : CT l yX1_bringOver cX1_bringOver 3 none rm_X1_bringOver w (qV w) [.ref (w.1 13), .int p1, .int p2] (sp_X1_bringOver p1 p2 M) M := by
  refine ct_of RX1 [(0, .ref (w.1 13)), (1, .int p1), (2, .int p2)] rfl (Nat.le_of_ble_eq_true rfl) (by decide) rfl rfl rfl (fun x C => ?_)
  unfold sp_X1_bringOver
  refine gz_aloadn C 0 rfl dX1_bringOver_0 ?_
  refine gz_dup C dX1_bringOver_1 rfl ?_
  refine gz_get C 13 0 (.int (gI M 13 0)) kn_X1 rfl kf_X1_25 (by decide) dX1_bringOver_2 (fv_I rfl) ?_
  refine gz_iloadn C 2 rfl dX1_bringOver_5 ?_
  refine gz_iadd C dX1_bringOver_6 ?_
  refine gz_putI C 13 0 kn_X1 rfl kf_X1_25 (by decide) rfl rfl (tyX1_ok 0 (by decide)) rfl rfl dX1_bringOver_7 (fun M7 => ?_)
  refine gz_aloadn C 0 rfl dX1_bringOver_10 ?_
  refine gz_aloadn C 0 rfl dX1_bringOver_11 ?_
  refine gz_get C 13 4 (.int (gI M7 13 4)) kn_X1 rfl kf_X1_38 (by decide) dX1_bringOver_12 (fv_I rfl) ?_
  refine gz_iloadn C 1 rfl dX1_bringOver_15 ?_
  refine gz_callSI [.int (gI M7 13 4), .int p1] [.ref (w.1 13)] C (ct_X10_with x.2.1 w (gI M7 13 4) p1 M7) cal_X10_with (Or.inr ⟨_, List.mem_of_getElem? (i := 29) rfl⟩) ⟨rfl, rfl⟩ ⟨by decide, by decide⟩ rfl rfl (Nat.le_of_ble_eq_true rfl) dX1_bringOver_16 (fun r16 M16 => ?_)
  refine gz_putI C 13 4 kn_X1 rfl kf_X1_38 (by decide) rfl rfl (tyX1_ok 4 (by decide)) rfl rfl dX1_bringOver_19 (fun M19 => ?_)
  refine gz_aloadn C 0 rfl dX1_bringOver_22 ?_
  refine gz_get C 13 8 (.ref (w.1 14)) kn_X1 rfl kf_X1_15 (by decide) dX1_bringOver_23 (fv_R rfl rfl) ?_
  refine gz_iloadn C 1 rfl dX1_bringOver_26 ?_
  refine gz_aloadn C 0 rfl dX1_bringOver_27 ?_
  refine gz_get C 13 0 (.int (gI M19 13 0)) kn_X1 rfl kf_X1_25 (by decide) dX1_bringOver_28 (fv_I rfl) ?_
  refine gz_callSV [.ref (w.1 14), .int p1, .int (gI M19 13 0)] [] C (ct_X10_put x.2.1 w 14 rfl p1 (gI M19 13 0) M19) cal_X10_put (Or.inr ⟨_, List.mem_of_getElem? (i := 30) rfl⟩) ⟨rfl, rfl⟩ ⟨by decide, by decide⟩ rfl rfl (Nat.le_of_ble_eq_true rfl) dX1_bringOver_31 (fun _ M31 => ?_)
  exact gz_vret C dX1_bringOver_34
set_option maxRecDepth 100000 in
set_option maxHeartbeats 4000000 in
theorem ct_X10_come (l : Launch) (w : Wd) (p1 : Int32) (M : Mm) : CT l yX10_come cX10_come 2 (some .int) rm_X10_come w (qI w) [.ref (w.1 0), .int p1] (sp_X10_come p1 M) M := by
  refine ct_of RX10 [(0, .ref (w.1 0)), (1, .int p1)] rfl (Nat.le_of_ble_eq_true rfl) (by decide) rfl rfl rfl (fun x C => ?_)
  unfold sp_X10_come
  refine gz_aloadn C 0 rfl dX10_come_0 ?_
  refine gz_get C 0 3 (.ref (w.1 9)) kn_X10 rfl kf_X10_33 (by decide) dX10_come_1 (fv_R rfl rfl) ?_
  refine gz_iloadn C 1 rfl dX10_come_4 ?_
  refine gz_callVI 9 [.int p1] [] C kn_X2 rfl rfl (ct_X2_has x.2.1 w p1 M) cal_X2_has km_X10_194 ⟨rfl, rfl⟩ ⟨by decide, by decide⟩ rfl rfl (Nat.le_of_ble_eq_true rfl) dX10_come_5 (fun r5 M5 => ?_)
  refine gz_ifne C 14 dX10_come_8 (by decide) ?_ ?_
  · refine gz_bipush (v := (-101)) C dX10_come_11 (by decide) ?_
    exact gz_iret C dX10_come_13
  · refine gz_aloadn C 0 rfl dX10_come_14 ?_
    refine gz_iloadn C 1 rfl dX10_come_15 ?_
    refine gz_callVI 0 [.int p1] [] C kn_X10 rfl rfl (ct_X10_mayCome x.2.1 w p1 M5) cal_X10_mayCome km_X10_224 ⟨rfl, rfl⟩ ⟨by decide, by decide⟩ rfl rfl (Nat.le_of_ble_eq_true rfl) dX10_come_16 (fun r16 M16 => ?_)
    refine gz_ifne C 25 dX10_come_19 (by decide) ?_ ?_
    · refine gz_bipush (v := (-103)) C dX10_come_22 (by decide) ?_
      exact gz_iret C dX10_come_24
    · refine gz_aloadn C 0 rfl dX10_come_25 ?_
      refine gz_get C 0 4 (.ref (w.1 13)) kn_X10 rfl kf_X10_40 (by decide) dX10_come_26 (fv_R rfl rfl) ?_
      refine gz_iloadn C 1 rfl dX10_come_29 ?_
      refine gz_aloadn C 0 rfl dX10_come_30 ?_
      refine gz_get C 0 3 (.ref (w.1 9)) kn_X10 rfl kf_X10_33 (by decide) dX10_come_31 (fv_R rfl rfl) ?_
      refine gz_iloadn C 1 rfl dX10_come_34 ?_
      refine gz_aloadn C 0 rfl dX10_come_35 ?_
      refine gz_get C 0 1 (.ref (w.1 3)) kn_X10 rfl kf_X10_19 (by decide) dX10_come_36 (fv_R rfl rfl) ?_
      refine gz_get C 3 0 (.int (gI M16 3 0)) kn_X7 rfl kf_X10_201 (by decide) dX10_come_39 (fv_I rfl) ?_
      refine gz_aloadn C 0 rfl dX10_come_42 ?_
      refine gz_get C 0 4 (.ref (w.1 13)) kn_X10 rfl kf_X10_40 (by decide) dX10_come_43 (fv_R rfl rfl) ?_
      refine gz_get C 13 5 (.int (gI M16 13 5)) kn_X1 rfl kf_X10_204 (by decide) dX10_come_46 (fv_I rfl) ?_
      refine gz_callVI 9 [.int p1, .int (gI M16 3 0), .int (gI M16 13 5)] [.int p1, .ref (w.1 13)] C kn_X2 rfl rfl (ct_X2_takes x.2.1 w p1 (gI M16 3 0) (gI M16 13 5) M16) cal_X2_takes km_X10_207 ⟨rfl, rfl⟩ ⟨by decide, by decide⟩ rfl rfl (Nat.le_of_ble_eq_true rfl) dX10_come_49 (fun r49 M49 => ?_)
      refine gz_callVV 13 [.int p1, .int r49] [] C kn_X1 rfl rfl (ct_X1_bringOver x.2.1 w p1 r49 M49) cal_X1_bringOver km_X10_237 ⟨rfl, rfl⟩ ⟨by decide, by decide⟩ rfl rfl (Nat.le_of_ble_eq_true rfl) dX10_come_52 (fun _ M52 => ?_)
      refine gz_aloadn C 0 rfl dX10_come_55 ?_
      refine gz_get C 0 4 (.ref (w.1 13)) kn_X10 rfl kf_X10_40 (by decide) dX10_come_56 (fv_R rfl rfl) ?_
      refine gz_get C 13 0 (.int (gI M52 13 0)) kn_X1 rfl kf_X10_241 (by decide) dX10_come_59 (fv_I rfl) ?_
      exact gz_iret C dX10_come_62
set_option maxRecDepth 100000 in
set_option maxHeartbeats 4000000 in
theorem ct_X10_minutes (l : Launch) (w : Wd) (p1 : Int32) (M : Mm) : CT l yX10_minutes cX10_minutes 2 (some .int) rm_X10_minutes w (qI w) [.ref (w.1 0), .int p1] (sp_X10_minutes p1 M) M := by
  refine ct_of RX10 [(0, .ref (w.1 0)), (1, .int p1)] rfl (Nat.le_of_ble_eq_true rfl) (by decide) rfl rfl rfl (fun x C => ?_)
  unfold sp_X10_minutes
  refine gz_iloadn C 1 rfl dX10_minutes_0 ?_
  refine gz_iconst (v := 1) C dX10_minutes_1 (by decide) ?_
  refine gz_bipush (v := (50)) C dX10_minutes_2 (by decide) ?_
  refine gz_callSI [.int p1, .int (1 : Int32), .int (50 : Int32)] [] C (ct_X10_isOutside x.2.1 w p1 (1 : Int32) (50 : Int32) M) cal_X10_isOutside (Or.inl km_X10_79) ⟨rfl, rfl⟩ ⟨by decide, by decide⟩ rfl rfl (Nat.le_of_ble_eq_true rfl) dX10_minutes_4 (fun r4 M4 => ?_)
  refine gz_ifeq C 13 dX10_minutes_7 (by decide) ?_ ?_
  · refine gz_aloadn C 0 rfl dX10_minutes_13 ?_
    refine gz_callVI 0 [] [] C kn_X10 rfl rfl (ct_X10_isAfloat x.2.1 w M4) cal_X10_isAfloat km_X10_244 ⟨rfl, rfl⟩ ⟨by decide, by decide⟩ rfl rfl (Nat.le_of_ble_eq_true rfl) dX10_minutes_14 (fun r14 M14 => ?_)
    refine gz_ifeq C 39 dX10_minutes_17 (by decide) ?_ ?_
    · refine gz_bipush (v := (-103)) C dX10_minutes_39 (by decide) ?_
      exact gz_iret C dX10_minutes_41
    · refine gz_aloadn C 0 rfl dX10_minutes_20 ?_
      refine gz_get C 0 4 (.ref (w.1 13)) kn_X10 rfl kf_X10_40 (by decide) dX10_minutes_21 (fv_R rfl rfl) ?_
      refine gz_get C 13 0 (.int (gI M14 13 0)) kn_X1 rfl kf_X10_241 (by decide) dX10_minutes_24 (fv_I rfl) ?_
      refine gz_iloadn C 1 rfl dX10_minutes_27 ?_
      refine gz_iadd C dX10_minutes_28 ?_
      refine gz_aloadn C 0 rfl dX10_minutes_29 ?_
      refine gz_get C 0 1 (.ref (w.1 3)) kn_X10 rfl kf_X10_19 (by decide) dX10_minutes_30 (fv_R rfl rfl) ?_
      refine gz_callVI 3 [] [.int ((gI M14 13 0) + p1)] C kn_X7 rfl rfl (ct_X7_endMinute x.2.1 w M14) cal_X7_endMinute km_X10_247 ⟨rfl, rfl⟩ ⟨by decide, by decide⟩ rfl rfl (Nat.le_of_ble_eq_true rfl) dX10_minutes_33 (fun r33 M33 => ?_)
      refine gz_icmplt C 42 dX10_minutes_36 (by decide) ?_ ?_
      · refine gz_aloadn C 0 rfl dX10_minutes_42 ?_
        refine gz_get C 0 4 (.ref (w.1 13)) kn_X10 rfl kf_X10_40 (by decide) dX10_minutes_43 (fv_R rfl rfl) ?_
        refine gz_dup C dX10_minutes_46 rfl ?_
        refine gz_get C 13 0 (.int (gI M33 13 0)) kn_X1 rfl kf_X10_241 (by decide) dX10_minutes_47 (fv_I rfl) ?_
        refine gz_iloadn C 1 rfl dX10_minutes_50 ?_
        refine gz_iadd C dX10_minutes_51 ?_
        refine gz_putI C 13 0 kn_X1 rfl kf_X10_241 (by decide) rfl rfl (tyX1_ok 0 (by decide)) rfl rfl dX10_minutes_52 (fun M52 => ?_)
        refine gz_aloadn C 0 rfl dX10_minutes_55 ?_
        refine gz_get C 0 4 (.ref (w.1 13)) kn_X10 rfl kf_X10_40 (by decide) dX10_minutes_56 (fv_R rfl rfl) ?_
        refine gz_get C 13 0 (.int (gI M52 13 0)) kn_X1 rfl kf_X10_241 (by decide) dX10_minutes_59 (fv_I rfl) ?_
        exact gz_iret C dX10_minutes_62
      · refine gz_bipush (v := (-103)) C dX10_minutes_39 (by decide) ?_
        exact gz_iret C dX10_minutes_41
  · refine gz_bipush (v := (-102)) C dX10_minutes_10 (by decide) ?_
    exact gz_iret C dX10_minutes_12
set_option maxRecDepth 100000 in
set_option maxHeartbeats 4000000 in
theorem ct_J6_bitCount_0f7a4 (l : Launch) (w : Wd) (p0 : Int32) (M : Mm) : CT l yJ6_bitCount_0f7a4 cJ6_bitCount_0f7a4 1 (some .int) rm_J6_bitCount_0f7a4 w (qI w) [.int p0] (sp_J6_bitCount_0f7a4 p0 M) M := by
  refine ct_of RJ6 [(0, .int p0)] rfl (Nat.le_of_ble_eq_true rfl) (by decide) rfl rfl rfl (fun x C => ?_)
  unfold sp_J6_bitCount_0f7a4
  refine gz_iloadn C 0 rfl dJ6_bitCount_0f7a4_0 ?_
  refine gz_iloadn C 0 rfl dJ6_bitCount_0f7a4_1 ?_
  refine gz_iconst (v := 1) C dJ6_bitCount_0f7a4_2 (by decide) ?_
  refine gz_iushr C dJ6_bitCount_0f7a4_3 ?_
  refine gz_ldcw C kc_J6_265 dJ6_bitCount_0f7a4_4 ?_
  refine gz_iand C dJ6_bitCount_0f7a4_7 ?_
  refine gz_isub C dJ6_bitCount_0f7a4_8 ?_
  refine gz_blt (fun y9 => ?_)
  refine gz_istoren C [(0, .int y9)] dJ6_bitCount_0f7a4_9 (by decide) rfl ?_
  refine gz_iloadn C 0 rfl dJ6_bitCount_0f7a4_10 ?_
  refine gz_ldcw C kc_J6_266 dJ6_bitCount_0f7a4_11 ?_
  refine gz_iand C dJ6_bitCount_0f7a4_14 ?_
  refine gz_iloadn C 0 rfl dJ6_bitCount_0f7a4_15 ?_
  refine gz_iconst (v := 2) C dJ6_bitCount_0f7a4_16 (by decide) ?_
  refine gz_iushr C dJ6_bitCount_0f7a4_17 ?_
  refine gz_ldcw C kc_J6_266 dJ6_bitCount_0f7a4_18 ?_
  refine gz_iand C dJ6_bitCount_0f7a4_21 ?_
  refine gz_iadd C dJ6_bitCount_0f7a4_22 ?_
  refine gz_blt (fun y23 => ?_)
  refine gz_istoren C [(0, .int y23)] dJ6_bitCount_0f7a4_23 (by decide) rfl ?_
  refine gz_iloadn C 0 rfl dJ6_bitCount_0f7a4_24 ?_
  refine gz_iloadn C 0 rfl dJ6_bitCount_0f7a4_25 ?_
  refine gz_iconst (v := 4) C dJ6_bitCount_0f7a4_26 (by decide) ?_
  refine gz_iushr C dJ6_bitCount_0f7a4_27 ?_
  refine gz_iadd C dJ6_bitCount_0f7a4_28 ?_
  refine gz_ldcw C kc_J6_267 dJ6_bitCount_0f7a4_29 ?_
  refine gz_iand C dJ6_bitCount_0f7a4_32 ?_
  refine gz_blt (fun y33 => ?_)
  refine gz_istoren C [(0, .int y33)] dJ6_bitCount_0f7a4_33 (by decide) rfl ?_
  refine gz_iloadn C 0 rfl dJ6_bitCount_0f7a4_34 ?_
  refine gz_iloadn C 0 rfl dJ6_bitCount_0f7a4_35 ?_
  refine gz_bipush (v := (8)) C dJ6_bitCount_0f7a4_36 (by decide) ?_
  refine gz_iushr C dJ6_bitCount_0f7a4_38 ?_
  refine gz_iadd C dJ6_bitCount_0f7a4_39 ?_
  refine gz_blt (fun y40 => ?_)
  refine gz_istoren C [(0, .int y40)] dJ6_bitCount_0f7a4_40 (by decide) rfl ?_
  refine gz_iloadn C 0 rfl dJ6_bitCount_0f7a4_41 ?_
  refine gz_iloadn C 0 rfl dJ6_bitCount_0f7a4_42 ?_
  refine gz_bipush (v := (16)) C dJ6_bitCount_0f7a4_43 (by decide) ?_
  refine gz_iushr C dJ6_bitCount_0f7a4_45 ?_
  refine gz_iadd C dJ6_bitCount_0f7a4_46 ?_
  refine gz_blt (fun y47 => ?_)
  refine gz_istoren C [(0, .int y47)] dJ6_bitCount_0f7a4_47 (by decide) rfl ?_
  refine gz_iloadn C 0 rfl dJ6_bitCount_0f7a4_48 ?_
  refine gz_bipush (v := (63)) C dJ6_bitCount_0f7a4_49 (by decide) ?_
  refine gz_iand C dJ6_bitCount_0f7a4_51 ?_
  exact gz_iret C dJ6_bitCount_0f7a4_52
set_option maxRecDepth 100000 in
set_option maxHeartbeats 4000000 in
theorem ct_X10_breaks (l : Launch) (w : Wd) (M : Mm) : CT l yX10_breaks cX10_breaks 1 (some .int) rm_X10_breaks w (qI w) [.ref (w.1 0)] (sp_X10_breaks M) M := by
  refine ct_of RX10 [(0, .ref (w.1 0))] rfl (Nat.le_of_ble_eq_true rfl) (by decide) rfl rfl rfl (fun x C => ?_)
  unfold sp_X10_breaks
  refine gz_aloadn C 0 rfl dX10_breaks_0 ?_
  refine gz_callVI 0 [] [] C kn_X10 rfl rfl (ct_X10_isAfloat x.2.1 w M) cal_X10_isAfloat km_X10_244 ⟨rfl, rfl⟩ ⟨by decide, by decide⟩ rfl rfl (Nat.le_of_ble_eq_true rfl) dX10_breaks_1 (fun r1 M1 => ?_)
  refine gz_ifne C 10 dX10_breaks_4 (by decide) ?_ ?_
  · refine gz_bipush (v := (-103)) C dX10_breaks_7 (by decide) ?_
    exact gz_iret C dX10_breaks_9
  · refine gz_aloadn C 0 rfl dX10_breaks_10 ?_
    refine gz_get C 0 4 (.ref (w.1 13)) kn_X10 rfl kf_X10_40 (by decide) dX10_breaks_11 (fv_R rfl rfl) ?_
    refine gz_iconst (v := 1) C dX10_breaks_14 (by decide) ?_
    refine gz_putI C 13 2 kn_X1 rfl kf_X10_139 (by decide) rfl rfl (tyX1_ok 2 (by decide)) (nrw_z (Or.inr rfl)) (fit_z (Or.inr rfl)) dX10_breaks_15 (fun M15 => ?_)
    refine gz_aloadn C 0 rfl dX10_breaks_18 ?_
    refine gz_get C 0 3 (.ref (w.1 9)) kn_X10 rfl kf_X10_33 (by decide) dX10_breaks_19 (fv_R rfl rfl) ?_
    refine gz_get C 9 0 (.int (gI M15 9 0)) kn_X2 rfl kf_X10_192 (by decide) dX10_breaks_22 (fv_I rfl) ?_
    refine gz_aloadn C 0 rfl dX10_breaks_25 ?_
    refine gz_get C 0 4 (.ref (w.1 13)) kn_X10 rfl kf_X10_40 (by decide) dX10_breaks_26 (fv_R rfl rfl) ?_
    refine gz_get C 13 4 (.int (gI M15 13 4)) kn_X1 rfl kf_X10_218 (by decide) dX10_breaks_29 (fv_I rfl) ?_
    refine gz_callSI [.int (gI M15 13 4)] [.int (gI M15 9 0)] C (ct_J6_bitCount_0f7a4 x.2.1 w (gI M15 13 4) M15) cal_J6_bitCount_0f7a4 (Or.inl km_X10_250) ⟨rfl, rfl⟩ ⟨by decide, by decide⟩ rfl rfl (Nat.le_of_ble_eq_true rfl) dX10_breaks_32 (fun r32 M32 => ?_)
    refine gz_isub C dX10_breaks_35 ?_
    exact gz_iret C dX10_breaks_36
set_option maxRecDepth 100000 in
set_option maxHeartbeats 4000000 in
theorem ct_X2_all (l : Launch) (w : Wd) (M : Mm) : CT l yX2_all cX2_all 1 (some .int) rm_X2_all w (qI w) [.ref (w.1 9)] (sp_X2_all M) M := by
  refine ct_of RX2 [(0, .ref (w.1 9))] rfl (Nat.le_of_ble_eq_true rfl) (by decide) rfl rfl rfl (fun x C => ?_)
  unfold sp_X2_all
  refine gz_iconst (v := 1) C dX2_all_0 (by decide) ?_
  refine gz_aloadn C 0 rfl dX2_all_1 ?_
  refine gz_get C 9 0 (.int (gI M 9 0)) kn_X2 rfl kf_X2_21 (by decide) dX2_all_2 (fv_I rfl) ?_
  refine gz_ishl C dX2_all_5 ?_
  refine gz_iconst (v := 1) C dX2_all_6 (by decide) ?_
  refine gz_isub C dX2_all_7 ?_
  exact gz_iret C dX2_all_8
set_option maxRecDepth 100000 in
set_option maxHeartbeats 4000000 in
theorem ct_X4_findNext (l : Launch) (w : Wd) (p2 : Int32) (M : Mm) : CT l yX4_findNext cX4_findNext 6 none rm_X4_findNext w (qV w) [.ref (w.1 24), .ref (w.1 9), .int p2] (sp_X4_findNext p2 M) M := by
  refine ct_of RX4 [(0, .ref (w.1 24)), (1, .ref (w.1 9)), (2, .int p2)] rfl (Nat.le_of_ble_eq_true rfl) (by decide) rfl rfl rfl (fun x C => ?_)
  unfold sp_X4_findNext
  refine gz_aloadn C 0 rfl dX4_findNext_0 ?_
  refine gz_iloadn C 2 rfl dX4_findNext_1 ?_
  refine gz_aloadn C 1 rfl dX4_findNext_2 ?_
  refine gz_callVI 9 [] [.int p2, .ref (w.1 24)] C kn_X2 rfl rfl (ct_X2_all x.2.1 w M) cal_X2_all km_X4_28 ⟨rfl, rfl⟩ ⟨by decide, by decide⟩ rfl rfl (Nat.le_of_ble_eq_true rfl) dX4_findNext_3 (fun r3 M3 => ?_)
  refine gz_jn (fun K16 => ∀ (t0_16 : Int64), G x w 6 (qV w) (K16 t0_16) M3 [(0, .ref (w.1 24)), (1, .ref (w.1 9)), (2, .int p2)] 16 [.long t0_16, .ref (w.1 24)]) ?_ ?_
  · intro t0_16
    refine gz_putJ C 24 0 kn_X4 rfl kf_X4_54 (by decide) rfl rfl (tyX4_ok 0 (by decide)) rfl rfl dX4_findNext_16 (fun M16 => ?_)
    refine gz_aloadn C 0 rfl dX4_findNext_19 ?_
    refine gz_get C 24 3 (.ref (w.1 26)) kn_X4 rfl kf_X4_15 (by decide) dX4_findNext_20 (fv_R rfl rfl) ?_
    refine gz_iloadn C 2 rfl dX4_findNext_23 ?_
    refine gz_iconst (v := (-1)) C dX4_findNext_24 (by decide) ?_
    refine gz_callSV [.ref (w.1 26), .int p2, .int (-1 : Int32)] [] C (ct_X10_put x.2.1 w 26 rfl p2 (-1 : Int32) M16) cal_X10_put (Or.inr ⟨_, List.mem_of_getElem? (i := 32) rfl⟩) ⟨rfl, rfl⟩ ⟨by decide, by decide⟩ rfl rfl (Nat.le_of_ble_eq_true rfl) dX4_findNext_25 (fun _ M25 => ?_)
    refine gz_iconst (v := 0) C dX4_findNext_28 (by decide) ?_
    refine gz_istoren C [(3, .int (0 : Int32)), (0, .ref (w.1 24)), (1, .ref (w.1 9)), (2, .int p2)] dX4_findNext_29 (by decide) rfl ?_
    have hL30 : ∀ (n30 : Nat) (v3_30 : Int32) (M_30 : Mm), G x w 6 (qV w) (sp_X4_findNext_L30 p2 n30 v3_30 M_30) M_30 [(0, .ref (w.1 24)), (1, .ref (w.1 9)), (2, .int p2), (3, .int v3_30)] 30 [] := by
      intro n30
      induction n30 with
      | zero => intros; exact gz_none
      | succ n30 ih30 =>
        intro v3_30 M_30
        rw [sp_X4_findNext_L30]
        refine gz_iloadn C 3 rfl dX4_findNext_30 ?_
        refine gz_aloadn C 1 rfl dX4_findNext_31 ?_
        refine gz_get C 9 0 (.int (gI M_30 9 0)) kn_X2 rfl kf_X4_75 (by decide) dX4_findNext_32 (fv_I rfl) ?_
        refine gz_icmpge C 103 dX4_findNext_35 (by decide) ?_ ?_
        · refine gz_iloadn C 2 rfl dX4_findNext_38 ?_
          refine gz_iloadn C 3 rfl dX4_findNext_39 ?_
          refine gz_callSI [.int p2, .int v3_30] [] C (ct_X10_isIn x.2.1 w p2 v3_30 M_30) cal_X10_isIn (Or.inr ⟨_, List.mem_of_getElem? (i := 33) rfl⟩) ⟨rfl, rfl⟩ ⟨by decide, by decide⟩ rfl rfl (Nat.le_of_ble_eq_true rfl) dX4_findNext_40 (fun r40 M40 => ?_)
          refine gz_ifne C 97 dX4_findNext_43 (by decide) ?_ ?_
          · refine gz_iloadn C 2 rfl dX4_findNext_46 ?_
            refine gz_aloadn C 1 rfl dX4_findNext_47 ?_
            refine gz_iloadn C 3 rfl dX4_findNext_48 ?_
            refine gz_callVI 9 [.int v3_30] [.int p2] C kn_X2 rfl rfl (ct_X2_ahead x.2.1 w v3_30 M40) cal_X2_ahead km_X4_81 ⟨rfl, rfl⟩ ⟨by decide, by decide⟩ rfl rfl (Nat.le_of_ble_eq_true rfl) dX4_findNext_49 (fun r49 M49 => ?_)
            refine gz_callSI [.int p2, .int r49] [] C (ct_X10_holdsAll x.2.1 w p2 r49 M49) cal_X10_holdsAll (Or.inr ⟨_, List.mem_of_getElem? (i := 31) rfl⟩) ⟨rfl, rfl⟩ ⟨by decide, by decide⟩ rfl rfl (Nat.le_of_ble_eq_true rfl) dX4_findNext_52 (fun r52 M52 => ?_)
            refine gz_ifeq C 97 dX4_findNext_55 (by decide) ?_ ?_
            · refine gz_iinc (v' := v3_30 + 1) C 3 [(3, .int (v3_30 + 1)), (0, .ref (w.1 24)), (1, .ref (w.1 9)), (2, .int p2)] rfl dX4_findNext_97 rfl (by decide) rfl ?_
              refine gz_goto C 30 dX4_findNext_100 (by decide) ?_
              refine gz_sub [1, 2, 3, 0] rfl ?_
              exact ih30 _ _
            · refine gz_aloadn C 0 rfl dX4_findNext_58 ?_
              refine gz_get C 24 2 (.ref (w.1 25)) kn_X4 rfl kf_X4_9 (by decide) dX4_findNext_59 (fv_R rfl rfl) ?_
              refine gz_iloadn C 2 rfl dX4_findNext_62 ?_
              refine gz_iloadn C 3 rfl dX4_findNext_63 ?_
              refine gz_callSI [.int p2, .int v3_30] [.ref (w.1 25)] C (ct_X10_with x.2.1 w p2 v3_30 M52) cal_X10_with (Or.inr ⟨_, List.mem_of_getElem? (i := 34) rfl⟩) ⟨rfl, rfl⟩ ⟨by decide, by decide⟩ rfl rfl (Nat.le_of_ble_eq_true rfl) dX4_findNext_64 (fun r64 M64 => ?_)
              refine gz_callSJ [.ref (w.1 25), .int r64] [] C (ct_X10_at_ x.2.1 w 25 rfl r64 M64) cal_X10_at_ (Or.inr ⟨_, List.mem_of_getElem? (i := 35) rfl⟩) ⟨rfl, rfl⟩ ⟨by decide, by decide⟩ rfl rfl (Nat.le_of_ble_eq_true rfl) dX4_findNext_67 (fun r67 M67 => ?_)
              refine gz_lstore C [(4, .long r67), (0, .ref (w.1 24)), (1, .ref (w.1 9)), (2, .int p2), (3, .int v3_30)] dX4_findNext_70 (by decide) rfl ?_
              refine gz_lload C 0 rfl dX4_findNext_72 ?_
              refine gz_aloadn C 1 rfl dX4_findNext_74 ?_
              refine gz_get C 24 0 (.long (gJ M67 24 0)) kn_X4 rfl kf_X4_54 (by decide) dX4_findNext_75 (fv_J rfl) ?_
              refine gz_lcmp C dX4_findNext_78 ?_
              refine gz_cnd (lc_gt r67 (gJ M67 24 0)) ?_
              refine gz_ifle C 97 dX4_findNext_79 (by decide) ?_ ?_
              · refine gz_aloadn C 1 rfl dX4_findNext_82 ?_
                refine gz_lload C 0 rfl dX4_findNext_83 ?_
                refine gz_putJ C 24 0 kn_X4 rfl kf_X4_54 (by decide) rfl rfl (tyX4_ok 0 (by decide)) rfl rfl dX4_findNext_85 (fun M85 => ?_)
                refine gz_aloadn C 1 rfl dX4_findNext_88 ?_
                refine gz_get C 24 3 (.ref (w.1 26)) kn_X4 rfl kf_X4_15 (by decide) dX4_findNext_89 (fv_R rfl rfl) ?_
                refine gz_iloadn C 3 rfl dX4_findNext_92 ?_
                refine gz_iloadn C 4 rfl dX4_findNext_93 ?_
                refine gz_callSV [.ref (w.1 26), .int p2, .int v3_30] [] C (ct_X10_put x.2.1 w 26 rfl p2 v3_30 M85) cal_X10_put (Or.inr ⟨_, List.mem_of_getElem? (i := 32) rfl⟩) ⟨rfl, rfl⟩ ⟨by decide, by decide⟩ rfl rfl (Nat.le_of_ble_eq_true rfl) dX4_findNext_94 (fun _ M94 => ?_)
                refine gz_iinc (v' := v3_30 + 1) C 4 [(3, .int (v3_30 + 1)), (4, .long r67), (0, .ref (w.1 24)), (1, .ref (w.1 9)), (2, .int p2)] rfl dX4_findNext_97 rfl (by decide) rfl ?_
                refine gz_goto C 30 dX4_findNext_100 (by decide) ?_
                refine gz_sub [2, 3, 4, 0] rfl ?_
                exact ih30 _ _
              · refine gz_iinc (v' := v3_30 + 1) C 4 [(3, .int (v3_30 + 1)), (4, .long r67), (0, .ref (w.1 24)), (1, .ref (w.1 9)), (2, .int p2)] rfl dX4_findNext_97 rfl (by decide) rfl ?_
                refine gz_goto C 30 dX4_findNext_100 (by decide) ?_
                refine gz_sub [2, 3, 4, 0] rfl ?_
                exact ih30 _ _
          · refine gz_iinc (v' := v3_30 + 1) C 3 [(3, .int (v3_30 + 1)), (0, .ref (w.1 24)), (1, .ref (w.1 9)), (2, .int p2)] rfl dX4_findNext_97 rfl (by decide) rfl ?_
            refine gz_goto C 30 dX4_findNext_100 (by decide) ?_
            refine gz_sub [1, 2, 3, 0] rfl ?_
            exact ih30 _ _
        · exact gz_vret C dX4_findNext_103
    refine gz_sub [1, 2, 3, 0] rfl ?_
    exact hL30 fu _ _
  · intro K16 hK16
    refine gz_icmpne C 13 dX4_findNext_6 (by decide) ?_ ?_
    · refine gz_lconst (v := 0) C dX4_findNext_9 (by decide) ?_
      refine gz_goto C 16 dX4_findNext_10 (by decide) ?_
      exact hK16 _
    · refine gz_ldc2 C kl_X4_58 dX4_findNext_13 ?_
      exact hK16 _
set_option maxRecDepth 100000 in
set_option maxHeartbeats 4000000 in
theorem ct_X4_minuteWith (l : Launch) (w : Wd) (p3 : Int32) (M : Mm) : CT l yX4_minuteWith cX4_minuteWith 6 (some .int) rm_X4_minuteWith w (qI w) [.ref (w.1 3), .ref (w.1 9), .ref (w.1 13), .int p3] (sp_X4_minuteWith p3 M) M := by
  refine ct_of RX4 [(0, .ref (w.1 3)), (1, .ref (w.1 9)), (2, .ref (w.1 13)), (3, .int p3)] rfl (Nat.le_of_ble_eq_true rfl) (by decide) rfl rfl rfl (fun x C => ?_)
  unfold sp_X4_minuteWith
  refine gz_aloadn C 2 rfl dX4_minuteWith_0 ?_
  refine gz_get C 13 0 (.int (gI M 13 0)) kn_X1 rfl kf_X4_88 (by decide) dX4_minuteWith_1 (fv_I rfl) ?_
  refine gz_blt (fun y4 => ?_)
  refine gz_istore C [(4, .int y4), (0, .ref (w.1 3)), (1, .ref (w.1 9)), (2, .ref (w.1 13)), (3, .int p3)] dX4_minuteWith_4 (by decide) rfl ?_
  refine gz_iconst (v := 0) C dX4_minuteWith_6 (by decide) ?_
  refine gz_istore C [(5, .int (0 : Int32)), (4, .int y4), (0, .ref (w.1 3)), (1, .ref (w.1 9)), (2, .ref (w.1 13)), (3, .int p3)] dX4_minuteWith_7 (by decide) rfl ?_
  have hL9 : ∀ (n9 : Nat) (v4_9 : Int32) (v5_9 : Int32) (M_9 : Mm), G x w 6 (qI w) (sp_X4_minuteWith_L9 p3 n9 v4_9 v5_9 M_9) M_9 [(0, .ref (w.1 3)), (1, .ref (w.1 9)), (2, .ref (w.1 13)), (3, .int p3), (4, .int v4_9), (5, .int v5_9)] 9 [] := by
    intro n9
    induction n9 with
    | zero => intros; exact gz_none
    | succ n9 ih9 =>
      intro v4_9 v5_9 M_9
      rw [sp_X4_minuteWith_L9]
      refine gz_iload C 5 rfl dX4_minuteWith_9 ?_
      refine gz_aloadn C 1 rfl dX4_minuteWith_11 ?_
      refine gz_get C 9 0 (.int (gI M_9 9 0)) kn_X2 rfl kf_X4_75 (by decide) dX4_minuteWith_12 (fv_I rfl) ?_
      refine gz_icmpge C 64 dX4_minuteWith_15 (by decide) ?_ ?_
      · refine gz_iloadn C 3 rfl dX4_minuteWith_18 ?_
        refine gz_iload C 5 rfl dX4_minuteWith_19 ?_
        refine gz_callSI [.int p3, .int v5_9] [] C (ct_X10_isIn x.2.1 w p3 v5_9 M_9) cal_X10_isIn (Or.inr ⟨_, List.mem_of_getElem? (i := 33) rfl⟩) ⟨rfl, rfl⟩ ⟨by decide, by decide⟩ rfl rfl (Nat.le_of_ble_eq_true rfl) dX4_minuteWith_21 (fun r21 M21 => ?_)
        refine gz_ifeq C 58 dX4_minuteWith_24 (by decide) ?_ ?_
        · refine gz_iinc (v' := v5_9 + 1) C 5 [(5, .int (v5_9 + 1)), (0, .ref (w.1 3)), (1, .ref (w.1 9)), (2, .ref (w.1 13)), (3, .int p3), (4, .int v4_9)] rfl dX4_minuteWith_58 rfl (by decide) rfl ?_
          refine gz_goto C 9 dX4_minuteWith_61 (by decide) ?_
          refine gz_sub [1, 2, 3, 4, 5, 0] rfl ?_
          exact ih9 _ _ _
        · refine gz_aloadn C 2 rfl dX4_minuteWith_27 ?_
          refine gz_get C 13 4 (.int (gI M21 13 4)) kn_X1 rfl kf_X4_19 (by decide) dX4_minuteWith_28 (fv_I rfl) ?_
          refine gz_iload C 5 rfl dX4_minuteWith_31 ?_
          refine gz_callSI [.int (gI M21 13 4), .int v5_9] [] C (ct_X10_isIn x.2.1 w (gI M21 13 4) v5_9 M21) cal_X10_isIn (Or.inr ⟨_, List.mem_of_getElem? (i := 33) rfl⟩) ⟨rfl, rfl⟩ ⟨by decide, by decide⟩ rfl rfl (Nat.le_of_ble_eq_true rfl) dX4_minuteWith_33 (fun r33 M33 => ?_)
          refine gz_ifne C 58 dX4_minuteWith_36 (by decide) ?_ ?_
          · refine gz_iload C 4 rfl dX4_minuteWith_39 ?_
            refine gz_aloadn C 1 rfl dX4_minuteWith_41 ?_
            refine gz_iload C 5 rfl dX4_minuteWith_42 ?_
            refine gz_aloadn C 0 rfl dX4_minuteWith_44 ?_
            refine gz_get C 3 0 (.int (gI M33 3 0)) kn_X7 rfl kf_X4_91 (by decide) dX4_minuteWith_45 (fv_I rfl) ?_
            refine gz_aloadn C 2 rfl dX4_minuteWith_48 ?_
            refine gz_get C 13 5 (.int (gI M33 13 5)) kn_X1 rfl kf_X4_96 (by decide) dX4_minuteWith_49 (fv_I rfl) ?_
            refine gz_callVI 9 [.int v5_9, .int (gI M33 3 0), .int (gI M33 13 5)] [.int v4_9] C kn_X2 rfl rfl (ct_X2_takes x.2.1 w v5_9 (gI M33 3 0) (gI M33 13 5) M33) cal_X2_takes km_X4_99 ⟨rfl, rfl⟩ ⟨by decide, by decide⟩ rfl rfl (Nat.le_of_ble_eq_true rfl) dX4_minuteWith_52 (fun r52 M52 => ?_)
            refine gz_iadd C dX4_minuteWith_55 ?_
            refine gz_blt (fun y56 => ?_)
            refine gz_istore C [(4, .int y56), (0, .ref (w.1 3)), (1, .ref (w.1 9)), (2, .ref (w.1 13)), (3, .int p3), (5, .int v5_9)] dX4_minuteWith_56 (by decide) rfl ?_
            refine gz_iinc (v' := v5_9 + 1) C 5 [(5, .int (v5_9 + 1)), (4, .int y56), (0, .ref (w.1 3)), (1, .ref (w.1 9)), (2, .ref (w.1 13)), (3, .int p3)] rfl dX4_minuteWith_58 rfl (by decide) rfl ?_
            refine gz_goto C 9 dX4_minuteWith_61 (by decide) ?_
            refine gz_sub [2, 3, 4, 5, 1, 0] rfl ?_
            exact ih9 _ _ _
          · refine gz_iinc (v' := v5_9 + 1) C 5 [(5, .int (v5_9 + 1)), (0, .ref (w.1 3)), (1, .ref (w.1 9)), (2, .ref (w.1 13)), (3, .int p3), (4, .int v4_9)] rfl dX4_minuteWith_58 rfl (by decide) rfl ?_
            refine gz_goto C 9 dX4_minuteWith_61 (by decide) ?_
            refine gz_sub [1, 2, 3, 4, 5, 0] rfl ?_
            exact ih9 _ _ _
      · refine gz_iload C 4 rfl dX4_minuteWith_64 ?_
        exact gz_iret C dX4_minuteWith_66
  refine gz_sub [2, 3, 4, 5, 1, 0] rfl ?_
  exact hL9 fu _ _ _
set_option maxRecDepth 100000 in
set_option maxHeartbeats 4000000 in
theorem ct_X4_holding (l : Launch) (w : Wd) (p2 : Int32) (M : Mm) : CT l yX4_holding cX4_holding 6 (some .long) rm_X4_holding w (qJ w) [.ref (w.1 3), .ref (w.1 13), .int p2] (sp_X4_holding p2 M) M := by
  refine ct_of RX4 [(0, .ref (w.1 3)), (1, .ref (w.1 13)), (2, .int p2)] rfl (Nat.le_of_ble_eq_true rfl) (by decide) rfl rfl rfl (fun x C => ?_)
  unfold sp_X4_holding
  refine gz_ldc2 C kl_X4_103 dX4_holding_0 ?_
  refine gz_lstoren C [(3, .long (1000000000 : Int64)), (0, .ref (w.1 3)), (1, .ref (w.1 13)), (2, .int p2)] dX4_holding_3 (by decide) rfl ?_
  refine gz_aloadn C 2 rfl dX4_holding_4 ?_
  refine gz_callVI 13 [] [] C kn_X1 rfl rfl (ct_X1_stage x.2.1 w M) cal_X1_stage km_X4_105 ⟨rfl, rfl⟩ ⟨by decide, by decide⟩ rfl rfl (Nat.le_of_ble_eq_true rfl) dX4_holding_5 (fun r5 M5 => ?_)
  refine gz_istore C [(5, .int r5), (3, .long (1000000000 : Int64)), (0, .ref (w.1 3)), (1, .ref (w.1 13)), (2, .int p2)] dX4_holding_8 (by decide) rfl ?_
  have hL10 : ∀ (n10 : Nat) (v3_10 : Int64) (v5_10 : Int32) (M_10 : Mm), G x w 6 (qJ w) (sp_X4_holding_L10 p2 n10 v3_10 v5_10 M_10) M_10 [(0, .ref (w.1 3)), (2, .int p2), (3, .long v3_10), (5, .int v5_10)] 10 [] := by
    intro n10
    induction n10 with
    | zero => intros; exact gz_none
    | succ n10 ih10 =>
      intro v3_10 v5_10 M_10
      rw [sp_X4_holding_L10]
      refine gz_iload C 3 rfl dX4_holding_10 ?_
      refine gz_aloadn C 0 rfl dX4_holding_12 ?_
      refine gz_get C 3 1 (.int (gI M_10 3 1)) kn_X7 rfl kf_X4_108 (by decide) dX4_holding_13 (fv_I rfl) ?_
      refine gz_icmpge C 54 dX4_holding_16 (by decide) ?_ ?_
      · refine gz_iload C 3 rfl dX4_holding_19 ?_
        refine gz_iconst (v := 1) C dX4_holding_21 (by decide) ?_
        refine gz_iadd C dX4_holding_22 ?_
        refine gz_iconst (v := 5) C dX4_holding_23 (by decide) ?_
        refine gz_imul C dX4_holding_24 ?_
        refine gz_iloadn C 1 rfl dX4_holding_25 ?_
        refine gz_icmple C 31 dX4_holding_26 (by decide) ?_ ?_
        · refine gz_lloadn C 2 rfl dX4_holding_29 ?_
          exact gz_lret C dX4_holding_30
        · refine gz_lloadn C 2 rfl dX4_holding_31 ?_
          refine gz_ldc2 C kl_X4_111 dX4_holding_32 ?_
          refine gz_ldivc C (by decide) dX4_holding_35 ?_
          refine gz_bipush (v := (10)) C dX4_holding_36 (by decide) ?_
          refine gz_aloadn C 0 rfl dX4_holding_38 ?_
          refine gz_iload C 3 rfl dX4_holding_39 ?_
          refine gz_callVI 3 [.int v5_10] [.int (10 : Int32), .long (v3_10 / (10 : Int64))] C kn_X7 rfl rfl (ct_X7_breakTenths x.2.1 w v5_10 M_10) cal_X7_breakTenths km_X4_113 ⟨rfl, rfl⟩ ⟨by decide, by decide⟩ rfl rfl (Nat.le_of_ble_eq_true rfl) dX4_holding_41 (fun r41 M41 => ?_)
          refine gz_isub C dX4_holding_44 ?_
          refine gz_i2l C dX4_holding_45 ?_
          refine gz_lmul C dX4_holding_46 ?_
          refine gz_bltJ (fun y47 => ?_)
          refine gz_lstoren C [(3, .long y47), (0, .ref (w.1 3)), (2, .int p2), (5, .int v5_10)] dX4_holding_47 (by decide) rfl ?_
          refine gz_iinc (v' := v5_10 + 1) C 3 [(5, .int (v5_10 + 1)), (3, .long y47), (0, .ref (w.1 3)), (2, .int p2)] rfl dX4_holding_48 rfl (by decide) rfl ?_
          refine gz_goto C 10 dX4_holding_51 (by decide) ?_
          refine gz_sub [2, 3, 1, 0] rfl ?_
          exact ih10 _ _ _
      · refine gz_lconst (v := 0) C dX4_holding_54 (by decide) ?_
        exact gz_lret C dX4_holding_55
  refine gz_sub [2, 4, 1, 0] rfl ?_
  exact hL10 fu _ _ _
set_option maxRecDepth 100000 in
set_option maxHeartbeats 4000000 in
theorem ct_X4_isThere (l : Launch) (w : Wd) (M : Mm) : CT l yX4_isThere cX4_isThere 1 (some .boolean) rm_X4_isThere w (qI w) [.ref (w.1 24)] (sp_X4_isThere M) M := by
  refine ct_of RX4 [(0, .ref (w.1 24))] rfl (Nat.le_of_ble_eq_true rfl) (by decide) rfl rfl rfl (fun x C => ?_)
  unfold sp_X4_isThere
  refine gz_aloadn C 0 rfl dX4_isThere_0 ?_
  refine gz_get C 24 0 (.long (gJ M 24 0)) kn_X4 rfl kf_X4_54 (by decide) dX4_isThere_1 (fv_J rfl) ?_
  refine gz_ldc2 C kl_X4_58 dX4_isThere_4 ?_
  refine gz_lcmp C dX4_isThere_7 ?_
  refine gz_cnd (lc_eq (gJ M 24 0) (-1 : Int64)) ?_
  refine gz_ifeq C 15 dX4_isThere_8 (by decide) ?_ ?_
  · refine gz_iconst (v := 0) C dX4_isThere_15 (by decide) ?_
    exact gz_zret C (Or.inl rfl) dX4_isThere_16
  · refine gz_iconst (v := 1) C dX4_isThere_11 (by decide) ?_
    refine gz_goto C 16 dX4_isThere_12 (by decide) ?_
    exact gz_zret C (Or.inr rfl) dX4_isThere_16
set_option maxRecDepth 100000 in
set_option maxHeartbeats 4000000 in
theorem ct_X4_search (l : Launch) (w : Wd) (M : Mm) : CT l yX4_search cX4_search 7 none rm_X4_search w (qV w) [.ref (w.1 24), .ref (w.1 3), .ref (w.1 9), .ref (w.1 13)] (sp_X4_search M) M := by
  refine ct_of RX4 [(0, .ref (w.1 24)), (1, .ref (w.1 3)), (2, .ref (w.1 9)), (3, .ref (w.1 13))] rfl (Nat.le_of_ble_eq_true rfl) (by decide) rfl rfl rfl (fun x C => ?_)
  unfold sp_X4_search
  refine gz_aloadn C 0 rfl dX4_search_0 ?_
  refine gz_aloadn C 3 rfl dX4_search_1 ?_
  refine gz_get C 13 4 (.int (gI M 13 4)) kn_X1 rfl kf_X4_19 (by decide) dX4_search_2 (fv_I rfl) ?_
  refine gz_putI C 24 1 kn_X4 rfl kf_X4_25 (by decide) rfl rfl (tyX4_ok 1 (by decide)) rfl rfl dX4_search_5 (fun M5 => ?_)
  refine gz_aloadn C 2 rfl dX4_search_8 ?_
  refine gz_callVI 9 [] [] C kn_X2 rfl rfl (ct_X2_all x.2.1 w M5) cal_X2_all km_X4_28 ⟨rfl, rfl⟩ ⟨by decide, by decide⟩ rfl rfl (Nat.le_of_ble_eq_true rfl) dX4_search_9 (fun r9 M9 => ?_)
  refine gz_istore C [(4, .int r9), (0, .ref (w.1 24)), (1, .ref (w.1 3)), (2, .ref (w.1 9)), (3, .ref (w.1 13))] dX4_search_12 (by decide) rfl ?_
  have hL14 : ∀ (n14 : Nat) (v4_14 : Int32) (M_14 : Mm), G x w 7 (qV w) (sp_X4_search_L14 n14 v4_14 M_14) M_14 [(0, .ref (w.1 24)), (1, .ref (w.1 3)), (2, .ref (w.1 9)), (3, .ref (w.1 13)), (4, .int v4_14)] 14 [] := by
    intro n14
    induction n14 with
    | zero => intros; exact gz_none
    | succ n14 ih14 =>
      intro v4_14 M_14
      rw [sp_X4_search_L14]
      refine gz_iload C 4 rfl dX4_search_14 ?_
      refine gz_iflt C 88 dX4_search_16 (by decide) ?_ ?_
      · exact gz_vret C dX4_search_88
      · refine gz_iload C 4 rfl dX4_search_19 ?_
        refine gz_aloadn C 0 rfl dX4_search_21 ?_
        refine gz_get C 24 1 (.int (gI M_14 24 1)) kn_X4 rfl kf_X4_25 (by decide) dX4_search_22 (fv_I rfl) ?_
        refine gz_callSI [.int v4_14, .int (gI M_14 24 1)] [] C (ct_X10_holdsAll x.2.1 w v4_14 (gI M_14 24 1) M_14) cal_X10_holdsAll (Or.inr ⟨_, List.mem_of_getElem? (i := 31) rfl⟩) ⟨rfl, rfl⟩ ⟨by decide, by decide⟩ rfl rfl (Nat.le_of_ble_eq_true rfl) dX4_search_25 (fun r25 M25 => ?_)
        refine gz_ifeq C 82 dX4_search_28 (by decide) ?_ ?_
        · refine gz_iinc (v' := v4_14 + (-1)) C 4 [(4, .int (v4_14 + (-1))), (0, .ref (w.1 24)), (1, .ref (w.1 3)), (2, .ref (w.1 9)), (3, .ref (w.1 13))] rfl dX4_search_82 rfl (by decide) rfl ?_
          refine gz_goto C 14 dX4_search_85 (by decide) ?_
          refine gz_sub [1, 2, 3, 4, 0] rfl ?_
          exact ih14 _ _
        · refine gz_aloadn C 0 rfl dX4_search_31 ?_
          refine gz_aloadn C 2 rfl dX4_search_32 ?_
          refine gz_iload C 4 rfl dX4_search_33 ?_
          refine gz_callVV 24 [.ref (w.1 9), .int v4_14] [] C kn_X4 rfl rfl (ct_X4_findNext x.2.1 w v4_14 M25) cal_X4_findNext km_X4_38 ⟨rfl, rfl⟩ ⟨by decide, by decide⟩ rfl rfl (Nat.le_of_ble_eq_true rfl) dX4_search_35 (fun _ M35 => ?_)
          refine gz_aloadn C 1 rfl dX4_search_38 ?_
          refine gz_aloadn C 3 rfl dX4_search_39 ?_
          refine gz_aloadn C 1 rfl dX4_search_40 ?_
          refine gz_aloadn C 2 rfl dX4_search_41 ?_
          refine gz_aloadn C 3 rfl dX4_search_42 ?_
          refine gz_iload C 4 rfl dX4_search_43 ?_
          refine gz_callSI [.ref (w.1 3), .ref (w.1 9), .ref (w.1 13), .int v4_14] [.ref (w.1 13), .ref (w.1 3)] C (ct_X4_minuteWith x.2.1 w v4_14 M35) cal_X4_minuteWith (Or.inl km_X4_42) ⟨rfl, rfl⟩ ⟨by decide, by decide⟩ rfl rfl (Nat.le_of_ble_eq_true rfl) dX4_search_45 (fun r45 M45 => ?_)
          refine gz_callSJ [.ref (w.1 3), .ref (w.1 13), .int r45] [] C (ct_X4_holding x.2.1 w r45 M45) cal_X4_holding (Or.inl km_X4_46) ⟨rfl, rfl⟩ ⟨by decide, by decide⟩ rfl rfl (Nat.le_of_ble_eq_true rfl) dX4_search_48 (fun r48 M48 => ?_)
          refine gz_lstore C [(5, .long r48), (0, .ref (w.1 24)), (1, .ref (w.1 3)), (2, .ref (w.1 9)), (3, .ref (w.1 13)), (4, .int v4_14)] dX4_search_51 (by decide) rfl ?_
          refine gz_aloadn C 1 rfl dX4_search_53 ?_
          refine gz_get C 24 2 (.ref (w.1 25)) kn_X4 rfl kf_X4_9 (by decide) dX4_search_54 (fv_R rfl rfl) ?_
          refine gz_iload C 5 rfl dX4_search_57 ?_
          refine gz_aloadn C 1 rfl dX4_search_59 ?_
          refine gz_callVI 24 [] [.int v4_14, .ref (w.1 25)] C kn_X4 rfl rfl (ct_X4_isThere x.2.1 w M48) cal_X4_isThere km_X4_50 ⟨rfl, rfl⟩ ⟨by decide, by decide⟩ rfl rfl (Nat.le_of_ble_eq_true rfl) dX4_search_60 (fun r60 M60 => ?_)
          refine gz_jn (fun K79 => ∀ (t0_79 : Int64), G x w 7 (qV w) (K79 t0_79) M60 [(0, .ref (w.1 24)), (1, .ref (w.1 3)), (2, .ref (w.1 9)), (3, .ref (w.1 13)), (4, .int v4_14)] 79 [.long t0_79, .int v4_14, .ref (w.1 25)]) ?_ ?_
          · intro t0_79
            refine gz_callSV [.ref (w.1 25), .int v4_14, .long t0_79] [] C (ct_X10_put_ x.2.1 w 25 rfl v4_14 t0_79 M60) cal_X10_put_ (Or.inr ⟨_, List.mem_of_getElem? (i := 36) rfl⟩) ⟨rfl, rfl⟩ ⟨by decide, by decide⟩ rfl rfl (Nat.le_of_ble_eq_true rfl) dX4_search_79 (fun _ M79 => ?_)
            refine gz_iinc (v' := v4_14 + (-1)) C 4 [(4, .int (v4_14 + (-1))), (0, .ref (w.1 24)), (1, .ref (w.1 3)), (2, .ref (w.1 9)), (3, .ref (w.1 13))] rfl dX4_search_82 rfl (by decide) rfl ?_
            refine gz_goto C 14 dX4_search_85 (by decide) ?_
            refine gz_sub [1, 2, 3, 4, 0] rfl ?_
            exact ih14 _ _
          · intro K79 hK79
            refine gz_ifeq C 76 dX4_search_63 (by decide) ?_ ?_
            · refine gz_ldc2 C kl_X4_58 dX4_search_76 ?_
              refine gz_sub [1, 2, 3, 4, 5] rfl ?_
              exact hK79 _
            · refine gz_lload C 0 rfl dX4_search_66 ?_
              refine gz_aloadn C 1 rfl dX4_search_68 ?_
              refine gz_get C 24 0 (.long (gJ M60 24 0)) kn_X4 rfl kf_X4_54 (by decide) dX4_search_69 (fv_J rfl) ?_
              refine gz_ladd C dX4_search_72 ?_
              refine gz_goto C 79 dX4_search_73 (by decide) ?_
              refine gz_sub [1, 2, 3, 4, 5] rfl ?_
              exact hK79 _
  refine gz_sub [1, 2, 3, 4, 0] rfl ?_
  exact hL14 fu _ _
set_option maxRecDepth 100000 in
set_option maxHeartbeats 4000000 in
theorem ct_X4_most (l : Launch) (w : Wd) (M : Mm) : CT l yX4_most cX4_most 1 (some .long) rm_X4_most w (qJ w) [.ref (w.1 24)] (sp_X4_most M) M := by
  refine ct_of RX4 [(0, .ref (w.1 24))] rfl (Nat.le_of_ble_eq_true rfl) (by decide) rfl rfl rfl (fun x C => ?_)
  unfold sp_X4_most
  refine gz_aloadn C 0 rfl dX4_most_0 ?_
  refine gz_get C 24 0 (.long (gJ M 24 0)) kn_X4 rfl kf_X4_54 (by decide) dX4_most_1 (fv_J rfl) ?_
  exact gz_lret C dX4_most_4
set_option maxRecDepth 100000 in
set_option maxHeartbeats 4000000 in
theorem ct_X4_manAt (l : Launch) (w : Wd) (p1 : Int32) (M : Mm) : CT l yX4_manAt cX4_manAt 5 (some .int) rm_X4_manAt w (qI w) [.ref (w.1 24), .int p1] (sp_X4_manAt p1 M) M := by
  refine ct_of RX4 [(0, .ref (w.1 24)), (1, .int p1)] rfl (Nat.le_of_ble_eq_true rfl) (by decide) rfl rfl rfl (fun x C => ?_)
  unfold sp_X4_manAt
  refine gz_aloadn C 0 rfl dX4_manAt_0 ?_
  refine gz_get C 24 1 (.int (gI M 24 1)) kn_X4 rfl kf_X4_25 (by decide) dX4_manAt_1 (fv_I rfl) ?_
  refine gz_blt (fun y4 => ?_)
  refine gz_istoren C [(2, .int y4), (0, .ref (w.1 24)), (1, .int p1)] dX4_manAt_4 (by decide) rfl ?_
  refine gz_iconst (v := (-1)) C dX4_manAt_5 (by decide) ?_
  refine gz_istoren C [(3, .int (-1 : Int32)), (2, .int y4), (0, .ref (w.1 24)), (1, .int p1)] dX4_manAt_6 (by decide) rfl ?_
  refine gz_iconst (v := 0) C dX4_manAt_7 (by decide) ?_
  refine gz_istore C [(4, .int (0 : Int32)), (3, .int (-1 : Int32)), (2, .int y4), (0, .ref (w.1 24)), (1, .int p1)] dX4_manAt_8 (by decide) rfl ?_
  have hL10 : ∀ (n10 : Nat) (v2_10 : Int32) (v3_10 : Int32) (v4_10 : Int32) (M_10 : Mm), G x w 5 (qI w) (sp_X4_manAt_L10 p1 n10 v2_10 v3_10 v4_10 M_10) M_10 [(0, .ref (w.1 24)), (1, .int p1), (2, .int v2_10), (3, .int v3_10), (4, .int v4_10)] 10 [] := by
    intro n10
    induction n10 with
    | zero => intros; exact gz_none
    | succ n10 ih10 =>
      intro v2_10 v3_10 v4_10 M_10
      rw [sp_X4_manAt_L10]
      refine gz_iload C 4 rfl dX4_manAt_10 ?_
      refine gz_iloadn C 1 rfl dX4_manAt_12 ?_
      refine gz_icmpgt C 44 dX4_manAt_13 (by decide) ?_ ?_
      · refine gz_iloadn C 3 rfl dX4_manAt_44 ?_
        exact gz_iret C dX4_manAt_45
      · refine gz_aloadn C 0 rfl dX4_manAt_16 ?_
        refine gz_get C 24 3 (.ref (w.1 26)) kn_X4 rfl kf_X4_15 (by decide) dX4_manAt_17 (fv_R rfl rfl) ?_
        refine gz_iloadn C 2 rfl dX4_manAt_20 ?_
        refine gz_callSI [.ref (w.1 26), .int v2_10] [] C (ct_X10_at x.2.1 w 26 rfl v2_10 M_10) cal_X10_at (Or.inr ⟨_, List.mem_of_getElem? (i := 37) rfl⟩) ⟨rfl, rfl⟩ ⟨by decide, by decide⟩ rfl rfl (Nat.le_of_ble_eq_true rfl) dX4_manAt_21 (fun r21 M21 => ?_)
        refine gz_istoren C [(3, .int r21), (0, .ref (w.1 24)), (1, .int p1), (2, .int v2_10), (4, .int v4_10)] dX4_manAt_24 (by decide) rfl ?_
        refine gz_iloadn C 0 rfl dX4_manAt_25 ?_
        refine gz_iconst (v := (-1)) C dX4_manAt_26 (by decide) ?_
        refine gz_icmpne C 32 dX4_manAt_27 (by decide) ?_ ?_
        · refine gz_iconst (v := (-1)) C dX4_manAt_30 (by decide) ?_
          exact gz_iret C dX4_manAt_31
        · refine gz_iloadn C 3 rfl dX4_manAt_32 ?_
          refine gz_iloadn C 0 rfl dX4_manAt_33 ?_
          refine gz_callSI [.int v2_10, .int r21] [] C (ct_X10_with x.2.1 w v2_10 r21 M21) cal_X10_with (Or.inr ⟨_, List.mem_of_getElem? (i := 34) rfl⟩) ⟨rfl, rfl⟩ ⟨by decide, by decide⟩ rfl rfl (Nat.le_of_ble_eq_true rfl) dX4_manAt_34 (fun r34 M34 => ?_)
          refine gz_istoren C [(2, .int r34), (3, .int r21), (0, .ref (w.1 24)), (1, .int p1), (4, .int v4_10)] dX4_manAt_37 (by decide) rfl ?_
          refine gz_iinc (v' := v4_10 + 1) C 4 [(4, .int (v4_10 + 1)), (2, .int r34), (3, .int r21), (0, .ref (w.1 24)), (1, .int p1)] rfl dX4_manAt_38 rfl (by decide) rfl ?_
          refine gz_goto C 10 dX4_manAt_41 (by decide) ?_
          refine gz_sub [3, 4, 1, 2, 0] rfl ?_
          exact ih10 _ _ _ _
  refine gz_sub [3, 4, 2, 1, 0] rfl ?_
  exact hL10 fu _ _ _ _
set_option maxRecDepth 100000 in
set_option maxHeartbeats 4000000 in
theorem ct_X10_order (l : Launch) (w : Wd) (p1 : Int32) (M : Mm) : CT l yX10_order cX10_order 2 (some .long) rm_X10_order w (qJ w) [.ref (w.1 0), .int p1] (sp_X10_order p1 M) M := by
  refine ct_of RX10 [(0, .ref (w.1 0)), (1, .int p1)] rfl (Nat.le_of_ble_eq_true rfl) (by decide) rfl rfl rfl (fun x C => ?_)
  unfold sp_X10_order
  refine gz_iloadn C 1 rfl dX10_order_0 ?_
  refine gz_iconst (v := 0) C dX10_order_1 (by decide) ?_
  refine gz_iconst (v := 1) C dX10_order_2 (by decide) ?_
  refine gz_callSI [.int p1, .int (0 : Int32), .int (1 : Int32)] [] C (ct_X10_isOutside x.2.1 w p1 (0 : Int32) (1 : Int32) M) cal_X10_isOutside (Or.inl km_X10_79) ⟨rfl, rfl⟩ ⟨by decide, by decide⟩ rfl rfl (Nat.le_of_ble_eq_true rfl) dX10_order_3 (fun r3 M3 => ?_)
  refine gz_jn (fun K24 => ∀ (M_24 : Mm), G x w 2 (qJ w) (K24 M_24) M_24 [(0, .ref (w.1 0)), (1, .int p1)] 24 []) ?_ ?_
  · intro M_24
    refine gz_aloadn C 0 rfl dX10_order_24 ?_
    refine gz_callVI 0 [] [] C kn_X10 rfl rfl (ct_X10_isAfloat x.2.1 w M_24) cal_X10_isAfloat km_X10_244 ⟨rfl, rfl⟩ ⟨by decide, by decide⟩ rfl rfl (Nat.le_of_ble_eq_true rfl) dX10_order_25 (fun r25 M25 => ?_)
    refine gz_ifeq C 40 dX10_order_28 (by decide) ?_ ?_
    · refine gz_ldc2 C kl_X10_176 dX10_order_40 ?_
      exact gz_lret C dX10_order_43
    · refine gz_aloadn C 0 rfl dX10_order_31 ?_
      refine gz_get C 0 11 (.int (gI M25 0 11)) kn_X10 rfl kf_X10_255 (by decide) dX10_order_32 (fv_I rfl) ?_
      refine gz_bipush (v := (30)) C dX10_order_35 (by decide) ?_
      refine gz_icmplt C 44 dX10_order_37 (by decide) ?_ ?_
      · refine gz_aloadn C 0 rfl dX10_order_44 ?_
        refine gz_dup C dX10_order_45 rfl ?_
        refine gz_get C 0 11 (.int (gI M25 0 11)) kn_X10 rfl kf_X10_255 (by decide) dX10_order_46 (fv_I rfl) ?_
        refine gz_iconst (v := 1) C dX10_order_49 (by decide) ?_
        refine gz_iadd C dX10_order_50 ?_
        refine gz_putI C 0 11 kn_X10 rfl kf_X10_255 (by decide) rfl rfl (tyX10_ok 11 (by decide)) rfl rfl dX10_order_51 (fun M51 => ?_)
        refine gz_aloadn C 0 rfl dX10_order_54 ?_
        refine gz_get C 0 7 (.ref (w.1 24)) kn_X10 rfl kf_X10_61 (by decide) dX10_order_55 (fv_R rfl rfl) ?_
        refine gz_aloadn C 0 rfl dX10_order_58 ?_
        refine gz_get C 0 1 (.ref (w.1 3)) kn_X10 rfl kf_X10_19 (by decide) dX10_order_59 (fv_R rfl rfl) ?_
        refine gz_aloadn C 0 rfl dX10_order_62 ?_
        refine gz_get C 0 3 (.ref (w.1 9)) kn_X10 rfl kf_X10_33 (by decide) dX10_order_63 (fv_R rfl rfl) ?_
        refine gz_aloadn C 0 rfl dX10_order_66 ?_
        refine gz_get C 0 4 (.ref (w.1 13)) kn_X10 rfl kf_X10_40 (by decide) dX10_order_67 (fv_R rfl rfl) ?_
        refine gz_callVV 24 [.ref (w.1 3), .ref (w.1 9), .ref (w.1 13)] [] C kn_X4 rfl rfl (ct_X4_search x.2.1 w M51) cal_X4_search km_X10_258 ⟨rfl, rfl⟩ ⟨by decide, by decide⟩ rfl rfl (Nat.le_of_ble_eq_true rfl) dX10_order_70 (fun _ M70 => ?_)
        refine gz_iloadn C 1 rfl dX10_order_73 ?_
        refine gz_bipush (v := (10)) C dX10_order_74 (by decide) ?_
        refine gz_icmplt C 92 dX10_order_76 (by decide) ?_ ?_
        · refine gz_aloadn C 0 rfl dX10_order_92 ?_
          refine gz_get C 0 7 (.ref (w.1 24)) kn_X10 rfl kf_X10_61 (by decide) dX10_order_93 (fv_R rfl rfl) ?_
          refine gz_callVI 24 [] [] C kn_X4 rfl rfl (ct_X4_isThere x.2.1 w M70) cal_X4_isThere km_X10_264 ⟨rfl, rfl⟩ ⟨by decide, by decide⟩ rfl rfl (Nat.le_of_ble_eq_true rfl) dX10_order_96 (fun r96 M96 => ?_)
          refine gz_ifne C 114 dX10_order_99 (by decide) ?_ ?_
          · refine gz_iloadn C 1 rfl dX10_order_102 ?_
            refine gz_ifne C 112 dX10_order_103 (by decide) ?_ ?_
            · refine gz_ldc2 C kl_X10_267 dX10_order_106 ?_
              refine gz_goto C 113 dX10_order_109 (by decide) ?_
              exact gz_lret C dX10_order_113
            · refine gz_lconst (v := 1) C dX10_order_112 (by decide) ?_
              exact gz_lret C dX10_order_113
          · refine gz_aloadn C 0 rfl dX10_order_114 ?_
            refine gz_get C 0 7 (.ref (w.1 24)) kn_X10 rfl kf_X10_61 (by decide) dX10_order_115 (fv_R rfl rfl) ?_
            refine gz_callVJ 24 [] [] C kn_X4 rfl rfl (ct_X4_most x.2.1 w M96) cal_X4_most km_X10_269 ⟨rfl, rfl⟩ ⟨by decide, by decide⟩ rfl rfl (Nat.le_of_ble_eq_true rfl) dX10_order_118 (fun r118 M118 => ?_)
            refine gz_ldc2 C kl_X10_273 dX10_order_121 ?_
            refine gz_iloadn C 1 rfl dX10_order_124 ?_
            refine gz_callSJ [.long r118, .long (1000000000 : Int64), .int p1] [] C (ct_X10_inLowestTerms x.2.1 w r118 (1000000000 : Int64) p1 M118) cal_X10_inLowestTerms (Or.inl km_X10_169) ⟨rfl, rfl⟩ ⟨by decide, by decide⟩ rfl rfl (Nat.le_of_ble_eq_true rfl) dX10_order_125 (fun r125 M125 => ?_)
            exact gz_lret C dX10_order_128
        · refine gz_aloadn C 0 rfl dX10_order_79 ?_
          refine gz_get C 0 7 (.ref (w.1 24)) kn_X10 rfl kf_X10_61 (by decide) dX10_order_80 (fv_R rfl rfl) ?_
          refine gz_iloadn C 1 rfl dX10_order_83 ?_
          refine gz_bipush (v := (10)) C dX10_order_84 (by decide) ?_
          refine gz_isub C dX10_order_86 ?_
          refine gz_callVI 24 [.int (p1 - (10 : Int32))] [] C kn_X4 rfl rfl (ct_X4_manAt x.2.1 w (p1 - (10 : Int32)) M70) cal_X4_manAt km_X10_261 ⟨rfl, rfl⟩ ⟨by decide, by decide⟩ rfl rfl (Nat.le_of_ble_eq_true rfl) dX10_order_87 (fun r87 M87 => ?_)
          refine gz_i2l C dX10_order_90 ?_
          exact gz_lret C dX10_order_91
      · refine gz_ldc2 C kl_X10_176 dX10_order_40 ?_
        exact gz_lret C dX10_order_43
  · intro K24 hK24
    refine gz_ifeq C 24 dX10_order_6 (by decide) ?_ ?_
    · exact hK24 _
    · refine gz_iloadn C 1 rfl dX10_order_9 ?_
      refine gz_bipush (v := (10)) C dX10_order_10 (by decide) ?_
      refine gz_bipush (v := (15)) C dX10_order_12 (by decide) ?_
      refine gz_callSI [.int p1, .int (10 : Int32), .int (15 : Int32)] [] C (ct_X10_isOutside x.2.1 w p1 (10 : Int32) (15 : Int32) M3) cal_X10_isOutside (Or.inl km_X10_79) ⟨rfl, rfl⟩ ⟨by decide, by decide⟩ rfl rfl (Nat.le_of_ble_eq_true rfl) dX10_order_14 (fun r14 M14 => ?_)
      refine gz_ifeq C 24 dX10_order_17 (by decide) ?_ ?_
      · exact hK24 _
      · refine gz_ldc2 C kl_X10_161 dX10_order_20 ?_
        exact gz_lret C dX10_order_23
set_option maxRecDepth 100000 in
set_option maxHeartbeats 4000000 in
theorem ct_X1_say (l : Launch) (w : Wd) (p1 : Int32) (p2 : Int32) (M : Mm) : CT l yX1_say cX1_say 3 none rm_X1_say w (qV w) [.ref (w.1 13), .int p1, .int p2] (sp_X1_say p1 p2 M) M := by
  refine ct_of RX1 [(0, .ref (w.1 13)), (1, .int p1), (2, .int p2)] rfl (Nat.le_of_ble_eq_true rfl) (by decide) rfl rfl rfl (fun x C => ?_)
  unfold sp_X1_say
  refine gz_aloadn C 0 rfl dX1_say_0 ?_
  refine gz_get C 13 9 (.ref (w.1 15)) kn_X1 rfl kf_X1_19 (by decide) dX1_say_1 (fv_R rfl rfl) ?_
  refine gz_iloadn C 2 rfl dX1_say_4 ?_
  refine gz_aloadn C 0 rfl dX1_say_5 ?_
  refine gz_get C 13 9 (.ref (w.1 15)) kn_X1 rfl kf_X1_19 (by decide) dX1_say_6 (fv_R rfl rfl) ?_
  refine gz_iloadn C 2 rfl dX1_say_9 ?_
  refine gz_callSI [.ref (w.1 15), .int p2] [.int p2, .ref (w.1 15)] C (ct_X10_at x.2.1 w 15 rfl p2 M) cal_X10_at (Or.inr ⟨_, List.mem_of_getElem? (i := 25) rfl⟩) ⟨rfl, rfl⟩ ⟨by decide, by decide⟩ rfl rfl (Nat.le_of_ble_eq_true rfl) dX1_say_10 (fun r10 M10 => ?_)
  refine gz_iloadn C 1 rfl dX1_say_13 ?_
  refine gz_callSI [.int r10, .int p1] [.int p2, .ref (w.1 15)] C (ct_X10_with x.2.1 w r10 p1 M10) cal_X10_with (Or.inr ⟨_, List.mem_of_getElem? (i := 29) rfl⟩) ⟨rfl, rfl⟩ ⟨by decide, by decide⟩ rfl rfl (Nat.le_of_ble_eq_true rfl) dX1_say_14 (fun r14 M14 => ?_)
  refine gz_callSV [.ref (w.1 15), .int p2, .int r14] [] C (ct_X10_put x.2.1 w 15 rfl p2 r14 M14) cal_X10_put (Or.inr ⟨_, List.mem_of_getElem? (i := 30) rfl⟩) ⟨rfl, rfl⟩ ⟨by decide, by decide⟩ rfl rfl (Nat.le_of_ble_eq_true rfl) dX1_say_17 (fun _ M17 => ?_)
  refine gz_aloadn C 0 rfl dX1_say_20 ?_
  refine gz_dup C dX1_say_21 rfl ?_
  refine gz_get C 13 6 (.int (gI M17 13 6)) kn_X1 rfl kf_X1_41 (by decide) dX1_say_22 (fv_I rfl) ?_
  refine gz_iconst (v := 1) C dX1_say_25 (by decide) ?_
  refine gz_iadd C dX1_say_26 ?_
  refine gz_putI C 13 6 kn_X1 rfl kf_X1_41 (by decide) rfl rfl (tyX1_ok 6 (by decide)) rfl rfl dX1_say_27 (fun M27 => ?_)
  exact gz_vret C dX1_say_30
set_option maxRecDepth 100000 in
set_option maxHeartbeats 4000000 in
theorem ct_X10_said (l : Launch) (w : Wd) (p1 : Int32) (p2 : Int32) (M : Mm) : CT l yX10_said cX10_said 3 (some .int) rm_X10_said w (qI w) [.ref (w.1 0), .int p1, .int p2] (sp_X10_said p1 p2 M) M := by
  refine ct_of RX10 [(0, .ref (w.1 0)), (1, .int p1), (2, .int p2)] rfl (Nat.le_of_ble_eq_true rfl) (by decide) rfl rfl rfl (fun x C => ?_)
  unfold sp_X10_said
  refine gz_aloadn C 0 rfl dX10_said_0 ?_
  refine gz_iloadn C 1 rfl dX10_said_1 ?_
  refine gz_iloadn C 2 rfl dX10_said_2 ?_
  refine gz_callVI 0 [.int p1, .int p2] [] C kn_X10 rfl rfl (ct_X10_areTwoMen x.2.1 w p1 p2 M) cal_X10_areTwoMen km_X10_230 ⟨rfl, rfl⟩ ⟨by decide, by decide⟩ rfl rfl (Nat.le_of_ble_eq_true rfl) dX10_said_3 (fun r3 M3 => ?_)
  refine gz_ifne C 12 dX10_said_6 (by decide) ?_ ?_
  · refine gz_bipush (v := (-101)) C dX10_said_9 (by decide) ?_
    exact gz_iret C dX10_said_11
  · refine gz_aloadn C 0 rfl dX10_said_12 ?_
    refine gz_get C 0 4 (.ref (w.1 13)) kn_X10 rfl kf_X10_40 (by decide) dX10_said_13 (fv_R rfl rfl) ?_
    refine gz_get C 13 6 (.int (gI M3 13 6)) kn_X1 rfl kf_X10_275 (by decide) dX10_said_16 (fv_I rfl) ?_
    refine gz_bipush (v := (15)) C dX10_said_19 (by decide) ?_
    refine gz_icmplt C 27 dX10_said_21 (by decide) ?_ ?_
    · refine gz_aloadn C 0 rfl dX10_said_27 ?_
      refine gz_get C 0 4 (.ref (w.1 13)) kn_X10 rfl kf_X10_40 (by decide) dX10_said_28 (fv_R rfl rfl) ?_
      refine gz_iloadn C 1 rfl dX10_said_31 ?_
      refine gz_iloadn C 2 rfl dX10_said_32 ?_
      refine gz_callVV 13 [.int p1, .int p2] [] C kn_X1 rfl rfl (ct_X1_say x.2.1 w p1 p2 M3) cal_X1_say km_X10_278 ⟨rfl, rfl⟩ ⟨by decide, by decide⟩ rfl rfl (Nat.le_of_ble_eq_true rfl) dX10_said_33 (fun _ M33 => ?_)
      refine gz_aloadn C 0 rfl dX10_said_36 ?_
      refine gz_get C 0 4 (.ref (w.1 13)) kn_X10 rfl kf_X10_40 (by decide) dX10_said_37 (fv_R rfl rfl) ?_
      refine gz_get C 13 6 (.int (gI M33 13 6)) kn_X1 rfl kf_X10_275 (by decide) dX10_said_40 (fv_I rfl) ?_
      exact gz_iret C dX10_said_43
    · refine gz_bipush (v := (-104)) C dX10_said_24 (by decide) ?_
      exact gz_iret C dX10_said_26
set_option maxRecDepth 100000 in
set_option maxHeartbeats 4000000 in
theorem ct_X8_mayFollow (l : Launch) (w : Wd) (p1 : Int32) (p2 : Int32) (M : Mm) : CT l yX8_mayFollow cX8_mayFollow 3 (some .boolean) rm_X8_mayFollow w (qI w) [.ref (w.1 27), .int p1, .int p2] (sp_X8_mayFollow p1 p2 M) M := by
  refine ct_of RX8 [(0, .ref (w.1 27)), (1, .int p1), (2, .int p2)] rfl (Nat.le_of_ble_eq_true rfl) (by decide) rfl rfl rfl (fun x C => ?_)
  unfold sp_X8_mayFollow
  refine gz_iloadn C 1 rfl dX8_mayFollow_0 ?_
  refine gz_iloadn C 2 rfl dX8_mayFollow_1 ?_
  refine gz_callSI [.int p1, .int p2] [] C (ct_X10_isIn x.2.1 w p1 p2 M) cal_X10_isIn (Or.inr ⟨_, List.mem_of_getElem? (i := 39) rfl⟩) ⟨rfl, rfl⟩ ⟨by decide, by decide⟩ rfl rfl (Nat.le_of_ble_eq_true rfl) dX8_mayFollow_2 (fun r2 M2 => ?_)
  refine gz_ifne C 27 dX8_mayFollow_5 (by decide) ?_ ?_
  · refine gz_iloadn C 1 rfl dX8_mayFollow_8 ?_
    refine gz_aloadn C 0 rfl dX8_mayFollow_9 ?_
    refine gz_get C 27 2 (.ref (w.1 28)) kn_X8 rfl kf_X8_9 (by decide) dX8_mayFollow_10 (fv_R rfl rfl) ?_
    refine gz_iloadn C 2 rfl dX8_mayFollow_13 ?_
    refine gz_callSI [.ref (w.1 28), .int p2] [.int p1] C (ct_X10_at x.2.1 w 28 rfl p2 M2) cal_X10_at (Or.inr ⟨_, List.mem_of_getElem? (i := 40) rfl⟩) ⟨rfl, rfl⟩ ⟨by decide, by decide⟩ rfl rfl (Nat.le_of_ble_eq_true rfl) dX8_mayFollow_14 (fun r14 M14 => ?_)
    refine gz_callSI [.int p1, .int r14] [] C (ct_X10_holdsAll x.2.1 w p1 r14 M14) cal_X10_holdsAll (Or.inr ⟨_, List.mem_of_getElem? (i := 41) rfl⟩) ⟨rfl, rfl⟩ ⟨by decide, by decide⟩ rfl rfl (Nat.le_of_ble_eq_true rfl) dX8_mayFollow_17 (fun r17 M17 => ?_)
    refine gz_ifeq C 27 dX8_mayFollow_20 (by decide) ?_ ?_
    · refine gz_iconst (v := 0) C dX8_mayFollow_27 (by decide) ?_
      exact gz_zret C (Or.inl rfl) dX8_mayFollow_28
    · refine gz_iconst (v := 1) C dX8_mayFollow_23 (by decide) ?_
      refine gz_goto C 28 dX8_mayFollow_24 (by decide) ?_
      exact gz_zret C (Or.inr rfl) dX8_mayFollow_28
  · refine gz_iconst (v := 0) C dX8_mayFollow_27 (by decide) ?_
    exact gz_zret C (Or.inl rfl) dX8_mayFollow_28
