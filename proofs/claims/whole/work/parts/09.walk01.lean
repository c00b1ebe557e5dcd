set_option maxRecDepth 100000 in
set_option maxHeartbeats 4000000 in
theorem ct_X10_isOutside (l : Launch) (w : Wd) (p0 : Int32) (p1 : Int32) (p2 : Int32) (M : Mm) : CT l yX10_isOutside cX10_isOutside 3 (some .boolean) rm_X10_isOutside w (qI w) [.int p0, .int p1, .int p2] (sp_X10_isOutside p0 p1 p2 M) M := by
  refine ct_of RX10 [(0, .int p0), (1, .int p1), (2, .int p2)] rfl (Nat.le_of_ble_eq_true rfl) (by decide) rfl rfl rfl (fun x C => ?_)
  unfold sp_X10_isOutside
  refine gz_iloadn C 0 rfl dX10_isOutside_0 ?_
  refine gz_iloadn C 1 rfl dX10_isOutside_1 ?_
  refine gz_icmplt C 10 dX10_isOutside_2 (by decide) ?_ ?_
  · refine gz_iconst (v := 1) C dX10_isOutside_10 (by decide) ?_
    refine gz_goto C 15 dX10_isOutside_11 (by decide) ?_
    exact gz_zret C (Or.inr rfl) dX10_isOutside_15
  · refine gz_iloadn C 0 rfl dX10_isOutside_5 ?_
    refine gz_iloadn C 2 rfl dX10_isOutside_6 ?_
    refine gz_icmple C 14 dX10_isOutside_7 (by decide) ?_ ?_
    · refine gz_iconst (v := 1) C dX10_isOutside_10 (by decide) ?_
      refine gz_goto C 15 dX10_isOutside_11 (by decide) ?_
      exact gz_zret C (Or.inr rfl) dX10_isOutside_15
    · refine gz_iconst (v := 0) C dX10_isOutside_14 (by decide) ?_
      exact gz_zret C (Or.inl rfl) dX10_isOutside_15
set_option maxRecDepth 100000 in
set_option maxHeartbeats 4000000 in
theorem ct_X10_put (l : Launch) (w : Wd) (c0 : Nat) (hc0 : kd c0 = 12) (p1 : Int32) (p2 : Int32) (M : Mm) : CT l yX10_put cX10_put 3 none rm_X10_put w (qV w) [.ref (w.1 c0), .int p1, .int p2] (sp_X10_put c0 p1 p2 M) M := by
  refine ct_of RX10 [(0, .ref (w.1 c0)), (1, .int p1), (2, .int p2)] rfl (Nat.le_of_ble_eq_true rfl) (by decide) rfl rfl rfl (fun x C => ?_)
  unfold sp_X10_put
  refine gz_iloadn C 1 rfl dX10_put_0 ?_
  refine gz_iflt C 14 dX10_put_1 (by decide) ?_ ?_
  · exact gz_vret C dX10_put_14
  · refine gz_iloadn C 1 rfl dX10_put_4 ?_
    refine gz_aloadn C 0 rfl dX10_put_5 ?_
    refine gz_alenI C hc0 rfl dX10_put_6 ?_
    refine gz_icmpge C 14 dX10_put_7 (by decide) ?_ ?_
    · refine gz_aloadn C 0 rfl dX10_put_10 ?_
      refine gz_iloadn C 1 rfl dX10_put_11 ?_
      refine gz_iloadn C 2 rfl dX10_put_12 ?_
      refine gz_iast C hc0 dX10_put_13 (fun M13 => ?_)
      exact gz_vret C dX10_put_14
    · exact gz_vret C dX10_put_14
set_option maxRecDepth 100000 in
set_option maxHeartbeats 4000000 in
theorem ct_X5_add (l : Launch) (w : Wd) (p1 : Int32) (M : Mm) : CT l yX5_add cX5_add 2 none rm_X5_add w (qV w) [.ref (w.1 1), .int p1] (sp_X5_add p1 M) M := by
  refine ct_of RX5 [(0, .ref (w.1 1)), (1, .int p1)] rfl (Nat.le_of_ble_eq_true rfl) (by decide) rfl rfl rfl (fun x C => ?_)
  unfold sp_X5_add
  refine gz_aloadn C 0 rfl dX5_add_0 ?_
  refine gz_get C 1 0 (.ref (w.1 2)) kn_X5 rfl kf_X5_9 (by decide) dX5_add_1 (fv_R rfl rfl) ?_
  refine gz_aloadn C 0 rfl dX5_add_4 ?_
  refine gz_get C 1 1 (.int (gI M 1 1)) kn_X5 rfl kf_X5_15 (by decide) dX5_add_5 (fv_I rfl) ?_
  refine gz_iloadn C 1 rfl dX5_add_8 ?_
  refine gz_callSV [.ref (w.1 2), .int (gI M 1 1), .int p1] [] C (ct_X10_put x.2.1 w 2 rfl (gI M 1 1) p1 M) cal_X10_put (Or.inr ⟨_, List.mem_of_getElem? (i := 11) rfl⟩) ⟨rfl, rfl⟩ ⟨by decide, by decide⟩ rfl rfl (Nat.le_of_ble_eq_true rfl) dX5_add_9 (fun _ M9 => ?_)
  refine gz_aloadn C 0 rfl dX5_add_12 ?_
  refine gz_dup C dX5_add_13 rfl ?_
  refine gz_get C 1 1 (.int (gI M9 1 1)) kn_X5 rfl kf_X5_15 (by decide) dX5_add_14 (fv_I rfl) ?_
  refine gz_iconst (v := 1) C dX5_add_17 (by decide) ?_
  refine gz_iadd C dX5_add_18 ?_
  refine gz_putI C 1 1 kn_X5 rfl kf_X5_15 (by decide) rfl rfl (tyX5_ok 1 (by decide)) rfl rfl dX5_add_19 (fun M19 => ?_)
  exact gz_vret C dX5_add_22
set_option maxRecDepth 100000 in
set_option maxHeartbeats 4000000 in
theorem ct_X10_letter (l : Launch) (w : Wd) (p1 : Int32) (M : Mm) : CT l yX10_letter cX10_letter 2 (some .int) rm_X10_letter w (qI w) [.ref (w.1 0), .int p1] (sp_X10_letter p1 M) M := by
  refine ct_of RX10 [(0, .ref (w.1 0)), (1, .int p1)] rfl (Nat.le_of_ble_eq_true rfl) (by decide) rfl rfl rfl (fun x C => ?_)
  unfold sp_X10_letter
  refine gz_iloadn C 1 rfl dX10_letter_0 ?_
  refine gz_iconst (v := 1) C dX10_letter_1 (by decide) ?_
  refine gz_bipush (v := (126)) C dX10_letter_2 (by decide) ?_
  refine gz_callSI [.int p1, .int (1 : Int32), .int (126 : Int32)] [] C (ct_X10_isOutside x.2.1 w p1 (1 : Int32) (126 : Int32) M) cal_X10_isOutside (Or.inl km_X10_79) ⟨rfl, rfl⟩ ⟨by decide, by decide⟩ rfl rfl (Nat.le_of_ble_eq_true rfl) dX10_letter_4 (fun r4 M4 => ?_)
  refine gz_ifeq C 13 dX10_letter_7 (by decide) ?_ ?_
  · refine gz_aloadn C 0 rfl dX10_letter_13 ?_
    refine gz_get C 0 0 (.ref (w.1 1)) kn_X10 rfl kf_X10_10 (by decide) dX10_letter_14 (fv_R rfl rfl) ?_
    refine gz_get C 1 1 (.int (gI M4 1 1)) kn_X5 rfl kf_X10_83 (by decide) dX10_letter_17 (fv_I rfl) ?_
    refine gz_bipush (v := (22)) C dX10_letter_20 (by decide) ?_
    refine gz_icmplt C 28 dX10_letter_22 (by decide) ?_ ?_
    · refine gz_aloadn C 0 rfl dX10_letter_28 ?_
      refine gz_get C 0 0 (.ref (w.1 1)) kn_X10 rfl kf_X10_10 (by decide) dX10_letter_29 (fv_R rfl rfl) ?_
      refine gz_iloadn C 1 rfl dX10_letter_32 ?_
      refine gz_callVV 1 [.int p1] [] C kn_X5 rfl rfl (ct_X5_add x.2.1 w p1 M4) cal_X5_add km_X10_87 ⟨rfl, rfl⟩ ⟨by decide, by decide⟩ rfl rfl (Nat.le_of_ble_eq_true rfl) dX10_letter_33 (fun _ M33 => ?_)
      refine gz_aloadn C 0 rfl dX10_letter_36 ?_
      refine gz_get C 0 0 (.ref (w.1 1)) kn_X10 rfl kf_X10_10 (by decide) dX10_letter_37 (fv_R rfl rfl) ?_
      refine gz_get C 1 1 (.int (gI M33 1 1)) kn_X5 rfl kf_X10_83 (by decide) dX10_letter_40 (fv_I rfl) ?_
      exact gz_iret C dX10_letter_43
    · refine gz_bipush (v := (-104)) C dX10_letter_25 (by decide) ?_
      exact gz_iret C dX10_letter_27
  · refine gz_bipush (v := (-102)) C dX10_letter_10 (by decide) ?_
    exact gz_iret C dX10_letter_12
set_option maxRecDepth 100000 in
set_option maxHeartbeats 4000000 in
theorem ct_X5_clear (l : Launch) (w : Wd) (M : Mm) : CT l yX5_clear cX5_clear 1 none rm_X5_clear w (qV w) [.ref (w.1 1)] (sp_X5_clear M) M := by
  refine ct_of RX5 [(0, .ref (w.1 1))] rfl (Nat.le_of_ble_eq_true rfl) (by decide) rfl rfl rfl (fun x C => ?_)
  unfold sp_X5_clear
  refine gz_aloadn C 0 rfl dX5_clear_0 ?_
  refine gz_iconst (v := 0) C dX5_clear_1 (by decide) ?_
  refine gz_putI C 1 1 kn_X5 rfl kf_X5_15 (by decide) rfl rfl (tyX5_ok 1 (by decide)) rfl rfl dX5_clear_2 (fun M2 => ?_)
  exact gz_vret C dX5_clear_5
set_option maxRecDepth 100000 in
set_option maxHeartbeats 4000000 in
theorem ct_X10_blank (l : Launch) (w : Wd) (M : Mm) : CT l yX10_blank cX10_blank 2 (some .int) rm_X10_blank w (qI w) [.ref (w.1 0)] (sp_X10_blank M) M := by
  refine ct_of RX10 [(0, .ref (w.1 0))] rfl (Nat.le_of_ble_eq_true rfl) (by decide) rfl rfl rfl (fun x C => ?_)
  unfold sp_X10_blank
  refine gz_aloadn C 0 rfl dX10_blank_0 ?_
  refine gz_get C 0 0 (.ref (w.1 1)) kn_X10 rfl kf_X10_10 (by decide) dX10_blank_1 (fv_R rfl rfl) ?_
  refine gz_get C 1 1 (.int (gI M 1 1)) kn_X5 rfl kf_X10_83 (by decide) dX10_blank_4 (fv_I rfl) ?_
  refine gz_blt (fun y7 => ?_)
  refine gz_istoren C [(1, .int y7), (0, .ref (w.1 0))] dX10_blank_7 (by decide) rfl ?_
  refine gz_aloadn C 1 rfl dX10_blank_8 ?_
  refine gz_get C 0 0 (.ref (w.1 1)) kn_X10 rfl kf_X10_10 (by decide) dX10_blank_9 (fv_R rfl rfl) ?_
  refine gz_callVV 1 [] [] C kn_X5 rfl rfl (ct_X5_clear x.2.1 w M) cal_X5_clear km_X10_91 ⟨rfl, rfl⟩ ⟨by decide, by decide⟩ rfl rfl (Nat.le_of_ble_eq_true rfl) dX10_blank_12 (fun _ M12 => ?_)
  refine gz_iloadn C 0 rfl dX10_blank_15 ?_
  exact gz_iret C dX10_blank_16
set_option maxRecDepth 100000 in
set_option maxHeartbeats 4000000 in
theorem ct_X10_at (l : Launch) (w : Wd) (c0 : Nat) (hc0 : kd c0 = 12) (p1 : Int32) (M : Mm) : CT l yX10_at cX10_at 2 (some .int) rm_X10_at w (qI w) [.ref (w.1 c0), .int p1] (sp_X10_at c0 p1 M) M := by
  refine ct_of RX10 [(0, .ref (w.1 c0)), (1, .int p1)] rfl (Nat.le_of_ble_eq_true rfl) (by decide) rfl rfl rfl (fun x C => ?_)
  unfold sp_X10_at
  refine gz_iloadn C 1 rfl dX10_at_0 ?_
  refine gz_iflt C 16 dX10_at_1 (by decide) ?_ ?_
  · refine gz_iconst (v := 0) C dX10_at_16 (by decide) ?_
    exact gz_iret C dX10_at_17
  · refine gz_iloadn C 1 rfl dX10_at_4 ?_
    refine gz_aloadn C 0 rfl dX10_at_5 ?_
    refine gz_alenI C hc0 rfl dX10_at_6 ?_
    refine gz_icmpge C 16 dX10_at_7 (by decide) ?_ ?_
    · refine gz_aloadn C 0 rfl dX10_at_10 ?_
      refine gz_iloadn C 1 rfl dX10_at_11 ?_
      refine gz_iald C hc0 dX10_at_12 (fun a12 => ?_)
      refine gz_goto C 17 dX10_at_13 (by decide) ?_
      exact gz_iret C dX10_at_17
    · refine gz_iconst (v := 0) C dX10_at_16 (by decide) ?_
      exact gz_iret C dX10_at_17
set_option maxRecDepth 100000 in
set_option maxHeartbeats 4000000 in
theorem ct_X5_letterAt (l : Launch) (w : Wd) (p1 : Int32) (M : Mm) : CT l yX5_letterAt cX5_letterAt 2 (some .int) rm_X5_letterAt w (qI w) [.ref (w.1 1), .int p1] (sp_X5_letterAt p1 M) M := by
  refine ct_of RX5 [(0, .ref (w.1 1)), (1, .int p1)] rfl (Nat.le_of_ble_eq_true rfl) (by decide) rfl rfl rfl (fun x C => ?_)
  unfold sp_X5_letterAt
  refine gz_aloadn C 0 rfl dX5_letterAt_0 ?_
  refine gz_get C 1 0 (.ref (w.1 2)) kn_X5 rfl kf_X5_9 (by decide) dX5_letterAt_1 (fv_R rfl rfl) ?_
  refine gz_iloadn C 1 rfl dX5_letterAt_4 ?_
  refine gz_callSI [.ref (w.1 2), .int p1] [] C (ct_X10_at x.2.1 w 2 rfl p1 M) cal_X10_at (Or.inr ⟨_, List.mem_of_getElem? (i := 12) rfl⟩) ⟨rfl, rfl⟩ ⟨by decide, by decide⟩ rfl rfl (Nat.le_of_ble_eq_true rfl) dX5_letterAt_5 (fun r5 M5 => ?_)
  exact gz_iret C dX5_letterAt_8
set_option maxRecDepth 100000 in
set_option maxHeartbeats 4000000 in
theorem ct_X5_digitAt (l : Launch) (w : Wd) (p1 : Int32) (M : Mm) : CT l yX5_digitAt cX5_digitAt 2 (some .int) rm_X5_digitAt w (qI w) [.ref (w.1 1), .int p1] (sp_X5_digitAt p1 M) M := by
  refine ct_of RX5 [(0, .ref (w.1 1)), (1, .int p1)] rfl (Nat.le_of_ble_eq_true rfl) (by decide) rfl rfl rfl (fun x C => ?_)
  unfold sp_X5_digitAt
  refine gz_aloadn C 0 rfl dX5_digitAt_0 ?_
  refine gz_get C 1 0 (.ref (w.1 2)) kn_X5 rfl kf_X5_9 (by decide) dX5_digitAt_1 (fv_R rfl rfl) ?_
  refine gz_iloadn C 1 rfl dX5_digitAt_4 ?_
  refine gz_callSI [.ref (w.1 2), .int p1] [] C (ct_X10_at x.2.1 w 2 rfl p1 M) cal_X10_at (Or.inr ⟨_, List.mem_of_getElem? (i := 12) rfl⟩) ⟨rfl, rfl⟩ ⟨by decide, by decide⟩ rfl rfl (Nat.le_of_ble_eq_true rfl) dX5_digitAt_5 (fun r5 M5 => ?_)
  refine gz_bipush (v := (48)) C dX5_digitAt_8 (by decide) ?_
  refine gz_isub C dX5_digitAt_10 ?_
  exact gz_iret C dX5_digitAt_11
set_option maxRecDepth 100000 in
set_option maxHeartbeats 4000000 in
theorem ct_X5_gustsTo (l : Launch) (w : Wd) (p1 : Int32) (M : Mm) : CT l yX5_gustsTo cX5_gustsTo 4 (some .int) rm_X5_gustsTo w (qI w) [.ref (w.1 1), .int p1] (sp_X5_gustsTo p1 M) M := by
  refine ct_of RX5 [(0, .ref (w.1 1)), (1, .int p1)] rfl (Nat.le_of_ble_eq_true rfl) (by decide) rfl rfl rfl (fun x C => ?_)
  unfold sp_X5_gustsTo
  refine gz_iconst (v := 0) C dX5_gustsTo_0 (by decide) ?_
  refine gz_istoren C [(2, .int (0 : Int32)), (0, .ref (w.1 1)), (1, .int p1)] dX5_gustsTo_1 (by decide) rfl ?_
  refine gz_iconst (v := 5) C dX5_gustsTo_2 (by decide) ?_
  refine gz_istoren C [(3, .int (5 : Int32)), (2, .int (0 : Int32)), (0, .ref (w.1 1)), (1, .int p1)] dX5_gustsTo_3 (by decide) rfl ?_
  have hL4 : ∀ (n4 : Nat) (v2_4 : Int32) (v3_4 : Int32) (M_4 : Mm), G x w 4 (qI w) (sp_X5_gustsTo_L4 p1 n4 v2_4 v3_4 M_4) M_4 [(0, .ref (w.1 1)), (1, .int p1), (2, .int v2_4), (3, .int v3_4)] 4 [] := by
    intro n4
    induction n4 with
    | zero => intros; exact gz_none
    | succ n4 ih4 =>
      intro v2_4 v3_4 M_4
      rw [sp_X5_gustsTo_L4]
      refine gz_iloadn C 3 rfl dX5_gustsTo_4 ?_
      refine gz_iloadn C 1 rfl dX5_gustsTo_5 ?_
      refine gz_icmpgt C 23 dX5_gustsTo_6 (by decide) ?_ ?_
      · refine gz_iloadn C 2 rfl dX5_gustsTo_23 ?_
        exact gz_iret C dX5_gustsTo_24
      · refine gz_iloadn C 2 rfl dX5_gustsTo_9 ?_
        refine gz_aloadn C 0 rfl dX5_gustsTo_10 ?_
        refine gz_iloadn C 3 rfl dX5_gustsTo_11 ?_
        refine gz_callVI 1 [.int v3_4] [.int v2_4] C kn_X5 rfl rfl (ct_X5_digitAt x.2.1 w v3_4 M_4) cal_X5_digitAt km_X5_39 ⟨rfl, rfl⟩ ⟨by decide, by decide⟩ rfl rfl (Nat.le_of_ble_eq_true rfl) dX5_gustsTo_12 (fun r12 M12 => ?_)
        refine gz_iadd C dX5_gustsTo_15 ?_
        refine gz_blt (fun y16 => ?_)
        refine gz_istoren C [(2, .int y16), (0, .ref (w.1 1)), (1, .int p1), (3, .int v3_4)] dX5_gustsTo_16 (by decide) rfl ?_
        refine gz_iinc (v' := v3_4 + 1) C 3 [(3, .int (v3_4 + 1)), (2, .int y16), (0, .ref (w.1 1)), (1, .int p1)] rfl dX5_gustsTo_17 rfl (by decide) rfl ?_
        refine gz_goto C 4 dX5_gustsTo_20 (by decide) ?_
        refine gz_sub [2, 3, 1, 0] rfl ?_
        exact ih4 _ _ _
  refine gz_sub [2, 3, 1, 0] rfl ?_
  exact hL4 fu _ _ _
set_option maxRecDepth 100000 in
set_option maxHeartbeats 4000000 in
theorem ct_X5_fits (l : Launch) (w : Wd) (p1 : Int32) (M : Mm) : CT l yX5_fits cX5_fits 2 (some .boolean) rm_X5_fits w (qI w) [.ref (w.1 1), .int p1] (sp_X5_fits p1 M) M := by
  refine ct_of RX5 [(0, .ref (w.1 1)), (1, .int p1)] rfl (Nat.le_of_ble_eq_true rfl) (by decide) rfl rfl rfl (fun x C => ?_)
  unfold sp_X5_fits
  refine gz_iloadn C 1 rfl dX5_fits_0 ?_
  refine gz_iconst (v := 2) C dX5_fits_1 (by decide) ?_
  refine gz_jn (fun K16 => G x w 2 (qI w) K16 M [(0, .ref (w.1 1)), (1, .int p1)] 16 []) ?_ ?_
  · refine gz_aloadn C 0 rfl dX5_fits_16 ?_
    refine gz_iloadn C 1 rfl dX5_fits_17 ?_
    refine gz_callVI 1 [.int p1] [] C kn_X5 rfl rfl (ct_X5_letterAt x.2.1 w p1 M) cal_X5_letterAt km_X5_35 ⟨rfl, rfl⟩ ⟨by decide, by decide⟩ rfl rfl (Nat.le_of_ble_eq_true rfl) dX5_fits_18 (fun r18 M18 => ?_)
    refine gz_bipush (v := (58)) C dX5_fits_21 (by decide) ?_
    refine gz_icmpne C 30 dX5_fits_23 (by decide) ?_ ?_
    · refine gz_iconst (v := 1) C dX5_fits_26 (by decide) ?_
      refine gz_goto C 31 dX5_fits_27 (by decide) ?_
      exact gz_zret C (Or.inr rfl) dX5_fits_31
    · refine gz_iconst (v := 0) C dX5_fits_30 (by decide) ?_
      exact gz_zret C (Or.inl rfl) dX5_fits_31
  · intro K16 hK16
    refine gz_icmpeq C 16 dX5_fits_2 (by decide) ?_ ?_
    · exact hK16
    · refine gz_iloadn C 1 rfl dX5_fits_5 ?_
      refine gz_iconst (v := 4) C dX5_fits_6 (by decide) ?_
      refine gz_icmpeq C 16 dX5_fits_7 (by decide) ?_ ?_
      · exact hK16
      · refine gz_iloadn C 1 rfl dX5_fits_10 ?_
        refine gz_bipush (v := (8)) C dX5_fits_11 (by decide) ?_
        refine gz_icmpne C 32 dX5_fits_13 (by decide) ?_ ?_
        · exact hK16
        · refine gz_aloadn C 0 rfl dX5_fits_32 ?_
          refine gz_iloadn C 1 rfl dX5_fits_33 ?_
          refine gz_callVI 1 [.int p1] [] C kn_X5 rfl rfl (ct_X5_digitAt x.2.1 w p1 M) cal_X5_digitAt km_X5_39 ⟨rfl, rfl⟩ ⟨by decide, by decide⟩ rfl rfl (Nat.le_of_ble_eq_true rfl) dX5_fits_34 (fun r34 M34 => ?_)
          refine gz_iconst (v := 0) C dX5_fits_37 (by decide) ?_
          refine gz_bipush (v := (9)) C dX5_fits_38 (by decide) ?_
          refine gz_callSI [.int r34, .int (0 : Int32), .int (9 : Int32)] [] C (ct_X10_isOutside x.2.1 w r34 (0 : Int32) (9 : Int32) M34) cal_X10_isOutside (Or.inr ⟨_, List.mem_of_getElem? (i := 13) rfl⟩) ⟨rfl, rfl⟩ ⟨by decide, by decide⟩ rfl rfl (Nat.le_of_ble_eq_true rfl) dX5_fits_40 (fun r40 M40 => ?_)
          refine gz_ifeq C 48 dX5_fits_43 (by decide) ?_ ?_
          · refine gz_iloadn C 1 rfl dX5_fits_48 ?_
            refine gz_if (fun hs0 => ?_) (fun hs0 => ?_)
            · refine gz_look (off := 35) C 84 dX5_fits_49 (by decide) (by rw [hs0]; decide) (by decide) ?_
              refine gz_aloadn C 0 rfl dX5_fits_84 ?_
              refine gz_iconst (v := 0) C dX5_fits_85 (by decide) ?_
              refine gz_callVI 1 [.int (0 : Int32)] [] C kn_X5 rfl rfl (ct_X5_digitAt x.2.1 w (0 : Int32) M40) cal_X5_digitAt km_X5_39 ⟨rfl, rfl⟩ ⟨by decide, by decide⟩ rfl rfl (Nat.le_of_ble_eq_true rfl) dX5_fits_86 (fun r86 M86 => ?_)
              refine gz_ifeq C 96 dX5_fits_89 (by decide) ?_ ?_
              · refine gz_iconst (v := 0) C dX5_fits_96 (by decide) ?_
                exact gz_zret C (Or.inl rfl) dX5_fits_97
              · refine gz_iconst (v := 1) C dX5_fits_92 (by decide) ?_
                refine gz_goto C 97 dX5_fits_93 (by decide) ?_
                exact gz_zret C (Or.inr rfl) dX5_fits_97
            refine gz_if (fun hs1 => ?_) (fun hs1 => ?_)
            · refine gz_look (off := 49) C 98 dX5_fits_49 (by decide) (by rw [hs1]; decide) (by decide) ?_
              refine gz_aloadn C 0 rfl dX5_fits_98 ?_
              refine gz_iloadn C 1 rfl dX5_fits_99 ?_
              refine gz_callVI 1 [.int p1] [] C kn_X5 rfl rfl (ct_X5_gustsTo x.2.1 w p1 M40) cal_X5_gustsTo km_X5_46 ⟨rfl, rfl⟩ ⟨by decide, by decide⟩ rfl rfl (Nat.le_of_ble_eq_true rfl) dX5_fits_100 (fun r100 M100 => ?_)
              refine gz_bipush (v := (10)) C dX5_fits_103 (by decide) ?_
              refine gz_icmpgt C 112 dX5_fits_105 (by decide) ?_ ?_
              · refine gz_iconst (v := 0) C dX5_fits_112 (by decide) ?_
                exact gz_zret C (Or.inl rfl) dX5_fits_113
              · refine gz_iconst (v := 1) C dX5_fits_108 (by decide) ?_
                refine gz_goto C 113 dX5_fits_109 (by decide) ?_
                exact gz_zret C (Or.inr rfl) dX5_fits_113
            refine gz_if (fun hs2 => ?_) (fun hs2 => ?_)
            · refine gz_look (off := 65) C 114 dX5_fits_49 (by decide) (by rw [hs2]; decide) (by decide) ?_
              refine gz_aloadn C 0 rfl dX5_fits_114 ?_
              refine gz_iloadn C 1 rfl dX5_fits_115 ?_
              refine gz_callVI 1 [.int p1] [] C kn_X5 rfl rfl (ct_X5_gustsTo x.2.1 w p1 M40) cal_X5_gustsTo km_X5_46 ⟨rfl, rfl⟩ ⟨by decide, by decide⟩ rfl rfl (Nat.le_of_ble_eq_true rfl) dX5_fits_116 (fun r116 M116 => ?_)
              refine gz_bipush (v := (10)) C dX5_fits_119 (by decide) ?_
              refine gz_icmpne C 128 dX5_fits_121 (by decide) ?_ ?_
              · refine gz_iconst (v := 1) C dX5_fits_124 (by decide) ?_
                refine gz_goto C 129 dX5_fits_125 (by decide) ?_
                exact gz_zret C (Or.inr rfl) dX5_fits_129
              · refine gz_iconst (v := 0) C dX5_fits_128 (by decide) ?_
                exact gz_zret C (Or.inl rfl) dX5_fits_129
            refine gz_look (off := 81) C 130 dX5_fits_49 (by decide) (by show Op.lookupswitch.offset [(0, 35), (6, 49), (7, 65)] _ _ = _; rw [lv_osw hs0 (by decide), lv_osw hs1 (by decide), lv_osw hs2 (by decide)]; rfl) (by decide) ?_
            refine gz_iloadn C 1 rfl dX5_fits_130 ?_
            refine gz_bipush (v := (19)) C dX5_fits_131 (by decide) ?_
            refine gz_icmpge C 140 dX5_fits_133 (by decide) ?_ ?_
            · refine gz_iconst (v := 1) C dX5_fits_136 (by decide) ?_
              refine gz_goto C 141 dX5_fits_137 (by decide) ?_
              exact gz_zret C (Or.inr rfl) dX5_fits_141
            · refine gz_iconst (v := 0) C dX5_fits_140 (by decide) ?_
              exact gz_zret C (Or.inl rfl) dX5_fits_141
          · refine gz_iconst (v := 0) C dX5_fits_46 (by decide) ?_
            exact gz_zret C (Or.inl rfl) dX5_fits_47
set_option maxRecDepth 100000 in
set_option maxHeartbeats 4000000 in
theorem ct_X5_faultPlace (l : Launch) (w : Wd) (M : Mm) : CT l yX5_faultPlace cX5_faultPlace 2 (some .int) rm_X5_faultPlace w (qI w) [.ref (w.1 1)] (sp_X5_faultPlace M) M := by
  refine ct_of RX5 [(0, .ref (w.1 1))] rfl (Nat.le_of_ble_eq_true rfl) (by decide) rfl rfl rfl (fun x C => ?_)
  unfold sp_X5_faultPlace
  refine gz_iconst (v := 0) C dX5_faultPlace_0 (by decide) ?_
  refine gz_istoren C [(1, .int (0 : Int32)), (0, .ref (w.1 1))] dX5_faultPlace_1 (by decide) rfl ?_
  have hL2 : ∀ (n2 : Nat) (v1_2 : Int32) (M_2 : Mm), G x w 2 (qI w) (sp_X5_faultPlace_L2 n2 v1_2 M_2) M_2 [(0, .ref (w.1 1)), (1, .int v1_2)] 2 [] := by
    intro n2
    induction n2 with
    | zero => intros; exact gz_none
    | succ n2 ih2 =>
      intro v1_2 M_2
      rw [sp_X5_faultPlace_L2]
      refine gz_iloadn C 1 rfl dX5_faultPlace_2 ?_
      refine gz_aloadn C 0 rfl dX5_faultPlace_3 ?_
      refine gz_get C 1 1 (.int (gI M_2 1 1)) kn_X5 rfl kf_X5_15 (by decide) dX5_faultPlace_4 (fv_I rfl) ?_
      refine gz_icmpge C 26 dX5_faultPlace_7 (by decide) ?_ ?_
      · refine gz_aloadn C 0 rfl dX5_faultPlace_10 ?_
        refine gz_iloadn C 1 rfl dX5_faultPlace_11 ?_
        refine gz_callVI 1 [.int v1_2] [] C kn_X5 rfl rfl (ct_X5_fits x.2.1 w v1_2 M_2) cal_X5_fits km_X5_31 ⟨rfl, rfl⟩ ⟨by decide, by decide⟩ rfl rfl (Nat.le_of_ble_eq_true rfl) dX5_faultPlace_12 (fun r12 M12 => ?_)
        refine gz_ifne C 20 dX5_faultPlace_15 (by decide) ?_ ?_
        · refine gz_iloadn C 1 rfl dX5_faultPlace_18 ?_
          exact gz_iret C dX5_faultPlace_19
        · refine gz_iinc (v' := v1_2 + 1) C 1 [(1, .int (v1_2 + 1)), (0, .ref (w.1 1))] rfl dX5_faultPlace_20 rfl (by decide) rfl ?_
          refine gz_goto C 2 dX5_faultPlace_23 (by decide) ?_
          refine gz_sub [1, 0] rfl ?_
          exact ih2 _ _
      · refine gz_aloadn C 0 rfl dX5_faultPlace_26 ?_
        refine gz_get C 1 1 (.int (gI M_2 1 1)) kn_X5 rfl kf_X5_15 (by decide) dX5_faultPlace_27 (fv_I rfl) ?_
        exact gz_iret C dX5_faultPlace_30
  refine gz_sub [1, 0] rfl ?_
  exact hL2 fu _ _
set_option maxRecDepth 100000 in
set_option maxHeartbeats 4000000 in
theorem ct_X10_fault (l : Launch) (w : Wd) (M : Mm) : CT l yX10_fault cX10_fault 1 (some .int) rm_X10_fault w (qI w) [.ref (w.1 0)] (sp_X10_fault M) M := by
  refine ct_of RX10 [(0, .ref (w.1 0))] rfl (Nat.le_of_ble_eq_true rfl) (by decide) rfl rfl rfl (fun x C => ?_)
  unfold sp_X10_fault
  refine gz_aloadn C 0 rfl dX10_fault_0 ?_
  refine gz_get C 0 0 (.ref (w.1 1)) kn_X10 rfl kf_X10_10 (by decide) dX10_fault_1 (fv_R rfl rfl) ?_
  refine gz_callVI 1 [] [] C kn_X5 rfl rfl (ct_X5_faultPlace x.2.1 w M) cal_X5_faultPlace km_X10_94 ⟨rfl, rfl⟩ ⟨by decide, by decide⟩ rfl rfl (Nat.le_of_ble_eq_true rfl) dX10_fault_4 (fun r4 M4 => ?_)
  exact gz_iret C dX10_fault_7
set_option maxRecDepth 100000 in
set_option maxHeartbeats 4000000 in
theorem ct_X5_isNight (l : Launch) (w : Wd) (M : Mm) : CT l yX5_isNight cX5_isNight 1 (some .boolean) rm_X5_isNight w (qI w) [.ref (w.1 1)] (sp_X5_isNight M) M := by
  refine ct_of RX5 [(0, .ref (w.1 1))] rfl (Nat.le_of_ble_eq_true rfl) (by decide) rfl rfl rfl (fun x C => ?_)
  unfold sp_X5_isNight
  refine gz_aloadn C 0 rfl dX5_isNight_0 ?_
  refine gz_get C 1 1 (.int (gI M 1 1)) kn_X5 rfl kf_X5_15 (by decide) dX5_isNight_1 (fv_I rfl) ?_
  refine gz_bipush (v := (9)) C dX5_isNight_4 (by decide) ?_
  refine gz_icmple C 24 dX5_isNight_6 (by decide) ?_ ?_
  · refine gz_aloadn C 0 rfl dX5_isNight_9 ?_
    refine gz_callVI 1 [] [] C kn_X5 rfl rfl (ct_X5_faultPlace x.2.1 w M) cal_X5_faultPlace km_X5_27 ⟨rfl, rfl⟩ ⟨by decide, by decide⟩ rfl rfl (Nat.le_of_ble_eq_true rfl) dX5_isNight_10 (fun r10 M10 => ?_)
    refine gz_aloadn C 0 rfl dX5_isNight_13 ?_
    refine gz_get C 1 1 (.int (gI M10 1 1)) kn_X5 rfl kf_X5_15 (by decide) dX5_isNight_14 (fv_I rfl) ?_
    refine gz_icmpne C 24 dX5_isNight_17 (by decide) ?_ ?_
    · refine gz_iconst (v := 1) C dX5_isNight_20 (by decide) ?_
      refine gz_goto C 25 dX5_isNight_21 (by decide) ?_
      exact gz_zret C (Or.inr rfl) dX5_isNight_25
    · refine gz_iconst (v := 0) C dX5_isNight_24 (by decide) ?_
      exact gz_zret C (Or.inl rfl) dX5_isNight_25
  · refine gz_iconst (v := 0) C dX5_isNight_24 (by decide) ?_
    exact gz_zret C (Or.inl rfl) dX5_isNight_25
set_option maxRecDepth 100000 in
set_option maxHeartbeats 4000000 in
theorem ct_X7_read (l : Launch) (w : Wd) (M : Mm) : CT l yX7_read cX7_read 3 none rm_X7_read w (qV w) [.ref (w.1 3), .ref (w.1 1)] (sp_X7_read M) M := by
  refine ct_of RX7 [(0, .ref (w.1 3)), (1, .ref (w.1 1))] rfl (Nat.le_of_ble_eq_true rfl) (by decide) rfl rfl rfl (fun x C => ?_)
  unfold sp_X7_read
  refine gz_aloadn C 0 rfl dX7_read_0 ?_
  refine gz_bipush (v := (10)) C dX7_read_1 (by decide) ?_
  refine gz_aloadn C 1 rfl dX7_read_3 ?_
  refine gz_iconst (v := 0) C dX7_read_4 (by decide) ?_
  refine gz_callVI 1 [.int (0 : Int32)] [.int (10 : Int32), .ref (w.1 3)] C kn_X5 rfl rfl (ct_X5_digitAt x.2.1 w (0 : Int32) M) cal_X5_digitAt km_X7_18 ⟨rfl, rfl⟩ ⟨by decide, by decide⟩ rfl rfl (Nat.le_of_ble_eq_true rfl) dX7_read_5 (fun r5 M5 => ?_)
  refine gz_imul C dX7_read_8 ?_
  refine gz_aloadn C 1 rfl dX7_read_9 ?_
  refine gz_iconst (v := 1) C dX7_read_10 (by decide) ?_
  refine gz_callVI 1 [.int (1 : Int32)] [.int ((10 : Int32) * r5), .ref (w.1 3)] C kn_X5 rfl rfl (ct_X5_digitAt x.2.1 w (1 : Int32) M5) cal_X5_digitAt km_X7_18 ⟨rfl, rfl⟩ ⟨by decide, by decide⟩ rfl rfl (Nat.le_of_ble_eq_true rfl) dX7_read_11 (fun r11 M11 => ?_)
  refine gz_iadd C dX7_read_14 ?_
  refine gz_putI C 3 0 kn_X7 rfl kf_X7_24 (by decide) rfl rfl (tyX7_ok 0 (by decide)) rfl rfl dX7_read_15 (fun M15 => ?_)
  refine gz_aloadn C 0 rfl dX7_read_18 ?_
  refine gz_aloadn C 1 rfl dX7_read_19 ?_
  refine gz_iconst (v := 3) C dX7_read_20 (by decide) ?_
  refine gz_callVI 1 [.int (3 : Int32)] [.ref (w.1 3)] C kn_X5 rfl rfl (ct_X5_digitAt x.2.1 w (3 : Int32) M15) cal_X5_digitAt km_X7_18 ⟨rfl, rfl⟩ ⟨by decide, by decide⟩ rfl rfl (Nat.le_of_ble_eq_true rfl) dX7_read_21 (fun r21 M21 => ?_)
  refine gz_putI C 3 2 kn_X7 rfl kf_X7_28 (by decide) rfl rfl (tyX7_ok 2 (by decide)) rfl rfl dX7_read_24 (fun M24 => ?_)
  refine gz_iconst (v := 0) C dX7_read_27 (by decide) ?_
  refine gz_istoren C [(2, .int (0 : Int32)), (0, .ref (w.1 3)), (1, .ref (w.1 1))] dX7_read_28 (by decide) rfl ?_
  refine gz_jn (fun K59 => ∀ (M_59 : Mm), G x w 3 (qV w) (K59 M_59) M_59 [(0, .ref (w.1 3)), (1, .ref (w.1 1))] 59 []) ?_ ?_
  · intro M_59
    refine gz_aloadn C 0 rfl dX7_read_59 ?_
    refine gz_aloadn C 1 rfl dX7_read_60 ?_
    refine gz_get C 1 1 (.int (gI M_59 1 1)) kn_X5 rfl kf_X7_35 (by decide) dX7_read_61 (fv_I rfl) ?_
    refine gz_bipush (v := (9)) C dX7_read_64 (by decide) ?_
    refine gz_isub C dX7_read_66 ?_
    refine gz_putI C 3 1 kn_X7 rfl kf_X7_38 (by decide) rfl rfl (tyX7_ok 1 (by decide)) rfl rfl dX7_read_67 (fun M67 => ?_)
    refine gz_iconst (v := 0) C dX7_read_70 (by decide) ?_
    refine gz_istoren C [(2, .int (0 : Int32)), (0, .ref (w.1 3)), (1, .ref (w.1 1))] dX7_read_71 (by decide) rfl ?_
    have hL72 : ∀ (n72 : Nat) (v2_72 : Int32) (M_72 : Mm), G x w 3 (qV w) (sp_X7_read_L72 n72 v2_72 M_72) M_72 [(0, .ref (w.1 3)), (1, .ref (w.1 1)), (2, .int v2_72)] 72 [] := by
      intro n72
      induction n72 with
      | zero => intros; exact gz_none
      | succ n72 ih72 =>
        intro v2_72 M_72
        rw [sp_X7_read_L72]
        refine gz_iloadn C 2 rfl dX7_read_72 ?_
        refine gz_aloadn C 0 rfl dX7_read_73 ?_
        refine gz_get C 3 1 (.int (gI M_72 3 1)) kn_X7 rfl kf_X7_38 (by decide) dX7_read_74 (fv_I rfl) ?_
        refine gz_icmpge C 102 dX7_read_77 (by decide) ?_ ?_
        · refine gz_aloadn C 0 rfl dX7_read_80 ?_
          refine gz_get C 3 4 (.ref (w.1 5)) kn_X7 rfl kf_X7_15 (by decide) dX7_read_81 (fv_R rfl rfl) ?_
          refine gz_iloadn C 2 rfl dX7_read_84 ?_
          refine gz_aloadn C 1 rfl dX7_read_85 ?_
          refine gz_bipush (v := (9)) C dX7_read_86 (by decide) ?_
          refine gz_iloadn C 2 rfl dX7_read_88 ?_
          refine gz_iadd C dX7_read_89 ?_
          refine gz_callVI 1 [.int ((9 : Int32) + v2_72)] [.int v2_72, .ref (w.1 5)] C kn_X5 rfl rfl (ct_X5_digitAt x.2.1 w ((9 : Int32) + v2_72) M_72) cal_X5_digitAt km_X7_18 ⟨rfl, rfl⟩ ⟨by decide, by decide⟩ rfl rfl (Nat.le_of_ble_eq_true rfl) dX7_read_90 (fun r90 M90 => ?_)
          refine gz_callSV [.ref (w.1 5), .int v2_72, .int r90] [] C (ct_X10_put x.2.1 w 5 rfl v2_72 r90 M90) cal_X10_put (Or.inr ⟨_, List.mem_of_getElem? (i := 14) rfl⟩) ⟨rfl, rfl⟩ ⟨by decide, by decide⟩ rfl rfl (Nat.le_of_ble_eq_true rfl) dX7_read_93 (fun _ M93 => ?_)
          refine gz_iinc (v' := v2_72 + 1) C 2 [(2, .int (v2_72 + 1)), (0, .ref (w.1 3)), (1, .ref (w.1 1))] rfl dX7_read_96 rfl (by decide) rfl ?_
          refine gz_goto C 72 dX7_read_99 (by decide) ?_
          refine gz_sub [1, 2, 0] rfl ?_
          exact ih72 _ _
        · exact gz_vret C dX7_read_102
    refine gz_sub [1, 2, 0] rfl ?_
    exact hL72 fu _ _
  · intro K59 hK59
    have hL29 : ∀ (n29 : Nat) (v2_29 : Int32) (M_29 : Mm), G x w 3 (qV w) (sp_X7_read_L29 K59 n29 v2_29 M_29) M_29 [(0, .ref (w.1 3)), (1, .ref (w.1 1)), (2, .int v2_29)] 29 [] := by
      intro n29
      induction n29 with
      | zero => intros; exact gz_none
      | succ n29 ih29 =>
        intro v2_29 M_29
        rw [sp_X7_read_L29]
        refine gz_iloadn C 2 rfl dX7_read_29 ?_
        refine gz_aloadn C 0 rfl dX7_read_30 ?_
        refine gz_get C 3 3 (.ref (w.1 4)) kn_X7 rfl kf_X7_9 (by decide) dX7_read_31 (fv_R rfl rfl) ?_
        refine gz_alenI (v := 3) C rfl (by decide) dX7_read_34 ?_
        refine gz_icmpge C 59 dX7_read_35 (by decide) ?_ ?_
        · refine gz_aloadn C 0 rfl dX7_read_38 ?_
          refine gz_get C 3 3 (.ref (w.1 4)) kn_X7 rfl kf_X7_9 (by decide) dX7_read_39 (fv_R rfl rfl) ?_
          refine gz_iloadn C 2 rfl dX7_read_42 ?_
          refine gz_aloadn C 1 rfl dX7_read_43 ?_
          refine gz_iconst (v := 5) C dX7_read_44 (by decide) ?_
          refine gz_iloadn C 2 rfl dX7_read_45 ?_
          refine gz_iadd C dX7_read_46 ?_
          refine gz_callVI 1 [.int ((5 : Int32) + v2_29)] [.int v2_29, .ref (w.1 4)] C kn_X5 rfl rfl (ct_X5_digitAt x.2.1 w ((5 : Int32) + v2_29) M_29) cal_X5_digitAt km_X7_18 ⟨rfl, rfl⟩ ⟨by decide, by decide⟩ rfl rfl (Nat.le_of_ble_eq_true rfl) dX7_read_47 (fun r47 M47 => ?_)
          refine gz_callSV [.ref (w.1 4), .int v2_29, .int r47] [] C (ct_X10_put x.2.1 w 4 rfl v2_29 r47 M47) cal_X10_put (Or.inr ⟨_, List.mem_of_getElem? (i := 14) rfl⟩) ⟨rfl, rfl⟩ ⟨by decide, by decide⟩ rfl rfl (Nat.le_of_ble_eq_true rfl) dX7_read_50 (fun _ M50 => ?_)
          refine gz_iinc (v' := v2_29 + 1) C 2 [(2, .int (v2_29 + 1)), (0, .ref (w.1 3)), (1, .ref (w.1 1))] rfl dX7_read_53 rfl (by decide) rfl ?_
          refine gz_goto C 29 dX7_read_56 (by decide) ?_
          refine gz_sub [1, 2, 0] rfl ?_
          exact ih29 _ _
        · refine gz_sub [0, 1] rfl ?_
          exact hK59 _
    refine gz_sub [1, 2, 0] rfl ?_
    exact hL29 fu _ _
set_option maxRecDepth 100000 in
set_option maxHeartbeats 4000000 in
theorem ct_X6_clear (l : Launch) (w : Wd) (M : Mm) : CT l yX6_clear cX6_clear 1 none rm_X6_clear w (qV w) [.ref (w.1 6)] (sp_X6_clear M) M := by
  refine ct_of RX6 [(0, .ref (w.1 6))] rfl (Nat.le_of_ble_eq_true rfl) (by decide) rfl rfl rfl (fun x C => ?_)
  unfold sp_X6_clear
  refine gz_aloadn C 0 rfl dX6_clear_0 ?_
  refine gz_iconst (v := 0) C dX6_clear_1 (by decide) ?_
  refine gz_putI C 6 0 kn_X6 rfl kf_X6_18 (by decide) rfl rfl (tyX6_ok 0 (by decide)) rfl rfl dX6_clear_2 (fun M2 => ?_)
  exact gz_vret C dX6_clear_5
set_option maxRecDepth 100000 in
set_option maxHeartbeats 4000000 in
theorem ct_J7_fill_53178 (l : Launch) (w : Wd) (c0 : Nat) (hc0 : kd c0 = 12) (p1 : Int32) (M : Mm) : CT l yJ7_fill_53178 cJ7_fill_53178 4 none rm_J7_fill_53178 w (qV w) [.ref (w.1 c0), .int p1] (sp_J7_fill_53178 c0 p1 M) M := by
  refine ct_of RJ7 [(0, .ref (w.1 c0)), (1, .int p1)] rfl (Nat.le_of_ble_eq_true rfl) (by decide) rfl rfl rfl (fun x C => ?_)
  unfold sp_J7_fill_53178
  refine gz_iconst (v := 0) C dJ7_fill_53178_0 (by decide) ?_
  refine gz_istoren C [(2, .int (0 : Int32)), (0, .ref (w.1 c0)), (1, .int p1)] dJ7_fill_53178_1 (by decide) rfl ?_
  refine gz_aloadn C 1 rfl dJ7_fill_53178_2 ?_
  refine gz_alenI C hc0 rfl dJ7_fill_53178_3 ?_
  refine gz_blt (fun y4 => ?_)
  refine gz_istoren C [(3, .int y4), (2, .int (0 : Int32)), (0, .ref (w.1 c0)), (1, .int p1)] dJ7_fill_53178_4 (by decide) rfl ?_
  have hL5 : ∀ (n5 : Nat) (v2_5 : Int32) (M_5 : Mm), G x w 4 (qV w) (sp_J7_fill_53178_L5 y4 c0 p1 n5 v2_5 M_5) M_5 [(0, .ref (w.1 c0)), (1, .int p1), (2, .int v2_5), (3, .int y4)] 5 [] := by
    intro n5
    induction n5 with
    | zero => intros; exact gz_none
    | succ n5 ih5 =>
      intro v2_5 M_5
      rw [sp_J7_fill_53178_L5]
      refine gz_iloadn C 2 rfl dJ7_fill_53178_5 ?_
      refine gz_iloadn C 3 rfl dJ7_fill_53178_6 ?_
      refine gz_icmpge C 20 dJ7_fill_53178_7 (by decide) ?_ ?_
      · refine gz_aloadn C 0 rfl dJ7_fill_53178_10 ?_
        refine gz_iloadn C 2 rfl dJ7_fill_53178_11 ?_
        refine gz_iloadn C 1 rfl dJ7_fill_53178_12 ?_
        refine gz_iast C hc0 dJ7_fill_53178_13 (fun M13 => ?_)
        refine gz_iinc (v' := v2_5 + 1) C 2 [(2, .int (v2_5 + 1)), (0, .ref (w.1 c0)), (1, .int p1), (3, .int y4)] rfl dJ7_fill_53178_14 rfl (by decide) rfl ?_
        refine gz_goto C 5 dJ7_fill_53178_17 (by decide) ?_
        refine gz_sub [1, 2, 0, 3] rfl ?_
        exact ih5 _ _
      · exact gz_vret C dJ7_fill_53178_20
  refine gz_sub [2, 3, 1, 0] rfl ?_
  exact hL5 fu _ _
set_option maxRecDepth 100000 in
set_option maxHeartbeats 4000000 in
theorem ct_X2_clear (l : Launch) (w : Wd) (M : Mm) : CT l yX2_clear cX2_clear 1 none rm_X2_clear w (qV w) [.ref (w.1 9)] (sp_X2_clear M) M := by
  refine ct_of RX2 [(0, .ref (w.1 9))] rfl (Nat.le_of_ble_eq_true rfl) (by decide) rfl rfl rfl (fun x C => ?_)
  unfold sp_X2_clear
  refine gz_aloadn C 0 rfl dX2_clear_0 ?_
  refine gz_iconst (v := 0) C dX2_clear_1 (by decide) ?_
  refine gz_putI C 9 0 kn_X2 rfl kf_X2_21 (by decide) rfl rfl (tyX2_ok 0 (by decide)) rfl rfl dX2_clear_2 (fun M2 => ?_)
  refine gz_aloadn C 0 rfl dX2_clear_5 ?_
  refine gz_get C 9 3 (.ref (w.1 12)) kn_X2 rfl kf_X2_18 (by decide) dX2_clear_6 (fv_R rfl rfl) ?_
  refine gz_iconst (v := 0) C dX2_clear_9 (by decide) ?_
  refine gz_callSV [.ref (w.1 12), .int (0 : Int32)] [] C (ct_J7_fill_53178 x.2.1 w 12 rfl (0 : Int32) M2) cal_J7_fill_53178 (Or.inl km_X2_25) ⟨rfl, rfl⟩ ⟨by decide, by decide⟩ rfl rfl (Nat.le_of_ble_eq_true rfl) dX2_clear_10 (fun _ M10 => ?_)
  exact gz_vret C dX2_clear_13
set_option maxRecDepth 100000 in
set_option maxHeartbeats 4000000 in
theorem ct_X1_clear (l : Launch) (w : Wd) (M : Mm) : CT l yX1_clear cX1_clear 1 none rm_X1_clear w (qV w) [.ref (w.1 13)] (sp_X1_clear M) M := by
  refine ct_of RX1 [(0, .ref (w.1 13))] rfl (Nat.le_of_ble_eq_true rfl) (by decide) rfl rfl rfl (fun x C => ?_)
  unfold sp_X1_clear
  refine gz_aloadn C 0 rfl dX1_clear_0 ?_
  refine gz_iconst (v := 0) C dX1_clear_1 (by decide) ?_
  refine gz_putI C 13 0 kn_X1 rfl kf_X1_25 (by decide) rfl rfl (tyX1_ok 0 (by decide)) rfl rfl dX1_clear_2 (fun M2 => ?_)
  refine gz_aloadn C 0 rfl dX1_clear_5 ?_
  refine gz_iconst (v := 0) C dX1_clear_6 (by decide) ?_
  refine gz_putI C 13 1 kn_X1 rfl kf_X1_28 (by decide) rfl rfl (tyX1_ok 1 (by decide)) (nrw_z (Or.inl rfl)) (fit_z (Or.inl rfl)) dX1_clear_7 (fun M7 => ?_)
  refine gz_aloadn C 0 rfl dX1_clear_10 ?_
  refine gz_iconst (v := 0) C dX1_clear_11 (by decide) ?_
  refine gz_putI C 13 2 kn_X1 rfl kf_X1_32 (by decide) rfl rfl (tyX1_ok 2 (by decide)) (nrw_z (Or.inl rfl)) (fit_z (Or.inl rfl)) dX1_clear_12 (fun M12 => ?_)
  refine gz_aloadn C 0 rfl dX1_clear_15 ?_
  refine gz_iconst (v := 0) C dX1_clear_16 (by decide) ?_
  refine gz_putI C 13 3 kn_X1 rfl kf_X1_35 (by decide) rfl rfl (tyX1_ok 3 (by decide)) rfl rfl dX1_clear_17 (fun M17 => ?_)
  refine gz_aloadn C 0 rfl dX1_clear_20 ?_
  refine gz_iconst (v := 0) C dX1_clear_21 (by decide) ?_
  refine gz_putI C 13 4 kn_X1 rfl kf_X1_38 (by decide) rfl rfl (tyX1_ok 4 (by decide)) rfl rfl dX1_clear_22 (fun M22 => ?_)
  refine gz_aloadn C 0 rfl dX1_clear_25 ?_
  refine gz_bipush (v := (60)) C dX1_clear_26 (by decide) ?_
  refine gz_putI C 13 5 kn_X1 rfl kf_X1_9 (by decide) rfl rfl (tyX1_ok 5 (by decide)) rfl rfl dX1_clear_28 (fun M28 => ?_)
  refine gz_aloadn C 0 rfl dX1_clear_31 ?_
  refine gz_iconst (v := 0) C dX1_clear_32 (by decide) ?_
  refine gz_putI C 13 6 kn_X1 rfl kf_X1_41 (by decide) rfl rfl (tyX1_ok 6 (by decide)) rfl rfl dX1_clear_33 (fun M33 => ?_)
  refine gz_aloadn C 0 rfl dX1_clear_36 ?_
  refine gz_iconst (v := 0) C dX1_clear_37 (by decide) ?_
  refine gz_putI C 13 7 kn_X1 rfl kf_X1_44 (by decide) rfl rfl (tyX1_ok 7 (by decide)) rfl rfl dX1_clear_38 (fun M38 => ?_)
  refine gz_aloadn C 0 rfl dX1_clear_41 ?_
  refine gz_get C 13 9 (.ref (w.1 15)) kn_X1 rfl kf_X1_19 (by decide) dX1_clear_42 (fv_R rfl rfl) ?_
  refine gz_iconst (v := 0) C dX1_clear_45 (by decide) ?_
  refine gz_callSV [.ref (w.1 15), .int (0 : Int32)] [] C (ct_J7_fill_53178 x.2.1 w 15 rfl (0 : Int32) M38) cal_J7_fill_53178 (Or.inl km_X1_47) ⟨rfl, rfl⟩ ⟨by decide, by decide⟩ rfl rfl (Nat.le_of_ble_eq_true rfl) dX1_clear_46 (fun _ M46 => ?_)
  exact gz_vret C dX1_clear_49
set_option maxRecDepth 100000 in
set_option maxHeartbeats 4000000 in
theorem ct_X10_night (l : Launch) (w : Wd) (M : Mm) : CT l yX10_night cX10_night 1 (some .int) rm_X10_night w (qI w) [.ref (w.1 0)] (sp_X10_night M) M := by
  refine ct_of RX10 [(0, .ref (w.1 0))] rfl (Nat.le_of_ble_eq_true rfl) (by decide) rfl rfl rfl (fun x C => ?_)
  unfold sp_X10_night
  refine gz_aloadn C 0 rfl dX10_night_0 ?_
  refine gz_get C 0 0 (.ref (w.1 1)) kn_X10 rfl kf_X10_10 (by decide) dX10_night_1 (fv_R rfl rfl) ?_
  refine gz_callVI 1 [] [] C kn_X5 rfl rfl (ct_X5_isNight x.2.1 w M) cal_X5_isNight km_X10_98 ⟨rfl, rfl⟩ ⟨by decide, by decide⟩ rfl rfl (Nat.le_of_ble_eq_true rfl) dX10_night_4 (fun r4 M4 => ?_)
  refine gz_ifne C 13 dX10_night_7 (by decide) ?_ ?_
  · refine gz_bipush (v := (-103)) C dX10_night_10 (by decide) ?_
    exact gz_iret C dX10_night_12
  · refine gz_aloadn C 0 rfl dX10_night_13 ?_
    refine gz_get C 0 1 (.ref (w.1 3)) kn_X10 rfl kf_X10_19 (by decide) dX10_night_14 (fv_R rfl rfl) ?_
    refine gz_aloadn C 0 rfl dX10_night_17 ?_
    refine gz_get C 0 0 (.ref (w.1 1)) kn_X10 rfl kf_X10_10 (by decide) dX10_night_18 (fv_R rfl rfl) ?_
    refine gz_callVV 3 [.ref (w.1 1)] [] C kn_X7 rfl rfl (ct_X7_read x.2.1 w M4) cal_X7_read km_X10_102 ⟨rfl, rfl⟩ ⟨by decide, by decide⟩ rfl rfl (Nat.le_of_ble_eq_true rfl) dX10_night_21 (fun _ M21 => ?_)
    refine gz_aloadn C 0 rfl dX10_night_24 ?_
    refine gz_get C 0 0 (.ref (w.1 1)) kn_X10 rfl kf_X10_10 (by decide) dX10_night_25 (fv_R rfl rfl) ?_
    refine gz_callVV 1 [] [] C kn_X5 rfl rfl (ct_X5_clear x.2.1 w M21) cal_X5_clear km_X10_91 ⟨rfl, rfl⟩ ⟨by decide, by decide⟩ rfl rfl (Nat.le_of_ble_eq_true rfl) dX10_night_28 (fun _ M28 => ?_)
    refine gz_aloadn C 0 rfl dX10_night_31 ?_
    refine gz_get C 0 2 (.ref (w.1 6)) kn_X10 rfl kf_X10_26 (by decide) dX10_night_32 (fv_R rfl rfl) ?_
    refine gz_callVV 6 [] [] C kn_X6 rfl rfl (ct_X6_clear x.2.1 w M28) cal_X6_clear km_X10_106 ⟨rfl, rfl⟩ ⟨by decide, by decide⟩ rfl rfl (Nat.le_of_ble_eq_true rfl) dX10_night_35 (fun _ M35 => ?_)
    refine gz_aloadn C 0 rfl dX10_night_38 ?_
    refine gz_get C 0 3 (.ref (w.1 9)) kn_X10 rfl kf_X10_33 (by decide) dX10_night_39 (fv_R rfl rfl) ?_
    refine gz_callVV 9 [] [] C kn_X2 rfl rfl (ct_X2_clear x.2.1 w M35) cal_X2_clear km_X10_107 ⟨rfl, rfl⟩ ⟨by decide, by decide⟩ rfl rfl (Nat.le_of_ble_eq_true rfl) dX10_night_42 (fun _ M42 => ?_)
    refine gz_aloadn C 0 rfl dX10_night_45 ?_
    refine gz_get C 0 4 (.ref (w.1 13)) kn_X10 rfl kf_X10_40 (by decide) dX10_night_46 (fv_R rfl rfl) ?_
    refine gz_callVV 13 [] [] C kn_X1 rfl rfl (ct_X1_clear x.2.1 w M42) cal_X1_clear km_X10_108 ⟨rfl, rfl⟩ ⟨by decide, by decide⟩ rfl rfl (Nat.le_of_ble_eq_true rfl) dX10_night_49 (fun _ M49 => ?_)
    refine gz_aloadn C 0 rfl dX10_night_52 ?_
    refine gz_dup C dX10_night_53 rfl ?_
    refine gz_get C 0 10 (.int (gI M49 0 10)) kn_X10 rfl kf_X10_109 (by decide) dX10_night_54 (fv_I rfl) ?_
    refine gz_iconst (v := 1) C dX10_night_57 (by decide) ?_
    refine gz_iadd C dX10_night_58 ?_
    refine gz_putI C 0 10 kn_X10 rfl kf_X10_109 (by decide) rfl rfl (tyX10_ok 10 (by decide)) rfl rfl dX10_night_59 (fun M59 => ?_)
    refine gz_aloadn C 0 rfl dX10_night_62 ?_
    refine gz_get C 0 1 (.ref (w.1 3)) kn_X10 rfl kf_X10_19 (by decide) dX10_night_63 (fv_R rfl rfl) ?_
    refine gz_get C 3 1 (.int (gI M59 3 1)) kn_X7 rfl kf_X10_112 (by decide) dX10_night_66 (fv_I rfl) ?_
    exact gz_iret C dX10_night_69
set_option maxRecDepth 100000 in
set_option maxHeartbeats 4000000 in
theorem ct_X10_hasNight (l : Launch) (w : Wd) (M : Mm) : CT l yX10_hasNight cX10_hasNight 1 (some .boolean) rm_X10_hasNight w (qI w) [.ref (w.1 0)] (sp_X10_hasNight M) M := by
  refine ct_of RX10 [(0, .ref (w.1 0))] rfl (Nat.le_of_ble_eq_true rfl) (by decide) rfl rfl rfl (fun x C => ?_)
  unfold sp_X10_hasNight
  refine gz_aloadn C 0 rfl dX10_hasNight_0 ?_
  refine gz_get C 0 10 (.int (gI M 0 10)) kn_X10 rfl kf_X10_109 (by decide) dX10_hasNight_1 (fv_I rfl) ?_
  refine gz_ifle C 11 dX10_hasNight_4 (by decide) ?_ ?_
  · refine gz_iconst (v := 1) C dX10_hasNight_7 (by decide) ?_
    refine gz_goto C 12 dX10_hasNight_8 (by decide) ?_
    exact gz_zret C (Or.inr rfl) dX10_hasNight_12
  · refine gz_iconst (v := 0) C dX10_hasNight_11 (by decide) ?_
    exact gz_zret C (Or.inl rfl) dX10_hasNight_12
set_option maxRecDepth 100000 in
set_option maxHeartbeats 4000000 in
theorem ct_X7_tell (l : Launch) (w : Wd) (p1 : Int32) (M : Mm) : CT l yX7_tell cX7_tell 2 (some .int) rm_X7_tell w (qI w) [.ref (w.1 3), .int p1] (sp_X7_tell p1 M) M := by
  refine ct_of RX7 [(0, .ref (w.1 3)), (1, .int p1)] rfl (Nat.le_of_ble_eq_true rfl) (by decide) rfl rfl rfl (fun x C => ?_)
  unfold sp_X7_tell
  refine gz_iloadn C 1 rfl dX7_tell_0 ?_
  refine gz_ifne C 9 dX7_tell_1 (by decide) ?_ ?_
  · refine gz_aloadn C 0 rfl dX7_tell_4 ?_
    refine gz_get C 3 0 (.int (gI M 3 0)) kn_X7 rfl kf_X7_24 (by decide) dX7_tell_5 (fv_I rfl) ?_
    exact gz_iret C dX7_tell_8
  · refine gz_iloadn C 1 rfl dX7_tell_9 ?_
    refine gz_iconst (v := 1) C dX7_tell_10 (by decide) ?_
    refine gz_icmpne C 19 dX7_tell_11 (by decide) ?_ ?_
    · refine gz_aloadn C 0 rfl dX7_tell_14 ?_
      refine gz_get C 3 2 (.int (gI M 3 2)) kn_X7 rfl kf_X7_28 (by decide) dX7_tell_15 (fv_I rfl) ?_
      exact gz_iret C dX7_tell_18
    · refine gz_iloadn C 1 rfl dX7_tell_19 ?_
      refine gz_bipush (v := (10)) C dX7_tell_20 (by decide) ?_
      refine gz_icmpge C 36 dX7_tell_22 (by decide) ?_ ?_
      · refine gz_aloadn C 0 rfl dX7_tell_25 ?_
        refine gz_get C 3 3 (.ref (w.1 4)) kn_X7 rfl kf_X7_9 (by decide) dX7_tell_26 (fv_R rfl rfl) ?_
        refine gz_iloadn C 1 rfl dX7_tell_29 ?_
        refine gz_iconst (v := 2) C dX7_tell_30 (by decide) ?_
        refine gz_isub C dX7_tell_31 ?_
        refine gz_callSI [.ref (w.1 4), .int (p1 - (2 : Int32))] [] C (ct_X10_at x.2.1 w 4 rfl (p1 - (2 : Int32)) M) cal_X10_at (Or.inr ⟨_, List.mem_of_getElem? (i := 15) rfl⟩) ⟨rfl, rfl⟩ ⟨by decide, by decide⟩ rfl rfl (Nat.le_of_ble_eq_true rfl) dX7_tell_32 (fun r32 M32 => ?_)
        exact gz_iret C dX7_tell_35
      · refine gz_iloadn C 1 rfl dX7_tell_36 ?_
        refine gz_bipush (v := (10)) C dX7_tell_37 (by decide) ?_
        refine gz_isub C dX7_tell_39 ?_
        refine gz_aloadn C 0 rfl dX7_tell_40 ?_
        refine gz_get C 3 1 (.int (gI M 3 1)) kn_X7 rfl kf_X7_38 (by decide) dX7_tell_41 (fv_I rfl) ?_
        refine gz_icmpge C 61 dX7_tell_44 (by decide) ?_ ?_
        · refine gz_aloadn C 0 rfl dX7_tell_47 ?_
          refine gz_get C 3 4 (.ref (w.1 5)) kn_X7 rfl kf_X7_15 (by decide) dX7_tell_48 (fv_R rfl rfl) ?_
          refine gz_iloadn C 1 rfl dX7_tell_51 ?_
          refine gz_bipush (v := (10)) C dX7_tell_52 (by decide) ?_
          refine gz_isub C dX7_tell_54 ?_
          refine gz_callSI [.ref (w.1 5), .int (p1 - (10 : Int32))] [] C (ct_X10_at x.2.1 w 5 rfl (p1 - (10 : Int32)) M) cal_X10_at (Or.inr ⟨_, List.mem_of_getElem? (i := 15) rfl⟩) ⟨rfl, rfl⟩ ⟨by decide, by decide⟩ rfl rfl (Nat.le_of_ble_eq_true rfl) dX7_tell_55 (fun r55 M55 => ?_)
          refine gz_goto C 62 dX7_tell_58 (by decide) ?_
          exact gz_iret C dX7_tell_62
        · refine gz_iconst (v := (-1)) C dX7_tell_61 (by decide) ?_
          exact gz_iret C dX7_tell_62
set_option maxRecDepth 100000 in
set_option maxHeartbeats 4000000 in
theorem ct_X10_sea (l : Launch) (w : Wd) (p1 : Int32) (M : Mm) : CT l yX10_sea cX10_sea 2 (some .int) rm_X10_sea w (qI w) [.ref (w.1 0), .int p1] (sp_X10_sea p1 M) M := by
  refine ct_of RX10 [(0, .ref (w.1 0)), (1, .int p1)] rfl (Nat.le_of_ble_eq_true rfl) (by decide) rfl rfl rfl (fun x C => ?_)
  unfold sp_X10_sea
  refine gz_iloadn C 1 rfl dX10_sea_0 ?_
  refine gz_iconst (v := 0) C dX10_sea_1 (by decide) ?_
  refine gz_iconst (v := 4) C dX10_sea_2 (by decide) ?_
  refine gz_callSI [.int p1, .int (0 : Int32), .int (4 : Int32)] [] C (ct_X10_isOutside x.2.1 w p1 (0 : Int32) (4 : Int32) M) cal_X10_isOutside (Or.inl km_X10_79) ⟨rfl, rfl⟩ ⟨by decide, by decide⟩ rfl rfl (Nat.le_of_ble_eq_true rfl) dX10_sea_3 (fun r3 M3 => ?_)
  refine gz_jn (fun K23 => ∀ (M_23 : Mm), G x w 2 (qI w) (K23 M_23) M_23 [(0, .ref (w.1 0)), (1, .int p1)] 23 []) ?_ ?_
  · intro M_23
    refine gz_aloadn C 0 rfl dX10_sea_23 ?_
    refine gz_callVI 0 [] [] C kn_X10 rfl rfl (ct_X10_hasNight x.2.1 w M_23) cal_X10_hasNight km_X10_115 ⟨rfl, rfl⟩ ⟨by decide, by decide⟩ rfl rfl (Nat.le_of_ble_eq_true rfl) dX10_sea_24 (fun r24 M24 => ?_)
    refine gz_ifne C 33 dX10_sea_27 (by decide) ?_ ?_
    · refine gz_bipush (v := (-103)) C dX10_sea_30 (by decide) ?_
      exact gz_iret C dX10_sea_32
    · refine gz_aloadn C 0 rfl dX10_sea_33 ?_
      refine gz_get C 0 1 (.ref (w.1 3)) kn_X10 rfl kf_X10_19 (by decide) dX10_sea_34 (fv_R rfl rfl) ?_
      refine gz_iloadn C 1 rfl dX10_sea_37 ?_
      refine gz_callVI 3 [.int p1] [] C kn_X7 rfl rfl (ct_X7_tell x.2.1 w p1 M24) cal_X7_tell km_X10_118 ⟨rfl, rfl⟩ ⟨by decide, by decide⟩ rfl rfl (Nat.le_of_ble_eq_true rfl) dX10_sea_38 (fun r38 M38 => ?_)
      exact gz_iret C dX10_sea_41
  · intro K23 hK23
    refine gz_ifeq C 23 dX10_sea_6 (by decide) ?_ ?_
    · exact hK23 _
    · refine gz_iloadn C 1 rfl dX10_sea_9 ?_
      refine gz_bipush (v := (10)) C dX10_sea_10 (by decide) ?_
      refine gz_bipush (v := (19)) C dX10_sea_12 (by decide) ?_
      refine gz_callSI [.int p1, .int (10 : Int32), .int (19 : Int32)] [] C (ct_X10_isOutside x.2.1 w p1 (10 : Int32) (19 : Int32) M3) cal_X10_isOutside (Or.inl km_X10_79) ⟨rfl, rfl⟩ ⟨by decide, by decide⟩ rfl rfl (Nat.le_of_ble_eq_true rfl) dX10_sea_14 (fun r14 M14 => ?_)
      refine gz_ifeq C 23 dX10_sea_17 (by decide) ?_ ?_
      · exact hK23 _
      · refine gz_bipush (v := (-102)) C dX10_sea_20 (by decide) ?_
        exact gz_iret C dX10_sea_22
set_option maxRecDepth 100000 in
set_option maxHeartbeats 4000000 in
theorem ct_X6_add (l : Launch) (w : Wd) (p1 : Int32) (p2 : Int32) (M : Mm) : CT l yX6_add cX6_add 3 (some .int) rm_X6_add w (qI w) [.ref (w.1 6), .int p1, .int p2] (sp_X6_add p1 p2 M) M := by
  refine ct_of RX6 [(0, .ref (w.1 6)), (1, .int p1), (2, .int p2)] rfl (Nat.le_of_ble_eq_true rfl) (by decide) rfl rfl rfl (fun x C => ?_)
  unfold sp_X6_add
  refine gz_aloadn C 0 rfl dX6_add_0 ?_
  refine gz_get C 6 1 (.ref (w.1 7)) kn_X6 rfl kf_X6_9 (by decide) dX6_add_1 (fv_R rfl rfl) ?_
  refine gz_aloadn C 0 rfl dX6_add_4 ?_
  refine gz_get C 6 0 (.int (gI M 6 0)) kn_X6 rfl kf_X6_18 (by decide) dX6_add_5 (fv_I rfl) ?_
  refine gz_iloadn C 1 rfl dX6_add_8 ?_
  refine gz_callSV [.ref (w.1 7), .int (gI M 6 0), .int p1] [] C (ct_X10_put x.2.1 w 7 rfl (gI M 6 0) p1 M) cal_X10_put (Or.inr ⟨_, List.mem_of_getElem? (i := 16) rfl⟩) ⟨rfl, rfl⟩ ⟨by decide, by decide⟩ rfl rfl (Nat.le_of_ble_eq_true rfl) dX6_add_9 (fun _ M9 => ?_)
  refine gz_aloadn C 0 rfl dX6_add_12 ?_
  refine gz_get C 6 2 (.ref (w.1 8)) kn_X6 rfl kf_X6_15 (by decide) dX6_add_13 (fv_R rfl rfl) ?_
  refine gz_aloadn C 0 rfl dX6_add_16 ?_
  refine gz_get C 6 0 (.int (gI M9 6 0)) kn_X6 rfl kf_X6_18 (by decide) dX6_add_17 (fv_I rfl) ?_
  refine gz_iloadn C 2 rfl dX6_add_20 ?_
  refine gz_callSV [.ref (w.1 8), .int (gI M9 6 0), .int p2] [] C (ct_X10_put x.2.1 w 8 rfl (gI M9 6 0) p2 M9) cal_X10_put (Or.inr ⟨_, List.mem_of_getElem? (i := 16) rfl⟩) ⟨rfl, rfl⟩ ⟨by decide, by decide⟩ rfl rfl (Nat.le_of_ble_eq_true rfl) dX6_add_21 (fun _ M21 => ?_)
  refine gz_aloadn C 0 rfl dX6_add_24 ?_
  refine gz_dup C dX6_add_25 rfl ?_
  refine gz_get C 6 0 (.int (gI M21 6 0)) kn_X6 rfl kf_X6_18 (by decide) dX6_add_26 (fv_I rfl) ?_
  refine gz_iconst (v := 1) C dX6_add_29 (by decide) ?_
  refine gz_iadd C dX6_add_30 ?_
  refine gz_putI C 6 0 kn_X6 rfl kf_X6_18 (by decide) rfl rfl (tyX6_ok 0 (by decide)) rfl rfl dX6_add_31 (fun M31 => ?_)
  refine gz_aloadn C 0 rfl dX6_add_34 ?_
  refine gz_get C 6 0 (.int (gI M31 6 0)) kn_X6 rfl kf_X6_18 (by decide) dX6_add_35 (fv_I rfl) ?_
  refine gz_iconst (v := 1) C dX6_add_38 (by decide) ?_
  refine gz_isub C dX6_add_39 ?_
  exact gz_iret C dX6_add_40
set_option maxRecDepth 100000 in
set_option maxHeartbeats 4000000 in
theorem ct_X10_rocket (l : Launch) (w : Wd) (p1 : Int32) (p2 : Int32) (M : Mm) : CT l yX10_rocket cX10_rocket 3 (some .int) rm_X10_rocket w (qI w) [.ref (w.1 0), .int p1, .int p2] (sp_X10_rocket p1 p2 M) M := by
  refine ct_of RX10 [(0, .ref (w.1 0)), (1, .int p1), (2, .int p2)] rfl (Nat.le_of_ble_eq_true rfl) (by decide) rfl rfl rfl (fun x C => ?_)
  unfold sp_X10_rocket
  refine gz_iloadn C 1 rfl dX10_rocket_0 ?_
  refine gz_bipush (v := (10)) C dX10_rocket_1 (by decide) ?_
  refine gz_bipush (v := (120)) C dX10_rocket_3 (by decide) ?_
  refine gz_callSI [.int p1, .int (10 : Int32), .int (120 : Int32)] [] C (ct_X10_isOutside x.2.1 w p1 (10 : Int32) (120 : Int32) M) cal_X10_isOutside (Or.inl km_X10_79) ⟨rfl, rfl⟩ ⟨by decide, by decide⟩ rfl rfl (Nat.le_of_ble_eq_true rfl) dX10_rocket_5 (fun r5 M5 => ?_)
  refine gz_ifne C 21 dX10_rocket_8 (by decide) ?_ ?_
  · refine gz_iloadn C 2 rfl dX10_rocket_11 ?_
    refine gz_iconst (v := 0) C dX10_rocket_12 (by decide) ?_
    refine gz_bipush (v := (9)) C dX10_rocket_13 (by decide) ?_
    refine gz_callSI [.int p2, .int (0 : Int32), .int (9 : Int32)] [] C (ct_X10_isOutside x.2.1 w p2 (0 : Int32) (9 : Int32) M5) cal_X10_isOutside (Or.inl km_X10_79) ⟨rfl, rfl⟩ ⟨by decide, by decide⟩ rfl rfl (Nat.le_of_ble_eq_true rfl) dX10_rocket_15 (fun r15 M15 => ?_)
    refine gz_ifeq C 24 dX10_rocket_18 (by decide) ?_ ?_
    · refine gz_aloadn C 0 rfl dX10_rocket_24 ?_
      refine gz_callVI 0 [] [] C kn_X10 rfl rfl (ct_X10_hasNight x.2.1 w M15) cal_X10_hasNight km_X10_115 ⟨rfl, rfl⟩ ⟨by decide, by decide⟩ rfl rfl (Nat.le_of_ble_eq_true rfl) dX10_rocket_25 (fun r25 M25 => ?_)
      refine gz_ifne C 34 dX10_rocket_28 (by decide) ?_ ?_
      · refine gz_bipush (v := (-103)) C dX10_rocket_31 (by decide) ?_
        exact gz_iret C dX10_rocket_33
      · refine gz_aloadn C 0 rfl dX10_rocket_34 ?_
        refine gz_get C 0 2 (.ref (w.1 6)) kn_X10 rfl kf_X10_26 (by decide) dX10_rocket_35 (fv_R rfl rfl) ?_
        refine gz_get C 6 0 (.int (gI M25 6 0)) kn_X6 rfl kf_X10_122 (by decide) dX10_rocket_38 (fv_I rfl) ?_
        refine gz_bipush (v := (6)) C dX10_rocket_41 (by decide) ?_
        refine gz_icmplt C 49 dX10_rocket_43 (by decide) ?_ ?_
        · refine gz_aloadn C 0 rfl dX10_rocket_49 ?_
          refine gz_get C 0 2 (.ref (w.1 6)) kn_X10 rfl kf_X10_26 (by decide) dX10_rocket_50 (fv_R rfl rfl) ?_
          refine gz_iloadn C 1 rfl dX10_rocket_53 ?_
          refine gz_iloadn C 2 rfl dX10_rocket_54 ?_
          refine gz_callVI 6 [.int p1, .int p2] [] C kn_X6 rfl rfl (ct_X6_add x.2.1 w p1 p2 M25) cal_X6_add km_X10_125 ⟨rfl, rfl⟩ ⟨by decide, by decide⟩ rfl rfl (Nat.le_of_ble_eq_true rfl) dX10_rocket_55 (fun r55 M55 => ?_)
          exact gz_iret C dX10_rocket_58
        · refine gz_bipush (v := (-104)) C dX10_rocket_46 (by decide) ?_
          exact gz_iret C dX10_rocket_48
    · refine gz_bipush (v := (-102)) C dX10_rocket_21 (by decide) ?_
      exact gz_iret C dX10_rocket_23
  · refine gz_bipush (v := (-102)) C dX10_rocket_21 (by decide) ?_
    exact gz_iret C dX10_rocket_23
set_option maxRecDepth 100000 in
set_option maxHeartbeats 4000000 in
theorem ct_X6_has (l : Launch) (w : Wd) (p1 : Int32) (M : Mm) : CT l yX6_has cX6_has 2 (some .boolean) rm_X6_has w (qI w) [.ref (w.1 6), .int p1] (sp_X6_has p1 M) M := by
  refine ct_of RX6 [(0, .ref (w.1 6)), (1, .int p1)] rfl (Nat.le_of_ble_eq_true rfl) (by decide) rfl rfl rfl (fun x C => ?_)
  unfold sp_X6_has
  refine gz_iloadn C 1 rfl dX6_has_0 ?_
  refine gz_iflt C 16 dX6_has_1 (by decide) ?_ ?_
  · refine gz_iconst (v := 0) C dX6_has_16 (by decide) ?_
    exact gz_zret C (Or.inl rfl) dX6_has_17
  · refine gz_iloadn C 1 rfl dX6_has_4 ?_
    refine gz_aloadn C 0 rfl dX6_has_5 ?_
    refine gz_get C 6 0 (.int (gI M 6 0)) kn_X6 rfl kf_X6_18 (by decide) dX6_has_6 (fv_I rfl) ?_
    refine gz_icmpge C 16 dX6_has_9 (by decide) ?_ ?_
    · refine gz_iconst (v := 1) C dX6_has_12 (by decide) ?_
      refine gz_goto C 17 dX6_has_13 (by decide) ?_
      exact gz_zret C (Or.inr rfl) dX6_has_17
    · refine gz_iconst (v := 0) C dX6_has_16 (by decide) ?_
      exact gz_zret C (Or.inl rfl) dX6_has_17
set_option maxRecDepth 100000 in
set_option maxHeartbeats 4000000 in
theorem ct_X10_isIn (l : Launch) (w : Wd) (p0 : Int32) (p1 : Int32) (M : Mm) : CT l yX10_isIn cX10_isIn 2 (some .boolean) rm_X10_isIn w (qI w) [.int p0, .int p1] (sp_X10_isIn p0 p1 M) M := by
  refine ct_of RX10 [(0, .int p0), (1, .int p1)] rfl (Nat.le_of_ble_eq_true rfl) (by decide) rfl rfl rfl (fun x C => ?_)
  unfold sp_X10_isIn
  refine gz_iloadn C 0 rfl dX10_isIn_0 ?_
  refine gz_iloadn C 1 rfl dX10_isIn_1 ?_
  refine gz_ishr C dX10_isIn_2 ?_
  refine gz_iconst (v := 1) C dX10_isIn_3 (by decide) ?_
  refine gz_iand C dX10_isIn_4 ?_
  refine gz_ifeq C 12 dX10_isIn_5 (by decide) ?_ ?_
  · refine gz_iconst (v := 0) C dX10_isIn_12 (by decide) ?_
    exact gz_zret C (Or.inl rfl) dX10_isIn_13
  · refine gz_iconst (v := 1) C dX10_isIn_8 (by decide) ?_
    refine gz_goto C 13 dX10_isIn_9 (by decide) ?_
    exact gz_zret C (Or.inr rfl) dX10_isIn_13
set_option maxRecDepth 100000 in
set_option maxHeartbeats 4000000 in
theorem ct_X1_stage (l : Launch) (w : Wd) (M : Mm) : CT l yX1_stage cX1_stage 1 (some .int) rm_X1_stage w (qI w) [.ref (w.1 13)] (sp_X1_stage M) M := by
  refine ct_of RX1 [(0, .ref (w.1 13))] rfl (Nat.le_of_ble_eq_true rfl) (by decide) rfl rfl rfl (fun x C => ?_)
  unfold sp_X1_stage
  refine gz_aloadn C 0 rfl dX1_stage_0 ?_
  refine gz_get C 13 0 (.int (gI M 13 0)) kn_X1 rfl kf_X1_25 (by decide) dX1_stage_1 (fv_I rfl) ?_
  refine gz_iconst (v := 5) C dX1_stage_4 (by decide) ?_
  refine gz_idivc C (by decide) dX1_stage_5 ?_
  exact gz_iret C dX1_stage_6
set_option maxRecDepth 100000 in
set_option maxHeartbeats 4000000 in
theorem ct_X7_drift (l : Launch) (w : Wd) (p1 : Int32) (M : Mm) : CT l yX7_drift cX7_drift 2 (some .int) rm_X7_drift w (qI w) [.ref (w.1 3), .int p1] (sp_X7_drift p1 M) M := by
  refine ct_of RX7 [(0, .ref (w.1 3)), (1, .int p1)] rfl (Nat.le_of_ble_eq_true rfl) (by decide) rfl rfl rfl (fun x C => ?_)
  unfold sp_X7_drift
  refine gz_iloadn C 1 rfl dX7_drift_0 ?_
  refine gz_aloadn C 0 rfl dX7_drift_1 ?_
  refine gz_get C 3 2 (.int (gI M 3 2)) kn_X7 rfl kf_X7_28 (by decide) dX7_drift_2 (fv_I rfl) ?_
  refine gz_imul C dX7_drift_5 ?_
  exact gz_iret C dX7_drift_6
set_option maxRecDepth 100000 in
set_option maxHeartbeats 4000000 in
theorem ct_X6_fallsAt (l : Launch) (w : Wd) (p1 : Int32) (p2 : Int32) (p3 : Int32) (M : Mm) : CT l yX6_fallsAt cX6_fallsAt 5 (some .int) rm_X6_fallsAt w (qI w) [.ref (w.1 6), .int p1, .int p2, .int p3, .ref (w.1 3)] (sp_X6_fallsAt p1 p2 p3 M) M := by
  refine ct_of RX6 [(0, .ref (w.1 6)), (1, .int p1), (2, .int p2), (3, .int p3), (4, .ref (w.1 3))] rfl (Nat.le_of_ble_eq_true rfl) (by decide) rfl rfl rfl (fun x C => ?_)
  unfold sp_X6_fallsAt
  refine gz_aloadn C 0 rfl dX6_fallsAt_0 ?_
  refine gz_get C 6 1 (.ref (w.1 7)) kn_X6 rfl kf_X6_9 (by decide) dX6_fallsAt_1 (fv_R rfl rfl) ?_
  refine gz_iloadn C 1 rfl dX6_fallsAt_4 ?_
  refine gz_callSI [.ref (w.1 7), .int p1] [] C (ct_X10_at x.2.1 w 7 rfl p1 M) cal_X10_at (Or.inr ⟨_, List.mem_of_getElem? (i := 17) rfl⟩) ⟨rfl, rfl⟩ ⟨by decide, by decide⟩ rfl rfl (Nat.le_of_ble_eq_true rfl) dX6_fallsAt_5 (fun r5 M5 => ?_)
  refine gz_aloadn C 0 rfl dX6_fallsAt_8 ?_
  refine gz_get C 6 2 (.ref (w.1 8)) kn_X6 rfl kf_X6_15 (by decide) dX6_fallsAt_9 (fv_R rfl rfl) ?_
  refine gz_iloadn C 1 rfl dX6_fallsAt_12 ?_
  refine gz_callSI [.ref (w.1 8), .int p1] [.int r5] C (ct_X10_at x.2.1 w 8 rfl p1 M5) cal_X10_at (Or.inr ⟨_, List.mem_of_getElem? (i := 17) rfl⟩) ⟨rfl, rfl⟩ ⟨by decide, by decide⟩ rfl rfl (Nat.le_of_ble_eq_true rfl) dX6_fallsAt_13 (fun r13 M13 => ?_)
  refine gz_iloadn C 2 rfl dX6_fallsAt_16 ?_
  refine gz_imul C dX6_fallsAt_17 ?_
  refine gz_isub C dX6_fallsAt_18 ?_
  refine gz_aload C 4 rfl dX6_fallsAt_19 ?_
  refine gz_iloadn C 3 rfl dX6_fallsAt_21 ?_
  refine gz_callVI 3 [.int p3] [.int (r5 - (r13 * p2))] C kn_X7 rfl rfl (ct_X7_drift x.2.1 w p3 M13) cal_X7_drift km_X6_30 ⟨rfl, rfl⟩ ⟨by decide, by decide⟩ rfl rfl (Nat.le_of_ble_eq_true rfl) dX6_fallsAt_22 (fun r22 M22 => ?_)
  refine gz_iadd C dX6_fallsAt_25 ?_
  exact gz_iret C dX6_fallsAt_26
set_option maxRecDepth 100000 in
set_option maxHeartbeats 4000000 in
theorem ct_X10_with (l : Launch) (w : Wd) (p0 : Int32) (p1 : Int32) (M : Mm) : CT l yX10_with cX10_with 2 (some .int) rm_X10_with w (qI w) [.int p0, .int p1] (sp_X10_with p0 p1 M) M := by
  refine ct_of RX10 [(0, .int p0), (1, .int p1)] rfl (Nat.le_of_ble_eq_true rfl) (by decide) rfl rfl rfl (fun x C => ?_)
  unfold sp_X10_with
  refine gz_iloadn C 0 rfl dX10_with_0 ?_
  refine gz_iconst (v := 1) C dX10_with_1 (by decide) ?_
  refine gz_iloadn C 1 rfl dX10_with_2 ?_
  refine gz_ishl C dX10_with_3 ?_
  refine gz_ior C dX10_with_4 ?_
  exact gz_iret C dX10_with_5
set_option maxRecDepth 100000 in
set_option maxHeartbeats 4000000 in
theorem ct_X7_isRight (l : Launch) (w : Wd) (p1 : Int32) (M : Mm) : CT l yX7_isRight cX7_isRight 2 (some .boolean) rm_X7_isRight w (qI w) [.ref (w.1 3), .int p1] (sp_X7_isRight p1 M) M := by
  refine ct_of RX7 [(0, .ref (w.1 3)), (1, .int p1)] rfl (Nat.le_of_ble_eq_true rfl) (by decide) rfl rfl rfl (fun x C => ?_)
  unfold sp_X7_isRight
  refine gz_iloadn C 1 rfl dX7_isRight_0 ?_
  refine gz_aloadn C 0 rfl dX7_isRight_1 ?_
  refine gz_get C 3 0 (.int (gI M 3 0)) kn_X7 rfl kf_X7_24 (by decide) dX7_isRight_2 (fv_I rfl) ?_
  refine gz_icmplt C 22 dX7_isRight_5 (by decide) ?_ ?_
  · refine gz_iconst (v := 0) C dX7_isRight_22 (by decide) ?_
    exact gz_zret C (Or.inl rfl) dX7_isRight_23
  · refine gz_iloadn C 1 rfl dX7_isRight_8 ?_
    refine gz_aloadn C 0 rfl dX7_isRight_9 ?_
    refine gz_get C 3 0 (.int (gI M 3 0)) kn_X7 rfl kf_X7_24 (by decide) dX7_isRight_10 (fv_I rfl) ?_
    refine gz_iconst (v := 5) C dX7_isRight_13 (by decide) ?_
    refine gz_iadd C dX7_isRight_14 ?_
    refine gz_icmpgt C 22 dX7_isRight_15 (by decide) ?_ ?_
    · refine gz_iconst (v := 0) C dX7_isRight_22 (by decide) ?_
      exact gz_zret C (Or.inl rfl) dX7_isRight_23
    · refine gz_iconst (v := 1) C dX7_isRight_18 (by decide) ?_
      refine gz_goto C 23 dX7_isRight_19 (by decide) ?_
      exact gz_zret C (Or.inr rfl) dX7_isRight_23
set_option maxRecDepth 100000 in
set_option maxHeartbeats 4000000 in
theorem ct_X10_fire (l : Launch) (w : Wd) (p1 : Int32) (p2 : Int32) (M : Mm) : CT l yX10_fire cX10_fire 4 (some .int) rm_X10_fire w (qI w) [.ref (w.1 0), .int p1, .int p2] (sp_X10_fire p1 p2 M) M := by
  refine ct_of RX10 [(0, .ref (w.1 0)), (1, .int p1), (2, .int p2)] rfl (Nat.le_of_ble_eq_true rfl) (by decide) rfl rfl rfl (fun x C => ?_)
  unfold sp_X10_fire
  refine gz_aloadn C 0 rfl dX10_fire_0 ?_
  refine gz_get C 0 2 (.ref (w.1 6)) kn_X10 rfl kf_X10_26 (by decide) dX10_fire_1 (fv_R rfl rfl) ?_
  refine gz_iloadn C 1 rfl dX10_fire_4 ?_
  refine gz_callVI 6 [.int p1] [] C kn_X6 rfl rfl (ct_X6_has x.2.1 w p1 M) cal_X6_has km_X10_128 ⟨rfl, rfl⟩ ⟨by decide, by decide⟩ rfl rfl (Nat.le_of_ble_eq_true rfl) dX10_fire_5 (fun r5 M5 => ?_)
  refine gz_ifne C 14 dX10_fire_8 (by decide) ?_ ?_
  · refine gz_bipush (v := (-101)) C dX10_fire_11 (by decide) ?_
    exact gz_iret C dX10_fire_13
  · refine gz_iloadn C 2 rfl dX10_fire_14 ?_
    refine gz_iconst (v := (-1)) C dX10_fire_15 (by decide) ?_
    refine gz_iconst (v := 1) C dX10_fire_16 (by decide) ?_
    refine gz_callSI [.int p2, .int (-1 : Int32), .int (1 : Int32)] [] C (ct_X10_isOutside x.2.1 w p2 (-1 : Int32) (1 : Int32) M5) cal_X10_isOutside (Or.inl km_X10_79) ⟨rfl, rfl⟩ ⟨by decide, by decide⟩ rfl rfl (Nat.le_of_ble_eq_true rfl) dX10_fire_17 (fun r17 M17 => ?_)
    refine gz_ifeq C 26 dX10_fire_20 (by decide) ?_ ?_
    · refine gz_aloadn C 0 rfl dX10_fire_26 ?_
      refine gz_get C 0 4 (.ref (w.1 13)) kn_X10 rfl kf_X10_40 (by decide) dX10_fire_27 (fv_R rfl rfl) ?_
      refine gz_get C 13 3 (.int (gI M17 13 3)) kn_X1 rfl kf_X10_132 (by decide) dX10_fire_30 (fv_I rfl) ?_
      refine gz_iloadn C 1 rfl dX10_fire_33 ?_
      refine gz_callSI [.int (gI M17 13 3), .int p1] [] C (ct_X10_isIn x.2.1 w (gI M17 13 3) p1 M17) cal_X10_isIn (Or.inl km_X10_135) ⟨rfl, rfl⟩ ⟨by decide, by decide⟩ rfl rfl (Nat.le_of_ble_eq_true rfl) dX10_fire_34 (fun r34 M34 => ?_)
      refine gz_ifne C 50 dX10_fire_37 (by decide) ?_ ?_
      · refine gz_aloadn C 0 rfl dX10_fire_40 ?_
        refine gz_get C 0 4 (.ref (w.1 13)) kn_X10 rfl kf_X10_40 (by decide) dX10_fire_41 (fv_R rfl rfl) ?_
        refine gz_get C 13 2 (.int (gI M34 13 2)) kn_X1 rfl kf_X10_139 (by decide) dX10_fire_44 (fv_I rfl) ?_
        refine gz_ifeq C 53 dX10_fire_47 (by decide) ?_ ?_
        · refine gz_aloadn C 0 rfl dX10_fire_53 ?_
          refine gz_get C 0 2 (.ref (w.1 6)) kn_X10 rfl kf_X10_26 (by decide) dX10_fire_54 (fv_R rfl rfl) ?_
          refine gz_iloadn C 1 rfl dX10_fire_57 ?_
          refine gz_aloadn C 0 rfl dX10_fire_58 ?_
          refine gz_get C 0 4 (.ref (w.1 13)) kn_X10 rfl kf_X10_40 (by decide) dX10_fire_59 (fv_R rfl rfl) ?_
          refine gz_callVI 13 [] [.int p1, .ref (w.1 6)] C kn_X1 rfl rfl (ct_X1_stage x.2.1 w M34) cal_X1_stage km_X10_143 ⟨rfl, rfl⟩ ⟨by decide, by decide⟩ rfl rfl (Nat.le_of_ble_eq_true rfl) dX10_fire_62 (fun r62 M62 => ?_)
          refine gz_iloadn C 2 rfl dX10_fire_65 ?_
          refine gz_aloadn C 0 rfl dX10_fire_66 ?_
          refine gz_get C 0 1 (.ref (w.1 3)) kn_X10 rfl kf_X10_19 (by decide) dX10_fire_67 (fv_R rfl rfl) ?_
          refine gz_callVI 6 [.int p1, .int r62, .int p2, .ref (w.1 3)] [] C kn_X6 rfl rfl (ct_X6_fallsAt x.2.1 w p1 r62 p2 M62) cal_X6_fallsAt km_X10_146 ⟨rfl, rfl⟩ ⟨by decide, by decide⟩ rfl rfl (Nat.le_of_ble_eq_true rfl) dX10_fire_70 (fun r70 M70 => ?_)
          refine gz_istoren C [(3, .int r70), (0, .ref (w.1 0)), (1, .int p1), (2, .int p2)] dX10_fire_73 (by decide) rfl ?_
          refine gz_aloadn C 1 rfl dX10_fire_74 ?_
          refine gz_get C 0 4 (.ref (w.1 13)) kn_X10 rfl kf_X10_40 (by decide) dX10_fire_75 (fv_R rfl rfl) ?_
          refine gz_aloadn C 1 rfl dX10_fire_78 ?_
          refine gz_get C 0 4 (.ref (w.1 13)) kn_X10 rfl kf_X10_40 (by decide) dX10_fire_79 (fv_R rfl rfl) ?_
          refine gz_get C 13 3 (.int (gI M70 13 3)) kn_X1 rfl kf_X10_132 (by decide) dX10_fire_82 (fv_I rfl) ?_
          refine gz_iloadn C 2 rfl dX10_fire_85 ?_
          refine gz_callSI [.int (gI M70 13 3), .int p1] [.ref (w.1 13)] C (ct_X10_with x.2.1 w (gI M70 13 3) p1 M70) cal_X10_with (Or.inl km_X10_150) ⟨rfl, rfl⟩ ⟨by decide, by decide⟩ rfl rfl (Nat.le_of_ble_eq_true rfl) dX10_fire_86 (fun r86 M86 => ?_)
          refine gz_putI C 13 3 kn_X1 rfl kf_X10_132 (by decide) rfl rfl (tyX1_ok 3 (by decide)) rfl rfl dX10_fire_89 (fun M89 => ?_)
          refine gz_aloadn C 1 rfl dX10_fire_92 ?_
          refine gz_get C 0 1 (.ref (w.1 3)) kn_X10 rfl kf_X10_19 (by decide) dX10_fire_93 (fv_R rfl rfl) ?_
          refine gz_iloadn C 0 rfl dX10_fire_96 ?_
          refine gz_callVI 3 [.int r70] [] C kn_X7 rfl rfl (ct_X7_isRight x.2.1 w r70 M89) cal_X7_isRight km_X10_153 ⟨rfl, rfl⟩ ⟨by decide, by decide⟩ rfl rfl (Nat.le_of_ble_eq_true rfl) dX10_fire_97 (fun r97 M97 => ?_)
          refine gz_ifeq C 111 dX10_fire_100 (by decide) ?_ ?_
          · refine gz_iloadn C 0 rfl dX10_fire_111 ?_
            exact gz_iret C dX10_fire_112
          · refine gz_aloadn C 1 rfl dX10_fire_103 ?_
            refine gz_get C 0 4 (.ref (w.1 13)) kn_X10 rfl kf_X10_40 (by decide) dX10_fire_104 (fv_R rfl rfl) ?_
            refine gz_iconst (v := 1) C dX10_fire_107 (by decide) ?_
            refine gz_putI C 13 1 kn_X1 rfl kf_X10_156 (by decide) rfl rfl (tyX1_ok 1 (by decide)) (nrw_z (Or.inr rfl)) (fit_z (Or.inr rfl)) dX10_fire_108 (fun M108 => ?_)
            refine gz_iloadn C 0 rfl dX10_fire_111 ?_
            exact gz_iret C dX10_fire_112
        · refine gz_bipush (v := (-103)) C dX10_fire_50 (by decide) ?_
          exact gz_iret C dX10_fire_52
      · refine gz_bipush (v := (-103)) C dX10_fire_50 (by decide) ?_
        exact gz_iret C dX10_fire_52
    · refine gz_bipush (v := (-102)) C dX10_fire_23 (by decide) ?_
      exact gz_iret C dX10_fire_25
set_option maxRecDepth 100000 in
set_option maxHeartbeats 4000000 in
theorem ct_X7_gustTenths (l : Launch) (w : Wd) (p1 : Int32) (M : Mm) : CT l yX7_gustTenths cX7_gustTenths 2 (some .int) rm_X7_gustTenths w (qI w) [.ref (w.1 3), .int p1] (sp_X7_gustTenths p1 M) M := by
  refine ct_of RX7 [(0, .ref (w.1 3)), (1, .int p1)] rfl (Nat.le_of_ble_eq_true rfl) (by decide) rfl rfl rfl (fun x C => ?_)
  unfold sp_X7_gustTenths
  refine gz_aloadn C 0 rfl dX7_gustTenths_0 ?_
  refine gz_get C 3 3 (.ref (w.1 4)) kn_X7 rfl kf_X7_9 (by decide) dX7_gustTenths_1 (fv_R rfl rfl) ?_
  refine gz_iloadn C 1 rfl dX7_gustTenths_4 ?_
  refine gz_iconst (v := 1) C dX7_gustTenths_5 (by decide) ?_
  refine gz_iadd C dX7_gustTenths_6 ?_
  refine gz_callSI [.ref (w.1 4), .int (p1 + (1 : Int32))] [] C (ct_X10_at x.2.1 w 4 rfl (p1 + (1 : Int32)) M) cal_X10_at (Or.inr ⟨_, List.mem_of_getElem? (i := 15) rfl⟩) ⟨rfl, rfl⟩ ⟨by decide, by decide⟩ rfl rfl (Nat.le_of_ble_eq_true rfl) dX7_gustTenths_7 (fun r7 M7 => ?_)
  exact gz_iret C dX7_gustTenths_10
set_option maxRecDepth 100000 in
set_option maxHeartbeats 4000000 in
theorem ct_X6_hitTenths (l : Launch) (w : Wd) (p1 : Int32) (p2 : Int32) (M : Mm) : CT l yX6_hitTenths cX6_hitTenths 6 (some .int) rm_X6_hitTenths w (qI w) [.ref (w.1 6), .int p1, .int p2, .ref (w.1 3)] (sp_X6_hitTenths p1 p2 M) M := by
  refine ct_of RX6 [(0, .ref (w.1 6)), (1, .int p1), (2, .int p2), (3, .ref (w.1 3))] rfl (Nat.le_of_ble_eq_true rfl) (by decide) rfl rfl rfl (fun x C => ?_)
  unfold sp_X6_hitTenths
  refine gz_iconst (v := 0) C dX6_hitTenths_0 (by decide) ?_
  refine gz_istore C [(4, .int (0 : Int32)), (0, .ref (w.1 6)), (1, .int p1), (2, .int p2), (3, .ref (w.1 3))] dX6_hitTenths_1 (by decide) rfl ?_
  refine gz_iconst (v := (-1)) C dX6_hitTenths_3 (by decide) ?_
  refine gz_istore C [(5, .int (-1 : Int32)), (4, .int (0 : Int32)), (0, .ref (w.1 6)), (1, .int p1), (2, .int p2), (3, .ref (w.1 3))] dX6_hitTenths_4 (by decide) rfl ?_
  have hL6 : ∀ (n6 : Nat) (v4_6 : Int32) (v5_6 : Int32) (M_6 : Mm), G x w 6 (qI w) (sp_X6_hitTenths_L6 p1 p2 n6 v4_6 v5_6 M_6) M_6 [(0, .ref (w.1 6)), (1, .int p1), (2, .int p2), (3, .ref (w.1 3)), (4, .int v4_6), (5, .int v5_6)] 6 [] := by
    intro n6
    induction n6 with
    | zero => intros; exact gz_none
    | succ n6 ih6 =>
      intro v4_6 v5_6 M_6
      rw [sp_X6_hitTenths_L6]
      refine gz_iload C 5 rfl dX6_hitTenths_6 ?_
      refine gz_iconst (v := 1) C dX6_hitTenths_8 (by decide) ?_
      refine gz_icmpgt C 45 dX6_hitTenths_9 (by decide) ?_ ?_
      · refine gz_iload C 4 rfl dX6_hitTenths_45 ?_
        exact gz_iret C dX6_hitTenths_47
      · refine gz_aloadn C 3 rfl dX6_hitTenths_12 ?_
        refine gz_aloadn C 0 rfl dX6_hitTenths_13 ?_
        refine gz_iloadn C 1 rfl dX6_hitTenths_14 ?_
        refine gz_iloadn C 2 rfl dX6_hitTenths_15 ?_
        refine gz_iload C 5 rfl dX6_hitTenths_16 ?_
        refine gz_aloadn C 3 rfl dX6_hitTenths_18 ?_
        refine gz_callVI 6 [.int p1, .int p2, .int v5_6, .ref (w.1 3)] [.ref (w.1 3)] C kn_X6 rfl rfl (ct_X6_fallsAt x.2.1 w p1 p2 v5_6 M_6) cal_X6_fallsAt km_X6_36 ⟨rfl, rfl⟩ ⟨by decide, by decide⟩ rfl rfl (Nat.le_of_ble_eq_true rfl) dX6_hitTenths_19 (fun r19 M19 => ?_)
        refine gz_callVI 3 [.int r19] [] C kn_X7 rfl rfl (ct_X7_isRight x.2.1 w r19 M19) cal_X7_isRight km_X6_40 ⟨rfl, rfl⟩ ⟨by decide, by decide⟩ rfl rfl (Nat.le_of_ble_eq_true rfl) dX6_hitTenths_22 (fun r22 M22 => ?_)
        refine gz_ifeq C 39 dX6_hitTenths_25 (by decide) ?_ ?_
        · refine gz_iinc (v' := v5_6 + 1) C 5 [(5, .int (v5_6 + 1)), (0, .ref (w.1 6)), (1, .int p1), (2, .int p2), (3, .ref (w.1 3)), (4, .int v4_6)] rfl dX6_hitTenths_39 rfl (by decide) rfl ?_
          refine gz_goto C 6 dX6_hitTenths_42 (by decide) ?_
          refine gz_sub [1, 2, 3, 4, 5, 0] rfl ?_
          exact ih6 _ _ _
        · refine gz_iload C 4 rfl dX6_hitTenths_28 ?_
          refine gz_aloadn C 3 rfl dX6_hitTenths_30 ?_
          refine gz_iload C 5 rfl dX6_hitTenths_31 ?_
          refine gz_callVI 3 [.int v5_6] [.int v4_6] C kn_X7 rfl rfl (ct_X7_gustTenths x.2.1 w v5_6 M22) cal_X7_gustTenths km_X6_44 ⟨rfl, rfl⟩ ⟨by decide, by decide⟩ rfl rfl (Nat.le_of_ble_eq_true rfl) dX6_hitTenths_33 (fun r33 M33 => ?_)
          refine gz_iadd C dX6_hitTenths_36 ?_
          refine gz_blt (fun y37 => ?_)
          refine gz_istore C [(4, .int y37), (0, .ref (w.1 6)), (1, .int p1), (2, .int p2), (3, .ref (w.1 3)), (5, .int v5_6)] dX6_hitTenths_37 (by decide) rfl ?_
          refine gz_iinc (v' := v5_6 + 1) C 5 [(5, .int (v5_6 + 1)), (4, .int y37), (0, .ref (w.1 6)), (1, .int p1), (2, .int p2), (3, .ref (w.1 3))] rfl dX6_hitTenths_39 rfl (by decide) rfl ?_
          refine gz_goto C 6 dX6_hitTenths_42 (by decide) ?_
          refine gz_sub [2, 3, 4, 5, 1, 0] rfl ?_
          exact ih6 _ _ _
  refine gz_sub [2, 3, 4, 5, 1, 0] rfl ?_
  exact hL6 fu _ _ _
