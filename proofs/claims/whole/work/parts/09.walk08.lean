set_option maxRecDepth 100000 in
set_option maxHeartbeats 4000000 in
theorem ct_X11_minutes (l : Launch) (w : Wd) (p1 : Int32) (M : Mm) : CT l yX11_minutes cX11_minutes 2 (some .int) rm_X11_minutes w (qI w) [.ref (w.1 32), .int p1] (sp_X11_minutes p1 M) M := by
  refine ct_of RX11 [(0, .ref (w.1 32)), (1, .int p1)] rfl (Nat.le_of_ble_eq_true rfl) (by decide) rfl rfl rfl (fun x C => ?_)
  unfold sp_X11_minutes
  refine gz_iloadn C 1 rfl dX11_minutes_0 ?_
  refine gz_i2l C dX11_minutes_1 ?_
  refine gz_lconst (v := 1) C dX11_minutes_2 (by decide) ?_
  refine gz_ldc2 C kl_X11_236 dX11_minutes_3 ?_
  refine gz_callSI [.long (p1.toInt64), .long (1 : Int64), .long (50 : Int64)] [] C (ct_X11_in x.2.1 w (p1.toInt64) (1 : Int64) (50 : Int64) M) cal_X11_in (Or.inl km_X11_77) ⟨rfl, rfl⟩ ⟨by decide, by decide⟩ rfl rfl (Nat.le_of_ble_eq_true rfl) dX11_minutes_6 (fun r6 M6 => ?_)
  refine gz_ifne C 15 dX11_minutes_9 (by decide) ?_ ?_
  · refine gz_bipush (v := (-102)) C dX11_minutes_12 (by decide) ?_
    exact gz_iret C dX11_minutes_14
  · refine gz_aloadn C 0 rfl dX11_minutes_15 ?_
    refine gz_callVI 32 [] [] C kn_X11 rfl rfl (ct_X11_lacks x.2.1 w M6) cal_X11_lacks km_X11_145 ⟨rfl, rfl⟩ ⟨by decide, by decide⟩ rfl rfl (Nat.le_of_ble_eq_true rfl) dX11_minutes_16 (fun r16 M16 => ?_)
    refine gz_ifne C 45 dX11_minutes_19 (by decide) ?_ ?_
    · refine gz_aloadn C 0 rfl dX11_minutes_22 ?_
      refine gz_get C 32 12 (.int (gI M16 32 12)) kn_X11 rfl kf_X11_121 (by decide) dX11_minutes_23 (fv_I rfl) ?_
      refine gz_iconst (v := 1) C dX11_minutes_26 (by decide) ?_
      refine gz_icmpeq C 45 dX11_minutes_27 (by decide) ?_ ?_
      · refine gz_bipush (v := (-103)) C dX11_minutes_45 (by decide) ?_
        exact gz_iret C dX11_minutes_47
      · refine gz_aloadn C 0 rfl dX11_minutes_30 ?_
        refine gz_get C 32 10 (.int (gI M16 32 10)) kn_X11 rfl kf_X11_115 (by decide) dX11_minutes_31 (fv_I rfl) ?_
        refine gz_iloadn C 1 rfl dX11_minutes_34 ?_
        refine gz_iadd C dX11_minutes_35 ?_
        refine gz_iconst (v := 5) C dX11_minutes_36 (by decide) ?_
        refine gz_aloadn C 0 rfl dX11_minutes_37 ?_
        refine gz_get C 32 7 (.int (gI M16 32 7)) kn_X11 rfl kf_X11_106 (by decide) dX11_minutes_38 (fv_I rfl) ?_
        refine gz_imul C dX11_minutes_41 ?_
        refine gz_icmplt C 48 dX11_minutes_42 (by decide) ?_ ?_
        · refine gz_aloadn C 0 rfl dX11_minutes_48 ?_
          refine gz_dup C dX11_minutes_49 rfl ?_
          refine gz_get C 32 10 (.int (gI M16 32 10)) kn_X11 rfl kf_X11_115 (by decide) dX11_minutes_50 (fv_I rfl) ?_
          refine gz_iloadn C 1 rfl dX11_minutes_53 ?_
          refine gz_iadd C dX11_minutes_54 ?_
          refine gz_putI C 32 10 kn_X11 rfl kf_X11_115 (by decide) rfl rfl (tyX11_ok 10 (by decide)) rfl rfl dX11_minutes_55 (fun M55 => ?_)
          refine gz_aloadn C 0 rfl dX11_minutes_58 ?_
          refine gz_get C 32 10 (.int (gI M55 32 10)) kn_X11 rfl kf_X11_115 (by decide) dX11_minutes_59 (fv_I rfl) ?_
          exact gz_iret C dX11_minutes_62
        · refine gz_bipush (v := (-103)) C dX11_minutes_45 (by decide) ?_
          exact gz_iret C dX11_minutes_47
    · refine gz_bipush (v := (-103)) C dX11_minutes_45 (by decide) ?_
      exact gz_iret C dX11_minutes_47
set_option maxRecDepth 100000 in
set_option maxHeartbeats 4000000 in
theorem ct_X11_ones (l : Launch) (w : Wd) (p0 : Int32) (M : Mm) : CT l yX11_ones cX11_ones 3 (some .int) rm_X11_ones w (qI w) [.int p0] (sp_X11_ones p0 M) M := by
  refine ct_of RX11 [(0, .int p0)] rfl (Nat.le_of_ble_eq_true rfl) (by decide) rfl rfl rfl (fun x C => ?_)
  unfold sp_X11_ones
  refine gz_iconst (v := 0) C dX11_ones_0 (by decide) ?_
  refine gz_istoren C [(1, .int (0 : Int32)), (0, .int p0)] dX11_ones_1 (by decide) rfl ?_
  refine gz_iconst (v := 0) C dX11_ones_2 (by decide) ?_
  refine gz_istoren C [(2, .int (0 : Int32)), (1, .int (0 : Int32)), (0, .int p0)] dX11_ones_3 (by decide) rfl ?_
  have hL4 : ∀ (n4 : Nat) (v1_4 : Int32) (v2_4 : Int32), G x w 3 (qI w) (sp_X11_ones_L4 p0 M n4 v1_4 v2_4) M [(0, .int p0), (1, .int v1_4), (2, .int v2_4)] 4 [] := by
    intro n4
    induction n4 with
    | zero => intros; exact gz_none
    | succ n4 ih4 =>
      intro v1_4 v2_4
      rw [sp_X11_ones_L4]
      refine gz_iloadn C 2 rfl dX11_ones_4 ?_
      refine gz_bipush (v := (6)) C dX11_ones_5 (by decide) ?_
      refine gz_icmpge C 24 dX11_ones_7 (by decide) ?_ ?_
      · refine gz_iloadn C 1 rfl dX11_ones_10 ?_
        refine gz_iloadn C 0 rfl dX11_ones_11 ?_
        refine gz_iloadn C 2 rfl dX11_ones_12 ?_
        refine gz_ishr C dX11_ones_13 ?_
        refine gz_iconst (v := 1) C dX11_ones_14 (by decide) ?_
        refine gz_iand C dX11_ones_15 ?_
        refine gz_iadd C dX11_ones_16 ?_
        refine gz_blt (fun y17 => ?_)
        refine gz_istoren C [(1, .int y17), (0, .int p0), (2, .int v2_4)] dX11_ones_17 (by decide) rfl ?_
        refine gz_iinc (v' := v2_4 + 1) C 2 [(2, .int (v2_4 + 1)), (1, .int y17), (0, .int p0)] rfl dX11_ones_18 rfl (by decide) rfl ?_
        refine gz_goto C 4 dX11_ones_21 (by decide) ?_
        refine gz_sub [2, 1, 0] rfl ?_
        exact ih4 _ _
      · refine gz_iloadn C 1 rfl dX11_ones_24 ?_
        exact gz_iret C dX11_ones_25
  refine gz_sub [2, 1, 0] rfl ?_
  exact hL4 fu _ _
set_option maxRecDepth 100000 in
set_option maxHeartbeats 4000000 in
theorem ct_X11_breaks (l : Launch) (w : Wd) (M : Mm) : CT l yX11_breaks cX11_breaks 1 (some .int) rm_X11_breaks w (qI w) [.ref (w.1 32)] (sp_X11_breaks M) M := by
  refine ct_of RX11 [(0, .ref (w.1 32))] rfl (Nat.le_of_ble_eq_true rfl) (by decide) rfl rfl rfl (fun x C => ?_)
  unfold sp_X11_breaks
  refine gz_aloadn C 0 rfl dX11_breaks_0 ?_
  refine gz_callVI 32 [] [] C kn_X11 rfl rfl (ct_X11_lacks x.2.1 w M) cal_X11_lacks km_X11_145 ⟨rfl, rfl⟩ ⟨by decide, by decide⟩ rfl rfl (Nat.le_of_ble_eq_true rfl) dX11_breaks_1 (fun r1 M1 => ?_)
  refine gz_ifne C 15 dX11_breaks_4 (by decide) ?_ ?_
  · refine gz_aloadn C 0 rfl dX11_breaks_7 ?_
    refine gz_get C 32 12 (.int (gI M1 32 12)) kn_X11 rfl kf_X11_121 (by decide) dX11_breaks_8 (fv_I rfl) ?_
    refine gz_iconst (v := 1) C dX11_breaks_11 (by decide) ?_
    refine gz_icmpne C 18 dX11_breaks_12 (by decide) ?_ ?_
    · refine gz_bipush (v := (-103)) C dX11_breaks_15 (by decide) ?_
      exact gz_iret C dX11_breaks_17
    · refine gz_aloadn C 0 rfl dX11_breaks_18 ?_
      refine gz_iconst (v := 1) C dX11_breaks_19 (by decide) ?_
      refine gz_putI C 32 12 kn_X11 rfl kf_X11_121 (by decide) rfl rfl (tyX11_ok 12 (by decide)) rfl rfl dX11_breaks_20 (fun M20 => ?_)
      refine gz_aloadn C 0 rfl dX11_breaks_23 ?_
      refine gz_get C 32 22 (.int (gI M20 32 22)) kn_X11 rfl kf_X11_127 (by decide) dX11_breaks_24 (fv_I rfl) ?_
      refine gz_aloadn C 0 rfl dX11_breaks_27 ?_
      refine gz_callVI 32 [] [.int (gI M20 32 22)] C kn_X11 rfl rfl (ct_X11_overBits x.2.1 w M20) cal_X11_overBits km_X11_216 ⟨rfl, rfl⟩ ⟨by decide, by decide⟩ rfl rfl (Nat.le_of_ble_eq_true rfl) dX11_breaks_28 (fun r28 M28 => ?_)
      refine gz_callSI [.int r28] [.int (gI M20 32 22)] C (ct_X11_ones x.2.1 w r28 M28) cal_X11_ones (Or.inl km_X11_238) ⟨rfl, rfl⟩ ⟨by decide, by decide⟩ rfl rfl (Nat.le_of_ble_eq_true rfl) dX11_breaks_31 (fun r31 M31 => ?_)
      refine gz_isub C dX11_breaks_34 ?_
      exact gz_iret C dX11_breaks_35
  · refine gz_bipush (v := (-103)) C dX11_breaks_15 (by decide) ?_
    exact gz_iret C dX11_breaks_17
set_option maxRecDepth 100000 in
set_option maxHeartbeats 4000000 in
theorem ct_X11_firstOrder (l : Launch) (w : Wd) (p1 : Int32) (M : Mm) : CT l yX11_firstOrder cX11_firstOrder 3 none rm_X11_firstOrder w (qV w) [.ref (w.1 32), .int p1] (sp_X11_firstOrder p1 M) M := by
  refine ct_of RX11 [(0, .ref (w.1 32)), (1, .int p1)] rfl (Nat.le_of_ble_eq_true rfl) (by decide) rfl rfl rfl (fun x C => ?_)
  unfold sp_X11_firstOrder
  refine gz_aloadn C 0 rfl dX11_firstOrder_0 ?_
  refine gz_iconst (v := 0) C dX11_firstOrder_1 (by decide) ?_
  refine gz_putI C 32 28 kn_X11 rfl kf_X11_241 (by decide) rfl rfl (tyX11_ok 28 (by decide)) rfl rfl dX11_firstOrder_2 (fun M2 => ?_)
  refine gz_iconst (v := 0) C dX11_firstOrder_5 (by decide) ?_
  refine gz_istoren C [(2, .int (0 : Int32)), (0, .ref (w.1 32)), (1, .int p1)] dX11_firstOrder_6 (by decide) rfl ?_
  have hL7 : ∀ (n7 : Nat) (v2_7 : Int32) (M_7 : Mm), G x w 3 (qV w) (sp_X11_firstOrder_L7 p1 n7 v2_7 M_7) M_7 [(0, .ref (w.1 32)), (1, .int p1), (2, .int v2_7)] 7 [] := by
    intro n7
    induction n7 with
    | zero => intros; exact gz_none
    | succ n7 ih7 =>
      intro v2_7 M_7
      rw [sp_X11_firstOrder_L7]
      refine gz_iloadn C 2 rfl dX11_firstOrder_7 ?_
      refine gz_aloadn C 0 rfl dX11_firstOrder_8 ?_
      refine gz_get C 32 22 (.int (gI M_7 32 22)) kn_X11 rfl kf_X11_127 (by decide) dX11_firstOrder_9 (fv_I rfl) ?_
      refine gz_icmpge C 50 dX11_firstOrder_12 (by decide) ?_ ?_
      · refine gz_iloadn C 1 rfl dX11_firstOrder_15 ?_
        refine gz_iloadn C 2 rfl dX11_firstOrder_16 ?_
        refine gz_ishr C dX11_firstOrder_17 ?_
        refine gz_iconst (v := 1) C dX11_firstOrder_18 (by decide) ?_
        refine gz_iand C dX11_firstOrder_19 ?_
        refine gz_iconst (v := 1) C dX11_firstOrder_20 (by decide) ?_
        refine gz_icmpne C 44 dX11_firstOrder_21 (by decide) ?_ ?_
        · refine gz_aloadn C 0 rfl dX11_firstOrder_24 ?_
          refine gz_get C 32 26 (.ref (w.1 43)) kn_X11 rfl kf_X11_41 (by decide) dX11_firstOrder_25 (fv_R rfl rfl) ?_
          refine gz_aloadn C 0 rfl dX11_firstOrder_28 ?_
          refine gz_get C 32 28 (.int (gI M_7 32 28)) kn_X11 rfl kf_X11_241 (by decide) dX11_firstOrder_29 (fv_I rfl) ?_
          refine gz_iloadn C 2 rfl dX11_firstOrder_32 ?_
          refine gz_iast C rfl dX11_firstOrder_33 (fun M33 => ?_)
          refine gz_aloadn C 0 rfl dX11_firstOrder_34 ?_
          refine gz_dup C dX11_firstOrder_35 rfl ?_
          refine gz_get C 32 28 (.int (gI M33 32 28)) kn_X11 rfl kf_X11_241 (by decide) dX11_firstOrder_36 (fv_I rfl) ?_
          refine gz_iconst (v := 1) C dX11_firstOrder_39 (by decide) ?_
          refine gz_iadd C dX11_firstOrder_40 ?_
          refine gz_putI C 32 28 kn_X11 rfl kf_X11_241 (by decide) rfl rfl (tyX11_ok 28 (by decide)) rfl rfl dX11_firstOrder_41 (fun M41 => ?_)
          refine gz_iinc (v' := v2_7 + 1) C 2 [(2, .int (v2_7 + 1)), (0, .ref (w.1 32)), (1, .int p1)] rfl dX11_firstOrder_44 rfl (by decide) rfl ?_
          refine gz_goto C 7 dX11_firstOrder_47 (by decide) ?_
          refine gz_sub [1, 2, 0] rfl ?_
          exact ih7 _ _
        · refine gz_iinc (v' := v2_7 + 1) C 2 [(2, .int (v2_7 + 1)), (0, .ref (w.1 32)), (1, .int p1)] rfl dX11_firstOrder_44 rfl (by decide) rfl ?_
          refine gz_goto C 7 dX11_firstOrder_47 (by decide) ?_
          refine gz_sub [1, 2, 0] rfl ?_
          exact ih7 _ _
      · exact gz_vret C dX11_firstOrder_50
  refine gz_sub [1, 2, 0] rfl ?_
  exact hL7 fu _ _
set_option maxRecDepth 100000 in
set_option maxHeartbeats 4000000 in
theorem ct_X11_holds (l : Launch) (w : Wd) (p1 : Int32) (M : Mm) : CT l yX11_holds cX11_holds 5 (some .long) rm_X11_holds w (qJ w) [.ref (w.1 32), .int p1] (sp_X11_holds p1 M) M := by
  refine ct_of RX11 [(0, .ref (w.1 32)), (1, .int p1)] rfl (Nat.le_of_ble_eq_true rfl) (by decide) rfl rfl rfl (fun x C => ?_)
  unfold sp_X11_holds
  refine gz_ldc2 C kl_X11_244 dX11_holds_0 ?_
  refine gz_lstoren C [(2, .long (10000000000 : Int64)), (0, .ref (w.1 32)), (1, .int p1)] dX11_holds_3 (by decide) rfl ?_
  refine gz_aloadn C 1 rfl dX11_holds_4 ?_
  refine gz_callVI 32 [] [] C kn_X11 rfl rfl (ct_X11_stageNow x.2.1 w M) cal_X11_stageNow km_X11_161 ⟨rfl, rfl⟩ ⟨by decide, by decide⟩ rfl rfl (Nat.le_of_ble_eq_true rfl) dX11_holds_5 (fun r5 M5 => ?_)
  refine gz_istore C [(4, .int r5), (2, .long (10000000000 : Int64)), (0, .ref (w.1 32)), (1, .int p1)] dX11_holds_8 (by decide) rfl ?_
  have hL10 : ∀ (n10 : Nat) (v2_10 : Int64) (v4_10 : Int32), G x w 5 (qJ w) (sp_X11_holds_L10 M5 p1 n10 v2_10 v4_10) M5 [(0, .ref (w.1 32)), (1, .int p1), (2, .long v2_10), (4, .int v4_10)] 10 [] := by
    intro n10
    induction n10 with
    | zero => intros; exact gz_none
    | succ n10 ih10 =>
      intro v2_10 v4_10
      rw [sp_X11_holds_L10]
      refine gz_iload C 3 rfl dX11_holds_10 ?_
      refine gz_aloadn C 0 rfl dX11_holds_12 ?_
      refine gz_get C 32 7 (.int (gI M5 32 7)) kn_X11 rfl kf_X11_106 (by decide) dX11_holds_13 (fv_I rfl) ?_
      refine gz_icmpge C 69 dX11_holds_16 (by decide) ?_ ?_
      · refine gz_iconst (v := 5) C dX11_holds_19 (by decide) ?_
        refine gz_iload C 3 rfl dX11_holds_20 ?_
        refine gz_imul C dX11_holds_22 ?_
        refine gz_iconst (v := 5) C dX11_holds_23 (by decide) ?_
        refine gz_iadd C dX11_holds_24 ?_
        refine gz_iloadn C 1 rfl dX11_holds_25 ?_
        refine gz_icmpgt C 63 dX11_holds_26 (by decide) ?_ ?_
        · refine gz_iinc (v' := v4_10 + 1) C 3 [(4, .int (v4_10 + 1)), (0, .ref (w.1 32)), (1, .int p1), (2, .long v2_10)] rfl dX11_holds_63 rfl (by decide) rfl ?_
          refine gz_goto C 10 dX11_holds_66 (by decide) ?_
          refine gz_sub [1, 2, 3, 0] rfl ?_
          exact ih10 _ _
        · refine gz_iload C 3 rfl dX11_holds_29 ?_
          refine gz_aloadn C 0 rfl dX11_holds_31 ?_
          refine gz_get C 32 7 (.int (gI M5 32 7)) kn_X11 rfl kf_X11_106 (by decide) dX11_holds_32 (fv_I rfl) ?_
          refine gz_iconst (v := 1) C dX11_holds_35 (by decide) ?_
          refine gz_isub C dX11_holds_36 ?_
          refine gz_icmpne C 44 dX11_holds_37 (by decide) ?_ ?_
          · refine gz_lconst (v := 0) C dX11_holds_40 (by decide) ?_
            refine gz_goto C 62 dX11_holds_41 (by decide) ?_
            refine gz_lstoren C [(2, .long (0 : Int64)), (0, .ref (w.1 32)), (1, .int p1), (4, .int v4_10)] dX11_holds_62 (by decide) rfl ?_
            refine gz_iinc (v' := v4_10 + 1) C 3 [(4, .int (v4_10 + 1)), (2, .long (0 : Int64)), (0, .ref (w.1 32)), (1, .int p1)] rfl dX11_holds_63 rfl (by decide) rfl ?_
            refine gz_goto C 10 dX11_holds_66 (by decide) ?_
            refine gz_sub [2, 3, 1, 0] rfl ?_
            exact ih10 _ _
          · refine gz_lloadn C 2 rfl dX11_holds_44 ?_
            refine gz_ldc2 C kl_X11_141 dX11_holds_45 ?_
            refine gz_ldivc C (by decide) dX11_holds_48 ?_
            refine gz_ldc2 C kl_X11_141 dX11_holds_49 ?_
            refine gz_aloadn C 0 rfl dX11_holds_52 ?_
            refine gz_get C 32 16 (.ref (w.1 37)) kn_X11 rfl kf_X11_22 (by decide) dX11_holds_53 (fv_R rfl rfl) ?_
            refine gz_iload C 3 rfl dX11_holds_56 ?_
            refine gz_iald C rfl dX11_holds_58 (fun a58 => ?_)
            refine gz_i2l C dX11_holds_59 ?_
            refine gz_lsub C dX11_holds_60 ?_
            refine gz_lmul C dX11_holds_61 ?_
            refine gz_bltJ (fun y62 => ?_)
            refine gz_lstoren C [(2, .long y62), (0, .ref (w.1 32)), (1, .int p1), (4, .int v4_10)] dX11_holds_62 (by decide) rfl ?_
            refine gz_iinc (v' := v4_10 + 1) C 3 [(4, .int (v4_10 + 1)), (2, .long y62), (0, .ref (w.1 32)), (1, .int p1)] rfl dX11_holds_63 rfl (by decide) rfl ?_
            refine gz_goto C 10 dX11_holds_66 (by decide) ?_
            refine gz_sub [2, 3, 1, 0] rfl ?_
            exact ih10 _ _
      · refine gz_lloadn C 2 rfl dX11_holds_69 ?_
        exact gz_lret C dX11_holds_70
  refine gz_sub [2, 3, 1, 0] rfl ?_
  exact hL10 fu _ _
set_option maxRecDepth 100000 in
set_option maxHeartbeats 4000000 in
theorem ct_X11_meanOf (l : Launch) (w : Wd) (M : Mm) : CT l yX11_meanOf cX11_meanOf 6 (some .long) rm_X11_meanOf w (qJ w) [.ref (w.1 32)] (sp_X11_meanOf M) M := by
  refine ct_of RX11 [(0, .ref (w.1 32))] rfl (Nat.le_of_ble_eq_true rfl) (by decide) rfl rfl rfl (fun x C => ?_)
  unfold sp_X11_meanOf
  refine gz_aloadn C 0 rfl dX11_meanOf_0 ?_
  refine gz_callVI 32 [] [] C kn_X11 rfl rfl (ct_X11_overBits x.2.1 w M) cal_X11_overBits km_X11_216 ⟨rfl, rfl⟩ ⟨by decide, by decide⟩ rfl rfl (Nat.le_of_ble_eq_true rfl) dX11_meanOf_1 (fun r1 M1 => ?_)
  refine gz_istoren C [(1, .int r1), (0, .ref (w.1 32))] dX11_meanOf_4 (by decide) rfl ?_
  refine gz_aloadn C 1 rfl dX11_meanOf_5 ?_
  refine gz_get C 32 10 (.int (gI M1 32 10)) kn_X11 rfl kf_X11_115 (by decide) dX11_meanOf_6 (fv_I rfl) ?_
  refine gz_blt (fun y9 => ?_)
  refine gz_istoren C [(2, .int y9), (1, .int r1), (0, .ref (w.1 32))] dX11_meanOf_9 (by decide) rfl ?_
  refine gz_lconst (v := 0) C dX11_meanOf_10 (by decide) ?_
  refine gz_lstoren C [(3, .long (0 : Int64)), (2, .int y9), (1, .int r1), (0, .ref (w.1 32))] dX11_meanOf_11 (by decide) rfl ?_
  refine gz_iconst (v := 0) C dX11_meanOf_12 (by decide) ?_
  refine gz_istore C [(5, .int (0 : Int32)), (3, .long (0 : Int64)), (2, .int y9), (1, .int r1), (0, .ref (w.1 32))] dX11_meanOf_13 (by decide) rfl ?_
  have hL15 : ∀ (n15 : Nat) (v1_15 : Int32) (v2_15 : Int32) (v3_15 : Int64) (v5_15 : Int32) (M_15 : Mm), G x w 6 (qJ w) (sp_X11_meanOf_L15 n15 v1_15 v2_15 v3_15 v5_15 M_15) M_15 [(0, .ref (w.1 32)), (1, .int v1_15), (2, .int v2_15), (3, .long v3_15), (5, .int v5_15)] 15 [] := by
    intro n15
    induction n15 with
    | zero => intros; exact gz_none
    | succ n15 ih15 =>
      intro v1_15 v2_15 v3_15 v5_15 M_15
      rw [sp_X11_meanOf_L15]
      refine gz_iload C 4 rfl dX11_meanOf_15 ?_
      refine gz_aloadn C 0 rfl dX11_meanOf_17 ?_
      refine gz_get C 32 28 (.int (gI M_15 32 28)) kn_X11 rfl kf_X11_241 (by decide) dX11_meanOf_18 (fv_I rfl) ?_
      refine gz_icmpge C 83 dX11_meanOf_21 (by decide) ?_ ?_
      · refine gz_aloadn C 0 rfl dX11_meanOf_24 ?_
        refine gz_aloadn C 0 rfl dX11_meanOf_25 ?_
        refine gz_get C 32 26 (.ref (w.1 43)) kn_X11 rfl kf_X11_41 (by decide) dX11_meanOf_26 (fv_R rfl rfl) ?_
        refine gz_iload C 4 rfl dX11_meanOf_29 ?_
        refine gz_iald C rfl dX11_meanOf_31 (fun a31 => ?_)
        refine gz_iloadn C 1 rfl dX11_meanOf_32 ?_
        refine gz_callVI 32 [.int a31, .int v1_15] [] C kn_X11 rfl rfl (ct_X11_canCome x.2.1 w a31 v1_15 M_15) cal_X11_canCome km_X11_219 ⟨rfl, rfl⟩ ⟨by decide, by decide⟩ rfl rfl (Nat.le_of_ble_eq_true rfl) dX11_meanOf_33 (fun r33 M33 => ?_)
        refine gz_ifne C 43 dX11_meanOf_36 (by decide) ?_ ?_
        · refine gz_ldc2 C kl_X11_159 dX11_meanOf_39 ?_
          exact gz_lret C dX11_meanOf_42
        · refine gz_iloadn C 1 rfl dX11_meanOf_43 ?_
          refine gz_iconst (v := 1) C dX11_meanOf_44 (by decide) ?_
          refine gz_aloadn C 0 rfl dX11_meanOf_45 ?_
          refine gz_get C 32 26 (.ref (w.1 43)) kn_X11 rfl kf_X11_41 (by decide) dX11_meanOf_46 (fv_R rfl rfl) ?_
          refine gz_iload C 4 rfl dX11_meanOf_49 ?_
          refine gz_iald C rfl dX11_meanOf_51 (fun a51 => ?_)
          refine gz_ishl C dX11_meanOf_52 ?_
          refine gz_ior C dX11_meanOf_53 ?_
          refine gz_blt (fun y54 => ?_)
          refine gz_istoren C [(1, .int y54), (0, .ref (w.1 32)), (2, .int v2_15), (3, .long v3_15), (5, .int v5_15)] dX11_meanOf_54 (by decide) rfl ?_
          refine gz_iloadn C 2 rfl dX11_meanOf_55 ?_
          refine gz_aloadn C 1 rfl dX11_meanOf_56 ?_
          refine gz_aloadn C 1 rfl dX11_meanOf_57 ?_
          refine gz_get C 32 26 (.ref (w.1 43)) kn_X11 rfl kf_X11_41 (by decide) dX11_meanOf_58 (fv_R rfl rfl) ?_
          refine gz_iload C 4 rfl dX11_meanOf_61 ?_
          refine gz_iald C rfl dX11_meanOf_63 (fun a63 => ?_)
          refine gz_callVI 32 [.int a63] [.int v2_15] C kn_X11 rfl rfl (ct_X11_takes x.2.1 w a63 M33) cal_X11_takes km_X11_222 ⟨rfl, rfl⟩ ⟨by decide, by decide⟩ rfl rfl (Nat.le_of_ble_eq_true rfl) dX11_meanOf_64 (fun r64 M64 => ?_)
          refine gz_iadd C dX11_meanOf_67 ?_
          refine gz_blt (fun y68 => ?_)
          refine gz_istoren C [(2, .int y68), (1, .int y54), (0, .ref (w.1 32)), (3, .long v3_15), (5, .int v5_15)] dX11_meanOf_68 (by decide) rfl ?_
          refine gz_lloadn C 3 rfl dX11_meanOf_69 ?_
          refine gz_aloadn C 2 rfl dX11_meanOf_70 ?_
          refine gz_iloadn C 0 rfl dX11_meanOf_71 ?_
          refine gz_callVJ 32 [.int y68] [.long v3_15] C kn_X11 rfl rfl (ct_X11_holds x.2.1 w y68 M64) cal_X11_holds km_X11_246 ⟨rfl, rfl⟩ ⟨by decide, by decide⟩ rfl rfl (Nat.le_of_ble_eq_true rfl) dX11_meanOf_72 (fun r72 M72 => ?_)
          refine gz_ladd C dX11_meanOf_75 ?_
          refine gz_bltJ (fun y76 => ?_)
          refine gz_lstoren C [(3, .long y76), (2, .int y68), (1, .int y54), (0, .ref (w.1 32)), (5, .int v5_15)] dX11_meanOf_76 (by decide) rfl ?_
          refine gz_iinc (v' := v5_15 + 1) C 4 [(5, .int (v5_15 + 1)), (3, .long y76), (2, .int y68), (1, .int y54), (0, .ref (w.1 32))] rfl dX11_meanOf_77 rfl (by decide) rfl ?_
          refine gz_goto C 15 dX11_meanOf_80 (by decide) ?_
          refine gz_sub [4, 3, 2, 1, 0] rfl ?_
          exact ih15 _ _ _ _ _
      · refine gz_lloadn C 3 rfl dX11_meanOf_83 ?_
        exact gz_lret C dX11_meanOf_84
  refine gz_sub [4, 3, 2, 1, 0] rfl ?_
  exact hL15 fu _ _ _ _ _
set_option maxRecDepth 100000 in
set_option maxHeartbeats 4000000 in
theorem ct_X11_nextOrder (l : Launch) (w : Wd) (M : Mm) : CT l yX11_nextOrder cX11_nextOrder 6 (some .boolean) rm_X11_nextOrder w (qI w) [.ref (w.1 32)] (sp_X11_nextOrder M) M := by
  refine ct_of RX11 [(0, .ref (w.1 32))] rfl (Nat.le_of_ble_eq_true rfl) (by decide) rfl rfl rfl (fun x C => ?_)
  unfold sp_X11_nextOrder
  refine gz_aloadn C 0 rfl dX11_nextOrder_0 ?_
  refine gz_get C 32 28 (.int (gI M 32 28)) kn_X11 rfl kf_X11_241 (by decide) dX11_nextOrder_1 (fv_I rfl) ?_
  refine gz_iconst (v := 2) C dX11_nextOrder_4 (by decide) ?_
  refine gz_isub C dX11_nextOrder_5 ?_
  refine gz_blt (fun y6 => ?_)
  refine gz_istoren C [(1, .int y6), (0, .ref (w.1 32))] dX11_nextOrder_6 (by decide) rfl ?_
  refine gz_jn (fun K34 => ∀ (v1_34 : Int32), G x w 6 (qI w) (K34 v1_34) M [(0, .ref (w.1 32)), (1, .int v1_34)] 34 []) ?_ ?_
  · intro v1_34
    refine gz_iloadn C 1 rfl dX11_nextOrder_34 ?_
    refine gz_ifge C 40 dX11_nextOrder_35 (by decide) ?_ ?_
    · refine gz_iconst (v := 0) C dX11_nextOrder_38 (by decide) ?_
      exact gz_zret C (Or.inl rfl) dX11_nextOrder_39
    · refine gz_aloadn C 0 rfl dX11_nextOrder_40 ?_
      refine gz_get C 32 28 (.int (gI M 32 28)) kn_X11 rfl kf_X11_241 (by decide) dX11_nextOrder_41 (fv_I rfl) ?_
      refine gz_iconst (v := 1) C dX11_nextOrder_44 (by decide) ?_
      refine gz_isub C dX11_nextOrder_45 ?_
      refine gz_blt (fun y46 => ?_)
      refine gz_istoren C [(2, .int y46), (0, .ref (w.1 32)), (1, .int v1_34)] dX11_nextOrder_46 (by decide) rfl ?_
      refine gz_jn (fun K68 => ∀ (v2_68 : Int32), G x w 6 (qI w) (K68 v2_68) M [(0, .ref (w.1 32)), (1, .int v1_34), (2, .int v2_68)] 68 []) ?_ ?_
      · intro v2_68
        refine gz_aloadn C 0 rfl dX11_nextOrder_68 ?_
        refine gz_get C 32 26 (.ref (w.1 43)) kn_X11 rfl kf_X11_41 (by decide) dX11_nextOrder_69 (fv_R rfl rfl) ?_
        refine gz_iloadn C 1 rfl dX11_nextOrder_72 ?_
        refine gz_iald C rfl dX11_nextOrder_73 (fun a73 => ?_)
        refine gz_istoren C [(3, .int a73), (0, .ref (w.1 32)), (1, .int v1_34), (2, .int v2_68)] dX11_nextOrder_74 (by decide) rfl ?_
        refine gz_aloadn C 1 rfl dX11_nextOrder_75 ?_
        refine gz_get C 32 26 (.ref (w.1 43)) kn_X11 rfl kf_X11_41 (by decide) dX11_nextOrder_76 (fv_R rfl rfl) ?_
        refine gz_iloadn C 2 rfl dX11_nextOrder_79 ?_
        refine gz_aloadn C 1 rfl dX11_nextOrder_80 ?_
        refine gz_get C 32 26 (.ref (w.1 43)) kn_X11 rfl kf_X11_41 (by decide) dX11_nextOrder_81 (fv_R rfl rfl) ?_
        refine gz_iloadn C 3 rfl dX11_nextOrder_84 ?_
        refine gz_iald C rfl dX11_nextOrder_85 (fun a85 => ?_)
        refine gz_iast C rfl dX11_nextOrder_86 (fun M86 => ?_)
        refine gz_aloadn C 1 rfl dX11_nextOrder_87 ?_
        refine gz_get C 32 26 (.ref (w.1 43)) kn_X11 rfl kf_X11_41 (by decide) dX11_nextOrder_88 (fv_R rfl rfl) ?_
        refine gz_iloadn C 3 rfl dX11_nextOrder_91 ?_
        refine gz_iloadn C 0 rfl dX11_nextOrder_92 ?_
        refine gz_iast C rfl dX11_nextOrder_93 (fun M93 => ?_)
        refine gz_aloadn C 1 rfl dX11_nextOrder_94 ?_
        refine gz_get C 32 28 (.int (gI M93 32 28)) kn_X11 rfl kf_X11_241 (by decide) dX11_nextOrder_95 (fv_I rfl) ?_
        refine gz_iconst (v := 1) C dX11_nextOrder_98 (by decide) ?_
        refine gz_isub C dX11_nextOrder_99 ?_
        refine gz_blt (fun y100 => ?_)
        refine gz_istore C [(4, .int y100), (3, .int a73), (0, .ref (w.1 32)), (1, .int v1_34), (2, .int v2_68)] dX11_nextOrder_100 (by decide) rfl ?_
        refine gz_iloadn C 3 rfl dX11_nextOrder_102 ?_
        refine gz_iconst (v := 1) C dX11_nextOrder_103 (by decide) ?_
        refine gz_iadd C dX11_nextOrder_104 ?_
        refine gz_blt (fun y105 => ?_)
        refine gz_istore C [(5, .int y105), (4, .int y100), (3, .int a73), (0, .ref (w.1 32)), (1, .int v1_34), (2, .int v2_68)] dX11_nextOrder_105 (by decide) rfl ?_
        have hL107 : ∀ (n107 : Nat) (v4_107 : Int32) (v5_107 : Int32) (M_107 : Mm), G x w 6 (qI w) (sp_X11_nextOrder_L107 n107 v4_107 v5_107 M_107) M_107 [(0, .ref (w.1 32)), (4, .int v4_107), (5, .int v5_107)] 107 [] := by
          intro n107
          induction n107 with
          | zero => intros; exact gz_none
          | succ n107 ih107 =>
            intro v4_107 v5_107 M_107
            rw [sp_X11_nextOrder_L107]
            refine gz_iload C 2 rfl dX11_nextOrder_107 ?_
            refine gz_iload C 1 rfl dX11_nextOrder_109 ?_
            refine gz_icmpge C 153 dX11_nextOrder_111 (by decide) ?_ ?_
            · refine gz_aloadn C 0 rfl dX11_nextOrder_114 ?_
              refine gz_get C 32 26 (.ref (w.1 43)) kn_X11 rfl kf_X11_41 (by decide) dX11_nextOrder_115 (fv_R rfl rfl) ?_
              refine gz_iload C 2 rfl dX11_nextOrder_118 ?_
              refine gz_iald C rfl dX11_nextOrder_120 (fun a120 => ?_)
              refine gz_istoren C [(3, .int a120), (0, .ref (w.1 32)), (4, .int v4_107), (5, .int v5_107)] dX11_nextOrder_121 (by decide) rfl ?_
              refine gz_aloadn C 1 rfl dX11_nextOrder_122 ?_
              refine gz_get C 32 26 (.ref (w.1 43)) kn_X11 rfl kf_X11_41 (by decide) dX11_nextOrder_123 (fv_R rfl rfl) ?_
              refine gz_iload C 3 rfl dX11_nextOrder_126 ?_
              refine gz_aloadn C 1 rfl dX11_nextOrder_128 ?_
              refine gz_get C 32 26 (.ref (w.1 43)) kn_X11 rfl kf_X11_41 (by decide) dX11_nextOrder_129 (fv_R rfl rfl) ?_
              refine gz_iload C 2 rfl dX11_nextOrder_132 ?_
              refine gz_iald C rfl dX11_nextOrder_134 (fun a134 => ?_)
              refine gz_iast C rfl dX11_nextOrder_135 (fun M135 => ?_)
              refine gz_aloadn C 1 rfl dX11_nextOrder_136 ?_
              refine gz_get C 32 26 (.ref (w.1 43)) kn_X11 rfl kf_X11_41 (by decide) dX11_nextOrder_137 (fv_R rfl rfl) ?_
              refine gz_iload C 2 rfl dX11_nextOrder_140 ?_
              refine gz_iloadn C 0 rfl dX11_nextOrder_142 ?_
              refine gz_iast C rfl dX11_nextOrder_143 (fun M143 => ?_)
              refine gz_iinc (v' := v4_107 + (-1)) C 2 [(4, .int (v4_107 + (-1))), (3, .int a120), (0, .ref (w.1 32)), (5, .int v5_107)] rfl dX11_nextOrder_144 rfl (by decide) rfl ?_
              refine gz_iinc (v' := v5_107 + 1) C 3 [(5, .int (v5_107 + 1)), (4, .int (v4_107 + (-1))), (3, .int a120), (0, .ref (w.1 32))] rfl dX11_nextOrder_147 rfl (by decide) rfl ?_
              refine gz_goto C 107 dX11_nextOrder_150 (by decide) ?_
              refine gz_sub [3, 1, 0] rfl ?_
              exact ih107 _ _ _
            · refine gz_iconst (v := 1) C dX11_nextOrder_153 (by decide) ?_
              exact gz_zret C (Or.inr rfl) dX11_nextOrder_154
        refine gz_sub [3, 1, 0] rfl ?_
        exact hL107 fu _ _ _
      · intro K68 hK68
        have hL47 : ∀ (n47 : Nat) (v2_47 : Int32), G x w 6 (qI w) (sp_X11_nextOrder_L47 M v1_34 K68 n47 v2_47) M [(0, .ref (w.1 32)), (1, .int v1_34), (2, .int v2_47)] 47 [] := by
          intro n47
          induction n47 with
          | zero => intros; exact gz_none
          | succ n47 ih47 =>
            intro v2_47
            rw [sp_X11_nextOrder_L47]
            refine gz_aloadn C 0 rfl dX11_nextOrder_47 ?_
            refine gz_get C 32 26 (.ref (w.1 43)) kn_X11 rfl kf_X11_41 (by decide) dX11_nextOrder_48 (fv_R rfl rfl) ?_
            refine gz_iloadn C 2 rfl dX11_nextOrder_51 ?_
            refine gz_iald C rfl dX11_nextOrder_52 (fun a52 => ?_)
            refine gz_aloadn C 0 rfl dX11_nextOrder_53 ?_
            refine gz_get C 32 26 (.ref (w.1 43)) kn_X11 rfl kf_X11_41 (by decide) dX11_nextOrder_54 (fv_R rfl rfl) ?_
            refine gz_iloadn C 1 rfl dX11_nextOrder_57 ?_
            refine gz_iald C rfl dX11_nextOrder_58 (fun a58 => ?_)
            refine gz_icmpge C 68 dX11_nextOrder_59 (by decide) ?_ ?_
            · refine gz_iinc (v' := v2_47 + (-1)) C 2 [(2, .int (v2_47 + (-1))), (0, .ref (w.1 32)), (1, .int v1_34)] rfl dX11_nextOrder_62 rfl (by decide) rfl ?_
              refine gz_goto C 47 dX11_nextOrder_65 (by decide) ?_
              refine gz_sub [1, 2, 0] rfl ?_
              exact ih47 _
            · exact hK68 _
        refine gz_sub [1, 2, 0] rfl ?_
        exact hL47 fu _
  · intro K34 hK34
    have hL7 : ∀ (n7 : Nat) (v1_7 : Int32), G x w 6 (qI w) (sp_X11_nextOrder_L7 K34 M n7 v1_7) M [(0, .ref (w.1 32)), (1, .int v1_7)] 7 [] := by
      intro n7
      induction n7 with
      | zero => intros; exact gz_none
      | succ n7 ih7 =>
        intro v1_7
        rw [sp_X11_nextOrder_L7]
        refine gz_iloadn C 1 rfl dX11_nextOrder_7 ?_
        refine gz_iflt C 34 dX11_nextOrder_8 (by decide) ?_ ?_
        · exact hK34 _
        · refine gz_aloadn C 0 rfl dX11_nextOrder_11 ?_
          refine gz_get C 32 26 (.ref (w.1 43)) kn_X11 rfl kf_X11_41 (by decide) dX11_nextOrder_12 (fv_R rfl rfl) ?_
          refine gz_iloadn C 1 rfl dX11_nextOrder_15 ?_
          refine gz_iald C rfl dX11_nextOrder_16 (fun a16 => ?_)
          refine gz_aloadn C 0 rfl dX11_nextOrder_17 ?_
          refine gz_get C 32 26 (.ref (w.1 43)) kn_X11 rfl kf_X11_41 (by decide) dX11_nextOrder_18 (fv_R rfl rfl) ?_
          refine gz_iloadn C 1 rfl dX11_nextOrder_21 ?_
          refine gz_iconst (v := 1) C dX11_nextOrder_22 (by decide) ?_
          refine gz_iadd C dX11_nextOrder_23 ?_
          refine gz_iald C rfl dX11_nextOrder_24 (fun a24 => ?_)
          refine gz_icmple C 34 dX11_nextOrder_25 (by decide) ?_ ?_
          · refine gz_iinc (v' := v1_7 + (-1)) C 1 [(1, .int (v1_7 + (-1))), (0, .ref (w.1 32))] rfl dX11_nextOrder_28 rfl (by decide) rfl ?_
            refine gz_goto C 7 dX11_nextOrder_31 (by decide) ?_
            refine gz_sub [1, 0] rfl ?_
            exact ih7 _
          · exact hK34 _
    refine gz_sub [1, 0] rfl ?_
    exact hL7 fu _
set_option maxRecDepth 100000 in
set_option maxHeartbeats 4000000 in
theorem ct_X11_order (l : Launch) (w : Wd) (p1 : Int32) (M : Mm) : CT l yX11_order cX11_order 8 (some .long) rm_X11_order w (qJ w) [.ref (w.1 32), .int p1] (sp_X11_order p1 M) M := by
  refine ct_of RX11 [(0, .ref (w.1 32)), (1, .int p1)] rfl (Nat.le_of_ble_eq_true rfl) (by decide) rfl rfl rfl (fun x C => ?_)
  unfold sp_X11_order
  refine gz_iloadn C 1 rfl dX11_order_0 ?_
  refine gz_i2l C dX11_order_1 ?_
  refine gz_lconst (v := 0) C dX11_order_2 (by decide) ?_
  refine gz_lconst (v := 1) C dX11_order_3 (by decide) ?_
  refine gz_callSI [.long (p1.toInt64), .long (0 : Int64), .long (1 : Int64)] [] C (ct_X11_in x.2.1 w (p1.toInt64) (0 : Int64) (1 : Int64) M) cal_X11_in (Or.inl km_X11_77) ⟨rfl, rfl⟩ ⟨by decide, by decide⟩ rfl rfl (Nat.le_of_ble_eq_true rfl) dX11_order_4 (fun r4 M4 => ?_)
  refine gz_jn (fun K28 => ∀ (M_28 : Mm), G x w 8 (qJ w) (K28 M_28) M_28 [(0, .ref (w.1 32)), (1, .int p1)] 28 []) ?_ ?_
  · intro M_28
    refine gz_aloadn C 0 rfl dX11_order_28 ?_
    refine gz_callVI 32 [] [] C kn_X11 rfl rfl (ct_X11_lacks x.2.1 w M_28) cal_X11_lacks km_X11_145 ⟨rfl, rfl⟩ ⟨by decide, by decide⟩ rfl rfl (Nat.le_of_ble_eq_true rfl) dX11_order_29 (fun r29 M29 => ?_)
    refine gz_ifne C 52 dX11_order_32 (by decide) ?_ ?_
    · refine gz_aloadn C 0 rfl dX11_order_35 ?_
      refine gz_get C 32 12 (.int (gI M29 32 12)) kn_X11 rfl kf_X11_121 (by decide) dX11_order_36 (fv_I rfl) ?_
      refine gz_iconst (v := 1) C dX11_order_39 (by decide) ?_
      refine gz_icmpeq C 52 dX11_order_40 (by decide) ?_ ?_
      · refine gz_ldc2 C kl_X11_205 dX11_order_52 ?_
        exact gz_lret C dX11_order_55
      · refine gz_aloadn C 0 rfl dX11_order_43 ?_
        refine gz_get C 32 25 (.int (gI M29 32 25)) kn_X11 rfl kf_X11_251 (by decide) dX11_order_44 (fv_I rfl) ?_
        refine gz_bipush (v := (30)) C dX11_order_47 (by decide) ?_
        refine gz_icmpne C 56 dX11_order_49 (by decide) ?_ ?_
        · refine gz_ldc2 C kl_X11_205 dX11_order_52 ?_
          exact gz_lret C dX11_order_55
        · refine gz_aloadn C 0 rfl dX11_order_56 ?_
          refine gz_dup C dX11_order_57 rfl ?_
          refine gz_get C 32 25 (.int (gI M29 32 25)) kn_X11 rfl kf_X11_251 (by decide) dX11_order_58 (fv_I rfl) ?_
          refine gz_iconst (v := 1) C dX11_order_61 (by decide) ?_
          refine gz_iadd C dX11_order_62 ?_
          refine gz_putI C 32 25 kn_X11 rfl kf_X11_251 (by decide) rfl rfl (tyX11_ok 25 (by decide)) rfl rfl dX11_order_63 (fun M63 => ?_)
          refine gz_aloadn C 0 rfl dX11_order_66 ?_
          refine gz_iconst (v := 1) C dX11_order_67 (by decide) ?_
          refine gz_aloadn C 0 rfl dX11_order_68 ?_
          refine gz_get C 32 22 (.int (gI M63 32 22)) kn_X11 rfl kf_X11_127 (by decide) dX11_order_69 (fv_I rfl) ?_
          refine gz_ishl C dX11_order_72 ?_
          refine gz_iconst (v := 1) C dX11_order_73 (by decide) ?_
          refine gz_isub C dX11_order_74 ?_
          refine gz_aloadn C 0 rfl dX11_order_75 ?_
          refine gz_callVI 32 [] [.int (((1 : Int32) <<< ((gI M63 32 22) &&& 31)) - (1 : Int32)), .ref (w.1 32)] C kn_X11 rfl rfl (ct_X11_overBits x.2.1 w M63) cal_X11_overBits km_X11_216 ⟨rfl, rfl⟩ ⟨by decide, by decide⟩ rfl rfl (Nat.le_of_ble_eq_true rfl) dX11_order_76 (fun r76 M76 => ?_)
          refine gz_iconst (v := (-1)) C dX11_order_79 (by decide) ?_
          refine gz_ixor C dX11_order_80 ?_
          refine gz_iand C dX11_order_81 ?_
          refine gz_callVV 32 [.int ((((1 : Int32) <<< ((gI M63 32 22) &&& 31)) - (1 : Int32)) &&& (r76 ^^^ (-1 : Int32)))] [] C kn_X11 rfl rfl (ct_X11_firstOrder x.2.1 w ((((1 : Int32) <<< ((gI M63 32 22) &&& 31)) - (1 : Int32)) &&& (r76 ^^^ (-1 : Int32))) M76) cal_X11_firstOrder km_X11_254 ⟨rfl, rfl⟩ ⟨by decide, by decide⟩ rfl rfl (Nat.le_of_ble_eq_true rfl) dX11_order_82 (fun _ M82 => ?_)
          refine gz_ldc2 C kl_X11_159 dX11_order_85 ?_
          refine gz_lstoren C [(2, .long (-1 : Int64)), (0, .ref (w.1 32)), (1, .int p1)] dX11_order_88 (by decide) rfl ?_
          refine gz_iconst (v := 1) C dX11_order_89 (by decide) ?_
          refine gz_istore C [(4, .int (1 : Int32)), (2, .long (-1 : Int64)), (0, .ref (w.1 32)), (1, .int p1)] dX11_order_90 (by decide) rfl ?_
          refine gz_jn (fun K154 => ∀ (v2_154 : Int64) (M_154 : Mm), G x w 8 (qJ w) (K154 v2_154 M_154) M_154 [(0, .ref (w.1 32)), (1, .int p1), (2, .long v2_154)] 154 []) ?_ ?_
          · intro v2_154 M_154
            refine gz_lloadn C 2 rfl dX11_order_154 ?_
            refine gz_ldc2 C kl_X11_159 dX11_order_155 ?_
            refine gz_lcmp C dX11_order_158 ?_
            refine gz_cnd (lc_eq v2_154 (-1 : Int64)) ?_
            refine gz_ifne C 175 dX11_order_159 (by decide) ?_ ?_
            · refine gz_iloadn C 1 rfl dX11_order_162 ?_
              refine gz_iconst (v := 1) C dX11_order_163 (by decide) ?_
              refine gz_icmpne C 171 dX11_order_164 (by decide) ?_ ?_
              · refine gz_lconst (v := 1) C dX11_order_167 (by decide) ?_
                refine gz_goto C 174 dX11_order_168 (by decide) ?_
                exact gz_lret C dX11_order_174
              · refine gz_ldc2 C kl_X11_159 dX11_order_171 ?_
                exact gz_lret C dX11_order_174
            · refine gz_iloadn C 1 rfl dX11_order_175 ?_
              refine gz_iconst (v := 2) C dX11_order_176 (by decide) ?_
              refine gz_icmpge C 189 dX11_order_177 (by decide) ?_ ?_
              · refine gz_lloadn C 2 rfl dX11_order_180 ?_
                refine gz_ldc2 C kl_X11_244 dX11_order_181 ?_
                refine gz_iloadn C 1 rfl dX11_order_184 ?_
                refine gz_callSJ [.long v2_154, .long (10000000000 : Int64), .int p1] [] C (ct_X11_term x.2.1 w v2_154 (10000000000 : Int64) p1 M_154) cal_X11_term (Or.inl km_X11_179) ⟨rfl, rfl⟩ ⟨by decide, by decide⟩ rfl rfl (Nat.le_of_ble_eq_true rfl) dX11_order_185 (fun r185 M185 => ?_)
                exact gz_lret C dX11_order_188
              · refine gz_iloadn C 1 rfl dX11_order_189 ?_
                refine gz_bipush (v := (10)) C dX11_order_190 (by decide) ?_
                refine gz_isub C dX11_order_192 ?_
                refine gz_aloadn C 0 rfl dX11_order_193 ?_
                refine gz_get C 32 28 (.int (gI M_154 32 28)) kn_X11 rfl kf_X11_241 (by decide) dX11_order_194 (fv_I rfl) ?_
                refine gz_icmpge C 213 dX11_order_197 (by decide) ?_ ?_
                · refine gz_aloadn C 0 rfl dX11_order_200 ?_
                  refine gz_get C 32 27 (.ref (w.1 44)) kn_X11 rfl kf_X11_44 (by decide) dX11_order_201 (fv_R rfl rfl) ?_
                  refine gz_iloadn C 1 rfl dX11_order_204 ?_
                  refine gz_bipush (v := (10)) C dX11_order_205 (by decide) ?_
                  refine gz_isub C dX11_order_207 ?_
                  refine gz_iald C rfl dX11_order_208 (fun a208 => ?_)
                  refine gz_i2l C dX11_order_209 ?_
                  refine gz_goto C 216 dX11_order_210 (by decide) ?_
                  exact gz_lret C dX11_order_216
                · refine gz_ldc2 C kl_X11_159 dX11_order_213 ?_
                  exact gz_lret C dX11_order_216
          · intro K154 hK154
            have hL92 : ∀ (n92 : Nat) (v2_92 : Int64) (v4_92 : Int32) (M_92 : Mm), G x w 8 (qJ w) (sp_X11_order_L92 K154 n92 v2_92 v4_92 M_92) M_92 [(0, .ref (w.1 32)), (1, .int p1), (2, .long v2_92), (4, .int v4_92)] 92 [] := by
              intro n92
              induction n92 with
              | zero => intros; exact gz_none
              | succ n92 ih92 =>
                intro v2_92 v4_92 M_92
                rw [sp_X11_order_L92]
                refine gz_iload C 3 rfl dX11_order_92 ?_
                refine gz_ifeq C 154 dX11_order_94 (by decide) ?_ ?_
                · refine gz_sub [0, 1, 2] rfl ?_
                  exact hK154 _ _
                · refine gz_aloadn C 0 rfl dX11_order_97 ?_
                  refine gz_callVJ 32 [] [] C kn_X11 rfl rfl (ct_X11_meanOf x.2.1 w M_92) cal_X11_meanOf km_X11_257 ⟨rfl, rfl⟩ ⟨by decide, by decide⟩ rfl rfl (Nat.le_of_ble_eq_true rfl) dX11_order_98 (fun r98 M98 => ?_)
                  refine gz_lstore C [(5, .long r98), (0, .ref (w.1 32)), (1, .int p1), (2, .long v2_92), (4, .int v4_92)] dX11_order_101 (by decide) rfl ?_
                  refine gz_lload C 0 rfl dX11_order_103 ?_
                  refine gz_lloadn C 3 rfl dX11_order_105 ?_
                  refine gz_lcmp C dX11_order_106 ?_
                  refine gz_jn (fun K145 => ∀ (v2_145 : Int64) (M_145 : Mm), G x w 8 (qJ w) (K145 v2_145 M_145) M_145 [(0, .ref (w.1 32)), (1, .int p1), (2, .long v2_145)] 145 []) ?_ ?_
                  · intro v2_145 M_145
                    refine gz_aloadn C 0 rfl dX11_order_145 ?_
                    refine gz_callVI 32 [] [] C kn_X11 rfl rfl (ct_X11_nextOrder x.2.1 w M_145) cal_X11_nextOrder km_X11_261 ⟨rfl, rfl⟩ ⟨by decide, by decide⟩ rfl rfl (Nat.le_of_ble_eq_true rfl) dX11_order_146 (fun r146 M146 => ?_)
                    refine gz_istore C [(4, .int r146), (0, .ref (w.1 32)), (1, .int p1), (2, .long v2_145)] dX11_order_149 (by decide) rfl ?_
                    refine gz_goto C 92 dX11_order_151 (by decide) ?_
                    refine gz_sub [1, 2, 3, 0] rfl ?_
                    exact ih92 _ _ _
                  · intro K145 hK145
                    refine gz_cnd (lc_gt r98 v2_92) ?_
                    refine gz_ifle C 145 dX11_order_107 (by decide) ?_ ?_
                    · refine gz_lload C 0 rfl dX11_order_110 ?_
                      refine gz_lstoren C [(2, .long r98), (5, .long r98), (0, .ref (w.1 32)), (1, .int p1), (4, .int v4_92)] dX11_order_112 (by decide) rfl ?_
                      refine gz_iconst (v := 0) C dX11_order_113 (by decide) ?_
                      refine gz_istore C [(7, .int (0 : Int32)), (2, .long r98), (5, .long r98), (0, .ref (w.1 32)), (1, .int p1), (4, .int v4_92)] dX11_order_114 (by decide) rfl ?_
                      have hL116 : ∀ (n116 : Nat) (v7_116 : Int32) (M_116 : Mm), G x w 8 (qJ w) (sp_X11_order_L116 K145 r98 n116 v7_116 M_116) M_116 [(0, .ref (w.1 32)), (1, .int p1), (2, .long r98), (7, .int v7_116)] 116 [] := by
                        intro n116
                        induction n116 with
                        | zero => intros; exact gz_none
                        | succ n116 ih116 =>
                          intro v7_116 M_116
                          rw [sp_X11_order_L116]
                          refine gz_iload C 3 rfl dX11_order_116 ?_
                          refine gz_aloadn C 0 rfl dX11_order_118 ?_
                          refine gz_get C 32 28 (.int (gI M_116 32 28)) kn_X11 rfl kf_X11_241 (by decide) dX11_order_119 (fv_I rfl) ?_
                          refine gz_icmpge C 145 dX11_order_122 (by decide) ?_ ?_
                          · refine gz_aloadn C 0 rfl dX11_order_125 ?_
                            refine gz_get C 32 27 (.ref (w.1 44)) kn_X11 rfl kf_X11_44 (by decide) dX11_order_126 (fv_R rfl rfl) ?_
                            refine gz_iload C 3 rfl dX11_order_129 ?_
                            refine gz_aloadn C 0 rfl dX11_order_131 ?_
                            refine gz_get C 32 26 (.ref (w.1 43)) kn_X11 rfl kf_X11_41 (by decide) dX11_order_132 (fv_R rfl rfl) ?_
                            refine gz_iload C 3 rfl dX11_order_135 ?_
                            refine gz_iald C rfl dX11_order_137 (fun a137 => ?_)
                            refine gz_iast C rfl dX11_order_138 (fun M138 => ?_)
                            refine gz_iinc (v' := v7_116 + 1) C 3 [(7, .int (v7_116 + 1)), (0, .ref (w.1 32)), (1, .int p1), (2, .long r98)] rfl dX11_order_139 rfl (by decide) rfl ?_
                            refine gz_goto C 116 dX11_order_142 (by decide) ?_
                            refine gz_sub [1, 2, 3, 0] rfl ?_
                            exact ih116 _ _
                          · refine gz_sub [0, 1, 2] rfl ?_
                            exact hK145 _ _
                      refine gz_sub [3, 4, 1, 0] rfl ?_
                      exact hL116 fu _ _
                    · refine gz_sub [1, 2, 3] rfl ?_
                      exact hK145 _ _
            refine gz_sub [2, 3, 1, 0] rfl ?_
            exact hL92 fu _ _ _
    · refine gz_ldc2 C kl_X11_205 dX11_order_52 ?_
      exact gz_lret C dX11_order_55
  · intro K28 hK28
    refine gz_ifne C 28 dX11_order_7 (by decide) ?_ ?_
    · refine gz_iloadn C 1 rfl dX11_order_10 ?_
      refine gz_i2l C dX11_order_11 ?_
      refine gz_ldc2 C kl_X11_141 dX11_order_12 ?_
      refine gz_ldc2 C kl_X11_249 dX11_order_15 ?_
      refine gz_callSI [.long (p1.toInt64), .long (10 : Int64), .long (15 : Int64)] [] C (ct_X11_in x.2.1 w (p1.toInt64) (10 : Int64) (15 : Int64) M4) cal_X11_in (Or.inl km_X11_77) ⟨rfl, rfl⟩ ⟨by decide, by decide⟩ rfl rfl (Nat.le_of_ble_eq_true rfl) dX11_order_18 (fun r18 M18 => ?_)
      refine gz_ifne C 28 dX11_order_21 (by decide) ?_ ?_
      · refine gz_ldc2 C kl_X11_173 dX11_order_24 ?_
        exact gz_lret C dX11_order_27
      · exact hK28 _
    · exact hK28 _
set_option maxRecDepth 100000 in
set_option maxHeartbeats 4000000 in
theorem ct_X11_said (l : Launch) (w : Wd) (p1 : Int32) (p2 : Int32) (M : Mm) : CT l yX11_said cX11_said 3 (some .int) rm_X11_said w (qI w) [.ref (w.1 32), .int p1, .int p2] (sp_X11_said p1 p2 M) M := by
  refine ct_of RX11 [(0, .ref (w.1 32)), (1, .int p1), (2, .int p2)] rfl (Nat.le_of_ble_eq_true rfl) (by decide) rfl rfl rfl (fun x C => ?_)
  unfold sp_X11_said
  refine gz_aloadn C 0 rfl dX11_said_0 ?_
  refine gz_iloadn C 1 rfl dX11_said_1 ?_
  refine gz_callVI 32 [.int p1] [] C kn_X11 rfl rfl (ct_X11_isMan x.2.1 w p1 M) cal_X11_isMan km_X11_228 ⟨rfl, rfl⟩ ⟨by decide, by decide⟩ rfl rfl (Nat.le_of_ble_eq_true rfl) dX11_said_2 (fun r2 M2 => ?_)
  refine gz_ifeq C 21 dX11_said_5 (by decide) ?_ ?_
  · refine gz_bipush (v := (-101)) C dX11_said_21 (by decide) ?_
    exact gz_iret C dX11_said_23
  · refine gz_aloadn C 0 rfl dX11_said_8 ?_
    refine gz_iloadn C 2 rfl dX11_said_9 ?_
    refine gz_callVI 32 [.int p2] [] C kn_X11 rfl rfl (ct_X11_isMan x.2.1 w p2 M2) cal_X11_isMan km_X11_228 ⟨rfl, rfl⟩ ⟨by decide, by decide⟩ rfl rfl (Nat.le_of_ble_eq_true rfl) dX11_said_10 (fun r10 M10 => ?_)
    refine gz_ifeq C 21 dX11_said_13 (by decide) ?_ ?_
    · refine gz_bipush (v := (-101)) C dX11_said_21 (by decide) ?_
      exact gz_iret C dX11_said_23
    · refine gz_iloadn C 1 rfl dX11_said_16 ?_
      refine gz_iloadn C 2 rfl dX11_said_17 ?_
      refine gz_icmpne C 24 dX11_said_18 (by decide) ?_ ?_
      · refine gz_bipush (v := (-101)) C dX11_said_21 (by decide) ?_
        exact gz_iret C dX11_said_23
      · refine gz_aloadn C 0 rfl dX11_said_24 ?_
        refine gz_get C 32 29 (.int (gI M10 32 29)) kn_X11 rfl kf_X11_130 (by decide) dX11_said_25 (fv_I rfl) ?_
        refine gz_bipush (v := (15)) C dX11_said_28 (by decide) ?_
        refine gz_icmpne C 36 dX11_said_30 (by decide) ?_ ?_
        · refine gz_bipush (v := (-104)) C dX11_said_33 (by decide) ?_
          exact gz_iret C dX11_said_35
        · refine gz_aloadn C 0 rfl dX11_said_36 ?_
          refine gz_get C 32 30 (.ref (w.1 45)) kn_X11 rfl kf_X11_47 (by decide) dX11_said_37 (fv_R rfl rfl) ?_
          refine gz_iconst (v := 2) C dX11_said_40 (by decide) ?_
          refine gz_aloadn C 0 rfl dX11_said_41 ?_
          refine gz_get C 32 29 (.int (gI M10 32 29)) kn_X11 rfl kf_X11_130 (by decide) dX11_said_42 (fv_I rfl) ?_
          refine gz_imul C dX11_said_45 ?_
          refine gz_iloadn C 1 rfl dX11_said_46 ?_
          refine gz_iast C rfl dX11_said_47 (fun M47 => ?_)
          refine gz_aloadn C 0 rfl dX11_said_48 ?_
          refine gz_get C 32 30 (.ref (w.1 45)) kn_X11 rfl kf_X11_47 (by decide) dX11_said_49 (fv_R rfl rfl) ?_
          refine gz_iconst (v := 2) C dX11_said_52 (by decide) ?_
          refine gz_aloadn C 0 rfl dX11_said_53 ?_
          refine gz_get C 32 29 (.int (gI M47 32 29)) kn_X11 rfl kf_X11_130 (by decide) dX11_said_54 (fv_I rfl) ?_
          refine gz_imul C dX11_said_57 ?_
          refine gz_iconst (v := 1) C dX11_said_58 (by decide) ?_
          refine gz_iadd C dX11_said_59 ?_
          refine gz_iloadn C 2 rfl dX11_said_60 ?_
          refine gz_iast C rfl dX11_said_61 (fun M61 => ?_)
          refine gz_aloadn C 0 rfl dX11_said_62 ?_
          refine gz_dup C dX11_said_63 rfl ?_
          refine gz_get C 32 29 (.int (gI M61 32 29)) kn_X11 rfl kf_X11_130 (by decide) dX11_said_64 (fv_I rfl) ?_
          refine gz_iconst (v := 1) C dX11_said_67 (by decide) ?_
          refine gz_iadd C dX11_said_68 ?_
          refine gz_putI C 32 29 kn_X11 rfl kf_X11_130 (by decide) rfl rfl (tyX11_ok 29 (by decide)) rfl rfl dX11_said_69 (fun M69 => ?_)
          refine gz_aloadn C 0 rfl dX11_said_72 ?_
          refine gz_get C 32 29 (.int (gI M69 32 29)) kn_X11 rfl kf_X11_130 (by decide) dX11_said_73 (fv_I rfl) ?_
          exact gz_iret C dX11_said_76
set_option maxRecDepth 100000 in
set_option maxHeartbeats 4000000 in
theorem ct_X11_placeOf (l : Launch) (w : Wd) (p1 : Int32) (M : Mm) : CT l yX11_placeOf cX11_placeOf 4 (some .int) rm_X11_placeOf w (qI w) [.ref (w.1 32), .int p1] (sp_X11_placeOf p1 M) M := by
  refine ct_of RX11 [(0, .ref (w.1 32)), (1, .int p1)] rfl (Nat.le_of_ble_eq_true rfl) (by decide) rfl rfl rfl (fun x C => ?_)
  unfold sp_X11_placeOf
  refine gz_iconst (v := (-1)) C dX11_placeOf_0 (by decide) ?_
  refine gz_istoren C [(2, .int (-1 : Int32)), (0, .ref (w.1 32)), (1, .int p1)] dX11_placeOf_1 (by decide) rfl ?_
  refine gz_iconst (v := 0) C dX11_placeOf_2 (by decide) ?_
  refine gz_istoren C [(3, .int (0 : Int32)), (2, .int (-1 : Int32)), (0, .ref (w.1 32)), (1, .int p1)] dX11_placeOf_3 (by decide) rfl ?_
  have hL4 : ∀ (n4 : Nat) (v2_4 : Int32) (v3_4 : Int32), G x w 4 (qI w) (sp_X11_placeOf_L4 M p1 n4 v2_4 v3_4) M [(0, .ref (w.1 32)), (1, .int p1), (2, .int v2_4), (3, .int v3_4)] 4 [] := by
    intro n4
    induction n4 with
    | zero => intros; exact gz_none
    | succ n4 ih4 =>
      intro v2_4 v3_4
      rw [sp_X11_placeOf_L4]
      refine gz_iloadn C 3 rfl dX11_placeOf_4 ?_
      refine gz_aloadn C 0 rfl dX11_placeOf_5 ?_
      refine gz_get C 32 28 (.int (gI M 32 28)) kn_X11 rfl kf_X11_241 (by decide) dX11_placeOf_6 (fv_I rfl) ?_
      refine gz_icmpge C 34 dX11_placeOf_9 (by decide) ?_ ?_
      · refine gz_aloadn C 0 rfl dX11_placeOf_12 ?_
        refine gz_get C 32 26 (.ref (w.1 43)) kn_X11 rfl kf_X11_41 (by decide) dX11_placeOf_13 (fv_R rfl rfl) ?_
        refine gz_iloadn C 3 rfl dX11_placeOf_16 ?_
        refine gz_iald C rfl dX11_placeOf_17 (fun a17 => ?_)
        refine gz_iloadn C 1 rfl dX11_placeOf_18 ?_
        refine gz_icmpne C 26 dX11_placeOf_19 (by decide) ?_ ?_
        · refine gz_iloadn C 3 rfl dX11_placeOf_22 ?_
          refine gz_goto C 27 dX11_placeOf_23 (by decide) ?_
          refine gz_istoren C [(2, .int v3_4), (0, .ref (w.1 32)), (1, .int p1), (3, .int v3_4)] dX11_placeOf_27 (by decide) rfl ?_
          refine gz_iinc (v' := v3_4 + 1) C 3 [(3, .int (v3_4 + 1)), (2, .int v3_4), (0, .ref (w.1 32)), (1, .int p1)] rfl dX11_placeOf_28 rfl (by decide) rfl ?_
          refine gz_goto C 4 dX11_placeOf_31 (by decide) ?_
          refine gz_sub [2, 3, 1, 0] rfl ?_
          exact ih4 _ _
        · refine gz_iloadn C 2 rfl dX11_placeOf_26 ?_
          refine gz_istoren C [(2, .int v2_4), (0, .ref (w.1 32)), (1, .int p1), (3, .int v3_4)] dX11_placeOf_27 (by decide) rfl ?_
          refine gz_iinc (v' := v3_4 + 1) C 3 [(3, .int (v3_4 + 1)), (2, .int v2_4), (0, .ref (w.1 32)), (1, .int p1)] rfl dX11_placeOf_28 rfl (by decide) rfl ?_
          refine gz_goto C 4 dX11_placeOf_31 (by decide) ?_
          refine gz_sub [2, 3, 1, 0] rfl ?_
          exact ih4 _ _
      · refine gz_iloadn C 2 rfl dX11_placeOf_34 ?_
        exact gz_iret C dX11_placeOf_35
  refine gz_sub [2, 3, 1, 0] rfl ?_
  exact hL4 fu _ _
set_option maxRecDepth 100000 in
set_option maxHeartbeats 4000000 in
theorem ct_X11_isSaidSo (l : Launch) (w : Wd) (M : Mm) : CT l yX11_isSaidSo cX11_isSaidSo 6 (some .boolean) rm_X11_isSaidSo w (qI w) [.ref (w.1 32)] (sp_X11_isSaidSo M) M := by
  refine ct_of RX11 [(0, .ref (w.1 32))] rfl (Nat.le_of_ble_eq_true rfl) (by decide) rfl rfl rfl (fun x C => ?_)
  unfold sp_X11_isSaidSo
  refine gz_iconst (v := 1) C dX11_isSaidSo_0 (by decide) ?_
  refine gz_istoren C [(1, .int (1 : Int32)), (0, .ref (w.1 32))] dX11_isSaidSo_1 (by decide) rfl ?_
  refine gz_iconst (v := 0) C dX11_isSaidSo_2 (by decide) ?_
  refine gz_istoren C [(2, .int (0 : Int32)), (1, .int (1 : Int32)), (0, .ref (w.1 32))] dX11_isSaidSo_3 (by decide) rfl ?_
  refine gz_jn (fun K57 => ∀ (v1_57 : Int32) (M_57 : Mm), G x w 6 (qI w) (K57 v1_57 M_57) M_57 [(0, .ref (w.1 32)), (1, .int v1_57)] 57 []) ?_ ?_
  · intro v1_57 M_57
    refine gz_iconst (v := 0) C dX11_isSaidSo_57 (by decide) ?_
    refine gz_istoren C [(2, .int (0 : Int32)), (0, .ref (w.1 32)), (1, .int v1_57)] dX11_isSaidSo_58 (by decide) rfl ?_
    have hL59 : ∀ (n59 : Nat) (v1_59 : Int32) (v2_59 : Int32) (M_59 : Mm), G x w 6 (qI w) (sp_X11_isSaidSo_L59 n59 v1_59 v2_59 M_59) M_59 [(0, .ref (w.1 32)), (1, .int v1_59), (2, .int v2_59)] 59 [] := by
      intro n59
      induction n59 with
      | zero => intros; exact gz_none
      | succ n59 ih59 =>
        intro v1_59 v2_59 M_59
        rw [sp_X11_isSaidSo_L59]
        refine gz_iloadn C 2 rfl dX11_isSaidSo_59 ?_
        refine gz_bipush (v := (36)) C dX11_isSaidSo_60 (by decide) ?_
        refine gz_icmpge C 175 dX11_isSaidSo_62 (by decide) ?_ ?_
        · refine gz_iloadn C 2 rfl dX11_isSaidSo_65 ?_
          refine gz_bipush (v := (6)) C dX11_isSaidSo_66 (by decide) ?_
          refine gz_idivc C (by decide) dX11_isSaidSo_68 ?_
          refine gz_blt (fun y69 => ?_)
          refine gz_istoren C [(3, .int y69), (0, .ref (w.1 32)), (1, .int v1_59), (2, .int v2_59)] dX11_isSaidSo_69 (by decide) rfl ?_
          refine gz_iloadn C 3 rfl dX11_isSaidSo_70 ?_
          refine gz_bipush (v := (6)) C dX11_isSaidSo_71 (by decide) ?_
          refine gz_iremc C (by decide) dX11_isSaidSo_73 ?_
          refine gz_blt (fun y74 => ?_)
          refine gz_istore C [(4, .int y74), (3, .int y69), (0, .ref (w.1 32)), (1, .int v1_59), (2, .int v2_59)] dX11_isSaidSo_74 (by decide) rfl ?_
          refine gz_iloadn C 1 rfl dX11_isSaidSo_76 ?_
          refine gz_aloadn C 2 rfl dX11_isSaidSo_77 ?_
          refine gz_get C 32 22 (.int (gI M_59 32 22)) kn_X11 rfl kf_X11_127 (by decide) dX11_isSaidSo_78 (fv_I rfl) ?_
          refine gz_jn (fun K138 => ∀ (t0_138 : Int32), G x w 6 (qI w) (K138 t0_138) M_59 [(0, .ref (w.1 32)), (1, .int v1_59), (2, .int v2_59), (3, .int y69), (4, .int y74)] 138 [.int t0_138]) ?_ ?_
          · intro t0_138
            refine gz_istore C [(5, .int t0_138), (0, .ref (w.1 32)), (1, .int v1_59), (2, .int v2_59), (3, .int y69), (4, .int y74)] dX11_isSaidSo_138 (by decide) rfl ?_
            refine gz_iloadn C 2 rfl dX11_isSaidSo_140 ?_
            refine gz_ifeq C 167 dX11_isSaidSo_141 (by decide) ?_ ?_
            · refine gz_iconst (v := 0) C dX11_isSaidSo_167 (by decide) ?_
              refine gz_istoren C [(1, .int (0 : Int32)), (5, .int t0_138), (0, .ref (w.1 32)), (2, .int v2_59), (3, .int y69), (4, .int y74)] dX11_isSaidSo_168 (by decide) rfl ?_
              refine gz_iinc (v' := v2_59 + 1) C 3 [(2, .int (v2_59 + 1)), (1, .int (0 : Int32)), (5, .int t0_138), (0, .ref (w.1 32)), (3, .int y69), (4, .int y74)] rfl dX11_isSaidSo_169 rfl (by decide) rfl ?_
              refine gz_goto C 59 dX11_isSaidSo_172 (by decide) ?_
              refine gz_sub [3, 1, 0] rfl ?_
              exact ih59 _ _ _
            · refine gz_iload C 0 rfl dX11_isSaidSo_144 ?_
              refine gz_jn (fun K163 => ∀ (M_163 : Mm), G x w 6 (qI w) (K163 M_163) M_163 [(0, .ref (w.1 32)), (2, .int v2_59)] 163 []) ?_ ?_
              · intro M_163
                refine gz_iconst (v := 1) C dX11_isSaidSo_163 (by decide) ?_
                refine gz_goto C 168 dX11_isSaidSo_164 (by decide) ?_
                refine gz_istoren C [(1, .int (1 : Int32)), (0, .ref (w.1 32)), (2, .int v2_59)] dX11_isSaidSo_168 (by decide) rfl ?_
                refine gz_iinc (v' := v2_59 + 1) C 2 [(2, .int (v2_59 + 1)), (1, .int (1 : Int32)), (0, .ref (w.1 32))] rfl dX11_isSaidSo_169 rfl (by decide) rfl ?_
                refine gz_goto C 59 dX11_isSaidSo_172 (by decide) ?_
                refine gz_sub [2, 1, 0] rfl ?_
                exact ih59 _ _ _
              · intro K163 hK163
                refine gz_ifeq C 163 dX11_isSaidSo_146 (by decide) ?_ ?_
                · refine gz_sub [1, 3] rfl ?_
                  exact hK163 _
                · refine gz_aloadn C 1 rfl dX11_isSaidSo_149 ?_
                  refine gz_iload C 5 rfl dX11_isSaidSo_150 ?_
                  refine gz_callVI 32 [.int y74] [] C kn_X11 rfl rfl (ct_X11_placeOf x.2.1 w y74 M_59) cal_X11_placeOf km_X11_264 ⟨rfl, rfl⟩ ⟨by decide, by decide⟩ rfl rfl (Nat.le_of_ble_eq_true rfl) dX11_isSaidSo_152 (fun r152 M152 => ?_)
                  refine gz_aloadn C 1 rfl dX11_isSaidSo_155 ?_
                  refine gz_iloadn C 4 rfl dX11_isSaidSo_156 ?_
                  refine gz_callVI 32 [.int y69] [.int r152] C kn_X11 rfl rfl (ct_X11_placeOf x.2.1 w y69 M152) cal_X11_placeOf km_X11_264 ⟨rfl, rfl⟩ ⟨by decide, by decide⟩ rfl rfl (Nat.le_of_ble_eq_true rfl) dX11_isSaidSo_157 (fun r157 M157 => ?_)
                  refine gz_icmpge C 167 dX11_isSaidSo_160 (by decide) ?_ ?_
                  · refine gz_sub [1, 3] rfl ?_
                    exact hK163 _
                  · refine gz_iconst (v := 0) C dX11_isSaidSo_167 (by decide) ?_
                    refine gz_istoren C [(1, .int (0 : Int32)), (5, .int t0_138), (0, .ref (w.1 32)), (2, .int v2_59), (3, .int y69), (4, .int y74)] dX11_isSaidSo_168 (by decide) rfl ?_
                    refine gz_iinc (v' := v2_59 + 1) C 3 [(2, .int (v2_59 + 1)), (1, .int (0 : Int32)), (5, .int t0_138), (0, .ref (w.1 32)), (3, .int y69), (4, .int y74)] rfl dX11_isSaidSo_169 rfl (by decide) rfl ?_
                    refine gz_goto C 59 dX11_isSaidSo_172 (by decide) ?_
                    refine gz_sub [3, 1, 0] rfl ?_
                    exact ih59 _ _ _
          · intro K138 hK138
            refine gz_icmpge C 137 dX11_isSaidSo_81 (by decide) ?_ ?_
            · refine gz_iload C 0 rfl dX11_isSaidSo_84 ?_
              refine gz_aloadn C 2 rfl dX11_isSaidSo_86 ?_
              refine gz_get C 32 22 (.int (gI M_59 32 22)) kn_X11 rfl kf_X11_127 (by decide) dX11_isSaidSo_87 (fv_I rfl) ?_
              refine gz_icmpge C 137 dX11_isSaidSo_90 (by decide) ?_ ?_
              · refine gz_aloadn C 2 rfl dX11_isSaidSo_93 ?_
                refine gz_get C 32 24 (.ref (w.1 42)) kn_X11 rfl kf_X11_38 (by decide) dX11_isSaidSo_94 (fv_R rfl rfl) ?_
                refine gz_iloadn C 1 rfl dX11_isSaidSo_97 ?_
                refine gz_iald C rfl dX11_isSaidSo_98 (fun a98 => ?_)
                refine gz_iload C 0 rfl dX11_isSaidSo_99 ?_
                refine gz_ishr C dX11_isSaidSo_101 ?_
                refine gz_iconst (v := 1) C dX11_isSaidSo_102 (by decide) ?_
                refine gz_iand C dX11_isSaidSo_103 ?_
                refine gz_iconst (v := 1) C dX11_isSaidSo_104 (by decide) ?_
                refine gz_icmpeq C 133 dX11_isSaidSo_105 (by decide) ?_ ?_
                · refine gz_iconst (v := 1) C dX11_isSaidSo_133 (by decide) ?_
                  refine gz_goto C 138 dX11_isSaidSo_134 (by decide) ?_
                  refine gz_sub [2, 3, 4, 1, 0] rfl ?_
                  exact hK138 _
                · refine gz_aloadn C 2 rfl dX11_isSaidSo_108 ?_
                  refine gz_get C 32 23 (.ref (w.1 41)) kn_X11 rfl kf_X11_35 (by decide) dX11_isSaidSo_109 (fv_R rfl rfl) ?_
                  refine gz_iconst (v := 3) C dX11_isSaidSo_112 (by decide) ?_
                  refine gz_iloadn C 1 rfl dX11_isSaidSo_113 ?_
                  refine gz_imul C dX11_isSaidSo_114 ?_
                  refine gz_iald C rfl dX11_isSaidSo_115 (fun a115 => ?_)
                  refine gz_iconst (v := 4) C dX11_isSaidSo_116 (by decide) ?_
                  refine gz_icmpne C 137 dX11_isSaidSo_117 (by decide) ?_ ?_
                  · refine gz_aloadn C 2 rfl dX11_isSaidSo_120 ?_
                    refine gz_get C 32 23 (.ref (w.1 41)) kn_X11 rfl kf_X11_35 (by decide) dX11_isSaidSo_121 (fv_R rfl rfl) ?_
                    refine gz_iconst (v := 3) C dX11_isSaidSo_124 (by decide) ?_
                    refine gz_iload C 0 rfl dX11_isSaidSo_125 ?_
                    refine gz_imul C dX11_isSaidSo_127 ?_
                    refine gz_iald C rfl dX11_isSaidSo_128 (fun a128 => ?_)
                    refine gz_iconst (v := 4) C dX11_isSaidSo_129 (by decide) ?_
                    refine gz_icmpeq C 137 dX11_isSaidSo_130 (by decide) ?_ ?_
                    · refine gz_iconst (v := 0) C dX11_isSaidSo_137 (by decide) ?_
                      refine gz_sub [2, 3, 4, 1, 0] rfl ?_
                      exact hK138 _
                    · refine gz_iconst (v := 1) C dX11_isSaidSo_133 (by decide) ?_
                      refine gz_goto C 138 dX11_isSaidSo_134 (by decide) ?_
                      refine gz_sub [2, 3, 4, 1, 0] rfl ?_
                      exact hK138 _
                  · refine gz_iconst (v := 0) C dX11_isSaidSo_137 (by decide) ?_
                    refine gz_sub [2, 3, 4, 1, 0] rfl ?_
                    exact hK138 _
              · refine gz_iconst (v := 0) C dX11_isSaidSo_137 (by decide) ?_
                refine gz_sub [2, 3, 4, 1, 0] rfl ?_
                exact hK138 _
            · refine gz_iconst (v := 0) C dX11_isSaidSo_137 (by decide) ?_
              refine gz_sub [2, 3, 4, 1, 0] rfl ?_
              exact hK138 _
        · refine gz_iloadn C 1 rfl dX11_isSaidSo_175 ?_
          refine gz_zb (fun hb176 => ?_)
          exact gz_zret C hb176 dX11_isSaidSo_176
    refine gz_sub [1, 2, 0] rfl ?_
    exact hL59 fu _ _ _
  · intro K57 hK57
    have hL4 : ∀ (n4 : Nat) (v1_4 : Int32) (v2_4 : Int32) (M_4 : Mm), G x w 6 (qI w) (sp_X11_isSaidSo_L4 K57 n4 v1_4 v2_4 M_4) M_4 [(0, .ref (w.1 32)), (1, .int v1_4), (2, .int v2_4)] 4 [] := by
      intro n4
      induction n4 with
      | zero => intros; exact gz_none
      | succ n4 ih4 =>
        intro v1_4 v2_4 M_4
        rw [sp_X11_isSaidSo_L4]
        refine gz_iloadn C 2 rfl dX11_isSaidSo_4 ?_
        refine gz_aloadn C 0 rfl dX11_isSaidSo_5 ?_
        refine gz_get C 32 29 (.int (gI M_4 32 29)) kn_X11 rfl kf_X11_130 (by decide) dX11_isSaidSo_6 (fv_I rfl) ?_
        refine gz_icmpge C 57 dX11_isSaidSo_9 (by decide) ?_ ?_
        · refine gz_iloadn C 1 rfl dX11_isSaidSo_12 ?_
          refine gz_ifeq C 49 dX11_isSaidSo_13 (by decide) ?_ ?_
          · refine gz_iconst (v := 0) C dX11_isSaidSo_49 (by decide) ?_
            refine gz_istoren C [(1, .int (0 : Int32)), (0, .ref (w.1 32)), (2, .int v2_4)] dX11_isSaidSo_50 (by decide) rfl ?_
            refine gz_iinc (v' := v2_4 + 1) C 2 [(2, .int (v2_4 + 1)), (1, .int (0 : Int32)), (0, .ref (w.1 32))] rfl dX11_isSaidSo_51 rfl (by decide) rfl ?_
            refine gz_goto C 4 dX11_isSaidSo_54 (by decide) ?_
            refine gz_sub [2, 1, 0] rfl ?_
            exact ih4 _ _ _
          · refine gz_aloadn C 0 rfl dX11_isSaidSo_16 ?_
            refine gz_aloadn C 0 rfl dX11_isSaidSo_17 ?_
            refine gz_get C 32 30 (.ref (w.1 45)) kn_X11 rfl kf_X11_47 (by decide) dX11_isSaidSo_18 (fv_R rfl rfl) ?_
            refine gz_iconst (v := 2) C dX11_isSaidSo_21 (by decide) ?_
            refine gz_iloadn C 2 rfl dX11_isSaidSo_22 ?_
            refine gz_imul C dX11_isSaidSo_23 ?_
            refine gz_iald C rfl dX11_isSaidSo_24 (fun a24 => ?_)
            refine gz_callVI 32 [.int a24] [] C kn_X11 rfl rfl (ct_X11_placeOf x.2.1 w a24 M_4) cal_X11_placeOf km_X11_264 ⟨rfl, rfl⟩ ⟨by decide, by decide⟩ rfl rfl (Nat.le_of_ble_eq_true rfl) dX11_isSaidSo_25 (fun r25 M25 => ?_)
            refine gz_aloadn C 0 rfl dX11_isSaidSo_28 ?_
            refine gz_aloadn C 0 rfl dX11_isSaidSo_29 ?_
            refine gz_get C 32 30 (.ref (w.1 45)) kn_X11 rfl kf_X11_47 (by decide) dX11_isSaidSo_30 (fv_R rfl rfl) ?_
            refine gz_iconst (v := 2) C dX11_isSaidSo_33 (by decide) ?_
            refine gz_iloadn C 2 rfl dX11_isSaidSo_34 ?_
            refine gz_imul C dX11_isSaidSo_35 ?_
            refine gz_iconst (v := 1) C dX11_isSaidSo_36 (by decide) ?_
            refine gz_iadd C dX11_isSaidSo_37 ?_
            refine gz_iald C rfl dX11_isSaidSo_38 (fun a38 => ?_)
            refine gz_callVI 32 [.int a38] [.int r25] C kn_X11 rfl rfl (ct_X11_placeOf x.2.1 w a38 M25) cal_X11_placeOf km_X11_264 ⟨rfl, rfl⟩ ⟨by decide, by decide⟩ rfl rfl (Nat.le_of_ble_eq_true rfl) dX11_isSaidSo_39 (fun r39 M39 => ?_)
            refine gz_icmpge C 49 dX11_isSaidSo_42 (by decide) ?_ ?_
            · refine gz_iconst (v := 1) C dX11_isSaidSo_45 (by decide) ?_
              refine gz_goto C 50 dX11_isSaidSo_46 (by decide) ?_
              refine gz_istoren C [(1, .int (1 : Int32)), (0, .ref (w.1 32)), (2, .int v2_4)] dX11_isSaidSo_50 (by decide) rfl ?_
              refine gz_iinc (v' := v2_4 + 1) C 2 [(2, .int (v2_4 + 1)), (1, .int (1 : Int32)), (0, .ref (w.1 32))] rfl dX11_isSaidSo_51 rfl (by decide) rfl ?_
              refine gz_goto C 4 dX11_isSaidSo_54 (by decide) ?_
              refine gz_sub [2, 1, 0] rfl ?_
              exact ih4 _ _ _
            · refine gz_iconst (v := 0) C dX11_isSaidSo_49 (by decide) ?_
              refine gz_istoren C [(1, .int (0 : Int32)), (0, .ref (w.1 32)), (2, .int v2_4)] dX11_isSaidSo_50 (by decide) rfl ?_
              refine gz_iinc (v' := v2_4 + 1) C 2 [(2, .int (v2_4 + 1)), (1, .int (0 : Int32)), (0, .ref (w.1 32))] rfl dX11_isSaidSo_51 rfl (by decide) rfl ?_
              refine gz_goto C 4 dX11_isSaidSo_54 (by decide) ?_
              refine gz_sub [2, 1, 0] rfl ?_
              exact ih4 _ _ _
        · refine gz_sub [0, 1] rfl ?_
          exact hK57 _ _
    refine gz_sub [2, 1, 0] rfl ?_
    exact hL4 fu _ _ _
set_option maxRecDepth 100000 in
set_option maxHeartbeats 4000000 in
theorem ct_X11_layOrders (l : Launch) (w : Wd) (M : Mm) : CT l yX11_layOrders cX11_layOrders 4 (some .int) rm_X11_layOrders w (qI w) [.ref (w.1 32)] (sp_X11_layOrders M) M := by
  refine ct_of RX11 [(0, .ref (w.1 32))] rfl (Nat.le_of_ble_eq_true rfl) (by decide) rfl rfl rfl (fun x C => ?_)
  unfold sp_X11_layOrders
  refine gz_iconst (v := 0) C dX11_layOrders_0 (by decide) ?_
  refine gz_istoren C [(1, .int (0 : Int32)), (0, .ref (w.1 32))] dX11_layOrders_1 (by decide) rfl ?_
  refine gz_jn (fun K21 => ∀ (M_21 : Mm), G x w 4 (qI w) (K21 M_21) M_21 [(0, .ref (w.1 32))] 21 []) ?_ ?_
  · intro M_21
    refine gz_aloadn C 0 rfl dX11_layOrders_21 ?_
    refine gz_iconst (v := 1) C dX11_layOrders_22 (by decide) ?_
    refine gz_aloadn C 0 rfl dX11_layOrders_23 ?_
    refine gz_get C 32 22 (.int (gI M_21 32 22)) kn_X11 rfl kf_X11_127 (by decide) dX11_layOrders_24 (fv_I rfl) ?_
    refine gz_ishl C dX11_layOrders_27 ?_
    refine gz_iconst (v := 1) C dX11_layOrders_28 (by decide) ?_
    refine gz_isub C dX11_layOrders_29 ?_
    refine gz_callVV 32 [.int (((1 : Int32) <<< ((gI M_21 32 22) &&& 31)) - (1 : Int32))] [] C kn_X11 rfl rfl (ct_X11_firstOrder x.2.1 w (((1 : Int32) <<< ((gI M_21 32 22) &&& 31)) - (1 : Int32)) M_21) cal_X11_firstOrder km_X11_254 ⟨rfl, rfl⟩ ⟨by decide, by decide⟩ rfl rfl (Nat.le_of_ble_eq_true rfl) dX11_layOrders_30 (fun _ M30 => ?_)
    refine gz_iconst (v := 0) C dX11_layOrders_33 (by decide) ?_
    refine gz_istoren C [(1, .int (0 : Int32)), (0, .ref (w.1 32))] dX11_layOrders_34 (by decide) rfl ?_
    refine gz_iconst (v := 1) C dX11_layOrders_35 (by decide) ?_
    refine gz_istoren C [(2, .int (1 : Int32)), (1, .int (0 : Int32)), (0, .ref (w.1 32))] dX11_layOrders_36 (by decide) rfl ?_
    have hL37 : ∀ (n37 : Nat) (v1_37 : Int32) (v2_37 : Int32) (M_37 : Mm), G x w 4 (qI w) (sp_X11_layOrders_L37 n37 v1_37 v2_37 M_37) M_37 [(0, .ref (w.1 32)), (1, .int v1_37), (2, .int v2_37)] 37 [] := by
      intro n37
      induction n37 with
      | zero => intros; exact gz_none
      | succ n37 ih37 =>
        intro v1_37 v2_37 M_37
        rw [sp_X11_layOrders_L37]
        refine gz_iloadn C 2 rfl dX11_layOrders_37 ?_
        refine gz_ifeq C 92 dX11_layOrders_38 (by decide) ?_ ?_
        · refine gz_iloadn C 1 rfl dX11_layOrders_92 ?_
          exact gz_iret C dX11_layOrders_93
        · refine gz_aloadn C 0 rfl dX11_layOrders_41 ?_
          refine gz_callVI 32 [] [] C kn_X11 rfl rfl (ct_X11_isSaidSo x.2.1 w M_37) cal_X11_isSaidSo km_X11_267 ⟨rfl, rfl⟩ ⟨by decide, by decide⟩ rfl rfl (Nat.le_of_ble_eq_true rfl) dX11_layOrders_42 (fun r42 M42 => ?_)
          refine gz_jn (fun K84 => ∀ (v1_84 : Int32) (M_84 : Mm), G x w 4 (qI w) (K84 v1_84 M_84) M_84 [(0, .ref (w.1 32)), (1, .int v1_84)] 84 []) ?_ ?_
          · intro v1_84 M_84
            refine gz_aloadn C 0 rfl dX11_layOrders_84 ?_
            refine gz_callVI 32 [] [] C kn_X11 rfl rfl (ct_X11_nextOrder x.2.1 w M_84) cal_X11_nextOrder km_X11_261 ⟨rfl, rfl⟩ ⟨by decide, by decide⟩ rfl rfl (Nat.le_of_ble_eq_true rfl) dX11_layOrders_85 (fun r85 M85 => ?_)
            refine gz_istoren C [(2, .int r85), (0, .ref (w.1 32)), (1, .int v1_84)] dX11_layOrders_88 (by decide) rfl ?_
            refine gz_goto C 37 dX11_layOrders_89 (by decide) ?_
            refine gz_sub [1, 2, 0] rfl ?_
            exact ih37 _ _ _
          · intro K84 hK84
            refine gz_ifeq C 84 dX11_layOrders_45 (by decide) ?_ ?_
            · refine gz_sub [0, 1] rfl ?_
              exact hK84 _ _
            · refine gz_iinc (v' := v1_37 + 1) C 1 [(1, .int (v1_37 + 1)), (0, .ref (w.1 32)), (2, .int v2_37)] rfl dX11_layOrders_48 rfl (by decide) rfl ?_
              refine gz_iconst (v := 0) C dX11_layOrders_51 (by decide) ?_
              refine gz_istoren C [(3, .int (0 : Int32)), (1, .int (v1_37 + 1)), (0, .ref (w.1 32)), (2, .int v2_37)] dX11_layOrders_52 (by decide) rfl ?_
              have hL53 : ∀ (n53 : Nat) (v3_53 : Int32) (M_53 : Mm), G x w 4 (qI w) (sp_X11_layOrders_L53 K84 v1_37 n53 v3_53 M_53) M_53 [(0, .ref (w.1 32)), (1, .int (v1_37 + 1)), (3, .int v3_53)] 53 [] := by
                intro n53
                induction n53 with
                | zero => intros; exact gz_none
                | succ n53 ih53 =>
                  intro v3_53 M_53
                  rw [sp_X11_layOrders_L53]
                  refine gz_iloadn C 2 rfl dX11_layOrders_53 ?_
                  refine gz_aloadn C 0 rfl dX11_layOrders_54 ?_
                  refine gz_get C 32 28 (.int (gI M_53 32 28)) kn_X11 rfl kf_X11_241 (by decide) dX11_layOrders_55 (fv_I rfl) ?_
                  refine gz_icmpge C 84 dX11_layOrders_58 (by decide) ?_ ?_
                  · refine gz_aloadn C 0 rfl dX11_layOrders_61 ?_
                    refine gz_get C 32 31 (.ref (w.1 46)) kn_X11 rfl kf_X11_50 (by decide) dX11_layOrders_62 (fv_R rfl rfl) ?_
                    refine gz_aloadn C 0 rfl dX11_layOrders_65 ?_
                    refine gz_get C 32 26 (.ref (w.1 43)) kn_X11 rfl kf_X11_41 (by decide) dX11_layOrders_66 (fv_R rfl rfl) ?_
                    refine gz_iloadn C 2 rfl dX11_layOrders_69 ?_
                    refine gz_iald C rfl dX11_layOrders_70 (fun a70 => ?_)
                    refine gz_dup2 C dX11_layOrders_71 rfl rfl ?_
                    refine gz_iald C rfl dX11_layOrders_72 (fun a72 => ?_)
                    refine gz_iconst (v := 1) C dX11_layOrders_73 (by decide) ?_
                    refine gz_iloadn C 2 rfl dX11_layOrders_74 ?_
                    refine gz_ishl C dX11_layOrders_75 ?_
                    refine gz_ior C dX11_layOrders_76 ?_
                    refine gz_iast C rfl dX11_layOrders_77 (fun M77 => ?_)
                    refine gz_iinc (v' := v3_53 + 1) C 2 [(3, .int (v3_53 + 1)), (0, .ref (w.1 32)), (1, .int (v1_37 + 1))] rfl dX11_layOrders_78 rfl (by decide) rfl ?_
                    refine gz_goto C 53 dX11_layOrders_81 (by decide) ?_
                    refine gz_sub [1, 2, 0] rfl ?_
                    exact ih53 _ _
                  · refine gz_sub [0, 1] rfl ?_
                    exact hK84 _ _
              refine gz_sub [2, 1, 0] rfl ?_
              exact hL53 fu _ _
    refine gz_sub [2, 1, 0] rfl ?_
    exact hL37 fu _ _ _
  · intro K21 hK21
    have hL2 : ∀ (n2 : Nat) (v1_2 : Int32) (M_2 : Mm), G x w 4 (qI w) (sp_X11_layOrders_L2 K21 n2 v1_2 M_2) M_2 [(0, .ref (w.1 32)), (1, .int v1_2)] 2 [] := by
      intro n2
      induction n2 with
      | zero => intros; exact gz_none
      | succ n2 ih2 =>
        intro v1_2 M_2
        rw [sp_X11_layOrders_L2]
        refine gz_iloadn C 1 rfl dX11_layOrders_2 ?_
        refine gz_bipush (v := (6)) C dX11_layOrders_3 (by decide) ?_
        refine gz_icmpge C 21 dX11_layOrders_5 (by decide) ?_ ?_
        · refine gz_aloadn C 0 rfl dX11_layOrders_8 ?_
          refine gz_get C 32 31 (.ref (w.1 46)) kn_X11 rfl kf_X11_50 (by decide) dX11_layOrders_9 (fv_R rfl rfl) ?_
          refine gz_iloadn C 1 rfl dX11_layOrders_12 ?_
          refine gz_iconst (v := 0) C dX11_layOrders_13 (by decide) ?_
          refine gz_iast C rfl dX11_layOrders_14 (fun M14 => ?_)
          refine gz_iinc (v' := v1_2 + 1) C 1 [(1, .int (v1_2 + 1)), (0, .ref (w.1 32))] rfl dX11_layOrders_15 rfl (by decide) rfl ?_
          refine gz_goto C 2 dX11_layOrders_18 (by decide) ?_
          refine gz_sub [1, 0] rfl ?_
          exact ih2 _ _
        · refine gz_sub [0] rfl ?_
          exact hK21 _
    refine gz_sub [1, 0] rfl ?_
    exact hL2 fu _ _
