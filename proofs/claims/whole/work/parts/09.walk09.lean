set_option maxRecDepth 100000 in
set_option maxHeartbeats 4000000 in
theorem ct_X11_orders (l : Launch) (w : Wd) (M : Mm) : CT l yX11_orders cX11_orders 1 (some .int) rm_X11_orders w (qI w) [.ref (w.1 32)] (sp_X11_orders M) M := by
  refine ct_of RX11 [(0, .ref (w.1 32))] rfl (Nat.le_of_ble_eq_true rfl) (by decide) rfl rfl rfl (fun x C => ?_)
  unfold sp_X11_orders
  refine gz_aloadn C 0 rfl dX11_orders_0 ?_
  refine gz_callVI 32 [] [] C kn_X11 rfl rfl (ct_X11_layOrders x.2.1 w M) cal_X11_layOrders km_X11_270 ⟨rfl, rfl⟩ ⟨by decide, by decide⟩ rfl rfl (Nat.le_of_ble_eq_true rfl) dX11_orders_1 (fun r1 M1 => ?_)
  exact gz_iret C dX11_orders_4
set_option maxRecDepth 100000 in
set_option maxHeartbeats 4000000 in
theorem ct_X11_sure (l : Launch) (w : Wd) (p1 : Int32) (M : Mm) : CT l yX11_sure cX11_sure 4 (some .int) rm_X11_sure w (qI w) [.ref (w.1 32), .int p1] (sp_X11_sure p1 M) M := by
  refine ct_of RX11 [(0, .ref (w.1 32)), (1, .int p1)] rfl (Nat.le_of_ble_eq_true rfl) (by decide) rfl rfl rfl (fun x C => ?_)
  unfold sp_X11_sure
  refine gz_aloadn C 0 rfl dX11_sure_0 ?_
  refine gz_iloadn C 1 rfl dX11_sure_1 ?_
  refine gz_callVI 32 [.int p1] [] C kn_X11 rfl rfl (ct_X11_isMan x.2.1 w p1 M) cal_X11_isMan km_X11_228 ⟨rfl, rfl⟩ ⟨by decide, by decide⟩ rfl rfl (Nat.le_of_ble_eq_true rfl) dX11_sure_2 (fun r2 M2 => ?_)
  refine gz_ifne C 11 dX11_sure_5 (by decide) ?_ ?_
  · refine gz_bipush (v := (-101)) C dX11_sure_8 (by decide) ?_
    exact gz_iret C dX11_sure_10
  · refine gz_aloadn C 0 rfl dX11_sure_11 ?_
    refine gz_callVI 32 [] [] C kn_X11 rfl rfl (ct_X11_layOrders x.2.1 w M2) cal_X11_layOrders km_X11_270 ⟨rfl, rfl⟩ ⟨by decide, by decide⟩ rfl rfl (Nat.le_of_ble_eq_true rfl) dX11_sure_12 (fun r12 M12 => ?_)
    refine gz_istoren C [(2, .int r12), (0, .ref (w.1 32)), (1, .int p1)] dX11_sure_15 (by decide) rfl ?_
    refine gz_iconst (v := 0) C dX11_sure_16 (by decide) ?_
    refine gz_istoren C [(3, .int (0 : Int32)), (2, .int r12), (0, .ref (w.1 32)), (1, .int p1)] dX11_sure_17 (by decide) rfl ?_
    have hL18 : ∀ (n18 : Nat) (v3_18 : Int32), G x w 4 (qI w) (sp_X11_sure_L18 M12 p1 n18 v3_18) M12 [(0, .ref (w.1 32)), (1, .int p1), (3, .int v3_18)] 18 [] := by
      intro n18
      induction n18 with
      | zero => intros; exact gz_none
      | succ n18 ih18 =>
        intro v3_18
        rw [sp_X11_sure_L18]
        refine gz_iloadn C 2 rfl dX11_sure_18 ?_
        refine gz_bipush (v := (6)) C dX11_sure_19 (by decide) ?_
        refine gz_icmpge C 44 dX11_sure_21 (by decide) ?_ ?_
        · refine gz_aloadn C 0 rfl dX11_sure_24 ?_
          refine gz_get C 32 31 (.ref (w.1 46)) kn_X11 rfl kf_X11_50 (by decide) dX11_sure_25 (fv_R rfl rfl) ?_
          refine gz_iloadn C 1 rfl dX11_sure_28 ?_
          refine gz_iald C rfl dX11_sure_29 (fun a29 => ?_)
          refine gz_iconst (v := 1) C dX11_sure_30 (by decide) ?_
          refine gz_iloadn C 2 rfl dX11_sure_31 ?_
          refine gz_ishl C dX11_sure_32 ?_
          refine gz_icmpne C 38 dX11_sure_33 (by decide) ?_ ?_
          · refine gz_iloadn C 2 rfl dX11_sure_36 ?_
            exact gz_iret C dX11_sure_37
          · refine gz_iinc (v' := v3_18 + 1) C 2 [(3, .int (v3_18 + 1)), (0, .ref (w.1 32)), (1, .int p1)] rfl dX11_sure_38 rfl (by decide) rfl ?_
            refine gz_goto C 18 dX11_sure_41 (by decide) ?_
            refine gz_sub [1, 2, 0] rfl ?_
            exact ih18 _
        · refine gz_iconst (v := (-1)) C dX11_sure_44 (by decide) ?_
          exact gz_iret C dX11_sure_45
    refine gz_sub [2, 3, 0] rfl ?_
    exact hL18 fu _
set_option maxRecDepth 100000 in
set_option maxHeartbeats 4000000 in
theorem ct_X11_wreck (l : Launch) (w : Wd) (p1 : Int32) (M : Mm) : CT l yX11_wreck cX11_wreck 2 (some .int) rm_X11_wreck w (qI w) [.ref (w.1 32), .int p1] (sp_X11_wreck p1 M) M := by
  refine ct_of RX11 [(0, .ref (w.1 32)), (1, .int p1)] rfl (Nat.le_of_ble_eq_true rfl) (by decide) rfl rfl rfl (fun x C => ?_)
  unfold sp_X11_wreck
  refine gz_iloadn C 1 rfl dX11_wreck_0 ?_
  refine gz_i2l C dX11_wreck_1 ?_
  refine gz_lconst (v := 0) C dX11_wreck_2 (by decide) ?_
  refine gz_ldc2 C kl_X11_273 dX11_wreck_3 ?_
  refine gz_callSI [.long (p1.toInt64), .long (0 : Int64), .long (99 : Int64)] [] C (ct_X11_in x.2.1 w (p1.toInt64) (0 : Int64) (99 : Int64) M) cal_X11_in (Or.inl km_X11_77) ⟨rfl, rfl⟩ ⟨by decide, by decide⟩ rfl rfl (Nat.le_of_ble_eq_true rfl) dX11_wreck_6 (fun r6 M6 => ?_)
  refine gz_ifne C 15 dX11_wreck_9 (by decide) ?_ ?_
  · refine gz_bipush (v := (-102)) C dX11_wreck_12 (by decide) ?_
    exact gz_iret C dX11_wreck_14
  · refine gz_aloadn C 0 rfl dX11_wreck_15 ?_
    refine gz_callVI 32 [] [] C kn_X11 rfl rfl (ct_X11_lacks x.2.1 w M6) cal_X11_lacks km_X11_145 ⟨rfl, rfl⟩ ⟨by decide, by decide⟩ rfl rfl (Nat.le_of_ble_eq_true rfl) dX11_wreck_16 (fun r16 M16 => ?_)
    refine gz_ifeq C 25 dX11_wreck_19 (by decide) ?_ ?_
    · refine gz_aloadn C 0 rfl dX11_wreck_25 ?_
      refine gz_get C 32 32 (.int (gI M16 32 32)) kn_X11 rfl kf_X11_133 (by decide) dX11_wreck_26 (fv_I rfl) ?_
      refine gz_bipush (v := (8)) C dX11_wreck_29 (by decide) ?_
      refine gz_icmpne C 37 dX11_wreck_31 (by decide) ?_ ?_
      · refine gz_bipush (v := (-104)) C dX11_wreck_34 (by decide) ?_
        exact gz_iret C dX11_wreck_36
      · refine gz_aloadn C 0 rfl dX11_wreck_37 ?_
        refine gz_get C 32 33 (.ref (w.1 47)) kn_X11 rfl kf_X11_53 (by decide) dX11_wreck_38 (fv_R rfl rfl) ?_
        refine gz_aloadn C 0 rfl dX11_wreck_41 ?_
        refine gz_get C 32 32 (.int (gI M16 32 32)) kn_X11 rfl kf_X11_133 (by decide) dX11_wreck_42 (fv_I rfl) ?_
        refine gz_iloadn C 1 rfl dX11_wreck_45 ?_
        refine gz_iast C rfl dX11_wreck_46 (fun M46 => ?_)
        refine gz_aloadn C 0 rfl dX11_wreck_47 ?_
        refine gz_dup C dX11_wreck_48 rfl ?_
        refine gz_get C 32 32 (.int (gI M46 32 32)) kn_X11 rfl kf_X11_133 (by decide) dX11_wreck_49 (fv_I rfl) ?_
        refine gz_iconst (v := 1) C dX11_wreck_52 (by decide) ?_
        refine gz_iadd C dX11_wreck_53 ?_
        refine gz_putI C 32 32 kn_X11 rfl kf_X11_133 (by decide) rfl rfl (tyX11_ok 32 (by decide)) rfl rfl dX11_wreck_54 (fun M54 => ?_)
        refine gz_aloadn C 0 rfl dX11_wreck_57 ?_
        refine gz_get C 32 32 (.int (gI M54 32 32)) kn_X11 rfl kf_X11_133 (by decide) dX11_wreck_58 (fv_I rfl) ?_
        exact gz_iret C dX11_wreck_61
    · refine gz_bipush (v := (-103)) C dX11_wreck_22 (by decide) ?_
      exact gz_iret C dX11_wreck_24
set_option maxRecDepth 100000 in
set_option maxHeartbeats 4000000 in
theorem ct_X11_stationsOf (l : Launch) (w : Wd) (p1 : Int32) (p2 : Int32) (M : Mm) : CT l yX11_stationsOf cX11_stationsOf 9 (some .int) rm_X11_stationsOf w (qI w) [.ref (w.1 32), .int p1, .int p2] (sp_X11_stationsOf p1 p2 M) M := by
  refine ct_of RX11 [(0, .ref (w.1 32)), (1, .int p1), (2, .int p2)] rfl (Nat.le_of_ble_eq_true rfl) (by decide) rfl rfl rfl (fun x C => ?_)
  unfold sp_X11_stationsOf
  refine gz_iconst (v := 0) C dX11_stationsOf_0 (by decide) ?_
  refine gz_istoren C [(3, .int (0 : Int32)), (0, .ref (w.1 32)), (1, .int p1), (2, .int p2)] dX11_stationsOf_1 (by decide) rfl ?_
  refine gz_iconst (v := (-1)) C dX11_stationsOf_2 (by decide) ?_
  refine gz_istore C [(4, .int (-1 : Int32)), (3, .int (0 : Int32)), (0, .ref (w.1 32)), (1, .int p1), (2, .int p2)] dX11_stationsOf_3 (by decide) rfl ?_
  refine gz_iconst (v := (-1)) C dX11_stationsOf_5 (by decide) ?_
  refine gz_istore C [(5, .int (-1 : Int32)), (4, .int (-1 : Int32)), (3, .int (0 : Int32)), (0, .ref (w.1 32)), (1, .int p1), (2, .int p2)] dX11_stationsOf_6 (by decide) rfl ?_
  refine gz_iconst (v := 0) C dX11_stationsOf_8 (by decide) ?_
  refine gz_istore C [(6, .int (0 : Int32)), (5, .int (-1 : Int32)), (4, .int (-1 : Int32)), (3, .int (0 : Int32)), (0, .ref (w.1 32)), (1, .int p1), (2, .int p2)] dX11_stationsOf_9 (by decide) rfl ?_
  refine gz_jn (fun K123 => ∀ (v3_123 : Int32) (v4_123 : Int32), G x w 9 (qI w) (K123 v3_123 v4_123) M [(2, .int p2), (3, .int v3_123), (4, .int v4_123)] 123 []) ?_ ?_
  · intro v3_123 v4_123
    refine gz_iloadn C 0 rfl dX11_stationsOf_123 ?_
    refine gz_ifne C 131 dX11_stationsOf_124 (by decide) ?_ ?_
    · refine gz_iloadn C 1 rfl dX11_stationsOf_127 ?_
      refine gz_goto C 133 dX11_stationsOf_128 (by decide) ?_
      exact gz_iret C dX11_stationsOf_133
    · refine gz_iload C 2 rfl dX11_stationsOf_131 ?_
      exact gz_iret C dX11_stationsOf_133
  · intro K123 hK123
    have hL11 : ∀ (n11 : Nat) (v3_11 : Int32) (v4_11 : Int32) (v5_11 : Int32) (v6_11 : Int32), G x w 9 (qI w) (sp_X11_stationsOf_L11 p1 M K123 n11 v3_11 v4_11 v5_11 v6_11) M [(0, .ref (w.1 32)), (1, .int p1), (2, .int p2), (3, .int v3_11), (4, .int v4_11), (5, .int v5_11), (6, .int v6_11)] 11 [] := by
      intro n11
      induction n11 with
      | zero => intros; exact gz_none
      | succ n11 ih11 =>
        intro v3_11 v4_11 v5_11 v6_11
        rw [sp_X11_stationsOf_L11]
        refine gz_iload C 6 rfl dX11_stationsOf_11 ?_
        refine gz_bipush (v := (100)) C dX11_stationsOf_13 (by decide) ?_
        refine gz_icmpge C 123 dX11_stationsOf_15 (by decide) ?_ ?_
        · refine gz_iconst (v := 0) C dX11_stationsOf_18 (by decide) ?_
          refine gz_istore C [(7, .int (0 : Int32)), (0, .ref (w.1 32)), (1, .int p1), (2, .int p2), (3, .int v3_11), (4, .int v4_11), (5, .int v5_11), (6, .int v6_11)] dX11_stationsOf_19 (by decide) rfl ?_
          refine gz_iconst (v := 0) C dX11_stationsOf_21 (by decide) ?_
          refine gz_istore C [(8, .int (0 : Int32)), (7, .int (0 : Int32)), (0, .ref (w.1 32)), (1, .int p1), (2, .int p2), (3, .int v3_11), (4, .int v4_11), (5, .int v5_11), (6, .int v6_11)] dX11_stationsOf_22 (by decide) rfl ?_
          refine gz_jn (fun K63 => ∀ (v7_63 : Int32), G x w 9 (qI w) (K63 v7_63) M [(0, .ref (w.1 32)), (1, .int p1), (2, .int p2), (3, .int v3_11), (4, .int v4_11), (5, .int v5_11), (6, .int v6_11), (7, .int v7_63)] 63 []) ?_ ?_
          · intro v7_63
            refine gz_iload C 7 rfl dX11_stationsOf_63 ?_
            refine gz_ifeq C 117 dX11_stationsOf_65 (by decide) ?_ ?_
            · refine gz_iinc (v' := v6_11 + 1) C 6 [(6, .int (v6_11 + 1)), (0, .ref (w.1 32)), (1, .int p1), (2, .int p2), (3, .int v3_11), (4, .int v4_11), (5, .int v5_11), (7, .int v7_63)] rfl dX11_stationsOf_117 rfl (by decide) rfl ?_
              refine gz_goto C 11 dX11_stationsOf_120 (by decide) ?_
              refine gz_sub [1, 2, 3, 4, 5, 6, 0] rfl ?_
              exact ih11 _ _ _ _
            · refine gz_iload C 6 rfl dX11_stationsOf_68 ?_
              refine gz_iload C 5 rfl dX11_stationsOf_70 ?_
              refine gz_icmple C 117 dX11_stationsOf_72 (by decide) ?_ ?_
              · refine gz_iload C 6 rfl dX11_stationsOf_75 ?_
                refine gz_iloadn C 1 rfl dX11_stationsOf_77 ?_
                refine gz_iadd C dX11_stationsOf_78 ?_
                refine gz_bipush (v := (99)) C dX11_stationsOf_79 (by decide) ?_
                refine gz_jn (fun K93 => ∀ (t0_93 : Int32), G x w 9 (qI w) (K93 t0_93) M [(0, .ref (w.1 32)), (1, .int p1), (2, .int p2), (3, .int v3_11), (4, .int v4_11), (6, .int v6_11)] 93 [.int t0_93]) ?_ ?_
                · intro t0_93
                  refine gz_istore C [(8, .int t0_93), (0, .ref (w.1 32)), (1, .int p1), (2, .int p2), (3, .int v3_11), (4, .int v4_11), (6, .int v6_11)] dX11_stationsOf_93 (by decide) rfl ?_
                  refine gz_iloadn C 4 rfl dX11_stationsOf_95 ?_
                  refine gz_jn (fun K106 => ∀ (t0_106 : Int32), G x w 9 (qI w) (K106 t0_106) M [(0, .ref (w.1 32)), (1, .int p1), (2, .int p2), (3, .int v3_11), (6, .int v6_11), (8, .int t0_93)] 106 [.int t0_106]) ?_ ?_
                  · intro t0_106
                    refine gz_istore C [(4, .int t0_106), (0, .ref (w.1 32)), (1, .int p1), (2, .int p2), (3, .int v3_11), (6, .int v6_11), (8, .int t0_93)] dX11_stationsOf_106 (by decide) rfl ?_
                    refine gz_iinc (v' := v3_11 + 1) C 4 [(3, .int (v3_11 + 1)), (4, .int t0_106), (0, .ref (w.1 32)), (1, .int p1), (2, .int p2), (6, .int v6_11), (8, .int t0_93)] rfl dX11_stationsOf_108 rfl (by decide) rfl ?_
                    refine gz_iload C 6 rfl dX11_stationsOf_111 ?_
                    refine gz_iloadn C 3 rfl dX11_stationsOf_113 ?_
                    refine gz_iadd C dX11_stationsOf_114 ?_
                    refine gz_blt (fun y115 => ?_)
                    refine gz_istore C [(5, .int y115), (3, .int (v3_11 + 1)), (4, .int t0_106), (0, .ref (w.1 32)), (1, .int p1), (2, .int p2), (6, .int v6_11), (8, .int t0_93)] dX11_stationsOf_115 (by decide) rfl ?_
                    refine gz_iinc (v' := v6_11 + 1) C 6 [(6, .int (v6_11 + 1)), (5, .int y115), (3, .int (v3_11 + 1)), (4, .int t0_106), (0, .ref (w.1 32)), (1, .int p1), (2, .int p2), (8, .int t0_93)] rfl dX11_stationsOf_117 rfl (by decide) rfl ?_
                    refine gz_goto C 11 dX11_stationsOf_120 (by decide) ?_
                    refine gz_sub [4, 5, 6, 2, 3, 1, 0] rfl ?_
                    exact ih11 _ _ _ _
                  · intro K106 hK106
                    refine gz_ifne C 104 dX11_stationsOf_96 (by decide) ?_ ?_
                    · refine gz_iload C 0 rfl dX11_stationsOf_99 ?_
                      refine gz_goto C 106 dX11_stationsOf_101 (by decide) ?_
                      refine gz_sub [1, 2, 3, 4, 6, 0] rfl ?_
                      exact hK106 _
                    · refine gz_iload C 5 rfl dX11_stationsOf_104 ?_
                      refine gz_sub [1, 2, 3, 4, 6, 0] rfl ?_
                      exact hK106 _
                · intro K93 hK93
                  refine gz_icmple C 89 dX11_stationsOf_81 (by decide) ?_ ?_
                  · refine gz_bipush (v := (99)) C dX11_stationsOf_84 (by decide) ?_
                    refine gz_goto C 93 dX11_stationsOf_86 (by decide) ?_
                    refine gz_sub [0, 1, 2, 3, 4, 6] rfl ?_
                    exact hK93 _
                  · refine gz_iload C 6 rfl dX11_stationsOf_89 ?_
                    refine gz_iloadn C 1 rfl dX11_stationsOf_91 ?_
                    refine gz_iadd C dX11_stationsOf_92 ?_
                    refine gz_sub [0, 1, 2, 3, 4, 6] rfl ?_
                    exact hK93 _
              · refine gz_iinc (v' := v6_11 + 1) C 6 [(6, .int (v6_11 + 1)), (0, .ref (w.1 32)), (1, .int p1), (2, .int p2), (3, .int v3_11), (4, .int v4_11), (5, .int v5_11), (7, .int v7_63)] rfl dX11_stationsOf_117 rfl (by decide) rfl ?_
                refine gz_goto C 11 dX11_stationsOf_120 (by decide) ?_
                refine gz_sub [1, 2, 3, 4, 5, 6, 0] rfl ?_
                exact ih11 _ _ _ _
          · intro K63 hK63
            have hL24 : ∀ (n24 : Nat) (v7_24 : Int32) (v8_24 : Int32), G x w 9 (qI w) (sp_X11_stationsOf_L24 M v6_11 K63 n24 v7_24 v8_24) M [(0, .ref (w.1 32)), (1, .int p1), (2, .int p2), (3, .int v3_11), (4, .int v4_11), (5, .int v5_11), (6, .int v6_11), (7, .int v7_24), (8, .int v8_24)] 24 [] := by
              intro n24
              induction n24 with
              | zero => intros; exact gz_none
              | succ n24 ih24 =>
                intro v7_24 v8_24
                rw [sp_X11_stationsOf_L24]
                refine gz_iload C 8 rfl dX11_stationsOf_24 ?_
                refine gz_aloadn C 0 rfl dX11_stationsOf_26 ?_
                refine gz_get C 32 32 (.int (gI M 32 32)) kn_X11 rfl kf_X11_133 (by decide) dX11_stationsOf_27 (fv_I rfl) ?_
                refine gz_icmpge C 63 dX11_stationsOf_30 (by decide) ?_ ?_
                · refine gz_iload C 7 rfl dX11_stationsOf_33 ?_
                  refine gz_jn (fun K50 => G x w 9 (qI w) K50 M [(0, .ref (w.1 32)), (1, .int p1), (2, .int p2), (3, .int v3_11), (4, .int v4_11), (5, .int v5_11), (6, .int v6_11), (8, .int v8_24)] 50 []) ?_ ?_
                  · refine gz_iconst (v := 1) C dX11_stationsOf_50 (by decide) ?_
                    refine gz_goto C 55 dX11_stationsOf_51 (by decide) ?_
                    refine gz_istore C [(7, .int (1 : Int32)), (0, .ref (w.1 32)), (1, .int p1), (2, .int p2), (3, .int v3_11), (4, .int v4_11), (5, .int v5_11), (6, .int v6_11), (8, .int v8_24)] dX11_stationsOf_55 (by decide) rfl ?_
                    refine gz_iinc (v' := v8_24 + 1) C 8 [(8, .int (v8_24 + 1)), (7, .int (1 : Int32)), (0, .ref (w.1 32)), (1, .int p1), (2, .int p2), (3, .int v3_11), (4, .int v4_11), (5, .int v5_11), (6, .int v6_11)] rfl dX11_stationsOf_57 rfl (by decide) rfl ?_
                    refine gz_goto C 24 dX11_stationsOf_60 (by decide) ?_
                    refine gz_sub [2, 3, 4, 5, 6, 7, 8, 1, 0] rfl ?_
                    exact ih24 _ _
                  · intro K50 hK50
                    refine gz_ifne C 50 dX11_stationsOf_35 (by decide) ?_ ?_
                    · refine gz_aloadn C 0 rfl dX11_stationsOf_38 ?_
                      refine gz_get C 32 33 (.ref (w.1 47)) kn_X11 rfl kf_X11_53 (by decide) dX11_stationsOf_39 (fv_R rfl rfl) ?_
                      refine gz_iload C 8 rfl dX11_stationsOf_42 ?_
                      refine gz_iald C rfl dX11_stationsOf_44 (fun a44 => ?_)
                      refine gz_iload C 6 rfl dX11_stationsOf_45 ?_
                      refine gz_icmpne C 54 dX11_stationsOf_47 (by decide) ?_ ?_
                      · refine gz_sub [0, 1, 2, 3, 4, 5, 6, 8] rfl ?_
                        exact hK50
                      · refine gz_iconst (v := 0) C dX11_stationsOf_54 (by decide) ?_
                        refine gz_istore C [(7, .int (0 : Int32)), (0, .ref (w.1 32)), (1, .int p1), (2, .int p2), (3, .int v3_11), (4, .int v4_11), (5, .int v5_11), (6, .int v6_11), (8, .int v8_24)] dX11_stationsOf_55 (by decide) rfl ?_
                        refine gz_iinc (v' := v8_24 + 1) C 8 [(8, .int (v8_24 + 1)), (7, .int (0 : Int32)), (0, .ref (w.1 32)), (1, .int p1), (2, .int p2), (3, .int v3_11), (4, .int v4_11), (5, .int v5_11), (6, .int v6_11)] rfl dX11_stationsOf_57 rfl (by decide) rfl ?_
                        refine gz_goto C 24 dX11_stationsOf_60 (by decide) ?_
                        refine gz_sub [2, 3, 4, 5, 6, 7, 8, 1, 0] rfl ?_
                        exact ih24 _ _
                    · refine gz_sub [0, 1, 2, 3, 4, 5, 6, 8] rfl ?_
                      exact hK50
                · refine gz_sub [0, 1, 2, 3, 4, 5, 6, 7] rfl ?_
                  exact hK63 _
            refine gz_sub [2, 3, 4, 5, 6, 7, 8, 1, 0] rfl ?_
            exact hL24 fu _ _
        · refine gz_sub [2, 3, 4] rfl ?_
          exact hK123 _ _
    refine gz_sub [4, 5, 6, 3, 2, 1, 0] rfl ?_
    exact hL11 fu _ _ _ _
set_option maxRecDepth 100000 in
set_option maxHeartbeats 4000000 in
theorem ct_X11_stations (l : Launch) (w : Wd) (p1 : Int32) (p2 : Int32) (M : Mm) : CT l yX11_stations cX11_stations 3 (some .int) rm_X11_stations w (qI w) [.ref (w.1 32), .int p1, .int p2] (sp_X11_stations p1 p2 M) M := by
  refine ct_of RX11 [(0, .ref (w.1 32)), (1, .int p1), (2, .int p2)] rfl (Nat.le_of_ble_eq_true rfl) (by decide) rfl rfl rfl (fun x C => ?_)
  unfold sp_X11_stations
  refine gz_iloadn C 1 rfl dX11_stations_0 ?_
  refine gz_i2l C dX11_stations_1 ?_
  refine gz_lconst (v := 0) C dX11_stations_2 (by decide) ?_
  refine gz_ldc2 C kl_X11_236 dX11_stations_3 ?_
  refine gz_callSI [.long (p1.toInt64), .long (0 : Int64), .long (50 : Int64)] [] C (ct_X11_in x.2.1 w (p1.toInt64) (0 : Int64) (50 : Int64) M) cal_X11_in (Or.inl km_X11_77) ⟨rfl, rfl⟩ ⟨by decide, by decide⟩ rfl rfl (Nat.le_of_ble_eq_true rfl) dX11_stations_6 (fun r6 M6 => ?_)
  refine gz_ifeq C 31 dX11_stations_9 (by decide) ?_ ?_
  · refine gz_bipush (v := (-102)) C dX11_stations_31 (by decide) ?_
    exact gz_iret C dX11_stations_33
  · refine gz_iloadn C 2 rfl dX11_stations_12 ?_
    refine gz_i2l C dX11_stations_13 ?_
    refine gz_lconst (v := 0) C dX11_stations_14 (by decide) ?_
    refine gz_lconst (v := 1) C dX11_stations_15 (by decide) ?_
    refine gz_callSI [.long (p2.toInt64), .long (0 : Int64), .long (1 : Int64)] [] C (ct_X11_in x.2.1 w (p2.toInt64) (0 : Int64) (1 : Int64) M6) cal_X11_in (Or.inl km_X11_77) ⟨rfl, rfl⟩ ⟨by decide, by decide⟩ rfl rfl (Nat.le_of_ble_eq_true rfl) dX11_stations_16 (fun r16 M16 => ?_)
    refine gz_ifeq C 31 dX11_stations_19 (by decide) ?_ ?_
    · refine gz_bipush (v := (-102)) C dX11_stations_31 (by decide) ?_
      exact gz_iret C dX11_stations_33
    · refine gz_aloadn C 0 rfl dX11_stations_22 ?_
      refine gz_iloadn C 1 rfl dX11_stations_23 ?_
      refine gz_iloadn C 2 rfl dX11_stations_24 ?_
      refine gz_callVI 32 [.int p1, .int p2] [] C kn_X11 rfl rfl (ct_X11_stationsOf x.2.1 w p1 p2 M16) cal_X11_stationsOf km_X11_275 ⟨rfl, rfl⟩ ⟨by decide, by decide⟩ rfl rfl (Nat.le_of_ble_eq_true rfl) dX11_stations_25 (fun r25 M25 => ?_)
      refine gz_goto C 33 dX11_stations_28 (by decide) ?_
      exact gz_iret C dX11_stations_33
set_option maxRecDepth 100000 in
set_option maxHeartbeats 4000000 in
theorem ct_X11_draw (l : Launch) (w : Wd) (p1 : Int32) (M : Mm) : CT l yX11_draw cX11_draw 2 (some .int) rm_X11_draw w (qI w) [.ref (w.1 32), .int p1] (sp_X11_draw p1 M) M := by
  refine ct_of RX11 [(0, .ref (w.1 32)), (1, .int p1)] rfl (Nat.le_of_ble_eq_true rfl) (by decide) rfl rfl rfl (fun x C => ?_)
  unfold sp_X11_draw
  refine gz_aloadn C 0 rfl dX11_draw_0 ?_
  refine gz_ldc2 C kl_X11_278 dX11_draw_1 ?_
  refine gz_aloadn C 0 rfl dX11_draw_4 ?_
  refine gz_get C 32 34 (.int (gI M 32 34)) kn_X11 rfl kf_X11_280 (by decide) dX11_draw_5 (fv_I rfl) ?_
  refine gz_i2l C dX11_draw_8 ?_
  refine gz_lmul C dX11_draw_9 ?_
  refine gz_ldc2 C kl_X11_283 dX11_draw_10 ?_
  refine gz_ladd C dX11_draw_13 ?_
  refine gz_ldc2 C kl_X11_285 dX11_draw_14 ?_
  refine gz_land C dX11_draw_17 ?_
  refine gz_l2i C dX11_draw_18 ?_
  refine gz_putI C 32 34 kn_X11 rfl kf_X11_280 (by decide) rfl rfl (tyX11_ok 34 (by decide)) rfl rfl dX11_draw_19 (fun M19 => ?_)
  refine gz_aloadn C 0 rfl dX11_draw_22 ?_
  refine gz_get C 32 34 (.int (gI M19 32 34)) kn_X11 rfl kf_X11_280 (by decide) dX11_draw_23 (fv_I rfl) ?_
  refine gz_ldcw C kc_X11_287 dX11_draw_26 ?_
  refine gz_idivc C (by decide) dX11_draw_29 ?_
  refine gz_iloadn C 1 rfl dX11_draw_30 ?_
  refine gz_nzI (fun hz31 => ?_)
  refine gz_iremc C hz31 dX11_draw_31 ?_
  exact gz_iret C dX11_draw_32
set_option maxRecDepth 100000 in
set_option maxHeartbeats 4000000 in
theorem ct_X11_nights (l : Launch) (w : Wd) (p1 : Int32) (p2 : Int32) (M : Mm) : CT l yX11_nights cX11_nights 12 (some .int) rm_X11_nights w (qI w) [.ref (w.1 32), .int p1, .int p2] (sp_X11_nights p1 p2 M) M := by
  refine ct_of RX11 [(0, .ref (w.1 32)), (1, .int p1), (2, .int p2)] rfl (Nat.le_of_ble_eq_true rfl) (by decide) rfl rfl rfl (fun x C => ?_)
  unfold sp_X11_nights
  refine gz_iloadn C 1 rfl dX11_nights_0 ?_
  refine gz_iflt C 16 dX11_nights_1 (by decide) ?_ ?_
  · refine gz_bipush (v := (-102)) C dX11_nights_16 (by decide) ?_
    exact gz_iret C dX11_nights_18
  · refine gz_iloadn C 2 rfl dX11_nights_4 ?_
    refine gz_i2l C dX11_nights_5 ?_
    refine gz_lconst (v := 0) C dX11_nights_6 (by decide) ?_
    refine gz_ldc2 C kl_X11_288 dX11_nights_7 ?_
    refine gz_callSI [.long (p2.toInt64), .long (0 : Int64), .long (3 : Int64)] [] C (ct_X11_in x.2.1 w (p2.toInt64) (0 : Int64) (3 : Int64) M) cal_X11_in (Or.inl km_X11_77) ⟨rfl, rfl⟩ ⟨by decide, by decide⟩ rfl rfl (Nat.le_of_ble_eq_true rfl) dX11_nights_10 (fun r10 M10 => ?_)
    refine gz_ifne C 19 dX11_nights_13 (by decide) ?_ ?_
    · refine gz_bipush (v := (-102)) C dX11_nights_16 (by decide) ?_
      exact gz_iret C dX11_nights_18
    · refine gz_aloadn C 0 rfl dX11_nights_19 ?_
      refine gz_callVI 32 [] [] C kn_X11 rfl rfl (ct_X11_lacks x.2.1 w M10) cal_X11_lacks km_X11_145 ⟨rfl, rfl⟩ ⟨by decide, by decide⟩ rfl rfl (Nat.le_of_ble_eq_true rfl) dX11_nights_20 (fun r20 M20 => ?_)
      refine gz_ifne C 45 dX11_nights_23 (by decide) ?_ ?_
      · refine gz_aloadn C 0 rfl dX11_nights_26 ?_
        refine gz_get C 32 12 (.int (gI M20 32 12)) kn_X11 rfl kf_X11_121 (by decide) dX11_nights_27 (fv_I rfl) ?_
        refine gz_iconst (v := 1) C dX11_nights_30 (by decide) ?_
        refine gz_icmpeq C 45 dX11_nights_31 (by decide) ?_ ?_
        · refine gz_bipush (v := (-103)) C dX11_nights_45 (by decide) ?_
          exact gz_iret C dX11_nights_47
        · refine gz_aloadn C 0 rfl dX11_nights_34 ?_
          refine gz_callVI 32 [] [] C kn_X11 rfl rfl (ct_X11_stageNow x.2.1 w M20) cal_X11_stageNow km_X11_161 ⟨rfl, rfl⟩ ⟨by decide, by decide⟩ rfl rfl (Nat.le_of_ble_eq_true rfl) dX11_nights_35 (fun r35 M35 => ?_)
          refine gz_aloadn C 0 rfl dX11_nights_38 ?_
          refine gz_get C 32 7 (.int (gI M35 32 7)) kn_X11 rfl kf_X11_106 (by decide) dX11_nights_39 (fv_I rfl) ?_
          refine gz_icmplt C 48 dX11_nights_42 (by decide) ?_ ?_
          · refine gz_aloadn C 0 rfl dX11_nights_48 ?_
            refine gz_iloadn C 1 rfl dX11_nights_49 ?_
            refine gz_putI C 32 34 kn_X11 rfl kf_X11_280 (by decide) rfl rfl (tyX11_ok 34 (by decide)) rfl rfl dX11_nights_50 (fun M50 => ?_)
            refine gz_aloadn C 0 rfl dX11_nights_53 ?_
            refine gz_get C 32 11 (.int (gI M50 32 11)) kn_X11 rfl kf_X11_118 (by decide) dX11_nights_54 (fv_I rfl) ?_
            refine gz_blt (fun y57 => ?_)
            refine gz_istoren C [(3, .int y57), (0, .ref (w.1 32)), (1, .int p1), (2, .int p2)] dX11_nights_57 (by decide) rfl ?_
            refine gz_aloadn C 1 rfl dX11_nights_58 ?_
            refine gz_callVI 32 [] [] C kn_X11 rfl rfl (ct_X11_leftBits x.2.1 w M50) cal_X11_leftBits km_X11_192 ⟨rfl, rfl⟩ ⟨by decide, by decide⟩ rfl rfl (Nat.le_of_ble_eq_true rfl) dX11_nights_59 (fun r59 M59 => ?_)
            refine gz_istore C [(4, .int r59), (3, .int y57), (0, .ref (w.1 32)), (1, .int p1), (2, .int p2)] dX11_nights_62 (by decide) rfl ?_
            refine gz_iconst (v := 0) C dX11_nights_64 (by decide) ?_
            refine gz_istore C [(5, .int (0 : Int32)), (4, .int r59), (3, .int y57), (0, .ref (w.1 32)), (1, .int p1), (2, .int p2)] dX11_nights_65 (by decide) rfl ?_
            refine gz_iconst (v := 0) C dX11_nights_67 (by decide) ?_
            refine gz_istore C [(6, .int (0 : Int32)), (5, .int (0 : Int32)), (4, .int r59), (3, .int y57), (0, .ref (w.1 32)), (1, .int p1), (2, .int p2)] dX11_nights_68 (by decide) rfl ?_
            refine gz_aloadn C 4 rfl dX11_nights_70 ?_
            refine gz_callVI 32 [] [] C kn_X11 rfl rfl (ct_X11_stageNow x.2.1 w M59) cal_X11_stageNow km_X11_161 ⟨rfl, rfl⟩ ⟨by decide, by decide⟩ rfl rfl (Nat.le_of_ble_eq_true rfl) dX11_nights_71 (fun r71 M71 => ?_)
            refine gz_istore C [(7, .int r71), (6, .int (0 : Int32)), (5, .int (0 : Int32)), (4, .int r59), (3, .int y57), (0, .ref (w.1 32)), (1, .int p1), (2, .int p2)] dX11_nights_74 (by decide) rfl ?_
            refine gz_jn (fun K242 => ∀ (v3_242 : Int32) (v5_242 : Int32) (v6_242 : Int32) (M_242 : Mm), G x w 12 (qI w) (K242 v3_242 v5_242 v6_242 M_242) M_242 [(0, .ref (w.1 32)), (2, .int p2), (3, .int v3_242), (5, .int v5_242), (6, .int v6_242)] 242 []) ?_ ?_
            · intro v3_242 v5_242 v6_242 M_242
              refine gz_iloadn C 1 rfl dX11_nights_242 ?_
              refine gz_ifne C 250 dX11_nights_243 (by decide) ?_ ?_
              · refine gz_iloadn C 2 rfl dX11_nights_246 ?_
                refine gz_goto C 274 dX11_nights_247 (by decide) ?_
                exact gz_iret C dX11_nights_274
              · refine gz_iloadn C 1 rfl dX11_nights_250 ?_
                refine gz_iconst (v := 1) C dX11_nights_251 (by decide) ?_
                refine gz_icmpne C 260 dX11_nights_252 (by decide) ?_ ?_
                · refine gz_iload C 3 rfl dX11_nights_255 ?_
                  refine gz_goto C 274 dX11_nights_257 (by decide) ?_
                  exact gz_iret C dX11_nights_274
                · refine gz_iloadn C 1 rfl dX11_nights_260 ?_
                  refine gz_iconst (v := 2) C dX11_nights_261 (by decide) ?_
                  refine gz_icmpne C 270 dX11_nights_262 (by decide) ?_ ?_
                  · refine gz_iload C 4 rfl dX11_nights_265 ?_
                    refine gz_goto C 274 dX11_nights_267 (by decide) ?_
                    exact gz_iret C dX11_nights_274
                  · refine gz_aloadn C 0 rfl dX11_nights_270 ?_
                    refine gz_get C 32 34 (.int (gI M_242 32 34)) kn_X11 rfl kf_X11_280 (by decide) dX11_nights_271 (fv_I rfl) ?_
                    exact gz_iret C dX11_nights_274
            · intro K242 hK242
              have hL76 : ∀ (n76 : Nat) (v3_76 : Int32) (v4_76 : Int32) (v5_76 : Int32) (v6_76 : Int32) (v7_76 : Int32) (M_76 : Mm), G x w 12 (qI w) (sp_X11_nights_L76 K242 n76 v3_76 v4_76 v5_76 v6_76 v7_76 M_76) M_76 [(0, .ref (w.1 32)), (2, .int p2), (3, .int v3_76), (4, .int v4_76), (5, .int v5_76), (6, .int v6_76), (7, .int v7_76)] 76 [] := by
                intro n76
                induction n76 with
                | zero => intros; exact gz_none
                | succ n76 ih76 =>
                  intro v3_76 v4_76 v5_76 v6_76 v7_76 M_76
                  rw [sp_X11_nights_L76]
                  refine gz_iloadn C 2 rfl dX11_nights_76 ?_
                  refine gz_ifne C 242 dX11_nights_77 (by decide) ?_ ?_
                  · refine gz_iload C 3 rfl dX11_nights_80 ?_
                    refine gz_ifeq C 242 dX11_nights_82 (by decide) ?_ ?_
                    · refine gz_sub [0, 1, 2, 4, 5] rfl ?_
                      exact hK242 _ _ _ _
                    · refine gz_iload C 5 rfl dX11_nights_85 ?_
                      refine gz_ifne C 242 dX11_nights_87 (by decide) ?_ ?_
                      · refine gz_iconst (v := 0) C dX11_nights_90 (by decide) ?_
                        refine gz_istore C [(8, .int (0 : Int32)), (0, .ref (w.1 32)), (2, .int p2), (3, .int v3_76), (4, .int v4_76), (5, .int v5_76), (6, .int v6_76), (7, .int v7_76)] dX11_nights_91 (by decide) rfl ?_
                        refine gz_jn (fun K109 => ∀ (v8_109 : Int32), G x w 12 (qI w) (K109 v8_109) M_76 [(0, .ref (w.1 32)), (2, .int p2), (4, .int v4_76), (5, .int v5_76), (6, .int v6_76), (7, .int v7_76), (8, .int v8_109)] 109 []) ?_ ?_
                        · intro v8_109
                          refine gz_iload C 2 rfl dX11_nights_109 ?_
                          refine gz_iconst (v := 1) C dX11_nights_111 (by decide) ?_
                          refine gz_iload C 6 rfl dX11_nights_112 ?_
                          refine gz_ishl C dX11_nights_114 ?_
                          refine gz_iconst (v := (-1)) C dX11_nights_115 (by decide) ?_
                          refine gz_ixor C dX11_nights_116 ?_
                          refine gz_iand C dX11_nights_117 ?_
                          refine gz_blt (fun y118 => ?_)
                          refine gz_istore C [(4, .int y118), (0, .ref (w.1 32)), (2, .int p2), (5, .int v5_76), (6, .int v6_76), (7, .int v7_76), (8, .int v8_109)] dX11_nights_118 (by decide) rfl ?_
                          refine gz_iinc (v' := v5_76 + 1) C 3 [(5, .int (v5_76 + 1)), (4, .int y118), (0, .ref (w.1 32)), (2, .int p2), (6, .int v6_76), (7, .int v7_76), (8, .int v8_109)] rfl dX11_nights_120 rfl (by decide) rfl ?_
                          refine gz_aloadn C 2 rfl dX11_nights_123 ?_
                          refine gz_bipush (v := (10)) C dX11_nights_124 (by decide) ?_
                          refine gz_callVI 32 [.int (10 : Int32)] [] C kn_X11 rfl rfl (ct_X11_draw x.2.1 w (10 : Int32) M_76) cal_X11_draw km_X11_290 ⟨rfl, rfl⟩ ⟨by decide, by decide⟩ rfl rfl (Nat.le_of_ble_eq_true rfl) dX11_nights_126 (fun r126 M126 => ?_)
                          refine gz_istore C [(9, .int r126), (5, .int (v5_76 + 1)), (4, .int y118), (0, .ref (w.1 32)), (2, .int p2), (6, .int v6_76), (7, .int v7_76), (8, .int v8_109)] dX11_nights_129 (by decide) rfl ?_
                          refine gz_iload C 0 rfl dX11_nights_131 ?_
                          refine gz_aloadn C 3 rfl dX11_nights_133 ?_
                          refine gz_get C 32 15 (.ref (w.1 36)) kn_X11 rfl kf_X11_19 (by decide) dX11_nights_134 (fv_R rfl rfl) ?_
                          refine gz_iconst (v := 0) C dX11_nights_137 (by decide) ?_
                          refine gz_iald C rfl dX11_nights_138 (fun a138 => ?_)
                          refine gz_jn (fun K169 => ∀ (t0_169 : Int32), G x w 12 (qI w) (K169 t0_169) M126 [(0, .ref (w.1 32)), (2, .int p2), (4, .int y118), (5, .int (v5_76 + 1)), (6, .int v6_76), (7, .int v7_76), (8, .int v8_109)] 169 [.int t0_169]) ?_ ?_
                          · intro t0_169
                            refine gz_istore C [(10, .int t0_169), (0, .ref (w.1 32)), (2, .int p2), (4, .int y118), (5, .int (v5_76 + 1)), (6, .int v6_76), (7, .int v7_76), (8, .int v8_109)] dX11_nights_169 (by decide) rfl ?_
                            refine gz_aloadn C 1 rfl dX11_nights_171 ?_
                            refine gz_aloadn C 1 rfl dX11_nights_172 ?_
                            refine gz_iload C 7 rfl dX11_nights_173 ?_
                            refine gz_iload C 6 rfl dX11_nights_175 ?_
                            refine gz_iload C 0 rfl dX11_nights_177 ?_
                            refine gz_callVI 32 [.int v8_109, .int v7_76, .int t0_169] [.ref (w.1 32)] C kn_X11 rfl rfl (ct_X11_fallsAt x.2.1 w v8_109 v7_76 t0_169 M126) cal_X11_fallsAt km_X11_164 ⟨rfl, rfl⟩ ⟨by decide, by decide⟩ rfl rfl (Nat.le_of_ble_eq_true rfl) dX11_nights_179 (fun r179 M179 => ?_)
                            refine gz_callVI 32 [.int r179] [] C kn_X11 rfl rfl (ct_X11_isRight x.2.1 w r179 M179) cal_X11_isRight km_X11_168 ⟨rfl, rfl⟩ ⟨by decide, by decide⟩ rfl rfl (Nat.le_of_ble_eq_true rfl) dX11_nights_182 (fun r182 M182 => ?_)
                            refine gz_jn (fun K193 => ∀ (t0_193 : Int32), G x w 12 (qI w) (K193 t0_193) M182 [(0, .ref (w.1 32)), (2, .int p2), (4, .int y118), (5, .int (v5_76 + 1)), (6, .int v6_76), (7, .int v7_76)] 193 [.int t0_193]) ?_ ?_
                            · intro t0_193
                              refine gz_istoren C [(3, .int t0_193), (0, .ref (w.1 32)), (2, .int p2), (4, .int y118), (5, .int (v5_76 + 1)), (6, .int v6_76), (7, .int v7_76)] dX11_nights_193 (by decide) rfl ?_
                              refine gz_iloadn C 0 rfl dX11_nights_194 ?_
                              refine gz_ifne C 239 dX11_nights_195 (by decide) ?_ ?_
                              · refine gz_aloadn C 1 rfl dX11_nights_198 ?_
                                refine gz_bipush (v := (10)) C dX11_nights_199 (by decide) ?_
                                refine gz_callVI 32 [.int (10 : Int32)] [] C kn_X11 rfl rfl (ct_X11_draw x.2.1 w (10 : Int32) M182) cal_X11_draw km_X11_290 ⟨rfl, rfl⟩ ⟨by decide, by decide⟩ rfl rfl (Nat.le_of_ble_eq_true rfl) dX11_nights_201 (fun r201 M201 => ?_)
                                refine gz_istore C [(11, .int r201), (3, .int t0_193), (0, .ref (w.1 32)), (2, .int p2), (4, .int y118), (5, .int (v5_76 + 1)), (6, .int v6_76), (7, .int v7_76)] dX11_nights_204 (by decide) rfl ?_
                                refine gz_iload C 0 rfl dX11_nights_206 ?_
                                refine gz_aloadn C 2 rfl dX11_nights_208 ?_
                                refine gz_get C 32 16 (.ref (w.1 37)) kn_X11 rfl kf_X11_22 (by decide) dX11_nights_209 (fv_R rfl rfl) ?_
                                refine gz_iload C 7 rfl dX11_nights_212 ?_
                                refine gz_iald C rfl dX11_nights_214 (fun a214 => ?_)
                                refine gz_jn (fun K229 => G x w 12 (qI w) K229 M201 [(0, .ref (w.1 32)), (2, .int p2), (3, .int t0_193), (4, .int y118), (5, .int (v5_76 + 1)), (7, .int v7_76)] 229 []) ?_ ?_
                                · refine gz_iconst (v := 1) C dX11_nights_229 (by decide) ?_
                                  refine gz_goto C 234 dX11_nights_230 (by decide) ?_
                                  refine gz_istore C [(6, .int (1 : Int32)), (0, .ref (w.1 32)), (2, .int p2), (3, .int t0_193), (4, .int y118), (5, .int (v5_76 + 1)), (7, .int v7_76)] dX11_nights_234 (by decide) rfl ?_
                                  refine gz_iinc (v' := v7_76 + 1) C 6 [(7, .int (v7_76 + 1)), (6, .int (1 : Int32)), (0, .ref (w.1 32)), (2, .int p2), (3, .int t0_193), (4, .int y118), (5, .int (v5_76 + 1))] rfl dX11_nights_236 rfl (by decide) rfl ?_
                                  refine gz_goto C 76 dX11_nights_239 (by decide) ?_
                                  refine gz_sub [2, 3, 4, 5, 6, 1, 0] rfl ?_
                                  exact ih76 _ _ _ _ _ _
                                · intro K229 hK229
                                  refine gz_icmplt C 229 dX11_nights_215 (by decide) ?_ ?_
                                  · refine gz_sub [2, 3, 1, 4, 5, 7] rfl ?_
                                    exact hK229
                                  · refine gz_iload C 7 rfl dX11_nights_218 ?_
                                    refine gz_aloadn C 2 rfl dX11_nights_220 ?_
                                    refine gz_get C 32 7 (.int (gI M201 32 7)) kn_X11 rfl kf_X11_106 (by decide) dX11_nights_221 (fv_I rfl) ?_
                                    refine gz_iconst (v := 1) C dX11_nights_224 (by decide) ?_
                                    refine gz_isub C dX11_nights_225 ?_
                                    refine gz_icmpne C 233 dX11_nights_226 (by decide) ?_ ?_
                                    · refine gz_sub [2, 3, 1, 4, 5, 7] rfl ?_
                                      exact hK229
                                    · refine gz_iconst (v := 0) C dX11_nights_233 (by decide) ?_
                                      refine gz_istore C [(6, .int (0 : Int32)), (11, .int r201), (3, .int t0_193), (0, .ref (w.1 32)), (2, .int p2), (4, .int y118), (5, .int (v5_76 + 1)), (7, .int v7_76)] dX11_nights_234 (by decide) rfl ?_
                                      refine gz_iinc (v' := v7_76 + 1) C 7 [(7, .int (v7_76 + 1)), (6, .int (0 : Int32)), (11, .int r201), (3, .int t0_193), (0, .ref (w.1 32)), (2, .int p2), (4, .int y118), (5, .int (v5_76 + 1))] rfl dX11_nights_236 rfl (by decide) rfl ?_
                                      refine gz_goto C 76 dX11_nights_239 (by decide) ?_
                                      refine gz_sub [4, 5, 3, 6, 7, 1, 0] rfl ?_
                                      exact ih76 _ _ _ _ _ _
                              · refine gz_goto C 76 dX11_nights_239 (by decide) ?_
                                refine gz_sub [1, 2, 0, 3, 4, 5, 6] rfl ?_
                                exact ih76 _ _ _ _ _ _
                            · intro K193 hK193
                              refine gz_ifeq C 192 dX11_nights_185 (by decide) ?_ ?_
                              · refine gz_iconst (v := 0) C dX11_nights_192 (by decide) ?_
                                refine gz_sub [1, 2, 3, 4, 5, 6] rfl ?_
                                exact hK193 _
                              · refine gz_iconst (v := 1) C dX11_nights_188 (by decide) ?_
                                refine gz_goto C 193 dX11_nights_189 (by decide) ?_
                                refine gz_sub [1, 2, 3, 4, 5, 6] rfl ?_
                                exact hK193 _
                          · intro K169 hK169
                            refine gz_icmpge C 146 dX11_nights_139 (by decide) ?_ ?_
                            · refine gz_iconst (v := (-1)) C dX11_nights_142 (by decide) ?_
                              refine gz_goto C 169 dX11_nights_143 (by decide) ?_
                              refine gz_sub [3, 4, 2, 1, 5, 6, 7] rfl ?_
                              exact hK169 _
                            · refine gz_iload C 0 rfl dX11_nights_146 ?_
                              refine gz_aloadn C 3 rfl dX11_nights_148 ?_
                              refine gz_get C 32 15 (.ref (w.1 36)) kn_X11 rfl kf_X11_19 (by decide) dX11_nights_149 (fv_R rfl rfl) ?_
                              refine gz_iconst (v := 0) C dX11_nights_152 (by decide) ?_
                              refine gz_iald C rfl dX11_nights_153 (fun a153 => ?_)
                              refine gz_aloadn C 3 rfl dX11_nights_154 ?_
                              refine gz_get C 32 15 (.ref (w.1 36)) kn_X11 rfl kf_X11_19 (by decide) dX11_nights_155 (fv_R rfl rfl) ?_
                              refine gz_iconst (v := 1) C dX11_nights_158 (by decide) ?_
                              refine gz_iald C rfl dX11_nights_159 (fun a159 => ?_)
                              refine gz_iadd C dX11_nights_160 ?_
                              refine gz_icmpge C 168 dX11_nights_161 (by decide) ?_ ?_
                              · refine gz_iconst (v := 0) C dX11_nights_164 (by decide) ?_
                                refine gz_goto C 169 dX11_nights_165 (by decide) ?_
                                refine gz_sub [3, 4, 2, 1, 5, 6, 7] rfl ?_
                                exact hK169 _
                              · refine gz_iconst (v := 1) C dX11_nights_168 (by decide) ?_
                                refine gz_sub [3, 4, 2, 1, 5, 6, 7] rfl ?_
                                exact hK169 _
                        · intro K109 hK109
                          have hL93 : ∀ (n93 : Nat) (v8_93 : Int32), G x w 12 (qI w) (sp_X11_nights_L93 v4_76 K109 n93 v8_93) M_76 [(0, .ref (w.1 32)), (2, .int p2), (4, .int v4_76), (5, .int v5_76), (6, .int v6_76), (7, .int v7_76), (8, .int v8_93)] 93 [] := by
                            intro n93
                            induction n93 with
                            | zero => intros; exact gz_none
                            | succ n93 ih93 =>
                              intro v8_93
                              rw [sp_X11_nights_L93]
                              refine gz_iload C 2 rfl dX11_nights_93 ?_
                              refine gz_iload C 6 rfl dX11_nights_95 ?_
                              refine gz_ishr C dX11_nights_97 ?_
                              refine gz_iconst (v := 1) C dX11_nights_98 (by decide) ?_
                              refine gz_iand C dX11_nights_99 ?_
                              refine gz_ifne C 109 dX11_nights_100 (by decide) ?_ ?_
                              · refine gz_iinc (v' := v8_93 + 1) C 6 [(8, .int (v8_93 + 1)), (0, .ref (w.1 32)), (2, .int p2), (4, .int v4_76), (5, .int v5_76), (6, .int v6_76), (7, .int v7_76)] rfl dX11_nights_103 rfl (by decide) rfl ?_
                                refine gz_goto C 93 dX11_nights_106 (by decide) ?_
                                refine gz_sub [1, 2, 3, 4, 5, 6, 0] rfl ?_
                                exact ih93 _
                              · exact hK109 _
                          refine gz_sub [1, 2, 4, 5, 6, 7, 0] rfl ?_
                          exact hL93 fu _
                      · refine gz_sub [0, 1, 2, 4, 5] rfl ?_
                        exact hK242 _ _ _ _
                  · refine gz_sub [0, 1, 2, 4, 5] rfl ?_
                    exact hK242 _ _ _ _
              refine gz_sub [5, 7, 4, 3, 2, 1, 0] rfl ?_
              exact hL76 fu _ _ _ _ _ _
          · refine gz_bipush (v := (-103)) C dX11_nights_45 (by decide) ?_
            exact gz_iret C dX11_nights_47
      · refine gz_bipush (v := (-103)) C dX11_nights_45 (by decide) ?_
        exact gz_iret C dX11_nights_47
set_option maxRecDepth 100000 in
set_option maxHeartbeats 4000000 in
theorem ct_X11_copy (l : Launch) (w : Wd) (c0 : Nat) (hc0 : kd c0 = 12) (c1 : Nat) (hc1 : kd c1 = 12) (M : Mm) : CT l yX11_copy cX11_copy 3 none rm_X11_copy w (qV w) [.ref (w.1 c0), .ref (w.1 c1)] (sp_X11_copy c0 c1 M) M := by
  refine ct_of RX11 [(0, .ref (w.1 c0)), (1, .ref (w.1 c1))] rfl (Nat.le_of_ble_eq_true rfl) (by decide) rfl rfl rfl (fun x C => ?_)
  unfold sp_X11_copy
  refine gz_iconst (v := 0) C dX11_copy_0 (by decide) ?_
  refine gz_istoren C [(2, .int (0 : Int32)), (0, .ref (w.1 c0)), (1, .ref (w.1 c1))] dX11_copy_1 (by decide) rfl ?_
  have hL2 : ∀ (n2 : Nat) (v2_2 : Int32) (M_2 : Mm), G x w 3 (qV w) (sp_X11_copy_L2 c0 c1 n2 v2_2 M_2) M_2 [(0, .ref (w.1 c0)), (1, .ref (w.1 c1)), (2, .int v2_2)] 2 [] := by
    intro n2
    induction n2 with
    | zero => intros; exact gz_none
    | succ n2 ih2 =>
      intro v2_2 M_2
      rw [sp_X11_copy_L2]
      refine gz_iloadn C 2 rfl dX11_copy_2 ?_
      refine gz_aloadn C 0 rfl dX11_copy_3 ?_
      refine gz_alenI C hc0 rfl dX11_copy_4 ?_
      refine gz_icmpge C 20 dX11_copy_5 (by decide) ?_ ?_
      · refine gz_aloadn C 1 rfl dX11_copy_8 ?_
        refine gz_iloadn C 2 rfl dX11_copy_9 ?_
        refine gz_aloadn C 0 rfl dX11_copy_10 ?_
        refine gz_iloadn C 2 rfl dX11_copy_11 ?_
        refine gz_iald C hc0 dX11_copy_12 (fun a12 => ?_)
        refine gz_iast C hc1 dX11_copy_13 (fun M13 => ?_)
        refine gz_iinc (v' := v2_2 + 1) C 2 [(2, .int (v2_2 + 1)), (0, .ref (w.1 c0)), (1, .ref (w.1 c1))] rfl dX11_copy_14 rfl (by decide) rfl ?_
        refine gz_goto C 2 dX11_copy_17 (by decide) ?_
        refine gz_sub [1, 2, 0] rfl ?_
        exact ih2 _ _
      · exact gz_vret C dX11_copy_20
  refine gz_sub [1, 2, 0] rfl ?_
  exact hL2 fu _ _
set_option maxRecDepth 100000 in
set_option maxHeartbeats 4000000 in
theorem ct_X11_image (l : Launch) (w : Wd) (M : Mm) : CT l yX11_image cX11_image 1 (some .int) rm_X11_image w (qI w) [.ref (w.1 32)] (sp_X11_image M) M := by
  refine ct_of RX11 [(0, .ref (w.1 32))] rfl (Nat.le_of_ble_eq_true rfl) (by decide) rfl rfl rfl (fun x C => ?_)
  unfold sp_X11_image
  refine gz_aloadn C 0 rfl dX11_image_0 ?_
  refine gz_callVI 32 [] [] C kn_X11 rfl rfl (ct_X11_lacks x.2.1 w M) cal_X11_lacks km_X11_145 ⟨rfl, rfl⟩ ⟨by decide, by decide⟩ rfl rfl (Nat.le_of_ble_eq_true rfl) dX11_image_1 (fun r1 M1 => ?_)
  refine gz_ifeq C 10 dX11_image_4 (by decide) ?_ ?_
  · refine gz_aloadn C 0 rfl dX11_image_10 ?_
    refine gz_get C 32 18 (.ref (w.1 38)) kn_X11 rfl kf_X11_25 (by decide) dX11_image_11 (fv_R rfl rfl) ?_
    refine gz_aloadn C 0 rfl dX11_image_14 ?_
    refine gz_get C 32 44 (.ref (w.1 48)) kn_X11 rfl kf_X11_56 (by decide) dX11_image_15 (fv_R rfl rfl) ?_
    refine gz_callSV [.ref (w.1 38), .ref (w.1 48)] [] C (ct_X11_copy x.2.1 w 38 rfl 48 rfl M1) cal_X11_copy (Or.inl km_X11_293) ⟨rfl, rfl⟩ ⟨by decide, by decide⟩ rfl rfl (Nat.le_of_ble_eq_true rfl) dX11_image_18 (fun _ M18 => ?_)
    refine gz_aloadn C 0 rfl dX11_image_21 ?_
    refine gz_get C 32 23 (.ref (w.1 41)) kn_X11 rfl kf_X11_35 (by decide) dX11_image_22 (fv_R rfl rfl) ?_
    refine gz_aloadn C 0 rfl dX11_image_25 ?_
    refine gz_get C 32 45 (.ref (w.1 49)) kn_X11 rfl kf_X11_59 (by decide) dX11_image_26 (fv_R rfl rfl) ?_
    refine gz_callSV [.ref (w.1 41), .ref (w.1 49)] [] C (ct_X11_copy x.2.1 w 41 rfl 49 rfl M18) cal_X11_copy (Or.inl km_X11_293) ⟨rfl, rfl⟩ ⟨by decide, by decide⟩ rfl rfl (Nat.le_of_ble_eq_true rfl) dX11_image_29 (fun _ M29 => ?_)
    refine gz_aloadn C 0 rfl dX11_image_32 ?_
    refine gz_get C 32 30 (.ref (w.1 45)) kn_X11 rfl kf_X11_47 (by decide) dX11_image_33 (fv_R rfl rfl) ?_
    refine gz_aloadn C 0 rfl dX11_image_36 ?_
    refine gz_get C 32 46 (.ref (w.1 50)) kn_X11 rfl kf_X11_62 (by decide) dX11_image_37 (fv_R rfl rfl) ?_
    refine gz_callSV [.ref (w.1 45), .ref (w.1 50)] [] C (ct_X11_copy x.2.1 w 45 rfl 50 rfl M29) cal_X11_copy (Or.inl km_X11_293) ⟨rfl, rfl⟩ ⟨by decide, by decide⟩ rfl rfl (Nat.le_of_ble_eq_true rfl) dX11_image_40 (fun _ M40 => ?_)
    refine gz_aloadn C 0 rfl dX11_image_43 ?_
    refine gz_get C 32 33 (.ref (w.1 47)) kn_X11 rfl kf_X11_53 (by decide) dX11_image_44 (fv_R rfl rfl) ?_
    refine gz_aloadn C 0 rfl dX11_image_47 ?_
    refine gz_get C 32 47 (.ref (w.1 51)) kn_X11 rfl kf_X11_65 (by decide) dX11_image_48 (fv_R rfl rfl) ?_
    refine gz_callSV [.ref (w.1 47), .ref (w.1 51)] [] C (ct_X11_copy x.2.1 w 47 rfl 51 rfl M40) cal_X11_copy (Or.inl km_X11_293) ⟨rfl, rfl⟩ ⟨by decide, by decide⟩ rfl rfl (Nat.le_of_ble_eq_true rfl) dX11_image_51 (fun _ M51 => ?_)
    refine gz_aloadn C 0 rfl dX11_image_54 ?_
    refine gz_aloadn C 0 rfl dX11_image_55 ?_
    refine gz_get C 32 10 (.int (gI M51 32 10)) kn_X11 rfl kf_X11_115 (by decide) dX11_image_56 (fv_I rfl) ?_
    refine gz_putI C 32 36 kn_X11 rfl kf_X11_297 (by decide) rfl rfl (tyX11_ok 36 (by decide)) rfl rfl dX11_image_59 (fun M59 => ?_)
    refine gz_aloadn C 0 rfl dX11_image_62 ?_
    refine gz_aloadn C 0 rfl dX11_image_63 ?_
    refine gz_get C 32 11 (.int (gI M59 32 11)) kn_X11 rfl kf_X11_118 (by decide) dX11_image_64 (fv_I rfl) ?_
    refine gz_putI C 32 37 kn_X11 rfl kf_X11_300 (by decide) rfl rfl (tyX11_ok 37 (by decide)) rfl rfl dX11_image_67 (fun M67 => ?_)
    refine gz_aloadn C 0 rfl dX11_image_70 ?_
    refine gz_aloadn C 0 rfl dX11_image_71 ?_
    refine gz_get C 32 12 (.int (gI M67 32 12)) kn_X11 rfl kf_X11_121 (by decide) dX11_image_72 (fv_I rfl) ?_
    refine gz_putI C 32 38 kn_X11 rfl kf_X11_303 (by decide) rfl rfl (tyX11_ok 38 (by decide)) rfl rfl dX11_image_75 (fun M75 => ?_)
    refine gz_aloadn C 0 rfl dX11_image_78 ?_
    refine gz_aloadn C 0 rfl dX11_image_79 ?_
    refine gz_get C 32 13 (.int (gI M75 32 13)) kn_X11 rfl kf_X11_72 (by decide) dX11_image_80 (fv_I rfl) ?_
    refine gz_putI C 32 39 kn_X11 rfl kf_X11_306 (by decide) rfl rfl (tyX11_ok 39 (by decide)) rfl rfl dX11_image_83 (fun M83 => ?_)
    refine gz_aloadn C 0 rfl dX11_image_86 ?_
    refine gz_aloadn C 0 rfl dX11_image_87 ?_
    refine gz_get C 32 29 (.int (gI M83 32 29)) kn_X11 rfl kf_X11_130 (by decide) dX11_image_88 (fv_I rfl) ?_
    refine gz_putI C 32 40 kn_X11 rfl kf_X11_309 (by decide) rfl rfl (tyX11_ok 40 (by decide)) rfl rfl dX11_image_91 (fun M91 => ?_)
    refine gz_aloadn C 0 rfl dX11_image_94 ?_
    refine gz_aloadn C 0 rfl dX11_image_95 ?_
    refine gz_get C 32 32 (.int (gI M91 32 32)) kn_X11 rfl kf_X11_133 (by decide) dX11_image_96 (fv_I rfl) ?_
    refine gz_putI C 32 41 kn_X11 rfl kf_X11_312 (by decide) rfl rfl (tyX11_ok 41 (by decide)) rfl rfl dX11_image_99 (fun M99 => ?_)
    refine gz_aloadn C 0 rfl dX11_image_102 ?_
    refine gz_aloadn C 0 rfl dX11_image_103 ?_
    refine gz_get C 32 17 (.int (gI M99 32 17)) kn_X11 rfl kf_X11_124 (by decide) dX11_image_104 (fv_I rfl) ?_
    refine gz_putI C 32 42 kn_X11 rfl kf_X11_315 (by decide) rfl rfl (tyX11_ok 42 (by decide)) rfl rfl dX11_image_107 (fun M107 => ?_)
    refine gz_aloadn C 0 rfl dX11_image_110 ?_
    refine gz_aloadn C 0 rfl dX11_image_111 ?_
    refine gz_get C 32 22 (.int (gI M107 32 22)) kn_X11 rfl kf_X11_127 (by decide) dX11_image_112 (fv_I rfl) ?_
    refine gz_putI C 32 43 kn_X11 rfl kf_X11_318 (by decide) rfl rfl (tyX11_ok 43 (by decide)) rfl rfl dX11_image_115 (fun M115 => ?_)
    refine gz_aloadn C 0 rfl dX11_image_118 ?_
    refine gz_aloadn C 0 rfl dX11_image_119 ?_
    refine gz_get C 32 14 (.int (gI M115 32 14)) kn_X11 rfl kf_X11_136 (by decide) dX11_image_120 (fv_I rfl) ?_
    refine gz_putI C 32 35 kn_X11 rfl kf_X11_68 (by decide) rfl rfl (tyX11_ok 35 (by decide)) rfl rfl dX11_image_123 (fun M123 => ?_)
    refine gz_aloadn C 0 rfl dX11_image_126 ?_
    refine gz_get C 32 10 (.int (gI M123 32 10)) kn_X11 rfl kf_X11_115 (by decide) dX11_image_127 (fv_I rfl) ?_
    exact gz_iret C dX11_image_130
  · refine gz_bipush (v := (-103)) C dX11_image_7 (by decide) ?_
    exact gz_iret C dX11_image_9
set_option maxRecDepth 100000 in
set_option maxHeartbeats 4000000 in
theorem ct_X11_restore (l : Launch) (w : Wd) (M : Mm) : CT l yX11_restore cX11_restore 1 (some .int) rm_X11_restore w (qI w) [.ref (w.1 32)] (sp_X11_restore M) M := by
  refine ct_of RX11 [(0, .ref (w.1 32))] rfl (Nat.le_of_ble_eq_true rfl) (by decide) rfl rfl rfl (fun x C => ?_)
  unfold sp_X11_restore
  refine gz_aloadn C 0 rfl dX11_restore_0 ?_
  refine gz_get C 32 35 (.int (gI M 32 35)) kn_X11 rfl kf_X11_68 (by decide) dX11_restore_1 (fv_I rfl) ?_
  refine gz_aloadn C 0 rfl dX11_restore_4 ?_
  refine gz_get C 32 14 (.int (gI M 32 14)) kn_X11 rfl kf_X11_136 (by decide) dX11_restore_5 (fv_I rfl) ?_
  refine gz_icmpne C 33 dX11_restore_8 (by decide) ?_ ?_
  · refine gz_aloadn C 0 rfl dX11_restore_11 ?_
    refine gz_get C 32 42 (.int (gI M 32 42)) kn_X11 rfl kf_X11_315 (by decide) dX11_restore_12 (fv_I rfl) ?_
    refine gz_aloadn C 0 rfl dX11_restore_15 ?_
    refine gz_get C 32 17 (.int (gI M 32 17)) kn_X11 rfl kf_X11_124 (by decide) dX11_restore_16 (fv_I rfl) ?_
    refine gz_icmpne C 33 dX11_restore_19 (by decide) ?_ ?_
    · refine gz_aloadn C 0 rfl dX11_restore_22 ?_
      refine gz_get C 32 43 (.int (gI M 32 43)) kn_X11 rfl kf_X11_318 (by decide) dX11_restore_23 (fv_I rfl) ?_
      refine gz_aloadn C 0 rfl dX11_restore_26 ?_
      refine gz_get C 32 22 (.int (gI M 32 22)) kn_X11 rfl kf_X11_127 (by decide) dX11_restore_27 (fv_I rfl) ?_
      refine gz_icmpeq C 36 dX11_restore_30 (by decide) ?_ ?_
      · refine gz_aloadn C 0 rfl dX11_restore_36 ?_
        refine gz_get C 32 44 (.ref (w.1 48)) kn_X11 rfl kf_X11_56 (by decide) dX11_restore_37 (fv_R rfl rfl) ?_
        refine gz_aloadn C 0 rfl dX11_restore_40 ?_
        refine gz_get C 32 18 (.ref (w.1 38)) kn_X11 rfl kf_X11_25 (by decide) dX11_restore_41 (fv_R rfl rfl) ?_
        refine gz_callSV [.ref (w.1 48), .ref (w.1 38)] [] C (ct_X11_copy x.2.1 w 48 rfl 38 rfl M) cal_X11_copy (Or.inl km_X11_293) ⟨rfl, rfl⟩ ⟨by decide, by decide⟩ rfl rfl (Nat.le_of_ble_eq_true rfl) dX11_restore_44 (fun _ M44 => ?_)
        refine gz_aloadn C 0 rfl dX11_restore_47 ?_
        refine gz_get C 32 45 (.ref (w.1 49)) kn_X11 rfl kf_X11_59 (by decide) dX11_restore_48 (fv_R rfl rfl) ?_
        refine gz_aloadn C 0 rfl dX11_restore_51 ?_
        refine gz_get C 32 23 (.ref (w.1 41)) kn_X11 rfl kf_X11_35 (by decide) dX11_restore_52 (fv_R rfl rfl) ?_
        refine gz_callSV [.ref (w.1 49), .ref (w.1 41)] [] C (ct_X11_copy x.2.1 w 49 rfl 41 rfl M44) cal_X11_copy (Or.inl km_X11_293) ⟨rfl, rfl⟩ ⟨by decide, by decide⟩ rfl rfl (Nat.le_of_ble_eq_true rfl) dX11_restore_55 (fun _ M55 => ?_)
        refine gz_aloadn C 0 rfl dX11_restore_58 ?_
        refine gz_get C 32 46 (.ref (w.1 50)) kn_X11 rfl kf_X11_62 (by decide) dX11_restore_59 (fv_R rfl rfl) ?_
        refine gz_aloadn C 0 rfl dX11_restore_62 ?_
        refine gz_get C 32 30 (.ref (w.1 45)) kn_X11 rfl kf_X11_47 (by decide) dX11_restore_63 (fv_R rfl rfl) ?_
        refine gz_callSV [.ref (w.1 50), .ref (w.1 45)] [] C (ct_X11_copy x.2.1 w 50 rfl 45 rfl M55) cal_X11_copy (Or.inl km_X11_293) ⟨rfl, rfl⟩ ⟨by decide, by decide⟩ rfl rfl (Nat.le_of_ble_eq_true rfl) dX11_restore_66 (fun _ M66 => ?_)
        refine gz_aloadn C 0 rfl dX11_restore_69 ?_
        refine gz_get C 32 47 (.ref (w.1 51)) kn_X11 rfl kf_X11_65 (by decide) dX11_restore_70 (fv_R rfl rfl) ?_
        refine gz_aloadn C 0 rfl dX11_restore_73 ?_
        refine gz_get C 32 33 (.ref (w.1 47)) kn_X11 rfl kf_X11_53 (by decide) dX11_restore_74 (fv_R rfl rfl) ?_
        refine gz_callSV [.ref (w.1 51), .ref (w.1 47)] [] C (ct_X11_copy x.2.1 w 51 rfl 47 rfl M66) cal_X11_copy (Or.inl km_X11_293) ⟨rfl, rfl⟩ ⟨by decide, by decide⟩ rfl rfl (Nat.le_of_ble_eq_true rfl) dX11_restore_77 (fun _ M77 => ?_)
        refine gz_aloadn C 0 rfl dX11_restore_80 ?_
        refine gz_aloadn C 0 rfl dX11_restore_81 ?_
        refine gz_get C 32 36 (.int (gI M77 32 36)) kn_X11 rfl kf_X11_297 (by decide) dX11_restore_82 (fv_I rfl) ?_
        refine gz_putI C 32 10 kn_X11 rfl kf_X11_115 (by decide) rfl rfl (tyX11_ok 10 (by decide)) rfl rfl dX11_restore_85 (fun M85 => ?_)
        refine gz_aloadn C 0 rfl dX11_restore_88 ?_
        refine gz_aloadn C 0 rfl dX11_restore_89 ?_
        refine gz_get C 32 37 (.int (gI M85 32 37)) kn_X11 rfl kf_X11_300 (by decide) dX11_restore_90 (fv_I rfl) ?_
        refine gz_putI C 32 11 kn_X11 rfl kf_X11_118 (by decide) rfl rfl (tyX11_ok 11 (by decide)) rfl rfl dX11_restore_93 (fun M93 => ?_)
        refine gz_aloadn C 0 rfl dX11_restore_96 ?_
        refine gz_aloadn C 0 rfl dX11_restore_97 ?_
        refine gz_get C 32 38 (.int (gI M93 32 38)) kn_X11 rfl kf_X11_303 (by decide) dX11_restore_98 (fv_I rfl) ?_
        refine gz_putI C 32 12 kn_X11 rfl kf_X11_121 (by decide) rfl rfl (tyX11_ok 12 (by decide)) rfl rfl dX11_restore_101 (fun M101 => ?_)
        refine gz_aloadn C 0 rfl dX11_restore_104 ?_
        refine gz_aloadn C 0 rfl dX11_restore_105 ?_
        refine gz_get C 32 39 (.int (gI M101 32 39)) kn_X11 rfl kf_X11_306 (by decide) dX11_restore_106 (fv_I rfl) ?_
        refine gz_putI C 32 13 kn_X11 rfl kf_X11_72 (by decide) rfl rfl (tyX11_ok 13 (by decide)) rfl rfl dX11_restore_109 (fun M109 => ?_)
        refine gz_aloadn C 0 rfl dX11_restore_112 ?_
        refine gz_aloadn C 0 rfl dX11_restore_113 ?_
        refine gz_get C 32 40 (.int (gI M109 32 40)) kn_X11 rfl kf_X11_309 (by decide) dX11_restore_114 (fv_I rfl) ?_
        refine gz_putI C 32 29 kn_X11 rfl kf_X11_130 (by decide) rfl rfl (tyX11_ok 29 (by decide)) rfl rfl dX11_restore_117 (fun M117 => ?_)
        refine gz_aloadn C 0 rfl dX11_restore_120 ?_
        refine gz_aloadn C 0 rfl dX11_restore_121 ?_
        refine gz_get C 32 41 (.int (gI M117 32 41)) kn_X11 rfl kf_X11_312 (by decide) dX11_restore_122 (fv_I rfl) ?_
        refine gz_putI C 32 32 kn_X11 rfl kf_X11_133 (by decide) rfl rfl (tyX11_ok 32 (by decide)) rfl rfl dX11_restore_125 (fun M125 => ?_)
        refine gz_aloadn C 0 rfl dX11_restore_128 ?_
        refine gz_get C 32 10 (.int (gI M125 32 10)) kn_X11 rfl kf_X11_115 (by decide) dX11_restore_129 (fv_I rfl) ?_
        exact gz_iret C dX11_restore_132
      · refine gz_bipush (v := (-103)) C dX11_restore_33 (by decide) ?_
        exact gz_iret C dX11_restore_35
    · refine gz_bipush (v := (-103)) C dX11_restore_33 (by decide) ?_
      exact gz_iret C dX11_restore_35
  · refine gz_bipush (v := (-103)) C dX11_restore_33 (by decide) ?_
    exact gz_iret C dX11_restore_35
set_option maxRecDepth 100000 in
set_option maxHeartbeats 4000000 in
theorem ct_X11_countOf (l : Launch) (w : Wd) (p1 : Int32) (M : Mm) : CT l yX11_countOf cX11_countOf 2 (some .int) rm_X11_countOf w (qI w) [.ref (w.1 32), .int p1] (sp_X11_countOf p1 M) M := by
  refine ct_of RX11 [(0, .ref (w.1 32)), (1, .int p1)] rfl (Nat.le_of_ble_eq_true rfl) (by decide) rfl rfl rfl (fun x C => ?_)
  unfold sp_X11_countOf
  refine gz_iloadn C 1 rfl dX11_countOf_0 ?_
  refine gz_if (fun hs0 => ?_) (fun hs0 => ?_)
  · refine gz_tabIn (off := 71) C (0) 72 dX11_countOf_1 hs0 (by decide) (by decide) (by decide) (by decide) ?_
    refine gz_aloadn C 0 rfl dX11_countOf_72 ?_
    refine gz_get C 32 17 (.int (gI M 32 17)) kn_X11 rfl kf_X11_124 (by decide) dX11_countOf_73 (fv_I rfl) ?_
    exact gz_iret C dX11_countOf_76
  refine gz_if (fun hs1 => ?_) (fun hs1 => ?_)
  · refine gz_tabIn (off := 76) C (1) 77 dX11_countOf_1 hs1 (by decide) (by decide) (by decide) (by decide) ?_
    refine gz_aloadn C 0 rfl dX11_countOf_77 ?_
    refine gz_get C 32 17 (.int (gI M 32 17)) kn_X11 rfl kf_X11_124 (by decide) dX11_countOf_78 (fv_I rfl) ?_
    refine gz_aloadn C 0 rfl dX11_countOf_81 ?_
    refine gz_callVI 32 [] [.int (gI M 32 17)] C kn_X11 rfl rfl (ct_X11_leftBits x.2.1 w M) cal_X11_leftBits km_X11_192 ⟨rfl, rfl⟩ ⟨by decide, by decide⟩ rfl rfl (Nat.le_of_ble_eq_true rfl) dX11_countOf_82 (fun r82 M82 => ?_)
    refine gz_callSI [.int r82] [.int (gI M 32 17)] C (ct_X11_ones x.2.1 w r82 M82) cal_X11_ones (Or.inl km_X11_238) ⟨rfl, rfl⟩ ⟨by decide, by decide⟩ rfl rfl (Nat.le_of_ble_eq_true rfl) dX11_countOf_85 (fun r85 M85 => ?_)
    refine gz_isub C dX11_countOf_88 ?_
    exact gz_iret C dX11_countOf_89
  refine gz_if (fun hs2 => ?_) (fun hs2 => ?_)
  · refine gz_tabIn (off := 89) C (2) 90 dX11_countOf_1 hs2 (by decide) (by decide) (by decide) (by decide) ?_
    refine gz_aloadn C 0 rfl dX11_countOf_90 ?_
    refine gz_get C 32 22 (.int (gI M 32 22)) kn_X11 rfl kf_X11_127 (by decide) dX11_countOf_91 (fv_I rfl) ?_
    exact gz_iret C dX11_countOf_94
  refine gz_if (fun hs3 => ?_) (fun hs3 => ?_)
  · refine gz_tabIn (off := 94) C (3) 95 dX11_countOf_1 hs3 (by decide) (by decide) (by decide) (by decide) ?_
    refine gz_aloadn C 0 rfl dX11_countOf_95 ?_
    refine gz_callVI 32 [] [] C kn_X11 rfl rfl (ct_X11_overBits x.2.1 w M) cal_X11_overBits km_X11_216 ⟨rfl, rfl⟩ ⟨by decide, by decide⟩ rfl rfl (Nat.le_of_ble_eq_true rfl) dX11_countOf_96 (fun r96 M96 => ?_)
    refine gz_callSI [.int r96] [] C (ct_X11_ones x.2.1 w r96 M96) cal_X11_ones (Or.inl km_X11_238) ⟨rfl, rfl⟩ ⟨by decide, by decide⟩ rfl rfl (Nat.le_of_ble_eq_true rfl) dX11_countOf_99 (fun r99 M99 => ?_)
    exact gz_iret C dX11_countOf_102
  refine gz_if (fun hs4 => ?_) (fun hs4 => ?_)
  · refine gz_tabIn (off := 102) C (4) 103 dX11_countOf_1 hs4 (by decide) (by decide) (by decide) (by decide) ?_
    refine gz_aloadn C 0 rfl dX11_countOf_103 ?_
    refine gz_get C 32 10 (.int (gI M 32 10)) kn_X11 rfl kf_X11_115 (by decide) dX11_countOf_104 (fv_I rfl) ?_
    exact gz_iret C dX11_countOf_107
  refine gz_if (fun hs5 => ?_) (fun hs5 => ?_)
  · refine gz_tabIn (off := 107) C (5) 108 dX11_countOf_1 hs5 (by decide) (by decide) (by decide) (by decide) ?_
    refine gz_aloadn C 0 rfl dX11_countOf_108 ?_
    refine gz_get C 32 11 (.int (gI M 32 11)) kn_X11 rfl kf_X11_118 (by decide) dX11_countOf_109 (fv_I rfl) ?_
    exact gz_iret C dX11_countOf_112
  refine gz_if (fun hs6 => ?_) (fun hs6 => ?_)
  · refine gz_tabIn (off := 112) C (6) 113 dX11_countOf_1 hs6 (by decide) (by decide) (by decide) (by decide) ?_
    refine gz_aloadn C 0 rfl dX11_countOf_113 ?_
    refine gz_get C 32 12 (.int (gI M 32 12)) kn_X11 rfl kf_X11_121 (by decide) dX11_countOf_114 (fv_I rfl) ?_
    exact gz_iret C dX11_countOf_117
  refine gz_if (fun hs7 => ?_) (fun hs7 => ?_)
  · refine gz_tabIn (off := 117) C (7) 118 dX11_countOf_1 hs7 (by decide) (by decide) (by decide) (by decide) ?_
    refine gz_aloadn C 0 rfl dX11_countOf_118 ?_
    refine gz_get C 32 7 (.int (gI M 32 7)) kn_X11 rfl kf_X11_106 (by decide) dX11_countOf_119 (fv_I rfl) ?_
    exact gz_iret C dX11_countOf_122
  refine gz_if (fun hs8 => ?_) (fun hs8 => ?_)
  · refine gz_tabIn (off := 122) C (8) 123 dX11_countOf_1 hs8 (by decide) (by decide) (by decide) (by decide) ?_
    refine gz_aloadn C 0 rfl dX11_countOf_123 ?_
    refine gz_get C 32 13 (.int (gI M 32 13)) kn_X11 rfl kf_X11_72 (by decide) dX11_countOf_124 (fv_I rfl) ?_
    exact gz_iret C dX11_countOf_127
  refine gz_if (fun hs9 => ?_) (fun hs9 => ?_)
  · refine gz_tabIn (off := 127) C (9) 128 dX11_countOf_1 hs9 (by decide) (by decide) (by decide) (by decide) ?_
    refine gz_aloadn C 0 rfl dX11_countOf_128 ?_
    refine gz_get C 32 29 (.int (gI M 32 29)) kn_X11 rfl kf_X11_130 (by decide) dX11_countOf_129 (fv_I rfl) ?_
    exact gz_iret C dX11_countOf_132
  refine gz_if (fun hs10 => ?_) (fun hs10 => ?_)
  · refine gz_tabIn (off := 132) C (10) 133 dX11_countOf_1 hs10 (by decide) (by decide) (by decide) (by decide) ?_
    refine gz_aloadn C 0 rfl dX11_countOf_133 ?_
    refine gz_get C 32 32 (.int (gI M 32 32)) kn_X11 rfl kf_X11_133 (by decide) dX11_countOf_134 (fv_I rfl) ?_
    exact gz_iret C dX11_countOf_137
  refine gz_if (fun hs11 => ?_) (fun hs11 => ?_)
  · refine gz_tabIn (off := 137) C (11) 138 dX11_countOf_1 hs11 (by decide) (by decide) (by decide) (by decide) ?_
    refine gz_aloadn C 0 rfl dX11_countOf_138 ?_
    refine gz_get C 32 1 (.int (gI M 32 1)) kn_X11 rfl kf_X11_81 (by decide) dX11_countOf_139 (fv_I rfl) ?_
    exact gz_iret C dX11_countOf_142
  refine gz_if (fun hs12 => ?_) (fun hs12 => ?_)
  · refine gz_tabIn (off := 142) C (12) 143 dX11_countOf_1 hs12 (by decide) (by decide) (by decide) (by decide) ?_
    refine gz_aloadn C 0 rfl dX11_countOf_143 ?_
    refine gz_get C 32 14 (.int (gI M 32 14)) kn_X11 rfl kf_X11_136 (by decide) dX11_countOf_144 (fv_I rfl) ?_
    exact gz_iret C dX11_countOf_147
  refine gz_if (fun hs13 => ?_) (fun hs13 => ?_)
  · refine gz_tabIn (off := 147) C (13) 148 dX11_countOf_1 hs13 (by decide) (by decide) (by decide) (by decide) ?_
    refine gz_aloadn C 0 rfl dX11_countOf_148 ?_
    refine gz_get C 32 25 (.int (gI M 32 25)) kn_X11 rfl kf_X11_251 (by decide) dX11_countOf_149 (fv_I rfl) ?_
    exact gz_iret C dX11_countOf_152
  refine gz_tabOut C 153 dX11_countOf_1 (by have e0 := lv_neT (a := 0) hs0 (by decide); have e1 := lv_neT (a := 1) hs1 (by decide); have e2 := lv_neT (a := 2) hs2 (by decide); have e3 := lv_neT (a := 3) hs3 (by decide); have e4 := lv_neT (a := 4) hs4 (by decide); have e5 := lv_neT (a := 5) hs5 (by decide); have e6 := lv_neT (a := 6) hs6 (by decide); have e7 := lv_neT (a := 7) hs7 (by decide); have e8 := lv_neT (a := 8) hs8 (by decide); have e9 := lv_neT (a := 9) hs9 (by decide); have e10 := lv_neT (a := 10) hs10 (by decide); have e11 := lv_neT (a := 11) hs11 (by decide); have e12 := lv_neT (a := 12) hs12 (by decide); have e13 := lv_neT (a := 13) hs13 (by decide); omega) (by decide) ?_
  refine gz_bipush (v := (-102)) C dX11_countOf_153 (by decide) ?_
  exact gz_iret C dX11_countOf_155
set_option maxRecDepth 100000 in
set_option maxHeartbeats 4000000 in
theorem ct_X11_count (l : Launch) (w : Wd) (p1 : Int32) (M : Mm) : CT l yX11_count cX11_count 2 (some .int) rm_X11_count w (qI w) [.ref (w.1 32), .int p1] (sp_X11_count p1 M) M := by
  refine ct_of RX11 [(0, .ref (w.1 32)), (1, .int p1)] rfl (Nat.le_of_ble_eq_true rfl) (by decide) rfl rfl rfl (fun x C => ?_)
  unfold sp_X11_count
  refine gz_aloadn C 0 rfl dX11_count_0 ?_
  refine gz_iloadn C 1 rfl dX11_count_1 ?_
  refine gz_callVI 32 [.int p1] [] C kn_X11 rfl rfl (ct_X11_countOf x.2.1 w p1 M) cal_X11_countOf km_X11_321 ⟨rfl, rfl⟩ ⟨by decide, by decide⟩ rfl rfl (Nat.le_of_ble_eq_true rfl) dX11_count_2 (fun r2 M2 => ?_)
  exact gz_iret C dX11_count_5
set_option maxRecDepth 100000 in
set_option maxHeartbeats 4000000 in
theorem ct_X11_say (l : Launch) (w : Wd) (p1 : Int64) (M : Mm) : CT l yX11_say cX11_say 3 none rm_X11_say w (qV w) [.ref (w.1 32), .long p1] (sp_X11_say p1 M) M := by
  refine ct_of RX11 [(0, .ref (w.1 32)), (1, .long p1)] rfl (Nat.le_of_ble_eq_true rfl) (by decide) rfl rfl rfl (fun x C => ?_)
  unfold sp_X11_say
  refine gz_aloadn C 0 rfl dX11_say_0 ?_
  refine gz_ldc2 C kl_X11_324 dX11_say_1 ?_
  refine gz_aloadn C 0 rfl dX11_say_4 ?_
  refine gz_get C 32 48 (.long (gJ M 32 48)) kn_X11 rfl kf_X11_326 (by decide) dX11_say_5 (fv_J rfl) ?_
  refine gz_lmul C dX11_say_8 ?_
  refine gz_lloadn C 1 rfl dX11_say_9 ?_
  refine gz_ladd C dX11_say_10 ?_
  refine gz_putJ C 32 48 kn_X11 rfl kf_X11_326 (by decide) rfl rfl (tyX11_ok 48 (by decide)) rfl rfl dX11_say_11 (fun M11 => ?_)
  exact gz_vret C dX11_say_14
set_option maxRecDepth 100000 in
set_option maxHeartbeats 4000000 in
theorem ct_X11_digest (l : Launch) (w : Wd) (M : Mm) : CT l yX11_digest cX11_digest 3 (some .long) rm_X11_digest w (qJ w) [.ref (w.1 32)] (sp_X11_digest M) M := by
  refine ct_of RX11 [(0, .ref (w.1 32))] rfl (Nat.le_of_ble_eq_true rfl) (by decide) rfl rfl rfl (fun x C => ?_)
  unfold sp_X11_digest
  refine gz_aloadn C 0 rfl dX11_digest_0 ?_
  refine gz_ldc2 C kl_X11_330 dX11_digest_1 ?_
  refine gz_putJ C 32 48 kn_X11 rfl kf_X11_326 (by decide) rfl rfl (tyX11_ok 48 (by decide)) rfl rfl dX11_digest_4 (fun M4 => ?_)
  refine gz_iconst (v := 0) C dX11_digest_7 (by decide) ?_
  refine gz_istoren C [(1, .int (0 : Int32)), (0, .ref (w.1 32))] dX11_digest_8 (by decide) rfl ?_
  refine gz_jn (fun K49 => ∀ (M_49 : Mm), G x w 3 (qJ w) (K49 M_49) M_49 [(0, .ref (w.1 32))] 49 []) ?_ ?_
  · intro M_49
    refine gz_iconst (v := 0) C dX11_digest_49 (by decide) ?_
    refine gz_istoren C [(1, .int (0 : Int32)), (0, .ref (w.1 32))] dX11_digest_50 (by decide) rfl ?_
    refine gz_jn (fun K101 => ∀ (M_101 : Mm), G x w 3 (qJ w) (K101 M_101) M_101 [(0, .ref (w.1 32))] 101 []) ?_ ?_
    · intro M_101
      refine gz_iconst (v := 0) C dX11_digest_101 (by decide) ?_
      refine gz_istoren C [(1, .int (0 : Int32)), (0, .ref (w.1 32))] dX11_digest_102 (by decide) rfl ?_
      refine gz_jn (fun K142 => ∀ (M_142 : Mm), G x w 3 (qJ w) (K142 M_142) M_142 [(0, .ref (w.1 32))] 142 []) ?_ ?_
      · intro M_142
        refine gz_aloadn C 0 rfl dX11_digest_142 ?_
        refine gz_aloadn C 0 rfl dX11_digest_143 ?_
        refine gz_callVI 32 [] [.ref (w.1 32)] C kn_X11 rfl rfl (ct_X11_layOrders x.2.1 w M_142) cal_X11_layOrders km_X11_270 ⟨rfl, rfl⟩ ⟨by decide, by decide⟩ rfl rfl (Nat.le_of_ble_eq_true rfl) dX11_digest_144 (fun r144 M144 => ?_)
        refine gz_i2l C dX11_digest_147 ?_
        refine gz_callVV 32 [.long (r144.toInt64)] [] C kn_X11 rfl rfl (ct_X11_say x.2.1 w (r144.toInt64) M144) cal_X11_say km_X11_332 ⟨rfl, rfl⟩ ⟨by decide, by decide⟩ rfl rfl (Nat.le_of_ble_eq_true rfl) dX11_digest_148 (fun _ M148 => ?_)
        refine gz_aloadn C 0 rfl dX11_digest_151 ?_
        refine gz_get C 32 32 (.int (gI M148 32 32)) kn_X11 rfl kf_X11_133 (by decide) dX11_digest_152 (fv_I rfl) ?_
        refine gz_jn (fun K182 => ∀ (M_182 : Mm), G x w 3 (qJ w) (K182 M_182) M_182 [(0, .ref (w.1 32))] 182 []) ?_ ?_
        · intro M_182
          refine gz_iconst (v := 0) C dX11_digest_182 (by decide) ?_
          refine gz_istoren C [(1, .int (0 : Int32)), (0, .ref (w.1 32))] dX11_digest_183 (by decide) rfl ?_
          refine gz_jn (fun K209 => ∀ (M_209 : Mm), G x w 3 (qJ w) (K209 M_209) M_209 [(0, .ref (w.1 32))] 209 []) ?_ ?_
          · intro M_209
            refine gz_iconst (v := 0) C dX11_digest_209 (by decide) ?_
            refine gz_istoren C [(1, .int (0 : Int32)), (0, .ref (w.1 32))] dX11_digest_210 (by decide) rfl ?_
            have hL211 : ∀ (n211 : Nat) (v1_211 : Int32) (M_211 : Mm), G x w 3 (qJ w) (sp_X11_digest_L211 n211 v1_211 M_211) M_211 [(0, .ref (w.1 32)), (1, .int v1_211)] 211 [] := by
              intro n211
              induction n211 with
              | zero => intros; exact gz_none
              | succ n211 ih211 =>
                intro v1_211 M_211
                rw [sp_X11_digest_L211]
                refine gz_iloadn C 1 rfl dX11_digest_211 ?_
                refine gz_bipush (v := (14)) C dX11_digest_212 (by decide) ?_
                refine gz_icmpge C 233 dX11_digest_214 (by decide) ?_ ?_
                · refine gz_aloadn C 0 rfl dX11_digest_217 ?_
                  refine gz_aloadn C 0 rfl dX11_digest_218 ?_
                  refine gz_iloadn C 1 rfl dX11_digest_219 ?_
                  refine gz_callVI 32 [.int v1_211] [.ref (w.1 32)] C kn_X11 rfl rfl (ct_X11_countOf x.2.1 w v1_211 M_211) cal_X11_countOf km_X11_321 ⟨rfl, rfl⟩ ⟨by decide, by decide⟩ rfl rfl (Nat.le_of_ble_eq_true rfl) dX11_digest_220 (fun r220 M220 => ?_)
                  refine gz_i2l C dX11_digest_223 ?_
                  refine gz_callVV 32 [.long (r220.toInt64)] [] C kn_X11 rfl rfl (ct_X11_say x.2.1 w (r220.toInt64) M220) cal_X11_say km_X11_332 ⟨rfl, rfl⟩ ⟨by decide, by decide⟩ rfl rfl (Nat.le_of_ble_eq_true rfl) dX11_digest_224 (fun _ M224 => ?_)
                  refine gz_iinc (v' := v1_211 + 1) C 1 [(1, .int (v1_211 + 1)), (0, .ref (w.1 32))] rfl dX11_digest_227 rfl (by decide) rfl ?_
                  refine gz_goto C 211 dX11_digest_230 (by decide) ?_
                  refine gz_sub [1, 0] rfl ?_
                  exact ih211 _ _
                · refine gz_aloadn C 0 rfl dX11_digest_233 ?_
                  refine gz_get C 32 48 (.long (gJ M_211 32 48)) kn_X11 rfl kf_X11_326 (by decide) dX11_digest_234 (fv_J rfl) ?_
                  exact gz_lret C dX11_digest_237
            refine gz_sub [1, 0] rfl ?_
            exact hL211 fu _ _
          · intro K209 hK209
            have hL184 : ∀ (n184 : Nat) (v1_184 : Int32) (M_184 : Mm), G x w 3 (qJ w) (sp_X11_digest_L184 K209 n184 v1_184 M_184) M_184 [(0, .ref (w.1 32)), (1, .int v1_184)] 184 [] := by
              intro n184
              induction n184 with
              | zero => intros; exact gz_none
              | succ n184 ih184 =>
                intro v1_184 M_184
                rw [sp_X11_digest_L184]
                refine gz_iloadn C 1 rfl dX11_digest_184 ?_
                refine gz_aloadn C 0 rfl dX11_digest_185 ?_
                refine gz_get C 32 1 (.int (gI M_184 32 1)) kn_X11 rfl kf_X11_81 (by decide) dX11_digest_186 (fv_I rfl) ?_
                refine gz_icmpge C 209 dX11_digest_189 (by decide) ?_ ?_
                · refine gz_aloadn C 0 rfl dX11_digest_192 ?_
                  refine gz_aloadn C 0 rfl dX11_digest_193 ?_
                  refine gz_get C 32 0 (.ref (w.1 33)) kn_X11 rfl kf_X11_7 (by decide) dX11_digest_194 (fv_R rfl rfl) ?_
                  refine gz_iloadn C 1 rfl dX11_digest_197 ?_
                  refine gz_iald C rfl dX11_digest_198 (fun a198 => ?_)
                  refine gz_i2l C dX11_digest_199 ?_
                  refine gz_callVV 32 [.long (a198.toInt64)] [] C kn_X11 rfl rfl (ct_X11_say x.2.1 w (a198.toInt64) M_184) cal_X11_say km_X11_332 ⟨rfl, rfl⟩ ⟨by decide, by decide⟩ rfl rfl (Nat.le_of_ble_eq_true rfl) dX11_digest_200 (fun _ M200 => ?_)
                  refine gz_iinc (v' := v1_184 + 1) C 1 [(1, .int (v1_184 + 1)), (0, .ref (w.1 32))] rfl dX11_digest_203 rfl (by decide) rfl ?_
                  refine gz_goto C 184 dX11_digest_206 (by decide) ?_
                  refine gz_sub [1, 0] rfl ?_
                  exact ih184 _ _
                · refine gz_sub [0] rfl ?_
                  exact hK209 _
            refine gz_sub [1, 0] rfl ?_
            exact hL184 fu _ _
        · intro K182 hK182
          refine gz_ifle C 182 dX11_digest_155 (by decide) ?_ ?_
          · refine gz_aloadn C 0 rfl dX11_digest_158 ?_
            refine gz_aloadn C 0 rfl dX11_digest_159 ?_
            refine gz_bipush (v := (10)) C dX11_digest_160 (by decide) ?_
            refine gz_iconst (v := 0) C dX11_digest_162 (by decide) ?_
            refine gz_callVI 32 [.int (10 : Int32), .int (0 : Int32)] [.ref (w.1 32)] C kn_X11 rfl rfl (ct_X11_stationsOf x.2.1 w (10 : Int32) (0 : Int32) M148) cal_X11_stationsOf km_X11_275 ⟨rfl, rfl⟩ ⟨by decide, by decide⟩ rfl rfl (Nat.le_of_ble_eq_true rfl) dX11_digest_163 (fun r163 M163 => ?_)
            refine gz_i2l C dX11_digest_166 ?_
            refine gz_callVV 32 [.long (r163.toInt64)] [] C kn_X11 rfl rfl (ct_X11_say x.2.1 w (r163.toInt64) M163) cal_X11_say km_X11_332 ⟨rfl, rfl⟩ ⟨by decide, by decide⟩ rfl rfl (Nat.le_of_ble_eq_true rfl) dX11_digest_167 (fun _ M167 => ?_)
            refine gz_aloadn C 0 rfl dX11_digest_170 ?_
            refine gz_aloadn C 0 rfl dX11_digest_171 ?_
            refine gz_bipush (v := (10)) C dX11_digest_172 (by decide) ?_
            refine gz_iconst (v := 1) C dX11_digest_174 (by decide) ?_
            refine gz_callVI 32 [.int (10 : Int32), .int (1 : Int32)] [.ref (w.1 32)] C kn_X11 rfl rfl (ct_X11_stationsOf x.2.1 w (10 : Int32) (1 : Int32) M167) cal_X11_stationsOf km_X11_275 ⟨rfl, rfl⟩ ⟨by decide, by decide⟩ rfl rfl (Nat.le_of_ble_eq_true rfl) dX11_digest_175 (fun r175 M175 => ?_)
            refine gz_i2l C dX11_digest_178 ?_
            refine gz_callVV 32 [.long (r175.toInt64)] [] C kn_X11 rfl rfl (ct_X11_say x.2.1 w (r175.toInt64) M175) cal_X11_say km_X11_332 ⟨rfl, rfl⟩ ⟨by decide, by decide⟩ rfl rfl (Nat.le_of_ble_eq_true rfl) dX11_digest_179 (fun _ M179 => ?_)
            exact hK182 _
          · exact hK182 _
      · intro K142 hK142
        have hL103 : ∀ (n103 : Nat) (v1_103 : Int32) (M_103 : Mm), G x w 3 (qJ w) (sp_X11_digest_L103 K142 n103 v1_103 M_103) M_103 [(0, .ref (w.1 32)), (1, .int v1_103)] 103 [] := by
          intro n103
          induction n103 with
          | zero => intros; exact gz_none
          | succ n103 ih103 =>
            intro v1_103 M_103
            rw [sp_X11_digest_L103]
            refine gz_iloadn C 1 rfl dX11_digest_103 ?_
            refine gz_aloadn C 0 rfl dX11_digest_104 ?_
            refine gz_get C 32 22 (.int (gI M_103 32 22)) kn_X11 rfl kf_X11_127 (by decide) dX11_digest_105 (fv_I rfl) ?_
            refine gz_icmpge C 142 dX11_digest_108 (by decide) ?_ ?_
            · refine gz_iconst (v := 0) C dX11_digest_111 (by decide) ?_
              refine gz_istoren C [(2, .int (0 : Int32)), (0, .ref (w.1 32)), (1, .int v1_103)] dX11_digest_112 (by decide) rfl ?_
              refine gz_jn (fun K136 => ∀ (M_136 : Mm), G x w 3 (qJ w) (K136 M_136) M_136 [(0, .ref (w.1 32)), (1, .int v1_103)] 136 []) ?_ ?_
              · intro M_136
                refine gz_iinc (v' := v1_103 + 1) C 1 [(1, .int (v1_103 + 1)), (0, .ref (w.1 32))] rfl dX11_digest_136 rfl (by decide) rfl ?_
                refine gz_goto C 103 dX11_digest_139 (by decide) ?_
                refine gz_sub [1, 0] rfl ?_
                exact ih103 _ _
              · intro K136 hK136
                have hL113 : ∀ (n113 : Nat) (v2_113 : Int32) (M_113 : Mm), G x w 3 (qJ w) (sp_X11_digest_L113 v1_103 K136 n113 v2_113 M_113) M_113 [(0, .ref (w.1 32)), (1, .int v1_103), (2, .int v2_113)] 113 [] := by
                  intro n113
                  induction n113 with
                  | zero => intros; exact gz_none
                  | succ n113 ih113 =>
                    intro v2_113 M_113
                    rw [sp_X11_digest_L113]
                    refine gz_iloadn C 2 rfl dX11_digest_113 ?_
                    refine gz_bipush (v := (7)) C dX11_digest_114 (by decide) ?_
                    refine gz_icmpge C 136 dX11_digest_116 (by decide) ?_ ?_
                    · refine gz_aloadn C 0 rfl dX11_digest_119 ?_
                      refine gz_aloadn C 0 rfl dX11_digest_120 ?_
                      refine gz_iloadn C 1 rfl dX11_digest_121 ?_
                      refine gz_iloadn C 2 rfl dX11_digest_122 ?_
                      refine gz_callVI 32 [.int v1_103, .int v2_113] [.ref (w.1 32)] C kn_X11 rfl rfl (ct_X11_tellMan x.2.1 w v1_103 v2_113 M_113) cal_X11_tellMan km_X11_231 ⟨rfl, rfl⟩ ⟨by decide, by decide⟩ rfl rfl (Nat.le_of_ble_eq_true rfl) dX11_digest_123 (fun r123 M123 => ?_)
                      refine gz_i2l C dX11_digest_126 ?_
                      refine gz_callVV 32 [.long (r123.toInt64)] [] C kn_X11 rfl rfl (ct_X11_say x.2.1 w (r123.toInt64) M123) cal_X11_say km_X11_332 ⟨rfl, rfl⟩ ⟨by decide, by decide⟩ rfl rfl (Nat.le_of_ble_eq_true rfl) dX11_digest_127 (fun _ M127 => ?_)
                      refine gz_iinc (v' := v2_113 + 1) C 2 [(2, .int (v2_113 + 1)), (0, .ref (w.1 32)), (1, .int v1_103)] rfl dX11_digest_130 rfl (by decide) rfl ?_
                      refine gz_goto C 113 dX11_digest_133 (by decide) ?_
                      refine gz_sub [1, 2, 0] rfl ?_
                      exact ih113 _ _
                    · refine gz_sub [0, 1] rfl ?_
                      exact hK136 _
                refine gz_sub [1, 2, 0] rfl ?_
                exact hL113 fu _ _
            · refine gz_sub [0] rfl ?_
              exact hK142 _
        refine gz_sub [1, 0] rfl ?_
        exact hL103 fu _ _
    · intro K101 hK101
      have hL51 : ∀ (n51 : Nat) (v1_51 : Int32) (M_51 : Mm), G x w 3 (qJ w) (sp_X11_digest_L51 K101 n51 v1_51 M_51) M_51 [(0, .ref (w.1 32)), (1, .int v1_51)] 51 [] := by
        intro n51
        induction n51 with
        | zero => intros; exact gz_none
        | succ n51 ih51 =>
          intro v1_51 M_51
          rw [sp_X11_digest_L51]
          refine gz_iloadn C 1 rfl dX11_digest_51 ?_
          refine gz_aloadn C 0 rfl dX11_digest_52 ?_
          refine gz_get C 32 17 (.int (gI M_51 32 17)) kn_X11 rfl kf_X11_124 (by decide) dX11_digest_53 (fv_I rfl) ?_
          refine gz_icmpge C 101 dX11_digest_56 (by decide) ?_ ?_
          · refine gz_aloadn C 0 rfl dX11_digest_59 ?_
            refine gz_aloadn C 0 rfl dX11_digest_60 ?_
            refine gz_iloadn C 1 rfl dX11_digest_61 ?_
            refine gz_iconst (v := 0) C dX11_digest_62 (by decide) ?_
            refine gz_callVI 32 [.int v1_51, .int (0 : Int32)] [.ref (w.1 32)] C kn_X11 rfl rfl (ct_X11_hitTenths x.2.1 w v1_51 (0 : Int32) M_51) cal_X11_hitTenths km_X11_175 ⟨rfl, rfl⟩ ⟨by decide, by decide⟩ rfl rfl (Nat.le_of_ble_eq_true rfl) dX11_digest_63 (fun r63 M63 => ?_)
            refine gz_i2l C dX11_digest_66 ?_
            refine gz_ldc2 C kl_X11_141 dX11_digest_67 ?_
            refine gz_iconst (v := 0) C dX11_digest_70 (by decide) ?_
            refine gz_callSJ [.long (r63.toInt64), .long (10 : Int64), .int (0 : Int32)] [.ref (w.1 32)] C (ct_X11_term x.2.1 w (r63.toInt64) (10 : Int64) (0 : Int32) M63) cal_X11_term (Or.inl km_X11_179) ⟨rfl, rfl⟩ ⟨by decide, by decide⟩ rfl rfl (Nat.le_of_ble_eq_true rfl) dX11_digest_71 (fun r71 M71 => ?_)
            refine gz_callVV 32 [.long r71] [] C kn_X11 rfl rfl (ct_X11_say x.2.1 w r71 M71) cal_X11_say km_X11_332 ⟨rfl, rfl⟩ ⟨by decide, by decide⟩ rfl rfl (Nat.le_of_ble_eq_true rfl) dX11_digest_74 (fun _ M74 => ?_)
            refine gz_aloadn C 0 rfl dX11_digest_77 ?_
            refine gz_aloadn C 0 rfl dX11_digest_78 ?_
            refine gz_iloadn C 1 rfl dX11_digest_79 ?_
            refine gz_iconst (v := 0) C dX11_digest_80 (by decide) ?_
            refine gz_callVI 32 [.int v1_51, .int (0 : Int32)] [.ref (w.1 32)] C kn_X11 rfl rfl (ct_X11_hitTenths x.2.1 w v1_51 (0 : Int32) M74) cal_X11_hitTenths km_X11_175 ⟨rfl, rfl⟩ ⟨by decide, by decide⟩ rfl rfl (Nat.le_of_ble_eq_true rfl) dX11_digest_81 (fun r81 M81 => ?_)
            refine gz_i2l C dX11_digest_84 ?_
            refine gz_ldc2 C kl_X11_141 dX11_digest_85 ?_
            refine gz_iconst (v := 1) C dX11_digest_88 (by decide) ?_
            refine gz_callSJ [.long (r81.toInt64), .long (10 : Int64), .int (1 : Int32)] [.ref (w.1 32)] C (ct_X11_term x.2.1 w (r81.toInt64) (10 : Int64) (1 : Int32) M81) cal_X11_term (Or.inl km_X11_179) ⟨rfl, rfl⟩ ⟨by decide, by decide⟩ rfl rfl (Nat.le_of_ble_eq_true rfl) dX11_digest_89 (fun r89 M89 => ?_)
            refine gz_callVV 32 [.long r89] [] C kn_X11 rfl rfl (ct_X11_say x.2.1 w r89 M89) cal_X11_say km_X11_332 ⟨rfl, rfl⟩ ⟨by decide, by decide⟩ rfl rfl (Nat.le_of_ble_eq_true rfl) dX11_digest_92 (fun _ M92 => ?_)
            refine gz_iinc (v' := v1_51 + 1) C 1 [(1, .int (v1_51 + 1)), (0, .ref (w.1 32))] rfl dX11_digest_95 rfl (by decide) rfl ?_
            refine gz_goto C 51 dX11_digest_98 (by decide) ?_
            refine gz_sub [1, 0] rfl ?_
            exact ih51 _ _
          · refine gz_sub [0] rfl ?_
            exact hK101 _
      refine gz_sub [1, 0] rfl ?_
      exact hL51 fu _ _
  · intro K49 hK49
    have hL9 : ∀ (n9 : Nat) (v1_9 : Int32) (M_9 : Mm), G x w 3 (qJ w) (sp_X11_digest_L9 K49 n9 v1_9 M_9) M_9 [(0, .ref (w.1 32)), (1, .int v1_9)] 9 [] := by
      intro n9
      induction n9 with
      | zero => intros; exact gz_none
      | succ n9 ih9 =>
        intro v1_9 M_9
        rw [sp_X11_digest_L9]
        refine gz_iloadn C 1 rfl dX11_digest_9 ?_
        refine gz_bipush (v := (20)) C dX11_digest_10 (by decide) ?_
        refine gz_icmpge C 49 dX11_digest_12 (by decide) ?_ ?_
        · refine gz_aloadn C 0 rfl dX11_digest_15 ?_
          refine gz_callVI 32 [] [] C kn_X11 rfl rfl (ct_X11_lacks x.2.1 w M_9) cal_X11_lacks km_X11_145 ⟨rfl, rfl⟩ ⟨by decide, by decide⟩ rfl rfl (Nat.le_of_ble_eq_true rfl) dX11_digest_16 (fun r16 M16 => ?_)
          refine gz_ifne C 49 dX11_digest_19 (by decide) ?_ ?_
          · refine gz_iloadn C 1 rfl dX11_digest_22 ?_
            refine gz_iconst (v := 5) C dX11_digest_23 (by decide) ?_
            refine gz_jn (fun K33 => G x w 3 (qJ w) K33 M16 [(0, .ref (w.1 32)), (1, .int v1_9)] 33 []) ?_ ?_
            · refine gz_aloadn C 0 rfl dX11_digest_33 ?_
              refine gz_aloadn C 0 rfl dX11_digest_34 ?_
              refine gz_iloadn C 1 rfl dX11_digest_35 ?_
              refine gz_callVI 32 [.int v1_9] [.ref (w.1 32)] C kn_X11 rfl rfl (ct_X11_tellSea x.2.1 w v1_9 M16) cal_X11_tellSea km_X11_149 ⟨rfl, rfl⟩ ⟨by decide, by decide⟩ rfl rfl (Nat.le_of_ble_eq_true rfl) dX11_digest_36 (fun r36 M36 => ?_)
              refine gz_i2l C dX11_digest_39 ?_
              refine gz_callVV 32 [.long (r36.toInt64)] [] C kn_X11 rfl rfl (ct_X11_say x.2.1 w (r36.toInt64) M36) cal_X11_say km_X11_332 ⟨rfl, rfl⟩ ⟨by decide, by decide⟩ rfl rfl (Nat.le_of_ble_eq_true rfl) dX11_digest_40 (fun _ M40 => ?_)
              refine gz_iinc (v' := v1_9 + 1) C 1 [(1, .int (v1_9 + 1)), (0, .ref (w.1 32))] rfl dX11_digest_43 rfl (by decide) rfl ?_
              refine gz_goto C 9 dX11_digest_46 (by decide) ?_
              refine gz_sub [1, 0] rfl ?_
              exact ih9 _ _
            · intro K33 hK33
              refine gz_icmplt C 33 dX11_digest_24 (by decide) ?_ ?_
              · exact hK33
              · refine gz_iloadn C 1 rfl dX11_digest_27 ?_
                refine gz_bipush (v := (9)) C dX11_digest_28 (by decide) ?_
                refine gz_icmple C 43 dX11_digest_30 (by decide) ?_ ?_
                · exact hK33
                · refine gz_iinc (v' := v1_9 + 1) C 1 [(1, .int (v1_9 + 1)), (0, .ref (w.1 32))] rfl dX11_digest_43 rfl (by decide) rfl ?_
                  refine gz_goto C 9 dX11_digest_46 (by decide) ?_
                  refine gz_sub [1, 0] rfl ?_
                  exact ih9 _ _
          · refine gz_sub [0] rfl ?_
            exact hK49 _
        · refine gz_sub [0] rfl ?_
          exact hK49 _
    refine gz_sub [1, 0] rfl ?_
    exact hL9 fu _ _
