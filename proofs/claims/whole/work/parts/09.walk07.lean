set_option maxRecDepth 100000 in
set_option maxHeartbeats 4000000 in
theorem ct_X11_layLater (l : Launch) (w : Wd) (p1 : Int32) (M : Mm) : CT l yX11_layLater cX11_layLater 8 none rm_X11_layLater w (qV w) [.ref (w.1 32), .int p1] (sp_X11_layLater p1 M) M := by
  refine ct_of RX11 [(0, .ref (w.1 32)), (1, .int p1)] rfl (Nat.le_of_ble_eq_true rfl) (by decide) rfl rfl rfl (fun x C => ?_)
  unfold sp_X11_layLater
  refine gz_iconst (v := 0) C dX11_layLater_0 (by decide) ?_
  refine gz_istoren C [(2, .int (0 : Int32)), (0, .ref (w.1 32)), (1, .int p1)] dX11_layLater_1 (by decide) rfl ?_
  refine gz_jn (fun K21 => ∀ (M_21 : Mm), G x w 8 (qV w) (K21 M_21) M_21 [(0, .ref (w.1 32)), (1, .int p1)] 21 []) ?_ ?_
  · intro M_21
    refine gz_lconst (v := 1) C dX11_layLater_21 (by decide) ?_
    refine gz_lstoren C [(2, .long (1 : Int64)), (0, .ref (w.1 32)), (1, .int p1)] dX11_layLater_22 (by decide) rfl ?_
    refine gz_aloadn C 1 rfl dX11_layLater_23 ?_
    refine gz_callVI 32 [] [] C kn_X11 rfl rfl (ct_X11_stageNow x.2.1 w M_21) cal_X11_stageNow km_X11_161 ⟨rfl, rfl⟩ ⟨by decide, by decide⟩ rfl rfl (Nat.le_of_ble_eq_true rfl) dX11_layLater_24 (fun r24 M24 => ?_)
    refine gz_iconst (v := 1) C dX11_layLater_27 (by decide) ?_
    refine gz_iadd C dX11_layLater_28 ?_
    refine gz_blt (fun y29 => ?_)
    refine gz_istore C [(4, .int y29), (2, .long (1 : Int64)), (0, .ref (w.1 32)), (1, .int p1)] dX11_layLater_29 (by decide) rfl ?_
    refine gz_aloadn C 2 rfl dX11_layLater_31 ?_
    refine gz_callVI 32 [] [] C kn_X11 rfl rfl (ct_X11_stageNow x.2.1 w M24) cal_X11_stageNow km_X11_161 ⟨rfl, rfl⟩ ⟨by decide, by decide⟩ rfl rfl (Nat.le_of_ble_eq_true rfl) dX11_layLater_32 (fun r32 M32 => ?_)
    refine gz_iloadn C 3 rfl dX11_layLater_35 ?_
    refine gz_iadd C dX11_layLater_36 ?_
    refine gz_aloadn C 2 rfl dX11_layLater_37 ?_
    refine gz_get C 32 7 (.int (gI M32 32 7)) kn_X11 rfl kf_X11_106 (by decide) dX11_layLater_38 (fv_I rfl) ?_
    refine gz_jn (fun K57 => ∀ (t0_57 : Int32) (M_57 : Mm), G x w 8 (qV w) (K57 t0_57 M_57) M_57 [(0, .ref (w.1 32)), (1, .int p1), (2, .long (1 : Int64)), (4, .int y29)] 57 [.int t0_57]) ?_ ?_
    · intro t0_57 M_57
      refine gz_istore C [(5, .int t0_57), (0, .ref (w.1 32)), (1, .int p1), (2, .long (1 : Int64)), (4, .int y29)] dX11_layLater_57 (by decide) rfl ?_
      refine gz_iconst (v := 0) C dX11_layLater_59 (by decide) ?_
      refine gz_istore C [(6, .int (0 : Int32)), (5, .int t0_57), (0, .ref (w.1 32)), (1, .int p1), (2, .long (1 : Int64)), (4, .int y29)] dX11_layLater_60 (by decide) rfl ?_
      refine gz_jn (fun K88 => ∀ (v2_88 : Int64), G x w 8 (qV w) (K88 v2_88) M_57 [(0, .ref (w.1 32)), (2, .long v2_88), (4, .int y29), (5, .int t0_57)] 88 []) ?_ ?_
      · intro v2_88
        refine gz_iload C 3 rfl dX11_layLater_88 ?_
        refine gz_iconst (v := 1) C dX11_layLater_90 (by decide) ?_
        refine gz_isub C dX11_layLater_91 ?_
        refine gz_blt (fun y92 => ?_)
        refine gz_istore C [(6, .int y92), (0, .ref (w.1 32)), (2, .long v2_88), (4, .int y29), (5, .int t0_57)] dX11_layLater_92 (by decide) rfl ?_
        have hL94 : ∀ (n94 : Nat) (v2_94 : Int64) (v6_94 : Int32) (M_94 : Mm), G x w 8 (qV w) (sp_X11_layLater_L94 y29 n94 v2_94 v6_94 M_94) M_94 [(0, .ref (w.1 32)), (2, .long v2_94), (4, .int y29), (6, .int v6_94)] 94 [] := by
          intro n94
          induction n94 with
          | zero => intros; exact gz_none
          | succ n94 ih94 =>
            intro v2_94 v6_94 M_94
            rw [sp_X11_layLater_L94]
            refine gz_iload C 3 rfl dX11_layLater_94 ?_
            refine gz_iload C 2 rfl dX11_layLater_96 ?_
            refine gz_icmplt C 175 dX11_layLater_98 (by decide) ?_ ?_
            · exact gz_vret C dX11_layLater_175
            · refine gz_iconst (v := 0) C dX11_layLater_101 (by decide) ?_
              refine gz_istore C [(7, .int (0 : Int32)), (0, .ref (w.1 32)), (2, .long v2_94), (4, .int y29), (6, .int v6_94)] dX11_layLater_102 (by decide) rfl ?_
              refine gz_jn (fun K133 => ∀ (M_133 : Mm), G x w 8 (qV w) (K133 M_133) M_133 [(0, .ref (w.1 32)), (2, .long v2_94), (4, .int y29), (6, .int v6_94)] 133 []) ?_ ?_
              · intro M_133
                refine gz_iconst (v := 0) C dX11_layLater_133 (by decide) ?_
                refine gz_istore C [(7, .int (0 : Int32)), (0, .ref (w.1 32)), (2, .long v2_94), (4, .int y29), (6, .int v6_94)] dX11_layLater_134 (by decide) rfl ?_
                refine gz_jn (fun K163 => ∀ (M_163 : Mm), G x w 8 (qV w) (K163 M_163) M_163 [(0, .ref (w.1 32)), (2, .long v2_94), (4, .int y29), (6, .int v6_94)] 163 []) ?_ ?_
                · intro M_163
                  refine gz_lloadn C 1 rfl dX11_layLater_163 ?_
                  refine gz_ldc2 C kl_X11_186 dX11_layLater_164 ?_
                  refine gz_lmul C dX11_layLater_167 ?_
                  refine gz_bltJ (fun y168 => ?_)
                  refine gz_lstoren C [(2, .long y168), (0, .ref (w.1 32)), (4, .int y29), (6, .int v6_94)] dX11_layLater_168 (by decide) rfl ?_
                  refine gz_iinc (v' := v6_94 + (-1)) C 3 [(6, .int (v6_94 + (-1))), (2, .long y168), (0, .ref (w.1 32)), (4, .int y29)] rfl dX11_layLater_169 rfl (by decide) rfl ?_
                  refine gz_goto C 94 dX11_layLater_172 (by decide) ?_
                  refine gz_sub [2, 1, 3, 0] rfl ?_
                  exact ih94 _ _ _
                · intro K163 hK163
                  have hL136 : ∀ (n136 : Nat) (v7_136 : Int32) (M_136 : Mm), G x w 8 (qV w) (sp_X11_layLater_L136 K163 n136 v7_136 M_136) M_136 [(0, .ref (w.1 32)), (2, .long v2_94), (4, .int y29), (6, .int v6_94), (7, .int v7_136)] 136 [] := by
                    intro n136
                    induction n136 with
                    | zero => intros; exact gz_none
                    | succ n136 ih136 =>
                      intro v7_136 M_136
                      rw [sp_X11_layLater_L136]
                      refine gz_iload C 4 rfl dX11_layLater_136 ?_
                      refine gz_bipush (v := (64)) C dX11_layLater_138 (by decide) ?_
                      refine gz_icmpge C 163 dX11_layLater_140 (by decide) ?_ ?_
                      · refine gz_aloadn C 0 rfl dX11_layLater_143 ?_
                        refine gz_get C 32 19 (.ref (w.1 39)) kn_X11 rfl kf_X11_28 (by decide) dX11_layLater_144 (fv_R rfl rfl) ?_
                        refine gz_iload C 4 rfl dX11_layLater_147 ?_
                        refine gz_aloadn C 0 rfl dX11_layLater_149 ?_
                        refine gz_get C 32 20 (.ref (w.1 40)) kn_X11 rfl kf_X11_32 (by decide) dX11_layLater_150 (fv_R rfl rfl) ?_
                        refine gz_iload C 4 rfl dX11_layLater_153 ?_
                        refine gz_lald C rfl dX11_layLater_155 (fun a155 => ?_)
                        refine gz_last C rfl dX11_layLater_156 (fun M156 => ?_)
                        refine gz_iinc (v' := v7_136 + 1) C 4 [(7, .int (v7_136 + 1)), (0, .ref (w.1 32)), (2, .long v2_94), (4, .int y29), (6, .int v6_94)] rfl dX11_layLater_157 rfl (by decide) rfl ?_
                        refine gz_goto C 136 dX11_layLater_160 (by decide) ?_
                        refine gz_sub [1, 2, 3, 4, 0] rfl ?_
                        exact ih136 _ _
                      · refine gz_sub [0, 1, 2, 3] rfl ?_
                        exact hK163 _
                  refine gz_sub [1, 2, 3, 4, 0] rfl ?_
                  exact hL136 fu _ _
              · intro K133 hK133
                have hL104 : ∀ (n104 : Nat) (v7_104 : Int32) (M_104 : Mm), G x w 8 (qV w) (sp_X11_layLater_L104 v6_94 v2_94 K133 n104 v7_104 M_104) M_104 [(0, .ref (w.1 32)), (2, .long v2_94), (4, .int y29), (6, .int v6_94), (7, .int v7_104)] 104 [] := by
                  intro n104
                  induction n104 with
                  | zero => intros; exact gz_none
                  | succ n104 ih104 =>
                    intro v7_104 M_104
                    rw [sp_X11_layLater_L104]
                    refine gz_iload C 4 rfl dX11_layLater_104 ?_
                    refine gz_bipush (v := (64)) C dX11_layLater_106 (by decide) ?_
                    refine gz_icmpge C 133 dX11_layLater_108 (by decide) ?_ ?_
                    · refine gz_aloadn C 0 rfl dX11_layLater_111 ?_
                      refine gz_get C 32 20 (.ref (w.1 40)) kn_X11 rfl kf_X11_32 (by decide) dX11_layLater_112 (fv_R rfl rfl) ?_
                      refine gz_iload C 4 rfl dX11_layLater_115 ?_
                      refine gz_aloadn C 0 rfl dX11_layLater_117 ?_
                      refine gz_iload C 3 rfl dX11_layLater_118 ?_
                      refine gz_lloadn C 1 rfl dX11_layLater_120 ?_
                      refine gz_iload C 4 rfl dX11_layLater_121 ?_
                      refine gz_callVJ 32 [.int v6_94, .long v2_94, .int v7_104] [.int v7_104, .ref (w.1 40)] C kn_X11 rfl rfl (ct_X11_bestOf x.2.1 w v6_94 v2_94 v7_104 M_104) cal_X11_bestOf km_X11_188 ⟨rfl, rfl⟩ ⟨by decide, by decide⟩ rfl rfl (Nat.le_of_ble_eq_true rfl) dX11_layLater_123 (fun r123 M123 => ?_)
                      refine gz_last C rfl dX11_layLater_126 (fun M126 => ?_)
                      refine gz_iinc (v' := v7_104 + 1) C 4 [(7, .int (v7_104 + 1)), (0, .ref (w.1 32)), (2, .long v2_94), (4, .int y29), (6, .int v6_94)] rfl dX11_layLater_127 rfl (by decide) rfl ?_
                      refine gz_goto C 104 dX11_layLater_130 (by decide) ?_
                      refine gz_sub [1, 2, 3, 4, 0] rfl ?_
                      exact ih104 _ _
                    · refine gz_sub [0, 1, 2, 3] rfl ?_
                      exact hK133 _
                refine gz_sub [1, 2, 3, 4, 0] rfl ?_
                exact hL104 fu _ _
        refine gz_sub [1, 2, 3, 0] rfl ?_
        exact hL94 fu _ _ _
      · intro K88 hK88
        have hL62 : ∀ (n62 : Nat) (v2_62 : Int64) (v6_62 : Int32), G x w 8 (qV w) (sp_X11_layLater_L62 p1 t0_57 y29 K88 n62 v2_62 v6_62) M_57 [(0, .ref (w.1 32)), (1, .int p1), (2, .long v2_62), (4, .int y29), (5, .int t0_57), (6, .int v6_62)] 62 [] := by
          intro n62
          induction n62 with
          | zero => intros; exact gz_none
          | succ n62 ih62 =>
            intro v2_62 v6_62
            rw [sp_X11_layLater_L62]
            refine gz_iload C 5 rfl dX11_layLater_62 ?_
            refine gz_iloadn C 1 rfl dX11_layLater_64 ?_
            refine gz_iconst (v := 1) C dX11_layLater_65 (by decide) ?_
            refine gz_isub C dX11_layLater_66 ?_
            refine gz_iload C 4 rfl dX11_layLater_67 ?_
            refine gz_iload C 3 rfl dX11_layLater_69 ?_
            refine gz_isub C dX11_layLater_71 ?_
            refine gz_isub C dX11_layLater_72 ?_
            refine gz_icmpge C 88 dX11_layLater_73 (by decide) ?_ ?_
            · refine gz_lloadn C 2 rfl dX11_layLater_76 ?_
              refine gz_ldc2 C kl_X11_186 dX11_layLater_77 ?_
              refine gz_lmul C dX11_layLater_80 ?_
              refine gz_bltJ (fun y81 => ?_)
              refine gz_lstoren C [(2, .long y81), (0, .ref (w.1 32)), (1, .int p1), (4, .int y29), (5, .int t0_57), (6, .int v6_62)] dX11_layLater_81 (by decide) rfl ?_
              refine gz_iinc (v' := v6_62 + 1) C 5 [(6, .int (v6_62 + 1)), (2, .long y81), (0, .ref (w.1 32)), (1, .int p1), (4, .int y29), (5, .int t0_57)] rfl dX11_layLater_82 rfl (by decide) rfl ?_
              refine gz_goto C 62 dX11_layLater_85 (by decide) ?_
              refine gz_sub [2, 3, 1, 4, 5, 0] rfl ?_
              exact ih62 _ _
            · refine gz_sub [0, 2, 3, 4] rfl ?_
              exact hK88 _
        refine gz_sub [2, 3, 4, 5, 1, 0] rfl ?_
        exact hL62 fu _ _
    · intro K57 hK57
      refine gz_icmpge C 53 dX11_layLater_41 (by decide) ?_ ?_
      · refine gz_aloadn C 2 rfl dX11_layLater_44 ?_
        refine gz_callVI 32 [] [] C kn_X11 rfl rfl (ct_X11_stageNow x.2.1 w M32) cal_X11_stageNow km_X11_161 ⟨rfl, rfl⟩ ⟨by decide, by decide⟩ rfl rfl (Nat.le_of_ble_eq_true rfl) dX11_layLater_45 (fun r45 M45 => ?_)
        refine gz_iloadn C 3 rfl dX11_layLater_48 ?_
        refine gz_iadd C dX11_layLater_49 ?_
        refine gz_goto C 57 dX11_layLater_50 (by decide) ?_
        refine gz_sub [2, 3, 1, 0] rfl ?_
        exact hK57 _ _
      · refine gz_aloadn C 2 rfl dX11_layLater_53 ?_
        refine gz_get C 32 7 (.int (gI M32 32 7)) kn_X11 rfl kf_X11_106 (by decide) dX11_layLater_54 (fv_I rfl) ?_
        refine gz_sub [2, 3, 1, 0] rfl ?_
        exact hK57 _ _
  · intro K21 hK21
    have hL2 : ∀ (n2 : Nat) (v2_2 : Int32) (M_2 : Mm), G x w 8 (qV w) (sp_X11_layLater_L2 K21 n2 v2_2 M_2) M_2 [(0, .ref (w.1 32)), (1, .int p1), (2, .int v2_2)] 2 [] := by
      intro n2
      induction n2 with
      | zero => intros; exact gz_none
      | succ n2 ih2 =>
        intro v2_2 M_2
        rw [sp_X11_layLater_L2]
        refine gz_iloadn C 2 rfl dX11_layLater_2 ?_
        refine gz_bipush (v := (64)) C dX11_layLater_3 (by decide) ?_
        refine gz_icmpge C 21 dX11_layLater_5 (by decide) ?_ ?_
        · refine gz_aloadn C 0 rfl dX11_layLater_8 ?_
          refine gz_get C 32 19 (.ref (w.1 39)) kn_X11 rfl kf_X11_28 (by decide) dX11_layLater_9 (fv_R rfl rfl) ?_
          refine gz_iloadn C 2 rfl dX11_layLater_12 ?_
          refine gz_lconst (v := 0) C dX11_layLater_13 (by decide) ?_
          refine gz_last C rfl dX11_layLater_14 (fun M14 => ?_)
          refine gz_iinc (v' := v2_2 + 1) C 2 [(2, .int (v2_2 + 1)), (0, .ref (w.1 32)), (1, .int p1)] rfl dX11_layLater_15 rfl (by decide) rfl ?_
          refine gz_goto C 2 dX11_layLater_18 (by decide) ?_
          refine gz_sub [1, 2, 0] rfl ?_
          exact ih2 _ _
        · refine gz_sub [0, 1] rfl ?_
          exact hK21 _
    refine gz_sub [1, 2, 0] rfl ?_
    exact hL2 fu _ _
set_option maxRecDepth 100000 in
set_option maxHeartbeats 4000000 in
theorem ct_X11_which (l : Launch) (w : Wd) (p1 : Int32) (M : Mm) : CT l yX11_which cX11_which 4 (some .int) rm_X11_which w (qI w) [.ref (w.1 32), .int p1] (sp_X11_which p1 M) M := by
  refine ct_of RX11 [(0, .ref (w.1 32)), (1, .int p1)] rfl (Nat.le_of_ble_eq_true rfl) (by decide) rfl rfl rfl (fun x C => ?_)
  unfold sp_X11_which
  refine gz_iloadn C 1 rfl dX11_which_0 ?_
  refine gz_i2l C dX11_which_1 ?_
  refine gz_lconst (v := 1) C dX11_which_2 (by decide) ?_
  refine gz_ldc2 C kl_X11_139 dX11_which_3 ?_
  refine gz_callSI [.long (p1.toInt64), .long (1 : Int64), .long (4 : Int64)] [] C (ct_X11_in x.2.1 w (p1.toInt64) (1 : Int64) (4 : Int64) M) cal_X11_in (Or.inl km_X11_77) ⟨rfl, rfl⟩ ⟨by decide, by decide⟩ rfl rfl (Nat.le_of_ble_eq_true rfl) dX11_which_6 (fun r6 M6 => ?_)
  refine gz_ifne C 15 dX11_which_9 (by decide) ?_ ?_
  · refine gz_bipush (v := (-102)) C dX11_which_12 (by decide) ?_
    exact gz_iret C dX11_which_14
  · refine gz_aloadn C 0 rfl dX11_which_15 ?_
    refine gz_callVI 32 [] [] C kn_X11 rfl rfl (ct_X11_isAiming x.2.1 w M6) cal_X11_isAiming km_X11_195 ⟨rfl, rfl⟩ ⟨by decide, by decide⟩ rfl rfl (Nat.le_of_ble_eq_true rfl) dX11_which_16 (fun r16 M16 => ?_)
    refine gz_ifne C 25 dX11_which_19 (by decide) ?_ ?_
    · refine gz_bipush (v := (-103)) C dX11_which_22 (by decide) ?_
      exact gz_iret C dX11_which_24
    · refine gz_aloadn C 0 rfl dX11_which_25 ?_
      refine gz_iloadn C 1 rfl dX11_which_26 ?_
      refine gz_callVV 32 [.int p1] [] C kn_X11 rfl rfl (ct_X11_layLater x.2.1 w p1 M16) cal_X11_layLater km_X11_207 ⟨rfl, rfl⟩ ⟨by decide, by decide⟩ rfl rfl (Nat.le_of_ble_eq_true rfl) dX11_which_27 (fun _ M27 => ?_)
      refine gz_aloadn C 0 rfl dX11_which_30 ?_
      refine gz_aloadn C 0 rfl dX11_which_31 ?_
      refine gz_callVI 32 [] [.ref (w.1 32)] C kn_X11 rfl rfl (ct_X11_stageNow x.2.1 w M27) cal_X11_stageNow km_X11_161 ⟨rfl, rfl⟩ ⟨by decide, by decide⟩ rfl rfl (Nat.le_of_ble_eq_true rfl) dX11_which_32 (fun r32 M32 => ?_)
      refine gz_iloadn C 1 rfl dX11_which_35 ?_
      refine gz_iconst (v := 1) C dX11_which_36 (by decide) ?_
      refine gz_isub C dX11_which_37 ?_
      refine gz_callSJ [.int (p1 - (1 : Int32))] [.int r32, .ref (w.1 32)] C (ct_X11_hundreds x.2.1 w (p1 - (1 : Int32)) M32) cal_X11_hundreds (Or.inl km_X11_202) ⟨rfl, rfl⟩ ⟨by decide, by decide⟩ rfl rfl (Nat.le_of_ble_eq_true rfl) dX11_which_38 (fun r38 M38 => ?_)
      refine gz_aloadn C 0 rfl dX11_which_41 ?_
      refine gz_callVI 32 [] [.long r38, .int r32, .ref (w.1 32)] C kn_X11 rfl rfl (ct_X11_leftBits x.2.1 w M38) cal_X11_leftBits km_X11_192 ⟨rfl, rfl⟩ ⟨by decide, by decide⟩ rfl rfl (Nat.le_of_ble_eq_true rfl) dX11_which_42 (fun r42 M42 => ?_)
      refine gz_callVJ 32 [.int r32, .long r38, .int r42] [] C kn_X11 rfl rfl (ct_X11_bestOf x.2.1 w r32 r38 r42 M42) cal_X11_bestOf km_X11_188 ⟨rfl, rfl⟩ ⟨by decide, by decide⟩ rfl rfl (Nat.le_of_ble_eq_true rfl) dX11_which_45 (fun r45 M45 => ?_)
      refine gz_lstoren C [(2, .long r45), (0, .ref (w.1 32)), (1, .int p1)] dX11_which_48 (by decide) rfl ?_
      refine gz_lloadn C 0 rfl dX11_which_49 ?_
      refine gz_lconst (v := 0) C dX11_which_50 (by decide) ?_
      refine gz_lcmp C dX11_which_51 ?_
      refine gz_cnd (lc_lt r45 (0 : Int64)) ?_
      refine gz_ifge C 59 dX11_which_52 (by decide) ?_ ?_
      · refine gz_iconst (v := (-1)) C dX11_which_55 (by decide) ?_
        refine gz_goto C 63 dX11_which_56 (by decide) ?_
        exact gz_iret C dX11_which_63
      · refine gz_aloadn C 1 rfl dX11_which_59 ?_
        refine gz_get C 32 21 (.int (gI M45 32 21)) kn_X11 rfl kf_X11_183 (by decide) dX11_which_60 (fv_I rfl) ?_
        exact gz_iret C dX11_which_63
set_option maxRecDepth 100000 in
set_option maxHeartbeats 4000000 in
theorem ct_X11_man (l : Launch) (w : Wd) (p1 : Int32) (p2 : Int32) (M : Mm) : CT l yX11_man cX11_man 3 (some .int) rm_X11_man w (qI w) [.ref (w.1 32), .int p1, .int p2] (sp_X11_man p1 p2 M) M := by
  refine ct_of RX11 [(0, .ref (w.1 32)), (1, .int p1), (2, .int p2)] rfl (Nat.le_of_ble_eq_true rfl) (by decide) rfl rfl rfl (fun x C => ?_)
  unfold sp_X11_man
  refine gz_iloadn C 1 rfl dX11_man_0 ?_
  refine gz_i2l C dX11_man_1 ?_
  refine gz_lconst (v := 0) C dX11_man_2 (by decide) ?_
  refine gz_ldc2 C kl_X11_139 dX11_man_3 ?_
  refine gz_callSI [.long (p1.toInt64), .long (0 : Int64), .long (4 : Int64)] [] C (ct_X11_in x.2.1 w (p1.toInt64) (0 : Int64) (4 : Int64) M) cal_X11_in (Or.inl km_X11_77) ⟨rfl, rfl⟩ ⟨by decide, by decide⟩ rfl rfl (Nat.le_of_ble_eq_true rfl) dX11_man_6 (fun r6 M6 => ?_)
  refine gz_ifeq C 24 dX11_man_9 (by decide) ?_ ?_
  · refine gz_bipush (v := (-102)) C dX11_man_24 (by decide) ?_
    exact gz_iret C dX11_man_26
  · refine gz_iloadn C 2 rfl dX11_man_12 ?_
    refine gz_i2l C dX11_man_13 ?_
    refine gz_lconst (v := 1) C dX11_man_14 (by decide) ?_
    refine gz_ldc2 C kl_X11_211 dX11_man_15 ?_
    refine gz_callSI [.long (p2.toInt64), .long (1 : Int64), .long (30 : Int64)] [] C (ct_X11_in x.2.1 w (p2.toInt64) (1 : Int64) (30 : Int64) M6) cal_X11_in (Or.inl km_X11_77) ⟨rfl, rfl⟩ ⟨by decide, by decide⟩ rfl rfl (Nat.le_of_ble_eq_true rfl) dX11_man_18 (fun r18 M18 => ?_)
    refine gz_ifne C 27 dX11_man_21 (by decide) ?_ ?_
    · refine gz_bipush (v := (-102)) C dX11_man_24 (by decide) ?_
      exact gz_iret C dX11_man_26
    · refine gz_aloadn C 0 rfl dX11_man_27 ?_
      refine gz_callVI 32 [] [] C kn_X11 rfl rfl (ct_X11_lacks x.2.1 w M18) cal_X11_lacks km_X11_145 ⟨rfl, rfl⟩ ⟨by decide, by decide⟩ rfl rfl (Nat.le_of_ble_eq_true rfl) dX11_man_28 (fun r28 M28 => ?_)
      refine gz_ifeq C 37 dX11_man_31 (by decide) ?_ ?_
      · refine gz_aloadn C 0 rfl dX11_man_37 ?_
        refine gz_get C 32 22 (.int (gI M28 32 22)) kn_X11 rfl kf_X11_127 (by decide) dX11_man_38 (fv_I rfl) ?_
        refine gz_bipush (v := (6)) C dX11_man_41 (by decide) ?_
        refine gz_icmpne C 49 dX11_man_43 (by decide) ?_ ?_
        · refine gz_bipush (v := (-104)) C dX11_man_46 (by decide) ?_
          exact gz_iret C dX11_man_48
        · refine gz_aloadn C 0 rfl dX11_man_49 ?_
          refine gz_get C 32 23 (.ref (w.1 41)) kn_X11 rfl kf_X11_35 (by decide) dX11_man_50 (fv_R rfl rfl) ?_
          refine gz_iconst (v := 3) C dX11_man_53 (by decide) ?_
          refine gz_aloadn C 0 rfl dX11_man_54 ?_
          refine gz_get C 32 22 (.int (gI M28 32 22)) kn_X11 rfl kf_X11_127 (by decide) dX11_man_55 (fv_I rfl) ?_
          refine gz_imul C dX11_man_58 ?_
          refine gz_iloadn C 1 rfl dX11_man_59 ?_
          refine gz_iast C rfl dX11_man_60 (fun M60 => ?_)
          refine gz_aloadn C 0 rfl dX11_man_61 ?_
          refine gz_get C 32 23 (.ref (w.1 41)) kn_X11 rfl kf_X11_35 (by decide) dX11_man_62 (fv_R rfl rfl) ?_
          refine gz_iconst (v := 3) C dX11_man_65 (by decide) ?_
          refine gz_aloadn C 0 rfl dX11_man_66 ?_
          refine gz_get C 32 22 (.int (gI M60 32 22)) kn_X11 rfl kf_X11_127 (by decide) dX11_man_67 (fv_I rfl) ?_
          refine gz_imul C dX11_man_70 ?_
          refine gz_iconst (v := 1) C dX11_man_71 (by decide) ?_
          refine gz_iadd C dX11_man_72 ?_
          refine gz_iloadn C 2 rfl dX11_man_73 ?_
          refine gz_iast C rfl dX11_man_74 (fun M74 => ?_)
          refine gz_aloadn C 0 rfl dX11_man_75 ?_
          refine gz_get C 32 23 (.ref (w.1 41)) kn_X11 rfl kf_X11_35 (by decide) dX11_man_76 (fv_R rfl rfl) ?_
          refine gz_iconst (v := 3) C dX11_man_79 (by decide) ?_
          refine gz_aloadn C 0 rfl dX11_man_80 ?_
          refine gz_get C 32 22 (.int (gI M74 32 22)) kn_X11 rfl kf_X11_127 (by decide) dX11_man_81 (fv_I rfl) ?_
          refine gz_imul C dX11_man_84 ?_
          refine gz_iconst (v := 2) C dX11_man_85 (by decide) ?_
          refine gz_iadd C dX11_man_86 ?_
          refine gz_iconst (v := (-1)) C dX11_man_87 (by decide) ?_
          refine gz_iast C rfl dX11_man_88 (fun M88 => ?_)
          refine gz_aloadn C 0 rfl dX11_man_89 ?_
          refine gz_get C 32 24 (.ref (w.1 42)) kn_X11 rfl kf_X11_38 (by decide) dX11_man_90 (fv_R rfl rfl) ?_
          refine gz_aloadn C 0 rfl dX11_man_93 ?_
          refine gz_get C 32 22 (.int (gI M88 32 22)) kn_X11 rfl kf_X11_127 (by decide) dX11_man_94 (fv_I rfl) ?_
          refine gz_iconst (v := 0) C dX11_man_97 (by decide) ?_
          refine gz_iast C rfl dX11_man_98 (fun M98 => ?_)
          refine gz_aloadn C 0 rfl dX11_man_99 ?_
          refine gz_dup C dX11_man_100 rfl ?_
          refine gz_get C 32 22 (.int (gI M98 32 22)) kn_X11 rfl kf_X11_127 (by decide) dX11_man_101 (fv_I rfl) ?_
          refine gz_iconst (v := 1) C dX11_man_104 (by decide) ?_
          refine gz_iadd C dX11_man_105 ?_
          refine gz_putI C 32 22 kn_X11 rfl kf_X11_127 (by decide) rfl rfl (tyX11_ok 22 (by decide)) rfl rfl dX11_man_106 (fun M106 => ?_)
          refine gz_aloadn C 0 rfl dX11_man_109 ?_
          refine gz_get C 32 22 (.int (gI M106 32 22)) kn_X11 rfl kf_X11_127 (by decide) dX11_man_110 (fv_I rfl) ?_
          refine gz_iconst (v := 1) C dX11_man_113 (by decide) ?_
          refine gz_isub C dX11_man_114 ?_
          exact gz_iret C dX11_man_115
      · refine gz_bipush (v := (-103)) C dX11_man_34 (by decide) ?_
        exact gz_iret C dX11_man_36
set_option maxRecDepth 100000 in
set_option maxHeartbeats 4000000 in
theorem ct_X11_isMan (l : Launch) (w : Wd) (p1 : Int32) (M : Mm) : CT l yX11_isMan cX11_isMan 2 (some .boolean) rm_X11_isMan w (qI w) [.ref (w.1 32), .int p1] (sp_X11_isMan p1 M) M := by
  refine ct_of RX11 [(0, .ref (w.1 32)), (1, .int p1)] rfl (Nat.le_of_ble_eq_true rfl) (by decide) rfl rfl rfl (fun x C => ?_)
  unfold sp_X11_isMan
  refine gz_iloadn C 1 rfl dX11_isMan_0 ?_
  refine gz_i2l C dX11_isMan_1 ?_
  refine gz_lconst (v := 0) C dX11_isMan_2 (by decide) ?_
  refine gz_aloadn C 0 rfl dX11_isMan_3 ?_
  refine gz_get C 32 22 (.int (gI M 32 22)) kn_X11 rfl kf_X11_127 (by decide) dX11_isMan_4 (fv_I rfl) ?_
  refine gz_iconst (v := 1) C dX11_isMan_7 (by decide) ?_
  refine gz_isub C dX11_isMan_8 ?_
  refine gz_i2l C dX11_isMan_9 ?_
  refine gz_callSI [.long (p1.toInt64), .long (0 : Int64), .long (((gI M 32 22) - (1 : Int32)).toInt64)] [] C (ct_X11_in x.2.1 w (p1.toInt64) (0 : Int64) (((gI M 32 22) - (1 : Int32)).toInt64) M) cal_X11_in (Or.inl km_X11_77) ⟨rfl, rfl⟩ ⟨by decide, by decide⟩ rfl rfl (Nat.le_of_ble_eq_true rfl) dX11_isMan_10 (fun r10 M10 => ?_)
  refine gz_zb (fun hb13 => ?_)
  exact gz_zret C hb13 dX11_isMan_13
set_option maxRecDepth 100000 in
set_option maxHeartbeats 4000000 in
theorem ct_X11_sags (l : Launch) (w : Wd) (p1 : Int32) (M : Mm) : CT l yX11_sags cX11_sags 2 (some .boolean) rm_X11_sags w (qI w) [.ref (w.1 32), .int p1] (sp_X11_sags p1 M) M := by
  refine ct_of RX11 [(0, .ref (w.1 32)), (1, .int p1)] rfl (Nat.le_of_ble_eq_true rfl) (by decide) rfl rfl rfl (fun x C => ?_)
  unfold sp_X11_sags
  refine gz_aloadn C 0 rfl dX11_sags_0 ?_
  refine gz_get C 32 23 (.ref (w.1 41)) kn_X11 rfl kf_X11_35 (by decide) dX11_sags_1 (fv_R rfl rfl) ?_
  refine gz_iconst (v := 3) C dX11_sags_4 (by decide) ?_
  refine gz_iloadn C 1 rfl dX11_sags_5 ?_
  refine gz_imul C dX11_sags_6 ?_
  refine gz_iconst (v := 1) C dX11_sags_7 (by decide) ?_
  refine gz_iadd C dX11_sags_8 ?_
  refine gz_iald C rfl dX11_sags_9 (fun a9 => ?_)
  refine gz_aloadn C 0 rfl dX11_sags_10 ?_
  refine gz_get C 32 8 (.int (gI M 32 8)) kn_X11 rfl kf_X11_109 (by decide) dX11_sags_11 (fv_I rfl) ?_
  refine gz_imul C dX11_sags_14 ?_
  refine gz_bipush (v := (50)) C dX11_sags_15 (by decide) ?_
  refine gz_idivc C (by decide) dX11_sags_17 ?_
  refine gz_aloadn C 0 rfl dX11_sags_18 ?_
  refine gz_get C 32 13 (.int (gI M 32 13)) kn_X11 rfl kf_X11_72 (by decide) dX11_sags_19 (fv_I rfl) ?_
  refine gz_icmple C 29 dX11_sags_22 (by decide) ?_ ?_
  · refine gz_iconst (v := 1) C dX11_sags_25 (by decide) ?_
    refine gz_goto C 30 dX11_sags_26 (by decide) ?_
    exact gz_zret C (Or.inr rfl) dX11_sags_30
  · refine gz_iconst (v := 0) C dX11_sags_29 (by decide) ?_
    exact gz_zret C (Or.inl rfl) dX11_sags_30
set_option maxRecDepth 100000 in
set_option maxHeartbeats 4000000 in
theorem ct_X11_takes (l : Launch) (w : Wd) (p1 : Int32) (M : Mm) : CT l yX11_takes cX11_takes 4 (some .int) rm_X11_takes w (qI w) [.ref (w.1 32), .int p1] (sp_X11_takes p1 M) M := by
  refine ct_of RX11 [(0, .ref (w.1 32)), (1, .int p1)] rfl (Nat.le_of_ble_eq_true rfl) (by decide) rfl rfl rfl (fun x C => ?_)
  unfold sp_X11_takes
  refine gz_aloadn C 0 rfl dX11_takes_0 ?_
  refine gz_get C 32 23 (.ref (w.1 41)) kn_X11 rfl kf_X11_35 (by decide) dX11_takes_1 (fv_R rfl rfl) ?_
  refine gz_iconst (v := 3) C dX11_takes_4 (by decide) ?_
  refine gz_iloadn C 1 rfl dX11_takes_5 ?_
  refine gz_imul C dX11_takes_6 ?_
  refine gz_iald C rfl dX11_takes_7 (fun a7 => ?_)
  refine gz_istoren C [(2, .int a7), (0, .ref (w.1 32)), (1, .int p1)] dX11_takes_8 (by decide) rfl ?_
  refine gz_iconst (v := 2) C dX11_takes_9 (by decide) ?_
  refine gz_aloadn C 1 rfl dX11_takes_10 ?_
  refine gz_get C 32 23 (.ref (w.1 41)) kn_X11 rfl kf_X11_35 (by decide) dX11_takes_11 (fv_R rfl rfl) ?_
  refine gz_iconst (v := 3) C dX11_takes_14 (by decide) ?_
  refine gz_iloadn C 2 rfl dX11_takes_15 ?_
  refine gz_imul C dX11_takes_16 ?_
  refine gz_iconst (v := 1) C dX11_takes_17 (by decide) ?_
  refine gz_iadd C dX11_takes_18 ?_
  refine gz_iald C rfl dX11_takes_19 (fun a19 => ?_)
  refine gz_iconst (v := 5) C dX11_takes_20 (by decide) ?_
  refine gz_idivc C (by decide) dX11_takes_21 ?_
  refine gz_iadd C dX11_takes_22 ?_
  refine gz_blt (fun y23 => ?_)
  refine gz_istoren C [(3, .int y23), (2, .int a7), (0, .ref (w.1 32)), (1, .int p1)] dX11_takes_23 (by decide) rfl ?_
  refine gz_iloadn C 1 rfl dX11_takes_24 ?_
  refine gz_iconst (v := 1) C dX11_takes_25 (by decide) ?_
  refine gz_jn (fun K49 => ∀ (t0_49 : Int32), G x w 4 (qI w) (K49 t0_49) M [(0, .ref (w.1 32)), (1, .int p1)] 49 [.int t0_49]) ?_ ?_
  · intro t0_49
    refine gz_istoren C [(3, .int t0_49), (0, .ref (w.1 32)), (1, .int p1)] dX11_takes_49 (by decide) rfl ?_
    refine gz_aloadn C 1 rfl dX11_takes_50 ?_
    refine gz_iloadn C 2 rfl dX11_takes_51 ?_
    refine gz_callVI 32 [.int p1] [] C kn_X11 rfl rfl (ct_X11_sags x.2.1 w p1 M) cal_X11_sags km_X11_213 ⟨rfl, rfl⟩ ⟨by decide, by decide⟩ rfl rfl (Nat.le_of_ble_eq_true rfl) dX11_takes_52 (fun r52 M52 => ?_)
    refine gz_ifeq C 64 dX11_takes_55 (by decide) ?_ ?_
    · refine gz_iloadn C 0 rfl dX11_takes_64 ?_
      exact gz_iret C dX11_takes_65
    · refine gz_iloadn C 0 rfl dX11_takes_58 ?_
      refine gz_iconst (v := 2) C dX11_takes_59 (by decide) ?_
      refine gz_iadd C dX11_takes_60 ?_
      refine gz_goto C 65 dX11_takes_61 (by decide) ?_
      exact gz_iret C dX11_takes_65
  · intro K49 hK49
    refine gz_icmpne C 37 dX11_takes_26 (by decide) ?_ ?_
    · refine gz_iloadn C 0 rfl dX11_takes_29 ?_
      refine gz_iconst (v := 1) C dX11_takes_30 (by decide) ?_
      refine gz_iadd C dX11_takes_31 ?_
      refine gz_iconst (v := 2) C dX11_takes_32 (by decide) ?_
      refine gz_idivc C (by decide) dX11_takes_33 ?_
      refine gz_goto C 49 dX11_takes_34 (by decide) ?_
      refine gz_sub [2, 3] rfl ?_
      exact hK49 _
    · refine gz_iloadn C 1 rfl dX11_takes_37 ?_
      refine gz_iconst (v := 3) C dX11_takes_38 (by decide) ?_
      refine gz_icmpne C 48 dX11_takes_39 (by decide) ?_ ?_
      · refine gz_iloadn C 0 rfl dX11_takes_42 ?_
        refine gz_iconst (v := 3) C dX11_takes_43 (by decide) ?_
        refine gz_iadd C dX11_takes_44 ?_
        refine gz_goto C 49 dX11_takes_45 (by decide) ?_
        refine gz_sub [2, 3] rfl ?_
        exact hK49 _
      · refine gz_iloadn C 0 rfl dX11_takes_48 ?_
        refine gz_sub [2, 3] rfl ?_
        exact hK49 _
set_option maxRecDepth 100000 in
set_option maxHeartbeats 4000000 in
theorem ct_X11_overBits (l : Launch) (w : Wd) (M : Mm) : CT l yX11_overBits cX11_overBits 3 (some .int) rm_X11_overBits w (qI w) [.ref (w.1 32)] (sp_X11_overBits M) M := by
  refine ct_of RX11 [(0, .ref (w.1 32))] rfl (Nat.le_of_ble_eq_true rfl) (by decide) rfl rfl rfl (fun x C => ?_)
  unfold sp_X11_overBits
  refine gz_iconst (v := 0) C dX11_overBits_0 (by decide) ?_
  refine gz_istoren C [(1, .int (0 : Int32)), (0, .ref (w.1 32))] dX11_overBits_1 (by decide) rfl ?_
  refine gz_iconst (v := 0) C dX11_overBits_2 (by decide) ?_
  refine gz_istoren C [(2, .int (0 : Int32)), (1, .int (0 : Int32)), (0, .ref (w.1 32))] dX11_overBits_3 (by decide) rfl ?_
  have hL4 : ∀ (n4 : Nat) (v1_4 : Int32) (v2_4 : Int32), G x w 3 (qI w) (sp_X11_overBits_L4 M n4 v1_4 v2_4) M [(0, .ref (w.1 32)), (1, .int v1_4), (2, .int v2_4)] 4 [] := by
    intro n4
    induction n4 with
    | zero => intros; exact gz_none
    | succ n4 ih4 =>
      intro v1_4 v2_4
      rw [sp_X11_overBits_L4]
      refine gz_iloadn C 2 rfl dX11_overBits_4 ?_
      refine gz_aloadn C 0 rfl dX11_overBits_5 ?_
      refine gz_get C 32 22 (.int (gI M 32 22)) kn_X11 rfl kf_X11_127 (by decide) dX11_overBits_6 (fv_I rfl) ?_
      refine gz_icmpge C 42 dX11_overBits_9 (by decide) ?_ ?_
      · refine gz_iloadn C 1 rfl dX11_overBits_12 ?_
        refine gz_aloadn C 0 rfl dX11_overBits_13 ?_
        refine gz_get C 32 23 (.ref (w.1 41)) kn_X11 rfl kf_X11_35 (by decide) dX11_overBits_14 (fv_R rfl rfl) ?_
        refine gz_iconst (v := 3) C dX11_overBits_17 (by decide) ?_
        refine gz_iloadn C 2 rfl dX11_overBits_18 ?_
        refine gz_imul C dX11_overBits_19 ?_
        refine gz_iconst (v := 2) C dX11_overBits_20 (by decide) ?_
        refine gz_iadd C dX11_overBits_21 ?_
        refine gz_iald C rfl dX11_overBits_22 (fun a22 => ?_)
        refine gz_iconst (v := (-1)) C dX11_overBits_23 (by decide) ?_
        refine gz_icmpne C 31 dX11_overBits_24 (by decide) ?_ ?_
        · refine gz_iconst (v := 0) C dX11_overBits_27 (by decide) ?_
          refine gz_goto C 34 dX11_overBits_28 (by decide) ?_
          refine gz_ior C dX11_overBits_34 ?_
          refine gz_blt (fun y35 => ?_)
          refine gz_istoren C [(1, .int y35), (0, .ref (w.1 32)), (2, .int v2_4)] dX11_overBits_35 (by decide) rfl ?_
          refine gz_iinc (v' := v2_4 + 1) C 2 [(2, .int (v2_4 + 1)), (1, .int y35), (0, .ref (w.1 32))] rfl dX11_overBits_36 rfl (by decide) rfl ?_
          refine gz_goto C 4 dX11_overBits_39 (by decide) ?_
          refine gz_sub [2, 1, 0] rfl ?_
          exact ih4 _ _
        · refine gz_iconst (v := 1) C dX11_overBits_31 (by decide) ?_
          refine gz_iloadn C 2 rfl dX11_overBits_32 ?_
          refine gz_ishl C dX11_overBits_33 ?_
          refine gz_ior C dX11_overBits_34 ?_
          refine gz_blt (fun y35 => ?_)
          refine gz_istoren C [(1, .int y35), (0, .ref (w.1 32)), (2, .int v2_4)] dX11_overBits_35 (by decide) rfl ?_
          refine gz_iinc (v' := v2_4 + 1) C 2 [(2, .int (v2_4 + 1)), (1, .int y35), (0, .ref (w.1 32))] rfl dX11_overBits_36 rfl (by decide) rfl ?_
          refine gz_goto C 4 dX11_overBits_39 (by decide) ?_
          refine gz_sub [2, 1, 0] rfl ?_
          exact ih4 _ _
      · refine gz_iloadn C 1 rfl dX11_overBits_42 ?_
        exact gz_iret C dX11_overBits_43
  refine gz_sub [2, 1, 0] rfl ?_
  exact hL4 fu _ _
set_option maxRecDepth 100000 in
set_option maxHeartbeats 4000000 in
theorem ct_X11_canCome (l : Launch) (w : Wd) (p1 : Int32) (p2 : Int32) (M : Mm) : CT l yX11_canCome cX11_canCome 5 (some .boolean) rm_X11_canCome w (qI w) [.ref (w.1 32), .int p1, .int p2] (sp_X11_canCome p1 p2 M) M := by
  refine ct_of RX11 [(0, .ref (w.1 32)), (1, .int p1), (2, .int p2)] rfl (Nat.le_of_ble_eq_true rfl) (by decide) rfl rfl rfl (fun x C => ?_)
  unfold sp_X11_canCome
  refine gz_iloadn C 2 rfl dX11_canCome_0 ?_
  refine gz_iloadn C 1 rfl dX11_canCome_1 ?_
  refine gz_ishr C dX11_canCome_2 ?_
  refine gz_iconst (v := 1) C dX11_canCome_3 (by decide) ?_
  refine gz_iand C dX11_canCome_4 ?_
  refine gz_jn (fun K26 => ∀ (t0_26 : Int32), G x w 5 (qI w) (K26 t0_26) M [(0, .ref (w.1 32)), (1, .int p1), (2, .int p2)] 26 [.int t0_26]) ?_ ?_
  · intro t0_26
    refine gz_istoren C [(3, .int t0_26), (0, .ref (w.1 32)), (1, .int p1), (2, .int p2)] dX11_canCome_26 (by decide) rfl ?_
    refine gz_iconst (v := 0) C dX11_canCome_27 (by decide) ?_
    refine gz_istore C [(4, .int (0 : Int32)), (3, .int t0_26), (0, .ref (w.1 32)), (1, .int p1), (2, .int p2)] dX11_canCome_28 (by decide) rfl ?_
    have hL30 : ∀ (n30 : Nat) (v3_30 : Int32) (v4_30 : Int32), G x w 5 (qI w) (sp_X11_canCome_L30 M p1 p2 n30 v3_30 v4_30) M [(0, .ref (w.1 32)), (1, .int p1), (2, .int p2), (3, .int v3_30), (4, .int v4_30)] 30 [] := by
      intro n30
      induction n30 with
      | zero => intros; exact gz_none
      | succ n30 ih30 =>
        intro v3_30 v4_30
        rw [sp_X11_canCome_L30]
        refine gz_iload C 4 rfl dX11_canCome_30 ?_
        refine gz_aloadn C 0 rfl dX11_canCome_32 ?_
        refine gz_get C 32 22 (.int (gI M 32 22)) kn_X11 rfl kf_X11_127 (by decide) dX11_canCome_33 (fv_I rfl) ?_
        refine gz_icmpge C 90 dX11_canCome_36 (by decide) ?_ ?_
        · refine gz_iloadn C 3 rfl dX11_canCome_39 ?_
          refine gz_ifeq C 82 dX11_canCome_40 (by decide) ?_ ?_
          · refine gz_iconst (v := 0) C dX11_canCome_82 (by decide) ?_
            refine gz_istoren C [(3, .int (0 : Int32)), (0, .ref (w.1 32)), (1, .int p1), (2, .int p2), (4, .int v4_30)] dX11_canCome_83 (by decide) rfl ?_
            refine gz_iinc (v' := v4_30 + 1) C 4 [(4, .int (v4_30 + 1)), (3, .int (0 : Int32)), (0, .ref (w.1 32)), (1, .int p1), (2, .int p2)] rfl dX11_canCome_84 rfl (by decide) rfl ?_
            refine gz_goto C 30 dX11_canCome_87 (by decide) ?_
            refine gz_sub [2, 3, 4, 1, 0] rfl ?_
            exact ih30 _ _
          · refine gz_aloadn C 0 rfl dX11_canCome_43 ?_
            refine gz_get C 32 23 (.ref (w.1 41)) kn_X11 rfl kf_X11_35 (by decide) dX11_canCome_44 (fv_R rfl rfl) ?_
            refine gz_iconst (v := 3) C dX11_canCome_47 (by decide) ?_
            refine gz_iloadn C 1 rfl dX11_canCome_48 ?_
            refine gz_imul C dX11_canCome_49 ?_
            refine gz_iald C rfl dX11_canCome_50 (fun a50 => ?_)
            refine gz_iconst (v := 4) C dX11_canCome_51 (by decide) ?_
            refine gz_jn (fun K78 => G x w 5 (qI w) K78 M [(0, .ref (w.1 32)), (1, .int p1), (2, .int p2), (4, .int v4_30)] 78 []) ?_ ?_
            · refine gz_iconst (v := 1) C dX11_canCome_78 (by decide) ?_
              refine gz_goto C 83 dX11_canCome_79 (by decide) ?_
              refine gz_istoren C [(3, .int (1 : Int32)), (0, .ref (w.1 32)), (1, .int p1), (2, .int p2), (4, .int v4_30)] dX11_canCome_83 (by decide) rfl ?_
              refine gz_iinc (v' := v4_30 + 1) C 4 [(4, .int (v4_30 + 1)), (3, .int (1 : Int32)), (0, .ref (w.1 32)), (1, .int p1), (2, .int p2)] rfl dX11_canCome_84 rfl (by decide) rfl ?_
              refine gz_goto C 30 dX11_canCome_87 (by decide) ?_
              refine gz_sub [2, 3, 4, 1, 0] rfl ?_
              exact ih30 _ _
            · intro K78 hK78
              refine gz_icmpne C 78 dX11_canCome_52 (by decide) ?_ ?_
              · refine gz_aloadn C 0 rfl dX11_canCome_55 ?_
                refine gz_get C 32 23 (.ref (w.1 41)) kn_X11 rfl kf_X11_35 (by decide) dX11_canCome_56 (fv_R rfl rfl) ?_
                refine gz_iconst (v := 3) C dX11_canCome_59 (by decide) ?_
                refine gz_iload C 4 rfl dX11_canCome_60 ?_
                refine gz_imul C dX11_canCome_62 ?_
                refine gz_iald C rfl dX11_canCome_63 (fun a63 => ?_)
                refine gz_iconst (v := 4) C dX11_canCome_64 (by decide) ?_
                refine gz_icmpeq C 78 dX11_canCome_65 (by decide) ?_ ?_
                · refine gz_sub [0, 1, 2, 4] rfl ?_
                  exact hK78
                · refine gz_iloadn C 2 rfl dX11_canCome_68 ?_
                  refine gz_iload C 4 rfl dX11_canCome_69 ?_
                  refine gz_ishr C dX11_canCome_71 ?_
                  refine gz_iconst (v := 1) C dX11_canCome_72 (by decide) ?_
                  refine gz_iand C dX11_canCome_73 ?_
                  refine gz_iconst (v := 1) C dX11_canCome_74 (by decide) ?_
                  refine gz_icmpne C 82 dX11_canCome_75 (by decide) ?_ ?_
                  · refine gz_sub [0, 1, 2, 4] rfl ?_
                    exact hK78
                  · refine gz_iconst (v := 0) C dX11_canCome_82 (by decide) ?_
                    refine gz_istoren C [(3, .int (0 : Int32)), (0, .ref (w.1 32)), (1, .int p1), (2, .int p2), (4, .int v4_30)] dX11_canCome_83 (by decide) rfl ?_
                    refine gz_iinc (v' := v4_30 + 1) C 4 [(4, .int (v4_30 + 1)), (3, .int (0 : Int32)), (0, .ref (w.1 32)), (1, .int p1), (2, .int p2)] rfl dX11_canCome_84 rfl (by decide) rfl ?_
                    refine gz_goto C 30 dX11_canCome_87 (by decide) ?_
                    refine gz_sub [2, 3, 4, 1, 0] rfl ?_
                    exact ih30 _ _
              · refine gz_sub [0, 1, 2, 4] rfl ?_
                exact hK78
        · refine gz_iloadn C 3 rfl dX11_canCome_90 ?_
          refine gz_zb (fun hb91 => ?_)
          exact gz_zret C hb91 dX11_canCome_91
    refine gz_sub [2, 3, 4, 1, 0] rfl ?_
    exact hL30 fu _ _
  · intro K26 hK26
    refine gz_ifne C 25 dX11_canCome_5 (by decide) ?_ ?_
    · refine gz_aloadn C 0 rfl dX11_canCome_8 ?_
      refine gz_get C 32 24 (.ref (w.1 42)) kn_X11 rfl kf_X11_38 (by decide) dX11_canCome_9 (fv_R rfl rfl) ?_
      refine gz_iloadn C 1 rfl dX11_canCome_12 ?_
      refine gz_iald C rfl dX11_canCome_13 (fun a13 => ?_)
      refine gz_iloadn C 2 rfl dX11_canCome_14 ?_
      refine gz_iconst (v := (-1)) C dX11_canCome_15 (by decide) ?_
      refine gz_ixor C dX11_canCome_16 ?_
      refine gz_iand C dX11_canCome_17 ?_
      refine gz_ifne C 25 dX11_canCome_18 (by decide) ?_ ?_
      · refine gz_iconst (v := 1) C dX11_canCome_21 (by decide) ?_
        refine gz_goto C 26 dX11_canCome_22 (by decide) ?_
        exact hK26 _
      · refine gz_iconst (v := 0) C dX11_canCome_25 (by decide) ?_
        exact hK26 _
    · refine gz_iconst (v := 0) C dX11_canCome_25 (by decide) ?_
      exact hK26 _
set_option maxRecDepth 100000 in
set_option maxHeartbeats 4000000 in
theorem ct_X11_mayCome (l : Launch) (w : Wd) (p1 : Int32) (M : Mm) : CT l yX11_mayCome cX11_mayCome 2 (some .boolean) rm_X11_mayCome w (qI w) [.ref (w.1 32), .int p1] (sp_X11_mayCome p1 M) M := by
  refine ct_of RX11 [(0, .ref (w.1 32)), (1, .int p1)] rfl (Nat.le_of_ble_eq_true rfl) (by decide) rfl rfl rfl (fun x C => ?_)
  unfold sp_X11_mayCome
  refine gz_aloadn C 0 rfl dX11_mayCome_0 ?_
  refine gz_get C 32 11 (.int (gI M 32 11)) kn_X11 rfl kf_X11_118 (by decide) dX11_mayCome_1 (fv_I rfl) ?_
  refine gz_iconst (v := 1) C dX11_mayCome_4 (by decide) ?_
  refine gz_icmpne C 50 dX11_mayCome_5 (by decide) ?_ ?_
  · refine gz_aloadn C 0 rfl dX11_mayCome_8 ?_
    refine gz_get C 32 12 (.int (gI M 32 12)) kn_X11 rfl kf_X11_121 (by decide) dX11_mayCome_9 (fv_I rfl) ?_
    refine gz_ifne C 50 dX11_mayCome_12 (by decide) ?_ ?_
    · refine gz_aloadn C 0 rfl dX11_mayCome_15 ?_
      refine gz_iloadn C 1 rfl dX11_mayCome_16 ?_
      refine gz_aloadn C 0 rfl dX11_mayCome_17 ?_
      refine gz_callVI 32 [] [.int p1, .ref (w.1 32)] C kn_X11 rfl rfl (ct_X11_overBits x.2.1 w M) cal_X11_overBits km_X11_216 ⟨rfl, rfl⟩ ⟨by decide, by decide⟩ rfl rfl (Nat.le_of_ble_eq_true rfl) dX11_mayCome_18 (fun r18 M18 => ?_)
      refine gz_callVI 32 [.int p1, .int r18] [] C kn_X11 rfl rfl (ct_X11_canCome x.2.1 w p1 r18 M18) cal_X11_canCome km_X11_219 ⟨rfl, rfl⟩ ⟨by decide, by decide⟩ rfl rfl (Nat.le_of_ble_eq_true rfl) dX11_mayCome_21 (fun r21 M21 => ?_)
      refine gz_ifeq C 50 dX11_mayCome_24 (by decide) ?_ ?_
      · refine gz_iconst (v := 0) C dX11_mayCome_50 (by decide) ?_
        exact gz_zret C (Or.inl rfl) dX11_mayCome_51
      · refine gz_aloadn C 0 rfl dX11_mayCome_27 ?_
        refine gz_get C 32 10 (.int (gI M21 32 10)) kn_X11 rfl kf_X11_115 (by decide) dX11_mayCome_28 (fv_I rfl) ?_
        refine gz_aloadn C 0 rfl dX11_mayCome_31 ?_
        refine gz_iloadn C 1 rfl dX11_mayCome_32 ?_
        refine gz_callVI 32 [.int p1] [.int (gI M21 32 10)] C kn_X11 rfl rfl (ct_X11_takes x.2.1 w p1 M21) cal_X11_takes km_X11_222 ⟨rfl, rfl⟩ ⟨by decide, by decide⟩ rfl rfl (Nat.le_of_ble_eq_true rfl) dX11_mayCome_33 (fun r33 M33 => ?_)
        refine gz_iadd C dX11_mayCome_36 ?_
        refine gz_iconst (v := 5) C dX11_mayCome_37 (by decide) ?_
        refine gz_aloadn C 0 rfl dX11_mayCome_38 ?_
        refine gz_get C 32 7 (.int (gI M33 32 7)) kn_X11 rfl kf_X11_106 (by decide) dX11_mayCome_39 (fv_I rfl) ?_
        refine gz_imul C dX11_mayCome_42 ?_
        refine gz_icmpge C 50 dX11_mayCome_43 (by decide) ?_ ?_
        · refine gz_iconst (v := 1) C dX11_mayCome_46 (by decide) ?_
          refine gz_goto C 51 dX11_mayCome_47 (by decide) ?_
          exact gz_zret C (Or.inr rfl) dX11_mayCome_51
        · refine gz_iconst (v := 0) C dX11_mayCome_50 (by decide) ?_
          exact gz_zret C (Or.inl rfl) dX11_mayCome_51
    · refine gz_iconst (v := 0) C dX11_mayCome_50 (by decide) ?_
      exact gz_zret C (Or.inl rfl) dX11_mayCome_51
  · refine gz_iconst (v := 0) C dX11_mayCome_50 (by decide) ?_
    exact gz_zret C (Or.inl rfl) dX11_mayCome_51
set_option maxRecDepth 100000 in
set_option maxHeartbeats 4000000 in
theorem ct_X11_tellMan (l : Launch) (w : Wd) (p1 : Int32) (p2 : Int32) (M : Mm) : CT l yX11_tellMan cX11_tellMan 3 (some .int) rm_X11_tellMan w (qI w) [.ref (w.1 32), .int p1, .int p2] (sp_X11_tellMan p1 p2 M) M := by
  refine ct_of RX11 [(0, .ref (w.1 32)), (1, .int p1), (2, .int p2)] rfl (Nat.le_of_ble_eq_true rfl) (by decide) rfl rfl rfl (fun x C => ?_)
  unfold sp_X11_tellMan
  refine gz_iloadn C 2 rfl dX11_tellMan_0 ?_
  refine gz_if (fun hs0 => ?_) (fun hs0 => ?_)
  · refine gz_tabIn (off := 43) C (0) 44 dX11_tellMan_1 hs0 (by decide) (by decide) (by decide) (by decide) ?_
    refine gz_aloadn C 0 rfl dX11_tellMan_44 ?_
    refine gz_get C 32 23 (.ref (w.1 41)) kn_X11 rfl kf_X11_35 (by decide) dX11_tellMan_45 (fv_R rfl rfl) ?_
    refine gz_iconst (v := 3) C dX11_tellMan_48 (by decide) ?_
    refine gz_iloadn C 1 rfl dX11_tellMan_49 ?_
    refine gz_imul C dX11_tellMan_50 ?_
    refine gz_iloadn C 2 rfl dX11_tellMan_51 ?_
    refine gz_iadd C dX11_tellMan_52 ?_
    refine gz_iald C rfl dX11_tellMan_53 (fun a53 => ?_)
    exact gz_iret C dX11_tellMan_54
  refine gz_if (fun hs1 => ?_) (fun hs1 => ?_)
  · refine gz_tabIn (off := 43) C (1) 44 dX11_tellMan_1 hs1 (by decide) (by decide) (by decide) (by decide) ?_
    refine gz_aloadn C 0 rfl dX11_tellMan_44 ?_
    refine gz_get C 32 23 (.ref (w.1 41)) kn_X11 rfl kf_X11_35 (by decide) dX11_tellMan_45 (fv_R rfl rfl) ?_
    refine gz_iconst (v := 3) C dX11_tellMan_48 (by decide) ?_
    refine gz_iloadn C 1 rfl dX11_tellMan_49 ?_
    refine gz_imul C dX11_tellMan_50 ?_
    refine gz_iloadn C 2 rfl dX11_tellMan_51 ?_
    refine gz_iadd C dX11_tellMan_52 ?_
    refine gz_iald C rfl dX11_tellMan_53 (fun a53 => ?_)
    exact gz_iret C dX11_tellMan_54
  refine gz_if (fun hs2 => ?_) (fun hs2 => ?_)
  · refine gz_tabIn (off := 54) C (2) 55 dX11_tellMan_1 hs2 (by decide) (by decide) (by decide) (by decide) ?_
    refine gz_aloadn C 0 rfl dX11_tellMan_55 ?_
    refine gz_iloadn C 1 rfl dX11_tellMan_56 ?_
    refine gz_callVI 32 [.int p1] [] C kn_X11 rfl rfl (ct_X11_takes x.2.1 w p1 M) cal_X11_takes km_X11_222 ⟨rfl, rfl⟩ ⟨by decide, by decide⟩ rfl rfl (Nat.le_of_ble_eq_true rfl) dX11_tellMan_57 (fun r57 M57 => ?_)
    exact gz_iret C dX11_tellMan_60
  refine gz_if (fun hs3 => ?_) (fun hs3 => ?_)
  · refine gz_tabIn (off := 60) C (3) 61 dX11_tellMan_1 hs3 (by decide) (by decide) (by decide) (by decide) ?_
    refine gz_aloadn C 0 rfl dX11_tellMan_61 ?_
    refine gz_iloadn C 1 rfl dX11_tellMan_62 ?_
    refine gz_callVI 32 [.int p1] [] C kn_X11 rfl rfl (ct_X11_sags x.2.1 w p1 M) cal_X11_sags km_X11_213 ⟨rfl, rfl⟩ ⟨by decide, by decide⟩ rfl rfl (Nat.le_of_ble_eq_true rfl) dX11_tellMan_63 (fun r63 M63 => ?_)
    refine gz_ifeq C 73 dX11_tellMan_66 (by decide) ?_ ?_
    · refine gz_iconst (v := 0) C dX11_tellMan_73 (by decide) ?_
      exact gz_iret C dX11_tellMan_74
    · refine gz_iconst (v := 1) C dX11_tellMan_69 (by decide) ?_
      refine gz_goto C 74 dX11_tellMan_70 (by decide) ?_
      exact gz_iret C dX11_tellMan_74
  refine gz_if (fun hs4 => ?_) (fun hs4 => ?_)
  · refine gz_tabIn (off := 74) C (4) 75 dX11_tellMan_1 hs4 (by decide) (by decide) (by decide) (by decide) ?_
    refine gz_aloadn C 0 rfl dX11_tellMan_75 ?_
    refine gz_get C 32 23 (.ref (w.1 41)) kn_X11 rfl kf_X11_35 (by decide) dX11_tellMan_76 (fv_R rfl rfl) ?_
    refine gz_iconst (v := 3) C dX11_tellMan_79 (by decide) ?_
    refine gz_iloadn C 1 rfl dX11_tellMan_80 ?_
    refine gz_imul C dX11_tellMan_81 ?_
    refine gz_iconst (v := 2) C dX11_tellMan_82 (by decide) ?_
    refine gz_iadd C dX11_tellMan_83 ?_
    refine gz_iald C rfl dX11_tellMan_84 (fun a84 => ?_)
    refine gz_iconst (v := (-1)) C dX11_tellMan_85 (by decide) ?_
    refine gz_icmpne C 93 dX11_tellMan_86 (by decide) ?_ ?_
    · refine gz_iconst (v := 0) C dX11_tellMan_89 (by decide) ?_
      refine gz_goto C 94 dX11_tellMan_90 (by decide) ?_
      exact gz_iret C dX11_tellMan_94
    · refine gz_iconst (v := 1) C dX11_tellMan_93 (by decide) ?_
      exact gz_iret C dX11_tellMan_94
  refine gz_if (fun hs5 => ?_) (fun hs5 => ?_)
  · refine gz_tabIn (off := 94) C (5) 95 dX11_tellMan_1 hs5 (by decide) (by decide) (by decide) (by decide) ?_
    refine gz_aloadn C 0 rfl dX11_tellMan_95 ?_
    refine gz_get C 32 23 (.ref (w.1 41)) kn_X11 rfl kf_X11_35 (by decide) dX11_tellMan_96 (fv_R rfl rfl) ?_
    refine gz_iconst (v := 3) C dX11_tellMan_99 (by decide) ?_
    refine gz_iloadn C 1 rfl dX11_tellMan_100 ?_
    refine gz_imul C dX11_tellMan_101 ?_
    refine gz_iconst (v := 2) C dX11_tellMan_102 (by decide) ?_
    refine gz_iadd C dX11_tellMan_103 ?_
    refine gz_iald C rfl dX11_tellMan_104 (fun a104 => ?_)
    exact gz_iret C dX11_tellMan_105
  refine gz_if (fun hs6 => ?_) (fun hs6 => ?_)
  · refine gz_tabIn (off := 105) C (6) 106 dX11_tellMan_1 hs6 (by decide) (by decide) (by decide) (by decide) ?_
    refine gz_aloadn C 0 rfl dX11_tellMan_106 ?_
    refine gz_iloadn C 1 rfl dX11_tellMan_107 ?_
    refine gz_callVI 32 [.int p1] [] C kn_X11 rfl rfl (ct_X11_mayCome x.2.1 w p1 M) cal_X11_mayCome km_X11_225 ⟨rfl, rfl⟩ ⟨by decide, by decide⟩ rfl rfl (Nat.le_of_ble_eq_true rfl) dX11_tellMan_108 (fun r108 M108 => ?_)
    refine gz_ifeq C 118 dX11_tellMan_111 (by decide) ?_ ?_
    · refine gz_iconst (v := 0) C dX11_tellMan_118 (by decide) ?_
      exact gz_iret C dX11_tellMan_119
    · refine gz_iconst (v := 1) C dX11_tellMan_114 (by decide) ?_
      refine gz_goto C 119 dX11_tellMan_115 (by decide) ?_
      exact gz_iret C dX11_tellMan_119
  refine gz_tabOut C 120 dX11_tellMan_1 (by have e0 := lv_neT (a := 0) hs0 (by decide); have e1 := lv_neT (a := 1) hs1 (by decide); have e2 := lv_neT (a := 2) hs2 (by decide); have e3 := lv_neT (a := 3) hs3 (by decide); have e4 := lv_neT (a := 4) hs4 (by decide); have e5 := lv_neT (a := 5) hs5 (by decide); have e6 := lv_neT (a := 6) hs6 (by decide); omega) (by decide) ?_
  refine gz_bipush (v := (-102)) C dX11_tellMan_120 (by decide) ?_
  exact gz_iret C dX11_tellMan_122
set_option maxRecDepth 100000 in
set_option maxHeartbeats 4000000 in
theorem ct_X11_about (l : Launch) (w : Wd) (p1 : Int32) (p2 : Int32) (M : Mm) : CT l yX11_about cX11_about 3 (some .int) rm_X11_about w (qI w) [.ref (w.1 32), .int p1, .int p2] (sp_X11_about p1 p2 M) M := by
  refine ct_of RX11 [(0, .ref (w.1 32)), (1, .int p1), (2, .int p2)] rfl (Nat.le_of_ble_eq_true rfl) (by decide) rfl rfl rfl (fun x C => ?_)
  unfold sp_X11_about
  refine gz_aloadn C 0 rfl dX11_about_0 ?_
  refine gz_iloadn C 1 rfl dX11_about_1 ?_
  refine gz_callVI 32 [.int p1] [] C kn_X11 rfl rfl (ct_X11_isMan x.2.1 w p1 M) cal_X11_isMan km_X11_228 ⟨rfl, rfl⟩ ⟨by decide, by decide⟩ rfl rfl (Nat.le_of_ble_eq_true rfl) dX11_about_2 (fun r2 M2 => ?_)
  refine gz_ifeq C 17 dX11_about_5 (by decide) ?_ ?_
  · refine gz_bipush (v := (-101)) C dX11_about_17 (by decide) ?_
    exact gz_iret C dX11_about_19
  · refine gz_aloadn C 0 rfl dX11_about_8 ?_
    refine gz_iloadn C 1 rfl dX11_about_9 ?_
    refine gz_iloadn C 2 rfl dX11_about_10 ?_
    refine gz_callVI 32 [.int p1, .int p2] [] C kn_X11 rfl rfl (ct_X11_tellMan x.2.1 w p1 p2 M2) cal_X11_tellMan km_X11_231 ⟨rfl, rfl⟩ ⟨by decide, by decide⟩ rfl rfl (Nat.le_of_ble_eq_true rfl) dX11_about_11 (fun r11 M11 => ?_)
    refine gz_goto C 19 dX11_about_14 (by decide) ?_
    exact gz_iret C dX11_about_19
set_option maxRecDepth 100000 in
set_option maxHeartbeats 4000000 in
theorem ct_X11_as (l : Launch) (w : Wd) (p1 : Int32) (p2 : Int32) (M : Mm) : CT l yX11_as cX11_as 5 (some .int) rm_X11_as w (qI w) [.ref (w.1 32), .int p1, .int p2] (sp_X11_as p1 p2 M) M := by
  refine ct_of RX11 [(0, .ref (w.1 32)), (1, .int p1), (2, .int p2)] rfl (Nat.le_of_ble_eq_true rfl) (by decide) rfl rfl rfl (fun x C => ?_)
  unfold sp_X11_as
  refine gz_aloadn C 0 rfl dX11_as_0 ?_
  refine gz_iloadn C 1 rfl dX11_as_1 ?_
  refine gz_callVI 32 [.int p1] [] C kn_X11 rfl rfl (ct_X11_isMan x.2.1 w p1 M) cal_X11_isMan km_X11_228 ⟨rfl, rfl⟩ ⟨by decide, by decide⟩ rfl rfl (Nat.le_of_ble_eq_true rfl) dX11_as_2 (fun r2 M2 => ?_)
  refine gz_ifne C 11 dX11_as_5 (by decide) ?_ ?_
  · refine gz_bipush (v := (-101)) C dX11_as_8 (by decide) ?_
    exact gz_iret C dX11_as_10
  · refine gz_iloadn C 2 rfl dX11_as_11 ?_
    refine gz_i2l C dX11_as_12 ?_
    refine gz_lconst (v := 0) C dX11_as_13 (by decide) ?_
    refine gz_ldc2 C kl_X11_139 dX11_as_14 ?_
    refine gz_callSI [.long (p2.toInt64), .long (0 : Int64), .long (4 : Int64)] [] C (ct_X11_in x.2.1 w (p2.toInt64) (0 : Int64) (4 : Int64) M2) cal_X11_in (Or.inl km_X11_77) ⟨rfl, rfl⟩ ⟨by decide, by decide⟩ rfl rfl (Nat.le_of_ble_eq_true rfl) dX11_as_17 (fun r17 M17 => ?_)
    refine gz_ifne C 26 dX11_as_20 (by decide) ?_ ?_
    · refine gz_bipush (v := (-102)) C dX11_as_23 (by decide) ?_
      exact gz_iret C dX11_as_25
    · refine gz_aloadn C 0 rfl dX11_as_26 ?_
      refine gz_get C 32 23 (.ref (w.1 41)) kn_X11 rfl kf_X11_35 (by decide) dX11_as_27 (fv_R rfl rfl) ?_
      refine gz_iconst (v := 3) C dX11_as_30 (by decide) ?_
      refine gz_iloadn C 1 rfl dX11_as_31 ?_
      refine gz_imul C dX11_as_32 ?_
      refine gz_iald C rfl dX11_as_33 (fun a33 => ?_)
      refine gz_istoren C [(3, .int a33), (0, .ref (w.1 32)), (1, .int p1), (2, .int p2)] dX11_as_34 (by decide) rfl ?_
      refine gz_iloadn C 3 rfl dX11_as_35 ?_
      refine gz_jn (fun K59 => ∀ (t0_59 : Int32), G x w 5 (qI w) (K59 t0_59) M17 [(1, .int p1)] 59 [.int t0_59]) ?_ ?_
      · intro t0_59
        refine gz_istore C [(4, .int t0_59), (1, .int p1)] dX11_as_59 (by decide) rfl ?_
        refine gz_iload C 0 rfl dX11_as_61 ?_
        refine gz_ifeq C 70 dX11_as_63 (by decide) ?_ ?_
        · refine gz_iconst (v := (-1)) C dX11_as_70 (by decide) ?_
          exact gz_iret C dX11_as_71
        · refine gz_iloadn C 1 rfl dX11_as_66 ?_
          refine gz_goto C 71 dX11_as_67 (by decide) ?_
          exact gz_iret C dX11_as_71
      · intro K59 hK59
        refine gz_ifeq C 54 dX11_as_36 (by decide) ?_ ?_
        · refine gz_iconst (v := 1) C dX11_as_54 (by decide) ?_
          refine gz_goto C 59 dX11_as_55 (by decide) ?_
          refine gz_sub [2] rfl ?_
          exact hK59 _
        · refine gz_iloadn C 3 rfl dX11_as_39 ?_
          refine gz_iloadn C 0 rfl dX11_as_40 ?_
          refine gz_icmpeq C 54 dX11_as_41 (by decide) ?_ ?_
          · refine gz_iconst (v := 1) C dX11_as_54 (by decide) ?_
            refine gz_goto C 59 dX11_as_55 (by decide) ?_
            refine gz_sub [2] rfl ?_
            exact hK59 _
          · refine gz_iloadn C 3 rfl dX11_as_44 ?_
            refine gz_iconst (v := 2) C dX11_as_45 (by decide) ?_
            refine gz_icmpne C 58 dX11_as_46 (by decide) ?_ ?_
            · refine gz_iloadn C 0 rfl dX11_as_49 ?_
              refine gz_iconst (v := 4) C dX11_as_50 (by decide) ?_
              refine gz_icmpne C 58 dX11_as_51 (by decide) ?_ ?_
              · refine gz_iconst (v := 1) C dX11_as_54 (by decide) ?_
                refine gz_goto C 59 dX11_as_55 (by decide) ?_
                refine gz_sub [2] rfl ?_
                exact hK59 _
              · refine gz_iconst (v := 0) C dX11_as_58 (by decide) ?_
                refine gz_sub [2] rfl ?_
                exact hK59 _
            · refine gz_iconst (v := 0) C dX11_as_58 (by decide) ?_
              refine gz_sub [2] rfl ?_
              exact hK59 _
set_option maxRecDepth 100000 in
set_option maxHeartbeats 4000000 in
theorem ct_X11_behind (l : Launch) (w : Wd) (p1 : Int32) (p2 : Int32) (p3 : Int32) (M : Mm) : CT l yX11_behind cX11_behind 5 (some .int) rm_X11_behind w (qI w) [.ref (w.1 32), .int p1, .int p2, .int p3] (sp_X11_behind p1 p2 p3 M) M := by
  refine ct_of RX11 [(0, .ref (w.1 32)), (1, .int p1), (2, .int p2), (3, .int p3)] rfl (Nat.le_of_ble_eq_true rfl) (by decide) rfl rfl rfl (fun x C => ?_)
  unfold sp_X11_behind
  refine gz_aloadn C 0 rfl dX11_behind_0 ?_
  refine gz_iloadn C 1 rfl dX11_behind_1 ?_
  refine gz_callVI 32 [.int p1] [] C kn_X11 rfl rfl (ct_X11_isMan x.2.1 w p1 M) cal_X11_isMan km_X11_228 ⟨rfl, rfl⟩ ⟨by decide, by decide⟩ rfl rfl (Nat.le_of_ble_eq_true rfl) dX11_behind_2 (fun r2 M2 => ?_)
  refine gz_ifeq C 21 dX11_behind_5 (by decide) ?_ ?_
  · refine gz_bipush (v := (-101)) C dX11_behind_21 (by decide) ?_
    exact gz_iret C dX11_behind_23
  · refine gz_aloadn C 0 rfl dX11_behind_8 ?_
    refine gz_iloadn C 2 rfl dX11_behind_9 ?_
    refine gz_callVI 32 [.int p2] [] C kn_X11 rfl rfl (ct_X11_isMan x.2.1 w p2 M2) cal_X11_isMan km_X11_228 ⟨rfl, rfl⟩ ⟨by decide, by decide⟩ rfl rfl (Nat.le_of_ble_eq_true rfl) dX11_behind_10 (fun r10 M10 => ?_)
    refine gz_ifeq C 21 dX11_behind_13 (by decide) ?_ ?_
    · refine gz_bipush (v := (-101)) C dX11_behind_21 (by decide) ?_
      exact gz_iret C dX11_behind_23
    · refine gz_iloadn C 1 rfl dX11_behind_16 ?_
      refine gz_iloadn C 2 rfl dX11_behind_17 ?_
      refine gz_icmpne C 24 dX11_behind_18 (by decide) ?_ ?_
      · refine gz_bipush (v := (-101)) C dX11_behind_21 (by decide) ?_
        exact gz_iret C dX11_behind_23
      · refine gz_aloadn C 0 rfl dX11_behind_24 ?_
        refine gz_get C 32 24 (.ref (w.1 42)) kn_X11 rfl kf_X11_38 (by decide) dX11_behind_25 (fv_R rfl rfl) ?_
        refine gz_iloadn C 1 rfl dX11_behind_28 ?_
        refine gz_iald C rfl dX11_behind_29 (fun a29 => ?_)
        refine gz_iloadn C 2 rfl dX11_behind_30 ?_
        refine gz_ishr C dX11_behind_31 ?_
        refine gz_iconst (v := 1) C dX11_behind_32 (by decide) ?_
        refine gz_iand C dX11_behind_33 ?_
        refine gz_blt (fun y34 => ?_)
        refine gz_istore C [(4, .int y34), (0, .ref (w.1 32)), (1, .int p1), (2, .int p2), (3, .int p3)] dX11_behind_34 (by decide) rfl ?_
        refine gz_aloadn C 1 rfl dX11_behind_36 ?_
        refine gz_get C 32 24 (.ref (w.1 42)) kn_X11 rfl kf_X11_38 (by decide) dX11_behind_37 (fv_R rfl rfl) ?_
        refine gz_iloadn C 2 rfl dX11_behind_40 ?_
        refine gz_iloadn C 4 rfl dX11_behind_41 ?_
        refine gz_ifeq C 58 dX11_behind_42 (by decide) ?_ ?_
        · refine gz_aloadn C 1 rfl dX11_behind_58 ?_
          refine gz_get C 32 24 (.ref (w.1 42)) kn_X11 rfl kf_X11_38 (by decide) dX11_behind_59 (fv_R rfl rfl) ?_
          refine gz_iloadn C 2 rfl dX11_behind_62 ?_
          refine gz_iald C rfl dX11_behind_63 (fun a63 => ?_)
          refine gz_iconst (v := 1) C dX11_behind_64 (by decide) ?_
          refine gz_iloadn C 3 rfl dX11_behind_65 ?_
          refine gz_ishl C dX11_behind_66 ?_
          refine gz_iconst (v := (-1)) C dX11_behind_67 (by decide) ?_
          refine gz_ixor C dX11_behind_68 ?_
          refine gz_iand C dX11_behind_69 ?_
          refine gz_iast C rfl dX11_behind_70 (fun M70 => ?_)
          refine gz_iload C 0 rfl dX11_behind_71 ?_
          exact gz_iret C dX11_behind_73
        · refine gz_aloadn C 1 rfl dX11_behind_45 ?_
          refine gz_get C 32 24 (.ref (w.1 42)) kn_X11 rfl kf_X11_38 (by decide) dX11_behind_46 (fv_R rfl rfl) ?_
          refine gz_iloadn C 2 rfl dX11_behind_49 ?_
          refine gz_iald C rfl dX11_behind_50 (fun a50 => ?_)
          refine gz_iconst (v := 1) C dX11_behind_51 (by decide) ?_
          refine gz_iloadn C 3 rfl dX11_behind_52 ?_
          refine gz_ishl C dX11_behind_53 ?_
          refine gz_ior C dX11_behind_54 ?_
          refine gz_goto C 70 dX11_behind_55 (by decide) ?_
          refine gz_iast C rfl dX11_behind_70 (fun M70 => ?_)
          refine gz_iload C 0 rfl dX11_behind_71 ?_
          exact gz_iret C dX11_behind_73
set_option maxRecDepth 100000 in
set_option maxHeartbeats 4000000 in
theorem ct_X11_hawser (l : Launch) (w : Wd) (p1 : Int32) (M : Mm) : CT l yX11_hawser cX11_hawser 3 (some .int) rm_X11_hawser w (qI w) [.ref (w.1 32), .int p1] (sp_X11_hawser p1 M) M := by
  refine ct_of RX11 [(0, .ref (w.1 32)), (1, .int p1)] rfl (Nat.le_of_ble_eq_true rfl) (by decide) rfl rfl rfl (fun x C => ?_)
  unfold sp_X11_hawser
  refine gz_iloadn C 1 rfl dX11_hawser_0 ?_
  refine gz_i2l C dX11_hawser_1 ?_
  refine gz_lconst (v := 0) C dX11_hawser_2 (by decide) ?_
  refine gz_ldc2 C kl_X11_234 dX11_hawser_3 ?_
  refine gz_callSI [.long (p1.toInt64), .long (0 : Int64), .long (60 : Int64)] [] C (ct_X11_in x.2.1 w (p1.toInt64) (0 : Int64) (60 : Int64) M) cal_X11_in (Or.inl km_X11_77) ⟨rfl, rfl⟩ ⟨by decide, by decide⟩ rfl rfl (Nat.le_of_ble_eq_true rfl) dX11_hawser_6 (fun r6 M6 => ?_)
  refine gz_ifne C 15 dX11_hawser_9 (by decide) ?_ ?_
  · refine gz_bipush (v := (-102)) C dX11_hawser_12 (by decide) ?_
    exact gz_iret C dX11_hawser_14
  · refine gz_aloadn C 0 rfl dX11_hawser_15 ?_
    refine gz_callVI 32 [] [] C kn_X11 rfl rfl (ct_X11_lacks x.2.1 w M6) cal_X11_lacks km_X11_145 ⟨rfl, rfl⟩ ⟨by decide, by decide⟩ rfl rfl (Nat.le_of_ble_eq_true rfl) dX11_hawser_16 (fun r16 M16 => ?_)
    refine gz_ifeq C 25 dX11_hawser_19 (by decide) ?_ ?_
    · refine gz_aloadn C 0 rfl dX11_hawser_25 ?_
      refine gz_get C 32 13 (.int (gI M16 32 13)) kn_X11 rfl kf_X11_72 (by decide) dX11_hawser_26 (fv_I rfl) ?_
      refine gz_blt (fun y29 => ?_)
      refine gz_istoren C [(2, .int y29), (0, .ref (w.1 32)), (1, .int p1)] dX11_hawser_29 (by decide) rfl ?_
      refine gz_aloadn C 1 rfl dX11_hawser_30 ?_
      refine gz_iloadn C 2 rfl dX11_hawser_31 ?_
      refine gz_putI C 32 13 kn_X11 rfl kf_X11_72 (by decide) rfl rfl (tyX11_ok 13 (by decide)) rfl rfl dX11_hawser_32 (fun M32 => ?_)
      refine gz_iloadn C 0 rfl dX11_hawser_35 ?_
      exact gz_iret C dX11_hawser_36
    · refine gz_bipush (v := (-103)) C dX11_hawser_22 (by decide) ?_
      exact gz_iret C dX11_hawser_24
set_option maxRecDepth 100000 in
set_option maxHeartbeats 4000000 in
theorem ct_X11_come (l : Launch) (w : Wd) (p1 : Int32) (M : Mm) : CT l yX11_come cX11_come 2 (some .int) rm_X11_come w (qI w) [.ref (w.1 32), .int p1] (sp_X11_come p1 M) M := by
  refine ct_of RX11 [(0, .ref (w.1 32)), (1, .int p1)] rfl (Nat.le_of_ble_eq_true rfl) (by decide) rfl rfl rfl (fun x C => ?_)
  unfold sp_X11_come
  refine gz_aloadn C 0 rfl dX11_come_0 ?_
  refine gz_iloadn C 1 rfl dX11_come_1 ?_
  refine gz_callVI 32 [.int p1] [] C kn_X11 rfl rfl (ct_X11_isMan x.2.1 w p1 M) cal_X11_isMan km_X11_228 ⟨rfl, rfl⟩ ⟨by decide, by decide⟩ rfl rfl (Nat.le_of_ble_eq_true rfl) dX11_come_2 (fun r2 M2 => ?_)
  refine gz_ifne C 11 dX11_come_5 (by decide) ?_ ?_
  · refine gz_bipush (v := (-101)) C dX11_come_8 (by decide) ?_
    exact gz_iret C dX11_come_10
  · refine gz_aloadn C 0 rfl dX11_come_11 ?_
    refine gz_iloadn C 1 rfl dX11_come_12 ?_
    refine gz_callVI 32 [.int p1] [] C kn_X11 rfl rfl (ct_X11_mayCome x.2.1 w p1 M2) cal_X11_mayCome km_X11_225 ⟨rfl, rfl⟩ ⟨by decide, by decide⟩ rfl rfl (Nat.le_of_ble_eq_true rfl) dX11_come_13 (fun r13 M13 => ?_)
    refine gz_ifne C 22 dX11_come_16 (by decide) ?_ ?_
    · refine gz_bipush (v := (-103)) C dX11_come_19 (by decide) ?_
      exact gz_iret C dX11_come_21
    · refine gz_aloadn C 0 rfl dX11_come_22 ?_
      refine gz_dup C dX11_come_23 rfl ?_
      refine gz_get C 32 10 (.int (gI M13 32 10)) kn_X11 rfl kf_X11_115 (by decide) dX11_come_24 (fv_I rfl) ?_
      refine gz_aloadn C 0 rfl dX11_come_27 ?_
      refine gz_iloadn C 1 rfl dX11_come_28 ?_
      refine gz_callVI 32 [.int p1] [.int (gI M13 32 10), .ref (w.1 32)] C kn_X11 rfl rfl (ct_X11_takes x.2.1 w p1 M13) cal_X11_takes km_X11_222 ⟨rfl, rfl⟩ ⟨by decide, by decide⟩ rfl rfl (Nat.le_of_ble_eq_true rfl) dX11_come_29 (fun r29 M29 => ?_)
      refine gz_iadd C dX11_come_32 ?_
      refine gz_putI C 32 10 kn_X11 rfl kf_X11_115 (by decide) rfl rfl (tyX11_ok 10 (by decide)) rfl rfl dX11_come_33 (fun M33 => ?_)
      refine gz_aloadn C 0 rfl dX11_come_36 ?_
      refine gz_get C 32 23 (.ref (w.1 41)) kn_X11 rfl kf_X11_35 (by decide) dX11_come_37 (fv_R rfl rfl) ?_
      refine gz_iconst (v := 3) C dX11_come_40 (by decide) ?_
      refine gz_iloadn C 1 rfl dX11_come_41 ?_
      refine gz_imul C dX11_come_42 ?_
      refine gz_iconst (v := 2) C dX11_come_43 (by decide) ?_
      refine gz_iadd C dX11_come_44 ?_
      refine gz_aloadn C 0 rfl dX11_come_45 ?_
      refine gz_get C 32 10 (.int (gI M33 32 10)) kn_X11 rfl kf_X11_115 (by decide) dX11_come_46 (fv_I rfl) ?_
      refine gz_iast C rfl dX11_come_49 (fun M49 => ?_)
      refine gz_aloadn C 0 rfl dX11_come_50 ?_
      refine gz_get C 32 10 (.int (gI M49 32 10)) kn_X11 rfl kf_X11_115 (by decide) dX11_come_51 (fv_I rfl) ?_
      exact gz_iret C dX11_come_54
