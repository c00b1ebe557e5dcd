set_option maxRecDepth 100000 in
set_option maxHeartbeats 4000000 in
theorem ct_X8_countWays (l : Launch) (w : Wd) (M : Mm) : CT l yX8_countWays cX8_countWays 4 none rm_X8_countWays w (qV w) [.ref (w.1 27)] (sp_X8_countWays M) M := by
  refine ct_of RX8 [(0, .ref (w.1 27))] rfl (Nat.le_of_ble_eq_true rfl) (by decide) rfl rfl rfl (fun x C => ?_)
  unfold sp_X8_countWays
  refine gz_aloadn C 0 rfl dX8_countWays_0 ?_
  refine gz_get C 27 3 (.ref (w.1 29)) kn_X8 rfl kf_X8_15 (by decide) dX8_countWays_1 (fv_R rfl rfl) ?_
  refine gz_iconst (v := 0) C dX8_countWays_4 (by decide) ?_
  refine gz_callSV [.ref (w.1 29), .int (0 : Int32)] [] C (ct_J7_fill_53178 x.2.1 w 29 rfl (0 : Int32) M) cal_J7_fill_53178 (Or.inl km_X8_70) ⟨rfl, rfl⟩ ⟨by decide, by decide⟩ rfl rfl (Nat.le_of_ble_eq_true rfl) dX8_countWays_5 (fun _ M5 => ?_)
  refine gz_aloadn C 0 rfl dX8_countWays_8 ?_
  refine gz_get C 27 3 (.ref (w.1 29)) kn_X8 rfl kf_X8_15 (by decide) dX8_countWays_9 (fv_R rfl rfl) ?_
  refine gz_iconst (v := 0) C dX8_countWays_12 (by decide) ?_
  refine gz_iconst (v := 1) C dX8_countWays_13 (by decide) ?_
  refine gz_callSV [.ref (w.1 29), .int (0 : Int32), .int (1 : Int32)] [] C (ct_X10_put x.2.1 w 29 rfl (0 : Int32) (1 : Int32) M5) cal_X10_put (Or.inr ⟨_, List.mem_of_getElem? (i := 38) rfl⟩) ⟨rfl, rfl⟩ ⟨by decide, by decide⟩ rfl rfl (Nat.le_of_ble_eq_true rfl) dX8_countWays_14 (fun _ M14 => ?_)
  refine gz_iconst (v := 0) C dX8_countWays_17 (by decide) ?_
  refine gz_istoren C [(1, .int (0 : Int32)), (0, .ref (w.1 27))] dX8_countWays_18 (by decide) rfl ?_
  have hL19 : ∀ (n19 : Nat) (v1_19 : Int32) (M_19 : Mm), G x w 4 (qV w) (sp_X8_countWays_L19 n19 v1_19 M_19) M_19 [(0, .ref (w.1 27)), (1, .int v1_19)] 19 [] := by
    intro n19
    induction n19 with
    | zero => intros; exact gz_none
    | succ n19 ih19 =>
      intro v1_19 M_19
      rw [sp_X8_countWays_L19]
      refine gz_iloadn C 1 rfl dX8_countWays_19 ?_
      refine gz_aloadn C 0 rfl dX8_countWays_20 ?_
      refine gz_get C 27 1 (.int (gI M_19 27 1)) kn_X8 rfl kf_X8_32 (by decide) dX8_countWays_21 (fv_I rfl) ?_
      refine gz_icmpgt C 89 dX8_countWays_24 (by decide) ?_ ?_
      · exact gz_vret C dX8_countWays_89
      · refine gz_iconst (v := 0) C dX8_countWays_27 (by decide) ?_
        refine gz_istoren C [(2, .int (0 : Int32)), (0, .ref (w.1 27)), (1, .int v1_19)] dX8_countWays_28 (by decide) rfl ?_
        refine gz_jn (fun K83 => ∀ (M_83 : Mm), G x w 4 (qV w) (K83 M_83) M_83 [(0, .ref (w.1 27)), (1, .int v1_19)] 83 []) ?_ ?_
        · intro M_83
          refine gz_iinc (v' := v1_19 + 1) C 1 [(1, .int (v1_19 + 1)), (0, .ref (w.1 27))] rfl dX8_countWays_83 rfl (by decide) rfl ?_
          refine gz_goto C 19 dX8_countWays_86 (by decide) ?_
          refine gz_sub [1, 0] rfl ?_
          exact ih19 _ _
        · intro K83 hK83
          have hL29 : ∀ (n29 : Nat) (v2_29 : Int32) (M_29 : Mm), G x w 4 (qV w) (sp_X8_countWays_L29 v1_19 K83 n29 v2_29 M_29) M_29 [(0, .ref (w.1 27)), (1, .int v1_19), (2, .int v2_29)] 29 [] := by
            intro n29
            induction n29 with
            | zero => intros; exact gz_none
            | succ n29 ih29 =>
              intro v2_29 M_29
              rw [sp_X8_countWays_L29]
              refine gz_iloadn C 2 rfl dX8_countWays_29 ?_
              refine gz_aloadn C 0 rfl dX8_countWays_30 ?_
              refine gz_get C 27 0 (.int (gI M_29 27 0)) kn_X8 rfl kf_X8_27 (by decide) dX8_countWays_31 (fv_I rfl) ?_
              refine gz_icmpge C 83 dX8_countWays_34 (by decide) ?_ ?_
              · refine gz_aloadn C 0 rfl dX8_countWays_37 ?_
                refine gz_iloadn C 1 rfl dX8_countWays_38 ?_
                refine gz_iloadn C 2 rfl dX8_countWays_39 ?_
                refine gz_callVI 27 [.int v1_19, .int v2_29] [] C kn_X8 rfl rfl (ct_X8_mayFollow x.2.1 w v1_19 v2_29 M_29) cal_X8_mayFollow km_X8_57 ⟨rfl, rfl⟩ ⟨by decide, by decide⟩ rfl rfl (Nat.le_of_ble_eq_true rfl) dX8_countWays_40 (fun r40 M40 => ?_)
                refine gz_ifeq C 77 dX8_countWays_43 (by decide) ?_ ?_
                · refine gz_iinc (v' := v2_29 + 1) C 2 [(2, .int (v2_29 + 1)), (0, .ref (w.1 27)), (1, .int v1_19)] rfl dX8_countWays_77 rfl (by decide) rfl ?_
                  refine gz_goto C 29 dX8_countWays_80 (by decide) ?_
                  refine gz_sub [1, 2, 0] rfl ?_
                  exact ih29 _ _
                · refine gz_iloadn C 1 rfl dX8_countWays_46 ?_
                  refine gz_iloadn C 2 rfl dX8_countWays_47 ?_
                  refine gz_callSI [.int v1_19, .int v2_29] [] C (ct_X10_with x.2.1 w v1_19 v2_29 M40) cal_X10_with (Or.inr ⟨_, List.mem_of_getElem? (i := 42) rfl⟩) ⟨rfl, rfl⟩ ⟨by decide, by decide⟩ rfl rfl (Nat.le_of_ble_eq_true rfl) dX8_countWays_48 (fun r48 M48 => ?_)
                  refine gz_istoren C [(3, .int r48), (0, .ref (w.1 27)), (1, .int v1_19), (2, .int v2_29)] dX8_countWays_51 (by decide) rfl ?_
                  refine gz_aloadn C 1 rfl dX8_countWays_52 ?_
                  refine gz_get C 27 3 (.ref (w.1 29)) kn_X8 rfl kf_X8_15 (by decide) dX8_countWays_53 (fv_R rfl rfl) ?_
                  refine gz_iloadn C 0 rfl dX8_countWays_56 ?_
                  refine gz_aloadn C 1 rfl dX8_countWays_57 ?_
                  refine gz_get C 27 3 (.ref (w.1 29)) kn_X8 rfl kf_X8_15 (by decide) dX8_countWays_58 (fv_R rfl rfl) ?_
                  refine gz_iloadn C 0 rfl dX8_countWays_61 ?_
                  refine gz_callSI [.ref (w.1 29), .int r48] [.int r48, .ref (w.1 29)] C (ct_X10_at x.2.1 w 29 rfl r48 M48) cal_X10_at (Or.inr ⟨_, List.mem_of_getElem? (i := 40) rfl⟩) ⟨rfl, rfl⟩ ⟨by decide, by decide⟩ rfl rfl (Nat.le_of_ble_eq_true rfl) dX8_countWays_62 (fun r62 M62 => ?_)
                  refine gz_aloadn C 1 rfl dX8_countWays_65 ?_
                  refine gz_get C 27 3 (.ref (w.1 29)) kn_X8 rfl kf_X8_15 (by decide) dX8_countWays_66 (fv_R rfl rfl) ?_
                  refine gz_iloadn C 2 rfl dX8_countWays_69 ?_
                  refine gz_callSI [.ref (w.1 29), .int v1_19] [.int r62, .int r48, .ref (w.1 29)] C (ct_X10_at x.2.1 w 29 rfl v1_19 M62) cal_X10_at (Or.inr ⟨_, List.mem_of_getElem? (i := 40) rfl⟩) ⟨rfl, rfl⟩ ⟨by decide, by decide⟩ rfl rfl (Nat.le_of_ble_eq_true rfl) dX8_countWays_70 (fun r70 M70 => ?_)
                  refine gz_iadd C dX8_countWays_73 ?_
                  refine gz_callSV [.ref (w.1 29), .int r48, .int (r62 + r70)] [] C (ct_X10_put x.2.1 w 29 rfl r48 (r62 + r70) M70) cal_X10_put (Or.inr ⟨_, List.mem_of_getElem? (i := 38) rfl⟩) ⟨rfl, rfl⟩ ⟨by decide, by decide⟩ rfl rfl (Nat.le_of_ble_eq_true rfl) dX8_countWays_74 (fun _ M74 => ?_)
                  refine gz_iinc (v' := v2_29 + 1) C 3 [(2, .int (v2_29 + 1)), (3, .int r48), (0, .ref (w.1 27)), (1, .int v1_19)] rfl dX8_countWays_77 rfl (by decide) rfl ?_
                  refine gz_goto C 29 dX8_countWays_80 (by decide) ?_
                  refine gz_sub [2, 3, 0] rfl ?_
                  exact ih29 _ _
              · refine gz_sub [0, 1] rfl ?_
                exact hK83 _
          refine gz_sub [1, 2, 0] rfl ?_
          exact hL29 fu _ _
  refine gz_sub [1, 0] rfl ?_
  exact hL19 fu _ _
set_option maxRecDepth 100000 in
set_option maxHeartbeats 4000000 in
theorem ct_X8_countRests (l : Launch) (w : Wd) (M : Mm) : CT l yX8_countRests cX8_countRests 3 none rm_X8_countRests w (qV w) [.ref (w.1 27)] (sp_X8_countRests M) M := by
  refine ct_of RX8 [(0, .ref (w.1 27))] rfl (Nat.le_of_ble_eq_true rfl) (by decide) rfl rfl rfl (fun x C => ?_)
  unfold sp_X8_countRests
  refine gz_aloadn C 0 rfl dX8_countRests_0 ?_
  refine gz_get C 27 4 (.ref (w.1 30)) kn_X8 rfl kf_X8_18 (by decide) dX8_countRests_1 (fv_R rfl rfl) ?_
  refine gz_iconst (v := 0) C dX8_countRests_4 (by decide) ?_
  refine gz_callSV [.ref (w.1 30), .int (0 : Int32)] [] C (ct_J7_fill_53178 x.2.1 w 30 rfl (0 : Int32) M) cal_J7_fill_53178 (Or.inl km_X8_70) ⟨rfl, rfl⟩ ⟨by decide, by decide⟩ rfl rfl (Nat.le_of_ble_eq_true rfl) dX8_countRests_5 (fun _ M5 => ?_)
  refine gz_aloadn C 0 rfl dX8_countRests_8 ?_
  refine gz_get C 27 4 (.ref (w.1 30)) kn_X8 rfl kf_X8_18 (by decide) dX8_countRests_9 (fv_R rfl rfl) ?_
  refine gz_aloadn C 0 rfl dX8_countRests_12 ?_
  refine gz_get C 27 1 (.int (gI M5 27 1)) kn_X8 rfl kf_X8_32 (by decide) dX8_countRests_13 (fv_I rfl) ?_
  refine gz_iconst (v := 1) C dX8_countRests_16 (by decide) ?_
  refine gz_callSV [.ref (w.1 30), .int (gI M5 27 1), .int (1 : Int32)] [] C (ct_X10_put x.2.1 w 30 rfl (gI M5 27 1) (1 : Int32) M5) cal_X10_put (Or.inr ⟨_, List.mem_of_getElem? (i := 38) rfl⟩) ⟨rfl, rfl⟩ ⟨by decide, by decide⟩ rfl rfl (Nat.le_of_ble_eq_true rfl) dX8_countRests_17 (fun _ M17 => ?_)
  refine gz_aloadn C 0 rfl dX8_countRests_20 ?_
  refine gz_get C 27 1 (.int (gI M17 27 1)) kn_X8 rfl kf_X8_32 (by decide) dX8_countRests_21 (fv_I rfl) ?_
  refine gz_blt (fun y24 => ?_)
  refine gz_istoren C [(1, .int y24), (0, .ref (w.1 27))] dX8_countRests_24 (by decide) rfl ?_
  have hL25 : ∀ (n25 : Nat) (v1_25 : Int32) (M_25 : Mm), G x w 3 (qV w) (sp_X8_countRests_L25 n25 v1_25 M_25) M_25 [(0, .ref (w.1 27)), (1, .int v1_25)] 25 [] := by
    intro n25
    induction n25 with
    | zero => intros; exact gz_none
    | succ n25 ih25 =>
      intro v1_25 M_25
      rw [sp_X8_countRests_L25]
      refine gz_iloadn C 1 rfl dX8_countRests_25 ?_
      refine gz_iflt C 89 dX8_countRests_26 (by decide) ?_ ?_
      · exact gz_vret C dX8_countRests_89
      · refine gz_iconst (v := 0) C dX8_countRests_29 (by decide) ?_
        refine gz_istoren C [(2, .int (0 : Int32)), (0, .ref (w.1 27)), (1, .int v1_25)] dX8_countRests_30 (by decide) rfl ?_
        refine gz_jn (fun K83 => ∀ (M_83 : Mm), G x w 3 (qV w) (K83 M_83) M_83 [(0, .ref (w.1 27)), (1, .int v1_25)] 83 []) ?_ ?_
        · intro M_83
          refine gz_iinc (v' := v1_25 + (-1)) C 1 [(1, .int (v1_25 + (-1))), (0, .ref (w.1 27))] rfl dX8_countRests_83 rfl (by decide) rfl ?_
          refine gz_goto C 25 dX8_countRests_86 (by decide) ?_
          refine gz_sub [1, 0] rfl ?_
          exact ih25 _ _
        · intro K83 hK83
          have hL31 : ∀ (n31 : Nat) (v2_31 : Int32) (M_31 : Mm), G x w 3 (qV w) (sp_X8_countRests_L31 v1_25 K83 n31 v2_31 M_31) M_31 [(0, .ref (w.1 27)), (1, .int v1_25), (2, .int v2_31)] 31 [] := by
            intro n31
            induction n31 with
            | zero => intros; exact gz_none
            | succ n31 ih31 =>
              intro v2_31 M_31
              rw [sp_X8_countRests_L31]
              refine gz_iloadn C 2 rfl dX8_countRests_31 ?_
              refine gz_aloadn C 0 rfl dX8_countRests_32 ?_
              refine gz_get C 27 0 (.int (gI M_31 27 0)) kn_X8 rfl kf_X8_27 (by decide) dX8_countRests_33 (fv_I rfl) ?_
              refine gz_icmpge C 83 dX8_countRests_36 (by decide) ?_ ?_
              · refine gz_aloadn C 0 rfl dX8_countRests_39 ?_
                refine gz_iloadn C 1 rfl dX8_countRests_40 ?_
                refine gz_iloadn C 2 rfl dX8_countRests_41 ?_
                refine gz_callVI 27 [.int v1_25, .int v2_31] [] C kn_X8 rfl rfl (ct_X8_mayFollow x.2.1 w v1_25 v2_31 M_31) cal_X8_mayFollow km_X8_57 ⟨rfl, rfl⟩ ⟨by decide, by decide⟩ rfl rfl (Nat.le_of_ble_eq_true rfl) dX8_countRests_42 (fun r42 M42 => ?_)
                refine gz_ifeq C 77 dX8_countRests_45 (by decide) ?_ ?_
                · refine gz_iinc (v' := v2_31 + 1) C 2 [(2, .int (v2_31 + 1)), (0, .ref (w.1 27)), (1, .int v1_25)] rfl dX8_countRests_77 rfl (by decide) rfl ?_
                  refine gz_goto C 31 dX8_countRests_80 (by decide) ?_
                  refine gz_sub [1, 2, 0] rfl ?_
                  exact ih31 _ _
                · refine gz_aloadn C 0 rfl dX8_countRests_48 ?_
                  refine gz_get C 27 4 (.ref (w.1 30)) kn_X8 rfl kf_X8_18 (by decide) dX8_countRests_49 (fv_R rfl rfl) ?_
                  refine gz_iloadn C 1 rfl dX8_countRests_52 ?_
                  refine gz_aloadn C 0 rfl dX8_countRests_53 ?_
                  refine gz_get C 27 4 (.ref (w.1 30)) kn_X8 rfl kf_X8_18 (by decide) dX8_countRests_54 (fv_R rfl rfl) ?_
                  refine gz_iloadn C 1 rfl dX8_countRests_57 ?_
                  refine gz_callSI [.ref (w.1 30), .int v1_25] [.int v1_25, .ref (w.1 30)] C (ct_X10_at x.2.1 w 30 rfl v1_25 M42) cal_X10_at (Or.inr ⟨_, List.mem_of_getElem? (i := 40) rfl⟩) ⟨rfl, rfl⟩ ⟨by decide, by decide⟩ rfl rfl (Nat.le_of_ble_eq_true rfl) dX8_countRests_58 (fun r58 M58 => ?_)
                  refine gz_aloadn C 0 rfl dX8_countRests_61 ?_
                  refine gz_get C 27 4 (.ref (w.1 30)) kn_X8 rfl kf_X8_18 (by decide) dX8_countRests_62 (fv_R rfl rfl) ?_
                  refine gz_iloadn C 1 rfl dX8_countRests_65 ?_
                  refine gz_iloadn C 2 rfl dX8_countRests_66 ?_
                  refine gz_callSI [.int v1_25, .int v2_31] [.ref (w.1 30), .int r58, .int v1_25, .ref (w.1 30)] C (ct_X10_with x.2.1 w v1_25 v2_31 M58) cal_X10_with (Or.inr ⟨_, List.mem_of_getElem? (i := 42) rfl⟩) ⟨rfl, rfl⟩ ⟨by decide, by decide⟩ rfl rfl (Nat.le_of_ble_eq_true rfl) dX8_countRests_67 (fun r67 M67 => ?_)
                  refine gz_callSI [.ref (w.1 30), .int r67] [.int r58, .int v1_25, .ref (w.1 30)] C (ct_X10_at x.2.1 w 30 rfl r67 M67) cal_X10_at (Or.inr ⟨_, List.mem_of_getElem? (i := 40) rfl⟩) ⟨rfl, rfl⟩ ⟨by decide, by decide⟩ rfl rfl (Nat.le_of_ble_eq_true rfl) dX8_countRests_70 (fun r70 M70 => ?_)
                  refine gz_iadd C dX8_countRests_73 ?_
                  refine gz_callSV [.ref (w.1 30), .int v1_25, .int (r58 + r70)] [] C (ct_X10_put x.2.1 w 30 rfl v1_25 (r58 + r70) M70) cal_X10_put (Or.inr ⟨_, List.mem_of_getElem? (i := 38) rfl⟩) ⟨rfl, rfl⟩ ⟨by decide, by decide⟩ rfl rfl (Nat.le_of_ble_eq_true rfl) dX8_countRests_74 (fun _ M74 => ?_)
                  refine gz_iinc (v' := v2_31 + 1) C 2 [(2, .int (v2_31 + 1)), (0, .ref (w.1 27)), (1, .int v1_25)] rfl dX8_countRests_77 rfl (by decide) rfl ?_
                  refine gz_goto C 31 dX8_countRests_80 (by decide) ?_
                  refine gz_sub [1, 2, 0] rfl ?_
                  exact ih31 _ _
              · refine gz_sub [0, 1] rfl ?_
                exact hK83 _
          refine gz_sub [1, 2, 0] rfl ?_
          exact hL31 fu _ _
  refine gz_sub [1, 0] rfl ?_
  exact hL25 fu _ _
set_option maxRecDepth 100000 in
set_option maxHeartbeats 4000000 in
theorem ct_X1_saidAhead (l : Launch) (w : Wd) (p1 : Int32) (M : Mm) : CT l yX1_saidAhead cX1_saidAhead 2 (some .int) rm_X1_saidAhead w (qI w) [.ref (w.1 13), .int p1] (sp_X1_saidAhead p1 M) M := by
  refine ct_of RX1 [(0, .ref (w.1 13)), (1, .int p1)] rfl (Nat.le_of_ble_eq_true rfl) (by decide) rfl rfl rfl (fun x C => ?_)
  unfold sp_X1_saidAhead
  refine gz_aloadn C 0 rfl dX1_saidAhead_0 ?_
  refine gz_get C 13 9 (.ref (w.1 15)) kn_X1 rfl kf_X1_19 (by decide) dX1_saidAhead_1 (fv_R rfl rfl) ?_
  refine gz_iloadn C 1 rfl dX1_saidAhead_4 ?_
  refine gz_callSI [.ref (w.1 15), .int p1] [] C (ct_X10_at x.2.1 w 15 rfl p1 M) cal_X10_at (Or.inr ⟨_, List.mem_of_getElem? (i := 25) rfl⟩) ⟨rfl, rfl⟩ ⟨by decide, by decide⟩ rfl rfl (Nat.le_of_ble_eq_true rfl) dX1_saidAhead_5 (fun r5 M5 => ?_)
  exact gz_iret C dX1_saidAhead_8
set_option maxRecDepth 100000 in
set_option maxHeartbeats 4000000 in
theorem ct_X8_search (l : Launch) (w : Wd) (M : Mm) : CT l yX8_search cX8_search 4 none rm_X8_search w (qV w) [.ref (w.1 27), .ref (w.1 9), .ref (w.1 13)] (sp_X8_search M) M := by
  refine ct_of RX8 [(0, .ref (w.1 27)), (1, .ref (w.1 9)), (2, .ref (w.1 13))] rfl (Nat.le_of_ble_eq_true rfl) (by decide) rfl rfl rfl (fun x C => ?_)
  unfold sp_X8_search
  refine gz_aloadn C 0 rfl dX8_search_0 ?_
  refine gz_aloadn C 1 rfl dX8_search_1 ?_
  refine gz_get C 9 0 (.int (gI M 9 0)) kn_X2 rfl kf_X8_21 (by decide) dX8_search_2 (fv_I rfl) ?_
  refine gz_putI C 27 0 kn_X8 rfl kf_X8_27 (by decide) rfl rfl (tyX8_ok 0 (by decide)) rfl rfl dX8_search_5 (fun M5 => ?_)
  refine gz_aloadn C 0 rfl dX8_search_8 ?_
  refine gz_aloadn C 1 rfl dX8_search_9 ?_
  refine gz_callVI 9 [] [.ref (w.1 27)] C kn_X2 rfl rfl (ct_X2_all x.2.1 w M5) cal_X2_all km_X8_28 ⟨rfl, rfl⟩ ⟨by decide, by decide⟩ rfl rfl (Nat.le_of_ble_eq_true rfl) dX8_search_10 (fun r10 M10 => ?_)
  refine gz_putI C 27 1 kn_X8 rfl kf_X8_32 (by decide) rfl rfl (tyX8_ok 1 (by decide)) rfl rfl dX8_search_13 (fun M13 => ?_)
  refine gz_iconst (v := 0) C dX8_search_16 (by decide) ?_
  refine gz_istoren C [(3, .int (0 : Int32)), (0, .ref (w.1 27)), (1, .ref (w.1 9)), (2, .ref (w.1 13))] dX8_search_17 (by decide) rfl ?_
  refine gz_jn (fun K51 => ∀ (M_51 : Mm), G x w 4 (qV w) (K51 M_51) M_51 [(0, .ref (w.1 27))] 51 []) ?_ ?_
  · intro M_51
    refine gz_aloadn C 0 rfl dX8_search_51 ?_
    refine gz_callVV 27 [] [] C kn_X8 rfl rfl (ct_X8_countWays x.2.1 w M_51) cal_X8_countWays km_X8_47 ⟨rfl, rfl⟩ ⟨by decide, by decide⟩ rfl rfl (Nat.le_of_ble_eq_true rfl) dX8_search_52 (fun _ M52 => ?_)
    refine gz_aloadn C 0 rfl dX8_search_55 ?_
    refine gz_callVV 27 [] [] C kn_X8 rfl rfl (ct_X8_countRests x.2.1 w M52) cal_X8_countRests km_X8_50 ⟨rfl, rfl⟩ ⟨by decide, by decide⟩ rfl rfl (Nat.le_of_ble_eq_true rfl) dX8_search_56 (fun _ M56 => ?_)
    exact gz_vret C dX8_search_59
  · intro K51 hK51
    have hL18 : ∀ (n18 : Nat) (v3_18 : Int32) (M_18 : Mm), G x w 4 (qV w) (sp_X8_search_L18 K51 n18 v3_18 M_18) M_18 [(0, .ref (w.1 27)), (1, .ref (w.1 9)), (2, .ref (w.1 13)), (3, .int v3_18)] 18 [] := by
      intro n18
      induction n18 with
      | zero => intros; exact gz_none
      | succ n18 ih18 =>
        intro v3_18 M_18
        rw [sp_X8_search_L18]
        refine gz_iloadn C 3 rfl dX8_search_18 ?_
        refine gz_aloadn C 0 rfl dX8_search_19 ?_
        refine gz_get C 27 0 (.int (gI M_18 27 0)) kn_X8 rfl kf_X8_27 (by decide) dX8_search_20 (fv_I rfl) ?_
        refine gz_icmpge C 51 dX8_search_23 (by decide) ?_ ?_
        · refine gz_aloadn C 0 rfl dX8_search_26 ?_
          refine gz_get C 27 2 (.ref (w.1 28)) kn_X8 rfl kf_X8_9 (by decide) dX8_search_27 (fv_R rfl rfl) ?_
          refine gz_iloadn C 3 rfl dX8_search_30 ?_
          refine gz_aloadn C 1 rfl dX8_search_31 ?_
          refine gz_iloadn C 3 rfl dX8_search_32 ?_
          refine gz_callVI 9 [.int v3_18] [.int v3_18, .ref (w.1 28)] C kn_X2 rfl rfl (ct_X2_ahead x.2.1 w v3_18 M_18) cal_X2_ahead km_X8_34 ⟨rfl, rfl⟩ ⟨by decide, by decide⟩ rfl rfl (Nat.le_of_ble_eq_true rfl) dX8_search_33 (fun r33 M33 => ?_)
          refine gz_aloadn C 2 rfl dX8_search_36 ?_
          refine gz_iloadn C 3 rfl dX8_search_37 ?_
          refine gz_callVI 13 [.int v3_18] [.int r33, .int v3_18, .ref (w.1 28)] C kn_X1 rfl rfl (ct_X1_saidAhead x.2.1 w v3_18 M33) cal_X1_saidAhead km_X8_38 ⟨rfl, rfl⟩ ⟨by decide, by decide⟩ rfl rfl (Nat.le_of_ble_eq_true rfl) dX8_search_38 (fun r38 M38 => ?_)
          refine gz_ior C dX8_search_41 ?_
          refine gz_callSV [.ref (w.1 28), .int v3_18, .int (r33 ||| r38)] [] C (ct_X10_put x.2.1 w 28 rfl v3_18 (r33 ||| r38) M38) cal_X10_put (Or.inr ⟨_, List.mem_of_getElem? (i := 38) rfl⟩) ⟨rfl, rfl⟩ ⟨by decide, by decide⟩ rfl rfl (Nat.le_of_ble_eq_true rfl) dX8_search_42 (fun _ M42 => ?_)
          refine gz_iinc (v' := v3_18 + 1) C 3 [(3, .int (v3_18 + 1)), (0, .ref (w.1 27)), (1, .ref (w.1 9)), (2, .ref (w.1 13))] rfl dX8_search_45 rfl (by decide) rfl ?_
          refine gz_goto C 18 dX8_search_48 (by decide) ?_
          refine gz_sub [1, 2, 3, 0] rfl ?_
          exact ih18 _ _
        · refine gz_sub [0] rfl ?_
          exact hK51 _
    refine gz_sub [1, 2, 3, 0] rfl ?_
    exact hL18 fu _ _
set_option maxRecDepth 100000 in
set_option maxHeartbeats 4000000 in
theorem ct_X8_total (l : Launch) (w : Wd) (M : Mm) : CT l yX8_total cX8_total 1 (some .int) rm_X8_total w (qI w) [.ref (w.1 27)] (sp_X8_total M) M := by
  refine ct_of RX8 [(0, .ref (w.1 27))] rfl (Nat.le_of_ble_eq_true rfl) (by decide) rfl rfl rfl (fun x C => ?_)
  unfold sp_X8_total
  refine gz_aloadn C 0 rfl dX8_total_0 ?_
  refine gz_get C 27 4 (.ref (w.1 30)) kn_X8 rfl kf_X8_18 (by decide) dX8_total_1 (fv_R rfl rfl) ?_
  refine gz_iconst (v := 0) C dX8_total_4 (by decide) ?_
  refine gz_callSI [.ref (w.1 30), .int (0 : Int32)] [] C (ct_X10_at x.2.1 w 30 rfl (0 : Int32) M) cal_X10_at (Or.inr ⟨_, List.mem_of_getElem? (i := 40) rfl⟩) ⟨rfl, rfl⟩ ⟨by decide, by decide⟩ rfl rfl (Nat.le_of_ble_eq_true rfl) dX8_total_5 (fun r5 M5 => ?_)
  exact gz_iret C dX8_total_8
set_option maxRecDepth 100000 in
set_option maxHeartbeats 4000000 in
theorem ct_X10_orders (l : Launch) (w : Wd) (M : Mm) : CT l yX10_orders cX10_orders 1 (some .int) rm_X10_orders w (qI w) [.ref (w.1 0)] (sp_X10_orders M) M := by
  refine ct_of RX10 [(0, .ref (w.1 0))] rfl (Nat.le_of_ble_eq_true rfl) (by decide) rfl rfl rfl (fun x C => ?_)
  unfold sp_X10_orders
  refine gz_aloadn C 0 rfl dX10_orders_0 ?_
  refine gz_get C 0 8 (.ref (w.1 27)) kn_X10 rfl kf_X10_68 (by decide) dX10_orders_1 (fv_R rfl rfl) ?_
  refine gz_aloadn C 0 rfl dX10_orders_4 ?_
  refine gz_get C 0 3 (.ref (w.1 9)) kn_X10 rfl kf_X10_33 (by decide) dX10_orders_5 (fv_R rfl rfl) ?_
  refine gz_aloadn C 0 rfl dX10_orders_8 ?_
  refine gz_get C 0 4 (.ref (w.1 13)) kn_X10 rfl kf_X10_40 (by decide) dX10_orders_9 (fv_R rfl rfl) ?_
  refine gz_callVV 27 [.ref (w.1 9), .ref (w.1 13)] [] C kn_X8 rfl rfl (ct_X8_search x.2.1 w M) cal_X8_search km_X10_281 ⟨rfl, rfl⟩ ⟨by decide, by decide⟩ rfl rfl (Nat.le_of_ble_eq_true rfl) dX10_orders_12 (fun _ M12 => ?_)
  refine gz_aloadn C 0 rfl dX10_orders_15 ?_
  refine gz_get C 0 8 (.ref (w.1 27)) kn_X10 rfl kf_X10_68 (by decide) dX10_orders_16 (fv_R rfl rfl) ?_
  refine gz_callVI 27 [] [] C kn_X8 rfl rfl (ct_X8_total x.2.1 w M12) cal_X8_total km_X10_284 ⟨rfl, rfl⟩ ⟨by decide, by decide⟩ rfl rfl (Nat.le_of_ble_eq_true rfl) dX10_orders_19 (fun r19 M19 => ?_)
  exact gz_iret C dX10_orders_22
set_option maxRecDepth 100000 in
set_option maxHeartbeats 4000000 in
theorem ct_X8_surePlace (l : Launch) (w : Wd) (p1 : Int32) (M : Mm) : CT l yX8_surePlace cX8_surePlace 5 (some .int) rm_X8_surePlace w (qI w) [.ref (w.1 27), .int p1] (sp_X8_surePlace p1 M) M := by
  refine ct_of RX8 [(0, .ref (w.1 27)), (1, .int p1)] rfl (Nat.le_of_ble_eq_true rfl) (by decide) rfl rfl rfl (fun x C => ?_)
  unfold sp_X8_surePlace
  refine gz_iconst (v := (-1)) C dX8_surePlace_0 (by decide) ?_
  refine gz_istoren C [(2, .int (-1 : Int32)), (0, .ref (w.1 27)), (1, .int p1)] dX8_surePlace_1 (by decide) rfl ?_
  refine gz_iconst (v := 0) C dX8_surePlace_2 (by decide) ?_
  refine gz_istoren C [(3, .int (0 : Int32)), (2, .int (-1 : Int32)), (0, .ref (w.1 27)), (1, .int p1)] dX8_surePlace_3 (by decide) rfl ?_
  have hL4 : ∀ (n4 : Nat) (v2_4 : Int32) (v3_4 : Int32) (M_4 : Mm), G x w 5 (qI w) (sp_X8_surePlace_L4 p1 n4 v2_4 v3_4 M_4) M_4 [(0, .ref (w.1 27)), (1, .int p1), (2, .int v2_4), (3, .int v3_4)] 4 [] := by
    intro n4
    induction n4 with
    | zero => intros; exact gz_none
    | succ n4 ih4 =>
      intro v2_4 v3_4 M_4
      rw [sp_X8_surePlace_L4]
      refine gz_iloadn C 3 rfl dX8_surePlace_4 ?_
      refine gz_aloadn C 0 rfl dX8_surePlace_5 ?_
      refine gz_get C 27 1 (.int (gI M_4 27 1)) kn_X8 rfl kf_X8_32 (by decide) dX8_surePlace_6 (fv_I rfl) ?_
      refine gz_icmpgt C 75 dX8_surePlace_9 (by decide) ?_ ?_
      · refine gz_iloadn C 2 rfl dX8_surePlace_75 ?_
        exact gz_iret C dX8_surePlace_76
      · refine gz_aloadn C 0 rfl dX8_surePlace_12 ?_
        refine gz_iloadn C 3 rfl dX8_surePlace_13 ?_
        refine gz_iloadn C 1 rfl dX8_surePlace_14 ?_
        refine gz_callVI 27 [.int v3_4, .int p1] [] C kn_X8 rfl rfl (ct_X8_mayFollow x.2.1 w v3_4 p1 M_4) cal_X8_mayFollow km_X8_57 ⟨rfl, rfl⟩ ⟨by decide, by decide⟩ rfl rfl (Nat.le_of_ble_eq_true rfl) dX8_surePlace_15 (fun r15 M15 => ?_)
        refine gz_ifeq C 69 dX8_surePlace_18 (by decide) ?_ ?_
        · refine gz_iinc (v' := v3_4 + 1) C 3 [(3, .int (v3_4 + 1)), (0, .ref (w.1 27)), (1, .int p1), (2, .int v2_4)] rfl dX8_surePlace_69 rfl (by decide) rfl ?_
          refine gz_goto C 4 dX8_surePlace_72 (by decide) ?_
          refine gz_sub [1, 2, 3, 0] rfl ?_
          exact ih4 _ _ _
        · refine gz_aloadn C 0 rfl dX8_surePlace_21 ?_
          refine gz_get C 27 3 (.ref (w.1 29)) kn_X8 rfl kf_X8_15 (by decide) dX8_surePlace_22 (fv_R rfl rfl) ?_
          refine gz_iloadn C 3 rfl dX8_surePlace_25 ?_
          refine gz_callSI [.ref (w.1 29), .int v3_4] [] C (ct_X10_at x.2.1 w 29 rfl v3_4 M15) cal_X10_at (Or.inr ⟨_, List.mem_of_getElem? (i := 40) rfl⟩) ⟨rfl, rfl⟩ ⟨by decide, by decide⟩ rfl rfl (Nat.le_of_ble_eq_true rfl) dX8_surePlace_26 (fun r26 M26 => ?_)
          refine gz_ifle C 69 dX8_surePlace_29 (by decide) ?_ ?_
          · refine gz_aloadn C 0 rfl dX8_surePlace_32 ?_
            refine gz_get C 27 4 (.ref (w.1 30)) kn_X8 rfl kf_X8_18 (by decide) dX8_surePlace_33 (fv_R rfl rfl) ?_
            refine gz_iloadn C 3 rfl dX8_surePlace_36 ?_
            refine gz_iloadn C 1 rfl dX8_surePlace_37 ?_
            refine gz_callSI [.int v3_4, .int p1] [.ref (w.1 30)] C (ct_X10_with x.2.1 w v3_4 p1 M26) cal_X10_with (Or.inr ⟨_, List.mem_of_getElem? (i := 42) rfl⟩) ⟨rfl, rfl⟩ ⟨by decide, by decide⟩ rfl rfl (Nat.le_of_ble_eq_true rfl) dX8_surePlace_38 (fun r38 M38 => ?_)
            refine gz_callSI [.ref (w.1 30), .int r38] [] C (ct_X10_at x.2.1 w 30 rfl r38 M38) cal_X10_at (Or.inr ⟨_, List.mem_of_getElem? (i := 40) rfl⟩) ⟨rfl, rfl⟩ ⟨by decide, by decide⟩ rfl rfl (Nat.le_of_ble_eq_true rfl) dX8_surePlace_41 (fun r41 M41 => ?_)
            refine gz_ifle C 69 dX8_surePlace_44 (by decide) ?_ ?_
            · refine gz_iloadn C 3 rfl dX8_surePlace_47 ?_
              refine gz_callSI [.int v3_4] [] C (ct_J6_bitCount_0f7a4 x.2.1 w v3_4 M41) cal_J6_bitCount_0f7a4 (Or.inl km_X8_65) ⟨rfl, rfl⟩ ⟨by decide, by decide⟩ rfl rfl (Nat.le_of_ble_eq_true rfl) dX8_surePlace_48 (fun r48 M48 => ?_)
              refine gz_istore C [(4, .int r48), (0, .ref (w.1 27)), (1, .int p1), (2, .int v2_4), (3, .int v3_4)] dX8_surePlace_51 (by decide) rfl ?_
              refine gz_iloadn C 3 rfl dX8_surePlace_53 ?_
              refine gz_iconst (v := (-1)) C dX8_surePlace_54 (by decide) ?_
              refine gz_icmpeq C 66 dX8_surePlace_55 (by decide) ?_ ?_
              · refine gz_iload C 0 rfl dX8_surePlace_66 ?_
                refine gz_istoren C [(2, .int r48), (4, .int r48), (0, .ref (w.1 27)), (1, .int p1), (3, .int v3_4)] dX8_surePlace_68 (by decide) rfl ?_
                refine gz_iinc (v' := v3_4 + 1) C 4 [(3, .int (v3_4 + 1)), (2, .int r48), (4, .int r48), (0, .ref (w.1 27)), (1, .int p1)] rfl dX8_surePlace_69 rfl (by decide) rfl ?_
                refine gz_goto C 4 dX8_surePlace_72 (by decide) ?_
                refine gz_sub [3, 4, 1, 0] rfl ?_
                exact ih4 _ _ _
              · refine gz_iloadn C 3 rfl dX8_surePlace_58 ?_
                refine gz_iload C 0 rfl dX8_surePlace_59 ?_
                refine gz_icmpeq C 66 dX8_surePlace_61 (by decide) ?_ ?_
                · refine gz_iload C 0 rfl dX8_surePlace_66 ?_
                  refine gz_istoren C [(2, .int r48), (4, .int r48), (0, .ref (w.1 27)), (1, .int p1), (3, .int v3_4)] dX8_surePlace_68 (by decide) rfl ?_
                  refine gz_iinc (v' := v3_4 + 1) C 4 [(3, .int (v3_4 + 1)), (2, .int r48), (4, .int r48), (0, .ref (w.1 27)), (1, .int p1)] rfl dX8_surePlace_69 rfl (by decide) rfl ?_
                  refine gz_goto C 4 dX8_surePlace_72 (by decide) ?_
                  refine gz_sub [3, 4, 1, 0] rfl ?_
                  exact ih4 _ _ _
                · refine gz_iconst (v := (-1)) C dX8_surePlace_64 (by decide) ?_
                  exact gz_iret C dX8_surePlace_65
            · refine gz_iinc (v' := v3_4 + 1) C 3 [(3, .int (v3_4 + 1)), (0, .ref (w.1 27)), (1, .int p1), (2, .int v2_4)] rfl dX8_surePlace_69 rfl (by decide) rfl ?_
              refine gz_goto C 4 dX8_surePlace_72 (by decide) ?_
              refine gz_sub [1, 2, 3, 0] rfl ?_
              exact ih4 _ _ _
          · refine gz_iinc (v' := v3_4 + 1) C 3 [(3, .int (v3_4 + 1)), (0, .ref (w.1 27)), (1, .int p1), (2, .int v2_4)] rfl dX8_surePlace_69 rfl (by decide) rfl ?_
            refine gz_goto C 4 dX8_surePlace_72 (by decide) ?_
            refine gz_sub [1, 2, 3, 0] rfl ?_
            exact ih4 _ _ _
  refine gz_sub [2, 3, 1, 0] rfl ?_
  exact hL4 fu _ _ _
set_option maxRecDepth 100000 in
set_option maxHeartbeats 4000000 in
theorem ct_X10_sure (l : Launch) (w : Wd) (p1 : Int32) (M : Mm) : CT l yX10_sure cX10_sure 2 (some .int) rm_X10_sure w (qI w) [.ref (w.1 0), .int p1] (sp_X10_sure p1 M) M := by
  refine ct_of RX10 [(0, .ref (w.1 0)), (1, .int p1)] rfl (Nat.le_of_ble_eq_true rfl) (by decide) rfl rfl rfl (fun x C => ?_)
  unfold sp_X10_sure
  refine gz_aloadn C 0 rfl dX10_sure_0 ?_
  refine gz_get C 0 3 (.ref (w.1 9)) kn_X10 rfl kf_X10_33 (by decide) dX10_sure_1 (fv_R rfl rfl) ?_
  refine gz_iloadn C 1 rfl dX10_sure_4 ?_
  refine gz_callVI 9 [.int p1] [] C kn_X2 rfl rfl (ct_X2_has x.2.1 w p1 M) cal_X2_has km_X10_194 ⟨rfl, rfl⟩ ⟨by decide, by decide⟩ rfl rfl (Nat.le_of_ble_eq_true rfl) dX10_sure_5 (fun r5 M5 => ?_)
  refine gz_ifne C 14 dX10_sure_8 (by decide) ?_ ?_
  · refine gz_bipush (v := (-101)) C dX10_sure_11 (by decide) ?_
    exact gz_iret C dX10_sure_13
  · refine gz_aloadn C 0 rfl dX10_sure_14 ?_
    refine gz_get C 0 8 (.ref (w.1 27)) kn_X10 rfl kf_X10_68 (by decide) dX10_sure_15 (fv_R rfl rfl) ?_
    refine gz_aloadn C 0 rfl dX10_sure_18 ?_
    refine gz_get C 0 3 (.ref (w.1 9)) kn_X10 rfl kf_X10_33 (by decide) dX10_sure_19 (fv_R rfl rfl) ?_
    refine gz_aloadn C 0 rfl dX10_sure_22 ?_
    refine gz_get C 0 4 (.ref (w.1 13)) kn_X10 rfl kf_X10_40 (by decide) dX10_sure_23 (fv_R rfl rfl) ?_
    refine gz_callVV 27 [.ref (w.1 9), .ref (w.1 13)] [] C kn_X8 rfl rfl (ct_X8_search x.2.1 w M5) cal_X8_search km_X10_281 ⟨rfl, rfl⟩ ⟨by decide, by decide⟩ rfl rfl (Nat.le_of_ble_eq_true rfl) dX10_sure_26 (fun _ M26 => ?_)
    refine gz_aloadn C 0 rfl dX10_sure_29 ?_
    refine gz_get C 0 8 (.ref (w.1 27)) kn_X10 rfl kf_X10_68 (by decide) dX10_sure_30 (fv_R rfl rfl) ?_
    refine gz_iloadn C 1 rfl dX10_sure_33 ?_
    refine gz_callVI 27 [.int p1] [] C kn_X8 rfl rfl (ct_X8_surePlace x.2.1 w p1 M26) cal_X8_surePlace km_X10_287 ⟨rfl, rfl⟩ ⟨by decide, by decide⟩ rfl rfl (Nat.le_of_ble_eq_true rfl) dX10_sure_34 (fun r34 M34 => ?_)
    exact gz_iret C dX10_sure_37
set_option maxRecDepth 100000 in
set_option maxHeartbeats 4000000 in
theorem ct_X1_addWreck (l : Launch) (w : Wd) (p1 : Int32) (M : Mm) : CT l yX1_addWreck cX1_addWreck 2 none rm_X1_addWreck w (qV w) [.ref (w.1 13), .int p1] (sp_X1_addWreck p1 M) M := by
  refine ct_of RX1 [(0, .ref (w.1 13)), (1, .int p1)] rfl (Nat.le_of_ble_eq_true rfl) (by decide) rfl rfl rfl (fun x C => ?_)
  unfold sp_X1_addWreck
  refine gz_aloadn C 0 rfl dX1_addWreck_0 ?_
  refine gz_get C 13 10 (.ref (w.1 16)) kn_X1 rfl kf_X1_22 (by decide) dX1_addWreck_1 (fv_R rfl rfl) ?_
  refine gz_aloadn C 0 rfl dX1_addWreck_4 ?_
  refine gz_get C 13 7 (.int (gI M 13 7)) kn_X1 rfl kf_X1_44 (by decide) dX1_addWreck_5 (fv_I rfl) ?_
  refine gz_iloadn C 1 rfl dX1_addWreck_8 ?_
  refine gz_callSV [.ref (w.1 16), .int (gI M 13 7), .int p1] [] C (ct_X10_put x.2.1 w 16 rfl (gI M 13 7) p1 M) cal_X10_put (Or.inr ⟨_, List.mem_of_getElem? (i := 30) rfl⟩) ⟨rfl, rfl⟩ ⟨by decide, by decide⟩ rfl rfl (Nat.le_of_ble_eq_true rfl) dX1_addWreck_9 (fun _ M9 => ?_)
  refine gz_aloadn C 0 rfl dX1_addWreck_12 ?_
  refine gz_dup C dX1_addWreck_13 rfl ?_
  refine gz_get C 13 7 (.int (gI M9 13 7)) kn_X1 rfl kf_X1_44 (by decide) dX1_addWreck_14 (fv_I rfl) ?_
  refine gz_iconst (v := 1) C dX1_addWreck_17 (by decide) ?_
  refine gz_iadd C dX1_addWreck_18 ?_
  refine gz_putI C 13 7 kn_X1 rfl kf_X1_44 (by decide) rfl rfl (tyX1_ok 7 (by decide)) rfl rfl dX1_addWreck_19 (fun M19 => ?_)
  exact gz_vret C dX1_addWreck_22
set_option maxRecDepth 100000 in
set_option maxHeartbeats 4000000 in
theorem ct_X10_wreck (l : Launch) (w : Wd) (p1 : Int32) (M : Mm) : CT l yX10_wreck cX10_wreck 2 (some .int) rm_X10_wreck w (qI w) [.ref (w.1 0), .int p1] (sp_X10_wreck p1 M) M := by
  refine ct_of RX10 [(0, .ref (w.1 0)), (1, .int p1)] rfl (Nat.le_of_ble_eq_true rfl) (by decide) rfl rfl rfl (fun x C => ?_)
  unfold sp_X10_wreck
  refine gz_iloadn C 1 rfl dX10_wreck_0 ?_
  refine gz_iconst (v := 0) C dX10_wreck_1 (by decide) ?_
  refine gz_bipush (v := (99)) C dX10_wreck_2 (by decide) ?_
  refine gz_callSI [.int p1, .int (0 : Int32), .int (99 : Int32)] [] C (ct_X10_isOutside x.2.1 w p1 (0 : Int32) (99 : Int32) M) cal_X10_isOutside (Or.inl km_X10_79) ⟨rfl, rfl⟩ ⟨by decide, by decide⟩ rfl rfl (Nat.le_of_ble_eq_true rfl) dX10_wreck_4 (fun r4 M4 => ?_)
  refine gz_ifeq C 13 dX10_wreck_7 (by decide) ?_ ?_
  · refine gz_aloadn C 0 rfl dX10_wreck_13 ?_
    refine gz_callVI 0 [] [] C kn_X10 rfl rfl (ct_X10_hasNight x.2.1 w M4) cal_X10_hasNight km_X10_115 ⟨rfl, rfl⟩ ⟨by decide, by decide⟩ rfl rfl (Nat.le_of_ble_eq_true rfl) dX10_wreck_14 (fun r14 M14 => ?_)
    refine gz_ifne C 23 dX10_wreck_17 (by decide) ?_ ?_
    · refine gz_bipush (v := (-103)) C dX10_wreck_20 (by decide) ?_
      exact gz_iret C dX10_wreck_22
    · refine gz_aloadn C 0 rfl dX10_wreck_23 ?_
      refine gz_get C 0 4 (.ref (w.1 13)) kn_X10 rfl kf_X10_40 (by decide) dX10_wreck_24 (fv_R rfl rfl) ?_
      refine gz_get C 13 7 (.int (gI M14 13 7)) kn_X1 rfl kf_X10_290 (by decide) dX10_wreck_27 (fv_I rfl) ?_
      refine gz_bipush (v := (8)) C dX10_wreck_30 (by decide) ?_
      refine gz_icmplt C 38 dX10_wreck_32 (by decide) ?_ ?_
      · refine gz_aloadn C 0 rfl dX10_wreck_38 ?_
        refine gz_get C 0 4 (.ref (w.1 13)) kn_X10 rfl kf_X10_40 (by decide) dX10_wreck_39 (fv_R rfl rfl) ?_
        refine gz_iloadn C 1 rfl dX10_wreck_42 ?_
        refine gz_callVV 13 [.int p1] [] C kn_X1 rfl rfl (ct_X1_addWreck x.2.1 w p1 M14) cal_X1_addWreck km_X10_293 ⟨rfl, rfl⟩ ⟨by decide, by decide⟩ rfl rfl (Nat.le_of_ble_eq_true rfl) dX10_wreck_43 (fun _ M43 => ?_)
        refine gz_aloadn C 0 rfl dX10_wreck_46 ?_
        refine gz_get C 0 4 (.ref (w.1 13)) kn_X10 rfl kf_X10_40 (by decide) dX10_wreck_47 (fv_R rfl rfl) ?_
        refine gz_get C 13 7 (.int (gI M43 13 7)) kn_X1 rfl kf_X10_290 (by decide) dX10_wreck_50 (fv_I rfl) ?_
        exact gz_iret C dX10_wreck_53
      · refine gz_bipush (v := (-104)) C dX10_wreck_35 (by decide) ?_
        exact gz_iret C dX10_wreck_37
  · refine gz_bipush (v := (-102)) C dX10_wreck_10 (by decide) ?_
    exact gz_iret C dX10_wreck_12
set_option maxRecDepth 100000 in
set_option maxHeartbeats 4000000 in
theorem ct_X1_leastWreckFrom (l : Launch) (w : Wd) (p1 : Int32) (M : Mm) : CT l yX1_leastWreckFrom cX1_leastWreckFrom 5 (some .int) rm_X1_leastWreckFrom w (qI w) [.ref (w.1 13), .int p1] (sp_X1_leastWreckFrom p1 M) M := by
  refine ct_of RX1 [(0, .ref (w.1 13)), (1, .int p1)] rfl (Nat.le_of_ble_eq_true rfl) (by decide) rfl rfl rfl (fun x C => ?_)
  unfold sp_X1_leastWreckFrom
  refine gz_bipush (v := (100)) C dX1_leastWreckFrom_0 (by decide) ?_
  refine gz_istoren C [(2, .int (100 : Int32)), (0, .ref (w.1 13)), (1, .int p1)] dX1_leastWreckFrom_2 (by decide) rfl ?_
  refine gz_iconst (v := 0) C dX1_leastWreckFrom_3 (by decide) ?_
  refine gz_istoren C [(3, .int (0 : Int32)), (2, .int (100 : Int32)), (0, .ref (w.1 13)), (1, .int p1)] dX1_leastWreckFrom_4 (by decide) rfl ?_
  have hL5 : ∀ (n5 : Nat) (v2_5 : Int32) (v3_5 : Int32) (M_5 : Mm), G x w 5 (qI w) (sp_X1_leastWreckFrom_L5 p1 n5 v2_5 v3_5 M_5) M_5 [(0, .ref (w.1 13)), (1, .int p1), (2, .int v2_5), (3, .int v3_5)] 5 [] := by
    intro n5
    induction n5 with
    | zero => intros; exact gz_none
    | succ n5 ih5 =>
      intro v2_5 v3_5 M_5
      rw [sp_X1_leastWreckFrom_L5]
      refine gz_iloadn C 3 rfl dX1_leastWreckFrom_5 ?_
      refine gz_aloadn C 0 rfl dX1_leastWreckFrom_6 ?_
      refine gz_get C 13 7 (.int (gI M_5 13 7)) kn_X1 rfl kf_X1_44 (by decide) dX1_leastWreckFrom_7 (fv_I rfl) ?_
      refine gz_icmpge C 44 dX1_leastWreckFrom_10 (by decide) ?_ ?_
      · refine gz_aloadn C 0 rfl dX1_leastWreckFrom_13 ?_
        refine gz_get C 13 10 (.ref (w.1 16)) kn_X1 rfl kf_X1_22 (by decide) dX1_leastWreckFrom_14 (fv_R rfl rfl) ?_
        refine gz_iloadn C 3 rfl dX1_leastWreckFrom_17 ?_
        refine gz_callSI [.ref (w.1 16), .int v3_5] [] C (ct_X10_at x.2.1 w 16 rfl v3_5 M_5) cal_X10_at (Or.inr ⟨_, List.mem_of_getElem? (i := 25) rfl⟩) ⟨rfl, rfl⟩ ⟨by decide, by decide⟩ rfl rfl (Nat.le_of_ble_eq_true rfl) dX1_leastWreckFrom_18 (fun r18 M18 => ?_)
        refine gz_istore C [(4, .int r18), (0, .ref (w.1 13)), (1, .int p1), (2, .int v2_5), (3, .int v3_5)] dX1_leastWreckFrom_21 (by decide) rfl ?_
        refine gz_iload C 0 rfl dX1_leastWreckFrom_23 ?_
        refine gz_iloadn C 2 rfl dX1_leastWreckFrom_25 ?_
        refine gz_icmplt C 38 dX1_leastWreckFrom_26 (by decide) ?_ ?_
        · refine gz_iinc (v' := v3_5 + 1) C 4 [(3, .int (v3_5 + 1)), (4, .int r18), (0, .ref (w.1 13)), (1, .int p1), (2, .int v2_5)] rfl dX1_leastWreckFrom_38 rfl (by decide) rfl ?_
          refine gz_goto C 5 dX1_leastWreckFrom_41 (by decide) ?_
          refine gz_sub [2, 3, 4, 0] rfl ?_
          exact ih5 _ _ _
        · refine gz_iload C 0 rfl dX1_leastWreckFrom_29 ?_
          refine gz_iloadn C 3 rfl dX1_leastWreckFrom_31 ?_
          refine gz_icmpge C 38 dX1_leastWreckFrom_32 (by decide) ?_ ?_
          · refine gz_iload C 0 rfl dX1_leastWreckFrom_35 ?_
            refine gz_istoren C [(2, .int r18), (4, .int r18), (0, .ref (w.1 13)), (1, .int p1), (3, .int v3_5)] dX1_leastWreckFrom_37 (by decide) rfl ?_
            refine gz_iinc (v' := v3_5 + 1) C 4 [(3, .int (v3_5 + 1)), (2, .int r18), (4, .int r18), (0, .ref (w.1 13)), (1, .int p1)] rfl dX1_leastWreckFrom_38 rfl (by decide) rfl ?_
            refine gz_goto C 5 dX1_leastWreckFrom_41 (by decide) ?_
            refine gz_sub [3, 4, 1, 0] rfl ?_
            exact ih5 _ _ _
          · refine gz_iinc (v' := v3_5 + 1) C 4 [(3, .int (v3_5 + 1)), (4, .int r18), (0, .ref (w.1 13)), (1, .int p1), (2, .int v2_5)] rfl dX1_leastWreckFrom_38 rfl (by decide) rfl ?_
            refine gz_goto C 5 dX1_leastWreckFrom_41 (by decide) ?_
            refine gz_sub [2, 3, 4, 0] rfl ?_
            exact ih5 _ _ _
      · refine gz_iloadn C 2 rfl dX1_leastWreckFrom_44 ?_
        exact gz_iret C dX1_leastWreckFrom_45
  refine gz_sub [2, 3, 1, 0] rfl ?_
  exact hL5 fu _ _ _
set_option maxRecDepth 100000 in
set_option maxHeartbeats 4000000 in
theorem ct_X1_stationFor (l : Launch) (w : Wd) (p1 : Int32) (p2 : Int32) (M : Mm) : CT l yX1_stationFor cX1_stationFor 3 (some .int) rm_X1_stationFor w (qI w) [.ref (w.1 13), .int p1, .int p2] (sp_X1_stationFor p1 p2 M) M := by
  refine ct_of RX1 [(0, .ref (w.1 13)), (1, .int p1), (2, .int p2)] rfl (Nat.le_of_ble_eq_true rfl) (by decide) rfl rfl rfl (fun x C => ?_)
  unfold sp_X1_stationFor
  refine gz_iloadn C 1 rfl dX1_stationFor_0 ?_
  refine gz_iloadn C 2 rfl dX1_stationFor_1 ?_
  refine gz_iadd C dX1_stationFor_2 ?_
  refine gz_bipush (v := (99)) C dX1_stationFor_3 (by decide) ?_
  refine gz_min C km_min_X1_76 st_min in_min co_min (by decide) (Nat.le_of_ble_eq_true rfl) dX1_stationFor_5 ?_
  exact gz_iret C dX1_stationFor_8
set_option maxRecDepth 100000 in
set_option maxHeartbeats 4000000 in
theorem ct_X1_fewestStations (l : Launch) (w : Wd) (p1 : Int32) (M : Mm) : CT l yX1_fewestStations cX1_fewestStations 6 (some .int) rm_X1_fewestStations w (qI w) [.ref (w.1 13), .int p1] (sp_X1_fewestStations p1 M) M := by
  refine ct_of RX1 [(0, .ref (w.1 13)), (1, .int p1)] rfl (Nat.le_of_ble_eq_true rfl) (by decide) rfl rfl rfl (fun x C => ?_)
  unfold sp_X1_fewestStations
  refine gz_iconst (v := 0) C dX1_fewestStations_0 (by decide) ?_
  refine gz_istoren C [(2, .int (0 : Int32)), (0, .ref (w.1 13)), (1, .int p1)] dX1_fewestStations_1 (by decide) rfl ?_
  refine gz_iconst (v := 0) C dX1_fewestStations_2 (by decide) ?_
  refine gz_istoren C [(3, .int (0 : Int32)), (2, .int (0 : Int32)), (0, .ref (w.1 13)), (1, .int p1)] dX1_fewestStations_3 (by decide) rfl ?_
  refine gz_iconst (v := 0) C dX1_fewestStations_4 (by decide) ?_
  refine gz_istore C [(4, .int (0 : Int32)), (3, .int (0 : Int32)), (2, .int (0 : Int32)), (0, .ref (w.1 13)), (1, .int p1)] dX1_fewestStations_5 (by decide) rfl ?_
  have hL7 : ∀ (n7 : Nat) (v2_7 : Int32) (v3_7 : Int32) (v4_7 : Int32) (M_7 : Mm), G x w 6 (qI w) (sp_X1_fewestStations_L7 p1 n7 v2_7 v3_7 v4_7 M_7) M_7 [(0, .ref (w.1 13)), (1, .int p1), (2, .int v2_7), (3, .int v3_7), (4, .int v4_7)] 7 [] := by
    intro n7
    induction n7 with
    | zero => intros; exact gz_none
    | succ n7 ih7 =>
      intro v2_7 v3_7 v4_7 M_7
      rw [sp_X1_fewestStations_L7]
      refine gz_iload C 4 rfl dX1_fewestStations_7 ?_
      refine gz_aloadn C 0 rfl dX1_fewestStations_9 ?_
      refine gz_get C 13 7 (.int (gI M_7 13 7)) kn_X1 rfl kf_X1_44 (by decide) dX1_fewestStations_10 (fv_I rfl) ?_
      refine gz_icmpge C 53 dX1_fewestStations_13 (by decide) ?_ ?_
      · refine gz_aloadn C 0 rfl dX1_fewestStations_16 ?_
        refine gz_iloadn C 3 rfl dX1_fewestStations_17 ?_
        refine gz_callVI 13 [.int v3_7] [] C kn_X1 rfl rfl (ct_X1_leastWreckFrom x.2.1 w v3_7 M_7) cal_X1_leastWreckFrom km_X1_69 ⟨rfl, rfl⟩ ⟨by decide, by decide⟩ rfl rfl (Nat.le_of_ble_eq_true rfl) dX1_fewestStations_18 (fun r18 M18 => ?_)
        refine gz_istore C [(5, .int r18), (0, .ref (w.1 13)), (1, .int p1), (2, .int v2_7), (3, .int v3_7), (4, .int v4_7)] dX1_fewestStations_21 (by decide) rfl ?_
        refine gz_iload C 0 rfl dX1_fewestStations_23 ?_
        refine gz_bipush (v := (99)) C dX1_fewestStations_25 (by decide) ?_
        refine gz_icmple C 32 dX1_fewestStations_27 (by decide) ?_ ?_
        · refine gz_iloadn C 3 rfl dX1_fewestStations_30 ?_
          exact gz_iret C dX1_fewestStations_31
        · refine gz_aloadn C 1 rfl dX1_fewestStations_32 ?_
          refine gz_iload C 0 rfl dX1_fewestStations_33 ?_
          refine gz_iloadn C 2 rfl dX1_fewestStations_35 ?_
          refine gz_callVI 13 [.int r18, .int p1] [] C kn_X1 rfl rfl (ct_X1_stationFor x.2.1 w r18 p1 M18) cal_X1_stationFor km_X1_73 ⟨rfl, rfl⟩ ⟨by decide, by decide⟩ rfl rfl (Nat.le_of_ble_eq_true rfl) dX1_fewestStations_36 (fun r36 M36 => ?_)
          refine gz_iloadn C 2 rfl dX1_fewestStations_39 ?_
          refine gz_iadd C dX1_fewestStations_40 ?_
          refine gz_iconst (v := 1) C dX1_fewestStations_41 (by decide) ?_
          refine gz_iadd C dX1_fewestStations_42 ?_
          refine gz_blt (fun y43 => ?_)
          refine gz_istoren C [(3, .int y43), (5, .int r18), (0, .ref (w.1 13)), (1, .int p1), (2, .int v2_7), (4, .int v4_7)] dX1_fewestStations_43 (by decide) rfl ?_
          refine gz_iinc (v' := v2_7 + 1) C 4 [(2, .int (v2_7 + 1)), (3, .int y43), (5, .int r18), (0, .ref (w.1 13)), (1, .int p1), (4, .int v4_7)] rfl dX1_fewestStations_44 rfl (by decide) rfl ?_
          refine gz_iinc (v' := v4_7 + 1) C 5 [(4, .int (v4_7 + 1)), (2, .int (v2_7 + 1)), (3, .int y43), (5, .int r18), (0, .ref (w.1 13)), (1, .int p1)] rfl dX1_fewestStations_47 rfl (by decide) rfl ?_
          refine gz_goto C 7 dX1_fewestStations_50 (by decide) ?_
          refine gz_sub [4, 5, 1, 2, 0] rfl ?_
          exact ih7 _ _ _ _
      · refine gz_iloadn C 2 rfl dX1_fewestStations_53 ?_
        exact gz_iret C dX1_fewestStations_54
  refine gz_sub [3, 4, 2, 1, 0] rfl ?_
  exact hL7 fu _ _ _ _
set_option maxRecDepth 100000 in
set_option maxHeartbeats 4000000 in
theorem ct_X1_firstStation (l : Launch) (w : Wd) (p1 : Int32) (M : Mm) : CT l yX1_firstStation cX1_firstStation 2 (some .int) rm_X1_firstStation w (qI w) [.ref (w.1 13), .int p1] (sp_X1_firstStation p1 M) M := by
  refine ct_of RX1 [(0, .ref (w.1 13)), (1, .int p1)] rfl (Nat.le_of_ble_eq_true rfl) (by decide) rfl rfl rfl (fun x C => ?_)
  unfold sp_X1_firstStation
  refine gz_aloadn C 0 rfl dX1_firstStation_0 ?_
  refine gz_get C 13 7 (.int (gI M 13 7)) kn_X1 rfl kf_X1_44 (by decide) dX1_firstStation_1 (fv_I rfl) ?_
  refine gz_ifne C 11 dX1_firstStation_4 (by decide) ?_ ?_
  · refine gz_iconst (v := (-1)) C dX1_firstStation_7 (by decide) ?_
    refine gz_goto C 21 dX1_firstStation_8 (by decide) ?_
    exact gz_iret C dX1_firstStation_21
  · refine gz_aloadn C 0 rfl dX1_firstStation_11 ?_
    refine gz_aloadn C 0 rfl dX1_firstStation_12 ?_
    refine gz_iconst (v := 0) C dX1_firstStation_13 (by decide) ?_
    refine gz_callVI 13 [.int (0 : Int32)] [.ref (w.1 13)] C kn_X1 rfl rfl (ct_X1_leastWreckFrom x.2.1 w (0 : Int32) M) cal_X1_leastWreckFrom km_X1_69 ⟨rfl, rfl⟩ ⟨by decide, by decide⟩ rfl rfl (Nat.le_of_ble_eq_true rfl) dX1_firstStation_14 (fun r14 M14 => ?_)
    refine gz_iloadn C 1 rfl dX1_firstStation_17 ?_
    refine gz_callVI 13 [.int r14, .int p1] [] C kn_X1 rfl rfl (ct_X1_stationFor x.2.1 w r14 p1 M14) cal_X1_stationFor km_X1_73 ⟨rfl, rfl⟩ ⟨by decide, by decide⟩ rfl rfl (Nat.le_of_ble_eq_true rfl) dX1_firstStation_18 (fun r18 M18 => ?_)
    exact gz_iret C dX1_firstStation_21
set_option maxRecDepth 100000 in
set_option maxHeartbeats 4000000 in
theorem ct_X10_stations (l : Launch) (w : Wd) (p1 : Int32) (p2 : Int32) (M : Mm) : CT l yX10_stations cX10_stations 3 (some .int) rm_X10_stations w (qI w) [.ref (w.1 0), .int p1, .int p2] (sp_X10_stations p1 p2 M) M := by
  refine ct_of RX10 [(0, .ref (w.1 0)), (1, .int p1), (2, .int p2)] rfl (Nat.le_of_ble_eq_true rfl) (by decide) rfl rfl rfl (fun x C => ?_)
  unfold sp_X10_stations
  refine gz_iloadn C 1 rfl dX10_stations_0 ?_
  refine gz_iconst (v := 0) C dX10_stations_1 (by decide) ?_
  refine gz_bipush (v := (50)) C dX10_stations_2 (by decide) ?_
  refine gz_callSI [.int p1, .int (0 : Int32), .int (50 : Int32)] [] C (ct_X10_isOutside x.2.1 w p1 (0 : Int32) (50 : Int32) M) cal_X10_isOutside (Or.inl km_X10_79) ⟨rfl, rfl⟩ ⟨by decide, by decide⟩ rfl rfl (Nat.le_of_ble_eq_true rfl) dX10_stations_4 (fun r4 M4 => ?_)
  refine gz_ifne C 19 dX10_stations_7 (by decide) ?_ ?_
  · refine gz_iloadn C 2 rfl dX10_stations_10 ?_
    refine gz_iconst (v := 0) C dX10_stations_11 (by decide) ?_
    refine gz_iconst (v := 1) C dX10_stations_12 (by decide) ?_
    refine gz_callSI [.int p2, .int (0 : Int32), .int (1 : Int32)] [] C (ct_X10_isOutside x.2.1 w p2 (0 : Int32) (1 : Int32) M4) cal_X10_isOutside (Or.inl km_X10_79) ⟨rfl, rfl⟩ ⟨by decide, by decide⟩ rfl rfl (Nat.le_of_ble_eq_true rfl) dX10_stations_13 (fun r13 M13 => ?_)
    refine gz_ifeq C 22 dX10_stations_16 (by decide) ?_ ?_
    · refine gz_iloadn C 2 rfl dX10_stations_22 ?_
      refine gz_ifne C 37 dX10_stations_23 (by decide) ?_ ?_
      · refine gz_aloadn C 0 rfl dX10_stations_26 ?_
        refine gz_get C 0 4 (.ref (w.1 13)) kn_X10 rfl kf_X10_40 (by decide) dX10_stations_27 (fv_R rfl rfl) ?_
        refine gz_iloadn C 1 rfl dX10_stations_30 ?_
        refine gz_callVI 13 [.int p1] [] C kn_X1 rfl rfl (ct_X1_fewestStations x.2.1 w p1 M13) cal_X1_fewestStations km_X10_296 ⟨rfl, rfl⟩ ⟨by decide, by decide⟩ rfl rfl (Nat.le_of_ble_eq_true rfl) dX10_stations_31 (fun r31 M31 => ?_)
        refine gz_goto C 45 dX10_stations_34 (by decide) ?_
        exact gz_iret C dX10_stations_45
      · refine gz_aloadn C 0 rfl dX10_stations_37 ?_
        refine gz_get C 0 4 (.ref (w.1 13)) kn_X10 rfl kf_X10_40 (by decide) dX10_stations_38 (fv_R rfl rfl) ?_
        refine gz_iloadn C 1 rfl dX10_stations_41 ?_
        refine gz_callVI 13 [.int p1] [] C kn_X1 rfl rfl (ct_X1_firstStation x.2.1 w p1 M13) cal_X1_firstStation km_X10_299 ⟨rfl, rfl⟩ ⟨by decide, by decide⟩ rfl rfl (Nat.le_of_ble_eq_true rfl) dX10_stations_42 (fun r42 M42 => ?_)
        exact gz_iret C dX10_stations_45
    · refine gz_bipush (v := (-102)) C dX10_stations_19 (by decide) ?_
      exact gz_iret C dX10_stations_21
  · refine gz_bipush (v := (-102)) C dX10_stations_19 (by decide) ?_
    exact gz_iret C dX10_stations_21
set_option maxRecDepth 100000 in
set_option maxHeartbeats 4000000 in
theorem ct_X6_leastOf (l : Launch) (w : Wd) (p1 : Int32) (M : Mm) : CT l yX6_leastOf cX6_leastOf 3 (some .int) rm_X6_leastOf w (qI w) [.ref (w.1 6), .int p1] (sp_X6_leastOf p1 M) M := by
  refine ct_of RX6 [(0, .ref (w.1 6)), (1, .int p1)] rfl (Nat.le_of_ble_eq_true rfl) (by decide) rfl rfl rfl (fun x C => ?_)
  unfold sp_X6_leastOf
  refine gz_iconst (v := 0) C dX6_leastOf_0 (by decide) ?_
  refine gz_istoren C [(2, .int (0 : Int32)), (0, .ref (w.1 6)), (1, .int p1)] dX6_leastOf_1 (by decide) rfl ?_
  have hL2 : ∀ (n2 : Nat) (v2_2 : Int32) (M_2 : Mm), G x w 3 (qI w) (sp_X6_leastOf_L2 p1 n2 v2_2 M_2) M_2 [(0, .ref (w.1 6)), (1, .int p1), (2, .int v2_2)] 2 [] := by
    intro n2
    induction n2 with
    | zero => intros; exact gz_none
    | succ n2 ih2 =>
      intro v2_2 M_2
      rw [sp_X6_leastOf_L2]
      refine gz_iloadn C 2 rfl dX6_leastOf_2 ?_
      refine gz_aloadn C 0 rfl dX6_leastOf_3 ?_
      refine gz_get C 6 0 (.int (gI M_2 6 0)) kn_X6 rfl kf_X6_18 (by decide) dX6_leastOf_4 (fv_I rfl) ?_
      refine gz_icmpge C 26 dX6_leastOf_7 (by decide) ?_ ?_
      · refine gz_iloadn C 1 rfl dX6_leastOf_10 ?_
        refine gz_iloadn C 2 rfl dX6_leastOf_11 ?_
        refine gz_callSI [.int p1, .int v2_2] [] C (ct_X10_isIn x.2.1 w p1 v2_2 M_2) cal_X10_isIn (Or.inr ⟨_, List.mem_of_getElem? (i := 43) rfl⟩) ⟨rfl, rfl⟩ ⟨by decide, by decide⟩ rfl rfl (Nat.le_of_ble_eq_true rfl) dX6_leastOf_12 (fun r12 M12 => ?_)
        refine gz_ifeq C 20 dX6_leastOf_15 (by decide) ?_ ?_
        · refine gz_iinc (v' := v2_2 + 1) C 2 [(2, .int (v2_2 + 1)), (0, .ref (w.1 6)), (1, .int p1)] rfl dX6_leastOf_20 rfl (by decide) rfl ?_
          refine gz_goto C 2 dX6_leastOf_23 (by decide) ?_
          refine gz_sub [1, 2, 0] rfl ?_
          exact ih2 _ _
        · refine gz_iloadn C 2 rfl dX6_leastOf_18 ?_
          exact gz_iret C dX6_leastOf_19
      · refine gz_iconst (v := (-1)) C dX6_leastOf_26 (by decide) ?_
        exact gz_iret C dX6_leastOf_27
  refine gz_sub [1, 2, 0] rfl ?_
  exact hL2 fu _ _
set_option maxRecDepth 100000 in
set_option maxHeartbeats 4000000 in
theorem ct_X9_draw (l : Launch) (w : Wd) (M : Mm) : CT l yX9_draw cX9_draw 1 (some .int) rm_X9_draw w (qI w) [.ref (w.1 31)] (sp_X9_draw M) M := by
  refine ct_of RX9 [(0, .ref (w.1 31))] rfl (Nat.le_of_ble_eq_true rfl) (by decide) rfl rfl rfl (fun x C => ?_)
  unfold sp_X9_draw
  refine gz_aloadn C 0 rfl dX9_draw_0 ?_
  refine gz_ldc2 C kl_X9_79 dX9_draw_1 ?_
  refine gz_aloadn C 0 rfl dX9_draw_4 ?_
  refine gz_get C 31 0 (.long (gJ M 31 0)) kn_X9 rfl kf_X9_7 (by decide) dX9_draw_5 (fv_J rfl) ?_
  refine gz_lmul C dX9_draw_8 ?_
  refine gz_ldc2 C kl_X9_81 dX9_draw_9 ?_
  refine gz_ladd C dX9_draw_12 ?_
  refine gz_ldc2 C kl_X9_83 dX9_draw_13 ?_
  refine gz_lremc C (by decide) dX9_draw_16 ?_
  refine gz_putJ C 31 0 kn_X9 rfl kf_X9_7 (by decide) rfl rfl (tyX9_ok 0 (by decide)) rfl rfl dX9_draw_17 (fun M17 => ?_)
  refine gz_aloadn C 0 rfl dX9_draw_20 ?_
  refine gz_get C 31 0 (.long (gJ M17 31 0)) kn_X9 rfl kf_X9_7 (by decide) dX9_draw_21 (fv_J rfl) ?_
  refine gz_ldc2 C kl_X9_85 dX9_draw_24 ?_
  refine gz_ldivc C (by decide) dX9_draw_27 ?_
  refine gz_ldc2 C kl_X9_87 dX9_draw_28 ?_
  refine gz_lremc C (by decide) dX9_draw_31 ?_
  refine gz_l2i C dX9_draw_32 ?_
  exact gz_iret C dX9_draw_33
set_option maxRecDepth 100000 in
set_option maxHeartbeats 4000000 in
theorem ct_X9_drawGust (l : Launch) (w : Wd) (M : Mm) : CT l yX9_drawGust cX9_drawGust 3 (some .int) rm_X9_drawGust w (qI w) [.ref (w.1 31), .ref (w.1 3)] (sp_X9_drawGust M) M := by
  refine ct_of RX9 [(0, .ref (w.1 31)), (1, .ref (w.1 3))] rfl (Nat.le_of_ble_eq_true rfl) (by decide) rfl rfl rfl (fun x C => ?_)
  unfold sp_X9_drawGust
  refine gz_aloadn C 0 rfl dX9_drawGust_0 ?_
  refine gz_callVI 31 [] [] C kn_X9 rfl rfl (ct_X9_draw x.2.1 w M) cal_X9_draw km_X9_67 ⟨rfl, rfl⟩ ⟨by decide, by decide⟩ rfl rfl (Nat.le_of_ble_eq_true rfl) dX9_drawGust_1 (fun r1 M1 => ?_)
  refine gz_istoren C [(2, .int r1), (0, .ref (w.1 31)), (1, .ref (w.1 3))] dX9_drawGust_4 (by decide) rfl ?_
  refine gz_iloadn C 0 rfl dX9_drawGust_5 ?_
  refine gz_aloadn C 2 rfl dX9_drawGust_6 ?_
  refine gz_iconst (v := (-1)) C dX9_drawGust_7 (by decide) ?_
  refine gz_callVI 3 [.int (-1 : Int32)] [.int r1] C kn_X7 rfl rfl (ct_X7_gustTenths x.2.1 w (-1 : Int32) M1) cal_X7_gustTenths km_X9_76 ⟨rfl, rfl⟩ ⟨by decide, by decide⟩ rfl rfl (Nat.le_of_ble_eq_true rfl) dX9_drawGust_8 (fun r8 M8 => ?_)
  refine gz_icmpge C 16 dX9_drawGust_11 (by decide) ?_ ?_
  · refine gz_iconst (v := (-1)) C dX9_drawGust_14 (by decide) ?_
    exact gz_iret C dX9_drawGust_15
  · refine gz_iloadn C 0 rfl dX9_drawGust_16 ?_
    refine gz_aloadn C 2 rfl dX9_drawGust_17 ?_
    refine gz_iconst (v := (-1)) C dX9_drawGust_18 (by decide) ?_
    refine gz_callVI 3 [.int (-1 : Int32)] [.int r1] C kn_X7 rfl rfl (ct_X7_gustTenths x.2.1 w (-1 : Int32) M8) cal_X7_gustTenths km_X9_76 ⟨rfl, rfl⟩ ⟨by decide, by decide⟩ rfl rfl (Nat.le_of_ble_eq_true rfl) dX9_drawGust_19 (fun r19 M19 => ?_)
    refine gz_aloadn C 2 rfl dX9_drawGust_22 ?_
    refine gz_iconst (v := 0) C dX9_drawGust_23 (by decide) ?_
    refine gz_callVI 3 [.int (0 : Int32)] [.int r19, .int r1] C kn_X7 rfl rfl (ct_X7_gustTenths x.2.1 w (0 : Int32) M19) cal_X7_gustTenths km_X9_76 ⟨rfl, rfl⟩ ⟨by decide, by decide⟩ rfl rfl (Nat.le_of_ble_eq_true rfl) dX9_drawGust_24 (fun r24 M24 => ?_)
    refine gz_iadd C dX9_drawGust_27 ?_
    refine gz_icmpge C 35 dX9_drawGust_28 (by decide) ?_ ?_
    · refine gz_iconst (v := 0) C dX9_drawGust_31 (by decide) ?_
      refine gz_goto C 36 dX9_drawGust_32 (by decide) ?_
      exact gz_iret C dX9_drawGust_36
    · refine gz_iconst (v := 1) C dX9_drawGust_35 (by decide) ?_
      exact gz_iret C dX9_drawGust_36
set_option maxRecDepth 100000 in
set_option maxHeartbeats 4000000 in
theorem ct_X7_isLast (l : Launch) (w : Wd) (p1 : Int32) (M : Mm) : CT l yX7_isLast cX7_isLast 2 (some .boolean) rm_X7_isLast w (qI w) [.ref (w.1 3), .int p1] (sp_X7_isLast p1 M) M := by
  refine ct_of RX7 [(0, .ref (w.1 3)), (1, .int p1)] rfl (Nat.le_of_ble_eq_true rfl) (by decide) rfl rfl rfl (fun x C => ?_)
  unfold sp_X7_isLast
  refine gz_iloadn C 1 rfl dX7_isLast_0 ?_
  refine gz_aloadn C 0 rfl dX7_isLast_1 ?_
  refine gz_get C 3 1 (.int (gI M 3 1)) kn_X7 rfl kf_X7_38 (by decide) dX7_isLast_2 (fv_I rfl) ?_
  refine gz_iconst (v := 1) C dX7_isLast_5 (by decide) ?_
  refine gz_isub C dX7_isLast_6 ?_
  refine gz_icmplt C 14 dX7_isLast_7 (by decide) ?_ ?_
  · refine gz_iconst (v := 0) C dX7_isLast_14 (by decide) ?_
    exact gz_zret C (Or.inl rfl) dX7_isLast_15
  · refine gz_iconst (v := 1) C dX7_isLast_10 (by decide) ?_
    refine gz_goto C 15 dX7_isLast_11 (by decide) ?_
    exact gz_zret C (Or.inr rfl) dX7_isLast_15
set_option maxRecDepth 100000 in
set_option maxHeartbeats 4000000 in
theorem ct_X9_run (l : Launch) (w : Wd) (p4 : Int32) (M : Mm) : CT l yX9_run cX9_run 9 none rm_X9_run w (qV w) [.ref (w.1 31), .ref (w.1 3), .ref (w.1 6), .ref (w.1 13), .int p4] (sp_X9_run p4 M) M := by
  refine ct_of RX9 [(0, .ref (w.1 31)), (1, .ref (w.1 3)), (2, .ref (w.1 6)), (3, .ref (w.1 13)), (4, .int p4)] rfl (Nat.le_of_ble_eq_true rfl) (by decide) rfl rfl rfl (fun x C => ?_)
  unfold sp_X9_run
  refine gz_aloadn C 0 rfl dX9_run_0 ?_
  refine gz_iload C 4 rfl dX9_run_1 ?_
  refine gz_i2l C dX9_run_3 ?_
  refine gz_putJ C 31 0 kn_X9 rfl kf_X9_7 (by decide) rfl rfl (tyX9_ok 0 (by decide)) rfl rfl dX9_run_4 (fun M4 => ?_)
  refine gz_aloadn C 0 rfl dX9_run_7 ?_
  refine gz_iconst (v := 0) C dX9_run_8 (by decide) ?_
  refine gz_putI C 31 1 kn_X9 rfl kf_X9_13 (by decide) rfl rfl (tyX9_ok 1 (by decide)) rfl rfl dX9_run_9 (fun M9 => ?_)
  refine gz_aloadn C 0 rfl dX9_run_12 ?_
  refine gz_aloadn C 3 rfl dX9_run_13 ?_
  refine gz_get C 13 1 (.int (gI M9 13 1)) kn_X1 rfl kf_X9_17 (by decide) dX9_run_14 (fv_I rfl) ?_
  refine gz_zb (fun hb17 => ?_)
  refine gz_putI C 31 2 kn_X9 rfl kf_X9_23 (by decide) rfl rfl (tyX9_ok 2 (by decide)) (nrw_z hb17) (fit_z hb17) dX9_run_17 (fun M17 => ?_)
  refine gz_aloadn C 0 rfl dX9_run_20 ?_
  refine gz_aloadn C 3 rfl dX9_run_21 ?_
  refine gz_get C 13 2 (.int (gI M17 13 2)) kn_X1 rfl kf_X9_24 (by decide) dX9_run_22 (fv_I rfl) ?_
  refine gz_zb (fun hb25 => ?_)
  refine gz_putI C 31 3 kn_X9 rfl kf_X9_27 (by decide) rfl rfl (tyX9_ok 3 (by decide)) (nrw_z hb25) (fit_z hb25) dX9_run_25 (fun M25 => ?_)
  refine gz_aloadn C 2 rfl dX9_run_28 ?_
  refine gz_aloadn C 3 rfl dX9_run_29 ?_
  refine gz_get C 13 3 (.int (gI M25 13 3)) kn_X1 rfl kf_X9_28 (by decide) dX9_run_30 (fv_I rfl) ?_
  refine gz_callVI 6 [.int (gI M25 13 3)] [] C kn_X6 rfl rfl (ct_X6_left x.2.1 w (gI M25 13 3) M25) cal_X6_left km_X9_31 ⟨rfl, rfl⟩ ⟨by decide, by decide⟩ rfl rfl (Nat.le_of_ble_eq_true rfl) dX9_run_33 (fun r33 M33 => ?_)
  refine gz_istore C [(5, .int r33), (0, .ref (w.1 31)), (1, .ref (w.1 3)), (2, .ref (w.1 6)), (3, .ref (w.1 13)), (4, .int p4)] dX9_run_36 (by decide) rfl ?_
  refine gz_aloadn C 4 rfl dX9_run_38 ?_
  refine gz_callVI 13 [] [] C kn_X1 rfl rfl (ct_X1_stage x.2.1 w M33) cal_X1_stage km_X9_37 ⟨rfl, rfl⟩ ⟨by decide, by decide⟩ rfl rfl (Nat.le_of_ble_eq_true rfl) dX9_run_39 (fun r39 M39 => ?_)
  refine gz_istore C [(6, .int r39), (5, .int r33), (0, .ref (w.1 31)), (1, .ref (w.1 3)), (2, .ref (w.1 6)), (3, .ref (w.1 13)), (4, .int p4)] dX9_run_42 (by decide) rfl ?_
  have hL44 : ∀ (n44 : Nat) (v5_44 : Int32) (v6_44 : Int32) (M_44 : Mm), G x w 9 (qV w) (sp_X9_run_L44 n44 v5_44 v6_44 M_44) M_44 [(0, .ref (w.1 31)), (1, .ref (w.1 3)), (2, .ref (w.1 6)), (5, .int v5_44), (6, .int v6_44)] 44 [] := by
    intro n44
    induction n44 with
    | zero => intros; exact gz_none
    | succ n44 ih44 =>
      intro v5_44 v6_44 M_44
      rw [sp_X9_run_L44]
      refine gz_iload C 4 rfl dX9_run_44 ?_
      refine gz_aloadn C 1 rfl dX9_run_46 ?_
      refine gz_get C 3 1 (.int (gI M_44 3 1)) kn_X7 rfl kf_X9_41 (by decide) dX9_run_47 (fv_I rfl) ?_
      refine gz_icmpge C 170 dX9_run_50 (by decide) ?_ ?_
      · refine gz_aloadn C 0 rfl dX9_run_53 ?_
        refine gz_get C 31 2 (.int (gI M_44 31 2)) kn_X9 rfl kf_X9_23 (by decide) dX9_run_54 (fv_I rfl) ?_
        refine gz_ifne C 72 dX9_run_57 (by decide) ?_ ?_
        · refine gz_aloadn C 0 rfl dX9_run_60 ?_
          refine gz_get C 31 3 (.int (gI M_44 31 3)) kn_X9 rfl kf_X9_27 (by decide) dX9_run_61 (fv_I rfl) ?_
          refine gz_ifne C 72 dX9_run_64 (by decide) ?_ ?_
          · refine gz_iload C 3 rfl dX9_run_67 ?_
            refine gz_ifne C 73 dX9_run_69 (by decide) ?_ ?_
            · exact gz_vret C dX9_run_72
            · refine gz_aloadn C 2 rfl dX9_run_73 ?_
              refine gz_iload C 3 rfl dX9_run_74 ?_
              refine gz_callVI 6 [.int v5_44] [] C kn_X6 rfl rfl (ct_X6_leastOf x.2.1 w v5_44 M_44) cal_X6_leastOf km_X9_46 ⟨rfl, rfl⟩ ⟨by decide, by decide⟩ rfl rfl (Nat.le_of_ble_eq_true rfl) dX9_run_76 (fun r76 M76 => ?_)
              refine gz_istore C [(7, .int r76), (0, .ref (w.1 31)), (1, .ref (w.1 3)), (2, .ref (w.1 6)), (5, .int v5_44), (6, .int v6_44)] dX9_run_79 (by decide) rfl ?_
              refine gz_iload C 4 rfl dX9_run_81 ?_
              refine gz_iload C 0 rfl dX9_run_83 ?_
              refine gz_callSI [.int v5_44, .int r76] [] C (ct_X10_without x.2.1 w v5_44 r76 M76) cal_X10_without (Or.inr ⟨_, List.mem_of_getElem? (i := 44) rfl⟩) ⟨rfl, rfl⟩ ⟨by decide, by decide⟩ rfl rfl (Nat.le_of_ble_eq_true rfl) dX9_run_85 (fun r85 M85 => ?_)
              refine gz_istore C [(5, .int r85), (7, .int r76), (0, .ref (w.1 31)), (1, .ref (w.1 3)), (2, .ref (w.1 6)), (6, .int v6_44)] dX9_run_88 (by decide) rfl ?_
              refine gz_aloadn C 2 rfl dX9_run_90 ?_
              refine gz_dup C dX9_run_91 rfl ?_
              refine gz_get C 31 1 (.int (gI M85 31 1)) kn_X9 rfl kf_X9_13 (by decide) dX9_run_92 (fv_I rfl) ?_
              refine gz_iconst (v := 1) C dX9_run_95 (by decide) ?_
              refine gz_iadd C dX9_run_96 ?_
              refine gz_putI C 31 1 kn_X9 rfl kf_X9_13 (by decide) rfl rfl (tyX9_ok 1 (by decide)) rfl rfl dX9_run_97 (fun M97 => ?_)
              refine gz_aloadn C 2 rfl dX9_run_100 ?_
              refine gz_aloadn C 3 rfl dX9_run_101 ?_
              refine gz_aloadn C 4 rfl dX9_run_102 ?_
              refine gz_iload C 1 rfl dX9_run_103 ?_
              refine gz_iload C 5 rfl dX9_run_105 ?_
              refine gz_aloadn C 2 rfl dX9_run_107 ?_
              refine gz_aloadn C 3 rfl dX9_run_108 ?_
              refine gz_callVI 31 [.ref (w.1 3)] [.int v6_44, .int r76, .ref (w.1 6), .ref (w.1 3), .ref (w.1 31)] C kn_X9 rfl rfl (ct_X9_drawGust x.2.1 w M97) cal_X9_drawGust km_X9_55 ⟨rfl, rfl⟩ ⟨by decide, by decide⟩ rfl rfl (Nat.le_of_ble_eq_true rfl) dX9_run_109 (fun r109 M109 => ?_)
              refine gz_aloadn C 3 rfl dX9_run_112 ?_
              refine gz_callVI 6 [.int r76, .int v6_44, .int r109, .ref (w.1 3)] [.ref (w.1 3), .ref (w.1 31)] C kn_X6 rfl rfl (ct_X6_fallsAt x.2.1 w r76 v6_44 r109 M109) cal_X6_fallsAt km_X9_59 ⟨rfl, rfl⟩ ⟨by decide, by decide⟩ rfl rfl (Nat.le_of_ble_eq_true rfl) dX9_run_113 (fun r113 M113 => ?_)
              refine gz_callVI 3 [.int r113] [.ref (w.1 31)] C kn_X7 rfl rfl (ct_X7_isRight x.2.1 w r113 M113) cal_X7_isRight km_X9_63 ⟨rfl, rfl⟩ ⟨by decide, by decide⟩ rfl rfl (Nat.le_of_ble_eq_true rfl) dX9_run_116 (fun r116 M116 => ?_)
              refine gz_zb (fun hb119 => ?_)
              refine gz_putI C 31 2 kn_X9 rfl kf_X9_23 (by decide) rfl rfl (tyX9_ok 2 (by decide)) (nrw_z hb119) (fit_z hb119) dX9_run_119 (fun M119 => ?_)
              refine gz_aloadn C 2 rfl dX9_run_122 ?_
              refine gz_get C 31 2 (.int (gI M119 31 2)) kn_X9 rfl kf_X9_23 (by decide) dX9_run_123 (fv_I rfl) ?_
              refine gz_ifne C 164 dX9_run_126 (by decide) ?_ ?_
              · refine gz_aloadn C 2 rfl dX9_run_129 ?_
                refine gz_callVI 31 [] [] C kn_X9 rfl rfl (ct_X9_draw x.2.1 w M119) cal_X9_draw km_X9_67 ⟨rfl, rfl⟩ ⟨by decide, by decide⟩ rfl rfl (Nat.le_of_ble_eq_true rfl) dX9_run_130 (fun r130 M130 => ?_)
                refine gz_istore C [(8, .int r130), (5, .int r85), (7, .int r76), (0, .ref (w.1 31)), (1, .ref (w.1 3)), (2, .ref (w.1 6)), (6, .int v6_44)] dX9_run_133 (by decide) rfl ?_
                refine gz_aloadn C 3 rfl dX9_run_135 ?_
                refine gz_aloadn C 4 rfl dX9_run_136 ?_
                refine gz_iload C 6 rfl dX9_run_137 ?_
                refine gz_callVI 3 [.int v6_44] [.ref (w.1 31)] C kn_X7 rfl rfl (ct_X7_isLast x.2.1 w v6_44 M130) cal_X7_isLast km_X9_70 ⟨rfl, rfl⟩ ⟨by decide, by decide⟩ rfl rfl (Nat.le_of_ble_eq_true rfl) dX9_run_139 (fun r139 M139 => ?_)
                refine gz_jn (fun K156 => ∀ (M_156 : Mm), G x w 9 (qV w) (K156 M_156) M_156 [(0, .ref (w.1 31)), (1, .ref (w.1 3)), (2, .ref (w.1 6)), (5, .int r85), (6, .int v6_44)] 156 [.ref (w.1 31)]) ?_ ?_
                · intro M_156
                  refine gz_iconst (v := 1) C dX9_run_156 (by decide) ?_
                  refine gz_goto C 161 dX9_run_157 (by decide) ?_
                  refine gz_putI C 31 3 kn_X9 rfl kf_X9_27 (by decide) rfl rfl (tyX9_ok 3 (by decide)) (nrw_z (Or.inr rfl)) (fit_z (Or.inr rfl)) dX9_run_161 (fun M161 => ?_)
                  refine gz_iinc (v' := v6_44 + 1) C 4 [(6, .int (v6_44 + 1)), (0, .ref (w.1 31)), (1, .ref (w.1 3)), (2, .ref (w.1 6)), (5, .int r85)] rfl dX9_run_164 rfl (by decide) rfl ?_
                  refine gz_goto C 44 dX9_run_167 (by decide) ?_
                  refine gz_sub [1, 2, 3, 4, 0] rfl ?_
                  exact ih44 _ _ _
                · intro K156 hK156
                  refine gz_ifne C 156 dX9_run_142 (by decide) ?_ ?_
                  · refine gz_iload C 0 rfl dX9_run_145 ?_
                    refine gz_aloadn C 4 rfl dX9_run_147 ?_
                    refine gz_iload C 6 rfl dX9_run_148 ?_
                    refine gz_callVI 3 [.int v6_44] [.int r130, .ref (w.1 31)] C kn_X7 rfl rfl (ct_X7_breakTenths x.2.1 w v6_44 M139) cal_X7_breakTenths km_X9_73 ⟨rfl, rfl⟩ ⟨by decide, by decide⟩ rfl rfl (Nat.le_of_ble_eq_true rfl) dX9_run_150 (fun r150 M150 => ?_)
                    refine gz_icmpge C 160 dX9_run_153 (by decide) ?_ ?_
                    · refine gz_sub [3, 4, 5, 1, 6] rfl ?_
                      exact hK156 _
                    · refine gz_iconst (v := 0) C dX9_run_160 (by decide) ?_
                      refine gz_putI C 31 3 kn_X9 rfl kf_X9_27 (by decide) rfl rfl (tyX9_ok 3 (by decide)) (nrw_z (Or.inl rfl)) (fit_z (Or.inl rfl)) dX9_run_161 (fun M161 => ?_)
                      refine gz_iinc (v' := v6_44 + 1) C 6 [(6, .int (v6_44 + 1)), (8, .int r130), (5, .int r85), (7, .int r76), (0, .ref (w.1 31)), (1, .ref (w.1 3)), (2, .ref (w.1 6))] rfl dX9_run_164 rfl (by decide) rfl ?_
                      refine gz_goto C 44 dX9_run_167 (by decide) ?_
                      refine gz_sub [4, 5, 6, 2, 0] rfl ?_
                      exact ih44 _ _ _
                  · refine gz_sub [3, 4, 5, 1, 6] rfl ?_
                    exact hK156 _
              · refine gz_iinc (v' := v6_44 + 1) C 5 [(6, .int (v6_44 + 1)), (5, .int r85), (7, .int r76), (0, .ref (w.1 31)), (1, .ref (w.1 3)), (2, .ref (w.1 6))] rfl dX9_run_164 rfl (by decide) rfl ?_
                refine gz_goto C 44 dX9_run_167 (by decide) ?_
                refine gz_sub [3, 4, 5, 1, 0] rfl ?_
                exact ih44 _ _ _
          · exact gz_vret C dX9_run_72
        · exact gz_vret C dX9_run_72
      · exact gz_vret C dX9_run_170
  refine gz_sub [2, 3, 4, 1, 0] rfl ?_
  exact hL44 fu _ _ _
set_option maxRecDepth 100000 in
set_option maxHeartbeats 4000000 in
theorem ct_X10_nights (l : Launch) (w : Wd) (p1 : Int32) (p2 : Int32) (M : Mm) : CT l yX10_nights cX10_nights 3 (some .int) rm_X10_nights w (qI w) [.ref (w.1 0), .int p1, .int p2] (sp_X10_nights p1 p2 M) M := by
  refine ct_of RX10 [(0, .ref (w.1 0)), (1, .int p1), (2, .int p2)] rfl (Nat.le_of_ble_eq_true rfl) (by decide) rfl rfl rfl (fun x C => ?_)
  unfold sp_X10_nights
  refine gz_iloadn C 1 rfl dX10_nights_0 ?_
  refine gz_iflt C 13 dX10_nights_1 (by decide) ?_ ?_
  · refine gz_bipush (v := (-102)) C dX10_nights_13 (by decide) ?_
    exact gz_iret C dX10_nights_15
  · refine gz_iloadn C 2 rfl dX10_nights_4 ?_
    refine gz_iconst (v := 0) C dX10_nights_5 (by decide) ?_
    refine gz_iconst (v := 3) C dX10_nights_6 (by decide) ?_
    refine gz_callSI [.int p2, .int (0 : Int32), .int (3 : Int32)] [] C (ct_X10_isOutside x.2.1 w p2 (0 : Int32) (3 : Int32) M) cal_X10_isOutside (Or.inl km_X10_79) ⟨rfl, rfl⟩ ⟨by decide, by decide⟩ rfl rfl (Nat.le_of_ble_eq_true rfl) dX10_nights_7 (fun r7 M7 => ?_)
    refine gz_ifeq C 16 dX10_nights_10 (by decide) ?_ ?_
    · refine gz_aloadn C 0 rfl dX10_nights_16 ?_
      refine gz_callVI 0 [] [] C kn_X10 rfl rfl (ct_X10_isAfloat x.2.1 w M7) cal_X10_isAfloat km_X10_244 ⟨rfl, rfl⟩ ⟨by decide, by decide⟩ rfl rfl (Nat.le_of_ble_eq_true rfl) dX10_nights_17 (fun r17 M17 => ?_)
      refine gz_ifne C 26 dX10_nights_20 (by decide) ?_ ?_
      · refine gz_bipush (v := (-103)) C dX10_nights_23 (by decide) ?_
        exact gz_iret C dX10_nights_25
      · refine gz_aloadn C 0 rfl dX10_nights_26 ?_
        refine gz_get C 0 9 (.ref (w.1 31)) kn_X10 rfl kf_X10_75 (by decide) dX10_nights_27 (fv_R rfl rfl) ?_
        refine gz_aloadn C 0 rfl dX10_nights_30 ?_
        refine gz_get C 0 1 (.ref (w.1 3)) kn_X10 rfl kf_X10_19 (by decide) dX10_nights_31 (fv_R rfl rfl) ?_
        refine gz_aloadn C 0 rfl dX10_nights_34 ?_
        refine gz_get C 0 2 (.ref (w.1 6)) kn_X10 rfl kf_X10_26 (by decide) dX10_nights_35 (fv_R rfl rfl) ?_
        refine gz_aloadn C 0 rfl dX10_nights_38 ?_
        refine gz_get C 0 4 (.ref (w.1 13)) kn_X10 rfl kf_X10_40 (by decide) dX10_nights_39 (fv_R rfl rfl) ?_
        refine gz_iloadn C 1 rfl dX10_nights_42 ?_
        refine gz_callVV 31 [.ref (w.1 3), .ref (w.1 6), .ref (w.1 13), .int p1] [] C kn_X9 rfl rfl (ct_X9_run x.2.1 w p1 M17) cal_X9_run km_X10_302 ⟨rfl, rfl⟩ ⟨by decide, by decide⟩ rfl rfl (Nat.le_of_ble_eq_true rfl) dX10_nights_43 (fun _ M43 => ?_)
        refine gz_iloadn C 2 rfl dX10_nights_46 ?_
        refine gz_if (fun hs0 => ?_) (fun hs0 => ?_)
        · refine gz_tabIn (off := 25) C (0) 72 dX10_nights_47 hs0 (by decide) (by decide) (by decide) (by decide) ?_
          refine gz_aloadn C 0 rfl dX10_nights_72 ?_
          refine gz_get C 0 9 (.ref (w.1 31)) kn_X10 rfl kf_X10_75 (by decide) dX10_nights_73 (fv_R rfl rfl) ?_
          refine gz_get C 31 2 (.int (gI M43 31 2)) kn_X9 rfl kf_X10_305 (by decide) dX10_nights_76 (fv_I rfl) ?_
          refine gz_callSI [.int (gI M43 31 2)] [] C (ct_X10_asNumber x.2.1 w (gI M43 31 2) M43) cal_X10_asNumber (Or.inl km_X10_214) ⟨rfl, rfl⟩ ⟨by decide, by decide⟩ rfl rfl (Nat.le_of_ble_eq_true rfl) dX10_nights_79 (fun r79 M79 => ?_)
          exact gz_iret C dX10_nights_82
        refine gz_if (fun hs1 => ?_) (fun hs1 => ?_)
        · refine gz_tabIn (off := 36) C (1) 83 dX10_nights_47 hs1 (by decide) (by decide) (by decide) (by decide) ?_
          refine gz_aloadn C 0 rfl dX10_nights_83 ?_
          refine gz_get C 0 9 (.ref (w.1 31)) kn_X10 rfl kf_X10_75 (by decide) dX10_nights_84 (fv_R rfl rfl) ?_
          refine gz_get C 31 1 (.int (gI M43 31 1)) kn_X9 rfl kf_X10_306 (by decide) dX10_nights_87 (fv_I rfl) ?_
          exact gz_iret C dX10_nights_90
        refine gz_if (fun hs2 => ?_) (fun hs2 => ?_)
        · refine gz_tabIn (off := 44) C (2) 91 dX10_nights_47 hs2 (by decide) (by decide) (by decide) (by decide) ?_
          refine gz_aloadn C 0 rfl dX10_nights_91 ?_
          refine gz_get C 0 9 (.ref (w.1 31)) kn_X10 rfl kf_X10_75 (by decide) dX10_nights_92 (fv_R rfl rfl) ?_
          refine gz_get C 31 3 (.int (gI M43 31 3)) kn_X9 rfl kf_X10_309 (by decide) dX10_nights_95 (fv_I rfl) ?_
          refine gz_callSI [.int (gI M43 31 3)] [] C (ct_X10_asNumber x.2.1 w (gI M43 31 3) M43) cal_X10_asNumber (Or.inl km_X10_214) ⟨rfl, rfl⟩ ⟨by decide, by decide⟩ rfl rfl (Nat.le_of_ble_eq_true rfl) dX10_nights_98 (fun r98 M98 => ?_)
          exact gz_iret C dX10_nights_101
        refine gz_tabOut C 102 dX10_nights_47 (by have e0 := lv_neT (a := 0) hs0 (by decide); have e1 := lv_neT (a := 1) hs1 (by decide); have e2 := lv_neT (a := 2) hs2 (by decide); omega) (by decide) ?_
        refine gz_aloadn C 0 rfl dX10_nights_102 ?_
        refine gz_get C 0 9 (.ref (w.1 31)) kn_X10 rfl kf_X10_75 (by decide) dX10_nights_103 (fv_R rfl rfl) ?_
        refine gz_get C 31 0 (.long (gJ M43 31 0)) kn_X9 rfl kf_X10_310 (by decide) dX10_nights_106 (fv_J rfl) ?_
        refine gz_l2i C dX10_nights_109 ?_
        exact gz_iret C dX10_nights_110
    · refine gz_bipush (v := (-102)) C dX10_nights_13 (by decide) ?_
      exact gz_iret C dX10_nights_15
set_option maxRecDepth 100000 in
set_option maxHeartbeats 4000000 in
theorem ct_X1_takeFrom_18_13 (l : Launch) (w : Wd) (M : Mm) : CT l yX1_takeFrom cX1_takeFrom 3 none rm_X1_takeFrom_18_13 w (qV w) [.ref (w.1 18), .ref (w.1 13)] (sp_X1_takeFrom_18_13 M) M := by
  refine ct_of RX1 [(0, .ref (w.1 18)), (1, .ref (w.1 13))] rfl (Nat.le_of_ble_eq_true rfl) (by decide) rfl rfl rfl (fun x C => ?_)
  unfold sp_X1_takeFrom_18_13
  refine gz_aloadn C 0 rfl dX1_takeFrom_0 ?_
  refine gz_aloadn C 1 rfl dX1_takeFrom_1 ?_
  refine gz_get C 13 0 (.int (gI M 13 0)) kn_X1 rfl kf_X1_25 (by decide) dX1_takeFrom_2 (fv_I rfl) ?_
  refine gz_putI C 18 0 kn_X1 rfl kf_X1_25 (by decide) rfl rfl (tyX1_ok 0 (by decide)) rfl rfl dX1_takeFrom_5 (fun M5 => ?_)
  refine gz_aloadn C 0 rfl dX1_takeFrom_8 ?_
  refine gz_aloadn C 1 rfl dX1_takeFrom_9 ?_
  refine gz_get C 13 1 (.int (gI M5 13 1)) kn_X1 rfl kf_X1_28 (by decide) dX1_takeFrom_10 (fv_I rfl) ?_
  refine gz_zb (fun hb13 => ?_)
  refine gz_putI C 18 1 kn_X1 rfl kf_X1_28 (by decide) rfl rfl (tyX1_ok 1 (by decide)) (nrw_z hb13) (fit_z hb13) dX1_takeFrom_13 (fun M13 => ?_)
  refine gz_aloadn C 0 rfl dX1_takeFrom_16 ?_
  refine gz_aloadn C 1 rfl dX1_takeFrom_17 ?_
  refine gz_get C 13 2 (.int (gI M13 13 2)) kn_X1 rfl kf_X1_32 (by decide) dX1_takeFrom_18 (fv_I rfl) ?_
  refine gz_zb (fun hb21 => ?_)
  refine gz_putI C 18 2 kn_X1 rfl kf_X1_32 (by decide) rfl rfl (tyX1_ok 2 (by decide)) (nrw_z hb21) (fit_z hb21) dX1_takeFrom_21 (fun M21 => ?_)
  refine gz_aloadn C 0 rfl dX1_takeFrom_24 ?_
  refine gz_aloadn C 1 rfl dX1_takeFrom_25 ?_
  refine gz_get C 13 3 (.int (gI M21 13 3)) kn_X1 rfl kf_X1_35 (by decide) dX1_takeFrom_26 (fv_I rfl) ?_
  refine gz_putI C 18 3 kn_X1 rfl kf_X1_35 (by decide) rfl rfl (tyX1_ok 3 (by decide)) rfl rfl dX1_takeFrom_29 (fun M29 => ?_)
  refine gz_aloadn C 0 rfl dX1_takeFrom_32 ?_
  refine gz_aloadn C 1 rfl dX1_takeFrom_33 ?_
  refine gz_get C 13 4 (.int (gI M29 13 4)) kn_X1 rfl kf_X1_38 (by decide) dX1_takeFrom_34 (fv_I rfl) ?_
  refine gz_putI C 18 4 kn_X1 rfl kf_X1_38 (by decide) rfl rfl (tyX1_ok 4 (by decide)) rfl rfl dX1_takeFrom_37 (fun M37 => ?_)
  refine gz_aloadn C 0 rfl dX1_takeFrom_40 ?_
  refine gz_aloadn C 1 rfl dX1_takeFrom_41 ?_
  refine gz_get C 13 5 (.int (gI M37 13 5)) kn_X1 rfl kf_X1_9 (by decide) dX1_takeFrom_42 (fv_I rfl) ?_
  refine gz_putI C 18 5 kn_X1 rfl kf_X1_9 (by decide) rfl rfl (tyX1_ok 5 (by decide)) rfl rfl dX1_takeFrom_45 (fun M45 => ?_)
  refine gz_aloadn C 0 rfl dX1_takeFrom_48 ?_
  refine gz_aloadn C 1 rfl dX1_takeFrom_49 ?_
  refine gz_get C 13 6 (.int (gI M45 13 6)) kn_X1 rfl kf_X1_41 (by decide) dX1_takeFrom_50 (fv_I rfl) ?_
  refine gz_putI C 18 6 kn_X1 rfl kf_X1_41 (by decide) rfl rfl (tyX1_ok 6 (by decide)) rfl rfl dX1_takeFrom_53 (fun M53 => ?_)
  refine gz_aloadn C 0 rfl dX1_takeFrom_56 ?_
  refine gz_aloadn C 1 rfl dX1_takeFrom_57 ?_
  refine gz_get C 13 7 (.int (gI M53 13 7)) kn_X1 rfl kf_X1_44 (by decide) dX1_takeFrom_58 (fv_I rfl) ?_
  refine gz_putI C 18 7 kn_X1 rfl kf_X1_44 (by decide) rfl rfl (tyX1_ok 7 (by decide)) rfl rfl dX1_takeFrom_61 (fun M61 => ?_)
  refine gz_iconst (v := 0) C dX1_takeFrom_64 (by decide) ?_
  refine gz_istoren C [(2, .int (0 : Int32)), (0, .ref (w.1 18)), (1, .ref (w.1 13))] dX1_takeFrom_65 (by decide) rfl ?_
  refine gz_jn (fun K110 => ∀ (M_110 : Mm), G x w 3 (qV w) (K110 M_110) M_110 [(0, .ref (w.1 18)), (1, .ref (w.1 13))] 110 []) ?_ ?_
  · intro M_110
    refine gz_iconst (v := 0) C dX1_takeFrom_110 (by decide) ?_
    refine gz_istoren C [(2, .int (0 : Int32)), (0, .ref (w.1 18)), (1, .ref (w.1 13))] dX1_takeFrom_111 (by decide) rfl ?_
    have hL112 : ∀ (n112 : Nat) (v2_112 : Int32) (M_112 : Mm), G x w 3 (qV w) (sp_X1_takeFrom_18_13_L112 n112 v2_112 M_112) M_112 [(0, .ref (w.1 18)), (1, .ref (w.1 13)), (2, .int v2_112)] 112 [] := by
      intro n112
      induction n112 with
      | zero => intros; exact gz_none
      | succ n112 ih112 =>
        intro v2_112 M_112
        rw [sp_X1_takeFrom_18_13_L112]
        refine gz_iloadn C 2 rfl dX1_takeFrom_112 ?_
        refine gz_bipush (v := (8)) C dX1_takeFrom_113 (by decide) ?_
        refine gz_icmpge C 140 dX1_takeFrom_115 (by decide) ?_ ?_
        · refine gz_aloadn C 0 rfl dX1_takeFrom_118 ?_
          refine gz_get C 18 10 (.ref (w.1 21)) kn_X1 rfl kf_X1_22 (by decide) dX1_takeFrom_119 (fv_R rfl rfl) ?_
          refine gz_iloadn C 2 rfl dX1_takeFrom_122 ?_
          refine gz_aloadn C 1 rfl dX1_takeFrom_123 ?_
          refine gz_get C 13 10 (.ref (w.1 16)) kn_X1 rfl kf_X1_22 (by decide) dX1_takeFrom_124 (fv_R rfl rfl) ?_
          refine gz_iloadn C 2 rfl dX1_takeFrom_127 ?_
          refine gz_callSI [.ref (w.1 16), .int v2_112] [.int v2_112, .ref (w.1 21)] C (ct_X10_at x.2.1 w 16 rfl v2_112 M_112) cal_X10_at (Or.inr ⟨_, List.mem_of_getElem? (i := 25) rfl⟩) ⟨rfl, rfl⟩ ⟨by decide, by decide⟩ rfl rfl (Nat.le_of_ble_eq_true rfl) dX1_takeFrom_128 (fun r128 M128 => ?_)
          refine gz_callSV [.ref (w.1 21), .int v2_112, .int r128] [] C (ct_X10_put x.2.1 w 21 rfl v2_112 r128 M128) cal_X10_put (Or.inr ⟨_, List.mem_of_getElem? (i := 30) rfl⟩) ⟨rfl, rfl⟩ ⟨by decide, by decide⟩ rfl rfl (Nat.le_of_ble_eq_true rfl) dX1_takeFrom_131 (fun _ M131 => ?_)
          refine gz_iinc (v' := v2_112 + 1) C 2 [(2, .int (v2_112 + 1)), (0, .ref (w.1 18)), (1, .ref (w.1 13))] rfl dX1_takeFrom_134 rfl (by decide) rfl ?_
          refine gz_goto C 112 dX1_takeFrom_137 (by decide) ?_
          refine gz_sub [1, 2, 0] rfl ?_
          exact ih112 _ _
        · exact gz_vret C dX1_takeFrom_140
    refine gz_sub [1, 2, 0] rfl ?_
    exact hL112 fu _ _
  · intro K110 hK110
    have hL66 : ∀ (n66 : Nat) (v2_66 : Int32) (M_66 : Mm), G x w 3 (qV w) (sp_X1_takeFrom_18_13_L66 K110 n66 v2_66 M_66) M_66 [(0, .ref (w.1 18)), (1, .ref (w.1 13)), (2, .int v2_66)] 66 [] := by
      intro n66
      induction n66 with
      | zero => intros; exact gz_none
      | succ n66 ih66 =>
        intro v2_66 M_66
        rw [sp_X1_takeFrom_18_13_L66]
        refine gz_iloadn C 2 rfl dX1_takeFrom_66 ?_
        refine gz_bipush (v := (6)) C dX1_takeFrom_67 (by decide) ?_
        refine gz_icmpge C 110 dX1_takeFrom_69 (by decide) ?_ ?_
        · refine gz_aloadn C 0 rfl dX1_takeFrom_72 ?_
          refine gz_get C 18 8 (.ref (w.1 19)) kn_X1 rfl kf_X1_15 (by decide) dX1_takeFrom_73 (fv_R rfl rfl) ?_
          refine gz_iloadn C 2 rfl dX1_takeFrom_76 ?_
          refine gz_aloadn C 1 rfl dX1_takeFrom_77 ?_
          refine gz_get C 13 8 (.ref (w.1 14)) kn_X1 rfl kf_X1_15 (by decide) dX1_takeFrom_78 (fv_R rfl rfl) ?_
          refine gz_iloadn C 2 rfl dX1_takeFrom_81 ?_
          refine gz_callSI [.ref (w.1 14), .int v2_66] [.int v2_66, .ref (w.1 19)] C (ct_X10_at x.2.1 w 14 rfl v2_66 M_66) cal_X10_at (Or.inr ⟨_, List.mem_of_getElem? (i := 25) rfl⟩) ⟨rfl, rfl⟩ ⟨by decide, by decide⟩ rfl rfl (Nat.le_of_ble_eq_true rfl) dX1_takeFrom_82 (fun r82 M82 => ?_)
          refine gz_callSV [.ref (w.1 19), .int v2_66, .int r82] [] C (ct_X10_put x.2.1 w 19 rfl v2_66 r82 M82) cal_X10_put (Or.inr ⟨_, List.mem_of_getElem? (i := 30) rfl⟩) ⟨rfl, rfl⟩ ⟨by decide, by decide⟩ rfl rfl (Nat.le_of_ble_eq_true rfl) dX1_takeFrom_85 (fun _ M85 => ?_)
          refine gz_aloadn C 0 rfl dX1_takeFrom_88 ?_
          refine gz_get C 18 9 (.ref (w.1 20)) kn_X1 rfl kf_X1_19 (by decide) dX1_takeFrom_89 (fv_R rfl rfl) ?_
          refine gz_iloadn C 2 rfl dX1_takeFrom_92 ?_
          refine gz_aloadn C 1 rfl dX1_takeFrom_93 ?_
          refine gz_get C 13 9 (.ref (w.1 15)) kn_X1 rfl kf_X1_19 (by decide) dX1_takeFrom_94 (fv_R rfl rfl) ?_
          refine gz_iloadn C 2 rfl dX1_takeFrom_97 ?_
          refine gz_callSI [.ref (w.1 15), .int v2_66] [.int v2_66, .ref (w.1 20)] C (ct_X10_at x.2.1 w 15 rfl v2_66 M85) cal_X10_at (Or.inr ⟨_, List.mem_of_getElem? (i := 25) rfl⟩) ⟨rfl, rfl⟩ ⟨by decide, by decide⟩ rfl rfl (Nat.le_of_ble_eq_true rfl) dX1_takeFrom_98 (fun r98 M98 => ?_)
          refine gz_callSV [.ref (w.1 20), .int v2_66, .int r98] [] C (ct_X10_put x.2.1 w 20 rfl v2_66 r98 M98) cal_X10_put (Or.inr ⟨_, List.mem_of_getElem? (i := 30) rfl⟩) ⟨rfl, rfl⟩ ⟨by decide, by decide⟩ rfl rfl (Nat.le_of_ble_eq_true rfl) dX1_takeFrom_101 (fun _ M101 => ?_)
          refine gz_iinc (v' := v2_66 + 1) C 2 [(2, .int (v2_66 + 1)), (0, .ref (w.1 18)), (1, .ref (w.1 13))] rfl dX1_takeFrom_104 rfl (by decide) rfl ?_
          refine gz_goto C 66 dX1_takeFrom_107 (by decide) ?_
          refine gz_sub [1, 2, 0] rfl ?_
          exact ih66 _ _
        · refine gz_sub [0, 1] rfl ?_
          exact hK110 _
    refine gz_sub [1, 2, 0] rfl ?_
    exact hL66 fu _ _
