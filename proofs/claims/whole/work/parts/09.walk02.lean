set_option maxRecDepth 100000 in
set_option maxHeartbeats 4000000 in
theorem ct_X10_commonDivisor (l : Launch) (w : Wd) (p0 : Int64) (p2 : Int64) (M : Mm) : CT l yX10_commonDivisor cX10_commonDivisor 11 (some .long) rm_X10_commonDivisor w (qJ w) [.long p0, .long p2] (sp_X10_commonDivisor p0 p2 M) M := by
  refine ct_of RX10 [(0, .long p0), (2, .long p2)] rfl (Nat.le_of_ble_eq_true rfl) (by decide) rfl rfl rfl (fun x C => ?_)
  unfold sp_X10_commonDivisor
  refine gz_lloadn C 0 rfl dX10_commonDivisor_0 ?_
  refine gz_lstore C [(4, .long p0), (0, .long p0), (2, .long p2)] dX10_commonDivisor_1 (by decide) rfl ?_
  refine gz_lloadn C 2 rfl dX10_commonDivisor_3 ?_
  refine gz_lstore C [(6, .long p2), (4, .long p0), (0, .long p0), (2, .long p2)] dX10_commonDivisor_4 (by decide) rfl ?_
  refine gz_iconst (v := 0) C dX10_commonDivisor_6 (by decide) ?_
  refine gz_istore C [(8, .int (0 : Int32)), (6, .long p2), (4, .long p0), (0, .long p0), (2, .long p2)] dX10_commonDivisor_7 (by decide) rfl ?_
  have hL9 : ∀ (n9 : Nat) (v4_9 : Int64) (v6_9 : Int64) (v8_9 : Int32), G x w 11 (qJ w) (sp_X10_commonDivisor_L9 M n9 v4_9 v6_9 v8_9) M [(4, .long v4_9), (6, .long v6_9), (8, .int v8_9)] 9 [] := by
    intro n9
    induction n9 with
    | zero => intros; exact gz_none
    | succ n9 ih9 =>
      intro v4_9 v6_9 v8_9
      rw [sp_X10_commonDivisor_L9]
      refine gz_iload C 2 rfl dX10_commonDivisor_9 ?_
      refine gz_bipush (v := (100)) C dX10_commonDivisor_11 (by decide) ?_
      refine gz_icmpge C 44 dX10_commonDivisor_13 (by decide) ?_ ?_
      · refine gz_lload C 1 rfl dX10_commonDivisor_16 ?_
        refine gz_lconst (v := 0) C dX10_commonDivisor_18 (by decide) ?_
        refine gz_lcmp C dX10_commonDivisor_19 ?_
        refine gz_cnd (lc_eq v6_9 (0 : Int64)) ?_
        refine gz_ifeq C 44 dX10_commonDivisor_20 (by decide) ?_ ?_
        · refine gz_lload C 0 rfl dX10_commonDivisor_44 ?_
          exact gz_lret C dX10_commonDivisor_46
        · refine gz_lload C 0 rfl dX10_commonDivisor_23 ?_
          refine gz_lload C 1 rfl dX10_commonDivisor_25 ?_
          refine gz_nzJ (fun hz27 => ?_)
          refine gz_lremc C hz27 dX10_commonDivisor_27 ?_
          refine gz_bltJ (fun y28 => ?_)
          refine gz_lstore C [(9, .long y28), (4, .long v4_9), (6, .long v6_9), (8, .int v8_9)] dX10_commonDivisor_28 (by decide) rfl ?_
          refine gz_lload C 2 rfl dX10_commonDivisor_30 ?_
          refine gz_lstore C [(4, .long v6_9), (9, .long y28), (6, .long v6_9), (8, .int v8_9)] dX10_commonDivisor_32 (by decide) rfl ?_
          refine gz_lload C 1 rfl dX10_commonDivisor_34 ?_
          refine gz_lstore C [(6, .long y28), (4, .long v6_9), (9, .long y28), (8, .int v8_9)] dX10_commonDivisor_36 (by decide) rfl ?_
          refine gz_iinc (v' := v8_9 + 1) C 3 [(8, .int (v8_9 + 1)), (6, .long y28), (4, .long v6_9), (9, .long y28)] rfl dX10_commonDivisor_38 rfl (by decide) rfl ?_
          refine gz_goto C 9 dX10_commonDivisor_41 (by decide) ?_
          refine gz_sub [2, 1, 0] rfl ?_
          exact ih9 _ _ _
      · refine gz_lload C 0 rfl dX10_commonDivisor_44 ?_
        exact gz_lret C dX10_commonDivisor_46
  refine gz_sub [2, 1, 0] rfl ?_
  exact hL9 fu _ _ _
set_option maxRecDepth 100000 in
set_option maxHeartbeats 4000000 in
theorem ct_X10_inLowestTerms (l : Launch) (w : Wd) (p0 : Int64) (p2 : Int64) (p4 : Int32) (M : Mm) : CT l yX10_inLowestTerms cX10_inLowestTerms 7 (some .long) rm_X10_inLowestTerms w (qJ w) [.long p0, .long p2, .int p4] (sp_X10_inLowestTerms p0 p2 p4 M) M := by
  refine ct_of RX10 [(0, .long p0), (2, .long p2), (4, .int p4)] rfl (Nat.le_of_ble_eq_true rfl) (by decide) rfl rfl rfl (fun x C => ?_)
  unfold sp_X10_inLowestTerms
  refine gz_lloadn C 0 rfl dX10_inLowestTerms_0 ?_
  refine gz_lloadn C 1 rfl dX10_inLowestTerms_1 ?_
  refine gz_callSJ [.long p0, .long p2] [] C (ct_X10_commonDivisor x.2.1 w p0 p2 M) cal_X10_commonDivisor (Or.inl km_X10_368) ⟨rfl, rfl⟩ ⟨by decide, by decide⟩ rfl rfl (Nat.le_of_ble_eq_true rfl) dX10_inLowestTerms_2 (fun r2 M2 => ?_)
  refine gz_lstore C [(5, .long r2), (0, .long p0), (2, .long p2), (4, .int p4)] dX10_inLowestTerms_5 (by decide) rfl ?_
  refine gz_lload C 0 rfl dX10_inLowestTerms_7 ?_
  refine gz_lconst (v := 0) C dX10_inLowestTerms_9 (by decide) ?_
  refine gz_lcmp C dX10_inLowestTerms_10 ?_
  refine gz_cnd (lc_gt r2 (0 : Int64)) ?_
  refine gz_ifgt C 16 dX10_inLowestTerms_11 (by decide) ?_ ?_
  · refine gz_iload C 3 rfl dX10_inLowestTerms_16 ?_
    refine gz_ifne C 25 dX10_inLowestTerms_18 (by decide) ?_ ?_
    · refine gz_lloadn C 1 rfl dX10_inLowestTerms_21 ?_
      refine gz_goto C 26 dX10_inLowestTerms_22 (by decide) ?_
      refine gz_lload C 0 rfl dX10_inLowestTerms_26 ?_
      refine gz_nzJ (fun hz28 => ?_)
      refine gz_ldivc C hz28 dX10_inLowestTerms_28 ?_
      exact gz_lret C dX10_inLowestTerms_29
    · refine gz_lloadn C 2 rfl dX10_inLowestTerms_25 ?_
      refine gz_lload C 0 rfl dX10_inLowestTerms_26 ?_
      refine gz_nzJ (fun hz28 => ?_)
      refine gz_ldivc C hz28 dX10_inLowestTerms_28 ?_
      exact gz_lret C dX10_inLowestTerms_29
  · refine gz_lconst (v := 0) C dX10_inLowestTerms_14 (by decide) ?_
    exact gz_lret C dX10_inLowestTerms_15
set_option maxRecDepth 100000 in
set_option maxHeartbeats 4000000 in
theorem ct_X10_hits (l : Launch) (w : Wd) (p1 : Int32) (p2 : Int32) (p3 : Int32) (M : Mm) : CT l yX10_hits cX10_hits 4 (some .long) rm_X10_hits w (qJ w) [.ref (w.1 0), .int p1, .int p2, .int p3] (sp_X10_hits p1 p2 p3 M) M := by
  refine ct_of RX10 [(0, .ref (w.1 0)), (1, .int p1), (2, .int p2), (3, .int p3)] rfl (Nat.le_of_ble_eq_true rfl) (by decide) rfl rfl rfl (fun x C => ?_)
  unfold sp_X10_hits
  refine gz_aloadn C 0 rfl dX10_hits_0 ?_
  refine gz_get C 0 2 (.ref (w.1 6)) kn_X10 rfl kf_X10_26 (by decide) dX10_hits_1 (fv_R rfl rfl) ?_
  refine gz_iloadn C 1 rfl dX10_hits_4 ?_
  refine gz_callVI 6 [.int p1] [] C kn_X6 rfl rfl (ct_X6_has x.2.1 w p1 M) cal_X6_has km_X10_128 ⟨rfl, rfl⟩ ⟨by decide, by decide⟩ rfl rfl (Nat.le_of_ble_eq_true rfl) dX10_hits_5 (fun r5 M5 => ?_)
  refine gz_ifne C 15 dX10_hits_8 (by decide) ?_ ?_
  · refine gz_ldc2 C kl_X10_159 dX10_hits_11 ?_
    exact gz_lret C dX10_hits_14
  · refine gz_iloadn C 2 rfl dX10_hits_15 ?_
    refine gz_iconst (v := 0) C dX10_hits_16 (by decide) ?_
    refine gz_bipush (v := (9)) C dX10_hits_17 (by decide) ?_
    refine gz_callSI [.int p2, .int (0 : Int32), .int (9 : Int32)] [] C (ct_X10_isOutside x.2.1 w p2 (0 : Int32) (9 : Int32) M5) cal_X10_isOutside (Or.inl km_X10_79) ⟨rfl, rfl⟩ ⟨by decide, by decide⟩ rfl rfl (Nat.le_of_ble_eq_true rfl) dX10_hits_19 (fun r19 M19 => ?_)
    refine gz_ifne C 34 dX10_hits_22 (by decide) ?_ ?_
    · refine gz_iloadn C 3 rfl dX10_hits_25 ?_
      refine gz_iconst (v := 0) C dX10_hits_26 (by decide) ?_
      refine gz_iconst (v := 1) C dX10_hits_27 (by decide) ?_
      refine gz_callSI [.int p3, .int (0 : Int32), .int (1 : Int32)] [] C (ct_X10_isOutside x.2.1 w p3 (0 : Int32) (1 : Int32) M19) cal_X10_isOutside (Or.inl km_X10_79) ⟨rfl, rfl⟩ ⟨by decide, by decide⟩ rfl rfl (Nat.le_of_ble_eq_true rfl) dX10_hits_28 (fun r28 M28 => ?_)
      refine gz_ifeq C 38 dX10_hits_31 (by decide) ?_ ?_
      · refine gz_aloadn C 0 rfl dX10_hits_38 ?_
        refine gz_get C 0 2 (.ref (w.1 6)) kn_X10 rfl kf_X10_26 (by decide) dX10_hits_39 (fv_R rfl rfl) ?_
        refine gz_iloadn C 1 rfl dX10_hits_42 ?_
        refine gz_iloadn C 2 rfl dX10_hits_43 ?_
        refine gz_aloadn C 0 rfl dX10_hits_44 ?_
        refine gz_get C 0 1 (.ref (w.1 3)) kn_X10 rfl kf_X10_19 (by decide) dX10_hits_45 (fv_R rfl rfl) ?_
        refine gz_callVI 6 [.int p1, .int p2, .ref (w.1 3)] [] C kn_X6 rfl rfl (ct_X6_hitTenths x.2.1 w p1 p2 M28) cal_X6_hitTenths km_X10_163 ⟨rfl, rfl⟩ ⟨by decide, by decide⟩ rfl rfl (Nat.le_of_ble_eq_true rfl) dX10_hits_48 (fun r48 M48 => ?_)
        refine gz_i2l C dX10_hits_51 ?_
        refine gz_ldc2 C kl_X10_167 dX10_hits_52 ?_
        refine gz_iloadn C 3 rfl dX10_hits_55 ?_
        refine gz_callSJ [.long (r48.toInt64), .long (10 : Int64), .int p3] [] C (ct_X10_inLowestTerms x.2.1 w (r48.toInt64) (10 : Int64) p3 M48) cal_X10_inLowestTerms (Or.inl km_X10_169) ⟨rfl, rfl⟩ ⟨by decide, by decide⟩ rfl rfl (Nat.le_of_ble_eq_true rfl) dX10_hits_56 (fun r56 M56 => ?_)
        exact gz_lret C dX10_hits_59
      · refine gz_ldc2 C kl_X10_161 dX10_hits_34 ?_
        exact gz_lret C dX10_hits_37
    · refine gz_ldc2 C kl_X10_161 dX10_hits_34 ?_
      exact gz_lret C dX10_hits_37
set_option maxRecDepth 100000 in
set_option maxHeartbeats 4000000 in
theorem ct_X10_isAfloat (l : Launch) (w : Wd) (M : Mm) : CT l yX10_isAfloat cX10_isAfloat 1 (some .boolean) rm_X10_isAfloat w (qI w) [.ref (w.1 0)] (sp_X10_isAfloat M) M := by
  refine ct_of RX10 [(0, .ref (w.1 0))] rfl (Nat.le_of_ble_eq_true rfl) (by decide) rfl rfl rfl (fun x C => ?_)
  unfold sp_X10_isAfloat
  refine gz_aloadn C 0 rfl dX10_isAfloat_0 ?_
  refine gz_callVI 0 [] [] C kn_X10 rfl rfl (ct_X10_hasNight x.2.1 w M) cal_X10_hasNight km_X10_115 ⟨rfl, rfl⟩ ⟨by decide, by decide⟩ rfl rfl (Nat.le_of_ble_eq_true rfl) dX10_isAfloat_1 (fun r1 M1 => ?_)
  refine gz_ifeq C 21 dX10_isAfloat_4 (by decide) ?_ ?_
  · refine gz_iconst (v := 0) C dX10_isAfloat_21 (by decide) ?_
    exact gz_zret C (Or.inl rfl) dX10_isAfloat_22
  · refine gz_aloadn C 0 rfl dX10_isAfloat_7 ?_
    refine gz_get C 0 4 (.ref (w.1 13)) kn_X10 rfl kf_X10_40 (by decide) dX10_isAfloat_8 (fv_R rfl rfl) ?_
    refine gz_get C 13 2 (.int (gI M1 13 2)) kn_X1 rfl kf_X10_139 (by decide) dX10_isAfloat_11 (fv_I rfl) ?_
    refine gz_ifne C 21 dX10_isAfloat_14 (by decide) ?_ ?_
    · refine gz_iconst (v := 1) C dX10_isAfloat_17 (by decide) ?_
      refine gz_goto C 22 dX10_isAfloat_18 (by decide) ?_
      exact gz_zret C (Or.inr rfl) dX10_isAfloat_22
    · refine gz_iconst (v := 0) C dX10_isAfloat_21 (by decide) ?_
      exact gz_zret C (Or.inl rfl) dX10_isAfloat_22
set_option maxRecDepth 100000 in
set_option maxHeartbeats 4000000 in
theorem ct_X10_canAim (l : Launch) (w : Wd) (M : Mm) : CT l yX10_canAim cX10_canAim 1 (some .boolean) rm_X10_canAim w (qI w) [.ref (w.1 0)] (sp_X10_canAim M) M := by
  refine ct_of RX10 [(0, .ref (w.1 0))] rfl (Nat.le_of_ble_eq_true rfl) (by decide) rfl rfl rfl (fun x C => ?_)
  unfold sp_X10_canAim
  refine gz_aloadn C 0 rfl dX10_canAim_0 ?_
  refine gz_callVI 0 [] [] C kn_X10 rfl rfl (ct_X10_isAfloat x.2.1 w M) cal_X10_isAfloat km_X10_244 ⟨rfl, rfl⟩ ⟨by decide, by decide⟩ rfl rfl (Nat.le_of_ble_eq_true rfl) dX10_canAim_1 (fun r1 M1 => ?_)
  refine gz_ifeq C 21 dX10_canAim_4 (by decide) ?_ ?_
  · refine gz_iconst (v := 0) C dX10_canAim_21 (by decide) ?_
    exact gz_zret C (Or.inl rfl) dX10_canAim_22
  · refine gz_aloadn C 0 rfl dX10_canAim_7 ?_
    refine gz_get C 0 4 (.ref (w.1 13)) kn_X10 rfl kf_X10_40 (by decide) dX10_canAim_8 (fv_R rfl rfl) ?_
    refine gz_get C 13 1 (.int (gI M1 13 1)) kn_X1 rfl kf_X10_156 (by decide) dX10_canAim_11 (fv_I rfl) ?_
    refine gz_ifne C 21 dX10_canAim_14 (by decide) ?_ ?_
    · refine gz_iconst (v := 1) C dX10_canAim_17 (by decide) ?_
      refine gz_goto C 22 dX10_canAim_18 (by decide) ?_
      exact gz_zret C (Or.inr rfl) dX10_canAim_22
    · refine gz_iconst (v := 0) C dX10_canAim_21 (by decide) ?_
      exact gz_zret C (Or.inl rfl) dX10_canAim_22
set_option maxRecDepth 100000 in
set_option maxHeartbeats 4000000 in
theorem ct_J7_fill_d0a16 (l : Launch) (w : Wd) (c0 : Nat) (hc0 : kd c0 = 13) (p1 : Int64) (M : Mm) : CT l yJ7_fill_d0a16 cJ7_fill_d0a16 5 none rm_J7_fill_d0a16 w (qV w) [.ref (w.1 c0), .long p1] (sp_J7_fill_d0a16 c0 p1 M) M := by
  refine ct_of RJ7 [(0, .ref (w.1 c0)), (1, .long p1)] rfl (Nat.le_of_ble_eq_true rfl) (by decide) rfl rfl rfl (fun x C => ?_)
  unfold sp_J7_fill_d0a16
  refine gz_iconst (v := 0) C dJ7_fill_d0a16_0 (by decide) ?_
  refine gz_istoren C [(3, .int (0 : Int32)), (0, .ref (w.1 c0)), (1, .long p1)] dJ7_fill_d0a16_1 (by decide) rfl ?_
  refine gz_aloadn C 1 rfl dJ7_fill_d0a16_2 ?_
  refine gz_alenJ C hc0 rfl dJ7_fill_d0a16_3 ?_
  refine gz_blt (fun y4 => ?_)
  refine gz_istore C [(4, .int y4), (3, .int (0 : Int32)), (0, .ref (w.1 c0)), (1, .long p1)] dJ7_fill_d0a16_4 (by decide) rfl ?_
  have hL6 : ∀ (n6 : Nat) (v3_6 : Int32) (M_6 : Mm), G x w 5 (qV w) (sp_J7_fill_d0a16_L6 y4 c0 p1 n6 v3_6 M_6) M_6 [(0, .ref (w.1 c0)), (1, .long p1), (3, .int v3_6), (4, .int y4)] 6 [] := by
    intro n6
    induction n6 with
    | zero => intros; exact gz_none
    | succ n6 ih6 =>
      intro v3_6 M_6
      rw [sp_J7_fill_d0a16_L6]
      refine gz_iloadn C 2 rfl dJ7_fill_d0a16_6 ?_
      refine gz_iload C 3 rfl dJ7_fill_d0a16_7 ?_
      refine gz_icmpge C 22 dJ7_fill_d0a16_9 (by decide) ?_ ?_
      · refine gz_aloadn C 0 rfl dJ7_fill_d0a16_12 ?_
        refine gz_iloadn C 2 rfl dJ7_fill_d0a16_13 ?_
        refine gz_lloadn C 1 rfl dJ7_fill_d0a16_14 ?_
        refine gz_last C hc0 dJ7_fill_d0a16_15 (fun M15 => ?_)
        refine gz_iinc (v' := v3_6 + 1) C 2 [(3, .int (v3_6 + 1)), (0, .ref (w.1 c0)), (1, .long p1), (4, .int y4)] rfl dJ7_fill_d0a16_16 rfl (by decide) rfl ?_
        refine gz_goto C 6 dJ7_fill_d0a16_19 (by decide) ?_
        refine gz_sub [1, 2, 0, 3] rfl ?_
        exact ih6 _ _
      · exact gz_vret C dJ7_fill_d0a16_22
  refine gz_sub [2, 3, 1, 0] rfl ?_
  exact hL6 fu _ _
set_option maxRecDepth 100000 in
set_option maxHeartbeats 4000000 in
theorem ct_X6_left (l : Launch) (w : Wd) (p1 : Int32) (M : Mm) : CT l yX6_left cX6_left 2 (some .int) rm_X6_left w (qI w) [.ref (w.1 6), .int p1] (sp_X6_left p1 M) M := by
  refine ct_of RX6 [(0, .ref (w.1 6)), (1, .int p1)] rfl (Nat.le_of_ble_eq_true rfl) (by decide) rfl rfl rfl (fun x C => ?_)
  unfold sp_X6_left
  refine gz_iconst (v := 1) C dX6_left_0 (by decide) ?_
  refine gz_aloadn C 0 rfl dX6_left_1 ?_
  refine gz_get C 6 0 (.int (gI M 6 0)) kn_X6 rfl kf_X6_18 (by decide) dX6_left_2 (fv_I rfl) ?_
  refine gz_ishl C dX6_left_5 ?_
  refine gz_iconst (v := 1) C dX6_left_6 (by decide) ?_
  refine gz_isub C dX6_left_7 ?_
  refine gz_iloadn C 1 rfl dX6_left_8 ?_
  refine gz_iconst (v := (-1)) C dX6_left_9 (by decide) ?_
  refine gz_ixor C dX6_left_10 ?_
  refine gz_iand C dX6_left_11 ?_
  exact gz_iret C dX6_left_12
set_option maxRecDepth 100000 in
set_option maxHeartbeats 4000000 in
theorem ct_X7_breakTenths (l : Launch) (w : Wd) (p1 : Int32) (M : Mm) : CT l yX7_breakTenths cX7_breakTenths 2 (some .int) rm_X7_breakTenths w (qI w) [.ref (w.1 3), .int p1] (sp_X7_breakTenths p1 M) M := by
  refine ct_of RX7 [(0, .ref (w.1 3)), (1, .int p1)] rfl (Nat.le_of_ble_eq_true rfl) (by decide) rfl rfl rfl (fun x C => ?_)
  unfold sp_X7_breakTenths
  refine gz_aloadn C 0 rfl dX7_breakTenths_0 ?_
  refine gz_get C 3 4 (.ref (w.1 5)) kn_X7 rfl kf_X7_15 (by decide) dX7_breakTenths_1 (fv_R rfl rfl) ?_
  refine gz_iloadn C 1 rfl dX7_breakTenths_4 ?_
  refine gz_callSI [.ref (w.1 5), .int p1] [] C (ct_X10_at x.2.1 w 5 rfl p1 M) cal_X10_at (Or.inr ⟨_, List.mem_of_getElem? (i := 15) rfl⟩) ⟨rfl, rfl⟩ ⟨by decide, by decide⟩ rfl rfl (Nat.le_of_ble_eq_true rfl) dX7_breakTenths_5 (fun r5 M5 => ?_)
  exact gz_iret C dX7_breakTenths_8
set_option maxRecDepth 100000 in
set_option maxHeartbeats 4000000 in
theorem ct_X10_at_ (l : Launch) (w : Wd) (c0 : Nat) (hc0 : kd c0 = 13) (p1 : Int32) (M : Mm) : CT l yX10_at_ cX10_at_ 2 (some .long) rm_X10_at_ w (qJ w) [.ref (w.1 c0), .int p1] (sp_X10_at_ c0 p1 M) M := by
  refine ct_of RX10 [(0, .ref (w.1 c0)), (1, .int p1)] rfl (Nat.le_of_ble_eq_true rfl) (by decide) rfl rfl rfl (fun x C => ?_)
  unfold sp_X10_at_
  refine gz_iloadn C 1 rfl dX10_at__0 ?_
  refine gz_iflt C 16 dX10_at__1 (by decide) ?_ ?_
  · refine gz_lconst (v := 0) C dX10_at__16 (by decide) ?_
    exact gz_lret C dX10_at__17
  · refine gz_iloadn C 1 rfl dX10_at__4 ?_
    refine gz_aloadn C 0 rfl dX10_at__5 ?_
    refine gz_alenJ C hc0 rfl dX10_at__6 ?_
    refine gz_icmpge C 16 dX10_at__7 (by decide) ?_ ?_
    · refine gz_aloadn C 0 rfl dX10_at__10 ?_
      refine gz_iloadn C 1 rfl dX10_at__11 ?_
      refine gz_lald C hc0 dX10_at__12 (fun a12 => ?_)
      refine gz_goto C 17 dX10_at__13 (by decide) ?_
      exact gz_lret C dX10_at__17
    · refine gz_lconst (v := 0) C dX10_at__16 (by decide) ?_
      exact gz_lret C dX10_at__17
set_option maxRecDepth 100000 in
set_option maxHeartbeats 4000000 in
theorem ct_X0_chance (l : Launch) (w : Wd) (p1 : Int32) (p2 : Int32) (p3 : Int64) (M : Mm) : CT l yX0_chance cX0_chance 5 (some .long) rm_X0_chance w (qJ w) [.ref (w.1 22), .int p1, .int p2, .long p3] (sp_X0_chance p1 p2 p3 M) M := by
  refine ct_of RX0 [(0, .ref (w.1 22)), (1, .int p1), (2, .int p2), (3, .long p3)] rfl (Nat.le_of_ble_eq_true rfl) (by decide) rfl rfl rfl (fun x C => ?_)
  unfold sp_X0_chance
  refine gz_bipush (v := (10)) C dX0_chance_0 (by decide) ?_
  refine gz_iloadn C 1 rfl dX0_chance_2 ?_
  refine gz_imul C dX0_chance_3 ?_
  refine gz_i2l C dX0_chance_4 ?_
  refine gz_aloadn C 0 rfl dX0_chance_5 ?_
  refine gz_get C 22 1 (.long (gJ M 22 1)) kn_X0 rfl kf_X0_39 (by decide) dX0_chance_6 (fv_J rfl) ?_
  refine gz_lmul C dX0_chance_9 ?_
  refine gz_bipush (v := (10)) C dX0_chance_10 (by decide) ?_
  refine gz_iloadn C 1 rfl dX0_chance_12 ?_
  refine gz_isub C dX0_chance_13 ?_
  refine gz_iloadn C 2 rfl dX0_chance_14 ?_
  refine gz_imul C dX0_chance_15 ?_
  refine gz_i2l C dX0_chance_16 ?_
  refine gz_lloadn C 3 rfl dX0_chance_17 ?_
  refine gz_lmul C dX0_chance_18 ?_
  refine gz_ladd C dX0_chance_19 ?_
  exact gz_lret C dX0_chance_20
set_option maxRecDepth 100000 in
set_option maxHeartbeats 4000000 in
theorem ct_X10_without (l : Launch) (w : Wd) (p0 : Int32) (p1 : Int32) (M : Mm) : CT l yX10_without cX10_without 2 (some .int) rm_X10_without w (qI w) [.int p0, .int p1] (sp_X10_without p0 p1 M) M := by
  refine ct_of RX10 [(0, .int p0), (1, .int p1)] rfl (Nat.le_of_ble_eq_true rfl) (by decide) rfl rfl rfl (fun x C => ?_)
  unfold sp_X10_without
  refine gz_iloadn C 0 rfl dX10_without_0 ?_
  refine gz_iconst (v := 1) C dX10_without_1 (by decide) ?_
  refine gz_iloadn C 1 rfl dX10_without_2 ?_
  refine gz_ishl C dX10_without_3 ?_
  refine gz_iconst (v := (-1)) C dX10_without_4 (by decide) ?_
  refine gz_ixor C dX10_without_5 ?_
  refine gz_iand C dX10_without_6 ?_
  exact gz_iret C dX10_without_7
set_option maxRecDepth 100000 in
set_option maxHeartbeats 4000000 in
theorem ct_X0_findBest (l : Launch) (w : Wd) (p3 : Int32) (p4 : Int32) (M : Mm) : CT l yX0_findBest cX0_findBest 10 none rm_X0_findBest w (qV w) [.ref (w.1 22), .ref (w.1 3), .ref (w.1 6), .int p3, .int p4] (sp_X0_findBest p3 p4 M) M := by
  refine ct_of RX0 [(0, .ref (w.1 22)), (1, .ref (w.1 3)), (2, .ref (w.1 6)), (3, .int p3), (4, .int p4)] rfl (Nat.le_of_ble_eq_true rfl) (by decide) rfl rfl rfl (fun x C => ?_)
  unfold sp_X0_findBest
  refine gz_bipush (v := (10)) C dX0_findBest_0 (by decide) ?_
  refine gz_aloadn C 1 rfl dX0_findBest_2 ?_
  refine gz_iload C 4 rfl dX0_findBest_3 ?_
  refine gz_callVI 3 [.int p4] [.int (10 : Int32)] C kn_X7 rfl rfl (ct_X7_breakTenths x.2.1 w p4 M) cal_X7_breakTenths km_X0_68 ⟨rfl, rfl⟩ ⟨by decide, by decide⟩ rfl rfl (Nat.le_of_ble_eq_true rfl) dX0_findBest_5 (fun r5 M5 => ?_)
  refine gz_isub C dX0_findBest_8 ?_
  refine gz_blt (fun y9 => ?_)
  refine gz_istore C [(5, .int y9), (0, .ref (w.1 22)), (1, .ref (w.1 3)), (2, .ref (w.1 6)), (3, .int p3), (4, .int p4)] dX0_findBest_9 (by decide) rfl ?_
  refine gz_aloadn C 1 rfl dX0_findBest_11 ?_
  refine gz_aloadn C 1 rfl dX0_findBest_12 ?_
  refine gz_iconst (v := 0) C dX0_findBest_13 (by decide) ?_
  refine gz_iload C 0 rfl dX0_findBest_14 ?_
  refine gz_aloadn C 1 rfl dX0_findBest_16 ?_
  refine gz_get C 22 3 (.ref (w.1 23)) kn_X0 rfl kf_X0_9 (by decide) dX0_findBest_17 (fv_R rfl rfl) ?_
  refine gz_iloadn C 4 rfl dX0_findBest_20 ?_
  refine gz_callSJ [.ref (w.1 23), .int p3] [.int y9, .int (0 : Int32), .ref (w.1 22), .ref (w.1 22)] C (ct_X10_at_ x.2.1 w 23 rfl p3 M5) cal_X10_at_ (Or.inr ⟨_, List.mem_of_getElem? (i := 18) rfl⟩) ⟨rfl, rfl⟩ ⟨by decide, by decide⟩ rfl rfl (Nat.le_of_ble_eq_true rfl) dX0_findBest_21 (fun r21 M21 => ?_)
  refine gz_callVJ 22 [.int (0 : Int32), .int y9, .long r21] [.ref (w.1 22)] C kn_X0 rfl rfl (ct_X0_chance x.2.1 w (0 : Int32) y9 r21 M21) cal_X0_chance km_X0_75 ⟨rfl, rfl⟩ ⟨by decide, by decide⟩ rfl rfl (Nat.le_of_ble_eq_true rfl) dX0_findBest_24 (fun r24 M24 => ?_)
  refine gz_putJ C 22 0 kn_X0 rfl kf_X0_52 (by decide) rfl rfl (tyX0_ok 0 (by decide)) rfl rfl dX0_findBest_27 (fun M27 => ?_)
  refine gz_aloadn C 1 rfl dX0_findBest_30 ?_
  refine gz_iconst (v := (-1)) C dX0_findBest_31 (by decide) ?_
  refine gz_putI C 22 2 kn_X0 rfl kf_X0_79 (by decide) rfl rfl (tyX0_ok 2 (by decide)) rfl rfl dX0_findBest_32 (fun M32 => ?_)
  refine gz_iconst (v := 0) C dX0_findBest_35 (by decide) ?_
  refine gz_istore C [(6, .int (0 : Int32)), (5, .int y9), (0, .ref (w.1 22)), (1, .ref (w.1 3)), (2, .ref (w.1 6)), (3, .int p3), (4, .int p4)] dX0_findBest_36 (by decide) rfl ?_
  have hL38 : ∀ (n38 : Nat) (v6_38 : Int32) (M_38 : Mm), G x w 10 (qV w) (sp_X0_findBest_L38 p3 p4 y9 n38 v6_38 M_38) M_38 [(0, .ref (w.1 22)), (1, .ref (w.1 3)), (2, .ref (w.1 6)), (3, .int p3), (4, .int p4), (5, .int y9), (6, .int v6_38)] 38 [] := by
    intro n38
    induction n38 with
    | zero => intros; exact gz_none
    | succ n38 ih38 =>
      intro v6_38 M_38
      rw [sp_X0_findBest_L38]
      refine gz_iload C 6 rfl dX0_findBest_38 ?_
      refine gz_aloadn C 2 rfl dX0_findBest_40 ?_
      refine gz_get C 6 0 (.int (gI M_38 6 0)) kn_X6 rfl kf_X0_43 (by decide) dX0_findBest_41 (fv_I rfl) ?_
      refine gz_icmpge C 118 dX0_findBest_44 (by decide) ?_ ?_
      · refine gz_iloadn C 3 rfl dX0_findBest_47 ?_
        refine gz_iload C 6 rfl dX0_findBest_48 ?_
        refine gz_callSI [.int p3, .int v6_38] [] C (ct_X10_isIn x.2.1 w p3 v6_38 M_38) cal_X10_isIn (Or.inr ⟨_, List.mem_of_getElem? (i := 19) rfl⟩) ⟨rfl, rfl⟩ ⟨by decide, by decide⟩ rfl rfl (Nat.le_of_ble_eq_true rfl) dX0_findBest_50 (fun r50 M50 => ?_)
        refine gz_ifeq C 112 dX0_findBest_53 (by decide) ?_ ?_
        · refine gz_iinc (v' := v6_38 + 1) C 6 [(6, .int (v6_38 + 1)), (0, .ref (w.1 22)), (1, .ref (w.1 3)), (2, .ref (w.1 6)), (3, .int p3), (4, .int p4), (5, .int y9)] rfl dX0_findBest_112 rfl (by decide) rfl ?_
          refine gz_goto C 38 dX0_findBest_115 (by decide) ?_
          refine gz_sub [1, 2, 3, 4, 5, 6, 0] rfl ?_
          exact ih38 _ _
        · refine gz_aloadn C 2 rfl dX0_findBest_56 ?_
          refine gz_iload C 6 rfl dX0_findBest_57 ?_
          refine gz_iload C 4 rfl dX0_findBest_59 ?_
          refine gz_aloadn C 1 rfl dX0_findBest_61 ?_
          refine gz_callVI 6 [.int v6_38, .int p4, .ref (w.1 3)] [] C kn_X6 rfl rfl (ct_X6_hitTenths x.2.1 w v6_38 p4 M50) cal_X6_hitTenths km_X0_86 ⟨rfl, rfl⟩ ⟨by decide, by decide⟩ rfl rfl (Nat.le_of_ble_eq_true rfl) dX0_findBest_62 (fun r62 M62 => ?_)
          refine gz_istore C [(7, .int r62), (0, .ref (w.1 22)), (1, .ref (w.1 3)), (2, .ref (w.1 6)), (3, .int p3), (4, .int p4), (5, .int y9), (6, .int v6_38)] dX0_findBest_65 (by decide) rfl ?_
          refine gz_aloadn C 1 rfl dX0_findBest_67 ?_
          refine gz_iload C 0 rfl dX0_findBest_68 ?_
          refine gz_iload C 6 rfl dX0_findBest_70 ?_
          refine gz_aloadn C 1 rfl dX0_findBest_72 ?_
          refine gz_get C 22 3 (.ref (w.1 23)) kn_X0 rfl kf_X0_9 (by decide) dX0_findBest_73 (fv_R rfl rfl) ?_
          refine gz_iloadn C 4 rfl dX0_findBest_76 ?_
          refine gz_iload C 7 rfl dX0_findBest_77 ?_
          refine gz_callSI [.int p3, .int v6_38] [.ref (w.1 23), .int y9, .int r62, .ref (w.1 22)] C (ct_X10_without x.2.1 w p3 v6_38 M62) cal_X10_without (Or.inr ⟨_, List.mem_of_getElem? (i := 20) rfl⟩) ⟨rfl, rfl⟩ ⟨by decide, by decide⟩ rfl rfl (Nat.le_of_ble_eq_true rfl) dX0_findBest_79 (fun r79 M79 => ?_)
          refine gz_callSJ [.ref (w.1 23), .int r79] [.int y9, .int r62, .ref (w.1 22)] C (ct_X10_at_ x.2.1 w 23 rfl r79 M79) cal_X10_at_ (Or.inr ⟨_, List.mem_of_getElem? (i := 18) rfl⟩) ⟨rfl, rfl⟩ ⟨by decide, by decide⟩ rfl rfl (Nat.le_of_ble_eq_true rfl) dX0_findBest_82 (fun r82 M82 => ?_)
          refine gz_callVJ 22 [.int r62, .int y9, .long r82] [] C kn_X0 rfl rfl (ct_X0_chance x.2.1 w r62 y9 r82 M82) cal_X0_chance km_X0_75 ⟨rfl, rfl⟩ ⟨by decide, by decide⟩ rfl rfl (Nat.le_of_ble_eq_true rfl) dX0_findBest_85 (fun r85 M85 => ?_)
          refine gz_lstore C [(8, .long r85), (7, .int r62), (0, .ref (w.1 22)), (1, .ref (w.1 3)), (2, .ref (w.1 6)), (3, .int p3), (4, .int p4), (5, .int y9), (6, .int v6_38)] dX0_findBest_88 (by decide) rfl ?_
          refine gz_lload C 0 rfl dX0_findBest_90 ?_
          refine gz_aloadn C 2 rfl dX0_findBest_92 ?_
          refine gz_get C 22 0 (.long (gJ M85 22 0)) kn_X0 rfl kf_X0_52 (by decide) dX0_findBest_93 (fv_J rfl) ?_
          refine gz_lcmp C dX0_findBest_96 ?_
          refine gz_cnd (lc_gt r85 (gJ M85 22 0)) ?_
          refine gz_ifle C 112 dX0_findBest_97 (by decide) ?_ ?_
          · refine gz_aloadn C 2 rfl dX0_findBest_100 ?_
            refine gz_lload C 0 rfl dX0_findBest_101 ?_
            refine gz_putJ C 22 0 kn_X0 rfl kf_X0_52 (by decide) rfl rfl (tyX0_ok 0 (by decide)) rfl rfl dX0_findBest_103 (fun M103 => ?_)
            refine gz_aloadn C 2 rfl dX0_findBest_106 ?_
            refine gz_iload C 8 rfl dX0_findBest_107 ?_
            refine gz_putI C 22 2 kn_X0 rfl kf_X0_79 (by decide) rfl rfl (tyX0_ok 2 (by decide)) rfl rfl dX0_findBest_109 (fun M109 => ?_)
            refine gz_iinc (v' := v6_38 + 1) C 8 [(6, .int (v6_38 + 1)), (8, .long r85), (7, .int r62), (0, .ref (w.1 22)), (1, .ref (w.1 3)), (2, .ref (w.1 6)), (3, .int p3), (4, .int p4), (5, .int y9)] rfl dX0_findBest_112 rfl (by decide) rfl ?_
            refine gz_goto C 38 dX0_findBest_115 (by decide) ?_
            refine gz_sub [3, 4, 5, 6, 7, 8, 0] rfl ?_
            exact ih38 _ _
          · refine gz_iinc (v' := v6_38 + 1) C 8 [(6, .int (v6_38 + 1)), (8, .long r85), (7, .int r62), (0, .ref (w.1 22)), (1, .ref (w.1 3)), (2, .ref (w.1 6)), (3, .int p3), (4, .int p4), (5, .int y9)] rfl dX0_findBest_112 rfl (by decide) rfl ?_
            refine gz_goto C 38 dX0_findBest_115 (by decide) ?_
            refine gz_sub [3, 4, 5, 6, 7, 8, 0] rfl ?_
            exact ih38 _ _
      · exact gz_vret C dX0_findBest_118
  refine gz_sub [2, 3, 4, 5, 6, 1, 0] rfl ?_
  exact hL38 fu _ _
set_option maxRecDepth 100000 in
set_option maxHeartbeats 4000000 in
theorem ct_X10_put_ (l : Launch) (w : Wd) (c0 : Nat) (hc0 : kd c0 = 13) (p1 : Int32) (p2 : Int64) (M : Mm) : CT l yX10_put_ cX10_put_ 4 none rm_X10_put_ w (qV w) [.ref (w.1 c0), .int p1, .long p2] (sp_X10_put_ c0 p1 p2 M) M := by
  refine ct_of RX10 [(0, .ref (w.1 c0)), (1, .int p1), (2, .long p2)] rfl (Nat.le_of_ble_eq_true rfl) (by decide) rfl rfl rfl (fun x C => ?_)
  unfold sp_X10_put_
  refine gz_iloadn C 1 rfl dX10_put__0 ?_
  refine gz_iflt C 14 dX10_put__1 (by decide) ?_ ?_
  · exact gz_vret C dX10_put__14
  · refine gz_iloadn C 1 rfl dX10_put__4 ?_
    refine gz_aloadn C 0 rfl dX10_put__5 ?_
    refine gz_alenJ C hc0 rfl dX10_put__6 ?_
    refine gz_icmpge C 14 dX10_put__7 (by decide) ?_ ?_
    · refine gz_aloadn C 0 rfl dX10_put__10 ?_
      refine gz_iloadn C 1 rfl dX10_put__11 ?_
      refine gz_lloadn C 2 rfl dX10_put__12 ?_
      refine gz_last C hc0 dX10_put__13 (fun M13 => ?_)
      exact gz_vret C dX10_put__14
    · exact gz_vret C dX10_put__14
set_option maxRecDepth 100000 in
set_option maxHeartbeats 4000000 in
theorem ct_X0_search (l : Launch) (w : Wd) (p4 : Int32) (M : Mm) : CT l yX0_search cX0_search 9 none rm_X0_search w (qV w) [.ref (w.1 22), .ref (w.1 3), .ref (w.1 6), .ref (w.1 13), .int p4] (sp_X0_search p4 M) M := by
  refine ct_of RX0 [(0, .ref (w.1 22)), (1, .ref (w.1 3)), (2, .ref (w.1 6)), (3, .ref (w.1 13)), (4, .int p4)] rfl (Nat.le_of_ble_eq_true rfl) (by decide) rfl rfl rfl (fun x C => ?_)
  unfold sp_X0_search
  refine gz_aloadn C 3 rfl dX0_search_0 ?_
  refine gz_callVI 13 [] [] C kn_X1 rfl rfl (ct_X1_stage x.2.1 w M) cal_X1_stage km_X0_15 ⟨rfl, rfl⟩ ⟨by decide, by decide⟩ rfl rfl (Nat.le_of_ble_eq_true rfl) dX0_search_1 (fun r1 M1 => ?_)
  refine gz_istore C [(5, .int r1), (0, .ref (w.1 22)), (1, .ref (w.1 3)), (2, .ref (w.1 6)), (3, .ref (w.1 13)), (4, .int p4)] dX0_search_4 (by decide) rfl ?_
  refine gz_iload C 0 rfl dX0_search_6 ?_
  refine gz_iload C 5 rfl dX0_search_8 ?_
  refine gz_iadd C dX0_search_10 ?_
  refine gz_aloadn C 2 rfl dX0_search_11 ?_
  refine gz_get C 3 1 (.int (gI M1 3 1)) kn_X7 rfl kf_X0_21 (by decide) dX0_search_12 (fv_I rfl) ?_
  refine gz_min C km_min_X0_27 st_min in_min co_min (by decide) (Nat.le_of_ble_eq_true rfl) dX0_search_15 ?_
  refine gz_blt (fun y18 => ?_)
  refine gz_istore C [(6, .int y18), (5, .int r1), (0, .ref (w.1 22)), (1, .ref (w.1 3)), (2, .ref (w.1 6)), (3, .ref (w.1 13)), (4, .int p4)] dX0_search_18 (by decide) rfl ?_
  refine gz_aloadn C 2 rfl dX0_search_20 ?_
  refine gz_get C 22 3 (.ref (w.1 23)) kn_X0 rfl kf_X0_9 (by decide) dX0_search_21 (fv_R rfl rfl) ?_
  refine gz_lconst (v := 0) C dX0_search_24 (by decide) ?_
  refine gz_callSV [.ref (w.1 23), .long (0 : Int64)] [] C (ct_J7_fill_d0a16 x.2.1 w 23 rfl (0 : Int64) M1) cal_J7_fill_d0a16 (Or.inl km_X0_33) ⟨rfl, rfl⟩ ⟨by decide, by decide⟩ rfl rfl (Nat.le_of_ble_eq_true rfl) dX0_search_25 (fun _ M25 => ?_)
  refine gz_aloadn C 2 rfl dX0_search_28 ?_
  refine gz_lconst (v := 1) C dX0_search_29 (by decide) ?_
  refine gz_putJ C 22 1 kn_X0 rfl kf_X0_39 (by decide) rfl rfl (tyX0_ok 1 (by decide)) rfl rfl dX0_search_30 (fun M30 => ?_)
  refine gz_iload C 0 rfl dX0_search_33 ?_
  refine gz_iconst (v := 1) C dX0_search_35 (by decide) ?_
  refine gz_isub C dX0_search_36 ?_
  refine gz_blt (fun y37 => ?_)
  refine gz_istore C [(7, .int y37), (6, .int y18), (5, .int r1), (0, .ref (w.1 22)), (1, .ref (w.1 3)), (2, .ref (w.1 6)), (3, .ref (w.1 13)), (4, .int p4)] dX0_search_37 (by decide) rfl ?_
  refine gz_jn (fun K108 => ∀ (M_108 : Mm), G x w 9 (qV w) (K108 M_108) M_108 [(0, .ref (w.1 22)), (1, .ref (w.1 3)), (2, .ref (w.1 6)), (3, .ref (w.1 13)), (5, .int r1)] 108 []) ?_ ?_
  · intro M_108
    refine gz_aloadn C 0 rfl dX0_search_108 ?_
    refine gz_aloadn C 1 rfl dX0_search_109 ?_
    refine gz_aloadn C 2 rfl dX0_search_110 ?_
    refine gz_aloadn C 2 rfl dX0_search_111 ?_
    refine gz_aloadn C 3 rfl dX0_search_112 ?_
    refine gz_get C 13 3 (.int (gI M_108 13 3)) kn_X1 rfl kf_X0_61 (by decide) dX0_search_113 (fv_I rfl) ?_
    refine gz_callVI 6 [.int (gI M_108 13 3)] [.ref (w.1 6), .ref (w.1 3), .ref (w.1 22)] C kn_X6 rfl rfl (ct_X6_left x.2.1 w (gI M_108 13 3) M_108) cal_X6_left km_X0_64 ⟨rfl, rfl⟩ ⟨by decide, by decide⟩ rfl rfl (Nat.le_of_ble_eq_true rfl) dX0_search_116 (fun r116 M116 => ?_)
    refine gz_iload C 4 rfl dX0_search_119 ?_
    refine gz_callVV 22 [.ref (w.1 3), .ref (w.1 6), .int r116, .int r1] [] C kn_X0 rfl rfl (ct_X0_findBest x.2.1 w r116 r1 M116) cal_X0_findBest km_X0_48 ⟨rfl, rfl⟩ ⟨by decide, by decide⟩ rfl rfl (Nat.le_of_ble_eq_true rfl) dX0_search_121 (fun _ M121 => ?_)
    refine gz_aloadn C 0 rfl dX0_search_124 ?_
    refine gz_dup C dX0_search_125 rfl ?_
    refine gz_get C 22 1 (.long (gJ M121 22 1)) kn_X0 rfl kf_X0_39 (by decide) dX0_search_126 (fv_J rfl) ?_
    refine gz_ldc2 C kl_X0_59 dX0_search_129 ?_
    refine gz_lmul C dX0_search_132 ?_
    refine gz_putJ C 22 1 kn_X0 rfl kf_X0_39 (by decide) rfl rfl (tyX0_ok 1 (by decide)) rfl rfl dX0_search_133 (fun M133 => ?_)
    exact gz_vret C dX0_search_136
  · intro K108 hK108
    have hL39 : ∀ (n39 : Nat) (v7_39 : Int32) (M_39 : Mm), G x w 9 (qV w) (sp_X0_search_L39 r1 K108 n39 v7_39 M_39) M_39 [(0, .ref (w.1 22)), (1, .ref (w.1 3)), (2, .ref (w.1 6)), (3, .ref (w.1 13)), (5, .int r1), (7, .int v7_39)] 39 [] := by
      intro n39
      induction n39 with
      | zero => intros; exact gz_none
      | succ n39 ih39 =>
        intro v7_39 M_39
        rw [sp_X0_search_L39]
        refine gz_iload C 5 rfl dX0_search_39 ?_
        refine gz_iload C 4 rfl dX0_search_41 ?_
        refine gz_icmple C 108 dX0_search_43 (by decide) ?_ ?_
        · refine gz_iconst (v := 1) C dX0_search_46 (by decide) ?_
          refine gz_aloadn C 2 rfl dX0_search_47 ?_
          refine gz_get C 6 0 (.int (gI M_39 6 0)) kn_X6 rfl kf_X0_43 (by decide) dX0_search_48 (fv_I rfl) ?_
          refine gz_ishl C dX0_search_51 ?_
          refine gz_iconst (v := 1) C dX0_search_52 (by decide) ?_
          refine gz_isub C dX0_search_53 ?_
          refine gz_blt (fun y54 => ?_)
          refine gz_istore C [(8, .int y54), (0, .ref (w.1 22)), (1, .ref (w.1 3)), (2, .ref (w.1 6)), (3, .ref (w.1 13)), (5, .int r1), (7, .int v7_39)] dX0_search_54 (by decide) rfl ?_
          refine gz_jn (fun K90 => ∀ (M_90 : Mm), G x w 9 (qV w) (K90 M_90) M_90 [(0, .ref (w.1 22)), (1, .ref (w.1 3)), (2, .ref (w.1 6)), (3, .ref (w.1 13)), (5, .int r1), (7, .int v7_39)] 90 []) ?_ ?_
          · intro M_90
            refine gz_aloadn C 0 rfl dX0_search_90 ?_
            refine gz_dup C dX0_search_91 rfl ?_
            refine gz_get C 22 1 (.long (gJ M_90 22 1)) kn_X0 rfl kf_X0_39 (by decide) dX0_search_92 (fv_J rfl) ?_
            refine gz_ldc2 C kl_X0_59 dX0_search_95 ?_
            refine gz_lmul C dX0_search_98 ?_
            refine gz_putJ C 22 1 kn_X0 rfl kf_X0_39 (by decide) rfl rfl (tyX0_ok 1 (by decide)) rfl rfl dX0_search_99 (fun M99 => ?_)
            refine gz_iinc (v' := v7_39 + (-1)) C 5 [(7, .int (v7_39 + (-1))), (0, .ref (w.1 22)), (1, .ref (w.1 3)), (2, .ref (w.1 6)), (3, .ref (w.1 13)), (5, .int r1)] rfl dX0_search_102 rfl (by decide) rfl ?_
            refine gz_goto C 39 dX0_search_105 (by decide) ?_
            refine gz_sub [1, 2, 3, 4, 5, 0] rfl ?_
            exact ih39 _ _
          · intro K90 hK90
            have hL56 : ∀ (n56 : Nat) (v8_56 : Int32) (M_56 : Mm), G x w 9 (qV w) (sp_X0_search_L56 K90 v7_39 n56 v8_56 M_56) M_56 [(0, .ref (w.1 22)), (1, .ref (w.1 3)), (2, .ref (w.1 6)), (3, .ref (w.1 13)), (5, .int r1), (7, .int v7_39), (8, .int v8_56)] 56 [] := by
              intro n56
              induction n56 with
              | zero => intros; exact gz_none
              | succ n56 ih56 =>
                intro v8_56 M_56
                rw [sp_X0_search_L56]
                refine gz_iload C 6 rfl dX0_search_56 ?_
                refine gz_iflt C 90 dX0_search_58 (by decide) ?_ ?_
                · refine gz_sub [0, 1, 2, 3, 4, 5] rfl ?_
                  exact hK90 _
                · refine gz_aloadn C 0 rfl dX0_search_61 ?_
                  refine gz_aloadn C 1 rfl dX0_search_62 ?_
                  refine gz_aloadn C 2 rfl dX0_search_63 ?_
                  refine gz_iload C 6 rfl dX0_search_64 ?_
                  refine gz_iload C 5 rfl dX0_search_66 ?_
                  refine gz_callVV 22 [.ref (w.1 3), .ref (w.1 6), .int v8_56, .int v7_39] [] C kn_X0 rfl rfl (ct_X0_findBest x.2.1 w v8_56 v7_39 M_56) cal_X0_findBest km_X0_48 ⟨rfl, rfl⟩ ⟨by decide, by decide⟩ rfl rfl (Nat.le_of_ble_eq_true rfl) dX0_search_68 (fun _ M68 => ?_)
                  refine gz_aloadn C 0 rfl dX0_search_71 ?_
                  refine gz_get C 22 3 (.ref (w.1 23)) kn_X0 rfl kf_X0_9 (by decide) dX0_search_72 (fv_R rfl rfl) ?_
                  refine gz_iload C 6 rfl dX0_search_75 ?_
                  refine gz_aloadn C 0 rfl dX0_search_77 ?_
                  refine gz_get C 22 0 (.long (gJ M68 22 0)) kn_X0 rfl kf_X0_52 (by decide) dX0_search_78 (fv_J rfl) ?_
                  refine gz_callSV [.ref (w.1 23), .int v8_56, .long (gJ M68 22 0)] [] C (ct_X10_put_ x.2.1 w 23 rfl v8_56 (gJ M68 22 0) M68) cal_X10_put_ (Or.inr ⟨_, List.mem_of_getElem? (i := 21) rfl⟩) ⟨rfl, rfl⟩ ⟨by decide, by decide⟩ rfl rfl (Nat.le_of_ble_eq_true rfl) dX0_search_81 (fun _ M81 => ?_)
                  refine gz_iinc (v' := v8_56 + (-1)) C 6 [(8, .int (v8_56 + (-1))), (0, .ref (w.1 22)), (1, .ref (w.1 3)), (2, .ref (w.1 6)), (3, .ref (w.1 13)), (5, .int r1), (7, .int v7_39)] rfl dX0_search_84 rfl (by decide) rfl ?_
                  refine gz_goto C 56 dX0_search_87 (by decide) ?_
                  refine gz_sub [1, 2, 3, 4, 5, 6, 0] rfl ?_
                  exact ih56 _ _
            refine gz_sub [1, 2, 3, 4, 5, 6, 0] rfl ?_
            exact hL56 fu _ _
        · refine gz_sub [0, 1, 2, 3, 4] rfl ?_
          exact hK108 _
    refine gz_sub [3, 4, 5, 6, 2, 0] rfl ?_
    exact hL39 fu _ _
set_option maxRecDepth 100000 in
set_option maxHeartbeats 4000000 in
theorem ct_X10_aim (l : Launch) (w : Wd) (p1 : Int32) (p2 : Int32) (M : Mm) : CT l yX10_aim cX10_aim 3 (some .long) rm_X10_aim w (qJ w) [.ref (w.1 0), .int p1, .int p2] (sp_X10_aim p1 p2 M) M := by
  refine ct_of RX10 [(0, .ref (w.1 0)), (1, .int p1), (2, .int p2)] rfl (Nat.le_of_ble_eq_true rfl) (by decide) rfl rfl rfl (fun x C => ?_)
  unfold sp_X10_aim
  refine gz_iloadn C 1 rfl dX10_aim_0 ?_
  refine gz_iconst (v := 1) C dX10_aim_1 (by decide) ?_
  refine gz_iconst (v := 4) C dX10_aim_2 (by decide) ?_
  refine gz_callSI [.int p1, .int (1 : Int32), .int (4 : Int32)] [] C (ct_X10_isOutside x.2.1 w p1 (1 : Int32) (4 : Int32) M) cal_X10_isOutside (Or.inl km_X10_79) ⟨rfl, rfl⟩ ⟨by decide, by decide⟩ rfl rfl (Nat.le_of_ble_eq_true rfl) dX10_aim_3 (fun r3 M3 => ?_)
  refine gz_ifne C 18 dX10_aim_6 (by decide) ?_ ?_
  · refine gz_iloadn C 2 rfl dX10_aim_9 ?_
    refine gz_iconst (v := 0) C dX10_aim_10 (by decide) ?_
    refine gz_iconst (v := 1) C dX10_aim_11 (by decide) ?_
    refine gz_callSI [.int p2, .int (0 : Int32), .int (1 : Int32)] [] C (ct_X10_isOutside x.2.1 w p2 (0 : Int32) (1 : Int32) M3) cal_X10_isOutside (Or.inl km_X10_79) ⟨rfl, rfl⟩ ⟨by decide, by decide⟩ rfl rfl (Nat.le_of_ble_eq_true rfl) dX10_aim_12 (fun r12 M12 => ?_)
    refine gz_ifeq C 22 dX10_aim_15 (by decide) ?_ ?_
    · refine gz_aloadn C 0 rfl dX10_aim_22 ?_
      refine gz_callVI 0 [] [] C kn_X10 rfl rfl (ct_X10_canAim x.2.1 w M12) cal_X10_canAim km_X10_173 ⟨rfl, rfl⟩ ⟨by decide, by decide⟩ rfl rfl (Nat.le_of_ble_eq_true rfl) dX10_aim_23 (fun r23 M23 => ?_)
      refine gz_ifne C 33 dX10_aim_26 (by decide) ?_ ?_
      · refine gz_ldc2 C kl_X10_176 dX10_aim_29 ?_
        exact gz_lret C dX10_aim_32
      · refine gz_aloadn C 0 rfl dX10_aim_33 ?_
        refine gz_get C 0 6 (.ref (w.1 22)) kn_X10 rfl kf_X10_54 (by decide) dX10_aim_34 (fv_R rfl rfl) ?_
        refine gz_aloadn C 0 rfl dX10_aim_37 ?_
        refine gz_get C 0 1 (.ref (w.1 3)) kn_X10 rfl kf_X10_19 (by decide) dX10_aim_38 (fv_R rfl rfl) ?_
        refine gz_aloadn C 0 rfl dX10_aim_41 ?_
        refine gz_get C 0 2 (.ref (w.1 6)) kn_X10 rfl kf_X10_26 (by decide) dX10_aim_42 (fv_R rfl rfl) ?_
        refine gz_aloadn C 0 rfl dX10_aim_45 ?_
        refine gz_get C 0 4 (.ref (w.1 13)) kn_X10 rfl kf_X10_40 (by decide) dX10_aim_46 (fv_R rfl rfl) ?_
        refine gz_iloadn C 1 rfl dX10_aim_49 ?_
        refine gz_callVV 22 [.ref (w.1 3), .ref (w.1 6), .ref (w.1 13), .int p1] [] C kn_X0 rfl rfl (ct_X0_search x.2.1 w p1 M23) cal_X0_search km_X10_178 ⟨rfl, rfl⟩ ⟨by decide, by decide⟩ rfl rfl (Nat.le_of_ble_eq_true rfl) dX10_aim_50 (fun _ M50 => ?_)
        refine gz_aloadn C 0 rfl dX10_aim_53 ?_
        refine gz_get C 0 6 (.ref (w.1 22)) kn_X10 rfl kf_X10_54 (by decide) dX10_aim_54 (fv_R rfl rfl) ?_
        refine gz_get C 22 0 (.long (gJ M50 22 0)) kn_X0 rfl kf_X10_182 (by decide) dX10_aim_57 (fv_J rfl) ?_
        refine gz_aloadn C 0 rfl dX10_aim_60 ?_
        refine gz_get C 0 6 (.ref (w.1 22)) kn_X10 rfl kf_X10_54 (by decide) dX10_aim_61 (fv_R rfl rfl) ?_
        refine gz_get C 22 1 (.long (gJ M50 22 1)) kn_X0 rfl kf_X10_186 (by decide) dX10_aim_64 (fv_J rfl) ?_
        refine gz_iloadn C 2 rfl dX10_aim_67 ?_
        refine gz_callSJ [.long (gJ M50 22 0), .long (gJ M50 22 1), .int p2] [] C (ct_X10_inLowestTerms x.2.1 w (gJ M50 22 0) (gJ M50 22 1) p2 M50) cal_X10_inLowestTerms (Or.inl km_X10_169) ⟨rfl, rfl⟩ ⟨by decide, by decide⟩ rfl rfl (Nat.le_of_ble_eq_true rfl) dX10_aim_68 (fun r68 M68 => ?_)
        exact gz_lret C dX10_aim_71
    · refine gz_ldc2 C kl_X10_161 dX10_aim_18 ?_
      exact gz_lret C dX10_aim_21
  · refine gz_ldc2 C kl_X10_161 dX10_aim_18 ?_
    exact gz_lret C dX10_aim_21
set_option maxRecDepth 100000 in
set_option maxHeartbeats 4000000 in
theorem ct_X10_which (l : Launch) (w : Wd) (p1 : Int32) (M : Mm) : CT l yX10_which cX10_which 2 (some .int) rm_X10_which w (qI w) [.ref (w.1 0), .int p1] (sp_X10_which p1 M) M := by
  refine ct_of RX10 [(0, .ref (w.1 0)), (1, .int p1)] rfl (Nat.le_of_ble_eq_true rfl) (by decide) rfl rfl rfl (fun x C => ?_)
  unfold sp_X10_which
  refine gz_iloadn C 1 rfl dX10_which_0 ?_
  refine gz_iconst (v := 1) C dX10_which_1 (by decide) ?_
  refine gz_iconst (v := 4) C dX10_which_2 (by decide) ?_
  refine gz_callSI [.int p1, .int (1 : Int32), .int (4 : Int32)] [] C (ct_X10_isOutside x.2.1 w p1 (1 : Int32) (4 : Int32) M) cal_X10_isOutside (Or.inl km_X10_79) ⟨rfl, rfl⟩ ⟨by decide, by decide⟩ rfl rfl (Nat.le_of_ble_eq_true rfl) dX10_which_3 (fun r3 M3 => ?_)
  refine gz_ifeq C 12 dX10_which_6 (by decide) ?_ ?_
  · refine gz_aloadn C 0 rfl dX10_which_12 ?_
    refine gz_callVI 0 [] [] C kn_X10 rfl rfl (ct_X10_canAim x.2.1 w M3) cal_X10_canAim km_X10_173 ⟨rfl, rfl⟩ ⟨by decide, by decide⟩ rfl rfl (Nat.le_of_ble_eq_true rfl) dX10_which_13 (fun r13 M13 => ?_)
    refine gz_ifne C 22 dX10_which_16 (by decide) ?_ ?_
    · refine gz_bipush (v := (-103)) C dX10_which_19 (by decide) ?_
      exact gz_iret C dX10_which_21
    · refine gz_aloadn C 0 rfl dX10_which_22 ?_
      refine gz_get C 0 6 (.ref (w.1 22)) kn_X10 rfl kf_X10_54 (by decide) dX10_which_23 (fv_R rfl rfl) ?_
      refine gz_aloadn C 0 rfl dX10_which_26 ?_
      refine gz_get C 0 1 (.ref (w.1 3)) kn_X10 rfl kf_X10_19 (by decide) dX10_which_27 (fv_R rfl rfl) ?_
      refine gz_aloadn C 0 rfl dX10_which_30 ?_
      refine gz_get C 0 2 (.ref (w.1 6)) kn_X10 rfl kf_X10_26 (by decide) dX10_which_31 (fv_R rfl rfl) ?_
      refine gz_aloadn C 0 rfl dX10_which_34 ?_
      refine gz_get C 0 4 (.ref (w.1 13)) kn_X10 rfl kf_X10_40 (by decide) dX10_which_35 (fv_R rfl rfl) ?_
      refine gz_iloadn C 1 rfl dX10_which_38 ?_
      refine gz_callVV 22 [.ref (w.1 3), .ref (w.1 6), .ref (w.1 13), .int p1] [] C kn_X0 rfl rfl (ct_X0_search x.2.1 w p1 M13) cal_X0_search km_X10_178 ⟨rfl, rfl⟩ ⟨by decide, by decide⟩ rfl rfl (Nat.le_of_ble_eq_true rfl) dX10_which_39 (fun _ M39 => ?_)
      refine gz_aloadn C 0 rfl dX10_which_42 ?_
      refine gz_get C 0 6 (.ref (w.1 22)) kn_X10 rfl kf_X10_54 (by decide) dX10_which_43 (fv_R rfl rfl) ?_
      refine gz_get C 22 2 (.int (gI M39 22 2)) kn_X0 rfl kf_X10_189 (by decide) dX10_which_46 (fv_I rfl) ?_
      exact gz_iret C dX10_which_49
  · refine gz_bipush (v := (-102)) C dX10_which_9 (by decide) ?_
    exact gz_iret C dX10_which_11
set_option maxRecDepth 100000 in
set_option maxHeartbeats 4000000 in
theorem ct_X2_add (l : Launch) (w : Wd) (p1 : Int32) (p2 : Int32) (M : Mm) : CT l yX2_add cX2_add 3 (some .int) rm_X2_add w (qI w) [.ref (w.1 9), .int p1, .int p2] (sp_X2_add p1 p2 M) M := by
  refine ct_of RX2 [(0, .ref (w.1 9)), (1, .int p1), (2, .int p2)] rfl (Nat.le_of_ble_eq_true rfl) (by decide) rfl rfl rfl (fun x C => ?_)
  unfold sp_X2_add
  refine gz_aloadn C 0 rfl dX2_add_0 ?_
  refine gz_get C 9 1 (.ref (w.1 10)) kn_X2 rfl kf_X2_9 (by decide) dX2_add_1 (fv_R rfl rfl) ?_
  refine gz_aloadn C 0 rfl dX2_add_4 ?_
  refine gz_get C 9 0 (.int (gI M 9 0)) kn_X2 rfl kf_X2_21 (by decide) dX2_add_5 (fv_I rfl) ?_
  refine gz_iloadn C 1 rfl dX2_add_8 ?_
  refine gz_callSV [.ref (w.1 10), .int (gI M 9 0), .int p1] [] C (ct_X10_put x.2.1 w 10 rfl (gI M 9 0) p1 M) cal_X10_put (Or.inr ⟨_, List.mem_of_getElem? (i := 22) rfl⟩) ⟨rfl, rfl⟩ ⟨by decide, by decide⟩ rfl rfl (Nat.le_of_ble_eq_true rfl) dX2_add_9 (fun _ M9 => ?_)
  refine gz_aloadn C 0 rfl dX2_add_12 ?_
  refine gz_get C 9 2 (.ref (w.1 11)) kn_X2 rfl kf_X2_15 (by decide) dX2_add_13 (fv_R rfl rfl) ?_
  refine gz_aloadn C 0 rfl dX2_add_16 ?_
  refine gz_get C 9 0 (.int (gI M9 9 0)) kn_X2 rfl kf_X2_21 (by decide) dX2_add_17 (fv_I rfl) ?_
  refine gz_iloadn C 2 rfl dX2_add_20 ?_
  refine gz_callSV [.ref (w.1 11), .int (gI M9 9 0), .int p2] [] C (ct_X10_put x.2.1 w 11 rfl (gI M9 9 0) p2 M9) cal_X10_put (Or.inr ⟨_, List.mem_of_getElem? (i := 22) rfl⟩) ⟨rfl, rfl⟩ ⟨by decide, by decide⟩ rfl rfl (Nat.le_of_ble_eq_true rfl) dX2_add_21 (fun _ M21 => ?_)
  refine gz_aloadn C 0 rfl dX2_add_24 ?_
  refine gz_dup C dX2_add_25 rfl ?_
  refine gz_get C 9 0 (.int (gI M21 9 0)) kn_X2 rfl kf_X2_21 (by decide) dX2_add_26 (fv_I rfl) ?_
  refine gz_iconst (v := 1) C dX2_add_29 (by decide) ?_
  refine gz_iadd C dX2_add_30 ?_
  refine gz_putI C 9 0 kn_X2 rfl kf_X2_21 (by decide) rfl rfl (tyX2_ok 0 (by decide)) rfl rfl dX2_add_31 (fun M31 => ?_)
  refine gz_aloadn C 0 rfl dX2_add_34 ?_
  refine gz_get C 9 0 (.int (gI M31 9 0)) kn_X2 rfl kf_X2_21 (by decide) dX2_add_35 (fv_I rfl) ?_
  refine gz_iconst (v := 1) C dX2_add_38 (by decide) ?_
  refine gz_isub C dX2_add_39 ?_
  exact gz_iret C dX2_add_40
set_option maxRecDepth 100000 in
set_option maxHeartbeats 4000000 in
theorem ct_X10_man (l : Launch) (w : Wd) (p1 : Int32) (p2 : Int32) (M : Mm) : CT l yX10_man cX10_man 3 (some .int) rm_X10_man w (qI w) [.ref (w.1 0), .int p1, .int p2] (sp_X10_man p1 p2 M) M := by
  refine ct_of RX10 [(0, .ref (w.1 0)), (1, .int p1), (2, .int p2)] rfl (Nat.le_of_ble_eq_true rfl) (by decide) rfl rfl rfl (fun x C => ?_)
  unfold sp_X10_man
  refine gz_iloadn C 1 rfl dX10_man_0 ?_
  refine gz_iconst (v := 0) C dX10_man_1 (by decide) ?_
  refine gz_iconst (v := 4) C dX10_man_2 (by decide) ?_
  refine gz_callSI [.int p1, .int (0 : Int32), .int (4 : Int32)] [] C (ct_X10_isOutside x.2.1 w p1 (0 : Int32) (4 : Int32) M) cal_X10_isOutside (Or.inl km_X10_79) ⟨rfl, rfl⟩ ⟨by decide, by decide⟩ rfl rfl (Nat.le_of_ble_eq_true rfl) dX10_man_3 (fun r3 M3 => ?_)
  refine gz_ifne C 19 dX10_man_6 (by decide) ?_ ?_
  · refine gz_iloadn C 2 rfl dX10_man_9 ?_
    refine gz_iconst (v := 1) C dX10_man_10 (by decide) ?_
    refine gz_bipush (v := (30)) C dX10_man_11 (by decide) ?_
    refine gz_callSI [.int p2, .int (1 : Int32), .int (30 : Int32)] [] C (ct_X10_isOutside x.2.1 w p2 (1 : Int32) (30 : Int32) M3) cal_X10_isOutside (Or.inl km_X10_79) ⟨rfl, rfl⟩ ⟨by decide, by decide⟩ rfl rfl (Nat.le_of_ble_eq_true rfl) dX10_man_13 (fun r13 M13 => ?_)
    refine gz_ifeq C 22 dX10_man_16 (by decide) ?_ ?_
    · refine gz_aloadn C 0 rfl dX10_man_22 ?_
      refine gz_callVI 0 [] [] C kn_X10 rfl rfl (ct_X10_hasNight x.2.1 w M13) cal_X10_hasNight km_X10_115 ⟨rfl, rfl⟩ ⟨by decide, by decide⟩ rfl rfl (Nat.le_of_ble_eq_true rfl) dX10_man_23 (fun r23 M23 => ?_)
      refine gz_ifne C 32 dX10_man_26 (by decide) ?_ ?_
      · refine gz_bipush (v := (-103)) C dX10_man_29 (by decide) ?_
        exact gz_iret C dX10_man_31
      · refine gz_aloadn C 0 rfl dX10_man_32 ?_
        refine gz_get C 0 3 (.ref (w.1 9)) kn_X10 rfl kf_X10_33 (by decide) dX10_man_33 (fv_R rfl rfl) ?_
        refine gz_get C 9 0 (.int (gI M23 9 0)) kn_X2 rfl kf_X10_192 (by decide) dX10_man_36 (fv_I rfl) ?_
        refine gz_bipush (v := (6)) C dX10_man_39 (by decide) ?_
        refine gz_icmplt C 47 dX10_man_41 (by decide) ?_ ?_
        · refine gz_aloadn C 0 rfl dX10_man_47 ?_
          refine gz_get C 0 3 (.ref (w.1 9)) kn_X10 rfl kf_X10_33 (by decide) dX10_man_48 (fv_R rfl rfl) ?_
          refine gz_iloadn C 1 rfl dX10_man_51 ?_
          refine gz_iloadn C 2 rfl dX10_man_52 ?_
          refine gz_callVI 9 [.int p1, .int p2] [] C kn_X2 rfl rfl (ct_X2_add x.2.1 w p1 p2 M23) cal_X2_add km_X10_193 ⟨rfl, rfl⟩ ⟨by decide, by decide⟩ rfl rfl (Nat.le_of_ble_eq_true rfl) dX10_man_53 (fun r53 M53 => ?_)
          exact gz_iret C dX10_man_56
        · refine gz_bipush (v := (-104)) C dX10_man_44 (by decide) ?_
          exact gz_iret C dX10_man_46
    · refine gz_bipush (v := (-102)) C dX10_man_19 (by decide) ?_
      exact gz_iret C dX10_man_21
  · refine gz_bipush (v := (-102)) C dX10_man_19 (by decide) ?_
    exact gz_iret C dX10_man_21
set_option maxRecDepth 100000 in
set_option maxHeartbeats 4000000 in
theorem ct_X2_has (l : Launch) (w : Wd) (p1 : Int32) (M : Mm) : CT l yX2_has cX2_has 2 (some .boolean) rm_X2_has w (qI w) [.ref (w.1 9), .int p1] (sp_X2_has p1 M) M := by
  refine ct_of RX2 [(0, .ref (w.1 9)), (1, .int p1)] rfl (Nat.le_of_ble_eq_true rfl) (by decide) rfl rfl rfl (fun x C => ?_)
  unfold sp_X2_has
  refine gz_iloadn C 1 rfl dX2_has_0 ?_
  refine gz_iflt C 16 dX2_has_1 (by decide) ?_ ?_
  · refine gz_iconst (v := 0) C dX2_has_16 (by decide) ?_
    exact gz_zret C (Or.inl rfl) dX2_has_17
  · refine gz_iloadn C 1 rfl dX2_has_4 ?_
    refine gz_aloadn C 0 rfl dX2_has_5 ?_
    refine gz_get C 9 0 (.int (gI M 9 0)) kn_X2 rfl kf_X2_21 (by decide) dX2_has_6 (fv_I rfl) ?_
    refine gz_icmpge C 16 dX2_has_9 (by decide) ?_ ?_
    · refine gz_iconst (v := 1) C dX2_has_12 (by decide) ?_
      refine gz_goto C 17 dX2_has_13 (by decide) ?_
      exact gz_zret C (Or.inr rfl) dX2_has_17
    · refine gz_iconst (v := 0) C dX2_has_16 (by decide) ?_
      exact gz_zret C (Or.inl rfl) dX2_has_17
set_option maxRecDepth 100000 in
set_option maxHeartbeats 4000000 in
theorem ct_X2_kind (l : Launch) (w : Wd) (p1 : Int32) (M : Mm) : CT l yX2_kind cX2_kind 2 (some .int) rm_X2_kind w (qI w) [.ref (w.1 9), .int p1] (sp_X2_kind p1 M) M := by
  refine ct_of RX2 [(0, .ref (w.1 9)), (1, .int p1)] rfl (Nat.le_of_ble_eq_true rfl) (by decide) rfl rfl rfl (fun x C => ?_)
  unfold sp_X2_kind
  refine gz_aloadn C 0 rfl dX2_kind_0 ?_
  refine gz_get C 9 1 (.ref (w.1 10)) kn_X2 rfl kf_X2_9 (by decide) dX2_kind_1 (fv_R rfl rfl) ?_
  refine gz_iloadn C 1 rfl dX2_kind_4 ?_
  refine gz_callSI [.ref (w.1 10), .int p1] [] C (ct_X10_at x.2.1 w 10 rfl p1 M) cal_X10_at (Or.inr ⟨_, List.mem_of_getElem? (i := 23) rfl⟩) ⟨rfl, rfl⟩ ⟨by decide, by decide⟩ rfl rfl (Nat.le_of_ble_eq_true rfl) dX2_kind_5 (fun r5 M5 => ?_)
  exact gz_iret C dX2_kind_8
set_option maxRecDepth 100000 in
set_option maxHeartbeats 4000000 in
theorem ct_X2_weight (l : Launch) (w : Wd) (p1 : Int32) (M : Mm) : CT l yX2_weight cX2_weight 2 (some .int) rm_X2_weight w (qI w) [.ref (w.1 9), .int p1] (sp_X2_weight p1 M) M := by
  refine ct_of RX2 [(0, .ref (w.1 9)), (1, .int p1)] rfl (Nat.le_of_ble_eq_true rfl) (by decide) rfl rfl rfl (fun x C => ?_)
  unfold sp_X2_weight
  refine gz_aloadn C 0 rfl dX2_weight_0 ?_
  refine gz_get C 9 2 (.ref (w.1 11)) kn_X2 rfl kf_X2_15 (by decide) dX2_weight_1 (fv_R rfl rfl) ?_
  refine gz_iloadn C 1 rfl dX2_weight_4 ?_
  refine gz_callSI [.ref (w.1 11), .int p1] [] C (ct_X10_at x.2.1 w 11 rfl p1 M) cal_X10_at (Or.inr ⟨_, List.mem_of_getElem? (i := 23) rfl⟩) ⟨rfl, rfl⟩ ⟨by decide, by decide⟩ rfl rfl (Nat.le_of_ble_eq_true rfl) dX2_weight_5 (fun r5 M5 => ?_)
  exact gz_iret C dX2_weight_8
set_option maxRecDepth 100000 in
set_option maxHeartbeats 4000000 in
theorem ct_X2_sags (l : Launch) (w : Wd) (p1 : Int32) (p2 : Int32) (p3 : Int32) (M : Mm) : CT l yX2_sags cX2_sags 4 (some .boolean) rm_X2_sags w (qI w) [.ref (w.1 9), .int p1, .int p2, .int p3] (sp_X2_sags p1 p2 p3 M) M := by
  refine ct_of RX2 [(0, .ref (w.1 9)), (1, .int p1), (2, .int p2), (3, .int p3)] rfl (Nat.le_of_ble_eq_true rfl) (by decide) rfl rfl rfl (fun x C => ?_)
  unfold sp_X2_sags
  refine gz_aloadn C 0 rfl dX2_sags_0 ?_
  refine gz_iloadn C 1 rfl dX2_sags_1 ?_
  refine gz_callVI 9 [.int p1] [] C kn_X2 rfl rfl (ct_X2_weight x.2.1 w p1 M) cal_X2_weight km_X2_58 ⟨rfl, rfl⟩ ⟨by decide, by decide⟩ rfl rfl (Nat.le_of_ble_eq_true rfl) dX2_sags_2 (fun r2 M2 => ?_)
  refine gz_iloadn C 2 rfl dX2_sags_5 ?_
  refine gz_imul C dX2_sags_6 ?_
  refine gz_bipush (v := (50)) C dX2_sags_7 (by decide) ?_
  refine gz_idivc C (by decide) dX2_sags_9 ?_
  refine gz_iloadn C 3 rfl dX2_sags_10 ?_
  refine gz_icmple C 18 dX2_sags_11 (by decide) ?_ ?_
  · refine gz_iconst (v := 1) C dX2_sags_14 (by decide) ?_
    refine gz_goto C 19 dX2_sags_15 (by decide) ?_
    exact gz_zret C (Or.inr rfl) dX2_sags_19
  · refine gz_iconst (v := 0) C dX2_sags_18 (by decide) ?_
    exact gz_zret C (Or.inl rfl) dX2_sags_19
set_option maxRecDepth 100000 in
set_option maxHeartbeats 4000000 in
theorem ct_X2_takes (l : Launch) (w : Wd) (p1 : Int32) (p2 : Int32) (p3 : Int32) (M : Mm) : CT l yX2_takes cX2_takes 5 (some .int) rm_X2_takes w (qI w) [.ref (w.1 9), .int p1, .int p2, .int p3] (sp_X2_takes p1 p2 p3 M) M := by
  refine ct_of RX2 [(0, .ref (w.1 9)), (1, .int p1), (2, .int p2), (3, .int p3)] rfl (Nat.le_of_ble_eq_true rfl) (by decide) rfl rfl rfl (fun x C => ?_)
  unfold sp_X2_takes
  refine gz_iconst (v := 2) C dX2_takes_0 (by decide) ?_
  refine gz_aloadn C 0 rfl dX2_takes_1 ?_
  refine gz_iloadn C 1 rfl dX2_takes_2 ?_
  refine gz_callVI 9 [.int p1] [.int (2 : Int32)] C kn_X2 rfl rfl (ct_X2_weight x.2.1 w p1 M) cal_X2_weight km_X2_58 ⟨rfl, rfl⟩ ⟨by decide, by decide⟩ rfl rfl (Nat.le_of_ble_eq_true rfl) dX2_takes_3 (fun r3 M3 => ?_)
  refine gz_iconst (v := 5) C dX2_takes_6 (by decide) ?_
  refine gz_idivc C (by decide) dX2_takes_7 ?_
  refine gz_iadd C dX2_takes_8 ?_
  refine gz_blt (fun y9 => ?_)
  refine gz_istore C [(4, .int y9), (0, .ref (w.1 9)), (1, .int p1), (2, .int p2), (3, .int p3)] dX2_takes_9 (by decide) rfl ?_
  refine gz_aloadn C 1 rfl dX2_takes_11 ?_
  refine gz_iloadn C 2 rfl dX2_takes_12 ?_
  refine gz_callVI 9 [.int p1] [] C kn_X2 rfl rfl (ct_X2_kind x.2.1 w p1 M3) cal_X2_kind km_X2_39 ⟨rfl, rfl⟩ ⟨by decide, by decide⟩ rfl rfl (Nat.le_of_ble_eq_true rfl) dX2_takes_13 (fun r13 M13 => ?_)
  refine gz_iconst (v := 1) C dX2_takes_16 (by decide) ?_
  refine gz_jn (fun K28 => ∀ (v4_28 : Int32), G x w 5 (qI w) (K28 v4_28) M13 [(0, .ref (w.1 9)), (1, .int p1), (2, .int p2), (3, .int p3), (4, .int v4_28)] 28 []) ?_ ?_
  · intro v4_28
    refine gz_aloadn C 0 rfl dX2_takes_28 ?_
    refine gz_iloadn C 1 rfl dX2_takes_29 ?_
    refine gz_callVI 9 [.int p1] [] C kn_X2 rfl rfl (ct_X2_kind x.2.1 w p1 M13) cal_X2_kind km_X2_39 ⟨rfl, rfl⟩ ⟨by decide, by decide⟩ rfl rfl (Nat.le_of_ble_eq_true rfl) dX2_takes_30 (fun r30 M30 => ?_)
    refine gz_iconst (v := 3) C dX2_takes_33 (by decide) ?_
    refine gz_jn (fun K40 => ∀ (v4_40 : Int32), G x w 5 (qI w) (K40 v4_40) M30 [(0, .ref (w.1 9)), (1, .int p1), (2, .int p2), (3, .int p3), (4, .int v4_40)] 40 []) ?_ ?_
    · intro v4_40
      refine gz_aloadn C 0 rfl dX2_takes_40 ?_
      refine gz_iloadn C 1 rfl dX2_takes_41 ?_
      refine gz_iloadn C 2 rfl dX2_takes_42 ?_
      refine gz_iloadn C 3 rfl dX2_takes_43 ?_
      refine gz_callVI 9 [.int p1, .int p2, .int p3] [] C kn_X2 rfl rfl (ct_X2_sags x.2.1 w p1 p2 p3 M30) cal_X2_sags km_X2_61 ⟨rfl, rfl⟩ ⟨by decide, by decide⟩ rfl rfl (Nat.le_of_ble_eq_true rfl) dX2_takes_44 (fun r44 M44 => ?_)
      refine gz_ifeq C 57 dX2_takes_47 (by decide) ?_ ?_
      · refine gz_iload C 4 rfl dX2_takes_57 ?_
        exact gz_iret C dX2_takes_59
      · refine gz_iload C 4 rfl dX2_takes_50 ?_
        refine gz_iconst (v := 2) C dX2_takes_52 (by decide) ?_
        refine gz_iadd C dX2_takes_53 ?_
        refine gz_goto C 59 dX2_takes_54 (by decide) ?_
        exact gz_iret C dX2_takes_59
    · intro K40 hK40
      refine gz_icmpne C 40 dX2_takes_34 (by decide) ?_ ?_
      · refine gz_iinc (v' := v4_28 + 3) C 4 [(4, .int (v4_28 + 3)), (0, .ref (w.1 9)), (1, .int p1), (2, .int p2), (3, .int p3)] rfl dX2_takes_37 rfl (by decide) rfl ?_
        refine gz_sub [1, 2, 3, 4, 0] rfl ?_
        exact hK40 _
      · exact hK40 _
  · intro K28 hK28
    refine gz_icmpne C 28 dX2_takes_17 (by decide) ?_ ?_
    · refine gz_iload C 0 rfl dX2_takes_20 ?_
      refine gz_iconst (v := 1) C dX2_takes_22 (by decide) ?_
      refine gz_iadd C dX2_takes_23 ?_
      refine gz_iconst (v := 2) C dX2_takes_24 (by decide) ?_
      refine gz_idivc C (by decide) dX2_takes_25 ?_
      refine gz_blt (fun y26 => ?_)
      refine gz_istore C [(4, .int y26), (0, .ref (w.1 9)), (1, .int p1), (2, .int p2), (3, .int p3)] dX2_takes_26 (by decide) rfl ?_
      refine gz_sub [1, 2, 3, 4, 0] rfl ?_
      exact hK28 _
    · refine gz_sub [1, 2, 3, 4, 0] rfl ?_
      exact hK28 _
set_option maxRecDepth 100000 in
set_option maxHeartbeats 4000000 in
theorem ct_X10_asNumber (l : Launch) (w : Wd) (p0 : Int32) (M : Mm) : CT l yX10_asNumber cX10_asNumber 1 (some .int) rm_X10_asNumber w (qI w) [.int p0] (sp_X10_asNumber p0 M) M := by
  refine ct_of RX10 [(0, .int p0)] rfl (Nat.le_of_ble_eq_true rfl) (by decide) rfl rfl rfl (fun x C => ?_)
  unfold sp_X10_asNumber
  refine gz_iloadn C 0 rfl dX10_asNumber_0 ?_
  refine gz_ifeq C 8 dX10_asNumber_1 (by decide) ?_ ?_
  · refine gz_iconst (v := 0) C dX10_asNumber_8 (by decide) ?_
    exact gz_iret C dX10_asNumber_9
  · refine gz_iconst (v := 1) C dX10_asNumber_4 (by decide) ?_
    refine gz_goto C 9 dX10_asNumber_5 (by decide) ?_
    exact gz_iret C dX10_asNumber_9
set_option maxRecDepth 100000 in
set_option maxHeartbeats 4000000 in
theorem ct_X1_overMinute (l : Launch) (w : Wd) (p1 : Int32) (M : Mm) : CT l yX1_overMinute cX1_overMinute 2 (some .int) rm_X1_overMinute w (qI w) [.ref (w.1 13), .int p1] (sp_X1_overMinute p1 M) M := by
  refine ct_of RX1 [(0, .ref (w.1 13)), (1, .int p1)] rfl (Nat.le_of_ble_eq_true rfl) (by decide) rfl rfl rfl (fun x C => ?_)
  unfold sp_X1_overMinute
  refine gz_aloadn C 0 rfl dX1_overMinute_0 ?_
  refine gz_get C 13 4 (.int (gI M 13 4)) kn_X1 rfl kf_X1_38 (by decide) dX1_overMinute_1 (fv_I rfl) ?_
  refine gz_iloadn C 1 rfl dX1_overMinute_4 ?_
  refine gz_callSI [.int (gI M 13 4), .int p1] [] C (ct_X10_isIn x.2.1 w (gI M 13 4) p1 M) cal_X10_isIn (Or.inr ⟨_, List.mem_of_getElem? (i := 24) rfl⟩) ⟨rfl, rfl⟩ ⟨by decide, by decide⟩ rfl rfl (Nat.le_of_ble_eq_true rfl) dX1_overMinute_5 (fun r5 M5 => ?_)
  refine gz_ifeq C 22 dX1_overMinute_8 (by decide) ?_ ?_
  · refine gz_iconst (v := (-1)) C dX1_overMinute_22 (by decide) ?_
    exact gz_iret C dX1_overMinute_23
  · refine gz_aloadn C 0 rfl dX1_overMinute_11 ?_
    refine gz_get C 13 8 (.ref (w.1 14)) kn_X1 rfl kf_X1_15 (by decide) dX1_overMinute_12 (fv_R rfl rfl) ?_
    refine gz_iloadn C 1 rfl dX1_overMinute_15 ?_
    refine gz_callSI [.ref (w.1 14), .int p1] [] C (ct_X10_at x.2.1 w 14 rfl p1 M5) cal_X10_at (Or.inr ⟨_, List.mem_of_getElem? (i := 25) rfl⟩) ⟨rfl, rfl⟩ ⟨by decide, by decide⟩ rfl rfl (Nat.le_of_ble_eq_true rfl) dX1_overMinute_16 (fun r16 M16 => ?_)
    refine gz_goto C 23 dX1_overMinute_19 (by decide) ?_
    exact gz_iret C dX1_overMinute_23
set_option maxRecDepth 100000 in
set_option maxHeartbeats 4000000 in
theorem ct_X2_allButCaptains (l : Launch) (w : Wd) (M : Mm) : CT l yX2_allButCaptains cX2_allButCaptains 3 (some .int) rm_X2_allButCaptains w (qI w) [.ref (w.1 9)] (sp_X2_allButCaptains M) M := by
  refine ct_of RX2 [(0, .ref (w.1 9))] rfl (Nat.le_of_ble_eq_true rfl) (by decide) rfl rfl rfl (fun x C => ?_)
  unfold sp_X2_allButCaptains
  refine gz_iconst (v := 0) C dX2_allButCaptains_0 (by decide) ?_
  refine gz_istoren C [(1, .int (0 : Int32)), (0, .ref (w.1 9))] dX2_allButCaptains_1 (by decide) rfl ?_
  refine gz_iconst (v := 0) C dX2_allButCaptains_2 (by decide) ?_
  refine gz_istoren C [(2, .int (0 : Int32)), (1, .int (0 : Int32)), (0, .ref (w.1 9))] dX2_allButCaptains_3 (by decide) rfl ?_
  have hL4 : ∀ (n4 : Nat) (v1_4 : Int32) (v2_4 : Int32) (M_4 : Mm), G x w 3 (qI w) (sp_X2_allButCaptains_L4 n4 v1_4 v2_4 M_4) M_4 [(0, .ref (w.1 9)), (1, .int v1_4), (2, .int v2_4)] 4 [] := by
    intro n4
    induction n4 with
    | zero => intros; exact gz_none
    | succ n4 ih4 =>
      intro v1_4 v2_4 M_4
      rw [sp_X2_allButCaptains_L4]
      refine gz_iloadn C 2 rfl dX2_allButCaptains_4 ?_
      refine gz_aloadn C 0 rfl dX2_allButCaptains_5 ?_
      refine gz_get C 9 0 (.int (gI M_4 9 0)) kn_X2 rfl kf_X2_21 (by decide) dX2_allButCaptains_6 (fv_I rfl) ?_
      refine gz_icmpge C 33 dX2_allButCaptains_9 (by decide) ?_ ?_
      · refine gz_aloadn C 0 rfl dX2_allButCaptains_12 ?_
        refine gz_iloadn C 2 rfl dX2_allButCaptains_13 ?_
        refine gz_callVI 9 [.int v2_4] [] C kn_X2 rfl rfl (ct_X2_kind x.2.1 w v2_4 M_4) cal_X2_kind km_X2_39 ⟨rfl, rfl⟩ ⟨by decide, by decide⟩ rfl rfl (Nat.le_of_ble_eq_true rfl) dX2_allButCaptains_14 (fun r14 M14 => ?_)
        refine gz_iconst (v := 4) C dX2_allButCaptains_17 (by decide) ?_
        refine gz_icmpeq C 27 dX2_allButCaptains_18 (by decide) ?_ ?_
        · refine gz_iinc (v' := v2_4 + 1) C 2 [(2, .int (v2_4 + 1)), (0, .ref (w.1 9)), (1, .int v1_4)] rfl dX2_allButCaptains_27 rfl (by decide) rfl ?_
          refine gz_goto C 4 dX2_allButCaptains_30 (by decide) ?_
          refine gz_sub [1, 2, 0] rfl ?_
          exact ih4 _ _ _
        · refine gz_iloadn C 1 rfl dX2_allButCaptains_21 ?_
          refine gz_iloadn C 2 rfl dX2_allButCaptains_22 ?_
          refine gz_callSI [.int v1_4, .int v2_4] [] C (ct_X10_with x.2.1 w v1_4 v2_4 M14) cal_X10_with (Or.inr ⟨_, List.mem_of_getElem? (i := 26) rfl⟩) ⟨rfl, rfl⟩ ⟨by decide, by decide⟩ rfl rfl (Nat.le_of_ble_eq_true rfl) dX2_allButCaptains_23 (fun r23 M23 => ?_)
          refine gz_istoren C [(1, .int r23), (0, .ref (w.1 9)), (2, .int v2_4)] dX2_allButCaptains_26 (by decide) rfl ?_
          refine gz_iinc (v' := v2_4 + 1) C 2 [(2, .int (v2_4 + 1)), (1, .int r23), (0, .ref (w.1 9))] rfl dX2_allButCaptains_27 rfl (by decide) rfl ?_
          refine gz_goto C 4 dX2_allButCaptains_30 (by decide) ?_
          refine gz_sub [2, 1, 0] rfl ?_
          exact ih4 _ _ _
      · refine gz_iloadn C 1 rfl dX2_allButCaptains_33 ?_
        exact gz_iret C dX2_allButCaptains_34
  refine gz_sub [2, 1, 0] rfl ?_
  exact hL4 fu _ _ _
set_option maxRecDepth 100000 in
set_option maxHeartbeats 4000000 in
theorem ct_X2_ahead (l : Launch) (w : Wd) (p1 : Int32) (M : Mm) : CT l yX2_ahead cX2_ahead 3 (some .int) rm_X2_ahead w (qI w) [.ref (w.1 9), .int p1] (sp_X2_ahead p1 M) M := by
  refine ct_of RX2 [(0, .ref (w.1 9)), (1, .int p1)] rfl (Nat.le_of_ble_eq_true rfl) (by decide) rfl rfl rfl (fun x C => ?_)
  unfold sp_X2_ahead
  refine gz_aloadn C 0 rfl dX2_ahead_0 ?_
  refine gz_get C 9 3 (.ref (w.1 12)) kn_X2 rfl kf_X2_18 (by decide) dX2_ahead_1 (fv_R rfl rfl) ?_
  refine gz_iloadn C 1 rfl dX2_ahead_4 ?_
  refine gz_callSI [.ref (w.1 12), .int p1] [] C (ct_X10_at x.2.1 w 12 rfl p1 M) cal_X10_at (Or.inr ⟨_, List.mem_of_getElem? (i := 23) rfl⟩) ⟨rfl, rfl⟩ ⟨by decide, by decide⟩ rfl rfl (Nat.le_of_ble_eq_true rfl) dX2_ahead_5 (fun r5 M5 => ?_)
  refine gz_istoren C [(2, .int r5), (0, .ref (w.1 9)), (1, .int p1)] dX2_ahead_8 (by decide) rfl ?_
  refine gz_aloadn C 1 rfl dX2_ahead_9 ?_
  refine gz_iloadn C 2 rfl dX2_ahead_10 ?_
  refine gz_callVI 9 [.int p1] [] C kn_X2 rfl rfl (ct_X2_kind x.2.1 w p1 M5) cal_X2_kind km_X2_39 ⟨rfl, rfl⟩ ⟨by decide, by decide⟩ rfl rfl (Nat.le_of_ble_eq_true rfl) dX2_ahead_11 (fun r11 M11 => ?_)
  refine gz_iconst (v := 4) C dX2_ahead_14 (by decide) ?_
  refine gz_icmpne C 27 dX2_ahead_15 (by decide) ?_ ?_
  · refine gz_iloadn C 0 rfl dX2_ahead_18 ?_
    refine gz_aloadn C 1 rfl dX2_ahead_19 ?_
    refine gz_callVI 9 [] [.int r5] C kn_X2 rfl rfl (ct_X2_allButCaptains x.2.1 w M11) cal_X2_allButCaptains km_X2_54 ⟨rfl, rfl⟩ ⟨by decide, by decide⟩ rfl rfl (Nat.le_of_ble_eq_true rfl) dX2_ahead_20 (fun r20 M20 => ?_)
    refine gz_ior C dX2_ahead_23 ?_
    refine gz_goto C 28 dX2_ahead_24 (by decide) ?_
    exact gz_iret C dX2_ahead_28
  · refine gz_iloadn C 0 rfl dX2_ahead_27 ?_
    exact gz_iret C dX2_ahead_28
set_option maxRecDepth 100000 in
set_option maxHeartbeats 4000000 in
theorem ct_X10_holdsAll (l : Launch) (w : Wd) (p0 : Int32) (p1 : Int32) (M : Mm) : CT l yX10_holdsAll cX10_holdsAll 2 (some .boolean) rm_X10_holdsAll w (qI w) [.int p0, .int p1] (sp_X10_holdsAll p0 p1 M) M := by
  refine ct_of RX10 [(0, .int p0), (1, .int p1)] rfl (Nat.le_of_ble_eq_true rfl) (by decide) rfl rfl rfl (fun x C => ?_)
  unfold sp_X10_holdsAll
  refine gz_iloadn C 1 rfl dX10_holdsAll_0 ?_
  refine gz_iloadn C 0 rfl dX10_holdsAll_1 ?_
  refine gz_iconst (v := (-1)) C dX10_holdsAll_2 (by decide) ?_
  refine gz_ixor C dX10_holdsAll_3 ?_
  refine gz_iand C dX10_holdsAll_4 ?_
  refine gz_ifne C 12 dX10_holdsAll_5 (by decide) ?_ ?_
  · refine gz_iconst (v := 1) C dX10_holdsAll_8 (by decide) ?_
    refine gz_goto C 13 dX10_holdsAll_9 (by decide) ?_
    exact gz_zret C (Or.inr rfl) dX10_holdsAll_13
  · refine gz_iconst (v := 0) C dX10_holdsAll_12 (by decide) ?_
    exact gz_zret C (Or.inl rfl) dX10_holdsAll_13
set_option maxRecDepth 100000 in
set_option maxHeartbeats 4000000 in
theorem ct_X7_endMinute (l : Launch) (w : Wd) (M : Mm) : CT l yX7_endMinute cX7_endMinute 1 (some .int) rm_X7_endMinute w (qI w) [.ref (w.1 3)] (sp_X7_endMinute M) M := by
  refine ct_of RX7 [(0, .ref (w.1 3))] rfl (Nat.le_of_ble_eq_true rfl) (by decide) rfl rfl rfl (fun x C => ?_)
  unfold sp_X7_endMinute
  refine gz_aloadn C 0 rfl dX7_endMinute_0 ?_
  refine gz_get C 3 1 (.int (gI M 3 1)) kn_X7 rfl kf_X7_38 (by decide) dX7_endMinute_1 (fv_I rfl) ?_
  refine gz_iconst (v := 5) C dX7_endMinute_4 (by decide) ?_
  refine gz_imul C dX7_endMinute_5 ?_
  exact gz_iret C dX7_endMinute_6
set_option maxRecDepth 100000 in
set_option maxHeartbeats 4000000 in
theorem ct_X10_mayCome (l : Launch) (w : Wd) (p1 : Int32) (M : Mm) : CT l yX10_mayCome cX10_mayCome 2 (some .boolean) rm_X10_mayCome w (qI w) [.ref (w.1 0), .int p1] (sp_X10_mayCome p1 M) M := by
  refine ct_of RX10 [(0, .ref (w.1 0)), (1, .int p1)] rfl (Nat.le_of_ble_eq_true rfl) (by decide) rfl rfl rfl (fun x C => ?_)
  unfold sp_X10_mayCome
  refine gz_aloadn C 0 rfl dX10_mayCome_0 ?_
  refine gz_get C 0 4 (.ref (w.1 13)) kn_X10 rfl kf_X10_40 (by decide) dX10_mayCome_1 (fv_R rfl rfl) ?_
  refine gz_get C 13 1 (.int (gI M 13 1)) kn_X1 rfl kf_X10_156 (by decide) dX10_mayCome_4 (fv_I rfl) ?_
  refine gz_ifeq C 99 dX10_mayCome_7 (by decide) ?_ ?_
  · refine gz_iconst (v := 0) C dX10_mayCome_99 (by decide) ?_
    exact gz_zret C (Or.inl rfl) dX10_mayCome_100
  · refine gz_aloadn C 0 rfl dX10_mayCome_10 ?_
    refine gz_get C 0 4 (.ref (w.1 13)) kn_X10 rfl kf_X10_40 (by decide) dX10_mayCome_11 (fv_R rfl rfl) ?_
    refine gz_get C 13 2 (.int (gI M 13 2)) kn_X1 rfl kf_X10_139 (by decide) dX10_mayCome_14 (fv_I rfl) ?_
    refine gz_ifne C 99 dX10_mayCome_17 (by decide) ?_ ?_
    · refine gz_aloadn C 0 rfl dX10_mayCome_20 ?_
      refine gz_get C 0 4 (.ref (w.1 13)) kn_X10 rfl kf_X10_40 (by decide) dX10_mayCome_21 (fv_R rfl rfl) ?_
      refine gz_get C 13 4 (.int (gI M 13 4)) kn_X1 rfl kf_X10_218 (by decide) dX10_mayCome_24 (fv_I rfl) ?_
      refine gz_iloadn C 1 rfl dX10_mayCome_27 ?_
      refine gz_callSI [.int (gI M 13 4), .int p1] [] C (ct_X10_isIn x.2.1 w (gI M 13 4) p1 M) cal_X10_isIn (Or.inl km_X10_135) ⟨rfl, rfl⟩ ⟨by decide, by decide⟩ rfl rfl (Nat.le_of_ble_eq_true rfl) dX10_mayCome_28 (fun r28 M28 => ?_)
      refine gz_ifne C 99 dX10_mayCome_31 (by decide) ?_ ?_
      · refine gz_aloadn C 0 rfl dX10_mayCome_34 ?_
        refine gz_get C 0 4 (.ref (w.1 13)) kn_X10 rfl kf_X10_40 (by decide) dX10_mayCome_35 (fv_R rfl rfl) ?_
        refine gz_get C 13 4 (.int (gI M28 13 4)) kn_X1 rfl kf_X10_218 (by decide) dX10_mayCome_38 (fv_I rfl) ?_
        refine gz_aloadn C 0 rfl dX10_mayCome_41 ?_
        refine gz_get C 0 3 (.ref (w.1 9)) kn_X10 rfl kf_X10_33 (by decide) dX10_mayCome_42 (fv_R rfl rfl) ?_
        refine gz_iloadn C 1 rfl dX10_mayCome_45 ?_
        refine gz_callVI 9 [.int p1] [.int (gI M28 13 4)] C kn_X2 rfl rfl (ct_X2_ahead x.2.1 w p1 M28) cal_X2_ahead km_X10_360 ⟨rfl, rfl⟩ ⟨by decide, by decide⟩ rfl rfl (Nat.le_of_ble_eq_true rfl) dX10_mayCome_46 (fun r46 M46 => ?_)
        refine gz_callSI [.int (gI M28 13 4), .int r46] [] C (ct_X10_holdsAll x.2.1 w (gI M28 13 4) r46 M46) cal_X10_holdsAll (Or.inl km_X10_363) ⟨rfl, rfl⟩ ⟨by decide, by decide⟩ rfl rfl (Nat.le_of_ble_eq_true rfl) dX10_mayCome_49 (fun r49 M49 => ?_)
        refine gz_ifeq C 99 dX10_mayCome_52 (by decide) ?_ ?_
        · refine gz_iconst (v := 0) C dX10_mayCome_99 (by decide) ?_
          exact gz_zret C (Or.inl rfl) dX10_mayCome_100
        · refine gz_aloadn C 0 rfl dX10_mayCome_55 ?_
          refine gz_get C 0 4 (.ref (w.1 13)) kn_X10 rfl kf_X10_40 (by decide) dX10_mayCome_56 (fv_R rfl rfl) ?_
          refine gz_get C 13 0 (.int (gI M49 13 0)) kn_X1 rfl kf_X10_241 (by decide) dX10_mayCome_59 (fv_I rfl) ?_
          refine gz_aloadn C 0 rfl dX10_mayCome_62 ?_
          refine gz_get C 0 3 (.ref (w.1 9)) kn_X10 rfl kf_X10_33 (by decide) dX10_mayCome_63 (fv_R rfl rfl) ?_
          refine gz_iloadn C 1 rfl dX10_mayCome_66 ?_
          refine gz_aloadn C 0 rfl dX10_mayCome_67 ?_
          refine gz_get C 0 1 (.ref (w.1 3)) kn_X10 rfl kf_X10_19 (by decide) dX10_mayCome_68 (fv_R rfl rfl) ?_
          refine gz_get C 3 0 (.int (gI M49 3 0)) kn_X7 rfl kf_X10_201 (by decide) dX10_mayCome_71 (fv_I rfl) ?_
          refine gz_aloadn C 0 rfl dX10_mayCome_74 ?_
          refine gz_get C 0 4 (.ref (w.1 13)) kn_X10 rfl kf_X10_40 (by decide) dX10_mayCome_75 (fv_R rfl rfl) ?_
          refine gz_get C 13 5 (.int (gI M49 13 5)) kn_X1 rfl kf_X10_204 (by decide) dX10_mayCome_78 (fv_I rfl) ?_
          refine gz_callVI 9 [.int p1, .int (gI M49 3 0), .int (gI M49 13 5)] [.int (gI M49 13 0)] C kn_X2 rfl rfl (ct_X2_takes x.2.1 w p1 (gI M49 3 0) (gI M49 13 5) M49) cal_X2_takes km_X10_207 ⟨rfl, rfl⟩ ⟨by decide, by decide⟩ rfl rfl (Nat.le_of_ble_eq_true rfl) dX10_mayCome_81 (fun r81 M81 => ?_)
          refine gz_iadd C dX10_mayCome_84 ?_
          refine gz_aloadn C 0 rfl dX10_mayCome_85 ?_
          refine gz_get C 0 1 (.ref (w.1 3)) kn_X10 rfl kf_X10_19 (by decide) dX10_mayCome_86 (fv_R rfl rfl) ?_
          refine gz_callVI 3 [] [.int ((gI M49 13 0) + r81)] C kn_X7 rfl rfl (ct_X7_endMinute x.2.1 w M81) cal_X7_endMinute km_X10_247 ⟨rfl, rfl⟩ ⟨by decide, by decide⟩ rfl rfl (Nat.le_of_ble_eq_true rfl) dX10_mayCome_89 (fun r89 M89 => ?_)
          refine gz_icmpge C 99 dX10_mayCome_92 (by decide) ?_ ?_
          · refine gz_iconst (v := 1) C dX10_mayCome_95 (by decide) ?_
            refine gz_goto C 100 dX10_mayCome_96 (by decide) ?_
            exact gz_zret C (Or.inr rfl) dX10_mayCome_100
          · refine gz_iconst (v := 0) C dX10_mayCome_99 (by decide) ?_
            exact gz_zret C (Or.inl rfl) dX10_mayCome_100
      · refine gz_iconst (v := 0) C dX10_mayCome_99 (by decide) ?_
        exact gz_zret C (Or.inl rfl) dX10_mayCome_100
    · refine gz_iconst (v := 0) C dX10_mayCome_99 (by decide) ?_
      exact gz_zret C (Or.inl rfl) dX10_mayCome_100
