/-! THE CALL restore -/
theorem tfA' : ∀ f k M, k ≤ 8 → 8 < k + f → ∃ M', sp_X1_takeFrom_13_18_L112 f (nI k) M = some ((), M') ∧ ∀ c j, gI M' c j = if c = 16 ∧ k ≤ j ∧ j < 8 then gI M 21 j else gI M c j := by
  intro f
  induction f with
  | zero => intro k M h1 h2; omega
  | succ f ih =>
    intro k M h1 h2
    rw [sp_X1_takeFrom_13_18_L112]
    by_cases hk : k < 8
    · rw [if_pos (c_lt 8 8 rfl hk (by decide)), at_n (show k < 8 from hk), bd_s, put_n (show k < 8 from hk), bd_s, nI_p]
      obtain ⟨M', e1, e2⟩ := ih (k + 1) (sI M 16 k (gI M 21 k)) (by omega) (by omega)
      refine ⟨M', e1, fun c j => ?_⟩
      rw [e2]
      by_cases z : c = 16 ∧ k ≤ j ∧ j < 8
      · rw [if_pos z]
        by_cases y : j = k
        · subst y
          rw [if_neg (by omega), z.1, gI_s]
        · rw [if_pos (by omega), gI_o (by omega)]
      · rw [if_neg z, if_neg (by omega), gI_o (by omega)]
    · rw [if_neg (c_nlt 8 8 rfl (by omega) (by omega))]
      refine ⟨M, rfl, fun c j => ?_⟩
      rw [if_neg (by omega)]
theorem tfB' (K : Mm → Option (Unit × Mm)) : ∀ f k M, k ≤ 6 → 6 < k + f → ∃ M', sp_X1_takeFrom_13_18_L66 K f (nI k) M = K M' ∧ ∀ c j, gI M' c j = if c = 14 ∧ k ≤ j ∧ j < 6 then gI M 19 j else if c = 15 ∧ k ≤ j ∧ j < 6 then gI M 20 j else gI M c j := by
  intro f
  induction f with
  | zero => intro k M h1 h2; omega
  | succ f ih =>
    intro k M h1 h2
    rw [sp_X1_takeFrom_13_18_L66]
    by_cases hk : k < 6
    · rw [if_pos (c_lt 6 6 rfl hk (by decide)), at_n (show k < 6 from hk), bd_s, put_n (show k < 6 from hk), bd_s, at_n (show k < 6 from hk), bd_s, put_n (show k < 6 from hk), bd_s, nI_p, gI_o (by omega)]
      obtain ⟨M', e1, e2⟩ := ih (k + 1) (sI (sI M 14 k (gI M 19 k)) 15 k (gI M 20 k)) (by omega) (by omega)
      refine ⟨M', e1, fun c j => ?_⟩
      rw [e2]
      by_cases y : j = k
      · subst y
        rw [if_neg (by omega), if_neg (by omega)]
        by_cases z : c = 14
        · subst z; rw [if_pos ⟨rfl, by omega, by omega⟩, gI_o (by omega), gI_s]
        · rw [if_neg (by omega)]
          by_cases z2 : c = 15
          · subst z2; rw [if_pos ⟨rfl, by omega, by omega⟩, gI_s]
          · rw [if_neg (by omega), gI_o (by omega), gI_o (by omega)]
      · rw [gI_o (by omega), gI_o (by omega), gI_o (by omega), gI_o (by omega), gI_o (by omega), gI_o (by omega)]
        by_cases z : c = 14 ∧ k ≤ j ∧ j < 6
        · rw [if_pos z, if_pos (by omega)]
        · rw [if_neg z, if_neg (by omega)]
          by_cases z2 : c = 15 ∧ k ≤ j ∧ j < 6
          · rw [if_pos z2, if_pos (by omega)]
          · rw [if_neg z2, if_neg (by omega)]
    · rw [if_neg (c_nlt 6 6 rfl (by omega) (by omega))]
      refine ⟨M, rfl, fun c j => ?_⟩
      rw [if_neg (by omega), if_neg (by omega)]
theorem tf_e' {M : Mm} (b1 : gI M 18 1 = 0 ∨ gI M 18 1 = 1) (b2 : gI M 18 2 = 0 ∨ gI M 18 2 = 1) : ∃ M', sp_X1_takeFrom_13_18 M = some ((), M') ∧ ∀ c j, gI M' c j = if c = 13 ∧ j < 8 then gI M 18 j else if c = 14 ∧ j < 6 then gI M 19 j else if c = 15 ∧ j < 6 then gI M 20 j else if c = 16 ∧ j < 8 then gI M 21 j else gI M c j := by
  unfold sp_X1_takeFrom_13_18
  simp only [bl_e, jn_e, gI_sI, Nat.reduceEqDiff, false_and, if_false]
  unfold zb
  rw [if_pos b1, if_pos b2]
  generalize eM1 : sI (sI (sI (sI (sI (sI (sI (sI M 13 0 (gI M 18 0)) 13 1 (gI M 18 1)) 13 2 (gI M 18 2)) 13 3 (gI M 18 3)) 13 4 (gI M 18 4)) 13 5 (gI M 18 5)) 13 6 (gI M 18 6)) 13 7 (gI M 18 7) = M1
  have g1 : ∀ c j, gI M1 c j = if c = 13 ∧ j < 8 then gI M 18 j else gI M c j := by
    intro c j
    rw [← eM1]
    simp only [gI_sI]
    by_cases z : c = 13
    · subst z
      by_cases y : j < 8
      · rcases (by omega : j = 0 ∨ j = 1 ∨ j = 2 ∨ j = 3 ∨ j = 4 ∨ j = 5 ∨ j = 6 ∨ j = 7) with rfl | rfl | rfl | rfl | rfl | rfl | rfl | rfl <;> rfl
      · rw [if_neg (by omega), if_neg (by omega), if_neg (by omega), if_neg (by omega), if_neg (by omega), if_neg (by omega), if_neg (by omega), if_neg (by omega), if_neg (by omega)]
    · rw [if_neg (by omega), if_neg (by omega), if_neg (by omega), if_neg (by omega), if_neg (by omega), if_neg (by omega), if_neg (by omega), if_neg (by omega), if_neg (by omega)]
  obtain ⟨M2, e1, e2⟩ := tfB' (fun M_110 => sp_X1_takeFrom_13_18_L112 fu 0 M_110) fu 0 M1 (by omega) (by unfold fu; omega)
  obtain ⟨M3, e3, e4⟩ := tfA' fu 0 M2 (by omega) (by unfold fu; omega)
  refine ⟨M3, e1.trans e3, fun c j => ?_⟩
  rw [e4, e2, e2]
  simp only [g1, Nat.reduceEqDiff, false_and, if_false, Nat.zero_le, true_and]
  by_cases z1 : c = 16 ∧ j < 8
  · rw [if_pos z1, if_neg (by omega), if_neg (by omega), if_neg (by omega), if_pos z1]
  · rw [if_neg z1]
    by_cases z2 : c = 14 ∧ j < 6
    · rw [if_pos z2, if_neg (by omega), if_pos z2]
    · rw [if_neg z2]
      by_cases z3 : c = 15 ∧ j < 6
      · rw [if_pos z3, if_neg (by omega), if_neg (by omega), if_pos z3]
      · rw [if_neg z3]
        by_cases z4 : c = 13 ∧ j < 8
        · rw [if_pos z4, if_pos z4]
        · rw [if_neg z4, if_neg z4, if_neg z2, if_neg z3, if_neg z1]
theorem Bo_restore {i : Nat} {M : Mm} (h : Inv i M) (hz : I_z M) (hi : i < 1000) : Bo i M sp_X10_restore sp_X11_restore := by
  obtain ⟨h1, h2, h3, h4, h5, h6, h7⟩ := id h
  obtain ⟨qn, hqn, eqn⟩ := h2.1.get
  by_cases hv : gI M 32 35 = gI M 32 14 ∧ gI M 32 42 = gI M 32 17 ∧ gI M 32 43 = gI M 32 22
  · rcases h7 with h7 | ⟨p1, p2, p3, p4, p5, p6⟩
    · exfalso
      have := hv.1
      rw [h7.1, eqn] at this
      have := congrArg Int32.toInt this
      rw [nI_int (by omega)] at this
      have e1 : (-1 : Int32).toInt = -1 := by decide
      omega
    · obtain ⟨y1, y2, y3⟩ := p6 hv.1
      obtain ⟨z1, z2, z3⟩ := y3 hv.2.1 hv.2.2
      have hn : ¬ gI M 32 7 = 0 := fun z => p5 (by rw [hv.1]; exact h2.2.2.2.2.1.mpr z)
      have b1 : gI M 18 1 = 0 ∨ gI M 18 1 = 1 := by rw [z1.2.2.2.2.1]; exact z1.2.2.2.1.b01
      have b2 : gI M 18 2 = 0 ∨ gI M 18 2 = 1 := by rw [z1.2.2.2.2.2.2.1]; exact z1.2.2.2.2.2.1.b01
      obtain ⟨M1, e1, g1⟩ := tf_e' b1 b2
      obtain ⟨Ma, ea, ga⟩ := copy_e (c0 := 48) (c1 := 38) (by decide) (by decide) M1
      obtain ⟨Mb, eb, gb⟩ := copy_e (c0 := 49) (c1 := 41) (by decide) (by decide) Ma
      obtain ⟨Mc, ec, gc⟩ := copy_e (c0 := 50) (c1 := 45) (by decide) (by decide) Mb
      obtain ⟨Md, ed, gd⟩ := copy_e (c0 := 51) (c1 := 47) (by decide) (by decide) Mc
      have l38 : ln 48 = 18 := rfl
      have l41 : ln 49 = 18 := rfl
      have l45 : ln 50 = 30 := rfl
      have l47 : ln 51 = 8 := rfl
      have kd : ∀ c k, ¬ (13 ≤ c ∧ c ≤ 16) → c ≠ 38 → c ≠ 41 → c ≠ 45 → c ≠ 47 → gI Md c k = gI M c k := fun c k q1 q2 q3 q4 q5 => by
        rw [gd, if_neg (by omega), gc, if_neg (by omega), gb, if_neg (by omega), ga, if_neg (by omega), g1, if_neg (by omega), if_neg (by omega), if_neg (by omega), if_neg (by omega)]
      have hM2 : ∃ M2, M2 = sI (sI (sI (sI (sI (sI Md 32 10 (gI M 32 36)) 32 11 (gI M 32 37)) 32 12 (gI M 32 38)) 32 13 (gI M 32 39)) 32 29 (gI M 32 40)) 32 32 (gI M 32 41) := ⟨_, rfl⟩
      obtain ⟨M2, eM2⟩ := hM2
      have gne : ∀ c k, c ≠ 32 → gI M2 c k = gI Md c k := fun c k q => by rw [eM2]; simp only [gI_sI, q, false_and, if_false]
      have g32 : ∀ k, ¬ ((10 ≤ k ∧ k ≤ 13) ∨ k = 29 ∨ k = 32) → gI M2 32 k = gI M 32 k := fun k q => by
        rw [eM2]
        simp only [gI_sI, true_and]
        rw [if_neg (by omega), if_neg (by omega), if_neg (by omega), if_neg (by omega), if_neg (by omega), if_neg (by omega), kd 32 k (by omega) (by omega) (by omega) (by omega) (by omega)]
      have k13 : ∀ k, k < 8 → gI M2 13 k = gI M 18 k := fun k q => by
        rw [gne _ _ (by omega), gd, if_neg (by omega), gc, if_neg (by omega), gb, if_neg (by omega), ga, if_neg (by omega), g1, if_pos ⟨rfl, q⟩]
      have k14 : ∀ k, k < 6 → gI M2 14 k = gI M 19 k := fun k q => by
        rw [gne _ _ (by omega), gd, if_neg (by omega), gc, if_neg (by omega), gb, if_neg (by omega), ga, if_neg (by omega), g1, if_neg (by omega), if_pos ⟨rfl, q⟩]
      have k15 : ∀ k, k < 6 → gI M2 15 k = gI M 20 k := fun k q => by
        rw [gne _ _ (by omega), gd, if_neg (by omega), gc, if_neg (by omega), gb, if_neg (by omega), ga, if_neg (by omega), g1, if_neg (by omega), if_neg (by omega), if_pos ⟨rfl, q⟩]
      have k16 : ∀ k, k < 8 → gI M2 16 k = gI M 21 k := fun k q => by
        rw [gne _ _ (by omega), gd, if_neg (by omega), gc, if_neg (by omega), gb, if_neg (by omega), ga, if_neg (by omega), g1, if_neg (by omega), if_neg (by omega), if_neg (by omega), if_pos ⟨rfl, q⟩]
      have k38 : ∀ k, k < 18 → gI M2 38 k = gI M 48 k := fun k q => by
        rw [gne _ _ (by omega), gd, if_neg (by omega), gc, if_neg (by omega), gb, if_neg (by omega), ga, if_pos ⟨rfl, by omega⟩, g1, if_neg (by omega), if_neg (by omega), if_neg (by omega), if_neg (by omega)]
      have k41 : ∀ k, k < 18 → gI M2 41 k = gI M 49 k := fun k q => by
        rw [gne _ _ (by omega), gd, if_neg (by omega), gc, if_neg (by omega), gb, if_pos ⟨rfl, by omega⟩, ga, if_neg (by omega), g1, if_neg (by omega), if_neg (by omega), if_neg (by omega), if_neg (by omega)]
      have k45 : ∀ k, k < 30 → gI M2 45 k = gI M 50 k := fun k q => by
        rw [gne _ _ (by omega), gd, if_neg (by omega), gc, if_pos ⟨rfl, by omega⟩, gb, if_neg (by omega), ga, if_neg (by omega), g1, if_neg (by omega), if_neg (by omega), if_neg (by omega), if_neg (by omega)]
      have k47 : ∀ k, k < 8 → gI M2 47 k = gI M 51 k := fun k q => by
        rw [gne _ _ (by omega), gd, if_pos ⟨rfl, by omega⟩, gc, if_neg (by omega), gb, if_neg (by omega), ga, if_neg (by omega), g1, if_neg (by omega), if_neg (by omega), if_neg (by omega), if_neg (by omega)]
      have f10 : gI M2 32 10 = gI M 32 36 := by rw [eM2]; simp only [gI_sI, gJ_sI, gI_sJ, gJ_sJ, bl_e, bd_s, jn_e, Nat.reduceEqDiff, Nat.zero_ne_one, Nat.one_ne_zero, false_and, and_false, and_true, true_and, and_self, if_true, if_false, reduceIte]
      have f11 : gI M2 32 11 = gI M 32 37 := by rw [eM2]; simp only [gI_sI, gJ_sI, gI_sJ, gJ_sJ, bl_e, bd_s, jn_e, Nat.reduceEqDiff, Nat.zero_ne_one, Nat.one_ne_zero, false_and, and_false, and_true, true_and, and_self, if_true, if_false, reduceIte]
      have f12 : gI M2 32 12 = gI M 32 38 := by rw [eM2]; simp only [gI_sI, gJ_sI, gI_sJ, gJ_sJ, bl_e, bd_s, jn_e, Nat.reduceEqDiff, Nat.zero_ne_one, Nat.one_ne_zero, false_and, and_false, and_true, true_and, and_self, if_true, if_false, reduceIte]
      have f13 : gI M2 32 13 = gI M 32 39 := by rw [eM2]; simp only [gI_sI, gJ_sI, gI_sJ, gJ_sJ, bl_e, bd_s, jn_e, Nat.reduceEqDiff, Nat.zero_ne_one, Nat.one_ne_zero, false_and, and_false, and_true, true_and, and_self, if_true, if_false, reduceIte]
      have f29 : gI M2 32 29 = gI M 32 40 := by rw [eM2]; simp only [gI_sI, gJ_sI, gI_sJ, gJ_sJ, bl_e, bd_s, jn_e, Nat.reduceEqDiff, Nat.zero_ne_one, Nat.one_ne_zero, false_and, and_false, and_true, true_and, and_self, if_true, if_false, reduceIte]
      have f32 : gI M2 32 32 = gI M 32 41 := by rw [eM2]; simp only [gI_sI, gJ_sI, gI_sJ, gJ_sJ, bl_e, bd_s, jn_e, Nat.reduceEqDiff, Nat.zero_ne_one, Nat.one_ne_zero, false_and, and_false, and_true, true_and, and_self, if_true, if_false, reduceIte]
      have go : ∀ c k, c ≠ 32 → ¬ (13 ≤ c ∧ c ≤ 16) → c ≠ 38 → c ≠ 41 → c ≠ 45 → c ≠ 47 → gI M2 c k = gI M c k := fun c k q0 q1 q2 q3 q4 q5 => by rw [gne c k q0, kd c k q1 q2 q3 q4 q5]
      have n1 := h3.n.1
      have m1 := h4.n.1
      have en : nR M2 = nR M := by unfold nR; rw [g32 _ (by omega)]
      have em : nM M2 = nM M := by unfold nM; rw [g32 _ (by omega)]
      have r38 : ∀ r, r < nR M → gI M2 38 (3 * r) = gI M 38 (3 * r) ∧ gI M2 38 (3 * r + 1) = gI M 38 (3 * r + 1) := fun r hr => by
        rw [k38 _ (by omega), k38 _ (by omega)]; exact z2 r hr
      have r41 : ∀ m, m < nM M → gI M2 41 (3 * m) = gI M 41 (3 * m) ∧ gI M2 41 (3 * m + 1) = gI M 41 (3 * m + 1) := fun m hm => by
        rw [k41 _ (by omega), k41 _ (by omega)]; exact z3 m hm
      refine ⟨gI M 32 36, M1, M2, ?_, ?_, ⟨?_, ?_, ?_, ?_, ?_, ?_, ?_⟩, ?_⟩
      · unfold sp_X10_restore
        rw [hasN_1 h2 hi hn, bd_s, if_neg i10, p1, h2.2.1, if_pos hv.1, p2, h3.2.1, if_pos hv.2.1, p3, h4.2.1, if_pos hv.2.2, e1, bd_s, g1, if_pos ⟨rfl, by omega⟩, z1.2.2.1]
      · unfold sp_X11_restore
        have q1 : ∀ k, gI M1 32 k = gI M 32 k := fun k => by rw [g1, if_neg (by omega), if_neg (by omega), if_neg (by omega), if_neg (by omega)]
        rw [q1, q1, q1, q1, q1, q1, if_pos hv.1, if_pos hv.2.1, if_pos hv.2.2, ea, bd_s, eb, bd_s, ec, bd_s, ed, bd_s]
        have q : ∀ k, gI Md 32 k = gI M 32 k := fun k => kd 32 k (by omega) (by omega) (by omega) (by omega) (by omega)
        simp only [gI_sI, gJ_sI, gI_sJ, gJ_sJ, bl_e, bd_s, jn_e, Nat.reduceEqDiff, Nat.zero_ne_one, Nat.one_ne_zero, false_and, and_false, and_true, true_and, and_self, if_true, if_false, reduceIte, q]
        rw [eM2]
      · exact h1.tr (g32 _ (by omega)) (go _ _ (by omega) (by omega) (by omega) (by omega) (by omega) (by omega)) (fun k => go _ _ (by omega) (by omega) (by omega) (by omega) (by omega) (by omega)) (fun k => go _ _ (by omega) (by omega) (by omega) (by omega) (by omega) (by omega))
      · exact (h2.ag (M' := M2) (fun c k hf => by
          unfold F_nt at hf
          by_cases q : c = 32
          · subst q; exact g32 k (by omega)
          · exact go c k q (by omega) (by omega) (by omega) (by omega) (by omega)) |> fun z => ⟨z.1.up (Nat.le_succ _), z.2⟩)
      · exact h3.tr (g32 _ (by omega)) (fun k => go _ _ (by omega) (by omega) (by omega) (by omega) (by omega) (by omega)) (fun k => go _ _ (by omega) (by omega) (by omega) (by omega) (by omega) (by omega)) (fun k => go _ _ (by omega) (by omega) (by omega) (by omega) (by omega) (by omega)) r38
      · exact h4.tr (g32 _ (by omega)) (fun k => go _ _ (by omega) (by omega) (by omega) (by omega) (by omega) (by omega)) (fun k => go _ _ (by omega) (by omega) (by omega) (by omega) (by omega) (by omega)) (fun k => go _ _ (by omega) (by omega) (by omega) (by omega) (by omega) (by omega)) (fun k => go _ _ (by omega) (by omega) (by omega) (by omega) (by omega) (by omega)) (fun k => go _ _ (by omega) (by omega) (by omega) (by omega) (by omega) (by omega)) r41
      · exact h5.tr (g32 _ (by omega)) (go _ _ (by omega) (by omega) (by omega) (by omega) (by omega) (by omega))
      · exact I_co.mv z1 n1 m1 (g32 _ (by omega)) (g32 _ (by omega)) (g32 _ (by omega)) f10 f11 f12 f13 f29 f32 k13 k14 k15 k16 k38 k41 k45 k47
      · have hkp : I_kp M := Or.inr ⟨p1, p2, p3, p4, p5, p6⟩
        exact hkp.tr (fun k hk => g32 k (by omega)) (fun c hc k => go c k (by omega) (by omega) (by omega) (by omega) (by omega) (by omega)) r38 r41
      · intro w; rw [g32 _ (by omega)] at w; exact absurd w hn
  · refine Bo_same h hz (-103) ?_ ?_
    · unfold sp_X10_restore
      by_cases hn : gI M 32 7 = 0
      · rw [hasN_0 h2 hi hn, bd_s, if_pos rfl]
      · rw [hasN_1 h2 hi hn, bd_s, if_neg i10, h2.2.1, h3.2.1, h4.2.1]
        rcases h7 with h7 | ⟨p1, p2, p3, p4, p5, p6⟩
        · rw [h7.2, if_neg (fun z => hn (h2.2.2.2.2.1.mp z.symm))]
        · rw [p1, p2, p3]
          by_cases c1 : gI M 32 35 = gI M 32 14
          · rw [if_pos c1]
            by_cases c2 : gI M 32 42 = gI M 32 17
            · rw [if_pos c2, if_neg (fun c3 => hv ⟨c1, c2, c3⟩)]
            · rw [if_neg c2]
          · rw [if_neg c1]
    · unfold sp_X11_restore
      by_cases c1 : gI M 32 35 = gI M 32 14
      · rw [if_pos c1]
        by_cases c2 : gI M 32 42 = gI M 32 17
        · rw [if_pos c2, if_neg (fun c3 => hv ⟨c1, c2, c3⟩)]
        · rw [if_neg c2]
      · rw [if_neg c1]
