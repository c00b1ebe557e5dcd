/-! THE CALLS image, restore -/
theorem I_co.mv {M M' : Mm} {cc oc sc wc fm fl fb fh fs fw rr mr sr wr cc' oc' sc' wc' fm' fl' fb' fh' fs' fw' rr' mr' sr' wr' : Nat} (h : I_co M cc oc sc wc fm fl fb fh fs fw rr mr sr wr) (hn : nR M ≤ 6) (hm : nM M ≤ 6) (e1 : gI M' 32 7 = gI M 32 7) (e2 : gI M' 32 17 = gI M 32 17) (e3 : gI M' 32 22 = gI M 32 22)
    (a1 : gI M' 32 fm' = gI M 32 fm) (a2 : gI M' 32 fl' = gI M 32 fl) (a3 : gI M' 32 fb' = gI M 32 fb) (a4 : gI M' 32 fh' = gI M 32 fh) (a5 : gI M' 32 fs' = gI M 32 fs) (a6 : gI M' 32 fw' = gI M 32 fw) (b : ∀ k, k < 8 → gI M' cc' k = gI M cc k) (c : ∀ k, k < 6 → gI M' oc' k = gI M oc k) (d : ∀ k, k < 6 → gI M' sc' k = gI M sc k) (e : ∀ k, k < 8 → gI M' wc' k = gI M wc k) (f : ∀ k, k < 18 → gI M' rr' k = gI M rr k) (g : ∀ k, k < 18 → gI M' mr' k = gI M mr k) (i : ∀ k, k < 30 → gI M' sr' k = gI M sr k) (j : ∀ k, k < 8 → gI M' wr' k = gI M wr k) : I_co M' cc' oc' sc' wc' fm' fl' fb' fh' fs' fw' rr' mr' sr' wr' := by
  have e1 : sT M' = sT M := by unfold sT; rw [e1]
  have e2 : nR M' = nR M := by unfold nR; rw [e2]
  have e3 : nM M' = nM M := by unfold nM; rw [e3]
  unfold I_co at *
  rw [a1, a2, a3, a4, a5, a6, e1, e2, e3, b 0 (by omega), b 1 (by omega), b 2 (by omega), b 3 (by omega), b 4 (by omega), b 5 (by omega), b 6 (by omega), b 7 (by omega)]
  obtain ⟨h1, h2, h3, h4, h5, h6, h7, h8, h9, h10, h11, h12, h13, h14, h15, h16, h17, h18, h19, h20, h21⟩ := h
  have n15 := h14.2
  have n8 := h19.2
  refine ⟨h1, h2, h3, h4, h5, h6, h7, h8, h9, h10, fun r hr => by rw [f _ (by omega)]; exact h11 r hr, h12, fun m hm => by rw [g _ (by omega), c _ (by omega)]; exact h13 m hm, h14, h15, fun k hk => ?_, fun b hb => ?_, fun b p q => by rw [d _ q]; exact h18 b p q, h19, h20, fun k hk => by rw [e _ (by omega), j _ (by omega)]; exact h21 k hk⟩
  · obtain ⟨x, y, z⟩ := h16 k hk
    exact ⟨x, y, by rw [i _ (by omega), i _ (by omega)]; exact z⟩
  · rw [d _ (by omega)]
    refine ⟨(h17 b hb).1, fun a ha => ((h17 b hb).2 a ha).trans ?_⟩
    constructor
    · rintro ⟨k, z⟩; exact ⟨k, z.1, by have := z.1; rw [i _ (by omega), i _ (by omega)]; exact z.2⟩
    · rintro ⟨k, z⟩; exact ⟨k, z.1, by have := z.1; have z2 := z.2; rw [i _ (by omega), i _ (by omega)] at z2; exact z2⟩
theorem copyL {c0 c1 : Nat} (hne : c0 ≠ c1) (hl : ln c0 ≤ ln c1) : ∀ f k M, k ≤ ln c0 → ln c0 < k + f → ∃ M', sp_X11_copy_L2 c0 c1 f (nI k) M = some ((), M') ∧ ∀ c j, gI M' c j = if c = c1 ∧ k ≤ j ∧ j < ln c0 then gI M c0 j else gI M c j := by
  have h64 := ln_le c0
  intro f
  induction f with
  | zero => intro k M h1 h2; omega
  | succ f ih =>
    intro k M h1 h2
    rw [sp_X11_copy_L2]
    by_cases hk : k < ln c0
    · rw [if_pos ((nI_ltI (by omega) (by omega)).mpr hk), rdI_n hk, wrI_n (by omega), nI_p]
      obtain ⟨M', e1, e2⟩ := ih (k + 1) (sI M c1 k (gI M c0 k)) (by omega) (by omega)
      refine ⟨M', e1, fun c j => ?_⟩
      rw [e2]
      by_cases z : c = c1 ∧ k ≤ j ∧ j < ln c0
      · rw [if_pos z]
        by_cases y : j = k
        · subst y
          rw [if_neg (by omega), z.1, gI_s]
        · rw [if_pos (by omega), gI_o (by omega)]
      · rw [if_neg z, if_neg (by omega), gI_o (by omega)]
    · rw [if_neg (fun q => hk ((nI_ltI (by omega) (by omega)).mp q))]
      refine ⟨M, rfl, fun c j => ?_⟩
      rw [if_neg (by omega)]
theorem copy_e {c0 c1 : Nat} (hne : c0 ≠ c1) (hl : ln c0 ≤ ln c1) (M : Mm) : ∃ M', sp_X11_copy c0 c1 M = some ((), M') ∧ ∀ c j, gI M' c j = if c = c1 ∧ j < ln c0 then gI M c0 j else gI M c j := by
  obtain ⟨M', e1, e2⟩ := copyL hne hl fu 0 M (Nat.zero_le _) (by have := ln_le c0; unfold fu; omega)
  refine ⟨M', e1, fun c j => ?_⟩
  rw [e2]
  by_cases z : c = c1 ∧ j < ln c0
  · rw [if_pos z, if_pos ⟨z.1, Nat.zero_le _, z.2⟩]
  · rw [if_neg z, if_neg (fun y => z ⟨y.1, y.2.2⟩)]
theorem tfA : ∀ f k M, k ≤ 8 → 8 < k + f → ∃ M', sp_X1_takeFrom_18_13_L112 f (nI k) M = some ((), M') ∧ ∀ c j, gI M' c j = if c = 21 ∧ k ≤ j ∧ j < 8 then gI M 16 j else gI M c j := by
  intro f
  induction f with
  | zero => intro k M h1 h2; omega
  | succ f ih =>
    intro k M h1 h2
    rw [sp_X1_takeFrom_18_13_L112]
    by_cases hk : k < 8
    · rw [if_pos (c_lt 8 8 rfl hk (by decide)), at_n (show k < 8 from hk), bd_s, put_n (show k < 8 from hk), bd_s, nI_p]
      obtain ⟨M', e1, e2⟩ := ih (k + 1) (sI M 21 k (gI M 16 k)) (by omega) (by omega)
      refine ⟨M', e1, fun c j => ?_⟩
      rw [e2]
      by_cases z : c = 21 ∧ k ≤ j ∧ j < 8
      · rw [if_pos z]
        by_cases y : j = k
        · subst y
          rw [if_neg (by omega), z.1, gI_s]
        · rw [if_pos (by omega), gI_o (by omega)]
      · rw [if_neg z, if_neg (by omega), gI_o (by omega)]
    · rw [if_neg (c_nlt 8 8 rfl (by omega) (by omega))]
      refine ⟨M, rfl, fun c j => ?_⟩
      rw [if_neg (by omega)]
theorem tfB (K : Mm → Option (Unit × Mm)) : ∀ f k M, k ≤ 6 → 6 < k + f → ∃ M', sp_X1_takeFrom_18_13_L66 K f (nI k) M = K M' ∧ ∀ c j, gI M' c j = if c = 19 ∧ k ≤ j ∧ j < 6 then gI M 14 j else if c = 20 ∧ k ≤ j ∧ j < 6 then gI M 15 j else gI M c j := by
  intro f
  induction f with
  | zero => intro k M h1 h2; omega
  | succ f ih =>
    intro k M h1 h2
    rw [sp_X1_takeFrom_18_13_L66]
    by_cases hk : k < 6
    · rw [if_pos (c_lt 6 6 rfl hk (by decide)), at_n (show k < 6 from hk), bd_s, put_n (show k < 6 from hk), bd_s, at_n (show k < 6 from hk), bd_s, put_n (show k < 6 from hk), bd_s, nI_p, gI_o (by omega)]
      obtain ⟨M', e1, e2⟩ := ih (k + 1) (sI (sI M 19 k (gI M 14 k)) 20 k (gI M 15 k)) (by omega) (by omega)
      refine ⟨M', e1, fun c j => ?_⟩
      rw [e2]
      by_cases y : j = k
      · subst y
        rw [if_neg (by omega), if_neg (by omega)]
        by_cases z : c = 19
        · subst z; rw [if_pos ⟨rfl, by omega, by omega⟩, gI_o (by omega), gI_s]
        · rw [if_neg (by omega)]
          by_cases z2 : c = 20
          · subst z2; rw [if_pos ⟨rfl, by omega, by omega⟩, gI_s]
          · rw [if_neg (by omega), gI_o (by omega), gI_o (by omega)]
      · rw [gI_o (by omega), gI_o (by omega), gI_o (by omega), gI_o (by omega), gI_o (by omega), gI_o (by omega)]
        by_cases z : c = 19 ∧ k ≤ j ∧ j < 6
        · rw [if_pos z, if_pos (by omega)]
        · rw [if_neg z, if_neg (by omega)]
          by_cases z2 : c = 20 ∧ k ≤ j ∧ j < 6
          · rw [if_pos z2, if_pos (by omega)]
          · rw [if_neg z2, if_neg (by omega)]
    · rw [if_neg (c_nlt 6 6 rfl (by omega) (by omega))]
      refine ⟨M, rfl, fun c j => ?_⟩
      rw [if_neg (by omega), if_neg (by omega)]
theorem tf_e {M : Mm} (b1 : gI M 13 1 = 0 ∨ gI M 13 1 = 1) (b2 : gI M 13 2 = 0 ∨ gI M 13 2 = 1) : ∃ M', sp_X1_takeFrom_18_13 M = some ((), M') ∧ ∀ c j, gI M' c j = if c = 18 ∧ j < 8 then gI M 13 j else if c = 19 ∧ j < 6 then gI M 14 j else if c = 20 ∧ j < 6 then gI M 15 j else if c = 21 ∧ j < 8 then gI M 16 j else gI M c j := by
  unfold sp_X1_takeFrom_18_13
  simp only [bl_e, jn_e, gI_sI, Nat.reduceEqDiff, false_and, if_false]
  unfold zb
  rw [if_pos b1, if_pos b2]
  generalize eM1 : sI (sI (sI (sI (sI (sI (sI (sI M 18 0 (gI M 13 0)) 18 1 (gI M 13 1)) 18 2 (gI M 13 2)) 18 3 (gI M 13 3)) 18 4 (gI M 13 4)) 18 5 (gI M 13 5)) 18 6 (gI M 13 6)) 18 7 (gI M 13 7) = M1
  have g1 : ∀ c j, gI M1 c j = if c = 18 ∧ j < 8 then gI M 13 j else gI M c j := by
    intro c j
    rw [← eM1]
    simp only [gI_sI]
    by_cases z : c = 18
    · subst z
      by_cases y : j < 8
      · rcases (by omega : j = 0 ∨ j = 1 ∨ j = 2 ∨ j = 3 ∨ j = 4 ∨ j = 5 ∨ j = 6 ∨ j = 7) with rfl | rfl | rfl | rfl | rfl | rfl | rfl | rfl <;> rfl
      · rw [if_neg (by omega), if_neg (by omega), if_neg (by omega), if_neg (by omega), if_neg (by omega), if_neg (by omega), if_neg (by omega), if_neg (by omega), if_neg (by omega)]
    · rw [if_neg (by omega), if_neg (by omega), if_neg (by omega), if_neg (by omega), if_neg (by omega), if_neg (by omega), if_neg (by omega), if_neg (by omega), if_neg (by omega)]
  obtain ⟨M2, e1, e2⟩ := tfB (fun M_110 => sp_X1_takeFrom_18_13_L112 fu 0 M_110) fu 0 M1 (by omega) (by unfold fu; omega)
  obtain ⟨M3, e3, e4⟩ := tfA fu 0 M2 (by omega) (by unfold fu; omega)
  refine ⟨M3, e1.trans e3, fun c j => ?_⟩
  rw [e4, e2, e2]
  simp only [g1, Nat.reduceEqDiff, false_and, if_false, Nat.zero_le, true_and]
  by_cases z1 : c = 21 ∧ j < 8
  · rw [if_pos z1, if_neg (by omega), if_neg (by omega), if_neg (by omega), if_pos z1]
  · rw [if_neg z1]
    by_cases z2 : c = 19 ∧ j < 6
    · rw [if_pos z2, if_neg (by omega), if_pos z2]
    · rw [if_neg z2]
      by_cases z3 : c = 20 ∧ j < 6
      · rw [if_pos z3, if_neg (by omega), if_neg (by omega), if_pos z3]
      · rw [if_neg z3]
        by_cases z4 : c = 18 ∧ j < 8
        · rw [if_pos z4, if_pos z4]
        · rw [if_neg z4, if_neg z4, if_neg z2, if_neg z3, if_neg z1]
theorem Bo_image {i : Nat} {M : Mm} (h : Inv i M) (hz : I_z M) (hi : i < 1000) : Bo i M sp_X10_image sp_X11_image := by
  obtain ⟨h1, h2, h3, h4, h5, h6, h7⟩ := id h
  by_cases hn : gI M 32 7 = 0
  · refine Bo_same h hz (-103) ?_ ?_
    · unfold sp_X10_image; rw [hasN_0 h2 hi hn, bd_s, if_pos rfl]
    · unfold sp_X11_image; rw [lacks_1 hn, bd_s, if_neg i10]
  · have b1 : gI M 13 1 = 0 ∨ gI M 13 1 = 1 := by rw [h6.2.2.2.2.1]; exact h6.2.2.2.1.b01
    have b2 : gI M 13 2 = 0 ∨ gI M 13 2 = 1 := by rw [h6.2.2.2.2.2.2.1]; exact h6.2.2.2.2.2.1.b01
    obtain ⟨M1, e1, g1⟩ := tf_e b1 b2
    obtain ⟨Ma, ea, ga⟩ := copy_e (c0 := 38) (c1 := 48) (by decide) (by decide) (sI (sI (sI M1 17 1 (gI M1 0 10)) 17 2 (gI M1 6 0)) 17 3 (gI M1 9 0))
    obtain ⟨Mb, eb, gb⟩ := copy_e (c0 := 41) (c1 := 49) (by decide) (by decide) Ma
    obtain ⟨Mc, ec, gc⟩ := copy_e (c0 := 45) (c1 := 50) (by decide) (by decide) Mb
    obtain ⟨Md, ed, gd⟩ := copy_e (c0 := 47) (c1 := 51) (by decide) (by decide) Mc
    have l38 : ln 38 = 18 := rfl
    have l41 : ln 41 = 18 := rfl
    have l45 : ln 45 = 30 := rfl
    have l47 : ln 47 = 8 := rfl
    have kd : ∀ c k, c ≠ 17 → ¬ (18 ≤ c ∧ c ≤ 21) → ¬ (48 ≤ c ∧ c ≤ 51) → gI Md c k = gI M c k := fun c k q1 q2 q3 => by
      rw [gd, if_neg (by omega), gc, if_neg (by omega), gb, if_neg (by omega), ga, if_neg (by omega), gI_o (by omega), gI_o (by omega), gI_o (by omega), g1, if_neg (by omega), if_neg (by omega), if_neg (by omega), if_neg (by omega)]
    have hM2 : ∃ M2, M2 = sI (sI (sI (sI (sI (sI (sI (sI (sI Md 32 36 (gI M 32 10)) 32 37 (gI M 32 11)) 32 38 (gI M 32 12)) 32 39 (gI M 32 13)) 32 40 (gI M 32 29)) 32 41 (gI M 32 32)) 32 42 (gI M 32 17)) 32 43 (gI M 32 22)) 32 35 (gI M 32 14) := ⟨_, rfl⟩
    obtain ⟨M2, eM2⟩ := hM2
    have gne : ∀ c k, c ≠ 32 → gI M2 c k = gI Md c k := fun c k q => by rw [eM2]; simp only [gI_sI, q, false_and, if_false]
    have g32 : ∀ k, (k < 35 ∨ 43 < k) → gI M2 32 k = gI M 32 k := fun k q => by
      rw [eM2]
      simp only [gI_sI, true_and]
      rw [if_neg (by omega), if_neg (by omega), if_neg (by omega), if_neg (by omega), if_neg (by omega), if_neg (by omega), if_neg (by omega), if_neg (by omega), if_neg (by omega), kd 32 k (by omega) (by omega) (by omega)]
    have ag : ∀ c k, ¬ ((c = 32 ∧ 35 ≤ k ∧ k ≤ 43) ∨ (17 ≤ c ∧ c ≤ 21) ∨ (48 ≤ c ∧ c ≤ 51)) → gI M2 c k = gI M c k := fun c k hx => by
      by_cases q : c = 32
      · subst q; exact g32 k (by omega)
      · rw [gne c k q, kd c k (by omega) (by omega) (by omega)]
    have k18 : ∀ k, k < 8 → gI M2 18 k = gI M 13 k := fun k q => by
      rw [gne _ _ (by omega), gd, if_neg (by omega), gc, if_neg (by omega), gb, if_neg (by omega), ga, if_neg (by omega), gI_o (by omega), gI_o (by omega), gI_o (by omega), g1, if_pos ⟨rfl, q⟩]
    have k19 : ∀ k, k < 6 → gI M2 19 k = gI M 14 k := fun k q => by
      rw [gne _ _ (by omega), gd, if_neg (by omega), gc, if_neg (by omega), gb, if_neg (by omega), ga, if_neg (by omega), gI_o (by omega), gI_o (by omega), gI_o (by omega), g1, if_neg (by omega), if_pos ⟨rfl, q⟩]
    have k20 : ∀ k, k < 6 → gI M2 20 k = gI M 15 k := fun k q => by
      rw [gne _ _ (by omega), gd, if_neg (by omega), gc, if_neg (by omega), gb, if_neg (by omega), ga, if_neg (by omega), gI_o (by omega), gI_o (by omega), gI_o (by omega), g1, if_neg (by omega), if_neg (by omega), if_pos ⟨rfl, q⟩]
    have k21 : ∀ k, k < 8 → gI M2 21 k = gI M 16 k := fun k q => by
      rw [gne _ _ (by omega), gd, if_neg (by omega), gc, if_neg (by omega), gb, if_neg (by omega), ga, if_neg (by omega), gI_o (by omega), gI_o (by omega), gI_o (by omega), g1, if_neg (by omega), if_neg (by omega), if_neg (by omega), if_pos ⟨rfl, q⟩]
    have k48 : ∀ k, k < 18 → gI M2 48 k = gI M 38 k := fun k q => by
      rw [gne _ _ (by omega), gd, if_neg (by omega), gc, if_neg (by omega), gb, if_neg (by omega), ga, if_pos ⟨rfl, by omega⟩, gI_o (by omega), gI_o (by omega), gI_o (by omega), g1, if_neg (by omega), if_neg (by omega), if_neg (by omega), if_neg (by omega)]
    have k49 : ∀ k, k < 18 → gI M2 49 k = gI M 41 k := fun k q => by
      rw [gne _ _ (by omega), gd, if_neg (by omega), gc, if_neg (by omega), gb, if_pos ⟨rfl, by omega⟩, ga, if_neg (by omega), gI_o (by omega), gI_o (by omega), gI_o (by omega), g1, if_neg (by omega), if_neg (by omega), if_neg (by omega), if_neg (by omega)]
    have k50 : ∀ k, k < 30 → gI M2 50 k = gI M 45 k := fun k q => by
      rw [gne _ _ (by omega), gd, if_neg (by omega), gc, if_pos ⟨rfl, by omega⟩, gb, if_neg (by omega), ga, if_neg (by omega), gI_o (by omega), gI_o (by omega), gI_o (by omega), g1, if_neg (by omega), if_neg (by omega), if_neg (by omega), if_neg (by omega)]
    have k51 : ∀ k, k < 8 → gI M2 51 k = gI M 47 k := fun k q => by
      rw [gne _ _ (by omega), gd, if_pos ⟨rfl, by omega⟩, gc, if_neg (by omega), gb, if_neg (by omega), ga, if_neg (by omega), gI_o (by omega), gI_o (by omega), gI_o (by omega), g1, if_neg (by omega), if_neg (by omega), if_neg (by omega), if_neg (by omega)]
    have k17 : gI M2 17 1 = gI M 0 10 ∧ gI M2 17 2 = gI M 6 0 ∧ gI M2 17 3 = gI M 9 0 := by
      have q : ∀ k, gI M2 17 k = gI (sI (sI (sI M1 17 1 (gI M1 0 10)) 17 2 (gI M1 6 0)) 17 3 (gI M1 9 0)) 17 k := fun k => by
        rw [gne _ _ (by omega), gd, if_neg (by omega), gc, if_neg (by omega), gb, if_neg (by omega), ga, if_neg (by omega)]
      have q2 : ∀ c k, c < 18 → gI M1 c k = gI M c k := fun c k hc => by rw [g1, if_neg (by omega), if_neg (by omega), if_neg (by omega), if_neg (by omega)]
      rw [q, q, q]
      simp only [gI_sI, gJ_sI, gI_sJ, gJ_sJ, bl_e, bd_s, jn_e, Nat.reduceEqDiff, Nat.zero_ne_one, Nat.one_ne_zero, false_and, and_false, and_true, true_and, and_self, if_true, if_false, reduceIte]
      exact ⟨q2 _ _ (by omega), q2 _ _ (by omega), q2 _ _ (by omega)⟩
    have f35 : gI M2 32 35 = gI M 32 14 := by rw [eM2]; simp only [gI_sI, gJ_sI, gI_sJ, gJ_sJ, bl_e, bd_s, jn_e, Nat.reduceEqDiff, Nat.zero_ne_one, Nat.one_ne_zero, false_and, and_false, and_true, true_and, and_self, if_true, if_false, reduceIte]
    have f36 : gI M2 32 36 = gI M 32 10 := by rw [eM2]; simp only [gI_sI, gJ_sI, gI_sJ, gJ_sJ, bl_e, bd_s, jn_e, Nat.reduceEqDiff, Nat.zero_ne_one, Nat.one_ne_zero, false_and, and_false, and_true, true_and, and_self, if_true, if_false, reduceIte]
    have f37 : gI M2 32 37 = gI M 32 11 := by rw [eM2]; simp only [gI_sI, gJ_sI, gI_sJ, gJ_sJ, bl_e, bd_s, jn_e, Nat.reduceEqDiff, Nat.zero_ne_one, Nat.one_ne_zero, false_and, and_false, and_true, true_and, and_self, if_true, if_false, reduceIte]
    have f38 : gI M2 32 38 = gI M 32 12 := by rw [eM2]; simp only [gI_sI, gJ_sI, gI_sJ, gJ_sJ, bl_e, bd_s, jn_e, Nat.reduceEqDiff, Nat.zero_ne_one, Nat.one_ne_zero, false_and, and_false, and_true, true_and, and_self, if_true, if_false, reduceIte]
    have f39 : gI M2 32 39 = gI M 32 13 := by rw [eM2]; simp only [gI_sI, gJ_sI, gI_sJ, gJ_sJ, bl_e, bd_s, jn_e, Nat.reduceEqDiff, Nat.zero_ne_one, Nat.one_ne_zero, false_and, and_false, and_true, true_and, and_self, if_true, if_false, reduceIte]
    have f40 : gI M2 32 40 = gI M 32 29 := by rw [eM2]; simp only [gI_sI, gJ_sI, gI_sJ, gJ_sJ, bl_e, bd_s, jn_e, Nat.reduceEqDiff, Nat.zero_ne_one, Nat.one_ne_zero, false_and, and_false, and_true, true_and, and_self, if_true, if_false, reduceIte]
    have f41 : gI M2 32 41 = gI M 32 32 := by rw [eM2]; simp only [gI_sI, gJ_sI, gI_sJ, gJ_sJ, bl_e, bd_s, jn_e, Nat.reduceEqDiff, Nat.zero_ne_one, Nat.one_ne_zero, false_and, and_false, and_true, true_and, and_self, if_true, if_false, reduceIte]
    have f42 : gI M2 32 42 = gI M 32 17 := by rw [eM2]; simp only [gI_sI, gJ_sI, gI_sJ, gJ_sJ, bl_e, bd_s, jn_e, Nat.reduceEqDiff, Nat.zero_ne_one, Nat.one_ne_zero, false_and, and_false, and_true, true_and, and_self, if_true, if_false, reduceIte]
    have f43 : gI M2 32 43 = gI M 32 22 := by rw [eM2]; simp only [gI_sI, gJ_sI, gI_sJ, gJ_sJ, bl_e, bd_s, jn_e, Nat.reduceEqDiff, Nat.zero_ne_one, Nat.one_ne_zero, false_and, and_false, and_true, true_and, and_self, if_true, if_false, reduceIte]
    have hkp : I_kp M2 := by
      right
      have en : nR M2 = nR M := by unfold nR; rw [g32 _ (by omega)]
      have em : nM M2 = nM M := by unfold nM; rw [g32 _ (by omega)]
      have n1 := h3.n.1
      have m1 := h4.n.1
      rw [k17.1, k17.2.1, k17.2.2, f35, f42, f43, g32 14 (by omega), g32 17 (by omega), g32 22 (by omega), en, em]
      refine ⟨h2.2.1, h3.2.1, h4.2.1, ⟨h2.1.1, Nat.le_refl _⟩, fun z => hn (h2.2.2.2.2.1.mp z), fun _ => ⟨⟨h3.1.1, Nat.le_refl _⟩, ⟨h4.1.1, Nat.le_refl _⟩, fun _ _ => ⟨I_co.mv h6 n1 m1 (g32 _ (by omega)) (g32 _ (by omega)) (g32 _ (by omega)) f36 f37 f38 f39 f40 f41 k18 k19 k20 k21 k48 k49 k50 k51, fun r hr => ?_, fun m hm => ?_⟩⟩⟩
      · rw [en] at hr
        rw [k48 _ (by omega), k48 _ (by omega), ag 38 _ (by omega), ag 38 _ (by omega)]; exact ⟨rfl, rfl⟩
      · rw [em] at hm
        rw [k49 _ (by omega), k49 _ (by omega), ag 41 _ (by omega), ag 41 _ (by omega)]; exact ⟨rfl, rfl⟩
    refine ⟨gI M 32 10, sI (sI (sI M1 17 1 (gI M1 0 10)) 17 2 (gI M1 6 0)) 17 3 (gI M1 9 0), M2, ?_, ?_, h.set _ ag (Or.inl ?_) (Or.inl ?_) (Or.inl ?_) (Or.inl ?_) (Or.inl ?_) (Or.inl ?_) (Or.inr hkp), hz.set _ ag ?_⟩
    · unfold sp_X10_image
      rw [hasN_1 h2 hi hn, bd_s, if_neg i10, e1, bd_s]
      simp only [gI_sI, gJ_sI, gI_sJ, gJ_sJ, bl_e, bd_s, jn_e, Nat.reduceEqDiff, Nat.zero_ne_one, Nat.one_ne_zero, false_and, and_false, and_true, true_and, and_self, if_true, if_false, reduceIte]
      rw [g1 13 0, if_neg (by omega), if_neg (by omega), if_neg (by omega), if_neg (by omega), h6.2.2.1]
    · unfold sp_X11_image
      have hl : ¬ gI (sI (sI (sI M1 17 1 (gI M1 0 10)) 17 2 (gI M1 6 0)) 17 3 (gI M1 9 0)) 32 7 = 0 := by
        rw [gI_o (by omega), gI_o (by omega), gI_o (by omega), g1, if_neg (by omega), if_neg (by omega), if_neg (by omega), if_neg (by omega)]; exact hn
      rw [lacks_0 hl, bd_s, if_pos rfl, ea, bd_s, eb, bd_s, ec, bd_s, ed, bd_s]
      have q : ∀ k, gI Md 32 k = gI M 32 k := fun k => kd 32 k (by omega) (by omega) (by omega)
      simp only [gI_sI, gJ_sI, gI_sJ, gJ_sJ, bl_e, bd_s, jn_e, Nat.reduceEqDiff, Nat.zero_ne_one, Nat.one_ne_zero, false_and, and_false, and_true, true_and, and_self, if_true, if_false, reduceIte, q]
      rw [eM2]
    all_goals (intro c k hx; first | (unfold F_pg; omega) | (unfold F_nt; omega) | (unfold F_rk; omega) | (unfold F_mn; omega) | (unfold F_dn; omega) | (unfold F_cu; omega) | (unfold F_kp; omega) | (unfold F_z; omega))
