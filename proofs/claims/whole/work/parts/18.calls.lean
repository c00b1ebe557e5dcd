/-! THE CALLS come, breaks, count, fire, said -/
theorem cm_cong {M M' : Mm} (h1 : gI M' 32 22 = gI M 32 22) (h2 : sm M M' 41) (h3 : sm M M' 42) (ov m : Nat) : cm M' ov m ↔ cm M ov m := by
  have e : ∀ k, abc M' k = abc M k := by
    intro k
    induction k with
    | zero => rfl
    | succ k ih => rw [abc_s, abc_s, ih, h2]
  have e2 : ahd M' m = ahd M m := by unfold ahd nM; rw [h3, h2, h1, e]
  unfold cm
  rw [e2]
theorem tk_cong {M M' : Mm} (h1 : gI M' 32 8 = gI M 32 8) (h2 : sm M M' 41) (h3 : gI M' 32 13 = gI M 32 13) (m : Nat) : tk M' m = tk M m := by
  unfold tk sg
  rw [h1, h2, h2, h3]
theorem bit_o : ∀ a, a < 64 → ∀ m, m < 6 → ∀ j, j < 6 → (a ||| 2 ^ m).testBit j = (a.testBit j || decide (m = j)) := by decide +kernel
theorem Bo_come {i : Nat} {M : Mm} (h : Inv i M) (hz : I_z M) (p : Int32) : Bo i M (sp_X10_come p) (sp_X11_come p) := by
  obtain ⟨h1, h2, h3, h4, h5, h6, h7⟩ := id h
  by_cases hp : ∃ j, j < nM M ∧ p = nI j
  · obtain ⟨m, hm, rfl⟩ := hp
    obtain ⟨n1, n2, n3⟩ := h4.n
    obtain ⟨o1, o2, o3⟩ := ob_n h4 h6
    obtain ⟨m1, m2, m3⟩ := mi_n h6
    obtain ⟨s1, s2, s3⟩ := h2.s
    cases hmc : mc M m with
    | false =>
      refine Bo_same h hz (-103) ?_ ?_
      · unfold sp_X10_come; rw [mhas_1 h4 hm, bd_s, if_neg i10, cmc_e h2 h4 h6 hm, bd_s, hmc, if_pos (by simp)]
      · unfold sp_X11_come; rw [isM_1 h4 hm, bd_s, if_neg i10, mmc_e h2 h4 h6 hm, bd_s, hmc, if_pos (by simp)]
    | true =>
      have t := tk_le h4 hm
      have hc := (mc_iff M m).mp hmc
      generalize eob : nv (gI M 13 4) = ob at *
      generalize emi : nv (gI M 32 10) = mi at *
      have ht := hc.2.2.2
      have ag1 : ∀ c k, ¬ ((c = 13 ∧ (k = 0 ∨ k = 4)) ∨ (c = 14 ∧ k = m)) → gI (sI (sI (sI M 13 0 (nI (mi + tk M m))) 13 4 (nI (ob ||| 2 ^ m))) 14 m (nI (mi + tk M m))) c k = gI M c k := by
        intro c k hx
        rw [gI_o (by omega), gI_o (by omega), gI_o (by omega)]
      have h2' := h2.ag (M' := sI (sI (sI M 13 0 (nI (mi + tk M m))) 13 4 (nI (ob ||| 2 ^ m))) 14 m (nI (mi + tk M m))) (fun c k hf => ag1 c k (by unfold F_nt at hf; omega))
      have h4' := h4.ag (M' := sI (sI (sI M 13 0 (nI (mi + tk M m))) 13 4 (nI (ob ||| 2 ^ m))) 14 m (nI (mi + tk M m))) (fun c k hf => ag1 c k (by unfold F_mn at hf; omega))
      generalize eM1 : sI (sI (sI M 13 0 (nI (mi + tk M m))) 13 4 (nI (ob ||| 2 ^ m))) 14 m (nI (mi + tk M m)) = M1 at *
      have g41 : sm M M1 41 := fun k => ag1 41 k (by omega)
      have g42 : sm M M1 42 := fun k => ag1 42 k (by omega)
      have g32 : sm M M1 32 := fun k => ag1 32 k (by omega)
      have hn1 : nM M1 = nM M := by unfold nM; rw [g32]
      have hs1 : sT M1 = sT M := by unfold sT; rw [g32]
      have htk : tk M1 m = tk M m := tk_cong (g32 _) g41 (g32 _) m
      have hmc1 : mcg M1 ob m = true := (mcg_iff M1 ob m).mpr ⟨by rw [g32]; exact hc.1, by rw [g32]; exact hc.2.1, (cm_cong (g32 _) g41 g42 ob m).mpr hc.2.2.1, by rw [g32, htk, hs1, emi]; exact ht⟩
      have ag : ∀ c k, ¬ ((c = 13 ∧ (k = 0 ∨ k = 4)) ∨ (c = 14 ∧ k = m) ∨ (c = 32 ∧ k = 10) ∨ (c = 41 ∧ k = 3 * m + 2)) → gI (sI (sI M1 32 10 (nI (mi + tk M m))) 41 (3 * m + 2) (nI (mi + tk M m))) c k = gI M c k := by
        intro c k hx
        rw [gI_o (by omega), gI_o (by omega), ag1 c k (by omega)]
      refine ⟨nI (mi + tk M m), M1, _, ?_, ?_, h.set _ ag (Or.inl ?_) (Or.inl ?_) (Or.inl ?_) (Or.inl ?_) (Or.inl ?_) (Or.inr ?cu) (Or.inl ?_), hz.set _ ag ?_⟩
      · unfold sp_X10_come
        rw [mhas_1 h4 hm, bd_s, if_neg i10, cmc_e h2 h4 h6 hm, bd_s, hmc, if_neg (by simp), ctk_e h2 h4 h6 hm, bd_s]
        unfold sp_X1_bringOver
        simp only [gI_sI, gJ_sI, gI_sJ, gJ_sJ, bl_e, bd_s, jn_e, Nat.reduceEqDiff, Nat.zero_ne_one, Nat.one_ne_zero, false_and, and_false, and_true, true_and, and_self, if_true, if_false, reduceIte]
        rw [m2, nI_add, o1, with_e o3 (by omega), bd_s]
        simp only [gI_sI, gJ_sI, gI_sJ, gJ_sJ, bl_e, bd_s, jn_e, Nat.reduceEqDiff, Nat.zero_ne_one, Nat.one_ne_zero, false_and, and_false, and_true, true_and, and_self, if_true, if_false, reduceIte]
        rw [put_n (show m < 6 by omega)]
        simp only [gI_sI, gJ_sI, gI_sJ, gJ_sJ, bl_e, bd_s, jn_e, Nat.reduceEqDiff, Nat.zero_ne_one, Nat.one_ne_zero, false_and, and_false, and_true, true_and, and_self, if_true, if_false, reduceIte]
        rw [← eM1]
      · unfold sp_X11_come
        rw [isM_1 h4' (by rw [hn1]; exact hm), bd_s, if_neg i10, mmc_g h2' h4' (by rw [g32]; exact hw_n h6) (by rw [g32]; exact h6.1) (ob := ob) (by rw [hn1]; exact o2) (fun k hk => by rw [g41, ← eob]; exact h6.ov (by rw [← hn1]; exact hk)) (by rw [hn1]; exact hm), bd_s, hmc1, if_neg (by simp), mtk_e h2' h4' (by rw [g32]; exact hw_n h6) (by rw [hn1]; exact hm), bd_s, htk, g32, m1, nI_add]
        simp only [gI_sI, gJ_sI, gI_sJ, gJ_sJ, bl_e, bd_s, jn_e, Nat.reduceEqDiff, Nat.zero_ne_one, Nat.one_ne_zero, false_and, and_false, and_true, true_and, and_self, if_true, if_false, reduceIte]
        rw [nI_32, wrI_n (show 3 * m + 2 < 18 by omega)]
        simp only [gI_sI, gJ_sI, gI_sJ, gJ_sJ, bl_e, bd_s, jn_e, Nat.reduceEqDiff, Nat.zero_ne_one, Nat.one_ne_zero, false_and, and_false, and_true, true_and, and_self, if_true, if_false, reduceIte]
      case cu =>
        have gl : ∀ k, k ≠ 10 → gI (sI (sI M1 32 10 (nI (mi + tk M m))) 41 (3 * m + 2) (nI (mi + tk M m))) 32 k = gI M 32 k := fun k hk => by rw [gI_o (by omega), gI_o (by omega), g32]
        have g13 : ∀ k, k ≠ 0 → k ≠ 4 → gI (sI (sI M1 32 10 (nI (mi + tk M m))) 41 (3 * m + 2) (nI (mi + tk M m))) 13 k = gI M 13 k := fun k hk hk4 => by rw [gI_o (by omega), gI_o (by omega), ag1 13 k (by omega)]
        have hob : ob ||| 2 ^ m ≤ 2 ^ nM M - 1 := or_lt (by omega) hm
        have e0 : gI M1 13 0 = nI (mi + tk M m) := by rw [← eM1]; simp only [gI_sI, gJ_sI, gI_sJ, gJ_sJ, bl_e, bd_s, jn_e, Nat.reduceEqDiff, Nat.zero_ne_one, Nat.one_ne_zero, false_and, and_false, and_true, true_and, and_self, if_true, if_false, reduceIte]
        have e4 : gI M1 13 4 = nI (ob ||| 2 ^ m) := by rw [← eM1]; simp only [gI_sI, gJ_sI, gI_sJ, gJ_sJ, bl_e, bd_s, jn_e, Nat.reduceEqDiff, Nat.zero_ne_one, Nat.one_ne_zero, false_and, and_false, and_true, true_and, and_self, if_true, if_false, reduceIte]
        have e14 : ∀ k, gI M1 14 k = if k = m then nI (mi + tk M m) else gI M 14 k := fun k => by rw [← eM1]; simp only [gI_sI, gJ_sI, gI_sJ, gJ_sJ, bl_e, bd_s, jn_e, Nat.reduceEqDiff, Nat.zero_ne_one, Nat.one_ne_zero, false_and, and_false, and_true, true_and, and_self, if_true, if_false, reduceIte]
        have p64 := pw_64 n1
        unfold I_cu I_co at h6 ⊢
        have en : nM (sI (sI M1 32 10 (nI (mi + tk M m))) 41 (3 * m + 2) (nI (mi + tk M m))) = nM M := by unfold nM; rw [gl _ (by omega)]
        have er : nR (sI (sI M1 32 10 (nI (mi + tk M m))) 41 (3 * m + 2) (nI (mi + tk M m))) = nR M := by unfold nR; rw [gl _ (by omega)]
        have es : sT (sI (sI M1 32 10 (nI (mi + tk M m))) 41 (3 * m + 2) (nI (mi + tk M m))) = sT M := by unfold sT; rw [gl _ (by omega)]
        rw [en, er, es, gl 11 (by omega), gl 12 (by omega), gl 13 (by omega), gl 29 (by omega), gl 32 (by omega), g13 1 (by omega) (by omega), g13 2 (by omega) (by omega), g13 3 (by omega) (by omega), g13 5 (by omega) (by omega), g13 6 (by omega) (by omega), g13 7 (by omega) (by omega)]
        simp only [gI_sI, gJ_sI, gI_sJ, gJ_sJ, bl_e, bd_s, jn_e, Nat.reduceEqDiff, Nat.zero_ne_one, Nat.one_ne_zero, false_and, and_false, and_true, true_and, and_self, if_true, if_false, reduceIte, e0, e4, e14]
        rw [nv_n (by omega), nv_n (by omega)]
        obtain ⟨f1, f2, f3, f4, f5, f6, f7, f8, f9, f10, f11, f12, f13, f14, f15, f16, f17, f18, f19, f20, f21⟩ := h6
        refine ⟨Nb_n (by omega) (by decide), Or.inl ht, f4, f5, f6, f7, f8, f9, f10, fun r hr => by rw [ag1 38 _ (by omega)]; exact f11 r hr, Nb_n hob (by omega), fun k hk => ?_, f14, f15, fun k hk => ?_, fun b hb => ?_, fun b p q => by rw [ag1 15 b (by omega)]; exact f18 b p q, f19, f20, fun k hk => by rw [ag1 16 k (by omega), ag1 47 k (by omega)]; exact f21 k hk⟩
        · rw [bit_o ob o3 m (by omega) k (by omega)]
          by_cases e : k = m
          · subst e
            simp only [decide_true, Bool.or_true, if_true]
            exact ⟨trivial, Nb_n (by omega) (by decide)⟩
          · have e' : ¬ m = k := fun z => e z.symm
            simp only [e', decide_false, Bool.or_false, e, if_false, show ¬ (3 * k = 3 * m) by omega]
            rw [g41]
            have := f13 k hk
            rw [eob] at this
            exact this
        · rw [ag1 45 _ (by omega), ag1 45 _ (by omega)]; exact f16 k hk
        · rw [ag1 15 b (by omega)]
          refine ⟨(f17 b hb).1, fun a ha => ((f17 b hb).2 a ha).trans ?_⟩
          constructor
          · rintro ⟨k, z⟩; exact ⟨k, by rw [ag1 45 _ (by omega), ag1 45 _ (by omega)]; exact z⟩
          · rintro ⟨k, z⟩; exact ⟨k, by rw [ag1 45 _ (by omega), ag1 45 _ (by omega)] at z; exact z⟩
      all_goals (intro c k hx; first | (unfold F_pg; omega) | (unfold F_nt; omega) | (unfold F_rk; omega) | (unfold F_mn; omega) | (unfold F_dn; omega) | (unfold F_cu; omega) | (unfold F_kp; omega) | (unfold F_z; omega))
  · refine Bo_same h hz (-101) ?_ ?_
    · unfold sp_X10_come; rw [mhas_0 h4 hp, bd_s, if_pos rfl]
    · unfold sp_X11_come; rw [isM_0 h4 hp, bd_s, if_pos rfl]
theorem Bo_breaks {i : Nat} {M : Mm} (h : Inv i M) (hz : I_z M) (hi : i < 1000) : Bo i M sp_X10_breaks sp_X11_breaks := by
  obtain ⟨h1, h2, h3, h4, h5, h6, h7⟩ := id h
  by_cases hn : gI M 32 7 = 0 ∨ gI M 32 12 = 1
  · refine Bo_same h hz (-103) ?_ ?_
    · unfold sp_X10_breaks; rw [afl_e h hi, if_pos hn, bd_s, if_pos rfl]
    · unfold sp_X11_breaks
      by_cases q : gI M 32 7 = 0
      · rw [lacks_1 q, bd_s, if_neg i10]
      · rw [lacks_0 q, bd_s, if_pos rfl, if_pos (hn.resolve_left q)]
  · have hn1 : ¬ gI M 32 7 = 0 := fun z => hn (Or.inl z)
    have hn2 : ¬ gI M 32 12 = 1 := fun z => hn (Or.inr z)
    obtain ⟨o1, o2, o3⟩ := ob_n h4 h6
    obtain ⟨n1, n2, n3⟩ := h4.n
    have ag : ∀ c k, ¬ ((c = 13 ∧ k = 2) ∨ (c = 32 ∧ k = 12)) → gI (sI (sI M 13 2 1) 32 12 1) c k = gI M c k := by
      intro c k hx
      rw [gI_o (by omega), gI_o (by omega)]
    have hcu : I_cu (sI (sI M 13 2 1) 32 12 1) := by
      unfold I_cu I_co at h6 ⊢
      unfold sT nR nM at *
      simp only [gI_sI, gJ_sI, gI_sJ, gJ_sJ, bl_e, bd_s, jn_e, Nat.reduceEqDiff, Nat.zero_ne_one, Nat.one_ne_zero, false_and, and_false, and_true, true_and, and_self, if_true, if_false, reduceIte]
      obtain ⟨g1, g2, g3, g4, g5, g6, g7, g8⟩ := h6
      exact ⟨g1, g2, g3, g4, g5, Nb_n (n := 1) (by omega) (by decide), g8⟩
    have h4' := h4.ag (M' := sI (sI M 13 2 1) 32 12 1) (fun c k hf => ag c k (by unfold F_mn at hf; omega))
    refine ⟨nI (nM M) - nI (pc (nv (gI M 13 4))), sI M 13 2 1, sI (sI M 13 2 1) 32 12 1, ?_, ?_, h.set _ ag (Or.inl ?_) (Or.inl ?_) (Or.inl ?_) (Or.inl ?_) (Or.inl ?_) (Or.inr hcu) (Or.inl ?_), ?z⟩
    · unfold sp_X10_breaks
      rw [afl_e h hi, if_neg hn, bd_s, if_neg i10]
      simp only [gI_sI, gJ_sI, gI_sJ, gJ_sJ, bl_e, bd_s, jn_e, Nat.reduceEqDiff, Nat.zero_ne_one, Nat.one_ne_zero, false_and, and_false, and_true, true_and, and_self, if_true, if_false, reduceIte]
      have e := bc_e o3 (sI M 13 2 1)
      rw [← o1] at e
      rw [e, bd_s, n3]
    · unfold sp_X11_breaks
      rw [lacks_0 (by simp only [gI_sI, gJ_sI, gI_sJ, gJ_sJ, bl_e, bd_s, jn_e, Nat.reduceEqDiff, Nat.zero_ne_one, Nat.one_ne_zero, false_and, and_false, and_true, true_and, and_self, if_true, if_false, reduceIte]; exact hn1), bd_s, if_pos rfl]
      simp only [gI_sI, gJ_sI, gI_sJ, gJ_sJ, bl_e, bd_s, jn_e, Nat.reduceEqDiff, Nat.zero_ne_one, Nat.one_ne_zero, false_and, and_false, and_true, true_and, and_self, if_true, if_false, reduceIte]
      rw [if_neg hn2, over_e h4' hcu, bd_s]
      simp only [gI_sI, gJ_sI, gI_sJ, gJ_sJ, bl_e, bd_s, jn_e, Nat.reduceEqDiff, Nat.zero_ne_one, Nat.one_ne_zero, false_and, and_false, and_true, true_and, and_self, if_true, if_false, reduceIte]
      have e := ones_e o3 (sI (sI M 13 2 1) 32 12 1)
      rw [← o1] at e
      rw [e, bd_s, n2]
    case z => intro w; simp only [gI_sI, gJ_sI, gI_sJ, gJ_sJ, bl_e, bd_s, jn_e, Nat.reduceEqDiff, Nat.zero_ne_one, Nat.one_ne_zero, false_and, and_false, and_true, true_and, and_self, if_true, if_false, reduceIte] at w; exact absurd w hn1
    all_goals (intro c k hx; first | (unfold F_pg; omega) | (unfold F_nt; omega) | (unfold F_rk; omega) | (unfold F_mn; omega) | (unfold F_dn; omega) | (unfold F_cu; omega) | (unfold F_kp; omega) | (unfold F_z; omega))
theorem pc_sum : ∀ n, n ≤ 6 → ∀ f, f < 64 → f < 2 ^ n → pc (nt (2 ^ n - 1) f) + pc f = n := by decide +kernel
/-- what count() tells -/
def ctV (M : Mm) (w : Nat) : Int32 := if w = 0 then gI M 32 17 else if w = 1 then nI (pc (nv (gI M 13 3))) else if w = 2 then gI M 32 22 else if w = 3 then nI (pc (nv (gI M 13 4))) else if w = 4 then gI M 32 10 else if w = 5 then gI M 32 11 else if w = 6 then gI M 32 12 else if w = 7 then gI M 32 7 else if w = 8 then gI M 32 13 else if w = 9 then gI M 32 29 else if w = 10 then gI M 32 32 else if w = 11 then gI M 32 1 else if w = 12 then gI M 32 14 else gI M 32 25
theorem asn_b {x : Int32} (h : x = 0 ∨ x = 1) (M : Mm) : sp_X10_asNumber x M = some (x, M) := by
  unfold sp_X10_asNumber
  rcases h with rfl | rfl
  · rw [if_pos rfl]
  · rw [if_neg i10]
theorem count_e {i : Nat} {M : Mm} (h : Inv i M) {w : Nat} (hw : w ≤ 13) : sp_X10_count (nI w) M = some (ctV M w, M) := by
  obtain ⟨h1, h2, h3, h4, h5, h6, h7⟩ := h
  obtain ⟨o1, o2, o3⟩ := ob_n h4 h6
  obtain ⟨f1, f2, f3⟩ := fb_n h3 h6
  have eo := bc_e o3 M
  rw [← o1] at eo
  have ef := bc_e f3 M
  rw [← f1] at ef
  unfold sp_X10_count
  rcases (by omega : w = 0 ∨ w = 1 ∨ w = 2 ∨ w = 3 ∨ w = 4 ∨ w = 5 ∨ w = 6 ∨ w = 7 ∨ w = 8 ∨ w = 9 ∨ w = 10 ∨ w = 11 ∨ w = 12 ∨ w = 13) with rfl | rfl | rfl | rfl | rfl | rfl | rfl | rfl | rfl | rfl | rfl | rfl | rfl | rfl
  · rw [if_pos (by decide), h3.2.1]; rfl
  · rw [if_neg (by decide), if_pos (by decide), ef, bd_s]; rfl
  · iterate 2 rw [if_neg (by decide)]
    rw [if_pos (by decide), h4.2.1]; rfl
  · iterate 3 rw [if_neg (by decide)]
    rw [if_pos (by decide), eo, bd_s]; rfl
  · iterate 4 rw [if_neg (by decide)]
    rw [if_pos (by decide), h6.2.2.1]; rfl
  · iterate 5 rw [if_neg (by decide)]
    rw [if_pos (by decide), h6.2.2.2.2.1, asn_b h6.2.2.2.1.b01, bd_s]; rfl
  · iterate 6 rw [if_neg (by decide)]
    rw [if_pos (by decide), h6.2.2.2.2.2.2.1, asn_b h6.2.2.2.2.2.1.b01, bd_s]; rfl
  · iterate 7 rw [if_neg (by decide)]
    rw [if_pos (by decide), h2.2.2.2.1]; rfl
  · iterate 8 rw [if_neg (by decide)]
    rw [if_pos (by decide), h6.2.2.2.2.2.2.2.2.1]; rfl
  · iterate 9 rw [if_neg (by decide)]
    rw [if_pos (by decide), h6.2.2.2.2.2.2.2.2.2.2.2.2.2.2.1]; rfl
  · iterate 10 rw [if_neg (by decide)]
    rw [if_pos (by decide), h6.2.2.2.2.2.2.2.2.2.2.2.2.2.2.2.2.2.2.2.1]; rfl
  · iterate 11 rw [if_neg (by decide)]
    rw [if_pos (by decide), h1.2.1]; rfl
  · iterate 12 rw [if_neg (by decide)]
    rw [if_pos (by decide), h2.2.1]; rfl
  · iterate 13 rw [if_neg (by decide)]
    rw [if_pos (by decide), h5.2]; rfl
theorem mcount_e {i : Nat} {M : Mm} (h : Inv i M) {w : Nat} (hw : w ≤ 13) : sp_X11_countOf (nI w) M = some (ctV M w, M) := by
  obtain ⟨h1, h2, h3, h4, h5, h6, h7⟩ := h
  obtain ⟨o1, o2, o3⟩ := ob_n h4 h6
  obtain ⟨f1, f2, f3⟩ := fb_n h3 h6
  obtain ⟨r1, r2, r3⟩ := h3.n
  have eo := ones_e o3 M
  rw [← o1] at eo
  have l64 : lfb M < 64 := Nat.lt_of_lt_of_le (lfb_lt M) (pw_64 r1)
  have hs := pc_sum _ r1 _ f3 f2
  unfold sp_X11_countOf
  rcases (by omega : w = 0 ∨ w = 1 ∨ w = 2 ∨ w = 3 ∨ w = 4 ∨ w = 5 ∨ w = 6 ∨ w = 7 ∨ w = 8 ∨ w = 9 ∨ w = 10 ∨ w = 11 ∨ w = 12 ∨ w = 13) with rfl | rfl | rfl | rfl | rfl | rfl | rfl | rfl | rfl | rfl | rfl | rfl | rfl | rfl
  · rw [if_pos (by decide)]; rfl
  · rw [if_neg (by decide), if_pos (by decide), left_e h3 h6, bd_s, ones_e l64, bd_s, r2]
    unfold lfb
    rw [nI_sub (by omega), show nR M - pc (nt (2 ^ nR M - 1) (nv (gI M 13 3))) = pc (nv (gI M 13 3)) by omega]; rfl
  · iterate 2 rw [if_neg (by decide)]
    rw [if_pos (by decide)]; rfl
  · iterate 3 rw [if_neg (by decide)]
    rw [if_pos (by decide), over_e h4 h6, bd_s, eo, bd_s]; rfl
  · iterate 4 rw [if_neg (by decide)]
    rw [if_pos (by decide)]; rfl
  · iterate 5 rw [if_neg (by decide)]
    rw [if_pos (by decide)]; rfl
  · iterate 6 rw [if_neg (by decide)]
    rw [if_pos (by decide)]; rfl
  · iterate 7 rw [if_neg (by decide)]
    rw [if_pos (by decide)]; rfl
  · iterate 8 rw [if_neg (by decide)]
    rw [if_pos (by decide)]; rfl
  · iterate 9 rw [if_neg (by decide)]
    rw [if_pos (by decide)]; rfl
  · iterate 10 rw [if_neg (by decide)]
    rw [if_pos (by decide)]; rfl
  · iterate 11 rw [if_neg (by decide)]
    rw [if_pos (by decide)]; rfl
  · iterate 12 rw [if_neg (by decide)]
    rw [if_pos (by decide)]; rfl
  · iterate 13 rw [if_neg (by decide)]
    rw [if_pos (by decide)]; rfl
theorem Bo_count {i : Nat} {M : Mm} (h : Inv i M) (hz : I_z M) (p : Int32) : Bo i M (sp_X10_count p) (sp_X11_count p) := by
  by_cases hp : ∃ w, w ≤ 13 ∧ p = nI w
  · obtain ⟨w, hw, rfl⟩ := hp
    refine Bo_same h hz (ctV M w) (count_e h hw) ?_
    unfold sp_X11_count
    rw [mcount_e h hw, bd_s]
  · have e : ∀ w : Nat, w ≤ 13 → ¬ p = nI w := fun w hw z => hp ⟨w, hw, z⟩
    refine Bo_same h hz (-102) ?_ ?_
    · unfold sp_X10_count
      rw [if_neg (show ¬ p = 0 from e 0 (by omega)), if_neg (show ¬ p = 1 from e 1 (by omega)), if_neg (show ¬ p = 2 from e 2 (by omega)), if_neg (show ¬ p = 3 from e 3 (by omega)), if_neg (show ¬ p = 4 from e 4 (by omega)), if_neg (show ¬ p = 5 from e 5 (by omega)), if_neg (show ¬ p = 6 from e 6 (by omega)), if_neg (show ¬ p = 7 from e 7 (by omega)), if_neg (show ¬ p = 8 from e 8 (by omega)), if_neg (show ¬ p = 9 from e 9 (by omega)), if_neg (show ¬ p = 10 from e 10 (by omega)), if_neg (show ¬ p = 11 from e 11 (by omega)), if_neg (show ¬ p = 12 from e 12 (by omega)), if_neg (show ¬ p = 13 from e 13 (by omega))]
    · unfold sp_X11_count sp_X11_countOf
      rw [if_neg (show ¬ p = 0 from e 0 (by omega)), if_neg (show ¬ p = 1 from e 1 (by omega)), if_neg (show ¬ p = 2 from e 2 (by omega)), if_neg (show ¬ p = 3 from e 3 (by omega)), if_neg (show ¬ p = 4 from e 4 (by omega)), if_neg (show ¬ p = 5 from e 5 (by omega)), if_neg (show ¬ p = 6 from e 6 (by omega)), if_neg (show ¬ p = 7 from e 7 (by omega)), if_neg (show ¬ p = 8 from e 8 (by omega)), if_neg (show ¬ p = 9 from e 9 (by omega)), if_neg (show ¬ p = 10 from e 10 (by omega)), if_neg (show ¬ p = 11 from e 11 (by omega)), if_neg (show ¬ p = 12 from e 12 (by omega)), if_neg (show ¬ p = 13 from e 13 (by omega)), bd_s]
