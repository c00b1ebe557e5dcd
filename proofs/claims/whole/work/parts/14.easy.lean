/-! THE CALLS: minutes, wreck, rocket, man, said, behind, as -/
theorem nn_s {i : Nat} {M : Mm} (h : I_nt i M) (hn : ¬ gI M 32 7 = 0) : sT M ≠ 0 := fun z => hn (by rw [h.s.2.1, z]; rfl)
theorem Nb.b01 {x : Int32} (h : Nb x 1) : x = 0 ∨ x = 1 := by
  obtain ⟨n, hn, rfl⟩ := h.get
  rcases (by omega : n = 0 ∨ n = 1) with rfl | rfl
  · exact Or.inl rfl
  · exact Or.inr rfl
theorem afl_e {i : Nat} {M : Mm} (h : Inv i M) (hi : i < 1000) : sp_X10_isAfloat M = some (if gI M 32 7 = 0 ∨ gI M 32 12 = 1 then 0 else 1, M) := by
  obtain ⟨h1, h2, h3, h4, h5, h6, h7⟩ := h
  unfold sp_X10_isAfloat
  by_cases hn : gI M 32 7 = 0
  · rw [hasN_0 h2 hi hn, bd_s, if_pos rfl, if_pos (Or.inl hn)]
  · rw [hasN_1 h2 hi hn, bd_s, if_neg i10, h6.2.2.2.2.2.2.1]
    rcases h6.2.2.2.2.2.1.b01 with e | e
    · rw [if_pos e, if_neg (fun z => z.elim hn (fun y => absurd (e.symm.trans y) (by decide)))]
    · rw [if_neg (by rw [e]; decide), if_pos (Or.inr e)]
theorem Bo_minutes {i : Nat} {M : Mm} (h : Inv i M) (hz : I_z M) (hi : i < 1000) (p : Int32) : Bo i M (sp_X10_minutes p) (sp_X11_minutes p) := by
  obtain ⟨h1, h2, h3, h4, h5, h6, h7⟩ := id h
  by_cases hp : (1 : Int) ≤ p.toInt ∧ p.toInt ≤ 50
  · by_cases hn : gI M 32 7 = 0 ∨ gI M 32 12 = 1
    · refine Bo_same h hz (-103) ?_ ?_
      · unfold sp_X10_minutes; rw [out_0 (x := 1) (y := 50) rfl rfl hp, bd_s, if_pos rfl, afl_e h hi, if_pos hn, bd_s, if_pos rfl]
      · unfold sp_X11_minutes; rw [in_1 (x := 1) (y := 50) rfl rfl hp, bd_s, if_neg i10]
        by_cases q : gI M 32 7 = 0
        · rw [lacks_1 q, bd_s, if_neg i10]
        · rw [lacks_0 q, bd_s, if_pos rfl, if_pos (hn.resolve_left q)]
    · obtain ⟨j, hj1, hj2, rfl⟩ := nI_of_rng (a := 1) (b := 50) hp.1 hp.2 (by decide)
      have hn1 : ¬ gI M 32 7 = 0 := fun z => hn (Or.inl z)
      have hn2 : ¬ gI M 32 12 = 1 := fun z => hn (Or.inr z)
      obtain ⟨s1, s2, s3⟩ := h2.s
      obtain ⟨mi, hmi, emi⟩ := h6.1.get
      have ec : gI M 13 0 = nI mi := h6.2.2.1.trans emi
      have hs := nn_s h2 hn1
      by_cases hlt : mi + j < 5 * sT M
      · have ag : ∀ c k, ¬ ((c = 13 ∧ k = 0) ∨ (c = 32 ∧ k = 10)) → gI (sI (sI M 13 0 (nI (mi + j))) 32 10 (nI (mi + j))) c k = gI M c k := by
          intro c k hx
          rw [gI_o (by omega), gI_o (by omega)]
        refine ⟨nI (mi + j), sI M 13 0 (nI (mi + j)), sI (sI M 13 0 (nI (mi + j))) 32 10 (nI (mi + j)), ?_, ?_, h.set _ ag (Or.inl ?_) (Or.inl ?_) (Or.inl ?_) (Or.inl ?_) (Or.inl ?_) (Or.inr ?cu) (Or.inl ?_), hz.set _ ag ?_⟩
        · unfold sp_X10_minutes
          rw [out_0 (x := 1) (y := 50) rfl rfl hp, bd_s, if_pos rfl, afl_e h hi, if_neg hn, bd_s, if_neg i10]
          unfold sp_X7_endMinute
          rw [bd_s, ec, s3, nI_add, show nI (sT M) * 5 = nI (sT M * 5) from nI_mul _ 5, if_pos ((nI_ltI (by omega) (by omega)).mpr (by omega))]
          simp only [gI_sI, gJ_sI, gI_sJ, gJ_sJ, bl_e, bd_s, jn_e, Nat.reduceEqDiff, Nat.zero_ne_one, Nat.one_ne_zero, false_and, and_false, and_true, true_and, and_self, if_true, if_false, reduceIte]
        · unfold sp_X11_minutes
          rw [in_1 (x := 1) (y := 50) rfl rfl hp, bd_s, if_neg i10, lacks_0 (by simp only [gI_sI, gJ_sI, gI_sJ, gJ_sJ, bl_e, bd_s, jn_e, Nat.reduceEqDiff, Nat.zero_ne_one, Nat.one_ne_zero, false_and, and_false, and_true, true_and, and_self, if_true, if_false, reduceIte]; exact hn1), bd_s, if_pos rfl]
          simp only [gI_sI, gJ_sI, gI_sJ, gJ_sJ, bl_e, bd_s, jn_e, Nat.reduceEqDiff, Nat.zero_ne_one, Nat.one_ne_zero, false_and, and_false, and_true, true_and, and_self, if_true, if_false, reduceIte, emi, s2, nI_add, show (5 : Int32) * nI (sT M) = nI (5 * sT M) from nI_mul 5 _]
          rw [if_neg hn2, if_pos ((nI_ltI (by omega) (by omega)).mpr (by omega))]
        case cu =>
          unfold I_cu I_co at h6 ⊢
          unfold sT nR nM at *
          simp only [gI_sI, gJ_sI, gI_sJ, gJ_sJ, bl_e, bd_s, jn_e, Nat.reduceEqDiff, Nat.zero_ne_one, Nat.one_ne_zero, false_and, and_false, and_true, true_and, and_self, if_true, if_false, reduceIte]
          obtain ⟨g1, g2, g3, g10⟩ := h6
          exact ⟨Nb_n (by omega) (by decide), Or.inl (by rw [nv_n (by omega)]; exact hlt), g10⟩
        all_goals (intro c k hx; first | (unfold F_pg; omega) | (unfold F_nt; omega) | (unfold F_rk; omega) | (unfold F_mn; omega) | (unfold F_dn; omega) | (unfold F_cu; omega) | (unfold F_kp; omega) | (unfold F_z; omega))
      · refine Bo_same h hz (-103) ?_ ?_
        · unfold sp_X10_minutes
          rw [out_0 (x := 1) (y := 50) rfl rfl hp, bd_s, if_pos rfl, afl_e h hi, if_neg hn, bd_s, if_neg i10]
          unfold sp_X7_endMinute
          rw [bd_s, ec, s3, nI_add, show nI (sT M) * 5 = nI (sT M * 5) from nI_mul _ 5, if_neg (fun q => by have := (nI_ltI (by omega) (by omega)).mp q; omega)]
        · unfold sp_X11_minutes
          rw [in_1 (x := 1) (y := 50) rfl rfl hp, bd_s, if_neg i10, lacks_0 hn1, bd_s, if_pos rfl, if_neg hn2, emi, s2, nI_add, show (5 : Int32) * nI (sT M) = nI (5 * sT M) from nI_mul 5 _, if_neg (fun q => by have := (nI_ltI (by omega) (by omega)).mp q; omega)]
  · refine Bo_same h hz (-102) ?_ ?_
    · unfold sp_X10_minutes; rw [out_1 (x := 1) (y := 50) rfl rfl hp, bd_s, if_neg i10]
    · unfold sp_X11_minutes; rw [in_0 (x := 1) (y := 50) rfl rfl hp, bd_s, if_pos rfl]
theorem Bo_wreck {i : Nat} {M : Mm} (h : Inv i M) (hz : I_z M) (hi : i < 1000) (p : Int32) : Bo i M (sp_X10_wreck p) (sp_X11_wreck p) := by
  obtain ⟨h1, h2, h3, h4, h5, h6, h7⟩ := id h
  by_cases hp : (0 : Int) ≤ p.toInt ∧ p.toInt ≤ 99
  · by_cases hn : gI M 32 7 = 0
    · refine Bo_same h hz (-103) ?_ ?_
      · unfold sp_X10_wreck; rw [out_0 (x := 0) (y := 99) rfl rfl hp, bd_s, if_pos rfl, hasN_0 h2 hi hn, bd_s, if_pos rfl]
      · unfold sp_X11_wreck; rw [in_1 (x := 0) (y := 99) rfl rfl hp, bd_s, if_neg i10, lacks_1 hn, bd_s, if_neg i10]
    · obtain ⟨j, hj1, hj2, rfl⟩ := nI_of_rng (a := 0) (b := 99) hp.1 hp.2 (by decide)
      obtain ⟨n, hnn, en⟩ := h6.2.2.2.2.2.2.2.2.2.2.2.2.2.2.2.2.2.2.1.get
      have ec : gI M 13 7 = nI n := h6.2.2.2.2.2.2.2.2.2.2.2.2.2.2.2.2.2.2.2.1.trans en
      rcases Nat.lt_or_ge n 8 with hlt | hge
      · have ag : ∀ c k, ¬ (c = 16 ∨ (c = 13 ∧ k = 7) ∨ c = 47 ∨ (c = 32 ∧ k = 32)) → gI (sI (sI (sI (sI M 16 n (nI j)) 13 7 (nI (n + 1))) 47 n (nI j)) 32 32 (nI (n + 1))) c k = gI M c k := by
          intro c k hx
          rw [gI_o (by omega), gI_o (by omega), gI_o (by omega), gI_o (by omega)]
        refine ⟨nI (n + 1), sI (sI M 16 n (nI j)) 13 7 (nI (n + 1)), sI (sI (sI (sI M 16 n (nI j)) 13 7 (nI (n + 1))) 47 n (nI j)) 32 32 (nI (n + 1)), ?_, ?_, h.set _ ag (Or.inl ?_) (Or.inl ?_) (Or.inl ?_) (Or.inl ?_) (Or.inl ?_) (Or.inr ?cu) (Or.inl ?_), hz.set _ ag ?_⟩
        · unfold sp_X10_wreck
          rw [out_0 (x := 0) (y := 99) rfl rfl hp, bd_s, if_pos rfl, hasN_1 h2 hi hn, bd_s, if_neg i10, ec, if_pos (c_lt 8 8 rfl hlt (by decide))]
          unfold sp_X1_addWreck
          rw [ec, put_n (show n < 8 from hlt), bd_s]
          simp only [gI_sI, gJ_sI, gI_sJ, gJ_sJ, bl_e, bd_s, jn_e, Nat.reduceEqDiff, Nat.zero_ne_one, Nat.one_ne_zero, false_and, and_false, and_true, true_and, and_self, if_true, if_false, reduceIte, ec, nI_p]
        · unfold sp_X11_wreck
          rw [in_1 (x := 0) (y := 99) rfl rfl hp, bd_s, if_neg i10, lacks_0 (by simp only [gI_sI, gJ_sI, gI_sJ, gJ_sJ, bl_e, bd_s, jn_e, Nat.reduceEqDiff, Nat.zero_ne_one, Nat.one_ne_zero, false_and, and_false, and_true, true_and, and_self, if_true, if_false, reduceIte]; exact hn), bd_s, if_pos rfl]
          simp only [gI_sI, gJ_sI, gI_sJ, gJ_sJ, bl_e, bd_s, jn_e, Nat.reduceEqDiff, Nat.zero_ne_one, Nat.one_ne_zero, false_and, and_false, and_true, true_and, and_self, if_true, if_false, reduceIte, en]
          rw [if_neg (c_ne 8 8 rfl (by omega) (by omega) (by decide)), wrI_n (show n < 8 from hlt)]
          simp only [gI_sI, gJ_sI, gI_sJ, gJ_sJ, bl_e, bd_s, jn_e, Nat.reduceEqDiff, Nat.zero_ne_one, Nat.one_ne_zero, false_and, and_false, and_true, true_and, and_self, if_true, if_false, reduceIte, en, nI_p]
        case cu =>
          unfold I_cu I_co at h6 ⊢
          unfold sT nR nM at *
          simp only [gI_sI, gJ_sI, gI_sJ, gJ_sJ, bl_e, bd_s, jn_e, Nat.reduceEqDiff, Nat.zero_ne_one, Nat.one_ne_zero, false_and, and_false, and_true, true_and, and_self, if_true, if_false, reduceIte]
          obtain ⟨g1, g2, g3, g4, g5, g6, g7, g8, g9, g10, g11, g12, g13, g14, g15, g16, g17, g18, g19, g20, g21⟩ := h6
          refine ⟨g1, g2, g3, g4, g5, g6, g7, g8, g9, g10, g11, g12, g13, g14, g15, g16, g17, g18, Nb_n (by omega) (by decide), fun k hk => ?_⟩
          rw [nv_n (by omega)] at hk
          by_cases e : k = n
          · subst e; simp only [if_true]; exact ⟨trivial, Nb_n hj2 (by decide)⟩
          · simp only [e, if_false]; exact g21 k (by rw [en, nv_n (by omega)]; omega)
        all_goals (intro c k hx; first | (unfold F_pg; omega) | (unfold F_nt; omega) | (unfold F_rk; omega) | (unfold F_mn; omega) | (unfold F_dn; omega) | (unfold F_cu; omega) | (unfold F_kp; omega) | (unfold F_z; omega))
      · have : n = 8 := by omega
        subst this
        refine Bo_same h hz (-104) ?_ ?_
        · unfold sp_X10_wreck
          rw [out_0 (x := 0) (y := 99) rfl rfl hp, bd_s, if_pos rfl, hasN_1 h2 hi hn, bd_s, if_neg i10, ec, if_neg (by decide)]
        · unfold sp_X11_wreck
          rw [in_1 (x := 0) (y := 99) rfl rfl hp, bd_s, if_neg i10, lacks_0 hn, bd_s, if_pos rfl, en, if_pos (by decide)]
  · refine Bo_same h hz (-102) ?_ ?_
    · unfold sp_X10_wreck; rw [out_1 (x := 0) (y := 99) rfl rfl hp, bd_s, if_neg i10]
    · unfold sp_X11_wreck; rw [in_0 (x := 0) (y := 99) rfl rfl hp, bd_s, if_pos rfl]
theorem tb_0 {x : Int32} {n : Nat} (h : Nb x (2 ^ n - 1)) : (nv x).testBit n = false := by
  apply Nat.testBit_lt_two_pow
  have := h.2
  have := Nat.two_pow_pos n
  omega
theorem pw_le {a b : Nat} (h : a ≤ b) : 2 ^ a - 1 ≤ 2 ^ b - 1 := Nat.sub_le_sub_right (Nat.pow_le_pow_right (by decide) h) 1
theorem pw_64 {a : Nat} (h : a ≤ 6) : 2 ^ a ≤ 64 := Nat.pow_le_pow_right (n := 2) (by decide) h
theorem Bo_rocket {i : Nat} {M : Mm} (h : Inv i M) (hz : I_z M) (hi : i < 1000) (p q : Int32) : Bo i M (sp_X10_rocket p q) (sp_X11_rocket p q) := by
  obtain ⟨h1, h2, h3, h4, h5, h6, h7⟩ := id h
  obtain ⟨a1, a2, a3⟩ := h3.n
  by_cases hp : (10 : Int) ≤ p.toInt ∧ p.toInt ≤ 120
  · by_cases hq : (0 : Int) ≤ q.toInt ∧ q.toInt ≤ 9
    · by_cases hn : gI M 32 7 = 0
      · refine Bo_same h hz (-103) ?_ ?_
        · unfold sp_X10_rocket; rw [out_0 (x := 10) (y := 120) rfl rfl hp, bd_s, if_pos rfl, out_0 (x := 0) (y := 9) rfl rfl hq, bd_s, if_pos rfl, hasN_0 h2 hi hn, bd_s, if_pos rfl]
        · unfold sp_X11_rocket; rw [in_1 (x := 10) (y := 120) rfl rfl hp, bd_s, if_neg i10, in_1 (x := 0) (y := 9) rfl rfl hq, bd_s, if_neg i10, lacks_1 hn, bd_s, if_neg i10]
      · rcases Nat.lt_or_ge (nR M) 6 with hlt | hge
        · generalize en : nR M = n at *
          have ag : ∀ c k, ¬ (c = 7 ∨ c = 8 ∨ (c = 6 ∧ k = 0) ∨ (c = 38 ∧ 3 * n ≤ k ∧ k ≤ 3 * n + 2) ∨ (c = 32 ∧ k = 17)) → gI (sI (sI (sI (sI (sI (sI (sI M 7 n p) 8 n q) 6 0 (nI (n + 1))) 38 (3 * n) p) 38 (3 * n + 1) q) 38 (3 * n + 2) 0) 32 17 (nI (n + 1))) c k = gI M c k := by
            intro c k hx
            rw [gI_o (by omega), gI_o (by omega), gI_o (by omega), gI_o (by omega), gI_o (by omega), gI_o (by omega), gI_o (by omega)]
          refine ⟨nI n, sI (sI (sI M 7 n p) 8 n q) 6 0 (nI (n + 1)), _, ?_, ?_, h.set _ ag (Or.inl ?_) (Or.inl ?_) (Or.inr ?rk) (Or.inl ?_) (Or.inl ?_) (Or.inr ?cu) (Or.inr ?kp), ?z⟩
          · unfold sp_X10_rocket
            rw [out_0 (x := 10) (y := 120) rfl rfl hp, bd_s, if_pos rfl, out_0 (x := 0) (y := 9) rfl rfl hq, bd_s, if_pos rfl, hasN_1 h2 hi hn, bd_s, if_neg i10, a3, if_pos (c_lt 6 6 rfl hlt (by decide))]
            unfold sp_X6_add
            rw [a3, put_n (show n < 6 from hlt), bd_s]
            simp only [gI_sI, gJ_sI, gI_sJ, gJ_sJ, bl_e, bd_s, jn_e, Nat.reduceEqDiff, Nat.zero_ne_one, Nat.one_ne_zero, false_and, and_false, and_true, true_and, and_self, if_true, if_false, reduceIte, a3]
            rw [put_n (show n < 6 from hlt)]
            simp only [gI_sI, gJ_sI, gI_sJ, gJ_sJ, bl_e, bd_s, jn_e, Nat.reduceEqDiff, Nat.zero_ne_one, Nat.one_ne_zero, false_and, and_false, and_true, true_and, and_self, if_true, if_false, reduceIte, a3, nI_p, nI_pred, nI_1]
          · unfold sp_X11_rocket
            rw [in_1 (x := 10) (y := 120) rfl rfl hp, bd_s, if_neg i10, in_1 (x := 0) (y := 9) rfl rfl hq, bd_s, if_neg i10, lacks_0 (by simp only [gI_sI, gJ_sI, gI_sJ, gJ_sJ, bl_e, bd_s, jn_e, Nat.reduceEqDiff, Nat.zero_ne_one, Nat.one_ne_zero, false_and, and_false, and_true, true_and, and_self, if_true, if_false, reduceIte]; exact hn), bd_s, if_pos rfl]
            simp only [gI_sI, gJ_sI, gI_sJ, gJ_sJ, bl_e, bd_s, jn_e, Nat.reduceEqDiff, Nat.zero_ne_one, Nat.one_ne_zero, false_and, and_false, and_true, true_and, and_self, if_true, if_false, reduceIte, a2]
            rw [if_neg (c_ne 6 6 rfl (by omega) (by omega) (by decide)), nI_30, wrI_n (show 3 * n < 18 by omega)]
            simp only [gI_sI, gJ_sI, gI_sJ, gJ_sJ, bl_e, bd_s, jn_e, Nat.reduceEqDiff, Nat.zero_ne_one, Nat.one_ne_zero, false_and, and_false, and_true, true_and, and_self, if_true, if_false, reduceIte, a2]
            rw [nI_31, wrI_n (show 3 * n + 1 < 18 by omega)]
            simp only [gI_sI, gJ_sI, gI_sJ, gJ_sJ, bl_e, bd_s, jn_e, Nat.reduceEqDiff, Nat.zero_ne_one, Nat.one_ne_zero, false_and, and_false, and_true, true_and, and_self, if_true, if_false, reduceIte, a2]
            rw [nI_32, wrI_n (show 3 * n + 2 < 18 by omega)]
            simp only [gI_sI, gJ_sI, gI_sJ, gJ_sJ, bl_e, bd_s, jn_e, Nat.reduceEqDiff, Nat.zero_ne_one, Nat.one_ne_zero, false_and, and_false, and_true, true_and, and_self, if_true, if_false, reduceIte, a2, nI_p, nI_pred]
          case rk =>
            unfold I_rk at h3 ⊢
            unfold nR at *
            simp only [gI_sI, gJ_sI, gI_sJ, gJ_sJ, bl_e, bd_s, jn_e, Nat.reduceEqDiff, Nat.zero_ne_one, Nat.one_ne_zero, false_and, and_false, and_true, true_and, and_self, if_true, if_false, reduceIte]
            rw [nv_n (by omega)]
            refine ⟨Nb_n (by omega) (by decide), fun r hr => ?_⟩
            by_cases e : r = n
            · subst e
              simp only [if_true]
              rw [if_neg (by omega), if_neg (by omega)]
              simp
            · rw [if_neg e, if_neg e, if_neg (by omega), if_neg (by omega), if_neg (by omega), if_neg (by omega), if_neg (by omega), if_neg (by omega)]
              exact h3.2.2 r (by omega)
          case cu =>
            unfold I_cu I_co at h6 ⊢
            unfold sT nM at *
            have e1 : nR (sI (sI (sI (sI (sI (sI (sI M 7 n p) 8 n q) 6 0 (nI (n + 1))) 38 (3 * n) p) 38 (3 * n + 1) q) 38 (3 * n + 2) 0) 32 17 (nI (n + 1))) = n + 1 := by
              unfold nR; rw [gI_s, nv_n (by omega)]
            rw [e1]
            rw [en] at h6
            simp only [gI_sI, gJ_sI, gI_sJ, gJ_sJ, bl_e, bd_s, jn_e, Nat.reduceEqDiff, Nat.zero_ne_one, Nat.one_ne_zero, false_and, and_false, and_true, true_and, and_self, if_true, if_false, reduceIte]
            obtain ⟨g1, g2, g3, g4, g5, g6, g7, g8, g9, g10, g11, g12⟩ := h6
            refine ⟨g1, g2, g3, g4, g5, g6, g7, g8, g9, g10.up (pw_le (Nat.le_succ n)), fun r hr => ?_, g12⟩
            by_cases e : r = n
            · subst e
              rw [if_pos rfl, tb_0 g10]
              simp
            · rw [if_neg (by omega), if_neg (by omega), if_neg (by omega)]
              exact g11 r (by omega)
          case kp =>
            have e1 : nR (sI (sI (sI (sI (sI (sI (sI M 7 n p) 8 n q) 6 0 (nI (n + 1))) 38 (3 * n) p) 38 (3 * n + 1) q) 38 (3 * n + 2) 0) 32 17 (nI (n + 1))) = n + 1 := by
              unfold nR; rw [gI_s, nv_n (by omega)]
            unfold I_kp at h7 ⊢
            unfold nM at *
            rw [e1]
            rw [en] at h7
            simp only [gI_sI, gJ_sI, gI_sJ, gJ_sJ, bl_e, bd_s, jn_e, Nat.reduceEqDiff, Nat.zero_ne_one, Nat.one_ne_zero, false_and, and_false, and_true, true_and, and_self, if_true, if_false, reduceIte]
            refine h7.imp id (fun ⟨g1, g2, g3, g4, g5, g6⟩ => ⟨g1, g2, g3, g4, g5, fun z => ?_⟩)
            obtain ⟨y1, y2, y3⟩ := g6 z
            refine ⟨y1.up (Nat.le_succ _), y2, fun w => ?_⟩
            obtain ⟨m, hm, em⟩ := y1.get
            rw [em] at w
            have := (nI_eq (by omega) (by omega)).mp w
            omega
          case z => intro w; simp only [gI_sI, gJ_sI, gI_sJ, gJ_sJ, bl_e, bd_s, jn_e, Nat.reduceEqDiff, Nat.zero_ne_one, Nat.one_ne_zero, false_and, and_false, and_true, true_and, and_self, if_true, if_false, reduceIte] at w; exact absurd w hn
          all_goals (intro c k hx; first | (unfold F_pg; omega) | (unfold F_nt; omega) | (unfold F_rk; omega) | (unfold F_mn; omega) | (unfold F_dn; omega) | (unfold F_cu; omega) | (unfold F_kp; omega) | (unfold F_z; omega))
        · refine Bo_same h hz (-104) ?_ ?_
          · unfold sp_X10_rocket; rw [out_0 (x := 10) (y := 120) rfl rfl hp, bd_s, if_pos rfl, out_0 (x := 0) (y := 9) rfl rfl hq, bd_s, if_pos rfl, hasN_1 h2 hi hn, bd_s, if_neg i10, a3, if_neg (c_nlt 6 6 rfl hge (by omega))]
          · unfold sp_X11_rocket; rw [in_1 (x := 10) (y := 120) rfl rfl hp, bd_s, if_neg i10, in_1 (x := 0) (y := 9) rfl rfl hq, bd_s, if_neg i10, lacks_0 hn, bd_s, if_pos rfl, a2, if_pos (by rw [show nR M = 6 by omega]; rfl)]
    · refine Bo_same h hz (-102) ?_ ?_
      · unfold sp_X10_rocket; rw [out_0 (x := 10) (y := 120) rfl rfl hp, bd_s, if_pos rfl, out_1 (x := 0) (y := 9) rfl rfl hq, bd_s, if_neg i10]
      · unfold sp_X11_rocket; rw [in_1 (x := 10) (y := 120) rfl rfl hp, bd_s, if_neg i10, in_0 (x := 0) (y := 9) rfl rfl hq, bd_s, if_pos rfl]
  · refine Bo_same h hz (-102) ?_ ?_
    · unfold sp_X10_rocket; rw [out_1 (x := 10) (y := 120) rfl rfl hp, bd_s, if_neg i10]
    · unfold sp_X11_rocket; rw [in_0 (x := 10) (y := 120) rfl rfl hp, bd_s, if_pos rfl]
