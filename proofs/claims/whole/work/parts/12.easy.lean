/-! THE CALLS, one by one: the easy ones -/
theorem out_0 {p a b : Int32} {M : Mm} {x y : Int} (ha : a.toInt = x) (hb : b.toInt = y) (h : x ≤ p.toInt ∧ p.toInt ≤ y) : sp_X10_isOutside p a b M = some (0, M) := by rw [out_e, ha, hb, if_pos h]
theorem out_1 {p a b : Int32} {M : Mm} {x y : Int} (ha : a.toInt = x) (hb : b.toInt = y) (h : ¬ (x ≤ p.toInt ∧ p.toInt ≤ y)) : sp_X10_isOutside p a b M = some (1, M) := by rw [out_e, ha, hb, if_neg h]
theorem in_1 {p : Int32} {a b : Int64} {M : Mm} {x y : Int} (ha : a.toInt = x) (hb : b.toInt = y) (h : x ≤ p.toInt ∧ p.toInt ≤ y) : sp_X11_in p.toInt64 a b M = some (1, M) := by rw [in_e, ha, hb, if_pos h]
theorem in_0 {p : Int32} {a b : Int64} {M : Mm} {x y : Int} (ha : a.toInt = x) (hb : b.toInt = y) (h : ¬ (x ≤ p.toInt ∧ p.toInt ≤ y)) : sp_X11_in p.toInt64 a b M = some (0, M) := by rw [in_e, ha, hb, if_neg h]
theorem i10 : ¬ (1 : Int32) = 0 := by decide
theorem hasN_e {i : Nat} {M : Mm} (h : I_nt i M) (hi : i < 1000) : sp_X10_hasNight M = some (if gI M 32 7 = 0 then 0 else 1, M) := by
  obtain ⟨n, hn, en⟩ := h.1.get
  unfold sp_X10_hasNight
  rw [h.2.1]
  by_cases hq : gI M 32 7 = 0
  · rw [if_pos hq, h.2.2.2.2.1.mpr hq, if_neg (by decide)]
  · rw [if_neg hq, if_pos]
    have h0 : ¬ gI M 32 14 = 0 := fun z => hq (h.2.2.2.2.1.mp z)
    rw [en] at h0 ⊢
    have h1 : n ≠ 0 := fun z => h0 (by rw [z]; rfl)
    exact (nI_ltI (a := 0) (by decide) (by omega)).mpr (by omega)
theorem hasN_0 {i : Nat} {M : Mm} (h : I_nt i M) (hi : i < 1000) (q : gI M 32 7 = 0) : sp_X10_hasNight M = some (0, M) := by rw [hasN_e h hi, if_pos q]
theorem hasN_1 {i : Nat} {M : Mm} (h : I_nt i M) (hi : i < 1000) (q : ¬ gI M 32 7 = 0) : sp_X10_hasNight M = some (1, M) := by rw [hasN_e h hi, if_neg q]
theorem lacks_1 {M : Mm} (q : gI M 32 7 = 0) : sp_X11_lacks M = some (1, M) := by unfold sp_X11_lacks; rw [if_pos q]
theorem lacks_0 {M : Mm} (q : ¬ gI M 32 7 = 0) : sp_X11_lacks M = some (0, M) := by unfold sp_X11_lacks; rw [if_neg q]
theorem Bo_letter {i : Nat} {M : Mm} (h : Inv i M) (hz : I_z M) (p : Int32) : Bo i M (sp_X10_letter p) (sp_X11_letter p) := by
  by_cases hp : (1 : Int) ≤ p.toInt ∧ p.toInt ≤ 126
  · obtain ⟨h1, h2, h3, h4, h5, h6, h7⟩ := id h
    obtain ⟨n, hn, en⟩ := h1.1.get
    obtain ⟨j, hj1, hj2, rfl⟩ := nI_of_rng (a := 1) (b := 126) hp.1 hp.2 (by decide)
    have en1 : gI M 1 1 = nI n := h1.2.1.trans en
    rcases Nat.lt_or_ge n 22 with hn2 | hn2
    · have ag : ∀ c k, ¬ (c = 2 ∨ (c = 1 ∧ k = 1) ∨ c = 33 ∨ (c = 32 ∧ k = 1)) → gI (sI (sI (sI (sI M 2 n (nI j)) 1 1 (nI (n + 1))) 33 n (nI j)) 32 1 (nI (n + 1))) c k = gI M c k := by
        intro c k hx
        rw [gI_o (by omega), gI_o (by omega), gI_o (by omega), gI_o (by omega)]
      refine ⟨nI (n + 1), sI (sI M 2 n (nI j)) 1 1 (nI (n + 1)), sI (sI (sI (sI M 2 n (nI j)) 1 1 (nI (n + 1))) 33 n (nI j)) 32 1 (nI (n + 1)), ?_, ?_, h.set _ ag (Or.inr ?_) (Or.inl ?_) (Or.inl ?_) (Or.inl ?_) (Or.inl ?_) (Or.inl ?_) (Or.inl ?_), hz.set _ ag ?_⟩
      · unfold sp_X10_letter
        rw [out_0 (x := 1) (y := 126) rfl rfl hp, bd_s, if_pos rfl, en1, if_pos (show nI n < 22 from (nI_ltI (b := 22) (by omega) (by decide)).mpr hn2)]
        unfold sp_X5_add
        rw [en1, put_n (by exact hn2), bd_s, bl_e, gI_o (by omega), en1, nI_p, bd_s, gI_s]
      · unfold sp_X11_letter
        rw [in_1 (x := 1) (y := 126) rfl rfl hp, bd_s, if_neg i10]
        simp only [gI_sI, gJ_sI, gI_sJ, gJ_sJ, bl_e, bd_s, jn_e, Nat.reduceEqDiff, Nat.zero_ne_one, Nat.one_ne_zero, false_and, and_false, and_true, true_and, and_self, if_true, if_false, reduceIte, en]
        rw [if_neg (fun q => by have := (nI_eq (b := 22) (by omega) (by decide)).mp q; omega), wrI_n (by exact hn2)]
        simp only [gI_sI, gJ_sI, gI_sJ, gJ_sJ, bl_e, bd_s, jn_e, Nat.reduceEqDiff, Nat.zero_ne_one, Nat.one_ne_zero, false_and, and_false, and_true, true_and, and_self, if_true, if_false, reduceIte, en, nI_p]
      · unfold I_pg
        rw [gI_s, gI_o (by omega), gI_o (by omega), gI_s, nv_n (by omega)]
        refine ⟨Nb_n (by omega) (by decide), rfl, fun k hk => ?_⟩
        by_cases e : k = n
        · subst e
          rw [gI_o (by omega), gI_o (by omega), gI_o (by omega), gI_s, gI_o (by omega), gI_s]
          exact ⟨rfl, Nb_n hj2 (by decide)⟩
        · rw [gI_o (by omega), gI_o (by omega), gI_o (by omega), gI_o (by omega), gI_o (by omega), gI_o (by omega), gI_o (by omega), gI_o (by omega)]
          exact h1.2.2 k (by rw [en, nv_n (by omega)]; omega)
      all_goals (intro c k hx; first | (unfold F_pg; omega) | (unfold F_nt; omega) | (unfold F_rk; omega) | (unfold F_mn; omega) | (unfold F_dn; omega) | (unfold F_cu; omega) | (unfold F_kp; omega) | (unfold F_z; omega))
    · have : n = 22 := by omega
      subst this
      refine Bo_same h hz (-104) ?_ ?_
      · unfold sp_X10_letter
        rw [out_0 (x := 1) (y := 126) rfl rfl hp, bd_s, if_pos rfl, h1.2.1, en, if_neg (by decide)]
      · unfold sp_X11_letter
        rw [in_1 (x := 1) (y := 126) rfl rfl hp, bd_s, if_neg i10, en, if_pos (by decide)]
  · refine Bo_same h hz (-102) ?_ ?_
    · unfold sp_X10_letter
      rw [out_1 (x := 1) (y := 126) rfl rfl hp, bd_s, if_neg i10]
    · unfold sp_X11_letter
      rw [in_0 (x := 1) (y := 126) rfl rfl hp, bd_s, if_pos rfl]
theorem Bo_blank {i : Nat} {M : Mm} (h : Inv i M) (hz : I_z M) : Bo i M sp_X10_blank sp_X11_blank := by
  obtain ⟨h1, h2, h3, h4, h5, h6, h7⟩ := id h
  have ag : ∀ c k, ¬ ((c = 1 ∧ k = 1) ∨ (c = 32 ∧ k = 1)) → gI (sI (sI M 1 1 0) 32 1 0) c k = gI M c k := by
    intro c k hx
    rw [gI_o (by omega), gI_o (by omega)]
  refine ⟨gI M 32 1, sI M 1 1 0, sI (sI M 1 1 0) 32 1 0, ?_, ?_, h.set _ ag (Or.inr ?_) (Or.inl ?_) (Or.inl ?_) (Or.inl ?_) (Or.inl ?_) (Or.inl ?_) (Or.inl ?_), hz.set _ ag ?_⟩
  · unfold sp_X10_blank sp_X5_clear
    rw [bl_e, bl_e, bd_s, h1.2.1]
  · unfold sp_X11_blank
    rw [bl_e, bl_e, gI_o (by omega)]
  · unfold I_pg
    rw [gI_s, gI_o (by omega), gI_s]
    exact ⟨Nb_0 (by decide), rfl, fun k hk => by simp [nv] at hk⟩
  all_goals (intro c k hx; first | (unfold F_pg; omega) | (unfold F_nt; omega) | (unfold F_rk; omega) | (unfold F_mn; omega) | (unfold F_dn; omega) | (unfold F_cu; omega) | (unfold F_kp; omega) | (unfold F_z; omega))
