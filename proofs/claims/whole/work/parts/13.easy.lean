/-! THE CALLS: sea, rockets, men, hawser, minutes, wrecks, what is said -/
theorem c_lt {n : Nat} (x : Int32) (b : Nat) (hx : nI b = x) (h : n < b) (hb : b < 2 ^ 31) : nI n < x := hx ▸ (nI_ltI (by omega) hb).mpr h
theorem c_nlt {n : Nat} (x : Int32) (b : Nat) (hx : nI b = x) (h : b ≤ n) (hn : n < 2 ^ 31) : ¬ nI n < x := fun q => by
  subst hx
  have := (nI_ltI hn (by omega)).mp q
  omega
theorem c_gt {n : Nat} (x : Int32) (b : Nat) (hx : nI b = x) (h : b < n) (hn : n < 2 ^ 31) : x < nI n := hx ▸ (nI_ltI (by omega) hn).mpr h
theorem c_ngt {n : Nat} (x : Int32) (b : Nat) (hx : nI b = x) (h : n ≤ b) (hb : b < 2 ^ 31) : ¬ x < nI n := fun q => by
  subst hx
  have := (nI_ltI hb (by omega)).mp q
  omega
theorem c_ne {n : Nat} (x : Int32) (b : Nat) (hx : nI b = x) (h : n ≠ b) (hn : n < 2 ^ 31) (hb : b < 2 ^ 31) : ¬ nI n = x := fun q => h ((nI_eq hn hb).mp (q.trans hx.symm))
theorem l0 : (0 : Int64).toInt = 0 := by decide
theorem rng (p : Int32) (a b : Nat) (hb : b < 2 ^ 31) : (∃ j, a ≤ j ∧ j ≤ b ∧ p = nI j) ∨ ¬ ((a : Int) ≤ p.toInt ∧ p.toInt ≤ (b : Int)) := by
  by_cases h : (a : Int) ≤ p.toInt ∧ p.toInt ≤ (b : Int)
  · exact Or.inl (nI_of_rng h.1 h.2 hb)
  · exact Or.inr h
theorem toI_m1 {n : Nat} (h : n ≤ 64) : (nI n - 1).toInt = (n : Int) - 1 := by
  rcases n with _ | n
  · decide
  · rw [nI_pred, nI_int (by omega)]; omega
theorem I_rk.n {M : Mm} (h : I_rk M) : nR M ≤ 6 ∧ gI M 32 17 = nI (nR M) ∧ gI M 6 0 = nI (nR M) := ⟨h.1.2, h.1.1, h.2.1.trans h.1.1⟩
theorem I_mn.n {M : Mm} (h : I_mn M) : nM M ≤ 6 ∧ gI M 32 22 = nI (nM M) ∧ gI M 9 0 = nI (nM M) := ⟨h.1.2, h.1.1, h.2.1.trans h.1.1⟩
theorem I_nt.s {i : Nat} {M : Mm} (h : I_nt i M) : sT M ≤ 10 ∧ gI M 32 7 = nI (sT M) ∧ gI M 3 1 = nI (sT M) := ⟨h.2.2.1.2, h.2.2.1.1, h.2.2.2.1.trans h.2.2.1.1⟩
theorem has_1 {M : Mm} (h : I_rk M) {j : Nat} (hj : j < nR M) : sp_X6_has (nI j) M = some (1, M) := by
  obtain ⟨a, b, c⟩ := h.n
  unfold sp_X6_has
  rw [if_neg (nI_pos (by omega)), c, if_pos ((nI_ltI (by omega) (by omega)).mpr hj)]
theorem isR_1 {M : Mm} (h : I_rk M) {j : Nat} (hj : j < nR M) : sp_X11_isRocket (nI j) M = some (1, M) := by
  obtain ⟨a, b, c⟩ := h.n
  unfold sp_X11_isRocket
  rw [in_e, b, Int32.toInt_toInt64, toI_m1 (by omega), nI_int (by omega), if_pos ⟨by rw [l0]; omega, by omega⟩, bd_s]
  rfl
theorem has_0 {M : Mm} (h : I_rk M) {p : Int32} (hp : ¬ ∃ j, j < nR M ∧ p = nI j) : sp_X6_has p M = some (0, M) := by
  obtain ⟨a, b, c⟩ := h.n
  unfold sp_X6_has
  by_cases h0 : p < 0
  · rw [if_pos h0]
  · rw [if_neg h0, c, if_neg]
    intro h1
    obtain ⟨j, hj, rfl⟩ := nI_of h0
    exact hp ⟨j, (nI_ltI hj (by omega)).mp h1, rfl⟩
theorem isR_0 {M : Mm} (h : I_rk M) {p : Int32} (hp : ¬ ∃ j, j < nR M ∧ p = nI j) : sp_X11_isRocket p M = some (0, M) := by
  obtain ⟨a, b, c⟩ := h.n
  unfold sp_X11_isRocket
  rw [in_e, b, Int32.toInt_toInt64, toI_m1 (by omega), if_neg, bd_s]
  · rfl
  · rintro ⟨h1, h2⟩
    rw [l0] at h1
    obtain ⟨j, h3, h4, h5⟩ := nI_of_rng (p := p) (a := 0) (b := nR M - 1) (by omega) (by omega) (by omega)
    exact hp ⟨j, by omega, h5⟩
theorem mhas_1 {M : Mm} (h : I_mn M) {j : Nat} (hj : j < nM M) : sp_X2_has (nI j) M = some (1, M) := by
  obtain ⟨a, b, c⟩ := h.n
  unfold sp_X2_has
  rw [if_neg (nI_pos (by omega)), c, if_pos ((nI_ltI (by omega) (by omega)).mpr hj)]
theorem isM_1 {M : Mm} (h : I_mn M) {j : Nat} (hj : j < nM M) : sp_X11_isMan (nI j) M = some (1, M) := by
  obtain ⟨a, b, c⟩ := h.n
  unfold sp_X11_isMan
  rw [in_e, b, Int32.toInt_toInt64, toI_m1 (by omega), nI_int (by omega), if_pos ⟨by rw [l0]; omega, by omega⟩, bd_s]
  rfl
theorem mhas_0 {M : Mm} (h : I_mn M) {p : Int32} (hp : ¬ ∃ j, j < nM M ∧ p = nI j) : sp_X2_has p M = some (0, M) := by
  obtain ⟨a, b, c⟩ := h.n
  unfold sp_X2_has
  by_cases h0 : p < 0
  · rw [if_pos h0]
  · rw [if_neg h0, c, if_neg]
    intro h1
    obtain ⟨j, hj, rfl⟩ := nI_of h0
    exact hp ⟨j, (nI_ltI hj (by omega)).mp h1, rfl⟩
theorem isM_0 {M : Mm} (h : I_mn M) {p : Int32} (hp : ¬ ∃ j, j < nM M ∧ p = nI j) : sp_X11_isMan p M = some (0, M) := by
  obtain ⟨a, b, c⟩ := h.n
  unfold sp_X11_isMan
  rw [in_e, b, Int32.toInt_toInt64, toI_m1 (by omega), if_neg, bd_s]
  · rfl
  · rintro ⟨h1, h2⟩
    rw [l0] at h1
    obtain ⟨j, h3, h4, h5⟩ := nI_of_rng (p := p) (a := 0) (b := nM M - 1) (by omega) (by omega) (by omega)
    exact hp ⟨j, by omega, h5⟩
/-- what sea() tells -/
def seaV (M : Mm) (j : Nat) : Int32 := if j = 0 then gI M 32 8 else if j = 1 then gI M 32 9 else if j < 5 then gI M 36 (j - 2) else gI M 37 (j - 10)
theorem tell_e {i : Nat} {M : Mm} (h : I_nt i M) (hn : ¬ gI M 32 7 = 0) {j : Nat} (hj : j ≤ 4 ∨ (10 ≤ j ∧ j ≤ 19)) : sp_X7_tell (nI j) M = some (seaV M j, M) := by
  obtain ⟨s1, s2, s3⟩ := h.s
  obtain ⟨h1, h2, h3, h4, h5, h6, h7, h8, h9, h10, h11, h12, h13⟩ := h
  have hs : sT M ≠ 0 := fun z => hn (by rw [s2, z]; rfl)
  unfold sp_X7_tell seaV
  by_cases j0 : j = 0
  · subst j0; rw [if_pos (by decide), if_pos rfl, h7]
  rw [if_neg (c_ne 0 0 rfl j0 (by omega) (by decide)), if_neg j0]
  by_cases j1 : j = 1
  · subst j1; rw [if_pos (by decide), if_pos rfl, h9]
  rw [if_neg (c_ne 1 1 rfl j1 (by omega) (by decide)), if_neg j1]
  rcases hj with hj | hj
  · rw [if_pos (c_lt 10 10 rfl (by omega) (by decide)), if_pos (by omega), show nI j - 2 = nI (j - 2) from nI_sub (b := 2) (by omega), at_n (show j - 2 < 3 by omega), bd_s, (h10 (j - 2) (by omega)).1]
  · rw [if_neg (c_nlt 10 10 rfl (by omega) (by omega)), if_neg (show ¬ j < 5 by omega), show nI j - 10 = nI (j - 10) from nI_sub (b := 10) (by omega), s3]
    by_cases hq : j - 10 < sT M
    · rw [if_pos ((nI_ltI (by omega) (by omega)).mpr hq), at_n (show j - 10 < 10 by omega), bd_s, (h12 _ hq).1]
    · rw [if_neg (fun q => hq ((nI_ltI (by omega) (by omega)).mp q)), h13 hs (j - 10) (by omega) (by omega)]
theorem tellS_e {M : Mm} {j : Nat} (hj : j ≤ 4 ∨ (10 ≤ j ∧ j ≤ 19)) : sp_X11_tellSea (nI j) M = some (seaV M j, M) := by
  unfold sp_X11_tellSea seaV
  by_cases j0 : j = 0
  · subst j0; rw [if_pos (by decide), if_pos rfl]
  rw [if_neg (c_ne 0 0 rfl j0 (by omega) (by decide)), if_neg j0]
  by_cases j1 : j = 1
  · subst j1; rw [if_pos (by decide), if_pos rfl]
  rw [if_neg (c_ne 1 1 rfl j1 (by omega) (by decide)), if_neg j1]
  rcases hj with hj | hj
  · rw [if_pos (c_lt 5 5 rfl (by omega) (by decide)), if_pos (by omega), show nI j - 2 = nI (j - 2) from nI_sub (b := 2) (by omega), rdI_n (show j - 2 < 3 by omega)]
  · rw [if_neg (c_nlt 5 5 rfl (by omega) (by omega)), if_neg (show ¬ j < 5 by omega), show nI j - 10 = nI (j - 10) from nI_sub (b := 10) (by omega), rdI_n (show j - 10 < 10 by omega)]
theorem sea_e {i : Nat} {M : Mm} (h : I_nt i M) (hi : i < 1000) (hn : ¬ gI M 32 7 = 0) {j : Nat} (hj : j ≤ 4 ∨ (10 ≤ j ∧ j ≤ 19)) : sp_X10_sea (nI j) M = some (seaV M j, M) := by
  unfold sp_X10_sea
  rw [out_e]
  simp only [bd_s, jn_e, ite01, hasN_1 h hi hn]
  rw [nI_int (by omega)]
  have e0 : (0 : Int32).toInt = 0 := by decide
  have e4 : (4 : Int32).toInt = 4 := by decide
  have e10 : (10 : Int32).toInt = 10 := by decide
  have e19 : (19 : Int32).toInt = 19 := by decide
  rw [e0, e4, out_e, nI_int (by omega), e10, e19]
  simp only [bd_s, ite01, if_neg i10, tell_e h hn hj]
  by_cases q : j ≤ 4
  · rw [if_pos ⟨by omega, by omega⟩]
  · rw [if_neg (by omega), if_pos ⟨by omega, by omega⟩, hasN_1 h hi hn, bd_s, if_neg i10, tell_e h hn hj, bd_s]
theorem Bo_sea {i : Nat} {M : Mm} (h : Inv i M) (hz : I_z M) (hi : i < 1000) (p : Int32) : Bo i M (sp_X10_sea p) (sp_X11_sea p) := by
  obtain ⟨h1, h2, h3, h4, h5, h6, h7⟩ := id h
  have e0 : (0 : Int32).toInt = 0 := by decide
  have e4 : (4 : Int32).toInt = 4 := by decide
  have e10 : (10 : Int32).toInt = 10 := by decide
  have e19 : (19 : Int32).toInt = 19 := by decide
  have l4 : (4 : Int64).toInt = 4 := by decide
  have l10 : (10 : Int64).toInt = 10 := by decide
  have l19 : (19 : Int64).toInt = 19 := by decide
  by_cases hp : ((0 : Int) ≤ p.toInt ∧ p.toInt ≤ 4) ∨ ((10 : Int) ≤ p.toInt ∧ p.toInt ≤ 19)
  · have hj : ∃ j, (j ≤ 4 ∨ (10 ≤ j ∧ j ≤ 19)) ∧ p = nI j := by
      rcases hp with q | q
      · obtain ⟨j, a, b, c⟩ := nI_of_rng (a := 0) (b := 4) q.1 q.2 (by decide); exact ⟨j, Or.inl b, c⟩
      · obtain ⟨j, a, b, c⟩ := nI_of_rng (a := 10) (b := 19) q.1 q.2 (by decide); exact ⟨j, Or.inr ⟨a, b⟩, c⟩
    obtain ⟨j, hj, rfl⟩ := hj
    by_cases hn : gI M 32 7 = 0
    · refine Bo_same h hz (-103) ?_ ?_
      · unfold sp_X10_sea
        simp only [out_e, bd_s, jn_e, ite01, hasN_0 h2 hi hn, e0, e4, e10, e19, if_true]
        rcases hp with q | q
        · rw [if_pos q]
        · by_cases q2 : (0 : Int) ≤ (nI j).toInt ∧ (nI j).toInt ≤ 4
          · rw [if_pos q2]
          · rw [if_neg q2, if_pos q]
      · unfold sp_X11_sea
        simp only [in_e, bd_s, jn_e, ite10, lacks_1 hn, l0, l4, l10, l19, if_neg i10]
        rcases hp with q | q
        · rw [if_neg (fun z => z q)]
        · by_cases q2 : (0 : Int) ≤ (nI j).toInt ∧ (nI j).toInt ≤ 4
          · rw [if_neg (fun z => z q2)]
          · rw [if_pos q2, if_neg (fun z => z q)]
    · refine Bo_same h hz (seaV M j) (sea_e h2 hi hn hj) ?_
      unfold sp_X11_sea
      simp only [in_e, bd_s, jn_e, ite10, lacks_0 hn, l0, l4, l10, l19, if_true, tellS_e hj]
      rcases hp with q | q
      · rw [if_neg (fun z => z q)]
      · by_cases q2 : (0 : Int) ≤ (nI j).toInt ∧ (nI j).toInt ≤ 4
        · rw [if_neg (fun z => z q2)]
        · rw [if_pos q2, if_neg (fun z => z q)]
  · refine Bo_same h hz (-102) ?_ ?_
    · unfold sp_X10_sea
      simp only [out_e, bd_s, jn_e, ite01, e0, e4, e10, e19]
      rw [if_neg (fun z => hp (Or.inl z)), if_neg (fun z => hp (Or.inr z))]
    · unfold sp_X11_sea
      simp only [in_e, bd_s, jn_e, ite10, l0, l4, l10, l19]
      rw [if_pos (fun z => hp (Or.inl z)), if_pos (fun z => hp (Or.inr z))]
theorem Bo_hawser {i : Nat} {M : Mm} (h : Inv i M) (hz : I_z M) (hi : i < 1000) (p : Int32) : Bo i M (sp_X10_hawser p) (sp_X11_hawser p) := by
  obtain ⟨h1, h2, h3, h4, h5, h6, h7⟩ := id h
  by_cases hp : (0 : Int) ≤ p.toInt ∧ p.toInt ≤ 60
  · by_cases hn : gI M 32 7 = 0
    · refine Bo_same h hz (-103) ?_ ?_
      · unfold sp_X10_hawser; rw [out_0 (x := 0) (y := 60) rfl rfl hp, bd_s, if_pos rfl, hasN_0 h2 hi hn, bd_s, if_pos rfl]
      · unfold sp_X11_hawser; rw [in_1 (x := 0) (y := 60) rfl rfl hp, bd_s, if_neg i10, lacks_1 hn, bd_s, if_neg i10]
    · obtain ⟨j, hj1, hj2, rfl⟩ := nI_of_rng (a := 0) (b := 60) hp.1 hp.2 (by decide)
      have ag : ∀ c k, ¬ ((c = 13 ∧ k = 5) ∨ (c = 32 ∧ k = 13)) → gI (sI (sI M 13 5 (nI j)) 32 13 (nI j)) c k = gI M c k := by
        intro c k hx
        rw [gI_o (by omega), gI_o (by omega)]
      refine ⟨gI M 32 13, sI M 13 5 (nI j), sI (sI M 13 5 (nI j)) 32 13 (nI j), ?_, ?_, h.set _ ag (Or.inl ?_) (Or.inl ?_) (Or.inl ?_) (Or.inl ?_) (Or.inl ?_) (Or.inr ?cu) (Or.inl ?_), hz.set _ ag ?_⟩
      · unfold sp_X10_hawser
        rw [out_0 (x := 0) (y := 60) rfl rfl hp, bd_s, if_pos rfl, hasN_1 h2 hi hn, bd_s, if_neg i10]
        simp only [gI_sI, gJ_sI, gI_sJ, gJ_sJ, bl_e, bd_s, jn_e, Nat.reduceEqDiff, Nat.zero_ne_one, Nat.one_ne_zero, false_and, and_false, and_true, true_and, and_self, if_true, if_false, reduceIte, h6.2.2.2.2.2.2.2.2.1]
      · unfold sp_X11_hawser
        rw [in_1 (x := 0) (y := 60) rfl rfl hp, bd_s, if_neg i10, lacks_0 (by simp only [gI_sI, gJ_sI, gI_sJ, gJ_sJ, bl_e, bd_s, jn_e, Nat.reduceEqDiff, Nat.zero_ne_one, Nat.one_ne_zero, false_and, and_false, and_true, true_and, and_self, if_true, if_false, reduceIte]; exact hn), bd_s, if_pos rfl]
        simp only [gI_sI, gJ_sI, gI_sJ, gJ_sJ, bl_e, bd_s, jn_e, Nat.reduceEqDiff, Nat.zero_ne_one, Nat.one_ne_zero, false_and, and_false, and_true, true_and, and_self, if_true, if_false, reduceIte]
      case cu =>
        unfold I_cu I_co at h6 ⊢
        unfold sT nR nM at *
        simp only [gI_sI, gJ_sI, gI_sJ, gJ_sJ, bl_e, bd_s, jn_e, Nat.reduceEqDiff, Nat.zero_ne_one, Nat.one_ne_zero, false_and, and_false, and_true, true_and, and_self, if_true, if_false, reduceIte]
        obtain ⟨g1, g2, g3, g4, g5, g6, g7, g8, g9, g10⟩ := h6
        exact ⟨g1, g2, g3, g4, g5, g6, g7, Nb_n hj2 (by decide), g10⟩
      all_goals (intro c k hx; first | (unfold F_pg; omega) | (unfold F_nt; omega) | (unfold F_rk; omega) | (unfold F_mn; omega) | (unfold F_dn; omega) | (unfold F_cu; omega) | (unfold F_kp; omega) | (unfold F_z; omega))
  · refine Bo_same h hz (-102) ?_ ?_
    · unfold sp_X10_hawser; rw [out_1 (x := 0) (y := 60) rfl rfl hp, bd_s, if_neg i10]
    · unfold sp_X11_hawser; rw [in_0 (x := 0) (y := 60) rfl rfl hp, bd_s, if_pos rfl]
