/-! THE CALL night, both -/
theorem fit_ag {M M1 : Mm} (a : ∀ k, gI M1 33 k = gI M 33 k) (k : Nat) : fit M1 k ↔ fit M k := by
  unfold fit dig dv
  simp only [a]
theorem Bo_night {i : Nat} {M : Mm} (h : Inv i M) (hz : I_z M) (hi : i < 1000) : Bo i M sp_X10_night sp_X11_night := by
  obtain ⟨h1, h2, h3, h4, h5, h6, h7⟩ := id h
  have n22 := h1.1.2
  have en : gI M 1 1 = nI (nv (gI M 32 1)) := h1.2.1.trans h1.1.1
  obtain ⟨f, a1, a2, a3⟩ := ex_f (fit M) (nv (gI M 32 1))
  by_cases hok : f = nv (gI M 32 1) ∧ 9 < nv (gI M 32 1)
  · obtain ⟨ef, hn⟩ := hok
    subst ef
    obtain ⟨M1, c1, c2⟩ := cnight_e h1 hn a2
    obtain ⟨o1, o2, o3, o4, o5, o6, o7, o8, o9, o10, o11, o12, o13⟩ := c2
    have k1 : gI M1 32 1 = gI M 32 1 := o1 _ _ (by omega)
    have k33 : ∀ k, gI M1 33 k = gI M 33 k := fun k => o1 _ _ (by omega)
    have pm : I_pm M1 := by
      unfold I_pm; rw [k1]
      exact ⟨h1.1, fun k hk => by rw [k33]; exact (h1.2.2 k hk).2⟩
    obtain ⟨M2, m1, m2⟩ := mnight_e pm (by rw [k1]; exact hn) (fun j hj => (fit_ag k33 j).mpr (a2 j (by rw [k1] at hj; exact hj)))
    rw [k1] at m1 m2
    have edv : ∀ k, dv M1 k = dv M k := fun k => by unfold dv; rw [k33]
    have ed : ∀ k, k < nv (gI M 32 1) → ¬ (k = 2 ∨ k = 4 ∨ k = 8) → gI M 2 k - 48 = nI (dv M k) ∧ dv M k ≤ 9 := fun k hk z => by
      have hd := (a2 k hk).d z
      refine ⟨?_, hd.v⟩
      rw [(dgt h1 hk).1, dg_n hd.1]; rfl
    obtain ⟨p1, p2, p3, p4, p5, p6, p7, p8, p9, p10, p11, p12, p13, p14, p15, p16⟩ := m2
    simp only [edv] at p4 p5 p7 p8
    obtain ⟨x1, x2⟩ := h2.1.get
    obtain ⟨x2, x3⟩ := x2
    have e14 : gI M2 32 14 = nI (x1 + 1) := by rw [p2, o1 _ _ (by omega), x3, nI_p]
    have g75 : dv M 5 + dv M 6 + dv M 7 = 10 := by
      rcases a2 7 (by omega) with y | y
      · exact absurd y.1 (by omega)
      · exact y.2.2.2.2.1 rfl
    have h19 : nv (gI M 32 1) ≤ 19 := by
      rcases Nat.lt_or_ge 19 (nv (gI M 32 1)) with h | h
      · exfalso
        rcases a2 19 h with h | h
        · exact absurd h.1 (by omega)
        · exact absurd h.2.2.2.2.2 (by omega)
      · exact h
    have d0 := ed 0 (by omega) (by omega)
    have d1 := ed 1 (by omega) (by omega)
    have d3 := ed 3 (by omega) (by omega)
    generalize nv (gI M 32 1) = n at *
    have cl : ∀ c k, c < 32 → gI M2 c k = gI M1 c k := fun c k hc => p1 _ _ (by omega)
    have nR0 : nR M2 = 0 := by unfold nR; rw [p13]; rfl
    have nM0 : nM M2 = 0 := by unfold nM; rw [p14]; rfl
    have sT0 : sT M2 = n - 9 := by unfold sT; rw [p6, nv_n (by omega)]
    have e13 : ∀ j, j < 8 → gI M2 13 j = if j = 5 then 60 else 0 := fun j hj => by rw [cl _ _ (by omega), o12 j hj]
    refine ⟨nI (n - 9), M1, M2, c1, m1, ⟨?_, ?_, ?_, ?_, ?_, ?_, ?_⟩, ?_⟩
    · unfold I_pg
      rw [p3, cl _ _ (by omega), o3]
      exact ⟨Nb_0 (by decide), rfl, fun k hk => absurd hk (by rw [show nv (0 : Int32) = 0 from rfl]; omega)⟩
    · unfold I_nt
      rw [sT0, e14, cl _ _ (by omega), o2, h2.2.1, x3, nI_p, p6, cl _ _ (by omega), o6, p4, p5, cl _ _ (by omega), o4, cl _ _ (by omega), o5, d0.1, d1.1, d3.1, p7 0 (by omega), p7 1 (by omega), p7 2 (by omega)]
      have v5 := (ed 5 (by omega) (by omega)).2
      have v6 := (ed 6 (by omega) (by omega)).2
      have v7 := (ed 7 (by omega) (by omega)).2
      refine ⟨Nb_n (by omega) (by omega), rfl, Nb_n (by omega) (by decide), rfl, ?_, Nb_n (by omega) (by decide), ?_, Nb_n (by omega) (by decide), rfl, fun k hk => ?_, ?_, fun k hk => ?_, fun _ k ka kb => ?_⟩
      · constructor
        · intro e; exact absurd e (c_ne 0 0 rfl (by omega) (by omega) (by decide))
        · intro e; exact absurd e (c_ne 0 0 rfl (by omega) (by omega) (by decide))
      · rw [show (10 : Int32) = nI 10 from rfl, nI_mul, nI_add]
      · have := ed (5 + k) (by omega) (by omega)
        rw [cl _ _ (by omega), o7 k hk, p7 k hk, this.1]
        exact ⟨rfl, Nb_n (by omega) (by decide)⟩
      · show nv (nI (dv M 5)) + nv (nI (dv M 6)) + nv (nI (dv M 7)) ≤ 10
        rw [nv_n (by omega), nv_n (by omega), nv_n (by omega)]
        omega
      · have := ed (9 + k) (by omega) (by omega)
        rw [cl _ _ (by omega), o8 k hk, p8 k (by omega), if_pos hk, this.1]
        exact ⟨rfl, Nb_n (by omega) (by decide)⟩
      · rw [p8 k kb, if_neg (by omega)]
    · unfold I_rk
      rw [nR0, p13, cl _ _ (by omega), o9]
      exact ⟨Nb_0 (by decide), rfl, fun r hr => by omega⟩
    · unfold I_mn
      rw [nM0, p14, cl _ _ (by omega), o10]
      exact ⟨Nb_0 (by decide), rfl, fun r hr => by omega, fun m _ hm => by rw [cl _ _ (by omega), o11 m hm]⟩
    · unfold I_dn
      rw [p1 _ _ (by omega), o1 _ _ (by omega), cl _ _ (by omega), o1 _ _ (by omega)]
      exact h5
    · unfold I_cu I_co
      rw [nR0, nM0, sT0, p9, p10, p11, p12, p15, p16, e13 0 (by omega), e13 1 (by omega), e13 2 (by omega), e13 3 (by omega), e13 4 (by omega), e13 5 (by omega), e13 6 (by omega), e13 7 (by omega)]
      refine ⟨Nb_0 (by decide), Or.inl ?_, rfl, Nb_0 (by decide), rfl, Nb_0 (by decide), rfl, Nb_n (n := 60) (by omega) (by decide), rfl, Nb_0 (by decide), fun r hr => by omega, Nb_0 (by decide), fun m hm => by omega, Nb_0 (by decide), rfl, fun k hk => absurd hk (by rw [show nv (0 : Int32) = 0 from rfl]; omega), fun b hb => by omega, fun b _ hb => by rw [cl _ _ (by omega), o13 b hb], Nb_0 (by decide), rfl, fun k hk => absurd hk (by rw [show nv (0 : Int32) = 0 from rfl]; omega)⟩
      rw [show nv (0 : Int32) = 0 from rfl]; omega
    · unfold I_kp at h7 ⊢
      have q : ∀ j, j = 35 ∨ j = 42 ∨ j = 43 → gI M2 32 j = gI M 32 j := fun j hj => by rw [p1 _ _ (by omega), o1 _ _ (by omega)]
      have q17 : ∀ j, gI M2 17 j = gI M 17 j := fun j => by rw [p1 _ _ (by omega), o1 _ _ (by omega)]
      rw [q 35 (by omega), q 42 (by omega), q 43 (by omega), q17, q17, q17, e14]
      rcases h7 with y | ⟨y1, y2, y3, y4, y5, y6⟩
      · exact Or.inl y
      · rw [x3, nv_n (by omega)] at y4
        refine Or.inr ⟨y1, y2, y3, by rw [nv_n (by omega)]; exact y4.up (by omega), y5, fun e => ?_⟩
        exfalso
        rw [e] at y4
        have := y4.2
        rw [nv_n (by omega)] at this
        omega
    · intro e
      rw [p6] at e
      exact absurd e (c_ne 0 0 rfl (by omega) (by omega) (by decide))
  · obtain ⟨M', e1, e2, e3⟩ := mfp_e h1.m a1 a2 a3
    refine ⟨-103, M, M', ?_, ?_, (e2.sm.inv h).up, e2.sm.z hz⟩
    · unfold sp_X10_night sp_X5_isNight
      have e0 := cfp_e h1 a1 a2 a3
      rw [en]
      by_cases y : 9 < nv (gI M 32 1)
      · rw [if_pos (c_gt 9 9 rfl y (by omega)), e0, bd_s, en, if_neg (by rw [nI_eq (by omega) (by omega)]; omega), bd_s, if_pos rfl]
      · rw [if_neg (c_ngt 9 9 rfl (by omega) (by decide)), bd_s, if_pos rfl]
    · unfold sp_X11_night
      rw [e1, bd_s, e2 32 1 (by omega)]
      by_cases y : f < nv (gI M 32 1)
      · rw [if_pos (by rw [h1.1.1]; exact (nI_ltI (by omega) (by omega)).mpr y)]
      · have ef : f = nv (gI M 32 1) := by omega
        have := (e3 ef).2.2.2.2.2.1
        rw [if_neg (by rw [h1.1.1, nI_ltI (by omega) (by omega)]; exact y), this, if_pos (by rw [show f - 9 = 0 by omega]; rfl)]
