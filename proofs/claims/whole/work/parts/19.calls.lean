/-! THE CALLS fire, said, image, restore -/
/-- where a rocket falls -/
def fa (M : Mm) (r : Nat) (s g : Int32) : Int32 := (gI M 38 (3 * r) - gI M 38 (3 * r + 1) * s) + g * gI M 32 9
theorem cfa_e {i : Nat} {M : Mm} (h2 : I_nt i M) (h3 : I_rk M) {r : Nat} (hr : r < nR M) (s g : Int32) : sp_X6_fallsAt (nI r) s g M = some (fa M r s g, M) := by
  have n1 := h3.n.1
  obtain ⟨e1, e2⟩ := h3.2.2 r hr
  unfold sp_X6_fallsAt fa
  rw [at_n (show r < 6 by omega), bd_s, at_n (show r < 6 by omega), bd_s, e1, e2]
  unfold sp_X7_drift
  rw [bd_s, h2.2.2.2.2.2.2.2.2.1]
theorem mfa_e {M : Mm} {r : Nat} (hr : r < 6) (s g : Int32) : sp_X11_fallsAt (nI r) s g M = some (fa M r s g, M) := by
  unfold sp_X11_fallsAt fa
  rw [nI_31, nI_30, rdI_n (show 3 * r < 18 by omega), rdI_n (show 3 * r + 1 < 18 by omega)]
/-- whether it falls right -/
def rg (M : Mm) (p : Int32) : Bool := decide ((gI M 32 8).toInt ≤ p.toInt ∧ p.toInt ≤ (gI M 32 8).toInt + 5)
theorem far5 {i : Nat} {M : Mm} (h2 : I_nt i M) : (gI M 32 8 + 5).toInt = (gI M 32 8).toInt + 5 := by
  obtain ⟨n, hn, e⟩ := h2.2.2.2.2.2.1.get
  rw [e, nI_c n 5 5 rfl, nI_int (by omega), nI_int (by omega)]
  omega
theorem crg_e {i : Nat} {M : Mm} (h2 : I_nt i M) (p : Int32) : sp_X7_isRight p M = some (if rg M p then 1 else 0, M) := by
  have f := far5 h2
  unfold sp_X7_isRight rg
  rw [h2.2.2.2.2.2.2.1]
  simp only [Int32.lt_iff_toInt_lt, decide_eq_true_eq]
  by_cases a : p.toInt < (gI M 32 8).toInt
  · rw [if_pos a, if_neg (by omega)]
  · rw [if_neg a]
    by_cases b : (gI M 32 8 + 5).toInt < p.toInt
    · rw [if_pos b, if_neg (by omega)]
    · rw [if_neg b, if_pos (by omega)]
theorem mrg_e {i : Nat} {M : Mm} (h2 : I_nt i M) (p : Int32) : sp_X11_isRight p M = some (if rg M p then 1 else 0, M) := by
  have f := far5 h2
  unfold sp_X11_isRight rg
  rw [in_e, bd_s, zb_ite, Int32.toInt_toInt64, Int32.toInt_toInt64, f]
  simp only [decide_eq_true_eq]
theorem st_lt {i : Nat} {M : Mm} (h2 : I_nt i M) (h6 : I_cu M) (hn : ¬ gI M 32 7 = 0) : gI M 32 10 / 5 = nI (nv (gI M 32 10) / 5) ∧ nv (gI M 32 10) / 5 < sT M := by
  obtain ⟨m1, m2, m3⟩ := mi_n h6
  refine ⟨?_, ?_⟩
  · rw [show gI M 32 10 / 5 = nI (nv (gI M 32 10)) / 5 by rw [← m1], nI_dc _ 5 5 rfl (by omega) (by decide)]
  · rcases h6.2.1 with z | z
    · omega
    · exact absurd z.1 (nn_s h2 hn)
theorem Bo_fire {i : Nat} {M : Mm} (h : Inv i M) (hz : I_z M) (p q : Int32) : Bo i M (sp_X10_fire p q) (sp_X11_fire p q) := by
  obtain ⟨h1, h2, h3, h4, h5, h6, h7⟩ := id h
  by_cases hp : ∃ j, j < nR M ∧ p = nI j
  · obtain ⟨r, hr, rfl⟩ := hp
    obtain ⟨n1, n2, n3⟩ := h3.n
    obtain ⟨o1, o2, o3⟩ := fb_n h3 h6
    have hn : ¬ gI M 32 7 = 0 := fun z => by
      have := (hz z).1
      rw [n2] at this
      have := (nI_eq (b := 0) (by omega) (by decide)).mp this
      omega
    obtain ⟨t1, t2⟩ := st_lt h2 h6 hn
    obtain ⟨s1, s2, s3⟩ := h2.s
    by_cases hq : (-1 : Int) ≤ q.toInt ∧ q.toInt ≤ 1
    · have hrow := h6.2.2.2.2.2.2.2.2.2.2.1 r hr
      have isf : ∀ M1, sp_X10_isIn (gI M 13 3) (nI r) M1 = some (if (nv (gI M 13 3)).testBit r then 1 else 0, M1) := fun M1 => by
        have h := isIn_e o3 (k := r) (by omega) M1
        rwa [← o1] at h
      cases hf : (nv (gI M 13 3)).testBit r with
      | true =>
        rw [hf] at hrow
        refine Bo_same h hz (-103) ?_ ?_
        · unfold sp_X10_fire; rw [has_1 h3 hr, bd_s, if_neg i10, out_0 (x := -1) (y := 1) rfl rfl hq, bd_s, if_pos rfl, isf, bd_s, hf, if_neg (by simp)]
        · unfold sp_X11_fire; rw [isR_1 h3 hr, bd_s, if_neg i10, in_1 (x := -1) (y := 1) rfl rfl hq, bd_s, if_neg i10, nI_32, rdI_n (show 3 * r + 2 < 18 by omega), hrow, if_pos (by rfl)]
      | false =>
        rw [hf] at hrow
        by_cases hb : gI M 32 12 = 1
        · refine Bo_same h hz (-103) ?_ ?_
          · unfold sp_X10_fire; rw [has_1 h3 hr, bd_s, if_neg i10, out_0 (x := -1) (y := 1) rfl rfl hq, bd_s, if_pos rfl, isf, bd_s, hf, if_pos (by simp), h6.2.2.2.2.2.2.1, hb, if_neg i10]
          · unfold sp_X11_fire; rw [isR_1 h3 hr, bd_s, if_neg i10, in_1 (x := -1) (y := 1) rfl rfl hq, bd_s, if_neg i10, nI_32, rdI_n (show 3 * r + 2 < 18 by omega), hrow, if_neg (by simp), if_pos hb]
        · have hb0 : gI M 32 12 = 0 := h6.2.2.2.2.2.1.b01.resolve_right hb
          have fl := fa M r (nI (nv (gI M 32 10) / 5)) q
          generalize efl : fa M r (nI (nv (gI M 32 10) / 5)) q = fl at *
          generalize efb : nv (gI M 13 3) = fb at *
          have hln : ∃ ln', (if rg M fl then (1 : Int32) else gI M 32 11) = ln' ∧ Nb ln' 1 := by
            refine ⟨_, rfl, ?_⟩
            split
            · exact Nb_n (n := 1) (by omega) (by decide)
            · exact h6.2.2.2.1
          obtain ⟨lnn, eln, hln⟩ := hln
          have hM1 : ∃ M1, M1 = sI (sI M 13 3 (nI (fb ||| 2 ^ r))) 13 1 lnn := ⟨_, rfl⟩
          obtain ⟨M1', eM1'⟩ := hM1
          -- the class's memory: the line is written only where it falls right
          have hM1 : ∃ M1 : Mm, (∀ c k, gI M1 c k = gI M1' c k) ∧ sp_X10_fire (nI r) q M = some (fl, M1) := by
            unfold sp_X10_fire
            rw [has_1 h3 hr, bd_s, if_neg i10, out_0 (x := -1) (y := 1) rfl rfl hq, bd_s, if_pos rfl, isf, bd_s, hf, if_pos (by simp), h6.2.2.2.2.2.2.1, hb0, if_pos rfl]
            unfold sp_X1_stage
            rw [bd_s, h6.2.2.1, t1, cfa_e h2 h3 hr, bd_s, efl]
            have ew := with_e o3 (k := r) (by omega) M
            rw [← o1] at ew
            rw [ew, bd_s]
            simp only [bl_e]
            have h2' : I_nt i (sI M 13 3 (nI (fb ||| 2 ^ r))) := h2.ag (fun c k hf => by unfold F_nt at hf; exact gI_o (by omega))
            rw [crg_e h2', bd_s]
            have erg : rg (sI M 13 3 (nI (fb ||| 2 ^ r))) fl = rg M fl := by unfold rg; simp only [gI_sI, gJ_sI, gI_sJ, gJ_sJ, bl_e, bd_s, jn_e, Nat.reduceEqDiff, Nat.zero_ne_one, Nat.one_ne_zero, false_and, and_false, and_true, true_and, and_self, if_true, if_false, reduceIte]
            rw [erg]
            cases hrg : rg M fl with
            | true =>
              rw [hrg] at eln
              refine ⟨_, ?_, by rw [if_neg (by simp)]⟩
              intro c k
              rw [eM1', ← eln]
              rfl
            | false =>
              rw [hrg] at eln
              refine ⟨_, ?_, by rw [if_pos (by simp)]⟩
              intro c k
              rw [eM1', ← eln]
              by_cases z : c = 13 ∧ k = 1
              · rw [z.1, z.2]; simp only [gI_sI, gJ_sI, gI_sJ, gJ_sJ, bl_e, bd_s, jn_e, Nat.reduceEqDiff, Nat.zero_ne_one, Nat.one_ne_zero, false_and, and_false, and_true, true_and, and_self, if_true, if_false, reduceIte]; simp [h6.2.2.2.2.1]
              · rw [gI_o (c := 13) (k := 1) z]
          obtain ⟨M1, g1, e1⟩ := hM1
          have ag1 : ∀ c k, ¬ (c = 13 ∧ (k = 1 ∨ k = 3)) → gI M1 c k = gI M c k := fun c k hx => by rw [g1, eM1', gI_o (by omega), gI_o (by omega)]
          have h2' : I_nt i M1 := h2.ag (fun c k hf => ag1 c k (by unfold F_nt at hf; omega))
          have h3' : I_rk M1 := h3.ag (fun c k hf => ag1 c k (by unfold F_rk at hf; omega))
          have hnr : nR M1 = nR M := by unfold nR; rw [ag1 _ _ (by omega)]
          have ag : ∀ c k, ¬ ((c = 13 ∧ (k = 1 ∨ k = 3)) ∨ (c = 38 ∧ k = 3 * r + 2) ∨ (c = 32 ∧ k = 11)) → gI (sI (sI M1 38 (3 * r + 2) 1) 32 11 lnn) c k = gI M c k := by
            intro c k hx
            rw [gI_o (by omega), gI_o (by omega), ag1 c k (by omega)]
          have efa : fa (sI M1 38 (3 * r + 2) 1) r (nI (nv (gI M 32 10) / 5)) q = fl := by
            rw [← efl]; unfold fa
            rw [gI_o (by omega), gI_o (by omega), gI_o (by omega), ag1 _ _ (by omega), ag1 _ _ (by omega), ag1 _ _ (by omega)]
          have h2'' : I_nt i (sI M1 38 (3 * r + 2) 1) := h2'.ag (fun c k hf => by unfold F_nt at hf; exact gI_o (by omega))
          have erg : rg (sI M1 38 (3 * r + 2) 1) fl = rg M fl := by unfold rg; rw [gI_o (by omega), ag1 _ _ (by omega)]
          refine ⟨fl, M1, sI (sI M1 38 (3 * r + 2) 1) 32 11 lnn, e1, ?_, h.set _ ag (Or.inl ?_) (Or.inl ?_) (Or.inl ?_) (Or.inl ?_) (Or.inl ?_) (Or.inr ?cu) (Or.inl ?_), ?z⟩
          · unfold sp_X11_fire
            rw [isR_1 h3' (by rw [hnr]; exact hr), bd_s, if_neg i10, in_1 (x := -1) (y := 1) rfl rfl hq, bd_s, if_neg i10, nI_32, rdI_n (show 3 * r + 2 < 18 by omega), ag1 38 _ (by omega), hrow, if_neg (by simp), ag1 32 12 (by omega), if_neg hb]
            unfold sp_X11_stageNow
            rw [bd_s, ag1 32 10 (by omega), ag1 32 7 (by omega), t1, s2, if_pos ((nI_ltI (by omega) (by omega)).mpr t2), wrI_n (show 3 * r + 2 < 18 by omega), bd_s, gI_o (by omega), ag1 32 10 (by omega), t1, mfa_e (by omega), bd_s, efa, mrg_e h2'', bd_s, erg]
            cases hrg : rg M fl with
            | true => rw [hrg] at eln; rw [if_neg (by simp), bl_e, ← eln]; rfl
            | false => rw [hrg] at eln; rw [if_pos (by simp), bl_e, gI_o (by omega), ag1 _ _ (by omega), ← eln]; rfl
          case cu =>
            have gl : ∀ k, k ≠ 11 → gI (sI (sI M1 38 (3 * r + 2) 1) 32 11 lnn) 32 k = gI M 32 k := fun k hk => by rw [gI_o (by omega), gI_o (by omega), ag1 _ _ (by omega)]
            have g13 : ∀ k, k ≠ 1 → k ≠ 3 → gI (sI (sI M1 38 (3 * r + 2) 1) 32 11 lnn) 13 k = gI M 13 k := fun k hk hk4 => by rw [gI_o (by omega), gI_o (by omega), ag1 13 k (by omega)]
            have e31 : gI (sI (sI M1 38 (3 * r + 2) 1) 32 11 lnn) 13 1 = lnn := by rw [gI_o (by omega), gI_o (by omega), g1, eM1', gI_s]
            have e33 : gI (sI (sI M1 38 (3 * r + 2) 1) 32 11 lnn) 13 3 = nI (fb ||| 2 ^ r) := by rw [gI_o (by omega), gI_o (by omega), g1, eM1', gI_o (by omega), gI_s]
            have e11 : gI (sI (sI M1 38 (3 * r + 2) 1) 32 11 lnn) 32 11 = lnn := gI_s
            have go : ∀ c k, c ≠ 13 → c ≠ 32 → c ≠ 38 → gI (sI (sI M1 38 (3 * r + 2) 1) 32 11 lnn) c k = gI M c k := fun c k a b d => by rw [gI_o (by omega), gI_o (by omega), ag1 c k (by omega)]
            have hob : fb ||| 2 ^ r ≤ 2 ^ nR M - 1 := or_lt (by omega) hr
            have p64 := pw_64 n1
            unfold I_cu I_co at h6 ⊢
            have en : nM (sI (sI M1 38 (3 * r + 2) 1) 32 11 lnn) = nM M := by unfold nM; rw [gl _ (by omega)]
            have er : nR (sI (sI M1 38 (3 * r + 2) 1) 32 11 lnn) = nR M := by unfold nR; rw [gl _ (by omega)]
            have es : sT (sI (sI M1 38 (3 * r + 2) 1) 32 11 lnn) = sT M := by unfold sT; rw [gl _ (by omega)]
            rw [en, er, es, gl 10 (by omega), gl 12 (by omega), gl 13 (by omega), gl 29 (by omega), gl 32 (by omega), g13 0 (by omega) (by omega), g13 2 (by omega) (by omega), g13 4 (by omega) (by omega), g13 5 (by omega) (by omega), g13 6 (by omega) (by omega), g13 7 (by omega) (by omega), e31, e33, e11]
            obtain ⟨f1, f2, f3, f4, f5, f6, f7, f8, f9, f10, f11, f12, f13, f14, f15, f16, f17, f18, f19, f20, f21⟩ := h6
            refine ⟨f1, f2, f3, hln, rfl, f6, f7, f8, f9, Nb_n hob (by omega), fun k hk => ?_, f12, fun k hk => by rw [go 41 _ (by omega) (by omega) (by omega), go 14 _ (by omega) (by omega) (by omega)]; exact f13 k hk, f14, f15, fun k hk => by rw [go 45 _ (by omega) (by omega) (by omega), go 45 _ (by omega) (by omega) (by omega)]; exact f16 k hk, fun b hb => ?_, fun b p q => by rw [go 15 b (by omega) (by omega) (by omega)]; exact f18 b p q, f19, f20, fun k hk => by rw [go 16 k (by omega) (by omega) (by omega), go 47 k (by omega) (by omega) (by omega)]; exact f21 k hk⟩
            · rw [nv_n (by omega), bit_o fb o3 r (by omega) k (by omega), gI_o (by omega)]
              by_cases e : k = r
              · subst e
                rw [gI_s]; simp
              · rw [gI_o (by omega), ag1 38 _ (by omega), f11 k hk, efb]
                have e' : ¬ r = k := fun z => e z.symm
                simp [e']
            · rw [go 15 b (by omega) (by omega) (by omega)]
              refine ⟨(f17 b hb).1, fun a ha => ((f17 b hb).2 a ha).trans ?_⟩
              constructor
              · rintro ⟨k, z⟩; exact ⟨k, by rw [go 45 _ (by omega) (by omega) (by omega), go 45 _ (by omega) (by omega) (by omega)]; exact z⟩
              · rintro ⟨k, z⟩; exact ⟨k, by rw [go 45 _ (by omega) (by omega) (by omega), go 45 _ (by omega) (by omega) (by omega)] at z; exact z⟩
          case z => intro w; rw [gI_o (by omega), gI_o (by omega), ag1 _ _ (by omega)] at w; exact absurd w hn
          all_goals (intro c k hx; first | (unfold F_pg; omega) | (unfold F_nt; omega) | (unfold F_rk; omega) | (unfold F_mn; omega) | (unfold F_dn; omega) | (unfold F_cu; omega) | (unfold F_kp; omega) | (unfold F_z; omega))
    · refine Bo_same h hz (-102) ?_ ?_
      · unfold sp_X10_fire; rw [has_1 h3 hr, bd_s, if_neg i10, out_1 (x := -1) (y := 1) rfl rfl hq, bd_s, if_neg i10]
      · unfold sp_X11_fire; rw [isR_1 h3 hr, bd_s, if_neg i10, in_0 (x := -1) (y := 1) rfl rfl hq, bd_s, if_pos rfl]
  · refine Bo_same h hz (-101) ?_ ?_
    · unfold sp_X10_fire; rw [has_0 h3 hp, bd_s, if_pos rfl]
    · unfold sp_X11_fire; rw [isR_0 h3 hp, bd_s, if_pos rfl]
theorem Bo_said {i : Nat} {M : Mm} (h : Inv i M) (hz : I_z M) (p q : Int32) : Bo i M (sp_X10_said p q) (sp_X11_said p q) := by
  obtain ⟨h1, h2, h3, h4, h5, h6, h7⟩ := id h
  have a1 := h4.n.1
  have p64 := pw_64 a1
  by_cases hp : ∃ a b, a < nM M ∧ b < nM M ∧ a ≠ b ∧ p = nI a ∧ q = nI b
  · obtain ⟨a, b, ha, hb, hab, rfl, rfl⟩ := hp
    have hne : ¬ nI a = nI b := fun z => hab ((nI_eq (by omega) (by omega)).mp z)
    have f14 := h6.2.2.2.2.2.2.2.2.2.2.2.2.2.1
    have f15 := h6.2.2.2.2.2.2.2.2.2.2.2.2.2.2.1
    have f17 := h6.2.2.2.2.2.2.2.2.2.2.2.2.2.2.2.2.1 b hb
    obtain ⟨n, hn, en⟩ := f14.get
    obtain ⟨w, hw, ew⟩ := f17.1.get
    have ec : gI M 13 6 = nI n := f15.trans en
    rcases Nat.lt_or_ge n 15 with hlt | hge
    · have ag1 : ∀ c k, ¬ ((c = 15 ∧ k = b) ∨ (c = 13 ∧ k = 6)) → gI (sI (sI M 15 b (nI (w ||| 2 ^ a))) 13 6 (nI (n + 1))) c k = gI M c k := by
        intro c k hx
        rw [gI_o (by omega), gI_o (by omega)]
      have h4' := h4.ag (M' := sI (sI M 15 b (nI (w ||| 2 ^ a))) 13 6 (nI (n + 1))) (fun c k hf => ag1 c k (by unfold F_mn at hf; omega))
      have hnm : nM (sI (sI M 15 b (nI (w ||| 2 ^ a))) 13 6 (nI (n + 1))) = nM M := by unfold nM; rw [ag1 _ _ (by omega)]
      have ag : ∀ c k, ¬ ((c = 15 ∧ k = b) ∨ (c = 13 ∧ k = 6) ∨ (c = 45 ∧ (k = 2 * n ∨ k = 2 * n + 1)) ∨ (c = 32 ∧ k = 29)) → gI (sI (sI (sI (sI (sI M 15 b (nI (w ||| 2 ^ a))) 13 6 (nI (n + 1))) 45 (2 * n) (nI a)) 45 (2 * n + 1) (nI b)) 32 29 (nI (n + 1))) c k = gI M c k := by
        intro c k hx
        rw [gI_o (by omega), gI_o (by omega), gI_o (by omega), gI_o (by omega), gI_o (by omega)]
      refine ⟨nI (n + 1), sI (sI M 15 b (nI (w ||| 2 ^ a))) 13 6 (nI (n + 1)), _, ?_, ?_, h.set _ ag (Or.inl ?_) (Or.inl ?_) (Or.inl ?_) (Or.inl ?_) (Or.inl ?_) (Or.inr ?cu) (Or.inl ?_), hz.set _ ag ?_⟩
      · unfold sp_X10_said
        rw [two_1 h4 ha hb hab, bd_s, if_neg i10, ec, if_pos (c_lt 15 15 rfl hlt (by decide))]
        unfold sp_X1_say
        rw [at_n (show b < 6 by omega), bd_s, ew, with_e (by omega) (by omega), bd_s, put_n (show b < 6 by omega), bd_s]
        simp only [gI_sI, gJ_sI, gI_sJ, gJ_sJ, bl_e, bd_s, jn_e, Nat.reduceEqDiff, Nat.zero_ne_one, Nat.one_ne_zero, false_and, and_false, and_true, true_and, and_self, if_true, if_false, reduceIte, ec, nI_p]
      · unfold sp_X11_said
        rw [isM_1 h4' (by rw [hnm]; exact ha), bd_s, if_neg i10, isM_1 h4' (by rw [hnm]; exact hb), bd_s, if_neg i10, if_neg hne]
        simp only [gI_sI, gJ_sI, gI_sJ, gJ_sJ, bl_e, bd_s, jn_e, Nat.reduceEqDiff, Nat.zero_ne_one, Nat.one_ne_zero, false_and, and_false, and_true, true_and, and_self, if_true, if_false, reduceIte, en]
        rw [if_neg (c_ne 15 15 rfl (by omega) (by omega) (by decide)), nI_20, wrI_n (show 2 * n < 30 by omega)]
        simp only [gI_sI, gJ_sI, gI_sJ, gJ_sJ, bl_e, bd_s, jn_e, Nat.reduceEqDiff, Nat.zero_ne_one, Nat.one_ne_zero, false_and, and_false, and_true, true_and, and_self, if_true, if_false, reduceIte, en]
        rw [nI_21, wrI_n (show 2 * n + 1 < 30 by omega)]
        simp only [gI_sI, gJ_sI, gI_sJ, gJ_sJ, bl_e, bd_s, jn_e, Nat.reduceEqDiff, Nat.zero_ne_one, Nat.one_ne_zero, false_and, and_false, and_true, true_and, and_self, if_true, if_false, reduceIte, en, nI_p]
      case cu =>
        unfold I_cu I_co at h6 ⊢
        unfold sT nR nM at *
        simp only [gI_sI, gJ_sI, gI_sJ, gJ_sJ, bl_e, bd_s, jn_e, Nat.reduceEqDiff, Nat.zero_ne_one, Nat.one_ne_zero, false_and, and_false, and_true, true_and, and_self, if_true, if_false, reduceIte]
        obtain ⟨g1, g2, g3, g4, g5, g6, g7, g8, g9, g10, g11, g12, g13, g14, g15, g16, g17, g18, g19⟩ := h6
        have hn15 : nv (gI M 32 29) = n := by rw [en, nv_n (by omega)]
        refine ⟨g1, g2, g3, g4, g5, g6, g7, g8, g9, g10, g11, g12, g13, Nb_n (by omega) (by decide), fun k hk => ?_, fun b' hb' => ?_, fun b' p q => ?_, g19⟩
        · rw [nv_n (by omega)] at hk
          by_cases e : k = n
          · subst e
            refine ⟨a, b, ha, hb, hab, ?_, ?_⟩
            · rw [if_neg (by omega), if_pos rfl]
            · rw [if_pos rfl]
          · obtain ⟨x, y, z1, z2, z3, z4, z5⟩ := g16 k (by omega)
            exact ⟨x, y, z1, z2, z3, by rw [if_neg (by omega), if_neg (by omega)]; exact z4, by rw [if_neg (by omega), if_neg (by omega)]; exact z5⟩
        · rw [nv_n (by omega)]
          have old : ∀ x y, (∃ k, k < n ∧ gI M 45 (2 * k) = nI x ∧ gI M 45 (2 * k + 1) = nI y) → ∃ k, k < n + 1 ∧ (if 2 * k = 2 * n + 1 then nI b else if 2 * k = 2 * n then nI a else gI M 45 (2 * k)) = nI x ∧ (if 2 * k = 2 * n then nI b else if 2 * k + 1 = 2 * n then nI a else gI M 45 (2 * k + 1)) = nI y := by
            rintro x y ⟨k, z1, z2, z3⟩
            exact ⟨k, by omega, by rw [if_neg (by omega), if_neg (by omega)]; exact z2, by rw [if_neg (by omega), if_neg (by omega)]; exact z3⟩
          by_cases e : b' = b
          · subst e
            rw [if_pos rfl]
            refine ⟨Nb_n (or_lt hw ha) (by omega), fun x hx => ?_⟩
            have gw := (g17 b' hb').2 x hx
            rw [ew, nv_n (by omega), hn15] at gw
            rw [nv_n (by have := or_lt hw ha; omega), tb_or, Bool.or_eq_true, gw, tb_p, decide_eq_true_eq]
            constructor
            · rintro (z | z)
              · exact old x b' z
              · subst z
                exact ⟨n, by omega, by rw [if_neg (by omega), if_pos rfl], by rw [if_pos rfl]⟩
            · rintro ⟨k, z1, z2, z3⟩
              by_cases e : k = n
              · subst e
                rw [if_neg (by omega), if_pos rfl] at z2
                right
                exact (nI_eq (by omega) (by omega)).mp z2
              · rw [if_neg (by omega), if_neg (by omega)] at z2 z3
                exact Or.inl ⟨k, by omega, z2, z3⟩
          · rw [if_neg e]
            refine ⟨(g17 b' hb').1, fun x hx => ((g17 b' hb').2 x hx).trans ?_⟩
            rw [hn15]
            constructor
            · exact old x b'
            · rintro ⟨k, z1, z2, z3⟩
              by_cases e2 : k = n
              · subst e2
                rw [if_pos rfl] at z3
                have := (nI_eq (by omega) (by omega)).mp z3
                omega
              · rw [if_neg (by omega), if_neg (by omega)] at z2 z3
                exact ⟨k, by omega, z2, z3⟩
        · rw [if_neg (by omega)]; exact g18 b' p q
      all_goals (intro c k hx; first | (unfold F_pg; omega) | (unfold F_nt; omega) | (unfold F_rk; omega) | (unfold F_mn; omega) | (unfold F_dn; omega) | (unfold F_cu; omega) | (unfold F_kp; omega) | (unfold F_z; omega))
    · have : n = 15 := by omega
      subst this
      refine Bo_same h hz (-104) ?_ ?_
      · unfold sp_X10_said; rw [two_1 h4 ha hb hab, bd_s, if_neg i10, ec, if_neg (by decide)]
      · unfold sp_X11_said; rw [isM_1 h4 ha, bd_s, if_neg i10, isM_1 h4 hb, bd_s, if_neg i10, if_neg hne, en, if_pos (by decide)]
  · refine Bo_same h hz (-101) ?_ ?_
    · unfold sp_X10_said; rw [two_0 h4 hp, bd_s, if_pos rfl]
    · unfold sp_X11_said
      by_cases ha : ∃ a, a < nM M ∧ p = nI a
      · obtain ⟨a, ha, rfl⟩ := ha
        rw [isM_1 h4 ha, bd_s, if_neg i10]
        by_cases hb : ∃ b, b < nM M ∧ q = nI b
        · obtain ⟨b, hb, rfl⟩ := hb
          rw [isM_1 h4 hb, bd_s, if_neg i10, if_pos]
          by_cases e : nI a = nI b
          · exact e
          · exact absurd ⟨a, b, ha, hb, fun z => e (by rw [z]), rfl, rfl⟩ hp
        · rw [isM_0 h4 hb, bd_s, if_pos rfl]
      · rw [isM_0 h4 ha, bd_s, if_pos rfl]
