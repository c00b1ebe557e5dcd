theorem I_dn.lim {M : Mm} (h : I_dn M) : ∃ d, d ≤ 30 ∧ gI M 32 25 = nI d ∧ gI M 0 11 = nI d := by
  obtain ⟨d, h1, h2⟩ := h.1.get
  exact ⟨d, h1, h2, h.2.trans h2⟩
theorem Bo_order {i : Nat} {M : Mm} (h : Inv i M) (hz : I_z M) (hi : i < 1000) (p : Int32) : Bo i M (sp_X10_order p) (sp_X11_order p) := by
  obtain ⟨h1, h2, h3, h4, h5, h6, h7⟩ := id h
  by_cases hp : okp p
  · by_cases hn : gI M 32 7 = 0
    · refine Bo_same h hz (-103) ?_ ?_
      · rw [cord_1 hp, afl_e h hi, if_pos (Or.inl hn), bd_s, if_pos rfl]
      · rw [mord_1 hp, lacks_1 hn, bd_s, if_neg i10]
    · by_cases hb : gI M 32 12 = 1
      · refine Bo_same h hz (-103) ?_ ?_
        · rw [cord_1 hp, afl_e h hi, if_pos (Or.inr hb), bd_s, if_pos rfl]
        · rw [mord_1 hp, lacks_0 hn, bd_s, if_pos rfl, mK, if_pos hb]
      · obtain ⟨d, d1, d2, d3⟩ := h5.lim
        have hafl : sp_X10_isAfloat M = some (1, M) := by
          rw [afl_e h hi, if_neg]
          rintro (z | z)
          · exact hn z
          · exact hb z
        by_cases hd : d = 30
        · subst hd
          refine Bo_same h hz (-103) ?_ ?_
          · rw [cord_1 hp, hafl, bd_s, if_neg i10, cK, d3, if_neg (by decide)]
          · rw [mord_1 hp, lacks_0 hn, bd_s, if_pos rfl, mK, if_neg hb, d2, if_pos (by rfl)]
        · obtain ⟨t1, t2⟩ := st_lt h2 h6 hn
          have l30 : nI d < (30 : Int32) := (nI_ltI (a := d) (b := 30) (by omega) (by decide)).mpr (by omega)
          have ne30 : ¬ nI d = (30 : Int32) := fun z => hd ((nI_eq (a := d) (b := 30) (by omega) (by decide)).mp z)
          have n6 := h4.n.1
          obtain ⟨o1, o2, o3⟩ := ob_n h4 h6
          generalize efirst : nv (gI M 32 10) / 5 = first at *
          -- the class
          have agA : ∀ c k, ¬ (c = 0 ∧ k = 11) → gI (sI M 0 11 (nI (d + 1))) c k = gI M c k := fun c k hx => gI_o hx
          have h2A : I_nt i (sI M 0 11 (nI (d + 1))) := h2.ag (fun c k hf => agA c k (by unfold F_nt at hf; omega))
          have h4A : I_mn (sI M 0 11 (nI (d + 1))) := h4.ag (fun c k hf => agA c k (by unfold F_mn at hf; omega))
          have h6A : I_cu (sI M 0 11 (nI (d + 1))) := h6.ag (fun c k hf => agA c k (by unfold F_cu at hf; omega))
          have soA : So M (sI M 0 11 (nI (d + 1))) := fun c k hx => agA c k (by omega)
          obtain ⟨M1, s1, s2, s3, s4, s5⟩ := cs_e h2A h4A h6A (first := first) (by rw [agA 32 10 (by omega)]; exact t1) (by rw [soA.sT']; exact t2)
          rw [agA 13 4 (by omega)] at s3 s5
          rw [soA.Ds'] at s5
          -- the reference
          have agB : ∀ c k, ¬ ((c = 0 ∧ k = 11) ∨ (c = 32 ∧ k = 25)) → gI (sI (sI M 0 11 (nI (d + 1))) 32 25 (nI (d + 1))) c k = gI M c k := fun c k hx => by rw [gI_o (by omega), gI_o (by omega)]
          have hB : Inv (i + 1) (sI (sI M 0 11 (nI (d + 1))) 32 25 (nI (d + 1))) := by
            refine h.set _ agB (Or.inl ?_) (Or.inl ?_) (Or.inl ?_) (Or.inl ?_) (Or.inr ?dn) (Or.inl ?_) (Or.inl ?_)
            case dn =>
              refine ⟨?_, ?_⟩
              · rw [gI_s]; exact Nb_n (by omega) (by decide)
              · rw [gI_s, gI_o (by omega), gI_s]
            all_goals (intro c k hx; first | (unfold F_pg; omega) | (unfold F_nt; omega) | (unfold F_rk; omega) | (unfold F_mn; omega) | (unfold F_dn; omega) | (unfold F_cu; omega) | (unfold F_kp; omega) | (unfold F_z; omega))
          have hzB : I_z (sI (sI M 0 11 (nI (d + 1))) 32 25 (nI (d + 1))) := by
            refine hz.set _ agB ?_
            all_goals (intro c k hx; first | (unfold F_pg; omega) | (unfold F_nt; omega) | (unfold F_rk; omega) | (unfold F_mn; omega) | (unfold F_dn; omega) | (unfold F_cu; omega) | (unfold F_kp; omega) | (unfold F_z; omega))
          have smB : Sm (sI (sI M 0 11 (nI (d + 1))) 32 25 (nI (d + 1))) (sI M1 32 25 (nI (d + 1))) := fun c k hx => by
            by_cases y : c = 32 ∧ k = 25
            · rw [y.1, y.2, gI_s, gI_s]
            · rw [gI_o y, gI_o y]; exact s2 c k hx
          have h2M := smB.inv hB
          have agM : ∀ c k, ¬ scr c k → ¬ ((c = 0 ∧ k = 11) ∨ (c = 32 ∧ k = 25)) → gI (sI M1 32 25 (nI (d + 1))) c k = gI M c k := fun c k hx hy => (smB c k hx).trans (agB c k hy)
          have soM : So M (sI M1 32 25 (nI (d + 1))) := fun c k hx => agM c k (by unfold scr; omega) (by omega)
          have ag1 : ∀ c k, ¬ scr c k → ¬ (c = 0 ∧ k = 11) → gI M1 c k = gI M c k := fun c k hx hy => (s2 c k hx).trans (agA c k hy)
          obtain ⟨len, M2, r1, r2, r3, r4, r5⟩ := rs_e h2M (first := first) (by rw [soM 32 10 (by omega)]; exact t1) (by rw [soM.sT']; exact t2) (mK2 p)
          rw [soM 13 4 (by omega), soM.Ds'] at r1 r5
          have eC : sp_X10_order p M = if p < (10 : Int32) then (bd (sp_X4_isThere M1) (fun r96 M96 => if r96 = 0 then (if p = 0 then (some ((-1 : Int64), M96)) else (some ((1 : Int64), M96))) else (bd (sp_X4_most M96) (fun r118 M118 => bd (sp_X10_inLowestTerms r118 (1000000000 : Int64) p M118) (fun r125 M125 => some (r125, M125)))))) else (bd (sp_X4_manAt (p - (10 : Int32)) M1) (fun r87 M87 => some (r87.toInt64, M87))) := by
            rw [cord_1 hp, hafl, bd_s, if_neg i10, cK, d3, if_pos l30, nI_p, bl_e, s1, bd_s]
          have eM : sp_X11_order p M1 = mK2 p (bJ (x10 (Ds M first (nv (gI M 13 4))))) M2 := by
            have e7 : ¬ gI M1 32 7 = 0 := by rw [ag1 32 7 (by unfold scr; omega) (by omega)]; exact hn
            have e12 : ¬ gI M1 32 12 = 1 := by rw [ag1 32 12 (by unfold scr; omega) (by omega)]; exact hb
            have e25 : gI M1 32 25 = nI d := by rw [ag1 32 25 (by unfold scr; omega) (by omega)]; exact d2
            rw [mord_1 hp, lacks_0 e7, bd_s, if_pos rfl, mK, if_neg e12, e25, if_neg ne30, nI_p, bl_e]
            exact r1
          have fin : ∀ r : Int64, sp_X10_order p M = some (r, M1) → sp_X11_order p M1 = some (r, M2) → Bo i M (sp_X10_order p) (sp_X11_order p) := fun r a b => ⟨r, M1, M2, a, b, r2.inv h2M, r2.z (smB.z hzB)⟩
          have hvv : nt (nv (gI M 13 4)) (nv (gI M 13 4)) = 0 := (nt_0 _ o3 _ o3).mpr (fun _ _ z => z)
          have tbM : Tb M first M1 0 := fun u a1 a2 a3 => by
            have e := s4 u a1 (by rw [soA.nM']; exact a2) (by rw [agA 13 4 (by omega)]; exact a3)
            unfold Wt Ts at e
            rw [soA.Ds', soA.Hh', soA.nM', soA.ts'] at e
            unfold Wt Ts
            exact e
          have hlow : ((0 : Int) ≤ p.toInt ∧ p.toInt ≤ 1) → p < 10 := fun z => by rw [Int32.lt_iff_toInt_lt, show (10 : Int32).toInt = 10 from rfl]; omega
          have hlow2 : ((0 : Int) ≤ p.toInt ∧ p.toInt ≤ 1) → p < 2 := fun z => by rw [Int32.lt_iff_toInt_lt, show (2 : Int32).toInt = 2 from rfl]; omega
          have hhi : ((10 : Int) ≤ p.toInt ∧ p.toInt ≤ 15) → ∃ j, j ≤ 5 ∧ p - 10 = nI j ∧ ¬ p < 10 ∧ ¬ p < 2 ∧ ¬ p = 1 := fun z => by
            obtain ⟨q, q1, q2, rfl⟩ := nI_of_rng (a := 10) (b := 15) z.1 z.2 (by decide)
            refine ⟨q - 10, by omega, nI_sub (a := q) (b := 10) q1, ?_, ?_, ?_⟩
            · exact fun y => by have := (nI_ltI (b := 10) (by omega) (by decide)).mp y; omega
            · exact fun y => by have := (nI_ltI (b := 2) (by omega) (by decide)).mp y; omega
            · exact fun y => by have := (nI_eq (b := 1) (by omega) (by decide)).mp y; omega
          cases hD : Ds M first (nv (gI M 13 4)) with
          | none =>
            rw [hD] at s5 eM
            have eM' : sp_X11_order p M1 = if p = 1 then some (1, M2) else some (-1, M2) := by
              rw [eM, mK2, if_pos (by rfl)]
            rcases hp with hp | hp
            · have eT : sp_X4_isThere M1 = some (0, M1) := by unfold sp_X4_isThere; rw [s5, if_pos (by rfl)]
              rw [if_pos (hlow hp), eT, bd_s, if_pos rfl] at eC
              obtain ⟨q, q1, q2, rfl⟩ := nI_of_rng (a := 0) (b := 1) hp.1 hp.2 (by decide)
              have : q = 0 ∨ q = 1 := by omega
              rcases this with rfl | rfl
              · exact fin (-1) (by rw [eC, if_pos (by rfl)]) (by rw [eM', if_neg (by decide)])
              · exact fin 1 (by rw [eC, if_neg (by decide)]) (by rw [eM', if_pos (by rfl)])
            · obtain ⟨j, j1, j2, j3, j4, j5⟩ := hhi hp
              rw [if_neg j3, j2] at eC
              have e26 := (tbM (nv (gI M 13 4)) (Nat.zero_le _) o2 hvv).2
              rw [hD] at e26
              have eA : sp_X4_manAt (nI j) M1 = some (-1, M1) := by
                unfold sp_X4_manAt
                rw [bl_e, s3]
                show sp_X4_manAt_L10 (nI j) (999 + 1) _ _ _ _ = _
                rw [sp_X4_manAt_L10, if_neg (nI_pos (by omega)), at_n (show nv (gI M 13 4) < 64 by omega), bd_s, e26, if_pos (by rfl)]
              rw [eA, bd_s] at eC
              exact fin (-1) eC (by rw [eM', if_neg j5])
          | some x =>
            rw [hD] at s5 eM r5
            have hx := Ds_le hD
            have eM' : sp_X11_order p M1 = if p < (2 : Int32) then (bd (sp_X11_term (nJ (10 * x.1)) (10000000000 : Int64) p M2) (fun r185 M185 => some (r185, M185))) else (if (p - (10 : Int32)) < nI len then (rdI M2 44 (p - (10 : Int32)) (fun a208 => some (a208.toInt64, M2))) else (some ((-1 : Int64), M2))) := by
              rw [eM, mK2, show x10 (some x) = some (10 * x.1, x.2) from rfl, if_neg (bJ_t (10 * x.1, x.2) (by show 10 * x.1 ≤ _; omega)), r4]
              rfl
            rcases hp with hp | hp
            · have eT : sp_X4_isThere M1 = some (1, M1) := by unfold sp_X4_isThere; rw [s5, if_neg (bJ_t x (by omega))]
              have el : low1 (10 * x.1) (10 * 1000000000) p = low1 x.1 1000000000 p := low1_c (by decide) p
              have ec : sp_X10_inLowestTerms (nJ x.1) (1000000000 : Int64) p M1 = some (nJ (low1 x.1 1000000000 p), M1) := il_e (b := 1000000000) (by omega) (by decide) (by decide) p M1
              have em : sp_X11_term (nJ (10 * x.1)) (10000000000 : Int64) p M2 = some (nJ (low1 (10 * x.1) (10 * 1000000000) p), M2) := tm_e (b := 10 * 1000000000) (by omega) (by decide) (by decide) p M2
              rw [if_pos (hlow hp), eT, bd_s, if_neg i10, sp_X4_most, bd_s, s5, show bJ (some x) = nJ x.1 from rfl, ec, bd_s] at eC
              refine fin _ eC ?_
              rw [eM', if_pos (hlow2 hp), em, bd_s, el]
            · obtain ⟨j, j1, j2, j3, j4, j5⟩ := hhi hp
              rw [if_neg j3, j2] at eC
              obtain ⟨q1, q2⟩ := r5 _ rfl
              have q1' : x.2.length = len := q1
              have eA : sp_X4_manAt (nI j) M1 = some (if j < x.2.length then nI (la x.2 j) else -1, M1) := by
                unfold sp_X4_manAt
                rw [bl_e, s3]
                have := maL h4 h6 tbM (p := j) (by omega) x.2 (nv (gI M 13 4)) x.1 0 fu (-1) o2 hvv hD (by omega) (by show _ < 0 + 1000; omega)
                rw [if_neg (by omega), Nat.sub_zero] at this
                exact this
              rw [eA, bd_s] at eC
              refine fin _ eC ?_
              rw [eM', if_neg j4, j2]
              by_cases y : j < len
              · rw [if_pos ((nI_ltI (by omega) (by omega)).mpr y), rdI_n (show j < 6 by omega), q2 j y, if_pos (by omega)]
              · rw [if_neg (by rw [nI_ltI (by omega) (by omega)]; exact y), if_neg (by omega)]
                rfl
  · exact Bo_same h hz (-102) (cord_0 hp M) (mord_0 hp M)
