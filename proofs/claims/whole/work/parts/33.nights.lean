/-! THE CALL nights -/
theorem Bo_nights {i : Nat} {M : Mm} (h : Inv i M) (hz : I_z M) (hi : i < 1000) (p q : Int32) : Bo i M (sp_X10_nights p q) (sp_X11_nights p q) := by
  by_cases hp0 : p < 0
  · refine Bo_same h hz (-102) ?_ ?_
    · unfold sp_X10_nights; rw [if_pos hp0]
    · unfold sp_X11_nights; rw [if_pos hp0]
  · obtain ⟨s, hs, rfl⟩ : ∃ s, s < 2147483648 ∧ p = nI s := by
      have h1 := Int32.toInt_lt p
      have h2 : 0 ≤ p.toInt := by
        rw [Int32.lt_iff_toInt_lt] at hp0
        have : (0 : Int32).toInt = 0 := rfl
        omega
      refine ⟨p.toInt.toNat, by omega, ?_⟩
      apply Int32.toInt_inj.mp
      rw [nI_int (by omega)]
      omega
    rcases rng q 0 3 (by decide) with ⟨b, b1, b2, rfl⟩ | hq
    · have r1 : ∀ M1, sp_X10_isOutside (nI b) 0 3 M1 = some (0, M1) := fun M1 => out_0 (x := 0) (y := 3) rfl rfl (by rw [nI_int (by omega)]; omega)
      have r2 : ∀ M1, sp_X11_in (nI b).toInt64 0 3 M1 = some (1, M1) := fun M1 => in_1 (x := 0) (y := 3) rfl rfl (by rw [nI_int (by omega)]; omega)
      have h6 := h.2.2.2.2.2.1
      by_cases hn : gI M 32 7 = 0
      · refine Bo_same h hz (-103) ?_ ?_
        · unfold sp_X10_nights; rw [if_neg hp0, r1, bd_s, if_pos rfl, afl_e h hi, bd_s, if_pos (c := gI M 32 7 = 0 ∨ gI M 32 12 = 1) (Or.inl hn), if_pos rfl]
        · unfold sp_X11_nights; rw [if_neg hp0, r2, bd_s, if_neg i10, lacks_1 hn, bd_s, if_neg i10]
      · by_cases hb : gI M 32 12 = 1
        · refine Bo_same h hz (-103) ?_ ?_
          · unfold sp_X10_nights; rw [if_neg hp0, r1, bd_s, if_pos rfl, afl_e h hi, bd_s, if_pos (c := gI M 32 7 = 0 ∨ gI M 32 12 = 1) (Or.inr hb), if_pos rfl]
          · unfold sp_X11_nights; rw [if_neg hp0, r2, bd_s, if_neg i10, lacks_0 hn, bd_s, if_pos rfl, if_pos hb]
        · have hb0 : gI M 32 12 = 0 := h6.2.2.2.2.2.1.b01.resolve_right hb
          obtain ⟨t1, t2⟩ := st_lt h.2.1 h6 hn
          have s10 := h.2.1.s.1
          obtain ⟨M1, c1, c2, c3, c4, c5, c6⟩ := crun_e h hn hb0 hs
          have hx := c2.inv h
          have hxz := c2.z hz
          have x01 : ((trr M s).1 = 0 ∨ (trr M s).1 = 1) ∧ ((trr M s).2.2.1 = 0 ∨ (trr M s).2.2.1 = 1) ∧ (trr M s).2.2.2 < 2147483648 := by
            unfold trr
            split
            · exact trn_01 M _ _ _ _ _ hs
            · exact ⟨Or.inr rfl, Or.inl rfl, hs⟩
          -- the reference's loop, for any way on
          have mm : ∀ K, ∃ M', sp_X11_nights_L76 K fu (gI M 32 11) (nI (lfb M)) 0 0 (nI (nv (gI M 32 10) / 5)) (sI M1 32 34 (nI s)) = K (trr M s).1 (nI (trr M s).2.1) (trr M s).2.2.1 M' ∧ Sm M M' ∧ gI M' 32 34 = nI (trr M s).2.2.2 := fun K => by
            have sm1 : Sm M (sI M1 32 34 (nI s)) := c2.sI (by unfold scr; omega)
            unfold trr
            generalize nv (gI M 32 10) / 5 = first at *
            by_cases hl : gI M 32 11 = 0
            · rw [if_pos hl, hl]
              have := mruL h K (sT M - first - 1) fu s (lfb M) first 0 (sI M1 32 34 (nI s)) hs (lfb_lt M) (by omega) (by show _ < 1000; omega) sm1 gI_s
              rw [show sT M - first - 1 + 1 = sT M - first by omega] at this
              exact this
            · rw [if_neg hl]
              have hl1 : gI M 32 11 = 1 := h6.2.2.2.1.b01.resolve_left hl
              rw [hl1]
              refine ⟨sI M1 32 34 (nI s), ?_, sm1, gI_s⟩
              show sp_X11_nights_L76 K (999 + 1) _ _ _ _ _ _ = _
              rw [sp_X11_nights_L76, if_neg i10]
              rfl
          have pre : ∀ r : Int32, (∀ M', Sm M M' → gI M' 32 34 = nI (trr M s).2.2.2 → (if nI b = 0 then (some ((trr M s).1, M')) else (if nI b = (1 : Int32) then (some (nI (trr M s).2.1, M')) else (if nI b = (2 : Int32) then (some ((trr M s).2.2.1, M')) else (some (gI M' 32 34, M'))))) = some (r, M')) → ∃ M2, sp_X11_nights (nI s) (nI b) M1 = some (r, M2) ∧ Sm M M2 := fun r hr => by
            obtain ⟨M', m1, m2, m3⟩ := mm (fun (v3_242 : Int32) (v5_242 : Int32) (v6_242 : Int32) (M_242 : Mm) => if nI b = 0 then (some (v3_242, M_242)) else (if nI b = (1 : Int32) then (some (v5_242, M_242)) else (if nI b = (2 : Int32) then (some (v6_242, M_242)) else (some (gI M_242 32 34, M_242)))))
            refine ⟨M', ?_, m2⟩
            have sm1 : Sm M (sI M1 32 34 (nI s)) := c2.sI (by unfold scr; omega)
            have hy := sm1.inv h
            have g7 : gI M1 32 7 = gI M 32 7 := c2 32 7 (by unfold scr; omega)
            unfold sp_X11_nights sp_X11_stageNow
            rw [if_neg hp0, r2, bd_s, if_neg i10, lacks_0 (by rw [g7]; exact hn), bd_s, if_pos rfl, c2 32 12 (by unfold scr; omega), if_neg hb, bd_s, c2 32 10 (by unfold scr; omega), g7, t1, h.2.1.s.2.1, if_pos ((nI_ltI (by omega) (by omega)).mpr t2), bl_e, bl_e, left_e hy.2.2.1 hy.2.2.2.2.2.1, bd_s, bd_s, jn_e, gI_o (by omega), gI_o (by omega), c2 32 10 (by unfold scr; omega), t1, c2 32 11 (by unfold scr; omega), sm1.lfb', m1]
            exact hr M' m2 m3
          have cpre : ∀ r : Int32, (if nI b = 0 then (bd (sp_X10_asNumber (gI M1 31 2) M1) (fun r79 M79 => some (r79, M79))) else (if nI b = 1 then (some (gI M1 31 1, M1)) else (if nI b = 2 then (bd (sp_X10_asNumber (gI M1 31 3) M1) (fun r98 M98 => some (r98, M98))) else (some ((gJ M1 31 0).toInt32, M1))))) = some (r, M1) → sp_X10_nights (nI s) (nI b) M = some (r, M1) := fun r hr => by
            unfold sp_X10_nights
            rw [if_neg hp0, r1, bd_s, if_pos rfl, afl_e h hi, bd_s, if_neg (c := gI M 32 7 = 0 ∨ gI M 32 12 = 1) (fun z => z.elim hn hb), if_neg i10, c1, bd_s]
            exact hr
          rw [c3, c4, c5, c6] at cpre
          rcases (by omega : b = 0 ∨ b = 1 ∨ b = 2 ∨ b = 3) with z | z | z | z <;> subst z
          · obtain ⟨M2, m1, m2⟩ := pre (trr M s).1 (fun M' _ _ => by rw [if_pos (by rfl)])
            exact ⟨_, M1, M2, cpre _ (by rw [if_pos (by rfl), asn_b x01.1, bd_s]), m1, (m2.inv h).up, m2.z hz⟩
          · obtain ⟨M2, m1, m2⟩ := pre (nI (trr M s).2.1) (fun M' _ _ => by rw [if_neg (by decide), if_pos (by rfl)])
            exact ⟨_, M1, M2, cpre _ (by rw [if_neg (by decide), if_pos (by rfl)]), m1, (m2.inv h).up, m2.z hz⟩
          · obtain ⟨M2, m1, m2⟩ := pre (trr M s).2.2.1 (fun M' _ _ => by rw [if_neg (by decide), if_neg (by decide), if_pos (by rfl)])
            exact ⟨_, M1, M2, cpre _ (by rw [if_neg (by decide), if_neg (by decide), if_pos (by rfl), asn_b x01.2.1, bd_s]), m1, (m2.inv h).up, m2.z hz⟩
          · obtain ⟨M2, m1, m2⟩ := pre (nI (trr M s).2.2.2) (fun M' _ e => by rw [if_neg (by decide), if_neg (by decide), if_neg (by decide), e])
            exact ⟨_, M1, M2, cpre _ (by rw [if_neg (by decide), if_neg (by decide), if_neg (by decide), nJ_32 (by omega)]), m1, (m2.inv h).up, m2.z hz⟩
    · refine Bo_same h hz (-102) ?_ ?_
      · unfold sp_X10_nights; rw [if_neg hp0, out_1 (x := 0) (y := 3) rfl rfl hq, bd_s, if_neg i10]
      · unfold sp_X11_nights; rw [if_neg hp0, in_0 (x := 0) (y := 3) rfl rfl hq, bd_s, if_pos rfl]
