/-! THE CALLS aim, which, both -/
def aimOk (M : Mm) : Prop := ¬ gI M 32 7 = 0 ∧ gI M 32 11 = 0 ∧ gI M 32 12 = 0
theorem canAim_e {i : Nat} {M : Mm} (h : Inv i M) (hi : i < 1000) : (aimOk M ∧ sp_X10_canAim M = some (1, M) ∧ sp_X11_isAiming M = some (1, M)) ∨ (sp_X10_canAim M = some (0, M) ∧ sp_X11_isAiming M = some (0, M)) := by
  have h6 := h.2.2.2.2.2.1
  have e13 : gI M 13 1 = gI M 32 11 := h6.2.2.2.2.1
  unfold sp_X10_canAim sp_X11_isAiming
  rw [afl_e h hi, bd_s, e13]
  by_cases hn : gI M 32 7 = 0
  · right
    rw [if_pos (Or.inl hn), if_pos rfl, lacks_1 hn, bd_s, if_neg i10]
    exact ⟨rfl, rfl⟩
  · rw [lacks_0 hn, bd_s, if_pos rfl]
    rcases h6.2.2.2.2.2.1.b01 with hb | hb
    · rw [if_neg (c := gI M 32 7 = 0 ∨ gI M 32 12 = 1) (fun z => z.elim hn (fun y => absurd (hb.symm.trans y) (by decide))), if_neg i10]
      by_cases hl : gI M 32 11 = 0
      · left
        obtain ⟨t1, t2⟩ := st_lt h.2.1 h6 hn
        obtain ⟨s1, s2, s3⟩ := h.2.1.s
        unfold sp_X11_stageNow
        rw [if_pos hl, if_pos hl, if_pos hb, bd_s, t1, s2, if_pos ((nI_ltI (by omega) (by omega)).mpr t2)]
        exact ⟨⟨hn, hl, hb⟩, rfl, rfl⟩
      · right
        rw [if_neg hl, if_neg hl]
        exact ⟨rfl, rfl⟩
    · right
      rw [if_pos (Or.inr hb), if_pos rfl]
      refine ⟨rfl, ?_⟩
      split
      · rw [if_neg (by rw [hb]; decide)]
      · rfl
theorem Bo_aim {i : Nat} {M : Mm} (h : Inv i M) (hz : I_z M) (hi : i < 1000) (p q : Int32) : Bo i M (sp_X10_aim p q) (sp_X11_aim p q) := by
  unfold sp_X10_aim sp_X11_aim
  rcases rng p 1 4 (by decide) with ⟨a, a1, a2, rfl⟩ | hp
  · rcases rng q 0 1 (by decide) with ⟨b, b1, b2, rfl⟩ | hq
    · have r1 : ∀ M1, sp_X10_isOutside (nI a) 1 4 M1 = some (0, M1) := fun M1 => out_0 (x := 1) (y := 4) rfl rfl (by rw [nI_int (by omega)]; omega)
      have r2 : ∀ M1, sp_X10_isOutside (nI b) 0 1 M1 = some (0, M1) := fun M1 => out_0 (x := 0) (y := 1) rfl rfl (by rw [nI_int (by omega)]; omega)
      have r3 : ∀ M1, sp_X11_in (nI a).toInt64 1 4 M1 = some (1, M1) := fun M1 => in_1 (x := 1) (y := 4) rfl rfl (by rw [nI_int (by omega)]; omega)
      have r4 : ∀ M1, sp_X11_in (nI b).toInt64 0 1 M1 = some (1, M1) := fun M1 => in_1 (x := 0) (y := 1) rfl rfl (by rw [nI_int (by omega)]; omega)
      rcases canAim_e h hi with ⟨ok, o1, o2⟩ | ⟨o1, o2⟩
      · obtain ⟨t1, t2⟩ := st_lt h.2.1 h.2.2.2.2.2.1 ok.1
        generalize nv (gI M 32 10) / 5 = first at *
        obtain ⟨M1, c1, c2, c3, c4, c5⟩ := cser_e h t1 t2 a1 a2
        have hx := c2.inv h
        have hxz := c2.z hz
        have ok1 : sp_X11_isAiming M1 = some (1, M1) := by
          rcases canAim_e hx hi with ⟨_, _, o⟩ | ⟨_, o⟩
          · exact o
          · exfalso
            have o' := o
            unfold sp_X11_isAiming at o'
            have g7 := c2 32 7 (by unfold scr; omega)
            have g11 := c2 32 11 (by unfold scr; omega)
            have g12 := c2 32 12 (by unfold scr; omega)
            have g10 := c2 32 10 (by unfold scr; omega)
            obtain ⟨s1, s2, s3⟩ := h.2.1.s
            rw [lacks_0 (by rw [g7]; exact ok.1), bd_s, if_pos rfl, g11, if_pos ok.2.1, g12, if_pos ok.2.2] at o'
            unfold sp_X11_stageNow at o'
            rw [bd_s, g10, g7, t1, s2, if_pos ((nI_ltI (by omega) (by omega)).mpr t2)] at o'
            exact absurd o' (by simp)
        obtain ⟨⟨rv, M2⟩, m1, m2, m3⟩ := maim_e hx (by rw [c2 32 10 (by unfold scr; omega)]; exact t1) (by rw [c2.sT']; exact t2) a1 a2
        dsimp only at m2 m3
        rw [c2.eo', c2.tab', c2.lfb'] at m2
        have eo2 : eo M first a ≤ first + a := by unfold eo; split <;> omega
        have eo3 : first < eo M first a := by unfold eo; split <;> omega
        have tl := tab_le h.2.1 (eo M first a) (eo M first a - first) (lfb M)
        generalize eo M first a = e at *
        have ep : 100 ^ (a - (e - first)) * 100 ^ (e - first) = 100 ^ a := pw_e (by omega)
        have pu : 100 ^ a ≤ 100000000 := Nat.le_trans (Nat.pow_le_pow_right (by decide) a2) (by decide)
        have pu2 : 100 ^ (e - first) ≤ 100000000 := Nat.le_trans (Nat.pow_le_pow_right (by decide) (by omega : e - first ≤ 4)) (by decide)
        have tl2 := Nat.mul_le_mul_left (100 ^ (a - (e - first))) tl
        have pp := Nat.pow_pos (n := e - first) (show 0 < 100 by decide)
        have pp2 := Nat.pow_pos (n := a) (show 0 < 100 by decide)
        refine ⟨nJ (low1 (tab M e (e - first) (lfb M)) (100 ^ (e - first)) (nI b)), M1, M2, ?_, ?_, (m3.inv hx).up, m3.z hxz⟩
        · dsimp only
          rw [r1, bd_s, if_pos rfl, r2, bd_s, if_pos rfl, o1, bd_s, if_neg i10, c1, bd_s, c3, c4, il_e (by omega) (by omega) (by omega), bd_s]
        · dsimp only
          rw [r3, bd_s, if_neg i10, r4, bd_s, if_neg i10, ok1, bd_s, if_neg i10, m1, bd_s]
          rw [hun_e _ a2, bd_s, m2, tm_e (by omega) (by omega) (by omega), bd_s, ← ep, low1_c (Nat.pow_pos (by decide))]
      · refine Bo_same h hz (-103) ?_ ?_
        · rw [r1, bd_s, if_pos rfl, r2, bd_s, if_pos rfl, o1, bd_s, if_pos rfl]
        · rw [r3, bd_s, if_neg i10, r4, bd_s, if_neg i10, o2, bd_s, if_pos rfl]
    · refine Bo_same h hz (-102) ?_ ?_
      · rw [out_0 (x := 1) (y := 4) rfl rfl (by rw [nI_int (by omega)]; omega), bd_s, if_pos rfl, out_1 (x := 0) (y := 1) rfl rfl hq, bd_s, if_neg i10]
      · rw [in_1 (x := 1) (y := 4) rfl rfl (by rw [nI_int (by omega)]; omega), bd_s, if_neg i10, in_0 (x := 0) (y := 1) rfl rfl hq, bd_s, if_pos rfl]
  · refine Bo_same h hz (-102) ?_ ?_
    · rw [out_1 (x := 1) (y := 4) rfl rfl hp, bd_s, if_neg i10]
    · rw [in_0 (x := 1) (y := 4) rfl rfl hp, bd_s, if_pos rfl]
theorem Bo_which {i : Nat} {M : Mm} (h : Inv i M) (hz : I_z M) (hi : i < 1000) (p : Int32) : Bo i M (sp_X10_which p) (sp_X11_which p) := by
  unfold sp_X10_which sp_X11_which
  rcases rng p 1 4 (by decide) with ⟨a, a1, a2, rfl⟩ | hp
  · have r1 : ∀ M1, sp_X10_isOutside (nI a) 1 4 M1 = some (0, M1) := fun M1 => out_0 (x := 1) (y := 4) rfl rfl (by rw [nI_int (by omega)]; omega)
    have r3 : ∀ M1, sp_X11_in (nI a).toInt64 1 4 M1 = some (1, M1) := fun M1 => in_1 (x := 1) (y := 4) rfl rfl (by rw [nI_int (by omega)]; omega)
    rcases canAim_e h hi with ⟨ok, o1, o2⟩ | ⟨o1, o2⟩
    · obtain ⟨t1, t2⟩ := st_lt h.2.1 h.2.2.2.2.2.1 ok.1
      have s10 := h.2.1.s.1
      generalize nv (gI M 32 10) / 5 = first at *
      obtain ⟨M1, c1, c2, c3, c4, c5⟩ := cser_e h t1 t2 a1 a2
      have hx := c2.inv h
      have hxz := c2.z hz
      have t1' : gI M1 32 10 / 5 = nI first := by rw [c2 32 10 (by unfold scr; omega)]; exact t1
      have ok1 : sp_X11_isAiming M1 = some (1, M1) := by
        rcases canAim_e hx hi with ⟨_, _, o⟩ | ⟨_, o⟩
        · exact o
        · exfalso
          have o' := o
          unfold sp_X11_isAiming at o'
          have g7 := c2 32 7 (by unfold scr; omega)
          have g11 := c2 32 11 (by unfold scr; omega)
          have g12 := c2 32 12 (by unfold scr; omega)
          obtain ⟨s1, s2, s3⟩ := h.2.1.s
          rw [lacks_0 (by rw [g7]; exact ok.1), bd_s, if_pos rfl, g11, if_pos ok.2.1, g12, if_pos ok.2.2] at o'
          unfold sp_X11_stageNow at o'
          rw [bd_s, t1', g7, s2, if_pos ((nI_ltI (by omega) (by omega)).mpr t2)] at o'
          exact absurd o' (by simp)
      obtain ⟨M2, m1, m2⟩ := mlay_e hx t1' (by rw [c2.sT']; exact t2) a1 a2
      rw [c2.eo', c2.tab'] at m2
      have eo1 : eo M first a ≤ sT M := by unfold eo; split <;> omega
      have eo2 : eo M first a ≤ first + a := by unfold eo; split <;> omega
      have eo3 : first < eo M first a := by unfold eo; split <;> omega
      have tl := tab_le h.2.1 (eo M first a) (eo M first a - 1 - first)
      generalize eo M first a = e at *
      have ep : 100 ^ (a - (e - first)) * 100 ^ (e - 1 - first) = 100 ^ (a - 1) := pw_e (by omega)
      have pu : 100 ^ (a - 1) ≤ 1000000 := pow100 (by omega)
      have hy := m2.1.inv hx
      have n6 := h.2.2.1.n.1
      have l64 : lfb M < 64 := Nat.lt_of_lt_of_le (lfb_lt M) (pw_64 n6)
      obtain ⟨M3, b1, b2, b3, b4⟩ := mbo_e hx (left := lfb M) (s := first) (u := 100 ^ (a - 1)) (T := fun l => 100 ^ (a - (e - first)) * tab M e (e - 1 - first) l) l64 (by rw [c2.sT']; exact t2) pu (fun l => by rw [← ep]; exact Nat.mul_le_mul_left _ (tl l)) m2
      have eb : BS M1 first (100 ^ (a - 1)) (fun l => 100 ^ (a - (e - first)) * tab M e (e - 1 - first) l) (lfb M) = (100 ^ (a - (e - first)) * (BS M first (100 ^ (e - 1 - first)) (tab M e (e - 1 - first)) (lfb M)).1, (BS M first (100 ^ (e - 1 - first)) (tab M e (e - 1 - first)) (lfb M)).2) := by
        rw [c2.BS', ← ep]
        unfold BS
        exact bs_c (Nat.pow_pos (by decide)) _
      have hu1 : (BS M1 first (100 ^ (a - 1)) (fun l => 100 ^ (a - (e - first)) * tab M e (e - 1 - first) l) (lfb M)).1 ≤ 100 * 100 ^ (a - 1) := bs_le (fun r => ht_le hx.2.1 r _) (by omega) (fun l _ => by rw [← ep]; exact Nat.mul_le_mul_left _ (tl l)) _
      refine ⟨(BS M first (100 ^ (e - 1 - first)) (tab M e (e - 1 - first)) (lfb M)).2, M1, M3, ?_, ?_, (b2.inv hx).up, b2.z hxz⟩
      · dsimp only
        rw [r1, bd_s, if_pos rfl, o1, bd_s, if_neg i10, c1, bd_s, c5]
      · dsimp only
        rw [r3, bd_s, if_neg i10, ok1, bd_s, if_neg i10, m1, bd_s]
        have es : sp_X11_stageNow M2 = some (nI first, M2) := by
          unfold sp_X11_stageNow
          rw [m2.1 32 10 (by unfold scr; omega), t1']
        rw [es, bd_s, show (1 : Int32) = nI 1 from rfl, nI_sub a1, hun_e _ (by omega), bd_s, left_e hy.2.2.1 hy.2.2.2.2.2.1, bd_s, m2.1.lfb', c2.lfb', b1, bd_s, if_neg (by
          rw [show (0 : Int64) = nJ 0 from rfl, nJ_lt (by omega) (by decide)]; omega), b4, eb]
    · refine Bo_same h hz (-103) ?_ ?_
      · rw [r1, bd_s, if_pos rfl, o1, bd_s, if_pos rfl]
      · rw [r3, bd_s, if_neg i10, o2, bd_s, if_pos rfl]
  · refine Bo_same h hz (-102) ?_ ?_
    · rw [out_1 (x := 1) (y := 4) rfl rfl hp, bd_s, if_neg i10]
    · rw [in_0 (x := 1) (y := 4) rfl rfl hp, bd_s, if_pos rfl]
