/-! THE CALL digest -/
def d3h (M : Mm) : Int64 := fs (stM M) 0 (nM M) (fs (stR M) 0 (nR M) (d1h M))
def d4h (M : Mm) : Int64 := mxh (d3h M) (nI (Rt (Aw M) (nM M) 0)).toInt64
def d5h (M : Mm) : Int64 := if 0 < gI M 32 32 then mxh (mxh (d4h M) (staV M 10 0).toInt64) (staV M 10 1).toInt64 else d4h M
def d7h (M : Mm) : Int64 := fs (stK M) 0 14 (fs (stL M) 0 (nv (gI M 32 1)) (d5h M))
theorem Sm.stL' {M M' : Mm} (h : Sm M M') : stL M' = stL M := by
  funext k x
  unfold stL; rw [h 33 k (by unfold scr; omega)]
theorem Sm.stK' {M M' : Mm} (h : Sm M M') : stK M' = stK M := by
  funext k x
  unfold stK; rw [h.ct']
theorem cdig_e {i : Nat} {M : Mm} (hI : Inv i M) (hi : i < 1000) : ∃ M', sp_X10_digest M = some (d7h M, M') ∧ Sm M M' := by
  obtain ⟨h1, h2, h3, h4, h5, h6, h7⟩ := id hI
  obtain ⟨M1, e1, sm⟩ := cors_e h4 h6
  refine ⟨M1, ?_, sm⟩
  have hp1 := sm.pg h1
  have hI1 := sm.inv hI
  unfold sp_X10_digest
  refine Eq.trans (c17 h2 hi _) ?_
  try dsimp only
  rw [jn_e]
  refine Eq.trans (c19L h2 h3 _ (nR M) fu 0 (d1h M) (by omega) (by have := h3.n.1; show _ < 1000; omega)) ?_
  try dsimp only
  rw [jn_e]
  refine Eq.trans (c62L h2 h4 h6 _ (nM M) fu 0 _ (by omega) (by have := h4.n.1; show _ < 1000; omega)) ?_
  try dsimp only
  rw [e1, bd_s, mix_e, bd_s]
  have fin : ∀ v : Int64, v = d5h M → jn (fun (v1_187 : Int64) (M_187 : Mm) => sp_X10_digest_L189 fu v1_187 (0 : Int32) M_187) (fun (K187 : Int64 → Mm → Option (Int64 × Mm)) => sp_X10_digest_L156 K187 fu v (0 : Int32) M1) = some (d7h M, M1) := fun v ev => by
    rw [jn_e]
    have el : nv (gI M1 32 1) = nv (gI M 32 1) := by rw [sm 32 1 (by unfold scr; omega)]
    refine Eq.trans (c156L hp1 _ (nv (gI M 32 1)) fu 0 v (by omega) (by have := h1.1.2; show _ < 1000; omega)) ?_
    refine Eq.trans (c189L hI1 14 fu 0 _ (by omega) (by show _ < 1000; omega)) ?_
    rw [sm.stL', sm.stK', ev]
    rfl
  have e7 : gI M1 13 7 = gI M 32 32 := by
    rw [sm 13 7 (by unfold scr; omega)]
    exact h6.2.2.2.2.2.2.2.2.2.2.2.2.2.2.2.2.2.2.2.1
  rw [jn_e, e7]
  by_cases hw : 0 < gI M 32 32
  · have s0 : sp_X10_stations (10 : Int32) (0 : Int32) M1 = some (staV M 10 0, M1) := by
      have := csta_e (hI1.2.2.2.2.2.1) (p := 10) (b := 0) (by omega) (by omega)
      rw [sm.sta'] at this
      exact this
    have s1 : sp_X10_stations (10 : Int32) (1 : Int32) M1 = some (staV M 10 1, M1) := by
      have := csta_e (hI1.2.2.2.2.2.1) (p := 10) (b := 1) (by omega) (by omega)
      rw [sm.sta'] at this
      exact this
    rw [if_pos hw, s0, bd_s, mix_e, bd_s, s1, bd_s, mix_e, bd_s]
    exact fin _ (by unfold d5h; rw [if_pos hw]; rfl)
  · rw [if_neg hw]
    exact fin _ (by unfold d5h; rw [if_neg hw]; rfl)
theorem rdig_e {i : Nat} {M : Mm} (hI : Inv i M) : ∃ M', sp_X11_digest M = some (d7h M, M') ∧ Sm M M' := by
  obtain ⟨h1, h2, h3, h4, h5, h6, h7⟩ := id hI
  have main : ∃ r, sp_X11_digest M = some r ∧ (r.1 = d7h M ∧ Sm M r.2) := by
    unfold sp_X11_digest
    rw [bl_e, jn_e]
    refine via (L := fun K => sp_X11_digest_L9 K fu (0 : Int32) (sJ M 32 48 701)) (Q := Rd M (d1h M)) (fun K => r9 M K) _ (fun Ma ra => ?_)
    try dsimp only
    rw [jn_e]
    refine via (L := fun K => sp_X11_digest_L51 K fu (0 : Int32) Ma) (Q := Rd M (fs (stR M) 0 (nR M) (d1h M))) (fun K => r51L h2 h3 K (nR M) fu 0 _ Ma (by omega) (by have := h3.n.1; show _ < 1000; omega) ra) _ (fun Mb rb => ?_)
    try dsimp only
    rw [jn_e]
    refine via (L := fun K => sp_X11_digest_L103 K fu (0 : Int32) Mb) (Q := Rd M (d3h M)) (fun K => r103L h2 h4 h6 K (nM M) fu 0 _ Mb (by omega) (by have := h4.n.1; show _ < 1000; omega) rb) _ (fun Mc rc => ?_)
    try dsimp only
    obtain ⟨Md, l1, l2, _⟩ := lay_e (rc.1.mn h4) (rc.1.cu h6)
    rw [rc.1.Aw', rc.1.nM'] at l1
    have rd : Rd M (d3h M) Md := ⟨rc.1.trans l2, by rw [lay_J l1]; exact rc.2⟩
    obtain ⟨Me, s1, re⟩ := say_e rd (nI (Rt (Aw M) (nM M) 0)).toInt64
    rw [l1, bd_s, s1, bd_s]
    have fin : ∀ Mf, Rd M (d5h M) Mf → ∃ r, jn (fun (M_209 : Mm) => sp_X11_digest_L211 fu (0 : Int32) M_209) (fun (K209 : Mm → Option (Int64 × Mm)) => sp_X11_digest_L184 K209 fu (0 : Int32) Mf) = some r ∧ (r.1 = d7h M ∧ Sm M r.2) := fun Mf rf => by
      rw [jn_e]
      refine via (L := fun K => sp_X11_digest_L184 K fu (0 : Int32) Mf) (Q := Rd M (fs (stL M) 0 (nv (gI M 32 1)) (d5h M))) (fun K => r184L h1 K (nv (gI M 32 1)) fu 0 _ Mf (by omega) (by have := h1.1.2; show _ < 1000; omega) rf) _ (fun Mg rg' => ?_)
      obtain ⟨Mh, t1, t2⟩ := r211L hI 14 fu 0 _ Mg (by omega) (by show _ < 1000; omega) rg'
      exact ⟨_, t1, rfl, t2⟩
    have e7 : gI Me 32 32 = gI M 32 32 := re.1 32 32 (by unfold scr; omega)
    rw [jn_e, e7]
    by_cases hw : 0 < gI M 32 32
    · have s0 : ∀ Mz, Sm M Mz → sp_X11_stationsOf (10 : Int32) (0 : Int32) Mz = some (staV M 10 0, Mz) := fun Mz sm => by
        have := mso_e (sm.cu h6) (p := 10) (by omega) 0
        rw [← sm.sta']
        exact this
      have s1 : ∀ Mz, Sm M Mz → sp_X11_stationsOf (10 : Int32) (1 : Int32) Mz = some (staV M 10 1, Mz) := fun Mz sm => by
        have := mso_e (sm.cu h6) (p := 10) (by omega) 1
        rw [← sm.sta']
        exact this
      obtain ⟨Mf, u1, u2⟩ := say_e re (staV M 10 0).toInt64
      obtain ⟨Mg, v1, v2⟩ := say_e u2 (staV M 10 1).toInt64
      rw [if_pos hw, s0 Me re.1, bd_s, u1, bd_s, s1 Mf u2.1, bd_s, v1, bd_s]
      refine fin Mg ?_
      unfold d5h
      rw [if_pos hw]
      exact v2
    · rw [if_neg hw]
      refine fin Me ?_
      unfold d5h
      rw [if_neg hw]
      exact re
  obtain ⟨⟨v, M'⟩, m1, m2, m3⟩ := main
  have m2' : v = d7h M := m2
  exact ⟨M', by rw [m1, m2'], m3⟩
theorem d1h_sm {M M' : Mm} (h : Sm M M') : d7h M' = d7h M := by
  have e1 : d1h M' = d1h M := by
    have : stS M' = stS M := by funext k x; unfold stS; rw [h.sea']
    unfold d1h; rw [this, h 32 7 (by unfold scr; omega)]
  have e2 : stR M' = stR M := by funext k x; unfold stR; rw [h.ht']
  have e3 : stM M' = stM M := by
    funext m x
    have : stA M' m = stA M m := by funext w y; unfold stA; rw [h.ab']
    unfold stM; rw [this]
  unfold d7h d5h d4h d3h
  rw [e1, e2, e3, h.nR', h.nM', h.Aw', h.sta', h.sta', h.stL', h.stK', h 32 32 (by unfold scr; omega), h 32 1 (by unfold scr; omega)]
theorem Bo_digest {i : Nat} {M : Mm} (h : Inv i M) (hz : I_z M) (hi : i < 1000) : Bo i M sp_X10_digest sp_X11_digest := by
  obtain ⟨M1, e1, e2⟩ := cdig_e h hi
  have h1 := e2.inv h
  obtain ⟨M2, f1, f2⟩ := rdig_e h1
  exact ⟨d7h M, M1, M2, e1, by rw [f1, d1h_sm e2], (f2.inv h1).up, f2.z (e2.z hz)⟩
