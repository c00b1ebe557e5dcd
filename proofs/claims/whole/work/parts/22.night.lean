/-! THE CALLS fault, night -/
def dig (M : Mm) (k : Nat) : Prop := 48 ≤ nv (gI M 33 k) ∧ nv (gI M 33 k) ≤ 57
def dv (M : Mm) (k : Nat) : Nat := nv (gI M 33 k) - 48
def fit (M : Mm) (k : Nat) : Prop := ((k = 2 ∨ k = 4 ∨ k = 8) ∧ nv (gI M 33 k) = 58) ∨ (¬ (k = 2 ∨ k = 4 ∨ k = 8) ∧ dig M k ∧ (k = 0 → dv M 0 ≠ 0) ∧ (k = 6 → dv M 5 + dv M 6 ≤ 10) ∧ (k = 7 → dv M 5 + dv M 6 + dv M 7 = 10) ∧ k < 19)
theorem fit.d {M : Mm} {k : Nat} (h : fit M k) (z : ¬ (k = 2 ∨ k = 4 ∨ k = 8)) : dig M k := by
  rcases h with h | h
  · exact absurd h.1 z
  · exact h.2.1
theorem dig.v {M : Mm} {k : Nat} (h : dig M k) : dv M k ≤ 9 := by unfold dig at h; unfold dv; omega
theorem dg_r : ∀ d, d < 127 → (nI d - 48).toInt = (d : Int) - 48 := by decide +kernel
theorem dg_n {d : Nat} (h : 48 ≤ d) : nI d - 48 = nI (d - 48) := by
  rw [show (48 : Int32) = nI 48 from rfl, nI_sub h]
theorem dgt {M : Mm} (h1 : I_pg M) {k : Nat} (hk : k < nv (gI M 32 1)) : gI M 2 k = nI (nv (gI M 33 k)) ∧ gI M 33 k = nI (nv (gI M 33 k)) ∧ nv (gI M 33 k) ≤ 126 := by
  obtain ⟨a, b⟩ := h1.2.2 k hk
  exact ⟨a.trans b.1, b.1, b.2⟩
theorem dga {M : Mm} (h1 : I_pg M) {k : Nat} (hk : k < nv (gI M 32 1)) : sp_X5_digitAt (nI k) M = some (nI (nv (gI M 33 k)) - 48, M) := by
  have n22 := h1.1.2
  unfold sp_X5_digitAt
  rw [at_n (show k < 22 by omega), bd_s, (dgt h1 hk).1]
theorem dgv {M : Mm} (h1 : I_pg M) {k : Nat} (hk : k < nv (gI M 32 1)) (hd : dig M k) : sp_X5_digitAt (nI k) M = some (nI (dv M k), M) := by
  rw [dga h1 hk, dg_n hd.1]; rfl
theorem gs_s {M : Mm} (h1 : I_pg M) {q j f : Nat} {v : Int32} (hj : j ≤ q) (hq : q < nv (gI M 32 1)) (hd : dig M j) : sp_X5_gustsTo_L4 (nI q) (f + 1) v (nI j) M = sp_X5_gustsTo_L4 (nI q) f (v + nI (dv M j)) (nI (j + 1)) M := by
  have n22 := h1.1.2
  rw [sp_X5_gustsTo_L4, if_neg (by rw [nI_ltI (by omega) (by omega)]; omega), dgv h1 (by omega) hd, bd_s, bl_e, nI_p]
theorem gs_x {M : Mm} {q j f : Nat} {v : Int32} (hj : q < j) (hq : j < 30) : sp_X5_gustsTo_L4 (nI q) (f + 1) v (nI j) M = some (v, M) := by
  rw [sp_X5_gustsTo_L4, if_pos ((nI_ltI (by omega) (by omega)).mpr hj)]
theorem ib {b : Bool} {P : Prop} [Decidable P] (h : b = decide P) : (if b = true then (1 : Int32) else 0) = if P then 1 else 0 := by
  subst h; simp
theorem cfit_e {M : Mm} (h1 : I_pg M) {k : Nat} (hk : k < nv (gI M 32 1)) (hp : ∀ j, j < k → fit M j) : ∃ b : Bool, sp_X5_fits (nI k) M = some (if b then 1 else 0, M) ∧ (b = true ↔ fit M k) := by
  have n22 := h1.1.2
  obtain ⟨l1, l2, l3⟩ := dgt h1 hk
  unfold sp_X5_fits
  simp only [jn_e]
  by_cases z : k = 2 ∨ k = 4 ∨ k = 8
  · refine ⟨decide (nv (gI M 33 k) = 58), ?_, ?_⟩
    · have e : (bd (sp_X5_letterAt (nI k) M) (fun r18 M18 => if r18 = (58 : Int32) then (some ((1 : Int32), M18)) else (some ((0 : Int32), M18)))) = some (if decide (nv (gI M 33 k) = 58) = true then 1 else 0, M) := by
        unfold sp_X5_letterAt
        rw [at_n (show k < 22 by omega), bd_s, bd_s, l1]
        by_cases y : nv (gI M 33 k) = 58
        · rw [if_pos (by rw [y]; rfl), if_pos (by simp [y])]
        · rw [if_neg (c_ne 58 58 rfl y (by omega) (by decide)), if_neg (by simp [y])]
      rw [e]
      rcases z with z | z | z
      · rw [if_pos (by rw [z]; rfl)]
      · rw [if_neg (c_ne 2 2 rfl (by omega) (by omega) (by decide)), if_pos (by rw [z]; rfl)]
      · rw [if_neg (c_ne 2 2 rfl (by omega) (by omega) (by decide)), if_neg (c_ne 4 4 rfl (by omega) (by omega) (by decide)), if_pos (by rw [z]; rfl)]
    · rw [decide_eq_true_iff]
      unfold fit
      constructor
      · intro h; exact Or.inl ⟨z, h⟩
      · rintro (h | h)
        · exact h.2
        · exact absurd z h.1
  · rw [if_neg (c_ne 2 2 rfl (by omega) (by omega) (by decide)), if_neg (c_ne 4 4 rfl (by omega) (by omega) (by decide)), if_neg (c_ne 8 8 rfl (by omega) (by omega) (by decide)), dga h1 hk, bd_s]
    by_cases hd : dig M k
    · have hd' := hd
      unfold dig at hd'
      rw [out_0 (x := 0) (y := 9) rfl rfl (by rw [dg_r _ (by omega)]; omega), bd_s, if_pos rfl]
      have rest : fit M k ↔ ((k = 0 → dv M 0 ≠ 0) ∧ (k = 6 → dv M 5 + dv M 6 ≤ 10) ∧ (k = 7 → dv M 5 + dv M 6 + dv M 7 = 10) ∧ k < 19) := by
        unfold fit
        constructor
        · rintro (h | h)
          · exact absurd h.1 z
          · exact h.2.2
        · intro h; exact Or.inr ⟨z, hd, h⟩
      by_cases k0 : k = 0
      · subst k0
        rw [if_pos (by rfl)]
        have e0 := dgv h1 hk hd
        have hv := hd.v
        rw [show (0 : Int32) = nI 0 from rfl, e0, bd_s]
        refine ⟨decide (dv M 0 ≠ 0), ?_, ?_⟩
        · by_cases y : dv M 0 = 0
          · rw [if_pos (by rw [y]), if_neg (by simp [y])]
          · rw [if_neg (by rw [nI_eq (by omega) (by decide)]; exact y), if_pos (by simp [y])]
        · rw [decide_eq_true_iff, rest]
          exact ⟨fun h => ⟨fun _ => h, by omega, by omega, by omega⟩, fun h => h.1 rfl⟩
      · rw [if_neg (c_ne 0 0 rfl k0 (by omega) (by decide))]
        by_cases k6 : k = 6
        · subst k6
          have d5 : dig M 5 := (hp 5 (by omega)).d (by omega)
          have v5 := d5.v
          have v6 := hd.v
          rw [if_pos (by rfl)]
          have es : sp_X5_gustsTo (nI 6) M = some (nI (dv M 5 + dv M 6), M) := by
            unfold sp_X5_gustsTo
            show sp_X5_gustsTo_L4 (nI 6) (997 + 1 + 1 + 1) (nI 0) (nI 5) M = _
            rw [gs_s h1 (by omega) hk d5, gs_s h1 (by omega) hk hd, gs_x (by omega) (by omega), nI_add, nI_add, Nat.zero_add]
          rw [es, bd_s]
          refine ⟨decide (dv M 5 + dv M 6 ≤ 10), ?_, ?_⟩
          · by_cases y : dv M 5 + dv M 6 ≤ 10
            · rw [if_neg (c_ngt 10 10 rfl y (by decide)), if_pos (by simp [y])]
            · rw [if_pos (c_gt 10 10 rfl (by omega) (by omega)), if_neg (by simp [y])]
          · rw [decide_eq_true_iff, rest]
            exact ⟨fun h => ⟨by omega, fun _ => h, by omega, by omega⟩, fun h => h.2.1 rfl⟩
        · rw [if_neg (c_ne 6 6 rfl k6 (by omega) (by decide))]
          by_cases k7 : k = 7
          · subst k7
            have d5 : dig M 5 := (hp 5 (by omega)).d (by omega)
            have d6 : dig M 6 := (hp 6 (by omega)).d (by omega)
            have v5 := d5.v
            have v6 := d6.v
            have v7 := hd.v
            rw [if_pos (by rfl)]
            have es : sp_X5_gustsTo (nI 7) M = some (nI (dv M 5 + dv M 6 + dv M 7), M) := by
              unfold sp_X5_gustsTo
              show sp_X5_gustsTo_L4 (nI 7) (996 + 1 + 1 + 1 + 1) (nI 0) (nI 5) M = _
              rw [gs_s h1 (by omega) hk d5, gs_s h1 (by omega) hk d6, gs_s h1 (by omega) hk hd, gs_x (by omega) (by omega), nI_add, nI_add, nI_add, Nat.zero_add]
            rw [es, bd_s]
            refine ⟨decide (dv M 5 + dv M 6 + dv M 7 = 10), ?_, ?_⟩
            · by_cases y : dv M 5 + dv M 6 + dv M 7 = 10
              · rw [if_pos (by rw [y]; rfl), if_pos (by simp [y])]
              · rw [if_neg (c_ne 10 10 rfl y (by omega) (by decide)), if_neg (by simp [y])]
            · rw [decide_eq_true_iff, rest]
              exact ⟨fun h => ⟨by omega, by omega, fun _ => h, by omega⟩, fun h => h.2.2.1 rfl⟩
          · rw [if_neg (c_ne 7 7 rfl k7 (by omega) (by decide))]
            refine ⟨decide (k < 19), ?_, ?_⟩
            · by_cases y : k < 19
              · rw [if_pos (c_lt 19 19 rfl y (by decide)), if_pos (by simp [y])]
              · rw [if_neg (c_nlt 19 19 rfl (by omega) (by omega)), if_neg (by simp [y])]
            · rw [decide_eq_true_iff, rest]
              exact ⟨fun h => ⟨by omega, by omega, by omega, h⟩, fun h => h.2.2.2⟩
    · have hd' := hd
      unfold dig at hd'
      rw [out_1 (x := 0) (y := 9) rfl rfl (by rw [dg_r _ (by omega)]; omega), bd_s, if_neg i10]
      refine ⟨false, by rw [if_neg (by simp)], by simp, ?_⟩
      intro h
      exact absurd (h.d z) hd
/-- the first place that P doesn't hold at -/
theorem ex_f (P : Nat → Prop) : ∀ n, ∃ f, f ≤ n ∧ (∀ j, j < f → P j) ∧ (f < n → ¬ P f) := by
  intro n
  induction n with
  | zero => exact ⟨0, by omega, fun j h => by omega, fun h => by omega⟩
  | succ n ih =>
    obtain ⟨f, h1, h2, h3⟩ := ih
    by_cases hf : f < n
    · exact ⟨f, by omega, h2, fun _ => h3 hf⟩
    · have e : f = n := by omega
      subst e
      by_cases hp : P f
      · refine ⟨f + 1, by omega, fun j hj => ?_, fun h => by omega⟩
        by_cases y : j = f
        · rw [y]; exact hp
        · exact h2 j (by omega)
      · exact ⟨f, by omega, h2, fun _ => hp⟩
theorem cfp_e {M : Mm} (h1 : I_pg M) {f : Nat} (hf : f ≤ nv (gI M 32 1)) (hp : ∀ j, j < f → fit M j) (hn : f < nv (gI M 32 1) → ¬ fit M f) : sp_X5_faultPlace M = some (nI f, M) := by
  have n22 := h1.1.2
  have en : gI M 1 1 = nI (nv (gI M 32 1)) := h1.2.1.trans h1.1.1
  unfold sp_X5_faultPlace
  suffices ∀ g k, k ≤ f → f < k + g → sp_X5_faultPlace_L2 g (nI k) M = some (nI f, M) from this fu 0 (by omega) (by show _ < _ + 1000; omega)
  intro g
  induction g with
  | zero => intro k a b; omega
  | succ g ih =>
    intro k a b
    rw [sp_X5_faultPlace_L2, en]
    by_cases y : k < nv (gI M 32 1)
    · rw [if_pos ((nI_ltI (by omega) (by omega)).mpr y)]
      obtain ⟨t, e1, e2⟩ := cfit_e h1 y (fun j hj => hp j (by omega))
      rw [e1, bd_s]
      by_cases z : k = f
      · subst z
        have : ¬ t = true := fun q => hn y (e2.mp q)
        rw [if_pos (by rw [if_neg this])]
      · have : t = true := e2.mpr (hp k (by omega))
        rw [if_neg (by rw [if_pos this]; exact i10), nI_p]
        exact ih (k + 1) (by omega) (by omega)
    · rw [if_neg (by rw [nI_ltI (by omega) (by omega)]; exact y)]
      have : f = nv (gI M 32 1) := by omega
      rw [this]
/-- the reference's reading, k letters on -/
def Gst (M M' : Mm) (k : Nat) : Prop := (∀ c j, ¬ ((c = 32 ∧ (j = 2 ∨ j = 3 ∨ j = 6)) ∨ c = 34 ∨ c = 35) → gI M' c j = gI M c j) ∧ (k = 1 → gI M' 32 2 = nI (dv M 0)) ∧ (2 ≤ k → gI M' 32 2 = nI (10 * dv M 0 + dv M 1)) ∧ (4 ≤ k → gI M' 32 3 = nI (dv M 3)) ∧
  (∀ j, j < 3 → 5 + j < k → gI M' 34 j = nI (dv M (5 + j))) ∧ gI M' 32 6 = nI (k - 9) ∧ (∀ j, 9 + j < k → gI M' 35 j = nI (dv M (9 + j)))
def Gag (M M' : Mm) : Prop := ∀ c j, ¬ ((c = 32 ∧ (j = 2 ∨ j = 3 ∨ j = 6)) ∨ c = 34 ∨ c = 35) → gI M' c j = gI M c j
theorem gg_s {M : Mm} {K : Int32 → Option (Int32 × Mm)} {q j f : Nat} {v : Int32} (hj : j < q) (hq : q ≤ 2) : sp_X11_goGust_L5 (nI q) M K (f + 1) v (nI j) = sp_X11_goGust_L5 (nI q) M K f (v + gI M 34 j) (nI (j + 1)) := by
  rw [sp_X11_goGust_L5, if_pos ((nI_ltI (by omega) (by omega)).mpr hj), rdI_n (show j < 3 by omega), bl_e, nI_p]
theorem gg_x {M : Mm} {K : Int32 → Option (Int32 × Mm)} {q f : Nat} {v : Int32} (hq : q ≤ 2) : sp_X11_goGust_L5 (nI q) M K (f + 1) v (nI q) = K v := by
  rw [sp_X11_goGust_L5, if_neg (by rw [nI_ltI (by omega) (by omega)]; omega)]
def gsum (M : Mm) : Nat → Int32 → Int32
  | 0, v => v
  | 1, v => v + gI M 34 0
  | _ + 2, v => v + gI M 34 0 + gI M 34 1
theorem gg_e {M : Mm} {q : Nat} {v : Int32} (hq : q ≤ 2) : sp_X11_goGust (nI q) v M = wrI M 34 (nI q) v (fun M33 => bd (sp_X11_in (v.toInt64) (0 : Int64) (9 : Int64) M33) (fun r40 M40 => if r40 = 0 then (some ((0 : Int32), M40)) else (if (10 : Int32) < gsum M q v then (some ((0 : Int32), M40)) else (if nI q < (2 : Int32) then (some ((1 : Int32), M40)) else (if gsum M q v = (10 : Int32) then (some ((1 : Int32), M40)) else (some ((0 : Int32), M40))))))) := by
  unfold sp_X11_goGust
  simp only [jn_e]
  rcases (by omega : q = 0 ∨ q = 1 ∨ q = 2) with z | z | z <;> subst z
  · show sp_X11_goGust_L5 (nI 0) M _ (999 + 1) v (nI 0) = _
    rw [gg_x (by omega)]; rfl
  · show sp_X11_goGust_L5 (nI 1) M _ (998 + 1 + 1) v (nI 0) = _
    rw [gg_s (by omega) (by omega), gg_x (by omega)]; rfl
  · show sp_X11_goGust_L5 (nI 2) M _ (997 + 1 + 1 + 1) v (nI 0) = _
    rw [gg_s (by omega) (by omega), gg_s (by omega) (by omega), gg_x (by omega)]; rfl
/-- what the reference's page tells -/
def I_pm (M : Mm) : Prop := Nb (gI M 32 1) 22 ∧ ∀ k, k < nv (gI M 32 1) → Nb (gI M 33 k) 126
theorem I_pg.m {M : Mm} (h : I_pg M) : I_pm M := ⟨h.1, fun k hk => (h.2.2 k hk).2⟩
theorem mgo_e {M M' : Mm} (h1 : I_pm M) {k : Nat} (hk : k < nv (gI M 32 1)) (hp : ∀ j, j < k → fit M j) (g : Gst M M' k) : ∃ (b : Bool) (M'' : Mm), sp_X11_go (nI k) (gI M 33 k) M' = some (if b then 1 else 0, M'') ∧ (b = true ↔ fit M k) ∧ Gag M M'' ∧ (b = true → Gst M M'' (k + 1)) := by
  have n22 := h1.1.2
  obtain ⟨l2, l3⟩ := h1.2 k hk
  obtain ⟨g1, g2, g3, g4, g5, g6, g7⟩ := g
  have inn : ∀ M1 : Mm, ∃ b : Bool, sp_X11_in ((gI M 33 k - 48).toInt64) (0 : Int64) (9 : Int64) M1 = some (if b then 1 else 0, M1) ∧ (b = true ↔ dig M k) := fun M1 => by
    have er := dg_r (nv (gI M 33 k)) (by omega)
    rw [l2]
    by_cases hd : dig M k
    · have hd' := hd
      unfold dig at hd'
      exact ⟨true, by rw [in_1 (x := 0) (y := 9) rfl rfl (by rw [er]; omega)]; rfl, by simp [hd]⟩
    · have hd' := hd
      unfold dig at hd'
      exact ⟨false, by rw [in_0 (x := 0) (y := 9) rfl rfl (by rw [er]; omega)]; rfl, by simp [hd]⟩
  have ev : dig M k → gI M 33 k - 48 = nI (dv M k) := fun hd => by unfold dv; rw [← dg_n hd.1, ← l2]
  have zbb : ∀ (b : Bool) (x : Option (Int32 × Mm)), zb (if b then (1 : Int32) else 0) x = x := fun b x => by cases b <;> simp [zb]
  unfold sp_X11_go
  rw [bl_e]
  by_cases k0 : k = 0
  · subst k0
    rw [if_pos (by rfl), bl_e]
    have er := dg_r (nv (gI M 33 0)) (by omega)
    have e19 : ∃ b : Bool, sp_X11_in ((gI M 33 0 - 48).toInt64) (1 : Int64) (9 : Int64) (sI M' 32 2 (gI M 33 0 - 48)) = some (if b then 1 else 0, sI M' 32 2 (gI M 33 0 - 48)) ∧ (b = true ↔ fit M 0) := by
      have ef : fit M 0 ↔ (49 ≤ nv (gI M 33 0) ∧ nv (gI M 33 0) ≤ 57) := by
        unfold fit dig dv
        constructor
        · rintro (h | h)
          · omega
          · have := h.2.2.1 rfl; omega
        · intro h
          exact Or.inr ⟨by omega, by omega, fun _ => by omega, by omega, by omega, by omega⟩
      rw [l2]
      by_cases y : 49 ≤ nv (gI M 33 0) ∧ nv (gI M 33 0) ≤ 57
      · exact ⟨true, by rw [in_1 (x := 1) (y := 9) rfl rfl (by rw [er]; omega)]; rfl, by simp [ef, y]⟩
      · exact ⟨false, by rw [in_0 (x := 1) (y := 9) rfl rfl (by rw [er]; omega)]; rfl, by rw [ef]; simp [y]⟩
    obtain ⟨b, e1, e2⟩ := e19
    rw [e1, bd_s, zbb]
    refine ⟨b, _, rfl, e2, fun c j hc => by rw [gI_o (by omega)]; exact g1 c j hc, fun hb => ?_⟩
    have hd := (e2.mp hb).d (by omega)
    exact ⟨fun c j hc => by rw [gI_o (by omega)]; exact g1 c j hc, fun _ => by rw [gI_s, ev hd], by omega, by omega, by omega, by rw [gI_o (by omega), g6], by omega⟩
  · rw [if_neg (c_ne 0 0 rfl k0 (by omega) (by decide))]
    by_cases k1 : k = 1
    · subst k1
      rw [if_pos (by rfl), bl_e]
      obtain ⟨b, e1, e2⟩ := inn (sI M' 32 2 (10 * gI M' 32 2 + (gI M 33 1 - 48)))
      rw [e1, bd_s, zbb]
      have ef : fit M 1 ↔ dig M 1 := ⟨fun h => h.d (by omega), fun h => Or.inr ⟨by omega, h, by omega, by omega, by omega, by omega⟩⟩
      refine ⟨b, _, rfl, e2.trans ef.symm, fun c j hc => by rw [gI_o (by omega)]; exact g1 c j hc, fun hb => ?_⟩
      have hd := e2.mp hb
      refine ⟨fun c j hc => by rw [gI_o (by omega)]; exact g1 c j hc, by omega, fun _ => ?_, by omega, by omega, by rw [gI_o (by omega), g6], by omega⟩
      rw [gI_s, ev hd, g2 rfl, show (10 : Int32) = nI 10 from rfl, nI_mul, nI_add]
    · rw [if_neg (c_ne 1 1 rfl k1 (by omega) (by decide))]
      have colon : (k = 2 ∨ k = 4 ∨ k = 8) → ∃ (b : Bool) (M'' : Mm), (if gI M 33 k = (58 : Int32) then (some ((1 : Int32), M')) else (some ((0 : Int32), M'))) = some (if b then 1 else 0, M'') ∧ (b = true ↔ fit M k) ∧ Gag M M'' ∧ (b = true → Gst M M'' (k + 1)) := fun z => by
        have ef : fit M k ↔ nv (gI M 33 k) = 58 := by
          unfold fit
          constructor
          · rintro (h | h)
            · exact h.2
            · exact absurd z h.1
          · intro h; exact Or.inl ⟨z, h⟩
        have gn : Gst M M' (k + 1) := ⟨g1, by omega, fun _ => g3 (by omega), fun _ => g4 (by omega), fun j a b => g5 j a (by omega), by rw [g6]; congr 1; omega, fun j a => g7 j (by omega)⟩
        by_cases y : nv (gI M 33 k) = 58
        · exact ⟨true, M', by rw [if_pos (by rw [l2, y]; rfl)]; rfl, by rw [ef]; simp [y], g1, fun _ => gn⟩
        · exact ⟨false, M', by rw [if_neg (by rw [l2]; exact c_ne 58 58 rfl y (by omega) (by decide))]; rfl, by rw [ef]; simp [y], g1, fun _ => gn⟩
      by_cases k2 : k = 2
      · rw [if_pos (by rw [k2]; rfl)]; exact colon (by omega)
      · rw [if_neg (c_ne 2 2 rfl k2 (by omega) (by decide))]
        by_cases k3 : k = 3
        · subst k3
          rw [if_pos (by rfl), bl_e]
          obtain ⟨b, e1, e2⟩ := inn (sI M' 32 3 (gI M 33 3 - 48))
          rw [e1, bd_s, zbb]
          have ef : fit M 3 ↔ dig M 3 := ⟨fun h => h.d (by omega), fun h => Or.inr ⟨by omega, h, by omega, by omega, by omega, by omega⟩⟩
          refine ⟨b, _, rfl, e2.trans ef.symm, fun c j hc => by rw [gI_o (by omega)]; exact g1 c j hc, fun hb => ?_⟩
          have hd := e2.mp hb
          exact ⟨fun c j hc => by rw [gI_o (by omega)]; exact g1 c j hc, by omega, fun _ => by rw [gI_o (by omega), g3 (by omega)], fun _ => by rw [gI_s, ev hd], by omega, by rw [gI_o (by omega), g6], by omega⟩
        · rw [if_neg (c_ne 3 3 rfl k3 (by omega) (by decide))]
          by_cases k4 : k = 4
          · rw [if_pos (by rw [k4]; rfl)]; exact colon (by omega)
          · rw [if_neg (c_ne 4 4 rfl k4 (by omega) (by decide))]
            have gust : (k = 5 ∨ k = 6 ∨ k = 7) → ∃ (b : Bool) (M'' : Mm), bd (sp_X11_goGust (nI k - (5 : Int32)) (gI M 33 k - 48) M') (fun r126 M126 => zb r126 (some (r126, M126))) = some (if b then 1 else 0, M'') ∧ (b = true ↔ fit M k) ∧ Gag M M'' ∧ (b = true → Gst M M'' (k + 1)) := fun z => by
              rw [show (5 : Int32) = nI 5 from rfl, nI_sub (by omega), gg_e (by omega), wrI_n (show k - 5 < 3 by omega)]
              obtain ⟨b, e1, e2⟩ := inn (sI M' 34 (k - 5) (gI M 33 k - 48))
              have ag : Gag M (sI M' 34 (k - 5) (gI M 33 k - 48)) := fun c j hc => by rw [gI_o (by omega)]; exact g1 c j hc
              rw [e1, bd_s]
              cases b with
              | false =>
                rw [if_pos (by rfl), bd_s]
                refine ⟨false, _, by simp [zb], ?_, ag, by simp⟩
                constructor
                · intro h; exact absurd h (by simp)
                · intro h; exact absurd (e2.mpr (h.d (by omega))) (by simp)
              | true =>
                have hd := e2.mp rfl
                have hv := hd.v
                rw [if_neg (by simp)]
                have gn : Gst M (sI M' 34 (k - 5) (gI M 33 k - 48)) (k + 1) := by
                  refine ⟨ag, by omega, fun _ => by rw [gI_o (by omega), g3 (by omega)], fun _ => by rw [gI_o (by omega), g4 (by omega)], fun j a b => ?_, by rw [gI_o (by omega), g6]; congr 1; omega, by omega⟩
                  by_cases y : j = k - 5
                  · rw [y, gI_s, ev hd]; congr 2; omega
                  · rw [gI_o (by omega)]; exact g5 j a (by omega)
                rcases z with z | z | z <;> subst z
                · have es : gsum M' (5 - 5) (gI M 33 5 - 48) = nI (dv M 5) := by show gI M 33 5 - 48 = _; rw [ev hd]
                  rw [es, if_neg (c_ngt 10 10 rfl (by omega) (by decide)), if_pos (c_lt 2 2 rfl (by omega) (by decide)), bd_s]
                  refine ⟨true, _, by simp [zb], ?_, ag, fun _ => gn⟩
                  exact ⟨fun _ => Or.inr ⟨by omega, hd, by omega, by omega, by omega, by omega⟩, fun _ => rfl⟩
                · have d5 : dig M 5 := (hp 5 (by omega)).d (by omega)
                  have v5 := d5.v
                  have es : gsum M' (6 - 5) (gI M 33 6 - 48) = nI (dv M 5 + dv M 6) := by
                    show gI M 33 6 - 48 + gI M' 34 0 = _; rw [ev hd, g5 0 (by omega) (by omega), nI_add, Nat.add_zero, Nat.add_comm]
                  rw [es]
                  by_cases y : dv M 5 + dv M 6 ≤ 10
                  · rw [if_neg (c_ngt 10 10 rfl (by omega) (by decide)), if_pos (c_lt 2 2 rfl (by omega) (by decide)), bd_s]
                    refine ⟨true, _, by simp [zb], ?_, ag, fun _ => gn⟩
                    exact ⟨fun _ => Or.inr ⟨by omega, hd, by omega, fun _ => y, by omega, by omega⟩, fun _ => rfl⟩
                  · rw [if_pos (c_gt 10 10 rfl (by omega) (by omega)), bd_s]
                    refine ⟨false, _, by simp [zb], ?_, ag, by simp⟩
                    constructor
                    · intro h; exact absurd h (by simp)
                    · rintro (h | h)
                      · exact absurd h.1 (by omega)
                      · exact absurd (h.2.2.2.1 rfl) y
                · have d5 : dig M 5 := (hp 5 (by omega)).d (by omega)
                  have d6 : dig M 6 := (hp 6 (by omega)).d (by omega)
                  have v5 := d5.v
                  have v6 := d6.v
                  have es : gsum M' (7 - 5) (gI M 33 7 - 48) = nI (dv M 5 + dv M 6 + dv M 7) := by
                    show gI M 33 7 - 48 + gI M' 34 0 + gI M' 34 1 = _; rw [ev hd, g5 0 (by omega) (by omega), g5 1 (by omega) (by omega), nI_add, nI_add]; show nI (dv M 7 + dv M 5 + dv M 6) = _; congr 1; omega
                  rw [es]
                  by_cases y : dv M 5 + dv M 6 + dv M 7 = 10
                  · rw [if_neg (c_ngt 10 10 rfl (by omega) (by decide)), if_neg (c_nlt 2 2 rfl (by omega) (by omega)), if_pos (by rw [y]; rfl), bd_s]
                    refine ⟨true, _, by simp [zb], ?_, ag, fun _ => gn⟩
                    exact ⟨fun _ => Or.inr ⟨by omega, hd, by omega, by omega, fun _ => y, by omega⟩, fun _ => rfl⟩
                  · have e0 : (if (10 : Int32) < nI (dv M 5 + dv M 6 + dv M 7) then (some ((0 : Int32), sI M' 34 (7 - 5) (gI M 33 7 - 48))) else (if nI (7 - 5) < (2 : Int32) then (some ((1 : Int32), sI M' 34 (7 - 5) (gI M 33 7 - 48))) else (if nI (dv M 5 + dv M 6 + dv M 7) = (10 : Int32) then (some ((1 : Int32), sI M' 34 (7 - 5) (gI M 33 7 - 48))) else (some ((0 : Int32), sI M' 34 (7 - 5) (gI M 33 7 - 48)))))) = some (0, sI M' 34 (7 - 5) (gI M 33 7 - 48)) := by
                      rw [if_neg (c_nlt 2 2 rfl (by omega) (by omega)), if_neg (c_ne 10 10 rfl y (by omega) (by decide))]
                      split <;> rfl
                    rw [e0, bd_s]
                    refine ⟨false, _, by simp [zb], ?_, ag, by simp⟩
                    constructor
                    · intro h; exact absurd h (by simp)
                    · rintro (h | h)
                      · exact absurd h.1 (by omega)
                      · exact absurd (h.2.2.2.2.1 rfl) y
            by_cases k5 : k = 5
            · rw [if_pos (by rw [k5]; rfl)]; exact gust (by omega)
            · rw [if_neg (c_ne 5 5 rfl k5 (by omega) (by decide))]
              by_cases k6 : k = 6
              · rw [if_pos (by rw [k6]; rfl)]; exact gust (by omega)
              · rw [if_neg (c_ne 6 6 rfl k6 (by omega) (by decide))]
                by_cases k7 : k = 7
                · rw [if_pos (by rw [k7]; rfl)]; exact gust (by omega)
                · rw [if_neg (c_ne 7 7 rfl k7 (by omega) (by decide))]
                  by_cases k8 : k = 8
                  · rw [if_pos (by rw [k8]; rfl)]; exact colon (by omega)
                  · rw [if_neg (c_ne 8 8 rfl k8 (by omega) (by decide)), g6]
                    by_cases k19 : k = 19
                    · rw [if_pos (by rw [k19]; rfl)]
                      refine ⟨false, _, rfl, ?_, g1, by simp⟩
                      constructor
                      · intro h; exact absurd h (by simp)
                      · rintro (h | h)
                        · exact absurd h.1 (by omega)
                        · exact absurd h.2.2.2.2.2 (by omega)
                    · have k19' : k < 19 := by
                        rcases Nat.lt_or_ge k 19 with h | h
                        · exact h
                        · exfalso
                          rcases hp 19 (by omega) with h | h
                          · exact absurd h.1 (by omega)
                          · exact absurd h.2.2.2.2.2 (by omega)
                      rw [if_neg (c_ne 10 10 rfl (by omega) (by omega) (by decide))]
                      obtain ⟨b, e1, e2⟩ := inn M'
                      have ef : fit M k ↔ dig M k := ⟨fun h => h.d (by omega), fun h => Or.inr ⟨by omega, h, by omega, by omega, by omega, by omega⟩⟩
                      rw [e1, bd_s]
                      cases b with
                      | false => exact ⟨false, _, rfl, e2.trans ef.symm, g1, by simp⟩
                      | true =>
                        have hd := e2.mp rfl
                        rw [if_neg (by simp), g6, wrI_n (show k - 9 < 10 by omega), bl_e, gI_o (by omega), g6, nI_p]
                        have ag : Gag M (sI (sI M' 35 (k - 9) (gI M 33 k - 48)) 32 6 (nI (k - 9 + 1))) := fun c j hc => by rw [gI_o (by omega), gI_o (by omega)]; exact g1 c j hc
                        refine ⟨true, _, rfl, e2.trans ef.symm, ag, fun _ => ?_⟩
                        refine ⟨ag, by omega, fun _ => by rw [gI_o (by omega), gI_o (by omega), g3 (by omega)], fun _ => by rw [gI_o (by omega), gI_o (by omega), g4 (by omega)], fun j a b => by rw [gI_o (by omega), gI_o (by omega)]; exact g5 j a (by omega), by rw [gI_s]; congr 1; omega, fun j a => ?_⟩
                        rw [gI_o (by omega)]
                        by_cases y : j = k - 9
                        · rw [y, gI_s, ev hd]; congr 2; omega
                        · rw [gI_o (by omega)]; exact g7 j (by omega)
theorem mfp_e {M : Mm} (h1 : I_pm M) {f : Nat} (hf : f ≤ nv (gI M 32 1)) (hp : ∀ j, j < f → fit M j) (hn : f < nv (gI M 32 1) → ¬ fit M f) : ∃ M', sp_X11_faultOf M = some (nI f, M') ∧ Gag M M' ∧ (f = nv (gI M 32 1) → Gst M M' f) := by
  have n22 := h1.1.2
  unfold sp_X11_faultOf
  rw [bl_e]
  suffices ∀ g k M', k ≤ f → f < k + g → Gst M M' k → ∃ M'', sp_X11_faultOf_L7 g (nI k) M' = some (nI f, M'') ∧ Gag M M'' ∧ (f = nv (gI M 32 1) → Gst M M'' f) from
    this fu 0 _ (by omega) (by show _ < _ + 1000; omega) ⟨fun c j hc => by rw [gI_o (by omega)], by omega, by omega, by omega, by omega, by rw [gI_s]; rfl, by omega⟩
  intro g
  induction g with
  | zero => intro k M' a b; omega
  | succ g ih =>
    intro k M' a b st
    rw [sp_X11_faultOf_L7, st.1 32 1 (by omega)]
    by_cases y : k < nv (gI M 32 1)
    · rw [if_pos (by rw [h1.1.1]; exact (nI_ltI (by omega) (by omega)).mpr y), rdI_n (show k < 22 by omega), st.1 33 k (by omega)]
      obtain ⟨t, M'', e1, e2, e3, e4⟩ := mgo_e h1 y (fun j hj => hp j (by omega)) st
      rw [e1, bd_s]
      by_cases z : k = f
      · subst z
        have : ¬ t = true := fun q => hn y (e2.mp q)
        rw [if_pos (by rw [if_neg this])]
        exact ⟨M'', rfl, e3, by omega⟩
      · have : t = true := e2.mpr (hp k (by omega))
        rw [if_neg (by rw [if_pos this]; exact i10), nI_p]
        exact ih (k + 1) M'' (by omega) (by omega) (e4 this)
    · rw [if_neg (by rw [h1.1.1, nI_ltI (by omega) (by omega)]; exact y)]
      have : f = k := by omega
      subst this
      exact ⟨M', rfl, st.1, fun _ => st⟩
theorem Gag.sm {M M' : Mm} (h : Gag M M') : Sm M M' := fun c k z => h c k (fun y => z (by unfold scr; omega))
theorem Bo_fault {i : Nat} {M : Mm} (h : Inv i M) (hz : I_z M) : Bo i M sp_X10_fault sp_X11_fault := by
  have h1 := h.1
  obtain ⟨f, a1, a2, a3⟩ := ex_f (fit M) (nv (gI M 32 1))
  obtain ⟨M', e1, e2, e3⟩ := mfp_e h1.m a1 a2 a3
  refine ⟨nI f, M, M', ?_, ?_, (e2.sm.inv h).up, e2.sm.z hz⟩
  · unfold sp_X10_fault; rw [cfp_e h1 a1 a2 a3, bd_s]
  · unfold sp_X11_fault; rw [e1, bd_s]
