/-! takes, mayCome, falls; THE CALLS about, come, fire, breaks, count, said -/
def sg (M : Mm) (m : Nat) : Bool := decide (nv (gI M 32 13) < nv (gI M 41 (3 * m + 1)) * nv (gI M 32 8) / 50)
theorem if_ltn {α : Type} {a b : Nat} (ha : a < 2 ^ 31) (hb : b < 2 ^ 31) (x y : α) : (if nI a < nI b then x else y) = if a < b then x else y := by
  by_cases h : a < b
  · rw [if_pos h, if_pos ((nI_ltI ha hb).mpr h)]
  · rw [if_neg h, if_neg (fun q => h ((nI_ltI ha hb).mp q))]
theorem if_eqn {α : Type} {a b : Nat} (ha : a < 2 ^ 31) (hb : b < 2 ^ 31) (x y : α) : (if nI a = nI b then x else y) = if a = b then x else y := by
  by_cases h : a = b
  · rw [if_pos h, if_pos (by rw [h])]
  · rw [if_neg h, if_neg (fun q => h ((nI_eq ha hb).mp q))]
theorem wt_n {M : Mm} (h4 : I_mn M) {m : Nat} (hm : m < nM M) : gI M 41 (3 * m) = nI (nv (gI M 41 (3 * m))) ∧ nv (gI M 41 (3 * m)) ≤ 4 ∧ gI M 41 (3 * m + 1) = nI (nv (gI M 41 (3 * m + 1))) ∧ nv (gI M 41 (3 * m + 1)) ≤ 30 := by
  have h := h4.2.2.1 m hm
  exact ⟨h.2.1.1, h.2.1.2, h.2.2.2.1.1, h.2.2.2.1.2⟩
theorem csags_e {i : Nat} {M : Mm} (h2 : I_nt i M) (h4 : I_mn M) (h6 : I_cu M) {m : Nat} (hm : m < nM M) : sp_X2_sags (nI m) (gI M 3 0) (gI M 13 5) M = some (if sg M m then 1 else 0, M) := by
  obtain ⟨w1, w2, w3, w4⟩ := wt_n h4 hm
  have hf : gI M 3 0 = nI (nv (gI M 32 8)) := h2.2.2.2.2.2.2.1.trans h2.2.2.2.2.2.1.1
  have hf2 := h2.2.2.2.2.2.1.2
  have hh : gI M 13 5 = nI (nv (gI M 32 13)) := h6.2.2.2.2.2.2.2.2.1.trans h6.2.2.2.2.2.2.2.1.1
  have hh2 := h6.2.2.2.2.2.2.2.1.2
  have hb : nv (gI M 41 (3 * m + 1)) * nv (gI M 32 8) ≤ 30 * 99 := Nat.mul_le_mul w4 hf2
  unfold sp_X2_sags sg
  rw [weight_e h4 hm, bd_s, hf, hh, w3, nI_mul, nv_n (by omega), show (50 : Int32) = nI 50 from rfl, nI_div (by omega) (by decide), if_ltn (by omega) (by omega)]
  simp only [decide_eq_true_eq]
  split <;> rfl
theorem hw_n {M : Mm} (h6 : I_cu M) : Nb (gI M 32 13) 60 := h6.2.2.2.2.2.2.2.1
theorem msags_e {i : Nat} {M : Mm} (h2 : I_nt i M) (h4 : I_mn M) (h6 : Nb (gI M 32 13) 60) {m : Nat} (hm : m < nM M) : sp_X11_sags (nI m) M = some (if sg M m then 1 else 0, M) := by
  obtain ⟨w1, w2, w3, w4⟩ := wt_n h4 hm
  have n1 := h4.n.1
  have hf : gI M 32 8 = nI (nv (gI M 32 8)) := h2.2.2.2.2.2.1.1
  have hf2 := h2.2.2.2.2.2.1.2
  have hh : gI M 32 13 = nI (nv (gI M 32 13)) := h6.1
  have hh2 := h6.2
  have hb : nv (gI M 41 (3 * m + 1)) * nv (gI M 32 8) ≤ 30 * 99 := Nat.mul_le_mul w4 hf2
  unfold sp_X11_sags sg
  rw [nI_31, rdI_n (show 3 * m + 1 < 18 by omega)]
  generalize nv (gI M 41 (3 * m + 1)) = a at *
  generalize nv (gI M 32 8) = b at *
  generalize nv (gI M 32 13) = c at *
  rw [w3, hf, hh, nI_mul, show (50 : Int32) = nI 50 from rfl, nI_div (by omega) (by decide), if_ltn (by omega) (by omega)]
  simp only [decide_eq_true_eq]
  split <;> rfl
/-- the minutes that a man takes -/
def tk (M : Mm) (m : Nat) : Nat := (if nv (gI M 41 (3 * m)) = 1 then (2 + nv (gI M 41 (3 * m + 1)) / 5 + 1) / 2 else if nv (gI M 41 (3 * m)) = 3 then 2 + nv (gI M 41 (3 * m + 1)) / 5 + 3 else 2 + nv (gI M 41 (3 * m + 1)) / 5) + (if sg M m then 2 else 0)
theorem tk_le {M : Mm} (h4 : I_mn M) {m : Nat} (hm : m < nM M) : tk M m ≤ 13 := by
  obtain ⟨w1, w2, w3, w4⟩ := wt_n h4 hm
  unfold tk
  repeat' split
  all_goals omega
theorem nI_c (a : Nat) (b : Nat) (x : Int32) (hx : nI b = x) : nI a + x = nI (a + b) := by subst hx; exact nI_add a b
theorem c_nI (a : Nat) (b : Nat) (x : Int32) (hx : nI b = x) : x + nI a = nI (b + a) := by subst hx; exact nI_add b a
theorem nI_dc (a : Nat) (b : Nat) (x : Int32) (hx : nI b = x) (ha : a < 2 ^ 31) (hb : b < 2 ^ 31) : nI a / x = nI (a / b) := by subst hx; exact nI_div ha hb
theorem mtk_e {i : Nat} {M : Mm} (h2 : I_nt i M) (h4 : I_mn M) (h6 : Nb (gI M 32 13) 60) {m : Nat} (hm : m < nM M) : sp_X11_takes (nI m) M = some (nI (tk M m), M) := by
  obtain ⟨w1, w2, w3, w4⟩ := wt_n h4 hm
  have n1 := h4.n.1
  unfold sp_X11_takes
  rw [nI_31, nI_30, rdI_n (show 3 * m < 18 by omega), rdI_n (show 3 * m + 1 < 18 by omega)]
  simp only [bl_e, jn_e, msags_e h2 h4 h6 hm, bd_s]
  unfold tk
  generalize sg M m = s at *
  generalize nv (gI M 41 (3 * m + 1)) = a at *
  generalize nv (gI M 41 (3 * m)) = b at *
  rw [w1, w3, nI_dc a 5 5 rfl (by omega) (by decide), c_nI (a / 5) 2 2 rfl, nI_c (2 + a / 5) 1 1 rfl, nI_c (2 + a / 5) 3 3 rfl, nI_dc _ 2 2 rfl (by omega) (by decide)]
  have e1 : (nI b = 1) = (b = 1) := nI_eqi (b := 1) (by omega) (by decide)
  have e3 : (nI b = 3) = (b = 3) := nI_eqi (b := 3) (by omega) (by decide)
  simp only [e1, e3]
  cases s with
  | true =>
    simp only [if_true, i10, if_false]
    by_cases q1 : b = 1
    · simp only [q1, if_true]; rw [nI_c _ 2 2 rfl]
    · by_cases q3 : b = 3
      · simp only [q1, q3, if_true, if_false]; rw [if_neg (by decide), if_neg (by decide), nI_c _ 2 2 rfl]
      · simp only [q1, q3, if_false]; rw [nI_c _ 2 2 rfl]
  | false =>
    simp only [Bool.false_eq_true, if_true, if_false, Nat.add_zero]
    by_cases q1 : b = 1
    · simp only [q1, if_true]
    · by_cases q3 : b = 3
      · simp only [q1, q3, if_true, if_false]; rw [if_neg (by decide), if_neg (by decide)]
      · simp only [q1, q3, if_false]
theorem ctk_e {i : Nat} {M : Mm} (h2 : I_nt i M) (h4 : I_mn M) (h6 : I_cu M) {m : Nat} (hm : m < nM M) : sp_X2_takes (nI m) (gI M 3 0) (gI M 13 5) M = some (nI (tk M m), M) := by
  obtain ⟨w1, w2, w3, w4⟩ := wt_n h4 hm
  have n1 := h4.n.1
  unfold sp_X2_takes
  simp only [weight_e h4 hm, kind_e h4 hm, bd_s, bl_e, jn_e, csags_e h2 h4 h6 hm]
  unfold tk
  generalize sg M m = s at *
  generalize nv (gI M 41 (3 * m + 1)) = a at *
  generalize nv (gI M 41 (3 * m)) = b at *
  rw [w1, w3, nI_dc a 5 5 rfl (by omega) (by decide), c_nI (a / 5) 2 2 rfl, nI_c (2 + a / 5) 1 1 rfl, nI_dc _ 2 2 rfl (by omega) (by decide)]
  have e1 : (nI b = 1) = (b = 1) := nI_eqi (b := 1) (by omega) (by decide)
  have e3 : (nI b = 3) = (b = 3) := nI_eqi (b := 3) (by omega) (by decide)
  simp only [e1, e3]
  cases s with
  | true =>
    simp only [if_true, i10, if_false]
    by_cases q1 : b = 1
    · simp only [q1, if_true]; rw [if_neg (by decide), nI_c _ 2 2 rfl]
    · by_cases q3 : b = 3
      · simp only [q1, q3, if_true, if_false]; rw [if_neg (by decide), if_neg (by decide), nI_c _ 3 3 rfl, nI_c _ 2 2 rfl]
      · simp only [q1, q3, if_false]; rw [nI_c _ 2 2 rfl]
  | false =>
    simp only [Bool.false_eq_true, if_true, if_false, Nat.add_zero]
    by_cases q1 : b = 1
    · simp only [q1, if_true]; rw [if_neg (by decide)]
    · by_cases q3 : b = 3
      · simp only [q1, q3, if_true, if_false]; rw [if_neg (by decide), if_neg (by decide), nI_c _ 3 3 rfl]
      · simp only [q1, q3, if_false]
/-- whether a man may come -/
def mcg (M : Mm) (ob m : Nat) : Bool := decide (gI M 32 11 = 1 ∧ gI M 32 12 = 0 ∧ cm M ob m ∧ nv (gI M 32 10) + tk M m < 5 * sT M)
theorem mcg_iff (M : Mm) (ob m : Nat) : mcg M ob m = true ↔ (gI M 32 11 = 1 ∧ gI M 32 12 = 0 ∧ cm M ob m ∧ nv (gI M 32 10) + tk M m < 5 * sT M) := decide_eq_true_iff
theorem mcg_f {M : Mm} {ob m : Nat} (h : ¬ (gI M 32 11 = 1 ∧ gI M 32 12 = 0 ∧ cm M ob m ∧ nv (gI M 32 10) + tk M m < 5 * sT M)) : mcg M ob m = false := by
  cases q : mcg M ob m
  · rfl
  · exact absurd ((mcg_iff M ob m).mp q) h
def mc (M : Mm) (m : Nat) : Bool := mcg M (nv (gI M 13 4)) m
theorem mc_iff (M : Mm) (m : Nat) : mc M m = true ↔ (gI M 32 11 = 1 ∧ gI M 32 12 = 0 ∧ cm M (nv (gI M 13 4)) m ∧ nv (gI M 32 10) + tk M m < 5 * sT M) := decide_eq_true_iff
theorem mc_t {M : Mm} {m : Nat} (h : gI M 32 11 = 1 ∧ gI M 32 12 = 0 ∧ cm M (nv (gI M 13 4)) m ∧ nv (gI M 32 10) + tk M m < 5 * sT M) : mc M m = true := (mc_iff M m).mpr h
theorem mc_f {M : Mm} {m : Nat} (h : ¬ (gI M 32 11 = 1 ∧ gI M 32 12 = 0 ∧ cm M (nv (gI M 13 4)) m ∧ nv (gI M 32 10) + tk M m < 5 * sT M)) : mc M m = false := by
  cases q : mc M m
  · rfl
  · exact absurd ((mc_iff M m).mp q) h
theorem mi_n {M : Mm} (h6 : I_cu M) : gI M 32 10 = nI (nv (gI M 32 10)) ∧ gI M 13 0 = nI (nv (gI M 32 10)) ∧ nv (gI M 32 10) ≤ 49 := ⟨h6.1.1, h6.2.2.1.trans h6.1.1, h6.1.2⟩
theorem isInO {M : Mm} (h4 : I_mn M) (h6 : I_cu M) {m : Nat} (hm : m < 6) (M1 : Mm) : sp_X10_isIn (gI M 13 4) (nI m) M1 = some (if (nv (gI M 13 4)).testBit m then 1 else 0, M1) := by
  have h := isIn_e (ob_n h4 h6).2.2 hm M1
  rwa [← (ob_n h4 h6).1] at h
theorem holdsO {M : Mm} (h4 : I_mn M) (h6 : I_cu M) {u : Nat} (hu : u < 64) (M1 : Mm) : sp_X10_holdsAll (gI M 13 4) (nI u) M1 = some (if nt u (nv (gI M 13 4)) = 0 then 1 else 0, M1) := by
  have h := holds_e (ob_n h4 h6).2.2 hu M1
  rwa [← (ob_n h4 h6).1] at h
theorem canO {M : Mm} (h4 : I_mn M) (h6 : I_cu M) {m : Nat} (hm : m < nM M) : ∃ r : Bool, sp_X11_canCome (nI m) (gI M 13 4) M = some (if r then 1 else 0, M) ∧ (r = true ↔ cm M (nv (gI M 13 4)) m) := by
  obtain ⟨r, a, b⟩ := can_e h4 hm (ob_n h4 h6).2.2
  rw [← (ob_n h4 h6).1] at a
  exact ⟨r, a, b⟩
theorem min_g {M : Mm} (hm0 : Nb (gI M 32 10) 49) {i : Nat} (h2 : I_nt i M) {t : Nat} (ht : t ≤ 100) : (gI M 32 10 + nI t < 5 * gI M 32 7) = (nv (gI M 32 10) + t < 5 * sT M) := by
  obtain ⟨m1, m3⟩ := hm0
  obtain ⟨s1, s2, s3⟩ := h2.s
  have e : gI M 32 10 + nI t = nI (nv (gI M 32 10) + t) := by rw [← nI_add, ← m1]
  rw [e, s2, show (5 : Int32) * nI (sT M) = nI (5 * sT M) from nI_mul 5 _, nI_lti (by omega) (by omega)]
theorem min_e {M : Mm} (h6 : I_cu M) {i : Nat} (h2 : I_nt i M) {t : Nat} (ht : t ≤ 100) : (gI M 32 10 + nI t < 5 * gI M 32 7) = (nv (gI M 32 10) + t < 5 * sT M) := by
  obtain ⟨m1, m2, m3⟩ := mi_n h6
  obtain ⟨s1, s2, s3⟩ := h2.s
  have e : gI M 32 10 + nI t = nI (nv (gI M 32 10) + t) := by rw [← nI_add, ← m1]
  rw [e, s2, show (5 : Int32) * nI (sT M) = nI (5 * sT M) from nI_mul 5 _, nI_lti (by omega) (by omega)]
theorem minc_e {M : Mm} (h6 : I_cu M) {i : Nat} (h2 : I_nt i M) {t : Nat} (ht : t ≤ 100) : (gI M 13 0 + nI t < gI M 3 1 * 5) = (nv (gI M 32 10) + t < 5 * sT M) := by
  rw [h6.2.2.1, h2.2.2.2.1, ← min_e h6 h2 ht, Int32.mul_comm]
theorem over_g {M : Mm} (h4 : I_mn M) {ob : Nat} (ho : ob < 2 ^ nM M) (hb : ∀ m, m < nM M → (gI M 41 (3 * m + 2) = -1 ↔ ob.testBit m = false)) : sp_X11_overBits M = some (nI ob, M) := by
  obtain ⟨n1, n2, n3⟩ := h4.n
  unfold sp_X11_overBits
  have := overL n1 n2 ho hb fu 0 (Nat.zero_le _) (by unfold fu; omega)
  rw [low_0] at this
  exact this
theorem mmc_g {i : Nat} {M : Mm} (h2 : I_nt i M) (h4 : I_mn M) (hh : Nb (gI M 32 13) 60) (hm0 : Nb (gI M 32 10) 49) {ob : Nat} (ho : ob < 2 ^ nM M) (hb : ∀ m, m < nM M → (gI M 41 (3 * m + 2) = -1 ↔ ob.testBit m = false)) {m : Nat} (hm : m < nM M) : sp_X11_mayCome (nI m) M = some (if mcg M ob m then 1 else 0, M) := by
  have t := tk_le h4 hm
  have h64 : ob < 64 := Nat.lt_of_lt_of_le ho (pw_64 h4.n.1)
  unfold sp_X11_mayCome
  by_cases c1 : gI M 32 11 = 1
  · rw [if_pos c1]
    by_cases c2 : gI M 32 12 = 0
    · rw [if_pos c2, over_g h4 ho hb, bd_s]
      obtain ⟨r, e1, e2⟩ := can_e h4 hm h64
      rw [e1, bd_s]
      cases r with
      | false =>
        rw [if_pos (by simp), mcg_f (fun z => by have := e2.mpr z.2.2.1; cases this)]
        rfl
      | true =>
        rw [if_neg (by simp), mtk_e h2 h4 hh hm, bd_s]
        have e := min_g hm0 h2 (t := tk M m) (by omega)
        by_cases c4 : nv (gI M 32 10) + tk M m < 5 * sT M
        · rw [if_pos (e.mpr c4), (mcg_iff M ob m).mpr ⟨c1, c2, e2.mp rfl, c4⟩]; rfl
        · rw [if_neg (fun z => c4 (e.mp z)), mcg_f (fun z => c4 z.2.2.2)]; rfl
    · rw [if_neg c2, mcg_f (fun z => c2 z.2.1)]; rfl
  · rw [if_neg c1, mcg_f (fun z => c1 z.1)]; rfl
theorem mmc_e {i : Nat} {M : Mm} (h2 : I_nt i M) (h4 : I_mn M) (h6 : I_cu M) {m : Nat} (hm : m < nM M) : sp_X11_mayCome (nI m) M = some (if mc M m then 1 else 0, M) := mmc_g h2 h4 (hw_n h6) h6.1 (ob_n h4 h6).2.1 (fun _ hm => h6.ov hm) hm
theorem cmc_e {i : Nat} {M : Mm} (h2 : I_nt i M) (h4 : I_mn M) (h6 : I_cu M) {m : Nat} (hm : m < nM M) : sp_X10_mayCome (nI m) M = some (if mc M m then 1 else 0, M) := by
  have n1 := h4.n.1
  have t := tk_le h4 hm
  have hl := h6.2.2.2.1.b01
  have el : gI M 13 1 = gI M 32 11 := h6.2.2.2.2.1
  have eb : gI M 13 2 = gI M 32 12 := h6.2.2.2.2.2.2.1
  unfold sp_X10_mayCome
  rw [el, eb]
  rcases hl with c1 | c1
  · rw [if_pos c1, mc_f (fun z => by rw [c1] at z; exact absurd z.1 (by decide))]; rfl
  · rw [if_neg (by rw [c1]; decide)]
    by_cases c2 : gI M 32 12 = 0
    · rw [if_pos c2, isInO h4 h6 (by omega), bd_s]
      cases hov : (nv (gI M 13 4)).testBit m with
      | true => rw [if_neg (by simp), mc_f (fun z => by have := z.2.2.1.1; rw [hov] at this; cases this)]; rfl
      | false =>
        rw [if_pos (by simp), ahead_e h4 hm, bd_s, holdsO h4 h6 (ahd_lt h4 hm), bd_s]
        by_cases c3 : nt (ahd M m) (nv (gI M 13 4)) = 0
        · rw [if_pos c3, if_neg i10, ctk_e h2 h4 h6 hm, bd_s]
          unfold sp_X7_endMinute
          rw [bd_s]
          have e := minc_e h6 h2 (t := tk M m) (by omega)
          by_cases c4 : nv (gI M 32 10) + tk M m < 5 * sT M
          · rw [if_pos (e.mpr c4), mc_t ⟨c1, c2, ⟨hov, c3⟩, c4⟩]; rfl
          · rw [if_neg (fun z => c4 (e.mp z)), mc_f (fun z => c4 z.2.2.2)]; rfl
        · rw [if_neg c3, if_pos rfl, mc_f (fun z => c3 z.2.2.1.2)]; rfl
    · rw [if_neg c2, mc_f (fun z => c2 z.2.1)]; rfl
theorem asn_e {c : Prop} [Decidable c] (M : Mm) : sp_X10_asNumber (if c then 1 else 0) M = some (if c then 1 else 0, M) := by
  unfold sp_X10_asNumber
  by_cases h : c
  · rw [if_pos h, if_neg i10]
  · rw [if_neg h, if_pos rfl]
/-- what about() tells of a man -/
def abV (M : Mm) (m w : Nat) : Int32 := if w = 0 then gI M 41 (3 * m) else if w = 1 then gI M 41 (3 * m + 1) else if w = 2 then nI (tk M m) else if w = 3 then (if sg M m then 1 else 0) else if w = 4 then (if (nv (gI M 13 4)).testBit m then 1 else 0) else if w = 5 then gI M 41 (3 * m + 2) else (if mc M m then 1 else 0)
theorem wcase (p : Int32) : (∃ w, w ≤ 6 ∧ p = nI w) ∨ (¬ p = 0 ∧ ¬ p = 1 ∧ ¬ p = 2 ∧ ¬ p = 3 ∧ ¬ p = 4 ∧ ¬ p = 5 ∧ ¬ p = 6) := by
  by_cases h0 : p = 0
  · exact Or.inl ⟨0, by omega, h0⟩
  by_cases h1 : p = 1
  · exact Or.inl ⟨1, by omega, h1⟩
  by_cases h2 : p = 2
  · exact Or.inl ⟨2, by omega, h2⟩
  by_cases h3 : p = 3
  · exact Or.inl ⟨3, by omega, h3⟩
  by_cases h4 : p = 4
  · exact Or.inl ⟨4, by omega, h4⟩
  by_cases h5 : p = 5
  · exact Or.inl ⟨5, by omega, h5⟩
  by_cases h6 : p = 6
  · exact Or.inl ⟨6, by omega, h6⟩
  exact Or.inr ⟨h0, h1, h2, h3, h4, h5, h6⟩
theorem about_e {i : Nat} {M : Mm} (h2 : I_nt i M) (h4 : I_mn M) (h6 : I_cu M) {m w : Nat} (hm : m < nM M) (hw : w ≤ 6) : sp_X10_about (nI m) (nI w) M = some (abV M m w, M) := by
  obtain ⟨o1, o2, o3⟩ := ob_n h4 h6
  have n1 := h4.n.1
  unfold sp_X10_about abV
  rw [mhas_1 h4 hm, bd_s, if_neg i10]
  rcases (by omega : w = 0 ∨ w = 1 ∨ w = 2 ∨ w = 3 ∨ w = 4 ∨ w = 5 ∨ w = 6) with rfl | rfl | rfl | rfl | rfl | rfl | rfl
  · rw [if_pos (by decide), kind_e h4 hm, bd_s]; rfl
  · rw [if_neg (by decide), if_pos (by decide), weight_e h4 hm, bd_s]; rfl
  · rw [if_neg (by decide), if_neg (by decide), if_pos (by decide), ctk_e h2 h4 h6 hm, bd_s]; rfl
  · rw [if_neg (by decide), if_neg (by decide), if_neg (by decide), if_pos (by decide), csags_e h2 h4 h6 hm, bd_s, asn_e, bd_s]; rfl
  · rw [if_neg (by decide), if_neg (by decide), if_neg (by decide), if_neg (by decide), if_pos (by decide), isInO h4 h6 (by omega), bd_s, asn_e, bd_s]; rfl
  · rw [if_neg (by decide), if_neg (by decide), if_neg (by decide), if_neg (by decide), if_neg (by decide), if_pos (by decide)]
    unfold sp_X1_overMinute
    rw [isInO h4 h6 (by omega), bd_s]
    have h := h6.2.2.2.2.2.2.2.2.2.2.2.2.1 m hm
    cases hov : (nv (gI M 13 4)).testBit m with
    | true => rw [hov] at h; rw [if_neg (by simp), at_n (show m < 6 by omega), bd_s, bd_s]; simp only [if_true] at h; simp [h.1]
    | false => rw [hov] at h; rw [if_pos (by simp), bd_s]; simpa using h.symm
  · rw [if_neg (by decide), if_neg (by decide), if_neg (by decide), if_neg (by decide), if_neg (by decide), if_neg (by decide), if_pos (by decide), cmc_e h2 h4 h6 hm, bd_s, asn_e, bd_s]; rfl
theorem tellM_e {i : Nat} {M : Mm} (h2 : I_nt i M) (h4 : I_mn M) (h6 : I_cu M) {m w : Nat} (hm : m < nM M) (hw : w ≤ 6) : sp_X11_tellMan (nI m) (nI w) M = some (abV M m w, M) := by
  have n1 := h4.n.1
  unfold sp_X11_tellMan abV
  rcases (by omega : w = 0 ∨ w = 1 ∨ w = 2 ∨ w = 3 ∨ w = 4 ∨ w = 5 ∨ w = 6) with rfl | rfl | rfl | rfl | rfl | rfl | rfl
  · rw [if_pos (by decide), nI_30, nI_add, rdI_n (show 3 * m + 0 < 18 by omega)]; rfl
  · rw [if_neg (by decide), if_pos (by decide), nI_30, nI_add, rdI_n (show 3 * m + 1 < 18 by omega)]; rfl
  · rw [if_neg (by decide), if_neg (by decide), if_pos (by decide), mtk_e h2 h4 (hw_n h6) hm, bd_s]; rfl
  · rw [if_neg (by decide), if_neg (by decide), if_neg (by decide), if_pos (by decide), msags_e h2 h4 (hw_n h6) hm, bd_s]
    cases s : sg M m <;> simp
  · rw [if_neg (by decide), if_neg (by decide), if_neg (by decide), if_neg (by decide), if_pos (by decide), nI_32, rdI_n (show 3 * m + 2 < 18 by omega)]
    have h := h6.ov hm
    cases hov : (nv (gI M 13 4)).testBit m with
    | true => rw [if_neg (fun z => by rw [h, hov] at z; cases z)]; rfl
    | false => rw [if_pos (h.mpr hov)]; rfl
  · rw [if_neg (by decide), if_neg (by decide), if_neg (by decide), if_neg (by decide), if_neg (by decide), if_pos (by decide), nI_32, rdI_n (show 3 * m + 2 < 18 by omega)]; rfl
  · rw [if_neg (by decide), if_neg (by decide), if_neg (by decide), if_neg (by decide), if_neg (by decide), if_neg (by decide), if_pos (by decide), mmc_e h2 h4 h6 hm, bd_s]
    cases s : mc M m <;> simp
theorem Bo_about {i : Nat} {M : Mm} (h : Inv i M) (hz : I_z M) (p q : Int32) : Bo i M (sp_X10_about p q) (sp_X11_about p q) := by
  obtain ⟨h1, h2, h3, h4, h5, h6, h7⟩ := id h
  by_cases hp : ∃ j, j < nM M ∧ p = nI j
  · obtain ⟨m, hm, rfl⟩ := hp
    rcases wcase q with ⟨w, hw, rfl⟩ | ⟨q0, q1, q2, q3, q4, q5, q6⟩
    · refine Bo_same h hz (abV M m w) (about_e h2 h4 h6 hm hw) ?_
      unfold sp_X11_about
      rw [isM_1 h4 hm, bd_s, if_neg i10, tellM_e h2 h4 h6 hm hw, bd_s]
    · refine Bo_same h hz (-102) ?_ ?_
      · unfold sp_X10_about
        rw [mhas_1 h4 hm, bd_s, if_neg i10, if_neg q0, if_neg q1, if_neg q2, if_neg q3, if_neg q4, if_neg q5, if_neg q6]
      · unfold sp_X11_about sp_X11_tellMan
        rw [isM_1 h4 hm, bd_s, if_neg i10, if_neg q0, if_neg q1, if_neg q2, if_neg q3, if_neg q4, if_neg q5, if_neg q6, bd_s]
  · refine Bo_same h hz (-101) ?_ ?_
    · unfold sp_X10_about; rw [mhas_0 h4 hp, bd_s, if_pos rfl]
    · unfold sp_X11_about; rw [isM_0 h4 hp, bd_s, if_pos rfl]
