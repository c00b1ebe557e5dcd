/-! THE CALL order: how surely she holds so long -/
def hz (M : Mm) (m : Nat) : Nat → Nat → Nat → Nat
  | 0, _, _ => 0
  | f + 1, t, v => if m < (t + 1) * 5 then v else hz M m f (t + 1) (v / 10 * (10 - nv (gI M 37 t)))
theorem hz_10 (M : Mm) (m : Nat) : ∀ f t v, (∃ c, v = 10 ^ (f - 1) * c) → hz M m f t (10 * v) = 10 * hz M m f t v := by
  intro f
  induction f with
  | zero => intro t v _; rfl
  | succ f ih =>
    intro t v ⟨c, hc⟩
    rw [hz, hz]
    by_cases y : m < (t + 1) * 5
    · rw [if_pos y, if_pos y]
    · rw [if_neg y, if_neg y]
      rcases Nat.eq_zero_or_pos f with z | z
      · subst z; rfl
      · have e : v = 10 * (10 ^ (f - 1) * c) := by
          rw [hc, ← Nat.mul_assoc, show f + 1 - 1 = (f - 1) + 1 by omega, Nat.pow_succ, Nat.mul_comm (10 ^ (f - 1)) 10]
        have e1 : v / 10 = 10 ^ (f - 1) * c := by rw [e, Nat.mul_div_cancel_left _ (by decide)]
        have e2 : 10 * v / 10 = v := Nat.mul_div_cancel_left _ (by decide)
        rw [e1, e2, ← ih (t + 1) _ ⟨c * (10 - nv (gI M 37 t)), by rw [Nat.mul_assoc]⟩, ← Nat.mul_assoc, ← e]
theorem hz_le (M : Mm) (m : Nat) : ∀ f t v, hz M m f t v ≤ v := by
  intro f
  induction f with
  | zero => intro t v; exact Nat.zero_le _
  | succ f ih =>
    intro t v
    rw [hz]
    split
    · exact Nat.le_refl _
    · refine Nat.le_trans (ih _ _) ?_
      have h1 : v / 10 * (10 - nv (gI M 37 t)) ≤ v / 10 * 10 := Nat.mul_le_mul_left _ (by omega)
      have h2 := Nat.div_mul_le_self v 10
      omega
theorem choL {i : Nat} {M : Mm} (h : Inv i M) {m : Nat} (hm : m ≤ 10000) : ∀ f g t v, t + f = sT M → f < g → v ≤ 1000000000 → sp_X4_holding_L10 (nI m) g (nJ v) (nI t) M = some (nJ (hz M m f t v), M) := by
  have s10 := h.2.1.s.1
  intro f
  induction f with
  | zero =>
    intro g t v ht hg hv
    obtain ⟨g, rfl⟩ : ∃ x, g = x + 1 := ⟨g - 1, by omega⟩
    rw [sp_X4_holding_L10, h.2.1.s.2.2, if_neg (by rw [nI_ltI (by omega) (by omega)]; omega)]
    rfl
  | succ f ih =>
    intro g t v ht hg hv
    obtain ⟨g, rfl⟩ : ∃ x, g = x + 1 := ⟨g - 1, by omega⟩
    obtain ⟨q1, q2, q3⟩ := h.2.1.2.2.2.2.2.2.2.2.2.2.2.1 t (by omega)
    rw [sp_X4_holding_L10, h.2.1.s.2.2, if_pos ((nI_ltI (by omega) (by omega)).mpr (by omega)), show (1 : Int32) = nI 1 from rfl, show (5 : Int32) = nI 5 from rfl, nI_add, nI_mul, hz]
    by_cases y : m < (t + 1) * 5
    · rw [if_pos ((nI_ltI (by omega) (by omega)).mpr y), if_pos y]
    · unfold sp_X7_breakTenths
      have h1 : v / 10 * (10 - nv (gI M 37 t)) ≤ v / 10 * 10 := Nat.mul_le_mul_left _ (by omega)
      have h2 := Nat.div_mul_le_self v 10
      rw [if_neg (by rw [nI_ltI (by omega) (by omega)]; exact y), if_neg y, at_n (show t < 10 by omega), bd_s, bd_s, bl_e, q1, q2, show (10 : Int32) = nI 10 from rfl, nI_sub (by omega), nI_J (by omega), show (10 : Int64) = nJ 10 from rfl, nJ_div (by omega) (by decide), nJ_mul, ← q2]
      exact ih g (t + 1) _ (by omega) (by omega) (by omega)
