/-! THE CALL order: how surely she holds so long, the reference -/
theorem mhoS {i : Nat} {M : Mm} (h : Inv i M) {m v : Nat} (hm : m ≤ 10000) : ∀ f g t, t + f = sT M → f < g → m < (t + 1) * 5 → sp_X11_holds_L10 M (nI m) g (nJ v) (nI t) = some (nJ v, M) := by
  have s10 := h.2.1.s.1
  intro f
  induction f with
  | zero =>
    intro g t ht hg hv
    obtain ⟨g, rfl⟩ : ∃ x, g = x + 1 := ⟨g - 1, by omega⟩
    rw [sp_X11_holds_L10, h.2.1.s.2.1, if_neg (by rw [nI_ltI (by omega) (by omega)]; omega)]
  | succ f ih =>
    intro g t ht hg hv
    obtain ⟨g, rfl⟩ : ∃ x, g = x + 1 := ⟨g - 1, by omega⟩
    rw [sp_X11_holds_L10, h.2.1.s.2.1, if_pos ((nI_ltI (by omega) (by omega)).mpr (by omega)), show (5 : Int32) = nI 5 from rfl, nI_mul, nI_add, if_pos ((nI_ltI (by omega) (by omega)).mpr (by omega)), nI_p]
    exact ih g (t + 1) (by omega) (by omega) (by omega)
theorem mhoL {i : Nat} {M : Mm} (h : Inv i M) {m : Nat} (hm : m ≤ 10000) : ∀ f g t v, t + f = sT M → 0 < f → f < g → v ≤ 10000000000 → sp_X11_holds_L10 M (nI m) g (nJ v) (nI t) = some (nJ (hz M m f t v), M) := by
  have s10 := h.2.1.s.1
  intro f
  induction f with
  | zero => intro g t v ht h0; omega
  | succ f ih =>
    intro g t v ht _ hg hv
    rw [hz]
    by_cases y : m < (t + 1) * 5
    · rw [if_pos y]
      exact mhoS h hm (f + 1) g t ht hg y
    · obtain ⟨g, rfl⟩ : ∃ x, g = x + 1 := ⟨g - 1, by omega⟩
      obtain ⟨q1, q2, q3⟩ := h.2.1.2.2.2.2.2.2.2.2.2.2.2.1 t (by omega)
      rw [if_neg y, sp_X11_holds_L10, h.2.1.s.2.1, if_pos ((nI_ltI (by omega) (by omega)).mpr (by omega)), show (5 : Int32) = nI 5 from rfl, nI_mul, nI_add, if_neg (by rw [nI_ltI (by omega) (by omega)]; omega), show (1 : Int32) = nI 1 from rfl, nI_sub (by omega), nI_add]
      by_cases z : t = sT M - 1
      · obtain ⟨g, rfl⟩ : ∃ x, g = x + 1 := ⟨g - 1, by omega⟩
        have : f = 0 := by omega
        subst this
        rw [if_pos (by rw [← z]), sp_X11_holds_L10, h.2.1.s.2.1, if_neg (by rw [nI_ltI (by omega) (by omega)]; omega)]
        rfl
      · have h1 : v / 10 * (10 - nv (gI M 37 t)) ≤ v / 10 * 10 := Nat.mul_le_mul_left _ (by omega)
        have h2 := Nat.div_mul_le_self v 10
        rw [if_neg (by rw [nI_eq (by omega) (by omega)]; exact z), rdI_n (show t < 10 by omega), bl_e, q2, nI_J (by omega), show (10 : Int64) = nJ 10 from rfl, nJ_sub (by omega), nJ_div (by omega) (by decide), nJ_mul, ← q2]
        exact ih g (t + 1) _ (by omega) (by omega) (by omega) (by omega)
