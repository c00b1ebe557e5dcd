/-! THE CALL hits; the lowest terms -/
def nJ (n : Nat) : Int64 := Int64.ofNat n
theorem nJ_int {n : Nat} (h : n < 2 ^ 63) : (nJ n).toInt = (n : Int) := Int64.toInt_ofNat_of_lt h
theorem nJ_eq {a b : Nat} (ha : a < 2 ^ 63) (hb : b < 2 ^ 63) : nJ a = nJ b ↔ a = b := by
  constructor
  · intro h
    have := congrArg Int64.toInt h
    rw [nJ_int ha, nJ_int hb] at this
    omega
  · intro h; rw [h]
theorem nJ_lt {a b : Nat} (ha : a < 2 ^ 63) (hb : b < 2 ^ 63) : nJ a < nJ b ↔ a < b := by
  rw [Int64.lt_iff_toInt_lt, nJ_int ha, nJ_int hb]; omega
theorem nJ_add (a b : Nat) : nJ a + nJ b = nJ (a + b) := by simp [nJ, ← Int64.ofNat_add]
theorem nJ_mul (a b : Nat) : nJ a * nJ b = nJ (a * b) := by simp [nJ, ← Int64.ofNat_mul]
theorem nJ_sub {a b : Nat} (h : b ≤ a) : nJ a - nJ b = nJ (a - b) := by
  have e : nJ a = nJ (a - b) + nJ b := by rw [nJ_add]; congr 1; omega
  rw [e, Int64.add_sub_cancel]
theorem nJ_div {a b : Nat} (ha : a < 2 ^ 63) (hb : b < 2 ^ 63) : nJ a / nJ b = nJ (a / b) := (Int64.ofNat_div ha hb).symm
theorem nJ_mod {a b : Nat} (ha : a < 2 ^ 63) (hb : b < 2 ^ 63) : nJ a - nJ a / nJ b * nJ b = nJ (a % b) := by
  rw [nJ_div ha hb, nJ_mul, nJ_sub (Nat.div_mul_le_self a b)]
  congr 1
  have := Nat.div_add_mod a b
  rw [Nat.mul_comm]
  omega
theorem nJ_0 {n : Nat} (h : n < 2 ^ 63) : (nJ n = 0) ↔ n = 0 := nJ_eq (b := 0) h (by decide)
theorem nI_J {n : Nat} (h : n < 2 ^ 31) : (nI n).toInt64 = nJ n := by
  apply Int64.toInt_inj.mp
  rw [Int32.toInt_toInt64, nI_int h, nJ_int (by omega)]
theorem nzJ_n {β : Type} {n : Nat} (h : n < 2 ^ 63) (hn : n ≠ 0) (k : Option β) : nzJ (nJ n) k = k := by
  unfold nzJ; rw [if_neg (by rw [nJ_0 h]; exact hn)]
theorem mod_half {a b : Nat} (hb : 0 < b) (hr : 0 < a % b) : 2 * (b % (a % b)) < b := by
  have h1 := Nat.mod_lt b hr
  have h2 := Nat.mod_lt a hb
  have h3 := Nat.div_add_mod b (a % b)
  have h4 : 1 ≤ b / (a % b) := Nat.div_pos (by omega) hr
  have h5 : a % b * 1 ≤ a % b * (b / (a % b)) := Nat.mul_le_mul_left _ h4
  omega
theorem cgL (M : Mm) : ∀ k a b f s, a < 2 ^ 63 → b < 2 ^ k → k ≤ 40 → 2 * k + 2 ≤ f → s + 2 * k + 2 ≤ 100 → sp_X10_commonDivisor_L9 M f (nJ a) (nJ b) (nI s) = some (nJ (Nat.gcd a b), M) := by
  intro k
  induction k with
  | zero =>
    intro a b f s ha hb hk hf hs
    obtain ⟨f, rfl⟩ : ∃ g, f = g + 1 := ⟨f - 1, by omega⟩
    have : b = 0 := by omega
    subst this
    rw [sp_X10_commonDivisor_L9, if_pos (c_lt 100 100 rfl (by omega) (by decide)), if_pos (by rfl), Nat.gcd_zero_right]
  | succ k ih =>
    intro a b f s ha hb hk hf hs
    have p63 : 2 ^ (k + 1) ≤ 2 ^ 41 := Nat.pow_le_pow_right (by decide) (by omega)
    obtain ⟨f, rfl⟩ : ∃ g, f = g + 1 + 1 := ⟨f - 2, by omega⟩
    rw [sp_X10_commonDivisor_L9, if_pos (c_lt 100 100 rfl (by omega) (by decide))]
    by_cases b0 : b = 0
    · subst b0
      rw [if_pos (by rfl), Nat.gcd_zero_right]
    · rw [if_neg (by rw [nJ_0 (by omega)]; exact b0), nzJ_n (by omega) b0, bl_e, nJ_mod ha (by omega), nI_p]
      have hr := Nat.mod_lt a (Nat.pos_of_ne_zero b0)
      rw [sp_X10_commonDivisor_L9, if_pos (c_lt 100 100 rfl (by omega) (by decide))]
      have eg : Nat.gcd a b = Nat.gcd b (a % b) := by rw [Nat.gcd_comm a b, Nat.gcd_rec b a, Nat.gcd_comm]
      by_cases r0 : a % b = 0
      · rw [if_pos (by rw [r0]; rfl), eg, r0, Nat.gcd_zero_right]
      · rw [if_neg (by rw [nJ_0 (by omega)]; exact r0), nzJ_n (by omega) r0, bl_e, nJ_mod (by omega) (by omega), nI_p]
        have hh := mod_half (Nat.pos_of_ne_zero b0) (Nat.pos_of_ne_zero r0)
        rw [ih (a % b) (b % (a % b)) f (s + 1 + 1) (by omega) (by rw [Nat.pow_succ] at hb; omega) (by omega) (by omega) (by omega)]
        rw [eg, Nat.gcd_comm b, Nat.gcd_rec (a % b) b, Nat.gcd_comm]
theorem tmL (K : Int64 → Option (Int64 × Mm)) : ∀ k a b f, b < 2 ^ 63 → a < 2 ^ k → k ≤ 40 → 2 * k + 2 ≤ f → sp_X11_term_L6 K f (nJ a) (nJ b) = K (nJ (Nat.gcd a b)) := by
  intro k
  induction k with
  | zero =>
    intro a b f ha hb hk hf
    obtain ⟨f, rfl⟩ : ∃ g, f = g + 1 := ⟨f - 1, by omega⟩
    have : a = 0 := by omega
    subst this
    rw [sp_X11_term_L6, if_pos (by rfl), Nat.gcd_zero_left]
  | succ k ih =>
    intro b a f ha hb hk hf
    have p63 : 2 ^ (k + 1) ≤ 2 ^ 41 := Nat.pow_le_pow_right (by decide) (by omega)
    obtain ⟨f, rfl⟩ : ∃ g, f = g + 1 + 1 := ⟨f - 2, by omega⟩
    rw [sp_X11_term_L6]
    by_cases b0 : b = 0
    · subst b0
      rw [if_pos (by rfl), Nat.gcd_zero_left]
    · rw [if_neg (by rw [nJ_0 (by omega)]; exact b0), nzJ_n (by omega) b0, bl_e, nJ_mod ha (by omega)]
      have hr := Nat.mod_lt a (Nat.pos_of_ne_zero b0)
      rw [sp_X11_term_L6]
      by_cases r0 : a % b = 0
      · rw [if_pos (by rw [r0]; rfl), Nat.gcd_rec b a, r0, Nat.gcd_zero_left]
      · rw [if_neg (by rw [nJ_0 (by omega)]; exact r0), nzJ_n (by omega) r0, bl_e, nJ_mod (by omega) (by omega)]
        have hh := mod_half (Nat.pos_of_ne_zero b0) (Nat.pos_of_ne_zero r0)
        rw [ih (b % (a % b)) (a % b) f (by omega) (by rw [Nat.pow_succ] at hb; omega) (by omega) (by omega)]
        rw [Nat.gcd_rec b a, Nat.gcd_rec (a % b) b]
def low1 (a b : Nat) (p : Int32) : Nat := if p = 0 then a / Nat.gcd a b else b / Nat.gcd a b
theorem il_e {a b : Nat} (ha : a < 2 ^ 40) (hb : b < 2 ^ 40) (b0 : b ≠ 0) (p : Int32) (M : Mm) : sp_X10_inLowestTerms (nJ a) (nJ b) p M = some (nJ (low1 a b p), M) := by
  have hg := Nat.gcd_pos_of_pos_right a (Nat.pos_of_ne_zero b0)
  have hg2 := Nat.gcd_le_right a (Nat.pos_of_ne_zero b0)
  unfold sp_X10_inLowestTerms sp_X10_commonDivisor low1
  rw [show (0 : Int32) = nI 0 from rfl, cgL M 40 a b fu 0 (by omega) hb (by omega) (by decide) (by omega), bd_s, if_pos (by rw [show (0 : Int64) = nJ 0 from rfl, nJ_lt (by decide) (by omega)]; exact hg)]
  by_cases hp : p = nI 0
  · rw [if_pos hp, if_pos hp, nzJ_n (by omega) (by omega), nJ_div (by omega) (by omega)]
  · rw [if_neg hp, if_neg hp, nzJ_n (by omega) (by omega), nJ_div (by omega) (by omega)]
theorem tm_e {a b : Nat} (ha : a < 2 ^ 40) (hb : b < 2 ^ 40) (b0 : b ≠ 0) (p : Int32) (M : Mm) : sp_X11_term (nJ a) (nJ b) p M = some (nJ (low1 a b p), M) := by
  have hg := Nat.gcd_pos_of_pos_right a (Nat.pos_of_ne_zero b0)
  have hg2 := Nat.gcd_le_right a (Nat.pos_of_ne_zero b0)
  unfold sp_X11_term low1
  simp only [jn_e]
  rw [tmL _ 40 a b fu (by omega) ha (by omega) (by decide)]
  by_cases hp : p = 0
  · rw [if_pos hp, if_pos hp, nzJ_n (by omega) (by omega), nJ_div (by omega) (by omega)]
  · rw [if_neg hp, if_neg hp, nzJ_n (by omega) (by omega), nJ_div (by omega) (by omega)]
theorem low1_c {a b c : Nat} (hc : 0 < c) (p : Int32) : low1 (c * a) (c * b) p = low1 a b p := by
  unfold low1
  rw [Nat.gcd_mul_left, Nat.mul_div_mul_left _ _ hc, Nat.mul_div_mul_left _ _ hc]
/-! by how many tenths a rocket falls right -/
def hg (M : Mm) (r : Nat) (s g : Int32) (j : Nat) : Nat := if rg M (fa M r s g) then nv (gI M 36 j) else 0
def ht (M : Mm) (r : Nat) (s : Int32) : Nat := hg M r s (-1) 0 + hg M r s 0 1 + hg M r s 1 2
theorem ht_le {i : Nat} {M : Mm} (h2 : I_nt i M) (r : Nat) (s : Int32) : ht M r s ≤ 10 := by
  have := h2.2.2.2.2.2.2.2.2.2.2.1
  unfold ht hg
  split <;> split <;> split <;> omega
theorem chs {i : Nat} {M : Mm} (h2 : I_nt i M) (h3 : I_rk M) {r : Nat} (hr : r < nR M) (s : Int32) {f v j : Nat} {g : Int32} (hj : j < 3) (eg : g + 1 = nI j) (hgg : ¬ 1 < g) : sp_X6_hitTenths_L6 (nI r) s (f + 1) (nI v) g M = sp_X6_hitTenths_L6 (nI r) s f (nI (v + hg M r s g j)) (nI j) M := by
  obtain ⟨q1, q2⟩ := h2.2.2.2.2.2.2.2.2.2.1 j hj
  rw [sp_X6_hitTenths_L6, if_neg hgg, cfa_e h2 h3 hr, bd_s, crg_e h2, bd_s, eg]
  unfold hg
  cases hx : rg M (fa M r s g) with
  | true =>
    rw [if_neg (by simp)]
    unfold sp_X7_gustTenths
    rw [eg, at_n (show j < 3 from hj), bd_s, bd_s, bl_e, q1, q2.1, nI_add, if_pos rfl, ← q2.1]
  | false => rw [if_pos (by simp), if_neg (by simp), Nat.add_zero]
theorem cht_e {i : Nat} {M : Mm} (h2 : I_nt i M) (h3 : I_rk M) {r : Nat} (hr : r < nR M) (s : Int32) : sp_X6_hitTenths (nI r) s M = some (nI (ht M r s), M) := by
  unfold sp_X6_hitTenths
  show sp_X6_hitTenths_L6 (nI r) s (996 + 1 + 1 + 1 + 1) (nI 0) (-1) M = _
  rw [chs h2 h3 hr s (g := -1) (j := 0) (by omega) rfl (by decide), chs h2 h3 hr s (g := nI 0) (j := 1) (by omega) rfl (by decide), chs h2 h3 hr s (g := nI 1) (j := 2) (by omega) rfl (by decide), sp_X6_hitTenths_L6, if_pos (by decide)]
  unfold ht
  rw [Nat.zero_add]; rfl
theorem mhs {i : Nat} {M : Mm} (h2 : I_nt i M) {r : Nat} (hr : r < 6) (s : Int32) {f v j : Nat} {g : Int32} (hj : j < 3) (eg : g + 1 = nI j) (hgg : g < 2) : sp_X11_hitTenths_L5 (nI r) s (f + 1) (nI v) g M = sp_X11_hitTenths_L5 (nI r) s f (nI (v + hg M r s g j)) (nI j) M := by
  obtain ⟨q1, q2⟩ := h2.2.2.2.2.2.2.2.2.2.1 j hj
  rw [sp_X11_hitTenths_L5, if_pos hgg, mfa_e hr, bd_s, mrg_e h2, bd_s, eg]
  unfold hg
  cases hx : rg M (fa M r s g) with
  | true => rw [if_neg (by simp), rdI_n (show j < 3 from hj), bl_e, q2.1, nI_add, if_pos rfl, ← q2.1]
  | false => rw [if_pos (by simp), bl_e, if_neg (by simp), show (0 : Int32) = nI 0 from rfl, nI_add]
theorem mht_e {i : Nat} {M : Mm} (h2 : I_nt i M) {r : Nat} (hr : r < 6) (s : Int32) : sp_X11_hitTenths (nI r) s M = some (nI (ht M r s), M) := by
  unfold sp_X11_hitTenths
  show sp_X11_hitTenths_L5 (nI r) s (996 + 1 + 1 + 1 + 1) (nI 0) (-1) M = _
  rw [mhs h2 hr s (g := -1) (j := 0) (by omega) rfl (by decide), mhs h2 hr s (g := nI 0) (j := 1) (by omega) rfl (by decide), mhs h2 hr s (g := nI 1) (j := 2) (by omega) rfl (by decide), sp_X11_hitTenths_L5, if_neg (by decide)]
  unfold ht
  rw [Nat.zero_add]; rfl
theorem chits_e {i : Nat} {M : Mm} (h2 : I_nt i M) (h3 : I_rk M) {r : Nat} (hr : r < nR M) {s : Nat} (hs : s ≤ 9) {p : Nat} (hp : p ≤ 1) : sp_X10_hits (nI r) (nI s) (nI p) M = some (nJ (low1 (ht M r (nI s)) 10 (nI p)), M) := by
  have hh := ht_le h2 r (nI s)
  unfold sp_X10_hits
  rw [has_1 h3 hr, bd_s, if_neg i10, out_0 (x := 0) (y := 9) rfl rfl (by rw [nI_int (by omega)]; omega), bd_s, if_pos rfl, out_0 (x := 0) (y := 1) rfl rfl (by rw [nI_int (by omega)]; omega), bd_s, if_pos rfl, cht_e h2 h3 hr, bd_s, nI_J (by omega), show (10 : Int64) = nJ 10 from rfl, il_e (by omega) (by decide) (by decide), bd_s]
theorem Bo_hits {i : Nat} {M : Mm} (h : Inv i M) (hz : I_z M) (p q s : Int32) : Bo i M (sp_X10_hits p q s) (sp_X11_hits p q s) := by
  obtain ⟨h1, h2, h3, h4, h5, h6, h7⟩ := id h
  by_cases hp : ∃ j, j < nR M ∧ p = nI j
  · obtain ⟨r, hr, rfl⟩ := hp
    have n6 := h3.n.1
    rcases rng q 0 9 (by decide) with ⟨a, a1, a2, rfl⟩ | hq
    · rcases rng s 0 1 (by decide) with ⟨b, b1, b2, rfl⟩ | hs
      · refine Bo_same h hz _ (chits_e h2 h3 hr a2 b2) ?_
        have hh := ht_le h2 r (nI a)
        unfold sp_X11_hits
        rw [isR_1 h3 hr, bd_s, if_neg i10, in_1 (x := 0) (y := 9) rfl rfl (by rw [nI_int (by omega)]; omega), bd_s, if_neg i10, in_1 (x := 0) (y := 1) rfl rfl (by rw [nI_int (by omega)]; omega), bd_s, if_neg i10, mht_e h2 (by omega), bd_s, nI_J (by omega), show (10 : Int64) = nJ 10 from rfl, tm_e (by omega) (by decide) (by decide), bd_s]
      · refine Bo_same h hz (-102) ?_ ?_
        · unfold sp_X10_hits
          rw [has_1 h3 hr, bd_s, if_neg i10, out_0 (x := 0) (y := 9) rfl rfl (by rw [nI_int (by omega)]; omega), bd_s, if_pos rfl, out_1 (x := 0) (y := 1) rfl rfl hs, bd_s, if_neg i10]
        · unfold sp_X11_hits
          rw [isR_1 h3 hr, bd_s, if_neg i10, in_1 (x := 0) (y := 9) rfl rfl (by rw [nI_int (by omega)]; omega), bd_s, if_neg i10, in_0 (x := 0) (y := 1) rfl rfl hs, bd_s, if_pos rfl]
    · refine Bo_same h hz (-102) ?_ ?_
      · unfold sp_X10_hits
        rw [has_1 h3 hr, bd_s, if_neg i10, out_1 (x := 0) (y := 9) rfl rfl hq, bd_s, if_neg i10]
      · unfold sp_X11_hits
        rw [isR_1 h3 hr, bd_s, if_neg i10, in_0 (x := 0) (y := 9) rfl rfl hq, bd_s, if_pos rfl]
  · refine Bo_same h hz (-101) ?_ ?_
    · unfold sp_X10_hits; rw [has_0 h3 hp, bd_s, if_pos rfl]
    · unfold sp_X11_hits; rw [isR_0 h3 hp, bd_s, if_pos rfl]
