/-! sets of men and rockets, what men take, who may come -/
theorem nI_div {a b : Nat} (ha : a < 2 ^ 31) (hb : b < 2 ^ 31) : nI a / nI b = nI (a / b) := (Int32.ofNat_div ha hb).symm
def low (b k : Nat) : Nat := b % 2 ^ k
theorem low_s : ∀ b, b < 64 → ∀ k, k < 6 → low b (k + 1) = low b k ||| (if b.testBit k then 2 ^ k else 0) := by decide +kernel
theorem low_0 (b : Nat) : low b 0 = 0 := Nat.mod_one b
theorem low_n {b n : Nat} (h : b < 2 ^ n) : low b n = b := Nat.mod_eq_of_lt h
theorem low_lt {b k : Nat} (hk : k ≤ 6) : low b k < 64 := Nat.lt_of_lt_of_le (Nat.mod_lt b (Nat.two_pow_pos k)) (pw_64 hk)
theorem nt_0 : ∀ a, a < 64 → ∀ c, c < 64 → (nt a c = 0 ↔ ∀ j, j < 6 → a.testBit j = true → c.testBit j = true) := by decide +kernel
theorem ob_n {M : Mm} (h4 : I_mn M) (h6 : I_cu M) : gI M 13 4 = nI (nv (gI M 13 4)) ∧ nv (gI M 13 4) < 2 ^ nM M ∧ nv (gI M 13 4) < 64 := by
  have h := h6.2.2.2.2.2.2.2.2.2.2.2.1
  have := pw_64 h4.n.1
  have := Nat.two_pow_pos (nM M)
  exact ⟨h.1, by have := h.2; omega, by have := h.2; omega⟩
theorem fb_n {M : Mm} (h3 : I_rk M) (h6 : I_cu M) : gI M 13 3 = nI (nv (gI M 13 3)) ∧ nv (gI M 13 3) < 2 ^ nR M ∧ nv (gI M 13 3) < 64 := by
  have h := h6.2.2.2.2.2.2.2.2.2.1
  have := pw_64 h3.n.1
  have := Nat.two_pow_pos (nR M)
  exact ⟨h.1, by have := h.2; omega, by have := h.2; omega⟩
/-- the bits of a set, one by one -/
theorem overL {M : Mm} (hn : nM M ≤ 6) (en : gI M 32 22 = nI (nM M)) {ob : Nat} (hob : ob < 2 ^ nM M) (hb : ∀ m, m < nM M → (gI M 41 (3 * m + 2) = -1 ↔ ob.testBit m = false)) : ∀ f k, k ≤ nM M → nM M < k + f → sp_X11_overBits_L4 M f (nI (low ob k)) (nI k) = some (nI ob, M) := by
  have h64 := pw_64 hn
  intro f
  induction f with
  | zero => intro k h1 h2; omega
  | succ f ih =>
    intro k h1 h2
    rw [sp_X11_overBits_L4, en]
    by_cases hk : k < nM M
    · rw [if_pos ((nI_ltI (by omega) (by omega)).mpr hk), nI_32, rdI_n (show 3 * k + 2 < 18 by omega)]
      have e := low_s ob (by omega) k (by omega)
      by_cases hz : gI M 41 (3 * k + 2) = -1
      · rw [if_pos hz]
        simp only [bl_e]
        rw [(hb k hk).mp hz] at e
        rw [show (0 : Int32) = nI 0 from rfl, b_or _ (low_lt (by omega)) 0 (by omega)]
        simp only [nI_p]
        rw [show low ob k ||| 0 = low ob (k + 1) by rw [e]; simp]
        exact ih (k + 1) (by omega) (by omega)
      · rw [if_neg hz]
        simp only [bl_e]
        have hz' : ob.testBit k = true := by
          cases hq : ob.testBit k
          · exact absurd ((hb k hk).mpr hq) hz
          · rfl
        rw [hz', if_pos rfl] at e
        rw [b_one k (by omega), b_or _ (low_lt (by omega)) _ (p2_64 (by omega)), ← e, nI_p]
        exact ih (k + 1) (by omega) (by omega)
    · rw [if_neg (fun q => hk ((nI_ltI (by omega) (by omega)).mp q)), show k = nM M by omega, low_n hob]
theorem I_cu.ov {M : Mm} (h6 : I_cu M) {m : Nat} (hm : m < nM M) : gI M 41 (3 * m + 2) = -1 ↔ (nv (gI M 13 4)).testBit m = false := by
  have h := h6.2.2.2.2.2.2.2.2.2.2.2.2.1 m hm
  cases hq : (nv (gI M 13 4)).testBit m
  · rw [hq] at h; simpa using h
  · rw [hq] at h
    simp only [if_true] at h
    constructor
    · intro z
      rw [h.1] at z
      obtain ⟨n, hn, e⟩ := h.2.get
      rw [e] at z
      have := congrArg Int32.toInt z
      rw [nI_int (by omega)] at this
      have e1 : (-1 : Int32).toInt = -1 := by decide
      omega
    · intro z; cases z
theorem over_e {M : Mm} (h4 : I_mn M) (h6 : I_cu M) : sp_X11_overBits M = some (gI M 13 4, M) := by
  obtain ⟨a, b, c⟩ := ob_n h4 h6
  obtain ⟨n1, n2, n3⟩ := h4.n
  unfold sp_X11_overBits
  have := overL n1 n2 b (fun m hm => h6.ov hm) fu 0 (Nat.zero_le _) (by unfold fu; omega)
  rw [low_0] at this
  rw [a]
  exact this
theorem leftL {M : Mm} (hn : nR M ≤ 6) (en : gI M 32 17 = nI (nR M)) {ob : Nat} (hob : ob < 2 ^ nR M) (hb : ∀ m, m < nR M → (gI M 38 (3 * m + 2) = 0 ↔ ob.testBit m = true)) : ∀ f k, k ≤ nR M → nR M < k + f → sp_X11_leftBits_L4 M f (nI (low ob k)) (nI k) = some (nI ob, M) := by
  have h64 := pw_64 hn
  intro f
  induction f with
  | zero => intro k h1 h2; omega
  | succ f ih =>
    intro k h1 h2
    rw [sp_X11_leftBits_L4, en]
    by_cases hk : k < nR M
    · rw [if_pos ((nI_ltI (by omega) (by omega)).mpr hk), nI_32, rdI_n (show 3 * k + 2 < 18 by omega)]
      have e := low_s ob (by omega) k (by omega)
      by_cases hz : gI M 38 (3 * k + 2) = 0
      · rw [if_pos hz]
        simp only [bl_e]
        rw [(hb k hk).mp hz, if_pos rfl] at e
        rw [b_one k (by omega), b_or _ (low_lt (by omega)) _ (p2_64 (by omega)), ← e, nI_p]
        exact ih (k + 1) (by omega) (by omega)
      · rw [if_neg hz]
        simp only [bl_e]
        have hz' : ob.testBit k = false := by
          cases hq : ob.testBit k
          · rfl
          · exact absurd ((hb k hk).mpr hq) hz
        rw [hz'] at e
        rw [show (0 : Int32) = nI 0 from rfl, b_or _ (low_lt (by omega)) 0 (by omega)]
        simp only [nI_p]
        rw [show low ob k ||| 0 = low ob (k + 1) by rw [e]; simp]
        exact ih (k + 1) (by omega) (by omega)
    · rw [if_neg (fun q => hk ((nI_ltI (by omega) (by omega)).mp q)), show k = nR M by omega, low_n hob]
/-- the rockets that are left, as a set -/
def lfb (M : Mm) : Nat := nt (2 ^ nR M - 1) (nv (gI M 13 3))
theorem nt_bit : ∀ n, n ≤ 6 → ∀ f, f < 64 → ∀ r, r < n → (nt (2 ^ n - 1) f).testBit r = !f.testBit r := by decide +kernel
theorem lfb_lt (M : Mm) : lfb M < 2 ^ nR M := Nat.lt_of_le_of_lt (nt_le _ _) (by have := Nat.two_pow_pos (nR M); omega)
theorem left_e {M : Mm} (h3 : I_rk M) (h6 : I_cu M) : sp_X11_leftBits M = some (nI (lfb M), M) := by
  obtain ⟨a, b, c⟩ := fb_n h3 h6
  obtain ⟨n1, n2, n3⟩ := h3.n
  unfold sp_X11_leftBits
  have := leftL n1 n2 (lfb_lt M) (fun m hm => by
    rw [h6.2.2.2.2.2.2.2.2.2.2.1 m hm]
    unfold lfb
    rw [nt_bit _ n1 _ c m hm]
    cases (nv (gI M 13 3)).testBit m <;> simp) fu 0 (Nat.zero_le _) (by unfold fu; omega)
  rw [low_0] at this
  exact this
theorem cleft_e {M : Mm} (h3 : I_rk M) (h6 : I_cu M) : sp_X6_left (gI M 13 3) M = some (nI (lfb M), M) := by
  obtain ⟨a, b, c⟩ := fb_n h3 h6
  obtain ⟨n1, n2, n3⟩ := h3.n
  unfold sp_X6_left
  rw [n3, b_all _ n1, a, b_nt _ (by have := pw_64 n1; omega) _ c]
  rfl
/-- how many bits -/
def pc (b : Nat) : Nat := (if b.testBit 0 then 1 else 0) + (if b.testBit 1 then 1 else 0) + (if b.testBit 2 then 1 else 0) + (if b.testBit 3 then 1 else 0) + (if b.testBit 4 then 1 else 0) + (if b.testBit 5 then 1 else 0)
theorem ones_s (p : Int32) (M : Mm) (f : Nat) (v : Int32) {k : Nat} (h : k < 6) : sp_X11_ones_L4 p M (f + 1) v (nI k) = sp_X11_ones_L4 p M f (v + ((p >>> (nI k &&& 31)) &&& 1)) (nI (k + 1)) := by
  rw [sp_X11_ones_L4, if_pos (c_lt 6 6 rfl h (by decide)), bl_e, nI_p]
theorem ones_e {b : Nat} (h : b < 64) (M : Mm) : sp_X11_ones (nI b) M = some (nI (pc b), M) := by
  unfold sp_X11_ones
  show sp_X11_ones_L4 (nI b) M (993 + 1 + 1 + 1 + 1 + 1 + 1 + 1) 0 (nI 0) = _
  rw [ones_s _ _ _ _ (by decide), ones_s _ _ _ _ (by decide), ones_s _ _ _ _ (by decide), ones_s _ _ _ _ (by decide), ones_s _ _ _ _ (by decide), ones_s _ _ _ _ (by decide), sp_X11_ones_L4, if_neg (by decide), b_bit b h 0 (by decide), b_bit b h 1 (by decide), b_bit b h 2 (by decide), b_bit b h 3 (by decide), b_bit b h 4 (by decide), b_bit b h 5 (by decide)]
  unfold pc
  cases b.testBit 0 <;> cases b.testBit 1 <;> cases b.testBit 2 <;> cases b.testBit 3 <;> cases b.testBit 4 <;> cases b.testBit 5 <;> rfl
def bcv (p0 : Int32) : Int32 := (fun y9 => (fun y23 => (fun y33 => (fun y40 => (fun y47 => y47 &&& (63 : Int32)) (y40 + ((y40.toUInt32 >>> ((16 : Int32).toUInt32 &&& Int32.toUInt32 31)).toInt32))) (y33 + ((y33.toUInt32 >>> ((8 : Int32).toUInt32 &&& Int32.toUInt32 31)).toInt32))) ((y23 + ((y23.toUInt32 >>> ((4 : Int32).toUInt32 &&& Int32.toUInt32 31)).toInt32)) &&& (252645135 : Int32))) ((y9 &&& (858993459 : Int32)) + (((y9.toUInt32 >>> ((2 : Int32).toUInt32 &&& Int32.toUInt32 31)).toInt32) &&& (858993459 : Int32)))) (p0 - (((p0.toUInt32 >>> ((1 : Int32).toUInt32 &&& Int32.toUInt32 31)).toInt32) &&& (1431655765 : Int32)))
theorem bcv_d : ∀ b, b < 64 → bcv (nI b) = nI (pc b) := by decide +kernel
theorem bc_e {b : Nat} (h : b < 64) (M : Mm) : sp_J6_bitCount_0f7a4 (nI b) M = some (nI (pc b), M) := by
  rw [← bcv_d b h]; rfl
theorem holds_e {s u : Nat} (hs : s < 64) (hu : u < 64) (M : Mm) : sp_X10_holdsAll (nI s) (nI u) M = some (if nt u s = 0 then 1 else 0, M) := by
  unfold sp_X10_holdsAll
  rw [b_nt u hu s hs]
  by_cases h : nt u s = 0
  · rw [if_pos (by rw [h]; rfl), if_pos h]
  · rw [if_neg (c_ne 0 0 rfl h (by have := nt_le u s; omega) (by decide)), if_neg h]
theorem isIn_e {s k : Nat} (hs : s < 64) (hk : k < 6) (M : Mm) : sp_X10_isIn (nI s) (nI k) M = some (if s.testBit k then 1 else 0, M) := by
  unfold sp_X10_isIn
  rw [b_bit s hs k hk]
  cases s.testBit k <;> rfl
theorem with_e {s k : Nat} (hs : s < 64) (hk : k < 6) (M : Mm) : sp_X10_with (nI s) (nI k) M = some (nI (s ||| 2 ^ k), M) := by
  unfold sp_X10_with
  rw [b_one k hk, b_or s hs _ (p2_64 hk)]
theorem wout_e {s k : Nat} (hs : s < 64) (hk : k < 6) (M : Mm) : sp_X10_without (nI s) (nI k) M = some (nI (nt s (2 ^ k)), M) := by
  unfold sp_X10_without
  rw [b_one k hk, b_nt s hs _ (p2_64 hk)]
theorem or_64 {a b : Nat} (ha : a < 64) (hb : b < 64) : a ||| b < 64 := Nat.or_lt_two_pow (n := 6) ha hb
theorem tb_or (a b j : Nat) : (a ||| b).testBit j = (a.testBit j || b.testBit j) := Nat.testBit_or ..
theorem tb_p (k j : Nat) : (2 ^ k).testBit j = decide (k = j) := Nat.testBit_two_pow
/-- all but captains, of the first k -/
def abc (M : Mm) : Nat → Nat
  | 0 => 0
  | k + 1 => abc M k ||| (if gI M 41 (3 * k) = 4 then 0 else 2 ^ k)
theorem abc_s (M : Mm) (k : Nat) : abc M (k + 1) = abc M k ||| (if gI M 41 (3 * k) = 4 then 0 else 2 ^ k) := rfl
theorem abc_lt (M : Mm) : ∀ k, k ≤ 6 → abc M k < 64
  | 0, _ => by unfold abc; omega
  | k + 1, h => by
    unfold abc
    refine or_64 (abc_lt M k (by omega)) ?_
    split
    · omega
    · exact p2_64 (by omega)
theorem abc_bit (M : Mm) (j : Nat) : ∀ k, (abc M k).testBit j = true ↔ (j < k ∧ gI M 41 (3 * j) ≠ 4)
  | 0 => by simp [abc]
  | k + 1 => by
    unfold abc
    rw [tb_or, Bool.or_eq_true, abc_bit M j k]
    by_cases h : gI M 41 (3 * k) = 4
    · rw [if_pos h]
      simp only [Nat.zero_testBit, Bool.false_eq_true, or_false]
      constructor
      · rintro ⟨a, b⟩; exact ⟨by omega, b⟩
      · rintro ⟨a, b⟩
        refine ⟨?_, b⟩
        rcases (by omega : j < k ∨ j = k) with z | z
        · exact z
        · rw [z] at b; exact absurd h b
    · rw [if_neg h, tb_p, decide_eq_true_eq]
      constructor
      · rintro (⟨a, b⟩ | rfl)
        · exact ⟨by omega, b⟩
        · exact ⟨by omega, h⟩
      · rintro ⟨a, b⟩
        rcases (by omega : j < k ∨ k = j) with z | z
        · exact Or.inl ⟨z, b⟩
        · exact Or.inr z
theorem abcL {M : Mm} (h4 : I_mn M) : ∀ f k, k ≤ nM M → nM M < k + f → sp_X2_allButCaptains_L4 f (nI (abc M k)) (nI k) M = some (nI (abc M (nM M)), M) := by
  obtain ⟨n1, n2, n3⟩ := h4.n
  intro f
  induction f with
  | zero => intro k h1 h2; omega
  | succ f ih =>
    intro k h1 h2
    rw [sp_X2_allButCaptains_L4, n3]
    by_cases hk : k < nM M
    · rw [if_pos ((nI_ltI (by omega) (by omega)).mpr hk), kind_e h4 hk, bd_s]
      by_cases hq : gI M 41 (3 * k) = 4
      · rw [if_pos hq, nI_p]
        have := ih (k + 1) (by omega) (by omega)
        rw [abc_s, if_pos hq, Nat.or_zero] at this
        exact this
      · rw [if_neg hq, with_e (abc_lt M k (by omega)) (by omega), bd_s, nI_p]
        have := ih (k + 1) (by omega) (by omega)
        rw [abc_s, if_neg hq] at this
        exact this
    · rw [if_neg (fun q => hk ((nI_ltI (by omega) (by omega)).mp q)), show k = nM M by omega]
/-- whom a man comes behind -/
def ahd (M : Mm) (m : Nat) : Nat := nv (gI M 42 m) ||| (if gI M 41 (3 * m) = 4 then abc M (nM M) else 0)
theorem bh_n {M : Mm} (h4 : I_mn M) {m : Nat} (hm : m < nM M) : gI M 42 m = nI (nv (gI M 42 m)) ∧ gI M 12 m = nI (nv (gI M 42 m)) ∧ nv (gI M 42 m) < 2 ^ nM M ∧ nv (gI M 42 m) < 64 := by
  have h := h4.2.2.1 m hm
  have := pw_64 h4.n.1
  have := Nat.two_pow_pos (nM M)
  exact ⟨h.2.2.2.2.2.1, h.2.2.2.2.1.trans h.2.2.2.2.2.1, by have := h.2.2.2.2.2.2; omega, by have := h.2.2.2.2.2.2; omega⟩
theorem ahd_lt {M : Mm} (h4 : I_mn M) {m : Nat} (hm : m < nM M) : ahd M m < 64 := by
  unfold ahd
  refine or_64 (bh_n h4 hm).2.2.2 ?_
  split
  · exact abc_lt M _ h4.n.1
  · omega
theorem ahead_e {M : Mm} (h4 : I_mn M) {m : Nat} (hm : m < nM M) : sp_X2_ahead (nI m) M = some (nI (ahd M m), M) := by
  obtain ⟨n1, n2, n3⟩ := h4.n
  obtain ⟨b1, b2, b3, b4⟩ := bh_n h4 hm
  unfold sp_X2_ahead ahd
  rw [at_n (show m < 6 by omega), bd_s, kind_e h4 hm, bd_s]
  by_cases hq : gI M 41 (3 * m) = 4
  · rw [if_pos hq, if_pos hq]
    have := abcL h4 fu 0 (Nat.zero_le _) (by unfold fu; omega)
    unfold sp_X2_allButCaptains
    rw [show sp_X2_allButCaptains_L4 fu 0 0 M = some (nI (abc M (nM M)), M) from this, bd_s, b2, b_or _ b4 _ (abc_lt M _ n1)]
  · rw [if_neg hq, if_neg hq, Nat.or_zero, b2]
/-- whether a man can come when a set is over -/
abbrev cm (M : Mm) (ov m : Nat) : Prop := ov.testBit m = false ∧ nt (ahd M m) ov = 0
theorem cm_iff {M : Mm} (h4 : I_mn M) {m ov : Nat} (hm : m < nM M) (ho : ov < 64) : cm M ov m ↔ (ov.testBit m = false ∧ nt (nv (gI M 42 m)) ov = 0) ∧ (gI M 41 (3 * m) = 4 → ∀ k, k < nM M → gI M 41 (3 * k) ≠ 4 → ov.testBit k = true) := by
  obtain ⟨n1, n2, n3⟩ := h4.n
  obtain ⟨b1, b2, b3, b4⟩ := bh_n h4 hm
  unfold cm
  rw [and_assoc]
  refine and_congr_right (fun _ => ?_)
  rw [nt_0 _ (ahd_lt h4 hm) _ ho, nt_0 _ b4 _ ho]
  unfold ahd
  constructor
  · intro h
    refine ⟨fun j hj hb => h j hj (by rw [tb_or, hb]; rfl), fun hq k hk hk4 => h k (by omega) ?_⟩
    rw [tb_or, if_pos hq, (abc_bit M k (nM M)).mpr ⟨hk, hk4⟩, Bool.or_true]
  · rintro ⟨ha, hb⟩ j hj hz
    rw [tb_or, Bool.or_eq_true] at hz
    rcases hz with z | z
    · exact ha j hj z
    · by_cases hq : gI M 41 (3 * m) = 4
      · rw [if_pos hq] at z
        obtain ⟨y1, y2⟩ := (abc_bit M j (nM M)).mp z
        exact hb hq j y1 y2
      · rw [if_neg hq] at z; simp at z
theorem canL {M : Mm} (h4 : I_mn M) {m ov : Nat} (hm : m < nM M) (ho : ov < 64) : ∀ f k (b : Bool), k ≤ nM M → nM M < k + f → (b = true ↔ (ov.testBit m = false ∧ nt (nv (gI M 42 m)) ov = 0) ∧ (gI M 41 (3 * m) = 4 → ∀ j, j < k → gI M 41 (3 * j) ≠ 4 → ov.testBit j = true)) → ∃ r : Bool, sp_X11_canCome_L30 M (nI m) (nI ov) f (if b then 1 else 0) (nI k) = some (if r then 1 else 0, M) ∧ (r = true ↔ cm M ov m) := by
  obtain ⟨n1, n2, n3⟩ := h4.n
  intro f
  induction f with
  | zero => intro k b h1 h2; omega
  | succ f ih =>
    intro k b h1 h2 hb
    rw [sp_X11_canCome_L30, n2]
    by_cases hk : k < nM M
    · rw [if_pos ((nI_ltI (by omega) (by omega)).mpr hk), nI_p]
      cases b with
      | false =>
        simp only [Bool.false_eq_true, if_false, if_true]
        refine ih (k + 1) false (by omega) (by omega) ?_
        simp only [Bool.false_eq_true, false_iff] at hb ⊢
        exact fun z => hb ⟨z.1, fun q j hj => z.2 q j (by omega)⟩
      | true =>
        have hb' := hb.mp rfl
        simp only [if_true]
        rw [if_neg i10, nI_30, rdI_n (show 3 * m < 18 by omega)]
        simp only [jn_e]
        by_cases hq : gI M 41 (3 * m) = 4
        · rw [if_pos hq, nI_30, rdI_n (show 3 * k < 18 by omega)]
          by_cases hk4 : gI M 41 (3 * k) = 4
          · rw [if_pos hk4]
            exact ih (k + 1) true (by omega) (by omega) ⟨fun _ => ⟨hb'.1, fun q j hj j4 => by
              rcases (by omega : j < k ∨ j = k) with z | z
              · exact hb'.2 q j z j4
              · rw [z] at j4; exact absurd hk4 j4⟩, fun _ => rfl⟩
          · rw [if_neg hk4, b_bit ov ho k (by omega)]
            cases hov : ov.testBit k with
            | true =>
              simp only [if_true]
              exact ih (k + 1) true (by omega) (by omega) ⟨fun _ => ⟨hb'.1, fun q j hj j4 => by
                rcases (by omega : j < k ∨ j = k) with z | z
                · exact hb'.2 q j z j4
                · rw [z]; exact hov⟩, fun _ => rfl⟩
            | false =>
              simp only [Bool.false_eq_true, if_false]
              rw [if_neg (by decide)]
              refine ih (k + 1) false (by omega) (by omega) ?_
              simp only [Bool.false_eq_true, false_iff]
              intro z
              have := z.2 hq k (by omega) hk4
              rw [hov] at this
              cases this
        · rw [if_neg hq]
          exact ih (k + 1) true (by omega) (by omega) ⟨fun _ => ⟨hb'.1, fun q => absurd q hq⟩, fun _ => rfl⟩
    · rw [if_neg (fun q => hk ((nI_ltI (by omega) (by omega)).mp q))]
      refine ⟨b, by cases b <;> rfl, ?_⟩
      rw [hb, show k = nM M by omega, cm_iff h4 hm ho]
theorem can_e {M : Mm} (h4 : I_mn M) {m ov : Nat} (hm : m < nM M) (ho : ov < 64) : ∃ r : Bool, sp_X11_canCome (nI m) (nI ov) M = some (if r then 1 else 0, M) ∧ (r = true ↔ cm M ov m) := by
  obtain ⟨n1, n2, n3⟩ := h4.n
  obtain ⟨b1, b2, b3, b4⟩ := bh_n h4 hm
  unfold sp_X11_canCome
  rw [b_bit ov ho m (by omega)]
  simp only [jn_e]
  cases hov : ov.testBit m with
  | true =>
    simp only [if_true]
    rw [if_neg i10]
    exact canL h4 hm ho fu 0 false (Nat.zero_le _) (by unfold fu; omega) (by simp [hov])
  | false =>
    simp only [Bool.false_eq_true, if_false, if_true]
    rw [rdI_n (show m < 6 by omega), b1, b_nt _ b4 _ ho]
    by_cases hq : nt (nv (gI M 42 m)) ov = 0
    · rw [if_pos (by rw [hq]; rfl)]
      exact canL h4 hm ho fu 0 true (Nat.zero_le _) (by unfold fu; omega) (by simp [hov, hq])
    · rw [if_neg (c_ne 0 0 rfl hq (by have := nt_le (nv (gI M 42 m)) ov; omega) (by decide))]
      exact canL h4 hm ho fu 0 false (Nat.zero_le _) (by unfold fu; omega) (by simp [hq])
