/-! ORDERS AND SURE: the reference looks whether a row keeps to what was said -/
def Pq (n : Nat) (q : List Nat) : Prop := q.length = n ∧ (∀ k, k < n → la q k < n) ∧ (∀ i j, i < n → j < n → la q i = la q j → i = j) ∧ ∀ m, m < n → ∃ k, k < n ∧ la q k = m
theorem pm_nd : ∀ f c q, q ∈ pm f c → ∀ i j, i < q.length → j < q.length → la q i = la q j → i = j
  | 0, c, q, h, i, j, hi, hj, e => by
    have : q = [] := by simpa [pm] using h
    rw [this] at hi; exact absurd hi (by simp)
  | f + 1, c, q, h, i, j, hi, hj, e => by
    rw [pm] at h
    split at h
    · have : q = [] := by simpa using h
      rw [this] at hi; exact absurd hi (by simp)
    · obtain ⟨m, _, h2⟩ := List.mem_flatMap.mp h
      split at h2
      · obtain ⟨l, hl, rfl⟩ := List.mem_map.mp h2
        have no : ∀ k, k < l.length → la l k ≠ m := fun k hk z => by
          have := pm_bit f _ l hl (la l k) (la_in hk)
          rw [z] at this
          unfold nt at this
          rw [Nat.testBit_and, Nat.testBit_xor, tb_p] at this
          by_cases hm6 : m < 6
          · rw [show Nat.testBit 63 m = true from (by decide +kernel : ∀ m, m < 6 → Nat.testBit 63 m = true) m hm6] at this
            simp at this
          · have hz : Nat.testBit 63 m = false := Nat.testBit_lt_two_pow (Nat.lt_of_lt_of_le (by decide : 63 < 2 ^ 6) (Nat.pow_le_pow_right (n := 2) (by decide) (by omega)))
            have := List.mem_range.mp (by assumption : m ∈ List.range 6)
            omega
        rw [List.length_cons] at hi hj
        match i, j with
        | 0, 0 => rfl
        | 0, j + 1 => exact absurd (show m = la l j from e).symm (no j (by omega))
        | i + 1, 0 => exact absurd (show la l i = m from e) (no i (by omega))
        | i + 1, j + 1 => rw [pm_nd f _ l hl i j (by omega) (by omega) e]
      · exact absurd h2 (by simp)
theorem pm_sj : ∀ f c q, c < 64 → pc c ≤ f → q ∈ pm f c → ∀ x, c.testBit x = true → ∃ k, k < q.length ∧ la q k = x
  | 0, c, q, hc, hp, h, x, hx => by
    rw [pc_0 c hc (by omega), Nat.zero_testBit] at hx
    exact absurd hx (by simp)
  | f + 1, c, q, hc, hp, h, x, hx => by
    rw [pm] at h
    split at h
    · rename_i h0
      rw [h0, Nat.zero_testBit] at hx
      exact absurd hx (by simp)
    · obtain ⟨m, hm, h2⟩ := List.mem_flatMap.mp h
      have hm6 := List.mem_range.mp hm
      split at h2
      · rename_i hb
        obtain ⟨l, hl, rfl⟩ := List.mem_map.mp h2
        by_cases y : x = m
        · exact ⟨0, by simp, y.symm⟩
        · have hb' : (nt c (2 ^ m)).testBit x = true := by
            have hx6 := tb_6 hc hx
            unfold nt
            rw [Nat.testBit_and, Nat.testBit_xor, tb_p, hx, (by decide +kernel : ∀ m, m < 6 → Nat.testBit 63 m = true) x hx6]
            have : ¬ m = x := fun z => y z.symm
            simp [this]
          have := pc_t c hc m hm6 hb
          obtain ⟨k, k1, k2⟩ := pm_sj f _ l (nt_lt hc) (by omega) hl x hb'
          exact ⟨k + 1, by rw [List.length_cons]; omega, k2⟩
      · exact absurd h2 (by simp)
theorem pm_pq {n : Nat} (n6 : n ≤ 6) {q : List Nat} (h : q ∈ pm 6 (2 ^ n - 1)) : Pq n q := by
  have p64 := pw_64 n6
  have pp := Nat.two_pow_pos n
  obtain ⟨ps, e1, e2, e3, e4, e5⟩ := pm_ok (n := n) (s := 2 ^ n - 1) n6 (by omega)
  have hl : (mem6 (2 ^ n - 1)).length = n := (by decide +kernel : ∀ n, n ≤ 6 → (mem6 (2 ^ n - 1)).length = n) n n6
  obtain ⟨l1, l2⟩ := e5 q (by rw [← e1]; exact h)
  rw [hl] at l1 l2
  refine ⟨l1, l2, fun i j hi hj => pm_nd 6 _ q h i j (by omega) (by omega), fun m hm => ?_⟩
  obtain ⟨k, k1, k2⟩ := pm_sj 6 _ q (by omega) (pc_6 _ (by omega)) h m (tb_all n n6 m hm)
  exact ⟨k, by omega, k2⟩
/-- a man's place -/
def pz (a : Nat → Nat) (m : Nat) : Nat → Nat
  | 0 => 0
  | k + 1 => if a k = m then k else pz a m k
theorem pz_e {n : Nat} {q : List Nat} (hq : Pq n q) {k m : Nat} (hm : la q k = m) : ∀ j, k < j → j ≤ n → pz (la q) m j = k
  | 0, h, _ => by omega
  | j + 1, h, hj => by
    rw [pz]
    by_cases y : la q j = m
    · rw [if_pos y]
      exact hq.2.2.1 j k (by omega) (by omega) (by rw [y, hm])
    · rw [if_neg y]
      have : k ≠ j := fun z => y (by rw [← z]; exact hm)
      exact pz_e hq hm j (by omega) (by omega)
theorem plL {M : Mm} {n : Nat} {q : List Nat} (n6 : n ≤ 6) (hr : Ro M (la q) n) (hq : Pq n q) {k m : Nat} (hk : k < n) (hm : la q k = m) (hm6 : m < n) : ∀ f j v, j ≤ n → n < j + f → (j ≤ k ∨ v = nI k) → sp_X11_placeOf_L4 M (nI m) f v (nI j) = some (nI k, M) := by
  intro f
  induction f with
  | zero => intro j v a b; omega
  | succ f ih =>
    intro j v hj hf hv
    rw [sp_X11_placeOf_L4, hr.1]
    by_cases y : j < n
    · have hqj := hq.2.1 j y
      rw [if_pos ((nI_ltI (by omega) (by omega)).mpr y), rdI_n (show j < 6 by omega), hr.2 j y, nI_p]
      by_cases z : la q j = m
      · have : j = k := hq.2.2.1 j k y hk (by rw [z, hm])
        rw [if_pos (by rw [z])]
        exact ih (j + 1) _ (by omega) (by omega) (Or.inr (by rw [this]))
      · rw [if_neg (by rw [nI_eq (by omega) (by omega)]; exact z)]
        refine ih (j + 1) _ (by omega) (by omega) (hv.imp_left (fun h => ?_))
        have : j ≠ k := fun e => z (by rw [e]; exact hm)
        omega
    · rw [if_neg (by rw [nI_ltI (by omega) (by omega)]; exact y)]
      rcases hv with hv | hv
      · omega
      · rw [hv]
theorem pl_e {M : Mm} {n : Nat} {q : List Nat} (n6 : n ≤ 6) (hr : Ro M (la q) n) (hq : Pq n q) {m : Nat} (hm : m < n) : sp_X11_placeOf (nI m) M = some (nI (pz (la q) m n), M) ∧ pz (la q) m n < n := by
  obtain ⟨k, k1, k2⟩ := hq.2.2.2 m hm
  rw [pz_e hq k2 n k1 (Nat.le_refl _)]
  exact ⟨plL n6 hr hq k1 k2 hm fu 0 (-1) (Nat.zero_le _) (by show _ < 0 + 1000; omega) (Or.inl (Nat.zero_le _)), k1⟩
def bi (b : Bool) : Int32 := if b then 1 else 0
def al (f : Nat → Bool) : Nat → Nat → Bool
  | _, 0 => true
  | k, g + 1 => f k && al f (k + 1) g
theorem al_i {f : Nat → Bool} : ∀ g k, al f k g = true ↔ ∀ j, k ≤ j → j < k + g → f j = true
  | 0, k => ⟨fun _ j h1 h2 => by omega, fun _ => rfl⟩
  | g + 1, k => by
    have := al_i (f := f) g (k + 1)
    constructor
    · intro h j h1 h2
      rw [al, Bool.and_eq_true] at h
      by_cases y : j = k
      · rw [y]; exact h.1
      · exact this.mp h.2 j (by omega) (by omega)
    · intro h
      rw [al, Bool.and_eq_true]
      exact ⟨h k (Nat.le_refl _) (by omega), this.mpr (fun j h1 h2 => h j (by omega) (by omega))⟩
def f1 (M : Mm) (a : Nat → Nat) (j : Nat) : Bool := decide (pz a (nv (gI M 45 (2 * j))) (nM M) < pz a (nv (gI M 45 (2 * j + 1))) (nM M))
theorem sd_n {M : Mm} (h6 : I_cu M) : gI M 32 29 = nI (nv (gI M 32 29)) ∧ nv (gI M 32 29) ≤ 15 := h6.2.2.2.2.2.2.2.2.2.2.2.2.2.1
theorem soL {M : Mm} (h4 : I_mn M) (h6 : I_cu M) {q : List Nat} (hr : Ro M (la q) (nM M)) (hq : Pq (nM M) q) (K : Int32 → Mm → Option (Int32 × Mm)) : ∀ g n j b, j + g = nv (gI M 32 29) → g < n → sp_X11_isSaidSo_L4 K n (bi b) (nI j) M = K (bi (b && al (f1 M (la q)) j g)) M := by
  have n6 := h4.n.1
  obtain ⟨s1, s2⟩ := sd_n h6
  intro g
  induction g with
  | zero =>
    intro n j b hj hn
    obtain ⟨n, rfl⟩ : ∃ x, n = x + 1 := ⟨n - 1, by omega⟩
    rw [sp_X11_isSaidSo_L4, s1, if_neg (by rw [nI_ltI (by omega) (by omega)]; omega), al, Bool.and_true]
  | succ g ih =>
    intro n j b hj hn
    obtain ⟨n, rfl⟩ : ∃ x, n = x + 1 := ⟨n - 1, by omega⟩
    obtain ⟨x, y, x1, y1, _, x2, y2⟩ := h6.2.2.2.2.2.2.2.2.2.2.2.2.2.2.2.1 j (by omega)
    rw [sp_X11_isSaidSo_L4, s1, if_pos ((nI_ltI (by omega) (by omega)).mpr (by omega)), al]
    cases b with
    | false =>
      rw [if_pos (show bi false = 0 from rfl), nI_p, Bool.false_and]
      have := ih n (j + 1) false (by omega) (by omega)
      rw [Bool.false_and] at this
      exact this
    | true =>
      have e1 : f1 M (la q) j = decide (pz (la q) x (nM M) < pz (la q) y (nM M)) := by
        unfold f1
        rw [x2, y2, nv_n (by omega), nv_n (by omega)]
      obtain ⟨p1, p2⟩ := pl_e n6 hr hq x1
      obtain ⟨p3, p4⟩ := pl_e n6 hr hq y1
      rw [if_neg (show ¬ bi true = 0 by decide), nI_20, nI_p, rdI_n (show 2 * j < 30 by omega), x2, p1, bd_s, rdI_n (show 2 * j + 1 < 30 by omega), y2, p3, bd_s, nI_p, Bool.true_and, e1]
      by_cases z : pz (la q) x (nM M) < pz (la q) y (nM M)
      · rw [if_pos ((nI_ltI (by omega) (by omega)).mpr z), decide_eq_true z]
        exact ih n (j + 1) true (by omega) (by omega)
      · rw [if_neg (by rw [nI_ltI (by omega) (by omega)]; exact z), decide_eq_false z]
        exact ih n (j + 1) false (by omega) (by omega)
abbrev cnd (M : Mm) (y x : Nat) : Prop := (y < nM M ∧ x < nM M) ∧ ((nv (gI M 42 y)).testBit x = true ∨ (gI M 41 (3 * y) = 4 ∧ ¬ gI M 41 (3 * x) = 4))
def f2 (M : Mm) (a : Nat → Nat) (t : Nat) : Bool := if cnd M (t / 6) (t % 6) then decide (pz a (t % 6) (nM M) < pz a (t / 6) (nM M)) else true
theorem nI_mod6 {t : Nat} (h : t < 36) : nI t - nI t / 6 * 6 = nI (t % 6) := (by decide +kernel : ∀ t, t < 36 → nI t - nI t / 6 * 6 = nI (t % 6)) t h
theorem s2L {M : Mm} (h4 : I_mn M) {q : List Nat} (hr : Ro M (la q) (nM M)) (hq : Pq (nM M) q) : ∀ g n t b, t + g = 36 → g < n → sp_X11_isSaidSo_L59 n (bi b) (nI t) M = some (bi (b && al (f2 M (la q)) t g), M) := by
  obtain ⟨n6, n2, n3⟩ := h4.n
  intro g
  induction g with
  | zero =>
    intro n t b ht hn
    obtain ⟨n, rfl⟩ : ∃ x, n = x + 1 := ⟨n - 1, by omega⟩
    have ht : t = 36 := by omega
    subst ht
    rw [sp_X11_isSaidSo_L59, if_neg (by decide), al, Bool.and_true]
    cases b <;> rfl
  | succ g ih =>
    intro n t b ht hn
    obtain ⟨n, rfl⟩ : ∃ x, n = x + 1 := ⟨n - 1, by omega⟩
    have ed : nI t / 6 = nI (t / 6) := nI_div (a := t) (b := 6) (by omega) (by decide)
    have l36 : nI t < (36 : Int32) := (nI_ltI (a := t) (b := 36) (by omega) (by decide)).mpr (by omega)
    have key : ∀ K138 : Int32 → Option (Int32 × Mm), jn K138 (fun (K138 : Int32 → Option (Int32 × Mm)) => if nI (t / 6) < gI M 32 22 then (if nI (t % 6) < gI M 32 22 then (rdI M 42 (nI (t / 6)) (fun a98 => if ((a98 >>> (nI (t % 6) &&& 31)) &&& (1 : Int32)) = (1 : Int32) then (K138 (1 : Int32)) else (rdI M 41 ((3 : Int32) * nI (t / 6)) (fun a115 => if a115 = (4 : Int32) then (rdI M 41 ((3 : Int32) * nI (t % 6)) (fun a128 => if a128 = (4 : Int32) then (K138 (0 : Int32)) else (K138 (1 : Int32)))) else (K138 (0 : Int32)))))) else (K138 (0 : Int32))) else (K138 (0 : Int32))) = K138 (if cnd M (t / 6) (t % 6) then 1 else 0) := by
      intro K
      rw [jn_e, n2]
      have hy6 : t / 6 < 6 := by omega
      have hx6 : t % 6 < 6 := by omega
      generalize t / 6 = y at *
      generalize t % 6 = x at *
      by_cases hy : y < nM M
      · rw [if_pos ((nI_ltI (by omega) (by omega)).mpr hy)]
        by_cases hx : x < nM M
        · obtain ⟨b1, b2, b3, b4⟩ := bh_n h4 hy
          have eb := b_bit _ b4 x hx6
          rw [← b1] at eb
          rw [if_pos ((nI_ltI (by omega) (by omega)).mpr hx), rdI_n (show y < 6 by omega)]
          by_cases hb : (nv (gI M 42 y)).testBit x = true
          · rw [if_pos (by rw [eb, if_pos hb]), if_pos ⟨⟨hy, hx⟩, Or.inl hb⟩]
          · rw [if_neg (by rw [eb, if_neg hb]; decide), nI_30, rdI_n (show 3 * y < 18 by omega)]
            by_cases k4 : gI M 41 (3 * y) = 4
            · rw [if_pos k4, nI_30, rdI_n (show 3 * x < 18 by omega)]
              by_cases k5 : gI M 41 (3 * x) = 4
              · rw [if_pos k5, if_neg]
                rintro ⟨_, z | z⟩
                · exact hb z
                · exact z.2 k5
              · rw [if_neg k5, if_pos ⟨⟨hy, hx⟩, Or.inr ⟨k4, k5⟩⟩]
            · rw [if_neg k4, if_neg]
              rintro ⟨_, z | z⟩
              · exact hb z
              · exact k4 z.1
        · rw [if_neg (by rw [nI_ltI (by omega) (by omega)]; exact hx), if_neg (fun z => hx z.1.2)]
      · rw [if_neg (by rw [nI_ltI (by omega) (by omega)]; exact hy), if_neg (fun z => hy z.1.1)]
    rw [sp_X11_isSaidSo_L59, if_pos l36, bl_e, bl_e, nI_mod6 (by omega), ed, key, al, nI_p]
    cases b with
    | false =>
      rw [if_pos (show bi false = 0 from rfl), Bool.false_and]
      have := ih n (t + 1) false (by omega) (by omega)
      rw [Bool.false_and] at this
      exact this
    | true =>
      rw [if_neg (show ¬ bi true = 0 by decide), jn_e, Bool.true_and]
      unfold f2
      by_cases hc : cnd M (t / 6) (t % 6)
      · obtain ⟨p1, p2⟩ := pl_e n6 hr hq hc.1.2
        obtain ⟨p3, p4⟩ := pl_e n6 hr hq hc.1.1
        rw [if_pos hc, if_neg i10, p1, bd_s, p3, bd_s, if_pos hc]
        by_cases z : pz (la q) (t % 6) (nM M) < pz (la q) (t / 6) (nM M)
        · rw [if_pos ((nI_ltI (by omega) (by omega)).mpr z), decide_eq_true z]
          exact ih n (t + 1) true (by omega) (by omega)
        · rw [if_neg (by rw [nI_ltI (by omega) (by omega)]; exact z), decide_eq_false z]
          exact ih n (t + 1) false (by omega) (by omega)
      · rw [if_neg hc, if_pos rfl, if_neg hc]
        exact ih n (t + 1) true (by omega) (by omega)
