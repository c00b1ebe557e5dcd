/-! ORDERS AND SURE: the reference lays all rows -/
theorem okr_i (A : Nat → Nat) : ∀ q s, s < 64 → (∀ k, k < q.length → la q k < 6 ∧ A (la q k) < 64) → (okr A s q = true ↔ ∀ k, k < q.length → ∀ x, x < 6 → (A (la q k)).testBit x = true → s.testBit x = true ∨ ∃ i, i < k ∧ la q i = x)
  | [], s, hs, h => ⟨fun _ k hk => absurd hk (by simp), fun _ => rfl⟩
  | m :: l, s, hs, h => by
    have h0 := h 0 (by simp)
    have hm6 : m < 6 := h0.1
    have hA : A m < 64 := h0.2
    have ih := okr_i A l (s ||| 2 ^ m) (or_64 hs (p2_64 hm6)) (fun k hk => h (k + 1) (by rw [List.length_cons]; omega))
    show (decide (nt (A m) s = 0) && okr A (s ||| 2 ^ m) l) = true ↔ _
    rw [Bool.and_eq_true, decide_eq_true_iff, nt_0 _ hA s hs, ih]
    constructor
    · rintro ⟨a, b⟩ k hk x hx hb
      cases k with
      | zero => exact Or.inl (a x hx hb)
      | succ k =>
        rcases b k (by rw [List.length_cons] at hk; omega) x hx hb with z | ⟨i, i1, i2⟩
        · rw [tb_or, tb_p, Bool.or_eq_true] at z
          rcases z with z | z
          · exact Or.inl z
          · exact Or.inr ⟨0, by omega, of_decide_eq_true z⟩
        · exact Or.inr ⟨i + 1, by omega, i2⟩
    · intro a
      refine ⟨fun x hx hb => ?_, fun k hk x hx hb => ?_⟩
      · rcases a 0 (by simp) x hx hb with z | ⟨i, i1, i2⟩
        · exact z
        · omega
      · rcases a (k + 1) (by rw [List.length_cons]; omega) x hx hb with z | ⟨i, i1, i2⟩
        · exact Or.inl (by rw [tb_or, z]; rfl)
        · cases i with
          | zero => exact Or.inl (by rw [tb_or, tb_p, Bool.or_eq_true]; exact Or.inr (decide_eq_true i2))
          | succ i => exact Or.inr ⟨i, by omega, i2⟩
theorem ahd_b (M : Mm) {y x : Nat} : ((ahd M y).testBit x = true) ↔ ((nv (gI M 42 y)).testBit x = true ∨ (gI M 41 (3 * y) = 4 ∧ (x < nM M ∧ ¬ gI M 41 (3 * x) = 4))) := by
  unfold ahd
  rw [tb_or, Bool.or_eq_true]
  by_cases k : gI M 41 (3 * y) = 4
  · rw [if_pos k, abc_bit]
    simp [k]
  · rw [if_neg k, Nat.zero_testBit]
    simp [k]
theorem rel_i {M : Mm} (h4 : I_mn M) (h6 : I_cu M) {q : List Nat} (hq : Pq (nM M) q) : (al (f1 M (la q)) 0 (nv (gI M 32 29)) && al (f2 M (la q)) 0 36) = okr (Aw M) 0 q := by
  have n6 := h4.n.1
  have p64 := pw_64 n6
  have g17 := h6.2.2.2.2.2.2.2.2.2.2.2.2.2.2.2.2.1
  have g16 := h6.2.2.2.2.2.2.2.2.2.2.2.2.2.2.2.1
  have e1 : al (f1 M (la q)) 0 (nv (gI M 32 29)) = true ↔ ∀ y x, y < nM M → x < nM M → (nv (gI M 15 y)).testBit x = true → pz (la q) x (nM M) < pz (la q) y (nM M) := by
    rw [al_i]
    constructor
    · intro h y x hy hx hb
      obtain ⟨k, k1, k2, k3⟩ := ((g17 y hy).2 x hx).mp hb
      have := of_decide_eq_true (h k (Nat.zero_le _) (by omega))
      rw [k2, k3, nv_n (by omega), nv_n (by omega)] at this
      exact this
    · intro h j _ hj
      obtain ⟨x, y, x1, y1, _, x2, y2⟩ := g16 j (by omega)
      refine decide_eq_true ?_
      rw [x2, y2, nv_n (by omega), nv_n (by omega)]
      exact h y x y1 x1 (((g17 y y1).2 x x1).mpr ⟨j, by omega, x2, y2⟩)
  have e2 : al (f2 M (la q)) 0 36 = true ↔ ∀ y x, y < nM M → x < nM M → (ahd M y).testBit x = true → pz (la q) x (nM M) < pz (la q) y (nM M) := by
    rw [al_i]
    constructor
    · intro h y x hy hx hb
      have := h (6 * y + x) (Nat.zero_le _) (by omega)
      unfold f2 at this
      rw [show (6 * y + x) / 6 = y by omega, show (6 * y + x) % 6 = x by omega, if_pos] at this
      · exact of_decide_eq_true this
      · refine ⟨⟨hy, hx⟩, ?_⟩
        rcases (ahd_b M).mp hb with z | z
        · exact Or.inl z
        · exact Or.inr ⟨z.1, z.2.2⟩
    · intro h j _ hj
      unfold f2
      by_cases hc : cnd M (j / 6) (j % 6)
      · rw [if_pos hc]
        refine decide_eq_true (h _ _ hc.1.1 hc.1.2 ((ahd_b M).mpr ?_))
        rcases hc.2 with z | z
        · exact Or.inl z
        · exact Or.inr ⟨z.1, hc.1.2, z.2⟩
      · rw [if_neg hc]
  have e3 : okr (Aw M) 0 q = true ↔ ∀ y x, y < nM M → x < nM M → (Aw M y).testBit x = true → pz (la q) x (nM M) < pz (la q) y (nM M) := by
    rw [okr_i (Aw M) q 0 (by decide) (fun k hk => by
      have := hq.2.1 k (by rw [← hq.1]; exact hk)
      exact ⟨by omega, Aw_lt h4 h6 this⟩)]
    constructor
    · intro h y x hy hx hb
      obtain ⟨k, k1, k2⟩ := hq.2.2.2 y hy
      rcases h k (by rw [hq.1]; exact k1) x (by omega) (by rw [k2]; exact hb) with z | ⟨i, i1, i2⟩
      · rw [Nat.zero_testBit] at z; exact absurd z (by simp)
      · rw [pz_e hq k2 _ k1 (Nat.le_refl _), pz_e hq i2 _ (by omega) (Nat.le_refl _)]
        exact i1
    · intro h k hk x hx hb
      rw [hq.1] at hk
      have hy := hq.2.1 k hk
      have hxn : x < nM M := by
        unfold Aw at hb
        rw [tb_or, Bool.or_eq_true] at hb
        rcases hb with z | z
        · rcases (ahd_b M).mp z with z | z
          · exact tb_n (bh_n h4 hy).2.2.1 z
          · exact z.2.1
        · exact tb_n (sc_n h4 h6 hy).2 z
      obtain ⟨i, i1, i2⟩ := hq.2.2.2 x hxn
      have := h (la q k) x hy hxn hb
      rw [pz_e hq rfl _ hk (Nat.le_refl _), pz_e hq i2 _ i1 (Nat.le_refl _)] at this
      exact Or.inr ⟨i, this, i2⟩
  have ee : ∀ y x, (Aw M y).testBit x = true ↔ ((ahd M y).testBit x = true ∨ (nv (gI M 15 y)).testBit x = true) := fun y x => by
    unfold Aw
    rw [tb_or, Bool.or_eq_true]
  rw [Bool.eq_iff_iff, Bool.and_eq_true, e1, e2, e3]
  constructor
  · rintro ⟨a, b⟩ y x hy hx hb
    rcases (ee y x).mp hb with z | z
    · exact b y x hy hx z
    · exact a y x hy hx z
  · intro a
    exact ⟨fun y x hy hx hb => a y x hy hx ((ee y x).mpr (Or.inr hb)), fun y x hy hx hb => a y x hy hx ((ee y x).mpr (Or.inl hb))⟩
theorem iss_e {M : Mm} (h4 : I_mn M) (h6 : I_cu M) {q : List Nat} (hr : Ro M (la q) (nM M)) (hq : Pq (nM M) q) : sp_X11_isSaidSo M = some (bi (okr (Aw M) 0 q), M) := by
  have s2 := (sd_n h6).2
  unfold sp_X11_isSaidSo
  rw [jn_e]
  have := soL h4 h6 hr hq (fun (v1_57 : Int32) (M_57 : Mm) => sp_X11_isSaidSo_L59 fu v1_57 (0 : Int32) M_57) (nv (gI M 32 29)) fu 0 true (by omega) (by show _ < 1000; omega)
  refine Eq.trans this ?_
  rw [Bool.true_and]
  refine Eq.trans (s2L h4 hr hq 36 fu 0 (al (f1 M (la q)) 0 (nv (gI M 32 29))) (by omega) (by show _ < 1000; omega)) ?_
  rw [rel_i h4 h6 hq]
/-- the places so far -/
def Mp (n : Nat) (Mx : Mm) (P : Nat → Nat → Prop) : Prop := ∀ m, m < n → ∃ b, b < 64 ∧ gI Mx 46 m = nI b ∧ ∀ k, k < 6 → (b.testBit k = true ↔ P m k)
theorem plcL {n : Nat} (n6 : n ≤ 6) {q : List Nat} (hq : Pq n q) {P : Nat → Nat → Prop} (K : Int32 → Mm → Option (Int32 × Mm)) (v : Int32) : ∀ f j Mx, j ≤ n → n < j + f → Ro Mx (la q) n → Mp n Mx (fun m k => P m k ∨ (k < j ∧ la q k = m)) → ∃ M', sp_X11_layOrders_L53 K v f (nI j) Mx = K (v + 1) M' ∧ Ro M' (la q) n ∧ Mp n M' (fun m k => P m k ∨ (k < q.length ∧ la q k = m)) ∧ ∀ c k, c ≠ 46 → gI M' c k = gI Mx c k := by
  intro f
  induction f with
  | zero => intro j Mx a b; omega
  | succ f ih =>
    intro j Mx hj hf hr mp
    rw [sp_X11_layOrders_L53, hr.1]
    by_cases y : j < n
    · have hqj := hq.2.1 j y
      obtain ⟨b, b1, b2, b3⟩ := mp (la q j) hqj
      rw [if_pos ((nI_ltI (by omega) (by omega)).mpr y), rdI_n (show j < 6 by omega), hr.2 j y, rdI_n (show la q j < 6 by omega), wrI_n (show la q j < 6 by omega), b2, b_one j (by omega), b_or b b1 _ (p2_64 (by omega)), nI_p]
      obtain ⟨M', m1, m2, m3, m4⟩ := ih (j + 1) (sI Mx 46 (la q j) (nI (b ||| 2 ^ j))) (by omega) (by omega) ⟨by rw [gI_o (by omega)]; exact hr.1, fun k hk => by rw [gI_o (by omega)]; exact hr.2 k hk⟩ (fun m hm => by
        by_cases z : m = la q j
        · refine ⟨b ||| 2 ^ j, or_64 b1 (p2_64 (by omega)), by rw [z, gI_s], fun k hk => ?_⟩
          rw [tb_or, tb_p, Bool.or_eq_true, b3 k hk, decide_eq_true_iff, z]
          constructor
          · rintro ((a | a) | a)
            · exact Or.inl a
            · exact Or.inr ⟨by omega, a.2⟩
            · exact Or.inr ⟨by omega, by rw [a]⟩
          · rintro (a | ⟨a, c⟩)
            · exact Or.inl (Or.inl a)
            · by_cases e : j = k
              · exact Or.inr e
              · exact Or.inl (Or.inr ⟨by omega, c⟩)
        · obtain ⟨d, d1, d2, d3⟩ := mp m hm
          refine ⟨d, d1, by rw [gI_o (fun e => z e.2)]; exact d2, fun k hk => (d3 k hk).trans ?_⟩
          constructor
          · rintro (a | a)
            · exact Or.inl a
            · exact Or.inr ⟨by omega, a.2⟩
          · rintro (a | ⟨a, c⟩)
            · exact Or.inl a
            · by_cases e : k = j
              · rw [e] at c; exact absurd c.symm z
              · exact Or.inr ⟨by omega, c⟩)
      exact ⟨M', m1, m2, m3, fun c k hc => (m4 c k hc).trans (gI_o (fun e => hc e.1))⟩
    · rw [if_neg (by rw [nI_ltI (by omega) (by omega)]; exact y)]
      have e : j = n := by omega
      rw [e, ← hq.1] at mp
      exact ⟨Mx, rfl, hr, by rw [hq.1] at mp ⊢; exact mp, fun _ _ _ => rfl⟩
