/-! ORDERS AND SURE: rows, counted and gone man by man -/
def su (g : Nat → Nat) : Nat → Nat
  | 0 => 0
  | k + 1 => su g k + g k
theorem su_s (g : Nat → Nat) (k : Nat) : su g (k + 1) = su g k + g k := rfl
theorem su_cong {g g' : Nat → Nat} : ∀ {k : Nat}, (∀ m, m < k → g m = g' m) → su g k = su g' k
  | 0, _ => rfl
  | k + 1, h => by rw [su_s, su_s, su_cong (fun m hm => h m (by omega)), h k (by omega)]
theorem su_cut {g : Nat → Nat} {n : Nat} (h : ∀ m, n ≤ m → g m = 0) : ∀ k, n ≤ k → su g k = su g n
  | 0, hk => by rw [show n = 0 by omega]
  | k + 1, hk => by
    by_cases y : n = k + 1
    · rw [y]
    · rw [su_s, h k (by omega), Nat.add_zero, su_cut h k (by omega)]
theorem su_le {g : Nat → Nat} {B : Nat} (h : ∀ m, g m ≤ B) : ∀ k, su g k ≤ B * k
  | 0 => Nat.zero_le _
  | k + 1 => by
    have := su_le h k
    have := h k
    rw [su_s, Nat.mul_add]; omega
theorem su_ge {g : Nat → Nat} {m : Nat} : ∀ {k : Nat}, m < k → g m ≤ su g k
  | 0, h => by omega
  | k + 1, h => by
    rw [su_s]
    by_cases y : m = k
    · rw [y]; omega
    · have := su_ge (g := g) (m := m) (k := k) (by omega); omega
theorem su_pos {g : Nat → Nat} : ∀ {k : Nat}, 0 < su g k → ∃ m, m < k ∧ 0 < g m
  | 0, h => absurd h (Nat.lt_irrefl 0)
  | k + 1, h => by
    rw [su_s] at h
    by_cases y : 0 < g k
    · exact ⟨k, by omega, y⟩
    · obtain ⟨m, a, b⟩ := su_pos (g := g) (k := k) (by omega)
      exact ⟨m, by omega, b⟩
theorem su_up {g g' : Nat → Nat} {j d : Nat} (h1 : g' j = g j + d) (h2 : ∀ m, m ≠ j → g' m = g m) : ∀ {k : Nat}, j < k → su g' k = su g k + d
  | 0, h => by omega
  | k + 1, h => by
    rw [su_s, su_s]
    by_cases y : j = k
    · subst y
      rw [h1, su_cong (g := g') (g' := g) (fun m hm => h2 m (by omega))]; omega
    · rw [h2 k (by omega), su_up h1 h2 (k := k) (by omega)]; omega
theorem su_sum (g : Nat → Nat) : ∀ k, ((List.range k).map g).sum = su g k
  | 0 => rfl
  | k + 1 => by rw [List.range_succ, List.map_append, List.sum_append, su_sum g k, su_s]; simp
/-- a man may follow a set -/
def mfb (A : Nat → Nat) (s m : Nat) : Bool := decide (s.testBit m = false ∧ nt (A m) s = 0)
theorem mfb_i {A : Nat → Nat} {s m : Nat} : mfb A s m = true ↔ (s.testBit m = false ∧ nt (A m) s = 0) := decide_eq_true_iff
/-- each man of a row comes after his -/
def okr (A : Nat → Nat) : Nat → List Nat → Bool
  | _, [] => true
  | s, m :: l => decide (nt (A m) s = 0) && okr A (s ||| 2 ^ m) l
/-- how many rows are left -/
def Rq (A : Nat → Nat) : Nat → Nat → Nat → Nat
  | 0, _, _ => 1
  | f + 1, c, s => if c = 0 then 1 else su (fun m => if c.testBit m = true ∧ nt (A m) s = 0 then Rq A f (nt c (2 ^ m)) (s ||| 2 ^ m) else 0) 6
theorem cnt_e (A : Nat → Nat) : ∀ f c s, (pm f c).countP (okr A s) = Rq A f c s
  | 0, c, s => rfl
  | f + 1, c, s => by
    rw [pm, Rq]
    by_cases h : c = 0
    · rw [if_pos h, if_pos h]; rfl
    · rw [if_neg h, if_neg h, List.countP_flatMap, ← su_sum]
      congr 2
      funext m
      show List.countP (okr A s) (if c.testBit m = true then List.map (fun l => m :: l) (pm f (nt c (2 ^ m))) else []) = _
      by_cases hb : c.testBit m = true
      · rw [if_pos hb, List.countP_map]
        by_cases hc : nt (A m) s = 0
        · rw [if_pos ⟨hb, hc⟩, ← cnt_e A f]
          congr 1
          funext l
          show (decide _ && _) = _
          rw [decide_eq_true hc, Bool.true_and]
        · rw [if_neg (fun z => hc z.2), List.countP_eq_zero]
          intro l _
          show ¬ (decide _ && _) = true
          rw [decide_eq_false hc, Bool.false_and]
          simp
      · rw [if_neg hb, if_neg (fun z => hb z.1)]; rfl
theorem Rq_f (A : Nat → Nat) : ∀ f c s, c < 64 → pc c ≤ f → Rq A (f + 1) c s = Rq A f c s
  | 0, c, s, hc, hp => by
    have : c = 0 := pc_0 c hc (by omega)
    show (if c = 0 then _ else _) = 1
    rw [if_pos this]
  | f + 1, c, s, hc, hp => by
    rw [Rq, Rq]
    by_cases h : c = 0
    · rw [if_pos h, if_pos h]
    · rw [if_neg h, if_neg h]
      congr 1
      funext m
      by_cases hb : c.testBit m = true
      · have := pc_t c hc m (tb_6 hc hb) hb
        rw [Rq_f A f _ _ (nt_lt hc) (by omega)]
      · rw [if_neg (fun z => hb z.1), if_neg (fun z => hb z.1)]
theorem Rq_le (A : Nat → Nat) : ∀ f c s, Rq A f c s ≤ 6 ^ f
  | 0, _, _ => Nat.le_refl _
  | f + 1, c, s => by
    rw [Rq]
    split
    · exact Nat.one_le_pow _ _ (by decide)
    · rw [Nat.pow_succ]
      refine su_le (fun m => ?_) 6
      split
      · exact Rq_le A f _ _
      · exact Nat.zero_le _
def Rt (A : Nat → Nat) (n s : Nat) : Nat := Rq A 6 (nt (2 ^ n - 1) s) s
theorem Rt_le (A : Nat → Nat) (n s : Nat) : Rt A n s ≤ 46656 := Rq_le A 6 _ _
theorem Rt_r (A : Nat → Nat) {n s : Nat} (n6 : n ≤ 6) (hs : s < 2 ^ n) : Rt A n s = if s = 2 ^ n - 1 then 1 else su (fun m => if mfb A s m = true then Rt A n (s ||| 2 ^ m) else 0) n := by
  have p64 := pw_64 n6
  have hz := nt_z n n6 s (by omega) hs
  show Rq A (5 + 1) _ _ = _
  rw [Rq]
  by_cases y : s = 2 ^ n - 1
  · rw [if_pos y, if_pos (hz.mpr y)]
  · rw [if_neg y, if_neg (fun z => y (hz.mp z))]
    have c64 : nt (2 ^ n - 1) s < 64 := nt_lt (by omega)
    rw [su_cut (n := n) (fun m hm => ?_) 6 n6]
    · refine su_cong (fun m hm => ?_)
      have hb : (nt (2 ^ n - 1) s).testBit m = !s.testBit m := nt_bit n n6 s (by omega) m hm
      by_cases hm' : mfb A s m = true
      · obtain ⟨z1, z2⟩ := mfb_i.mp hm'
        have hb' : (nt (2 ^ n - 1) s).testBit m = true := by rw [hb, z1]; rfl
        have := pc_t _ c64 m (by omega) hb'
        have := pc_6 _ c64
        rw [if_pos hm', if_pos ⟨hb', z2⟩, nt_wi n n6 s (by omega) m hm z1]
        unfold Rt
        refine (Rq_f A 5 _ _ (nt_lt (by omega)) ?_).symm
        rw [← nt_wi n n6 s (by omega) m hm z1]
        omega
      · rw [if_neg hm', if_neg]
        rintro ⟨z1, z2⟩
        rw [hb] at z1
        exact hm' (mfb_i.mpr ⟨by simpa using z1, z2⟩)
    · rw [if_neg]
      rintro ⟨z1, z2⟩
      have hm6 : m < 6 := tb_6 c64 z1
      rw [nt_in _ n6 s (by omega) m hm6] at z1
      simp at z1
      omega
/-- in how many ways a set can be the first to come -/
def Wc (A : Nat → Nat) : Nat → Nat → Nat
  | 0, _ => 1
  | f + 1, v => if v = 0 then 1 else su (fun m => if v.testBit m = true ∧ mfb A (nt v (2 ^ m)) m = true then Wc A f (nt v (2 ^ m)) else 0) 6
theorem Wc_f (A : Nat → Nat) : ∀ f c, c < 64 → pc c ≤ f → Wc A (f + 1) c = Wc A f c
  | 0, c, hc, hp => by
    have : c = 0 := pc_0 c hc (by omega)
    show (if c = 0 then _ else _) = 1
    rw [if_pos this]
  | f + 1, c, hc, hp => by
    rw [Wc, Wc]
    by_cases h : c = 0
    · rw [if_pos h, if_pos h]
    · rw [if_neg h, if_neg h]
      congr 1
      funext m
      by_cases hb : c.testBit m = true
      · have := pc_t c hc m (tb_6 hc hb) hb
        rw [Wc_f A f _ (nt_lt hc) (by omega)]
      · rw [if_neg (fun z => hb z.1), if_neg (fun z => hb z.1)]
theorem Wc_le (A : Nat → Nat) : ∀ f c, Wc A f c ≤ 6 ^ f
  | 0, _ => Nat.le_refl _
  | f + 1, c => by
    rw [Wc]
    split
    · exact Nat.one_le_pow _ _ (by decide)
    · rw [Nat.pow_succ]
      refine su_le (fun m => ?_) 6
      split
      · exact Wc_le A f _
      · exact Nat.zero_le _
def Wy (A : Nat → Nat) (v : Nat) : Nat := Wc A 6 v
theorem Wy_le (A : Nat → Nat) (v : Nat) : Wy A v ≤ 46656 := Wc_le A 6 _
theorem tb_n {n c m : Nat} (hc : c < 2 ^ n) (h : c.testBit m = true) : m < n := by
  rcases Nat.lt_or_ge m n with y | y
  · exact y
  · exfalso
    have : c < 2 ^ m := Nat.lt_of_lt_of_le hc (Nat.pow_le_pow_right (n := 2) (by decide) y)
    rw [Nat.testBit_lt_two_pow this] at h
    exact absurd h (by simp)
theorem Wy_r (A : Nat → Nat) {n v : Nat} (n6 : n ≤ 6) (hv : v < 2 ^ n) : Wy A v = if v = 0 then 1 else su (fun m => if v.testBit m = true ∧ mfb A (nt v (2 ^ m)) m = true then Wy A (nt v (2 ^ m)) else 0) n := by
  have p64 := pw_64 n6
  show Wc A (5 + 1) _ = _
  rw [Wc]
  by_cases y : v = 0
  · rw [if_pos y, if_pos y]
  · rw [if_neg y, if_neg y]
    rw [su_cut (n := n) (fun m hm => ?_) 6 n6]
    · refine su_cong (fun m hm => ?_)
      by_cases hb : v.testBit m = true
      · have := pc_t v (by omega) m (by omega) hb
        have := pc_6 v (by omega)
        unfold Wy
        rw [Wc_f A 5 _ (nt_lt (by omega)) (by omega)]
      · rw [if_neg (fun z => hb z.1), if_neg (fun z => hb z.1)]
    · rw [if_neg]
      rintro ⟨z1, z2⟩
      have := tb_n hv z1
      omega
