/-! ORDERS AND SURE: which places a man may have -/
def Pth (A : Nat → Nat) (n : Nat) : Nat → List Nat → Prop
  | _, [] => True
  | s, m :: l => m < n ∧ mfb A s m = true ∧ Pth A n (s ||| 2 ^ m) l
def en : Nat → List Nat → Nat
  | s, [] => s
  | s, m :: l => en (s ||| 2 ^ m) l
theorem Pth_ap (A : Nat → Nat) (n : Nat) : ∀ p s q, Pth A n s (p ++ q) ↔ Pth A n s p ∧ Pth A n (en s p) q
  | [], s, q => ⟨fun h => ⟨trivial, h⟩, fun h => h.2⟩
  | m :: p, s, q => by
    have := Pth_ap A n p (s ||| 2 ^ m) q
    constructor
    · rintro ⟨a, b, c⟩
      exact ⟨⟨a, b, (this.mp c).1⟩, (this.mp c).2⟩
    · rintro ⟨⟨a, b, c⟩, d⟩
      exact ⟨a, b, this.mpr ⟨c, d⟩⟩
theorem en_ap : ∀ p s q, en s (p ++ q) = en (en s p) q
  | [], _, _ => rfl
  | m :: p, s, q => en_ap p (s ||| 2 ^ m) q
theorem pc_or : ∀ s, s < 64 → ∀ m, m < 6 → s.testBit m = false → pc (s ||| 2 ^ m) = pc s + 1 := by decide +kernel
theorem nt_or : ∀ s, s < 64 → ∀ m, m < 6 → s.testBit m = false → nt (s ||| 2 ^ m) (2 ^ m) = s := by decide +kernel
theorem or_nt : ∀ s, s < 64 → ∀ m, m < 6 → s.testBit m = true → nt s (2 ^ m) ||| 2 ^ m = s ∧ nt s (2 ^ m) < s ∧ (nt s (2 ^ m)).testBit m = false := by decide +kernel
theorem or_n {n s m : Nat} (hs : s < 2 ^ n) (hm : m < n) : s ||| 2 ^ m < 2 ^ n := by
  have := Nat.two_pow_pos n
  have := or_lt (a := s) (b := m) (n := n) (by omega) hm
  omega
theorem or_b (s m : Nat) : (s ||| 2 ^ m).testBit m = true := by rw [tb_or, tb_p]; simp
theorem Pth_en {A : Nat → Nat} {n : Nat} (n6 : n ≤ 6) : ∀ p s, s < 2 ^ n → Pth A n s p → en s p < 2 ^ n ∧ pc (en s p) = pc s + p.length
  | [], s, hs, _ => ⟨hs, rfl⟩
  | m :: p, s, hs, ⟨a, b, c⟩ => by
    have p64 := pw_64 n6
    obtain ⟨e1, e2⟩ := Pth_en n6 p (s ||| 2 ^ m) (or_n hs a) c
    have := pc_or s (by omega) m (by omega) (mfb_i.mp b).1
    exact ⟨e1, by rw [List.length_cons]; show pc (en (s ||| 2 ^ m) p) = _; omega⟩
theorem R_pos (A : Nat → Nat) {n : Nat} (n6 : n ≤ 6) : ∀ d s, s < 2 ^ n → 2 ^ n - s ≤ d → (0 < Rt A n s ↔ ∃ l, Pth A n s l ∧ en s l = 2 ^ n - 1) := by
  have p64 := pw_64 n6
  intro d
  induction d with
  | zero => intro s h1 h2; omega
  | succ d ih =>
    intro s hs hd
    rw [Rt_r A n6 hs]
    by_cases y : s = 2 ^ n - 1
    · rw [if_pos y]
      exact ⟨fun _ => ⟨[], trivial, y⟩, fun _ => Nat.one_pos⟩
    · rw [if_neg y]
      have st : ∀ m, m < n → mfb A s m = true → (0 < Rt A n (s ||| 2 ^ m) ↔ ∃ l, Pth A n (s ||| 2 ^ m) l ∧ en (s ||| 2 ^ m) l = 2 ^ n - 1) := fun m hm hf => by
        have := or_gt s (by omega) m (by omega) (mfb_i.mp hf).1
        exact ih (s ||| 2 ^ m) (or_n hs hm) (by omega)
      constructor
      · intro h
        obtain ⟨m, hm, hp⟩ := su_pos h
        by_cases hf : mfb A s m = true
        · rw [if_pos hf] at hp
          obtain ⟨l, l1, l2⟩ := (st m hm hf).mp hp
          exact ⟨m :: l, ⟨hm, hf, l1⟩, l2⟩
        · rw [if_neg hf] at hp; exact absurd hp (Nat.lt_irrefl _)
      · rintro ⟨l, l1, l2⟩
        cases l with
        | nil => exact absurd l2 y
        | cons m l =>
          obtain ⟨a, b, c⟩ := l1
          have h1 := (st m a b).mpr ⟨l, c, l2⟩
          have h2 := su_ge (g := fun m => if mfb A s m = true then Rt A n (s ||| 2 ^ m) else 0) a
          rw [if_pos b] at h2
          omega
theorem W_pos1 (A : Nat → Nat) {n : Nat} (n6 : n ≤ 6) : ∀ d v, v < d → v < 2 ^ n → 0 < Wy A v → ∃ p, Pth A n 0 p ∧ en 0 p = v := by
  have p64 := pw_64 n6
  intro d
  induction d with
  | zero => intro v h; omega
  | succ d ih =>
    intro v hd hv h
    rw [Wy_r A n6 hv] at h
    by_cases y : v = 0
    · exact ⟨[], trivial, y.symm⟩
    · rw [if_neg y] at h
      obtain ⟨m, hm, hp⟩ := su_pos h
      by_cases hf : v.testBit m = true ∧ mfb A (nt v (2 ^ m)) m = true
      · rw [if_pos hf] at hp
        obtain ⟨o1, o2, o3⟩ := or_nt v (by omega) m (by omega) hf.1
        obtain ⟨p, p1, p2⟩ := ih (nt v (2 ^ m)) (by omega) (by omega) hp
        refine ⟨p ++ [m], (Pth_ap A n p 0 [m]).mpr ⟨p1, hm, by rw [p2]; exact hf.2, trivial⟩, ?_⟩
        rw [en_ap, p2]
        exact o1
      · rw [if_neg hf] at hp; exact absurd hp (Nat.lt_irrefl _)
theorem W_pos2 (A : Nat → Nat) {n : Nat} (n6 : n ≤ 6) : ∀ p s, s < 2 ^ n → 0 < Wy A s → Pth A n s p → 0 < Wy A (en s p)
  | [], s, _, h, _ => h
  | m :: p, s, hs, h, ⟨a, b, c⟩ => by
    have p64 := pw_64 n6
    refine W_pos2 A n6 p (s ||| 2 ^ m) (or_n hs a) ?_ c
    rw [Wy_r A n6 (or_n hs a), if_neg]
    · have e := nt_or s (by omega) m (by omega) (mfb_i.mp b).1
      have h2 := su_ge (g := fun k => if (s ||| 2 ^ m).testBit k = true ∧ mfb A (nt (s ||| 2 ^ m) (2 ^ k)) k = true then Wy A (nt (s ||| 2 ^ m) (2 ^ k)) else 0) a
      rw [e, if_pos ⟨or_b s m, b⟩] at h2
      omega
    · have := or_gt s (by omega) m (by omega) (mfb_i.mp b).1
      omega
theorem Wy_0 (A : Nat → Nat) : Wy A 0 = 1 := by
  rw [Wy_r A (n := 0) (by omega) (by decide), if_pos rfl]
/-- a row is one of those that are laid and keeps to what was said: a way from s to all -/
theorem row_i (A : Nat → Nat) {n : Nat} (n6 : n ≤ 6) : ∀ f s q, s < 2 ^ n → pc (nt (2 ^ n - 1) s) ≤ f → ((q ∈ pm f (nt (2 ^ n - 1) s) ∧ okr A s q = true) ↔ (Pth A n s q ∧ en s q = 2 ^ n - 1)) := by
  have p64 := pw_64 n6
  intro f
  induction f with
  | zero =>
    intro s q hs hp
    have hz := pc_0 _ (nt_lt (by omega)) (by omega : pc (nt (2 ^ n - 1) s) = 0)
    have hs' := (nt_z n n6 s (by omega) hs).mp hz
    constructor
    · rintro ⟨h1, h2⟩
      have : q = [] := by simpa [pm] using h1
      subst this
      exact ⟨trivial, hs'⟩
    · rintro ⟨h1, h2⟩
      cases q with
      | nil => exact ⟨by simp [pm], rfl⟩
      | cons m l =>
        exfalso
        obtain ⟨a, b, c⟩ := h1
        have hb := (mfb_i.mp b).1
        rw [hs', tb_all n n6 m a] at hb
        exact absurd hb (by simp)
  | succ f ih =>
    intro s q hs hp
    rw [pm]
    by_cases hc : nt (2 ^ n - 1) s = 0
    · have hs' := (nt_z n n6 s (by omega) hs).mp hc
      rw [if_pos hc]
      constructor
      · rintro ⟨h1, h2⟩
        have : q = [] := by simpa using h1
        subst this
        exact ⟨trivial, hs'⟩
      · rintro ⟨h1, h2⟩
        cases q with
        | nil => exact ⟨by simp, rfl⟩
        | cons m l =>
          exfalso
          obtain ⟨a, b, c⟩ := h1
          have hb := (mfb_i.mp b).1
          rw [hs', tb_all n n6 m a] at hb
          exact absurd hb (by simp)
    · rw [if_neg hc]
      have c64 : nt (2 ^ n - 1) s < 64 := nt_lt (by omega)
      have st : ∀ m, m < n → s.testBit m = false → ∀ l, ((l ∈ pm f (nt (nt (2 ^ n - 1) s) (2 ^ m)) ∧ okr A (s ||| 2 ^ m) l = true) ↔ (Pth A n (s ||| 2 ^ m) l ∧ en (s ||| 2 ^ m) l = 2 ^ n - 1)) := fun m hm hb l => by
        have hb' : (nt (2 ^ n - 1) s).testBit m = true := by rw [nt_bit n n6 s (by omega) m hm, hb]; rfl
        have := pc_t _ c64 m (by omega) hb'
        rw [nt_wi n n6 s (by omega) m hm hb] at this ⊢
        exact ih (s ||| 2 ^ m) l (or_n hs hm) (by omega)
      constructor
      · rintro ⟨h1, h2⟩
        obtain ⟨m, _, h3⟩ := List.mem_flatMap.mp h1
        split at h3
        · rename_i hb
          obtain ⟨l, hl, rfl⟩ := List.mem_map.mp h3
          have hm6 := tb_6 c64 hb
          rw [nt_in n n6 s (by omega) m hm6] at hb
          simp at hb
          have h2' : (decide (nt (A m) s = 0) && okr A (s ||| 2 ^ m) l) = true := h2
          rw [Bool.and_eq_true, decide_eq_true_iff] at h2'
          obtain ⟨r1, r2⟩ := (st m hb.1 hb.2 l).mp ⟨hl, h2'.2⟩
          exact ⟨⟨hb.1, mfb_i.mpr ⟨hb.2, h2'.1⟩, r1⟩, r2⟩
        · exact absurd h3 (by simp)
      · rintro ⟨h1, h2⟩
        cases q with
        | nil => exact absurd ((nt_z n n6 s (by omega) hs).mpr h2) hc
        | cons m l =>
          obtain ⟨a, b, c⟩ := h1
          obtain ⟨z1, z2⟩ := mfb_i.mp b
          obtain ⟨r1, r2⟩ := (st m a z1 l).mpr ⟨c, h2⟩
          have hb' : (nt (2 ^ n - 1) s).testBit m = true := by rw [nt_bit n n6 s (by omega) m a, z1]; rfl
          refine ⟨List.mem_flatMap.mpr ⟨m, List.mem_range.mpr (by omega), ?_⟩, ?_⟩
          · rw [if_pos hb']
            exact List.mem_map.mpr ⟨l, r1, rfl⟩
          · show (decide (nt (A m) s = 0) && okr A (s ||| 2 ^ m) l) = true
            rw [r2, decide_eq_true z2]; rfl
theorem la_app {p q : List Nat} {m : Nat} : la (p ++ m :: q) p.length = m := by
  unfold la
  rw [List.getD_eq_getElem?_getD, List.getElem?_append_right (Nat.le_refl _), Nat.sub_self]
  rfl
/-- a man's place in some row -/
theorem place_i (A : Nat → Nat) {n m k : Nat} (n6 : n ≤ 6) (hm : m < n) : (∃ q, (q ∈ pm 6 (2 ^ n - 1) ∧ okr A 0 q = true) ∧ k < q.length ∧ la q k = m) ↔ ∃ s, s < 2 ^ n ∧ mfb A s m = true ∧ 0 < Wy A s ∧ 0 < Rt A n (s ||| 2 ^ m) ∧ pc s = k := by
  have p64 := pw_64 n6
  have pp := Nat.two_pow_pos n
  have e0 : nt (2 ^ n - 1) 0 = 2 ^ n - 1 := (by decide +kernel : ∀ n, n ≤ 6 → nt (2 ^ n - 1) 0 = 2 ^ n - 1) n n6
  have hr := fun q => row_i A n6 6 0 q pp (pc_6 _ (nt_lt (by omega)))
  rw [e0] at hr
  constructor
  · rintro ⟨q, h1, h2, h3⟩
    obtain ⟨a, b⟩ := (hr q).mp h1
    have eq : q = q.take k ++ m :: q.drop (k + 1) := by
      rw [← h3, ← la_c h2, List.take_append_drop]
    rw [eq, Pth_ap] at a
    rw [eq, en_ap] at b
    obtain ⟨a1, a2, a3, a4⟩ := a
    obtain ⟨e1, e2⟩ := Pth_en n6 _ 0 pp a1
    refine ⟨en 0 (q.take k), e1, a3, W_pos2 A n6 _ 0 pp (by rw [Wy_0]; exact Nat.one_pos) a1, (R_pos A n6 _ _ (or_n e1 hm) (Nat.le_refl _)).mpr ⟨_, a4, b⟩, ?_⟩
    rw [e2, List.length_take]
    show 0 + _ = _
    omega
  · rintro ⟨s, h1, h2, h3, h4, h5⟩
    obtain ⟨p, p1, p2⟩ := W_pos1 A n6 (s + 1) s (by omega) h1 h3
    obtain ⟨l, l1, l2⟩ := (R_pos A n6 _ _ (or_n h1 hm) (Nat.le_refl _)).mp h4
    obtain ⟨e1, e2⟩ := Pth_en n6 p 0 pp p1
    have ek : k = p.length := by
      rw [p2, h5] at e2
      have : pc 0 = 0 := rfl
      omega
    refine ⟨p ++ m :: l, (hr _).mpr ⟨(Pth_ap A n p 0 _).mpr ⟨p1, hm, by rw [p2]; exact h2, by rw [p2]; exact l1⟩, ?_⟩, ?_, ?_⟩
    · rw [en_ap, p2]; exact l2
    · rw [List.length_append, List.length_cons]; omega
    · rw [ek]; exact la_app
