/-! THE CALL order: the class's table of sets -/
/-- the minute when a set is over -/
def ts (M : Mm) (s : Nat) : Nat → Nat
  | 0 => nv (gI M 32 10)
  | k + 1 => ts M s k + (if s.testBit k = true ∧ (nv (gI M 13 4)).testBit k = false then tk M k else 0)
theorem ts_s (M : Mm) (s k : Nat) : ts M s (k + 1) = ts M s k + (if s.testBit k = true ∧ (nv (gI M 13 4)).testBit k = false then tk M k else 0) := rfl
def Ts (M : Mm) (s : Nat) : Nat := ts M s (nM M)
def Ds (M : Mm) (first s : Nat) : Option (Nat × List Nat) := Bst (Cb M) (tk M) (Hh M first 1000000000) 6 (nt (2 ^ nM M - 1) s) s (Ts M s)
def gS (M : Mm) (first s m : Nat) : Option (Nat × List Nat) := if m < nM M ∧ Cb M s m = true then (Ds M first (s ||| 2 ^ m)).map (fun x => (Hh M first 1000000000 (Ts M (s ||| 2 ^ m)) + x.1, m :: x.2)) else none
theorem ts_or (M : Mm) {s m : Nat} (h1 : s.testBit m = false) (h2 : (nv (gI M 13 4)).testBit m = false) : ∀ k, ts M (s ||| 2 ^ m) k = ts M s k + (if m < k then tk M m else 0)
  | 0 => rfl
  | k + 1 => by
    rw [ts_s, ts_s, ts_or M h1 h2 k, tb_or, tb_p]
    by_cases y : m = k
    · subst y
      rw [if_neg (Nat.lt_irrefl _), if_pos (show m < m + 1 by omega), h1, h2]
      simp
    · have e : (s.testBit k || decide (m = k)) = s.testBit k := by simp [y]
      rw [e]
      by_cases z : m < k
      · rw [if_pos z, if_pos (show m < k + 1 by omega)]; omega
      · rw [if_neg z, if_neg (show ¬ m < k + 1 by omega)]; omega
theorem ts_le {M : Mm} (h4 : I_mn M) (h6 : I_cu M) (s : Nat) : ∀ k, k ≤ nM M → ts M s k ≤ 49 + 13 * k
  | 0, _ => by have := (mi_n h6).2.2; show nv _ ≤ _; omega
  | k + 1, hk => by
    have := ts_le h4 h6 s k (by omega)
    have := tk_le h4 (m := k) (by omega)
    rw [ts_s]
    split <;> omega
theorem nt_wi : ∀ n, n ≤ 6 → ∀ s, s < 64 → ∀ m, m < n → s.testBit m = false → nt (nt (2 ^ n - 1) s) (2 ^ m) = nt (2 ^ n - 1) (s ||| 2 ^ m) := by decide +kernel
theorem nt_in : ∀ n, n ≤ 6 → ∀ s, s < 64 → ∀ m, m < 6 → (nt (2 ^ n - 1) s).testBit m = (decide (m < n) && !s.testBit m) := by decide +kernel
theorem nt_z : ∀ n, n ≤ 6 → ∀ s, s < 64 → s < 2 ^ n → (nt (2 ^ n - 1) s = 0 ↔ s = 2 ^ n - 1) := by decide +kernel
theorem tb_all : ∀ n, n ≤ 6 → ∀ k, k < n → (2 ^ n - 1).testBit k = true := by decide +kernel
theorem sub_le : ∀ a, a < 64 → ∀ b, b < 64 → nt a b = 0 → a ≤ b := by decide +kernel
theorem or_gt : ∀ s, s < 64 → ∀ m, m < 6 → s.testBit m = false → s < s ||| 2 ^ m := by decide +kernel
theorem sub_or {a s m : Nat} (ha : a < 64) (hs : s < 64) (hm : m < 6) (h : nt a s = 0) : nt a (s ||| 2 ^ m) = 0 := by
  rw [nt_0 a ha _ (or_64 hs (p2_64 hm))]
  rw [nt_0 a ha s hs] at h
  intro j hj hb
  rw [tb_or, h j hj hb]; rfl
theorem sub_no {a s m : Nat} (ha : a < 64) (hs : s < 64) (hm : m < 6) (h : nt a s = 0) (hb : s.testBit m = false) : a.testBit m = false := by
  rw [nt_0 a ha s hs] at h
  cases e : a.testBit m with
  | false => rfl
  | true => rw [h m hm e] at hb; exact absurd hb (by simp)
theorem Cb_no {M : Mm} {s m : Nat} (h : Cb M s m = true) : s.testBit m = false := (of_decide_eq_true h).1
theorem Bst_le {C : Nat → Nat → Bool} {tkf H : Nat → Nat} {B : Nat} (hH : ∀ t, H t ≤ B) : ∀ f c ov t x, Bst C tkf H f c ov t = some x → x.1 ≤ B * f
  | 0, c, ov, t, x, h => by
    have : ((0 : Nat), ([] : List Nat)) = x := Option.some.inj h
    rw [← this]; exact Nat.zero_le _
  | f + 1, c, ov, t, x, h => by
    rw [Bst] at h
    split at h
    · have : ((0 : Nat), ([] : List Nat)) = x := Option.some.inj h
      rw [← this]; exact Nat.zero_le _
    · rcases FB_in (g := fun m => if c.testBit m = true ∧ C ov m = true then (Bst C tkf H f (nt c (2 ^ m)) (ov ||| 2 ^ m) (t + tkf m)).map (fun x => (H (t + tkf m) + x.1, m :: x.2)) else none) 6 with z | ⟨m, _, z⟩
      · rw [FB, h] at z; exact absurd z (by simp)
      · rw [FB, h] at z
        split at z
        · cases e : Bst C tkf H f (nt c (2 ^ m)) (ov ||| 2 ^ m) (t + tkf m) with
          | none => rw [e] at z; exact absurd z (by simp)
          | some y =>
            rw [e] at z
            have z' : x = (H (t + tkf m) + y.1, m :: y.2) := Option.some.inj z
            have h1 := Bst_le hH f _ _ _ y e
            have h2 := hH (t + tkf m)
            rw [z', Nat.mul_add, Nat.mul_one]
            show H _ + y.1 ≤ _
            omega
        · exact absurd z (by simp)
theorem Hh_le (M : Mm) (first v t : Nat) : Hh M first v t ≤ v := hz_le _ _ _ _ _
theorem Ds_le {M : Mm} {first s : Nat} {x : Nat × List Nat} (h : Ds M first s = some x) : x.1 ≤ 6000000000 := by
  have := Bst_le (B := 1000000000) (fun t => Hh_le M first 1000000000 t) 6 _ _ _ x h
  omega
theorem gS_le {M : Mm} {first s m : Nat} {x : Nat × List Nat} (h : gS M first s m = some x) : x.1 ≤ 1000000000000 := by
  unfold gS at h
  split at h
  · cases e : Ds M first (s ||| 2 ^ m) with
    | none => rw [e] at h; exact absurd h (by simp)
    | some y =>
      rw [e] at h
      have z' := (Option.some.inj h).symm
      have h1 := Ds_le e
      have h2 := Hh_le M first 1000000000 (Ts M (s ||| 2 ^ m))
      rw [z']
      show _ + y.1 ≤ _
      omega
  · exact absurd h (by simp)
theorem Ds_r {M : Mm} (h4 : I_mn M) (h6 : I_cu M) (first : Nat) {s : Nat} (hs : s < 2 ^ nM M) (hv : nt (nv (gI M 13 4)) s = 0) : Ds M first s = if s = 2 ^ nM M - 1 then some (0, []) else FB (gS M first s) (nM M) := by
  have n6 := h4.n.1
  have p64 := pw_64 n6
  have o3 := (ob_n h4 h6).2.2
  have hz := nt_z (nM M) n6 s (by omega) hs
  show Bst _ _ _ (5 + 1) _ _ _ = _
  rw [Bst]
  by_cases y : s = 2 ^ nM M - 1
  · rw [if_pos y, if_pos (hz.mpr y)]
  · rw [if_neg y, if_neg (fun z => y (hz.mp z))]
    have e : ∀ m, (if (nt (2 ^ nM M - 1) s).testBit m = true ∧ Cb M s m = true then (Bst (Cb M) (tk M) (Hh M first 1000000000) 5 (nt (nt (2 ^ nM M - 1) s) (2 ^ m)) (s ||| 2 ^ m) (Ts M s + tk M m)).map (fun x => (Hh M first 1000000000 (Ts M s + tk M m) + x.1, m :: x.2)) else none) = gS M first s m := by
      intro m
      unfold gS
      by_cases hc : m < nM M ∧ Cb M s m = true
      · have hb := Cb_no hc.2
        have hb' : (nt (2 ^ nM M - 1) s).testBit m = true := by rw [nt_in _ n6 s (by omega) m (by omega), hb]; simp [hc.1]
        have c64 : nt (2 ^ nM M - 1) s < 64 := nt_lt (by omega)
        have et : Ts M s + tk M m = Ts M (s ||| 2 ^ m) := by
          unfold Ts
          rw [ts_or M hb (sub_no o3 (by omega) (by omega) hv hb), if_pos hc.1]
        have hpc : pc (nt (nt (2 ^ nM M - 1) s) (2 ^ m)) ≤ 5 := by
          have := pc_t _ c64 m (by omega) hb'
          have := pc_6 _ c64
          omega
        rw [if_pos ⟨hb', hc.2⟩, if_pos hc, et, Bst_6 _ _ _ (nt_lt c64) hpc, nt_wi _ n6 s (by omega) m hc.1 hb]
        rfl
      · rw [if_neg hc, if_neg]
        rintro ⟨z1, z2⟩
        refine hc ⟨?_, z2⟩
        have hm6 : m < 6 := tb_6 (nt_lt (by omega)) z1
        rw [nt_in _ n6 s (by omega) m hm6] at z1
        simp at z1
        exact z1.1
    have := FB_no (g := gS M first s) (n := nM M) (fun m hm => by unfold gS; rw [if_neg (fun z => by omega)]) 6 n6
    rw [← this]
    unfold FB
    congr 1
    funext b m
    rw [e m]
theorem Ds_c {M : Mm} (h4 : I_mn M) (h6 : I_cu M) {first : Nat} {s : Nat} (hs : s < 2 ^ nM M) (hv : nt (nv (gI M 13 4)) s = 0) {v m : Nat} {l : List Nat} (h : Ds M first s = some (v, m :: l)) : m < nM M ∧ s.testBit m = false ∧ ∃ v', Ds M first (s ||| 2 ^ m) = some (v', l) := by
  rw [Ds_r h4 h6 first hs hv] at h
  split at h
  · have := Option.some.inj h
    exact absurd (congrArg Prod.snd this) (by simp)
  · rcases FB_in (g := gS M first s) (nM M) with z | ⟨k, hk, z⟩
    · rw [h] at z; exact absurd z (by simp)
    · rw [h] at z
      unfold gS at z
      split at z
      · rename_i hc
        cases e : Ds M first (s ||| 2 ^ k) with
        | none => rw [e] at z; exact absurd z (by simp)
        | some y =>
          rw [e] at z
          have z' := Option.some.inj z
          have e1 : m :: l = k :: y.2 := congrArg Prod.snd z'
          obtain ⟨rfl, rfl⟩ := List.cons.inj e1
          exact ⟨hc.1, Cb_no hc.2, y.1, e⟩
      · exact absurd z (by simp)
