/-! THE BEST ROW, SET BY SET -/
theorem pc_0 : ∀ c, c < 64 → pc c = 0 → c = 0 := by decide +kernel
theorem pc_t : ∀ c, c < 64 → ∀ m, m < 6 → c.testBit m = true → pc (nt c (2 ^ m)) + 1 = pc c := by decide +kernel
theorem pc_6 : ∀ c, c < 64 → pc c ≤ 6 := by decide +kernel
theorem tb_6 {c m : Nat} (hc : c < 64) (h : c.testBit m = true) : m < 6 := by
  rcases Nat.lt_or_ge m 6 with y | y
  · exact y
  · exfalso
    have : c < 2 ^ m := Nat.lt_of_lt_of_le hc (Nat.pow_le_pow_right (n := 2) (by decide) y)
    rw [Nat.testBit_lt_two_pow this] at h
    exact absurd h (by simp)
theorem nt_lt {a b : Nat} (h : a < 64) : nt a b < 64 := Nat.lt_of_le_of_lt (nt_le' a b) h
theorem Bst_f (C : Nat → Nat → Bool) (tkf H : Nat → Nat) : ∀ f c ov t, c < 64 → pc c ≤ f → Bst C tkf H (f + 1) c ov t = Bst C tkf H f c ov t
  | 0, c, ov, t, hc, hp => by
    have : c = 0 := pc_0 c hc (by omega)
    show (if c = 0 then _ else _) = some (0, [])
    rw [if_pos this]
  | f + 1, c, ov, t, hc, hp => by
    rw [Bst, Bst]
    by_cases h : c = 0
    · rw [if_pos h, if_pos h]
    · rw [if_neg h, if_neg h]
      congr 1
      funext b m
      by_cases hb : c.testBit m = true
      · have := pc_t c hc m (tb_6 hc hb) hb
        rw [Bst_f C tkf H f _ _ _ (nt_lt hc) (by omega)]
      · rw [if_neg (fun z => hb z.1), if_neg (fun z => hb z.1)]
theorem Bst_6 (C : Nat → Nat → Bool) (tkf H : Nat → Nat) {c ov t : Nat} (hc : c < 64) (hp : pc c ≤ 5) : Bst C tkf H 5 c ov t = Bst C tkf H 6 c ov t := (Bst_f C tkf H 5 c ov t hc hp).symm
/-- ten times the values: the same rows -/
def x10 (b : Option (Nat × List Nat)) : Option (Nat × List Nat) := b.map (fun x => (10 * x.1, x.2))
theorem cb_10 (b c : Option (Nat × List Nat)) : cb (x10 b) (x10 c) = x10 (cb b c) := by
  cases c with
  | none => rw [cb_n]; exact cb_n _
  | some c =>
    cases b with
    | none => rw [n_cb]; exact n_cb _
    | some b =>
      unfold cb x10
      simp only [Option.map_some]
      by_cases h : b.1 < c.1
      · rw [if_pos (by omega), if_pos h]; rfl
      · rw [if_neg (by omega), if_neg h]; rfl
theorem fold_10 {g g' : Nat → Option (Nat × List Nat)} (h : ∀ m, g' m = x10 (g m)) : ∀ (ms : List Nat) b, ms.foldl (fun b m => cb b (g' m)) (x10 b) = x10 (ms.foldl (fun b m => cb b (g m)) b)
  | [], _ => rfl
  | m :: ms, b => by
    rw [List.foldl_cons, List.foldl_cons, h m, cb_10, fold_10 h ms]
theorem Bst_10 (C : Nat → Nat → Bool) (tkf : Nat → Nat) {H H' : Nat → Nat} (hH : ∀ t, H' t = 10 * H t) : ∀ f c ov t, Bst C tkf H' f c ov t = x10 (Bst C tkf H f c ov t)
  | 0, _, _, _ => rfl
  | f + 1, c, ov, t => by
    rw [Bst, Bst]
    by_cases h : c = 0
    · rw [if_pos h, if_pos h]; rfl
    · rw [if_neg h, if_neg h]
      refine fold_10 (g := fun m => if c.testBit m = true ∧ C ov m = true then (Bst C tkf H f (nt c (2 ^ m)) (ov ||| 2 ^ m) (t + tkf m)).map (fun x => (H (t + tkf m) + x.1, m :: x.2)) else none) (fun m => ?_) (List.range 6) none
      by_cases y : c.testBit m = true ∧ C ov m = true
      · rw [if_pos y, if_pos y, Bst_10 C tkf hH f, hH]
        cases Bst C tkf H f (nt c (2 ^ m)) (ov ||| 2 ^ m) (t + tkf m) with
        | none => rfl
        | some x =>
          show some (10 * H (t + tkf m) + 10 * x.1, m :: x.2) = some (10 * (H (t + tkf m) + x.1), m :: x.2)
          rw [Nat.mul_add]
      · rw [if_neg y, if_neg y]; rfl
theorem Hh_10 (M : Mm) (first t : Nat) (hs : sT M ≤ 10) : Hh M first 10000000000 t = 10 * Hh M first 1000000000 t := by
  unfold Hh
  refine hz_10 M t (sT M - first) first 1000000000 ⟨10 ^ (9 - (sT M - first - 1)), ?_⟩
  rw [← Nat.pow_add, show sT M - first - 1 + (9 - (sT M - first - 1)) = 9 by omega]
/-- what is chosen is one of what was to choose -/
theorem cb_in {b c r : Option (Nat × List Nat)} (h : cb b c = r) : r = b ∨ r = c := by
  cases c with
  | none => rw [cb_n] at h; exact Or.inl h.symm
  | some c =>
    cases b with
    | none => rw [n_cb] at h; exact Or.inr h.symm
    | some b =>
      unfold cb at h
      dsimp only at h
      split at h
      · exact Or.inr h.symm
      · exact Or.inl h.symm
/-- the men of a set, so far -/
def FB (g : Nat → Option (Nat × List Nat)) (k : Nat) : Option (Nat × List Nat) := (List.range k).foldl (fun b m => cb b (g m)) none
theorem FB_s (g : Nat → Option (Nat × List Nat)) (k : Nat) : FB g (k + 1) = cb (FB g k) (g k) := by
  unfold FB
  rw [List.range_succ, List.foldl_append]
  rfl
theorem FB_in {g : Nat → Option (Nat × List Nat)} : ∀ k, FB g k = none ∨ ∃ m, m < k ∧ FB g k = g m
  | 0 => Or.inl rfl
  | k + 1 => by
    rw [FB_s]
    rcases cb_in (rfl : cb (FB g k) (g k) = cb (FB g k) (g k)) with e | e
    · rw [e]
      rcases FB_in (g := g) k with a | ⟨m, a, b⟩
      · exact Or.inl a
      · exact Or.inr ⟨m, by omega, b⟩
    · exact Or.inr ⟨k, by omega, e⟩
theorem FB_no {g : Nat → Option (Nat × List Nat)} {n : Nat} (h : ∀ m, n ≤ m → g m = none) : ∀ k, n ≤ k → FB g k = FB g n
  | 0, hk => by rw [show n = 0 by omega]
  | k + 1, hk => by
    by_cases y : n = k + 1
    · rw [y]
    · rw [FB_s, h k (by omega), cb_n, FB_no h k (by omega)]
