/-! THE ROW OF MEN that the reference runs through: the next one -/
def d1 (a : Nat → Nat) : Nat → Nat
  | 0 => 0
  | i + 1 => if a (i + 1) < a i then d1 a i else i + 1
def d2 (a : Nat → Nat) (x : Nat) : Nat → Nat
  | 0 => 0
  | j + 1 => if a (j + 1) < x then d2 a x j else j + 1
def sw (a : Nat → Nat) (i j : Nat) : Nat → Nat := fun k => if k = j then a i else if k = i then a j else a k
def rv : Nat → (Nat → Nat) → Nat → Nat → Nat → Nat
  | 0, a, _, _ => a
  | f + 1, a, lo, hi => if lo < hi then rv f (sw a lo hi) (lo + 1) (hi - 1) else a
def Ro (M : Mm) (a : Nat → Nat) (n : Nat) : Prop := gI M 32 28 = nI n ∧ ∀ k, k < n → gI M 43 k = nI (a k)
/-- only the row changes -/
def R43 (M M' : Mm) : Prop := ∀ c k, c ≠ 43 → gI M' c k = gI M c k
theorem d1_le (a : Nat → Nat) : ∀ i, d1 a i ≤ i
  | 0 => Nat.le_refl _
  | i + 1 => by
    have := d1_le a i
    rw [d1]; split <;> omega
theorem d2_le (a : Nat → Nat) (x : Nat) : ∀ i, d2 a x i ≤ i
  | 0 => Nat.le_refl _
  | i + 1 => by
    have := d2_le a x i
    rw [d2]; split <;> omega
theorem no1L {M : Mm} {a : Nat → Nat} {n : Nat} (h : Ro M a n) (n6 : n ≤ 6) (ha : ∀ k, k < n → a k < 6) (K : Int32 → Option (Int32 × Mm)) : ∀ i f x, i < n → i < f → x = nI i + (-1) → sp_X11_nextOrder_L7 K M f x = K (nI (d1 a i) + (-1)) := by
  intro i
  induction i with
  | zero =>
    intro f x hi hf ex
    obtain ⟨f, rfl⟩ : ∃ g, f = g + 1 := ⟨f - 1, by omega⟩
    rw [sp_X11_nextOrder_L7, ex, if_pos (by decide)]
    rfl
  | succ i ih =>
    intro f x hi hf ex
    obtain ⟨f, rfl⟩ : ∃ g, f = g + 1 := ⟨f - 1, by omega⟩
    have h1 := ha i (by omega)
    have h2 := ha (i + 1) hi
    rw [sp_X11_nextOrder_L7, ex, nI_m1, if_neg (nI_pos (by omega)), rdI_n (show i < 6 by omega), nI_p, rdI_n (show i + 1 < 6 by omega), h.2 i (by omega), h.2 (i + 1) hi, d1]
    by_cases y : a (i + 1) < a i
    · rw [if_pos ((nI_ltI (by omega) (by omega)).mpr y), if_pos y]
      exact ih f _ (by omega) (by omega) rfl
    · rw [if_neg (by rw [nI_ltI (by omega) (by omega)]; exact y), if_neg y, nI_m1]
theorem no2L {M : Mm} {a : Nat → Nat} {n v : Nat} (h : Ro M a n) (n6 : n ≤ 6) (ha : ∀ k, k < n → a k < 6) (hv : v < n) (K : Int32 → Option (Int32 × Mm)) : ∀ j f, j < n → j < f → v ≤ j → sp_X11_nextOrder_L47 M (nI v) K f (nI j) = K (nI (d2 a (a v) j)) := by
  intro j
  induction j with
  | zero =>
    intro f hj hf hvj
    obtain ⟨f, rfl⟩ : ∃ g, f = g + 1 := ⟨f - 1, by omega⟩
    have h1 := ha v hv
    have e : v = 0 := by omega
    subst e
    rw [sp_X11_nextOrder_L47, rdI_n (show 0 < 6 by omega), rdI_n (show 0 < 6 by omega), if_neg (by rw [h.2 0 hj, nI_ltI (by omega) (by omega)]; omega)]
    rfl
  | succ j ih =>
    intro f hj hf hvj
    obtain ⟨f, rfl⟩ : ∃ g, f = g + 1 := ⟨f - 1, by omega⟩
    have h1 := ha v hv
    have h2 := ha (j + 1) hj
    rw [sp_X11_nextOrder_L47, rdI_n (show j + 1 < 6 by omega), rdI_n (show v < 6 by omega), h.2 (j + 1) hj, h.2 v hv, d2]
    by_cases y : a (j + 1) < a v
    · have : v ≠ j + 1 := fun z => by rw [z] at y; omega
      rw [if_pos ((nI_ltI (by omega) (by omega)).mpr y), if_pos y, nI_m1]
      exact ih f (by omega) (by omega) (by omega)
    · rw [if_neg (by rw [nI_ltI (by omega) (by omega)]; exact y), if_neg y]
theorem Ro.sw' {M : Mm} {a : Nat → Nat} {n i j : Nat} (h : Ro M a n) (hi : i < n) (hj : j < n) : Ro (sI (sI M 43 i (nI (a j))) 43 j (nI (a i))) (sw a i j) n := by
  refine ⟨by rw [gI_o (by omega), gI_o (by omega)]; exact h.1, fun k hk => ?_⟩
  unfold sw
  by_cases y : k = j
  · rw [y, gI_s, if_pos rfl]
  · rw [gI_o (by omega), if_neg y]
    by_cases z : k = i
    · rw [z, gI_s, if_pos rfl]
    · rw [gI_o (by omega), if_neg z]; exact h.2 k hk
theorem no3L {n : Nat} (n6 : n ≤ 6) : ∀ f M a lo hi, Ro M a n → hi < n → lo ≤ n → hi + 1 ≤ lo + f ∧ 1 ≤ f → ∃ M', sp_X11_nextOrder_L107 f (nI hi) (nI lo) M = some (1, M') ∧ Ro M' (rv f a lo hi) n ∧ R43 M M' := by
  intro f
  induction f with
  | zero => intro M a lo hi h h1 h2 h3; exact absurd h3.2 (by omega)
  | succ f ih =>
    intro M a lo hi h h1 h2 h3
    rw [sp_X11_nextOrder_L107, rv]
    by_cases y : lo < hi
    · rw [if_pos ((nI_ltI (by omega) (by omega)).mpr y), if_pos y, rdI_n (show lo < 6 by omega), rdI_n (show hi < 6 by omega), wrI_n (show lo < 6 by omega), wrI_n (show hi < 6 by omega), nI_p, show nI hi + (-1) = nI (hi - 1) by rw [show nI hi = nI (hi - 1 + 1) by congr 1; omega, nI_m1], h.2 lo (by omega), h.2 hi h1]
      obtain ⟨M', e1, e2, e3⟩ := ih _ _ (lo + 1) (hi - 1) (h.sw' (i := lo) (j := hi) (by omega) h1) (by omega) (by omega) (by omega)
      exact ⟨M', e1, e2, fun c k hc => by rw [e3 c k hc, gI_o (by omega), gI_o (by omega)]⟩
    · rw [if_neg (by rw [nI_ltI (by omega) (by omega)]; exact y), if_neg y]
      exact ⟨M, rfl, h, fun _ _ _ => rfl⟩
/-- the next row, if there is one -/
def nx (a : Nat → Nat) (n : Nat) : Option (Nat → Nat) := if d1 a (n - 1) = 0 then none else some (rv fu (sw a (d1 a (n - 1) - 1) (d2 a (a (d1 a (n - 1) - 1)) (n - 1))) (d1 a (n - 1)) (n - 1))
theorem next_e {M : Mm} {a : Nat → Nat} {n : Nat} (h : Ro M a n) (n6 : n ≤ 6) (ha : ∀ k, k < n → a k < 6) : (nx a n = none ∧ sp_X11_nextOrder M = some (0, M)) ∨ ∃ b M', nx a n = some b ∧ sp_X11_nextOrder M = some (1, M') ∧ Ro M' b n ∧ R43 M M' := by
  unfold nx sp_X11_nextOrder
  rw [bl_e, jn_e, h.1]
  by_cases n0 : n = 0
  · subst n0
    left
    refine ⟨if_pos rfl, ?_⟩
    show sp_X11_nextOrder_L7 _ M (999 + 1) (-2) = _
    rw [sp_X11_nextOrder_L7, if_pos (by decide), if_pos (by decide)]
  · have ex : nI n - 2 = nI (n - 1) + (-1) := by
      rw [show nI n = nI (n - 1) + 1 by rw [nI_p]; congr 1; omega, Int32.sub_eq_add_neg, Int32.add_assoc]; rfl
    have hl := d1_le a (n - 1)
    rw [no1L h n6 ha _ (n - 1) fu _ (by omega) (by show _ < 1000; omega) ex]
    by_cases v0 : d1 a (n - 1) = 0
    · left
      rw [v0]
      exact ⟨if_pos rfl, if_pos (by decide)⟩
    · right
      generalize ev : d1 a (n - 1) = w at *
      obtain ⟨v, rfl⟩ : ∃ v, w = v + 1 := ⟨w - 1, by omega⟩
      rw [if_neg v0, nI_m1, if_neg (nI_pos (by omega)), bl_e, jn_e, show (1 : Int32) = nI 1 from rfl, nI_sub (by omega), show v + 1 - 1 = v from rfl]
      rw [no2L h n6 ha (v := v) (by omega) _ (n - 1) fu (by omega) (by show _ < 1000; omega) (by omega)]
      have h2 := d2_le a (a v) (n - 1)
      rw [rdI_n (show v < 6 by omega), rdI_n (show d2 a (a v) (n - 1) < 6 by omega), wrI_n (show v < 6 by omega), wrI_n (show d2 a (a v) (n - 1) < 6 by omega), bl_e, bl_e, gI_o (by omega), gI_o (by omega), h.1, h.2 v (by omega), h.2 _ (by omega), nI_sub (by omega), nI_add]
      obtain ⟨M', e1, e2, e3⟩ := no3L n6 fu _ _ (v + 1) (n - 1) (h.sw' (i := v) (j := d2 a (a v) (n - 1)) (by omega) (by omega)) (by omega) (by omega) ⟨by show _ ≤ _ + 1000; omega, by decide⟩
      exact ⟨_, M', rfl, e1, e2, fun c k hc => by rw [e3 c k hc, gI_o (by omega), gI_o (by omega)]⟩
