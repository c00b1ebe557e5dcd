/-! PURE TOOLS: the spec language, numbers, memory -/
theorem bd_s {α β : Type} (a : α) (M : Mm) (k : α → Mm → Option β) : bd (some (a, M)) k = k a M := rfl
theorem bd_e {α β : Type} {o : Option (α × Mm)} {a : α} {M : Mm} (h : o = some (a, M)) (k : α → Mm → Option β) : bd o k = k a M := by rw [h]; rfl
theorem bl_e {α β : Type} (v : α) (k : α → β) : bl v k = k v := rfl
theorem jn_e {α β : Type} (k : α) (f : α → β) : jn k f = f k := rfl
theorem bd_ite {α β : Type} {c : Prop} [Decidable c] (a b : Option (α × Mm)) (k : α → Mm → Option β) : bd (if c then a else b) k = if c then bd a k else bd b k := by by_cases h : c <;> simp [h]
theorem gI_sI (M : Mm) (c k c' k' : Nat) (v : Int32) : gI (sI M c k v) c' k' = if c' = c ∧ k' = k then v else gI M c' k' := rfl
theorem gJ_sI (M : Mm) (c k c' k' : Nat) (v : Int32) : gJ (sI M c k v) c' k' = gJ M c' k' := rfl
theorem gI_sJ (M : Mm) (c k c' k' : Nat) (v : Int64) : gI (sJ M c k v) c' k' = gI M c' k' := rfl
theorem gJ_sJ (M : Mm) (c k c' k' : Nat) (v : Int64) : gJ (sJ M c k v) c' k' = if c' = c ∧ k' = k then v else gJ M c' k' := rfl
theorem ln_le (c : Nat) : ln c ≤ 64 := by
  unfold ln
  rcases Nat.lt_or_ge c 52 with h | h
  · exact (by decide +kernel : ∀ c, c < 52 → lnL.getD c 0 ≤ 64) c h
  · rw [List.getD_eq_getElem?_getD, List.getElem?_eq_none (by exact h)]; exact Nat.zero_le _
theorem nI_int {n : Nat} (h : n < 2 ^ 31) : (nI n).toInt = (n : Int) := nI_toInt h
theorem ix_n {n : Nat} (h : n < 2 ^ 31) : ix (nI n) = n := nI_clamp h
theorem lt_31 {j c : Nat} (h : j < ln c) : j < 2 ^ 31 := Nat.lt_of_lt_of_le h (Nat.le_trans (ln_le c) (by decide))
theorem rdI_n {β : Type} {M : Mm} {c j : Nat} (h : j < ln c) (k : Int32 → Option β) : rdI M c (nI j) k = k (gI M c j) := by
  have h1 := lt_31 h
  unfold rdI
  rw [if_pos ⟨by rw [nI_int h1]; omega, by rw [nI_int h1]; omega⟩, ix_n h1]
theorem rdJ_n {β : Type} {M : Mm} {c j : Nat} (h : j < ln c) (k : Int64 → Option β) : rdJ M c (nI j) k = k (gJ M c j) := by
  have h1 := lt_31 h
  unfold rdJ
  rw [if_pos ⟨by rw [nI_int h1]; omega, by rw [nI_int h1]; omega⟩, ix_n h1]
theorem wrI_n {β : Type} {M : Mm} {c j : Nat} {v : Int32} (h : j < ln c) (k : Mm → Option β) : wrI M c (nI j) v k = k (sI M c j v) := by
  have h1 := lt_31 h
  unfold wrI
  rw [if_pos ⟨by rw [nI_int h1]; omega, by rw [nI_int h1]; omega⟩, ix_n h1]
theorem wrJ_n {β : Type} {M : Mm} {c j : Nat} {v : Int64} (h : j < ln c) (k : Mm → Option β) : wrJ M c (nI j) v k = k (sJ M c j v) := by
  have h1 := lt_31 h
  unfold wrJ
  rw [if_pos ⟨by rw [nI_int h1]; omega, by rw [nI_int h1]; omega⟩, ix_n h1]
theorem nI_mul (a b : Nat) : nI a * nI b = nI (a * b) := by
  simp [nI, ← Int32.ofNat_mul]
theorem nI_sub {a b : Nat} (h : b ≤ a) : nI a - nI b = nI (a - b) := by
  have e : nI a = nI (a - b) + nI b := by rw [nI_add]; congr 1; omega
  rw [e, Int32.add_sub_cancel]
theorem nI_30 (r : Nat) : (3 : Int32) * nI r = nI (3 * r) := nI_mul 3 r
theorem nI_31 (r : Nat) : (3 : Int32) * nI r + 1 = nI (3 * r + 1) := by rw [nI_30]; exact nI_add _ 1
theorem nI_32 (r : Nat) : (3 : Int32) * nI r + 2 = nI (3 * r + 2) := by rw [nI_30]; exact nI_add _ 2
theorem nI_20 (r : Nat) : (2 : Int32) * nI r = nI (2 * r) := nI_mul 2 r
theorem nI_21 (r : Nat) : (2 : Int32) * nI r + 1 = nI (2 * r + 1) := by rw [nI_20]; exact nI_add _ 1
theorem nI_p (r : Nat) : nI r + 1 = nI (r + 1) := nI_add _ 1
theorem nI_m1 (r : Nat) : nI (r + 1) + (-1) = nI r := by
  have : nI (r + 1) + (-1) = nI (r + 1) - 1 := by rw [Int32.sub_eq_add_neg]
  rw [this]; exact nI_pred r
theorem nI_lti {a b : Nat} (ha : a < 2 ^ 31) (hb : b < 2 ^ 31) : (nI a < nI b) = (a < b) := propext (nI_ltI ha hb)
theorem nI_eqi {a b : Nat} (ha : a < 2 ^ 31) (hb : b < 2 ^ 31) : (nI a = nI b) = (a = b) := propext (nI_eq ha hb)
theorem nI_nl0 {a : Nat} (ha : a < 2 ^ 31) : (nI a < 0) = False := propext ⟨fun h => nI_pos ha h, False.elim⟩
/-- a number out of a range -/
theorem nI_of_rng {p : Int32} {a b : Nat} (h1 : (a : Int) ≤ p.toInt) (h2 : p.toInt ≤ (b : Int)) (hb : b < 2 ^ 31) : ∃ j, a ≤ j ∧ j ≤ b ∧ p = nI j := by
  refine ⟨p.toInt.toNat, by omega, by omega, ?_⟩
  apply Int32.toInt_inj.mp
  rw [nI_int (by omega)]
  omega
theorem out_e (p a b : Int32) (M : Mm) : sp_X10_isOutside p a b M = some (if a.toInt ≤ p.toInt ∧ p.toInt ≤ b.toInt then 0 else 1, M) := by
  unfold sp_X10_isOutside
  simp only [Int32.lt_iff_toInt_lt]
  by_cases h1 : p.toInt < a.toInt
  · rw [if_pos h1, if_neg (by omega)]
  · rw [if_neg h1]
    by_cases h2 : b.toInt < p.toInt
    · rw [if_pos h2, if_neg (by omega)]
    · rw [if_neg h2, if_pos (by omega)]
theorem in_e (p : Int32) (a b : Int64) (M : Mm) : sp_X11_in p.toInt64 a b M = some (if a.toInt ≤ p.toInt ∧ p.toInt ≤ b.toInt then 1 else 0, M) := by
  unfold sp_X11_in
  simp only [Int64.lt_iff_toInt_lt, Int32.toInt_toInt64]
  by_cases h1 : p.toInt < a.toInt
  · rw [if_pos h1, if_neg (by omega)]
  · rw [if_neg h1]
    by_cases h2 : b.toInt < p.toInt
    · rw [if_pos h2, if_neg (by omega)]
    · rw [if_neg h2, if_pos (by omega)]
theorem at_n {M : Mm} {c j : Nat} (h : j < ln c) : sp_X10_at c (nI j) M = some (gI M c j, M) := by
  have h1 := lt_31 h
  have h2 : ln c < 2 ^ 31 := Nat.lt_of_le_of_lt (ln_le c) (by decide)
  unfold sp_X10_at
  rw [if_neg (nI_pos h1), if_pos ((nI_ltI h1 h2).mpr h), rdI_n h]
theorem atJ_n {M : Mm} {c j : Nat} (h : j < ln c) : sp_X10_at_ c (nI j) M = some (gJ M c j, M) := by
  have h1 := lt_31 h
  have h2 : ln c < 2 ^ 31 := Nat.lt_of_le_of_lt (ln_le c) (by decide)
  unfold sp_X10_at_
  rw [if_neg (nI_pos h1), if_pos ((nI_ltI h1 h2).mpr h), rdJ_n h]
theorem put_n {M : Mm} {c j : Nat} {v : Int32} (h : j < ln c) : sp_X10_put c (nI j) v M = some ((), sI M c j v) := by
  have h1 := lt_31 h
  have h2 : ln c < 2 ^ 31 := Nat.lt_of_le_of_lt (ln_le c) (by decide)
  unfold sp_X10_put
  rw [if_neg (nI_pos h1), if_pos ((nI_ltI h1 h2).mpr h), wrI_n h]
theorem putJ_n {M : Mm} {c j : Nat} {v : Int64} (h : j < ln c) : sp_X10_put_ c (nI j) v M = some ((), sJ M c j v) := by
  have h1 := lt_31 h
  have h2 : ln c < 2 ^ 31 := Nat.lt_of_le_of_lt (ln_le c) (by decide)
  unfold sp_X10_put_
  rw [if_neg (nI_pos h1), if_pos ((nI_ltI h1 h2).mpr h), wrJ_n h]
theorem ite01 {c : Prop} [Decidable c] : ((if c then (0 : Int32) else 1) = 0) = c := by
  by_cases h : c <;> simp [h]
theorem ite10 {c : Prop} [Decidable c] : ((if c then (1 : Int32) else 0) = 0) = ¬ c := by
  by_cases h : c <;> simp [h]
theorem zb_ite {β : Type} {c : Prop} [Decidable c] (k : Option β) : zb (if c then (1 : Int32) else 0) k = k := by
  by_cases h : c <;> simp [h, zb]
/-! bits: sets of at most six -/
def nt (a b : Nat) : Nat := a &&& (63 ^^^ b)
theorem b_one : ∀ k, k < 6 → (1 : Int32) <<< (nI k &&& 31) = nI (2 ^ k) := by decide +kernel
theorem b_bit : ∀ a, a < 64 → ∀ k, k < 6 → (nI a >>> (nI k &&& 31)) &&& 1 = if a.testBit k then 1 else 0 := by decide +kernel
theorem b_or : ∀ a, a < 64 → ∀ b, b < 64 → nI a ||| nI b = nI (a ||| b) := by decide +kernel
theorem b_nt : ∀ a, a < 64 → ∀ b, b < 64 → nI a &&& (nI b ^^^ (-1)) = nI (nt a b) := by decide +kernel
theorem b_all : ∀ k, k ≤ 6 → (1 : Int32) <<< (nI k &&& 31) - 1 = nI (2 ^ k - 1) := by decide +kernel
