/-! THE CALL nights: draws, the class -/
def dr (s : Nat) : Nat := (1103515245 * s + 12345) % 2147483648
def dw (s : Nat) : Nat := s / 65536 % 10
theorem dr_lt (s : Nat) : dr s < 2147483648 := Nat.mod_lt _ (by decide)
theorem dw_lt (s : Nat) : dw s < 10 := Nat.mod_lt _ (by decide)
theorem nJ_32 {n : Nat} (h : n < 2 ^ 31) : (nJ n).toInt32 = nI n := by
  apply Int32.toInt_inj.mp
  rw [Int64.toInt_toInt32, nJ_int (by omega), nI_int h]
  exact Int.bmod_eq_of_le (by omega) (by omega)
theorem nJ_and (a b : Nat) : nJ a &&& nJ b = nJ (a &&& b) := by
  apply Int64.toBitVec_inj.mp
  simp [nJ, Int64.toBitVec_and, Int64.toBitVec_ofNat', BitVec.ofNat_and]
theorem nI_mod {a b : Nat} (ha : a < 2 ^ 31) (hb : b < 2 ^ 31) : nI a - nI a / nI b * nI b = nI (a % b) := by
  rw [nI_div ha hb, nI_mul, nI_sub (Nat.div_mul_le_self a b)]
  congr 1
  have := Nat.div_add_mod a b
  rw [Nat.mul_comm]
  omega
theorem cdraw_e {M : Mm} {s : Nat} (hs : s < 2147483648) (e : gJ M 31 0 = nJ s) : sp_X9_draw M = some (nI (dw (dr s)), sJ M 31 0 (nJ (dr s))) := by
  have hd := dr_lt s
  have hw := dw_lt (dr s)
  unfold sp_X9_draw
  rw [e, show (1103515245 : Int64) = nJ 1103515245 from rfl, show (12345 : Int64) = nJ 12345 from rfl, show (2147483648 : Int64) = nJ 2147483648 from rfl, nJ_mul, nJ_add, nJ_mod (by omega) (by decide), bl_e, gJ_sJ, if_pos ⟨rfl, rfl⟩]
  show some (((nJ (dr s) / 65536) - (nJ (dr s) / 65536) / 10 * 10).toInt32, _) = _
  rw [show (65536 : Int64) = nJ 65536 from rfl, show (10 : Int64) = nJ 10 from rfl, nJ_div (by omega) (by decide), nJ_mod (by omega) (by decide)]
  show some ((nJ (dw (dr s))).toInt32, _) = _
  rw [nJ_32 (by omega)]
  rfl
theorem mdraw_e {M : Mm} {s : Nat} (hs : s < 2147483648) (e : gI M 32 34 = nI s) : sp_X11_draw 10 M = some (nI (dw (dr s)), sI M 32 34 (nI (dr s))) := by
  have hd := dr_lt s
  have hw := dw_lt (dr s)
  have ea : 1103515245 * s + 12345 &&& 2147483647 = dr s := Nat.and_two_pow_sub_one_eq_mod _ 31
  unfold sp_X11_draw
  rw [e, nI_J (by omega), show (1103515245 : Int64) = nJ 1103515245 from rfl, show (12345 : Int64) = nJ 12345 from rfl, show (2147483647 : Int64) = nJ 2147483647 from rfl, nJ_mul, nJ_add, nJ_and, ea, nJ_32 (by omega), bl_e, gI_s]
  unfold nzI
  rw [if_neg (by decide), show (65536 : Int32) = nI 65536 from rfl, show (10 : Int32) = nI 10 from rfl, nI_div (by omega) (by decide), nI_mod (by omega) (by decide)]
  rfl
def gu (M : Mm) (d : Nat) : Int32 := if d < nv (gI M 36 0) then -1 else if d < nv (gI M 36 0) + nv (gI M 36 1) then 0 else 1
def lb (l : Nat) : Nat := if l.testBit 0 then 0 else if l.testBit 1 then 1 else if l.testBit 2 then 2 else if l.testBit 3 then 3 else if l.testBit 4 then 4 else 5
theorem lb_d : ∀ l, l < 64 → l ≠ 0 → lb l < 6 ∧ l.testBit (lb l) = true ∧ ∀ k, k < 6 → k < lb l → l.testBit k = false := by decide +kernel
theorem lb_n : ∀ n, n ≤ 6 → ∀ l, l < 2 ^ n → l ≠ 0 → lb l < n := by decide +kernel
def trn (M : Mm) : Nat → Nat → Nat → Nat → Nat → Int32 × Nat × Int32 × Nat
  | 0, seed, _, _, sh => (0, sh, 0, seed)
  | f + 1, seed, left, t, sh => if left = 0 then (0, sh, 0, seed) else if rg M (fa M (lb left) (nI t) (gu M (dw (dr seed)))) = true then (1, sh + 1, 0, dr seed) else if t = sT M - 1 ∨ dw (dr (dr seed)) < nv (gI M 37 t) then (0, sh + 1, 1, dr (dr seed)) else trn M f (dr (dr seed)) (nt left (2 ^ lb left)) (t + 1) (sh + 1)
theorem leastL {M : Mm} {n left : Nat} (n6 : n ≤ 6) (en : gI M 6 0 = nI n) (hl : left < 2 ^ n) (h0 : left ≠ 0) : ∀ f k, k ≤ lb left → lb left < k + f → sp_X6_leastOf_L2 (nI left) f (nI k) M = some (nI (lb left), M) := by
  have l64 : left < 64 := Nat.lt_of_lt_of_le hl (pw_64 n6)
  obtain ⟨b1, b2, b3⟩ := lb_d left l64 h0
  have b4 := lb_n n n6 left hl h0
  intro f
  induction f with
  | zero => intro k a b; omega
  | succ f ih =>
    intro k a b
    rw [sp_X6_leastOf_L2, en, if_pos ((nI_ltI (by omega) (by omega)).mpr (by omega)), isIn_e l64 (by omega), bd_s]
    by_cases hk : k = lb left
    · rw [hk, b2, if_neg (by simp)]
    · rw [b3 k (by omega) (by omega), if_pos (by simp), nI_p]
      exact ih (k + 1) (by omega) (by omega)
theorem least_e {M : Mm} {n left : Nat} (n6 : n ≤ 6) (en : gI M 6 0 = nI n) (hl : left < 2 ^ n) (h0 : left ≠ 0) : sp_X6_leastOf (nI left) M = some (nI (lb left), M) := leastL n6 en hl h0 fu 0 (by omega) (by have := lb_n n n6 left hl h0; show _ < _ + 1000; omega)
theorem cgust_e {i : Nat} {M Mx : Mm} (h : Inv i M) (sm : Sm M Mx) {s : Nat} (hs : s < 2147483648) (e : gJ Mx 31 0 = nJ s) : sp_X9_drawGust Mx = some (gu M (dw (dr s)), sJ Mx 31 0 (nJ (dr s))) := by
  have hw := dw_lt (dr s)
  obtain ⟨p1, p2⟩ := h.2.1.2.2.2.2.2.2.2.2.2.1 0 (by omega)
  obtain ⟨q1, q2⟩ := h.2.1.2.2.2.2.2.2.2.2.2.1 1 (by omega)
  have s0 : gI Mx 4 0 = nI (nv (gI M 36 0)) := by rw [sm 4 0 (by unfold scr; omega), p1]; exact p2.1
  have s1 : gI Mx 4 1 = nI (nv (gI M 36 1)) := by rw [sm 4 1 (by unfold scr; omega), q1]; exact q2.1
  have l0 := p2.2
  have l1 := q2.2
  unfold sp_X9_drawGust sp_X7_gustTenths gu
  rw [cdraw_e hs e, bd_s, show (-1 : Int32) + 1 = nI 0 from rfl, show (0 : Int32) + 1 = nI 1 from rfl, at_n (show 0 < 3 by omega), bd_s, bd_s, gI_sJ, s0]
  by_cases y : dw (dr s) < nv (gI M 36 0)
  · rw [if_pos ((nI_ltI (by omega) (by omega)).mpr y), if_pos y]
  · rw [if_neg (by rw [nI_ltI (by omega) (by omega)]; exact y), if_neg y, at_n (show 0 < 3 by omega), bd_s, bd_s, at_n (show 1 < 3 by omega), bd_s, bd_s, gI_sJ, gI_sJ, s0, s1, nI_add]
    by_cases z : dw (dr s) < nv (gI M 36 0) + nv (gI M 36 1)
    · rw [if_pos ((nI_ltI (by omega) (by omega)).mpr z), if_pos z]
    · rw [if_neg (by rw [nI_ltI (by omega) (by omega)]; exact z), if_neg z]
