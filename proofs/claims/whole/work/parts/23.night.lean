/-! THE CALL night -/
theorem dig0 {M : Mm} {k : Nat} (hk : k < 22) : sp_X5_digitAt (nI k) M = some (gI M 2 k - 48, M) := by
  unfold sp_X5_digitAt
  rw [at_n (show k < 22 from hk), bd_s]
theorem fillL {c0 : Nat} {v : Int32} : ∀ f k M, k ≤ ln c0 → ln c0 < k + f → ∃ M', sp_J7_fill_53178_L5 (nI (ln c0)) c0 v f (nI k) M = some ((), M') ∧ ∀ c j, gI M' c j = if c = c0 ∧ k ≤ j ∧ j < ln c0 then v else gI M c j := by
  have hl := ln_le c0
  intro f
  induction f with
  | zero => intro k M h1 h2; omega
  | succ f ih =>
    intro k M h1 h2
    rw [sp_J7_fill_53178_L5]
    by_cases hk : k < ln c0
    · rw [if_pos ((nI_ltI (by omega) (by omega)).mpr hk), wrI_n hk, nI_p]
      obtain ⟨M', e1, e2⟩ := ih (k + 1) (sI M c0 k v) (by omega) (by omega)
      refine ⟨M', e1, fun c j => ?_⟩
      rw [e2]
      by_cases y : c = c0 ∧ j = k
      · rw [y.1, y.2, if_neg (by omega), if_pos ⟨rfl, by omega, by omega⟩, gI_s]
      · rw [gI_o y]
        by_cases z : c = c0 ∧ k ≤ j ∧ j < ln c0
        · rw [if_pos z, if_pos (by omega)]
        · rw [if_neg z, if_neg (by omega)]
    · rw [if_neg (by rw [nI_ltI (by omega) (by omega)]; exact hk)]
      exact ⟨M, rfl, fun c j => by rw [if_neg (by omega)]⟩
theorem fill_e {c0 : Nat} {v : Int32} (M : Mm) : ∃ M', sp_J7_fill_53178 c0 v M = some ((), M') ∧ ∀ c j, gI M' c j = if c = c0 ∧ j < ln c0 then v else gI M c j := by
  unfold sp_J7_fill_53178
  rw [bl_e]
  obtain ⟨M', e1, e2⟩ := fillL (c0 := c0) (v := v) fu 0 M (by omega) (by have := ln_le c0; show _ < _ + 1000; omega)
  refine ⟨M', e1, fun c j => ?_⟩
  rw [e2]
  by_cases z : c = c0 ∧ j < ln c0
  · rw [if_pos z, if_pos (by omega)]
  · rw [if_neg z, if_neg (by omega)]
theorem rdL {st : Nat} (hs : st ≤ 10) : ∀ f k M, k ≤ st → st < k + f → gI M 3 1 = nI st → ∃ M', sp_X7_read_L72 f (nI k) M = some ((), M') ∧ ∀ c j, gI M' c j = if c = 5 ∧ k ≤ j ∧ j < st then gI M 2 (9 + j) - 48 else gI M c j := by
  intro f
  induction f with
  | zero => intro k M h1 h2; omega
  | succ f ih =>
    intro k M h1 h2 h3
    rw [sp_X7_read_L72, h3]
    by_cases hk : k < st
    · rw [if_pos ((nI_ltI (by omega) (by omega)).mpr hk), show (9 : Int32) = nI 9 from rfl, nI_add, dig0 (by omega), bd_s, put_n (show k < 10 by omega), bd_s, nI_p]
      obtain ⟨M', e1, e2⟩ := ih (k + 1) (sI M 5 k (gI M 2 (9 + k) - 48)) (by omega) (by omega) (by rw [gI_o (by omega)]; exact h3)
      refine ⟨M', e1, fun c j => ?_⟩
      rw [e2, gI_o (c := 5) (c' := 2) (by omega)]
      by_cases y : c = 5 ∧ j = k
      · rw [y.1, y.2, if_neg (by omega), if_pos ⟨rfl, by omega, by omega⟩, gI_s]
      · rw [gI_o y]
        by_cases z : c = 5 ∧ k ≤ j ∧ j < st
        · rw [if_pos z, if_pos (by omega)]
        · rw [if_neg z, if_neg (by omega)]
    · rw [if_neg (by rw [nI_ltI (by omega) (by omega)]; exact hk)]
      exact ⟨M, rfl, fun c j => by rw [if_neg (by omega)]⟩
theorem rdG {K : Mm → Option (Unit × Mm)} {f k : Nat} {M : Mm} (hk : k < 3) : sp_X7_read_L29 K (f + 1) (nI k) M = sp_X7_read_L29 K f (nI (k + 1)) (sI M 4 k (gI M 2 (5 + k) - 48)) := by
  rw [sp_X7_read_L29, if_pos (c_lt 3 3 rfl hk (by decide)), show (5 : Int32) = nI 5 from rfl, nI_add, dig0 (by omega), bd_s, put_n (show k < 3 by omega), bd_s, nI_p]
theorem rdGx {K : Mm → Option (Unit × Mm)} {f : Nat} {M : Mm} : sp_X7_read_L29 K (f + 1) (nI 3) M = K M := by
  rw [sp_X7_read_L29, if_neg (by decide)]
def NC (M M1 : Mm) (n : Nat) : Prop := (∀ c j, ¬ ((c = 0 ∧ j = 10) ∨ (c = 1 ∧ j = 1) ∨ (3 ≤ c ∧ c ≤ 6) ∨ c = 9 ∨ c = 12 ∨ c = 13 ∨ c = 15) → gI M1 c j = gI M c j) ∧ gI M1 0 10 = gI M 0 10 + 1 ∧ gI M1 1 1 = 0 ∧
  gI M1 3 0 = 10 * (gI M 2 0 - 48) + (gI M 2 1 - 48) ∧ gI M1 3 2 = gI M 2 3 - 48 ∧ gI M1 3 1 = nI (n - 9) ∧ (∀ j, j < 3 → gI M1 4 j = gI M 2 (5 + j) - 48) ∧ (∀ j, j < n - 9 → gI M1 5 j = gI M 2 (9 + j) - 48) ∧ gI M1 6 0 = 0 ∧ gI M1 9 0 = 0 ∧ (∀ j, j < 6 → gI M1 12 j = 0) ∧ (∀ j, j < 8 → gI M1 13 j = if j = 5 then 60 else 0) ∧ (∀ j, j < 6 → gI M1 15 j = 0)
theorem read_e {M : Mm} {n : Nat} (en : gI M 1 1 = nI n) (h9 : 9 ≤ n) (h19 : n ≤ 19) : ∃ M1, sp_X7_read M = some ((), M1) ∧ ∀ c j, gI M1 c j = if c = 5 ∧ j < n - 9 then gI M 2 (9 + j) - 48 else if c = 3 ∧ j = 1 then nI (n - 9) else if c = 4 ∧ j < 3 then gI M 2 (5 + j) - 48 else if c = 3 ∧ j = 2 then gI M 2 3 - 48 else if c = 3 ∧ j = 0 then 10 * (gI M 2 0 - 48) + (gI M 2 1 - 48) else gI M c j := by
  unfold sp_X7_read
  rw [show (0 : Int32) = nI 0 from rfl, dig0 (by omega), bd_s, show (1 : Int32) = nI 1 from rfl, dig0 (by omega), bd_s, bl_e, show (3 : Int32) = nI 3 from rfl, dig0 (by omega), bd_s, bl_e, jn_e]
  generalize eA : sI (sI M 3 0 ((10 : Int32) * (gI M 2 0 - 48) + (gI M 2 1 - 48))) 3 2 (gI (sI M 3 0 ((10 : Int32) * (gI M 2 0 - 48) + (gI M 2 1 - 48))) 2 3 - 48) = A
  show ∃ M1, sp_X7_read_L29 _ (996 + 1 + 1 + 1 + 1) (nI 0) A = _ ∧ _
  rw [rdG (by omega), rdG (by omega), rdG (by omega), rdGx]
  simp only [bl_e]
  generalize eB : sI (sI (sI A 4 0 (gI A 2 (5 + 0) - 48)) 4 (0 + 1) (gI (sI A 4 0 (gI A 2 (5 + 0) - 48)) 2 (5 + (0 + 1)) - 48)) 4 (0 + 1 + 1) (gI (sI (sI A 4 0 (gI A 2 (5 + 0) - 48)) 4 (0 + 1) (gI (sI A 4 0 (gI A 2 (5 + 0) - 48)) 2 (5 + (0 + 1)) - 48)) 2 (5 + (0 + 1 + 1)) - 48) = B
  have hA : ∀ c j, gI A c j = if c = 3 ∧ j = 2 then gI M 2 3 - 48 else if c = 3 ∧ j = 0 then 10 * (gI M 2 0 - 48) + (gI M 2 1 - 48) else gI M c j := fun c j => by
    rw [← eA, gI_sI, gI_o (c := 3) (c' := 2) (by omega)]
    by_cases z : c = 3 ∧ j = 2
    · rw [if_pos z, if_pos z]
    · rw [if_neg z, if_neg z, gI_sI]
  have hB : ∀ c j, gI B c j = if c = 4 ∧ j < 3 then gI M 2 (5 + j) - 48 else gI A c j := fun c j => by
    have q : ∀ t, gI A 2 t = gI M 2 t := fun t => by rw [hA, if_neg (by omega), if_neg (by omega)]
    rw [← eB]
    simp only [gI_sI, Nat.reduceEqDiff, false_and, if_false, q]
    by_cases z : c = 4 ∧ j < 3
    · rw [if_pos z]
      rcases (by omega : j = 0 ∨ j = 1 ∨ j = 2) with y | y | y <;> subst y <;> simp [z.1]
    · rw [if_neg z, if_neg (by omega), if_neg (by omega), if_neg (by omega)]
  have eB1 : gI B 1 1 - 9 = nI (n - 9) := by
    rw [hB, if_neg (by omega), hA, if_neg (by omega), if_neg (by omega), en, show (9 : Int32) = nI 9 from rfl, nI_sub h9]
  rw [eB1]
  obtain ⟨M1, e1, e2⟩ := rdL (st := n - 9) (by omega) fu 0 (sI B 3 1 (nI (n - 9))) (by omega) (by show _ < _ + 1000; omega) gI_s
  refine ⟨M1, e1, fun c j => ?_⟩
  rw [e2]
  by_cases z : c = 5 ∧ j < n - 9
  · rw [if_pos ⟨z.1, by omega, z.2⟩, if_pos z, gI_o (by omega), hB, if_neg (by omega), hA, if_neg (by omega), if_neg (by omega)]
  · rw [if_neg (by omega), if_neg z, gI_sI]
    by_cases y : c = 3 ∧ j = 1
    · rw [if_pos y, if_pos y]
    · rw [if_neg y, if_neg y, hB]
      by_cases x : c = 4 ∧ j < 3
      · rw [if_pos x, if_pos x]
      · rw [if_neg x, if_neg x, hA]
theorem cnight_e {M : Mm} (h1 : I_pg M) (hn : 9 < nv (gI M 32 1)) (hp : ∀ j, j < nv (gI M 32 1) → fit M j) : ∃ M1, sp_X10_night M = some (nI (nv (gI M 32 1) - 9), M1) ∧ NC M M1 (nv (gI M 32 1)) := by
  have n22 := h1.1.2
  have en : gI M 1 1 = nI (nv (gI M 32 1)) := h1.2.1.trans h1.1.1
  have h19 : nv (gI M 32 1) ≤ 19 := by
    rcases Nat.lt_or_ge 19 (nv (gI M 32 1)) with h | h
    · exfalso
      rcases hp 19 h with h | h
      · exact absurd h.1 (by omega)
      · exact absurd h.2.2.2.2.2 (by omega)
    · exact h
  have e0 := cfp_e h1 (Nat.le_refl _) hp (fun h => absurd h (Nat.lt_irrefl _))
  generalize nv (gI M 32 1) = n at *
  unfold sp_X10_night sp_X5_isNight
  rw [if_pos (by rw [en]; exact c_gt 9 9 rfl hn (by omega)), e0, bd_s, if_pos en.symm, bd_s, if_neg i10]
  obtain ⟨A, a1, a2⟩ := read_e en (by omega) h19
  rw [a1, bd_s]
  unfold sp_X5_clear sp_X6_clear sp_X2_clear sp_X1_clear
  rw [bl_e, bd_s, bl_e, bd_s, bl_e]
  obtain ⟨B, b1, b2⟩ := fill_e (c0 := 12) (v := 0) (sI (sI (sI A 1 1 0) 6 0 0) 9 0 0)
  rw [b1, bd_s, bd_s, bl_e, bl_e, bl_e, bl_e, bl_e, bl_e, bl_e, bl_e]
  obtain ⟨C, d1, d2⟩ := fill_e (c0 := 15) (v := 0) (sI (sI (sI (sI (sI (sI (sI (sI B 13 0 0) 13 1 0) 13 2 0) 13 3 0) 13 4 0) 13 5 60) 13 6 0) 13 7 0)
  rw [d1, bd_s, bd_s, bl_e]
  have l12 : ln 12 = 6 := rfl
  have l15 : ln 15 = 6 := rfl
  rw [l12] at b2
  rw [l15] at d2
  have oth : ∀ c j, ¬ (c = 1 ∧ j = 1 ∨ c = 6 ∨ c = 9 ∨ c = 12 ∨ c = 13 ∨ c = 15) → gI C c j = gI A c j := fun c j z => by
    rw [d2, if_neg (by omega), gI_o (by omega), gI_o (by omega), gI_o (by omega), gI_o (by omega), gI_o (by omega), gI_o (by omega), gI_o (by omega), gI_o (by omega), b2, if_neg (by omega), gI_o (by omega), gI_o (by omega), gI_o (by omega)]
  have o3 : gI C 3 1 = nI (n - 9) := by rw [oth _ _ (by omega), a2, if_neg (by omega), if_pos (by omega)]
  refine ⟨_, by rw [gI_o (by omega), o3], fun c j z => ?_, ?_, ?_, ?_, ?_, ?_, fun j hj => ?_, fun j hj => ?_, ?_, ?_, fun j hj => ?_, fun j hj => ?_, fun j hj => ?_⟩
  · rw [gI_o (by omega), oth _ _ (by omega), a2, if_neg (by omega), if_neg (by omega), if_neg (by omega), if_neg (by omega), if_neg (by omega)]
  · rw [gI_s, oth _ _ (by omega), a2, if_neg (by omega), if_neg (by omega), if_neg (by omega), if_neg (by omega), if_neg (by omega)]
  · rw [gI_o (by omega), d2, if_neg (by omega), gI_o (by omega), gI_o (by omega), gI_o (by omega), gI_o (by omega), gI_o (by omega), gI_o (by omega), gI_o (by omega), gI_o (by omega), b2, if_neg (by omega), gI_o (by omega), gI_o (by omega), gI_s]
  · rw [gI_o (by omega), oth _ _ (by omega), a2, if_neg (by omega), if_neg (by omega), if_neg (by omega), if_neg (by omega), if_pos (by omega)]
  · rw [gI_o (by omega), oth _ _ (by omega), a2, if_neg (by omega), if_neg (by omega), if_neg (by omega), if_pos (by omega)]
  · rw [gI_o (by omega), o3]
  · rw [gI_o (by omega), oth _ _ (by omega), a2, if_neg (by omega), if_neg (by omega), if_pos (by omega)]
  · rw [gI_o (by omega), oth _ _ (by omega), a2, if_pos (by omega)]
  · rw [gI_o (by omega), d2, if_neg (by omega), gI_o (by omega), gI_o (by omega), gI_o (by omega), gI_o (by omega), gI_o (by omega), gI_o (by omega), gI_o (by omega), gI_o (by omega), b2, if_neg (by omega), gI_o (by omega), gI_s]
  · rw [gI_o (by omega), d2, if_neg (by omega), gI_o (by omega), gI_o (by omega), gI_o (by omega), gI_o (by omega), gI_o (by omega), gI_o (by omega), gI_o (by omega), gI_o (by omega), b2, if_neg (by omega), gI_s]
  · rw [gI_o (by omega), d2, if_neg (by omega), gI_o (by omega), gI_o (by omega), gI_o (by omega), gI_o (by omega), gI_o (by omega), gI_o (by omega), gI_o (by omega), gI_o (by omega), b2, if_pos ⟨rfl, hj⟩]
  · rw [gI_o (by omega), d2, if_neg (by omega)]
    rcases (by omega : j = 0 ∨ j = 1 ∨ j = 2 ∨ j = 3 ∨ j = 4 ∨ j = 5 ∨ j = 6 ∨ j = 7) with y | y | y | y | y | y | y | y <;> subst y <;> simp only [gI_sI, gJ_sI, gI_sJ, gJ_sJ, bl_e, bd_s, jn_e, Nat.reduceEqDiff, Nat.zero_ne_one, Nat.one_ne_zero, false_and, and_false, and_true, true_and, and_self, if_true, if_false, reduceIte] <;> rfl
  · rw [gI_o (by omega), d2, if_pos ⟨rfl, hj⟩]
/-! the reference -/
theorem nlG {K : Mm → Option (Int32 × Mm)} {f k : Nat} {M : Mm} (hk : k < 3) : sp_X11_night_L47 K (f + 1) (nI k) M = sp_X11_night_L47 K f (nI (k + 1)) (sI M 36 k (gI M 34 k)) := by
  rw [sp_X11_night_L47, if_pos (c_lt 3 3 rfl hk (by decide)), rdI_n (show k < 3 by omega), wrI_n (show k < 3 by omega), nI_p]
theorem nlGx {K : Mm → Option (Int32 × Mm)} {f : Nat} {M : Mm} : sp_X11_night_L47 K (f + 1) (nI 3) M = K M := by
  rw [sp_X11_night_L47, if_neg (by decide)]
theorem nlL {K : Mm → Option (Int32 × Mm)} {st : Nat} (hs : st ≤ 10) : ∀ f k M, k ≤ 10 → 10 < k + f → gI M 32 7 = nI st → ∃ M', sp_X11_night_L72 K f (nI k) M = K M' ∧ ∀ c j, gI M' c j = if c = 37 ∧ k ≤ j ∧ j < 10 then (if j < st then gI M 35 j else -1) else gI M c j := by
  intro f
  induction f with
  | zero => intro k M h1 h2; omega
  | succ f ih =>
    intro k M h1 h2 h3
    rw [sp_X11_night_L72, h3]
    by_cases hk : k < 10
    · rw [if_pos (c_lt 10 10 rfl hk (by decide)), nI_p]
      have key : ∀ v, v = (if k < st then gI M 35 k else -1) → ∃ M', sp_X11_night_L72 K f (nI (k + 1)) (sI M 37 k v) = K M' ∧ ∀ c j, gI M' c j = if c = 37 ∧ k ≤ j ∧ j < 10 then (if j < st then gI M 35 j else -1) else gI M c j := fun v ev => by
        obtain ⟨M', e1, e2⟩ := ih (k + 1) (sI M 37 k v) (by omega) (by omega) (by rw [gI_o (by omega)]; exact h3)
        refine ⟨M', e1, fun c j => ?_⟩
        rw [e2, gI_o (c := 37) (c' := 35) (by omega)]
        by_cases y : c = 37 ∧ j = k
        · rw [y.1, y.2, if_neg (by omega), if_pos ⟨rfl, by omega, by omega⟩, gI_s, ev]
        · rw [gI_o y]
          by_cases z : c = 37 ∧ k ≤ j ∧ j < 10
          · rw [if_pos z, if_pos (by omega)]
          · rw [if_neg z, if_neg (by omega)]
      by_cases y : k < st
      · rw [if_pos ((nI_ltI (by omega) (by omega)).mpr y), rdI_n (show k < 10 by omega), wrI_n (show k < 10 by omega)]
        exact key _ (by rw [if_pos y])
      · rw [if_neg (by rw [nI_ltI (by omega) (by omega)]; exact y), wrI_n (show k < 10 by omega)]
        exact key _ (by rw [if_neg y])
    · rw [if_neg (c_nlt 10 10 rfl (by omega) (by omega))]
      exact ⟨M, rfl, fun c j => by rw [if_neg (by omega)]⟩
def NM (M M2 : Mm) (n : Nat) : Prop := (∀ c j, ¬ ((c = 32 ∧ (j = 1 ∨ j = 2 ∨ j = 3 ∨ j = 6 ∨ (7 ≤ j ∧ j ≤ 14) ∨ j = 17 ∨ j = 22 ∨ j = 29 ∨ j = 32)) ∨ (34 ≤ c ∧ c ≤ 37)) → gI M2 c j = gI M c j) ∧ gI M2 32 14 = gI M 32 14 + 1 ∧ gI M2 32 1 = 0 ∧
  gI M2 32 8 = nI (10 * dv M 0 + dv M 1) ∧ gI M2 32 9 = nI (dv M 3) ∧ gI M2 32 7 = nI (n - 9) ∧ (∀ j, j < 3 → gI M2 36 j = nI (dv M (5 + j))) ∧ (∀ j, j < 10 → gI M2 37 j = if j < n - 9 then nI (dv M (9 + j)) else -1) ∧
  gI M2 32 10 = 0 ∧ gI M2 32 11 = 0 ∧ gI M2 32 12 = 0 ∧ gI M2 32 13 = 60 ∧ gI M2 32 17 = 0 ∧ gI M2 32 22 = 0 ∧ gI M2 32 29 = 0 ∧ gI M2 32 32 = 0
theorem mnight_e {M : Mm} (h1 : I_pm M) (hn : 9 < nv (gI M 32 1)) (hp : ∀ j, j < nv (gI M 32 1) → fit M j) : ∃ M2, sp_X11_night M = some (nI (nv (gI M 32 1) - 9), M2) ∧ NM M M2 (nv (gI M 32 1)) := by
  have n22 := h1.1.2
  have en : gI M 32 1 = nI (nv (gI M 32 1)) := h1.1.1
  have h19 : nv (gI M 32 1) ≤ 19 := by
    rcases Nat.lt_or_ge 19 (nv (gI M 32 1)) with h | h
    · exfalso
      rcases hp 19 h with h | h
      · exact absurd h.1 (by omega)
      · exact absurd h.2.2.2.2.2 (by omega)
    · exact h
  obtain ⟨A, a1, a2, a3⟩ := mfp_e h1 (Nat.le_refl _) hp (fun h => absurd h (Nat.lt_irrefl _))
  obtain ⟨g1, g2, g3, g4, g5, g6, g7⟩ := a3 rfl
  generalize nv (gI M 32 1) = n at *
  unfold sp_X11_night
  rw [a1, bd_s, g1 32 1 (by omega), en, if_neg (by rw [nI_ltI (by omega) (by omega)]; omega), g6, if_neg (c_ne 0 0 rfl (by omega) (by omega) (by decide)), bl_e, bl_e, bl_e, jn_e]
  rw [gI_o (c := 32) (k := 7) (c' := 32) (k' := 2) (by omega), g3 (by omega), gI_o (c := 32) (k := 8) (c' := 32) (k' := 3) (by omega), gI_o (c := 32) (k := 7) (c' := 32) (k' := 3) (by omega), g4 (by omega)]
  generalize eB : sI (sI (sI A 32 7 (nI (n - 9))) 32 8 (nI (10 * dv M 0 + dv M 1))) 32 9 (nI (dv M 3)) = B
  show ∃ M2, sp_X11_night_L47 _ (996 + 1 + 1 + 1 + 1) (nI 0) B = _ ∧ _
  rw [nlG (by omega), nlG (by omega), nlG (by omega), nlGx]
  simp only [jn_e]
  generalize eC : sI (sI (sI B 36 0 (gI B 34 0)) 36 (0 + 1) (gI (sI B 36 0 (gI B 34 0)) 34 (0 + 1))) 36 (0 + 1 + 1) (gI (sI (sI B 36 0 (gI B 34 0)) 36 (0 + 1) (gI (sI B 36 0 (gI B 34 0)) 34 (0 + 1))) 34 (0 + 1 + 1)) = C
  have hB : ∀ c j, ¬ (c = 32 ∧ (j = 7 ∨ j = 8 ∨ j = 9)) → gI B c j = gI A c j := fun c j z => by
    rw [← eB, gI_o (by omega), gI_o (by omega), gI_o (by omega)]
  have hC : ∀ c j, gI C c j = if c = 36 ∧ j < 3 then nI (dv M (5 + j)) else gI B c j := fun c j => by
    have q : ∀ t, t < 3 → gI B 34 t = nI (dv M (5 + t)) := fun t ht => by rw [hB _ _ (by omega), g5 t ht (by omega)]
    rw [← eC]
    simp only [gI_sI, Nat.reduceEqDiff, false_and, if_false]
    by_cases z : c = 36 ∧ j < 3
    · rw [if_pos z]
      rcases (by omega : j = 0 ∨ j = 1 ∨ j = 2) with y | y | y <;> subst y <;> simp [z.1, q]
    · rw [if_neg z, if_neg (by omega), if_neg (by omega), if_neg (by omega)]
  have hC7 : gI C 32 7 = nI (n - 9) := by rw [hC, if_neg (by omega), ← eB, gI_o (by omega), gI_o (by omega), gI_s]
  obtain ⟨D, d1, d2⟩ := nlL (K := (fun (M_108 : Mm) => bl (sI M_108 32 10 (0 : Int32)) (fun M110 => bl (sI M110 32 11 (0 : Int32)) (fun M115 => bl (sI M115 32 12 (0 : Int32)) (fun M120 => bl (sI M120 32 13 (60 : Int32)) (fun M126 => bl (sI M126 32 17 (0 : Int32)) (fun M131 => bl (sI M131 32 22 (0 : Int32)) (fun M136 => bl (sI M136 32 29 (0 : Int32)) (fun M141 => bl (sI M141 32 32 (0 : Int32)) (fun M146 => bl (sI M146 32 14 ((gI M146 32 14) + (1 : Int32))) (fun M156 => bl (sI M156 32 1 (0 : Int32)) (fun M161 => some (gI M161 32 7, M161))))))))))))) (st := n - 9) (by omega) fu 0 C (by omega) (by show _ < _ + 1000; omega) hC7
  have e0 := d1
  simp only [bl_e] at e0
  have hD : ∀ c j, ¬ (c = 37 ∨ c = 36 ∨ (c = 32 ∧ (j = 7 ∨ j = 8 ∨ j = 9))) → gI D c j = gI A c j := fun c j z => by
    rw [d2, if_neg (by omega), hC, if_neg (by omega), hB _ _ (by omega)]
  have h7 : gI D 32 7 = nI (n - 9) := by rw [d2, if_neg (by omega), hC7]
  refine ⟨_, e0.trans (by rw [gI_o (by omega), gI_o (by omega), gI_o (by omega), gI_o (by omega), gI_o (by omega), gI_o (by omega), gI_o (by omega), gI_o (by omega), gI_o (by omega), gI_o (by omega), h7]), fun c j z => ?_, ?_, ?_, ?_, ?_, ?_, fun j hj => ?_, fun j hj => ?_, ?_, ?_, ?_, ?_, ?_, ?_, ?_, ?_⟩
  · rw [gI_o (by omega), gI_o (by omega), gI_o (by omega), gI_o (by omega), gI_o (by omega), gI_o (by omega), gI_o (by omega), gI_o (by omega), gI_o (by omega), gI_o (by omega), hD _ _ (by omega), g1 _ _ (by omega)]
  · simp only [gI_sI, gJ_sI, gI_sJ, gJ_sJ, bl_e, bd_s, jn_e, Nat.reduceEqDiff, Nat.zero_ne_one, Nat.one_ne_zero, false_and, and_false, and_true, true_and, and_self, if_true, if_false, reduceIte]; rw [hD _ _ (by omega), g1 _ _ (by omega)]
  · simp only [gI_sI, gJ_sI, gI_sJ, gJ_sJ, bl_e, bd_s, jn_e, Nat.reduceEqDiff, Nat.zero_ne_one, Nat.one_ne_zero, false_and, and_false, and_true, true_and, and_self, if_true, if_false, reduceIte]
  · simp only [gI_sI, gJ_sI, gI_sJ, gJ_sJ, bl_e, bd_s, jn_e, Nat.reduceEqDiff, Nat.zero_ne_one, Nat.one_ne_zero, false_and, and_false, and_true, true_and, and_self, if_true, if_false, reduceIte]; rw [d2, if_neg (by omega), hC, if_neg (by omega), ← eB]; simp only [gI_sI, gJ_sI, gI_sJ, gJ_sJ, bl_e, bd_s, jn_e, Nat.reduceEqDiff, Nat.zero_ne_one, Nat.one_ne_zero, false_and, and_false, and_true, true_and, and_self, if_true, if_false, reduceIte]
  · simp only [gI_sI, gJ_sI, gI_sJ, gJ_sJ, bl_e, bd_s, jn_e, Nat.reduceEqDiff, Nat.zero_ne_one, Nat.one_ne_zero, false_and, and_false, and_true, true_and, and_self, if_true, if_false, reduceIte]; rw [d2, if_neg (by omega), hC, if_neg (by omega), ← eB]; simp only [gI_sI, gJ_sI, gI_sJ, gJ_sJ, bl_e, bd_s, jn_e, Nat.reduceEqDiff, Nat.zero_ne_one, Nat.one_ne_zero, false_and, and_false, and_true, true_and, and_self, if_true, if_false, reduceIte]
  · simp only [gI_sI, gJ_sI, gI_sJ, gJ_sJ, bl_e, bd_s, jn_e, Nat.reduceEqDiff, Nat.zero_ne_one, Nat.one_ne_zero, false_and, and_false, and_true, true_and, and_self, if_true, if_false, reduceIte]; rw [h7]
  · simp only [gI_sI, gJ_sI, gI_sJ, gJ_sJ, bl_e, bd_s, jn_e, Nat.reduceEqDiff, Nat.zero_ne_one, Nat.one_ne_zero, false_and, and_false, and_true, true_and, and_self, if_true, if_false, reduceIte]; rw [d2, if_neg (by omega), hC, if_pos ⟨rfl, hj⟩]
  · simp only [gI_sI, gJ_sI, gI_sJ, gJ_sJ, bl_e, bd_s, jn_e, Nat.reduceEqDiff, Nat.zero_ne_one, Nat.one_ne_zero, false_and, and_false, and_true, true_and, and_self, if_true, if_false, reduceIte]
    rw [d2, if_pos ⟨rfl, by omega, hj⟩]
    by_cases y : j < n - 9
    · rw [if_pos y, if_pos y, hC, if_neg (by omega), hB _ _ (by omega), g7 j (by omega)]
    · rw [if_neg y, if_neg y]
  all_goals simp only [gI_sI, gJ_sI, gI_sJ, gJ_sJ, bl_e, bd_s, jn_e, Nat.reduceEqDiff, Nat.zero_ne_one, Nat.one_ne_zero, false_and, and_false, and_true, true_and, and_self, if_true, if_false, reduceIte]
