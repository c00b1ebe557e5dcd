/-! THE FIRST ROW -/
def mk (s : Nat) (k : Nat) : List Nat := (List.range k).filter (fun m => s.testBit m)
theorem mk_s (s k : Nat) : mk s (k + 1) = mk s k ++ (if s.testBit k then [k] else []) := by
  unfold mk
  rw [List.range_succ, List.filter_append]
  congr 1
  cases h : s.testBit k <;> simp [h]
theorem mk_len (s : Nat) : ∀ k, (mk s k).length ≤ k
  | 0 => Nat.le_refl _
  | k + 1 => by
    have := mk_len s k
    rw [mk_s, List.length_append]
    split <;> simp <;> omega
/-- only the row and its length change -/
def Rr (M M' : Mm) : Prop := ∀ c k, ¬ (c = 43 ∨ (c = 32 ∧ k = 28)) → gI M' c k = gI M c k
theorem Rr.sm {A M M' : Mm} (h : Sm A M) (r : Rr M M') : Sm A M' := fun c k z => (r c k (fun y => z (by unfold scr; omega))).trans (h c k z)
theorem R43.r {M M' : Mm} (h : R43 M M') : Rr M M' := fun c k z => h c k (by omega)
theorem la_ap {l : List Nat} {x j : Nat} : la (l ++ [x]) j = if j < l.length then la l j else if j = l.length then x else 0 := by
  unfold la
  rw [List.getD_eq_getElem?_getD, List.getD_eq_getElem?_getD, List.getElem?_append]
  by_cases y : j < l.length
  · rw [if_pos y, if_pos y]
  · rw [if_neg y, if_neg y]
    by_cases z : j = l.length
    · rw [if_pos z, z, Nat.sub_self]; rfl
    · rw [if_neg z, List.getElem?_eq_none (by simp; omega)]; rfl
theorem foL {s n : Nat} (n6 : n ≤ 6) (hs : s < 64) : ∀ f k M, k ≤ n → n < k + f → gI M 32 22 = nI n → Ro M (la (mk s k)) (mk s k).length → ∃ M', sp_X11_firstOrder_L7 (nI s) f (nI k) M = some ((), M') ∧ Ro M' (la (mk s n)) (mk s n).length ∧ Rr M M' := by
  intro f
  induction f with
  | zero => intro k M a b; omega
  | succ f ih =>
    intro k M a b en h
    rw [sp_X11_firstOrder_L7, en]
    have hl := mk_len s k
    by_cases hk : k < n
    · rw [if_pos ((nI_ltI (by omega) (by omega)).mpr hk), b_bit s hs k (by omega)]
      have es := mk_s s k
      cases hb : s.testBit k with
      | true =>
        rw [hb, if_pos rfl] at es
        rw [if_pos (c := true = true) rfl, if_pos rfl, h.1, wrI_n (show (mk s k).length < 6 by omega), bl_e, gI_o (by omega), h.1, nI_p, nI_p]
        have ho : Ro (sI (sI M 43 (mk s k).length (nI k)) 32 28 (nI ((mk s k).length + 1))) (la (mk s (k + 1))) (mk s (k + 1)).length := by
          rw [es]
          refine ⟨by rw [gI_s, List.length_append]; rfl, fun j hj => ?_⟩
          rw [List.length_append] at hj
          have hj' : j < (mk s k).length + 1 := hj
          rw [gI_o (by omega), la_ap]
          by_cases y : j < (mk s k).length
          · rw [if_pos y, gI_o (by omega)]; exact h.2 j y
          · have z : j = (mk s k).length := by omega
            rw [if_neg y, if_pos z, z, gI_s]
        obtain ⟨M', e1, e2, e3⟩ := ih (k + 1) _ (by omega) (by omega) (by rw [gI_o (by omega), gI_o (by omega)]; exact en) ho
        exact ⟨M', e1, e2, fun c j z => by rw [e3 c j z, gI_o (by omega), gI_o (by omega)]⟩
      | false =>
        rw [hb, if_neg Bool.false_ne_true, List.append_nil] at es
        rw [if_neg (c := false = true) Bool.false_ne_true, if_neg (by decide), nI_p]
        exact ih (k + 1) M (by omega) (by omega) en (by rw [es]; exact h)
    · rw [if_neg (by rw [nI_ltI (by omega) (by omega)]; exact hk)]
      have : k = n := by omega
      subst this
      exact ⟨M, rfl, h, fun _ _ _ => rfl⟩
theorem mk_6 : ∀ n, n ≤ 6 → ∀ s, s < 2 ^ n → mk s n = mem6 s := by decide +kernel
theorem first_e {n s : Nat} (n6 : n ≤ 6) (hs : s < 2 ^ n) {M : Mm} (en : gI M 32 22 = nI n) : ∃ M', sp_X11_firstOrder (nI s) M = some ((), M') ∧ Ro M' (la (mem6 s)) (mem6 s).length ∧ Rr M M' := by
  unfold sp_X11_firstOrder
  rw [bl_e]
  obtain ⟨M', e1, e2, e3⟩ := foL (s := s) n6 (Nat.lt_of_lt_of_le hs (pw_64 n6)) fu 0 (sI M 32 28 0) (by omega) (by show _ < _ + 1000; omega) (by rw [gI_o (by omega)]; exact en) ⟨gI_s, fun k hk => absurd hk (by show ¬ (k < 0); omega)⟩
  rw [mk_6 n n6 s hs] at e2
  exact ⟨M', e1, e2, fun c k z => by rw [e3 c k z, gI_o (by omega)]⟩
