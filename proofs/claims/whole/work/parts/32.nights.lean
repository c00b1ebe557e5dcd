/-! THE CALL nights: both -/
def Tc (M M' : Mm) (r : Int32 × Nat × Int32 × Nat) : Prop := Sm M M' ∧ gI M' 31 2 = r.1 ∧ gI M' 31 1 = nI r.2.1 ∧ gI M' 31 3 = r.2.2.1 ∧ gJ M' 31 0 = nJ r.2.2.2
theorem cruL {i : Nat} {M : Mm} (h : Inv i M) : ∀ f n seed left t shots Mx, seed < 2147483648 → left < 2 ^ nR M → t + f = sT M → f < n → Tc M Mx (0, shots, 0, seed) → ∃ M', sp_X9_run_L44 n (nI left) (nI t) Mx = some ((), M') ∧ Tc M M' (trn M f seed left t shots) := by
  have n6 := h.2.2.1.n.1
  have s10 := h.2.1.s.1
  intro f
  induction f with
  | zero =>
    intro n seed left t shots Mx hs hl ht hf c
    obtain ⟨n, rfl⟩ : ∃ g, n = g + 1 := ⟨n - 1, by omega⟩
    have hx := c.1.inv h
    rw [sp_X9_run_L44, hx.2.1.s.2.2, c.1.sT', if_neg (by rw [nI_ltI (by omega) (by omega)]; omega)]
    exact ⟨Mx, rfl, c⟩
  | succ f ih =>
    intro n seed left t shots Mx hs hl ht hf c
    obtain ⟨n, rfl⟩ : ∃ g, n = g + 1 := ⟨n - 1, by omega⟩
    have l64 : left < 64 := Nat.lt_of_lt_of_le hl (pw_64 n6)
    have hx := c.1.inv h
    obtain ⟨c1, c2, c3, c4, c5⟩ := id c
    rw [sp_X9_run_L44, hx.2.1.s.2.2, c1.sT', if_pos ((nI_ltI (by omega) (by omega)).mpr (by omega)), c2, if_pos rfl, c4, if_pos rfl, trn]
    by_cases h0 : left = 0
    · rw [if_pos (by rw [h0]; rfl), if_pos h0]
      exact ⟨Mx, rfl, c⟩
    · have lbn := lb_n _ n6 left hl h0
      rw [if_neg (c_ne 0 0 rfl h0 (by omega) (by decide)), if_neg h0, least_e (n := nR M) n6 (by rw [hx.2.2.1.n.2.2, c1.nR']) hl h0, bd_s, wout_e l64 (by omega), bd_s, bl_e, c3, nI_p]
      have c1' : Sm M (sI Mx 31 1 (nI (shots + 1))) := c1.sI (by unfold scr; omega)
      rw [cgust_e h c1' hs (by rw [gJ_sI]; exact c5), bd_s]
      have hd1 := dr_lt seed
      have hd2 := dr_lt (dr seed)
      generalize eA : sJ (sI Mx 31 1 (nI (shots + 1))) 31 0 (nJ (dr seed)) = A
      have a1 : Sm M A := by rw [← eA]; exact c1'.sJ
      have a2 : gI A 31 1 = nI (shots + 1) := by rw [← eA, gI_sJ, gI_s]
      have a3 : gI A 31 3 = 0 := by rw [← eA, gI_sJ, gI_o (by omega)]; exact c4
      have a4 : gJ A 31 0 = nJ (dr seed) := by rw [← eA, gJ_sJ, if_pos ⟨rfl, rfl⟩]
      have ha := a1.inv h
      rw [cfa_e ha.2.1 ha.2.2.1 (by rw [a1.nR']; exact lbn), bd_s, crg_e ha.2.1, bd_s, zb_ite, bl_e, a1.fa', a1.rg']
      generalize gu M (dw (dr seed)) = gg
      cases hr : rg M (fa M (lb left) (nI t) gg) with
      | true =>
        rw [if_pos rfl, if_pos rfl, gI_s, if_neg i10, nI_p]
        -- the line is made: the loop looks once more and ends
        have b1 : Sm M (sI A 31 2 1) := a1.sI (by unfold scr; omega)
        have hb := b1.inv h
        obtain ⟨n, rfl⟩ : ∃ g, n = g + 1 := ⟨n - 1, by omega⟩
        refine ⟨sI A 31 2 1, ?_, b1, by rw [gI_s], by rw [gI_o (by omega), a2], by rw [gI_o (by omega), a3], by rw [gJ_sI, a4]⟩
        rw [sp_X9_run_L44, gI_s, if_neg i10]
        split <;> rfl
      | false =>
        rw [if_neg (by simp), if_neg (by simp), gI_s, if_pos rfl]
        generalize eB : sI A 31 2 0 = B
        have b1 : Sm M B := by rw [← eB]; exact a1.sI (by unfold scr; omega)
        have b2 : gI B 31 2 = 0 := by rw [← eB, gI_s]
        have b3 : gI B 31 1 = nI (shots + 1) := by rw [← eB, gI_o (by omega), a2]
        have b5 : gJ B 31 0 = nJ (dr seed) := by rw [← eB, gJ_sI, a4]
        have hb := b1.inv h
        rw [cdraw_e hd1 b5, bd_s]
        unfold sp_X7_isLast
        rw [gI_sJ, hb.2.1.s.2.2, b1.sT', show (1 : Int32) = nI 1 from rfl, nI_sub (by omega)]
        obtain ⟨q1, q2, q3⟩ := h.2.1.2.2.2.2.2.2.2.2.2.2.2.1 t (by omega)
        have d1 : Sm M (sJ B 31 0 (nJ (dr (dr seed)))) := b1.sJ
        have dt : gI (sJ B 31 0 (nJ (dr (dr seed)))) 5 t = nI (nv (gI M 37 t)) := by rw [gI_sJ, b1 5 t (by unfold scr; omega), q1]; exact q2
        have hw := dw_lt (dr (dr seed))
        have fin : Tc M (sI (sJ B 31 0 (nJ (dr (dr seed)))) 31 3 1) (0, shots + 1, 1, dr (dr seed)) := ⟨d1.sI (by unfold scr; omega), by rw [gI_o (by omega), gI_sJ, b2], by rw [gI_o (by omega), gI_sJ, b3], by rw [gI_s], by rw [gJ_sI, gJ_sJ, if_pos ⟨rfl, rfl⟩]⟩
        have stop : ∀ x y, sp_X9_run_L44 n x y (sI (sJ B 31 0 (nJ (dr (dr seed)))) 31 3 1) = some ((), sI (sJ B 31 0 (nJ (dr (dr seed)))) 31 3 1) := fun x y => by
          obtain ⟨n, rfl⟩ : ∃ g, n = g + 1 := ⟨n - 1, by omega⟩
          rw [sp_X9_run_L44, gI_s, if_neg (c := (1 : Int32) = 0) i10]
          split
          · split <;> rfl
          · rfl
        by_cases hlast : t = sT M - 1
        · rw [if_neg (by rw [nI_ltI (by omega) (by omega)]; omega), bd_s, jn_e, if_neg (by decide), bl_e, if_pos (Or.inl hlast), show nI 1 = 1 from rfl, stop]
          exact ⟨_, rfl, fin⟩
        · rw [if_pos ((nI_ltI (by omega) (by omega)).mpr (by omega)), bd_s, jn_e, if_pos rfl]
          unfold sp_X7_breakTenths
          rw [at_n (show t < 10 by omega), bd_s, bd_s, dt]
          by_cases hd : dw (dr (dr seed)) < nv (gI M 37 t)
          · rw [if_pos ((nI_ltI (by omega) (by omega)).mpr hd), bl_e, if_pos (Or.inr hd), show nI 1 = 1 from rfl, stop]
            exact ⟨_, rfl, fin⟩
          · rw [if_neg (by rw [nI_ltI (by omega) (by omega)]; exact hd), bl_e, if_neg (fun z => z.elim hlast hd), show nI 1 = 1 from rfl, nI_p]
            refine ih n _ _ _ _ _ hd2 (Nat.lt_of_le_of_lt (nt_le' _ _) hl) (by omega) (by omega) ⟨d1.sI (by unfold scr; omega), ?_, ?_, ?_, ?_⟩
            · rw [gI_o (by omega), gI_sJ, b2]
            · rw [gI_o (by omega), gI_sJ, b3]
            · rw [gI_s]
            · rw [gJ_sI, gJ_sJ, if_pos ⟨rfl, rfl⟩]
