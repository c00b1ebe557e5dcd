/-! THE CALL order: the class fills its table -/
/-- the first man of a row, none: -1 -/
def hd (b : Option (Nat × List Nat)) : Int32 := match b with | none => -1 | some (_, []) => -1 | some (_, m :: _) => nI m
def Wt (M : Mm) (first u : Nat) : Int64 := match Ds M first u with | none => -1 | some x => nJ (Hh M first 1000000000 (Ts M u) + x.1)
/-- the table holds from lo on -/
def Tb (M : Mm) (first : Nat) (Mx : Mm) (lo : Nat) : Prop := ∀ u, lo ≤ u → u < 2 ^ nM M → nt (nv (gI M 13 4)) u = 0 → gJ Mx 25 u = Wt M first u ∧ gI Mx 26 u = hd (Ds M first u)
def Fr (s : Nat) (M Mx : Mm) : Prop := (∀ c k, ¬ (c = 26 ∧ k = s) → gI Mx c k = gI M c k) ∧ (∀ c k, ¬ (c = 24 ∧ k = 0) → gJ Mx c k = gJ M c k)
theorem Fr.sm {s : Nat} {A M Mx : Mm} (f : Fr s M Mx) (h : Sm A M) : Sm A Mx := fun c k z => (f.1 c k (fun y => z (by unfold scr; omega))).trans (h c k z)
theorem Sm.mn {A M : Mm} (h : Sm A M) (h4 : I_mn A) : I_mn M := h4.ag (fun c k hf => h c k (by unfold F_mn at hf; unfold scr; omega))
theorem Sm.nt {i : Nat} {A M : Mm} (h : Sm A M) (h4 : I_nt i A) : I_nt i M := h4.ag (fun c k hf => h c k (by unfold F_nt at hf; unfold scr; omega))
theorem Sm.cu {A M : Mm} (h : Sm A M) (h4 : I_cu A) : I_cu M := h4.ag (fun c k hf => h c k (by unfold F_cu at hf; unfold scr; omega))
theorem gS_no {M : Mm} {first s m : Nat} (h : ¬ Cb M s m = true) : gS M first s m = none := by unfold gS; rw [if_neg (fun z => h z.2)]
theorem fnL {i : Nat} {M : Mm} (h2 : I_nt i M) (h4 : I_mn M) (h6 : I_cu M) {first s : Nat} (hs : s < 2 ^ nM M) (hv : nt (nv (gI M 13 4)) s = 0) (b : Nat → Option (Nat × List Nat)) (hb : ∀ k, k < nM M → b (k + 1) = cb (b k) (gS M first s k)) (hbb : ∀ k, bB (b k)) : ∀ f k Mx, k ≤ nM M → nM M < k + f → Sm M Mx → Tb M first Mx (s + 1) → gJ Mx 24 0 = bJ (b k) → gI Mx 26 s = hd (b k) → ∃ M', sp_X4_findNext_L30 (nI s) f (nI k) Mx = some ((), M') ∧ Fr s Mx M' ∧ gJ M' 24 0 = bJ (b (nM M)) ∧ gI M' 26 s = hd (b (nM M)) := by
  have n6 := h4.n.1
  have p64 := pw_64 n6
  have o3 := (ob_n h4 h6).2.2
  intro f
  induction f with
  | zero => intro k Mx h1 h2; omega
  | succ f ih =>
    intro k Mx hk hf sm tb j0 i0
    have h4x := sm.mn h4
    rw [sp_X4_findNext_L30, h4x.n.2.2, sm.nM']
    by_cases hkn : k < nM M
    · have nx : ¬ Cb M s k = true → ∃ M', sp_X4_findNext_L30 (nI s) f (nI k + 1) Mx = some ((), M') ∧ Fr s Mx M' ∧ gJ M' 24 0 = bJ (b (nM M)) ∧ gI M' 26 s = hd (b (nM M)) := fun hc => by
        have e : b (k + 1) = b k := by rw [hb k hkn, gS_no hc, cb_n]
        rw [nI_p]
        exact ih (k + 1) Mx (by omega) (by omega) sm tb (by rw [e]; exact j0) (by rw [e]; exact i0)
      rw [if_pos ((nI_ltI (by omega) (by omega)).mpr hkn), isIn_e (by omega) (by omega), bd_s]
      cases hbit : s.testBit k with
      | true =>
        rw [if_pos rfl, if_neg i10]
        exact nx (fun z => by rw [Cb_no z] at hbit; exact absurd hbit (by simp))
      | false =>
        rw [if_neg Bool.false_ne_true, if_pos rfl, ahead_e h4x (by rw [sm.nM']; exact hkn), bd_s, sm.ahd', holds_e (by omega) (ahd_lt h4 hkn), bd_s]
        by_cases hc : nt (ahd M k) s = 0
        · have hcb : Cb M s k = true := decide_eq_true ⟨hbit, hc⟩
          have hu : s ||| 2 ^ k < 2 ^ nM M := by have := or_lt (a := s) (b := k) (n := nM M) (by omega) hkn; omega
          have hgt := or_gt s (by omega) k (by omega) hbit
          obtain ⟨w1, w2⟩ := tb (s ||| 2 ^ k) (by omega) hu (sub_or o3 (by omega) (by omega) hv)
          have eg : gS M first s k = (Ds M first (s ||| 2 ^ k)).map (fun x => (Hh M first 1000000000 (Ts M (s ||| 2 ^ k)) + x.1, k :: x.2)) := by unfold gS; rw [if_pos ⟨hkn, hcb⟩]
          rw [if_pos hc, if_neg i10, with_e (by omega) (by omega), bd_s, atJ_n (show s ||| 2 ^ k < 64 by omega), bd_s, w1, j0]
          have hb1 := hb k hkn
          cases hD : Ds M first (s ||| 2 ^ k) with
          | none =>
            have ew : Wt M first (s ||| 2 ^ k) = -1 := by unfold Wt; rw [hD]
            have e : b (k + 1) = b k := by rw [hb1, eg, hD]; exact cb_n _
            have : ¬ bJ (b k) < (-1 : Int64) := by
              cases hbk : b k with
              | none => decide
              | some y => have := hbb k y hbk; exact J_m1 (by omega)
            rw [ew, if_neg this, nI_p]
            exact ih (k + 1) Mx (by omega) (by omega) sm tb (by rw [e]; exact j0) (by rw [e]; exact i0)
          | some x =>
            have ew : Wt M first (s ||| 2 ^ k) = nJ (Hh M first 1000000000 (Ts M (s ||| 2 ^ k)) + x.1) := by unfold Wt; rw [hD]
            have hx1 := Ds_le hD
            have hx2 := Hh_le M first 1000000000 (Ts M (s ||| 2 ^ k))
            rw [eg, hD, Option.map_some] at hb1
            rw [ew]
            have hval : Hh M first 1000000000 (Ts M (s ||| 2 ^ k)) + x.1 ≤ 1000000000000 := by omega
            generalize Hh M first 1000000000 (Ts M (s ||| 2 ^ k)) + x.1 = val at *
            by_cases hlt : bJ (b k) < nJ val
            · have e : b (k + 1) = some (val, k :: x.2) := by
                rw [hb1]
                cases hbk : b k with
                | none => rfl
                | some y =>
                  have hy := hbb k y hbk
                  rw [hbk] at hlt
                  have hlt' : nJ y.1 < nJ val := hlt
                  rw [nJ_lt (by omega) (by omega)] at hlt'
                  unfold cb
                  dsimp only
                  rw [if_pos hlt']
              rw [if_pos hlt, bl_e, put_n (show s < 64 by omega), bd_s, nI_p]
              have fr : Fr s Mx (sI (sJ Mx 24 0 (nJ val)) 26 s (nI k)) := ⟨fun c j hx => by rw [gI_o hx, gI_sJ], fun c j hx => by rw [gJ_sI, gJ_sJ, if_neg hx]⟩
              obtain ⟨M', m1, m2, m3, m4⟩ := ih (k + 1) (sI (sJ Mx 24 0 (nJ val)) 26 s (nI k)) (by omega) (by omega) (fr.sm sm) (fun u a1 a2 a3 => by rw [fr.1 _ _ (by omega), fr.2 _ _ (by omega)]; exact tb u a1 a2 a3) (by rw [e, gJ_sI, gJ_sJ, if_pos ⟨rfl, rfl⟩]; rfl) (by rw [e, gI_s]; rfl)
              exact ⟨M', m1, ⟨fun c j hx => (m2.1 c j hx).trans (fr.1 c j hx), fun c j hx => (m2.2 c j hx).trans (fr.2 c j hx)⟩, m3, m4⟩
            · have e : b (k + 1) = b k := by
                rw [hb1]
                cases hbk : b k with
                | none =>
                  rw [hbk] at hlt
                  exact absurd (m1_J (by omega)) hlt
                | some y =>
                  have hy := hbb k y hbk
                  rw [hbk] at hlt
                  have : ¬ y.1 < val := fun z => hlt (show nJ y.1 < nJ val by rw [nJ_lt (by omega) (by omega)]; exact z)
                  unfold cb
                  dsimp only
                  rw [if_neg this]
              rw [if_neg hlt, nI_p]
              exact ih (k + 1) Mx (by omega) (by omega) sm tb (by rw [e]; exact j0) (by rw [e]; exact i0)
        · rw [if_neg hc, if_pos rfl]
          exact nx (fun z => hc (of_decide_eq_true z).2)
    · rw [if_neg (by rw [nI_ltI (by omega) (by omega)]; exact hkn)]
      have : k = nM M := by omega
      subst this
      exact ⟨Mx, rfl, ⟨fun _ _ _ => rfl, fun _ _ _ => rfl⟩, j0, i0⟩
