/-! THE CALL order: the reference runs through all rows -/
def bJ (b : Option (Nat × List Nat)) : Int64 := match b with | none => -1 | some x => nJ x.1
def R44 (M : Mm) (len : Nat) (b : Option (Nat × List Nat)) : Prop := ∀ x, b = some x → x.2.length = len ∧ ∀ k, k < len → gI M 44 k = nI (la x.2 k)
def bB (b : Option (Nat × List Nat)) : Prop := ∀ x, b = some x → x.1 ≤ 1000000000000
theorem mean_le {C : Nat → Nat → Bool} {tkf H : Nat → Nat} (hH : ∀ t, H t ≤ 10000000000) : ∀ l ov t x, mean C tkf H ov t l = some x → x ≤ 10000000000 * l.length
  | [], ov, t, x, h => by
    have : 0 = x := Option.some.inj h
    omega
  | m :: l, ov, t, x, h => by
    rw [mean] at h
    split at h
    · cases e : mean C tkf H (ov ||| 2 ^ m) (t + tkf m) l with
      | none => rw [e] at h; exact absurd h (by simp)
      | some y =>
        rw [e] at h
        have : H (t + tkf m) + y = x := Option.some.inj h
        have h1 := mean_le hH l _ _ _ e
        have h2 := hH (t + tkf m)
        rw [List.length_cons]
        omega
    · exact absurd h (by simp)
theorem Sm.mean' {M M' : Mm} (h : Sm M M') (first v : Nat) : mean (Cb M') (tk M') (Hh M' first v) = mean (Cb M) (tk M) (Hh M first v) := by
  have e1 : Cb M' = Cb M := by funext a b; exact h.Cb' a b
  have e2 : tk M' = tk M := by funext a; exact h.tk' a
  have e3 : Hh M' first v = Hh M first v := by funext a; unfold Hh; rw [h.sT', h.hz']
  rw [e1, e2, e3]
theorem m1_J {x : Nat} (hx : x < 2 ^ 63) : (-1 : Int64) < nJ x := by
  rw [Int64.lt_iff_toInt_lt, nJ_int hx, show (-1 : Int64).toInt = -1 from rfl]; omega
theorem J_m1 {x : Nat} (hx : x < 2 ^ 63) : ¬ nJ x < (-1 : Int64) := by
  rw [Int64.lt_iff_toInt_lt, nJ_int hx, show (-1 : Int64).toInt = -1 from rfl]; omega
theorem cpL {K : Int64 → Mm → Option (Int64 × Mm)} {r : Int64} {a : Nat → Nat} {n : Nat} (n6 : n ≤ 6) : ∀ f k M, k ≤ n → n < k + f → Ro M a n → (∀ j, j < k → gI M 44 j = nI (a j)) → ∃ M', sp_X11_order_L116 K r f (nI k) M = K r M' ∧ Ro M' a n ∧ (∀ j, j < n → gI M' 44 j = nI (a j)) ∧ ∀ c j, c ≠ 44 → gI M' c j = gI M c j := by
  intro f
  induction f with
  | zero => intro k M h1 h2; omega
  | succ f ih =>
    intro k M h1 h2 h3 h4
    rw [sp_X11_order_L116, h3.1]
    by_cases hk : k < n
    · rw [if_pos ((nI_ltI (by omega) (by omega)).mpr hk), rdI_n (show k < 6 by omega), wrI_n (show k < 6 by omega), h3.2 k hk, nI_p]
      obtain ⟨M', e1, e2, e3, e4⟩ := ih (k + 1) (sI M 44 k (nI (a k))) (by omega) (by omega) ⟨by rw [gI_o (by omega)]; exact h3.1, fun j hj => by rw [gI_o (by omega)]; exact h3.2 j hj⟩ (fun j hj => by
        by_cases y : j = k
        · rw [y, gI_s]
        · rw [gI_o (by omega)]; exact h4 j (by omega))
      exact ⟨M', e1, e2, e3, fun c j hc => by rw [e4 c j hc, gI_o (by omega)]⟩
    · rw [if_neg (by rw [nI_ltI (by omega) (by omega)]; exact hk)]
      have : k = n := by omega
      subst this
      exact ⟨M, rfl, h3, h4, fun _ _ _ => rfl⟩
theorem moO {i : Nat} {M : Mm} (h : Inv i M) {first len : Nat} (t1 : gI M 32 10 / 5 = nI first) (t2 : first < sT M) (l6 : len ≤ 6) (K : Int64 → Mm → Option (Int64 × Mm)) : ∀ ps p b Mx n, ch (p :: ps) = true → (∀ q, q ∈ p :: ps → q.length = len ∧ ∀ k, k < len → la q k < nM M) → Sm M Mx → Ro Mx (la p) len → R44 Mx len b → bB b → ps.length + 1 < n → ∃ M', sp_X11_order_L92 K n (bJ b) 1 Mx = K (bJ (fm (mean (Cb M) (tk M) (Hh M first 10000000000) (nv (gI M 13 4)) (nv (gI M 32 10))) b (p :: ps))) M' ∧ Sm M M' ∧ R44 M' len (fm (mean (Cb M) (tk M) (Hh M first 10000000000) (nv (gI M 13 4)) (nv (gI M 32 10))) b (p :: ps)) ∧ bB (fm (mean (Cb M) (tk M) (Hh M first 10000000000) (nv (gI M 13 4)) (nv (gI M 32 10))) b (p :: ps)) ∧ gI M' 32 28 = nI len := by
  have n6 := h.2.2.2.1.n.1
  intro ps
  induction ps with
  | nil => ?_
  | cons p2 ps ih => ?_
  all_goals
    intro p b Mx n hch hall sm hr h44 hb hn
    obtain ⟨n, rfl⟩ : ∃ x, n = x + 1 := ⟨n - 1, by omega⟩
    obtain ⟨n, rfl⟩ : ∃ x, n = x + 1 := ⟨n - 1, by omega⟩
    obtain ⟨pl, pe⟩ := hall p (List.mem_cons_self ..)
    have hx := sm.inv h
    have t1' : gI Mx 32 10 / 5 = nI first := by rw [sm 32 10 (by unfold scr; omega)]; exact t1
    have hr' : Ro Mx (la p) p.length := by rw [pl]; exact hr
    have e0 := mean_e hx t1' (by rw [sm.sT']; exact t2) hr' (by omega) (fun k hk => by rw [sm.nM']; exact pe k (by omega))
    rw [sm 13 4 (by unfold scr; omega), sm 32 10 (by unfold scr; omega), sm.mean'] at e0
    generalize ev : mean (Cb M) (tk M) (Hh M first 10000000000) (nv (gI M 13 4)) (nv (gI M 32 10)) = v at *
    have vle : ∀ x, v p = some x → x ≤ 10000000000 * p.length := fun x hx => by
      rw [← ev] at hx
      exact mean_le (fun t => hz_le _ _ _ _ _) p _ _ x hx
    -- one row
    have step : ∃ My, (if bJ b < mvJ 0 (v p) then sp_X11_order_L116 (fun (v2_145 : Int64) (M_145 : Mm) => bd (sp_X11_nextOrder M_145) (fun r146 M146 => sp_X11_order_L92 K (n + 1) v2_145 r146 M146)) (mvJ 0 (v p)) fu (0 : Int32) Mx else (fun (v2_145 : Int64) (M_145 : Mm) => bd (sp_X11_nextOrder M_145) (fun r146 M146 => sp_X11_order_L92 K (n + 1) v2_145 r146 M146)) (bJ b) Mx) = bd (sp_X11_nextOrder My) (fun r146 M146 => sp_X11_order_L92 K (n + 1) (bJ (cb b ((v p).map (fun x => (x, p))))) r146 M146) ∧ Sm M My ∧ Ro My (la p) len ∧ R44 My len (cb b ((v p).map (fun x => (x, p)))) ∧ bB (cb b ((v p).map (fun x => (x, p)))) := by
      cases hv : v p with
      | none =>
        have : ¬ bJ b < mvJ 0 none := by
          show ¬ bJ b < -1
          cases b with
          | none => decide
          | some y => have := hb y rfl; exact J_m1 (by omega)
        rw [if_neg this]
        show ∃ My, _ = bd (sp_X11_nextOrder My) (fun r146 M146 => sp_X11_order_L92 K (n + 1) (bJ (cb b none)) r146 M146) ∧ _ ∧ _ ∧ R44 My len (cb b none) ∧ bB (cb b none)
        rw [cb_n]
        exact ⟨Mx, rfl, sm, hr, h44, hb⟩
      | some x =>
        have hxl := vle x hv
        have keep : ¬ bJ b < mvJ 0 (some x) → cb b (some (x, p)) = b := fun hlt => by
          cases b with
          | none => exact absurd (show bJ none < mvJ 0 (some x) from m1_J (by omega)) hlt
          | some y =>
            have hy := hb y rfl
            have : ¬ y.1 < x := fun z => hlt (show nJ y.1 < nJ (0 + x) by rw [nJ_lt (by omega) (by omega)]; omega)
            unfold cb
            dsimp only
            rw [if_neg this]
        have take : bJ b < mvJ 0 (some x) → cb b (some (x, p)) = some (x, p) := fun hlt => by
          cases b with
          | none => rfl
          | some y =>
            have hy := hb y rfl
            have : y.1 < x := by
              have hlt' : nJ y.1 < nJ (0 + x) := hlt
              rw [nJ_lt (by omega) (by omega)] at hlt'
              omega
            unfold cb
            dsimp only
            rw [if_pos this]
        by_cases hlt : bJ b < mvJ 0 (some x)
        · rw [if_pos hlt]
          show ∃ My, _ = bd (sp_X11_nextOrder My) (fun r146 M146 => sp_X11_order_L92 K (n + 1) (bJ (cb b (some (x, p)))) r146 M146) ∧ _ ∧ _ ∧ R44 My len (cb b (some (x, p))) ∧ bB (cb b (some (x, p)))
          rw [take hlt]
          obtain ⟨My, c1, c2, c3, c4⟩ := cpL (K := (fun (v2_145 : Int64) (M_145 : Mm) => bd (sp_X11_nextOrder M_145) (fun r146 M146 => sp_X11_order_L92 K (n + 1) v2_145 r146 M146))) (r := mvJ 0 (some x)) l6 fu 0 Mx (by omega) (by show _ < _ + 1000; omega) hr (fun j hj => by omega)
          refine ⟨My, ?_, fun c k hc => ?_, c2, fun y hy => ?_, fun y hy => ?_⟩
          · refine Eq.trans c1 ?_
            rw [show mvJ 0 (some x) = bJ (some (x, p)) by show nJ (0 + x) = nJ x; rw [Nat.zero_add]]
          · rw [c4 c k (fun z => hc (by unfold scr; omega))]; exact sm c k hc
          · have := Option.some.inj hy
            rw [← this]
            exact ⟨pl, c3⟩
          · have := Option.some.inj hy
            rw [← this]
            show x ≤ _
            omega
        · rw [if_neg hlt]
          show ∃ My, _ = bd (sp_X11_nextOrder My) (fun r146 M146 => sp_X11_order_L92 K (n + 1) (bJ (cb b (some (x, p)))) r146 M146) ∧ _ ∧ _ ∧ R44 My len (cb b (some (x, p))) ∧ bB (cb b (some (x, p)))
          rw [keep hlt]
          exact ⟨Mx, rfl, sm, hr, h44, hb⟩
    obtain ⟨My, s1, s2, s3, s4, s5⟩ := step
    rw [sp_X11_order_L92, if_neg i10, e0, bd_s, jn_e, s1, fm]
    have s3' : Ro My (la p) p.length := by rw [pl]; exact s3
    have pe' : ∀ k, k < p.length → la p k < 6 := fun k hk => by have := pe k (by omega); omega
  · rw [nx_end s3' (by omega) pe' hch, bd_s, sp_X11_order_L92, if_pos rfl]
    exact ⟨My, rfl, s2, s4, s5, s3.1⟩
  · obtain ⟨Mz, z1, z2, z3, z4⟩ := nx_go s3' (by omega) pe' hch
    obtain ⟨p2l, p2e⟩ := hall p2 (List.mem_cons_of_mem _ (List.mem_cons_self ..))
    rw [z1, bd_s]
    rw [p2l] at z2
    exact ih p2 _ Mz (n + 1) z4 (fun q hq => hall q (List.mem_cons_of_mem _ hq)) (fun c k hc => by rw [z3 c k (fun z => hc (by unfold scr; omega))]; exact s2 c k hc) z2 (fun x hx => ⟨(s4 x hx).1, fun k hk => by rw [z3 44 k (by omega)]; exact (s4 x hx).2 k hk⟩) s5 (by simp only [List.length_cons] at hn; omega)
