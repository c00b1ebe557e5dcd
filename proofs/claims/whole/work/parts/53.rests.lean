/-! ORDERS AND SURE: the class's tables, the second; the class's answers -/
def xr (A : Nat → Nat) (n u k : Nat) : Nat := (if u = 2 ^ n - 1 then 1 else 0) + su (fun m => if mfb A u m = true then Rt A n (u ||| 2 ^ m) else 0) k
theorem xr_n (A : Nat → Nat) {n u : Nat} (n6 : n ≤ 6) (hu : u < 2 ^ n) : xr A n u n = Rt A n u := by
  unfold xr
  rw [Rt_r A n6 hu]
  by_cases y : u = 2 ^ n - 1
  · rw [if_pos y, if_pos y, su_cong (g' := fun _ => 0) (fun m hm => by rw [if_neg]; intro z; have := (mfb_i.mp z).1; rw [y, tb_all n n6 m hm] at this; exact absurd this (by simp))]
    have := su_le (g := fun _ => 0) (B := 0) (fun _ => Nat.le_refl _) n
    omega
  · rw [if_neg y, if_neg y, Nat.zero_add]
def Rv (M : Mm) (lo : Nat) (Mx : Mm) : Prop := (∀ v, v < 2 ^ nM M → gI Mx 29 v = nI (Wy (Aw M) v)) ∧ ∀ v, v < 2 ^ nM M → gI Mx 30 v = nI (if lo ≤ v then Rt (Aw M) (nM M) v else if v = 2 ^ nM M - 1 then 1 else 0)
theorem rcI {M : Mm} (h4 : I_mn M) (h6 : I_cu M) {u : Nat} (hu : u < 2 ^ nM M) (K : Mm → Option (Unit × Mm)) : ∀ f k Mx, k ≤ nM M → nM M < k + f → Sc M Mx → (∀ v, v < 2 ^ nM M → gI Mx 29 v = nI (Wy (Aw M) v)) → (∀ v, v < 2 ^ nM M → v ≠ u → gI Mx 30 v = nI (if u + 1 ≤ v then Rt (Aw M) (nM M) v else if v = 2 ^ nM M - 1 then 1 else 0)) → gI Mx 30 u = nI (xr (Aw M) (nM M) u k) → ∃ M', sp_X8_countRests_L31 (nI u) K f (nI k) Mx = K M' ∧ Sc M M' ∧ Rv M u M' := by
  have n6 := h4.n.1
  have p64 := pw_64 n6
  intro f
  induction f with
  | zero => intro k Mx a b; omega
  | succ f ih =>
    intro k Mx hk hf sc wv rv ru
    rw [sp_X8_countRests_L31, sc.2.1]
    by_cases hkn : k < nM M
    · have es : xr (Aw M) (nM M) u (k + 1) = xr (Aw M) (nM M) u k + (if mfb (Aw M) u k = true then Rt (Aw M) (nM M) (u ||| 2 ^ k) else 0) := by
        unfold xr
        rw [su_s, Nat.add_assoc]
      rw [if_pos ((nI_ltI (by omega) (by omega)).mpr hkn), mf_e h4 h6 sc (by omega) hkn, bd_s]
      by_cases hf' : mfb (Aw M) u k = true
      · have hv : u ||| 2 ^ k < 2 ^ nM M := or_n hu hkn
        have hgt := or_gt u (by omega) k (by omega) (mfb_i.mp hf').1
        have e1 := rv (u ||| 2 ^ k) hv (by omega)
        rw [if_pos (by omega)] at e1
        rw [if_pos hf'] at es
        rw [if_pos hf', if_neg i10, at_n (show u < 64 by omega), bd_s, with_e (by omega) (by omega), bd_s, at_n (show u ||| 2 ^ k < 64 by omega), bd_s, put_n (show u < 64 by omega), bd_s, ru, e1, nI_add, nI_p, ← es]
        exact ih (k + 1) _ (by omega) (by omega) (sc.set (fun c j h1 h2 => gI_o (by omega))) (fun v hv' => by rw [gI_o (by omega)]; exact wv v hv') (fun v hv' hne => by rw [gI_o (by omega)]; exact rv v hv' hne) gI_s
      · rw [if_neg hf', Nat.add_zero] at es
        rw [if_neg hf', if_pos rfl, nI_p]
        exact ih (k + 1) _ (by omega) (by omega) sc wv rv (by rw [es]; exact ru)
    · rw [if_neg (by rw [nI_ltI (by omega) (by omega)]; exact hkn)]
      have : k = nM M := by omega
      subst this
      refine ⟨Mx, rfl, sc, wv, fun v hv => ?_⟩
      by_cases y : v = u
      · rw [y, ru, xr_n _ n6 hu, if_pos (Nat.le_refl _)]
      · rw [rv v hv y]
        by_cases z : u + 1 ≤ v
        · rw [if_pos z, if_pos (by omega)]
        · rw [if_neg z, if_neg (show ¬ u ≤ v by omega)]
theorem rcO {M : Mm} (h4 : I_mn M) (h6 : I_cu M) : ∀ j f x Mx, x = nI j + (-1) → j ≤ 2 ^ nM M → j < f → Sc M Mx → Rv M j Mx → ∃ M', sp_X8_countRests_L25 f x Mx = some ((), M') ∧ Sc M M' ∧ Rv M 0 M' := by
  have n6 := h4.n.1
  have p64 := pw_64 n6
  intro j
  induction j with
  | zero =>
    intro f x Mx hx hj hf sc rv
    obtain ⟨f, rfl⟩ : ∃ y, f = y + 1 := ⟨f - 1, by omega⟩
    subst hx
    rw [sp_X8_countRests_L25, if_pos (by decide)]
    exact ⟨Mx, rfl, sc, rv⟩
  | succ j ih =>
    intro f x Mx hx hj hf sc rv
    obtain ⟨f, rfl⟩ : ∃ y, f = y + 1 := ⟨f - 1, by omega⟩
    rw [nI_m1] at hx
    subst hx
    rw [sp_X8_countRests_L25, if_neg (nI_pos (by omega)), jn_e]
    obtain ⟨M1, e1, e2, e3⟩ := rcI h4 h6 (u := j) (by omega) (fun (M_83 : Mm) => sp_X8_countRests_L25 f (nI j + (-1)) M_83) fu 0 Mx (Nat.zero_le _) (by show _ < 0 + 1000; omega) sc rv.1 (fun v hv _ => rv.2 v hv) (by
      rw [rv.2 j (by omega), if_neg (by omega)]
      unfold xr
      rfl)
    obtain ⟨M2, f1, f2, f3⟩ := ih f _ M1 rfl (by omega) (by omega) e2 e3
    exact ⟨M2, e1.trans f1, f2, f3⟩
theorem rc_e {M Mx : Mm} (h4 : I_mn M) (h6 : I_cu M) (sc : Sc M Mx) (wv : ∀ v, v < 2 ^ nM M → gI Mx 29 v = nI (Wy (Aw M) v)) : ∃ M', sp_X8_countRests Mx = some ((), M') ∧ Sc M M' ∧ Rv M 0 M' := by
  have n6 := h4.n.1
  have p64 := pw_64 n6
  have pp := Nat.two_pow_pos (nM M)
  unfold sp_X8_countRests
  obtain ⟨M1, e1, e2⟩ := fill_e (c0 := 30) (v := 0) Mx
  have l30 : ln 30 = 64 := rfl
  have e27 : gI M1 27 1 = nI (2 ^ nM M - 1) := by rw [e2, if_neg (fun z => by omega)]; exact sc.2.2.1
  rw [e1, bd_s, e27, put_n (show 2 ^ nM M - 1 < 64 by omega), bd_s, gI_o (by omega), e27, bl_e]
  have sc1 : Sc M (sI M1 30 (2 ^ nM M - 1) 1) := sc.set (fun c k h1 h2 => by rw [gI_o (by omega), e2, if_neg (fun z => h2 z.1)])
  refine rcO h4 h6 (2 ^ nM M) fu _ _ ?_ (Nat.le_refl _) (by show _ < 1000; omega) sc1 ⟨fun v hv => by rw [gI_o (by omega), e2, if_neg (fun z => by omega)]; exact wv v hv, fun v hv => ?_⟩
  · have := nI_m1 (2 ^ nM M - 1)
    rw [show 2 ^ nM M - 1 + 1 = 2 ^ nM M by omega] at this
    exact this.symm
  · rw [if_neg (by omega)]
    by_cases y : v = 2 ^ nM M - 1
    · rw [y, gI_s, if_pos rfl]; rfl
    · rw [gI_o (by omega), e2, if_pos ⟨rfl, by omega⟩, if_neg y]; rfl
theorem shL {M : Mm} (h4 : I_mn M) (h6 : I_cu M) (K : Mm → Option (Unit × Mm)) : ∀ f k Mx, k ≤ nM M → nM M < k + f → Sm M Mx → gI Mx 27 0 = nI (nM M) → gI Mx 27 1 = nI (2 ^ nM M - 1) → (∀ m, m < k → gI Mx 28 m = nI (Aw M m)) → ∃ M', sp_X8_search_L18 K f (nI k) Mx = K M' ∧ Sc M M' := by
  have n6 := h4.n.1
  have p64 := pw_64 n6
  intro f
  induction f with
  | zero => intro k Mx a b; omega
  | succ f ih =>
    intro k Mx hk hf sm z0 z1 z2
    rw [sp_X8_search_L18, z0]
    by_cases hkn : k < nM M
    · obtain ⟨s1, s2⟩ := sc_n h4 h6 hkn
      rw [if_pos ((nI_ltI (by omega) (by omega)).mpr hkn), ahead_e (sm.mn h4) (by rw [sm.nM']; exact hkn), bd_s, sm.ahd']
      unfold sp_X1_saidAhead
      rw [at_n (show k < 6 by omega), bd_s, bd_s, sm 15 k (by unfold scr; omega), s1, b_or _ (ahd_lt h4 hkn) _ (by omega), put_n (show k < 6 by omega), bd_s, nI_p]
      refine ih (k + 1) _ (by omega) (by omega) (sm.sI (by unfold scr; omega)) (by rw [gI_o (by omega)]; exact z0) (by rw [gI_o (by omega)]; exact z1) (fun m hm => ?_)
      by_cases y : m = k
      · rw [y, gI_s]; rfl
      · rw [gI_o (by omega)]; exact z2 m (by omega)
    · rw [if_neg (by rw [nI_ltI (by omega) (by omega)]; exact hkn)]
      have : k = nM M := by omega
      subst this
      exact ⟨Mx, rfl, sm, z0, z1, z2⟩
theorem ss_e {M : Mm} (h4 : I_mn M) (h6 : I_cu M) : ∃ M', sp_X8_search M = some ((), M') ∧ Sc M M' ∧ Rv M 0 M' := by
  have n6 := h4.n.1
  have p64 := pw_64 n6
  have pp := Nat.two_pow_pos (nM M)
  unfold sp_X8_search
  have sm1 : Sm M (sI M 27 0 (gI M 9 0)) := (Sm.rf M).sI (by unfold scr; omega)
  rw [bl_e, all_e (sm1.mn h4), bd_s, bl_e, jn_e, sm1.nM']
  obtain ⟨M1, e1, e2⟩ := shL h4 h6 (fun (M_51 : Mm) => bd (sp_X8_countWays M_51) (fun _ M52 => bd (sp_X8_countRests M52) (fun _ M56 => some ((), M56)))) fu 0 (sI (sI M 27 0 (gI M 9 0)) 27 1 (nI (2 ^ nM M - 1))) (Nat.zero_le _) (by show _ < 0 + 1000; omega) (sm1.sI (by unfold scr; omega)) (by rw [gI_o (by omega), gI_s]; exact h4.n.2.2) gI_s (fun m hm => by omega)
  obtain ⟨M2, f1, f2, f3⟩ := cy_e h4 h6 e2
  obtain ⟨M3, g1, g2, g3⟩ := rc_e h4 h6 f2 f3
  refine ⟨M3, e1.trans ?_, g2, g3⟩
  rw [f1, bd_s, g1, bd_s]
theorem cors_e {M : Mm} (h4 : I_mn M) (h6 : I_cu M) : ∃ M', sp_X10_orders M = some (nI (Rt (Aw M) (nM M) 0), M') ∧ Sm M M' := by
  have pp := Nat.two_pow_pos (nM M)
  obtain ⟨M1, e1, e2, e3⟩ := ss_e h4 h6
  refine ⟨M1, ?_, e2.1⟩
  unfold sp_X10_orders sp_X8_total
  have := e3.2 0 pp
  rw [if_pos (Nat.zero_le _)] at this
  rw [e1, bd_s, show (0 : Int32) = nI 0 from rfl, at_n (show 0 < 64 by omega), bd_s, bd_s, this]
theorem z_ltI {a : Nat} (h : a < 2 ^ 31) : ((0 : Int32) < nI a) ↔ 0 < a := nI_ltI (a := 0) (by decide) h
/-- a place that a man has in some row -/
def Qs (M : Mm) (m s : Nat) : Prop := s < 2 ^ nM M ∧ mfb (Aw M) s m = true ∧ 0 < Wy (Aw M) s ∧ 0 < Rt (Aw M) (nM M) (s ||| 2 ^ m)
def Pl (M : Mm) (m k : Nat) : Prop := ∃ s, Qs M m s ∧ pc s = k
/-- the answer of sure -/
def An (M : Mm) (m : Nat) (r : Int32) : Prop := (∃ k, r = nI k ∧ Pl M m k ∧ ∀ j, Pl M m j → j = k) ∨ (r = -1 ∧ ((∀ j, ¬ Pl M m j) ∨ ∃ j k, Pl M m j ∧ Pl M m k ∧ j ≠ k))
theorem suL {M Mx : Mm} (h4 : I_mn M) (h6 : I_cu M) (sc : Sc M Mx) (rv : Rv M 0 Mx) {m : Nat} (hm : m < nM M) : ∀ f u x, u ≤ 2 ^ nM M → 2 ^ nM M < u + f → ((x = -1 ∧ ∀ s, s < u → ¬ Qs M m s) ∨ ∃ k, k ≤ 6 ∧ x = nI k ∧ Pl M m k ∧ ∀ s, s < u → Qs M m s → pc s = k) → ∃ r, sp_X8_surePlace_L4 (nI m) f x (nI u) Mx = some (r, Mx) ∧ An M m r := by
  have n6 := h4.n.1
  have p64 := pw_64 n6
  have pp := Nat.two_pow_pos (nM M)
  intro f
  induction f with
  | zero => intro u x a b; omega
  | succ f ih =>
    intro u x hu hf st
    rw [sp_X8_surePlace_L4, sc.2.2.1]
    by_cases hun : u < 2 ^ nM M
    · rw [if_neg (by rw [nI_ltI (by omega) (by omega)]; omega), mf_e h4 h6 sc (by omega) hm, bd_s, nI_p]
      have skip : ¬ Qs M m u → ∃ r, sp_X8_surePlace_L4 (nI m) f x (nI (u + 1)) Mx = some (r, Mx) ∧ An M m r := fun hq => by
        refine ih (u + 1) x (by omega) (by omega) ?_
        rcases st with ⟨a, b⟩ | ⟨k, a, b, c, d⟩
        · refine Or.inl ⟨a, fun s hs => ?_⟩
          by_cases y : s = u
          · rw [y]; exact hq
          · exact b s (by omega)
        · refine Or.inr ⟨k, a, b, c, fun s hs hQ => ?_⟩
          by_cases y : s = u
          · rw [y] at hQ; exact absurd hQ hq
          · exact d s (by omega) hQ
      by_cases hf' : mfb (Aw M) u m = true
      · have hw := Wy_le (Aw M) u
        have hr := Rt_le (Aw M) (nM M) (u ||| 2 ^ m)
        have e2 := rv.2 (u ||| 2 ^ m) (or_n hun hm)
        rw [if_pos (Nat.zero_le _)] at e2
        have hv := or_n hun hm
        rw [if_pos hf', if_neg i10, at_n (show u < 64 by omega), bd_s, rv.1 u hun]
        by_cases h1 : 0 < Wy (Aw M) u
        · rw [if_pos ((z_ltI (by omega)).mpr h1), with_e (by omega) (by omega), bd_s, at_n (show u ||| 2 ^ m < 64 by omega), bd_s, e2]
          by_cases h2 : 0 < Rt (Aw M) (nM M) (u ||| 2 ^ m)
          · have hq : Qs M m u := ⟨hun, hf', h1, h2⟩
            have hp6 := pc_6 u (by omega)
            rw [if_pos ((z_ltI (by omega)).mpr h2), bc_e (by omega), bd_s]
            rcases st with ⟨a, b⟩ | ⟨k, a, b, c, d⟩
            · rw [if_pos a]
              refine ih (u + 1) _ (by omega) (by omega) (Or.inr ⟨pc u, hp6, rfl, ⟨u, hq, rfl⟩, fun s hs hQ => ?_⟩)
              by_cases y : s = u
              · rw [y]
              · exact absurd hQ (b s (by omega))
            · have hx : ¬ x = -1 := fun z => by
                rw [b] at z
                have h1 : (nI k).toInt = (-1 : Int32).toInt := congrArg Int32.toInt z
                rw [nI_int (by omega), show (-1 : Int32).toInt = -1 from rfl] at h1
                omega
              rw [if_neg hx, b]
              by_cases hk : k = pc u
              · rw [if_pos (by rw [hk])]
                refine ih (u + 1) _ (by omega) (by omega) (Or.inr ⟨pc u, hp6, rfl, ⟨u, hq, rfl⟩, fun s hs hQ => ?_⟩)
                by_cases y : s = u
                · rw [y]
                · rw [← hk]; exact d s (by omega) hQ
              · rw [if_neg (fun z => hk ((nI_eq (by omega) (by omega)).mp z))]
                exact ⟨-1, rfl, Or.inr ⟨rfl, Or.inr ⟨k, pc u, c, ⟨u, hq, rfl⟩, hk⟩⟩⟩
          · rw [if_neg (fun z => h2 ((z_ltI (by omega)).mp z))]
            exact skip (fun z => h2 z.2.2.2)
        · rw [if_neg (fun z => h1 ((z_ltI (by omega)).mp z))]
          exact skip (fun z => h1 z.2.2.1)
      · rw [if_neg hf', if_pos rfl]
        exact skip (fun z => hf' z.2.1)
    · rw [if_pos ((nI_ltI (by omega) (by omega)).mpr (by omega))]
      refine ⟨x, rfl, ?_⟩
      rcases st with ⟨a, b⟩ | ⟨k, a, b, c, d⟩
      · refine Or.inr ⟨a, Or.inl ?_⟩
        rintro j ⟨s, hs, _⟩
        have := hs.1
        exact b s (by omega) hs
      · refine Or.inl ⟨k, b, c, ?_⟩
        rintro j ⟨s, hs, rfl⟩
        have := hs.1
        exact d s (by omega) hs
theorem csur_e {M : Mm} (h4 : I_mn M) (h6 : I_cu M) {m : Nat} (hm : m < nM M) : ∃ r M', bd (sp_X8_search M) (fun _ M26 => bd (sp_X8_surePlace (nI m) M26) (fun r34 M34 => some (r34, M34))) = some (r, M') ∧ Sm M M' ∧ An M m r := by
  have n6 := h4.n.1
  have p64 := pw_64 n6
  obtain ⟨M1, e1, e2, e3⟩ := ss_e h4 h6
  obtain ⟨r, f1, f2⟩ := suL h4 h6 e2 e3 hm fu 0 (-1) (Nat.zero_le _) (by show _ < 0 + 1000; omega) (Or.inl ⟨rfl, fun s hs => by omega⟩)
  refine ⟨r, M1, ?_, e2.1, f2⟩
  rw [e1, bd_s]
  unfold sp_X8_surePlace
  rw [show (0 : Int32) = nI 0 from rfl, f1, bd_s]
