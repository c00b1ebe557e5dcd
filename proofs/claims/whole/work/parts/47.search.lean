/-! THE CALL order: the class goes through all sets -/
theorem choN {i : Nat} {M : Mm} (h2 : I_nt i M) {m : Nat} (hm : m ≤ 10000) : ∀ f g t v, t + f = sT M → f < g → v ≤ 1000000000 → sp_X4_holding_L10 (nI m) g (nJ v) (nI t) M = some (nJ (hz M m f t v), M) := by
  have s10 := h2.s.1
  intro f
  induction f with
  | zero =>
    intro g t v ht hg hv
    obtain ⟨g, rfl⟩ : ∃ x, g = x + 1 := ⟨g - 1, by omega⟩
    rw [sp_X4_holding_L10, h2.s.2.2, if_neg (by rw [nI_ltI (by omega) (by omega)]; omega)]
    rfl
  | succ f ih =>
    intro g t v ht hg hv
    obtain ⟨g, rfl⟩ : ∃ x, g = x + 1 := ⟨g - 1, by omega⟩
    obtain ⟨q1, q2, q3⟩ := h2.2.2.2.2.2.2.2.2.2.2.2.1 t (by omega)
    rw [sp_X4_holding_L10, h2.s.2.2, if_pos ((nI_ltI (by omega) (by omega)).mpr (by omega)), show (1 : Int32) = nI 1 from rfl, show (5 : Int32) = nI 5 from rfl, nI_add, nI_mul, hz]
    by_cases y : m < (t + 1) * 5
    · rw [if_pos ((nI_ltI (by omega) (by omega)).mpr y), if_pos y]
    · unfold sp_X7_breakTenths
      have h1 : v / 10 * (10 - nv (gI M 37 t)) ≤ v / 10 * 10 := Nat.mul_le_mul_left _ (by omega)
      have h2' := Nat.div_mul_le_self v 10
      rw [if_neg (by rw [nI_ltI (by omega) (by omega)]; exact y), if_neg y, at_n (show t < 10 by omega), bd_s, bd_s, bl_e, q1, q2, show (10 : Int32) = nI 10 from rfl, nI_sub (by omega), nI_J (by omega), show (10 : Int64) = nJ 10 from rfl, nJ_div (by omega) (by decide), nJ_mul, ← q2]
      exact ih g (t + 1) _ (by omega) (by omega) (by omega)
theorem cho_e {i : Nat} {M : Mm} (h2 : I_nt i M) (h6 : I_cu M) {first t : Nat} (t1 : gI M 32 10 / 5 = nI first) (t2 : first < sT M) (ht : t ≤ 10000) : sp_X4_holding (nI t) M = some (nJ (Hh M first 1000000000 t), M) := by
  have s10 := h2.s.1
  unfold sp_X4_holding sp_X1_stage
  rw [bd_s, h6.2.2.1, t1]
  exact choN h2 ht (sT M - first) fu first 1000000000 (by omega) (by show _ < 1000; omega) (Nat.le_refl _)
theorem Sm.ts' {M M' : Mm} (h : Sm M M') (s : Nat) : ∀ k, ts M' s k = ts M s k
  | 0 => by show nv _ = nv _; rw [h 32 10 (by unfold scr; omega)]
  | k + 1 => by rw [ts_s, ts_s, h.ts' s k, h 13 4 (by unfold scr; omega), h.tk']
theorem mwL {i : Nat} {M : Mm} (h2 : I_nt i M) (h4 : I_mn M) (h6 : I_cu M) {s : Nat} (hs : s < 64) : ∀ f k, k ≤ nM M → nM M < k + f → sp_X4_minuteWith_L9 (nI s) f (nI (ts M s k)) (nI k) M = some (nI (Ts M s), M) := by
  obtain ⟨n6, n2, n3⟩ := h4.n
  intro f
  induction f with
  | zero => intro k a b; omega
  | succ f ih =>
    intro k hk hf
    rw [sp_X4_minuteWith_L9, n3]
    by_cases hkn : k < nM M
    · rw [if_pos ((nI_ltI (by omega) (by omega)).mpr hkn), isIn_e hs (by omega), bd_s]
      have e := ts_s M s k
      by_cases hb : s.testBit k = true
      · rw [if_pos hb, if_neg i10, isInO h4 h6 (by omega), bd_s]
        by_cases ho : (nv (gI M 13 4)).testBit k = true
        · rw [if_pos ho, if_neg i10, nI_p]
          rw [if_neg (fun z => by rw [z.2] at ho; exact Bool.false_ne_true ho)] at e
          have := ih (k + 1) (by omega) (by omega)
          rwa [e] at this
        · have ho' : (nv (gI M 13 4)).testBit k = false := by
            cases e : (nv (gI M 13 4)).testBit k with
            | false => rfl
            | true => exact absurd e ho
          rw [if_neg ho, if_pos rfl, ctk_e h2 h4 h6 hkn, bd_s, bl_e, nI_add, nI_p]
          rw [if_pos ⟨hb, ho'⟩] at e
          have := ih (k + 1) (by omega) (by omega)
          rwa [e] at this
      · rw [if_neg hb, if_pos rfl, nI_p]
        rw [if_neg (fun z => hb z.1)] at e
        have := ih (k + 1) (by omega) (by omega)
        rwa [e] at this
    · rw [if_neg (by rw [nI_ltI (by omega) (by omega)]; exact hkn)]
      have : k = nM M := by omega
      subst this
      rfl
theorem mw_e {i : Nat} {M : Mm} (h2 : I_nt i M) (h4 : I_mn M) (h6 : I_cu M) {s : Nat} (hs : s < 64) : sp_X4_minuteWith (nI s) M = some (nI (Ts M s), M) := by
  unfold sp_X4_minuteWith
  rw [bl_e, (mi_n h6).2.1]
  exact mwL h2 h4 h6 hs fu 0 (Nat.zero_le _) (by have := h4.n.1; show _ < 0 + 1000; omega)
theorem all_e {M : Mm} (h4 : I_mn M) : sp_X2_all M = some (nI (2 ^ nM M - 1), M) := by
  unfold sp_X2_all
  rw [h4.n.2.2, b_all _ h4.n.1]
theorem hd_0 : hd (some (0, [])) = -1 := rfl
theorem fn_e {i : Nat} {M : Mm} (h2 : I_nt i M) (h4 : I_mn M) (h6 : I_cu M) {first s : Nat} (hs : s < 2 ^ nM M) (hv : nt (nv (gI M 13 4)) s = 0) {Mx : Mm} (sm : Sm M Mx) (tb : Tb M first Mx (s + 1)) : ∃ M', sp_X4_findNext (nI s) Mx = some ((), M') ∧ Fr s Mx M' ∧ gJ M' 24 0 = bJ (Ds M first s) ∧ gI M' 26 s = hd (Ds M first s) := by
  have n6 := h4.n.1
  have p64 := pw_64 n6
  have hD := Ds_r h4 h6 first hs hv
  unfold sp_X4_findNext
  rw [all_e (sm.mn h4), bd_s, sm.nM', jn_if]
  have fr : ∀ v : Int64, Fr s Mx (sI (sJ Mx 24 0 v) 26 s (-1)) := fun v => ⟨fun c j hx => by rw [gI_o hx, gI_sJ], fun c j hx => by rw [gJ_sI, gJ_sJ, if_neg hx]⟩
  have main : ∀ (b : Nat → Option (Nat × List Nat)) (v : Int64), (∀ k, k < nM M → b (k + 1) = cb (b k) (gS M first s k)) → (∀ k, bB (b k)) → v = bJ (b 0) → hd (b 0) = -1 → b (nM M) = Ds M first s → ∃ M', sp_X4_findNext_L30 (nI s) fu 0 (sI (sJ Mx 24 0 v) 26 s (-1)) = some ((), M') ∧ Fr s Mx M' ∧ gJ M' 24 0 = bJ (Ds M first s) ∧ gI M' 26 s = hd (Ds M first s) := by
    intro b v hb hbb hv0 hh he
    obtain ⟨M', m1, m2, m3, m4⟩ := fnL h2 h4 h6 hs hv b hb hbb fu 0 (sI (sJ Mx 24 0 v) 26 s (-1)) (Nat.zero_le _) (by show _ < 0 + 1000; omega) ((fr v).sm sm) (fun u a1 a2 a3 => by rw [(fr v).1 _ _ (by omega), (fr v).2 _ _ (by omega)]; exact tb u a1 a2 a3) (by rw [gJ_sI, gJ_sJ, if_pos ⟨rfl, rfl⟩]; exact hv0) (by rw [gI_s]; exact hh.symm)
    rw [he] at m3 m4
    exact ⟨M', m1, ⟨fun c j hx => (m2.1 c j hx).trans ((fr v).1 c j hx), fun c j hx => (m2.2 c j hx).trans ((fr v).2 c j hx)⟩, m3, m4⟩
  by_cases y : s = 2 ^ nM M - 1
  · rw [if_pos (by rw [← y]), bl_e, put_n (show s < 64 by omega), bd_s]
    rw [if_pos y] at hD
    refine main (fun _ => some (0, [])) 0 (fun k hk => ?_) (fun k x hx => ?_) rfl rfl hD.symm
    · have : s.testBit k = true := by rw [y]; exact tb_all (nM M) n6 k hk
      rw [gS_no (fun z => by rw [Cb_no z] at this; exact absurd this (by simp)), cb_n]
    · have := Option.some.inj hx
      rw [← this]
      exact Nat.zero_le _
  · rw [if_neg (by rw [nI_eq (by omega) (by omega)]; exact y), bl_e, put_n (show s < 64 by omega), bd_s]
    rw [if_neg y] at hD
    refine main (FB (gS M first s)) (-1) (fun k hk => FB_s _ k) (fun k x hx => ?_) rfl rfl hD.symm
    rcases FB_in (g := gS M first s) k with z | ⟨m, _, z⟩
    · rw [hx] at z; exact absurd z (by simp)
    · rw [hx] at z
      exact gS_le z.symm
theorem bJ_t (x : Nat × List Nat) (hx : x.1 ≤ 1000000000000) : ¬ bJ (some x) = -1 := by
  intro z
  have h1 : (nJ x.1).toInt = (-1 : Int64).toInt := congrArg Int64.toInt z
  rw [nJ_int (by omega), show (-1 : Int64).toInt = -1 from rfl] at h1
  omega
theorem srL {i : Nat} {M : Mm} (h2 : I_nt i M) (h4 : I_mn M) (h6 : I_cu M) {first : Nat} (t1 : gI M 32 10 / 5 = nI first) (t2 : first < sT M) : ∀ j f x Mx, x = nI j + (-1) → j ≤ 2 ^ nM M → j < f → Sm M Mx → gI Mx 24 1 = nI (nv (gI M 13 4)) → Tb M first Mx j → (j ≤ nv (gI M 13 4) → gJ Mx 24 0 = bJ (Ds M first (nv (gI M 13 4)))) → ∃ M', sp_X4_search_L14 f x Mx = some ((), M') ∧ Sm M M' ∧ gI M' 24 1 = nI (nv (gI M 13 4)) ∧ Tb M first M' 0 ∧ gJ M' 24 0 = bJ (Ds M first (nv (gI M 13 4))) := by
  have n6 := h4.n.1
  have p64 := pw_64 n6
  obtain ⟨o1, o2, o3⟩ := ob_n h4 h6
  generalize eo : nv (gI M 13 4) = ov at *
  intro j
  induction j with
  | zero =>
    intro f x Mx hx hj hf sm h24 tb h0
    obtain ⟨f, rfl⟩ : ∃ y, f = y + 1 := ⟨f - 1, by omega⟩
    subst hx
    rw [sp_X4_search_L14, if_pos (by decide)]
    exact ⟨Mx, rfl, sm, h24, tb, h0 (Nat.zero_le _)⟩
  | succ j ih =>
    intro f x Mx hx hj hf sm h24 tb h0
    obtain ⟨f, rfl⟩ : ∃ y, f = y + 1 := ⟨f - 1, by omega⟩
    rw [nI_m1] at hx
    subst hx
    rw [sp_X4_search_L14, if_neg (nI_pos (by omega)), h24, holds_e (by omega) o3, bd_s]
    by_cases hv : nt ov j = 0
    · rw [if_pos hv, if_neg i10]
      obtain ⟨M1, a1, a2, a3, a4⟩ := fn_e h2 h4 h6 (first := first) (s := j) (by omega) (by rw [eo]; exact hv) sm tb
      have sm1 := a2.sm sm
      have t1' : gI M1 32 10 / 5 = nI first := by rw [sm1 32 10 (by unfold scr; omega)]; exact t1
      have eT : Ts M1 j = Ts M j := by unfold Ts; rw [sm1.nM', sm1.ts']
      have hT : Ts M j ≤ 10000 := by have := ts_le h4 h6 j (nM M) (Nat.le_refl _); show ts M j (nM M) ≤ _; omega
      have eH : Hh M1 first 1000000000 (Ts M j) = Hh M first 1000000000 (Ts M j) := by unfold Hh; rw [sm1.sT', sm1.hz']
      rw [a1, bd_s, mw_e (sm1.nt h2) (sm1.mn h4) (sm1.cu h6) (by omega), bd_s, eT, cho_e (sm1.nt h2) (sm1.cu h6) t1' (by rw [sm1.sT']; exact t2) hT, bd_s, eH]
      unfold sp_X4_isThere
      rw [a3]
      have fin : ∀ v : Int64, v = Wt M first j → ∃ M', (bd (sp_X10_put_ 25 (nI j) v M1) (fun _ M79 => sp_X4_search_L14 f (nI j + (-1)) M79)) = some ((), M') ∧ Sm M M' ∧ gI M' 24 1 = nI ov ∧ Tb M first M' 0 ∧ gJ M' 24 0 = bJ (Ds M first ov) := by
        intro v ev
        rw [putJ_n (show j < 64 by omega), bd_s]
        refine ih f _ _ rfl (by omega) (by omega) sm1.sJ (by rw [gI_sJ, a2.1 _ _ (by omega)]; exact h24) (fun u b1 b2 b3 => ?_) (fun hjo => ?_)
        · rw [gI_sJ, gJ_sJ]
          by_cases y : u = j
          · subst y
            rw [if_pos ⟨rfl, rfl⟩]
            exact ⟨ev, a4⟩
          · rw [if_neg (fun z => y z.2), a2.1 _ _ (by omega), a2.2 _ _ (by omega)]
            exact tb u (by omega) b2 b3
        · rw [gJ_sJ, if_neg (by omega), a3]
          have := sub_le ov o3 j (by omega) hv
          have e : j = ov := by omega
          rw [e]
      cases hD : Ds M first j with
      | none =>
        rw [if_pos (show bJ none = -1 from rfl), bd_s, jn_e, if_pos rfl]
        exact fin _ (by unfold Wt; rw [hD])
      | some y =>
        have hy := Ds_le hD
        rw [if_neg (bJ_t y (by omega)), bd_s, jn_e, if_neg i10, a3, hD]
        refine fin _ ?_
        unfold Wt
        rw [hD]
        exact nJ_add _ _
    · rw [if_neg hv, if_pos rfl]
      refine ih f _ Mx rfl (by omega) (by omega) sm h24 (fun u b1 b2 b3 => ?_) (fun hjo => h0 ?_)
      · by_cases y : u = j
        · rw [y] at b3; rw [eo] at b3; exact absurd b3 hv
        · exact tb u (by omega) b2 b3
      · by_cases y : j = ov
        · exfalso
          apply hv
          rw [y]
          exact (nt_0 ov o3 ov o3).mpr (fun _ _ z => z)
        · omega
theorem cs_e {i : Nat} {M : Mm} (h2 : I_nt i M) (h4 : I_mn M) (h6 : I_cu M) {first : Nat} (t1 : gI M 32 10 / 5 = nI first) (t2 : first < sT M) : ∃ M', sp_X4_search M = some ((), M') ∧ Sm M M' ∧ gI M' 24 1 = nI (nv (gI M 13 4)) ∧ Tb M first M' 0 ∧ gJ M' 24 0 = bJ (Ds M first (nv (gI M 13 4))) := by
  have n6 := h4.n.1
  have p64 := pw_64 n6
  have pp := Nat.two_pow_pos (nM M)
  obtain ⟨o1, o2, o3⟩ := ob_n h4 h6
  unfold sp_X4_search
  have sm : Sm M (sI M 24 1 (gI M 13 4)) := (Sm.rf M).sI (by unfold scr; omega)
  rw [bl_e, all_e (sm.mn h4), bd_s, sm.nM']
  refine srL h2 h4 h6 t1 t2 (2 ^ nM M) fu _ _ ?_ (Nat.le_refl _) (by show _ < 1000; omega) sm (by rw [gI_s]; exact o1) (fun u a1 a2 a3 => by omega) (fun z => by omega)
  have := nI_m1 (2 ^ nM M - 1)
  rw [show 2 ^ nM M - 1 + 1 = 2 ^ nM M by omega] at this
  exact this.symm
theorem maL {M : Mm} (h4 : I_mn M) (h6 : I_cu M) {first : Nat} {Mx : Mm} (tb : Tb M first Mx 0) {p : Nat} (hp : p < 1000) : ∀ (l : List Nat) s v j f v3, s < 2 ^ nM M → nt (nv (gI M 13 4)) s = 0 → Ds M first s = some (v, l) → j ≤ p + 1 → p + 1 < j + f → sp_X4_manAt_L10 (nI p) f (nI s) v3 (nI j) Mx = some (if p < j then v3 else if p - j < l.length then nI (la l (p - j)) else -1, Mx) := by
  have n6 := h4.n.1
  have p64 := pw_64 n6
  have o3 := (ob_n h4 h6).2.2
  intro l
  induction l with
  | nil => ?_
  | cons m l ih => ?_
  all_goals
    intro s v j f v3 hs hv hD hj hf
    obtain ⟨f, rfl⟩ : ∃ y, f = y + 1 := ⟨f - 1, by omega⟩
    obtain ⟨w1, w2⟩ := tb s (Nat.zero_le _) hs hv
    rw [hD] at w2
    rw [sp_X4_manAt_L10]
    by_cases hpj : p < j
    · rw [if_pos ((nI_ltI (by omega) (by omega)).mpr hpj), if_pos hpj]
    rw [if_neg (by rw [nI_ltI (by omega) (by omega)]; exact hpj), if_neg hpj, at_n (show s < 64 by omega), bd_s, w2]
  · rw [if_pos (show hd (some (v, [])) = -1 from rfl), if_neg (by simp)]
  · obtain ⟨c1, c2, v', c3⟩ := Ds_c h4 h6 hs hv hD
    have hm : ¬ hd (some (v, m :: l)) = -1 := fun z => by
      have h1 : (nI m).toInt = (-1 : Int32).toInt := congrArg Int32.toInt z
      rw [nI_int (by omega), show (-1 : Int32).toInt = -1 from rfl] at h1
      omega
    have hu : s ||| 2 ^ m < 2 ^ nM M := by have := or_lt (a := s) (b := m) (n := nM M) (by omega) c1; omega
    rw [if_neg hm, show hd (some (v, m :: l)) = nI m from rfl, with_e (by omega) (by omega), bd_s, nI_p, ih (s ||| 2 ^ m) v' (j + 1) f (nI m) hu (sub_or o3 (by omega) (by omega) hv) c3 (by omega) (by omega)]
    by_cases e : p = j
    · subst e
      rw [if_pos (by omega), if_pos (by rw [List.length_cons]; omega), Nat.sub_self]
      rfl
    · rw [if_neg (by omega), List.length_cons]
      have el : la (m :: l) (p - j) = la l (p - (j + 1)) := by
        obtain ⟨d, hd⟩ : ∃ d, p - j = d + 1 := ⟨p - j - 1, by omega⟩
        rw [hd, show p - (j + 1) = d by omega]
        rfl
      rw [el]
      by_cases y : p - (j + 1) < l.length
      · rw [if_pos y, if_pos (by omega)]
      · rw [if_neg y, if_neg (by omega)]
