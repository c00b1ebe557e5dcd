/-! ORDERS AND SURE: the class's tables -/
def Aw (M : Mm) (m : Nat) : Nat := ahd M m ||| nv (gI M 15 m)
theorem sc_n {M : Mm} (h4 : I_mn M) (h6 : I_cu M) {m : Nat} (hm : m < nM M) : gI M 15 m = nI (nv (gI M 15 m)) ∧ nv (gI M 15 m) < 2 ^ nM M := by
  have n6 := h4.n.1
  have pp := Nat.two_pow_pos (nM M)
  have h := (h6.2.2.2.2.2.2.2.2.2.2.2.2.2.2.2.2.1 m hm).1
  exact ⟨h.1, by have := h.2; omega⟩
theorem Aw_lt {M : Mm} (h4 : I_mn M) (h6 : I_cu M) {m : Nat} (hm : m < nM M) : Aw M m < 64 := by
  have p64 := pw_64 h4.n.1
  have := (sc_n h4 h6 hm).2
  exact or_64 (ahd_lt h4 hm) (by omega)
def Sc (M Mx : Mm) : Prop := Sm M Mx ∧ gI Mx 27 0 = nI (nM M) ∧ gI Mx 27 1 = nI (2 ^ nM M - 1) ∧ ∀ m, m < nM M → gI Mx 28 m = nI (Aw M m)
theorem Sc.set {M A B : Mm} (h : Sc M A) (g : ∀ c k, c ≠ 29 → c ≠ 30 → gI B c k = gI A c k) : Sc M B :=
  ⟨fun c k z => (g c k (fun y => z (by unfold scr; omega)) (fun y => z (by unfold scr; omega))).trans (h.1 c k z), by rw [g _ _ (by omega) (by omega)]; exact h.2.1, by rw [g _ _ (by omega) (by omega)]; exact h.2.2.1, fun m hm => by rw [g _ _ (by omega) (by omega)]; exact h.2.2.2 m hm⟩
theorem mf_e {M Mx : Mm} (h4 : I_mn M) (h6 : I_cu M) (sc : Sc M Mx) {s m : Nat} (hs : s < 64) (hm : m < nM M) : sp_X8_mayFollow (nI s) (nI m) Mx = some (if mfb (Aw M) s m = true then 1 else 0, Mx) := by
  have n6 := h4.n.1
  unfold sp_X8_mayFollow
  rw [isIn_e hs (by omega), bd_s]
  by_cases hb : s.testBit m = true
  · rw [if_pos hb, if_neg i10, if_neg (fun z => by rw [(mfb_i.mp z).1] at hb; exact Bool.false_ne_true hb)]
  · rw [if_neg hb, if_pos rfl, at_n (show m < 6 by omega), bd_s, sc.2.2.2 m hm, holds_e hs (Aw_lt h4 h6 hm), bd_s]
    by_cases hc : nt (Aw M m) s = 0
    · rw [if_pos hc, if_neg i10, if_pos (mfb_i.mpr ⟨by simpa using hb, hc⟩)]
    · rw [if_neg hc, if_pos rfl, if_neg (fun z => hc (mfb_i.mp z).2)]
/-- ways so far: the sets below u have been gone through, and u by the men below k -/
def xw (A : Nat → Nat) (n u k v : Nat) : Nat := (if v = 0 then 1 else 0) + su (fun m => if (v.testBit m = true ∧ mfb A (nt v (2 ^ m)) m = true) ∧ (nt v (2 ^ m) < u ∨ (nt v (2 ^ m) = u ∧ m < k)) then Wy A (nt v (2 ^ m)) else 0) n
theorem xw_0 (A : Nat → Nat) (n v : Nat) : xw A n 0 0 v = if v = 0 then 1 else 0 := by
  unfold xw
  rw [su_cong (g' := fun _ => 0) (fun m hm => by rw [if_neg]; rintro ⟨_, z | z⟩ <;> omega)]
  have := su_le (g := fun _ => 0) (B := 0) (fun _ => Nat.le_refl _) n
  omega
theorem xw_n (A : Nat → Nat) (n u v : Nat) : xw A n u n v = xw A n (u + 1) 0 v := by
  unfold xw
  congr 1
  refine su_cong (fun m hm => ?_)
  by_cases h : nt v (2 ^ m) < u ∨ (nt v (2 ^ m) = u ∧ m < n)
  · have h' : nt v (2 ^ m) < u + 1 ∨ (nt v (2 ^ m) = u + 1 ∧ m < 0) := by omega
    simp only [h, h', and_true]
  · have h' : ¬ (nt v (2 ^ m) < u + 1 ∨ (nt v (2 ^ m) = u + 1 ∧ m < 0)) := by omega
    rw [if_neg (fun z => h z.2), if_neg (fun z => h' z.2)]
theorem xw_f (A : Nat → Nat) {n u k v : Nat} (n6 : n ≤ 6) (hv : v < 2 ^ n) (h : ∀ m, m < n → v.testBit m = true → nt v (2 ^ m) < u) : xw A n u k v = Wy A v := by
  unfold xw
  rw [Wy_r A n6 hv]
  by_cases y : v = 0
  · rw [if_pos y, if_pos y, su_cong (g' := fun _ => 0) (fun m hm => by rw [if_neg]; rintro ⟨⟨z, _⟩, _⟩; rw [y, Nat.zero_testBit] at z; exact Bool.false_ne_true z)]
    have := su_le (g := fun _ => 0) (B := 0) (fun _ => Nat.le_refl _) n
    omega
  · rw [if_neg y, if_neg y, Nat.zero_add]
    refine su_cong (fun m hm => ?_)
    by_cases hb : v.testBit m = true ∧ mfb A (nt v (2 ^ m)) m = true
    · rw [if_pos hb, if_pos ⟨hb, Or.inl (h m hm hb.1)⟩]
    · rw [if_neg hb, if_neg (fun z => hb z.1)]
theorem xw_s (A : Nat → Nat) {n u k v : Nat} (n6 : n ≤ 6) (hu : u < 2 ^ n) (hv : v < 2 ^ n) (hk : k < n) : xw A n u (k + 1) v = xw A n u k v + (if mfb A u k = true ∧ v = u ||| 2 ^ k then Wy A u else 0) := by
  have p64 := pw_64 n6
  unfold xw
  rw [Nat.add_assoc]
  congr 1
  refine su_up (j := k) ?_ (fun m hm => ?_) hk
  · by_cases hb : mfb A u k = true ∧ v = u ||| 2 ^ k
    · have e : nt v (2 ^ k) = u := by rw [hb.2]; exact nt_or u (by omega) k (by omega) (mfb_i.mp hb.1).1
      rw [if_pos hb, e, if_pos ⟨⟨by rw [hb.2]; exact or_b u k, hb.1⟩, Or.inr ⟨rfl, by omega⟩⟩, if_neg, Nat.zero_add]
      rintro ⟨_, z | z⟩ <;> omega
    · rw [if_neg hb, Nat.add_zero]
      have h1 : (v.testBit k = true ∧ mfb A (nt v (2 ^ k)) k = true) → nt v (2 ^ k) ≠ u := by
        rintro ⟨z1, z2⟩ e
        refine hb ⟨by rw [e] at z2; exact z2, ?_⟩
        rw [← e]
        exact (or_nt v (by omega) k (by omega) z1).1.symm
      by_cases hc : v.testBit k = true ∧ mfb A (nt v (2 ^ k)) k = true
      · have := h1 hc
        by_cases hl : nt v (2 ^ k) < u
        · rw [if_pos ⟨hc, Or.inl hl⟩, if_pos ⟨hc, Or.inl hl⟩]
          exact (Nat.add_zero _).symm
        · rw [if_neg, if_neg]
          · rintro ⟨_, z | z⟩ <;> omega
          · rintro ⟨_, z | z⟩ <;> omega
      · rw [if_neg (fun z => hc z.1), if_neg (fun z => hc z.1)]
  · by_cases h : nt v (2 ^ m) < u ∨ (nt v (2 ^ m) = u ∧ m < k)
    · have h' : nt v (2 ^ m) < u ∨ (nt v (2 ^ m) = u ∧ m < k + 1) := by omega
      simp only [h, h', and_true]
    · have h' : ¬ (nt v (2 ^ m) < u ∨ (nt v (2 ^ m) = u ∧ m < k + 1)) := by omega
      rw [if_neg (fun z => h' z.2), if_neg (fun z => h z.2)]
def Wv (M : Mm) (u k : Nat) (Mx : Mm) : Prop := ∀ v, v < 2 ^ nM M → gI Mx 29 v = nI (xw (Aw M) (nM M) u k v)
theorem cyI {M : Mm} (h4 : I_mn M) (h6 : I_cu M) {u : Nat} (hu : u < 2 ^ nM M) (K : Mm → Option (Unit × Mm)) : ∀ f k Mx, k ≤ nM M → nM M < k + f → Sc M Mx → Wv M u k Mx → ∃ M', sp_X8_countWays_L29 (nI u) K f (nI k) Mx = K M' ∧ Sc M M' ∧ Wv M (u + 1) 0 M' := by
  have n6 := h4.n.1
  have p64 := pw_64 n6
  intro f
  induction f with
  | zero => intro k Mx a b; omega
  | succ f ih =>
    intro k Mx hk hf sc wv
    rw [sp_X8_countWays_L29, sc.2.1]
    by_cases hkn : k < nM M
    · rw [if_pos ((nI_ltI (by omega) (by omega)).mpr hkn), mf_e h4 h6 sc (by omega) hkn, bd_s]
      by_cases hf' : mfb (Aw M) u k = true
      · have hv : u ||| 2 ^ k < 2 ^ nM M := or_n hu hkn
        have e1 : xw (Aw M) (nM M) u k u = Wy (Aw M) u := xw_f _ n6 hu (fun m hm hb => (or_nt u (by omega) m (by omega) hb).2.1)
        rw [if_pos hf', if_neg i10, with_e (by omega) (by omega), bd_s, at_n (show u ||| 2 ^ k < 64 by omega), bd_s, at_n (show u < 64 by omega), bd_s, put_n (show u ||| 2 ^ k < 64 by omega), bd_s, wv _ hv, wv u hu, e1, nI_add, nI_p]
        refine ih (k + 1) _ (by omega) (by omega) (sc.set (fun c j h1 h2 => gI_o (by omega))) (fun v hv' => ?_)
        rw [xw_s _ n6 hu hv' hkn]
        by_cases y : v = u ||| 2 ^ k
        · rw [if_pos ⟨hf', y⟩, y, gI_s]
        · rw [if_neg (fun z => y z.2), gI_o (by omega), Nat.add_zero]
          exact wv v hv'
      · rw [if_neg hf', if_pos rfl, nI_p]
        refine ih (k + 1) _ (by omega) (by omega) sc (fun v hv' => ?_)
        rw [xw_s _ n6 hu hv' hkn, if_neg (fun z => hf' z.1), Nat.add_zero]
        exact wv v hv'
    · rw [if_neg (by rw [nI_ltI (by omega) (by omega)]; exact hkn)]
      have : k = nM M := by omega
      subst this
      exact ⟨Mx, rfl, sc, fun v hv => by rw [← xw_n]; exact wv v hv⟩
theorem cyO {M : Mm} (h4 : I_mn M) (h6 : I_cu M) : ∀ f u Mx, u ≤ 2 ^ nM M → 2 ^ nM M < u + f → Sc M Mx → Wv M u 0 Mx → ∃ M', sp_X8_countWays_L19 f (nI u) Mx = some ((), M') ∧ Sc M M' ∧ Wv M (2 ^ nM M) 0 M' := by
  have n6 := h4.n.1
  have p64 := pw_64 n6
  have pp := Nat.two_pow_pos (nM M)
  intro f
  induction f with
  | zero => intro k Mx a b; omega
  | succ f ih =>
    intro u Mx hu hf sc wv
    rw [sp_X8_countWays_L19, sc.2.2.1]
    by_cases hun : u < 2 ^ nM M
    · rw [if_neg (by rw [nI_ltI (by omega) (by omega)]; omega), jn_e]
      obtain ⟨M1, e1, e2, e3⟩ := cyI h4 h6 hun (fun (M_83 : Mm) => sp_X8_countWays_L19 f (nI u + 1) M_83) fu 0 Mx (Nat.zero_le _) (by show _ < 0 + 1000; omega) sc wv
      obtain ⟨M2, f1, f2, f3⟩ := ih (u + 1) M1 (by omega) (by omega) e2 e3
      refine ⟨M2, e1.trans ?_, f2, f3⟩
      rw [nI_p]
      exact f1
    · rw [if_pos ((nI_ltI (by omega) (by omega)).mpr (by omega))]
      have : u = 2 ^ nM M := by omega
      subst this
      exact ⟨Mx, rfl, sc, wv⟩
theorem cy_e {M Mx : Mm} (h4 : I_mn M) (h6 : I_cu M) (sc : Sc M Mx) : ∃ M', sp_X8_countWays Mx = some ((), M') ∧ Sc M M' ∧ ∀ v, v < 2 ^ nM M → gI M' 29 v = nI (Wy (Aw M) v) := by
  have n6 := h4.n.1
  have p64 := pw_64 n6
  have pp := Nat.two_pow_pos (nM M)
  unfold sp_X8_countWays
  obtain ⟨M1, e1, e2⟩ := fill_e (c0 := 29) (v := 0) Mx
  have l29 : ln 29 = 64 := rfl
  rw [e1, bd_s, show (0 : Int32) = nI 0 from rfl, put_n (show 0 < 64 by omega), bd_s]
  have sc1 : Sc M (sI M1 29 0 1) := sc.set (fun c k h1 h2 => by rw [gI_o (by omega), e2, if_neg (fun z => h1 z.1)])
  obtain ⟨M2, f1, f2, f3⟩ := cyO h4 h6 fu 0 (sI M1 29 0 1) (Nat.zero_le _) (by show _ < 0 + 1000; omega) sc1 (fun v hv => by
    rw [xw_0]
    by_cases y : v = 0
    · rw [y, gI_s, if_pos rfl]; rfl
    · rw [gI_o (by omega), e2, if_pos ⟨rfl, by omega⟩, if_neg y]; rfl)
  refine ⟨M2, f1, f2, fun v hv => ?_⟩
  rw [f3 v hv, xw_f _ n6 hv (fun m hm hb => ?_)]
  have := (or_nt v (by omega) m (by omega) hb).2.1
  omega
