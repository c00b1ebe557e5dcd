/-! THE CALL digest: what is mixed in, on both sides -/
theorem Sm.sea' {M M' : Mm} (h : Sm M M') (j : Nat) : seaV M' j = seaV M j := by
  unfold seaV
  rw [h 32 8 (by unfold scr; omega), h 32 9 (by unfold scr; omega), h 36 _ (by unfold scr; omega), h 37 _ (by unfold scr; omega)]
theorem Sm.ab' {M M' : Mm} (h : Sm M M') (m w : Nat) : abV M' m w = abV M m w := by
  have e1 : sg M' m = sg M m := by
    unfold sg; rw [h 41 _ (by unfold scr; omega), h 32 8 (by unfold scr; omega), h 32 13 (by unfold scr; omega)]
  have e2 : mc M' m = mc M m := by
    rw [Bool.eq_iff_iff, mc_iff, mc_iff]
    unfold cm
    rw [h 32 11 (by unfold scr; omega), h 32 12 (by unfold scr; omega), h 13 4 (by unfold scr; omega), h.ahd', h 32 10 (by unfold scr; omega), h.tk', h.sT']
  unfold abV
  rw [e1, e2, h.tk', h 41 _ (by unfold scr; omega), h 41 _ (by unfold scr; omega), h 41 _ (by unfold scr; omega), h 13 4 (by unfold scr; omega)]
theorem Sm.ct' {M M' : Mm} (h : Sm M M') (w : Nat) : ctV M' w = ctV M w := by
  unfold ctV
  rw [h 32 17 (by unfold scr; omega), h 13 3 (by unfold scr; omega), h 32 22 (by unfold scr; omega), h 13 4 (by unfold scr; omega), h 32 10 (by unfold scr; omega), h 32 11 (by unfold scr; omega), h 32 12 (by unfold scr; omega), h 32 7 (by unfold scr; omega), h 32 13 (by unfold scr; omega), h 32 29 (by unfold scr; omega), h 32 32 (by unfold scr; omega), h 32 1 (by unfold scr; omega), h 32 14 (by unfold scr; omega), h 32 25 (by unfold scr; omega)]
theorem Sm.sta' {M M' : Mm} (h : Sm M M') (p : Nat) (q : Int32) : staV M' p q = staV M p q := by
  have e1 : wk M' = wk M := by funext k; unfold wk; rw [h 47 k (by unfold scr; omega)]
  have e2 : wn M' = wn M := by unfold wn; rw [h 32 32 (by unfold scr; omega)]
  unfold staV
  rw [e1, e2]
theorem Sm.pg {A M : Mm} (h : Sm A M) (h4 : I_pg A) : I_pg M := h4.ag (fun c k hf => h c k (by unfold F_pg at hf; unfold scr; omega))
def fs (st : Nat → Int64 → Int64) : Nat → Nat → Int64 → Int64
  | _, 0, h => h
  | k, g + 1, h => fs st (k + 1) g (st k h)
def mxh (h v : Int64) : Int64 := 31 * h + v
def stS (M : Mm) (j : Nat) (h : Int64) : Int64 := mxh h (seaV M j).toInt64
def stT (M : Mm) (j : Nat) (h : Int64) : Int64 := if j < 5 ∨ 9 < j then mxh h (seaV M j).toInt64 else h
def stR (M : Mm) (r : Nat) (h : Int64) : Int64 := mxh (mxh h (nJ (low1 (ht M r 0) 10 0))) (nJ (low1 (ht M r 0) 10 1))
def stA (M : Mm) (m w : Nat) (h : Int64) : Int64 := mxh h (abV M m w).toInt64
def stM (M : Mm) (m : Nat) (h : Int64) : Int64 := fs (stA M m) 0 7 h
def stL (M : Mm) (k : Nat) (h : Int64) : Int64 := mxh h (gI M 33 k).toInt64
def stK (M : Mm) (w : Nat) (h : Int64) : Int64 := mxh h (ctV M w).toInt64
def d1h (M : Mm) : Int64 := if gI M 32 7 = 0 then 701 else fs (stS M) 10 10 (fs (stS M) 0 5 701)
theorem mix_e (h v : Int64) (M : Mm) : sp_X10_mix h v M = some (mxh h v, M) := rfl
theorem ltl {a : Nat} (b : Nat) (x : Int32) (hx : nI b = x) (ha : a < 2 ^ 31) (hb : b < 2 ^ 31) : (nI a < x) ↔ a < b := by subst hx; exact nI_ltI ha hb
theorem llt {a : Nat} (b : Nat) (x : Int32) (hx : nI b = x) (ha : a < 2 ^ 31) (hb : b < 2 ^ 31) : (x < nI a) ↔ b < a := by subst hx; exact nI_ltI hb ha
/-! the class's loops -/
theorem c5L {i : Nat} {M : Mm} (h2 : I_nt i M) (hi : i < 1000) (hn : ¬ gI M 32 7 = 0) (K : Int64 → Mm → Option (Int64 × Mm)) : ∀ g n j h, j + g = 5 → g < n → sp_X10_mixSea_L5 K n h (nI j) M = K (fs (stS M) j g h) M := by
  intro g
  induction g with
  | zero =>
    intro n j h hj hn'
    obtain ⟨n, rfl⟩ : ∃ x, n = x + 1 := ⟨n - 1, by omega⟩
    rw [sp_X10_mixSea_L5, if_pos ((llt 4 4 rfl (by omega) (by decide)).mpr (by omega))]
    rfl
  | succ g ih =>
    intro n j h hj hn'
    obtain ⟨n, rfl⟩ : ∃ x, n = x + 1 := ⟨n - 1, by omega⟩
    rw [sp_X10_mixSea_L5, if_neg (by rw [llt 4 4 rfl (by omega) (by decide)]; omega), sea_e h2 hi hn (Or.inl (by omega)), bd_s, mix_e, bd_s, nI_p]
    exact ih n (j + 1) _ (by omega) (by omega)
theorem c33L {i : Nat} {M : Mm} (h2 : I_nt i M) (hi : i < 1000) (hn : ¬ gI M 32 7 = 0) : ∀ g n j h, j + g = 20 → g ≤ 10 → g < n → sp_X10_mixSea_L33 n h (nI j) M = some (fs (stS M) j g h, M) := by
  intro g
  induction g with
  | zero =>
    intro n j h hj hg hn'
    obtain ⟨n, rfl⟩ : ∃ x, n = x + 1 := ⟨n - 1, by omega⟩
    rw [sp_X10_mixSea_L33, if_pos ((llt 19 19 rfl (by omega) (by decide)).mpr (by omega))]
    rfl
  | succ g ih =>
    intro n j h hj hg hn'
    obtain ⟨n, rfl⟩ : ∃ x, n = x + 1 := ⟨n - 1, by omega⟩
    rw [sp_X10_mixSea_L33, if_neg (by rw [llt 19 19 rfl (by omega) (by decide)]; omega), sea_e h2 hi hn (Or.inr ⟨by omega, by omega⟩), bd_s, mix_e, bd_s, nI_p]
    exact ih n (j + 1) _ (by omega) (by omega) (by omega)
theorem cms_e {i : Nat} {M : Mm} (h2 : I_nt i M) (hi : i < 1000) (hn : ¬ gI M 32 7 = 0) (h : Int64) : sp_X10_mixSea h M = some (fs (stS M) 10 10 (fs (stS M) 0 5 h), M) := by
  unfold sp_X10_mixSea
  rw [jn_e]
  refine Eq.trans (c5L h2 hi hn _ 5 fu 0 h (by omega) (by show _ < 1000; omega)) ?_
  exact c33L h2 hi hn 10 fu 10 _ (by omega) (by omega) (by show _ < 1000; omega)
theorem c17 {i : Nat} {M : Mm} (h2 : I_nt i M) (hi : i < 1000) (K : Int64 → Mm → Option (Int64 × Mm)) : bd (sp_X10_hasNight M) (fun r5 M5 => jn K (fun (K17 : Int64 → Mm → Option (Int64 × Mm)) => if r5 = 0 then (K17 (701 : Int64) M5) else (bd (sp_X10_mixSea (701 : Int64) M5) (fun r13 M13 => K17 r13 M13)))) = K (d1h M) M := by
  unfold d1h
  by_cases hn : gI M 32 7 = 0
  · rw [hasN_0 h2 hi hn, bd_s, jn_e, if_pos rfl, if_pos hn]
  · rw [hasN_1 h2 hi hn, bd_s, jn_e, if_neg i10, if_neg hn, cms_e h2 hi hn, bd_s]
theorem c19L {i : Nat} {M : Mm} (h2 : I_nt i M) (h3 : I_rk M) (K : Int64 → Mm → Option (Int64 × Mm)) : ∀ g n j h, j + g = nR M → g < n → sp_X10_digest_L19 K n h (nI j) M = K (fs (stR M) j g h) M := by
  obtain ⟨n6, n2, n3⟩ := h3.n
  intro g
  induction g with
  | zero =>
    intro n j h hj hn'
    obtain ⟨n, rfl⟩ : ∃ x, n = x + 1 := ⟨n - 1, by omega⟩
    rw [sp_X10_digest_L19, n3, if_neg (by rw [nI_ltI (by omega) (by omega)]; omega)]
    rfl
  | succ g ih =>
    intro n j h hj hn'
    obtain ⟨n, rfl⟩ : ∃ x, n = x + 1 := ⟨n - 1, by omega⟩
    have e0 : sp_X10_hits (nI j) (0 : Int32) (0 : Int32) M = some (nJ (low1 (ht M j 0) 10 0), M) := chits_e h2 h3 (r := j) (by omega) (s := 0) (by omega) (p := 0) (by omega)
    have e1 : sp_X10_hits (nI j) (0 : Int32) (1 : Int32) M = some (nJ (low1 (ht M j 0) 10 1), M) := chits_e h2 h3 (r := j) (by omega) (s := 0) (by omega) (p := 1) (by omega)
    rw [sp_X10_digest_L19, n3, if_pos ((nI_ltI (by omega) (by omega)).mpr (by omega)), e0, bd_s, mix_e, bd_s, e1, bd_s, mix_e, bd_s, nI_p]
    exact ih n (j + 1) _ (by omega) (by omega)
theorem c76L {i : Nat} {M : Mm} (h2 : I_nt i M) (h4 : I_mn M) (h6 : I_cu M) {m : Nat} (hm : m < nM M) (K : Int64 → Mm → Option (Int64 × Mm)) : ∀ g n j h, j + g = 7 → g < n → sp_X10_digest_L76 K (nI m) n h (nI j) M = K (fs (stA M m) j g h) M := by
  intro g
  induction g with
  | zero =>
    intro n j h hj hn'
    obtain ⟨n, rfl⟩ : ∃ x, n = x + 1 := ⟨n - 1, by omega⟩
    rw [sp_X10_digest_L76, if_pos ((llt 6 6 rfl (by omega) (by decide)).mpr (by omega))]
    rfl
  | succ g ih =>
    intro n j h hj hn'
    obtain ⟨n, rfl⟩ : ∃ x, n = x + 1 := ⟨n - 1, by omega⟩
    rw [sp_X10_digest_L76, if_neg (by rw [llt 6 6 rfl (by omega) (by decide)]; omega), about_e h2 h4 h6 hm (by omega), bd_s, mix_e, bd_s, nI_p]
    exact ih n (j + 1) _ (by omega) (by omega)
theorem c62L {i : Nat} {M : Mm} (h2 : I_nt i M) (h4 : I_mn M) (h6 : I_cu M) (K : Int64 → Mm → Option (Int64 × Mm)) : ∀ g n j h, j + g = nM M → g < n → sp_X10_digest_L62 K n h (nI j) M = K (fs (stM M) j g h) M := by
  obtain ⟨n6, n2, n3⟩ := h4.n
  intro g
  induction g with
  | zero =>
    intro n j h hj hn'
    obtain ⟨n, rfl⟩ : ∃ x, n = x + 1 := ⟨n - 1, by omega⟩
    rw [sp_X10_digest_L62, n3, if_neg (by rw [nI_ltI (by omega) (by omega)]; omega)]
    rfl
  | succ g ih =>
    intro n j h hj hn'
    obtain ⟨n, rfl⟩ : ∃ x, n = x + 1 := ⟨n - 1, by omega⟩
    rw [sp_X10_digest_L62, n3, if_pos ((nI_ltI (by omega) (by omega)).mpr (by omega)), jn_e]
    refine Eq.trans (c76L h2 h4 h6 (by omega) _ 7 fu 0 h (by omega) (by show _ < 1000; omega)) ?_
    rw [nI_p]
    exact ih n (j + 1) _ (by omega) (by omega)
theorem c156L {M : Mm} (h1 : I_pg M) (K : Int64 → Mm → Option (Int64 × Mm)) : ∀ g n j h, j + g = nv (gI M 32 1) → g < n → sp_X10_digest_L156 K n h (nI j) M = K (fs (stL M) j g h) M := by
  obtain ⟨⟨a1, a2⟩, a3, a4⟩ := h1
  intro g
  induction g with
  | zero =>
    intro n j h hj hn'
    obtain ⟨n, rfl⟩ : ∃ x, n = x + 1 := ⟨n - 1, by omega⟩
    rw [sp_X10_digest_L156, a3, a1, if_neg (by rw [nI_ltI (by omega) (by omega)]; omega)]
    rfl
  | succ g ih =>
    intro n j h hj hn'
    obtain ⟨n, rfl⟩ : ∃ x, n = x + 1 := ⟨n - 1, by omega⟩
    rw [sp_X10_digest_L156, a3, a1, if_pos ((nI_ltI (by omega) (by omega)).mpr (by omega))]
    unfold sp_X5_letterAt
    rw [at_n (show j < 22 by omega), bd_s, bd_s, mix_e, bd_s, nI_p, (a4 j (by omega)).1]
    exact ih n (j + 1) _ (by omega) (by omega)
theorem c189L {i : Nat} {M : Mm} (hI : Inv i M) : ∀ g n j h, j + g = 14 → g < n → sp_X10_digest_L189 n h (nI j) M = some (fs (stK M) j g h, M) := by
  intro g
  induction g with
  | zero =>
    intro n j h hj hn'
    obtain ⟨n, rfl⟩ : ∃ x, n = x + 1 := ⟨n - 1, by omega⟩
    rw [sp_X10_digest_L189, if_pos ((llt 13 13 rfl (by omega) (by decide)).mpr (by omega))]
    rfl
  | succ g ih =>
    intro n j h hj hn'
    obtain ⟨n, rfl⟩ : ∃ x, n = x + 1 := ⟨n - 1, by omega⟩
    rw [sp_X10_digest_L189, if_neg (by rw [llt 13 13 rfl (by omega) (by decide)]; omega), count_e hI (by omega), bd_s, mix_e, bd_s, nI_p]
    exact ih n (j + 1) _ (by omega) (by omega)
/-! the reference's loops -/
def Rd (M : Mm) (h : Int64) (Mx : Mm) : Prop := Sm M Mx ∧ gJ Mx 32 48 = h
theorem say_e {M Mx : Mm} {h : Int64} (r : Rd M h Mx) (v : Int64) : ∃ M', sp_X11_say v Mx = some ((), M') ∧ Rd M (mxh h v) M' := by
  refine ⟨sJ Mx 32 48 (31 * gJ Mx 32 48 + v), rfl, r.1.sJ, ?_⟩
  rw [gJ_sJ, if_pos ⟨rfl, rfl⟩, r.2]
  rfl
theorem r9L {M : Mm} (hn : ¬ gI M 32 7 = 0) (K : Mm → Option (Int64 × Mm)) : ∀ g n j h Mx, j + g = 20 → g < n → Rd M h Mx → ∃ M', sp_X11_digest_L9 K n (nI j) Mx = K M' ∧ Rd M (fs (stT M) j g h) M' := by
  intro g
  induction g with
  | zero =>
    intro n j h Mx hj hn' rd
    obtain ⟨n, rfl⟩ : ∃ x, n = x + 1 := ⟨n - 1, by omega⟩
    rw [sp_X11_digest_L9, if_neg (by rw [ltl 20 20 rfl (by omega) (by decide)]; omega)]
    exact ⟨Mx, rfl, rd⟩
  | succ g ih =>
    intro n j h Mx hj hn' rd
    obtain ⟨n, rfl⟩ : ∃ x, n = x + 1 := ⟨n - 1, by omega⟩
    have hn2 : ¬ gI Mx 32 7 = 0 := by rw [rd.1 32 7 (by unfold scr; omega)]; exact hn
    rw [sp_X11_digest_L9, if_pos ((ltl 20 20 rfl (by omega) (by decide)).mpr (by omega)), lacks_0 hn2, bd_s, if_pos rfl, jn_e, nI_p, fs]
    have one : (j < 5 ∨ 9 < j) → ∃ M', bd (sp_X11_tellSea (nI j) Mx) (fun r36 M36 => bd (sp_X11_say (r36.toInt64) M36) (fun _ M40 => sp_X11_digest_L9 K n (nI (j + 1)) M40)) = K M' ∧ Rd M (fs (stT M) (j + 1) g (stT M j h)) M' := fun hc => by
      obtain ⟨M1, s1, s2⟩ := say_e rd (seaV M j).toInt64
      rw [tellS_e (show j ≤ 4 ∨ (10 ≤ j ∧ j ≤ 19) by omega), bd_s, rd.1.sea', s1, bd_s]
      refine ih n (j + 1) _ M1 (by omega) (by omega) ?_
      unfold stT
      rw [if_pos hc]
      exact s2
    by_cases y : j < 5
    · rw [if_pos ((ltl 5 5 rfl (by omega) (by decide)).mpr y)]
      exact one (Or.inl y)
    · rw [if_neg (by rw [ltl 5 5 rfl (by omega) (by decide)]; exact y)]
      by_cases z : 9 < j
      · rw [if_pos ((llt 9 9 rfl (by omega) (by decide)).mpr z)]
        exact one (Or.inr z)
      · rw [if_neg (by rw [llt 9 9 rfl (by omega) (by decide)]; exact z)]
        refine ih n (j + 1) _ Mx (by omega) (by omega) ?_
        unfold stT
        rw [if_neg (by omega)]
        exact rd
theorem fsT (M : Mm) (h : Int64) : fs (stT M) 0 20 h = fs (stS M) 10 10 (fs (stS M) 0 5 h) := rfl
theorem r9 (M : Mm) (K : Mm → Option (Int64 × Mm)) : ∃ M', sp_X11_digest_L9 K fu 0 (sJ M 32 48 701) = K M' ∧ Rd M (d1h M) M' := by
  have rd0 : Rd M 701 (sJ M 32 48 701) := ⟨(Sm.rf M).sJ, by rw [gJ_sJ, if_pos ⟨rfl, rfl⟩]⟩
  unfold d1h
  by_cases hn : gI M 32 7 = 0
  · rw [if_pos hn]
    show ∃ M', sp_X11_digest_L9 K (999 + 1) (0 : Int32) _ = _ ∧ _
    have hn2 : gI (sJ M 32 48 701) 32 7 = 0 := hn
    rw [sp_X11_digest_L9, if_pos (by decide), lacks_1 hn2, bd_s, if_neg i10]
    exact ⟨_, rfl, rd0⟩
  · rw [if_neg hn, ← fsT]
    exact r9L hn K 20 fu 0 701 _ (by omega) (by show _ < 1000; omega) rd0
theorem r51L {i : Nat} {M : Mm} (h2 : I_nt i M) (h3 : I_rk M) (K : Mm → Option (Int64 × Mm)) : ∀ g n j h Mx, j + g = nR M → g < n → Rd M h Mx → ∃ M', sp_X11_digest_L51 K n (nI j) Mx = K M' ∧ Rd M (fs (stR M) j g h) M' := by
  obtain ⟨n6, n2, n3⟩ := h3.n
  intro g
  induction g with
  | zero =>
    intro n j h Mx hj hn' rd
    obtain ⟨n, rfl⟩ : ∃ x, n = x + 1 := ⟨n - 1, by omega⟩
    rw [sp_X11_digest_L51, rd.1 32 17 (by unfold scr; omega), n2, if_neg (by rw [nI_ltI (by omega) (by omega)]; omega)]
    exact ⟨Mx, rfl, rd⟩
  | succ g ih =>
    intro n j h Mx hj hn' rd
    obtain ⟨n, rfl⟩ : ∃ x, n = x + 1 := ⟨n - 1, by omega⟩
    have hle := ht_le h2 j 0
    obtain ⟨M1, s1, s2⟩ := say_e rd (nJ (low1 (ht M j 0) 10 0))
    obtain ⟨M2, s3, s4⟩ := say_e s2 (nJ (low1 (ht M j 0) 10 1))
    have t0 : ∀ p Mz, sp_X11_term (nJ (ht M j 0)) (10 : Int64) p Mz = some (nJ (low1 (ht M j 0) 10 p), Mz) := fun p Mz => tm_e (b := 10) (by omega) (by decide) (by decide) p Mz
    have eh : ∀ Mz, Sm M Mz → sp_X11_hitTenths (nI j) 0 Mz = some (nI (ht M j 0), Mz) := fun Mz sm => by
      rw [mht_e (sm.nt h2) (by omega), sm.ht']
    rw [sp_X11_digest_L51, rd.1 32 17 (by unfold scr; omega), n2, if_pos ((nI_ltI (by omega) (by omega)).mpr (by omega)), eh Mx rd.1, bd_s, nI_J (by omega), t0, bd_s, s1, bd_s, eh M1 s2.1, bd_s, nI_J (by omega), t0, bd_s, s3, bd_s, nI_p]
    exact ih n (j + 1) _ M2 (by omega) (by omega) s4
theorem r113L {i : Nat} {M : Mm} (h2 : I_nt i M) (h4 : I_mn M) (h6 : I_cu M) {m : Nat} (hm : m < nM M) (K : Mm → Option (Int64 × Mm)) : ∀ g n j h Mx, j + g = 7 → g < n → Rd M h Mx → ∃ M', sp_X11_digest_L113 (nI m) K n (nI j) Mx = K M' ∧ Rd M (fs (stA M m) j g h) M' := by
  intro g
  induction g with
  | zero =>
    intro n j h Mx hj hn' rd
    obtain ⟨n, rfl⟩ : ∃ x, n = x + 1 := ⟨n - 1, by omega⟩
    rw [sp_X11_digest_L113, if_neg (by rw [ltl 7 7 rfl (by omega) (by decide)]; omega)]
    exact ⟨Mx, rfl, rd⟩
  | succ g ih =>
    intro n j h Mx hj hn' rd
    obtain ⟨n, rfl⟩ : ∃ x, n = x + 1 := ⟨n - 1, by omega⟩
    obtain ⟨M1, s1, s2⟩ := say_e rd (abV M m j).toInt64
    rw [sp_X11_digest_L113, if_pos ((ltl 7 7 rfl (by omega) (by decide)).mpr (by omega)), tellM_e (rd.1.nt h2) (rd.1.mn h4) (rd.1.cu h6) (by rw [rd.1.nM']; exact hm) (by omega), bd_s, rd.1.ab', s1, bd_s, nI_p]
    exact ih n (j + 1) _ M1 (by omega) (by omega) s2
theorem r103L {i : Nat} {M : Mm} (h2 : I_nt i M) (h4 : I_mn M) (h6 : I_cu M) (K : Mm → Option (Int64 × Mm)) : ∀ g n j h Mx, j + g = nM M → g < n → Rd M h Mx → ∃ M', sp_X11_digest_L103 K n (nI j) Mx = K M' ∧ Rd M (fs (stM M) j g h) M' := by
  obtain ⟨n6, n2, n3⟩ := h4.n
  intro g
  induction g with
  | zero =>
    intro n j h Mx hj hn' rd
    obtain ⟨n, rfl⟩ : ∃ x, n = x + 1 := ⟨n - 1, by omega⟩
    rw [sp_X11_digest_L103, rd.1 32 22 (by unfold scr; omega), n2, if_neg (by rw [nI_ltI (by omega) (by omega)]; omega)]
    exact ⟨Mx, rfl, rd⟩
  | succ g ih =>
    intro n j h Mx hj hn' rd
    obtain ⟨n, rfl⟩ : ∃ x, n = x + 1 := ⟨n - 1, by omega⟩
    rw [sp_X11_digest_L103, rd.1 32 22 (by unfold scr; omega), n2, if_pos ((nI_ltI (by omega) (by omega)).mpr (by omega)), jn_e]
    obtain ⟨M1, s1, s2⟩ := r113L h2 h4 h6 (m := j) (by omega) (fun (M_136 : Mm) => sp_X11_digest_L103 K n (nI j + 1) M_136) 7 fu 0 h Mx (by omega) (by show _ < 1000; omega) rd
    obtain ⟨M2, t1, t2⟩ := ih n (j + 1) _ M1 (by omega) (by omega) s2
    refine ⟨M2, s1.trans ?_, t2⟩
    rw [nI_p]
    exact t1
theorem r184L {M : Mm} (h1 : I_pg M) (K : Mm → Option (Int64 × Mm)) : ∀ g n j h Mx, j + g = nv (gI M 32 1) → g < n → Rd M h Mx → ∃ M', sp_X11_digest_L184 K n (nI j) Mx = K M' ∧ Rd M (fs (stL M) j g h) M' := by
  obtain ⟨⟨a1, a2⟩, a3, a4⟩ := h1
  intro g
  induction g with
  | zero =>
    intro n j h Mx hj hn' rd
    obtain ⟨n, rfl⟩ : ∃ x, n = x + 1 := ⟨n - 1, by omega⟩
    rw [sp_X11_digest_L184, rd.1 32 1 (by unfold scr; omega), a1, if_neg (by rw [nI_ltI (by omega) (by omega)]; omega)]
    exact ⟨Mx, rfl, rd⟩
  | succ g ih =>
    intro n j h Mx hj hn' rd
    obtain ⟨n, rfl⟩ : ∃ x, n = x + 1 := ⟨n - 1, by omega⟩
    obtain ⟨M1, s1, s2⟩ := say_e rd (gI M 33 j).toInt64
    rw [sp_X11_digest_L184, rd.1 32 1 (by unfold scr; omega), a1, if_pos ((nI_ltI (by omega) (by omega)).mpr (by omega)), rdI_n (show j < 22 by omega), rd.1 33 j (by unfold scr; omega), s1, bd_s, nI_p]
    exact ih n (j + 1) _ M1 (by omega) (by omega) s2
theorem r211L {i : Nat} {M : Mm} (hI : Inv i M) : ∀ g n j h Mx, j + g = 14 → g < n → Rd M h Mx → ∃ M', sp_X11_digest_L211 n (nI j) Mx = some (fs (stK M) j g h, M') ∧ Sm M M' := by
  intro g
  induction g with
  | zero =>
    intro n j h Mx hj hn' rd
    obtain ⟨n, rfl⟩ : ∃ x, n = x + 1 := ⟨n - 1, by omega⟩
    rw [sp_X11_digest_L211, if_neg (by rw [ltl 14 14 rfl (by omega) (by decide)]; omega), rd.2]
    exact ⟨Mx, rfl, rd.1⟩
  | succ g ih =>
    intro n j h Mx hj hn' rd
    obtain ⟨n, rfl⟩ : ∃ x, n = x + 1 := ⟨n - 1, by omega⟩
    obtain ⟨M1, s1, s2⟩ := say_e rd (ctV M j).toInt64
    rw [sp_X11_digest_L211, if_pos ((ltl 14 14 rfl (by omega) (by decide)).mpr (by omega)), mcount_e (rd.1.inv hI) (by omega), bd_s, rd.1.ct', s1, bd_s, nI_p]
    exact ih n (j + 1) _ M1 (by omega) (by omega) s2
