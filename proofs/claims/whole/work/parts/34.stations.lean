/-! THE CALL stations -/
def mi (x p : Nat) : Nat := if 99 < x + p then 99 else x + p
theorem mi_le (x p : Nat) : mi x p ≤ 99 := by unfold mi; split <;> omega
theorem mi_ge {x p : Nat} (h : x ≤ 99) : x ≤ mi x p := by unfold mi; split <;> omega
def sc (P : Nat → Bool) (p : Nat) : Nat → Nat → Nat → Int32 → Nat × Int32
  | 0, _, c, st => (c, st)
  | f + 1, fr, c, st => if P (99 - f) = true ∧ fr ≤ 99 - f then sc P p f (mi (99 - f) p + p + 1) (c + 1) (if c = 0 then nI (mi (99 - f) p) else st) else sc P p f fr c st
theorem sc_skip {P : Nat → Bool} {p fr c : Nat} {st : Int32} : ∀ d f, f + d ≤ 100 → (∀ y, 100 ≤ y + (f + d) → y + f < 100 → ¬ (P y = true ∧ fr ≤ y)) → sc P p (f + d) fr c st = sc P p f fr c st := by
  intro d
  induction d with
  | zero => intro f _ _; rfl
  | succ d ih =>
    intro f h1 h2
    rw [show f + (d + 1) = (f + d) + 1 from rfl, sc, if_neg (h2 (99 - (f + d)) (by omega) (by omega))]
    exact ih f (by omega) (fun y a b => h2 y (by omega) b)
theorem sc_st {P : Nat → Bool} {p : Nat} {st : Int32} : ∀ f fr c, c ≠ 0 → (sc P p f fr c st).2 = st := by
  intro f
  induction f with
  | zero => intro fr c _; rfl
  | succ f ih =>
    intro fr c hc
    rw [sc]
    split
    · exact ih _ _ (by omega)
    · exact ih _ _ hc
def pb (w : Nat → Nat) (x : Nat) : Nat → Bool
  | 0 => false
  | k + 1 => pb w x k || decide (w k = x)
theorem pb_iff (w : Nat → Nat) (x : Nat) : ∀ n, pb w x n = true ↔ ∃ k, k < n ∧ w k = x
  | 0 => by simp [pb]
  | n + 1 => by
    rw [pb, Bool.or_eq_true, pb_iff w x n, decide_eq_true_iff]
    constructor
    · rintro (⟨k, a, b⟩ | b)
      · exact ⟨k, by omega, b⟩
      · exact ⟨n, by omega, b⟩
    · rintro ⟨k, a, b⟩
      by_cases z : k = n
      · right; rw [← z]; exact b
      · left; exact ⟨k, by omega, b⟩
def lw (w : Nat → Nat) (fr : Nat) : Nat → Nat
  | 0 => 100
  | k + 1 => if fr ≤ w k ∧ w k < lw w fr k then w k else lw w fr k
theorem lw_p (w : Nat → Nat) (fr : Nat) : ∀ n, lw w fr n ≤ 100 ∧ (∀ k, k < n → fr ≤ w k → lw w fr n ≤ w k) ∧ (lw w fr n < 100 → fr ≤ lw w fr n ∧ ∃ k, k < n ∧ w k = lw w fr n)
  | 0 => ⟨Nat.le_refl _, fun k h => by omega, fun h => absurd h (by show ¬ (100 < 100); omega)⟩
  | n + 1 => by
    obtain ⟨a, b, c⟩ := lw_p w fr n
    rw [lw]
    by_cases y : fr ≤ w n ∧ w n < lw w fr n
    · rw [if_pos y]
      refine ⟨by omega, fun k hk hf => ?_, fun _ => ⟨y.1, n, by omega, rfl⟩⟩
      by_cases z : k = n
      · rw [z]; exact Nat.le_refl _
      · have := b k (by omega) hf; omega
    · rw [if_neg y]
      refine ⟨a, fun k hk hf => ?_, fun h => ?_⟩
      · by_cases z : k = n
        · rw [z] at hf ⊢; omega
        · exact b k (by omega) hf
      · obtain ⟨e, k, f, g⟩ := c h
        exact ⟨e, k, by omega, g⟩
def cg (w : Nat → Nat) (fr : Nat) : Nat → Nat
  | 0 => 0
  | k + 1 => cg w fr k + if fr ≤ w k then 1 else 0
theorem cg_le (w : Nat → Nat) (fr : Nat) : ∀ n, cg w fr n ≤ n
  | 0 => Nat.le_refl _
  | n + 1 => by
    have := cg_le w fr n
    rw [cg]; split <;> omega
theorem cg_0 {w : Nat → Nat} {fr : Nat} : ∀ n, cg w fr n = 0 → ∀ k, k < n → w k < fr
  | 0, _, k, h => by omega
  | n + 1, e, k, h => by
    rw [cg] at e
    by_cases z : k = n
    · subst z
      by_cases y : fr ≤ w k
      · rw [if_pos y] at e; omega
      · omega
    · exact cg_0 n (by omega) k (by omega)
theorem cg_mo {w : Nat → Nat} {a b : Nat} (h : a ≤ b) : ∀ n, cg w b n ≤ cg w a n
  | 0 => Nat.le_refl _
  | n + 1 => by
    have := cg_mo (w := w) h n
    rw [cg, cg]
    split
    · rw [if_pos (by omega)]; omega
    · omega
theorem cg_dr {w : Nat → Nat} {a b k : Nat} (h1 : a ≤ w k) (h2 : w k < b) (h : a ≤ b) : ∀ n, k < n → cg w b n + 1 ≤ cg w a n
  | 0, hk => by omega
  | n + 1, hk => by
    rw [cg, cg]
    by_cases z : k = n
    · subst z
      have := cg_mo (w := w) h k
      rw [if_neg (by omega), if_pos h1]; omega
    · have := cg_dr h1 h2 h n (by omega)
      split
      · rw [if_pos (by omega)]; omega
      · omega
def wk (M : Mm) (k : Nat) : Nat := nv (gI M 47 k)
def wn (M : Mm) : Nat := nv (gI M 32 32)
theorem wk_e {M : Mm} (h6 : I_cu M) : wn M ≤ 8 ∧ gI M 32 32 = nI (wn M) ∧ gI M 13 7 = nI (wn M) ∧ ∀ k, k < wn M → gI M 16 k = nI (wk M k) ∧ gI M 47 k = nI (wk M k) ∧ wk M k ≤ 99 := by
  have a := h6.2.2.2.2.2.2.2.2.2.2.2.2.2.2.2.2.2.2
  refine ⟨a.1.2, a.1.1, a.2.1.trans a.1.1, fun k hk => ?_⟩
  obtain ⟨p, q⟩ := a.2.2 k hk
  exact ⟨p.trans q.1, q.1, q.2⟩
theorem lwL {M : Mm} (h6 : I_cu M) (fr : Nat) (hfr : fr ≤ 200) : ∀ f k, k ≤ wn M → wn M < k + f → sp_X1_leastWreckFrom_L5 (nI fr) f (nI (lw (wk M) fr k)) (nI k) M = some (nI (lw (wk M) fr (wn M)), M) := by
  obtain ⟨n8, w1, w2, w3⟩ := wk_e h6
  intro f
  induction f with
  | zero => intro k a b; omega
  | succ f ih =>
    intro k a b
    rw [sp_X1_leastWreckFrom_L5, w2]
    by_cases hk : k < wn M
    · obtain ⟨g1, g2, g3⟩ := w3 k hk
      have lk := (lw_p (wk M) fr k).1
      rw [if_pos ((nI_ltI (by omega) (by omega)).mpr hk), at_n (show k < 8 by omega), bd_s, g1, nI_p]
      have := ih (k + 1) (by omega) (by omega)
      rw [lw] at this
      by_cases y : wk M k < fr
      · rw [if_pos ((nI_ltI (by omega) (by omega)).mpr y)]
        rwa [if_neg (by omega)] at this
      · rw [if_neg (by rw [nI_ltI (by omega) (by omega)]; exact y)]
        by_cases z : wk M k < lw (wk M) fr k
        · rw [if_pos ((nI_ltI (by omega) (by omega)).mpr z)]
          rwa [if_pos ⟨by omega, z⟩] at this
        · rw [if_neg (by rw [nI_ltI (by omega) (by omega)]; exact z)]
          rwa [if_neg (fun q => z q.2)] at this
    · rw [if_neg (by rw [nI_ltI (by omega) (by omega)]; exact hk)]
      have : k = wn M := by omega
      rw [this]
theorem lw_e {M : Mm} (h6 : I_cu M) {fr : Nat} (hfr : fr ≤ 200) : sp_X1_leastWreckFrom (nI fr) M = some (nI (lw (wk M) fr (wn M)), M) :=
  lwL h6 fr hfr fu 0 (by omega) (by have := (wk_e h6).1; show _ < _ + 1000; omega)
theorem mi_e {x p : Nat} (hx : x ≤ 100) (hp : p ≤ 50) : (if (99 : Int32) < nI x + nI p then (99 : Int32) else nI x + nI p) = nI (mi x p) := by
  rw [nI_add]
  unfold mi
  by_cases y : 99 < x + p
  · rw [if_pos (c_gt 99 99 rfl y (by omega)), if_pos y]; rfl
  · rw [if_neg (c_ngt 99 99 rfl (by omega) (by decide)), if_neg y]
/-- the next station -/
theorem sc_none {w : Nat → Nat} {n p fr c : Nat} {st : Int32} (h : ∀ k, k < n → w k < fr ∨ 100 ≤ w k) : sc (fun x => pb w x n) p 100 fr c st = (c, st) := by
  have := sc_skip (P := fun x => pb w x n) (p := p) (fr := fr) (c := c) (st := st) 100 0 (by omega) (fun y _ hy => by
    rintro ⟨a, b⟩
    obtain ⟨k, hk, e⟩ := (pb_iff w y n).mp a
    have := h k hk
    omega)
  rw [Nat.zero_add] at this
  rw [this]; rfl
theorem sc_next {w : Nat → Nat} {n p fr c : Nat} {st : Int32} (h : lw w fr n < 100) : sc (fun x => pb w x n) p 100 fr c st = sc (fun x => pb w x n) p 100 (mi (lw w fr n) p + p + 1) (c + 1) (if c = 0 then nI (mi (lw w fr n) p) else st) := by
  obtain ⟨a, b, d⟩ := lw_p w fr n
  obtain ⟨d1, k, d2, d3⟩ := d h
  generalize lw w fr n = x at *
  have e1 := sc_skip (P := fun x => pb w x n) (p := p) (fr := fr) (c := c) (st := st) x (100 - x) (by omega) (fun y _ hy => by
    rintro ⟨q1, q2⟩
    obtain ⟨k, hk, e⟩ := (pb_iff w y n).mp q1
    have := b k hk (by omega)
    omega)
  have hm := mi_ge (x := x) (p := p) (by omega)
  have e2 := sc_skip (P := fun x => pb w x n) (p := p) (fr := mi x p + p + 1) (c := c + 1) (st := if c = 0 then nI (mi x p) else st) (x + 1) (99 - x) (by omega) (fun y _ hy => by
    rintro ⟨q1, q2⟩
    omega)
  rw [show 100 - x + x = 100 by omega] at e1
  rw [show 99 - x + (x + 1) = 100 by omega] at e2
  rw [e1, e2, show 100 - x = (99 - x) + 1 by omega, sc, show 99 - (99 - x) = x by omega, if_pos ⟨(pb_iff w x n).mpr ⟨k, d2, d3⟩, d1⟩]
theorem cfsL {M : Mm} (h6 : I_cu M) {p : Nat} (hp : p ≤ 50) (st : Int32) : ∀ g f fr c i, i + g = wn M → g < f → fr ≤ 150 → cg (wk M) fr (wn M) ≤ g → c ≤ i → sp_X1_fewestStations_L7 (nI p) f (nI c) (nI fr) (nI i) M = some (nI (sc (fun x => pb (wk M) x (wn M)) p 100 fr c st).1, M) := by
  obtain ⟨n8, w1, w2, w3⟩ := wk_e h6
  intro g
  induction g generalizing st with
  | zero =>
    intro f fr c i hi hf hfr hc hci
    obtain ⟨f, rfl⟩ : ∃ g, f = g + 1 := ⟨f - 1, by omega⟩
    rw [sp_X1_fewestStations_L7, w2, if_neg (by rw [nI_ltI (by omega) (by omega)]; omega), sc_none (fun k hk => Or.inl (cg_0 _ (by omega) k hk))]
  | succ g ih =>
    intro f fr c i hi hf hfr hc hci
    obtain ⟨f, rfl⟩ : ∃ g, f = g + 1 := ⟨f - 1, by omega⟩
    obtain ⟨a, b, d⟩ := lw_p (wk M) fr (wn M)
    rw [sp_X1_fewestStations_L7, w2, if_pos ((nI_ltI (by omega) (by omega)).mpr (by omega)), lw_e h6 (by omega), bd_s]
    by_cases y : lw (wk M) fr (wn M) < 100
    · rw [if_neg (c_ngt 99 99 rfl (by omega) (by decide))]
      unfold sp_X1_stationFor
      rw [mi_e (by omega) hp, bd_s, bl_e, nI_add, nI_p, nI_p, nI_p, sc_next y]
      obtain ⟨d1, k, d2, d3⟩ := d y
      have hm := mi_le (lw (wk M) fr (wn M)) p
      have hg := mi_ge (x := lw (wk M) fr (wn M)) (p := p) (by omega)
      have := cg_dr (w := wk M) (a := fr) (b := mi (lw (wk M) fr (wn M)) p + p + 1) (k := k) (by omega) (by omega) (by omega) (wn M) d2
      exact ih _ f _ _ _ (by omega) (by omega) (by omega) (by omega) (by omega)
    · rw [if_pos (c_gt 99 99 rfl (by omega) (by omega)), sc_none (fun k hk => by
        by_cases z : wk M k < fr
        · exact Or.inl z
        · have := b k hk (by omega); exact Or.inr (by omega))]
theorem cfs_e {M : Mm} (h6 : I_cu M) {p : Nat} (hp : p ≤ 50) : sp_X1_fewestStations (nI p) M = some (nI (sc (fun x => pb (wk M) x (wn M)) p 100 0 0 (-1)).1, M) := by
  have n8 := (wk_e h6).1
  exact cfsL h6 hp (-1) (wn M) fu 0 0 0 (by omega) (by show _ < 1000; omega) (by omega) (cg_le _ _ _) (by omega)
theorem cff_e {M : Mm} (h6 : I_cu M) {p : Nat} (hp : p ≤ 50) : sp_X1_firstStation (nI p) M = some ((sc (fun x => pb (wk M) x (wn M)) p 100 0 0 (-1)).2, M) := by
  obtain ⟨n8, w1, w2, w3⟩ := wk_e h6
  obtain ⟨a, b, d⟩ := lw_p (wk M) 0 (wn M)
  unfold sp_X1_firstStation
  rw [w2]
  by_cases h0 : wn M = 0
  · rw [if_pos (by rw [h0]; rfl), sc_none (fun k hk => by omega)]
  · rw [if_neg (c_ne 0 0 rfl h0 (by omega) (by decide)), show (0 : Int32) = nI 0 from rfl, lw_e h6 (by omega), bd_s]
    have y : lw (wk M) 0 (wn M) < 100 := by
      have := b 0 (by omega) (by omega)
      have := (w3 0 (by omega)).2.2
      omega
    unfold sp_X1_stationFor
    rw [mi_e (by omega) hp, bd_s, sc_next y, sc_st _ _ _ (by omega), if_pos rfl]
/-! the reference -/
theorem msI {M : Mm} (h6 : I_cu M) {x : Nat} (hx : x < 100) (K : Int32 → Option (Int32 × Mm)) : ∀ f k, k ≤ wn M → wn M < k + f → sp_X11_stationsOf_L24 M (nI x) K f (if pb (wk M) x k = true then 1 else 0) (nI k) = K (if pb (wk M) x (wn M) = true then 1 else 0) := by
  obtain ⟨n8, w1, w2, w3⟩ := wk_e h6
  intro f
  induction f with
  | zero => intro k a b; omega
  | succ f ih =>
    intro k a b
    rw [sp_X11_stationsOf_L24, w1]
    by_cases hk : k < wn M
    · obtain ⟨g1, g2, g3⟩ := w3 k hk
      have := ih (k + 1) (by omega) (by omega)
      rw [if_pos ((nI_ltI (by omega) (by omega)).mpr hk), jn_e, nI_p]
      cases hb : pb (wk M) x k with
      | true =>
        rw [if_pos (c := true = true) rfl, if_neg i10]
        rwa [pb, hb, Bool.true_or, if_pos (c := true = true) rfl] at this
      | false =>
        rw [if_neg (c := false = true) Bool.false_ne_true, if_pos (c := (0 : Int32) = 0) rfl, rdI_n (show k < 8 by omega), g2]
        rw [pb, hb, Bool.false_or] at this
        by_cases y : wk M k = x
        · rw [if_pos (c := nI (wk M k) = nI x) (by rw [y])]
          rwa [if_pos (by simp [y])] at this
        · rw [if_neg (c := nI (wk M k) = nI x) (by rw [nI_eq (by omega) (by omega)]; exact y)]
          rwa [if_neg (by simp [y])] at this
    · rw [if_neg (by rw [nI_ltI (by omega) (by omega)]; exact hk)]
      have : k = wn M := by omega
      rw [this]
theorem m1_lt {a x : Nat} (ha : a ≤ 200) (hx : x < 200) : nI a - 1 < nI x ↔ a ≤ x := by
  rcases Nat.eq_zero_or_pos a with z | z
  · subst z
    constructor
    · intro _; omega
    · intro _
      rw [Int32.lt_iff_toInt_lt, nI_int (by omega), show (nI 0 - 1).toInt = -1 from rfl]; omega
  · rw [show (1 : Int32) = nI 1 from rfl, nI_sub z, nI_ltI (by omega) (by omega)]; omega
theorem msL {M : Mm} (h6 : I_cu M) {p : Nat} (hp : p ≤ 50) (K : Int32 → Int32 → Option (Int32 × Mm)) : ∀ f g fr c st, f ≤ 100 → f < g → fr ≤ 150 → c + f ≤ 100 → sp_X11_stationsOf_L11 (nI p) M K g (nI c) st (nI fr - 1) (nI (100 - f)) = K (nI (sc (fun x => pb (wk M) x (wn M)) p f fr c st).1) (sc (fun x => pb (wk M) x (wn M)) p f fr c st).2 := by
  have n8 := (wk_e h6).1
  intro f
  induction f with
  | zero =>
    intro g fr c st _ hg hfr hc
    obtain ⟨g, rfl⟩ : ∃ h, g = h + 1 := ⟨g - 1, by omega⟩
    rw [sp_X11_stationsOf_L11, if_neg (c_nlt 100 100 rfl (by omega) (by omega))]
    rfl
  | succ f ih =>
    intro g fr c st hf hg hfr hc
    obtain ⟨g, rfl⟩ : ∃ h, g = h + 1 := ⟨g - 1, by omega⟩
    rw [sp_X11_stationsOf_L11, if_pos (c_lt 100 100 rfl (by omega) (by decide)), jn_e]
    have ms := fun K' => msI h6 (x := 100 - (f + 1)) (by omega) K' fu 0 (by omega) (by show _ < _ + 1000; omega)
    have e0 : ∀ K', sp_X11_stationsOf_L24 M (nI (100 - (f + 1))) K' fu (0 : Int32) (0 : Int32) = K' (if pb (wk M) (100 - (f + 1)) (wn M) = true then 1 else 0) := fun K' => ms K'
    rw [e0, sc, show 99 - f = 100 - (f + 1) by omega, nI_p, show 100 - (f + 1) + 1 = 100 - f by omega]
    cases hb : pb (wk M) (100 - (f + 1)) (wn M) with
    | false =>
      rw [if_neg (c := false = true) Bool.false_ne_true, if_pos (c := (0 : Int32) = 0) rfl, if_neg (c := false = true ∧ fr ≤ 100 - (f + 1)) (fun q => Bool.false_ne_true q.1)]
      exact ih g fr c st (by omega) (by omega) hfr (by omega)
    | true =>
      rw [if_pos (c := true = true) rfl, if_neg (c := (1 : Int32) = 0) i10]
      by_cases y : fr ≤ 100 - (f + 1)
      · have hm := mi_le (100 - (f + 1)) p
        rw [if_pos ((m1_lt (by omega) (by omega)).mpr y), if_pos (c := true = true ∧ fr ≤ 100 - (f + 1)) ⟨rfl, y⟩, jn_if, mi_e (by omega) hp, jn_if, bl_e, nI_p, nI_add]
        rw [show nI (mi (100 - (f + 1)) p + p) = nI (mi (100 - (f + 1)) p + p + 1) - 1 by rw [show (1 : Int32) = nI 1 from rfl, nI_sub (by omega)]; rfl]
        have ec : (if nI c = 0 then nI (mi (100 - (f + 1)) p) else st) = (if c = 0 then nI (mi (100 - (f + 1)) p) else st) := by
          by_cases z : c = 0
          · rw [if_pos z, if_pos (by rw [z]; rfl)]
          · rw [if_neg z, if_neg (c_ne 0 0 rfl z (by omega) (by decide))]
        rw [ec]
        exact ih g _ (c + 1) _ (by omega) (by omega) (by omega) (by omega)
      · rw [if_neg (by rw [m1_lt (by omega) (by omega)]; exact y), if_neg (c := true = true ∧ fr ≤ 100 - (f + 1)) (fun q => y q.2)]
        exact ih g fr c st (by omega) (by omega) hfr (by omega)
theorem mso_e {M : Mm} (h6 : I_cu M) {p : Nat} (hp : p ≤ 50) (q : Int32) : sp_X11_stationsOf (nI p) q M = some (if q = 0 then nI (sc (fun x => pb (wk M) x (wn M)) p 100 0 0 (-1)).1 else (sc (fun x => pb (wk M) x (wn M)) p 100 0 0 (-1)).2, M) := by
  unfold sp_X11_stationsOf
  rw [jn_e]
  have e := fun K => msL h6 hp K 100 fu 0 0 (-1) (by omega) (by decide) (by omega) (by omega)
  have e' : ∀ K, sp_X11_stationsOf_L11 (nI p) M K fu (0 : Int32) (-1 : Int32) (-1 : Int32) (0 : Int32) = K (nI (sc (fun x => pb (wk M) x (wn M)) p 100 0 0 (-1)).1) (sc (fun x => pb (wk M) x (wn M)) p 100 0 0 (-1)).2 := fun K => e K
  rw [e']
  split <;> rfl
/-- what both answer -/
def staV (M : Mm) (p : Nat) (q : Int32) : Int32 := if q = 0 then nI (sc (fun x => pb (wk M) x (wn M)) p 100 0 0 (-1)).1 else (sc (fun x => pb (wk M) x (wn M)) p 100 0 0 (-1)).2
theorem csta_e {M : Mm} (h6 : I_cu M) {p b : Nat} (hp : p ≤ 50) (hb : b ≤ 1) : sp_X10_stations (nI p) (nI b) M = some (staV M p (nI b), M) := by
  unfold sp_X10_stations staV
  rw [out_0 (x := 0) (y := 50) rfl rfl (by rw [nI_int (by omega)]; omega), bd_s, if_pos rfl, out_0 (x := 0) (y := 1) rfl rfl (by rw [nI_int (by omega)]; omega), bd_s, if_pos rfl]
  by_cases z : nI b = 0
  · rw [if_pos z, if_pos z, cfs_e h6 hp, bd_s]
  · rw [if_neg z, if_neg z, cff_e h6 hp, bd_s]
theorem Bo_stations {i : Nat} {M : Mm} (h : Inv i M) (hz : I_z M) (p q : Int32) : Bo i M (sp_X10_stations p q) (sp_X11_stations p q) := by
  have h6 := h.2.2.2.2.2.1
  rcases rng p 0 50 (by decide) with ⟨a, a1, a2, rfl⟩ | hp
  · rcases rng q 0 1 (by decide) with ⟨b, b1, b2, rfl⟩ | hq
    · refine Bo_same h hz _ (csta_e h6 a2 b2) ?_
      unfold sp_X11_stations staV
      rw [in_1 (x := 0) (y := 50) rfl rfl (by rw [nI_int (by omega)]; omega), bd_s, if_neg i10, in_1 (x := 0) (y := 1) rfl rfl (by rw [nI_int (by omega)]; omega), bd_s, if_neg i10, mso_e h6 a2, bd_s]
    · refine Bo_same h hz (-102) ?_ ?_
      · unfold sp_X10_stations
        rw [out_0 (x := 0) (y := 50) rfl rfl (by rw [nI_int (by omega)]; omega), bd_s, if_pos rfl, out_1 (x := 0) (y := 1) rfl rfl hq, bd_s, if_neg i10]
      · unfold sp_X11_stations
        rw [in_1 (x := 0) (y := 50) rfl rfl (by rw [nI_int (by omega)]; omega), bd_s, if_neg i10, in_0 (x := 0) (y := 1) rfl rfl hq, bd_s, if_pos rfl]
  · refine Bo_same h hz (-102) ?_ ?_
    · unfold sp_X10_stations; rw [out_1 (x := 0) (y := 50) rfl rfl hp, bd_s, if_neg i10]
    · unfold sp_X11_stations; rw [in_0 (x := 0) (y := 50) rfl rfl hp, bd_s, if_pos rfl]
