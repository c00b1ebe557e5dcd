/-! THE CALLS aim, which: the reference -/
def Dk (M Mx : Mm) (C : Nat → Nat) : Prop := Sm M Mx ∧ ∀ l, l < 64 → gJ Mx 39 l = nJ (C l)
def Js (A B : Mm) : Prop := ∀ c j, gJ B c j = gJ A c j
theorem mbL {i : Nat} {M : Mm} (h : Inv i M) {left s hold u : Nat} {T : Nat → Nat} (hl : left < 64) (hh : hold ≤ 10) (hu : u ≤ 1000000) (hT : ∀ l, T l ≤ u) : ∀ f k Mx, k ≤ nR M → nR M < k + f → Dk M Mx T → gI Mx 32 21 = (bs (fun r => ht M r (nI s)) hold u T left k).2 → ∃ M', sp_X11_bestOf_L37 (nI left) (nI s) (nJ u) (nJ hold) f (nJ (bs (fun r => ht M r (nI s)) hold u T left k).1) (nI k) Mx = some (nJ (bs (fun r => ht M r (nI s)) hold u T left (nR M)).1, M') ∧ Sm M M' ∧ Js Mx M' ∧ gI M' 32 21 = (bs (fun r => ht M r (nI s)) hold u T left (nR M)).2 := by
  have n6 := h.2.2.1.n.1
  intro f
  induction f with
  | zero => intro k Mx a b; omega
  | succ f ih =>
    intro k Mx a b c e
    have hx := c.1.inv h
    rw [sp_X11_bestOf_L37, hx.2.2.1.n.2.1, c.1.nR']
    by_cases hk : k < nR M
    · rw [if_pos ((nI_ltI (by omega) (by omega)).mpr hk), b_bit left hl k (by omega)]
      cases hb : left.testBit k with
      | false =>
        rw [if_neg (by simp), nI_p]
        have e' : bs (fun r => ht M r (nI s)) hold u T left (k + 1) = bs (fun r => ht M r (nI s)) hold u T left k := by rw [bs, if_neg (by simp [hb])]
        rw [← e']
        exact ih (k + 1) Mx (by omega) (by omega) c (by rw [e']; exact e)
      | true =>
        have hi := mht_e hx.2.1 (r := k) (by omega) (nI s)
        have hle := ht_le h.2.1 k (nI s)
        have hnt := nt_le' left (2 ^ k)
        rw [if_pos (by simp), hi, bd_s, c.1.ht', bl_e, b_one k (by omega), b_nt left hl _ (p2_64 (by omega)), rdJ_n (show nt left (2 ^ k) < 64 by omega), bl_e, c.2 _ (by omega), nI_J (by omega)]
        rw [show (10 : Int64) = nJ 10 from rfl, nJ_mul, nJ_mul, nJ_sub hle, nJ_mul, nJ_mul, nJ_add]
        have v1 := bs_le (H := fun r => ht M r (nI s)) (left := left) (fun r => ht_le h.2.1 r _) hh (fun l _ => hT l) k
        have v2 := vl_le (H := fun r => ht M r (nI s)) (left := left) (r := k) hle hh (fun l _ => hT l)
        have ev : 10 * ht M k (nI s) * u + (10 - ht M k (nI s)) * hold * T (nt left (2 ^ k)) = vl (fun r => ht M r (nI s)) hold u T left k := rfl
        rw [ev]
        simp only [jn_e]
        by_cases y : (bs (fun r => ht M r (nI s)) hold u T left k).1 < vl (fun r => ht M r (nI s)) hold u T left k
        · have e' : bs (fun r => ht M r (nI s)) hold u T left (k + 1) = (vl (fun r => ht M r (nI s)) hold u T left k, nI k) := by rw [bs, if_pos ⟨hb, y⟩]
          have y' := (nJ_lt (a := (bs (fun r => ht M r (nI s)) hold u T left k).1) (b := vl (fun r => ht M r (nI s)) hold u T left k) (by omega) (by omega)).mpr y
          rw [if_pos y', bl_e, if_pos y', nI_p]
          have := ih (k + 1) (sI Mx 32 21 (nI k)) (by omega) (by omega) ⟨c.1.sI (by unfold scr; omega), fun l hl => by rw [gJ_sI]; exact c.2 l hl⟩ (by rw [e', gI_s])
          rw [e'] at this
          obtain ⟨M', g1, g2, g3, g4⟩ := this
          exact ⟨M', g1, g2, fun c j => by rw [g3, gJ_sI], g4⟩
        · have e' : bs (fun r => ht M r (nI s)) hold u T left (k + 1) = bs (fun r => ht M r (nI s)) hold u T left k := by rw [bs, if_neg (fun z => y z.2)]
          have y' : ¬ nJ (bs (fun r => ht M r (nI s)) hold u T left k).1 < nJ (vl (fun r => ht M r (nI s)) hold u T left k) := by rw [nJ_lt (by omega) (by omega)]; exact y
          rw [if_neg y', bl_e, if_neg y', nI_p]
          have := ih (k + 1) (sI Mx 32 21 (gI Mx 32 21)) (by omega) (by omega) ⟨c.1.sI (by unfold scr; omega), fun l hl => by rw [gJ_sI]; exact c.2 l hl⟩ (by rw [e', gI_s, e])
          rw [e'] at this
          obtain ⟨M', g1, g2, g3, g4⟩ := this
          exact ⟨M', g1, g2, fun c j => by rw [g3, gJ_sI], g4⟩
    · rw [if_neg (by rw [nI_ltI (by omega) (by omega)]; exact hk)]
      have : k = nR M := by omega
      subst this
      exact ⟨Mx, rfl, c.1, fun _ _ => rfl, e⟩
theorem mbo_e {i : Nat} {M : Mm} (h : Inv i M) {left s u : Nat} {T : Nat → Nat} (hl : left < 64) (hs : s < sT M) (hu : u ≤ 1000000) (hT : ∀ l, T l ≤ u) {Mx : Mm} (c : Dk M Mx T) : ∃ M', sp_X11_bestOf (nI s) (nJ u) (nI left) Mx = some (nJ (BS M s u T left).1, M') ∧ Sm M M' ∧ Js Mx M' ∧ gI M' 32 21 = (BS M s u T left).2 := by
  have n6 := h.2.2.1.n.1
  have s10 := h.2.1.s.1
  obtain ⟨q1, q2, q3⟩ := h.2.1.2.2.2.2.2.2.2.2.2.2.2.1 s hs
  unfold sp_X11_bestOf
  rw [rdI_n (show s < 10 by omega), bl_e, bl_e, c.1 37 s (by unfold scr; omega), q2, nI_J (by omega), show (10 : Int64) = nJ 10 from rfl, nJ_sub (by omega), rdJ_n (show left < 64 from hl), bl_e, gJ_sI, c.2 _ hl, nJ_mul, nJ_mul, show (0 : Int32) = nI 0 from rfl]
  have e0 : 10 * (10 - nv (gI M 37 s)) * T left = (bs (fun r => ht M r (nI s)) (10 - nv (gI M 37 s)) u T left 0).1 := rfl
  rw [e0]
  obtain ⟨M', g1, g2, g3, g4⟩ := mbL h (s := s) hl (by omega : 10 - nv (gI M 37 s) ≤ 10) hu hT fu 0 (sI Mx 32 21 (-1)) (by omega) (by show _ < _ + 1000; omega) ⟨c.1.sI (by unfold scr; omega), fun l hl => by rw [gJ_sI]; exact c.2 l hl⟩ gI_s
  exact ⟨M', g1, g2, fun c j => by rw [g3, gJ_sI], g4⟩
theorem hunL (M : Mm) {p : Nat} (hp : p ≤ 4) : ∀ f k, k ≤ p → p < k + f → sp_X11_hundreds_L4 (nI p) M f (nJ (100 ^ k)) (nI k) = some (nJ (100 ^ p), M) := by
  intro f
  induction f with
  | zero => intro k a b; omega
  | succ f ih =>
    intro k a b
    rw [sp_X11_hundreds_L4]
    by_cases hk : k < p
    · rw [if_pos ((nI_ltI (by omega) (by omega)).mpr hk), bl_e, show (100 : Int64) = nJ 100 from rfl, nJ_mul, ← Nat.pow_succ, nI_p]
      exact ih (k + 1) (by omega) (by omega)
    · rw [if_neg (by rw [nI_ltI (by omega) (by omega)]; exact hk)]
      have : k = p := by omega
      rw [this]
theorem hun_e (M : Mm) {p : Nat} (hp : p ≤ 4) : sp_X11_hundreds (nI p) M = some (nJ (100 ^ p), M) := hunL M hp fu 0 (by omega) (by show _ < _ + 1000; omega)
theorem u_le {c j : Nat} (hc : c * 100 ^ j ≤ 1000000) {i : Nat} {M : Mm} (h2 : I_nt i M) (e l : Nat) : c * tab M e j l ≤ c * 100 ^ j := Nat.mul_le_mul_left _ (tab_le h2 e j l)
theorem aimOf_cp {T' : Nat → Nat} {M : Mm} (K : Mm → Option (Int64 × Mm)) : ∀ f k Mx, k ≤ 64 → 64 < k + f → Sm M Mx → (∀ l, l < k → gJ Mx 39 l = nJ (T' l)) → (∀ l, l < 64 → gJ Mx 40 l = nJ (T' l)) → ∃ M', sp_X11_aimOf_L128 K f (nI k) Mx = K M' ∧ Dk M M' T' := by
  intro f
  induction f with
  | zero => intro k Mx a b; omega
  | succ f ih =>
    intro k Mx a b c d e
    rw [sp_X11_aimOf_L128]
    by_cases hk : k < 64
    · rw [if_pos (c_lt 64 64 rfl hk (by decide)), rdJ_n (show k < 64 from hk), wrJ_n (show k < 64 from hk), nI_p]
      refine ih (k + 1) _ (by omega) (by omega) c.sJ (fun l hl => ?_) (fun l hl => ?_)
      · rw [gJ_sJ]
        by_cases y : l = k
        · rw [if_pos ⟨rfl, y⟩, y, e k hk]
        · rw [if_neg (by omega), d l (by omega)]
      · rw [gJ_sJ, if_neg (by omega), e l hl]
    · rw [if_neg (c_nlt 64 64 rfl (by omega) (by omega))]
      exact ⟨Mx, rfl, c, fun l hl => d l (by omega)⟩
theorem aimOf_mk {i : Nat} {M : Mm} (h : Inv i M) {s u : Nat} {T : Nat → Nat} (hs : s < sT M) (hu : u ≤ 1000000) (hT : ∀ l, T l ≤ u) (K : Mm → Option (Int64 × Mm)) : ∀ f k Mx, k ≤ 64 → 64 < k + f → Dk M Mx T → (∀ l, l < k → gJ Mx 40 l = nJ (BS M s u T l).1) → ∃ M', sp_X11_aimOf_L96 (nI s) (nJ u) K f (nI k) Mx = K M' ∧ Sm M M' ∧ ∀ l, l < 64 → gJ M' 40 l = nJ (BS M s u T l).1 := by
  intro f
  induction f with
  | zero => intro k Mx a b; omega
  | succ f ih =>
    intro k Mx a b c d
    rw [sp_X11_aimOf_L96]
    by_cases hk : k < 64
    · obtain ⟨M', e1, e2, e3, e4⟩ := mbo_e h hk hs hu hT c
      rw [if_pos (c_lt 64 64 rfl hk (by decide)), e1, bd_s, wrJ_n (show k < 64 from hk), nI_p]
      refine ih (k + 1) _ (by omega) (by omega) ⟨e2.sJ, fun l hl => ?_⟩ (fun l hl => ?_)
      · rw [gJ_sJ, if_neg (by omega), e3, c.2 l hl]
      · rw [gJ_sJ]
        by_cases y : l = k
        · rw [if_pos ⟨rfl, y⟩, y]
        · rw [if_neg (by omega), e3, d l (by omega)]
    · rw [if_neg (c_nlt 64 64 rfl (by omega) (by omega))]
      exact ⟨Mx, rfl, c.1, fun l hl => d l (by omega)⟩
theorem aimOf_st {i : Nat} {M : Mm} (h : Inv i M) {fst e c : Nat} (c0 : 0 < c) (he : e ≤ sT M) (K : Mm → Option (Int64 × Mm)) : ∀ g j f Mx x, x = nI (fst + g) + (-1) → fst + g + j = e → g < f → c * 100 ^ (j + g) ≤ 100000000 → Dk M Mx (fun l => c * tab M e j l) → ∃ M', sp_X11_aimOf_L86 (nI fst) K f (nJ (c * 100 ^ j)) x Mx = K M' ∧ Dk M M' (fun l => c * tab M e (j + g) l) := by
  have s10 := h.2.1.s.1
  intro g
  induction g with
  | zero =>
    intro j f Mx x ex ej hf hc d
    obtain ⟨f, rfl⟩ : ∃ g, f = g + 1 := ⟨f - 1, by omega⟩
    rw [sp_X11_aimOf_L86, ex, if_pos (by
      rw [Int32.lt_iff_toInt_lt, show nI (fst + 0) + (-1) = nI fst - 1 from (Int32.sub_eq_add_neg ..).symm, toI_m1 (by omega), nI_int (by omega)]; omega)]
    exact ⟨Mx, rfl, d⟩
  | succ g ih =>
    intro j f Mx x ex ej hf hc d
    obtain ⟨f, rfl⟩ : ∃ g, f = g + 1 := ⟨f - 1, by omega⟩
    rw [sp_X11_aimOf_L86, ex, show fst + (g + 1) = fst + g + 1 from rfl, nI_m1, if_neg (by rw [nI_ltI (by omega) (by omega)]; omega)]
    simp only [jn_e]
    have hp1 : c * 100 ^ j * 100 ≤ c * 100 ^ (j + (g + 1)) := by
      rw [Nat.mul_assoc, ← Nat.pow_succ]
      exact Nat.mul_le_mul_left _ (Nat.pow_le_pow_right (by decide) (by omega))
    have hu : c * 100 ^ j ≤ 1000000 := by omega
    have hT : ∀ l, c * tab M e j l ≤ c * 100 ^ j := fun l => u_le hu h.2.1 e l
    obtain ⟨A, a1, a2, a3⟩ := aimOf_mk h (s := fst + g) (u := c * 100 ^ j) (T := fun l => c * tab M e j l) (by omega) hu hT (fun (M_125 : Mm) => sp_X11_aimOf_L128 (fun (M_155 : Mm) => bl ((nJ (c * 100 ^ j)) * (100 : Int64)) (fun y160 => sp_X11_aimOf_L86 (nI fst) K f y160 ((nI (fst + g)) + (-1)) M_155)) fu (0 : Int32) M_125) fu 0 Mx (by omega) (by show _ < _ + 1000; omega) d (fun l hl => by omega)
    rw [show (0 : Int32) = nI 0 from rfl] at a1 ⊢
    rw [a1]
    obtain ⟨B, b1, b2⟩ := aimOf_cp (T' := fun l => (BS M (fst + g) (c * 100 ^ j) (fun l => c * tab M e j l) l).1) (fun (M_155 : Mm) => bl ((nJ (c * 100 ^ j)) * (100 : Int64)) (fun y160 => sp_X11_aimOf_L86 (nI fst) K f y160 ((nI (fst + g)) + (-1)) M_155)) fu 0 A (by omega) (by show _ < _ + 1000; omega) a2 (fun l hl => by omega) a3
    rw [b1]
    simp only [bl_e]
    rw [show (100 : Int64) = nJ 100 from rfl, nJ_mul, Nat.mul_assoc, ← Nat.pow_succ]
    have ef : e - 1 - j = fst + g := by omega
    have := ih (j + 1) f B _ rfl (by omega) (by omega) (by rw [show j + 1 + g = j + (g + 1) by omega]; exact hc) ⟨b2.1, fun l hl => by
      rw [b2.2 l hl]
      show nJ (BS M (fst + g) (c * 100 ^ j) (fun l => c * tab M e j l) l).1 = nJ (c * (BS M (e - 1 - j) (100 ^ j) (tab M e j) l).1)
      rw [ef]
      unfold BS
      rw [bs_c c0]⟩
    rw [show j + (g + 1) = j + 1 + g by omega]
    exact this
theorem aimOf_z {M : Mm} (K : Mm → Option (Int64 × Mm)) : ∀ f k Mx, k ≤ 64 → 64 < k + f → Sm M Mx → (∀ l, l < k → gJ Mx 39 l = nJ 0) → ∃ M', sp_X11_aimOf_L2 K f (nI k) Mx = K M' ∧ Dk M M' (fun _ => 0) := by
  intro f
  induction f with
  | zero => intro k Mx a b; omega
  | succ f ih =>
    intro k Mx a b c d
    rw [sp_X11_aimOf_L2]
    by_cases hk : k < 64
    · rw [if_pos (c_lt 64 64 rfl hk (by decide)), wrJ_n (show k < 64 from hk), nI_p]
      refine ih (k + 1) _ (by omega) (by omega) c.sJ (fun l hl => ?_)
      rw [gJ_sJ]
      by_cases y : l = k
      · rw [if_pos ⟨rfl, y⟩]; rfl
      · rw [if_neg (by omega), d l (by omega)]
    · rw [if_neg (c_nlt 64 64 rfl (by omega) (by omega))]
      exact ⟨Mx, rfl, c, fun l hl => d l (by omega)⟩
theorem aimOf_pad {p : Int32} {t0 y : Int32} {n : Nat} (K : Int64 → Option (Int64 × Mm)) (en : p - (t0 - y) = nI n) (hn : n ≤ 4) : ∀ f k, k ≤ n → n < k + f → sp_X11_aimOf_L56 p t0 y K f (nJ (100 ^ k)) (nI k) = K (nJ (100 ^ n)) := by
  intro f
  induction f with
  | zero => intro k a b; omega
  | succ f ih =>
    intro k a b
    rw [sp_X11_aimOf_L56, en]
    by_cases hk : k < n
    · rw [if_pos ((nI_ltI (by omega) (by omega)).mpr hk), bl_e, show (100 : Int64) = nJ 100 from rfl, nJ_mul, ← Nat.pow_succ, nI_p]
      exact ih (k + 1) (by omega) (by omega)
    · rw [if_neg (by rw [nI_ltI (by omega) (by omega)]; exact hk)]
      have : k = n := by omega
      rw [this]
theorem layLater_cp {T' : Nat → Nat} {M : Mm} (K : Mm → Option (Unit × Mm)) : ∀ f k Mx, k ≤ 64 → 64 < k + f → Sm M Mx → (∀ l, l < k → gJ Mx 39 l = nJ (T' l)) → (∀ l, l < 64 → gJ Mx 40 l = nJ (T' l)) → ∃ M', sp_X11_layLater_L136 K f (nI k) Mx = K M' ∧ Dk M M' T' := by
  intro f
  induction f with
  | zero => intro k Mx a b; omega
  | succ f ih =>
    intro k Mx a b c d e
    rw [sp_X11_layLater_L136]
    by_cases hk : k < 64
    · rw [if_pos (c_lt 64 64 rfl hk (by decide)), rdJ_n (show k < 64 from hk), wrJ_n (show k < 64 from hk), nI_p]
      refine ih (k + 1) _ (by omega) (by omega) c.sJ (fun l hl => ?_) (fun l hl => ?_)
      · rw [gJ_sJ]
        by_cases y : l = k
        · rw [if_pos ⟨rfl, y⟩, y, e k hk]
        · rw [if_neg (by omega), d l (by omega)]
      · rw [gJ_sJ, if_neg (by omega), e l hl]
    · rw [if_neg (c_nlt 64 64 rfl (by omega) (by omega))]
      exact ⟨Mx, rfl, c, fun l hl => d l (by omega)⟩
theorem layLater_mk {i : Nat} {M : Mm} (h : Inv i M) {s u : Nat} {T : Nat → Nat} (hs : s < sT M) (hu : u ≤ 1000000) (hT : ∀ l, T l ≤ u) (K : Mm → Option (Unit × Mm)) : ∀ f k Mx, k ≤ 64 → 64 < k + f → Dk M Mx T → (∀ l, l < k → gJ Mx 40 l = nJ (BS M s u T l).1) → ∃ M', sp_X11_layLater_L104 (nI s) (nJ u) K f (nI k) Mx = K M' ∧ Sm M M' ∧ ∀ l, l < 64 → gJ M' 40 l = nJ (BS M s u T l).1 := by
  intro f
  induction f with
  | zero => intro k Mx a b; omega
  | succ f ih =>
    intro k Mx a b c d
    rw [sp_X11_layLater_L104]
    by_cases hk : k < 64
    · obtain ⟨M', e1, e2, e3, e4⟩ := mbo_e h hk hs hu hT c
      rw [if_pos (c_lt 64 64 rfl hk (by decide)), e1, bd_s, wrJ_n (show k < 64 from hk), nI_p]
      refine ih (k + 1) _ (by omega) (by omega) ⟨e2.sJ, fun l hl => ?_⟩ (fun l hl => ?_)
      · rw [gJ_sJ, if_neg (by omega), e3, c.2 l hl]
      · rw [gJ_sJ]
        by_cases y : l = k
        · rw [if_pos ⟨rfl, y⟩, y]
        · rw [if_neg (by omega), e3, d l (by omega)]
    · rw [if_neg (c_nlt 64 64 rfl (by omega) (by omega))]
      exact ⟨Mx, rfl, c.1, fun l hl => d l (by omega)⟩
theorem layLater_st {i : Nat} {M : Mm} (h : Inv i M) {fst e c : Nat} (c0 : 0 < c) (he : e ≤ sT M)  : ∀ g j f Mx x, x = nI (fst + g) + (-1) → fst + g + j = e → g < f → c * 100 ^ (j + g) ≤ 1000000 → Dk M Mx (fun l => c * tab M e j l) → ∃ M', sp_X11_layLater_L94 (nI fst)  f (nJ (c * 100 ^ j)) x Mx = some ((), M') ∧ Dk M M' (fun l => c * tab M e (j + g) l) := by
  have s10 := h.2.1.s.1
  intro g
  induction g with
  | zero =>
    intro j f Mx x ex ej hf hc d
    obtain ⟨f, rfl⟩ : ∃ g, f = g + 1 := ⟨f - 1, by omega⟩
    rw [sp_X11_layLater_L94, ex, if_pos (by
      rw [Int32.lt_iff_toInt_lt, show nI (fst + 0) + (-1) = nI fst - 1 from (Int32.sub_eq_add_neg ..).symm, toI_m1 (by omega), nI_int (by omega)]; omega)]
    exact ⟨Mx, rfl, d⟩
  | succ g ih =>
    intro j f Mx x ex ej hf hc d
    obtain ⟨f, rfl⟩ : ∃ g, f = g + 1 := ⟨f - 1, by omega⟩
    rw [sp_X11_layLater_L94, ex, show fst + (g + 1) = fst + g + 1 from rfl, nI_m1, if_neg (by rw [nI_ltI (by omega) (by omega)]; omega)]
    simp only [jn_e]
    have hp1 : c * 100 ^ j * 100 ≤ c * 100 ^ (j + (g + 1)) := by
      rw [Nat.mul_assoc, ← Nat.pow_succ]
      exact Nat.mul_le_mul_left _ (Nat.pow_le_pow_right (by decide) (by omega))
    have hu : c * 100 ^ j ≤ 1000000 := by omega
    have hT : ∀ l, c * tab M e j l ≤ c * 100 ^ j := fun l => u_le hu h.2.1 e l
    obtain ⟨A, a1, a2, a3⟩ := layLater_mk h (s := fst + g) (u := c * 100 ^ j) (T := fun l => c * tab M e j l) (by omega) hu hT (fun (M_125 : Mm) => sp_X11_layLater_L136 (fun (M_155 : Mm) => bl ((nJ (c * 100 ^ j)) * (100 : Int64)) (fun y160 => sp_X11_layLater_L94 (nI fst)  f y160 ((nI (fst + g)) + (-1)) M_155)) fu (0 : Int32) M_125) fu 0 Mx (by omega) (by show _ < _ + 1000; omega) d (fun l hl => by omega)
    rw [show (0 : Int32) = nI 0 from rfl] at a1 ⊢
    rw [a1]
    obtain ⟨B, b1, b2⟩ := layLater_cp (T' := fun l => (BS M (fst + g) (c * 100 ^ j) (fun l => c * tab M e j l) l).1) (fun (M_155 : Mm) => bl ((nJ (c * 100 ^ j)) * (100 : Int64)) (fun y160 => sp_X11_layLater_L94 (nI fst)  f y160 ((nI (fst + g)) + (-1)) M_155)) fu 0 A (by omega) (by show _ < _ + 1000; omega) a2 (fun l hl => by omega) a3
    rw [b1]
    simp only [bl_e]
    rw [show (100 : Int64) = nJ 100 from rfl, nJ_mul, Nat.mul_assoc, ← Nat.pow_succ]
    have ef : e - 1 - j = fst + g := by omega
    have := ih (j + 1) f B _ rfl (by omega) (by omega) (by rw [show j + 1 + g = j + (g + 1) by omega]; exact hc) ⟨b2.1, fun l hl => by
      rw [b2.2 l hl]
      show nJ (BS M (fst + g) (c * 100 ^ j) (fun l => c * tab M e j l) l).1 = nJ (c * (BS M (e - 1 - j) (100 ^ j) (tab M e j) l).1)
      rw [ef]
      unfold BS
      rw [bs_c c0]⟩
    rw [show j + (g + 1) = j + 1 + g by omega]
    exact this
theorem layLater_z {M : Mm} (K : Mm → Option (Unit × Mm)) : ∀ f k Mx, k ≤ 64 → 64 < k + f → Sm M Mx → (∀ l, l < k → gJ Mx 39 l = nJ 0) → ∃ M', sp_X11_layLater_L2 K f (nI k) Mx = K M' ∧ Dk M M' (fun _ => 0) := by
  intro f
  induction f with
  | zero => intro k Mx a b; omega
  | succ f ih =>
    intro k Mx a b c d
    rw [sp_X11_layLater_L2]
    by_cases hk : k < 64
    · rw [if_pos (c_lt 64 64 rfl hk (by decide)), wrJ_n (show k < 64 from hk), nI_p]
      refine ih (k + 1) _ (by omega) (by omega) c.sJ (fun l hl => ?_)
      rw [gJ_sJ]
      by_cases y : l = k
      · rw [if_pos ⟨rfl, y⟩]; rfl
      · rw [if_neg (by omega), d l (by omega)]
    · rw [if_neg (c_nlt 64 64 rfl (by omega) (by omega))]
      exact ⟨Mx, rfl, c, fun l hl => d l (by omega)⟩
theorem layLater_pad {p : Int32} {t0 y : Int32} {n : Nat} (K : Int64 → Option (Unit × Mm)) (en : (p - (1 : Int32)) - (t0 - y) = nI n) (hn : n ≤ 4) : ∀ f k, k ≤ n → n < k + f → sp_X11_layLater_L62 p t0 y K f (nJ (100 ^ k)) (nI k) = K (nJ (100 ^ n)) := by
  intro f
  induction f with
  | zero => intro k a b; omega
  | succ f ih =>
    intro k a b
    rw [sp_X11_layLater_L62, en]
    by_cases hk : k < n
    · rw [if_pos ((nI_ltI (by omega) (by omega)).mpr hk), bl_e, show (100 : Int64) = nJ 100 from rfl, nJ_mul, ← Nat.pow_succ, nI_p]
      exact ih (k + 1) (by omega) (by omega)
    · rw [if_neg (by rw [nI_ltI (by omega) (by omega)]; exact hk)]
      have : k = n := by omega
      rw [this]
