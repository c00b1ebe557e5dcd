/-! THE CALLS aim, which: the class -/
def vl (H : Nat → Nat) (hold u : Nat) (T : Nat → Nat) (left r : Nat) : Nat := 10 * H r * u + (10 - H r) * hold * T (nt left (2 ^ r))
def bs (H : Nat → Nat) (hold u : Nat) (T : Nat → Nat) (left : Nat) : Nat → Nat × Int32
  | 0 => (10 * hold * T left, -1)
  | r + 1 => if left.testBit r = true ∧ (bs H hold u T left r).1 < vl H hold u T left r then (vl H hold u T left r, nI r) else bs H hold u T left r
theorem nt_le' (a b : Nat) : nt a b ≤ a := Nat.and_le_left
theorem vl_le {H : Nat → Nat} {hold u : Nat} {T : Nat → Nat} {left r : Nat} (hH : H r ≤ 10) (hh : hold ≤ 10) (hT : ∀ l, l ≤ left → T l ≤ u) : vl H hold u T left r ≤ 100 * u := by
  unfold vl
  have h1 : (10 - H r) * hold ≤ (10 - H r) * 10 := Nat.mul_le_mul_left _ hh
  have h2 : (10 - H r) * hold * T (nt left (2 ^ r)) ≤ (10 - H r) * 10 * u := Nat.mul_le_mul h1 (hT _ (nt_le' _ _))
  have h3 : 10 * H r * u + (10 - H r) * 10 * u = (10 * H r + (10 - H r) * 10) * u := by rw [Nat.add_mul]
  have h4 : 10 * H r + (10 - H r) * 10 = 100 := by omega
  rw [h4] at h3
  omega
theorem bs_le {H : Nat → Nat} {hold u : Nat} {T : Nat → Nat} {left : Nat} (hH : ∀ r, H r ≤ 10) (hh : hold ≤ 10) (hT : ∀ l, l ≤ left → T l ≤ u) : ∀ r, (bs H hold u T left r).1 ≤ 100 * u
  | 0 => by
    show 10 * hold * T left ≤ 100 * u
    have h1 : 10 * hold * T left ≤ 10 * 10 * u := Nat.mul_le_mul (Nat.mul_le_mul_left _ hh) (hT _ (Nat.le_refl _))
    omega
  | r + 1 => by
    rw [bs]
    split
    · exact vl_le (hH r) hh hT
    · exact bs_le hH hh hT r
theorem bs_eq {H : Nat → Nat} {hold u : Nat} {T C : Nat → Nat} {left : Nat} (hT : ∀ l, l ≤ left → C l = T l) : ∀ r, bs H hold u C left r = bs H hold u T left r
  | 0 => by rw [bs, bs, hT _ (Nat.le_refl _)]
  | r + 1 => by
    have e : vl H hold u C left r = vl H hold u T left r := by unfold vl; rw [hT _ (nt_le' _ _)]
    rw [bs, bs, e, bs_eq hT r]
theorem vl_c {H : Nat → Nat} {hold u c : Nat} {T : Nat → Nat} {left r : Nat} : vl H hold (c * u) (fun l => c * T l) left r = c * vl H hold u T left r := by
  unfold vl
  rw [Nat.mul_add, Nat.mul_left_comm (10 * H r) c u, Nat.mul_left_comm ((10 - H r) * hold) c]
theorem bs_c {H : Nat → Nat} {hold u c : Nat} {T : Nat → Nat} {left : Nat} (hc : 0 < c) : ∀ r, bs H hold (c * u) (fun l => c * T l) left r = (c * (bs H hold u T left r).1, (bs H hold u T left r).2)
  | 0 => by rw [bs, bs, Nat.mul_left_comm]
  | r + 1 => by
    rw [bs, bs, vl_c, bs_c hc r]
    have e := Nat.mul_lt_mul_left hc (b := (bs H hold u T left r).1) (c := vl H hold u T left r)
    by_cases y : left.testBit r = true ∧ (bs H hold u T left r).1 < vl H hold u T left r
    · rw [if_pos y, if_pos ⟨y.1, e.mpr y.2⟩]
    · rw [if_neg y, if_neg (fun z => y ⟨z.1, e.mp z.2⟩)]
theorem Sm.rg' {M M' : Mm} (h : Sm M M') (p : Int32) : rg M' p = rg M p := by
  unfold rg; rw [h 32 8 (by unfold scr; omega)]
theorem Sm.fa' {M M' : Mm} (h : Sm M M') (r : Nat) (s g : Int32) : fa M' r s g = fa M r s g := by
  unfold fa; rw [h 38 _ (by unfold scr; omega), h 38 _ (by unfold scr; omega), h 32 9 (by unfold scr; omega)]
theorem Sm.ht' {M M' : Mm} (h : Sm M M') (r : Nat) (s : Int32) : ht M' r s = ht M r s := by
  unfold ht hg; simp only [h.rg', h.fa', h 36 0 (by unfold scr; omega), h 36 1 (by unfold scr; omega), h 36 2 (by unfold scr; omega)]
theorem Sm.nR' {M M' : Mm} (h : Sm M M') : nR M' = nR M := by unfold nR; rw [h 32 17 (by unfold scr; omega)]
theorem Sm.nM' {M M' : Mm} (h : Sm M M') : nM M' = nM M := by unfold nM; rw [h 32 22 (by unfold scr; omega)]
theorem Sm.sT' {M M' : Mm} (h : Sm M M') : sT M' = sT M := by unfold sT; rw [h 32 7 (by unfold scr; omega)]
theorem Sm.lfb' {M M' : Mm} (h : Sm M M') : lfb M' = lfb M := by unfold lfb; rw [h.nR', h 13 3 (by unfold scr; omega)]
def BS (M : Mm) (s u : Nat) (T : Nat → Nat) (left : Nat) : Nat × Int32 := bs (fun r => ht M r (nI s)) (10 - nv (gI M 37 s)) u T left (nR M)
def tab (M : Mm) (e : Nat) : Nat → Nat → Nat
  | 0, _ => 0
  | j + 1, left => (BS M (e - 1 - j) (100 ^ j) (tab M e j) left).1
theorem tab_le {i : Nat} {M : Mm} (h2 : I_nt i M) (e : Nat) : ∀ j l, tab M e j l ≤ 100 ^ j
  | 0, _ => Nat.zero_le _
  | j + 1, l => by
    rw [tab, Nat.pow_succ, Nat.mul_comm]
    exact bs_le (fun r => ht_le h2 r _) (by omega) (fun l _ => tab_le h2 e j l) _
def Ck (M Mx : Mm) (w : Nat) (C : Nat → Nat) : Prop := Sm M Mx ∧ gJ Mx 22 1 = nJ w ∧ ∀ l, l < 2 ^ nR M → gJ Mx 23 l = nJ (C l)
theorem chance_e {Mx : Mm} {w h hold t : Nat} (ew : gJ Mx 22 1 = nJ w) (hh : h ≤ 10) (ho : hold ≤ 10) : sp_X0_chance (nI h) (nI hold) (nJ t) Mx = some (nJ (10 * h * w + (10 - h) * hold * t), Mx) := by
  unfold sp_X0_chance
  have q : (10 - h) * hold ≤ 100 := Nat.le_trans (Nat.mul_le_mul (by omega : 10 - h ≤ 10) ho) (by decide)
  rw [ew, show (10 : Int32) = nI 10 from rfl, nI_mul, nI_sub hh, nI_mul, nI_J (by omega), nI_J (by omega), nJ_mul, nJ_mul, nJ_add]
theorem cfbL {i : Nat} {M : Mm} (h : Inv i M) {left s hold w : Nat} {C : Nat → Nat} (hl : left < 2 ^ nR M) (hh : hold ≤ 10) (hw : w ≤ 1000000) (hC : ∀ l, l ≤ left → C l ≤ w) : ∀ f k Mx, k ≤ nR M → nR M < k + f → Ck M Mx w C → gJ Mx 22 0 = nJ (bs (fun r => ht M r (nI s)) hold w C left k).1 → gI Mx 22 2 = (bs (fun r => ht M r (nI s)) hold w C left k).2 → ∃ M', sp_X0_findBest_L38 (nI left) (nI s) (nI hold) f (nI k) Mx = some ((), M') ∧ Ck M M' w C ∧ gJ M' 22 0 = nJ (bs (fun r => ht M r (nI s)) hold w C left (nR M)).1 ∧ gI M' 22 2 = (bs (fun r => ht M r (nI s)) hold w C left (nR M)).2 := by
  have n6 := h.2.2.1.n.1
  have l64 : left < 64 := Nat.lt_of_lt_of_le hl (pw_64 n6)
  intro f
  induction f with
  | zero => intro k Mx a b; omega
  | succ f ih =>
    intro k Mx a b c d e
    have hx := c.1.inv h
    rw [sp_X0_findBest_L38, hx.2.2.1.n.2.2, c.1.nR']
    by_cases hk : k < nR M
    · rw [if_pos ((nI_ltI (by omega) (by omega)).mpr hk), isIn_e l64 (by omega), bd_s]
      cases hb : left.testBit k with
      | false =>
        rw [if_pos (by simp), nI_p]
        have e' : bs (fun r => ht M r (nI s)) hold w C left (k + 1) = bs (fun r => ht M r (nI s)) hold w C left k := by rw [bs, if_neg (by simp [hb])]
        exact ih (k + 1) Mx (by omega) (by omega) c (by rw [e']; exact d) (by rw [e']; exact e)
      | true =>
        have hi := cht_e hx.2.1 hx.2.2.1 (r := k) (by rw [c.1.nR']; exact hk) (nI s)
        have hle := ht_le h.2.1 k (nI s)
        have hnt := nt_le' left (2 ^ k)
        rw [if_neg (by simp), hi, bd_s, c.1.ht', wout_e l64 (by omega), bd_s, atJ_n (show nt left (2 ^ k) < 64 by omega), bd_s, c.2.2 _ (by omega), chance_e c.2.1 hle hh, bd_s, d]
        have v1 := bs_le (H := fun r => ht M r (nI s)) (fun r => ht_le h.2.1 r _) hh hC k
        have v2 := vl_le (H := fun r => ht M r (nI s)) (r := k) hle hh hC
        have ev : 10 * ht M k (nI s) * w + (10 - ht M k (nI s)) * hold * C (nt left (2 ^ k)) = vl (fun r => ht M r (nI s)) hold w C left k := rfl
        rw [ev]
        by_cases y : (bs (fun r => ht M r (nI s)) hold w C left k).1 < vl (fun r => ht M r (nI s)) hold w C left k
        · have e' : bs (fun r => ht M r (nI s)) hold w C left (k + 1) = (vl (fun r => ht M r (nI s)) hold w C left k, nI k) := by rw [bs, if_pos ⟨hb, y⟩]
          rw [if_pos ((nJ_lt (by omega) (by omega)).mpr y), bl_e, bl_e, nI_p]
          refine ih (k + 1) _ (by omega) (by omega) ⟨(c.1.sJ).sI (by unfold scr; omega), ?_, fun l hl => ?_⟩ ?_ ?_
          · rw [gJ_sI, gJ_sJ, if_neg (by omega)]; exact c.2.1
          · rw [gJ_sI, gJ_sJ, if_neg (by omega)]; exact c.2.2 l hl
          · rw [e', gJ_sI, gJ_sJ, if_pos ⟨rfl, rfl⟩]
          · rw [e', gI_s]
        · have e' : bs (fun r => ht M r (nI s)) hold w C left (k + 1) = bs (fun r => ht M r (nI s)) hold w C left k := by rw [bs, if_neg (fun z => y z.2)]
          rw [if_neg (by rw [nJ_lt (by omega) (by omega)]; exact y), nI_p]
          exact ih (k + 1) Mx (by omega) (by omega) c (by rw [e']; exact d) (by rw [e']; exact e)
    · rw [if_neg (by rw [nI_ltI (by omega) (by omega)]; exact hk)]
      have : k = nR M := by omega
      subst this
      exact ⟨Mx, rfl, c, d, e⟩
theorem cfb_e {i : Nat} {M : Mm} (h : Inv i M) {left s w : Nat} {C : Nat → Nat} (hl : left < 2 ^ nR M) (hs : s < sT M) (hw : w ≤ 1000000) (hC : ∀ l, l ≤ left → C l ≤ w) {Mx : Mm} (c : Ck M Mx w C) : ∃ M', sp_X0_findBest (nI left) (nI s) Mx = some ((), M') ∧ Ck M M' w C ∧ gJ M' 22 0 = nJ (BS M s w C left).1 ∧ gI M' 22 2 = (BS M s w C left).2 := by
  have n6 := h.2.2.1.n.1
  have s10 := h.2.1.s.1
  have l64 : left < 64 := Nat.lt_of_lt_of_le hl (pw_64 n6)
  obtain ⟨q1, q2, q3⟩ := h.2.1.2.2.2.2.2.2.2.2.2.2.2.1 s hs
  unfold sp_X0_findBest sp_X7_breakTenths
  rw [at_n (show s < 10 by omega), bd_s, bd_s, bl_e, c.1 5 s (by unfold scr; omega), q1, q2, show (10 : Int32) = nI 10 from rfl, nI_sub (by omega), atJ_n (show left < 64 from l64), bd_s, c.2.2 _ hl, show (0 : Int32) = nI 0 from rfl, chance_e c.2.1 (by omega) (by omega), bd_s, bl_e, bl_e]
  have e0 : 10 * 0 * w + (10 - 0) * (10 - nv (gI M 37 s)) * C left = (bs (fun r => ht M r (nI s)) (10 - nv (gI M 37 s)) w C left 0).1 := by
    show _ = 10 * _ * _
    simp
  rw [e0]
  refine cfbL h hl (by omega) hw hC fu 0 _ (by omega) (by show _ < _ + 1000; omega) ⟨(c.1.sJ).sI (by unfold scr; omega), ?_, fun l hl => ?_⟩ ?_ ?_
  · rw [gJ_sI, gJ_sJ, if_neg (by omega)]; exact c.2.1
  · rw [gJ_sI, gJ_sJ, if_neg (by omega)]; exact c.2.2 l hl
  · rw [gJ_sI, gJ_sJ, if_pos ⟨rfl, rfl⟩]
  · rw [gI_s]; rfl
def mx (k : Nat) (T T' : Nat → Nat) (l : Nat) : Nat := if l < k then T l else T' l
theorem mx_lt {k l : Nat} {T T' : Nat → Nat} (h : l < k) : mx k T T' l = T l := if_pos h
theorem mx_ge {k l : Nat} {T T' : Nat → Nat} (h : ¬ l < k) : mx k T T' l = T' l := if_neg h
theorem cL56 {i : Nat} {M : Mm} (h : Inv i M) {s w : Nat} {T : Nat → Nat} (K : Mm → Option (Unit × Mm)) (hs : s < sT M) (hw : w ≤ 1000000) (hT : ∀ l, T l ≤ w) : ∀ k f Mx x, x = nI k + (-1) → k ≤ 2 ^ nR M → k < f → Ck M Mx w (mx k T (fun l => (BS M s w T l).1)) → ∃ M', sp_X0_search_L56 K (nI s) f x Mx = K M' ∧ Ck M M' w (fun l => (BS M s w T l).1) := by
  have n6 := h.2.2.1.n.1
  have p64 := pw_64 n6
  intro k
  induction k with
  | zero =>
    intro f Mx x ex hk hf c
    obtain ⟨f, rfl⟩ : ∃ g, f = g + 1 := ⟨f - 1, by omega⟩
    rw [sp_X0_search_L56, ex, if_pos (by decide)]
    refine ⟨Mx, rfl, c.1, c.2.1, fun l hl => ?_⟩
    have := c.2.2 l hl
    rwa [mx_ge (by omega)] at this
  | succ k ih =>
    intro f Mx x ex hk hf c
    obtain ⟨f, rfl⟩ : ∃ g, f = g + 1 := ⟨f - 1, by omega⟩
    rw [sp_X0_search_L56, ex, nI_m1, if_neg (nI_pos (by omega))]
    have hle : ∀ l, l ≤ k → mx (k + 1) T (fun l => (BS M s w T l).1) l = T l := fun l hl => mx_lt (by omega)
    obtain ⟨M', e1, e2, e3, e4⟩ := cfb_e h (left := k) (by omega) hs hw (fun l hl => by rw [hle l hl]; exact hT l) c
    have eb : BS M s w (mx (k + 1) T (fun l => (BS M s w T l).1)) k = BS M s w T k := by
      unfold BS
      exact bs_eq hle _
    rw [eb] at e3
    rw [e1, bd_s, putJ_n (show k < 64 by omega), bd_s]
    refine ih f _ _ rfl (by omega) (by omega) ⟨e2.1.sJ, ?_, fun l hl => ?_⟩
    · rw [gJ_sJ, if_neg (by omega)]; exact e2.2.1
    · rw [gJ_sJ]
      by_cases y : l = k
      · rw [if_pos ⟨rfl, y⟩, mx_ge (by omega), e3, y]
      · rw [if_neg (by omega), e2.2.2 l hl]
        by_cases z : l < k
        · rw [mx_lt (by omega), mx_lt z]
        · rw [mx_ge (by omega), mx_ge z]
theorem pow100 {j : Nat} (h : j ≤ 3) : 100 ^ j ≤ 1000000 := Nat.le_trans (Nat.pow_le_pow_right (by decide) h) (by decide)
theorem cL39 {i : Nat} {M : Mm} (h : Inv i M) {first e : Nat} (K : Mm → Option (Unit × Mm)) (he : e ≤ sT M) (h4 : e ≤ first + 4) : ∀ g t f Mx, t = first + g → t < e → g < f → Ck M Mx (100 ^ (e - 1 - t)) (tab M e (e - 1 - t)) → ∃ M', sp_X0_search_L39 (nI first) K f (nI t) Mx = K M' ∧ Ck M M' (100 ^ (e - 1 - first)) (tab M e (e - 1 - first)) := by
  have n6 := h.2.2.1.n.1
  have s10 := h.2.1.s.1
  intro g
  induction g with
  | zero =>
    intro t f Mx et ht hf c
    obtain ⟨f, rfl⟩ : ∃ g, f = g + 1 := ⟨f - 1, by omega⟩
    rw [sp_X0_search_L39, if_neg (by rw [nI_ltI (by omega) (by omega)]; omega)]
    refine ⟨Mx, rfl, ?_⟩
    have : t = first := by omega
    rw [← this]; exact c
  | succ g ih =>
    intro t f Mx et ht hf c
    obtain ⟨f, rfl⟩ : ∃ g, f = g + 1 := ⟨f - 1, by omega⟩
    have hx := c.1.inv h
    rw [sp_X0_search_L39, if_pos ((nI_ltI (by omega) (by omega)).mpr (by omega)), bl_e, hx.2.2.1.n.2.2, c.1.nR', b_all _ n6]
    simp only [jn_e]
    obtain ⟨M', e1, e2⟩ := cL56 h (s := t) (w := 100 ^ (e - 1 - t)) (T := tab M e (e - 1 - t)) (fun (M_90 : Mm) => bl (sJ M_90 22 1 ((gJ M_90 22 1) * (100 : Int64))) (fun M99 => sp_X0_search_L39 (nI first) K f ((nI t) + (-1)) M99)) (by omega) (pow100 (by omega)) (tab_le h.2.1 e _) (2 ^ nR M) fu Mx (nI (2 ^ nR M - 1)) (by
        have := Nat.two_pow_pos (nR M)
        rw [show nI (2 ^ nR M) = nI (2 ^ nR M - 1 + 1) by congr 1; omega, nI_m1]) (Nat.le_refl _) (by have := pw_64 n6; show _ < 1000; omega) ⟨c.1, c.2.1, fun l hl => by rw [mx_lt hl]; exact c.2.2 l hl⟩
    rw [e1]
    simp only [bl_e]
    have ej : e - 1 - (t - 1) = e - 1 - t + 1 := by omega
    have et1 : e - 1 - (e - 1 - t) = t := by omega
    have e3 : nI t + (-1) = nI (t - 1) := by rw [show nI t = nI (t - 1 + 1) by congr 1; omega, nI_m1]
    rw [e3]
    refine ih (t - 1) f _ (by omega) (by omega) (by omega) ⟨e2.1.sJ, ?_, fun l hl => ?_⟩
    · rw [gJ_sJ, if_pos ⟨rfl, rfl⟩, e2.2.1, show (100 : Int64) = nJ 100 from rfl, nJ_mul, ej, Nat.pow_succ]
    · rw [gJ_sJ, if_neg (by omega), e2.2.2 l hl, ej]
      show _ = nJ ((BS M (e - 1 - (e - 1 - t)) _ _ l).1)
      rw [et1]
theorem fillJL {c0 : Nat} {v : Int64} : ∀ f k M, k ≤ ln c0 → ln c0 < k + f → ∃ M', sp_J7_fill_d0a16_L6 (nI (ln c0)) c0 v f (nI k) M = some ((), M') ∧ (∀ c j, gI M' c j = gI M c j) ∧ ∀ c j, gJ M' c j = if c = c0 ∧ k ≤ j ∧ j < ln c0 then v else gJ M c j := by
  have hl := ln_le c0
  intro f
  induction f with
  | zero => intro k M h1 h2; omega
  | succ f ih =>
    intro k M h1 h2
    rw [sp_J7_fill_d0a16_L6]
    by_cases hk : k < ln c0
    · rw [if_pos ((nI_ltI (by omega) (by omega)).mpr hk), wrJ_n hk, nI_p]
      obtain ⟨M', e1, e3, e2⟩ := ih (k + 1) (sJ M c0 k v) (by omega) (by omega)
      refine ⟨M', e1, fun c j => by rw [e3, gI_sJ], fun c j => ?_⟩
      rw [e2, gJ_sJ]
      by_cases y : c = c0 ∧ j = k
      · rw [if_neg (by omega), if_pos y, if_pos ⟨y.1, by omega, by omega⟩]
      · rw [if_neg y]
        by_cases z : c = c0 ∧ k ≤ j ∧ j < ln c0
        · rw [if_pos z, if_pos (by omega)]
        · rw [if_neg z, if_neg (by omega)]
    · rw [if_neg (by rw [nI_ltI (by omega) (by omega)]; exact hk)]
      exact ⟨M, rfl, fun c j => rfl, fun c j => by rw [if_neg (by omega)]⟩
def eo (M : Mm) (first p : Nat) : Nat := if sT M < first + p then sT M else first + p
theorem cser_e {i : Nat} {M : Mm} (h : Inv i M) {first : Nat} (t1 : gI M 32 10 / 5 = nI first) (t2 : first < sT M) {p : Nat} (hp : 1 ≤ p) (hp4 : p ≤ 4) : ∃ M', sp_X0_search (nI p) M = some ((), M') ∧ Sm M M' ∧ gJ M' 22 0 = nJ (tab M (eo M first p) (eo M first p - first) (lfb M)) ∧ gJ M' 22 1 = nJ (100 ^ (eo M first p - first)) ∧ gI M' 22 2 = (BS M first (100 ^ (eo M first p - 1 - first)) (tab M (eo M first p) (eo M first p - 1 - first)) (lfb M)).2 := by
  have n6 := h.2.2.1.n.1
  have s10 := h.2.1.s.1
  have eo1 : eo M first p ≤ sT M := by unfold eo; split <;> omega
  have eo2 : eo M first p ≤ first + 4 := by unfold eo; split <;> omega
  have eo3 : first < eo M first p := by unfold eo; split <;> omega
  have eeo : (if gI M 3 1 < nI first + nI p then gI M 3 1 else nI first + nI p) = nI (eo M first p) := by
    rw [h.2.1.s.2.2, nI_add]
    unfold eo
    by_cases y : sT M < first + p
    · rw [if_pos ((nI_ltI (by omega) (by omega)).mpr y), if_pos y]
    · rw [if_neg (by rw [nI_ltI (by omega) (by omega)]; exact y), if_neg y]
  generalize eo M first p = e at *
  unfold sp_X0_search sp_X1_stage
  rw [bd_s, h.2.2.2.2.2.1.2.2.1, t1, bl_e, eeo]
  unfold sp_J7_fill_d0a16
  rw [bl_e]
  obtain ⟨A, a1, a2, a3⟩ := fillJL (c0 := 23) (v := 0) fu 0 M (by omega) (by have := ln_le 23; show _ < _ + 1000; omega)
  rw [show (0 : Int32) = nI 0 from rfl, a1, bd_s, bl_e, bl_e]
  simp only [jn_e]
  rw [show (1 : Int32) = nI 1 from rfl, nI_sub (by omega)]
  have smA : Sm M (sJ A 22 1 1) := fun c k _ => by rw [gI_sJ, a2]
  obtain ⟨B, b1, b2⟩ := cL39 h (first := first) (e := e) (fun (M_108 : Mm) => bd (sp_X6_left (gI M_108 13 3) M_108) (fun r116 M116 => bd (sp_X0_findBest r116 (nI first) M116) (fun _ M121 => bl (sJ M121 22 1 ((gJ M121 22 1) * (100 : Int64))) (fun M133 => some ((), M133))))) eo1 eo2 (e - 1 - first) (e - 1) fu (sJ A 22 1 1) (by omega) (by omega) (by show _ < 1000; omega) ⟨smA, by rw [gJ_sJ, if_pos ⟨rfl, rfl⟩, Nat.sub_self]; rfl, fun l hl => by
      rw [gJ_sJ, if_neg (by omega), a3, if_pos ⟨rfl, Nat.zero_le _, Nat.lt_of_lt_of_le hl (pw_64 n6)⟩, Nat.sub_self]; rfl⟩
  rw [b1]
  have hb := b2.1.inv h
  rw [cleft_e hb.2.2.1 hb.2.2.2.2.2.1, bd_s, b2.1.lfb']
  obtain ⟨D, d1, d2, d3, d4⟩ := cfb_e h (left := lfb M) (s := first) (lfb_lt M) t2 (pow100 (by omega)) (fun l _ => tab_le h.2.1 e _ l) b2
  rw [d1, bd_s, bl_e]
  have ej : e - first = e - 1 - first + 1 := by omega
  have ef : e - 1 - (e - 1 - first) = first := by omega
  refine ⟨_, rfl, d2.1.sJ, ?_, ?_, ?_⟩
  · rw [gJ_sJ, if_neg (by omega), d3, ej]
    show _ = nJ ((BS M (e - 1 - (e - 1 - first)) _ _ (lfb M)).1)
    rw [ef]
  · rw [gJ_sJ, if_pos ⟨rfl, rfl⟩, d2.2.1, show (100 : Int64) = nJ 100 from rfl, nJ_mul, ej, Nat.pow_succ]
  · rw [gI_sJ, d4]
