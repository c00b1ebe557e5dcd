/-! THE CALL order: the reference's value of a row -/
theorem Sm.abc' {M M' : Mm} (h : Sm M M') : ∀ k, abc M' k = abc M k
  | 0 => rfl
  | k + 1 => by rw [abc_s, abc_s, h.abc' k, h 41 _ (by unfold scr; omega)]
theorem Sm.ahd' {M M' : Mm} (h : Sm M M') (m : Nat) : ahd M' m = ahd M m := by
  unfold ahd; rw [h 42 _ (by unfold scr; omega), h 41 _ (by unfold scr; omega), h.nM', h.abc']
theorem Sm.tk' {M M' : Mm} (h : Sm M M') (m : Nat) : tk M' m = tk M m := by
  have e : sg M' m = sg M m := by
    unfold sg; rw [h 41 _ (by unfold scr; omega), h 32 8 (by unfold scr; omega), h 32 13 (by unfold scr; omega)]
  unfold tk; rw [e, h 41 _ (by unfold scr; omega), h 41 _ (by unfold scr; omega)]
theorem Sm.hz' {M M' : Mm} (h : Sm M M') (m : Nat) : ∀ f t v, hz M' m f t v = hz M m f t v
  | 0, _, _ => rfl
  | f + 1, t, v => by rw [hz, hz, h.hz' m f, h 37 t (by unfold scr; omega)]
def Cb (M : Mm) (ov m : Nat) : Bool := decide (cm M ov m)
theorem Sm.Cb' {M M' : Mm} (h : Sm M M') (ov m : Nat) : Cb M' ov m = Cb M ov m := by
  unfold Cb cm; rw [h.ahd']
theorem mcan_e {M : Mm} (h4 : I_mn M) {m ov : Nat} (hm : m < nM M) (ho : ov < 64) : sp_X11_canCome (nI m) (nI ov) M = some (if Cb M ov m = true then 1 else 0, M) := by
  obtain ⟨r, e1, e2⟩ := can_e h4 hm ho
  rw [e1]
  unfold Cb
  congr 2
  cases r with
  | true => rw [if_pos rfl, if_pos (by rw [decide_eq_true_iff]; exact e2.mp rfl)]
  | false => rw [if_neg Bool.false_ne_true, if_neg (by rw [decide_eq_true_iff]; exact fun z => Bool.false_ne_true (e2.mpr z))]
/-- how surely she holds to a minute, over v -/
def Hh (M : Mm) (first v t : Nat) : Nat := hz M t (sT M - first) first v
theorem mh_e {i : Nat} {M : Mm} (h : Inv i M) {first t : Nat} (t1 : gI M 32 10 / 5 = nI first) (t2 : first < sT M) (ht : t ≤ 10000) : sp_X11_holds (nI t) M = some (nJ (Hh M first 10000000000 t), M) := by
  have s10 := h.2.1.s.1
  unfold sp_X11_holds sp_X11_stageNow
  rw [bd_s, t1]
  exact mhoL h ht (sT M - first) fu first 10000000000 (by omega) (by omega) (by show _ < 1000; omega) (Nat.le_refl _)
def mvJ (acc : Nat) (r : Option Nat) : Int64 := match r with | none => -1 | some x => nJ (acc + x)
theorem la_c {p : List Nat} {k : Nat} (hk : k < p.length) : p.drop k = la p k :: p.drop (k + 1) := by
  rw [List.drop_eq_getElem_cons hk]
  unfold la
  rw [List.getD_eq_getElem?_getD, List.getElem?_eq_getElem hk]
  rfl
theorem moL {i : Nat} {M : Mm} (h : Inv i M) {first : Nat} (t1 : gI M 32 10 / 5 = nI first) (t2 : first < sT M) {p : List Nat} (hr : Ro M (la p) p.length) (p6 : p.length ≤ 6) (hp : ∀ k, k < p.length → la p k < nM M) : ∀ g n k ov t acc, k + g = p.length → g < n → ov < 64 → t + 13 * g ≤ 10000 → sp_X11_meanOf_L15 n (nI ov) (nI t) (nJ acc) (nI k) M = some (mvJ acc (mean (Cb M) (tk M) (Hh M first 10000000000) ov t (p.drop k)), M) := by
  have h4 := h.2.2.2.1
  have n6 := h4.n.1
  have hh := hw_n h.2.2.2.2.2.1
  intro g
  induction g with
  | zero =>
    intro n k ov t acc hk hn ho ht
    obtain ⟨n, rfl⟩ : ∃ x, n = x + 1 := ⟨n - 1, by omega⟩
    rw [sp_X11_meanOf_L15, hr.1, if_neg (by rw [nI_ltI (by omega) (by omega)]; omega), List.drop_eq_nil_of_le (by omega)]
    rfl
  | succ g ih =>
    intro n k ov t acc hk hn ho ht
    obtain ⟨n, rfl⟩ : ∃ x, n = x + 1 := ⟨n - 1, by omega⟩
    have hm := hp k (by omega)
    have htk := tk_le h4 hm
    rw [sp_X11_meanOf_L15, hr.1, if_pos ((nI_ltI (by omega) (by omega)).mpr (by omega)), rdI_n (show k < 6 by omega), hr.2 k (by omega), mcan_e h4 hm ho, bd_s, la_c (by omega), mean]
    by_cases hc : Cb M ov (la p k) = true
    · rw [if_pos hc, if_pos hc, if_neg i10, rdI_n (show k < 6 by omega), bl_e, rdI_n (show k < 6 by omega), hr.2 k (by omega), mtk_e h.2.1 h4 hh hm, bd_s, bl_e, nI_add, mh_e h t1 t2 (by omega), bd_s, bl_e, nJ_add, b_one _ (by omega), b_or _ ho _ (p2_64 (by omega)), nI_p]
      rw [ih n (k + 1) _ _ _ (by omega) (by omega) (or_64 ho (p2_64 (by omega))) (by omega)]
      cases mean (Cb M) (tk M) (Hh M first 10000000000) (ov ||| 2 ^ la p k) (t + tk M (la p k)) (p.drop (k + 1)) with
      | none => rfl
      | some x =>
        show some (nJ (acc + _ + x), M) = some (nJ (acc + (_ + x)), M)
        rw [Nat.add_assoc]
    · rw [if_neg hc, if_neg hc, if_pos rfl]
      rfl
theorem mean_e {i : Nat} {M : Mm} (h : Inv i M) {first : Nat} (t1 : gI M 32 10 / 5 = nI first) (t2 : first < sT M) {p : List Nat} (hr : Ro M (la p) p.length) (p6 : p.length ≤ 6) (hp : ∀ k, k < p.length → la p k < nM M) : sp_X11_meanOf M = some (mvJ 0 (mean (Cb M) (tk M) (Hh M first 10000000000) (nv (gI M 13 4)) (nv (gI M 32 10)) p), M) := by
  have h4 := h.2.2.2.1
  have h6 := h.2.2.2.2.2.1
  obtain ⟨o1, o2, o3⟩ := ob_n h4 h6
  obtain ⟨m1, m2, m3⟩ := mi_n h6
  unfold sp_X11_meanOf
  rw [over_e h4 h6, bd_s, bl_e, o1, m1]
  have := moL h t1 t2 hr p6 hp p.length fu 0 (nv (gI M 13 4)) (nv (gI M 32 10)) 0 (by omega) (by show _ < 1000; omega) o3 (by omega)
  rw [List.drop_zero] at this
  rw [← o1, ← m1] at this ⊢
  exact this
