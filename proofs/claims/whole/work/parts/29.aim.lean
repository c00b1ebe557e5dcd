/-! THE CALL which: what is laid -/
theorem jn_ifb {γ : Type} {c : Prop} [Decidable c] (k : Int32 → Mm → Option γ) (x y b : Int32) (m : Mm) : jn k (fun K => if c then bd (some (x, m)) (fun r M' => K (r + y) M') else K b m) = k (if c then x + y else b) m := by
  rw [jn_e]; split <;> rfl
theorem mlay_e {i : Nat} {M : Mm} (h : Inv i M) {first : Nat} (t1 : gI M 32 10 / 5 = nI first) (t2 : first < sT M) {p : Nat} (hp : 1 ≤ p) (hp4 : p ≤ 4) : ∃ M', sp_X11_layLater (nI p) M = some ((), M') ∧ Dk M M' (fun l => 100 ^ (p - (eo M first p - first)) * tab M (eo M first p) (eo M first p - 1 - first) l) := by
  have n6 := h.2.2.1.n.1
  have s10 := h.2.1.s.1
  have eo1 : eo M first p ≤ sT M := by unfold eo; split <;> omega
  have eo2 : eo M first p ≤ first + p := by unfold eo; split <;> omega
  have eo3 : first < eo M first p := by unfold eo; split <;> omega
  have eeo : (if nI first + nI p < gI M 32 7 then nI first + nI p else gI M 32 7) = nI (eo M first p) := by
    rw [h.2.1.s.2.1, nI_add]
    unfold eo
    by_cases y : first + p < sT M
    · rw [if_pos ((nI_ltI (by omega) (by omega)).mpr y), if_neg (by omega)]
    · rw [if_neg (by rw [nI_ltI (by omega) (by omega)]; exact y)]
      by_cases z : sT M < first + p
      · rw [if_pos z]
      · rw [if_neg z]; congr 1; omega
  generalize eo M first p = e at *
  suffices ∃ r : Unit × Mm, sp_X11_layLater (nI p) M = some r ∧ Dk M r.2 (fun l => 100 ^ (p - (e - first)) * tab M e (e - 1 - first) l) by
    obtain ⟨r, r1, r2⟩ := this
    exact ⟨r.2, r1, r2⟩
  unfold sp_X11_layLater
  rw [jn_e, show (0 : Int32) = nI 0 from rfl]
  refine via (L := fun K => sp_X11_layLater_L2 K fu (nI 0) M) (fun K => layLater_z K fu 0 M (by omega) (by show _ < _ + 1000; omega) (Sm.rf M) (fun l hl => by omega)) _ ?_
  intro A hA
  have ha := hA.1.inv h
  unfold sp_X11_stageNow
  rw [bd_s, bl_e, bd_s, jn_ifb, hA.1 32 10 (by unfold scr; omega), hA.1 32 7 (by unfold scr; omega), t1, eeo, jn_e, show (1 : Int64) = nJ (100 ^ 0) from rfl, nI_p]
  rw [layLater_pad (n := p - (e - first)) _ (by rw [show (1 : Int32) = nI 1 from rfl, nI_sub (by omega), nI_sub (by omega), nI_sub (by omega)]; congr 1; omega) (by omega) fu 0 (by omega) (by show _ < _ + 1000; omega)]
  have ex : nI e - 1 = nI (first + 1 + (e - 1 - first)) + (-1) := by rw [show first + 1 + (e - 1 - first) = e by omega]; exact Int32.sub_eq_add_neg ..
  have eu : 100 ^ (p - (e - first)) * 100 ^ (0 + (e - 1 - first)) = 100 ^ (p - 1) := pw_e (by omega)
  rw [nJ_1]
  obtain ⟨B, b1, b2⟩ := layLater_st h (fst := first + 1) (e := e) (c := 100 ^ (p - (e - first))) (Nat.pow_pos (by decide)) eo1 (e - 1 - first) 0 fu A _ ex (by omega) (by show _ < 1000; omega) (by rw [eu]; exact pow100 (by omega)) ⟨hA.1, fun l hl => (hA.2 l hl).trans (nJ_z _)⟩
  rw [bl_e, b1]
  rw [Nat.zero_add] at b2
  exact ⟨_, rfl, b2⟩
