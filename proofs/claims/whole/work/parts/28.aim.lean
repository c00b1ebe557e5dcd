/-! THE CALLS aim, which: both -/
theorem via {α : Type} {L : (Mm → Option α) → Option α} {Q : Mm → Prop} {R : α → Prop} (hz : ∀ K, ∃ M', L K = K M' ∧ Q M') (K : Mm → Option α) (h : ∀ M', Q M' → ∃ r, K M' = some r ∧ R r) : ∃ r, L K = some r ∧ R r := by
  obtain ⟨M', e1, e2⟩ := hz K
  obtain ⟨r, r1, r2⟩ := h M' e2
  exact ⟨r, e1.trans r1, r2⟩
theorem jn_if {α β : Type} {c : Prop} [Decidable c] (k : α → β) (a b : α) : jn k (fun K => if c then K a else K b) = k (if c then a else b) := by
  rw [jn_e]; split <;> rfl
theorem jn_if2 {α β : Type} {c : Prop} [Decidable c] (k : α → Mm → β) (a b : α) (m : Mm) : jn k (fun K => if c then K a m else K b m) = k (if c then a else b) m := by
  rw [jn_e]; split <;> rfl
theorem Sm.BS' {M M' : Mm} (h : Sm M M') (s u : Nat) (T : Nat → Nat) (l : Nat) : BS M' s u T l = BS M s u T l := by
  unfold BS
  rw [h.nR', h 37 s (by unfold scr; omega)]
  have e : (fun r => ht M' r (nI s)) = (fun r => ht M r (nI s)) := by funext r; rw [h.ht']
  rw [e]
theorem Sm.tab' {M M' : Mm} (h : Sm M M') (e : Nat) : ∀ j, tab M' e j = tab M e j
  | 0 => rfl
  | j + 1 => by
    funext l
    rw [tab, tab, h.BS', h.tab' e j]
theorem pw_e {x y z : Nat} (h : x + y = z) : 100 ^ x * 100 ^ y = 100 ^ z := by rw [← Nat.pow_add, h]
theorem nJ_1 (x : Nat) : nJ (100 ^ x) = nJ (100 ^ x * 100 ^ 0) := by rw [Nat.pow_zero, Nat.mul_one]
theorem nJ_z (x : Nat) : nJ 0 = nJ (100 ^ x * 0) := by rw [Nat.mul_zero]
theorem Sm.eo' {M M' : Mm} (h : Sm M M') (a p : Nat) : eo M' a p = eo M a p := by unfold eo; rw [h.sT']
theorem maim_e {i : Nat} {M : Mm} (h : Inv i M) {first : Nat} (t1 : gI M 32 10 / 5 = nI first) (t2 : first < sT M) {p : Nat} (hp : 1 ≤ p) (hp4 : p ≤ 4) : ∃ r : Int64 × Mm, sp_X11_aimOf (nI p) M = some r ∧ (r.1 = nJ (100 ^ (p - (eo M first p - first)) * tab M (eo M first p) (eo M first p - first) (lfb M)) ∧ Sm M r.2) := by
  have n6 := h.2.2.1.n.1
  have s10 := h.2.1.s.1
  have eo1 : eo M first p ≤ sT M := by unfold eo; split <;> omega
  have eo2 : eo M first p ≤ first + p := by unfold eo; split <;> omega
  have eo3 : first < eo M first p := by unfold eo; split <;> omega
  have eeo : (if nI first + nI p < gI M 32 7 then nI first + nI p else gI M 32 7) = nI (eo M first p) := by
    rw [h.2.1.s.2.1, nI_add]
    unfold eo
    by_cases y : first + p < sT M
    · rw [if_pos ((nI_ltI (by omega) (by omega)).mpr y), if_neg (by omega)]
    · rw [if_neg (by rw [nI_ltI (by omega) (by omega)]; exact y)]
      by_cases z : sT M < first + p
      · rw [if_pos z]
      · rw [if_neg z]; congr 1; omega
  generalize eo M first p = e at *
  unfold sp_X11_aimOf
  rw [jn_e, show (0 : Int32) = nI 0 from rfl]
  refine via (L := fun K => sp_X11_aimOf_L2 K fu (nI 0) M) (fun K => aimOf_z K fu 0 M (by omega) (by show _ < _ + 1000; omega) (Sm.rf M) (fun l hl => by omega)) _ ?_
  intro A hA
  have ha := hA.1.inv h
  unfold sp_X11_stageNow
  rw [bd_s, jn_if, hA.1 32 10 (by unfold scr; omega), hA.1 32 7 (by unfold scr; omega), t1, eeo, jn_e, show (1 : Int64) = nJ (100 ^ 0) from rfl]
  rw [aimOf_pad (n := p - (e - first)) _ (by rw [nI_sub (by omega), nI_sub (by omega)]) (by omega) fu 0 (by omega) (by show _ < _ + 1000; omega), bl_e, jn_e]
  have ex : nI e - 1 = nI (first + (e - first)) + (-1) := by rw [show first + (e - first) = e by omega]; exact Int32.sub_eq_add_neg ..
  have eu : 100 ^ (p - (e - first)) * 100 ^ (0 + (e - first)) = 100 ^ p := pw_e (by omega)
  have pu : 100 ^ p ≤ 100000000 := Nat.le_trans (Nat.pow_le_pow_right (by decide) hp4) (by decide)
  rw [nJ_1]
  refine via (L := fun K => sp_X11_aimOf_L86 (nI first) K fu (nJ (100 ^ (p - (e - first)) * 100 ^ 0)) (nI e - 1) A) (fun K => aimOf_st h (fst := first) (e := e) (c := 100 ^ (p - (e - first))) (Nat.pow_pos (by decide)) eo1 K (e - first) 0 fu A _ ex (by omega) (by show _ < 1000; omega) (by rw [eu]; exact pu) ⟨hA.1, fun l hl => (hA.2 l hl).trans (nJ_z _)⟩) _ ?_
  intro B hB
  have hb := hB.1.inv h
  have l64 : lfb M < 64 := Nat.lt_of_lt_of_le (lfb_lt M) (pw_64 n6)
  rw [left_e hb.2.2.1 hb.2.2.2.2.2.1, bd_s, hB.1.lfb', rdJ_n (show lfb M < 64 from l64), hB.2 _ l64, Nat.zero_add]
  exact ⟨_, rfl, rfl, hB.1⟩
