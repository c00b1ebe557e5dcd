/-! FROM ROW TO ROW -/
theorem leq_e : ∀ {a b : List Nat}, leq a b = true → a = b
  | [], [], _ => rfl
  | [], _ :: _, h => by simp [leq] at h
  | _ :: _, [], h => by simp [leq] at h
  | x :: a, y :: b, h => by
    unfold leq at h
    simp only [List.length_cons, List.zip_cons_cons, List.all_cons, Bool.and_eq_true, Nat.beq_eq, beq_iff_eq, Nat.add_right_cancel_iff] at h
    have := leq_e (a := a) (b := b) (by unfold leq; simp only [Bool.and_eq_true, beq_iff_eq]; exact ⟨h.1, h.2.2⟩)
    rw [h.2.1, this]
theorem la_map {n k : Nat} {b : Nat → Nat} (hk : k < n) : la ((List.range n).map b) k = b k := by
  unfold la
  rw [List.getD_eq_getElem?_getD, List.getElem?_map, List.getElem?_range hk]
  rfl
theorem nx_go {p q : List Nat} {r : List (List Nat)} {M : Mm} (h : Ro M (la p) p.length) (n6 : p.length ≤ 6) (ha : ∀ k, k < p.length → la p k < 6) (hc : ch (p :: q :: r) = true) : ∃ M', sp_X11_nextOrder M = some (1, M') ∧ Ro M' (la q) q.length ∧ R43 M M' ∧ ch (q :: r) = true := by
  rw [ch, Bool.and_eq_true] at hc
  obtain ⟨c1, c2⟩ := hc
  unfold nxl at c1
  rcases next_e h n6 ha with ⟨e, _⟩ | ⟨b, M', e, e1, e2, e3⟩
  · rw [e] at c1; exact absurd c1 (by simp)
  · rw [e] at c1
    have := leq_e c1
    refine ⟨M', e1, ?_, e3, c2⟩
    rw [← this]
    refine ⟨by rw [List.length_map, List.length_range]; exact e2.1, fun k hk => ?_⟩
    rw [List.length_map, List.length_range] at hk
    rw [la_map hk]
    exact e2.2 k hk
theorem nx_end {p : List Nat} {M : Mm} (h : Ro M (la p) p.length) (n6 : p.length ≤ 6) (ha : ∀ k, k < p.length → la p k < 6) (hc : ch [p] = true) : sp_X11_nextOrder M = some (0, M) := by
  rw [ch] at hc
  unfold nxl at hc
  rcases next_e h n6 ha with ⟨_, e⟩ | ⟨b, M', e, e1, e2, e3⟩
  · exact e
  · rw [e] at hc; exact absurd hc (by simp)
/-- each row: as many as there are, each below six -/
theorem pm_in : ∀ s, s < 64 → (pm 6 s).all (fun l => l.length == (mem6 s).length && l.all (fun x => Nat.blt x 6)) = true := by decide +kernel
