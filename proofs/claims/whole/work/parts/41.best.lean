/-! THE BEST ROW: over all rows, and by sets -/
/-- the value of a row, or none where somebody may not come -/
def mean (C : Nat → Nat → Bool) (tkf H : Nat → Nat) : Nat → Nat → List Nat → Option Nat
  | _, _, [] => some 0
  | ov, t, m :: l => if C ov m = true then (mean C tkf H (ov ||| 2 ^ m) (t + tkf m) l).map (fun x => H (t + tkf m) + x) else none
/-- the better one; the first keeps its place -/
def cb (b c : Option (Nat × List Nat)) : Option (Nat × List Nat) := match b, c with
  | b, none => b
  | none, some c => some c
  | some b, some c => if b.1 < c.1 then some c else some b
theorem cb_n (b : Option (Nat × List Nat)) : cb b none = b := by cases b <;> rfl
theorem n_cb (b : Option (Nat × List Nat)) : cb none b = b := by cases b <;> rfl
theorem cb_as (a b c : Option (Nat × List Nat)) : cb (cb a b) c = cb a (cb b c) := by
  cases c with
  | none => rw [cb_n, cb_n]
  | some c =>
    cases b with
    | none => rw [cb_n, n_cb]
    | some b =>
      cases a with
      | none => rw [n_cb, n_cb]
      | some a =>
        unfold cb
        dsimp only
        by_cases h1 : a.1 < b.1
        · rw [if_pos h1]
          by_cases h2 : b.1 < c.1
          · dsimp only
            rw [if_pos h2]
            dsimp only
            rw [if_pos (by omega)]
          · dsimp only
            rw [if_neg h2]
            dsimp only
            rw [if_pos h1]
        · rw [if_neg h1]
          by_cases h2 : b.1 < c.1
          · dsimp only
            rw [if_pos h2]
          · dsimp only
            rw [if_neg h2]
            dsimp only
            rw [if_neg h1, if_neg (by omega)]
/-- the best of many rows, from b on -/
def fm (v : List Nat → Option Nat) : Option (Nat × List Nat) → List (List Nat) → Option (Nat × List Nat)
  | b, [] => b
  | b, p :: q => fm v (cb b ((v p).map (fun x => (x, p)))) q
theorem fm_cb (v : List Nat → Option Nat) : ∀ ps b, fm v b ps = cb b (fm v none ps)
  | [], b => (cb_n b).symm
  | p :: q, b => by
    rw [fm, fm, fm_cb v q, fm_cb v q (cb none _), n_cb, cb_as]
theorem fm_ap (v : List Nat → Option Nat) : ∀ ps qs b, fm v b (ps ++ qs) = fm v (fm v b ps) qs
  | [], _, _ => rfl
  | p :: ps, qs, b => by rw [List.cons_append, fm, fm, fm_ap v ps]
theorem cb_mp {k : Nat} {g : List Nat → List Nat} (b c : Option (Nat × List Nat)) : cb (b.map (fun x => (k + x.1, g x.2))) (c.map (fun x => (k + x.1, g x.2))) = (cb b c).map (fun x => (k + x.1, g x.2)) := by
  cases c with
  | none => rw [cb_n]; exact cb_n _
  | some c =>
    cases b with
    | none => rw [n_cb]; exact n_cb _
    | some b =>
      unfold cb
      simp only [Option.map_some]
      by_cases h : b.1 < c.1
      · rw [if_pos (by omega), if_pos h]; rfl
      · rw [if_neg (by omega), if_neg h]; rfl
theorem fm_mp {v w : List Nat → Option Nat} {k : Nat} {g : List Nat → List Nat} (h : ∀ p, w (g p) = (v p).map (fun x => k + x)) : ∀ ps b, fm w (b.map (fun x => (k + x.1, g x.2))) (ps.map g) = (fm v b ps).map (fun x => (k + x.1, g x.2))
  | [], b => rfl
  | p :: q, b => by
    rw [List.map_cons, fm, fm, h p, ← fm_mp h q, ← cb_mp]
    congr 2
    cases v p <;> rfl
theorem fm_no {v : List Nat → Option Nat} : ∀ ps b, (∀ p, p ∈ ps → v p = none) → fm v b ps = b
  | [], _, _ => rfl
  | p :: q, b, h => by
    rw [fm, h p (List.mem_cons_self ..), fm_no q _ (fun x hx => h x (List.mem_cons_of_mem _ hx))]
    exact cb_n b
/-- the best row, man by man: c is the set of those who are not over -/
def Bst (C : Nat → Nat → Bool) (tkf H : Nat → Nat) : Nat → Nat → Nat → Nat → Option (Nat × List Nat)
  | 0, _, _, _ => some (0, [])
  | f + 1, c, ov, t => if c = 0 then some (0, []) else
      (List.range 6).foldl (fun b m => cb b (if c.testBit m = true ∧ C ov m = true then (Bst C tkf H f (nt c (2 ^ m)) (ov ||| 2 ^ m) (t + tkf m)).map (fun x => (H (t + tkf m) + x.1, m :: x.2)) else none)) none
theorem fm_fl {v : List Nat → Option Nat} (g : Nat → List (List Nat)) : ∀ (ms : List Nat) b, fm v b (ms.flatMap g) = ms.foldl (fun b m => cb b (fm v none (g m))) b
  | [], _ => rfl
  | m :: ms, b => by
    rw [List.flatMap_cons, fm_ap, List.foldl_cons, ← fm_cb, fm_fl g ms]
theorem best_e (C : Nat → Nat → Bool) (tkf H : Nat → Nat) : ∀ f c ov t, fm (mean C tkf H ov t) none (pm f c) = Bst C tkf H f c ov t
  | 0, c, ov, t => rfl
  | f + 1, c, ov, t => by
    rw [pm, Bst]
    by_cases h : c = 0
    · rw [if_pos h, if_pos h]; rfl
    · rw [if_neg h, if_neg h, fm_fl]
      congr 1
      funext b m
      congr 1
      by_cases hb : c.testBit m = true
      · rw [if_pos hb]
        by_cases hc : C ov m = true
        · rw [if_pos ⟨hb, hc⟩, ← best_e C tkf H f, ← fm_mp (v := mean C tkf H (ov ||| 2 ^ m) (t + tkf m)) (w := mean C tkf H ov t) (k := H (t + tkf m)) (g := fun l => m :: l) (fun p => by rw [mean, if_pos hc])]
          rfl
        · rw [if_neg (fun z => hc z.2), fm_no]
          intro p hp
          obtain ⟨l, _, rfl⟩ := List.mem_map.mp hp
          rw [mean, if_neg hc]
      · rw [if_neg hb, if_neg (fun z => hb z.1)]; rfl
