/-! THE INVARIANT: class (cells 0 to 31) and reference (32 to 51) tell the same -/
def nv (x : Int32) : Nat := x.toInt.toNat
theorem nv_n {n : Nat} (h : n < 2 ^ 31) : nv (nI n) = n := by unfold nv; rw [nI_int h]; rfl
def Nb (x : Int32) (b : Nat) : Prop := x = nI (nv x) ∧ nv x ≤ b
theorem Nb_n {n b : Nat} (h : n ≤ b) (hb : b < 2 ^ 31) : Nb (nI n) b := by
  have e := nv_n (n := n) (by omega)
  exact ⟨by rw [e], by rw [e]; exact h⟩
theorem Nb.up {x : Int32} {a b : Nat} (h : Nb x a) (hb : a ≤ b) : Nb x b := ⟨h.1, Nat.le_trans h.2 hb⟩
theorem Nb.get {x : Int32} {b : Nat} (h : Nb x b) : ∃ n, n ≤ b ∧ x = nI n := ⟨nv x, h.2, h.1⟩
theorem Nb_0 {b : Nat} (hb : b < 2 ^ 31) : Nb 0 b := Nb_n (n := 0) (Nat.zero_le _) hb
def nR (M : Mm) : Nat := nv (gI M 32 17)
def nM (M : Mm) : Nat := nv (gI M 32 22)
def sT (M : Mm) : Nat := nv (gI M 32 7)
def I_pg (M : Mm) : Prop := Nb (gI M 32 1) 22 ∧ gI M 1 1 = gI M 32 1 ∧ ∀ k, k < nv (gI M 32 1) → gI M 2 k = gI M 33 k ∧ Nb (gI M 33 k) 126
def I_nt (i : Nat) (M : Mm) : Prop := Nb (gI M 32 14) i ∧ gI M 0 10 = gI M 32 14 ∧ Nb (gI M 32 7) 10 ∧ gI M 3 1 = gI M 32 7 ∧ (gI M 32 14 = 0 ↔ gI M 32 7 = 0) ∧ Nb (gI M 32 8) 99 ∧ gI M 3 0 = gI M 32 8 ∧ Nb (gI M 32 9) 9 ∧ gI M 3 2 = gI M 32 9 ∧
  (∀ k, k < 3 → gI M 4 k = gI M 36 k ∧ Nb (gI M 36 k) 10) ∧ nv (gI M 36 0) + nv (gI M 36 1) + nv (gI M 36 2) ≤ 10 ∧
  (∀ k, k < sT M → gI M 5 k = gI M 37 k ∧ Nb (gI M 37 k) 9) ∧ (sT M ≠ 0 → ∀ k, sT M ≤ k → k < 10 → gI M 37 k = -1)
def I_rk (M : Mm) : Prop := Nb (gI M 32 17) 6 ∧ gI M 6 0 = gI M 32 17 ∧ ∀ r, r < nR M → gI M 7 r = gI M 38 (3 * r) ∧ gI M 8 r = gI M 38 (3 * r + 1)
def I_mn (M : Mm) : Prop := Nb (gI M 32 22) 6 ∧ gI M 9 0 = gI M 32 22 ∧
  (∀ m, m < nM M → gI M 10 m = gI M 41 (3 * m) ∧ Nb (gI M 41 (3 * m)) 4 ∧ gI M 11 m = gI M 41 (3 * m + 1) ∧ Nb (gI M 41 (3 * m + 1)) 30 ∧ gI M 12 m = gI M 42 m ∧ Nb (gI M 42 m) (2 ^ nM M - 1)) ∧
  (∀ m, nM M ≤ m → m < 6 → gI M 12 m = 0)
def I_dn (M : Mm) : Prop := Nb (gI M 32 25) 30 ∧ gI M 0 11 = gI M 32 25
/-- how far the night has come: the class's cells cc (a Course), oc, sc, wc; the reference's fields fm .. and rows rr, mr, sr, wr -/
def I_co (M : Mm) (cc oc sc wc fm fl fb fh fs fw rr mr sr wr : Nat) : Prop :=
  Nb (gI M 32 fm) 49 ∧ (nv (gI M 32 fm) < 5 * sT M ∨ (sT M = 0 ∧ gI M 32 fm = 0)) ∧ gI M cc 0 = gI M 32 fm ∧
  Nb (gI M 32 fl) 1 ∧ gI M cc 1 = gI M 32 fl ∧ Nb (gI M 32 fb) 1 ∧ gI M cc 2 = gI M 32 fb ∧ Nb (gI M 32 fh) 60 ∧ gI M cc 5 = gI M 32 fh ∧
  Nb (gI M cc 3) (2 ^ nR M - 1) ∧ (∀ r, r < nR M → gI M rr (3 * r + 2) = if (nv (gI M cc 3)).testBit r then 1 else 0) ∧
  Nb (gI M cc 4) (2 ^ nM M - 1) ∧ (∀ m, m < nM M → if (nv (gI M cc 4)).testBit m then gI M mr (3 * m + 2) = gI M oc m ∧ Nb (gI M oc m) 49 else gI M mr (3 * m + 2) = -1) ∧
  Nb (gI M 32 fs) 15 ∧ gI M cc 6 = gI M 32 fs ∧
  (∀ k, k < nv (gI M 32 fs) → ∃ a b, a < nM M ∧ b < nM M ∧ a ≠ b ∧ gI M sr (2 * k) = nI a ∧ gI M sr (2 * k + 1) = nI b) ∧
  (∀ b, b < nM M → Nb (gI M sc b) (2 ^ nM M - 1) ∧ ∀ a, a < nM M → ((nv (gI M sc b)).testBit a = true ↔ ∃ k, k < nv (gI M 32 fs) ∧ gI M sr (2 * k) = nI a ∧ gI M sr (2 * k + 1) = nI b)) ∧
  (∀ b, nM M ≤ b → b < 6 → gI M sc b = 0) ∧
  Nb (gI M 32 fw) 8 ∧ gI M cc 7 = gI M 32 fw ∧ (∀ k, k < nv (gI M 32 fw) → gI M wc k = gI M wr k ∧ Nb (gI M wr k) 99)
def I_cu (M : Mm) : Prop := I_co M 13 14 15 16 10 11 12 13 29 32 38 41 45 47
/-- the kept state, while it fits -/
def I_kg (M : Mm) : Prop := I_co M 18 19 20 21 36 37 38 39 40 41 48 49 50 51 ∧ (∀ r, r < nR M → gI M 48 (3 * r) = gI M 38 (3 * r) ∧ gI M 48 (3 * r + 1) = gI M 38 (3 * r + 1)) ∧ (∀ m, m < nM M → gI M 49 (3 * m) = gI M 41 (3 * m) ∧ gI M 49 (3 * m + 1) = gI M 41 (3 * m + 1))
def I_kp (M : Mm) : Prop := (gI M 32 35 = -1 ∧ gI M 17 1 = 0) ∨
  (gI M 17 1 = gI M 32 35 ∧ gI M 17 2 = gI M 32 42 ∧ gI M 17 3 = gI M 32 43 ∧ Nb (gI M 32 35) (nv (gI M 32 14)) ∧ gI M 32 35 ≠ 0 ∧
    (gI M 32 35 = gI M 32 14 → Nb (gI M 32 42) (nR M) ∧ Nb (gI M 32 43) (nM M) ∧ (gI M 32 42 = gI M 32 17 → gI M 32 43 = gI M 32 22 → I_kg M)))
def Inv (i : Nat) (M : Mm) : Prop := I_pg M ∧ I_nt i M ∧ I_rk M ∧ I_mn M ∧ I_dn M ∧ I_cu M ∧ I_kp M
/-- no night yet: no rockets, no men, nothing said, no wrecks -/
def I_z (M : Mm) : Prop := gI M 32 7 = 0 → gI M 32 17 = 0 ∧ gI M 32 22 = 0 ∧ gI M 32 11 = 0 ∧ gI M 32 12 = 0
/-! one call on both sides -/
def Bo {α : Type} (i : Nat) (M : Mm) (f g : Mm → Option (α × Mm)) : Prop := ∃ (r : α) (M1 M2 : Mm), f M = some (r, M1) ∧ g M1 = some (r, M2) ∧ Inv (i + 1) M2 ∧ I_z M2
theorem Inv.up {i : Nat} {M : Mm} (h : Inv i M) : Inv (i + 1) M := by
  obtain ⟨h1, ⟨h2, h3⟩, h4⟩ := h
  exact ⟨h1, ⟨h2.up (Nat.le_succ _), h3⟩, h4⟩
/-- a refused call changes nothing -/
theorem Bo_same {α : Type} {i : Nat} {M : Mm} {f g : Mm → Option (α × Mm)} (h : Inv i M) (hz : I_z M) (r : α) (h1 : f M = some (r, M)) (h2 : g M = some (r, M)) : Bo i M f g := ⟨r, M, M, h1, h2, h.up, hz⟩
/-! what stays when memory changes elsewhere: each part by the cells that it looks at -/
def sm (M M' : Mm) (c : Nat) : Prop := ∀ k, gI M' c k = gI M c k
theorem I_pg.tr {M M' : Mm} (h : I_pg M) (a : gI M' 32 1 = gI M 32 1) (b : gI M' 1 1 = gI M 1 1) (c : sm M M' 2) (d : sm M M' 33) : I_pg M' := by
  unfold I_pg at *
  rw [a, b]
  exact ⟨h.1, h.2.1, fun k hk => by rw [c k, d k]; exact h.2.2 k hk⟩
theorem I_nt.tr {i : Nat} {M M' : Mm} (h : I_nt i M) (a : ∀ k, (k = 14 ∨ k = 7 ∨ k = 8 ∨ k = 9) → gI M' 32 k = gI M 32 k) (b : gI M' 0 10 = gI M 0 10) (c : sm M M' 3) (d : sm M M' 4) (e : sm M M' 5) (f : sm M M' 36) (g : sm M M' 37) : I_nt i M' := by
  have es : sT M' = sT M := by unfold sT; rw [a 7 (by simp)]
  unfold I_nt at *
  rw [a 14 (by simp), a 7 (by simp), a 8 (by simp), a 9 (by simp), b, c, c, c, es, f, f, f]
  obtain ⟨h1, h2, h3, h4, h5, h6, h7, h8, h9, h10, h11, h12, h13⟩ := h
  exact ⟨h1, h2, h3, h4, h5, h6, h7, h8, h9, fun k hk => by rw [d k, f k]; exact h10 k hk, h11, fun k hk => by rw [e k, g k]; exact h12 k hk, fun z k h1 h2 => by rw [g k]; exact h13 z k h1 h2⟩
theorem I_rk.tr {M M' : Mm} (h : I_rk M) (a : gI M' 32 17 = gI M 32 17) (b : sm M M' 6) (c : sm M M' 7) (d : sm M M' 8) (e : ∀ r, r < nR M → gI M' 38 (3 * r) = gI M 38 (3 * r) ∧ gI M' 38 (3 * r + 1) = gI M 38 (3 * r + 1)) : I_rk M' := by
  have en : nR M' = nR M := by unfold nR; rw [a]
  unfold I_rk at *
  rw [a, b, en]
  exact ⟨h.1, h.2.1, fun r hr => by rw [c, d, (e r hr).1, (e r hr).2]; exact h.2.2 r hr⟩
theorem I_mn.tr {M M' : Mm} (h : I_mn M) (a : gI M' 32 22 = gI M 32 22) (b : sm M M' 9) (c : sm M M' 10) (d : sm M M' 11) (e : sm M M' 12) (f : sm M M' 42) (g : ∀ r, r < nM M → gI M' 41 (3 * r) = gI M 41 (3 * r) ∧ gI M' 41 (3 * r + 1) = gI M 41 (3 * r + 1)) : I_mn M' := by
  have en : nM M' = nM M := by unfold nM; rw [a]
  unfold I_mn at *
  rw [a, b, en]
  refine ⟨h.1, h.2.1, fun m hm => ?_, fun m h1 h2 => by rw [e]; exact h.2.2.2 m h1 h2⟩
  rw [c, d, e, f, (g m hm).1, (g m hm).2]
  exact h.2.2.1 m hm
theorem I_dn.tr {M M' : Mm} (h : I_dn M) (a : gI M' 32 25 = gI M 32 25) (b : gI M' 0 11 = gI M 0 11) : I_dn M' := by
  unfold I_dn at *; rw [a, b]; exact h
theorem I_co.tr {M M' : Mm} {cc oc sc wc fm fl fb fh fs fw rr mr sr wr : Nat} (h : I_co M cc oc sc wc fm fl fb fh fs fw rr mr sr wr) (a : ∀ k, (k = 7 ∨ k = 17 ∨ k = 22 ∨ k = fm ∨ k = fl ∨ k = fb ∨ k = fh ∨ k = fs ∨ k = fw) → gI M' 32 k = gI M 32 k) (b : sm M M' cc) (c : sm M M' oc) (d : sm M M' sc) (e : sm M M' wc) (f : sm M M' rr) (g : sm M M' mr) (i : sm M M' sr) (j : sm M M' wr) : I_co M' cc oc sc wc fm fl fb fh fs fw rr mr sr wr := by
  have e1 : sT M' = sT M := by unfold sT; rw [a 7 (by simp)]
  have e2 : nR M' = nR M := by unfold nR; rw [a 17 (by simp)]
  have e3 : nM M' = nM M := by unfold nM; rw [a 22 (by simp)]
  unfold I_co at *
  rw [a fm (by simp), a fl (by simp), a fb (by simp), a fh (by simp), a fs (by simp), a fw (by simp), e1, e2, e3, b, b, b, b, b, b, b, b]
  obtain ⟨h1, h2, h3, h4, h5, h6, h7, h8, h9, h10, h11, h12, h13, h14, h15, h16, h17, h18, h19, h20, h21⟩ := h
  refine ⟨h1, h2, h3, h4, h5, h6, h7, h8, h9, h10, fun r hr => by rw [f]; exact h11 r hr, h12, fun m hm => by rw [g, c]; exact h13 m hm, h14, h15, fun k hk => ?_, fun b hb => ?_, fun b p q => by rw [d]; exact h18 b p q, h19, h20, fun k hk => by rw [e, j]; exact h21 k hk⟩
  · obtain ⟨x, y, z⟩ := h16 k hk
    exact ⟨x, y, by rw [i, i]; exact z⟩
  · rw [d]
    refine ⟨(h17 b hb).1, fun a ha => ((h17 b hb).2 a ha).trans ?_⟩
    constructor
    · rintro ⟨k, z⟩; exact ⟨k, by rw [i, i]; exact z⟩
    · rintro ⟨k, z⟩; exact ⟨k, by rw [i, i] at z; exact z⟩
theorem I_kg.tr {M M' : Mm} (h : I_kg M) (a : ∀ k, (k = 7 ∨ k = 17 ∨ k = 22 ∨ (36 ≤ k ∧ k ≤ 41)) → gI M' 32 k = gI M 32 k) (b : ∀ c, (18 ≤ c ∧ c ≤ 21) ∨ (48 ≤ c ∧ c ≤ 51) → sm M M' c) (e : ∀ r, r < nR M → gI M' 38 (3 * r) = gI M 38 (3 * r) ∧ gI M' 38 (3 * r + 1) = gI M 38 (3 * r + 1)) (g : ∀ r, r < nM M → gI M' 41 (3 * r) = gI M 41 (3 * r) ∧ gI M' 41 (3 * r + 1) = gI M 41 (3 * r + 1)) : I_kg M' := by
  have e2 : nR M' = nR M := by unfold nR; rw [a 17 (by simp)]
  have e3 : nM M' = nM M := by unfold nM; rw [a 22 (by simp)]
  obtain ⟨h1, h2, h3⟩ := h
  refine ⟨h1.tr (fun k hk => a k (by omega)) (b _ (by omega)) (b _ (by omega)) (b _ (by omega)) (b _ (by omega)) (b _ (by omega)) (b _ (by omega)) (b _ (by omega)) (b _ (by omega)), fun r hr => ?_, fun r hr => ?_⟩
  · rw [e2] at hr
    rw [b 48 (by omega), b 48 (by omega), (e r hr).1, (e r hr).2]
    exact h2 r hr
  · rw [e3] at hr
    rw [b 49 (by omega), b 49 (by omega), (g r hr).1, (g r hr).2]
    exact h3 r hr
theorem I_kp.tr {M M' : Mm} (h : I_kp M) (a : ∀ k, (k = 7 ∨ k = 14 ∨ k = 17 ∨ k = 22 ∨ (35 ≤ k ∧ k ≤ 43)) → gI M' 32 k = gI M 32 k) (b : ∀ c, (17 ≤ c ∧ c ≤ 21) ∨ (48 ≤ c ∧ c ≤ 51) → sm M M' c) (e : ∀ r, r < nR M → gI M' 38 (3 * r) = gI M 38 (3 * r) ∧ gI M' 38 (3 * r + 1) = gI M 38 (3 * r + 1)) (g : ∀ r, r < nM M → gI M' 41 (3 * r) = gI M 41 (3 * r) ∧ gI M' 41 (3 * r + 1) = gI M 41 (3 * r + 1)) : I_kp M' := by
  have e2 : nR M' = nR M := by unfold nR; rw [a 17 (by simp)]
  have e3 : nM M' = nM M := by unfold nM; rw [a 22 (by simp)]
  unfold I_kp at *
  rw [a 35 (by omega), a 14 (by omega), a 17 (by omega), a 22 (by omega), a 42 (by omega), a 43 (by omega), e2, e3, b 17 (by omega), b 17 (by omega), b 17 (by omega)]
  rcases h with h | ⟨h1, h2, h3, h4, h5, h6⟩
  · exact Or.inl h
  · refine Or.inr ⟨h1, h2, h3, h4, h5, fun z => ?_⟩
    obtain ⟨y1, y2, y3⟩ := h6 z
    exact ⟨y1, y2, fun p q => (y3 p q).tr (fun k hk => a k (by omega)) (fun c hc => b c (by omega)) e g⟩
/-- places that neither side looks at again behind a question -/
def scr (c k : Nat) : Prop := (22 ≤ c ∧ c ≤ 31) ∨ c = 34 ∨ c = 35 ∨ c = 39 ∨ c = 40 ∨ c = 43 ∨ c = 44 ∨ c = 46 ∨ (c = 32 ∧ (k = 2 ∨ k = 3 ∨ k = 6 ∨ k = 21 ∨ k = 28 ∨ k = 34 ∨ k = 48))
def Sm (M M' : Mm) : Prop := ∀ c k, ¬ scr c k → gI M' c k = gI M c k
theorem Sm.rf (M : Mm) : Sm M M := fun _ _ _ => rfl
theorem Sm.trans {A B C : Mm} (h : Sm A B) (g : Sm B C) : Sm A C := fun c k z => (g c k z).trans (h c k z)
theorem Sm.sI {A B : Mm} {c k : Nat} {v : Int32} (h : Sm A B) (z : scr c k) : Sm A (sI B c k v) := fun a b y => by
  rw [gI_sI, if_neg (fun e => y (by rw [e.1, e.2]; exact z))]
  exact h a b y
theorem Sm.sJ {A B : Mm} {c k : Nat} {v : Int64} (h : Sm A B) : Sm A (sJ B c k v) := fun a b y => by rw [gI_sJ]; exact h a b y
theorem Sm.inv {i : Nat} {M M' : Mm} (h : Sm M M') (hi : Inv i M) : Inv i M' := by
  obtain ⟨h1, h2, h3, h4, h5, h6, h7⟩ := hi
  have s : ∀ c, (c ≤ 21 ∨ c = 33 ∨ c = 36 ∨ c = 37 ∨ c = 38 ∨ c = 41 ∨ c = 42 ∨ c = 45 ∨ 47 ≤ c) → sm M M' c := fun c hc k => h c k (by unfold scr; omega)
  have f : ∀ k, (k = 1 ∨ k = 7 ∨ k = 8 ∨ k = 9 ∨ (10 ≤ k ∧ k ≤ 17) ∨ k = 22 ∨ k = 25 ∨ k = 29 ∨ k = 32 ∨ (35 ≤ k ∧ k ≤ 43)) → gI M' 32 k = gI M 32 k := fun k hk => h 32 k (by unfold scr; omega)
  refine ⟨h1.tr (f _ (by omega)) (s 1 (by omega) _) (s _ (by omega)) (s _ (by omega)), h2.tr (fun k hk => f k (by omega)) (s 0 (by omega) _) (s _ (by omega)) (s _ (by omega)) (s _ (by omega)) (s _ (by omega)) (s _ (by omega)), h3.tr (f _ (by omega)) (s _ (by omega)) (s _ (by omega)) (s _ (by omega)) (fun r _ => ⟨s 38 (by omega) _, s 38 (by omega) _⟩), h4.tr (f _ (by omega)) (s _ (by omega)) (s _ (by omega)) (s _ (by omega)) (s _ (by omega)) (s _ (by omega)) (fun r _ => ⟨s 41 (by omega) _, s 41 (by omega) _⟩), h5.tr (f _ (by omega)) (s 0 (by omega) _), ?_, h7.tr (fun k hk => f k (by omega)) (fun c hc => s c (by omega)) (fun r _ => ⟨s 38 (by omega) _, s 38 (by omega) _⟩) (fun r _ => ⟨s 41 (by omega) _, s 41 (by omega) _⟩)⟩
  exact I_co.tr h6 (fun k hk => f k (by omega)) (s _ (by omega)) (s _ (by omega)) (s _ (by omega)) (s _ (by omega)) (s _ (by omega)) (s _ (by omega)) (s _ (by omega)) (s _ (by omega))
theorem Sm.z {M M' : Mm} (h : Sm M M') (hz : I_z M) : I_z M' := by
  unfold I_z at *
  rw [h 32 7 (by unfold scr; omega), h 32 17 (by unfold scr; omega), h 32 22 (by unfold scr; omega), h 32 11 (by unfold scr; omega), h 32 12 (by unfold scr; omega)]
  exact hz
/-! the same, by footprints -/
def F_pg (c k : Nat) : Prop := (c = 32 ∧ k = 1) ∨ (c = 1 ∧ k = 1) ∨ c = 2 ∨ c = 33
def F_nt (c k : Nat) : Prop := (c = 32 ∧ (k = 14 ∨ k = 7 ∨ k = 8 ∨ k = 9)) ∨ (c = 0 ∧ k = 10) ∨ c = 3 ∨ c = 4 ∨ c = 5 ∨ c = 36 ∨ c = 37
def F_rk (c k : Nat) : Prop := (c = 32 ∧ k = 17) ∨ c = 6 ∨ c = 7 ∨ c = 8 ∨ (c = 38 ∧ k % 3 ≠ 2)
def F_mn (c k : Nat) : Prop := (c = 32 ∧ k = 22) ∨ c = 9 ∨ c = 10 ∨ c = 11 ∨ c = 12 ∨ c = 42 ∨ (c = 41 ∧ k % 3 ≠ 2)
def F_dn (c k : Nat) : Prop := (c = 32 ∧ k = 25) ∨ (c = 0 ∧ k = 11)
def F_cu (c k : Nat) : Prop := (c = 32 ∧ (k = 7 ∨ k = 17 ∨ k = 22 ∨ k = 10 ∨ k = 11 ∨ k = 12 ∨ k = 13 ∨ k = 29 ∨ k = 32)) ∨ (13 ≤ c ∧ c ≤ 16) ∨ (c = 38 ∧ k % 3 = 2) ∨ (c = 41 ∧ k % 3 = 2) ∨ c = 45 ∨ c = 47
def F_kp (c k : Nat) : Prop := (c = 32 ∧ (k = 7 ∨ k = 14 ∨ k = 17 ∨ k = 22 ∨ (35 ≤ k ∧ k ≤ 43))) ∨ (17 ≤ c ∧ c ≤ 21) ∨ (48 ≤ c ∧ c ≤ 51) ∨ (c = 38 ∧ k % 3 ≠ 2) ∨ (c = 41 ∧ k % 3 ≠ 2)
def F_z (c k : Nat) : Prop := c = 32 ∧ (k = 7 ∨ k = 17 ∨ k = 22 ∨ k = 11 ∨ k = 12)
def Ag (M M' : Mm) (F : Nat → Nat → Prop) : Prop := ∀ c k, F c k → gI M' c k = gI M c k
theorem I_pg.ag {M M' : Mm} (h : I_pg M) (a : Ag M M' F_pg) : I_pg M' := h.tr (a _ _ (by unfold F_pg; omega)) (a _ _ (by unfold F_pg; omega)) (fun k => a _ k (by unfold F_pg; omega)) (fun k => a _ k (by unfold F_pg; omega))
theorem I_nt.ag {i : Nat} {M M' : Mm} (h : I_nt i M) (a : Ag M M' F_nt) : I_nt i M' := h.tr (fun k hk => a _ _ (by unfold F_nt; omega)) (a _ _ (by unfold F_nt; omega)) (fun k => a _ k (by unfold F_nt; omega)) (fun k => a _ k (by unfold F_nt; omega)) (fun k => a _ k (by unfold F_nt; omega)) (fun k => a _ k (by unfold F_nt; omega)) (fun k => a _ k (by unfold F_nt; omega))
theorem I_rk.ag {M M' : Mm} (h : I_rk M) (a : Ag M M' F_rk) : I_rk M' := h.tr (a _ _ (by unfold F_rk; omega)) (fun k => a _ k (by unfold F_rk; omega)) (fun k => a _ k (by unfold F_rk; omega)) (fun k => a _ k (by unfold F_rk; omega)) (fun r _ => ⟨a _ _ (by unfold F_rk; omega), a _ _ (by unfold F_rk; omega)⟩)
theorem I_mn.ag {M M' : Mm} (h : I_mn M) (a : Ag M M' F_mn) : I_mn M' := h.tr (a _ _ (by unfold F_mn; omega)) (fun k => a _ k (by unfold F_mn; omega)) (fun k => a _ k (by unfold F_mn; omega)) (fun k => a _ k (by unfold F_mn; omega)) (fun k => a _ k (by unfold F_mn; omega)) (fun k => a _ k (by unfold F_mn; omega)) (fun r _ => ⟨a _ _ (by unfold F_mn; omega), a _ _ (by unfold F_mn; omega)⟩)
theorem I_dn.ag {M M' : Mm} (h : I_dn M) (a : Ag M M' F_dn) : I_dn M' := h.tr (a _ _ (by unfold F_dn; omega)) (a _ _ (by unfold F_dn; omega))
theorem I_cu.ag {M M' : Mm} (h : I_cu M) (a : Ag M M' F_cu) : I_cu M' := by
  have f : ∀ k, (k = 7 ∨ k = 17 ∨ k = 22 ∨ k = 10 ∨ k = 11 ∨ k = 12 ∨ k = 13 ∨ k = 29 ∨ k = 32) → gI M' 32 k = gI M 32 k := fun k hk => a 32 k (by unfold F_cu; omega)
  have g : ∀ c k, (13 ≤ c ∧ c ≤ 16 ∨ c = 45 ∨ c = 47) → gI M' c k = gI M c k := fun c k hc => a c k (by unfold F_cu; omega)
  have e1 : sT M' = sT M := by unfold sT; rw [f 7 (by omega)]
  have e2 : nR M' = nR M := by unfold nR; rw [f 17 (by omega)]
  have e3 : nM M' = nM M := by unfold nM; rw [f 22 (by omega)]
  unfold I_cu I_co at *
  rw [f 10 (by omega), f 11 (by omega), f 12 (by omega), f 13 (by omega), f 29 (by omega), f 32 (by omega), e1, e2, e3, g 13 0 (by omega), g 13 1 (by omega), g 13 2 (by omega), g 13 3 (by omega), g 13 4 (by omega), g 13 5 (by omega), g 13 6 (by omega), g 13 7 (by omega)]
  obtain ⟨h1, h2, h3, h4, h5, h6, h7, h8, h9, h10, h11, h12, h13, h14, h15, h16, h17, h18, h19, h20, h21⟩ := h
  refine ⟨h1, h2, h3, h4, h5, h6, h7, h8, h9, h10, fun r hr => by rw [a 38 _ (by unfold F_cu; omega)]; exact h11 r hr, h12, fun m hm => by rw [a 41 _ (by unfold F_cu; omega), g 14 m (by omega)]; exact h13 m hm, h14, h15, fun k hk => ?_, fun b hb => ?_, fun b p q => by rw [g 15 b (by omega)]; exact h18 b p q, h19, h20, fun k hk => by rw [g 16 k (by omega), g 47 k (by omega)]; exact h21 k hk⟩
  · obtain ⟨x, y, z⟩ := h16 k hk
    exact ⟨x, y, by rw [g 45 _ (by omega), g 45 _ (by omega)]; exact z⟩
  · rw [g 15 b (by omega)]
    refine ⟨(h17 b hb).1, fun a ha => ((h17 b hb).2 a ha).trans ?_⟩
    constructor
    · rintro ⟨k, z⟩; exact ⟨k, by rw [g 45 _ (by omega), g 45 _ (by omega)]; exact z⟩
    · rintro ⟨k, z⟩; exact ⟨k, by rw [g 45 _ (by omega), g 45 _ (by omega)] at z; exact z⟩
theorem I_kp.ag {M M' : Mm} (h : I_kp M) (a : Ag M M' F_kp) : I_kp M' := h.tr (fun k hk => a _ _ (by unfold F_kp; omega)) (fun c hc k => a _ _ (by unfold F_kp; omega)) (fun r _ => ⟨a _ _ (by unfold F_kp; omega), a _ _ (by unfold F_kp; omega)⟩) (fun r _ => ⟨a _ _ (by unfold F_kp; omega), a _ _ (by unfold F_kp; omega)⟩)
theorem I_z.ag {M M' : Mm} (h : I_z M) (a : Ag M M' F_z) : I_z M' := by
  unfold I_z at *
  rw [a 32 7 (by unfold F_z; omega), a 32 17 (by unfold F_z; omega), a 32 22 (by unfold F_z; omega), a 32 11 (by unfold F_z; omega), a 32 12 (by unfold F_z; omega)]
  exact h
/-- memory agrees but for X: the parts that X doesn't touch stay -/
theorem Inv.set {i : Nat} {M M' : Mm} (h : Inv i M) (X : Nat → Nat → Prop) (ag : ∀ c k, ¬ X c k → gI M' c k = gI M c k) (pg : (∀ c k, X c k → ¬ F_pg c k) ∨ I_pg M') (nt : (∀ c k, X c k → ¬ F_nt c k) ∨ I_nt (i + 1) M') (rk : (∀ c k, X c k → ¬ F_rk c k) ∨ I_rk M') (mn : (∀ c k, X c k → ¬ F_mn c k) ∨ I_mn M') (dn : (∀ c k, X c k → ¬ F_dn c k) ∨ I_dn M') (cu : (∀ c k, X c k → ¬ F_cu c k) ∨ I_cu M') (kp : (∀ c k, X c k → ¬ F_kp c k) ∨ I_kp M') : Inv (i + 1) M' := by
  have key : ∀ {F : Nat → Nat → Prop}, (∀ c k, X c k → ¬ F c k) → Ag M M' F := fun q c k hf => ag c k (fun hx => q c k hx hf)
  obtain ⟨h1, h2, h3, h4, h5, h6, h7⟩ := h.up
  exact ⟨pg.elim (fun q => h1.ag (key q)) id, nt.elim (fun q => h2.ag (key q)) id, rk.elim (fun q => h3.ag (key q)) id, mn.elim (fun q => h4.ag (key q)) id, dn.elim (fun q => h5.ag (key q)) id, cu.elim (fun q => h6.ag (key q)) id, kp.elim (fun q => h7.ag (key q)) id⟩
theorem I_z.set {M M' : Mm} (h : I_z M) (X : Nat → Nat → Prop) (ag : ∀ c k, ¬ X c k → gI M' c k = gI M c k) (q : ∀ c k, X c k → ¬ F_z c k) : I_z M' := h.ag (fun c k hf => ag c k (fun hx => q c k hx hf))
theorem gI_o {M : Mm} {c k c' k' : Nat} {v : Int32} (h : ¬ (c' = c ∧ k' = k)) : gI (sI M c k v) c' k' = gI M c' k' := by rw [gI_sI, if_neg h]
theorem gI_s {M : Mm} {c k : Nat} {v : Int32} : gI (sI M c k v) c k = v := by rw [gI_sI, if_pos ⟨rfl, rfl⟩]
