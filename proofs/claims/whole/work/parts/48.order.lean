/-! THE CALL order -/
def So (M M' : Mm) : Prop := ∀ c k, (c = 41 ∨ c = 42 ∨ c = 37 ∨ (c = 13 ∧ k = 4) ∨ (c = 32 ∧ (k = 7 ∨ k = 8 ∨ k = 10 ∨ k = 13 ∨ k = 22))) → gI M' c k = gI M c k
theorem So.nM' {M M' : Mm} (h : So M M') : nM M' = nM M := by unfold nM; rw [h 32 22 (by omega)]
theorem So.sT' {M M' : Mm} (h : So M M') : sT M' = sT M := by unfold sT; rw [h 32 7 (by omega)]
theorem So.abc' {M M' : Mm} (h : So M M') : ∀ k, abc M' k = abc M k
  | 0 => rfl
  | k + 1 => by rw [abc_s, abc_s, h.abc' k, h 41 _ (by omega)]
theorem So.ahd' {M M' : Mm} (h : So M M') (m : Nat) : ahd M' m = ahd M m := by
  unfold ahd; rw [h 42 _ (by omega), h 41 _ (by omega), h.nM', h.abc']
theorem So.tk' {M M' : Mm} (h : So M M') : tk M' = tk M := by
  funext m
  have e : sg M' m = sg M m := by
    unfold sg; rw [h 41 _ (by omega), h 32 8 (by omega), h 32 13 (by omega)]
  unfold tk; rw [e, h 41 _ (by omega), h 41 _ (by omega)]
theorem So.hz' {M M' : Mm} (h : So M M') (m : Nat) : ∀ f t v, hz M' m f t v = hz M m f t v
  | 0, _, _ => rfl
  | f + 1, t, v => by rw [hz, hz, h.hz' m f, h 37 t (by omega)]
theorem So.Cb' {M M' : Mm} (h : So M M') : Cb M' = Cb M := by
  funext ov m
  unfold Cb cm; rw [h.ahd']
theorem So.Hh' {M M' : Mm} (h : So M M') (first v : Nat) : Hh M' first v = Hh M first v := by
  funext t
  unfold Hh; rw [h.sT', h.hz']
theorem So.ts' {M M' : Mm} (h : So M M') (s : Nat) : ∀ k, ts M' s k = ts M s k
  | 0 => by show nv _ = nv _; rw [h 32 10 (by omega)]
  | k + 1 => by rw [ts_s, ts_s, h.ts' s k, h 13 4 (by omega), h.tk']
theorem So.Ds' {M M' : Mm} (h : So M M') (first s : Nat) : Ds M' first s = Ds M first s := by
  unfold Ds Ts; rw [h.Cb', h.tk', h.Hh', h.nM', h.ts']
theorem ts_0 (M : Mm) : ∀ k, ts M (nv (gI M 13 4)) k = nv (gI M 32 10)
  | 0 => rfl
  | k + 1 => by
    rw [ts_s, ts_0 M k, if_neg (fun z => by rw [z.1] at z; exact absurd z.2 (by simp))]; rfl
/-- a row's men are the set's -/
theorem pm_bit : ∀ f c q, q ∈ pm f c → ∀ x, x ∈ q → c.testBit x = true
  | 0, c, q, h, x, hx => by
    have : q = [] := by simpa [pm] using h
    rw [this] at hx; exact absurd hx (by simp)
  | f + 1, c, q, h, x, hx => by
    rw [pm] at h
    split at h
    · have : q = [] := by simpa using h
      rw [this] at hx; exact absurd hx (by simp)
    · obtain ⟨m, _, h2⟩ := List.mem_flatMap.mp h
      split at h2
      · rename_i hb
        obtain ⟨l, hl, rfl⟩ := List.mem_map.mp h2
        rcases List.mem_cons.mp hx with e | e
        · rw [e]; exact hb
        · have := pm_bit f _ l hl x e
          unfold nt at this
          rw [Nat.testBit_and] at this
          simp at this
          exact this.1
      · exact absurd h2 (by simp)
theorem pm_720 : ∀ s, s < 64 → Nat.ble (pm 6 s).length 720 = true := by decide +kernel
theorem la_in {q : List Nat} {k : Nat} (h : k < q.length) : la q k ∈ q := by
  unfold la
  rw [List.getD_eq_getElem?_getD, List.getElem?_eq_getElem h]
  exact List.getElem_mem h
theorem pm_ok {n s : Nat} (n6 : n ≤ 6) (hs : s < 2 ^ n) : ∃ ps, pm 6 s = mem6 s :: ps ∧ ch (mem6 s :: ps) = true ∧ ps.length + 1 ≤ 720 ∧ (mem6 s).length ≤ 6 ∧ ∀ q, q ∈ mem6 s :: ps → q.length = (mem6 s).length ∧ ∀ k, k < (mem6 s).length → la q k < n := by
  have p64 := pw_64 n6
  obtain ⟨c1, c2⟩ := chk s (by omega)
  have h720 := Nat.le_of_ble_eq_true (pm_720 s (by omega))
  have hin := pm_in s (by omega)
  cases e : pm 6 s with
  | nil => rw [e] at c2; exact absurd c2 (by simp)
  | cons q ps =>
    rw [e] at c1 c2 h720 hin
    have eq : q = mem6 s := Option.some.inj c2
    subst eq
    refine ⟨ps, rfl, c1, h720, ?_, fun q hq => ?_⟩
    · rw [← mk_6 n n6 s hs]
      exact Nat.le_trans (mk_len s n) n6
    · have h1 := List.all_eq_true.mp hin q hq
      rw [Bool.and_eq_true] at h1
      have hl : q.length = (mem6 s).length := by simpa using h1.1
      refine ⟨hl, fun k hk => ?_⟩
      have hb := pm_bit 6 s q (by rw [e]; exact hq) (la q k) (la_in (by omega))
      rcases Nat.lt_or_ge (la q k) n with y | y
      · exact y
      · exfalso
        have : s < 2 ^ la q k := Nat.lt_of_lt_of_le hs (Nat.pow_le_pow_right (n := 2) (by decide) y)
        rw [Nat.testBit_lt_two_pow this] at hb
        exact absurd hb (by simp)
/-- the reference's search -/
theorem rs_e {i : Nat} {M : Mm} (h : Inv i M) {first : Nat} (t1 : gI M 32 10 / 5 = nI first) (t2 : first < sT M) (K : Int64 → Mm → Option (Int64 × Mm)) : ∃ len M', bd (sp_X11_overBits M) (fun r76 M76 => bd (sp_X11_firstOrder ((((1 : Int32) <<< ((gI M 32 22) &&& 31)) - (1 : Int32)) &&& (r76 ^^^ (-1 : Int32))) M76) (fun _ M82 => sp_X11_order_L92 K fu (-1 : Int64) (1 : Int32) M82)) = K (bJ (x10 (Ds M first (nv (gI M 13 4))))) M' ∧ Sm M M' ∧ len ≤ 6 ∧ gI M' 32 28 = nI len ∧ R44 M' len (x10 (Ds M first (nv (gI M 13 4)))) := by
  obtain ⟨h1, h2, h3, h4, h5, h6, h7⟩ := id h
  obtain ⟨n6, n2, n3⟩ := h4.n
  have p64 := pw_64 n6
  have pp := Nat.two_pow_pos (nM M)
  obtain ⟨o1, o2, o3⟩ := ob_n h4 h6
  obtain ⟨m1, m2, m3⟩ := mi_n h6
  have hs : nt (2 ^ nM M - 1) (nv (gI M 13 4)) < 2 ^ nM M := Nat.lt_of_le_of_lt (nt_le _ _) (by omega)
  rw [over_e h4 h6, bd_s, n2, b_all _ n6, o1, b_nt _ (by omega) _ o3, ← o1]
  obtain ⟨M3, f1, f2, f3⟩ := first_e n6 hs (M := M) n2
  obtain ⟨ps, e1, e2, e3, e4, e5⟩ := pm_ok n6 hs
  have sm3 : Sm M M3 := Rr.sm (Sm.rf M) f3
  rw [f1, bd_s]
  obtain ⟨M', g1, g2, g3, g4, g5⟩ := moO h t1 t2 e4 K ps (mem6 (nt (2 ^ nM M - 1) (nv (gI M 13 4)))) none M3 fu e2 e5 sm3 f2 (fun x hx => absurd hx (by simp)) (fun x hx => absurd hx (by simp)) (by show _ < 1000; omega)
  have eD : fm (mean (Cb M) (tk M) (Hh M first 10000000000) (nv (gI M 13 4)) (nv (gI M 32 10))) none (mem6 (nt (2 ^ nM M - 1) (nv (gI M 13 4))) :: ps) = x10 (Ds M first (nv (gI M 13 4))) := by
    rw [← e1, best_e, Bst_10 (H := Hh M first 1000000000) _ _ (fun t => Hh_10 M first t h2.s.1)]
    unfold Ds Ts
    rw [ts_0]
  rw [eD] at g1 g3
  exact ⟨_, M', g1, g2, e4, g5, g3⟩
def cK (p1 : Int32) (M25 : Mm) : Option (Int64 × Mm) := if (gI M25 0 11) < (30 : Int32) then (bl (sI M25 0 11 ((gI M25 0 11) + (1 : Int32))) (fun M51 => bd (sp_X4_search M51) (fun _ M70 => if p1 < (10 : Int32) then (bd (sp_X4_isThere M70) (fun r96 M96 => if r96 = 0 then (if p1 = 0 then (some ((-1 : Int64), M96)) else (some ((1 : Int64), M96))) else (bd (sp_X4_most M96) (fun r118 M118 => bd (sp_X10_inLowestTerms r118 (1000000000 : Int64) p1 M118) (fun r125 M125 => some (r125, M125)))))) else (bd (sp_X4_manAt (p1 - (10 : Int32)) M70) (fun r87 M87 => some (r87.toInt64, M87)))))) else (some ((-103 : Int64), M25))
def mK2 (p1 : Int32) (v2_154 : Int64) (M_154 : Mm) : Option (Int64 × Mm) := if v2_154 = (-1 : Int64) then (if p1 = (1 : Int32) then (some ((1 : Int64), M_154)) else (some ((-1 : Int64), M_154))) else (if p1 < (2 : Int32) then (bd (sp_X11_term v2_154 (10000000000 : Int64) p1 M_154) (fun r185 M185 => some (r185, M185))) else (if (p1 - (10 : Int32)) < (gI M_154 32 28) then (rdI M_154 44 (p1 - (10 : Int32)) (fun a208 => some (a208.toInt64, M_154))) else (some ((-1 : Int64), M_154))))
def mK (p1 : Int32) (M29 : Mm) : Option (Int64 × Mm) := if (gI M29 32 12) = (1 : Int32) then (some ((-103 : Int64), M29)) else (if (gI M29 32 25) = (30 : Int32) then (some ((-103 : Int64), M29)) else (bl (sI M29 32 25 ((gI M29 32 25) + (1 : Int32))) (fun M63 => bd (sp_X11_overBits M63) (fun r76 M76 => bd (sp_X11_firstOrder ((((1 : Int32) <<< ((gI M63 32 22) &&& 31)) - (1 : Int32)) &&& (r76 ^^^ (-1 : Int32))) M76) (fun _ M82 => sp_X11_order_L92 (mK2 p1) fu (-1 : Int64) (1 : Int32) M82)))))
def okp (p : Int32) : Prop := ((0 : Int) ≤ p.toInt ∧ p.toInt ≤ 1) ∨ ((10 : Int) ≤ p.toInt ∧ p.toInt ≤ 15)
theorem cord_0 {p : Int32} (h : ¬ okp p) (M : Mm) : sp_X10_order p M = some (-102, M) := by
  unfold okp at h
  unfold sp_X10_order
  rw [out_1 (x := 0) (y := 1) rfl rfl (by omega), bd_s, jn_e, if_neg i10, out_1 (x := 10) (y := 15) rfl rfl (by omega), bd_s, if_neg i10]
theorem mord_0 {p : Int32} (h : ¬ okp p) (M : Mm) : sp_X11_order p M = some (-102, M) := by
  unfold okp at h
  unfold sp_X11_order
  rw [in_0 (x := 0) (y := 1) rfl rfl (by omega), bd_s, jn_e, if_pos rfl, in_0 (x := 10) (y := 15) rfl rfl (by omega), bd_s, if_pos rfl]
theorem cord_1 {p : Int32} (h : okp p) (M : Mm) : sp_X10_order p M = bd (sp_X10_isAfloat M) (fun r25 M25 => if r25 = 0 then (some ((-103 : Int64), M25)) else cK p M25) := by
  unfold sp_X10_order
  rcases h with h | h
  · rw [out_0 (x := 0) (y := 1) rfl rfl h, bd_s, jn_e, if_pos rfl]; rfl
  · rw [out_1 (x := 0) (y := 1) rfl rfl (by omega), bd_s, jn_e, if_neg i10, out_0 (x := 10) (y := 15) rfl rfl h, bd_s, if_pos rfl]; rfl
theorem mord_1 {p : Int32} (h : okp p) (M : Mm) : sp_X11_order p M = bd (sp_X11_lacks M) (fun r29 M29 => if r29 = 0 then mK p M29 else (some ((-103 : Int64), M29))) := by
  unfold sp_X11_order
  rcases h with h | h
  · rw [in_1 (x := 0) (y := 1) rfl rfl h, bd_s, jn_e, if_neg i10]; rfl
  · rw [in_0 (x := 0) (y := 1) rfl rfl (by omega), bd_s, jn_e, if_pos rfl, in_1 (x := 10) (y := 15) rfl rfl h, bd_s, if_neg i10]; rfl
