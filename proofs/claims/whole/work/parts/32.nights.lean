/-! THE CALL nights: both -/
def Tc (M M' : Mm) (r : Int32 × Nat × Int32 × Nat) : Prop := Sm M M' ∧ gI M' 31 2 = r.1 ∧ gI M' 31 1 = nI r.2.1 ∧ gI M' 31 3 = r.2.2.1 ∧ gJ M' 31 0 = nJ r.2.2.2
theorem cruL {i : Nat} {M : Mm} (h : Inv i M) : ∀ f n seed left t shots Mx, seed < 2147483648 → left < 2 ^ nR M → t + f = sT M → f < n → Tc M Mx (0, shots, 0, seed) → ∃ M', sp_X9_run_L44 n (nI left) (nI t) Mx = some ((), M') ∧ Tc M M' (trn M f seed left t shots) := by
  have n6 := h.2.2.1.n.1
  have s10 := h.2.1.s.1
  intro f
  induction f with
  | zero =>
    intro n seed left t shots Mx hs hl ht hf c
    obtain ⟨n, rfl⟩ : ∃ g, n = g + 1 := ⟨n - 1, by omega⟩
    have hx := c.1.inv h
    rw [sp_X9_run_L44, hx.2.1.s.2.2, c.1.sT', if_neg (by rw [nI_ltI (by omega) (by omega)]; omega)]
    exact ⟨Mx, rfl, c⟩
  | succ f ih =>
    intro n seed left t shots Mx hs hl ht hf c
    obtain ⟨n, rfl⟩ : ∃ g, n = g + 1 := ⟨n - 1, by omega⟩
    have l64 : left < 64 := Nat.lt_of_lt_of_le hl (pw_64 n6)
    have hx := c.1.inv h
    obtain ⟨c1, c2, c3, c4, c5⟩ := id c
    rw [sp_X9_run_L44, hx.2.1.s.2.2, c1.sT', if_pos ((nI_ltI (by omega) (by omega)).mpr (by omega)), c2, if_pos rfl, c4, if_pos rfl, trn]
    by_cases h0 : left = 0
    · rw [if_pos (by rw [h0]; rfl), if_pos h0]
      exact ⟨Mx, rfl, c⟩
    · have lbn := lb_n _ n6 left hl h0
      rw [if_neg (c_ne 0 0 rfl h0 (by omega) (by decide)), if_neg h0, least_e (n := nR M) n6 (by rw [hx.2.2.1.n.2.2, c1.nR']) hl h0, bd_s, wout_e l64 (by omega), bd_s, bl_e, c3, nI_p]
      have c1' : Sm M (sI Mx 31 1 (nI (shots + 1))) := c1.sI (by unfold scr; omega)
      rw [cgust_e h c1' hs (by rw [gJ_sI]; exact c5), bd_s]
      have hd1 := dr_lt seed
      have hd2 := dr_lt (dr seed)
      generalize eA : sJ (sI Mx 31 1 (nI (shots + 1))) 31 0 (nJ (dr seed)) = A
      have a1 : Sm M A := by rw [← eA]; exact c1'.sJ
      have a2 : gI A 31 1 = nI (shots + 1) := by rw [← eA, gI_sJ, gI_s]
      have a3 : gI A 31 3 = 0 := by rw [← eA, gI_sJ, gI_o (by omega)]; exact c4
      have a4 : gJ A 31 0 = nJ (dr seed) := by rw [← eA, gJ_sJ, if_pos ⟨rfl, rfl⟩]
      have ha := a1.inv h
      rw [cfa_e ha.2.1 ha.2.2.1 (by rw [a1.nR']; exact lbn), bd_s, crg_e ha.2.1, bd_s, zb_ite, bl_e, a1.fa', a1.rg']
      generalize gu M (dw (dr seed)) = gg
      cases hr : rg M (fa M (lb left) (nI t) gg) with
      | true =>
        rw [if_pos rfl, if_pos rfl, gI_s, if_neg i10, nI_p]
        -- the line is made: the loop looks once more and ends
        have b1 : Sm M (sI A 31 2 1) := a1.sI (by unfold scr; omega)
        have hb := b1.inv h
        obtain ⟨n, rfl⟩ : ∃ g, n = g + 1 := ⟨n - 1, by omega⟩
        refine ⟨sI A 31 2 1, ?_, b1, by rw [gI_s], by rw [gI_o (by omega), a2], by rw [gI_o (by omega), a3], by rw [gJ_sI, a4]⟩
        rw [sp_X9_run_L44, gI_s, if_neg i10]
        split <;> rfl
      | false =>
        rw [if_neg (c := false = true) Bool.false_ne_true, if_neg (c := false = true) Bool.false_ne_true, gI_s, if_pos rfl]
        generalize eB : sI A 31 2 0 = B
        have b1 : Sm M B := by rw [← eB]; exact a1.sI (by unfold scr; omega)
        have b2 : gI B 31 2 = 0 := by rw [← eB, gI_s]
        have b3 : gI B 31 1 = nI (shots + 1) := by rw [← eB, gI_o (by omega), a2]
        have b5 : gJ B 31 0 = nJ (dr seed) := by rw [← eB, gJ_sI, a4]
        have hb := b1.inv h
        rw [cdraw_e hd1 b5, bd_s]
        unfold sp_X7_isLast
        rw [gI_sJ, hb.2.1.s.2.2, b1.sT', show (1 : Int32) = nI 1 from rfl, nI_sub (by omega)]
        obtain ⟨q1, q2, q3⟩ := h.2.1.2.2.2.2.2.2.2.2.2.2.2.1 t (by omega)
        have d1 : Sm M (sJ B 31 0 (nJ (dr (dr seed)))) := b1.sJ
        have dt : gI (sJ B 31 0 (nJ (dr (dr seed)))) 5 t = nI (nv (gI M 37 t)) := by rw [gI_sJ, b1 5 t (by unfold scr; omega), q1]; exact q2
        have hw := dw_lt (dr (dr seed))
        have fin : Tc M (sI (sJ B 31 0 (nJ (dr (dr seed)))) 31 3 1) (0, shots + 1, 1, dr (dr seed)) := ⟨d1.sI (by unfold scr; omega), by rw [gI_o (by omega), gI_sJ, b2], by rw [gI_o (by omega), gI_sJ, b3], by rw [gI_s], by rw [gJ_sI, gJ_sJ, if_pos ⟨rfl, rfl⟩]⟩
        have stop : ∀ x y, sp_X9_run_L44 n x y (sI (sJ B 31 0 (nJ (dr (dr seed)))) 31 3 1) = some ((), sI (sJ B 31 0 (nJ (dr (dr seed)))) 31 3 1) := fun x y => by
          obtain ⟨n, rfl⟩ : ∃ g, n = g + 1 := ⟨n - 1, by omega⟩
          rw [sp_X9_run_L44, gI_s, if_neg (c := (1 : Int32) = 0) i10]
          split
          · split <;> rfl
          · rfl
        by_cases hlast : t = sT M - 1
        · rw [if_neg (by rw [nI_ltI (by omega) (by omega)]; omega), bd_s, jn_e, if_neg (by decide)]
          dsimp only
          rw [bl_e, if_pos (Or.inl hlast), show nI 1 = 1 from rfl, stop]
          exact ⟨_, rfl, fin⟩
        · rw [if_pos ((nI_ltI (by omega) (by omega)).mpr (by omega)), bd_s, jn_e, if_pos rfl]
          unfold sp_X7_breakTenths
          rw [at_n (show t < 10 by omega), bd_s, bd_s, dt]
          by_cases hd : dw (dr (dr seed)) < nv (gI M 37 t)
          · rw [if_pos ((nI_ltI (by omega) (by omega)).mpr hd)]
            dsimp only
            rw [bl_e, if_pos (Or.inr hd), show nI 1 = 1 from rfl, stop]
            exact ⟨_, rfl, fin⟩
          · rw [if_neg (by rw [nI_ltI (by omega) (by omega)]; exact hd), bl_e, if_neg (fun z => z.elim hlast hd), show nI 1 = 1 from rfl, nI_p]
            refine ih n _ _ _ _ _ hd2 (Nat.lt_of_le_of_lt (nt_le' _ _) hl) (by omega) (by omega) ⟨d1.sI (by unfold scr; omega), ?_, ?_, ?_, ?_⟩
            · rw [gI_o (by omega), gI_sJ, b2]
            · rw [gI_o (by omega), gI_sJ, b3]
            · rw [gI_s]
            · rw [gJ_sI, gJ_sJ, if_pos ⟨rfl, rfl⟩]
/-! the reference -/
theorem mleL {left : Nat} (l64 : left < 64) (h0 : left ≠ 0) (K : Int32 → Option (Int32 × Mm)) : ∀ f k, k ≤ lb left → lb left < k + f → sp_X11_nights_L93 (nI left) K f (nI k) = K (nI (lb left)) := by
  obtain ⟨b1, b2, b3⟩ := lb_d left l64 h0
  intro f
  induction f with
  | zero => intro k a b; omega
  | succ f ih =>
    intro k a b
    rw [sp_X11_nights_L93, b_bit left l64 k (by omega)]
    by_cases hk : k = lb left
    · rw [hk, b2, if_neg (by simp)]
    · rw [b3 k (by omega) (by omega), if_pos (by simp), nI_p]
      exact ih (k + 1) (by omega) (by omega)
theorem mle_e {left : Nat} (l64 : left < 64) (h0 : left ≠ 0) (K : Int32 → Option (Int32 × Mm)) : sp_X11_nights_L93 (nI left) K fu (0 : Int32) = K (nI (lb left)) :=
  mleL l64 h0 K fu 0 (by omega) (by have := (lb_d left l64 h0).1; show _ < _ + 1000; omega)
theorem rdI_0 {β : Type} {M : Mm} {c : Nat} (h : 0 < ln c) (k : Int32 → Option β) : rdI M c (0 : Int32) k = k (gI M c 0) := rdI_n h k
theorem rdI_1 {β : Type} {M : Mm} {c : Nat} (h : 1 < ln c) (k : Int32 → Option β) : rdI M c (1 : Int32) k = k (gI M c 1) := rdI_n h k
theorem gust_jn {β : Type} {M : Mm} {d a b : Nat} (ha : a = nv (gI M 36 0)) (hb : b = nv (gI M 36 1)) (hd : d < 10) (la : a ≤ 10) (lb : b ≤ 10) (k : Int32 → Option β) {A : Mm} (ea : gI A 36 0 = nI a) (eb : gI A 36 1 = nI b) : jn k (fun K => if nI d < nI a then K (-1 : Int32) else rdI A 36 (0 : Int32) (fun x => rdI A 36 (1 : Int32) (fun y => if nI d < x + y then K (0 : Int32) else K (1 : Int32)))) = k (gu M d) := by
  rw [jn_e, rdI_0 (by decide), rdI_1 (by decide), ea, eb, nI_add]
  unfold gu
  rw [← ha, ← hb]
  by_cases y : d < a
  · rw [if_pos ((nI_ltI (by omega) (by omega)).mpr y), if_pos y]
  · rw [if_neg (by rw [nI_ltI (by omega) (by omega)]; exact y), if_neg y]
    by_cases z : d < a + b
    · rw [if_pos ((nI_ltI (by omega) (by omega)).mpr z), if_pos z]
    · rw [if_neg (by rw [nI_ltI (by omega) (by omega)]; exact z), if_neg z]
theorem mst {i : Nat} {M : Mm} (h : Inv i M) (K : Int32 → Int32 → Int32 → Mm → Option (Int32 × Mm)) {f n seed left t shots : Nat} {Mx : Mm} (hs : seed < 2147483648) (hl : left < 2 ^ nR M) (ht : t < sT M) (c : Sm M Mx) (e : gI Mx 32 34 = nI seed)
    (hrec : t ≠ sT M - 1 → ∀ Mx', Sm M Mx' → gI Mx' 32 34 = nI (dr (dr seed)) → ∃ M', sp_X11_nights_L76 K (n + 1) 0 (nI (nt left (2 ^ lb left))) (nI (shots + 1)) 0 (nI (t + 1)) Mx' = K (trn M f (dr (dr seed)) (nt left (2 ^ lb left)) (t + 1) (shots + 1)).1 (nI (trn M f (dr (dr seed)) (nt left (2 ^ lb left)) (t + 1) (shots + 1)).2.1) (trn M f (dr (dr seed)) (nt left (2 ^ lb left)) (t + 1) (shots + 1)).2.2.1 M' ∧ Sm M M' ∧ gI M' 32 34 = nI (trn M f (dr (dr seed)) (nt left (2 ^ lb left)) (t + 1) (shots + 1)).2.2.2) :
    ∃ M', sp_X11_nights_L76 K (n + 1 + 1) 0 (nI left) (nI shots) 0 (nI t) Mx = K (trn M (f + 1) seed left t shots).1 (nI (trn M (f + 1) seed left t shots).2.1) (trn M (f + 1) seed left t shots).2.2.1 M' ∧ Sm M M' ∧ gI M' 32 34 = nI (trn M (f + 1) seed left t shots).2.2.2 := by
  have n6 := h.2.2.1.n.1
  have s10 := h.2.1.s.1
  have p2 := (h.2.1.2.2.2.2.2.2.2.2.2.1 0 (by omega)).2
  have q2 := (h.2.1.2.2.2.2.2.2.2.2.2.1 1 (by omega)).2
  have l64 : left < 64 := Nat.lt_of_lt_of_le hl (pw_64 n6)
  rw [sp_X11_nights_L76, if_pos (c := (0 : Int32) = 0) rfl, trn]
  by_cases h0 : left = 0
  · rw [if_pos (c := nI left = 0) (by rw [h0]; rfl), if_pos h0]
    exact ⟨Mx, rfl, c, e⟩
  · have lbn := lb_n _ n6 left hl h0
    have hd1 := dr_lt seed
    have hd2 := dr_lt (dr seed)
    have hw1 := dw_lt (dr seed)
    have hw2 := dw_lt (dr (dr seed))
    rw [if_neg (c := nI left = 0) (c_ne 0 0 rfl h0 (by omega) (by decide)), if_neg h0, if_pos (c := (0 : Int32) = 0) rfl, jn_e]
    rw [mle_e l64 h0, bl_e, b_one _ (by omega), b_nt left l64 _ (p2_64 (by omega)), mdraw_e hs e, bd_s, rdI_0 (by decide)]
    generalize eA : sI Mx 32 34 (nI (dr seed)) = A
    have a1 : Sm M A := by rw [← eA]; exact c.sI (by unfold scr; omega)
    have a2 : gI A 32 34 = nI (dr seed) := by rw [← eA, gI_s]
    have g0 : gI A 36 0 = nI (nv (gI M 36 0)) := by rw [a1 36 0 (by unfold scr; omega)]; exact p2.1
    have g1 : gI A 36 1 = nI (nv (gI M 36 1)) := by rw [a1 36 1 (by unfold scr; omega)]; exact q2.1
    have ha := a1.inv h
    rw [g0, gust_jn rfl rfl hw1 p2.2 q2.2 _ g0 g1, mfa_e (by omega), bd_s, mrg_e ha.2.1, bd_s, a1.fa', a1.rg']
    generalize gu M (dw (dr seed)) = gg
    cases hr : rg M (fa M (lb left) (nI t) gg) with
    | true =>
      rw [if_pos (c := true = true) rfl, if_pos (c := true = true) rfl, jn_e, if_neg i10]
      dsimp only
      rw [if_neg i10, nI_p, sp_X11_nights_L76, if_neg i10]
      exact ⟨A, rfl, a1, a2⟩
    | false =>
      rw [if_neg (c := false = true) Bool.false_ne_true, if_neg (c := false = true) Bool.false_ne_true, jn_e, if_pos (c := (0 : Int32) = 0) rfl]
      dsimp only
      rw [if_pos (c := (0 : Int32) = 0) rfl, mdraw_e hd1 a2, bd_s, rdI_n (show t < 10 by omega)]
      generalize eB : sI A 32 34 (nI (dr (dr seed))) = B
      have b1 : Sm M B := by rw [← eB]; exact a1.sI (by unfold scr; omega)
      have b2 : gI B 32 34 = nI (dr (dr seed)) := by rw [← eB, gI_s]
      have r2 := (h.2.1.2.2.2.2.2.2.2.2.2.2.2.1 t ht).2
      have bt : gI B 37 t = nI (nv (gI M 37 t)) := by rw [b1 37 t (by unfold scr; omega)]; exact r2.1
      have hr2 := r2.2
      have es : gI B 32 7 - 1 = nI (sT M - 1) := by rw [b1 32 7 (by unfold scr; omega), h.2.1.s.2.1, show (1 : Int32) = nI 1 from rfl, nI_sub (by omega)]
      have stop : sp_X11_nights_L76 K (n + 1) 0 (nI (nt left (2 ^ lb left))) (nI (shots + 1)) 1 (nI (t + 1)) B = K 0 (nI (shots + 1)) 1 B := by
        rw [sp_X11_nights_L76, if_pos (c := (0 : Int32) = 0) rfl, if_neg (c := (1 : Int32) = 0) i10]
        split <;> rfl
      rw [bt, jn_e, nI_p, nI_p, es]
      by_cases hd : dw (dr (dr seed)) < nv (gI M 37 t)
      · rw [if_pos ((nI_ltI (by omega) (by omega)).mpr hd), if_pos (Or.inr hd), stop]
        exact ⟨B, rfl, b1, b2⟩
      · rw [if_neg (by rw [nI_ltI (by omega) (by omega)]; exact hd)]
        by_cases hlast : t = sT M - 1
        · rw [if_pos (by rw [← hlast]), if_pos (Or.inl hlast), stop]
          exact ⟨B, rfl, b1, b2⟩
        · rw [if_neg (by rw [nI_eq (by omega) (by omega)]; exact hlast), if_neg (fun z => z.elim hlast hd)]
          exact hrec hlast B b1 b2
theorem mruL {i : Nat} {M : Mm} (h : Inv i M) (K : Int32 → Int32 → Int32 → Mm → Option (Int32 × Mm)) : ∀ f n seed left t shots Mx, seed < 2147483648 → left < 2 ^ nR M → t + (f + 1) = sT M → f + 1 < n → Sm M Mx → gI Mx 32 34 = nI seed → ∃ M', sp_X11_nights_L76 K n 0 (nI left) (nI shots) 0 (nI t) Mx = K (trn M (f + 1) seed left t shots).1 (nI (trn M (f + 1) seed left t shots).2.1) (trn M (f + 1) seed left t shots).2.2.1 M' ∧ Sm M M' ∧ gI M' 32 34 = nI (trn M (f + 1) seed left t shots).2.2.2 := by
  have n6 := h.2.2.1.n.1
  intro f
  induction f with
  | zero =>
    intro n seed left t shots Mx hs hl ht hf c e
    obtain ⟨n, rfl⟩ : ∃ g, n = g + 1 + 1 := ⟨n - 2, by omega⟩
    exact mst h K hs hl (by omega) c e (fun z => absurd (by omega) z)
  | succ f ih =>
    intro n seed left t shots Mx hs hl ht hf c e
    obtain ⟨n, rfl⟩ : ∃ g, n = g + 1 + 1 := ⟨n - 2, by omega⟩
    exact mst h K hs hl (by omega) c e (fun z Mx' c' e' => ih (n + 1) _ _ _ _ Mx' (dr_lt _) (Nat.lt_of_le_of_lt (nt_le' _ _) hl) (by omega) (by omega) c' e')
theorem trn_01 (M : Mm) : ∀ f s l t sh, s < 2147483648 → ((trn M f s l t sh).1 = 0 ∨ (trn M f s l t sh).1 = 1) ∧ ((trn M f s l t sh).2.2.1 = 0 ∨ (trn M f s l t sh).2.2.1 = 1) ∧ (trn M f s l t sh).2.2.2 < 2147483648
  | 0, _, _, _, _, hs => ⟨Or.inl rfl, Or.inl rfl, hs⟩
  | f + 1, s, l, t, sh, hs => by
    rw [trn]
    split
    · exact ⟨Or.inl rfl, Or.inl rfl, hs⟩
    · split
      · exact ⟨Or.inr rfl, Or.inl rfl, dr_lt _⟩
      · split
        · exact ⟨Or.inl rfl, Or.inr rfl, dr_lt _⟩
        · exact trn_01 M f _ _ _ _ (dr_lt _)
theorem Sm.gu' {M M' : Mm} (h : Sm M M') (d : Nat) : gu M' d = gu M d := by
  unfold gu; rw [h 36 0 (by unfold scr; omega), h 36 1 (by unfold scr; omega)]
theorem Sm.trn' {M M' : Mm} (h : Sm M M') : ∀ f s l t sh, trn M' f s l t sh = trn M f s l t sh
  | 0, _, _, _, _ => rfl
  | f + 1, s, l, t, sh => by
    rw [trn, trn, h.fa', h.rg', h.gu', h.sT', h 37 t (by unfold scr; omega), h.trn' f]
/-- the whole trial: a line that is made already ends it at once -/
def trr (M : Mm) (s : Nat) : Int32 × Nat × Int32 × Nat := if gI M 32 11 = 0 then trn M (sT M - nv (gI M 32 10) / 5) s (lfb M) (nv (gI M 32 10) / 5) 0 else (1, 0, 0, s)
theorem crun_e {i : Nat} {M : Mm} (h : Inv i M) (hn : ¬ gI M 32 7 = 0) (hb : gI M 32 12 = 0) {s : Nat} (hs : s < 2147483648) : ∃ M', sp_X9_run (nI s) M = some ((), M') ∧ Tc M M' (trr M s) := by
  have h6 := h.2.2.2.2.2.1
  have s10 := h.2.1.s.1
  obtain ⟨t1, t2⟩ := st_lt h.2.1 h6 hn
  have e1 : gI M 13 1 = gI M 32 11 := h6.2.2.2.2.1
  have e2 : gI M 13 2 = 0 := h6.2.2.2.2.2.2.1.trans hb
  have l01 := h6.2.2.2.1.b01
  unfold sp_X9_run trr
  generalize nv (gI M 32 10) / 5 = first at *
  rw [bl_e, bl_e, gI_o (by omega), gI_sJ, e1]
  unfold zb
  rw [if_pos l01, bl_e, gI_o (by omega), gI_o (by omega), gI_sJ, e2, if_pos (Or.inl rfl), bl_e]
  generalize eA : sI (sI (sI (sJ M 31 0 (nI s).toInt64) 31 1 0) 31 2 (gI M 32 11)) 31 3 0 = A
  have a1 : Sm M A := by rw [← eA]; exact ((Sm.sJ (Sm.rf M)).sI (by unfold scr; omega)).sI (by unfold scr; omega) |>.sI (by unfold scr; omega)
  have a2 : gI A 31 2 = gI M 32 11 := by rw [← eA, gI_o (by omega), gI_s]
  have a3 : gI A 31 1 = nI 0 := by rw [← eA, gI_o (by omega), gI_o (by omega), gI_s]; rfl
  have a4 : gI A 31 3 = 0 := by rw [← eA, gI_s]
  have a5 : gJ A 31 0 = nJ s := by rw [← eA, gJ_sI, gJ_sI, gJ_sI, gJ_sJ, if_pos ⟨rfl, rfl⟩, nI_J (by omega)]
  have ha := a1.inv h
  unfold sp_X1_stage
  rw [cleft_e ha.2.2.1 ha.2.2.2.2.2.1, bd_s, bd_s, a1.lfb', a1 13 0 (by unfold scr; omega), h6.2.2.1, t1]
  by_cases hl : gI M 32 11 = 0
  · rw [if_pos hl]
    exact cruL h (sT M - first) fu s (lfb M) first 0 A hs (lfb_lt M) (by omega) (by show _ < 1000; omega) ⟨a1, by rw [a2, hl], a3, a4, a5⟩
  · rw [if_neg hl]
    have hl1 : gI M 32 11 = 1 := l01.resolve_left hl
    refine ⟨A, ?_, a1, by rw [a2, hl1], a3, a4, a5⟩
    show sp_X9_run_L44 (999 + 1) _ _ A = _
    rw [sp_X9_run_L44, a2, if_neg hl]
    split <;> rfl
