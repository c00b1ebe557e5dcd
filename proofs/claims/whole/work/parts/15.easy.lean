/-! THE CALLS: man, as, behind, said -/
theorem or_lt {a b n : Nat} (ha : a ≤ 2 ^ n - 1) (hb : b < n) : a ||| 2 ^ b ≤ 2 ^ n - 1 := by
  have h1 : a < 2 ^ n := by have := Nat.two_pow_pos n; omega
  have h2 : 2 ^ b < 2 ^ n := Nat.pow_lt_pow_right (by decide) hb
  have := Nat.or_lt_two_pow h1 h2
  omega
theorem p2_64 {b : Nat} (h : b < 6) : 2 ^ b < 64 := Nat.pow_lt_pow_right (a := 2) (m := b) (n := 6) (by decide) h
theorem nt_le (a b : Nat) : nt a b ≤ a := Nat.and_le_left
theorem Bo_man {i : Nat} {M : Mm} (h : Inv i M) (hz : I_z M) (hi : i < 1000) (p q : Int32) : Bo i M (sp_X10_man p q) (sp_X11_man p q) := by
  obtain ⟨h1, h2, h3, h4, h5, h6, h7⟩ := id h
  obtain ⟨a1, a2, a3⟩ := h4.n
  by_cases hp : (0 : Int) ≤ p.toInt ∧ p.toInt ≤ 4
  · by_cases hq : (1 : Int) ≤ q.toInt ∧ q.toInt ≤ 30
    · by_cases hn : gI M 32 7 = 0
      · refine Bo_same h hz (-103) ?_ ?_
        · unfold sp_X10_man; rw [out_0 (x := 0) (y := 4) rfl rfl hp, bd_s, if_pos rfl, out_0 (x := 1) (y := 30) rfl rfl hq, bd_s, if_pos rfl, hasN_0 h2 hi hn, bd_s, if_pos rfl]
        · unfold sp_X11_man; rw [in_1 (x := 0) (y := 4) rfl rfl hp, bd_s, if_neg i10, in_1 (x := 1) (y := 30) rfl rfl hq, bd_s, if_neg i10, lacks_1 hn, bd_s, if_neg i10]
      · rcases Nat.lt_or_ge (nM M) 6 with hlt | hge
        · generalize en : nM M = n at *
          have ag : ∀ c k, ¬ (c = 10 ∨ c = 11 ∨ (c = 9 ∧ k = 0) ∨ (c = 41 ∧ 3 * n ≤ k ∧ k ≤ 3 * n + 2) ∨ (c = 42 ∧ k = n) ∨ (c = 32 ∧ k = 22)) → gI (sI (sI (sI (sI (sI (sI (sI (sI M 10 n p) 11 n q) 9 0 (nI (n + 1))) 41 (3 * n) p) 41 (3 * n + 1) q) 41 (3 * n + 2) (-1)) 42 n 0) 32 22 (nI (n + 1))) c k = gI M c k := by
            intro c k hx
            rw [gI_o (by omega), gI_o (by omega), gI_o (by omega), gI_o (by omega), gI_o (by omega), gI_o (by omega), gI_o (by omega), gI_o (by omega)]
          have e1 : nM (sI (sI (sI (sI (sI (sI (sI (sI M 10 n p) 11 n q) 9 0 (nI (n + 1))) 41 (3 * n) p) 41 (3 * n + 1) q) 41 (3 * n + 2) (-1)) 42 n 0) 32 22 (nI (n + 1))) = n + 1 := by
            unfold nM; rw [gI_s, nv_n (by omega)]
          refine ⟨nI n, sI (sI (sI M 10 n p) 11 n q) 9 0 (nI (n + 1)), _, ?_, ?_, h.set _ ag (Or.inl ?_) (Or.inl ?_) (Or.inl ?_) (Or.inr ?mn) (Or.inl ?_) (Or.inr ?cu) (Or.inr ?kp), ?z⟩
          · unfold sp_X10_man
            rw [out_0 (x := 0) (y := 4) rfl rfl hp, bd_s, if_pos rfl, out_0 (x := 1) (y := 30) rfl rfl hq, bd_s, if_pos rfl, hasN_1 h2 hi hn, bd_s, if_neg i10, a3, if_pos (c_lt 6 6 rfl hlt (by decide))]
            unfold sp_X2_add
            rw [a3, put_n (show n < 6 from hlt), bd_s]
            simp only [gI_sI, gJ_sI, gI_sJ, gJ_sJ, bl_e, bd_s, jn_e, Nat.reduceEqDiff, Nat.zero_ne_one, Nat.one_ne_zero, false_and, and_false, and_true, true_and, and_self, if_true, if_false, reduceIte, a3]
            rw [put_n (show n < 6 from hlt)]
            simp only [gI_sI, gJ_sI, gI_sJ, gJ_sJ, bl_e, bd_s, jn_e, Nat.reduceEqDiff, Nat.zero_ne_one, Nat.one_ne_zero, false_and, and_false, and_true, true_and, and_self, if_true, if_false, reduceIte, a3, nI_p, nI_pred, nI_1]
          · unfold sp_X11_man
            rw [in_1 (x := 0) (y := 4) rfl rfl hp, bd_s, if_neg i10, in_1 (x := 1) (y := 30) rfl rfl hq, bd_s, if_neg i10, lacks_0 (by simp only [gI_sI, gJ_sI, gI_sJ, gJ_sJ, bl_e, bd_s, jn_e, Nat.reduceEqDiff, Nat.zero_ne_one, Nat.one_ne_zero, false_and, and_false, and_true, true_and, and_self, if_true, if_false, reduceIte]; exact hn), bd_s, if_pos rfl]
            simp only [gI_sI, gJ_sI, gI_sJ, gJ_sJ, bl_e, bd_s, jn_e, Nat.reduceEqDiff, Nat.zero_ne_one, Nat.one_ne_zero, false_and, and_false, and_true, true_and, and_self, if_true, if_false, reduceIte, a2]
            rw [if_neg (c_ne 6 6 rfl (by omega) (by omega) (by decide)), nI_30, wrI_n (show 3 * n < 18 by omega)]
            simp only [gI_sI, gJ_sI, gI_sJ, gJ_sJ, bl_e, bd_s, jn_e, Nat.reduceEqDiff, Nat.zero_ne_one, Nat.one_ne_zero, false_and, and_false, and_true, true_and, and_self, if_true, if_false, reduceIte, a2]
            rw [nI_31, wrI_n (show 3 * n + 1 < 18 by omega)]
            simp only [gI_sI, gJ_sI, gI_sJ, gJ_sJ, bl_e, bd_s, jn_e, Nat.reduceEqDiff, Nat.zero_ne_one, Nat.one_ne_zero, false_and, and_false, and_true, true_and, and_self, if_true, if_false, reduceIte, a2]
            rw [nI_32, wrI_n (show 3 * n + 2 < 18 by omega)]
            simp only [gI_sI, gJ_sI, gI_sJ, gJ_sJ, bl_e, bd_s, jn_e, Nat.reduceEqDiff, Nat.zero_ne_one, Nat.one_ne_zero, false_and, and_false, and_true, true_and, and_self, if_true, if_false, reduceIte, a2]
            rw [wrI_n (show n < 6 from hlt)]
            simp only [gI_sI, gJ_sI, gI_sJ, gJ_sJ, bl_e, bd_s, jn_e, Nat.reduceEqDiff, Nat.zero_ne_one, Nat.one_ne_zero, false_and, and_false, and_true, true_and, and_self, if_true, if_false, reduceIte, a2, nI_p, nI_pred]
          case mn =>
            unfold I_mn at h4 ⊢
            rw [e1]
            rw [en] at h4
            simp only [gI_sI, gJ_sI, gI_sJ, gJ_sJ, bl_e, bd_s, jn_e, Nat.reduceEqDiff, Nat.zero_ne_one, Nat.one_ne_zero, false_and, and_false, and_true, true_and, and_self, if_true, if_false, reduceIte]
            obtain ⟨g1, g2, g3, g4⟩ := h4
            obtain ⟨pj, p1, p2, rfl⟩ := nI_of_rng (a := 0) (b := 4) hp.1 hp.2 (by decide)
            obtain ⟨qj, q1, q2, rfl⟩ := nI_of_rng (a := 1) (b := 30) hq.1 hq.2 (by decide)
            refine ⟨Nb_n (by omega) (by decide), fun m hm => ?_, fun m m1 m2 => g4 m (by omega) m2⟩
            by_cases e : m = n
            · subst e
              simp only [if_true]
              rw [if_neg (by omega), if_neg (by omega), if_neg (by omega)]
              exact ⟨rfl, Nb_n p2 (by decide), rfl, Nb_n q2 (by decide), g4 m (Nat.le_refl _) hlt, Nb_0 (by have := pw_64 (a := m + 1) (by omega); omega)⟩
            · rw [if_neg e, if_neg e, if_neg e, if_neg (by omega), if_neg (by omega), if_neg (by omega), if_neg (by omega), if_neg (by omega), if_neg (by omega)]
              obtain ⟨y1, y2, y3, y4, y5, y6⟩ := g3 m (by omega)
              exact ⟨y1, y2, y3, y4, y5, y6.up (pw_le (Nat.le_succ n))⟩
          case cu =>
            unfold I_cu I_co at h6 ⊢
            rw [e1]
            rw [en] at h6
            unfold sT nR at *
            simp only [gI_sI, gJ_sI, gI_sJ, gJ_sJ, bl_e, bd_s, jn_e, Nat.reduceEqDiff, Nat.zero_ne_one, Nat.one_ne_zero, false_and, and_false, and_true, true_and, and_self, if_true, if_false, reduceIte]
            obtain ⟨g1, g2, g3, g4, g5, g6, g7, g8, g9, g10, g11, g12, g13, g14, g15, g16, g17, g18, g19⟩ := h6
            refine ⟨g1, g2, g3, g4, g5, g6, g7, g8, g9, g10, g11, g12.up (pw_le (Nat.le_succ n)), fun m hm => ?_, g14, g15, fun k hk => ?_, fun b hb => ?_, fun b b1 b2 => g18 b (by omega) b2, g19⟩
            · by_cases e : m = n
              · subst e
                rw [tb_0 g12]
                simp
              · simp only [show ¬ (3 * m = 3 * n) by omega, show ¬ (3 * m + 1 = 3 * n) by omega, show ¬ (3 * m + 2 = 3 * n) by omega, if_false]
                exact g13 m (by omega)
            · obtain ⟨a, b, y1, y2, y3⟩ := g16 k hk
              exact ⟨a, b, by omega, by omega, y3⟩
            · by_cases e : b = n
              · subst e
                rw [g18 b (Nat.le_refl _) hlt]
                refine ⟨Nb_0 (by have := pw_64 (a := b + 1) (by omega); omega), fun a _ => ?_⟩
                constructor
                · intro z; simp [nv] at z
                · rintro ⟨k, y1, y2, y3⟩
                  obtain ⟨a', b', w1, w2, w3, w4, w5⟩ := g16 k y1
                  rw [w5] at y3
                  have := (nI_eq (by omega) (by omega)).mp y3
                  omega
              · refine ⟨(g17 b (by omega)).1.up (pw_le (Nat.le_succ n)), fun a ha => ?_⟩
                by_cases ea : a = n
                · subst ea
                  rw [tb_0 (g17 b (by omega)).1]
                  constructor
                  · intro z; cases z
                  · rintro ⟨k, y1, y2, y3⟩
                    obtain ⟨a', b', w1, w2, w3, w4, w5⟩ := g16 k y1
                    rw [w4] at y2
                    have := (nI_eq (by omega) (by omega)).mp y2
                    omega
                · exact (g17 b (by omega)).2 a (by omega)
          case kp =>
            unfold I_kp at h7 ⊢
            rw [e1]
            rw [en] at h7
            unfold nR at *
            simp only [gI_sI, gJ_sI, gI_sJ, gJ_sJ, bl_e, bd_s, jn_e, Nat.reduceEqDiff, Nat.zero_ne_one, Nat.one_ne_zero, false_and, and_false, and_true, true_and, and_self, if_true, if_false, reduceIte]
            refine h7.imp id (fun ⟨g1, g2, g3, g4, g5, g6⟩ => ⟨g1, g2, g3, g4, g5, fun z => ?_⟩)
            obtain ⟨y1, y2, y3⟩ := g6 z
            refine ⟨y1, y2.up (Nat.le_succ _), fun _ w => ?_⟩
            obtain ⟨m, hm, em⟩ := y2.get
            rw [em] at w
            have := (nI_eq (by omega) (by omega)).mp w
            omega
          case z => intro w; simp only [gI_sI, gJ_sI, gI_sJ, gJ_sJ, bl_e, bd_s, jn_e, Nat.reduceEqDiff, Nat.zero_ne_one, Nat.one_ne_zero, false_and, and_false, and_true, true_and, and_self, if_true, if_false, reduceIte] at w; exact absurd w hn
          all_goals (intro c k hx; first | (unfold F_pg; omega) | (unfold F_nt; omega) | (unfold F_rk; omega) | (unfold F_mn; omega) | (unfold F_dn; omega) | (unfold F_cu; omega) | (unfold F_kp; omega) | (unfold F_z; omega))
        · refine Bo_same h hz (-104) ?_ ?_
          · unfold sp_X10_man; rw [out_0 (x := 0) (y := 4) rfl rfl hp, bd_s, if_pos rfl, out_0 (x := 1) (y := 30) rfl rfl hq, bd_s, if_pos rfl, hasN_1 h2 hi hn, bd_s, if_neg i10, a3, if_neg (c_nlt 6 6 rfl hge (by omega))]
          · unfold sp_X11_man; rw [in_1 (x := 0) (y := 4) rfl rfl hp, bd_s, if_neg i10, in_1 (x := 1) (y := 30) rfl rfl hq, bd_s, if_neg i10, lacks_0 hn, bd_s, if_pos rfl, a2, if_pos (by rw [show nM M = 6 by omega]; rfl)]
    · refine Bo_same h hz (-102) ?_ ?_
      · unfold sp_X10_man; rw [out_0 (x := 0) (y := 4) rfl rfl hp, bd_s, if_pos rfl, out_1 (x := 1) (y := 30) rfl rfl hq, bd_s, if_neg i10]
      · unfold sp_X11_man; rw [in_1 (x := 0) (y := 4) rfl rfl hp, bd_s, if_neg i10, in_0 (x := 1) (y := 30) rfl rfl hq, bd_s, if_pos rfl]
  · refine Bo_same h hz (-102) ?_ ?_
    · unfold sp_X10_man; rw [out_1 (x := 0) (y := 4) rfl rfl hp, bd_s, if_neg i10]
    · unfold sp_X11_man; rw [in_0 (x := 0) (y := 4) rfl rfl hp, bd_s, if_pos rfl]
theorem kind_e {M : Mm} (h : I_mn M) {m : Nat} (hm : m < nM M) : sp_X2_kind (nI m) M = some (gI M 41 (3 * m), M) := by
  have := h.n.1
  unfold sp_X2_kind
  rw [at_n (show m < 6 by omega), bd_s, (h.2.2.1 m hm).1]
theorem weight_e {M : Mm} (h : I_mn M) {m : Nat} (hm : m < nM M) : sp_X2_weight (nI m) M = some (gI M 41 (3 * m + 1), M) := by
  have := h.n.1
  unfold sp_X2_weight
  rw [at_n (show m < 6 by omega), bd_s, (h.2.2.1 m hm).2.2.1]
theorem Bo_as {i : Nat} {M : Mm} (h : Inv i M) (hz : I_z M) (p q : Int32) : Bo i M (sp_X10_as p q) (sp_X11_as p q) := by
  obtain ⟨h1, h2, h3, h4, h5, h6, h7⟩ := id h
  have a1 := h4.n.1
  by_cases hp : ∃ j, j < nM M ∧ p = nI j
  · obtain ⟨j, hj, rfl⟩ := hp
    by_cases hq : (0 : Int) ≤ q.toInt ∧ q.toInt ≤ 4
    · refine Bo_same h hz (if q = 0 ∨ q = gI M 41 (3 * j) ∨ (q = 2 ∧ gI M 41 (3 * j) = 4) then nI j else -1) ?_ ?_
      · unfold sp_X10_as
        rw [mhas_1 h4 hj, bd_s, if_neg i10, out_0 (x := 0) (y := 4) rfl rfl hq, bd_s, if_pos rfl]
        unfold sp_X2_isOf
        rw [kind_e h4 hj, bd_s]
        by_cases c1 : q = 0
        · rw [if_pos c1, if_pos (Or.inl c1), bd_s, if_neg i10]
        · by_cases c2 : q = gI M 41 (3 * j)
          · rw [if_neg c1, if_pos c2, if_pos (Or.inr (Or.inl c2)), bd_s, if_neg i10]
          · by_cases c3 : q = 2
            · by_cases c4 : gI M 41 (3 * j) = 4
              · rw [if_neg c1, if_neg c2, if_pos c3, if_pos c4, if_pos (Or.inr (Or.inr ⟨c3, c4⟩)), bd_s, if_neg i10]
              · rw [if_neg c1, if_neg c2, if_pos c3, if_neg c4, if_neg (fun z => z.elim c1 (fun z => z.elim c2 (fun z => c4 z.2))), bd_s, if_pos rfl]
            · rw [if_neg c1, if_neg c2, if_neg c3, if_neg (fun z => z.elim c1 (fun z => z.elim c2 (fun z => c3 z.1))), bd_s, if_pos rfl]
      · unfold sp_X11_as
        rw [isM_1 h4 hj, bd_s, if_neg i10, in_1 (x := 0) (y := 4) rfl rfl hq, bd_s, if_neg i10, nI_30, rdI_n (show 3 * j < 18 by omega)]
        simp only [jn_e]
        by_cases c1 : q = 0
        · simp [c1]
        · by_cases c2 : q = gI M 41 (3 * j)
          · simp [← c2]
          · by_cases c3 : q = 2
            · by_cases c4 : gI M 41 (3 * j) = 4
              · simp [c1, c2, c3, c4]
              · simp [c1, c2, c4]
            · simp [c1, c2, c3]
    · refine Bo_same h hz (-102) ?_ ?_
      · unfold sp_X10_as; rw [mhas_1 h4 hj, bd_s, if_neg i10, out_1 (x := 0) (y := 4) rfl rfl hq, bd_s, if_neg i10]
      · unfold sp_X11_as; rw [isM_1 h4 hj, bd_s, if_neg i10, in_0 (x := 0) (y := 4) rfl rfl hq, bd_s, if_pos rfl]
  · refine Bo_same h hz (-101) ?_ ?_
    · unfold sp_X10_as; rw [mhas_0 h4 hp, bd_s, if_pos rfl]
    · unfold sp_X11_as; rw [isM_0 h4 hp, bd_s, if_pos rfl]
theorem two_1 {M : Mm} (h : I_mn M) {a b : Nat} (ha : a < nM M) (hb : b < nM M) (hab : a ≠ b) : sp_X10_areTwoMen (nI a) (nI b) M = some (1, M) := by
  have := h.n.1
  unfold sp_X10_areTwoMen
  rw [if_neg (fun z => hab ((nI_eq (by omega) (by omega)).mp z)), mhas_1 h ha, bd_s, if_neg i10, mhas_1 h hb, bd_s, if_neg i10]
theorem two_0 {M : Mm} (h : I_mn M) {p q : Int32} (hp : ¬ ∃ a b, a < nM M ∧ b < nM M ∧ a ≠ b ∧ p = nI a ∧ q = nI b) : sp_X10_areTwoMen p q M = some (0, M) := by
  unfold sp_X10_areTwoMen
  by_cases e : p = q
  · rw [if_pos e]
  · rw [if_neg e]
    by_cases ha : ∃ a, a < nM M ∧ p = nI a
    · obtain ⟨a, ha, rfl⟩ := ha
      rw [mhas_1 h ha, bd_s, if_neg i10]
      by_cases hb : ∃ b, b < nM M ∧ q = nI b
      · obtain ⟨b, hb, rfl⟩ := hb
        exact absurd ⟨a, b, ha, hb, fun z => e (by rw [z]), rfl, rfl⟩ hp
      · rw [mhas_0 h hb, bd_s, if_pos rfl]
    · rw [mhas_0 h ha, bd_s, if_pos rfl]
theorem bitv (b : Bool) : (if b = true then (1 : Int32) else 0) = 0 ∨ (if b = true then (1 : Int32) else 0) = 1 := by cases b <;> simp
theorem Bo_behind {i : Nat} {M : Mm} (h : Inv i M) (hz : I_z M) (p q r : Int32) : Bo i M (sp_X10_behind p q r) (sp_X11_behind p q r) := by
  obtain ⟨h1, h2, h3, h4, h5, h6, h7⟩ := id h
  have a1 := h4.n.1
  by_cases hp : ∃ a b, a < nM M ∧ b < nM M ∧ a ≠ b ∧ p = nI a ∧ q = nI b
  · obtain ⟨a, b, ha, hb, hab, rfl, rfl⟩ := hp
    obtain ⟨y1, y2, y3, y4, y5, y6⟩ := h4.2.2.1 a ha
    obtain ⟨w, hw, ew⟩ := y6.get
    have p64 := pw_64 a1
    have hw64 : w < 64 := by omega
    have ewc : gI M 12 a = nI w := y5.trans ew
    have hnew : ∃ v, v ≤ 2 ^ nM M - 1 ∧ (if r = 0 then nI w &&& (((1 : Int32) <<< (nI b &&& 31)) ^^^ (-1 : Int32)) else nI w ||| ((1 : Int32) <<< (nI b &&& 31))) = nI v := by
      by_cases hr : r = 0
      · refine ⟨nt w (2 ^ b), Nat.le_trans (nt_le _ _) hw, ?_⟩
        rw [if_pos hr, b_one b (by omega), b_nt w hw64 (2 ^ b) (p2_64 (by omega))]
      · refine ⟨w ||| 2 ^ b, or_lt hw hb, ?_⟩
        rw [if_neg hr, b_one b (by omega), b_or w hw64 (2 ^ b) (p2_64 (by omega))]
    obtain ⟨v, hv, ev⟩ := hnew
    have ag : ∀ c k, ¬ ((c = 12 ∧ k = a) ∨ (c = 42 ∧ k = a)) → gI (sI (sI M 12 a (nI v)) 42 a (nI v)) c k = gI M c k := by
      intro c k hx
      rw [gI_o (by omega), gI_o (by omega)]
    refine ⟨if w.testBit b then 1 else 0, sI M 12 a (nI v), sI (sI M 12 a (nI v)) 42 a (nI v), ?_, ?_, h.set _ ag (Or.inl ?_) (Or.inl ?_) (Or.inl ?_) (Or.inr ?mn) (Or.inl ?_) (Or.inl ?_) (Or.inl ?_), hz.set _ ag ?_⟩
    · unfold sp_X10_behind
      rw [two_1 h4 ha hb hab, bd_s, if_neg i10]
      unfold sp_X2_putBehind
      rw [at_n (show a < 6 by omega), bd_s, jn_e, ewc]
      have e2 : ∀ (M1 : Mm), (bd (sp_X10_isIn (nI w) (nI b) M1) fun r40 M40 => zb r40 (some (r40, M40))) = some (if w.testBit b then 1 else 0, M1) := by
        intro M1
        unfold sp_X10_isIn
        rw [b_bit w hw64 b (by omega)]
        cases w.testBit b <;> rfl
      have e3 : (bd (some (if w.testBit b = true then (1 : Int32) else 0, sI M 12 a (nI v))) fun r19 M19 => bd (sp_X10_asNumber r19 M19) fun r22 M22 => some (r22, M22)) = some (if w.testBit b then 1 else 0, sI M 12 a (nI v)) := by
        cases w.testBit b <;> rfl
      by_cases hr : r = 0
      · rw [if_pos hr] at ev ⊢
        unfold sp_X10_without
        rw [bd_s, ev]
        dsimp only
        rw [put_n (show a < 6 by omega), bd_s, e2, e3]
      · rw [if_neg hr] at ev ⊢
        unfold sp_X10_with
        rw [bd_s, ev]
        dsimp only
        rw [put_n (show a < 6 by omega), bd_s, e2, e3]
    · have h4' : I_mn (sI M 12 a (nI v)) → True := fun _ => trivial
      have eM : ∀ p', sp_X11_isMan p' (sI M 12 a (nI v)) = bd (sp_X11_isMan p' M) (fun r _ => some (r, sI M 12 a (nI v))) := by
        intro p'
        unfold sp_X11_isMan sp_X11_in
        simp only [gI_sI, gJ_sI, gI_sJ, gJ_sJ, bl_e, bd_s, jn_e, Nat.reduceEqDiff, Nat.zero_ne_one, Nat.one_ne_zero, false_and, and_false, and_true, true_and, and_self, if_true, if_false, reduceIte]
        by_cases z1 : p'.toInt64 < 0
        · simp only [z1, if_true, bd_s]; rfl
        · by_cases z2 : (gI M 32 22 - 1).toInt64 < p'.toInt64
          · simp only [z1, z2, if_true, if_false, bd_s]; rfl
          · simp only [z1, z2, if_false, bd_s]; rfl
      unfold sp_X11_behind
      rw [eM, isM_1 h4 ha, bd_s, bd_s, if_neg i10, eM, isM_1 h4 hb, bd_s, bd_s, if_neg i10, if_neg (fun z => hab ((nI_eq (by omega) (by omega)).mp z)), rdI_n (show a < 6 by omega), bl_e]
      simp only [gI_sI, gJ_sI, gI_sJ, gJ_sJ, bl_e, bd_s, jn_e, Nat.reduceEqDiff, Nat.zero_ne_one, Nat.one_ne_zero, false_and, and_false, and_true, true_and, and_self, if_true, if_false, reduceIte, ew]
      rw [b_bit w hw64 b (by omega)]
      by_cases hr : r = 0
      · rw [if_pos hr] at ev ⊢
        rw [rdI_n (show a < 6 by omega)]
        simp only [gI_sI, gJ_sI, gI_sJ, gJ_sJ, bl_e, bd_s, jn_e, Nat.reduceEqDiff, Nat.zero_ne_one, Nat.one_ne_zero, false_and, and_false, and_true, true_and, and_self, if_true, if_false, reduceIte, ew]
        rw [ev, wrI_n (show a < 6 by omega)]
      · rw [if_neg hr] at ev ⊢
        rw [rdI_n (show a < 6 by omega)]
        simp only [gI_sI, gJ_sI, gI_sJ, gJ_sJ, bl_e, bd_s, jn_e, Nat.reduceEqDiff, Nat.zero_ne_one, Nat.one_ne_zero, false_and, and_false, and_true, true_and, and_self, if_true, if_false, reduceIte, ew]
        rw [ev, wrI_n (show a < 6 by omega)]
    case mn =>
      unfold I_mn at h4 ⊢
      unfold nM at *
      simp only [gI_sI, gJ_sI, gI_sJ, gJ_sJ, bl_e, bd_s, jn_e, Nat.reduceEqDiff, Nat.zero_ne_one, Nat.one_ne_zero, false_and, and_false, and_true, true_and, and_self, if_true, if_false, reduceIte]
      obtain ⟨g1, g2, g3, g4⟩ := h4
      refine ⟨g1, g2, fun m hm => ?_, fun m m1 m2 => ?_⟩
      · by_cases e : m = a
        · subst e
          simp only [if_true]
          exact ⟨y1, y2, y3, y4, trivial, Nb_n hv (by omega)⟩
        · simp only [e, if_false]
          exact g3 m hm
      · rw [if_neg (by omega)]
        exact g4 m m1 m2
    all_goals (intro c k hx; first | (unfold F_pg; omega) | (unfold F_nt; omega) | (unfold F_rk; omega) | (unfold F_mn; omega) | (unfold F_dn; omega) | (unfold F_cu; omega) | (unfold F_kp; omega) | (unfold F_z; omega))
  · refine Bo_same h hz (-101) ?_ ?_
    · unfold sp_X10_behind; rw [two_0 h4 hp, bd_s, if_pos rfl]
    · unfold sp_X11_behind
      by_cases ha : ∃ a, a < nM M ∧ p = nI a
      · obtain ⟨a, ha, rfl⟩ := ha
        rw [isM_1 h4 ha, bd_s, if_neg i10]
        by_cases hb : ∃ b, b < nM M ∧ q = nI b
        · obtain ⟨b, hb, rfl⟩ := hb
          rw [isM_1 h4 hb, bd_s, if_neg i10, if_pos]
          by_cases e : nI a = nI b
          · exact e
          · exact absurd ⟨a, b, ha, hb, fun z => e (by rw [z]), rfl, rfl⟩ hp
        · rw [isM_0 h4 hb, bd_s, if_pos rfl]
      · rw [isM_0 h4 ha, bd_s, if_pos rfl]
