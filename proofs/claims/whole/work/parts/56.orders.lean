/-! THE CALLS orders AND sure -/
theorem Sm.Aw' {M M' : Mm} (h : Sm M M') : Aw M' = Aw M := by
  funext m
  unfold Aw; rw [h.ahd', h 15 m (by unfold scr; omega)]
theorem Mp.iff {n : Nat} {Mx : Mm} {P Q : Nat → Nat → Prop} (h : Mp n Mx P) (e : ∀ m k, P m k ↔ Q m k) : Mp n Mx Q := fun m hm => by
  obtain ⟨b, b1, b2, b3⟩ := h m hm
  exact ⟨b, b1, b2, fun k hk => (b3 k hk).trans (e m k)⟩
theorem Mp.set {n : Nat} {A B : Mm} {P : Nat → Nat → Prop} (h : Mp n A P) (g : ∀ k, gI B 46 k = gI A 46 k) : Mp n B P := fun m hm => by
  obtain ⟨b, b1, b2, b3⟩ := h m hm
  exact ⟨b, b1, by rw [g]; exact b2, b3⟩
theorem lyL {M : Mm} (h4 : I_mn M) (h6 : I_cu M) : ∀ ps p cnt Mx nn P, ch (p :: ps) = true → (∀ q, q ∈ p :: ps → Pq (nM M) q) → Sm M Mx → Ro Mx (la p) (nM M) → Mp (nM M) Mx P → ps.length + 1 < nn → ∃ M', sp_X11_layOrders_L37 nn (nI cnt) 1 Mx = some (nI (cnt + (p :: ps).countP (okr (Aw M) 0)), M') ∧ Sm M M' ∧ Mp (nM M) M' (fun m k => P m k ∨ ∃ q, (q ∈ p :: ps ∧ okr (Aw M) 0 q = true) ∧ k < q.length ∧ la q k = m) := by
  have n6 := h4.n.1
  intro ps
  induction ps with
  | nil => ?_
  | cons p2 ps ih => ?_
  all_goals
    intro p cnt Mx n P hch hall sm hr mp hn
    obtain ⟨n, rfl⟩ : ∃ x, n = x + 1 := ⟨n - 1, by omega⟩
    obtain ⟨n, rfl⟩ : ∃ x, n = x + 1 := ⟨n - 1, by omega⟩
    have hp := hall p (List.mem_cons_self ..)
    have es := iss_e (sm.mn h4) (sm.cu h6) (q := p) (by rw [sm.nM']; exact hr) (by rw [sm.nM']; exact hp)
    rw [sm.Aw'] at es
    have step : ∃ My, (if bi (okr (Aw M) 0 p) = 0 then (fun (v1_84 : Int32) (M_84 : Mm) => bd (sp_X11_nextOrder M_84) (fun r85 M85 => sp_X11_layOrders_L37 (n + 1) v1_84 r85 M85)) (nI cnt) Mx else sp_X11_layOrders_L53 (fun (v1_84 : Int32) (M_84 : Mm) => bd (sp_X11_nextOrder M_84) (fun r85 M85 => sp_X11_layOrders_L37 (n + 1) v1_84 r85 M85)) (nI cnt) fu (0 : Int32) Mx) = bd (sp_X11_nextOrder My) (fun r85 M85 => sp_X11_layOrders_L37 (n + 1) (nI (cnt + [p].countP (okr (Aw M) 0))) r85 M85) ∧ Sm M My ∧ Ro My (la p) (nM M) ∧ Mp (nM M) My (fun m k => P m k ∨ (okr (Aw M) 0 p = true ∧ k < p.length ∧ la p k = m)) := by
      cases ho : okr (Aw M) 0 p with
      | false =>
        rw [if_pos (show bi false = 0 from rfl), List.countP_cons_of_neg (by rw [ho]; simp)]
        exact ⟨Mx, rfl, sm, hr, mp.iff (fun m k => ⟨Or.inl, fun z => z.elim id (fun y => absurd y.1 (by simp))⟩)⟩
      | true =>
        rw [if_neg (show ¬ bi true = 0 by decide), List.countP_cons_of_pos ho]
        obtain ⟨My, m1, m2, m3, m4⟩ := plcL n6 hp (fun (v1_84 : Int32) (M_84 : Mm) => bd (sp_X11_nextOrder M_84) (fun r85 M85 => sp_X11_layOrders_L37 (n + 1) v1_84 r85 M85)) (nI cnt) fu 0 Mx (Nat.zero_le _) (by show _ < 0 + 1000; omega) hr (mp.iff (fun m k => ⟨Or.inl, fun z => z.elim id (fun y => absurd y.1 (by omega))⟩))
        refine ⟨My, m1.trans ?_, fun c k hc => (m4 c k (fun z => hc (by unfold scr; omega))).trans (sm c k hc), m2, m3.iff (fun m k => ⟨fun z => z.imp_right (fun y => ⟨rfl, y⟩), fun z => z.imp_right (fun y => y.2)⟩)⟩
        rw [nI_p]
        rfl
    obtain ⟨My, s1, s2, s3, s4⟩ := step
    have pe' : ∀ k, k < p.length → la p k < 6 := fun k hk => by have := hp.2.1 k (by rw [← hp.1]; exact hk); omega
    have s3' : Ro My (la p) p.length := by rw [hp.1]; exact s3
    rw [sp_X11_layOrders_L37, if_neg i10, es, bd_s, jn_e, s1]
  · rw [nx_end s3' (by rw [hp.1]; exact n6) pe' hch, bd_s, sp_X11_layOrders_L37, if_pos rfl]
    refine ⟨My, rfl, s2, s4.iff (fun m k => ?_)⟩
    constructor
    · rintro (a | ⟨a, b, c⟩)
      · exact Or.inl a
      · exact Or.inr ⟨p, ⟨List.mem_cons_self .., a⟩, b, c⟩
    · rintro (a | ⟨q, ⟨a1, a2⟩, b, c⟩)
      · exact Or.inl a
      · have : q = p := by simpa using a1
        subst this
        exact Or.inr ⟨a2, b, c⟩
  · obtain ⟨Mz, z1, z2, z3, z4⟩ := nx_go s3' (by rw [hp.1]; exact n6) pe' hch
    have hp2 := hall p2 (List.mem_cons_of_mem _ (List.mem_cons_self ..))
    rw [hp2.1] at z2
    rw [z1, bd_s]
    obtain ⟨M', m1, m2, m3⟩ := ih p2 (cnt + [p].countP (okr (Aw M) 0)) Mz (n + 1) _ z4 (fun q hq => hall q (List.mem_cons_of_mem _ hq)) (fun c k hc => by rw [z3 c k (fun z => hc (by unfold scr; omega))]; exact s2 c k hc) z2 (s4.set (fun k => z3 46 k (by omega))) (by simp only [List.length_cons] at hn; omega)
    refine ⟨M', ?_, m2, m3.iff (fun m k => ?_)⟩
    · rw [m1, Nat.add_assoc, ← List.countP_append]
      rfl
    · constructor
      · rintro ((a | ⟨a, b, c⟩) | ⟨q, ⟨a1, a2⟩, b, c⟩)
        · exact Or.inl a
        · exact Or.inr ⟨p, ⟨List.mem_cons_self .., a⟩, b, c⟩
        · exact Or.inr ⟨q, ⟨List.mem_cons_of_mem _ a1, a2⟩, b, c⟩
      · rintro (a | ⟨q, ⟨a1, a2⟩, b, c⟩)
        · exact Or.inl (Or.inl a)
        · rcases List.mem_cons.mp a1 with e | e
          · subst e
            exact Or.inl (Or.inr ⟨a2, b, c⟩)
          · exact Or.inr ⟨q, ⟨e, a2⟩, b, c⟩
theorem zrL (K : Mm → Option (Int32 × Mm)) : ∀ f j Mx, j ≤ 6 → 6 < j + f → (∀ k, k < j → gI Mx 46 k = 0) → ∃ M', sp_X11_layOrders_L2 K f (nI j) Mx = K M' ∧ (∀ k, k < 6 → gI M' 46 k = 0) ∧ ∀ c k, c ≠ 46 → gI M' c k = gI Mx c k := by
  intro f
  induction f with
  | zero => intro j Mx a b; omega
  | succ f ih =>
    intro j Mx hj hf hz
    rw [sp_X11_layOrders_L2]
    by_cases y : j < 6
    · have l6 : nI j < (6 : Int32) := (nI_ltI (a := j) (b := 6) (by omega) (by decide)).mpr y
      rw [if_pos l6, wrI_n (show j < 6 by omega), nI_p]
      obtain ⟨M', m1, m2, m3⟩ := ih (j + 1) (sI Mx 46 j 0) (by omega) (by omega) (fun k hk => by
        by_cases z : k = j
        · rw [z, gI_s]
        · rw [gI_o (by omega)]; exact hz k (by omega))
      exact ⟨M', m1, m2, fun c k hc => (m3 c k hc).trans (gI_o (fun e => hc e.1))⟩
    · have l6 : ¬ nI j < (6 : Int32) := fun z => y ((nI_ltI (a := j) (b := 6) (by omega) (by decide)).mp z)
      have : j = 6 := by omega
      subst this
      rw [if_neg l6]
      exact ⟨Mx, rfl, hz, fun _ _ _ => rfl⟩
theorem lay_e {M : Mm} (h4 : I_mn M) (h6 : I_cu M) : ∃ M', sp_X11_layOrders M = some (nI (Rt (Aw M) (nM M) 0), M') ∧ Sm M M' ∧ Mp (nM M) M' (Pl M) := by
  obtain ⟨n6, n2, n3⟩ := h4.n
  have p64 := pw_64 n6
  have pp := Nat.two_pow_pos (nM M)
  unfold sp_X11_layOrders
  rw [jn_e]
  obtain ⟨M1, e1, e2, e3⟩ := zrL (fun (M_21 : Mm) => bd (sp_X11_firstOrder (((1 : Int32) <<< ((gI M_21 32 22) &&& 31)) - (1 : Int32)) M_21) (fun _ M30 => sp_X11_layOrders_L37 fu (0 : Int32) (1 : Int32) M30)) fu 0 M (by omega) (by show _ < 0 + 1000; omega) (fun k hk => by omega)
  have sm1 : Sm M M1 := fun c k hc => e3 c k (fun z => hc (by unfold scr; omega))
  have en : gI M1 32 22 = nI (nM M) := by rw [e3 32 22 (by omega)]; exact n2
  obtain ⟨M2, f1, f2, f3⟩ := first_e n6 (s := 2 ^ nM M - 1) (by omega) en
  obtain ⟨ps, g1, g2, g3, g4, g5⟩ := pm_ok (n := nM M) (s := 2 ^ nM M - 1) n6 (by omega)
  have hall : ∀ q, q ∈ mem6 (2 ^ nM M - 1) :: ps → Pq (nM M) q := fun q hq => pm_pq n6 (by rw [g1]; exact hq)
  have hl := (hall _ (List.mem_cons_self ..)).1
  rw [hl] at f2
  obtain ⟨M3, m1, m2, m3⟩ := lyL h4 h6 ps (mem6 (2 ^ nM M - 1)) 0 M2 fu (fun _ _ => False) g2 hall (Rr.sm sm1 f3) f2 (fun m hm => ⟨0, by omega, by rw [f3 46 m (by omega), e2 m (by omega)]; rfl, fun k hk => by rw [Nat.zero_testBit]; simp⟩) (by show _ < 1000; omega)
  have e0 : nt (2 ^ nM M - 1) 0 = 2 ^ nM M - 1 := (by decide +kernel : ∀ n, n ≤ 6 → nt (2 ^ n - 1) 0 = 2 ^ n - 1) _ n6
  have er : (mem6 (2 ^ nM M - 1) :: ps).countP (okr (Aw M) 0) = Rt (Aw M) (nM M) 0 := by
    unfold Rt
    rw [e0, ← cnt_e, g1]
  rw [Nat.zero_add, er] at m1
  refine ⟨M3, e1.trans ?_, m2, fun m hm => ?_⟩
  · rw [en, b_all _ n6, f1, bd_s]
    exact m1
  · obtain ⟨b, b1, b2, b3⟩ := m3 m hm
    refine ⟨b, b1, b2, fun k hk => (b3 k hk).trans ?_⟩
    dsimp only
    rw [false_or, ← g1, place_i (Aw M) n6 hm]
    constructor
    · rintro ⟨s, a1, a2, a3, a4, a5⟩
      exact ⟨s, ⟨a1, a2, a3, a4⟩, a5⟩
    · rintro ⟨s, ⟨a1, a2, a3, a4⟩, a5⟩
      exact ⟨s, a1, a2, a3, a4, a5⟩
theorem Bo_orders {i : Nat} {M : Mm} (h : Inv i M) (hz : I_z M) : Bo i M sp_X10_orders sp_X11_orders := by
  obtain ⟨M1, e1, e2⟩ := cors_e h.2.2.2.1 h.2.2.2.2.2.1
  have h1 := e2.inv h
  obtain ⟨M2, f1, f2, f3⟩ := lay_e h1.2.2.2.1 h1.2.2.2.2.2.1
  refine ⟨_, M1, M2, e1, ?_, (f2.inv h1).up, f2.z (e2.z hz)⟩
  unfold sp_X11_orders
  rw [f1, bd_s, e2.Aw', e2.nM']
theorem pl_6 {M : Mm} (h4 : I_mn M) {m k : Nat} (hm : m < nM M) (h : Pl M m k) : k < 6 := by
  have n6 := h4.n.1
  have p64 := pw_64 n6
  obtain ⟨s, hs, rfl⟩ := h
  have h1 := pc_or s (by have := hs.1; omega) m (by omega) (mfb_i.mp hs.2.1).1
  have h2 := pc_6 (s ||| 2 ^ m) (or_64 (by have := hs.1; omega) (p2_64 (by omega)))
  omega
theorem suR {M : Mm} {m b : Nat} (hm : m < 6) (b1 : b < 64) (b2 : gI M 46 m = nI b) {r : Int32} (hr : (∃ k, k < 6 ∧ b = 2 ^ k ∧ r = nI k) ∨ (r = -1 ∧ ∀ k, k < 6 → b ≠ 2 ^ k)) : ∀ f j, j ≤ 6 → 6 < j + f → (∀ k, k < j → b ≠ 2 ^ k) → sp_X11_sure_L18 M (nI m) f (nI j) = some (r, M) := by
  intro f
  induction f with
  | zero => intro j a c; omega
  | succ f ih =>
    intro j hj hf hne
    rw [sp_X11_sure_L18]
    by_cases y : j < 6
    · have l6 : nI j < (6 : Int32) := (nI_ltI (a := j) (b := 6) (by omega) (by decide)).mpr y
      have p6 := p2_64 y
      rw [if_pos l6, rdI_n (show m < 6 by omega), b2, b_one j y, nI_p]
      by_cases e : b = 2 ^ j
      · rw [if_pos (by rw [e])]
        rcases hr with ⟨k, k1, k2, k3⟩ | ⟨k1, k2⟩
        · have : k = j := by
            have z := congrArg (fun x => Nat.testBit x j) (k2.symm.trans e)
            rw [tb_p, tb_p, decide_eq_true (rfl : j = j)] at z
            exact of_decide_eq_true z
          rw [k3, this]
        · exact absurd e (k2 j y)
      · rw [if_neg (by rw [nI_eq (by omega) (by omega)]; exact e)]
        refine ih (j + 1) (by omega) (by omega) (fun k hk => ?_)
        by_cases z : k = j
        · rw [z]; exact e
        · exact hne k (by omega)
    · have l6 : ¬ nI j < (6 : Int32) := fun z => y ((nI_ltI (a := j) (b := 6) (by omega) (by decide)).mp z)
      rw [if_neg l6]
      rcases hr with ⟨k, k1, k2, k3⟩ | ⟨k1, k2⟩
      · exact absurd k2 (hne k (by omega))
      · rw [k1]
theorem Bo_sure {i : Nat} {M : Mm} (h : Inv i M) (hz : I_z M) (p : Int32) : Bo i M (sp_X10_sure p) (sp_X11_sure p) := by
  have h4 := h.2.2.2.1
  have n6 := h4.n.1
  by_cases hp : ∃ j, j < nM M ∧ p = nI j
  · obtain ⟨m, hm, rfl⟩ := hp
    obtain ⟨r, M1, e1, e2, e3⟩ := csur_e h4 h.2.2.2.2.2.1 hm
    have h1 := e2.inv h
    obtain ⟨M2, f1, f2, f3⟩ := lay_e h1.2.2.2.1 h1.2.2.2.2.2.1
    have ePl : Pl M1 m = Pl M m := by
      funext k
      unfold Pl Qs
      rw [e2.Aw', e2.nM']
    obtain ⟨b, b1, b2, b3⟩ := f3 m (by rw [e2.nM']; exact hm)
    rw [ePl] at b3
    refine ⟨r, M1, M2, ?_, ?_, (f2.inv h1).up, f2.z (e2.z hz)⟩
    · unfold sp_X10_sure
      rw [mhas_1 h4 hm, bd_s, if_neg i10]
      exact e1
    · unfold sp_X11_sure
      rw [isM_1 h1.2.2.2.1 (by rw [e2.nM']; exact hm), bd_s, if_neg i10, f1, bd_s]
      refine suR (by omega) b1 b2 ?_ fu 0 (by omega) (by show _ < 0 + 1000; omega) (fun k hk => by omega)
      rcases e3 with ⟨k, k1, k2, k3⟩ | ⟨k1, k2⟩
      · have k6 := pl_6 h4 hm k2
        refine Or.inl ⟨k, k6, ?_, k1⟩
        apply Nat.eq_of_testBit_eq
        intro j
        rw [tb_p, Bool.eq_iff_iff, decide_eq_true_iff]
        constructor
        · intro hb
          exact (k3 j ((b3 j (tb_6 b1 hb)).mp hb)).symm
        · intro e
          rw [← e]
          exact (b3 k k6).mpr k2
      · refine Or.inr ⟨k1, fun k k6 e => ?_⟩
        have un : ∀ j, Pl M m j → j = k := fun j hj => by
          have := (b3 j (pl_6 h4 hm hj)).mpr hj
          rw [e, tb_p] at this
          exact (of_decide_eq_true this).symm
        have hk : Pl M m k := (b3 k k6).mp (by rw [e, tb_p]; simp)
        rcases k2 with k2 | ⟨x, y, x1, y1, xy⟩
        · exact k2 k hk
        · exact xy (by rw [un x x1, un y y1])
  · refine Bo_same h hz (-101) ?_ ?_
    · unfold sp_X10_sure; rw [mhas_0 h4 hp, bd_s, if_pos rfl]
    · unfold sp_X11_sure; rw [isM_0 h4 hp, bd_s, if_pos rfl]
