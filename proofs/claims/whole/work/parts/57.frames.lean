/-! THE CALL digest: laying rows doesn't touch the hash -/
def JK {α : Type} (J : Nat → Nat → Int64) (o : Option (α × Mm)) : Prop := ∀ r, o = some r → r.2.2 = J
theorem JK.so {α : Type} {J : Nat → Nat → Int64} {a : α} {M : Mm} (h : M.2 = J) : JK J (some (a, M)) := fun r e => by rw [← Option.some.inj e]; exact h
theorem JK.no {α : Type} {J : Nat → Nat → Int64} : JK J (none : Option (α × Mm)) := fun r e => absurd e (by simp)
theorem JK.it {α : Type} {J : Nat → Nat → Int64} {c : Prop} [Decidable c] {a b : Option (α × Mm)} (h1 : JK J a) (h2 : JK J b) : JK J (if c then a else b) := by
  by_cases h : c
  · rw [if_pos h]; exact h1
  · rw [if_neg h]; exact h2
theorem JK.bd {α β : Type} {J : Nat → Nat → Int64} {o : Option (α × Mm)} {k : α → Mm → Option (β × Mm)} (h1 : JK J o) (h2 : ∀ a M, M.2 = J → JK J (k a M)) : JK J (bd o k) := by
  cases o with
  | none => exact JK.no
  | some x => exact h2 x.1 x.2 (h1 x rfl)
theorem JK.rd {α : Type} {J : Nat → Nat → Int64} {M : Mm} {c : Nat} {i : Int32} {k : Int32 → Option (α × Mm)} (h : ∀ a, JK J (k a)) : JK J (rdI M c i k) := JK.it (h _) JK.no
theorem JK.wr {α : Type} {J : Nat → Nat → Int64} {M : Mm} {c : Nat} {i v : Int32} {k : Mm → Option (α × Mm)} (hM : M.2 = J) (h : ∀ M', M'.2 = J → JK J (k M')) : JK J (wrI M c i v k) := JK.it (h _ hM) JK.no
theorem JK.zb {α : Type} {J : Nat → Nat → Int64} {v : Int32} {k : Option (α × Mm)} (h : JK J k) : JK J (zb v k) := JK.it h JK.no
theorem jk_pl {J : Nat → Nat → Int64} {M : Mm} (h : M.2 = J) (p : Int32) : JK J (sp_X11_placeOf p M) := by
  have : ∀ n a b, JK J (sp_X11_placeOf_L4 M p n a b) := by
    intro n
    induction n with
    | zero => intro a b; exact JK.no
    | succ n ih => intro a b; exact JK.it (JK.rd (fun x => JK.it (ih _ _) (ih _ _))) (JK.so h)
  unfold sp_X11_placeOf
  exact this _ _ _
theorem jk_s59 {J : Nat → Nat → Int64} : ∀ n a b M, M.2 = J → JK J (sp_X11_isSaidSo_L59 n a b M) := by
  intro n
  induction n with
  | zero => intro a b M h; exact JK.no
  | succ n ih =>
    intro a b M h
    have key : ∀ t0 : Int32, ∀ y69 y74 : Int32, JK J (if a = 0 then (sp_X11_isSaidSo_L59 n (0 : Int32) (b + 1) M) else (jn (fun (M_163 : Mm) => sp_X11_isSaidSo_L59 n (1 : Int32) (b + 1) M_163) (fun (K163 : Mm → Option (Int32 × Mm)) => if t0 = 0 then (K163 M) else (bd (sp_X11_placeOf y74 M) (fun r152 M152 => bd (sp_X11_placeOf y69 M152) (fun r157 M157 => if r152 < r157 then (K163 M157) else (sp_X11_isSaidSo_L59 n (0 : Int32) (b + 1) M157))))))) := by
      intro t0 y z
      rw [jn_e]
      exact JK.it (ih _ _ _ h) (JK.it (ih _ _ _ h) (JK.bd (jk_pl h _) (fun x M1 h1 => JK.bd (jk_pl h1 _) (fun x2 M2 h2 => JK.it (ih _ _ _ h2) (ih _ _ _ h2)))))
    rw [sp_X11_isSaidSo_L59]
    refine JK.it ?_ (JK.zb (JK.so h))
    rw [bl_e, bl_e, jn_e]
    exact (JK.it (JK.it (JK.rd (fun x => JK.it (key _ _ _) (JK.rd (fun x => JK.it (JK.rd (fun x => JK.it (key _ _ _) (key _ _ _))) (key _ _ _))))) (key _ _ _)) (key _ _ _))
theorem jk_s4 {J : Nat → Nat → Int64} {K : Int32 → Mm → Option (Int32 × Mm)} (hK : ∀ a M, M.2 = J → JK J (K a M)) : ∀ n a b M, M.2 = J → JK J (sp_X11_isSaidSo_L4 K n a b M) := by
  intro n
  induction n with
  | zero => intro a b M h; exact JK.no
  | succ n ih =>
    intro a b M h
    rw [sp_X11_isSaidSo_L4]
    exact JK.it (JK.it (ih _ _ _ h) (JK.rd (fun x => JK.bd (jk_pl h _) (fun y M1 h1 => JK.rd (fun z => JK.bd (jk_pl h1 _) (fun w M2 h2 => JK.it (ih _ _ _ h2) (ih _ _ _ h2))))))) (hK _ _ h)
theorem jk_iss {J : Nat → Nat → Int64} {M : Mm} (h : M.2 = J) : JK J (sp_X11_isSaidSo M) := by
  unfold sp_X11_isSaidSo
  rw [jn_e]
  exact jk_s4 (fun a M h => jk_s59 _ _ _ _ h) _ _ _ _ h
theorem jk_n107 {J : Nat → Nat → Int64} : ∀ n a b M, M.2 = J → JK J (sp_X11_nextOrder_L107 n a b M) := by
  intro n
  induction n with
  | zero => intro a b M h; exact JK.no
  | succ n ih =>
    intro a b M h
    exact JK.it (JK.rd (fun x => JK.rd (fun y => JK.wr h (fun M1 h1 => JK.wr h1 (fun M2 h2 => ih _ _ _ h2))))) (JK.so h)
theorem jk_n47 {J : Nat → Nat → Int64} {M : Mm} {v : Int32} {K : Int32 → Option (Int32 × Mm)} (hK : ∀ a, JK J (K a)) : ∀ n a, JK J (sp_X11_nextOrder_L47 M v K n a) := by
  intro n
  induction n with
  | zero => intro a; exact JK.no
  | succ n ih => intro a; exact JK.rd (fun x => JK.rd (fun y => JK.it (ih _) (hK _)))
theorem jk_n7 {J : Nat → Nat → Int64} {M : Mm} {K : Int32 → Option (Int32 × Mm)} (hK : ∀ a, JK J (K a)) : ∀ n a, JK J (sp_X11_nextOrder_L7 K M n a) := by
  intro n
  induction n with
  | zero => intro a; exact JK.no
  | succ n ih => intro a; exact JK.it (hK _) (JK.rd (fun x => JK.rd (fun y => JK.it (ih _) (hK _))))
theorem jk_next {J : Nat → Nat → Int64} {M : Mm} (h : M.2 = J) : JK J (sp_X11_nextOrder M) := by
  unfold sp_X11_nextOrder
  rw [bl_e, jn_e]
  refine jk_n7 (fun a => ?_) _ _
  refine JK.it (JK.so h) ?_
  rw [bl_e, jn_e]
  refine jk_n47 (fun b => ?_) _ _
  refine JK.rd (fun x => JK.rd (fun y => JK.wr h (fun M1 h1 => JK.wr h1 (fun M2 h2 => ?_))))
  rw [bl_e, bl_e]
  exact jk_n107 _ _ _ _ h2
theorem jk_f7 {J : Nat → Nat → Int64} {p : Int32} : ∀ n a M, M.2 = J → JK J (sp_X11_firstOrder_L7 p n a M) := by
  intro n
  induction n with
  | zero => intro a M h; exact JK.no
  | succ n ih =>
    intro a M h
    rw [sp_X11_firstOrder_L7]
    refine JK.it (JK.it (JK.wr h (fun M1 h1 => ?_)) (ih _ _ h)) (JK.so h)
    rw [bl_e]
    exact ih _ _ h1
theorem jk_first {J : Nat → Nat → Int64} {M : Mm} (h : M.2 = J) (p : Int32) : JK J (sp_X11_firstOrder p M) := by
  unfold sp_X11_firstOrder
  rw [bl_e]
  exact jk_f7 _ _ _ h
theorem jk_l53 {J : Nat → Nat → Int64} {K : Int32 → Mm → Option (Int32 × Mm)} (hK : ∀ a M, M.2 = J → JK J (K a M)) {v : Int32} : ∀ n a M, M.2 = J → JK J (sp_X11_layOrders_L53 K v n a M) := by
  intro n
  induction n with
  | zero => intro a M h; exact JK.no
  | succ n ih =>
    intro a M h
    exact JK.it (JK.rd (fun x => JK.rd (fun y => JK.wr h (fun M1 h1 => ih _ _ h1)))) (hK _ _ h)
theorem jk_l37 {J : Nat → Nat → Int64} : ∀ n a b M, M.2 = J → JK J (sp_X11_layOrders_L37 n a b M) := by
  intro n
  induction n with
  | zero => intro a b M h; exact JK.no
  | succ n ih =>
    intro a b M h
    have hK : ∀ (a : Int32) (M : Mm), M.2 = J → JK J (bd (sp_X11_nextOrder M) (fun r85 M85 => sp_X11_layOrders_L37 n a r85 M85)) := fun a M h => JK.bd (jk_next h) (fun x M1 h1 => ih _ _ _ h1)
    rw [sp_X11_layOrders_L37]
    refine JK.it (JK.so h) (JK.bd (jk_iss h) (fun x M1 h1 => ?_))
    rw [jn_e]
    exact JK.it (hK _ _ h1) (jk_l53 hK _ _ _ h1)
theorem jk_l2 {J : Nat → Nat → Int64} {K : Mm → Option (Int32 × Mm)} (hK : ∀ M, M.2 = J → JK J (K M)) : ∀ n a M, M.2 = J → JK J (sp_X11_layOrders_L2 K n a M) := by
  intro n
  induction n with
  | zero => intro a M h; exact JK.no
  | succ n ih => intro a M h; exact JK.it (JK.wr h (fun M1 h1 => ih _ _ h1)) (hK _ h)
theorem jk_lay {J : Nat → Nat → Int64} {M : Mm} (h : M.2 = J) : JK J (sp_X11_layOrders M) := by
  unfold sp_X11_layOrders
  rw [jn_e]
  exact jk_l2 (fun M h => JK.bd (jk_first h _) (fun x M1 h1 => jk_l37 _ _ _ _ h1)) _ _ _ h
theorem lay_J {M M' : Mm} {r : Int32} (h : sp_X11_layOrders M = some (r, M')) (c k : Nat) : gJ M' c k = gJ M c k := by
  have := jk_lay (M := M) rfl (r, M') h
  unfold gJ
  rw [this]
