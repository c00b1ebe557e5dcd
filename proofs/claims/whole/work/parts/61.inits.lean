/-! THE CONSTRUCTORS -/
def fdX0 : List Value := [.long 0, .long 0, .int 0, .null]
theorem fdX0_ok : ∀ j, j < 4 → defaultValue (tyX0 j) = vp_V fdX0 j := fun j hj => by
  match j, hj with
  | 0, _ => rfl
  | 1, _ => rfl
  | 2, _ => rfl
  | 3, _ => rfl
  | j + 4, h => exact absurd h (by omega)
def fdX1 : List Value := [.int 0, .int 0, .int 0, .int 0, .int 0, .int 0, .int 0, .int 0, .null, .null, .null]
theorem fdX1_ok : ∀ j, j < 11 → defaultValue (tyX1 j) = vp_V fdX1 j := fun j hj => by
  match j, hj with
  | 0, _ => rfl
  | 1, _ => rfl
  | 2, _ => rfl
  | 3, _ => rfl
  | 4, _ => rfl
  | 5, _ => rfl
  | 6, _ => rfl
  | 7, _ => rfl
  | 8, _ => rfl
  | 9, _ => rfl
  | 10, _ => rfl
  | j + 11, h => exact absurd h (by omega)
def fdX2 : List Value := [.int 0, .null, .null, .null]
theorem fdX2_ok : ∀ j, j < 4 → defaultValue (tyX2 j) = vp_V fdX2 j := fun j hj => by
  match j, hj with
  | 0, _ => rfl
  | 1, _ => rfl
  | 2, _ => rfl
  | 3, _ => rfl
  | j + 4, h => exact absurd h (by omega)
def fdX3 : List Value := [.null, .int 0, .int 0, .int 0]
theorem fdX3_ok : ∀ j, j < 4 → defaultValue (tyX3 j) = vp_V fdX3 j := fun j hj => by
  match j, hj with
  | 0, _ => rfl
  | 1, _ => rfl
  | 2, _ => rfl
  | 3, _ => rfl
  | j + 4, h => exact absurd h (by omega)
def fdX4 : List Value := [.long 0, .int 0, .null, .null]
theorem fdX4_ok : ∀ j, j < 4 → defaultValue (tyX4 j) = vp_V fdX4 j := fun j hj => by
  match j, hj with
  | 0, _ => rfl
  | 1, _ => rfl
  | 2, _ => rfl
  | 3, _ => rfl
  | j + 4, h => exact absurd h (by omega)
def fdX5 : List Value := [.null, .int 0]
theorem fdX5_ok : ∀ j, j < 2 → defaultValue (tyX5 j) = vp_V fdX5 j := fun j hj => by
  match j, hj with
  | 0, _ => rfl
  | 1, _ => rfl
  | j + 2, h => exact absurd h (by omega)
def fdX6 : List Value := [.int 0, .null, .null]
theorem fdX6_ok : ∀ j, j < 3 → defaultValue (tyX6 j) = vp_V fdX6 j := fun j hj => by
  match j, hj with
  | 0, _ => rfl
  | 1, _ => rfl
  | 2, _ => rfl
  | j + 3, h => exact absurd h (by omega)
def fdX7 : List Value := [.int 0, .int 0, .int 0, .null, .null]
theorem fdX7_ok : ∀ j, j < 5 → defaultValue (tyX7 j) = vp_V fdX7 j := fun j hj => by
  match j, hj with
  | 0, _ => rfl
  | 1, _ => rfl
  | 2, _ => rfl
  | 3, _ => rfl
  | 4, _ => rfl
  | j + 5, h => exact absurd h (by omega)
def fdX8 : List Value := [.int 0, .int 0, .null, .null, .null]
theorem fdX8_ok : ∀ j, j < 5 → defaultValue (tyX8 j) = vp_V fdX8 j := fun j hj => by
  match j, hj with
  | 0, _ => rfl
  | 1, _ => rfl
  | 2, _ => rfl
  | 3, _ => rfl
  | 4, _ => rfl
  | j + 5, h => exact absurd h (by omega)
def fdX9 : List Value := [.long 0, .int 0, .int 0, .int 0]
theorem fdX9_ok : ∀ j, j < 4 → defaultValue (tyX9 j) = vp_V fdX9 j := fun j hj => by
  match j, hj with
  | 0, _ => rfl
  | 1, _ => rfl
  | 2, _ => rfl
  | 3, _ => rfl
  | j + 4, h => exact absurd h (by omega)
def fdX10 : List Value := [.null, .null, .null, .null, .null, .null, .null, .null, .null, .null, .int 0, .int 0]
theorem fdX10_ok : ∀ j, j < 12 → defaultValue (tyX10 j) = vp_V fdX10 j := fun j hj => by
  match j, hj with
  | 0, _ => rfl
  | 1, _ => rfl
  | 2, _ => rfl
  | 3, _ => rfl
  | 4, _ => rfl
  | 5, _ => rfl
  | 6, _ => rfl
  | 7, _ => rfl
  | 8, _ => rfl
  | 9, _ => rfl
  | 10, _ => rfl
  | 11, _ => rfl
  | j + 12, h => exact absurd h (by omega)
def fdX11 : List Value := [.null, .int 0, .int 0, .int 0, .null, .null, .int 0, .int 0, .int 0, .int 0, .int 0, .int 0, .int 0, .int 0, .int 0, .null, .null, .int 0, .null, .null, .null, .int 0, .int 0, .null, .null, .int 0, .null, .null, .int 0, .int 0, .null, .null, .int 0, .null, .int 0, .int 0, .int 0, .int 0, .int 0, .int 0, .int 0, .int 0, .int 0, .int 0, .null, .null, .null, .null, .long 0]
theorem fdX11_ok : ∀ j, j < 49 → defaultValue (tyX11 j) = vp_V fdX11 j := fun j hj => by
  match j, hj with
  | 0, _ => rfl
  | 1, _ => rfl
  | 2, _ => rfl
  | 3, _ => rfl
  | 4, _ => rfl
  | 5, _ => rfl
  | 6, _ => rfl
  | 7, _ => rfl
  | 8, _ => rfl
  | 9, _ => rfl
  | 10, _ => rfl
  | 11, _ => rfl
  | 12, _ => rfl
  | 13, _ => rfl
  | 14, _ => rfl
  | 15, _ => rfl
  | 16, _ => rfl
  | 17, _ => rfl
  | 18, _ => rfl
  | 19, _ => rfl
  | 20, _ => rfl
  | 21, _ => rfl
  | 22, _ => rfl
  | 23, _ => rfl
  | 24, _ => rfl
  | 25, _ => rfl
  | 26, _ => rfl
  | 27, _ => rfl
  | 28, _ => rfl
  | 29, _ => rfl
  | 30, _ => rfl
  | 31, _ => rfl
  | 32, _ => rfl
  | 33, _ => rfl
  | 34, _ => rfl
  | 35, _ => rfl
  | 36, _ => rfl
  | 37, _ => rfl
  | 38, _ => rfl
  | 39, _ => rfl
  | 40, _ => rfl
  | 41, _ => rfl
  | 42, _ => rfl
  | 43, _ => rfl
  | 44, _ => rfl
  | 45, _ => rfl
  | 46, _ => rfl
  | 47, _ => rfl
  | 48, _ => rfl
  | j + 49, h => exact absurd h (by omega)
theorem nw_X10_9 : (RX10, 9, yX5_init, "LineToWreck") ∈ nwL := List.mem_of_getElem? (i := 0) rfl
theorem nw_X10_18 : (RX10, 18, yX7_init, "LineToWreck") ∈ nwL := List.mem_of_getElem? (i := 1) rfl
theorem nw_X10_25 : (RX10, 25, yX6_init, "LineToWreck") ∈ nwL := List.mem_of_getElem? (i := 2) rfl
theorem nw_X10_32 : (RX10, 32, yX2_init, "LineToWreck") ∈ nwL := List.mem_of_getElem? (i := 3) rfl
theorem nw_X10_39 : (RX10, 39, yX1_init, "LineToWreck") ∈ nwL := List.mem_of_getElem? (i := 4) rfl
theorem nw_X10_46 : (RX10, 46, yX3_init, "LineToWreck") ∈ nwL := List.mem_of_getElem? (i := 5) rfl
theorem nw_X10_53 : (RX10, 53, yX0_init, "LineToWreck") ∈ nwL := List.mem_of_getElem? (i := 7) rfl
theorem nw_X10_60 : (RX10, 60, yX4_init, "LineToWreck") ∈ nwL := List.mem_of_getElem? (i := 8) rfl
theorem nw_X10_67 : (RX10, 67, yX8_init, "LineToWreck") ∈ nwL := List.mem_of_getElem? (i := 9) rfl
theorem nw_X10_74 : (RX10, 74, yX9_init, "LineToWreck") ∈ nwL := List.mem_of_getElem? (i := 10) rfl
theorem nw_X3_9 : (RX3, 9, yX1_init, "LineToWreck") ∈ nwL := List.mem_of_getElem? (i := 6) rfl
def shX5 (aI aJ : ClassId) (h0 : Nat) (W1 : va_W) : Prop := ∃ q1 : Nat, W1 = [(h0, .inr (5, [.ref q1, .int 0])), (q1, .inl (aI, 22, .inl (fun _ => 0)))]
set_option maxHeartbeats 4000000 in
set_option maxRecDepth 100000 in
theorem ic_X5 (l : Launch) : IC l yX5_init cX5_init { frames := 1, cells := 1, slots := 22, locals := 12 } 5 fdX5 shX5 1 22 := by
  intro D aI aJ h0 sz
  refine Met.ofW (cc := cX5_init) (maxL := 1) (ret := none) (by decide) rfl ?_
  intro p e s m args below meth c s₁ B hml hv
  obtain ⟨rfl, hsz, hP, hK, hD0, hN⟩ := hv
  have hx := B.exec
  have hb := B.bytes
  have hr := B.returns
  have hts := atoms_spec (ws := (.code yX5_init cX5_init 1 none :: zA)) B.pre
  have htz : ∀ q ∈ zA, q.before #[Value.ref h0] s = true := fun q hq => hts q (List.mem_cons_of_mem _ hq)
  have hown : s.vm.findClass RX5 = some m.cls := findClass_of_methodNamed B.named
  have hlocks := B.notSynchronized
  have hin : meth.name = "<init>" := (name_of_methodNamed B.named B.method).1
  subst hsz
  have hD := hD0.self (sz := s.heap.size)
  generalize hAe : va_A [(h0, .inr (5, fdX5))] s.heap.size = A at hD ⊢
  have hA : ∀ q : Nat, s.heap.size ≤ q → A q := fun q h => by rw [← hAe]; exact Or.inr h
  have hS : va_S A s.heap s.heap [] := va_S.rf
  have hl := lv_entry ([.ref h0]) (n := 1) (Nat.le_of_ble_eq_true rfl)
  rw [lg_entry_eq]
  generalize (lg_sl ([.ref h0]) ++ List.replicate (1 - (lg_sl ([.ref h0])).length) Slot.unset).toArray = ls at hl ⊢
  have hl : lv_has ls 1 [(0, .ref h0)] := hl
  have hP : va_P D vwCl [(h0, .inr (5, [.null, .int 0]))] s.heap := hP
  have hD : va_D A [(h0, .inr (5, [.null, .int 0]))] := hD
  refine lv_aload_n hx hb dX5_init_0 rfl (lv_at hl 0 rfl) ?_
  refine W.objInit hx hb hown (htz _ oi_X5) (htz _ oi_im) (htz _ oi_co) rfl (by rw [hml]; exact hl.1) rfl dX5_init_1 (Nat.le_of_ble_eq_true rfl) (Nat.le_of_ble_eq_true rfl) ?_
  refine W.eq (g2 := F0 m 4 ls []) rfl ?_
  refine lv_aload_n hx hb dX5_init_4 rfl (lv_at hl 0 rfl) ?_
  refine lv_bipush (v := 22) hx hb dX5_init_5 (by decide) ?_
  refine ini_A (N' := 22) hx hb htz hK hP hD hS hA (by decide) (by decide) (by decide) (Nat.le_of_ble_eq_true rfl) (Nat.le_of_ble_eq_true rfl) dX5_init_7 (fun q1 H hP hD hS => ?_)
  refine W.widen (k := 1) (n := 22) (by omega) (by omega) ?_
  refine ini_F (v := .ref q1) (k := 0) hx hb hown hin htz hK hP hD hS kn_X5 rfl (by decide) kf_X5_9 rfl rfl rfl rfl (Nat.le_of_ble_eq_true rfl) dX5_init_9 (fun H locs hP hD hS => ?_)
  have hP : va_P D vwCl [(h0, .inr (5, [.ref q1, .int 0])), (q1, .inl (aI, 22, .inl (fun _ => 0)))] H := hP
  have hD : va_D A [(h0, .inr (5, [.ref q1, .int 0])), (q1, .inl (aI, 22, .inl (fun _ => 0)))] := hD
  exact W.vret hx hb hr (fun t ht hW => ⟨⟨(), rfl, trivial, _, ⟨q1, rfl⟩, by rw [ht]; exact hP, hD⟩, hS.F ht⟩) hS.2.2 dX5_init_12 hlocks
def shX7 (aI aJ : ClassId) (h0 : Nat) (W1 : va_W) : Prop := ∃ q1 q2 : Nat, W1 = [(h0, .inr (7, [.int 0, .int 0, .int 0, .ref q1, .ref q2])), (q1, .inl (aI, 3, .inl (fun _ => 0))), (q2, .inl (aI, 10, .inl (fun _ => 0)))]
set_option maxHeartbeats 4000000 in
set_option maxRecDepth 100000 in
theorem ic_X7 (l : Launch) : IC l yX7_init cX7_init { frames := 1, cells := 2, slots := 13, locals := 12 } 7 fdX7 shX7 2 13 := by
  intro D aI aJ h0 sz
  refine Met.ofW (cc := cX7_init) (maxL := 1) (ret := none) (by decide) rfl ?_
  intro p e s m args below meth c s₁ B hml hv
  obtain ⟨rfl, hsz, hP, hK, hD0, hN⟩ := hv
  have hx := B.exec
  have hb := B.bytes
  have hr := B.returns
  have hts := atoms_spec (ws := (.code yX7_init cX7_init 1 none :: zA)) B.pre
  have htz : ∀ q ∈ zA, q.before #[Value.ref h0] s = true := fun q hq => hts q (List.mem_cons_of_mem _ hq)
  have hown : s.vm.findClass RX7 = some m.cls := findClass_of_methodNamed B.named
  have hlocks := B.notSynchronized
  have hin : meth.name = "<init>" := (name_of_methodNamed B.named B.method).1
  subst hsz
  have hD := hD0.self (sz := s.heap.size)
  generalize hAe : va_A [(h0, .inr (7, fdX7))] s.heap.size = A at hD ⊢
  have hA : ∀ q : Nat, s.heap.size ≤ q → A q := fun q h => by rw [← hAe]; exact Or.inr h
  have hS : va_S A s.heap s.heap [] := va_S.rf
  have hl := lv_entry ([.ref h0]) (n := 1) (Nat.le_of_ble_eq_true rfl)
  rw [lg_entry_eq]
  generalize (lg_sl ([.ref h0]) ++ List.replicate (1 - (lg_sl ([.ref h0])).length) Slot.unset).toArray = ls at hl ⊢
  have hl : lv_has ls 1 [(0, .ref h0)] := hl
  have hP : va_P D vwCl [(h0, .inr (7, [.int 0, .int 0, .int 0, .null, .null]))] s.heap := hP
  have hD : va_D A [(h0, .inr (7, [.int 0, .int 0, .int 0, .null, .null]))] := hD
  refine lv_aload_n hx hb dX7_init_0 rfl (lv_at hl 0 rfl) ?_
  refine W.objInit hx hb hown (htz _ oi_X7) (htz _ oi_im) (htz _ oi_co) rfl (by rw [hml]; exact hl.1) rfl dX7_init_1 (Nat.le_of_ble_eq_true rfl) (Nat.le_of_ble_eq_true rfl) ?_
  refine W.eq (g2 := F0 m 4 ls []) rfl ?_
  refine lv_aload_n hx hb dX7_init_4 rfl (lv_at hl 0 rfl) ?_
  refine lv_iconst (v := 3) hx hb dX7_init_5 (by decide) ?_
  refine ini_A (N' := 3) hx hb htz hK hP hD hS hA (by decide) (by decide) (by decide) (Nat.le_of_ble_eq_true rfl) (Nat.le_of_ble_eq_true rfl) dX7_init_6 (fun q1 H hP hD hS => ?_)
  refine W.widen (k := 1) (n := 3) (by omega) (by omega) ?_
  refine ini_F (v := .ref q1) (k := 3) hx hb hown hin htz hK hP hD hS kn_X7 rfl (by decide) kf_X7_9 rfl rfl rfl rfl (Nat.le_of_ble_eq_true rfl) dX7_init_8 (fun H locs hP hD hS => ?_)
  have hP : va_P D vwCl [(h0, .inr (7, [.int 0, .int 0, .int 0, .ref q1, .null])), (q1, .inl (aI, 3, .inl (fun _ => 0)))] H := hP
  have hD : va_D A [(h0, .inr (7, [.int 0, .int 0, .int 0, .ref q1, .null])), (q1, .inl (aI, 3, .inl (fun _ => 0)))] := hD
  refine lv_aload_n hx hb dX7_init_11 rfl (lv_at hl 0 rfl) ?_
  refine lv_bipush (v := 10) hx hb dX7_init_12 (by decide) ?_
  refine ini_A (N' := 10) hx hb htz hK hP hD hS hA (by decide) (by decide) (by decide) (Nat.le_of_ble_eq_true rfl) (Nat.le_of_ble_eq_true rfl) dX7_init_14 (fun q2 H hP hD hS => ?_)
  refine W.widen (k := 2) (n := 13) (by omega) (by omega) ?_
  refine ini_F (v := .ref q2) (k := 4) hx hb hown hin htz hK hP hD hS kn_X7 rfl (by decide) kf_X7_15 rfl rfl rfl rfl (Nat.le_of_ble_eq_true rfl) dX7_init_16 (fun H locs hP hD hS => ?_)
  have hP : va_P D vwCl [(h0, .inr (7, [.int 0, .int 0, .int 0, .ref q1, .ref q2])), (q1, .inl (aI, 3, .inl (fun _ => 0))), (q2, .inl (aI, 10, .inl (fun _ => 0)))] H := hP
  have hD : va_D A [(h0, .inr (7, [.int 0, .int 0, .int 0, .ref q1, .ref q2])), (q1, .inl (aI, 3, .inl (fun _ => 0))), (q2, .inl (aI, 10, .inl (fun _ => 0)))] := hD
  exact W.vret hx hb hr (fun t ht hW => ⟨⟨(), rfl, trivial, _, ⟨q1, q2, rfl⟩, by rw [ht]; exact hP, hD⟩, hS.F ht⟩) hS.2.2 dX7_init_19 hlocks
def shX6 (aI aJ : ClassId) (h0 : Nat) (W1 : va_W) : Prop := ∃ q1 q2 : Nat, W1 = [(h0, .inr (6, [.int 0, .ref q1, .ref q2])), (q1, .inl (aI, 6, .inl (fun _ => 0))), (q2, .inl (aI, 6, .inl (fun _ => 0)))]
set_option maxHeartbeats 4000000 in
set_option maxRecDepth 100000 in
theorem ic_X6 (l : Launch) : IC l yX6_init cX6_init { frames := 1, cells := 2, slots := 12, locals := 12 } 6 fdX6 shX6 2 12 := by
  intro D aI aJ h0 sz
  refine Met.ofW (cc := cX6_init) (maxL := 1) (ret := none) (by decide) rfl ?_
  intro p e s m args below meth c s₁ B hml hv
  obtain ⟨rfl, hsz, hP, hK, hD0, hN⟩ := hv
  have hx := B.exec
  have hb := B.bytes
  have hr := B.returns
  have hts := atoms_spec (ws := (.code yX6_init cX6_init 1 none :: zA)) B.pre
  have htz : ∀ q ∈ zA, q.before #[Value.ref h0] s = true := fun q hq => hts q (List.mem_cons_of_mem _ hq)
  have hown : s.vm.findClass RX6 = some m.cls := findClass_of_methodNamed B.named
  have hlocks := B.notSynchronized
  have hin : meth.name = "<init>" := (name_of_methodNamed B.named B.method).1
  subst hsz
  have hD := hD0.self (sz := s.heap.size)
  generalize hAe : va_A [(h0, .inr (6, fdX6))] s.heap.size = A at hD ⊢
  have hA : ∀ q : Nat, s.heap.size ≤ q → A q := fun q h => by rw [← hAe]; exact Or.inr h
  have hS : va_S A s.heap s.heap [] := va_S.rf
  have hl := lv_entry ([.ref h0]) (n := 1) (Nat.le_of_ble_eq_true rfl)
  rw [lg_entry_eq]
  generalize (lg_sl ([.ref h0]) ++ List.replicate (1 - (lg_sl ([.ref h0])).length) Slot.unset).toArray = ls at hl ⊢
  have hl : lv_has ls 1 [(0, .ref h0)] := hl
  have hP : va_P D vwCl [(h0, .inr (6, [.int 0, .null, .null]))] s.heap := hP
  have hD : va_D A [(h0, .inr (6, [.int 0, .null, .null]))] := hD
  refine lv_aload_n hx hb dX6_init_0 rfl (lv_at hl 0 rfl) ?_
  refine W.objInit hx hb hown (htz _ oi_X6) (htz _ oi_im) (htz _ oi_co) rfl (by rw [hml]; exact hl.1) rfl dX6_init_1 (Nat.le_of_ble_eq_true rfl) (Nat.le_of_ble_eq_true rfl) ?_
  refine W.eq (g2 := F0 m 4 ls []) rfl ?_
  refine lv_aload_n hx hb dX6_init_4 rfl (lv_at hl 0 rfl) ?_
  refine lv_bipush (v := 6) hx hb dX6_init_5 (by decide) ?_
  refine ini_A (N' := 6) hx hb htz hK hP hD hS hA (by decide) (by decide) (by decide) (Nat.le_of_ble_eq_true rfl) (Nat.le_of_ble_eq_true rfl) dX6_init_7 (fun q1 H hP hD hS => ?_)
  refine W.widen (k := 1) (n := 6) (by omega) (by omega) ?_
  refine ini_F (v := .ref q1) (k := 1) hx hb hown hin htz hK hP hD hS kn_X6 rfl (by decide) kf_X6_9 rfl rfl rfl rfl (Nat.le_of_ble_eq_true rfl) dX6_init_9 (fun H locs hP hD hS => ?_)
  have hP : va_P D vwCl [(h0, .inr (6, [.int 0, .ref q1, .null])), (q1, .inl (aI, 6, .inl (fun _ => 0)))] H := hP
  have hD : va_D A [(h0, .inr (6, [.int 0, .ref q1, .null])), (q1, .inl (aI, 6, .inl (fun _ => 0)))] := hD
  refine lv_aload_n hx hb dX6_init_12 rfl (lv_at hl 0 rfl) ?_
  refine lv_bipush (v := 6) hx hb dX6_init_13 (by decide) ?_
  refine ini_A (N' := 6) hx hb htz hK hP hD hS hA (by decide) (by decide) (by decide) (Nat.le_of_ble_eq_true rfl) (Nat.le_of_ble_eq_true rfl) dX6_init_15 (fun q2 H hP hD hS => ?_)
  refine W.widen (k := 2) (n := 12) (by omega) (by omega) ?_
  refine ini_F (v := .ref q2) (k := 2) hx hb hown hin htz hK hP hD hS kn_X6 rfl (by decide) kf_X6_15 rfl rfl rfl rfl (Nat.le_of_ble_eq_true rfl) dX6_init_17 (fun H locs hP hD hS => ?_)
  have hP : va_P D vwCl [(h0, .inr (6, [.int 0, .ref q1, .ref q2])), (q1, .inl (aI, 6, .inl (fun _ => 0))), (q2, .inl (aI, 6, .inl (fun _ => 0)))] H := hP
  have hD : va_D A [(h0, .inr (6, [.int 0, .ref q1, .ref q2])), (q1, .inl (aI, 6, .inl (fun _ => 0))), (q2, .inl (aI, 6, .inl (fun _ => 0)))] := hD
  exact W.vret hx hb hr (fun t ht hW => ⟨⟨(), rfl, trivial, _, ⟨q1, q2, rfl⟩, by rw [ht]; exact hP, hD⟩, hS.F ht⟩) hS.2.2 dX6_init_20 hlocks
def shX2 (aI aJ : ClassId) (h0 : Nat) (W1 : va_W) : Prop := ∃ q1 q2 q3 : Nat, W1 = [(h0, .inr (2, [.int 0, .ref q1, .ref q2, .ref q3])), (q1, .inl (aI, 6, .inl (fun _ => 0))), (q2, .inl (aI, 6, .inl (fun _ => 0))), (q3, .inl (aI, 6, .inl (fun _ => 0)))]
set_option maxHeartbeats 4000000 in
set_option maxRecDepth 100000 in
theorem ic_X2 (l : Launch) : IC l yX2_init cX2_init { frames := 1, cells := 3, slots := 18, locals := 12 } 2 fdX2 shX2 3 18 := by
  intro D aI aJ h0 sz
  refine Met.ofW (cc := cX2_init) (maxL := 1) (ret := none) (by decide) rfl ?_
  intro p e s m args below meth c s₁ B hml hv
  obtain ⟨rfl, hsz, hP, hK, hD0, hN⟩ := hv
  have hx := B.exec
  have hb := B.bytes
  have hr := B.returns
  have hts := atoms_spec (ws := (.code yX2_init cX2_init 1 none :: zA)) B.pre
  have htz : ∀ q ∈ zA, q.before #[Value.ref h0] s = true := fun q hq => hts q (List.mem_cons_of_mem _ hq)
  have hown : s.vm.findClass RX2 = some m.cls := findClass_of_methodNamed B.named
  have hlocks := B.notSynchronized
  have hin : meth.name = "<init>" := (name_of_methodNamed B.named B.method).1
  subst hsz
  have hD := hD0.self (sz := s.heap.size)
  generalize hAe : va_A [(h0, .inr (2, fdX2))] s.heap.size = A at hD ⊢
  have hA : ∀ q : Nat, s.heap.size ≤ q → A q := fun q h => by rw [← hAe]; exact Or.inr h
  have hS : va_S A s.heap s.heap [] := va_S.rf
  have hl := lv_entry ([.ref h0]) (n := 1) (Nat.le_of_ble_eq_true rfl)
  rw [lg_entry_eq]
  generalize (lg_sl ([.ref h0]) ++ List.replicate (1 - (lg_sl ([.ref h0])).length) Slot.unset).toArray = ls at hl ⊢
  have hl : lv_has ls 1 [(0, .ref h0)] := hl
  have hP : va_P D vwCl [(h0, .inr (2, [.int 0, .null, .null, .null]))] s.heap := hP
  have hD : va_D A [(h0, .inr (2, [.int 0, .null, .null, .null]))] := hD
  refine lv_aload_n hx hb dX2_init_0 rfl (lv_at hl 0 rfl) ?_
  refine W.objInit hx hb hown (htz _ oi_X2) (htz _ oi_im) (htz _ oi_co) rfl (by rw [hml]; exact hl.1) rfl dX2_init_1 (Nat.le_of_ble_eq_true rfl) (Nat.le_of_ble_eq_true rfl) ?_
  refine W.eq (g2 := F0 m 4 ls []) rfl ?_
  refine lv_aload_n hx hb dX2_init_4 rfl (lv_at hl 0 rfl) ?_
  refine lv_bipush (v := 6) hx hb dX2_init_5 (by decide) ?_
  refine ini_A (N' := 6) hx hb htz hK hP hD hS hA (by decide) (by decide) (by decide) (Nat.le_of_ble_eq_true rfl) (Nat.le_of_ble_eq_true rfl) dX2_init_7 (fun q1 H hP hD hS => ?_)
  refine W.widen (k := 1) (n := 6) (by omega) (by omega) ?_
  refine ini_F (v := .ref q1) (k := 1) hx hb hown hin htz hK hP hD hS kn_X2 rfl (by decide) kf_X2_9 rfl rfl rfl rfl (Nat.le_of_ble_eq_true rfl) dX2_init_9 (fun H locs hP hD hS => ?_)
  have hP : va_P D vwCl [(h0, .inr (2, [.int 0, .ref q1, .null, .null])), (q1, .inl (aI, 6, .inl (fun _ => 0)))] H := hP
  have hD : va_D A [(h0, .inr (2, [.int 0, .ref q1, .null, .null])), (q1, .inl (aI, 6, .inl (fun _ => 0)))] := hD
  refine lv_aload_n hx hb dX2_init_12 rfl (lv_at hl 0 rfl) ?_
  refine lv_bipush (v := 6) hx hb dX2_init_13 (by decide) ?_
  refine ini_A (N' := 6) hx hb htz hK hP hD hS hA (by decide) (by decide) (by decide) (Nat.le_of_ble_eq_true rfl) (Nat.le_of_ble_eq_true rfl) dX2_init_15 (fun q2 H hP hD hS => ?_)
  refine W.widen (k := 2) (n := 12) (by omega) (by omega) ?_
  refine ini_F (v := .ref q2) (k := 2) hx hb hown hin htz hK hP hD hS kn_X2 rfl (by decide) kf_X2_15 rfl rfl rfl rfl (Nat.le_of_ble_eq_true rfl) dX2_init_17 (fun H locs hP hD hS => ?_)
  have hP : va_P D vwCl [(h0, .inr (2, [.int 0, .ref q1, .ref q2, .null])), (q1, .inl (aI, 6, .inl (fun _ => 0))), (q2, .inl (aI, 6, .inl (fun _ => 0)))] H := hP
  have hD : va_D A [(h0, .inr (2, [.int 0, .ref q1, .ref q2, .null])), (q1, .inl (aI, 6, .inl (fun _ => 0))), (q2, .inl (aI, 6, .inl (fun _ => 0)))] := hD
  refine lv_aload_n hx hb dX2_init_20 rfl (lv_at hl 0 rfl) ?_
  refine lv_bipush (v := 6) hx hb dX2_init_21 (by decide) ?_
  refine ini_A (N' := 6) hx hb htz hK hP hD hS hA (by decide) (by decide) (by decide) (Nat.le_of_ble_eq_true rfl) (Nat.le_of_ble_eq_true rfl) dX2_init_23 (fun q3 H hP hD hS => ?_)
  refine W.widen (k := 3) (n := 18) (by omega) (by omega) ?_
  refine ini_F (v := .ref q3) (k := 3) hx hb hown hin htz hK hP hD hS kn_X2 rfl (by decide) kf_X2_18 rfl rfl rfl rfl (Nat.le_of_ble_eq_true rfl) dX2_init_25 (fun H locs hP hD hS => ?_)
  have hP : va_P D vwCl [(h0, .inr (2, [.int 0, .ref q1, .ref q2, .ref q3])), (q1, .inl (aI, 6, .inl (fun _ => 0))), (q2, .inl (aI, 6, .inl (fun _ => 0))), (q3, .inl (aI, 6, .inl (fun _ => 0)))] H := hP
  have hD : va_D A [(h0, .inr (2, [.int 0, .ref q1, .ref q2, .ref q3])), (q1, .inl (aI, 6, .inl (fun _ => 0))), (q2, .inl (aI, 6, .inl (fun _ => 0))), (q3, .inl (aI, 6, .inl (fun _ => 0)))] := hD
  exact W.vret hx hb hr (fun t ht hW => ⟨⟨(), rfl, trivial, _, ⟨q1, q2, q3, rfl⟩, by rw [ht]; exact hP, hD⟩, hS.F ht⟩) hS.2.2 dX2_init_28 hlocks
def shX1 (aI aJ : ClassId) (h0 : Nat) (W1 : va_W) : Prop := ∃ q1 q2 q3 : Nat, W1 = [(h0, .inr (1, [.int 0, .int 0, .int 0, .int 0, .int 0, .int 60, .int 0, .int 0, .ref q1, .ref q2, .ref q3])), (q1, .inl (aI, 6, .inl (fun _ => 0))), (q2, .inl (aI, 6, .inl (fun _ => 0))), (q3, .inl (aI, 8, .inl (fun _ => 0)))]
set_option maxHeartbeats 4000000 in
set_option maxRecDepth 100000 in
theorem ic_X1 (l : Launch) : IC l yX1_init cX1_init { frames := 1, cells := 3, slots := 20, locals := 12 } 1 fdX1 shX1 3 20 := by
  intro D aI aJ h0 sz
  refine Met.ofW (cc := cX1_init) (maxL := 1) (ret := none) (by decide) rfl ?_
  intro p e s m args below meth c s₁ B hml hv
  obtain ⟨rfl, hsz, hP, hK, hD0, hN⟩ := hv
  have hx := B.exec
  have hb := B.bytes
  have hr := B.returns
  have hts := atoms_spec (ws := (.code yX1_init cX1_init 1 none :: zA)) B.pre
  have htz : ∀ q ∈ zA, q.before #[Value.ref h0] s = true := fun q hq => hts q (List.mem_cons_of_mem _ hq)
  have hown : s.vm.findClass RX1 = some m.cls := findClass_of_methodNamed B.named
  have hlocks := B.notSynchronized
  have hin : meth.name = "<init>" := (name_of_methodNamed B.named B.method).1
  subst hsz
  have hD := hD0.self (sz := s.heap.size)
  generalize hAe : va_A [(h0, .inr (1, fdX1))] s.heap.size = A at hD ⊢
  have hA : ∀ q : Nat, s.heap.size ≤ q → A q := fun q h => by rw [← hAe]; exact Or.inr h
  have hS : va_S A s.heap s.heap [] := va_S.rf
  have hl := lv_entry ([.ref h0]) (n := 1) (Nat.le_of_ble_eq_true rfl)
  rw [lg_entry_eq]
  generalize (lg_sl ([.ref h0]) ++ List.replicate (1 - (lg_sl ([.ref h0])).length) Slot.unset).toArray = ls at hl ⊢
  have hl : lv_has ls 1 [(0, .ref h0)] := hl
  have hP : va_P D vwCl [(h0, .inr (1, [.int 0, .int 0, .int 0, .int 0, .int 0, .int 0, .int 0, .int 0, .null, .null, .null]))] s.heap := hP
  have hD : va_D A [(h0, .inr (1, [.int 0, .int 0, .int 0, .int 0, .int 0, .int 0, .int 0, .int 0, .null, .null, .null]))] := hD
  refine lv_aload_n hx hb dX1_init_0 rfl (lv_at hl 0 rfl) ?_
  refine W.objInit hx hb hown (htz _ oi_X1) (htz _ oi_im) (htz _ oi_co) rfl (by rw [hml]; exact hl.1) rfl dX1_init_1 (Nat.le_of_ble_eq_true rfl) (Nat.le_of_ble_eq_true rfl) ?_
  refine W.eq (g2 := F0 m 4 ls []) rfl ?_
  refine lv_aload_n hx hb dX1_init_4 rfl (lv_at hl 0 rfl) ?_
  refine lv_bipush (v := 60) hx hb dX1_init_5 (by decide) ?_
  refine ini_N (v := .int 60) (k := 5) hx hb hown htz hK hP hD hS kn_X1 rfl (by decide) kf_X1_9 rfl rfl rfl (Nat.le_of_ble_eq_true rfl) dX1_init_7 (fun H locs hP hD hS => ?_)
  have hP : va_P D vwCl [(h0, .inr (1, [.int 0, .int 0, .int 0, .int 0, .int 0, .int 60, .int 0, .int 0, .null, .null, .null]))] H := hP
  have hD : va_D A [(h0, .inr (1, [.int 0, .int 0, .int 0, .int 0, .int 0, .int 60, .int 0, .int 0, .null, .null, .null]))] := hD
  refine lv_aload_n hx hb dX1_init_10 rfl (lv_at hl 0 rfl) ?_
  refine lv_bipush (v := 6) hx hb dX1_init_11 (by decide) ?_
  refine ini_A (N' := 6) hx hb htz hK hP hD hS hA (by decide) (by decide) (by decide) (Nat.le_of_ble_eq_true rfl) (Nat.le_of_ble_eq_true rfl) dX1_init_13 (fun q1 H hP hD hS => ?_)
  refine W.widen (k := 1) (n := 6) (by omega) (by omega) ?_
  refine ini_F (v := .ref q1) (k := 8) hx hb hown hin htz hK hP hD hS kn_X1 rfl (by decide) kf_X1_15 rfl rfl rfl rfl (Nat.le_of_ble_eq_true rfl) dX1_init_15 (fun H locs hP hD hS => ?_)
  have hP : va_P D vwCl [(h0, .inr (1, [.int 0, .int 0, .int 0, .int 0, .int 0, .int 60, .int 0, .int 0, .ref q1, .null, .null])), (q1, .inl (aI, 6, .inl (fun _ => 0)))] H := hP
  have hD : va_D A [(h0, .inr (1, [.int 0, .int 0, .int 0, .int 0, .int 0, .int 60, .int 0, .int 0, .ref q1, .null, .null])), (q1, .inl (aI, 6, .inl (fun _ => 0)))] := hD
  refine lv_aload_n hx hb dX1_init_18 rfl (lv_at hl 0 rfl) ?_
  refine lv_bipush (v := 6) hx hb dX1_init_19 (by decide) ?_
  refine ini_A (N' := 6) hx hb htz hK hP hD hS hA (by decide) (by decide) (by decide) (Nat.le_of_ble_eq_true rfl) (Nat.le_of_ble_eq_true rfl) dX1_init_21 (fun q2 H hP hD hS => ?_)
  refine W.widen (k := 2) (n := 12) (by omega) (by omega) ?_
  refine ini_F (v := .ref q2) (k := 9) hx hb hown hin htz hK hP hD hS kn_X1 rfl (by decide) kf_X1_19 rfl rfl rfl rfl (Nat.le_of_ble_eq_true rfl) dX1_init_23 (fun H locs hP hD hS => ?_)
  have hP : va_P D vwCl [(h0, .inr (1, [.int 0, .int 0, .int 0, .int 0, .int 0, .int 60, .int 0, .int 0, .ref q1, .ref q2, .null])), (q1, .inl (aI, 6, .inl (fun _ => 0))), (q2, .inl (aI, 6, .inl (fun _ => 0)))] H := hP
  have hD : va_D A [(h0, .inr (1, [.int 0, .int 0, .int 0, .int 0, .int 0, .int 60, .int 0, .int 0, .ref q1, .ref q2, .null])), (q1, .inl (aI, 6, .inl (fun _ => 0))), (q2, .inl (aI, 6, .inl (fun _ => 0)))] := hD
  refine lv_aload_n hx hb dX1_init_26 rfl (lv_at hl 0 rfl) ?_
  refine lv_bipush (v := 8) hx hb dX1_init_27 (by decide) ?_
  refine ini_A (N' := 8) hx hb htz hK hP hD hS hA (by decide) (by decide) (by decide) (Nat.le_of_ble_eq_true rfl) (Nat.le_of_ble_eq_true rfl) dX1_init_29 (fun q3 H hP hD hS => ?_)
  refine W.widen (k := 3) (n := 20) (by omega) (by omega) ?_
  refine ini_F (v := .ref q3) (k := 10) hx hb hown hin htz hK hP hD hS kn_X1 rfl (by decide) kf_X1_22 rfl rfl rfl rfl (Nat.le_of_ble_eq_true rfl) dX1_init_31 (fun H locs hP hD hS => ?_)
  have hP : va_P D vwCl [(h0, .inr (1, [.int 0, .int 0, .int 0, .int 0, .int 0, .int 60, .int 0, .int 0, .ref q1, .ref q2, .ref q3])), (q1, .inl (aI, 6, .inl (fun _ => 0))), (q2, .inl (aI, 6, .inl (fun _ => 0))), (q3, .inl (aI, 8, .inl (fun _ => 0)))] H := hP
  have hD : va_D A [(h0, .inr (1, [.int 0, .int 0, .int 0, .int 0, .int 0, .int 60, .int 0, .int 0, .ref q1, .ref q2, .ref q3])), (q1, .inl (aI, 6, .inl (fun _ => 0))), (q2, .inl (aI, 6, .inl (fun _ => 0))), (q3, .inl (aI, 8, .inl (fun _ => 0)))] := hD
  exact W.vret hx hb hr (fun t ht hW => ⟨⟨(), rfl, trivial, _, ⟨q1, q2, q3, rfl⟩, by rw [ht]; exact hP, hD⟩, hS.F ht⟩) hS.2.2 dX1_init_34 hlocks
def shX3 (aI aJ : ClassId) (h0 : Nat) (W1 : va_W) : Prop := ∃ q1 q2 q3 q4 : Nat, W1 = [(h0, .inr (3, [.ref q1, .int 0, .int 0, .int 0])), (q1, .inr (1, [.int 0, .int 0, .int 0, .int 0, .int 0, .int 60, .int 0, .int 0, .ref q2, .ref q3, .ref q4])), (q2, .inl (aI, 6, .inl (fun _ => 0))), (q3, .inl (aI, 6, .inl (fun _ => 0))), (q4, .inl (aI, 8, .inl (fun _ => 0)))]
set_option maxHeartbeats 4000000 in
set_option maxRecDepth 100000 in
theorem ic_X3 (l : Launch) : IC l yX3_init cX3_init { frames := 2, cells := 4, slots := 31, locals := 32 } 3 fdX3 shX3 4 31 := by
  intro D aI aJ h0 sz
  refine Met.ofW (cc := cX3_init) (maxL := 1) (ret := none) (by decide) rfl ?_
  intro p e s m args below meth c s₁ B hml hv
  obtain ⟨rfl, hsz, hP, hK, hD0, hN⟩ := hv
  have hx := B.exec
  have hb := B.bytes
  have hr := B.returns
  have hts := atoms_spec (ws := (.code yX3_init cX3_init 1 none :: zA)) B.pre
  have htz : ∀ q ∈ zA, q.before #[Value.ref h0] s = true := fun q hq => hts q (List.mem_cons_of_mem _ hq)
  have hown : s.vm.findClass RX3 = some m.cls := findClass_of_methodNamed B.named
  have hlocks := B.notSynchronized
  have hin : meth.name = "<init>" := (name_of_methodNamed B.named B.method).1
  subst hsz
  have hD := hD0.self (sz := s.heap.size)
  generalize hAe : va_A [(h0, .inr (3, fdX3))] s.heap.size = A at hD ⊢
  have hA : ∀ q : Nat, s.heap.size ≤ q → A q := fun q h => by rw [← hAe]; exact Or.inr h
  have hS : va_S A s.heap s.heap [] := va_S.rf
  have hl := lv_entry ([.ref h0]) (n := 1) (Nat.le_of_ble_eq_true rfl)
  rw [lg_entry_eq]
  generalize (lg_sl ([.ref h0]) ++ List.replicate (1 - (lg_sl ([.ref h0])).length) Slot.unset).toArray = ls at hl ⊢
  have hl : lv_has ls 1 [(0, .ref h0)] := hl
  have hP : va_P D vwCl [(h0, .inr (3, [.null, .int 0, .int 0, .int 0]))] s.heap := hP
  have hD : va_D A [(h0, .inr (3, [.null, .int 0, .int 0, .int 0]))] := hD
  refine lv_aload_n hx hb dX3_init_0 rfl (lv_at hl 0 rfl) ?_
  refine W.objInit hx hb hown (htz _ oi_X3) (htz _ oi_im) (htz _ oi_co) rfl (by rw [hml]; exact hl.1) rfl dX3_init_1 (Nat.le_of_ble_eq_true rfl) (Nat.le_of_ble_eq_true rfl) ?_
  refine W.eq (g2 := F0 m 4 ls []) rfl ?_
  refine lv_aload_n hx hb dX3_init_4 rfl (lv_at hl 0 rfl) ?_
  refine ini_O (y := yX1_init) (Sh := shX1) hx hb hml hown htz hN hK hP hD hS hA hl.1 kn_X1 cl_X3_7 in_X1 ii_X1 fdX1_ok dX3_init_5 dX3_init_8 dX3_init_9 (ic_X1 l) cal_X1_init rfl im_X1 (Or.inr ⟨_, nw_X3_9⟩) ⟨rfl, rfl⟩ ⟨Nat.le_of_ble_eq_true rfl, Nat.le_of_ble_eq_true rfl⟩ (Nat.le_of_ble_eq_true rfl) (Nat.le_of_ble_eq_true rfl) (Nat.le_of_ble_eq_true rfl) (fun q1 W1 H locs sh hP hD hS => ?_)
  obtain ⟨q2, q3, q4, rfl⟩ := sh
  refine W.widen (k := 4) (n := 31) (by omega) (by omega) ?_
  refine ini_F (v := .ref q1) (k := 0) hx hb hown hin htz hK hP hD hS kn_X3 rfl (by decide) kf_X3_10 rfl rfl rfl rfl (Nat.le_of_ble_eq_true rfl) dX3_init_12 (fun H locs hP hD hS => ?_)
  have hP : va_P D vwCl [(h0, .inr (3, [.ref q1, .int 0, .int 0, .int 0])), (q1, .inr (1, [.int 0, .int 0, .int 0, .int 0, .int 0, .int 60, .int 0, .int 0, .ref q2, .ref q3, .ref q4])), (q2, .inl (aI, 6, .inl (fun _ => 0))), (q3, .inl (aI, 6, .inl (fun _ => 0))), (q4, .inl (aI, 8, .inl (fun _ => 0)))] H := hP
  have hD : va_D A [(h0, .inr (3, [.ref q1, .int 0, .int 0, .int 0])), (q1, .inr (1, [.int 0, .int 0, .int 0, .int 0, .int 0, .int 60, .int 0, .int 0, .ref q2, .ref q3, .ref q4])), (q2, .inl (aI, 6, .inl (fun _ => 0))), (q3, .inl (aI, 6, .inl (fun _ => 0))), (q4, .inl (aI, 8, .inl (fun _ => 0)))] := hD
  exact W.vret hx hb hr (fun t ht hW => ⟨⟨(), rfl, trivial, _, ⟨q1, q2, q3, q4, rfl⟩, by rw [ht]; exact hP, hD⟩, hS.F ht⟩) hS.2.2 dX3_init_15 hlocks
def shX0 (aI aJ : ClassId) (h0 : Nat) (W1 : va_W) : Prop := ∃ q1 : Nat, W1 = [(h0, .inr (0, [.long 0, .long 0, .int 0, .ref q1])), (q1, .inl (aJ, 64, .inr (.inl (fun _ => 0))))]
set_option maxHeartbeats 4000000 in
set_option maxRecDepth 100000 in
theorem ic_X0 (l : Launch) : IC l yX0_init cX0_init { frames := 1, cells := 1, slots := 64, locals := 12 } 0 fdX0 shX0 1 64 := by
  intro D aI aJ h0 sz
  refine Met.ofW (cc := cX0_init) (maxL := 1) (ret := none) (by decide) rfl ?_
  intro p e s m args below meth c s₁ B hml hv
  obtain ⟨rfl, hsz, hP, hK, hD0, hN⟩ := hv
  have hx := B.exec
  have hb := B.bytes
  have hr := B.returns
  have hts := atoms_spec (ws := (.code yX0_init cX0_init 1 none :: zA)) B.pre
  have htz : ∀ q ∈ zA, q.before #[Value.ref h0] s = true := fun q hq => hts q (List.mem_cons_of_mem _ hq)
  have hown : s.vm.findClass RX0 = some m.cls := findClass_of_methodNamed B.named
  have hlocks := B.notSynchronized
  have hin : meth.name = "<init>" := (name_of_methodNamed B.named B.method).1
  subst hsz
  have hD := hD0.self (sz := s.heap.size)
  generalize hAe : va_A [(h0, .inr (0, fdX0))] s.heap.size = A at hD ⊢
  have hA : ∀ q : Nat, s.heap.size ≤ q → A q := fun q h => by rw [← hAe]; exact Or.inr h
  have hS : va_S A s.heap s.heap [] := va_S.rf
  have hl := lv_entry ([.ref h0]) (n := 1) (Nat.le_of_ble_eq_true rfl)
  rw [lg_entry_eq]
  generalize (lg_sl ([.ref h0]) ++ List.replicate (1 - (lg_sl ([.ref h0])).length) Slot.unset).toArray = ls at hl ⊢
  have hl : lv_has ls 1 [(0, .ref h0)] := hl
  have hP : va_P D vwCl [(h0, .inr (0, [.long 0, .long 0, .int 0, .null]))] s.heap := hP
  have hD : va_D A [(h0, .inr (0, [.long 0, .long 0, .int 0, .null]))] := hD
  refine lv_aload_n hx hb dX0_init_0 rfl (lv_at hl 0 rfl) ?_
  refine W.objInit hx hb hown (htz _ oi_X0) (htz _ oi_im) (htz _ oi_co) rfl (by rw [hml]; exact hl.1) rfl dX0_init_1 (Nat.le_of_ble_eq_true rfl) (Nat.le_of_ble_eq_true rfl) ?_
  refine W.eq (g2 := F0 m 4 ls []) rfl ?_
  refine lv_aload_n hx hb dX0_init_4 rfl (lv_at hl 0 rfl) ?_
  refine lv_bipush (v := 64) hx hb dX0_init_5 (by decide) ?_
  refine ini_B (N' := 64) hx hb htz hK hP hD hS hA (by decide) (by decide) (by decide) (Nat.le_of_ble_eq_true rfl) (Nat.le_of_ble_eq_true rfl) dX0_init_7 (fun q1 H hP hD hS => ?_)
  refine W.widen (k := 1) (n := 64) (by omega) (by omega) ?_
  refine ini_F (v := .ref q1) (k := 3) hx hb hown hin htz hK hP hD hS kn_X0 rfl (by decide) kf_X0_9 rfl rfl rfl rfl (Nat.le_of_ble_eq_true rfl) dX0_init_9 (fun H locs hP hD hS => ?_)
  have hP : va_P D vwCl [(h0, .inr (0, [.long 0, .long 0, .int 0, .ref q1])), (q1, .inl (aJ, 64, .inr (.inl (fun _ => 0))))] H := hP
  have hD : va_D A [(h0, .inr (0, [.long 0, .long 0, .int 0, .ref q1])), (q1, .inl (aJ, 64, .inr (.inl (fun _ => 0))))] := hD
  exact W.vret hx hb hr (fun t ht hW => ⟨⟨(), rfl, trivial, _, ⟨q1, rfl⟩, by rw [ht]; exact hP, hD⟩, hS.F ht⟩) hS.2.2 dX0_init_12 hlocks
def shX4 (aI aJ : ClassId) (h0 : Nat) (W1 : va_W) : Prop := ∃ q1 q2 : Nat, W1 = [(h0, .inr (4, [.long 0, .int 0, .ref q1, .ref q2])), (q1, .inl (aJ, 64, .inr (.inl (fun _ => 0)))), (q2, .inl (aI, 64, .inl (fun _ => 0)))]
set_option maxHeartbeats 4000000 in
set_option maxRecDepth 100000 in
theorem ic_X4 (l : Launch) : IC l yX4_init cX4_init { frames := 1, cells := 2, slots := 128, locals := 12 } 4 fdX4 shX4 2 128 := by
  intro D aI aJ h0 sz
  refine Met.ofW (cc := cX4_init) (maxL := 1) (ret := none) (by decide) rfl ?_
  intro p e s m args below meth c s₁ B hml hv
  obtain ⟨rfl, hsz, hP, hK, hD0, hN⟩ := hv
  have hx := B.exec
  have hb := B.bytes
  have hr := B.returns
  have hts := atoms_spec (ws := (.code yX4_init cX4_init 1 none :: zA)) B.pre
  have htz : ∀ q ∈ zA, q.before #[Value.ref h0] s = true := fun q hq => hts q (List.mem_cons_of_mem _ hq)
  have hown : s.vm.findClass RX4 = some m.cls := findClass_of_methodNamed B.named
  have hlocks := B.notSynchronized
  have hin : meth.name = "<init>" := (name_of_methodNamed B.named B.method).1
  subst hsz
  have hD := hD0.self (sz := s.heap.size)
  generalize hAe : va_A [(h0, .inr (4, fdX4))] s.heap.size = A at hD ⊢
  have hA : ∀ q : Nat, s.heap.size ≤ q → A q := fun q h => by rw [← hAe]; exact Or.inr h
  have hS : va_S A s.heap s.heap [] := va_S.rf
  have hl := lv_entry ([.ref h0]) (n := 1) (Nat.le_of_ble_eq_true rfl)
  rw [lg_entry_eq]
  generalize (lg_sl ([.ref h0]) ++ List.replicate (1 - (lg_sl ([.ref h0])).length) Slot.unset).toArray = ls at hl ⊢
  have hl : lv_has ls 1 [(0, .ref h0)] := hl
  have hP : va_P D vwCl [(h0, .inr (4, [.long 0, .int 0, .null, .null]))] s.heap := hP
  have hD : va_D A [(h0, .inr (4, [.long 0, .int 0, .null, .null]))] := hD
  refine lv_aload_n hx hb dX4_init_0 rfl (lv_at hl 0 rfl) ?_
  refine W.objInit hx hb hown (htz _ oi_X4) (htz _ oi_im) (htz _ oi_co) rfl (by rw [hml]; exact hl.1) rfl dX4_init_1 (Nat.le_of_ble_eq_true rfl) (Nat.le_of_ble_eq_true rfl) ?_
  refine W.eq (g2 := F0 m 4 ls []) rfl ?_
  refine lv_aload_n hx hb dX4_init_4 rfl (lv_at hl 0 rfl) ?_
  refine lv_bipush (v := 64) hx hb dX4_init_5 (by decide) ?_
  refine ini_B (N' := 64) hx hb htz hK hP hD hS hA (by decide) (by decide) (by decide) (Nat.le_of_ble_eq_true rfl) (Nat.le_of_ble_eq_true rfl) dX4_init_7 (fun q1 H hP hD hS => ?_)
  refine W.widen (k := 1) (n := 64) (by omega) (by omega) ?_
  refine ini_F (v := .ref q1) (k := 2) hx hb hown hin htz hK hP hD hS kn_X4 rfl (by decide) kf_X4_9 rfl rfl rfl rfl (Nat.le_of_ble_eq_true rfl) dX4_init_9 (fun H locs hP hD hS => ?_)
  have hP : va_P D vwCl [(h0, .inr (4, [.long 0, .int 0, .ref q1, .null])), (q1, .inl (aJ, 64, .inr (.inl (fun _ => 0))))] H := hP
  have hD : va_D A [(h0, .inr (4, [.long 0, .int 0, .ref q1, .null])), (q1, .inl (aJ, 64, .inr (.inl (fun _ => 0))))] := hD
  refine lv_aload_n hx hb dX4_init_12 rfl (lv_at hl 0 rfl) ?_
  refine lv_bipush (v := 64) hx hb dX4_init_13 (by decide) ?_
  refine ini_A (N' := 64) hx hb htz hK hP hD hS hA (by decide) (by decide) (by decide) (Nat.le_of_ble_eq_true rfl) (Nat.le_of_ble_eq_true rfl) dX4_init_15 (fun q2 H hP hD hS => ?_)
  refine W.widen (k := 2) (n := 128) (by omega) (by omega) ?_
  refine ini_F (v := .ref q2) (k := 3) hx hb hown hin htz hK hP hD hS kn_X4 rfl (by decide) kf_X4_15 rfl rfl rfl rfl (Nat.le_of_ble_eq_true rfl) dX4_init_17 (fun H locs hP hD hS => ?_)
  have hP : va_P D vwCl [(h0, .inr (4, [.long 0, .int 0, .ref q1, .ref q2])), (q1, .inl (aJ, 64, .inr (.inl (fun _ => 0)))), (q2, .inl (aI, 64, .inl (fun _ => 0)))] H := hP
  have hD : va_D A [(h0, .inr (4, [.long 0, .int 0, .ref q1, .ref q2])), (q1, .inl (aJ, 64, .inr (.inl (fun _ => 0)))), (q2, .inl (aI, 64, .inl (fun _ => 0)))] := hD
  exact W.vret hx hb hr (fun t ht hW => ⟨⟨(), rfl, trivial, _, ⟨q1, q2, rfl⟩, by rw [ht]; exact hP, hD⟩, hS.F ht⟩) hS.2.2 dX4_init_20 hlocks
def shX8 (aI aJ : ClassId) (h0 : Nat) (W1 : va_W) : Prop := ∃ q1 q2 q3 : Nat, W1 = [(h0, .inr (8, [.int 0, .int 0, .ref q1, .ref q2, .ref q3])), (q1, .inl (aI, 6, .inl (fun _ => 0))), (q2, .inl (aI, 64, .inl (fun _ => 0))), (q3, .inl (aI, 64, .inl (fun _ => 0)))]
set_option maxHeartbeats 4000000 in
set_option maxRecDepth 100000 in
theorem ic_X8 (l : Launch) : IC l yX8_init cX8_init { frames := 1, cells := 3, slots := 134, locals := 12 } 8 fdX8 shX8 3 134 := by
  intro D aI aJ h0 sz
  refine Met.ofW (cc := cX8_init) (maxL := 1) (ret := none) (by decide) rfl ?_
  intro p e s m args below meth c s₁ B hml hv
  obtain ⟨rfl, hsz, hP, hK, hD0, hN⟩ := hv
  have hx := B.exec
  have hb := B.bytes
  have hr := B.returns
  have hts := atoms_spec (ws := (.code yX8_init cX8_init 1 none :: zA)) B.pre
  have htz : ∀ q ∈ zA, q.before #[Value.ref h0] s = true := fun q hq => hts q (List.mem_cons_of_mem _ hq)
  have hown : s.vm.findClass RX8 = some m.cls := findClass_of_methodNamed B.named
  have hlocks := B.notSynchronized
  have hin : meth.name = "<init>" := (name_of_methodNamed B.named B.method).1
  subst hsz
  have hD := hD0.self (sz := s.heap.size)
  generalize hAe : va_A [(h0, .inr (8, fdX8))] s.heap.size = A at hD ⊢
  have hA : ∀ q : Nat, s.heap.size ≤ q → A q := fun q h => by rw [← hAe]; exact Or.inr h
  have hS : va_S A s.heap s.heap [] := va_S.rf
  have hl := lv_entry ([.ref h0]) (n := 1) (Nat.le_of_ble_eq_true rfl)
  rw [lg_entry_eq]
  generalize (lg_sl ([.ref h0]) ++ List.replicate (1 - (lg_sl ([.ref h0])).length) Slot.unset).toArray = ls at hl ⊢
  have hl : lv_has ls 1 [(0, .ref h0)] := hl
  have hP : va_P D vwCl [(h0, .inr (8, [.int 0, .int 0, .null, .null, .null]))] s.heap := hP
  have hD : va_D A [(h0, .inr (8, [.int 0, .int 0, .null, .null, .null]))] := hD
  refine lv_aload_n hx hb dX8_init_0 rfl (lv_at hl 0 rfl) ?_
  refine W.objInit hx hb hown (htz _ oi_X8) (htz _ oi_im) (htz _ oi_co) rfl (by rw [hml]; exact hl.1) rfl dX8_init_1 (Nat.le_of_ble_eq_true rfl) (Nat.le_of_ble_eq_true rfl) ?_
  refine W.eq (g2 := F0 m 4 ls []) rfl ?_
  refine lv_aload_n hx hb dX8_init_4 rfl (lv_at hl 0 rfl) ?_
  refine lv_bipush (v := 6) hx hb dX8_init_5 (by decide) ?_
  refine ini_A (N' := 6) hx hb htz hK hP hD hS hA (by decide) (by decide) (by decide) (Nat.le_of_ble_eq_true rfl) (Nat.le_of_ble_eq_true rfl) dX8_init_7 (fun q1 H hP hD hS => ?_)
  refine W.widen (k := 1) (n := 6) (by omega) (by omega) ?_
  refine ini_F (v := .ref q1) (k := 2) hx hb hown hin htz hK hP hD hS kn_X8 rfl (by decide) kf_X8_9 rfl rfl rfl rfl (Nat.le_of_ble_eq_true rfl) dX8_init_9 (fun H locs hP hD hS => ?_)
  have hP : va_P D vwCl [(h0, .inr (8, [.int 0, .int 0, .ref q1, .null, .null])), (q1, .inl (aI, 6, .inl (fun _ => 0)))] H := hP
  have hD : va_D A [(h0, .inr (8, [.int 0, .int 0, .ref q1, .null, .null])), (q1, .inl (aI, 6, .inl (fun _ => 0)))] := hD
  refine lv_aload_n hx hb dX8_init_12 rfl (lv_at hl 0 rfl) ?_
  refine lv_bipush (v := 64) hx hb dX8_init_13 (by decide) ?_
  refine ini_A (N' := 64) hx hb htz hK hP hD hS hA (by decide) (by decide) (by decide) (Nat.le_of_ble_eq_true rfl) (Nat.le_of_ble_eq_true rfl) dX8_init_15 (fun q2 H hP hD hS => ?_)
  refine W.widen (k := 2) (n := 70) (by omega) (by omega) ?_
  refine ini_F (v := .ref q2) (k := 3) hx hb hown hin htz hK hP hD hS kn_X8 rfl (by decide) kf_X8_15 rfl rfl rfl rfl (Nat.le_of_ble_eq_true rfl) dX8_init_17 (fun H locs hP hD hS => ?_)
  have hP : va_P D vwCl [(h0, .inr (8, [.int 0, .int 0, .ref q1, .ref q2, .null])), (q1, .inl (aI, 6, .inl (fun _ => 0))), (q2, .inl (aI, 64, .inl (fun _ => 0)))] H := hP
  have hD : va_D A [(h0, .inr (8, [.int 0, .int 0, .ref q1, .ref q2, .null])), (q1, .inl (aI, 6, .inl (fun _ => 0))), (q2, .inl (aI, 64, .inl (fun _ => 0)))] := hD
  refine lv_aload_n hx hb dX8_init_20 rfl (lv_at hl 0 rfl) ?_
  refine lv_bipush (v := 64) hx hb dX8_init_21 (by decide) ?_
  refine ini_A (N' := 64) hx hb htz hK hP hD hS hA (by decide) (by decide) (by decide) (Nat.le_of_ble_eq_true rfl) (Nat.le_of_ble_eq_true rfl) dX8_init_23 (fun q3 H hP hD hS => ?_)
  refine W.widen (k := 3) (n := 134) (by omega) (by omega) ?_
  refine ini_F (v := .ref q3) (k := 4) hx hb hown hin htz hK hP hD hS kn_X8 rfl (by decide) kf_X8_18 rfl rfl rfl rfl (Nat.le_of_ble_eq_true rfl) dX8_init_25 (fun H locs hP hD hS => ?_)
  have hP : va_P D vwCl [(h0, .inr (8, [.int 0, .int 0, .ref q1, .ref q2, .ref q3])), (q1, .inl (aI, 6, .inl (fun _ => 0))), (q2, .inl (aI, 64, .inl (fun _ => 0))), (q3, .inl (aI, 64, .inl (fun _ => 0)))] H := hP
  have hD : va_D A [(h0, .inr (8, [.int 0, .int 0, .ref q1, .ref q2, .ref q3])), (q1, .inl (aI, 6, .inl (fun _ => 0))), (q2, .inl (aI, 64, .inl (fun _ => 0))), (q3, .inl (aI, 64, .inl (fun _ => 0)))] := hD
  exact W.vret hx hb hr (fun t ht hW => ⟨⟨(), rfl, trivial, _, ⟨q1, q2, q3, rfl⟩, by rw [ht]; exact hP, hD⟩, hS.F ht⟩) hS.2.2 dX8_init_28 hlocks
def shX9 (aI aJ : ClassId) (h0 : Nat) (W1 : va_W) : Prop := W1 = [(h0, .inr (9, [.long 0, .int 0, .int 0, .int 0]))]
set_option maxHeartbeats 4000000 in
set_option maxRecDepth 100000 in
theorem ic_X9 (l : Launch) : IC l yX9_init cX9_init { frames := 1, cells := 0, slots := 0, locals := 12 } 9 fdX9 shX9 0 0 := by
  intro D aI aJ h0 sz
  refine Met.ofW (cc := cX9_init) (maxL := 1) (ret := none) (by decide) rfl ?_
  intro p e s m args below meth c s₁ B hml hv
  obtain ⟨rfl, hsz, hP, hK, hD0, hN⟩ := hv
  have hx := B.exec
  have hb := B.bytes
  have hr := B.returns
  have hts := atoms_spec (ws := (.code yX9_init cX9_init 1 none :: zA)) B.pre
  have htz : ∀ q ∈ zA, q.before #[Value.ref h0] s = true := fun q hq => hts q (List.mem_cons_of_mem _ hq)
  have hown : s.vm.findClass RX9 = some m.cls := findClass_of_methodNamed B.named
  have hlocks := B.notSynchronized
  have hin : meth.name = "<init>" := (name_of_methodNamed B.named B.method).1
  subst hsz
  have hD := hD0.self (sz := s.heap.size)
  generalize hAe : va_A [(h0, .inr (9, fdX9))] s.heap.size = A at hD ⊢
  have hA : ∀ q : Nat, s.heap.size ≤ q → A q := fun q h => by rw [← hAe]; exact Or.inr h
  have hS : va_S A s.heap s.heap [] := va_S.rf
  have hl := lv_entry ([.ref h0]) (n := 1) (Nat.le_of_ble_eq_true rfl)
  rw [lg_entry_eq]
  generalize (lg_sl ([.ref h0]) ++ List.replicate (1 - (lg_sl ([.ref h0])).length) Slot.unset).toArray = ls at hl ⊢
  have hl : lv_has ls 1 [(0, .ref h0)] := hl
  have hP : va_P D vwCl [(h0, .inr (9, [.long 0, .int 0, .int 0, .int 0]))] s.heap := hP
  have hD : va_D A [(h0, .inr (9, [.long 0, .int 0, .int 0, .int 0]))] := hD
  refine lv_aload_n hx hb dX9_init_0 rfl (lv_at hl 0 rfl) ?_
  refine W.objInit hx hb hown (htz _ oi_X9) (htz _ oi_im) (htz _ oi_co) rfl (by rw [hml]; exact hl.1) rfl dX9_init_1 (Nat.le_of_ble_eq_true rfl) (Nat.le_of_ble_eq_true rfl) ?_
  refine W.eq (g2 := F0 m 4 ls []) rfl ?_
  exact W.vret hx hb hr (fun t ht hW => ⟨⟨(), rfl, trivial, _, rfl, by rw [ht]; exact hP, hD⟩, hS.F ht⟩) hS.2.2 dX9_init_4 hlocks
def shX10 (aI aJ : ClassId) (h0 : Nat) (W1 : va_W) : Prop := ∃ q1 q2 q3 q4 q5 q6 q7 q8 q9 q10 q11 q12 q13 q14 q15 q16 q17 q18 q19 q20 q21 q22 q23 q24 q25 q26 q27 q28 q29 q30 q31 : Nat, W1 = [(h0, .inr (10, [.ref q1, .ref q3, .ref q6, .ref q9, .ref q13, .ref q17, .ref q22, .ref q24, .ref q27, .ref q31, .int 0, .int 0])), (q1, .inr (5, [.ref q2, .int 0])), (q2, .inl (aI, 22, .inl (fun _ => 0))), (q3, .inr (7, [.int 0, .int 0, .int 0, .ref q4, .ref q5])), (q4, .inl (aI, 3, .inl (fun _ => 0))), (q5, .inl (aI, 10, .inl (fun _ => 0))), (q6, .inr (6, [.int 0, .ref q7, .ref q8])), (q7, .inl (aI, 6, .inl (fun _ => 0))), (q8, .inl (aI, 6, .inl (fun _ => 0))), (q9, .inr (2, [.int 0, .ref q10, .ref q11, .ref q12])), (q10, .inl (aI, 6, .inl (fun _ => 0))), (q11, .inl (aI, 6, .inl (fun _ => 0))), (q12, .inl (aI, 6, .inl (fun _ => 0))), (q13, .inr (1, [.int 0, .int 0, .int 0, .int 0, .int 0, .int 60, .int 0, .int 0, .ref q14, .ref q15, .ref q16])), (q14, .inl (aI, 6, .inl (fun _ => 0))), (q15, .inl (aI, 6, .inl (fun _ => 0))), (q16, .inl (aI, 8, .inl (fun _ => 0))), (q17, .inr (3, [.ref q18, .int 0, .int 0, .int 0])), (q18, .inr (1, [.int 0, .int 0, .int 0, .int 0, .int 0, .int 60, .int 0, .int 0, .ref q19, .ref q20, .ref q21])), (q19, .inl (aI, 6, .inl (fun _ => 0))), (q20, .inl (aI, 6, .inl (fun _ => 0))), (q21, .inl (aI, 8, .inl (fun _ => 0))), (q22, .inr (0, [.long 0, .long 0, .int 0, .ref q23])), (q23, .inl (aJ, 64, .inr (.inl (fun _ => 0)))), (q24, .inr (4, [.long 0, .int 0, .ref q25, .ref q26])), (q25, .inl (aJ, 64, .inr (.inl (fun _ => 0)))), (q26, .inl (aI, 64, .inl (fun _ => 0))), (q27, .inr (8, [.int 0, .int 0, .ref q28, .ref q29, .ref q30])), (q28, .inl (aI, 6, .inl (fun _ => 0))), (q29, .inl (aI, 64, .inl (fun _ => 0))), (q30, .inl (aI, 64, .inl (fun _ => 0))), (q31, .inr (9, [.long 0, .int 0, .int 0, .int 0]))]
set_option maxHeartbeats 4000000 in
set_option maxRecDepth 100000 in
theorem ic_X10 (l : Launch) : IC l yX10_init cX10_init { frames := 3, cells := 31, slots := 488, locals := 52 } 10 fdX10 shX10 31 488 := by
  intro D aI aJ h0 sz
  refine Met.ofW (cc := cX10_init) (maxL := 1) (ret := none) (by decide) rfl ?_
  intro p e s m args below meth c s₁ B hml hv
  obtain ⟨rfl, hsz, hP, hK, hD0, hN⟩ := hv
  have hx := B.exec
  have hb := B.bytes
  have hr := B.returns
  have hts := atoms_spec (ws := (.code yX10_init cX10_init 1 none :: zA)) B.pre
  have htz : ∀ q ∈ zA, q.before #[Value.ref h0] s = true := fun q hq => hts q (List.mem_cons_of_mem _ hq)
  have hown : s.vm.findClass RX10 = some m.cls := findClass_of_methodNamed B.named
  have hlocks := B.notSynchronized
  have hin : meth.name = "<init>" := (name_of_methodNamed B.named B.method).1
  subst hsz
  have hD := hD0.self (sz := s.heap.size)
  generalize hAe : va_A [(h0, .inr (10, fdX10))] s.heap.size = A at hD ⊢
  have hA : ∀ q : Nat, s.heap.size ≤ q → A q := fun q h => by rw [← hAe]; exact Or.inr h
  have hS : va_S A s.heap s.heap [] := va_S.rf
  have hl := lv_entry ([.ref h0]) (n := 1) (Nat.le_of_ble_eq_true rfl)
  rw [lg_entry_eq]
  generalize (lg_sl ([.ref h0]) ++ List.replicate (1 - (lg_sl ([.ref h0])).length) Slot.unset).toArray = ls at hl ⊢
  have hl : lv_has ls 1 [(0, .ref h0)] := hl
  have hP : va_P D vwCl [(h0, .inr (10, [.null, .null, .null, .null, .null, .null, .null, .null, .null, .null, .int 0, .int 0]))] s.heap := hP
  have hD : va_D A [(h0, .inr (10, [.null, .null, .null, .null, .null, .null, .null, .null, .null, .null, .int 0, .int 0]))] := hD
  refine lv_aload_n hx hb dX10_init_0 rfl (lv_at hl 0 rfl) ?_
  refine W.objInit hx hb hown (htz _ oi_X10) (htz _ oi_im) (htz _ oi_co) rfl (by rw [hml]; exact hl.1) rfl dX10_init_1 (Nat.le_of_ble_eq_true rfl) (Nat.le_of_ble_eq_true rfl) ?_
  refine W.eq (g2 := F0 m 4 ls []) rfl ?_
  refine lv_aload_n hx hb dX10_init_4 rfl (lv_at hl 0 rfl) ?_
  refine ini_O (y := yX5_init) (Sh := shX5) hx hb hml hown htz hN hK hP hD hS hA hl.1 kn_X5 cl_X10_7 in_X5 ii_X5 fdX5_ok dX10_init_5 dX10_init_8 dX10_init_9 (ic_X5 l) cal_X5_init rfl im_X5 (Or.inr ⟨_, nw_X10_9⟩) ⟨rfl, rfl⟩ ⟨Nat.le_of_ble_eq_true rfl, Nat.le_of_ble_eq_true rfl⟩ (Nat.le_of_ble_eq_true rfl) (Nat.le_of_ble_eq_true rfl) (Nat.le_of_ble_eq_true rfl) (fun q1 W1 H locs sh hP hD hS => ?_)
  obtain ⟨q2, rfl⟩ := sh
  refine W.widen (k := 2) (n := 24) (by omega) (by omega) ?_
  refine ini_F (v := .ref q1) (k := 0) hx hb hown hin htz hK hP hD hS kn_X10 rfl (by decide) kf_X10_10 rfl rfl rfl rfl (Nat.le_of_ble_eq_true rfl) dX10_init_12 (fun H locs hP hD hS => ?_)
  have hP : va_P D vwCl [(h0, .inr (10, [.ref q1, .null, .null, .null, .null, .null, .null, .null, .null, .null, .int 0, .int 0])), (q1, .inr (5, [.ref q2, .int 0])), (q2, .inl (aI, 22, .inl (fun _ => 0)))] H := hP
  have hD : va_D A [(h0, .inr (10, [.ref q1, .null, .null, .null, .null, .null, .null, .null, .null, .null, .int 0, .int 0])), (q1, .inr (5, [.ref q2, .int 0])), (q2, .inl (aI, 22, .inl (fun _ => 0)))] := hD
  refine lv_aload_n hx hb dX10_init_15 rfl (lv_at hl 0 rfl) ?_
  refine ini_O (y := yX7_init) (Sh := shX7) hx hb hml hown htz hN hK hP hD hS hA hl.1 kn_X7 cl_X10_16 in_X7 ii_X7 fdX7_ok dX10_init_16 dX10_init_19 dX10_init_20 (ic_X7 l) cal_X7_init rfl im_X7 (Or.inr ⟨_, nw_X10_18⟩) ⟨rfl, rfl⟩ ⟨Nat.le_of_ble_eq_true rfl, Nat.le_of_ble_eq_true rfl⟩ (Nat.le_of_ble_eq_true rfl) (Nat.le_of_ble_eq_true rfl) (Nat.le_of_ble_eq_true rfl) (fun q3 W1 H locs sh hP hD hS => ?_)
  obtain ⟨q4, q5, rfl⟩ := sh
  refine W.widen (k := 5) (n := 42) (by omega) (by omega) ?_
  refine ini_F (v := .ref q3) (k := 1) hx hb hown hin htz hK hP hD hS kn_X10 rfl (by decide) kf_X10_19 rfl rfl rfl rfl (Nat.le_of_ble_eq_true rfl) dX10_init_23 (fun H locs hP hD hS => ?_)
  have hP : va_P D vwCl [(h0, .inr (10, [.ref q1, .ref q3, .null, .null, .null, .null, .null, .null, .null, .null, .int 0, .int 0])), (q1, .inr (5, [.ref q2, .int 0])), (q2, .inl (aI, 22, .inl (fun _ => 0))), (q3, .inr (7, [.int 0, .int 0, .int 0, .ref q4, .ref q5])), (q4, .inl (aI, 3, .inl (fun _ => 0))), (q5, .inl (aI, 10, .inl (fun _ => 0)))] H := hP
  have hD : va_D A [(h0, .inr (10, [.ref q1, .ref q3, .null, .null, .null, .null, .null, .null, .null, .null, .int 0, .int 0])), (q1, .inr (5, [.ref q2, .int 0])), (q2, .inl (aI, 22, .inl (fun _ => 0))), (q3, .inr (7, [.int 0, .int 0, .int 0, .ref q4, .ref q5])), (q4, .inl (aI, 3, .inl (fun _ => 0))), (q5, .inl (aI, 10, .inl (fun _ => 0)))] := hD
  refine lv_aload_n hx hb dX10_init_26 rfl (lv_at hl 0 rfl) ?_
  refine ini_O (y := yX6_init) (Sh := shX6) hx hb hml hown htz hN hK hP hD hS hA hl.1 kn_X6 cl_X10_23 in_X6 ii_X6 fdX6_ok dX10_init_27 dX10_init_30 dX10_init_31 (ic_X6 l) cal_X6_init rfl im_X6 (Or.inr ⟨_, nw_X10_25⟩) ⟨rfl, rfl⟩ ⟨Nat.le_of_ble_eq_true rfl, Nat.le_of_ble_eq_true rfl⟩ (Nat.le_of_ble_eq_true rfl) (Nat.le_of_ble_eq_true rfl) (Nat.le_of_ble_eq_true rfl) (fun q6 W1 H locs sh hP hD hS => ?_)
  obtain ⟨q7, q8, rfl⟩ := sh
  refine W.widen (k := 8) (n := 57) (by omega) (by omega) ?_
  refine ini_F (v := .ref q6) (k := 2) hx hb hown hin htz hK hP hD hS kn_X10 rfl (by decide) kf_X10_26 rfl rfl rfl rfl (Nat.le_of_ble_eq_true rfl) dX10_init_34 (fun H locs hP hD hS => ?_)
  have hP : va_P D vwCl [(h0, .inr (10, [.ref q1, .ref q3, .ref q6, .null, .null, .null, .null, .null, .null, .null, .int 0, .int 0])), (q1, .inr (5, [.ref q2, .int 0])), (q2, .inl (aI, 22, .inl (fun _ => 0))), (q3, .inr (7, [.int 0, .int 0, .int 0, .ref q4, .ref q5])), (q4, .inl (aI, 3, .inl (fun _ => 0))), (q5, .inl (aI, 10, .inl (fun _ => 0))), (q6, .inr (6, [.int 0, .ref q7, .ref q8])), (q7, .inl (aI, 6, .inl (fun _ => 0))), (q8, .inl (aI, 6, .inl (fun _ => 0)))] H := hP
  have hD : va_D A [(h0, .inr (10, [.ref q1, .ref q3, .ref q6, .null, .null, .null, .null, .null, .null, .null, .int 0, .int 0])), (q1, .inr (5, [.ref q2, .int 0])), (q2, .inl (aI, 22, .inl (fun _ => 0))), (q3, .inr (7, [.int 0, .int 0, .int 0, .ref q4, .ref q5])), (q4, .inl (aI, 3, .inl (fun _ => 0))), (q5, .inl (aI, 10, .inl (fun _ => 0))), (q6, .inr (6, [.int 0, .ref q7, .ref q8])), (q7, .inl (aI, 6, .inl (fun _ => 0))), (q8, .inl (aI, 6, .inl (fun _ => 0)))] := hD
  refine lv_aload_n hx hb dX10_init_37 rfl (lv_at hl 0 rfl) ?_
  refine ini_O (y := yX2_init) (Sh := shX2) hx hb hml hown htz hN hK hP hD hS hA hl.1 kn_X2 cl_X10_30 in_X2 ii_X2 fdX2_ok dX10_init_38 dX10_init_41 dX10_init_42 (ic_X2 l) cal_X2_init rfl im_X2 (Or.inr ⟨_, nw_X10_32⟩) ⟨rfl, rfl⟩ ⟨Nat.le_of_ble_eq_true rfl, Nat.le_of_ble_eq_true rfl⟩ (Nat.le_of_ble_eq_true rfl) (Nat.le_of_ble_eq_true rfl) (Nat.le_of_ble_eq_true rfl) (fun q9 W1 H locs sh hP hD hS => ?_)
  obtain ⟨q10, q11, q12, rfl⟩ := sh
  refine W.widen (k := 12) (n := 79) (by omega) (by omega) ?_
  refine ini_F (v := .ref q9) (k := 3) hx hb hown hin htz hK hP hD hS kn_X10 rfl (by decide) kf_X10_33 rfl rfl rfl rfl (Nat.le_of_ble_eq_true rfl) dX10_init_45 (fun H locs hP hD hS => ?_)
  have hP : va_P D vwCl [(h0, .inr (10, [.ref q1, .ref q3, .ref q6, .ref q9, .null, .null, .null, .null, .null, .null, .int 0, .int 0])), (q1, .inr (5, [.ref q2, .int 0])), (q2, .inl (aI, 22, .inl (fun _ => 0))), (q3, .inr (7, [.int 0, .int 0, .int 0, .ref q4, .ref q5])), (q4, .inl (aI, 3, .inl (fun _ => 0))), (q5, .inl (aI, 10, .inl (fun _ => 0))), (q6, .inr (6, [.int 0, .ref q7, .ref q8])), (q7, .inl (aI, 6, .inl (fun _ => 0))), (q8, .inl (aI, 6, .inl (fun _ => 0))), (q9, .inr (2, [.int 0, .ref q10, .ref q11, .ref q12])), (q10, .inl (aI, 6, .inl (fun _ => 0))), (q11, .inl (aI, 6, .inl (fun _ => 0))), (q12, .inl (aI, 6, .inl (fun _ => 0)))] H := hP
  have hD : va_D A [(h0, .inr (10, [.ref q1, .ref q3, .ref q6, .ref q9, .null, .null, .null, .null, .null, .null, .int 0, .int 0])), (q1, .inr (5, [.ref q2, .int 0])), (q2, .inl (aI, 22, .inl (fun _ => 0))), (q3, .inr (7, [.int 0, .int 0, .int 0, .ref q4, .ref q5])), (q4, .inl (aI, 3, .inl (fun _ => 0))), (q5, .inl (aI, 10, .inl (fun _ => 0))), (q6, .inr (6, [.int 0, .ref q7, .ref q8])), (q7, .inl (aI, 6, .inl (fun _ => 0))), (q8, .inl (aI, 6, .inl (fun _ => 0))), (q9, .inr (2, [.int 0, .ref q10, .ref q11, .ref q12])), (q10, .inl (aI, 6, .inl (fun _ => 0))), (q11, .inl (aI, 6, .inl (fun _ => 0))), (q12, .inl (aI, 6, .inl (fun _ => 0)))] := hD
  refine lv_aload_n hx hb dX10_init_48 rfl (lv_at hl 0 rfl) ?_
  refine ini_O (y := yX1_init) (Sh := shX1) hx hb hml hown htz hN hK hP hD hS hA hl.1 kn_X1 cl_X10_37 in_X1 ii_X1 fdX1_ok dX10_init_49 dX10_init_52 dX10_init_53 (ic_X1 l) cal_X1_init rfl im_X1 (Or.inr ⟨_, nw_X10_39⟩) ⟨rfl, rfl⟩ ⟨Nat.le_of_ble_eq_true rfl, Nat.le_of_ble_eq_true rfl⟩ (Nat.le_of_ble_eq_true rfl) (Nat.le_of_ble_eq_true rfl) (Nat.le_of_ble_eq_true rfl) (fun q13 W1 H locs sh hP hD hS => ?_)
  obtain ⟨q14, q15, q16, rfl⟩ := sh
  refine W.widen (k := 16) (n := 110) (by omega) (by omega) ?_
  refine ini_F (v := .ref q13) (k := 4) hx hb hown hin htz hK hP hD hS kn_X10 rfl (by decide) kf_X10_40 rfl rfl rfl rfl (Nat.le_of_ble_eq_true rfl) dX10_init_56 (fun H locs hP hD hS => ?_)
  have hP : va_P D vwCl [(h0, .inr (10, [.ref q1, .ref q3, .ref q6, .ref q9, .ref q13, .null, .null, .null, .null, .null, .int 0, .int 0])), (q1, .inr (5, [.ref q2, .int 0])), (q2, .inl (aI, 22, .inl (fun _ => 0))), (q3, .inr (7, [.int 0, .int 0, .int 0, .ref q4, .ref q5])), (q4, .inl (aI, 3, .inl (fun _ => 0))), (q5, .inl (aI, 10, .inl (fun _ => 0))), (q6, .inr (6, [.int 0, .ref q7, .ref q8])), (q7, .inl (aI, 6, .inl (fun _ => 0))), (q8, .inl (aI, 6, .inl (fun _ => 0))), (q9, .inr (2, [.int 0, .ref q10, .ref q11, .ref q12])), (q10, .inl (aI, 6, .inl (fun _ => 0))), (q11, .inl (aI, 6, .inl (fun _ => 0))), (q12, .inl (aI, 6, .inl (fun _ => 0))), (q13, .inr (1, [.int 0, .int 0, .int 0, .int 0, .int 0, .int 60, .int 0, .int 0, .ref q14, .ref q15, .ref q16])), (q14, .inl (aI, 6, .inl (fun _ => 0))), (q15, .inl (aI, 6, .inl (fun _ => 0))), (q16, .inl (aI, 8, .inl (fun _ => 0)))] H := hP
  have hD : va_D A [(h0, .inr (10, [.ref q1, .ref q3, .ref q6, .ref q9, .ref q13, .null, .null, .null, .null, .null, .int 0, .int 0])), (q1, .inr (5, [.ref q2, .int 0])), (q2, .inl (aI, 22, .inl (fun _ => 0))), (q3, .inr (7, [.int 0, .int 0, .int 0, .ref q4, .ref q5])), (q4, .inl (aI, 3, .inl (fun _ => 0))), (q5, .inl (aI, 10, .inl (fun _ => 0))), (q6, .inr (6, [.int 0, .ref q7, .ref q8])), (q7, .inl (aI, 6, .inl (fun _ => 0))), (q8, .inl (aI, 6, .inl (fun _ => 0))), (q9, .inr (2, [.int 0, .ref q10, .ref q11, .ref q12])), (q10, .inl (aI, 6, .inl (fun _ => 0))), (q11, .inl (aI, 6, .inl (fun _ => 0))), (q12, .inl (aI, 6, .inl (fun _ => 0))), (q13, .inr (1, [.int 0, .int 0, .int 0, .int 0, .int 0, .int 60, .int 0, .int 0, .ref q14, .ref q15, .ref q16])), (q14, .inl (aI, 6, .inl (fun _ => 0))), (q15, .inl (aI, 6, .inl (fun _ => 0))), (q16, .inl (aI, 8, .inl (fun _ => 0)))] := hD
  refine lv_aload_n hx hb dX10_init_59 rfl (lv_at hl 0 rfl) ?_
  refine ini_O (y := yX3_init) (Sh := shX3) hx hb hml hown htz hN hK hP hD hS hA hl.1 kn_X3 cl_X10_44 in_X3 ii_X3 fdX3_ok dX10_init_60 dX10_init_63 dX10_init_64 (ic_X3 l) cal_X3_init rfl im_X3 (Or.inr ⟨_, nw_X10_46⟩) ⟨rfl, rfl⟩ ⟨Nat.le_of_ble_eq_true rfl, Nat.le_of_ble_eq_true rfl⟩ (Nat.le_of_ble_eq_true rfl) (Nat.le_of_ble_eq_true rfl) (Nat.le_of_ble_eq_true rfl) (fun q17 W1 H locs sh hP hD hS => ?_)
  obtain ⟨q18, q19, q20, q21, rfl⟩ := sh
  refine W.widen (k := 21) (n := 145) (by omega) (by omega) ?_
  refine ini_F (v := .ref q17) (k := 5) hx hb hown hin htz hK hP hD hS kn_X10 rfl (by decide) kf_X10_47 rfl rfl rfl rfl (Nat.le_of_ble_eq_true rfl) dX10_init_67 (fun H locs hP hD hS => ?_)
  have hP : va_P D vwCl [(h0, .inr (10, [.ref q1, .ref q3, .ref q6, .ref q9, .ref q13, .ref q17, .null, .null, .null, .null, .int 0, .int 0])), (q1, .inr (5, [.ref q2, .int 0])), (q2, .inl (aI, 22, .inl (fun _ => 0))), (q3, .inr (7, [.int 0, .int 0, .int 0, .ref q4, .ref q5])), (q4, .inl (aI, 3, .inl (fun _ => 0))), (q5, .inl (aI, 10, .inl (fun _ => 0))), (q6, .inr (6, [.int 0, .ref q7, .ref q8])), (q7, .inl (aI, 6, .inl (fun _ => 0))), (q8, .inl (aI, 6, .inl (fun _ => 0))), (q9, .inr (2, [.int 0, .ref q10, .ref q11, .ref q12])), (q10, .inl (aI, 6, .inl (fun _ => 0))), (q11, .inl (aI, 6, .inl (fun _ => 0))), (q12, .inl (aI, 6, .inl (fun _ => 0))), (q13, .inr (1, [.int 0, .int 0, .int 0, .int 0, .int 0, .int 60, .int 0, .int 0, .ref q14, .ref q15, .ref q16])), (q14, .inl (aI, 6, .inl (fun _ => 0))), (q15, .inl (aI, 6, .inl (fun _ => 0))), (q16, .inl (aI, 8, .inl (fun _ => 0))), (q17, .inr (3, [.ref q18, .int 0, .int 0, .int 0])), (q18, .inr (1, [.int 0, .int 0, .int 0, .int 0, .int 0, .int 60, .int 0, .int 0, .ref q19, .ref q20, .ref q21])), (q19, .inl (aI, 6, .inl (fun _ => 0))), (q20, .inl (aI, 6, .inl (fun _ => 0))), (q21, .inl (aI, 8, .inl (fun _ => 0)))] H := hP
  have hD : va_D A [(h0, .inr (10, [.ref q1, .ref q3, .ref q6, .ref q9, .ref q13, .ref q17, .null, .null, .null, .null, .int 0, .int 0])), (q1, .inr (5, [.ref q2, .int 0])), (q2, .inl (aI, 22, .inl (fun _ => 0))), (q3, .inr (7, [.int 0, .int 0, .int 0, .ref q4, .ref q5])), (q4, .inl (aI, 3, .inl (fun _ => 0))), (q5, .inl (aI, 10, .inl (fun _ => 0))), (q6, .inr (6, [.int 0, .ref q7, .ref q8])), (q7, .inl (aI, 6, .inl (fun _ => 0))), (q8, .inl (aI, 6, .inl (fun _ => 0))), (q9, .inr (2, [.int 0, .ref q10, .ref q11, .ref q12])), (q10, .inl (aI, 6, .inl (fun _ => 0))), (q11, .inl (aI, 6, .inl (fun _ => 0))), (q12, .inl (aI, 6, .inl (fun _ => 0))), (q13, .inr (1, [.int 0, .int 0, .int 0, .int 0, .int 0, .int 60, .int 0, .int 0, .ref q14, .ref q15, .ref q16])), (q14, .inl (aI, 6, .inl (fun _ => 0))), (q15, .inl (aI, 6, .inl (fun _ => 0))), (q16, .inl (aI, 8, .inl (fun _ => 0))), (q17, .inr (3, [.ref q18, .int 0, .int 0, .int 0])), (q18, .inr (1, [.int 0, .int 0, .int 0, .int 0, .int 0, .int 60, .int 0, .int 0, .ref q19, .ref q20, .ref q21])), (q19, .inl (aI, 6, .inl (fun _ => 0))), (q20, .inl (aI, 6, .inl (fun _ => 0))), (q21, .inl (aI, 8, .inl (fun _ => 0)))] := hD
  refine lv_aload_n hx hb dX10_init_70 rfl (lv_at hl 0 rfl) ?_
  refine ini_O (y := yX0_init) (Sh := shX0) hx hb hml hown htz hN hK hP hD hS hA hl.1 kn_X0 cl_X10_51 in_X0 ii_X0 fdX0_ok dX10_init_71 dX10_init_74 dX10_init_75 (ic_X0 l) cal_X0_init rfl im_X0 (Or.inr ⟨_, nw_X10_53⟩) ⟨rfl, rfl⟩ ⟨Nat.le_of_ble_eq_true rfl, Nat.le_of_ble_eq_true rfl⟩ (Nat.le_of_ble_eq_true rfl) (Nat.le_of_ble_eq_true rfl) (Nat.le_of_ble_eq_true rfl) (fun q22 W1 H locs sh hP hD hS => ?_)
  obtain ⟨q23, rfl⟩ := sh
  refine W.widen (k := 23) (n := 213) (by omega) (by omega) ?_
  refine ini_F (v := .ref q22) (k := 6) hx hb hown hin htz hK hP hD hS kn_X10 rfl (by decide) kf_X10_54 rfl rfl rfl rfl (Nat.le_of_ble_eq_true rfl) dX10_init_78 (fun H locs hP hD hS => ?_)
  have hP : va_P D vwCl [(h0, .inr (10, [.ref q1, .ref q3, .ref q6, .ref q9, .ref q13, .ref q17, .ref q22, .null, .null, .null, .int 0, .int 0])), (q1, .inr (5, [.ref q2, .int 0])), (q2, .inl (aI, 22, .inl (fun _ => 0))), (q3, .inr (7, [.int 0, .int 0, .int 0, .ref q4, .ref q5])), (q4, .inl (aI, 3, .inl (fun _ => 0))), (q5, .inl (aI, 10, .inl (fun _ => 0))), (q6, .inr (6, [.int 0, .ref q7, .ref q8])), (q7, .inl (aI, 6, .inl (fun _ => 0))), (q8, .inl (aI, 6, .inl (fun _ => 0))), (q9, .inr (2, [.int 0, .ref q10, .ref q11, .ref q12])), (q10, .inl (aI, 6, .inl (fun _ => 0))), (q11, .inl (aI, 6, .inl (fun _ => 0))), (q12, .inl (aI, 6, .inl (fun _ => 0))), (q13, .inr (1, [.int 0, .int 0, .int 0, .int 0, .int 0, .int 60, .int 0, .int 0, .ref q14, .ref q15, .ref q16])), (q14, .inl (aI, 6, .inl (fun _ => 0))), (q15, .inl (aI, 6, .inl (fun _ => 0))), (q16, .inl (aI, 8, .inl (fun _ => 0))), (q17, .inr (3, [.ref q18, .int 0, .int 0, .int 0])), (q18, .inr (1, [.int 0, .int 0, .int 0, .int 0, .int 0, .int 60, .int 0, .int 0, .ref q19, .ref q20, .ref q21])), (q19, .inl (aI, 6, .inl (fun _ => 0))), (q20, .inl (aI, 6, .inl (fun _ => 0))), (q21, .inl (aI, 8, .inl (fun _ => 0))), (q22, .inr (0, [.long 0, .long 0, .int 0, .ref q23])), (q23, .inl (aJ, 64, .inr (.inl (fun _ => 0))))] H := hP
  have hD : va_D A [(h0, .inr (10, [.ref q1, .ref q3, .ref q6, .ref q9, .ref q13, .ref q17, .ref q22, .null, .null, .null, .int 0, .int 0])), (q1, .inr (5, [.ref q2, .int 0])), (q2, .inl (aI, 22, .inl (fun _ => 0))), (q3, .inr (7, [.int 0, .int 0, .int 0, .ref q4, .ref q5])), (q4, .inl (aI, 3, .inl (fun _ => 0))), (q5, .inl (aI, 10, .inl (fun _ => 0))), (q6, .inr (6, [.int 0, .ref q7, .ref q8])), (q7, .inl (aI, 6, .inl (fun _ => 0))), (q8, .inl (aI, 6, .inl (fun _ => 0))), (q9, .inr (2, [.int 0, .ref q10, .ref q11, .ref q12])), (q10, .inl (aI, 6, .inl (fun _ => 0))), (q11, .inl (aI, 6, .inl (fun _ => 0))), (q12, .inl (aI, 6, .inl (fun _ => 0))), (q13, .inr (1, [.int 0, .int 0, .int 0, .int 0, .int 0, .int 60, .int 0, .int 0, .ref q14, .ref q15, .ref q16])), (q14, .inl (aI, 6, .inl (fun _ => 0))), (q15, .inl (aI, 6, .inl (fun _ => 0))), (q16, .inl (aI, 8, .inl (fun _ => 0))), (q17, .inr (3, [.ref q18, .int 0, .int 0, .int 0])), (q18, .inr (1, [.int 0, .int 0, .int 0, .int 0, .int 0, .int 60, .int 0, .int 0, .ref q19, .ref q20, .ref q21])), (q19, .inl (aI, 6, .inl (fun _ => 0))), (q20, .inl (aI, 6, .inl (fun _ => 0))), (q21, .inl (aI, 8, .inl (fun _ => 0))), (q22, .inr (0, [.long 0, .long 0, .int 0, .ref q23])), (q23, .inl (aJ, 64, .inr (.inl (fun _ => 0))))] := hD
  refine lv_aload_n hx hb dX10_init_81 rfl (lv_at hl 0 rfl) ?_
  refine ini_O (y := yX4_init) (Sh := shX4) hx hb hml hown htz hN hK hP hD hS hA hl.1 kn_X4 cl_X10_58 in_X4 ii_X4 fdX4_ok dX10_init_82 dX10_init_85 dX10_init_86 (ic_X4 l) cal_X4_init rfl im_X4 (Or.inr ⟨_, nw_X10_60⟩) ⟨rfl, rfl⟩ ⟨Nat.le_of_ble_eq_true rfl, Nat.le_of_ble_eq_true rfl⟩ (Nat.le_of_ble_eq_true rfl) (Nat.le_of_ble_eq_true rfl) (Nat.le_of_ble_eq_true rfl) (fun q24 W1 H locs sh hP hD hS => ?_)
  obtain ⟨q25, q26, rfl⟩ := sh
  refine W.widen (k := 26) (n := 345) (by omega) (by omega) ?_
  refine ini_F (v := .ref q24) (k := 7) hx hb hown hin htz hK hP hD hS kn_X10 rfl (by decide) kf_X10_61 rfl rfl rfl rfl (Nat.le_of_ble_eq_true rfl) dX10_init_89 (fun H locs hP hD hS => ?_)
  have hP : va_P D vwCl [(h0, .inr (10, [.ref q1, .ref q3, .ref q6, .ref q9, .ref q13, .ref q17, .ref q22, .ref q24, .null, .null, .int 0, .int 0])), (q1, .inr (5, [.ref q2, .int 0])), (q2, .inl (aI, 22, .inl (fun _ => 0))), (q3, .inr (7, [.int 0, .int 0, .int 0, .ref q4, .ref q5])), (q4, .inl (aI, 3, .inl (fun _ => 0))), (q5, .inl (aI, 10, .inl (fun _ => 0))), (q6, .inr (6, [.int 0, .ref q7, .ref q8])), (q7, .inl (aI, 6, .inl (fun _ => 0))), (q8, .inl (aI, 6, .inl (fun _ => 0))), (q9, .inr (2, [.int 0, .ref q10, .ref q11, .ref q12])), (q10, .inl (aI, 6, .inl (fun _ => 0))), (q11, .inl (aI, 6, .inl (fun _ => 0))), (q12, .inl (aI, 6, .inl (fun _ => 0))), (q13, .inr (1, [.int 0, .int 0, .int 0, .int 0, .int 0, .int 60, .int 0, .int 0, .ref q14, .ref q15, .ref q16])), (q14, .inl (aI, 6, .inl (fun _ => 0))), (q15, .inl (aI, 6, .inl (fun _ => 0))), (q16, .inl (aI, 8, .inl (fun _ => 0))), (q17, .inr (3, [.ref q18, .int 0, .int 0, .int 0])), (q18, .inr (1, [.int 0, .int 0, .int 0, .int 0, .int 0, .int 60, .int 0, .int 0, .ref q19, .ref q20, .ref q21])), (q19, .inl (aI, 6, .inl (fun _ => 0))), (q20, .inl (aI, 6, .inl (fun _ => 0))), (q21, .inl (aI, 8, .inl (fun _ => 0))), (q22, .inr (0, [.long 0, .long 0, .int 0, .ref q23])), (q23, .inl (aJ, 64, .inr (.inl (fun _ => 0)))), (q24, .inr (4, [.long 0, .int 0, .ref q25, .ref q26])), (q25, .inl (aJ, 64, .inr (.inl (fun _ => 0)))), (q26, .inl (aI, 64, .inl (fun _ => 0)))] H := hP
  have hD : va_D A [(h0, .inr (10, [.ref q1, .ref q3, .ref q6, .ref q9, .ref q13, .ref q17, .ref q22, .ref q24, .null, .null, .int 0, .int 0])), (q1, .inr (5, [.ref q2, .int 0])), (q2, .inl (aI, 22, .inl (fun _ => 0))), (q3, .inr (7, [.int 0, .int 0, .int 0, .ref q4, .ref q5])), (q4, .inl (aI, 3, .inl (fun _ => 0))), (q5, .inl (aI, 10, .inl (fun _ => 0))), (q6, .inr (6, [.int 0, .ref q7, .ref q8])), (q7, .inl (aI, 6, .inl (fun _ => 0))), (q8, .inl (aI, 6, .inl (fun _ => 0))), (q9, .inr (2, [.int 0, .ref q10, .ref q11, .ref q12])), (q10, .inl (aI, 6, .inl (fun _ => 0))), (q11, .inl (aI, 6, .inl (fun _ => 0))), (q12, .inl (aI, 6, .inl (fun _ => 0))), (q13, .inr (1, [.int 0, .int 0, .int 0, .int 0, .int 0, .int 60, .int 0, .int 0, .ref q14, .ref q15, .ref q16])), (q14, .inl (aI, 6, .inl (fun _ => 0))), (q15, .inl (aI, 6, .inl (fun _ => 0))), (q16, .inl (aI, 8, .inl (fun _ => 0))), (q17, .inr (3, [.ref q18, .int 0, .int 0, .int 0])), (q18, .inr (1, [.int 0, .int 0, .int 0, .int 0, .int 0, .int 60, .int 0, .int 0, .ref q19, .ref q20, .ref q21])), (q19, .inl (aI, 6, .inl (fun _ => 0))), (q20, .inl (aI, 6, .inl (fun _ => 0))), (q21, .inl (aI, 8, .inl (fun _ => 0))), (q22, .inr (0, [.long 0, .long 0, .int 0, .ref q23])), (q23, .inl (aJ, 64, .inr (.inl (fun _ => 0)))), (q24, .inr (4, [.long 0, .int 0, .ref q25, .ref q26])), (q25, .inl (aJ, 64, .inr (.inl (fun _ => 0)))), (q26, .inl (aI, 64, .inl (fun _ => 0)))] := hD
  refine lv_aload_n hx hb dX10_init_92 rfl (lv_at hl 0 rfl) ?_
  refine ini_O (y := yX8_init) (Sh := shX8) hx hb hml hown htz hN hK hP hD hS hA hl.1 kn_X8 cl_X10_65 in_X8 ii_X8 fdX8_ok dX10_init_93 dX10_init_96 dX10_init_97 (ic_X8 l) cal_X8_init rfl im_X8 (Or.inr ⟨_, nw_X10_67⟩) ⟨rfl, rfl⟩ ⟨Nat.le_of_ble_eq_true rfl, Nat.le_of_ble_eq_true rfl⟩ (Nat.le_of_ble_eq_true rfl) (Nat.le_of_ble_eq_true rfl) (Nat.le_of_ble_eq_true rfl) (fun q27 W1 H locs sh hP hD hS => ?_)
  obtain ⟨q28, q29, q30, rfl⟩ := sh
  refine W.widen (k := 30) (n := 484) (by omega) (by omega) ?_
  refine ini_F (v := .ref q27) (k := 8) hx hb hown hin htz hK hP hD hS kn_X10 rfl (by decide) kf_X10_68 rfl rfl rfl rfl (Nat.le_of_ble_eq_true rfl) dX10_init_100 (fun H locs hP hD hS => ?_)
  have hP : va_P D vwCl [(h0, .inr (10, [.ref q1, .ref q3, .ref q6, .ref q9, .ref q13, .ref q17, .ref q22, .ref q24, .ref q27, .null, .int 0, .int 0])), (q1, .inr (5, [.ref q2, .int 0])), (q2, .inl (aI, 22, .inl (fun _ => 0))), (q3, .inr (7, [.int 0, .int 0, .int 0, .ref q4, .ref q5])), (q4, .inl (aI, 3, .inl (fun _ => 0))), (q5, .inl (aI, 10, .inl (fun _ => 0))), (q6, .inr (6, [.int 0, .ref q7, .ref q8])), (q7, .inl (aI, 6, .inl (fun _ => 0))), (q8, .inl (aI, 6, .inl (fun _ => 0))), (q9, .inr (2, [.int 0, .ref q10, .ref q11, .ref q12])), (q10, .inl (aI, 6, .inl (fun _ => 0))), (q11, .inl (aI, 6, .inl (fun _ => 0))), (q12, .inl (aI, 6, .inl (fun _ => 0))), (q13, .inr (1, [.int 0, .int 0, .int 0, .int 0, .int 0, .int 60, .int 0, .int 0, .ref q14, .ref q15, .ref q16])), (q14, .inl (aI, 6, .inl (fun _ => 0))), (q15, .inl (aI, 6, .inl (fun _ => 0))), (q16, .inl (aI, 8, .inl (fun _ => 0))), (q17, .inr (3, [.ref q18, .int 0, .int 0, .int 0])), (q18, .inr (1, [.int 0, .int 0, .int 0, .int 0, .int 0, .int 60, .int 0, .int 0, .ref q19, .ref q20, .ref q21])), (q19, .inl (aI, 6, .inl (fun _ => 0))), (q20, .inl (aI, 6, .inl (fun _ => 0))), (q21, .inl (aI, 8, .inl (fun _ => 0))), (q22, .inr (0, [.long 0, .long 0, .int 0, .ref q23])), (q23, .inl (aJ, 64, .inr (.inl (fun _ => 0)))), (q24, .inr (4, [.long 0, .int 0, .ref q25, .ref q26])), (q25, .inl (aJ, 64, .inr (.inl (fun _ => 0)))), (q26, .inl (aI, 64, .inl (fun _ => 0))), (q27, .inr (8, [.int 0, .int 0, .ref q28, .ref q29, .ref q30])), (q28, .inl (aI, 6, .inl (fun _ => 0))), (q29, .inl (aI, 64, .inl (fun _ => 0))), (q30, .inl (aI, 64, .inl (fun _ => 0)))] H := hP
  have hD : va_D A [(h0, .inr (10, [.ref q1, .ref q3, .ref q6, .ref q9, .ref q13, .ref q17, .ref q22, .ref q24, .ref q27, .null, .int 0, .int 0])), (q1, .inr (5, [.ref q2, .int 0])), (q2, .inl (aI, 22, .inl (fun _ => 0))), (q3, .inr (7, [.int 0, .int 0, .int 0, .ref q4, .ref q5])), (q4, .inl (aI, 3, .inl (fun _ => 0))), (q5, .inl (aI, 10, .inl (fun _ => 0))), (q6, .inr (6, [.int 0, .ref q7, .ref q8])), (q7, .inl (aI, 6, .inl (fun _ => 0))), (q8, .inl (aI, 6, .inl (fun _ => 0))), (q9, .inr (2, [.int 0, .ref q10, .ref q11, .ref q12])), (q10, .inl (aI, 6, .inl (fun _ => 0))), (q11, .inl (aI, 6, .inl (fun _ => 0))), (q12, .inl (aI, 6, .inl (fun _ => 0))), (q13, .inr (1, [.int 0, .int 0, .int 0, .int 0, .int 0, .int 60, .int 0, .int 0, .ref q14, .ref q15, .ref q16])), (q14, .inl (aI, 6, .inl (fun _ => 0))), (q15, .inl (aI, 6, .inl (fun _ => 0))), (q16, .inl (aI, 8, .inl (fun _ => 0))), (q17, .inr (3, [.ref q18, .int 0, .int 0, .int 0])), (q18, .inr (1, [.int 0, .int 0, .int 0, .int 0, .int 0, .int 60, .int 0, .int 0, .ref q19, .ref q20, .ref q21])), (q19, .inl (aI, 6, .inl (fun _ => 0))), (q20, .inl (aI, 6, .inl (fun _ => 0))), (q21, .inl (aI, 8, .inl (fun _ => 0))), (q22, .inr (0, [.long 0, .long 0, .int 0, .ref q23])), (q23, .inl (aJ, 64, .inr (.inl (fun _ => 0)))), (q24, .inr (4, [.long 0, .int 0, .ref q25, .ref q26])), (q25, .inl (aJ, 64, .inr (.inl (fun _ => 0)))), (q26, .inl (aI, 64, .inl (fun _ => 0))), (q27, .inr (8, [.int 0, .int 0, .ref q28, .ref q29, .ref q30])), (q28, .inl (aI, 6, .inl (fun _ => 0))), (q29, .inl (aI, 64, .inl (fun _ => 0))), (q30, .inl (aI, 64, .inl (fun _ => 0)))] := hD
  refine lv_aload_n hx hb dX10_init_103 rfl (lv_at hl 0 rfl) ?_
  refine ini_O (y := yX9_init) (Sh := shX9) hx hb hml hown htz hN hK hP hD hS hA hl.1 kn_X9 cl_X10_72 in_X9 ii_X9 fdX9_ok dX10_init_104 dX10_init_107 dX10_init_108 (ic_X9 l) cal_X9_init rfl im_X9 (Or.inr ⟨_, nw_X10_74⟩) ⟨rfl, rfl⟩ ⟨Nat.le_of_ble_eq_true rfl, Nat.le_of_ble_eq_true rfl⟩ (Nat.le_of_ble_eq_true rfl) (Nat.le_of_ble_eq_true rfl) (Nat.le_of_ble_eq_true rfl) (fun q31 W1 H locs sh hP hD hS => ?_)
  obtain rfl : W1 = _ := sh
  refine W.widen (k := 31) (n := 488) (by omega) (by omega) ?_
  refine ini_F (v := .ref q31) (k := 9) hx hb hown hin htz hK hP hD hS kn_X10 rfl (by decide) kf_X10_75 rfl rfl rfl rfl (Nat.le_of_ble_eq_true rfl) dX10_init_111 (fun H locs hP hD hS => ?_)
  have hP : va_P D vwCl [(h0, .inr (10, [.ref q1, .ref q3, .ref q6, .ref q9, .ref q13, .ref q17, .ref q22, .ref q24, .ref q27, .ref q31, .int 0, .int 0])), (q1, .inr (5, [.ref q2, .int 0])), (q2, .inl (aI, 22, .inl (fun _ => 0))), (q3, .inr (7, [.int 0, .int 0, .int 0, .ref q4, .ref q5])), (q4, .inl (aI, 3, .inl (fun _ => 0))), (q5, .inl (aI, 10, .inl (fun _ => 0))), (q6, .inr (6, [.int 0, .ref q7, .ref q8])), (q7, .inl (aI, 6, .inl (fun _ => 0))), (q8, .inl (aI, 6, .inl (fun _ => 0))), (q9, .inr (2, [.int 0, .ref q10, .ref q11, .ref q12])), (q10, .inl (aI, 6, .inl (fun _ => 0))), (q11, .inl (aI, 6, .inl (fun _ => 0))), (q12, .inl (aI, 6, .inl (fun _ => 0))), (q13, .inr (1, [.int 0, .int 0, .int 0, .int 0, .int 0, .int 60, .int 0, .int 0, .ref q14, .ref q15, .ref q16])), (q14, .inl (aI, 6, .inl (fun _ => 0))), (q15, .inl (aI, 6, .inl (fun _ => 0))), (q16, .inl (aI, 8, .inl (fun _ => 0))), (q17, .inr (3, [.ref q18, .int 0, .int 0, .int 0])), (q18, .inr (1, [.int 0, .int 0, .int 0, .int 0, .int 0, .int 60, .int 0, .int 0, .ref q19, .ref q20, .ref q21])), (q19, .inl (aI, 6, .inl (fun _ => 0))), (q20, .inl (aI, 6, .inl (fun _ => 0))), (q21, .inl (aI, 8, .inl (fun _ => 0))), (q22, .inr (0, [.long 0, .long 0, .int 0, .ref q23])), (q23, .inl (aJ, 64, .inr (.inl (fun _ => 0)))), (q24, .inr (4, [.long 0, .int 0, .ref q25, .ref q26])), (q25, .inl (aJ, 64, .inr (.inl (fun _ => 0)))), (q26, .inl (aI, 64, .inl (fun _ => 0))), (q27, .inr (8, [.int 0, .int 0, .ref q28, .ref q29, .ref q30])), (q28, .inl (aI, 6, .inl (fun _ => 0))), (q29, .inl (aI, 64, .inl (fun _ => 0))), (q30, .inl (aI, 64, .inl (fun _ => 0))), (q31, .inr (9, [.long 0, .int 0, .int 0, .int 0]))] H := hP
  have hD : va_D A [(h0, .inr (10, [.ref q1, .ref q3, .ref q6, .ref q9, .ref q13, .ref q17, .ref q22, .ref q24, .ref q27, .ref q31, .int 0, .int 0])), (q1, .inr (5, [.ref q2, .int 0])), (q2, .inl (aI, 22, .inl (fun _ => 0))), (q3, .inr (7, [.int 0, .int 0, .int 0, .ref q4, .ref q5])), (q4, .inl (aI, 3, .inl (fun _ => 0))), (q5, .inl (aI, 10, .inl (fun _ => 0))), (q6, .inr (6, [.int 0, .ref q7, .ref q8])), (q7, .inl (aI, 6, .inl (fun _ => 0))), (q8, .inl (aI, 6, .inl (fun _ => 0))), (q9, .inr (2, [.int 0, .ref q10, .ref q11, .ref q12])), (q10, .inl (aI, 6, .inl (fun _ => 0))), (q11, .inl (aI, 6, .inl (fun _ => 0))), (q12, .inl (aI, 6, .inl (fun _ => 0))), (q13, .inr (1, [.int 0, .int 0, .int 0, .int 0, .int 0, .int 60, .int 0, .int 0, .ref q14, .ref q15, .ref q16])), (q14, .inl (aI, 6, .inl (fun _ => 0))), (q15, .inl (aI, 6, .inl (fun _ => 0))), (q16, .inl (aI, 8, .inl (fun _ => 0))), (q17, .inr (3, [.ref q18, .int 0, .int 0, .int 0])), (q18, .inr (1, [.int 0, .int 0, .int 0, .int 0, .int 0, .int 60, .int 0, .int 0, .ref q19, .ref q20, .ref q21])), (q19, .inl (aI, 6, .inl (fun _ => 0))), (q20, .inl (aI, 6, .inl (fun _ => 0))), (q21, .inl (aI, 8, .inl (fun _ => 0))), (q22, .inr (0, [.long 0, .long 0, .int 0, .ref q23])), (q23, .inl (aJ, 64, .inr (.inl (fun _ => 0)))), (q24, .inr (4, [.long 0, .int 0, .ref q25, .ref q26])), (q25, .inl (aJ, 64, .inr (.inl (fun _ => 0)))), (q26, .inl (aI, 64, .inl (fun _ => 0))), (q27, .inr (8, [.int 0, .int 0, .ref q28, .ref q29, .ref q30])), (q28, .inl (aI, 6, .inl (fun _ => 0))), (q29, .inl (aI, 64, .inl (fun _ => 0))), (q30, .inl (aI, 64, .inl (fun _ => 0))), (q31, .inr (9, [.long 0, .int 0, .int 0, .int 0]))] := hD
  exact W.vret hx hb hr (fun t ht hW => ⟨⟨(), rfl, trivial, _, ⟨q1, q2, q3, q4, q5, q6, q7, q8, q9, q10, q11, q12, q13, q14, q15, q16, q17, q18, q19, q20, q21, q22, q23, q24, q25, q26, q27, q28, q29, q30, q31, rfl⟩, by rw [ht]; exact hP, hD⟩, hS.F ht⟩) hS.2.2 dX10_init_114 hlocks
def shX11 (aI aJ : ClassId) (h0 : Nat) (W1 : va_W) : Prop := ∃ q1 q2 q3 q4 q5 q6 q7 q8 q9 q10 q11 q12 q13 q14 q15 q16 q17 q18 q19 : Nat, W1 = [(h0, .inr (11, [.ref q1, .int 0, .int 0, .int 0, .ref q2, .ref q3, .int 0, .int 0, .int 0, .int 0, .int 0, .int 0, .int 0, .int 60, .int 0, .ref q4, .ref q5, .int 0, .ref q6, .ref q7, .ref q8, .int 0, .int 0, .ref q9, .ref q10, .int 0, .ref q11, .ref q12, .int 0, .int 0, .ref q13, .ref q14, .int 0, .ref q15, .int 0, .int (-1), .int 0, .int 0, .int 0, .int 0, .int 0, .int 0, .int 0, .int 0, .ref q16, .ref q17, .ref q18, .ref q19, .long 0])), (q1, .inl (aI, 22, .inl (fun _ => 0))), (q2, .inl (aI, 3, .inl (fun _ => 0))), (q3, .inl (aI, 10, .inl (fun _ => 0))), (q4, .inl (aI, 3, .inl (fun _ => 0))), (q5, .inl (aI, 10, .inl (fun _ => 0))), (q6, .inl (aI, 18, .inl (fun _ => 0))), (q7, .inl (aJ, 64, .inr (.inl (fun _ => 0)))), (q8, .inl (aJ, 64, .inr (.inl (fun _ => 0)))), (q9, .inl (aI, 18, .inl (fun _ => 0))), (q10, .inl (aI, 6, .inl (fun _ => 0))), (q11, .inl (aI, 6, .inl (fun _ => 0))), (q12, .inl (aI, 6, .inl (fun _ => 0))), (q13, .inl (aI, 30, .inl (fun _ => 0))), (q14, .inl (aI, 6, .inl (fun _ => 0))), (q15, .inl (aI, 8, .inl (fun _ => 0))), (q16, .inl (aI, 18, .inl (fun _ => 0))), (q17, .inl (aI, 18, .inl (fun _ => 0))), (q18, .inl (aI, 30, .inl (fun _ => 0))), (q19, .inl (aI, 8, .inl (fun _ => 0)))]
set_option maxHeartbeats 4000000 in
set_option maxRecDepth 100000 in
theorem ic_X11 (l : Launch) : IC l yX11_init cX11_init { frames := 1, cells := 19, slots := 348, locals := 12 } 11 fdX11 shX11 19 348 := by
  intro D aI aJ h0 sz
  refine Met.ofW (cc := cX11_init) (maxL := 1) (ret := none) (by decide) rfl ?_
  intro p e s m args below meth c s₁ B hml hv
  obtain ⟨rfl, hsz, hP, hK, hD0, hN⟩ := hv
  have hx := B.exec
  have hb := B.bytes
  have hr := B.returns
  have hts := atoms_spec (ws := (.code yX11_init cX11_init 1 none :: zA)) B.pre
  have htz : ∀ q ∈ zA, q.before #[Value.ref h0] s = true := fun q hq => hts q (List.mem_cons_of_mem _ hq)
  have hown : s.vm.findClass RX11 = some m.cls := findClass_of_methodNamed B.named
  have hlocks := B.notSynchronized
  have hin : meth.name = "<init>" := (name_of_methodNamed B.named B.method).1
  subst hsz
  have hD := hD0.self (sz := s.heap.size)
  generalize hAe : va_A [(h0, .inr (11, fdX11))] s.heap.size = A at hD ⊢
  have hA : ∀ q : Nat, s.heap.size ≤ q → A q := fun q h => by rw [← hAe]; exact Or.inr h
  have hS : va_S A s.heap s.heap [] := va_S.rf
  have hl := lv_entry ([.ref h0]) (n := 1) (Nat.le_of_ble_eq_true rfl)
  rw [lg_entry_eq]
  generalize (lg_sl ([.ref h0]) ++ List.replicate (1 - (lg_sl ([.ref h0])).length) Slot.unset).toArray = ls at hl ⊢
  have hl : lv_has ls 1 [(0, .ref h0)] := hl
  have hP : va_P D vwCl [(h0, .inr (11, [.null, .int 0, .int 0, .int 0, .null, .null, .int 0, .int 0, .int 0, .int 0, .int 0, .int 0, .int 0, .int 0, .int 0, .null, .null, .int 0, .null, .null, .null, .int 0, .int 0, .null, .null, .int 0, .null, .null, .int 0, .int 0, .null, .null, .int 0, .null, .int 0, .int 0, .int 0, .int 0, .int 0, .int 0, .int 0, .int 0, .int 0, .int 0, .null, .null, .null, .null, .long 0]))] s.heap := hP
  have hD : va_D A [(h0, .inr (11, [.null, .int 0, .int 0, .int 0, .null, .null, .int 0, .int 0, .int 0, .int 0, .int 0, .int 0, .int 0, .int 0, .int 0, .null, .null, .int 0, .null, .null, .null, .int 0, .int 0, .null, .null, .int 0, .null, .null, .int 0, .int 0, .null, .null, .int 0, .null, .int 0, .int 0, .int 0, .int 0, .int 0, .int 0, .int 0, .int 0, .int 0, .int 0, .null, .null, .null, .null, .long 0]))] := hD
  refine lv_aload_n hx hb dX11_init_0 rfl (lv_at hl 0 rfl) ?_
  refine W.objInit hx hb hown (htz _ oi_X11) (htz _ oi_im) (htz _ oi_co) rfl (by rw [hml]; exact hl.1) rfl dX11_init_1 (Nat.le_of_ble_eq_true rfl) (Nat.le_of_ble_eq_true rfl) ?_
  refine W.eq (g2 := F0 m 4 ls []) rfl ?_
  refine lv_aload_n hx hb dX11_init_4 rfl (lv_at hl 0 rfl) ?_
  refine lv_bipush (v := 22) hx hb dX11_init_5 (by decide) ?_
  refine ini_A (N' := 22) hx hb htz hK hP hD hS hA (by decide) (by decide) (by decide) (Nat.le_of_ble_eq_true rfl) (Nat.le_of_ble_eq_true rfl) dX11_init_7 (fun q1 H hP hD hS => ?_)
  refine W.widen (k := 1) (n := 22) (by omega) (by omega) ?_
  refine ini_F (v := .ref q1) (k := 0) hx hb hown hin htz hK hP hD hS kn_X11 rfl (by decide) kf_X11_7 rfl rfl rfl rfl (Nat.le_of_ble_eq_true rfl) dX11_init_9 (fun H locs hP hD hS => ?_)
  have hP : va_P D vwCl [(h0, .inr (11, [.ref q1, .int 0, .int 0, .int 0, .null, .null, .int 0, .int 0, .int 0, .int 0, .int 0, .int 0, .int 0, .int 0, .int 0, .null, .null, .int 0, .null, .null, .null, .int 0, .int 0, .null, .null, .int 0, .null, .null, .int 0, .int 0, .null, .null, .int 0, .null, .int 0, .int 0, .int 0, .int 0, .int 0, .int 0, .int 0, .int 0, .int 0, .int 0, .null, .null, .null, .null, .long 0])), (q1, .inl (aI, 22, .inl (fun _ => 0)))] H := hP
  have hD : va_D A [(h0, .inr (11, [.ref q1, .int 0, .int 0, .int 0, .null, .null, .int 0, .int 0, .int 0, .int 0, .int 0, .int 0, .int 0, .int 0, .int 0, .null, .null, .int 0, .null, .null, .null, .int 0, .int 0, .null, .null, .int 0, .null, .null, .int 0, .int 0, .null, .null, .int 0, .null, .int 0, .int 0, .int 0, .int 0, .int 0, .int 0, .int 0, .int 0, .int 0, .int 0, .null, .null, .null, .null, .long 0])), (q1, .inl (aI, 22, .inl (fun _ => 0)))] := hD
  refine lv_aload_n hx hb dX11_init_12 rfl (lv_at hl 0 rfl) ?_
  refine lv_iconst (v := 3) hx hb dX11_init_13 (by decide) ?_
  refine ini_A (N' := 3) hx hb htz hK hP hD hS hA (by decide) (by decide) (by decide) (Nat.le_of_ble_eq_true rfl) (Nat.le_of_ble_eq_true rfl) dX11_init_14 (fun q2 H hP hD hS => ?_)
  refine W.widen (k := 2) (n := 25) (by omega) (by omega) ?_
  refine ini_F (v := .ref q2) (k := 4) hx hb hown hin htz hK hP hD hS kn_X11 rfl (by decide) kf_X11_13 rfl rfl rfl rfl (Nat.le_of_ble_eq_true rfl) dX11_init_16 (fun H locs hP hD hS => ?_)
  have hP : va_P D vwCl [(h0, .inr (11, [.ref q1, .int 0, .int 0, .int 0, .ref q2, .null, .int 0, .int 0, .int 0, .int 0, .int 0, .int 0, .int 0, .int 0, .int 0, .null, .null, .int 0, .null, .null, .null, .int 0, .int 0, .null, .null, .int 0, .null, .null, .int 0, .int 0, .null, .null, .int 0, .null, .int 0, .int 0, .int 0, .int 0, .int 0, .int 0, .int 0, .int 0, .int 0, .int 0, .null, .null, .null, .null, .long 0])), (q1, .inl (aI, 22, .inl (fun _ => 0))), (q2, .inl (aI, 3, .inl (fun _ => 0)))] H := hP
  have hD : va_D A [(h0, .inr (11, [.ref q1, .int 0, .int 0, .int 0, .ref q2, .null, .int 0, .int 0, .int 0, .int 0, .int 0, .int 0, .int 0, .int 0, .int 0, .null, .null, .int 0, .null, .null, .null, .int 0, .int 0, .null, .null, .int 0, .null, .null, .int 0, .int 0, .null, .null, .int 0, .null, .int 0, .int 0, .int 0, .int 0, .int 0, .int 0, .int 0, .int 0, .int 0, .int 0, .null, .null, .null, .null, .long 0])), (q1, .inl (aI, 22, .inl (fun _ => 0))), (q2, .inl (aI, 3, .inl (fun _ => 0)))] := hD
  refine lv_aload_n hx hb dX11_init_19 rfl (lv_at hl 0 rfl) ?_
  refine lv_bipush (v := 10) hx hb dX11_init_20 (by decide) ?_
  refine ini_A (N' := 10) hx hb htz hK hP hD hS hA (by decide) (by decide) (by decide) (Nat.le_of_ble_eq_true rfl) (Nat.le_of_ble_eq_true rfl) dX11_init_22 (fun q3 H hP hD hS => ?_)
  refine W.widen (k := 3) (n := 35) (by omega) (by omega) ?_
  refine ini_F (v := .ref q3) (k := 5) hx hb hown hin htz hK hP hD hS kn_X11 rfl (by decide) kf_X11_16 rfl rfl rfl rfl (Nat.le_of_ble_eq_true rfl) dX11_init_24 (fun H locs hP hD hS => ?_)
  have hP : va_P D vwCl [(h0, .inr (11, [.ref q1, .int 0, .int 0, .int 0, .ref q2, .ref q3, .int 0, .int 0, .int 0, .int 0, .int 0, .int 0, .int 0, .int 0, .int 0, .null, .null, .int 0, .null, .null, .null, .int 0, .int 0, .null, .null, .int 0, .null, .null, .int 0, .int 0, .null, .null, .int 0, .null, .int 0, .int 0, .int 0, .int 0, .int 0, .int 0, .int 0, .int 0, .int 0, .int 0, .null, .null, .null, .null, .long 0])), (q1, .inl (aI, 22, .inl (fun _ => 0))), (q2, .inl (aI, 3, .inl (fun _ => 0))), (q3, .inl (aI, 10, .inl (fun _ => 0)))] H := hP
  have hD : va_D A [(h0, .inr (11, [.ref q1, .int 0, .int 0, .int 0, .ref q2, .ref q3, .int 0, .int 0, .int 0, .int 0, .int 0, .int 0, .int 0, .int 0, .int 0, .null, .null, .int 0, .null, .null, .null, .int 0, .int 0, .null, .null, .int 0, .null, .null, .int 0, .int 0, .null, .null, .int 0, .null, .int 0, .int 0, .int 0, .int 0, .int 0, .int 0, .int 0, .int 0, .int 0, .int 0, .null, .null, .null, .null, .long 0])), (q1, .inl (aI, 22, .inl (fun _ => 0))), (q2, .inl (aI, 3, .inl (fun _ => 0))), (q3, .inl (aI, 10, .inl (fun _ => 0)))] := hD
  refine lv_aload_n hx hb dX11_init_27 rfl (lv_at hl 0 rfl) ?_
  refine lv_iconst (v := 3) hx hb dX11_init_28 (by decide) ?_
  refine ini_A (N' := 3) hx hb htz hK hP hD hS hA (by decide) (by decide) (by decide) (Nat.le_of_ble_eq_true rfl) (Nat.le_of_ble_eq_true rfl) dX11_init_29 (fun q4 H hP hD hS => ?_)
  refine W.widen (k := 4) (n := 38) (by omega) (by omega) ?_
  refine ini_F (v := .ref q4) (k := 15) hx hb hown hin htz hK hP hD hS kn_X11 rfl (by decide) kf_X11_19 rfl rfl rfl rfl (Nat.le_of_ble_eq_true rfl) dX11_init_31 (fun H locs hP hD hS => ?_)
  have hP : va_P D vwCl [(h0, .inr (11, [.ref q1, .int 0, .int 0, .int 0, .ref q2, .ref q3, .int 0, .int 0, .int 0, .int 0, .int 0, .int 0, .int 0, .int 0, .int 0, .ref q4, .null, .int 0, .null, .null, .null, .int 0, .int 0, .null, .null, .int 0, .null, .null, .int 0, .int 0, .null, .null, .int 0, .null, .int 0, .int 0, .int 0, .int 0, .int 0, .int 0, .int 0, .int 0, .int 0, .int 0, .null, .null, .null, .null, .long 0])), (q1, .inl (aI, 22, .inl (fun _ => 0))), (q2, .inl (aI, 3, .inl (fun _ => 0))), (q3, .inl (aI, 10, .inl (fun _ => 0))), (q4, .inl (aI, 3, .inl (fun _ => 0)))] H := hP
  have hD : va_D A [(h0, .inr (11, [.ref q1, .int 0, .int 0, .int 0, .ref q2, .ref q3, .int 0, .int 0, .int 0, .int 0, .int 0, .int 0, .int 0, .int 0, .int 0, .ref q4, .null, .int 0, .null, .null, .null, .int 0, .int 0, .null, .null, .int 0, .null, .null, .int 0, .int 0, .null, .null, .int 0, .null, .int 0, .int 0, .int 0, .int 0, .int 0, .int 0, .int 0, .int 0, .int 0, .int 0, .null, .null, .null, .null, .long 0])), (q1, .inl (aI, 22, .inl (fun _ => 0))), (q2, .inl (aI, 3, .inl (fun _ => 0))), (q3, .inl (aI, 10, .inl (fun _ => 0))), (q4, .inl (aI, 3, .inl (fun _ => 0)))] := hD
  refine lv_aload_n hx hb dX11_init_34 rfl (lv_at hl 0 rfl) ?_
  refine lv_bipush (v := 10) hx hb dX11_init_35 (by decide) ?_
  refine ini_A (N' := 10) hx hb htz hK hP hD hS hA (by decide) (by decide) (by decide) (Nat.le_of_ble_eq_true rfl) (Nat.le_of_ble_eq_true rfl) dX11_init_37 (fun q5 H hP hD hS => ?_)
  refine W.widen (k := 5) (n := 48) (by omega) (by omega) ?_
  refine ini_F (v := .ref q5) (k := 16) hx hb hown hin htz hK hP hD hS kn_X11 rfl (by decide) kf_X11_22 rfl rfl rfl rfl (Nat.le_of_ble_eq_true rfl) dX11_init_39 (fun H locs hP hD hS => ?_)
  have hP : va_P D vwCl [(h0, .inr (11, [.ref q1, .int 0, .int 0, .int 0, .ref q2, .ref q3, .int 0, .int 0, .int 0, .int 0, .int 0, .int 0, .int 0, .int 0, .int 0, .ref q4, .ref q5, .int 0, .null, .null, .null, .int 0, .int 0, .null, .null, .int 0, .null, .null, .int 0, .int 0, .null, .null, .int 0, .null, .int 0, .int 0, .int 0, .int 0, .int 0, .int 0, .int 0, .int 0, .int 0, .int 0, .null, .null, .null, .null, .long 0])), (q1, .inl (aI, 22, .inl (fun _ => 0))), (q2, .inl (aI, 3, .inl (fun _ => 0))), (q3, .inl (aI, 10, .inl (fun _ => 0))), (q4, .inl (aI, 3, .inl (fun _ => 0))), (q5, .inl (aI, 10, .inl (fun _ => 0)))] H := hP
  have hD : va_D A [(h0, .inr (11, [.ref q1, .int 0, .int 0, .int 0, .ref q2, .ref q3, .int 0, .int 0, .int 0, .int 0, .int 0, .int 0, .int 0, .int 0, .int 0, .ref q4, .ref q5, .int 0, .null, .null, .null, .int 0, .int 0, .null, .null, .int 0, .null, .null, .int 0, .int 0, .null, .null, .int 0, .null, .int 0, .int 0, .int 0, .int 0, .int 0, .int 0, .int 0, .int 0, .int 0, .int 0, .null, .null, .null, .null, .long 0])), (q1, .inl (aI, 22, .inl (fun _ => 0))), (q2, .inl (aI, 3, .inl (fun _ => 0))), (q3, .inl (aI, 10, .inl (fun _ => 0))), (q4, .inl (aI, 3, .inl (fun _ => 0))), (q5, .inl (aI, 10, .inl (fun _ => 0)))] := hD
  refine lv_aload_n hx hb dX11_init_42 rfl (lv_at hl 0 rfl) ?_
  refine lv_bipush (v := 18) hx hb dX11_init_43 (by decide) ?_
  refine ini_A (N' := 18) hx hb htz hK hP hD hS hA (by decide) (by decide) (by decide) (Nat.le_of_ble_eq_true rfl) (Nat.le_of_ble_eq_true rfl) dX11_init_45 (fun q6 H hP hD hS => ?_)
  refine W.widen (k := 6) (n := 66) (by omega) (by omega) ?_
  refine ini_F (v := .ref q6) (k := 18) hx hb hown hin htz hK hP hD hS kn_X11 rfl (by decide) kf_X11_25 rfl rfl rfl rfl (Nat.le_of_ble_eq_true rfl) dX11_init_47 (fun H locs hP hD hS => ?_)
  have hP : va_P D vwCl [(h0, .inr (11, [.ref q1, .int 0, .int 0, .int 0, .ref q2, .ref q3, .int 0, .int 0, .int 0, .int 0, .int 0, .int 0, .int 0, .int 0, .int 0, .ref q4, .ref q5, .int 0, .ref q6, .null, .null, .int 0, .int 0, .null, .null, .int 0, .null, .null, .int 0, .int 0, .null, .null, .int 0, .null, .int 0, .int 0, .int 0, .int 0, .int 0, .int 0, .int 0, .int 0, .int 0, .int 0, .null, .null, .null, .null, .long 0])), (q1, .inl (aI, 22, .inl (fun _ => 0))), (q2, .inl (aI, 3, .inl (fun _ => 0))), (q3, .inl (aI, 10, .inl (fun _ => 0))), (q4, .inl (aI, 3, .inl (fun _ => 0))), (q5, .inl (aI, 10, .inl (fun _ => 0))), (q6, .inl (aI, 18, .inl (fun _ => 0)))] H := hP
  have hD : va_D A [(h0, .inr (11, [.ref q1, .int 0, .int 0, .int 0, .ref q2, .ref q3, .int 0, .int 0, .int 0, .int 0, .int 0, .int 0, .int 0, .int 0, .int 0, .ref q4, .ref q5, .int 0, .ref q6, .null, .null, .int 0, .int 0, .null, .null, .int 0, .null, .null, .int 0, .int 0, .null, .null, .int 0, .null, .int 0, .int 0, .int 0, .int 0, .int 0, .int 0, .int 0, .int 0, .int 0, .int 0, .null, .null, .null, .null, .long 0])), (q1, .inl (aI, 22, .inl (fun _ => 0))), (q2, .inl (aI, 3, .inl (fun _ => 0))), (q3, .inl (aI, 10, .inl (fun _ => 0))), (q4, .inl (aI, 3, .inl (fun _ => 0))), (q5, .inl (aI, 10, .inl (fun _ => 0))), (q6, .inl (aI, 18, .inl (fun _ => 0)))] := hD
  refine lv_aload_n hx hb dX11_init_50 rfl (lv_at hl 0 rfl) ?_
  refine lv_bipush (v := 64) hx hb dX11_init_51 (by decide) ?_
  refine ini_B (N' := 64) hx hb htz hK hP hD hS hA (by decide) (by decide) (by decide) (Nat.le_of_ble_eq_true rfl) (Nat.le_of_ble_eq_true rfl) dX11_init_53 (fun q7 H hP hD hS => ?_)
  refine W.widen (k := 7) (n := 130) (by omega) (by omega) ?_
  refine ini_F (v := .ref q7) (k := 19) hx hb hown hin htz hK hP hD hS kn_X11 rfl (by decide) kf_X11_28 rfl rfl rfl rfl (Nat.le_of_ble_eq_true rfl) dX11_init_55 (fun H locs hP hD hS => ?_)
  have hP : va_P D vwCl [(h0, .inr (11, [.ref q1, .int 0, .int 0, .int 0, .ref q2, .ref q3, .int 0, .int 0, .int 0, .int 0, .int 0, .int 0, .int 0, .int 0, .int 0, .ref q4, .ref q5, .int 0, .ref q6, .ref q7, .null, .int 0, .int 0, .null, .null, .int 0, .null, .null, .int 0, .int 0, .null, .null, .int 0, .null, .int 0, .int 0, .int 0, .int 0, .int 0, .int 0, .int 0, .int 0, .int 0, .int 0, .null, .null, .null, .null, .long 0])), (q1, .inl (aI, 22, .inl (fun _ => 0))), (q2, .inl (aI, 3, .inl (fun _ => 0))), (q3, .inl (aI, 10, .inl (fun _ => 0))), (q4, .inl (aI, 3, .inl (fun _ => 0))), (q5, .inl (aI, 10, .inl (fun _ => 0))), (q6, .inl (aI, 18, .inl (fun _ => 0))), (q7, .inl (aJ, 64, .inr (.inl (fun _ => 0))))] H := hP
  have hD : va_D A [(h0, .inr (11, [.ref q1, .int 0, .int 0, .int 0, .ref q2, .ref q3, .int 0, .int 0, .int 0, .int 0, .int 0, .int 0, .int 0, .int 0, .int 0, .ref q4, .ref q5, .int 0, .ref q6, .ref q7, .null, .int 0, .int 0, .null, .null, .int 0, .null, .null, .int 0, .int 0, .null, .null, .int 0, .null, .int 0, .int 0, .int 0, .int 0, .int 0, .int 0, .int 0, .int 0, .int 0, .int 0, .null, .null, .null, .null, .long 0])), (q1, .inl (aI, 22, .inl (fun _ => 0))), (q2, .inl (aI, 3, .inl (fun _ => 0))), (q3, .inl (aI, 10, .inl (fun _ => 0))), (q4, .inl (aI, 3, .inl (fun _ => 0))), (q5, .inl (aI, 10, .inl (fun _ => 0))), (q6, .inl (aI, 18, .inl (fun _ => 0))), (q7, .inl (aJ, 64, .inr (.inl (fun _ => 0))))] := hD
  refine lv_aload_n hx hb dX11_init_58 rfl (lv_at hl 0 rfl) ?_
  refine lv_bipush (v := 64) hx hb dX11_init_59 (by decide) ?_
  refine ini_B (N' := 64) hx hb htz hK hP hD hS hA (by decide) (by decide) (by decide) (Nat.le_of_ble_eq_true rfl) (Nat.le_of_ble_eq_true rfl) dX11_init_61 (fun q8 H hP hD hS => ?_)
  refine W.widen (k := 8) (n := 194) (by omega) (by omega) ?_
  refine ini_F (v := .ref q8) (k := 20) hx hb hown hin htz hK hP hD hS kn_X11 rfl (by decide) kf_X11_32 rfl rfl rfl rfl (Nat.le_of_ble_eq_true rfl) dX11_init_63 (fun H locs hP hD hS => ?_)
  have hP : va_P D vwCl [(h0, .inr (11, [.ref q1, .int 0, .int 0, .int 0, .ref q2, .ref q3, .int 0, .int 0, .int 0, .int 0, .int 0, .int 0, .int 0, .int 0, .int 0, .ref q4, .ref q5, .int 0, .ref q6, .ref q7, .ref q8, .int 0, .int 0, .null, .null, .int 0, .null, .null, .int 0, .int 0, .null, .null, .int 0, .null, .int 0, .int 0, .int 0, .int 0, .int 0, .int 0, .int 0, .int 0, .int 0, .int 0, .null, .null, .null, .null, .long 0])), (q1, .inl (aI, 22, .inl (fun _ => 0))), (q2, .inl (aI, 3, .inl (fun _ => 0))), (q3, .inl (aI, 10, .inl (fun _ => 0))), (q4, .inl (aI, 3, .inl (fun _ => 0))), (q5, .inl (aI, 10, .inl (fun _ => 0))), (q6, .inl (aI, 18, .inl (fun _ => 0))), (q7, .inl (aJ, 64, .inr (.inl (fun _ => 0)))), (q8, .inl (aJ, 64, .inr (.inl (fun _ => 0))))] H := hP
  have hD : va_D A [(h0, .inr (11, [.ref q1, .int 0, .int 0, .int 0, .ref q2, .ref q3, .int 0, .int 0, .int 0, .int 0, .int 0, .int 0, .int 0, .int 0, .int 0, .ref q4, .ref q5, .int 0, .ref q6, .ref q7, .ref q8, .int 0, .int 0, .null, .null, .int 0, .null, .null, .int 0, .int 0, .null, .null, .int 0, .null, .int 0, .int 0, .int 0, .int 0, .int 0, .int 0, .int 0, .int 0, .int 0, .int 0, .null, .null, .null, .null, .long 0])), (q1, .inl (aI, 22, .inl (fun _ => 0))), (q2, .inl (aI, 3, .inl (fun _ => 0))), (q3, .inl (aI, 10, .inl (fun _ => 0))), (q4, .inl (aI, 3, .inl (fun _ => 0))), (q5, .inl (aI, 10, .inl (fun _ => 0))), (q6, .inl (aI, 18, .inl (fun _ => 0))), (q7, .inl (aJ, 64, .inr (.inl (fun _ => 0)))), (q8, .inl (aJ, 64, .inr (.inl (fun _ => 0))))] := hD
  refine lv_aload_n hx hb dX11_init_66 rfl (lv_at hl 0 rfl) ?_
  refine lv_bipush (v := 18) hx hb dX11_init_67 (by decide) ?_
  refine ini_A (N' := 18) hx hb htz hK hP hD hS hA (by decide) (by decide) (by decide) (Nat.le_of_ble_eq_true rfl) (Nat.le_of_ble_eq_true rfl) dX11_init_69 (fun q9 H hP hD hS => ?_)
  refine W.widen (k := 9) (n := 212) (by omega) (by omega) ?_
  refine ini_F (v := .ref q9) (k := 23) hx hb hown hin htz hK hP hD hS kn_X11 rfl (by decide) kf_X11_35 rfl rfl rfl rfl (Nat.le_of_ble_eq_true rfl) dX11_init_71 (fun H locs hP hD hS => ?_)
  have hP : va_P D vwCl [(h0, .inr (11, [.ref q1, .int 0, .int 0, .int 0, .ref q2, .ref q3, .int 0, .int 0, .int 0, .int 0, .int 0, .int 0, .int 0, .int 0, .int 0, .ref q4, .ref q5, .int 0, .ref q6, .ref q7, .ref q8, .int 0, .int 0, .ref q9, .null, .int 0, .null, .null, .int 0, .int 0, .null, .null, .int 0, .null, .int 0, .int 0, .int 0, .int 0, .int 0, .int 0, .int 0, .int 0, .int 0, .int 0, .null, .null, .null, .null, .long 0])), (q1, .inl (aI, 22, .inl (fun _ => 0))), (q2, .inl (aI, 3, .inl (fun _ => 0))), (q3, .inl (aI, 10, .inl (fun _ => 0))), (q4, .inl (aI, 3, .inl (fun _ => 0))), (q5, .inl (aI, 10, .inl (fun _ => 0))), (q6, .inl (aI, 18, .inl (fun _ => 0))), (q7, .inl (aJ, 64, .inr (.inl (fun _ => 0)))), (q8, .inl (aJ, 64, .inr (.inl (fun _ => 0)))), (q9, .inl (aI, 18, .inl (fun _ => 0)))] H := hP
  have hD : va_D A [(h0, .inr (11, [.ref q1, .int 0, .int 0, .int 0, .ref q2, .ref q3, .int 0, .int 0, .int 0, .int 0, .int 0, .int 0, .int 0, .int 0, .int 0, .ref q4, .ref q5, .int 0, .ref q6, .ref q7, .ref q8, .int 0, .int 0, .ref q9, .null, .int 0, .null, .null, .int 0, .int 0, .null, .null, .int 0, .null, .int 0, .int 0, .int 0, .int 0, .int 0, .int 0, .int 0, .int 0, .int 0, .int 0, .null, .null, .null, .null, .long 0])), (q1, .inl (aI, 22, .inl (fun _ => 0))), (q2, .inl (aI, 3, .inl (fun _ => 0))), (q3, .inl (aI, 10, .inl (fun _ => 0))), (q4, .inl (aI, 3, .inl (fun _ => 0))), (q5, .inl (aI, 10, .inl (fun _ => 0))), (q6, .inl (aI, 18, .inl (fun _ => 0))), (q7, .inl (aJ, 64, .inr (.inl (fun _ => 0)))), (q8, .inl (aJ, 64, .inr (.inl (fun _ => 0)))), (q9, .inl (aI, 18, .inl (fun _ => 0)))] := hD
  refine lv_aload_n hx hb dX11_init_74 rfl (lv_at hl 0 rfl) ?_
  refine lv_bipush (v := 6) hx hb dX11_init_75 (by decide) ?_
  refine ini_A (N' := 6) hx hb htz hK hP hD hS hA (by decide) (by decide) (by decide) (Nat.le_of_ble_eq_true rfl) (Nat.le_of_ble_eq_true rfl) dX11_init_77 (fun q10 H hP hD hS => ?_)
  refine W.widen (k := 10) (n := 218) (by omega) (by omega) ?_
  refine ini_F (v := .ref q10) (k := 24) hx hb hown hin htz hK hP hD hS kn_X11 rfl (by decide) kf_X11_38 rfl rfl rfl rfl (Nat.le_of_ble_eq_true rfl) dX11_init_79 (fun H locs hP hD hS => ?_)
  have hP : va_P D vwCl [(h0, .inr (11, [.ref q1, .int 0, .int 0, .int 0, .ref q2, .ref q3, .int 0, .int 0, .int 0, .int 0, .int 0, .int 0, .int 0, .int 0, .int 0, .ref q4, .ref q5, .int 0, .ref q6, .ref q7, .ref q8, .int 0, .int 0, .ref q9, .ref q10, .int 0, .null, .null, .int 0, .int 0, .null, .null, .int 0, .null, .int 0, .int 0, .int 0, .int 0, .int 0, .int 0, .int 0, .int 0, .int 0, .int 0, .null, .null, .null, .null, .long 0])), (q1, .inl (aI, 22, .inl (fun _ => 0))), (q2, .inl (aI, 3, .inl (fun _ => 0))), (q3, .inl (aI, 10, .inl (fun _ => 0))), (q4, .inl (aI, 3, .inl (fun _ => 0))), (q5, .inl (aI, 10, .inl (fun _ => 0))), (q6, .inl (aI, 18, .inl (fun _ => 0))), (q7, .inl (aJ, 64, .inr (.inl (fun _ => 0)))), (q8, .inl (aJ, 64, .inr (.inl (fun _ => 0)))), (q9, .inl (aI, 18, .inl (fun _ => 0))), (q10, .inl (aI, 6, .inl (fun _ => 0)))] H := hP
  have hD : va_D A [(h0, .inr (11, [.ref q1, .int 0, .int 0, .int 0, .ref q2, .ref q3, .int 0, .int 0, .int 0, .int 0, .int 0, .int 0, .int 0, .int 0, .int 0, .ref q4, .ref q5, .int 0, .ref q6, .ref q7, .ref q8, .int 0, .int 0, .ref q9, .ref q10, .int 0, .null, .null, .int 0, .int 0, .null, .null, .int 0, .null, .int 0, .int 0, .int 0, .int 0, .int 0, .int 0, .int 0, .int 0, .int 0, .int 0, .null, .null, .null, .null, .long 0])), (q1, .inl (aI, 22, .inl (fun _ => 0))), (q2, .inl (aI, 3, .inl (fun _ => 0))), (q3, .inl (aI, 10, .inl (fun _ => 0))), (q4, .inl (aI, 3, .inl (fun _ => 0))), (q5, .inl (aI, 10, .inl (fun _ => 0))), (q6, .inl (aI, 18, .inl (fun _ => 0))), (q7, .inl (aJ, 64, .inr (.inl (fun _ => 0)))), (q8, .inl (aJ, 64, .inr (.inl (fun _ => 0)))), (q9, .inl (aI, 18, .inl (fun _ => 0))), (q10, .inl (aI, 6, .inl (fun _ => 0)))] := hD
  refine lv_aload_n hx hb dX11_init_82 rfl (lv_at hl 0 rfl) ?_
  refine lv_bipush (v := 6) hx hb dX11_init_83 (by decide) ?_
  refine ini_A (N' := 6) hx hb htz hK hP hD hS hA (by decide) (by decide) (by decide) (Nat.le_of_ble_eq_true rfl) (Nat.le_of_ble_eq_true rfl) dX11_init_85 (fun q11 H hP hD hS => ?_)
  refine W.widen (k := 11) (n := 224) (by omega) (by omega) ?_
  refine ini_F (v := .ref q11) (k := 26) hx hb hown hin htz hK hP hD hS kn_X11 rfl (by decide) kf_X11_41 rfl rfl rfl rfl (Nat.le_of_ble_eq_true rfl) dX11_init_87 (fun H locs hP hD hS => ?_)
  have hP : va_P D vwCl [(h0, .inr (11, [.ref q1, .int 0, .int 0, .int 0, .ref q2, .ref q3, .int 0, .int 0, .int 0, .int 0, .int 0, .int 0, .int 0, .int 0, .int 0, .ref q4, .ref q5, .int 0, .ref q6, .ref q7, .ref q8, .int 0, .int 0, .ref q9, .ref q10, .int 0, .ref q11, .null, .int 0, .int 0, .null, .null, .int 0, .null, .int 0, .int 0, .int 0, .int 0, .int 0, .int 0, .int 0, .int 0, .int 0, .int 0, .null, .null, .null, .null, .long 0])), (q1, .inl (aI, 22, .inl (fun _ => 0))), (q2, .inl (aI, 3, .inl (fun _ => 0))), (q3, .inl (aI, 10, .inl (fun _ => 0))), (q4, .inl (aI, 3, .inl (fun _ => 0))), (q5, .inl (aI, 10, .inl (fun _ => 0))), (q6, .inl (aI, 18, .inl (fun _ => 0))), (q7, .inl (aJ, 64, .inr (.inl (fun _ => 0)))), (q8, .inl (aJ, 64, .inr (.inl (fun _ => 0)))), (q9, .inl (aI, 18, .inl (fun _ => 0))), (q10, .inl (aI, 6, .inl (fun _ => 0))), (q11, .inl (aI, 6, .inl (fun _ => 0)))] H := hP
  have hD : va_D A [(h0, .inr (11, [.ref q1, .int 0, .int 0, .int 0, .ref q2, .ref q3, .int 0, .int 0, .int 0, .int 0, .int 0, .int 0, .int 0, .int 0, .int 0, .ref q4, .ref q5, .int 0, .ref q6, .ref q7, .ref q8, .int 0, .int 0, .ref q9, .ref q10, .int 0, .ref q11, .null, .int 0, .int 0, .null, .null, .int 0, .null, .int 0, .int 0, .int 0, .int 0, .int 0, .int 0, .int 0, .int 0, .int 0, .int 0, .null, .null, .null, .null, .long 0])), (q1, .inl (aI, 22, .inl (fun _ => 0))), (q2, .inl (aI, 3, .inl (fun _ => 0))), (q3, .inl (aI, 10, .inl (fun _ => 0))), (q4, .inl (aI, 3, .inl (fun _ => 0))), (q5, .inl (aI, 10, .inl (fun _ => 0))), (q6, .inl (aI, 18, .inl (fun _ => 0))), (q7, .inl (aJ, 64, .inr (.inl (fun _ => 0)))), (q8, .inl (aJ, 64, .inr (.inl (fun _ => 0)))), (q9, .inl (aI, 18, .inl (fun _ => 0))), (q10, .inl (aI, 6, .inl (fun _ => 0))), (q11, .inl (aI, 6, .inl (fun _ => 0)))] := hD
  refine lv_aload_n hx hb dX11_init_90 rfl (lv_at hl 0 rfl) ?_
  refine lv_bipush (v := 6) hx hb dX11_init_91 (by decide) ?_
  refine ini_A (N' := 6) hx hb htz hK hP hD hS hA (by decide) (by decide) (by decide) (Nat.le_of_ble_eq_true rfl) (Nat.le_of_ble_eq_true rfl) dX11_init_93 (fun q12 H hP hD hS => ?_)
  refine W.widen (k := 12) (n := 230) (by omega) (by omega) ?_
  refine ini_F (v := .ref q12) (k := 27) hx hb hown hin htz hK hP hD hS kn_X11 rfl (by decide) kf_X11_44 rfl rfl rfl rfl (Nat.le_of_ble_eq_true rfl) dX11_init_95 (fun H locs hP hD hS => ?_)
  have hP : va_P D vwCl [(h0, .inr (11, [.ref q1, .int 0, .int 0, .int 0, .ref q2, .ref q3, .int 0, .int 0, .int 0, .int 0, .int 0, .int 0, .int 0, .int 0, .int 0, .ref q4, .ref q5, .int 0, .ref q6, .ref q7, .ref q8, .int 0, .int 0, .ref q9, .ref q10, .int 0, .ref q11, .ref q12, .int 0, .int 0, .null, .null, .int 0, .null, .int 0, .int 0, .int 0, .int 0, .int 0, .int 0, .int 0, .int 0, .int 0, .int 0, .null, .null, .null, .null, .long 0])), (q1, .inl (aI, 22, .inl (fun _ => 0))), (q2, .inl (aI, 3, .inl (fun _ => 0))), (q3, .inl (aI, 10, .inl (fun _ => 0))), (q4, .inl (aI, 3, .inl (fun _ => 0))), (q5, .inl (aI, 10, .inl (fun _ => 0))), (q6, .inl (aI, 18, .inl (fun _ => 0))), (q7, .inl (aJ, 64, .inr (.inl (fun _ => 0)))), (q8, .inl (aJ, 64, .inr (.inl (fun _ => 0)))), (q9, .inl (aI, 18, .inl (fun _ => 0))), (q10, .inl (aI, 6, .inl (fun _ => 0))), (q11, .inl (aI, 6, .inl (fun _ => 0))), (q12, .inl (aI, 6, .inl (fun _ => 0)))] H := hP
  have hD : va_D A [(h0, .inr (11, [.ref q1, .int 0, .int 0, .int 0, .ref q2, .ref q3, .int 0, .int 0, .int 0, .int 0, .int 0, .int 0, .int 0, .int 0, .int 0, .ref q4, .ref q5, .int 0, .ref q6, .ref q7, .ref q8, .int 0, .int 0, .ref q9, .ref q10, .int 0, .ref q11, .ref q12, .int 0, .int 0, .null, .null, .int 0, .null, .int 0, .int 0, .int 0, .int 0, .int 0, .int 0, .int 0, .int 0, .int 0, .int 0, .null, .null, .null, .null, .long 0])), (q1, .inl (aI, 22, .inl (fun _ => 0))), (q2, .inl (aI, 3, .inl (fun _ => 0))), (q3, .inl (aI, 10, .inl (fun _ => 0))), (q4, .inl (aI, 3, .inl (fun _ => 0))), (q5, .inl (aI, 10, .inl (fun _ => 0))), (q6, .inl (aI, 18, .inl (fun _ => 0))), (q7, .inl (aJ, 64, .inr (.inl (fun _ => 0)))), (q8, .inl (aJ, 64, .inr (.inl (fun _ => 0)))), (q9, .inl (aI, 18, .inl (fun _ => 0))), (q10, .inl (aI, 6, .inl (fun _ => 0))), (q11, .inl (aI, 6, .inl (fun _ => 0))), (q12, .inl (aI, 6, .inl (fun _ => 0)))] := hD
  refine lv_aload_n hx hb dX11_init_98 rfl (lv_at hl 0 rfl) ?_
  refine lv_bipush (v := 30) hx hb dX11_init_99 (by decide) ?_
  refine ini_A (N' := 30) hx hb htz hK hP hD hS hA (by decide) (by decide) (by decide) (Nat.le_of_ble_eq_true rfl) (Nat.le_of_ble_eq_true rfl) dX11_init_101 (fun q13 H hP hD hS => ?_)
  refine W.widen (k := 13) (n := 260) (by omega) (by omega) ?_
  refine ini_F (v := .ref q13) (k := 30) hx hb hown hin htz hK hP hD hS kn_X11 rfl (by decide) kf_X11_47 rfl rfl rfl rfl (Nat.le_of_ble_eq_true rfl) dX11_init_103 (fun H locs hP hD hS => ?_)
  have hP : va_P D vwCl [(h0, .inr (11, [.ref q1, .int 0, .int 0, .int 0, .ref q2, .ref q3, .int 0, .int 0, .int 0, .int 0, .int 0, .int 0, .int 0, .int 0, .int 0, .ref q4, .ref q5, .int 0, .ref q6, .ref q7, .ref q8, .int 0, .int 0, .ref q9, .ref q10, .int 0, .ref q11, .ref q12, .int 0, .int 0, .ref q13, .null, .int 0, .null, .int 0, .int 0, .int 0, .int 0, .int 0, .int 0, .int 0, .int 0, .int 0, .int 0, .null, .null, .null, .null, .long 0])), (q1, .inl (aI, 22, .inl (fun _ => 0))), (q2, .inl (aI, 3, .inl (fun _ => 0))), (q3, .inl (aI, 10, .inl (fun _ => 0))), (q4, .inl (aI, 3, .inl (fun _ => 0))), (q5, .inl (aI, 10, .inl (fun _ => 0))), (q6, .inl (aI, 18, .inl (fun _ => 0))), (q7, .inl (aJ, 64, .inr (.inl (fun _ => 0)))), (q8, .inl (aJ, 64, .inr (.inl (fun _ => 0)))), (q9, .inl (aI, 18, .inl (fun _ => 0))), (q10, .inl (aI, 6, .inl (fun _ => 0))), (q11, .inl (aI, 6, .inl (fun _ => 0))), (q12, .inl (aI, 6, .inl (fun _ => 0))), (q13, .inl (aI, 30, .inl (fun _ => 0)))] H := hP
  have hD : va_D A [(h0, .inr (11, [.ref q1, .int 0, .int 0, .int 0, .ref q2, .ref q3, .int 0, .int 0, .int 0, .int 0, .int 0, .int 0, .int 0, .int 0, .int 0, .ref q4, .ref q5, .int 0, .ref q6, .ref q7, .ref q8, .int 0, .int 0, .ref q9, .ref q10, .int 0, .ref q11, .ref q12, .int 0, .int 0, .ref q13, .null, .int 0, .null, .int 0, .int 0, .int 0, .int 0, .int 0, .int 0, .int 0, .int 0, .int 0, .int 0, .null, .null, .null, .null, .long 0])), (q1, .inl (aI, 22, .inl (fun _ => 0))), (q2, .inl (aI, 3, .inl (fun _ => 0))), (q3, .inl (aI, 10, .inl (fun _ => 0))), (q4, .inl (aI, 3, .inl (fun _ => 0))), (q5, .inl (aI, 10, .inl (fun _ => 0))), (q6, .inl (aI, 18, .inl (fun _ => 0))), (q7, .inl (aJ, 64, .inr (.inl (fun _ => 0)))), (q8, .inl (aJ, 64, .inr (.inl (fun _ => 0)))), (q9, .inl (aI, 18, .inl (fun _ => 0))), (q10, .inl (aI, 6, .inl (fun _ => 0))), (q11, .inl (aI, 6, .inl (fun _ => 0))), (q12, .inl (aI, 6, .inl (fun _ => 0))), (q13, .inl (aI, 30, .inl (fun _ => 0)))] := hD
  refine lv_aload_n hx hb dX11_init_106 rfl (lv_at hl 0 rfl) ?_
  refine lv_bipush (v := 6) hx hb dX11_init_107 (by decide) ?_
  refine ini_A (N' := 6) hx hb htz hK hP hD hS hA (by decide) (by decide) (by decide) (Nat.le_of_ble_eq_true rfl) (Nat.le_of_ble_eq_true rfl) dX11_init_109 (fun q14 H hP hD hS => ?_)
  refine W.widen (k := 14) (n := 266) (by omega) (by omega) ?_
  refine ini_F (v := .ref q14) (k := 31) hx hb hown hin htz hK hP hD hS kn_X11 rfl (by decide) kf_X11_50 rfl rfl rfl rfl (Nat.le_of_ble_eq_true rfl) dX11_init_111 (fun H locs hP hD hS => ?_)
  have hP : va_P D vwCl [(h0, .inr (11, [.ref q1, .int 0, .int 0, .int 0, .ref q2, .ref q3, .int 0, .int 0, .int 0, .int 0, .int 0, .int 0, .int 0, .int 0, .int 0, .ref q4, .ref q5, .int 0, .ref q6, .ref q7, .ref q8, .int 0, .int 0, .ref q9, .ref q10, .int 0, .ref q11, .ref q12, .int 0, .int 0, .ref q13, .ref q14, .int 0, .null, .int 0, .int 0, .int 0, .int 0, .int 0, .int 0, .int 0, .int 0, .int 0, .int 0, .null, .null, .null, .null, .long 0])), (q1, .inl (aI, 22, .inl (fun _ => 0))), (q2, .inl (aI, 3, .inl (fun _ => 0))), (q3, .inl (aI, 10, .inl (fun _ => 0))), (q4, .inl (aI, 3, .inl (fun _ => 0))), (q5, .inl (aI, 10, .inl (fun _ => 0))), (q6, .inl (aI, 18, .inl (fun _ => 0))), (q7, .inl (aJ, 64, .inr (.inl (fun _ => 0)))), (q8, .inl (aJ, 64, .inr (.inl (fun _ => 0)))), (q9, .inl (aI, 18, .inl (fun _ => 0))), (q10, .inl (aI, 6, .inl (fun _ => 0))), (q11, .inl (aI, 6, .inl (fun _ => 0))), (q12, .inl (aI, 6, .inl (fun _ => 0))), (q13, .inl (aI, 30, .inl (fun _ => 0))), (q14, .inl (aI, 6, .inl (fun _ => 0)))] H := hP
  have hD : va_D A [(h0, .inr (11, [.ref q1, .int 0, .int 0, .int 0, .ref q2, .ref q3, .int 0, .int 0, .int 0, .int 0, .int 0, .int 0, .int 0, .int 0, .int 0, .ref q4, .ref q5, .int 0, .ref q6, .ref q7, .ref q8, .int 0, .int 0, .ref q9, .ref q10, .int 0, .ref q11, .ref q12, .int 0, .int 0, .ref q13, .ref q14, .int 0, .null, .int 0, .int 0, .int 0, .int 0, .int 0, .int 0, .int 0, .int 0, .int 0, .int 0, .null, .null, .null, .null, .long 0])), (q1, .inl (aI, 22, .inl (fun _ => 0))), (q2, .inl (aI, 3, .inl (fun _ => 0))), (q3, .inl (aI, 10, .inl (fun _ => 0))), (q4, .inl (aI, 3, .inl (fun _ => 0))), (q5, .inl (aI, 10, .inl (fun _ => 0))), (q6, .inl (aI, 18, .inl (fun _ => 0))), (q7, .inl (aJ, 64, .inr (.inl (fun _ => 0)))), (q8, .inl (aJ, 64, .inr (.inl (fun _ => 0)))), (q9, .inl (aI, 18, .inl (fun _ => 0))), (q10, .inl (aI, 6, .inl (fun _ => 0))), (q11, .inl (aI, 6, .inl (fun _ => 0))), (q12, .inl (aI, 6, .inl (fun _ => 0))), (q13, .inl (aI, 30, .inl (fun _ => 0))), (q14, .inl (aI, 6, .inl (fun _ => 0)))] := hD
  refine lv_aload_n hx hb dX11_init_114 rfl (lv_at hl 0 rfl) ?_
  refine lv_bipush (v := 8) hx hb dX11_init_115 (by decide) ?_
  refine ini_A (N' := 8) hx hb htz hK hP hD hS hA (by decide) (by decide) (by decide) (Nat.le_of_ble_eq_true rfl) (Nat.le_of_ble_eq_true rfl) dX11_init_117 (fun q15 H hP hD hS => ?_)
  refine W.widen (k := 15) (n := 274) (by omega) (by omega) ?_
  refine ini_F (v := .ref q15) (k := 33) hx hb hown hin htz hK hP hD hS kn_X11 rfl (by decide) kf_X11_53 rfl rfl rfl rfl (Nat.le_of_ble_eq_true rfl) dX11_init_119 (fun H locs hP hD hS => ?_)
  have hP : va_P D vwCl [(h0, .inr (11, [.ref q1, .int 0, .int 0, .int 0, .ref q2, .ref q3, .int 0, .int 0, .int 0, .int 0, .int 0, .int 0, .int 0, .int 0, .int 0, .ref q4, .ref q5, .int 0, .ref q6, .ref q7, .ref q8, .int 0, .int 0, .ref q9, .ref q10, .int 0, .ref q11, .ref q12, .int 0, .int 0, .ref q13, .ref q14, .int 0, .ref q15, .int 0, .int 0, .int 0, .int 0, .int 0, .int 0, .int 0, .int 0, .int 0, .int 0, .null, .null, .null, .null, .long 0])), (q1, .inl (aI, 22, .inl (fun _ => 0))), (q2, .inl (aI, 3, .inl (fun _ => 0))), (q3, .inl (aI, 10, .inl (fun _ => 0))), (q4, .inl (aI, 3, .inl (fun _ => 0))), (q5, .inl (aI, 10, .inl (fun _ => 0))), (q6, .inl (aI, 18, .inl (fun _ => 0))), (q7, .inl (aJ, 64, .inr (.inl (fun _ => 0)))), (q8, .inl (aJ, 64, .inr (.inl (fun _ => 0)))), (q9, .inl (aI, 18, .inl (fun _ => 0))), (q10, .inl (aI, 6, .inl (fun _ => 0))), (q11, .inl (aI, 6, .inl (fun _ => 0))), (q12, .inl (aI, 6, .inl (fun _ => 0))), (q13, .inl (aI, 30, .inl (fun _ => 0))), (q14, .inl (aI, 6, .inl (fun _ => 0))), (q15, .inl (aI, 8, .inl (fun _ => 0)))] H := hP
  have hD : va_D A [(h0, .inr (11, [.ref q1, .int 0, .int 0, .int 0, .ref q2, .ref q3, .int 0, .int 0, .int 0, .int 0, .int 0, .int 0, .int 0, .int 0, .int 0, .ref q4, .ref q5, .int 0, .ref q6, .ref q7, .ref q8, .int 0, .int 0, .ref q9, .ref q10, .int 0, .ref q11, .ref q12, .int 0, .int 0, .ref q13, .ref q14, .int 0, .ref q15, .int 0, .int 0, .int 0, .int 0, .int 0, .int 0, .int 0, .int 0, .int 0, .int 0, .null, .null, .null, .null, .long 0])), (q1, .inl (aI, 22, .inl (fun _ => 0))), (q2, .inl (aI, 3, .inl (fun _ => 0))), (q3, .inl (aI, 10, .inl (fun _ => 0))), (q4, .inl (aI, 3, .inl (fun _ => 0))), (q5, .inl (aI, 10, .inl (fun _ => 0))), (q6, .inl (aI, 18, .inl (fun _ => 0))), (q7, .inl (aJ, 64, .inr (.inl (fun _ => 0)))), (q8, .inl (aJ, 64, .inr (.inl (fun _ => 0)))), (q9, .inl (aI, 18, .inl (fun _ => 0))), (q10, .inl (aI, 6, .inl (fun _ => 0))), (q11, .inl (aI, 6, .inl (fun _ => 0))), (q12, .inl (aI, 6, .inl (fun _ => 0))), (q13, .inl (aI, 30, .inl (fun _ => 0))), (q14, .inl (aI, 6, .inl (fun _ => 0))), (q15, .inl (aI, 8, .inl (fun _ => 0)))] := hD
  refine lv_aload_n hx hb dX11_init_122 rfl (lv_at hl 0 rfl) ?_
  refine lv_bipush (v := 18) hx hb dX11_init_123 (by decide) ?_
  refine ini_A (N' := 18) hx hb htz hK hP hD hS hA (by decide) (by decide) (by decide) (Nat.le_of_ble_eq_true rfl) (Nat.le_of_ble_eq_true rfl) dX11_init_125 (fun q16 H hP hD hS => ?_)
  refine W.widen (k := 16) (n := 292) (by omega) (by omega) ?_
  refine ini_F (v := .ref q16) (k := 44) hx hb hown hin htz hK hP hD hS kn_X11 rfl (by decide) kf_X11_56 rfl rfl rfl rfl (Nat.le_of_ble_eq_true rfl) dX11_init_127 (fun H locs hP hD hS => ?_)
  have hP : va_P D vwCl [(h0, .inr (11, [.ref q1, .int 0, .int 0, .int 0, .ref q2, .ref q3, .int 0, .int 0, .int 0, .int 0, .int 0, .int 0, .int 0, .int 0, .int 0, .ref q4, .ref q5, .int 0, .ref q6, .ref q7, .ref q8, .int 0, .int 0, .ref q9, .ref q10, .int 0, .ref q11, .ref q12, .int 0, .int 0, .ref q13, .ref q14, .int 0, .ref q15, .int 0, .int 0, .int 0, .int 0, .int 0, .int 0, .int 0, .int 0, .int 0, .int 0, .ref q16, .null, .null, .null, .long 0])), (q1, .inl (aI, 22, .inl (fun _ => 0))), (q2, .inl (aI, 3, .inl (fun _ => 0))), (q3, .inl (aI, 10, .inl (fun _ => 0))), (q4, .inl (aI, 3, .inl (fun _ => 0))), (q5, .inl (aI, 10, .inl (fun _ => 0))), (q6, .inl (aI, 18, .inl (fun _ => 0))), (q7, .inl (aJ, 64, .inr (.inl (fun _ => 0)))), (q8, .inl (aJ, 64, .inr (.inl (fun _ => 0)))), (q9, .inl (aI, 18, .inl (fun _ => 0))), (q10, .inl (aI, 6, .inl (fun _ => 0))), (q11, .inl (aI, 6, .inl (fun _ => 0))), (q12, .inl (aI, 6, .inl (fun _ => 0))), (q13, .inl (aI, 30, .inl (fun _ => 0))), (q14, .inl (aI, 6, .inl (fun _ => 0))), (q15, .inl (aI, 8, .inl (fun _ => 0))), (q16, .inl (aI, 18, .inl (fun _ => 0)))] H := hP
  have hD : va_D A [(h0, .inr (11, [.ref q1, .int 0, .int 0, .int 0, .ref q2, .ref q3, .int 0, .int 0, .int 0, .int 0, .int 0, .int 0, .int 0, .int 0, .int 0, .ref q4, .ref q5, .int 0, .ref q6, .ref q7, .ref q8, .int 0, .int 0, .ref q9, .ref q10, .int 0, .ref q11, .ref q12, .int 0, .int 0, .ref q13, .ref q14, .int 0, .ref q15, .int 0, .int 0, .int 0, .int 0, .int 0, .int 0, .int 0, .int 0, .int 0, .int 0, .ref q16, .null, .null, .null, .long 0])), (q1, .inl (aI, 22, .inl (fun _ => 0))), (q2, .inl (aI, 3, .inl (fun _ => 0))), (q3, .inl (aI, 10, .inl (fun _ => 0))), (q4, .inl (aI, 3, .inl (fun _ => 0))), (q5, .inl (aI, 10, .inl (fun _ => 0))), (q6, .inl (aI, 18, .inl (fun _ => 0))), (q7, .inl (aJ, 64, .inr (.inl (fun _ => 0)))), (q8, .inl (aJ, 64, .inr (.inl (fun _ => 0)))), (q9, .inl (aI, 18, .inl (fun _ => 0))), (q10, .inl (aI, 6, .inl (fun _ => 0))), (q11, .inl (aI, 6, .inl (fun _ => 0))), (q12, .inl (aI, 6, .inl (fun _ => 0))), (q13, .inl (aI, 30, .inl (fun _ => 0))), (q14, .inl (aI, 6, .inl (fun _ => 0))), (q15, .inl (aI, 8, .inl (fun _ => 0))), (q16, .inl (aI, 18, .inl (fun _ => 0)))] := hD
  refine lv_aload_n hx hb dX11_init_130 rfl (lv_at hl 0 rfl) ?_
  refine lv_bipush (v := 18) hx hb dX11_init_131 (by decide) ?_
  refine ini_A (N' := 18) hx hb htz hK hP hD hS hA (by decide) (by decide) (by decide) (Nat.le_of_ble_eq_true rfl) (Nat.le_of_ble_eq_true rfl) dX11_init_133 (fun q17 H hP hD hS => ?_)
  refine W.widen (k := 17) (n := 310) (by omega) (by omega) ?_
  refine ini_F (v := .ref q17) (k := 45) hx hb hown hin htz hK hP hD hS kn_X11 rfl (by decide) kf_X11_59 rfl rfl rfl rfl (Nat.le_of_ble_eq_true rfl) dX11_init_135 (fun H locs hP hD hS => ?_)
  have hP : va_P D vwCl [(h0, .inr (11, [.ref q1, .int 0, .int 0, .int 0, .ref q2, .ref q3, .int 0, .int 0, .int 0, .int 0, .int 0, .int 0, .int 0, .int 0, .int 0, .ref q4, .ref q5, .int 0, .ref q6, .ref q7, .ref q8, .int 0, .int 0, .ref q9, .ref q10, .int 0, .ref q11, .ref q12, .int 0, .int 0, .ref q13, .ref q14, .int 0, .ref q15, .int 0, .int 0, .int 0, .int 0, .int 0, .int 0, .int 0, .int 0, .int 0, .int 0, .ref q16, .ref q17, .null, .null, .long 0])), (q1, .inl (aI, 22, .inl (fun _ => 0))), (q2, .inl (aI, 3, .inl (fun _ => 0))), (q3, .inl (aI, 10, .inl (fun _ => 0))), (q4, .inl (aI, 3, .inl (fun _ => 0))), (q5, .inl (aI, 10, .inl (fun _ => 0))), (q6, .inl (aI, 18, .inl (fun _ => 0))), (q7, .inl (aJ, 64, .inr (.inl (fun _ => 0)))), (q8, .inl (aJ, 64, .inr (.inl (fun _ => 0)))), (q9, .inl (aI, 18, .inl (fun _ => 0))), (q10, .inl (aI, 6, .inl (fun _ => 0))), (q11, .inl (aI, 6, .inl (fun _ => 0))), (q12, .inl (aI, 6, .inl (fun _ => 0))), (q13, .inl (aI, 30, .inl (fun _ => 0))), (q14, .inl (aI, 6, .inl (fun _ => 0))), (q15, .inl (aI, 8, .inl (fun _ => 0))), (q16, .inl (aI, 18, .inl (fun _ => 0))), (q17, .inl (aI, 18, .inl (fun _ => 0)))] H := hP
  have hD : va_D A [(h0, .inr (11, [.ref q1, .int 0, .int 0, .int 0, .ref q2, .ref q3, .int 0, .int 0, .int 0, .int 0, .int 0, .int 0, .int 0, .int 0, .int 0, .ref q4, .ref q5, .int 0, .ref q6, .ref q7, .ref q8, .int 0, .int 0, .ref q9, .ref q10, .int 0, .ref q11, .ref q12, .int 0, .int 0, .ref q13, .ref q14, .int 0, .ref q15, .int 0, .int 0, .int 0, .int 0, .int 0, .int 0, .int 0, .int 0, .int 0, .int 0, .ref q16, .ref q17, .null, .null, .long 0])), (q1, .inl (aI, 22, .inl (fun _ => 0))), (q2, .inl (aI, 3, .inl (fun _ => 0))), (q3, .inl (aI, 10, .inl (fun _ => 0))), (q4, .inl (aI, 3, .inl (fun _ => 0))), (q5, .inl (aI, 10, .inl (fun _ => 0))), (q6, .inl (aI, 18, .inl (fun _ => 0))), (q7, .inl (aJ, 64, .inr (.inl (fun _ => 0)))), (q8, .inl (aJ, 64, .inr (.inl (fun _ => 0)))), (q9, .inl (aI, 18, .inl (fun _ => 0))), (q10, .inl (aI, 6, .inl (fun _ => 0))), (q11, .inl (aI, 6, .inl (fun _ => 0))), (q12, .inl (aI, 6, .inl (fun _ => 0))), (q13, .inl (aI, 30, .inl (fun _ => 0))), (q14, .inl (aI, 6, .inl (fun _ => 0))), (q15, .inl (aI, 8, .inl (fun _ => 0))), (q16, .inl (aI, 18, .inl (fun _ => 0))), (q17, .inl (aI, 18, .inl (fun _ => 0)))] := hD
  refine lv_aload_n hx hb dX11_init_138 rfl (lv_at hl 0 rfl) ?_
  refine lv_bipush (v := 30) hx hb dX11_init_139 (by decide) ?_
  refine ini_A (N' := 30) hx hb htz hK hP hD hS hA (by decide) (by decide) (by decide) (Nat.le_of_ble_eq_true rfl) (Nat.le_of_ble_eq_true rfl) dX11_init_141 (fun q18 H hP hD hS => ?_)
  refine W.widen (k := 18) (n := 340) (by omega) (by omega) ?_
  refine ini_F (v := .ref q18) (k := 46) hx hb hown hin htz hK hP hD hS kn_X11 rfl (by decide) kf_X11_62 rfl rfl rfl rfl (Nat.le_of_ble_eq_true rfl) dX11_init_143 (fun H locs hP hD hS => ?_)
  have hP : va_P D vwCl [(h0, .inr (11, [.ref q1, .int 0, .int 0, .int 0, .ref q2, .ref q3, .int 0, .int 0, .int 0, .int 0, .int 0, .int 0, .int 0, .int 0, .int 0, .ref q4, .ref q5, .int 0, .ref q6, .ref q7, .ref q8, .int 0, .int 0, .ref q9, .ref q10, .int 0, .ref q11, .ref q12, .int 0, .int 0, .ref q13, .ref q14, .int 0, .ref q15, .int 0, .int 0, .int 0, .int 0, .int 0, .int 0, .int 0, .int 0, .int 0, .int 0, .ref q16, .ref q17, .ref q18, .null, .long 0])), (q1, .inl (aI, 22, .inl (fun _ => 0))), (q2, .inl (aI, 3, .inl (fun _ => 0))), (q3, .inl (aI, 10, .inl (fun _ => 0))), (q4, .inl (aI, 3, .inl (fun _ => 0))), (q5, .inl (aI, 10, .inl (fun _ => 0))), (q6, .inl (aI, 18, .inl (fun _ => 0))), (q7, .inl (aJ, 64, .inr (.inl (fun _ => 0)))), (q8, .inl (aJ, 64, .inr (.inl (fun _ => 0)))), (q9, .inl (aI, 18, .inl (fun _ => 0))), (q10, .inl (aI, 6, .inl (fun _ => 0))), (q11, .inl (aI, 6, .inl (fun _ => 0))), (q12, .inl (aI, 6, .inl (fun _ => 0))), (q13, .inl (aI, 30, .inl (fun _ => 0))), (q14, .inl (aI, 6, .inl (fun _ => 0))), (q15, .inl (aI, 8, .inl (fun _ => 0))), (q16, .inl (aI, 18, .inl (fun _ => 0))), (q17, .inl (aI, 18, .inl (fun _ => 0))), (q18, .inl (aI, 30, .inl (fun _ => 0)))] H := hP
  have hD : va_D A [(h0, .inr (11, [.ref q1, .int 0, .int 0, .int 0, .ref q2, .ref q3, .int 0, .int 0, .int 0, .int 0, .int 0, .int 0, .int 0, .int 0, .int 0, .ref q4, .ref q5, .int 0, .ref q6, .ref q7, .ref q8, .int 0, .int 0, .ref q9, .ref q10, .int 0, .ref q11, .ref q12, .int 0, .int 0, .ref q13, .ref q14, .int 0, .ref q15, .int 0, .int 0, .int 0, .int 0, .int 0, .int 0, .int 0, .int 0, .int 0, .int 0, .ref q16, .ref q17, .ref q18, .null, .long 0])), (q1, .inl (aI, 22, .inl (fun _ => 0))), (q2, .inl (aI, 3, .inl (fun _ => 0))), (q3, .inl (aI, 10, .inl (fun _ => 0))), (q4, .inl (aI, 3, .inl (fun _ => 0))), (q5, .inl (aI, 10, .inl (fun _ => 0))), (q6, .inl (aI, 18, .inl (fun _ => 0))), (q7, .inl (aJ, 64, .inr (.inl (fun _ => 0)))), (q8, .inl (aJ, 64, .inr (.inl (fun _ => 0)))), (q9, .inl (aI, 18, .inl (fun _ => 0))), (q10, .inl (aI, 6, .inl (fun _ => 0))), (q11, .inl (aI, 6, .inl (fun _ => 0))), (q12, .inl (aI, 6, .inl (fun _ => 0))), (q13, .inl (aI, 30, .inl (fun _ => 0))), (q14, .inl (aI, 6, .inl (fun _ => 0))), (q15, .inl (aI, 8, .inl (fun _ => 0))), (q16, .inl (aI, 18, .inl (fun _ => 0))), (q17, .inl (aI, 18, .inl (fun _ => 0))), (q18, .inl (aI, 30, .inl (fun _ => 0)))] := hD
  refine lv_aload_n hx hb dX11_init_146 rfl (lv_at hl 0 rfl) ?_
  refine lv_bipush (v := 8) hx hb dX11_init_147 (by decide) ?_
  refine ini_A (N' := 8) hx hb htz hK hP hD hS hA (by decide) (by decide) (by decide) (Nat.le_of_ble_eq_true rfl) (Nat.le_of_ble_eq_true rfl) dX11_init_149 (fun q19 H hP hD hS => ?_)
  refine W.widen (k := 19) (n := 348) (by omega) (by omega) ?_
  refine ini_F (v := .ref q19) (k := 47) hx hb hown hin htz hK hP hD hS kn_X11 rfl (by decide) kf_X11_65 rfl rfl rfl rfl (Nat.le_of_ble_eq_true rfl) dX11_init_151 (fun H locs hP hD hS => ?_)
  have hP : va_P D vwCl [(h0, .inr (11, [.ref q1, .int 0, .int 0, .int 0, .ref q2, .ref q3, .int 0, .int 0, .int 0, .int 0, .int 0, .int 0, .int 0, .int 0, .int 0, .ref q4, .ref q5, .int 0, .ref q6, .ref q7, .ref q8, .int 0, .int 0, .ref q9, .ref q10, .int 0, .ref q11, .ref q12, .int 0, .int 0, .ref q13, .ref q14, .int 0, .ref q15, .int 0, .int 0, .int 0, .int 0, .int 0, .int 0, .int 0, .int 0, .int 0, .int 0, .ref q16, .ref q17, .ref q18, .ref q19, .long 0])), (q1, .inl (aI, 22, .inl (fun _ => 0))), (q2, .inl (aI, 3, .inl (fun _ => 0))), (q3, .inl (aI, 10, .inl (fun _ => 0))), (q4, .inl (aI, 3, .inl (fun _ => 0))), (q5, .inl (aI, 10, .inl (fun _ => 0))), (q6, .inl (aI, 18, .inl (fun _ => 0))), (q7, .inl (aJ, 64, .inr (.inl (fun _ => 0)))), (q8, .inl (aJ, 64, .inr (.inl (fun _ => 0)))), (q9, .inl (aI, 18, .inl (fun _ => 0))), (q10, .inl (aI, 6, .inl (fun _ => 0))), (q11, .inl (aI, 6, .inl (fun _ => 0))), (q12, .inl (aI, 6, .inl (fun _ => 0))), (q13, .inl (aI, 30, .inl (fun _ => 0))), (q14, .inl (aI, 6, .inl (fun _ => 0))), (q15, .inl (aI, 8, .inl (fun _ => 0))), (q16, .inl (aI, 18, .inl (fun _ => 0))), (q17, .inl (aI, 18, .inl (fun _ => 0))), (q18, .inl (aI, 30, .inl (fun _ => 0))), (q19, .inl (aI, 8, .inl (fun _ => 0)))] H := hP
  have hD : va_D A [(h0, .inr (11, [.ref q1, .int 0, .int 0, .int 0, .ref q2, .ref q3, .int 0, .int 0, .int 0, .int 0, .int 0, .int 0, .int 0, .int 0, .int 0, .ref q4, .ref q5, .int 0, .ref q6, .ref q7, .ref q8, .int 0, .int 0, .ref q9, .ref q10, .int 0, .ref q11, .ref q12, .int 0, .int 0, .ref q13, .ref q14, .int 0, .ref q15, .int 0, .int 0, .int 0, .int 0, .int 0, .int 0, .int 0, .int 0, .int 0, .int 0, .ref q16, .ref q17, .ref q18, .ref q19, .long 0])), (q1, .inl (aI, 22, .inl (fun _ => 0))), (q2, .inl (aI, 3, .inl (fun _ => 0))), (q3, .inl (aI, 10, .inl (fun _ => 0))), (q4, .inl (aI, 3, .inl (fun _ => 0))), (q5, .inl (aI, 10, .inl (fun _ => 0))), (q6, .inl (aI, 18, .inl (fun _ => 0))), (q7, .inl (aJ, 64, .inr (.inl (fun _ => 0)))), (q8, .inl (aJ, 64, .inr (.inl (fun _ => 0)))), (q9, .inl (aI, 18, .inl (fun _ => 0))), (q10, .inl (aI, 6, .inl (fun _ => 0))), (q11, .inl (aI, 6, .inl (fun _ => 0))), (q12, .inl (aI, 6, .inl (fun _ => 0))), (q13, .inl (aI, 30, .inl (fun _ => 0))), (q14, .inl (aI, 6, .inl (fun _ => 0))), (q15, .inl (aI, 8, .inl (fun _ => 0))), (q16, .inl (aI, 18, .inl (fun _ => 0))), (q17, .inl (aI, 18, .inl (fun _ => 0))), (q18, .inl (aI, 30, .inl (fun _ => 0))), (q19, .inl (aI, 8, .inl (fun _ => 0)))] := hD
  refine lv_aload_n hx hb dX11_init_154 rfl (lv_at hl 0 rfl) ?_
  refine lv_iconst (v := (-1)) hx hb dX11_init_155 (by decide) ?_
  refine ini_N (v := .int (-1)) (k := 35) hx hb hown htz hK hP hD hS kn_X11 rfl (by decide) kf_X11_68 rfl rfl rfl (Nat.le_of_ble_eq_true rfl) dX11_init_156 (fun H locs hP hD hS => ?_)
  have hP : va_P D vwCl [(h0, .inr (11, [.ref q1, .int 0, .int 0, .int 0, .ref q2, .ref q3, .int 0, .int 0, .int 0, .int 0, .int 0, .int 0, .int 0, .int 0, .int 0, .ref q4, .ref q5, .int 0, .ref q6, .ref q7, .ref q8, .int 0, .int 0, .ref q9, .ref q10, .int 0, .ref q11, .ref q12, .int 0, .int 0, .ref q13, .ref q14, .int 0, .ref q15, .int 0, .int (-1), .int 0, .int 0, .int 0, .int 0, .int 0, .int 0, .int 0, .int 0, .ref q16, .ref q17, .ref q18, .ref q19, .long 0])), (q1, .inl (aI, 22, .inl (fun _ => 0))), (q2, .inl (aI, 3, .inl (fun _ => 0))), (q3, .inl (aI, 10, .inl (fun _ => 0))), (q4, .inl (aI, 3, .inl (fun _ => 0))), (q5, .inl (aI, 10, .inl (fun _ => 0))), (q6, .inl (aI, 18, .inl (fun _ => 0))), (q7, .inl (aJ, 64, .inr (.inl (fun _ => 0)))), (q8, .inl (aJ, 64, .inr (.inl (fun _ => 0)))), (q9, .inl (aI, 18, .inl (fun _ => 0))), (q10, .inl (aI, 6, .inl (fun _ => 0))), (q11, .inl (aI, 6, .inl (fun _ => 0))), (q12, .inl (aI, 6, .inl (fun _ => 0))), (q13, .inl (aI, 30, .inl (fun _ => 0))), (q14, .inl (aI, 6, .inl (fun _ => 0))), (q15, .inl (aI, 8, .inl (fun _ => 0))), (q16, .inl (aI, 18, .inl (fun _ => 0))), (q17, .inl (aI, 18, .inl (fun _ => 0))), (q18, .inl (aI, 30, .inl (fun _ => 0))), (q19, .inl (aI, 8, .inl (fun _ => 0)))] H := hP
  have hD : va_D A [(h0, .inr (11, [.ref q1, .int 0, .int 0, .int 0, .ref q2, .ref q3, .int 0, .int 0, .int 0, .int 0, .int 0, .int 0, .int 0, .int 0, .int 0, .ref q4, .ref q5, .int 0, .ref q6, .ref q7, .ref q8, .int 0, .int 0, .ref q9, .ref q10, .int 0, .ref q11, .ref q12, .int 0, .int 0, .ref q13, .ref q14, .int 0, .ref q15, .int 0, .int (-1), .int 0, .int 0, .int 0, .int 0, .int 0, .int 0, .int 0, .int 0, .ref q16, .ref q17, .ref q18, .ref q19, .long 0])), (q1, .inl (aI, 22, .inl (fun _ => 0))), (q2, .inl (aI, 3, .inl (fun _ => 0))), (q3, .inl (aI, 10, .inl (fun _ => 0))), (q4, .inl (aI, 3, .inl (fun _ => 0))), (q5, .inl (aI, 10, .inl (fun _ => 0))), (q6, .inl (aI, 18, .inl (fun _ => 0))), (q7, .inl (aJ, 64, .inr (.inl (fun _ => 0)))), (q8, .inl (aJ, 64, .inr (.inl (fun _ => 0)))), (q9, .inl (aI, 18, .inl (fun _ => 0))), (q10, .inl (aI, 6, .inl (fun _ => 0))), (q11, .inl (aI, 6, .inl (fun _ => 0))), (q12, .inl (aI, 6, .inl (fun _ => 0))), (q13, .inl (aI, 30, .inl (fun _ => 0))), (q14, .inl (aI, 6, .inl (fun _ => 0))), (q15, .inl (aI, 8, .inl (fun _ => 0))), (q16, .inl (aI, 18, .inl (fun _ => 0))), (q17, .inl (aI, 18, .inl (fun _ => 0))), (q18, .inl (aI, 30, .inl (fun _ => 0))), (q19, .inl (aI, 8, .inl (fun _ => 0)))] := hD
  refine lv_aload_n hx hb dX11_init_159 rfl (lv_at hl 0 rfl) ?_
  refine lv_bipush (v := 60) hx hb dX11_init_160 (by decide) ?_
  refine ini_N (v := .int 60) (k := 13) hx hb hown htz hK hP hD hS kn_X11 rfl (by decide) kf_X11_72 rfl rfl rfl (Nat.le_of_ble_eq_true rfl) dX11_init_162 (fun H locs hP hD hS => ?_)
  have hP : va_P D vwCl [(h0, .inr (11, [.ref q1, .int 0, .int 0, .int 0, .ref q2, .ref q3, .int 0, .int 0, .int 0, .int 0, .int 0, .int 0, .int 0, .int 60, .int 0, .ref q4, .ref q5, .int 0, .ref q6, .ref q7, .ref q8, .int 0, .int 0, .ref q9, .ref q10, .int 0, .ref q11, .ref q12, .int 0, .int 0, .ref q13, .ref q14, .int 0, .ref q15, .int 0, .int (-1), .int 0, .int 0, .int 0, .int 0, .int 0, .int 0, .int 0, .int 0, .ref q16, .ref q17, .ref q18, .ref q19, .long 0])), (q1, .inl (aI, 22, .inl (fun _ => 0))), (q2, .inl (aI, 3, .inl (fun _ => 0))), (q3, .inl (aI, 10, .inl (fun _ => 0))), (q4, .inl (aI, 3, .inl (fun _ => 0))), (q5, .inl (aI, 10, .inl (fun _ => 0))), (q6, .inl (aI, 18, .inl (fun _ => 0))), (q7, .inl (aJ, 64, .inr (.inl (fun _ => 0)))), (q8, .inl (aJ, 64, .inr (.inl (fun _ => 0)))), (q9, .inl (aI, 18, .inl (fun _ => 0))), (q10, .inl (aI, 6, .inl (fun _ => 0))), (q11, .inl (aI, 6, .inl (fun _ => 0))), (q12, .inl (aI, 6, .inl (fun _ => 0))), (q13, .inl (aI, 30, .inl (fun _ => 0))), (q14, .inl (aI, 6, .inl (fun _ => 0))), (q15, .inl (aI, 8, .inl (fun _ => 0))), (q16, .inl (aI, 18, .inl (fun _ => 0))), (q17, .inl (aI, 18, .inl (fun _ => 0))), (q18, .inl (aI, 30, .inl (fun _ => 0))), (q19, .inl (aI, 8, .inl (fun _ => 0)))] H := hP
  have hD : va_D A [(h0, .inr (11, [.ref q1, .int 0, .int 0, .int 0, .ref q2, .ref q3, .int 0, .int 0, .int 0, .int 0, .int 0, .int 0, .int 0, .int 60, .int 0, .ref q4, .ref q5, .int 0, .ref q6, .ref q7, .ref q8, .int 0, .int 0, .ref q9, .ref q10, .int 0, .ref q11, .ref q12, .int 0, .int 0, .ref q13, .ref q14, .int 0, .ref q15, .int 0, .int (-1), .int 0, .int 0, .int 0, .int 0, .int 0, .int 0, .int 0, .int 0, .ref q16, .ref q17, .ref q18, .ref q19, .long 0])), (q1, .inl (aI, 22, .inl (fun _ => 0))), (q2, .inl (aI, 3, .inl (fun _ => 0))), (q3, .inl (aI, 10, .inl (fun _ => 0))), (q4, .inl (aI, 3, .inl (fun _ => 0))), (q5, .inl (aI, 10, .inl (fun _ => 0))), (q6, .inl (aI, 18, .inl (fun _ => 0))), (q7, .inl (aJ, 64, .inr (.inl (fun _ => 0)))), (q8, .inl (aJ, 64, .inr (.inl (fun _ => 0)))), (q9, .inl (aI, 18, .inl (fun _ => 0))), (q10, .inl (aI, 6, .inl (fun _ => 0))), (q11, .inl (aI, 6, .inl (fun _ => 0))), (q12, .inl (aI, 6, .inl (fun _ => 0))), (q13, .inl (aI, 30, .inl (fun _ => 0))), (q14, .inl (aI, 6, .inl (fun _ => 0))), (q15, .inl (aI, 8, .inl (fun _ => 0))), (q16, .inl (aI, 18, .inl (fun _ => 0))), (q17, .inl (aI, 18, .inl (fun _ => 0))), (q18, .inl (aI, 30, .inl (fun _ => 0))), (q19, .inl (aI, 8, .inl (fun _ => 0)))] := hD
  exact W.vret hx hb hr (fun t ht hW => ⟨⟨(), rfl, trivial, _, ⟨q1, q2, q3, q4, q5, q6, q7, q8, q9, q10, q11, q12, q13, q14, q15, q16, q17, q18, q19, rfl⟩, by rw [ht]; exact hP, hD⟩, hS.F ht⟩) hS.2.2 dX11_init_165 hlocks
