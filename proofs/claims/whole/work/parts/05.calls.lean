/-! RETURNS and CALLS of the judgement G -/
section GC
variable {α β γ : Type} {x : Cx} {w : Wd} {cc : ByteArray} {nL : Nat} {own : String} {ret : Option FieldType} {rm : Room} {Qf : α → Mm → Array Value → State → Outcome → State → Prop} {o : Option (α × Mm)} {M : Mm} {lv : List (Nat × Value)} {pc : Nat} {st : List Value}
theorem gz_iret (C : Ok x w cc nL own (some .int) rm) {v : Int32} (d : decode cc pc = .ok (.ireturn, 1)) : G x w nL (qI w) (some (v, M)) M lv pc [.int v] := by
  intro r M' ho H locs ls hP hS h
  cases ho
  exact W.iret C.1 C.2.1 C.2.2.2.2.2.2.2.2.1 (fun t ht hW => ⟨⟨v, (), rfl, rfl, by show va_P _ _ _ t.heap; rw [ht]; exact hP⟩, hS.F ht⟩) hS.2.2 d C.2.2.2.2.2.2.2.2.2.1
theorem gz_zret (C : Ok x w cc nL own (some .boolean) rm) {v : Int32} (hv : v = 0 ∨ v = 1) (d : decode cc pc = .ok (.ireturn, 1)) : G x w nL (qI w) (some (v, M)) M lv pc [.int v] := by
  intro r M' ho H locs ls hP hS h
  cases ho
  exact W.zret C.1 C.2.1 C.2.2.2.2.2.2.2.2.1 (nrw_z hv) (fun t ht hW => ⟨⟨v, (), rfl, rfl, by show va_P _ _ _ t.heap; rw [ht]; exact hP⟩, hS.F ht⟩) hS.2.2 d C.2.2.2.2.2.2.2.2.2.1
theorem gz_lret (C : Ok x w cc nL own (some .long) rm) {v : Int64} (d : decode cc pc = .ok (.lreturn, 1)) : G x w nL (qJ w) (some (v, M)) M lv pc [.long v] := by
  intro r M' ho H locs ls hP hS h
  cases ho
  exact W.lret C.1 C.2.1 C.2.2.2.2.2.2.2.2.1 (fun t ht hW => ⟨⟨v, (), rfl, rfl, by show va_P _ _ _ t.heap; rw [ht]; exact hP⟩, hS.F ht⟩) hS.2.2 d C.2.2.2.2.2.2.2.2.2.1
theorem gz_vret (C : Ok x w cc nL own none rm) (d : decode cc pc = .ok (.return_, 1)) : G x w nL (qV w) (some ((), M)) M lv pc [] := by
  intro r M' ho H locs ls hP hS h
  cases ho
  exact W.vret C.1 C.2.1 C.2.2.2.2.2.2.2.2.1 (fun t ht hW => ⟨⟨(), rfl, trivial, by show va_P _ _ _ t.heap; rw [ht]; exact hP⟩, hS.F ht⟩) hS.2.2 d C.2.2.2.2.2.2.2.2.2.1
/-- what the tables say of a method that is called -/
def Cal (y : MethodName) (cc : ByteArray) (maxL : Nat) (ret : Option FieldType) (n : Nat) : Prop := Cond.code y cc maxL ret ∈ zA ∧ Cond.initialized y.cls ∈ zA ∧ y.cls ≠ "java/lang/invoke/MethodHandle" ∧ y.cls ≠ "java/lang/invoke/VarHandle" ∧ (parseMethodDescriptor y.desc).map (fun d => d.parameters.length) = some n
def CalV (y : MethodName) (cc : ByteArray) (maxL : Nat) (ret : Option FieldType) (n : Nat) : Prop := Cal y cc maxL ret n ∧ Cond.instanceMethod y ∈ zA ∧ Cond.selects y.cls y y ∈ zA
def CalS (y : MethodName) (cc : ByteArray) (maxL : Nat) (ret : Option FieldType) (n : Nat) : Prop := Cal y cc maxL ret n ∧ Cond.static y ∈ zA
/-- the link of a call: in the tables, or a nest mate's -/
def Lnk (own : String) (n : Nat) (y : MethodName) : Prop := Cond.methodLink own n y ∈ zA ∨ ∃ h : String, (own, n, y, h) ∈ nwL
theorem callB_z {y : MethodName} {cy : ByteArray} {mL n k : Nat} {ry : Option FieldType} {ro : Room} (C : Ok x w cc nL own ret rm) (hc : Cal y cy mL ry n) (hl : Cond.methodLink own k y ∈ zA) (ho : ro.cells = 0 ∧ ro.slots = 0) (hR : ro.frames + 1 ≤ rm.frames ∧ 8 + (mL + 11) + ro.locals ≤ rm.locals) : CallB x.2.2.2.1 (cS x) (cAr x) own k y cy mL ry (.code y cy mL ry :: zA) ro 0 0 n := by
  obtain ⟨h1, h2, h3⟩ := hc
  have hts : ∀ q ∈ (.code y cy mL ry :: zA), q.before (cAr x) (cS x) = true := fun q hq => C.2.2.2.2.1 q ((List.mem_cons.mp hq).elim (fun e => e ▸ h1) id)
  exact callB_of n hts (zA_good h1) rfl ho.1 ho.2 (C.2.2.2.2.1 _ h2) (C.2.2.2.2.1 _ hl) h3 (by rw [C.2.2.2.2.2.2.2.2.2.2.1]; exact hR)
theorem callN_z {y : MethodName} {cy : ByteArray} {mL n k : Nat} {ry : Option FieldType} {ro : Room} {host : String} (C : Ok x w cc nL own ret rm) (hc : Cal y cy mL ry n) (hl : (own, k, y, host) ∈ nwL) (ho : ro.cells = 0 ∧ ro.slots = 0) (hR : ro.frames + 1 ≤ rm.frames ∧ 8 + (mL + 11) + ro.locals ≤ rm.locals) : va_CN x.2.2.2.1 (cS x) (cAr x) own k y host cy mL ry (.code y cy mL ry :: zA) ro 0 0 n := by
  obtain ⟨h1, h2, h3⟩ := hc
  have hts : ∀ q ∈ (.code y cy mL ry :: zA), q.before (cAr x) (cS x) = true := fun q hq => C.2.2.2.2.1 q ((List.mem_cons.mp hq).elim (fun e => e ▸ h1) id)
  exact va_cnB n hts (zA_good h1) rfl ho.1 ho.2 (C.2.2.2.2.2.2.2.1 _ hl) (C.2.2.2.2.1 _ h2) h3 (by rw [C.2.2.2.2.2.2.2.2.2.2.1]; exact hR)
theorem blind_z {w : Wd} {M : Mm} {av : List Value} : FrameBlind (va_Pc av (PU w M)) := fun a U g mk q => by
  obtain ⟨q0, q1, q2, q3, q4⟩ := q
  exact ⟨q0, q1, va_K.moved (u := U) (U := U.calling g mk a) (Vm.Alike.refl U.vm) q2, q3, fun z hz => va_Nw.same rfl (show U.vm = (U.calling g mk a).vm from rfl) (q4 z hz)⟩
theorem pre_z {H : Heap} (C : Ok x w cc nL own ret rm) (hP : va_P w.2.1 vwCl (gw w M) H) (av : List Value) : ∀ U : State, U.heap = H → (cS x).WarmedH U.vm → va_Pc av (PU w M) av.toArray U := fun U hU hW => ⟨rfl, by rw [hU]; exact hP, va_K.moved hW.alike C.2.2.2.2.2.1, C.2.2.2.2.2.2.1, C.2.2.2.2.2.2.2.1.warm hW⟩
/-- a call has run: from the callee's contract -/
def Run (x : Cx) (H : Heap) (locs : List Loc) (g : JFrame) (rest : List Value) (Qa : State → Outcome → State → Prop) (free : Addr → Prop) : Prop := va_Run x.1 x.2.1 x.2.2.1 x.2.2.2.1 (cS x) (cM x) (cAr x) (cB x) x.2.2.2.2.2.2.2.2.1 x.2.2.2.2.2.2.2.2.2 H locs 0 0 0 0 g rest Qa free
theorem run_S {Qc : α → Mm → Array Value → State → Outcome → State → Prop} {y : MethodName} {cy : ByteArray} {mL k n : Nat} {ry : Option FieldType} {ro : Room} {As rest : List Value} {oy : Option (α × Mm)} {r : α} {M1 : Mm} {H : Heap} {locs : List Loc} {ls : Array Slot} (C : Ok x w cc nL own ret rm) (hM : CT x.2.1 y cy mL ry ro w Qc As oy M) (hr : oy = some (r, M1)) (cy1 : CalS y cy mL ry n) (hl : Lnk own k y) (hro : ro.cells = 0 ∧ ro.slots = 0) (hR : ro.frames + 1 ≤ rm.frames ∧ 8 + (mL + 11) + ro.locals ≤ rm.locals) (hn : As.length = n) (hst : st = As.reverse ++ rest) (hw8 : (rest.map fun v => v.category).sum ≤ 8) (d : decode cc pc = .ok (.invokestatic k, 3)) (hP : va_P w.2.1 vwCl (gw w M) H) (h : lv_has ls nL lv) :
    Run x H locs (F0 (cM x) pc ls st) rest (Qc r M1 As.toArray) (FA w) := by
  have hf : 0 + 0 ≤ x.2.2.2.1.cells ∧ 0 + 0 ≤ x.2.2.2.1.slots := ⟨Nat.zero_le _, Nat.zero_le _⟩
  rcases hl with hl | ⟨host, hl⟩
  · exact va_runS ⟨C.1, C.2.1, C.2.2.1, C.2.2.2.1, C.2.2.2.2.1⟩ (hM r M1 hr) ⟨callB_z C cy1.1 hl hro hR, C.2.2.2.2.1 _ cy1.2⟩ ⟨blind_z, pre_z C hP As⟩ rfl hn h.1 hst (lv_room hw8) d hf
  · exact va_runSN ⟨C.1, C.2.1, C.2.2.1, C.2.2.2.1, C.2.2.2.2.1⟩ (hM r M1 hr) ⟨callN_z C cy1.1 hl hro hR, C.2.2.2.2.1 _ cy1.2, trivial⟩ ⟨blind_z, pre_z C hP As⟩ rfl hn h.1 hst (lv_room hw8) d hf
theorem run_V {Qc : α → Mm → Array Value → State → Outcome → State → Prop} {y : MethodName} {cy : ByteArray} {mL k n : Nat} {ry : Option FieldType} {ro : Room} {As rest : List Value} {oy : Option (α × Mm)} {r : α} {M1 : Mm} {H : Heap} {locs : List Loc} {ls : Array Slot} {Cn : String} {T : u_T} {N ci : Nat} {ty : Nat → FieldType} (c : Nat) (kn : Kn ci Cn T N ty) (hc : kd c = ci) (hcn : y.cls = Cn) (C : Ok x w cc nL own ret rm) (hM : CT x.2.1 y cy mL ry ro w Qc (.ref (w.1 c) :: As) oy M) (hr : oy = some (r, M1)) (cy1 : CalV y cy mL ry n) (hl : Cond.methodLink own k y ∈ zA) (hro : ro.cells = 0 ∧ ro.slots = 0) (hR : ro.frames + 1 ≤ rm.frames ∧ 8 + (mL + 11) + ro.locals ≤ rm.locals) (hn : As.length = n) (hst : st = As.reverse ++ .ref (w.1 c) :: rest) (hw8 : (rest.map fun v => v.category).sum ≤ 8) (d : decode cc pc = .ok (.invokevirtual k, 3)) (hP : va_P w.2.1 vwCl (gw w M) H) (h : lv_has ls nL lv) :
    Run x H locs (F0 (cM x) pc ls st) rest (Qc r M1 (Value.ref (w.1 c) :: As).toArray) (FA w) := by
  subst hc; subst hcn
  obtain ⟨k1, k2, k3, k4, k5, k6⟩ := kn
  have h52 : c < 52 := kd_lt (by omega)
  have hg : (gw w M)[c]? = some (w.1 c, .inr (kd c, (List.range (nf (kd c))).map (fval w M c))) := (gw_at w M h52).trans (by rw [cel_o k6])
  exact va_runV ⟨C.1, C.2.1, C.2.2.1, C.2.2.2.1, C.2.2.2.2.1⟩ (hM r M1 hr) ⟨callB_z C cy1.1 hl hro hR, C.2.2.2.2.1 _ cy1.2.1, C.2.2.2.2.1 _ cy1.2.2⟩ ⟨blind_z, va_recv C.2.2.2.2.2.1 hP k1 hg, pre_z C hP _⟩ rfl hn h.1 hst (lv_room hw8) d ⟨Nat.zero_le _, Nat.zero_le _⟩
theorem gz_cI {As : List Value} {oy : Option (Int32 × Mm)} {f : Int32 → Mm → Option (α × Mm)} {rest : List Value} {av : Array Value} (k : ∀ (r : Int32) (M1 : Mm), oy = some (r, M1) → ∀ (H : Heap) (locs : List Loc) (ls : Array Slot), va_P w.2.1 vwCl (gw w M) H → lv_has ls nL lv → Run x H locs (F0 (cM x) pc ls st) rest (qI w r M1 av) (FA w)) (kk : ∀ r M1, G x w nL Qf (f r M1) M1 lv (pc + 3) (.int r :: rest)) : G x w nL Qf (bd oy f) M lv pc st := by
  intro r M' ho H locs ls hP hS h
  unfold bd at ho
  cases hq : oy with
  | none => rw [hq] at ho; cases ho
  | some q =>
    rw [hq] at ho
    exact va_calli (k q.1 q.2 hq H locs ls hP h) hS (fun _ _ z => z) (fun _ z => z) (fun r1 u t H1 locs1 ht hvm hp hB hz hk hS1 => by
      cases hp
      rw [ht] at hB
      exact kk q.1 q.2 r M' ho H1 locs1 ls hB hS1 h)
theorem gz_cJ {As : List Value} {oy : Option (Int64 × Mm)} {f : Int64 → Mm → Option (α × Mm)} {rest : List Value} {av : Array Value} (k : ∀ (r : Int64) (M1 : Mm), oy = some (r, M1) → ∀ (H : Heap) (locs : List Loc) (ls : Array Slot), va_P w.2.1 vwCl (gw w M) H → lv_has ls nL lv → Run x H locs (F0 (cM x) pc ls st) rest (qJ w r M1 av) (FA w)) (kk : ∀ r M1, G x w nL Qf (f r M1) M1 lv (pc + 3) (.long r :: rest)) : G x w nL Qf (bd oy f) M lv pc st := by
  intro r M' ho H locs ls hP hS h
  unfold bd at ho
  cases hq : oy with
  | none => rw [hq] at ho; cases ho
  | some q =>
    rw [hq] at ho
    exact va_calll (k q.1 q.2 hq H locs ls hP h) hS (fun _ _ z => z) (fun _ z => z) (fun r1 u t H1 locs1 ht hvm hp hB hz hk hS1 => by
      cases hp
      rw [ht] at hB
      exact kk q.1 q.2 r M' ho H1 locs1 ls hB hS1 h)
theorem gz_cV {As : List Value} {oy : Option (Unit × Mm)} {f : Unit → Mm → Option (α × Mm)} {rest : List Value} {av : Array Value} (k : ∀ (r : Unit) (M1 : Mm), oy = some (r, M1) → ∀ (H : Heap) (locs : List Loc) (ls : Array Slot), va_P w.2.1 vwCl (gw w M) H → lv_has ls nL lv → Run x H locs (F0 (cM x) pc ls st) rest (qV w r M1 av) (FA w)) (kk : ∀ r M1, G x w nL Qf (f r M1) M1 lv (pc + 3) rest) : G x w nL Qf (bd oy f) M lv pc st := by
  intro r M' ho H locs ls hP hS h
  unfold bd at ho
  cases hq : oy with
  | none => rw [hq] at ho; cases ho
  | some q =>
    rw [hq] at ho
    exact va_callv (k q.1 q.2 hq H locs ls hP h) hS (fun _ _ z => z) (fun _ z => z) (fun u t H1 locs1 ht hvm hp hB hz hk hS1 => by
      rw [ht] at hB
      exact kk q.1 q.2 r M' ho H1 locs1 ls hB hS1 h)
-- the six kinds of calls
theorem gz_callSI {y : MethodName} {cy : ByteArray} {mL k n : Nat} {ry : Option FieldType} {ro : Room} {oy : Option (Int32 × Mm)} {f : Int32 → Mm → Option (α × Mm)} (As rest : List Value) (C : Ok x w cc nL own ret rm) (hM : CT x.2.1 y cy mL ry ro w (qI w) As oy M) (cy1 : CalS y cy mL ry n) (hl : Lnk own k y) (hro : ro.cells = 0 ∧ ro.slots = 0) (hR : ro.frames + 1 ≤ rm.frames ∧ 8 + (mL + 11) + ro.locals ≤ rm.locals) (hn : As.length = n) (hst : st = As.reverse ++ rest) (hw8 : (rest.map fun v => v.category).sum ≤ 8) (d : decode cc pc = .ok (.invokestatic k, 3)) (kk : ∀ r M1, G x w nL Qf (f r M1) M1 lv (pc + 3) (.int r :: rest)) : G x w nL Qf (bd oy f) M lv pc st :=
  gz_cI (As := As) (fun r M1 hr H locs ls hP h => run_S C hM hr cy1 hl hro hR hn hst hw8 d hP h) kk
theorem gz_callSJ {y : MethodName} {cy : ByteArray} {mL k n : Nat} {ry : Option FieldType} {ro : Room} {oy : Option (Int64 × Mm)} {f : Int64 → Mm → Option (α × Mm)} (As rest : List Value) (C : Ok x w cc nL own ret rm) (hM : CT x.2.1 y cy mL ry ro w (qJ w) As oy M) (cy1 : CalS y cy mL ry n) (hl : Lnk own k y) (hro : ro.cells = 0 ∧ ro.slots = 0) (hR : ro.frames + 1 ≤ rm.frames ∧ 8 + (mL + 11) + ro.locals ≤ rm.locals) (hn : As.length = n) (hst : st = As.reverse ++ rest) (hw8 : (rest.map fun v => v.category).sum ≤ 8) (d : decode cc pc = .ok (.invokestatic k, 3)) (kk : ∀ r M1, G x w nL Qf (f r M1) M1 lv (pc + 3) (.long r :: rest)) : G x w nL Qf (bd oy f) M lv pc st :=
  gz_cJ (As := As) (fun r M1 hr H locs ls hP h => run_S C hM hr cy1 hl hro hR hn hst hw8 d hP h) kk
theorem gz_callSV {y : MethodName} {cy : ByteArray} {mL k n : Nat} {ry : Option FieldType} {ro : Room} {oy : Option (Unit × Mm)} {f : Unit → Mm → Option (α × Mm)} (As rest : List Value) (C : Ok x w cc nL own ret rm) (hM : CT x.2.1 y cy mL ry ro w (qV w) As oy M) (cy1 : CalS y cy mL ry n) (hl : Lnk own k y) (hro : ro.cells = 0 ∧ ro.slots = 0) (hR : ro.frames + 1 ≤ rm.frames ∧ 8 + (mL + 11) + ro.locals ≤ rm.locals) (hn : As.length = n) (hst : st = As.reverse ++ rest) (hw8 : (rest.map fun v => v.category).sum ≤ 8) (d : decode cc pc = .ok (.invokestatic k, 3)) (kk : ∀ r M1, G x w nL Qf (f r M1) M1 lv (pc + 3) rest) : G x w nL Qf (bd oy f) M lv pc st :=
  gz_cV (As := As) (fun r M1 hr H locs ls hP h => run_S C hM hr cy1 hl hro hR hn hst hw8 d hP h) kk
theorem gz_callVI {y : MethodName} {cy : ByteArray} {mL k n : Nat} {ry : Option FieldType} {ro : Room} {oy : Option (Int32 × Mm)} {f : Int32 → Mm → Option (α × Mm)} {Cn : String} {T : u_T} {N ci : Nat} {ty : Nat → FieldType} (c : Nat) (As rest : List Value) (C : Ok x w cc nL own ret rm) (kn : Kn ci Cn T N ty) (hc : kd c = ci) (hcn : y.cls = Cn) (hM : CT x.2.1 y cy mL ry ro w (qI w) (.ref (w.1 c) :: As) oy M) (cy1 : CalV y cy mL ry n) (hl : Cond.methodLink own k y ∈ zA) (hro : ro.cells = 0 ∧ ro.slots = 0) (hR : ro.frames + 1 ≤ rm.frames ∧ 8 + (mL + 11) + ro.locals ≤ rm.locals) (hn : As.length = n) (hst : st = As.reverse ++ .ref (w.1 c) :: rest) (hw8 : (rest.map fun v => v.category).sum ≤ 8) (d : decode cc pc = .ok (.invokevirtual k, 3)) (kk : ∀ r M1, G x w nL Qf (f r M1) M1 lv (pc + 3) (.int r :: rest)) : G x w nL Qf (bd oy f) M lv pc st :=
  gz_cI (As := As) (fun r M1 hr H locs ls hP h => run_V c kn hc hcn C hM hr cy1 hl hro hR hn hst hw8 d hP h) kk
theorem gz_callVJ {y : MethodName} {cy : ByteArray} {mL k n : Nat} {ry : Option FieldType} {ro : Room} {oy : Option (Int64 × Mm)} {f : Int64 → Mm → Option (α × Mm)} {Cn : String} {T : u_T} {N ci : Nat} {ty : Nat → FieldType} (c : Nat) (As rest : List Value) (C : Ok x w cc nL own ret rm) (kn : Kn ci Cn T N ty) (hc : kd c = ci) (hcn : y.cls = Cn) (hM : CT x.2.1 y cy mL ry ro w (qJ w) (.ref (w.1 c) :: As) oy M) (cy1 : CalV y cy mL ry n) (hl : Cond.methodLink own k y ∈ zA) (hro : ro.cells = 0 ∧ ro.slots = 0) (hR : ro.frames + 1 ≤ rm.frames ∧ 8 + (mL + 11) + ro.locals ≤ rm.locals) (hn : As.length = n) (hst : st = As.reverse ++ .ref (w.1 c) :: rest) (hw8 : (rest.map fun v => v.category).sum ≤ 8) (d : decode cc pc = .ok (.invokevirtual k, 3)) (kk : ∀ r M1, G x w nL Qf (f r M1) M1 lv (pc + 3) (.long r :: rest)) : G x w nL Qf (bd oy f) M lv pc st :=
  gz_cJ (As := As) (fun r M1 hr H locs ls hP h => run_V c kn hc hcn C hM hr cy1 hl hro hR hn hst hw8 d hP h) kk
theorem gz_callVV {y : MethodName} {cy : ByteArray} {mL k n : Nat} {ry : Option FieldType} {ro : Room} {oy : Option (Unit × Mm)} {f : Unit → Mm → Option (α × Mm)} {Cn : String} {T : u_T} {N ci : Nat} {ty : Nat → FieldType} (c : Nat) (As rest : List Value) (C : Ok x w cc nL own ret rm) (kn : Kn ci Cn T N ty) (hc : kd c = ci) (hcn : y.cls = Cn) (hM : CT x.2.1 y cy mL ry ro w (qV w) (.ref (w.1 c) :: As) oy M) (cy1 : CalV y cy mL ry n) (hl : Cond.methodLink own k y ∈ zA) (hro : ro.cells = 0 ∧ ro.slots = 0) (hR : ro.frames + 1 ≤ rm.frames ∧ 8 + (mL + 11) + ro.locals ≤ rm.locals) (hn : As.length = n) (hst : st = As.reverse ++ .ref (w.1 c) :: rest) (hw8 : (rest.map fun v => v.category).sum ≤ 8) (d : decode cc pc = .ok (.invokevirtual k, 3)) (kk : ∀ r M1, G x w nL Qf (f r M1) M1 lv (pc + 3) rest) : G x w nL Qf (bd oy f) M lv pc st :=
  gz_cV (As := As) (fun r M1 hr H locs ls hP h => run_V c kn hc hcn C hM hr cy1 hl hro hR hn hst hw8 d hP h) kk
/-- Math.min -/
theorem gz_min (C : Ok x w cc nL own ret rm) {n : Nat} {u v : Int32} (hl : Cond.methodLink own n Lib.Math.min.name ∈ zA) (hs : Cond.static Lib.Math.min.name ∈ zA) (hi : Cond.initialized "java/lang/Math" ∈ zA) (hc : Cond.code Lib.Math.min.name Lib.Math.min.code 2 (some .int) ∈ zA) (hf : 1 ≤ rm.frames) (hlo : (st.map fun v => v.category).sum + 13 ≤ rm.locals) (d : decode cc pc = .ok (.invokestatic n, 3)) (k : G x w nL Qf o M lv (pc + 3) (.int (if v < u then v else u) :: st)) : G x w nL Qf o M lv pc (.int v :: .int u :: st) := by
  intro r M' ho H locs ls hP hS h
  exact va_mmin C.1 C.2.1 (C.2.2.1.trans h.1.symm) C.2.2.2.1 (C.2.2.2.2.1 _ hl) (C.2.2.2.2.1 _ hs) (C.2.2.2.2.1 _ hi) (C.2.2.2.2.1 _ hc) (by rw [C.2.2.2.2.2.2.2.2.2.2.1]; exact hf) (by rw [C.2.2.2.2.2.2.2.2.2.2.1]; exact hlo) (Nat.zero_le _) (Nat.zero_le _) d (k r M' ho H locs ls hP hS h)
end GC
