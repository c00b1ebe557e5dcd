/-! THE CLAIM OUT OF ONE WALK OF THE LAW'S BODY. Your part is whole_start (and what it stands on); all else here is the same for every law, but numbers. -/
def R_law : String := "LineToWreckLaw"
def lw_P (b : Addr) (xs : List Int32) (args : Array Value) (s : State) : Prop := args = #[.ref b] ∧ s.IntsAt b xs ∧ xs.length ≤ 256 ∧ (Jvm.Cond.and given_1 narrow_1).before args s = true
def lw_Q (_ : Array Value) (s : State) (o : Outcome) (t : State) : Prop := o = .returned (some (.int 1)) ∧ Framed s o t [] 52 897
def lw_Z (below : List Frame) (a : Array Value) (s : State) : State → Prop := fun t => ∃ o, t.status = .running ∧ Ended t below o ∧ lw_Q a s o t
/-- the law's own end, with 1 on the stack, nothing written that was there before, its room as the claim has it -/
theorem lw_ret {p : Program} {l : Launch} {e : Env} {s : State} {m : MethodId} {below : List Frame} {meth : Method} {c : Code} {b : Nat} (hx : p.tables.exec = Jvm.exec) (hb : c.code = code) (hr : meth.sig.returnType = ret) (hlocks : meth.locks = false) {pc : Nat} {H : Heap} {ls : Array Slot} (hdg : decode code pc = .ok (.ireturn, 1)) : W p l e room_1 s m #[Value.ref b] below meth c H [] 52 897 (lw_Z below #[Value.ref b] s) (F0 m pc ls [.int 1]) := by
  intro T hT X
  obtain ⟨fs, hret, hrun, hended, hW, hframe⟩ := X.leave (v := some (.int 1)) (hlocks := hlocks) (fun h => by rw [hr] at h; cases h)
  have hmeth' : T.vm.method? m = some meth := X.method'
  refine ⟨T.setFrames fs, ?_, .returned (some (.int 1)), hrun, hended, rfl, ⟨_, rfl⟩, hW, hframe⟩
  jvm_step X.here [X.here.top, hx, hb, hdg, hmeth', hr, ret, narrow_b1]
  (try refine ⟨rfl, ?_⟩); (try refine ⟨rfl, ?_⟩)
  first | (intro acts; rw [hret _ acts rfl rfl rfl]) | rw [hret _ _ rfl rfl rfl]
  exact Steps.refl _
/-- what holds at the law's entry: the machine, the code, the tables' words (any of lw_tbl by 'hts w (by decide +kernel)'), the script of L ints xs at the cell b, what the Statement gives of the start (any of its parts by flat_of_before) -/
def lw_At (p : Program) (s : State) (m : MethodId) (meth : Method) (c : Code) (b L : Nat) (xs : Nat → Int32) : Prop :=
  p.tables.exec = Jvm.exec ∧ c.code = code ∧ meth.sig.returnType = ret ∧ c.maxLocals = 4 ∧ s.vm.findClass R_law = some m.cls ∧ (∀ w ∈ lw_tbl, w.before #[Value.ref b] s = true) ∧ va_X b L xs s s.heap ∧ b < s.heap.size ∧ meth.locks = false ∧ (Jvm.Cond.and given_1 narrow_1).before #[Value.ref b] s = true
/-! THE LAW'S JUDGEMENT -/
def LC (p : Program) (s : State) (m : MethodId) (meth : Method) (c : Code) (b L : Nat) (xs : Nat → Int32) (w : Wd) : Prop := lw_At p s m meth c b L xs ∧ va_K w.2.1 vwCl (tysW w) s ∧ adok w ∧ (∀ k, k < 52 → s.heap.size ≤ w.1 k) ∧ NWs s
abbrev lvL (b : Nat) (w : Wd) (i : Nat) : List (Nat × Value) := [(3, .int (nI i)), (2, .ref (w.1 32)), (1, .ref (w.1 0)), (0, .ref b)]
def GL (p : Program) (l : Launch) (e : Env) (s : State) (m : MethodId) (below : List Frame) (meth : Method) (c : Code) (b : Nat) (w : Wd) (i : Nat) (M : Mm) (pc : Nat) (st : List Value) : Prop :=
  ∀ (H : Heap) (locs : List Loc) (ls : Array Slot), va_P w.2.1 vwCl (gw w M) H → va_S (fun q : Nat => s.heap.size ≤ q) s.heap H locs → lv_has ls 4 (lvL b w i) → W p l e room_1 s m #[Value.ref b] below meth c H locs 52 897 (lw_Z below #[Value.ref b] s) (F0 m pc ls st)
section LAWG
variable {p : Program} {l : Launch} {e : Env} {s : State} {m : MethodId} {below : List Frame} {meth : Method} {c : Code} {b L : Nat} {xs : Nat → Int32} {w : Wd} {M : Mm} {i pc : Nat} {st : List Value}
theorem gl_x (C : LC p s m meth c b L xs w) (d : decode code pc = .ok (.aload_n 1, 1)) (k : GL p l e s m below meth c b w i M (pc + 1) (.ref (w.1 0) :: st)) : GL p l e s m below meth c b w i M pc st := by
  obtain ⟨⟨hx, hb, hr, hml, hown, hts, hX, hbl, hlocks, hgv⟩, hK, hA, hw, hN⟩ := C
  intro H locs ls hP hS hl
  exact lv_aload_n hx hb d rfl (lv_at hl 2 rfl) (k H locs ls hP hS hl)
theorem gl_m (C : LC p s m meth c b L xs w) (d : decode code pc = .ok (.aload_n 2, 1)) (k : GL p l e s m below meth c b w i M (pc + 1) (.ref (w.1 32) :: st)) : GL p l e s m below meth c b w i M pc st := by
  obtain ⟨⟨hx, hb, hr, hml, hown, hts, hX, hbl, hlocks, hgv⟩, hK, hA, hw, hN⟩ := C
  intro H locs ls hP hS hl
  exact lv_aload_n hx hb d rfl (lv_at hl 1 rfl) (k H locs ls hP hS hl)
theorem gl_arg (C : LC p s m meth c b L xs w) (k : Nat) (n : Int) (hL : L ≤ 256) (hk : i + k < L) (hv : Int32.ofInt n = nI k) (d0 : decode code pc = .ok (.aload_n 0, 1)) (d1 : decode code (pc + 1) = .ok (.iload_n 3, 1)) (d2 : decode code (pc + 1 + 1) = .ok (.iconst n, 1)) (d3 : decode code (pc + 1 + 1 + 1) = .ok (.iadd, 1)) (d4 : decode code (pc + 1 + 1 + 1 + 1) = .ok (.iaload, 1)) (kk : GL p l e s m below meth c b w i M (pc + 1 + 1 + 1 + 1 + 1) (.int (xs (i + k)) :: st)) : GL p l e s m below meth c b w i M pc st := by
  obtain ⟨⟨hx, hb, hr, hml, hown, hts, hX, hbl, hlocks, hgv⟩, hK, hA, hw, hN⟩ := C
  intro H locs ls hP hS hl
  refine lv_aload_n hx hb d0 rfl (lv_at hl 3 rfl) ?_
  refine lv_iload_n hx hb d1 rfl (lv_at hl 0 rfl) ?_
  refine lv_iconst hx hb d2 hv ?_
  refine lv_iadd hx hb d3 ?_
  have e1 : nI i + nI k = nI (i + k) := nI_add i k
  rw [e1]
  refine va_sld hx hb hX hbl (Nat.not_le.mpr hbl) hS (vp_in_nI hk (by omega)) d4 ?_
  rw [nI_clamp (by omega)]
  exact kk H locs ls hP hS hl
/-- what is needed of a call -/
theorem gl_run (C : LC p s m meth c b L xs w) {α : Type} {Qc : α → Mm → Array Value → State → Outcome → State → Prop} {y : MethodName} {cy : ByteArray} {mL k n : Nat} {ry : Option FieldType} {ro : Room} {As rest : List Value} {oy : Option (α × Mm)} {r : α} {M1 : Mm} {H : Heap} {locs : List Loc} {ls : Array Slot} {Cn : String} {T : u_T} {N ci : Nat} {ty : Nat → FieldType} (cx : Nat) (kn : Kn ci Cn T N ty) (hc : kd cx = ci) (hcn : y.cls = Cn) (hM : CT l y cy mL ry ro w Qc (.ref (w.1 cx) :: As) oy M) (hr : oy = some (r, M1)) (cy1 : CalV y cy mL ry n) (hl : Cond.methodLink RL k y ∈ zA) (hro : ro.cells = 0 ∧ ro.slots = 0) (hR : ro.frames + 1 ≤ 9 ∧ 8 + (mL + 11) + ro.locals ≤ 322) (hn : As.length = n) (hst : st = As.reverse ++ .ref (w.1 cx) :: rest) (hw8 : (rest.map fun v => v.category).sum ≤ 8) (d : decode code pc = .ok (.invokevirtual k, 3)) (hP : va_P w.2.1 vwCl (gw w M) H) (h : ls.size = 4) :
    va_Run p l e room_1 s m #[Value.ref b] below meth c H locs 52 897 0 0 (F0 m pc ls st) rest (Qc r M1 (Value.ref (w.1 cx) :: As).toArray) (FA w) := by
  obtain ⟨⟨hx, hb, hr', hml, hown, hts, hX, hbl, hlocks, hgv⟩, hK, hA, hw, hN⟩ := C
  subst hc; subst hcn
  obtain ⟨k1, k2, k3, k4, k5, k6⟩ := kn
  have htz : ∀ q ∈ zA, q.before #[Value.ref b] s = true := fun q hq => hts q (zA_in q hq)
  have hown' : s.vm.findClass RL = some m.cls := hown
  have h52 : cx < 52 := kd_lt (by omega)
  have hg : (gw w M)[cx]? = some (w.1 cx, .inr (kd cx, (List.range (nf (kd cx))).map (fval w M cx))) := (gw_at w M h52).trans (by rw [cel_o k6])
  have hty : ∀ q ∈ (.code y cy mL ry :: zA), q.before #[Value.ref b] s = true := fun q hq => htz q ((List.mem_cons.mp hq).elim (fun e => e ▸ cy1.1.1) id)
  have cB : CallB room_1 s #[Value.ref b] RL k y cy mL ry (.code y cy mL ry :: zA) ro 0 0 n := callB_of n hty (zA_good cy1.1.1) rfl hro.1 hro.2 (htz _ cy1.1.2.1) (htz _ hl) cy1.1.2.2 hR
  exact va_runV ⟨hx, hb, hml, hown', htz⟩ (hM r M1 hr) ⟨cB, htz _ cy1.2.1, htz _ cy1.2.2⟩ ⟨blind_z, va_recv hK hP k1 hg, fun U hU hW => ⟨rfl, by rw [hU]; exact hP, va_K.moved hW.alike hK, hA, hN.warm hW⟩⟩ rfl hn h hst (lv_room hw8) d ⟨Nat.le_of_ble_eq_true rfl, Nat.le_of_ble_eq_true rfl⟩
theorem gl_I (C : LC p s m meth c b L xs w) {y : MethodName} {cy : ByteArray} {mL k n : Nat} {ry : Option FieldType} {ro : Room} {oy : Option (Int32 × Mm)} {r : Int32} {M1 : Mm} {Cn : String} {T : u_T} {N ci : Nat} {ty : Nat → FieldType} (cx : Nat) (As rest : List Value) (kn : Kn ci Cn T N ty) (hc : kd cx = ci) (hcn : y.cls = Cn) (hM : CT l y cy mL ry ro w (qI w) (.ref (w.1 cx) :: As) oy M) (hr : oy = some (r, M1)) (cy1 : CalV y cy mL ry n) (hl : Cond.methodLink RL k y ∈ zA) (hro : ro.cells = 0 ∧ ro.slots = 0) (hR : ro.frames + 1 ≤ 9 ∧ 8 + (mL + 11) + ro.locals ≤ 322) (hn : As.length = n) (hst : st = As.reverse ++ .ref (w.1 cx) :: rest) (hw8 : (rest.map fun v => v.category).sum ≤ 8) (d : decode code pc = .ok (.invokevirtual k, 3)) (kk : GL p l e s m below meth c b w i M1 (pc + 3) (.int r :: rest)) : GL p l e s m below meth c b w i M pc st := by
  intro H locs ls hP hS hl'
  have run := gl_run (e := e) (below := below) (locs := locs) (ls := ls) (As := As) (rest := rest) C cx kn hc hcn hM hr cy1 hl hro hR hn hst hw8 d hP hl'.1
  have hF : ∀ q, FA w q → (fun q : Nat => s.heap.size ≤ q) q := fun q ⟨z, hz, e⟩ => by rw [e]; exact C.2.2.2.1 z hz
  exact va_calli run hS (fun q _ z => hF q z) hF (fun r1 u t H1 locs1 ht hvm hp hB hz hk hS1 => by
    cases hp
    rw [ht] at hB
    exact kk H1 locs1 ls hB hS1 hl')
theorem gl_J (C : LC p s m meth c b L xs w) {y : MethodName} {cy : ByteArray} {mL k n : Nat} {ry : Option FieldType} {ro : Room} {oy : Option (Int64 × Mm)} {r : Int64} {M1 : Mm} {Cn : String} {T : u_T} {N ci : Nat} {ty : Nat → FieldType} (cx : Nat) (As rest : List Value) (kn : Kn ci Cn T N ty) (hc : kd cx = ci) (hcn : y.cls = Cn) (hM : CT l y cy mL ry ro w (qJ w) (.ref (w.1 cx) :: As) oy M) (hr : oy = some (r, M1)) (cy1 : CalV y cy mL ry n) (hl : Cond.methodLink RL k y ∈ zA) (hro : ro.cells = 0 ∧ ro.slots = 0) (hR : ro.frames + 1 ≤ 9 ∧ 8 + (mL + 11) + ro.locals ≤ 322) (hn : As.length = n) (hst : st = As.reverse ++ .ref (w.1 cx) :: rest) (hw8 : (rest.map fun v => v.category).sum ≤ 8) (d : decode code pc = .ok (.invokevirtual k, 3)) (kk : GL p l e s m below meth c b w i M1 (pc + 3) (.long r :: rest)) : GL p l e s m below meth c b w i M pc st := by
  intro H locs ls hP hS hl'
  have run := gl_run (e := e) (below := below) (locs := locs) (ls := ls) (As := As) (rest := rest) C cx kn hc hcn hM hr cy1 hl hro hR hn hst hw8 d hP hl'.1
  have hF : ∀ q, FA w q → (fun q : Nat => s.heap.size ≤ q) q := fun q ⟨z, hz, e⟩ => by rw [e]; exact C.2.2.2.1 z hz
  exact va_calll run hS (fun q _ z => hF q z) hF (fun r1 u t H1 locs1 ht hvm hp hB hz hk hS1 => by
    cases hp
    rw [ht] at hB
    exact kk H1 locs1 ls hB hS1 hl')
theorem gl_eq (C : LC p s m meth c b L xs w) {v : Int32} {off : Int} {tgt : Nat} (d : decode code pc = .ok (.if_icmp .eq off, 3)) (ht : (pc : Int) + off = (tgt : Int)) (k : GL p l e s m below meth c b w i M tgt []) : GL p l e s m below meth c b w i M pc [.int v, .int v] := by
  obtain ⟨⟨hx, hb, hr, hml, hown, hts, hX, hbl, hlocks, hgv⟩, hK, hA, hw, hN⟩ := C
  intro H locs ls hP hS hl
  exact lv_icmp_eq hx hb d ht (fun _ => k H locs ls hP hS hl) (fun z => absurd rfl z)
theorem cmp_z (v : Int64) : lg_cmp v v = 0 := by
  unfold lg_cmp
  simp
theorem gl_leq (C : LC p s m meth c b L xs w) {v : Int64} {off : Int} {tgt : Nat} (d0 : decode code pc = .ok (.lcmp, 1)) (d : decode code (pc + 1) = .ok (.ifCond .eq off, 3)) (ht : ((pc + 1 : Nat) : Int) + off = (tgt : Int)) (k : GL p l e s m below meth c b w i M tgt []) : GL p l e s m below meth c b w i M pc [.long v, .long v] := by
  obtain ⟨⟨hx, hb, hr, hml, hown, hts, hX, hbl, hlocks, hgv⟩, hK, hA, hw, hN⟩ := C
  intro H locs ls hP hS hl
  refine W.lcmp hx hb d0 ?_
  rw [cmp_z]
  exact lv_if_eq hx hb d ht (fun _ => k H locs ls hP hS hl) (fun z => absurd rfl z)
theorem gl_bo (C : LC p s m meth c b L xs w) {v : Int32} (d0 : decode code pc = .ok (.ifCond .eq 7, 3)) (d1 : decode code (pc + 3) = .ok (.iconst 1, 1)) (d2 : decode code (pc + 3 + 1) = .ok (.goto 4, 3)) (d3 : decode code (pc + 7) = .ok (.iconst 0, 1)) (k : GL p l e s m below meth c b w i M (pc + 8) (.int (if v = 0 then 0 else 1) :: st)) : GL p l e s m below meth c b w i M pc (.int v :: st) := by
  obtain ⟨⟨hx, hb, hr, hml, hown, hts, hX, hbl, hlocks, hgv⟩, hK, hA, hw, hN⟩ := C
  intro H locs ls hP hS hl
  refine lv_if_eq (tgt := pc + 7) hx hb d0 (by omega) (fun z => ?_) (fun z => ?_)
  · rw [if_pos z] at k
    exact lv_iconst hx hb d3 rfl (k H locs ls hP hS hl)
  · rw [if_neg z] at k
    exact lv_iconst hx hb d1 rfl (lv_goto (tgt := pc + 8) hx hb d2 (by omega) (k H locs ls hP hS hl))
theorem and31 (x : Int32) : ∃ k, k < 32 ∧ x &&& 31 = nI k := by
  refine ⟨(x.toBitVec &&& 31#32).toNat, ?_, ?_⟩
  · rw [BitVec.toNat_and]
    exact Nat.lt_of_le_of_lt Nat.and_le_right (by decide)
  · apply Int32.toBitVec_inj.mp
    show x.toBitVec &&& 31#32 = BitVec.ofNat 32 (x.toBitVec &&& 31#32).toNat
    rw [BitVec.ofNat_toNat, BitVec.setWidth_eq]
theorem sub4 : ∀ L, L < 257 → (Int32.ofNat L - 4).toInt = (L : Int) - 4 := by decide +kernel
theorem gt4 {L j : Nat} (hL : L ≤ 256) (hj : j ≤ 64) : (Int32.ofNat L - 4 < nI (4 * j)) ↔ L < 4 * j + 4 := by
  rw [Int32.lt_iff_toInt_lt, sub4 L (by omega), nI_int (by omega)]
  omega
end LAWG
