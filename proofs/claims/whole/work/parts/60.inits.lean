/-! THE CONSTRUCTORS: words of the tables, steps -/
theorem oi_im : Cond.instanceMethod Lib.objectInit ∈ zA := (zA_t 22 (by decide +kernel) rfl)
theorem oi_co : Cond.code Lib.objectInit ⟨#[0xb1]⟩ 1 none ∈ zA := (zA_t 23 (by decide +kernel) rfl)
theorem ar_I : Cond.arrayClass .int ∈ zA := (zA_t 39 (by decide +kernel) rfl)
theorem ar_J : Cond.arrayClass .long ∈ zA := (zA_t 207 (by decide +kernel) rfl)
theorem oi_X0 : Cond.methodLink RX0 3 Lib.objectInit ∈ zA := (zA_t 190 (by decide +kernel) rfl)
theorem cal_X0_init : Cal yX0_init cX0_init 1 none 0 := ⟨(zA_t 189 (by decide +kernel) rfl), (zA_t 8 (by decide +kernel) rfl), by decide +kernel, by decide +kernel, by decide +kernel⟩
theorem im_X0 : Cond.instanceMethod yX0_init ∈ zA := (zA_t 188 (by decide +kernel) rfl)
theorem in_X0 : Cond.instantiable RX0 4 ∈ zA := (zA_t 186 (by decide +kernel) rfl)
theorem ii_X0 : Cond.initialized RX0 ∈ zA := (zA_t 8 (by decide +kernel) rfl)
theorem oi_X1 : Cond.methodLink RX1 3 Lib.objectInit ∈ zA := (zA_t 113 (by decide +kernel) rfl)
theorem cal_X1_init : Cal yX1_init cX1_init 1 none 0 := ⟨(zA_t 112 (by decide +kernel) rfl), (zA_t 6 (by decide +kernel) rfl), by decide +kernel, by decide +kernel, by decide +kernel⟩
theorem im_X1 : Cond.instanceMethod yX1_init ∈ zA := (zA_t 111 (by decide +kernel) rfl)
theorem in_X1 : Cond.instantiable RX1 11 ∈ zA := (zA_t 109 (by decide +kernel) rfl)
theorem ii_X1 : Cond.initialized RX1 ∈ zA := (zA_t 6 (by decide +kernel) rfl)
theorem oi_X2 : Cond.methodLink RX2 3 Lib.objectInit ∈ zA := (zA_t 91 (by decide +kernel) rfl)
theorem cal_X2_init : Cal yX2_init cX2_init 1 none 0 := ⟨(zA_t 90 (by decide +kernel) rfl), (zA_t 5 (by decide +kernel) rfl), by decide +kernel, by decide +kernel, by decide +kernel⟩
theorem im_X2 : Cond.instanceMethod yX2_init ∈ zA := (zA_t 89 (by decide +kernel) rfl)
theorem in_X2 : Cond.instantiable RX2 4 ∈ zA := (zA_t 87 (by decide +kernel) rfl)
theorem ii_X2 : Cond.initialized RX2 ∈ zA := (zA_t 5 (by decide +kernel) rfl)
theorem oi_X3 : Cond.methodLink RX3 1 Lib.objectInit ∈ zA := (zA_t 168 (by decide +kernel) rfl)
theorem cal_X3_init : Cal yX3_init cX3_init 1 none 0 := ⟨(zA_t 167 (by decide +kernel) rfl), (zA_t 7 (by decide +kernel) rfl), by decide +kernel, by decide +kernel, by decide +kernel⟩
theorem im_X3 : Cond.instanceMethod yX3_init ∈ zA := (zA_t 166 (by decide +kernel) rfl)
theorem in_X3 : Cond.instantiable RX3 4 ∈ zA := (zA_t 164 (by decide +kernel) rfl)
theorem ii_X3 : Cond.initialized RX3 ∈ zA := (zA_t 7 (by decide +kernel) rfl)
theorem oi_X4 : Cond.methodLink RX4 3 Lib.objectInit ∈ zA := (zA_t 213 (by decide +kernel) rfl)
theorem cal_X4_init : Cal yX4_init cX4_init 1 none 0 := ⟨(zA_t 212 (by decide +kernel) rfl), (zA_t 9 (by decide +kernel) rfl), by decide +kernel, by decide +kernel, by decide +kernel⟩
theorem im_X4 : Cond.instanceMethod yX4_init ∈ zA := (zA_t 211 (by decide +kernel) rfl)
theorem in_X4 : Cond.instantiable RX4 4 ∈ zA := (zA_t 209 (by decide +kernel) rfl)
theorem ii_X4 : Cond.initialized RX4 ∈ zA := (zA_t 9 (by decide +kernel) rfl)
theorem oi_X5 : Cond.methodLink RX5 3 Lib.objectInit ∈ zA := (zA_t 29 (by decide +kernel) rfl)
theorem cal_X5_init : Cal yX5_init cX5_init 1 none 0 := ⟨(zA_t 28 (by decide +kernel) rfl), (zA_t 2 (by decide +kernel) rfl), by decide +kernel, by decide +kernel, by decide +kernel⟩
theorem im_X5 : Cond.instanceMethod yX5_init ∈ zA := (zA_t 27 (by decide +kernel) rfl)
theorem in_X5 : Cond.instantiable RX5 2 ∈ zA := (zA_t 25 (by decide +kernel) rfl)
theorem ii_X5 : Cond.initialized RX5 ∈ zA := (zA_t 2 (by decide +kernel) rfl)
theorem oi_X6 : Cond.methodLink RX6 3 Lib.objectInit ∈ zA := (zA_t 73 (by decide +kernel) rfl)
theorem cal_X6_init : Cal yX6_init cX6_init 1 none 0 := ⟨(zA_t 72 (by decide +kernel) rfl), (zA_t 4 (by decide +kernel) rfl), by decide +kernel, by decide +kernel, by decide +kernel⟩
theorem im_X6 : Cond.instanceMethod yX6_init ∈ zA := (zA_t 71 (by decide +kernel) rfl)
theorem in_X6 : Cond.instantiable RX6 3 ∈ zA := (zA_t 69 (by decide +kernel) rfl)
theorem ii_X6 : Cond.initialized RX6 ∈ zA := (zA_t 4 (by decide +kernel) rfl)
theorem oi_X7 : Cond.methodLink RX7 3 Lib.objectInit ∈ zA := (zA_t 45 (by decide +kernel) rfl)
theorem cal_X7_init : Cal yX7_init cX7_init 1 none 0 := ⟨(zA_t 44 (by decide +kernel) rfl), (zA_t 3 (by decide +kernel) rfl), by decide +kernel, by decide +kernel, by decide +kernel⟩
theorem im_X7 : Cond.instanceMethod yX7_init ∈ zA := (zA_t 43 (by decide +kernel) rfl)
theorem in_X7 : Cond.instantiable RX7 5 ∈ zA := (zA_t 41 (by decide +kernel) rfl)
theorem ii_X7 : Cond.initialized RX7 ∈ zA := (zA_t 3 (by decide +kernel) rfl)
theorem oi_X8 : Cond.methodLink RX8 3 Lib.objectInit ∈ zA := (zA_t 232 (by decide +kernel) rfl)
theorem cal_X8_init : Cal yX8_init cX8_init 1 none 0 := ⟨(zA_t 231 (by decide +kernel) rfl), (zA_t 10 (by decide +kernel) rfl), by decide +kernel, by decide +kernel, by decide +kernel⟩
theorem im_X8 : Cond.instanceMethod yX8_init ∈ zA := (zA_t 230 (by decide +kernel) rfl)
theorem in_X8 : Cond.instantiable RX8 5 ∈ zA := (zA_t 228 (by decide +kernel) rfl)
theorem ii_X8 : Cond.initialized RX8 ∈ zA := (zA_t 10 (by decide +kernel) rfl)
theorem oi_X9 : Cond.methodLink RX9 1 Lib.objectInit ∈ zA := (zA_t 254 (by decide +kernel) rfl)
theorem cal_X9_init : Cal yX9_init cX9_init 1 none 0 := ⟨(zA_t 253 (by decide +kernel) rfl), (zA_t 11 (by decide +kernel) rfl), by decide +kernel, by decide +kernel, by decide +kernel⟩
theorem im_X9 : Cond.instanceMethod yX9_init ∈ zA := (zA_t 252 (by decide +kernel) rfl)
theorem in_X9 : Cond.instantiable RX9 4 ∈ zA := (zA_t 250 (by decide +kernel) rfl)
theorem ii_X9 : Cond.initialized RX9 ∈ zA := (zA_t 11 (by decide +kernel) rfl)
theorem oi_X10 : Cond.methodLink RX10 1 Lib.objectInit ∈ zA := (zA_t 21 (by decide +kernel) rfl)
theorem cal_X10_init : Cal yX10_init cX10_init 1 none 0 := ⟨(zA_t 20 (by decide +kernel) rfl), (zA_t 1 (by decide +kernel) rfl), by decide +kernel, by decide +kernel, by decide +kernel⟩
theorem im_X10 : Cond.instanceMethod yX10_init ∈ zA := (zA_t 19 (by decide +kernel) rfl)
theorem in_X10 : Cond.instantiable RX10 12 ∈ zA := (zA_t 17 (by decide +kernel) rfl)
theorem ii_X10 : Cond.initialized RX10 ∈ zA := (zA_t 1 (by decide +kernel) rfl)
theorem oi_X11 : Cond.methodLink RX11 1 Lib.objectInit ∈ zA := (zA_t 849 (by decide +kernel) rfl)
theorem cal_X11_init : Cal yX11_init cX11_init 1 none 0 := ⟨(zA_t 848 (by decide +kernel) rfl), (zA_t 12 (by decide +kernel) rfl), by decide +kernel, by decide +kernel, by decide +kernel⟩
theorem im_X11 : Cond.instanceMethod yX11_init ∈ zA := (zA_t 847 (by decide +kernel) rfl)
theorem in_X11 : Cond.instantiable RX11 49 ∈ zA := (zA_t 845 (by decide +kernel) rfl)
theorem ii_X11 : Cond.initialized RX11 ∈ zA := (zA_t 12 (by decide +kernel) rfl)
theorem cl_L_7 : Cond.classLink RL 7 RX10 ∈ zA := (zA_t 16 (by decide +kernel) rfl)
theorem cl_X10_7 : Cond.classLink RX10 7 RX5 ∈ zA := (zA_t 24 (by decide +kernel) rfl)
theorem cl_X10_16 : Cond.classLink RX10 16 RX7 ∈ zA := (zA_t 40 (by decide +kernel) rfl)
theorem cl_X10_23 : Cond.classLink RX10 23 RX6 ∈ zA := (zA_t 68 (by decide +kernel) rfl)
theorem cl_X10_30 : Cond.classLink RX10 30 RX2 ∈ zA := (zA_t 86 (by decide +kernel) rfl)
theorem cl_X10_37 : Cond.classLink RX10 37 RX1 ∈ zA := (zA_t 108 (by decide +kernel) rfl)
theorem cl_X10_44 : Cond.classLink RX10 44 RX3 ∈ zA := (zA_t 163 (by decide +kernel) rfl)
theorem cl_X3_7 : Cond.classLink RX3 7 RX1 ∈ zA := (zA_t 169 (by decide +kernel) rfl)
theorem cl_X10_51 : Cond.classLink RX10 51 RX0 ∈ zA := (zA_t 185 (by decide +kernel) rfl)
theorem cl_X10_58 : Cond.classLink RX10 58 RX4 ∈ zA := (zA_t 208 (by decide +kernel) rfl)
theorem cl_X10_65 : Cond.classLink RX10 65 RX8 ∈ zA := (zA_t 227 (by decide +kernel) rfl)
theorem cl_X10_72 : Cond.classLink RX10 72 RX9 ∈ zA := (zA_t 249 (by decide +kernel) rfl)
theorem cl_L_10 : Cond.classLink RL 10 RX11 ∈ zA := (zA_t 844 (by decide +kernel) rfl)
def PI (D : va_G) (aI aJ : ClassId) (ci : Nat) (fs0 : List Value) (h0 sz : Nat) (U : State) : Prop := U.heap.size = sz ∧ va_P D vwCl [(h0, .inr (ci, fs0))] U.heap ∧ va_K D vwCl [(aI, .int), (aJ, .long)] U ∧ va_D (fun _ => True) [(h0, .inr (ci, fs0))] ∧ NWs U
/-- a constructor's contract: of a new object it makes the world Sh -/
def IC (l : Launch) (y : MethodName) (cc : ByteArray) (rm : Room) (ci : Nat) (fs0 : List Value) (Sh : ClassId → ClassId → Nat → va_W → Prop) (mc ms : Nat) : Prop := ∀ (D : va_G) (aI aJ : ClassId) (h0 sz : Nat), Met l y (.code y cc 1 none :: zA) rm (va_Pc [.ref h0] (PI D aI aJ ci fs0 h0 sz)) (va_Qv (fun _ : Unit => True) (fun _ t => ∃ W1 : va_W, Sh aI aJ h0 W1 ∧ va_P D vwCl W1 t.heap ∧ va_D (va_A [(h0, .inr (ci, fs0))] sz) W1) (va_A [(h0, .inr (ci, fs0))] sz)) mc ms (va_A [(h0, .inr (ci, fs0))] sz)
theorem va_one {q : Nat × va_E} {x : Nat × va_E} {k : Nat} (h : [q][k]? = some x) : k = 0 ∧ x = q := by
  have hz : k < 1 := (List.getElem?_eq_some_iff.mp h).1
  have : k = 0 := by omega
  subst this
  exact ⟨rfl, (Option.some.inj h).symm⟩
theorem va_joinE {A0 : Nat → Prop} {D : va_G} {cl : List vw_C} {ws w1 : va_W} {x : Nat × va_E} {H H1 : Heap} (hP : va_P D cl (ws ++ [x]) H) (hD : va_D A0 (ws ++ [x]))
    (hk : ∀ q : Nat, q < H.size → ¬ va_A [x] H.size q → H1[q]? = H[q]?) (hF : ∀ q, va_A [x] H.size q → A0 q) (hP1 : va_P D cl w1 H1) (hD1 : va_D (va_A [x] H.size) w1) : va_P D cl (ws ++ w1) H1 ∧ va_D A0 (ws ++ w1) := by
  have at' : ∀ (k : Nat) (q : Nat × va_E), ws[k]? = some q → (ws ++ [x])[k]? = some q := fun k q h => by
    rw [List.getElem?_append_left (List.getElem?_eq_some_iff.mp h).1]; exact h
  have xl : (ws ++ [x])[ws.length]? = some x := by simp
  have apart : ∀ (k : Nat) (q : Nat × va_E), ws[k]? = some q → q.1 < H.size ∧ ¬ va_A [x] H.size q.1 := by
    intro k q hq
    have hl := (hP k q (at' k q hq)).lt
    refine ⟨hl, fun h => ?_⟩
    rcases h with ⟨k2, e, h⟩ | h
    · obtain ⟨_, hxe⟩ := va_one h
      have hij := hD.1 k ws.length q x (at' k q hq) xl (by rw [← hxe])
      have := (List.getElem?_eq_some_iff.mp hq).1
      omega
    · omega
  refine ⟨va_P.app (fun k q hq => ?_) hP1, va_D.app ⟨fun i j x y hi hj => hD.1 i j x y (at' _ _ hi) (at' _ _ hj), fun k q hk => hD.2 k q (at' _ _ hk)⟩ (hD1.weaken (fun k q _ h => hF q.1 h)) (fun i j x y hx hy hxy => ?_)⟩
  · obtain ⟨g1, g2⟩ := apart k q hq
    exact (hP k q (at' k q hq)).kept (hk q.1 g1 g2)
  · exact (apart i x hx).2 (by rw [hxy]; exact hD1.2 j y hy)
section INI
variable {p : Program} {l : Launch} {e : Env} {R : Room} {s : State} {m : MethodId} {args : Array Value} {below : List Frame} {meth : Method} {c : Code} {H H0 : Heap} {locs : List Loc} {cells slots : Nat} {Q : State → Prop}
variable {cc : ByteArray} {nL pc : Nat} {own : String} {D : va_G} {aI aJ : ClassId} {ws : va_W} {A : Nat → Prop} {ls : Array Slot} {st : List Value}
theorem ini_A (hx : p.tables.exec = Jvm.exec) (hb : c.code = cc) (htz : ∀ q ∈ zA, q.before args s = true) (hK : va_K D vwCl [(aI, .int), (aJ, .long)] s) (hP : va_P D vwCl ws H) (hD : va_D A ws) (hS : va_S A H0 H locs) (hA : ∀ q, H0.size ≤ q → A q) {n : Int32} {N' : Nat} (hn : ¬ n < 0) (hN : n.toNatClampNeg = N') (hby : N' * componentBytes .int ≤ 536870912) (hc : cells + 1 ≤ R.cells) (hs : slots + N' ≤ R.slots) (d : decode cc pc = .ok (.newarray .int, 2))
    (kk : ∀ (q : Nat) (H1 : Heap), va_P D vwCl (ws ++ [(q, .inl (aI, N', .inl (fun _ => 0)))]) H1 → va_D A (ws ++ [(q, .inl (aI, N', .inl (fun _ => 0)))]) → va_S A H0 H1 locs → W p l e R s m args below meth c H1 locs (cells + 1) (slots + N') Q (F0 m (pc + 2) ls (.ref q :: st))) : W p l e R s m args below meth c H locs cells slots Q (F0 m pc ls (.int n :: st)) := by
  refine va_newa (atype := .int) (a0 := (N', .inl (fun _ => 0))) hx hb (htz _ ar_I) rfl hK hP hD hS hA (fun cA => rfl) hn hN hby hc hs d (fun q cA H1 hK2 hP hD hS => ?_)
  have ea : cA = aI := Option.some.inj ((va_nm_int (hK2.2 2 _ rfl).2).symm.trans (va_nm_int (hK.2 0 _ rfl).2))
  rw [ea] at hP hD
  exact kk q H1 hP hD hS
theorem ini_B (hx : p.tables.exec = Jvm.exec) (hb : c.code = cc) (htz : ∀ q ∈ zA, q.before args s = true) (hK : va_K D vwCl [(aI, .int), (aJ, .long)] s) (hP : va_P D vwCl ws H) (hD : va_D A ws) (hS : va_S A H0 H locs) (hA : ∀ q, H0.size ≤ q → A q) {n : Int32} {N' : Nat} (hn : ¬ n < 0) (hN : n.toNatClampNeg = N') (hby : N' * componentBytes .long ≤ 536870912) (hc : cells + 1 ≤ R.cells) (hs : slots + N' ≤ R.slots) (d : decode cc pc = .ok (.newarray .long, 2))
    (kk : ∀ (q : Nat) (H1 : Heap), va_P D vwCl (ws ++ [(q, .inl (aJ, N', .inr (.inl (fun _ => 0))))]) H1 → va_D A (ws ++ [(q, .inl (aJ, N', .inr (.inl (fun _ => 0))))]) → va_S A H0 H1 locs → W p l e R s m args below meth c H1 locs (cells + 1) (slots + N') Q (F0 m (pc + 2) ls (.ref q :: st))) : W p l e R s m args below meth c H locs cells slots Q (F0 m pc ls (.int n :: st)) := by
  refine va_newa (atype := .long) (a0 := (N', .inr (.inl (fun _ => 0)))) hx hb (htz _ ar_J) rfl hK hP hD hS hA (fun cA => rfl) hn hN hby hc hs d (fun q cA H1 hK2 hP hD hS => ?_)
  have ea : cA = aJ := Option.some.inj ((va_nm_long (hK2.2 2 _ rfl).2).symm.trans (va_nm_long (hK.2 1 _ rfl).2))
  rw [ea] at hP hD
  exact kk q H1 hP hD hS
theorem ini_F (hx : p.tables.exec = Jvm.exec) (hb : c.code = cc) (hown : s.vm.findClass own = some m.cls) (hin : meth.name = "<init>") (htz : ∀ q ∈ zA, q.before args s = true) (hK : va_K D vwCl [(aI, .int), (aJ, .long)] s) (hP : va_P D vwCl ws H) (hD : va_D A ws) (hS : va_S A H0 H locs) {T : u_T} {N ci i0 : Nat} {ty : Nat → FieldType} {h0 : Nat} {fs : List Value} {v : Value} (k : Nat) (kn : Kn ci own T N ty) (he : ws[0]? = some (h0, .inr (ci, fs))) (hk : k < N) (hl : Cond.fieldLink own i0 (T k).1 (T k).2.1 (T k).2.2.1 ∈ zA) (hfin : (T k).2.2.2 = true) (hdecl : (T k).1 = own) (hn : narrow (ty k) v = v) (hfit : fits (ty k) v = true) (hlen : k < fs.length) (d : decode cc pc = .ok (.putfield i0, 3))
    (kk : ∀ (H1 : Heap) (locs1 : List Loc), va_P D vwCl (ws.set 0 (h0, .inr (ci, fs.set k v))) H1 → va_D A (ws.set 0 (h0, .inr (ci, fs.set k v))) → va_S A H0 H1 locs1 → W p l e R s m args below meth c H1 locs1 cells slots Q (F0 m (pc + 3) ls st)) : W p l e R s m args below meth c H locs cells slots Q (F0 m pc ls (v :: .ref h0 :: st)) :=
  va_putF hx hb htz kn.2.1 ty kn.2.2.1 kn.2.2.2.1 hown hK hP hD hS 0 he kn.1 k hk (htz _ hl) (fun _ h => h) hfin hin hdecl (kn.2.2.1 k hk) hn hfit hlen d kk
theorem ini_N (hx : p.tables.exec = Jvm.exec) (hb : c.code = cc) (hown : s.vm.findClass own = some m.cls) (htz : ∀ q ∈ zA, q.before args s = true) (hK : va_K D vwCl [(aI, .int), (aJ, .long)] s) (hP : va_P D vwCl ws H) (hD : va_D A ws) (hS : va_S A H0 H locs) {T : u_T} {N ci i0 : Nat} {ty : Nat → FieldType} {h0 : Nat} {fs : List Value} {v : Value} (k : Nat) (kn : Kn ci own T N ty) (he : ws[0]? = some (h0, .inr (ci, fs))) (hk : k < N) (hl : Cond.fieldLink own i0 (T k).1 (T k).2.1 (T k).2.2.1 ∈ zA) (hfin : (T k).2.2.2 = false) (hn : narrow (ty k) v = v) (hfit : fits (ty k) v = true) (hlen : k < fs.length) (d : decode cc pc = .ok (.putfield i0, 3))
    (kk : ∀ (H1 : Heap) (locs1 : List Loc), va_P D vwCl (ws.set 0 (h0, .inr (ci, fs.set k v))) H1 → va_D A (ws.set 0 (h0, .inr (ci, fs.set k v))) → va_S A H0 H1 locs1 → W p l e R s m args below meth c H1 locs1 cells slots Q (F0 m (pc + 3) ls st)) : W p l e R s m args below meth c H locs cells slots Q (F0 m pc ls (v :: .ref h0 :: st)) :=
  va_put hx hb htz kn.2.1 ty kn.2.2.1 kn.2.2.2.1 hown hK hP hD hS 0 he kn.1 k hk (htz _ hl) (fun _ h => h) hfin (kn.2.2.1 k hk) hn hfit hlen d kk
theorem ini_blind {D : va_G} {aI aJ : ClassId} {ci h0 sz : Nat} {fs0 : List Value} : FrameBlind (va_Pc [.ref h0] (PI D aI aJ ci fs0 h0 sz)) := fun a U g mk q => by
  obtain ⟨q0, q1, q2, q3, q4, q5⟩ := q
  exact ⟨q0, q1, q2, va_K.moved (u := U) (U := U.calling g mk a) (Vm.Alike.refl U.vm) q3, q4, fun z hz => va_Nw.same rfl (show U.vm = (U.calling g mk a).vm from rfl) (q5 z hz)⟩
/-- a new object: made, and its constructor called -/
theorem ini_O (hx : p.tables.exec = Jvm.exec) (hb : c.code = cc) (hml : c.maxLocals = nL) (hown : s.vm.findClass own = some m.cls) (htz : ∀ q ∈ zA, q.before args s = true) (hN : NWs s) (hK : va_K D vwCl [(aI, .int), (aJ, .long)] s) (hP : va_P D vwCl ws H) (hD : va_D A ws) (hS : va_S A H0 H locs) (hA : ∀ q, H0.size ≤ q → A q) (hls : ls.size = nL)
    {Cn : String} {T' : u_T} {N' ci' i0 i1 mc ms : Nat} {ty' : Nat → FieldType} {fs0 : List Value} {y : MethodName} {cy : ByteArray} {ro : Room} {Sh : ClassId → ClassId → Nat → va_W → Prop}
    (kn : Kn ci' Cn T' N' ty') (hcl : Cond.classLink own i0 Cn ∈ zA) (hinst : Cond.instantiable Cn N' ∈ zA) (hini : Cond.initialized Cn ∈ zA) (hfs : ∀ j, j < N' → defaultValue (ty' j) = vp_V fs0 j)
    (d0 : decode cc pc = .ok (.new i0, 3)) (d1 : decode cc (pc + 3) = .ok (.dup, 1)) (d2 : decode cc (pc + 3 + 1) = .ok (.invokespecial i1, 3))
    (hM : IC l y cy ro ci' fs0 Sh mc ms) (cal : Cal y cy 1 none 0) (hyn : y.name = "<init>") (him : Cond.instanceMethod y ∈ zA) (hlk : Lnk own i1 y) (hrc : ro.cells = mc ∧ ro.slots = ms) (hR : ro.frames + 1 ≤ R.frames ∧ 8 + (1 + 11) + ro.locals ≤ R.locals) (hcells : cells + 1 + mc ≤ R.cells) (hslots : slots + N' + ms ≤ R.slots) (hw8 : ((st.map fun v => v.category).sum) + 1 ≤ 8)
    (kk : ∀ (q : Nat) (W1 : va_W) (H1 : Heap) (locs1 : List Loc), Sh aI aJ q W1 → va_P D vwCl (ws ++ W1) H1 → va_D A (ws ++ W1) → va_S A H0 H1 locs1 → W p l e R s m args below meth c H1 locs1 (cells + 1 + mc) (slots + N' + ms) Q (F0 m (pc + 3 + 1 + 3) ls (.ref q :: st))) : W p l e R s m args below meth c H locs cells slots Q (F0 m pc ls st) := by
  refine va_new hx hb htz kn.2.1 ty' kn.2.2.1 hown (htz _ hcl) (htz _ hinst) (htz _ hini) hK hP hD hS hA kn.1 hfs (by omega) (by omega) d0 (fun q H hP hD hS => ?_)
  refine lv_dup hx hb d1 rfl ?_
  have xl : (ws ++ [(q, .inr (ci', fs0))])[ws.length]? = some ((q, .inr (ci', fs0)) : Nat × va_E) := by simp
  have hFc : ∀ z, va_A [(q, .inr (ci', fs0))] H.size z → A z := fun z h => by
    rcases h with ⟨k, e, h⟩ | h
    · obtain ⟨_, h1⟩ := va_one h
      have := hD.2 _ _ xl
      rw [← h1] at this
      exact this
    · exact hA z (Nat.le_trans hS.1 h)
  have hPc : va_P D vwCl [(q, .inr (ci', fs0))] H := fun k x h => by
    obtain ⟨_, h1⟩ := va_one h
    rw [h1]
    exact hP _ _ xl
  have hDc : va_D (fun _ => True) [((q, .inr (ci', fs0)) : Nat × va_E)] := ⟨fun i j x y hi hj _ => by rw [(va_one hi).1, (va_one hj).1], fun _ _ _ => trivial⟩
  have htc : ∀ q ∈ (.code y cy 1 none :: zA), q.before args s = true := fun q hq => htz q ((List.mem_cons.mp hq).elim (fun e => e ▸ cal.1) id)
  have hpre : ∀ U : State, U.heap = H → s.WarmedH U.vm → va_Pc [.ref q] (PI D aI aJ ci' fs0 q H.size) [Value.ref q].toArray U := fun U hU hW => ⟨rfl, by rw [hU], by rw [hU]; exact hPc, va_K.moved hW.alike hK, hDc, hN.warm hW⟩
  have hsum : ((((.ref q :: st) : List Value).map fun v => v.category).sum) ≤ 8 := by
    rw [List.map_cons, List.sum_cons]
    show 1 + _ ≤ 8
    omega
  have run : va_Run p l e R s m args below meth c H locs (cells + 1) (slots + N') mc ms (F0 m (pc + 3 + 1) ls (.ref q :: .ref q :: st)) (.ref q :: st) (va_Qv (fun _ : Unit => True) (fun _ t => ∃ W1 : va_W, Sh aI aJ q W1 ∧ va_P D vwCl W1 t.heap ∧ va_D (va_A [(q, .inr (ci', fs0))] H.size) W1) (va_A [(q, .inr (ci', fs0))] H.size) [Value.ref q].toArray) (va_A [(q, .inr (ci', fs0))] H.size) := by
    rcases hlk with hlk | ⟨host, hlk⟩
    · exact va_runI (As := []) ⟨hx, hb, hml, hown, htz⟩ (hM D aI aJ q H.size) ⟨callB_of 0 htc (zA_good cal.1) rfl hrc.1 hrc.2 (htz _ cal.2.1) (htz _ hlk) cal.2.2 hR, hyn, htz _ him⟩ ⟨ini_blind, hpre⟩ rfl rfl hls rfl (lv_room hsum) d2 ⟨hcells, hslots⟩
    · exact va_runIN (As := []) ⟨hx, hb, hml, hown, htz⟩ (hM D aI aJ q H.size) ⟨va_cnB 0 htc (zA_good cal.1) rfl hrc.1 hrc.2 (hN _ hlk) (htz _ cal.2.1) cal.2.2 hR, hyn, htz _ him⟩ ⟨ini_blind, hpre⟩ rfl rfl hls rfl (lv_room hsum) d2 ⟨hcells, hslots⟩
  refine va_callv run hS (fun z _ h => hFc z h) hFc (fun u t H1 locs1 ht hvm hp hB hz hk hS1 => ?_)
  obtain ⟨W1, sh, hP1, hD1⟩ := hB
  rw [ht] at hP1
  obtain ⟨hP2, hD2⟩ := va_joinE hP hD hk hFc hP1 hD1
  exact kk q W1 H1 locs1 sh hP2 hD2 hS1
end INI
theorem arr_known {ty : FieldType} {args : Array Value} {s : State} (h : (Cond.arrayClass ty).before args s = true) (hp : ∀ C, ty ≠ .object C) : ∃ cA : ClassId, ArrOfT s cA ty ∧ va_RA s cA ty := by
  obtain ⟨cA, kA, comp, h1, h2, h3⟩ := Cond.arrayClass_spec h
  refine ⟨cA, fun n z => ⟨fun k h => (by cases h), kA, h2, comp, h3⟩, ?_⟩
  cases ty with
  | object C => exact absurd rfl (hp C)
  | _ => exact h1
