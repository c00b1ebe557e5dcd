/-! ROWS of the judgement G: an instruction each; the spec's words are used up by unification -/
section GR
variable {α β γ : Type} {x : Cx} {w : Wd} {cc : ByteArray} {nL : Nat} {own : String} {ret : Option FieldType} {rm : Room} {Qf : α → Mm → Array Value → State → Outcome → State → Prop} {o a b : Option (α × Mm)} {M : Mm} {lv lv' : List (Nat × Value)} {pc : Nat} {st : List Value}
theorem gz_none : G x w nL Qf none M lv pc st := fun r M' h => by cases h
theorem gz_eq {o' : Option (α × Mm)} (h : o = o') (k : G x w nL Qf o' M lv pc st) : G x w nL Qf o M lv pc st := by rw [h]; exact k
theorem gz_if {c : Prop} [h : Decidable c] (ha : c → G x w nL Qf a M lv pc st) (hb : ¬ c → G x w nL Qf b M lv pc st) : G x w nL Qf (if c then a else b) M lv pc st := by
  by_cases q : c
  · rw [if_pos q]; exact ha q
  · rw [if_neg q]; exact hb q
theorem gz_jn {κ : Type} {k : κ} {f : κ → Option (α × Mm)} (P : κ → Prop) (h1 : P k) (h2 : ∀ K, P K → G x w nL Qf (f K) M lv pc st) : G x w nL Qf (jn k f) M lv pc st := h2 k h1
theorem gz_sub (ks : List Nat) (hl : lv_pick lv ks = lv') (k : G x w nL Qf o M lv' pc st) : G x w nL Qf o M lv pc st := fun r M' ho H locs ls hP hS h => k r M' ho H locs ls hP hS (lv_sub h ks hl)
theorem gz_bl {v : γ} {f : γ → Option (α × Mm)} (k : G x w nL Qf (f v) M lv pc st) : G x w nL Qf (bl v f) M lv pc st := k
theorem gz_blt {v : Int32} {f : Int32 → Option (α × Mm)} (k : ∀ y, G x w nL Qf (f y) M lv pc (.int y :: st)) : G x w nL Qf (bl v f) M lv pc (.int v :: st) := k v
theorem gz_bltJ {v : Int64} {f : Int64 → Option (α × Mm)} (k : ∀ y, G x w nL Qf (f y) M lv pc (.long y :: st)) : G x w nL Qf (bl v f) M lv pc (.long v :: st) := k v
-- constants
theorem gz_iconst (C : Ok x w cc nL own ret rm) {n : Int} {v : Int32} (d : decode cc pc = .ok (.iconst n, 1)) (hv : Int32.ofInt n = v) (k : G x w nL Qf o M lv (pc + 1) (.int v :: st)) : G x w nL Qf o M lv pc st := fun r M' ho H locs ls hP hS h => lv_iconst C.1 C.2.1 d hv (k r M' ho H locs ls hP hS h)
theorem gz_bipush (C : Ok x w cc nL own ret rm) {n : Int} {v : Int32} (d : decode cc pc = .ok (.bipush n, 2)) (hv : (Int8.ofInt n).toInt32 = v) (k : G x w nL Qf o M lv (pc + 2) (.int v :: st)) : G x w nL Qf o M lv pc st := fun r M' ho H locs ls hP hS h => lv_bipush C.1 C.2.1 d hv (k r M' ho H locs ls hP hS h)
theorem gz_lconst (C : Ok x w cc nL own ret rm) {n : Fin 2} {v : Int64} (d : decode cc pc = .ok (.lconst n, 1)) (hv : Int64.ofNat (n : Nat) = v) (k : G x w nL Qf o M lv (pc + 1) (.long v :: st)) : G x w nL Qf o M lv pc st := fun r M' ho H locs ls hP hS h => lv_lconst C.1 C.2.1 d hv (k r M' ho H locs ls hP hS h)
theorem gz_ldc2 (C : Ok x w cc nL own ret rm) {n : Nat} {v : Int64} (hc : Cond.constantLong own n v ∈ zA) (d : decode cc pc = .ok (.ldc2_w n, 3)) (k : G x w nL Qf o M lv (pc + 3) (.long v :: st)) : G x w nL Qf o M lv pc st := fun r M' ho H locs ls hP hS h => lv_ldc2 C.1 C.2.1 C.2.2.2.1 (C.2.2.2.2.1 _ hc) d (k r M' ho H locs ls hP hS h)
theorem gz_ldcw (C : Ok x w cc nL own ret rm) {n : Nat} {v : Int32} (hc : Cond.constant own n v ∈ zA) (d : decode cc pc = .ok (.ldc_w n, 3)) (k : G x w nL Qf o M lv (pc + 3) (.int v :: st)) : G x w nL Qf o M lv pc st := fun r M' ho H locs ls hP hS h => lv_ldcw C.1 C.2.1 C.2.2.2.1 (C.2.2.2.2.1 _ hc) d (k r M' ho H locs ls hP hS h)
-- locals
theorem gz_iloadn (C : Ok x w cc nL own ret rm) {i : Fin 4} {v : Int32} (j : Nat) (hj : lv[j]? = some ((i : Nat), .int v)) (d : decode cc pc = .ok (.iload_n i, 1)) (k : G x w nL Qf o M lv (pc + 1) (.int v :: st)) : G x w nL Qf o M lv pc st := fun r M' ho H locs ls hP hS h => lv_iload_n C.1 C.2.1 d rfl (lv_at h j hj) (k r M' ho H locs ls hP hS h)
theorem gz_iload (C : Ok x w cc nL own ret rm) {i : Nat} {v : Int32} (j : Nat) (hj : lv[j]? = some (i, .int v)) (d : decode cc pc = .ok (.iload i, 2)) (k : G x w nL Qf o M lv (pc + 2) (.int v :: st)) : G x w nL Qf o M lv pc st := fun r M' ho H locs ls hP hS h => lv_iload C.1 C.2.1 d (lv_at h j hj) (k r M' ho H locs ls hP hS h)
theorem gz_lloadn (C : Ok x w cc nL own ret rm) {i : Fin 4} {v : Int64} (j : Nat) (hj : lv[j]? = some ((i : Nat), .long v)) (d : decode cc pc = .ok (.lload_n i, 1)) (k : G x w nL Qf o M lv (pc + 1) (.long v :: st)) : G x w nL Qf o M lv pc st := fun r M' ho H locs ls hP hS h => lv_lload_n C.1 C.2.1 d rfl (lv_at h j hj) (k r M' ho H locs ls hP hS h)
theorem gz_lload (C : Ok x w cc nL own ret rm) {i : Nat} {v : Int64} (j : Nat) (hj : lv[j]? = some (i, .long v)) (d : decode cc pc = .ok (.lload i, 2)) (k : G x w nL Qf o M lv (pc + 2) (.long v :: st)) : G x w nL Qf o M lv pc st := fun r M' ho H locs ls hP hS h => lv_lload C.1 C.2.1 d (lv_at h j hj) (k r M' ho H locs ls hP hS h)
theorem gz_aloadn (C : Ok x w cc nL own ret rm) {i : Fin 4} {v : Nat} (j : Nat) (hj : lv[j]? = some ((i : Nat), .ref v)) (d : decode cc pc = .ok (.aload_n i, 1)) (k : G x w nL Qf o M lv (pc + 1) (.ref v :: st)) : G x w nL Qf o M lv pc st := fun r M' ho H locs ls hP hS h => lv_aload_n C.1 C.2.1 d rfl (lv_at h j hj) (k r M' ho H locs ls hP hS h)
theorem gz_aload (C : Ok x w cc nL own ret rm) {i : Nat} {v : Nat} (j : Nat) (hj : lv[j]? = some (i, .ref v)) (d : decode cc pc = .ok (.aload i, 2)) (k : G x w nL Qf o M lv (pc + 2) (.ref v :: st)) : G x w nL Qf o M lv pc st := fun r M' ho H locs ls hP hS h => lv_aload C.1 C.2.1 d (lv_at h j hj) (k r M' ho H locs ls hP hS h)
theorem gz_istoren (C : Ok x w cc nL own ret rm) {i : Fin 4} {v : Int32} (lv' : List (Nat × Value)) (d : decode cc pc = .ok (.istore_n i, 1)) (hn : (i : Nat) < nL) (hl : ((i : Nat), Value.int v) :: lv.filter (fun q => !(q.1 == (i : Nat)) && !(q.1 + 1 == (i : Nat) && q.2.category == 2)) = lv') (k : G x w nL Qf o M lv' (pc + 1) st) : G x w nL Qf o M lv pc (.int v :: st) := fun r M' ho H locs ls hP hS h => lv_istore_n C.1 C.2.1 d rfl h hn hl (fun ls' h' => k r M' ho H locs ls' hP hS h')
theorem gz_istore (C : Ok x w cc nL own ret rm) {i : Nat} {v : Int32} (lv' : List (Nat × Value)) (d : decode cc pc = .ok (.istore i, 2)) (hn : i < nL) (hl : (i, Value.int v) :: lv.filter (fun q => !(q.1 == i) && !(q.1 + 1 == i && q.2.category == 2)) = lv') (k : G x w nL Qf o M lv' (pc + 2) st) : G x w nL Qf o M lv pc (.int v :: st) := fun r M' ho H locs ls hP hS h => lv_istore C.1 C.2.1 d h hn hl (fun ls' h' => k r M' ho H locs ls' hP hS h')
theorem gz_lstoren (C : Ok x w cc nL own ret rm) {i : Fin 4} {v : Int64} (lv' : List (Nat × Value)) (d : decode cc pc = .ok (.lstore_n i, 1)) (hn : (i : Nat) + 1 < nL) (hl : ((i : Nat), Value.long v) :: lv.filter (fun q => !(q.1 == (i : Nat)) && (!(q.1 == (i : Nat) + 1) && !(q.1 + 1 == (i : Nat) && q.2.category == 2))) = lv') (k : G x w nL Qf o M lv' (pc + 1) st) : G x w nL Qf o M lv pc (.long v :: st) := fun r M' ho H locs ls hP hS h => lv_lstore_n C.1 C.2.1 d rfl h hn hl (fun ls' h' => k r M' ho H locs ls' hP hS h')
theorem gz_lstore (C : Ok x w cc nL own ret rm) {i : Nat} {v : Int64} (lv' : List (Nat × Value)) (d : decode cc pc = .ok (.lstore i, 2)) (hn : i + 1 < nL) (hl : (i, Value.long v) :: lv.filter (fun q => !(q.1 == i) && (!(q.1 == i + 1) && !(q.1 + 1 == i && q.2.category == 2))) = lv') (k : G x w nL Qf o M lv' (pc + 2) st) : G x w nL Qf o M lv pc (.long v :: st) := fun r M' ho H locs ls hP hS h => lv_lstore C.1 C.2.1 d h hn hl (fun ls' h' => k r M' ho H locs ls' hP hS h')
theorem gz_iinc (C : Ok x w cc nL own ret rm) {i : Nat} {n : Int} {v v' : Int32} (j : Nat) (lv' : List (Nat × Value)) (hj : lv[j]? = some (i, .int v)) (d : decode cc pc = .ok (.iinc i n, 3)) (hv : v + Int32.ofInt n = v') (hn : i < nL) (hl : (i, Value.int v') :: lv.filter (fun q => !(q.1 == i) && !(q.1 + 1 == i && q.2.category == 2)) = lv') (k : G x w nL Qf o M lv' (pc + 3) st) : G x w nL Qf o M lv pc st := fun r M' ho H locs ls hP hS h => lv_iinc C.1 C.2.1 d h hj hv hn hl (fun ls' h' => k r M' ho H locs ls' hP hS h')
-- stack
theorem gz_dup (C : Ok x w cc nL own ret rm) {v : Value} (d : decode cc pc = .ok (.dup, 1)) (hv : v.category = 1) (k : G x w nL Qf o M lv (pc + 1) (v :: v :: st)) : G x w nL Qf o M lv pc (v :: st) := fun r M' ho H locs ls hP hS h => lv_dup C.1 C.2.1 d hv (k r M' ho H locs ls hP hS h)
theorem gz_dup2 (C : Ok x w cc nL own ret rm) {v u : Value} (d : decode cc pc = .ok (.dup2, 1)) (hv : v.category = 1) (hu : u.category = 1) (k : G x w nL Qf o M lv (pc + 1) (v :: u :: v :: u :: st)) : G x w nL Qf o M lv pc (v :: u :: st) := fun r M' ho H locs ls hP hS h => lv_dup2_11 C.1 C.2.1 d hv hu (k r M' ho H locs ls hP hS h)
-- arithmetic
theorem gz_iadd (C : Ok x w cc nL own ret rm) {u v : Int32} (d : decode cc pc = .ok (.iadd, 1)) (k : G x w nL Qf o M lv (pc + 1) (.int (u + v) :: st)) : G x w nL Qf o M lv pc (.int v :: .int u :: st) := fun r M' ho H locs ls hP hS h => lv_iadd C.1 C.2.1 d (k r M' ho H locs ls hP hS h)
theorem gz_isub (C : Ok x w cc nL own ret rm) {u v : Int32} (d : decode cc pc = .ok (.isub, 1)) (k : G x w nL Qf o M lv (pc + 1) (.int (u - v) :: st)) : G x w nL Qf o M lv pc (.int v :: .int u :: st) := fun r M' ho H locs ls hP hS h => lv_isub C.1 C.2.1 d (k r M' ho H locs ls hP hS h)
theorem gz_imul (C : Ok x w cc nL own ret rm) {u v : Int32} (d : decode cc pc = .ok (.imul, 1)) (k : G x w nL Qf o M lv (pc + 1) (.int (u * v) :: st)) : G x w nL Qf o M lv pc (.int v :: .int u :: st) := fun r M' ho H locs ls hP hS h => lv_imul C.1 C.2.1 d (k r M' ho H locs ls hP hS h)
theorem gz_iand (C : Ok x w cc nL own ret rm) {u v : Int32} (d : decode cc pc = .ok (.iand, 1)) (k : G x w nL Qf o M lv (pc + 1) (.int (u &&& v) :: st)) : G x w nL Qf o M lv pc (.int v :: .int u :: st) := fun r M' ho H locs ls hP hS h => lv_iand C.1 C.2.1 d (k r M' ho H locs ls hP hS h)
theorem gz_ior (C : Ok x w cc nL own ret rm) {u v : Int32} (d : decode cc pc = .ok (.ior, 1)) (k : G x w nL Qf o M lv (pc + 1) (.int (u ||| v) :: st)) : G x w nL Qf o M lv pc (.int v :: .int u :: st) := fun r M' ho H locs ls hP hS h => lv_ior C.1 C.2.1 d (k r M' ho H locs ls hP hS h)
theorem gz_ixor (C : Ok x w cc nL own ret rm) {u v : Int32} (d : decode cc pc = .ok (.ixor, 1)) (k : G x w nL Qf o M lv (pc + 1) (.int (u ^^^ v) :: st)) : G x w nL Qf o M lv pc (.int v :: .int u :: st) := fun r M' ho H locs ls hP hS h => lv_ixor C.1 C.2.1 d (k r M' ho H locs ls hP hS h)
theorem gz_ishl (C : Ok x w cc nL own ret rm) {u v : Int32} (d : decode cc pc = .ok (.ishl, 1)) (k : G x w nL Qf o M lv (pc + 1) (.int (u <<< (v &&& 31)) :: st)) : G x w nL Qf o M lv pc (.int v :: .int u :: st) := fun r M' ho H locs ls hP hS h => lv_ishl C.1 C.2.1 d (k r M' ho H locs ls hP hS h)
theorem gz_ishr (C : Ok x w cc nL own ret rm) {u v : Int32} (d : decode cc pc = .ok (.ishr, 1)) (k : G x w nL Qf o M lv (pc + 1) (.int (u >>> (v &&& 31)) :: st)) : G x w nL Qf o M lv pc (.int v :: .int u :: st) := fun r M' ho H locs ls hP hS h => lv_ishr C.1 C.2.1 d (k r M' ho H locs ls hP hS h)
theorem gz_iushr (C : Ok x w cc nL own ret rm) {u v : Int32} (d : decode cc pc = .ok (.iushr, 1)) (k : G x w nL Qf o M lv (pc + 1) (.int ((u.toUInt32 >>> (v.toUInt32 &&& Int32.toUInt32 31)).toInt32) :: st)) : G x w nL Qf o M lv pc (.int v :: .int u :: st) := fun r M' ho H locs ls hP hS h => lv_iushr C.1 C.2.1 d rfl (k r M' ho H locs ls hP hS h)
theorem gz_ladd (C : Ok x w cc nL own ret rm) {u v : Int64} (d : decode cc pc = .ok (.ladd, 1)) (k : G x w nL Qf o M lv (pc + 1) (.long (u + v) :: st)) : G x w nL Qf o M lv pc (.long v :: .long u :: st) := fun r M' ho H locs ls hP hS h => lv_ladd C.1 C.2.1 d (k r M' ho H locs ls hP hS h)
theorem gz_lsub (C : Ok x w cc nL own ret rm) {u v : Int64} (d : decode cc pc = .ok (.lsub, 1)) (k : G x w nL Qf o M lv (pc + 1) (.long (u - v) :: st)) : G x w nL Qf o M lv pc (.long v :: .long u :: st) := fun r M' ho H locs ls hP hS h => lv_lsub C.1 C.2.1 d (k r M' ho H locs ls hP hS h)
theorem gz_lmul (C : Ok x w cc nL own ret rm) {u v : Int64} (d : decode cc pc = .ok (.lmul, 1)) (k : G x w nL Qf o M lv (pc + 1) (.long (u * v) :: st)) : G x w nL Qf o M lv pc (.long v :: .long u :: st) := fun r M' ho H locs ls hP hS h => lv_lmul C.1 C.2.1 d (k r M' ho H locs ls hP hS h)
theorem gz_land (C : Ok x w cc nL own ret rm) {u v : Int64} (d : decode cc pc = .ok (.land, 1)) (k : G x w nL Qf o M lv (pc + 1) (.long (u &&& v) :: st)) : G x w nL Qf o M lv pc (.long v :: .long u :: st) := fun r M' ho H locs ls hP hS h => lv_land C.1 C.2.1 d (k r M' ho H locs ls hP hS h)
theorem gz_i2l (C : Ok x w cc nL own ret rm) {u : Int32} (d : decode cc pc = .ok (.i2l, 1)) (k : G x w nL Qf o M lv (pc + 1) (.long u.toInt64 :: st)) : G x w nL Qf o M lv pc (.int u :: st) := fun r M' ho H locs ls hP hS h => lv_i2l C.1 C.2.1 d rfl (k r M' ho H locs ls hP hS h)
theorem gz_l2i (C : Ok x w cc nL own ret rm) {u : Int64} (d : decode cc pc = .ok (.l2i, 1)) (k : G x w nL Qf o M lv (pc + 1) (.int u.toInt32 :: st)) : G x w nL Qf o M lv pc (.long u :: st) := fun r M' ho H locs ls hP hS h => lv_l2i C.1 C.2.1 d rfl (k r M' ho H locs ls hP hS h)
-- divisions: by a constant (hv), or by a number that the spec looks at
theorem gz_idivc (C : Ok x w cc nL own ret rm) {u v : Int32} (hv : ¬ v = 0) (d : decode cc pc = .ok (.idiv, 1)) (k : G x w nL Qf o M lv (pc + 1) (.int (u / v) :: st)) : G x w nL Qf o M lv pc (.int v :: .int u :: st) := fun r M' ho H locs ls hP hS h => lv_idiv C.1 C.2.1 d hv (k r M' ho H locs ls hP hS h)
theorem gz_iremc (C : Ok x w cc nL own ret rm) {u v : Int32} (hv : ¬ v = 0) (d : decode cc pc = .ok (.irem, 1)) (k : G x w nL Qf o M lv (pc + 1) (.int (u - u / v * v) :: st)) : G x w nL Qf o M lv pc (.int v :: .int u :: st) := fun r M' ho H locs ls hP hS h => lv_irem C.1 C.2.1 d hv (k r M' ho H locs ls hP hS h)
theorem gz_ldivc (C : Ok x w cc nL own ret rm) {u v : Int64} (hv : ¬ v = 0) (d : decode cc pc = .ok (.ldiv, 1)) (k : G x w nL Qf o M lv (pc + 1) (.long (u / v) :: st)) : G x w nL Qf o M lv pc (.long v :: .long u :: st) := fun r M' ho H locs ls hP hS h => lv_ldiv C.1 C.2.1 d hv (k r M' ho H locs ls hP hS h)
theorem gz_lremc (C : Ok x w cc nL own ret rm) {u v : Int64} (hv : ¬ v = 0) (d : decode cc pc = .ok (.lrem, 1)) (k : G x w nL Qf o M lv (pc + 1) (.long (u - u / v * v) :: st)) : G x w nL Qf o M lv pc (.long v :: .long u :: st) := fun r M' ho H locs ls hP hS h => lv_lrem C.1 C.2.1 d hv (k r M' ho H locs ls hP hS h)
theorem gz_nzI {v : Int32} (k : ¬ v = 0 → G x w nL Qf o M lv pc st) : G x w nL Qf (nzI v o) M lv pc st := by
  unfold nzI; by_cases q : v = 0
  · rw [if_pos q]; exact gz_none
  · rw [if_neg q]; exact k q
theorem gz_nzJ {v : Int64} (k : ¬ v = 0 → G x w nL Qf o M lv pc st) : G x w nL Qf (nzJ v o) M lv pc st := by
  unfold nzJ; by_cases q : v = 0
  · rw [if_pos q]; exact gz_none
  · rw [if_neg q]; exact k q
theorem gz_zb {v : Int32} (k : v = 0 ∨ v = 1 → G x w nL Qf o M lv pc st) : G x w nL Qf (zb v o) M lv pc st := by
  unfold zb; by_cases q : v = 0 ∨ v = 1
  · rw [if_pos q]; exact k q
  · rw [if_neg q]; exact gz_none
-- branches: the spec's if is over =, < alone; the first branch is where it holds
theorem gz_goto (C : Ok x w cc nL own ret rm) {off : Int} (tgt : Nat) (d : decode cc pc = .ok (.goto off, 3)) (ht : (pc : Int) + off = (tgt : Int)) (k : G x w nL Qf o M lv tgt st) : G x w nL Qf o M lv pc st := fun r M' ho H locs ls hP hS h => lv_goto C.1 C.2.1 d ht (k r M' ho H locs ls hP hS h)
theorem gz_ifeq (C : Ok x w cc nL own ret rm) {u : Int32} {off : Int} (tgt : Nat) (d : decode cc pc = .ok (.ifCond .eq off, 3)) (ht : (pc : Int) + off = (tgt : Int)) (ka : G x w nL Qf a M lv tgt st) (kb : G x w nL Qf b M lv (pc + 3) st) : G x w nL Qf (if u = 0 then a else b) M lv pc (.int u :: st) := gz_if (fun q r M' ho H locs ls hP hS h => lv_if_eq C.1 C.2.1 d ht (fun _ => ka r M' ho H locs ls hP hS h) (fun q' => absurd q q')) (fun q r M' ho H locs ls hP hS h => lv_if_eq C.1 C.2.1 d ht (fun q' => absurd q' q) (fun _ => kb r M' ho H locs ls hP hS h))
theorem gz_ifne (C : Ok x w cc nL own ret rm) {u : Int32} {off : Int} (tgt : Nat) (d : decode cc pc = .ok (.ifCond .ne off, 3)) (ht : (pc : Int) + off = (tgt : Int)) (ka : G x w nL Qf a M lv (pc + 3) st) (kb : G x w nL Qf b M lv tgt st) : G x w nL Qf (if u = 0 then a else b) M lv pc (.int u :: st) := gz_if (fun q r M' ho H locs ls hP hS h => lv_if_ne C.1 C.2.1 d ht (fun q' => absurd q q') (fun _ => ka r M' ho H locs ls hP hS h)) (fun q r M' ho H locs ls hP hS h => lv_if_ne C.1 C.2.1 d ht (fun _ => kb r M' ho H locs ls hP hS h) (fun q' => absurd q' q))
theorem gz_iflt (C : Ok x w cc nL own ret rm) {u : Int32} {off : Int} (tgt : Nat) (d : decode cc pc = .ok (.ifCond .lt off, 3)) (ht : (pc : Int) + off = (tgt : Int)) (ka : G x w nL Qf a M lv tgt st) (kb : G x w nL Qf b M lv (pc + 3) st) : G x w nL Qf (if u < 0 then a else b) M lv pc (.int u :: st) := gz_if (fun q r M' ho H locs ls hP hS h => lv_if_lt C.1 C.2.1 d ht (fun _ => ka r M' ho H locs ls hP hS h) (fun q' => absurd q q')) (fun q r M' ho H locs ls hP hS h => lv_if_lt C.1 C.2.1 d ht (fun q' => absurd q' q) (fun _ => kb r M' ho H locs ls hP hS h))
theorem gz_ifge (C : Ok x w cc nL own ret rm) {u : Int32} {off : Int} (tgt : Nat) (d : decode cc pc = .ok (.ifCond .ge off, 3)) (ht : (pc : Int) + off = (tgt : Int)) (ka : G x w nL Qf a M lv (pc + 3) st) (kb : G x w nL Qf b M lv tgt st) : G x w nL Qf (if u < 0 then a else b) M lv pc (.int u :: st) := gz_if (fun q r M' ho H locs ls hP hS h => lv_if_ge C.1 C.2.1 d ht (fun q' => absurd q (Int32.not_lt.mpr q')) (fun _ => ka r M' ho H locs ls hP hS h)) (fun q r M' ho H locs ls hP hS h => lv_if_ge C.1 C.2.1 d ht (fun _ => kb r M' ho H locs ls hP hS h) (fun q' => absurd (Int32.not_lt.mp q) q'))
theorem gz_ifgt (C : Ok x w cc nL own ret rm) {u : Int32} {off : Int} (tgt : Nat) (d : decode cc pc = .ok (.ifCond .gt off, 3)) (ht : (pc : Int) + off = (tgt : Int)) (ka : G x w nL Qf a M lv tgt st) (kb : G x w nL Qf b M lv (pc + 3) st) : G x w nL Qf (if 0 < u then a else b) M lv pc (.int u :: st) := gz_if (fun q r M' ho H locs ls hP hS h => lv_if_gt C.1 C.2.1 d ht (fun _ => ka r M' ho H locs ls hP hS h) (fun q' => absurd q q')) (fun q r M' ho H locs ls hP hS h => lv_if_gt C.1 C.2.1 d ht (fun q' => absurd q' q) (fun _ => kb r M' ho H locs ls hP hS h))
theorem gz_ifle (C : Ok x w cc nL own ret rm) {u : Int32} {off : Int} (tgt : Nat) (d : decode cc pc = .ok (.ifCond .le off, 3)) (ht : (pc : Int) + off = (tgt : Int)) (ka : G x w nL Qf a M lv (pc + 3) st) (kb : G x w nL Qf b M lv tgt st) : G x w nL Qf (if 0 < u then a else b) M lv pc (.int u :: st) := gz_if (fun q r M' ho H locs ls hP hS h => lv_if_le C.1 C.2.1 d ht (fun q' => absurd q (Int32.not_lt.mpr q')) (fun _ => ka r M' ho H locs ls hP hS h)) (fun q r M' ho H locs ls hP hS h => lv_if_le C.1 C.2.1 d ht (fun _ => kb r M' ho H locs ls hP hS h) (fun q' => absurd (Int32.not_lt.mp q) q'))
theorem gz_icmpeq (C : Ok x w cc nL own ret rm) {u v : Int32} {off : Int} (tgt : Nat) (d : decode cc pc = .ok (.if_icmp .eq off, 3)) (ht : (pc : Int) + off = (tgt : Int)) (ka : G x w nL Qf a M lv tgt st) (kb : G x w nL Qf b M lv (pc + 3) st) : G x w nL Qf (if u = v then a else b) M lv pc (.int v :: .int u :: st) := gz_if (fun q r M' ho H locs ls hP hS h => lv_icmp_eq C.1 C.2.1 d ht (fun _ => ka r M' ho H locs ls hP hS h) (fun q' => absurd q q')) (fun q r M' ho H locs ls hP hS h => lv_icmp_eq C.1 C.2.1 d ht (fun q' => absurd q' q) (fun _ => kb r M' ho H locs ls hP hS h))
theorem gz_icmpne (C : Ok x w cc nL own ret rm) {u v : Int32} {off : Int} (tgt : Nat) (d : decode cc pc = .ok (.if_icmp .ne off, 3)) (ht : (pc : Int) + off = (tgt : Int)) (ka : G x w nL Qf a M lv (pc + 3) st) (kb : G x w nL Qf b M lv tgt st) : G x w nL Qf (if u = v then a else b) M lv pc (.int v :: .int u :: st) := gz_if (fun q r M' ho H locs ls hP hS h => lv_icmp_ne C.1 C.2.1 d ht (fun q' => absurd q q') (fun _ => ka r M' ho H locs ls hP hS h)) (fun q r M' ho H locs ls hP hS h => lv_icmp_ne C.1 C.2.1 d ht (fun _ => kb r M' ho H locs ls hP hS h) (fun q' => absurd q' q))
theorem gz_icmplt (C : Ok x w cc nL own ret rm) {u v : Int32} {off : Int} (tgt : Nat) (d : decode cc pc = .ok (.if_icmp .lt off, 3)) (ht : (pc : Int) + off = (tgt : Int)) (ka : G x w nL Qf a M lv tgt st) (kb : G x w nL Qf b M lv (pc + 3) st) : G x w nL Qf (if u < v then a else b) M lv pc (.int v :: .int u :: st) := gz_if (fun q r M' ho H locs ls hP hS h => lv_icmp_lt C.1 C.2.1 d ht (fun _ => ka r M' ho H locs ls hP hS h) (fun q' => absurd q q')) (fun q r M' ho H locs ls hP hS h => lv_icmp_lt C.1 C.2.1 d ht (fun q' => absurd q' q) (fun _ => kb r M' ho H locs ls hP hS h))
theorem gz_icmpge (C : Ok x w cc nL own ret rm) {u v : Int32} {off : Int} (tgt : Nat) (d : decode cc pc = .ok (.if_icmp .ge off, 3)) (ht : (pc : Int) + off = (tgt : Int)) (ka : G x w nL Qf a M lv (pc + 3) st) (kb : G x w nL Qf b M lv tgt st) : G x w nL Qf (if u < v then a else b) M lv pc (.int v :: .int u :: st) := gz_if (fun q r M' ho H locs ls hP hS h => lv_icmp_ge C.1 C.2.1 d ht (fun q' => absurd q (Int32.not_lt.mpr q')) (fun _ => ka r M' ho H locs ls hP hS h)) (fun q r M' ho H locs ls hP hS h => lv_icmp_ge C.1 C.2.1 d ht (fun _ => kb r M' ho H locs ls hP hS h) (fun q' => absurd (Int32.not_lt.mp q) q'))
theorem gz_icmpgt (C : Ok x w cc nL own ret rm) {u v : Int32} {off : Int} (tgt : Nat) (d : decode cc pc = .ok (.if_icmp .gt off, 3)) (ht : (pc : Int) + off = (tgt : Int)) (ka : G x w nL Qf a M lv tgt st) (kb : G x w nL Qf b M lv (pc + 3) st) : G x w nL Qf (if v < u then a else b) M lv pc (.int v :: .int u :: st) := gz_if (fun q r M' ho H locs ls hP hS h => lv_icmp_gt C.1 C.2.1 d ht (fun _ => ka r M' ho H locs ls hP hS h) (fun q' => absurd q q')) (fun q r M' ho H locs ls hP hS h => lv_icmp_gt C.1 C.2.1 d ht (fun q' => absurd q' q) (fun _ => kb r M' ho H locs ls hP hS h))
theorem gz_icmple (C : Ok x w cc nL own ret rm) {u v : Int32} {off : Int} (tgt : Nat) (d : decode cc pc = .ok (.if_icmp .le off, 3)) (ht : (pc : Int) + off = (tgt : Int)) (ka : G x w nL Qf a M lv (pc + 3) st) (kb : G x w nL Qf b M lv tgt st) : G x w nL Qf (if v < u then a else b) M lv pc (.int v :: .int u :: st) := gz_if (fun q r M' ho H locs ls hP hS h => lv_icmp_le C.1 C.2.1 d ht (fun q' => absurd q (Int32.not_lt.mpr q')) (fun _ => ka r M' ho H locs ls hP hS h)) (fun q r M' ho H locs ls hP hS h => lv_icmp_le C.1 C.2.1 d ht (fun _ => kb r M' ho H locs ls hP hS h) (fun q' => absurd (Int32.not_lt.mp q) q'))
/-- lcmp: the row behind it (an if) takes one of three ways -/
theorem gz_lcmp (C : Ok x w cc nL own ret rm) {u v : Int64} (d : decode cc pc = .ok (.lcmp, 1)) (k : G x w nL Qf o M lv (pc + 1) (.int (lg_cmp u v) :: st)) : G x w nL Qf o M lv pc (.long v :: .long u :: st) := fun r M' ho H locs ls hP hS h => W.lcmp C.1 C.2.1 d (k r M' ho H locs ls hP hS h)
theorem gz_cnd {c c' : Prop} [Decidable c] [Decidable c'] (h : c ↔ c') (k : G x w nL Qf (if c' then a else b) M lv pc st) : G x w nL Qf (if c then a else b) M lv pc st := by
  by_cases q : c
  · rw [if_pos q]; rwa [if_pos (h.mp q)] at k
  · rw [if_neg q]; rwa [if_neg (fun z => q (h.mpr z))] at k
theorem lc_lt (u v : Int64) : u < v ↔ lg_cmp u v < 0 := by
  unfold lg_cmp
  simp only [gt_iff_lt, Int64.lt_iff_toInt_lt, ← Int64.toInt_inj]
  repeat' split
  all_goals first
    | (constructor <;> intro h <;> first | omega | (exact absurd h (by decide)) | decide)
theorem lc_gt (u v : Int64) : v < u ↔ 0 < lg_cmp u v := by
  unfold lg_cmp
  simp only [gt_iff_lt, Int64.lt_iff_toInt_lt, ← Int64.toInt_inj]
  repeat' split
  all_goals first
    | (constructor <;> intro h <;> first | omega | (exact absurd h (by decide)) | decide)
theorem lc_eq (u v : Int64) : u = v ↔ lg_cmp u v = 0 := by
  unfold lg_cmp
  simp only [gt_iff_lt, Int64.lt_iff_toInt_lt, ← Int64.toInt_inj]
  repeat' split
  all_goals first
    | (constructor <;> intro h <;> first | omega | (exact absurd h (by decide)) | decide)
-- switches
theorem gz_tabOut (C : Ok x w cc nL own ret rm) {df lo hi : Int} {offs : Array Int} {len : Nat} {u : Int32} (tgt : Nat) (d : decode cc pc = .ok (.tableswitch df lo hi offs, len)) (hu : u.toInt < lo ∨ hi < u.toInt) (ht : (pc : Int) + df = (tgt : Int)) (k : G x w nL Qf o M lv tgt st) : G x w nL Qf o M lv pc (.int u :: st) := fun r M' ho H locs ls hP hS h => lv_tableOut C.1 C.2.1 d hu ht (k r M' ho H locs ls hP hS h)
theorem gz_tabIn (C : Ok x w cc nL own ret rm) {df lo hi : Int} {offs : Array Int} {len : Nat} {u : Int32} (v : Int32) {off : Int} (tgt : Nat) (d : decode cc pc = .ok (.tableswitch df lo hi offs, len)) (hu : u = v) (h1 : ¬ v.toInt < lo) (h2 : ¬ hi < v.toInt) (ho : offs[(v.toInt - lo).toNat]? = some off) (ht : (pc : Int) + off = (tgt : Int)) (k : G x w nL Qf o M lv tgt st) : G x w nL Qf o M lv pc (.int u :: st) := by
  subst hu
  exact fun r M' hr H locs ls hP hS h => lv_tableIn C.1 C.2.1 d h1 h2 ho ht (k r M' hr H locs ls hP hS h)
theorem gz_look (C : Ok x w cc nL own ret rm) {df : Int} {ps : Array (Int × Int)} {len : Nat} {u : Int32} {off : Int} (tgt : Nat) (d : decode cc pc = .ok (.lookupswitch df ps, len)) (hp : (ps.toList.zip (ps.toList.drop 1)).all (fun (a, next) => a.1 < next.1) = true) (ho : Op.lookupswitch.offset ps.toList df u.toInt = off) (ht : (pc : Int) + off = (tgt : Int)) (k : G x w nL Qf o M lv tgt st) : G x w nL Qf o M lv pc (.int u :: st) := fun r M' hr H locs ls hP hS h => lv_lookup C.1 C.2.1 d hp ho ht (k r M' hr H locs ls hP hS h)
-- fields
theorem cel_o {w : Wd} {M : Mm} {c : Nat} (h : kd c < 12) : cel w M c = .inr (kd c, (List.range (nf (kd c))).map (fval w M c)) := by
  have h1 : ¬ kd c = 12 := by omega
  have h2 : ¬ kd c = 13 := by omega
  simp only [cel, h1, h2, if_false]
theorem cel_i {w : Wd} {M : Mm} {c : Nat} (h : kd c = 12) : cel w M c = .inl (w.2.2.1, ln c, .inl (M.1 c)) := by simp only [cel, h, if_true]
theorem cel_j {w : Wd} {M : Mm} {c : Nat} (h : kd c = 13) : cel w M c = .inl (w.2.2.2, ln c, .inr (.inl (M.2 c))) := by simp only [cel, h]; simp only [show ¬ (13 = 12) by decide, if_false, if_true]
theorem fld {w : Wd} {M : Mm} {c k : Nat} (h : k < nf (kd c)) : ((List.range (nf (kd c))).map (fval w M c))[k]? = some (fval w M c k) := by rw [List.getElem?_map, List.getElem?_range h]; rfl
/-- what the tables say of the class of a kind -/
def Kn (ci : Nat) (C : String) (T : u_T) (N : Nat) (ty : Nat → FieldType) : Prop := vwCl[ci]? = some (C, T, N) ∧ (∀ q ∈ u_ws C T N, q ∈ zA) ∧ (∀ k, k < N → parseFieldDescriptor (T k).2.2.1 = some (ty k)) ∧ (∀ a, a < N → ∀ b, b < N → a ≠ b → (T a).2.1 ≠ (T b).2.1) ∧ nf ci = N ∧ ci < 12
theorem gz_get (C : Ok x w cc nL own ret rm) {Cn : String} {T : u_T} {N ci : Nat} {ty : Nat → FieldType} {n : Nat} (c k : Nat) (v : Value) (kn : Kn ci Cn T N ty) (hc : kd c = ci) (hl : Cond.fieldLink own n (T k).1 (T k).2.1 (T k).2.2.1 ∈ zA) (hk : k < N) (d : decode cc pc = .ok (.getfield n, 3)) (hv : fval w M c k = v) (kk : G x w nL Qf o M lv (pc + 3) (v :: st)) : G x w nL Qf o M lv pc (.ref (w.1 c) :: st) := by
  intro r M' ho H locs ls hP hS h
  subst hc; subst hv
  obtain ⟨k1, k2, k3, k4, k5, k6⟩ := kn
  exact va_get C.1 C.2.1 C.2.2.2.2.1 k2 C.2.2.2.1 C.2.2.2.2.2.1 hP c ((gw_at w M (kd_lt (by omega))).trans (by rw [cel_o k6])) k1 k hk (C.2.2.2.2.1 _ hl) (fun _ h9 => h9) (fld (by rw [k5]; exact hk)) d (kk r M' ho H locs ls hP hS h)
theorem fv_I {w : Wd} {M : Mm} {c k : Nat} (h : ft (kd c) k = 0) : fval w M c k = .int (gI M c k) := by simp [fval, h, gI]
theorem fv_J {w : Wd} {M : Mm} {c k : Nat} (h : ft (kd c) k = 1) : fval w M c k = .long (gJ M c k) := by simp [fval, h, gJ]
theorem fv_R {w : Wd} {M : Mm} {c k c' : Nat} (h : ft (kd c) k = 2) (h2 : rt c k = c') : fval w M c k = .ref (w.1 c') := by simp [fval, h, h2]
theorem gz_putI (C : Ok x w cc nL own ret rm) {Cn : String} {T : u_T} {N ci : Nat} {ty : Nat → FieldType} {n : Nat} {f : Mm → Option (α × Mm)} (c k : Nat) {v : Int32} (kn : Kn ci Cn T N ty) (hc : kd c = ci) (hl : Cond.fieldLink own n (T k).1 (T k).2.1 (T k).2.2.1 ∈ zA) (hk : k < N) (hft : ft (kd c) k = 0) (hfin : (T k).2.2.2 = false) {tv : FieldType} (htv : parseFieldDescriptor (T k).2.2.1 = some tv) (hn : narrow tv (.int v) = .int v) (hfit : fits tv (.int v) = true) (d : decode cc pc = .ok (.putfield n, 3)) (kk : ∀ M1, G x w nL Qf (f M1) M1 lv (pc + 3) st) : G x w nL Qf (bl (sI M c k v) f) M lv pc (.int v :: .ref (w.1 c) :: st) := by
  intro r M' ho H locs ls hP hS h
  subst hc
  obtain ⟨k1, k2, k3, k4, k5, k6⟩ := kn
  refine va_put C.1 C.2.1 C.2.2.2.2.1 k2 ty k3 k4 C.2.2.2.1 C.2.2.2.2.2.1 hP (gw_D C.2.2.2.2.2.2.1 M) hS c ((gw_at w M (kd_lt (by omega))).trans (by rw [cel_o k6])) k1 k hk (C.2.2.2.2.1 _ hl) (fun _ h9 => h9) hfin htv hn hfit (by simp [k5, hk]) d (fun H1 locs1 hP1 _ hS1 => ?_)
  rw [gw_putI k6 hft] at hP1
  exact kk _ r M' ho H1 locs1 ls hP1 hS1 h
theorem gz_putJ (C : Ok x w cc nL own ret rm) {Cn : String} {T : u_T} {N ci : Nat} {ty : Nat → FieldType} {n : Nat} {f : Mm → Option (α × Mm)} (c k : Nat) {v : Int64} (kn : Kn ci Cn T N ty) (hc : kd c = ci) (hl : Cond.fieldLink own n (T k).1 (T k).2.1 (T k).2.2.1 ∈ zA) (hk : k < N) (hft : ft (kd c) k = 1) (hfin : (T k).2.2.2 = false) {tv : FieldType} (htv : parseFieldDescriptor (T k).2.2.1 = some tv) (hn : narrow tv (.long v) = .long v) (hfit : fits tv (.long v) = true) (d : decode cc pc = .ok (.putfield n, 3)) (kk : ∀ M1, G x w nL Qf (f M1) M1 lv (pc + 3) st) : G x w nL Qf (bl (sJ M c k v) f) M lv pc (.long v :: .ref (w.1 c) :: st) := by
  intro r M' ho H locs ls hP hS h
  subst hc
  obtain ⟨k1, k2, k3, k4, k5, k6⟩ := kn
  refine va_put C.1 C.2.1 C.2.2.2.2.1 k2 ty k3 k4 C.2.2.2.1 C.2.2.2.2.2.1 hP (gw_D C.2.2.2.2.2.2.1 M) hS c ((gw_at w M (kd_lt (by omega))).trans (by rw [cel_o k6])) k1 k hk (C.2.2.2.2.1 _ hl) (fun _ h9 => h9) hfin htv hn hfit (by simp [k5, hk]) d (fun H1 locs1 hP1 _ hS1 => ?_)
  rw [gw_putJ k6 hft] at hP1
  exact kk _ r M' ho H1 locs1 ls hP1 hS1 h
theorem nrw_z {v : Int32} (h : v = 0 ∨ v = 1) : narrow .boolean (.int v) = .int v := by rcases h with rfl | rfl <;> decide
-- rows (arrays)
theorem in_of {i : Int32} {n : Nat} (h : 0 ≤ i.toInt ∧ i.toInt < n) : vp_in i n := vp_in_iff.mpr h
theorem gz_iald (C : Ok x w cc nL own ret rm) {f : Int32 → Option (α × Mm)} {i : Int32} {c : Nat} (hc : kd c = 12) (d : decode cc pc = .ok (.iaload, 1)) (kk : ∀ y, G x w nL Qf (f y) M lv (pc + 1) (.int y :: st)) : G x w nL Qf (rdI M c i f) M lv pc (.int i :: .ref (w.1 c) :: st) := by
  unfold rdI
  refine gz_if (fun q r M' ho H locs ls hP hS h => ?_) (fun _ => gz_none)
  exact va_iald (f := M.1 c) C.1 C.2.1 C.2.2.2.2.2.1 hP c 0 ((gw_at w M (kd_lt (by omega))).trans (by rw [cel_i hc])) rfl (in_of q) d (kk _ r M' ho H locs ls hP hS h)
theorem gz_lald (C : Ok x w cc nL own ret rm) {f : Int64 → Option (α × Mm)} {i : Int32} {c : Nat} (hc : kd c = 13) (d : decode cc pc = .ok (.laload, 1)) (kk : ∀ y, G x w nL Qf (f y) M lv (pc + 1) (.long y :: st)) : G x w nL Qf (rdJ M c i f) M lv pc (.int i :: .ref (w.1 c) :: st) := by
  unfold rdJ
  refine gz_if (fun q r M' ho H locs ls hP hS h => ?_) (fun _ => gz_none)
  exact va_lald (f := M.2 c) C.1 C.2.1 C.2.2.2.2.2.1 hP c 1 ((gw_at w M (kd_lt (by omega))).trans (by rw [cel_j hc])) rfl (in_of q) d (kk _ r M' ho H locs ls hP hS h)
theorem gz_iast (C : Ok x w cc nL own ret rm) {f : Mm → Option (α × Mm)} {i v : Int32} {c : Nat} (hc : kd c = 12) (d : decode cc pc = .ok (.iastore, 1)) (kk : ∀ M1, G x w nL Qf (f M1) M1 lv (pc + 1) st) : G x w nL Qf (wrI M c i v f) M lv pc (.int v :: .int i :: .ref (w.1 c) :: st) := by
  unfold wrI
  refine gz_if (fun q r M' ho H locs ls hP hS h => ?_) (fun _ => gz_none)
  refine va_iast C.1 C.2.1 C.2.2.2.2.2.1 hP (gw_D C.2.2.2.2.2.2.1 M) hS c 0 ((gw_at w M (kd_lt (by omega))).trans (by rw [cel_i hc])) rfl (in_of q) d (fun H1 locs1 hP1 _ hS1 => ?_)
  rw [gw_arI hc] at hP1
  exact kk _ r M' ho H1 locs1 ls hP1 hS1 h
theorem gz_last (C : Ok x w cc nL own ret rm) {f : Mm → Option (α × Mm)} {i : Int32} {v : Int64} {c : Nat} (hc : kd c = 13) (d : decode cc pc = .ok (.lastore, 1)) (kk : ∀ M1, G x w nL Qf (f M1) M1 lv (pc + 1) st) : G x w nL Qf (wrJ M c i v f) M lv pc (.long v :: .int i :: .ref (w.1 c) :: st) := by
  unfold wrJ
  refine gz_if (fun q r M' ho H locs ls hP hS h => ?_) (fun _ => gz_none)
  refine va_last C.1 C.2.1 C.2.2.2.2.2.1 hP (gw_D C.2.2.2.2.2.2.1 M) hS c 1 ((gw_at w M (kd_lt (by omega))).trans (by rw [cel_j hc])) rfl (in_of q) d (fun H1 locs1 hP1 _ hS1 => ?_)
  rw [gw_arJ hc] at hP1
  exact kk _ r M' ho H1 locs1 ls hP1 hS1 h
theorem gz_alenI (C : Ok x w cc nL own ret rm) {c : Nat} {v : Int32} (hc : kd c = 12) (hv : nI (ln c) = v) (d : decode cc pc = .ok (.arraylength, 1)) (kk : G x w nL Qf o M lv (pc + 1) (.int v :: st)) : G x w nL Qf o M lv pc (.ref (w.1 c) :: st) := fun r M' ho H locs ls hP hS h => va_alen (x := (ln c, .inl (M.1 c))) C.1 C.2.1 C.2.2.2.2.2.1 hP c 0 ((gw_at w M (kd_lt (by omega))).trans (by rw [cel_i hc])) rfl hv d (kk r M' ho H locs ls hP hS h)
theorem gz_alenJ (C : Ok x w cc nL own ret rm) {c : Nat} {v : Int32} (hc : kd c = 13) (hv : nI (ln c) = v) (d : decode cc pc = .ok (.arraylength, 1)) (kk : G x w nL Qf o M lv (pc + 1) (.int v :: st)) : G x w nL Qf o M lv pc (.ref (w.1 c) :: st) := fun r M' ho H locs ls hP hS h => va_alen (x := (ln c, .inr (.inl (M.2 c)))) C.1 C.2.1 C.2.2.2.2.2.1 hP c 1 ((gw_at w M (kd_lt (by omega))).trans (by rw [cel_j hc])) rfl hv d (kk r M' ho H locs ls hP hS h)
end GR
