/-! WORDS: all good words of the tables in one list; each method's contract has its own code word and this list -/
def zA : List Cond := lw_tbl.filter goodWord
theorem zA_in : ∀ w ∈ zA, w ∈ lw_tbl := fun _ h => (List.mem_filter.mp h).1
theorem zA_mk {w : Cond} (h : w ∈ lw_tbl) (hg : goodWord w = true) : w ∈ zA := List.mem_filter.mpr ⟨h, hg⟩
theorem zA_t {w : Cond} (i : Nat) (h : tables_1[i]? = some w) (hg : goodWord w = true) : w ∈ zA := zA_mk (List.mem_append_right _ (List.mem_of_getElem? h)) hg
theorem zA_p {w : Cond} (h : w ∈ k2_sels lw_privs) (hg : goodWord w = true) : w ∈ zA := zA_mk (List.mem_append_left _ h) hg
theorem zA_good {c0 c1 : Cond} (h : c1 ∈ zA) : GoodIn (c0 :: zA) (c1 :: zA) := by
  intro w hw
  have hw' : w ∈ zA := by
    rcases List.mem_cons.mp hw with rfl | q
    · exact h
    · exact q
  exact ⟨List.mem_cons_of_mem _ hw', good_of_word (List.mem_filter.mp hw').2⟩
/-! MEMORY: ints by cell and place (a field, or an element of a row), longs by cell and place -/
abbrev Mm : Type := (Nat → Nat → Int32) × (Nat → Nat → Int64)
def gI (M : Mm) (c k : Nat) : Int32 := M.1 c k
def gJ (M : Mm) (c k : Nat) : Int64 := M.2 c k
def sI (M : Mm) (c k : Nat) (v : Int32) : Mm := (fun a b => if a = c ∧ b = k then v else M.1 a b, M.2)
def sJ (M : Mm) (c k : Nat) (v : Int64) : Mm := (M.1, fun a b => if a = c ∧ b = k then v else M.2 a b)
def kd (c : Nat) : Nat := kdL.getD c 99
def ln (c : Nat) : Nat := lnL.getD c 0
def rt (c k : Nat) : Nat := (rtL.getD c []).getD k 0
def ft (t k : Nat) : Nat := (ftL.getD t []).getD k 9
def nf (t : Nat) : Nat := nfL.getD t 0
/-- the geometry: addresses, the tables' numbers of the classes, the classes of the two kinds of rows -/
abbrev Wd : Type := (Nat → Nat) × va_G × ClassId × ClassId
def fval (w : Wd) (M : Mm) (c k : Nat) : Value := if ft (kd c) k = 0 then .int (M.1 c k) else if ft (kd c) k = 1 then .long (M.2 c k) else .ref (w.1 (rt c k))
def cel (w : Wd) (M : Mm) (c : Nat) : va_E := if kd c = 12 then .inl (w.2.2.1, ln c, .inl (M.1 c)) else if kd c = 13 then .inl (w.2.2.2, ln c, .inr (.inl (M.2 c))) else .inr (kd c, (List.range (nf (kd c))).map (fval w M c))
def gw (w : Wd) (M : Mm) : va_W := (List.range 52).map (fun c => (w.1 c, cel w M c))
def FA (w : Wd) : Nat → Prop := fun q => ∃ c, c < 52 ∧ q = w.1 c
def adok (w : Wd) : Prop := ∀ i j, i < 52 → j < 52 → w.1 i = w.1 j → i = j
def tysW (w : Wd) : List (ClassId × FieldType) := [(w.2.2.1, .int), (w.2.2.2, .long)]
def NWs (U : State) : Prop := ∀ q ∈ nwL, va_Nw (.methodLinkNest q.1 q.2.1 q.2.2.1 q.2.2.2) U
theorem kd_lt {c : Nat} (h : kd c < 99) : c < 52 := by
  unfold kd at h
  rcases Nat.lt_or_ge c 52 with q | q
  · exact q
  · rw [List.getD_eq_getElem?_getD, List.getElem?_eq_none (by exact q)] at h
    exact absurd h (by decide)
theorem gw_at (w : Wd) (M : Mm) {c : Nat} (hc : c < 52) : (gw w M)[c]? = some (w.1 c, cel w M c) := by
  unfold gw
  rw [List.getElem?_map, List.getElem?_range hc]
  rfl
theorem gw_len (w : Wd) (M : Mm) : (gw w M).length = 52 := by simp [gw]
theorem gw_D {w : Wd} (h : adok w) (M : Mm) : va_D (FA w) (gw w M) := by
  have key : ∀ (k : Nat) (q : Nat × va_E), (gw w M)[k]? = some q → k < 52 ∧ q.1 = w.1 k := by
    intro k q hk
    have hl : k < 52 := by have := (List.getElem?_eq_some_iff.mp hk).1; rwa [gw_len] at this
    rw [gw_at w M hl] at hk
    exact ⟨hl, by rw [← Option.some.inj hk]⟩
  refine ⟨fun i j p q hi hj hpq => ?_, fun k q hk => ?_⟩
  · obtain ⟨a1, a2⟩ := key i p hi
    obtain ⟨b1, b2⟩ := key j q hj
    exact h i j a1 b1 (by rw [← a2, ← b2, hpq])
  · obtain ⟨a1, a2⟩ := key k q hk
    exact ⟨k, a1, a2⟩
theorem gw_set {w : Wd} {M M' : Mm} {c : Nat} {e : va_E} (hc : c < 52) (he : cel w M' c = e) (ho : ∀ j, j ≠ c → cel w M' j = cel w M j) : (gw w M).set c (w.1 c, e) = gw w M' := by
  apply List.ext_getElem?
  intro j
  rw [List.getElem?_set]
  by_cases hj : j < 52
  · rw [gw_at w M' hj, gw_at w M hj, gw_len]
    by_cases h : c = j
    · subst h; simp [hc, he]
    · simp [h, ho j (fun q => h q.symm)]
  · rw [List.getElem?_eq_none (by rw [gw_len]; omega), List.getElem?_eq_none (by rw [gw_len]; omega)]
    have : ¬ c = j := by omega
    simp [this]
theorem cel_oI (w : Wd) (M : Mm) {c k j : Nat} (v : Int32) (h : j ≠ c) : cel w (sI M c k v) j = cel w M j := by
  have e : (sI M c k v).1 j = M.1 j := by funext b; simp [sI, h]
  have e2 : (sI M c k v).2 = M.2 := rfl
  have e3 : fval w (sI M c k v) j = fval w M j := by funext b; simp [fval, e, e2]
  simp only [cel, e, e2, e3]
theorem cel_oJ (w : Wd) (M : Mm) {c k j : Nat} (v : Int64) (h : j ≠ c) : cel w (sJ M c k v) j = cel w M j := by
  have e : (sJ M c k v).2 j = M.2 j := by funext b; simp [sJ, h]
  have e2 : (sJ M c k v).1 = M.1 := rfl
  have e3 : fval w (sJ M c k v) j = fval w M j := by funext b; simp [fval, e, e2]
  simp only [cel, e, e2, e3]
theorem map_set {f g : Nat → Value} {n k : Nat} {v : Value} (h : ∀ j, g j = if j = k then v else f j) : ((List.range n).map f).set k v = (List.range n).map g := by
  apply List.ext_getElem?
  intro j
  rw [List.getElem?_set]
  simp only [List.getElem?_map, List.length_map, List.length_range]
  by_cases hj : j < n
  · rw [List.getElem?_range hj]
    by_cases e : k = j
    · subst e; simp [hj, h]
    · have : ¬ j = k := fun q => e q.symm
      simp [e, h, this]
  · rw [List.getElem?_eq_none (by simpa using hj)]
    by_cases e : k = j
    · subst e; simp [hj]
    · simp [e]
theorem gw_putI {w : Wd} {M : Mm} {c k : Nat} {v : Int32} (hk : kd c < 12) (hf : ft (kd c) k = 0) : (gw w M).set c (w.1 c, .inr (kd c, ((List.range (nf (kd c))).map (fval w M c)).set k (.int v))) = gw w (sI M c k v) := by
  refine gw_set (kd_lt (by omega)) ?_ (fun j hj => cel_oI w M v hj)
  have h1 : ¬ kd c = 12 := by omega
  have h2 : ¬ kd c = 13 := by omega
  simp only [cel, h1, h2, if_false]
  congr 2
  refine (map_set (fun j => ?_)).symm
  by_cases e : j = k
  · subst e; simp [fval, hf, sI]
  · simp [fval, sI, e]
theorem gw_putJ {w : Wd} {M : Mm} {c k : Nat} {v : Int64} (hk : kd c < 12) (hf : ft (kd c) k = 1) : (gw w M).set c (w.1 c, .inr (kd c, ((List.range (nf (kd c))).map (fval w M c)).set k (.long v))) = gw w (sJ M c k v) := by
  refine gw_set (kd_lt (by omega)) ?_ (fun j hj => cel_oJ w M v hj)
  have h1 : ¬ kd c = 12 := by omega
  have h2 : ¬ kd c = 13 := by omega
  simp only [cel, h1, h2, if_false]
  congr 2
  refine (map_set (fun j => ?_)).symm
  by_cases e : j = k
  · subst e; simp [fval, hf, sJ]
  · simp [fval, sJ, e]
theorem gw_arI {w : Wd} {M : Mm} {c k : Nat} {v : Int32} (hk : kd c = 12) : (gw w M).set c (w.1 c, .inl (w.2.2.1, ln c, .inl (upd (M.1 c) k v))) = gw w (sI M c k v) := by
  refine gw_set (kd_lt (by omega)) ?_ (fun j hj => cel_oI w M v hj)
  simp only [cel, hk, if_true]
  congr 4
  funext j
  simp [sI, upd]
theorem gw_arJ {w : Wd} {M : Mm} {c k : Nat} {v : Int64} (hk : kd c = 13) : (gw w M).set c (w.1 c, .inl (w.2.2.2, ln c, .inr (.inl (vp_updL (M.2 c) k v)))) = gw w (sJ M c k v) := by
  refine gw_set (kd_lt (by omega)) ?_ (fun j hj => cel_oJ w M v hj)
  have h1 : ¬ kd c = 12 := by omega
  simp only [cel, hk]
  simp only [show ¬ (13 = 12) by decide, if_false, if_true]
  congr 5
  funext j
  simp [sJ, vp_updL]
/-! the words of the spec language -/
def bd {α β : Type} (o : Option (α × Mm)) (k : α → Mm → Option β) : Option β := match o with | none => none | some p => k p.1 p.2
def bl {α β : Type} (v : α) (k : α → β) : β := k v
def jn {α β : Type} (k : α) (f : α → β) : β := f k
def ix (i : Int32) : Nat := i.toNatClampNeg
def inB (i : Int32) (n : Nat) : Prop := 0 ≤ i.toInt ∧ i.toInt < n
def rdI {β : Type} (M : Mm) (c : Nat) (i : Int32) (k : Int32 → Option β) : Option β := if 0 ≤ i.toInt ∧ i.toInt < ln c then k (gI M c (ix i)) else none
def rdJ {β : Type} (M : Mm) (c : Nat) (i : Int32) (k : Int64 → Option β) : Option β := if 0 ≤ i.toInt ∧ i.toInt < ln c then k (gJ M c (ix i)) else none
def wrI {β : Type} (M : Mm) (c : Nat) (i v : Int32) (k : Mm → Option β) : Option β := if 0 ≤ i.toInt ∧ i.toInt < ln c then k (sI M c (ix i) v) else none
def wrJ {β : Type} (M : Mm) (c : Nat) (i : Int32) (v : Int64) (k : Mm → Option β) : Option β := if 0 ≤ i.toInt ∧ i.toInt < ln c then k (sJ M c (ix i) v) else none
/-- a boolean is 0 or 1 -/
def zb {β : Type} (v : Int32) (k : Option β) : Option β := if v = 0 ∨ v = 1 then k else none
def nzI {β : Type} (v : Int32) (k : Option β) : Option β := if v = 0 then none else k
def nzJ {β : Type} (v : Int64) (k : Option β) : Option β := if v = 0 then none else k
def fu : Nat := 1000
/-! THE JUDGEMENT -/
abbrev Cx : Type := Program × Launch × Env × Room × State × MethodId × Array Value × List Frame × Method × Code
def cS (x : Cx) : State := x.2.2.2.2.1
def cM (x : Cx) : MethodId := x.2.2.2.2.2.1
def cB (x : Cx) : List Frame := x.2.2.2.2.2.2.2.1
def cAr (x : Cx) : Array Value := x.2.2.2.2.2.2.1
def Wx (x : Cx) (H : Heap) (locs : List Loc) (Q : State → Prop) (g : JFrame) : Prop := W x.1 x.2.1 x.2.2.1 x.2.2.2.1 (cS x) (cM x) (cAr x) (cB x) x.2.2.2.2.2.2.2.2.1 x.2.2.2.2.2.2.2.2.2 H locs 0 0 Q g
def Ok (x : Cx) (w : Wd) (cc : ByteArray) (nL : Nat) (own : String) (ret : Option FieldType) (rm : Room) : Prop :=
  x.1.tables.exec = Jvm.exec ∧ x.2.2.2.2.2.2.2.2.2.code = cc ∧ x.2.2.2.2.2.2.2.2.2.maxLocals = nL ∧ (cS x).vm.findClass own = some (cM x).cls ∧ (∀ q ∈ zA, q.before (cAr x) (cS x) = true) ∧ va_K w.2.1 vwCl (tysW w) (cS x) ∧ adok w ∧ NWs (cS x) ∧ x.2.2.2.2.2.2.2.2.1.sig.returnType = ret ∧ x.2.2.2.2.2.2.2.2.1.locks = false ∧ x.2.2.2.1 = rm ∧ rm.cells = 0 ∧ rm.slots = 0
def G {α : Type} (x : Cx) (w : Wd) (nL : Nat) (Qf : α → Mm → Array Value → State → Outcome → State → Prop) (o : Option (α × Mm)) (M : Mm) (lv : List (Nat × Value)) (pc : Nat) (st : List Value) : Prop :=
  ∀ (r : α) (M' : Mm), o = some (r, M') → ∀ (H : Heap) (locs : List Loc) (ls : Array Slot), va_P w.2.1 vwCl (gw w M) H → va_S (FA w) (cS x).heap H locs → lv_has ls nL lv → Wx x H locs (MQ (cB x) (Qf r M') (cAr x) (cS x) 0 0 (FA w)) (F0 (cM x) pc ls st)
def qI (w : Wd) (r : Int32) (M' : Mm) : Array Value → State → Outcome → State → Prop := va_Qi (fun (q : Int32) (_ : Unit) => q = r) (fun _ t => va_P w.2.1 vwCl (gw w M') t.heap) (FA w)
def qJ (w : Wd) (r : Int64) (M' : Mm) : Array Value → State → Outcome → State → Prop := va_Ql (fun (q : Int64) (_ : Unit) => q = r) (fun _ t => va_P w.2.1 vwCl (gw w M') t.heap) (FA w)
def qV (w : Wd) (_ : Unit) (M' : Mm) : Array Value → State → Outcome → State → Prop := va_Qv (fun (_ : Unit) => True) (fun _ t => va_P w.2.1 vwCl (gw w M') t.heap) (FA w)
def PU (w : Wd) (M : Mm) (U : State) : Prop := va_P w.2.1 vwCl (gw w M) U.heap ∧ va_K w.2.1 vwCl (tysW w) U ∧ adok w ∧ NWs U
/-- a method's contract: where its spec has an answer, it returns that answer and leaves that memory -/
def CT {α : Type} (l : Launch) (y : MethodName) (cc : ByteArray) (maxL : Nat) (ret : Option FieldType) (rm : Room) (w : Wd) (Qf : α → Mm → Array Value → State → Outcome → State → Prop) (av : List Value) (o : Option (α × Mm)) (M : Mm) : Prop :=
  ∀ (r : α) (M' : Mm), o = some (r, M') → Met l y (.code y cc maxL ret :: zA) rm (va_Pc av (PU w M)) (Qf r M') 0 0 (FA w)
theorem NWs.warm {s U : State} (hW : s.WarmedH U.vm) (h : NWs s) : NWs U := fun q hq => va_Nw.warmM hW (h q hq)
theorem ct_of {α : Type} {l : Launch} {y : MethodName} {cc : ByteArray} {maxL : Nat} {ret : Option FieldType} {rm : Room} {w : Wd} {Qf : α → Mm → Array Value → State → Outcome → State → Prop} {av : List Value} {o : Option (α × Mm)} {M : Mm} (own : String) (lv : List (Nat × Value)) (ho : y.cls = own) (hn : (lg_sl av).length ≤ maxL) (hy : plainName y.cls = true) (hlv : lv_args 0 av = lv) (hc : rm.cells = 0) (hs : rm.slots = 0)
    (h : ∀ x : Cx, Ok x w cc maxL own ret rm → G x w maxL Qf o M lv 0 []) : CT l y cc maxL ret rm w Qf av o M := by
  intro r M' hr
  refine Met.ofW (cc := cc) (maxL := maxL) (ret := ret) hy rfl ?_
  intro p e s m args below meth c s₁ B hml hv
  obtain ⟨rfl, hP, hK, hA, hN⟩ := hv
  have hts := atoms_spec (ws := (.code y cc maxL ret :: zA)) B.pre
  have hown : s.vm.findClass own = some m.cls := by rw [← ho]; exact findClass_of_methodNamed B.named
  have hl := lv_entry av (n := maxL) hn
  rw [hlv] at hl
  rw [lg_entry_eq]
  exact h (p, l, e, rm, s, m, av.toArray, below, meth, c) ⟨B.exec, B.bytes, hml, hown, fun q hq => hts q (List.mem_cons_of_mem _ hq), hK, hA, hN, B.returns, B.notSynchronized, rfl, hc, hs⟩ r M' hr s.heap [] _ hP va_S.rf hl
