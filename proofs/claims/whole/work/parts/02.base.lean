/-! base: one judgement for a place in a method, over a list of cells that lie side by side from one address on -/
abbrev lp_G : Type := Launch × Nat × (Nat → ClassId) × va_G
abbrev lp_M : Type := MethodName × ByteArray × Nat × Option FieldType
abbrev lp_O : Type := Room × (Array Value → State → Prop) × (List Frame → Array Value → State → State → Prop)
def lp_ws (sz : Nat) (cs : List va_E) : va_W := cs.mapIdx (fun k e => (sz + k, e))
theorem lp_ws_get (sz : Nat) (cs : List va_E) (k : Nat) : (lp_ws sz cs)[k]? = (cs[k]?).map (fun e => (sz + k, e)) := by
  simp [lp_ws]
theorem lp_ws_at {sz : Nat} {cs : List va_E} {k : Nat} {e : va_E} (h : cs[k]? = some e) : (lp_ws sz cs)[k]? = some (sz + k, e) := by
  rw [lp_ws_get, h]; rfl
theorem lp_ws_len (sz : Nat) (cs : List va_E) : (lp_ws sz cs).length = cs.length := by
  simp [lp_ws]
theorem lp_ws_set {sz : Nat} {cs : List va_E} {k : Nat} {e : va_E} : (lp_ws sz cs).set k (sz + k, e) = lp_ws sz (cs.set k e) := by
  apply List.ext_getElem?
  intro j
  rw [lp_ws_get, List.getElem?_set, List.getElem?_set, lp_ws_len, lp_ws_get]
  by_cases h : k = j
  · subst h
    by_cases h2 : k < cs.length
    · simp [h2]
    · simp [h2]
  · simp [h]
theorem lp_ws_app {sz : Nat} {cs : List va_E} {e : va_E} : lp_ws sz (cs ++ [e]) = lp_ws sz cs ++ [(sz + cs.length, e)] := by
  simp [lp_ws, List.mapIdx_append]
theorem lp_ws_D (sz : Nat) (cs : List va_E) : va_D (fun q => sz ≤ q) (lp_ws sz cs) := by
  refine ⟨fun i j p q hi hj h => ?_, fun k q hk => ?_⟩
  · rw [lp_ws_get] at hi hj
    obtain ⟨e1, -, rfl⟩ := Option.map_eq_some_iff.mp hi
    obtain ⟨e2, -, rfl⟩ := Option.map_eq_some_iff.mp hj
    have h : sz + i = sz + j := h
    omega
  · rw [lp_ws_get] at hk
    obtain ⟨e1, -, rfl⟩ := Option.map_eq_some_iff.mp hk
    exact Nat.le_add_right _ _
/-- what the tables say, at any state of the run -/
def lp_K (g : lp_G) (U : State) : Prop := va_K g.2.2.2 vwCl (lp_tys g.2.2.1) U ∧ (∀ q ∈ lp_nm, va_Nw (.methodLinkNest q.1 q.2.1 q.2.2.1 q.2.2.2) U) ∧ (∀ C ∈ lp_ao, va_AO C U) ∧ U.vm.findClass "[I" = some (g.2.2.1 0) ∧ ∃ kA, U.vm.classes[g.2.2.1 3]? = some kA ∧ kA.kind = .array (g.2.2.1 0) (.array .int)
theorem lp_K.warm {g : lp_G} {s U : State} (hW : s.WarmedH U.vm) (h : lp_K g s) : lp_K g U := by
  refine ⟨va_K.moved hW.alike h.1, fun q hq => va_Nw.warmM hW (h.2.1 q hq), fun C hC => va_AO.moved hW.alike (h.2.2.1 C hC), by rw [hW.alike.findClass]; exact h.2.2.2.1, ?_⟩
  obtain ⟨kA, h1, h2⟩ := h.2.2.2.2
  obtain ⟨k', hk', he⟩ := hW.alike.2.2 _ _ h1
  exact ⟨k', hk', by rw [he]; exact h2⟩
theorem lp_K.same {g : lp_G} {s U : State} (hv : s.vm = U.vm) (h : lp_K g s) : lp_K g U :=
  ⟨va_K.moved (by rw [hv]; exact Vm.Alike.refl _) h.1, fun q hq => va_Nw.same rfl hv (h.2.1 q hq), fun C hC => va_AO.moved (by rw [hv]; exact Vm.Alike.refl _) (h.2.2.1 C hC), by rw [← hv]; exact h.2.2.2.1, by rw [← hv]; exact h.2.2.2.2⟩
/-- the heap holds the cells, and none beyond them -/
def lp_Wo (g : lp_G) (cs : List va_E) (H : Heap) : Prop := va_P g.2.2.2 vwCl (lp_ws g.2.1 cs) H ∧ H.size = g.2.1 + cs.length
def lp_Cx (g : lp_G) (u : lp_M) (M : lp_O) (p : Program) (s : State) (m : MethodId) (args : Array Value) (meth : Method) (c : Code) : Prop :=
  p.tables.exec = Jvm.exec ∧ c.code = u.2.1 ∧ c.maxLocals = u.2.2.1 ∧ meth.sig.returnType = u.2.2.2 ∧ s.vm.findClass u.1.cls = some m.cls ∧ (∀ w ∈ lp_W, w.before args s = true) ∧ lp_K g s ∧ meth.locks = false ∧ (u.1.name = "<init>" → meth.name = "<init>") ∧ g.2.1 ≤ s.heap.size ∧ M.2.1 args s
def Ab (g : lp_G) (u : lp_M) (M : lp_O) (cells slots : Nat) (pc : Nat) (lv : List (Nat × Value)) (st : List Value) (cs : List va_E) : Prop :=
  ∀ (p : Program) (e : Env) (s : State) (m : MethodId) (args : Array Value) (below : List Frame) (meth : Method) (c : Code), lp_Cx g u M p s m args meth c →
  ∀ (ls : Array Slot) (H : Heap) (locs : List Loc), lv_has ls u.2.2.1 lv → lp_Wo g cs H → va_S (fun q => g.2.1 ≤ q) s.heap H locs →
  W p g.1 e M.1 s m args below meth c H locs cells slots (M.2.2 below args s) (F0 m pc ls st)
section LPA
variable {g : lp_G} {u : lp_M} {M : lp_O} {cells slots pc : Nat} {lv : List (Nat × Value)} {st : List Value} {cs : List va_E}
theorem ab_sub {lv' : List (Nat × Value)} (ks : List Nat) (h : lv_pick lv ks = lv') (kk : Ab g u M cells slots pc lv' st cs) : Ab g u M cells slots pc lv st cs :=
  fun p e s m args below meth c X ls H locs hl hw hS => kk p e s m args below meth c X ls H locs (lv_sub hl ks h) hw hS
theorem ab_pc {pc' : Nat} (h : pc = pc') (kk : Ab g u M cells slots pc' lv st cs) : Ab g u M cells slots pc lv st cs := h ▸ kk
theorem ab_widen {k n : Nat} (h1 : cells ≤ k) (h2 : slots ≤ n) (kk : Ab g u M k n pc lv st cs) : Ab g u M cells slots pc lv st cs :=
  fun p e s m args below meth c X ls H locs hl hw hS => W.widen h1 h2 (kk p e s m args below meth c X ls H locs hl hw hS)
theorem ab_iconst {n : Int} {v : Int32} (hd : decode u.2.1 pc = .ok (.iconst n, 1)) (hv : Int32.ofInt n = v) (kk : Ab g u M cells slots (pc + 1) lv (.int v :: st) cs) : Ab g u M cells slots pc lv (st) cs :=
  fun p e s m args below meth c X ls H locs hl hw hS => lv_iconst X.1 X.2.1 hd hv (kk p e s m args below meth c X ls H locs hl hw hS)
theorem ab_bipush {n : Int} {v : Int32} (hd : decode u.2.1 pc = .ok (.bipush n, 2)) (hv : (Int8.ofInt n).toInt32 = v) (kk : Ab g u M cells slots (pc + 2) lv (.int v :: st) cs) : Ab g u M cells slots pc lv (st) cs :=
  fun p e s m args below meth c X ls H locs hl hw hS => lv_bipush X.1 X.2.1 hd hv (kk p e s m args below meth c X ls H locs hl hw hS)
theorem ab_sipush {n : Int} {v : Int32} (hd : decode u.2.1 pc = .ok (.sipush n, 3)) (hv : (Int16.ofInt n).toInt32 = v) (kk : Ab g u M cells slots (pc + 3) lv (.int v :: st) cs) : Ab g u M cells slots pc lv (st) cs :=
  fun p e s m args below meth c X ls H locs hl hw hS => lv_sipush X.1 X.2.1 hd hv (kk p e s m args below meth c X ls H locs hl hw hS)
theorem ab_ldc2 {index : Nat} {v : Int64} (hd : decode u.2.1 pc = .ok (.ldc2_w index, 3)) (hw0 : Cond.constantLong u.1.cls index v ∈ lp_W) (kk : Ab g u M cells slots (pc + 3) lv (.long v :: st) cs) : Ab g u M cells slots pc lv st cs :=
  fun p e s m args below meth c X ls H locs hl hw hS => lv_ldc2 X.1 X.2.1 X.2.2.2.2.1 (X.2.2.2.2.2.1 _ hw0) hd (kk p e s m args below meth c X ls H locs hl hw hS)
theorem ab_iload_n {k : Fin 4} {i : Nat} {x : Int32} (j : Nat) (hd : decode u.2.1 pc = .ok (.iload_n k, 1)) (hi : (k : Nat) = i) (hj : lv[j]? = some (i, .int x)) (kk : Ab g u M cells slots (pc + 1) lv (.int x :: st) cs) : Ab g u M cells slots pc lv st cs :=
  fun p e s m args below meth c X ls H locs hl hw hS => lv_iload_n X.1 X.2.1 hd hi (lv_at hl j hj) (kk p e s m args below meth c X ls H locs hl hw hS)
theorem ab_iload {i : Nat} {x : Int32} (j : Nat) (hd : decode u.2.1 pc = .ok (.iload i, 2)) (hj : lv[j]? = some (i, .int x)) (kk : Ab g u M cells slots (pc + 2) lv (.int x :: st) cs) : Ab g u M cells slots pc lv st cs :=
  fun p e s m args below meth c X ls H locs hl hw hS => lv_iload X.1 X.2.1 hd (lv_at hl j hj) (kk p e s m args below meth c X ls H locs hl hw hS)
theorem ab_lload_n {k : Fin 4} {i : Nat} {x : Int64} (j : Nat) (hd : decode u.2.1 pc = .ok (.lload_n k, 1)) (hi : (k : Nat) = i) (hj : lv[j]? = some (i, .long x)) (kk : Ab g u M cells slots (pc + 1) lv (.long x :: st) cs) : Ab g u M cells slots pc lv st cs :=
  fun p e s m args below meth c X ls H locs hl hw hS => lv_lload_n X.1 X.2.1 hd hi (lv_at hl j hj) (kk p e s m args below meth c X ls H locs hl hw hS)
theorem ab_lload {i : Nat} {x : Int64} (j : Nat) (hd : decode u.2.1 pc = .ok (.lload i, 2)) (hj : lv[j]? = some (i, .long x)) (kk : Ab g u M cells slots (pc + 2) lv (.long x :: st) cs) : Ab g u M cells slots pc lv st cs :=
  fun p e s m args below meth c X ls H locs hl hw hS => lv_lload X.1 X.2.1 hd (lv_at hl j hj) (kk p e s m args below meth c X ls H locs hl hw hS)
theorem ab_aload_n {k : Fin 4} {i : Nat} {x : Nat} (j : Nat) (hd : decode u.2.1 pc = .ok (.aload_n k, 1)) (hi : (k : Nat) = i) (hj : lv[j]? = some (i, .ref x)) (kk : Ab g u M cells slots (pc + 1) lv (.ref x :: st) cs) : Ab g u M cells slots pc lv st cs :=
  fun p e s m args below meth c X ls H locs hl hw hS => lv_aload_n X.1 X.2.1 hd hi (lv_at hl j hj) (kk p e s m args below meth c X ls H locs hl hw hS)
theorem ab_aload {i : Nat} {x : Nat} (j : Nat) (hd : decode u.2.1 pc = .ok (.aload i, 2)) (hj : lv[j]? = some (i, .ref x)) (kk : Ab g u M cells slots (pc + 2) lv (.ref x :: st) cs) : Ab g u M cells slots pc lv st cs :=
  fun p e s m args below meth c X ls H locs hl hw hS => lv_aload X.1 X.2.1 hd (lv_at hl j hj) (kk p e s m args below meth c X ls H locs hl hw hS)
theorem ab_istore_n {k : Fin 4} {i : Nat} {x : Int32} {lv' : List (Nat × Value)} (hd : decode u.2.1 pc = .ok (.istore_n k, 1)) (hi : (k : Nat) = i) (hn : i < u.2.2.1) (hv : (i, Value.int x) :: lv.filter (fun q => !(q.1 == i) && !(q.1 + 1 == i && q.2.category == 2)) = lv') (kk : Ab g u M cells slots (pc + 1) lv' st cs) : Ab g u M cells slots pc lv (.int x :: st) cs :=
  fun p e s m args below meth c X ls H locs hl hw hS => lv_istore_n X.1 X.2.1 hd hi hl hn hv (fun ls' hl' => kk p e s m args below meth c X ls' H locs hl' hw hS)
theorem ab_istore {i : Nat} {x : Int32} {lv' : List (Nat × Value)} (hd : decode u.2.1 pc = .ok (.istore i, 2)) (hn : i < u.2.2.1) (hv : (i, Value.int x) :: lv.filter (fun q => !(q.1 == i) && !(q.1 + 1 == i && q.2.category == 2)) = lv') (kk : Ab g u M cells slots (pc + 2) lv' st cs) : Ab g u M cells slots pc lv (.int x :: st) cs :=
  fun p e s m args below meth c X ls H locs hl hw hS => lv_istore X.1 X.2.1 hd hl hn hv (fun ls' hl' => kk p e s m args below meth c X ls' H locs hl' hw hS)
theorem ab_astore_n {k : Fin 4} {i : Nat} {x : Nat} {lv' : List (Nat × Value)} (hd : decode u.2.1 pc = .ok (.astore_n k, 1)) (hi : (k : Nat) = i) (hn : i < u.2.2.1) (hv : (i, Value.ref x) :: lv.filter (fun q => !(q.1 == i) && !(q.1 + 1 == i && q.2.category == 2)) = lv') (kk : Ab g u M cells slots (pc + 1) lv' st cs) : Ab g u M cells slots pc lv (.ref x :: st) cs :=
  fun p e s m args below meth c X ls H locs hl hw hS => lv_astore_n X.1 X.2.1 hd hi hl hn hv (fun ls' hl' => kk p e s m args below meth c X ls' H locs hl' hw hS)
theorem ab_astore {i : Nat} {x : Nat} {lv' : List (Nat × Value)} (hd : decode u.2.1 pc = .ok (.astore i, 2)) (hn : i < u.2.2.1) (hv : (i, Value.ref x) :: lv.filter (fun q => !(q.1 == i) && !(q.1 + 1 == i && q.2.category == 2)) = lv') (kk : Ab g u M cells slots (pc + 2) lv' st cs) : Ab g u M cells slots pc lv (.ref x :: st) cs :=
  fun p e s m args below meth c X ls H locs hl hw hS => lv_astore X.1 X.2.1 hd hl hn hv (fun ls' hl' => kk p e s m args below meth c X ls' H locs hl' hw hS)
theorem ab_iinc {i : Nat} {n : Int} {x v : Int32} {lv' : List (Nat × Value)} (j : Nat) (hd : decode u.2.1 pc = .ok (.iinc i n, 3)) (hj : lv[j]? = some (i, .int x)) (hx : x + Int32.ofInt n = v) (hn : i < u.2.2.1) (hv : (i, Value.int v) :: lv.filter (fun q => !(q.1 == i) && !(q.1 + 1 == i && q.2.category == 2)) = lv') (kk : Ab g u M cells slots (pc + 3) lv' st cs) : Ab g u M cells slots pc lv st cs :=
  fun p e s m args below meth c X ls H locs hl hw hS => lv_iinc X.1 X.2.1 hd hl hj hx hn hv (fun ls' hl' => kk p e s m args below meth c X ls' H locs hl' hw hS)
theorem ab_iadd {x y : Int32} (hd : decode u.2.1 pc = .ok (.iadd, 1))  (kk : Ab g u M cells slots (pc + 1) lv (.int (x + y) :: st) cs) : Ab g u M cells slots pc lv (.int y :: .int x :: st) cs :=
  fun p e s m args below meth c X ls H locs hl hw hS => lv_iadd X.1 X.2.1 hd  (kk p e s m args below meth c X ls H locs hl hw hS)
theorem ab_isub {x y : Int32} (hd : decode u.2.1 pc = .ok (.isub, 1))  (kk : Ab g u M cells slots (pc + 1) lv (.int (x - y) :: st) cs) : Ab g u M cells slots pc lv (.int y :: .int x :: st) cs :=
  fun p e s m args below meth c X ls H locs hl hw hS => lv_isub X.1 X.2.1 hd  (kk p e s m args below meth c X ls H locs hl hw hS)
theorem ab_imul {x y : Int32} (hd : decode u.2.1 pc = .ok (.imul, 1))  (kk : Ab g u M cells slots (pc + 1) lv (.int (x * y) :: st) cs) : Ab g u M cells slots pc lv (.int y :: .int x :: st) cs :=
  fun p e s m args below meth c X ls H locs hl hw hS => lv_imul X.1 X.2.1 hd  (kk p e s m args below meth c X ls H locs hl hw hS)
theorem ab_iand {x y : Int32} (hd : decode u.2.1 pc = .ok (.iand, 1))  (kk : Ab g u M cells slots (pc + 1) lv (.int (x &&& y) :: st) cs) : Ab g u M cells slots pc lv (.int y :: .int x :: st) cs :=
  fun p e s m args below meth c X ls H locs hl hw hS => lv_iand X.1 X.2.1 hd  (kk p e s m args below meth c X ls H locs hl hw hS)
theorem ab_ior {x y : Int32} (hd : decode u.2.1 pc = .ok (.ior, 1))  (kk : Ab g u M cells slots (pc + 1) lv (.int (x ||| y) :: st) cs) : Ab g u M cells slots pc lv (.int y :: .int x :: st) cs :=
  fun p e s m args below meth c X ls H locs hl hw hS => lv_ior X.1 X.2.1 hd  (kk p e s m args below meth c X ls H locs hl hw hS)
theorem ab_idiv {x y : Int32} (hd : decode u.2.1 pc = .ok (.idiv, 1)) (hne : ¬ y = 0) (kk : Ab g u M cells slots (pc + 1) lv (.int (x / y) :: st) cs) : Ab g u M cells slots pc lv (.int y :: .int x :: st) cs :=
  fun p e s m args below meth c X ls H locs hl hw hS => lv_idiv X.1 X.2.1 hd hne (kk p e s m args below meth c X ls H locs hl hw hS)
theorem ab_irem {x y : Int32} (hd : decode u.2.1 pc = .ok (.irem, 1)) (hne : ¬ y = 0) (kk : Ab g u M cells slots (pc + 1) lv (.int (x - x / y * y) :: st) cs) : Ab g u M cells slots pc lv (.int y :: .int x :: st) cs :=
  fun p e s m args below meth c X ls H locs hl hw hS => lv_irem X.1 X.2.1 hd hne (kk p e s m args below meth c X ls H locs hl hw hS)
theorem ab_land {x y : Int64} (hd : decode u.2.1 pc = .ok (.land, 1))  (kk : Ab g u M cells slots (pc + 1) lv (.long (x &&& y) :: st) cs) : Ab g u M cells slots pc lv (.long y :: .long x :: st) cs :=
  fun p e s m args below meth c X ls H locs hl hw hS => lv_land X.1 X.2.1 hd  (kk p e s m args below meth c X ls H locs hl hw hS)
theorem ab_lor {x y : Int64} (hd : decode u.2.1 pc = .ok (.lor, 1))  (kk : Ab g u M cells slots (pc + 1) lv (.long (x ||| y) :: st) cs) : Ab g u M cells slots pc lv (.long y :: .long x :: st) cs :=
  fun p e s m args below meth c X ls H locs hl hw hS => lv_lor X.1 X.2.1 hd  (kk p e s m args below meth c X ls H locs hl hw hS)
theorem ab_i2l {x : Int32} {v : Int64} (hd : decode u.2.1 pc = .ok (.i2l, 1)) (hv : x.toInt64 = v) (kk : Ab g u M cells slots (pc + 1) lv (.long v :: st) cs) : Ab g u M cells slots pc lv (.int x :: st) cs :=
  fun p e s m args below meth c X ls H locs hl hw hS => lv_i2l X.1 X.2.1 hd hv (kk p e s m args below meth c X ls H locs hl hw hS)
theorem ab_l2i {x : Int64} {v : Int32} (hd : decode u.2.1 pc = .ok (.l2i, 1)) (hv : x.toInt32 = v) (kk : Ab g u M cells slots (pc + 1) lv (.int v :: st) cs) : Ab g u M cells slots pc lv (.long x :: st) cs :=
  fun p e s m args below meth c X ls H locs hl hw hS => lv_l2i X.1 X.2.1 hd hv (kk p e s m args below meth c X ls H locs hl hw hS)
theorem ab_lushr {x v : Int64} {y : Int32} (hd : decode u.2.1 pc = .ok (.lushr, 1)) (hv : (x.toUInt64 >>> (y.toInt64.toUInt64 &&& Int64.toUInt64 63)).toInt64 = v) (kk : Ab g u M cells slots (pc + 1) lv (.long v :: st) cs) : Ab g u M cells slots pc lv (.int y :: .long x :: st) cs :=
  fun p e s m args below meth c X ls H locs hl hw hS => lv_lushr X.1 X.2.1 hd hv (kk p e s m args below meth c X ls H locs hl hw hS)
theorem ab_lshr {x v : Int64} {y : Int32} (hd : decode u.2.1 pc = .ok (.lshr, 1)) (hv : x >>> (y.toInt64 &&& 63) = v) (kk : Ab g u M cells slots (pc + 1) lv (.long v :: st) cs) : Ab g u M cells slots pc lv (.int y :: .long x :: st) cs :=
  fun p e s m args below meth c X ls H locs hl hw hS => lv_lshr X.1 X.2.1 hd hv (kk p e s m args below meth c X ls H locs hl hw hS)
theorem ab_lshl {x v : Int64} {y : Int32} (hd : decode u.2.1 pc = .ok (.lshl, 1)) (hv : x <<< (y.toInt64 &&& 63) = v) (kk : Ab g u M cells slots (pc + 1) lv (.long v :: st) cs) : Ab g u M cells slots pc lv (.int y :: .long x :: st) cs :=
  fun p e s m args below meth c X ls H locs hl hw hS => lv_lshl X.1 X.2.1 hd hv (kk p e s m args below meth c X ls H locs hl hw hS)
theorem ab_dup {va : Value} (hd : decode u.2.1 pc = .ok (.dup, 1)) (hva : va.category = 1) (kk : Ab g u M cells slots (pc + 1) lv (va :: va :: st) cs) : Ab g u M cells slots pc lv (va :: st) cs :=
  fun p e s m args below meth c X ls H locs hl hw hS => lv_dup X.1 X.2.1 hd hva (kk p e s m args below meth c X ls H locs hl hw hS)
theorem ab_pop {va : Value} (hd : decode u.2.1 pc = .ok (.pop, 1)) (hva : va.category = 1) (kk : Ab g u M cells slots (pc + 1) lv (st) cs) : Ab g u M cells slots pc lv (va :: st) cs :=
  fun p e s m args below meth c X ls H locs hl hw hS => lv_pop X.1 X.2.1 hd hva (kk p e s m args below meth c X ls H locs hl hw hS)
theorem ab_dup_x1 {va vb : Value} (hd : decode u.2.1 pc = .ok (.dup_x1, 1)) (hva : va.category = 1) (hvb : vb.category = 1) (kk : Ab g u M cells slots (pc + 1) lv (va :: vb :: va :: st) cs) : Ab g u M cells slots pc lv (va :: vb :: st) cs :=
  fun p e s m args below meth c X ls H locs hl hw hS => lv_dup_x1 X.1 X.2.1 hd hva hvb (kk p e s m args below meth c X ls H locs hl hw hS)
theorem ab_dup2_11 {va vb : Value} (hd : decode u.2.1 pc = .ok (.dup2, 1)) (hva : va.category = 1) (hvb : vb.category = 1) (kk : Ab g u M cells slots (pc + 1) lv (va :: vb :: va :: vb :: st) cs) : Ab g u M cells slots pc lv (va :: vb :: st) cs :=
  fun p e s m args below meth c X ls H locs hl hw hS => lv_dup2_11 X.1 X.2.1 hd hva hvb (kk p e s m args below meth c X ls H locs hl hw hS)
theorem ab_dup_x2 {va vb vd : Value} (hd : decode u.2.1 pc = .ok (.dup_x2, 1)) (hva : va.category = 1) (hvb : vb.category = 1) (hvd : vd.category = 1) (kk : Ab g u M cells slots (pc + 1) lv (va :: vb :: vd :: va :: st) cs) : Ab g u M cells slots pc lv (va :: vb :: vd :: st) cs :=
  fun p e s m args below meth c X ls H locs hl hw hS => lv_dup_x2 X.1 X.2.1 hd hva hvb hvd (kk p e s m args below meth c X ls H locs hl hw hS)
theorem ab_if_eq {x : Int32} {off : Int} {tgt : Nat} (hd : decode u.2.1 pc = .ok (.ifCond .eq off, 3)) (ht : (pc : Int) + off = (tgt : Int)) (kt : x = 0 → Ab g u M cells slots tgt lv st cs) (kf : ¬ x = 0 → Ab g u M cells slots (pc + 3) lv st cs) : Ab g u M cells slots pc lv (.int x :: st) cs :=
  fun p e s m args below meth c X ls H locs hl hw hS => lv_if_eq X.1 X.2.1 hd ht (fun h => kt h p e s m args below meth c X ls H locs hl hw hS) (fun h => kf h p e s m args below meth c X ls H locs hl hw hS)
theorem ab_if_ne {x : Int32} {off : Int} {tgt : Nat} (hd : decode u.2.1 pc = .ok (.ifCond .ne off, 3)) (ht : (pc : Int) + off = (tgt : Int)) (kt : ¬ x = 0 → Ab g u M cells slots tgt lv st cs) (kf : x = 0 → Ab g u M cells slots (pc + 3) lv st cs) : Ab g u M cells slots pc lv (.int x :: st) cs :=
  fun p e s m args below meth c X ls H locs hl hw hS => lv_if_ne X.1 X.2.1 hd ht (fun h => kt h p e s m args below meth c X ls H locs hl hw hS) (fun h => kf h p e s m args below meth c X ls H locs hl hw hS)
theorem ab_if_lt {x : Int32} {off : Int} {tgt : Nat} (hd : decode u.2.1 pc = .ok (.ifCond .lt off, 3)) (ht : (pc : Int) + off = (tgt : Int)) (kt : x < 0 → Ab g u M cells slots tgt lv st cs) (kf : ¬ x < 0 → Ab g u M cells slots (pc + 3) lv st cs) : Ab g u M cells slots pc lv (.int x :: st) cs :=
  fun p e s m args below meth c X ls H locs hl hw hS => lv_if_lt X.1 X.2.1 hd ht (fun h => kt h p e s m args below meth c X ls H locs hl hw hS) (fun h => kf h p e s m args below meth c X ls H locs hl hw hS)
theorem ab_if_ge {x : Int32} {off : Int} {tgt : Nat} (hd : decode u.2.1 pc = .ok (.ifCond .ge off, 3)) (ht : (pc : Int) + off = (tgt : Int)) (kt : 0 ≤ x → Ab g u M cells slots tgt lv st cs) (kf : ¬ 0 ≤ x → Ab g u M cells slots (pc + 3) lv st cs) : Ab g u M cells slots pc lv (.int x :: st) cs :=
  fun p e s m args below meth c X ls H locs hl hw hS => lv_if_ge X.1 X.2.1 hd ht (fun h => kt h p e s m args below meth c X ls H locs hl hw hS) (fun h => kf h p e s m args below meth c X ls H locs hl hw hS)
theorem ab_if_gt {x : Int32} {off : Int} {tgt : Nat} (hd : decode u.2.1 pc = .ok (.ifCond .gt off, 3)) (ht : (pc : Int) + off = (tgt : Int)) (kt : 0 < x → Ab g u M cells slots tgt lv st cs) (kf : ¬ 0 < x → Ab g u M cells slots (pc + 3) lv st cs) : Ab g u M cells slots pc lv (.int x :: st) cs :=
  fun p e s m args below meth c X ls H locs hl hw hS => lv_if_gt X.1 X.2.1 hd ht (fun h => kt h p e s m args below meth c X ls H locs hl hw hS) (fun h => kf h p e s m args below meth c X ls H locs hl hw hS)
theorem ab_if_le {x : Int32} {off : Int} {tgt : Nat} (hd : decode u.2.1 pc = .ok (.ifCond .le off, 3)) (ht : (pc : Int) + off = (tgt : Int)) (kt : x ≤ 0 → Ab g u M cells slots tgt lv st cs) (kf : ¬ x ≤ 0 → Ab g u M cells slots (pc + 3) lv st cs) : Ab g u M cells slots pc lv (.int x :: st) cs :=
  fun p e s m args below meth c X ls H locs hl hw hS => lv_if_le X.1 X.2.1 hd ht (fun h => kt h p e s m args below meth c X ls H locs hl hw hS) (fun h => kf h p e s m args below meth c X ls H locs hl hw hS)
theorem ab_icmp_eq {x y : Int32} {off : Int} {tgt : Nat} (hd : decode u.2.1 pc = .ok (.if_icmp .eq off, 3)) (ht : (pc : Int) + off = (tgt : Int)) (kt : x = y → Ab g u M cells slots tgt lv st cs) (kf : ¬ x = y → Ab g u M cells slots (pc + 3) lv st cs) : Ab g u M cells slots pc lv (.int y :: .int x :: st) cs :=
  fun p e s m args below meth c X ls H locs hl hw hS => lv_icmp_eq X.1 X.2.1 hd ht (fun h => kt h p e s m args below meth c X ls H locs hl hw hS) (fun h => kf h p e s m args below meth c X ls H locs hl hw hS)
theorem ab_icmp_ne {x y : Int32} {off : Int} {tgt : Nat} (hd : decode u.2.1 pc = .ok (.if_icmp .ne off, 3)) (ht : (pc : Int) + off = (tgt : Int)) (kt : ¬ x = y → Ab g u M cells slots tgt lv st cs) (kf : x = y → Ab g u M cells slots (pc + 3) lv st cs) : Ab g u M cells slots pc lv (.int y :: .int x :: st) cs :=
  fun p e s m args below meth c X ls H locs hl hw hS => lv_icmp_ne X.1 X.2.1 hd ht (fun h => kt h p e s m args below meth c X ls H locs hl hw hS) (fun h => kf h p e s m args below meth c X ls H locs hl hw hS)
theorem ab_icmp_lt {x y : Int32} {off : Int} {tgt : Nat} (hd : decode u.2.1 pc = .ok (.if_icmp .lt off, 3)) (ht : (pc : Int) + off = (tgt : Int)) (kt : x < y → Ab g u M cells slots tgt lv st cs) (kf : ¬ x < y → Ab g u M cells slots (pc + 3) lv st cs) : Ab g u M cells slots pc lv (.int y :: .int x :: st) cs :=
  fun p e s m args below meth c X ls H locs hl hw hS => lv_icmp_lt X.1 X.2.1 hd ht (fun h => kt h p e s m args below meth c X ls H locs hl hw hS) (fun h => kf h p e s m args below meth c X ls H locs hl hw hS)
theorem ab_icmp_ge {x y : Int32} {off : Int} {tgt : Nat} (hd : decode u.2.1 pc = .ok (.if_icmp .ge off, 3)) (ht : (pc : Int) + off = (tgt : Int)) (kt : y ≤ x → Ab g u M cells slots tgt lv st cs) (kf : ¬ y ≤ x → Ab g u M cells slots (pc + 3) lv st cs) : Ab g u M cells slots pc lv (.int y :: .int x :: st) cs :=
  fun p e s m args below meth c X ls H locs hl hw hS => lv_icmp_ge X.1 X.2.1 hd ht (fun h => kt h p e s m args below meth c X ls H locs hl hw hS) (fun h => kf h p e s m args below meth c X ls H locs hl hw hS)
theorem ab_icmp_gt {x y : Int32} {off : Int} {tgt : Nat} (hd : decode u.2.1 pc = .ok (.if_icmp .gt off, 3)) (ht : (pc : Int) + off = (tgt : Int)) (kt : y < x → Ab g u M cells slots tgt lv st cs) (kf : ¬ y < x → Ab g u M cells slots (pc + 3) lv st cs) : Ab g u M cells slots pc lv (.int y :: .int x :: st) cs :=
  fun p e s m args below meth c X ls H locs hl hw hS => lv_icmp_gt X.1 X.2.1 hd ht (fun h => kt h p e s m args below meth c X ls H locs hl hw hS) (fun h => kf h p e s m args below meth c X ls H locs hl hw hS)
theorem ab_icmp_le {x y : Int32} {off : Int} {tgt : Nat} (hd : decode u.2.1 pc = .ok (.if_icmp .le off, 3)) (ht : (pc : Int) + off = (tgt : Int)) (kt : x ≤ y → Ab g u M cells slots tgt lv st cs) (kf : ¬ x ≤ y → Ab g u M cells slots (pc + 3) lv st cs) : Ab g u M cells slots pc lv (.int y :: .int x :: st) cs :=
  fun p e s m args below meth c X ls H locs hl hw hS => lv_icmp_le X.1 X.2.1 hd ht (fun h => kt h p e s m args below meth c X ls H locs hl hw hS) (fun h => kf h p e s m args below meth c X ls H locs hl hw hS)
theorem ab_goto {off : Int} {tgt : Nat} (hd : decode u.2.1 pc = .ok (.goto off, 3)) (ht : (pc : Int) + off = (tgt : Int)) (kk : Ab g u M cells slots tgt lv st cs) : Ab g u M cells slots pc lv st cs :=
  fun p e s m args below meth c X ls H locs hl hw hS => lv_goto X.1 X.2.1 hd ht (kk p e s m args below meth c X ls H locs hl hw hS)
theorem ab_tableOut {dflt lo hi : Int} {offs : Array Int} {len : Nat} {x : Int32} {tgt : Nat} (hd : decode u.2.1 pc = .ok (.tableswitch dflt lo hi offs, len)) (h : x.toInt < lo ∨ hi < x.toInt) (ht : (pc : Int) + dflt = (tgt : Int)) (kk : Ab g u M cells slots tgt lv st cs) : Ab g u M cells slots pc lv (.int x :: st) cs :=
  fun p e s m args below meth c X ls H locs hl hw hS => lv_tableOut X.1 X.2.1 hd h ht (kk p e s m args below meth c X ls H locs hl hw hS)
theorem ab_tableIn {dflt lo hi : Int} {offs : Array Int} {len : Nat} {x : Int32} {off : Int} {tgt : Nat} (hd : decode u.2.1 pc = .ok (.tableswitch dflt lo hi offs, len)) (h1 : ¬ x.toInt < lo) (h2 : ¬ hi < x.toInt) (ho : offs[(x.toInt - lo).toNat]? = some off) (ht : (pc : Int) + off = (tgt : Int)) (kk : Ab g u M cells slots tgt lv st cs) : Ab g u M cells slots pc lv (.int x :: st) cs :=
  fun p e s m args below meth c X ls H locs hl hw hS => lv_tableIn X.1 X.2.1 hd h1 h2 ho ht (kk p e s m args below meth c X ls H locs hl hw hS)
end LPA
/-! rows that read or write a cell, calls, ends -/
def lp_F (own : String) (index ci j : Nat) : Prop := ∃ (C : String) (T : u_T) (N : Nat), vwCl[ci]? = some (C, T, N) ∧ (∀ w ∈ u_ws C T N, w ∈ lp_W) ∧ j < N ∧ Cond.fieldLink own index C (T j).2.1 (T j).2.2.1 ∈ lp_W ∧ (T j).1 = C
/-- a class, its fields' types; that their names are apart -/
def lp_C (ci : Nat) (C : String) (T : u_T) (N : Nat) : Prop := vwCl[ci]? = some (C, T, N) ∧ (∀ w ∈ u_ws C T N, w ∈ lp_W) ∧ (∃ tf : Nat → FieldType, ∀ k, k < N → parseFieldDescriptor (T k).2.2.1 = some (tf k)) ∧ ∀ a, a < N → ∀ b, b < N → a ≠ b → (T a).2.1 ≠ (T b).2.1
def lp_Fp (own : String) (index ci j : Nat) (ty : FieldType) (fin : Bool) : Prop := ∃ (C : String) (T : u_T) (N : Nat), lp_C ci C T N ∧ j < N ∧ Cond.fieldLink own index C (T j).2.1 (T j).2.2.1 ∈ lp_W ∧ (T j).1 = C ∧ (T j).2.2.2 = fin ∧ parseFieldDescriptor (T j).2.2.1 = some ty ∧ (fin = true → C = own)
def lp_wm (w : lp_M) : List Cond := Cond.code w.1 w.2.1 w.2.2.1 w.2.2.2 :: lp_W
def lp_rm (d mc ms : Nat) : Room := { frames := d, cells := mc, slots := ms, locals := 34 * d }
def lp_Pc (g : lp_G) (av : List Value) (cs : List va_E) : Array Value → State → Prop := va_Pc av (fun U => lp_Wo g cs U.heap ∧ lp_K g U)
def lp_Qc (g : lp_G) (QB : Option Value → List va_E → Prop) : Array Value → State → Outcome → State → Prop := fun _ st oc t => (∃ (v : Option Value) (cs : List va_E), oc = .returned v ∧ QB v cs ∧ lp_Wo g cs t.heap) ∧ va_F (fun q => g.2.1 ≤ q) st t
/-- a method's contract at these arguments and cells -/
def Mb (g : lp_G) (w : lp_M) (d mc ms : Nat) (av : List Value) (cs : List va_E) (QB : Option Value → List va_E → Prop) : Prop :=
  Met g.1 w.1 (lp_wm w) (lp_rm d mc ms) (lp_Pc g av cs) (lp_Qc g QB) mc ms (fun q => g.2.1 ≤ q)
theorem Mb.mono {g : lp_G} {w : lp_M} {d mc ms : Nat} {av : List Value} {cs : List va_E} {QB QB' : Option Value → List va_E → Prop} (h : Mb g w d mc ms av cs QB) (hq : ∀ v cs', QB v cs' → QB' v cs') : Mb g w d mc ms av cs QB' := by
  intro p e h1 h2 h3 s m args below h4 h5 h6 h7
  obtain ⟨n, o, a1, a2, a3, ⟨⟨v, cs', b1, b2, b3⟩, b4⟩, a5⟩ := h p e h1 h2 h3 s m args below h4 h5 h6 h7
  exact ⟨n, o, a1, a2, a3, ⟨⟨v, cs', b1, hq v cs' b2, b3⟩, b4⟩, a5⟩
def lp_md (g : lp_G) (d mc ms : Nat) (QB : Option Value → List va_E → Prop) : lp_O := (lp_rm d mc ms, fun _ _ => True, fun below args s => MQ below (lp_Qc g QB) args s mc ms (fun q => g.2.1 ≤ q))
theorem lp_blind {g : lp_G} {av : List Value} {cs : List va_E} : FrameBlind (lp_Pc g av cs) := fun a U f mk h => ⟨h.1, h.2.1, lp_K.same (s := U) (U := U.calling f mk a) rfl h.2.2⟩
theorem lp_gi {w : lp_M} (hc : Cond.code w.1 w.2.1 w.2.2.1 w.2.2.2 ∈ lp_W) : GoodIn lp_W (lp_wm w) := fun x hx => by
  rcases List.mem_cons.mp hx with h | h
  · rw [h]; exact ⟨hc, lp_Wgood _ hc⟩
  · exact ⟨h, lp_Wgood _ h⟩
/-- what a call needs of the words, but its link -/
def lp_c0 (w : lp_M) (n : Nat) : Prop := Cond.initialized w.1.cls ∈ lp_W ∧ Cond.code w.1 w.2.1 w.2.2.1 w.2.2.2 ∈ lp_W ∧ (w.1.cls ≠ "java/lang/invoke/MethodHandle" ∧ w.1.cls ≠ "java/lang/invoke/VarHandle" ∧ (parseMethodDescriptor w.1.desc).map (fun d => d.parameters.length) = some n)
def lp_cV (own : String) (index : Nat) (w : lp_M) (n : Nat) : Prop := lp_c0 w n ∧ Cond.methodLink own index w.1 ∈ lp_W ∧ Cond.instanceMethod w.1 ∈ lp_W ∧ Cond.selects w.1.cls w.1 w.1 ∈ lp_W
def lp_cVN (own : String) (index : Nat) (w : lp_M) (n : Nat) : Prop := lp_c0 w n ∧ (∃ host, (own, index, w.1, host) ∈ lp_nm) ∧ Cond.instanceMethod w.1 ∈ lp_W ∧ Cond.selects w.1.cls w.1 w.1 ∈ lp_W
def lp_cS (own : String) (index : Nat) (w : lp_M) (n : Nat) : Prop := lp_c0 w n ∧ Cond.methodLink own index w.1 ∈ lp_W ∧ Cond.static w.1 ∈ lp_W
def lp_cSN (own : String) (index : Nat) (w : lp_M) (n : Nat) : Prop := lp_c0 w n ∧ (∃ host, (own, index, w.1, host) ∈ lp_nm) ∧ Cond.static w.1 ∈ lp_W
def lp_cI (own : String) (index : Nat) (w : lp_M) (n : Nat) : Prop := lp_c0 w n ∧ Cond.methodLink own index w.1 ∈ lp_W ∧ Cond.instanceMethod w.1 ∈ lp_W ∧ w.1.name = "<init>" ∧ w.2.2.2 = none
def lp_cIN (own : String) (index : Nat) (w : lp_M) (n : Nat) : Prop := lp_c0 w n ∧ (∃ host, (own, index, w.1, host) ∈ lp_nm) ∧ Cond.instanceMethod w.1 ∈ lp_W ∧ w.1.name = "<init>" ∧ w.2.2.2 = none
section LPB
variable {g : lp_G} {u : lp_M} {M : lp_O} {cells slots pc : Nat} {lv : List (Nat × Value)} {st : List Value} {cs : List va_E}
theorem ab_get {index ci j k : Nat} {fs : List Value} {v : Value} (hf : lp_F u.1.cls index ci j) (hd : decode u.2.1 pc = .ok (.getfield index, 3)) (he : cs[k]? = some (.inr (ci, fs))) (hv : fs[j]? = some v) (kk : Ab g u M cells slots (pc + 3) lv (v :: st) cs) : Ab g u M cells slots pc lv (.ref (g.2.1 + k) :: st) cs := by
  intro p e s m args below meth c X ls H locs hl hw hS
  obtain ⟨C, T, N, hc, hin, hj, hlk, hdc⟩ := hf
  exact va_get X.1 X.2.1 X.2.2.2.2.2.1 hin X.2.2.2.2.1 X.2.2.2.2.2.2.1.1 hw.1 k (lp_ws_at he) hc j hj (X.2.2.2.2.2.1 _ hlk) (fun x hx => by rw [hdc] at hx; exact hx) hv hd (kk p e s m args below meth c X ls H locs hl hw hS)
theorem ab_put {index ci j k : Nat} {fs : List Value} {v : Value} {ty : FieldType} (hf : lp_Fp u.1.cls index ci j ty false) (hd : decode u.2.1 pc = .ok (.putfield index, 3)) (he : cs[k]? = some (.inr (ci, fs))) (hjl : j < fs.length) (hn : narrow ty v = v) (hfit : fits ty v = true)
    (kk : Ab g u M cells slots (pc + 3) lv st (cs.set k (.inr (ci, fs.set j v)))) : Ab g u M cells slots pc lv (v :: .ref (g.2.1 + k) :: st) cs := by
  intro p e s m args below meth c X ls H locs hl hw hS
  obtain ⟨C, T, N, ⟨hc, hin, ⟨tf, hty⟩, hnm⟩, hj, hlk, hdc, hfin, hdt, -⟩ := hf
  have hts := X.2.2.2.2.2.1
  have hK := X.2.2.2.2.2.2.1.1
  have he' := lp_ws_at (sz := g.2.1) he
  have hap := va_apart (own := u.1.cls) hts hin tf hty hnm hK hc
  obtain ⟨r, h1, cell, q1, q2, q3, q4⟩ := hw.1 k _ he'
  have hr : r = (C, T, N) := Option.some.inj (h1.symm.trans hc)
  subst hr
  obtain ⟨hSl, hfc, kC, hkC, hkind⟩ := hK.1 ci _ hc
  obtain ⟨cf, kf, fi, f, hi, hsl⟩ := hSl j hj
  have hlay := hts _ (hin _ (u_in_lay hj))
  unfold u_lay at hlay
  rw [if_neg (by rw [hfin]; decide)] at hlay
  have hst := (u_facts hfc hkC (u_lays hts hin hj) hi).1
  have h6 := u_store hfc hkC hkind hlay hi hdt hn hfit
  refine W.putK X.1 X.2.1 (f := f) ⟨X.2.2.2.2.1, hts _ hlk, ⟨cf, kf, fi, by rw [← hdc]; exact hi⟩, hst⟩ (by rw [q2]; exact h6) q1 q3 (by rw [hsl]; exact k2_hasslot (q4 j hj)) rfl rfl hd fun H' e1 e2 e3 => ?_
  rw [hsl] at e1 ⊢
  refine kk p e s m args below meth c X ls H' _ hl ⟨?_, by rw [e2, hw.2, List.length_set]⟩ (hS.put e2 e3 (Nat.le_add_right _ _))
  rw [← lp_ws_set]
  exact hw.1.set (lp_ws_D _ _) he' ⟨_, hc, t_OB.to (V := updV (vp_V fs) j v) ⟨_, e1, q2, q3, t_set q4 hap hj v⟩ (fun i _ => vp_updV_set hjl v i)⟩ e3
theorem ab_putF {index ci j k : Nat} {fs : List Value} {v : Value} {ty : FieldType} (hf : lp_Fp u.1.cls index ci j ty true) (hu : u.1.name = "<init>") (hd : decode u.2.1 pc = .ok (.putfield index, 3)) (he : cs[k]? = some (.inr (ci, fs))) (hjl : j < fs.length) (hn : narrow ty v = v) (hfit : fits ty v = true)
    (kk : Ab g u M cells slots (pc + 3) lv st (cs.set k (.inr (ci, fs.set j v)))) : Ab g u M cells slots pc lv (v :: .ref (g.2.1 + k) :: st) cs := by
  intro p e s m args below meth c X ls H locs hl hw hS
  obtain ⟨C, T, N, ⟨hc, hin, ⟨tf, hty⟩, hnm⟩, hj, hlk, hdc, hfin, hdt, hco⟩ := hf
  have hts := X.2.2.2.2.2.1
  have hK := X.2.2.2.2.2.2.1.1
  have he' := lp_ws_at (sz := g.2.1) he
  have hap := va_apart (own := u.1.cls) hts hin tf hty hnm hK hc
  obtain ⟨r, h1, cell, q1, q2, q3, q4⟩ := hw.1 k _ he'
  have hr : r = (C, T, N) := Option.some.inj (h1.symm.trans hc)
  subst hr
  obtain ⟨hSl, hfc, kC, hkC, hkind⟩ := hK.1 ci _ hc
  obtain ⟨cf, kf, fi, f, hi, hsl⟩ := hSl j hj
  have hlay := hts _ (hin _ (u_in_lay hj))
  unfold u_lay at hlay
  rw [if_pos hfin] at hlay
  have hst := (u_facts hfc hkC (u_lays hts hin hj) hi).1
  have hcf : m.cls = cf := by
    obtain ⟨_, _, c', _, _, _, -, -, hf', -, -, -, hown2, -⟩ := Cond.laysFinal_spec hlay
    have e1 : c' = cf := by have := hi.symm.trans hf'; simp at this; exact this.1.symm
    rw [hdc, hco rfl] at hown2
    rw [← e1]; exact Option.some.inj (X.2.2.2.2.1.symm.trans hown2)
  have h6 := u_fits hfc hkC hkind (Or.inr hlay) hi hdt hn hfit
  refine W.putFinK X.1 X.2.1 X.2.2.2.2.1 (hts _ hlk) (by rw [← hdc]; exact hi) hst hcf (X.2.2.2.2.2.2.2.2.1 hu) (by rw [q2]; exact h6) q1 q3 (by rw [hsl]; exact k2_hasslot (q4 j hj)) rfl rfl hd fun H' e1 e2 e3 => ?_
  rw [hsl] at e1 ⊢
  refine kk p e s m args below meth c X ls H' _ hl ⟨?_, by rw [e2, hw.2, List.length_set]⟩ (hS.put e2 e3 (Nat.le_add_right _ _))
  rw [← lp_ws_set]
  exact hw.1.set (lp_ws_D _ _) he' ⟨_, hc, t_OB.to (V := updV (vp_V fs) j v) ⟨_, e1, q2, q3, t_set q4 hap hj v⟩ (fun i _ => vp_updV_set hjl v i)⟩ e3
theorem ab_iald {k n : Nat} {f : Nat → Int32} {i : Int32} (hd : decode u.2.1 pc = .ok (.iaload, 1)) (he : cs[k]? = some (.inl (g.2.2.1 0, n, .inl f))) (hin : vp_in i n) (kk : Ab g u M cells slots (pc + 1) lv (.int (f i.toNatClampNeg) :: st) cs) : Ab g u M cells slots pc lv (.int i :: .ref (g.2.1 + k) :: st) cs :=
  fun p e s m args below meth c X ls H locs hl hw hS => va_iald X.1 X.2.1 X.2.2.2.2.2.2.1.1 hw.1 k 0 (lp_ws_at he) rfl hin hd (kk p e s m args below meth c X ls H locs hl hw hS)
theorem ab_iast {k n : Nat} {f : Nat → Int32} {i x : Int32} (hd : decode u.2.1 pc = .ok (.iastore, 1)) (he : cs[k]? = some (.inl (g.2.2.1 0, n, .inl f))) (hin : vp_in i n) (kk : Ab g u M cells slots (pc + 1) lv st (cs.set k (.inl (g.2.2.1 0, n, .inl (upd f i.toNatClampNeg x))))) : Ab g u M cells slots pc lv (.int x :: .int i :: .ref (g.2.1 + k) :: st) cs := by
  intro p e s m args below meth c X ls H locs hl hw hS
  have hK := X.2.2.2.2.2.2.1.1
  have he' := lp_ws_at (sz := g.2.1) he
  refine W.iast X.1 X.2.1 (hw.1 k _ he') ((hK.2 0 _ rfl).1 n (fun j => .int (f j))) (fun q => by cases q) (by show ¬ (i < 0 ∨ (arrV _ _ _).slots.size ≤ _); rw [arrV_size]; exact hin) rfl rfl hd fun H1 e1 z oq => ?_
  refine kk p e s m args below meth c X ls H1 _ hl ⟨?_, by rw [z, hw.2, List.length_set]⟩ (hS.put z oq (Nat.le_add_right _ _))
  rw [← lp_ws_set]
  refine hw.1.set (lp_ws_D _ _) he' ?_ oq
  show H1[_]? = some (vp_cell _ _)
  rw [e1, vp_cell_i, vp_cell_i, arrV_store]
  congr 2
  funext q
  by_cases hq : q = i.toNatClampNeg
  · subst hq
    simp [updV, upd]
  · simp [updV, upd, hq]
theorem ab_aald {t k n r : Nat} {f : Nat → Option Nat} {i : Int32} {ty : FieldType} (hd : decode u.2.1 pc = .ok (.aaload, 1)) (he : cs[k]? = some (.inl (g.2.2.1 t, n, .inr (.inr (.inr (.inr f)))))) (ht : (lp_tys g.2.2.1)[t]? = some (g.2.2.1 t, ty)) (hty : ty.isReference = true) (hin : vp_in i n) (hr : f i.toNatClampNeg = some r) (kk : Ab g u M cells slots (pc + 1) lv (.ref r :: st) cs) : Ab g u M cells slots pc lv (.int i :: .ref (g.2.1 + k) :: st) cs := by
  intro p e s m args below meth c X ls H locs hl hw hS
  have hK := X.2.2.2.2.2.2.1.1
  have hlt : i.toNatClampNeg < n := Nat.not_le.mp fun q => hin (Or.inr q)
  refine W.aald (v := .ref r) (ty := ty) X.1 X.2.1 (hw.1 k _ (lp_ws_at he)) ((hK.2 t _ ht).1 n (fun j => va_rf (f j))) hty (fun q => by cases q) (by show ¬ (i < 0 ∨ (arrV _ _ _).slots.size ≤ _); rw [arrV_size]; exact hin) (by show (arrV _ _ _).slots[_]? = _; rw [arrV_read _ _ hlt, hr]; rfl) rfl rfl hd (kk p e s m args below meth c X ls H locs hl hw hS)
/-- an object into an array of its class -/
theorem ab_aast {t k n r ci : Nat} {f : Nat → Option Nat} {i : Int32} {q0 : vw_C} {fs : List Value} (hd : decode u.2.1 pc = .ok (.aastore, 1)) (he : cs[k]? = some (.inl (g.2.2.1 t, n, .inr (.inr (.inr (.inr f)))))) (ht : (lp_tys g.2.2.1)[t]? = some (g.2.2.1 t, .object q0.1)) (hv : cs[r]? = some (.inr (ci, fs))) (hc : vwCl[ci]? = some q0) (hin : vp_in i n)
    (kk : Ab g u M cells slots (pc + 1) lv st (cs.set k (.inl (g.2.2.1 t, n, .inr (.inr (.inr (.inr (va_up f i.toNatClampNeg (some (g.2.1 + r)))))))))) : Ab g u M cells slots pc lv (.ref (g.2.1 + r) :: .int i :: .ref (g.2.1 + k) :: st) cs := by
  intro p e s m args below meth c X ls H locs hl hw hS
  have hK := X.2.2.2.2.2.2.1.1
  have he' := lp_ws_at (sz := g.2.1) he
  have hlt : i.toNatClampNeg < n := Nat.not_le.mp fun q => hin (Or.inr q)
  have h0 : ¬ i < 0 := fun q => hin (Or.inl q)
  obtain ⟨r', hr', cellV, g1, g2, g3, -⟩ := hw.1 r _ (lp_ws_at hv)
  have hcls := (hK.1 ci q0 hc).2
  obtain ⟨kA, comp, k1, k2, k3, -⟩ := (hK.2 t _ ht).2
  have hcomp : comp = g.2.2.2.1 ci := Option.some.inj (k3.symm.trans hcls.1)
  subst hcomp
  obtain ⟨kC, hkC, -⟩ := hcls.2
  refine W.aast X.1 X.2.1 (hw.1 k _ he') (fun q h => by cases h) (fun h => by cases h) k1 k2 rfl hkC ⟨h0, by show _ < (arrV _ _ _).slots.size; rw [arrV_size]; exact hlt⟩ g1 (fun q h => by rw [g3] at h; cases h) (by rw [g2]; exact hkC) (by rw [g2]; exact va_assign hcls) rfl rfl hd fun H1 e1 z oq => ?_
  refine kk p e s m args below meth c X ls H1 _ hl ⟨?_, by rw [z, hw.2, List.length_set]⟩ (hS.put z oq (Nat.le_add_right _ _))
  rw [← lp_ws_set]
  refine hw.1.set (lp_ws_D _ _) he' ?_ oq
  show H1[_]? = some (vp_cell _ _)
  rw [e1, vp_cell_q, vp_cell_q, arrV_store]
  congr 2
  funext q
  by_cases hq : q = i.toNatClampNeg
  · subst hq
    simp [updV, va_up, va_rf]
  · simp [updV, va_up, hq]
theorem lp_grow {g : lp_G} {cs : List va_E} {a : va_E} {H H1 : Heap} (hw : lp_Wo g cs H) (z : H1.size = H.size + 1) (o : ∀ q : Nat, q < H.size → H1[q]? = H[q]?) (ha : va_at g.2.2.2 vwCl (H.size, a) H1) : lp_Wo g (cs ++ [a]) H1 := by
  refine ⟨?_, by rw [z, hw.2, List.length_append]; rfl⟩
  rw [lp_ws_app]
  refine (hw.1.kept (fun k x hx => o x.1 ((hw.1 k x hx).lt))).app (fun k x hx => ?_)
  have hz : k < 1 := (List.getElem?_eq_some_iff.mp hx).1
  rw [show k = 0 by omega] at hx
  cases hx
  rw [← hw.2]
  exact ha
theorem lp_growS {A : Nat → Prop} {H0 H H1 : Heap} {locs : List Loc} (hS : va_S A H0 H locs) (z : H1.size = H.size + 1) (o : ∀ q : Nat, q < H.size → H1[q]? = H[q]?) : va_S A H0 H1 locs :=
  ⟨Nat.le_trans hS.1 (by omega), fun x h1 h2 => (o x (Nat.lt_of_lt_of_le h1 hS.1)).trans (hS.2.1 x h1 h2), hS.2.2⟩
theorem ab_new {index ci : Nat} {C : String} {T : u_T} {N : Nat} {fs : List Value} (hC : lp_C ci C T N) (hcl : Cond.classLink u.1.cls index C ∈ lp_W) (hinst : Cond.instantiable C N ∈ lp_W) (hini : Cond.initialized C ∈ lp_W) (tf : Nat → FieldType) (hty : ∀ k, k < N → parseFieldDescriptor (T k).2.2.1 = some (tf k)) (hfs : ∀ j, j < N → defaultValue (tf j) = vp_V fs j)
    (hcells : cells + 1 ≤ M.1.cells) (hslots : slots + N ≤ M.1.slots) (hd : decode u.2.1 pc = .ok (.new index, 3)) (kk : Ab g u M (cells + 1) (slots + N) (pc + 3) lv (.ref (g.2.1 + cs.length) :: st) (cs ++ [.inr (ci, fs)])) : Ab g u M cells slots pc lv st cs := by
  intro p e s m args below meth c X ls H locs hl hw hS
  obtain ⟨hc, hin, -, -⟩ := hC
  have hts := X.2.2.2.2.2.1
  have hKn := X.2.2.2.2.2.2.1.1.1 ci _ hc
  refine W.newcK X.1 X.2.1 X.2.2.2.2.1 (hts _ hcl) (hts _ hinst) (hts _ hini) rfl hd hcells hslots hKn.2.1 rfl fun H1 kC hkC e1 z1 o1 => ?_
  have hb := (u_born tf hts hin hKn hkC e1 hty).to hfs
  have k1 := kk p e s m args below meth c X ls H1 locs hl (lp_grow hw z1 o1 ⟨_, hc, hb⟩) (lp_growS hS z1 o1)
  rw [← hw.2] at k1
  exact k1
theorem ab_newa {n : Int32} {N : Nat} (harr : Cond.arrayClass .int ∈ lp_W) (hn : ¬ n < 0) (hN : n.toNatClampNeg = N) (hbytes : N * 4 ≤ 536870912) (hcells : cells + 1 ≤ M.1.cells) (hslots : slots + N ≤ M.1.slots) (hd : decode u.2.1 pc = .ok (.newarray .int, 2))
    (kk : Ab g u M (cells + 1) (slots + N) (pc + 2) lv (.ref (g.2.1 + cs.length) :: st) (cs ++ [.inl (g.2.2.1 0, N, .inl (fun _ => 0))])) : Ab g u M cells slots pc lv (.int n :: st) cs := by
  intro p e s m args below meth c X ls H locs hl hw hS
  refine va_newaK (atype := .int) X.1 X.2.1 (X.2.2.2.2.2.1 _ harr) rfl hd rfl hn hN hbytes hcells hslots rfl fun H1 cA e1 z1 o1 hAr hNm => ?_
  have hcA : cA = g.2.2.1 0 := Option.some.inj (hNm.symm.trans X.2.2.2.2.2.2.1.2.2.2.1)
  subst hcA
  have k1 := kk p e s m args below meth c X ls H1 locs hl (lp_grow hw z1 o1 (show H1[H.size]? = some (vp_cell _ _) by rw [vp_cell_i]; exact e1)) (lp_growS hS z1 o1)
  rw [← hw.2] at k1
  exact k1
theorem ab_newq {index t : Nat} {C : String} {n : Int32} {N : Nat} (hcl : Cond.classLink u.1.cls index C ∈ lp_W) (hao : C ∈ lp_ao) (ht : (lp_tys g.2.2.1)[t]? = some (g.2.2.1 t, .object C)) (hn : ¬ n < 0) (hN : n.toNatClampNeg = N) (hbytes : N * 4 ≤ 536870912) (hcells : cells + 1 ≤ M.1.cells) (hslots : slots + N ≤ M.1.slots) (hd : decode u.2.1 pc = .ok (.anewarray index, 3))
    (kk : Ab g u M (cells + 1) (slots + N) (pc + 3) lv (.ref (g.2.1 + cs.length) :: st) (cs ++ [.inl (g.2.2.1 t, N, .inr (.inr (.inr (.inr (fun _ => none)))))])) : Ab g u M cells slots pc lv (.int n :: st) cs := by
  intro p e s m args below meth c X ls H locs hl hw hS
  subst hN
  have hK := X.2.2.2.2.2.2.1
  refine W.anew X.1 X.2.1 X.2.2.2.2.1 (X.2.2.2.2.2.1 _ hcl) (va_AO.use (hK.2.2.1 C hao)) rfl hd rfl hn hbytes hcells hslots fun cA kA comp f1 f2 f3 f4 => ?_
  obtain ⟨kA', comp', w1, w2, w3, w4⟩ := (hK.1.2 t _ ht).2
  have hcA : cA = g.2.2.1 t := Option.some.inj (f1.symm.trans w4)
  subst hcA
  generalize hH1 : H.push ({ cls := g.2.2.1 t, slots := Array.replicate n.toNatClampNeg .null, vm := .none } : Cell) = H1
  have z1 : H1.size = H.size + 1 := by rw [← hH1, Array.size_push]
  have e1 : H1[H.size]? = some (arrV (g.2.2.1 t) n.toNatClampNeg (fun _ => .null)) := by rw [← hH1, Array.getElem?_push_size, ← arrV_new]
  have o1 : ∀ q : Nat, q < H.size → H1[q]? = H[q]? := fun q hq => by rw [← hH1, Array.getElem?_push, if_neg (Nat.ne_of_lt hq)]
  have k1 := kk p e s m args below meth c X ls H1 locs hl (lp_grow hw z1 o1 (show H1[H.size]? = some (vp_cell _ _) by rw [vp_cell_q]; exact e1)) (lp_growS hS z1 o1)
  rw [← hw.2] at k1
  exact k1
theorem ab_objInit {index : Nat} {a : Nat} (hlink : Cond.methodLink u.1.cls index objectInit ∈ lp_W) (hinst : Cond.instanceMethod objectInit ∈ lp_W) (hcode : Cond.code objectInit ⟨#[0xb1]⟩ 1 none ∈ lp_W) (hd : decode u.2.1 pc = .ok (.invokespecial index, 3)) (hf : 1 ≤ M.1.frames) (hlo : (st.map fun v => v.category).sum + 12 ≤ M.1.locals)
    (kk : Ab g u M cells slots (pc + 3) lv st cs) : Ab g u M cells slots pc lv (.ref a :: st) cs := by
  intro p e s m args below meth c X ls H locs hl hw hS
  have hts := X.2.2.2.2.2.1
  exact W.objInit X.1 X.2.1 X.2.2.2.2.1 (hts _ hlink) (hts _ hinst) (hts _ hcode) rfl (by rw [X.2.2.1]; exact hl.1) rfl hd hf (by show 2 * 0 + _ + 12 ≤ _; omega) (kk p e s m args below meth c X ls H locs hl hw hS)
theorem ab_iret {d mc ms : Nat} {QB : Option Value → List va_E → Prop} {v : Int32} (hr : u.2.2.2 = some .int) (hd : decode u.2.1 pc = .ok (.ireturn, 1)) (hq : QB (some (.int v)) cs) : Ab g u (lp_md g d mc ms QB) mc ms pc lv [.int v] cs :=
  fun p e s m args below meth c X ls H locs hl hw hS => W.iret X.1 X.2.1 (X.2.2.2.1.trans hr) (fun t ht hW => ⟨⟨_, cs, rfl, hq, by rw [ht]; exact hw⟩, hS.F ht⟩) hS.2.2 hd X.2.2.2.2.2.2.2.1
theorem ab_zret {d mc ms : Nat} {QB : Option Value → List va_E → Prop} {v : Int32} (hr : u.2.2.2 = some .boolean) (hn : narrow .boolean (.int v) = .int v) (hd : decode u.2.1 pc = .ok (.ireturn, 1)) (hq : QB (some (.int v)) cs) : Ab g u (lp_md g d mc ms QB) mc ms pc lv [.int v] cs :=
  fun p e s m args below meth c X ls H locs hl hw hS => W.zret X.1 X.2.1 (X.2.2.2.1.trans hr) hn (fun t ht hW => ⟨⟨_, cs, rfl, hq, by rw [ht]; exact hw⟩, hS.F ht⟩) hS.2.2 hd X.2.2.2.2.2.2.2.1
theorem ab_vret {d mc ms : Nat} {QB : Option Value → List va_E → Prop} (hr : u.2.2.2 = none) (hd : decode u.2.1 pc = .ok (.return_, 1)) (hq : QB none cs) : Ab g u (lp_md g d mc ms QB) mc ms pc lv [] cs :=
  fun p e s m args below meth c X ls H locs hl hw hS => W.vret X.1 X.2.1 (X.2.2.2.1.trans hr) (fun t ht hW => ⟨⟨_, cs, rfl, hq, by rw [ht]; exact hw⟩, hS.F ht⟩) hS.2.2 hd X.2.2.2.2.2.2.2.1
theorem ab_entry {d mc ms : Nat} {QB : Option Value → List va_E → Prop} {av : List Value} (hy : plainName u.1.cls = true) (hn : (lg_sl av).length ≤ u.2.2.1) (h : Ab g u (lp_md g d mc ms QB) 0 0 0 (lv_args 0 av) [] cs) : Mb g u d mc ms av cs QB := by
  refine Met.ofW (cc := u.2.1) (maxL := u.2.2.1) (ret := u.2.2.2) hy rfl ?_
  intro p e s m args below meth c s₁ B hml hv
  obtain ⟨rfl, hw, hK⟩ := hv
  have hts := atoms_spec (ws := lp_wm u) B.pre
  rw [lg_entry_eq]
  exact h p e s m _ below meth c ⟨B.exec, B.bytes, hml, B.returns, findClass_of_methodNamed B.named, fun w hw => hts w (List.mem_cons_of_mem _ hw), hK, B.notSynchronized, fun hin => by rw [(name_of_methodNamed B.named B.method).1]; exact hin, by rw [hw.2]; exact Nat.le_add_right _ _, trivial⟩ _ s.heap [] (lv_entry av hn) hw va_S.rf
theorem lp_after {p : Program} {e : Env} {R : Room} {s : State} {m : MethodId} {args a : Array Value} {below : List Frame} {meth : Method} {c : Code} {H : Heap} {locs : List Loc} {mc ms : Nat} {ls : Array Slot} {st0 rest : List Value} {Q : State → Prop} {QB : Option Value → List va_E → Prop}
    (hr : va_Run p g.1 e R s m args below meth c H locs cells slots mc ms (F0 m pc ls st0) rest (lp_Qc g QB a) (fun q => g.2.1 ≤ q)) (hS : va_S (fun q => g.2.1 ≤ q) s.heap H locs)
    (kk : ∀ (v : Option Value) (cs' : List va_E) (H1 : Heap) (locs1 : List Loc), QB v cs' → lp_Wo g cs' H1 → va_S (fun q => g.2.1 ≤ q) s.heap H1 locs1 → W p g.1 e R s m args below meth c H1 locs1 (cells + mc) (slots + ms) Q (F0 m (pc + 3) ls (v.toList ++ rest))) : W p g.1 e R s m args below meth c H locs cells slots Q (F0 m pc ls st0) := by
  intro T hT X
  obtain ⟨v, st₀, t, T', L, h0, X', hL, e1, e2, ⟨⟨v', cs', hv, hq, hwo⟩, hz, hk⟩, hgo⟩ := hr T hT X
  cases hv
  rw [h0] at hz hk
  obtain ⟨t2, a1, b1⟩ := kk v cs' T'.heap (locs ++ L) hq (by rw [e1]; exact hwo)
    ⟨Nat.le_trans hS.1 (by rw [e1]; exact hz), fun q h1 h2 => by rw [e1, hk q (Nat.lt_of_lt_of_le h1 hS.1) h2]; exact hS.2.1 q h1 h2, fun q hq => by
      rcases List.mem_append.mp hq with h | h
      · exact hS.2.2 q h
      · exact hL q h⟩ T' rfl X'
  exact ⟨t2, hgo t2 a1, b1⟩
theorem ab_callV {index k ci d mc ms : Nat} {w : lp_M} {As rest fs : List Value} {q0 : vw_C} {QB : Option Value → List va_E → Prop} (hcw : lp_cV u.1.cls index w As.length) (hd : decode u.2.1 pc = .ok (.invokevirtual index, 3)) (he : cs[k]? = some (.inr (ci, fs))) (hci : vwCl[ci]? = some q0) (hcn : q0.1 = w.1.cls) (hst : st = As.reverse ++ .ref (g.2.1 + k) :: rest) (hrs : (rest.map fun v => v.category).sum ≤ 8)
    (hR : d + 1 ≤ M.1.frames ∧ 8 + (w.2.2.1 + 11) + 34 * d ≤ M.1.locals) (hC : cells + mc ≤ M.1.cells ∧ slots + ms ≤ M.1.slots) (hM : Mb g w d mc ms (.ref (g.2.1 + k) :: As) cs QB) (kk : ∀ v cs', QB v cs' → Ab g u M (cells + mc) (slots + ms) (pc + 3) lv (v.toList ++ rest) cs') : Ab g u M cells slots pc lv st cs := by
  intro p e s m args below meth c X ls H locs hl hw hS
  subst hst
  obtain ⟨⟨hini, hcode, hdd⟩, hlink, hinst, hsel⟩ := hcw
  have hts := X.2.2.2.2.2.1
  have hK := X.2.2.2.2.2.2.1
  refine lp_after (va_runV (As := As) (rest := rest) (nL := u.2.2.1) (C := w.1.cls) ⟨X.1, X.2.1, X.2.2.1, X.2.2.2.2.1, hts⟩ hM ⟨callB_of (ws' := lp_W) As.length hts (lp_gi hcode) rfl rfl rfl (hts _ hini) (hts _ hlink) hdd hR, hts _ hinst, hts _ hsel⟩ ⟨lp_blind, by rw [← hcn]; exact va_recv hK.1 hw.1 hci (lp_ws_at he), fun U hU hW => ⟨rfl, by rw [hU]; exact hw, lp_K.warm hW hK⟩⟩ rfl rfl hl.1 rfl (lv_room hrs) hd hC) hS ?_
  intro v cs' H1 locs1 hq hwo hS1
  exact kk v cs' hq p e s m args below meth c X ls H1 locs1 hl hwo hS1
theorem ab_callVN {index k ci d mc ms : Nat} {w : lp_M} {As rest fs : List Value} {q0 : vw_C} {QB : Option Value → List va_E → Prop} (hcw : lp_cVN u.1.cls index w As.length) (hd : decode u.2.1 pc = .ok (.invokevirtual index, 3)) (he : cs[k]? = some (.inr (ci, fs))) (hci : vwCl[ci]? = some q0) (hcn : q0.1 = w.1.cls) (hst : st = As.reverse ++ .ref (g.2.1 + k) :: rest) (hrs : (rest.map fun v => v.category).sum ≤ 8)
    (hR : d + 1 ≤ M.1.frames ∧ 8 + (w.2.2.1 + 11) + 34 * d ≤ M.1.locals) (hC : cells + mc ≤ M.1.cells ∧ slots + ms ≤ M.1.slots) (hM : Mb g w d mc ms (.ref (g.2.1 + k) :: As) cs QB) (kk : ∀ v cs', QB v cs' → Ab g u M (cells + mc) (slots + ms) (pc + 3) lv (v.toList ++ rest) cs') : Ab g u M cells slots pc lv st cs := by
  intro p e s m args below meth c X ls H locs hl hw hS
  subst hst
  obtain ⟨⟨hini, hcode, hdd⟩, ⟨host, hlink⟩, hinst, hsel⟩ := hcw
  have hts := X.2.2.2.2.2.1
  have hK := X.2.2.2.2.2.2.1
  refine lp_after (va_runVN (As := As) (rest := rest) (nL := u.2.2.1) (C := w.1.cls) ⟨X.1, X.2.1, X.2.2.1, X.2.2.2.2.1, hts⟩ hM ⟨va_cnB (ws' := lp_W) As.length hts (lp_gi hcode) rfl rfl rfl (hK.2.1 _ hlink) (hts _ hini) hdd hR, hts _ hinst, hts _ hsel⟩ ⟨lp_blind, by rw [← hcn]; exact va_recv hK.1 hw.1 hci (lp_ws_at he), fun U hU hW => ⟨rfl, by rw [hU]; exact hw, lp_K.warm hW hK⟩⟩ rfl rfl hl.1 rfl (lv_room hrs) hd hC) hS ?_
  intro v cs' H1 locs1 hq hwo hS1
  exact kk v cs' hq p e s m args below meth c X ls H1 locs1 hl hwo hS1
theorem ab_callS {index d mc ms : Nat} {w : lp_M} {As rest : List Value} {QB : Option Value → List va_E → Prop} (hcw : lp_cS u.1.cls index w As.length) (hd : decode u.2.1 pc = .ok (.invokestatic index, 3)) (hst : st = As.reverse ++ rest) (hrs : (rest.map fun v => v.category).sum ≤ 8)
    (hR : d + 1 ≤ M.1.frames ∧ 8 + (w.2.2.1 + 11) + 34 * d ≤ M.1.locals) (hC : cells + mc ≤ M.1.cells ∧ slots + ms ≤ M.1.slots) (hM : Mb g w d mc ms As cs QB) (kk : ∀ v cs', QB v cs' → Ab g u M (cells + mc) (slots + ms) (pc + 3) lv (v.toList ++ rest) cs') : Ab g u M cells slots pc lv st cs := by
  intro p e s m args below meth c X ls H locs hl hw hS
  subst hst
  obtain ⟨⟨hini, hcode, hdd⟩, hlink, hstat⟩ := hcw
  have hts := X.2.2.2.2.2.1
  have hK := X.2.2.2.2.2.2.1
  refine lp_after (va_runS (As := As) (rest := rest) (nL := u.2.2.1) ⟨X.1, X.2.1, X.2.2.1, X.2.2.2.2.1, hts⟩ hM ⟨callB_of (ws' := lp_W) As.length hts (lp_gi hcode) rfl rfl rfl (hts _ hini) (hts _ hlink) hdd hR, hts _ hstat⟩ ⟨lp_blind, fun U hU hW => ⟨rfl, by rw [hU]; exact hw, lp_K.warm hW hK⟩⟩ rfl rfl hl.1 rfl (lv_room hrs) hd hC) hS ?_
  intro v cs' H1 locs1 hq hwo hS1
  exact kk v cs' hq p e s m args below meth c X ls H1 locs1 hl hwo hS1
theorem ab_callSN {index d mc ms : Nat} {w : lp_M} {As rest : List Value} {QB : Option Value → List va_E → Prop} (hcw : lp_cSN u.1.cls index w As.length) (hd : decode u.2.1 pc = .ok (.invokestatic index, 3)) (hst : st = As.reverse ++ rest) (hrs : (rest.map fun v => v.category).sum ≤ 8)
    (hR : d + 1 ≤ M.1.frames ∧ 8 + (w.2.2.1 + 11) + 34 * d ≤ M.1.locals) (hC : cells + mc ≤ M.1.cells ∧ slots + ms ≤ M.1.slots) (hM : Mb g w d mc ms As cs QB) (kk : ∀ v cs', QB v cs' → Ab g u M (cells + mc) (slots + ms) (pc + 3) lv (v.toList ++ rest) cs') : Ab g u M cells slots pc lv st cs := by
  intro p e s m args below meth c X ls H locs hl hw hS
  subst hst
  obtain ⟨⟨hini, hcode, hdd⟩, ⟨host, hlink⟩, hstat⟩ := hcw
  have hts := X.2.2.2.2.2.1
  have hK := X.2.2.2.2.2.2.1
  refine lp_after (va_runSN (As := As) (rest := rest) (nL := u.2.2.1) ⟨X.1, X.2.1, X.2.2.1, X.2.2.2.2.1, hts⟩ hM ⟨va_cnB (ws' := lp_W) As.length hts (lp_gi hcode) rfl rfl rfl (hK.2.1 _ hlink) (hts _ hini) hdd hR, hts _ hstat, trivial⟩ ⟨lp_blind, fun U hU hW => ⟨rfl, by rw [hU]; exact hw, lp_K.warm hW hK⟩⟩ rfl rfl hl.1 rfl (lv_room hrs) hd hC) hS ?_
  intro v cs' H1 locs1 hq hwo hS1
  exact kk v cs' hq p e s m args below meth c X ls H1 locs1 hl hwo hS1
theorem ab_callI {index d mc ms : Nat} {b : Nat} {w : lp_M} {As rest : List Value} {QB : Option Value → List va_E → Prop} (hcw : lp_cI u.1.cls index w As.length) (hd : decode u.2.1 pc = .ok (.invokespecial index, 3)) (hst : st = As.reverse ++ .ref b :: rest) (hrs : (rest.map fun v => v.category).sum ≤ 8)
    (hR : d + 1 ≤ M.1.frames ∧ 8 + (w.2.2.1 + 11) + 34 * d ≤ M.1.locals) (hC : cells + mc ≤ M.1.cells ∧ slots + ms ≤ M.1.slots) (hM : Mb g w d mc ms (.ref b :: As) cs QB) (kk : ∀ v cs', QB v cs' → Ab g u M (cells + mc) (slots + ms) (pc + 3) lv (v.toList ++ rest) cs') : Ab g u M cells slots pc lv st cs := by
  intro p e s m args below meth c X ls H locs hl hw hS
  subst hst
  obtain ⟨⟨hini, hcode, hdd⟩, hlink, hinst, hnm, hnn⟩ := hcw
  have hts := X.2.2.2.2.2.1
  have hK := X.2.2.2.2.2.2.1
  refine lp_after (va_runI (As := As) (rest := rest) (nL := u.2.2.1) (b := b) (bytes := w.2.1) (maxL := w.2.2.1) (n := As.length) ⟨X.1, X.2.1, X.2.2.1, X.2.2.2.2.1, hts⟩ hM ⟨callB_of (ws' := lp_W) As.length hts (lp_gi hcode) (by rw [← hnn]; rfl) rfl rfl (hts _ hini) (hts _ hlink) hdd hR, hnm, hts _ hinst⟩ ⟨lp_blind, fun U hU hW => ⟨rfl, by rw [hU]; exact hw, lp_K.warm hW hK⟩⟩ rfl rfl hl.1 rfl (lv_room hrs) hd hC) hS ?_
  intro v cs' H1 locs1 hq hwo hS1
  exact kk v cs' hq p e s m args below meth c X ls H1 locs1 hl hwo hS1
theorem ab_callIN {index d mc ms : Nat} {b : Nat} {w : lp_M} {As rest : List Value} {QB : Option Value → List va_E → Prop} (hcw : lp_cIN u.1.cls index w As.length) (hd : decode u.2.1 pc = .ok (.invokespecial index, 3)) (hst : st = As.reverse ++ .ref b :: rest) (hrs : (rest.map fun v => v.category).sum ≤ 8)
    (hR : d + 1 ≤ M.1.frames ∧ 8 + (w.2.2.1 + 11) + 34 * d ≤ M.1.locals) (hC : cells + mc ≤ M.1.cells ∧ slots + ms ≤ M.1.slots) (hM : Mb g w d mc ms (.ref b :: As) cs QB) (kk : ∀ v cs', QB v cs' → Ab g u M (cells + mc) (slots + ms) (pc + 3) lv (v.toList ++ rest) cs') : Ab g u M cells slots pc lv st cs := by
  intro p e s m args below meth c X ls H locs hl hw hS
  subst hst
  obtain ⟨⟨hini, hcode, hdd⟩, ⟨host, hlink⟩, hinst, hnm, hnn⟩ := hcw
  have hts := X.2.2.2.2.2.1
  have hK := X.2.2.2.2.2.2.1
  refine lp_after (va_runIN (As := As) (rest := rest) (nL := u.2.2.1) (b := b) (bytes := w.2.1) (maxL := w.2.2.1) (n := As.length) ⟨X.1, X.2.1, X.2.2.1, X.2.2.2.2.1, hts⟩ hM ⟨va_cnB (ws' := lp_W) As.length hts (lp_gi hcode) (by rw [← hnn]; rfl) rfl rfl (hK.2.1 _ hlink) (hts _ hini) hdd hR, hnm, hts _ hinst⟩ ⟨lp_blind, fun U hU hW => ⟨rfl, by rw [hU]; exact hw, lp_K.warm hW hK⟩⟩ rfl rfl hl.1 rfl (lv_room hrs) hd hC) hS ?_
  intro v cs' H1 locs1 hq hwo hS1
  exact kk v cs' hq p e s m args below meth c X ls H1 locs1 hl hwo hS1
def lp_cM (own : String) (index : Nat) (y : MethodName) (code : ByteArray) (n : Nat) : Prop := Cond.methodLink own index y ∈ lp_W ∧ Cond.static y ∈ lp_W ∧ Cond.initialized "java/lang/Math" ∈ lp_W ∧ Cond.code y code n (some .int) ∈ lp_W
theorem ab_mmax {index : Nat} {x y : Int32} (hcw : lp_cM u.1.cls index Lib.Math.max.name Lib.Math.max.code 2) (hd : decode u.2.1 pc = .ok (.invokestatic index, 3)) (hf : 1 ≤ M.1.frames) (hlo : (st.map fun v => v.category).sum + 13 ≤ M.1.locals) (hC : cells ≤ M.1.cells ∧ slots ≤ M.1.slots) (kk : Ab g u M cells slots (pc + 3) lv (.int (if x < y then y else x) :: st) cs) : Ab g u M cells slots pc lv (.int y :: .int x :: st) cs :=
  fun p e s m args below meth c X ls H locs hl hw hS => va_mmax X.1 X.2.1 (X.2.2.1.trans hl.1.symm) X.2.2.2.2.1 (X.2.2.2.2.2.1 _ hcw.1) (X.2.2.2.2.2.1 _ hcw.2.1) (X.2.2.2.2.2.1 _ hcw.2.2.1) (X.2.2.2.2.2.1 _ hcw.2.2.2) hf hlo hC.1 hC.2 hd (kk p e s m args below meth c X ls H locs hl hw hS)
theorem ab_mmin {index : Nat} {x y : Int32} (hcw : lp_cM u.1.cls index Lib.Math.min.name Lib.Math.min.code 2) (hd : decode u.2.1 pc = .ok (.invokestatic index, 3)) (hf : 1 ≤ M.1.frames) (hlo : (st.map fun v => v.category).sum + 13 ≤ M.1.locals) (hC : cells ≤ M.1.cells ∧ slots ≤ M.1.slots) (kk : Ab g u M cells slots (pc + 3) lv (.int (if y < x then y else x) :: st) cs) : Ab g u M cells slots pc lv (.int y :: .int x :: st) cs :=
  fun p e s m args below meth c X ls H locs hl hw hS => va_mmin X.1 X.2.1 (X.2.2.1.trans hl.1.symm) X.2.2.2.2.1 (X.2.2.2.2.2.1 _ hcw.1) (X.2.2.2.2.2.1 _ hcw.2.1) (X.2.2.2.2.2.1 _ hcw.2.2.1) (X.2.2.2.2.2.1 _ hcw.2.2.2) hf hlo hC.1 hC.2 hd (kk p e s m args below meth c X ls H locs hl hw hS)
theorem ab_mabs {index : Nat} {x : Int32} (hcw : lp_cM u.1.cls index Lib.Math.abs.name Lib.Math.abs.code 1) (hd : decode u.2.1 pc = .ok (.invokestatic index, 3)) (hf : 1 ≤ M.1.frames) (hlo : (st.map fun v => v.category).sum + 13 ≤ M.1.locals) (hC : cells ≤ M.1.cells ∧ slots ≤ M.1.slots) (kk : Ab g u M cells slots (pc + 3) lv (.int (if 0 ≤ x then x else 0 - x) :: st) cs) : Ab g u M cells slots pc lv (.int x :: st) cs :=
  fun p e s m args below meth c X ls H locs hl hw hS => va_mabs X.1 X.2.1 (X.2.2.1.trans hl.1.symm) X.2.2.2.2.1 (X.2.2.2.2.2.1 _ hcw.1) (X.2.2.2.2.2.1 _ hcw.2.1) (X.2.2.2.2.2.1 _ hcw.2.2.1) (X.2.2.2.2.2.1 _ hcw.2.2.2) hf hlo hC.1 hC.2 hd (kk p e s m args below meth c X ls H locs hl hw hS)
end LPB
