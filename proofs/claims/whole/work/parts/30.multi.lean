/-! new int[n][m]: the outer array, then its rows one by one -/
def mu_o (cA : ClassId) (N h0 i : Nat) : Cell := arrV cA N (fun j => va_rf (if j < i then some (h0 + 1 + j) else none))
def mu_s (s : State) (cA cI : ClassId) (N M : Nat) : Nat → State
  | 0 => s.pushCell (mu_o cA N s.heap.size 0)
  | i + 1 => ((mu_s s cA cI N M i).pushCell (arrV cI M (fun _ => .int 0))).setCell s.heap.size (mu_o cA N s.heap.size (i + 1))
theorem mu_o_set (cA : ClassId) (N h0 i : Nat) : (mu_o cA N h0 i).setSlot i (.ref (h0 + 1 + i)) = mu_o cA N h0 (i + 1) := by
  unfold mu_o
  rw [arrV_store]
  refine congrArg (arrV cA N) (funext fun j => ?_)
  by_cases e : j = i
  · subst e
    simp [updV, va_rf]
  · by_cases h : j < i
    · simp [updV, e, h, Nat.lt_succ_of_lt h]
    · simp [updV, e, h, show ¬ j < i + 1 by omega]
theorem mu_size (s : State) (cA cI : ClassId) (N M : Nat) : ∀ i, (mu_s s cA cI N M i).heap.size = s.heap.size + 1 + i
  | 0 => by simp [mu_s]
  | i + 1 => by
    have := mu_size s cA cI N M i
    simp [mu_s, State.setCell, this]
    omega
theorem mu_vm (s : State) (cA cI : ClassId) (N M : Nat) : ∀ i, (mu_s s cA cI N M i).vm = s.vm
  | 0 => rfl
  | i + 1 => by
    show (mu_s s cA cI N M i).vm = s.vm
    exact mu_vm s cA cI N M i
theorem mu_used (s : State) (cA cI : ClassId) (N M : Nat) : ∀ i, (mu_s s cA cI N M i).slotsUsed = s.slotsUsed + N + i * M
  | 0 => by
    show s.slotsUsed + (arrV _ _ _).slots.size = _
    rw [arrV_size]; omega
  | i + 1 => by
    show (mu_s s cA cI N M i).slotsUsed + (arrV _ _ _).slots.size = _
    rw [arrV_size, mu_used s cA cI N M i, Nat.succ_mul]; omega
theorem mu_out (s : State) (cA cI : ClassId) (N M : Nat) : ∀ i, (mu_s s cA cI N M i).heap[s.heap.size]? = some (mu_o cA N s.heap.size i)
  | 0 => State.heap_pushCell_size _ _
  | i + 1 => by
    show (((mu_s s cA cI N M i).pushCell _).setCell s.heap.size _).heap[s.heap.size]? = _
    have h : (s.heap.size : Nat) < s.heap.size + 1 + i + 1 := by omega
    exact heapAt_setCell_self _ (by rw [size_pushCell, mu_size s cA cI N M i]; exact h)
theorem mu_old (s : State) (cA cI : ClassId) (N M : Nat) {q : Nat} (hq : q < s.heap.size) : ∀ i, (mu_s s cA cI N M i).heap[q]? = s.heap[q]?
  | 0 => State.heap_pushCell_of_lt _ _ hq
  | i + 1 => by
    have := mu_size s cA cI N M i
    show (((mu_s s cA cI N M i).pushCell _).setCell s.heap.size _).heap[q]? = _
    rw [heapAt_setCell_ne _ (show s.heap.size ≠ q by omega), State.heap_pushCell_of_lt _ _ (show q < (mu_s s cA cI N M i).heap.size by omega)]
    exact mu_old s cA cI N M hq i
theorem mu_row (s : State) (cA cI : ClassId) (N M : Nat) : ∀ i j, j < i → (mu_s s cA cI N M i).heap[s.heap.size + 1 + j]? = some (arrV cI M (fun _ => .int 0))
  | 0, _, h => absurd h (Nat.not_lt_zero _)
  | i + 1, j, h => by
    have z := mu_size s cA cI N M i
    show (((mu_s s cA cI N M i).pushCell _).setCell s.heap.size _).heap[s.heap.size + 1 + j]? = _
    rw [heapAt_setCell_ne _ (show s.heap.size ≠ s.heap.size + 1 + j by omega)]
    by_cases e : j = i
    · subst e
      rw [← z]
      exact State.heap_pushCell_size _ _
    · rw [State.heap_pushCell_of_lt _ _ (show s.heap.size + 1 + j < (mu_s s cA cI N M i).heap.size by omega)]
      exact mu_row s cA cI N M i j (by omega)
theorem mu_top (s : State) (f : JFrame) (cA cI : ClassId) (N M : Nat) : ∀ i, mu_s (s.setTop f) cA cI N M i = (mu_s s cA cI N M i).setTop f
  | 0 => rfl
  | i + 1 => by
    simp only [mu_s, mu_top s f cA cI N M i, State.heap_setTop, State.pushCell_setTop, State.setCell_setTop]
section MUW
variable {E : CtlPost} {e : Env} {d : Bool} {acts : List Action} {s : State}
theorem mu_new {c comp : ClassId} {k : Class} {type : FieldType} {len : Nat} {init : Value} (hk : s.vm.classes[c]? = some k) (hkind : k.kind = .array comp type) (hlimit : ¬ len > e.platform.arrayLengthLimit) (hheap : ¬ len * componentBytes type > e.platform.maxHeapBytes) (hfit : fits type init = true) {Q : Addr → Pre}
    (h1 : s.heap.size < e.platform.maxCells) (h2 : s.slotsUsed + len ≤ e.platform.maxSlots) (hq : ∀ acts', Q s.heap.size d acts' (s.pushCell (arrV c len (fun _ => init)))) : wp (Jvm.newArray c len init) Q E e d acts s :=
  W.newArray_of hk hkind hlimit hheap h1 h2 hfit (fun acts' => by rw [← arrV_new] at hq; exact hq acts')
theorem mu_make {cA cI cc : ClassId} {kA kI : Class} {n m : Int32} (hkA : s.vm.classes[cA]? = some kA) (hA : kA.kind = .array cI (.array .int)) (hkI : s.vm.classes[cI]? = some kI) (hI : kI.kind = .array cc .int) (hn : ¬ n < 0) (hm : ¬ m < 0)
    (hl1 : ¬ n.toNatClampNeg > e.platform.arrayLengthLimit) (hh1 : ¬ n.toNatClampNeg * componentBytes (.array .int) > e.platform.maxHeapBytes) (hl2 : ¬ m.toNatClampNeg > e.platform.arrayLengthLimit) (hh2 : ¬ m.toNatClampNeg * componentBytes .int > e.platform.maxHeapBytes)
    (hc : s.heap.size + 1 + n.toNatClampNeg ≤ e.platform.maxCells) (hs : s.slotsUsed + n.toNatClampNeg + n.toNatClampNeg * m.toNatClampNeg ≤ e.platform.maxSlots)
    {Q : Addr → Pre} (hq : ∀ d' acts', Q s.heap.size d' acts' (mu_s s cA cI n.toNatClampNeg m.toNatClampNeg n.toNatClampNeg)) : wp (multianewarray.make cA [n, m]) Q E e d acts s := by
  have hfind : ([m].find? (· < 0)) = none := by simp [hm]
  rw [multianewarray.make]
  simp only [wp_bind', W.ite, hn, if_false, wp_pure', W.theClass, hkA, hA, Option.some.injEq, exists_eq_left']
  refine mu_new hkA hA hl1 hh1 rfl (by omega) (by have := Nat.zero_le (n.toNatClampNeg * m.toNatClampNeg); omega) (fun acts' => ?_)
  simp only [hfind]
  rw [ite_self, wp_bind', Std.Legacy.Range.forIn_eq_forIn_range']
  have hsz : ([:n.toNatClampNeg] : Std.Legacy.Range).size = n.toNatClampNeg := by simp [Std.Legacy.Range.size]
  rw [hsz]
  show wp (forIn (List.range' 0 n.toNatClampNeg 1) PUnit.unit _) _ E e d acts' _
  refine wp_forIn_inv (fun rest s' => ∃ i, i ≤ n.toNatClampNeg ∧ rest = List.range' i (n.toNatClampNeg - i) ∧ s' = mu_s s cA cI n.toNatClampNeg m.toNatClampNeg i) _ _ ⟨0, Nat.zero_le _, rfl, ?_⟩ ?_ ?_
  · show s.pushCell _ = s.pushCell _
    congr 1
  · rintro x rest s' d' acts2 Q' ⟨i, hi, hl, rfl⟩ hnext
    have hlt : i < n.toNatClampNeg := by
      rcases Nat.lt_or_ge i n.toNatClampNeg with h | h
      · exact h
      · rw [show n.toNatClampNeg - i = 0 by omega] at hl
        simp at hl
    rw [show n.toNatClampNeg - i = (n.toNatClampNeg - (i + 1)) + 1 by omega, List.range'_succ] at hl
    obtain ⟨ex, hrest⟩ := List.cons.inj hl
    subst ex
    have z := mu_size s cA cI n.toNatClampNeg m.toNatClampNeg x
    have us := mu_used s cA cI n.toNatClampNeg m.toNatClampNeg x
    have hmul : x * m.toNatClampNeg + m.toNatClampNeg ≤ n.toNatClampNeg * m.toNatClampNeg := by
      have := Nat.mul_le_mul_right m.toNatClampNeg (show x + 1 ≤ n.toNatClampNeg from hlt)
      rw [Nat.succ_mul] at this
      exact this
    simp only [wp_bind']
    rw [multianewarray.make]
    simp only [wp_bind', W.ite, hm, if_false, wp_pure', W.theClass, mu_vm, hkI, hI, Option.some.injEq, exists_eq_left']
    refine mu_new (by rw [mu_vm]; exact hkI) hI hl2 hh2 rfl (by rw [z]; omega) (by rw [us]; omega) (fun acts3 => ?_)
    simp only [wp_bind', W.writeLoc, wp_pure']
    refine ⟨mu_o cA n.toNatClampNeg s.heap.size x, by rw [State.heap_pushCell_of_lt _ _ (show s.heap.size < (mu_s s cA cI n.toNatClampNeg m.toNatClampNeg x).heap.size by omega)]; exact mu_out _ _ _ _ _ _, (by intro h; cases h), by show x < (arrV _ _ _).slots.size; rw [arrV_size]; exact hlt, ?_, hnext _ _ _ ⟨x + 1, hlt, hrest, ?_⟩⟩
    · show State.fitsSlot _ cA .none x _ = true
      simp [State.fitsSlot, State.slotType?, mu_vm, hkA, hA]
      rfl
    · rw [z, mu_o_set]
      rfl
  · rintro s' d' acts2 ⟨i, hi, hl, rfl⟩
    have hiN : i = n.toNatClampNeg := by
      rcases Nat.lt_or_ge i n.toNatClampNeg with h | h
      · rw [show n.toNatClampNeg - i = (n.toNatClampNeg - (i + 1)) + 1 by omega, List.range'_succ] at hl
        cases hl
      · omega
    subst hiN
    simp only [wp_pure']
    exact hq _ _
end MUW
section MUS
variable {p : Program} {l : Launch} {e : Env} {R : Room} {s : State} {m : MethodId} {args : Array Value} {below : List Frame} {meth : Method} {c : Code} {T : State} {locs : List Loc} {cells slots : Nat}
theorem mu_stand (X : Stand p l e R s m args below meth c T locs cells slots) (hs : s.heap.size ≤ T.heap.size) (cA cI : ClassId) (N M : Nat) : ∀ i, Stand p l e R s m args below meth c (mu_s T cA cI N M i) locs (cells + 1 + i) (slots + N + i * M)
  | 0 => by
    have h := X.pushed (mu_o cA N T.heap.size 0)
    rw [show (mu_o cA N T.heap.size 0).slots.size = N from arrV_size _ _ _] at h
    simpa [mu_s] using h
  | i + 1 => by
    have Xi := mu_stand X hs cA cI N M i
    have z := mu_size T cA cI N M i
    have hcell : ((mu_s T cA cI N M i).pushCell (arrV cI M (fun _ => .int 0))).heap[T.heap.size]? = some (mu_o cA N T.heap.size i) := by
      rw [State.heap_pushCell_of_lt _ _ (show T.heap.size < (mu_s T cA cI N M i).heap.size by omega)]
      exact mu_out _ _ _ _ _ _
    have h := (Xi.pushed (arrV cI M (fun _ => .int 0))).stored hcell i (.ref (T.heap.size + 1 + i))
    rw [arrV_size, mu_o_set] at h
    have h2 := Stand.forget h (fun q hq => by
      rw [List.mem_singleton] at hq
      subst hq
      exact hs)
    rw [show slots + N + (i + 1) * M = slots + N + i * M + M by rw [Nat.succ_mul]; omega]
    exact h2
end MUS
