/-! new int[n][m], as a row -/
def mu_cs (g : lp_G) (N K b : Nat) : List va_E := .inl (g.2.2.1 3, N, .inr (.inr (.inr (.inr (fun j => if j < N then some (g.2.1 + (b + 1 + 1 * j)) else none))))) :: List.replicate N (.inl (g.2.2.1 0, K, .inl (fun _ => 0)))
theorem ab_mna {g : lp_G} {u : lp_M} {M : lp_O} {cells slots pc : Nat} {lv : List (Nat × Value)} {st : List Value} {cs : List va_E} {index : Nat} {n k : Int32} {N K : Nat} (hcl : Cond.classLink u.1.cls index "[[I" ∈ lp_W) (harr : Cond.arrayClass .int ∈ lp_W) (hn : ¬ n < 0) (hk : ¬ k < 0) (hN : n.toNatClampNeg = N) (hKK : k.toNatClampNeg = K) (hb1 : N * 4 ≤ 536870912) (hb2 : K * 4 ≤ 536870912)
    (hcells : cells + (1 + N) ≤ M.1.cells) (hslots : slots + (N + N * K) ≤ M.1.slots) (hd : decode u.2.1 pc = .ok (.multianewarray index 2, 4)) (kk : Ab g u M (cells + 1 + N) (slots + N + N * K) (pc + 4) lv (.ref (g.2.1 + cs.length) :: st) (cs ++ mu_cs g N K cs.length)) : Ab g u M cells slots pc lv (.int k :: .int n :: st) cs := by
  intro p e s m args below meth c X0 ls H locs hl hw hS T hT X
  have hts := X0.2.2.2.2.2.1
  have hK := X0.2.2.2.2.2.2.1
  have hown := X0.2.2.2.2.1
  have hpl : e.platform.magicAccessors = ({} : Platform).magicAccessors := by rw [X.admits.platform]
  obtain ⟨kA, hkA, hA⟩ := hK.2.2.2.2
  obtain ⟨cI, kI, cc, hfI, hkI, hI⟩ := Cond.arrayClass_spec (hts _ harr)
  have eI : cI = g.2.2.1 0 := Option.some.inj (hfI.symm.trans hK.2.2.2.1)
  subst eI
  obtain ⟨c0, hfc0, hcl0⟩ := Cond.classLink_spec hown (hts _ hcl) e.platform hpl
  have ec0 : c0 = g.2.2.1 3 := Option.some.inj (hfc0.symm.trans (hK.1.2 3 _ rfl).2)
  subst ec0
  obtain ⟨hg₁, hwarm₁, hready₁⟩ := State.classEntry (e := e) X.warmed hcl0
  generalize hvm : T.vm.noted m.cls index (.cls (g.2.2.1 3)) = vm₁ at hg₁ hwarm₁ hready₁
  have hal : s.vm.Alike vm₁ := hwarm₁.alike
  obtain ⟨kA₁, hkA₁, heA⟩ := hal.2.2 _ _ hkA
  obtain ⟨kI₁, hkI₁, heI⟩ := hal.2.2 _ _ hkI
  have hA₁ : kA₁.kind = .array (g.2.2.1 0) (.array .int) := by rw [heA]; exact hA
  have hI₁ : kI₁.kind = .array cc .int := by rw [heI]; exact hI
  have X₁ := X.noted hwarm₁
  obtain ⟨hr1, hr2⟩ := X.roomAbove hcells hslots
  have hsT : s.heap.size ≤ (T.setVm vm₁).heap.size := by
    show s.heap.size ≤ T.heap.size
    rw [hT]; exact hS.1
  have XF := mu_stand X₁ hsT (g.2.2.1 3) (g.2.2.1 0) N K N
  have hTh : (T.setVm vm₁).heap = H := hT
  have z := mu_size (T.setVm vm₁) (g.2.2.1 3) (g.2.2.1 0) N K N
  have q1 := mu_out (T.setVm vm₁) (g.2.2.1 3) (g.2.2.1 0) N K N
  have q2 := mu_row (T.setVm vm₁) (g.2.2.1 3) (g.2.2.1 0) N K N
  have q3 : ∀ q : Nat, q < H.size → (mu_s (T.setVm vm₁) (g.2.2.1 3) (g.2.2.1 0) N K N).heap[q]? = H[q]? := fun q hq => by
    have := mu_old (T.setVm vm₁) (g.2.2.1 3) (g.2.2.1 0) N K (q := q) (by rw [hTh]; exact hq) N
    rw [this, hTh]
  rw [hTh] at z q1 q2
  have hwo : lp_Wo g (cs ++ mu_cs g N K cs.length) (mu_s (T.setVm vm₁) (g.2.2.1 3) (g.2.2.1 0) N K N).heap := by
    refine ⟨fun j x hx => ?_, by rw [z, hw.2, List.length_append]; simp [mu_cs]; omega⟩
    rw [lp_ws_get] at hx
    obtain ⟨y, hy, rfl⟩ := Option.map_eq_some_iff.mp hx
    by_cases h1 : j < cs.length
    · rw [List.getElem?_append_left h1] at hy
      exact (hw.1 j _ (lp_ws_at hy)).kept (q3 _ (by rw [hw.2]; show g.2.1 + j < _; omega))
    · rw [List.getElem?_append_right (by omega)] at hy
      by_cases h2 : j = cs.length
      · subst h2
        rw [Nat.sub_self] at hy
        cases hy
        show (mu_s _ _ _ _ _ _).heap[g.2.1 + cs.length]? = some (vp_cell _ _)
        rw [← hw.2, q1, vp_cell_q]
        unfold mu_o
        rw [hw.2]
        refine congrArg some (congrArg (arrV _ _) (funext fun i => ?_))
        rw [show g.2.1 + cs.length + 1 + i = g.2.1 + (cs.length + 1 + 1 * i) by omega]
      · obtain ⟨i, hi⟩ : ∃ i, j - cs.length = i + 1 := ⟨j - cs.length - 1, by omega⟩
        rw [hi] at hy
        have hy2 : (List.replicate N ((.inl (g.2.2.1 0, K, .inl (fun _ => 0))) : va_E))[i]? = some y := hy
        rw [List.getElem?_replicate] at hy2
        split at hy2
        · rename_i hlt
          cases hy2
          show (mu_s _ _ _ _ _ _).heap[g.2.1 + j]? = some (vp_cell _ _)
          rw [vp_cell_i, show g.2.1 + j = H.size + 1 + i by rw [hw.2]; omega]
          exact q2 i hlt
        · cases hy2
  have hS1 : va_S (fun q => g.2.1 ≤ q) s.heap (mu_s (T.setVm vm₁) (g.2.2.1 3) (g.2.2.1 0) N K N).heap locs := ⟨by rw [z]; have := hS.1; omega, fun q h1 h2 => by rw [q3 q (Nat.lt_of_lt_of_le h1 hS.1)]; exact hS.2.1 q h1 h2, hS.2.2⟩
  obtain ⟨t, a1, b1⟩ := kk p e s m args below meth c X0 ls _ locs hl hwo hS1 _ rfl XF
  refine ⟨t, ?_, b1⟩
  have hl1 : ¬ n.toNatClampNeg > e.platform.arrayLengthLimit := by rw [Launch.admits_arrayLengthLimit X.admits]; omega
  have hh1 : ¬ n.toNatClampNeg * componentBytes (.array .int) > e.platform.maxHeapBytes := by
    rw [Launch.admits_maxHeapBytes X.admits]; show ¬ n.toNatClampNeg * 4 > 536870912; omega
  have hl2 : ¬ k.toNatClampNeg > e.platform.arrayLengthLimit := by rw [Launch.admits_arrayLengthLimit X.admits]; omega
  have hh2 : ¬ k.toNatClampNeg * componentBytes .int > e.platform.maxHeapBytes := by rw [Launch.admits_maxHeapBytes X.admits]; show ¬ k.toNatClampNeg * 4 > 536870912; omega
  have hdg : decode c.code pc = .ok (.multianewarray index 2, 4) := by rw [X0.2.1]; exact hd
  subst hN
  subst hKK
  rw [← hw.2, ← hT] at a1
  jvm_step X.here [X0.1, hdg]
  simp only [multianewarray.sem, wp_bind', W.resolveClassAt_links (State.method?_setTop (F0 m pc ls (.int k :: .int n :: st)) X.here.top) hg₁]
  rw [W.popN, if_neg (by decide)]
  refine ⟨F0 m pc ls (.int k :: .int n :: st), State.topJava?_setTop' (s := T.setVm vm₁) (F0 m pc ls (.int k :: .int n :: st)) X.here.top, [.int n, .int k], st, rfl, rfl, ?_⟩
  simp only [List.mapM_cons, List.mapM_nil, wp_bind', wp_pure']
  refine mu_make (kA := kA₁) (kI := kI₁) (cI := g.2.2.1 0) (cc := cc) hkA₁ hA₁ hkI₁ hI₁ hn hk hl1 hh1 hl2 hh2 (by show T.heap.size + 1 + _ ≤ _; omega) (by show T.slotsUsed + _ + _ ≤ _; omega) (fun d' acts' => ?_)
  have eS : ((T.setTop (F0 m pc ls (.int k :: .int n :: st))).setVm vm₁).setTop { (F0 m pc ls (.int k :: .int n :: st)) with stack := st } = (T.setVm vm₁).setTop { (F0 m pc ls (.int k :: .int n :: st)) with stack := st } := by
    show ((T.setVm vm₁).setTop (F0 m pc ls (.int k :: .int n :: st))).setTop _ = _
    rw [State.setTop_setTop]
  rw [eS, mu_top]
  simp only [wp_bind', W.mark, W.pushRef, State.topJava?_setTop' _ XF.here.top, Option.some.injEq, exists_eq_left', State.setTop_setTop, State.heap_setTop]
  intro acts
  simp [jvm, XF.here.top]
  exact a1
