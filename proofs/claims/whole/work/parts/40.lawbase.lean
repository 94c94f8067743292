/-! THE CLAIM OUT OF ONE WALK OF THE LAW'S BODY. Your part is whole_start (and what it stands on); all else here is the same for every law, but numbers. -/
def R_law : String := "LinePatcherLaw"
def lw_P (b : Addr) (xs : List Int32) (args : Array Value) (s : State) : Prop := args = #[.ref b] ∧ s.IntsAt b xs ∧ xs.length ≤ 2560 ∧ (Jvm.Cond.and given_1 narrow_1).before args s = true
def lw_Q (_ : Array Value) (s : State) (o : Outcome) (t : State) : Prop := o = .returned (some (.int 1)) ∧ Framed s o t [] 600000 7302250
def lw_Z (below : List Frame) (a : Array Value) (s : State) : State → Prop := fun t => ∃ o, t.status = .running ∧ Ended t below o ∧ lw_Q a s o t
/-- the law's own end, with 1 on the stack, nothing written that was there before, its room as the claim has it -/
theorem lw_ret {p : Program} {l : Launch} {e : Env} {s : State} {m : MethodId} {below : List Frame} {meth : Method} {c : Code} {b : Nat} (hx : p.tables.exec = Jvm.exec) (hb : c.code = code) (hr : meth.sig.returnType = ret) (hlocks : meth.locks = false) {pc : Nat} {H : Heap} {ls : Array Slot} (hdg : decode code pc = .ok (.ireturn, 1)) : W p l e room_1 s m #[Value.ref b] below meth c H [] 600000 7302250 (lw_Z below #[Value.ref b] s) (F0 m pc ls [.int 1]) := by
  intro T hT X
  obtain ⟨fs, hret, hrun, hended, hW, hframe⟩ := X.leave (v := some (.int 1)) (hlocks := hlocks) (fun h => by rw [hr] at h; cases h)
  have hmeth' : T.vm.method? m = some meth := X.method'
  refine ⟨T.setFrames fs, ?_, .returned (some (.int 1)), hrun, hended, rfl, ⟨_, rfl⟩, hW, hframe⟩
  jvm_step X.here [X.here.top, hx, hb, hdg, hmeth', hr, ret, narrow_b1]
  (try refine ⟨rfl, ?_⟩); (try refine ⟨rfl, ?_⟩)
  first | (intro acts; rw [hret _ acts rfl rfl rfl]) | rw [hret _ _ rfl rfl rfl]
  exact Steps.refl _
/-- what holds at the law's entry: the machine, the code, the tables' words (any of lw_tbl by 'hts w (by decide +kernel)'), the script of L ints xs at the cell b, what the Statement gives of the start (any of its parts by flat_of_before) -/
def lw_At (p : Program) (s : State) (m : MethodId) (meth : Method) (c : Code) (b L : Nat) (xs : Nat → Int32) : Prop :=
  p.tables.exec = Jvm.exec ∧ c.code = code ∧ meth.sig.returnType = ret ∧ c.maxLocals = 4 ∧ s.vm.findClass R_law = some m.cls ∧ (∀ w ∈ lw_tbl, w.before #[Value.ref b] s = true) ∧ va_X b L xs s s.heap ∧ b < s.heap.size ∧ meth.locks = false ∧ (Jvm.Cond.and given_1 narrow_1).before #[Value.ref b] s = true
/-! the law's own judgement: the script, the room, the end -/
abbrev uL : lp_M := (⟨"LinePatcherLaw", "law", "([I)Z"⟩, code, 4, ret)
def ML (g : lp_G) (b L : Nat) (xs : Nat → Int32) : lp_O := (room_1, fun args s => args = #[Value.ref b] ∧ va_X b L xs s s.heap ∧ b < s.heap.size ∧ s.heap.size = g.2.1, fun below args s => lw_Z below args s)
section LLW
variable {g : lp_G} {b L : Nat} {xs : Nat → Int32} {cells slots pc : Nat} {lv : List (Nat × Value)} {st : List Value} {cs : List va_E}
theorem ab_sld {i : Int32} (hd : decode uL.2.1 pc = .ok (.iaload, 1)) (hin : vp_in i L) (kk : Ab g uL (ML g b L xs) cells slots (pc + 1) lv (.int (xs i.toNatClampNeg) :: st) cs) : Ab g uL (ML g b L xs) cells slots pc lv (.int i :: .ref b :: st) cs := by
  intro p e s m args below meth c X ls H locs hl hw hS
  obtain ⟨-, hX, hbl, hsz⟩ := X.2.2.2.2.2.2.2.2.2.2
  exact va_sld X.1 X.2.1 hX hbl (by rw [hsz] at hbl; omega) hS hin hd (kk p e s m args below meth c X ls H locs hl hw hS)
theorem ab_slen (hd : decode uL.2.1 pc = .ok (.arraylength, 1)) (kk : Ab g uL (ML g b L xs) cells slots (pc + 1) lv (.int (nI L) :: st) cs) : Ab g uL (ML g b L xs) cells slots pc lv (.ref b :: st) cs := by
  intro p e s m args below meth c X ls H locs hl hw hS
  obtain ⟨-, hX, hbl, hsz⟩ := X.2.2.2.2.2.2.2.2.2.2
  exact va_slen X.1 X.2.1 hX hbl (by rw [hsz] at hbl; omega) hS hd (kk p e s m args below meth c X ls H locs hl hw hS)
theorem law_ret (h1 : cells ≤ 600000) (h2 : slots ≤ 7302250) (hd : decode uL.2.1 pc = .ok (.ireturn, 1)) : Ab g uL (ML g b L xs) cells slots pc lv [.int 1] cs := by
  intro p e s m args below meth c X ls H locs hl hw hS
  obtain ⟨ha, hX, hbl, hsz⟩ := X.2.2.2.2.2.2.2.2.2.2
  subst ha
  refine W.widen h1 h2 (va_forget (fun q hq => by rw [hsz]; exact hS.2.2 q hq) ?_)
  exact lw_ret X.1 X.2.1 X.2.2.2.1 X.2.2.2.2.2.2.2.1 hd
end LLW
theorem enL {g : lp_G} {b L : Nat} {xs : Nat → Int32} : lp_en (ML g b L xs) 9 := ⟨Nat.le_of_ble_eq_true rfl, Nat.le_of_ble_eq_true rfl⟩
theorem tsw {x : Int32} {P : Prop} (h0 : x = nI 0 → P) (h1 : x = nI 1 → P) (h2 : x = nI 2 → P) (h3 : x = nI 3 → P) (h4 : x = nI 4 → P) (h5 : x = nI 5 → P) (h6 : x = nI 6 → P) (h7 : x = nI 7 → P) (h8 : x = nI 8 → P) (h9 : x = nI 9 → P) (h10 : x = nI 10 → P) (h11 : x = nI 11 → P) (h12 : x = nI 12 → P) (hd : (x.toInt < 0 ∨ 12 < x.toInt) → P) : P := by
  by_cases h : x.toInt < 0 ∨ 12 < x.toInt
  · exact hd h
  · have hx : ¬ x < 0 := by
      rw [Int32.lt_iff_toInt_lt, Int32.toInt_zero]
      omega
    obtain ⟨j, hj, rfl⟩ := nI_of hx
    rw [nI_toInt hj] at h
    have h13 : j < 13 := by omega
    match j, h13 with
    | 0, _ => exact h0 rfl
    | 1, _ => exact h1 rfl
    | 2, _ => exact h2 rfl
    | 3, _ => exact h3 rfl
    | 4, _ => exact h4 rfl
    | 5, _ => exact h5 rfl
    | 6, _ => exact h6 rfl
    | 7, _ => exact h7 rfl
    | 8, _ => exact h8 rfl
    | 9, _ => exact h9 rfl
    | 10, _ => exact h10 rfl
    | 11, _ => exact h11 rfl
    | 12, _ => exact h12 rfl
    | j + 13, h => exact absurd h (by omega)
/-- the state after both objects are made -/
def S0 : SS := (fun _ _ => 0, fun _ _ => 0)
abbrev pN : va_E := .inr (0, [.null, .null, .int 0, .null, .null, .null, .null, .null, .null, .null])
abbrev mN : va_E := .inr (12, [.null, .null, .int 0, .int 0, .null, .null, .null, .null, .int 0, .null, .null, .null, .null, .null, .null, .int 0, .int 0, .int 0, .null, .null, .null, .int 0, .null, .null, .int 0, .null, .int 0, .null, .null, .null, .null, .null, .null, .int 0, .int 0, .int 0, .null, .null])
def fvF (g : lp_G) (S : SS) (k : Nat) : Nat → List (Option Nat) → List Value
  | _, [] => []
  | j, o :: T => lp_fv g S k j o :: fvF g S k (j + 1) T
theorem fvF_eq {g : lp_G} {S : SS} {k : Nat} : ∀ (T : List (Option Nat)) (j : Nat), T.mapIdx (fun i => lp_fv g S k (i + j)) = fvF g S k j T
  | [], _ => rfl
  | o :: T, j => by
    rw [List.mapIdx_cons, fvF, ← fvF_eq T (j + 1)]
    simp [Nat.add_assoc, Nat.add_comm 1 j]
def clF (g : lp_G) (S : SS) (k : Nat) (x : lp_Sh) : va_E := match x with
  | .inl (n, none) => .inl (g.2.2.1 0, n, .inl (S.2 k))
  | .inl (n, some (t, b, w)) => .inl (g.2.2.1 t, n, .inr (.inr (.inr (.inr (fun j => if j < n then some (g.2.1 + (b + w * j)) else none)))))
  | .inr (ci, T) => .inr (ci, fvF g S k 0 T)
theorem clF_eq {g : lp_G} {S : SS} {k : Nat} {x : lp_Sh} : lp_cell g S k x = clF g S k x := by
  rcases x with ⟨n, _ | ⟨t, b, w⟩⟩ | ⟨ci, T⟩
  · rfl
  · rfl
  · show Sum.inr (ci, T.mapIdx (lp_fv g S k)) = Sum.inr (ci, _)
    rw [← fvF_eq T 0]
    rfl
def wcF (g : lp_G) (S : SS) : Nat → List lp_Sh → List va_E
  | _, [] => []
  | k, x :: T => clF g S k x :: wcF g S (k + 1) T
theorem wcF_eq {g : lp_G} {S : SS} : ∀ (T : List lp_Sh) (j : Nat), T.mapIdx (fun i => lp_cell g S (i + j)) = wcF g S j T
  | [], _ => rfl
  | o :: T, j => by
    rw [List.mapIdx_cons, wcF, ← wcF_eq T (j + 1), clF_eq]
    simp [Nat.add_assoc, Nat.add_comm 1 j]
set_option maxRecDepth 100000 in
theorem wc_start {g : lp_G} : cw (cw [pN] 0 (oP g 1) (eP g 1) ++ [mN]) 151 (oM g 152) (eM g 152) = wc g S0 := by
  show _ = lp_sh.mapIdx (fun i => lp_cell g S0 (i + 0))
  rw [wcF_eq]
  rfl
