/-! constructors: the world is the caller's cells with the object at k as it now is, and the new cells behind them -/
def cw (cs : List va_E) (k : Nat) (o : va_E) (L : List va_E) : List va_E := cs.set k o ++ L
theorem cw_0 {cs : List va_E} {k : Nat} {o : va_E} (h : cs[k]? = some o) : cs = cw cs k o [] := by
  obtain ⟨hk, he⟩ := List.getElem?_eq_some_iff.mp h
  rw [cw, List.append_nil, ← he, List.set_getElem_self]
theorem cw_len {cs : List va_E} {k : Nat} {o : va_E} {L : List va_E} : (cw cs k o L).length = cs.length + L.length := by simp [cw]
theorem cw_k {cs : List va_E} {k : Nat} {o : va_E} {L : List va_E} (h : k < cs.length) : (cw cs k o L)[k]? = some o := by
  rw [cw, List.getElem?_append_left (by simpa using h), List.getElem?_set_self h]
theorem cw_L {cs : List va_E} {k j b : Nat} {o x : va_E} {L : List va_E} (hb : cs.length = b) (h : L[j]? = some x) : (cw cs k o L)[b + j]? = some x := by
  rw [cw, List.getElem?_append_right (by simp; omega), List.length_set, hb, Nat.add_sub_cancel_left]
  exact h
theorem cw_app {cs : List va_E} {k : Nat} {o : va_E} {L X : List va_E} : cw cs k o L ++ X = cw cs k o (L ++ X) := by simp [cw]
theorem cw_setk {cs : List va_E} {k : Nat} {o o' : va_E} {L : List va_E} (h : k < cs.length) : (cw cs k o L).set k o' = cw cs k o' L := by
  rw [cw, List.set_append_left _ _ (by simpa using h), List.set_set, cw]
theorem cw_setL {cs : List va_E} {k j b : Nat} {o x : va_E} {L : List va_E} (hb : cs.length = b) : (cw cs k o L).set (b + j) x = cw cs k o (L.set j x) := by
  rw [cw, List.set_append_right _ _ (by simp; omega), List.length_set, hb, Nat.add_sub_cancel_left, cw]
theorem cw_cw {cs : List va_E} {k j b : Nat} {o x : va_E} {L X : List va_E} (hb : cs.length = b) : cw (cw cs k o L) (b + j) x X = cw cs k o (L.set j x ++ X) := by
  rw [cw, cw_setL hb, cw_app]
/-- a constructor's contract: its object, and what it makes -/
def Cn (g : lp_G) (w : lp_M) (d mc ms : Nat) (As : List Value) (o0 : va_E) (O : Nat → va_E) (E : Nat → List va_E) : Prop :=
  ∀ (cs : List va_E) (k b : Nat), cs.length = b → cs[k]? = some o0 → Mb g w d mc ms (.ref (g.2.1 + k) :: As) cs (fun v c => v = none ∧ c = cw cs k (O b) (E b))
section CNR
variable {g : lp_G} {u : lp_M} {M : lp_O} {cells slots pc : Nat} {lv : List (Nat × Value)} {st : List Value} {cs : List va_E} {k b : Nat} {o : va_E} {L L' : List va_E}
theorem cn_new {index ci n : Nat} {C : String} {T : u_T} {N : Nat} {fs : List Value} (hb : cs.length = b) (hn : L.length = n) (hL : L ++ [.inr (ci, fs)] = L') (hC : lp_C ci C T N) (hcl : Cond.classLink u.1.cls index C ∈ lp_W) (hinst : Cond.instantiable C N ∈ lp_W) (hini : Cond.initialized C ∈ lp_W) (tf : Nat → FieldType) (hty : ∀ k, k < N → parseFieldDescriptor (T k).2.2.1 = some (tf k)) (hfs : ∀ j, j < N → defaultValue (tf j) = vp_V fs j)
    (hcells : cells + 1 ≤ M.1.cells) (hslots : slots + N ≤ M.1.slots) (hd : decode u.2.1 pc = .ok (.new index, 3)) (kk : Ab g u M (cells + 1) (slots + N) (pc + 3) lv (.ref (g.2.1 + (b + n)) :: st) (cw cs k o L')) : Ab g u M cells slots pc lv st (cw cs k o L) :=
  ab_new hC hcl hinst hini tf hty hfs hcells hslots hd (by rw [cw_len, hb, hn, cw_app, hL]; exact kk)
theorem cn_newa {n : Int32} {N z : Nat} (hb : cs.length = b) (hz : L.length = z) (hL : L ++ [.inl (g.2.2.1 0, N, .inl (fun _ => 0))] = L') (hn : ¬ n < 0) (hN : n.toNatClampNeg = N) (hbytes : N * 4 ≤ 536870912) (hcells : cells + 1 ≤ M.1.cells) (hslots : slots + N ≤ M.1.slots) (hd : decode u.2.1 pc = .ok (.newarray .int, 2))
    (kk : Ab g u M (cells + 1) (slots + N) (pc + 2) lv (.ref (g.2.1 + (b + z)) :: st) (cw cs k o L')) : Ab g u M cells slots pc lv (.int n :: st) (cw cs k o L) :=
  ab_newa ka_int hn hN hbytes hcells hslots hd (by rw [cw_len, hb, hz, cw_app, hL]; exact kk)
theorem cn_newq {index t z : Nat} {C : String} {n : Int32} {N : Nat} (hb : cs.length = b) (hz : L.length = z) (hL : L ++ [.inl (g.2.2.1 t, N, .inr (.inr (.inr (.inr (fun _ => none)))))] = L') (hcl : Cond.classLink u.1.cls index C ∈ lp_W) (hao : C ∈ lp_ao) (ht : (lp_tys g.2.2.1)[t]? = some (g.2.2.1 t, .object C)) (hn : ¬ n < 0) (hN : n.toNatClampNeg = N) (hbytes : N * 4 ≤ 536870912) (hcells : cells + 1 ≤ M.1.cells) (hslots : slots + N ≤ M.1.slots) (hd : decode u.2.1 pc = .ok (.anewarray index, 3))
    (kk : Ab g u M (cells + 1) (slots + N) (pc + 3) lv (.ref (g.2.1 + (b + z)) :: st) (cw cs k o L')) : Ab g u M cells slots pc lv (.int n :: st) (cw cs k o L) :=
  ab_newq hcl hao ht hn hN hbytes hcells hslots hd (by rw [cw_len, hb, hz, cw_app, hL]; exact kk)
theorem cn_mna {index z : Nat} {n m : Int32} {N K : Nat} (hb : cs.length = b) (hz : L.length = z) (hL : L ++ mu_cs g N K (b + z) = L') (hcl : Cond.classLink u.1.cls index "[[I" ∈ lp_W) (hn : ¬ n < 0) (hm : ¬ m < 0) (hN : n.toNatClampNeg = N) (hK : m.toNatClampNeg = K) (hb1 : N * 4 ≤ 536870912) (hb2 : K * 4 ≤ 536870912) (hcells : cells + (1 + N) ≤ M.1.cells) (hslots : slots + (N + N * K) ≤ M.1.slots) (hd : decode u.2.1 pc = .ok (.multianewarray index 2, 4))
    (kk : Ab g u M (cells + 1 + N) (slots + N + N * K) (pc + 4) lv (.ref (g.2.1 + (b + z)) :: st) (cw cs k o L')) : Ab g u M cells slots pc lv (.int m :: .int n :: st) (cw cs k o L) :=
  ab_mna hcl ka_int hn hm hN hK hb1 hb2 hcells hslots hd (by rw [cw_len, hb, hz, cw_app, hL]; exact kk)
theorem cn_putF {index ci j : Nat} {fs fs' : List Value} {v : Value} {ty : FieldType} (hk : k < cs.length) (hf : lp_Fp u.1.cls index ci j ty true) (hu : u.1.name = "<init>") (hd : decode u.2.1 pc = .ok (.putfield index, 3)) (hjl : j < fs.length) (hn : narrow ty v = v) (hfit : fits ty v = true) (he : fs.set j v = fs')
    (kk : Ab g u M cells slots (pc + 3) lv st (cw cs k (.inr (ci, fs')) L)) : Ab g u M cells slots pc lv (v :: .ref (g.2.1 + k) :: st) (cw cs k (.inr (ci, fs)) L) :=
  ab_putF hf hu hd (cw_k hk) hjl hn hfit (by rw [cw_setk hk, he]; exact kk)
theorem cn_put {index ci j : Nat} {fs fs' : List Value} {v : Value} {ty : FieldType} (hk : k < cs.length) (hf : lp_Fp u.1.cls index ci j ty false) (hd : decode u.2.1 pc = .ok (.putfield index, 3)) (hjl : j < fs.length) (hn : narrow ty v = v) (hfit : fits ty v = true) (he : fs.set j v = fs')
    (kk : Ab g u M cells slots (pc + 3) lv st (cw cs k (.inr (ci, fs')) L)) : Ab g u M cells slots pc lv (v :: .ref (g.2.1 + k) :: st) (cw cs k (.inr (ci, fs)) L) :=
  ab_put hf hd (cw_k hk) hjl hn hfit (by rw [cw_setk hk, he]; exact kk)
theorem cn_get {index ci j : Nat} {fs : List Value} {v : Value} (hk : k < cs.length) (hf : lp_F u.1.cls index ci j) (hd : decode u.2.1 pc = .ok (.getfield index, 3)) (hv : fs[j]? = some v) (kk : Ab g u M cells slots (pc + 3) lv (v :: st) (cw cs k (.inr (ci, fs)) L)) : Ab g u M cells slots pc lv (.ref (g.2.1 + k) :: st) (cw cs k (.inr (ci, fs)) L) :=
  ab_get hf hd (cw_k hk) hv kk
theorem cn_getL {index ci j i : Nat} {fs : List Value} {v : Value} (hb : cs.length = b) (hf : lp_F u.1.cls index ci j) (hd : decode u.2.1 pc = .ok (.getfield index, 3)) (hi : L[i]? = some (.inr (ci, fs))) (hv : fs[j]? = some v) (kk : Ab g u M cells slots (pc + 3) lv (v :: st) (cw cs k o L)) : Ab g u M cells slots pc lv (.ref (g.2.1 + (b + i)) :: st) (cw cs k o L) :=
  ab_get hf hd (cw_L hb hi) hv kk
/-- the room for a constructor's call -/
theorem cn_callI {index i n d mc ms : Nat} {w : lp_M} {As rest : List Value} {o0 : va_E} {O : Nat → va_E} {E : Nat → List va_E} (hb : cs.length = b) (hi : L[i]? = some o0) (hn : L.length = n) (hL : L.set i (O (b + n)) ++ E (b + n) = L') (hc : Cn g w d mc ms As o0 O E) (hcw : lp_cI u.1.cls index w As.length) (hd : decode u.2.1 pc = .ok (.invokespecial index, 3)) (hst : st = As.reverse ++ .ref (g.2.1 + (b + i)) :: rest) (hrs : (rest.map fun v => v.category).sum ≤ 8)
    (hE : lp_en M (d + 1)) (hm : w.2.2.1 ≤ 15) (hC : cells + mc ≤ M.1.cells ∧ slots + ms ≤ M.1.slots) (kk : Ab g u M (cells + mc) (slots + ms) (pc + 3) lv rest (cw cs k o L')) : Ab g u M cells slots pc lv st (cw cs k o L) :=
  ab_callI hcw hd hst hrs (hE.call hm) hC (hc (cw cs k o L) (b + i) (b + n) (by rw [cw_len, hb, hn]) (cw_L hb hi)) (fun v c h => by rw [h.1, h.2, cw_cw hb, hL]; exact kk)
theorem cn_callIN {index i n d mc ms : Nat} {w : lp_M} {As rest : List Value} {o0 : va_E} {O : Nat → va_E} {E : Nat → List va_E} (hb : cs.length = b) (hi : L[i]? = some o0) (hn : L.length = n) (hL : L.set i (O (b + n)) ++ E (b + n) = L') (hc : Cn g w d mc ms As o0 O E) (hcw : lp_cIN u.1.cls index w As.length) (hd : decode u.2.1 pc = .ok (.invokespecial index, 3)) (hst : st = As.reverse ++ .ref (g.2.1 + (b + i)) :: rest) (hrs : (rest.map fun v => v.category).sum ≤ 8)
    (hE : lp_en M (d + 1)) (hm : w.2.2.1 ≤ 15) (hC : cells + mc ≤ M.1.cells ∧ slots + ms ≤ M.1.slots) (kk : Ab g u M (cells + mc) (slots + ms) (pc + 3) lv rest (cw cs k o L')) : Ab g u M cells slots pc lv st (cw cs k o L) :=
  ab_callIN hcw hd hst hrs (hE.call hm) hC (hc (cw cs k o L) (b + i) (b + n) (by rw [cw_len, hb, hn]) (cw_L hb hi)) (fun v c h => by rw [h.1, h.2, cw_cw hb, hL]; exact kk)
theorem cn_obj {index a d : Nat} (hlink : Cond.methodLink u.1.cls index objectInit ∈ lp_W) (hd : decode u.2.1 pc = .ok (.invokespecial index, 3)) (hE : lp_en M (d + 1)) (hrs : (st.map fun v => v.category).sum ≤ 8) (kk : Ab g u M cells slots (pc + 3) lv st cs) : Ab g u M cells slots pc lv (.ref a :: st) cs :=
  ab_objInit hlink ko_i ko_c hd (Nat.le_trans (Nat.le_add_left _ _) hE.1) (by have := hE.2; omega) kk
end CNR
theorem en_md {g : lp_G} {d mc ms : Nat} {QB : Option Value → List va_E → Prop} : lp_en (lp_md g d mc ms QB) d := ⟨Nat.le_refl _, Nat.le_refl _⟩
