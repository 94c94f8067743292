abbrev lp_Sh : Type := (Nat × Option (Nat × Nat × Nat)) ⊕ (Nat × List (Option Nat))
def lp_sh : List lp_Sh := [.inr (0, [some 1, some 2, none, some 8, some 36, some 90, some 92, some 119, some 122, some 125]), .inl (4, some (1, 143, 2)), .inr (2, [some 3, some 5, some 7, none]), .inr (1, [some 4, none]), .inl (24, none), .inr (1, [some 6, none]), .inl (24, none), .inl (24, none), .inr (4, [some 9, some 35]), .inl (25, some (3, 10, 1)), .inl (25, none), .inl (25, none), .inl (25, none), .inl (25, none), .inl (25, none), .inl (25, none), .inl (25, none), .inl (25, none), .inl (25, none), .inl (25, none), .inl (25, none), .inl (25, none), .inl (25, none), .inl (25, none), .inl (25, none), .inl (25, none), .inl (25, none), .inl (25, none), .inl (25, none), .inl (25, none), .inl (25, none), .inl (25, none), .inl (25, none), .inl (25, none), .inl (25, none), .inr (3, [none, none, none, none]), .inr (5, [some 8, some 37, none, some 38, some 39, some 40, none]), .inl (49, some (2, 41, 1)), .inl (24, none), .inl (24, none), .inl (24, none), .inr (3, [none, none, none, none]), .inr (3, [none, none, none, none]), .inr (3, [none, none, none, none]), .inr (3, [none, none, none, none]), .inr (3, [none, none, none, none]), .inr (3, [none, none, none, none]), .inr (3, [none, none, none, none]), .inr (3, [none, none, none, none]), .inr (3, [none, none, none, none]), .inr (3, [none, none, none, none]), .inr (3, [none, none, none, none]), .inr (3, [none, none, none, none]), .inr (3, [none, none, none, none]), .inr (3, [none, none, none, none]), .inr (3, [none, none, none, none]), .inr (3, [none, none, none, none]), .inr (3, [none, none, none, none]), .inr (3, [none, none, none, none]), .inr (3, [none, none, none, none]), .inr (3, [none, none, none, none]), .inr (3, [none, none, none, none]), .inr (3, [none, none, none, none]), .inr (3, [none, none, none, none]), .inr (3, [none, none, none, none]), .inr (3, [none, none, none, none]), .inr (3, [none, none, none, none]), .inr (3, [none, none, none, none]), .inr (3, [none, none, none, none]), .inr (3, [none, none, none, none]), .inr (3, [none, none, none, none]), .inr (3, [none, none, none, none]), .inr (3, [none, none, none, none]), .inr (3, [none, none, none, none]), .inr (3, [none, none, none, none]), .inr (3, [none, none, none, none]), .inr (3, [none, none, none, none]), .inr (3, [none, none, none, none]), .inr (3, [none, none, none, none]), .inr (3, [none, none, none, none]), .inr (3, [none, none, none, none]), .inr (3, [none, none, none, none]), .inr (3, [none, none, none, none]), .inr (3, [none, none, none, none]), .inr (3, [none, none, none, none]), .inr (3, [none, none, none, none]), .inr (3, [none, none, none, none]), .inr (3, [none, none, none, none]), .inr (3, [none, none, none, none]), .inr (3, [none, none, none, none]), .inr (6, [some 91, none]), .inl (900, none), .inr (7, [some 2, some 90, some 93, none]), .inl (25, some (2, 94, 1)), .inr (3, [none, none, none, none]), .inr (3, [none, none, none, none]), .inr (3, [none, none, none, none]), .inr (3, [none, none, none, none]), .inr (3, [none, none, none, none]), .inr (3, [none, none, none, none]), .inr (3, [none, none, none, none]), .inr (3, [none, none, none, none]), .inr (3, [none, none, none, none]), .inr (3, [none, none, none, none]), .inr (3, [none, none, none, none]), .inr (3, [none, none, none, none]), .inr (3, [none, none, none, none]), .inr (3, [none, none, none, none]), .inr (3, [none, none, none, none]), .inr (3, [none, none, none, none]), .inr (3, [none, none, none, none]), .inr (3, [none, none, none, none]), .inr (3, [none, none, none, none]), .inr (3, [none, none, none, none]), .inr (3, [none, none, none, none]), .inr (3, [none, none, none, none]), .inr (3, [none, none, none, none]), .inr (3, [none, none, none, none]), .inr (3, [none, none, none, none]), .inr (8, [some 90, none, none, none, none, some 120, none, some 121, none]), .inl (99, none), .inl (99, none), .inr (9, [some 119, some 123]), .inr (1, [some 124, none]), .inl (24, none), .inr (11, [some 8, some 126, some 132, some 138, some 139, some 140, some 141, none, none]), .inr (2, [some 127, some 129, some 131, none]), .inr (1, [some 128, none]), .inl (24, none), .inr (1, [some 130, none]), .inl (24, none), .inl (24, none), .inr (2, [some 133, some 135, some 137, none]), .inr (1, [some 134, none]), .inl (24, none), .inr (1, [some 136, none]), .inl (24, none), .inl (24, none), .inr (10, [some 127, none, none]), .inr (10, [some 129, none, none]), .inr (10, [some 135, none, none]), .inr (1, [some 142, none]), .inl (24, none), .inr (1, [some 144, none]), .inl (24, none), .inr (1, [some 146, none]), .inl (24, none), .inr (1, [some 148, none]), .inl (24, none), .inr (1, [some 150, none]), .inl (24, none), .inr (12, [some 152, some 153, none, none, some 154, some 155, some 156, some 157, none, some 158, some 159, some 160, some 161, some 162, some 163, none, none, none, some 164, some 165, some 166, none, some 167, some 168, none, some 169, none, some 170, some 171, some 172, some 173, some 174, some 175, none, none, none, some 176, some 177]), .inl (96, none), .inl (4, none), .inl (24, none), .inl (24, none), .inl (24, none), .inl (625, none), .inl (60, none), .inl (60, none), .inl (60, none), .inl (60, none), .inl (24, none), .inl (24, none), .inl (24, none), .inl (24, none), .inl (24, none), .inl (48, none), .inl (48, none), .inl (900, none), .inl (80, none), .inl (80, none), .inl (80, none), .inl (80, none), .inl (80, none), .inl (80, none), .inl (24, none), .inl (24, none)]
/-! the cells after both objects are made: their kinds never change; what changes are ints: a state is two functions, place and slot to int, place and index to int -/
abbrev SS : Type := (Nat → Nat → Int32) × (Nat → Nat → Int32)
def setI (S : SS) (k j : Nat) (v : Int32) : SS := (fun a b => if a = k ∧ b = j then v else S.1 a b, S.2)
def setA (S : SS) (k i : Nat) (v : Int32) : SS := (S.1, fun a b => if a = k ∧ b = i then v else S.2 a b)
def lp_fv (g : lp_G) (S : SS) (k j : Nat) (o : Option Nat) : Value := match o with
  | none => .int (S.1 k j)
  | some r => .ref (g.2.1 + r)
def lp_cell (g : lp_G) (S : SS) (k : Nat) (x : lp_Sh) : va_E := match x with
  | .inl (n, none) => .inl (g.2.2.1 0, n, .inl (S.2 k))
  | .inl (n, some (t, b, w)) => .inl (g.2.2.1 t, n, .inr (.inr (.inr (.inr (fun j => if j < n then some (g.2.1 + (b + w * j)) else none)))))
  | .inr (ci, T) => .inr (ci, T.mapIdx (lp_fv g S k))
def wc (g : lp_G) (S : SS) : List va_E := lp_sh.mapIdx (lp_cell g S)
theorem wc_at {g : lp_G} {S : SS} {k : Nat} {x : lp_Sh} (h : lp_sh[k]? = some x) : (wc g S)[k]? = some (lp_cell g S k x) := by
  simp [wc, h]
theorem wc_len (g : lp_G) (S : SS) : (wc g S).length = lp_sh.length := by simp [wc]
theorem lp_cell_ne {g : lp_G} {S S' : SS} {k : Nat} {x : lp_Sh} (h1 : S'.1 k = S.1 k) (h2 : S'.2 k = S.2 k) : lp_cell g S' k x = lp_cell g S k x := by
  rcases x with ⟨n, _ | ⟨t, b, w⟩⟩ | ⟨ci, T⟩
  · simp only [lp_cell, h2]
  · rfl
  · have e : lp_fv g S' k = lp_fv g S k := by
      funext j o
      cases o
      · simp only [lp_fv, h1]
      · rfl
    simp only [lp_cell, e]
theorem wc_set {g : lp_G} {S S' : SS} {k : Nat} {x : lp_Sh} {e : va_E} (h : ∀ j, j ≠ k → S'.1 j = S.1 j ∧ S'.2 j = S.2 j) (hk : lp_sh[k]? = some x) (he : lp_cell g S' k x = e) : (wc g S).set k e = wc g S' := by
  apply List.ext_getElem?
  intro j
  rw [List.getElem?_set]
  by_cases hj : k = j
  · subst hj
    rw [if_pos rfl, wc_len, if_pos (List.getElem?_eq_some_iff.mp hk).1, wc_at hk, he]
  · rw [if_neg hj]
    simp only [wc, List.getElem?_mapIdx]
    cases lp_sh[j]? with
    | none => rfl
    | some y => simp only [Option.map_some, lp_cell_ne (h j (fun q => hj q.symm)).1 (h j (fun q => hj q.symm)).2]
theorem wc_setI {g : lp_G} {S : SS} {k j ci : Nat} {T : List (Option Nat)} {v : Int32} (hk : lp_sh[k]? = some (.inr (ci, T))) (hT : T[j]? = some none) : (wc g S).set k (.inr (ci, (T.mapIdx (lp_fv g S k)).set j (.int v))) = wc g (setI S k j v) := by
  refine wc_set (fun i hi => ⟨?_, rfl⟩) hk ?_
  · funext b
    simp [setI, hi]
  · show Sum.inr (ci, _) = Sum.inr (ci, _)
    congr 2
    apply List.ext_getElem?
    intro i
    rw [List.getElem?_set, List.getElem?_mapIdx]
    by_cases hi : j = i
    · subst hi
      have hl : j < T.length := (List.getElem?_eq_some_iff.mp hT).1
      rw [if_pos rfl, List.length_mapIdx, if_pos hl, hT]
      simp [lp_fv, setI]
    · simp only [hi, if_false, List.getElem?_mapIdx]
      cases T[i]? with
      | none => rfl
      | some o =>
        cases o with
        | none => simp [lp_fv, setI, Ne.symm hi]
        | some r => rfl
theorem wc_setA {g : lp_G} {S : SS} {k n i : Nat} {v : Int32} (hk : lp_sh[k]? = some (.inl (n, none))) : (wc g S).set k (.inl (g.2.2.1 0, n, .inl (upd (S.2 k) i v))) = wc g (setA S k i v) := by
  refine wc_set (fun j hj => ⟨rfl, ?_⟩) hk ?_
  · funext b
    simp [setA, hj]
  · show Sum.inl (g.2.2.1 0, n, Sum.inl _) = Sum.inl (g.2.2.1 0, n, Sum.inl _)
    congr 3
    refine congrArg Sum.inl (funext fun b => ?_)
    simp [setA, upd]
def lp_QS (g : lp_G) (QS : Option Value → SS → Prop) : Option Value → List va_E → Prop := fun v cs => ∃ S, cs = wc g S ∧ QS v S
theorem lp_QS.use {g : lp_G} {QS : Option Value → SS → Prop} {v : Option Value} {cs : List va_E} (P : Option Value → List va_E → Prop) (h : lp_QS g QS v cs) (k : ∀ S', QS v S' → P v (wc g S')) : P v cs := by
  obtain ⟨S', h1, h2⟩ := h
  rw [h1]
  exact k S' h2
/-- a method that answers an int (or a boolean), one that answers nothing -/
def MtI (g : lp_G) (w : lp_M) (d : Nat) (av : List Value) (S : SS) (Q : Int32 → SS → Prop) : Prop := Mb g w d 0 0 av (wc g S) (lp_QS g (fun v S' => ∃ r, v = some (.int r) ∧ Q r S'))
def MtV (g : lp_G) (w : lp_M) (d : Nat) (av : List Value) (S : SS) (Q : SS → Prop) : Prop := Mb g w d 0 0 av (wc g S) (lp_QS g (fun v S' => v = none ∧ Q S'))
theorem MtI.mono {g : lp_G} {w : lp_M} {d : Nat} {av : List Value} {S : SS} {Q Q' : Int32 → SS → Prop} (h : MtI g w d av S Q) (hq : ∀ r S', Q r S' → Q' r S') : MtI g w d av S Q' :=
  Mb.mono h (fun _ _ ⟨S', e, r, hv, hQ⟩ => ⟨S', e, r, hv, hq r S' hQ⟩)
theorem MtV.mono {g : lp_G} {w : lp_M} {d : Nat} {av : List Value} {S : SS} {Q Q' : SS → Prop} (h : MtV g w d av S Q) (hq : ∀ S', Q S' → Q' S') : MtV g w d av S Q' :=
  Mb.mono h (fun _ _ ⟨S', e, hv, hQ⟩ => ⟨S', e, hv, hq S' hQ⟩)
def mdI (g : lp_G) (d : Nat) (Q : Int32 → SS → Prop) : lp_O := lp_md g d 0 0 (lp_QS g (fun v S' => ∃ r, v = some (.int r) ∧ Q r S'))
def mdV (g : lp_G) (d : Nat) (Q : SS → Prop) : lp_O := lp_md g d 0 0 (lp_QS g (fun v S' => v = none ∧ Q S'))
abbrev AtI (g : lp_G) (u : lp_M) (d : Nat) (Q : Int32 → SS → Prop) (pc : Nat) (lv : List (Nat × Value)) (st : List Value) (S : SS) : Prop := Ab g u (mdI g d Q) 0 0 pc lv st (wc g S)
abbrev AtV (g : lp_G) (u : lp_M) (d : Nat) (Q : SS → Prop) (pc : Nat) (lv : List (Nat × Value)) (st : List Value) (S : SS) : Prop := Ab g u (mdV g d Q) 0 0 pc lv st (wc g S)
/-- the room for a call of depth d -/
def lp_en (M : lp_O) (d : Nat) : Prop := d ≤ M.1.frames ∧ 34 * d ≤ M.1.locals
theorem enI {g : lp_G} {d : Nat} {Q : Int32 → SS → Prop} : lp_en (mdI g d Q) d := ⟨Nat.le_refl _, Nat.le_refl _⟩
theorem enV {g : lp_G} {d : Nat} {Q : SS → Prop} : lp_en (mdV g d Q) d := ⟨Nat.le_refl _, Nat.le_refl _⟩
theorem lp_en.call {M : lp_O} {d : Nat} (h : lp_en M (d + 1)) {w : lp_M} (hm : w.2.2.1 ≤ 15) : d + 1 ≤ M.1.frames ∧ 8 + (w.2.2.1 + 11) + 34 * d ≤ M.1.locals := ⟨h.1, by have := h.2; omega⟩
section LPC
variable {g : lp_G} {u : lp_M} {M : lp_O} {cells slots pc : Nat} {lv : List (Nat × Value)} {st : List Value} {S : SS}
theorem sa_getI {index ci j k : Nat} {T : List (Option Nat)} (hf : lp_F u.1.cls index ci j) (hd : decode u.2.1 pc = .ok (.getfield index, 3)) (hs : lp_sh[k]? = some (.inr (ci, T))) (hT : T[j]? = some none) (kk : Ab g u M cells slots (pc + 3) lv (.int (S.1 k j) :: st) (wc g S)) : Ab g u M cells slots pc lv (.ref (g.2.1 + k) :: st) (wc g S) :=
  ab_get (v := .int (S.1 k j)) hf hd (wc_at hs) (by rw [List.getElem?_mapIdx, hT]; rfl) kk
theorem sa_getR {index ci j k r : Nat} {T : List (Option Nat)} (hf : lp_F u.1.cls index ci j) (hd : decode u.2.1 pc = .ok (.getfield index, 3)) (hs : lp_sh[k]? = some (.inr (ci, T))) (hT : T[j]? = some (some r)) (kk : Ab g u M cells slots (pc + 3) lv (.ref (g.2.1 + r) :: st) (wc g S)) : Ab g u M cells slots pc lv (.ref (g.2.1 + k) :: st) (wc g S) :=
  ab_get (v := .ref (g.2.1 + r)) hf hd (wc_at hs) (by rw [List.getElem?_mapIdx, hT]; rfl) kk
theorem sa_putI {index ci j k : Nat} {T : List (Option Nat)} {v : Int32} (hf : lp_Fp u.1.cls index ci j .int false) (hd : decode u.2.1 pc = .ok (.putfield index, 3)) (hs : lp_sh[k]? = some (.inr (ci, T))) (hT : T[j]? = some none) (kk : Ab g u M cells slots (pc + 3) lv st (wc g (setI S k j v))) : Ab g u M cells slots pc lv (.int v :: .ref (g.2.1 + k) :: st) (wc g S) :=
  ab_put hf hd (wc_at hs) (by rw [List.length_mapIdx]; exact (List.getElem?_eq_some_iff.mp hT).1) rfl rfl (by rw [wc_setI hs hT]; exact kk)
theorem sa_putZ {index ci j k : Nat} {T : List (Option Nat)} {v : Int32} (hf : lp_Fp u.1.cls index ci j .boolean false) (hd : decode u.2.1 pc = .ok (.putfield index, 3)) (hs : lp_sh[k]? = some (.inr (ci, T))) (hT : T[j]? = some none) (hn : narrow .boolean (.int v) = .int v) (hfit : fits .boolean (.int v) = true) (kk : Ab g u M cells slots (pc + 3) lv st (wc g (setI S k j v))) : Ab g u M cells slots pc lv (.int v :: .ref (g.2.1 + k) :: st) (wc g S) :=
  ab_put hf hd (wc_at hs) (by rw [List.length_mapIdx]; exact (List.getElem?_eq_some_iff.mp hT).1) hn hfit (by rw [wc_setI hs hT]; exact kk)
theorem sa_iald {k n : Nat} {i : Int32} (hd : decode u.2.1 pc = .ok (.iaload, 1)) (hs : lp_sh[k]? = some (.inl (n, none))) (hin : vp_in i n) (kk : Ab g u M cells slots (pc + 1) lv (.int (S.2 k i.toNatClampNeg) :: st) (wc g S)) : Ab g u M cells slots pc lv (.int i :: .ref (g.2.1 + k) :: st) (wc g S) :=
  ab_iald (f := S.2 k) hd (wc_at hs) hin kk
theorem sa_iast {k n : Nat} {i x : Int32} (hd : decode u.2.1 pc = .ok (.iastore, 1)) (hs : lp_sh[k]? = some (.inl (n, none))) (hin : vp_in i n) (kk : Ab g u M cells slots (pc + 1) lv st (wc g (setA S k i.toNatClampNeg x))) : Ab g u M cells slots pc lv (.int x :: .int i :: .ref (g.2.1 + k) :: st) (wc g S) :=
  ab_iast (f := S.2 k) hd (wc_at hs) hin (by rw [wc_setA hs]; exact kk)
theorem sa_aald {k n t b w : Nat} {i : Int32} {ty : FieldType} (hd : decode u.2.1 pc = .ok (.aaload, 1)) (hs : lp_sh[k]? = some (.inl (n, some (t, b, w)))) (ht : (lp_tys g.2.2.1)[t]? = some (g.2.2.1 t, ty)) (hty : ty.isReference = true) (hin : vp_in i n) (kk : Ab g u M cells slots (pc + 1) lv (.ref (g.2.1 + (b + w * i.toNatClampNeg)) :: st) (wc g S)) : Ab g u M cells slots pc lv (.int i :: .ref (g.2.1 + k) :: st) (wc g S) :=
  ab_aald hd (wc_at hs) ht hty hin (if_pos (Nat.not_le.mp fun q => hin (Or.inr q))) kk
theorem sa_iretI {d : Nat} {Q : Int32 → SS → Prop} {v : Int32} (hr : u.2.2.2 = some .int) (hd : decode u.2.1 pc = .ok (.ireturn, 1)) (hq : Q v S) : Ab g u (mdI g d Q) 0 0 pc lv [.int v] (wc g S) := ab_iret hr hd ⟨S, rfl, v, rfl, hq⟩
theorem sa_iretZ {d : Nat} {Q : Int32 → SS → Prop} {v : Int32} (hr : u.2.2.2 = some .boolean) (hn : narrow .boolean (.int v) = .int v) (hd : decode u.2.1 pc = .ok (.ireturn, 1)) (hq : Q v S) : Ab g u (mdI g d Q) 0 0 pc lv [.int v] (wc g S) := ab_zret hr hn hd ⟨S, rfl, v, rfl, hq⟩
theorem sa_ret {d : Nat} {Q : SS → Prop} (hr : u.2.2.2 = none) (hd : decode u.2.1 pc = .ok (.return_, 1)) (hq : Q S) : Ab g u (mdV g d Q) 0 0 pc lv [] (wc g S) := ab_vret hr hd ⟨S, rfl, rfl, hq⟩
theorem sa_entryI {d : Nat} {Q : Int32 → SS → Prop} {av : List Value} {lv' : List (Nat × Value)} (hy : plainName u.1.cls = true) (hn : (lg_sl av).length ≤ u.2.2.1) (hlv : lv_args 0 av = lv') (h : Ab g u (mdI g d Q) 0 0 0 lv' [] (wc g S)) : MtI g u d av S Q := ab_entry hy hn (by rw [hlv]; exact h)
theorem sa_entryV {d : Nat} {Q : SS → Prop} {av : List Value} {lv' : List (Nat × Value)} (hy : plainName u.1.cls = true) (hn : (lg_sl av).length ≤ u.2.2.1) (hlv : lv_args 0 av = lv') (h : Ab g u (mdV g d Q) 0 0 0 lv' [] (wc g S)) : MtV g u d av S Q := ab_entry hy hn (by rw [hlv]; exact h)
theorem sa_callVi {index k ci d : Nat} {w : lp_M} {T : List (Option Nat)} {As rest : List Value} {q0 : vw_C} {Q : Int32 → SS → Prop} (hcw : lp_cV u.1.cls index w As.length) (hd : decode u.2.1 pc = .ok (.invokevirtual index, 3)) (hs : lp_sh[k]? = some (.inr (ci, T))) (hci : vwCl[ci]? = some q0) (hcn : q0.1 = w.1.cls) (hst : st = As.reverse ++ .ref (g.2.1 + k) :: rest) (hrs : (rest.map fun v => v.category).sum ≤ 8)
    (hE : lp_en M (d + 1)) (hm : w.2.2.1 ≤ 15) (hC : cells ≤ M.1.cells ∧ slots ≤ M.1.slots) (hM : MtI g w d (.ref (g.2.1 + k) :: As) S Q) (kk : ∀ r S', Q r S' → Ab g u M cells slots (pc + 3) lv (.int r :: rest) (wc g S')) : Ab g u M cells slots pc lv st (wc g S) :=
  ab_callV hcw hd (wc_at hs) hci hcn hst hrs (hE.call hm) hC hM (fun v cs' h => lp_QS.use (fun v cs => Ab g u M cells slots (pc + 3) lv (v.toList ++ rest) cs) h (fun S' ⟨r, hv, hQ⟩ => by rw [hv]; exact kk r S' hQ))
theorem sa_callVv {index k ci d : Nat} {w : lp_M} {T : List (Option Nat)} {As rest : List Value} {q0 : vw_C} {Q : SS → Prop} (hcw : lp_cV u.1.cls index w As.length) (hd : decode u.2.1 pc = .ok (.invokevirtual index, 3)) (hs : lp_sh[k]? = some (.inr (ci, T))) (hci : vwCl[ci]? = some q0) (hcn : q0.1 = w.1.cls) (hst : st = As.reverse ++ .ref (g.2.1 + k) :: rest) (hrs : (rest.map fun v => v.category).sum ≤ 8)
    (hE : lp_en M (d + 1)) (hm : w.2.2.1 ≤ 15) (hC : cells ≤ M.1.cells ∧ slots ≤ M.1.slots) (hM : MtV g w d (.ref (g.2.1 + k) :: As) S Q) (kk : ∀ S', Q S' → Ab g u M cells slots (pc + 3) lv rest (wc g S')) : Ab g u M cells slots pc lv st (wc g S) :=
  ab_callV hcw hd (wc_at hs) hci hcn hst hrs (hE.call hm) hC hM (fun v cs' h => lp_QS.use (fun v cs => Ab g u M cells slots (pc + 3) lv (v.toList ++ rest) cs) h (fun S' ⟨hv, hQ⟩ => by rw [hv]; exact kk S' hQ))
theorem sa_callVNi {index k ci d : Nat} {w : lp_M} {T : List (Option Nat)} {As rest : List Value} {q0 : vw_C} {Q : Int32 → SS → Prop} (hcw : lp_cVN u.1.cls index w As.length) (hd : decode u.2.1 pc = .ok (.invokevirtual index, 3)) (hs : lp_sh[k]? = some (.inr (ci, T))) (hci : vwCl[ci]? = some q0) (hcn : q0.1 = w.1.cls) (hst : st = As.reverse ++ .ref (g.2.1 + k) :: rest) (hrs : (rest.map fun v => v.category).sum ≤ 8)
    (hE : lp_en M (d + 1)) (hm : w.2.2.1 ≤ 15) (hC : cells ≤ M.1.cells ∧ slots ≤ M.1.slots) (hM : MtI g w d (.ref (g.2.1 + k) :: As) S Q) (kk : ∀ r S', Q r S' → Ab g u M cells slots (pc + 3) lv (.int r :: rest) (wc g S')) : Ab g u M cells slots pc lv st (wc g S) :=
  ab_callVN hcw hd (wc_at hs) hci hcn hst hrs (hE.call hm) hC hM (fun v cs' h => lp_QS.use (fun v cs => Ab g u M cells slots (pc + 3) lv (v.toList ++ rest) cs) h (fun S' ⟨r, hv, hQ⟩ => by rw [hv]; exact kk r S' hQ))
theorem sa_callVNv {index k ci d : Nat} {w : lp_M} {T : List (Option Nat)} {As rest : List Value} {q0 : vw_C} {Q : SS → Prop} (hcw : lp_cVN u.1.cls index w As.length) (hd : decode u.2.1 pc = .ok (.invokevirtual index, 3)) (hs : lp_sh[k]? = some (.inr (ci, T))) (hci : vwCl[ci]? = some q0) (hcn : q0.1 = w.1.cls) (hst : st = As.reverse ++ .ref (g.2.1 + k) :: rest) (hrs : (rest.map fun v => v.category).sum ≤ 8)
    (hE : lp_en M (d + 1)) (hm : w.2.2.1 ≤ 15) (hC : cells ≤ M.1.cells ∧ slots ≤ M.1.slots) (hM : MtV g w d (.ref (g.2.1 + k) :: As) S Q) (kk : ∀ S', Q S' → Ab g u M cells slots (pc + 3) lv rest (wc g S')) : Ab g u M cells slots pc lv st (wc g S) :=
  ab_callVN hcw hd (wc_at hs) hci hcn hst hrs (hE.call hm) hC hM (fun v cs' h => lp_QS.use (fun v cs => Ab g u M cells slots (pc + 3) lv (v.toList ++ rest) cs) h (fun S' ⟨hv, hQ⟩ => by rw [hv]; exact kk S' hQ))
theorem sa_callSi {index d : Nat} {w : lp_M} {As rest : List Value} {Q : Int32 → SS → Prop} (hcw : lp_cS u.1.cls index w As.length) (hd : decode u.2.1 pc = .ok (.invokestatic index, 3)) (hst : st = As.reverse ++ rest) (hrs : (rest.map fun v => v.category).sum ≤ 8)
    (hE : lp_en M (d + 1)) (hm : w.2.2.1 ≤ 15) (hC : cells ≤ M.1.cells ∧ slots ≤ M.1.slots) (hM : MtI g w d As S Q) (kk : ∀ r S', Q r S' → Ab g u M cells slots (pc + 3) lv (.int r :: rest) (wc g S')) : Ab g u M cells slots pc lv st (wc g S) :=
  ab_callS hcw hd hst hrs (hE.call hm) hC hM (fun v cs' h => lp_QS.use (fun v cs => Ab g u M cells slots (pc + 3) lv (v.toList ++ rest) cs) h (fun S' ⟨r, hv, hQ⟩ => by rw [hv]; exact kk r S' hQ))
theorem sa_callSNi {index d : Nat} {w : lp_M} {As rest : List Value} {Q : Int32 → SS → Prop} (hcw : lp_cSN u.1.cls index w As.length) (hd : decode u.2.1 pc = .ok (.invokestatic index, 3)) (hst : st = As.reverse ++ rest) (hrs : (rest.map fun v => v.category).sum ≤ 8)
    (hE : lp_en M (d + 1)) (hm : w.2.2.1 ≤ 15) (hC : cells ≤ M.1.cells ∧ slots ≤ M.1.slots) (hM : MtI g w d As S Q) (kk : ∀ r S', Q r S' → Ab g u M cells slots (pc + 3) lv (.int r :: rest) (wc g S')) : Ab g u M cells slots pc lv st (wc g S) :=
  ab_callSN hcw hd hst hrs (hE.call hm) hC hM (fun v cs' h => lp_QS.use (fun v cs => Ab g u M cells slots (pc + 3) lv (v.toList ++ rest) cs) h (fun S' ⟨r, hv, hQ⟩ => by rw [hv]; exact kk r S' hQ))
end LPC
theorem sh_0 : lp_sh[0]? = some (.inr (0, [some 1, some 2, none, some 8, some 36, some 90, some 92, some 119, some 122, some 125])) := rfl
theorem sh_1 : lp_sh[1]? = some (.inl (4, some (1, 143, 2))) := rfl
theorem sh_2 : lp_sh[2]? = some (.inr (2, [some 3, some 5, some 7, none])) := rfl
theorem sh_3 : lp_sh[3]? = some (.inr (1, [some 4, none])) := rfl
theorem sh_4 : lp_sh[4]? = some (.inl (24, none)) := rfl
theorem sh_5 : lp_sh[5]? = some (.inr (1, [some 6, none])) := rfl
theorem sh_6 : lp_sh[6]? = some (.inl (24, none)) := rfl
theorem sh_7 : lp_sh[7]? = some (.inl (24, none)) := rfl
theorem sh_8 : lp_sh[8]? = some (.inr (4, [some 9, some 35])) := rfl
theorem sh_9 : lp_sh[9]? = some (.inl (25, some (3, 10, 1))) := rfl
theorem sh_10 : lp_sh[10]? = some (.inl (25, none)) := rfl
theorem sh_11 : lp_sh[11]? = some (.inl (25, none)) := rfl
theorem sh_12 : lp_sh[12]? = some (.inl (25, none)) := rfl
theorem sh_13 : lp_sh[13]? = some (.inl (25, none)) := rfl
theorem sh_14 : lp_sh[14]? = some (.inl (25, none)) := rfl
theorem sh_15 : lp_sh[15]? = some (.inl (25, none)) := rfl
theorem sh_16 : lp_sh[16]? = some (.inl (25, none)) := rfl
theorem sh_17 : lp_sh[17]? = some (.inl (25, none)) := rfl
theorem sh_18 : lp_sh[18]? = some (.inl (25, none)) := rfl
theorem sh_19 : lp_sh[19]? = some (.inl (25, none)) := rfl
theorem sh_20 : lp_sh[20]? = some (.inl (25, none)) := rfl
theorem sh_21 : lp_sh[21]? = some (.inl (25, none)) := rfl
theorem sh_22 : lp_sh[22]? = some (.inl (25, none)) := rfl
theorem sh_23 : lp_sh[23]? = some (.inl (25, none)) := rfl
theorem sh_24 : lp_sh[24]? = some (.inl (25, none)) := rfl
theorem sh_25 : lp_sh[25]? = some (.inl (25, none)) := rfl
theorem sh_26 : lp_sh[26]? = some (.inl (25, none)) := rfl
theorem sh_27 : lp_sh[27]? = some (.inl (25, none)) := rfl
theorem sh_28 : lp_sh[28]? = some (.inl (25, none)) := rfl
theorem sh_29 : lp_sh[29]? = some (.inl (25, none)) := rfl
theorem sh_30 : lp_sh[30]? = some (.inl (25, none)) := rfl
theorem sh_31 : lp_sh[31]? = some (.inl (25, none)) := rfl
theorem sh_32 : lp_sh[32]? = some (.inl (25, none)) := rfl
theorem sh_33 : lp_sh[33]? = some (.inl (25, none)) := rfl
theorem sh_34 : lp_sh[34]? = some (.inl (25, none)) := rfl
theorem sh_35 : lp_sh[35]? = some (.inr (3, [none, none, none, none])) := rfl
theorem sh_36 : lp_sh[36]? = some (.inr (5, [some 8, some 37, none, some 38, some 39, some 40, none])) := rfl
theorem sh_37 : lp_sh[37]? = some (.inl (49, some (2, 41, 1))) := rfl
theorem sh_38 : lp_sh[38]? = some (.inl (24, none)) := rfl
theorem sh_39 : lp_sh[39]? = some (.inl (24, none)) := rfl
theorem sh_40 : lp_sh[40]? = some (.inl (24, none)) := rfl
theorem sh_41 : lp_sh[41]? = some (.inr (3, [none, none, none, none])) := rfl
theorem sh_42 : lp_sh[42]? = some (.inr (3, [none, none, none, none])) := rfl
theorem sh_43 : lp_sh[43]? = some (.inr (3, [none, none, none, none])) := rfl
theorem sh_44 : lp_sh[44]? = some (.inr (3, [none, none, none, none])) := rfl
theorem sh_45 : lp_sh[45]? = some (.inr (3, [none, none, none, none])) := rfl
theorem sh_46 : lp_sh[46]? = some (.inr (3, [none, none, none, none])) := rfl
theorem sh_47 : lp_sh[47]? = some (.inr (3, [none, none, none, none])) := rfl
theorem sh_48 : lp_sh[48]? = some (.inr (3, [none, none, none, none])) := rfl
theorem sh_49 : lp_sh[49]? = some (.inr (3, [none, none, none, none])) := rfl
theorem sh_50 : lp_sh[50]? = some (.inr (3, [none, none, none, none])) := rfl
theorem sh_51 : lp_sh[51]? = some (.inr (3, [none, none, none, none])) := rfl
theorem sh_52 : lp_sh[52]? = some (.inr (3, [none, none, none, none])) := rfl
theorem sh_53 : lp_sh[53]? = some (.inr (3, [none, none, none, none])) := rfl
theorem sh_54 : lp_sh[54]? = some (.inr (3, [none, none, none, none])) := rfl
theorem sh_55 : lp_sh[55]? = some (.inr (3, [none, none, none, none])) := rfl
theorem sh_56 : lp_sh[56]? = some (.inr (3, [none, none, none, none])) := rfl
theorem sh_57 : lp_sh[57]? = some (.inr (3, [none, none, none, none])) := rfl
theorem sh_58 : lp_sh[58]? = some (.inr (3, [none, none, none, none])) := rfl
theorem sh_59 : lp_sh[59]? = some (.inr (3, [none, none, none, none])) := rfl
theorem sh_60 : lp_sh[60]? = some (.inr (3, [none, none, none, none])) := rfl
theorem sh_61 : lp_sh[61]? = some (.inr (3, [none, none, none, none])) := rfl
theorem sh_62 : lp_sh[62]? = some (.inr (3, [none, none, none, none])) := rfl
theorem sh_63 : lp_sh[63]? = some (.inr (3, [none, none, none, none])) := rfl
theorem sh_64 : lp_sh[64]? = some (.inr (3, [none, none, none, none])) := rfl
theorem sh_65 : lp_sh[65]? = some (.inr (3, [none, none, none, none])) := rfl
theorem sh_66 : lp_sh[66]? = some (.inr (3, [none, none, none, none])) := rfl
theorem sh_67 : lp_sh[67]? = some (.inr (3, [none, none, none, none])) := rfl
theorem sh_68 : lp_sh[68]? = some (.inr (3, [none, none, none, none])) := rfl
theorem sh_69 : lp_sh[69]? = some (.inr (3, [none, none, none, none])) := rfl
theorem sh_70 : lp_sh[70]? = some (.inr (3, [none, none, none, none])) := rfl
theorem sh_71 : lp_sh[71]? = some (.inr (3, [none, none, none, none])) := rfl
theorem sh_72 : lp_sh[72]? = some (.inr (3, [none, none, none, none])) := rfl
theorem sh_73 : lp_sh[73]? = some (.inr (3, [none, none, none, none])) := rfl
theorem sh_74 : lp_sh[74]? = some (.inr (3, [none, none, none, none])) := rfl
theorem sh_75 : lp_sh[75]? = some (.inr (3, [none, none, none, none])) := rfl
theorem sh_76 : lp_sh[76]? = some (.inr (3, [none, none, none, none])) := rfl
theorem sh_77 : lp_sh[77]? = some (.inr (3, [none, none, none, none])) := rfl
theorem sh_78 : lp_sh[78]? = some (.inr (3, [none, none, none, none])) := rfl
theorem sh_79 : lp_sh[79]? = some (.inr (3, [none, none, none, none])) := rfl
theorem sh_80 : lp_sh[80]? = some (.inr (3, [none, none, none, none])) := rfl
theorem sh_81 : lp_sh[81]? = some (.inr (3, [none, none, none, none])) := rfl
theorem sh_82 : lp_sh[82]? = some (.inr (3, [none, none, none, none])) := rfl
theorem sh_83 : lp_sh[83]? = some (.inr (3, [none, none, none, none])) := rfl
theorem sh_84 : lp_sh[84]? = some (.inr (3, [none, none, none, none])) := rfl
theorem sh_85 : lp_sh[85]? = some (.inr (3, [none, none, none, none])) := rfl
theorem sh_86 : lp_sh[86]? = some (.inr (3, [none, none, none, none])) := rfl
theorem sh_87 : lp_sh[87]? = some (.inr (3, [none, none, none, none])) := rfl
theorem sh_88 : lp_sh[88]? = some (.inr (3, [none, none, none, none])) := rfl
theorem sh_89 : lp_sh[89]? = some (.inr (3, [none, none, none, none])) := rfl
theorem sh_90 : lp_sh[90]? = some (.inr (6, [some 91, none])) := rfl
theorem sh_91 : lp_sh[91]? = some (.inl (900, none)) := rfl
theorem sh_92 : lp_sh[92]? = some (.inr (7, [some 2, some 90, some 93, none])) := rfl
theorem sh_93 : lp_sh[93]? = some (.inl (25, some (2, 94, 1))) := rfl
theorem sh_94 : lp_sh[94]? = some (.inr (3, [none, none, none, none])) := rfl
theorem sh_95 : lp_sh[95]? = some (.inr (3, [none, none, none, none])) := rfl
theorem sh_96 : lp_sh[96]? = some (.inr (3, [none, none, none, none])) := rfl
theorem sh_97 : lp_sh[97]? = some (.inr (3, [none, none, none, none])) := rfl
theorem sh_98 : lp_sh[98]? = some (.inr (3, [none, none, none, none])) := rfl
theorem sh_99 : lp_sh[99]? = some (.inr (3, [none, none, none, none])) := rfl
theorem sh_100 : lp_sh[100]? = some (.inr (3, [none, none, none, none])) := rfl
theorem sh_101 : lp_sh[101]? = some (.inr (3, [none, none, none, none])) := rfl
theorem sh_102 : lp_sh[102]? = some (.inr (3, [none, none, none, none])) := rfl
theorem sh_103 : lp_sh[103]? = some (.inr (3, [none, none, none, none])) := rfl
theorem sh_104 : lp_sh[104]? = some (.inr (3, [none, none, none, none])) := rfl
theorem sh_105 : lp_sh[105]? = some (.inr (3, [none, none, none, none])) := rfl
theorem sh_106 : lp_sh[106]? = some (.inr (3, [none, none, none, none])) := rfl
theorem sh_107 : lp_sh[107]? = some (.inr (3, [none, none, none, none])) := rfl
theorem sh_108 : lp_sh[108]? = some (.inr (3, [none, none, none, none])) := rfl
theorem sh_109 : lp_sh[109]? = some (.inr (3, [none, none, none, none])) := rfl
theorem sh_110 : lp_sh[110]? = some (.inr (3, [none, none, none, none])) := rfl
theorem sh_111 : lp_sh[111]? = some (.inr (3, [none, none, none, none])) := rfl
theorem sh_112 : lp_sh[112]? = some (.inr (3, [none, none, none, none])) := rfl
theorem sh_113 : lp_sh[113]? = some (.inr (3, [none, none, none, none])) := rfl
theorem sh_114 : lp_sh[114]? = some (.inr (3, [none, none, none, none])) := rfl
theorem sh_115 : lp_sh[115]? = some (.inr (3, [none, none, none, none])) := rfl
theorem sh_116 : lp_sh[116]? = some (.inr (3, [none, none, none, none])) := rfl
theorem sh_117 : lp_sh[117]? = some (.inr (3, [none, none, none, none])) := rfl
theorem sh_118 : lp_sh[118]? = some (.inr (3, [none, none, none, none])) := rfl
theorem sh_119 : lp_sh[119]? = some (.inr (8, [some 90, none, none, none, none, some 120, none, some 121, none])) := rfl
theorem sh_120 : lp_sh[120]? = some (.inl (99, none)) := rfl
theorem sh_121 : lp_sh[121]? = some (.inl (99, none)) := rfl
theorem sh_122 : lp_sh[122]? = some (.inr (9, [some 119, some 123])) := rfl
theorem sh_123 : lp_sh[123]? = some (.inr (1, [some 124, none])) := rfl
theorem sh_124 : lp_sh[124]? = some (.inl (24, none)) := rfl
theorem sh_125 : lp_sh[125]? = some (.inr (11, [some 8, some 126, some 132, some 138, some 139, some 140, some 141, none, none])) := rfl
theorem sh_126 : lp_sh[126]? = some (.inr (2, [some 127, some 129, some 131, none])) := rfl
theorem sh_127 : lp_sh[127]? = some (.inr (1, [some 128, none])) := rfl
theorem sh_128 : lp_sh[128]? = some (.inl (24, none)) := rfl
theorem sh_129 : lp_sh[129]? = some (.inr (1, [some 130, none])) := rfl
theorem sh_130 : lp_sh[130]? = some (.inl (24, none)) := rfl
theorem sh_131 : lp_sh[131]? = some (.inl (24, none)) := rfl
theorem sh_132 : lp_sh[132]? = some (.inr (2, [some 133, some 135, some 137, none])) := rfl
theorem sh_133 : lp_sh[133]? = some (.inr (1, [some 134, none])) := rfl
theorem sh_134 : lp_sh[134]? = some (.inl (24, none)) := rfl
theorem sh_135 : lp_sh[135]? = some (.inr (1, [some 136, none])) := rfl
theorem sh_136 : lp_sh[136]? = some (.inl (24, none)) := rfl
theorem sh_137 : lp_sh[137]? = some (.inl (24, none)) := rfl
theorem sh_138 : lp_sh[138]? = some (.inr (10, [some 127, none, none])) := rfl
theorem sh_139 : lp_sh[139]? = some (.inr (10, [some 129, none, none])) := rfl
theorem sh_140 : lp_sh[140]? = some (.inr (10, [some 135, none, none])) := rfl
theorem sh_141 : lp_sh[141]? = some (.inr (1, [some 142, none])) := rfl
theorem sh_142 : lp_sh[142]? = some (.inl (24, none)) := rfl
theorem sh_143 : lp_sh[143]? = some (.inr (1, [some 144, none])) := rfl
theorem sh_144 : lp_sh[144]? = some (.inl (24, none)) := rfl
theorem sh_145 : lp_sh[145]? = some (.inr (1, [some 146, none])) := rfl
theorem sh_146 : lp_sh[146]? = some (.inl (24, none)) := rfl
theorem sh_147 : lp_sh[147]? = some (.inr (1, [some 148, none])) := rfl
theorem sh_148 : lp_sh[148]? = some (.inl (24, none)) := rfl
theorem sh_149 : lp_sh[149]? = some (.inr (1, [some 150, none])) := rfl
theorem sh_150 : lp_sh[150]? = some (.inl (24, none)) := rfl
theorem sh_151 : lp_sh[151]? = some (.inr (12, [some 152, some 153, none, none, some 154, some 155, some 156, some 157, none, some 158, some 159, some 160, some 161, some 162, some 163, none, none, none, some 164, some 165, some 166, none, some 167, some 168, none, some 169, none, some 170, some 171, some 172, some 173, some 174, some 175, none, none, none, some 176, some 177])) := rfl
theorem sh_152 : lp_sh[152]? = some (.inl (96, none)) := rfl
theorem sh_153 : lp_sh[153]? = some (.inl (4, none)) := rfl
theorem sh_154 : lp_sh[154]? = some (.inl (24, none)) := rfl
theorem sh_155 : lp_sh[155]? = some (.inl (24, none)) := rfl
theorem sh_156 : lp_sh[156]? = some (.inl (24, none)) := rfl
theorem sh_157 : lp_sh[157]? = some (.inl (625, none)) := rfl
theorem sh_158 : lp_sh[158]? = some (.inl (60, none)) := rfl
theorem sh_159 : lp_sh[159]? = some (.inl (60, none)) := rfl
theorem sh_160 : lp_sh[160]? = some (.inl (60, none)) := rfl
theorem sh_161 : lp_sh[161]? = some (.inl (60, none)) := rfl
theorem sh_162 : lp_sh[162]? = some (.inl (24, none)) := rfl
theorem sh_163 : lp_sh[163]? = some (.inl (24, none)) := rfl
theorem sh_164 : lp_sh[164]? = some (.inl (24, none)) := rfl
theorem sh_165 : lp_sh[165]? = some (.inl (24, none)) := rfl
theorem sh_166 : lp_sh[166]? = some (.inl (24, none)) := rfl
theorem sh_167 : lp_sh[167]? = some (.inl (48, none)) := rfl
theorem sh_168 : lp_sh[168]? = some (.inl (48, none)) := rfl
theorem sh_169 : lp_sh[169]? = some (.inl (900, none)) := rfl
theorem sh_170 : lp_sh[170]? = some (.inl (80, none)) := rfl
theorem sh_171 : lp_sh[171]? = some (.inl (80, none)) := rfl
theorem sh_172 : lp_sh[172]? = some (.inl (80, none)) := rfl
theorem sh_173 : lp_sh[173]? = some (.inl (80, none)) := rfl
theorem sh_174 : lp_sh[174]? = some (.inl (80, none)) := rfl
theorem sh_175 : lp_sh[175]? = some (.inl (80, none)) := rfl
theorem sh_176 : lp_sh[176]? = some (.inl (24, none)) := rfl
theorem sh_177 : lp_sh[177]? = some (.inl (24, none)) := rfl
theorem sr_1 (i : Nat) (hi : i < 4) : lp_sh[143 + 2 * i]? = some (.inr (1, [some (143 + 2 * i + 1), none])) := match i, hi with
  | 0, _ => rfl
  | 1, _ => rfl
  | 2, _ => rfl
  | 3, _ => rfl
  | i + 4, hi => absurd hi (by omega)
theorem sr_1_1 (i : Nat) (hi : i < 4) : lp_sh[143 + 2 * i + 1]? = some (.inl (24, none)) := match i, hi with
  | 0, _ => rfl
  | 1, _ => rfl
  | 2, _ => rfl
  | 3, _ => rfl
  | i + 4, hi => absurd hi (by omega)
theorem sr_9 (i : Nat) (hi : i < 25) : lp_sh[10 + 1 * i]? = some (.inl (25, none)) := match i, hi with
  | 0, _ => rfl
  | 1, _ => rfl
  | 2, _ => rfl
  | 3, _ => rfl
  | 4, _ => rfl
  | 5, _ => rfl
  | 6, _ => rfl
  | 7, _ => rfl
  | 8, _ => rfl
  | 9, _ => rfl
  | 10, _ => rfl
  | 11, _ => rfl
  | 12, _ => rfl
  | 13, _ => rfl
  | 14, _ => rfl
  | 15, _ => rfl
  | 16, _ => rfl
  | 17, _ => rfl
  | 18, _ => rfl
  | 19, _ => rfl
  | 20, _ => rfl
  | 21, _ => rfl
  | 22, _ => rfl
  | 23, _ => rfl
  | 24, _ => rfl
  | i + 25, hi => absurd hi (by omega)
theorem sr_37 (i : Nat) (hi : i < 49) : lp_sh[41 + 1 * i]? = some (.inr (3, [none, none, none, none])) := match i, hi with
  | 0, _ => rfl
  | 1, _ => rfl
  | 2, _ => rfl
  | 3, _ => rfl
  | 4, _ => rfl
  | 5, _ => rfl
  | 6, _ => rfl
  | 7, _ => rfl
  | 8, _ => rfl
  | 9, _ => rfl
  | 10, _ => rfl
  | 11, _ => rfl
  | 12, _ => rfl
  | 13, _ => rfl
  | 14, _ => rfl
  | 15, _ => rfl
  | 16, _ => rfl
  | 17, _ => rfl
  | 18, _ => rfl
  | 19, _ => rfl
  | 20, _ => rfl
  | 21, _ => rfl
  | 22, _ => rfl
  | 23, _ => rfl
  | 24, _ => rfl
  | 25, _ => rfl
  | 26, _ => rfl
  | 27, _ => rfl
  | 28, _ => rfl
  | 29, _ => rfl
  | 30, _ => rfl
  | 31, _ => rfl
  | 32, _ => rfl
  | 33, _ => rfl
  | 34, _ => rfl
  | 35, _ => rfl
  | 36, _ => rfl
  | 37, _ => rfl
  | 38, _ => rfl
  | 39, _ => rfl
  | 40, _ => rfl
  | 41, _ => rfl
  | 42, _ => rfl
  | 43, _ => rfl
  | 44, _ => rfl
  | 45, _ => rfl
  | 46, _ => rfl
  | 47, _ => rfl
  | 48, _ => rfl
  | i + 49, hi => absurd hi (by omega)
theorem sr_93 (i : Nat) (hi : i < 25) : lp_sh[94 + 1 * i]? = some (.inr (3, [none, none, none, none])) := match i, hi with
  | 0, _ => rfl
  | 1, _ => rfl
  | 2, _ => rfl
  | 3, _ => rfl
  | 4, _ => rfl
  | 5, _ => rfl
  | 6, _ => rfl
  | 7, _ => rfl
  | 8, _ => rfl
  | 9, _ => rfl
  | 10, _ => rfl
  | 11, _ => rfl
  | 12, _ => rfl
  | 13, _ => rfl
  | 14, _ => rfl
  | 15, _ => rfl
  | 16, _ => rfl
  | 17, _ => rfl
  | 18, _ => rfl
  | 19, _ => rfl
  | 20, _ => rfl
  | 21, _ => rfl
  | 22, _ => rfl
  | 23, _ => rfl
  | 24, _ => rfl
  | i + 25, hi => absurd hi (by omega)
