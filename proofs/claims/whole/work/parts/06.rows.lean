def isB (v : Int32) : Prop := narrow .boolean (.int v) = .int v ∧ fits .boolean (.int v) = true
theorem isB_0 : isB 0 := ⟨rfl, rfl⟩
theorem isB_1 : isB 1 := ⟨rfl, rfl⟩
theorem vp_lt {i : Int32} {n : Nat} (h : vp_in i n) : i.toNatClampNeg < n := Nat.not_le.mp fun q => h (Or.inr q)
/-- the kinds of objects that come more than once: a text, a comparison, a range, a part -/
def isT (k : Nat) : Prop := lp_sh[k]? = some (.inr (1, [some (k + 1), none])) ∧ lp_sh[k + 1]? = some (.inl (24, none))
def isC (k : Nat) : Prop := lp_sh[k]? = some (.inr (2, [some (k + 1), some (k + 3), some (k + 5), none])) ∧ lp_sh[k + 1]? = some (.inr (1, [some (k + 2), none])) ∧ lp_sh[k + 2]? = some (.inl (24, none)) ∧ lp_sh[k + 3]? = some (.inr (1, [some (k + 4), none])) ∧ lp_sh[k + 4]? = some (.inl (24, none)) ∧ lp_sh[k + 5]? = some (.inl (24, none))
def isR (k : Nat) : Prop := lp_sh[k]? = some (.inr (3, [none, none, none, none]))
def isQ (k t : Nat) : Prop := lp_sh[k]? = some (.inr (10, [some t, none, none])) ∧ lp_sh[t]? = some (.inr (1, [some (t + 1), none])) ∧ lp_sh[t + 1]? = some (.inl (24, none))
section LPD
variable {g : lp_G} {u : lp_M} {M : lp_O} {cells slots pc : Nat} {lv : List (Nat × Value)} {st : List Value} {S : SS}
theorem sa_putIn {index ci j k : Nat} {T : List (Option Nat)} {v : Int32} (hf : lp_Fp u.1.cls index ci j .int false) (hd : decode u.2.1 pc = .ok (.putfield index, 3)) (hs : lp_sh[k]? = some (.inr (ci, T))) (hT : T[j]? = some none) (kk : ∀ S' : SS, S' = setI S k j v → Ab g u M cells slots (pc + 3) lv st (wc g S')) : Ab g u M cells slots pc lv (.int v :: .ref (g.2.1 + k) :: st) (wc g S) :=
  sa_putI hf hd hs hT (kk _ rfl)
theorem sa_putZn {index ci j k : Nat} {T : List (Option Nat)} {v : Int32} (hf : lp_Fp u.1.cls index ci j .boolean false) (hd : decode u.2.1 pc = .ok (.putfield index, 3)) (hs : lp_sh[k]? = some (.inr (ci, T))) (hT : T[j]? = some none) (hn : isB v) (kk : ∀ S' : SS, S' = setI S k j v → Ab g u M cells slots (pc + 3) lv st (wc g S')) : Ab g u M cells slots pc lv (.int v :: .ref (g.2.1 + k) :: st) (wc g S) :=
  sa_putZ hf hd hs hT hn.1 hn.2 (kk _ rfl)
theorem sa_iastn {k n : Nat} {i x : Int32} (hd : decode u.2.1 pc = .ok (.iastore, 1)) (hs : lp_sh[k]? = some (.inl (n, none))) (hin : vp_in i n) (kk : ∀ S' : SS, S' = setA S k i.toNatClampNeg x → Ab g u M cells slots (pc + 1) lv st (wc g S')) : Ab g u M cells slots pc lv (.int x :: .int i :: .ref (g.2.1 + k) :: st) (wc g S) :=
  sa_iast hd hs hin (kk _ rfl)
theorem sa_mmax {index d : Nat} {x y : Int32} (hcw : lp_cM u.1.cls index Lib.Math.max.name Lib.Math.max.code 2) (hd : decode u.2.1 pc = .ok (.invokestatic index, 3)) (hE : lp_en M (d + 1)) (hrs : (st.map fun v => v.category).sum ≤ 8) (hC : cells ≤ M.1.cells ∧ slots ≤ M.1.slots) (kk : Ab g u M cells slots (pc + 3) lv (.int (if x < y then y else x) :: st) (wc g S)) : Ab g u M cells slots pc lv (.int y :: .int x :: st) (wc g S) :=
  ab_mmax hcw hd (Nat.le_trans (Nat.le_add_left _ _) hE.1) (by have := hE.2; omega) hC kk
theorem sa_mmin {index d : Nat} {x y : Int32} (hcw : lp_cM u.1.cls index Lib.Math.min.name Lib.Math.min.code 2) (hd : decode u.2.1 pc = .ok (.invokestatic index, 3)) (hE : lp_en M (d + 1)) (hrs : (st.map fun v => v.category).sum ≤ 8) (hC : cells ≤ M.1.cells ∧ slots ≤ M.1.slots) (kk : Ab g u M cells slots (pc + 3) lv (.int (if y < x then y else x) :: st) (wc g S)) : Ab g u M cells slots pc lv (.int y :: .int x :: st) (wc g S) :=
  ab_mmin hcw hd (Nat.le_trans (Nat.le_add_left _ _) hE.1) (by have := hE.2; omega) hC kk
theorem sa_mabs {index d : Nat} {x : Int32} (hcw : lp_cM u.1.cls index Lib.Math.abs.name Lib.Math.abs.code 1) (hd : decode u.2.1 pc = .ok (.invokestatic index, 3)) (hE : lp_en M (d + 1)) (hrs : (st.map fun v => v.category).sum ≤ 8) (hC : cells ≤ M.1.cells ∧ slots ≤ M.1.slots) (kk : Ab g u M cells slots (pc + 3) lv (.int (if 0 ≤ x then x else 0 - x) :: st) (wc g S)) : Ab g u M cells slots pc lv (.int x :: st) (wc g S) :=
  ab_mabs hcw hd (Nat.le_trans (Nat.le_add_left _ _) hE.1) (by have := hE.2; omega) hC kk
end LPD
