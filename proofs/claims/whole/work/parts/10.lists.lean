/-! what changes and what stays; lists in arrays -/
def off (p : Nat → Prop) (S S' : SS) : Prop := ∀ q, ¬ p q → S'.1 q = S.1 q ∧ S'.2 q = S.2 q
theorem off.re {p : Nat → Prop} {S : SS} : off p S S := fun _ _ => ⟨rfl, rfl⟩
theorem off.tr {p : Nat → Prop} {S S1 S2 : SS} (h1 : off p S S1) (h2 : off p S1 S2) : off p S S2 := fun q hq => ⟨(h2 q hq).1.trans (h1 q hq).1, (h2 q hq).2.trans (h1 q hq).2⟩
theorem off.mo {p p' : Nat → Prop} {S S' : SS} (h : off p S S') (hp : ∀ q, p q → p' q) : off p' S S' := fun q hq => h q (fun z => hq (hp q z))
theorem off_I {S : SS} {k j : Nat} {v : Int32} {p : Nat → Prop} (hp : p k) : off p S (setI S k j v) := fun q hq => ⟨by
  funext b
  have : q ≠ k := fun z => hq (z ▸ hp)
  simp [setI, this], rfl⟩
theorem off_A {S : SS} {k j : Nat} {v : Int32} {p : Nat → Prop} (hp : p k) : off p S (setA S k j v) := fun q hq => ⟨rfl, by
  funext b
  have : q ≠ k := fun z => hq (z ▸ hp)
  simp [setA, this]⟩
theorem setI_s {S : SS} {k j : Nat} {v : Int32} : (setI S k j v).1 k j = v := by simp [setI]
theorem setI_o {S : SS} {k j a b : Nat} {v : Int32} (h : a ≠ k ∨ b ≠ j) : (setI S k j v).1 a b = S.1 a b := by
  show (if a = k ∧ b = j then v else S.1 a b) = _
  rw [if_neg]
  intro z
  rcases h with h | h
  · exact h z.1
  · exact h z.2
theorem setI_2 {S : SS} {k j : Nat} {v : Int32} : (setI S k j v).2 = S.2 := rfl
theorem setA_1 {S : SS} {k j : Nat} {v : Int32} : (setA S k j v).1 = S.1 := rfl
theorem setA_s {S : SS} {k j : Nat} {v : Int32} : (setA S k j v).2 k j = v := by simp [setA]
theorem setA_o {S : SS} {k j a b : Nat} {v : Int32} (h : a ≠ k ∨ b ≠ j) : (setA S k j v).2 a b = S.2 a b := by
  show (if a = k ∧ b = j then v else S.2 a b) = _
  rw [if_neg]
  intro z
  rcases h with h | h
  · exact h z.1
  · exact h z.2
theorem gd_l {l m : List Int32} {i : Nat} (h : i < l.length) : (l ++ m).getD i 0 = l.getD i 0 := by
  simp [List.getD_eq_getElem?_getD, List.getElem?_append_left h]
theorem gd_r {l m : List Int32} {i : Nat} (h : l.length ≤ i) : (l ++ m).getD i 0 = m.getD (i - l.length) 0 := by
  simp [List.getD_eq_getElem?_getD, List.getElem?_append_right h]
theorem gd_take {l : List Int32} {n i : Nat} (h : i < n) : (l.take n).getD i 0 = l.getD i 0 := by
  simp [List.getD_eq_getElem?_getD, List.getElem?_take, h]
theorem gd_drop {l : List Int32} {n i : Nat} : (l.drop n).getD i 0 = l.getD (n + i) 0 := by
  simp [List.getD_eq_getElem?_getD, List.getElem?_drop]
theorem gd_map {f : Nat → Int32} {n i : Nat} (h : i < n) : ((List.range n).map f).getD i 0 = f i := by
  simp [List.getD_eq_getElem?_getD, h]
theorem gd_ext {l m : List Int32} (h : l.length = m.length) (he : ∀ i, i < l.length → l.getD i 0 = m.getD i 0) : l = m := by
  apply List.ext_getElem h
  intro i h1 h2
  have := he i h1
  simpa [List.getD_eq_getElem?_getD, h1, h2] using this
/-- lines a to b of a list -/
def sl (m : List Int32) (a b : Nat) : List Int32 := (m.drop a).take (b - a)
theorem sl_len {m : List Int32} {a b : Nat} (h : b ≤ m.length) : (sl m a b).length = b - a := by
  simp [sl]; omega
theorem sl_self {m : List Int32} {a : Nat} : sl m a a = [] := by simp [sl]
theorem sl_all {m : List Int32} : sl m 0 m.length = m := by simp [sl]
theorem sl_gd {m : List Int32} {a b i : Nat} (h : i < b - a) : (sl m a b).getD i 0 = m.getD (a + i) 0 := by
  rw [sl, gd_take h, gd_drop]
theorem sl_cons {m : List Int32} {a b : Nat} (h : a < b) (hb : b ≤ m.length) : sl m a b = m.getD a 0 :: sl m (a + 1) b := by
  apply gd_ext
  · rw [sl_len hb, List.length_cons, sl_len hb]; omega
  · intro i hi
    rw [sl_len hb] at hi
    rw [sl_gd hi]
    cases i with
    | zero => simp
    | succ i =>
      rw [show (m.getD a 0 :: sl m (a + 1) b).getD (i + 1) 0 = (sl m (a + 1) b).getD i 0 by simp [List.getD_eq_getElem?_getD], sl_gd (by omega)]
      congr 1
      omega
theorem sl_snoc {m : List Int32} {a b : Nat} (h : a ≤ b) (hb : b < m.length) : sl m a (b + 1) = sl m a b ++ [m.getD b 0] := by
  apply gd_ext
  · rw [sl_len (by omega), List.length_append, sl_len (by omega)]
    simp; omega
  · intro i hi
    rw [sl_len (by omega)] at hi
    rw [sl_gd hi]
    by_cases e : i < b - a
    · rw [gd_l (by rw [sl_len (by omega)]; exact e), sl_gd e]
    · rw [gd_r (by rw [sl_len (by omega)]; omega), sl_len (by omega), show i - (b - a) = 0 by omega, show a + i = b by omega]
      simp
theorem tk_tk (l m : List Int32) (n : Nat) : (l.take n ++ m).take n = (l ++ m).take n := by
  rw [List.take_append, List.take_append, List.take_take, Nat.min_self]
  by_cases h : l.length ≤ n
  · rw [List.take_of_length_le h]
  · rw [List.length_take, Nat.min_eq_left (by omega), Nat.sub_self, show n - l.length = 0 by omega]
/-- a text at k holds l -/
def tx (S : SS) (k : Nat) (l : List Int32) : Prop := l.length ≤ 24 ∧ S.1 k 1 = nI l.length ∧ ∀ i, i < l.length → S.2 (k + 1) i = l.getD i 0
def tp (k : Nat) : Nat → Prop := fun q => q = k ∨ q = k + 1
theorem tx.keep {S S' : SS} {k : Nat} {l : List Int32} {p : Nat → Prop} (h : tx S k l) (ho : off p S S') (h1 : ¬ p k) (h2 : ¬ p (k + 1)) : tx S' k l :=
  ⟨h.1, by rw [(ho k h1).1]; exact h.2.1, fun i hi => by rw [(ho (k + 1) h2).2]; exact h.2.2 i hi⟩
theorem tx.uniq {S : SS} {k : Nat} {l m : List Int32} (h : tx S k l) (h' : tx S k m) : l = m := by
  have e : l.length = m.length := by
    have := h.2.1.symm.trans h'.2.1
    have a := h.1
    have b := h'.1
    exact (nI_eq (by omega) (by omega)).mp this
  exact gd_ext e fun i hi => (h.2.2 i hi).symm.trans (h'.2.2 i (by omega))
def b2i (b : Bool) : Int32 := if b then 1 else 0
theorem b2i_0 {b : Bool} : b2i b = 0 ↔ b = false := by cases b <;> simp [b2i]
theorem b2i_1 {b : Bool} : ¬ b2i b = 0 ↔ b = true := by cases b <;> simp [b2i]
theorem isB_b {b : Bool} : isB (b2i b) := by cases b <;> first | exact isB_0 | exact isB_1
def isLet (x : Int32) : Bool := decide (¬ x < nI 97 ∧ ¬ nI 122 < x)
def en (o : Option Nat) : Int32 := match o with
  | none => -3
  | some j => nI j
theorem en_ne {j : Nat} (h : j < 2 ^ 31) : ¬ nI j = -3 := by
  intro q
  have h2 := nI_toInt h
  rw [q, show (-3 : Int32).toInt = -3 by decide] at h2
  omega
theorem m1_ne {j : Nat} (h : j < 2 ^ 31) : ¬ nI j = -1 := by
  intro q
  have h2 := nI_toInt h
  rw [q, show (-1 : Int32).toInt = -1 by decide] at h2
  omega
