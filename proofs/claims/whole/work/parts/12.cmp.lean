/-! Comparison, Range, Paper, Shortest -/
theorem isC.x {k : Nat} (h : isC k) : isT (k + 1) := ⟨h.2.1, h.2.2.1⟩
theorem isC.y {k : Nat} (h : isC k) : isT (k + 3) := ⟨h.2.2.2.1, h.2.2.2.2.1⟩
/-- how many of the first n have a partner -/
def nm (pf : Nat → Option Nat) : Nat → Nat
  | 0 => 0
  | n + 1 => nm pf n + (if (pf n).isSome then 1 else 0)
def upf (pf : Nat → Option Nat) (i j : Nat) : Nat → Option Nat := fun a => if a = i then some j else pf a
theorem nm_le (pf : Nat → Option Nat) : ∀ n, nm pf n ≤ n
  | 0 => Nat.le_refl _
  | n + 1 => by
    have := nm_le pf n
    unfold nm
    split <;> omega
theorem nm_congr {pf pf' : Nat → Option Nat} : ∀ n, (∀ i, i < n → pf i = pf' i) → nm pf n = nm pf' n
  | 0, _ => rfl
  | n + 1, h => by
    unfold nm
    rw [nm_congr n (fun i hi => h i (by omega)), h n (by omega)]
theorem nm_up {pf : Nat → Option Nat} {i j : Nat} (hn : pf i = none) : ∀ n, i < n → nm (upf pf i j) n = nm pf n + 1
  | 0, h => by omega
  | n + 1, h => by
    unfold nm
    by_cases e : i = n
    · subst e
      rw [nm_congr (pf := upf pf i j) (pf' := pf) i (fun q hq => by simp [upf, Nat.ne_of_lt hq])]
      simp [upf, hn]
    · rw [nm_up hn n (by omega)]
      simp only [upf, if_neg (Ne.symm e)]
      omega
theorem nm_none : ∀ n, nm (fun _ => none) n = 0
  | 0 => rfl
  | n + 1 => by
    unfold nm
    rw [nm_none n]
    simp
def cm (S : SS) (k : Nat) (xs ys : List Int32) (pf : Nat → Option Nat) : Prop := tx S (k + 1) xs ∧ tx S (k + 3) ys ∧ (∀ i, i < 24 → S.2 (k + 5) i = en (pf i)) ∧ S.1 k 3 = nI (nm pf 24)
def cp (k : Nat) : Nat → Prop := fun q => k ≤ q ∧ q ≤ k + 5
def pp (k : Nat) : Nat → Prop := fun q => q = k ∨ q = k + 5
theorem cm.keep {S S' : SS} {k : Nat} {xs ys : List Int32} {pf : Nat → Option Nat} {p : Nat → Prop} (h : cm S k xs ys pf) (ho : off p S S') (hp : ∀ q, cp k q → ¬ p q) : cm S' k xs ys pf :=
  ⟨h.1.keep ho (hp _ ⟨by omega, by omega⟩) (hp _ ⟨by omega, by omega⟩), h.2.1.keep ho (hp _ ⟨by omega, by omega⟩) (hp _ ⟨by omega, by omega⟩), fun i hi => by rw [(ho (k + 5) (hp _ ⟨by omega, by omega⟩)).2]; exact h.2.2.1 i hi, by rw [(ho k (hp _ ⟨by omega, by omega⟩)).1]; exact h.2.2.2⟩
theorem s_C_pair {g : lp_G} {d : Nat} {S : SS} {k i j : Nat} {xs ys : List Int32} {pf : Nat → Option Nat} (hk : isC k) (h : cm S k xs ys pf) (hi : i < 24) (hn : pf i = none) : MtV g um_C_pair d [.ref (g.2.1 + k), .int (nI i), .int (nI j)] S (fun S' => cm S' k xs ys (upf pf i j) ∧ off (pp k) S S') := by
  refine f_C_pair hk ⟨vp_in_nI hi (by omega), ?_⟩
  rintro S2 rfl S3 rfl
  have o1 : off (pp k) S (setA S (k + 5) (nI i).toNatClampNeg (nI j)) := off_A (Or.inr rfl)
  have o2 : off (pp k) (setA S (k + 5) (nI i).toNatClampNeg (nI j)) (setI (setA S (k + 5) (nI i).toNatClampNeg (nI j)) k 3 ((setA S (k + 5) (nI i).toNatClampNeg (nI j)).1 k 3 + 1)) := off_I (Or.inl rfl)
  refine ⟨⟨h.1.keep (o1.tr o2) ?_ ?_, h.2.1.keep (o1.tr o2) ?_ ?_, fun q hq => ?_, ?_⟩, o1.tr o2⟩
  · unfold pp; omega
  · unfold pp; omega
  · unfold pp; omega
  · unfold pp; omega
  · rw [setI_2, nI_clamp (by omega)]
    by_cases e : q = i
    · subst e
      rw [setA_s]
      simp [upf, en]
    · rw [setA_o (Or.inr e), h.2.2.1 q hq]
      simp [upf, e]
  · rw [setI_s, setA_1, h.2.2.2, nI_1, nm_up hn 24 hi]
theorem s_C_begin_loop {g : lp_G} {d : Nat} {Q : SS → Prop} {k : Nat} (hk : isC k) : ∀ (n i : Nat) (S : SS), 24 - i = n → i ≤ 24 → (∀ j, j < i → S.2 (k + 5) j = -3) → (∀ S', (∀ j, j < 24 → S'.2 (k + 5) j = -3) → off (fun q => q = k + 5) S S' → Q S') → AtV g um_C_begin (d + 1) Q 23 [(0, .ref (g.2.1 + k)), (3, .int (nI i))] [] S := by
  intro n
  induction n with
  | zero =>
    intro i S hn hi h hQ
    have e : i = 24 := by omega
    subst e
    exact f_C_begin_23 hk ⟨fun _ => hQ S h off.re, fun z => absurd (nI_le (Nat.le_refl _) (by omega)) z⟩
  | succ n ih =>
    intro i S hn hi h hQ
    refine f_C_begin_23 hk ⟨fun z => absurd z (nI_ge (by omega) (by omega)), fun _ => ⟨vp_in_nI (by omega) (by omega), ?_⟩⟩
    rintro S8 rfl
    rw [nI_1, nI_clamp (by omega)]
    have o : off (fun q => q = k + 5) S (setA S (k + 5) i (-3)) := off_A rfl
    refine ih (i + 1) _ (by omega) (by omega) (fun j hj => ?_) fun S' a b => hQ S' a (o.tr b)
    by_cases e : j = i
    · subst e
      exact setA_s
    · rw [setA_o (Or.inr e)]
      exact h j (by omega)
theorem s_C_begin {g : lp_G} {d : Nat} {S : SS} {k k1 k2 : Nat} {a b : List Int32} (hk : isC k) (hk1 : isT k1) (hk2 : isT k2) (h1 : tx S k1 a) (h2 : tx S k2 b) (n1 : ¬ cp k k1) (n1' : ¬ cp k (k1 + 1)) (n2 : ¬ cp k k2) (n2' : ¬ cp k (k2 + 1)) : MtV g um_C_begin (d + 3) [.ref (g.2.1 + k), .ref (g.2.1 + k1), .ref (g.2.1 + k2)] S (fun S' => cm S' k a b (fun _ => none) ∧ off (cp k) S S') := by
  unfold cp at *
  refine f_C_begin hk hk1 hk2 ?_
  refine (s_T_become hk.x hk1 ⟨by unfold tp; omega, by unfold tp; omega⟩ h1).mono fun S1 ⟨a1, o1⟩ => ?_
  have h2' := h2.keep o1 (by unfold tp; omega) (by unfold tp; omega)
  refine (s_T_become hk.y hk2 ⟨by unfold tp; omega, by unfold tp; omega⟩ h2').mono fun S3 ⟨a2, o2⟩ => ?_
  have a1' := a1.keep o2 (by unfold tp; omega) (by unfold tp; omega)
  rintro S5 rfl
  have o3 : off (fun q => q = k) S3 (setI S3 k 3 0) := off_I rfl
  refine s_C_begin_loop hk _ 0 _ rfl (by omega) (fun j hj => by omega) fun S' c1 o4 => ⟨⟨?_, ?_, ?_, ?_⟩, ?_⟩
  · exact (a1'.keep o3 (by omega) (by omega)).keep o4 (by omega) (by omega)
  · exact (a2.keep o3 (by omega) (by omega)).keep o4 (by omega) (by omega)
  · exact c1
  · rw [(o4 k (by omega)).1, setI_s, nm_none]; rfl
  · exact (((o1.mo (p' := fun q => k ≤ q ∧ q ≤ k + 5) (by unfold tp; omega)).tr (o2.mo (by unfold tp; omega))).tr (o3.mo (by omega))).tr (o4.mo (by omega))
theorem s_C_areEqual {g : lp_G} {d : Nat} {S : SS} {k i j : Nat} {xs ys : List Int32} {pf : Nat → Option Nat} (hk : isC k) (h : cm S k xs ys pf) (hi : i < xs.length) (hj : j < ys.length) : MtI g um_C_areEqual d [.ref (g.2.1 + k), .int (nI i), .int (nI j)] S (fun r S' => S' = S ∧ r = b2i (decide (xs.getD i 0 = ys.getD j 0))) := by
  have l1 := h.1.1
  have l2 := h.2.1.1
  refine f_C_areEqual hk ⟨vp_in_nI (by omega) (by omega), vp_in_nI (by omega) (by omega), ?_⟩
  rw [nI_clamp (by omega), nI_clamp (by omega), h.1.2.2 i hi, h.2.1.2.2 j hj]
  exact ⟨fun z => ⟨rfl, by rw [decide_eq_false z]; rfl⟩, fun z => ⟨rfl, by rw [decide_eq_true z]; rfl⟩⟩
def prt (pf : Nat → Option Nat) (n : Nat) (x : Int32) : Int32 := if x < 0 then -3 else if nI n ≤ x then -3 else en (pf x.toNatClampNeg)
theorem prt_nI {pf : Nat → Option Nat} {n i : Nat} (h : i < n) (hn : n < 2 ^ 31) : prt pf n (nI i) = en (pf i) := by
  rw [prt, if_neg (nI_pos (by omega)), if_neg (nI_ge h hn), nI_clamp (by omega)]
theorem s_C_partnerOf {g : lp_G} {d : Nat} {S : SS} {k : Nat} {x : Int32} {xs ys : List Int32} {pf : Nat → Option Nat} (hk : isC k) (h : cm S k xs ys pf) : MtI g um_C_partnerOf d [.ref (g.2.1 + k), .int x] S (fun r S' => S' = S ∧ r = prt pf xs.length x) := by
  have l1 := h.1.1
  refine f_C_partnerOf hk ⟨fun z => ⟨rfl, by rw [prt, if_pos z]⟩, fun z => ?_⟩
  rw [h.1.2.1]
  refine ⟨fun y => ⟨rfl, by rw [prt, if_neg z, if_pos y]⟩, fun y => ?_⟩
  obtain ⟨j, hj, rfl, -⟩ := pk_mu z y (by omega)
  refine ⟨vp_in_nI (by omega) (by omega), rfl, ?_⟩
  rw [prt_nI hj (by omega), nI_clamp (by omega), h.2.2.1 j (by omega)]
theorem s_C_linesChanged {g : lp_G} {d : Nat} {S : SS} {k : Nat} {xs ys : List Int32} {pf : Nat → Option Nat} (hk : isC k) (h : cm S k xs ys pf) (hm : 2 * nm pf 24 ≤ xs.length + ys.length) : MtI g um_C_linesChanged d [.ref (g.2.1 + k)] S (fun r S' => S' = S ∧ r = nI (xs.length + ys.length - 2 * nm pf 24)) := by
  refine f_C_linesChanged hk ⟨rfl, ?_⟩
  rw [h.1.2.1, h.2.1.2.1, h.2.2.2, nI_add, pk_mul, pk_sub hm]
def rg (S : SS) (k a b c e : Nat) : Prop := S.1 k 0 = nI a ∧ S.1 k 1 = nI b ∧ S.1 k 2 = nI c ∧ S.1 k 3 = nI e
theorem rg.keep {S S' : SS} {k a b c e : Nat} {p : Nat → Prop} (h : rg S k a b c e) (ho : off p S S') (hp : ¬ p k) : rg S' k a b c e := by
  unfold rg
  rw [(ho k hp).1]
  exact h
theorem s_R_span {g : lp_G} {d : Nat} {S : SS} {k a b c e : Nat} (hk : isR k) : MtV g um_R_span d [.ref (g.2.1 + k), .int (nI a), .int (nI b), .int (nI c), .int (nI e)] S (fun S' => rg S' k a b c e ∧ off (fun q => q = k) S S') := by
  refine f_R_span hk ?_
  rintro S1 rfl S2 rfl S3 rfl S4 rfl
  refine ⟨⟨?_, ?_, ?_, ?_⟩, (((off_I (p := fun q => q = k) rfl).tr (off_I rfl)).tr (off_I rfl)).tr (off_I rfl)⟩
  · rw [setI_o (by omega), setI_o (by omega), setI_o (by omega), setI_s]
  · rw [setI_o (by omega), setI_o (by omega), setI_s]
  · rw [setI_o (by omega), setI_s]
  · rw [setI_s]
def pa (S : SS) (l : List Int32) : Prop := l.length ≤ 900 ∧ S.1 90 1 = nI l.length ∧ ∀ i, i < l.length → S.2 91 i = l.getD i 0
def ap : Nat → Prop := fun q => q = 90 ∨ q = 91
theorem pa.keep {S S' : SS} {l : List Int32} {p : Nat → Prop} (h : pa S l) (ho : off p S S') (h1 : ¬ p 90) (h2 : ¬ p 91) : pa S' l :=
  ⟨h.1, by rw [(ho 90 h1).1]; exact h.2.1, fun i hi => by rw [(ho 91 h2).2]; exact h.2.2 i hi⟩
theorem s_A_append {g : lp_G} {d : Nat} {S : SS} {l : List Int32} {x : Int32} (h : pa S l) : MtV g um_A_append d [.ref (g.2.1 + 90), .int x] S (fun S' => pa S' ((l ++ [x]).take 900) ∧ off ap S S') := by
  obtain ⟨h1, h2, h3⟩ := h
  refine f_A_append ⟨fun hc => ?_, fun hc => ?_⟩
  · rw [h2, nI_leI (by omega) (by omega)] at hc
    refine ⟨?_, off.re⟩
    rw [List.take_append_of_le_length (by omega), List.take_of_length_le (by omega)]
    exact ⟨h1, h2, h3⟩
  · rw [h2, nI_leI (by omega) (by omega)] at hc
    refine ⟨by rw [h2]; exact vp_in_nI (by omega) (by omega), ?_⟩
    rintro S3 rfl S4 rfl
    rw [List.take_of_length_le (by simp; omega)]
    refine ⟨⟨by simp; omega, ?_, fun i hi => ?_⟩, (off_A (Or.inr rfl)).tr (off_I (Or.inl rfl))⟩
    · rw [setI_s, setA_1, h2, nI_1, List.length_append]; rfl
    · rw [setI_2, h2, nI_clamp (by omega)]
      by_cases e : i = l.length
      · subst e
        rw [setA_s, gd_r (Nat.le_refl _)]
        simp
      · have hi : i < l.length := by simp at hi; omega
        rw [setA_o (Or.inr e), h3 i hi, gd_l hi]
