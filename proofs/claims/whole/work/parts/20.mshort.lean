/-! the reference: its small parts, what it takes, its shortest way -/
def om (fs ps : Nat → Prop) (S S' : SS) : Prop := (∀ q j, ¬ (q = 151 ∧ fs j) → S'.1 q j = S.1 q j) ∧ ∀ q, ¬ ps q → S'.2 q = S.2 q
theorem om.re {fs ps : Nat → Prop} {S : SS} : om fs ps S S := ⟨fun _ _ _ => rfl, fun _ _ => rfl⟩
theorem om.tr {fs ps : Nat → Prop} {S S1 S2 : SS} (h1 : om fs ps S S1) (h2 : om fs ps S1 S2) : om fs ps S S2 := ⟨fun q j h => (h2.1 q j h).trans (h1.1 q j h), fun q h => (h2.2 q h).trans (h1.2 q h)⟩
theorem om.mo {fs ps fs' ps' : Nat → Prop} {S S' : SS} (h : om fs ps S S') (h1 : ∀ j, fs j → fs' j) (h2 : ∀ q, ps q → ps' q) : om fs' ps' S S' := ⟨fun q j z => h.1 q j (fun y => z ⟨y.1, h1 j y.2⟩), fun q z => h.2 q (fun y => z (h2 q y))⟩
theorem om_I {fs ps : Nat → Prop} {S : SS} {j : Nat} {v : Int32} (h : fs j) : om fs ps S (setI S 151 j v) := ⟨fun q i z => setI_o (by
  by_cases e : q = 151
  · exact Or.inr (fun y => z ⟨e, y ▸ h⟩)
  · exact Or.inl e), fun _ _ => rfl⟩
theorem om_A {fs ps : Nat → Prop} {S : SS} {k i : Nat} {v : Int32} (h : ps k) : om fs ps S (setA S k i v) := ⟨fun _ _ _ => rfl, fun q z => by
  funext j
  exact setA_o (Or.inl (fun y => z (y ▸ h)))⟩
theorem om.off {fs ps : Nat → Prop} {S S' : SS} (h : om fs ps S S') (hp : ∀ q, ps q → 151 ≤ q) : off (fun q => 151 ≤ q) S S' := fun q hq => ⟨by
  funext j
  exact h.1 q j (fun y => hq (by omega)), h.2 q (fun y => hq (hp q y))⟩
def em (o : Option Nat) : Int32 := match o with
  | none => -1
  | some j => nI j
def tm (S : SS) (t : Nat) (l : List Int32) : Prop := l.length ≤ 24 ∧ S.2 153 t = nI l.length ∧ ∀ i, i < l.length → S.2 152 (24 * t + i) = l.getD i 0
theorem tm.keep {S S' : SS} {t : Nat} {l : List Int32} {fs ps : Nat → Prop} (h : tm S t l) (ho : om fs ps S S') (h1 : ¬ ps 152) (h2 : ¬ ps 153) : tm S' t l :=
  ⟨h.1, by rw [ho.2 153 h2]; exact h.2.1, fun i hi => by rw [ho.2 152 h1]; exact h.2.2 i hi⟩
def cmM (S : SS) (xs ys : List Int32) (pf : Nat → Option Nat) : Prop := xs.length ≤ 24 ∧ ys.length ≤ 24 ∧ S.1 151 2 = nI xs.length ∧ S.1 151 3 = nI ys.length ∧ (∀ i, i < xs.length → S.2 154 i = xs.getD i 0) ∧ (∀ i, i < ys.length → S.2 155 i = ys.getD i 0) ∧ ∀ i, i < xs.length → S.2 156 i = em (pf i)
theorem cmM.keep {S S' : SS} {xs ys : List Int32} {pf : Nat → Option Nat} {fs ps : Nat → Prop} (h : cmM S xs ys pf) (ho : om fs ps S S') (h1 : ¬ fs 2) (h2 : ¬ fs 3) (h3 : ¬ ps 154) (h4 : ¬ ps 155) (h5 : ¬ ps 156) : cmM S' xs ys pf :=
  ⟨h.1, h.2.1, by rw [ho.1 151 2 (fun y => h1 y.2)]; exact h.2.2.1, by rw [ho.1 151 3 (fun y => h2 y.2)]; exact h.2.2.2.1, fun i hi => by rw [ho.2 154 h3]; exact h.2.2.2.2.1 i hi, fun i hi => by rw [ho.2 155 h4]; exact h.2.2.2.2.2.1 i hi, fun i hi => by rw [ho.2 156 h5]; exact h.2.2.2.2.2.2 i hi⟩
theorem s_M_within {g : lp_G} {d : Nat} {S : SS} {v lo hi : Int32} : MtI g um_M_within d [.int v, .int lo, .int hi] S (fun r S' => S' = S ∧ r = b2i (decide (¬ v < lo ∧ ¬ hi < v))) := by
  refine f_M_within ⟨fun h => ⟨rfl, ?_⟩, fun h => ⟨fun h2 => ⟨rfl, ?_⟩, fun h2 => ⟨rfl, ?_⟩⟩⟩
  · simp [b2i, h]
  · simp [b2i, h2]
  · simp [b2i, h, h2]
theorem s_M_isLetter {g : lp_G} {d : Nat} {S : SS} {x : Int32} : MtI g um_M_isLetter (d + 1) [.int x] S (fun r S' => S' = S ∧ r = b2i (isLet x)) :=
  f_M_isLetter (s_M_within.mono fun r S' ⟨e1, e2⟩ => ⟨by rw [e2]; exact isB_b, e1, e2⟩)
theorem s_M_letters_loop {g : lp_G} {d : Nat} {Q : Int32 → SS → Prop} {t : Nat} {l : List Int32} {S : SS} (ht : t < 4) (h : tm S t l) : ∀ (n i : Nat) (b : Bool), l.length - i = n → i ≤ l.length → Q (b2i (b && (l.drop i).all isLet)) S → AtI g um_M_allLetters (d + 2) Q 4 [(0, .ref (g.2.1 + 151)), (1, .int (nI t)), (2, .int (b2i b)), (3, .int (nI i))] [] S := by
  have hl := h.1
  intro n
  induction n with
  | zero =>
    intro i b hn hi hQ
    have e : i = l.length := by omega
    subst e
    refine f_M_allLetters_4 ⟨vp_in_nI ht (by omega), fun _ => ⟨isB_b, ?_⟩, fun z => absurd ?_ z⟩
    · simpa using hQ
    · rw [nI_clamp (by omega), h.2.1]
      exact nI_le (Nat.le_refl _) (by omega)
  | succ n ih =>
    intro i b hn hi hQ
    have e : l.drop i = l.getD i 0 :: l.drop (i + 1) := by
      rw [List.drop_eq_getElem_cons (by omega)]
      simp [List.getD_eq_getElem?_getD, show i < l.length by omega]
    rw [e, List.all_cons] at hQ
    refine f_M_allLetters_4 ⟨vp_in_nI ht (by omega), fun z => absurd z ?_, fun _ => ⟨fun z => ?_, fun z => ?_⟩⟩
    · rw [nI_clamp (by omega), h.2.1]
      exact nI_ge (by omega) (by omega)
    · rw [b2i_0] at z
      subst z
      rw [nI_1]
      exact ih (i + 1) false (by omega) (by omega) (by simpa using hQ)
    · rw [b2i_1] at z
      subst z
      simp (disch := omega) only [pk_mul, nI_add, nI_1, nI_clamp]
      refine ⟨vp_in_nI (by omega) (by omega), ?_⟩
      rw [h.2.2 i (by omega)]
      refine s_M_isLetter.mono fun r S' ⟨e1, e2⟩ => ?_
      subst e1
      subst e2
      refine ⟨fun z => ih (i + 1) false (by omega) (by omega) ?_, fun z => ih (i + 1) true (by omega) (by omega) ?_⟩
      · rw [b2i_0] at z
        rw [z] at hQ
        simpa using hQ
      · rw [b2i_1] at z
        rw [z] at hQ
        simpa using hQ
theorem s_M_allLetters {g : lp_G} {d : Nat} {t : Nat} {l : List Int32} {S : SS} (ht : t < 4) (h : tm S t l) : MtI g um_M_allLetters (d + 2) [.ref (g.2.1 + 151), .int (nI t)] S (fun r S' => S' = S ∧ r = b2i (l.all isLet)) :=
  f_M_allLetters (s_M_letters_loop ht h _ 0 true rfl (Nat.zero_le _) ⟨rfl, by simp⟩)
def tk1 : Nat → Prop := fun j => j = 2 ∨ j = 3
def tk2 : Nat → Prop := fun q => q = 154 ∨ q = 155 ∨ q = 156
theorem s_M_take2 {g : lp_G} {d : Nat} {Q : SS → Prop} {y : Nat} {ys : List Int32} (hy : y < 4) : ∀ (n j : Nat) (S : SS), ys.length - j = n → j ≤ ys.length → tm S y ys → S.1 151 3 = nI ys.length → (∀ i, i < j → S.2 155 i = ys.getD i 0) → (∀ S', (∀ i, i < ys.length → S'.2 155 i = ys.getD i 0) → om (fun _ => False) (fun q => q = 155) S S' → Q S') → AtV g um_M_take d Q 62 [(0, .ref (g.2.1 + 151)), (2, .int (nI y)), (3, .int (nI j))] [] S := by
  intro n
  induction n with
  | zero =>
    intro j S hn hj ht hb h hQ
    have l1 := ht.1
    refine f_M_take_62 ⟨fun _ => hQ S (fun i hi => h i (by omega)) om.re, fun z => absurd ?_ z⟩
    rw [hb]
    exact nI_le (by omega) (by omega)
  | succ n ih =>
    intro j S hn hj ht hb h hQ
    have l1 := ht.1
    refine f_M_take_62 ⟨fun z => absurd z ?_, fun _ => ?_⟩
    · rw [hb]
      exact nI_ge (by omega) (by omega)
    · simp (disch := omega) only [pk_mul, nI_add, nI_1, nI_clamp]
      refine ⟨vp_in_nI (by omega) (by omega), vp_in_nI (by omega) (by omega), ?_⟩
      rintro S14 rfl
      have o : om (fun _ => False) (fun q => q = 155) S (setA S 155 j (S.2 152 (24 * y + j))) := om_A rfl
      refine ih (j + 1) _ (by omega) (by omega) (ht.keep o (by omega) (by omega)) hb (fun i hi => ?_) fun S' a1 a2 => hQ S' a1 (o.tr a2)
      by_cases e : i = j
      · subst e
        rw [setA_s]
        exact ht.2.2 i (by omega)
      · rw [setA_o (Or.inr e)]
        exact h i (by omega)
theorem s_M_take1 {g : lp_G} {d : Nat} {Q : SS → Prop} {x y : Nat} {xs : List Int32} (hx : x < 4) : ∀ (n j : Nat) (S : SS), xs.length - j = n → j ≤ xs.length → tm S x xs → S.1 151 2 = nI xs.length → (∀ i, i < j → S.2 154 i = xs.getD i 0 ∧ S.2 156 i = -1) → (∀ S', (∀ i, i < xs.length → S'.2 154 i = xs.getD i 0 ∧ S'.2 156 i = -1) → om (fun _ => False) (fun q => q = 154 ∨ q = 156) S S' → AtV g um_M_take d Q 62 [(0, .ref (g.2.1 + 151)), (2, .int (nI y)), (3, .int (nI 0))] [] S') → AtV g um_M_take d Q 22 [(0, .ref (g.2.1 + 151)), (1, .int (nI x)), (2, .int (nI y)), (3, .int (nI j))] [] S := by
  intro n
  induction n with
  | zero =>
    intro j S hn hj ht hb h hQ
    have l1 := ht.1
    refine f_M_take_22 ⟨fun _ => hQ S (fun i hi => h i (by omega)) om.re, fun z => absurd ?_ z⟩
    rw [hb]
    exact nI_le (by omega) (by omega)
  | succ n ih =>
    intro j S hn hj ht hb h hQ
    have l1 := ht.1
    refine f_M_take_22 ⟨fun z => absurd z ?_, fun _ => ?_⟩
    · rw [hb]
      exact nI_ge (by omega) (by omega)
    · simp (disch := omega) only [pk_mul, nI_add, nI_1, nI_clamp]
      refine ⟨vp_in_nI (by omega) (by omega), vp_in_nI (by omega) (by omega), ?_⟩
      rintro S8 rfl
      refine ⟨vp_in_nI (by omega) (by omega), ?_⟩
      rintro S10 rfl
      have o1 : om (fun _ => False) (fun q => q = 154 ∨ q = 156) S (setA S 154 j (S.2 152 (24 * x + j))) := om_A (Or.inl rfl)
      have o2 : om (fun _ => False) (fun q => q = 154 ∨ q = 156) (setA S 154 j (S.2 152 (24 * x + j))) (setA (setA S 154 j (S.2 152 (24 * x + j))) 156 j (-1)) := om_A (Or.inr rfl)
      refine ih (j + 1) _ (by omega) (by omega) (ht.keep (o1.tr o2) (by omega) (by omega)) hb (fun i hi => ?_) fun S' a1 a2 => hQ S' a1 ((o1.tr o2).tr a2)
      by_cases e : i = j
      · subst e
        rw [setA_s, setA_o (by omega), setA_s]
        exact ⟨ht.2.2 i (by omega), rfl⟩
      · rw [setA_o (by omega), setA_o (by omega), setA_o (by omega), setA_o (by omega)]
        exact h i (by omega)
theorem s_M_take {g : lp_G} {d : Nat} {S : SS} {x y : Nat} {xs ys : List Int32} (hx : x < 4) (hy : y < 4) (h1 : tm S x xs) (h2 : tm S y ys) : MtV g um_M_take d [.ref (g.2.1 + 151), .int (nI x), .int (nI y)] S (fun S' => cmM S' xs ys (fun _ => none) ∧ om tk1 tk2 S S') := by
  refine f_M_take ⟨vp_in_nI hx (by omega), ?_⟩
  rw [nI_clamp (by omega), nI_clamp (by omega), h1.2.1]
  rintro S2 rfl
  refine ⟨vp_in_nI hy (by omega), ?_⟩
  rw [show (setI S 151 2 (nI xs.length)).2 153 y = nI ys.length from h2.2.1]
  rintro S4 rfl
  have o1 : om tk1 tk2 S (setI S 151 2 (nI xs.length)) := om_I (Or.inl rfl)
  have o2 : om tk1 tk2 (setI S 151 2 (nI xs.length)) (setI (setI S 151 2 (nI xs.length)) 151 3 (nI ys.length)) := om_I (Or.inr rfl)
  have h1' := h1.keep (o1.tr o2) (by unfold tk2; omega) (by unfold tk2; omega)
  have h2' := h2.keep (o1.tr o2) (by unfold tk2; omega) (by unfold tk2; omega)
  have e1 : (setI (setI S 151 2 (nI xs.length)) 151 3 (nI ys.length)).1 151 2 = nI xs.length := by rw [setI_o (by omega), setI_s]
  have e2 : (setI (setI S 151 2 (nI xs.length)) 151 3 (nI ys.length)).1 151 3 = nI ys.length := setI_s
  refine s_M_take1 hx _ 0 _ rfl (Nat.zero_le _) h1' e1 (fun i hi => by omega) fun S5 a1 o3 => ?_
  refine s_M_take2 hy _ 0 S5 rfl (Nat.zero_le _) (h2'.keep o3 (by omega) (by omega)) (by rw [o3.1 _ _ (by simp)]; exact e2) (fun i hi => by omega) fun S6 a2 o4 => ⟨⟨h1.1, h2.1, ?_, ?_, ?_, a2, ?_⟩, ?_⟩
  · rw [o4.1 _ _ (by simp), o3.1 _ _ (by simp)]; exact e1
  · rw [o4.1 _ _ (by simp), o3.1 _ _ (by simp)]; exact e2
  · intro i hi
    rw [o4.2 154 (by omega)]
    exact (a1 i hi).1
  · intro i hi
    rw [o4.2 156 (by omega)]
    exact (a1 i hi).2
  · exact ((o1.tr o2).tr (o3.mo (fun _ h => h.elim) (by unfold tk2; omega))).tr (o4.mo (fun _ h => h.elim) (by unfold tk2; omega))
