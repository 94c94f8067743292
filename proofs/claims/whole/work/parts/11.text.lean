/-! Text, and the letters -/
theorem s_P_isLetter {g : lp_G} {d : Nat} {S : SS} {x : Int32} : MtI g um_P_isLetter d [.int x] S (fun r S' => S' = S ∧ r = b2i (isLet x)) := by
  refine f_P_isLetter ⟨fun h => ⟨rfl, ?_⟩, fun h => ⟨fun h2 => ⟨rfl, ?_⟩, fun h2 => ⟨rfl, ?_⟩⟩⟩
  · simp [b2i, isLet, h]
  · simp [b2i, isLet, h, h2]
  · simp [b2i, isLet, h, h2]
theorem s_T_append {g : lp_G} {d : Nat} {S : SS} {k : Nat} {l : List Int32} {x : Int32} (hk : isT k) (h : tx S k l) : MtV g um_T_append d [.ref (g.2.1 + k), .int x] S (fun S' => tx S' k ((l ++ [x]).take 24) ∧ off (tp k) S S') := by
  obtain ⟨h1, h2, h3⟩ := h
  refine f_T_append hk ⟨fun hc => ?_, fun hc => ?_⟩
  · rw [h2, nI_leI (by omega) (by omega)] at hc
    refine ⟨?_, off.re⟩
    rw [List.take_append_of_le_length (by omega), List.take_of_length_le (by omega)]
    exact ⟨h1, h2, h3⟩
  · rw [h2, nI_leI (by omega) (by omega)] at hc
    refine ⟨by rw [h2]; exact vp_in_nI (by omega) (by omega), ?_⟩
    rintro S3 rfl S4 rfl
    rw [List.take_of_length_le (by simp; omega)]
    refine ⟨⟨by simp; omega, ?_, fun i hi => ?_⟩, (off_A (Or.inr rfl)).tr (off_I (Or.inl rfl))⟩
    · rw [setI_s, setA_1, h2, nI_1, List.length_append]; rfl
    · rw [setI_2, h2, nI_clamp (by omega)]
      by_cases e : i = l.length
      · subst e
        rw [setA_s, gd_r (Nat.le_refl _)]
        simp
      · have hi : i < l.length := by simp at hi; omega
        rw [setA_o (Or.inr e), h3 i hi, gd_l hi]
/-- two texts that have nothing in common -/
def tne (k0 k1 : Nat) : Prop := ¬ tp k0 k1 ∧ ¬ tp k0 (k1 + 1)
theorem s_T_part {g : lp_G} {d : Nat} {Q : SS → Prop} {k0 k1 b : Nat} {m : List Int32} (hk0 : isT k0) (hk1 : isT k1) (hne : tne k0 k1) (hb : b ≤ m.length) : ∀ (n i : Nat) (S : SS) (l : List Int32), b - i = n → i ≤ b → tx S k0 l → tx S k1 m → (∀ S', tx S' k0 ((l ++ sl m i b).take 24) → off (tp k0) S S' → Q S') →
    AtV g um_T_appendPart (d + 1) Q 3 [(0, .ref (g.2.1 + k0)), (1, .ref (g.2.1 + k1)), (3, .int (nI b)), (4, .int (nI i))] [] S := by
  intro n
  induction n with
  | zero =>
    intro i S l hn hi h0 h1 hQ
    have e : i = b := by omega
    subst e
    have hm := h1.1
    refine f_T_appendPart_3 hk0 hk1 ⟨fun _ => hQ S ?_ off.re, fun h => absurd (nI_le (Nat.le_refl _) (by omega)) h⟩
    rw [sl_self, List.append_nil, List.take_of_length_le h0.1]
    exact h0
  | succ n ih =>
    intro i S l hn hi h0 h1 hQ
    have hm := h1.1
    refine f_T_appendPart_3 hk0 hk1 ⟨fun h => absurd h (nI_ge (by omega) (by omega)), fun _ => ⟨vp_in_nI (by omega) (by omega), ?_⟩⟩
    rw [nI_clamp (by omega), h1.2.2 i (by omega)]
    refine (s_T_append hk0 h0).mono fun S1 ⟨a1, a2⟩ => ?_
    rw [nI_1]
    refine ih (i + 1) S1 _ (by omega) (by omega) a1 (h1.keep a2 hne.1 hne.2) fun S' c1 c2 => hQ S' ?_ (a2.tr c2)
    rw [sl_cons (by omega) hb]
    rw [tk_tk] at c1
    simpa using c1
theorem s_T_appendPart {g : lp_G} {d : Nat} {S : SS} {k0 k1 a b : Nat} {l m : List Int32} (hk0 : isT k0) (hk1 : isT k1) (hne : tne k0 k1) (hab : a ≤ b) (hb : b ≤ m.length) (h0 : tx S k0 l) (h1 : tx S k1 m) : MtV g um_T_appendPart (d + 1) [.ref (g.2.1 + k0), .ref (g.2.1 + k1), .int (nI a), .int (nI b)] S (fun S' => tx S' k0 ((l ++ sl m a b).take 24) ∧ off (tp k0) S S') :=
  f_T_appendPart hk0 hk1 (s_T_part hk0 hk1 hne hb (b - a) a S l rfl hab h0 h1 fun S' c1 c2 => ⟨c1, c2⟩)
theorem tx_zero {S : SS} {k : Nat} : tx (setI S k 1 0) k [] := ⟨by simp, by rw [setI_s]; rfl, fun i hi => by simp at hi⟩
theorem s_T_become {g : lp_G} {d : Nat} {S : SS} {k0 k1 : Nat} {m : List Int32} (hk0 : isT k0) (hk1 : isT k1) (hne : tne k0 k1) (h1 : tx S k1 m) : MtV g um_T_become (d + 2) [.ref (g.2.1 + k0), .ref (g.2.1 + k1)] S (fun S' => tx S' k0 m ∧ off (tp k0) S S') := by
  refine f_T_become hk0 hk1 ?_
  rintro S1 rfl
  have o1 : off (tp k0) S (setI S k0 1 0) := off_I (Or.inl rfl)
  have h1' := h1.keep o1 hne.1 hne.2
  rw [h1'.2.1]
  refine (s_T_appendPart (a := 0) hk0 hk1 hne (Nat.zero_le _) (Nat.le_refl _) tx_zero h1').mono fun S' ⟨c1, c2⟩ => ⟨?_, o1.tr c2⟩
  rw [sl_all, List.nil_append, List.take_of_length_le h1.1] at c1
  exact c1
theorem s_T_letters_loop {g : lp_G} {d : Nat} {Q : Int32 → SS → Prop} {k : Nat} {l : List Int32} {S : SS} (hk : isT k) (h : tx S k l) : ∀ (n i : Nat), l.length - i = n → i ≤ l.length → Q (b2i ((l.drop i).all isLet)) S → AtI g um_T_hasOnlyLetters (d + 1) Q 2 [(0, .ref (g.2.1 + k)), (1, .int (nI i))] [] S := by
  have hl := h.1
  intro n
  induction n with
  | zero =>
    intro i hn hi hQ
    have e : i = l.length := by omega
    subst e
    refine f_T_hasOnlyLetters_2 hk ⟨fun _ => ?_, fun z => absurd (by rw [h.2.1]; exact nI_le (Nat.le_refl _) (by omega)) z⟩
    simpa [b2i] using hQ
  | succ n ih =>
    intro i hn hi hQ
    refine f_T_hasOnlyLetters_2 hk ⟨fun z => absurd (by rw [h.2.1] at z; exact z) (nI_ge (by omega) (by omega)), fun _ => ⟨vp_in_nI (by omega) (by omega), ?_⟩⟩
    rw [nI_clamp (by omega), h.2.2 i (by omega)]
    have e : l.drop i = l.getD i 0 :: l.drop (i + 1) := by
      rw [List.drop_eq_getElem_cons (by omega)]
      simp [List.getD_eq_getElem?_getD, show i < l.length by omega]
    rw [e] at hQ
    refine s_P_isLetter.mono fun r S' ⟨e1, e2⟩ => ?_
    subst e1
    subst e2
    rw [nI_1]
    refine ⟨fun z => ih (i + 1) (by omega) (by omega) ?_, fun z => ?_⟩
    · rw [b2i_1] at z
      rw [List.all_cons, z, Bool.true_and] at hQ
      exact hQ
    · rw [b2i_0] at z
      rw [List.all_cons, z, Bool.false_and] at hQ
      exact hQ
theorem s_T_letters {g : lp_G} {d : Nat} {k : Nat} {l : List Int32} {S : SS} (hk : isT k) (h : tx S k l) : MtI g um_T_hasOnlyLetters (d + 1) [.ref (g.2.1 + k)] S (fun r S' => S' = S ∧ r = b2i (l.all isLet)) :=
  f_T_hasOnlyLetters hk (s_T_letters_loop (i := 0) hk h _ rfl (Nat.zero_le _) ⟨rfl, by simp⟩)
/-- the one place of x in f from a on before b, if there is just one -/
def isOnly (f : Nat → Int32) (x : Int32) (a b : Nat) (o : Option Nat) : Prop := match o with
  | some j => a ≤ j ∧ j < b ∧ f j = x ∧ ∀ i, a ≤ i → i < b → f i = x → i = j
  | none => ¬ ∃ j, a ≤ j ∧ j < b ∧ f j = x ∧ ∀ i, a ≤ i → i < b → f i = x → i = j
theorem isOnly.uniq {f : Nat → Int32} {x : Int32} {a b : Nat} {o o' : Option Nat} (h : isOnly f x a b o) (h' : isOnly f x a b o') : o = o' := by
  cases o with
  | none => cases o' with
    | none => rfl
    | some j => exact absurd ⟨j, h'⟩ h
  | some i => cases o' with
    | none => exact absurd ⟨i, h⟩ h'
    | some j => rw [h'.2.2.2 i h.1 h.2.1 h.2.2.1]
theorem s_T_only_loop {g : lp_G} {d : Nat} {Q : Int32 → SS → Prop} {k : Nat} {S : SS} {x : Int32} {a b : Nat} (hk : isT k) (hb : b ≤ 24) (hQ : ∀ o, isOnly (S.2 (k + 1)) x a b o → Q (en o) S) : ∀ (n i : Nat) (o : Option Nat), b - i = n → i ≤ b → a ≤ i → ((o = none ∧ ∀ j, a ≤ j → j < i → ¬ S.2 (k + 1) j = x) ∨ ∃ j, o = some j ∧ isOnly (S.2 (k + 1)) x a i o) →
    AtI g um_T_onlyPlace d Q 7 [(0, .ref (g.2.1 + k)), (1, .int x), (3, .int (nI b)), (4, .int (en o)), (5, .int (nI i))] [] S := by
  intro n
  induction n with
  | zero =>
    intro i o hn hi ha ho
    have e : i = b := by omega
    subst e
    refine f_T_onlyPlace_7 hk ⟨fun _ => hQ o ?_, fun z => absurd (nI_le (Nat.le_refl _) (by omega)) z⟩
    rcases ho with ⟨rfl, h⟩ | ⟨j, rfl, h⟩
    · rintro ⟨j, h1, h2, h3, -⟩
      exact h j h1 h2 h3
    · exact h
  | succ n ih =>
    intro i o hn hi ha ho
    refine f_T_onlyPlace_7 hk ⟨fun z => absurd z (nI_ge (by omega) (by omega)), fun _ => ⟨vp_in_nI (by omega) (by omega), ?_⟩⟩
    rw [nI_clamp (by omega), nI_1]
    refine ⟨fun z => ih (i + 1) o (by omega) (by omega) (by omega) ?_, fun z => ⟨fun y => ?_, fun y => ?_⟩⟩
    · rcases ho with ⟨rfl, h⟩ | ⟨j, rfl, h1, h2, h3, h4⟩
      · refine Or.inl ⟨rfl, fun j h1 h2 => ?_⟩
        by_cases e : j = i
        · rw [e]; exact z
        · exact h j h1 (by omega)
      · refine Or.inr ⟨j, rfl, h1, by omega, h3, fun q a1 a2 a3 => ?_⟩
        by_cases e : q = i
        · subst e; exact absurd a3 z
        · exact h4 q a1 (by omega) a3
    · refine ih (i + 1) (some i) (by omega) (by omega) (by omega) ?_
      rcases ho with ⟨rfl, h⟩ | ⟨j, rfl, h⟩
      · refine Or.inr ⟨i, rfl, ha, by omega, z, fun q a1 a2 a3 => ?_⟩
        by_cases e : q = i
        · exact e
        · exact absurd a3 (h q a1 (by omega))
      · exact absurd y (en_ne (by have := h.2.1; omega))
    · refine hQ none ?_
      rcases ho with ⟨rfl, h⟩ | ⟨j, rfl, h1, h2, h3, h4⟩
      · exact absurd rfl y
      · rintro ⟨q, a1, a2, a3, a4⟩
        have e1 := a4 j h1 (by omega) h3
        have e2 := a4 i ha (by omega) z
        omega
theorem s_T_onlyPlace {g : lp_G} {d : Nat} {k : Nat} {S : SS} {x : Int32} {a b : Nat} (hk : isT k) (hab : a ≤ b) (hb : b ≤ 24) : MtI g um_T_onlyPlace d [.ref (g.2.1 + k), .int x, .int (nI a), .int (nI b)] S (fun r S' => S' = S ∧ ∃ o, isOnly (S.2 (k + 1)) x a b o ∧ r = en o) :=
  f_T_onlyPlace hk (s_T_only_loop hk hb (fun o ho => ⟨rfl, o, ho, rfl⟩) _ a none rfl hab (Nat.le_refl _) (Or.inl ⟨rfl, fun j h1 h2 => by omega⟩))
