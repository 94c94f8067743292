/-! the class reads the lines of a hunk, and all hunks -/
def dl : Nat → Prop := fun j => j = 1 ∨ j = 6 ∨ j = 8
def dp : Nat → Prop := fun q => q = 120 ∨ q = 121
def ld (S : SS) (l : List Int32) (i o0 n0 : Nat) (O N : List Int32) : Prop := rd S l i ∧ S.1 119 3 = nI o0 ∧ S.1 119 4 = nI n0 ∧ S.1 119 6 = nI O.length ∧ S.1 119 8 = nI N.length ∧ O.length ≤ o0 ∧ o0 ≤ 99 ∧ N.length ≤ n0 ∧ n0 ≤ 99 ∧ (∀ j, j < O.length → S.2 120 j = O.getD j 0) ∧ (∀ j, j < N.length → S.2 121 j = N.getD j 0)
theorem ld.step {S S' : SS} {l O N : List Int32} {i o0 n0 : Nat} (h : ld S l i o0 n0 O N) (hi : i < l.length) (e : S' = setI S 119 1 (S.1 119 1 + 1)) : ld S' l (i + 1) o0 n0 O N ∧ od dl dp S S' := by
  obtain ⟨a, o⟩ := h.1.step hi e
  obtain ⟨h1, h2, h3, h4, h5, h6, h7, h8, h9, h10, h11⟩ := h
  refine ⟨⟨a, ?_, ?_, ?_, ?_, h6, h7, h8, h9, ?_, ?_⟩, o.mo (fun j z => Or.inl z) (fun _ z => z.elim)⟩
  · rw [o.1 119 3 (by simp [d1])]; exact h2
  · rw [o.1 119 4 (by simp [d1])]; exact h3
  · rw [o.1 119 6 (by simp [d1])]; exact h4
  · rw [o.1 119 8 (by simp [d1])]; exact h5
  · rw [o.2 120 (by simp [d0])]; exact h10
  · rw [o.2 121 (by simp [d0])]; exact h11
theorem ar_snoc {S : SS} {k : Nat} {O : List Int32} {x : Int32} (h : ∀ j, j < O.length → S.2 k j = O.getD j 0) : ∀ j, j < (O ++ [x]).length → (setA S k O.length x).2 k j = (O ++ [x]).getD j 0 := by
  intro j hj
  by_cases e : j = O.length
  · subst e
    rw [setA_s, gd_r (Nat.le_refl _)]
    simp
  · have hj : j < O.length := by simp at hj; omega
    rw [setA_o (Or.inr e), h j hj, gd_l hj]
theorem ld.old {S S1 S2 : SS} {l O N : List Int32} {x : Int32} {i o0 n0 : Nat} (h : ld S l i o0 n0 O N) (ho : O.length < o0) (e1 : S1 = setA S 120 (S.1 119 6).toNatClampNeg x) (e2 : S2 = setI S1 119 6 (S1.1 119 6 + 1)) : ld S2 l i o0 n0 (O ++ [x]) N ∧ od dl dp S S2 := by
  obtain ⟨h1, h2, h3, h4, h5, h6, h7, h8, h9, h10, h11⟩ := h
  have o : od dl dp S S2 := by
    subst e2 e1
    exact (od_A (Or.inl rfl)).tr (od_I (Or.inr (Or.inl rfl)))
  have o' : od (fun j => j = 6) (fun q => q = 120) S S2 := by
    subst e2 e1
    exact (od_A (ps := fun q => q = 120) (fs := fun j => j = 6) rfl).tr (od_I rfl)
  refine ⟨⟨h1.keep o' (by omega) (by omega), ?_, ?_, ?_, ?_, by simp; omega, h7, h8, h9, ?_, ?_⟩, o⟩
  · rw [o'.1 119 3 (by omega)]; exact h2
  · rw [o'.1 119 4 (by omega)]; exact h3
  · rw [e2, setI_s, e1, setA_1, h4, nI_1, List.length_append]; rfl
  · rw [o'.1 119 8 (by omega)]; exact h5
  · rw [e2, setI_2, e1, h4, nI_clamp (by omega)]
    exact ar_snoc h10
  · rw [o'.2 121 (by omega)]; exact h11
theorem ld.new {S S1 S2 : SS} {l O N : List Int32} {x : Int32} {i o0 n0 : Nat} (h : ld S l i o0 n0 O N) (ho : N.length < n0) (e1 : S1 = setA S 121 (S.1 119 8).toNatClampNeg x) (e2 : S2 = setI S1 119 8 (S1.1 119 8 + 1)) : ld S2 l i o0 n0 O (N ++ [x]) ∧ od dl dp S S2 := by
  obtain ⟨h1, h2, h3, h4, h5, h6, h7, h8, h9, h10, h11⟩ := h
  have o : od dl dp S S2 := by
    subst e2 e1
    exact (od_A (Or.inr rfl)).tr (od_I (Or.inr (Or.inr rfl)))
  have o' : od (fun j => j = 8) (fun q => q = 121) S S2 := by
    subst e2 e1
    exact (od_A (ps := fun q => q = 121) (fs := fun j => j = 8) rfl).tr (od_I rfl)
  refine ⟨⟨h1.keep o' (by omega) (by omega), ?_, ?_, ?_, ?_, h6, h7, by simp; omega, h9, ?_, ?_⟩, o⟩
  · rw [o'.1 119 3 (by omega)]; exact h2
  · rw [o'.1 119 4 (by omega)]; exact h3
  · rw [o'.1 119 6 (by omega)]; exact h4
  · rw [e2, setI_s, e1, setA_1, h5, nI_1, List.length_append]; rfl
  · rw [o'.2 120 (by omega)]; exact h10
  · rw [e2, setI_2, e1, h5, nI_clamp (by omega)]
    exact ar_snoc h11
def apO (c : Int32) (O : List Int32) (x : Int32) : List Int32 := if c = nI 43 then O else O ++ [x]
def apN (c : Int32) (N : List Int32) (x : Int32) : List Int32 := if c = nI 45 then N else N ++ [x]
theorem apO_L {c x : Int32} {O : List Int32} {L : List (Int32 × Int32)} : apO c O x ++ oldL L = O ++ oldL ((c, x) :: L) := by
  unfold apO oldL
  by_cases h : c = nI 43
  · simp [h]
  · simp [h]
theorem apN_L {c x : Int32} {O : List Int32} {L : List (Int32 × Int32)} : apN c O x ++ newL L = O ++ newL ((c, x) :: L) := by
  unfold apN newL
  by_cases h : c = nI 45
  · simp [h]
  · simp [h]
theorem lns_s {l : List Int32} {f o n i : Nat} (h0 : ¬ (o = 0 ∧ n = 0)) (h1 : may (ch l i) o n = true) (h2 : isLet (ch l (i + 1)) = true) (h3 : ch l (i + 2) = nI 10) : lns l (f + 1) o n i = match lns l f (dO (ch l i) o) (dN (ch l i) n) (i + 3) with
    | .error e => .error e
    | .ok (L, p) => .ok ((ch l i, ch l (i + 1)) :: L, p) := by
  rw [lns, if_neg h0, if_pos h1, if_pos h2, if_pos h3]
  cases lns l f (dO (ch l i) o) (dN (ch l i) n) (i + 3) <;> rfl
theorem lns_e0 {l : List Int32} {f o n i : Nat} (h0 : ¬ (o = 0 ∧ n = 0)) (h1 : ¬ may (ch l i) o n = true) : lns l (f + 1) o n i = .error i := by
  rw [lns, if_neg h0, if_neg h1]
theorem lns_e1 {l : List Int32} {f o n i : Nat} (h0 : ¬ (o = 0 ∧ n = 0)) (h1 : may (ch l i) o n = true) (h2 : ¬ isLet (ch l (i + 1)) = true) : lns l (f + 1) o n i = .error (i + 1) := by
  rw [lns, if_neg h0, if_pos h1, if_neg h2]
theorem lns_e2 {l : List Int32} {f o n i : Nat} (h0 : ¬ (o = 0 ∧ n = 0)) (h1 : may (ch l i) o n = true) (h2 : isLet (ch l (i + 1)) = true) (h3 : ¬ ch l (i + 2) = nI 10) : lns l (f + 1) o n i = .error (i + 2) := by
  rw [lns, if_neg h0, if_pos h1, if_pos h2, if_neg h3]
/-- what taking a line comes to -/
def lnP (S : SS) (l : List Int32) (i o0 n0 : Nat) (O N : List Int32) (r : Int32) (S' : SS) : Prop := od dl dp S S' ∧ ((r = 1 ∧ may (ch l i) (o0 - O.length) (n0 - N.length) = true ∧ isLet (ch l (i + 1)) = true ∧ ch l (i + 2) = nI 10 ∧ ld S' l (i + 3) o0 n0 (apO (ch l i) O (ch l (i + 1))) (apN (ch l i) N (ch l (i + 1)))) ∨ (r = 0 ∧ ∃ e, rd S' l e ∧ ∀ f, lns l (f + 1) (o0 - O.length) (n0 - N.length) i = .error e))
theorem s_D_tail {g : lp_G} {d : Nat} {S S1 : SS} {l O N : List Int32} {i o0 n0 : Nat} (hd : ¬ (o0 - O.length = 0 ∧ n0 - N.length = 0)) (hm : may (ch l i) (o0 - O.length) (n0 - N.length) = true) (hl : isLet (ch l (i + 1)) = true) (o1 : od dl dp S S1) (h : ld S1 l (i + 1 + 1) o0 n0 (apO (ch l i) O (ch l (i + 1))) (apN (ch l i) N (ch l (i + 1)))) : MtI g um_D_takeSign (d + 1) [.ref (g.2.1 + 119), .int (nI 10)] S1 (fun r S' => isB r ∧ lnP S l i o0 n0 O N r S') := by
  refine (s_D_sign (by omega) h.1).mono fun r S2 w => ?_
  rcases w with ⟨w1, w2, _, w3, w4⟩ | ⟨w1, w2, _, w4⟩
  · obtain ⟨a, b⟩ := h.step w3 w4
    subst w1
    exact ⟨isB_1, o1.tr b, Or.inl ⟨rfl, hm, hl, w2, a⟩⟩
  · subst w1
    subst w4
    exact ⟨isB_0, o1, Or.inr ⟨rfl, i + 2, h.1, fun f => lns_e2 hd hm hl w2⟩⟩
/-- the letter behind the sign -/
theorem s_D_letter {g : lp_G} {d : Nat} {S S1 : SS} {l O N : List Int32} {i o0 n0 : Nat} {K : Int32 → SS → Prop} {Z : Int32 → SS → Prop} (hd : ¬ (o0 - O.length = 0 ∧ n0 - N.length = 0)) (hm : may (ch l i) (o0 - O.length) (n0 - N.length) = true) (h : ld S l i o0 n0 O N) (hi : i < l.length) (e : S1 = setI S 119 1 (S.1 119 1 + 1)) (hK : ∀ S2, ld S2 l (i + 1) o0 n0 O N → od dl dp S S2 → isLet (ch l (i + 1)) = true → i + 1 < l.length → K (ch l (i + 1)) S2) (hZ : ∀ S2, lnP S l i o0 n0 O N 0 S2 → Z (ch l (i + 1)) S2) : MtI g um_D_here d [.ref (g.2.1 + 119)] S1 (fun r8 S7 => MtI g um_P_isLetter d [.int r8] S7 (fun r10 S9 => (¬ r10 = 0 → K r8 S9) ∧ (r10 = 0 → Z r8 S9))) := by
  obtain ⟨a, b⟩ := h.step hi e
  refine (s_D_here a.1).mono fun r S2 ⟨e1, e2⟩ => ?_
  subst e1
  subst e2
  refine s_P_isLetter.mono fun r S3 ⟨e1, e2⟩ => ?_
  subst e1
  subst e2
  refine ⟨fun z => ?_, fun z => ?_⟩
  · rw [b2i_1] at z
    exact hK _ a b z (isLet_lt z)
  · rw [b2i_0] at z
    exact hZ _ ⟨b, Or.inr ⟨rfl, i + 1, a.1, fun f => lns_e1 hd hm (by rw [z]; decide)⟩⟩
theorem s_D_line {g : lp_G} {d : Nat} {S : SS} {l O N : List Int32} {i o0 n0 : Nat} (h : ld S l i o0 n0 O N) (hd : ¬ (o0 - O.length = 0 ∧ n0 - N.length = 0)) : MtI g um_D_takeLine (d + 2) [.ref (g.2.1 + 119)] S (fun r S' => lnP S l i o0 n0 O N r S') := by
  have n1 : ¬ nI 45 = nI 43 := by decide
  have n2 : ¬ nI 32 = nI 43 := by decide
  have n3 : ¬ nI 32 = nI 45 := by decide
  have h3 := h.2.1
  have h4 := h.2.2.1
  have h6 := h.2.2.2.1
  have h8 := h.2.2.2.2.1
  have lO := h.2.2.2.2.2.1
  have lo := h.2.2.2.2.2.2.1
  have lN := h.2.2.2.2.2.2.2.1
  have ln := h.2.2.2.2.2.2.2.2.1
  refine f_D_takeLine ((s_D_here h.1).mono fun r S1 ⟨e1, e2⟩ => ?_)
  subst e1
  rw [h3, h4, h6, h8, nI_leI (by omega) (by omega), nI_ltI (by omega) (by omega)]
  have er : ¬ may r (o0 - O.length) (n0 - N.length) = true → lnP S1 l i o0 n0 O N 0 S1 := fun z => ⟨od.re, Or.inr ⟨rfl, i, h.1, fun f => lns_e0 hd (e2 ▸ z)⟩⟩
  refine ⟨fun z => ⟨fun y => er fun w => ?_, fun y => ⟨fun x => ?_, fun x => er fun w => ?_⟩⟩, fun z => ⟨fun y => ⟨fun x => er fun w => ?_, fun x => ⟨fun w => ?_, fun w => er fun v => ?_⟩⟩, fun y => ⟨fun x => ⟨fun w => er fun v => ?_, fun w => ?_⟩, fun x => absurd (y.symm.trans x) n1⟩⟩⟩
  · rcases may_t.mp w with w | w | w
    · omega
    · exact n3 (z.symm.trans w.1)
    · exact n2 (z.symm.trans w.1)
  · have hc : ch l i = nI 32 := e2.symm.trans z
    have hm : may (ch l i) (o0 - O.length) (n0 - N.length) = true := may_t.mpr (Or.inl ⟨hc, by omega, by omega⟩)
    intro S6 e6
    refine s_D_letter hd hm h (ch_lt (by omega) hc) e6 (fun S9 a9 o9 hl hi S12 e12 => ?_) (fun S2 z => z)
    obtain ⟨a12, o12⟩ := a9.step hi e12
    refine ⟨by rw [a12.2.2.2.1]; exact vp_in_nI (by omega) (by omega), fun S14 e14 S15 e15 => ?_⟩
    obtain ⟨a15, o15⟩ := a12.old (by omega) e14 e15
    refine ⟨by rw [a15.2.2.2.2.1]; exact vp_in_nI (by omega) (by omega), fun S17 e17 S18 e18 => ?_⟩
    obtain ⟨a18, o18⟩ := a15.new (by omega) e17 e18
    refine s_D_tail hd hm hl (((o9.tr o12).tr o15).tr o18) ?_
    rw [apO, apN, hc, if_neg n2, if_neg n3]
    exact a18
  · rcases may_t.mp w with w | w | w
    · omega
    · exact n3 (z.symm.trans w.1)
    · exact n2 (z.symm.trans w.1)
  · rcases may_t.mp w with w | w | w
    · exact z w.1
    · exact y w.1
    · exact x w.1
  · have hc : ch l i = nI 43 := e2.symm.trans x
    have hm : may (ch l i) (o0 - O.length) (n0 - N.length) = true := may_t.mpr (Or.inr (Or.inr ⟨hc, by omega⟩))
    intro S6 e6
    refine s_D_letter hd hm h (ch_lt (by omega) hc) e6 (fun S9 a9 o9 hl hi S12 e12 => ?_) (fun S2 z => z)
    obtain ⟨a12, o12⟩ := a9.step hi e12
    refine ⟨by rw [a12.2.2.2.2.1]; exact vp_in_nI (by omega) (by omega), fun S17 e17 S18 e18 => ?_⟩
    obtain ⟨a18, o18⟩ := a12.new (by omega) e17 e18
    refine s_D_tail hd hm hl ((o9.tr o12).tr o18) ?_
    rw [apO, apN, hc, if_pos rfl, if_neg (Ne.symm n1)]
    exact a18
  · rcases may_t.mp v with v | v | v
    · exact z v.1
    · exact y v.1
    · omega
  · rcases may_t.mp v with v | v | v
    · exact z v.1
    · omega
    · exact x v.1
  · have hc : ch l i = nI 45 := e2.symm.trans y
    have hm : may (ch l i) (o0 - O.length) (n0 - N.length) = true := may_t.mpr (Or.inr (Or.inl ⟨hc, by omega⟩))
    intro S6 e6
    refine s_D_letter hd hm h (ch_lt (by omega) hc) e6 (fun S9 a9 o9 hl hi S12 e12 => ?_) (fun S2 z => z)
    obtain ⟨a12, o12⟩ := a9.step hi e12
    refine ⟨by rw [a12.2.2.2.1]; exact vp_in_nI (by omega) (by omega), fun S14 e14 S15 e15 => ?_⟩
    obtain ⟨a15, o15⟩ := a12.old (by omega) e14 e15
    refine s_D_tail hd hm hl ((o9.tr o12).tr o15) ?_
    rw [apO, apN, hc, if_neg n1, if_pos rfl]
    exact a15
theorem may_O {c : Int32} {o0 n : Nat} {O : List Int32} {x : Int32} : dO c (o0 - O.length) = o0 - (apO c O x).length := by
  unfold dO apO
  split
  · rfl
  · simp; omega
theorem may_N {c : Int32} {o0 : Nat} {O : List Int32} {x : Int32} : dN c (o0 - O.length) = o0 - (apN c O x).length := by
  unfold dN apN
  split
  · rfl
  · simp; omega
theorem s_D_lines_loop {g : lp_G} {d : Nat} {Q : Int32 → SS → Prop} {l : List Int32} {o0 n0 : Nat} : ∀ (f i : Nat) (O N : List Int32) (S : SS), ld S l i o0 n0 O N → (o0 - O.length) + (n0 - N.length) ≤ f → f ≤ 198 → (∀ r S', od dl dp S S' → ((∃ L p, lns l f (o0 - O.length) (n0 - N.length) i = .ok (L, p) ∧ r = 1 ∧ ld S' l p o0 n0 (O ++ oldL L) (N ++ newL L)) ∨ (∃ e, lns l f (o0 - O.length) (n0 - N.length) i = .error e ∧ r = 0 ∧ rd S' l e)) → Q r S') → AtI g um_D_takeLines (d + 3) Q 20 [(0, .ref (g.2.1 + 119)), (1, .int (nI f))] [] S := by
  intro f
  induction f with
  | zero =>
    intro i O N S h hf h2 hQ
    refine f_D_takeLines_20 ⟨fun _ => hQ 1 S od.re (Or.inl ⟨[], i, rfl, rfl, ?_⟩), fun z => absurd (by decide) z⟩
    simpa [oldL, newL] using h
  | succ f ih =>
    intro i O N S h hf h2 hQ
    have lO := h.2.2.2.2.2.1
    have lo := h.2.2.2.2.2.2.1
    have lN := h.2.2.2.2.2.2.2.1
    have ln := h.2.2.2.2.2.2.2.2.1
    refine f_D_takeLines_20 ⟨fun z => absurd z (nI_ge (a := 0) (by omega) (by omega)), fun _ => ?_⟩
    have due : MtI g um_D_hasLinesDue (d + 2) [.ref (g.2.1 + 119)] S (fun r S' => S' = S ∧ ((r = 0 ∧ o0 - O.length = 0 ∧ n0 - N.length = 0) ∨ (r = 1 ∧ ¬ (o0 - O.length = 0 ∧ n0 - N.length = 0)))) := by
      refine f_D_hasLinesDue ?_
      rw [h.2.1, h.2.2.1, h.2.2.2.1, h.2.2.2.2.1, nI_ltI (by omega) (by omega), nI_leI (by omega) (by omega)]
      exact ⟨fun z => ⟨rfl, Or.inr ⟨rfl, by omega⟩⟩, fun z => ⟨fun y => ⟨rfl, Or.inl ⟨rfl, by omega, by omega⟩⟩, fun y => ⟨rfl, Or.inr ⟨rfl, by omega⟩⟩⟩⟩
    refine due.mono fun r S1 ⟨e1, w⟩ => ?_
    subst e1
    rcases w with ⟨w1, w2⟩ | ⟨w1, w2⟩
    · refine ⟨fun _ => hQ 1 S1 od.re (Or.inl ⟨[], i, by rw [lns, if_pos w2], rfl, ?_⟩), fun z => absurd w1 z⟩
      simpa [oldL, newL] using h
    · refine ⟨fun z => absurd (w1.symm.trans z) (by decide), fun _ => ?_⟩
      refine (s_D_line h w2).mono fun r S2 ⟨o2, w⟩ => ?_
      rcases w with ⟨v1, v2, v3, v4, v5⟩ | ⟨v1, e, v2, v3⟩
      · refine ⟨fun _ => ?_, fun z => absurd (v1.symm.trans z) (by decide)⟩
        have md := may_d v2
        rw [may_O (n := 0) (x := ch l (i + 1)), may_N (x := ch l (i + 1))] at md
        rw [pk_m1]
        refine ih (i + 3) _ _ S2 v5 (by omega) (by omega) fun r S3 o3 w => hQ r S3 (o2.tr o3) ?_
        rw [lns_s w2 v2 v3 v4, may_O (n := 0) (x := ch l (i + 1)), may_N (x := ch l (i + 1))]
        rcases w with ⟨L, p, t1, t2, t3⟩ | ⟨e, t1, t2, t3⟩
        · refine Or.inl ⟨(ch l i, ch l (i + 1)) :: L, p, by simp only [t1], t2, ?_⟩
          rw [← apO_L, ← apN_L]
          exact t3
        · exact Or.inr ⟨e, by simp only [t1], t2, t3⟩
      · exact ⟨fun z => absurd v1 z, fun _ => hQ 0 S2 o2 (Or.inr ⟨e, v3 f, rfl, v2⟩)⟩
def hl (S : SS) (L : List (Int32 × Int32)) : Prop := S.1 119 6 = nI (oldL L).length ∧ S.1 119 8 = nI (newL L).length ∧ (∀ j, j < (oldL L).length → S.2 120 j = (oldL L).getD j 0) ∧ (∀ j, j < (newL L).length → S.2 121 j = (newL L).getD j 0)
def dh : Nat → Prop := fun j => d4 j ∨ dl j
theorem s_D_hunk {g : lp_G} {d : Nat} {S : SS} {l : List Int32} {i : Nat} (h : rd S l i) : MtI g um_D_takeHunk (d + 4) [.ref (g.2.1 + 119)] S (fun r S' => od dh dp S S' ∧ ((∃ a p L q, hnk l i = .ok ((a, p, L), q) ∧ r = 1 ∧ rd S' l q ∧ S'.1 119 2 = nI a ∧ hl S' L) ∨ (∃ e, hnk l i = .error e ∧ r = 0 ∧ rd S' l e))) := by
  refine f_D_takeHunk ((s_D_head h).mono fun r S1 ⟨o1, w⟩ => ?_)
  replace o1 : od dh dp S S1 := o1.mo (fun j z => Or.inl z) (fun _ z => z.elim)
  rcases w with ⟨a, o, n, p, w1, w2, w3, w4, w5, w6⟩ | ⟨e, w1, w2, w3⟩
  · have hb := hdr_ok w1
    refine ⟨fun z => absurd (w2.symm.trans z) (by decide), fun _ => f_D_takeLines ?_⟩
    rintro S2 rfl S3 rfl
    have o3 : od (fun j => j = 6 ∨ j = 8) d0 S1 (setI (setI S1 119 6 0) 119 8 0) := (od_I (Or.inl rfl)).tr (od_I (Or.inr rfl))
    have e3 : (setI (setI S1 119 6 0) 119 8 0).1 119 3 = nI o := by rw [setI_o (by omega), setI_o (by omega)]; exact w5
    have e4 : (setI (setI S1 119 6 0) 119 8 0).1 119 4 = nI n := by rw [setI_o (by omega), setI_o (by omega)]; exact w6
    have e2 : (setI (setI S1 119 6 0) 119 8 0).1 119 2 = nI a := by rw [setI_o (by omega), setI_o (by omega)]; exact w4
    rw [e3, e4, nI_add]
    refine s_D_lines_loop (o0 := o) (n0 := n) (o + n) p [] [] _ ⟨w3.keep o3 (by omega) (by simp [d0]), e3, e4, by rw [setI_o (by omega), setI_s]; rfl, by rw [setI_s]; rfl, by simp, by omega, by simp, by omega, fun j hj => by simp at hj, fun j hj => by simp at hj⟩ (by simp) (by omega) fun r S4 o4 w => ?_
    have oo : od dh dp S S4 := (o1.tr (o3.mo (fun j z => by unfold dh dl; omega) (fun _ z => z.elim))).tr (o4.mo (fun j z => Or.inr z) (fun _ z => z))
    rcases w with ⟨L, q, v1, v2, v3⟩ | ⟨e, v1, v2, v3⟩
    · refine ⟨fun z => absurd (v2.symm.trans z) (by decide), fun _ => ⟨oo, Or.inl ⟨a, p, L, q, ?_, rfl, v3.1, ?_, ?_⟩⟩⟩
      · simp only [List.length_nil, Nat.sub_zero] at v1
        simp only [hnk, w1, v1]
      · rw [o4.1 119 2 (by simp [dl])]; exact e2
      · unfold hl
        simpa only [List.nil_append] using (⟨v3.2.2.2.1, v3.2.2.2.2.1, v3.2.2.2.2.2.2.2.2.2.1, v3.2.2.2.2.2.2.2.2.2.2⟩ : _ ∧ _ ∧ _ ∧ _)
    · refine ⟨fun _ => ⟨oo, Or.inr ⟨e, ?_, rfl, v3⟩⟩, fun z => absurd v2 z⟩
      simp only [List.length_nil, Nat.sub_zero] at v1
      simp only [hnk, w1, v1]
  · exact ⟨fun _ => ⟨o1, Or.inr ⟨e, by simp only [hnk, w1], rfl, w3⟩⟩, fun z => absurd w2 z⟩
theorem s_D_hasMore {g : lp_G} {d : Nat} {S : SS} {l : List Int32} {i : Nat} (h : rd S l i) : MtI g um_D_hasMore d [.ref (g.2.1 + 119)] S (fun r S' => S' = S ∧ ((r = 0 ∧ l.length ≤ i) ∨ (r = 1 ∧ ¬ l.length ≤ i))) := by
  have hl := h.1.1
  have hi := h.2.2
  refine f_D_hasMore ?_
  rw [h.1.2.1, h.2.1, nI_leI (by omega) (by omega)]
  exact ⟨fun z => ⟨rfl, Or.inl ⟨rfl, z⟩⟩, fun z => ⟨rfl, Or.inr ⟨rfl, z⟩⟩⟩
theorem s_D_fail_loop {g : lp_G} {d : Nat} {Q : Int32 → SS → Prop} {l : List Int32} : ∀ (f k i : Nat) (S : SS), rd S l i → l.length ≤ i + f → k ≤ i → (∀ r S', od dh dp S S' → ((∃ H, hks l f i = .ok H ∧ r = -1) ∨ (∃ e, hks l f i = .error e ∧ r = nI e ∧ e ≤ l.length)) → Q r S') → AtI g um_D_placeOfFailure (d + 5) Q 6 [(0, .ref (g.2.1 + 119)), (1, .int (nI k))] [] S := by
  intro f
  induction f with
  | zero =>
    intro k i S h hf hk hQ
    have hl := h.1.1
    have hi := h.2.2
    refine f_D_placeOfFailure_6 ⟨fun _ => hQ (-1) S od.re (Or.inl ⟨[], rfl, rfl⟩), fun _ => (s_D_hasMore h).mono fun r S1 ⟨e1, w⟩ => ?_⟩
    subst e1
    rcases w with ⟨w1, w2⟩ | ⟨w1, w2⟩
    · exact ⟨fun _ => hQ (-1) S1 od.re (Or.inl ⟨[], rfl, rfl⟩), fun z => absurd w1 z⟩
    · exact absurd hf (by omega)
  | succ f ih =>
    intro k i S h hf hk hQ
    have hl := h.1.1
    have hi := h.2.2
    refine f_D_placeOfFailure_6 ⟨fun z => ?_, fun _ => (s_D_hasMore h).mono fun r S1 ⟨e1, w⟩ => ?_⟩
    · rw [nI_leI (by omega) (by omega)] at z
      exact hQ (-1) S od.re (Or.inl ⟨[], by rw [hks, if_pos (by omega)], rfl⟩)
    · subst e1
      rcases w with ⟨w1, w2⟩ | ⟨w1, w2⟩
      · exact ⟨fun _ => hQ (-1) S1 od.re (Or.inl ⟨[], by rw [hks, if_pos w2], rfl⟩), fun z => absurd w1 z⟩
      · refine ⟨fun z => absurd (w1.symm.trans z) (by decide), fun _ => ?_⟩
        refine (s_D_hunk h).mono fun r S2 ⟨o2, w⟩ => ?_
        rcases w with ⟨a, p, L, q, v1, v2, v3, v4, v5⟩ | ⟨e, v1, v2, v3⟩
        · have hb := hnk_ok v1
          refine ⟨fun _ => ?_, fun z => absurd (v2.symm.trans z) (by decide)⟩
          rw [nI_1]
          refine ih (k + 1) q S2 v3 (by omega) (by omega) fun r S3 o3 w => hQ r S3 (o2.tr o3) ?_
          rcases w with ⟨H, t1, t2⟩ | ⟨e, t1, t2⟩
          · exact Or.inl ⟨(a, p, L) :: H, by simp only [hks, if_neg w2, v1, t1], t2⟩
          · exact Or.inr ⟨e, by simp only [hks, if_neg w2, v1, t1], t2⟩
        · refine ⟨fun z => absurd v2 z, fun _ => ?_⟩
          rw [v3.2.1]
          exact hQ _ S2 o2 (Or.inr ⟨e, by simp only [hks, if_neg w2, v1], rfl, v3.2.2⟩)
theorem s_D_fail {g : lp_G} {d : Nat} {S : SS} {l : List Int32} (h : pa S l) : MtI g um_D_placeOfFailure (d + 5) [.ref (g.2.1 + 119)] S (fun r S' => od dh dp S S' ∧ ((∃ H, hks l l.length 0 = .ok H ∧ r = -1) ∨ (∃ e, hks l l.length 0 = .error e ∧ r = nI e ∧ e ≤ l.length))) := by
  refine f_D_placeOfFailure (f_D_goToBeginning ?_)
  rintro S1 rfl
  have o : od dh dp S (setI S 119 1 0) := od_I (Or.inl (Or.inl rfl))
  exact s_D_fail_loop l.length 0 0 _ ⟨od_pa h o (by simp [dp]), by rw [setI_s]; rfl, by omega⟩ (by omega) (by omega) fun r S' o' w => ⟨o.tr o', w⟩
