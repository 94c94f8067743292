/-! the class reads a patch -/
def od (fs ps : Nat → Prop) (S S' : SS) : Prop := (∀ q j, ¬ (q = 119 ∧ fs j) → S'.1 q j = S.1 q j) ∧ ∀ q, ¬ ps q → S'.2 q = S.2 q
theorem od.re {fs ps : Nat → Prop} {S : SS} : od fs ps S S := ⟨fun _ _ _ => rfl, fun _ _ => rfl⟩
theorem od.tr {fs ps : Nat → Prop} {S S1 S2 : SS} (h1 : od fs ps S S1) (h2 : od fs ps S1 S2) : od fs ps S S2 := ⟨fun q j h => (h2.1 q j h).trans (h1.1 q j h), fun q h => (h2.2 q h).trans (h1.2 q h)⟩
theorem od.mo {fs ps fs' ps' : Nat → Prop} {S S' : SS} (h : od fs ps S S') (h1 : ∀ j, fs j → fs' j) (h2 : ∀ q, ps q → ps' q) : od fs' ps' S S' := ⟨fun q j z => h.1 q j (fun y => z ⟨y.1, h1 j y.2⟩), fun q z => h.2 q (fun y => z (h2 q y))⟩
theorem od_I {fs ps : Nat → Prop} {S : SS} {j : Nat} {v : Int32} (h : fs j) : od fs ps S (setI S 119 j v) := ⟨fun q i z => setI_o (by
  by_cases e : q = 119
  · exact Or.inr (fun y => z ⟨e, y ▸ h⟩)
  · exact Or.inl e), fun _ _ => rfl⟩
theorem od_A {fs ps : Nat → Prop} {S : SS} {k i : Nat} {v : Int32} (h : ps k) : od fs ps S (setA S k i v) := ⟨fun _ _ _ => rfl, fun q z => by
  funext j
  exact setA_o (Or.inl (fun y => z (y ▸ h)))⟩
theorem od_off {fs ps : Nat → Prop} {S S' : SS} (h : od fs ps S S') : off (fun q => q = 119 ∨ ps q) S S' := fun q hq => ⟨by
  funext j
  exact h.1 q j (fun y => hq (Or.inl y.1)), h.2 q (fun y => hq (Or.inr y))⟩
theorem od_pa {fs ps : Nat → Prop} {S S' : SS} {l : List Int32} (h : pa S l) (ho : od fs ps S S') (h1 : ¬ ps 91) : pa S' l :=
  ⟨h.1, by rw [ho.1 90 1 (by omega)]; exact h.2.1, fun i hi => by rw [ho.2 91 h1]; exact h.2.2 i hi⟩
def rd (S : SS) (l : List Int32) (i : Nat) : Prop := pa S l ∧ S.1 119 1 = nI i ∧ i ≤ l.length
def d1 : Nat → Prop := fun j => j = 1
def d0 : Nat → Prop := fun _ => False
theorem rd.step {S S' : SS} {l : List Int32} {i : Nat} (h : rd S l i) (hi : i < l.length) (e : S' = setI S 119 1 (S.1 119 1 + 1)) : rd S' l (i + 1) ∧ od d1 d0 S S' := by
  subst e
  have o : od d1 d0 S (setI S 119 1 (S.1 119 1 + 1)) := od_I rfl
  exact ⟨⟨od_pa h.1 o (by simp [d0]), by rw [setI_s, h.2.1, nI_1], hi⟩, o⟩
theorem rd.keep {S S' : SS} {l : List Int32} {i : Nat} {fs ps : Nat → Prop} (h : rd S l i) (ho : od fs ps S S') (h1 : ¬ fs 1) (h2 : ¬ ps 91) : rd S' l i :=
  ⟨od_pa h.1 ho h2, by rw [ho.1 119 1 (fun z => h1 z.2)]; exact h.2.1, h.2.2⟩
theorem s_D_here {g : lp_G} {d : Nat} {S : SS} {l : List Int32} {i : Nat} (h : rd S l i) : MtI g um_D_here d [.ref (g.2.1 + 119)] S (fun r S' => S' = S ∧ r = ch l i) := by
  obtain ⟨h1, h2, h3⟩ := h
  have hl := h1.1
  refine f_D_here ?_
  rw [h1.2.1, h2, nI_leI (by omega) (by omega)]
  refine ⟨fun z => ⟨rfl, by rw [ch_out (by omega)]⟩, fun z => ⟨vp_in_nI (by omega) (by omega), rfl, ?_⟩⟩
  rw [nI_clamp (by omega), h1.2.2 i (by omega), ch_in (by omega)]
theorem s_D_isDigit {g : lp_G} {d : Nat} {S : SS} {x : Int32} : MtI g um_D_isDigit d [.int x] S (fun r S' => S' = S ∧ r = b2i (isD x)) := by
  refine f_D_isDigit ⟨fun h => ⟨rfl, ?_⟩, fun h => ⟨fun h2 => ⟨rfl, ?_⟩, fun h2 => ⟨rfl, ?_⟩⟩⟩
  · simp [b2i, isD, h]
  · simp [b2i, isD, h, h2]
  · simp [b2i, isD, h, h2]
theorem s_D_sign {g : lp_G} {d : Nat} {S : SS} {l : List Int32} {i c : Nat} (hc : c < 2 ^ 31) (h : rd S l i) : MtI g um_D_takeSign (d + 1) [.ref (g.2.1 + 119), .int (nI c)] S (fun r S' => (r = 1 ∧ ch l i = nI c ∧ sgn l c i = .ok (i + 1) ∧ i < l.length ∧ S' = setI S 119 1 (S.1 119 1 + 1)) ∨ (r = 0 ∧ ¬ ch l i = nI c ∧ sgn l c i = .error i ∧ S' = S)) := by
  refine f_D_takeSign ((s_D_here h).mono fun r S1 ⟨e1, e2⟩ => ?_)
  subst e1
  subst e2
  refine ⟨fun z => ?_, fun z => Or.inr ⟨rfl, z, by rw [sgn, if_neg z], rfl⟩⟩
  rintro S4 rfl
  exact Or.inl ⟨rfl, z, by rw [sgn, if_pos z], ch_lt hc z, rfl⟩
theorem sb48 {k : Nat} : nI (48 + k) - nI 48 = nI k := by
  rw [pk_sub (by omega), show 48 + k - 48 = k by omega]
theorem s_D_num {g : lp_G} {d : Nat} {S : SS} {l : List Int32} {i : Nat} (h : rd S l i) : MtI g um_D_takeNumber (d + 1) [.ref (g.2.1 + 119)] S (fun r S' => (∃ v p, num l i = .ok (v, p) ∧ r = nI v ∧ rd S' l p ∧ od d1 d0 S S') ∨ (num l i = .error i ∧ r = -1 ∧ S' = S)) := by
  refine f_D_takeNumber ((s_D_here h).mono fun r S1 ⟨e1, e2⟩ => ?_)
  subst e1
  subst e2
  refine s_D_isDigit.mono fun r S2 ⟨e1, e2⟩ => ?_
  subst e1
  subst e2
  cases hd : dg (ch l i) with
  | none =>
    rw [dg_none hd]
    exact ⟨fun z => absurd rfl z, fun _ => Or.inr ⟨by rw [num, hd], rfl, rfl⟩⟩
  | some k =>
    obtain ⟨k1, k2, k3⟩ := dg_some hd
    rw [k1]
    refine ⟨fun _ => ?_, fun z => absurd z (by decide)⟩
    refine (s_D_here h).mono fun r S3 ⟨e1, e2⟩ => ?_
    subst e1
    subst e2
    intro S8 e8
    obtain ⟨r8, o8⟩ := h.step (ch_lt (by omega) k2) e8
    rw [k2, sb48]
    cases k with
    | zero =>
      refine ⟨fun _ => Or.inl ⟨0, i + 1, by rw [num, hd], rfl, r8, o8⟩, fun z => absurd (by decide) z⟩
    | succ k =>
      refine ⟨fun z => absurd z (nI_ge (a := 0) (by omega) (by omega)), fun _ => ?_⟩
      refine (s_D_here r8).mono fun r S4 ⟨e1, e2⟩ => ?_
      subst e1
      subst e2
      refine s_D_isDigit.mono fun r S5 ⟨e1, e2⟩ => ?_
      subst e1
      subst e2
      cases hd2 : dg (ch l (i + 1)) with
      | none =>
        rw [dg_none hd2]
        exact ⟨fun _ => Or.inl ⟨k + 1, i + 1, by simp only [num, hd, hd2], rfl, r8, o8⟩, fun z => absurd rfl z⟩
      | some w =>
        obtain ⟨w1, w2, w3⟩ := dg_some hd2
        rw [w1]
        refine ⟨fun z => absurd z (by decide), fun _ => ?_⟩
        refine (s_D_here r8).mono fun r S6 ⟨e1, e2⟩ => ?_
        subst e1
        subst e2
        intro S17 e17
        obtain ⟨r17, o17⟩ := r8.step (ch_lt (by omega) w2) e17
        rw [w2, pk_mul, nI_add, show 10 * (k + 1) + (48 + w) = 48 + (10 * (k + 1) + w) by omega, sb48]
        exact Or.inl ⟨10 * (k + 1) + w, i + 2, by simp only [num, hd, hd2], rfl, r17, o8.tr o17⟩
def d4 : Nat → Prop := fun j => j = 1 ∨ j = 2 ∨ j = 3 ∨ j = 4
theorem rd.set {S S' : SS} {l : List Int32} {i j : Nat} {v : Int32} (h : rd S l i) (hj : j ≠ 1) (e : S' = setI S 119 j v) : rd S' l i := by
  subst e
  exact h.keep (od_I (fs := fun q => q = j) (ps := d0) rfl) (fun z => hj z.symm) (by simp [d0])
theorem s_D_head {g : lp_G} {d : Nat} {S : SS} {l : List Int32} {i : Nat} (h : rd S l i) : MtI g um_D_takeHead (d + 2) [.ref (g.2.1 + 119)] S (fun r S' => od d4 d0 S S' ∧ ((∃ a o n p, hdr l i = .ok (a, o, n, p) ∧ r = 1 ∧ rd S' l p ∧ S'.1 119 2 = nI a ∧ S'.1 119 3 = nI o ∧ S'.1 119 4 = nI n) ∨ (∃ e, hdr l i = .error e ∧ r = 0 ∧ rd S' l e))) := by
  have d14 : ∀ j, d1 j → d4 j := fun j z => Or.inl z
  refine f_D_takeHead ((s_D_sign (by omega) h).mono fun r S1 w => ?_)
  rcases w with ⟨w1, _, w2, w3, w4⟩ | ⟨w1, _, w2, w4⟩
  rotate_left
  · subst w4; exact ⟨fun z => absurd w1 z, fun _ => ⟨od.re, Or.inr ⟨i, by simp only [hdr, w2], rfl, h⟩⟩⟩
  refine ⟨fun _ => ?_, fun z => absurd (w1.symm.trans z) (by decide)⟩
  obtain ⟨r1, o1⟩ := h.step w3 w4
  replace o1 := o1.mo (fs' := d4) (ps' := d0) d14 (fun _ z => z)
  clear w1 w4
  refine (s_D_num r1).mono fun r S2 w => ?_
  rcases w with ⟨a, p2, u1, u2, r2, o2⟩ | ⟨u1, u2, u3⟩
  rotate_left
  · intro S6 e6
    have o6 : od d4 d0 S2 S6 := by subst e6; exact od_I (by simp [d4])
    have r6 : rd S6 l (i + 1) := by subst u3; exact r1.set (by omega) e6
    refine ⟨fun _ => ⟨?_, Or.inr ⟨i + 1, by simp only [hdr, w2, u1], rfl, r6⟩⟩, fun z => absurd (by rw [e6, setI_s]; exact u2) z⟩
    subst u3; exact o1.tr o6
  intro S6 e6
  have o6 : od d4 d0 S S6 := (o1.tr (o2.mo d14 (fun _ z => z))).tr (by subst e6; exact od_I (by simp [d4]))
  have r6 : rd S6 l p2 := r2.set (by omega) e6
  have a6 : S6.1 119 2 = nI a := by rw [e6, setI_s]; exact u2
  have ba := num_ok u1
  refine ⟨fun z => absurd (a6.symm.trans z) (m1_ne (by omega)), fun _ => ?_⟩
  clear e6 u2 o1 o2 r1 r2
  refine (s_D_sign (by omega) r6).mono fun r S8 w => ?_
  rcases w with ⟨v1, _, v2, v3, v4⟩ | ⟨v1, _, v2, v4⟩
  rotate_left
  · subst v4; exact ⟨fun z => absurd v1 z, fun _ => ⟨o6, Or.inr ⟨p2, by simp only [hdr, w2, u1, v2], rfl, r6⟩⟩⟩
  refine ⟨fun _ => ?_, fun z => absurd (v1.symm.trans z) (by decide)⟩
  have a8 : S8.1 119 2 = nI a := by rw [v4, setI_o (by omega)]; exact a6
  obtain ⟨r8, o8⟩ := r6.step v3 v4
  replace o8 := o6.tr (o8.mo d14 (fun _ z => z))
  clear v1 v4 r6 o6 a6
  refine (s_D_num r8).mono fun r S11 w => ?_
  rcases w with ⟨o, p4, t1, t2, r11, o11⟩ | ⟨t1, t2, t3⟩
  rotate_left
  · intro S13 e13
    have o13 : od d4 d0 S11 S13 := by subst e13; exact od_I (by simp [d4])
    have r13 : rd S13 l (p2 + 1) := by subst t3; exact r8.set (by omega) e13
    refine ⟨fun _ => ⟨?_, Or.inr ⟨p2 + 1, by simp only [hdr, w2, u1, v2, t1], rfl, r13⟩⟩, fun z => absurd (by rw [e13, setI_s]; exact t2) z⟩
    subst t3; exact o8.tr o13
  intro S13 e13
  have o13 : od d4 d0 S S13 := (o8.tr (o11.mo d14 (fun _ z => z))).tr (by subst e13; exact od_I (by simp [d4]))
  have r13 : rd S13 l p4 := r11.set (by omega) e13
  have b13 : S13.1 119 3 = nI o := by rw [e13, setI_s]; exact t2
  have a13 : S13.1 119 2 = nI a := by rw [e13, setI_o (by omega), o11.1 119 2 (by simp [d1])]; exact a8
  have bo := num_ok t1
  refine ⟨fun z => absurd (b13.symm.trans z) (m1_ne (by omega)), fun _ => ?_⟩
  clear e13 t2 o8 o11 r8 r11 a8
  refine (s_D_sign (by omega) r13).mono fun r S15 w => ?_
  rcases w with ⟨s1, _, s2, s3, s4⟩ | ⟨s1, _, s2, s4⟩
  rotate_left
  · subst s4; exact ⟨fun z => absurd s1 z, fun _ => ⟨o13, Or.inr ⟨p4, by simp only [hdr, w2, u1, v2, t1, s2], rfl, r13⟩⟩⟩
  refine ⟨fun _ => ?_, fun z => absurd (s1.symm.trans z) (by decide)⟩
  have a15 : S15.1 119 2 = nI a := by rw [s4, setI_o (by omega)]; exact a13
  have b15 : S15.1 119 3 = nI o := by rw [s4, setI_o (by omega)]; exact b13
  obtain ⟨r15, o15⟩ := r13.step s3 s4
  replace o15 := o13.tr (o15.mo d14 (fun _ z => z))
  clear s1 s4 r13 o13 a13 b13
  refine (s_D_num r15).mono fun r S18 w => ?_
  rcases w with ⟨y, p6, q1, q2, r18, o18⟩ | ⟨q1, q2, q3⟩
  rotate_left
  · subst q3
    exact ⟨fun _ => ⟨o15, Or.inr ⟨p4 + 1, by simp only [hdr, w2, u1, v2, t1, s2, q1], rfl, r15⟩⟩, fun z => absurd q2 z⟩
  have byy := num_ok q1
  refine ⟨fun z => absurd (q2.symm.trans z) (m1_ne (by omega)), fun _ => ?_⟩
  have a18 : S18.1 119 2 = nI a := by rw [o18.1 119 2 (by simp [d1])]; exact a15
  have b18 : S18.1 119 3 = nI o := by rw [o18.1 119 3 (by simp [d1])]; exact b15
  replace o18 := o15.tr (o18.mo d14 (fun _ z => z))
  clear q2 r15 o15 a15 b15
  refine (s_D_sign (by omega) r18).mono fun r S21 w => ?_
  rcases w with ⟨x1, _, x2, x3, x4⟩ | ⟨x1, _, x2, x4⟩
  rotate_left
  · subst x4; exact ⟨fun z => absurd x1 z, fun _ => ⟨o18, Or.inr ⟨p6, by simp only [hdr, w2, u1, v2, t1, s2, q1, x2], rfl, r18⟩⟩⟩
  refine ⟨fun _ => ?_, fun z => absurd (x1.symm.trans z) (by decide)⟩
  have a21 : S21.1 119 2 = nI a := by rw [x4, setI_o (by omega)]; exact a18
  have b21 : S21.1 119 3 = nI o := by rw [x4, setI_o (by omega)]; exact b18
  obtain ⟨r21, o21⟩ := r18.step x3 x4
  replace o21 := o18.tr (o21.mo d14 (fun _ z => z))
  clear x1 x4 r18 o18 a18 b18
  refine (s_D_num r21).mono fun r S24 w => ?_
  rcases w with ⟨n, p8, k1, k2, r24, o24⟩ | ⟨k1, k2, k3⟩
  rotate_left
  · intro S26 e26
    have o26 : od d4 d0 S24 S26 := by subst e26; exact od_I (by simp [d4])
    have r26 : rd S26 l (p6 + 1) := by subst k3; exact r21.set (by omega) e26
    refine ⟨fun z => absurd (by rw [e26, setI_s]; exact k2) z, fun _ => ⟨?_, Or.inr ⟨p6 + 1, by simp only [hdr, w2, u1, v2, t1, s2, q1, x2, k1], rfl, r26⟩⟩⟩
    subst k3; exact o21.tr o26
  intro S26 e26
  have o26 : od d4 d0 S S26 := (o21.tr (o24.mo d14 (fun _ z => z))).tr (by subst e26; exact od_I (by simp [d4]))
  have r26 : rd S26 l p8 := r24.set (by omega) e26
  have c26 : S26.1 119 4 = nI n := by rw [e26, setI_s]; exact k2
  have a26 : S26.1 119 2 = nI a := by rw [e26, setI_o (by omega), o24.1 119 2 (by simp [d1])]; exact a21
  have b26 : S26.1 119 3 = nI o := by rw [e26, setI_o (by omega), o24.1 119 3 (by simp [d1])]; exact b21
  have bn := num_ok k1
  refine ⟨fun _ => ?_, fun z => absurd (c26.symm.trans z) (m1_ne (by omega))⟩
  rw [b26, c26, nI_add]
  refine ⟨fun z => ?_, fun z => ?_⟩
  · have z' := (nI_leI (a := o + n) (b := 0) (by omega) (by omega)).mp z
    exact ⟨o26, Or.inr ⟨p8, by simp only [hdr, w2, u1, v2, t1, s2, q1, x2, k1, if_pos (show o + n = 0 by omega)], rfl, r26⟩⟩
  · have z' := mt (nI_leI (a := o + n) (b := 0) (by omega) (by omega)).mpr z
    refine (s_D_sign (by omega) r26).mono fun r S29 w => ?_
    rcases w with ⟨j1, _, j2, j3, j4⟩ | ⟨j1, _, j2, j4⟩
    rotate_left
    · subst j4; exact ⟨fun _ => ⟨o26, Or.inr ⟨p8, by simp only [hdr, w2, u1, v2, t1, s2, q1, x2, k1, if_neg (show ¬ o + n = 0 by omega), j2], rfl, r26⟩⟩, fun z => absurd j1 z⟩
    refine ⟨fun z => absurd (j1.symm.trans z) (by decide), fun _ => ?_⟩
    obtain ⟨r29, o29⟩ := r26.step j3 j4
    refine ⟨o26.tr (o29.mo d14 (fun _ z => z)), Or.inl ⟨a, o, n, p8 + 1, by simp only [hdr, w2, u1, v2, t1, s2, q1, x2, k1, if_neg (show ¬ o + n = 0 by omega), j2], rfl, r29, ?_, ?_, ?_⟩⟩
    · rw [o29.1 119 2 (by simp [d1])]; exact a26
    · rw [o29.1 119 3 (by simp [d1])]; exact b26
    · rw [o29.1 119 4 (by simp [d1])]; exact c26
