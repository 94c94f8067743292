/-! the reference reads a patch -/
def stM (S : SS) (l : List Int32) (e : Except Nat Nat) : Prop := match e with
  | .ok p => paM S l ∧ S.1 151 33 = nI p ∧ S.1 151 34 = 0 ∧ p ≤ l.length
  | .error p => paM S l ∧ S.1 151 33 = nI p ∧ S.1 151 34 = 1 ∧ p ≤ l.length
def wf : Nat → Prop := fun j => j = 33 ∨ j = 34
theorem paM.wk {S S' : SS} {l : List Int32} (h : paM S l) (ho : om wf d0 S S') : paM S' l := h.keep ho (by simp [wf]) (by simp [d0])
theorem s_M_look {g : lp_G} {d : Nat} {S : SS} {l : List Int32} {i : Nat} (h : stM S l (.ok i)) : MtI g um_M_look d [.ref (g.2.1 + 151)] S (fun r S' => S' = S ∧ r = ch l i) := by
  obtain ⟨h1, h2, h3, h4⟩ := h
  have hl := h1.1
  refine f_M_look ?_
  rw [h1.2.1, h2, nI_leI (by omega) (by omega)]
  refine ⟨fun z => ⟨rfl, by rw [ch_out (by omega)]⟩, fun z => ⟨vp_in_nI (by omega) (by omega), rfl, ?_⟩⟩
  rw [nI_clamp (by omega), h1.2.2 i (by omega), ch_in (by omega)]
theorem stM.fwd {S S' : SS} {l : List Int32} {i : Nat} (h : stM S l (.ok i)) (hi : i < l.length) (e : S' = setI S 151 33 (S.1 151 33 + 1)) : stM S' l (.ok (i + 1)) ∧ om wf d0 S S' := by
  subst e
  obtain ⟨h1, h2, h3, h4⟩ := h
  have o : om wf d0 S (setI S 151 33 (S.1 151 33 + 1)) := om_I (Or.inl rfl)
  exact ⟨⟨h1.wk o, by rw [setI_s, h2, nI_1], by rw [setI_o (by omega)]; exact h3, hi⟩, o⟩
def wn (l : List Int32) (c : Nat) (e : Except Nat Nat) : Except Nat Nat := match e with
  | .ok p => sgn l c p
  | .error q => .error q
theorem s_M_want {g : lp_G} {d : Nat} {S : SS} {l : List Int32} {e : Except Nat Nat} {c : Nat} (hc : c < 2 ^ 31) (h : stM S l e) : MtV g um_M_want (d + 1) [.ref (g.2.1 + 151), .int (nI c)] S (fun S' => stM S' l (wn l c e) ∧ om wf d0 S S') := by
  cases e with
  | error p =>
    obtain ⟨h1, h2, h3, h4⟩ := h
    refine f_M_want ⟨fun _ => ?_, fun z => absurd (h3.symm.trans z) (by decide)⟩
    rintro S2 rfl
    refine ⟨fun z => absurd (by rw [setI_s] at z; exact z) (by decide), fun _ => ?_⟩
    rintro S5 rfl
    have o : om wf d0 S (setI (setI S 151 34 1) 151 33 ((setI S 151 34 1).1 151 33)) := (om_I (Or.inr rfl)).tr (om_I (Or.inl rfl))
    exact ⟨⟨h1.wk o, by rw [setI_s, setI_o (by omega)]; exact h2, by rw [setI_o (by omega), setI_s], h4⟩, o⟩
  | ok p =>
    have h0 := h
    obtain ⟨h1, h2, h3, h4⟩ := h
    refine f_M_want ⟨fun z => absurd h3 z, fun _ => (s_M_look h0).mono fun r S1 ⟨e1, e2⟩ => ?_⟩
    subst e1
    subst e2
    refine ⟨fun z => ?_, fun z => ?_⟩
    · rintro S9 rfl
      refine ⟨fun _ => ?_, fun z => absurd (by rw [setI_s]) z⟩
      rintro S11 rfl
      have o : om wf d0 S1 (setI (setI S1 151 34 0) 151 33 ((setI S1 151 34 0).1 151 33 + 1)) := (om_I (Or.inr rfl)).tr (om_I (Or.inl rfl))
      refine ⟨?_, o⟩
      rw [show wn l c (.ok p) = .ok (p + 1) by simp only [wn, sgn, if_pos z]]
      exact ⟨h1.wk o, by rw [setI_s, setI_o (by omega), h2, nI_1], by rw [setI_o (by omega), setI_s], ch_lt hc z⟩
    · rintro S13 rfl
      refine ⟨fun z => absurd (by rw [setI_s] at z; exact z) (by decide), fun _ => ?_⟩
      rintro S16 rfl
      have o : om wf d0 S1 (setI (setI S1 151 34 1) 151 33 ((setI S1 151 34 1).1 151 33)) := (om_I (Or.inr rfl)).tr (om_I (Or.inl rfl))
      refine ⟨?_, o⟩
      rw [show wn l c (.ok p) = .error p by simp only [wn, sgn, if_neg z]]
      exact ⟨h1.wk o, by rw [setI_s, setI_o (by omega)]; exact h2, by rw [setI_o (by omega), setI_s], h4⟩
def nv (l : List Int32) (e : Except Nat Nat) : Nat := match e with
  | .ok p => match num l p with
    | .ok (v, _) => v
    | .error _ => 0
  | .error _ => 0
def nn (l : List Int32) (e : Except Nat Nat) : Except Nat Nat := match e with
  | .ok p => match num l p with
    | .ok (_, q) => .ok q
    | .error q => .error q
  | .error q => .error q
theorem isD_w {x : Int32} : decide (¬ x < nI 48 ∧ ¬ nI 57 < x) = isD x := rfl
theorem s_M_num {g : lp_G} {d : Nat} {S : SS} {l : List Int32} {e : Except Nat Nat} (h : stM S l e) : MtI g um_M_number (d + 1) [.ref (g.2.1 + 151)] S (fun r S' => r = nI (nv l e) ∧ stM S' l (nn l e) ∧ om wf d0 S S') := by
  cases e with
  | error p =>
    obtain ⟨h1, h2, h3, h4⟩ := h
    refine f_M_number ⟨fun _ => ?_, fun z => absurd (h3.symm.trans z) (by decide)⟩
    rintro S2 rfl
    have o : om wf d0 S (setI S 151 34 1) := om_I (Or.inr rfl)
    exact ⟨rfl, ⟨h1.wk o, by rw [setI_o (by omega)]; exact h2, setI_s, h4⟩, o⟩
  | ok i =>
    have h0 := h
    obtain ⟨h1, h2, h3, h4⟩ := h
    refine f_M_number ⟨fun z => absurd h3 z, fun _ => (s_M_look h0).mono fun r S1 ⟨e1, e2⟩ => ?_⟩
    subst e1
    subst e2
    refine s_M_within.mono fun r S2 ⟨e1, e2⟩ => ?_
    subst e1
    subst e2
    rw [isD_w]
    cases hd : dg (ch l i) with
    | none =>
      rw [dg_none hd]
      refine ⟨fun z => absurd rfl z, fun _ => ?_⟩
      rintro S20 rfl
      have o : om wf d0 S2 (setI S2 151 34 1) := om_I (Or.inr rfl)
      rw [show nv l (.ok i) = 0 by simp only [nv, num, hd], show nn l (.ok i) = .error i by simp only [nn, num, hd]]
      exact ⟨rfl, ⟨h1.wk o, by rw [setI_o (by omega)]; exact h2, setI_s, h4⟩, o⟩
    | some k =>
      obtain ⟨k1, k2, k3⟩ := dg_some hd
      rw [k1]
      refine ⟨fun _ => ?_, fun z => absurd z (by decide)⟩
      refine (s_M_look h0).mono fun r S3 ⟨e1, e2⟩ => ?_
      subst e1
      subst e2
      intro S8 e8
      obtain ⟨r8, o8⟩ := h0.fwd (ch_lt (by omega) k2) e8
      rw [k2, sb48]
      cases k with
      | zero =>
        refine ⟨fun _ => ⟨by simp only [nv, num, hd], ?_, o8⟩, fun z => absurd (by decide) z⟩
        rw [show nn l (.ok i) = .ok (i + 1) by simp only [nn, num, hd]]
        exact r8
      | succ k =>
        refine ⟨fun z => absurd z (nI_ge (a := 0) (by omega) (by omega)), fun _ => ?_⟩
        refine (s_M_look r8).mono fun r S4 ⟨e1, e2⟩ => ?_
        subst e1
        subst e2
        refine s_M_within.mono fun r S5 ⟨e1, e2⟩ => ?_
        subst e1
        subst e2
        rw [isD_w]
        cases hd2 : dg (ch l (i + 1)) with
        | none =>
          rw [dg_none hd2]
          refine ⟨fun _ => ⟨by simp only [nv, num, hd, hd2], ?_, o8⟩, fun z => absurd rfl z⟩
          rw [show nn l (.ok i) = .ok (i + 1) by simp only [nn, num, hd, hd2]]
          exact r8
        | some w =>
          obtain ⟨w1, w2, w3⟩ := dg_some hd2
          rw [w1]
          refine ⟨fun z => absurd z (by decide), fun _ => ?_⟩
          refine (s_M_look r8).mono fun r S6 ⟨e1, e2⟩ => ?_
          subst e1
          subst e2
          intro S17 e17
          obtain ⟨r17, o17⟩ := r8.fwd (ch_lt (by omega) w2) e17
          rw [w2, pk_mul, nI_add, show 10 * (k + 1) + (48 + w) = 48 + (10 * (k + 1) + w) by omega, sb48]
          refine ⟨by simp only [nv, num, hd, hd2], ?_, o8.tr o17⟩
          rw [show nn l (.ok i) = .ok (i + 2) by simp only [nn, num, hd, hd2]]
          exact r17
/-- both counts 0: failed -/
def fz (o n : Nat) (e : Except Nat Nat) : Except Nat Nat := match e with
  | .ok p => if o + n = 0 then .error p else .ok p
  | .error q => .error q
def hc1 (l : List Int32) (i : Nat) : Except Nat Nat := sgn l 64 i
def hc3 (l : List Int32) (i : Nat) : Except Nat Nat := wn l 44 (nn l (hc1 l i))
def hc5 (l : List Int32) (i : Nat) : Except Nat Nat := wn l 32 (nn l (hc3 l i))
def hc7 (l : List Int32) (i : Nat) : Except Nat Nat := wn l 44 (nn l (hc5 l i))
def hc8 (l : List Int32) (i : Nat) : Except Nat Nat := nn l (hc7 l i)
def hc9 (l : List Int32) (i : Nat) : Except Nat Nat := wn l 10 (fz (nv l (hc3 l i)) (nv l (hc7 l i)) (hc8 l i))
theorem hd_chain (l : List Int32) (i : Nat) : hdr l i = match hc9 l i with
    | .ok p => .ok (nv l (hc1 l i), nv l (hc3 l i), nv l (hc7 l i), p)
    | .error e => .error e := by
  unfold hc9 hc8 hc7 hc5 hc3 hc1 hdr
  cases h1 : sgn l 64 i with
  | error e => simp only [nn, wn, fz]
  | ok p1 =>
    cases h2 : num l p1 with
    | error e => simp only [nn, wn, fz, h2]
    | ok x2 =>
      obtain ⟨a, p2⟩ := x2
      cases h3 : sgn l 44 p2 with
      | error e => simp only [nn, wn, fz, h2, h3]
      | ok p3 =>
        cases h4 : num l p3 with
        | error e => simp only [nn, wn, fz, h2, h3, h4]
        | ok x4 =>
          obtain ⟨o, p4⟩ := x4
          cases h5 : sgn l 32 p4 with
          | error e => simp only [nn, wn, fz, h2, h3, h4, h5]
          | ok p5 =>
            cases h6 : num l p5 with
            | error e => simp only [nn, wn, fz, h2, h3, h4, h5, h6]
            | ok x6 =>
              obtain ⟨y, p6⟩ := x6
              cases h7 : sgn l 44 p6 with
              | error e => simp only [nn, wn, fz, h2, h3, h4, h5, h6, h7]
              | ok p7 =>
                cases h8 : num l p7 with
                | error e => simp only [nn, wn, fz, h2, h3, h4, h5, h6, h7, h8]
                | ok x8 =>
                  obtain ⟨n, p8⟩ := x8
                  by_cases h9 : o + n = 0
                  · simp only [nn, nv, wn, fz, h2, h3, h4, h5, h6, h7, h8, h9, if_true]
                  · simp only [nn, nv, wn, fz, h2, h3, h4, h5, h6, h7, h8, h9, if_false]
                    cases h10 : sgn l 10 p8 <;> rfl
/-- only the arrays of hunks change, and those at h alone -/
def ah (h : Nat) (fs ps : Nat → Prop) (S S' : SS) : Prop := om fs ps S S' ∧ ∀ q j, j ≠ h → S'.2 q j = S.2 q j
theorem ah.tr {h : Nat} {fs ps : Nat → Prop} {S S1 S2 : SS} (h1 : ah h fs ps S S1) (h2 : ah h fs ps S1 S2) : ah h fs ps S S2 := ⟨h1.1.tr h2.1, fun q j z => (h2.2 q j z).trans (h1.2 q j z)⟩
theorem ah.mo {h : Nat} {fs ps fs' ps' : Nat → Prop} {S S' : SS} (hh : ah h fs ps S S') (h1 : ∀ j, fs j → fs' j) (h2 : ∀ q, ps q → ps' q) : ah h fs' ps' S S' := ⟨hh.1.mo h1 h2, hh.2⟩
theorem om_ah {h : Nat} {fs : Nat → Prop} {S S' : SS} (ho : om fs d0 S S') : ah h fs d0 S S' := ⟨ho, fun q j _ => by rw [ho.2 q (by simp [d0])]⟩
theorem ah_A {h k : Nat} {fs ps : Nat → Prop} {S : SS} {v : Int32} (hp : ps k) : ah h fs ps S (setA S k h v) := ⟨om_A hp, fun q j z => setA_o (Or.inr z)⟩
theorem ah_I {h j : Nat} {fs ps : Nat → Prop} {S : SS} {v : Int32} (hf : fs j) : ah h fs ps S (setI S 151 j v) := ⟨om_I hf, fun q j _ => rfl⟩
def ha2 : Nat → Prop := fun q => 170 ≤ q ∧ q ≤ 174
theorem stM.keep {S S' : SS} {l : List Int32} {e : Except Nat Nat} {fs ps : Nat → Prop} (h : stM S l e) (ho : om fs ps S S') (h1 : ¬ fs 33) (h2 : ¬ fs 34) (h3 : ¬ fs 24) (h4 : ¬ ps 169) : stM S' l e := by
  cases e with
  | ok p => exact ⟨h.1.keep ho h3 h4, by rw [ho.1 151 33 (fun z => h1 z.2)]; exact h.2.1, by rw [ho.1 151 34 (fun z => h2 z.2)]; exact h.2.2.1, h.2.2.2⟩
  | error p => exact ⟨h.1.keep ho h3 h4, by rw [ho.1 151 33 (fun z => h1 z.2)]; exact h.2.1, by rw [ho.1 151 34 (fun z => h2 z.2)]; exact h.2.2.1, h.2.2.2⟩
theorem stM.arr {S : SS} {l : List Int32} {e : Except Nat Nat} {k j : Nat} {v : Int32} (h : stM S l e) (hk : k ≠ 169) : stM (setA S k j v) l e := h.keep (om_A (fs := d0) (ps := fun q => q = k) rfl) (by simp [d0]) (by simp [d0]) (by simp [d0]) (fun z => hk z.symm)
theorem nv_le {l : List Int32} {e : Except Nat Nat} : nv l e ≤ 99 := by
  unfold nv
  split
  · split
    · rename_i h; exact (num_ok h).1
    · omega
  · omega
theorem s_M_head {g : lp_G} {d : Nat} {Q : SS → Prop} {S : SS} {l : List Int32} {i h : Nat} (hs : stM S l (.ok i)) (h26 : S.1 151 26 = nI h) (hh : h < 80) (hK : ∀ S', ah h wf ha2 S S' → stM S' l (hc9 l i) → S'.2 170 h = nI (nv l (hc1 l i)) → S'.2 171 h = nI (nv l (hc3 l i)) → S'.2 172 h = nI (nv l (hc7 l i)) → (∀ p, hc9 l i = .ok p → S'.2 174 h = nI p) → AtV g um_M_readHunk (d + 2) Q 117 [(0, .ref (g.2.1 + 151)), (1, .int (nI (nv l (hc3 l i)))), (2, .int (nI (nv l (hc7 l i)))), (3, .int 0)] [] S') : MtV g um_M_readHunk (d + 2) [.ref (g.2.1 + 151)] S Q := by
  have vh : vp_in (nI h) 80 := vp_in_nI hh (by omega)
  have k26 : ∀ {S1 S2 : SS}, om wf d0 S1 S2 → S1.1 151 26 = nI h → S2.1 151 26 = nI h := fun o e => by rw [o.1 151 26 (by simp [wf])]; exact e
  have up : ∀ {S1 S2 : SS}, om wf d0 S1 S2 → ah h wf ha2 S1 S2 := fun o => (om_ah o).mo (fun _ z => z) (fun _ z => z.elim)
  refine f_M_readHunk ((s_M_want (by omega) hs).mono fun S1 ⟨a1, o1⟩ => ?_)
  rw [k26 o1 h26]
  refine (s_M_num a1).mono fun r S3 ⟨e3, a3, o3⟩ => ⟨vh, ?_⟩
  subst e3
  rw [nI_clamp (by omega)]
  rintro S6 rfl
  have a6 := a3.arr (k := 170) (j := h) (v := nI (nv l (hc1 l i))) (by omega)
  have c3 : S3.1 151 26 = nI h := k26 o3 (k26 o1 h26)
  have c6 : (setA S3 170 h (nI (nv l (hc1 l i)))).1 151 26 = nI h := c3
  have o6 : ah h wf ha2 S (setA S3 170 h (nI (nv l (hc1 l i)))) := ((up o1).tr (up o3)).tr (ah_A (by simp [ha2]))
  have b6 : (setA S3 170 h (nI (nv l (hc1 l i)))).2 170 h = nI (nv l (hc1 l i)) := setA_s
  show MtV g um_M_want (d + 1) _ (setA S3 170 h (nI (nv l (hc1 l i)))) _
  generalize setA S3 170 h (nI (nv l (hc1 l i))) = S6 at *
  refine (s_M_want (by omega) a6).mono fun S7 ⟨a7, o7⟩ => ?_
  refine (s_M_num a7).mono fun r10 S9 ⟨e9, a9, o9⟩ => ?_
  refine (s_M_want (by omega) a9).mono fun S11 ⟨a11, o11⟩ => ?_
  refine (s_M_num a11).mono fun r14 S13 ⟨e13, a13, o13⟩ => ?_
  refine (s_M_want (by omega) a13).mono fun S15 ⟨a15, o15⟩ => ?_
  refine (s_M_num a15).mono fun r18 S17 ⟨e17, a17, o17⟩ => ?_
  have ow : om wf d0 S6 S17 := ((((o7.tr o9).tr o11).tr o13).tr o15).tr o17
  have c17 := k26 ow c6
  have o17' : ah h wf ha2 S S17 := o6.tr (up ow)
  have b17 : S17.2 170 h = nI (nv l (hc1 l i)) := by rw [ow.2 170 (by simp [d0])]; exact b6
  have t17 : stM S17 l (hc8 l i) := a17
  replace e9 : r10 = nI (nv l (hc3 l i)) := e9
  replace e17 : r18 = nI (nv l (hc7 l i)) := e17
  clear a1 a3 a6 a7 a9 a11 a13 a15 a17 o1 o3 o6 o7 o9 o11 o13 o15 o17 ow b6 c6 e13
  subst e9
  subst e17
  have lo : nv l (hc3 l i) ≤ 99 := nv_le
  have ln : nv l (hc7 l i) ≤ 99 := nv_le
  have fin : ∀ b : Bool, stM (setI S17 151 34 (b2i b)) l (fz (nv l (hc3 l i)) (nv l (hc7 l i)) (hc8 l i)) → AtV g um_M_readHunk (d + 2) Q 73 [(0, .ref (g.2.1 + 151)), (1, .int (nI (nv l (hc3 l i)))), (2, .int (nI (nv l (hc7 l i))))] [.int (b2i b), .ref (g.2.1 + 151)] S17 := by
    intro b hb
    refine f_M_readHunk_73 ⟨isB_b, ?_⟩
    rintro S22 rfl
    refine (s_M_want (by omega) hb).mono fun S24 ⟨a24, o24⟩ => ?_
    have c24 : S24.1 151 26 = nI h := k26 o24 (by rw [setI_o (by omega)]; exact c17)
    rw [c24, nI_clamp (by omega)]
    refine ⟨vh, ?_⟩
    rintro S27 rfl
    rw [setA_1, c24, nI_clamp (by omega)]
    refine ⟨vh, ?_⟩
    rintro S29 rfl
    rw [setA_1, setA_1, c24, nI_clamp (by omega)]
    refine ⟨vh, ?_⟩
    rintro S31 rfl
    have og : ah h wf ha2 S24 (setA (setA (setA S24 171 h (nI (nv l (hc3 l i)))) 172 h (nI (nv l (hc7 l i)))) 174 h (S24.1 151 33)) := ((ah_A (by simp [ha2])).tr (ah_A (by simp [ha2]))).tr (ah_A (by simp [ha2]))
    have o24' : ah h wf ha2 S17 S24 := (ah_I (Or.inr rfl)).tr (up o24)
    refine hK _ ((o17'.tr o24').tr og) (((a24.arr (by omega)).arr (by omega)).arr (by omega)) ?_ ?_ ?_ fun p hp => ?_
    · rw [setA_o (by omega), setA_o (by omega), setA_o (by omega), o24.2 170 (by simp [d0])]
      exact b17
    · rw [setA_o (by omega), setA_o (by omega), setA_s]
    · rw [setA_o (by omega), setA_s]
    · rw [setA_s]
      have : stM S24 l (hc9 l i) := a24
      rw [hp] at this
      exact this.2.1
  cases e8 : hc8 l i with
  | error p =>
    rw [e8] at t17
    refine ⟨fun _ => fin true ?_, fun z => absurd (t17.2.2.1.symm.trans z) (by decide)⟩
    rw [e8]
    have o : om wf d0 S17 (setI S17 151 34 1) := om_I (Or.inr rfl)
    exact ⟨t17.1.wk o, by rw [setI_o (by omega)]; exact t17.2.1, setI_s, t17.2.2.2⟩
  | ok p =>
    rw [e8] at t17
    have okf : ¬ nv l (hc3 l i) + nv l (hc7 l i) = 0 → stM (setI S17 151 34 (b2i false)) l (fz (nv l (hc3 l i)) (nv l (hc7 l i)) (hc8 l i)) := fun hz => by
      rw [e8, show fz (nv l (hc3 l i)) (nv l (hc7 l i)) (.ok p) = .ok p by simp only [fz, if_neg hz]]
      have o : om wf d0 S17 (setI S17 151 34 0) := om_I (Or.inr rfl)
      exact ⟨t17.1.wk o, by rw [setI_o (by omega)]; exact t17.2.1, setI_s, t17.2.2.2⟩
    refine ⟨fun z => absurd t17.2.2.1 z, fun _ => ⟨fun z => fin false (okf ?_), fun z => ⟨fun y => fin false (okf ?_), fun y => fin true ?_⟩⟩⟩
    · intro w; exact z (by rw [show nv l (hc3 l i) = 0 by omega]; rfl)
    · intro w; exact y (by rw [show nv l (hc7 l i) = 0 by omega]; rfl)
    · have z' := (nI_eq (a := nv l (hc3 l i)) (b := 0) (by omega) (by omega)).mp z
      have y' := (nI_eq (a := nv l (hc7 l i)) (b := 0) (by omega) (by omega)).mp y
      rw [e8, show fz (nv l (hc3 l i)) (nv l (hc7 l i)) (.ok p) = .error p by simp only [fz, if_pos (show nv l (hc3 l i) + nv l (hc7 l i) = 0 by omega)]]
      have o : om wf d0 S17 (setI S17 151 34 1) := om_I (Or.inr rfl)
      exact ⟨t17.1.wk o, by rw [setI_o (by omega)]; exact t17.2.1, setI_s, t17.2.2.2⟩
