/-! merge: the reference's loop, and the simulation -/
theorem z0 : (0 : Int32).toNatClampNeg = 0 := rfl
theorem z1 : (1 : Int32).toNatClampNeg = 1 := rfl
theorem em_neg {o : Option Nat} (h : ∀ j, o = some j → j < 2 ^ 31) : (em o < 0 ↔ o = none) := by
  cases o with
  | none => exact ⟨fun _ => rfl, fun _ => by decide⟩
  | some j => exact ⟨fun z => absurd z (nI_pos (h j rfl)), fun z => by cases z⟩
theorem s_M_keep_loop {g : lp_G} {d : Nat} {Q : SS → Prop} {t : Nat} {l : List Int32} (ht : t < 4) : ∀ (n i : Nat) (S : SS), l.length - i = n → i ≤ l.length → ouM S l → (∀ j, j < i → S.2 152 (24 * t + j) = l.getD j 0) → (∀ S', (∀ j, j < l.length → S'.2 152 (24 * t + j) = l.getD j 0) → om (fun _ => False) (fun q => q = 152) S S' → (∀ i, i < 24 * t ∨ 24 * t + 24 ≤ i → S'.2 152 i = S.2 152 i) → Q S') → AtV g um_M_keep d Q 12 [(0, .ref (g.2.1 + 151)), (1, .int (nI t)), (2, .int (nI i))] [] S := by
  intro n
  induction n with
  | zero =>
    intro i S hn hi h hd hQ
    have hl := h.1
    have ei : i = l.length := by omega
    subst ei
    exact f_M_keep_12 ⟨fun _ => hQ S hd om.re fun _ _ => rfl, fun z => absurd (by rw [h.2.1]; exact nI_le (Nat.le_refl _) (by omega)) z⟩
  | succ n ih =>
    intro i S hn hi h hd hQ
    have hl := h.1
    refine f_M_keep_12 ⟨fun z => absurd (by rw [h.2.1] at z; exact z) (nI_ge (by omega) (by omega)), fun _ => ?_⟩
    simp (disch := omega) only [pk_mul, nI_add, nI_1, nI_clamp]
    refine ⟨vp_in_nI (by omega) (by omega), vp_in_nI (by omega) (by omega), ?_⟩
    rw [h.2.2 i (by omega)]
    rintro S6 rfl
    have o : om (fun _ => False) (fun q => q = 152) S (setA S 152 (24 * t + i) (l.getD i 0)) := om_A rfl
    refine ih (i + 1) _ (by omega) (by omega) ⟨h.1, h.2.1, fun j hj => by rw [setA_o (by omega)]; exact h.2.2 j hj⟩ (fun j hj => ?_) fun S' c1 c2 c3 => hQ S' c1 (o.tr c2) fun i' hi' => by rw [c3 i' hi', setA_o (by omega)]
    by_cases e : j = i
    · subst e; exact setA_s
    · rw [setA_o (by omega)]; exact hd j (by omega)
theorem s_M_keep {g : lp_G} {d : Nat} {S : SS} {t : Nat} {l : List Int32} (ht : t < 4) (h : ouM S l) : MtV g um_M_keep d [.ref (g.2.1 + 151), .int (nI t)] S (fun S' => tm S' t l ∧ om (fun _ => False) (fun q => q = 152 ∨ q = 153) S S' ∧ (∀ i, i < 24 * t ∨ 24 * t + 24 ≤ i → S'.2 152 i = S.2 152 i) ∧ (∀ j, j ≠ t → S'.2 153 j = S.2 153 j)) := by
  refine f_M_keep ⟨vp_in_nI ht (by omega), ?_⟩
  rw [nI_clamp (by omega), h.2.1]
  rintro S2 rfl
  refine s_M_keep_loop (l := l) ht _ 0 _ rfl (Nat.zero_le _) ⟨h.1, h.2.1, fun j hj => by rw [setA_o (by omega)]; exact h.2.2 j hj⟩ (fun j hj => by omega) fun S' c1 c2 c3 => ⟨⟨h.1, ?_, c1⟩, ?_, fun i hi => ?_, fun j hj => ?_⟩
  · rw [c2.2 153 (by omega), setA_s]
  · exact (om_A (Or.inr rfl)).tr (c2.mo (fun _ z => z) (fun q z => Or.inl z))
  · rw [c3 i hi, setA_o (by omega)]
  · rw [c2.2 153 (by omega), setA_o (by omega)]
theorem s_M_merge_loop {g : lp_G} {d : Nat} {Q : Int32 → SS → Prop} {o p q : List Int32} {f1 f2 : Nat → Option Nat} (m1 : mono f1 o.length p.length) (m2 : mono f2 o.length q.length) : ∀ (n k i0 p0 q0 c : Nat) (S : SS) (acc : List Int32), o.length - k = n → k ≤ o.length → i0 ≤ k → p0 ≤ p.length → q0 ≤ q.length → fok f1 k p0 p.length → fok f2 k q0 q.length → tm S 0 o → tm S 1 p → tm S 2 q → (∀ i, i < o.length → S.2 156 i = em (f1 i)) → (∀ i, i < o.length → S.2 177 i = em (f2 i)) → ouM S acc → (24 < (acc ++ (mg o p q f1 f2 n k i0 p0 q0).1).length → ∀ S', om oe1 oe2 S S' → Q (-2) S') → ((acc ++ (mg o p q f1 f2 n k i0 p0 q0).1).length ≤ 24 → ∀ S', ouM S' (acc ++ (mg o p q f1 f2 n k i0 p0 q0).1) → om oe1 oe2 S S' → MtV g um_M_keep (d + 4) [.ref (g.2.1 + 151), .int (nI 3)] S' (fun S24 => Q (nI (c + (mg o p q f1 f2 n k i0 p0 q0).2)) S24)) → AtI g um_M_merge (d + 5) Q 94 [(0, .ref (g.2.1 + 151)), (1, .int (nI c)), (2, .int (nI i0)), (3, .int (nI p0)), (4, .int (nI q0)), (5, .int (nI k))] [] S := by
  intro n
  induction n with
  | zero =>
    intro k i0 p0 q0 c S acc hn hk hi hp hq g1 g2 h0 h1 h2 w1 w2 ho hF hT
    have l0 := h0.1
    have ek : k = o.length := by omega
    subst ek
    refine f_M_merge_94 ?_
    rw [z0, z1, nI_clamp (n := o.length) (by omega), nI_clamp (n := 2) (by omega), h0.2.1, h1.2.1, h2.2.1]
    refine ⟨fun z => absurd z (nI_nlt (by omega) (by omega)), fun _ => ⟨fun z => absurd rfl z, fun _ => ?_⟩⟩
    refine (s_M_mergeParts h0 h1 h2 ho hi (Nat.le_refl _) hp (Nat.le_refl _) hq (Nat.le_refl _)).mono fun r S1 ⟨o1, w⟩ => ?_
    rcases w with ⟨v1, v2, v3⟩ | ⟨v1, v2⟩
    · subst v2
      refine ⟨fun z => absurd z (nI_pos (by have := (mpt_len (o := sl o i0 o.length) (Nat.le_trans sl_le h1.1 : (sl p p0 p.length).length ≤ 24) (Nat.le_trans sl_le h2.1 : (sl q q0 q.length).length ≤ 24)).2; omega)), fun _ => ?_⟩
      rw [nI_1, nI_add]
      have h0' := h0.keep o1 (by simp [oe2]) (by simp [oe2])
      refine f_M_merge_94 ?_
      rw [z0, h0'.2.1]
      refine ⟨fun _ => hT v1 S1 v3 o1, fun z => absurd (nI_lt (by omega) (by omega)) z⟩
    · subst v2
      exact ⟨fun _ => hF v1 S1 o1, fun z => absurd (by decide) z⟩
  | succ n ih =>
    intro k i0 p0 q0 c S acc hn hk hi hp hq g1 g2 h0 h1 h2 w1 w2 ho hF hT
    have l0 := h0.1
    have lp := h1.1
    have lq := h2.1
    refine f_M_merge_94 ?_
    rw [z0, z1, nI_clamp (by omega), nI_clamp (by omega), h0.2.1]
    refine ⟨fun z => absurd z (nI_nlt (by omega) (by omega)), fun _ => ⟨fun _ => ⟨vp_in_nI (by omega) (by omega), ?_⟩, fun z => absurd z (by rw [nI_eq (by omega) (by omega)]; omega)⟩⟩
    rw [w1 k (by omega), w2 k (by omega), nI_1]
    cases h1k : f1 k with
    | none =>
      rw [mg_n1 h1k] at hF hT
      exact ⟨fun _ => ih (k + 1) i0 p0 q0 c S acc (by omega) (by omega) (by omega) hp hq g1.st g2.st h0 h1 h2 w1 w2 ho hF hT, fun z => absurd (by decide) z⟩
    | some a =>
      have ha := g1 k a (Nat.le_refl _) h1k
      refine ⟨fun z => absurd z (nI_pos (by omega)), fun _ => ⟨vp_in_nI (by omega) (by omega), ?_⟩⟩
      cases h2k : f2 k with
      | none =>
        rw [mg_n2 h2k] at hF hT
        exact ⟨fun _ => ih (k + 1) i0 p0 q0 c S acc (by omega) (by omega) (by omega) hp hq g1.st g2.st h0 h1 h2 w1 w2 ho hF hT, fun z => absurd (by decide) z⟩
      | some b =>
        have hb := g2 k b (Nat.le_refl _) h2k
        refine ⟨fun z => absurd z (nI_pos (by omega)), fun _ => ⟨vp_in_nI (by omega) (by omega), vp_in_nI (by omega) (by omega), ?_⟩⟩
        rw [mg_ss h1k h2k] at hF hT
        refine (s_M_mergeParts h0 h1 h2 ho hi (by omega) ha.1 (by omega) hb.1 (by omega)).mono fun r S1 ⟨o1, w⟩ => ?_
        rcases w with ⟨v1, v2, v3⟩ | ⟨v1, v2⟩
        · subst v2
          refine ⟨fun z => absurd z (nI_pos (by have := (mpt_len (o := sl o i0 k) (Nat.le_trans sl_le h1.1 : (sl p p0 a).length ≤ 24) (Nat.le_trans sl_le h2.1 : (sl q q0 b).length ≤ 24)).2; omega)), fun _ => ⟨vp_in_nI (by omega) (by omega), ?_⟩⟩
          have h0' := h0.keep o1 (by simp [oe2]) (by simp [oe2])
          rw [show S1.2 152 k = o.getD k 0 by have := h0'.2.2 k (by omega); simpa using this]
          refine (s_M_tryEmit v3).mono fun r S2 ⟨o2, w⟩ => ?_
          have oo := o1.tr o2
          rcases w with ⟨u1, u2, u3⟩ | ⟨u1, u2⟩
          · refine ⟨fun _ => ⟨vp_in_nI (by omega) (by omega), vp_in_nI (by omega) (by omega), ?_⟩, fun z => absurd (u2.symm.trans z) (by decide)⟩
            rw [oo.2 156 (by simp [oe2]), oo.2 177 (by simp [oe2]), w1 k (by omega), w2 k (by omega), h1k, h2k]
            show AtI g um_M_merge (d + 5) Q 94 [(0, .ref (g.2.1 + 151)), (1, .int (nI c + nI _)), (2, .int (nI (k + 1))), (3, .int (nI a + 1)), (4, .int (nI b + 1)), (5, .int (nI (k + 1)))] [] S2
            rw [nI_1, nI_1, nI_add]
            refine ih (k + 1) (k + 1) (a + 1) (b + 1) _ S2 _ (by omega) (by omega) (Nat.le_refl _) (by omega) (by omega) (fok.up m1 h1k) (fok.up m2 h2k) (h0.keep oo (by simp [oe2]) (by simp [oe2])) (h1.keep oo (by simp [oe2]) (by simp [oe2])) (h2.keep oo (by simp [oe2]) (by simp [oe2])) (fun i hi => by rw [oo.2 156 (by simp [oe2])]; exact w1 i hi) (fun i hi => by rw [oo.2 177 (by simp [oe2])]; exact w2 i hi) u3 (fun z S' o' => hF ?_ S' (oo.tr o')) (fun z S' c' o' => ?_)
            · simpa only [List.append_assoc] using z
            · have := hT (by simpa only [List.append_assoc] using z) S' (by simpa only [List.append_assoc] using c') (oo.tr o')
              simpa only [Nat.add_assoc] using this
          · refine ⟨fun z => absurd u2 z, fun _ => hF ?_ S2 oo⟩
            simp only [List.length_append, List.length_cons, List.length_nil] at u1 ⊢
            omega
        · subst v2
          refine ⟨fun _ => hF ?_ S1 o1, fun z => absurd (by decide) z⟩
          simp only [List.length_append, List.length_cons, List.length_nil] at v1 ⊢
          omega
theorem s_M_second {g : lp_G} {d : Nat} {Q : Int32 → SS → Prop} {L : Nat} {f : Nat → Option Nat} (hL : L ≤ 24) : ∀ (n i : Nat) (S : SS), L - i = n → i ≤ L → S.1 151 2 = nI L → (∀ j, j < L → S.2 156 j = em (f j)) → (∀ j, j < i → S.2 177 j = em (f j)) → (∀ S', (∀ j, j < L → S'.2 177 j = em (f j)) → om (fun _ => False) (fun q => q = 177) S S' → MtV g um_M_take d [.ref (g.2.1 + 151), .int 0, .int 1] S' (fun S15 => MtV g um_M_compareAll d [.ref (g.2.1 + 151), .int 0] S15 (fun S17 => ∀ S19 : SS, S19 = setI S17 151 35 0 → AtI g um_M_merge (d + 1) Q 94 [(0, .ref (g.2.1 + 151)), (1, .int 0), (2, .int 0), (3, .int 0), (4, .int 0), (5, .int 0)] [] S19))) → AtI g um_M_merge (d + 1) Q 40 [(0, .ref (g.2.1 + 151)), (1, .int (nI i))] [] S := by
  intro n
  induction n with
  | zero =>
    intro i S hn hi h1 h2 h3 hQ
    have ei : i = L := by omega
    subst ei
    exact f_M_merge_40 ⟨fun _ => hQ S h3 om.re, fun z => absurd (by rw [h1]; exact nI_le (Nat.le_refl _) (by omega)) z⟩
  | succ n ih =>
    intro i S hn hi h1 h2 h3 hQ
    refine f_M_merge_40 ⟨fun z => absurd (by rw [h1] at z; exact z) (nI_ge (by omega) (by omega)), fun _ => ⟨vp_in_nI (by omega) (by omega), vp_in_nI (by omega) (by omega), ?_⟩⟩
    rw [nI_clamp (by omega), h2 i (by omega), nI_1]
    rintro S22 rfl
    have o : om (fun _ => False) (fun q => q = 177) S (setA S 177 i (em (f i))) := om_A rfl
    refine ih (i + 1) _ (by omega) (by omega) h1 (fun j hj => by rw [setA_o (by omega)]; exact h2 j hj) (fun j hj => ?_) fun S' c1 c2 => hQ S' c1 (o.tr c2)
    by_cases e : j = i
    · subst e; exact setA_s
    · rw [setA_o (by omega)]; exact h3 j (by omega)
theorem ovr_n {w : Nat → Option Nat} : ovr w (fun _ => none) = w := by
  funext q
  simp only [ovr]
  cases w q <;> rfl
def sh1 : Nat → Prop := fun j => j = 2 ∨ j = 3
def sh2 : Nat → Prop := fun q => 154 ≤ q ∧ q ≤ 157
theorem s_M_takeShort {g : lp_G} {d : Nat} {Q : SS → Prop} {S : SS} {x y : Nat} {xs ys : List Int32} (hx : x < 4) (hy : y < 4) (h1 : tm S x xs) (h2 : tm S y ys) (hQ : ∀ S', cmM S' xs ys (shw xs ys 0 xs.length 0 ys.length) → om sh1 sh2 S S' → Q S') : MtV g um_M_take (d + 1) [.ref (g.2.1 + 151), .int (nI x), .int (nI y)] S (fun S1 => MtV g um_M_compareAll (d + 1) [.ref (g.2.1 + 151), .int 0] S1 Q) := by
  refine (s_M_take hx hy h1 h2).mono fun S1 ⟨a1, o1⟩ => ?_
  refine f_M_compareAll ⟨fun z => absurd rfl z, fun _ => ?_⟩
  rw [a1.2.2.1, a1.2.2.2.1]
  refine (s_M_compareShort (x := 0) (y := 0) (Nat.zero_le _) (Nat.le_refl _) (Nat.zero_le _) (Nat.le_refl _) a1).mono fun S2 ⟨a2, o2⟩ => ?_
  rw [ovr_n] at a2
  exact hQ S2 a2 ((o1.mo (fun _ z => z) (fun q z => by unfold tk2 at z; unfold sh2; omega)).tr (o2.mo (fun _ z => z.elim) (fun q z => by unfold cs2 at z; unfold sh2; omega)))
def all3 (T : Nat → List Int32) : Bool := (T 0).all isLet && ((T 1).all isLet && (T 2).all isLet)
theorem s_M_merge {g : lp_G} {S : SS} {m : MS} (hm : relM S m) : MtI g um_M_merge 8 [.ref (g.2.1 + 151)] S (fun r S' => off pM S S' ∧ ((all3 m.1 = false ∧ r = -3 ∧ relM S' m) ∨ (all3 m.1 = true ∧ 24 < (mrg (m.1 0) (m.1 1) (m.1 2)).1.length ∧ r = -2 ∧ relM S' m) ∨ (all3 m.1 = true ∧ (mrg (m.1 0) (m.1 1) (m.1 2)).1.length ≤ 24 ∧ r = nI (mrg (m.1 0) (m.1 1) (m.1 2)).2 ∧ relM S' (upT m.1 3 (mrg (m.1 0) (m.1 1) (m.1 2)).1, m.2)))) := by
  have h0 := hm.1 0 (by omega)
  have h1 := hm.1 1 (by omega)
  have h2 := hm.1 2 (by omega)
  refine f_M_merge ((s_M_allLetters (t := 0) (by omega) h0).mono fun r S1 ⟨e1, e2⟩ => ?_)
  subst e1
  subst e2
  refine ⟨fun z => ⟨off.re, Or.inl ⟨by rw [all3, b2i_0.mp z]; rfl, rfl, hm⟩⟩, fun z => ?_⟩
  rw [b2i_1] at z
  refine (s_M_allLetters (t := 1) (by omega) h1).mono fun r S2 ⟨e1, e2⟩ => ?_
  subst e1
  subst e2
  refine ⟨fun y => ⟨off.re, Or.inl ⟨by rw [all3, b2i_0.mp y]; simp, rfl, hm⟩⟩, fun y => ?_⟩
  rw [b2i_1] at y
  refine (s_M_allLetters (t := 2) (by omega) h2).mono fun r S3 ⟨e1, e2⟩ => ?_
  subst e1
  subst e2
  refine ⟨fun x => ?_, fun x => ⟨off.re, Or.inl ⟨by rw [all3, b2i_0.mp x]; simp, rfl, hm⟩⟩⟩
  rw [b2i_1] at x
  have ha : all3 m.1 = true := by rw [all3, x, y, z]; rfl
  refine s_M_takeShort (x := 0) (y := 2) (by omega) (by omega) h0 h2 fun S4 a4 o4 => ?_
  have k0 := h0.keep o4 (by unfold sh2; omega) (by unfold sh2; omega)
  have k1 := h1.keep o4 (by unfold sh2; omega) (by unfold sh2; omega)
  have k2 := h2.keep o4 (by unfold sh2; omega) (by unfold sh2; omega)
  refine s_M_second (i := 0) h0.1 _ S4 rfl (Nat.zero_le _) a4.2.2.1 a4.2.2.2.2.2.2 (fun j hj => by omega) fun S5 a5 o5 => ?_
  have oo5 : om mf mk S3 S5 := (o4.mo (fun j z => by unfold sh1 at z; unfold mf; omega) (fun q z => by unfold sh2 at z; unfold mk; omega)).tr (o5.mo (fun _ z => z.elim) (fun q z => by subst z; unfold mk; omega))
  have t5 : ∀ q, q = 152 ∨ q = 153 → S5.2 q = S3.2 q := fun q hq => by rw [o5.2 q (by omega), o4.2 q (by unfold sh2; omega)]
  have j0 := k0.keep o5 (by omega) (by omega)
  have j1 := k1.keep o5 (by omega) (by omega)
  have j2 := k2.keep o5 (by omega) (by omega)
  refine s_M_takeShort (x := 0) (y := 1) (by omega) (by omega) j0 j1 fun S6 a6 o6 => ?_
  rintro S19 rfl
  have o7 : om (fun j => sh1 j ∨ oe1 j) sh2 S5 (setI S6 151 35 0) := (o6.mo (fun _ z => Or.inl z) (fun _ z => z)).tr (om_I (Or.inr rfl))
  have oo7 : om mf mk S3 (setI S6 151 35 0) := oo5.tr (o7.mo (fun j z => by unfold sh1 oe1 at z; unfold mf; omega) (fun q z => by unfold sh2 at z; unfold mk; omega))
  have t7 : ∀ q, q = 152 ∨ q = 153 → (setI S6 151 35 0).2 q = S3.2 q := fun q hq => by rw [o7.2 q (by unfold sh2; omega), t5 q hq]
  have b0 := j0.keep o7 (by unfold sh2; omega) (by unfold sh2; omega)
  have b1 := j1.keep o7 (by unfold sh2; omega) (by unfold sh2; omega)
  have b2 := j2.keep o7 (by unfold sh2; omega) (by unfold sh2; omega)
  refine s_M_merge_loop (f1 := shw (m.1 0) (m.1 1) 0 (m.1 0).length 0 (m.1 1).length) (f2 := shw (m.1 0) (m.1 2) 0 (m.1 0).length 0 (m.1 2).length) (acc := []) (c := 0) (i0 := 0) (p0 := 0) (q0 := 0) (k := 0) mono_shw mono_shw (m.1 0).length (S := setI S6 151 35 0) (by omega) (by omega) (by omega) (by omega) (by omega) (fun q r _ e => ⟨by omega, (mono_shw.1 q r e).2⟩) (fun q r _ e => ⟨by omega, (mono_shw.1 q r e).2⟩) b0 b1 b2 a6.2.2.2.2.2.2 (fun i hi => ?_) ⟨by simp, setI_s, fun i hi => by simp at hi⟩ (fun w S' o' => ?_) (fun w S' c' o' => ?_)
  · rw [o7.2 177 (by unfold sh2; omega)]; exact a5 i hi
  · have o8 : om mf mk S3 S' := oo7.tr (o'.mo (fun j z => by unfold oe1 at z; unfold mf; omega) (fun q z => by unfold oe2 at z; unfold mk; omega))
    have t8 : ∀ q, q = 152 ∨ q = 153 → S'.2 q = S3.2 q := fun q hq => by rw [o'.2 q (by unfold oe2; omega), t7 q hq]
    exact ⟨om_M o8 (fun q z => z.1), Or.inr (Or.inl ⟨ha, w, rfl, hm.scr o8 (t8 152 (by omega)) (t8 153 (by omega))⟩)⟩
  · have o8 : om mf mk S3 S' := oo7.tr (o'.mo (fun j z => by unfold oe1 at z; unfold mf; omega) (fun q z => by unfold oe2 at z; unfold mk; omega))
    have t8 : ∀ q, q = 152 ∨ q = 153 → S'.2 q = S3.2 q := fun q hq => by rw [o'.2 q (by unfold oe2; omega), t7 q hq]
    refine (s_M_keep (t := 3) (by omega) c').mono fun S9 ⟨d1, d2, d3, d4⟩ => ?_
    have o9 : om mf mk S3 S9 := o8.tr (d2.mo (fun _ z => z.elim) (fun q z => by unfold mk; omega))
    refine ⟨om_M o9 (fun q z => z.1), Or.inr (Or.inr ⟨ha, w, ?_, hm.text (by omega) d1 o9 (fun i hi => ?_) (fun j hj => ?_)⟩)⟩
    · rw [Nat.zero_add]; rfl
    · rw [d3 i hi, t8 152 (by omega)]
    · rw [d4 j hj, t8 153 (by omega)]
theorem s_P_merge {g : lp_G} {S : SS} {m : MS} (hc : relC S m) : MtI g um_P_merge 8 [.ref (g.2.1 + 0)] S (fun r S' => off pC S S' ∧ ((all3 m.1 = false ∧ r = -3 ∧ relC S' m) ∨ (all3 m.1 = true ∧ 24 < (mrg (m.1 0) (m.1 1) (m.1 2)).1.length ∧ r = -2 ∧ relC S' m) ∨ (all3 m.1 = true ∧ (mrg (m.1 0) (m.1 1) (m.1 2)).1.length ≤ 24 ∧ r = nI (mrg (m.1 0) (m.1 1) (m.1 2)).2 ∧ relC S' (upT m.1 3 (mrg (m.1 0) (m.1 1) (m.1 2)).1, m.2)))) := by
  have h0 := hc.1 0 (by omega)
  have h1 := hc.1 1 (by omega)
  have h2 := hc.1 2 (by omega)
  refine f_P_merge ?_
  refine f_P_merge_2 ⟨fun z => absurd z (by decide), fun _ => ⟨vp_in_nI (n := 0) (by omega) (by omega), ?_⟩⟩
  rw [z0]
  refine (s_T_letters (isT_t (t := 0) (by omega)) h0).mono fun r S1 ⟨e1, e2⟩ => ?_
  subst e1
  subst e2
  refine ⟨fun z => ?_, fun z => ⟨off.re, Or.inl ⟨by rw [all3, b2i_0.mp z]; rfl, rfl, hc⟩⟩⟩
  rw [b2i_1] at z
  refine f_P_merge_2 ⟨fun z => absurd z (by decide), fun _ => ⟨vp_in_nI (n := 1) (by omega) (by omega), ?_⟩⟩
  rw [show ((0 : Int32) + 1).toNatClampNeg = 1 from rfl]
  refine (s_T_letters (isT_t (t := 1) (by omega)) h1).mono fun r S2 ⟨e1, e2⟩ => ?_
  subst e1
  subst e2
  refine ⟨fun y => ?_, fun y => ⟨off.re, Or.inl ⟨by rw [all3, b2i_0.mp y]; simp, rfl, hc⟩⟩⟩
  rw [b2i_1] at y
  refine f_P_merge_2 ⟨fun z => absurd z (by decide), fun _ => ⟨vp_in_nI (n := 2) (by omega) (by omega), ?_⟩⟩
  rw [show ((0 : Int32) + 1 + 1).toNatClampNeg = 2 from rfl]
  refine (s_T_letters (isT_t (t := 2) (by omega)) h2).mono fun r S3 ⟨e1, e2⟩ => ?_
  subst e1
  subst e2
  refine ⟨fun x => ?_, fun x => ⟨off.re, Or.inl ⟨by rw [all3, b2i_0.mp x]; simp, rfl, hc⟩⟩⟩
  rw [b2i_1] at x
  have ha : all3 m.1 = true := by rw [all3, x, y, z]; rfl
  refine f_P_merge_2 ⟨fun _ => ?_, fun z => absurd (by decide) z⟩
  rw [z0, z1, nI_clamp (by omega), nI_clamp (by omega)]
  have hl := mrg_len h0.1 h1.1 h2.1
  refine (s_G_bring h0 h1 h2).mono fun r S4 ⟨f1, f2, f3⟩ => ?_
  have sc : off sk S3 S4 := f3.mo fun q z => by unfold gt at z; unfold sk; omega
  have t9 : isT 149 := isT_t (t := 3) (by omega)
  refine f_G_handOver t9 ?_
  rw [f2.2.1, nI_leI (by omega) (by omega)]
  refine ⟨fun w => ?_, fun w => ?_⟩
  · have tk := f2.1
    rw [List.take_of_length_le w] at tk
    refine (s_T_become t9 (show isT 141 from ⟨sh_141, sh_142⟩) ⟨by unfold tp; omega, by unfold tp; omega⟩ tk).mono fun S5 ⟨d1, d2⟩ => ?_
    refine ⟨fun z => absurd z (by decide), fun _ => ⟨?_, Or.inr (Or.inr ⟨ha, w, f1, ?_⟩)⟩⟩
    · exact (sc.mo fun q z => by unfold sk at z; unfold pC; omega).tr (d2.mo fun q z => by unfold tp at z; unfold pC; omega)
    · exact hc.text (by omega) d1 ((sc.mo fun q z => Or.inl z).tr (d2.mo fun q z => Or.inr z))
  · exact ⟨fun _ => ⟨sc.mo fun q z => by unfold sk at z; unfold pC; omega, Or.inr (Or.inl ⟨ha, by omega, rfl, hc.scr sc⟩)⟩, fun z => absurd rfl z⟩
theorem sim_merge (g : lp_G) : Sim g um_P_merge um_M_merge [] := by
  intro m ho
  cases ha : all3 m.1 with
  | false =>
    refine ⟨-3, m, ho, fun S hc => (s_P_merge hc).mono fun r S' ⟨o, h⟩ => ?_, fun S hm => (s_M_merge hm).mono fun r S' ⟨o, h⟩ => ?_⟩
    · rcases h with h | h | h
      · exact ⟨h.2.1, h.2.2, o⟩
      · exact absurd (ha.symm.trans h.1) (by decide)
      · exact absurd (ha.symm.trans h.1) (by decide)
    · rcases h with h | h | h
      · exact ⟨h.2.1, h.2.2, o⟩
      · exact absurd (ha.symm.trans h.1) (by decide)
      · exact absurd (ha.symm.trans h.1) (by decide)
  | true =>
    by_cases hl : (mrg (m.1 0) (m.1 1) (m.1 2)).1.length ≤ 24
    · refine ⟨nI (mrg (m.1 0) (m.1 1) (m.1 2)).2, (upT m.1 3 (mrg (m.1 0) (m.1 1) (m.1 2)).1, m.2), ho.text hl, fun S hc => (s_P_merge hc).mono fun r S' ⟨o, h⟩ => ?_, fun S hm => (s_M_merge hm).mono fun r S' ⟨o, h⟩ => ?_⟩
      · rcases h with h | h | h
        · exact absurd (ha.symm.trans h.1) (by decide)
        · exact absurd hl (by omega)
        · exact ⟨h.2.2.1, h.2.2.2, o⟩
      · rcases h with h | h | h
        · exact absurd (ha.symm.trans h.1) (by decide)
        · exact absurd hl (by omega)
        · exact ⟨h.2.2.1, h.2.2.2, o⟩
    · refine ⟨-2, m, ho, fun S hc => (s_P_merge hc).mono fun r S' ⟨o, h⟩ => ?_, fun S hm => (s_M_merge hm).mono fun r S' ⟨o, h⟩ => ?_⟩
      · rcases h with h | h | h
        · exact absurd (ha.symm.trans h.1) (by decide)
        · exact ⟨h.2.2.1, h.2.2.2, o⟩
        · exact absurd h.2.1 hl
      · rcases h with h | h | h
        · exact absurd (ha.symm.trans h.1) (by decide)
        · exact ⟨h.2.2.1, h.2.2.2, o⟩
        · exact absurd h.2.1 hl
