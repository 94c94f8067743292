/-! write: the class -/
theorem dg_lo : ∀ v, v < 100 → nI 48 + (nI v - nI v / nI 10 * nI 10) = nI (48 + v % 10) := by decide
theorem dg_hi : ∀ v, v < 100 → nI 48 + ((nI v / nI 10) - (nI v / nI 10) / nI 10 * nI 10) = nI (48 + v / 10) := by decide
theorem dg_hm : ∀ v, v < 100 → nI 48 + (nI v / nI 10) = nI (48 + v / 10) := by decide
theorem s_A_app {g : lp_G} {d : Nat} {S : SS} {l : List Int32} {x : Int32} (h : pa S l) (hl : l.length < 900) : MtV g um_A_append d [.ref (g.2.1 + 90), .int x] S (fun S' => pa S' (l ++ [x]) ∧ off ap S S') :=
  (s_A_append h).mono fun S' ⟨a, b⟩ => ⟨by rw [List.take_of_length_le (by simp; omega)] at a; exact a, b⟩
theorem s_A_num {g : lp_G} {d : Nat} {S : SS} {l : List Int32} {v : Nat} (h : pa S l) (hv : v < 100) (hl : l.length + 2 ≤ 900) : MtV g um_A_appendNumber (d + 1) [.ref (g.2.1 + 90), .int (nI v)] S (fun S' => pa S' (l ++ dgs v) ∧ off ap S S') := by
  refine f_A_appendNumber ?_
  rw [nI_ltI (by omega) (by omega), dg_lo v hv, dg_hi v hv]
  refine ⟨fun z => ?_, fun z => ?_⟩
  · refine (s_A_app h (by omega)).mono fun S1 ⟨a, b⟩ => ⟨?_, b⟩
    rw [dgs, if_pos (by omega)]
    exact a
  · refine (s_A_app h (by omega)).mono fun S1 ⟨a, b⟩ => ?_
    refine (s_A_app a (by simp; omega)).mono fun S2 ⟨c, e⟩ => ⟨?_, b.tr e⟩
    rw [dgs, if_neg (by omega), ← List.append_assoc]
    exact c
theorem s_W_head {g : lp_G} {d : Nat} {S : SS} {l : List Int32} {a b c e : Nat} (h : pa S l) (ha : a < 100) (hb : b < 100) (hc : c < 100) (he : e < 100) (hl : l.length + 13 ≤ 900) : MtV g um_W_writeHead (d + 2) [.ref (g.2.1 + 92), .int (nI a), .int (nI b), .int (nI c), .int (nI e)] S (fun S' => pa S' (l ++ hdO a b c e) ∧ off ap S S') := by
  have d1 := dgs_len (v := a)
  have d2 := dgs_len (v := b)
  have d3 := dgs_len (v := c)
  have d4 := dgs_len (v := e)
  refine f_W_writeHead ?_
  refine (s_A_app h (by omega)).mono fun S1 ⟨a1, o1⟩ => ?_
  refine (s_A_num a1 ha (by simp; omega)).mono fun S2 ⟨a2, o2⟩ => ?_
  refine (s_A_app a2 (by simp; omega)).mono fun S3 ⟨a3, o3⟩ => ?_
  refine (s_A_num a3 hb (by simp; omega)).mono fun S4 ⟨a4, o4⟩ => ?_
  refine (s_A_app a4 (by simp; omega)).mono fun S5 ⟨a5, o5⟩ => ?_
  refine (s_A_num a5 hc (by simp; omega)).mono fun S6 ⟨a6, o6⟩ => ?_
  refine (s_A_app a6 (by simp; omega)).mono fun S7 ⟨a7, o7⟩ => ?_
  refine (s_A_num a7 he (by simp; omega)).mono fun S8 ⟨a8, o8⟩ => ?_
  refine (s_A_app a8 (by simp; omega)).mono fun S9 ⟨a9, o9⟩ => ⟨?_, (((((((o1.tr o2).tr o3).tr o4).tr o5).tr o6).tr o7).tr o8).tr o9⟩
  rw [hdO]
  simpa only [List.append_assoc] using a9
theorem s_W_lines_loop {g : lp_G} {d : Nat} {Q : SS → Prop} {k2 sg : Nat} {T : List Int32} {R : List (Int32 × Int32)} (hk2 : isT k2) (n1 : ¬ ap k2) (n2 : ¬ ap (k2 + 1)) : ∀ (k i p : Nat) (S : SS) (l : List Int32), i + k ≤ T.length → tx S k2 T → pa S l → l.length + 3 * k ≤ 900 → (∀ q, q < k → kd R (p + q) = nI sg ∧ lw R (p + q) = T.getD (i + q) 0) → (∀ S', pa S' (l ++ opl R p k) → off ap S S' → Q S') → AtV g um_W_writeLines (d + 2) Q 3 [(0, .ref (g.2.1 + 92)), (1, .int (nI sg)), (2, .ref (g.2.1 + k2)), (4, .int (nI (i + k))), (5, .int (nI i))] [] S := by
  intro k
  induction k with
  | zero =>
    intro i p S l hi ht hp hl hR hQ
    have tl := ht.1
    refine f_W_writeLines_3 hk2 ⟨fun _ => hQ S (by simpa [opl] using hp) off.re, fun z => absurd (nI_le (by omega) (by omega)) z⟩
  | succ k ih =>
    intro i p S l hi ht hp hl hR hQ
    have tl := ht.1
    have r0 := hR 0 (by omega)
    rw [Nat.add_zero, Nat.add_zero] at r0
    refine f_W_writeLines_3 hk2 ⟨fun z => absurd z (nI_ge (by omega) (by omega)), fun _ => ⟨vp_in_nI (by omega) (by omega), ?_⟩⟩
    rw [nI_clamp (by omega), ht.2.2 i (by omega), nI_1]
    refine f_A_appendLine ?_
    refine (s_A_app hp (by omega)).mono fun S1 ⟨a1, o1⟩ => ?_
    refine (s_A_app a1 (by simp; omega)).mono fun S2 ⟨a2, o2⟩ => ?_
    refine (s_A_app a2 (by simp; omega)).mono fun S3 ⟨a3, o3⟩ => ?_
    have oo := (o1.tr o2).tr o3
    rw [show i + (k + 1) = i + 1 + k by omega]
    refine ih (i + 1) (p + 1) S3 _ (by omega) (ht.keep oo n1 n2) a3 (by simp; omega) (fun q hq => ?_) fun S4 a4 o4 => hQ S4 ?_ (oo.tr o4)
    · have := hR (q + 1) (by omega)
      rw [show p + 1 + q = p + (q + 1) by omega, show i + 1 + q = i + (q + 1) by omega]
      exact this
    · rw [opl, r0.1, r0.2]
      simpa only [List.append_assoc] using a4
theorem s_W_lines {g : lp_G} {d : Nat} {S : SS} {k2 sg i k p : Nat} {T l : List Int32} {R : List (Int32 × Int32)} (hk2 : isT k2) (n1 : ¬ ap k2) (n2 : ¬ ap (k2 + 1)) (hi : i + k ≤ T.length) (ht : tx S k2 T) (hp : pa S l) (hl : l.length + 3 * k ≤ 900) (hR : ∀ q, q < k → kd R (p + q) = nI sg ∧ lw R (p + q) = T.getD (i + q) 0) : MtV g um_W_writeLines (d + 2) [.ref (g.2.1 + 92), .int (nI sg), .ref (g.2.1 + k2), .int (nI i), .int (nI (i + k))] S (fun S' => pa S' (l ++ opl R p k) ∧ off ap S S') :=
  f_W_writeLines hk2 (s_W_lines_loop hk2 n1 n2 k i p S l hi ht hp hl hR fun S' a b => ⟨a, b⟩)
def u0 : RU := (0, 0, 0, 0, 0)
def rgU (S : SS) (k : Nat) (u : RU) : Prop := rg S k (ux u) (uX u) (uy u) (uY u)
def chA (S : SS) (U : List RU) : Prop := U.length ≤ 25 ∧ S.1 92 3 = nI U.length ∧ ∀ t, t < U.length → rgU S (94 + 1 * t) (U.getD t u0)
def wp : Nat → Prop := fun q => 92 ≤ q ∧ q ≤ 118
theorem chA.keep {S S' : SS} {U : List RU} {p : Nat → Prop} (h : chA S U) (ho : off p S S') (hp : ∀ q, p q → ¬ wp q) : chA S' U := by
  have e : ∀ q, wp q → S'.1 q = S.1 q := fun q hq => (ho q (fun z => hp q z hq)).1
  refine ⟨h.1, by rw [e 92 (by unfold wp; omega)]; exact h.2.1, fun t ht => ?_⟩
  have := h.2.2 t ht
  have hl := h.1
  unfold rgU rg at this ⊢
  rw [e (94 + 1 * t) (by unfold wp; omega)]
  exact this
theorem s_W_keep {g : lp_G} {d : Nat} {S : SS} {U : List RU} {p x xe y ye : Nat} (h : chA S U) (hl : U.length < 25) (hx : xe < 2 ^ 31) (hx0 : x < 2 ^ 31) (hy : ye < 2 ^ 31) (hy0 : y < 2 ^ 31) : MtV g um_W_keepChange (d + 1) [.ref (g.2.1 + 92), .int (nI x), .int (nI xe), .int (nI y), .int (nI ye)] S (fun S' => chA S' (U ++ kr p x xe y ye) ∧ off wp S S') := by
  have add : MtV g um_R_span d [.ref (g.2.1 + (94 + 1 * (S.1 92 3).toNatClampNeg)), .int (nI x), .int (nI xe), .int (nI y), .int (nI ye)] S (fun S4 => ∀ S6 : SS, S6 = setI S4 92 3 (S4.1 92 3 + 1) → (chA S6 (U ++ [(p, x, xe, y, ye)]) ∧ off wp S S6)) := by
    rw [h.2.1, nI_clamp (by omega)]
    refine (s_R_span (sr_93 U.length hl)).mono fun S4 ⟨a, o⟩ => ?_
    rintro S6 rfl
    have o6 : off (fun q => q = 92) S4 (setI S4 92 3 (S4.1 92 3 + 1)) := off_I rfl
    refine ⟨⟨by simp; omega, ?_, fun t ht => ?_⟩, (o.mo fun q z => by unfold wp; omega).tr (o6.mo fun q z => by unfold wp; omega)⟩
    · rw [setI_s, (o 92 (by omega)).1, h.2.1, nI_1, List.length_append]; rfl
    · by_cases e : t = U.length
      · subst e
        rw [show (U ++ [(p, x, xe, y, ye)]).getD U.length u0 = (p, x, xe, y, ye) by simp [List.getD_eq_getElem?_getD]]
        exact a.keep o6 (by omega)
      · have ht' : t < U.length := by simp at ht; omega
        rw [show (U ++ [(p, x, xe, y, ye)]).getD t u0 = U.getD t u0 by simp [List.getD_eq_getElem?_getD, List.getElem?_append_left ht']]
        have := h.2.2 t ht'
        unfold rgU at this ⊢
        exact (this.keep o (by omega)).keep o6 (by omega)
  refine f_W_keepChange ?_
  have vc : vp_in (S.1 92 3) 25 := by rw [h.2.1]; exact vp_in_nI hl (by omega)
  have nc : ¬ nI 25 ≤ S.1 92 3 := by rw [h.2.1]; exact nI_ge hl (by omega)
  rw [nI_ltI hx0 hx, nI_leI hy hy0, kr]
  refine ⟨fun z => ?_, fun z => ⟨fun y' => ?_, fun y' => ?_⟩⟩
  · rw [if_pos (Or.inl z)]
    exact ⟨fun w => absurd w nc, fun _ => ⟨vc, add⟩⟩
  · rw [if_neg (by omega), List.append_nil]
    exact ⟨h, off.re⟩
  · rw [if_pos (Or.inr (by omega))]
    exact ⟨fun w => absurd w nc, fun _ => ⟨vc, add⟩⟩
theorem s_W_find_loop {g : lp_G} {d : Nat} {Q : SS → Prop} {xs ys : List Int32} {pf : Nat → Option Nat} (hm : mono pf xs.length ys.length) : ∀ (f i x y p : Nat) (S : SS) (U : List RU), xs.length - i = f → i ≤ xs.length → x ≤ i → y ≤ ys.length → U.length ≤ x → cm S 2 xs ys pf → chA S U → (∀ S', chA S' (U ++ rnF xs.length ys.length pf f i x y p) → off wp S S' → Q S') → AtV g um_W_findChanges (d + 2) Q 11 [(0, .ref (g.2.1 + 92)), (1, .int (nI x)), (2, .int (nI y)), (3, .int (nI i))] [] S := by
  have c2 : isC 2 := ⟨sh_2, sh_3, sh_4, sh_5, sh_6, sh_7⟩
  intro f
  induction f with
  | zero =>
    intro i x y p S U hf hi hx hy hu hc h hQ
    have l1 := hc.1.1
    have l2 := hc.2.1.1
    have ei : i = xs.length := by omega
    subst ei
    refine f_W_findChanges_11 ⟨fun _ => ?_, fun z => absurd (by rw [hc.1.2.1]; exact nI_le (Nat.le_refl _) (by omega)) z⟩
    rw [hc.1.2.1, hc.2.1.2.1]
    exact (s_W_keep h (by omega) (by omega) (by omega) (by omega) (by omega)).mono fun S1 ⟨a, b⟩ => hQ S1 a b
  | succ f ih =>
    intro i x y p S U hf hi hx hy hu hc h hQ
    have l1 := hc.1.1
    have l2 := hc.2.1.1
    refine f_W_findChanges_11 ⟨fun z => absurd (by rw [hc.1.2.1] at z; exact z) (nI_ge (by omega) (by omega)), fun _ => ?_⟩
    refine (s_C_partnerOf c2 hc).mono fun r S1 ⟨e1, e2⟩ => ?_
    subst e1
    rw [prt_nI (by omega) (by omega)] at e2
    subst e2
    rw [nI_1]
    rw [rnF] at hQ
    cases hp : pf i with
    | none =>
      rw [hp] at hQ
      exact ⟨fun _ => ih (i + 1) x y p S1 U (by omega) (by omega) (by omega) hy hu hc h hQ, fun z => absurd rfl z⟩
    | some j =>
      rw [hp] at hQ
      have hj := (hm.1 i j hp).2
      refine ⟨fun z => absurd z (en_ne (by omega)), fun _ => ?_⟩
      refine (s_W_keep (p := p) h (by omega) (by omega) (by omega) (show j < 2 ^ 31 by omega) (by omega)).mono fun S2 ⟨a, b⟩ => ?_
      show AtV g um_W_findChanges (d + 2) Q 11 [(0, .ref (g.2.1 + 92)), (1, .int (nI (i + 1))), (2, .int (nI j + 1)), (3, .int (nI (i + 1)))] [] S2
      rw [nI_1]
      refine ih (i + 1) (i + 1) (j + 1) (p + (i - x) + (j - y) + 1) S2 _ (by omega) (by omega) (Nat.le_refl _) (by omega) ?_ (hc.keep b (fun q z => by unfold cp at z; unfold wp; omega)) a fun S3 a3 b3 => hQ S3 (by simpa only [List.append_assoc] using a3) (b.tr b3)
      unfold kr
      split <;> simp <;> omega
