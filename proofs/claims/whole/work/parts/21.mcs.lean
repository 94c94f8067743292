/-! the reference's shortest way -/
def cs2 : Nat → Prop := fun q => q = 156 ∨ q = 157
def tabM (S : SS) (a b : Nat → Int32) (x xe y ye i0 j0 : Nat) : Prop := ∀ i j, x ≤ i → i ≤ xe → y ≤ j → j ≤ ye → (i0 < i ∨ (i = i0 ∧ j0 ≤ j)) → S.2 157 (25 * i + j) = nI (lc a b xe ye i j)
theorem tabM_set {S : SS} {a b : Nat → Int32} {x xe y ye i0 j0 : Nat} (hye : ye ≤ 24) (hj : j0 ≤ ye) (h : tabM S a b x xe y ye i0 (j0 + 1)) : tabM (setA S 157 (25 * i0 + j0) (nI (lc a b xe ye i0 j0))) a b x xe y ye i0 j0 := by
  intro i j h1 h2 h3 h4 h5
  by_cases e : i = i0 ∧ j = j0
  · obtain ⟨rfl, rfl⟩ := e
    exact setA_s
  · rw [setA_o (Or.inr (by omega))]
    exact h i j h1 h2 h3 h4 (by omega)
theorem s_M_way {g : lp_G} {d : Nat} {Q : SS → Prop} {x xe y ye : Nat} {xs ys : List Int32} (hxe : xe ≤ xs.length) (hye : ye ≤ ys.length) :
    ∀ (f i j : Nat) (S : SS) (pf : Nat → Option Nat), (xe - i) + (ye - j) ≤ f → x ≤ i → i ≤ xe → y ≤ j → j ≤ ye → cmM S xs ys pf → (∀ i j, x ≤ i → i ≤ xe → y ≤ j → j ≤ ye → S.2 157 (25 * i + j) = nI (lc (gf xs) (gf ys) xe ye i j)) →
    (∀ S', cmM S' xs ys (ovr (wkF (gf xs) (gf ys) xe ye f i j) pf) → om (fun _ => False) cs2 S S' → Q S') → AtV g um_M_compareShort d Q 176 [(0, .ref (g.2.1 + 151)), (2, .int (nI xe)), (4, .int (nI ye)), (5, .int (nI i)), (6, .int (nI j))] [] S := by
  intro f
  induction f with
  | zero =>
    intro i j S pf hf h1 h2 h3 h4 hc ht hQ
    have l1 := hc.1
    exact f_M_compareShort_176 ⟨fun _ => hQ S hc om.re, fun z => absurd (nI_le (by omega) (by omega)) z⟩
  | succ f ih =>
    intro i j S pf hf h1 h2 h3 h4 hc ht hQ
    have l1 := hc.1
    have l2 := hc.2.1
    by_cases hi : i < xe
    · by_cases hj : j < ye
      · have hu : wkF (gf xs) (gf ys) xe ye (f + 1) i j = (if gf xs i = gf ys j then upf (wkF (gf xs) (gf ys) xe ye f (i + 1) (j + 1)) i j else if lc (gf xs) (gf ys) xe ye (i + 1) j < lc (gf xs) (gf ys) xe ye i (j + 1) then wkF (gf xs) (gf ys) xe ye f i (j + 1) else wkF (gf xs) (gf ys) xe ye f (i + 1) j) := by
          rw [wkF, if_pos ⟨hi, hj⟩]
        refine f_M_compareShort_176 ⟨fun z => absurd z (nI_ge hi (by omega)), fun _ => ⟨fun z => absurd z (nI_ge hj (by omega)), fun _ => ?_⟩⟩
        simp (disch := omega) only [pk_mul, nI_add, nI_1, nI_clamp]
        have b1 := lc_le (a := gf xs) (b := gf ys) (xe := xe) (ye := ye) (i + 1) j
        have b2 := lc_le (a := gf xs) (b := gf ys) (xe := xe) (ye := ye) i (j + 1)
        rw [hc.2.2.2.2.1 i (by omega), hc.2.2.2.2.2.1 j (by omega)]
        refine ⟨vp_in_nI (by omega) (by omega), vp_in_nI (by omega) (by omega), fun v => ⟨vp_in_nI (by omega) (by omega), vp_in_nI (by omega) (by omega), ?_⟩, fun v => ⟨vp_in_nI (by omega) (by omega), ?_⟩⟩
        · rw [if_neg (show ¬ gf xs i = gf ys j from v)] at hu
          rw [show 25 * i + 25 + j = 25 * (i + 1) + j by omega, show 25 * i + j + 1 = 25 * i + (j + 1) by omega, ht (i + 1) j (by omega) (by omega) (by omega) (by omega), ht i (j + 1) (by omega) (by omega) (by omega) (by omega), nI_ltI (by omega) (by omega)]
          refine ⟨fun c => ih i (j + 1) S pf (by omega) h1 h2 (by omega) (by omega) hc ht fun S'' a1 a2 => hQ S'' ?_ a2, fun c => ih (i + 1) j S pf (by omega) (by omega) (by omega) h3 h4 hc ht fun S'' a1 a2 => hQ S'' ?_ a2⟩
          · rw [hu, if_pos c]; exact a1
          · rw [hu, if_neg c]; exact a1
        · rw [if_pos (show gf xs i = gf ys j from v)] at hu
          rintro S11 rfl
          have o1 : om (fun _ => False) cs2 S (setA S 156 i (nI j)) := om_A (Or.inl rfl)
          have hc1 : cmM (setA S 156 i (nI j)) xs ys (upf pf i j) := by
            refine ⟨l1, l2, hc.2.2.1, hc.2.2.2.1, fun q hq => ?_, fun q hq => ?_, fun q hq => ?_⟩
            · rw [setA_o (by omega)]; exact hc.2.2.2.2.1 q hq
            · rw [setA_o (by omega)]; exact hc.2.2.2.2.2.1 q hq
            · by_cases e : q = i
              · subst e
                rw [setA_s]
                simp [upf, em]
              · rw [setA_o (by omega), hc.2.2.2.2.2.2 q hq]
                simp [upf, e]
          refine ih (i + 1) (j + 1) _ _ (by omega) (by omega) (by omega) (by omega) (by omega) hc1 (fun i j c1 c2 c3 c4 => by rw [setA_o (by omega)]; exact ht i j c1 c2 c3 c4) fun S2 c1 o2 => hQ S2 ?_ (o1.tr o2)
          rw [hu]
          rw [ovr_up] at c1
          · exact c1
          · cases e : wkF (gf xs) (gf ys) xe ye f (i + 1) (j + 1) i with
            | none => rfl
            | some r =>
              have := wk_in _ _ _ _ _ e
              omega
      · refine f_M_compareShort_176 ⟨fun _ => hQ S ?_ om.re, fun _ => ⟨fun _ => hQ S ?_ om.re, fun z => absurd (nI_le (by omega) (by omega)) z⟩⟩ <;>
        · rw [wkF, if_neg (by omega)]; exact hc
    · refine f_M_compareShort_176 ⟨fun _ => hQ S ?_ om.re, fun z => absurd (nI_le (by omega) (by omega)) z⟩
      rw [wkF, if_neg (by omega)]; exact hc
theorem s_M_inner {g : lp_G} {d : Nat} {Q : SS → Prop} {x xe y ye i : Nat} {xs ys : List Int32} {pf : Nat → Option Nat} (hxe : xe ≤ xs.length) (hy : y ≤ ye) (hye : ye ≤ ys.length) (hi : x ≤ i) (hi2 : i ≤ xe) :
    ∀ (m : Nat) (S : SS), y + m ≤ ye + 1 → cmM S xs ys pf → tabM S (gf xs) (gf ys) x xe y ye i (y + m) → (∀ S', tabM S' (gf xs) (gf ys) x xe y ye i y → om (fun _ => False) (fun q => q = 157) S S' → AtV g um_M_compareShort d Q 3 [(0, .ref (g.2.1 + 151)), (1, .int (nI x)), (2, .int (nI xe)), (3, .int (nI y)), (4, .int (nI ye)), (5, .int (nI i + (-1)))] [] S') →
    AtV g um_M_compareShort d Q 13 [(0, .ref (g.2.1 + 151)), (1, .int (nI x)), (2, .int (nI xe)), (3, .int (nI y)), (4, .int (nI ye)), (5, .int (nI i)), (6, .int (nI (y + m) + (-1)))] [] S := by
  intro m
  induction m with
  | zero =>
    intro S hm hc ht hQ
    have l1 := hc.1
    have l2 := hc.2.1
    exact f_M_compareShort_13 ⟨fun _ => hQ S ht om.re, fun z => absurd (m1_lt (by omega)) z⟩
  | succ m ih =>
    intro S hm hc ht hQ
    have l1 := hc.1
    have l2 := hc.2.1
    rw [show y + (m + 1) = (y + m) + 1 by omega, pk_m1]
    have step : ∀ v, v = nI (lc (gf xs) (gf ys) xe ye i (y + m)) → vp_in (nI (25 * i + (y + m))) 625 ∧ ∀ S', S' = setA S 157 (25 * i + (y + m)) v → AtV g um_M_compareShort d Q 13 [(0, .ref (g.2.1 + 151)), (1, .int (nI x)), (2, .int (nI xe)), (3, .int (nI y)), (4, .int (nI ye)), (5, .int (nI i)), (6, .int (nI (y + m) + (-1)))] [] S' := by
      intro v ev
      subst ev
      refine ⟨vp_in_nI (by omega) (by omega), fun S' e => ?_⟩
      have o : om (fun _ => False) (fun q => q = 157) S S' := by rw [e]; exact om_A rfl
      refine ih S' (by omega) (hc.keep o (by simp) (by simp) (by omega) (by omega) (by omega)) ?_ fun S'' t1 o1 => hQ S'' t1 (o.tr o1)
      rw [e]
      exact tabM_set (by omega) (by omega) ht
    refine f_M_compareShort_13 ⟨fun z => absurd z (nI_nlt (by omega) (by omega)), fun _ => ?_⟩
    simp (disch := omega) only [pk_mul, nI_add, nI_1, nI_clamp]
    refine ⟨fun z => step _ ?_, fun z => ⟨fun w => step _ ?_, fun w => ?_⟩⟩
    · rw [nI_leI (by omega) (by omega)] at z
      rw [lc_end (Or.inl z)]; rfl
    · rw [nI_leI (by omega) (by omega)] at w
      rw [lc_end (Or.inr w)]; rfl
    · rw [nI_leI (by omega) (by omega)] at z w
      have t1 := ht (i + 1) (y + m) (by omega) (by omega) (by omega) (by omega) (by omega)
      have t2 := ht i (y + m + 1) (by omega) (by omega) (by omega) (by omega) (by omega)
      have t3 := ht (i + 1) (y + m + 1) (by omega) (by omega) (by omega) (by omega) (by omega)
      have b1 := lc_le (a := gf xs) (b := gf ys) (xe := xe) (ye := ye) (i + 1) (y + m)
      have b2 := lc_le (a := gf xs) (b := gf ys) (xe := xe) (ye := ye) i (y + m + 1)
      have b3 := lc_le (a := gf xs) (b := gf ys) (xe := xe) (ye := ye) (i + 1) (y + m + 1)
      have q1 := lc_d (a := gf xs) (b := gf ys) (xe := xe) (ye := ye) (i := i) (j := y + m) (by omega)
      have q2 := lc_r (a := gf xs) (b := gf ys) (xe := xe) (ye := ye) (i := i) (j := y + m) (by omega)
      have u := lc_eq (a := gf xs) (b := gf ys) (xe := xe) (ye := ye) (i := i) (j := y + m) (by omega) (by omega)
      rw [show 25 * i + 25 + (y + m) = 25 * (i + 1) + (y + m) by omega, show 25 * i + (y + m) + 1 = 25 * i + (y + m + 1) by omega, show 25 * i + 26 + (y + m) = 25 * (i + 1) + (y + m + 1) by omega, t1, t2, t3, nI_1, hc.2.2.2.2.1 i (by omega), hc.2.2.2.2.2.1 (y + m) (by omega)]
      refine ⟨vp_in_nI (by omega) (by omega), vp_in_nI (by omega) (by omega), vp_in_nI (by omega) (by omega), vp_in_nI (by omega) (by omega), fun v => ?_, fun v => ⟨vp_in_nI (by omega) (by omega), ?_⟩⟩
      · rw [if_neg (show ¬ gf xs i = gf ys (y + m) from v)] at u
        rw [nI_leI (by omega) (by omega)]
        refine ⟨fun c => ⟨fun _ => step _ (by rw [u, Nat.max_eq_right c]), fun c2 => absurd (nI_pos' (by omega)) c2⟩, fun c => ⟨fun _ => step _ (by rw [u, Nat.max_eq_left (by omega)]), fun c2 => absurd (nI_pos' (by omega)) c2⟩⟩
      · rw [if_pos (show gf xs i = gf ys (y + m) from v)] at u
        rw [nI_leI (by omega) (by omega), nI_leI (by omega) (by omega), nI_leI (by omega) (by omega)]
        refine ⟨fun c => ⟨fun c2 => step _ ?_, fun c2 => step _ (by rw [u])⟩, fun c => ⟨fun c2 => step _ ?_, fun c2 => step _ (by rw [u])⟩⟩
        · rw [u]; congr 1; omega
        · rw [u]; congr 1; omega
theorem s_M_outer {g : lp_G} {d : Nat} {Q : SS → Prop} {x xe y ye : Nat} {xs ys : List Int32} {pf : Nat → Option Nat} (hx : x ≤ xe) (hxe : xe ≤ xs.length) (hy : y ≤ ye) (hye : ye ≤ ys.length) :
    ∀ (m : Nat) (S : SS), x + m ≤ xe + 1 → cmM S xs ys pf → tabM S (gf xs) (gf ys) x xe y ye (x + m) y → (∀ S', cmM S' xs ys (ovr (shw xs ys x xe y ye) pf) → om (fun _ => False) cs2 S S' → Q S') →
    AtV g um_M_compareShort d Q 3 [(0, .ref (g.2.1 + 151)), (1, .int (nI x)), (2, .int (nI xe)), (3, .int (nI y)), (4, .int (nI ye)), (5, .int (nI (x + m) + (-1)))] [] S := by
  intro m
  induction m with
  | zero =>
    intro S hm hc ht hQ
    have l1 := hc.1
    have l2 := hc.2.1
    refine f_M_compareShort_3 ⟨fun _ => ?_, fun z => absurd (m1_lt (by omega)) z⟩
    exact s_M_way hxe hye 48 x y S pf (by omega) (Nat.le_refl _) hx (Nat.le_refl _) hy hc (fun i j h1 h2 h3 h4 => ht i j h1 h2 h3 h4 (by omega)) hQ
  | succ m ih =>
    intro S hm hc ht hQ
    have l1 := hc.1
    have l2 := hc.2.1
    rw [show x + (m + 1) = (x + m) + 1 by omega, pk_m1]
    refine f_M_compareShort_3 ⟨fun z => absurd z (nI_nlt (by omega) (by omega)), fun _ => ?_⟩
    have k := s_M_inner (g := g) (d := d) (Q := Q) (x := x) (pf := pf) (i := x + m) hxe hy hye (by omega) (by omega) (ye + 1 - y) S (by omega) hc (by
      intro i j h1 h2 h3 h4 h5
      exact ht i j h1 h2 h3 h4 (by omega)) (fun S' t1 o1 => ih S' (by omega) (hc.keep o1 (by simp) (by simp) (by omega) (by omega) (by omega)) t1 fun S'' c2 o2 => hQ S'' c2 ((o1.mo (fun _ h => h) (fun q h => Or.inr h)).tr o2))
    rw [show y + (ye + 1 - y) = ye + 1 by omega, pk_m1] at k
    exact k
theorem s_M_compareShort {g : lp_G} {d : Nat} {S : SS} {x xe y ye : Nat} {xs ys : List Int32} {pf : Nat → Option Nat} (hx : x ≤ xe) (hxe : xe ≤ xs.length) (hy : y ≤ ye) (hye : ye ≤ ys.length) (hc : cmM S xs ys pf) :
    MtV g um_M_compareShort d [.ref (g.2.1 + 151), .int (nI x), .int (nI xe), .int (nI y), .int (nI ye)] S (fun S' => cmM S' xs ys (ovr (shw xs ys x xe y ye) pf) ∧ om (fun _ => False) cs2 S S') := by
  refine f_M_compareShort ?_
  have k := s_M_outer (g := g) (d := d) (Q := fun S' => cmM S' xs ys (ovr (shw xs ys x xe y ye) pf) ∧ om (fun _ => False) cs2 S S') hx hxe hy hye (xe + 1 - x) S (by omega) hc (by
    intro i j h1 h2 h3 h4 h5
    exfalso
    omega) (fun S' c o => ⟨c, o⟩)
  rw [show x + (xe + 1 - x) = xe + 1 by omega, pk_m1] at k
  exact k
