/-! Shortest -/
def mp : Nat → Prop := fun q => 10 ≤ q ∧ q ≤ 34
abbrev gf (l : List Int32) : Nat → Int32 := fun i => l.getD i 0
def tab (S : SS) (a b : Nat → Int32) (x xe y ye i0 j0 : Nat) : Prop := ∀ i j, x ≤ i → i ≤ xe → y ≤ j → j ≤ ye → (i0 < i ∨ (i = i0 ∧ j0 ≤ j)) → S.2 (10 + 1 * i) j = nI (lc a b xe ye i j)
theorem tab_set {S : SS} {a b : Nat → Int32} {x xe y ye i0 j0 : Nat} (h : tab S a b x xe y ye i0 (j0 + 1)) : tab (setA S (10 + 1 * i0) j0 (nI (lc a b xe ye i0 j0))) a b x xe y ye i0 j0 := by
  intro i j h1 h2 h3 h4 h5
  by_cases e : i = i0 ∧ j = j0
  · obtain ⟨rfl, rfl⟩ := e
    exact setA_s
  · rw [setA_o (by omega)]
    exact h i j h1 h2 h3 h4 (by omega)
theorem s_S_inner {g : lp_G} {d : Nat} {Q : SS → Prop} {k1 k2 x xe y ye i : Nat} {xs ys : List Int32} {pf : Nat → Option Nat} (hk1 : isC k1) (hk2 : isR k2) (n1 : ∀ q, cp k1 q → ¬ mp q) (n2 : ¬ mp k2) (hxe : xe ≤ xs.length) (hy : y ≤ ye) (hye : ye ≤ ys.length) (hi : x ≤ i) (hi2 : i ≤ xe) :
    ∀ (m : Nat) (S : SS), y + m ≤ ye + 1 → cm S k1 xs ys pf → rg S k2 x xe y ye → tab S (gf xs) (gf ys) x xe y ye i (y + m) → (∀ S', tab S' (gf xs) (gf ys) x xe y ye i y → off mp S S' → AtV g um_S_countMost (d + 1) Q 5 [(0, .ref (g.2.1 + 8)), (1, .ref (g.2.1 + k1)), (2, .ref (g.2.1 + k2)), (3, .int (nI i + (-1)))] [] S') →
    AtV g um_S_countMost (d + 1) Q 19 [(0, .ref (g.2.1 + 8)), (1, .ref (g.2.1 + k1)), (2, .ref (g.2.1 + k2)), (3, .int (nI i)), (4, .int (nI (y + m) + (-1)))] [] S := by
  intro m
  induction m with
  | zero =>
    intro S hm hc hr ht hQ
    have l1 := hc.1.1
    have l2 := hc.2.1.1
    refine f_S_countMost_19 hk1 hk2 ⟨fun _ => hQ S ht off.re, fun z => absurd ?_ z⟩
    rw [hr.2.2.1]
    exact m1_lt (by omega)
  | succ m ih =>
    intro S hm hc hr ht hQ
    have l1 := hc.1.1
    have l2 := hc.2.1.1
    rw [show y + (m + 1) = (y + m) + 1 by omega, pk_m1]
    have step : ∀ S', S' = setA S (10 + 1 * i) (y + m) (nI (lc (gf xs) (gf ys) xe ye i (y + m))) → AtV g um_S_countMost (d + 1) Q 19 [(0, .ref (g.2.1 + 8)), (1, .ref (g.2.1 + k1)), (2, .ref (g.2.1 + k2)), (3, .int (nI i)), (4, .int (nI (y + m) + (-1)))] [] S' := by
      intro S' e
      have o : off mp S S' := by rw [e]; exact off_A ⟨by omega, by omega⟩
      refine ih S' (by omega) (hc.keep o n1) (hr.keep o n2) ?_ fun S'' t1 o1 => hQ S'' t1 (o.tr o1)
      rw [e]
      exact tab_set ht
    refine f_S_countMost_19 hk1 hk2 ⟨fun z => absurd z ?_, fun _ => ⟨fun z => ?_, fun z => ⟨fun w => ?_, fun w => ?_⟩⟩⟩
    · rw [hr.2.2.1]
      exact nI_nlt (by omega) (by omega)
    · rw [hr.2.1, nI_eq (by omega) (by omega)] at z
      simp (disch := omega) only [nI_clamp]
      refine ⟨vp_in_nI (by omega) (by omega), vp_in_nI (by omega) (by omega), fun S6 e => step S6 ?_⟩
      rw [e, lc_end (Or.inl (by omega))]; rfl
    · rw [hr.2.1, nI_eq (by omega) (by omega)] at z
      rw [hr.2.2.2, nI_eq (by omega) (by omega)] at w
      refine (s_C_areEqual hk1 hc (by omega) (by omega)).mono fun r S' ⟨e1, e2⟩ => ?_
      subst e1
      subst e2
      simp (disch := omega) only [nI_1, nI_clamp]
      have t1 := ht (i + 1) (y + m) (by omega) (by omega) (by omega) (by omega) (by omega)
      have t2 := ht i (y + m + 1) (by omega) (by omega) (by omega) (by omega) (by omega)
      have t3 := ht (i + 1) (y + m + 1) (by omega) (by omega) (by omega) (by omega) (by omega)
      have b1 := lc_le (a := gf xs) (b := gf ys) (xe := xe) (ye := ye) (i + 1) (y + m)
      have b2 := lc_le (a := gf xs) (b := gf ys) (xe := xe) (ye := ye) i (y + m + 1)
      refine ⟨fun v => ⟨vp_in_nI (by omega) (by omega), vp_in_nI (by omega) (by omega), vp_in_nI (by omega) (by omega), vp_in_nI (by omega) (by omega), vp_in_nI (by omega) (by omega), vp_in_nI (by omega) (by omega), fun S6 e => step S6 ?_⟩, fun v => ⟨vp_in_nI (by omega) (by omega), vp_in_nI (by omega) (by omega), vp_in_nI (by omega) (by omega), vp_in_nI (by omega) (by omega), fun S6 e => step S6 ?_⟩⟩
      · rw [b2i_0, decide_eq_false_iff_not] at v
        rw [e, t1, t2, lc_eq (i := i) (j := y + m) (by omega) (by omega), if_neg (show ¬ gf xs i = gf ys (y + m) from v)]
        congr 1
        by_cases c : lc (gf xs) (gf ys) xe ye (i + 1) (y + m) < lc (gf xs) (gf ys) xe ye i (y + m + 1)
        · rw [if_pos (nI_lt c (by omega)), Nat.max_eq_right (by omega)]
        · rw [if_neg (nI_nlt (by omega) (by omega)), Nat.max_eq_left (by omega)]
      · rw [b2i_1, decide_eq_true_iff] at v
        rw [e, t3, nI_1, lc_eq (i := i) (j := y + m) (by omega) (by omega), if_pos (show gf xs i = gf ys (y + m) from v)]
    · rw [hr.2.2.2, nI_eq (by omega) (by omega)] at w
      simp (disch := omega) only [nI_clamp]
      refine ⟨vp_in_nI (by omega) (by omega), vp_in_nI (by omega) (by omega), fun S6 e => step S6 ?_⟩
      rw [e, lc_end (Or.inr (by omega))]; rfl
theorem s_S_outer {g : lp_G} {d : Nat} {Q : SS → Prop} {k1 k2 x xe y ye : Nat} {xs ys : List Int32} {pf : Nat → Option Nat} (hk1 : isC k1) (hk2 : isR k2) (n1 : ∀ q, cp k1 q → ¬ mp q) (n2 : ¬ mp k2) (hxe : xe ≤ xs.length) (hy : y ≤ ye) (hye : ye ≤ ys.length) :
    ∀ (m : Nat) (S : SS), x + m ≤ xe + 1 → cm S k1 xs ys pf → rg S k2 x xe y ye → tab S (gf xs) (gf ys) x xe y ye (x + m) y → (∀ S', tab S' (gf xs) (gf ys) x xe y ye x y → off mp S S' → Q S') →
    AtV g um_S_countMost (d + 1) Q 5 [(0, .ref (g.2.1 + 8)), (1, .ref (g.2.1 + k1)), (2, .ref (g.2.1 + k2)), (3, .int (nI (x + m) + (-1)))] [] S := by
  intro m
  induction m with
  | zero =>
    intro S hm hc hr ht hQ
    have l1 := hc.1.1
    refine f_S_countMost_5 hk1 hk2 ⟨fun _ => hQ S ht off.re, fun z => absurd ?_ z⟩
    rw [hr.1]
    exact m1_lt (by omega)
  | succ m ih =>
    intro S hm hc hr ht hQ
    have l1 := hc.1.1
    have l2 := hc.2.1.1
    rw [show x + (m + 1) = (x + m) + 1 by omega, pk_m1]
    refine f_S_countMost_5 hk1 hk2 ⟨fun z => absurd z ?_, fun _ => ?_⟩
    · rw [hr.1]
      exact nI_nlt (by omega) (by omega)
    · rw [hr.2.2.2, ← pk_m1 ye, show ye + 1 = y + (ye + 1 - y) by omega]
      refine s_S_inner hk1 hk2 n1 n2 hxe hy hye (by omega) (by omega) _ S (by omega) hc hr ?_ fun S' t1 o1 => ?_
      · intro i j h1 h2 h3 h4 h5
        exact ht i j h1 h2 h3 h4 (by omega)
      · exact ih S' (by omega) (hc.keep o1 n1) (hr.keep o1 n2) t1 fun S'' t2 o2 => hQ S'' t2 (o1.tr o2)
theorem s_S_countMost {g : lp_G} {d : Nat} {S : SS} {k1 k2 x xe y ye : Nat} {xs ys : List Int32} {pf : Nat → Option Nat} (hk1 : isC k1) (hk2 : isR k2) (n1 : ∀ q, cp k1 q → ¬ mp q) (n2 : ¬ mp k2) (hx : x ≤ xe) (hxe : xe ≤ xs.length) (hy : y ≤ ye) (hye : ye ≤ ys.length) (hc : cm S k1 xs ys pf) (hr : rg S k2 x xe y ye) :
    MtV g um_S_countMost (d + 1) [.ref (g.2.1 + 8), .ref (g.2.1 + k1), .ref (g.2.1 + k2)] S (fun S' => off mp S S' ∧ ∀ i j, x ≤ i → i ≤ xe → y ≤ j → j ≤ ye → S'.2 (10 + 1 * i) j = nI (lc (gf xs) (gf ys) xe ye i j)) := by
  refine f_S_countMost hk1 hk2 ?_
  rw [hr.2.1, ← pk_m1, show xe + 1 = x + (xe + 1 - x) by omega]
  refine s_S_outer hk1 hk2 n1 n2 hxe hy hye _ S (by omega) hc hr ?_ fun S' t o => ⟨o, fun i j h1 h2 h3 h4 => t i j h1 h2 h3 h4 (by omega)⟩
  intro i j h1 h2 h3 h4 h5
  exfalso
  omega
theorem s_S_way {g : lp_G} {d : Nat} {Q : SS → Prop} {k1 k2 x xe y ye : Nat} {xs ys : List Int32} (hk1 : isC k1) (hk2 : isR k2) (n2 : ¬ pp k1 k2) (n3 : ∀ q, mp q → ¬ pp k1 q) (hxe : xe ≤ xs.length) (hye : ye ≤ ys.length) :
    ∀ (f i j : Nat) (S : SS) (pf : Nat → Option Nat), (xe - i) + (ye - j) ≤ f → x ≤ i → i ≤ xe → y ≤ j → j ≤ ye → cm S k1 xs ys pf → rg S k2 x xe y ye → (∀ i j, x ≤ i → i ≤ xe → y ≤ j → j ≤ ye → S.2 (10 + 1 * i) j = nI (lc (gf xs) (gf ys) xe ye i j)) → (∀ q, i ≤ q → q < xe → pf q = none) →
    (∀ S', cm S' k1 xs ys (ovr (wkF (gf xs) (gf ys) xe ye f i j) pf) → off (pp k1) S S' → Q S') → AtV g um_S_matchRange (d + 1) Q 17 [(0, .ref (g.2.1 + 8)), (1, .ref (g.2.1 + k1)), (2, .ref (g.2.1 + k2)), (3, .int (nI i)), (4, .int (nI j))] [] S := by
  intro f
  induction f with
  | zero =>
    intro i j S pf hf h1 h2 h3 h4 hc hr ht hn hQ
    have l1 := hc.1.1
    refine f_S_matchRange_17 hk1 hk2 ⟨fun _ => hQ S hc off.re, fun z => absurd ?_ z⟩
    rw [hr.2.1]
    exact nI_le (by omega) (by omega)
  | succ f ih =>
    intro i j S pf hf h1 h2 h3 h4 hc hr ht hn hQ
    have l1 := hc.1.1
    have l2 := hc.2.1.1
    by_cases hi : i < xe
    · by_cases hj : j < ye
      · have hu : wkF (gf xs) (gf ys) xe ye (f + 1) i j = (if gf xs i = gf ys j then upf (wkF (gf xs) (gf ys) xe ye f (i + 1) (j + 1)) i j else if lc (gf xs) (gf ys) xe ye (i + 1) j < lc (gf xs) (gf ys) xe ye i (j + 1) then wkF (gf xs) (gf ys) xe ye f i (j + 1) else wkF (gf xs) (gf ys) xe ye f (i + 1) j) := by
          rw [wkF, if_pos ⟨hi, hj⟩]
        refine f_S_matchRange_17 hk1 hk2 ⟨fun z => absurd z (by rw [hr.2.1]; exact nI_ge hi (by omega)), fun _ => ⟨fun z => absurd z (by rw [hr.2.2.2]; exact nI_ge hj (by omega)), fun _ => ?_⟩⟩
        refine (s_C_areEqual hk1 hc (by omega) (by omega)).mono fun r S' ⟨e1, e2⟩ => ?_
        subst e1
        subst e2
        simp (disch := omega) only [nI_1, nI_clamp]
        have b1 := lc_le (a := gf xs) (b := gf ys) (xe := xe) (ye := ye) (i + 1) j
        have b2 := lc_le (a := gf xs) (b := gf ys) (xe := xe) (ye := ye) i (j + 1)
        refine ⟨fun v => ⟨vp_in_nI (by omega) (by omega), vp_in_nI (by omega) (by omega), vp_in_nI (by omega) (by omega), vp_in_nI (by omega) (by omega), ?_⟩, fun v => ?_⟩
        · rw [b2i_0, decide_eq_false_iff_not] at v
          rw [if_neg v] at hu
          rw [ht (i + 1) j (by omega) (by omega) (by omega) (by omega), ht i (j + 1) (by omega) (by omega) (by omega) (by omega), nI_ltI (by omega) (by omega)]
          refine ⟨fun c => ih i (j + 1) S' pf (by omega) h1 h2 (by omega) (by omega) hc hr ht hn fun S'' a1 a2 => hQ S'' ?_ a2, fun c => ih (i + 1) j S' pf (by omega) (by omega) (by omega) h3 h4 hc hr ht (fun q a1 a2 => hn q (by omega) a2) fun S'' a1 a2 => hQ S'' ?_ a2⟩
          · rw [hu, if_pos c]; exact a1
          · rw [hu, if_neg c]; exact a1
        · rw [b2i_1, decide_eq_true_iff] at v
          rw [if_pos v] at hu
          refine (s_C_pair hk1 hc (by omega) (hn i (by omega) hi)).mono fun S1 ⟨a1, o1⟩ => ?_
          refine ih (i + 1) (j + 1) S1 _ (by omega) (by omega) (by omega) (by omega) (by omega) a1 (hr.keep o1 n2) (fun i j c1 c2 c3 c4 => by rw [(o1 (10 + 1 * i) (n3 _ ⟨by omega, by omega⟩)).2]; exact ht i j c1 c2 c3 c4) (fun q c1 c2 => by simp only [upf, if_neg (show q ≠ i by omega)]; exact hn q (by omega) c2) fun S2 c1 o2 => hQ S2 ?_ (o1.tr o2)
          rw [hu]
          rw [ovr_up] at c1
          · exact c1
          · cases e : wkF (gf xs) (gf ys) xe ye f (i + 1) (j + 1) i with
            | none => rfl
            | some r =>
              have := wk_in _ _ _ _ _ e
              omega
      · refine f_S_matchRange_17 hk1 hk2 ⟨fun _ => hQ S ?_ off.re, fun _ => ⟨fun _ => hQ S ?_ off.re, fun z => absurd (by rw [hr.2.2.2]; exact nI_le (by omega) (by omega)) z⟩⟩ <;>
        · rw [wkF, if_neg (by omega)]; exact hc
    · refine f_S_matchRange_17 hk1 hk2 ⟨fun _ => hQ S ?_ off.re, fun z => absurd (by rw [hr.2.1]; exact nI_le (by omega) (by omega)) z⟩
      rw [wkF, if_neg (by omega)]; exact hc
/-- what the shortest way matches in a range of x and one of y -/
def shw (xs ys : List Int32) (x xe y ye : Nat) : Nat → Option Nat := wkF (gf xs) (gf ys) xe ye 48 x y
theorem s_S_matchRange {g : lp_G} {d : Nat} {S : SS} {k1 k2 x xe y ye : Nat} {xs ys : List Int32} {pf : Nat → Option Nat} (hk1 : isC k1) (hk2 : isR k2) (n1 : ∀ q, cp k1 q → ¬ mp q) (n2 : ¬ mp k2) (n3 : ¬ cp k1 k2) (hx : x ≤ xe) (hxe : xe ≤ xs.length) (hy : y ≤ ye) (hye : ye ≤ ys.length) (hc : cm S k1 xs ys pf) (hr : rg S k2 x xe y ye) (hn : ∀ q, x ≤ q → q < xe → pf q = none) :
    MtV g um_S_matchRange (d + 2) [.ref (g.2.1 + 8), .ref (g.2.1 + k1), .ref (g.2.1 + k2)] S (fun S' => cm S' k1 xs ys (ovr (shw xs ys x xe y ye) pf) ∧ off (fun q => mp q ∨ pp k1 q) S S') := by
  have l1 := hc.1.1
  have l2 := hc.2.1.1
  have n4 : ¬ pp k1 k2 := fun z => n3 (by unfold pp at z; unfold cp; omega)
  have n5 : ∀ q, mp q → ¬ pp k1 q := fun q h z => n1 q (by unfold pp at z; unfold cp; omega) h
  refine f_S_matchRange hk1 hk2 ?_
  refine (s_S_countMost hk1 hk2 n1 n2 hx hxe hy hye hc hr).mono fun S1 ⟨o1, t1⟩ => ?_
  have hr1 := hr.keep o1 n2
  rw [hr1.1, hr1.2.2.1]
  exact s_S_way hk1 hk2 n4 n5 hxe hye 48 x y S1 pf (by omega) (Nat.le_refl _) hx (Nat.le_refl _) hy (hc.keep o1 n1) hr1 t1 hn fun S' c1 o2 => ⟨c1, (o1.mo (fun q h => Or.inl h)).tr (o2.mo (fun q h => Or.inr h))⟩
theorem s_S_matchTexts {g : lp_G} {d : Nat} {S : SS} {k1 : Nat} {xs ys : List Int32} (hk1 : isC k1) (n1 : ∀ q, cp k1 q → ¬ (8 ≤ q ∧ q ≤ 35)) (hc : cm S k1 xs ys (fun _ => none)) :
    MtV g um_S_matchTexts (d + 3) [.ref (g.2.1 + 8), .ref (g.2.1 + k1)] S (fun S' => cm S' k1 xs ys (shw xs ys 0 xs.length 0 ys.length) ∧ off (fun q => (8 ≤ q ∧ q ≤ 35) ∨ pp k1 q) S S') := by
  refine f_S_matchTexts hk1 ?_
  rw [hc.1.2.1, hc.2.1.2.1]
  refine (s_R_span (a := 0) (c := 0) (show isR 35 from sh_35)).mono fun S1 ⟨a1, o1⟩ => ?_
  refine (s_S_matchRange hk1 (show isR 35 from sh_35) (fun q h z => n1 q h (by unfold mp at z; omega)) (by unfold mp; omega) (fun h => n1 _ h (by omega)) (Nat.zero_le _) (Nat.le_refl _) (Nat.zero_le _) (Nat.le_refl _) (hc.keep o1 (fun q h z => n1 q h (by omega))) a1 (fun _ _ _ => rfl)).mono fun S2 ⟨a2, o2⟩ => ⟨?_, (o1.mo (fun q h => Or.inl (by omega))).tr (o2.mo (fun q h => h.imp (fun z => by unfold mp at z; omega) id))⟩
  rw [show ovr (shw xs ys 0 xs.length 0 ys.length) (fun _ => none) = shw xs ys 0 xs.length 0 ys.length by
    funext q
    simp only [ovr]
    cases shw xs ys 0 xs.length 0 ys.length q <;> rfl] at a2
  exact a2
