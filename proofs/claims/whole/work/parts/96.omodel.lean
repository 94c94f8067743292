/-! STANDING OUT: the reference -/
theorem cmM_set {S : SS} {xs ys : List Int32} {pf : Nat → Option Nat} {i j : Nat} (h : cmM S xs ys pf) : cmM (setA S 156 i (nI j)) xs ys (upf pf i j) := by
  obtain ⟨h1, h2, h3, h4, h5, h6, h7⟩ := h
  refine ⟨h1, h2, h3, h4, fun k hk => by rw [setA_o (by omega)]; exact h5 k hk, fun k hk => by rw [setA_o (by omega)]; exact h6 k hk, fun k hk => ?_⟩
  unfold upf
  by_cases e : k = i
  · subst e; rw [setA_s, if_pos rfl]; rfl
  · rw [setA_o (by omega), if_neg e]; exact h7 k hk
def z1' : Nat → Prop := fun _ => False
def z56 : Nat → Prop := fun q => q = 156
section MO
variable {g : lp_G} {xs ys : List Int32}
theorem s_M_so6 {d : Nat} {Q : SS → Prop} {a1 b1 : Nat} (ha : a1 ≤ xs.length) (hb : b1 ≤ ys.length) : ∀ (f i j : Nat) (S : SS) (pf : Nat → Option Nat), min (a1 - i) (b1 - j) = f → i ≤ a1 → j ≤ b1 → cmM S xs ys pf → (∀ S', cmM S' xs ys (fun q => if i ≤ q ∧ q < i + tbk (gf xs) (gf ys) f i j then some (j + (q - i)) else pf q) → om z1' z56 S S' → AtV g um_M_standOut (d + 1) Q 61 [(0, .ref (g.2.1 + 151)), (5, .int (nI (i + tbk (gf xs) (gf ys) f i j))), (6, .int (nI (j + tbk (gf xs) (gf ys) f i j))), (7, .int (nI a1)), (8, .int (nI b1))] [] S') → AtV g um_M_standOut (d + 1) Q 6 [(0, .ref (g.2.1 + 151)), (2, .int (nI a1)), (4, .int (nI b1)), (5, .int (nI i)), (6, .int (nI j))] [] S := by
  have p0 : ∀ {i j : Nat} {pf : Nat → Option Nat}, (fun q => if i ≤ q ∧ q < i + 0 then some (j + (q - i)) else pf q) = pf := by
    intro i j pf
    funext q
    rw [if_neg (by omega)]
  intro f
  induction f with
  | zero =>
    intro i j S pf hf hi hj hm hQ
    have l1 := hm.1
    have l2 := hm.2.1
    rw [show tbk (gf xs) (gf ys) 0 i j = 0 from rfl, p0] at hQ
    have fin := hQ S hm om.re
    refine f_M_standOut_6 ?_
    rw [nI_leI (by omega) (by omega), nI_leI (by omega) (by omega)]
    exact ⟨fun _ => fin, fun z => ⟨fun _ => fin, fun y => by omega⟩⟩
  | succ f ih =>
    intro i j S pf hf hi hj hm hQ
    have l1 := hm.1
    have l2 := hm.2.1
    refine f_M_standOut_6 ?_
    rw [nI_leI (by omega) (by omega), nI_leI (by omega) (by omega), nI_clamp (by omega), nI_clamp (by omega), hm.2.2.2.2.1 i (by omega), hm.2.2.2.2.2.1 j (by omega), nI_1, nI_1]
    rw [tbk] at hQ
    refine ⟨fun z => by omega, fun z => ⟨fun y => by omega, fun y => ⟨vp_in_nI (by omega) (by omega), vp_in_nI (by omega) (by omega), fun w => ?_, fun w => ⟨vp_in_nI (by omega) (by omega), ?_⟩⟩⟩⟩
    · rw [if_neg (show ¬ gf xs i = gf ys j from w), p0] at hQ
      exact hQ S hm om.re
    · rw [if_pos (show gf xs i = gf ys j from w)] at hQ
      rintro S7 rfl
      have o : om z1' z56 S (setA S 156 i (nI j)) := om_A rfl
      refine ih (i + 1) (j + 1) _ _ (by omega) (by omega) (by omega) (cmM_set hm) fun S' b1' b2' => ?_
      have := hQ S' (by
        rw [show (fun q => if i ≤ q ∧ q < i + (tbk (gf xs) (gf ys) f (i + 1) (j + 1) + 1) then some (j + (q - i)) else pf q) = fun q => if i + 1 ≤ q ∧ q < i + 1 + tbk (gf xs) (gf ys) f (i + 1) (j + 1) then some (j + 1 + (q - (i + 1))) else upf pf i j q by
          funext q
          unfold upf
          by_cases c1 : q = i
          · subst c1
            rw [if_pos (by omega), if_neg (by omega), if_pos rfl]
            congr 1
            omega
          · by_cases c2 : i + 1 ≤ q ∧ q < i + 1 + tbk (gf xs) (gf ys) f (i + 1) (j + 1)
            · rw [if_pos c2, if_pos (by omega)]
              congr 1
              omega
            · rw [if_neg c2, if_neg (by omega), if_neg c1]]
        exact b1') (o.tr b2')
      rw [show i + (tbk (gf xs) (gf ys) f (i + 1) (j + 1) + 1) = i + 1 + tbk (gf xs) (gf ys) f (i + 1) (j + 1) by omega, show j + (tbk (gf xs) (gf ys) f (i + 1) (j + 1) + 1) = j + 1 + tbk (gf xs) (gf ys) f (i + 1) (j + 1) by omega] at this
      exact this
/-- what comes behind the equal end -/
def soK (g : lp_G) (d : Nat) (Q : SS → Prop) (i p j q : Nat) (S : SS) : Prop := MtI g um_M_findRanks d [.ref (g.2.1 + 151), .int (nI i), .int (nI p), .int (nI j), .int (nI q)] S (fun r10 S9 => (¬ r10 = 0 → AtV g um_M_standOut (d + 1) Q 160 [(0, .ref (g.2.1 + 151)), (5, .int (nI i)), (6, .int (nI j)), (9, .int r10), (10, .int (nI p)), (11, .int (nI q)), (12, .int (nI p - 1))] [] S9) ∧ (r10 = 0 → MtV g um_M_compareShort d [.ref (g.2.1 + 151), .int (nI i), .int (nI p), .int (nI j), .int (nI q)] S9 (fun S12 => Q S12)))
theorem s_M_so61 {d : Nat} {Q : SS → Prop} {i j : Nat} : ∀ (f p q : Nat) (S : SS) (pf : Nat → Option Nat), p ≤ xs.length → q ≤ ys.length → min (p - i) (q - j) = f → i ≤ p → j ≤ q → cmM S xs ys pf → (∀ S', cmM S' xs ys (edp pf p q (tek (gf xs) (gf ys) f p q)) → om z1' z56 S S' → soK g d Q i (p - tek (gf xs) (gf ys) f p q) j (q - tek (gf xs) (gf ys) f p q) S') → AtV g um_M_standOut (d + 1) Q 61 [(0, .ref (g.2.1 + 151)), (5, .int (nI i)), (6, .int (nI j)), (7, .int (nI p)), (8, .int (nI q))] [] S := by
  intro f
  induction f with
  | zero =>
    intro p q S pf ha hb hf hi hj hm hQ
    have l1 := hm.1
    have l2 := hm.2.1
    rw [show tek (gf xs) (gf ys) 0 p q = 0 from rfl, edp_0] at hQ
    have fin := hQ S hm om.re
    refine f_M_standOut_61 ?_
    rw [nI_leI (by omega) (by omega), nI_leI (by omega) (by omega)]
    exact ⟨fun _ => fin, fun z => ⟨fun _ => fin, fun y => by omega⟩⟩
  | succ f ih =>
    intro p q S pf ha hb hf hi hj hm hQ
    have l1 := hm.1
    have l2 := hm.2.1
    have tl := tek_le (gf xs) (gf ys) f (p - 1) (q - 1)
    rw [tek] at hQ
    refine f_M_standOut_61 ?_
    rw [nI_leI (by omega) (by omega), nI_leI (by omega) (by omega), sb_m1 (show 0 < p by omega), sb_m1 (show 0 < q by omega)]
    refine ⟨fun z => by omega, fun z => ⟨fun y => by omega, fun y => ?_⟩⟩
    have e1 : nI p - 1 = nI (p - 1) := pk_sub (b := 1) (by omega)
    have e2 : nI q - 1 = nI (q - 1) := pk_sub (b := 1) (by omega)
    refine ⟨by rw [e1]; exact vp_in_nI (by omega) (by omega), by rw [e2]; exact vp_in_nI (by omega) (by omega), ?_⟩
    rw [show (nI p - 1).toNatClampNeg = p - 1 by rw [e1, nI_clamp (by omega)], show (nI q - 1).toNatClampNeg = q - 1 by rw [e2, nI_clamp (by omega)], hm.2.2.2.2.1 (p - 1) (by omega), hm.2.2.2.2.2.1 (q - 1) (by omega), nI_clamp (by omega)]
    refine ⟨fun w => ?_, fun w => ⟨vp_in_nI (by omega) (by omega), ?_⟩⟩
    · rw [if_neg (show ¬ gf xs (p - 1) = gf ys (q - 1) from w), edp_0] at hQ
      exact hQ S hm om.re
    · rw [if_pos (show gf xs (p - 1) = gf ys (q - 1) from w)] at hQ
      rintro S29 rfl
      have o : om z1' z56 S (setA S 156 (p - 1) (nI (q - 1))) := om_A rfl
      refine ih (p - 1) (q - 1) _ _ (by omega) (by omega) (by omega) (by omega) (by omega) (cmM_set hm) fun S' b1 b2 => ?_
      have := hQ S' (by rw [edp_s (by omega) (by omega)]; exact b1) (o.tr b2)
      rw [show p - (tek (gf xs) (gf ys) f (p - 1) (q - 1) + 1) = p - 1 - tek (gf xs) (gf ys) f (p - 1) (q - 1) by omega, show q - (tek (gf xs) (gf ys) f (p - 1) (q - 1) + 1) = q - 1 - tek (gf xs) (gf ys) f (p - 1) (q - 1) by omega] at this
      exact this
theorem s_M_par55 {d : Nat} {Q : Int32 → SS → Prop} {S : SS} {pf : Nat → Option Nat} {k j q h : Nat} (hm : cmM S xs ys pf) (hk : k < xs.length) (hjq : j ≤ q) (hq : q ≤ ys.length) (hh : h ≤ 24) (hQ : Q (if h = 1 ∧ ocn (gf ys) (gf xs k) j (q - j) = 1 then em (ola (gf ys) (gf xs k) j (q - j)) else -1) S) : ∀ (m n : Nat), q - j - n = m → n ≤ q - j → AtI g um_M_partner d Q 55 [(0, .ref (g.2.1 + 151)), (1, .int (nI k)), (5, .int (nI q)), (6, .int (nI h)), (7, .int (nI (ocn (gf ys) (gf xs k) j n))), (8, .int (em (ola (gf ys) (gf xs k) j n))), (9, .int (nI (j + n)))] [] S := by
  have l1 := hm.1
  have l2 := hm.2.1
  have oc : ∀ n, ocn (gf ys) (gf xs k) j n ≤ n := by
    intro n
    induction n with
    | zero => exact Nat.le_refl _
    | succ n ih => rw [ocn]; split <;> omega
  intro m
  induction m with
  | zero =>
    intro n hm' hn
    have en' : n = q - j := by omega
    subst en'
    have := oc (q - j)
    refine f_M_partner_55 ⟨fun _ => ?_, fun z => absurd (nI_le (by omega) (by omega)) z⟩
    rw [show (1 : Int32) = nI 1 from rfl, nI_eq (by omega) (by omega), nI_eq (by omega) (by omega)]
    refine ⟨fun z => ?_, fun z => ⟨fun y => ?_, fun y => ?_⟩⟩
    · rw [if_neg (fun w => z w.1)] at hQ; exact hQ
    · rw [if_neg (fun w => y w.2)] at hQ; exact hQ
    · rw [if_pos ⟨z, y⟩] at hQ; exact hQ
  | succ m ih =>
    intro n hm' hn
    have nx := ih (n + 1) (by omega) (by omega)
    have v1 : vp_in (nI (j + n)) 24 := vp_in_nI (by omega) (by omega)
    have v2 : vp_in (nI k) 24 := vp_in_nI (by omega) (by omega)
    rw [ocn, ola] at nx
    refine f_M_partner_55 ⟨fun z => absurd z (nI_ge (by omega) (by omega)), fun _ => ⟨v1, v2, ?_⟩⟩
    rw [nI_clamp (by omega), nI_clamp (by omega), hm.2.2.2.2.1 k hk, hm.2.2.2.2.2.1 (j + n) (by omega), nI_1, nI_1]
    refine ⟨fun z => ⟨v1, v2, ?_⟩, fun z => ⟨v1, v2, ?_⟩⟩
    · rw [if_neg (show ¬ gf ys (j + n) = gf xs k from z), if_neg (show ¬ gf ys (j + n) = gf xs k from z)] at nx
      exact nx
    · rw [if_pos (show gf ys (j + n) = gf xs k from z), if_pos (show gf ys (j + n) = gf xs k from z)] at nx
      exact nx
theorem s_M_par6 {d : Nat} {Q : Int32 → SS → Prop} {S : SS} {pf : Nat → Option Nat} {k i p j q : Nat} (hm : cmM S xs ys pf) (hk : k < xs.length) (hip : i ≤ p) (hp : p ≤ xs.length) (hjq : j ≤ q) (hq : q ≤ ys.length) (hQ : Q (if ocn (gf xs) (gf xs k) i (p - i) = 1 ∧ ocn (gf ys) (gf xs k) j (q - j) = 1 then em (ola (gf ys) (gf xs k) j (q - j)) else -1) S) : ∀ (m n : Nat), p - i - n = m → n ≤ p - i → AtI g um_M_partner d Q 6 [(0, .ref (g.2.1 + 151)), (1, .int (nI k)), (3, .int (nI p)), (4, .int (nI j)), (5, .int (nI q)), (6, .int (nI (ocn (gf xs) (gf xs k) i n))), (7, .int (nI (i + n)))] [] S := by
  have l1 := hm.1
  have l2 := hm.2.1
  have oc : ∀ n, ocn (gf xs) (gf xs k) i n ≤ n := by
    intro n
    induction n with
    | zero => exact Nat.le_refl _
    | succ n ih => rw [ocn]; split <;> omega
  intro m
  induction m with
  | zero =>
    intro n hm' hn
    have en' : n = p - i := by omega
    subst en'
    have := oc (p - i)
    exact f_M_partner_6 ⟨fun _ => s_M_par55 hm hk hjq hq (by omega) hQ _ 0 rfl (Nat.zero_le _), fun z => absurd (nI_le (by omega) (by omega)) z⟩
  | succ m ih =>
    intro n hm' hn
    have nx := ih (n + 1) (by omega) (by omega)
    rw [ocn] at nx
    refine f_M_partner_6 ⟨fun z => absurd z (nI_ge (by omega) (by omega)), fun _ => ⟨vp_in_nI (by omega) (by omega), vp_in_nI (by omega) (by omega), ?_⟩⟩
    rw [nI_clamp (by omega), nI_clamp (by omega), hm.2.2.2.2.1 k hk, hm.2.2.2.2.1 (i + n) (by omega), nI_1, nI_1]
    refine ⟨fun z => ?_, fun z => ?_⟩
    · rw [if_neg (show ¬ gf xs (i + n) = gf xs k from z)] at nx
      exact nx
    · rw [if_pos (show gf xs (i + n) = gf xs k from z)] at nx
      exact nx
theorem s_M_partner {d : Nat} {S : SS} {pf : Nat → Option Nat} {k i p j q : Nat} (hm : cmM S xs ys pf) (hik : i ≤ k) (hkp : k < p) (hp : p ≤ xs.length) (hjq : j ≤ q) (hq : q ≤ ys.length) : MtI g um_M_partner d [.ref (g.2.1 + 151), .int (nI k), .int (nI i), .int (nI p), .int (nI j), .int (nI q)] S (fun r S' => S' = S ∧ r = em (pqf (gf xs) (gf ys) i p j q k)) := by
  refine f_M_partner (s_M_par6 hm (by omega) (by omega) hp hjq hq ⟨rfl, ?_⟩ _ 0 rfl (Nat.zero_le _))
  obtain ⟨o0, o1, o2⟩ := ocn_sp (gf xs) (gf xs k) i (p - i)
  obtain ⟨b0, b1, b2⟩ := ocn_sp (gf ys) (gf xs k) j (q - j)
  unfold pqf onl
  by_cases c2 : ocn (gf ys) (gf xs k) j (q - j) = 1
  · rw [if_pos c2]
    obtain ⟨r, r1, _⟩ := b1 c2
    rw [r1]
    dsimp only
    by_cases c1 : ocn (gf xs) (gf xs k) i (p - i) = 1
    · rw [if_pos c1, if_pos ⟨c1, c2⟩]
      obtain ⟨k', k1, k2, k3, k4, k5⟩ := o1 c1
      have := k5 k hik (by omega) rfl
      rw [k1, this, if_pos rfl]
    · rw [if_neg c1, if_neg (fun z => c1 z.1), if_neg (fun z => by cases z)]
      rfl
  · rw [if_neg c2, if_neg (fun z => c2 z.2)]
    rfl
end MO
