/-! STANDING OUT: the class goes through one range -/
theorem ic2 : isC 2 := ⟨sh_2, sh_3, sh_4, sh_5, sh_6, sh_7⟩
def rgG (S : SS) (k : Nat) (r : RG) : Prop := rg S k (gl r) (gA r) (gb r) (gB r)
section OC
variable {g : lp_G} {xs ys : List Int32} {c : Nat}
def bq (c : Nat) : Nat → Prop := fun q => pp 2 q ∨ q = 41 + 1 * c
theorem s_O_begin_loop {d : Nat} {Q : SS → Prop} (hc : c < 49) {a1 b1 : Nat} (ha : a1 ≤ xs.length) (hb : b1 ≤ ys.length) : ∀ (f i j : Nat) (S : SS) (pf : Nat → Option Nat), min (a1 - i) (b1 - j) = f → i ≤ a1 → j ≤ b1 → cm S 2 xs ys pf → rg S (41 + 1 * c) i a1 j b1 → (∀ q, i ≤ q → q < a1 → pf q = none) → (∀ S', cm S' 2 xs ys (fun q => if i ≤ q ∧ q < i + tbk (gf xs) (gf ys) f i j then some (j + (q - i)) else pf q) → rg S' (41 + 1 * c) (i + tbk (gf xs) (gf ys) f i j) a1 (j + tbk (gf xs) (gf ys) f i j) b1 → off (bq c) S S' → Q S') → AtV g um_O_matchBeginning (d + 1) Q 0 [(1, .ref (g.2.1 + 2)), (2, .ref (g.2.1 + (41 + 1 * c)))] [] S := by
  have hk2 : isR (41 + 1 * c) := sr_37 c hc
  have p0 : ∀ {i j : Nat} {pf : Nat → Option Nat}, (fun q => if i ≤ q ∧ q < i + 0 then some (j + (q - i)) else pf q) = pf := by
    intro i j pf
    funext q
    rw [if_neg (by omega)]
  intro f
  induction f with
  | zero =>
    intro i j S pf hf hi hj hm hr hn hQ
    have l1 := hm.1.1
    have l2 := hm.2.1.1
    rw [show tbk (gf xs) (gf ys) 0 i j = 0 from rfl, p0] at hQ
    have fin := hQ S hm hr off.re
    refine f_O_matchBeginning_0 ic2 hk2 ?_
    rw [hr.1, hr.2.1, hr.2.2.1, hr.2.2.2, nI_leI (by omega) (by omega), nI_leI (by omega) (by omega)]
    exact ⟨fun _ => fin, fun z => ⟨fun _ => fin, fun y => by omega⟩⟩
  | succ f ih =>
    intro i j S pf hf hi hj hm hr hn hQ
    have l1 := hm.1.1
    have l2 := hm.2.1.1
    refine f_O_matchBeginning_0 ic2 hk2 ?_
    rw [hr.1, hr.2.1, hr.2.2.1, hr.2.2.2, nI_leI (by omega) (by omega), nI_leI (by omega) (by omega)]
    refine ⟨fun z => by omega, fun z => ⟨fun y => by omega, fun y => ?_⟩⟩
    refine (s_C_areEqual ic2 hm (by omega) (by omega)).mono fun r S1 ⟨e1, e2⟩ => ?_
    subst e1
    subst e2
    rw [tbk] at hQ
    refine ⟨fun w => ?_, fun w => ?_⟩
    · rw [b2i_0, decide_eq_false_iff_not] at w
      rw [if_neg (show ¬ gf xs i = gf ys j from w), p0] at hQ
      exact hQ S1 hm hr off.re
    · rw [b2i_1, decide_eq_true_iff] at w
      rw [if_pos (show gf xs i = gf ys j from w)] at hQ
      rw [hr.1, hr.2.2.1]
      refine (s_C_pair ic2 hm (by omega) (hn i (by omega) (by omega))).mono fun S2 ⟨a2, o2⟩ => ?_
      have hr2 := hr.keep o2 (by unfold pp; omega)
      rintro S8 rfl S9 rfl
      rw [setI_o (by omega), hr2.1, hr2.2.2.1, nI_1, nI_1]
      have o9 : off (fun q => q = 41 + 1 * c) S2 (setI (setI S2 (41 + 1 * c) 0 (nI (i + 1))) (41 + 1 * c) 2 (nI (j + 1))) := (off_I (p := fun q => q = 41 + 1 * c) rfl).tr (off_I rfl)
      have oo := (o2.mo (p' := bq c) fun q z => Or.inl z).tr (o9.mo fun q z => Or.inr z)
      refine ih (i + 1) (j + 1) _ _ (by omega) (by omega) (by omega) (a2.keep o9 (fun q z => by unfold cp at z; omega)) ⟨?_, ?_, ?_, ?_⟩ (fun q h1 h2 => ?_) fun S' b1' b2' b3' => hQ S' ?_ ?_ (oo.tr b3')
      · rw [setI_o (by omega), setI_s]
      · rw [setI_o (by omega), setI_o (by omega)]; exact hr2.2.1
      · rw [setI_s]
      · rw [setI_o (by omega), setI_o (by omega)]; exact hr2.2.2.2
      · show (if q = i then some j else pf q) = none
        rw [if_neg (by omega)]
        exact hn q (by omega) h2
      · rw [show (fun q => if i ≤ q ∧ q < i + (tbk (gf xs) (gf ys) f (i + 1) (j + 1) + 1) then some (j + (q - i)) else pf q) = fun q => if i + 1 ≤ q ∧ q < i + 1 + tbk (gf xs) (gf ys) f (i + 1) (j + 1) then some (j + 1 + (q - (i + 1))) else upf pf i j q by
          funext q
          unfold upf
          by_cases c1 : q = i
          · subst c1
            rw [if_pos (by omega), if_neg (by omega), if_pos rfl]
            congr 1
            omega
          · by_cases c2 : i + 1 ≤ q ∧ q < i + 1 + tbk (gf xs) (gf ys) f (i + 1) (j + 1)
            · rw [if_pos c2, if_pos (by omega)]
              congr 1
              omega
            · rw [if_neg c2, if_neg (by omega), if_neg c1]]
        exact b1'
      · rw [show i + (tbk (gf xs) (gf ys) f (i + 1) (j + 1) + 1) = i + 1 + tbk (gf xs) (gf ys) f (i + 1) (j + 1) by omega, show j + (tbk (gf xs) (gf ys) f (i + 1) (j + 1) + 1) = j + 1 + tbk (gf xs) (gf ys) f (i + 1) (j + 1) by omega]
        exact b2'
theorem s_O_begin {d : Nat} (hc : c < 49) {a1 b1 i j : Nat} {S : SS} {pf : Nat → Option Nat} (ha : a1 ≤ xs.length) (hb : b1 ≤ ys.length) (hi : i ≤ a1) (hj : j ≤ b1) (hm : cm S 2 xs ys pf) (hr : rg S (41 + 1 * c) i a1 j b1) (hn : ∀ q, i ≤ q → q < a1 → pf q = none) : MtV g um_O_matchBeginning (d + 1) [.ref (g.2.1 + 36), .ref (g.2.1 + 2), .ref (g.2.1 + (41 + 1 * c))] S (fun S' => cm S' 2 xs ys (fun q => if i ≤ q ∧ q < i + tbk (gf xs) (gf ys) (min (a1 - i) (b1 - j)) i j then some (j + (q - i)) else pf q) ∧ rg S' (41 + 1 * c) (i + tbk (gf xs) (gf ys) (min (a1 - i) (b1 - j)) i j) a1 (j + tbk (gf xs) (gf ys) (min (a1 - i) (b1 - j)) i j) b1 ∧ off (bq c) S S') :=
  f_O_matchBeginning ic2 (sr_37 c hc) (s_O_begin_loop hc ha hb _ i j S pf rfl hi hj hm hr hn fun S' a1 a2 a3 => ⟨a1, a2, a3⟩)
/-- what the equal end adds -/
def edp (pf : Nat → Option Nat) (p q k : Nat) : Nat → Option Nat := fun z => if p - k ≤ z ∧ z < p then some (q - k + (z - (p - k))) else pf z
theorem edp_0 {pf : Nat → Option Nat} {p q : Nat} : edp pf p q 0 = pf := by
  funext z
  unfold edp
  rw [if_neg (by omega)]
theorem edp_s {pf : Nat → Option Nat} {p q k : Nat} (h1 : k + 1 ≤ p) (h2 : k + 1 ≤ q) : edp pf p q (k + 1) = edp (upf pf (p - 1) (q - 1)) (p - 1) (q - 1) k := by
  funext z
  unfold edp upf
  by_cases c1 : z = p - 1
  · rw [if_pos (by omega), if_neg (by omega), if_pos c1]
    congr 1
    omega
  · by_cases c2 : p - 1 - k ≤ z ∧ z < p - 1
    · rw [if_pos c2, if_pos (by omega)]
      congr 1
      omega
    · rw [if_neg c2, if_neg (by omega), if_neg c1]
theorem tek_le2 {A B : Nat → Int32} {f p q : Nat} : tek A B f p q ≤ f := tek_le A B f p q
theorem s_O_end_step {d : Nat} {Q : SS → Prop} {S : SS} {pf : Nat → Option Nat} (hc : c < 49) {i j p q f : Nat} (ha : p ≤ xs.length) (hb : q ≤ ys.length) (hf : min (p - i) (q - j) = f) (hi : i ≤ p) (hj : j ≤ q) (hm : cm S 2 xs ys pf) (hr : rg S (41 + 1 * c) i p j q) (hn : ∀ z, i ≤ z → z < p → pf z = none) (hK : ∀ f' S' pf', f = f' + 1 → gf xs (p - 1) = gf ys (q - 1) → pf' = upf pf (p - 1) (q - 1) → cm S' 2 xs ys pf' → rg S' (41 + 1 * c) i (p - 1) j (q - 1) → off (bq c) S S' → AtV g um_O_matchEnd (d + 1) Q 0 [(1, .ref (g.2.1 + 2)), (2, .ref (g.2.1 + (41 + 1 * c)))] [] S') (hQ : tek (gf xs) (gf ys) f p q = 0 → Q S) : (S.1 (41 + 1 * c) 1 ≤ S.1 (41 + 1 * c) 0 → Q S) ∧ (¬ S.1 (41 + 1 * c) 1 ≤ S.1 (41 + 1 * c) 0 → (S.1 (41 + 1 * c) 3 ≤ S.1 (41 + 1 * c) 2 → Q S) ∧ (¬ S.1 (41 + 1 * c) 3 ≤ S.1 (41 + 1 * c) 2 → MtI g um_C_areEqual d [.ref (g.2.1 + 2), .int ((S.1 (41 + 1 * c) 1) - (1)), .int ((S.1 (41 + 1 * c) 3) - (1))] S (fun r4 S3 => (r4 = 0 → Q S3) ∧ (¬ r4 = 0 → ∀ S6 : SS, S6 = setI S3 (41 + 1 * c) 1 ((S3.1 (41 + 1 * c) 1) - (1)) → ∀ S7 : SS, S7 = setI S6 (41 + 1 * c) 3 ((S6.1 (41 + 1 * c) 3) - (1)) → MtV g um_C_pair d [.ref (g.2.1 + 2), .int (S7.1 (41 + 1 * c) 1), .int (S7.1 (41 + 1 * c) 3)] S7 (fun S8 => AtV g um_O_matchEnd (d + 1) Q 0 [(1, .ref (g.2.1 + 2)), (2, .ref (g.2.1 + (41 + 1 * c)))] [] S8))))) := by
  have l1 := hm.1.1
  have l2 := hm.2.1.1
  rw [hr.1, hr.2.1, hr.2.2.1, hr.2.2.2, nI_leI (by omega) (by omega), nI_leI (by omega) (by omega)]
  cases f with
  | zero => exact ⟨fun _ => hQ rfl, fun z => ⟨fun _ => hQ rfl, fun y => by omega⟩⟩
  | succ f =>
    refine ⟨fun z => by omega, fun z => ⟨fun y => by omega, fun y => ?_⟩⟩
    rw [show nI p - 1 = nI (p - 1) from pk_sub (b := 1) (by omega), show nI q - 1 = nI (q - 1) from pk_sub (b := 1) (by omega)]
    refine (s_C_areEqual ic2 hm (by omega) (by omega)).mono fun r S1 ⟨e1, e2⟩ => ?_
    subst e1
    subst e2
    refine ⟨fun w => ?_, fun w => ?_⟩
    · rw [b2i_0, decide_eq_false_iff_not] at w
      exact hQ (by rw [tek, if_neg (show ¬ gf xs (p - 1) = gf ys (q - 1) from w)])
    · rw [b2i_1, decide_eq_true_iff] at w
      rintro S6 rfl S7 rfl
      rw [setI_o (show 41 + 1 * c ≠ 41 + 1 * c ∨ 3 ≠ 1 from Or.inr (by omega)), hr.2.1, hr.2.2.2, show nI p - 1 = nI (p - 1) from pk_sub (b := 1) (by omega), show nI q - 1 = nI (q - 1) from pk_sub (b := 1) (by omega)]
      have o7 : off (fun z => z = 41 + 1 * c) S1 (setI (setI S1 (41 + 1 * c) 1 (nI (p - 1))) (41 + 1 * c) 3 (nI (q - 1))) := (off_I (p := fun z => z = 41 + 1 * c) rfl).tr (off_I rfl)
      have hr7 : rg (setI (setI S1 (41 + 1 * c) 1 (nI (p - 1))) (41 + 1 * c) 3 (nI (q - 1))) (41 + 1 * c) i (p - 1) j (q - 1) := by
        refine ⟨?_, ?_, ?_, ?_⟩
        · rw [setI_o (by omega), setI_o (by omega)]; exact hr.1
        · rw [setI_o (by omega), setI_s]
        · rw [setI_o (by omega), setI_o (by omega)]; exact hr.2.2.1
        · rw [setI_s]
      rw [hr7.2.1, hr7.2.2.2]
      refine (s_C_pair ic2 (hm.keep o7 (fun z y => by unfold cp at y; omega)) (by omega) (hn (p - 1) (by omega) (by omega))).mono fun S8 ⟨a8, o8⟩ => ?_
      exact hK f S8 _ rfl w rfl a8 (hr7.keep o8 (by unfold pp; omega)) ((o7.mo fun z y => Or.inr y).tr (o8.mo fun z y => Or.inl y))
theorem s_O_end_loop {d : Nat} {Q : SS → Prop} (hc : c < 49) {i j : Nat} : ∀ (f p q : Nat) (S : SS) (pf : Nat → Option Nat), p ≤ xs.length → q ≤ ys.length → min (p - i) (q - j) = f → i ≤ p → j ≤ q → cm S 2 xs ys pf → rg S (41 + 1 * c) i p j q → (∀ z, i ≤ z → z < p → pf z = none) → (∀ S', cm S' 2 xs ys (edp pf p q (tek (gf xs) (gf ys) f p q)) → rg S' (41 + 1 * c) i (p - tek (gf xs) (gf ys) f p q) j (q - tek (gf xs) (gf ys) f p q) → off (bq c) S S' → Q S') → AtV g um_O_matchEnd (d + 1) Q 0 [(1, .ref (g.2.1 + 2)), (2, .ref (g.2.1 + (41 + 1 * c)))] [] S := by
  intro f
  induction f with
  | zero =>
    intro p q S pf ha hb hf hi hj hm hr hn hQ
    refine f_O_matchEnd_0 ic2 (sr_37 c hc) (s_O_end_step hc ha hb hf hi hj hm hr hn (fun f' S' pf' z => by omega) fun z => hQ S ?_ ?_ off.re)
    · rw [z, edp_0]; exact hm
    · rw [z]; exact hr
  | succ f ih =>
    intro p q S pf ha hb hf hi hj hm hr hn hQ
    refine f_O_matchEnd_0 ic2 (sr_37 c hc) (s_O_end_step hc ha hb hf hi hj hm hr hn (fun f' S' pf' z w e m' r' o' => ?_) fun z => hQ S ?_ ?_ off.re)
    · have tl := tek_le (gf xs) (gf ys) f (p - 1) (q - 1)
      refine ih (p - 1) (q - 1) S' pf' (by omega) (by omega) (by omega) (by omega) (by omega) m' r' (fun z h1 h2 => ?_) fun S2 b1 b2 b3 => hQ S2 ?_ ?_ (o'.tr b3)
      · rw [e]
        show (if z = p - 1 then some (q - 1) else pf z) = none
        rw [if_neg (by omega)]
        exact hn z h1 (by omega)
      · rw [tek, if_pos w, edp_s (by omega) (by omega), ← e]
        exact b1
      · rw [tek, if_pos w, show p - (tek (gf xs) (gf ys) f (p - 1) (q - 1) + 1) = p - 1 - tek (gf xs) (gf ys) f (p - 1) (q - 1) by omega, show q - (tek (gf xs) (gf ys) f (p - 1) (q - 1) + 1) = q - 1 - tek (gf xs) (gf ys) f (p - 1) (q - 1) by omega]
        exact b2
    · rw [z, edp_0]; exact hm
    · rw [z]; exact hr
theorem s_O_end {d : Nat} (hc : c < 49) {i j p q : Nat} {S : SS} {pf : Nat → Option Nat} (ha : p ≤ xs.length) (hb : q ≤ ys.length) (hi : i ≤ p) (hj : j ≤ q) (hm : cm S 2 xs ys pf) (hr : rg S (41 + 1 * c) i p j q) (hn : ∀ z, i ≤ z → z < p → pf z = none) : MtV g um_O_matchEnd (d + 1) [.ref (g.2.1 + 36), .ref (g.2.1 + 2), .ref (g.2.1 + (41 + 1 * c))] S (fun S' => cm S' 2 xs ys (edp pf p q (tek (gf xs) (gf ys) (min (p - i) (q - j)) p q)) ∧ rg S' (41 + 1 * c) i (p - tek (gf xs) (gf ys) (min (p - i) (q - j)) p q) j (q - tek (gf xs) (gf ys) (min (p - i) (q - j)) p q) ∧ off (bq c) S S') :=
  f_O_matchEnd ic2 (sr_37 c hc) (s_O_end_loop hc _ p q S pf ha hb rfl hi hj hm hr hn fun S' a1 a2 a3 => ⟨a1, a2, a3⟩)
end OC
