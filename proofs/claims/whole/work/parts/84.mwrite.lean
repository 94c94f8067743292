/-! write: the reference, and the simulation -/
def opM (S : SS) (A : List (Int32 × Int32)) : Prop := A.length ≤ 48 ∧ S.1 151 21 = nI A.length ∧ ∀ i, i < A.length → S.2 167 i = kd A i ∧ S.2 168 i = lw A i
def op1 : Nat → Prop := fun j => j = 21
def op2 : Nat → Prop := fun q => q = 167 ∨ q = 168
theorem kd_l {A B : List (Int32 × Int32)} {i : Nat} (h : i < A.length) : kd (A ++ B) i = kd A i ∧ lw (A ++ B) i = lw A i := by
  simp [kd, lw, List.getD_eq_getElem?_getD, List.getElem?_append_left h]
theorem kd_s {A : List (Int32 × Int32)} {a : Int32 × Int32} : kd (A ++ [a]) A.length = a.1 ∧ lw (A ++ [a]) A.length = a.2 := by
  simp [kd, lw, List.getD_eq_getElem?_getD]
theorem s_M_op {g : lp_G} {d : Nat} {S : SS} {A : List (Int32 × Int32)} {x y : Int32} (h : opM S A) (hl : A.length < 48) : MtV g um_M_op d [.ref (g.2.1 + 151), .int x, .int y] S (fun S' => opM S' (A ++ [(x, y)]) ∧ om op1 op2 S S') := by
  have vv : vp_in (nI A.length) 48 := vp_in_nI hl (by omega)
  refine f_M_op ?_
  rw [h.2.1, nI_clamp (by omega)]
  refine ⟨vv, ?_⟩
  rintro S2 rfl
  rw [setA_1, h.2.1, nI_clamp (by omega)]
  refine ⟨vv, ?_⟩
  rintro S4 rfl S5 rfl
  rw [setA_1, setA_1, h.2.1, nI_1]
  refine ⟨⟨by simp; omega, by rw [setI_s, List.length_append]; rfl, fun i hi => ?_⟩, ((om_A (fs := op1) (ps := op2) (Or.inl rfl)).tr (om_A (Or.inr rfl))).tr (om_I rfl)⟩
  rw [setI_2]
  by_cases e : i = A.length
  · subst e
    rw [setA_o (by omega), setA_s, setA_s]
    exact ⟨(kd_s (a := (x, y))).1.symm, (kd_s (a := (x, y))).2.symm⟩
  · have hi' : i < A.length := by simp at hi; omega
    rw [setA_o (by omega), setA_o (by omega), setA_o (by omega), setA_o (by omega), (kd_l hi').1, (kd_l hi').2]
    exact h.2.2 i hi'
theorem em_le {o : Option Nat} (h : ∀ j, o = some j → j < 2 ^ 31) : (0 ≤ em o ↔ ∃ j, o = some j) := by
  cases o with
  | none => exact ⟨fun z => absurd z (by decide), fun ⟨j, z⟩ => by cases z⟩
  | some j => exact ⟨fun _ => ⟨j, rfl⟩, fun _ => nI_le (a := 0) (by omega) (h j rfl)⟩
theorem s_M_row_loop {g : lp_G} {d : Nat} {Q : SS → Prop} {xs ys : List Int32} {pf : Nat → Option Nat} (h1 : xs.length ≤ 24) (h2 : ys.length ≤ 24) (hm : mono pf xs.length ys.length) : ∀ (f : Nat),
    (∀ (i j : Nat) (S : SS) (A : List (Int32 × Int32)), (xs.length - i) + (ys.length - j) ≤ f → i ≤ xs.length → j ≤ ys.length → A.length ≤ i + j → fok pf i j ys.length → cmpM S (some (xs, ys, pf)) → opM S A → (∀ S', opM S' (A ++ ro xs ys pf f i j) → om op1 op2 S S' → Q S') → AtV g um_M_row (d + 1) Q 9 [(0, .ref (g.2.1 + 151)), (1, .int (nI i)), (2, .int (nI j))] [] S) ∧
    (∀ (i j : Nat) (S : SS) (A : List (Int32 × Int32)), (xs.length - i) + (ys.length - j) ≤ f → i ≤ xs.length → j ≤ ys.length → A.length ≤ i + j → fok pf i j ys.length → cmpM S (some (xs, ys, pf)) → opM S A → (∀ S', opM S' (A ++ ro xs ys pf f i j) → om op1 op2 S S' → Q S') → AtV g um_M_row (d + 1) Q 25 [(0, .ref (g.2.1 + 151)), (1, .int (nI i)), (2, .int (nI j))] [] S) ∧
    (∀ (i j st : Nat) (S : SS) (A : List (Int32 × Int32)), (xs.length - i) + (ys.length - j) ≤ f → i ≤ xs.length → j ≤ ys.length → A.length ≤ i + j → fok pf i j ys.length → ((i < xs.length ∧ pf i = some st) ∨ (¬ i < xs.length ∧ st = ys.length)) → cmpM S (some (xs, ys, pf)) → opM S A → (∀ S', opM S' (A ++ ro xs ys pf f i j) → om op1 op2 S S' → Q S') → AtV g um_M_row (d + 1) Q 82 [(0, .ref (g.2.1 + 151)), (1, .int (nI i)), (2, .int (nI j)), (3, .int (nI st))] [] S) := by
  have kc : ∀ {S S' : SS}, cmpM S (some (xs, ys, pf)) → om op1 op2 S S' → cmpM S' (some (xs, ys, pf)) := fun h o => h.keep o (by simp [op1]) (by simp [op1]) (by simp [op1]) (by simp [op2]) (by simp [op2]) (by simp [op2])
  have ex : ∀ (f i j : Nat) (S : SS) (A : List (Int32 × Int32)), ¬ i < xs.length → ¬ j < ys.length → i ≤ xs.length → j ≤ ys.length → cmpM S (some (xs, ys, pf)) → opM S A → (∀ S', opM S' (A ++ ro xs ys pf f i j) → om op1 op2 S S' → Q S') → AtV g um_M_row (d + 1) Q 9 [(0, .ref (g.2.1 + 151)), (1, .int (nI i)), (2, .int (nI j))] [] S := by
    intro f i j S A hi hj hi' hj' hc ho hQ
    have e : ro xs ys pf f i j = [] := by
      cases f with
      | zero => rfl
      | succ f => rw [ro, if_neg hi, if_neg hj]
    rw [e, List.append_nil] at hQ
    refine f_M_row_9 ?_
    rw [hc.2.1, hc.2.2.1]
    exact ⟨fun z => absurd z (nI_nlt (by omega) (by omega)), fun _ => ⟨fun _ => hQ S ho om.re, fun z => absurd (nI_le (by omega) (by omega)) z⟩⟩
  have st82 : ∀ (f : Nat), (∀ (i j st : Nat) (S : SS) (A : List (Int32 × Int32)), f = 0 → (xs.length - i) + (ys.length - j) ≤ f → i ≤ xs.length → j ≤ ys.length → A.length ≤ i + j → fok pf i j ys.length → ((i < xs.length ∧ pf i = some st) ∨ (¬ i < xs.length ∧ st = ys.length)) → cmpM S (some (xs, ys, pf)) → opM S A → (∀ S', opM S' (A ++ ro xs ys pf f i j) → om op1 op2 S S' → Q S') → AtV g um_M_row (d + 1) Q 82 [(0, .ref (g.2.1 + 151)), (1, .int (nI i)), (2, .int (nI j)), (3, .int (nI st))] [] S) := by
    intro f i j st S A hf hn hi hj hA hfk hst hc ho hQ
    refine f_M_row_82 ?_
    rw [hc.2.1]
    have hst' : st = ys.length := by rcases hst with ⟨a, _⟩ | ⟨_, b⟩ <;> omega
    refine ⟨fun _ => ⟨fun _ => ex f i j S A (by omega) (by omega) hi hj hc ho hQ, fun z => absurd (nI_le (by omega) (by omega)) z⟩, fun z => absurd (nI_le (by omega) (by omega)) z⟩
  intro f
  induction f with
  | zero =>
    refine ⟨fun i j S A hn hi hj hA hfk hc ho hQ => ex 0 i j S A (by omega) (by omega) hi hj hc ho hQ, fun i j S A hn hi hj hA hfk hc ho hQ => ?_, fun i j st S A => st82 0 i j st S A rfl⟩
    refine f_M_row_25 ?_
    rw [hc.2.1, hc.2.2.1]
    exact ⟨fun _ => st82 0 i j ys.length S A rfl hn hi hj hA hfk (Or.inr ⟨by omega, rfl⟩) hc ho hQ, fun z => absurd (nI_le (by omega) (by omega)) z⟩
  | succ f ih =>
    obtain ⟨ih9, ih25, ih82⟩ := ih
    have p82 : (∀ (i j st : Nat) (S : SS) (A : List (Int32 × Int32)), (xs.length - i) + (ys.length - j) ≤ f + 1 → i ≤ xs.length → j ≤ ys.length → A.length ≤ i + j → fok pf i j ys.length → ((i < xs.length ∧ pf i = some st) ∨ (¬ i < xs.length ∧ st = ys.length)) → cmpM S (some (xs, ys, pf)) → opM S A → (∀ S', opM S' (A ++ ro xs ys pf (f + 1) i j) → om op1 op2 S S' → Q S') → AtV g um_M_row (d + 1) Q 82 [(0, .ref (g.2.1 + 151)), (1, .int (nI i)), (2, .int (nI j)), (3, .int (nI st))] [] S) := by
      intro i j st S A hn hi hj hA hfk hst hc ho hQ
      have stl : st ≤ ys.length := by
        rcases hst with ⟨a, b⟩ | ⟨_, b⟩
        · have := (hm.1 i st b).2; omega
        · omega
      refine f_M_row_82 ?_
      rw [hc.2.1, nI_leI (by omega) (by omega), nI_leI (by omega) (by omega)]
      refine ⟨fun z => ⟨fun y => ?_, fun y => ⟨vp_in_nI (by omega) (by omega), ?_⟩⟩, fun z => ⟨vp_in_nI (by omega) (by omega), ?_⟩⟩
      · rcases hst with ⟨a, _⟩ | ⟨a, b⟩
        · omega
        · exact ex (f + 1) i j S A a (by omega) hi hj hc ho hQ
      · rcases hst with ⟨a, b⟩ | ⟨a, _⟩
        · have hr := hm.1 i st b
          rw [nI_clamp (by omega), hc.2.2.2.1 i a, nI_1, nI_1]
          rw [ro, if_pos a, b] at hQ
          dsimp only at hQ
          rw [if_neg (by omega)] at hQ
          have hj0 := (hfk i st (Nat.le_refl _) b).1
          have ej : j = st := by omega
          refine (s_M_op ho (by omega)).mono fun S1 ⟨a1, o1⟩ => ?_
          refine ih9 (i + 1) (j + 1) S1 _ (by omega) (by omega) (by omega) (by simp; omega) (by rw [ej]; exact fok.up hm b) (kc hc o1) a1 fun S2 a2 o2 => hQ S2 (by simpa using a2) (o1.tr o2)
        · omega
      · rw [nI_clamp (by omega), hc.2.2.2.2.1 j (by omega), nI_1]
        have e : ro xs ys pf (f + 1) i j = (nI 43, ys.getD j 0) :: ro xs ys pf f i (j + 1) := by
          rw [ro]
          rcases hst with ⟨a, b⟩ | ⟨a, b⟩
          · rw [if_pos a, b]; dsimp only; rw [if_pos (by omega)]
          · rw [if_neg a, if_pos (by omega)]
        rw [e] at hQ
        have fk2 : fok pf i (j + 1) ys.length := fun q r hq hr => by
          have hr2 := hm.1 q r hr
          refine ⟨?_, hr2.2⟩
          rcases hst with ⟨a, b⟩ | ⟨a, b⟩
          · by_cases eq : q = i
            · rw [eq, b] at hr; cases hr; omega
            · have := hm.2 i st q r b hr (by omega); omega
          · omega
        refine (s_M_op ho (by omega)).mono fun S1 ⟨a1, o1⟩ => ?_
        refine ih82 i (j + 1) st S1 _ (by omega) hi (by omega) (by simp; omega) fk2 hst (kc hc o1) a1 fun S2 a2 o2 => hQ S2 (by simpa using a2) (o1.tr o2)
    have p25 : (∀ (i j : Nat) (S : SS) (A : List (Int32 × Int32)), (xs.length - i) + (ys.length - j) ≤ f + 1 → i ≤ xs.length → j ≤ ys.length → A.length ≤ i + j → fok pf i j ys.length → cmpM S (some (xs, ys, pf)) → opM S A → (∀ S', opM S' (A ++ ro xs ys pf (f + 1) i j) → om op1 op2 S S' → Q S') → AtV g um_M_row (d + 1) Q 25 [(0, .ref (g.2.1 + 151)), (1, .int (nI i)), (2, .int (nI j))] [] S) := by
      intro i j S A hn hi hj hA hfk hc ho hQ
      refine f_M_row_25 ?_
      rw [hc.2.1, hc.2.2.1, nI_leI (by omega) (by omega)]
      refine ⟨fun z => p82 i j ys.length S A hn hi hj hA hfk (Or.inr ⟨by omega, rfl⟩) hc ho hQ, fun z => ⟨vp_in_nI (by omega) (by omega), ?_⟩⟩
      rw [nI_clamp (by omega), hc.2.2.2.2.2 i (by omega), hc.2.2.2.1 i (by omega), em_le (fun r hr => by have := (hm.1 i r hr).2; omega), nI_1]
      cases hp : pf i with
      | none =>
        refine ⟨fun ⟨r, hr⟩ => (by cases hr), fun _ => ⟨vp_in_nI (by omega) (by omega), ?_⟩⟩
        rw [ro, if_pos (by omega), hp] at hQ
        refine (s_M_op ho (by omega)).mono fun S1 ⟨a1, o1⟩ => ?_
        refine ih25 (i + 1) j S1 _ (by omega) (by omega) hj (by simp; omega) hfk.st (kc hc o1) a1 fun S2 a2 o2 => hQ S2 (by simpa using a2) (o1.tr o2)
      | some r =>
        exact ⟨fun _ => ⟨vp_in_nI (by omega) (by omega), p82 i j r S A hn hi hj hA hfk (Or.inl ⟨by omega, hp⟩) hc ho hQ⟩, fun z => absurd ⟨r, rfl⟩ z⟩
    refine ⟨fun i j S A hn hi hj hA hfk hc ho hQ => ?_, p25, p82⟩
    by_cases hz : i < xs.length ∨ j < ys.length
    · refine f_M_row_9 ?_
      rw [hc.2.1, hc.2.2.1, nI_ltI (by omega) (by omega), nI_leI (by omega) (by omega)]
      exact ⟨fun _ => p25 i j S A hn hi hj hA hfk hc ho hQ, fun y => ⟨fun z => absurd hz (by omega), fun _ => p25 i j S A hn hi hj hA hfk hc ho hQ⟩⟩
    · exact ex (f + 1) i j S A (by omega) (by omega) hi hj hc ho hQ
theorem s_M_row {g : lp_G} {d : Nat} {S : SS} {xs ys : List Int32} {pf : Nat → Option Nat} (h1 : xs.length ≤ 24) (h2 : ys.length ≤ 24) (hm : mono pf xs.length ys.length) (hc : cmpM S (some (xs, ys, pf))) : MtV g um_M_row (d + 1) [.ref (g.2.1 + 151)] S (fun S' => opM S' (rowR xs ys pf) ∧ om op1 op2 S S') := by
  refine f_M_row ?_
  rintro S1 rfl
  have o1 : om op1 op2 S (setI S 151 21 0) := om_I rfl
  refine (s_M_row_loop h1 h2 hm 48).1 0 0 _ [] (by omega) (by omega) (by omega) (by simp) (fun q r _ e => ⟨by omega, (hm.1 q r e).2⟩) (hc.keep o1 (by simp [op1]) (by simp [op1]) (by simp [op1]) (by simp [op2]) (by simp [op2]) (by simp [op2])) ⟨by simp, setI_s, fun i hi => by simp at hi⟩ fun S2 a2 o2 => ⟨?_, o1.tr o2⟩
  rw [List.nil_append] at a2
  exact a2
theorem s_M_others_loop {g : lp_G} {d : Nat} {Q : Int32 → SS → Prop} {S : SS} {R : List (Int32 × Int32)} {c b : Nat} (h : opM S R) (hb : b ≤ R.length) : ∀ (n k v : Nat), b - k = n → k ≤ b → Q (nI (v + (cN R c b - cN R c k))) S → AtI g um_M_others d Q 6 [(0, .ref (g.2.1 + 151)), (2, .int (nI b)), (3, .int (nI c)), (4, .int (nI v)), (5, .int (nI k))] [] S := by
  have l48 := h.1
  intro n
  induction n with
  | zero =>
    intro k v hn hk hQ
    have ek : k = b := by omega
    subst ek
    refine f_M_others_6 ⟨fun _ => ?_, fun z => absurd (nI_le (Nat.le_refl _) (by omega)) z⟩
    rw [Nat.sub_self, Nat.add_zero] at hQ
    exact hQ
  | succ n ih =>
    intro k v hn hk hQ
    refine f_M_others_6 ⟨fun z => absurd z (nI_ge (by omega) (by omega)), fun _ => ⟨vp_in_nI (by omega) (by omega), ?_⟩⟩
    rw [nI_clamp (by omega), (h.2.2 k (by omega)).1, nI_1, nI_1]
    have m := cN_mono (R := R) (c := c) (p := k + 1) (b - (k + 1))
    rw [show k + 1 + (b - (k + 1)) = b by omega] at m
    have e : cN R c (k + 1) = cN R c k + (if kd R k = nI c then 0 else 1) := rfl
    refine ⟨fun z => ih (k + 1) v (by omega) (by omega) ?_, fun z => ih (k + 1) (v + 1) (by omega) (by omega) ?_⟩
    · rw [if_pos z] at e
      rw [e, Nat.add_zero]
      exact hQ
    · rw [if_neg z] at e
      rw [show v + 1 + (cN R c b - cN R c (k + 1)) = v + (cN R c b - cN R c k) by omega]
      exact hQ
theorem s_M_others {g : lp_G} {d : Nat} {S : SS} {R : List (Int32 × Int32)} {a b c : Nat} (h : opM S R) (hab : a ≤ b) (hb : b ≤ R.length) : MtI g um_M_others d [.ref (g.2.1 + 151), .int (nI a), .int (nI b), .int (nI c)] S (fun r S' => S' = S ∧ r = nI (cN R c b - cN R c a)) :=
  f_M_others (s_M_others_loop h hb _ a 0 rfl hab ⟨rfl, by rw [Nat.zero_add]⟩)
def pt1 : Nat → Prop := fun j => j = 24
def pt2 : Nat → Prop := fun q => q = 169
theorem opM.keep {S S' : SS} {R : List (Int32 × Int32)} (h : opM S R) (o : om pt1 pt2 S S') : opM S' R := ⟨h.1, by rw [o.1 151 21 (by simp [pt1])]; exact h.2.1, fun i hi => by rw [o.2 167 (by simp [pt2]), o.2 168 (by simp [pt2])]; exact h.2.2 i hi⟩
theorem s_M_putNum {g : lp_G} {d : Nat} {S : SS} {l : List Int32} {v : Nat} (h : paM S l) (hv : v < 100) (hl : l.length + 2 ≤ 900) : MtV g um_M_putNumber (d + 1) [.ref (g.2.1 + 151), .int (nI v)] S (fun S' => paM S' (l ++ dgs v) ∧ om pt1 pt2 S S') := by
  refine f_M_putNumber ?_
  rw [nI_leI (by omega) (by omega), dg_lo v hv, dg_hm v hv]
  refine ⟨fun z => ?_, fun z => ?_⟩
  · refine (s_M_put h (by omega)).mono fun S1 ⟨a, b⟩ => ⟨?_, b⟩
    rw [dgs, if_pos z]
    exact a
  · refine (s_M_put h (by omega)).mono fun S1 ⟨a, b⟩ => ?_
    refine (s_M_put a (by simp; omega)).mono fun S2 ⟨c, e⟩ => ⟨?_, b.tr e⟩
    rw [dgs, if_neg z, ← List.append_assoc]
    exact c
theorem s_M_putHunk_loop {g : lp_G} {d : Nat} {Q : SS → Prop} {R : List (Int32 × Int32)} {b : Nat} (hb : b ≤ R.length) : ∀ (n k : Nat) (S : SS) (l : List Int32), b - k = n → k ≤ b → opM S R → paM S l → l.length + 3 * (b - k) ≤ 900 → (∀ S', paM S' (l ++ opl R k (b - k)) → om pt1 pt2 S S' → Q S') → AtV g um_M_putHunk (d + 1) Q 80 [(0, .ref (g.2.1 + 151)), (2, .int (nI b)), (3, .int (nI k))] [] S := by
  intro n
  induction n with
  | zero =>
    intro k S l hn hk h hp hl hQ
    have l48 := h.1
    have ek : k = b := by omega
    subst ek
    refine f_M_putHunk_80 ⟨fun _ => hQ S ?_ om.re, fun z => absurd (nI_le (Nat.le_refl _) (by omega)) z⟩
    rw [Nat.sub_self]
    simpa [opl] using hp
  | succ n ih =>
    intro k S l hn hk h hp hl hQ
    have l48 := h.1
    refine f_M_putHunk_80 ⟨fun z => absurd z (nI_ge (by omega) (by omega)), fun _ => ⟨vp_in_nI (by omega) (by omega), ?_⟩⟩
    rw [nI_clamp (by omega), (h.2.2 k (by omega)).1, nI_1]
    refine (s_M_put hp (by omega)).mono fun S1 ⟨a1, o1⟩ => ⟨vp_in_nI (by omega) (by omega), ?_⟩
    have h1 := h.keep o1
    rw [(h1.2.2 k (by omega)).2]
    refine (s_M_put a1 (by simp; omega)).mono fun S2 ⟨a2, o2⟩ => ?_
    refine (s_M_put a2 (by simp; omega)).mono fun S3 ⟨a3, o3⟩ => ?_
    refine ih (k + 1) S3 _ (by omega) (by omega) ((h1.keep o2).keep o3) a3 (by simp; omega) fun S4 a4 o4 => hQ S4 ?_ (((o1.tr o2).tr o3).tr o4)
    rw [show b - k = (b - (k + 1)) + 1 by omega, opl]
    simpa only [List.append_assoc] using a4
theorem s_M_putHunk {g : lp_G} {d : Nat} {S : SS} {R : List (Int32 × Int32)} {a b : Nat} {l : List Int32} (h : opM S R) (hab : a ≤ b) (hb : b ≤ R.length) (hp : paM S l) (hl : l.length + (outH R a b).length ≤ 800) : MtV g um_M_putHunk (d + 2) [.ref (g.2.1 + 151), .int (nI a), .int (nI b)] S (fun S' => paM S' (l ++ outH R a b) ∧ om pt1 pt2 S S') := by
  have l48 := h.1
  have z1 := cN_le (R := R) (c := 43) a
  have z2 := cN_le (R := R) (c := 45) a
  have z3 := cN_le (R := R) (c := 43) b
  have z4 := cN_le (R := R) (c := 45) b
  rw [outH, List.length_append, opl_len, hdO] at hl
  simp only [List.length_append, List.length_cons, List.length_nil] at hl
  have c0 : ∀ c, cN R c 0 = 0 := fun c => rfl
  refine f_M_putHunk ?_
  refine (s_M_put hp (by omega)).mono fun S1 ⟨a1, o1⟩ => ?_
  have h1 := h.keep o1
  refine (s_M_others (a := 0) h1 (Nat.zero_le _) (by omega)).mono fun r S2 ⟨e1, e2⟩ => ?_
  subst e1
  subst e2
  rw [c0, Nat.sub_zero]
  have g1 := dgs_len (v := cN R 43 a)
  have g2 := dgs_len (v := cN R 43 b - cN R 43 a)
  have g3 := dgs_len (v := cN R 45 a)
  have g4 := dgs_len (v := cN R 45 b - cN R 45 a)
  refine (s_M_putNum a1 (by omega) (by simp; omega)).mono fun S3 ⟨a3, o3⟩ => ?_
  refine (s_M_put a3 (by simp; omega)).mono fun S4 ⟨a4, o4⟩ => ?_
  have h4 := (h1.keep o3).keep o4
  refine (s_M_others h4 hab hb).mono fun r S5 ⟨e1, e2⟩ => ?_
  subst e1
  subst e2
  refine (s_M_putNum a4 (by omega) (by simp; omega)).mono fun S6 ⟨a6, o6⟩ => ?_
  refine (s_M_put a6 (by simp; omega)).mono fun S7 ⟨a7, o7⟩ => ?_
  have h7 := (h4.keep o6).keep o7
  refine (s_M_others (a := 0) h7 (Nat.zero_le _) (by omega)).mono fun r S8 ⟨e1, e2⟩ => ?_
  subst e1
  subst e2
  rw [c0, Nat.sub_zero]
  refine (s_M_putNum a7 (by omega) (by simp; omega)).mono fun S9 ⟨a9, o9⟩ => ?_
  refine (s_M_put a9 (by simp; omega)).mono fun S10 ⟨a10, o10⟩ => ?_
  have h10 := (h7.keep o9).keep o10
  refine (s_M_others h10 hab hb).mono fun r S11 ⟨e1, e2⟩ => ?_
  subst e1
  subst e2
  refine (s_M_putNum a10 (by omega) (by simp; omega)).mono fun S12 ⟨a12, o12⟩ => ?_
  refine (s_M_put a12 (by simp; omega)).mono fun S13 ⟨a13, o13⟩ => ?_
  have oo := (((((((o1.tr o3).tr o4).tr o6).tr o7).tr o9).tr o10).tr o12).tr o13
  refine s_M_putHunk_loop hb _ a S13 _ rfl hab ((h10.keep o12).keep o13) a13 (by simp; omega) fun S14 a14 o14 => ⟨?_, oo.tr o14⟩
  rw [outH, hdO]
  simpa only [List.append_assoc] using a14
theorem okU_kd {xs ys : List Int32} {R : List (Int32 × Int32)} {u : RU} (h : okU xs ys R u) {k : Nat} (h1 : u.1 ≤ k) (h2 : k < ue u) : ¬ kd R k = nI 32 := by
  obtain ⟨_, _, _, _, _, _, _, _, _, _, o11, o12⟩ := h
  have eue : ue u = u.1 + (uX u - ux u) + (uY u - uy u) := rfl
  have eum : um u = u.1 + (uX u - ux u) := rfl
  by_cases c : k < um u
  · have := (o11 (k - u.1) (by omega)).1
    rw [show u.1 + (k - u.1) = k by omega] at this
    rw [this]
    exact Ne.symm k2_5
  · have := (o12 (k - um u) (by omega)).1
    rw [show um u + (k - um u) = k by omega] at this
    rw [this]
    exact Ne.symm k2_3
theorem s_M_last_loop {g : lp_G} {d : Nat} {Q : Int32 → SS → Prop} {S : SS} {xs ys : List Int32} {R : List (Int32 × Int32)} {ctx : Nat} (hctx : ctx ≤ 3) (h : opM S R) : ∀ (n k : Nat), R.length - k = n → k ≤ R.length →
    (∀ (u : RU) (t : List RU), okU xs ys R u → okR xs ys R (ue u) t → u.1 ≤ k → k ≤ ue u → Q (nI (lastR ctx (ue u) t).1) S → AtI g um_M_lastOf d Q 5 [(0, .ref (g.2.1 + 151)), (2, .int (nI ctx)), (3, .int (nI k)), (4, .int (nI k))] [] S) ∧
    (∀ (e : Nat) (t : List RU), okR xs ys R e t → e ≤ k → (∀ u, t.head? = some u → k ≤ u.1) → Q (nI (lastR ctx e t).1) S → AtI g um_M_lastOf d Q 5 [(0, .ref (g.2.1 + 151)), (2, .int (nI ctx)), (3, .int (nI e)), (4, .int (nI k))] [] S) := by
  have l48 := h.1
  intro n
  induction n with
  | zero =>
    intro k hn hk
    have gap : ∀ (e : Nat) (t : List RU), okR xs ys R e t → e ≤ k → (∀ u, t.head? = some u → k ≤ u.1) → Q (nI (lastR ctx e t).1) S → AtI g um_M_lastOf d Q 5 [(0, .ref (g.2.1 + 151)), (2, .int (nI ctx)), (3, .int (nI e)), (4, .int (nI k))] [] S := by
      intro e t ok hek ht hQ
      have et : t = [] := by
        cases t with
        | nil => rfl
        | cons u t =>
          have := ht u rfl
          have := ok.2.2.1.1
          have := ok.2.2.1.2.1
          omega
      subst et
      exact f_M_lastOf_5 ⟨fun _ => hQ, fun z => absurd (by rw [h.2.1]; exact nI_le (by omega) (by omega)) z⟩
    refine ⟨fun u t hu ok h1 h2 hQ => ?_, gap⟩
    have e : k = ue u := by have := hu.2.1; omega
    rw [e]
    rw [e] at gap
    exact gap (ue u) t ok (Nat.le_refl _) (fun v hv => by
      cases t with
      | nil => cases hv
      | cons w t => simp at hv; subst hv; exact ok.1) hQ
  | succ n ih =>
    intro k hn hk
    obtain ⟨ihr, ihg⟩ := ih (k + 1) (by omega) (by omega)
    have gap : ∀ (e : Nat) (t : List RU), okR xs ys R e t → e ≤ k → (∀ u, t.head? = some u → k ≤ u.1) → Q (nI (lastR ctx e t).1) S → AtI g um_M_lastOf d Q 5 [(0, .ref (g.2.1 + 151)), (2, .int (nI ctx)), (3, .int (nI e)), (4, .int (nI k))] [] S := by
      intro e t ok hek ht hQ
      refine f_M_lastOf_5 ⟨fun z => absurd (by rw [h.2.1] at z; exact z) (nI_ge (by omega) (by omega)), fun _ => ?_⟩
      rw [pk_mul, pk_sub hek, nI_ltI (by omega) (by omega), nI_clamp (by omega), (h.2.2 k (by omega)).1, nI_1]
      refine ⟨fun z => ?_, fun z => ⟨vp_in_nI (by omega) (by omega), fun y => ?_, fun y => ?_⟩⟩
      · cases t with
        | nil => exact hQ
        | cons u t =>
          have := ht u rfl
          rw [lastR, if_neg (by omega)] at hQ
          exact hQ
      · refine ihg e t ok (by omega) (fun u hu => ?_) hQ
        have h1 := ht u hu
        by_cases c : k = u.1
        · exfalso
          cases t with
          | nil => cases hu
          | cons w t =>
            simp at hu
            subst hu
            exact okU_kd ok.2.2.1 (by omega) (by have := ok.2.2.1.1; omega) y
        · omega
      · cases t with
        | nil => exact absurd (ok.2.2 k hek (by omega)).1 y
        | cons u t =>
          have h1 := ht u rfl
          have c : k = u.1 := by
            refine Decidable.byContradiction fun c => ?_
            exact y (ok.2.1.2 k hek (by omega)).1
          rw [lastR, if_pos (by omega)] at hQ
          exact ihr u t ok.2.2.1 ok.2.2.2 (by omega) (by have := ok.2.2.1.1; omega) hQ
    refine ⟨fun u t hu ok h1 h2 hQ => ?_, gap⟩
    by_cases c : k = ue u
    · have g2 := gap (ue u) t ok (by omega) (fun v hv => by
        cases t with
        | nil => cases hv
        | cons w t => simp at hv; subst hv; have := ok.1; omega) hQ
      rw [← c] at g2
      exact g2
    · refine f_M_lastOf_5 ⟨fun z => absurd (by rw [h.2.1] at z; exact z) (nI_ge (by omega) (by omega)), fun _ => ?_⟩
      rw [pk_mul, pk_sub (Nat.le_refl k), nI_ltI (by omega) (by omega), nI_clamp (by omega), (h.2.2 k (by omega)).1, nI_1]
      exact ⟨fun z => by omega, fun z => ⟨vp_in_nI (by omega) (by omega), fun y => absurd y (okU_kd hu h1 (by omega)), fun y => ihr u t hu ok (by omega) (by omega) hQ⟩⟩
theorem s_M_write_loop {g : lp_G} {d : Nat} {Q : Int32 → SS → Prop} {xs ys : List Int32} {R : List (Int32 × Int32)} {ctx : Nat} (hctx : ctx ≤ 3) : ∀ (n k q w h : Nat) (t : List RU) (S : SS) (l : List Int32), R.length - k ≤ n → k ≤ R.length → q ≤ k → okR xs ys R q t → (∀ u, t.head? = some u → k ≤ u.1) → t.length ≤ w → opM S R → paM S l → l.length + (wsp R ctx w t).1.length ≤ 800 → (∀ S', paM S' (l ++ (wsp R ctx w t).1) → om pt1 pt2 S S' → Q (nI (h + (wsp R ctx w t).2)) S') → AtI g um_M_write (d + 3) Q 34 [(0, .ref (g.2.1 + 151)), (1, .int (nI ctx)), (2, .int (nI h)), (3, .int (nI k))] [] S := by
  have wn : ∀ w, wsp R ctx w [] = ([], 0) := fun w => by cases w <;> rfl
  intro n
  induction n with
  | zero =>
    intro k q w h t S l hn hk hq ok ht hw ho hp hl hQ
    have l48 := ho.1
    have et : t = [] := by
      cases t with
      | nil => rfl
      | cons u t =>
        have := ht u rfl
        have := ok.2.2.1.1
        have := ok.2.2.1.2.1
        omega
    subst et
    rw [wn] at hQ
    exact f_M_write_34 ⟨fun _ => hQ S (by simpa using hp) om.re, fun z => absurd (by rw [ho.2.1]; exact nI_le (by omega) (by omega)) z⟩
  | succ n ih =>
    intro k q w h t S l hn hk hq ok ht hw ho hp hl hQ
    have l48 := ho.1
    by_cases hkR : k < R.length
    · refine f_M_write_34 ⟨fun z => absurd (by rw [ho.2.1] at z; exact z) (nI_ge (by omega) (by omega)), fun _ => ⟨vp_in_nI (by omega) (by omega), ?_⟩⟩
      rw [nI_clamp (by omega), (ho.2.2 k hkR).1, nI_1, nI_1]
      refine ⟨fun y => ?_, fun y => ?_⟩
      · cases t with
        | nil => exact absurd (ok.2.2 k hq (by omega)).1 y
        | cons u t =>
          have h1 := ht u rfl
          have c : k = u.1 := by
            refine Decidable.byContradiction fun c => ?_
            exact y (ok.2.1.2 k hq (by omega)).1
          cases w with
          | zero => simp at hw
          | succ w =>
            obtain ⟨k1, k2, k3, k4⟩ := ok
            obtain ⟨a1, a2, a3, a4, a5⟩ := lastR_ok (ctx := ctx) t (ue u) k3.2.1 k4
            have hlt := k3.1
            rw [wsp] at hl hQ
            dsimp only at hl hQ
            rw [List.length_append] at hl
            refine f_M_lastOf ((s_M_last_loop (xs := xs) (ys := ys) hctx ho _ k rfl (by omega)).1 u t k3 k4 (by omega) (by omega) ?_)
            rw [c] at *
            have hto : hTo R ctx (lastR ctx (ue u) t).1 ≤ R.length ∧ u.1 - ctx ≤ hTo R ctx (lastR ctx (ue u) t).1 := by unfold hTo; split <;> omega
            have nx : ∀ S15 : SS, paM S15 (l ++ outH R (u.1 - ctx) (hTo R ctx (lastR ctx (ue u) t).1)) → om pt1 pt2 S S15 → AtI g um_M_write (d + 3) Q 34 [(0, .ref (g.2.1 + 151)), (1, .int (nI ctx)), (2, .int (nI (h + 1))), (3, .int (nI (lastR ctx (ue u) t).1))] [] S15 := by
              intro S15 p15 o15
              refine ih (lastR ctx (ue u) t).1 (lastR ctx (ue u) t).1 w (h + 1) (lastR ctx (ue u) t).2 S15 _ (by omega) a2 (Nat.le_refl _) a3 (fun v hv => by have := a5 v hv; omega) (by simp at hw; omega) (ho.keep o15) p15 (by rw [List.length_append]; omega) fun S2 p2 o2 => ?_
              have := hQ S2 (by simpa only [List.append_assoc] using p2) (o15.tr o2)
              rw [← Nat.add_assoc] at this
              exact this
            have ph : MtV g um_M_putHunk (d + 2) [.ref (g.2.1 + 151), .int (nI (u.1 - ctx)), .int (nI (hTo R ctx (lastR ctx (ue u) t).1))] S (fun S15 => AtI g um_M_write (d + 3) Q 34 [(0, .ref (g.2.1 + 151)), (1, .int (nI ctx)), (2, .int (nI (h + 1))), (3, .int (nI (lastR ctx (ue u) t).1))] [] S15) :=
              (s_M_putHunk ho hto.2 hto.1 hp (by omega)).mono fun S15 ⟨p, o⟩ => nx S15 p o
            rw [ho.2.1, nI_add, nI_leI (by omega) (by omega), nI_leI (by omega) (by omega)]
            refine ⟨fun z => ⟨fun x => ?_, fun x => ?_⟩, fun z => ⟨fun x => ?_, fun x => ?_⟩⟩
            · rw [pk_sub z, show nI ((lastR ctx (ue u) t).1 + ctx) = nI (hTo R ctx (lastR ctx (ue u) t).1) by rw [hTo, if_neg (by omega)]]
              exact ph
            · rw [pk_sub z, show nI R.length = nI (hTo R ctx (lastR ctx (ue u) t).1) by rw [hTo, if_pos (by omega)]]
              exact ph
            · rw [show u.1 - ctx = 0 by omega] at ph
              rw [show nI ((lastR ctx (ue u) t).1 + ctx) = nI (hTo R ctx (lastR ctx (ue u) t).1) by rw [hTo, if_neg (by omega)]]
              exact ph
            · rw [show u.1 - ctx = 0 by omega] at ph
              rw [show nI R.length = nI (hTo R ctx (lastR ctx (ue u) t).1) by rw [hTo, if_pos (by omega)]]
              exact ph
      · refine ih (k + 1) q w h t S l (by omega) (by omega) (by omega) ok (fun u hu => ?_) hw ho hp hl hQ
        have h1 := ht u hu
        by_cases c : k = u.1
        · exfalso
          cases t with
          | nil => cases hu
          | cons v t =>
            simp at hu
            subst hu
            exact okU_kd ok.2.2.1 (by omega) (by have := ok.2.2.1.1; omega) y
        · omega
    · have et : t = [] := by
        cases t with
        | nil => rfl
        | cons u t =>
          have := ht u rfl
          have := ok.2.2.1.1
          have := ok.2.2.1.2.1
          omega
      subst et
      rw [wn] at hQ
      exact f_M_write_34 ⟨fun _ => hQ S (by simpa using hp) om.re, fun z => absurd (by rw [ho.2.1]; exact nI_le (by omega) (by omega)) z⟩
theorem rnF_len {n m : Nat} {pf : Nat → Option Nat} : ∀ (f i x y p : Nat), (rnF n m pf f i x y p).length ≤ f + 1 := by
  have kl : ∀ p x xe y ye, (kr p x xe y ye).length ≤ 1 := fun p x xe y ye => by unfold kr; split <;> simp
  intro f
  induction f with
  | zero => intro i x y p; exact kl _ _ _ _ _
  | succ f ih =>
    intro i x y p
    rw [rnF]
    split
    · have := ih (i + 1) x y p; omega
    · rename_i j _
      have a := ih (i + 1) (i + 1) (j + 1) (p + (i - x) + (j - y) + 1)
      have b := kl p x i y j
      rw [List.length_append]
      omega
theorem sim_write (g : lp_G) (v0 : Int32) : Sim g um_P_write um_M_write [.int v0] := by
  intro m ho
  rcases pk_ix v0 (n := 4) (by omega) with h | h | ⟨ctx, hctx, rfl⟩
  · refine ⟨-1, m, ho, fun S hc => f_P_write ⟨fun _ => ⟨rfl, hc, off.re⟩, fun z => absurd h z⟩, fun S hm => f_M_write ((s_within3_bad (Or.inl h)).mono fun r S' ⟨e1, e2⟩ => ?_)⟩
    subst e1; exact ⟨fun z => absurd e2 z, fun _ => ⟨rfl, hm, off.re⟩⟩
  · refine ⟨-1, m, ho, fun S hc => f_P_write ⟨fun _ => ⟨rfl, hc, off.re⟩, fun z => ⟨fun y => absurd y (by rw [Int32.not_le]; exact lt3 h), fun _ => ⟨rfl, hc, off.re⟩⟩⟩, fun S hm => f_M_write ((s_within3_bad (Or.inr h)).mono fun r S' ⟨e1, e2⟩ => ?_)⟩
    subst e1; exact ⟨fun z => absurd e2 z, fun _ => ⟨rfl, hm, off.re⟩⟩
  · obtain ⟨T, c, l⟩ := m
    cases c with
    | none =>
      refine ⟨-3, _, ho, fun S hc => f_P_write ⟨fun z => absurd z (nI_pos (by omega)), fun _ => ⟨fun _ => ⟨fun _ => ⟨rfl, hc, off.re⟩, fun z => absurd hc.2.1 z⟩, fun z => absurd (nI_le (by omega) (by omega)) z⟩⟩, fun S hm => f_M_write ((s_within3_ok hctx).mono fun r S' ⟨e1, e2⟩ => ?_)⟩
      subst e1
      exact ⟨fun _ => ⟨fun z => absurd hm.2.1 z, fun _ => ⟨rfl, hm, off.re⟩⟩, fun z => absurd (e2.symm.trans z) (by decide)⟩
    | some x =>
      obtain ⟨xs, ys, pf⟩ := x
      obtain ⟨l1, l2, mo⟩ := ho.2 xs ys pf rfl
      have hw := wrt_len (ctx := ctx) l1 l2 mo
      refine ⟨nI (wrt xs ys pf ctx).2, (T, some (xs, ys, pf), (wrt xs ys pf ctx).1), ho, fun S hc => f_P_write ⟨fun z => absurd z (nI_pos (by omega)), fun _ => ⟨fun _ => ⟨fun z => absurd (hc.2.1.1.symm.trans z) (by decide), fun _ => ?_⟩, fun z => absurd (nI_le (by omega) (by omega)) z⟩⟩, fun S hm => f_M_write ((s_within3_ok hctx).mono fun r S' ⟨e1, e2⟩ => ?_)⟩
      · refine (s_W_patch (by omega) mo hc.2.1.2 hc.2.2).mono fun r S' ⟨e1, e2, e3⟩ => ⟨e1, hc.paper e2 (e3.mo fun q z => ?_), e3.mo fun q z => ?_⟩
        · rcases z with z | z
          · unfold wp at z; unfold sk; omega
          · exact Or.inr z
        · unfold wp ap at z; unfold pC; omega
      · subst e1
        refine ⟨fun _ => ⟨fun _ => ?_, fun z => absurd (hm.2.1.1.symm.trans z) (by decide)⟩, fun z => absurd (e2.symm.trans z) (by decide)⟩
        refine (s_M_row l1 l2 mo hm.2.1).mono fun S5 ⟨a5, o5⟩ => ?_
        rintro S7 rfl
        have o7 : om pt1 pt2 S5 (setI S5 151 24 0) := om_I rfl
        have ok := (row_ok l1 l2 mo).1
        refine s_M_write_loop (xs := xs) (ys := ys) (R := rowR xs ys pf) (by omega) 48 0 0 25 0 (rowU xs ys pf) _ [] (by have := row_len (xs := xs) (ys := ys) (pf := pf); omega) (by omega) (by omega) ok (fun u _ => by omega) (by have := rnF_len (n := xs.length) (m := ys.length) (pf := pf) xs.length 0 0 0 0; unfold rowU; omega) (a5.keep o7) ⟨by simp, setI_s, fun i hi => by simp at hi⟩ (by show 0 + (wrt xs ys pf ctx).1.length ≤ 800; omega) fun S8 p8 o8 => ⟨?_, ?_, ?_⟩
        · rw [Nat.zero_add]; rfl
        · refine hm.paper (l := (wrt xs ys pf ctx).1) (by rw [List.nil_append] at p8; exact p8) (((o5.mo (fun j z => by unfold op1 at z; unfold mf; omega) (fun q z => by unfold op2 at z; unfold mk; omega)).tr (o7.mo (fun j z => Or.inr z) (fun q z => Or.inr z))).tr (o8.mo (fun j z => Or.inr z) (fun q z => Or.inr z))) ?_ ?_
          · rw [o8.2 152 (by simp [pt2]), o7.2 152 (by simp [pt2]), o5.2 152 (by simp [op2])]
          · rw [o8.2 153 (by simp [pt2]), o7.2 153 (by simp [pt2]), o5.2 153 (by simp [op2])]
        · exact ((om_M o5 (fun q z => by unfold op2 at z; omega)).tr (om_M o7 (fun q z => by unfold pt2 at z; omega))).tr (om_M o8 (fun q z => by unfold pt2 at z; omega))
