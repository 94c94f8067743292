/-! the state of both, as lists; what a call does on both sides -/
abbrev MS : Type := (Nat → List Int32) × Option (List Int32 × List Int32 × (Nat → Option Nat)) × List Int32
def cmpC (S : SS) (c : Option (List Int32 × List Int32 × (Nat → Option Nat))) : Prop := match c with
  | none => S.1 0 2 = 0
  | some (xs, ys, pf) => S.1 0 2 = 1 ∧ cm S 2 xs ys pf
def relC (S : SS) (m : MS) : Prop := (∀ t, t < 4 → tx S (143 + 2 * t) (m.1 t)) ∧ cmpC S m.2.1 ∧ pa S m.2.2
def paM (S : SS) (l : List Int32) : Prop := l.length ≤ 900 ∧ S.1 151 24 = nI l.length ∧ ∀ i, i < l.length → S.2 169 i = l.getD i 0
def cmpM (S : SS) (c : Option (List Int32 × List Int32 × (Nat → Option Nat))) : Prop := match c with
  | none => S.1 151 15 = 0
  | some (xs, ys, pf) => S.1 151 15 = 1 ∧ S.1 151 16 = nI xs.length ∧ S.1 151 17 = nI ys.length ∧ (∀ i, i < xs.length → S.2 164 i = xs.getD i 0) ∧ (∀ i, i < ys.length → S.2 165 i = ys.getD i 0) ∧ ∀ i, i < xs.length → S.2 166 i = em (pf i)
def relM (S : SS) (m : MS) : Prop := (∀ t, t < 4 → tm S t (m.1 t)) ∧ cmpM S m.2.1 ∧ paM S m.2.2
/-- partners go up, and stay within both texts -/
def mono (pf : Nat → Option Nat) (n k : Nat) : Prop := (∀ q r, pf q = some r → q < n ∧ r < k) ∧ ∀ q r q' r', pf q = some r → pf q' = some r' → q < q' → r < r'
def okM (m : MS) : Prop := (∀ t, t < 4 → (m.1 t).length ≤ 24) ∧ ∀ xs ys pf, m.2.1 = some (xs, ys, pf) → xs.length ≤ 24 ∧ ys.length ≤ 24 ∧ mono pf xs.length ys.length
def pC : Nat → Prop := fun q => q < 151
def pM : Nat → Prop := fun q => 151 ≤ q
theorem relM.kept {S S' : SS} {m : MS} (h : relM S m) (ho : off pC S S') : relM S' m := by
  have e1 : ∀ q, 151 ≤ q → S'.1 q = S.1 q := fun q hq => (ho q (by unfold pC; omega)).1
  have e2 : ∀ q, 151 ≤ q → S'.2 q = S.2 q := fun q hq => (ho q (by unfold pC; omega)).2
  obtain ⟨t, c, l⟩ := m
  refine ⟨fun i hi => ?_, ?_, ?_⟩
  · have := h.1 i hi
    unfold tm at this ⊢
    rw [e2 153 (by omega), e2 152 (by omega)]
    exact this
  · have := h.2.1
    unfold cmpM at this ⊢
    cases c with
    | none => rw [e1 151 (by omega)]; exact this
    | some x =>
      dsimp only at this ⊢
      rw [e1 151 (by omega), e2 164 (by omega), e2 165 (by omega), e2 166 (by omega)]
      exact this
  · have := h.2.2
    unfold paM at this ⊢
    rw [e1 151 (by omega), e2 169 (by omega)]
    exact this
theorem relC.kept {S S' : SS} {m : MS} (h : relC S m) (ho : off pM S S') : relC S' m := by
  obtain ⟨t, c, l⟩ := m
  refine ⟨fun i hi => (h.1 i hi).keep ho (by unfold pM; omega) (by unfold pM; omega), ?_, h.2.2.keep ho (by unfold pM; omega) (by unfold pM; omega)⟩
  have := h.2.1
  unfold cmpC at this ⊢
  cases c with
  | none => rw [(ho 0 (by unfold pM; omega)).1]; exact this
  | some x =>
    dsimp only at this ⊢
    rw [(ho 0 (by unfold pM; omega)).1]
    exact ⟨this.1, this.2.keep ho (fun q hq => by unfold cp at hq; unfold pM; omega)⟩
/-- on both sides the same answer, and states that stay alike -/
def Sim (g : lp_G) (uc um : lp_M) (As : List Value) : Prop := ∀ m : MS, okM m → ∃ (r : Int32) (m' : MS), okM m' ∧ (∀ S, relC S m → MtI g uc 8 (.ref (g.2.1 + 0) :: As) S (fun r' S' => r' = r ∧ relC S' m' ∧ off pC S S')) ∧ ∀ S, relM S m → MtI g um 8 (.ref (g.2.1 + 151) :: As) S (fun r' S' => r' = r ∧ relM S' m' ∧ off pM S S')
theorem Sim.use {g : lp_G} {uc um : lp_M} {As : List Value} (h : Sim g uc um As) {S : SS} {m : MS} (ho : okM m) (hc : relC S m) (hm : relM S m) {Q : Int32 → SS → Int32 → SS → Prop} (hQ : ∀ r m' S1 S2, okM m' → relC S2 m' → relM S2 m' → Q r S1 r S2) : MtI g uc 8 (.ref (g.2.1 + 0) :: As) S (fun r S1 => MtI g um 8 (.ref (g.2.1 + 151) :: As) S1 (fun r' S2 => Q r S1 r' S2)) := by
  obtain ⟨r, m', o', h1, h2⟩ := h m ho
  refine (h1 S hc).mono fun r1 S1 ⟨e1, c1, f1⟩ => ?_
  refine (h2 S1 (hm.kept f1)).mono fun r2 S2 ⟨e2, c2, f2⟩ => ?_
  rw [e1, e2]
  exact hQ r m' S1 S2 o' (c1.kept f2) c2

theorem Sim.use2 {g : lp_G} {uc um : lp_M} {As : List Value} (h : Sim g uc um As) {S : SS} {m : MS} (ho : okM m) (hc : relC S m) (hm : relM S m) {K : SS → Prop} (hK : ∀ S2 m', okM m' → relC S2 m' → relM S2 m' → K S2) : MtI g uc 8 (.ref (g.2.1 + 0) :: As) S (fun r S1 => MtI g um 8 (.ref (g.2.1 + 151) :: As) S1 (fun r' S2 => (r = r' → K S2) ∧ (¬ r = r' → False))) :=
  h.use ho hc hm (Q := fun r _ r' S2 => (r = r' → K S2) ∧ (¬ r = r' → False)) (fun r m' S1 S2 o c d => ⟨fun _ => hK S2 m' o c d, fun z => z rfl⟩)
def AllSim (g : lp_G) : Prop := (∀ (v0 : Int32) (v1 : Int64) (v2 : Int32), Sim g um_P_add um_M_add [.int v0, .long v1, .int v2]) ∧ (∀ (v0 : Int32), Sim g um_P_clear um_M_clear [.int v0]) ∧ (∀ (v0 : Int32), Sim g um_P_size um_M_size [.int v0]) ∧ (∀ (v0 : Int32) (v1 : Int32), Sim g um_P_line um_M_line [.int v0, .int v1]) ∧ (∀ (v0 : Int32) (v1 : Int32) (v2 : Int32), Sim g um_P_compare um_M_compare [.int v0, .int v1, .int v2]) ∧ (∀ (v0 : Int32), Sim g um_P_match um_M_match [.int v0]) ∧ (∀ (v0 : Int32), Sim g um_P_write um_M_write [.int v0]) ∧ (∀ (v0 : Int64) (v1 : Int32), Sim g um_P_type um_M_type [.long v0, .int v1]) ∧ (Sim g um_P_wipe um_M_wipe []) ∧ (∀ (v0 : Int32), Sim g um_P_character um_M_character [.int v0]) ∧ (Sim g um_P_read um_M_read []) ∧ (∀ (v0 : Int32), Sim g um_P_apply um_M_apply [.int v0]) ∧ (Sim g um_P_merge um_M_merge [])
theorem law_loop {g : lp_G} {b L : Nat} {xs : Nat → Int32} (H : AllSim g) (hL : L ≤ 2560) : ∀ (n i : Nat) (S : SS) (m : MS), (L + 5) - 5 * i ≤ n → okM m → relC S m → relM S m → 5 * i ≤ L + 4 → Ab g uL (ML g b L xs) 178 5367 18 [(0, .ref b), (1, .ref (g.2.1 + 0)), (2, .ref (g.2.1 + 151)), (3, .int (nI (5 * i)))] [] (wc g S) := by
  intro n
  induction n with
  | zero =>
    intro i S m hn ho hc hm hi
    exfalso
    omega
  | succ n ih =>
    intro i S m hn ho hc hm hi
    refine f_L_law_18 ⟨fun _ => trivial, fun hlt => ?_⟩
    have hi5 : 5 * i + 5 ≤ L := by
      rw [Int32.lt_iff_toInt_lt, pk_sub_toInt (by omega) (by omega), nI_toInt (by omega)] at hlt
      omega
    have v0 : vp_in (nI (5 * i)) L := vp_in_nI (by omega) (by omega)
    have v1 : vp_in (nI (5 * i) + 1) L := by rw [nI_1]; exact vp_in_nI (by omega) (by omega)
    have v2 : vp_in (nI (5 * i) + nI 2) L := by rw [nI_add]; exact vp_in_nI (by omega) (by omega)
    have v3 : vp_in (nI (5 * i) + nI 3) L := by rw [nI_add]; exact vp_in_nI (by omega) (by omega)
    have v4 : vp_in (nI (5 * i) + nI 4) L := by rw [nI_add]; exact vp_in_nI (by omega) (by omega)
    have e5 : nI (5 * i) + 5 = nI (5 * (i + 1)) := by
      rw [show (5 : Int32) = nI 5 from rfl, nI_add, show 5 * i + 5 = 5 * (i + 1) by omega]
    have next : ∀ S2 m', okM m' → relC S2 m' → relM S2 m' → Ab g uL (ML g b L xs) 178 5367 18 [(0, .ref b), (1, .ref (g.2.1 + 0)), (2, .ref (g.2.1 + 151)), (3, .int (nI (5 * i) + 5))] [] (wc g S2) := fun S2 m' o' c' d' => by
      rw [e5]
      exact ih (i + 1) S2 m' (by omega) o' c' d' (by omega)
    obtain ⟨h0, h1, h2, h3, h4, h5, h6, h7, h8, h9, h10, h11, h12⟩ := H
    refine ⟨v0, ?_⟩
    generalize nI (5 * i) = x3 at v0 v1 v2 v3 v4 next ⊢
    refine ⟨fun _ => ?_, fun _ => ?_, fun _ => ?_, fun _ => ?_, fun _ => ?_, fun _ => ?_, fun _ => ?_, fun _ => ?_, fun _ => ?_, fun _ => ?_, fun _ => ?_, fun _ => ?_, fun _ => ?_, fun _ => ?_⟩
    · exact ⟨v1, v2, v3, v4, ((h0 _ _ _).use2 ho hc hm next).mono fun r S1 q => ⟨v1, v2, v3, v4, q⟩⟩
    · exact ⟨v1, ((h1 _).use2 ho hc hm next).mono fun r S1 q => ⟨v1, q⟩⟩
    · exact ⟨v1, ((h2 _).use2 ho hc hm next).mono fun r S1 q => ⟨v1, q⟩⟩
    · exact ⟨v1, v2, ((h3 _ _).use2 ho hc hm next).mono fun r S1 q => ⟨v1, v2, q⟩⟩
    · exact ⟨v1, v2, v3, ((h4 _ _ _).use2 ho hc hm next).mono fun r S1 q => ⟨v1, v2, v3, q⟩⟩
    · exact ⟨v1, ((h5 _).use2 ho hc hm next).mono fun r S1 q => ⟨v1, q⟩⟩
    · exact ⟨v1, ((h6 _).use2 ho hc hm next).mono fun r S1 q => ⟨v1, q⟩⟩
    · exact ⟨v1, v2, v3, ((h7 _ _).use2 ho hc hm next).mono fun r S1 q => ⟨v1, v2, v3, q⟩⟩
    · exact (h8).use2 ho hc hm next
    · exact ⟨v1, ((h9 _).use2 ho hc hm next).mono fun r S1 q => ⟨v1, q⟩⟩
    · exact (h10).use2 ho hc hm next
    · exact ⟨v1, ((h11 _).use2 ho hc hm next).mono fun r S1 q => ⟨v1, q⟩⟩
    · exact (h12).use2 ho hc hm next
    · exact next S m ho hc hm
