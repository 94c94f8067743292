/-! compare -/
theorem nm_bd {pf : Nat → Option Nat} {n m : Nat} (hm : mono pf n m) : ∀ (k B : Nat), (∀ q r, q < k → pf q = some r → r < B) → nm pf k ≤ B
  | 0, B, _ => Nat.zero_le _
  | k + 1, B, h => by
    rw [nm]
    cases e : pf k with
    | none =>
      have := nm_bd hm k B (fun q r hq => h q r (by omega))
      simpa using this
    | some r0 =>
      have h1 := nm_bd hm k r0 (fun q r hq hr => hm.2 q r k r0 hr e hq)
      have h2 := h k r0 (by omega) e
      simp
      omega
theorem nm_ext {pf : Nat → Option Nat} {n m : Nat} (hm : mono pf n m) : ∀ k, nm pf (n + k) = nm pf n
  | 0 => rfl
  | k + 1 => by
    rw [show n + (k + 1) = (n + k) + 1 by omega, nm, nm_ext hm k]
    cases e : pf (n + k) with
    | none => rfl
    | some r => have := (hm.1 _ _ e).1; omega
theorem s_M_cmp153 {g : lp_G} {d : Nat} {Q : Int32 → SS → Prop} {xs ys : List Int32} {pf : Nat → Option Nat} {v : Nat} (hv : 2 * v ≤ xs.length + ys.length) : ∀ (m n : Nat) (S : SS), ys.length - n = m → n ≤ ys.length → cmM S xs ys pf → (∀ k, k < n → S.2 165 k = ys.getD k 0) → (∀ S', (∀ k, k < ys.length → S'.2 165 k = ys.getD k 0) → om (fun _ => False) (fun q => q = 165) S S' → Q (nI (xs.length + ys.length - 2 * v)) S') → AtI g um_M_compare (d + 1) Q 153 [(0, .ref (g.2.1 + 151)), (4, .int (nI v)), (5, .int (nI n))] [] S := by
  intro m
  induction m with
  | zero =>
    intro n S hm hn hc h hQ
    have l2 := hc.2.1
    have en' : n = ys.length := by omega
    subst en'
    refine f_M_compare_153 ⟨fun _ => ?_, fun z => absurd (by rw [hc.2.2.2.1]; exact nI_le (Nat.le_refl _) (by omega)) z⟩
    rw [hc.2.2.1, hc.2.2.2.1, nI_add, pk_mul, pk_sub hv]
    exact hQ S h om.re
  | succ m ih =>
    intro n S hm hn hc h hQ
    have l2 := hc.2.1
    refine f_M_compare_153 ⟨fun z => absurd (by rw [hc.2.2.2.1] at z; exact z) (nI_ge (by omega) (by omega)), fun _ => ⟨vp_in_nI (by omega) (by omega), vp_in_nI (by omega) (by omega), ?_⟩⟩
    rw [nI_clamp (by omega), hc.2.2.2.2.2.1 n (by omega), nI_1]
    rintro S35 rfl
    have o : om (fun _ => False) (fun q => q = 165) S (setA S 165 n (ys.getD n 0)) := om_A rfl
    refine ih (n + 1) _ (by omega) (by omega) (hc.keep o (fun z => z) (fun z => z) (by omega) (by omega) (by omega)) (fun k hk => ?_) fun S' a b => hQ S' a (o.tr b)
    by_cases e : k = n
    · subst e; exact setA_s
    · rw [setA_o (by omega)]; exact h k (by omega)
theorem s_M_cmp86 {g : lp_G} {d : Nat} {Q : Int32 → SS → Prop} {xs ys : List Int32} {pf : Nat → Option Nat} (hpf : ∀ q r, pf q = some r → r < 24) : ∀ (m n : Nat) (S : SS), xs.length - n = m → n ≤ xs.length → cmM S xs ys pf → (∀ k, k < n → S.2 164 k = xs.getD k 0 ∧ S.2 166 k = em (pf k)) → (∀ S', (∀ k, k < xs.length → S'.2 164 k = xs.getD k 0 ∧ S'.2 166 k = em (pf k)) → cmM S' xs ys pf → om (fun _ => False) (fun q => q = 164 ∨ q = 166) S S' → AtI g um_M_compare (d + 1) Q 153 [(0, .ref (g.2.1 + 151)), (4, .int (nI (nm pf xs.length))), (5, .int (nI 0))] [] S') → AtI g um_M_compare (d + 1) Q 86 [(0, .ref (g.2.1 + 151)), (4, .int (nI (nm pf n))), (5, .int (nI n))] [] S := by
  intro m
  induction m with
  | zero =>
    intro n S hm hn hc h hQ
    have l1 := hc.1
    have en' : n = xs.length := by omega
    subst en'
    exact f_M_compare_86 ⟨fun _ => hQ S h hc om.re, fun z => absurd (by rw [hc.2.2.1]; exact nI_le (Nat.le_refl _) (by omega)) z⟩
  | succ m ih =>
    intro n S hm hn hc h hQ
    have l1 := hc.1
    have vv : vp_in (nI n) 24 := vp_in_nI (by omega) (by omega)
    refine f_M_compare_86 ⟨fun z => absurd (by rw [hc.2.2.1] at z; exact z) (nI_ge (by omega) (by omega)), fun _ => ⟨vv, vv, ?_⟩⟩
    rw [nI_clamp (by omega), hc.2.2.2.2.1 n (by omega), nI_1, nI_1]
    rintro S26 rfl
    refine ⟨vv, vv, ?_⟩
    rw [setA_o (by omega), hc.2.2.2.2.2.2 n (by omega)]
    rintro S29 rfl
    refine ⟨vv, ?_⟩
    have o : om (fun _ => False) (fun q => q = 164 ∨ q = 166) S (setA (setA S 164 n (xs.getD n 0)) 166 n (em (pf n))) := (om_A (Or.inl rfl)).tr (om_A (Or.inr rfl))
    have c29 : cmM (setA (setA S 164 n (xs.getD n 0)) 166 n (em (pf n))) xs ys pf := hc.keep o (fun z => z) (fun z => z) (by omega) (by omega) (by omega)
    have nx := ih (n + 1) _ (by omega) (by omega) c29 (fun k hk => by
      by_cases e : k = n
      · subst e; rw [setA_o (by omega), setA_s, setA_s]; exact ⟨rfl, rfl⟩
      · rw [setA_o (by omega), setA_o (by omega), setA_o (by omega), setA_o (by omega)]; exact h k (by omega)) fun S' a b c => hQ S' a b (o.tr c)
    rw [c29.2.2.2.2.2.2 n (by omega)]
    rw [nm] at nx
    cases e : pf n with
    | none =>
      rw [e] at nx
      exact ⟨fun _ => nx, fun z => absurd (by decide) z⟩
    | some r =>
      rw [e] at nx
      have := hpf n r e
      exact ⟨fun z => absurd z (nI_pos (by omega)), fun _ => nx⟩
theorem w01 {v : Int32} (h : ¬ v < 0 ∧ ¬ (1 : Int32) < v) : v = 0 ∨ v = 1 := by
  obtain ⟨k, hk, rfl⟩ := nI_of h.1
  have h2 := h.2
  rw [Int32.lt_iff_toInt_lt, nI_toInt hk, show (1 : Int32).toInt = 1 from rfl] at h2
  have : k = 0 ∨ k = 1 := by omega
  rcases this with e | e
  · left; rw [e]; rfl
  · right; rw [e]; rfl
def cf1 : Nat → Prop := fun j => j = 2 ∨ j = 3 ∨ j = 8
def cf2 : Nat → Prop := fun q => 154 ≤ q ∧ q ≤ 163
theorem s_M_cAll {g : lp_G} {d : Nat} {Q : SS → Prop} {S : SS} {x y w : Nat} {xs ys : List Int32} (hw : w < 2) (hx : x < 4) (hy : y < 4) (h1 : tm S x xs) (h2 : tm S y ys) (hQ : ∀ S', cmM S' xs ys (if w = 0 then shw xs ys 0 xs.length 0 ys.length else stw xs ys) → om cf1 cf2 S S' → Q S') : MtV g um_M_take (d + 3) [.ref (g.2.1 + 151), .int (nI x), .int (nI y)] S (fun S1 => MtV g um_M_compareAll (d + 3) [.ref (g.2.1 + 151), .int (nI w)] S1 Q) := by
  by_cases c : w = 0
  · subst c
    rw [if_pos rfl] at hQ
    exact s_M_takeShort hx hy h1 h2 fun S' a o => hQ S' a (o.mo (fun j z => by unfold sh1 at z; unfold cf1; omega) (fun q z => by unfold sh2 at z; unfold cf2; omega))
  · have c1 : w = 1 := by omega
    subst c1
    rw [if_neg c] at hQ
    refine (s_M_take hx hy h1 h2).mono fun S1 ⟨a1, o1⟩ => ?_
    have l1 := a1.1
    refine f_M_compareAll ⟨fun _ => ?_, fun z => absurd z (by decide)⟩
    rintro S2 rfl
    have o2 : om cf1 cf2 S1 (setI S1 151 8 0) := om_I (by simp [cf1])
    have o2b : om aw1 d0 S1 (setI S1 151 8 0) := om_I rfl
    have m2 := a1.keep o2b (by simp [aw1]) (by simp [aw1]) (fun z => z) (fun z => z) (fun z => z)
    rw [m2.2.2.1, m2.2.2.2.1]
    refine (s_M_await (x := 0) (y := 0) (W := []) ⟨by simp, by rw [setI_s]; rfl, fun t ht => by simp at ht⟩ (by simp)).mono fun S3 ⟨a3, o3⟩ => ?_
    have e1 : smL [(0, xs.length, 0, ys.length)] = xs.length := by show (xs.length - 0) + 0 = _; omega
    refine s_M_all l1 49 S3 _ [(0, xs.length, 0, ys.length)] (by rw [e1]; show 2 * xs.length + 1 ≤ 49; omega) (Nat.le_refl _) (m2.keep o3 (by simp [aw1]) (by simp [aw1]) (by simp [aw2]) (by simp [aw2]) (by simp [aw2])) a3 wki_0 fun S4 m4 o4 => hQ S4 m4 ?_
    exact (((o1.mo (fun j z => by unfold tk1 at z; unfold cf1; omega) (fun q z => by unfold tk2 at z; unfold cf2; omega)).tr o2).tr (o3.mo (fun j z => by unfold aw1 at z; unfold cf1; omega) (fun q z => by unfold aw2 at z; unfold cf2; omega))).tr (o4.mo (fun j z => by unfold sO1 at z; unfold cf1; omega) (fun q z => by unfold sO2 at z; unfold cf2; omega))
/-- the two ways -/
def wayF (w : Nat) (xs ys : List Int32) : Nat → Option Nat := if w = 0 then shw xs ys 0 xs.length 0 ys.length else stw xs ys
theorem mono_way {w : Nat} {xs ys : List Int32} : mono (wayF w xs ys) xs.length ys.length := by
  unfold wayF
  split
  · exact mono_shw
  · exact mono_stw
theorem sim_compare (g : lp_G) (v0 v1 v2 : Int32) : Sim g um_P_compare um_M_compare [.int v0, .int v1, .int v2] := by
  intro m ho
  have bad0 : (v0 < 0 ∨ nI 4 ≤ v0) → ∃ (r : Int32) (m' : MS), okM m' ∧ (∀ S, relC S m → MtI g um_P_compare 8 (.ref (g.2.1 + 0) :: [.int v0, .int v1, .int v2]) S (fun r' S' => r' = r ∧ relC S' m' ∧ off pC S S')) ∧ ∀ S, relM S m → MtI g um_M_compare 8 (.ref (g.2.1 + 151) :: [.int v0, .int v1, .int v2]) S (fun r' S' => r' = r ∧ relM S' m' ∧ off pM S S') := by
    intro h
    refine ⟨-1, m, ho, fun S hc => f_P_compare ((s_isText_bad h).mono fun r S' ⟨e1, e2⟩ => ?_), fun S hm => f_M_compare ((s_within3_bad h).mono fun r S' ⟨e1, e2⟩ => ?_)⟩
    · subst e1; exact ⟨fun _ => ⟨rfl, hc, off.re⟩, fun z => absurd e2 z⟩
    · subst e1; exact ⟨fun _ => ⟨rfl, hm, off.re⟩, fun z => absurd e2 z⟩
  rcases pk_ix v0 (n := 4) (by omega) with h | h | ⟨x, hx, rfl⟩
  · exact bad0 (Or.inl h)
  · exact bad0 (Or.inr h)
  clear bad0
  have bad1 : (v1 < 0 ∨ nI 4 ≤ v1) → ∃ (r : Int32) (m' : MS), okM m' ∧ (∀ S, relC S m → MtI g um_P_compare 8 (.ref (g.2.1 + 0) :: [.int (nI x), .int v1, .int v2]) S (fun r' S' => r' = r ∧ relC S' m' ∧ off pC S S')) ∧ ∀ S, relM S m → MtI g um_M_compare 8 (.ref (g.2.1 + 151) :: [.int (nI x), .int v1, .int v2]) S (fun r' S' => r' = r ∧ relM S' m' ∧ off pM S S') := by
    intro h
    refine ⟨-1, m, ho, fun S hc => f_P_compare ((s_isText_ok hx).mono fun r S' ⟨e1, e2⟩ => ?_), fun S hm => f_M_compare ((s_within3_ok hx).mono fun r S' ⟨e1, e2⟩ => ?_)⟩
    · subst e1
      refine ⟨fun z => absurd (e2.symm.trans z) (by decide), fun _ => (s_isText_bad h).mono fun r S2 ⟨e1, e2⟩ => ?_⟩
      subst e1; exact ⟨fun _ => ⟨rfl, hc, off.re⟩, fun z => absurd e2 z⟩
    · subst e1
      refine ⟨fun z => absurd (e2.symm.trans z) (by decide), fun _ => (s_within3_bad h).mono fun r S2 ⟨e1, e2⟩ => ?_⟩
      subst e1; exact ⟨fun _ => ⟨rfl, hm, off.re⟩, fun z => absurd e2 z⟩
  rcases pk_ix v1 (n := 4) (by omega) with h | h | ⟨y, hy, rfl⟩
  · exact bad1 (Or.inl h)
  · exact bad1 (Or.inr h)
  clear bad1
  by_cases hv : ¬ v2 < 0 ∧ ¬ (1 : Int32) < v2
  · obtain ⟨w, hw, rfl⟩ : ∃ w, w < 2 ∧ v2 = nI w := by
      rcases w01 hv with e | e
      · exact ⟨0, by omega, e⟩
      · exact ⟨1, by omega, e⟩
    have lx := ho.1 x hx
    have ly := ho.1 y hy
    have mo := mono_way (w := w) (xs := m.1 x) (ys := m.1 y)
    have e24 : nm (wayF w (m.1 x) (m.1 y)) 24 = nm (wayF w (m.1 x) (m.1 y)) (m.1 x).length := by
      have := nm_ext mo (24 - (m.1 x).length)
      rw [show (m.1 x).length + (24 - (m.1 x).length) = 24 by omega] at this
      exact this
    have n1 := nm_le (wayF w (m.1 x) (m.1 y)) (m.1 x).length
    have n2 := nm_bd mo (m.1 x).length (m.1 y).length (fun q r _ hr => (mo.1 q r hr).2)
    have hb : 2 * nm (wayF w (m.1 x) (m.1 y)) (m.1 x).length ≤ (m.1 x).length + (m.1 y).length := by omega
    have sM : ∀ {S : SS} {Q : Int32 → SS → Prop}, relM S m → ((m.1 x).all isLet = false → Q (-3) S) → ((m.1 y).all isLet = false → Q (-3) S) → ((m.1 x).all isLet = true → (m.1 y).all isLet = true → MtV g um_M_take 7 [.ref (g.2.1 + 151), .int (nI x), .int (nI y)] S (fun S16 => MtV g um_M_compareAll 7 [.ref (g.2.1 + 151), .int (nI w)] S16 (fun S18 => ∀ S20 : SS, S20 = setI S18 151 15 1 → ∀ S21 : SS, S21 = setI S20 151 16 (S20.1 151 2) → ∀ S22 : SS, S22 = setI S21 151 17 (S21.1 151 3) → AtI g um_M_compare 8 Q 86 [(0, .ref (g.2.1 + 151)), (4, .int 0), (5, .int 0)] [] S22))) → MtI g um_M_compare 8 (.ref (g.2.1 + 151) :: [.int (nI x), .int (nI y), .int (nI w)]) S Q := by
      intro S Q hm k1 k2 k3
      refine f_M_compare ((s_within3_ok hx).mono fun r S1 ⟨e1, e2⟩ => ?_)
      subst e1
      refine ⟨fun z => absurd (e2.symm.trans z) (by decide), fun _ => (s_within3_ok hy).mono fun r S2 ⟨e1, e2⟩ => ?_⟩
      subst e1
      refine ⟨fun z => absurd (e2.symm.trans z) (by decide), fun _ => s_M_within.mono fun r S3 ⟨e1, e2⟩ => ?_⟩
      subst e1
      rw [decide_eq_true hv] at e2
      refine ⟨fun _ => ?_, fun z => absurd (e2.symm.trans z) (by decide)⟩
      refine (s_M_allLetters hx (hm.1 x hx)).mono fun r S4 ⟨e1, e2⟩ => ?_
      subst e1
      subst e2
      refine ⟨fun z => k1 (b2i_0.mp z), fun z => ?_⟩
      refine (s_M_allLetters hy (hm.1 y hy)).mono fun r S5 ⟨e1, e2⟩ => ?_
      subst e1
      subst e2
      exact ⟨fun u => k3 (b2i_1.mp z) (b2i_1.mp u), fun u => k2 (b2i_0.mp u)⟩
    have sC : ∀ {S : SS} {Q : Int32 → SS → Prop}, relC S m → ((m.1 x).all isLet = false → Q (-3) S) → ((m.1 y).all isLet = false → Q (-3) S) → ((m.1 x).all isLet = true → (m.1 y).all isLet = true → ∀ S18, cm S18 2 (m.1 x) (m.1 y) (fun _ => none) → off (cp 2) S S18 → (w = 0 → MtV g um_S_matchTexts 7 [.ref (g.2.1 + 8), .ref (g.2.1 + 2)] S18 (fun S20 => ∀ S22 : SS, S22 = setI S20 0 2 1 → MtI g um_C_linesChanged 7 [.ref (g.2.1 + 2)] S22 (fun r24 S23 => Q r24 S23))) ∧ (w = 1 → MtV g um_O_matchTexts 7 [.ref (g.2.1 + 36), .ref (g.2.1 + 2)] S18 (fun S20 => ∀ S22 : SS, S22 = setI S20 0 2 1 → MtI g um_C_linesChanged 7 [.ref (g.2.1 + 2)] S22 (fun r24 S23 => Q r24 S23)))) → MtI g um_P_compare 8 (.ref (g.2.1 + 0) :: [.int (nI x), .int (nI y), .int (nI w)]) S Q := by
      intro S Q hc k1 k2 k3
      have vx : vp_in (nI x) 4 := vp_in_nI hx (by omega)
      have vy : vp_in (nI y) 4 := vp_in_nI hy (by omega)
      refine f_P_compare ((s_isText_ok hx).mono fun r S1 ⟨e1, e2⟩ => ?_)
      subst e1
      refine ⟨fun z => absurd (e2.symm.trans z) (by decide), fun _ => (s_isText_ok hy).mono fun r S2 ⟨e1, e2⟩ => ?_⟩
      subst e1
      refine ⟨fun z => absurd (e2.symm.trans z) (by decide), fun _ => ?_⟩
      rw [nI_clamp (n := x) (by omega), nI_clamp (n := y) (by omega)]
      have core : ∀ {K : SS → Prop}, ((m.1 x).all isLet = true → (m.1 y).all isLet = true → ∀ S18, cm S18 2 (m.1 x) (m.1 y) (fun _ => none) → off (cp 2) S2 S18 → K S18) → (vp_in (nI x) 4) ∧ (MtI g um_T_hasOnlyLetters 7 [.ref (g.2.1 + (143 + 2 * x))] S2 (fun r10 S9 => (r10 = 0 → Q (-3) S9) ∧ (¬ r10 = 0 → (vp_in (nI y) 4) ∧ (MtI g um_T_hasOnlyLetters 7 [.ref (g.2.1 + (143 + 2 * y))] S9 (fun r14 S13 => (¬ r14 = 0 → (vp_in (nI x) 4) ∧ ((vp_in (nI y) 4) ∧ (MtV g um_C_begin 7 [.ref (g.2.1 + 2), .ref (g.2.1 + (143 + 2 * x)), .ref (g.2.1 + (143 + 2 * y))] S13 (fun S18 => K S18)))) ∧ (r14 = 0 → Q (-3) S13)))))) := by
        intro K hK
        refine ⟨vx, (s_T_letters (isT_t hx) (hc.1 x hx)).mono fun r S3 ⟨e1, e2⟩ => ?_⟩
        subst e1
        subst e2
        refine ⟨fun z => k1 (b2i_0.mp z), fun z => ⟨vy, (s_T_letters (isT_t hy) (hc.1 y hy)).mono fun r S4 ⟨e1, e2⟩ => ?_⟩⟩
        subst e1
        subst e2
        refine ⟨fun u => ⟨vx, vy, ?_⟩, fun u => k2 (b2i_0.mp u)⟩
        exact (s_C_begin ic2 (isT_t hx) (isT_t hy) (hc.1 x hx) (hc.1 y hy) (by unfold cp; omega) (by unfold cp; omega) (by unfold cp; omega) (by unfold cp; omega)).mono fun S5 ⟨a, b⟩ => hK (b2i_1.mp z) (b2i_1.mp u) S5 a b
      by_cases c : w = 0
      · subst c
        exact ⟨fun _ => core fun p1 p2 S18 q1 q2 => (k3 p1 p2 S18 q1 q2).1 rfl, fun z => absurd rfl z⟩
      · have c1 : w = 1 := by omega
        subst c1
        exact ⟨fun z => absurd z (by decide), fun _ => ⟨fun _ => core fun p1 p2 S18 q1 q2 => (k3 p1 p2 S18 q1 q2).2 rfl, fun z => absurd rfl z⟩⟩
    by_cases hab : (m.1 x).all isLet = true ∧ (m.1 y).all isLet = true
    · refine ⟨nI ((m.1 x).length + (m.1 y).length - 2 * nm (wayF w (m.1 x) (m.1 y)) (m.1 x).length), (m.1, some (m.1 x, m.1 y, wayF w (m.1 x) (m.1 y)), m.2.2), ⟨ho.1, fun xs ys pf e => ?_⟩, fun S hc => sC hc (fun z => absurd (hab.1.symm.trans z) (by decide)) (fun z => absurd (hab.2.symm.trans z) (by decide)) (fun _ _ S18 m18 o18 => ?_), fun S hm => sM hm (fun z => absurd (hab.1.symm.trans z) (by decide)) (fun z => absurd (hab.2.symm.trans z) (by decide)) (fun _ _ => ?_)⟩
      · cases e
        exact ⟨lx, ly, mo⟩
      · have fin : ∀ S20, cm S20 2 (m.1 x) (m.1 y) (wayF w (m.1 x) (m.1 y)) → off (fun q => 2 ≤ q ∧ q ≤ 89) S S20 → ∀ S22 : SS, S22 = setI S20 0 2 1 → MtI g um_C_linesChanged 7 [.ref (g.2.1 + 2)] S22 (fun r24 S23 => r24 = nI ((m.1 x).length + (m.1 y).length - 2 * nm (wayF w (m.1 x) (m.1 y)) (m.1 x).length) ∧ relC S23 (m.1, some (m.1 x, m.1 y, wayF w (m.1 x) (m.1 y)), m.2.2) ∧ off pC S S23) := by
          rintro S20 m20 o20 S22 rfl
          have o22 : off (fun q => q = 0) S20 (setI S20 0 2 1) := off_I rfl
          have m22 := m20.keep o22 (fun q z => by unfold cp at z; omega)
          have oo : off (fun q => q ≤ 89) S (setI S20 0 2 1) := (o20.mo fun q z => z.2).tr (o22.mo fun q z => by have z' : q = 0 := z; show q ≤ 89; omega)
          refine (s_C_linesChanged ic2 m22 (by rw [e24]; exact hb)).mono fun r S23 ⟨e1, e2⟩ => ?_
          subst e1
          rw [e24] at e2
          refine ⟨e2, ⟨fun i hi => (hc.1 i hi).keep oo (by omega) (by omega), ⟨by rw [setI_s], m22⟩, hc.2.2.keep oo (by omega) (by omega)⟩, oo.mo fun q z => by have z' : q ≤ 89 := z; unfold pC; omega⟩
        refine ⟨fun c => ?_, fun c => ?_⟩
        · refine (s_S_matchTexts ic2 (fun q z => by unfold cp at z; omega) m18).mono fun S20 ⟨m20, o20⟩ => fin S20 ?_ ((o18.mo fun q z => by unfold cp at z; show 2 ≤ q ∧ q ≤ 89; omega).tr (o20.mo fun q z => by have z' : (8 ≤ q ∧ q ≤ 35) ∨ pp 2 q := z; unfold pp at z'; show 2 ≤ q ∧ q ≤ 89; omega))
          rw [wayF, if_pos c]
          exact m20
        · refine (s_O_matchTexts m18).mono fun S20 ⟨m20, o20⟩ => fin S20 ?_ ((o18.mo fun q z => by unfold cp at z; show 2 ≤ q ∧ q ≤ 89; omega).tr (o20.mo fun q z => by have z' : pp 2 q ∨ (8 ≤ q ∧ q ≤ 89) := z; unfold pp at z'; show 2 ≤ q ∧ q ≤ 89; omega))
          rw [wayF, if_neg (by omega)]
          exact m20
      · refine s_M_cAll hw hx hy (hm.1 x hx) (hm.1 y hy) fun S18 m18 o18 => ?_
        replace m18 : cmM S18 (m.1 x) (m.1 y) (wayF w (m.1 x) (m.1 y)) := m18
        rintro S20 rfl S21 rfl S22 rfl
        have e2 : (setI S18 151 15 1).1 151 2 = nI (m.1 x).length := by rw [setI_o (by omega)]; exact m18.2.2.1
        rw [e2]
        have e3 : (setI (setI S18 151 15 1) 151 16 (nI (m.1 x).length)).1 151 3 = nI (m.1 y).length := by rw [setI_o (by omega), setI_o (by omega)]; exact m18.2.2.2.1
        rw [e3]
        have o22 : om (fun j => j = 15 ∨ j = 16 ∨ j = 17) d0 S18 (setI (setI (setI S18 151 15 1) 151 16 (nI (m.1 x).length)) 151 17 (nI (m.1 y).length)) := ((om_I (by omega)).tr (om_I (by omega))).tr (om_I (by omega))
        have m22 := m18.keep o22 (by omega) (by omega) (fun z => z) (fun z => z) (fun z => z)
        have f15 : (setI (setI (setI S18 151 15 1) 151 16 (nI (m.1 x).length)) 151 17 (nI (m.1 y).length)).1 151 15 = 1 := by rw [setI_o (by omega), setI_o (by omega), setI_s]
        have f16 : (setI (setI (setI S18 151 15 1) 151 16 (nI (m.1 x).length)) 151 17 (nI (m.1 y).length)).1 151 16 = nI (m.1 x).length := by rw [setI_o (by omega), setI_s]
        have f17 : (setI (setI (setI S18 151 15 1) 151 16 (nI (m.1 x).length)) 151 17 (nI (m.1 y).length)).1 151 17 = nI (m.1 y).length := by rw [setI_s]
        generalize setI (setI (setI S18 151 15 1) 151 16 (nI (m.1 x).length)) 151 17 (nI (m.1 y).length) = S22 at *
        refine s_M_cmp86 (fun q r hr => by have := (mo.1 q r hr).2; omega) _ 0 S22 rfl (Nat.zero_le _) m22 (fun k hk => by omega) fun S23 a23 m23 o23 => ?_
        refine s_M_cmp153 hb _ 0 S23 rfl (Nat.zero_le _) m23 (fun k hk => by omega) fun S24 a24 o24 => ⟨rfl, ?_, ?_⟩
        · refine ⟨fun i hi => ?_, ⟨?_, ?_, ?_, ?_, a24, ?_⟩, ?_⟩
          · have := hm.1 i hi
            unfold tm at this ⊢
            rw [o24.2 152 (by omega), o23.2 152 (by omega), o22.2 152 (fun z => z), o18.2 152 (by unfold cf2; omega), o24.2 153 (by omega), o23.2 153 (by omega), o22.2 153 (fun z => z), o18.2 153 (by unfold cf2; omega)]
            exact this
          · rw [o24.1 151 15 (by simp), o23.1 151 15 (by simp)]; exact f15
          · rw [o24.1 151 16 (by simp), o23.1 151 16 (by simp)]; exact f16
          · rw [o24.1 151 17 (by simp), o23.1 151 17 (by simp)]; exact f17
          · intro k hk
            rw [o24.2 164 (by omega)]
            exact (a23 k hk).1
          · intro k hk
            rw [o24.2 166 (by omega)]
            exact (a23 k hk).2
          · exact (((hm.2.2.keep o18 (by unfold cf1; omega) (by unfold cf2; omega)).keep o22 (by omega) (fun z => z)).keep o23 (fun z => z) (by omega)).keep o24 (fun z => z) (by omega)
        · exact (((om_M o18 (fun q z => by unfold cf2 at z; omega)).tr (om_M o22 (fun q z => z.elim))).tr (om_M o23 (fun q z => by have z' : q = 164 ∨ q = 166 := z; omega))).tr (om_M o24 (fun q z => by have z' : q = 165 := z; omega))
    · refine ⟨-3, m, ho, fun S hc => sC hc (fun _ => ⟨rfl, hc, off.re⟩) (fun _ => ⟨rfl, hc, off.re⟩) (fun p1 p2 => absurd ⟨p1, p2⟩ hab), fun S hm => sM hm (fun _ => ⟨rfl, hm, off.re⟩) (fun _ => ⟨rfl, hm, off.re⟩) (fun p1 p2 => absurd ⟨p1, p2⟩ hab)⟩
  · refine ⟨-1, m, ho, fun S hc => f_P_compare ((s_isText_ok hx).mono fun r S1 ⟨e1, e2⟩ => ?_), fun S hm => f_M_compare ((s_within3_ok hx).mono fun r S1 ⟨e1, e2⟩ => ?_)⟩
    · subst e1
      refine ⟨fun z => absurd (e2.symm.trans z) (by decide), fun _ => (s_isText_ok hy).mono fun r S2 ⟨e1, e2⟩ => ?_⟩
      subst e1
      refine ⟨fun z => absurd (e2.symm.trans z) (by decide), fun _ => ⟨fun z => ?_, fun _ => ⟨fun z => ?_, fun _ => ⟨rfl, hc, off.re⟩⟩⟩⟩
      · subst z; exact absurd ⟨by decide, by decide⟩ hv
      · subst z; exact absurd ⟨by decide, by decide⟩ hv
    · subst e1
      refine ⟨fun z => absurd (e2.symm.trans z) (by decide), fun _ => (s_within3_ok hy).mono fun r S2 ⟨e1, e2⟩ => ?_⟩
      subst e1
      refine ⟨fun z => absurd (e2.symm.trans z) (by decide), fun _ => s_M_within.mono fun r S3 ⟨e1, e2⟩ => ?_⟩
      subst e1
      rw [decide_eq_false hv] at e2
      exact ⟨fun z => absurd e2 z, fun _ => ⟨rfl, hm, off.re⟩⟩
