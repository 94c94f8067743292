/-! add and type -/
theorem n8 (x : Int32) : x < 1 ∨ (¬ x < 1 ∧ nI 8 < x) ∨ ∃ k, 1 ≤ k ∧ k ≤ 8 ∧ x = nI k := by
  by_cases h1 : x < 1
  · exact Or.inl h1
  · by_cases h2 : nI 8 < x
    · exact Or.inr (Or.inl ⟨h1, h2⟩)
    · refine Or.inr (Or.inr ?_)
      have h0 : ¬ x < 0 := by
        rw [Int32.lt_iff_toInt_lt] at h1 ⊢
        rw [show (1 : Int32).toInt = 1 from rfl] at h1
        rw [show (0 : Int32).toInt = 0 from rfl]
        omega
      obtain ⟨j, hj, rfl⟩ := nI_of h0
      rw [Int32.lt_iff_toInt_lt, nI_toInt hj] at h1 h2
      rw [show (1 : Int32).toInt = 1 from rfl] at h1
      rw [nI_toInt (by omega)] at h2
      exact ⟨j, by omega, by omega, rfl⟩
theorem s_within18 {g : lp_G} {d : Nat} {S : SS} {x : Int32} : MtI g um_M_within d [.int x, .int 1, .int (nI 8)] S (fun r S' => S' = S ∧ ((r = 0 ∧ (x < 1 ∨ (¬ x < 1 ∧ nI 8 < x))) ∨ (r = 1 ∧ ¬ x < 1 ∧ ¬ nI 8 < x))) :=
  f_M_within ⟨fun h => ⟨rfl, Or.inl ⟨rfl, Or.inl h⟩⟩, fun h1 => ⟨fun h2 => ⟨rfl, Or.inl ⟨rfl, Or.inr ⟨h1, h2⟩⟩⟩, fun h2 => ⟨rfl, Or.inr ⟨rfl, h1, h2⟩⟩⟩⟩
def bs (w : Int64) : Nat → List Int32
  | 0 => []
  | k + 1 => byC w k :: bs w k
theorem bs_len {w : Int64} : ∀ k, (bs w k).length = k
  | 0 => rfl
  | k + 1 => by rw [bs, List.length_cons, bs_len k]
def alB (w : Int64) (n : Nat) : Bool := decide (∀ j, j < n → isLet (byC w j) = true)
theorem s_byteOf {g : lp_G} {d : Nat} {S : SS} {w : Int64} {k : Nat} : MtI g um_P_byteOf d [.long w, .int (nI k)] S (fun r S' => S' = S ∧ r = byC w k) := f_P_byteOf ⟨rfl, rfl⟩
theorem s_areLetters_loop {g : lp_G} {d : Nat} {Q : Int32 → SS → Prop} {S : SS} {w : Int64} {n : Nat} (hn : n ≤ 8) (hQ : Q (b2i (alB w n)) S) : ∀ (k i : Nat), n - i = k → i ≤ n → (∀ j, j < i → isLet (byC w j) = true) → AtI g um_P_areLetters (d + 1) Q 2 [(0, .long w), (2, .int (nI n)), (3, .int (nI i))] [] S := by
  intro k
  induction k with
  | zero =>
    intro i hk hi h
    have e : i = n := by omega
    subst e
    refine f_P_areLetters_2 ⟨fun _ => ?_, fun z => absurd (nI_le (Nat.le_refl _) (by omega)) z⟩
    rw [show alB w i = true from decide_eq_true h] at hQ
    exact hQ
  | succ k ih =>
    intro i hk hi h
    refine f_P_areLetters_2 ⟨fun z => absurd z (nI_ge (by omega) (by omega)), fun _ => ?_⟩
    refine s_byteOf.mono fun r S1 ⟨e1, e2⟩ => ?_
    subst e1
    subst e2
    refine s_P_isLetter.mono fun r S2 ⟨e1, e2⟩ => ?_
    subst e1
    subst e2
    rw [nI_1]
    refine ⟨fun z => ih (i + 1) (by omega) (by omega) fun j hj => ?_, fun z => ?_⟩
    · rw [b2i_1] at z
      by_cases e : j = i
      · subst e; exact z
      · exact h j (by omega)
    · rw [b2i_0] at z
      rw [show alB w n = false from decide_eq_false fun a => by rw [a i (by omega)] at z; exact absurd z (by decide)] at hQ
      exact hQ
theorem s_areLetters {g : lp_G} {d : Nat} {S : SS} {w : Int64} {n : Nat} (hn : n ≤ 8) : MtI g um_P_areLetters (d + 1) [.long w, .int (nI n)] S (fun r S' => S' = S ∧ r = b2i (alB w n)) :=
  f_P_areLetters (s_areLetters_loop (i := 0) hn ⟨rfl, rfl⟩ _ rfl (Nat.zero_le _) fun j hj => by omega)
theorem s_add_loop {g : lp_G} {d : Nat} {Q : Int32 → SS → Prop} {w : Int64} {t : Nat} (ht : t < 4) : ∀ (k : Nat) (S : SS) (l : List Int32), k ≤ 8 → tx S (143 + 2 * t) l → l.length + k ≤ 24 → (∀ S', tx S' (143 + 2 * t) (l ++ bs w k) → off (tp (143 + 2 * t)) S S' → Q (nI (l.length + k)) S') → AtI g um_P_add (d + 1) Q 57 [(0, .ref (g.2.1 + 0)), (1, .int (nI t)), (2, .long w), (5, .int (nI k + -1))] [] S := by
  intro k
  induction k with
  | zero =>
    intro S l hk h hl hQ
    refine f_P_add_57 ⟨fun _ => ⟨vp_in_nI ht (by omega), ?_⟩, fun z => absurd (by decide) z⟩
    rw [nI_clamp (by omega), h.2.1]
    exact hQ S (by simpa [bs] using h) off.re
  | succ k ih =>
    intro S l hk h hl hQ
    rw [pk_m1]
    refine f_P_add_57 ⟨fun z => absurd z (nI_pos (by omega)), fun _ => ⟨vp_in_nI ht (by omega), ?_⟩⟩
    refine s_byteOf.mono fun r S1 ⟨e1, e2⟩ => ?_
    subst e1
    subst e2
    rw [nI_clamp (by omega)]
    refine (s_T_append (isT_t ht) h).mono fun S2 ⟨a1, a2⟩ => ?_
    rw [List.take_of_length_le (by simp; omega)] at a1
    refine ih S2 (l ++ [byC w k]) (by omega) a1 (by simp; omega) fun S3 c1 c2 => ?_
    have := hQ S3 (by simpa [bs] using c1) (a2.tr c2)
    rw [show (l ++ [byC w k]).length + k = l.length + (k + 1) by simp; omega]
    exact this
theorem s_M_add_loop {g : lp_G} {d : Nat} {Q : Int32 → SS → Prop} {w : Int64} {t : Nat} (ht : t < 4) : ∀ (k : Nat) (S : SS) (l : List Int32), k ≤ 8 → tm S t l → l.length + k ≤ 24 → (∀ S', tm S' t (l ++ bs w k) → om mf mk S S' → (∀ i, i < 24 * t ∨ 24 * t + 24 ≤ i → S'.2 152 i = S.2 152 i) → (∀ j, j ≠ t → S'.2 153 j = S.2 153 j) → Q (nI (l.length + k)) S') → AtI g um_M_add (d + 1) Q 95 [(0, .ref (g.2.1 + 151)), (1, .int (nI t)), (2, .long w), (6, .int (nI k + -1))] [] S := by
  intro k
  induction k with
  | zero =>
    intro S l hk h hl hQ
    refine f_M_add_95 ⟨fun _ => ⟨vp_in_nI ht (by omega), ?_⟩, fun z => absurd (by decide) z⟩
    rw [nI_clamp (by omega), h.2.1]
    exact hQ S (by simpa [bs] using h) om.re (fun _ _ => rfl) (fun _ _ => rfl)
  | succ k ih =>
    intro S l hk h hl hQ
    rw [pk_m1]
    refine f_M_add_95 ⟨fun z => absurd z (nI_pos (by omega)), fun _ => ⟨vp_in_nI ht (by omega), ?_⟩⟩
    rw [nI_clamp (by omega), h.2.1, show ((w >>> ((nI 8 * nI k).toInt64 &&& 63)).toInt32) &&& nI 255 = byC w k from (by_eq w k (by omega)).symm]
    simp (disch := omega) only [pk_mul, nI_add, nI_clamp]
    refine ⟨vp_in_nI (by omega) (by omega), ?_⟩
    rintro S18 rfl
    refine ⟨vp_in_nI ht (by omega), vp_in_nI ht (by omega), ?_⟩
    rw [setA_o (by omega), h.2.1, nI_1]
    rintro S21 rfl
    refine ih _ (l ++ [byC w k]) (by omega) ⟨by simp; omega, ?_, fun i hi => ?_⟩ (by simp; omega) fun S3 c1 c2 c3 c4 => ?_
    · rw [setA_s, List.length_append]; rfl
    · rw [setA_o (by omega)]
      by_cases e : i = l.length
      · subst e
        rw [setA_s, gd_r (Nat.le_refl _)]
        simp
      · have hi : i < l.length := by simp at hi; omega
        rw [setA_o (by omega), h.2.2 i hi, gd_l hi]
    · rw [show (l ++ [byC w k]).length + k = l.length + (k + 1) by simp; omega]
      refine hQ S3 (by simpa [bs] using c1) (((om_A (by simp [mk])).tr (om_A (by simp [mk]))).tr c2) (fun i hi => ?_) (fun j hj => ?_)
      · rw [c3 i hi, setA_o (by omega), setA_o (by omega)]
      · rw [c4 j hj, setA_o (by omega), setA_o (by omega)]
theorem s_M_add_let {g : lp_G} {d : Nat} {Q : Int32 → SS → Prop} {S : SS} {w : Int64} {n t : Nat} {l : List Int32} (hn1 : 1 ≤ n) (hn : n ≤ 8) (ht : t < 4) (hl : tm S t l) (h1 : alB w n = false → Q (-1) S) (h2 : alB w n = true → ¬ l.length + n ≤ 24 → Q (-2) S) (h3 : alB w n = true → l.length + n ≤ 24 → AtI g um_M_add (d + 2) Q 95 [(0, .ref (g.2.1 + 151)), (1, .int (nI t)), (2, .long w), (6, .int (nI n + -1))] [] S) : ∀ (k i : Nat) (b : Bool), n - i = k → i ≤ n → (b = true ↔ ∀ j, j < i → isLet (byC w j) = true) → AtI g um_M_add (d + 2) Q 30 [(0, .ref (g.2.1 + 151)), (1, .int (nI t)), (2, .long w), (4, .int (nI n)), (5, .int (b2i b)), (6, .int (nI i))] [] S := by
  have hl1 := hl.1
  intro k
  induction k with
  | zero =>
    intro i b hk hi h
    have e : i = n := by omega
    subst e
    refine f_M_add_30 ⟨fun _ => ⟨fun z => ⟨vp_in_nI ht (by omega), ?_⟩, fun z => ?_⟩, fun z => absurd (nI_le (Nat.le_refl _) (by omega)) z⟩
    · rw [b2i_1] at z
      have hb : alB w i = true := decide_eq_true (h.mp z)
      rw [nI_clamp (by omega), hl.2.1, nI_add]
      refine ⟨fun y => ?_, fun y => ?_⟩
      · rw [nI_leI (by omega) (by omega)] at y
        have := h3 hb y
        rw [sb_m1 (by omega)] at this
        rw [show (1 : Int32) = nI 1 from rfl, pk_sub (by omega)]
        exact this
      · rw [nI_leI (by omega) (by omega)] at y
        exact h2 hb y
    · rw [b2i_0] at z
      exact h1 (decide_eq_false fun y => by rw [h.mpr y] at z; exact absurd z (by decide))
  | succ k ih =>
    intro i b hk hi h
    refine f_M_add_30 ⟨fun z => absurd z (nI_ge (by omega) (by omega)), fun _ => ⟨fun z => ?_, fun z => ?_⟩⟩
    · rw [b2i_0] at z
      refine h1 (decide_eq_false fun y => ?_)
      rw [h.mpr (fun j hj => y j (by omega))] at z
      exact absurd z (by decide)
    · rw [b2i_1] at z
      rw [show ((w >>> ((nI 8 * nI i).toInt64 &&& 63)).toInt32) &&& nI 255 = byC w i from (by_eq w i (by omega)).symm]
      refine s_M_isLetter.mono fun r S1 ⟨e1, e2⟩ => ?_
      subst e1
      subst e2
      rw [nI_1]
      refine ih (i + 1) _ (by omega) (by omega) ⟨fun y j hj => ?_, fun y => y i (by omega)⟩
      by_cases e : j = i
      · subst e; exact y
      · exact h.mp z j (by omega)
theorem s_M_add_bad {g : lp_G} {d : Nat} {Q : Int32 → SS → Prop} {S : SS} {x1 x4 : Int32} {w : Int64} (h : Q (-1) S) : AtI g um_M_add (d + 1) Q 30 [(0, .ref (g.2.1 + 151)), (1, .int x1), (2, .long w), (4, .int x4), (5, .int 0), (6, .int 0)] [] S :=
  f_M_add_30 ⟨fun _ => ⟨fun z => absurd rfl z, fun _ => h⟩, fun _ => ⟨fun _ => h, fun z => absurd rfl z⟩⟩
theorem sim_add (g : lp_G) (v0 : Int32) (v1 : Int64) (v2 : Int32) : Sim g um_P_add um_M_add [.int v0, .long v1, .int v2] := by
  intro m ho
  have bad : (v0 < 0 ∨ nI 4 ≤ v0) → ∃ (r : Int32) (m' : MS), okM m' ∧ (∀ S, relC S m → MtI g um_P_add 8 (.ref (g.2.1 + 0) :: [.int v0, .long v1, .int v2]) S (fun r' S' => r' = r ∧ relC S' m' ∧ off pC S S')) ∧ ∀ S, relM S m → MtI g um_M_add 8 (.ref (g.2.1 + 151) :: [.int v0, .long v1, .int v2]) S (fun r' S' => r' = r ∧ relM S' m' ∧ off pM S S') := by
    intro h
    refine ⟨-1, m, ho, fun S hc => f_P_add ((s_isText_bad h).mono fun r S' ⟨e1, e2⟩ => ?_), fun S hm => f_M_add ((s_within3_bad h).mono fun r S' ⟨e1, e2⟩ => ?_)⟩
    · subst e1; exact ⟨fun _ => ⟨rfl, hc, off.re⟩, fun z => absurd e2 z⟩
    · subst e1; exact ⟨fun _ => s_M_add_bad ⟨rfl, hm, off.re⟩, fun z => absurd e2 z⟩
  rcases pk_ix v0 (n := 4) (by omega) with h | h | ⟨t, ht, rfl⟩
  · exact bad (Or.inl h)
  · exact bad (Or.inr h)
  · have bad2 : (v2 < 1 ∨ (¬ v2 < 1 ∧ nI 8 < v2)) → ∃ (r : Int32) (m' : MS), okM m' ∧ (∀ S, relC S m → MtI g um_P_add 8 (.ref (g.2.1 + 0) :: [.int (nI t), .long v1, .int v2]) S (fun r' S' => r' = r ∧ relC S' m' ∧ off pC S S')) ∧ ∀ S, relM S m → MtI g um_M_add 8 (.ref (g.2.1 + 151) :: [.int (nI t), .long v1, .int v2]) S (fun r' S' => r' = r ∧ relM S' m' ∧ off pM S S') := by
      intro h
      refine ⟨-1, m, ho, fun S hc => f_P_add ((s_isText_ok ht).mono fun r S' ⟨e1, e2⟩ => ?_), fun S hm => f_M_add ((s_within3_ok ht).mono fun r S' ⟨e1, e2⟩ => ?_)⟩
      · subst e1
        refine ⟨fun z => absurd (e2.symm.trans z) (by decide), fun _ => ⟨fun _ => ⟨rfl, hc, off.re⟩, fun z => ⟨fun _ => ⟨rfl, hc, off.re⟩, fun y => ?_⟩⟩⟩
        rcases h with h | h
        · exact absurd h z
        · exact absurd h.2 y
      · subst e1
        refine ⟨fun z => absurd (e2.symm.trans z) (by decide), fun _ => s_within18.mono fun r S1 ⟨f1, f2⟩ => ?_⟩
        subst f1
        refine ⟨fun _ => s_M_add_bad ⟨rfl, hm, off.re⟩, fun z => ?_⟩
        rcases f2 with f2 | f2
        · exact absurd f2.1 z
        · rcases h with h | h
          · exact absurd h f2.2.1
          · exact absurd h.2 f2.2.2
    rcases n8 v2 with h | h | ⟨n, hn1, hn8, rfl⟩
    · exact bad2 (Or.inl h)
    · exact bad2 (Or.inr h)
    · have n1 : ¬ nI n < 1 := by rw [show (1 : Int32) = nI 1 from rfl]; exact nI_nlt (by omega) (by omega)
      have n2 : ¬ nI 8 < nI n := nI_nlt (by omega) (by omega)
      have hl := ho.1 t ht
      have sM : ∀ {S : SS} {Q : Int32 → SS → Prop}, AtI g um_M_add 8 Q 30 [(0, .ref (g.2.1 + 151)), (1, .int (nI t)), (2, .long v1), (4, .int (nI n)), (5, .int (b2i true)), (6, .int (nI 0))] [] S → MtI g um_M_add 8 (.ref (g.2.1 + 151) :: [.int (nI t), .long v1, .int (nI n)]) S Q := by
        intro S Q h
        refine f_M_add ((s_within3_ok ht).mono fun r S' ⟨e1, e2⟩ => ?_)
        subst e1
        refine ⟨fun z => absurd (e2.symm.trans z) (by decide), fun _ => s_within18.mono fun r S1 ⟨f1, f2⟩ => ?_⟩
        subst f1
        rcases f2 with f2 | f2
        · rcases f2.2 with f3 | f3
          · exact absurd f3 n1
          · exact absurd f3.2 n2
        · exact ⟨fun z => absurd (f2.1.symm.trans z) (by decide), fun _ => h⟩
      cases hb : alB v1 n with
      | false =>
        refine ⟨-1, m, ho, fun S hc => f_P_add ((s_isText_ok ht).mono fun r S' ⟨e1, e2⟩ => ?_), fun S hm => sM ?_⟩
        · subst e1
          refine ⟨fun z => absurd (e2.symm.trans z) (by decide), fun _ => ⟨fun z => absurd z n1, fun z => ⟨fun z => absurd z n2, fun y => ?_⟩⟩⟩
          refine (s_areLetters hn8).mono fun r S1 ⟨f1, f2⟩ => ?_
          subst f1
          rw [hb] at f2
          exact ⟨fun z => absurd f2 z, fun _ => ⟨rfl, hc, off.re⟩⟩
        · exact s_M_add_let hn1 hn8 ht (hm.1 t ht) (fun _ => ⟨rfl, hm, off.re⟩) (fun z => absurd (hb.symm.trans z) (by decide)) (fun z => absurd (hb.symm.trans z) (by decide)) _ 0 true rfl (Nat.zero_le _) (by simp)
      | true =>
        by_cases h24 : (m.1 t).length + n ≤ 24
        · refine ⟨nI ((m.1 t).length + n), (upT m.1 t (m.1 t ++ bs v1 n), m.2), ho.text (by simp [bs_len]; omega), fun S hc => f_P_add ((s_isText_ok ht).mono fun r S' ⟨e1, e2⟩ => ?_), fun S hm => sM ?_⟩
          · subst e1
            refine ⟨fun z => absurd (e2.symm.trans z) (by decide), fun _ => ⟨fun z => absurd z n1, fun z => ⟨fun z => absurd z n2, fun y => ?_⟩⟩⟩
            refine (s_areLetters hn8).mono fun r S1 ⟨f1, f2⟩ => ?_
            subst f1
            rw [hb] at f2
            refine ⟨fun _ => ⟨vp_in_nI ht (by omega), ?_⟩, fun z => absurd (f2.symm.trans z) (by decide)⟩
            rw [nI_clamp (by omega), (hc.1 t ht).2.1, nI_add]
            refine ⟨fun _ => ?_, fun z => absurd (nI_le h24 (by omega)) z⟩
            rw [show (1 : Int32) = nI 1 from rfl, pk_sub (by omega), ← sb_m1 (by omega)]
            exact s_add_loop ht n _ _ hn8 (hc.1 t ht) h24 fun S2 c1 c2 => ⟨rfl, hc.text ht c1 (c2.mo fun q z => Or.inr z), c2.mo (fun q z => by unfold tp at z; unfold pC; omega)⟩
          · refine s_M_add_let hn1 hn8 ht (hm.1 t ht) (fun z => absurd (hb.symm.trans z) (by decide)) (fun _ z => absurd h24 z) (fun _ _ => ?_) _ 0 true rfl (Nat.zero_le _) (by simp)
            exact s_M_add_loop ht n _ _ hn8 (hm.1 t ht) h24 fun S2 c1 c2 c3 c4 => ⟨rfl, hm.text ht c1 c2 c3 c4, om_M c2 (fun q z => z.1)⟩
        · refine ⟨-2, m, ho, fun S hc => f_P_add ((s_isText_ok ht).mono fun r S' ⟨e1, e2⟩ => ?_), fun S hm => sM ?_⟩
          · subst e1
            refine ⟨fun z => absurd (e2.symm.trans z) (by decide), fun _ => ⟨fun z => absurd z n1, fun z => ⟨fun z => absurd z n2, fun y => ?_⟩⟩⟩
            refine (s_areLetters hn8).mono fun r S1 ⟨f1, f2⟩ => ?_
            subst f1
            rw [hb] at f2
            refine ⟨fun _ => ⟨vp_in_nI ht (by omega), ?_⟩, fun z => absurd (f2.symm.trans z) (by decide)⟩
            rw [nI_clamp (by omega), (hc.1 t ht).2.1, nI_add]
            exact ⟨fun z => absurd z (nI_ge (by omega) (by omega)), fun _ => ⟨rfl, hc, off.re⟩⟩
          · exact s_M_add_let hn1 hn8 ht (hm.1 t ht) (fun z => absurd (hb.symm.trans z) (by decide)) (fun _ _ => ⟨rfl, hm, off.re⟩) (fun _ z => absurd z h24) _ 0 true rfl (Nat.zero_le _) (by simp)
