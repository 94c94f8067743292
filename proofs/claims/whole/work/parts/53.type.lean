theorem s_M_put {g : lp_G} {d : Nat} {S : SS} {l : List Int32} {x : Int32} (h : paM S l) (hl : l.length < 900) : MtV g um_M_put d [.ref (g.2.1 + 151), .int x] S (fun S' => paM S' (l ++ [x]) ∧ om (fun j => j = 24) (fun q => q = 169) S S') := by
  obtain ⟨h1, h2, h3⟩ := h
  refine f_M_put ⟨by rw [h2]; exact vp_in_nI (by omega) (by omega), ?_⟩
  rw [h2, nI_clamp (by omega)]
  rintro S3 rfl S4 rfl
  refine ⟨⟨by simp; omega, ?_, fun i hi => ?_⟩, (om_A (fs := fun j => j = 24) (ps := fun q => q = 169) rfl).tr (om_I rfl)⟩
  · rw [setI_s, setA_1, h2, nI_1, List.length_append]; rfl
  · rw [setI_2]
    by_cases e : i = l.length
    · subst e
      rw [setA_s, gd_r (Nat.le_refl _)]
      simp
    · have hi : i < l.length := by simp at hi; omega
      rw [setA_o (Or.inr e), h3 i hi, gd_l hi]
theorem s_type_loop {g : lp_G} {d : Nat} {Q : Int32 → SS → Prop} {w : Int64} : ∀ (k : Nat) (S : SS) (l : List Int32), k ≤ 8 → pa S l → l.length + k ≤ 900 → (∀ S', pa S' (l ++ bs w k) → off ap S S' → Q (nI (l.length + k)) S') → AtI g um_P_type (d + 1) Q 36 [(0, .ref (g.2.1 + 0)), (1, .long w), (4, .int (nI k + -1))] [] S := by
  intro k
  induction k with
  | zero =>
    intro S l hk h hl hQ
    refine f_P_type_36 ⟨fun _ => ?_, fun z => absurd (by decide) z⟩
    rw [h.2.1]
    exact hQ S (by simpa [bs] using h) off.re
  | succ k ih =>
    intro S l hk h hl hQ
    rw [pk_m1]
    refine f_P_type_36 ⟨fun z => absurd z (nI_pos (by omega)), fun _ => ?_⟩
    refine s_byteOf.mono fun r S1 ⟨e1, e2⟩ => ?_
    subst e1
    subst e2
    refine (s_A_append h).mono fun S2 ⟨a1, a2⟩ => ?_
    rw [List.take_of_length_le (by simp; omega)] at a1
    refine ih S2 (l ++ [byC w k]) (by omega) a1 (by simp; omega) fun S3 c1 c2 => ?_
    have := hQ S3 (by simpa [bs] using c1) (a2.tr c2)
    rw [show (l ++ [byC w k]).length + k = l.length + (k + 1) by simp; omega]
    exact this
theorem s_M_type_loop {g : lp_G} {d : Nat} {Q : Int32 → SS → Prop} {w : Int64} : ∀ (k : Nat) (S : SS) (l : List Int32), k ≤ 8 → paM S l → l.length + k ≤ 900 → (∀ S', paM S' (l ++ bs w k) → om (fun j => j = 24) (fun q => q = 169) S S' → Q (nI (l.length + k)) S') → AtI g um_M_type (d + 1) Q 32 [(0, .ref (g.2.1 + 151)), (1, .long w), (4, .int (nI k + -1))] [] S := by
  intro k
  induction k with
  | zero =>
    intro S l hk h hl hQ
    refine f_M_type_32 ⟨fun _ => ?_, fun z => absurd (by decide) z⟩
    rw [h.2.1]
    exact hQ S (by simpa [bs] using h) om.re
  | succ k ih =>
    intro S l hk h hl hQ
    rw [pk_m1]
    refine f_M_type_32 ⟨fun z => absurd z (nI_pos (by omega)), fun _ => ?_⟩
    rw [show ((w >>> ((nI 8 * nI k).toInt64 &&& 63)).toInt32) &&& nI 255 = byC w k from (by_eq w k (by omega)).symm]
    refine (s_M_put h (by omega)).mono fun S2 ⟨a1, a2⟩ => ?_
    refine ih S2 (l ++ [byC w k]) (by omega) a1 (by simp; omega) fun S3 c1 c2 => ?_
    have := hQ S3 (by simpa [bs] using c1) (a2.tr c2)
    rw [show (l ++ [byC w k]).length + k = l.length + (k + 1) by simp; omega]
    exact this
theorem sim_type (g : lp_G) (v0 : Int64) (v1 : Int32) : Sim g um_P_type um_M_type [.long v0, .int v1] := by
  intro m ho
  rcases n8 v1 with h | h | ⟨n, hn1, hn8, rfl⟩
  · refine ⟨-1, m, ho, fun S hc => f_P_type ⟨fun _ => ⟨rfl, hc, off.re⟩, fun z => absurd h z⟩, fun S hm => f_M_type (s_within18.mono fun r S1 ⟨f1, f2⟩ => ?_)⟩
    subst f1
    rcases f2 with f2 | f2
    · exact ⟨fun z => absurd f2.1 z, fun _ => ⟨rfl, hm, off.re⟩⟩
    · exact absurd h f2.2.1
  · refine ⟨-1, m, ho, fun S hc => f_P_type ⟨fun _ => ⟨rfl, hc, off.re⟩, fun z => ⟨fun y => absurd y (by rw [Int32.not_le]; exact h.2), fun _ => ⟨rfl, hc, off.re⟩⟩⟩, fun S hm => f_M_type (s_within18.mono fun r S1 ⟨f1, f2⟩ => ?_)⟩
    subst f1
    rcases f2 with f2 | f2
    · exact ⟨fun z => absurd f2.1 z, fun _ => ⟨rfl, hm, off.re⟩⟩
    · exact absurd h.2 f2.2.2
  · have n1 : ¬ nI n < 1 := by rw [show (1 : Int32) = nI 1 from rfl]; exact nI_nlt (by omega) (by omega)
    have n2 : ¬ nI 8 < nI n := nI_nlt (by omega) (by omega)
    have sM : ∀ {S : SS} {Q : Int32 → SS → Prop} {l : List Int32}, paM S l → (l.length + n ≤ 900 → AtI g um_M_type 8 Q 32 [(0, .ref (g.2.1 + 151)), (1, .long v0), (4, .int (nI n + -1))] [] S) → (¬ l.length + n ≤ 900 → Q (-2) S) → MtI g um_M_type 8 (.ref (g.2.1 + 151) :: [.long v0, .int (nI n)]) S Q := by
      intro S Q l h h1 h2
      have := h.1
      refine f_M_type (s_within18.mono fun r S1 ⟨f1, f2⟩ => ?_)
      subst f1
      rcases f2 with f2 | f2
      · rcases f2.2 with f3 | f3
        · exact absurd f3 n1
        · exact absurd f3.2 n2
      · refine ⟨fun _ => ?_, fun z => absurd (f2.1.symm.trans z) (by decide)⟩
        rw [h.2.1, nI_add, nI_leI (by omega) (by omega), show (1 : Int32) = nI 1 from rfl, pk_sub (by omega), ← sb_m1 (by omega)]
        exact ⟨h1, h2⟩
    have sC : ∀ {S : SS} {Q : Int32 → SS → Prop} {l : List Int32}, pa S l → (l.length + n ≤ 900 → AtI g um_P_type 8 Q 36 [(0, .ref (g.2.1 + 0)), (1, .long v0), (4, .int (nI n + -1))] [] S) → (¬ l.length + n ≤ 900 → Q (-2) S) → MtI g um_P_type 8 (.ref (g.2.1 + 0) :: [.long v0, .int (nI n)]) S Q := by
      intro S Q l h h1 h2
      have := h.1
      refine f_P_type ⟨fun z => absurd z n1, fun _ => ⟨fun _ => ?_, fun z => absurd (nI_le hn8 (by omega)) z⟩⟩
      rw [h.2.1, nI_add, nI_leI (by omega) (by omega), show (1 : Int32) = nI 1 from rfl, pk_sub (by omega), ← sb_m1 (by omega)]
      exact ⟨h1, h2⟩
    by_cases h9 : m.2.2.length + n ≤ 900
    · refine ⟨nI (m.2.2.length + n), (m.1, m.2.1, m.2.2 ++ bs v0 n), ho, fun S hc => sC hc.2.2 (fun _ => ?_) (fun z => absurd h9 z), fun S hm => sM hm.2.2 (fun _ => ?_) (fun z => absurd h9 z)⟩
      · exact s_type_loop n _ _ hn8 hc.2.2 h9 fun S2 c1 c2 => ⟨rfl, hc.paper c1 (c2.mo fun q z => Or.inr z), c2.mo (fun q z => by unfold ap at z; unfold pC; omega)⟩
      · refine s_M_type_loop n _ _ hn8 hm.2.2 h9 fun S2 c1 c2 => ⟨rfl, hm.paper c1 (c2.mo (fun j z => Or.inr z) (fun q z => Or.inr z)) (c2.2 152 (by omega)) (c2.2 153 (by omega)), om_M c2 (fun q z => by omega)⟩
    · exact ⟨-2, m, ho, fun S hc => sC hc.2.2 (fun z => absurd z h9) (fun _ => ⟨rfl, hc, off.re⟩), fun S hm => sM hm.2.2 (fun z => absurd z h9) (fun _ => ⟨rfl, hm, off.re⟩)⟩
