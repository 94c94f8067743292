/-! the small calls -/
theorem isT_t {t : Nat} (h : t < 4) : isT (143 + 2 * t) := ⟨sr_1 t h, sr_1_1 t h⟩
theorem s_isText_bad {g : lp_G} {d : Nat} {S : SS} {x : Int32} (h : x < 0 ∨ nI 4 ≤ x) : MtI g um_P_isText d [.int x] S (fun r S' => S' = S ∧ r = 0) := by
  refine f_P_isText ⟨fun _ => ⟨rfl, rfl⟩, fun h1 => ⟨fun _ => ⟨rfl, rfl⟩, fun h2 => ?_⟩⟩
  rcases h with h | h
  · exact absurd h h1
  · exact absurd h h2
theorem s_isText_ok {g : lp_G} {d : Nat} {S : SS} {t : Nat} (h : t < 4) : MtI g um_P_isText d [.int (nI t)] S (fun r S' => S' = S ∧ r = 1) :=
  f_P_isText ⟨fun z => absurd z (nI_pos (by omega)), fun _ => ⟨fun z => absurd z (nI_ge h (by omega)), fun _ => ⟨rfl, rfl⟩⟩⟩
theorem lt3 {x : Int32} (h : nI 4 ≤ x) : nI 3 < x := by
  rw [Int32.lt_iff_toInt_lt]
  rw [Int32.le_iff_toInt_le] at h
  have a : (nI 3).toInt = 3 := nI_toInt (by omega)
  have b : (nI 4).toInt = 4 := nI_toInt (by omega)
  omega
theorem s_within3_bad {g : lp_G} {d : Nat} {S : SS} {x : Int32} (h : x < 0 ∨ nI 4 ≤ x) : MtI g um_M_within d [.int x, .int 0, .int (nI 3)] S (fun r S' => S' = S ∧ r = 0) := by
  refine f_M_within ⟨fun _ => ⟨rfl, rfl⟩, fun h1 => ⟨fun _ => ⟨rfl, rfl⟩, fun h2 => ?_⟩⟩
  rcases h with h | h
  · exact absurd h h1
  · exact absurd (lt3 h) h2
theorem s_within3_ok {g : lp_G} {d : Nat} {S : SS} {t : Nat} (h : t < 4) : MtI g um_M_within d [.int (nI t), .int 0, .int (nI 3)] S (fun r S' => S' = S ∧ r = 1) :=
  f_M_within ⟨fun z => absurd z (nI_pos (by omega)), fun _ => ⟨fun z => absurd z (nI_nlt (by omega) (by omega)), fun _ => ⟨rfl, rfl⟩⟩⟩
/-- within 0 to n - 1, of any int -/
theorem s_withinN {g : lp_G} {d : Nat} {S : SS} {x : Int32} {n : Nat} (hn : n < 2 ^ 30) : MtI g um_M_within d [.int x, .int 0, .int (nI n - 1)] S (fun r S' => S' = S ∧ ((r = 0 ∧ (x < 0 ∨ nI n ≤ x)) ∨ (r = 1 ∧ ∃ j, j < n ∧ x = nI j))) := by
  have e : (nI n - 1).toInt = (n : Int) - 1 := by
    rw [show (1 : Int32) = nI 1 from rfl, pk_sub_toInt (by omega) (by omega)]
    rfl
  refine f_M_within ⟨fun h => ⟨rfl, Or.inl ⟨rfl, Or.inl h⟩⟩, fun h1 => ⟨fun h2 => ⟨rfl, Or.inl ⟨rfl, Or.inr ?_⟩⟩, fun h2 => ⟨rfl, Or.inr ⟨rfl, ?_⟩⟩⟩⟩
  · rw [Int32.lt_iff_toInt_lt, e] at h2
    rw [Int32.le_iff_toInt_le, nI_toInt (by omega)]
    omega
  · obtain ⟨j, hj, rfl⟩ := nI_of h1
    rw [Int32.lt_iff_toInt_lt, e, nI_toInt hj] at h2
    exact ⟨j, by omega, rfl⟩
def upT (T : Nat → List Int32) (t : Nat) (l : List Int32) : Nat → List Int32 := fun q => if q = t then l else T q
theorem upT_s {T : Nat → List Int32} {t : Nat} {l : List Int32} : upT T t l t = l := if_pos rfl
theorem upT_o {T : Nat → List Int32} {t i : Nat} {l : List Int32} (h : i ≠ t) : upT T t l i = T i := if_neg h
def sk : Nat → Prop := fun q => q < 151 ∧ q ≠ 0 ∧ ¬ (2 ≤ q ∧ q ≤ 7) ∧ q ≠ 90 ∧ q ≠ 91 ∧ q < 143
theorem relC.scr {S S' : SS} {m : MS} (h : relC S m) (ho : off sk S S') : relC S' m := by
  obtain ⟨t, c, l⟩ := m
  refine ⟨fun i hi => (h.1 i hi).keep ho (by unfold sk; omega) (by unfold sk; omega), ?_, h.2.2.keep ho (by unfold sk; omega) (by unfold sk; omega)⟩
  have := h.2.1
  unfold cmpC at this ⊢
  cases c with
  | none => rw [(ho 0 (by unfold sk; omega)).1]; exact this
  | some x =>
    dsimp only at this ⊢
    rw [(ho 0 (by unfold sk; omega)).1]
    exact ⟨this.1, this.2.keep ho (fun q hq => by unfold cp at hq; unfold sk; omega)⟩
theorem relC.text {S S' : SS} {m : MS} {t : Nat} {l : List Int32} (h : relC S m) (ht : t < 4) (h1 : tx S' (143 + 2 * t) l) (ho : off (fun q => sk q ∨ tp (143 + 2 * t) q) S S') : relC S' (upT m.1 t l, m.2) := by
  obtain ⟨T, c, p⟩ := m
  refine ⟨fun i hi => ?_, ?_, h.2.2.keep ho (by unfold sk tp; omega) (by unfold sk tp; omega)⟩
  · show tx S' (143 + 2 * i) (upT T t l i)
    by_cases e : i = t
    · subst e
      rw [upT_s]
      exact h1
    · rw [upT_o e]
      exact (h.1 i hi).keep ho (by unfold sk tp; omega) (by unfold sk tp; omega)
  · have := h.2.1
    unfold cmpC at this ⊢
    cases c with
    | none => dsimp only at this ⊢; rw [(ho 0 (by unfold sk tp; omega)).1]; exact this
    | some x =>
      dsimp only at this ⊢
      rw [(ho 0 (by unfold sk tp; omega)).1]
      exact ⟨this.1, this.2.keep ho (fun q hq => by unfold cp at hq; unfold sk tp; omega)⟩
theorem relC.paper {S S' : SS} {m : MS} {l : List Int32} (h : relC S m) (h1 : pa S' l) (ho : off (fun q => sk q ∨ ap q) S S') : relC S' (m.1, m.2.1, l) := by
  obtain ⟨T, c, p⟩ := m
  refine ⟨fun i hi => (h.1 i hi).keep ho (by unfold sk ap; omega) (by unfold sk ap; omega), ?_, h1⟩
  have := h.2.1
  unfold cmpC at this ⊢
  cases c with
  | none => dsimp only at this ⊢; rw [(ho 0 (by unfold sk ap; omega)).1]; exact this
  | some x =>
    dsimp only at this ⊢
    rw [(ho 0 (by unfold sk ap; omega)).1]
    exact ⟨this.1, this.2.keep ho (fun q hq => by unfold cp at hq; unfold sk ap; omega)⟩
def mf : Nat → Prop := fun j => j ≠ 15 ∧ j ≠ 16 ∧ j ≠ 17 ∧ j ≠ 24
def mk : Nat → Prop := fun q => 151 ≤ q ∧ q ≠ 164 ∧ q ≠ 165 ∧ q ≠ 166 ∧ q ≠ 169
theorem cmpM.keep {S S' : SS} {c : Option (List Int32 × List Int32 × (Nat → Option Nat))} {fs ps : Nat → Prop} (h : cmpM S c) (ho : om fs ps S S') (h1 : ¬ fs 15) (h2 : ¬ fs 16) (h3 : ¬ fs 17) (h4 : ¬ ps 164) (h5 : ¬ ps 165) (h6 : ¬ ps 166) : cmpM S' c := by
  unfold cmpM at h ⊢
  cases c with
  | none => dsimp only at h ⊢; rw [ho.1 151 15 (fun z => h1 z.2)]; exact h
  | some x =>
    dsimp only at h ⊢
    rw [ho.1 151 15 (fun z => h1 z.2), ho.1 151 16 (fun z => h2 z.2), ho.1 151 17 (fun z => h3 z.2), ho.2 164 h4, ho.2 165 h5, ho.2 166 h6]
    exact h
theorem paM.keep {S S' : SS} {l : List Int32} {fs ps : Nat → Prop} (h : paM S l) (ho : om fs ps S S') (h1 : ¬ fs 24) (h2 : ¬ ps 169) : paM S' l := by
  unfold paM at h ⊢
  rw [ho.1 151 24 (fun z => h1 z.2), ho.2 169 h2]
  exact h
theorem relM.text {S S' : SS} {m : MS} {t : Nat} {l : List Int32} (h : relM S m) (ht : t < 4) (h1 : tm S' t l) (ho : om mf mk S S') (h2 : ∀ i, i < 24 * t ∨ 24 * t + 24 ≤ i → S'.2 152 i = S.2 152 i) (h3 : ∀ j, j ≠ t → S'.2 153 j = S.2 153 j) : relM S' (upT m.1 t l, m.2) := by
  obtain ⟨T, c, p⟩ := m
  refine ⟨fun i hi => ?_, h.2.1.keep ho (by simp [mf]) (by simp [mf]) (by simp [mf]) (by simp [mk]) (by simp [mk]) (by simp [mk]), h.2.2.keep ho (by simp [mf]) (by simp [mk])⟩
  show tm S' i (upT T t l i)
  by_cases e : i = t
  · subst e
    rw [upT_s]
    exact h1
  · rw [upT_o e]
    obtain ⟨a1, a2, a3⟩ := h.1 i hi
    dsimp only at a1 a2 a3
    refine ⟨a1, by rw [h3 i e]; exact a2, fun j hj => ?_⟩
    rw [h2 _ (by omega)]
    exact a3 j hj
theorem relM.scr {S S' : SS} {m : MS} (h : relM S m) (ho : om mf mk S S') (h2 : S'.2 152 = S.2 152) (h3 : S'.2 153 = S.2 153) : relM S' m := by
  obtain ⟨T, c, p⟩ := m
  refine ⟨fun i hi => ?_, h.2.1.keep ho (by simp [mf]) (by simp [mf]) (by simp [mf]) (by simp [mk]) (by simp [mk]) (by simp [mk]), h.2.2.keep ho (by simp [mf]) (by simp [mk])⟩
  have := h.1 i hi
  unfold tm at this ⊢
  rw [h2, h3]
  exact this
theorem relM.paper {S S' : SS} {m : MS} {l : List Int32} (h : relM S m) (h1 : paM S' l) (ho : om (fun j => mf j ∨ j = 24) (fun q => mk q ∨ q = 169) S S') (h2 : S'.2 152 = S.2 152) (h3 : S'.2 153 = S.2 153) : relM S' (m.1, m.2.1, l) := by
  obtain ⟨T, c, p⟩ := m
  refine ⟨fun i hi => ?_, h.2.1.keep ho (by simp [mf]) (by simp [mf]) (by simp [mf]) (by simp [mk]) (by simp [mk]) (by simp [mk]), h1⟩
  have := h.1 i hi
  unfold tm at this ⊢
  rw [h2, h3]
  exact this
theorem om_M {fs ps : Nat → Prop} {S S' : SS} (h : om fs ps S S') (hp : ∀ q, ps q → 151 ≤ q) : off pM S S' := h.off hp
theorem okM.text {m : MS} {t : Nat} {l : List Int32} (h : okM m) (hl : l.length ≤ 24) : okM (upT m.1 t l, m.2) := by
  refine ⟨fun i hi => ?_, h.2⟩
  show (upT m.1 t l i).length ≤ 24
  unfold upT
  split
  · exact hl
  · exact h.1 i hi
theorem okM.paper {m : MS} {l : List Int32} (h : okM m) : okM (m.1, m.2.1, l) := h
theorem sim_size (g : lp_G) (v0 : Int32) : Sim g um_P_size um_M_size [.int v0] := by
  intro m ho
  rcases pk_ix v0 (n := 4) (by omega) with h | h | ⟨t, ht, rfl⟩
  · refine ⟨-1, m, ho, fun S hc => f_P_size ((s_isText_bad (Or.inl h)).mono fun r S' ⟨e1, e2⟩ => ?_), fun S hm => f_M_size ((s_within3_bad (Or.inl h)).mono fun r S' ⟨e1, e2⟩ => ?_)⟩
    · subst e1; exact ⟨fun _ => ⟨rfl, hc, off.re⟩, fun z => absurd e2 z⟩
    · subst e1; exact ⟨fun _ => ⟨rfl, hm, off.re⟩, fun z => absurd e2 z⟩
  · refine ⟨-1, m, ho, fun S hc => f_P_size ((s_isText_bad (Or.inr h)).mono fun r S' ⟨e1, e2⟩ => ?_), fun S hm => f_M_size ((s_within3_bad (Or.inr h)).mono fun r S' ⟨e1, e2⟩ => ?_)⟩
    · subst e1; exact ⟨fun _ => ⟨rfl, hc, off.re⟩, fun z => absurd e2 z⟩
    · subst e1; exact ⟨fun _ => ⟨rfl, hm, off.re⟩, fun z => absurd e2 z⟩
  · refine ⟨nI (m.1 t).length, m, ho, fun S hc => f_P_size ((s_isText_ok ht).mono fun r S' ⟨e1, e2⟩ => ?_), fun S hm => f_M_size ((s_within3_ok ht).mono fun r S' ⟨e1, e2⟩ => ?_)⟩
    · subst e1
      refine ⟨fun z => absurd (e2.symm.trans z) (by decide), fun _ => ⟨vp_in_nI ht (by omega), ?_, hc, off.re⟩⟩
      rw [nI_clamp (by omega)]
      exact (hc.1 t ht).2.1
    · subst e1
      refine ⟨fun z => absurd (e2.symm.trans z) (by decide), fun _ => ⟨vp_in_nI ht (by omega), ?_, hm, off.re⟩⟩
      rw [nI_clamp (by omega)]
      exact (hm.1 t ht).2.1
theorem sim_clear (g : lp_G) (v0 : Int32) : Sim g um_P_clear um_M_clear [.int v0] := by
  intro m ho
  rcases pk_ix v0 (n := 4) (by omega) with h | h | ⟨t, ht, rfl⟩
  · refine ⟨-1, m, ho, fun S hc => f_P_clear ((s_isText_bad (Or.inl h)).mono fun r S' ⟨e1, e2⟩ => ?_), fun S hm => f_M_clear ((s_within3_bad (Or.inl h)).mono fun r S' ⟨e1, e2⟩ => ?_)⟩
    · subst e1; exact ⟨fun z => absurd e2 z, fun _ => ⟨rfl, hc, off.re⟩⟩
    · subst e1; exact ⟨fun z => absurd e2 z, fun _ => ⟨rfl, hm, off.re⟩⟩
  · refine ⟨-1, m, ho, fun S hc => f_P_clear ((s_isText_bad (Or.inr h)).mono fun r S' ⟨e1, e2⟩ => ?_), fun S hm => f_M_clear ((s_within3_bad (Or.inr h)).mono fun r S' ⟨e1, e2⟩ => ?_)⟩
    · subst e1; exact ⟨fun z => absurd e2 z, fun _ => ⟨rfl, hc, off.re⟩⟩
    · subst e1; exact ⟨fun z => absurd e2 z, fun _ => ⟨rfl, hm, off.re⟩⟩
  · refine ⟨nI (m.1 t).length, (upT m.1 t [], m.2), ho.text (by simp), fun S hc => f_P_clear ((s_isText_ok ht).mono fun r S' ⟨e1, e2⟩ => ?_), fun S hm => f_M_clear ((s_within3_ok ht).mono fun r S' ⟨e1, e2⟩ => ?_)⟩
    · subst e1
      refine ⟨fun _ => ⟨vp_in_nI ht (by omega), vp_in_nI ht (by omega), ?_⟩, fun z => absurd (e2.symm.trans z) (by decide)⟩
      rw [nI_clamp (by omega)]
      rintro S6 rfl
      have o : off (tp (143 + 2 * t)) S' (setI S' (143 + 2 * t) 1 0) := off_I (Or.inl rfl)
      exact ⟨(hc.1 t ht).2.1, hc.text ht tx_zero (o.mo (fun q z => Or.inr z)), o.mo (fun q z => by unfold tp at z; unfold pC; omega)⟩
    · subst e1
      refine ⟨fun _ => ⟨vp_in_nI ht (by omega), vp_in_nI ht (by omega), ?_⟩, fun z => absurd (e2.symm.trans z) (by decide)⟩
      rw [nI_clamp (by omega)]
      rintro S6 rfl
      have o : om mf mk S' (setA S' 153 t 0) := om_A (by simp [mk])
      exact ⟨(hm.1 t ht).2.1, hm.text ht ⟨by simp, setA_s, fun i hi => by simp at hi⟩ o (fun i _ => setA_o (by omega)) (fun j hj => setA_o (Or.inr hj)), om_M o (fun q z => z.1)⟩
theorem sim_line (g : lp_G) (v0 v1 : Int32) : Sim g um_P_line um_M_line [.int v0, .int v1] := by
  intro m ho
  rcases pk_ix v0 (n := 4) (by omega) with h | h | ⟨t, ht, rfl⟩
  · refine ⟨-1, m, ho, fun S hc => f_P_line ((s_isText_bad (Or.inl h)).mono fun r S' ⟨e1, e2⟩ => ?_), fun S hm => f_M_line ((s_within3_bad (Or.inl h)).mono fun r S' ⟨e1, e2⟩ => ?_)⟩
    · subst e1; exact ⟨fun z => absurd e2 z, fun _ => ⟨rfl, hc, off.re⟩⟩
    · subst e1; exact ⟨fun z => absurd e2 z, fun _ => ⟨rfl, hm, off.re⟩⟩
  · refine ⟨-1, m, ho, fun S hc => f_P_line ((s_isText_bad (Or.inr h)).mono fun r S' ⟨e1, e2⟩ => ?_), fun S hm => f_M_line ((s_within3_bad (Or.inr h)).mono fun r S' ⟨e1, e2⟩ => ?_)⟩
    · subst e1; exact ⟨fun z => absurd e2 z, fun _ => ⟨rfl, hc, off.re⟩⟩
    · subst e1; exact ⟨fun z => absurd e2 z, fun _ => ⟨rfl, hm, off.re⟩⟩
  · have hl := ho.1 t ht
    refine ⟨if v1 < 0 then -3 else if nI (m.1 t).length ≤ v1 then -3 else (m.1 t).getD v1.toNatClampNeg 0, m, ho, fun S hc => f_P_line ((s_isText_ok ht).mono fun r S' ⟨e1, e2⟩ => ?_), fun S hm => f_M_line ((s_within3_ok ht).mono fun r S' ⟨e1, e2⟩ => ?_)⟩
    · subst e1
      have h2 := hc.1 t ht
      refine ⟨fun _ => ⟨fun z => ⟨by rw [if_pos z], hc, off.re⟩, fun z => ⟨vp_in_nI ht (by omega), ?_⟩⟩, fun z => absurd (e2.symm.trans z) (by decide)⟩
      rw [nI_clamp (by omega), h2.2.1]
      refine ⟨fun y => ⟨by rw [if_neg z, if_pos y], hc, off.re⟩, fun y => ⟨vp_in_nI ht (by omega), ?_⟩⟩
      obtain ⟨j, hj, rfl, -⟩ := pk_mu z y (by omega)
      refine ⟨vp_in_nI (by omega) (by omega), ?_, hc, off.re⟩
      rw [if_neg z, if_neg y, nI_clamp (by omega)]
      exact h2.2.2 j hj
    · subst e1
      have h2 := hm.1 t ht
      refine ⟨fun _ => ⟨vp_in_nI ht (by omega), ?_⟩, fun z => absurd (e2.symm.trans z) (by decide)⟩
      rw [nI_clamp (by omega), h2.2.1]
      refine (s_withinN (by omega)).mono fun r2 S2 ⟨f1, f2⟩ => ?_
      subst f1
      rcases f2 with ⟨f2, f3⟩ | ⟨f2, j, hj, rfl⟩
      · refine ⟨fun _ => ⟨?_, hm, off.re⟩, fun z => absurd f2 z⟩
        by_cases z : v1 < 0
        · rw [if_pos z]
        · rw [if_neg z, if_pos (f3.resolve_left z)]
      · refine ⟨fun z => absurd (f2.symm.trans z) (by decide), fun _ => ?_⟩
        rw [pk_mul, nI_add]
        refine ⟨vp_in_nI (by omega) (by omega), ?_, hm, off.re⟩
        rw [if_neg (nI_pos (by omega)), if_neg (nI_ge hj (by omega)), nI_clamp (by omega), nI_clamp (by omega)]
        exact h2.2.2 j hj
theorem sim_wipe (g : lp_G) : Sim g um_P_wipe um_M_wipe [] := by
  intro m ho
  refine ⟨nI m.2.2.length, (m.1, m.2.1, []), ho, fun S hc => f_P_wipe ?_, fun S hm => f_M_wipe ?_⟩
  · rintro S1 rfl
    have o : off ap S (setI S 90 1 0) := off_I (Or.inl rfl)
    exact ⟨hc.2.2.2.1, hc.paper ⟨by simp, setI_s, fun i hi => by simp at hi⟩ (o.mo (fun q z => Or.inr z)), o.mo (fun q z => by unfold ap at z; unfold pC; omega)⟩
  · rintro S1 rfl
    have o : om (fun j => mf j ∨ j = 24) (fun q => mk q ∨ q = 169) S (setI S 151 24 0) := om_I (Or.inr rfl)
    exact ⟨hm.2.2.2.1, hm.paper ⟨by simp, setI_s, fun i hi => by simp at hi⟩ o rfl rfl, om_M o (fun q z => by unfold mk at z; omega)⟩
theorem sim_character (g : lp_G) (v0 : Int32) : Sim g um_P_character um_M_character [.int v0] := by
  intro m ho
  refine ⟨if v0 < 0 then -3 else if nI m.2.2.length ≤ v0 then -3 else m.2.2.getD v0.toNatClampNeg 0, m, ho, fun S hc => f_P_character ⟨fun z => ⟨by rw [if_pos z], hc, off.re⟩, fun z => ?_⟩, fun S hm => f_M_character ?_⟩
  · have h2 := hc.2.2
    have hl := h2.1
    rw [h2.2.1]
    refine ⟨fun y => ⟨by rw [if_neg z, if_pos y], hc, off.re⟩, fun y => ?_⟩
    obtain ⟨j, hj, rfl, -⟩ := pk_mu z y (by omega)
    refine ⟨vp_in_nI (by omega) (by omega), ?_, hc, off.re⟩
    rw [if_neg z, if_neg y, nI_clamp (by omega)]
    exact h2.2.2 j hj
  · have h2 := hm.2.2
    have hl := h2.1
    rw [h2.2.1]
    refine (s_withinN (by omega)).mono fun r2 S2 ⟨f1, f2⟩ => ?_
    subst f1
    rcases f2 with ⟨f2, f3⟩ | ⟨f2, j, hj, rfl⟩
    · refine ⟨fun _ => ⟨?_, hm, off.re⟩, fun z => absurd f2 z⟩
      by_cases z : v0 < 0
      · rw [if_pos z]
      · rw [if_neg z, if_pos (f3.resolve_left z)]
    · refine ⟨fun z => absurd (f2.symm.trans z) (by decide), fun _ => ⟨vp_in_nI (by omega) (by omega), ?_, hm, off.re⟩⟩
      rw [if_neg (nI_pos (by omega)), if_neg (nI_ge hj (by omega)), nI_clamp (by omega)]
      exact h2.2.2 j hj
theorem sim_match (g : lp_G) (v0 : Int32) : Sim g um_P_match um_M_match [.int v0] := by
  intro m ho
  obtain ⟨T, c, l⟩ := m
  cases c with
  | none =>
    refine ⟨-3, _, ho, fun S hc => f_P_match ⟨fun _ => ⟨rfl, hc, off.re⟩, fun z => absurd hc.2.1 z⟩, fun S hm => f_M_match ⟨fun _ => ⟨rfl, hm, off.re⟩, fun z => absurd hm.2.1 z⟩⟩
  | some x =>
    obtain ⟨xs, ys, pf⟩ := x
    obtain ⟨l1, l2, mo⟩ := ho.2 xs ys pf rfl
    refine ⟨prt pf xs.length v0, _, ho, fun S hc => f_P_match ⟨fun z => absurd (hc.2.1.1.symm.trans z) (by decide), fun _ => ?_⟩, fun S hm => f_M_match ⟨fun z => absurd (hm.2.1.1.symm.trans z) (by decide), fun _ => ?_⟩⟩
    · exact (s_C_partnerOf (show isC 2 from ⟨sh_2, sh_3, sh_4, sh_5, sh_6, sh_7⟩) hc.2.1.2).mono fun r S' ⟨e1, e2⟩ => by subst e1; exact ⟨e2, hc, off.re⟩
    · obtain ⟨q1, q2, q3, q4, q5, q6⟩ := hm.2.1
      rw [q2]
      refine (s_withinN (by omega)).mono fun r2 S2 ⟨f1, f2⟩ => ?_
      subst f1
      rcases f2 with ⟨f2, f3⟩ | ⟨f2, j, hj, rfl⟩
      · refine ⟨fun _ => ⟨?_, hm, off.re⟩, fun z => absurd f2 z⟩
        unfold prt
        by_cases z : v0 < 0
        · rw [if_pos z]
        · rw [if_neg z, if_pos (f3.resolve_left z)]
      · refine ⟨fun z => absurd (f2.symm.trans z) (by decide), fun _ => ⟨vp_in_nI (by omega) (by omega), ?_⟩⟩
        rw [nI_clamp (by omega), q6 j hj, prt_nI hj (by omega)]
        cases e : pf j with
        | none => exact ⟨fun _ => ⟨rfl, hm, off.re⟩, fun z => absurd (by decide) z⟩
        | some r =>
          have := (mo.1 j r e).2
          exact ⟨fun z => absurd z (nI_pos (by omega)), fun _ => ⟨vp_in_nI (by omega) (by omega), rfl, hm, off.re⟩⟩
