/-! the reference reads the lines of a hunk, and all hunks; read -/
def la : Nat → Prop := fun j => j = 33 ∨ j = 34 ∨ j = 26
def q173 : Nat → Prop := fun q => q = 173
theorem s_M_exit {g : lp_G} {d : Nat} {Q : SS → Prop} {S : SS} {l : List Int32} {e : Except Nat Nat} {h k : Nat} {x1 x2 : Int32} (hh : h < 80) (hs : stM S l e) (h26 : S.1 151 26 = nI h) (hx : (∃ p, e = .error p) ∨ (x1 = 0 ∧ x2 = 0)) (hK : ∀ S', ah h la q173 S S' → stM S' l e → S'.1 151 26 = nI (h + 1) → S'.2 173 h = nI k → Q S') : AtV g um_M_readHunk (d + 1) Q 117 [(0, .ref (g.2.1 + 151)), (1, .int x1), (2, .int x2), (3, .int (nI k))] [] S := by
  have vh : vp_in (nI h) 80 := vp_in_nI hh (by omega)
  have fin : ∀ S34 : SS, S34 = setA S 173 (nI h).toNatClampNeg (nI k) → ∀ S35 : SS, S35 = setI S34 151 26 (S34.1 151 26 + 1) → Q S35 := by
    rintro S34 rfl S35 rfl
    rw [nI_clamp (by omega), setA_1, h26, nI_1]
    have o : ah h la q173 S (setI (setA S 173 h (nI k)) 151 26 (nI (h + 1))) := (ah_A (fs := la) (ps := q173) rfl).tr (ah_I (by simp [la]))
    have o2 : om (fun j => j = 26) q173 S (setI (setA S 173 h (nI k)) 151 26 (nI (h + 1))) := (om_A (fs := fun j => j = 26) (ps := q173) rfl).tr (om_I rfl)
    refine hK _ o (hs.keep o2 (by omega) (by omega) (by omega) (by simp [q173])) setI_s ?_
    rw [setI_2, setA_s]
  refine f_M_readHunk_117 ?_
  rw [h26]
  cases e with
  | error p => exact ⟨fun _ => ⟨vh, fin⟩, fun z => absurd (hs.2.2.1.symm.trans z) (by decide)⟩
  | ok p =>
    refine ⟨fun z => absurd hs.2.2.1 z, fun _ => ?_⟩
    rcases hx with ⟨p, hp⟩ | ⟨rfl, rfl⟩
    · cases hp
    · exact ⟨fun z => absurd z (by decide), fun _ => ⟨fun _ => ⟨vh, fin⟩, fun z => absurd (by decide) z⟩⟩
/-- at 297: what comes behind the letter -/
theorem s_M_297 {g : lp_G} {d : Nat} {Q : SS → Prop} {S : SS} {l : List Int32} {i k : Nat} {x1 x2 : Int32} (b : Bool) (h1 : paM S l) (h2 : S.1 151 33 = nI i) (h3 : i ≤ l.length) (h4 : b = false → i < l.length) (hK : ∀ S', om wf d0 S S' → stM S' l (if b = true then .error i else sgn l 10 (i + 1)) → AtV g um_M_readHunk (d + 2) Q 117 [(0, .ref (g.2.1 + 151)), (1, .int x1), (2, .int x2), (3, .int (nI (k + 1)))] [] S') : AtV g um_M_readHunk (d + 2) Q 297 [(0, .ref (g.2.1 + 151)), (1, .int x1), (2, .int x2), (3, .int (nI k))] [.int (b2i b), .ref (g.2.1 + 151)] S := by
  refine f_M_readHunk_297 ⟨isB_b, ?_⟩
  rintro S70 rfl
  rw [nI_1]
  have o : om wf d0 S (setI S 151 34 (b2i b)) := om_I (Or.inr rfl)
  rw [setI_s]
  cases b with
  | false =>
    refine ⟨fun _ => ?_, fun z => absurd rfl z⟩
    intro S73 e73
    have s0 : stM (setI S 151 34 (b2i false)) l (.ok i) := ⟨h1.wk o, by rw [setI_o (by omega)]; exact h2, setI_s, h3⟩
    obtain ⟨a, o2⟩ := s0.fwd (h4 rfl) e73
    refine (s_M_want (by omega) a).mono fun S74 ⟨a74, o74⟩ => hK S74 ((o.tr o2).tr o74) a74
  | true =>
    refine ⟨fun z => absurd z (by decide), fun _ => ?_⟩
    rintro S76 rfl
    have o2 : om wf d0 (setI S 151 34 (b2i true)) (setI (setI S 151 34 (b2i true)) 151 33 ((setI S 151 34 (b2i true)).1 151 33)) := om_I (Or.inl rfl)
    have s0 : stM (setI (setI S 151 34 (b2i true)) 151 33 ((setI S 151 34 (b2i true)).1 151 33)) l (.error i) := ⟨h1.wk (o.tr o2), by rw [setI_s, setI_o (by omega)]; exact h2, by rw [setI_o (by omega), setI_s]; rfl, h3⟩
    refine (s_M_want (by omega) s0).mono fun S74 ⟨a74, o74⟩ => hK S74 ((o.tr o2).tr o74) a74
/-- at 196: the sign has been looked at -/
theorem s_M_196 {g : lp_G} {d : Nat} {Q : SS → Prop} {S : SS} {l : List Int32} {i k o n : Nat} (hs : stM S l (.ok i)) (hd : ¬ (o = 0 ∧ n = 0)) (hK1 : may (ch l i) o n = true → isLet (ch l (i + 1)) = true → ch l (i + 2) = nI 10 → ∀ S', om wf d0 S S' → stM S' l (.ok (i + 3)) → AtV g um_M_readHunk (d + 2) Q 117 [(0, .ref (g.2.1 + 151)), (1, .int (nI (dO (ch l i) o))), (2, .int (nI (dN (ch l i) n))), (3, .int (nI (k + 1)))] [] S') (hK0 : ∀ e, (∀ f, lns l (f + 1) o n i = .error e) → ∀ S' x1 x2, om wf d0 S S' → stM S' l (.error e) → AtV g um_M_readHunk (d + 2) Q 117 [(0, .ref (g.2.1 + 151)), (1, .int x1), (2, .int x2), (3, .int (nI (k + 1)))] [] S') : AtV g um_M_readHunk (d + 2) Q 196 [(0, .ref (g.2.1 + 151)), (1, .int (nI o)), (2, .int (nI n)), (3, .int (nI k)), (4, .int (ch l i))] [.int (b2i (may (ch l i) o n))] S := by
  have n1 : ¬ nI 45 = nI 43 := by decide
  have n2 : ¬ nI 32 = nI 43 := by decide
  have n3 : ¬ nI 32 = nI 45 := by decide
  have hs0 := hs
  obtain ⟨h1, h2, h3, h4⟩ := hs
  cases hm : may (ch l i) o n with
  | false =>
    refine f_M_readHunk_196 ⟨fun z => absurd rfl z, fun _ => ?_⟩
    rintro S62 rfl
    have o1 : om wf d0 S (setI S 151 34 1) := om_I (Or.inr rfl)
    refine f_M_readHunk_271 ?_
    rintro S63 rfl
    have o2 : om wf d0 (setI S 151 34 1) (setI (setI S 151 34 1) 151 33 ((setI S 151 34 1).1 151 33)) := om_I (Or.inl rfl)
    refine ⟨fun _ => s_M_297 true (h1.wk (o1.tr o2)) (by rw [setI_s, setI_o (by omega)]; exact h2) h4 (fun z => by cases z) fun S' o' s' => ?_, fun z => absurd (by rw [setI_o (by omega), setI_s] at z; exact z) (by decide)⟩
    exact hK0 i (fun f => lns_e0 hd (by rw [hm]; decide)) S' _ _ ((o1.tr o2).tr o') s'
  | true =>
    have hi : i < l.length := by
      rcases may_t.mp hm with w | w | w
      · exact ch_lt (by omega) w.1
      · exact ch_lt (by omega) w.1
      · exact ch_lt (by omega) w.1
    have next : ∀ S58 : SS, S58 = setI S 151 34 0 → AtV g um_M_readHunk (d + 2) Q 271 [(0, .ref (g.2.1 + 151)), (1, .int (nI (dO (ch l i) o))), (2, .int (nI (dN (ch l i) n))), (3, .int (nI k))] [.int (S58.1 151 33 + 1), .ref (g.2.1 + 151)] S58 := by
      rintro S58 rfl
      have o1 : om wf d0 S (setI S 151 34 0) := om_I (Or.inr rfl)
      have s1 : stM (setI S 151 34 0) l (.ok i) := ⟨h1.wk o1, by rw [setI_o (by omega)]; exact h2, setI_s, h4⟩
      refine f_M_readHunk_271 ?_
      intro S63 e63
      obtain ⟨s2, o2⟩ := s1.fwd hi e63
      refine ⟨fun z => absurd s2.2.2.1 z, fun _ => (s_M_look s2).mono fun r S65 ⟨e1, e2⟩ => ?_⟩
      subst e1
      subst e2
      refine s_M_isLetter.mono fun r S67 ⟨e1, e2⟩ => ?_
      subst e1
      subst e2
      refine ⟨fun z => ?_, fun z => ?_⟩
      · rw [b2i_1] at z
        refine s_M_297 false s2.1 s2.2.1 s2.2.2.2 (fun _ => isLet_lt z) fun S' o' s' => ?_
        by_cases h10 : ch l (i + 2) = nI 10
        · rw [show (if false = true then Except.error (i + 1) else sgn l 10 (i + 1 + 1)) = .ok (i + 3) by rw [if_neg (by decide), sgn, if_pos h10]] at s'
          exact hK1 hm z h10 S' ((o1.tr o2).tr o') s'
        · rw [show (if false = true then Except.error (i + 1) else sgn l 10 (i + 1 + 1)) = .error (i + 2) by rw [if_neg (by decide), sgn, if_neg h10]] at s'
          exact hK0 (i + 2) (fun f => lns_e2 hd hm z h10) S' _ _ ((o1.tr o2).tr o') s'
      · rw [b2i_0] at z
        refine s_M_297 true s2.1 s2.2.1 s2.2.2.2 (fun w => by cases w) fun S' o' s' => ?_
        exact hK0 (i + 1) (fun f => lns_e1 hd hm (by rw [z]; decide)) S' _ _ ((o1.tr o2).tr o') s'
    refine f_M_readHunk_196 ⟨fun _ => ?_, fun z => absurd z (by decide)⟩
    intro S58 e58
    have nx := next S58 e58
    rcases may_t.mp hm with ⟨hc, w⟩ | ⟨hc, w⟩ | ⟨hc, w⟩
    · rw [dO, dN, hc, if_neg n2, if_neg n3] at nx
      rw [hc, show (1 : Int32) = nI 1 from rfl, pk_sub (by omega), pk_sub (by omega)]
      exact ⟨fun z => absurd z n2, fun _ => ⟨fun z => absurd z n3, fun _ => nx⟩⟩
    · rw [dO, dN, hc, if_neg n1, if_pos rfl] at nx
      rw [hc]
      refine ⟨fun z => absurd z n1, fun _ => ⟨fun _ => ?_, fun z => absurd rfl z⟩⟩
      rw [show nI o - 1 = nI (o - 1) from pk_sub (b := 1) (by omega)]
      exact nx
    · rw [dO, dN, hc, if_pos rfl, if_neg (Ne.symm n1)] at nx
      rw [hc]
      refine ⟨fun _ => ⟨fun z => absurd z (Ne.symm n1), fun _ => ?_⟩, fun z => absurd rfl z⟩
      rw [show nI n - 1 = nI (n - 1) from pk_sub (b := 1) (by omega)]
      exact nx
theorem s_M_117 {g : lp_G} {d : Nat} {Q : SS → Prop} {S : SS} {l : List Int32} {i k o n : Nat} (hs : stM S l (.ok i)) (hd : ¬ (o = 0 ∧ n = 0)) (ho : o ≤ 99) (hn : n ≤ 99) (hK : AtV g um_M_readHunk (d + 2) Q 196 [(0, .ref (g.2.1 + 151)), (1, .int (nI o)), (2, .int (nI n)), (3, .int (nI k)), (4, .int (ch l i))] [.int (b2i (may (ch l i) o n))] S) : AtV g um_M_readHunk (d + 2) Q 117 [(0, .ref (g.2.1 + 151)), (1, .int (nI o)), (2, .int (nI n)), (3, .int (nI k))] [] S := by
  have n1 : ¬ nI 45 = nI 43 := by decide
  have n2 : ¬ nI 32 = nI 43 := by decide
  have n3 : ¬ nI 32 = nI 45 := by decide
  have kt : may (ch l i) o n = true → AtV g um_M_readHunk (d + 2) Q 196 [(0, .ref (g.2.1 + 151)), (1, .int (nI o)), (2, .int (nI n)), (3, .int (nI k)), (4, .int (ch l i))] [.int 1] S := fun h => by rw [h] at hK; exact hK
  have kf : ¬ may (ch l i) o n = true → AtV g um_M_readHunk (d + 2) Q 196 [(0, .ref (g.2.1 + 151)), (1, .int (nI o)), (2, .int (nI n)), (3, .int (nI k)), (4, .int (ch l i))] [.int 0] S := fun h => by rw [Bool.not_eq_true] at h; rw [h] at hK; exact hK
  have lo : ∀ {a : Nat}, a ≤ 99 → (nI a ≤ 0 ↔ a = 0) := fun {a} ha => (nI_leI (a := a) (b := 0) (by omega) (by omega)).trans ⟨fun z => by omega, fun z => by omega⟩
  have lt : 0 < nI o ↔ 0 < o := nI_ltI (a := 0) (by omega) (by omega)
  refine f_M_readHunk_117 ⟨fun z => absurd hs.2.2.1 z, fun _ => ?_⟩
  rw [lt, lo hn, lo ho]
  refine ⟨fun z => (s_M_look hs).mono fun r S1 ⟨e1, e2⟩ => ?_, fun z => ⟨fun y => absurd (show o = 0 ∧ n = 0 by omega) hd, fun y => (s_M_look hs).mono fun r S1 ⟨e1, e2⟩ => ?_⟩⟩
  · subst e1
    subst e2
    refine ⟨fun a => ⟨fun b => ⟨fun c => kf fun w => ?_, fun c => ⟨fun e => kf fun w => ?_, fun e => kt (may_t.mpr (Or.inr (Or.inr ⟨c, by omega⟩)))⟩⟩, fun b => ⟨fun e => absurd e (by omega), fun e => kt (may_t.mpr (Or.inr (Or.inl ⟨b, by omega⟩)))⟩⟩, fun a => ⟨fun e => absurd e (by omega), fun e => ⟨fun c => kf fun w => ?_, fun c => kt (may_t.mpr (Or.inl ⟨a, by omega, by omega⟩))⟩⟩⟩
    · rcases may_t.mp w with w | w | w
      · exact a w.1
      · exact b w.1
      · exact c w.1
    · rcases may_t.mp w with w | w | w
      · exact a w.1
      · exact b w.1
      · omega
    · rcases may_t.mp w with w | w | w
      · omega
      · exact n3 (a.symm.trans w.1)
      · exact n2 (a.symm.trans w.1)
  · subst e1
    subst e2
    refine ⟨fun a => ⟨fun b => ⟨fun c => kf fun w => ?_, fun c => kt (may_t.mpr (Or.inr (Or.inr ⟨c, by omega⟩)))⟩, fun b => ⟨fun e => kf fun w => ?_, fun e => absurd (show o = 0 by omega) e⟩⟩, fun a => ⟨fun e => kf fun w => ?_, fun e => absurd (show o = 0 by omega) e⟩⟩
    · rcases may_t.mp w with w | w | w
      · exact a w.1
      · exact b w.1
      · exact c w.1
    · rcases may_t.mp w with w | w | w
      · omega
      · omega
      · exact n1 (b.symm.trans w.1)
    · rcases may_t.mp w with w | w | w
      · omega
      · omega
      · exact n2 (a.symm.trans w.1)
theorem s_M_lines_loop {g : lp_G} {d : Nat} {Q : SS → Prop} {l : List Int32} {h : Nat} (hh : h < 80) : ∀ (f i o n k : Nat) (S : SS), o + n ≤ f → o ≤ 99 → n ≤ 99 → stM S l (.ok i) → S.1 151 26 = nI h → (∀ S', ah h la q173 S S' → S'.1 151 26 = nI (h + 1) → ((∃ L p, lns l f o n i = .ok (L, p) ∧ stM S' l (.ok p) ∧ S'.2 173 h = nI (k + L.length)) ∨ (∃ e, lns l f o n i = .error e ∧ stM S' l (.error e))) → Q S') → AtV g um_M_readHunk (d + 2) Q 117 [(0, .ref (g.2.1 + 151)), (1, .int (nI o)), (2, .int (nI n)), (3, .int (nI k))] [] S := by
  have up : ∀ {S1 S2 : SS}, om wf d0 S1 S2 → ah h la q173 S1 S2 := fun o => (om_ah o).mo (fun j z => by unfold wf at z; unfold la; omega) (fun _ z => z.elim)
  have k26 : ∀ {S1 S2 : SS}, om wf d0 S1 S2 → S1.1 151 26 = nI h → S2.1 151 26 = nI h := fun o e => by rw [o.1 151 26 (by simp [wf])]; exact e
  intro f
  induction f with
  | zero =>
    intro i o n k S hf ho hn hs h26 hQ
    obtain ⟨rfl, rfl⟩ : o = 0 ∧ n = 0 := by omega
    exact s_M_exit hh hs h26 (Or.inr ⟨rfl, rfl⟩) fun S' a1 a2 a3 a4 => hQ S' a1 a3 (Or.inl ⟨[], i, rfl, a2, by simpa using a4⟩)
  | succ f ih =>
    intro i o n k S hf ho hn hs h26 hQ
    by_cases hd : o = 0 ∧ n = 0
    · obtain ⟨rfl, rfl⟩ := hd
      exact s_M_exit hh hs h26 (Or.inr ⟨rfl, rfl⟩) fun S' a1 a2 a3 a4 => hQ S' a1 a3 (Or.inl ⟨[], i, by rw [lns, if_pos ⟨rfl, rfl⟩], a2, by simpa using a4⟩)
    · refine s_M_117 hs hd ho hn (s_M_196 hs hd (fun hm hl h10 S' o' s' => ?_) (fun e he S' x1 x2 o' s' => ?_))
      · have md := may_d hm
        refine ih (i + 3) _ _ (k + 1) S' (by omega) (by omega) (by omega) s' (k26 o' h26) fun S2 a1 a2 w => hQ S2 ((up o').tr a1) a2 ?_
        rw [lns_s hd hm hl h10]
        rcases w with ⟨L, p, w1, w2, w3⟩ | ⟨e, w1, w2⟩
        · exact Or.inl ⟨(ch l i, ch l (i + 1)) :: L, p, by simp only [w1], w2, by rw [w3, List.length_cons]; congr 1; omega⟩
        · exact Or.inr ⟨e, by simp only [w1], w2⟩
      · exact s_M_exit hh s' (k26 o' h26) (Or.inl ⟨e, rfl⟩) fun S2 a1 a2 a3 a4 => hQ S2 ((up o').tr a1) a3 (Or.inr ⟨e, he f, a2⟩)
def hmk (S : SS) (h : Nat) (H : HK) : Prop := S.2 170 h = nI H.1 ∧ S.2 171 h = nI (oldL H.2.2).length ∧ S.2 172 h = nI (newL H.2.2).length ∧ S.2 173 h = nI H.2.2.length ∧ S.2 174 h = nI H.2.1
theorem s_M_readHunk {g : lp_G} {d : Nat} {S : SS} {l : List Int32} {i h : Nat} (hs : stM S l (.ok i)) (h26 : S.1 151 26 = nI h) (hh : h < 80) : MtV g um_M_readHunk (d + 2) [.ref (g.2.1 + 151)] S (fun S' => ah h la ha2 S S' ∧ S'.1 151 26 = nI (h + 1) ∧ ((∃ H q, hnk l i = .ok (H, q) ∧ stM S' l (.ok q) ∧ hmk S' h H) ∨ (∃ e, hnk l i = .error e ∧ stM S' l (.error e)))) := by
  have up : ∀ {S1 S2 : SS}, ah h wf ha2 S1 S2 → ah h la ha2 S1 S2 := fun o => o.mo (fun j z => by unfold wf at z; unfold la; omega) (fun _ z => z)
  have up2 : ∀ {S1 S2 : SS}, ah h la q173 S1 S2 → ah h la ha2 S1 S2 := fun o => o.mo (fun j z => z) (fun q z => by unfold q173 at z; unfold ha2; omega)
  refine s_M_head hs h26 hh fun S1 o1 s1 a b c e => ?_
  have c26 : S1.1 151 26 = nI h := by rw [o1.1.1 151 26 (by simp [wf])]; exact h26
  have hc := hd_chain l i
  have lo : nv l (hc3 l i) ≤ 99 := nv_le
  have ln : nv l (hc7 l i) ≤ 99 := nv_le
  cases e9 : hc9 l i with
  | error p =>
    rw [e9] at hc s1
    refine s_M_exit (k := 0) hh s1 c26 (Or.inl ⟨p, rfl⟩) fun S2 a1 a2 a3 a4 => ⟨(up o1).tr (up2 a1), a3, Or.inr ⟨p, ?_, a2⟩⟩
    dsimp only at hc
    simp only [hnk, hc]
  | ok p =>
    rw [e9] at hc s1
    dsimp only at hc
    have hb := hdr_ok hc
    refine s_M_lines_loop (k := 0) hh (nv l (hc3 l i) + nv l (hc7 l i)) p _ _ S1 (Nat.le_refl _) lo ln s1 c26 fun S2 a1 a2 w => ⟨(up o1).tr (up2 a1), a2, ?_⟩
    rcases w with ⟨L, q, w1, w2, w3⟩ | ⟨e, w1, w2⟩
    · have kk := lns_ok _ _ _ _ _ _ (Nat.le_refl _) (by omega) w1
      refine Or.inl ⟨(nv l (hc1 l i), p, L), q, by simp only [hnk, hc, w1], w2, ?_, ?_, ?_, ?_, ?_⟩
      · rw [a1.1.2 170 (by simp [q173])]; exact a
      · rw [a1.1.2 171 (by simp [q173]), kk.2.2.1]; exact b
      · rw [a1.1.2 172 (by simp [q173]), kk.2.2.2.1]; exact c
      · rw [w3, Nat.zero_add]
      · rw [a1.1.2 174 (by simp [q173])]; exact e p e9
    · exact Or.inr ⟨e, by simp only [hnk, hc, w1], w2⟩
theorem hmk.keep {S S' : SS} {h j : Nat} {H : HK} {fs ps : Nat → Prop} (hm : hmk S j H) (ho : ah h fs ps S S') (hj : j ≠ h) : hmk S' j H := by
  unfold hmk
  rw [ho.2 170 j hj, ho.2 171 j hj, ho.2 172 j hj, ho.2 173 j hj, ho.2 174 j hj]
  exact hm
theorem s_M_read_loop {g : lp_G} {d : Nat} {Q : Int32 → SS → Prop} {l : List Int32} : ∀ (f i h : Nat) (S : SS), stM S l (.ok i) → S.1 151 26 = nI h → 12 * h ≤ i → l.length ≤ i + f → (∀ r S', om la ha2 S S' → (∀ q j, j < h → S'.2 q j = S.2 q j) → ((∃ Hs, hks l f i = .ok Hs ∧ r = -1 ∧ S'.1 151 26 = nI (h + Hs.length) ∧ ∀ k, k < Hs.length → hmk S' (h + k) (Hs.getD k (0, 0, []))) ∨ (∃ e, hks l f i = .error e ∧ r = nI e ∧ e ≤ l.length)) → paM S' l → Q r S') → AtI g um_M_read (d + 3) Q 15 [(0, .ref (g.2.1 + 151))] [] S := by
  intro f
  induction f with
  | zero =>
    intro i h S hs h26 hh hf hQ
    have hl := hs.1.1
    refine f_M_read_15 ?_
    rw [hs.1.2.1, hs.2.1, nI_leI (by omega) (by have := hs.2.2.2; omega)]
    exact ⟨fun _ => ⟨fun _ => hQ (-1) S om.re (fun _ _ _ => rfl) (Or.inl ⟨[], rfl, rfl, by simpa using h26, fun k hk => by simp at hk⟩) hs.1, fun z => absurd hs.2.2.1 z⟩, fun z => absurd hf (by omega)⟩
  | succ f ih =>
    intro i h S hs h26 hh hf hQ
    have hl := hs.1.1
    refine f_M_read_15 ?_
    rw [hs.1.2.1, hs.2.1, nI_leI (by omega) (by have := hs.2.2.2; omega)]
    refine ⟨fun y => ⟨fun _ => hQ (-1) S om.re (fun _ _ _ => rfl) (Or.inl ⟨[], by rw [hks, if_pos y], rfl, by simpa using h26, fun k hk => by simp at hk⟩) hs.1, fun z => absurd hs.2.2.1 z⟩, fun y => ⟨fun z => absurd hs.2.2.1 z, fun _ => ?_⟩⟩
    refine (s_M_readHunk hs h26 (by omega)).mono fun S1 ⟨o1, c26, w⟩ => ?_
    rcases w with ⟨H, q, w1, w2, w3⟩ | ⟨e, w1, w2⟩
    · have hb := hnk_ok (a := H.1) (p := H.2.1) (L := H.2.2) w1
      refine ih q (h + 1) S1 w2 c26 (by omega) (by omega) fun r S2 o2 k2 v p2 => hQ r S2 (o1.1.tr o2) (fun q j hj => by rw [k2 q j (by omega), o1.2 q j (by omega)]) ?_ p2
      rcases v with ⟨Hs, v1, v2, v3, v4⟩ | ⟨e, v1, v2⟩
      · refine Or.inl ⟨H :: Hs, by simp only [hks, if_neg y, w1, v1], v2, by rw [v3, List.length_cons]; congr 1; omega, fun k hk => ?_⟩
        cases k with
        | zero =>
          have : hmk S2 h H := by
            unfold hmk
            rw [k2 170 h (by omega), k2 171 h (by omega), k2 172 h (by omega), k2 173 h (by omega), k2 174 h (by omega)]
            exact w3
          simpa using this
        | succ k =>
          have := v4 k (by simp at hk; omega)
          rw [show h + (k + 1) = h + 1 + k by omega]
          simpa using this
      · exact Or.inr ⟨e, by simp only [hks, if_neg y, w1, v1], v2⟩
    · have fin : Q (S1.1 151 33) S1 := by
        rw [w2.2.1]
        exact hQ _ S1 o1.1 (fun q j hj => o1.2 q j (by omega)) (Or.inr ⟨e, by simp only [hks, if_neg y, w1], rfl, w2.2.2.2⟩) w2.1
      exact f_M_read_15 ⟨fun _ => ⟨fun z => absurd (w2.2.2.1.symm.trans z) (by decide), fun _ => fin⟩, fun _ => ⟨fun _ => fin, fun z => absurd (w2.2.2.1.symm.trans z) (by decide)⟩⟩
/-- what reading leaves: all hunks -/
def hmS (S : SS) (Hs : List HK) : Prop := S.1 151 26 = nI Hs.length ∧ ∀ k, k < Hs.length → hmk S k (Hs.getD k (0, 0, []))
theorem s_M_read {g : lp_G} {d : Nat} {S : SS} {l : List Int32} (h : paM S l) : MtI g um_M_read (d + 3) [.ref (g.2.1 + 151)] S (fun r S' => om la ha2 S S' ∧ paM S' l ∧ ((∃ Hs, hks l l.length 0 = .ok Hs ∧ r = -1 ∧ hmS S' Hs) ∨ (∃ e, hks l l.length 0 = .error e ∧ r = nI e ∧ e ≤ l.length))) := by
  refine f_M_read ?_
  rintro S1 rfl S2 rfl S3 rfl
  have o : om la ha2 S (setI (setI (setI S 151 33 0) 151 26 0) 151 34 0) := ((om_I (by simp [la])).tr (om_I (by simp [la]))).tr (om_I (by simp [la]))
  refine s_M_read_loop l.length 0 0 _ ⟨h.keep o (by simp [la]) (by simp [ha2]), by rw [setI_o (by omega), setI_o (by omega), setI_s]; rfl, setI_s, by omega⟩ (by rw [setI_o (by omega), setI_s]; rfl) (by omega) (by omega) fun r S' o' k w p => ⟨o.tr o', p, ?_⟩
  rcases w with ⟨Hs, w1, w2, w3, w4⟩ | w
  · exact Or.inl ⟨Hs, w1, w2, by simpa using w3, fun k hk => by simpa using w4 k hk⟩
  · exact Or.inr w
theorem sim_read (g : lp_G) : Sim g um_P_read um_M_read [] := by
  intro m ho
  have cM : ∀ {S S' : SS}, relM S m → om la ha2 S S' → relM S' m ∧ off pM S S' := fun hm o => by
    have o' := o.mo (fs' := mf) (ps' := mk) (fun j z => by unfold la at z; unfold mf; omega) (fun q z => by unfold ha2 at z; unfold mk; omega)
    exact ⟨hm.scr o' (o.2 152 (by simp [ha2])) (o.2 153 (by simp [ha2])), om_M o' (fun q z => z.1)⟩
  have cC : ∀ {S S' : SS}, relC S m → od dh dp S S' → relC S' m ∧ off pC S S' := fun hc o => by
    have o' := od_off o
    exact ⟨hc.scr (o'.mo fun q z => by unfold dp at z; unfold sk; omega), o'.mo fun q z => by unfold dp at z; unfold pC; omega⟩
  cases e : hks m.2.2 m.2.2.length 0 with
  | error p =>
    refine ⟨nI p, m, ho, fun S hc => f_P_read ((s_D_fail hc.2.2).mono fun r S' ⟨o, w⟩ => ?_), fun S hm => (s_M_read hm.2.2).mono fun r S' ⟨o, _, w⟩ => ?_⟩
    · rcases w with ⟨H, w1, w2⟩ | ⟨e', w1, w2, _⟩
      · rw [e] at w1; cases w1
      · rw [e] at w1; cases w1; exact ⟨w2, cC hc o⟩
    · rcases w with ⟨H, w1, w2⟩ | ⟨e', w1, w2, _⟩
      · rw [e] at w1; cases w1
      · rw [e] at w1; cases w1; exact ⟨w2, cM hm o⟩
  | ok H =>
    refine ⟨-1, m, ho, fun S hc => f_P_read ((s_D_fail hc.2.2).mono fun r S' ⟨o, w⟩ => ?_), fun S hm => (s_M_read hm.2.2).mono fun r S' ⟨o, _, w⟩ => ?_⟩
    · rcases w with ⟨H, w1, w2⟩ | ⟨e', w1, w2⟩
      · exact ⟨w2, cC hc o⟩
      · rw [e] at w1; cases w1
    · rcases w with ⟨H, w1, w2, _⟩ | ⟨e', w1, w2⟩
      · exact ⟨w2, cM hm o⟩
      · rw [e] at w1; cases w1
