/-! merge: what it gives, and the class -/
def mpt (o p q : List Int32) : List Int32 × Nat := if p = o then (q, 0) else if q = o ∨ q = p then (p, 0) else ([nI 60] ++ (p ++ ([nI 61] ++ (q ++ [nI 62]))), 1)
def mg (o p q : List Int32) (f1 f2 : Nat → Option Nat) : Nat → Nat → Nat → Nat → Nat → List Int32 × Nat
  | 0, _, i0, p0, q0 => mpt (sl o i0 o.length) (sl p p0 p.length) (sl q q0 q.length)
  | n + 1, k, i0, p0, q0 => match f1 k, f2 k with
    | some a, some b => ((mpt (sl o i0 k) (sl p p0 a) (sl q q0 b)).1 ++ ([o.getD k 0] ++ (mg o p q f1 f2 n (k + 1) (k + 1) (a + 1) (b + 1)).1), (mpt (sl o i0 k) (sl p p0 a) (sl q q0 b)).2 + (mg o p q f1 f2 n (k + 1) (k + 1) (a + 1) (b + 1)).2)
    | none, _ => mg o p q f1 f2 n (k + 1) i0 p0 q0
    | _, none => mg o p q f1 f2 n (k + 1) i0 p0 q0
theorem mg_ss {o p q : List Int32} {f1 f2 : Nat → Option Nat} {n k i0 p0 q0 a b : Nat} (h1 : f1 k = some a) (h2 : f2 k = some b) : mg o p q f1 f2 (n + 1) k i0 p0 q0 = ((mpt (sl o i0 k) (sl p p0 a) (sl q q0 b)).1 ++ ([o.getD k 0] ++ (mg o p q f1 f2 n (k + 1) (k + 1) (a + 1) (b + 1)).1), (mpt (sl o i0 k) (sl p p0 a) (sl q q0 b)).2 + (mg o p q f1 f2 n (k + 1) (k + 1) (a + 1) (b + 1)).2) := by
  simp only [mg, h1, h2]
theorem mg_n1 {o p q : List Int32} {f1 f2 : Nat → Option Nat} {n k i0 p0 q0 : Nat} (h1 : f1 k = none) : mg o p q f1 f2 (n + 1) k i0 p0 q0 = mg o p q f1 f2 n (k + 1) i0 p0 q0 := by
  simp only [mg, h1]
theorem mg_n2 {o p q : List Int32} {f1 f2 : Nat → Option Nat} {n k i0 p0 q0 : Nat} (h1 : f2 k = none) : mg o p q f1 f2 (n + 1) k i0 p0 q0 = mg o p q f1 f2 n (k + 1) i0 p0 q0 := by
  cases e : f1 k <;> simp only [mg, h1, e]
theorem sl_le {m : List Int32} {a b : Nat} : (sl m a b).length ≤ m.length := by
  simp [sl]; omega
theorem mpt_len {o p q : List Int32} (hp : p.length ≤ 24) (hq : q.length ≤ 24) : (mpt o p q).1.length ≤ 51 ∧ (mpt o p q).2 ≤ 1 := by
  unfold mpt
  split
  · exact ⟨by simp only []; omega, by simp⟩
  · split
    · exact ⟨by simp only []; omega, by simp⟩
    · exact ⟨by simp; omega, by simp⟩
theorem mg_len {o p q : List Int32} {f1 f2 : Nat → Option Nat} (hp : p.length ≤ 24) (hq : q.length ≤ 24) : ∀ n k i0 p0 q0, (mg o p q f1 f2 n k i0 p0 q0).1.length ≤ 52 * (n + 1) := by
  have l1 : ∀ a b, (sl p a b).length ≤ 24 := fun a b => Nat.le_trans sl_le hp
  have l2 : ∀ a b, (sl q a b).length ≤ 24 := fun a b => Nat.le_trans sl_le hq
  intro n
  induction n with
  | zero =>
    intro k i0 p0 q0
    have := (mpt_len (o := sl o i0 o.length) (l1 p0 p.length) (l2 q0 q.length)).1
    show (mpt _ _ _).1.length ≤ _
    omega
  | succ n ih =>
    intro k i0 p0 q0
    cases h1 : f1 k with
    | none => rw [mg_n1 h1]; have := ih (k + 1) i0 p0 q0; omega
    | some a =>
      cases h2 : f2 k with
      | none => rw [mg_n2 h2]; have := ih (k + 1) i0 p0 q0; omega
      | some b =>
        rw [mg_ss h1 h2]
        have a1 := ih (k + 1) (k + 1) (a + 1) (b + 1)
        have a2 := (mpt_len (o := sl o i0 k) (l1 p0 a) (l2 q0 b)).1
        simp only [List.length_append, List.length_cons, List.length_nil]
        omega
def fok (f : Nat → Option Nat) (k p0 L : Nat) : Prop := ∀ q r, k ≤ q → f q = some r → p0 ≤ r ∧ r < L
theorem fok.st {f : Nat → Option Nat} {k p0 L : Nat} (h : fok f k p0 L) : fok f (k + 1) p0 L := fun q r hq e => h q r (by omega) e
theorem fok.up {f : Nat → Option Nat} {k a n L : Nat} (hm : mono f n L) (e : f k = some a) : fok f (k + 1) (a + 1) L := fun q r hq h => ⟨hm.2 k a q r e h (by omega), (hm.1 q r h).2⟩
theorem mono_shw {xs ys : List Int32} : mono (shw xs ys 0 xs.length 0 ys.length) xs.length ys.length := ⟨fun q r h => by
  have := wk_in _ _ _ _ _ h
  omega, fun q r q' r' h h' hq => wk_mono _ _ _ _ _ _ _ h h' hq⟩
def pt (S : SS) (k a b : Nat) : Prop := S.1 k 1 = nI a ∧ S.1 k 2 = nI b
theorem s_Q_eq_loop {g : lp_G} {d : Nat} {Q : Int32 → SS → Prop} {S : SS} {k0 t0 k1 t1 a b c e : Nat} {l m : List Int32} (hk0 : isQ k0 t0) (hk1 : isQ k1 t1) (h0 : tx S t0 l) (h1 : tx S t1 m) (p0 : pt S k0 a b) (p1 : pt S k1 c e) (hb : b ≤ l.length) (he : e ≤ m.length) (hab : a ≤ b) (hce : c ≤ e) (hl : b - a = e - c) : ∀ (n i : Nat), b - i = n → a ≤ i → i ≤ b → Q (b2i (decide (sl l i b = sl m (c + (i - a)) e))) S → AtI g um_Q_isEqualTo d Q 28 [(0, .ref (g.2.1 + k0)), (1, .ref (g.2.1 + k1)), (2, .int (nI i))] [] S := by
  have l0 := h0.1
  have l1 := h1.1
  intro n
  induction n with
  | zero =>
    intro i hn ha hi hQ
    have ei : i = b := by omega
    subst ei
    refine f_Q_isEqualTo_28 hk0 hk1 ⟨fun _ => ?_, fun z => absurd (by rw [p0.2]; exact nI_le (Nat.le_refl _) (by omega)) z⟩
    rw [show c + (i - a) = e by omega, sl_self, sl_self] at hQ
    simpa [b2i] using hQ
  | succ n ih =>
    intro i hn ha hi hQ
    refine f_Q_isEqualTo_28 hk0 hk1 ⟨fun z => absurd (by rw [p0.2] at z; exact z) (nI_ge (by omega) (by omega)), fun _ => ?_⟩
    rw [p1.1, p0.1, nI_add, pk_sub (by omega)]
    refine ⟨vp_in_nI (by omega) (by omega), vp_in_nI (by omega) (by omega), ?_⟩
    rw [nI_clamp (by omega), nI_clamp (by omega), h0.2.2 i (by omega), h1.2.2 (c + i - a) (by omega), nI_1]
    rw [sl_cons (show i < b by omega) hb, sl_cons (show c + (i - a) < e by omega) he, show c + (i - a) = c + i - a by omega] at hQ
    refine ⟨fun z => ih (i + 1) (by omega) (by omega) (by omega) ?_, fun z => ?_⟩
    · rw [z] at hQ
      rw [show c + (i + 1 - a) = c + i - a + 1 by omega]
      simpa using hQ
    · rw [decide_eq_false (by intro y; exact z (List.cons.inj y).1)] at hQ
      exact hQ
theorem s_Q_eq {g : lp_G} {d : Nat} {S : SS} {k0 t0 k1 t1 a b c e : Nat} {l m : List Int32} (hk0 : isQ k0 t0) (hk1 : isQ k1 t1) (h0 : tx S t0 l) (h1 : tx S t1 m) (p0 : pt S k0 a b) (p1 : pt S k1 c e) (hb : b ≤ l.length) (he : e ≤ m.length) (hab : a ≤ b) (hce : c ≤ e) : MtI g um_Q_isEqualTo d [.ref (g.2.1 + k0), .ref (g.2.1 + k1)] S (fun r S' => S' = S ∧ r = b2i (decide (sl l a b = sl m c e))) := by
  have l0 := h0.1
  have l1 := h1.1
  refine f_Q_isEqualTo hk0 hk1 ?_
  rw [p0.1, p0.2, p1.1, p1.2, pk_sub hab, pk_sub hce]
  refine ⟨fun z => ?_, fun z => ⟨rfl, ?_⟩⟩
  · rw [nI_eq (by omega) (by omega)] at z
    exact s_Q_eq_loop hk0 hk1 h0 h1 p0 p1 hb he hab hce z _ a rfl (Nat.le_refl _) hab ⟨rfl, by simp⟩
  · rw [decide_eq_false]
    · rfl
    · intro y
      apply z
      have := congrArg List.length y
      rw [sl_len hb, sl_len he] at this
      rw [this]
def mgd (S : SS) (acc : List Int32) (c : Nat) : Prop := tx S 141 (acc.take 24) ∧ S.1 125 7 = nI acc.length ∧ S.1 125 8 = nI c
def gp : Nat → Prop := fun q => q = 125 ∨ q = 141 ∨ q = 142
theorem mgd.keep {S S' : SS} {acc : List Int32} {c : Nat} {p : Nat → Prop} (h : mgd S acc c) (ho : off p S S') (h1 : ¬ p 125) (h2 : ¬ p 141) (h3 : ¬ p 142) : mgd S' acc c :=
  ⟨h.1.keep ho h2 h3, by rw [(ho 125 h1).1]; exact h.2.1, by rw [(ho 125 h1).1]; exact h.2.2⟩
theorem s_G_put {g : lp_G} {d : Nat} {S : SS} {acc : List Int32} {c : Nat} {x : Int32} (h : mgd S acc c) : MtV g um_G_put (d + 1) [.ref (g.2.1 + 125), .int x] S (fun S' => mgd S' (acc ++ [x]) c ∧ off gp S S') := by
  refine f_G_put ((s_T_append (show isT 141 from ⟨sh_141, sh_142⟩) h.1).mono fun S1 ⟨a1, o1⟩ => ?_)
  rintro S3 rfl
  rw [tk_tk] at a1
  have e := o1 125 (by unfold tp; omega)
  have o2 : off (fun q => q = 125) S1 (setI S1 125 7 (S1.1 125 7 + 1)) := off_I rfl
  refine ⟨⟨a1.keep o2 (by omega) (by omega), ?_, ?_⟩, (o1.mo fun q z => by unfold tp at z; unfold gp; omega).tr (o2.mo fun q z => Or.inl z)⟩
  · rw [setI_s, e.1, h.2.1, nI_1, List.length_append]; rfl
  · rw [setI_o (by omega), e.1]; exact h.2.2
theorem s_G_part_loop {g : lp_G} {d : Nat} {Q : SS → Prop} {k1 t1 b c : Nat} {l : List Int32} (hk1 : isQ k1 t1) (n1 : ¬ gp k1) (n2 : ¬ gp t1) (n3 : ¬ gp (t1 + 1)) (hb : b ≤ l.length) : ∀ (n i : Nat) (S : SS) (acc : List Int32), b - i = n → i ≤ b → tx S t1 l → S.1 k1 2 = nI b → mgd S acc c → (∀ S', mgd S' (acc ++ sl l i b) c → off gp S S' → Q S') → AtV g um_G_putPart (d + 2) Q 5 [(0, .ref (g.2.1 + 125)), (1, .ref (g.2.1 + k1)), (2, .int (nI i))] [] S := by
  intro n
  induction n with
  | zero =>
    intro i S acc hn hi ht hk h hQ
    have l1 := ht.1
    have ei : i = b := by omega
    subst ei
    refine f_G_putPart_5 hk1 ⟨fun _ => hQ S ?_ off.re, fun z => absurd (by rw [hk]; exact nI_le (Nat.le_refl _) (by omega)) z⟩
    rw [sl_self, List.append_nil]
    exact h
  | succ n ih =>
    intro i S acc hn hi ht hk h hQ
    have l1 := ht.1
    refine f_G_putPart_5 hk1 ⟨fun z => absurd (by rw [hk] at z; exact z) (nI_ge (by omega) (by omega)), fun _ => ⟨vp_in_nI (by omega) (by omega), ?_⟩⟩
    rw [nI_clamp (by omega), ht.2.2 i (by omega)]
    refine (s_G_put h).mono fun S1 ⟨a1, o1⟩ => ?_
    rw [nI_1]
    refine ih (i + 1) S1 _ (by omega) (by omega) (ht.keep o1 n2 n3) (by rw [(o1 k1 n1).1]; exact hk) a1 fun S2 c1 c2 => hQ S2 ?_ (o1.tr c2)
    rw [sl_cons (by omega) hb]
    simpa using c1
theorem s_G_putPart {g : lp_G} {d : Nat} {S : SS} {k1 t1 a b c : Nat} {l acc : List Int32} (hk1 : isQ k1 t1) (n1 : ¬ gp k1) (n2 : ¬ gp t1) (n3 : ¬ gp (t1 + 1)) (hab : a ≤ b) (hb : b ≤ l.length) (ht : tx S t1 l) (hp : pt S k1 a b) (h : mgd S acc c) : MtV g um_G_putPart (d + 2) [.ref (g.2.1 + 125), .ref (g.2.1 + k1)] S (fun S' => mgd S' (acc ++ sl l a b) c ∧ off gp S S') := by
  refine f_G_putPart hk1 ?_
  rw [hp.1]
  exact s_G_part_loop hk1 n1 n2 n3 hb _ a S acc rfl hab ht hp.2 h fun S' c1 c2 => ⟨c1, c2⟩
theorem pt.keep {S S' : SS} {k a b : Nat} {p : Nat → Prop} (h : pt S k a b) (ho : off p S S') (h1 : ¬ p k) : pt S' k a b := by
  unfold pt
  rw [(ho k h1).1]
  exact h
theorem iq8 : isQ 138 127 := ⟨sh_138, sh_127, sh_128⟩
theorem iq9 : isQ 139 129 := ⟨sh_139, sh_129, sh_130⟩
theorem iq0 : isQ 140 135 := ⟨sh_140, sh_135, sh_136⟩
def gs : Nat → Prop := fun q => gp q ∨ q = 138 ∨ q = 139 ∨ q = 140
theorem s_skip3 {g : lp_G} {d : Nat} {S : SS} {Q : SS → Prop} {acc : List Int32} {c k a b i0 p0 q0 : Nat} (h : mgd S acc c) (h1 : pt S 138 i0 k) (h2 : pt S 139 p0 a) (h3 : pt S 140 q0 b) (hQ : ∀ S', mgd S' acc c → S'.1 138 1 = nI (k + 1) → S'.1 139 1 = nI (a + 1) → S'.1 140 1 = nI (b + 1) → off gs S S' → Q S') : MtV g um_Q_skipFirmLine d [.ref (g.2.1 + 138)] S (fun S12 => MtV g um_Q_skipFirmLine d [.ref (g.2.1 + 139)] S12 (fun S14 => MtV g um_Q_skipFirmLine d [.ref (g.2.1 + 140)] S14 (fun S16 => Q S16))) := by
  refine f_Q_skipFirmLine iq8 ?_
  rintro S1 rfl
  refine f_Q_skipFirmLine iq9 ?_
  rintro S2 rfl
  refine f_Q_skipFirmLine iq0 ?_
  rintro S3 rfl
  simp only [setI_o (show (139 : Nat) ≠ 138 ∨ (2 : Nat) ≠ 1 from Or.inl (by omega)), setI_o (show (140 : Nat) ≠ 139 ∨ (2 : Nat) ≠ 1 from Or.inl (by omega)), setI_o (show (140 : Nat) ≠ 138 ∨ (2 : Nat) ≠ 1 from Or.inl (by omega))]
  rw [h1.2, h2.2, h3.2, nI_1, nI_1, nI_1]
  have o : off (fun q => q = 138 ∨ q = 139 ∨ q = 140) S (setI (setI (setI S 138 1 (nI (k + 1))) 139 1 (nI (a + 1))) 140 1 (nI (b + 1))) := ((off_I (Or.inl rfl)).tr (off_I (Or.inr (Or.inl rfl)))).tr (off_I (Or.inr (Or.inr rfl)))
  refine hQ _ (h.keep o (by omega) (by omega) (by omega)) ?_ ?_ ?_ (o.mo fun q z => Or.inr z)
  · rw [setI_o (by omega), setI_o (by omega), setI_s]
  · rw [setI_o (by omega), setI_s]
  · rw [setI_s]
theorem s_G_settle {g : lp_G} {d : Nat} {S : SS} {o p q acc : List Int32} {f1 f2 : Nat → Option Nat} {c i0 p0 q0 k a b : Nat} (h1 : cm S 126 o p f1) (h2 : cm S 132 o q f2) (hm : mgd S acc c) (e1 : S.1 138 1 = nI i0) (e2 : S.1 139 1 = nI p0) (e3 : S.1 140 1 = nI q0) (hk : i0 ≤ k) (hk2 : k ≤ o.length) (ha : p0 ≤ a) (ha2 : a ≤ p.length) (hb : q0 ≤ b) (hb2 : b ≤ q.length) : MtV g um_G_settleParts (d + 4) [.ref (g.2.1 + 125), .int (nI k), .int (nI a), .int (nI b)] S (fun S' => mgd S' (acc ++ (mpt (sl o i0 k) (sl p p0 a) (sl q q0 b)).1) (c + (mpt (sl o i0 k) (sl p p0 a) (sl q q0 b)).2) ∧ S'.1 138 1 = nI (k + 1) ∧ S'.1 139 1 = nI (a + 1) ∧ S'.1 140 1 = nI (b + 1) ∧ off gs S S') := by
  refine f_G_settleParts ?_
  rintro S1 rfl S2 rfl S3 rfl
  have o1 : off (fun q => q = 138 ∨ q = 139 ∨ q = 140) S (setI (setI (setI S 138 2 (nI k)) 139 2 (nI a)) 140 2 (nI b)) := ((off_I (Or.inl rfl)).tr (off_I (Or.inr (Or.inl rfl)))).tr (off_I (Or.inr (Or.inr rfl)))
  have p8 : pt (setI (setI (setI S 138 2 (nI k)) 139 2 (nI a)) 140 2 (nI b)) 138 i0 k := ⟨by rw [setI_o (by omega), setI_o (by omega), setI_o (by omega)]; exact e1, by rw [setI_o (by omega), setI_o (by omega), setI_s]⟩
  have p9 : pt (setI (setI (setI S 138 2 (nI k)) 139 2 (nI a)) 140 2 (nI b)) 139 p0 a := ⟨by rw [setI_o (by omega), setI_o (by omega), setI_o (by omega)]; exact e2, by rw [setI_o (by omega), setI_s]⟩
  have p10 : pt (setI (setI (setI S 138 2 (nI k)) 139 2 (nI a)) 140 2 (nI b)) 140 q0 b := ⟨by rw [setI_o (by omega), setI_o (by omega), setI_o (by omega)]; exact e3, by rw [setI_s]⟩
  have t8 := h1.1.keep o1 (by omega) (by omega)
  have t9 := h1.2.1.keep o1 (by omega) (by omega)
  have t10 := h2.2.1.keep o1 (by omega) (by omega)
  have hm1 := hm.keep o1 (by omega) (by omega) (by omega)
  generalize setI (setI (setI S 138 2 (nI k)) 139 2 (nI a)) 140 2 (nI b) = S3 at *
  have og : off gs S S3 := o1.mo fun q z => Or.inr z
  refine (s_Q_eq iq9 iq8 t9 t8 p9 p8 ha2 hk2 ha hk).mono fun r S4 ⟨e4, er⟩ => ?_
  subst e4
  subst er
  have fin : ∀ (S5 : SS) (acc' : List Int32) (c' : Nat), mgd S5 acc' c' → off gp S4 S5 → acc' = acc ++ (mpt (sl o i0 k) (sl p p0 a) (sl q q0 b)).1 → c' = c + (mpt (sl o i0 k) (sl p p0 a) (sl q q0 b)).2 → MtV g um_Q_skipFirmLine (d + 3) [.ref (g.2.1 + 138)] S5 (fun S12 => MtV g um_Q_skipFirmLine (d + 3) [.ref (g.2.1 + 139)] S12 (fun S14 => MtV g um_Q_skipFirmLine (d + 3) [.ref (g.2.1 + 140)] S14 (fun S' => mgd S' (acc ++ (mpt (sl o i0 k) (sl p p0 a) (sl q q0 b)).1) (c + (mpt (sl o i0 k) (sl p p0 a) (sl q q0 b)).2) ∧ S'.1 138 1 = nI (k + 1) ∧ S'.1 139 1 = nI (a + 1) ∧ S'.1 140 1 = nI (b + 1) ∧ off gs S S'))) := by
    intro S5 acc' c' w1 w2 w3 w4
    subst w3
    subst w4
    exact s_skip3 w1 (p8.keep w2 (by unfold gp; omega)) (p9.keep w2 (by unfold gp; omega)) (p10.keep w2 (by unfold gp; omega)) fun S6 y1 y2 y3 y4 y5 => ⟨y1, y2, y3, y4, (og.tr (w2.mo fun q z => Or.inl z)).tr y5⟩
  refine ⟨fun z => ?_, fun z => ?_⟩
  · rw [b2i_0, decide_eq_false_iff_not] at z
    refine (s_Q_eq iq0 iq8 t10 t8 p10 p8 hb2 hk2 hb hk).mono fun r S5 ⟨e5, er⟩ => ?_
    subst e5
    subst er
    refine ⟨fun y => ?_, fun y => ?_⟩
    · rw [b2i_1, decide_eq_true_iff] at y
      refine (s_G_putPart iq9 (by unfold gp; omega) (by unfold gp; omega) (by unfold gp; omega) ha ha2 t9 p9 hm1).mono fun S6 ⟨w1, w2⟩ => fin S6 _ _ w1 w2 ?_ ?_
      · rw [mpt, if_neg z, if_pos (Or.inl y)]
      · rw [mpt, if_neg z, if_pos (Or.inl y)]; rfl
    · rw [b2i_0, decide_eq_false_iff_not] at y
      refine (s_Q_eq iq0 iq9 t10 t9 p10 p9 hb2 ha2 hb ha).mono fun r S6 ⟨e6, er⟩ => ?_
      subst e6
      subst er
      refine ⟨fun x => ?_, fun x => ?_⟩
      · rw [b2i_0, decide_eq_false_iff_not] at x
        refine f_G_putConflict ?_
        rintro S7 rfl
        have o7 : off gp S6 (setI S6 125 8 (S6.1 125 8 + 1)) := off_I (Or.inl rfl)
        have m7 : mgd (setI S6 125 8 (S6.1 125 8 + 1)) acc (c + 1) := ⟨hm1.1.keep (off_I (p := fun q => q = 125) rfl) (by omega) (by omega), by rw [setI_o (by omega)]; exact hm1.2.1, by rw [setI_s, hm1.2.2, nI_1]⟩
        generalize setI S6 125 8 (S6.1 125 8 + 1) = S7 at *
        refine (s_G_put m7).mono fun S8 ⟨m8, o8⟩ => ?_
        have oo8 := o7.tr o8
        refine (s_G_putPart iq9 (by unfold gp; omega) (by unfold gp; omega) (by unfold gp; omega) ha ha2 (t9.keep oo8 (by unfold gp; omega) (by unfold gp; omega)) (p9.keep oo8 (by unfold gp; omega)) m8).mono fun S9 ⟨m9, o9⟩ => ?_
        refine (s_G_put m9).mono fun S10 ⟨m10, o10⟩ => ?_
        have oo10 := (oo8.tr o9).tr o10
        refine (s_G_putPart iq0 (by unfold gp; omega) (by unfold gp; omega) (by unfold gp; omega) hb hb2 (t10.keep oo10 (by unfold gp; omega) (by unfold gp; omega)) (p10.keep oo10 (by unfold gp; omega)) m10).mono fun S11 ⟨m11, o11⟩ => ?_
        refine (s_G_put m11).mono fun S12 ⟨m12, o12⟩ => ?_
        refine fin S12 _ _ m12 ((oo10.tr o11).tr o12) ?_ ?_
        · rw [mpt, if_neg z, if_neg (fun w => w.elim y x)]
          simp only [List.append_assoc]
        · rw [mpt, if_neg z, if_neg (fun w => w.elim y x)]
      · rw [b2i_1, decide_eq_true_iff] at x
        refine (s_G_putPart iq9 (by unfold gp; omega) (by unfold gp; omega) (by unfold gp; omega) ha ha2 t9 p9 hm1).mono fun S7 ⟨w1, w2⟩ => fin S7 _ _ w1 w2 ?_ ?_
        · rw [mpt, if_neg z, if_pos (Or.inr x)]
        · rw [mpt, if_neg z, if_pos (Or.inr x)]; rfl
  · rw [b2i_1, decide_eq_true_iff] at z
    refine (s_G_putPart iq0 (by unfold gp; omega) (by unfold gp; omega) (by unfold gp; omega) hb hb2 t10 p10 hm1).mono fun S5 ⟨w1, w2⟩ => fin S5 _ _ w1 w2 ?_ ?_
    · rw [mpt, if_pos z]
    · rw [mpt, if_pos z]; rfl
