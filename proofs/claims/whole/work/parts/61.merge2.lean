/-! merge: the class's loop, the reference -/
def ik : Nat → Prop := fun q => gs q
theorem s_G_loop {g : lp_G} {d : Nat} {Q : Int32 → SS → Prop} {o p q : List Int32} {f1 f2 : Nat → Option Nat} (m1 : mono f1 o.length p.length) (m2 : mono f2 o.length q.length) : ∀ (n k i0 p0 q0 c : Nat) (S : SS) (acc : List Int32), o.length - k = n → k ≤ o.length → i0 ≤ k → p0 ≤ p.length → q0 ≤ q.length → fok f1 k p0 p.length → fok f2 k q0 q.length → tx S 143 o → tx S 145 p → tx S 147 q → cm S 126 o p f1 → cm S 132 o q f2 → mgd S acc c → S.1 138 1 = nI i0 → S.1 139 1 = nI p0 → S.1 140 1 = nI q0 → (∀ S', mgd S' (acc ++ (mg o p q f1 f2 n k i0 p0 q0).1) (c + (mg o p q f1 f2 n k i0 p0 q0).2) → off gs S S' → Q (nI (c + (mg o p q f1 f2 n k i0 p0 q0).2)) S') → AtI g um_G_bringTogether (d + 5) Q 85 [(0, .ref (g.2.1 + 125)), (1, .ref (g.2.1 + 143)), (2, .ref (g.2.1 + 145)), (3, .ref (g.2.1 + 147)), (4, .int (nI k))] [] S := by
  have t3 : isT 143 := isT_t (t := 0) (by omega)
  have t5 : isT 145 := isT_t (t := 1) (by omega)
  have t7 : isT 147 := isT_t (t := 2) (by omega)
  have c6 : isC 126 := ⟨sh_126, sh_127, sh_128, sh_129, sh_130, sh_131⟩
  have c2 : isC 132 := ⟨sh_132, sh_133, sh_134, sh_135, sh_136, sh_137⟩
  intro n
  induction n with
  | zero =>
    intro k i0 p0 q0 c S acc hn hk hi hp hq g1 g2 x3 x5 x7 h1 h2 hm e1 e2 e3 hQ
    have l1 := x3.1
    have ek : k = o.length := by omega
    subst ek
    refine f_G_bringTogether_85 t3 t5 t7 ⟨fun _ => ?_, fun z => absurd (by rw [x3.2.1]; exact nI_le (Nat.le_refl _) (by omega)) z⟩
    rw [x3.2.1, x5.2.1, x7.2.1]
    refine (s_G_settle h1 h2 hm e1 e2 e3 hi (Nat.le_refl _) hp (Nat.le_refl _) hq (Nat.le_refl _)).mono fun S' ⟨a1, a2, a3, a4, a5⟩ => ?_
    rw [a1.2.2]
    exact hQ S' a1 a5
  | succ n ih =>
    intro k i0 p0 q0 c S acc hn hk hi hp hq g1 g2 x3 x5 x7 h1 h2 hm e1 e2 e3 hQ
    have l1 := x3.1
    refine f_G_bringTogether_85 t3 t5 t7 ⟨fun z => absurd (by rw [x3.2.1] at z; exact z) (nI_ge (by omega) (by omega)), fun _ => ?_⟩
    refine (s_C_partnerOf c6 h1).mono fun r S1 ⟨y1, y2⟩ => ?_
    subst y1
    rw [prt_nI (by omega) (by omega)] at y2
    subst y2
    rw [nI_1]
    cases h1k : f1 k with
    | none =>
      rw [mg_n1 h1k] at hQ
      exact ⟨fun _ => ih (k + 1) i0 p0 q0 c S1 acc (by omega) (by omega) (by omega) hp hq g1.st g2.st x3 x5 x7 h1 h2 hm e1 e2 e3 hQ, fun z => absurd rfl z⟩
    | some a =>
      have ha := g1 k a (Nat.le_refl _) h1k
      have lp := x5.1
      refine ⟨fun z => absurd z (en_ne (by omega)), fun _ => ?_⟩
      refine (s_C_partnerOf c2 h2).mono fun r S2 ⟨y1, y2⟩ => ?_
      subst y1
      rw [prt_nI (by omega) (by omega)] at y2
      subst y2
      cases h2k : f2 k with
      | none =>
        rw [mg_n2 h2k] at hQ
        exact ⟨fun _ => ih (k + 1) i0 p0 q0 c S2 acc (by omega) (by omega) (by omega) hp hq g1.st g2.st x3 x5 x7 h1 h2 hm e1 e2 e3 hQ, fun z => absurd rfl z⟩
      | some b =>
        have hb := g2 k b (Nat.le_refl _) h2k
        have lq := x7.1
        refine ⟨fun z => absurd z (en_ne (by omega)), fun _ => ?_⟩
        refine (s_C_partnerOf c6 h1).mono fun r S3 ⟨y1, y2⟩ => ?_
        subst y1
        rw [prt_nI (by omega) (by omega), h1k] at y2
        subst y2
        refine (s_C_partnerOf c2 h2).mono fun r S4 ⟨y1, y2⟩ => ?_
        subst y1
        rw [prt_nI (by omega) (by omega), h2k] at y2
        subst y2
        refine (s_G_settle h1 h2 hm e1 e2 e3 hi (by omega) ha.1 (by omega) hb.1 (by omega)).mono fun S5 ⟨a1, a2, a3, a4, a5⟩ => ?_
        have x3' := x3.keep a5 (by unfold gs gp; omega) (by unfold gs gp; omega)
        refine ⟨vp_in_nI (by omega) (by omega), ?_⟩
        rw [nI_clamp (by omega), x3'.2.2 k (by omega)]
        refine (s_G_put a1).mono fun S6 ⟨b1, b2⟩ => ?_
        have o6 : off gs S4 S6 := a5.tr (b2.mo fun q z => Or.inl z)
        rw [mg_ss h1k h2k] at hQ
        refine ih (k + 1) (k + 1) (a + 1) (b + 1) _ S6 _ (by omega) (by omega) (Nat.le_refl _) (by omega) (by omega) (fok.up m1 h1k) (fok.up m2 h2k) (x3.keep o6 (by unfold gs gp; omega) (by unfold gs gp; omega)) (x5.keep o6 (by unfold gs gp; omega) (by unfold gs gp; omega)) (x7.keep o6 (by unfold gs gp; omega) (by unfold gs gp; omega)) (h1.keep o6 (fun q z => by unfold cp at z; unfold gs gp; omega)) (h2.keep o6 (fun q z => by unfold cp at z; unfold gs gp; omega)) b1 (by rw [(b2 138 (by unfold gp; omega)).1]; exact a2) (by rw [(b2 139 (by unfold gp; omega)).1]; exact a3) (by rw [(b2 140 (by unfold gp; omega)).1]; exact a4) fun S7 d1 d2 => ?_
        have := hQ S7 (by simpa only [List.append_assoc, Nat.add_assoc] using d1) (o6.tr d2)
        simpa only [Nat.add_assoc] using this
/-- the merge of three texts -/
def mrg (o p q : List Int32) : List Int32 × Nat := mg o p q (shw o p 0 o.length 0 p.length) (shw o q 0 o.length 0 q.length) o.length 0 0 0 0
def gt : Nat → Prop := fun q => (8 ≤ q ∧ q ≤ 35) ∨ (125 ≤ q ∧ q ≤ 142)
theorem s_G_bring {g : lp_G} {d : Nat} {S : SS} {o p q : List Int32} (x3 : tx S 143 o) (x5 : tx S 145 p) (x7 : tx S 147 q) : MtI g um_G_bringTogether (d + 5) [.ref (g.2.1 + 125), .ref (g.2.1 + 143), .ref (g.2.1 + 145), .ref (g.2.1 + 147)] S (fun r S' => r = nI (mrg o p q).2 ∧ mgd S' (mrg o p q).1 (mrg o p q).2 ∧ off gt S S') := by
  have t3 : isT 143 := isT_t (t := 0) (by omega)
  have t5 : isT 145 := isT_t (t := 1) (by omega)
  have t7 : isT 147 := isT_t (t := 2) (by omega)
  have c6 : isC 126 := ⟨sh_126, sh_127, sh_128, sh_129, sh_130, sh_131⟩
  have c2 : isC 132 := ⟨sh_132, sh_133, sh_134, sh_135, sh_136, sh_137⟩
  refine f_G_bringTogether t3 t5 t7 ?_
  refine (s_C_begin c6 t3 t5 x3 x5 (by unfold cp; omega) (by unfold cp; omega) (by unfold cp; omega) (by unfold cp; omega)).mono fun S1 ⟨a1, o1⟩ => ?_
  have o1' : off gt S S1 := o1.mo fun q z => by unfold cp at z; unfold gt; omega
  refine (s_S_matchTexts c6 (fun q z => by unfold cp at z; omega) a1).mono fun S2 ⟨a2, o2⟩ => ?_
  have o2' : off gt S S2 := o1'.tr (o2.mo fun q z => by unfold pp at z; unfold gt; omega)
  have y3 := x3.keep o2' (by unfold gt; omega) (by unfold gt; omega)
  have y7 := x7.keep o2' (by unfold gt; omega) (by unfold gt; omega)
  refine (s_C_begin c2 t3 t7 y3 y7 (by unfold cp; omega) (by unfold cp; omega) (by unfold cp; omega) (by unfold cp; omega)).mono fun S3 ⟨a3, o3⟩ => ?_
  have o3' : off gt S S3 := o2'.tr (o3.mo fun q z => by unfold cp at z; unfold gt; omega)
  have b3 := a2.keep o3 (fun q z => by unfold cp at *; omega)
  refine (s_S_matchTexts c2 (fun q z => by unfold cp at z; omega) a3).mono fun S4 ⟨a4, o4⟩ => ?_
  have o4' : off gt S S4 := o3'.tr (o4.mo fun q z => by unfold pp at z; unfold gt; omega)
  have b4 := b3.keep o4 (fun q z => by unfold cp at z; unfold pp; omega)
  rintro S9 rfl S10 rfl S11 rfl S12 rfl S13 rfl S14 rfl
  have o5 : off (fun q => q = 138 ∨ q = 139 ∨ q = 140 ∨ q = 141 ∨ q = 125) S4 (setI (setI (setI (setI (setI (setI S4 138 1 0) 139 1 0) 140 1 0) 141 1 0) 125 7 0) 125 8 0) := (((((off_I (by omega)).tr (off_I (by omega))).tr (off_I (by omega))).tr (off_I (by omega))).tr (off_I (by omega))).tr (off_I (by omega))
  have e1 : (setI (setI (setI (setI (setI (setI S4 138 1 0) 139 1 0) 140 1 0) 141 1 0) 125 7 0) 125 8 0).1 138 1 = nI 0 := by rw [setI_o (by omega), setI_o (by omega), setI_o (by omega), setI_o (by omega), setI_o (by omega), setI_s]; rfl
  have e2 : (setI (setI (setI (setI (setI (setI S4 138 1 0) 139 1 0) 140 1 0) 141 1 0) 125 7 0) 125 8 0).1 139 1 = nI 0 := by rw [setI_o (by omega), setI_o (by omega), setI_o (by omega), setI_o (by omega), setI_s]; rfl
  have e3 : (setI (setI (setI (setI (setI (setI S4 138 1 0) 139 1 0) 140 1 0) 141 1 0) 125 7 0) 125 8 0).1 140 1 = nI 0 := by rw [setI_o (by omega), setI_o (by omega), setI_o (by omega), setI_s]; rfl
  have em : mgd (setI (setI (setI (setI (setI (setI S4 138 1 0) 139 1 0) 140 1 0) 141 1 0) 125 7 0) 125 8 0) [] 0 := ⟨⟨by simp, by rw [setI_o (by omega), setI_o (by omega), setI_s]; rfl, fun i hi => by simp at hi⟩, by rw [setI_o (by omega), setI_s]; rfl, by rw [setI_s]; rfl⟩
  have o5' : off gt S (setI (setI (setI (setI (setI (setI S4 138 1 0) 139 1 0) 140 1 0) 141 1 0) 125 7 0) 125 8 0) := o4'.tr (o5.mo fun q z => by unfold gt; omega)
  have b6 := b4.keep o5 (fun q z => by unfold cp at z; omega)
  have b7 := a4.keep o5 (fun q z => by unfold cp at z; omega)
  generalize setI (setI (setI (setI (setI (setI S4 138 1 0) 139 1 0) 140 1 0) 141 1 0) 125 7 0) 125 8 0 = S5 at *
  refine s_G_loop mono_shw mono_shw o.length 0 0 0 0 0 S5 [] (by omega) (by omega) (by omega) (by omega) (by omega) (fun q r _ e => ⟨by omega, (mono_shw.1 q r e).2⟩) (fun q r _ e => ⟨by omega, (mono_shw.1 q r e).2⟩) (x3.keep o5' (by unfold gt; omega) (by unfold gt; omega)) (x5.keep o5' (by unfold gt; omega) (by unfold gt; omega)) (x7.keep o5' (by unfold gt; omega) (by unfold gt; omega)) b6 b7 em e1 e2 e3 fun S' c1 c2 => ⟨?_, ?_, o5'.tr (c2.mo fun q z => by unfold gs gp at z; unfold gt; omega)⟩
  · rw [Nat.zero_add]; rfl
  · rw [Nat.zero_add, List.nil_append] at c1; exact c1
theorem mrg_len {o p q : List Int32} (ho : o.length ≤ 24) (hp : p.length ≤ 24) (hq : q.length ≤ 24) : (mrg o p q).1.length ≤ 1300 := by
  have := mg_len (o := o) (f1 := shw o p 0 o.length 0 p.length) (f2 := shw o q 0 o.length 0 q.length) hp hq o.length 0 0 0 0
  unfold mrg
  omega
/-! the reference -/
def ouM (S : SS) (l : List Int32) : Prop := l.length ≤ 24 ∧ S.1 151 35 = nI l.length ∧ ∀ i, i < l.length → S.2 176 i = l.getD i 0
def oe1 : Nat → Prop := fun j => j = 35
def oe2 : Nat → Prop := fun q => q = 176
theorem s_M_emit {g : lp_G} {d : Nat} {S : SS} {l : List Int32} {x : Int32} (h : ouM S l) (hl : l.length < 24) : MtV g um_M_emit d [.ref (g.2.1 + 151), .int x] S (fun S' => ouM S' (l ++ [x]) ∧ om oe1 oe2 S S') := by
  obtain ⟨h1, h2, h3⟩ := h
  refine f_M_emit ⟨by rw [h2]; exact vp_in_nI (by omega) (by omega), ?_⟩
  rw [h2, nI_clamp (by omega)]
  rintro S3 rfl S4 rfl
  refine ⟨⟨by simp; omega, ?_, fun i hi => ?_⟩, (om_A (fs := oe1) (ps := oe2) rfl).tr (om_I rfl)⟩
  · rw [setI_s, setA_1, h2, nI_1, List.length_append]; rfl
  · rw [setI_2]
    by_cases e : i = l.length
    · subst e
      rw [setA_s, gd_r (Nat.le_refl _)]
      simp
    · have hi : i < l.length := by simp at hi; omega
      rw [setA_o (Or.inr e), h3 i hi, gd_l hi]
/-- what comes of an attempt to put l behind acc -/
def tre (S S' : SS) (acc l : List Int32) (r y n : Int32) : Prop := om oe1 oe2 S S' ∧ (((acc ++ l).length ≤ 24 ∧ r = y ∧ ouM S' (acc ++ l)) ∨ (24 < (acc ++ l).length ∧ r = n))
theorem s_M_tryEmit {g : lp_G} {d : Nat} {S : SS} {acc : List Int32} {x : Int32} (h : ouM S acc) : MtI g um_M_tryEmit (d + 1) [.ref (g.2.1 + 151), .int x] S (fun r S' => tre S S' acc [x] r 1 0) := by
  have hl := h.1
  refine f_M_tryEmit ?_
  rw [h.2.1, nI_eq (by omega) (by omega)]
  refine ⟨fun z => (s_M_emit h (by omega)).mono fun S2 ⟨a, b⟩ => ⟨b, Or.inl ⟨by simp; omega, rfl, a⟩⟩, fun z => ⟨om.re, Or.inr ⟨by simp; omega, rfl⟩⟩⟩
theorem s_M_emitPart_loop {g : lp_G} {d : Nat} {Q : Int32 → SS → Prop} {t b : Nat} {l : List Int32} (ht : t < 4) (hb : b ≤ l.length) : ∀ (n i : Nat) (S : SS) (acc : List Int32), b - i = n → i ≤ b → tm S t l → ouM S acc → (∀ r S', tre S S' acc (sl l i b) r 1 0 → Q r S') → AtI g um_M_emitPart (d + 2) Q 6 [(0, .ref (g.2.1 + 151)), (1, .int (nI t)), (3, .int (nI b)), (4, .int 1), (5, .int (nI i))] [] S := by
  intro n
  induction n with
  | zero =>
    intro i S acc hn hi h ho hQ
    have l1 := h.1
    have ei : i = b := by omega
    subst ei
    refine f_M_emitPart_6 ⟨fun _ => ⟨isB_1, hQ 1 S ⟨om.re, Or.inl ⟨?_, rfl, ?_⟩⟩⟩, fun z => absurd (nI_le (Nat.le_refl _) (by omega)) z⟩
    · rw [sl_self, List.append_nil]; exact ho.1
    · rw [sl_self, List.append_nil]; exact ho
  | succ n ih =>
    intro i S acc hn hi h ho hQ
    have l1 := h.1
    refine f_M_emitPart_6 ⟨fun z => absurd z (nI_ge (by omega) (by omega)), fun _ => ⟨fun z => absurd z (by decide), fun _ => ?_⟩⟩
    simp (disch := omega) only [pk_mul, nI_add, nI_1, nI_clamp]
    refine ⟨vp_in_nI (by omega) (by omega), ?_⟩
    rw [h.2.2 i (by omega)]
    refine (s_M_tryEmit ho).mono fun r S1 ⟨o1, w⟩ => ?_
    rcases w with ⟨w1, w2, w3⟩ | ⟨w1, w2⟩
    · subst w2
      refine ih (i + 1) S1 _ (by omega) (by omega) (h.keep o1 (by simp [oe2]) (by simp [oe2])) w3 fun r S2 ⟨o2, v⟩ => hQ r S2 ⟨o1.tr o2, ?_⟩
      rw [sl_cons (by omega) hb]
      simpa using v
    · subst w2
      have fin : Q 0 S1 := hQ 0 S1 ⟨o1, Or.inr ⟨by rw [sl_cons (by omega) hb]; simp at w1 ⊢; omega, rfl⟩⟩
      exact f_M_emitPart_6 ⟨fun _ => ⟨isB_0, fin⟩, fun _ => ⟨fun _ => ⟨isB_0, fin⟩, fun z => absurd rfl z⟩⟩
theorem s_M_emitPart {g : lp_G} {d : Nat} {S : SS} {t a b : Nat} {l acc : List Int32} (ht : t < 4) (hab : a ≤ b) (hb : b ≤ l.length) (h : tm S t l) (ho : ouM S acc) : MtI g um_M_emitPart (d + 2) [.ref (g.2.1 + 151), .int (nI t), .int (nI a), .int (nI b)] S (fun r S' => tre S S' acc (sl l a b) r 1 0) :=
  f_M_emitPart (s_M_emitPart_loop ht hb _ a S acc rfl hab h ho fun r S' z => z)
theorem s_M_same_loop {g : lp_G} {d : Nat} {Q : Int32 → SS → Prop} {S : SS} {s t a b c e : Nat} {l m : List Int32} (hs : s < 4) (ht : t < 4) (h0 : tm S s l) (h1 : tm S t m) (hb : b ≤ l.length) (he : e ≤ m.length) (hab : a ≤ b) (hce : c ≤ e) (hl : b - a = e - c) : ∀ (n k : Nat), b - a - k = n → k ≤ b - a → Q (b2i (decide (sl l (a + k) b = sl m (c + k) e))) S → AtI g um_M_sameParts d Q 21 [(0, .ref (g.2.1 + 151)), (1, .int (nI s)), (2, .int (nI a)), (3, .int (nI b)), (4, .int (nI t)), (5, .int (nI c)), (7, .int 1), (8, .int (nI k))] [] S := by
  have l0 := h0.1
  have l1 := h1.1
  intro n
  induction n with
  | zero =>
    intro k hn hk hQ
    refine f_M_sameParts_21 ⟨fun _ => ⟨isB_1, ?_⟩, fun z => absurd (by rw [pk_sub hab]; exact nI_le (by omega) (by omega)) z⟩
    rw [show a + k = b by omega, show c + k = e by omega, sl_self, sl_self] at hQ
    simpa [b2i] using hQ
  | succ n ih =>
    intro k hn hk hQ
    refine f_M_sameParts_21 ⟨fun z => absurd (by rw [pk_sub hab] at z; exact z) (nI_ge (by omega) (by omega)), fun _ => ⟨fun z => absurd z (by decide), fun _ => ?_⟩⟩
    simp (disch := omega) only [pk_mul, nI_add, nI_1, nI_clamp]
    refine ⟨vp_in_nI (by omega) (by omega), vp_in_nI (by omega) (by omega), ?_⟩
    rw [show 24 * s + a + k = 24 * s + (a + k) by omega, show 24 * t + c + k = 24 * t + (c + k) by omega, h0.2.2 (a + k) (by omega), h1.2.2 (c + k) (by omega)]
    rw [sl_cons (show a + k < b by omega) hb, sl_cons (show c + k < e by omega) he] at hQ
    refine ⟨fun z => ?_, fun z => ih (k + 1) (by omega) (by omega) ?_⟩
    · rw [decide_eq_false (by intro y; exact z (List.cons.inj y).1)] at hQ
      exact f_M_sameParts_21 ⟨fun _ => ⟨isB_0, hQ⟩, fun _ => ⟨fun _ => ⟨isB_0, hQ⟩, fun z => absurd rfl z⟩⟩
    · rw [z] at hQ
      simpa [Nat.add_assoc] using hQ
theorem s_M_same {g : lp_G} {d : Nat} {S : SS} {s t a b c e : Nat} {l m : List Int32} (hs : s < 4) (ht : t < 4) (h0 : tm S s l) (h1 : tm S t m) (hb : b ≤ l.length) (he : e ≤ m.length) (hab : a ≤ b) (hce : c ≤ e) : MtI g um_M_sameParts d [.ref (g.2.1 + 151), .int (nI s), .int (nI a), .int (nI b), .int (nI t), .int (nI c), .int (nI e)] S (fun r S' => S' = S ∧ r = b2i (decide (sl l a b = sl m c e))) := by
  have l0 := h0.1
  have l1 := h1.1
  refine f_M_sameParts ?_
  rw [pk_sub hab, pk_sub hce]
  refine ⟨fun z => ?_, fun z => ?_⟩
  · have fin : decide (sl l a b = sl m c e) = false := by
      rw [decide_eq_false]
      intro y
      apply z
      have := congrArg List.length y
      rw [sl_len hb, sl_len he] at this
      rw [this]
    rw [fin]
    exact f_M_sameParts_21 ⟨fun _ => ⟨isB_0, rfl, rfl⟩, fun _ => ⟨fun _ => ⟨isB_0, rfl, rfl⟩, fun z => absurd rfl z⟩⟩
  · rw [nI_eq (by omega) (by omega)] at z
    exact s_M_same_loop hs ht h0 h1 hb he hab hce z _ 0 rfl (by omega) ⟨rfl, rfl⟩
theorem s_M_mergeParts {g : lp_G} {d : Nat} {S : SS} {o p q acc : List Int32} {i0 k p0 a q0 b : Nat} (h0 : tm S 0 o) (h1 : tm S 1 p) (h2 : tm S 2 q) (ho : ouM S acc) (hk : i0 ≤ k) (hk2 : k ≤ o.length) (ha : p0 ≤ a) (ha2 : a ≤ p.length) (hb : q0 ≤ b) (hb2 : b ≤ q.length) : MtI g um_M_mergeParts (d + 3) [.ref (g.2.1 + 151), .int (nI i0), .int (nI k), .int (nI p0), .int (nI a), .int (nI q0), .int (nI b)] S (fun r S' => tre S S' acc (mpt (sl o i0 k) (sl p p0 a) (sl q q0 b)).1 r (nI (mpt (sl o i0 k) (sl p p0 a) (sl q q0 b)).2) (-1)) := by
  have fin : ∀ {t a b : Nat} {l : List Int32} {R : List Int32 × Nat} {S1 : SS}, t < 4 → a ≤ b → b ≤ l.length → tm S1 t l → ouM S1 acc → R = (sl l a b, 0) → MtI g um_M_emitPart (d + 2) [.ref (g.2.1 + 151), .int (nI t), .int (nI a), .int (nI b)] S1 (fun r S' => (r = 0 → tre S1 S' acc R.1 (-1) (nI R.2) (-1)) ∧ (¬ r = 0 → tre S1 S' acc R.1 0 (nI R.2) (-1))) := by
    intro t a b l R S1 ht hab hb h ho hR
    subst hR
    refine (s_M_emitPart ht hab hb h ho).mono fun r S2 ⟨o1, w⟩ => ?_
    rcases w with ⟨w1, w2, w3⟩ | ⟨w1, w2⟩
    · exact ⟨fun z => absurd (w2.symm.trans z) (by decide), fun _ => ⟨o1, Or.inl ⟨w1, rfl, w3⟩⟩⟩
    · exact ⟨fun _ => ⟨o1, Or.inr ⟨w1, rfl⟩⟩, fun z => absurd w2 z⟩
  refine f_M_mergeParts ?_
  refine (s_M_same (s := 1) (t := 0) (by omega) (by omega) h1 h0 ha2 hk2 ha hk).mono fun r S1 ⟨e1, e2⟩ => ?_
  subst e1
  subst e2
  refine ⟨fun z => ?_, fun z => ?_⟩
  · rw [b2i_0, decide_eq_false_iff_not] at z
    refine (s_M_same (s := 2) (t := 0) (by omega) (by omega) h2 h0 hb2 hk2 hb hk).mono fun r S2 ⟨e1, e2⟩ => ?_
    subst e1
    subst e2
    refine ⟨fun y => ?_, fun y => ?_⟩
    · rw [b2i_1, decide_eq_true_iff] at y
      exact fin (t := 1) (by omega) ha ha2 h1 ho (by rw [mpt, if_neg z, if_pos (Or.inl y)])
    · rw [b2i_0, decide_eq_false_iff_not] at y
      refine (s_M_same (s := 2) (t := 1) (by omega) (by omega) h2 h1 hb2 ha2 hb ha).mono fun r S3 ⟨e1, e2⟩ => ?_
      subst e1
      subst e2
      refine ⟨fun x => ?_, fun x => ?_⟩
      · rw [b2i_0, decide_eq_false_iff_not] at x
        rw [mpt, if_neg z, if_neg (fun w => w.elim y x)]
        refine (s_M_tryEmit ho).mono fun r S4 ⟨o4, w⟩ => ?_
        rcases w with ⟨w1, w2, w3⟩ | ⟨w1, w2⟩
        · refine ⟨fun z => absurd (w2.symm.trans z) (by decide), fun _ => ?_⟩
          refine (s_M_emitPart (t := 1) (by omega) ha ha2 (h1.keep o4 (by simp [oe2]) (by simp [oe2])) w3).mono fun r S5 ⟨o5, w⟩ => ?_
          have oo5 := o4.tr o5
          rcases w with ⟨w1, w2, w3⟩ | ⟨w1, w2⟩
          · refine ⟨fun z => absurd (w2.symm.trans z) (by decide), fun _ => ?_⟩
            refine (s_M_tryEmit w3).mono fun r S6 ⟨o6, w⟩ => ?_
            have oo6 := oo5.tr o6
            rcases w with ⟨w1, w2, w3⟩ | ⟨w1, w2⟩
            · refine ⟨fun z => absurd (w2.symm.trans z) (by decide), fun _ => ?_⟩
              refine (s_M_emitPart (t := 2) (by omega) hb hb2 (h2.keep oo6 (by simp [oe2]) (by simp [oe2])) w3).mono fun r S7 ⟨o7, w⟩ => ?_
              have oo7 := oo6.tr o7
              rcases w with ⟨w1, w2, w3⟩ | ⟨w1, w2⟩
              · refine ⟨fun z => absurd (w2.symm.trans z) (by decide), fun _ => ?_⟩
                refine (s_M_tryEmit w3).mono fun r S8 ⟨o8, w⟩ => ?_
                have oo8 := oo7.tr o8
                rcases w with ⟨w1, w2, w3⟩ | ⟨w1, w2⟩
                · refine ⟨fun z => absurd (w2.symm.trans z) (by decide), fun _ => ⟨oo8, Or.inl ⟨?_, rfl, ?_⟩⟩⟩
                  · simpa only [List.append_assoc] using w1
                  · simpa only [List.append_assoc] using w3
                · refine ⟨fun _ => ⟨oo8, Or.inr ⟨?_, rfl⟩⟩, fun z => absurd w2 z⟩
                  simpa only [List.append_assoc] using w1
              · refine ⟨fun _ => ⟨oo7, Or.inr ⟨?_, rfl⟩⟩, fun z => absurd w2 z⟩
                simp only [List.length_append, List.length_cons, List.length_nil] at w1 ⊢
                omega
            · refine ⟨fun _ => ⟨oo6, Or.inr ⟨?_, rfl⟩⟩, fun z => absurd w2 z⟩
              simp only [List.length_append, List.length_cons, List.length_nil] at w1 ⊢
              omega
          · refine ⟨fun _ => ⟨oo5, Or.inr ⟨?_, rfl⟩⟩, fun z => absurd w2 z⟩
            simp only [List.length_append, List.length_cons, List.length_nil] at w1 ⊢
            omega
        · refine ⟨fun _ => ⟨o4, Or.inr ⟨?_, rfl⟩⟩, fun z => absurd w2 z⟩
          simp only [List.length_append, List.length_cons, List.length_nil] at w1 ⊢
          omega
      · rw [b2i_1, decide_eq_true_iff] at x
        exact fin (t := 1) (by omega) ha ha2 h1 ho (by rw [mpt, if_neg z, if_pos (Or.inr x)])
  · rw [b2i_1, decide_eq_true_iff] at z
    exact fin (t := 2) (by omega) hb hb2 h2 ho (by rw [mpt, if_pos z])
