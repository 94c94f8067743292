/-! write: the class's hunks -/
def prvE (U : List RU) (q c : Nat) : Nat := if c = 0 then q else ue (U.getD (c - 1) u0)
def nxtS (R : List (Int32 × Int32)) (U : List RU) (c : Nat) : Nat := if c + 1 < U.length then (U.getD (c + 1) u0).1 else R.length
theorem okR_q {xs ys : List Int32} {R : List (Int32 × Int32)} {U : List RU} {q : Nat} (h : okR xs ys R q U) : q ≤ (match U with | [] => R.length | u :: _ => u.1) ∧ kpt xs R q (match U with | [] => R.length | u :: _ => u.1) := by
  cases U with
  | nil => exact h
  | cons u t => exact ⟨h.1, h.2.1⟩
theorem okR_get {xs ys : List Int32} {R : List (Int32 × Int32)} : ∀ (U : List RU) (q : Nat), okR xs ys R q U → ∀ c, c < U.length → okU xs ys R (U.getD c u0) ∧ (ue (U.getD c u0) ≤ nxtS R U c ∧ kpt xs R (ue (U.getD c u0)) (nxtS R U c)) ∧ (prvE U q c ≤ (U.getD c u0).1 ∧ kpt xs R (prvE U q c) (U.getD c u0).1) := by
  intro U
  induction U with
  | nil => intro q h c hc; simp at hc
  | cons u t ih =>
    intro q h c hc
    obtain ⟨h1, h2, h3, h4⟩ := h
    cases c with
    | zero =>
      refine ⟨h3, ?_, h1, h2⟩
      have := okR_q h4
      cases t with
      | nil => exact this
      | cons v t => exact this
    | succ c =>
      have hc' : c < t.length := by simp at hc; omega
      obtain ⟨a1, a2, a3⟩ := ih (ue u) h4 c hc'
      rw [show (u :: t).getD (c + 1) u0 = t.getD c u0 by simp]
      refine ⟨a1, ?_, ?_⟩
      · have e : nxtS R (u :: t) (c + 1) = nxtS R t c := by
          unfold nxtS
          simp only [List.length_cons]
          by_cases z : c + 1 < t.length
          · rw [if_pos z, if_pos (by omega)]; simp
          · rw [if_neg z, if_neg (by omega)]
        rw [e]
        exact a2
      · have e : prvE (u :: t) q (c + 1) = prvE t (ue u) c := by
          unfold prvE
          rw [if_neg (by omega)]
          cases c with
          | zero => simp
          | succ c => rw [if_neg (by omega)]; simp
        rw [e]
        exact a3
theorem kpt_cN {xs : List Int32} {R : List (Int32 × Int32)} {a b : Nat} (h : kpt xs R a b) (hab : a ≤ b) : cN R 43 b = cN R 43 a + (b - a) ∧ cN R 45 b = cN R 45 a + (b - a) := by
  have e : a + (b - a) = b := by omega
  have h1 := cN_all (R := R) (c := 43) (p := a) (b - a) (fun q hq => by rw [(h.2 (a + q) (by omega) (by omega)).1]; exact k2_3)
  have h2 := cN_all (R := R) (c := 45) (p := a) (b - a) (fun q hq => by rw [(h.2 (a + q) (by omega) (by omega)).1]; exact k2_5)
  rw [e] at h1 h2
  exact ⟨h1, h2⟩
theorem kpt.sub {xs : List Int32} {R : List (Int32 × Int32)} {a b a' b' : Nat} (h : kpt xs R a b) (h1 : a ≤ a') (h2 : b' ≤ b) : kpt xs R a' b' := ⟨Nat.le_trans h2 h.1, fun r x y => h.2 r (by omega) (by omega)⟩
theorem kpt_ln {xs : List Int32} {R : List (Int32 × Int32)} {a b : Nat} (h : kpt xs R a b) (hab : a ≤ b) : ∀ q, q < b - a → kd R (a + q) = nI 32 ∧ lw R (a + q) = xs.getD (cN R 43 a + q) 0 := fun q hq => by
  have h1 := h.2 (a + q) (by omega) (by omega)
  have h2 := (kpt_cN (h.sub (Nat.le_refl a) (show a + q ≤ b by omega)) (by omega)).1
  rw [show a + q - a = q by omega] at h2
  exact ⟨h1.1, by rw [h1.2, h2]⟩
theorem opl_split {R : List (Int32 × Int32)} {a b c : Nat} (h1 : a ≤ b) (h2 : b ≤ c) : opl R a (c - a) = opl R a (b - a) ++ opl R b (c - b) := by
  rw [show c - a = (b - a) + (c - b) by omega, opl_add, show a + (b - a) = b by omega]
theorem nI_min {a b : Nat} (ha : a < 2 ^ 31) (hb : b < 2 ^ 31) : (if nI a < nI b then nI a else nI b) = nI (if a < b then a else b) := by
  by_cases h : a < b
  · rw [if_pos (nI_lt h hb), if_pos h]
  · rw [if_neg (nI_nlt (by omega) ha), if_neg h]
section CW
variable {g : lp_G} {xs ys : List Int32} {R : List (Int32 × Int32)} {U : List RU}
def wS (S : SS) (xs ys : List Int32) (U : List RU) : Prop := tx S 3 xs ∧ tx S 5 ys ∧ chA S U
theorem wS.keep {S S' : SS} (h : wS S xs ys U) (ho : off ap S S') : wS S' xs ys U :=
  ⟨h.1.keep ho (by unfold ap; omega) (by unfold ap; omega), h.2.1.keep ho (by unfold ap; omega) (by unfold ap; omega), h.2.2.keep ho (fun q z => by unfold ap at z; unfold wp; omega)⟩
theorem s_W_behind {d : Nat} {S : SS} {c : Nat} (h : wS S xs ys U) (ok : okR xs ys R 0 U) (hN : cN R 43 R.length = xs.length) (hR : R.length ≤ 48) (hc : c < U.length) : MtI g um_W_matchedBehind d [.ref (g.2.1 + 92), .int (nI c)] S (fun r S' => S' = S ∧ r = nI (nxtS R U c - ue (U.getD c u0))) := by
  have l25 := h.2.2.1
  have l1 := h.1.1
  have vc : vp_in (nI c) 25 := vp_in_nI (by omega) (by omega)
  obtain ⟨a1, a2, a3⟩ := okR_get U 0 ok c hc
  have rc := h.2.2.2.2 c hc
  have kc := (kpt_cN a2.2 a2.1).1
  rw [a1.2.2.2.2.2.2.2.1] at kc
  refine f_W_matchedBehind ?_
  rw [h.2.2.2.1, show nI U.length - 1 = nI (U.length - 1) from pk_sub (b := 1) (by omega), nI_eq (by omega) (by omega), nI_clamp (by omega), nI_1, nI_clamp (by omega)]
  refine ⟨fun z => ⟨vp_in_nI (by omega) (by omega), vc, rfl, ?_⟩, fun z => ⟨vc, rfl, ?_⟩⟩
  · have hc1 : c + 1 < U.length := by omega
    have rn := h.2.2.2.2 (c + 1) hc1
    obtain ⟨b1, -, -⟩ := okR_get U 0 ok (c + 1) hc1
    have en : nxtS R U c = (U.getD (c + 1) u0).1 := if_pos hc1
    rw [rn.1, rc.2.1, ← b1.2.2.2.2.2.2.1, ← en, kc, pk_sub (by omega)]
    congr 1
    omega
  · have en : nxtS R U c = R.length := if_neg (by omega)
    rw [h.1.2.1, rc.2.1, ← hN, ← en, kc, pk_sub (by omega)]
    congr 1
    omega
theorem s_W_before {d : Nat} {S : SS} {c : Nat} (h : wS S xs ys U) (ok : okR xs ys R 0 U) (hR : R.length ≤ 48) (hc : c < U.length) : MtI g um_W_matchedBefore d [.ref (g.2.1 + 92), .int (nI c)] S (fun r S' => S' = S ∧ r = nI ((U.getD c u0).1 - prvE U 0 c)) := by
  have l25 := h.2.2.1
  have vc : vp_in (nI c) 25 := vp_in_nI (by omega) (by omega)
  obtain ⟨a1, a2, a3⟩ := okR_get U 0 ok c hc
  have rc := h.2.2.2.2 c hc
  have kc := (kpt_cN a3.2 a3.1).1
  rw [a1.2.2.2.2.2.2.1] at kc
  refine f_W_matchedBefore ?_
  rw [nI_clamp (by omega), rc.1]
  refine ⟨vc, fun z => ?_, fun z => ?_⟩
  · have z' := (nI_leI (a := c) (b := 0) (by omega) (by omega)).mp z
    have c0 : c = 0 := by omega
    subst c0
    refine ⟨rfl, ?_⟩
    rw [show (0 : Int32) = nI 0 from rfl, pk_sub (Nat.zero_le _), kc]
    have : prvE U 0 0 = 0 := rfl
    rw [this]
    congr 1
    show cN R 43 0 + _ - 0 = _
    rw [cN]
    omega
  · have z' := mt (nI_leI (a := c) (b := 0) (by omega) (by omega)).mpr z
    rw [show nI c - 1 = nI (c - 1) from pk_sub (b := 1) (by omega), nI_clamp (by omega)]
    refine ⟨vp_in_nI (by omega) (by omega), rfl, ?_⟩
    have rp := h.2.2.2.2 (c - 1) (by omega)
    obtain ⟨b1, -, -⟩ := okR_get U 0 ok (c - 1) (by omega)
    have ep : prvE U 0 c = ue (U.getD (c - 1) u0) := if_neg (by omega)
    rw [rp.2.1, ← b1.2.2.2.2.2.2.2.1, ← ep, kc, pk_sub (by omega)]
    congr 1
    omega
theorem s_W_hunk_loop {d : Nat} {Q : SS → Prop} {l to : Nat} (ok : okR xs ys R 0 U) (hN : cN R 43 R.length = xs.length) (hR : R.length ≤ 48) (hl : l < U.length) (ht1 : ue (U.getD l u0) ≤ to) (ht2 : to ≤ nxtS R U l) : ∀ (n c : Nat) (S : SS) (acc : List Int32), l - c = n → c ≤ l → wS S xs ys U → pa S acc → (U.getD c u0).1 ≤ to → acc.length + 3 * (to - (U.getD c u0).1) ≤ 900 → (∀ S', pa S' (acc ++ opl R (U.getD c u0).1 (to - (U.getD c u0).1)) → off ap S S' → Q S') → AtV g um_W_writeHunk (d + 3) Q 115 [(0, .ref (g.2.1 + 92)), (2, .int (nI l)), (5, .int (nI (to - ue (U.getD l u0)))), (8, .int (nI c))] [] S := by
  have i3 : isT 3 := ⟨sh_3, sh_4⟩
  have i5 : isT 5 := ⟨sh_5, sh_6⟩
  intro n
  induction n with
  | zero =>
    intro c S acc hn hcl hs hp hto hb hQ
    have l25 := hs.2.2.1
    have l1 := hs.1.1
    have l2 := hs.2.1.1
    have ec : c = l := by omega
    subst ec
    obtain ⟨a1, a2, a3⟩ := okR_get U 0 ok c hl
    have rc := hs.2.2.2.2 c hl
    generalize U.getD c u0 = u at *
    obtain ⟨o1, o2, o3, o4, o5, o6, o7, o8, o9, o10, o11, o12⟩ := a1
    have eue : ue u = u.1 + (uX u - ux u) + (uY u - uy u) := rfl
    have eum : um u = u.1 + (uX u - ux u) := rfl
    have kc := (kpt_cN (a2.2.sub (Nat.le_refl _) ht2) ht1).1
    have kn := cN_mono (R := R) (c := 43) (p := to) (R.length - to)
    rw [show to + (R.length - to) = R.length by have := a2.2.1; omega, hN] at kn
    refine f_W_writeHunk_115 ⟨fun z => absurd z (nI_nlt (Nat.le_refl _) (by omega)), fun _ => ⟨vp_in_nI (by omega) (by omega), ?_⟩⟩
    rw [nI_clamp (by omega), rc.1, rc.2.1, show nI (uX u) = nI (ux u + (uX u - ux u)) by rw [show ux u + (uX u - ux u) = uX u by omega]]
    refine (s_W_lines (R := R) (p := u.1) i3 (by unfold ap; omega) (by unfold ap; omega) (by omega) hs.1 hp (by omega) o11).mono fun S1 ⟨b1, p1⟩ => ?_
    have hs1 := hs.keep p1
    have rc1 : rgU S1 (94 + 1 * c) u := by unfold rgU at rc ⊢; exact rc.keep p1 (by unfold ap; omega)
    rw [rc1.2.2.1, rc1.2.2.2, show nI (uY u) = nI (uy u + (uY u - uy u)) by rw [show uy u + (uY u - uy u) = uY u by omega]]
    refine (s_W_lines (R := R) (p := um u) i5 (by unfold ap; omega) (by unfold ap; omega) (by omega) hs1.2.1 b1 (by rw [List.length_append, opl_len]; omega) o12).mono fun S2 ⟨b2, p2⟩ => ?_
    have hs2 := hs1.keep p2
    have rc2 : rgU S2 (94 + 1 * c) u := by unfold rgU at rc1 ⊢; exact rc1.keep p2 (by unfold ap; omega)
    refine ⟨fun z => absurd rfl z, fun _ => ?_⟩
    rw [rc2.2.1, nI_add]
    refine (s_W_lines (R := R) (p := ue u) i3 (by unfold ap; omega) (by unfold ap; omega) (by omega) hs2.1 b2 (by rw [List.length_append, List.length_append, opl_len, opl_len]; omega) (by have := kpt_ln (a2.2.sub (Nat.le_refl _) ht2) ht1; rw [o8] at this; exact this)).mono fun S3 ⟨b3, p3⟩ => ?_
    rw [nI_1]
    refine f_W_writeHunk_115 ⟨fun _ => hQ S3 ?_ ((p1.tr p2).tr p3), fun z => absurd (nI_lt (by omega) (by omega)) z⟩
    rw [opl_split (show u.1 ≤ ue u by omega) ht1, show ue u - u.1 = (uX u - ux u) + (uY u - uy u) by omega, opl_add, ← eum]
    simpa only [List.append_assoc] using b3
  | succ n ih =>
    intro c S acc hn hcl hs hp hto hb hQ
    have l25 := hs.2.2.1
    have l1 := hs.1.1
    have l2 := hs.2.1.1
    have hc1 : c + 1 < U.length := by omega
    obtain ⟨a1, a2, a3⟩ := okR_get U 0 ok c (by omega)
    obtain ⟨-, -, e3⟩ := okR_get U 0 ok (c + 1) hc1
    have rc := hs.2.2.2.2 c (by omega)
    have en : nxtS R U c = (U.getD (c + 1) u0).1 := if_pos hc1
    have tb : (U.getD (c + 1) u0).1 ≤ to := by
      have key : ∀ k, c + 1 + k ≤ l → (U.getD (c + 1) u0).1 ≤ (U.getD (c + 1 + k) u0).1 := by
        intro k
        induction k with
        | zero => intro _; exact Nat.le_refl _
        | succ k ihk =>
          intro hk
          have q1 := ihk (by omega)
          obtain ⟨q2, -, -⟩ := okR_get U 0 ok (c + 1 + k) (by omega)
          obtain ⟨-, -, q3⟩ := okR_get U 0 ok (c + 1 + (k + 1)) (by omega)
          have q4 := q3.1
          rw [prvE, if_neg (by omega), show c + 1 + (k + 1) - 1 = c + 1 + k by omega] at q4
          have := q2.1
          omega
      have k1 := key (l - (c + 1)) (by omega)
      rw [show c + 1 + (l - (c + 1)) = l by omega] at k1
      obtain ⟨q2, -, -⟩ := okR_get U 0 ok l hl
      have := q2.1
      omega
    have bh := s_W_behind (g := g) (d := d + 2) (c := c) (S := S) hs ok hN hR (by omega)
    rw [en] at a2
    generalize hu : U.getD c u0 = u at *
    obtain ⟨o1, o2, o3, o4, o5, o6, o7, o8, o9, o10, o11, o12⟩ := a1
    have eue : ue u = u.1 + (uX u - ux u) + (uY u - uy u) := rfl
    have eum : um u = u.1 + (uX u - ux u) := rfl
    have kc := (kpt_cN a2.2 a2.1).1
    have kn := cN_mono (R := R) (c := 43) (p := (U.getD (c + 1) u0).1) (R.length - (U.getD (c + 1) u0).1)
    rw [show (U.getD (c + 1) u0).1 + (R.length - (U.getD (c + 1) u0).1) = R.length by have := a2.2.1; omega, hN] at kn
    refine f_W_writeHunk_115 ⟨fun z => absurd z (nI_nlt (by omega) (by omega)), fun _ => ⟨vp_in_nI (by omega) (by omega), ?_⟩⟩
    rw [nI_clamp (by omega), rc.1, rc.2.1, show nI (uX u) = nI (ux u + (uX u - ux u)) by rw [show ux u + (uX u - ux u) = uX u by omega]]
    refine (s_W_lines (R := R) (p := u.1) i3 (by unfold ap; omega) (by unfold ap; omega) (by omega) hs.1 hp (by omega) o11).mono fun S1 ⟨b1, p1⟩ => ?_
    have hs1 := hs.keep p1
    have rc1 : rgU S1 (94 + 1 * c) u := by unfold rgU at rc ⊢; exact rc.keep p1 (by unfold ap; omega)
    rw [rc1.2.2.1, rc1.2.2.2, show nI (uY u) = nI (uy u + (uY u - uy u)) by rw [show uy u + (uY u - uy u) = uY u by omega]]
    refine (s_W_lines (R := R) (p := um u) i5 (by unfold ap; omega) (by unfold ap; omega) (by omega) hs1.2.1 b1 (by rw [List.length_append, opl_len]; omega) o12).mono fun S2 ⟨b2, p2⟩ => ?_
    have hs2 := hs1.keep p2
    have rc2 : rgU S2 (94 + 1 * c) u := by unfold rgU at rc1 ⊢; exact rc1.keep p2 (by unfold ap; omega)
    refine ⟨fun _ => ?_, fun z => absurd z (by rw [nI_eq (by omega) (by omega)]; omega)⟩
    have bh2 := s_W_behind (g := g) (d := d + 2) (c := c) (S := S2) hs2 ok hN hR (by omega)
    rw [hu, en] at bh2
    refine bh2.mono fun r S3 ⟨e1, e2⟩ => ?_
    subst e1
    subst e2
    rw [rc2.2.1, nI_add]
    refine (s_W_lines (R := R) (p := ue u) i3 (by unfold ap; omega) (by unfold ap; omega) (by omega) hs2.1 b2 (by rw [List.length_append, List.length_append, opl_len, opl_len]; omega) (by have := kpt_ln a2.2 a2.1; rw [o8] at this; exact this)).mono fun S4 ⟨b4, p4⟩ => ?_
    rw [nI_1]
    refine ih (c + 1) S4 _ (by omega) (by omega) (hs2.keep p4) b4 tb (by rw [List.length_append, List.length_append, List.length_append, opl_len, opl_len, opl_len]; omega) fun S5 b5 p5 => hQ S5 ?_ (((p1.tr p2).tr p4).tr p5)
    rw [opl_split (show u.1 ≤ ue u by omega) (show ue u ≤ to by omega), show ue u - u.1 = (uX u - ux u) + (uY u - uy u) by omega, opl_add, ← eum, opl_split a2.1 tb]
    simpa only [List.append_assoc] using b5
theorem s_W_hunk {d : Nat} {S : SS} {ctx f l : Nat} {acc : List Int32} (hctx : ctx ≤ 3) (hs : wS S xs ys U) (ok : okR xs ys R 0 U) (hN : cN R 43 R.length = xs.length) (hR : R.length ≤ 48) (hfl : f ≤ l) (hl : l < U.length) (hf : f = 0 ∨ ctx ≤ (U.getD f u0).1 - prvE U 0 f) (hnx : nxtS R U l = R.length ∨ ctx ≤ nxtS R U l - ue (U.getD l u0)) (hst : (U.getD f u0).1 ≤ ue (U.getD l u0)) (hp : pa S acc) (hb : acc.length + (outH R ((U.getD f u0).1 - ctx) (hTo R ctx (ue (U.getD l u0)))).length ≤ 800) : MtV g um_W_writeHunk (d + 3) [.ref (g.2.1 + 92), .int (nI f), .int (nI l), .int (nI ctx)] S (fun S' => pa S' (acc ++ outH R ((U.getD f u0).1 - ctx) (hTo R ctx (ue (U.getD l u0)))) ∧ off ap S S') := by
  have i3 : isT 3 := ⟨sh_3, sh_4⟩
  have l25 := hs.2.2.1
  have l1 := hs.1.1
  have l2 := hs.2.1.1
  obtain ⟨a1, a2, a3⟩ := okR_get U 0 ok f (by omega)
  obtain ⟨c1, c2, c3⟩ := okR_get U 0 ok l hl
  have rf := hs.2.2.2.2 f (by omega)
  have rl := hs.2.2.2.2 l hl
  have lN := c2.2.1
  have bnd : (U.getD f u0).1 ≤ 48 := by have := a1.1; have := a1.2.1; omega
  have ef : (if (U.getD f u0).1 - prvE U 0 f < ctx then (U.getD f u0).1 - prvE U 0 f else ctx) = (U.getD f u0).1 - ((U.getD f u0).1 - ctx) ∧ prvE U 0 f ≤ (U.getD f u0).1 - ctx := by
    rcases hf with hf | hf
    · subst hf
      have : prvE U 0 0 = 0 := rfl
      rw [this]
      split <;> omega
    · split <;> omega
  have et : (if nxtS R U l - ue (U.getD l u0) < ctx then nxtS R U l - ue (U.getD l u0) else ctx) = hTo R ctx (ue (U.getD l u0)) - ue (U.getD l u0) ∧ ue (U.getD l u0) ≤ hTo R ctx (ue (U.getD l u0)) ∧ hTo R ctx (ue (U.getD l u0)) ≤ nxtS R U l := by
    have := c2.1
    have := c1.2.1
    unfold hTo
    rcases hnx with hnx | hnx
    · rw [hnx] at *
      split <;> split <;> omega
    · split <;> split <;> omega
  have kf := kpt_cN (a3.2.sub ef.2 (Nat.le_refl _)) (show (U.getD f u0).1 - ctx ≤ (U.getD f u0).1 by omega)
  have kt := kpt_cN (c2.2.sub (Nat.le_refl _) et.2.2) et.2.1
  have kl := kpt_ln (a3.2.sub ef.2 (Nat.le_refl _)) (show (U.getD f u0).1 - ctx ≤ (U.getD f u0).1 by omega)
  rw [a1.2.2.2.2.2.2.1, a1.2.2.2.2.2.2.2.2.1] at kf
  rw [c1.2.2.2.2.2.2.2.1, c1.2.2.2.2.2.2.2.2.2.1] at kt
  have m1 := cN_mono (R := R) (c := 43) (p := (U.getD f u0).1 - ctx) (hTo R ctx (ue (U.getD l u0)) - ((U.getD f u0).1 - ctx))
  have m2 := cN_mono (R := R) (c := 45) (p := (U.getD f u0).1 - ctx) (hTo R ctx (ue (U.getD l u0)) - ((U.getD f u0).1 - ctx))
  rw [show (U.getD f u0).1 - ctx + (hTo R ctx (ue (U.getD l u0)) - ((U.getD f u0).1 - ctx)) = hTo R ctx (ue (U.getD l u0)) by omega] at m1 m2
  have z1 := cN_le (R := R) (c := 43) (hTo R ctx (ue (U.getD l u0)))
  have z2 := cN_le (R := R) (c := 45) (hTo R ctx (ue (U.getD l u0)))
  have z3 : hTo R ctx (ue (U.getD l u0)) ≤ R.length := by omega
  rw [outH, List.length_append, opl_len] at hb
  refine f_W_writeHunk ((s_W_before hs ok hR (by omega)).mono fun r S1 ⟨e1, e2⟩ => ?_)
  subst e1
  subst e2
  refine (s_W_behind hs ok hN hR hl).mono fun r S2 ⟨e1, e2⟩ => ?_
  subst e1
  subst e2
  have vf : vp_in (nI f) 25 := vp_in_nI (by omega) (by omega)
  have vl : vp_in (nI l) 25 := vp_in_nI (by omega) (by omega)
  rw [nI_min (by omega) (by omega), nI_min (by omega) (by omega), ef.1, et.1, nI_clamp (by omega), nI_clamp (by omega), rf.1, rf.2.2.1, rl.2.1, rl.2.2.2]
  refine ⟨vf, vf, vl, vl, ?_⟩
  have x1 : nI (ux (U.getD f u0)) - nI ((U.getD f u0).1 - ((U.getD f u0).1 - ctx)) = nI (cN R 43 ((U.getD f u0).1 - ctx)) := by
    rw [pk_sub (by omega)]; congr 1; omega
  have x2 : nI (uy (U.getD f u0)) - nI ((U.getD f u0).1 - ((U.getD f u0).1 - ctx)) = nI (cN R 45 ((U.getD f u0).1 - ctx)) := by
    rw [pk_sub (by omega)]; congr 1; omega
  have x3 : nI (uX (U.getD l u0)) + nI (hTo R ctx (ue (U.getD l u0)) - ue (U.getD l u0)) - nI (cN R 43 ((U.getD f u0).1 - ctx)) = nI (cN R 43 (hTo R ctx (ue (U.getD l u0))) - cN R 43 ((U.getD f u0).1 - ctx)) := by
    rw [nI_add, ← kt.1, pk_sub (by omega)]
  have x4 : nI (uY (U.getD l u0)) + nI (hTo R ctx (ue (U.getD l u0)) - ue (U.getD l u0)) - nI (cN R 45 ((U.getD f u0).1 - ctx)) = nI (cN R 45 (hTo R ctx (ue (U.getD l u0))) - cN R 45 ((U.getD f u0).1 - ctx)) := by
    rw [nI_add, ← kt.2, pk_sub (by omega)]
  rw [x1, x2, x3, x4]
  have hh := hdO_len (a := cN R 43 ((U.getD f u0).1 - ctx)) (b := cN R 43 (hTo R ctx (ue (U.getD l u0))) - cN R 43 ((U.getD f u0).1 - ctx)) (c := cN R 45 ((U.getD f u0).1 - ctx)) (e := cN R 45 (hTo R ctx (ue (U.getD l u0))) - cN R 45 ((U.getD f u0).1 - ctx))
  by_cases h13 : acc.length + 13 ≤ 900
  · refine (s_W_head hp (by omega) (by omega) (by omega) (by omega) h13).mono fun S3 ⟨b3, p3⟩ => ⟨vf, ?_⟩
    have hs3 := hs.keep p3
    have rf3 := hs3.2.2.2.2 f (by omega)
    rw [rf3.1, show nI (ux (U.getD f u0)) = nI (cN R 43 ((U.getD f u0).1 - ctx) + ((U.getD f u0).1 - ((U.getD f u0).1 - ctx))) by rw [← kf.1]]
    refine (s_W_lines (R := R) (p := (U.getD f u0).1 - ctx) i3 (by unfold ap; omega) (by unfold ap; omega) (by have := a1.2.2.1; have := a1.2.2.2.1; omega) hs3.1 b3 (by rw [List.length_append]; omega) kl).mono fun S4 ⟨b4, p4⟩ => ?_
    refine s_W_hunk_loop ok hN hR hl et.2.1 et.2.2 _ f S4 _ rfl hfl (hs3.keep p4) b4 (by omega) (by rw [List.length_append, List.length_append, opl_len]; omega) fun S5 b5 p5 => ⟨?_, (p3.tr p4).tr p5⟩
    rw [outH, opl_split (show (U.getD f u0).1 - ctx ≤ (U.getD f u0).1 by omega) (show (U.getD f u0).1 ≤ hTo R ctx (ue (U.getD l u0)) by omega)]
    simpa only [List.append_assoc] using b5
  · omega
end CW
