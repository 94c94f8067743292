/-! write: the class's loop -/
theorem s_W_group {g : lp_G} {d : Nat} {Q : Int32 → SS → Prop} {xs ys : List Int32} {R : List (Int32 × Int32)} {U : List RU} {ctx f h : Nat} {acc : List Int32} (hctx : ctx ≤ 3) (ok : okR xs ys R 0 U) (hN : cN R 43 R.length = xs.length) (hR : R.length ≤ 48) (hf : f = 0 ∨ ctx ≤ (U.getD f u0).1 - prvE U 0 f) : ∀ (n c : Nat) (S : SS), U.length - c = n → f ≤ c → c < U.length → (U.getD f u0).1 ≤ ue (U.getD c u0) → wS S xs ys U → pa S acc → acc.length + (outH R ((U.getD f u0).1 - ctx) (hTo R ctx (lastR ctx (ue (U.getD c u0)) (U.drop (c + 1))).1)).length ≤ 800 → (∀ S' c', c' ≤ U.length → c < c' → U.drop c' = (lastR ctx (ue (U.getD c u0)) (U.drop (c + 1))).2 → (c' < U.length → ctx ≤ (U.getD c' u0).1 - prvE U 0 c') → wS S' xs ys U → pa S' (acc ++ outH R ((U.getD f u0).1 - ctx) (hTo R ctx (lastR ctx (ue (U.getD c u0)) (U.drop (c + 1))).1)) → off ap S S' → AtI g um_W_writePatch (d + 4) Q 19 [(0, .ref (g.2.1 + 92)), (1, .int (nI ctx)), (2, .int (nI (h + 1))), (3, .int (nI c')), (4, .int (nI c'))] [] S') → AtI g um_W_writePatch (d + 4) Q 19 [(0, .ref (g.2.1 + 92)), (1, .int (nI ctx)), (2, .int (nI h)), (3, .int (nI f)), (4, .int (nI c))] [] S := by
  intro n
  induction n with
  | zero => intro c S hn hfc hc; omega
  | succ n ih =>
    intro c S hn hfc hc hst hs hp hb hK
    have l25 := hs.2.2.1
    obtain ⟨a1, a2, a3⟩ := okR_get U 0 ok c hc
    refine f_W_writePatch_19 ⟨fun z => absurd (by rw [hs.2.2.2.1] at z; exact z) (nI_ge (by omega) (by omega)), fun _ => ?_⟩
    rw [hs.2.2.2.1, show nI U.length - 1 = nI (U.length - 1) from pk_sub (b := 1) (by omega), nI_eq (by omega) (by omega), nI_1, nI_1]
    refine ⟨fun z => ?_, fun z => ?_⟩
    · have hc1 : c + 1 < U.length := by omega
      have en : nxtS R U c = (U.getD (c + 1) u0).1 := if_pos hc1
      have ep : prvE U 0 (c + 1) = ue (U.getD c u0) := if_neg (by omega)
      have ed : U.drop (c + 1) = U.getD (c + 1) u0 :: U.drop (c + 2) := by
        rw [List.drop_eq_getElem_cons hc1]
        simp [List.getD_eq_getElem?_getD, hc1]
      obtain ⟨b1, -, b3⟩ := okR_get U 0 ok (c + 1) hc1
      refine (s_W_behind hs ok hN hR hc).mono fun r S1 ⟨e1, e2⟩ => ?_
      subst e1
      subst e2
      rw [en, pk_mul, nI_leI (by have := b1.1; have := b1.2.1; omega) (by omega)]
      refine ⟨fun y => ?_, fun y => ?_⟩
      · rw [ed, lastR, if_pos y] at hb hK
        refine ih (c + 1) S1 (by omega) (by omega) hc1 (by have := b3.1; have := b1.1; omega) hs hp hb (fun S' c' q1 q2 => hK S' c' q1 (by omega))
      · rw [ed, lastR, if_neg y] at hb hK
        refine (s_W_hunk hctx hs ok hN hR hfc hc hf (Or.inr (by rw [en]; omega)) hst hp hb).mono fun S2 ⟨p2, o2⟩ => ?_
        exact hK S2 (c + 1) (by omega) (by omega) ed (fun _ => by rw [ep]; omega) (hs.keep o2) p2 o2
    · have ed : U.drop (c + 1) = [] := List.drop_eq_nil_of_le (by omega)
      rw [ed, lastR] at hb hK
      have en : nxtS R U c = R.length := if_neg (by omega)
      refine (s_W_hunk hctx hs ok hN hR hfc hc hf (Or.inl en) hst hp hb).mono fun S2 ⟨p2, o2⟩ => ?_
      exact hK S2 (c + 1) (by omega) (by omega) ed (fun q => by omega) (hs.keep o2) p2 o2
theorem s_W_loop {g : lp_G} {d : Nat} {Q : Int32 → SS → Prop} {xs ys : List Int32} {R : List (Int32 × Int32)} {U : List RU} {ctx : Nat} (hctx : ctx ≤ 3) (ok : okR xs ys R 0 U) (hN : cN R 43 R.length = xs.length) (hR : R.length ≤ 48) : ∀ (k c h : Nat) (S : SS) (acc : List Int32), U.length - c ≤ k → c ≤ U.length → (c < U.length → c = 0 ∨ ctx ≤ (U.getD c u0).1 - prvE U 0 c) → wS S xs ys U → pa S acc → acc.length + (wsp R ctx k (U.drop c)).1.length ≤ 800 → (∀ S', pa S' (acc ++ (wsp R ctx k (U.drop c)).1) → off ap S S' → Q (nI (h + (wsp R ctx k (U.drop c)).2)) S') → AtI g um_W_writePatch (d + 4) Q 19 [(0, .ref (g.2.1 + 92)), (1, .int (nI ctx)), (2, .int (nI h)), (3, .int (nI c)), (4, .int (nI c))] [] S := by
  intro k
  induction k with
  | zero =>
    intro c h S acc hk hc hcd hs hp hb hQ
    have l25 := hs.2.2.1
    refine f_W_writePatch_19 ⟨fun _ => ?_, fun z => absurd (by rw [hs.2.2.2.1]; exact nI_le (by omega) (by omega)) z⟩
    exact hQ S (by simpa [wsp] using hp) off.re
  | succ k ih =>
    intro c h S acc hk hc hcd hs hp hb hQ
    have l25 := hs.2.2.1
    by_cases hc' : c < U.length
    · have ed : U.drop c = U.getD c u0 :: U.drop (c + 1) := by
        rw [List.drop_eq_getElem_cons hc']
        simp [List.getD_eq_getElem?_getD, hc']
      obtain ⟨a1, a2, a3⟩ := okR_get U 0 ok c hc'
      rw [ed, wsp] at hb hQ
      dsimp only at hb hQ
      rw [List.length_append] at hb
      refine s_W_group hctx ok hN hR (hcd hc') _ c S rfl (Nat.le_refl _) hc' (by have := a1.1; omega) hs hp (by omega) fun S' c' q1 q2 q3 q4 q5 q6 q7 => ?_
      rw [← q3] at hb hQ
      refine ih c' (h + 1) S' _ (by omega) q1 (fun z => Or.inr (q4 z)) q5 q6 (by rw [List.length_append]; omega) fun S2 p2 o2 => ?_
      have := hQ S2 (by simpa only [List.append_assoc] using p2) (q7.tr o2)
      rw [← Nat.add_assoc] at this
      exact this
    · have ec : c = U.length := by omega
      subst ec
      refine f_W_writePatch_19 ⟨fun _ => ?_, fun z => absurd (by rw [hs.2.2.2.1]; exact nI_le (by omega) (by omega)) z⟩
      rw [List.drop_length] at hQ
      exact hQ S (by simpa [wsp] using hp) off.re
def rowR (xs ys : List Int32) (pf : Nat → Option Nat) : List (Int32 × Int32) := ro xs ys pf 48 0 0
def rowU (xs ys : List Int32) (pf : Nat → Option Nat) : List RU := rnF xs.length ys.length pf xs.length 0 0 0 0
/-- what is written, and how many hunks it is -/
def wrt (xs ys : List Int32) (pf : Nat → Option Nat) (ctx : Nat) : List Int32 × Nat := wsp (rowR xs ys pf) ctx 25 (rowU xs ys pf)
theorem row_rA {xs ys : List Int32} {pf : Nat → Option Nat} (h1 : xs.length ≤ 24) (h2 : ys.length ≤ 24) : rA xs ys pf (rowR xs ys pf) 0 0 0 := ⟨Nat.zero_le _, rfl, rfl, 48, by omega, rfl⟩
theorem row_ok {xs ys : List Int32} {pf : Nat → Option Nat} (h1 : xs.length ≤ 24) (h2 : ys.length ≤ 24) (hm : mono pf xs.length ys.length) : okR xs ys (rowR xs ys pf) 0 (rowU xs ys pf) ∧ cN (rowR xs ys pf) 43 (rowR xs ys pf).length = xs.length :=
  rnF_ok hm xs.length 0 0 0 0 0 (by omega) (by omega) (by omega) (fun q h1 h2 => by omega) (by omega) (fun q r _ e => ⟨by omega, (hm.1 q r e).2⟩) (row_rA h1 h2) (by omega) ⟨by omega, fun r a b => by omega⟩
theorem row_len {xs ys : List Int32} {pf : Nat → Option Nat} : (rowR xs ys pf).length ≤ 48 := ro_len _ _ _
theorem wrt_len {xs ys : List Int32} {pf : Nat → Option Nat} {ctx : Nat} (h1 : xs.length ≤ 24) (h2 : ys.length ≤ 24) (hm : mono pf xs.length ys.length) : (wrt xs ys pf ctx).1.length ≤ 768 := by
  have := wsp_len (ctx := ctx) 25 _ 0 0 (row_ok h1 h2 hm).1 (fun u _ => Nat.zero_le _) (Nat.zero_le _)
  have := row_len (xs := xs) (ys := ys) (pf := pf)
  unfold wrt
  omega
theorem s_W_patch {g : lp_G} {d : Nat} {S : SS} {xs ys l : List Int32} {pf : Nat → Option Nat} {ctx : Nat} (hctx : ctx ≤ 3) (hm : mono pf xs.length ys.length) (hc : cm S 2 xs ys pf) (hp : pa S l) : MtI g um_W_writePatch (d + 4) [.ref (g.2.1 + 92), .int (nI ctx)] S (fun r S' => r = nI (wrt xs ys pf ctx).2 ∧ pa S' (wrt xs ys pf ctx).1 ∧ off (fun q => wp q ∨ ap q) S S') := by
  have l1 := hc.1.1
  have l2 := hc.2.1.1
  have hl := wrt_len (ctx := ctx) l1 l2 hm
  obtain ⟨ok, hN⟩ := row_ok l1 l2 hm
  refine f_W_writePatch (f_W_findChanges ?_)
  rintro S1 rfl
  have o1 : off wp S (setI S 92 3 0) := off_I (by unfold wp; omega)
  refine s_W_find_loop hm xs.length 0 0 0 0 _ [] (by omega) (by omega) (by omega) (by omega) (by simp) (hc.keep o1 (fun q z => by unfold cp at z; unfold wp; omega)) ⟨by simp, by rw [setI_s]; rfl, fun t ht => by simp at ht⟩ fun S2 a2 o2 => ?_
  rintro S3 rfl
  have o3 : off ap S2 (setI S2 90 1 0) := off_I (Or.inl rfl)
  have oo := o1.tr o2
  have hw : wS (setI S2 90 1 0) xs ys (rowU xs ys pf) := by
    refine wS.keep ⟨hc.1.keep oo (by unfold wp; omega) (by unfold wp; omega), hc.2.1.keep oo (by unfold wp; omega) (by unfold wp; omega), ?_⟩ o3
    rw [List.nil_append] at a2
    exact a2
  have hu := hw.2.2.1
  refine s_W_loop hctx ok hN row_len 25 0 0 _ [] (by omega) (by omega) (fun _ => Or.inl rfl) hw ⟨by simp, by rw [setI_s]; rfl, fun i hi => by simp at hi⟩ ?_ fun S4 p4 o4 => ⟨?_, ?_, ?_⟩
  · rw [List.drop_zero]
    show 0 + (wrt xs ys pf ctx).1.length ≤ 800
    omega
  · rw [List.drop_zero, Nat.zero_add]; rfl
  · rw [List.drop_zero, List.nil_append] at p4; exact p4
  · exact ((oo.mo fun q z => Or.inl z).tr (o3.mo fun q z => Or.inr z)).tr (o4.mo fun q z => Or.inr z)
