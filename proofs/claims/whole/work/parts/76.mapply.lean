/-! apply: the reference, and the simulation -/
theorem oldL_snoc {L : List (Int32 × Int32)} {k : Nat} (hk : k < L.length) : oldL (L.take (k + 1)) = oldL (L.take k) ++ (if (L.getD k (0, 0)).1 = nI 43 then [] else [(L.getD k (0, 0)).2]) := by
  rw [List.take_succ_eq_append_getElem hk]
  unfold oldL
  rw [List.filter_append, List.map_append]
  congr 1
  have e : L.getD k (0, 0) = L[k] := by simp [List.getD_eq_getElem?_getD, hk]
  rw [e]
  by_cases h : L[k].1 = nI 43
  · simp [h]
  · simp [h]
theorem newL_snoc {L : List (Int32 × Int32)} {k : Nat} (hk : k < L.length) : newL (L.take (k + 1)) = newL (L.take k) ++ (if (L.getD k (0, 0)).1 = nI 45 then [] else [(L.getD k (0, 0)).2]) := by
  rw [List.take_succ_eq_append_getElem hk]
  unfold newL
  rw [List.filter_append, List.map_append]
  congr 1
  have e : L.getD k (0, 0) = L[k] := by simp [List.getD_eq_getElem?_getD, hk]
  rw [e]
  by_cases h : L[k].1 = nI 45
  · simp [h]
  · simp [h]
theorem oldL_pre {L : List (Int32 × Int32)} (k : Nat) : oldL L = oldL (L.take k) ++ oldL (L.drop k) := by
  have := congrArg oldL (List.take_append_drop k L).symm
  rw [this]
  unfold oldL
  rw [List.filter_append, List.map_append]
theorem newL_pre {L : List (Int32 × Int32)} (k : Nat) : newL L = newL (L.take k) ++ newL (L.drop k) := by
  have := congrArg newL (List.take_append_drop k L).symm
  rw [this]
  unfold newL
  rw [List.filter_append, List.map_append]
theorem s_M_stands_loop {g : lp_G} {d : Nat} {Q : Int32 → SS → Prop} {S : SS} {l T : List Int32} {t h p : Nat} {H : HK} (ht : t < 4) (hh : h < 80) (hp : paM S l) (hT : tm S t T) (hH : hmk S h H) (hk : hok l H) (hpl : p + (oldL H.2.2).length ≤ T.length) (hQ : Q (b2i (fit T (oldL H.2.2) p)) S) : ∀ (n k : Nat) (b : Bool), H.2.2.length - k = n → k ≤ H.2.2.length → (b = true ↔ ∀ j, j < (oldL (H.2.2.take k)).length → T.getD (p + j) 0 = (oldL H.2.2).getD j 0) → AtI g um_M_stands d Q 9 [(0, .ref (g.2.1 + 151)), (1, .int (nI h)), (2, .int (nI t)), (4, .int (nI (p + (oldL (H.2.2.take k)).length))), (5, .int (b2i b)), (6, .int (nI k))] [] S := by
  have vh : vp_in (nI h) 80 := vp_in_nI hh (by omega)
  have tl := hT.1
  have pl := hp.1
  have k2 := hk.2.1
  intro n
  induction n with
  | zero =>
    intro k b hn hkl hb
    have ek : k = H.2.2.length := by omega
    subst ek
    refine f_M_stands_9 ?_
    rw [nI_clamp (by omega), hH.2.2.2.1]
    refine ⟨vh, fun _ => ⟨isB_b, ?_⟩, fun z => absurd (nI_le (Nat.le_refl _) (by omega)) z⟩
    rw [List.take_of_length_le (Nat.le_refl _)] at hb
    rw [show fit T (oldL H.2.2) p = b by
      cases b with
      | true => exact decide_eq_true (hb.mp rfl)
      | false => exact decide_eq_false fun z => absurd (hb.mpr z) (by decide)] at hQ
    exact hQ
  | succ n ih =>
    intro k b hn hkl hb
    have hkl' : k < H.2.2.length := by omega
    have el := hk.2.2.2.2 k hkl'
    have sn := oldL_snoc hkl'
    have pr := oldL_pre (L := H.2.2) k
    have pr1 := congrArg List.length (oldL_pre (L := H.2.2) (k + 1))
    rw [List.length_append] at pr1
    rw [el] at sn
    dsimp only at sn
    refine f_M_stands_9 ?_
    rw [nI_clamp (n := h) (by omega), hH.2.2.2.1, hH.2.2.2.2, pk_mul, nI_add]
    simp (disch := omega) only [nI_1, nI_clamp]
    rw [hp.2.2 (H.2.1 + 3 * k) (by omega), hp.2.2 (H.2.1 + 3 * k + 1) (by omega)]
    refine ⟨vh, fun z => absurd z (nI_ge (by omega) (by omega)), fun _ => ⟨vh, vp_in_nI (by omega) (by omega), fun z => ?_, fun z => ?_⟩⟩
    · rw [if_pos z, List.append_nil] at sn
      have := ih (k + 1) b (by omega) (by omega) (by rw [sn]; exact hb)
      rw [sn] at this
      exact this
    · rw [if_neg z] at sn
      have ln : (oldL (H.2.2.take (k + 1))).length = (oldL (H.2.2.take k)).length + 1 := by rw [sn]; simp
      have gx : (oldL H.2.2).getD (oldL (H.2.2.take k)).length 0 = l.getD (H.2.1 + 3 * k + 1) 0 := by
        rw [oldL_pre (L := H.2.2) (k + 1), gd_l (by omega), sn, gd_r (Nat.le_refl _)]
        simp
      have nx : ∀ b' : Bool, (b' = true ↔ ∀ j, j < (oldL (H.2.2.take (k + 1))).length → T.getD (p + j) 0 = (oldL H.2.2).getD j 0) → AtI g um_M_stands d Q 9 [(0, .ref (g.2.1 + 151)), (1, .int (nI h)), (2, .int (nI t)), (4, .int (nI (p + (oldL (H.2.2.take k)).length + 1))), (5, .int (b2i b')), (6, .int (nI (k + 1)))] [] S := by
        intro b' hb'
        have := ih (k + 1) b' (by omega) (by omega) hb'
        rw [ln, ← Nat.add_assoc] at this
        exact this
      refine ⟨fun y => nx false ⟨fun w => absurd w (by decide), fun w => ?_⟩, fun y => ?_⟩
      · rw [b2i_0] at y
        rw [hb.mpr (fun j hj => w j (by omega))] at y
        exact y.symm
      · rw [b2i_1] at y
        rw [pk_mul, nI_add, nI_clamp (by omega), show 24 * t + (p + (oldL (H.2.2.take k)).length) = 24 * t + (p + (oldL (H.2.2.take k)).length) from rfl, hT.2.2 (p + (oldL (H.2.2.take k)).length) (by omega)]
        refine ⟨vp_in_nI (by omega) (by omega), vp_in_nI (by omega) (by omega), fun x => nx false ⟨fun w => absurd w (by decide), fun w => ?_⟩, fun x => nx true ⟨fun _ j hj => ?_, fun _ => rfl⟩⟩
        · exact absurd ((w _ (by omega)).trans gx) x
        · by_cases e : j = (oldL (H.2.2.take k)).length
          · subst e; exact x.trans gx.symm
          · exact hb.mp y j (by omega)
theorem s_M_stands {g : lp_G} {d : Nat} {S : SS} {l T : List Int32} {t h p : Nat} {H : HK} (ht : t < 4) (hh : h < 80) (hp : paM S l) (hT : tm S t T) (hH : hmk S h H) (hk : hok l H) (hpl : p + (oldL H.2.2).length ≤ T.length) : MtI g um_M_stands d [.ref (g.2.1 + 151), .int (nI h), .int (nI t), .int (nI p)] S (fun r S' => S' = S ∧ r = b2i (fit T (oldL H.2.2) p)) := by
  refine f_M_stands ?_
  exact s_M_stands_loop ht hh hp hT hH hk hpl ⟨rfl, rfl⟩ _ 0 true rfl (Nat.zero_le _) ⟨fun _ j hj => by simp [oldL] at hj, fun _ => rfl⟩
def lst (a : Nat) (b : Option Nat) : Nat := match b with
  | none => 1000
  | some q => dst a q
theorem nb_lst {a p : Nat} {b : Option Nat} (h : dst a p < 1000) : nb a b p = decide (dst a p < lst a b) := by
  cases b with
  | none => exact (decide_eq_true h).symm
  | some q => rfl
theorem s_M_fit_loop {g : lp_G} {d : Nat} {Q : Int32 → SS → Prop} {S : SS} {l T : List Int32} {t h : Nat} {H : HK} (ht : t < 4) (hh : h < 80) (hp : paM S l) (hT : tm S t T) (hH : hmk S h H) (hk : hok l H) : ∀ (n p : Nat) (b : Option Nat), T.length < p + n → p ≤ T.length + 1 → (∀ q, b = some q → q ≤ 24) → Q (em (nr T (oldL H.2.2) H.1 n p b)) S → AtI g um_M_fit (d + 1) Q 11 [(0, .ref (g.2.1 + 151)), (1, .int (nI h)), (2, .int (nI t)), (4, .int (em b)), (5, .int (nI (lst H.1 b))), (6, .int (nI p))] [] S := by
  have vh : vp_in (nI h) 80 := vp_in_nI hh (by omega)
  have vt : vp_in (nI t) 4 := vp_in_nI ht (by omega)
  have tl := hT.1
  have k1 := hk.1
  have k3 := hk.2.2.1
  intro n
  induction n with
  | zero =>
    intro p b hn hp' hb hQ
    refine f_M_fit_11 ?_
    rw [nI_clamp (by omega), nI_clamp (by omega), hH.2.1, hT.2.1, nI_add]
    exact ⟨vh, vt, fun _ => hQ, fun z => absurd (nI_lt (by omega) (by omega)) z⟩
  | succ n ih =>
    intro p b hn hp' hb hQ
    refine f_M_fit_11 ?_
    rw [nI_clamp (by omega), nI_clamp (by omega), hH.2.1, hH.1, hT.2.1, nI_add, nI_1, nI_ltI (by omega) (by omega)]
    unfold nr at hQ
    refine ⟨vh, vt, fun z => ?_, fun z => ⟨vh, ?_⟩⟩
    · rw [if_neg (by omega)] at hQ
      exact hQ
    · rw [if_pos (by omega)] at hQ
      have dl : dst H.1 p < 1000 := by unfold dst; split <;> omega
      have ll : lst H.1 b ≤ 1000 := by
        cases b with
        | none => exact Nat.le_refl _
        | some q => have := hb q rfl; show dst H.1 q ≤ 1000; unfold dst; split <;> omega
      rw [nb_lst dl] at hQ
      have core : ∀ x : Int32, x = nI (dst H.1 p) → (nI (lst H.1 b) ≤ x → AtI g um_M_fit (d + 1) Q 11 [(0, .ref (g.2.1 + 151)), (1, .int (nI h)), (2, .int (nI t)), (4, .int (em b)), (5, .int (nI (lst H.1 b))), (6, .int (nI (p + 1)))] [] S) ∧ (¬ nI (lst H.1 b) ≤ x → MtI g um_M_stands d [.ref (g.2.1 + 151), .int (nI h), .int (nI t), .int (nI p)] S (fun r9 S8 => (r9 = 0 → AtI g um_M_fit (d + 1) Q 11 [(0, .ref (g.2.1 + 151)), (1, .int (nI h)), (2, .int (nI t)), (4, .int (em b)), (5, .int (nI (lst H.1 b))), (6, .int (nI (p + 1)))] [] S8) ∧ (¬ r9 = 0 → AtI g um_M_fit (d + 1) Q 11 [(0, .ref (g.2.1 + 151)), (1, .int (nI h)), (2, .int (nI t)), (4, .int (nI p)), (5, .int x), (6, .int (nI (p + 1)))] [] S8))) := by
        intro x hx
        subst hx
        rw [nI_leI (by omega) (by omega)]
        refine ⟨fun y => ih (p + 1) b (by omega) (by omega) hb ?_, fun y => ?_⟩
        · rw [decide_eq_false (by omega), Bool.false_and, if_neg (by decide)] at hQ
          exact hQ
        · rw [decide_eq_true (by omega), Bool.true_and] at hQ
          refine (s_M_stands ht hh hp hT hH hk (by omega)).mono fun r S1 ⟨e1, e2⟩ => ?_
          subst e1
          subst e2
          refine ⟨fun w => ih (p + 1) b (by omega) (by omega) hb ?_, fun w => ih (p + 1) (some p) (by omega) (by omega) (fun q hq => by cases hq; omega) ?_⟩
          · rw [b2i_0.mp w, if_neg (by decide)] at hQ
            exact hQ
          · rw [b2i_1.mp w, if_pos rfl] at hQ
            exact hQ
      rw [nI_leI (by omega) (by omega)]
      refine ⟨fun y => ⟨vh, core _ ?_⟩, fun y => ⟨vh, core _ ?_⟩⟩
      · rw [pk_sub y, dst, if_pos y]
      · rw [pk_sub (by omega), dst, if_neg y]
theorem s_M_fit {g : lp_G} {d : Nat} {S : SS} {l T : List Int32} {t h p : Nat} {H : HK} (ht : t < 4) (hh : h < 80) (hp : paM S l) (hT : tm S t T) (hH : hmk S h H) (hk : hok l H) (hpl : p ≤ T.length) : MtI g um_M_fit (d + 1) [.ref (g.2.1 + 151), .int (nI h), .int (nI t), .int (nI p)] S (fun r S' => S' = S ∧ r = em (npl T (oldL H.2.2) H.1 p)) := by
  have tl := hT.1
  exact f_M_fit (s_M_fit_loop ht hh hp hT hH hk 25 p none (by omega) (by omega) (fun q hq => by cases hq) ⟨rfl, rfl⟩)
def q175 : Nat → Prop := fun q => q = 175
theorem gd_H {Hs : List HK} {k : Nat} (h : k < Hs.length) : Hs.getD k (0, 0, []) = Hs[k] := by simp [List.getD_eq_getElem?_getD, h]
theorem s_M_ap1 {g : lp_G} {d : Nat} {Q : Int32 → SS → Prop} {l T : List Int32} {t : Nat} {Hs : List HK} (ht : t < 4) (h80 : Hs.length < 80) (hk : ∀ H, H ∈ Hs → hok l H) : ∀ (n k fr tot : Nat) (S : SS), Hs.length - k = n → k ≤ Hs.length → fr ≤ T.length → T.length - fr ≤ tot → tot ≤ 24 → paM S l → tm S t T → hmS S Hs → (∀ e S', plc T (Hs.drop k) fr tot k = .error e → om d0 q175 S S' → Q ((-3) - nI e) S') → (∀ ps S', plc T (Hs.drop k) fr tot k = .ok ps → om d0 q175 S S' → (∀ j, j < k → S'.2 175 j = S.2 175 j) → ps.length = Hs.length - k → (∀ j, j < ps.length → S'.2 175 (k + j) = nI (ps.getD j 0)) → ∀ S9 : SS, S9 = setI S' 151 35 0 → AtI g um_M_apply (d + 2) Q 127 [(0, .ref (g.2.1 + 151)), (1, .int (nI t)), (4, .int 0), (5, .int 0)] [] S9) → AtI g um_M_apply (d + 2) Q 30 [(0, .ref (g.2.1 + 151)), (1, .int (nI t)), (2, .int (nI fr)), (3, .int (nI tot)), (4, .int (nI k))] [] S := by
  intro n
  induction n with
  | zero =>
    intro k fr tot S hn hkl hfr h1 h2 hp hT hH hE hQ
    have ek : k = Hs.length := by omega
    subst ek
    refine f_M_apply_30 ⟨fun _ => ?_, fun z => absurd (by rw [hH.1]; exact nI_le (Nat.le_refl _) (by omega)) z⟩
    exact hQ [] S (by simp [plc]) om.re (fun _ _ => rfl) (by simp) (fun j hj => by simp at hj)
  | succ n ih =>
    intro k fr tot S hn hkl hfr h1 h2 hp hT hH hE hQ
    have hkl' : k < Hs.length := by omega
    have vk : vp_in (nI k) 80 := vp_in_nI (by omega) (by omega)
    have tl := hT.1
    have hm := hH.2 k hkl'
    rw [gd_H hkl'] at hm
    have ho := hk _ (List.getElem_mem hkl')
    rw [List.drop_eq_getElem_cons hkl'] at hE hQ
    generalize Hs[k] = H at hm ho hE hQ
    refine f_M_apply_30 ⟨fun z => absurd (by rw [hH.1] at z; exact z) (nI_ge (by omega) (by omega)), fun _ => ?_⟩
    refine (s_M_fit ht (by omega) hp hT hm ho hfr).mono fun r S1 ⟨e1, e2⟩ => ⟨vk, ?_⟩
    subst e1
    subst e2
    rw [nI_clamp (by omega)]
    rintro S13 rfl
    have o13 : om d0 q175 S1 (setA S1 175 k (em (npl T (oldL H.2.2) H.1 fr))) := om_A rfl
    refine ⟨vk, vk, vk, ?_⟩
    rw [setA_s, setA_o (by omega), setA_o (by omega), hm.2.1, hm.2.2.1]
    cases hp' : npl T (oldL H.2.2) H.1 fr with
    | none =>
      rw [hp'] at o13
      exact ⟨fun _ => hE k _ (plc_n hp') o13, fun z => absurd (by decide) z⟩
    | some p =>
      rw [hp'] at o13
      replace o13 : om d0 q175 S1 (setA S1 175 k (nI p)) := o13
      have hin := npl_in hp'
      refine ⟨fun z => absurd z (nI_pos (by omega)), fun _ => ?_⟩
      have k99 := ho.2.2.1
      have k98 := ho.2.2.2.1
      rw [nI_add, pk_sub (by omega), nI_leI (by omega) (by omega)]
      refine ⟨fun z => ⟨vk, vk, ?_⟩, fun z => hE k _ (plc_f hp' z) o13⟩
      have ps := plc_s (r := Hs.drop (k + 1)) (k := k) hp' z
      show AtI g um_M_apply (d + 2) Q 30 [(0, .ref (g.2.1 + 151)), (1, .int (nI t)), (2, .int (nI p + nI (oldL H.2.2).length)), (3, .int (nI (tot + (newL H.2.2).length - (oldL H.2.2).length))), (4, .int (nI k + 1))] [] (setA S1 175 k (nI p))
      rw [nI_1, nI_add]
      refine ih (k + 1) (p + (oldL H.2.2).length) (tot + (newL H.2.2).length - (oldL H.2.2).length) _ (by omega) (by omega) (by omega) (by omega) z (hp.keep o13 (by simp [d0]) (by simp [q175])) (hT.keep o13 (by simp [q175]) (by simp [q175])) ⟨by rw [o13.1 151 26 (by simp [d0])]; exact hH.1, fun j hj => ?_⟩ (fun e S' he o' => hE e S' (by rw [ps, he]) (o13.tr o')) (fun ps' S' he o' w1 w2 w3 => hQ (p :: ps') S' (by rw [ps, he]) (o13.tr o') (fun j hj => ?_) (by simp only [List.length_cons]; omega) (fun j hj => ?_))
      · have := hH.2 j hj
        unfold hmk at this ⊢
        rw [o13.2 170 (by simp [q175]), o13.2 171 (by simp [q175]), o13.2 172 (by simp [q175]), o13.2 173 (by simp [q175]), o13.2 174 (by simp [q175])]
        exact this
      · rw [w1 j (by omega), setA_o (by omega)]
      · cases j with
        | zero =>
          rw [Nat.add_zero, w1 k (by omega), setA_s]
          rfl
        | succ j =>
          have := w3 j (by simp at hj; omega)
          rw [show k + (j + 1) = k + 1 + j by omega, this]
          simp
/-- the rest of the text behind the hunks -/
theorem s_M_ap248 {g : lp_G} {d : Nat} {Q : Int32 → SS → Prop} {T : List Int32} {t : Nat} (ht : t < 4) : ∀ (n i : Nat) (S : SS) (acc : List Int32), T.length - i = n → i ≤ T.length → tm S t T → ouM S acc → acc.length + (T.length - i) ≤ 24 → (∀ S', ouM S' (acc ++ sl T i T.length) → om oe1 oe2 S S' → MtV g um_M_keep (d + 1) [.ref (g.2.1 + 151), .int (nI t)] S' (fun S24 => Q (S24.1 151 26) S24)) → AtI g um_M_apply (d + 2) Q 248 [(0, .ref (g.2.1 + 151)), (1, .int (nI t)), (4, .int (nI i))] [] S := by
  intro n
  induction n with
  | zero =>
    intro i S acc hn hi hT ho hl hQ
    have tl := hT.1
    have ei : i = T.length := by omega
    subst ei
    refine f_M_apply_248 ?_
    rw [nI_clamp (by omega), hT.2.1]
    exact ⟨vp_in_nI ht (by omega), fun _ => hQ S (by rw [sl_self, List.append_nil]; exact ho) om.re, fun z => absurd (nI_le (Nat.le_refl _) (by omega)) z⟩
  | succ n ih =>
    intro i S acc hn hi hT ho hl hQ
    have tl := hT.1
    refine f_M_apply_248 ?_
    rw [nI_clamp (by omega), hT.2.1, pk_mul, nI_add, nI_1, nI_clamp (by omega), hT.2.2 i (by omega)]
    refine ⟨vp_in_nI ht (by omega), fun z => absurd z (nI_ge (by omega) (by omega)), fun _ => ⟨vp_in_nI (by omega) (by omega), ?_⟩⟩
    refine (s_M_emit ho (by omega)).mono fun S1 ⟨a1, o1⟩ => ?_
    refine ih (i + 1) S1 _ (by omega) (by omega) (hT.keep o1 (by simp [oe2]) (by simp [oe2])) a1 (by simp; omega) fun S2 c1 c2 => hQ S2 ?_ (o1.tr c2)
    rw [sl_cons (by omega) (Nat.le_refl _)]
    simpa using c1
theorem s_M_ap136 {g : lp_G} {d : Nat} {Q : Int32 → SS → Prop} {T : List Int32} {t h p : Nat} (ht : t < 4) (hh : h < 80) (hpT : p ≤ T.length) : ∀ (n i : Nat) (S : SS) (acc : List Int32), p - i = n → i ≤ p → tm S t T → ouM S acc → S.2 175 h = nI p → acc.length + (p - i) ≤ 24 → (∀ S', ouM S' (acc ++ sl T i p) → om oe1 oe2 S S' → AtI g um_M_apply (d + 2) Q 173 [(0, .ref (g.2.1 + 151)), (1, .int (nI t)), (4, .int (nI p)), (5, .int (nI h)), (6, .int 0)] [] S') → AtI g um_M_apply (d + 2) Q 136 [(0, .ref (g.2.1 + 151)), (1, .int (nI t)), (4, .int (nI i)), (5, .int (nI h))] [] S := by
  intro n
  induction n with
  | zero =>
    intro i S acc hn hi hT ho h1 hl hQ
    have tl := hT.1
    have ei : i = p := by omega
    subst ei
    refine f_M_apply_136 ?_
    rw [nI_clamp (by omega), h1]
    exact ⟨vp_in_nI hh (by omega), fun _ => hQ S (by rw [sl_self, List.append_nil]; exact ho) om.re, fun z => absurd (nI_le (Nat.le_refl _) (by omega)) z⟩
  | succ n ih =>
    intro i S acc hn hi hT ho h1 hl hQ
    have tl := hT.1
    refine f_M_apply_136 ?_
    rw [nI_clamp (by omega), h1, pk_mul, nI_add, nI_1, nI_clamp (by omega), hT.2.2 i (by omega)]
    refine ⟨vp_in_nI hh (by omega), fun z => absurd z (nI_ge (by omega) (by omega)), fun _ => ⟨vp_in_nI (by omega) (by omega), ?_⟩⟩
    refine (s_M_emit ho (by omega)).mono fun S1 ⟨a1, o1⟩ => ?_
    refine ih (i + 1) S1 _ (by omega) (by omega) (hT.keep o1 (by simp [oe2]) (by simp [oe2])) a1 (by rw [o1.2 175 (by simp [oe2])]; exact h1) (by simp; omega) fun S2 c1 c2 => hQ S2 ?_ (o1.tr c2)
    rw [sl_cons (by omega) hpT]
    simpa using c1
theorem s_M_ap173 {g : lp_G} {d : Nat} {Q : Int32 → SS → Prop} {l : List Int32} {t h i : Nat} {H : HK} (hh : h < 80) (hk : hok l H) : ∀ (n k : Nat) (S : SS) (acc : List Int32), H.2.2.length - k = n → k ≤ H.2.2.length → paM S l → hmk S h H → ouM S (acc ++ newL (H.2.2.take k)) → acc.length + (newL H.2.2).length ≤ 24 → (∀ S', ouM S' (acc ++ newL H.2.2) → om oe1 oe2 S S' → AtI g um_M_apply (d + 2) Q 127 [(0, .ref (g.2.1 + 151)), (1, .int (nI t)), (4, .int (nI (i + (oldL H.2.2).length))), (5, .int (nI (h + 1)))] [] S') → AtI g um_M_apply (d + 2) Q 173 [(0, .ref (g.2.1 + 151)), (1, .int (nI t)), (4, .int (nI i)), (5, .int (nI h)), (6, .int (nI k))] [] S := by
  have vh : vp_in (nI h) 80 := vp_in_nI hh (by omega)
  have k2 := hk.2.1
  intro n
  induction n with
  | zero =>
    intro k S acc hn hkl hp hH ho hl hQ
    have pl := hp.1
    have ek : k = H.2.2.length := by omega
    subst ek
    refine f_M_apply_173 ?_
    rw [nI_clamp (by omega), hH.2.2.2.1, hH.2.1, nI_add, nI_1]
    rw [List.take_of_length_le (Nat.le_refl _)] at ho
    exact ⟨vh, fun _ => ⟨vh, hQ S ho om.re⟩, fun z => absurd (nI_le (Nat.le_refl _) (by omega)) z⟩
  | succ n ih =>
    intro k S acc hn hkl hp hH ho hl hQ
    have pl := hp.1
    have hkl' : k < H.2.2.length := by omega
    have el := hk.2.2.2.2 k hkl'
    have sn := newL_snoc hkl'
    have pr := congrArg List.length (newL_pre (L := H.2.2) (k + 1))
    rw [List.length_append] at pr
    rw [el] at sn
    dsimp only at sn
    refine f_M_apply_173 ?_
    rw [nI_clamp (n := h) (by omega), hH.2.2.2.1, hH.2.2.2.2, pk_mul, nI_add]
    simp (disch := omega) only [nI_1, nI_clamp]
    rw [hp.2.2 (H.2.1 + 3 * k) (by omega), hp.2.2 (H.2.1 + 3 * k + 1) (by omega)]
    refine ⟨vh, fun z => absurd z (nI_ge (by omega) (by omega)), fun _ => ⟨vh, vp_in_nI (by omega) (by omega), fun z => ?_, fun z => ?_⟩⟩
    · rw [if_pos z, List.append_nil] at sn
      exact ih (k + 1) S acc (by omega) (by omega) hp hH (by rw [sn]; exact ho) hl hQ
    · rw [if_neg z] at sn
      have ln : (newL (H.2.2.take (k + 1))).length = (newL (H.2.2.take k)).length + 1 := by rw [sn]; simp
      refine ⟨vp_in_nI (by omega) (by omega), ?_⟩
      refine (s_M_emit ho (by simp; omega)).mono fun S1 ⟨a1, o1⟩ => ?_
      refine ih (k + 1) S1 acc (by omega) (by omega) (hp.keep o1 (by simp [oe1]) (by simp [oe2])) ?_ (by rw [sn, ← List.append_assoc]; exact a1) hl fun S2 c1 c2 => hQ S2 c1 (o1.tr c2)
      unfold hmk
      rw [o1.2 170 (by simp [oe2]), o1.2 171 (by simp [oe2]), o1.2 172 (by simp [oe2]), o1.2 173 (by simp [oe2]), o1.2 174 (by simp [oe2])]
      exact hH
theorem s_M_ap2 {g : lp_G} {d : Nat} {Q : Int32 → SS → Prop} {l T : List Int32} {t : Nat} {Hs : List HK} (ht : t < 4) (h80 : Hs.length < 80) (hk : ∀ H, H ∈ Hs → hok l H) : ∀ (n k fr tot : Nat) (ps : List Nat) (S : SS) (acc : List Int32), Hs.length - k = n → k ≤ Hs.length → plc T (Hs.drop k) fr tot k = .ok ps → fr ≤ T.length → tot = acc.length + (T.length - fr) → tot ≤ 24 → paM S l → tm S t T → hmS S Hs → (∀ j, j < ps.length → S.2 175 (k + j) = nI (ps.getD j 0)) → ouM S acc → (∀ S', ouM S' (acc ++ bld T (Hs.drop k) ps fr) → om oe1 oe2 S S' → MtV g um_M_keep (d + 1) [.ref (g.2.1 + 151), .int (nI t)] S' (fun S24 => Q (S24.1 151 26) S24)) → AtI g um_M_apply (d + 2) Q 127 [(0, .ref (g.2.1 + 151)), (1, .int (nI t)), (4, .int (nI fr)), (5, .int (nI k))] [] S := by
  intro n
  induction n with
  | zero =>
    intro k fr tot ps S acc hn hkl hpl hfr h1 h2 hp hT hH hf ho hQ
    have tl := hT.1
    have ek : k = Hs.length := by omega
    subst ek
    refine f_M_apply_127 ⟨fun _ => ?_, fun z => absurd (by rw [hH.1]; exact nI_le (Nat.le_refl _) (by omega)) z⟩
    refine s_M_ap248 ht _ fr S acc rfl hfr hT ho (by omega) fun S' c1 c2 => hQ S' ?_ c2
    rw [List.drop_length]
    exact c1
  | succ n ih =>
    intro k fr tot ps S acc hn hkl hpl hfr h1 h2 hp hT hH hf ho hQ
    have tl := hT.1
    have hkl' : k < Hs.length := by omega
    have hm := hH.2 k hkl'
    rw [gd_H hkl'] at hm
    have hok' := hk _ (List.getElem_mem hkl')
    rw [List.drop_eq_getElem_cons hkl'] at hpl hQ
    generalize Hs[k] = H at hm hok' hpl hQ
    refine f_M_apply_127 ⟨fun z => absurd (by rw [hH.1] at z; exact z) (nI_ge (by omega) (by omega)), fun _ => ?_⟩
    cases hp' : npl T (oldL H.2.2) H.1 fr with
    | none => rw [plc_n hp'] at hpl; cases hpl
    | some p =>
      have hin := npl_in hp'
      by_cases z : tot + (newL H.2.2).length - (oldL H.2.2).length ≤ 24
      · rw [plc_s hp' z] at hpl
        cases hr : plc T (Hs.drop (k + 1)) (p + (oldL H.2.2).length) (tot + (newL H.2.2).length - (oldL H.2.2).length) (k + 1) with
        | error e => rw [hr] at hpl; cases hpl
        | ok ps' =>
          rw [hr] at hpl
          cases hpl
          have f0 := hf 0 (by simp)
          rw [Nat.add_zero] at f0
          refine s_M_ap136 (p := p) ht (by omega) (by omega) _ fr S acc rfl hin.1 hT ho f0 (by omega) fun S1 a1 o1 => ?_
          have hm1 : hmk S1 k H := by
            unfold hmk
            rw [o1.2 170 (by simp [oe2]), o1.2 171 (by simp [oe2]), o1.2 172 (by simp [oe2]), o1.2 173 (by simp [oe2]), o1.2 174 (by simp [oe2])]
            exact hm
          refine s_M_ap173 (i := p) (by omega) hok' _ 0 S1 (acc ++ sl T fr p) rfl (Nat.zero_le _) (hp.keep o1 (by simp [oe1]) (by simp [oe2])) hm1 (by simpa [newL] using a1) (by rw [List.length_append, sl_len (by omega)]; omega) fun S2 a2 o2 => ?_
          have oo := o1.tr o2
          refine ih (k + 1) (p + (oldL H.2.2).length) _ ps' S2 _ (by omega) (by omega) hr (by omega) ?_ z (hp.keep oo (by simp [oe1]) (by simp [oe2])) (hT.keep oo (by simp [oe2]) (by simp [oe2])) ⟨by rw [oo.1 151 26 (by simp [oe1])]; exact hH.1, fun j hj => ?_⟩ (fun j hj => ?_) a2 fun S3 c1 c2 => hQ S3 ?_ (oo.tr c2)
          · rw [List.length_append, List.length_append, sl_len (by omega)]
            omega
          · have := hH.2 j hj
            unfold hmk at this ⊢
            rw [oo.2 170 (by simp [oe2]), oo.2 171 (by simp [oe2]), oo.2 172 (by simp [oe2]), oo.2 173 (by simp [oe2]), oo.2 174 (by simp [oe2])]
            exact this
          · have := hf (j + 1) (by simp; omega)
            rw [oo.2 175 (by simp [oe2]), show k + 1 + j = k + (j + 1) by omega, this]
            simp
          · simpa only [bld, List.append_assoc] using c1
      · rw [plc_f hp' z] at hpl; cases hpl
theorem bld_len {T : List Int32} : ∀ (Hs : List HK) (fr tot k : Nat) (ps : List Nat) (acc : Nat), plc T Hs fr tot k = .ok ps → fr ≤ T.length → tot = acc + (T.length - fr) → tot ≤ 24 → acc + (bld T Hs ps fr).length ≤ 24 := by
  intro Hs
  induction Hs with
  | nil =>
    intro fr tot k ps acc h hf h1 h2
    rw [show bld T [] ps fr = sl T fr T.length by simp only [bld], sl_len (Nat.le_refl _)]
    omega
  | cons H r ih =>
    intro fr tot k ps acc h hf h1 h2
    cases hp : npl T (oldL H.2.2) H.1 fr with
    | none => rw [plc_n hp] at h; cases h
    | some p =>
      have hin := npl_in hp
      by_cases z : tot + (newL H.2.2).length - (oldL H.2.2).length ≤ 24
      · rw [plc_s hp z] at h
        cases hr : plc T r (p + (oldL H.2.2).length) (tot + (newL H.2.2).length - (oldL H.2.2).length) (k + 1) with
        | error e => rw [hr] at h; cases h
        | ok ps' =>
          rw [hr] at h
          cases h
          have := ih _ _ _ ps' (acc + (p - fr) + (newL H.2.2).length) hr (by omega) (by omega) z
          simp only [bld, List.length_append]
          rw [sl_len (by omega)]
          omega
      · rw [plc_f hp z] at h; cases h
theorem sim_apply (g : lp_G) (v0 : Int32) : Sim g um_P_apply um_M_apply [.int v0] := by
  intro m ho
  have cM : ∀ {S S' : SS}, relM S m → om la ha2 S S' → relM S' m ∧ off pM S S' ∧ om mf mk S S' := fun hm o => by
    have o' := o.mo (fs' := mf) (ps' := mk) (fun j z => by unfold la at z; unfold mf; omega) (fun q z => by unfold ha2 at z; unfold mk; omega)
    exact ⟨hm.scr o' (o.2 152 (by simp [ha2])) (o.2 153 (by simp [ha2])), om_M o' (fun q z => z.1), o'⟩
  have cC : ∀ {S S' : SS}, relC S m → od dh dp S S' → relC S' m ∧ off pC S S' ∧ off sk S S' := fun {S S'} hc o => by
    have o' := od_off o
    have o2 : off sk S S' := o'.mo fun q z => by unfold dp at z; unfold sk; omega
    exact ⟨hc.scr o2, o'.mo fun q z => by unfold dp at z; unfold pC; omega, o2⟩
  have bad : (v0 < 0 ∨ nI 4 ≤ v0) → ∃ (r : Int32) (m' : MS), okM m' ∧ (∀ S, relC S m → MtI g um_P_apply 8 (.ref (g.2.1 + 0) :: [.int v0]) S (fun r' S' => r' = r ∧ relC S' m' ∧ off pC S S')) ∧ ∀ S, relM S m → MtI g um_M_apply 8 (.ref (g.2.1 + 151) :: [.int v0]) S (fun r' S' => r' = r ∧ relM S' m' ∧ off pM S S') := by
    intro h
    refine ⟨-1, m, ho, fun S hc => f_P_apply ((s_isText_bad h).mono fun r S' ⟨e1, e2⟩ => ?_), fun S hm => f_M_apply ((s_within3_bad h).mono fun r S' ⟨e1, e2⟩ => ?_)⟩
    · subst e1; exact ⟨fun _ => ⟨rfl, hc, off.re⟩, fun z => absurd e2 z⟩
    · subst e1; exact ⟨fun _ => ⟨rfl, hm, off.re⟩, fun z => absurd e2 z⟩
  rcases pk_ix v0 (n := 4) (by omega) with h | h | ⟨t, ht, rfl⟩
  · exact bad (Or.inl h)
  · exact bad (Or.inr h)
  · clear bad
    have hl := ho.1 t ht
    cases e : hks m.2.2 m.2.2.length 0 with
    | error p =>
      refine ⟨-1, m, ho, fun S hc => f_P_apply ((s_isText_ok ht).mono fun r S' ⟨e1, e2⟩ => ?_), fun S hm => f_M_apply ((s_within3_ok ht).mono fun r S' ⟨e1, e2⟩ => ?_)⟩
      · subst e1
        refine ⟨fun z => absurd (e2.symm.trans z) (by decide), fun _ => (s_D_fail hc.2.2).mono fun r S1 ⟨o, w⟩ => ?_⟩
        rcases w with ⟨H, w1, w2⟩ | ⟨e', w1, w2, w3⟩
        · rw [e] at w1; cases w1
        · have := cC hc o
          have hp := hc.2.2.1
          exact ⟨fun z => absurd (w2.symm.trans z) (m1_ne (by omega)), fun _ => ⟨rfl, this.1, this.2.1⟩⟩
      · subst e1
        refine ⟨fun z => absurd (e2.symm.trans z) (by decide), fun _ => (s_M_read hm.2.2).mono fun r S1 ⟨o, _, w⟩ => ?_⟩
        rcases w with ⟨H, w1, w2⟩ | ⟨e', w1, w2, w3⟩
        · rw [e] at w1; cases w1
        · have := cM hm o
          have hp := hm.2.2.1
          exact ⟨fun z => absurd z (by rw [w2]; exact nI_pos (by omega)), fun _ => ⟨rfl, this.1, this.2.1⟩⟩
    | ok Hs =>
      have h75 := hks_len _ _ _ (Nat.zero_le _) e
      have hk := hks_ok _ _ _ e
      have sC : ∀ {S : SS} {Q : Int32 → SS → Prop}, relC S m → (∀ S1, relC S1 m → off sk S S1 → MtI g um_F_patch 7 [.ref (g.2.1 + 122), .ref (g.2.1 + (143 + 2 * t))] S1 Q) → MtI g um_P_apply 8 (.ref (g.2.1 + 0) :: [.int (nI t)]) S Q := by
        intro S Q hc hK
        refine f_P_apply ((s_isText_ok ht).mono fun r S' ⟨e1, e2⟩ => ?_)
        subst e1
        refine ⟨fun z => absurd (e2.symm.trans z) (by decide), fun _ => (s_D_fail hc.2.2).mono fun r S1 ⟨o, w⟩ => ?_⟩
        rcases w with ⟨H, w1, w2⟩ | ⟨e', w1, w2⟩
        · refine ⟨fun _ => ⟨vp_in_nI ht (by omega), ?_⟩, fun z => absurd w2 z⟩
          rw [nI_clamp (by omega)]
          have := cC hc o
          exact hK S1 this.1 this.2.2
        · rw [e] at w1; cases w1
      have sM : ∀ {S : SS} {Q : Int32 → SS → Prop}, relM S m → (∀ S1, relM S1 m → om mf mk S S1 → hmS S1 Hs → AtI g um_M_apply 8 Q 30 [(0, .ref (g.2.1 + 151)), (1, .int (nI t)), (2, .int (nI 0)), (3, .int (nI (m.1 t).length)), (4, .int (nI 0))] [] S1) → MtI g um_M_apply 8 (.ref (g.2.1 + 151) :: [.int (nI t)]) S Q := by
        intro S Q hm hK
        refine f_M_apply ((s_within3_ok ht).mono fun r S' ⟨e1, e2⟩ => ?_)
        subst e1
        refine ⟨fun z => absurd (e2.symm.trans z) (by decide), fun _ => (s_M_read hm.2.2).mono fun r S1 ⟨o, _, w⟩ => ?_⟩
        have cm := cM hm o
        rcases w with ⟨H, w1, w2, w3⟩ | ⟨e', w1, w2, w3⟩
        · rw [e] at w1; cases w1
          refine ⟨fun _ => ⟨vp_in_nI ht (by omega), ?_⟩, fun z => absurd (by rw [w2]; decide) z⟩
          rw [nI_clamp (by omega), (cm.1.1 t ht).2.1]
          exact hK S1 cm.1 cm.2.2 w3
        · rw [e] at w1; cases w1
      have sP : ∀ {S : SS} {Q : Int32 → SS → Prop}, relC S m → (∀ e S', plc (m.1 t) Hs 0 (m.1 t).length 0 = .error e → off sk S S' → Q ((-3) - nI e) S') → (∀ ps S' S2, plc (m.1 t) Hs 0 (m.1 t).length 0 = .ok ps → off sk S S' → tx S2 (143 + 2 * t) (bld (m.1 t) Hs ps 0) → off (tp (143 + 2 * t)) S' S2 → Q (nI Hs.length) S2) → MtI g um_F_patch 7 [.ref (g.2.1 + 122), .ref (g.2.1 + (143 + 2 * t))] S Q := by
        intro S Q hc hE hQ
        refine f_F_patch (isT_t ht) ?_
        rintro S1 rfl
        refine f_D_goToBeginning ?_
        rintro S2 rfl
        rw [(hc.1 t ht).2.1]
        have o2 : off fo S (setI (setI S 123 1 0) 119 1 0) := (off_I (by simp [fo])).tr (off_I (by simp [fo]))
        have fs : ∀ q, fo q → sk q := fun q z => by unfold fo at z; unfold sk; omega
        refine s_F_patch_loop (l := m.2.2) ht m.2.2.length 0 0 0 (m.1 t).length Hs _ [] ⟨hc.2.2.keep o2 (by simp [fo]) (by simp [fo]), by rw [setI_s]; rfl, by omega⟩ (by omega) (by omega) e (by omega) (by simp) hl ((hc.1 t ht).keep o2 (by unfold fo; omega) (by unfold fo; omega)) ⟨by simp, by rw [setI_o (by omega), setI_s]; rfl, fun j hj => by simp at hj⟩ (fun e' S' he o' => hE e' S' he ((o2.tr o').mo fs)) (fun ps S' S2 he o' x' o'' => ?_)
        have := hQ ps S' S2 he ((o2.tr o').mo fs) (by simpa using x') o''
        rw [Nat.zero_add]
        exact this
      cases hp : plc (m.1 t) Hs 0 (m.1 t).length 0 with
      | error e' =>
        refine ⟨(-3) - nI e', m, ho, fun S hc => sC hc fun S1 hc1 o1 => sP hc1 (fun e2 S' he o' => ?_) (fun ps S' S2 he => ?_), fun S hm => sM hm fun S1 hm1 o1 hH => ?_⟩
        · rw [hp] at he; cases he
          have o2 := o1.tr o'
          exact ⟨rfl, hc.scr o2, o2.mo fun q z => z.1⟩
        · rw [hp] at he; cases he
        · refine s_M_ap1 (l := m.2.2) (T := m.1 t) (Hs := Hs) ht (by have := hm.2.2.1; omega) hk Hs.length 0 0 _ S1 (by omega) (by omega) (by omega) (by omega) hl hm1.2.2 (hm1.1 t ht) hH (fun e2 S' he o' => ?_) (fun ps S' he => ?_)
          · rw [List.drop_zero, hp] at he; cases he
            have o2 := o1.tr (o'.mo (fs' := mf) (ps' := mk) (fun _ z => z.elim) (fun q z => by unfold q175 at z; unfold mk; omega))
            exact ⟨rfl, hm1.scr (o'.mo (fs' := mf) (ps' := mk) (fun _ z => z.elim) (fun q z => by unfold q175 at z; unfold mk; omega)) (o'.2 152 (by simp [q175])) (o'.2 153 (by simp [q175])), om_M o2 (fun q z => z.1)⟩
          · rw [List.drop_zero, hp] at he; cases he
      | ok ps =>
        refine ⟨nI Hs.length, (upT m.1 t (bld (m.1 t) Hs ps 0), m.2), ?_, fun S hc => sC hc fun S1 hc1 o1 => sP hc1 (fun e2 S' he => ?_) (fun ps' S' S2 he o' x' o'' => ?_), fun S hm => sM hm fun S1 hm1 o1 hH => ?_⟩
        · have := bld_len Hs 0 _ 0 ps 0 hp (by omega) (by omega) hl
          exact ho.text (by omega)
        · rw [hp] at he; cases he
        · rw [hp] at he; cases he
          have o2 := o1.tr o'
          exact ⟨rfl, hc.text ht x' ((o2.mo fun q z => Or.inl z).tr (o''.mo fun q z => Or.inr z)), (o2.mo fun q z => (show pC q from z.1)).tr (o''.mo fun q z => by unfold tp at z; unfold pC; omega)⟩
        · refine s_M_ap1 (l := m.2.2) (T := m.1 t) (Hs := Hs) ht (by have := hm.2.2.1; omega) hk Hs.length 0 0 _ S1 (by omega) (by omega) (by omega) (by omega) hl hm1.2.2 (hm1.1 t ht) hH (fun e2 S' he => ?_) (fun ps' S' he o' w1 w2 w3 => ?_)
          · rw [List.drop_zero, hp] at he; cases he
          · have he' := he
            rw [List.drop_zero, hp] at he; cases he
            rintro S9 rfl
            have o9 : om mf mk S1 (setI S' 151 35 0) := (o'.mo (fun _ z => z.elim) (fun q z => by unfold q175 at z; unfold mk; omega)).tr (om_I (by simp [mf]))
            have l9 : ∀ q, q = 152 ∨ q = 153 → (setI S' 151 35 0).2 q = S1.2 q := fun q hq => o'.2 q (by unfold q175; omega)
            have hT9 : tm (setI S' 151 35 0) t (m.1 t) := by
              have := hm1.1 t ht
              unfold tm at this ⊢
              rw [l9 152 (by omega), l9 153 (by omega)]
              exact this
            refine s_M_ap2 (l := m.2.2) (T := m.1 t) (Hs := Hs) ht (by have := hm.2.2.1; omega) hk Hs.length 0 0 (m.1 t).length ps _ [] (by omega) (by omega) he' (by omega) (by simp) hl (hm1.2.2.keep o9 (by simp [mf]) (by simp [mk])) hT9 ⟨by rw [setI_o (by omega), o'.1 151 26 (by simp [d0])]; exact hH.1, fun j hj => ?_⟩ (fun j hj => w3 j hj) ⟨by simp, setI_s, fun j hj => by simp at hj⟩ fun S10 a10 o10 => ?_
            · have := hH.2 j hj
              unfold hmk at this ⊢
              rw [setI_2, o'.2 170 (by simp [q175]), o'.2 171 (by simp [q175]), o'.2 172 (by simp [q175]), o'.2 173 (by simp [q175]), o'.2 174 (by simp [q175])]
              exact this
            · rw [List.drop_zero, List.nil_append] at a10
              refine (s_M_keep ht a10).mono fun S11 ⟨d1, d2, d3, d4⟩ => ?_
              have o10' : om mf mk (setI S' 151 35 0) S10 := o10.mo (fun j z => by unfold oe1 at z; unfold mf; omega) (fun q z => by unfold oe2 at z; unfold mk; omega)
              have o11 : om mf mk S10 S11 := d2.mo (fun _ z => z.elim) (fun q z => by unfold mk; omega)
              have oo := (o9.tr o10').tr o11
              have k26 : S11.1 151 26 = nI Hs.length := by
                rw [d2.1 151 26 (by simp), o10.1 151 26 (by simp [oe1]), setI_o (by omega), o'.1 151 26 (by simp [d0])]
                exact hH.1
              refine ⟨k26, hm1.text ht d1 oo (fun i hi => ?_) (fun j hj => ?_), om_M (o1.tr oo) (fun q z => z.1)⟩
              · rw [d3 i hi, o10.2 152 (by simp [oe2]), l9 152 (by omega)]
              · rw [d4 j hj, o10.2 153 (by simp [oe2]), l9 153 (by omega)]
