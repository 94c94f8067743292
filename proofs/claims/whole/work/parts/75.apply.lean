/-! apply: what it gives, and the class -/
def fit (T O : List Int32) (p : Nat) : Bool := decide (∀ j, j < O.length → T.getD (p + j) 0 = O.getD j 0)
def dst (a p : Nat) : Nat := if a ≤ p then p - a else a - p
def nb (a : Nat) (b : Option Nat) (p : Nat) : Bool := match b with
  | none => true
  | some q => decide (dst a p < dst a q)
def nr (T O : List Int32) (a : Nat) : Nat → Nat → Option Nat → Option Nat
  | 0, _, b => b
  | n + 1, p, b => if p + O.length ≤ T.length then nr T O a n (p + 1) (if (nb a b p && fit T O p) = true then some p else b) else b
/-- the nearest place where O stands in T -/
def npl (T O : List Int32) (a p : Nat) : Option Nat := nr T O a 25 p none
theorem nr_in {T O : List Int32} {a : Nat} : ∀ (n p : Nat) (b : Option Nat) (q f : Nat), f ≤ p → (∀ r, b = some r → f ≤ r ∧ r + O.length ≤ T.length) → nr T O a n p b = some q → f ≤ q ∧ q + O.length ≤ T.length := by
  intro n
  induction n with
  | zero => intro p b q f hf hb h; exact hb q h
  | succ n ih =>
    intro p b q f hf hb h
    unfold nr at h
    split at h
    · refine ih (p + 1) _ q f (by omega) (fun r hr => ?_) h
      split at hr
      · cases hr; omega
      · exact hb r hr
    · exact hb q h
theorem npl_in {T O : List Int32} {a p q : Nat} (h : npl T O a p = some q) : p ≤ q ∧ q + O.length ≤ T.length := nr_in _ _ _ _ _ (Nat.le_refl _) (fun r hr => by cases hr) h
def plc (T : List Int32) : List HK → Nat → Nat → Nat → Except Nat (List Nat)
  | [], _, _, _ => .ok []
  | H :: r, fr, tot, k => match npl T (oldL H.2.2) H.1 fr with
    | none => .error k
    | some p => if tot + (newL H.2.2).length - (oldL H.2.2).length ≤ 24 then (match plc T r (p + (oldL H.2.2).length) (tot + (newL H.2.2).length - (oldL H.2.2).length) (k + 1) with
      | .error e => .error e
      | .ok ps => .ok (p :: ps)) else .error k
def bld (T : List Int32) : List HK → List Nat → Nat → List Int32
  | H :: r, p :: ps, fr => sl T fr p ++ (newL H.2.2 ++ bld T r ps (p + (oldL H.2.2).length))
  | _, _, fr => sl T fr T.length
theorem plc_n {T : List Int32} {H : HK} {r : List HK} {fr tot k : Nat} (h : npl T (oldL H.2.2) H.1 fr = none) : plc T (H :: r) fr tot k = .error k := by
  simp only [plc, h]
theorem plc_f {T : List Int32} {H : HK} {r : List HK} {fr tot k p : Nat} (h : npl T (oldL H.2.2) H.1 fr = some p) (h2 : ¬ tot + (newL H.2.2).length - (oldL H.2.2).length ≤ 24) : plc T (H :: r) fr tot k = .error k := by
  simp only [plc, h, if_neg h2]
theorem plc_s {T : List Int32} {H : HK} {r : List HK} {fr tot k p : Nat} (h : npl T (oldL H.2.2) H.1 fr = some p) (h2 : tot + (newL H.2.2).length - (oldL H.2.2).length ≤ 24) : plc T (H :: r) fr tot k = match plc T r (p + (oldL H.2.2).length) (tot + (newL H.2.2).length - (oldL H.2.2).length) (k + 1) with
      | .error e => .error e
      | .ok ps => .ok (p :: ps) := by
  simp only [plc, h, if_pos h2]
theorem hks_len {l : List Int32} : ∀ (f i : Nat) (Hs : List HK), i ≤ l.length → hks l f i = .ok Hs → i + 12 * Hs.length ≤ l.length := by
  intro f
  induction f with
  | zero => intro i Hs hi h; cases h; simpa using hi
  | succ f ih =>
    intro i Hs hi h
    unfold hks at h
    split at h
    · cases h; simpa using hi
    · split at h
      · cases h
      · rename_i H p e
        have hb := hnk_ok (a := H.1) (p := H.2.1) (L := H.2.2) e
        split at h
        · cases h
        · rename_i r e2
          cases h
          have := ih p r (by omega) e2
          simp only [List.length_cons]
          omega
/-- the lines of a hunk are on the paper -/
def hok (l : List Int32) (H : HK) : Prop := H.1 ≤ 99 ∧ H.2.1 + 3 * H.2.2.length ≤ l.length ∧ (oldL H.2.2).length ≤ 99 ∧ (newL H.2.2).length ≤ 99 ∧ ∀ k, k < H.2.2.length → H.2.2.getD k (0, 0) = (l.getD (H.2.1 + 3 * k) 0, l.getD (H.2.1 + 3 * k + 1) 0)
theorem hks_ok {l : List Int32} : ∀ (f i : Nat) (Hs : List HK), hks l f i = .ok Hs → ∀ H, H ∈ Hs → hok l H := by
  intro f
  induction f with
  | zero => intro i Hs h H hH; cases h; cases hH
  | succ f ih =>
    intro i Hs h H hH
    unfold hks at h
    split at h
    · cases h; cases hH
    · split at h
      · cases h
      · rename_i H' p e
        have hb := hnk_ok (a := H'.1) (p := H'.2.1) (L := H'.2.2) e
        split at h
        · cases h
        · rename_i r e2
          cases h
          rcases List.mem_cons.mp hH with rfl | hH
          · exact ⟨hb.1, by omega, hb.2.2.2.2.1, hb.2.2.2.2.2.1, hb.2.2.2.2.2.2⟩
          · exact ih p r e2 H hH
theorem sb_swap (x y : Int32) : 0 - (x - y) = y - x := by
  rw [Int32.zero_sub, Int32.neg_sub]
theorem dst_I {a p : Nat} (ha : a ≤ 999) (hp : p ≤ 999) : (if 0 ≤ nI p - nI a then nI p - nI a else 0 - (nI p - nI a)) = nI (dst a p) := by
  by_cases h : a ≤ p
  · rw [pk_sub h, if_pos (show (0 : Int32) ≤ nI (p - a) from nI_le (a := 0) (b := p - a) (by omega) (by omega)), dst, if_pos h]
  · rw [sb_swap, pk_sub (show p ≤ a by omega), if_neg, dst, if_neg h]
    rw [Int32.le_iff_toInt_le, pk_sub_toInt (by omega) (by omega), show (0 : Int32).toInt = 0 from rfl]
    omega
theorem s_F_dist {g : lp_G} {d : Nat} {S : SS} {a p : Nat} (h : S.1 119 2 = nI a) (ha : a ≤ 999) (hp : p ≤ 999) : MtI g um_F_distance (d + 1) [.ref (g.2.1 + 122), .int (nI p)] S (fun r S' => S' = S ∧ r = nI (dst a p)) := by
  refine f_F_distance ⟨rfl, ?_⟩
  rw [h]
  exact dst_I ha hp
theorem s_F_fits_loop {g : lp_G} {d : Nat} {Q : Int32 → SS → Prop} {S : SS} {k1 p : Nat} {T : List Int32} {L : List (Int32 × Int32)} (hk1 : isT k1) (ht : tx S k1 T) (hL : hl S L) (h99 : (oldL L).length ≤ 99) (hp : p + (oldL L).length ≤ T.length) (hQ : Q (b2i (fit T (oldL L) p)) S) : ∀ (n j : Nat), (oldL L).length - j = n → j ≤ (oldL L).length → (∀ i, i < j → T.getD (p + i) 0 = (oldL L).getD i 0) → AtI g um_F_fitsAt d Q 2 [(0, .ref (g.2.1 + 122)), (1, .ref (g.2.1 + k1)), (2, .int (nI p)), (3, .int (nI j))] [] S := by
  have tl := ht.1
  intro n
  induction n with
  | zero =>
    intro j hn hj h
    have ej : j = (oldL L).length := by omega
    subst ej
    refine f_F_fitsAt_2 hk1 ⟨fun _ => ?_, fun z => absurd (by rw [hL.1]; exact nI_le (Nat.le_refl _) (by omega)) z⟩
    rw [show fit T (oldL L) p = true from decide_eq_true h] at hQ
    exact hQ
  | succ n ih =>
    intro j hn hj h
    refine f_F_fitsAt_2 hk1 ⟨fun z => absurd (by rw [hL.1] at z; exact z) (nI_ge (by omega) (by omega)), fun _ => ?_⟩
    rw [nI_add, nI_1]
    refine ⟨vp_in_nI (by omega) (by omega), vp_in_nI (by omega) (by omega), ?_⟩
    rw [nI_clamp (by omega), nI_clamp (by omega), ht.2.2 (p + j) (by omega), hL.2.2.1 j (by omega)]
    refine ⟨fun z => ih (j + 1) (by omega) (by omega) fun i hi => ?_, fun z => ?_⟩
    · by_cases e : i = j
      · subst e; exact z
      · exact h i (by omega)
    · rw [show fit T (oldL L) p = false from decide_eq_false fun w => z (w j (by omega))] at hQ
      exact hQ
theorem s_F_fits {g : lp_G} {d : Nat} {S : SS} {k1 p : Nat} {T : List Int32} {L : List (Int32 × Int32)} (hk1 : isT k1) (ht : tx S k1 T) (hL : hl S L) (h99 : (oldL L).length ≤ 99) (hp : p + (oldL L).length ≤ T.length) : MtI g um_F_fitsAt d [.ref (g.2.1 + 122), .ref (g.2.1 + k1), .int (nI p)] S (fun r S' => S' = S ∧ r = b2i (fit T (oldL L) p)) :=
  f_F_fitsAt hk1 (s_F_fits_loop hk1 ht hL h99 hp ⟨rfl, rfl⟩ _ 0 rfl (Nat.zero_le _) fun i hi => by omega)
theorem s_F_near_loop {g : lp_G} {d : Nat} {Q : Int32 → SS → Prop} {S : SS} {k1 a : Nat} {T : List Int32} {L : List (Int32 × Int32)} (hk1 : isT k1) (ht : tx S k1 T) (hL : hl S L) (h99 : (oldL L).length ≤ 99) (ha : S.1 119 2 = nI a) (ha9 : a ≤ 99) : ∀ (n p : Nat) (b : Option Nat), T.length < p + n → p ≤ T.length + 1 → (∀ q, b = some q → q ≤ 24) → Q (en (nr T (oldL L) a n p b)) S → AtI g um_F_nearestPlace (d + 2) Q 6 [(0, .ref (g.2.1 + 122)), (1, .ref (g.2.1 + k1)), (3, .int (en b)), (4, .int (nI p))] [] S := by
  have tl := ht.1
  have cmp : ∀ {p : Nat}, p ≤ 999 → (nI T.length - nI (oldL L).length < nI p ↔ ¬ p + (oldL L).length ≤ T.length) := fun {p} hp => by
    rw [Int32.lt_iff_toInt_lt, pk_sub_toInt (by omega) (by omega), nI_toInt (by omega)]
    omega
  intro n
  induction n with
  | zero =>
    intro p b hn hp hb hQ
    refine f_F_nearestPlace_6 hk1 ?_
    rw [ht.2.1, hL.1, cmp (by omega)]
    exact ⟨fun _ => hQ, fun z => absurd (by omega) z⟩
  | succ n ih =>
    intro p b hn hp hb hQ
    refine f_F_nearestPlace_6 hk1 ?_
    rw [ht.2.1, hL.1, cmp (by omega), nI_1]
    unfold nr at hQ
    refine ⟨fun z => ?_, fun z => ?_⟩
    · rw [if_neg z] at hQ
      exact hQ
    · have z' : p + (oldL L).length ≤ T.length := Decidable.of_not_not z
      rw [if_pos z'] at hQ
      cases b with
      | none =>
        refine ⟨fun _ => ?_, fun y => absurd rfl y⟩
        refine (s_F_fits hk1 ht hL h99 z').mono fun r S1 ⟨e1, e2⟩ => ?_
        subst e1
        subst e2
        rw [show nb a none p = true from rfl, Bool.true_and] at hQ
        refine ⟨fun y => ih (p + 1) none (by omega) (by omega) hb ?_, fun y => ih (p + 1) (some p) (by omega) (by omega) (fun q hq => by cases hq; omega) ?_⟩
        · rw [b2i_0.mp y, if_neg (by decide)] at hQ
          exact hQ
        · rw [b2i_1.mp y, if_pos rfl] at hQ
          exact hQ
      | some q =>
        have hq := hb q rfl
        refine ⟨fun y => absurd y (en_ne (by omega)), fun _ => ?_⟩
        refine (s_F_dist ha (by omega) (by omega)).mono fun r S1 ⟨e1, e2⟩ => ?_
        subst e1
        subst e2
        refine (s_F_dist ha (by omega) (by omega)).mono fun r S2 ⟨e1, e2⟩ => ?_
        subst e1
        subst e2
        have d1 : dst a p ≤ 999 := by unfold dst; split <;> omega
        have d2 : dst a q ≤ 999 := by unfold dst; split <;> omega
        rw [nI_leI (by omega) (by omega)]
        refine ⟨fun y => ih (p + 1) (some q) (by omega) (by omega) hb ?_, fun y => ?_⟩
        · rw [show nb a (some q) p = false from decide_eq_false (by omega), Bool.false_and, if_neg (by decide)] at hQ
          exact hQ
        · rw [show nb a (some q) p = true from decide_eq_true (by omega), Bool.true_and] at hQ
          refine (s_F_fits hk1 ht hL h99 z').mono fun r S3 ⟨e1, e2⟩ => ?_
          subst e1
          subst e2
          refine ⟨fun y => ih (p + 1) (some q) (by omega) (by omega) hb ?_, fun y => ih (p + 1) (some p) (by omega) (by omega) (fun q hq => by cases hq; omega) ?_⟩
          · rw [b2i_0.mp y, if_neg (by decide)] at hQ
            exact hQ
          · rw [b2i_1.mp y, if_pos rfl] at hQ
            exact hQ
theorem s_F_near {g : lp_G} {d : Nat} {S : SS} {k1 a p : Nat} {T : List Int32} {L : List (Int32 × Int32)} (hk1 : isT k1) (ht : tx S k1 T) (hL : hl S L) (h99 : (oldL L).length ≤ 99) (ha : S.1 119 2 = nI a) (ha9 : a ≤ 99) (hp : p ≤ T.length) : MtI g um_F_nearestPlace (d + 2) [.ref (g.2.1 + 122), .ref (g.2.1 + k1), .int (nI p)] S (fun r S' => S' = S ∧ r = en (npl T (oldL L) a p)) := by
  have tl := ht.1
  exact f_F_nearestPlace hk1 (s_F_near_loop hk1 ht hL h99 ha ha9 25 p none (by omega) (by omega) (fun q hq => by cases hq) ⟨rfl, rfl⟩)
theorem s_F_new_loop {g : lp_G} {d : Nat} {Q : SS → Prop} {L : List (Int32 × Int32)} (h99 : (newL L).length ≤ 99) : ∀ (n j : Nat) (S : SS) (acc : List Int32), (newL L).length - j = n → j ≤ (newL L).length → S.1 119 8 = nI (newL L).length → (∀ j, j < (newL L).length → S.2 121 j = (newL L).getD j 0) → tx S 123 acc → (∀ S', tx S' 123 ((acc ++ sl (newL L) j (newL L).length).take 24) → off (tp 123) S S' → Q S') → AtV g um_F_appendNewLines (d + 1) Q 2 [(0, .ref (g.2.1 + 122)), (1, .int (nI j))] [] S := by
  intro n
  induction n with
  | zero =>
    intro j S acc hn hj h8 h1 ht hQ
    have ej : j = (newL L).length := by omega
    subst ej
    refine f_F_appendNewLines_2 ⟨fun _ => hQ S ?_ off.re, fun z => absurd (by rw [h8]; exact nI_le (Nat.le_refl _) (by omega)) z⟩
    rw [sl_self, List.append_nil, List.take_of_length_le ht.1]
    exact ht
  | succ n ih =>
    intro j S acc hn hj h8 h1 ht hQ
    refine f_F_appendNewLines_2 ⟨fun z => absurd (by rw [h8] at z; exact z) (nI_ge (by omega) (by omega)), fun _ => ⟨vp_in_nI (by omega) (by omega), ?_⟩⟩
    rw [nI_clamp (by omega), h1 j (by omega), nI_1]
    refine (s_T_append (show isT 123 from ⟨sh_123, sh_124⟩) ht).mono fun S1 ⟨a1, o1⟩ => ?_
    refine ih (j + 1) S1 _ (by omega) (by omega) (by rw [(o1 119 (by unfold tp; omega)).1]; exact h8) (by rw [(o1 121 (by unfold tp; omega)).2]; exact h1) a1 fun S2 c1 c2 => hQ S2 ?_ (o1.tr c2)
    rw [tk_tk] at c1
    rw [sl_cons (by omega) (Nat.le_refl _)]
    simpa using c1
theorem s_F_new {g : lp_G} {d : Nat} {S : SS} {L : List (Int32 × Int32)} {acc : List Int32} (h99 : (newL L).length ≤ 99) (hL : hl S L) (ht : tx S 123 acc) : MtV g um_F_appendNewLines (d + 1) [.ref (g.2.1 + 122)] S (fun S' => tx S' 123 ((acc ++ newL L).take 24) ∧ off (tp 123) S S') := by
  refine f_F_appendNewLines (s_F_new_loop h99 _ 0 S acc rfl (Nat.zero_le _) hL.2.1 hL.2.2.2 ht fun S' c1 c2 => ⟨?_, c2⟩)
  rw [sl_all] at c1
  exact c1
theorem ad_sb (x y z : Int32) : x + (y - z) = x + y - z := by
  rw [Int32.sub_eq_add_neg, Int32.sub_eq_add_neg, Int32.add_assoc]
def fo : Nat → Prop := fun q => 119 ≤ q ∧ q ≤ 124
theorem s_F_patch_loop {g : lp_G} {d : Nat} {Q : Int32 → SS → Prop} {t : Nat} {T l : List Int32} (ht4 : t < 4) : ∀ (f i k fr tot : Nat) (Hs : List HK) (S : SS) (acc : List Int32), rd S l i → l.length ≤ i + f → k ≤ i → hks l f i = .ok Hs → fr ≤ T.length → tot = acc.length + (T.length - fr) → tot ≤ 24 → tx S (143 + 2 * t) T → tx S 123 acc → (∀ e S', plc T Hs fr tot k = .error e → off fo S S' → Q ((-3) - nI e) S') → (∀ ps S' S2, plc T Hs fr tot k = .ok ps → off fo S S' → tx S2 (143 + 2 * t) (acc ++ bld T Hs ps fr) → off (tp (143 + 2 * t)) S' S2 → Q (nI (k + Hs.length)) S2) → AtI g um_F_patch (d + 5) Q 25 [(0, .ref (g.2.1 + 122)), (1, .ref (g.2.1 + (143 + 2 * t))), (2, .int (nI k)), (3, .int (nI fr)), (4, .int (nI tot))] [] S := by
  have hk1 := isT_t ht4
  have i3 : isT 123 := ⟨sh_123, sh_124⟩
  have n1 : tne 123 (143 + 2 * t) := ⟨by unfold tp; omega, by unfold tp; omega⟩
  have n2 : tne (143 + 2 * t) 123 := ⟨by unfold tp; omega, by unfold tp; omega⟩
  have fin : ∀ (k fr tot : Nat) (S : SS) (acc : List Int32), fr ≤ T.length → tot = acc.length + (T.length - fr) → tot ≤ 24 → tx S (143 + 2 * t) T → tx S 123 acc → (∀ ps S' S2, plc T [] fr tot k = .ok ps → off fo S S' → tx S2 (143 + 2 * t) (acc ++ bld T [] ps fr) → off (tp (143 + 2 * t)) S' S2 → Q (nI (k + ([] : List HK).length)) S2) → MtV g um_T_appendPart (d + 4) [.ref (g.2.1 + 123), .ref (g.2.1 + (143 + 2 * t)), .int (nI fr), .int (S.1 (143 + 2 * t) 1)] S (fun S5 => MtV g um_T_become (d + 4) [.ref (g.2.1 + (143 + 2 * t)), .ref (g.2.1 + 123)] S5 (fun S7 => Q (nI k) S7)) := by
    intro k fr tot S acc hf e1 e2 x1 x2 hQ
    rw [x1.2.1]
    refine (s_T_appendPart i3 hk1 n1 hf (Nat.le_refl _) x2 x1).mono fun S5 ⟨a5, o5⟩ => ?_
    rw [List.take_of_length_le (by rw [List.length_append, sl_len (Nat.le_refl _)]; omega)] at a5
    refine (s_T_become hk1 i3 n2 a5).mono fun S7 ⟨a7, o7⟩ => ?_
    exact hQ [] S5 S7 rfl (o5.mo fun q z => by unfold tp at z; unfold fo; omega) a7 o7
  intro f
  induction f with
  | zero =>
    intro i k fr tot Hs S acc hr hf hk hh hfr e1 e2 x1 x2 hE hQ
    cases hh
    refine f_F_patch_25 hk1 ⟨fun _ => fin k fr tot S acc hfr e1 e2 x1 x2 hQ, fun _ => (s_D_hasMore hr).mono fun r S1 ⟨w0, w⟩ => ?_⟩
    subst w0
    rcases w with ⟨w1, w2⟩ | ⟨w1, w2⟩
    · exact ⟨fun _ => fin k fr tot S1 acc hfr e1 e2 x1 x2 hQ, fun z => absurd w1 z⟩
    · exact absurd hf (by omega)
  | succ f ih =>
    intro i k fr tot Hs S acc hr hf hk hh hfr e1 e2 x1 x2 hE hQ
    have hl9 := hr.1.1
    have hi9 := hr.2.2
    by_cases hi : l.length ≤ i
    · rw [hks, if_pos hi] at hh
      cases hh
      refine f_F_patch_25 hk1 ⟨fun _ => fin k fr tot S acc hfr e1 e2 x1 x2 hQ, fun _ => (s_D_hasMore hr).mono fun r S1 ⟨w0, w⟩ => ?_⟩
      subst w0
      rcases w with ⟨w1, w2⟩ | ⟨w1, w2⟩
      · exact ⟨fun _ => fin k fr tot S1 acc hfr e1 e2 x1 x2 hQ, fun z => absurd w1 z⟩
      · exact absurd hi w2
    · rw [hks, if_neg hi] at hh
      refine f_F_patch_25 hk1 ⟨fun z => absurd z (nI_ge (by omega) (by omega)), fun _ => (s_D_hasMore hr).mono fun r S1 ⟨w0, w⟩ => ?_⟩
      subst w0
      rcases w with ⟨w1, w2⟩ | ⟨w1, w2⟩
      · exact absurd w2 hi
      refine ⟨fun z => absurd (w1.symm.trans z) (by decide), fun _ => ?_⟩
      refine (s_D_hunk hr).mono fun r S2 ⟨o2, w⟩ => ?_
      rcases w with ⟨a, p, L, q, v1, v2, v3, v4, v5⟩ | ⟨e, v1, v2, v3⟩
      rotate_left
      · rw [v1] at hh; cases hh
      refine ⟨fun z => absurd (v2.symm.trans z) (by decide), fun _ => ?_⟩
      have hb := hnk_ok v1
      rw [v1] at hh
      dsimp only at hh
      cases hr2 : hks l f q with
      | error e => rw [hr2] at hh; cases hh
      | ok r' =>
        rw [hr2] at hh
        cases hh
        have o2' : off fo S1 S2 := (od_off o2).mo fun q z => by unfold dp at z; unfold fo; omega
        have y1 := x1.keep o2' (by unfold fo; omega) (by unfold fo; omega)
        have y2 : tx S2 123 acc := ⟨x2.1, by rw [o2.1 123 1 (by omega)]; exact x2.2.1, fun j hj => by rw [o2.2 124 (by simp [dp])]; exact x2.2.2 j hj⟩
        refine (s_F_near hk1 y1 v5 hb.2.2.2.2.1 v4 hb.1 hfr).mono fun r24 S3 ⟨u1, u2⟩ => ?_
        subst u1
        cases hp : npl T (oldL L) a fr with
        | none =>
          rw [hp] at u2
          exact ⟨fun _ => hE k S3 (plc_n (H := (a, p, L)) hp) o2', fun z => absurd u2 z⟩
        | some pl =>
          rw [hp] at u2
          have hin := npl_in hp
          have tl := y1.1
          subst u2
          refine ⟨fun z => absurd z (en_ne (by omega)), fun _ => ?_⟩
          rw [v5.1, v5.2.1, ad_sb, nI_add, pk_sub (by omega), nI_leI (by omega) (by omega)]
          refine ⟨fun z => ?_, fun z => hE k S3 (plc_f (H := (a, p, L)) hp z) o2'⟩
          have ps := plc_s (H := (a, p, L)) (r := r') (k := k) hp z
          dsimp only at ps
          refine (s_T_appendPart i3 hk1 n1 hin.1 (by omega) y2 y1).mono fun S4 ⟨a4, o4⟩ => ?_
          rw [List.take_of_length_le (by rw [List.length_append, sl_len (by omega)]; omega)] at a4
          have v5' : hl S4 L := by
            unfold hl
            rw [(o4 119 (by unfold tp; omega)).1, (o4 120 (by unfold tp; omega)).2, (o4 121 (by unfold tp; omega)).2]
            exact v5
          refine (s_F_new hb.2.2.2.2.2.1 v5' a4).mono fun S5 ⟨a5, o5⟩ => ?_
          rw [List.take_of_length_le (by rw [List.length_append, List.length_append, sl_len (by omega)]; omega)] at a5
          have o45 := o4.tr o5
          have oo : off fo S1 S5 := o2'.tr (o45.mo fun q z => by unfold tp at z; unfold fo; omega)
          rw [(o45 119 (by unfold tp; omega)).1, v5.1, nI_1]
          show AtI g um_F_patch (d + 5) Q 25 [(0, .ref (g.2.1 + 122)), (1, .ref (g.2.1 + (143 + 2 * t))), (2, .int (nI (k + 1))), (3, .int (nI pl + nI (oldL L).length)), (4, .int (nI (tot + (newL L).length - (oldL L).length)))] [] S5
          rw [nI_add]
          refine ih q (k + 1) (pl + (oldL L).length) (tot + (newL L).length - (oldL L).length) r' S5 _ ⟨v3.1.keep o45 (by unfold tp; omega) (by unfold tp; omega), by rw [(o45 119 (by unfold tp; omega)).1]; exact v3.2.1, v3.2.2⟩ (by omega) (by omega) hr2 (by omega) ?_ z (y1.keep o45 (by unfold tp; omega) (by unfold tp; omega)) a5 (fun e S' he o' => hE e S' ?_ (oo.tr o')) (fun ps' S' S2' he o' t' o'' => ?_)
          · rw [List.length_append, List.length_append, sl_len (by omega)]
            omega
          · rw [ps, he]
          · have := hQ (pl :: ps') S' S2' (by rw [ps, he]) (oo.tr o') (by simpa only [bld, List.append_assoc] using t') o''
            rw [show k + ((a, p, L) :: r').length = k + 1 + r'.length by simp only [List.length_cons]; omega] at this
            exact this
