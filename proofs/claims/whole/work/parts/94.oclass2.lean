/-! STANDING OUT: the class's pairs, ranks and anchors -/
theorem isOnly.congr {f f' : Nat → Int32} {x : Int32} {a b : Nat} {o : Option Nat} (h : isOnly f x a b o) (e : ∀ i, a ≤ i → i < b → f i = f' i) : isOnly f' x a b o := by
  cases o with
  | some j =>
    obtain ⟨h1, h2, h3, h4⟩ := h
    exact ⟨h1, h2, by rw [← e j h1 h2]; exact h3, fun i p1 p2 p3 => h4 i p1 p2 (by rw [e i p1 p2]; exact p3)⟩
  | none =>
    rintro ⟨j, h1, h2, h3, h4⟩
    exact h ⟨j, h1, h2, by rw [e j h1 h2]; exact h3, fun i p1 p2 p3 => h4 i p1 p2 (by rw [← e i p1 p2]; exact p3)⟩
theorem s_only {g : lp_G} {d : Nat} {S : SS} {k a b : Nat} {x : Int32} {l : List Int32} (hk : isT k) (ht : tx S k l) (hab : a ≤ b) (hb : b ≤ l.length) : MtI g um_T_onlyPlace d [.ref (g.2.1 + k), .int x, .int (nI a), .int (nI b)] S (fun r S' => S' = S ∧ r = en (onl (gf l) x a b)) := by
  have tl := ht.1
  refine (s_T_onlyPlace hk hab (by omega)).mono fun r S' ⟨e1, o, e2, e3⟩ => ⟨e1, ?_⟩
  have := (e2.congr (f' := gf l) fun i h1 h2 => ht.2.2 i (by omega)).uniq (onl_is (gf l) x hab)
  rw [e3, this]
theorem en_eq {o : Option Nat} {k : Nat} (hk : k < 2 ^ 31) (ho : ∀ r, o = some r → r < 2 ^ 31) : (en o = nI k ↔ o = some k) := by
  cases o with
  | none => exact ⟨fun z => absurd z.symm (en_ne hk), fun z => by cases z⟩
  | some r => exact ⟨fun z => by rw [(nI_eq (ho r rfl) hk).mp z], fun z => by cases z; rfl⟩
section OC2
variable {g : lp_G} {xs ys : List Int32} {c i p j q : Nat}
/-- pairs so far -/
def prA (S : SS) (pq : Nat → Option Nat) (a n : Nat) : Prop := ∀ k r, k < n → pq (a + k) = some r → S.2 38 (pcF pq a k) = nI (a + k) ∧ S.2 39 (pcF pq a k) = nI r
def rkA (S : SS) (pq : Nat → Option Nat) (a N n : Nat) : Prop := ∀ k r, k < n → pq (a + k) = some r → S.2 40 (pcF pq a k) = nI (rkT pq a N (a + k))
def q389 : Nat → Prop := fun z => z = 36 ∨ z = 38 ∨ z = 39
theorem s_O_pairs_loop {d : Nat} {Q : SS → Prop} {pf : Nat → Option Nat} (hc : c < 49) (hip : i ≤ p) (hp : p ≤ xs.length) (hjq : j ≤ q) (hq : q ≤ ys.length) : ∀ (m n : Nat) (S : SS), p - i - n = m → n ≤ p - i → cm S 2 xs ys pf → rg S (41 + 1 * c) i p j q → S.1 36 6 = nI (pcF (pqf (gf xs) (gf ys) i p j q) i n) → prA S (pqf (gf xs) (gf ys) i p j q) i n → (∀ S', S'.1 36 6 = nI (pcF (pqf (gf xs) (gf ys) i p j q) i (p - i)) → prA S' (pqf (gf xs) (gf ys) i p j q) i (p - i) → off q389 S S' → S'.1 36 2 = S.1 36 2 → Q S') → AtV g um_O_findPairs (d + 1) Q 10 [(0, .ref (g.2.1 + 36)), (1, .ref (g.2.1 + 2)), (2, .ref (g.2.1 + (41 + 1 * c))), (3, .int (nI (i + n)))] [] S := by
  have hk2 : isR (41 + 1 * c) := sr_37 c hc
  intro m
  induction m with
  | zero =>
    intro n S hm hn hc' hr h6 hpr hQ
    have l1 := hc'.1.1
    have en' : n = p - i := by omega
    subst en'
    exact f_O_findPairs_10 ic2 hk2 ⟨fun _ => hQ S h6 hpr off.re rfl, fun z => absurd (by rw [hr.2.1]; exact nI_le (by omega) (by omega)) z⟩
  | succ m ih =>
    intro n S hm hn hc' hr h6 hpr hQ
    have l1 := hc'.1.1
    have l2 := hc'.2.1.1
    have pl := pc_le (pq := pqf (gf xs) (gf ys) i p j q) (a := i) n
    refine f_O_findPairs_10 ic2 hk2 ⟨fun z => absurd (by rw [hr.2.1] at z; exact z) (nI_ge (by omega) (by omega)), fun _ => ⟨vp_in_nI (by omega) (by omega), ?_⟩⟩
    rw [nI_clamp (by omega), hc'.1.2.2 (i + n) (by omega), hr.2.2.1, hr.2.2.2, nI_1]
    refine (s_only (k := 5) ic2.y hc'.2.1 hjq hq).mono fun r5 S4 ⟨e1, e2⟩ => ?_
    subst e1
    have epq : pqf (gf xs) (gf ys) i p j q (i + n) = match onl (gf ys) (xs.getD (i + n) 0) j q with
      | none => none
      | some r => if onl (gf xs) (xs.getD (i + n) 0) i p = some (i + n) then some r else none := rfl
    have skip : pqf (gf xs) (gf ys) i p j q (i + n) = none → AtV g um_O_findPairs (d + 1) Q 10 [(0, .ref (g.2.1 + 36)), (1, .ref (g.2.1 + 2)), (2, .ref (g.2.1 + (41 + 1 * c))), (3, .int (nI (i + n + 1)))] [] S4 := fun hn0 => by
      refine ih (n + 1) S4 (by omega) (by omega) hc' hr (by rw [pcF, hn0]; exact h6) (fun k r hk hkr => ?_) hQ
      by_cases ek : k = n
      · subst ek; rw [hn0] at hkr; cases hkr
      · exact hpr k r (by omega) hkr
    cases ho : onl (gf ys) (xs.getD (i + n) 0) j q with
    | none =>
      rw [ho] at e2 epq
      exact ⟨fun _ => skip epq, fun z => absurd e2 z⟩
    | some r =>
      rw [ho] at e2 epq
      have hin := onl_is (gf ys) (xs.getD (i + n) 0) hjq
      rw [ho] at hin
      have rlt : r < q := hin.2.1
      dsimp only at epq
      subst e2
      refine ⟨fun z => absurd z (en_ne (by omega)), fun _ => ?_⟩
      rw [hr.1, hr.2.1]
      refine (s_only (k := 3) ic2.x hc'.1 hip hp).mono fun r8 S7 ⟨e1, e2⟩ => ?_
      subst e1
      subst e2
      have hin2 := onl_is (gf xs) (xs.getD (i + n) 0) hip
      rw [en_eq (by omega) (fun r hr2 => by rw [hr2] at hin2; have := hin2.2.1; omega)]
      refine ⟨fun z => skip (by rw [epq, if_neg z]), fun z => ?_⟩
      rw [if_pos z] at epq
      rw [h6, nI_clamp (by omega)]
      refine ⟨vp_in_nI (by omega) (by omega), ?_⟩
      rintro S11 rfl
      rw [setA_1, h6, nI_clamp (by omega)]
      refine ⟨vp_in_nI (by omega) (by omega), ?_⟩
      rintro S13 rfl S14 rfl
      rw [setA_1, setA_1, h6, nI_1]
      have o : off q389 S7 (setI (setA (setA S7 38 (pcF (pqf (gf xs) (gf ys) i p j q) i n) (nI (i + n))) 39 (pcF (pqf (gf xs) (gf ys) i p j q) i n) (en (some r))) 36 6 (nI (pcF (pqf (gf xs) (gf ys) i p j q) i n + 1))) := ((off_A (by simp [q389])).tr (off_A (by simp [q389]))).tr (off_I (by simp [q389]))
      refine ih (n + 1) _ (by omega) (by omega) (hc'.keep o (fun z y => by unfold cp at y; unfold q389; omega)) (hr.keep o (by unfold q389; omega)) ?_ (fun k r' hk hkr => ?_) fun S' b1 b2 b3 b4 => hQ S' b1 b2 (o.tr b3) (by rw [b4, setI_o (by omega)]; rfl)
      · rw [setI_s, pcF, epq]; rfl
      · rw [setI_2]
        by_cases ek : k = n
        · subst ek
          rw [epq] at hkr
          cases hkr
          rw [setA_o (by omega), setA_s, setA_s]
          exact ⟨rfl, rfl⟩
        · have lt := pc_lt (pq := pqf (gf xs) (gf ys) i p j q) (a := i) (show k < n by omega) hkr
          rw [setA_o (by omega), setA_o (by omega), setA_o (by omega)]
          exact hpr k r' (by omega) hkr
end OC2
section OC3
variable {g : lp_G} {pq : Nat → Option Nat} {a N : Nat}
theorem s_O_rank_inner {d : Nat} {Q : Int32 → SS → Prop} {S : SS} {n r gm : Nat} (hN : N ≤ 24) (hn : n < N) (hpn : pq (a + n) = some r) (hb : ∀ k r, pq k = some r → r < 24) (hpr : prA S pq a N) (hrk : rkA S pq a N n) (hrl : ∀ k, rkT pq a N k ≤ 24) (hK : ∀ S4 : SS, S4 = setA S 40 (pcF pq a n) (nI (rkT pq a N (a + n))) → AtI g um_O_rankPairs (d + 1) Q 4 [(0, .ref (g.2.1 + 36)), (1, .int (nI (if gm < rkT pq a N (a + n) then rkT pq a N (a + n) else gm))), (2, .int (nI (pcF pq a n + 1)))] [] S4) (hgm : gm ≤ 24) : ∀ (m k : Nat), n - k = m → k ≤ n → AtI g um_O_rankPairs (d + 1) Q 17 [(0, .ref (g.2.1 + 36)), (1, .int (nI gm)), (2, .int (nI (pcF pq a n))), (3, .int (nI (bsF pq a (rkT pq a N) k r))), (4, .int (nI (pcF pq a k)))] [] S := by
  have pn := pc_le (pq := pq) (a := a) n
  have rn := hb _ _ hpn
  intro m
  induction m with
  | zero =>
    intro k hm hk
    have ek : k = n := by omega
    subst ek
    have e := rk_some hn hpn
    refine f_O_rankPairs_17 ⟨fun _ => ⟨vp_in_nI (by omega) (by omega), ?_⟩, fun z => absurd (nI_le (Nat.le_refl _) (by omega)) z⟩
    rw [nI_clamp (by omega), nI_1, nI_1, ← e]
    rintro S4 e4
    refine ⟨vp_in_nI (by omega) (by omega), ?_⟩
    have r4 : S4.2 40 (pcF pq a k) = nI (rkT pq a N (a + k)) := by rw [e4, setA_s]
    have := hrl (a + k)
    rw [r4]
    have hk4 := hK S4 e4
    by_cases c : gm < rkT pq a N (a + k)
    · rw [if_pos (nI_lt c (by omega))]
      rw [if_pos c] at hk4
      exact hk4
    · rw [if_neg (nI_nlt (by omega) (by omega))]
      rw [if_neg c] at hk4
      exact hk4
  | succ m ih =>
    intro k hm hk
    have nx := ih (k + 1) (by omega) (by omega)
    rw [bsF, pcF] at nx
    cases hp : pq (a + k) with
    | none =>
      rw [hp] at nx
      exact nx
    | some r' =>
      rw [hp] at nx
      dsimp only at nx
      have lt := pc_lt (pq := pq) (a := a) (show k < n by omega) hp
      have rr := hb _ _ hp
      refine f_O_rankPairs_17 ⟨fun z => absurd z (nI_ge (by omega) (by omega)), fun _ => ⟨vp_in_nI (by omega) (by omega), vp_in_nI (by omega) (by omega), ?_⟩⟩
      rw [nI_clamp (by omega), nI_clamp (by omega), (hpr n r hn hpn).2, (hpr k r' (by omega) hp).2, hrk k r' (by omega) hp, nI_leI (by omega) (by omega), nI_1]
      have rk1 := hrl (a + k)
      have bs : bsF pq a (rkT pq a N) k r ≤ 24 := by
        by_cases c : 0 < bsF pq a (rkT pq a N) k r
        · obtain ⟨k0, r0, g1, g2, g3, g4⟩ := bsF_ex (pq := pq) (a := a) (rk := rkT pq a N) (j := r) k c
          have := hrl (a + k0)
          omega
        · omega
      refine ⟨fun z => ?_, fun z => ⟨vp_in_nI (by omega) (by omega), ?_⟩⟩
      · rw [if_neg (by omega)] at nx
        exact nx
      · by_cases c : bsF pq a (rkT pq a N) k r < rkT pq a N (a + k)
        · rw [if_pos ⟨by omega, c⟩] at nx
          rw [if_pos (nI_lt c (by omega))]
          exact nx
        · rw [if_neg (fun w => c w.2)] at nx
          rw [if_neg (nI_nlt (by omega) (by omega))]
          exact nx
theorem gm_le {N : Nat} (hrl : ∀ m k, m ≤ N → rkT pq a m k ≤ 24) : ∀ n, n ≤ N → gmF pq a n ≤ 24
  | 0, _ => by simp [gmF]
  | n + 1, h => by
    have h1 := gm_le hrl n (by omega)
    have h2 := hrl (n + 1) (a + n) h
    rw [gmF]
    split <;> omega
theorem rkT_le (pq : Nat → Option Nat) (a : Nat) : ∀ m k, rkT pq a m k ≤ m
  | 0, _ => Nat.le_refl _
  | m + 1, k => by
    have h1 := rkT_le pq a m
    rw [rkT]
    split
    · split
      · omega
      · rename_i r _
        have : bsF pq a (rkT pq a m) m r ≤ m := by
          by_cases c : 0 < bsF pq a (rkT pq a m) m r
          · obtain ⟨k0, r0, g1, g2, g3, g4⟩ := bsF_ex (pq := pq) (a := a) (rk := rkT pq a m) (j := r) m c
            have := h1 (a + k0)
            omega
          · omega
        omega
    · have := h1 k
      omega
theorem s_O_rank_loop {d : Nat} {Q : Int32 → SS → Prop} (hN : N ≤ 24) (hb : ∀ k r, pq k = some r → r < 24) : ∀ (m n : Nat) (S : SS), N - n = m → n ≤ N → S.1 36 6 = nI (pcF pq a N) → prA S pq a N → rkA S pq a N n → (∀ S', rkA S' pq a N N → off (fun z => z = 40) S S' → Q (nI (gmF pq a N)) S') → AtI g um_O_rankPairs (d + 1) Q 4 [(0, .ref (g.2.1 + 36)), (1, .int (nI (gmF pq a n))), (2, .int (nI (pcF pq a n)))] [] S := by
  have hrl : ∀ m k, m ≤ N → rkT pq a m k ≤ 24 := fun m k hm => by have := rkT_le pq a m k; omega
  intro m
  induction m with
  | zero =>
    intro n S hm hn h6 hpr hrk hQ
    have en' : n = N := by omega
    subst en'
    have pl := pc_le (pq := pq) (a := a) n
    exact f_O_rankPairs_4 ⟨fun _ => hQ S hrk off.re, fun z => absurd (by rw [h6]; exact nI_le (Nat.le_refl _) (by omega)) z⟩
  | succ m ih =>
    intro n S hm hn h6 hpr hrk hQ
    have pl := pc_le (pq := pq) (a := a) N
    have nx : ∀ S', rkA S' pq a N (n + 1) → off (fun z => z = 40) S S' → AtI g um_O_rankPairs (d + 1) Q 4 [(0, .ref (g.2.1 + 36)), (1, .int (nI (gmF pq a (n + 1)))), (2, .int (nI (pcF pq a (n + 1))))] [] S' := fun S' hr' o' => by
      refine ih (n + 1) S' (by omega) (by omega) (by rw [(o' 36 (by omega)).1]; exact h6) (fun k r hk hkr => ?_) hr' fun S2 a2 o2 => hQ S2 a2 (o'.tr o2)
      rw [(o' 38 (by omega)).2, (o' 39 (by omega)).2]
      exact hpr k r hk hkr
    cases hp : pq (a + n) with
    | none =>
      have := nx S (fun k r hk hkr => by
        by_cases ek : k = n
        · subst ek; rw [hp] at hkr; cases hkr
        · exact hrk k r (by omega) hkr) off.re
      rw [gmF, pcF, hp, rk_none (by omega) hp, if_neg (by omega)] at this
      exact this
    | some r =>
      have lt := pc_lt (pq := pq) (a := a) (show n < N by omega) hp
      refine f_O_rankPairs_4 ⟨fun z => absurd (by rw [h6] at z; exact z) (nI_ge lt (by omega)), fun _ => ?_⟩
      refine s_O_rank_inner hN (by omega) hp hb hpr hrk (fun k => hrl N k (Nat.le_refl _)) (fun S4 e4 => ?_) (gm_le hrl n (by omega)) n 0 (by omega) (by omega)
      have o4 : off (fun z => z = 40) S S4 := by subst e4; exact off_A rfl
      have := nx S4 (fun k r' hk hkr => by
        rw [e4]
        by_cases ek : k = n
        · subst ek; exact setA_s
        · have lt2 := pc_lt (pq := pq) (a := a) (show k < n by omega) hkr
          rw [setA_o (by omega)]
          exact hrk k r' (by omega) hkr) o4
      rw [gmF, pcF, hp, ← rkT_eq (n := n + 1) (m := N) (k := a + n) (by omega) (by omega)] at this
      exact this
def g0 : RG := (0, 0, 0, 0)
def nel (l : List RG) : List RG := l.filter (fun r => decide (gl r < gA r ∧ gb r < gB r))
theorem nel_cons {r : RG} {t : List RG} : nel (r :: t) = nel [r] ++ nel t := by
  unfold nel
  rw [← List.filter_append]
  rfl
def que (S : SS) (nx : Nat) (L : List RG) : Prop := L.length ≤ 49 ∧ S.1 36 2 = nI L.length ∧ ∀ t, nx ≤ t → t < L.length → rgG S (41 + 1 * t) (L.getD t g0)
theorem que.keep {S S' : SS} {nx : Nat} {L : List RG} {o : Nat → Prop} (h : que S nx L) (ho : off o S S') (h2 : S'.1 36 2 = S.1 36 2) (hp : ∀ t, nx ≤ t → t < L.length → ¬ o (41 + 1 * t)) : que S' nx L := by
  refine ⟨h.1, by rw [h2]; exact h.2.1, fun t h1 h3 => ?_⟩
  have := h.2.2 t h1 h3
  unfold rgG at this ⊢
  exact this.keep ho (hp t h1 h3)
theorem s_O_keep {d : Nat} {S : SS} {nx : Nat} {L : List RG} {x xe y ye : Nat} (h : que S nx L) (hl : L.length + (nel [(x, xe, y, ye)]).length ≤ 49) (h1 : x < 2 ^ 31) (h2 : xe < 2 ^ 31) (h3 : y < 2 ^ 31) (h4 : ye < 2 ^ 31) : MtV g um_O_keepForLater (d + 1) [.ref (g.2.1 + 36), .int (nI x), .int (nI xe), .int (nI y), .int (nI ye)] S (fun S' => que S' nx (L ++ nel [(x, xe, y, ye)]) ∧ off (fun z => z = 36 ∨ (z = 41 + 1 * L.length ∧ L.length < 49)) S S' ∧ S'.1 36 6 = S.1 36 6) := by
  have no : ¬ (x < xe ∧ y < ye) → nel [(x, xe, y, ye)] = [] := fun hz => by
    unfold nel
    rw [List.filter_cons, decide_eq_false (show ¬ (gl (x, xe, y, ye) < gA (x, xe, y, ye) ∧ gb (x, xe, y, ye) < gB (x, xe, y, ye)) from hz)]
    rfl
  have ys : (x < xe ∧ y < ye) → nel [(x, xe, y, ye)] = [(x, xe, y, ye)] := fun hz => by
    unfold nel
    rw [List.filter_cons, decide_eq_true (show gl (x, xe, y, ye) < gA (x, xe, y, ye) ∧ gb (x, xe, y, ye) < gB (x, xe, y, ye) from hz)]
    rfl
  refine f_O_keepForLater ?_
  rw [nI_leI h2 h1, nI_leI h4 h3]
  have emp : ¬ (x < xe ∧ y < ye) → (que S nx (L ++ nel [(x, xe, y, ye)]) ∧ off (fun z => z = 36 ∨ (z = 41 + 1 * L.length ∧ L.length < 49)) S S ∧ S.1 36 6 = S.1 36 6) := fun hz => by
    rw [no hz, List.append_nil]
    exact ⟨h, off.re, rfl⟩
  refine ⟨fun z => emp (by omega), fun z => ⟨fun w => emp (by omega), fun w => ?_⟩⟩
  have hz : x < xe ∧ y < ye := by omega
  rw [ys hz] at hl ⊢
  have hl' : L.length < 49 := by simp at hl; omega
  rw [h.2.1]
  refine ⟨fun v => absurd v (nI_ge hl' (by omega)), fun _ => ⟨vp_in_nI hl' (by omega), ?_⟩⟩
  rw [nI_clamp (by omega)]
  refine (s_R_span (sr_37 L.length hl')).mono fun S5 ⟨a5, o5⟩ => ?_
  rintro S7 rfl
  have o7 : off (fun z => z = 36) S5 (setI S5 36 2 (S5.1 36 2 + 1)) := off_I rfl
  refine ⟨⟨by simp; omega, ?_, fun t t1 t2 => ?_⟩, (o5.mo fun z y => Or.inr ⟨y, hl'⟩).tr (o7.mo fun z y => Or.inl y), ?_⟩
  · rw [setI_s, (o5 36 (by omega)).1, h.2.1, nI_1, List.length_append]; rfl
  · by_cases e : t = L.length
    · subst e
      rw [show (L ++ [(x, xe, y, ye)]).getD L.length g0 = (x, xe, y, ye) by simp [List.getD_eq_getElem?_getD]]
      exact a5.keep o7 (by omega)
    · have t2' : t < L.length := by simp at t2; omega
      rw [show (L ++ [(x, xe, y, ye)]).getD t g0 = L.getD t g0 by simp [List.getD_eq_getElem?_getD, List.getElem?_append_left t2']]
      have := h.2.2 t t1 t2'
      unfold rgG at this ⊢
      exact (this.keep o5 (by omega)).keep o7 (by omega)
  · rw [setI_o (by omega), (o5 36 (by omega)).1]
theorem amF_lt {rk : Nat → Nat} : ∀ (n w q v : Nat), amF pq rk a n w q = some v → a ≤ q ∧ q < a + n := by
  intro n
  induction n with
  | zero => intro w q v h; cases h
  | succ n ih =>
    intro w q v h
    rw [amF] at h
    cases hp : pq (a + n) with
    | none =>
      rw [hp] at h
      have := ih _ _ _ h; omega
    | some r =>
      rw [hp] at h
      dsimp only at h
      by_cases c : rk (a + n) = w ∧ 0 < w
      · rw [if_pos c] at h
        unfold upf at h
        split at h
        · omega
        · have := ih _ _ _ h; omega
      · rw [if_neg c] at h
        have := ih _ _ _ h; omega
def aq (c : Nat) : Nat → Prop := fun z => pp 2 z ∨ z = 36 ∨ (41 + 1 * c < z ∧ z ≤ 89)
theorem s_O_anch_loop {d : Nat} {Q : SS → Prop} {xs ys : List Int32} {c j i1 j1 : Nat} (hc : c < 49) (hN : a + N ≤ xs.length) (hb : ∀ k r, pq k = some r → r < 24) : ∀ (n w eA eB : Nat) (S : SS) (pf : Nat → Option Nat) (L : List RG), n ≤ N → w ≤ 24 → eA ≤ 24 → eB ≤ 24 → j ≤ 24 → cm S 2 xs ys pf → rg S (41 + 1 * c) a i1 j j1 → que S (c + 1) L → c < L.length → prA S pq a N → rkA S pq a N N → (∀ z, a ≤ z → z < a + n → pf z = none) → L.length + (nel (anF pq (rkT pq a N) a j n w eA eB)).length ≤ 49 → (∀ S', cm S' 2 xs ys (ovr (amF pq (rkT pq a N) a n w) pf) → que S' (c + 1) (L ++ nel (anF pq (rkT pq a N) a j n w eA eB)) → off (aq c) S S' → Q S') → AtV g um_O_matchAnchors (d + 2) Q 23 [(0, .ref (g.2.1 + 36)), (1, .ref (g.2.1 + 2)), (2, .ref (g.2.1 + (41 + 1 * c))), (4, .int (nI w)), (5, .int (nI eA)), (6, .int (nI eB)), (7, .int (nI (pcF pq a n) + -1))] [] S := by
  have hk2 : isR (41 + 1 * c) := sr_37 c hc
  intro n
  induction n with
  | zero =>
    intro w eA eB S pf L hn hw hA hB hj hm hr hq hcl hpr hrk hnn hl hQ
    have l1 := hm.1.1
    refine f_O_matchAnchors_23 ic2 hk2 ⟨fun _ => ?_, fun z => absurd (show nI 0 + -1 < 0 by decide) z⟩
    rw [hr.1, hr.2.2.1]
    refine (s_O_keep hq hl (by omega) (by omega) (by omega) (by omega)).mono fun S2 ⟨a2, o2, _⟩ => ?_
    refine hQ S2 (hm.keep o2 (fun z y => by unfold cp at y; omega)) a2 (o2.mo fun z y => ?_)
    have y' : z = 36 ∨ (z = 41 + 1 * L.length ∧ L.length < 49) := y
    unfold aq
    omega
  | succ n ih =>
    intro w eA eB S pf L hn hw hA hB hj hm hr hq hcl hpr hrk hnn hl hQ
    have l1 := hm.1.1
    have pl := pc_le (pq := pq) (a := a) n
    rw [anF] at hl hQ
    rw [amF] at hQ
    cases hp : pq (a + n) with
    | none =>
      rw [hp] at hl hQ
      rw [pcF, hp]
      exact ih w eA eB S pf L (by omega) hw hA hB hj hm hr hq hcl hpr hrk (fun z h1 h2 => hnn z h1 (by omega)) hl hQ
    | some r =>
      rw [hp] at hl hQ
      dsimp only at hl hQ
      have rr := hb _ _ hp
      rw [pcF, hp]
      show AtV g um_O_matchAnchors (d + 2) Q 23 [(0, .ref (g.2.1 + 36)), (1, .ref (g.2.1 + 2)), (2, .ref (g.2.1 + (41 + 1 * c))), (4, .int (nI w)), (5, .int (nI eA)), (6, .int (nI eB)), (7, .int (nI (pcF pq a n + 1) + -1))] [] S
      rw [pk_m1]
      have vv : vp_in (nI (pcF pq a n)) 24 := vp_in_nI (by omega) (by omega)
      have rl := rkT_le pq a N (a + n)
      have rs := rk_some (show n < N by omega) hp
      refine f_O_matchAnchors_23 ic2 hk2 ⟨fun z => absurd z (nI_pos (by omega)), fun _ => ⟨vv, ?_⟩⟩
      rw [nI_clamp (by omega), hrk n r (by omega) hp, (hpr n r (by omega) hp).1, (hpr n r (by omega) hp).2, nI_eq (by omega) (by omega)]
      refine ⟨fun z => ?_, fun z => ⟨vv, vv, ?_⟩⟩
      · rw [if_neg (fun y => z y.1)] at hl hQ
        exact ih w eA eB S pf L (by omega) hw hA hB hj hm hr hq hcl hpr hrk (fun z h1 h2 => hnn z h1 (by omega)) hl (by rw [if_neg (fun y => z y.1)] at hQ; exact hQ)
      · have cnd : rkT pq a N (a + n) = w ∧ 0 < w := ⟨z, by omega⟩
        rw [if_pos cnd] at hl hQ
        rw [if_pos cnd] at hQ
        rw [nel_cons, List.length_append] at hl
        rw [nel_cons] at hQ
        refine (s_C_pair ic2 hm (by omega) (hnn (a + n) (by omega) (by omega))).mono fun S8 ⟨a8, o8⟩ => ⟨vv, vv, ?_⟩
        rw [(o8 38 (by unfold pp; omega)).2, (o8 39 (by unfold pp; omega)).2, (hpr n r (by omega) hp).1, (hpr n r (by omega) hp).2, nI_1, nI_1]
        have hq8 := hq.keep o8 (by rw [(o8 36 (by unfold pp; omega)).1]) (fun t _ _ => by unfold pp; omega)
        refine (s_O_keep hq8 (by omega) (by omega) (by omega) (by omega) (by omega)).mono fun S12 ⟨a12, o12, _⟩ => ⟨vv, vv, ?_⟩
        have o12' : ∀ z, z ≠ 36 → z ≠ 41 + 1 * L.length → S12.1 z = S8.1 z ∧ S12.2 z = S8.2 z := fun z h1 h2 => o12 z (by omega)
        rw [(o12' 38 (by omega) (by omega)).2, (o12' 39 (by omega) (by omega)).2, (o8 38 (by unfold pp; omega)).2, (o8 39 (by unfold pp; omega)).2, (hpr n r (by omega) hp).1, (hpr n r (by omega) hp).2, show nI w + -1 = nI (w - 1) from sb_m1 (by omega)]
        refine ih (w - 1) (a + n) r S12 _ _ (by omega) (by omega) (by omega) (by omega) hj (a8.keep o12 (fun z y => by unfold cp at y; omega)) ((hr.keep o8 (by unfold pp; omega)).keep o12 (by omega)) a12 (by rw [List.length_append]; omega) (fun k r' hk hkr => ?_) (fun k r' hk hkr => ?_) (fun z h1 h2 => ?_) (by rw [List.length_append]; omega) fun S' b1 b2 b3 => hQ S' ?_ ?_ ?_
        · rw [(o12' 38 (by omega) (by omega)).2, (o12' 39 (by omega) (by omega)).2, (o8 38 (by unfold pp; omega)).2, (o8 39 (by unfold pp; omega)).2]
          exact hpr k r' hk hkr
        · rw [(o12' 40 (by omega) (by omega)).2, (o8 40 (by unfold pp; omega)).2]
          exact hrk k r' hk hkr
        · show (if z = a + n then some r else pf z) = none
          rw [if_neg (by omega)]
          exact hnn z h1 (by omega)
        · rw [← ovr_up]
          · exact b1
          · cases e : amF pq (rkT pq a N) a n (w - 1) (a + n) with
            | none => rfl
            | some v => have := amF_lt _ _ _ _ e; omega
        · rw [← List.append_assoc]
          exact b2
        · refine ((o8.mo fun z y => Or.inl y).tr (o12.mo fun z y => ?_)).tr b3
          have y' : z = 36 ∨ (z = 41 + 1 * L.length ∧ L.length < 49) := y
          show pp 2 z ∨ z = 36 ∨ (41 + 1 * c < z ∧ z ≤ 89)
          omega
end OC3
