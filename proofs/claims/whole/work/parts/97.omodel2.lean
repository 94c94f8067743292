/-! STANDING OUT: the reference's ranks, anchors, and all ranges -/
def fr2 : Nat → Prop := fun q => q = 162 ∨ q = 163
section MR
variable {g : lp_G} {xs ys : List Int32} {i p j q : Nat}
/-- pairs and ranks so far -/
def prM (S : SS) (pq : Nat → Option Nat) (a N n : Nat) : Prop := ∀ k, k < n → S.2 162 (a + k) = em (pq (a + k)) ∧ S.2 163 (a + k) = nI (rkT pq a N (a + k))
theorem s_M_rk54 {d : Nat} {Q : Int32 → SS → Prop} {S : SS} {pq : Nat → Option Nat} {a N n r gm : Nat} (hN : a + N ≤ 24) (hn : n < N) (hpn : pq (a + n) = some r) (hb : ∀ k r, pq k = some r → r < 24) (hpr : prM S pq a N n) (h162 : S.2 162 (a + n) = nI r) (hgm : gm ≤ 24) {x2 x3 x4 : Int32} (hK : ∀ S12 : SS, S12 = setA S 163 (a + n) (nI (rkT pq a N (a + n))) → AtI g um_M_findRanks (d + 1) Q 6 [(0, .ref (g.2.1 + 151)), (1, .int (nI a)), (2, .int x2), (3, .int x3), (4, .int x4), (5, .int (nI (if gm < rkT pq a N (a + n) then rkT pq a N (a + n) else gm))), (6, .int (nI (a + n + 1)))] [] S12) : ∀ (m k : Nat), n - k = m → k ≤ n → AtI g um_M_findRanks (d + 1) Q 54 [(0, .ref (g.2.1 + 151)), (1, .int (nI a)), (2, .int x2), (3, .int x3), (4, .int x4), (5, .int (nI gm)), (6, .int (nI (a + n))), (7, .int (nI (bsF pq a (rkT pq a N) k r))), (8, .int (nI (a + k)))] [] S := by
  have hrl : ∀ k, rkT pq a N k ≤ 24 := fun k => by have := rkT_le pq a N k; omega
  have rn := hb _ _ hpn
  intro m
  induction m with
  | zero =>
    intro k hm hk
    have ek : k = n := by omega
    subst ek
    have e := rk_some hn hpn
    have r1 := hrl (a + k)
    refine f_M_findRanks_54 ⟨fun _ => ⟨vp_in_nI (by omega) (by omega), ?_⟩, fun z => absurd (nI_le (Nat.le_refl _) (by omega)) z⟩
    rw [nI_clamp (by omega), nI_1, nI_1, ← e, nI_leI (by omega) (by omega)]
    intro S12 e12
    have hk4 := hK S12 e12
    refine ⟨fun z => ?_, fun z => ?_⟩
    · rw [if_neg (by omega)] at hk4; exact hk4
    · rw [if_pos (by omega)] at hk4; exact hk4
  | succ m ih =>
    intro k hm hk
    have nx := ih (k + 1) (by omega) (by omega)
    rw [bsF] at nx
    have hk1 := hpr k (by omega)
    have rk1 := hrl (a + k)
    have vv : vp_in (nI (a + k)) 24 := vp_in_nI (by omega) (by omega)
    refine f_M_findRanks_54 ⟨fun z => absurd z (nI_ge (by omega) (by omega)), fun _ => ⟨vv, ?_⟩⟩
    rw [nI_clamp (by omega), nI_clamp (by omega), hk1.1, hk1.2, h162, nI_1]
    cases hp : pq (a + k) with
    | none =>
      rw [hp] at nx
      exact ⟨fun _ => nx, fun z => absurd (by decide) z⟩
    | some r' =>
      rw [hp] at nx
      dsimp only at nx
      have rr := hb _ _ hp
      have bs : bsF pq a (rkT pq a N) k r ≤ 24 := by
        by_cases c : 0 < bsF pq a (rkT pq a N) k r
        · obtain ⟨k0, r0, g1, g2, g3, g4⟩ := bsF_ex (pq := pq) (a := a) (rk := rkT pq a N) (j := r) k c
          have := hrl (a + k0)
          omega
        · omega
      refine ⟨fun z => absurd z (nI_pos (by omega)), fun _ => ⟨vv, vp_in_nI (by omega) (by omega), ?_⟩⟩
      show (nI r ≤ nI r' → _) ∧ (¬ nI r ≤ nI r' → _)
      rw [nI_leI (by omega) (by omega), nI_leI (by omega) (by omega)]
      refine ⟨fun z => ?_, fun z => ⟨vv, fun y => ?_, fun y => ⟨vv, ?_⟩⟩⟩
      · rw [if_neg (by omega)] at nx; exact nx
      · rw [if_neg (by omega)] at nx; exact nx
      · rw [if_pos (by omega)] at nx; exact nx
theorem s_M_ranks_loop {d : Nat} {Q : Int32 → SS → Prop} {pf : Nat → Option Nat} (hip : i ≤ p) (hp : p ≤ xs.length) (hjq : j ≤ q) (hq : q ≤ ys.length) : ∀ (m n : Nat) (S : SS), p - i - n = m → n ≤ p - i → cmM S xs ys pf → prM S (pqf (gf xs) (gf ys) i p j q) i (p - i) n → (∀ S', prM S' (pqf (gf xs) (gf ys) i p j q) i (p - i) (p - i) → om z1' fr2 S S' → Q (nI (gmF (pqf (gf xs) (gf ys) i p j q) i (p - i))) S') → AtI g um_M_findRanks (d + 1) Q 6 [(0, .ref (g.2.1 + 151)), (1, .int (nI i)), (2, .int (nI p)), (3, .int (nI j)), (4, .int (nI q)), (5, .int (nI (gmF (pqf (gf xs) (gf ys) i p j q) i n))), (6, .int (nI (i + n)))] [] S := by
  intro m
  induction m with
  | zero =>
    intro n S hm hn hc hpr hQ
    have l1 := hc.1
    have en' : n = p - i := by omega
    subst en'
    exact f_M_findRanks_6 ⟨fun _ => hQ S hpr om.re, fun z => absurd (nI_le (by omega) (by omega)) z⟩
  | succ m ih =>
    intro n S hm hn hc hpr hQ
    have l1 := hc.1
    have l2 := hc.2.1
    have hb : ∀ k r, pqf (gf xs) (gf ys) i p j q k = some r → r < 24 := fun k r hr => by have := (pqf_in hjq hr).2.1; omega
    have vv : vp_in (nI (i + n)) 24 := vp_in_nI (by omega) (by omega)
    refine f_M_findRanks_6 ⟨fun z => absurd z (nI_ge (by omega) (by omega)), fun _ => ?_⟩
    refine (s_M_partner hc (show i ≤ i + n by omega) (show i + n < p by omega) hp hjq hq).mono fun r3 S2 ⟨e1, e2⟩ => ⟨vv, ?_⟩
    subst e1
    subst e2
    rw [nI_clamp (by omega), nI_1]
    rintro S5 rfl
    refine ⟨vv, ?_⟩
    rintro S7 rfl
    refine ⟨vv, ?_⟩
    rw [setA_o (by omega), setA_s]
    have o7 : om z1' fr2 S2 (setA (setA S2 162 (i + n) (em (pqf (gf xs) (gf ys) i p j q (i + n)))) 163 (i + n) 0) := (om_A (Or.inl rfl)).tr (om_A (Or.inr rfl))
    have k7 : ∀ k, k < n → (setA (setA S2 162 (i + n) (em (pqf (gf xs) (gf ys) i p j q (i + n)))) 163 (i + n) 0).2 162 (i + k) = em (pqf (gf xs) (gf ys) i p j q (i + k)) ∧ (setA (setA S2 162 (i + n) (em (pqf (gf xs) (gf ys) i p j q (i + n)))) 163 (i + n) 0).2 163 (i + k) = nI (rkT (pqf (gf xs) (gf ys) i p j q) i (p - i) (i + k)) := fun k hk => by
      rw [setA_o (by omega), setA_o (by omega), setA_o (by omega), setA_o (by omega)]
      exact hpr k hk
    have c7 : cmM (setA (setA S2 162 (i + n) (em (pqf (gf xs) (gf ys) i p j q (i + n)))) 163 (i + n) 0) xs ys pf := hc.keep o7 (by simp [z1']) (by simp [z1']) (by simp [fr2]) (by simp [fr2]) (by simp [fr2])
    have a7 : (setA (setA S2 162 (i + n) (em (pqf (gf xs) (gf ys) i p j q (i + n)))) 163 (i + n) 0).2 162 (i + n) = em (pqf (gf xs) (gf ys) i p j q (i + n)) := by rw [setA_o (by omega), setA_s]
    have b7 : (setA (setA S2 162 (i + n) (em (pqf (gf xs) (gf ys) i p j q (i + n)))) 163 (i + n) 0).2 163 (i + n) = 0 := by rw [setA_s]
    generalize setA (setA S2 162 (i + n) (em (pqf (gf xs) (gf ys) i p j q (i + n)))) 163 (i + n) 0 = S7 at *
    have gml : gmF (pqf (gf xs) (gf ys) i p j q) i n ≤ 24 := gm_le (N := p - i) (fun m k hm => by have := rkT_le (pqf (gf xs) (gf ys) i p j q) i m k; omega) n (by omega)
    cases hpn : pqf (gf xs) (gf ys) i p j q (i + n) with
    | none =>
      rw [hpn] at a7
      have nx := ih (n + 1) S7 (by omega) (by omega) c7 (fun k hk => by
        by_cases e : k = n
        · subst e
          rw [a7, b7, hpn, rk_none (by omega) hpn]
          exact ⟨rfl, rfl⟩
        · exact k7 k (by omega)) fun S' b1 b2 => hQ S' b1 (o7.tr b2)
      rw [gmF, rk_none (by omega) hpn, if_neg (by omega)] at nx
      exact ⟨fun _ => nx, fun z => absurd (by decide) z⟩
    | some r =>
      rw [hpn] at a7
      have rr := hb _ _ hpn
      refine ⟨fun z => absurd z (nI_pos (by omega)), fun _ => ?_⟩
      refine s_M_rk54 (a := i) (N := p - i) (by omega) (show n < p - i by omega) hpn hb k7 a7 gml (fun S12 e12 => ?_) _ 0 rfl (Nat.zero_le _)
      have o12 : om z1' fr2 S7 S12 := by subst e12; exact om_A (Or.inr rfl)
      have nx := ih (n + 1) S12 (by omega) (by omega) (c7.keep o12 (by simp [z1']) (by simp [z1']) (by simp [fr2]) (by simp [fr2]) (by simp [fr2])) (fun k hk => by
        rw [e12]
        by_cases e : k = n
        · subst e
          rw [setA_o (by omega), setA_s, a7, hpn]
          exact ⟨rfl, rfl⟩
        · rw [setA_o (by omega), setA_o (by omega)]
          exact k7 k (by omega)) fun S' b1 b2 => hQ S' b1 ((o7.tr o12).tr b2)
      rw [gmF, ← rkT_eq (n := n + 1) (m := p - i) (k := i + n) (by omega) (by omega)] at nx
      exact nx
end MR
/-- the ranges that wait in the reference -/
def stk (S : SS) (W : List RG) : Prop := W.length ≤ 60 ∧ S.1 151 8 = nI W.length ∧ ∀ t, t < W.length → S.2 158 t = nI (gl (W.getD t g0)) ∧ S.2 159 t = nI (gA (W.getD t g0)) ∧ S.2 160 t = nI (gb (W.getD t g0)) ∧ S.2 161 t = nI (gB (W.getD t g0))
def aw1 : Nat → Prop := fun j => j = 8
def aw2 : Nat → Prop := fun q => 158 ≤ q ∧ q ≤ 161
theorem stk.keep {S S' : SS} {W : List RG} {fs ps : Nat → Prop} (h : stk S W) (o : om fs ps S S') (h1 : ¬ fs 8) (h2 : ∀ q, aw2 q → ¬ ps q) : stk S' W := by
  refine ⟨h.1, by rw [o.1 151 8 (fun z => h1 z.2)]; exact h.2.1, fun t ht => ?_⟩
  rw [o.2 158 (h2 _ (by unfold aw2; omega)), o.2 159 (h2 _ (by unfold aw2; omega)), o.2 160 (h2 _ (by unfold aw2; omega)), o.2 161 (h2 _ (by unfold aw2; omega))]
  exact h.2.2 t ht
theorem s_M_await {g : lp_G} {d : Nat} {S : SS} {W : List RG} {x xe y ye : Nat} (h : stk S W) (hl : W.length < 60) : MtV g um_M_await d [.ref (g.2.1 + 151), .int (nI x), .int (nI xe), .int (nI y), .int (nI ye)] S (fun S' => stk S' (W ++ [(x, xe, y, ye)]) ∧ om aw1 aw2 S S') := by
  have vv : vp_in (nI W.length) 60 := vp_in_nI hl (by omega)
  refine f_M_await ?_
  rw [h.2.1, nI_clamp (by omega)]
  refine ⟨vv, ?_⟩
  rintro S2 rfl
  rw [setA_1, h.2.1, nI_clamp (by omega)]
  refine ⟨vv, ?_⟩
  rintro S4 rfl
  rw [setA_1, setA_1, h.2.1, nI_clamp (by omega)]
  refine ⟨vv, ?_⟩
  rintro S6 rfl
  rw [setA_1, setA_1, setA_1, h.2.1, nI_clamp (by omega)]
  refine ⟨vv, ?_⟩
  rintro S8 rfl S9 rfl
  rw [setA_1, setA_1, setA_1, setA_1, h.2.1, nI_1]
  refine ⟨⟨by simp; omega, by rw [setI_s, List.length_append]; rfl, fun t ht => ?_⟩, ((((om_A (by simp [aw2])).tr (om_A (by simp [aw2]))).tr (om_A (by simp [aw2]))).tr (om_A (by simp [aw2]))).tr (om_I rfl)⟩
  rw [setI_2]
  by_cases e : t = W.length
  · subst e
    rw [show (W ++ [(x, xe, y, ye)]).getD W.length g0 = (x, xe, y, ye) by simp [List.getD_eq_getElem?_getD]]
    refine ⟨?_, ?_, ?_, ?_⟩
    · rw [setA_o (by omega), setA_o (by omega), setA_o (by omega), setA_s]; rfl
    · rw [setA_o (by omega), setA_o (by omega), setA_s]; rfl
    · rw [setA_o (by omega), setA_s]; rfl
    · rw [setA_s]; rfl
  · have ht' : t < W.length := by simp at ht; omega
    rw [show (W ++ [(x, xe, y, ye)]).getD t g0 = W.getD t g0 by simp [List.getD_eq_getElem?_getD, List.getElem?_append_left ht']]
    have := h.2.2 t ht'
    refine ⟨?_, ?_, ?_, ?_⟩
    · rw [setA_o (by omega), setA_o (by omega), setA_o (by omega), setA_o (by omega)]; exact this.1
    · rw [setA_o (by omega), setA_o (by omega), setA_o (by omega), setA_o (by omega)]; exact this.2.1
    · rw [setA_o (by omega), setA_o (by omega), setA_o (by omega), setA_o (by omega)]; exact this.2.2.1
    · rw [setA_o (by omega), setA_o (by omega), setA_o (by omega), setA_o (by omega)]; exact this.2.2.2
def an2 : Nat → Prop := fun q => q = 156 ∨ aw2 q
theorem s_M_so160 {g : lp_G} {d : Nat} {Q : SS → Prop} {xs ys : List Int32} {pq : Nat → Option Nat} {a b N : Nat} (hN : a + N ≤ xs.length) (hb : ∀ k r, pq k = some r → r < 24) : ∀ (n w eA eB : Nat) (S : SS) (pf : Nat → Option Nat) (W : List RG), n ≤ N → w ≤ 24 → cmM S xs ys pf → stk S W → prM S pq a N N → W.length + (anF pq (rkT pq a N) a b n w eA eB).length ≤ 60 → (∀ S', cmM S' xs ys (ovr (amF pq (rkT pq a N) a n w) pf) → stk S' (W ++ anF pq (rkT pq a N) a b n w eA eB) → om aw1 an2 S S' → Q S') → AtV g um_M_standOut (d + 1) Q 160 [(0, .ref (g.2.1 + 151)), (5, .int (nI a)), (6, .int (nI b)), (9, .int (nI w)), (10, .int (nI eA)), (11, .int (nI eB)), (12, .int (nI (a + n) + -1))] [] S := by
  intro n
  induction n with
  | zero =>
    intro w eA eB S pf W hn hw hm hs hpr hl hQ
    have l1 := hm.1
    refine f_M_standOut_160 ⟨fun _ => ?_, fun z => absurd (m1_lt (show a < 2 ^ 31 by omega)) z⟩
    have hl' : W.length < 60 := by have : W.length + 1 ≤ 60 := hl; omega
    refine (s_M_await hs hl').mono fun S2 ⟨a2, o2⟩ => ?_
    exact hQ S2 (hm.keep o2 (by simp [aw1]) (by simp [aw1]) (by simp [aw2]) (by simp [aw2]) (by simp [aw2])) a2 (o2.mo (fun _ z => z) (fun _ z => Or.inr z))
  | succ n ih =>
    intro w eA eB S pf W hn hw hm hs hpr hl hQ
    have l1 := hm.1
    have hk := hpr n (by omega)
    have rl := rkT_le pq a N (a + n)
    have vv : vp_in (nI (a + n)) 24 := vp_in_nI (by omega) (by omega)
    rw [anF] at hl hQ
    rw [amF] at hQ
    rw [show a + (n + 1) = (a + n) + 1 by omega, pk_m1]
    refine f_M_standOut_160 ⟨fun z => absurd z (nI_nlt (by omega) (by omega)), fun _ => ⟨vv, ?_⟩⟩
    rw [nI_clamp (by omega), hk.2, hk.1, nI_eq (by omega) (by omega), nI_1]
    cases hp : pq (a + n) with
    | none =>
      rw [hp] at hl hQ
      have r0 := rk_none (show n < N by omega) hp
      have nx := ih w eA eB S pf W (by omega) hw hm hs hpr hl hQ
      refine ⟨fun _ => nx, fun z => ⟨fun _ => nx, fun y => ?_⟩⟩
      exfalso
      rw [r0] at z
      subst z
      exact y (by decide)
    | some r =>
      rw [hp] at hl hQ
      dsimp only at hl hQ
      have rr := hb _ _ hp
      have rs := rk_some (show n < N by omega) hp
      refine ⟨fun z => ?_, fun z => ⟨fun y => ?_, fun _ => ⟨vv, vv, ?_⟩⟩⟩
      · rw [if_neg (fun y => z y.1)] at hl hQ
        rw [if_neg (fun y => z y.1)] at hQ
        exact ih w eA eB S pf W (by omega) hw hm hs hpr hl hQ
      · have := (nI_leI (a := w) (b := 0) (by omega) (by omega)).mp y
        omega
      · have cnd : rkT pq a N (a + n) = w ∧ 0 < w := ⟨z, by omega⟩
        rw [if_pos cnd] at hl hQ
        rw [if_pos cnd] at hQ
        rw [List.length_cons] at hl
        rintro S38 rfl
        show _ ∧ MtV g um_M_await d [.ref (g.2.1 + 151), .int (nI (a + n + 1)), .int (nI eA), .int ((setA S 156 (a + n) (nI r)).2 162 (a + n) + 1), .int (nI eB)] (setA S 156 (a + n) (nI r)) _
        have o38 : om aw1 an2 S (setA S 156 (a + n) (nI r)) := om_A (Or.inl rfl)
        have o38' : om z1' z56 S (setA S 156 (a + n) (nI r)) := om_A rfl
        refine ⟨vv, ?_⟩
        rw [setA_o (by omega), hk.1, hp]
        show MtV g um_M_await d [.ref (g.2.1 + 151), .int (nI (a + n + 1)), .int (nI eA), .int (nI r + 1), .int (nI eB)] (setA S 156 (a + n) (nI r)) _
        rw [nI_1]
        have hs38 := hs.keep o38' (by simp [z1']) (fun q z => by unfold aw2 at z; unfold z56; omega)
        refine (s_M_await hs38 (by omega)).mono fun S40 ⟨a40, o40⟩ => ⟨vv, ?_⟩
        have e162 : ∀ k, S40.2 162 k = S.2 162 k := fun k => by rw [o40.2 162 (by simp [aw2]), setA_o (by omega)]
        have e163 : ∀ k, S40.2 163 k = S.2 163 k := fun k => by rw [o40.2 163 (by simp [aw2]), setA_o (by omega)]
        rw [e162, hk.1, hp, show nI w + -1 = nI (w - 1) from sb_m1 (by omega)]
        refine ih (w - 1) (a + n) r S40 _ _ (by omega) (by omega) ((cmM_set hm).keep o40 (by simp [aw1]) (by simp [aw1]) (by simp [aw2]) (by simp [aw2]) (by simp [aw2])) a40 (fun k hk' => by rw [e162, e163]; exact hpr k hk') (by rw [List.length_append, List.length_cons, List.length_nil]; omega) fun S' b1 b2 b3 => hQ S' ?_ ?_ ((o38.tr (o40.mo (fun _ z => z) (fun _ z => Or.inr z))).tr b3)
        · rw [← ovr_up]
          · exact b1
          · cases e : amF pq (rkT pq a N) a n (w - 1) (a + n) with
            | none => rfl
            | some v => have := amF_lt _ _ _ _ e; omega
        · rw [List.append_assoc] at b2
          exact b2
def sO1 : Nat → Prop := fun j => j = 8
def sO2 : Nat → Prop := fun q => 156 ≤ q ∧ q ≤ 163
theorem s_M_standOut {g : lp_G} {d : Nat} {S : SS} {xs ys : List Int32} {pf : Nat → Option Nat} {r : RG} {W : List RG} (hok : okG xs.length ys.length r) (hm : cmM S xs ys pf) (hs : stk S W) (hl : W.length + (sub xs ys r).length ≤ 60) : MtV g um_M_standOut (d + 2) [.ref (g.2.1 + 151), .int (nI (gl r)), .int (nI (gA r)), .int (nI (gb r)), .int (nI (gB r))] S (fun S' => cmM S' xs ys (ovr (dm xs ys r) pf) ∧ stk S' (W ++ sub xs ys r) ∧ om sO1 sO2 S S') := by
  obtain ⟨t1, t2, t3, t4, t5, t6, t7, t8⟩ := tr_ok (A := gf xs) (B := gf ys) hok
  obtain ⟨g1, g2, g3, g4⟩ := hok
  have l1 := hm.1
  have l2 := hm.2.1
  refine f_M_standOut (s_M_so6 g2 g4 _ (gl r) (gb r) S pf rfl g1 g3 hm fun S1 m1 o1 => ?_)
  refine s_M_so61 (i := ti (gf xs) (gf ys) r) (j := tj (gf xs) (gf ys) r) _ (gA r) (gB r) S1 _ g2 g4 rfl (by omega) (by omega) m1 fun S2 m2 o2 => ?_
  replace m2 : cmM S2 xs ys (edp (fun q => if gl r ≤ q ∧ q < ti (gf xs) (gf ys) r then some (gb r + (q - gl r)) else pf q) (gA r) (gB r) (kf2 (gf xs) (gf ys) r)) := m2
  show soK g (d + 1) _ (ti (gf xs) (gf ys) r) (tpp (gf xs) (gf ys) r) (tj (gf xs) (gf ys) r) (tq (gf xs) (gf ys) r) S2
  have ovD := fun mid hmid => trm_ovr (A := gf xs) (B := gf ys) (mid := mid) (pf := pf) ⟨g1, g2, g3, g4⟩ hmid
  generalize hpf : edp (fun q => if gl r ≤ q ∧ q < ti (gf xs) (gf ys) r then some (gb r + (q - gl r)) else pf q) (gA r) (gB r) (kf2 (gf xs) (gf ys) r) = pf2 at m2 ovD
  clear hpf
  have oo2 : om sO1 sO2 S S2 := (o1.tr o2).mo (fun _ z => z.elim) (fun q z => by unfold z56 at z; unfold sO2; omega)
  have s2 := hs.keep (o1.tr o2) (by simp [z1']) (fun q z => by unfold aw2 at z; unfold z56; omega)
  unfold soK
  refine f_M_findRanks (s_M_ranks_loop (xs := xs) (ys := ys) (pf := pf2) t2 (by omega) t5 (by omega) _ 0 S2 rfl (Nat.zero_le _) m2 (fun k hk => by omega) fun S3 hpr o3 => ?_)
  have m3 := m2.keep o3 (by simp [z1']) (by simp [z1']) (by simp [fr2]) (by simp [fr2]) (by simp [fr2])
  have s3 := s2.keep o3 (by simp [z1']) (fun q z => by unfold aw2 at z; unfold fr2; omega)
  have oo3 : om sO1 sO2 S S3 := oo2.tr (o3.mo (fun _ z => z.elim) (fun q z => by unfold fr2 at z; unfold sO2; omega))
  have egm : gmF (pqf (gf xs) (gf ys) (ti (gf xs) (gf ys) r) (tpp (gf xs) (gf ys) r) (tj (gf xs) (gf ys) r) (tq (gf xs) (gf ys) r)) (ti (gf xs) (gf ys) r) (tpp (gf xs) (gf ys) r - ti (gf xs) (gf ys) r) = rgm (gf xs) (gf ys) r := rfl
  have eN : tpp (gf xs) (gf ys) r - ti (gf xs) (gf ys) r = rN (gf xs) (gf ys) r := rfl
  have hb : ∀ k v, rpq (gf xs) (gf ys) r k = some v → v < 24 := fun k v hv => by have := (pqf_in t5 hv).2.1; omega
  have gl24 : rgm (gf xs) (gf ys) r ≤ 24 := gm_le (N := rN (gf xs) (gf ys) r) (fun m k hm => by have := rkT_le (rpq (gf xs) (gf ys) r) (ti (gf xs) (gf ys) r) m k; omega) _ (Nat.le_refl _)
  rw [egm]
  refine ⟨fun z => ?_, fun z => ?_⟩
  · have cg : ¬ rgm (gf xs) (gf ys) r = 0 := fun y => z (by rw [y]; rfl)
    have es : sub xs ys r = anF (rpq (gf xs) (gf ys) r) (rkT (rpq (gf xs) (gf ys) r) (ti (gf xs) (gf ys) r) (rN (gf xs) (gf ys) r)) (ti (gf xs) (gf ys) r) (tj (gf xs) (gf ys) r) (rN (gf xs) (gf ys) r) (rgm (gf xs) (gf ys) r) (tpp (gf xs) (gf ys) r) (tq (gf xs) (gf ys) r) := by rw [sub, if_neg cg]; rfl
    have hgt : 0 < tpp (gf xs) (gf ys) r := by
      obtain ⟨k, v, k1, -, -⟩ := gm_ex (pq := rpq (gf xs) (gf ys) r) (a := ti (gf xs) (gf ys) r) (rN (gf xs) (gf ys) r) (show 0 < rgm (gf xs) (gf ys) r by omega)
      omega
    rw [es] at hl ⊢
    rw [show nI (tpp (gf xs) (gf ys) r) - 1 = nI (ti (gf xs) (gf ys) r + rN (gf xs) (gf ys) r) + -1 by rw [show ti (gf xs) (gf ys) r + rN (gf xs) (gf ys) r = tpp (gf xs) (gf ys) r by omega, sb_m1 hgt]; exact pk_sub (b := 1) hgt]
    refine s_M_so160 (xs := xs) (ys := ys) (pq := rpq (gf xs) (gf ys) r) (a := ti (gf xs) (gf ys) r) (b := tj (gf xs) (gf ys) r) (N := rN (gf xs) (gf ys) r) (by omega) hb _ _ _ _ S3 pf2 W (Nat.le_refl _) gl24 m3 s3 hpr hl fun S4 m4 s4 o4 => ⟨?_, s4, oo3.tr (o4.mo (fun _ z => z) (fun q z => by have z' : q = 156 ∨ aw2 q := z; unfold aw2 at z'; unfold sO2; omega))⟩
    rw [dm, if_neg cg, ← ovD _ (fun q v hv => by have := amF_lt _ _ _ _ hv; omega)]
    exact m4
  · have cg : rgm (gf xs) (gf ys) r = 0 := (nI_eq (b := 0) (by omega) (by omega)).mp z
    refine (s_M_compareShort t2 (by omega) t5 (by omega) m3).mono fun S4 ⟨m4, o4⟩ => ⟨?_, ?_, oo3.tr (o4.mo (fun _ z => z.elim) (fun q z => by unfold cs2 at z; unfold sO2; omega))⟩
    · rw [dm, if_pos cg, ← ovD _ (fun q v hv => by have := wk_in _ _ _ _ _ hv; exact ⟨this.1, this.2.1⟩)]
      exact m4
    · rw [sub, if_pos cg, List.append_nil]
      exact s3.keep o4 (fun z => z) (fun q z => by unfold aw2 at z; unfold cs2; omega)
theorem wki.rot {xs ys : List Int32} {F pf : Nat → Option Nat} {r : RG} {W : List RG} (h : wki xs ys F pf (W ++ [r])) : wki xs ys F pf (r :: W) := by
  obtain ⟨h1, h2, h3, h4, h5⟩ := h
  have mm : ∀ s, s ∈ r :: W ↔ s ∈ W ++ [r] := fun s => by
    rw [List.mem_cons, List.mem_append, List.mem_singleton]
    exact Or.comm
  refine ⟨fun s hs => h1 s ((mm s).mp hs), ?_, fun s hs => h3 s ((mm s).mp hs), fun s hs => h4 s ((mm s).mp hs), fun q hq => h5 q fun s hs => hq s ((mm s).mpr hs)⟩
  obtain ⟨a1, a2, a3⟩ := List.pairwise_append.mp h2
  exact List.pairwise_cons.mpr ⟨fun s hs => (a3 s hs r (by simp)).symm, a1⟩
theorem s_M_all {g : lp_G} {d : Nat} {Q : SS → Prop} {xs ys : List Int32} {F : Nat → Option Nat} (hx : xs.length ≤ 24) : ∀ (k : Nat) (S : SS) (pf : Nat → Option Nat) (W : List RG), 2 * smL W + W.length ≤ k → k ≤ 49 → cmM S xs ys pf → stk S W → wki xs ys F pf W → (∀ S', cmM S' xs ys F → om sO1 sO2 S S' → Q S') → AtV g um_M_compareAll (d + 3) Q 38 [(0, .ref (g.2.1 + 151))] [] S := by
  have fin : ∀ (S : SS) (pf : Nat → Option Nat), cmM S xs ys pf → stk S [] → wki xs ys F pf [] → (∀ S', cmM S' xs ys F → om sO1 sO2 S S' → Q S') → AtV g um_M_compareAll (d + 3) Q 38 [(0, .ref (g.2.1 + 151))] [] S := by
    intro S pf hm hs hw hQ
    have ef : F = pf := funext fun q => hw.2.2.2.2 q fun r hr => by cases hr
    exact f_M_compareAll_38 ⟨fun _ => hQ S (by rw [ef]; exact hm) om.re, fun z => absurd (by rw [hs.2.1]; decide) z⟩
  intro k
  induction k with
  | zero =>
    intro S pf W hk hk2 hm hs hw hQ
    have : W = [] := List.eq_nil_of_length_eq_zero (by omega)
    subst this
    exact fin S pf hm hs hw hQ
  | succ k ih =>
    intro S pf W hk hk2 hm hs hw hQ
    rcases List.eq_nil_or_concat W with e | ⟨V, r, e⟩
    · subst e
      exact fin S pf hm hs hw hQ
    · rw [List.concat_eq_append] at e
      subst e
      rw [smL_app, List.length_append] at hk
      have e1 : smL [r] = gln r := by show gln r + 0 = _; omega
      rw [e1] at hk
      have hk' : 2 * (smL V + gln r) + (V.length + 1) ≤ k + 1 := hk
      have s8 := hs.2.1
      rw [List.length_append] at s8
      replace s8 : S.1 151 8 = nI (V.length + 1) := s8
      have ok := hw.1 r (by simp)
      obtain ⟨z1, z2, z3, z4, z5⟩ := sub_ok (xs := xs) (ys := ys) ok
      have hsm : 2 * smL (sub xs ys r) + (sub xs ys r).length ≤ 2 * gln r := by
        by_cases c : sub xs ys r = []
        · rw [c]; show 2 * 0 + 0 ≤ _; omega
        · have := z3 c; omega
      refine f_M_compareAll_38 ⟨fun z => absurd (by rw [s8] at z; exact z) (nI_ge (a := 0) (by omega) (by omega)), fun _ => ?_⟩
      rw [s8, show nI (V.length + 1) - 1 = nI V.length from pk_sub (b := 1) (by omega)]
      rintro S8 rfl
      have vv : vp_in ((setI S 151 8 (nI V.length)).1 151 8) 60 := by rw [setI_s]; exact vp_in_nI (by omega) (by omega)
      refine ⟨vv, vv, vv, vv, ?_⟩
      have gt := hs.2.2 V.length (by simp)
      rw [show (V ++ [r]).getD V.length g0 = r by simp [List.getD_eq_getElem?_getD]] at gt
      rw [setI_s, nI_clamp (by omega), setI_2, gt.1, gt.2.1, gt.2.2.1, gt.2.2.2]
      have o8 : om sO1 sO2 S (setI S 151 8 (nI V.length)) := om_I rfl
      have o8b : om sO1 d0 S (setI S 151 8 (nI V.length)) := om_I rfl
      have sV : stk (setI S 151 8 (nI V.length)) V := ⟨by omega, setI_s, fun t ht => by
        have := hs.2.2 t (by simp; omega)
        rw [show (V ++ [r]).getD t g0 = V.getD t g0 by simp [List.getD_eq_getElem?_getD, List.getElem?_append_left ht]] at this
        exact this⟩
      refine (s_M_standOut ok (hm.keep o8b (by simp [sO1]) (by simp [sO1]) (fun z => z) (fun z => z) (fun z => z)) sV (by omega)).mono fun S13 ⟨a13, b13, o13⟩ => ?_
      exact ih S13 _ _ (by rw [smL_app, List.length_append]; omega) (by omega) a13 b13 (hw.rot.step hx) fun S' m' o' => hQ S' m' ((o8.tr o13).tr o')
