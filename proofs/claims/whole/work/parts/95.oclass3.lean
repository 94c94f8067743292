/-! STANDING OUT: the class goes through all ranges -/
theorem trm_ovr {A B : Nat → Int32} {n m : Nat} {r : RG} {mid pf : Nat → Option Nat} (h : okG n m r) (hm : ∀ q v, mid q = some v → ti A B r ≤ q ∧ q < tpp A B r) : ovr mid (edp (fun q => if gl r ≤ q ∧ q < ti A B r then some (gb r + (q - gl r)) else pf q) (gA r) (gB r) (kf2 A B r)) = ovr (trm A B r mid) pf := by
  obtain ⟨t1, t2, t3, t4, t5, t6, t7, t8⟩ := tr_ok (A := A) (B := B) h
  have e1 : gA r - kf2 A B r = tpp A B r := rfl
  have e2 : gB r - kf2 A B r = tq A B r := rfl
  funext q
  unfold ovr edp trm
  dsimp only
  rw [e1, e2]
  by_cases c1 : q < ti A B r
  · rw [if_pos c1, if_neg (by omega)]
    cases e : mid q with
    | some v => have := hm q v e; omega
    | none =>
      dsimp only
      by_cases c2 : gl r ≤ q
      · rw [if_pos ⟨c2, c1⟩, if_pos c2]
      · rw [if_neg (fun z => c2 z.1), if_neg c2]
  · rw [if_neg c1]
    by_cases c2 : tpp A B r ≤ q
    · rw [if_pos c2]
      cases e : mid q with
      | some v => have := hm q v e; omega
      | none =>
        dsimp only
        by_cases c3 : q < gA r
        · rw [if_pos ⟨c2, c3⟩, if_pos c3]
        · rw [if_neg (fun z => c3 z.2), if_neg c3, if_neg (fun z => c1 z.2)]
    · rw [if_neg c2, if_neg (fun z => c2 z.1)]
      cases e : mid q with
      | some v => rfl
      | none =>
        dsimp only
        rw [if_neg (fun z => c1 z.2)]
def oSt : Nat → Prop := fun q => pp 2 q ∨ (8 ≤ q ∧ q ≤ 89)
theorem s_O_range {g : lp_G} {d : Nat} {S : SS} {xs ys : List Int32} {pf : Nat → Option Nat} {r : RG} {c : Nat} {L : List RG} (hok : okG xs.length ys.length r) (hm : cm S 2 xs ys pf) (hr : rgG S (41 + 1 * c) r) (hn : ∀ q, inx r q → pf q = none) (hq : que S (c + 1) L) (hcl : c < L.length) (hl : L.length + (nel (sub xs ys r)).length ≤ 49) : MtV g um_O_matchRange (d + 3) [.ref (g.2.1 + 36), .ref (g.2.1 + 2), .ref (g.2.1 + (41 + 1 * c))] S (fun S' => cm S' 2 xs ys (ovr (dm xs ys r) pf) ∧ que S' (c + 1) (L ++ nel (sub xs ys r)) ∧ off oSt S S') := by
  have hc : c < 49 := by have := hq.1; omega
  have hk2 : isR (41 + 1 * c) := sr_37 c hc
  obtain ⟨t1, t2, t3, t4, t5, t6, t7, t8⟩ := tr_ok (A := gf xs) (B := gf ys) hok
  obtain ⟨g1, g2, g3, g4⟩ := hok
  have l1 := hm.1.1
  have l2 := hm.2.1.1
  have kb : ∀ {S S' : SS}, off (bq c) S S' → off oSt S S' := fun o => o.mo fun z y => by
    have y' : pp 2 z ∨ z = 41 + 1 * c := y
    show pp 2 z ∨ (8 ≤ z ∧ z ≤ 89)
    unfold pp at y' ⊢
    omega
  have kq : ∀ {S S' : SS} {L : List RG}, que S (c + 1) L → off (bq c) S S' → que S' (c + 1) L := fun h o => h.keep o (by rw [(o 36 (by unfold bq pp; omega)).1]) (fun t h1 h2 => by unfold bq pp; omega)
  refine f_O_matchRange ic2 hk2 ?_
  refine (s_O_begin hc g2 g4 g1 g3 hm hr (fun z h1 h2 => hn z ⟨h1, h2⟩)).mono fun S1 ⟨m1, r1, o1⟩ => ?_
  refine (s_O_end hc g2 g4 (show ti (gf xs) (gf ys) r ≤ gA r by omega) (show tj (gf xs) (gf ys) r ≤ gB r by omega) m1 r1 (fun z h1 h2 => ?_)).mono fun S2 ⟨m2, r2, o2⟩ => ?_
  · have h1' : ti (gf xs) (gf ys) r ≤ z := h1
    have : ¬ (gl r ≤ z ∧ z < gl r + tbk (gf xs) (gf ys) (min (gA r - gl r) (gB r - gb r)) (gl r) (gb r)) := fun y => by
      have y2 : z < ti (gf xs) (gf ys) r := y.2
      omega
    rw [if_neg this]
    exact hn z ⟨by omega, h2⟩
  replace m2 : cm S2 2 xs ys (edp (fun q => if gl r ≤ q ∧ q < ti (gf xs) (gf ys) r then some (gb r + (q - gl r)) else pf q) (gA r) (gB r) (kf2 (gf xs) (gf ys) r)) := m2
  replace r2 : rg S2 (41 + 1 * c) (ti (gf xs) (gf ys) r) (tpp (gf xs) (gf ys) r) (tj (gf xs) (gf ys) r) (tq (gf xs) (gf ys) r) := r2
  have q2 := kq (kq hq o1) o2
  have oo2 := (kb o1).tr (kb o2)
  clear m1 r1 o1 o2
  have n2 : ∀ z, ti (gf xs) (gf ys) r ≤ z → z < tpp (gf xs) (gf ys) r → (edp (fun q => if gl r ≤ q ∧ q < ti (gf xs) (gf ys) r then some (gb r + (q - gl r)) else pf q) (gA r) (gB r) (kf2 (gf xs) (gf ys) r)) z = none := fun z h1 h2 => by
    unfold edp
    have e1 : gA r - kf2 (gf xs) (gf ys) r = tpp (gf xs) (gf ys) r := rfl
    rw [e1, if_neg (by omega)]
    dsimp only
    rw [if_neg (by omega)]
    exact hn z ⟨by omega, by omega⟩
  have ovD := fun mid hmid => trm_ovr (A := gf xs) (B := gf ys) (mid := mid) (pf := pf) ⟨g1, g2, g3, g4⟩ hmid
  generalize hpf : edp (fun q => if gl r ≤ q ∧ q < ti (gf xs) (gf ys) r then some (gb r + (q - gl r)) else pf q) (gA r) (gB r) (kf2 (gf xs) (gf ys) r) = pf2 at m2 n2 ovD
  clear hpf
  refine f_O_findPairs ic2 hk2 ?_
  rintro S3 rfl
  have o3 : off (fun z => z = 36) S2 (setI S2 36 6 0) := off_I rfl
  rw [setI_o (by omega), r2.1]
  refine s_O_pairs_loop (pf := pf2) (i := ti (gf xs) (gf ys) r) (p := tpp (gf xs) (gf ys) r) (j := tj (gf xs) (gf ys) r) (q := tq (gf xs) (gf ys) r) hc t2 (by omega) t5 (by omega) _ 0 _ rfl (Nat.zero_le _) (m2.keep o3 (fun z y => by unfold cp at y; omega)) (r2.keep o3 (by omega)) (by rw [setI_s]; rfl) (fun k v hk => by omega) fun S4 h6 hpr o4 e36 => ?_
  have oo4 : off oSt S S4 := (oo2.tr (o3.mo fun z y => by have y' : z = 36 := y; show pp 2 z ∨ (8 ≤ z ∧ z ≤ 89); omega)).tr (o4.mo fun z y => by unfold q389 at y; show pp 2 z ∨ (8 ≤ z ∧ z ≤ 89); omega)
  have m4 := (m2.keep o3 (fun z y => by unfold cp at y; omega)).keep o4 (fun z y => by unfold cp at y; unfold q389; omega)
  have r4 := (r2.keep o3 (by omega)).keep o4 (by unfold q389; omega)
  have q4 : que S4 (c + 1) L := (q2.keep o3 (by rw [setI_o (by omega)]) (fun t h1 h2 => by omega)).keep o4 (by rw [e36]) (fun t h1 h2 => by unfold q389; omega)
  have epq : pqf (gf xs) (gf ys) (ti (gf xs) (gf ys) r) (tpp (gf xs) (gf ys) r) (tj (gf xs) (gf ys) r) (tq (gf xs) (gf ys) r) = rpq (gf xs) (gf ys) r := rfl
  have eN : tpp (gf xs) (gf ys) r - ti (gf xs) (gf ys) r = rN (gf xs) (gf ys) r := rfl
  rw [epq, eN] at h6 hpr
  have pl := pc_le (pq := rpq (gf xs) (gf ys) r) (a := ti (gf xs) (gf ys) r) (rN (gf xs) (gf ys) r)
  have hb : ∀ k v, rpq (gf xs) (gf ys) r k = some v → v < 24 := fun k v hv => by have := (pqf_in t5 hv).2.1; omega
  rw [h6]
  refine ⟨fun z => ?_, fun z => ?_⟩
  · have cg : ¬ rgm (gf xs) (gf ys) r = 0 := fun y => z (by rw [pc_0 _ (gm_0 _ y)]; rfl)
    refine f_O_rankPairs (s_O_rank_loop (a := ti (gf xs) (gf ys) r) (N := rN (gf xs) (gf ys) r) (by omega) hb _ 0 S4 rfl (Nat.zero_le _) h6 hpr (fun k v hk => by omega) fun S5 hrk o5 => ?_)
    have gl24 : gmF (rpq (gf xs) (gf ys) r) (ti (gf xs) (gf ys) r) (rN (gf xs) (gf ys) r) ≤ 24 := gm_le (N := rN (gf xs) (gf ys) r) (fun m k hm => by have := rkT_le (rpq (gf xs) (gf ys) r) (ti (gf xs) (gf ys) r) m k; omega) _ (Nat.le_refl _)
    have r5 := r4.keep o5 (by omega)
    refine f_O_matchAnchors ic2 hk2 ?_
    rw [r5.2.1, r5.2.2.2, (o5 36 (by omega)).1, h6]
    have hgt : 0 < pcF (rpq (gf xs) (gf ys) r) (ti (gf xs) (gf ys) r) (rN (gf xs) (gf ys) r) := by
      obtain ⟨k, v, k1, k2, -⟩ := gm_ex (pq := rpq (gf xs) (gf ys) r) (a := ti (gf xs) (gf ys) r) (rN (gf xs) (gf ys) r) (show 0 < rgm (gf xs) (gf ys) r by omega)
      have := pc_lt (pq := rpq (gf xs) (gf ys) r) (a := ti (gf xs) (gf ys) r) k1 k2
      omega
    rw [show nI (pcF (rpq (gf xs) (gf ys) r) (ti (gf xs) (gf ys) r) (rN (gf xs) (gf ys) r)) - 1 = nI (pcF (rpq (gf xs) (gf ys) r) (ti (gf xs) (gf ys) r) (rN (gf xs) (gf ys) r)) + -1 by rw [sb_m1 hgt]; exact pk_sub (b := 1) hgt]
    have es : sub xs ys r = anF (rpq (gf xs) (gf ys) r) (rkT (rpq (gf xs) (gf ys) r) (ti (gf xs) (gf ys) r) (rN (gf xs) (gf ys) r)) (ti (gf xs) (gf ys) r) (tj (gf xs) (gf ys) r) (rN (gf xs) (gf ys) r) (rgm (gf xs) (gf ys) r) (tpp (gf xs) (gf ys) r) (tq (gf xs) (gf ys) r) := by rw [sub, if_neg cg]; rfl
    rw [es] at hl ⊢
    refine s_O_anch_loop (xs := xs) (ys := ys) (j := tj (gf xs) (gf ys) r) hc (by omega) hb _ _ _ _ S5 pf2 L (Nat.le_refl _) gl24 (by omega) (by omega) (by omega) (m4.keep o5 (fun z y => by unfold cp at y; omega)) r5 (q4.keep o5 (by rw [(o5 36 (by omega)).1]) (fun t h1 h2 => by omega)) hcl (fun k v hk hkv => by rw [(o5 38 (by omega)).2, (o5 39 (by omega)).2]; exact hpr k v hk hkv) hrk (fun z h1 h2 => n2 z h1 (by omega)) hl fun S6 m6 q6 o6 => ⟨?_, q6, ?_⟩
    · rw [dm, if_neg cg, ← ovD _ (fun q v hv => by have := amF_lt _ _ _ _ hv; omega)]
      exact m6
    · exact (oo4.tr (o5.mo fun z y => by have y' : z = 40 := y; show pp 2 z ∨ (8 ≤ z ∧ z ≤ 89); omega)).tr (o6.mo fun z y => by have y' : pp 2 z ∨ z = 36 ∨ (41 + 1 * c < z ∧ z ≤ 89) := y; show pp 2 z ∨ (8 ≤ z ∧ z ≤ 89); unfold pp at y' ⊢; omega)
  · have p0 : pcF (rpq (gf xs) (gf ys) r) (ti (gf xs) (gf ys) r) (rN (gf xs) (gf ys) r) = 0 := (nI_eq (b := 0) (by omega) (by omega)).mp z
    have cg : rgm (gf xs) (gf ys) r = 0 := by
      refine Decidable.byContradiction fun y => ?_
      obtain ⟨k, v, k1, k2, -⟩ := gm_ex (pq := rpq (gf xs) (gf ys) r) (a := ti (gf xs) (gf ys) r) (rN (gf xs) (gf ys) r) (show 0 < rgm (gf xs) (gf ys) r by omega)
      have := pc_lt (pq := rpq (gf xs) (gf ys) r) (a := ti (gf xs) (gf ys) r) k1 k2
      omega
    refine (s_S_matchRange ic2 hk2 (fun z y w => by unfold cp at y; unfold mp at w; omega) (by unfold mp; omega) (by unfold cp; omega) t2 (by omega) t5 (by omega) m4 r4 n2).mono fun S5 ⟨m5, o5⟩ => ⟨?_, ?_, ?_⟩
    · rw [dm, if_pos cg, ← ovD _ (fun q v hv => by have := wk_in _ _ _ _ _ hv; exact ⟨this.1, this.2.1⟩)]
      exact m5
    · rw [sub, if_pos cg]
      show que S5 (c + 1) (L ++ [])
      rw [List.append_nil]
      exact q4.keep o5 (by rw [(o5 36 (by unfold mp pp; omega)).1]) (fun t h1 h2 => by unfold mp pp; omega)
    · exact oo4.tr (o5.mo fun z y => by have y' : mp z ∨ pp 2 z := y; show pp 2 z ∨ (8 ≤ z ∧ z ≤ 89); unfold mp pp at y'; unfold pp; omega)
/-! ranges that wait -/
def dj (s t : RG) : Prop := ∀ q, inx s q → ¬ inx t q
def wki (xs ys : List Int32) (F pf : Nat → Option Nat) (W : List RG) : Prop := (∀ r, r ∈ W → okG xs.length ys.length r) ∧ W.Pairwise dj ∧ (∀ r, r ∈ W → ∀ q, inx r q → pf q = none) ∧ (∀ r, r ∈ W → ∀ q, inx r q → F q = so xs ys 24 r q) ∧ ∀ q, (∀ r, r ∈ W → ¬ inx r q) → F q = pf q
theorem dj.symm {s t : RG} (h : dj s t) : dj t s := fun q h1 h2 => h q h2 h1
theorem wki.step {xs ys : List Int32} {F pf : Nat → Option Nat} {r : RG} {W : List RG} (hx : xs.length ≤ 24) (h : wki xs ys F pf (r :: W)) : wki xs ys F (ovr (dm xs ys r) pf) (W ++ sub xs ys r) := by
  obtain ⟨h1, h2, h3, h4, h5⟩ := h
  have hr : r ∈ r :: W := List.mem_cons.mpr (Or.inl rfl)
  have ok := h1 r hr
  have hw : ∀ s, s ∈ W → s ∈ r :: W := fun s hs => List.mem_cons.mpr (Or.inr hs)
  have hl : gln r ≤ 24 := by unfold gln; have := ok.2.1; omega
  obtain ⟨s1, s2, s3, s4, s5⟩ := sub_ok (xs := xs) (ys := ys) ok
  obtain ⟨e1, e2⟩ := so_step (xs := xs) (ys := ys) ok hl
  obtain ⟨p1, p2⟩ := List.pairwise_cons.mp h2
  have sin : ∀ s, s ∈ sub xs ys r → ∀ q, inx s q → inx r q := fun s hs q hq => ⟨Nat.le_trans (s1 s hs).2.1 hq.1, Nat.lt_of_lt_of_le hq.2 (s1 s hs).2.2⟩
  refine ⟨fun s hs => ?_, ?_, fun s hs q hq => ?_, fun s hs q hq => ?_, fun q hq => ?_⟩
  · rcases List.mem_append.mp hs with hs | hs
    · exact h1 s (hw s hs)
    · exact (s1 s hs).1
  · refine List.pairwise_append.mpr ⟨p2, ?_, fun s hs t ht q hq1 hq2 => p1 s hs q (sin t ht q hq2) hq1⟩
    exact s2.imp fun {s t} hst q hq1 hq2 => by
      have a1 : gl s ≤ q := hq1.1
      have a2 : q < gA t := hq2.2
      omega
  · rcases List.mem_append.mp hs with hs | hs
    · have n1 : ¬ inx r q := fun z => p1 s hs q z hq
      have := s5 q n1
      simp only [ovr, this]
      exact h3 s (hw s hs) q hq
    · have := s4 s q hs hq
      simp only [ovr, this]
      exact h3 r hr q (sin s hs q hq)
  · rcases List.mem_append.mp hs with hs | hs
    · exact h4 s (hw s hs) q hq
    · rw [h4 r hr q (sin s hs q hq), e1 s q hs hq]
  · by_cases c : inx r q
    · rw [h4 r hr q c, e2 q c (fun s hs => hq s (List.mem_append.mpr (Or.inr hs)))]
      have := h3 r hr q c
      cases e : dm xs ys r q with
      | none => simp only [ovr, e, this]
      | some v => simp only [ovr, e]
    · have := s5 q c
      simp only [ovr, this]
      refine h5 q fun s hs => ?_
      rcases List.mem_cons.mp hs with rfl | hs
      · exact c
      · exact hq s (List.mem_append.mpr (Or.inl hs))
/-- ranges with nothing in them do not matter -/
theorem wki.nel {xs ys : List Int32} {F pf : Nat → Option Nat} {V W : List RG} (h : wki xs ys F pf (V ++ W)) : wki xs ys F pf (V ++ nel W) := by
  obtain ⟨h1, h2, h3, h4, h5⟩ := h
  have sb : ∀ s, s ∈ V ++ _root_.List.filter (fun r => decide (gl r < gA r ∧ gb r < gB r)) W → s ∈ V ++ W := fun s hs => by
    rcases List.mem_append.mp hs with hs | hs
    · exact List.mem_append.mpr (Or.inl hs)
    · exact List.mem_append.mpr (Or.inr (List.mem_filter.mp hs).1)
  refine ⟨fun r hr => h1 r (sb r hr), ?_, fun r hr => h3 r (sb r hr), fun r hr => h4 r (sb r hr), fun q hq => ?_⟩
  · obtain ⟨a1, a2, a3⟩ := List.pairwise_append.mp h2
    exact List.pairwise_append.mpr ⟨a1, a2.filter _, fun s hs t ht => a3 s hs t (List.mem_filter.mp ht).1⟩
  · by_cases c : ∃ r, r ∈ V ++ W ∧ inx r q
    · obtain ⟨r, r1, r2⟩ := c
      have hne : ¬ (gl r < gA r ∧ gb r < gB r) := fun z => by
        rcases List.mem_append.mp r1 with w | w
        · exact hq r (List.mem_append.mpr (Or.inl w)) r2
        · exact hq r (List.mem_append.mpr (Or.inr (List.mem_filter.mpr ⟨w, decide_eq_true z⟩))) r2
      rw [h4 r r1 q r2, h3 r r1 q r2]
      cases e : so xs ys 24 r q with
      | none => rfl
      | some v =>
        have := (so_mi 24 r (h1 r r1)).1 q v e
        exact absurd ⟨by omega, by omega⟩ hne
    · exact h5 q fun r hr z => c ⟨r, hr, z⟩
theorem smL_app : ∀ (l m : List RG), smL (l ++ m) = smL l + smL m
  | [], m => by simp [smL]
  | s :: t, m => by
    show gln s + smL (t ++ m) = gln s + smL t + smL m
    rw [smL_app t m]
    omega
theorem nel_sm : ∀ (l : List RG), smL (nel l) ≤ smL l ∧ (nel l).length ≤ smL (nel l)
  | [] => ⟨Nat.le_refl _, Nat.le_refl _⟩
  | s :: t => by
    have := nel_sm t
    unfold nel at this ⊢
    rw [List.filter_cons]
    split
    · rename_i c
      have c' := of_decide_eq_true c
      show gln s + smL _ ≤ gln s + smL t ∧ _ + 1 ≤ gln s + smL _
      have : 1 ≤ gln s := by unfold gln; omega
      omega
    · show smL _ ≤ gln s + smL t ∧ _
      omega
theorem s_O_all {g : lp_G} {d : Nat} {Q : SS → Prop} {xs ys : List Int32} {F : Nat → Option Nat} (hx : xs.length ≤ 24) : ∀ (k c : Nat) (S : SS) (pf : Nat → Option Nat) (L : List RG), 49 - c = k → c ≤ L.length → L.length + 2 * smL (L.drop c) ≤ 48 + (L.drop c).length → (∀ r, r ∈ L.drop c → gl r < gA r) → cm S 2 xs ys pf → que S c L → wki xs ys F pf (L.drop c) → (∀ S', cm S' 2 xs ys F → off oSt S S' → Q S') → AtV g um_O_matchTexts (d + 4) Q 27 [(0, .ref (g.2.1 + 36)), (1, .ref (g.2.1 + 2)), (2, .int (nI c))] [] S := by
  have lsm : ∀ l : List RG, (∀ r, r ∈ l → gl r < gA r) → l.length ≤ smL l := by
    intro l
    induction l with
    | nil => intro _; exact Nat.le_refl _
    | cons s t ih =>
      intro h
      have h1 := h s (List.mem_cons.mpr (Or.inl rfl))
      have h2 := ih fun r hr => h r (List.mem_cons.mpr (Or.inr hr))
      show t.length + 1 ≤ gln s + smL t
      unfold gln
      omega
  intro k
  induction k with
  | zero =>
    intro c S pf L hk hc hpot hne hm hq hw hQ
    have := lsm _ hne
    have := hq.1
    rw [List.length_drop] at *
    omega
  | succ k ih =>
    intro c S pf L hk hc hpot hne hm hq hw hQ
    have ls := lsm _ hne
    have hL := hq.1
    have ld : (L.drop c).length = L.length - c := List.length_drop
    by_cases hcl : c < L.length
    · refine f_O_matchTexts_27 ic2 ⟨fun z => absurd (by rw [hq.2.1] at z; exact z) (nI_ge hcl (by omega)), fun _ => ⟨fun z => absurd z (nI_ge (by omega) (by omega)), fun _ => ⟨vp_in_nI (by omega) (by omega), ?_⟩⟩⟩
      rw [nI_clamp (by omega), nI_1]
      have ed : L.drop c = L.getD c g0 :: L.drop (c + 1) := by
        rw [List.drop_eq_getElem_cons hcl]
        simp [List.getD_eq_getElem?_getD, hcl]
      have hrg := hq.2.2 c (Nat.le_refl _) hcl
      rw [ed] at hpot hne hw ld ls
      generalize hr : L.getD c g0 = r at *
      have hmem : r ∈ r :: L.drop (c + 1) := List.mem_cons.mpr (Or.inl rfl)
      have ok := hw.1 r hmem
      have rne := hne r hmem
      have g1 : 1 ≤ gln r := by unfold gln; omega
      obtain ⟨s1, s2, s3, s4, s5⟩ := sub_ok (xs := xs) (ys := ys) ok
      have nm := nel_sm (sub xs ys r)
      have hsm : smL (sub xs ys r) + 1 ≤ gln r := by
        by_cases e : sub xs ys r = []
        · rw [e]; show 0 + 1 ≤ _; omega
        · have := s3 e; omega
      have pe : smL (r :: L.drop (c + 1)) = gln r + smL (L.drop (c + 1)) := rfl
      have le : (r :: L.drop (c + 1)).length = (L.drop (c + 1)).length + 1 := rfl
      have ls1 := lsm (L.drop (c + 1)) fun s hs => hne s (List.mem_cons.mpr (Or.inr hs))
      have hq' : que S (c + 1) L := ⟨hq.1, hq.2.1, fun t h1 h2 => hq.2.2 t (by omega) h2⟩
      have nl : L.length + (nel (sub xs ys r)).length ≤ 49 := by omega
      refine (s_O_range ok hm hrg (fun q hq3 => hw.2.2.1 r hmem q hq3) hq' hcl nl).mono fun S1 ⟨m1, q1, o1⟩ => ?_
      have edr : (L ++ nel (sub xs ys r)).drop (c + 1) = L.drop (c + 1) ++ nel (sub xs ys r) := List.drop_append_of_le_length (by omega)
      refine ih (c + 1) S1 _ (L ++ nel (sub xs ys r)) (by omega) (by rw [List.length_append]; omega) ?_ (fun s hs => ?_) m1 q1 ?_ fun S' m' o' => hQ S' m' (o1.tr o')
      · rw [edr, smL_app, List.length_append, List.length_append]
        omega
      · rw [edr] at hs
        rcases List.mem_append.mp hs with hs | hs
        · exact hne s (List.mem_cons.mpr (Or.inr hs))
        · have := of_decide_eq_true (List.mem_filter.mp hs).2
          exact this.1
      · rw [edr]
        exact (hw.step hx).nel
    · have ec : c = L.length := by omega
      subst ec
      rw [List.drop_length] at hw
      have ef : F = pf := funext fun q => hw.2.2.2.2 q fun r hr => by cases hr
      refine f_O_matchTexts_27 ic2 ⟨fun _ => hQ S (by rw [ef]; exact hm) off.re, fun z => absurd (by rw [hq.2.1]; exact nI_le (Nat.le_refl _) (by omega)) z⟩
/-- what STANDING OUT matches -/
def stw (xs ys : List Int32) : Nat → Option Nat := so xs ys 24 (0, xs.length, 0, ys.length)
theorem okG_w {xs ys : List Int32} : okG xs.length ys.length (0, xs.length, 0, ys.length) := ⟨Nat.zero_le _, Nat.le_refl _, Nat.zero_le _, Nat.le_refl _⟩
theorem mono_stw {xs ys : List Int32} : mono (stw xs ys) xs.length ys.length := by
  obtain ⟨h1, h2⟩ := so_mi (xs := xs) (ys := ys) 24 _ (okG_w (xs := xs) (ys := ys))
  exact ⟨fun q r h => by
    have := h1 q r h
    exact ⟨this.2.1, this.2.2.2⟩, h2⟩
theorem wki_0 {xs ys : List Int32} : wki xs ys (stw xs ys) (fun _ => none) [(0, xs.length, 0, ys.length)] := by
  refine ⟨fun r hr => ?_, List.pairwise_singleton _ _, fun _ _ _ _ => rfl, fun r hr q hq => ?_, fun q hq => ?_⟩
  · simp at hr; subst hr; exact okG_w
  · simp at hr; subst hr; rfl
  · cases e : stw xs ys q with
    | none => rfl
    | some v =>
      have := mono_stw.1 q v e
      exact absurd (⟨Nat.zero_le _, this.1⟩ : inx (0, xs.length, 0, ys.length) q) (hq _ (by simp))
theorem s_O_matchTexts {g : lp_G} {d : Nat} {S : SS} {xs ys : List Int32} (hm : cm S 2 xs ys (fun _ => none)) : MtV g um_O_matchTexts (d + 4) [.ref (g.2.1 + 36), .ref (g.2.1 + 2)] S (fun S' => cm S' 2 xs ys (stw xs ys) ∧ off oSt S S') := by
  have l1 := hm.1.1
  have l2 := hm.2.1.1
  refine f_O_matchTexts ic2 ?_
  rintro S1 rfl
  have o1 : off (fun z => z = 36) S (setI S 36 2 0) := off_I rfl
  have m1 := hm.keep o1 (fun z y => by unfold cp at y; omega)
  rw [m1.1.2.1, m1.2.1.2.1]
  have nl : (nel [(0, xs.length, 0, ys.length)]).length ≤ 1 := by
    have := List.length_filter_le (fun r : RG => decide (gl r < gA r ∧ gb r < gB r)) [(0, xs.length, 0, ys.length)]
    exact this
  refine (s_O_keep (x := 0) (y := 0) (nx := 0) (L := []) ⟨by simp, by rw [setI_s]; rfl, fun t h1 h2 => by simp at h2⟩ (by rw [List.length_nil]; omega) (by omega) (by omega) (by omega) (by omega)).mono fun S2 ⟨a2, o2, _⟩ => ?_
  rw [List.nil_append] at a2
  have w0 := (wki_0 (xs := xs) (ys := ys)).nel (V := [])
  have ns := nel_sm [(0, xs.length, 0, ys.length)]
  have e1 : smL [(0, xs.length, 0, ys.length)] = xs.length := by show (xs.length - 0) + 0 = _; omega
  refine s_O_all l1 49 0 S2 _ (nel [(0, xs.length, 0, ys.length)]) (by omega) (Nat.zero_le _) (by rw [List.drop_zero]; omega) (fun r hr => ?_) (m1.keep o2 (fun z y => by unfold cp at y; omega)) a2 w0 fun S' m' o' => ⟨m', ?_⟩
  · rw [List.drop_zero] at hr
    exact (of_decide_eq_true (List.mem_filter.mp hr).2).1
  · exact ((o1.mo fun z y => by have y' : z = 36 := y; show pp 2 z ∨ (8 ≤ z ∧ z ≤ 89); omega).tr (o2.mo fun z y => by have y' : z = 36 ∨ (z = 41 + 1 * ([] : List RG).length ∧ ([] : List RG).length < 49) := y; simp only [List.length_nil] at y'; show pp 2 z ∨ (8 ≤ z ∧ z ≤ 89); omega)).tr o'
