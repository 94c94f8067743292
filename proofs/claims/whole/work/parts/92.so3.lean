/-! STANDING OUT: the ranges round the anchors, and that partners go up -/
def mi (r : RG) (F : Nat → Option Nat) : Prop := (∀ q v, F q = some v → gl r ≤ q ∧ q < gA r ∧ gb r ≤ v ∧ v < gB r) ∧ ∀ q v q' v', F q = some v → F q' = some v' → q < q' → v < v'
def gln (r : RG) : Nat := gA r - gl r
def smL : List RG → Nat
  | [] => 0
  | s :: t => gln s + smL t
section AN3
variable {pq : Nat → Option Nat} {a b N : Nat}
theorem anF_in (hinj : ∀ k k' r, pq k = some r → pq k' = some r → k = k') : ∀ (n w eA eB : Nat), n ≤ N → anI pq (rkT pq a N) a b n w eA eB → (∀ s, s ∈ anF pq (rkT pq a N) a b n w eA eB → a ≤ gl s ∧ gl s ≤ gA s ∧ gA s ≤ eA ∧ b ≤ gb s ∧ gb s ≤ gB s ∧ gB s ≤ eB) ∧ smL (anF pq (rkT pq a N) a b n w eA eB) + (anF pq (rkT pq a N) a b n w eA eB).length = eA - a + 1 ∧ (anF pq (rkT pq a N) a b n w eA eB).Pairwise (fun s t => gA t < gl s) ∧ (∀ s q, s ∈ anF pq (rkT pq a N) a b n w eA eB → inx s q → amF pq (rkT pq a N) a n w q = none) ∧ (∀ q v, amF pq (rkT pq a N) a n w q = some v → a ≤ q ∧ q < a + n) := by
  intro n
  induction n with
  | zero =>
    intro w eA eB hn h
    have h1 := h.1
    have h2 := h.2.1
    refine ⟨fun s hs => ?_, ?_, List.pairwise_singleton _ _, fun s q _ _ => rfl, fun q v hv => by cases hv⟩
    · simp [anF] at hs
      subst hs
      exact ⟨Nat.le_refl _, by simpa [gl, gA] using h1, Nat.le_refl _, Nat.le_refl _, h2, Nat.le_refl _⟩
    · show (eA - a) + 0 + 1 = _
      omega
  | succ n ih =>
    intro w eA eB hn h
    cases hp : pq (a + n) with
    | none =>
      have := ih w eA eB (by omega) (h.skip (Or.inl hp))
      rw [anF, amF, hp]
      exact ⟨this.1, this.2.1, this.2.2.1, this.2.2.2.1, fun q v hv => by have := this.2.2.2.2 q v hv; omega⟩
    | some j =>
      by_cases c : rkT pq a N (a + n) = w ∧ 0 < w
      · have hl := h.lt hp c.1 c.2
        have h1 := h.1
        obtain ⟨i1, i2, i3, i4, i5⟩ := ih (w - 1) (a + n) j (by omega) (h.next (by omega) hinj hp c.1 c.2)
        rw [anF, amF, hp]
        dsimp only
        rw [if_pos c, if_pos c]
        refine ⟨fun s hs => ?_, ?_, ?_, fun s q hs hq => ?_, fun q v hv => ?_⟩
        · rcases List.mem_cons.mp hs with rfl | hs
          · exact ⟨by show a ≤ a + n + 1; omega, by show a + n + 1 ≤ eA; omega, Nat.le_refl _, by show b ≤ j + 1; omega, by show j + 1 ≤ eB; omega, Nat.le_refl _⟩
          · have := i1 s hs
            exact ⟨this.1, this.2.1, by omega, this.2.2.2.1, this.2.2.2.2.1, by omega⟩
        · show (eA - (a + n + 1)) + smL _ + (_ + 1) = _
          omega
        · refine List.pairwise_cons.mpr ⟨fun t ht => ?_, i3⟩
          have := i1 t ht
          show gA t < a + n + 1
          omega
        · unfold upf
          rcases List.mem_cons.mp hs with rfl | hs
          · have h2 : a + n + 1 ≤ q := hq.1
            rw [if_neg (by omega)]
            cases e : amF pq (rkT pq a N) a n (w - 1) q with
            | none => rfl
            | some v => have := i5 q v e; omega
          · have := i1 s hs
            have h2 : q < gA s := hq.2
            rw [if_neg (by omega)]
            exact i4 s q hs hq
        · unfold upf at hv
          split at hv
          · omega
          · have := i5 q v hv; omega
      · have := ih w eA eB (by omega) (h.skip (Or.inr c))
        rw [anF, amF, hp]
        dsimp only
        rw [if_neg c, if_neg c]
        exact ⟨this.1, this.2.1, this.2.2.1, this.2.2.2.1, fun q v hv => by have := this.2.2.2.2 q v hv; omega⟩
theorem anF_two : ∀ (n w eA eB : Nat), (∃ k r, k < n ∧ pq (a + k) = some r ∧ rkT pq a N (a + k) = w) → 0 < w → 2 ≤ (anF pq (rkT pq a N) a b n w eA eB).length := by
  have one : ∀ (n w eA eB : Nat), 1 ≤ (anF pq (rkT pq a N) a b n w eA eB).length := by
    intro n
    induction n with
    | zero => intro w eA eB; exact Nat.le_refl _
    | succ n ih =>
      intro w eA eB
      rw [anF]
      split
      · exact ih _ _ _
      · split
        · simp
        · exact ih _ _ _
  intro n
  induction n with
  | zero => rintro w eA eB ⟨k, r, hk, _⟩; omega
  | succ n ih =>
    rintro w eA eB ⟨k, r, hk, hp, hr⟩ hw
    rw [anF]
    by_cases c : k = n
    · subst c
      rw [hp]
      dsimp only
      rw [if_pos ⟨hr, hw⟩, List.length_cons]
      have := one k (w - 1) (a + k) r
      omega
    · split
      · exact ih w eA eB ⟨k, r, by omega, hp, hr⟩ hw
      · rename_i j _
        split
        · rw [List.length_cons]
          have := one n (w - 1) (a + n) j
          omega
        · exact ih w eA eB ⟨k, r, by omega, hp, hr⟩ hw
theorem smF_eq (so : RG → Nat → Option Nat) (hinj : ∀ k k' r, pq k = some r → pq k' = some r → k = k') : ∀ (n w eA eB : Nat), n ≤ N → anI pq (rkT pq a N) a b n w eA eB → (∀ s q, s ∈ anF pq (rkT pq a N) a b n w eA eB → inx s q → smF pq (rkT pq a N) a b so n w eA eB q = so s q) ∧ (∀ q, a ≤ q → q < eA → (∀ s, s ∈ anF pq (rkT pq a N) a b n w eA eB → ¬ inx s q) → smF pq (rkT pq a N) a b so n w eA eB q = amF pq (rkT pq a N) a n w q) := by
  intro n
  induction n with
  | zero =>
    intro w eA eB hn h
    refine ⟨fun s q hs hq => ?_, fun q h1 h2 hs => ?_⟩
    · simp [anF] at hs
      subst hs
      rfl
    · exact absurd (⟨h1, h2⟩ : inx (a, eA, b, eB) q) (hs _ (by simp [anF]))
  | succ n ih =>
    intro w eA eB hn h
    cases hp : pq (a + n) with
    | none =>
      rw [anF, amF, smF, hp]
      exact ih w eA eB (by omega) (h.skip (Or.inl hp))
    | some j =>
      rw [anF, amF, smF, hp]
      dsimp only
      by_cases c : rkT pq a N (a + n) = w ∧ 0 < w
      · have hn2 := h.next (by omega) hinj hp c.1 c.2
        obtain ⟨i1, i2⟩ := ih (w - 1) (a + n) j (by omega) hn2
        have fi := (anF_in hinj n (w - 1) (a + n) j (by omega) hn2).1
        rw [if_pos c, if_pos c, if_pos c]
        refine ⟨fun s q hs hq => ?_, fun q h1 h2 hs => ?_⟩
        · rcases List.mem_cons.mp hs with rfl | hs
          · have : a + n + 1 ≤ q := hq.1
            rw [if_neg (by omega), if_pos (by omega)]
          · have := fi s hs
            have h2 : q < gA s := hq.2
            rw [if_neg (by omega), if_neg (by omega)]
            exact i1 s q hs hq
        · unfold upf
          by_cases e : q = a + n
          · rw [if_pos e, if_pos e]
          · rw [if_neg e, if_neg e]
            by_cases e2 : a + n < q
            · exact absurd (⟨by show a + n + 1 ≤ q; omega, h2⟩ : inx (a + n + 1, eA, j + 1, eB) q) (hs _ (List.mem_cons.mpr (Or.inl rfl)))
            · rw [if_neg e2]
              exact i2 q h1 (by omega) fun s hs' => hs s (List.mem_cons.mpr (Or.inr hs'))
      · rw [if_neg c, if_neg c, if_neg c]
        exact ih w eA eB (by omega) (h.skip (Or.inr c))
theorem smF_congr {s1 s2 : RG → Nat → Option Nat} : ∀ (n w eA eB : Nat), (∀ s, s ∈ anF pq (rkT pq a N) a b n w eA eB → s1 s = s2 s) → smF pq (rkT pq a N) a b s1 n w eA eB = smF pq (rkT pq a N) a b s2 n w eA eB := by
  intro n
  induction n with
  | zero => intro w eA eB h; exact h _ (by simp [anF])
  | succ n ih =>
    intro w eA eB h
    rw [anF] at h
    rw [smF, smF]
    split
    · rename_i e
      rw [e] at h
      exact ih _ _ _ h
    · rename_i j e
      rw [e] at h
      dsimp only at h
      by_cases c : rkT pq a N (a + n) = w ∧ 0 < w
      · rw [if_pos c] at h
        rw [if_pos c, if_pos c, h _ (List.mem_cons.mpr (Or.inl rfl)), ih _ _ _ (fun s hs => h s (List.mem_cons.mpr (Or.inr hs)))]
      · rw [if_neg c] at h
        rw [if_neg c, if_neg c]
        exact ih _ _ _ h
theorem smF_mi {so : RG → Nat → Option Nat} (hinj : ∀ k k' r, pq k = some r → pq k' = some r → k = k') : ∀ (n w eA eB : Nat), n ≤ N → anI pq (rkT pq a N) a b n w eA eB → (∀ s, s ∈ anF pq (rkT pq a N) a b n w eA eB → mi s (so s)) → mi (a, eA, b, eB) (smF pq (rkT pq a N) a b so n w eA eB) := by
  intro n
  induction n with
  | zero => intro w eA eB hn h hs; exact hs _ (by simp [anF])
  | succ n ih =>
    intro w eA eB hn h hs
    rw [anF] at hs
    rw [smF]
    cases hp : pq (a + n) with
    | none =>
      rw [hp] at hs
      exact ih w eA eB (by omega) (h.skip (Or.inl hp)) hs
    | some j =>
      rw [hp] at hs
      dsimp only at hs ⊢
      by_cases c : rkT pq a N (a + n) = w ∧ 0 < w
      · rw [if_pos c] at hs
        rw [if_pos c]
        have hl := h.lt hp c.1 c.2
        have h1 := h.1
        obtain ⟨l1, l2⟩ := ih (w - 1) (a + n) j (by omega) (h.next (by omega) hinj hp c.1 c.2) (fun s q => hs s (List.mem_cons.mpr (Or.inr q)))
        obtain ⟨r1, r2⟩ := hs _ (List.mem_cons.mpr (Or.inl rfl))
        have L1 : ∀ q v, smF pq (rkT pq a N) a b so n (w - 1) (a + n) j q = some v → a ≤ q ∧ q < a + n ∧ b ≤ v ∧ v < j := l1
        have R1 : ∀ q v, so (a + n + 1, eA, j + 1, eB) q = some v → a + n + 1 ≤ q ∧ q < eA ∧ j + 1 ≤ v ∧ v < eB := r1
        refine ⟨fun q v hv => ?_, fun q v q' v' hv hv' hq => ?_⟩
        · show a ≤ q ∧ q < eA ∧ b ≤ v ∧ v < eB
          dsimp only at hv
          split at hv
          · cases hv; omega
          · split at hv
            · have := R1 q v hv; omega
            · have := L1 q v hv; omega
        · dsimp only at hv hv'
          by_cases e1 : q = a + n
          · rw [if_pos e1] at hv
            cases hv
            rw [if_neg (by omega), if_pos (by omega)] at hv'
            have := R1 q' v' hv'; omega
          · rw [if_neg e1] at hv
            by_cases e2 : a + n < q
            · rw [if_pos e2] at hv
              rw [if_neg (by omega), if_pos (by omega)] at hv'
              exact r2 q v q' v' hv hv' hq
            · rw [if_neg e2] at hv
              have k1 := L1 q v hv
              by_cases e3 : q' = a + n
              · rw [if_pos e3] at hv'
                cases hv'
                omega
              · rw [if_neg e3] at hv'
                by_cases e4 : a + n < q'
                · rw [if_pos e4] at hv'
                  have := R1 q' v' hv'; omega
                · rw [if_neg e4] at hv'
                  exact l2 q v q' v' hv hv' hq
      · rw [if_neg c] at hs
        rw [if_neg c]
        exact ih w eA eB (by omega) (h.skip (Or.inr c)) hs
end AN3
theorem trm_mi {A B : Nat → Int32} {n m : Nat} {r : RG} {mid : Nat → Option Nat} (h : okG n m r) (hm : mi (ti A B r, tpp A B r, tj A B r, tq A B r) mid) : mi r (trm A B r mid) := by
  obtain ⟨t1, t2, t3, t4, t5, t6, t7, t8⟩ := tr_ok (A := A) (B := B) h
  obtain ⟨m1, m2⟩ := hm
  have M1 : ∀ q v, mid q = some v → ti A B r ≤ q ∧ q < tpp A B r ∧ tj A B r ≤ v ∧ v < tq A B r := m1
  have key : ∀ q v, trm A B r mid q = some v → (q < ti A B r ∧ gl r ≤ q ∧ v = gb r + (q - gl r)) ∨ (ti A B r ≤ q ∧ tpp A B r ≤ q ∧ q < gA r ∧ v = tq A B r + (q - tpp A B r)) ∨ (ti A B r ≤ q ∧ q < tpp A B r ∧ mid q = some v) := by
    intro q v hv
    unfold trm at hv
    split at hv
    · split at hv
      · cases hv; exact Or.inl ⟨by omega, by omega, rfl⟩
      · cases hv
    · split at hv
      · split at hv
        · cases hv; exact Or.inr (Or.inl ⟨by omega, by omega, by omega, rfl⟩)
        · cases hv
      · exact Or.inr (Or.inr ⟨by omega, by omega, hv⟩)
  refine ⟨fun q v hv => ?_, fun q v q' v' hv hv' hq => ?_⟩
  · rcases key q v hv with k | k | ⟨k1, k2, k3⟩
    · omega
    · omega
    · have := M1 q v k3; omega
  · rcases key q v hv with k | k | ⟨k1, k2, k3⟩ <;> rcases key q' v' hv' with k' | k' | ⟨k1', k2', k3'⟩
    · omega
    · omega
    · have := M1 q' v' k3'; omega
    · omega
    · omega
    · omega
    · omega
    · have := M1 q v k3; omega
    · exact m2 q v q' v' k3 k3' hq
section SO4
variable {xs ys : List Int32} {n m : Nat}
theorem rpq_inj {r : RG} (h : okG n m r) : ∀ k k' v, rpq (gf xs) (gf ys) r k = some v → rpq (gf xs) (gf ys) r k' = some v → k = k' := fun k k' v h1 h2 => by
  obtain ⟨t1, t2, t3, t4, t5, t6, t7, t8⟩ := tr_ok (A := gf xs) (B := gf ys) h
  exact pqf_inj t2 t5 h1 h2
theorem anI_0 {r : RG} (h : okG n m r) : anI (rpq (gf xs) (gf ys) r) (rkT (rpq (gf xs) (gf ys) r) (ti (gf xs) (gf ys) r) (rN (gf xs) (gf ys) r)) (ti (gf xs) (gf ys) r) (tj (gf xs) (gf ys) r) (rN (gf xs) (gf ys) r) (rgm (gf xs) (gf ys) r) (tpp (gf xs) (gf ys) r) (tq (gf xs) (gf ys) r) := by
  obtain ⟨t1, t2, t3, t4, t5, t6, t7, t8⟩ := tr_ok (A := gf xs) (B := gf ys) h
  refine ⟨?_, t5, fun k j _ hp => (pqf_in t5 hp).1, fun k j _ _ _ hp _ => (pqf_in t5 hp).2.1⟩
  unfold rN
  omega
theorem sub_ok {r : RG} (h : okG n m r) : (∀ s, s ∈ sub xs ys r → okG n m s ∧ gl r ≤ gl s ∧ gA s ≤ gA r) ∧ (sub xs ys r).Pairwise (fun s t => gA t < gl s) ∧ (sub xs ys r ≠ [] → smL (sub xs ys r) + (sub xs ys r).length ≤ gln r + 1 ∧ 2 ≤ (sub xs ys r).length) ∧ (∀ s q, s ∈ sub xs ys r → inx s q → dm xs ys r q = none) ∧ (∀ q, ¬ inx r q → dm xs ys r q = none) := by
  have h0 := h
  obtain ⟨t1, t2, t3, t4, t5, t6, t7, t8⟩ := tr_ok (A := gf xs) (B := gf ys) h
  obtain ⟨g1, g2, g3, g4⟩ := h
  have eN : rN (gf xs) (gf ys) r = tpp (gf xs) (gf ys) r - ti (gf xs) (gf ys) r := rfl
  have hout : ∀ mid : Nat → Option Nat, ∀ q, ¬ inx r q → (∀ q v, mid q = some v → ti (gf xs) (gf ys) r ≤ q ∧ q < tpp (gf xs) (gf ys) r) → trm (gf xs) (gf ys) r mid q = none := by
    intro mid q hq hm
    have hq' : ¬ (gl r ≤ q ∧ q < gA r) := hq
    unfold trm
    split
    · rw [if_neg (by omega)]
    · split
      · rw [if_neg (by omega)]
      · omega
  by_cases c : rgm (gf xs) (gf ys) r = 0
  · rw [sub, if_pos c]
    refine ⟨fun s hs => (by cases hs), List.Pairwise.nil, fun z => absurd rfl z, fun s q hs => (by cases hs), fun q hq => ?_⟩
    rw [dm, if_pos c]
    exact hout _ q hq fun q v hv => by
      have := wk_in _ _ _ _ _ hv
      exact ⟨this.1, this.2.1⟩
  · obtain ⟨i1, i2, i3, i4, i5⟩ := anF_in (rpq_inj (xs := xs) (ys := ys) h0) _ _ _ _ (Nat.le_refl _) (anI_0 (xs := xs) (ys := ys) h0)
    have two := anF_two (b := tj (gf xs) (gf ys) r) (N := rN (gf xs) (gf ys) r) _ _ (tpp (gf xs) (gf ys) r) (tq (gf xs) (gf ys) r) (gm_ex (pq := rpq (gf xs) (gf ys) r) (a := ti (gf xs) (gf ys) r) (rN (gf xs) (gf ys) r) (show 0 < rgm (gf xs) (gf ys) r by omega)) (show 0 < rgm (gf xs) (gf ys) r by omega)
    rw [sub, if_neg c]
    refine ⟨fun s hs => ?_, i3, fun _ => ⟨?_, two⟩, fun s q hs hq => ?_, fun q hq => ?_⟩
    · have := i1 s hs
      exact ⟨⟨this.2.1, by omega, this.2.2.2.2.1, by omega⟩, by omega, by omega⟩
    · have e : smL (anF (rpq (gf xs) (gf ys) r) (rrk (gf xs) (gf ys) r) (ti (gf xs) (gf ys) r) (tj (gf xs) (gf ys) r) (rN (gf xs) (gf ys) r) (rgm (gf xs) (gf ys) r) (tpp (gf xs) (gf ys) r) (tq (gf xs) (gf ys) r)) + (anF (rpq (gf xs) (gf ys) r) (rrk (gf xs) (gf ys) r) (ti (gf xs) (gf ys) r) (tj (gf xs) (gf ys) r) (rN (gf xs) (gf ys) r) (rgm (gf xs) (gf ys) r) (tpp (gf xs) (gf ys) r) (tq (gf xs) (gf ys) r)).length = tpp (gf xs) (gf ys) r - ti (gf xs) (gf ys) r + 1 := i2
      rw [e]
      unfold gln
      omega
    · have := i1 s hs
      have hq1 : gl s ≤ q := hq.1
      have hq2 : q < gA s := hq.2
      rw [dm, if_neg c, trm]
      rw [if_neg (by omega), if_neg (by omega)]
      exact i4 s q hs hq
    · rw [dm, if_neg c]
      exact hout _ q hq fun q v hv => by have := i5 q v hv; omega
theorem so_mi : ∀ (f : Nat) (r : RG), okG n m r → mi r (so xs ys f r) := by
  intro f
  induction f with
  | zero => intro r h; exact ⟨fun q v hv => (by cases hv), fun q v q' v' hv => (by cases hv)⟩
  | succ f ih =>
    intro r h
    rw [so]
    refine trm_mi h ?_
    by_cases c : rgm (gf xs) (gf ys) r = 0
    · rw [if_pos c]
      exact ⟨fun q v hv => wk_in _ _ _ _ _ hv, fun q v q' v' hv hv' hq => wk_mono _ _ _ _ _ _ _ hv hv' hq⟩
    · rw [if_neg c]
      have so1 := (sub_ok (xs := xs) (ys := ys) h).1
      rw [sub, if_neg c] at so1
      exact smF_mi (rpq_inj h) _ _ _ _ (Nat.le_refl _) (anI_0 h) fun s hs => ih s (so1 s hs).1
theorem so_fuel : ∀ (f f' : Nat) (r : RG), okG n m r → gln r ≤ f → gln r ≤ f' → so xs ys f r = so xs ys f' r := by
  have em : ∀ (f : Nat) (r : RG), okG n m r → gln r = 0 → so xs ys f r = fun _ => none := by
    intro f r h h0
    funext q
    cases e : so xs ys f r q with
    | none => rfl
    | some v =>
      have := (so_mi f r h).1 q v e
      unfold gln at h0
      omega
  intro f
  induction f with
  | zero =>
    intro f' r h h1 h2
    rw [em 0 r h (by omega), em f' r h (by omega)]
  | succ f ih =>
    intro f' r h h1 h2
    cases f' with
    | zero => rw [em 0 r h (by omega), em (f + 1) r h (by omega)]
    | succ f' =>
      rw [so, so]
      by_cases c : rgm (gf xs) (gf ys) r = 0
      · rw [if_pos c, if_pos c]
      · rw [if_neg c, if_neg c]
        obtain ⟨s1, -, s3, -, -⟩ := sub_ok (xs := xs) (ys := ys) h
        have mem : ∀ (l : List RG) (s : RG), s ∈ l → gln s ≤ smL l := by
          intro l
          induction l with
          | nil => intro s hs; cases hs
          | cons t l ihl =>
            intro s hs
            rcases List.mem_cons.mp hs with rfl | hs
            · exact Nat.le_add_right _ _
            · have := ihl s hs
              show gln s ≤ gln t + smL l
              omega
        congr 1
        refine smF_congr _ _ _ _ fun s hs => ?_
        have hs' : s ∈ sub xs ys r := by rw [sub, if_neg c]; exact hs
        have ne : sub xs ys r ≠ [] := fun z => by rw [z] at hs'; cases hs'
        have := s3 ne
        have := mem _ s hs'
        exact ih f' s (s1 s hs').1 (by omega) (by omega)
/-- a range, its own matches and the ranges in it -/
theorem so_step {r : RG} (h : okG n m r) (hl : gln r ≤ 24) : (∀ s q, s ∈ sub xs ys r → inx s q → so xs ys 24 r q = so xs ys 24 s q) ∧ (∀ q, inx r q → (∀ s, s ∈ sub xs ys r → ¬ inx s q) → so xs ys 24 r q = dm xs ys r q) := by
  obtain ⟨t1, t2, t3, t4, t5, t6, t7, t8⟩ := tr_ok (A := gf xs) (B := gf ys) h
  obtain ⟨s1, -, s3, -, -⟩ := sub_ok (xs := xs) (ys := ys) h
  by_cases c : rgm (gf xs) (gf ys) r = 0
  · refine ⟨fun s q hs => ?_, fun q hq hs => ?_⟩
    · rw [sub, if_pos c] at hs; cases hs
    · rw [so, dm, if_pos c, if_pos c]
  · obtain ⟨e1, e2⟩ := smF_eq (so xs ys 23) (rpq_inj (xs := xs) (ys := ys) h) _ _ _ _ (Nat.le_refl _) (anI_0 (xs := xs) (ys := ys) h)
    have mem : ∀ (l : List RG) (s : RG), s ∈ l → gln s ≤ smL l := by
      intro l
      induction l with
      | nil => intro s hs; cases hs
      | cons t l ihl =>
        intro s hs
        rcases List.mem_cons.mp hs with rfl | hs
        · exact Nat.le_add_right _ _
        · have := ihl s hs
          show gln s ≤ gln t + smL l
          omega
    refine ⟨fun s q hs hq => ?_, fun q hq hs => ?_⟩
    · have ne : sub xs ys r ≠ [] := fun z => by rw [z] at hs; cases hs
      have z1 := s3 ne
      have z2 := mem _ s hs
      rw [← so_fuel 23 24 s (s1 s hs).1 (by omega) (by omega)]
      rw [sub, if_neg c] at hs
      obtain ⟨i1, -, -, -, -⟩ := anF_in (rpq_inj (xs := xs) (ys := ys) h) _ _ _ _ (Nat.le_refl _) (anI_0 (xs := xs) (ys := ys) h)
      have := i1 s hs
      have hq1 : gl s ≤ q := hq.1
      have hq2 : q < gA s := hq.2
      rw [so, if_neg c, trm]
      rw [if_neg (by omega), if_neg (by omega)]
      exact e1 s q hs hq
    · rw [sub, if_neg c] at hs
      rw [so, dm, if_neg c, if_neg c, trm, trm]
      by_cases q1 : q < ti (gf xs) (gf ys) r
      · rw [if_pos q1, if_pos q1]
      · rw [if_neg q1, if_neg q1]
        by_cases q2 : tpp (gf xs) (gf ys) r ≤ q
        · rw [if_pos q2, if_pos q2]
        · rw [if_neg q2, if_neg q2]
          exact e2 q (by omega) (by omega) hs
end SO4
