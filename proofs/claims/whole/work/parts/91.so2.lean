/-! STANDING OUT: ranges, and what is matched in them -/
abbrev RG : Type := Nat × Nat × Nat × Nat
def gl (r : RG) : Nat := r.1
def gA (r : RG) : Nat := r.2.1
def gb (r : RG) : Nat := r.2.2.1
def gB (r : RG) : Nat := r.2.2.2
section SO2
variable (A B : Nat → Int32)
/-- what is left of a range when its equal beginning and end are off -/
def kf1 (r : RG) : Nat := tbk A B (min (gA r - gl r) (gB r - gb r)) (gl r) (gb r)
def ti (r : RG) : Nat := gl r + kf1 A B r
def tj (r : RG) : Nat := gb r + kf1 A B r
def kf2 (r : RG) : Nat := tek A B (min (gA r - ti A B r) (gB r - tj A B r)) (gA r) (gB r)
def tpp (r : RG) : Nat := gA r - kf2 A B r
def tq (r : RG) : Nat := gB r - kf2 A B r
def rpq (r : RG) : Nat → Option Nat := pqf A B (ti A B r) (tpp A B r) (tj A B r) (tq A B r)
def rN (r : RG) : Nat := tpp A B r - ti A B r
def rrk (r : RG) : Nat → Nat := rkT (rpq A B r) (ti A B r) (rN A B r)
def rgm (r : RG) : Nat := gmF (rpq A B r) (ti A B r) (rN A B r)
end SO2
def okG (n m : Nat) (r : RG) : Prop := gl r ≤ gA r ∧ gA r ≤ n ∧ gb r ≤ gB r ∧ gB r ≤ m
theorem tr_ok {A B : Nat → Int32} {n m : Nat} {r : RG} (h : okG n m r) : gl r ≤ ti A B r ∧ ti A B r ≤ tpp A B r ∧ tpp A B r ≤ gA r ∧ gb r ≤ tj A B r ∧ tj A B r ≤ tq A B r ∧ tq A B r ≤ gB r ∧ gA r - tpp A B r = gB r - tq A B r ∧ ti A B r - gl r = tj A B r - gb r := by
  have h1 := tbk_le A B (min (gA r - gl r) (gB r - gb r)) (gl r) (gb r)
  have h2 := tek_le A B (min (gA r - ti A B r) (gB r - tj A B r)) (gA r) (gB r)
  obtain ⟨g1, g2, g3, g4⟩ := h
  change kf1 A B r ≤ _ at h1
  change kf2 A B r ≤ _ at h2
  have e1 : ti A B r = gl r + kf1 A B r := rfl
  have e2 : tj A B r = gb r + kf1 A B r := rfl
  have e3 : tpp A B r = gA r - kf2 A B r := rfl
  have e4 : tq A B r = gB r - kf2 A B r := rfl
  omega
section ANC
variable (pq : Nat → Option Nat) (rk : Nat → Nat) (a b : Nat)
/-- the ranges round the anchors -/
def anF : Nat → Nat → Nat → Nat → List RG
  | 0, _, eA, eB => [(a, eA, b, eB)]
  | n + 1, w, eA, eB => match pq (a + n) with
    | none => anF n w eA eB
    | some j => if rk (a + n) = w ∧ 0 < w then (a + n + 1, eA, j + 1, eB) :: anF n (w - 1) (a + n) j else anF n w eA eB
/-- the anchors -/
def amF : Nat → Nat → Nat → Option Nat
  | 0, _ => fun _ => none
  | n + 1, w => match pq (a + n) with
    | none => amF n w
    | some j => if rk (a + n) = w ∧ 0 < w then upf (amF n (w - 1)) (a + n) j else amF n w
/-- all that comes of a range with anchors -/
def smF (so : RG → Nat → Option Nat) : Nat → Nat → Nat → Nat → Nat → Option Nat
  | 0, _, eA, eB => so (a, eA, b, eB)
  | n + 1, w, eA, eB => match pq (a + n) with
    | none => smF so n w eA eB
    | some j => if rk (a + n) = w ∧ 0 < w then (fun q => if q = a + n then some j else if a + n < q then so (a + n + 1, eA, j + 1, eB) q else smF so n (w - 1) (a + n) j q) else smF so n w eA eB
end ANC
def trm (A B : Nat → Int32) (r : RG) (mid : Nat → Option Nat) : Nat → Option Nat := fun q => if q < ti A B r then (if gl r ≤ q then some (gb r + (q - gl r)) else none) else if tpp A B r ≤ q then (if q < gA r then some (tq A B r + (q - tpp A B r)) else none) else mid q
/-- what is matched in a range at once -/
def dm (xs ys : List Int32) (r : RG) : Nat → Option Nat := trm (gf xs) (gf ys) r (if rgm (gf xs) (gf ys) r = 0 then shw xs ys (ti (gf xs) (gf ys) r) (tpp (gf xs) (gf ys) r) (tj (gf xs) (gf ys) r) (tq (gf xs) (gf ys) r) else amF (rpq (gf xs) (gf ys) r) (rrk (gf xs) (gf ys) r) (ti (gf xs) (gf ys) r) (rN (gf xs) (gf ys) r) (rgm (gf xs) (gf ys) r))
/-- the ranges that are gone into later -/
def sub (xs ys : List Int32) (r : RG) : List RG := if rgm (gf xs) (gf ys) r = 0 then [] else anF (rpq (gf xs) (gf ys) r) (rrk (gf xs) (gf ys) r) (ti (gf xs) (gf ys) r) (tj (gf xs) (gf ys) r) (rN (gf xs) (gf ys) r) (rgm (gf xs) (gf ys) r) (tpp (gf xs) (gf ys) r) (tq (gf xs) (gf ys) r)
def so (xs ys : List Int32) : Nat → RG → Nat → Option Nat
  | 0, _ => fun _ => none
  | f + 1, r => trm (gf xs) (gf ys) r (if rgm (gf xs) (gf ys) r = 0 then shw xs ys (ti (gf xs) (gf ys) r) (tpp (gf xs) (gf ys) r) (tj (gf xs) (gf ys) r) (tq (gf xs) (gf ys) r) else smF (rpq (gf xs) (gf ys) r) (rrk (gf xs) (gf ys) r) (ti (gf xs) (gf ys) r) (tj (gf xs) (gf ys) r) (so xs ys f) (rN (gf xs) (gf ys) r) (rgm (gf xs) (gf ys) r) (tpp (gf xs) (gf ys) r) (tq (gf xs) (gf ys) r))
def inx (r : RG) (q : Nat) : Prop := gl r ≤ q ∧ q < gA r
/-- what holds while anchors are gone through -/
def anI (pq : Nat → Option Nat) (rk : Nat → Nat) (a b n w eA eB : Nat) : Prop := a + n ≤ eA ∧ b ≤ eB ∧ (∀ k j, k < n → pq (a + k) = some j → b ≤ j) ∧ ∀ k j, k < n → 0 < w → rk (a + k) = w → pq (a + k) = some j → (∀ k', k < k' → k' < n → pq (a + k') ≠ none → rk (a + k') ≠ w) → j < eB
section AN2
variable {pq : Nat → Option Nat} {a b N : Nat}
theorem anI.skip {n w eA eB : Nat} (h : anI pq (rkT pq a N) a b (n + 1) w eA eB) (hs : pq (a + n) = none ∨ ¬ (rkT pq a N (a + n) = w ∧ 0 < w)) : anI pq (rkT pq a N) a b n w eA eB := by
  obtain ⟨h1, h2, h3, h4⟩ := h
  refine ⟨by omega, h2, fun k j hk => h3 k j (by omega), fun k j hk hw hr hp hl => h4 k j (by omega) hw hr hp fun k' q1 q2 q3 q4 => ?_⟩
  by_cases c : k' = n
  · subst c
    rcases hs with hs | hs
    · exact q3 hs
    · exact hs ⟨q4, hw⟩
  · exact hl k' q1 (by omega) q3 q4
theorem anI.lt {n w eA eB j : Nat} (h : anI pq (rkT pq a N) a b (n + 1) w eA eB) (hp : pq (a + n) = some j) (hr : rkT pq a N (a + n) = w) (hw : 0 < w) : b ≤ j ∧ j < eB :=
  ⟨h.2.2.1 n j (by omega) hp, h.2.2.2 n j (by omega) hw hr hp fun k' q1 q2 => by omega⟩
theorem anI.next {n w eA eB j : Nat} (hn : n < N) (hinj : ∀ k k' r, pq k = some r → pq k' = some r → k = k') (h : anI pq (rkT pq a N) a b (n + 1) w eA eB) (hp : pq (a + n) = some j) (hr : rkT pq a N (a + n) = w) (hw : 0 < w) : anI pq (rkT pq a N) a b n (w - 1) (a + n) j := by
  refine ⟨Nat.le_refl _, (h.lt hp hr hw).1, fun k j hk => h.2.2.1 k j (by omega), fun k r hk hw' hr' hp' hl => ?_⟩
  have e := rk_some hn hp
  rw [hr] at e
  obtain ⟨k0, r0, g1, g2, g3, g4⟩ := bsF_ex (pq := pq) (a := a) (rk := rkT pq a N) (j := j) n (by omega)
  have g5 : rkT pq a N (a + k0) = w - 1 := by omega
  have g6 : k0 ≤ k := by
    refine Decidable.byContradiction fun c => ?_
    exact hl k0 (by omega) g1 (by rw [g2]; simp) g5
  by_cases c : k0 = k
  · subst c
    rw [g2] at hp'
    cases hp'
    exact g3
  · refine Decidable.byContradiction fun c2 => ?_
    have g7 : r0 < r := by
      have : r0 ≠ r := fun z => by
        subst z
        have := hinj _ _ _ g2 hp'
        omega
      omega
    have g8 := bsF_ge (pq := pq) (a := a) (rk := rkT pq a N) (j := r) k (show k0 < k by omega) g2 g7
    have g9 := rk_some (show k < N by omega) hp'
    omega
end AN2
