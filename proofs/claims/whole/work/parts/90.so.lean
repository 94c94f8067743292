/-! STANDING OUT: what a range comes to -/
section SO
variable (A B : Nat → Int32)
def tbk : Nat → Nat → Nat → Nat
  | 0, _, _ => 0
  | f + 1, i, j => if A i = B j then tbk f (i + 1) (j + 1) + 1 else 0
def tek : Nat → Nat → Nat → Nat
  | 0, _, _ => 0
  | f + 1, p, q => if A (p - 1) = B (q - 1) then tek f (p - 1) (q - 1) + 1 else 0
theorem tbk_le : ∀ f i j, tbk A B f i j ≤ f
  | 0, _, _ => Nat.le_refl _
  | f + 1, i, j => by
    have := tbk_le f (i + 1) (j + 1)
    rw [tbk]
    split <;> omega
theorem tek_le : ∀ f i j, tek A B f i j ≤ f
  | 0, _, _ => Nat.le_refl _
  | f + 1, i, j => by
    have := tek_le f (i - 1) (j - 1)
    rw [tek]
    split <;> omega
end SO
def ocn (f : Nat → Int32) (x : Int32) (a : Nat) : Nat → Nat
  | 0 => 0
  | n + 1 => ocn f x a n + (if f (a + n) = x then 1 else 0)
def ola (f : Nat → Int32) (x : Int32) (a : Nat) : Nat → Option Nat
  | 0 => none
  | n + 1 => if f (a + n) = x then some (a + n) else ola f x a n
def onl (f : Nat → Int32) (x : Int32) (a b : Nat) : Option Nat := if ocn f x a (b - a) = 1 then ola f x a (b - a) else none
theorem ocn_sp (f : Nat → Int32) (x : Int32) (a : Nat) : ∀ n, (ocn f x a n = 0 → ola f x a n = none ∧ ∀ i, a ≤ i → i < a + n → ¬ f i = x) ∧ (ocn f x a n = 1 → ∃ j, ola f x a n = some j ∧ a ≤ j ∧ j < a + n ∧ f j = x ∧ ∀ i, a ≤ i → i < a + n → f i = x → i = j) ∧ (2 ≤ ocn f x a n → ∃ i j, a ≤ i ∧ i < j ∧ j < a + n ∧ f i = x ∧ f j = x) := by
  intro n
  induction n with
  | zero => exact ⟨fun _ => ⟨rfl, fun i h1 h2 => by omega⟩, fun h => by simp [ocn] at h, fun h => by simp [ocn] at h⟩
  | succ n ih =>
    obtain ⟨h0, h1, h2⟩ := ih
    by_cases e : f (a + n) = x
    · have ec : ocn f x a (n + 1) = ocn f x a n + 1 := by rw [ocn, if_pos e]
      have eo : ola f x a (n + 1) = some (a + n) := by rw [ola, if_pos e]
      rw [ec, eo]
      refine ⟨fun h => by omega, fun h => ⟨a + n, rfl, by omega, by omega, e, fun i p1 p2 p3 => ?_⟩, fun h => ?_⟩
      · by_cases c : i = a + n
        · exact c
        · exact absurd p3 ((h0 (by omega)).2 i p1 (by omega))
      · by_cases c : ocn f x a n = 1
        · obtain ⟨j, -, j1, j2, j3, -⟩ := h1 c
          exact ⟨j, a + n, j1, j2, by omega, j3, e⟩
        · obtain ⟨i, j, i1, i2, i3, i4, i5⟩ := h2 (by omega)
          exact ⟨i, j, i1, i2, by omega, i4, i5⟩
    · have ec : ocn f x a (n + 1) = ocn f x a n := by rw [ocn, if_neg e, Nat.add_zero]
      have eo : ola f x a (n + 1) = ola f x a n := by rw [ola, if_neg e]
      rw [ec, eo]
      refine ⟨fun h => ⟨(h0 h).1, fun i p1 p2 => ?_⟩, fun h => ?_, fun h => ?_⟩
      · by_cases c : i = a + n
        · rw [c]; exact e
        · exact (h0 h).2 i p1 (by omega)
      · obtain ⟨j, j0, j1, j2, j3, j4⟩ := h1 h
        refine ⟨j, j0, j1, by omega, j3, fun i p1 p2 p3 => ?_⟩
        by_cases c : i = a + n
        · rw [c] at p3; exact absurd p3 e
        · exact j4 i p1 (by omega) p3
      · obtain ⟨i, j, i1, i2, i3, i4, i5⟩ := h2 h
        exact ⟨i, j, i1, i2, by omega, i4, i5⟩
theorem onl_is (f : Nat → Int32) (x : Int32) {a b : Nat} (h : a ≤ b) : isOnly f x a b (onl f x a b) := by
  obtain ⟨h0, h1, h2⟩ := ocn_sp f x a (b - a)
  rw [show a + (b - a) = b by omega] at h0 h1 h2
  unfold onl
  by_cases c : ocn f x a (b - a) = 1
  · rw [if_pos c]
    obtain ⟨j, j0, j1, j2, j3, j4⟩ := h1 c
    rw [j0]
    exact ⟨j1, j2, j3, j4⟩
  · rw [if_neg c]
    rintro ⟨j, j1, j2, j3, j4⟩
    by_cases c0 : ocn f x a (b - a) = 0
    · exact (h0 c0).2 j j1 j2 j3
    · obtain ⟨i, k, i1, i2, i3, i4, i5⟩ := h2 (by omega)
      have e1 := j4 i i1 (by omega) i4
      have e2 := j4 k (by omega) i3 i5
      omega
/-- the pair of line k, if it stands out -/
def pqf (A B : Nat → Int32) (i p j q k : Nat) : Option Nat := match onl B (A k) j q with
  | none => none
  | some r => if onl A (A k) i p = some k then some r else none
theorem pqf_in {A B : Nat → Int32} {i p j q k r : Nat} (hij : j ≤ q) (h : pqf A B i p j q k = some r) : j ≤ r ∧ r < q ∧ B r = A k := by
  have := onl_is B (A k) hij
  unfold pqf at h
  split at h
  · cases h
  · rename_i r' e
    split at h
    · cases h
      rw [e] at this
      exact ⟨this.1, this.2.1, this.2.2.1⟩
    · cases h
theorem pqf_inj {A B : Nat → Int32} {i p j q k k' r : Nat} (hij : i ≤ p) (hjq : j ≤ q) (h : pqf A B i p j q k = some r) (h' : pqf A B i p j q k' = some r) : k = k' := by
  have e1 := (pqf_in hjq h).2.2
  have e2 := (pqf_in hjq h').2.2
  have ea : A k = A k' := e1.symm.trans e2
  have g : ∀ {k : Nat}, pqf A B i p j q k = some r → onl A (A k) i p = some k := by
    intro k h
    unfold pqf at h
    split at h
    · cases h
    · split at h
      · assumption
      · cases h
  have a1 := g h
  have a2 := g h'
  rw [ea] at a1
  exact Option.some.inj (a1.symm.trans a2)
section RK
variable (pq : Nat → Option Nat) (a : Nat)
def bsF (rk : Nat → Nat) : Nat → Nat → Nat
  | 0, _ => 0
  | n + 1, j => match pq (a + n) with
    | some r => if r < j ∧ bsF rk n j < rk (a + n) then rk (a + n) else bsF rk n j
    | none => bsF rk n j
def rkT : Nat → Nat → Nat
  | 0, _ => 0
  | n + 1, k => if k = a + n then (match pq k with
    | none => 0
    | some j => bsF pq a (rkT n) n j + 1) else rkT n k
def gmF : Nat → Nat
  | 0 => 0
  | n + 1 => if gmF n < rkT pq a (n + 1) (a + n) then rkT pq a (n + 1) (a + n) else gmF n
def pcF : Nat → Nat
  | 0 => 0
  | n + 1 => pcF n + (if (pq (a + n)).isSome then 1 else 0)
variable {pq a}
theorem bsF_congr {rk rk' : Nat → Nat} {j : Nat} : ∀ n, (∀ k, a ≤ k → k < a + n → rk k = rk' k) → bsF pq a rk n j = bsF pq a rk' n j
  | 0, _ => rfl
  | n + 1, h => by
    rw [bsF, bsF, bsF_congr n (fun k h1 h2 => h k h1 (by omega)), h (a + n) (by omega) (by omega)]
theorem rkT_st {k : Nat} : ∀ m n, k < a + n → rkT pq a (n + m) k = rkT pq a n k
  | 0, _, _ => rfl
  | m + 1, n, h => by
    rw [show n + (m + 1) = (n + m) + 1 by omega, rkT, if_neg (by omega), rkT_st m n h]
theorem rkT_eq {n m : Nat} {k : Nat} (h1 : k < a + n) (h2 : n ≤ m) : rkT pq a m k = rkT pq a n k := by
  have := rkT_st (pq := pq) (k := k) (m - n) n h1
  rw [show n + (m - n) = m by omega] at this
  exact this
theorem rk_some {N n j : Nat} (hn : n < N) (h : pq (a + n) = some j) : rkT pq a N (a + n) = bsF pq a (rkT pq a N) n j + 1 := by
  rw [rkT_eq (n := n + 1) (by omega) (by omega), rkT, if_pos rfl, h]
  dsimp only
  rw [bsF_congr (rk' := rkT pq a N) n (fun k h1 h2 => (rkT_eq (n := n) (by omega) (by omega)).symm)]
theorem rk_none {N n : Nat} (hn : n < N) (h : pq (a + n) = none) : rkT pq a N (a + n) = 0 := by
  rw [rkT_eq (n := n + 1) (by omega) (by omega), rkT, if_pos rfl, h]
theorem bsF_ge {rk : Nat → Nat} {j r k : Nat} : ∀ n, k < n → pq (a + k) = some r → r < j → rk (a + k) ≤ bsF pq a rk n j
  | 0, h, _, _ => by omega
  | n + 1, h, hp, hr => by
    rw [bsF]
    by_cases c : k = n
    · subst c
      rw [hp]
      dsimp only
      split <;> omega
    · have := bsF_ge (rk := rk) n (by omega) hp hr
      split
      · split <;> omega
      · exact this
theorem bsF_ex {rk : Nat → Nat} {j : Nat} : ∀ n, 0 < bsF pq a rk n j → ∃ k r, k < n ∧ pq (a + k) = some r ∧ r < j ∧ rk (a + k) = bsF pq a rk n j
  | 0, h => by simp [bsF] at h
  | n + 1, h => by
    rw [bsF] at h ⊢
    split at h
    · rename_i r e
      split at h
      · rename_i c
        rw [if_pos c]
        exact ⟨n, r, by omega, e, c.1, rfl⟩
      · rename_i c
        rw [if_neg c]
        obtain ⟨k, r', h1, h2, h3, h4⟩ := bsF_ex n h
        exact ⟨k, r', by omega, h2, h3, h4⟩
    · obtain ⟨k, r', h1, h2, h3, h4⟩ := bsF_ex n h
      exact ⟨k, r', by omega, h2, h3, h4⟩
theorem gm_ex : ∀ n, 0 < gmF pq a n → ∃ k r, k < n ∧ pq (a + k) = some r ∧ rkT pq a n (a + k) = gmF pq a n
  | 0, h => by simp [gmF] at h
  | n + 1, h => by
    rw [gmF] at h ⊢
    split at h
    · rename_i c
      rw [if_pos c]
      cases e : pq (a + n) with
      | none => rw [rk_none (by omega) e] at c; omega
      | some r => exact ⟨n, r, by omega, e, rfl⟩
    · rename_i c
      rw [if_neg c]
      obtain ⟨k, r, h1, h2, h3⟩ := gm_ex n h
      exact ⟨k, r, by omega, h2, by rw [rkT_eq (n := n) (by omega) (by omega)]; exact h3⟩
theorem gm_0 : ∀ n, gmF pq a n = 0 → ∀ k, k < n → pq (a + k) = none
  | 0, _, k, hk => by omega
  | n + 1, h, k, hk => by
    rw [gmF] at h
    have h0 : gmF pq a n = 0 := by split at h <;> omega
    have hr : rkT pq a (n + 1) (a + n) = 0 := by
      split at h
      · omega
      · omega
    by_cases c : k = n
    · subst c
      cases e : pq (a + k) with
      | none => rfl
      | some r => rw [rk_some (by omega) e] at hr; omega
    · exact gm_0 n h0 k (by omega)
theorem pc_0 : ∀ n, (∀ k, k < n → pq (a + k) = none) → pcF pq a n = 0
  | 0, _ => rfl
  | n + 1, h => by rw [pcF, pc_0 n (fun k hk => h k (by omega)), h n (by omega)]; rfl
theorem pc_mono {n : Nat} : ∀ m, pcF pq a n ≤ pcF pq a (n + m)
  | 0 => Nat.le_refl _
  | m + 1 => by
    have := pc_mono (n := n) m
    rw [show n + (m + 1) = (n + m) + 1 by omega, pcF]
    omega
theorem pc_lt {n m r : Nat} (h : n < m) (hp : pq (a + n) = some r) : pcF pq a n < pcF pq a m := by
  have := pc_mono (pq := pq) (a := a) (n := n + 1) (m - (n + 1))
  rw [show n + 1 + (m - (n + 1)) = m by omega, pcF, hp] at this
  simp at this
  omega
theorem pc_le : ∀ n, pcF pq a n ≤ n
  | 0 => Nat.le_refl _
  | n + 1 => by
    have := pc_le n
    rw [pcF]
    split <;> omega
end RK
