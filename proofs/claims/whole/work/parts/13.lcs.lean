/-! the longest common lines of two ranges, and the way through the table -/
def lcRow (prev : Nat → Nat) (eq : Nat → Bool) : Nat → Nat
  | 0 => 0
  | n + 1 => if eq n then prev n + 1 else max (prev (n + 1)) (lcRow prev eq n)
def lcN (a b : Nat → Int32) (xe ye : Nat) : Nat → Nat → Nat
  | 0 => fun _ => 0
  | m + 1 => lcRow (lcN a b xe ye m) (fun n => decide (a (xe - (m + 1)) = b (ye - (n + 1))))
def lc (a b : Nat → Int32) (xe ye i j : Nat) : Nat := lcN a b xe ye (xe - i) (ye - j)
section LCA
variable {a b : Nat → Int32} {xe ye : Nat}
theorem lcN_0r (m : Nat) : lcN a b xe ye m 0 = 0 := by
  cases m with
  | zero => rfl
  | succ m => rfl
theorem lcN_ss (m n : Nat) : lcN a b xe ye (m + 1) (n + 1) = if a (xe - (m + 1)) = b (ye - (n + 1)) then lcN a b xe ye m n + 1 else max (lcN a b xe ye m (n + 1)) (lcN a b xe ye (m + 1) n) := by
  show (if decide (a (xe - (m + 1)) = b (ye - (n + 1))) = true then _ else _) = _
  by_cases h : a (xe - (m + 1)) = b (ye - (n + 1))
  · rw [if_pos h, decide_eq_true h, if_pos rfl]
  · rw [if_neg h, decide_eq_false h, if_neg (by decide)]
    rfl
theorem lcN_le : ∀ m n, lcN a b xe ye m n ≤ m := by
  intro m
  induction m with
  | zero => intro n; exact Nat.le_refl _
  | succ m ih =>
    intro n
    induction n with
    | zero => rw [lcN_0r]; exact Nat.zero_le _
    | succ n ih2 =>
      rw [lcN_ss]
      have h1 := ih n
      have h2 := ih (n + 1)
      split <;> omega
theorem lcN_CB : ∀ m, (∀ n, lcN a b xe ye m (n + 1) ≤ lcN a b xe ye m n + 1) ∧ ∀ n, lcN a b xe ye m n ≤ lcN a b xe ye (m + 1) n := by
  intro m
  induction m with
  | zero => exact ⟨fun n => Nat.zero_le _, fun n => Nat.zero_le _⟩
  | succ m ih =>
    have hC : ∀ n, lcN a b xe ye (m + 1) (n + 1) ≤ lcN a b xe ye (m + 1) n + 1 := by
      intro n
      have h1 := ih.1 n
      have h2 := ih.2 n
      rw [lcN_ss]
      split <;> omega
    refine ⟨hC, fun n => ?_⟩
    cases n with
    | zero => rw [lcN_0r]; exact Nat.zero_le _
    | succ n =>
      rw [lcN_ss (m + 1) n]
      have h1 := hC n
      split <;> omega
theorem lcN_AD : ∀ m, (∀ n, lcN a b xe ye m n ≤ lcN a b xe ye m (n + 1)) ∧ ∀ n, lcN a b xe ye (m + 1) n ≤ lcN a b xe ye m n + 1 := by
  intro m
  have hD : ∀ m, (∀ n, lcN a b xe ye m n ≤ lcN a b xe ye m (n + 1)) → ∀ n, lcN a b xe ye (m + 1) n ≤ lcN a b xe ye m n + 1 := by
    intro m hA n
    induction n with
    | zero => rw [lcN_0r]; exact Nat.zero_le _
    | succ n ih =>
      have h1 := hA n
      rw [lcN_ss]
      split <;> omega
  induction m with
  | zero => exact ⟨fun n => Nat.zero_le _, hD 0 (fun n => Nat.zero_le _)⟩
  | succ m ih =>
    have hA : ∀ n, lcN a b xe ye (m + 1) n ≤ lcN a b xe ye (m + 1) (n + 1) := by
      intro n
      have h1 := ih.2 n
      rw [lcN_ss]
      split <;> omega
    exact ⟨hA, hD (m + 1) hA⟩
theorem lc_end {i j : Nat} (h : xe ≤ i ∨ ye ≤ j) : lc a b xe ye i j = 0 := by
  unfold lc
  rcases h with h | h
  · rw [show xe - i = 0 by omega]; rfl
  · rw [show ye - j = 0 by omega]; exact lcN_0r _
theorem lc_eq {i j : Nat} (hi : i < xe) (hj : j < ye) : lc a b xe ye i j = if a i = b j then lc a b xe ye (i + 1) (j + 1) + 1 else max (lc a b xe ye (i + 1) j) (lc a b xe ye i (j + 1)) := by
  unfold lc
  obtain ⟨m, hm⟩ : ∃ m, xe - i = m + 1 := ⟨xe - i - 1, by omega⟩
  obtain ⟨n, hn⟩ : ∃ n, ye - j = n + 1 := ⟨ye - j - 1, by omega⟩
  rw [hm, hn, lcN_ss, show xe - (m + 1) = i by omega, show ye - (n + 1) = j by omega, show xe - (i + 1) = m by omega, show ye - (j + 1) = n by omega]
theorem lc_le (i j : Nat) : lc a b xe ye i j ≤ xe - i := lcN_le _ _
theorem lc_d {i j : Nat} (hj : j < ye) : lc a b xe ye (i + 1) j ≤ lc a b xe ye (i + 1) (j + 1) + 1 := by
  unfold lc
  rw [show ye - j = (ye - (j + 1)) + 1 by omega]
  exact (lcN_CB _).1 _
theorem lc_r {i j : Nat} (hi : i < xe) : lc a b xe ye i (j + 1) ≤ lc a b xe ye (i + 1) (j + 1) + 1 := by
  unfold lc
  rw [show xe - i = (xe - (i + 1)) + 1 by omega]
  exact (lcN_AD _).2 _
/-- the way: who is matched with whom -/
def wkF (a b : Nat → Int32) (xe ye : Nat) : Nat → Nat → Nat → Nat → Option Nat
  | 0, _, _ => fun _ => none
  | f + 1, i, j => if i < xe ∧ j < ye then (if a i = b j then upf (wkF a b xe ye f (i + 1) (j + 1)) i j else if lc a b xe ye (i + 1) j < lc a b xe ye i (j + 1) then wkF a b xe ye f i (j + 1) else wkF a b xe ye f (i + 1) j) else fun _ => none
theorem wk_in : ∀ (f i j q r : Nat), wkF a b xe ye f i j q = some r → i ≤ q ∧ q < xe ∧ j ≤ r ∧ r < ye := by
  intro f
  induction f with
  | zero => intro i j q r h; cases h
  | succ f ih =>
    intro i j q r h
    unfold wkF at h
    split at h
    · rename_i hc
      split at h
      · by_cases e : q = i
        · simp [upf, e] at h
          omega
        · simp only [upf, if_neg e] at h
          have := ih _ _ _ _ h
          omega
      · split at h
        · have := ih _ _ _ _ h
          omega
        · have := ih _ _ _ _ h
          omega
    · cases h
theorem wk_mono : ∀ (f i j q r q' r' : Nat), wkF a b xe ye f i j q = some r → wkF a b xe ye f i j q' = some r' → q < q' → r < r' := by
  intro f
  induction f with
  | zero => intro i j q r q' r' h; cases h
  | succ f ih =>
    intro i j q r q' r' h h' hq
    unfold wkF at h h'
    split at h
    · rename_i hc
      rw [if_pos hc] at h'
      split at h
      · rename_i he
        rw [if_pos he] at h'
        by_cases e : q = i
        · simp [upf, e] at h
          have e' : q' ≠ i := by omega
          simp only [upf, if_neg e'] at h'
          have := wk_in _ _ _ _ _ h'
          omega
        · simp only [upf, if_neg e] at h
          have k1 := wk_in _ _ _ _ _ h
          have e' : q' ≠ i := by omega
          simp only [upf, if_neg e'] at h'
          exact ih _ _ _ _ _ _ h h' hq
      · rename_i he
        rw [if_neg he] at h'
        split at h
        · rename_i hl
          rw [if_pos hl] at h'
          exact ih _ _ _ _ _ _ h h' hq
        · rename_i hl
          rw [if_neg hl] at h'
          exact ih _ _ _ _ _ _ h h' hq
    · cases h
end LCA
def ovr (w pf : Nat → Option Nat) : Nat → Option Nat := fun q => match w q with
  | some j => some j
  | none => pf q
theorem ovr_none {pf : Nat → Option Nat} : ovr (fun _ => none) pf = pf := rfl
theorem ovr_up {w pf : Nat → Option Nat} {i j : Nat} (h : w i = none) : ovr w (upf pf i j) = ovr (upf w i j) pf := by
  funext q
  by_cases e : q = i
  · subst e
    simp [ovr, upf, h]
  · simp [ovr, upf, e]
theorem m1_lt {n : Nat} (h : n < 2 ^ 31) : nI n + (-1) < nI n := by
  cases n with
  | zero => decide
  | succ n =>
    rw [pk_m1]
    exact nI_lt (by omega) h
theorem m1_nlt {n x : Nat} (h : x < n) (hn : n < 2 ^ 31) : ¬ nI n + (-1) < nI x := by
  rw [sb_m1 (by omega)]
  exact nI_nlt (by omega) (by omega)
