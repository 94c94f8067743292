/-! reading a patch: what the paper says -/
def ch (l : List Int32) (i : Nat) : Int32 := if i < l.length then l.getD i 0 else -1
theorem ch_in {l : List Int32} {i : Nat} (h : i < l.length) : ch l i = l.getD i 0 := if_pos h
theorem ch_out {l : List Int32} {i : Nat} (h : ¬ i < l.length) : ch l i = -1 := if_neg h
theorem ch_lt {l : List Int32} {i c : Nat} (hc : c < 2 ^ 31) (h : ch l i = nI c) : i < l.length := by
  refine Decidable.byContradiction fun z => ?_
  rw [ch_out z] at h
  exact m1_ne hc h.symm
def isD (x : Int32) : Bool := decide (¬ x < nI 48 ∧ ¬ nI 57 < x)
def dg (x : Int32) : Option Nat := if isD x = true then some (x.toNatClampNeg - 48) else none
theorem dg_some {x : Int32} {k : Nat} (h : dg x = some k) : isD x = true ∧ x = nI (48 + k) ∧ k ≤ 9 := by
  unfold dg at h
  split at h
  · rename_i hd
    refine ⟨hd, ?_⟩
    have h2 := of_decide_eq_true hd
    have h0 : ¬ x < 0 := fun z => h2.1 (by
      rw [Int32.lt_iff_toInt_lt] at z ⊢
      rw [nI_toInt (by omega)]
      rw [show (0 : Int32).toInt = 0 from rfl] at z
      omega)
    obtain ⟨j, hj, rfl⟩ := nI_of h0
    rw [nI_ltI hj (by omega), nI_ltI (by omega) hj] at h2
    rw [nI_clamp hj] at h
    simp at h
    exact ⟨by rw [show 48 + k = j by omega], by omega⟩
  · cases h
theorem dg_none {x : Int32} (h : dg x = none) : isD x = false := by
  unfold dg at h
  split at h
  · cases h
  · rename_i z; simpa using z
theorem isLet_lt {l : List Int32} {i : Nat} (h : isLet (ch l i) = true) : i < l.length := by
  refine Decidable.byContradiction fun z => ?_
  rw [ch_out z] at h
  exact absurd h (by decide)
def sgn (l : List Int32) (c i : Nat) : Except Nat Nat := if ch l i = nI c then .ok (i + 1) else .error i
def num (l : List Int32) (i : Nat) : Except Nat (Nat × Nat) := match dg (ch l i) with
  | none => .error i
  | some 0 => .ok (0, i + 1)
  | some (v + 1) => match dg (ch l (i + 1)) with
    | none => .ok (v + 1, i + 1)
    | some w => .ok (10 * (v + 1) + w, i + 2)
def hdr (l : List Int32) (i : Nat) : Except Nat (Nat × Nat × Nat × Nat) := match sgn l 64 i with
  | .error e => .error e
  | .ok p => match num l p with
    | .error e => .error e
    | .ok (a, p) => match sgn l 44 p with
      | .error e => .error e
      | .ok p => match num l p with
        | .error e => .error e
        | .ok (o, p) => match sgn l 32 p with
          | .error e => .error e
          | .ok p => match num l p with
            | .error e => .error e
            | .ok (_, p) => match sgn l 44 p with
              | .error e => .error e
              | .ok p => match num l p with
                | .error e => .error e
                | .ok (n, p) => if o + n = 0 then .error p else match sgn l 10 p with
                  | .error e => .error e
                  | .ok p => .ok (a, o, n, p)
def may (c : Int32) (o n : Nat) : Bool := decide ((c = nI 32 ∧ 0 < o ∧ 0 < n) ∨ (c = nI 45 ∧ 0 < o) ∨ (c = nI 43 ∧ 0 < n))
theorem may_t {c : Int32} {o n : Nat} : may c o n = true ↔ (c = nI 32 ∧ 0 < o ∧ 0 < n) ∨ (c = nI 45 ∧ 0 < o) ∨ (c = nI 43 ∧ 0 < n) := decide_eq_true_iff
def dO (c : Int32) (o : Nat) : Nat := if c = nI 43 then o else o - 1
def dN (c : Int32) (n : Nat) : Nat := if c = nI 45 then n else n - 1
def lns (l : List Int32) : Nat → Nat → Nat → Nat → Except Nat (List (Int32 × Int32) × Nat)
  | 0, _, _, i => .ok ([], i)
  | f + 1, o, n, i => if o = 0 ∧ n = 0 then .ok ([], i) else if may (ch l i) o n = true then (if isLet (ch l (i + 1)) = true then (if ch l (i + 2) = nI 10 then (match lns l f (dO (ch l i) o) (dN (ch l i) n) (i + 3) with
    | .error e => .error e
    | .ok (L, p) => .ok ((ch l i, ch l (i + 1)) :: L, p)) else .error (i + 2)) else .error (i + 1)) else .error i
def oldL (L : List (Int32 × Int32)) : List Int32 := (L.filter (fun x => decide (¬ x.1 = nI 43))).map Prod.snd
def newL (L : List (Int32 × Int32)) : List Int32 := (L.filter (fun x => decide (¬ x.1 = nI 45))).map Prod.snd
theorem may_d {c : Int32} {o n : Nat} (h : may c o n = true) : dO c o + dN c n + 1 ≤ o + n ∧ dO c o ≤ o ∧ dN c n ≤ n := by
  have h1 : ¬ nI 45 = nI 43 := by decide
  have h2 : ¬ nI 32 = nI 43 := by decide
  have h3 : ¬ nI 32 = nI 45 := by decide
  rcases may_t.mp h with ⟨rfl, h⟩ | ⟨rfl, h⟩ | ⟨rfl, h⟩
  · rw [dO, dN, if_neg h2, if_neg h3]; omega
  · rw [dO, dN, if_neg h1, if_pos rfl]; omega
  · rw [dO, dN, if_pos rfl, if_neg (Ne.symm h1)]; omega
/-- what the lines that were read are -/
theorem lns_ok {l : List Int32} : ∀ (f o n i : Nat) (L : List (Int32 × Int32)) (p : Nat), o + n ≤ f → i ≤ l.length → lns l f o n i = .ok (L, p) → p = i + 3 * L.length ∧ p ≤ l.length ∧ (oldL L).length = o ∧ (newL L).length = n ∧ (∀ k, k < L.length → L.getD k (0, 0) = (l.getD (i + 3 * k) 0, l.getD (i + 3 * k + 1) 0)) ∧ (0 < o + n → 0 < L.length) := by
  intro f
  induction f with
  | zero =>
    intro o n i L p hf hi h
    simp only [lns, Except.ok.injEq, Prod.mk.injEq] at h
    obtain ⟨rfl, rfl⟩ := h
    exact ⟨by simp, hi, by simp [oldL]; omega, by simp [newL]; omega, fun k hk => by simp at hk, fun z => by omega⟩
  | succ f ih =>
    intro o n i L p hf hi h
    unfold lns at h
    split at h
    · rename_i h0
      simp only [Except.ok.injEq, Prod.mk.injEq] at h
      obtain ⟨rfl, rfl⟩ := h
      exact ⟨by simp, hi, by simp [oldL]; omega, by simp [newL]; omega, fun k hk => by simp at hk, fun z => by omega⟩
    · split at h
      · rename_i hm
        split at h
        · rename_i hl
          split at h
          · rename_i h10
            have i2 := ch_lt (by omega) h10
            have md := may_d hm
            split at h
            · cases h
            · rename_i L' p' e
              simp only [Except.ok.injEq, Prod.mk.injEq] at h
              obtain ⟨rfl, rfl⟩ := h
              obtain ⟨a1, a2, a3, a4, a5, a6⟩ := ih _ _ _ _ _ (by omega) (by omega) e
              have c1 : ch l i = l.getD i 0 := ch_in (by omega)
              have c2 : ch l (i + 1) = l.getD (i + 1) 0 := ch_in (by omega)
              have n1 : ¬ nI 45 = nI 43 := by decide
              have n2 : ¬ nI 32 = nI 43 := by decide
              have n3 : ¬ nI 32 = nI 45 := by decide
              refine ⟨by simp only [List.length_cons]; omega, a2, ?_, ?_, fun k hk => ?_, fun _ => by simp⟩
              · rcases may_t.mp hm with ⟨hc, h⟩ | ⟨hc, h⟩ | ⟨hc, h⟩
                · rw [dO, hc, if_neg n2] at a3
                  simp only [oldL, hc, n2, List.filter_cons, not_false_eq_true, decide_true, if_true, List.map_cons, List.length_cons] at a3 ⊢
                  omega
                · rw [dO, hc, if_neg n1] at a3
                  simp only [oldL, hc, n1, List.filter_cons, not_false_eq_true, decide_true, if_true, List.map_cons, List.length_cons] at a3 ⊢
                  omega
                · rw [dO, hc, if_pos rfl] at a3
                  simp only [oldL, hc, List.filter_cons, not_true_eq_false, decide_false, Bool.false_eq_true, if_false] at a3 ⊢
                  exact a3
              · rcases may_t.mp hm with ⟨hc, h⟩ | ⟨hc, h⟩ | ⟨hc, h⟩
                · rw [dN, hc, if_neg n3] at a4
                  simp only [newL, hc, n3, List.filter_cons, not_false_eq_true, decide_true, if_true, List.map_cons, List.length_cons] at a4 ⊢
                  omega
                · rw [dN, hc, if_pos rfl] at a4
                  simp only [newL, hc, List.filter_cons, not_true_eq_false, decide_false, Bool.false_eq_true, if_false] at a4 ⊢
                  exact a4
                · rw [dN, hc, if_neg (Ne.symm n1)] at a4
                  simp only [newL, hc, Ne.symm n1, List.filter_cons, not_false_eq_true, decide_true, if_true, List.map_cons, List.length_cons] at a4 ⊢
                  omega
              · cases k with
                | zero => simp [c1, c2]
                | succ k =>
                  have := a5 k (by simp at hk; omega)
                  rw [show i + 3 * (k + 1) = i + 3 + 3 * k by omega]
                  simpa using this
          · cases h
        · cases h
      · cases h
abbrev HK : Type := Nat × Nat × List (Int32 × Int32)
/-- one hunk: the place it names, where its lines begin, its lines; and what stands behind it -/
def hnk (l : List Int32) (i : Nat) : Except Nat (HK × Nat) := match hdr l i with
  | .error e => .error e
  | .ok (a, o, n, p) => match lns l (o + n) o n p with
    | .error e => .error e
    | .ok (L, q) => .ok ((a, p, L), q)
def hks (l : List Int32) : Nat → Nat → Except Nat (List HK)
  | 0, _ => .ok []
  | f + 1, i => if l.length ≤ i then .ok [] else match hnk l i with
    | .error e => .error e
    | .ok (h, p) => match hks l f p with
      | .error e => .error e
      | .ok r => .ok (h :: r)
theorem sgn_ok {l : List Int32} {c i p : Nat} (hc : c < 2 ^ 31) (h : sgn l c i = .ok p) : p = i + 1 ∧ p ≤ l.length := by
  unfold sgn at h
  split at h
  · rename_i z
    have := ch_lt hc z
    cases h
    exact ⟨rfl, by omega⟩
  · cases h
theorem sgn_er {l : List Int32} {c i e : Nat} (h : sgn l c i = .error e) : e = i := by
  unfold sgn at h
  split at h
  · cases h
  · cases h; rfl
theorem num_ok {l : List Int32} {i v p : Nat} (h : num l i = .ok (v, p)) : v ≤ 99 ∧ i + 1 ≤ p ∧ p ≤ l.length := by
  unfold num at h
  split at h
  · cases h
  · rename_i e
    have := dg_some e
    have i1 := ch_lt (by omega) this.2.1
    cases h
    omega
  · rename_i v' e
    have k1 := dg_some e
    have i1 := ch_lt (by omega) k1.2.1
    split at h
    · cases h; omega
    · rename_i w e2
      have k2 := dg_some e2
      have i2 := ch_lt (by omega) k2.2.1
      cases h
      omega
theorem num_er {l : List Int32} {i e : Nat} (h : num l i = .error e) : e = i := by
  unfold num at h
  split at h
  · cases h; rfl
  · cases h
  · split at h <;> cases h
theorem hdr_ok {l : List Int32} {i a o n p : Nat} (h : hdr l i = .ok (a, o, n, p)) : a ≤ 99 ∧ o ≤ 99 ∧ n ≤ 99 ∧ 0 < o + n ∧ i + 9 ≤ p ∧ p ≤ l.length := by
  unfold hdr at h
  split at h
  · cases h
  rename_i e1
  have k1 := sgn_ok (by omega) e1
  split at h
  · cases h
  rename_i e2
  have k2 := num_ok e2
  split at h
  · cases h
  rename_i e3
  have k3 := sgn_ok (by omega) e3
  split at h
  · cases h
  rename_i e4
  have k4 := num_ok e4
  split at h
  · cases h
  rename_i e5
  have k5 := sgn_ok (by omega) e5
  split at h
  · cases h
  rename_i e6
  have k6 := num_ok e6
  split at h
  · cases h
  rename_i e7
  have k7 := sgn_ok (by omega) e7
  split at h
  · cases h
  rename_i e8
  have k8 := num_ok e8
  split at h
  · cases h
  split at h
  · cases h
  rename_i e9
  have k9 := sgn_ok (by omega) e9
  cases h
  omega
theorem hnk_ok {l : List Int32} {i q a p : Nat} {L : List (Int32 × Int32)} (h : hnk l i = .ok ((a, p, L), q)) : a ≤ 99 ∧ i + 12 ≤ q ∧ q = p + 3 * L.length ∧ q ≤ l.length ∧ (oldL L).length ≤ 99 ∧ (newL L).length ≤ 99 ∧ (∀ k, k < L.length → L.getD k (0, 0) = (l.getD (p + 3 * k) 0, l.getD (p + 3 * k + 1) 0)) := by
  unfold hnk at h
  split at h
  · cases h
  rename_i e1
  have k1 := hdr_ok e1
  split at h
  · cases h
  rename_i e2
  have k2 := lns_ok _ _ _ _ _ _ (Nat.le_refl _) (by omega) e2
  cases h
  refine ⟨by omega, by omega, by omega, by omega, by omega, by omega, k2.2.2.2.2.1⟩
