/-! write: the row of kept, taken out and put in lines, and the changes in it -/
def ro (xs ys : List Int32) (pf : Nat → Option Nat) : Nat → Nat → Nat → List (Int32 × Int32)
  | 0, _, _ => []
  | f + 1, i, j => if i < xs.length then (match pf i with
    | none => (nI 45, xs.getD i 0) :: ro xs ys pf f (i + 1) j
    | some r => if j < r then (nI 43, ys.getD j 0) :: ro xs ys pf f i (j + 1) else (nI 32, xs.getD i 0) :: ro xs ys pf f (i + 1) (j + 1)) else if j < ys.length then (nI 43, ys.getD j 0) :: ro xs ys pf f i (j + 1) else []
def kd (R : List (Int32 × Int32)) (p : Nat) : Int32 := (R.getD p (0, 0)).1
def lw (R : List (Int32 × Int32)) (p : Nat) : Int32 := (R.getD p (0, 0)).2
def cN (R : List (Int32 × Int32)) (c : Nat) : Nat → Nat
  | 0 => 0
  | p + 1 => cN R c p + (if kd R p = nI c then 0 else 1)
theorem dr_cons {R t : List (Int32 × Int32)} {p : Nat} {a : Int32 × Int32} (h : R.drop p = a :: t) : p < R.length ∧ kd R p = a.1 ∧ lw R p = a.2 ∧ R.drop (p + 1) = t := by
  have h1 : p < R.length := by
    have := congrArg List.length h
    simp at this
    omega
  rw [List.drop_eq_getElem_cons h1] at h
  have e := (List.cons.inj h)
  have e1 : R.getD p (0, 0) = a := by simp [List.getD_eq_getElem?_getD, h1, e.1]
  exact ⟨h1, by rw [kd, e1], by rw [lw, e1], e.2⟩
theorem cN_all {R : List (Int32 × Int32)} {c p : Nat} : ∀ k, (∀ q, q < k → ¬ kd R (p + q) = nI c) → cN R c (p + k) = cN R c p + k
  | 0, _ => rfl
  | k + 1, h => by
    rw [show p + (k + 1) = (p + k) + 1 by omega, cN, cN_all k (fun q hq => h q (by omega)), if_neg (h k (by omega))]
    omega
theorem cN_no {R : List (Int32 × Int32)} {c p : Nat} : ∀ k, (∀ q, q < k → kd R (p + q) = nI c) → cN R c (p + k) = cN R c p
  | 0, _ => rfl
  | k + 1, h => by
    rw [show p + (k + 1) = (p + k) + 1 by omega, cN, cN_no k (fun q hq => h q (by omega)), if_pos (h k (by omega))]
    omega
theorem cN_le {R : List (Int32 × Int32)} {c : Nat} : ∀ p, cN R c p ≤ p
  | 0 => Nat.le_refl _
  | p + 1 => by
    have := cN_le (R := R) (c := c) p
    rw [cN]
    split <;> omega
theorem cN_mono {R : List (Int32 × Int32)} {c p : Nat} : ∀ k, cN R c p ≤ cN R c (p + k)
  | 0 => Nat.le_refl _
  | k + 1 => by
    have := cN_mono (R := R) (c := c) (p := p) k
    rw [show p + (k + 1) = (p + k) + 1 by omega, cN]
    omega
theorem k5_3 : ¬ nI 45 = nI 43 := by decide
theorem k2_3 : ¬ nI 32 = nI 43 := by decide
theorem k2_5 : ¬ nI 32 = nI 45 := by decide
section ROW
variable {xs ys : List Int32} {pf : Nat → Option Nat} {R : List (Int32 × Int32)}
/-- at place p of the row i lines of x and j of y are behind -/
def rA (xs ys : List Int32) (pf : Nat → Option Nat) (R : List (Int32 × Int32)) (p i j : Nat) : Prop := p ≤ R.length ∧ cN R 43 p = i ∧ cN R 45 p = j ∧ ∃ F, (xs.length - i) + (ys.length - j) ≤ F ∧ R.drop p = ro xs ys pf F i j
theorem rA_del {p i j : Nat} (h : rA xs ys pf R p i j) (hi : i < xs.length) (hn : pf i = none) : p < R.length ∧ kd R p = nI 45 ∧ lw R p = xs.getD i 0 ∧ rA xs ys pf R (p + 1) (i + 1) j := by
  obtain ⟨h1, h2, h3, F, h4, h5⟩ := h
  cases F with
  | zero => omega
  | succ F =>
    rw [ro, if_pos hi, hn] at h5
    obtain ⟨a1, a2, a3, a4⟩ := dr_cons h5
    refine ⟨a1, a2, a3, by omega, ?_, ?_, F, by omega, a4⟩
    · rw [cN, a2, if_neg k5_3, h2]
    · rw [cN, a2, if_pos rfl, h3]; rfl
theorem rA_ins {p i j : Nat} (h : rA xs ys pf R p i j) (hi : (i < xs.length ∧ ∃ r, pf i = some r ∧ j < r ∧ r ≤ ys.length) ∨ (¬ i < xs.length ∧ j < ys.length)) : p < R.length ∧ kd R p = nI 43 ∧ lw R p = ys.getD j 0 ∧ rA xs ys pf R (p + 1) i (j + 1) := by
  obtain ⟨h1, h2, h3, F, h4, h5⟩ := h
  have hj : j < ys.length := by
    rcases hi with ⟨_, r, _, _, _⟩ | ⟨_, _⟩ <;> omega
  cases F with
  | zero => omega
  | succ F =>
    have h6 : R.drop p = (nI 43, ys.getD j 0) :: ro xs ys pf F i (j + 1) := by
      rw [h5, ro]
      rcases hi with ⟨a, r, b, c, _⟩ | ⟨a, b⟩
      · rw [if_pos a, b]; dsimp only; rw [if_pos c]
      · rw [if_neg a, if_pos b]
    obtain ⟨a1, a2, a3, a4⟩ := dr_cons h6
    refine ⟨a1, a2, a3, by omega, ?_, ?_, F, by omega, a4⟩
    · rw [cN, a2, if_pos rfl, h2]; rfl
    · rw [cN, a2, if_neg (Ne.symm k5_3), h3]
theorem rA_keep {p i j r : Nat} (h : rA xs ys pf R p i j) (hi : i < xs.length) (hr : pf i = some r) (hj : ¬ j < r) : p < R.length ∧ kd R p = nI 32 ∧ lw R p = xs.getD i 0 ∧ rA xs ys pf R (p + 1) (i + 1) (j + 1) := by
  obtain ⟨h1, h2, h3, F, h4, h5⟩ := h
  cases F with
  | zero => omega
  | succ F =>
    rw [ro, if_pos hi, hr] at h5
    dsimp only at h5
    rw [if_neg hj] at h5
    obtain ⟨a1, a2, a3, a4⟩ := dr_cons h5
    refine ⟨a1, a2, a3, by omega, ?_, ?_, F, by omega, a4⟩
    · rw [cN, a2, if_neg k2_3, h2]
    · rw [cN, a2, if_neg k2_5, h3]
theorem rA_end {p i j : Nat} (h : rA xs ys pf R p i j) (hi : ¬ i < xs.length) (hj : ¬ j < ys.length) : p = R.length := by
  obtain ⟨h1, h2, h3, F, h4, h5⟩ := h
  have : R.drop p = [] := by
    rw [h5]
    cases F with
    | zero => rfl
    | succ F => rw [ro, if_neg hi, if_neg hj]
  have := congrArg List.length this
  simp at this
  omega
theorem wk_del {j : Nat} : ∀ (k p i : Nat), rA xs ys pf R p i j → i + k ≤ xs.length → (∀ q, q < k → pf (i + q) = none) → rA xs ys pf R (p + k) (i + k) j ∧ ∀ q, q < k → kd R (p + q) = nI 45 ∧ lw R (p + q) = xs.getD (i + q) 0 := by
  intro k
  induction k with
  | zero => intro p i h hk hn; exact ⟨h, fun q hq => by omega⟩
  | succ k ih =>
    intro p i h hk hn
    obtain ⟨a1, a2, a3, a4⟩ := rA_del h (by omega) (hn 0 (by omega))
    obtain ⟨b1, b2⟩ := ih (p + 1) (i + 1) a4 (by omega) (fun q hq => by rw [show i + 1 + q = i + (q + 1) by omega]; exact hn (q + 1) (by omega))
    refine ⟨by rw [show p + (k + 1) = p + 1 + k by omega, show i + (k + 1) = i + 1 + k by omega]; exact b1, fun q hq => ?_⟩
    cases q with
    | zero => exact ⟨a2, a3⟩
    | succ q =>
      rw [show p + (q + 1) = p + 1 + q by omega, show i + (q + 1) = i + 1 + q by omega]
      exact b2 q (by omega)
theorem wk_ins {i r : Nat} (hi : (i < xs.length ∧ pf i = some r ∧ r ≤ ys.length) ∨ (¬ i < xs.length ∧ r = ys.length)) : ∀ (k p j : Nat), rA xs ys pf R p i j → j + k ≤ r → rA xs ys pf R (p + k) i (j + k) ∧ ∀ q, q < k → kd R (p + q) = nI 43 ∧ lw R (p + q) = ys.getD (j + q) 0 := by
  intro k
  induction k with
  | zero => intro p j h hk; exact ⟨h, fun q hq => by omega⟩
  | succ k ih =>
    intro p j h hk
    obtain ⟨a1, a2, a3, a4⟩ := rA_ins h (by
      rcases hi with ⟨b1, b2, b3⟩ | ⟨b1, b2⟩
      · exact Or.inl ⟨b1, r, b2, by omega, b3⟩
      · exact Or.inr ⟨b1, by omega⟩)
    obtain ⟨b1, b2⟩ := ih (p + 1) (j + 1) a4 (by omega)
    refine ⟨by rw [show p + (k + 1) = p + 1 + k by omega, show j + (k + 1) = j + 1 + k by omega]; exact b1, fun q hq => ?_⟩
    cases q with
    | zero => exact ⟨a2, a3⟩
    | succ q =>
      rw [show p + (q + 1) = p + 1 + q by omega, show j + (q + 1) = j + 1 + q by omega]
      exact b2 q (by omega)
end ROW
/-- a change: where it begins in the row, and its lines of x and of y -/
abbrev RU : Type := Nat × Nat × Nat × Nat × Nat
def ux (u : RU) : Nat := u.2.1
def uX (u : RU) : Nat := u.2.2.1
def uy (u : RU) : Nat := u.2.2.2.1
def uY (u : RU) : Nat := u.2.2.2.2
def um (u : RU) : Nat := u.1 + (uX u - ux u)
def ue (u : RU) : Nat := u.1 + (uX u - ux u) + (uY u - uy u)
def kpt (xs : List Int32) (R : List (Int32 × Int32)) (a b : Nat) : Prop := b ≤ R.length ∧ ∀ r, a ≤ r → r < b → kd R r = nI 32 ∧ lw R r = xs.getD (cN R 43 r) 0
def okU (xs ys : List Int32) (R : List (Int32 × Int32)) (u : RU) : Prop := u.1 < ue u ∧ ue u ≤ R.length ∧ ux u ≤ uX u ∧ uX u ≤ xs.length ∧ uy u ≤ uY u ∧ uY u ≤ ys.length ∧ cN R 43 u.1 = ux u ∧ cN R 43 (ue u) = uX u ∧ cN R 45 u.1 = uy u ∧ cN R 45 (ue u) = uY u ∧ (∀ q, q < uX u - ux u → kd R (u.1 + q) = nI 45 ∧ lw R (u.1 + q) = xs.getD (ux u + q) 0) ∧ (∀ q, q < uY u - uy u → kd R (um u + q) = nI 43 ∧ lw R (um u + q) = ys.getD (uy u + q) 0)
def okR (xs ys : List Int32) (R : List (Int32 × Int32)) : Nat → List RU → Prop
  | q, [] => q ≤ R.length ∧ kpt xs R q R.length
  | q, u :: t => q ≤ u.1 ∧ kpt xs R q u.1 ∧ okU xs ys R u ∧ okR xs ys R (ue u) t
def kr (p x xe y ye : Nat) : List RU := if x < xe ∨ y < ye then [(p, x, xe, y, ye)] else []
def rnF (n m : Nat) (pf : Nat → Option Nat) : Nat → Nat → Nat → Nat → Nat → List RU
  | 0, _, x, y, p => kr p x n y m
  | f + 1, i, x, y, p => match pf i with
    | none => rnF n m pf f (i + 1) x y p
    | some j => kr p x i y j ++ rnF n m pf f (i + 1) (i + 1) (j + 1) (p + (i - x) + (j - y) + 1)
theorem kpt.up {xs : List Int32} {R : List (Int32 × Int32)} {a b : Nat} (h : kpt xs R a b) (hb : b < R.length) (h1 : kd R b = nI 32) (h2 : lw R b = xs.getD (cN R 43 b) 0) : kpt xs R a (b + 1) := ⟨by omega, fun r ha hr => by
  by_cases e : r = b
  · subst e; exact ⟨h1, h2⟩
  · exact h.2 r ha (by omega)⟩
theorem kr_ok {xs ys : List Int32} {pf : Nat → Option Nat} {R : List (Int32 × Int32)} {p x y i r : Nat} (h : rA xs ys pf R p x y) (hx : x ≤ i) (hi : i ≤ xs.length) (hn : ∀ q, x ≤ q → q < i → pf q = none) (hy : y ≤ r) (hr : (i < xs.length ∧ pf i = some r ∧ r ≤ ys.length) ∨ (¬ i < xs.length ∧ r = ys.length)) : rA xs ys pf R (p + (i - x) + (r - y)) i r ∧ (x < i ∨ y < r → okU xs ys R (p, x, i, y, r)) := by
  obtain ⟨a1, a2⟩ := wk_del (i - x) p x h (by omega) (fun q hq => hn _ (by omega) (by omega))
  rw [show x + (i - x) = i by omega] at a1
  obtain ⟨b1, b2⟩ := wk_ins hr (r - y) _ y a1 (by omega)
  rw [show y + (r - y) = r by omega] at b1
  refine ⟨b1, fun hz => ?_⟩
  have ry : r ≤ ys.length := by rcases hr with ⟨_, _, c⟩ | ⟨_, c⟩ <;> omega
  refine ⟨?_, b1.1, hx, hi, hy, ry, h.2.1, b1.2.1, h.2.2.1, b1.2.2.1, a2, b2⟩
  show p < p + (i - x) + (r - y)
  omega
theorem rnF_ok {xs ys : List Int32} {pf : Nat → Option Nat} {R : List (Int32 × Int32)} (hm : mono pf xs.length ys.length) : ∀ (f i x y p q : Nat), xs.length - i = f → x ≤ i → i ≤ xs.length → (∀ q, x ≤ q → q < i → pf q = none) → y ≤ ys.length → fok pf i y ys.length → rA xs ys pf R p x y → q ≤ p → kpt xs R q p → okR xs ys R q (rnF xs.length ys.length pf f i x y p) ∧ cN R 43 R.length = xs.length := by
  intro f
  induction f with
  | zero =>
    intro i x y p q hf hx hi hn hy hk h hq hkp
    have ei : i = xs.length := by omega
    subst ei
    obtain ⟨a1, a2⟩ := kr_ok h hx (Nat.le_refl _) hn hy (r := ys.length) (Or.inr ⟨by omega, rfl⟩)
    have e := rA_end a1 (by omega) (by omega)
    rw [rnF, kr]
    by_cases c : x < xs.length ∨ y < ys.length
    · rw [if_pos c]
      have ok := a2 c
      refine ⟨⟨hq, hkp, ok, ok.2.1, ?_⟩, by rw [← e]; exact a1.2.1⟩
      have : ue (p, x, xs.length, y, ys.length) = R.length := e
      rw [this]
      exact ⟨Nat.le_refl _, fun r h1 h2 => by omega⟩
    · rw [if_neg c]
      have : p = R.length := by omega
      exact ⟨⟨by omega, by rw [← this]; exact hkp⟩, by rw [← e]; exact a1.2.1⟩
  | succ f ih =>
    intro i x y p q hf hx hi hn hy hk h hq hkp
    cases hp : pf i with
    | none =>
      rw [rnF, hp]
      dsimp only
      refine ih (i + 1) x y p q (by omega) (by omega) (by omega) (fun q h1 h2 => ?_) hy hk.st h hq hkp
      by_cases e : q = i
      · rw [e]; exact hp
      · exact hn q h1 (by omega)
    | some j =>
      rw [rnF, hp]
      dsimp only
      have hj := hk i j (Nat.le_refl _) hp
      obtain ⟨a1, a2⟩ := kr_ok h hx hi hn hj.1 (Or.inl ⟨by omega, hp, by omega⟩)
      obtain ⟨b1, b2, b3, b4⟩ := rA_keep a1 (by omega) hp (by omega)
      have cx : cN R 43 (p + (i - x) + (j - y)) = i := a1.2.1
      rw [kr]
      have nx := ih (i + 1) (i + 1) (j + 1) (p + (i - x) + (j - y) + 1)
      by_cases c : x < i ∨ y < j
      · rw [if_pos c]
        have ok := a2 c
        have k0 : kpt xs R (ue (p, x, i, y, j)) (p + (i - x) + (j - y)) := ⟨by omega, fun r h1 h2 => by
          have : ue (p, x, i, y, j) = p + (i - x) + (j - y) := rfl
          omega⟩
        have w := nx (ue (p, x, i, y, j)) (by omega) (by omega) (by omega) (fun q h1 h2 => by omega) (by omega) (fok.up hm hp) b4 (by show p + (i - x) + (j - y) ≤ _; omega) (k0.up b1 b2 (by rw [cx]; exact b3))
        exact ⟨⟨hq, hkp, ok, w.1⟩, w.2⟩
      · rw [if_neg c, List.nil_append]
        have e : p + (i - x) + (j - y) = p := by omega
        rw [e] at nx b1 b2 b3 b4 cx
        rw [e]
        exact nx q (by omega) (by omega) (by omega) (fun q h1 h2 => by omega) (by omega) (fok.up hm hp) b4 (by omega) (hkp.up b1 b2 (by rw [cx]; exact b3))
theorem ro_len {xs ys : List Int32} {pf : Nat → Option Nat} : ∀ (f i j : Nat), (ro xs ys pf f i j).length ≤ f := by
  intro f
  induction f with
  | zero => intro i j; exact Nat.le_refl _
  | succ f ih =>
    intro i j
    have a1 := ih (i + 1) j
    have a2 := ih i (j + 1)
    have a3 := ih (i + 1) (j + 1)
    rw [ro]
    split
    · split
      · simp only [List.length_cons]; omega
      · split
        · simp only [List.length_cons]; omega
        · simp only [List.length_cons]; omega
    · split
      · simp only [List.length_cons]; omega
      · simp
/-- what a hunk writes -/
def opl (R : List (Int32 × Int32)) : Nat → Nat → List Int32
  | _, 0 => []
  | a, k + 1 => [kd R a] ++ ([lw R a] ++ ([nI 10] ++ opl R (a + 1) k))
theorem opl_add {R : List (Int32 × Int32)} : ∀ (k a n : Nat), opl R a (k + n) = opl R a k ++ opl R (a + k) n := by
  intro k
  induction k with
  | zero => intro a n; simp [opl]
  | succ k ih =>
    intro a n
    rw [show k + 1 + n = (k + n) + 1 by omega, opl, ih, opl, show a + 1 + k = a + (k + 1) by omega]
    simp only [List.append_assoc]
theorem opl_len {R : List (Int32 × Int32)} : ∀ (k a : Nat), (opl R a k).length = 3 * k := by
  intro k
  induction k with
  | zero => intro a; rfl
  | succ k ih =>
    intro a
    rw [opl]
    simp only [List.length_append, List.length_cons, List.length_nil, ih]
    omega
def dgs (v : Nat) : List Int32 := if v ≤ 9 then [nI (48 + v % 10)] else [nI (48 + v / 10)] ++ [nI (48 + v % 10)]
theorem dgs_len {v : Nat} : (dgs v).length ≤ 2 ∧ 1 ≤ (dgs v).length := by
  unfold dgs
  split <;> simp
def hdO (a b c e : Nat) : List Int32 := [nI 64] ++ (dgs a ++ ([nI 44] ++ (dgs b ++ ([nI 32] ++ (dgs c ++ ([nI 44] ++ (dgs e ++ [nI 10])))))))
theorem hdO_len {a b c e : Nat} : (hdO a b c e).length ≤ 13 := by
  have h1 := dgs_len (v := a)
  have h2 := dgs_len (v := b)
  have h3 := dgs_len (v := c)
  have h4 := dgs_len (v := e)
  unfold hdO
  simp only [List.length_append, List.length_cons, List.length_nil]
  omega
def outH (R : List (Int32 × Int32)) (a b : Nat) : List Int32 := hdO (cN R 43 a) (cN R 43 b - cN R 43 a) (cN R 45 a) (cN R 45 b - cN R 45 a) ++ opl R a (b - a)
def lastR (ctx : Nat) : Nat → List RU → Nat × List RU
  | e, [] => (e, [])
  | e, u :: t => if u.1 - e ≤ 2 * ctx then lastR ctx (ue u) t else (e, u :: t)
def hTo (R : List (Int32 × Int32)) (ctx e : Nat) : Nat := if R.length < e + ctx then R.length else e + ctx
def wsp (R : List (Int32 × Int32)) (ctx : Nat) : Nat → List RU → List Int32 × Nat
  | 0, _ => ([], 0)
  | _, [] => ([], 0)
  | f + 1, u :: t => (outH R (u.1 - ctx) (hTo R ctx (lastR ctx (ue u) t).1) ++ (wsp R ctx f (lastR ctx (ue u) t).2).1, 1 + (wsp R ctx f (lastR ctx (ue u) t).2).2)
theorem lastR_ok {xs ys : List Int32} {R : List (Int32 × Int32)} {ctx : Nat} : ∀ (t : List RU) (e : Nat), e ≤ R.length → okR xs ys R e t → e ≤ (lastR ctx e t).1 ∧ (lastR ctx e t).1 ≤ R.length ∧ okR xs ys R (lastR ctx e t).1 (lastR ctx e t).2 ∧ (lastR ctx e t).2.length ≤ t.length ∧ (∀ u, (lastR ctx e t).2.head? = some u → 2 * ctx < u.1 - (lastR ctx e t).1) := by
  intro t
  induction t with
  | nil => intro e he h; exact ⟨Nat.le_refl _, he, h, Nat.le_refl _, fun u hu => by cases hu⟩
  | cons u t ih =>
    intro e he h
    rw [lastR]
    split
    · obtain ⟨h1, h2, h3, h4⟩ := h
      obtain ⟨a1, a2, a3, a4, a5⟩ := ih (ue u) h3.2.1 h4
      have := h3.1
      exact ⟨by omega, a2, a3, by simp only [List.length_cons]; omega, a5⟩
    · rename_i c
      refine ⟨Nat.le_refl _, he, h, Nat.le_refl _, fun v hv => ?_⟩
      simp at hv
      subst hv
      dsimp only
      omega
theorem wsp_len {xs ys : List Int32} {R : List (Int32 × Int32)} {ctx : Nat} : ∀ (f : Nat) (t : List RU) (q b : Nat), okR xs ys R q t → (∀ u, t.head? = some u → b ≤ u.1 - ctx) → b ≤ R.length → 16 * b + (wsp R ctx f t).1.length ≤ 16 * R.length := by
  intro f
  induction f with
  | zero => intro t q b h hb hl; simp [wsp]; omega
  | succ f ih =>
    intro t q b h hb hl
    cases t with
    | nil => simp [wsp]; omega
    | cons u t =>
      obtain ⟨h1, h2, h3, h4⟩ := h
      obtain ⟨a1, a2, a3, a4, a5⟩ := lastR_ok (ctx := ctx) t (ue u) h3.2.1 h4
      have hb' := hb u rfl
      have hlt := h3.1
      have hto : hTo R ctx (lastR ctx (ue u) t).1 ≤ R.length ∧ u.1 - ctx < hTo R ctx (lastR ctx (ue u) t).1 ∧ hTo R ctx (lastR ctx (ue u) t).1 ≤ (lastR ctx (ue u) t).1 + ctx := by unfold hTo; split <;> omega
      have := ih (lastR ctx (ue u) t).2 _ (hTo R ctx (lastR ctx (ue u) t).1) a3 (fun v hv => by have := a5 v hv; omega) hto.1
      rw [wsp]
      have hh := hdO_len (a := cN R 43 (u.1 - ctx)) (b := cN R 43 (hTo R ctx (lastR ctx (ue u) t).1) - cN R 43 (u.1 - ctx)) (c := cN R 45 (u.1 - ctx)) (e := cN R 45 (hTo R ctx (lastR ctx (ue u) t).1) - cN R 45 (u.1 - ctx))
      simp only [outH, List.length_append, opl_len]
      omega
