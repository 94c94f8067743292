/-! a byte of a long, on both sides -/
def byC (w : Int64) (k : Nat) : Int32 := (((w.toUInt64 >>> ((nI 8 * nI k).toInt64.toUInt64 &&& Int64.toUInt64 63)).toInt64) &&& (255 : Int64)).toInt32
def byM (w : Int64) (k : Nat) : Int32 := ((w >>> ((nI 8 * nI k).toInt64 &&& 63)).toInt32) &&& nI 255
theorem by_u : ∀ k, k < 8 → ((nI 8 * nI k).toInt64.toUInt64 &&& Int64.toUInt64 63) = UInt64.ofNat (8 * k) := by decide
theorem by_s : ∀ k, k < 8 → ((nI 8 * nI k).toInt64 &&& 63) = Int64.ofNat (8 * k) := by decide
theorem by_sm : ∀ k, k < 8 → ((Int64.ofNat (8 * k)).toBitVec.smod 64).toNat = 8 * k := by decide
theorem by_um : ∀ k, k < 8 → ((UInt64.ofNat (8 * k)).toBitVec % 64).toNat = 8 * k := by decide
theorem by_255 : ∀ i, i < 64 → (255#64).getLsbD i = decide (i < 8) := by decide
theorem by_255' : ∀ i, i < 32 → (255#32).getLsbD i = decide (i < 8) := by decide
theorem by_eq (w : Int64) (k : Nat) (hk : k < 8) : byC w k = byM w k := by
  unfold byC byM
  rw [by_u k hk, by_s k hk]
  apply Int32.toBitVec_inj.mp
  rw [Int64.toBitVec_toInt32, Int64.toBitVec_and, Int32.toBitVec_and, Int64.toBitVec_toInt32, Int64.toBitVec_shiftRight]
  rw [show (UInt64.toInt64 (w.toUInt64 >>> UInt64.ofNat (8 * k))).toBitVec = (w.toUInt64 >>> UInt64.ofNat (8 * k)).toBitVec from rfl, UInt64.toBitVec_shiftRight]
  apply BitVec.eq_of_getLsbD_eq
  intro i hi
  have e1 := by_um k hk
  have e2 := by_sm k hk
  have h1 : (w.toUInt64.toBitVec >>> ((UInt64.ofNat (8 * k)).toBitVec % 64)) = w.toBitVec >>> (8 * k) := by
    have h : ∀ (v : BitVec 64) (n : Nat), v.toNat = n → w.toUInt64.toBitVec >>> v = w.toBitVec >>> n := by intro v n hv; rw [← hv]; rfl
    exact h _ _ e1
  have h1' : (w.toBitVec.sshiftRight' ((Int64.ofNat (8 * k)).toBitVec.smod 64)) = w.toBitVec.sshiftRight (8 * k) := by
    have h : ∀ (v : BitVec 64) (n : Nat), v.toNat = n → w.toBitVec.sshiftRight' v = w.toBitVec.sshiftRight n := by intro v n hv; rw [← hv]; rfl
    exact h _ _ e2
  rw [h1, h1', BitVec.getLsbD_and, BitVec.getLsbD_signExtend, BitVec.getLsbD_signExtend, BitVec.getLsbD_and, BitVec.getLsbD_ushiftRight, BitVec.getLsbD_sshiftRight]
  have h2 : (Int64.toBitVec 255).getLsbD i = decide (i < 8) := by_255 i (by omega)
  have h3 : (nI 255).toBitVec.getLsbD i = decide (i < 8) := by_255' i (by omega)
  rw [h2, h3]
  by_cases h8 : i < 8
  · have a1 : i < 64 := by omega
    have a2 : 8 * k + i < 64 := by omega
    simp [hi, a1, a2, h8, Nat.not_le.mpr a1]
  · have a1 : i < 64 := by omega
    simp [hi, a1, h8]
