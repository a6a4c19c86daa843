theorem ln_byte (v : Int64) : (v.toInt32.toInt8.toInt32).toInt64 = (v <<< ((56 : Int32).toInt64 &&& 63)) >>> ((56 : Int32).toInt64 &&& 63) := by
  have s1 : ((56 : Int32).toInt64 &&& 63) = 56 := by decide
  rw [s1]
  apply Int64.toBitVec_inj.mp
  rw [Int32.toBitVec_toInt64, Int8.toBitVec_toInt32, Int32.toBitVec_toInt8, Int64.toBitVec_toInt32, Int64.toBitVec_shiftRight, Int64.toBitVec_shiftLeft]
  have s2 : ((56 : Int64).toBitVec.smod 64) = 56#64 := by decide
  rw [s2]
  have s3 : BitVec.sshiftRight' (v.toBitVec <<< 56#64) 56#64 = (v.toBitVec <<< 56).sshiftRight 56 := rfl
  rw [s3]
  apply BitVec.eq_of_getLsbD_eq
  intro i hi
  rw [BitVec.getLsbD_sshiftRight]
  simp only [BitVec.msb_eq_getLsbD_last, BitVec.getLsbD_signExtend, BitVec.getLsbD_shiftLeft]
  by_cases h : i < 8
  · have h1 : i < 32 := by omega
    have h2 : 56 + i < 64 := by omega
    have h3 : 56 + i - 56 = i := by omega
    have h4 : ¬ 64 ≤ i := by omega
    have h5 : ¬ (56 + i < 56) := by omega
    simp [h, h1, h2, h3, h4, h5, hi]
  · have h2 : ¬ 56 + i < 64 := by omega
    have h4 : ¬ 64 ≤ i := by omega
    by_cases h1 : i < 32 <;> simp [h, h1, h2, h4, hi]
theorem ln_short (v : Int64) : (v.toInt32.toInt16.toInt32).toInt64 = (v <<< ((48 : Int32).toInt64 &&& 63)) >>> ((48 : Int32).toInt64 &&& 63) := by
  have s1 : ((48 : Int32).toInt64 &&& 63) = 48 := by decide
  rw [s1]
  apply Int64.toBitVec_inj.mp
  rw [Int32.toBitVec_toInt64, Int16.toBitVec_toInt32, Int32.toBitVec_toInt16, Int64.toBitVec_toInt32, Int64.toBitVec_shiftRight, Int64.toBitVec_shiftLeft]
  have s2 : ((48 : Int64).toBitVec.smod 64) = 48#64 := by decide
  rw [s2]
  have s3 : BitVec.sshiftRight' (v.toBitVec <<< 48#64) 48#64 = (v.toBitVec <<< 48).sshiftRight 48 := rfl
  rw [s3]
  apply BitVec.eq_of_getLsbD_eq
  intro i hi
  rw [BitVec.getLsbD_sshiftRight]
  simp only [BitVec.msb_eq_getLsbD_last, BitVec.getLsbD_signExtend, BitVec.getLsbD_shiftLeft]
  by_cases h : i < 16
  · have h1 : i < 32 := by omega
    have h2 : 48 + i < 64 := by omega
    have h3 : 48 + i - 48 = i := by omega
    have h4 : ¬ 64 ≤ i := by omega
    have h5 : ¬ (48 + i < 48) := by omega
    simp [h, h1, h2, h3, h4, h5, hi]
  · have h2 : ¬ 48 + i < 64 := by omega
    have h4 : ¬ 64 ≤ i := by omega
    by_cases h1 : i < 32 <;> simp [h, h1, h2, h4, hi]
-- byte of a word
theorem byte_eq (x : Int64) (s : Int64) : ((x >>> s).toInt32) &&& (255 : Int32) = ((x >>> s) &&& (255 : Int64)).toInt32 := by
  apply Int32.toBitVec_inj.mp
  rw [Int32.toBitVec_and, Int64.toBitVec_toInt32, Int64.toBitVec_toInt32, Int64.toBitVec_and]
  apply BitVec.eq_of_getLsbD_eq
  intro i hi
  have h1 : i < 64 := by omega
  rw [BitVec.getLsbD_and, BitVec.getLsbD_signExtend, BitVec.getLsbD_signExtend, BitVec.getLsbD_and]
  have e : ∀ i, i < 32 → (255 : Int32).toBitVec.getLsbD i = (255 : Int64).toBitVec.getLsbD i := by decide
  simp only [decide_eq_true hi, if_pos h1, Bool.true_and, e i hi]
theorem byte_rng (x : Int64) : ((x &&& 255).toInt32).toInt = (x &&& 255).toInt ∧ 0 ≤ (x &&& 255).toInt ∧ (x &&& 255).toInt ≤ 255 := by
  have h : 0 ≤ (x &&& 255).toInt ∧ (x &&& 255).toInt ≤ 255 := by
    have e : (x &&& 255).toBitVec = x.toBitVec &&& 255#64 := by rw [Int64.toBitVec_and]; rfl
    have hn : (x &&& 255).toBitVec.toNat ≤ 255 := by
      rw [e, BitVec.toNat_and]
      exact Nat.and_le_right
    have : (x &&& 255).toInt = ((x &&& 255).toBitVec.toNat : Int) := by
      show (x &&& 255).toBitVec.toInt = _
      rw [BitVec.toInt_eq_toNat_of_lt (by omega)]
    omega
  refine ⟨?_, h⟩
  rw [Int64.toInt_toInt32]
  have : ∀ z : Int, 0 ≤ z ∧ z ≤ 255 → Int.bmod z (2 ^ 32) = z := by
    intro z hz
    rw [Int.bmod_eq_of_le] <;> omega
  exact this _ h
