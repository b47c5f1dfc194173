/-! ===== the bytes of a long ===== -/
def byt (x : Int64) (k : Nat) : Nat := x.toBitVec.toNat / 2 ^ (8 * k) % 256
theorem byt_lt {x : Int64} {k : Nat} : byt x k ≤ 255 := by
  have : byt x k < 256 := Nat.mod_lt _ (by omega)
  omega
theorem sh8x : ∀ k, k < 8 → (((nI (8 * k)).toInt64 &&& 63).toBitVec.smod 64).toNat = 8 * k := by decide +kernel
theorem sh8m : ∀ k, k < 8 → (((8 * nI k).toInt64.toUInt64 &&& Int64.toUInt64 63).toBitVec % 64).toNat = 8 * k := by decide +kernel
theorem byt_x {x : Int64} {k : Nat} (hk : k < 8) : ((x >>> ((nI (8 * k)).toInt64 &&& 63)).toInt32) &&& 255 = nI (byt x k) := by
  rw [pk_and _ 8 (by decide)]
  congr 1
  have h0 : (x >>> ((nI (8 * k)).toInt64 &&& 63)).toBitVec = x.toBitVec.sshiftRight (8 * k) := by
    show x.toBitVec.sshiftRight' (((nI (8 * k)).toInt64 &&& 63).toBitVec.smod 64) = _
    show x.toBitVec.sshiftRight (((nI (8 * k)).toInt64 &&& 63).toBitVec.smod 64).toNat = _
    rw [sh8x k hk]
  have h1 : ((x >>> ((nI (8 * k)).toInt64 &&& 63)).toInt32).toBitVec.toNat = (x.toBitVec.sshiftRight (8 * k)).toNat % 2 ^ 32 := by
    show ((x >>> ((nI (8 * k)).toInt64 &&& 63)).toBitVec.signExtend 32).toNat = _
    rw [h0, BitVec.signExtend_eq_setWidth_of_le _ (by omega), BitVec.toNat_setWidth]
  rw [h1]
  have h2 : (x.toBitVec.sshiftRight (8 * k)).toInt = x.toBitVec.toInt / ((2 ^ (8 * k) : Nat) : Int) := by
    rw [BitVec.toInt_sshiftRight, Int.shiftRight_eq_div_pow]
  unfold byt
  have hN : x.toBitVec.toNat < 2 ^ 64 := x.toBitVec.isLt
  have hY : (x.toBitVec.sshiftRight (8 * k)).toNat < 2 ^ 64 := (x.toBitVec.sshiftRight (8 * k)).isLt
  rw [BitVec.toInt_eq_toNat_cond, BitVec.toInt_eq_toNat_cond] at h2
  generalize (x.toBitVec.sshiftRight (8 * k)).toNat = Y at *
  generalize x.toBitVec.toNat = N at *
  clear h0 h1
  rcases (show k = 0 ∨ k = 1 ∨ k = 2 ∨ k = 3 ∨ k = 4 ∨ k = 5 ∨ k = 6 ∨ k = 7 by omega) with e | e | e | e | e | e | e | e
  all_goals
    subst e
    split at h2 <;> split at h2 <;> omega
theorem byt_m {x : Int64} {k : Nat} (hk : k < 8) : (((x.toUInt64 >>> ((8 * nI k).toInt64.toUInt64 &&& Int64.toUInt64 63)).toInt64) &&& 255).toInt32 = nI (byt x k) := by
  apply Int32.toBitVec_inj.mp
  apply BitVec.eq_of_toNat_eq
  have h0 : (x.toUInt64 >>> ((8 * nI k).toInt64.toUInt64 &&& Int64.toUInt64 63)).toBitVec.toNat = x.toBitVec.toNat / 2 ^ (8 * k) := by
    show (x.toBitVec >>> (((8 * nI k).toInt64.toUInt64 &&& Int64.toUInt64 63).toBitVec % 64)).toNat = _
    show (x.toBitVec >>> ((((8 * nI k).toInt64.toUInt64 &&& Int64.toUInt64 63).toBitVec % 64).toNat)).toNat = _
    rw [sh8m k hk, BitVec.toNat_ushiftRight, Nat.shiftRight_eq_div_pow]
  have h1 : ((((x.toUInt64 >>> ((8 * nI k).toInt64.toUInt64 &&& Int64.toUInt64 63)).toInt64) &&& 255).toInt32).toBitVec.toNat = (x.toBitVec.toNat / 2 ^ (8 * k)) % 2 ^ 8 % 2 ^ 32 := by
    show (((x.toUInt64 >>> ((8 * nI k).toInt64.toUInt64 &&& Int64.toUInt64 63)).toBitVec &&& 255#64).signExtend 32).toNat = _
    rw [BitVec.signExtend_eq_setWidth_of_le _ (by omega), BitVec.toNat_setWidth, BitVec.toNat_and, h0]
    have h2 : (255#64).toNat = 2 ^ 8 - 1 := by decide
    rw [h2, Nat.and_two_pow_sub_one_eq_mod]
  rw [h1, pk_tn (by have := byt_lt (x := x) (k := k); omega)]
  unfold byt
  omega
