/-! shifts to the right -/
theorem rd_shr {M k : Nat} (hM : M < 2147483648) (hk : k < 32) : nI M >>> (nI k &&& 31) = nI (M >>> k) := by
  have e : nI k &&& 31 = nI k := by
    revert k
    decide
  rw [e]
  apply Int32.toBitVec_inj.mp
  rw [Int32.toBitVec_shiftRight]
  have h1 : ((nI k).toBitVec.smod 32).toNat = k := by
    revert k
    decide
  show (nI M).toBitVec.sshiftRight ((nI k).toBitVec.smod 32).toNat = _
  rw [h1, BitVec.sshiftRight_eq_of_msb_false]
  · apply BitVec.eq_of_toNat_eq
    rw [BitVec.toNat_ushiftRight]
    show (M % 2 ^ 32) >>> k = (M >>> k) % 2 ^ 32
    have : M >>> k ≤ M := Nat.shiftRight_le M k
    rw [Nat.mod_eq_of_lt (by omega), Nat.mod_eq_of_lt (by omega)]
  · rw [BitVec.msb_eq_decide]
    apply decide_eq_false
    intro z
    have z2 : 2 ^ 31 ≤ M % 2 ^ 32 := z
    omega
