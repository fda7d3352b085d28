theorem n64_low (v : Nat) : (n64 v).toInt32 &&& (127 : Int32) = nI (v % 128) := by
  have e1 : (n64 v).toInt32 = nI v := Int64.toInt32_ofNat'
  rw [e1]
  apply Int32.toBitVec_inj.mp
  show (Int32.ofNat v).toBitVec &&& (Int32.ofNat 127).toBitVec = (Int32.ofNat (v % 128)).toBitVec
  rw [Int32.toBitVec_ofNat', Int32.toBitVec_ofNat', Int32.toBitVec_ofNat', ← BitVec.ofNat_and]
  have := Nat.and_two_pow_sub_one_eq_mod v 7
  exact congrArg (BitVec.ofNat 32) this
