theorem n64_shr {a : Nat} (h : a < 2 ^ 64) {k : Nat} (hk : k < 64) (s : UInt64) (hs : s.toBitVec.toNat = k) : ((n64 a).toUInt64 >>> s).toInt64 = n64 (a / 2 ^ k) := by
  apply Int64.toBitVec_inj.mp
  show ((n64 a).toUInt64 >>> s).toBitVec = (Int64.ofNat (a / 2 ^ k)).toBitVec
  apply BitVec.eq_of_toNat_eq
  rw [Int64.toBitVec_ofNat', UInt64.toBitVec_shiftRight]
  have e1 : (n64 a).toUInt64.toBitVec = BitVec.ofNat 64 a := Int64.toBitVec_ofNat'
  have e2 : (s.toBitVec % 64).toNat = k := by
    rw [BitVec.toNat_umod, hs, show (64 : BitVec 64).toNat = 64 from rfl]
    exact Nat.mod_eq_of_lt hk
  rw [BitVec.ushiftRight_eq', BitVec.toNat_ushiftRight, e1, e2, BitVec.toNat_ofNat, BitVec.toNat_ofNat, Nat.mod_eq_of_lt h, Nat.shiftRight_eq_div_pow]
  exact (Nat.mod_eq_of_lt (Nat.lt_of_le_of_lt (Nat.div_le_self _ _) h)).symm
