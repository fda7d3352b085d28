def n64 (x : Nat) : Int64 := Int64.ofNat x
theorem n64_and (a b : Nat) : n64 a &&& n64 b = n64 (a &&& b) := by
  apply Int64.toBitVec_inj.mp
  show (Int64.ofNat a).toBitVec &&& (Int64.ofNat b).toBitVec = (Int64.ofNat (a &&& b)).toBitVec
  rw [Int64.toBitVec_ofNat', Int64.toBitVec_ofNat', Int64.toBitVec_ofNat', BitVec.ofNat_and]
