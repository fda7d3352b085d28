theorem bitCount_eq (x : Int64) : f_JL_bitCount x = some (nI (cnt (fun i => x.toBitVec.getLsbD i) 64)) := by
  obtain ⟨X, hX⟩ : ∃ X, X = x.toBitVec.toNat := ⟨_, rfl⟩
  have hlt : X < 2 ^ 64 := by rw [hX]; exact x.toBitVec.isLt
  have ex : x = n64 X := by
    apply Int64.toBitVec_inj.mp
    show _ = (Int64.ofNat X).toBitVec
    rw [Int64.toBitVec_ofNat', hX, BitVec.ofNat_toNat, BitVec.setWidth_eq]
  have ec : (fun i => x.toBitVec.getLsbD i) = fun i => X.testBit i := by
    funext i
    rw [hX]
    rfl
  rw [ec, ex]
  have m1 : (6148914691236517205 : Int64) = n64 (repB 85 8) := by decide +kernel
  have m2 : (3689348814741910323 : Int64) = n64 (repB 51 8) := by decide +kernel
  have m3 : (1085102592571150095 : Int64) = n64 (repB 15 8) := by decide +kernel
  have r2 : repB 51 8 = 3689348814741910323 := by decide +kernel
  have r3 : repB 15 8 = 1085102592571150095 := by decide +kernel
  obtain ⟨Y1, hY1⟩ : ∃ Y, Y = sT1 8 X := ⟨_, rfl⟩
  obtain ⟨Y2, hY2⟩ : ∃ Y, Y = sT2 8 Y1 := ⟨_, rfl⟩
  obtain ⟨Y3, hY3⟩ : ∃ Y, Y = sT3 8 Y2 := ⟨_, rfl⟩
  have s1 : n64 X - (((n64 X).toUInt64 >>> ((1 : Int32).toInt64.toUInt64 &&& Int64.toUInt64 63)).toInt64 &&& (6148914691236517205 : Int64)) = n64 Y1 := by
    rw [n64_shr hlt (k := 1) (by omega) _ (by decide), m1, n64_and, n64_sub (Nat.le_trans Nat.and_le_left (Nat.div_le_self _ _)), hY1]
    rfl
  have b1 : Y1 < 2 ^ 64 := by rw [hY1]; unfold sT1; omega
  have s2 : (n64 Y1 &&& (3689348814741910323 : Int64)) + (((n64 Y1).toUInt64 >>> ((2 : Int32).toInt64.toUInt64 &&& Int64.toUInt64 63)).toInt64 &&& (3689348814741910323 : Int64)) = n64 Y2 := by
    rw [n64_shr b1 (k := 2) (by omega) _ (by decide), m2, n64_and, n64_and, n64_add, hY2]
    rfl
  have b2 : Y2 < 2 ^ 63 := by
    rw [hY2]
    unfold sT2
    have h1 : (Y1 &&& repB 51 8) ≤ repB 51 8 := Nat.and_le_right
    have h2 : ((Y1 / 4) &&& repB 51 8) ≤ repB 51 8 := Nat.and_le_right
    omega
  have s3 : (n64 Y2 + ((n64 Y2).toUInt64 >>> ((4 : Int32).toInt64.toUInt64 &&& Int64.toUInt64 63)).toInt64) &&& (1085102592571150095 : Int64) = n64 Y3 := by
    rw [n64_shr (by omega) (k := 4) (by omega) _ (by decide), m3, n64_add, n64_and, hY3]
    rfl
  have b3 : Y3 < 2 ^ 60 := by
    rw [hY3]
    unfold sT3
    have h1 : ((Y2 + Y2 / 16) &&& repB 15 8) ≤ repB 15 8 := Nat.and_le_right
    omega
  have s4 : n64 Y3 + ((n64 Y3).toUInt64 >>> ((8 : Int32).toInt64.toUInt64 &&& Int64.toUInt64 63)).toInt64 = n64 (Y3 + Y3 / 256) := by
    rw [n64_shr (by omega) (k := 8) (by omega) _ (by decide), n64_add]
  have s5 : n64 (Y3 + Y3 / 256) + ((n64 (Y3 + Y3 / 256)).toUInt64 >>> ((16 : Int32).toInt64.toUInt64 &&& Int64.toUInt64 63)).toInt64 = n64 ((Y3 + Y3 / 256) + (Y3 + Y3 / 256) / 65536) := by
    rw [n64_shr (by omega) (k := 16) (by omega) _ (by decide), n64_add]
  have s6 : n64 ((Y3 + Y3 / 256) + (Y3 + Y3 / 256) / 65536) + ((n64 ((Y3 + Y3 / 256) + (Y3 + Y3 / 256) / 65536)).toUInt64 >>> ((32 : Int32).toInt64.toUInt64 &&& Int64.toUInt64 63)).toInt64 = n64 ((Y3 + Y3 / 256) + (Y3 + Y3 / 256) / 65536 + ((Y3 + Y3 / 256) + (Y3 + Y3 / 256) / 65536) / 4294967296) := by
    rw [n64_shr (by omega) (k := 32) (by omega) _ (by decide), n64_add]
  unfold f_JL_bitCount
  rw [nmE, s1, nmE, s2, nmE, s3, nmE, s4, nmE, s5, nmE, s6, n64_low]
  obtain ⟨p0, p1, p2, p3, p4, p5, p6, p7, h0, h1, h2, h3, h4, h5, h6, h7, hc, hs⟩ := pc_64 X
  have e : Y3 = sC 8 X := by rw [hY3, hY2, hY1]; rfl
  rw [hs, fold_64 h0 h1 h2 h3 h4 h5 h6 h7 (e.trans hc)]
