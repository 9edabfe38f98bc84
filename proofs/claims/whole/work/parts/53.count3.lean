section COUNT3
theorem sh1 : ((Int64.toUInt64 (Int32.toInt64 1) &&& Int64.toUInt64 63).toBitVec % 64).toNat = 1 := by decide
theorem sh2 : ((Int64.toUInt64 (Int32.toInt64 2) &&& Int64.toUInt64 63).toBitVec % 64).toNat = 2 := by decide
theorem sh4 : ((Int64.toUInt64 (Int32.toInt64 4) &&& Int64.toUInt64 63).toBitVec % 64).toNat = 4 := by decide
theorem sh8 : ((Int64.toUInt64 (Int32.toInt64 8) &&& Int64.toUInt64 63).toBitVec % 64).toNat = 8 := by decide
theorem sh16 : ((Int64.toUInt64 (Int32.toInt64 16) &&& Int64.toUInt64 63).toBitVec % 64).toNat = 16 := by decide
theorem sh32 : ((Int64.toUInt64 (Int32.toInt64 32) &&& Int64.toUInt64 63).toBitVec % 64).toNat = 32 := by decide
theorem q85 : n64 6148914691236517205 = 6148914691236517205 := by decide
theorem q51 : n64 3689348814741910323 = 3689348814741910323 := by decide
theorem q15 : n64 1085102592571150095 = 1085102592571150095 := by decide
theorem low7 (v : Int64) {k : Nat} (h : n64 v % 128 = k) : (Int64.toInt32 v) &&& 127 = nI k := by
  apply Int32.toBitVec_inj.mp
  apply BitVec.eq_of_toNat_eq
  have h1 : ((Int64.toInt32 v) &&& 127).toBitVec.toNat = (n64 v % 2 ^ 32) &&& 127 := by
    rw [Int32.toBitVec_and, BitVec.toNat_and, Int64.toBitVec_toInt32, BitVec.signExtend_eq_setWidth_of_le _ (by decide), BitVec.toNat_setWidth]
    rfl
  have h2 : (n64 v % 2 ^ 32) &&& 127 = n64 v % 2 ^ 32 % 2 ^ 7 := Nat.and_two_pow_sub_one_eq_mod _ 7
  have h3 : n64 v % 2 ^ 32 % 2 ^ 7 = n64 v % 128 := Nat.mod_mod_of_dvd _ (by decide)
  have h4 : (nI k).toBitVec.toNat = k % 2 ^ 32 := rfl
  rw [h1, h2, h3, h, h4]
  omega
theorem s_bitJ (h : Hp) (x : Int64) : F_J13_bitCount_95d88 h x = some (nI (cntN 64 (fun i => (n64 x).testBit i))) := by
  unfold F_J13_bitCount_95d88
  simp only [bl]
  refine congrArg some (low7 _ ?_)
  generalize e1 : x - (((Int64.toUInt64 x >>> (Int64.toUInt64 (Int32.toInt64 1) &&& Int64.toUInt64 63)).toInt64) &&& 6148914691236517205) = v1
  generalize e2 : (v1 &&& 3689348814741910323) + (((Int64.toUInt64 v1 >>> (Int64.toUInt64 (Int32.toInt64 2) &&& Int64.toUInt64 63)).toInt64) &&& 3689348814741910323) = v2
  generalize e3 : (v2 + ((Int64.toUInt64 v2 >>> (Int64.toUInt64 (Int32.toInt64 4) &&& Int64.toUInt64 63)).toInt64)) &&& 1085102592571150095 = v3
  generalize e4 : v3 + ((Int64.toUInt64 v3 >>> (Int64.toUInt64 (Int32.toInt64 8) &&& Int64.toUInt64 63)).toInt64) = v4
  generalize e5 : v4 + ((Int64.toUInt64 v4 >>> (Int64.toUInt64 (Int32.toInt64 16) &&& Int64.toUInt64 63)).toInt64) = v5
  generalize e6 : v5 + ((Int64.toUInt64 v5 >>> (Int64.toUInt64 (Int32.toInt64 32) &&& Int64.toUInt64 63)).toInt64) = v6
  have f1 : n64 v1 = n64 x - ((n64 x / 2) &&& mkM 85 8) := by
    have q : n64 (((Int64.toUInt64 x >>> (Int64.toUInt64 (Int32.toInt64 1) &&& Int64.toUInt64 63)).toInt64) &&& 6148914691236517205) = (n64 x / 2) &&& mkM 85 8 := by
      rw [n64_and, n64_shr _ _ 1 sh1, q85, m85]
    rw [← e1, n64_sub _ _ (by rw [q]; exact land_half _ _), q]
  have f2 : n64 v2 = ((n64 v1 &&& mkM 51 8) + ((n64 v1 / 4) &&& mkM 51 8)) := by
    rw [← e2, n64_add, n64_and, n64_and, n64_shr _ _ 2 sh2, q51, m51]
    have a1 : n64 v1 &&& 3689348814741910323 ≤ 3689348814741910323 := Nat.and_le_right
    have a2 : n64 v1 / 2 ^ 2 &&& 3689348814741910323 ≤ 3689348814741910323 := Nat.and_le_right
    exact Nat.mod_eq_of_lt (by omega)
  have b2 : n64 v2 < 2 ^ 63 := by
    have a1 : n64 v1 &&& mkM 51 8 ≤ mkM 51 8 := Nat.and_le_right
    have a2 : n64 v1 / 4 &&& mkM 51 8 ≤ mkM 51 8 := Nat.and_le_right
    rw [f2]
    rw [m51] at a1 a2 ⊢
    omega
  have f3 : n64 v3 = (n64 v2 + n64 v2 / 16) &&& mkM 15 8 := by
    rw [← e3, n64_and, n64_add, n64_shr _ _ 4 sh4, q15, m15, Nat.mod_eq_of_lt (by omega)]
  have f3' : n64 v3 = ply (cts 8 (n64 x)) := by
    rw [← pc_cts, ← sw_pc 8 _ (by rw [p256]; exact n64_lt x), f3, f2, f1]
    rfl
  have f4 : n64 v4 = (n64 v3 + n64 v3 / 256) % 2 ^ 64 := by
    rw [← e4, n64_add, n64_shr _ _ 8 sh8]
  have f5 : n64 v5 = (n64 v4 + n64 v4 / 256 / 256) % 2 ^ 64 := by
    rw [← e5, n64_add, n64_shr _ _ 16 sh16, d16]
  have f6 : n64 v6 = (n64 v5 + n64 v5 / 256 / 256 / 256 / 256) % 2 ^ 64 := by
    rw [← e6, n64_add, n64_shr _ _ 32 sh32, d32, d16, d16]
  have hs := cts_sum 8 (n64 x)
  have hl := cts_le 8 (n64 x)
  have hlen : (cts 8 (n64 x)).length = 8 := rfl
  generalize cts 8 (n64 x) = l at hs hl hlen f3'
  match l, hlen with
  | [c0, c1, c2, c3, c4, c5, c6, c7], _ =>
    simp only [List.forall_mem_cons] at hl
    obtain ⟨k0, k1, k2, k3, k4, k5, k6, k7, -⟩ := hl
    have := sum8 c0 c1 c2 c3 c4 c5 c6 c7 k0 k1 k2 k3 k4 k5 k6 k7 _ _ _ _ f3' f4 f5 f6
    rw [this, show (64 : Nat) = 8 * 8 from rfl, ← hs]
    simp only [List.sum_cons, List.sum_nil, Nat.add_zero, Nat.add_assoc]
end COUNT3
