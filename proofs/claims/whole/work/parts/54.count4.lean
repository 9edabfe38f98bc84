section COUNT4
def n32 (x : Int32) : Nat := x.toBitVec.toNat
theorem n32_lt (x : Int32) : n32 x < 2 ^ 32 := x.toBitVec.isLt
theorem n32_add (x y : Int32) : n32 (x + y) = (n32 x + n32 y) % 2 ^ 32 := by
  unfold n32; rw [Int32.toBitVec_add, BitVec.toNat_add]
theorem n32_sub (x y : Int32) (h : n32 y ≤ n32 x) : n32 (x - y) = n32 x - n32 y := by
  have h1 := n32_lt x
  unfold n32 at *
  rw [Int32.toBitVec_sub, BitVec.toNat_sub]
  omega
theorem n32_and (x y : Int32) : n32 (x &&& y) = n32 x &&& n32 y := by
  unfold n32; rw [Int32.toBitVec_and, BitVec.toNat_and]
theorem n32_shr (x : Int32) (u : UInt32) (k : Nat) (h : (u.toBitVec % 32).toNat = k) : n32 ((x.toUInt32 >>> u).toInt32) = n32 x / 2 ^ k := by
  show (x.toUInt32 >>> u).toBitVec.toNat = _
  rw [UInt32.toBitVec_shiftRight]
  show (x.toUInt32.toBitVec >>> (u.toBitVec % 32).toNat).toNat = _
  rw [h, BitVec.toNat_ushiftRight, Nat.shiftRight_eq_div_pow]
  rfl
theorem p256' : (256 : Nat) ^ 4 = 2 ^ 32 := by decide
theorem sum4 (c0 c1 c2 c3 : Nat) (h0 : c0 ≤ 8) (h1 : c1 ≤ 8) (h2 : c2 ≤ 8) (h3 : c3 ≤ 8) (v3 v4 v5 : Nat) (e3 : v3 = ply [c0, c1, c2, c3]) (e4 : v4 = (v3 + v3 / 256) % 2 ^ 32) (e5 : v5 = (v4 + v4 / 256 / 256) % 2 ^ 32) : v5 % 64 = c0 + c1 + c2 + c3 := by
  have g4 : v4 = ply [c0 + c1, c1 + c2, c2 + c3, c3 + 0] := by
    rw [e4, e3, ply_div (by omega), ply_sh [c1, c2, c3]]
    simp only [List.cons_append, List.nil_append]
    rw [ply_add [c0, c1, c2, c3] [c1, c2, c3, 0] rfl]
    simp only [List.zipWith_cons_cons, List.zipWith_nil_right]
    refine Nat.mod_eq_of_lt ?_
    rw [← p256']
    exact ply_lt (k := 16) (by decide) _ (by simp only [List.forall_mem_cons]; refine ⟨?_, ?_, ?_, ?_, by simp⟩ <;> omega)
  have g6 : v4 / 256 / 256 = ply [c2 + c3, c3 + 0] := by
    rw [g4, ply_div (by omega), ply_div (by omega)]
  rw [e5, g6, g4, Nat.mod_mod_of_dvd _ (by decide)]
  have k : ∀ A B : Nat, (c0 + c1 + 256 * A + (c2 + c3 + 256 * B)) % 64 = c0 + c1 + c2 + c3 := fun A B => by
    clear e4 e5 g4 g6
    omega
  exact k (ply [c1 + c2, c2 + c3, c3 + 0]) (ply [c3 + 0])
theorem sg1 : ((Int32.toUInt32 1 &&& Int32.toUInt32 31).toBitVec % 32).toNat = 1 := by decide
theorem sg2 : ((Int32.toUInt32 2 &&& Int32.toUInt32 31).toBitVec % 32).toNat = 2 := by decide
theorem sg4 : ((Int32.toUInt32 4 &&& Int32.toUInt32 31).toBitVec % 32).toNat = 4 := by decide
theorem sg8 : ((Int32.toUInt32 8 &&& Int32.toUInt32 31).toBitVec % 32).toNat = 8 := by decide
theorem sg16 : ((Int32.toUInt32 16 &&& Int32.toUInt32 31).toBitVec % 32).toNat = 16 := by decide
theorem r85 : n32 1431655765 = 1431655765 := by decide
theorem w85 : mkM 85 4 = 1431655765 := by decide
theorem r51 : n32 858993459 = 858993459 := by decide
theorem w51 : mkM 51 4 = 858993459 := by decide
theorem r15 : n32 252645135 = 252645135 := by decide
theorem w15 : mkM 15 4 = 252645135 := by decide
theorem low6 (v : Int32) {k : Nat} (h : n32 v % 64 = k) : v &&& 63 = nI k := by
  apply Int32.toBitVec_inj.mp
  apply BitVec.eq_of_toNat_eq
  have h1 : (v &&& 63).toBitVec.toNat = n32 v &&& 63 := by
    rw [Int32.toBitVec_and, BitVec.toNat_and]
    rfl
  have h2 : n32 v &&& 63 = n32 v % 2 ^ 6 := Nat.and_two_pow_sub_one_eq_mod _ 6
  have h3 : n32 v % 2 ^ 6 = n32 v % 64 := rfl
  have h4 : (nI k).toBitVec.toNat = k % 2 ^ 32 := rfl
  rw [h1, h2, h3, h, h4]
  omega
theorem s_bitI (h : Hp) (x : Int32) : F_J6_bitCount_0f7a4 h x = some (nI (cntN 32 (fun i => (n32 x).testBit i))) := by
  unfold F_J6_bitCount_0f7a4
  simp only [bl]
  refine congrArg some (low6 _ ?_)
  generalize e1 : x - (((x.toUInt32 >>> (Int32.toUInt32 1 &&& Int32.toUInt32 31)).toInt32) &&& 1431655765) = v1
  generalize e2 : (v1 &&& 858993459) + (((v1.toUInt32 >>> (Int32.toUInt32 2 &&& Int32.toUInt32 31)).toInt32) &&& 858993459) = v2
  generalize e3 : (v2 + ((v2.toUInt32 >>> (Int32.toUInt32 4 &&& Int32.toUInt32 31)).toInt32)) &&& 252645135 = v3
  generalize e4 : v3 + ((v3.toUInt32 >>> (Int32.toUInt32 8 &&& Int32.toUInt32 31)).toInt32) = v4
  generalize e5 : v4 + ((v4.toUInt32 >>> (Int32.toUInt32 16 &&& Int32.toUInt32 31)).toInt32) = v5
  have f1 : n32 v1 = n32 x - ((n32 x / 2) &&& mkM 85 4) := by
    have q : n32 (((x.toUInt32 >>> (Int32.toUInt32 1 &&& Int32.toUInt32 31)).toInt32) &&& 1431655765) = (n32 x / 2) &&& mkM 85 4 := by
      rw [n32_and, n32_shr _ _ 1 sg1, r85, w85]
    rw [← e1, n32_sub _ _ (by rw [q]; exact land_half _ _), q]
  have f2 : n32 v2 = ((n32 v1 &&& mkM 51 4) + ((n32 v1 / 4) &&& mkM 51 4)) := by
    rw [← e2, n32_add, n32_and, n32_and, n32_shr _ _ 2 sg2, r51, w51]
    have a1 : n32 v1 &&& 858993459 ≤ 858993459 := Nat.and_le_right
    have a2 : n32 v1 / 2 ^ 2 &&& 858993459 ≤ 858993459 := Nat.and_le_right
    exact Nat.mod_eq_of_lt (by omega)
  have b2 : n32 v2 < 2 ^ 31 := by
    have a1 : n32 v1 &&& mkM 51 4 ≤ mkM 51 4 := Nat.and_le_right
    have a2 : n32 v1 / 4 &&& mkM 51 4 ≤ mkM 51 4 := Nat.and_le_right
    rw [f2]
    rw [w51] at a1 a2 ⊢
    omega
  have f3 : n32 v3 = (n32 v2 + n32 v2 / 16) &&& mkM 15 4 := by
    rw [← e3, n32_and, n32_add, n32_shr _ _ 4 sg4, r15, w15, Nat.mod_eq_of_lt (by omega)]
  have f3' : n32 v3 = ply (cts 4 (n32 x)) := by
    rw [← pc_cts, ← sw_pc 4 _ (by rw [p256']; exact n32_lt x), f3, f2, f1]
    rfl
  have f4 : n32 v4 = (n32 v3 + n32 v3 / 256) % 2 ^ 32 := by
    rw [← e4, n32_add, n32_shr _ _ 8 sg8]
  have f5 : n32 v5 = (n32 v4 + n32 v4 / 256 / 256) % 2 ^ 32 := by
    rw [← e5, n32_add, n32_shr _ _ 16 sg16, d16]
  have hs := cts_sum 4 (n32 x)
  have hl := cts_le 4 (n32 x)
  have hlen : (cts 4 (n32 x)).length = 4 := rfl
  generalize cts 4 (n32 x) = l at hs hl hlen f3'
  match l, hlen with
  | [c0, c1, c2, c3], _ =>
    simp only [List.forall_mem_cons] at hl
    obtain ⟨k0, k1, k2, k3, -⟩ := hl
    have := sum4 c0 c1 c2 c3 k0 k1 k2 k3 _ _ _ f3' f4 f5
    rw [this, show (32 : Nat) = 8 * 4 from rfl, ← hs]
    simp only [List.sum_cons, List.sum_nil, Nat.add_zero, Nat.add_assoc]
end COUNT4
