section COUNT2
def n64 (x : Int64) : Nat := x.toBitVec.toNat
theorem n64_lt (x : Int64) : n64 x < 2 ^ 64 := x.toBitVec.isLt
theorem n64_add (x y : Int64) : n64 (x + y) = (n64 x + n64 y) % 2 ^ 64 := by
  unfold n64; rw [Int64.toBitVec_add, BitVec.toNat_add]
theorem n64_sub (x y : Int64) (h : n64 y ≤ n64 x) : n64 (x - y) = n64 x - n64 y := by
  have h1 := n64_lt x
  unfold n64 at *
  rw [Int64.toBitVec_sub, BitVec.toNat_sub]
  omega
theorem n64_and (x y : Int64) : n64 (x &&& y) = n64 x &&& n64 y := by
  unfold n64; rw [Int64.toBitVec_and, BitVec.toNat_and]
theorem n64_shr (x : Int64) (u : UInt64) (k : Nat) (h : (u.toBitVec % 64).toNat = k) : n64 ((x.toUInt64 >>> u).toInt64) = n64 x / 2 ^ k := by
  show (x.toUInt64 >>> u).toBitVec.toNat = _
  rw [UInt64.toBitVec_shiftRight]
  show (x.toUInt64.toBitVec >>> (u.toBitVec % 64).toNat).toNat = _
  rw [h, BitVec.toNat_ushiftRight, Nat.shiftRight_eq_div_pow]
  rfl
theorem d256 {a b : Nat} (h : a < 256) : (a + 256 * b) / 256 = b := by omega
theorem d16 (x : Nat) : x / 2 ^ 16 = x / 256 / 256 := by rw [Nat.div_div_eq_div_mul]
theorem d32 (x : Nat) : x / 2 ^ 32 = x / 2 ^ 16 / 2 ^ 16 := by rw [Nat.div_div_eq_div_mul]
def ply : List Nat → Nat
  | [] => 0
  | c :: l => c + 256 * ply l
theorem ply_add : ∀ (l m : List Nat), l.length = m.length → ply l + ply m = ply (List.zipWith (· + ·) l m)
  | [], [], _ => rfl
  | [], _ :: _, h => by simp at h
  | _ :: _, [], h => by simp at h
  | a :: l, b :: m, h => by
    have := ply_add l m (by simpa using h)
    simp only [ply, List.zipWith_cons_cons]
    omega
theorem ply_div {c : Nat} {l : List Nat} (h : c < 256) : ply (c :: l) / 256 = ply l := d256 h
theorem ply_lt {k : Nat} (hk : k < 256) : ∀ (l : List Nat), (∀ c ∈ l, c ≤ k) → ply l < 256 ^ l.length
  | [], _ => by simp [ply]
  | c :: l, h => by
    have h1 := ply_lt hk l (fun x hx => h x (List.mem_cons_of_mem _ hx))
    have h2 := h c List.mem_cons_self
    rw [ply, List.length_cons, Nat.pow_succ]
    omega
end COUNT2
