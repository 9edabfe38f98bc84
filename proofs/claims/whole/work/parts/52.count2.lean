section COUNT2
def n64 (x : Int64) : Nat := x.toBitVec.toNat
theorem n64_lt (x : Int64) : n64 x < 2 ^ 64 := x.toBitVec.isLt
theorem n64_add (x y : Int64) : n64 (x + y) = (n64 x + n64 y) % 2 ^ 64 := by
  unfold n64; rw [Int64.toBitVec_add, BitVec.toNat_add]
theorem n64_sub (x y : Int64) (h : n64 y ≤ n64 x) : n64 (x - y) = n64 x - n64 y := by
  have h1 := n64_lt x
  unfold n64 at *
  rw [Int64.toBitVec_sub, BitVec.toNat_sub]
  omega
theorem n64_and (x y : Int64) : n64 (x &&& y) = n64 x &&& n64 y := by
  unfold n64; rw [Int64.toBitVec_and, BitVec.toNat_and]
theorem n64_shr (x : Int64) (u : UInt64) (k : Nat) (h : (u.toBitVec % 64).toNat = k) : n64 ((x.toUInt64 >>> u).toInt64) = n64 x / 2 ^ k := by
  show (x.toUInt64 >>> u).toBitVec.toNat = _
  rw [UInt64.toBitVec_shiftRight]
  show (x.toUInt64.toBitVec >>> (u.toBitVec % 64).toNat).toNat = _
  rw [h, BitVec.toNat_ushiftRight, Nat.shiftRight_eq_div_pow]
  rfl
theorem d256 {a b : Nat} (h : a < 256) : (a + 256 * b) / 256 = b := by omega
theorem d16 (x : Nat) : x / 2 ^ 16 = x / 256 / 256 := by rw [Nat.div_div_eq_div_mul]
theorem d32 (x : Nat) : x / 2 ^ 32 = x / 2 ^ 16 / 2 ^ 16 := by rw [Nat.div_div_eq_div_mul]
def ply : List Nat → Nat
  | [] => 0
  | c :: l => c + 256 * ply l
theorem ply_add : ∀ (l m : List Nat), l.length = m.length → ply l + ply m = ply (List.zipWith (· + ·) l m)
  | [], [], _ => rfl
  | [], _ :: _, h => by simp at h
  | _ :: _, [], h => by simp at h
  | a :: l, b :: m, h => by
    have := ply_add l m (by simpa using h)
    simp only [ply, List.zipWith_cons_cons]
    omega
theorem ply_div {c : Nat} {l : List Nat} (h : c < 256) : ply (c :: l) / 256 = ply l := d256 h
theorem ply_lt {k : Nat} (hk : k < 256) : ∀ (l : List Nat), (∀ c ∈ l, c ≤ k) → ply l < 256 ^ l.length
  | [], _ => by simp [ply]
  | c :: l, h => by
    have h1 := ply_lt hk l (fun x hx => h x (List.mem_cons_of_mem _ hx))
    have h2 := h c List.mem_cons_self
    rw [ply, List.length_cons, Nat.pow_succ]
    omega
theorem ply_sh (l : List Nat) : ply l = ply (l ++ [0]) := by
  induction l with
  | nil => rfl
  | cons a l ih => rw [List.cons_append, ply, ply, ih]
theorem p256 : (256 : Nat) ^ 8 = 2 ^ 64 := by decide
theorem sum8 (c0 c1 c2 c3 c4 c5 c6 c7 : Nat) (h0 : c0 ≤ 8) (h1 : c1 ≤ 8) (h2 : c2 ≤ 8) (h3 : c3 ≤ 8) (h4 : c4 ≤ 8) (h5 : c5 ≤ 8) (h6 : c6 ≤ 8) (h7 : c7 ≤ 8) (v3 v4 v5 v6 : Nat) (e3 : v3 = ply [c0, c1, c2, c3, c4, c5, c6, c7]) (e4 : v4 = (v3 + v3 / 256) % 2 ^ 64) (e5 : v5 = (v4 + v4 / 256 / 256) % 2 ^ 64) (e6 : v6 = (v5 + v5 / 256 / 256 / 256 / 256) % 2 ^ 64) : v6 % 128 = c0 + c1 + c2 + c3 + c4 + c5 + c6 + c7 := by
  have g4 : v4 = ply [c0 + c1, c1 + c2, c2 + c3, c3 + c4, c4 + c5, c5 + c6, c6 + c7, c7 + 0] := by
    rw [e4, e3, ply_div (by omega), ply_sh [c1, c2, c3, c4, c5, c6, c7]]
    simp only [List.cons_append, List.nil_append]
    rw [ply_add [c0, c1, c2, c3, c4, c5, c6, c7] [c1, c2, c3, c4, c5, c6, c7, 0] rfl]
    simp only [List.zipWith_cons_cons, List.zipWith_nil_right]
    refine Nat.mod_eq_of_lt ?_
    rw [← p256]
    exact ply_lt (k := 16) (by decide) _ (by simp only [List.forall_mem_cons]; refine ⟨?_, ?_, ?_, ?_, ?_, ?_, ?_, ?_, by simp⟩ <;> omega)
  have g5 : v5 = ply [c0 + c1 + (c2 + c3), c1 + c2 + (c3 + c4), c2 + c3 + (c4 + c5), c3 + c4 + (c5 + c6), c4 + c5 + (c6 + c7), c5 + c6 + (c7 + 0), c6 + c7 + 0, c7 + 0 + 0] := by
    rw [e5, g4, ply_div (by omega), ply_div (by omega), ply_sh [c2 + c3, c3 + c4, c4 + c5, c5 + c6, c6 + c7, c7 + 0], ply_sh ([c2 + c3, c3 + c4, c4 + c5, c5 + c6, c6 + c7, c7 + 0] ++ [0])]
    simp only [List.cons_append, List.nil_append]
    rw [ply_add [c0 + c1, c1 + c2, c2 + c3, c3 + c4, c4 + c5, c5 + c6, c6 + c7, c7 + 0] [c2 + c3, c3 + c4, c4 + c5, c5 + c6, c6 + c7, c7 + 0, 0, 0] rfl]
    simp only [List.zipWith_cons_cons, List.zipWith_nil_right]
    refine Nat.mod_eq_of_lt ?_
    rw [← p256]
    exact ply_lt (k := 32) (by decide) _ (by simp only [List.forall_mem_cons]; refine ⟨?_, ?_, ?_, ?_, ?_, ?_, ?_, ?_, by simp⟩ <;> omega)
  have g6 : v5 / 256 / 256 / 256 / 256 = ply [c4 + c5 + (c6 + c7), c5 + c6 + (c7 + 0), c6 + c7 + 0, c7 + 0 + 0] := by
    rw [g5, ply_div (by omega), ply_div (by omega), ply_div (by omega), ply_div (by omega)]
  rw [e6, g6, g5, Nat.mod_mod_of_dvd _ (by decide)]
  have k : ∀ A B : Nat, (c0 + c1 + (c2 + c3) + 256 * A + (c4 + c5 + (c6 + c7) + 256 * B)) % 128 = c0 + c1 + c2 + c3 + c4 + c5 + c6 + c7 := fun A B => by
    clear e4 e5 e6 g4 g5 g6
    omega
  exact k (ply [c1 + c2 + (c3 + c4), c2 + c3 + (c4 + c5), c3 + c4 + (c5 + c6), c4 + c5 + (c6 + c7), c5 + c6 + (c7 + 0), c6 + c7 + 0, c7 + 0 + 0]) (ply [c5 + c6 + (c7 + 0), c6 + c7 + 0, c7 + 0 + 0])
def cts : Nat → Nat → List Nat
  | 0, _ => []
  | n + 1, x => cntN 8 (fun i => x.testBit i) :: cts n (x / 256)
theorem pc_cts : ∀ n x, pcN n x = ply (cts n x)
  | 0, _ => rfl
  | n + 1, x => by rw [pcN, cts, ply, sw_b, pc_cts n]
theorem cts_le : ∀ n x, ∀ c ∈ cts n x, c ≤ 8
  | 0, _, _, h => by cases h
  | n + 1, x, c, h => by
    rcases List.mem_cons.mp h with rfl | h
    · exact cntN_le 8 _
    · exact cts_le n (x / 256) c h
theorem cts_sum : ∀ n x, (cts n x).sum = cntN (8 * n) (fun i => x.testBit i)
  | 0, _ => rfl
  | n + 1, x => by
    rw [show 8 * (n + 1) = 8 + 8 * n by omega, cntN_add, cts, List.sum_cons, cts_sum n]
    simp only [tb_div]
theorem m85 : mkM 85 8 = 6148914691236517205 := by decide
theorem m51 : mkM 51 8 = 3689348814741910323 := by decide
theorem m15 : mkM 15 8 = 1085102592571150095 := by decide
end COUNT2
