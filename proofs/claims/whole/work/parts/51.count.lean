/-! how many bits: the programs' bitCount -/
section COUNT
def swS (a b c x : Nat) : Nat := (((x - ((x / 2) &&& a)) &&& b) + (((x - ((x / 2) &&& a)) / 4) &&& b) + (((x - ((x / 2) &&& a)) &&& b) + (((x - ((x / 2) &&& a)) / 4) &&& b)) / 16) &&& c
def mkM (m : Nat) : Nat → Nat
  | 0 => 0
  | n + 1 => m + 256 * mkM m n
def pcN : Nat → Nat → Nat
  | 0, _ => 0
  | n + 1, x => swS 85 51 15 (x % 256) + 256 * pcN n (x / 256)
theorem land_split {d y m M : Nat} (hd : d < 256) (hm : m < 256) : (d + 256 * y) &&& (m + 256 * M) = (d &&& m) + 256 * (y &&& M) := by
  have h : ∀ a b : Nat, a + 256 * b = 2 ^ 8 * b + a := fun a b => by omega
  rw [h, h, h]
  apply Nat.eq_of_testBit_eq
  intro i
  rw [Nat.testBit_and, Nat.testBit_two_pow_mul_add _ hd, Nat.testBit_two_pow_mul_add _ hm, Nat.testBit_two_pow_mul_add _ (Nat.lt_of_le_of_lt Nat.and_le_left hd)]
  by_cases e : i < 8 <;> simp [e]
theorem land_51 (a M : Nat) (hM : M % 16 = 3) : (a &&& M) % 16 ≤ 3 := by
  have : (a &&& M) % 2 ^ 4 = (a % 2 ^ 4) &&& (M % 2 ^ 4) := Nat.and_mod_two_pow
  have h2 : (a &&& M) % 16 = (a % 16) &&& (M % 16) := this
  rw [h2, hM]
  exact Nat.and_le_right
theorem b_fact1 : ∀ d : Fin 256, ∀ t : Fin 2, ((d.val / 2 + 128 * t.val) &&& 85) = ((d.val / 2) &&& 85) ∧ ((d.val / 2) &&& 85) ≤ d.val := by decide +kernel
theorem b_fact2 : ∀ d : Fin 256, ∀ t : Fin 4, ((d.val / 4 + 64 * t.val) &&& 51) = ((d.val / 4) &&& 51) := by decide +kernel
theorem b_fact3 : ∀ d : Fin 256, ((d.val &&& 51) + ((d.val / 4) &&& 51)) ≤ 102 ∧ ((d.val &&& 51) + ((d.val / 4) &&& 51)) % 16 ≤ 6 := by decide +kernel
theorem b_fact4 : ∀ e : Fin 103, ∀ t : Fin 7, e.val % 16 ≤ 6 → ((e.val + e.val / 16 + 16 * t.val) &&& 15) = ((e.val + e.val / 16) &&& 15) := by decide +kernel
theorem sw_step {d y A B C : Nat} (hd : d < 256) (hB : B % 16 = 3 ∨ y = 0) (hA : (y / 2) &&& A ≤ y) : swS (85 + 256 * A) (51 + 256 * B) (15 + 256 * C) (d + 256 * y) = swS 85 51 15 d + 256 * swS A B C y := by
  have e1 : ((d + 256 * y) / 2) &&& (85 + 256 * A) = ((d / 2) &&& 85) + 256 * ((y / 2) &&& A) := by
    have q : (d + 256 * y) / 2 = (d / 2 + 128 * (y % 2)) + 256 * (y / 2) := by omega
    rw [q, land_split (by omega) (by decide), (b_fact1 ⟨d, hd⟩ ⟨y % 2, by omega⟩).1]
  have l1 := (b_fact1 ⟨d, hd⟩ 0).2
  have e2 : d + 256 * y - (((d + 256 * y) / 2) &&& (85 + 256 * A)) = (d - ((d / 2) &&& 85)) + 256 * (y - ((y / 2) &&& A)) := by
    rw [e1]
    have : (d / 2) &&& 85 ≤ d := l1
    omega
  have hd1 : d - ((d / 2) &&& 85) < 256 := by omega
  have hy1 : y = 0 → y - ((y / 2) &&& A) = 0 := fun h => by omega
  unfold swS
  rw [e2]
  generalize d - ((d / 2) &&& 85) = d1 at hd1 ⊢
  generalize y - ((y / 2) &&& A) = y1 at hy1 ⊢
  have e3 : ((d1 + 256 * y1) &&& (51 + 256 * B)) = (d1 &&& 51) + 256 * (y1 &&& B) := land_split hd1 (by decide)
  have e4 : (((d1 + 256 * y1) / 4) &&& (51 + 256 * B)) = ((d1 / 4) &&& 51) + 256 * ((y1 / 4) &&& B) := by
    have q : (d1 + 256 * y1) / 4 = (d1 / 4 + 64 * (y1 % 4)) + 256 * (y1 / 4) := by omega
    rw [q, land_split (by omega) (by decide), b_fact2 ⟨d1, hd1⟩ ⟨y1 % 4, by omega⟩]
  rw [e3, e4]
  have f3 := b_fact3 ⟨d1, hd1⟩
  have hf : ((y1 &&& B) + ((y1 / 4) &&& B)) % 16 ≤ 6 := by
    rcases hB with h | h
    · have a1 := land_51 y1 B h
      have a2 := land_51 (y1 / 4) B h
      omega
    · rw [hy1 h]; simp
  have g1 : ∀ a b c e : Nat, a + 256 * b + (c + 256 * e) = (a + c) + 256 * (b + e) := fun a b c e => by omega
  rw [g1]
  have k1 : (d1 &&& 51) + ((d1 / 4) &&& 51) ≤ 102 := f3.1
  have k2 : ((d1 &&& 51) + ((d1 / 4) &&& 51)) % 16 ≤ 6 := f3.2
  generalize (d1 &&& 51) + ((d1 / 4) &&& 51) = x1 at k1 k2 ⊢
  generalize (y1 &&& B) + ((y1 / 4) &&& B) = z1 at hf ⊢
  have q : x1 + 256 * z1 + (x1 + 256 * z1) / 16 = (x1 + x1 / 16 + 16 * (z1 % 16)) + 256 * (z1 + z1 / 16) := by omega
  rw [q, land_split (by omega) (by decide), b_fact4 ⟨x1, by omega⟩ ⟨z1 % 16, by omega⟩ k2]
theorem land_half (y A : Nat) : (y / 2) &&& A ≤ y := Nat.le_trans Nat.and_le_left (Nat.div_le_self _ _)
theorem sw_pc : ∀ (n x : Nat), x < 256 ^ n → swS (mkM 85 n) (mkM 51 n) (mkM 15 n) x = pcN n x
  | 0, x, h => by
    have : x = 0 := by simpa using h
    subst this; rfl
  | n + 1, x, h => by
    have hx : x = x % 256 + 256 * (x / 256) := by omega
    have hy : x / 256 < 256 ^ n := by
      rw [Nat.pow_succ] at h
      exact Nat.div_lt_of_lt_mul (by omega)
    have hB : mkM 51 n % 16 = 3 ∨ x / 256 = 0 := by
      cases n with
      | zero => right; simpa using hy
      | succ n => left; show (51 + 256 * mkM 51 n) % 16 = 3; omega
    have := sw_step (d := x % 256) (y := x / 256) (A := mkM 85 n) (B := mkM 51 n) (C := mkM 15 n) (by omega) hB (land_half _ _)
    rw [← hx, sw_pc n (x / 256) hy] at this
    exact this
/-- the bits of a number below n, counted -/
def cntN : Nat → (Nat → Bool) → Nat
  | 0, _ => 0
  | n + 1, f => cntN n f + (if f n then 1 else 0)
theorem sw_byte : ∀ d : Fin 256, swS 85 51 15 d.val = cntN 8 (fun i => d.val.testBit i) := by decide +kernel
theorem cntN_cong : ∀ {n : Nat} {f g : Nat → Bool}, (∀ i, i < n → f i = g i) → cntN n f = cntN n g
  | 0, _, _, _ => rfl
  | n + 1, f, g, h => by
    rw [cntN, cntN, cntN_cong (fun i hi => h i (by omega)), h n (by omega)]
theorem cntN_le : ∀ (n : Nat) (f : Nat → Bool), cntN n f ≤ n
  | 0, _ => Nat.le_refl _
  | n + 1, f => by
    rw [cntN]
    have := cntN_le n f
    split <;> omega
theorem cntN_add (m : Nat) : ∀ (n : Nat) (f : Nat → Bool), cntN (m + n) f = cntN m f + cntN n (fun i => f (m + i))
  | 0, _ => rfl
  | n + 1, f => by
    show cntN (m + n) f + (if f (m + n) then 1 else 0) = _
    rw [cntN_add m n f, cntN]
    omega
theorem sw_b (x : Nat) : swS 85 51 15 (x % 256) = cntN 8 (fun i => x.testBit i) := by
  rw [sw_byte ⟨x % 256, by omega⟩]
  refine cntN_cong fun i hi => ?_
  show (x % 2 ^ 8).testBit i = _
  rw [Nat.testBit_mod_two_pow]
  simp [hi]
theorem tb_div (x i : Nat) : (x / 256).testBit i = x.testBit (8 + i) := by
  show (x / 2 ^ 8).testBit i = _
  rw [Nat.testBit_div_two_pow, Nat.add_comm]
end COUNT
