/-! rows begun from kit/laws/BITS.to-paste (wb_, pf_) -/
theorem wb_tb (n : Nat) : (lN n).toBitVec = BitVec.ofNat 64 n := rfl
theorem wb_inj {a b : Int64} (h : a.toBitVec = b.toBitVec) : a = b := Int64.toBitVec_inj.mp h
theorem wb_tn {n : Nat} (h : n < 2 ^ 64) : (lN n).toBitVec.toNat = n := by rw [wb_tb, BitVec.toNat_ofNat, Nat.mod_eq_of_lt h]
theorem wb_of (x : Int64) : ∃ n, n < 2 ^ 64 ∧ x = lN n := ⟨x.toBitVec.toNat, x.toBitVec.isLt, wb_inj (by rw [wb_tb]; simp)⟩
theorem wb_of32 (x : Int32) : ∃ n, n < 2 ^ 32 ∧ x = nI n := ⟨x.toBitVec.toNat, x.toBitVec.isLt, Int32.toBitVec_inj.mp (by show _ = BitVec.ofNat 32 _; simp)⟩
theorem wb_c : ∀ k, k < 64 → ((nI k).toInt64 &&& 63) = lN k := by decide +kernel
theorem wb_cu : ∀ k, k < 64 → ((nI k).toInt64.toUInt64 &&& Int64.toUInt64 63) = UInt64.ofNat k := by decide +kernel
theorem wb_sm : ∀ k, k < 64 → (BitVec.ofNat 64 k).smod 64 = BitVec.ofNat 64 k := by decide +kernel
theorem wb_pw {a b : Nat} (h : a ≤ b) : 2 ^ b = 2 ^ a * 2 ^ (b - a) := by rw [← Nat.pow_add]; congr 1; omega
theorem wb_lt2 {a b : Nat} (h : a < b) : 2 ^ a < 2 ^ b := Nat.pow_lt_pow_right (by decide) h
theorem wb_mod (n : Nat) : lN n = lN (n % 2 ^ 64) := wb_inj (by rw [wb_tb, wb_tb]; apply BitVec.eq_of_toNat_eq; rw [BitVec.toNat_ofNat, BitVec.toNat_ofNat, Nat.mod_mod])
theorem wb_shr {n k : Nat} (hn : n < 2 ^ 64) (hk : k < 64) : ((lN n).toUInt64 >>> ((nI k).toInt64.toUInt64 &&& Int64.toUInt64 63)).toInt64 = lN (n / 2 ^ k) := by
  rw [wb_cu k hk]
  apply wb_inj
  apply BitVec.eq_of_toNat_eq
  show ((lN n).toUInt64 >>> UInt64.ofNat k).toNat = (BitVec.ofNat 64 _).toNat
  have h1 : (UInt64.ofNat k).toNat = k := by
    show (BitVec.ofNat 64 k).toNat = k
    rw [BitVec.toNat_ofNat, Nat.mod_eq_of_lt (by omega)]
  have h2 : (lN n).toUInt64.toNat = n := wb_tn hn
  rw [UInt64.toNat_shiftRight, h1, h2, Nat.mod_eq_of_lt hk, Nat.shiftRight_eq_div_pow, BitVec.toNat_ofNat, Nat.mod_eq_of_lt (Nat.lt_of_le_of_lt (Nat.div_le_self _ _) hn)]
theorem wb_shl (n : Nat) {k : Nat} (hk : k < 64) : lN n <<< ((nI k).toInt64 &&& 63) = lN (n * 2 ^ k) := by
  rw [wb_c k hk]
  apply wb_inj
  rw [Int64.toBitVec_shiftLeft, wb_tb, wb_tb, wb_tb, wb_sm k hk]
  apply BitVec.eq_of_toNat_eq
  rw [BitVec.shiftLeft_eq', BitVec.toNat_shiftLeft, BitVec.toNat_ofNat, BitVec.toNat_ofNat, BitVec.toNat_ofNat, Nat.mod_eq_of_lt (show k < 2 ^ 64 by omega), Nat.shiftLeft_eq, Nat.mul_mod, Nat.mod_mod, ← Nat.mul_mod]
theorem wb_and {a b : Nat} (ha : a < 2 ^ 64) (hb : b < 2 ^ 64) : lN a &&& lN b = lN (a &&& b) := by
  apply wb_inj
  rw [Int64.toBitVec_and, wb_tb, wb_tb, wb_tb]
  apply BitVec.eq_of_toNat_eq
  rw [BitVec.toNat_and, BitVec.toNat_ofNat, BitVec.toNat_ofNat, BitVec.toNat_ofNat, Nat.mod_eq_of_lt ha, Nat.mod_eq_of_lt hb, Nat.mod_eq_of_lt (Nat.and_lt_two_pow _ hb)]
theorem wb_or {a b : Nat} (ha : a < 2 ^ 64) (hb : b < 2 ^ 64) : lN a ||| lN b = lN (a ||| b) := by
  apply wb_inj
  rw [Int64.toBitVec_or, wb_tb, wb_tb, wb_tb]
  apply BitVec.eq_of_toNat_eq
  rw [BitVec.toNat_or, BitVec.toNat_ofNat, BitVec.toNat_ofNat, BitVec.toNat_ofNat, Nat.mod_eq_of_lt ha, Nat.mod_eq_of_lt hb, Nat.mod_eq_of_lt (Nat.or_lt_two_pow ha hb)]
theorem wb_mask {n k : Nat} (hn : n < 2 ^ 64) (hk : k < 64) : lN n &&& lN (2 ^ k - 1) = lN (n % 2 ^ k) := by
  rw [wb_and hn (by have := wb_lt2 hk; omega), Nat.and_two_pow_sub_one_eq_mod]
theorem wb_a1 {n : Nat} (hn : n < 2 ^ 64) : lN n &&& 1 = lN (n % 2) := wb_mask (k := 1) hn (by decide)
theorem pf_lI {a : Nat} (h : a < 2 ^ 63) : (lN a).toInt = (a : Int) := lg_ofNat_toInt h
theorem pf_shr {a d : Nat} {D : Int64} (hD : (D.toBitVec.smod 64).toNat = d) (h : a < 2 ^ 62) : lN a >>> D = lN (a / 2 ^ d) := by
  have hd : a / 2 ^ d ≤ a := Nat.div_le_self _ _
  apply Int64.toInt_inj.mp
  have e : (lN a >>> D).toInt = (lN a).toInt >>> d := by
    rw [← hD]
    exact BitVec.toInt_sshiftRight ..
  rw [e, Int.shiftRight_eq_div_pow, pf_lI (by omega), pf_lI (by omega)]
  rfl
/-! histories of stalls -/
theorem xN (x : Int64) : x = lN (n64 x) := wb_inj (by rw [wb_tb]; unfold n64; simp)
theorem n64_lN {m : Nat} (h : m < 2 ^ 64) : n64 (lN m) = m := wb_tn h
theorem low_mask {T : Nat} (hT : T < 64) (x : Int64) : n64 (x &&& (((1 : Int64) <<< (Int32.toInt64 (nI T) &&& 63)) - 1)) = n64 x % 2 ^ T := by
  have hx := n64_lt x
  have e1 : (1 : Int64) <<< (Int32.toInt64 (nI T) &&& 63) = lN (2 ^ T) := by
    have := wb_shl 1 hT
    rw [Nat.one_mul] at this; exact this
  have hp : 1 ≤ 2 ^ T := Nat.one_le_two_pow
  have e2 : lN (2 ^ T) - 1 = lN (2 ^ T - 1) := lN_sub (b := 1) hp
  rw [e1, e2]
  have e3 : x &&& lN (2 ^ T - 1) = lN (n64 x % 2 ^ T) := by
    have := wb_mask (n := n64 x) hx hT
    rw [← xN x] at this; exact this
  rw [e3, n64_lN (Nat.lt_of_le_of_lt (Nat.mod_le _ _) hx)]
theorem cntN_mod (N T : Nat) (hT : T ≤ 64) : cntN 64 (fun i => (N % 2 ^ T).testBit i) = cntN T (fun i => N.testBit i) := by
  obtain ⟨d, hd⟩ : ∃ d, 64 = T + d := ⟨64 - T, by omega⟩
  have z : ∀ n, cntN n (fun _ => false) = 0 := fun n => by
    induction n with
    | zero => rfl
    | succ n ih => rw [cntN, ih]; rfl
  rw [hd, cntN_add]
  have e1 : cntN T (fun i => (N % 2 ^ T).testBit i) = cntN T (fun i => N.testBit i) := cntN_cong fun i hi => by
    rw [Nat.testBit_mod_two_pow]; simp [hi]
  have e2 : cntN d (fun i => (N % 2 ^ T).testBit (T + i)) = cntN d (fun _ => false) := cntN_cong fun i hi => by
    have : ¬ T + i < T := by omega
    rw [Nat.testBit_mod_two_pow]; simp [this]
  rw [e1, e2, z]
  rfl
/-- in how many of the latest T ticks, s of them passed over -/
def recV (V : WV) (k g s T : Nat) : Nat := cntN T (fun i => (n64 (V.2 (35 + k) g)).testBit (s + i))
section GAUGES
variable {V U : WV} {w b : Nat} {P : WV → Hp}
theorem s_recent (hP : LG w P) {g k T : Nat} (hg : g < 12) (hk : k < 3) (hT : T < 64) : F_X1_recent (P V) (w + 33) (nI g) (nI k) (nI T) = some (nI (recV V k g 0 T)) := by
  unfold F_X1_recent F_X1_lowBits
  simp only [ga hP, Option.bind_some, hg, hk, s_bitJ, low_mask hT, cntN_mod _ _ (Nat.le_of_lt hT)]
  unfold recV
  simp only [Nat.zero_add]
theorem s_recentA (hP : LG w P) {g k T : Nat} (hg : g < 12) (hk : k < 3) (hT : T < 64) : F_X1_recentAhead (P V) (w + 33) (nI g) (nI k) (nI T) = some (nI (recV V k g 1 T)) := by
  unfold F_X1_recentAhead F_X1_lowBits
  simp only [ga hP, Option.bind_some, hg, hk, s_bitJ, low_mask hT, cntN_mod _ _ (Nat.le_of_lt hT), n64_shr _ _ 1 sh1]
  have e2 : cntN T (fun i => (n64 (V.2 (35 + k) g) / 2 ^ 1).testBit i) = recV V k g 1 T := cntN_cong fun i hi => by
    rw [Nat.testBit_div_two_pow, Nat.add_comm i 1]
  rw [e2]
theorem m_lat (hP : LM b P) (hR : Rel V (U.1 1)) {g k : Nat} (hg : g < 12) (ht : thV V g = true) (hk : k < 3) : F_X10_latestOf (P U) b (nI g) (nI k) = some (lN (n64 (V.2 (35 + k) g) % 2 ^ 40), P U) := by
  obtain ⟨r1, r2⟩ := hR.2.2.1 g k hg ht hk
  have i1 : 7 + 34 * g + (18 + 2 * k) < 1677 := by omega
  have i2 : 7 + 34 * g + (18 + 2 * k + 1) < 1677 := by omega
  have e1 : (18 : Int32) + 2 * nI k = nI (18 + 2 * k) := by
    rw [show (18 : Int32) = nI 18 from rfl, show (2 : Int32) = nI 2 from rfl, nI_mul, nI_add]
  have a1 : F_X10_of (P U) b (nI g) (nI (18 + 2 * k)) 0 = some (lo20 (V.2 (35 + k) g), P U) := by
    unfold F_X10_of
    simp only [ml hP, Option.bind_some, ix_g, i1, Int32.add_zero, upd_id, sx_id]
    rw [r1]
  have a2 : F_X10_of (P U) b (nI g) (nI (18 + 2 * k + 1)) 0 = some (hi20 (V.2 (35 + k) g), P U) := by
    unfold F_X10_of
    simp only [ml hP, Option.bind_some, ix_g, i2, Int32.add_zero, upd_id, sx_id]
    rw [r2]
  unfold F_X10_latestOf
  simp only [ml hP, e1, nI_1, a1, a2, Option.bind_some, un]
  obtain ⟨N, hN⟩ : ∃ N, N = n64 (V.2 (35 + k) g) := ⟨_, rfl⟩
  unfold lo20 hi20
  rw [← hN]
  have hlo : N % 1048576 < 1048576 := Nat.mod_lt _ (by decide)
  have hhi : N / 1048576 % 1048576 < 1048576 := Nat.mod_lt _ (by decide)
  rw [nI_l (by omega), nI_l (by omega)]
  have s1 : lN (N / 1048576 % 1048576) <<< (Int32.toInt64 20 &&& 63) = lN (N / 1048576 % 1048576 * 2 ^ 20) := wb_shl _ (k := 20) (by decide)
  rw [s1, wb_or (by omega) (by omega)]
  have s2 : N / 1048576 % 1048576 * 2 ^ 20 ||| N % 1048576 = N % 2 ^ 40 := by
    rw [Nat.mul_comm, ← Nat.two_pow_add_eq_or_of_lt (by omega)]
    omega
  rw [s2]
theorem m_press (hP : LM b P) (hR : Rel V (U.1 1)) {g k T : Nat} (hg : g < 12) (ht : thV V g = true) (hk : k < 3) (hT : T ≤ 40) : F_X10_pressureOf (P U) b (nI g) (nI k) (nI T) = some (nI (recV V k g 0 T), P U) := by
  obtain ⟨N, hN⟩ : ∃ N, N = n64 (V.2 (35 + k) g) := ⟨_, rfl⟩
  have hlt : N % 2 ^ 40 < 2 ^ 40 := Nat.mod_lt _ (by decide)
  obtain ⟨a, ha, hI⟩ := loop_inv (st := fun x => F_X10_pressureOf_L14 (P U) (nI T) (lN (N % 2 ^ 40)) x.1 x.2) (fun i (a : Int32) => (a, nI i)) (fun a => a) (fun i a => a = nI (cntN i (fun j => N.testBit j))) T
    (fun i a hi hI => by
      refine ⟨nI (cntN (i + 1) (fun j => N.testBit j)), ?_, rfl⟩
      show F_X10_pressureOf_L14 (P U) (nI T) (lN (N % 2 ^ 40)) a (nI i) = _
      unfold F_X10_pressureOf_L14
      rw [if_neg (nI_ge hi (by omega)), hI, cntN_s]
      have e1 : lN (N % 2 ^ 40) >>> (Int32.toInt64 (nI i) &&& 63) = lN (N % 2 ^ 40 / 2 ^ i) := by
        refine pf_shr ?_ (by omega)
        rw [wb_c i (by omega), wb_tb]
        have hs := wb_sm i (by omega)
        rw [show ((64 : BitVec 64)) = 64 from rfl]
        rw [hs, BitVec.toNat_ofNat, Nat.mod_eq_of_lt (by omega)]
      have hd : N % 2 ^ 40 / 2 ^ i < 2 ^ 64 := Nat.lt_of_le_of_lt (Nat.div_le_self _ _) (by omega)
      rw [e1, wb_a1 hd]
      have hb : N % 2 ^ 40 / 2 ^ i % 2 = if N.testBit i then 1 else 0 := by
        have h1 : (N % 2 ^ 40).testBit i = N.testBit i := by
          rw [Nat.testBit_mod_two_pow]; simp; omega
        rw [← h1, Nat.testBit_eq_decide_div_mod_eq]
        rcases Nat.mod_two_eq_zero_or_one (N % 2 ^ 40 / 2 ^ i) with q | q
        · simp [q]
        · simp [q]
      rw [hb]
      cases N.testBit i
      · have : ¬ lg_cmp (lN (if false = true then 1 else 0)) 1 = 0 := by decide
        rw [if_neg this]
        simp [bl, nI_1]
      · have : lg_cmp (lN (if true = true then 1 else 0)) 1 = 0 := by decide
        rw [if_pos this]
        simp [bl, nI_1])
    (fun a hI => by
      show F_X10_pressureOf_L14 (P U) (nI T) (lN (N % 2 ^ 40)) a (nI T) = _
      unfold F_X10_pressureOf_L14
      rw [if_pos (nI_le (Nat.le_refl _) (by omega))])
    T 0 6000 0 (by omega) (by omega) rfl
  have ha' : loopF (fun x => F_X10_pressureOf_L14 (P U) (nI T) (lN (N % 2 ^ 40)) x.1 x.2) 6000 (0, 0) = some a := ha
  have hl := m_lat hP hR hg ht hk
  rw [← hN] at hl
  unfold F_X10_pressureOf
  simp only [ml hP, hl, Option.bind_some, un, ha', hI]
  unfold recV
  rw [← hN]
  simp only [Nat.zero_add]
end GAUGES
