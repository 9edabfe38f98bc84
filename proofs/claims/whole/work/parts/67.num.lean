/-! sums as Int: no sum of pages is too large -/
def isum : Nat → (Nat → Int) → Int
  | 0, _ => 0
  | n + 1, f => isum n f + f n
theorem isum_nn {f : Nat → Int} : ∀ n, (∀ i, i < n → 0 ≤ f i) → 0 ≤ isum n f
  | 0, _ => Int.le_refl _
  | n + 1, h => by
    have h1 := isum_nn n (fun i hi => h i (by omega))
    have h2 := h n (Nat.lt_succ_self _)
    show 0 ≤ isum n f + f n
    omega
theorem isum_le {f g : Nat → Int} : ∀ n, (∀ i, i < n → f i ≤ g i) → isum n f ≤ isum n g
  | 0, _ => Int.le_refl _
  | n + 1, h => by
    have h1 := isum_le n (fun i hi => h i (by omega))
    have h2 := h n (Nat.lt_succ_self _)
    show isum n f + f n ≤ isum n g + g n
    omega
theorem isum_cong {f g : Nat → Int} : ∀ n, (∀ i, i < n → f i = g i) → isum n f = isum n g
  | 0, _ => rfl
  | n + 1, h => by
    show isum n f + f n = isum n g + g n
    rw [isum_cong n (fun i hi => h i (by omega)), h n (Nat.lt_succ_self _)]
theorem isum_upd {f g : Nat → Int} {k : Nat} {d : Int} : ∀ n, k < n → g k = f k + d → (∀ i, i < n → i ≠ k → g i = f i) → isum n g = isum n f + d
  | 0, h, _, _ => absurd h (Nat.not_lt_zero _)
  | n + 1, h, h1, h2 => by
    show isum n g + g n = isum n f + f n + d
    by_cases e : k = n
    · subst e
      rw [h1, isum_cong k (fun i hi => h2 i (by omega) (by omega))]; omega
    · rw [isum_upd n (by omega) h1 (fun i hi hne => h2 i (by omega) hne), h2 n (Nat.lt_succ_self _) (fun z => e z.symm)]; omega
theorem isum_ge {f : Nat → Int} {k : Nat} : ∀ n, k < n → (∀ i, i < n → 0 ≤ f i) → f k ≤ isum n f
  | 0, h, _ => absurd h (Nat.not_lt_zero _)
  | n + 1, h, h1 => by
    show f k ≤ isum n f + f n
    have := h1 n (Nat.lt_succ_self _)
    by_cases e : k = n
    · subst e; have := isum_nn k (fun i hi => h1 i (by omega)); omega
    · have := isum_ge n (show k < n by omega) (fun i hi => h1 i (by omega)); omega
theorem smI_I {f : Nat → Int32} : ∀ n, (∀ i, i < n → 0 ≤ (f i).toInt) → isum n (fun i => (f i).toInt) < 2147483648 → (smI (List.range n) f).toInt = isum n (fun i => (f i).toInt)
  | 0, _, _ => rfl
  | n + 1, h, hb => by
    have h1 : 0 ≤ isum n (fun i => (f i).toInt) := isum_nn n (fun i hi => h i (by omega))
    have h2 := h n (Nat.lt_succ_self _)
    have hb' : isum n (fun i => (f i).toInt) + (f n).toInt < 2147483648 := hb
    have ih := smI_I n (fun i hi => h i (by omega)) (by omega)
    rw [smI_succ, ti_add (by omega) (by omega), ih]; rfl
def stkI (V : WV) : Int := isum 12 (fun g => if thV V g then (V.1 14 g).toInt else 0)
def pgsI (V : WV) : Int := isum 16 (fun p => if phV V p then (V.1 27 p).toInt + (V.1 28 p).toInt else 0)
/-- no number of pages is below 0; all pages are 999 at most -/
def Num (V : WV) : Prop := (∀ g, g < 12 → thV V g = true → 0 ≤ (V.1 14 g).toInt) ∧ (∀ p, p < 16 → phV V p = true → 0 ≤ (V.1 27 p).toInt ∧ 0 ≤ (V.1 28 p).toInt ∧ 0 ≤ (V.1 29 p).toInt) ∧ stkI V + pgsI V ≤ 999
/-- limits are numbers that can be -/
def LimR (V : WV) : Prop := ∀ g, g < 12 → thV V g = true → (0 ≤ (V.1 5 g).toInt ∧ (V.1 5 g).toInt ≤ 999) ∧ (0 ≤ (V.1 6 g).toInt ∧ (V.1 6 g).toInt ≤ 999) ∧ (0 ≤ (V.1 7 g).toInt ∧ (V.1 7 g).toInt ≤ 999) ∧ (0 ≤ (V.1 8 g).toInt ∧ (V.1 8 g).toInt ≤ 999) ∧ (0 ≤ (V.1 10 g).toInt ∧ (V.1 10 g).toInt ≤ 999) ∧ (1 ≤ (V.1 11 g).toInt ∧ (V.1 11 g).toInt ≤ 9) ∧ (0 ≤ (V.1 12 g).toInt ∧ (V.1 12 g).toInt ≤ 99)
section NUM
variable {V : WV} {n : Nat} {o : Nat → Nat}
theorem Num.stk0 (h : Num V) : 0 ≤ stkI V := isum_nn 12 fun g hg => by
  cases ht : thV V g
  · simp
  · simp only [if_true]; exact h.1 g hg ht
theorem Num.pgs0 (h : Num V) : 0 ≤ pgsI V := isum_nn 16 fun p hp => by
  cases ht : phV V p
  · simp
  · simp only [if_true]; have := h.2.1 p hp ht; omega
theorem Num.held (h : Num V) {p : Nat} (hp : p < 16) (ht : phV V p = true) : 0 ≤ (V.1 27 p).toInt ∧ 0 ≤ (V.1 28 p).toInt ∧ (V.1 27 p).toInt + (V.1 28 p).toInt ≤ 999 ∧ (heldV V p).toInt = (V.1 27 p).toInt + (V.1 28 p).toInt := by
  have h1 := h.2.1 p hp ht
  have h2 : (if phV V p then (V.1 27 p).toInt + (V.1 28 p).toInt else 0) ≤ pgsI V := isum_ge (f := fun p => if phV V p then (V.1 27 p).toInt + (V.1 28 p).toInt else 0) 16 hp (fun i hi => by
    cases ht : phV V i
    · simp
    · simp only [if_true]; have := h.2.1 i hi ht; omega)
  rw [ht, if_pos rfl] at h2
  have h3 := h.2.2
  have h4 := h.stk0
  refine ⟨h1.1, h1.2.1, by omega, ?_⟩
  unfold heldV
  rw [ti_add (by omega) (by omega)]
theorem Num.stock (h : Num V) {g : Nat} (hg : g < 12) (ht : thV V g = true) : 0 ≤ (V.1 14 g).toInt ∧ (V.1 14 g).toInt ≤ 999 := by
  have h1 := h.1 g hg ht
  have h2 : (if thV V g then (V.1 14 g).toInt else 0) ≤ stkI V := isum_ge (f := fun g => if thV V g then (V.1 14 g).toInt else 0) 12 hg (fun i hi => by
    cases ht : thV V i
    · simp
    · simp only [if_true]; exact h.1 i hi ht)
  rw [ht, if_pos rfl] at h2
  have h3 := h.2.2
  have h4 := h.pgs0
  omega
theorem stkF_I (h : Num V) (r : Nat) : (stkF V r).toInt = isum 12 (fun g => if thV V g && blw (pfV V) r g then (V.1 14 g).toInt else 0) ∧ 0 ≤ (stkF V r).toInt ∧ (stkF V r).toInt ≤ stkI V := by
  have e : ∀ g, ((if thV V g && blw (pfV V) r g then V.1 14 g else 0 : Int32)).toInt = if thV V g && blw (pfV V) r g then (V.1 14 g).toInt else 0 := fun g => by
    split
    · rfl
    · rfl
  have nn : ∀ i, i < 12 → 0 ≤ (if thV V i && blw (pfV V) r i then (V.1 14 i).toInt else 0) := fun i hi => by
    cases ht : thV V i
    · simp
    · cases blw (pfV V) r i
      · simp
      · simpa using h.1 i hi ht
  have le : isum 12 (fun g => if thV V g && blw (pfV V) r g then (V.1 14 g).toInt else 0) ≤ stkI V := isum_le 12 fun i hi => by
    cases ht : thV V i
    · simp
    · have := h.1 i hi ht
      cases blw (pfV V) r i
      · simpa using this
      · simp
  have h3 := h.2.2
  have h4 := h.pgs0
  have h5 := isum_nn 12 nn
  have key := smI_I (f := fun g => if thV V g && blw (pfV V) r g then V.1 14 g else 0) 12 (fun i hi => by rw [e]; exact nn i hi) (by simp only [e]; omega)
  simp only [e] at key
  unfold stkF
  rw [key]
  exact ⟨rfl, h5, le⟩
theorem pgsF_I (h : Num V) (r : Nat) : (smI (List.range 16) (fun p => if decide (V.1 24 p ≠ -1) && blw (pfV V) r (V.1 24 p).toNatClampNeg then V.1 27 p + V.1 28 p else 0)).toInt = isum 16 (fun p => if phV V p && blw (pfV V) r (hom V p) then (V.1 27 p).toInt + (V.1 28 p).toInt else 0) ∧ 0 ≤ isum 16 (fun p => if phV V p && blw (pfV V) r (hom V p) then (V.1 27 p).toInt + (V.1 28 p).toInt else 0) ∧ isum 16 (fun p => if phV V p && blw (pfV V) r (hom V p) then (V.1 27 p).toInt + (V.1 28 p).toInt else 0) ≤ pgsI V := by
  have e : ∀ p, p < 16 → ((if decide (V.1 24 p ≠ -1) && blw (pfV V) r (V.1 24 p).toNatClampNeg then V.1 27 p + V.1 28 p else 0 : Int32)).toInt = if phV V p && blw (pfV V) r (hom V p) then (V.1 27 p).toInt + (V.1 28 p).toInt else 0 := fun p hp => by
    show ((if phV V p && blw (pfV V) r (hom V p) then heldV V p else 0 : Int32)).toInt = _
    cases ht : phV V p
    · rfl
    · cases blw (pfV V) r (hom V p)
      · rfl
      · exact (h.held hp ht).2.2.2
  have nn : ∀ i, i < 16 → 0 ≤ (if phV V i && blw (pfV V) r (hom V i) then (V.1 27 i).toInt + (V.1 28 i).toInt else 0) := fun i hi => by
    cases ht : phV V i
    · simp
    · have := h.2.1 i hi ht
      cases blw (pfV V) r (hom V i)
      · simp
      · simp only [Bool.and_self, if_true]; omega
  have le : isum 16 (fun p => if phV V p && blw (pfV V) r (hom V p) then (V.1 27 p).toInt + (V.1 28 p).toInt else 0) ≤ pgsI V := isum_le 16 fun i hi => by
    cases ht : phV V i
    · simp
    · have := h.2.1 i hi ht
      cases blw (pfV V) r (hom V i)
      · simp only [Bool.and_false, Bool.false_eq_true, if_false, if_true]; omega
      · simp
  have h3 := h.2.2
  have h4 := h.stk0
  have h5 := isum_nn 16 nn
  have ec := isum_cong 16 e
  have key := smI_I (f := fun p => if decide (V.1 24 p ≠ -1) && blw (pfV V) r (V.1 24 p).toNatClampNeg then V.1 27 p + V.1 28 p else 0) 16 (fun i hi => by rw [e i hi]; exact nn i hi) (by rw [ec]; omega)
  rw [key, ec]
  exact ⟨rfl, h5, le⟩
/-- a total is between 0 and 999 -/
theorem Num.tot (h : Num V) (hT : TotOK V) {r : Nat} (hr : r < 12) (ht : thV V r = true) : 0 ≤ (V.1 15 r).toInt ∧ (V.1 15 r).toInt ≤ 999 := by
  obtain ⟨a1, a2, a3⟩ := stkF_I h r
  obtain ⟨b1, b2, b3⟩ := pgsF_I h r
  have h3 := h.2.2
  have h4 := h.stk0
  have h5 := h.pgs0
  rw [hT r hr ht]
  show 0 ≤ (stkF V r + smI (List.range 16) (fun p => if decide (V.1 24 p ≠ -1) && blw (pfV V) r (V.1 24 p).toNatClampNeg then V.1 27 p + V.1 28 p else 0)).toInt ∧ (stkF V r + smI (List.range 16) (fun p => if decide (V.1 24 p ≠ -1) && blw (pfV V) r (V.1 24 p).toNatClampNeg then V.1 27 p + V.1 28 p else 0)).toInt ≤ 999
  rw [ti_add (by omega) (by omega)]
  omega
theorem Num.lim (h : Num V) (hT : TotOK V) (hL : LimR V) : LimOK V := fun g hg ht => ⟨(hL g hg ht).1, (hL g hg ht).2.1, (h.tot hT hg ht).1⟩
theorem Num.pgs (h : Num V) {g : Nat} (hg : g < 2 ^ 31) {k : Nat} (hk : k < 2) : 0 ≤ (pgIn V (nI g) k).toInt ∧ (pgIn V (nI g) k).toInt ≤ 999 := by
  have hk' : k = 0 ∨ k = 1 := by omega
  have hph : ∀ p, V.1 24 p = nI g → phV V p = true := fun p e => by
    simp only [phV, e]; exact decide_eq_true (nI_ne1 hg)
  have nn : ∀ i, i < 16 → 0 ≤ (if V.1 24 i = nI g then V.1 (27 + k) i else 0 : Int32).toInt ∧ (if V.1 24 i = nI g then V.1 (27 + k) i else 0 : Int32).toInt ≤ if phV V i then (V.1 27 i).toInt + (V.1 28 i).toInt else 0 := fun i hi => by
    by_cases e : V.1 24 i = nI g
    · have hp := hph i e
      have := h.2.1 i hi hp
      rw [if_pos e, hp, if_pos rfl]
      rcases hk' with rfl | rfl
      · show 0 ≤ (V.1 27 i).toInt ∧ (V.1 27 i).toInt ≤ _; omega
      · show 0 ≤ (V.1 28 i).toInt ∧ (V.1 28 i).toInt ≤ _; omega
    · rw [if_neg e]
      cases hp : phV V i
      · simp [ti_0]
      · have := h.2.1 i hi hp
        simp only [if_true, ti_0]; omega
  have le : isum 16 (fun i => (if V.1 24 i = nI g then V.1 (27 + k) i else 0 : Int32).toInt) ≤ pgsI V := isum_le 16 fun i hi => (nn i hi).2
  have h3 := h.2.2
  have h4 := h.stk0
  have h5 := isum_nn 16 (fun i hi => (nn i hi).1)
  have key := smI_I (f := fun i => if V.1 24 i = nI g then V.1 (27 + k) i else 0) 16 (fun i hi => (nn i hi).1) (by omega)
  unfold pgIn
  rw [key]
  omega
end NUM
