/-! what a round of units keeps -/
def memb (V : WV) (g y : Nat) : Bool := if y < 12 then decide (V.1 2 y = nI g) else decide (V.1 24 (y - 12) = nI g)
def wtV (V : WV) (y : Nat) : Int32 := if y < 12 then V.1 11 y else 1
def inR (V : WV) (A G : Nat → Int32) (g y : Nat) : Bool := memb V g y && decide (G y < A y)
/-- gets and asks are numbers that can be -/
def GB (A G : Nat → Int32) : Prop := ∀ y, y < 28 → 0 ≤ (G y).toInt ∧ (G y).toInt ≤ (A y).toInt ∧ (A y).toInt ≤ 20000
section RFACTS
variable {V : WV} {A G : Nat → Int32} {g : Nat}
theorem akW_in (y : Nat) : akW V A G g y = if inR V A G g y then wtV V y else 0 := by
  unfold akW inR memW memb wtV
  by_cases h : G y < A y
  · by_cases h12 : y < 12
    · simp [h, h12]
    · simp [h, h12]
  · simp [h]
theorem wt_bd (hL : LimR V) (hg : g < 12) {y : Nat} (h : memb V g y = true) : 1 ≤ (wtV V y).toInt ∧ (wtV V y).toInt ≤ 9 := by
  unfold wtV
  unfold memb at h
  by_cases h12 : y < 12
  · rw [if_pos h12] at h ⊢
    have e : V.1 2 y = nI g := of_decide_eq_true h
    have ht : thV V y = true := by
      unfold thV; rw [e]; exact decide_eq_true (nI_ne2 (by omega))
    exact (hL y h12 ht).2.2.2.2.2.1
  · rw [if_neg h12]; exact ⟨by decide, by decide⟩
theorem akW_bd (hL : LimR V) (hg : g < 12) (y : Nat) : 0 ≤ (akW V A G g y).toInt ∧ (akW V A G g y).toInt ≤ 9 := by
  rw [akW_in]
  cases h : inR V A G g y
  · simp only [Bool.false_eq_true, if_false]; exact ⟨by decide, by decide⟩
  · have hm : memb V g y = true := by unfold inR at h; simp at h; exact h.1
    have := wt_bd hL hg hm
    simp only [if_true]; omega
theorem akW_pos (hL : LimR V) (hg : g < 12) {y : Nat} : (¬ akW V A G g y ≤ 0) ↔ inR V A G g y = true := by
  rw [akW_in]
  cases h : inR V A G g y
  · simp [Int32.le_refl]
  · have hm : memb V g y = true := by unfold inR at h; simp at h; exact h.1
    have := wt_bd hL hg hm
    simp only [if_true, iff_true]
    intro z
    have := ti_le.mp z
    rw [ti_0] at this; omega
theorem bst_in (hL : LimR V) (hg : g < 12) : ∀ i z, bstW V A G g i = some z → inR V A G g z = true
  | 0, z, h => by cases h
  | i + 1, z, h => by
    rw [bst_s] at h
    unfold bstS at h
    by_cases h0 : akW V A G g i ≤ 0
    · rw [if_pos h0] at h; exact bst_in hL hg i z h
    · rw [if_neg h0] at h
      cases hb : bstW V A G g i with
      | none =>
        rw [hb] at h
        cases h
        exact (akW_pos hL hg).mp h0
      | some t =>
        rw [hb] at h
        dsimp only at h
        split at h
        · cases h; exact bst_in hL hg i z hb
        · cases h; exact (akW_pos hL hg).mp h0
theorem sumW_I (hL : LimR V) (hg : g < 12) : (sumW V A G g).toInt = isum 28 (fun y => (akW V A G g y).toInt) ∧ isum 28 (fun y => (akW V A G g y).toInt) ≤ 252 := by
  have h1 : isum 28 (fun y => (akW V A G g y).toInt) ≤ isum 28 (fun _ => 9) := isum_le 28 fun y _ => (akW_bd hL hg y).2
  have h2 : isum 28 (fun _ => (9 : Int)) = 252 := by decide
  exact ⟨smI_I 28 (fun y _ => (akW_bd hL hg y).1) (by omega), by omega⟩
theorem sumW_pos (hL : LimR V) (hg : g < 12) {z : Nat} (hb : bstW V A G g 28 = some z) : 0 < (sumW V A G g).toInt := by
  have h1 := bst_in hL hg 28 z hb
  have h2 := bst_lt 28 z hb
  rw [(sumW_I hL hg).1]
  have h3 := isum_ge (f := fun y => (akW V A G g y).toInt) 28 h2 (fun y _ => (akW_bd hL hg y).1)
  have h4 : 1 ≤ (akW V A G g z).toInt := by
    rw [akW_in, h1]
    have hm : memb V g z = true := by unfold inR at h1; simp at h1; exact h1.1
    simp only [if_true]
    exact (wt_bd hL hg hm).1
  have h5 : (akW V A G g z).toInt ≤ isum 28 (fun y => (akW V A G g y).toInt) := h3
  omega
/-- what is a share -/
theorem shr_I (hL : LimR V) (hg : g < 12) {u : Int32} (hu0 : 0 ≤ u.toInt) (hu : u.toInt ≤ 20000) (hW : 0 < (sumW V A G g).toInt) (y : Nat) : (u * akW V A G g y / sumW V A G g).toInt = u.toInt * (akW V A G g y).toInt / (sumW V A G g).toInt := by
  obtain ⟨h1, h2⟩ := akW_bd (A := A) (G := G) hL hg y
  have hp : 0 ≤ u.toInt * (akW V A G g y).toInt := Int.mul_nonneg hu0 h1
  have hq : u.toInt * (akW V A G g y).toInt ≤ 20000 * 9 := Int.mul_le_mul hu h2 h1 (by decide)
  have hn : sumW V A G g ≠ -1 := fun e => by rw [e] at hW; exact absurd hW (by decide)
  rw [Int32.toInt_div_of_ne_right _ _ hn, ti_mul (by omega) (by omega), Int.tdiv_eq_ediv_of_nonneg hp]
theorem rndN_I (hL : LimR V) (hg : g < 12) (hB : GB A G) {u : Int32} (hu0 : 0 ≤ u.toInt) (hu : u.toInt ≤ 20000) (hW : 0 < (sumW V A G g).toInt) {y : Nat} (hy : y < 28) : (rndN V A G g u y).toInt = min (u.toInt * (akW V A G g y).toInt / (sumW V A G g).toInt) ((A y).toInt - (G y).toInt) := by
  obtain ⟨b1, b2, b3⟩ := hB y hy
  unfold rndN
  rw [ti_mn, shr_I hL hg hu0 hu hW y, ti_sub (by omega) (by omega)]
theorem rndN_bd (hL : LimR V) (hg : g < 12) (hB : GB A G) {u : Int32} (hu0 : 0 ≤ u.toInt) (hu : u.toInt ≤ 20000) (hW : 0 < (sumW V A G g).toInt) {y : Nat} (hy : y < 28) : 0 ≤ (rndN V A G g u y).toInt ∧ (rndN V A G g u y).toInt ≤ (A y).toInt - (G y).toInt := by
  obtain ⟨b1, b2, b3⟩ := hB y hy
  rw [rndN_I hL hg hB hu0 hu hW hy]
  have : 0 ≤ u.toInt * (akW V A G g y).toInt / (sumW V A G g).toInt := Int.ediv_nonneg (Int.mul_nonneg hu0 (akW_bd hL hg y).1) (by omega)
  omega
theorem rndN_out (hB : GB A G) {u : Int32} {y : Nat} (hy : y < 28) (h : inR V A G g y = false) : rndN V A G g u y = 0 := by
  obtain ⟨b1, b2, b3⟩ := hB y hy
  unfold rndN
  rw [akW_in, h]
  apply Int32.toInt_inj.mp
  rw [ti_mn, ti_sub (by omega) (by omega)]
  have : (u * (if false = true then wtV V y else 0) / sumW V A G g).toInt = 0 := by
    simp only [Bool.false_eq_true, if_false]
    rw [Int32.mul_zero, Int32.zero_div]; rfl
  rw [this, ti_0]; omega
/-- what a round gives: never more than there is -/
theorem given_I (hL : LimR V) (hg : g < 12) (hB : GB A G) {u : Int32} (hu0 : 0 ≤ u.toInt) (hu : u.toInt ≤ 20000) (hW : 0 < (sumW V A G g).toInt) : (smI (List.range 28) (rndN V A G g u)).toInt = isum 28 (fun y => (rndN V A G g u y).toInt) ∧ isum 28 (fun y => (rndN V A G g u y).toInt) ≤ u.toInt := by
  have h0 : ∀ y, y < 28 → 0 ≤ (rndN V A G g u y).toInt := fun y hy => (rndN_bd hL hg hB hu0 hu hW hy).1
  have h1 : ∀ m, m ≤ 28 → isum m (fun y => (rndN V A G g u y).toInt) * (sumW V A G g).toInt ≤ u.toInt * isum m (fun y => (akW V A G g y).toInt) := by
    intro m
    induction m with
    | zero => intro _; show (0 : Int) * _ ≤ _ * 0; omega
    | succ m ih =>
      intro hm
      have ih := ih (by omega)
      have hn := rndN_I hL hg hB hu0 hu hW (y := m) (by omega)
      have hd : u.toInt * (akW V A G g m).toInt / (sumW V A G g).toInt * (sumW V A G g).toInt ≤ u.toInt * (akW V A G g m).toInt := Int.ediv_mul_le _ (by omega)
      have hle : (rndN V A G g u m).toInt ≤ u.toInt * (akW V A G g m).toInt / (sumW V A G g).toInt := by omega
      have hm2 := Int.mul_le_mul_of_nonneg_right hle (show 0 ≤ (sumW V A G g).toInt by omega)
      show (isum m (fun y => (rndN V A G g u y).toInt) + (rndN V A G g u m).toInt) * _ ≤ u.toInt * (isum m (fun y => (akW V A G g y).toInt) + (akW V A G g m).toInt)
      rw [Int.add_mul, Int.mul_add]
      omega
  have h2 := h1 28 (Nat.le_refl _)
  rw [← (sumW_I hL hg).1] at h2
  have h3 : isum 28 (fun y => (rndN V A G g u y).toInt) ≤ u.toInt := Int.le_of_mul_le_mul_right h2 hW
  exact ⟨smI_I 28 h0 (by omega), h3⟩
end RFACTS
