/-! the class's Tree: who is there, the order -/
def thV (V : WV) (g : Nat) : Bool := decide (V.1 2 g ≠ -2)
def pfV (V : WV) (g : Nat) : Option Nat := if V.1 2 g < 0 then none else some (V.1 2 g).toNatClampNeg
/-- n groups stand in the order o, the root first, each behind its parent -/
def OrdOK (V : WV) (n : Nat) (o : Nat → Nat) : Prop :=
  1 ≤ n ∧ n ≤ 12 ∧ V.1 1 2 = nI n ∧ o 0 = 0 ∧ (∀ i, i < n → o i < 12 ∧ V.1 3 i = nI (o i)) ∧ (∀ i j, i < n → j < n → o i = o j → i = j) ∧ V.1 2 0 = -1 ∧ (∀ i, 0 < i → i < n → ∃ j, j < i ∧ V.1 2 (o i) = nI (o j)) ∧ (∀ g, g < 12 → V.1 2 g ≠ -2 → ∃ i, i < n ∧ o i = g)
theorem nI_ne2 {k : Nat} (h : k < 2 ^ 31) : nI k ≠ -2 := fun e => by
  have := congrArg Int32.toInt e
  rw [nI_toInt h] at this
  have h2 : (-2 : Int32).toInt = -2 := by decide
  omega
theorem nI_ne1 {k : Nat} (h : k < 2 ^ 31) : nI k ≠ -1 := fun e => by
  have := congrArg Int32.toInt e
  rw [nI_toInt h] at this
  have h2 : (-1 : Int32).toInt = -1 := by decide
  omega
section TREE
variable {V : WV} {n : Nat} {o : Nat → Nat}
theorem OrdOK.th (h : OrdOK V n o) {i : Nat} (hi : i < n) : thV V (o i) = true := by
  obtain ⟨h1, h2, h3, h4, h5, h6, h7, h8, h9⟩ := h
  rcases Nat.eq_zero_or_pos i with rfl | hp
  · rw [h4]; simp [thV, h7]
  · obtain ⟨j, hj, e⟩ := h8 i hp hi
    have := nI_ne2 (k := o j) (by have := (h5 j (by omega)).1; omega)
    simp [thV, e, this]
theorem OrdOK.pf0 (h : OrdOK V n o) : pfV V 0 = none := by
  obtain ⟨h1, h2, h3, h4, h5, h6, h7, h8, h9⟩ := h
  simp [pfV, h7]
theorem OrdOK.pf (h : OrdOK V n o) {i : Nat} (hp : 0 < i) (hi : i < n) : ∃ j, j < i ∧ V.1 2 (o i) = nI (o j) ∧ pfV V (o i) = some (o j) ∧ o j < 12 := by
  obtain ⟨h1, h2, h3, h4, h5, h6, h7, h8, h9⟩ := h
  obtain ⟨j, hj, e⟩ := h8 i hp hi
  have hl := (h5 j (by omega)).1
  refine ⟨j, hj, e, ?_, hl⟩
  simp only [pfV, e]
  rw [if_neg (nI_pos (by omega)), nI_clamp (by omega)]
theorem OrdOK.rank (h : OrdOK V n o) : ∃ rk : Nat → Nat, (∀ i, i < n → rk (o i) = i) ∧ Ranked (thV V) (pfV V) rk := by
  have hex : ∀ g, ∃ k, (g < 12 ∧ thV V g = true → k < n ∧ o k = g) ∧ k < 12 := by
    intro g
    by_cases hg : g < 12 ∧ thV V g = true
    · obtain ⟨i, hi, e⟩ := h.2.2.2.2.2.2.2.2 g hg.1 (by simpa [thV] using hg.2)
      have := h.2.1
      exact ⟨i, fun _ => ⟨hi, e⟩, by omega⟩
    · exact ⟨0, fun q => absurd q hg, by decide⟩
  have hc : ∃ rk : Nat → Nat, ∀ g, (g < 12 ∧ thV V g = true → rk g < n ∧ o (rk g) = g) ∧ rk g < 12 := ⟨fun g => (hex g).choose, fun g => (hex g).choose_spec⟩
  obtain ⟨rk, hrk⟩ := hc
  have hro : ∀ i, i < n → rk (o i) = i := by
    intro i hi
    have hlt := (h.2.2.2.2.1 i hi).1
    obtain ⟨a, b⟩ := (hrk (o i)).1 ⟨hlt, h.th hi⟩
    exact h.2.2.2.2.2.1 _ _ a hi b
  refine ⟨rk, hro, ?_, h.pf0, fun g _ => (hrk g).2, ?_⟩
  · have := h.th (i := 0) (by have := h.1; omega)
    rw [h.2.2.2.1] at this
    exact this
  · intro g hg ht hne
    obtain ⟨a, b⟩ := (hrk g).1 ⟨hg, ht⟩
    have hp : 0 < rk g := by
      rcases Nat.eq_zero_or_pos (rk g) with q | q
      · rw [q, h.2.2.2.1] at b
        exact absurd b.symm hne
      · exact q
    obtain ⟨j, hj, -, e2, e3⟩ := h.pf hp a
    rw [b] at e2
    exact ⟨o j, e2, e3, h.th (by omega), by rw [hro j (by omega)]; exact hj⟩
theorem OrdOK.tree (h : OrdOK V n o) : TreeOK (thV V) (pfV V) := by
  obtain ⟨rk, -, hr⟩ := h.rank
  exact ⟨rk, hr⟩
/-- r stands in the path of g -/
def blw (pf : Nat → Option Nat) (r g : Nat) : Bool := decide (r ∈ pth pf g)
theorem OrdOK.blw0 (h : OrdOK V n o) {r : Nat} : blw (pfV V) r 0 = decide (r = 0) := by
  simp [blw, pth_0 h.tree]
theorem OrdOK.blwS (h : OrdOK V n o) {r i j : Nat} (hp : 0 < i) (hi : i < n) (hj : j < i) (e : V.1 2 (o i) = nI (o j)) : blw (pfV V) r (o i) = (decide (r = o i) || blw (pfV V) r (o j)) := by
  obtain ⟨j', hj', e', e2, e3⟩ := h.pf hp hi
  have hjj : o j' = o j := by
    rw [e'] at e
    exact (nI_eq (by omega) (by have := (h.2.2.2.2.1 j (by omega)).1; omega)).mp e
  rw [hjj] at e2
  unfold blw
  rw [pth_cons h.tree (h.2.2.2.2.1 i hi).1 (h.th hi), e2]
  simp
theorem blw_self {th : Nat → Bool} {pf : Nat → Option Nat} (h : TreeOK th pf) {g : Nat} (hg : g < 12) (ht : th g = true) : blw pf g g = true := by
  unfold blw
  rw [pth_cons h hg ht]
  simp
variable {w : Nat} {P : WV → Hp}
set_option maxRecDepth 4000 in
theorem s_bits_step (hP : LT w P) (hO : OrdOK V n o) {i j : Nat} (hp : 0 < i) (hi : i < n) (hj : j < i) (e : V.1 2 (o i) = nI (o j)) (bits : Int32) :
    F_X6_bitsBelow_L6 (P V) (w + 1) bits (nI i) = some (.inl (if bt bits (o j) then bits ||| (1 <<< (nI (o i) &&& 31)) else bits, nI (i + 1))) := by
  obtain ⟨h1, h2, h3, h4, h5, h6, h7, h8, h9⟩ := id hO
  have hi12 : i < 12 := by omega
  have ho12 := (h5 i hi).1
  have hj12 := (h5 j (by omega)).1
  unfold F_X6_bitsBelow_L6
  simp only [tl hP, Option.bind_some, h3, if_neg (nI_ge hi (by omega)), hi12, (h5 i hi).2, ho12, e, bl, nI_1]
  by_cases hb : bt bits (o j) = true
  · rw [if_pos ((bit_iff (by omega)).mpr hb), if_pos hb]
  · rw [if_neg (fun q => hb ((bit_iff (by omega)).mp q)), if_neg hb]
end TREE
