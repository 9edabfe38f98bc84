/-! a group comes or goes: paths and sums of the others stay -/
theorem cg_dom : ∀ f, f < 34 → cg f ≠ 99 → (cg f = 2 ∨ cg f = 3 ∨ (5 ≤ cg f ∧ cg f < 18) ∨ (19 ≤ cg f ∧ cg f < 23)) ∨ ((39 ≤ cg f ∧ cg f < 42) ∨ (43 ≤ cg f ∧ cg f < 52)) := by decide
theorem cp_dom : ∀ f, f < 8 → (cp f = 24 ∨ cp f = 25 ∨ (27 ≤ cp f ∧ cp f < 33)) := by decide
theorem up_off {pf pf' : Nat → Option Nat} {g : Nat} (h : ∀ z, z ≠ g → pf' z = pf z) : ∀ (n x : Nat), g ∉ up pf n x → up pf' n x = up pf n x
  | 0, _, _ => rfl
  | n + 1, x, hx => by
    have hx0 : x ≠ g := fun e => hx (by rw [e]; exact List.mem_cons_self)
    show x :: (match pf' x with | none => [] | some q => up pf' n q) = x :: (match pf x with | none => [] | some q => up pf n q)
    rw [h x hx0]
    cases hq : pf x with
    | none => rfl
    | some q =>
      have : g ∉ up pf n q := fun e => hx (by
        show g ∈ x :: (match pf x with | none => [] | some q => up pf n q)
        rw [hq]; exact List.mem_cons_of_mem _ e)
      dsimp only
      rw [up_off h n q this]
section GTREE
variable {V V' : WV} {n : Nat} {o : Nat → Nat} {g : Nat}
/-- V' is V but for the group g, where nobody and nothing is -/
def Off (V V' : WV) (g : Nat) : Prop :=
  (∀ z, z ≠ g → V'.1 2 z = V.1 2 z) ∧
  (∀ y, y < 12 → y ≠ g → thV V y = true → g ∉ pth (pfV V) y) ∧
  (∀ z, z ≠ g → V'.1 14 z = V.1 14 z) ∧
  (thV V g = true → V.1 14 g = 0) ∧
  (thV V' g = true → V'.1 14 g = 0) ∧
  (V'.1 24 = V.1 24) ∧
  (V'.1 27 = V.1 27) ∧
  (V'.1 28 = V.1 28) ∧
  (V'.1 29 = V.1 29) ∧
  (∀ p, p < 16 → phV V p = true → hom V p ≠ g)
theorem Off.p2 {V V' : WV} {g : Nat} (h : Off V V' g) : ∀ z, z ≠ g → V'.1 2 z = V.1 2 z := h.1
theorem Off.path {V V' : WV} {g : Nat} (h : Off V V' g) : ∀ y, y < 12 → y ≠ g → thV V y = true → g ∉ pth (pfV V) y := h.2.1
theorem Off.c14 {V V' : WV} {g : Nat} (h : Off V V' g) : ∀ z, z ≠ g → V'.1 14 z = V.1 14 z := h.2.2.1
theorem Off.z14 {V V' : WV} {g : Nat} (h : Off V V' g) : thV V g = true → V.1 14 g = 0 := h.2.2.2.1
theorem Off.z14' {V V' : WV} {g : Nat} (h : Off V V' g) : thV V' g = true → V'.1 14 g = 0 := h.2.2.2.2.1
theorem Off.c24 {V V' : WV} {g : Nat} (h : Off V V' g) : V'.1 24 = V.1 24 := h.2.2.2.2.2.1
theorem Off.c27 {V V' : WV} {g : Nat} (h : Off V V' g) : V'.1 27 = V.1 27 := h.2.2.2.2.2.2.1
theorem Off.c28 {V V' : WV} {g : Nat} (h : Off V V' g) : V'.1 28 = V.1 28 := h.2.2.2.2.2.2.2.1
theorem Off.c29 {V V' : WV} {g : Nat} (h : Off V V' g) : V'.1 29 = V.1 29 := h.2.2.2.2.2.2.2.2.1
theorem Off.hmE {V V' : WV} {g : Nat} (h : Off V V' g) : ∀ p, p < 16 → phV V p = true → hom V p ≠ g := h.2.2.2.2.2.2.2.2.2
theorem Off.pf (h : Off V V' g) (z : Nat) (hz : z ≠ g) : pfV V' z = pfV V z := by
  unfold pfV; rw [h.p2 z hz]
theorem Off.th (h : Off V V' g) (z : Nat) (hz : z ≠ g) : thV V' z = thV V z := by
  unfold thV; rw [h.p2 z hz]
theorem Off.ptE (h : Off V V' g) {y : Nat} (hy : y < 12) (hg : y ≠ g) (ht : thV V y = true) : pth (pfV V') y = pth (pfV V) y := up_off h.pf 12 y (h.path y hy hg ht)
theorem Off.blE (h : Off V V' g) {r y : Nat} (hy : y < 12) (hg : y ≠ g) (ht : thV V y = true) : blw (pfV V') r y = blw (pfV V) r y := by
  unfold blw; rw [h.ptE hy hg ht]
theorem Off.blwg (h : Off V V' g) {y : Nat} (hy : y < 12) (hg : y ≠ g) (ht : thV V y = true) : blw (pfV V) g y = false := decide_eq_false (h.path y hy hg ht)
theorem Off.grp (h : Off V V' g) (r : Nat) {x : Nat} (hx : x < 12) : (if thV V' x && blw (pfV V') r x then V'.1 14 x else 0) = (if thV V x && blw (pfV V) r x then V.1 14 x else 0) := by
  by_cases e : x = g
  · subst e
    have h1 : (if thV V' x && blw (pfV V') r x then V'.1 14 x else 0) = 0 := by
      cases ht : thV V' x
      · rw [Bool.false_and, if_neg (by decide)]
      · rw [h.z14' ht, ite_self]
    have h2 : (if thV V x && blw (pfV V) r x then V.1 14 x else 0) = 0 := by
      cases ht : thV V x
      · rw [Bool.false_and, if_neg (by decide)]
      · rw [h.z14 ht, ite_self]
    rw [h1, h2]
  · rw [h.th x e, h.c14 x e]
    cases ht : thV V x
    · rw [Bool.false_and, Bool.false_and]
    · rw [h.blE hx e ht]
theorem Off.ph (h : Off V V' g) : phV V' = phV V := phV_same h.c24
theorem Off.prc (h : Off V V' g) (hH : HomOK V) (r : Nat) {p : Nat} (hp : p < 16) (u u' : Nat → Int32) (hu : u' = u) : (if decide (V'.1 24 p ≠ -1) && blw (pfV V') r (V'.1 24 p).toNatClampNeg then u' p else 0) = (if decide (V.1 24 p ≠ -1) && blw (pfV V) r (V.1 24 p).toNatClampNeg then u p else 0) := by
  rw [h.c24, hu]
  cases ht : phV V p
  · have : decide (V.1 24 p ≠ -1) = false := ht
    rw [this, Bool.false_and, Bool.false_and]
  · obtain ⟨h1, h2, h3⟩ := hH.at hp ht
    have : blw (pfV V') r (V.1 24 p).toNatClampNeg = blw (pfV V) r (V.1 24 p).toNatClampNeg := h.blE h1 (h.hmE p hp ht) h2
    rw [this]
theorem Off.tot (h : Off V V' g) (hH : HomOK V) (r : Nat) : totF V' r = totF V r := by
  unfold totF
  have e1 : smI (List.range 12) (fun g => if thV V' g && blw (pfV V') r g then V'.1 14 g else 0) = smI (List.range 12) (fun g => if thV V g && blw (pfV V) r g then V.1 14 g else 0) := smI_cong fun x hx => h.grp r (List.mem_range.mp hx)
  have e2 : smI (List.range 16) (fun p => if decide (V'.1 24 p ≠ -1) && blw (pfV V') r (V'.1 24 p).toNatClampNeg then V'.1 27 p + V'.1 28 p else 0) = smI (List.range 16) (fun p => if decide (V.1 24 p ≠ -1) && blw (pfV V) r (V.1 24 p).toNatClampNeg then V.1 27 p + V.1 28 p else 0) := smI_cong fun p hp => h.prc hH r (List.mem_range.mp hp) (fun p => V.1 27 p + V.1 28 p) (fun p => V'.1 27 p + V'.1 28 p) (by rw [h.c27, h.c28])
  rw [e1, e2]
theorem Off.out (h : Off V V' g) (hH : HomOK V) (r : Nat) : outF V' r = outF V r := by
  unfold outF
  exact smI_cong fun p hp => h.prc hH r (List.mem_range.mp hp) (V.1 29) (V'.1 29) h.c29
theorem Off.tot0 (h : Off V V' g) (hH : HomOK V) : totF V g = 0 := by
  unfold totF
  have e1 : smI (List.range 12) (fun x => if thV V x && blw (pfV V) g x then V.1 14 x else 0) = 0 := by
    refine (smI_cong (g := fun _ => 0) fun x hx => ?_).trans (smI_zero _)
    have hx := List.mem_range.mp hx
    cases ht : thV V x
    · rw [Bool.false_and, if_neg (by decide)]
    · by_cases e : x = g
      · subst e; rw [h.z14 ht, ite_self]
      · rw [h.blwg hx e ht, Bool.and_false, if_neg (by decide)]
  have e2 : ∀ u : Nat → Int32, smI (List.range 16) (fun p => if decide (V.1 24 p ≠ -1) && blw (pfV V) g (V.1 24 p).toNatClampNeg then u p else 0) = 0 := fun u => by
    refine (smI_cong (g := fun _ => 0) fun p hp => ?_).trans (smI_zero _)
    have hp := List.mem_range.mp hp
    cases ht : phV V p
    · have : decide (V.1 24 p ≠ -1) = false := ht
      rw [this, Bool.false_and, if_neg (by decide)]
    · obtain ⟨h1, h2, h3⟩ := hH.at hp ht
      have : blw (pfV V) g (V.1 24 p).toNatClampNeg = false := h.blwg h1 (h.hmE p hp ht) h2
      rw [this, Bool.and_false, if_neg (by decide)]
  rw [e1, e2 (fun p => V.1 27 p + V.1 28 p)]; rfl
theorem Off.out0 (h : Off V V' g) (hH : HomOK V) : outF V g = 0 := by
  unfold outF
  refine (smI_cong (g := fun _ => 0) fun p hp => ?_).trans (smI_zero _)
  have hp := List.mem_range.mp hp
  cases ht : phV V p
  · have : decide (V.1 24 p ≠ -1) = false := ht
    rw [this, Bool.false_and, if_neg (by decide)]
  · obtain ⟨h1, h2, h3⟩ := hH.at hp ht
    have : blw (pfV V) g (V.1 24 p).toNatClampNeg = false := h.blwg h1 (h.hmE p hp ht) h2
    rw [this, Bool.and_false, if_neg (by decide)]
theorem Off.totok (h : Off V V' g) (hH : HomOK V) (hT : TotOK V) (h15 : ∀ z, z ≠ g → V'.1 15 z = V.1 15 z) (hg : thV V' g = true → V'.1 15 g = 0) : TotOK V' := fun r hr ht => by
  by_cases e : r = g
  · subst e
    rw [hg ht, h.tot hH, h.tot0 hH]
  · rw [h15 r e, h.tot hH]
    exact hT r hr (by rw [← h.th r e]; exact ht)
theorem Off.outok (h : Off V V' g) (hH : HomOK V) (hT : OutOK V) (h16 : ∀ z, z ≠ g → V'.1 16 z = V.1 16 z) (hg : thV V' g = true → V'.1 16 g = 0) : OutOK V' := fun r hr ht => by
  by_cases e : r = g
  · subst e
    rw [hg ht, h.out hH, h.out0 hH]
  · rw [h16 r e, h.out hH]
    exact hT r hr (by rw [← h.th r e]; exact ht)
theorem Off.home (h : Off V V' g) (hH : HomOK V) : HomOK V' := fun p hp ht => by
  rw [h.ph] at ht
  obtain ⟨h1, h2, h3⟩ := hH.at hp ht
  refine ⟨_, h1, ?_, by rw [h.c24]; exact h3⟩
  rw [h.th _ (h.hmE p hp ht)]; exact h2
theorem isum_cg {f f' : Nat → Int} : ∀ n, (∀ i, i < n → f i = f' i) → isum n f = isum n f'
  | 0, _ => rfl
  | n + 1, h => by
    show isum n f + f n = isum n f' + f' n
    rw [isum_cg n (fun i hi => h i (by omega)), h n (by omega)]
theorem Off.num (h : Off V V' g) (hN : Num V) : Num V' := by
  obtain ⟨n1, n2, n3⟩ := hN
  refine ⟨fun x hx ht => ?_, ?_, ?_⟩
  · by_cases e : x = g
    · subst e; rw [h.z14' ht, ti_0]; exact Int.le_refl _
    · rw [h.c14 x e]; exact n1 x hx (by rw [← h.th x e]; exact ht)
  · rw [h.ph, h.c27, h.c28, h.c29]; exact n2
  · have e1 : stkI V' = stkI V := by
      unfold stkI
      refine isum_cg 12 fun x hx => ?_
      by_cases e : x = g
      · subst e
        have a1 : (if thV V' x then (V'.1 14 x).toInt else 0) = 0 := by
          cases ht : thV V' x
          · rw [if_neg (by decide)]
          · rw [h.z14' ht]; rfl
        have a2 : (if thV V x then (V.1 14 x).toInt else 0) = 0 := by
          cases ht : thV V x
          · rw [if_neg (by decide)]
          · rw [h.z14 ht]; rfl
        rw [a1, a2]
      · rw [h.th x e, h.c14 x e]
    have e2 : pgsI V' = pgsI V := by
      unfold pgsI; rw [h.ph, h.c27, h.c28]
    rw [e1, e2]; exact n3
theorem Off.sw (h : Off V V' g) (h0 : V'.1 0 = V.1 0) (hS : SwN V) : SwN V' := by
  unfold SwN swpI at hS ⊢
  rw [h.ph, h.c29, h0]; exact hS
end GTREE
