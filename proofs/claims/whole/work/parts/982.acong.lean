/-! asks count only at the 28 places -/
section ACONG
variable {V : WV} {A A2 G : Nat → Int32} {g : Nat}
theorem akA (h : ∀ y, y < 28 → A y = A2 y) {y : Nat} (hy : y < 28) : akW V A G g y = akW V A2 G g y := by
  unfold akW; rw [h y hy]
theorem sumA (h : ∀ y, y < 28 → A y = A2 y) : sumW V A G g = sumW V A2 G g := by
  unfold sumW
  exact smI_cong fun y hy => akA h (List.mem_range.mp hy)
theorem bstA (h : ∀ y, y < 28 → A y = A2 y) : ∀ i, i ≤ 28 → bstW V A G g i = bstW V A2 G g i
  | 0, _ => by unfold bstW; rw [List.range_zero, List.foldl_nil, List.foldl_nil]
  | i + 1, hi => by
    have ih := bstA h i (by omega)
    rw [bst_s, bst_s, ← ih]
    unfold bstS
    rw [akA h (show i < 28 by omega)]
    cases hz : bstW V A G g i with
    | none => dsimp only
    | some z => dsimp only; rw [akA h (show z < 28 by have := bst_lt i z hz; omega)]
theorem rnNA (h : ∀ y, y < 28 → A y = A2 y) (u : Int32) {y : Nat} (hy : y < 28) : rndN V A G g u y = rndN V A2 G g u y := by
  unfold rndN
  rw [akA h hy, sumA h, h y hy]
theorem rnGA (h : ∀ y, y < 28 → A y = A2 y) (u : Int32) : rndG V A G g u = rndG V A2 G g u := by
  funext y
  unfold rndG
  by_cases hy : y < 28
  · rw [if_pos hy, if_pos hy, rnNA h u hy]
  · rw [if_neg hy, if_neg hy]
theorem rndA (h : ∀ y, y < 28 → A y = A2 y) (u : Int32) : rnd V A G g u = rnd V A2 G g u := by
  have e : smI (List.range 28) (rndN V A G g u) = smI (List.range 28) (rndN V A2 G g u) := smI_cong fun y hy => rnNA h u (List.mem_range.mp hy)
  unfold rnd
  rw [bstA h 28 (Nat.le_refl _), sumA h, e, rnGA h u]
theorem prtA (h : ∀ y, y < 28 → A y = A2 y) : ∀ (k : Nat) (u : Int32) (G : Nat → Int32), prtF V A g k u G = prtF V A2 g k u G
  | 0, _, _ => rfl
  | k + 1, u, G => by
    unfold prtF
    rw [rndA h u, prtA h k]
theorem FixG.cong {c : Int32} (h : ∀ y, y < 28 → A y = A2 y) (hF : FixG V A c G) : FixG V A2 c G := by
  obtain ⟨f1, f2, f3, f4, f5⟩ := hF
  refine ⟨f1, fun y hy => ?_, f3, fun g hg ht y hy hm => ?_, f5⟩
  · rw [← h y hy]; exact f2 y hy
  · rw [← prtA h 100]; exact f4 g hg ht y hy hm
/-- who stands nowhere asks for nothing -/
theorem FixA.out {n : Nat} {o : Nat → Nat} (hO : OrdOK V n o) (hH : HomOK V) (hF : FixA V A) {y : Nat} (hy : y < 28) (h : belE V 0 y = false) : A y = 0 := by
  unfold belE at h
  rw [Bool.or_eq_false_iff] at h
  have h0 : y ≠ 0 := of_decide_eq_false h.2
  have hal : aliv V y = false := by
    cases e : aliv V y
    · rfl
    · obtain ⟨s1, s2⟩ := aliv_seat hH hy e
      have := bel_mk (g := 0) e (blw_root hO.tree s1 s2) h0
      rw [h.1] at this; cases this
  unfold aliv at hal
  by_cases h12 : y < 12
  · rw [if_pos h12] at hal
    exact hF.2.2.1 y h12 hal
  · rw [if_neg h12] at hal
    obtain ⟨p, rfl⟩ : ∃ p, y = 12 + p := ⟨y - 12, by omega⟩
    rw [show 12 + p - 12 = p by omega] at hal
    rw [hF.1 p (by omega)]
    unfold xP
    rw [hal, Bool.false_and, if_neg (by decide)]
end ACONG
