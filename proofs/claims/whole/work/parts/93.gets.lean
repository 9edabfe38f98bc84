/-! the units go down the tree: the class, by the order -/
/-- what everybody gets, told by itself -/
def FixG (V : WV) (A : Nat → Int32) (c : Int32) (G : Nat → Int32) : Prop :=
  G 0 = c ∧ GB A G ∧ (∀ y, y < 28 → (G y).toInt ≤ 99) ∧ (∀ g, g < 12 → thV V g = true → ∀ y, y < 28 → memb V g y = true → G y = prtF V A g 100 (G g) (fun _ => 0) y) ∧ ∀ y, y < 28 → y ≠ 0 → (∀ g, g < 12 → thV V g = true → memb V g y = false) → G y = 0
section GETS
variable {V : WV} {A G : Nat → Int32} {n : Nat} {o : Nat → Nat}
theorem memb_1 {g e y : Nat} (hg : g < 12) (he : e < 12) (h1 : memb V g y = true) (h2 : memb V e y = true) : g = e := by
  unfold memb at h1 h2
  by_cases h : y < 12
  · rw [if_pos h] at h1 h2
    have a := of_decide_eq_true h1; have b := of_decide_eq_true h2
    rw [a] at b; exact (nI_eq (by omega) (by omega)).mp b
  · rw [if_neg h] at h1 h2
    have a := of_decide_eq_true h1; have b := of_decide_eq_true h2
    rw [a] at b; exact (nI_eq (by omega) (by omega)).mp b
theorem memb_0 (hO : OrdOK V n o) {g : Nat} (hg : g < 12) : memb V g 0 = false := by
  unfold memb
  rw [if_pos (by decide), hO.2.2.2.2.2.2.1]
  exact decide_eq_false (nI_ne1 (by omega)).symm
/-- a member that is a group stands behind its group -/
theorem memb_o (hO : OrdOK V n o) {i j : Nat} (hi : i < n) (hj : j < n) (h : memb V (o i) (o j) = true) : i < j := by
  obtain ⟨h1, h2, h3, h4, h5, h6, h7, h8, h9⟩ := hO
  rcases Nat.eq_zero_or_pos j with z | z
  · subst z
    rw [h4] at h
    rw [memb_0 ⟨h1, h2, h3, h4, h5, h6, h7, h8, h9⟩ (h5 i hi).1] at h
    cases h
  · obtain ⟨k, hk, e⟩ := h8 j z hj
    unfold memb at h
    rw [if_pos (h5 j hj).1] at h
    have a := of_decide_eq_true h
    rw [e] at a
    have hi12 := (h5 i hi).1
    have hk12 := (h5 k (by omega)).1
    have := h6 k i (by omega) hi ((nI_eq (by omega) (by omega)).mp a)
    omega
theorem GB.z (hB : GB A G) : GB A (fun _ => 0) := fun y hy => by
  obtain ⟨b1, b2, b3⟩ := hB y hy
  have : ((fun _ => 0 : Nat → Int32) y).toInt = 0 := rfl
  omega
/-- on the way: the first i groups have parted theirs -/
def FixI (V : WV) (A : Nat → Int32) (c : Int32) (o : Nat → Nat) (i : Nat) (G : Nat → Int32) : Prop :=
  G 0 = c ∧ GB A G ∧ (∀ y, y < 28 → (G y).toInt ≤ 99) ∧ (∀ j, j < i → ∀ y, y < 28 → memb V (o j) y = true → G y = prtF V A (o j) 100 (G (o j)) (fun _ => 0) y) ∧ ∀ y, y < 28 → y ≠ 0 → (∀ j, j < i → memb V (o j) y = false) → G y = 0
theorem fix_step (hO : OrdOK V n o) (hL : LimR V) {c : Int32} {i : Nat} (hi : i < n) (h : FixI V A c o i G) : FixI V A c o (i + 1) (prtF V A (o i) 100 (G (o i)) G) := by
  obtain ⟨f1, f2, f3, f4, f5⟩ := h
  have hoi : ∀ j, j < n → o j < 12 := fun j hj => (hO.2.2.2.2.1 j hj).1
  have hg := hoi i hi
  have hu := f3 (o i) (by omega)
  obtain ⟨hu0, -, -⟩ := f2 (o i) (by omega)
  obtain ⟨p1, p2, p3⟩ := prt_post (A := A) hL hg 100 (G (o i)) G f2 hu0 (by omega)
  have hout : ∀ y, memb V (o i) y = false → prtF V A (o i) 100 (G (o i)) G y = G y := fun y hy => p2 y (fun z => by rw [hy] at z; cases z.2)
  have hsub : ∀ j, j < n → j ≤ i → prtF V A (o i) 100 (G (o i)) G (o j) = G (o j) := fun j hj hji => hout _ (by
    cases e : memb V (o i) (o j)
    · rfl
    · have := memb_o hO hi hj e; omega)
  have hz : ∀ y, y < 28 → memb V (o i) y = true → G y = 0 := fun y hy hm => f5 y hy (fun e => by
      rw [e, memb_0 hO hg] at hm; cases hm) (fun j hj => by
      cases e : memb V (o j) y
      · rfl
      · have := memb_1 (hoi j (by omega)) hg e hm
        have := hO.2.2.2.2.2.1 j i (by omega) hi this
        omega)
  refine ⟨?_, p1, fun y hy => ?_, fun j hj y hy hm => ?_, fun y hy h0 hm => ?_⟩
  · rw [hout 0 (memb_0 hO hg)]; exact f1
  · cases e : memb V (o i) y
    · rw [hout y e]; exact f3 y hy
    · have h1 := (p3 y hy).2
      rw [hz y hy e, ti_0] at h1; omega
  · rw [hsub j (by omega) (by omega)]
    by_cases e : j = i
    · subst e
      exact prt_cong hL hg 100 (G (o j)) G (fun _ => 0) f2 f2.z (by omega) hz y hy hm
    · have hn : memb V (o i) y = false := by
        cases e2 : memb V (o i) y
        · rfl
        · have := memb_1 (hoi j (by omega)) hg hm e2
          have := hO.2.2.2.2.2.1 j i (by omega) hi this
          omega
      rw [hout y hn]
      exact f4 j (by omega) y hy hm
  · rw [hout y (hm i (by omega))]
    exact f5 y hy h0 (fun j hj => hm j (by omega))
theorem fix_end (hO : OrdOK V n o) {c : Int32} (h : FixI V A c o n G) : FixG V A c G := by
  obtain ⟨f1, f2, f3, f4, f5⟩ := h
  refine ⟨f1, f2, f3, fun g hg ht y hy hm => ?_, fun y hy h0 hm => f5 y hy h0 (fun j hj => hm _ (hO.2.2.2.2.1 j hj).1 (hO.th hj))⟩
  obtain ⟨i, hi, e⟩ := hO.2.2.2.2.2.2.2.2 g hg (by simpa [thV] using ht)
  subst e
  exact f4 i hi y hy hm
theorem c_gets {w q : Nat} {P : WV → WV → Hp} (hP : L2 w q P) (hO : OrdOK V n o) (hL : LimR V) {c : Int32} {Q : WV} (h : FixI V (Q.1 10) c o 0 (Q.1 9)) : ∃ G, loopF (fun x => F_X2_plan_L34 (q + 8) w x.1 x.2) 6000 (0, P V Q) = some (P V (sx Q 9 G)) ∧ FixG V (Q.1 10) c G := by
  obtain ⟨h1, h2, h3, h4, h5, h6, h7, h8, h9⟩ := id hO
  obtain ⟨a, ha, hI⟩ := loop_inv (st := fun x => F_X2_plan_L34 (q + 8) w x.1 x.2) (fun i (a : Nat → Int32) => (nI i, P V (sx Q 9 a))) (fun a => P V (sx Q 9 a)) (fun i a => FixI V (Q.1 10) c o i a) n
    (fun i a hi hI => by
      have hi12 : i < 12 := by omega
      obtain ⟨ho12, ho3⟩ := h5 i hi
      have ho28 : o i < 28 := by omega
      refine ⟨prtF V (Q.1 10) (o i) 100 (a (o i)) a, ?_, fix_step hO hL hi hI⟩
      show F_X2_plan_L34 (q + 8) w (nI i) (P V (sx Q 9 a)) = _
      unfold F_X2_plan_L34
      have e9 : (sx Q 9 a).1 9 = a := rfl
      have e10 : (sx Q 9 a).1 10 = Q.1 10 := rfl
      have hu := hI.2.2.1 (o i) ho28
      have hl := c_prt hP hL ho12 (nI i) 100 0 6000 (a (o i)) (sx Q 9 a) (by omega) (by omega) hI.2.1 (by omega)
      have hl' : loopF (fun x' => F_X2_plan_L66 (q + 8) w (nI i) (nI (o i)) x'.1 x'.2.1 x'.2.2) 6000 (a (o i), 0, P V (sx Q 9 a)) = some (P V (sx Q 9 (prtF V (Q.1 10) (o i) 100 (a (o i)) a))) := by
        rw [e10, e9, sx_sx] at hl; exact hl
      simp only [ol (hP.1 (sx Q 9 a)).lo, tl (hP.1 (sx Q 9 a)).lt, ql (hP.2 V), h3, Option.bind_some, if_neg (nI_ge hi (by omega)), hi12, ho3, ho28, e9, hl', bl, nI_1])
    (fun a hI => by
      show F_X2_plan_L34 (q + 8) w (nI n) (P V (sx Q 9 a)) = _
      unfold F_X2_plan_L34
      simp only [ol (hP.1 (sx Q 9 a)).lo, tl (hP.1 (sx Q 9 a)).lt, h3, Option.bind_some]
      rw [if_pos (nI_le (Nat.le_refl _) (by omega))])
    n 0 6000 (Q.1 9) (by omega) (by omega) h
  refine ⟨a, ?_, fix_end hO hI⟩
  rw [← ha]
  show _ = loopF _ 6000 (nI 0, P V (sx Q 9 (Q.1 9)))
  rw [sx_id]; rfl
end GETS
