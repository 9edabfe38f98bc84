/-! the model's laysUnits, whole -/
section UNITS2
variable {V U : WV} {n : Nat} {o : Nat → Nat} {b : Nat} {P : WV → Hp} {A Gf : Nat → Int32}
theorem per_c {k : Nat} (hk : k ≠ 17) : (perV V).1 k = V.1 k := by
  unfold perV
  by_cases h : V.1 0 7 - V.1 0 7 / 5 * 5 = 0
  · rw [if_pos h, sx_1, up_n _ _ hk]
  · rw [if_neg h]
theorem per_ord (hO : OrdOK V n o) : OrdOK (perV V) n o := by
  unfold OrdOK at hO ⊢
  rw [per_c (k := 1) (by decide), per_c (k := 2) (by decide), per_c (k := 3) (by decide)]; exact hO
theorem per_hom (hH : HomOK V) : HomOK (perV V) := by
  unfold HomOK phV thV at hH ⊢
  rw [per_c (k := 24) (by decide), per_c (k := 2) (by decide)]; exact hH
theorem per_lim (hL : LimR V) : LimR (perV V) := by
  unfold LimR thV at hL ⊢
  rw [per_c (k := 2) (by decide), per_c (k := 5) (by decide), per_c (k := 6) (by decide), per_c (k := 7) (by decide), per_c (k := 8) (by decide), per_c (k := 10) (by decide), per_c (k := 11) (by decide), per_c (k := 12) (by decide)]; exact hL
theorem per_td (hT : TdB V) : TdB (perV V) := by
  unfold TdB phV at hT ⊢
  rw [per_c (k := 24) (by decide), per_c (k := 31) (by decide)]; exact hT
theorem per_per : Per (perV V) := by
  unfold Per
  rw [per_c (k := 0) (by decide)]
  intro h g hg
  unfold perV
  rw [if_pos h]
  exact if_pos hg
theorem m_units (hP : LM b P) (hO : OrdOK V n o) (hH : HomOK V) (hL : LimR V) (hR : Rel V (U.1 1)) (hA : FixA (perV V) A) (hG : FixG (perV V) A (mnI (V.1 0 6) (A 0)) Gf) : ∃ U', F_X10_laysUnits (P U) b = some (P U') ∧ Keep U U' ∧ Rel (perV V) (U'.1 1) ∧ ∀ y, y < 28 → U'.1 17 y = Gf y := by
  have hOp := per_ord hO
  have hHp := per_hom hH
  have hLp := per_lim hL
  obtain ⟨U1, a1, a2, a3⟩ := m_zero (U := U) hP
  have hR1 : Rel V (U1.1 1) := by rw [a2 1 (by decide) (by decide)]; exact hR
  have e2 : U1.1 1 2 = V.1 0 7 := hR1.1.2.2.1
  obtain ⟨U2, b1, b2, b3⟩ : ∃ U2, (if V.1 0 7 - V.1 0 7 / 5 * 5 = 0 then (loopF (fun x => F_X10_laysUnits_L41 b x.1 x.2) 6000 (0, P U1)).bind fun h21 => some h21 else some (P U1)) = some (P U2) ∧ (Keep U1 U2 ∧ ∀ k, k ≠ 1 → U2.1 k = U1.1 k) ∧ Rel (perV V) (U2.1 1) := by
    unfold perV
    by_cases h : V.1 0 7 - V.1 0 7 / 5 * 5 = 0
    · obtain ⟨U2, c1, c2, c3, c4⟩ := m_forget hP hR1
      rw [if_pos h, if_pos h]
      exact ⟨U2, by rw [c1]; rfl, ⟨c2, c3⟩, c4⟩
    · rw [if_neg h, if_neg h]
      exact ⟨U1, rfl, ⟨Keep.refl _, fun _ _ => rfl⟩, hR1⟩
  have ht0 : thV (perV V) 0 = true := by unfold thV; rw [hOp.2.2.2.2.2.2.1]; exact decide_eq_true (by decide)
  obtain ⟨U3, d1, d2, d3⟩ := m_laysAsks hP hOp hHp hA 13 0 U2 (by decide) ht0 (by omega) b3
  have d1' : F_X10_laysAsks 13 (P U2) b 0 = some (A 0, P U3) := d1
  have e6 : U2.1 1 6 = V.1 0 6 := by
    rw [b3.1.2.2.2.2.2.2, per_c (by decide)]
  have h16 : ∀ y, y < 28 → U3.1 16 y = A y := fun y hy => by
    rw [d3 y hy]
    cases hb : belE (perV V) 0 y
    · rw [hA.out hOp hHp hy hb, b2.2 16 (by decide), (a3 y hy).1]; rfl
    · rfl
  have h17 : ∀ y, y < 28 → U3.1 17 y = 0 := fun y hy => by
    rw [d2 17 (by decide), b2.2 17 (by decide)]; exact (a3 y hy).2
  obtain ⟨U4, hU4⟩ : ∃ U4, U4 = sx U3 17 (upd (U3.1 17) 0 (mnI (V.1 0 6) (A 0))) := ⟨_, rfl⟩
  have u4 : ∀ k, k ≠ 17 → U4.1 k = U3.1 k := fun k hk => by rw [hU4, sx_1, up_n _ _ hk]
  have hR4 : Rel (perV V) (U4.1 1) := by rw [u4 1 (by decide), d2 1 (by decide)]; exact b3
  obtain ⟨U5, f1, f2, f3⟩ := m_gets (A := U3.1 16) (c := mnI (V.1 0 6) (A 0)) (Gf := Gf) hP hOp hHp hLp (hG.cong (fun y hy => (h16 y hy).symm)) U4 hR4 (u4 16 (by decide)) (fun y hy => by
    rw [hU4]
    show upd (U3.1 17) 0 _ y = _
    by_cases e : y = 0
    · rw [e, upd_s, if_pos rfl]
    · rw [upd_ne _ _ e, if_neg e]; exact h17 y hy)
  refine ⟨U5, ?_, ?_, ?_, f3⟩
  · unfold F_X10_laysUnits rmI
    simp only [a1, Option.bind_some, ml hP, ml0 hP, e2, if_neg (show ¬ (5 : Int32) = 0 by decide), b1, e6, d1', un, m_lesser, ← hU4, f1]
  · have hc : ∀ k, k ≠ 1 → k ≠ 16 → k ≠ 17 → k ≠ 18 → U5.1 k = U.1 k := fun k q1 q2 q3 q4 => by
      rw [f2 k q3 q4, u4 k q3, d2 k q2, b2.2 k q1, a2 k q2 q3]
    refine ⟨fun k h1 h2 => hc k h2 (by omega) (by omega) (by omega), fun i hi => ?_⟩
    rw [f2 1 (by decide) (by decide), u4 1 (by decide), d2 1 (by decide), b2.1.2 i hi, a2 1 (by decide) (by decide)]
  · rw [f2 1 (by decide) (by decide)]; exact hR4
end UNITS2
