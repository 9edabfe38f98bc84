/-! the model's laysUnits -/
/-- at a period's begin what was got is forgotten -/
def perV (V : WV) : WV := if V.1 0 7 - V.1 0 7 / 5 * 5 = 0 then sx V 17 (fun i => if i < 12 then 0 else V.1 17 i) else V
section UNITS
variable {V U : WV} {n : Nat} {o : Nat → Nat} {b : Nat} {P : WV → Hp} {A Gf : Nat → Int32}
theorem m_zero (hP : LM b P) : ∃ U', loopF (fun x => F_X10_laysUnits_L2 b x.1 x.2) 6000 (0, P U) = some (P U') ∧ (∀ k, k ≠ 16 → k ≠ 17 → U'.1 k = U.1 k) ∧ ∀ y, y < 28 → U'.1 16 y = 0 ∧ U'.1 17 y = 0 := by
  obtain ⟨a, ha, k1, k2⟩ := loop_inv (st := fun x => F_X10_laysUnits_L2 b x.1 x.2) (fun i (a : WV) => (nI i, P a)) (fun a => P a) (fun i a => (∀ k, k ≠ 16 → k ≠ 17 → a.1 k = U.1 k) ∧ ∀ y, y < i → a.1 16 y = 0 ∧ a.1 17 y = 0) 28
    (fun i a hi hI => by
      obtain ⟨i1, i2⟩ := hI
      refine ⟨sx (sx a 16 (upd (a.1 16) i 0)) 17 (upd (a.1 17) i 0), ?_, fun k h1 h2 => ?_, fun y hy => ?_⟩
      · show F_X10_laysUnits_L2 b (nI i) (P a) = _
        unfold F_X10_laysUnits_L2
        rw [h28I, if_neg (nI_ge hi (by decide))]
        have e17 : (sx a 16 (upd (a.1 16) i 0)).1 17 = a.1 17 := rfl
        simp only [ml hP, hi, Option.bind_some, bl, nI_1, e17]
      · rw [sx_1, up_n _ _ h2, sx_1, up_n _ _ h1]; exact i1 k h1 h2
      · show upd (a.1 16) i 0 y = 0 ∧ upd (a.1 17) i 0 y = 0
        by_cases e : y = i
        · rw [e, upd_s, upd_s]; exact ⟨rfl, rfl⟩
        · rw [upd_ne _ _ e, upd_ne _ _ e]; exact i2 y (by omega))
    (fun a hI => by
      show F_X10_laysUnits_L2 b (nI 28) (P a) = _
      unfold F_X10_laysUnits_L2
      rw [h28I, if_pos (nI_le (Nat.le_refl _) (by decide))])
    28 0 6000 U (by omega) (by omega) ⟨fun _ _ _ => rfl, fun y hy => absurd hy (Nat.not_lt_zero _)⟩
  exact ⟨a, ha, k1, k2⟩
theorem m_forget (hP : LM b P) (hR : Rel V (U.1 1)) : ∃ U', loopF (fun x => F_X10_laysUnits_L41 b x.1 x.2) 6000 (0, P U) = some (P U') ∧ Keep U U' ∧ (∀ k, k ≠ 1 → U'.1 k = U.1 k) ∧ Rel (sx V 17 (fun i => if i < 12 then 0 else V.1 17 i)) (U'.1 1) := by
  obtain ⟨a, ha, k1, k2, k3⟩ := loop_inv (st := fun x => F_X10_laysUnits_L41 b x.1 x.2) (fun i (a : WV) => (nI i, P a)) (fun a => P a) (fun i a => Keep U a ∧ (∀ k, k ≠ 1 → a.1 k = U.1 k) ∧ Rel (sx V 17 (fun x => if x < i then 0 else V.1 17 x)) (a.1 1)) 12
    (fun i a hi hI => by
      obtain ⟨i1, i2, i3⟩ := hI
      have hl : F_X10_lays (P a) b (nI i) 24 0 = some (P (sx a 1 (upd (a.1 1) (7 + 34 * i + 24) 0))) := m_lays (f := 24) hP hi (by decide) 0
      refine ⟨sx a 1 (upd (a.1 1) (7 + 34 * i + 24) 0), ?_, i1.trans (Keep.up _ (by omega) _), fun k hk => ?_, ?_⟩
      · show F_X10_laysUnits_L41 b (nI i) (P a) = _
        unfold F_X10_laysUnits_L41
        rw [h12I, if_neg (nI_ge hi (by decide))]
        simp only [ml hP, hl, Option.bind_some, bl, nI_1]
      · rw [sx_1, up_n _ _ hk]; exact i2 k hk
      · have h := i3.grp (g := i) (f := 24) hi (by decide) (by decide) (by decide) 0
        have e : sx (sx V 17 (fun x => if x < i then 0 else V.1 17 x)) (cg 24) (upd ((sx V 17 (fun x => if x < i then 0 else V.1 17 x)).1 (cg 24)) i 0) = sx V 17 (fun x => if x < i + 1 then 0 else V.1 17 x) := by
          show sx (sx V 17 (fun x => if x < i then 0 else V.1 17 x)) 17 (upd (fun x => if x < i then 0 else V.1 17 x) i 0) = _
          rw [sx_sx]
          congr 1
          funext x
          by_cases ex : x = i
          · rw [ex, upd_s, if_pos (Nat.lt_succ_self _)]
          · rw [upd_ne _ _ ex]
            by_cases hx : x < i
            · rw [if_pos hx, if_pos (by omega)]
            · rw [if_neg hx, if_neg (by omega)]
        rw [e] at h
        exact h)
    (fun a hI => by
      show F_X10_laysUnits_L41 b (nI 12) (P a) = _
      unfold F_X10_laysUnits_L41
      rw [h12I, if_pos (nI_le (Nat.le_refl _) (by decide))])
    12 0 6000 U (by omega) (by omega) ⟨Keep.refl U, fun _ _ => rfl, by
      have : (sx V 17 (fun x => if x < 0 then 0 else V.1 17 x)) = V := by
        have : (fun x => if x < 0 then (0 : Int32) else V.1 17 x) = V.1 17 := by funext x; rw [if_neg (Nat.not_lt_zero _)]
        rw [this, sx_id]
      rw [this]; exact hR⟩
  exact ⟨a, ha, k1, k2, k3⟩
end UNITS
