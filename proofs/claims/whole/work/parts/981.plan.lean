/-! Labour.plan, whole -/
section PLAN
variable {V Q : WV} {n : Nat} {o : Nat → Nat} {w q : Nat} {P : WV → WV → Hp}
theorem c_collect (hP : L2 w q P) (hO : OrdOK V n o) (hH : HomOK V) (hL : LimR V) (hT : TdB V) (h5 : Per V) : ∃ A, F_X2_collectAsks (P V Q) (q + 8) w = some (P V (sx Q 10 A)) ∧ FixA V A := by
  obtain ⟨rk, hk1, hk2⟩ := hO.rk
  have hfill : F_J7_fill_53178 (P V Q) (q + 10) 0 = some (P V (sx Q 10 (fun i => if i < 28 then 0 else Q.1 10 i))) := s_fill (hP.2 V) (o := 10) (by decide) (by decide) (len := 28) rfl (by decide) Q 0
  obtain ⟨a, a1, a2⟩ := c_asks1 (Q := sx Q 10 (fun i => if i < 28 then 0 else Q.1 10 i)) hP hH (fun y hy => by
    show (if y < 28 then (0 : Int32) else Q.1 10 y) = _
    rw [if_pos hy]
    by_cases h12 : y < 12
    · rw [if_pos h12]; rfl
    · rw [if_neg h12, if_neg (Nat.not_lt_zero _)])
  rw [sx_sx] at a1
  obtain ⟨A, b1, b2⟩ := c_asks2 (Q := sx Q 10 a) hP hO hL h5 hk1 hk2 (ask_begin hO hH hT hk2 a2)
  rw [sx_sx] at b1
  refine ⟨A, ?_, ask_end hO b2⟩
  unfold F_X2_collectAsks
  simp only [ql (hP.2 V), hfill, Option.bind_some, a1, ol (hP.1 (sx Q 10 a)).lo, tl (hP.1 (sx Q 10 a)).lt, hO.2.2.1, bl, b1]
theorem c_plan (hP : L2 w q P) (hO : OrdOK V n o) (hH : HomOK V) (hL : LimR V) (hT : TdB V) (h5 : Per V) (hc : 0 ≤ (V.1 0 6).toInt ∧ (V.1 0 6).toInt ≤ 99) : ∃ A G, F_X2_plan (P V Q) (q + 8) w = some (P V (sx (sx Q 10 A) 9 G)) ∧ FixA V A ∧ FixG V A (mnI (V.1 0 6) (A 0)) G := by
  obtain ⟨A, a1, a2⟩ := c_collect (Q := Q) hP hO hH hL hT h5
  obtain ⟨-, -, -, hb⟩ := id a2
  have hfill : F_J7_fill_53178 (P V (sx Q 10 A)) (q + 9) 0 = some (P V (sx (sx Q 10 A) 9 (fun i => if i < 28 then 0 else Q.1 9 i))) := s_fill (hP.2 V) (o := 9) (by decide) (by decide) (len := 28) rfl (by decide) (sx Q 10 A) 0
  obtain ⟨G0, hG0⟩ : ∃ G0, G0 = upd (fun i => if i < 28 then 0 else Q.1 9 i) 0 (mnI (V.1 0 6) (A 0)) := ⟨_, rfl⟩
  have g0 : G0 0 = mnI (V.1 0 6) (A 0) := by rw [hG0, upd_s]
  have g1 : ∀ y, y < 28 → y ≠ 0 → G0 y = 0 := fun y hy h0 => by rw [hG0, upd_ne _ _ h0]; exact if_pos hy
  have hI : FixI V A (mnI (V.1 0 6) (A 0)) o 0 G0 := by
    refine ⟨g0, fun y hy => ?_, fun y hy => ?_, fun j hj => absurd hj (Nat.not_lt_zero _), fun y hy h0 _ => g1 y hy h0⟩
    · have := hb y hy
      by_cases e : y = 0
      · subst e; rw [g0, ti_mn]; omega
      · rw [g1 y hy e, ti_0]; omega
    · by_cases e : y = 0
      · subst e; rw [g0, ti_mn]; omega
      · rw [g1 y hy e, ti_0]; omega
  obtain ⟨G, b1, b2⟩ := c_gets (Q := sx (sx Q 10 A) 9 G0) hP hO hL (c := mnI (V.1 0 6) (A 0)) hI
  rw [sx_sx] at b1
  refine ⟨A, G, ?_, a2, b2⟩
  have e10 : ∀ f, (sx (sx Q 10 A) 9 f).1 10 = A := fun f => rfl
  have e9 : ∀ f, (sx (sx Q 10 A) 9 f).1 9 = f := fun f => rfl
  have l0 : ∀ R : WV, aI (P V R) (q + 10) 0 = some (R.1 10 0) := fun R => (hP.2 V).ldi (V := R) (o := 10) (i := 0) (by decide) (by decide) rfl (by decide) (by decide)
  have s0 : ∀ (R : WV) (x : Int32), sI (P V R) (q + 9) 0 x = some (P V (sx R 9 (upd (R.1 9) 0 x))) := fun R x => (hP.2 V).sti (V := R) (o := 9) (i := 0) (by decide) (by decide) rfl (by decide) (by decide)
  unfold F_X2_plan
  simp only [ql (hP.2 V), a1, hfill, Option.bind_some, fun R => ol (hP.1 R).lo, l0, s0, e10, e9, sx_sx, ← hG0, b1]
end PLAN
