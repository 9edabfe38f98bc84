/-! calls that change nothing: fired, of, proc, worst, place -/
variable {kt : Nat}
section READS3
theorem T_fired (i v : Int32) : TR (fun h => F_X9_fired h 0 i v) (fun h => F_X10_fired h 756 i v) := rdr fun V n o s hW => by
  have c0 : (0 : Int64).toInt = 0 := rfl
  have c1 : (1 : Int64).toInt = 1 := rfl
  have d0 : (0 : Int32).toInt = 0 := rfl
  have d1 : (1 : Int32).toInt = 1 := rfl
  obtain ⟨s4, s52, -⟩ := hW.tg
  have es : (nI s - 1).toInt = (s : Int) - 1 := by
    have := nI_toInt (n := s) (by omega)
    rw [ti_sub (by omega) (by omega), this]; rfl
  have r4 : ∀ {b : Nat} {P : WV → Hp} (hP : LM b P) (U : WV), Rel V (U.1 1) → aI (P U) (b + 1) 4 = some (nI s) := fun hP U hR => by
    have := hP.ldi (V := U) (o := 1) (i := 4) (len := 1677) (by decide) (by decide) rfl (by decide) (by decide)
    rw [hR.1.2.2.2.2.1, s52] at this
    exact this
  by_cases hi : 0 ≤ i.toInt ∧ i.toInt ≤ (s : Int) - 1
  · obtain ⟨k, hk, rfl⟩ := inb_of (x := i) (n := s) (inb_iff.mpr ⟨hi.1, by omega⟩) (by omega)
    have n1 : ¬ nI k < 0 := nI_pos (by omega)
    have n2 : ¬ nI s ≤ nI k := nI_ge hk (by omega)
    have hk4 : k < 4 := by omega
    by_cases hv : 0 ≤ v.toInt ∧ v.toInt ≤ 1
    · by_cases v0 : v = 0
      · refine ⟨V.1 56 k, fun P hX => ?_, fun P U hP hR => ⟨thr U, ?_, thr_same U⟩⟩
        · unfold F_X9_fired
          simp only [hX.2.2.1, ol hX.1.lo, tr hX.1.lr, Option.bind_some, if_neg n1, s52, if_neg n2, o_out, d0, d1, if_pos hv, if_pos v0, if_true, hk4]
        · have e : aI (P (thr U)) (756 + 1) ((543 + 4 * nI k) + 3) = some (V.1 56 k) := by
            rw [show (3 : Int32) = nI 3 from rfl, ix_t, hP.ldi (V := thr U) (o := 1) (by decide) (by decide) rfl (by decide) (by omega)]
            exact congrArg some (hR.2.2.2.2 k 3 hk4 (by decide))
          unfold F_X10_fired
          simp only [m_thr hP, ml hP, Option.bind_some, r4 hP (thr U) hR, m_within, c0, c1, Int32.toInt_toInt64, es, if_pos hi, if_pos hv, if_neg i10, if_pos v0, e]
      · refine ⟨V.1 53 k, fun P hX => ?_, fun P U hP hR => ⟨thr U, ?_, thr_same U⟩⟩
        · unfold F_X9_fired
          simp only [hX.2.2.1, ol hX.1.lo, tr hX.1.lr, Option.bind_some, if_neg n1, s52, if_neg n2, o_out, d0, d1, if_pos hv, if_neg v0, if_true, hk4]
        · have e : aI (P (thr U)) (756 + 1) ((543 + 4 * nI k) + 0) = some (V.1 53 k) := by
            rw [show (0 : Int32) = nI 0 from rfl, ix_t, hP.ldi (V := thr U) (o := 1) (by decide) (by decide) rfl (by decide) (by omega)]
            exact congrArg some (hR.2.2.2.2 k 0 hk4 (by decide))
          unfold F_X10_fired
          simp only [m_thr hP, ml hP, Option.bind_some, r4 hP (thr U) hR, m_within, c0, c1, Int32.toInt_toInt64, es, if_pos hi, if_pos hv, if_neg i10, if_neg v0, e]
    · refine ⟨-2, fun P hX => ?_, fun P U hP hR => ⟨thr U, ?_, thr_same U⟩⟩
      · unfold F_X9_fired
        simp only [hX.2.2.1, ol hX.1.lo, tr hX.1.lr, Option.bind_some, if_neg n1, s52, if_neg n2, o_out, d0, d1, if_neg hv, if_neg i10]
      · unfold F_X10_fired
        simp only [m_thr hP, ml hP, Option.bind_some, r4 hP (thr U) hR, m_within, c0, c1, Int32.toInt_toInt64, es, if_pos hi, if_neg hv, if_neg i10, if_true]
  · refine ⟨-2, fun P hX => ?_, fun P U hP hR => ⟨thr U, ?_, thr_same U⟩⟩
    · unfold F_X9_fired
      by_cases n1 : i < 0
      · rw [if_pos n1]
      · have n2 : nI s ≤ i := by
          rw [ti_le, nI_toInt (by omega)]
          rw [ti_lt, d0] at n1
          omega
        simp only [hX.2.2.1, ol hX.1.lo, tr hX.1.lr, Option.bind_some, if_neg n1, s52, if_pos n2]
    · unfold F_X10_fired
      simp only [m_thr hP, ml hP, Option.bind_some, r4 hP (thr U) hR, m_within, c0, c1, Int32.toInt_toInt64, es, if_neg hi, if_true]
theorem T_of (g v : Int32) : TR (fun h => F_X9_of h 0 g v) (fun h => F_X10_of_ h 756 g v) := rdr fun V n o s hW => by
  have hC := hW.ti.1
  have c0 : (0 : Int64).toInt = 0 := rfl
  have c9 : (9 : Int64).toInt = 9 := rfl
  have d0 : (0 : Int32).toInt = 0 := rfl
  have d8 : (8 : Int32).toInt = 8 := rfl
  rcases g_cs V g with hf | ⟨k, hk, rfl, ht⟩
  · refine ⟨-2, fun P hX => ?_, fun P U hP hR => ⟨thr U, ?_, thr_same U⟩⟩
    · unfold F_X9_of
      simp only [hX.2.2.1, ol hX.1.lo, tl hX.1.lt, Option.bind_some, s_has hX.1.lt, hf, Bool.false_eq_true, if_false, if_true]
    · unfold F_X10_of_
      simp only [m_thr hP, ml hP, Option.bind_some, m_isGroup hP (U := thr U) hR, hf, Bool.false_eq_true, if_false, if_true]
  · have big : ∀ w : Int32, (w = 9 ∨ w = 10 ∨ w = 11 ∨ w = 12 ∨ w = 13 ∨ w = 14 ∨ w = 15) → ¬ (0 ≤ w.toInt ∧ w.toInt ≤ 8) := by
      rintro w (rfl | rfl | rfl | rfl | rfl | rfl | rfl) <;> decide
    by_cases hv : 0 ≤ v.toInt ∧ v.toInt ≤ 8
    · obtain ⟨j, hj, rfl⟩ := v_in (K := 8) (by decide) hv
      have hj9 : j < 9 := by omega
      have ec : cg j = 5 + j := (by decide : ∀ j, j < 9 → cg j = 5 + j) j hj9
      have hv9 : 0 ≤ (nI j).toInt ∧ (nI j).toInt ≤ 9 := ⟨hv.1, by omega⟩
      have q : ∀ j, j < 9 → ¬ nI j = 10 ∧ ¬ nI j = 11 ∧ ¬ nI j = 12 ∧ ¬ nI j = 13 ∧ ¬ nI j = 14 ∧ ¬ nI j = 15 := by decide
      obtain ⟨q1, q2, q3, q4, q5, q6⟩ := q j hj9
      refine ⟨V.1 (5 + j) k, fun P hX => ?_, fun P U hP hR => ⟨thr U, ?_, thr_same U⟩⟩
      · unfold F_X9_of
        simp only [hX.2.2.1, ol hX.1.lo, tl hX.1.lt, Option.bind_some, s_has' hX.1.lt hk, ht, if_true, if_neg i10, o_out, d0, d8, if_pos hv, hj9, hk]
      · have e := m_of hP (U := thr U) hR hk ht (show j < 34 by omega) (by rw [ec]; omega)
        rw [ec] at e
        unfold F_X10_of_
        simp only [m_thr hP, ml hP, Option.bind_some, m_isGroup' hP (U := thr U) hR hk, ht, if_true, if_neg i10, if_neg q1, if_neg q2, if_neg q3, if_neg q4, if_neg q5, if_neg q6, m_within, c0, c9, if_pos hv9, e, un]
    · by_cases v9 : v = 9
      · subst v9
        refine ⟨V.1 2 k, fun P hX => ?_, fun P U hP hR => ⟨thr U, ?_, thr_same U⟩⟩
        · unfold F_X9_of
          simp (config := {decide := true}) only [if_false, hX.2.2.1, ol hX.1.lo, tl hX.1.lt, Option.bind_some, s_has' hX.1.lt hk, ht, if_true, if_neg i10, o_out, if_neg hv, hk]
        · have e : F_X10_of (P (thr U)) 756 (nI k) 9 0 = some (V.1 2 k, P (thr U)) := m_of hP (U := thr U) hR hk ht (f := 9) (by decide) (by decide)
          unfold F_X10_of_
          simp (config := {decide := true}) only [if_false, m_thr hP, ml hP, Option.bind_some, m_isGroup' hP (U := thr U) hR hk, ht, if_true, if_neg i10, m_within, e, un]
      · by_cases v10 : v = 10
        · subst v10
          refine ⟨pgIn V (nI k) 0 + pgIn V (nI k) 1, fun P hX => ?_, fun P U hP hR => ⟨thr U, ?_, thr_same U⟩⟩
          · unfold F_X9_of
            simp (config := {decide := true}) only [if_false, hX.2.2.1, ol hX.1.lo, tl hX.1.lt, cl hX.1.lc, Option.bind_some, s_has' hX.1.lt hk, ht, if_true, if_neg i10, o_out, if_neg hv, s_own hX.1.lc]
          · unfold F_X10_of_
            simp (config := {decide := true}) only [if_false, m_thr hP, ml hP, Option.bind_some, m_isGroup' hP (U := thr U) hR hk, ht, if_true, if_neg i10, m_ownOf hP (U := thr U) hR hk, un]
        · by_cases v11 : v = 11
          · subst v11
            refine ⟨V.1 14 k, fun P hX => ?_, fun P U hP hR => ⟨thr U, ?_, thr_same U⟩⟩
            · unfold F_X9_of
              simp (config := {decide := true}) only [if_false, hX.2.2.1, ol hX.1.lo, tl hX.1.lt, Option.bind_some, s_has' hX.1.lt hk, ht, if_true, if_neg i10, o_out, if_neg hv, hk]
            · have e : F_X10_of (P (thr U)) 756 (nI k) 10 0 = some (V.1 14 k, P (thr U)) := m_of hP (U := thr U) hR hk ht (f := 10) (by decide) (by decide)
              unfold F_X10_of_
              simp (config := {decide := true}) only [if_false, m_thr hP, ml hP, Option.bind_some, m_isGroup' hP (U := thr U) hR hk, ht, if_true, if_neg i10, e, un]
          · by_cases v12 : v = 12
            · subst v12
              refine ⟨V.1 15 k, fun P hX => ?_, fun P U hP hR => ?_⟩
              · unfold F_X9_of
                simp (config := {decide := true}) only [if_false, hX.2.2.1, ol hX.1.lo, tl hX.1.lt, Option.bind_some, s_has' hX.1.lt hk, ht, if_true, if_neg i10, o_out, if_neg hv, hk]
              · obtain ⟨U', a1, a2, -⟩ := m_totalOf hP (U := thr U) hR hC hk ht
                refine ⟨U', ?_, (thr_same U).trans a2.same⟩
                unfold F_X10_of_
                simp (config := {decide := true}) only [if_false, m_thr hP, ml hP, Option.bind_some, m_isGroup' hP (U := thr U) hR hk, ht, if_true, if_neg i10, a1, un]
            · by_cases v13 : v = 13
              · subst v13
                refine ⟨pgIn V (nI k) 1, fun P hX => ?_, fun P U hP hR => ⟨thr U, ?_, thr_same U⟩⟩
                · have e : F_X0_pagesIn (P V) (1 + 23) (nI k) 1 = some (pgIn V (nI k) 1) := s_pagesIn (k := 1) hX.1.lc (nI k) (by decide)
                  unfold F_X9_of
                  simp (config := {decide := true}) only [if_false, hX.2.2.1, ol hX.1.lo, tl hX.1.lt, cl hX.1.lc, Option.bind_some, s_has' hX.1.lt hk, ht, if_true, if_neg i10, o_out, if_neg hv, e]
                · have e : F_X10_pagesIn (P (thr U)) 756 (nI k) 3 = some (pgIn V (nI k) 1, P (thr U)) := m_pagesIn hP (U := thr U) hR hk (k := 1) (by decide)
                  unfold F_X10_of_
                  simp (config := {decide := true}) only [if_false, m_thr hP, ml hP, Option.bind_some, m_isGroup' hP (U := thr U) hR hk, ht, if_true, if_neg i10, e, un]
              · by_cases v14 : v = 14
                · subst v14
                  refine ⟨V.1 16 k, fun P hX => ?_, fun P U hP hR => ?_⟩
                  · unfold F_X9_of
                    simp (config := {decide := true}) only [if_false, hX.2.2.1, ol hX.1.lo, tl hX.1.lt, Option.bind_some, s_has' hX.1.lt hk, ht, if_true, if_neg i10, o_out, if_neg hv, hk]
                  · obtain ⟨U', a1, a2, -⟩ := m_outOf hP (U := thr U) hR hC hk ht
                    refine ⟨U', ?_, (thr_same U).trans a2.same⟩
                    unfold F_X10_of_
                    simp (config := {decide := true}) only [if_false, m_thr hP, ml hP, Option.bind_some, m_isGroup' hP (U := thr U) hR hk, ht, if_true, if_neg i10, a1, un]
                · by_cases v15 : v = 15
                  · subst v15
                    refine ⟨V.1 17 k, fun P hX => ?_, fun P U hP hR => ⟨thr U, ?_, thr_same U⟩⟩
                    · unfold F_X9_of
                      simp (config := {decide := true}) only [if_false, hX.2.2.1, ol hX.1.lo, tl hX.1.lt, Option.bind_some, s_has' hX.1.lt hk, ht, if_true, if_neg i10, o_out, if_neg hv, hk]
                    · have e : F_X10_of (P (thr U)) 756 (nI k) 24 0 = some (V.1 17 k, P (thr U)) := m_of hP (U := thr U) hR hk ht (f := 24) (by decide) (by decide)
                      unfold F_X10_of_
                      simp (config := {decide := true}) only [if_false, m_thr hP, ml hP, Option.bind_some, m_isGroup' hP (U := thr U) hR hk, ht, if_true, if_neg i10, e, un]
                  · have hv9 : ¬ (0 ≤ v.toInt ∧ v.toInt ≤ 9) := fun h => by
                      obtain ⟨j, hj, rfl⟩ := v_in (K := 9) (by decide) h
                      have : j = 9 ∨ j ≤ 8 := by omega
                      rcases this with rfl | h8
                      · exact v9 rfl
                      · apply hv
                        rw [nI_toInt (by omega)]; omega
                    refine ⟨-2, fun P hX => ?_, fun P U hP hR => ⟨thr U, ?_, thr_same U⟩⟩
                    · unfold F_X9_of
                      simp only [hX.2.2.1, ol hX.1.lo, tl hX.1.lt, Option.bind_some, s_has' hX.1.lt hk, ht, if_true, if_neg i10, o_out, d0, d8, if_neg hv, if_neg v9, if_neg v10, if_neg v11, if_neg v12, if_neg v13, if_neg v14, if_neg v15]
                    · unfold F_X10_of_
                      simp only [m_thr hP, ml hP, Option.bind_some, m_isGroup' hP (U := thr U) hR hk, ht, if_true, if_neg i10, if_neg v10, if_neg v11, if_neg v12, if_neg v13, if_neg v14, if_neg v15, m_within, c0, c9, if_neg hv9]
end READS3
