/-! calls that change nothing: proc, worst, place -/
variable {kt : Nat}
section READS4
theorem T_proc (p v : Int32) : TR (fun h => F_X9_proc h 0 p v) (fun h => F_X10_proc h 756 p v) := rdr fun V n o s hW => by
  have c0 : (0 : Int64).toInt = 0 := rfl
  have c8 : (8 : Int64).toInt = 8 := rfl
  rcases p_cs V p with hf | ⟨k, hk, rfl, ht⟩
  · refine ⟨-99, fun P hX => ?_, fun P U hP hR => ⟨thr U, ?_, thr_same U⟩⟩
    · unfold F_X9_proc
      simp only [hX.2.2.1, ol hX.1.lo, cl hX.1.lc, Option.bind_some, s_phas hX.1.lc, hf, Bool.false_eq_true, if_false, if_true]
    · unfold F_X10_proc
      simp only [m_thr hP, ml hP, Option.bind_some, m_isProc hP (U := thr U) hR, hf, Bool.false_eq_true, if_false, if_true]
  · by_cases hv : 0 ≤ v.toInt ∧ v.toInt ≤ 8
    · obtain ⟨j, hj, rfl⟩ := v_in (K := 8) (by decide) hv
      have r27 : ∀ {P : WV → Hp}, LX P → aR (P V) (1 + 26) 15 0 = some (1 + 27) := fun hX => hX.1.ldr (V := V) (o := 26) (i := 0) (z := 27) (by decide) (by decide) rfl (by decide) (by decide) rfl
      have r28 : ∀ {P : WV → Hp}, LX P → aR (P V) (1 + 26) 15 1 = some (1 + 28) := fun hX => hX.1.ldr (V := V) (o := 26) (i := 1) (z := 28) (by decide) (by decide) rfl (by decide) (by decide) rfl
      have a27 : ∀ {P : WV → Hp}, LX P → aI (P V) (1 + 27) (nI k) = some (V.1 27 k) := fun hX => hX.1.ldi (V := V) (o := 27) (by decide) (by decide) rfl (by decide) hk
      have a28 : ∀ {P : WV → Hp}, LX P → aI (P V) (1 + 28) (nI k) = some (V.1 28 k) := fun hX => hX.1.ldi (V := V) (o := 28) (by decide) (by decide) rfl (by decide) hk
      have h' : j = 0 ∨ j = 1 ∨ j = 2 ∨ j = 3 ∨ j = 4 ∨ j = 5 ∨ j = 6 ∨ j = 7 ∨ j = 8 := by omega
      rcases h' with rfl | rfl | rfl | rfl | rfl | rfl | rfl | rfl | rfl
      · refine ⟨V.1 24 k, fun P hX => ?_, fun P U hP hR => ⟨thr U, ?_, thr_same U⟩⟩
        · unfold F_X9_proc
          simp (config := {decide := true}) only [if_false, if_true, hX.2.2.1, ol hX.1.lo, cl hX.1.lc, Option.bind_some, s_phas' hX.1.lc hk, ht, if_neg i10, hk, r27 hX, r28 hX, a27 hX, a28 hX, s_bad hX.1.lc hk]
        · have e : F_X10_ofProcess (P (thr U)) 756 (nI k) 0 0 = some (V.1 24 k, P (thr U)) := m_pr hP (U := thr U) hR hk ht (f := 0) (by decide)
          unfold F_X10_proc
          simp (config := {decide := true}) only [if_false, if_true, m_thr hP, ml hP, Option.bind_some, m_isProc' hP (U := thr U) hR hk, ht, if_neg i10, m_within, c0, c8, if_pos hv, show nI 0 = 0 from rfl, e, un]
      · refine ⟨V.1 25 k, fun P hX => ?_, fun P U hP hR => ⟨thr U, ?_, thr_same U⟩⟩
        · unfold F_X9_proc
          simp (config := {decide := true}) only [if_false, if_true, hX.2.2.1, ol hX.1.lo, cl hX.1.lc, Option.bind_some, s_phas' hX.1.lc hk, ht, if_neg i10, hk, r27 hX, r28 hX, a27 hX, a28 hX, s_bad hX.1.lc hk]
        · have e : F_X10_ofProcess (P (thr U)) 756 (nI k) 1 0 = some (V.1 25 k, P (thr U)) := m_pr hP (U := thr U) hR hk ht (f := 1) (by decide)
          unfold F_X10_proc
          simp (config := {decide := true}) only [if_false, if_true, m_thr hP, ml hP, Option.bind_some, m_isProc' hP (U := thr U) hR hk, ht, if_neg i10, m_within, c0, c8, if_pos hv, show nI 1 = 1 from rfl, e, un]
      · refine ⟨V.1 27 k, fun P hX => ?_, fun P U hP hR => ⟨thr U, ?_, thr_same U⟩⟩
        · unfold F_X9_proc
          simp (config := {decide := true}) only [if_false, if_true, hX.2.2.1, ol hX.1.lo, cl hX.1.lc, Option.bind_some, s_phas' hX.1.lc hk, ht, if_neg i10, hk, r27 hX, r28 hX, a27 hX, a28 hX, s_bad hX.1.lc hk]
        · have e : F_X10_ofProcess (P (thr U)) 756 (nI k) 2 0 = some (V.1 27 k, P (thr U)) := m_pr hP (U := thr U) hR hk ht (f := 2) (by decide)
          unfold F_X10_proc
          simp (config := {decide := true}) only [if_false, if_true, m_thr hP, ml hP, Option.bind_some, m_isProc' hP (U := thr U) hR hk, ht, if_neg i10, m_within, c0, c8, if_pos hv, show nI 2 = 2 from rfl, e, un]
      · refine ⟨V.1 28 k, fun P hX => ?_, fun P U hP hR => ⟨thr U, ?_, thr_same U⟩⟩
        · unfold F_X9_proc
          simp (config := {decide := true}) only [if_false, if_true, hX.2.2.1, ol hX.1.lo, cl hX.1.lc, Option.bind_some, s_phas' hX.1.lc hk, ht, if_neg i10, hk, r27 hX, r28 hX, a27 hX, a28 hX, s_bad hX.1.lc hk]
        · have e : F_X10_ofProcess (P (thr U)) 756 (nI k) 3 0 = some (V.1 28 k, P (thr U)) := m_pr hP (U := thr U) hR hk ht (f := 3) (by decide)
          unfold F_X10_proc
          simp (config := {decide := true}) only [if_false, if_true, m_thr hP, ml hP, Option.bind_some, m_isProc' hP (U := thr U) hR hk, ht, if_neg i10, m_within, c0, c8, if_pos hv, show nI 3 = 3 from rfl, e, un]
      · refine ⟨V.1 30 k, fun P hX => ?_, fun P U hP hR => ⟨thr U, ?_, thr_same U⟩⟩
        · unfold F_X9_proc
          simp (config := {decide := true}) only [if_false, if_true, hX.2.2.1, ol hX.1.lo, cl hX.1.lc, Option.bind_some, s_phas' hX.1.lc hk, ht, if_neg i10, hk, r27 hX, r28 hX, a27 hX, a28 hX, s_bad hX.1.lc hk]
        · have e : F_X10_ofProcess (P (thr U)) 756 (nI k) 4 0 = some (V.1 30 k, P (thr U)) := m_pr hP (U := thr U) hR hk ht (f := 4) (by decide)
          unfold F_X10_proc
          simp (config := {decide := true}) only [if_false, if_true, m_thr hP, ml hP, Option.bind_some, m_isProc' hP (U := thr U) hR hk, ht, if_neg i10, m_within, c0, c8, if_pos hv, show nI 4 = 4 from rfl, e, un]
      · refine ⟨badV V k, fun P hX => ?_, fun P U hP hR => ⟨thr U, ?_, thr_same U⟩⟩
        · unfold F_X9_proc
          simp (config := {decide := true}) only [if_false, if_true, hX.2.2.1, ol hX.1.lo, cl hX.1.lc, Option.bind_some, s_phas' hX.1.lc hk, ht, if_neg i10, hk, r27 hX, r28 hX, a27 hX, a28 hX, s_bad hX.1.lc hk]
        · unfold F_X10_proc
          simp (config := {decide := true}) only [if_false, if_true, m_thr hP, ml hP, Option.bind_some, m_isProc' hP (U := thr U) hR hk, ht, if_neg i10, m_within, c0, c8, if_pos hv, m_bad hP (U := thr U) hR hk ht, un]
      · refine ⟨V.1 29 k, fun P hX => ?_, fun P U hP hR => ⟨thr U, ?_, thr_same U⟩⟩
        · unfold F_X9_proc
          simp (config := {decide := true}) only [if_false, if_true, hX.2.2.1, ol hX.1.lo, cl hX.1.lc, Option.bind_some, s_phas' hX.1.lc hk, ht, if_neg i10, hk, r27 hX, r28 hX, a27 hX, a28 hX, s_bad hX.1.lc hk]
        · have e : F_X10_ofProcess (P (thr U)) 756 (nI k) 5 0 = some (V.1 29 k, P (thr U)) := m_pr hP (U := thr U) hR hk ht (f := 5) (by decide)
          have es : nI 6 - 1 = 5 := rfl
          unfold F_X10_proc
          simp (config := {decide := true}) only [if_false, if_true, m_thr hP, ml hP, Option.bind_some, m_isProc' hP (U := thr U) hR hk, ht, if_neg i10, m_within, c0, c8, if_pos hv, es, e, un]
      · refine ⟨V.1 31 k, fun P hX => ?_, fun P U hP hR => ⟨thr U, ?_, thr_same U⟩⟩
        · unfold F_X9_proc
          simp (config := {decide := true}) only [if_false, if_true, hX.2.2.1, ol hX.1.lo, cl hX.1.lc, Option.bind_some, s_phas' hX.1.lc hk, ht, if_neg i10, hk, r27 hX, r28 hX, a27 hX, a28 hX, s_bad hX.1.lc hk]
        · have e : F_X10_ofProcess (P (thr U)) 756 (nI k) 6 0 = some (V.1 31 k, P (thr U)) := m_pr hP (U := thr U) hR hk ht (f := 6) (by decide)
          have es : nI 7 - 1 = 6 := rfl
          unfold F_X10_proc
          simp (config := {decide := true}) only [if_false, if_true, m_thr hP, ml hP, Option.bind_some, m_isProc' hP (U := thr U) hR hk, ht, if_neg i10, m_within, c0, c8, if_pos hv, es, e, un]
      · refine ⟨V.1 32 k, fun P hX => ?_, fun P U hP hR => ⟨thr U, ?_, thr_same U⟩⟩
        · unfold F_X9_proc
          simp (config := {decide := true}) only [if_false, if_true, hX.2.2.1, ol hX.1.lo, cl hX.1.lc, Option.bind_some, s_phas' hX.1.lc hk, ht, if_neg i10, hk, r27 hX, r28 hX, a27 hX, a28 hX, s_bad hX.1.lc hk]
        · have e : F_X10_ofProcess (P (thr U)) 756 (nI k) 7 0 = some (V.1 32 k, P (thr U)) := m_pr hP (U := thr U) hR hk ht (f := 7) (by decide)
          have es : nI 8 - 1 = 7 := rfl
          unfold F_X10_proc
          simp (config := {decide := true}) only [if_false, if_true, m_thr hP, ml hP, Option.bind_some, m_isProc' hP (U := thr U) hR hk, ht, if_neg i10, m_within, c0, c8, if_pos hv, es, e, un]
    · have nv : ∀ w : Int32, (w = 0 ∨ w = 1 ∨ w = 2 ∨ w = 3 ∨ w = 4 ∨ w = 5 ∨ w = 6 ∨ w = 7 ∨ w = 8) → (0 ≤ w.toInt ∧ w.toInt ≤ 8) := by
        rintro w (rfl | rfl | rfl | rfl | rfl | rfl | rfl | rfl | rfl) <;> decide
      have q : ∀ w : Int32, (w = 0 ∨ w = 1 ∨ w = 2 ∨ w = 3 ∨ w = 4 ∨ w = 5 ∨ w = 6 ∨ w = 7 ∨ w = 8) → ¬ v = w := fun w hw e => hv (by rw [e]; exact nv w hw)
      refine ⟨-99, fun P hX => ?_, fun P U hP hR => ⟨thr U, ?_, thr_same U⟩⟩
      · unfold F_X9_proc
        simp only [hX.2.2.1, ol hX.1.lo, cl hX.1.lc, Option.bind_some, s_phas' hX.1.lc hk, ht, if_true, if_neg i10, if_neg (q 0 (by simp)), if_neg (q 1 (by simp)), if_neg (q 2 (by simp)), if_neg (q 3 (by simp)), if_neg (q 4 (by simp)), if_neg (q 5 (by simp)), if_neg (q 6 (by simp)), if_neg (q 7 (by simp)), if_neg (q 8 (by simp))]
      · unfold F_X10_proc
        simp only [m_thr hP, ml hP, Option.bind_some, m_isProc' hP (U := thr U) hR hk, ht, if_true, if_neg i10, m_within, c0, c8, if_neg hv]
def wstS (V : WV) (a : Int32 × Int32) (g : Nat) : Int32 × Int32 := if thV V g && decide (¬ nI (recV V 0 g 0 10) ≤ a.2) then (nI g, nI (recV V 0 g 0 10)) else a
def wst (V : WV) : Nat → Int32 × Int32
  | 0 => (-1, 0)
  | i + 1 => wstS V (wst V i) (i + 1)
theorem rec10 (V : WV) (g : Nat) : 0 ≤ (nI (recV V 0 g 0 10)).toInt := by
  have : recV V 0 g 0 10 ≤ 10 := by unfold recV; exact cntN_le _ _
  rw [nI_toInt (by omega)]; omega
theorem wst_nn (V : WV) (i : Nat) : 0 ≤ (wst V i).2.toInt := by
  induction i with
  | zero => exact Int.le_refl _
  | succ i ih =>
    unfold wst wstS
    split
    · exact rec10 V (i + 1)
    · exact ih
theorem c_worst {P : WV → Hp} (hX : LX P) (V : WV) : F_X9_worst (P V) 0 = some (wst V 11).1 := by
  obtain ⟨a, ha, hI⟩ := loop_inv (st := fun x => F_X9_worst_L6 (P V) 0 x.1 x.2.1 x.2.2) (fun i (a : Int32 × Int32) => (a.1, a.2, nI (i + 1))) (fun a => a.1) (fun i a => a = wst V i) 11
    (fun i a hi hI => by
      refine ⟨wst V (i + 1), ?_, rfl⟩
      have hi12 : i + 1 < 12 := by omega
      have hnn := wst_nn V i
      rw [← hI] at hnn
      show F_X9_worst_L6 (P V) 0 a.1 a.2 (nI (i + 1)) = _
      have er : F_X1_recent (P V) (1 + 33) (nI (i + 1)) 0 10 = some (nI (recV V 0 (i + 1) 0 10)) := s_recent hX.1.lg hi12 (k := 0) (T := 10) (by decide) (by decide)
      unfold F_X9_worst_L6
      rw [h12I, if_neg (nI_ge hi12 (by decide))]
      rw [wst, ← hI]
      unfold wstS
      cases ht : thV V (i + 1)
      · have h0 : (0 : Int32) ≤ a.2 := by rw [ti_le]; exact hnn
        simp only [hX.2.2.1, ol hX.1.lo, tl hX.1.lt, Option.bind_some, s_has' hX.1.lt hi12, ht, Bool.false_eq_true, Bool.false_and, if_false, if_true, if_pos h0, bl, nI_1]
      · by_cases hc : nI (recV V 0 (i + 1) 0 10) ≤ a.2
        · simp only [hX.2.2.1, ol hX.1.lo, tl hX.1.lt, ga hX.1.lg, Option.bind_some, s_has' hX.1.lt hi12, ht, if_true, if_neg i10, er, if_pos hc, hc, not_true, decide_false, Bool.and_false, Bool.false_eq_true, if_false, bl, nI_1]
        · simp only [if_false, hX.2.2.1, ol hX.1.lo, tl hX.1.lt, ga hX.1.lg, Option.bind_some, s_has' hX.1.lt hi12, ht, if_true, if_neg i10, er, if_neg hc, hc, not_false_eq_true, decide_true, Bool.and_true, if_true, bl, nI_1])
    (fun a hI => by
      show F_X9_worst_L6 (P V) 0 a.1 a.2 (nI 12) = _
      unfold F_X9_worst_L6
      rw [h12I, if_pos (nI_le (Nat.le_refl _) (by decide))])
    11 0 6000 (-1, 0) (by omega) (by omega) rfl
  have ha' : loopF (fun x => F_X9_worst_L6 (P V) 0 x.1 x.2.1 x.2.2) 6000 (-1, 0, 1) = some (wst V 11).1 := by rw [← hI]; exact ha
  unfold F_X9_worst
  rw [ha']; rfl
theorem m_worst {P : WV → Hp} {V U : WV} (hP : LM 756 P) (hR : Rel V (U.1 1)) : loopF (fun x => F_X10_worst_L11 756 x.1 x.2.1 x.2.2.1 x.2.2.2) 6000 (-1, 0, 1, P U) = some ((wst V 11).1, P U) := by
  obtain ⟨a, ha, hI⟩ := loop_inv (st := fun x => F_X10_worst_L11 756 x.1 x.2.1 x.2.2.1 x.2.2.2) (fun i (a : Int32 × Int32) => (a.1, a.2, nI (i + 1), P U)) (fun a => (a.1, P U)) (fun i a => a = wst V i) 11
    (fun i a hi hI => by
      refine ⟨wst V (i + 1), ?_, rfl⟩
      have hi12 : i + 1 < 12 := by omega
      show F_X10_worst_L11 756 a.1 a.2 (nI (i + 1)) (P U) = _
      unfold F_X10_worst_L11
      rw [h12I, if_neg (nI_ge hi12 (by decide))]
      rw [wst, ← hI]
      unfold wstS
      cases ht : thV V (i + 1)
      · simp only [ml hP, Option.bind_some, m_isGroup' hP hR hi12, ht, Bool.false_eq_true, Bool.false_and, if_false, if_true, bl, nI_1]
      · have er : F_X10_pressureOf (P U) 756 (nI (i + 1)) 0 10 = some (nI (recV V 0 (i + 1) 0 10), P U) := m_press hP hR hi12 ht (k := 0) (T := 10) (by decide) (by decide)
        by_cases hc : nI (recV V 0 (i + 1) 0 10) ≤ a.2
        · have hc' : ¬ a.2 < nI (recV V 0 (i + 1) 0 10) := Int32.not_lt.mpr hc
          simp only [ml hP, Option.bind_some, m_isGroup' hP hR hi12, ht, if_true, if_neg i10, er, un, if_neg hc', hc, not_true, decide_false, Bool.and_false, Bool.false_eq_true, if_false, bl, nI_1]
        · have hc' : a.2 < nI (recV V 0 (i + 1) 0 10) := Int32.not_le.mp hc
          simp only [ml hP, Option.bind_some, m_isGroup' hP hR hi12, ht, if_true, if_neg i10, er, un, if_pos hc', hc, not_false_eq_true, decide_true, Bool.and_true, bl, nI_1])
    (fun a hI => by
      show F_X10_worst_L11 756 a.1 a.2 (nI 12) (P U) = _
      unfold F_X10_worst_L11
      rw [h12I, if_pos (nI_le (Nat.le_refl _) (by decide))])
    11 0 6000 (-1, 0) (by omega) (by omega) rfl
  rw [← hI]; exact ha
theorem T_worst : TR (fun h => F_X9_worst h 0) (fun h => F_X10_worst h 756) := rdr fun V n o s hW => ⟨(wst V 11).1, fun P hX => c_worst hX V, fun P U hP hR => ⟨thr U, by
  unfold F_X10_worst
  simp only [m_thr hP, Option.bind_some, m_worst hP (U := thr U) hR, bl], thr_same U⟩⟩
def plcS (V : WV) (p : Nat) (a : Int32 × Int32) (g : Nat) : Int32 × Int32 := if thV V g && (decide (V.1 24 p ≠ nI g) && decide (¬ rbF V p g ≤ a.2)) then (nI g, rbF V p g) else a
def plc (V : WV) (p : Nat) : Nat → Int32 × Int32
  | 0 => (-1, -1)
  | i + 1 => plcS V p (plc V p i) i
theorem plc_nn (V : WV) (p i : Nat) : -1 ≤ (plc V p i).2.toInt := by
  induction i with
  | zero => exact Int.le_refl _
  | succ i ih =>
    unfold plc plcS
    split
    · next h =>
      rw [Bool.and_eq_true, Bool.and_eq_true] at h
      have := of_decide_eq_true h.2.2
      rw [ti_le] at this
      dsimp only
      omega
    · exact ih
theorem c_place {P : WV → Hp} {n s : Nat} {o : Nat → Nat} (hX : LX P) (V : WV) (hW : WOK kt V n o s) {p : Nat} (hp : p < 16) (htp : phV V p = true) : loopF (fun x => F_X9_place_L24 (P V) 0 (nI p) x.1 x.2.1 x.2.2) 6000 (-1, -1, 0) = some (plc V p 12).1 := by
  obtain ⟨a, ha, hI⟩ := loop_inv (st := fun x => F_X9_place_L24 (P V) 0 (nI p) x.1 x.2.1 x.2.2) (fun i (a : Int32 × Int32) => (a.1, a.2, nI i)) (fun a => a.1) (fun i a => a = plc V p i) 12
    (fun i a hi hI => by
      refine ⟨plc V p (i + 1), ?_, rfl⟩
      have hnn := plc_nn V p i
      rw [← hI] at hnn
      have hm1 : (-1 : Int32) ≤ a.2 := by
        rw [ti_le]
        have : (-1 : Int32).toInt = -1 := rfl
        omega
      show F_X9_place_L24 (P V) 0 (nI p) a.1 a.2 (nI i) = _
      unfold F_X9_place_L24
      rw [h12I, if_neg (nI_ge hi (by decide))]
      rw [plc, ← hI]
      unfold plcS
      cases ht : thV V i
      · simp only [hX.2.2.1, ol hX.1.lo, tl hX.1.lt, Option.bind_some, s_has' hX.1.lt hi, ht, Bool.false_eq_true, Bool.false_and, if_false, if_true, if_pos hm1, bl, nI_1]
      · by_cases hh : V.1 24 p = nI i
        · simp only [hX.2.2.1, ol hX.1.lo, tl hX.1.lt, cl hX.1.lc, hp, Option.bind_some, s_has' hX.1.lt hi, ht, if_true, if_neg i10, hh, ne_eq, not_true, decide_false, Bool.false_and, Bool.and_false, Bool.false_eq_true, if_false, if_pos hm1, bl, nI_1]
        · have el : F_X3_leftBehindMove (P V) 752 1 (nI p) (nI i) = some (lbF V p i) := s_left hX.1 hW.ti.1 hp htp hi ht 752 (fun x => hX.2.2.2.2 V x)
          have key : (lbF V p i ≤ a.2 ↔ rbF V p i ≤ a.2) ∧ (¬ rbF V p i ≤ a.2 → lbF V p i = rbF V p i) := by
            rcases place_eq hW.ti hW.mx hp htp hi ht with e | ⟨e1, e2⟩
            · rw [e]; exact ⟨Iff.rfl, fun _ => rfl⟩
            · have h1 : lbF V p i ≤ a.2 := by rw [ti_le]; omega
              have h2 : rbF V p i ≤ a.2 := by rw [ti_le]; omega
              exact ⟨⟨fun _ => h2, fun _ => h1⟩, fun h => absurd h2 h⟩
          by_cases hc : rbF V p i ≤ a.2
          · simp only [hX.2.2.1, hX.2.2.2.1, hX.2.2.2.2, ol hX.1.lo, tl hX.1.lt, cl hX.1.lc, hp, Option.bind_some, s_has' hX.1.lt hi, ht, if_true, if_neg i10, if_neg hh, el, if_pos (key.1.mpr hc), hc, not_true, decide_false, Bool.and_false, Bool.false_eq_true, if_false, bl, nI_1]
          · have hl : ¬ lbF V p i ≤ a.2 := fun z => hc (key.1.mp z)
            simp only [if_false, hX.2.2.1, hX.2.2.2.1, hX.2.2.2.2, ol hX.1.lo, tl hX.1.lt, cl hX.1.lc, hp, Option.bind_some, s_has' hX.1.lt hi, ht, if_true, if_neg i10, if_neg hh, el, if_neg hl, hc, hh, ne_eq, not_false_eq_true, decide_true, Bool.and_true, key.2 hc, bl, nI_1])
    (fun a hI => by
      show F_X9_place_L24 (P V) 0 (nI p) a.1 a.2 (nI 12) = _
      unfold F_X9_place_L24
      rw [h12I, if_pos (nI_le (Nat.le_refl _) (by decide))])
    12 0 6000 (-1, -1) (by omega) (by omega) rfl
  rw [← hI]; exact ha
theorem m_place {P : WV → Hp} {V U : WV} {n s : Nat} {o : Nat → Nat} (hP : LM 756 P) (hR : Rel V (U.1 1)) (hW : WOK kt V n o s) {p : Nat} (hp : p < 16) (htp : phV V p = true) : ∃ U', loopF (fun x => F_X10_place_L23 756 (nI p) x.1 x.2.1 x.2.2.1 x.2.2.2) 6000 (-1, -1, 0, P U) = some ((plc V p 12).1, P U') ∧ KeepT U U' := by
  obtain ⟨a, ha, hI, hK⟩ := loop_inv (st := fun x => F_X10_place_L23 756 (nI p) x.1 x.2.1 x.2.2.1 x.2.2.2) (fun i (a : (Int32 × Int32) × WV) => (a.1.1, a.1.2, nI i, P a.2)) (fun a => (a.1.1, P a.2)) (fun i a => a.1 = plc V p i ∧ KeepT U a.2) 12
    (fun i a hi hI => by
      obtain ⟨a, W⟩ := a
      obtain ⟨hI, hK⟩ := hI
      dsimp only at hI hK ⊢
      have hRW := hK.rel hR
      show ∃ a', F_X10_place_L23 756 (nI p) a.1 a.2 (nI i) (P W) = _ ∧ _
      unfold F_X10_place_L23
      rw [h12I, if_neg (nI_ge hi (by decide))]
      cases ht : thV V i
      · refine ⟨(plc V p (i + 1), W), ?_, rfl, hK⟩
        rw [plc, ← hI]
        unfold plcS
        simp only [ml hP, Option.bind_some, m_isGroup' hP hRW hi, ht, Bool.false_eq_true, Bool.false_and, if_false, if_true, bl, nI_1]
      · by_cases hh : V.1 24 p = nI i
        · refine ⟨(plc V p (i + 1), W), ?_, rfl, hK⟩
          rw [plc, ← hI]
          unfold plcS
          simp only [ml hP, Option.bind_some, m_isGroup' hP hRW hi, ht, if_true, if_neg i10, m_home hP hRW hp htp, un, hh, ne_eq, not_true, decide_false, Bool.false_and, Bool.and_false, Bool.false_eq_true, if_false, bl, nI_1]
        · obtain ⟨W1, w1, w2⟩ := m_roomBehind hP hRW hW.ti.1 hW.ti.2.1 hp htp hi ht
          have hR1 := w2.rel hRW
          obtain ⟨W2, x1, x2⟩ := m_roomBehind hP hR1 hW.ti.1 hW.ti.2.1 hp htp hi ht
          have hh' : ¬ nI i = V.1 24 p := fun z => hh z.symm
          by_cases hc : rbF V p i ≤ a.2
          · have hc' : ¬ a.2 < rbF V p i := Int32.not_lt.mpr hc
            refine ⟨(plc V p (i + 1), W1), ?_, rfl, hK.trans w2⟩
            rw [plc, ← hI]
            unfold plcS
            simp only [ml hP, Option.bind_some, m_isGroup' hP hRW hi, ht, if_true, if_neg i10, m_home hP hRW hp htp, un, if_neg hh', w1, if_neg hc', hc, not_true, decide_false, Bool.and_false, Bool.false_eq_true, if_false, bl, nI_1]
          · have hc' : a.2 < rbF V p i := Int32.not_le.mp hc
            refine ⟨(plc V p (i + 1), W2), ?_, rfl, (hK.trans w2).trans x2⟩
            rw [plc, ← hI]
            unfold plcS
            simp only [ml hP, Option.bind_some, m_isGroup' hP hRW hi, ht, if_true, if_neg i10, m_home hP hRW hp htp, un, if_neg hh', w1, x1, if_pos hc', hc, hh, ne_eq, not_false_eq_true, decide_true, Bool.and_true, bl, nI_1])
    (fun a hI => by
      show F_X10_place_L23 756 (nI p) a.1.1 a.1.2 (nI 12) (P a.2) = _
      unfold F_X10_place_L23
      rw [h12I, if_pos (nI_le (Nat.le_refl _) (by decide))])
    12 0 6000 ((-1, -1), U) (by omega) (by omega) ⟨rfl, KeepT.refl U⟩
  refine ⟨a.2, ?_, hK⟩
  rw [← hI]; exact ha
theorem T_place (p : Int32) : TR (fun h => F_X9_place h 0 p) (fun h => F_X10_place h 756 p) := rdr fun V n o s hW => by
  rcases p_cs V p with hf | ⟨k, hk, rfl, ht⟩
  · refine ⟨-2, fun P hX => ?_, fun P U hP hR => ⟨thr U, ?_, thr_same U⟩⟩
    · unfold F_X9_place
      simp only [hX.2.2.1, ol hX.1.lo, cl hX.1.lc, Option.bind_some, s_phas hX.1.lc, hf, Bool.false_eq_true, if_false, if_true]
    · unfold F_X10_place
      simp only [m_thr hP, ml hP, Option.bind_some, m_isProc hP (U := thr U) hR, hf, Bool.false_eq_true, if_false, if_true]
  · refine ⟨(plc V k 12).1, fun P hX => ?_, fun P U hP hR => ?_⟩
    · unfold F_X9_place
      simp only [hX.2.2.1, ol hX.1.lo, cl hX.1.lc, Option.bind_some, s_phas' hX.1.lc hk, ht, if_true, if_neg i10, c_place hX V hW hk ht]
    · obtain ⟨U', a1, a2⟩ := m_place hP (U := thr U) hR hW hk ht
      refine ⟨U', ?_, (thr_same U).trans a2.same⟩
      unfold F_X10_place
      simp only [m_thr hP, ml hP, Option.bind_some, m_isProc' hP (U := thr U) hR hk, ht, if_true, if_neg i10, a1, bl]
end READS4
