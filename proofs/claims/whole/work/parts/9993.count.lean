/-! count -/
variable {kt : Nat}
section COUNT
variable {V U : WV} {n s : Nat} {o : Nat → Nat} {P : WV → Hp}
theorem m_allOf (hP : LM 756 P) (hR : Rel V (U.1 1)) (z : Int32) (f : Nat → Int32) (hf : ∀ g, g < 12 → thV V g = true → (if z = 0 then (F_X10_of (P U) 756 (nI g) 10 0).bind (un fun v11 h12 => some ((v11 : Int32), h12)) else (F_X10_pagesIn (P U) 756 (nI g) z).bind (un fun v9 h10 => some ((v9 : Int32), h10))) = some (f g, P U)) : F_X10_allOf (P U) 756 z = some (smI (List.range 12) (fun g => if thV V g then f g else 0), P U) := by
  obtain ⟨a, ha, hI⟩ := loop_inv (st := fun x => F_X10_allOf_L4 756 z x.1 x.2.1 x.2.2) (fun i (a : Int32) => (a, nI i, P U)) (fun a => (a, P U)) (fun i a => a = smI (List.range i) (fun g => if thV V g then f g else 0)) 12
    (fun i a hi hI => by
      refine ⟨a + (if thV V i then f i else 0), ?_, by rw [smI_succ, ← hI]⟩
      show F_X10_allOf_L4 756 z a (nI i) (P U) = _
      unfold F_X10_allOf_L4
      rw [h12I, if_neg (nI_ge hi (by decide))]
      cases ht : thV V i
      · simp only [ml hP, Option.bind_some, m_isGroup' hP hR hi, ht, Bool.false_eq_true, if_false, if_true, bl, nI_1]
      · have := hf i hi ht
        simp only [ml hP, Option.bind_some, m_isGroup' hP hR hi, ht, if_true, if_neg i10, this, bl, nI_1])
    (fun a hI => by
      show F_X10_allOf_L4 756 z a (nI 12) (P U) = _
      unfold F_X10_allOf_L4
      rw [h12I, if_pos (nI_le (Nat.le_refl _) (by decide))])
    12 0 6000 0 (by omega) (by omega) rfl
  have ha' : loopF (fun x => F_X10_allOf_L4 756 z x.1 x.2.1 x.2.2) 6000 (0, 0, P U) = some (a, P U) := ha
  unfold F_X10_allOf
  rw [ha', hI]; rfl
/-- each process is in one group -/
theorem all_pages (hH : HomOK V) {x : Nat → Int32} (h0 : ∀ p, p < 16 → phV V p = false → x p = 0) : ∀ m, m ≤ 16 → smI (List.range 12) (fun g => if thV V g then smI (List.range m) (fun p => if V.1 24 p = nI g then x p else 0) else 0) = smI (List.range m) x
  | 0, _ => by
    refine (smI_cong (g := fun _ => 0) fun g _ => ?_).trans (smI_zero _)
    exact ite_self _
  | m + 1, hm => by
    have ih := all_pages hH h0 m (by omega)
    rw [smI_succ x m, ← ih]
    have e : smI (List.range 12) (fun g => if thV V g then smI (List.range (m + 1)) (fun p => if V.1 24 p = nI g then x p else 0) else 0) = smI (List.range 12) (fun g => (if thV V g then smI (List.range m) (fun p => if V.1 24 p = nI g then x p else 0) else 0) + (if thV V g && decide (V.1 24 m = nI g) then x m else 0)) := smI_cong fun g _ => by
      cases thV V g
      · rw [Bool.false_and, if_neg (by decide), if_neg (by decide), if_neg (by decide), Int32.add_zero]
      · rw [Bool.true_and, if_pos rfl, if_pos rfl, smI_succ]
        by_cases h : V.1 24 m = nI g
        · rw [if_pos h, decide_eq_true h, if_pos rfl]
        · rw [if_neg h, decide_eq_false h, if_neg (by decide)]
    rw [e, smI_add]
    have e2 : smI (List.range 12) (fun g => if thV V g && decide (V.1 24 m = nI g) then x m else 0) = x m := by
      cases ht : phV V m
      · rw [h0 m (by omega) ht]
        refine (smI_cong (g := fun _ => 0) fun g _ => ?_).trans (smI_zero _)
        exact ite_self _
      · obtain ⟨h1, h2, h3⟩ := hH.at (show m < 16 by omega) ht
        have : smI (List.range 12) (fun g => if thV V g && decide (V.1 24 m = nI g) then x m else 0) = smI (List.range 12) (fun g => if g = hom V m then x m else 0) := smI_cong fun g hg => by
          have hg := List.mem_range.mp hg
          by_cases e : g = hom V m
          · rw [if_pos e, e, h2, ← h3, decide_eq_true rfl]; rfl
          · have hne : ¬ V.1 24 m = nI g := fun z => e ((nI_eq (by omega) (by omega)).mp (z.symm.trans h3))
            rw [if_neg e, decide_eq_false hne, Bool.and_false, if_neg (by decide)]
        rw [this, smI_one List.nodup_range, if_pos (List.mem_range.mpr h1)]
    rw [e2]
theorem cnt_pg (hW : WOK kt V n o s) {k : Nat} (hk : k < 2) : smI (List.range 12) (fun g => if thV V g then pgIn V (nI g) k else 0) = pgAll V k := by
  refine all_pages hW.ti.1.2.1 (x := fun p => V.1 (27 + k) p) (fun p hp ht => ?_) 16 (Nat.le_refl _)
  have := hW.dd p hp ht
  have h : k = 0 ∨ k = 1 := by omega
  rcases h with rfl | rfl
  · exact this.1
  · exact this.2.1
theorem cnt_tot (hW : WOK kt V n o s) : V.1 15 0 - pgAll V 0 - pgAll V 1 = smI (List.range 12) (fun g => if thV V g then V.1 14 g else 0) := by
  have hO := hW.ti.1.1
  have hT := hO.tree
  have ht0 : thV V 0 = true := by have := hO.th (i := 0) (by have := hO.1; omega); rw [hO.2.2.2.1] at this; exact this
  rw [hW.ti.1.2.2.1 0 (by decide) ht0]
  unfold totF
  have e1 : smI (List.range 12) (fun g => if thV V g && blw (pfV V) 0 g then V.1 14 g else 0) = smI (List.range 12) (fun g => if thV V g then V.1 14 g else 0) := smI_cong fun g hg => by
    cases ht : thV V g
    · rw [Bool.false_and]
    · rw [blw_root hT (List.mem_range.mp hg) ht, Bool.and_true]
  have e2 : smI (List.range 16) (fun p => if decide (V.1 24 p ≠ -1) && blw (pfV V) 0 (V.1 24 p).toNatClampNeg then V.1 27 p + V.1 28 p else 0) = pgAll V 0 + pgAll V 1 := by
    unfold pgAll
    rw [← smI_add]
    refine smI_cong fun p hp => ?_
    have hp := List.mem_range.mp hp
    cases ht : phV V p
    · have : decide (V.1 24 p ≠ -1) = false := ht
      obtain ⟨d1, d2, -⟩ := hW.dd p hp ht
      rw [this, Bool.false_and, if_neg (by decide), Nat.add_zero, d1, d2]; rfl
    · have h2 : decide (V.1 24 p ≠ -1) = true := ht
      obtain ⟨h1, h3, -⟩ := hW.ti.1.2.1.at hp ht
      have h4 : blw (pfV V) 0 (V.1 24 p).toNatClampNeg = true := blw_root hT h1 h3
      rw [h2, h4, Nat.add_zero]; rfl
  rw [e1, e2]
  generalize smI (List.range 12) (fun g => if thV V g then V.1 14 g else 0) = S
  generalize pgAll V 0 = A
  generalize pgAll V 1 = B
  rw [← Int32.add_assoc, Int32.sub_eq_add_neg, Int32.sub_eq_add_neg, i32_acd (S + A) B (-A), Int32.add_assoc S A (-A), Int32.add_right_neg, Int32.add_zero, Int32.add_assoc S B (-B), Int32.add_right_neg, Int32.add_zero]
theorem T_count (v : Int32) : TR (fun h => F_X9_count h 0 v) (fun h => F_X10_count h 756 v) := by
  by_cases v6 : v = 6
  · subst v6
    intro kt im N G z e hG
    have hN := hG.n
    obtain ⟨g1, g2, g3, g4, g5, g6, -⟩ := id hG
    refine ⟨nI z, put 756 19 (thr (get 756 G)) G, ?_, ?_, hG.irr (irr_model (thr_same _))⟩
    · unfold F_X9_count
      simp (config := {decide := true}) only [if_false, if_true, gl hN, Option.bind_some, g4]
    · have hP := lm_at (im := im) hN G
      have e : PG im N G = (fun U => PG im N (put 756 19 U G)) (get 756 G) := by dsimp only; rw [put_get]
      have e8 : (thr (get 756 G)).1 0 8 = nI z := (thr_same (get 756 G)).2.trans g6
      show F_X10_count (PG im N G) 756 6 = _
      rw [e]
      unfold F_X10_count
      rw [m_thr hP]
      simp (config := {decide := true}) only [if_false, if_true, ml hP, Option.bind_some, e8]
  · refine rdr fun V n o s hW => ?_
    have hC := hW.ti.1
    have hO := hC.1
    have hT := hO.tree
    have hH := hC.2.1
    have ht0 : thV V 0 = true := by have := hO.th (i := 0) (by have := hO.1; omega); rw [hO.2.2.2.1] at this; exact this
    have a15 : ∀ {P : WV → Hp}, LX P → aI (P V) (1 + 15) 0 = some (V.1 15 0) := fun hX => hX.1.ldi (V := V) (o := 15) (i := 0) (by decide) (by decide) rfl (by decide) (by decide)
    have a16 : ∀ {P : WV → Hp}, LX P → aI (P V) (1 + 16) 0 = some (V.1 16 0) := fun hX => hX.1.ldi (V := V) (o := 16) (i := 0) (by decide) (by decide) rfl (by decide) (by decide)
    have p0 : ∀ {P : WV → Hp}, LX P → F_X0_allPages (P V) (1 + 23) 0 = some (pgAll V 0) := fun hX => s_allPages hX.1.lc (k := 0) (by decide)
    have p1 : ∀ {P : WV → Hp}, LX P → F_X0_allPages (P V) (1 + 23) 1 = some (pgAll V 1) := fun hX => s_allPages hX.1.lc (k := 1) (by decide)
    by_cases v0 : v = 0
    · subst v0
      refine ⟨mkB 12 (thV V), fun P hX => ?_, fun P U hP hR => ⟨thr U, ?_, thr_same U⟩⟩
      · have e : F_X6_bitsBelow (P V) (1 + 1) 0 = some (mkB 12 (fun g => thV V g && blw (pfV V) 0 g)) := s_bits hX.1.lt hO (r := 0) (by decide) ht0
        have e2 : mkB 12 (fun g => thV V g && blw (pfV V) 0 g) = mkB 12 (thV V) := mkB_cong (by decide) fun g hg => by
          cases ht : thV V g
          · rw [Bool.false_and]
          · rw [blw_root hT hg ht, Bool.and_true]
        unfold F_X9_count
        simp only [if_true, hX.2.2.1, ol hX.1.lo, tl hX.1.lt, Option.bind_some, e, e2]
      · unfold F_X10_count
        simp only [if_true, m_thr hP, ml hP, ml0 hP, Option.bind_some, thr_1, hR.1.1]
    by_cases v1 : v = 1
    · subst v1
      refine ⟨mkB 16 (phV V), fun P hX => ?_, fun P U hP hR => ⟨thr U, ?_, thr_same U⟩⟩
      · have e : F_X8_bitsOfProcesses (P V) 1 0 = some (mkB 16 (prB V 0)) := s_bitsP hX.1 hO hH (r := 0) (by decide) ht0
        have e2 : mkB 16 (prB V 0) = mkB 16 (phV V) := mkB_cong (by decide) fun p hp => by
          unfold prB
          cases ht : phV V p
          · rw [Bool.false_and]
          · obtain ⟨h1, h2, -⟩ := hH.at hp ht
            rw [blw_root hT h1 h2, Bool.and_true]
        unfold F_X9_count
        simp (config := {decide := true}) only [if_false, if_true, hX.2.2.1, ol hX.1.lo, Option.bind_some, e, e2]
      · unfold F_X10_count
        simp (config := {decide := true}) only [if_false, if_true, m_thr hP, ml hP, ml0 hP, Option.bind_some, thr_1, hR.1.2.1]
    by_cases v2 : v = 2
    · subst v2
      refine ⟨V.1 0 7, fun P hX => ?_, fun P U hP hR => ⟨thr U, ?_, thr_same U⟩⟩
      · unfold F_X9_count
        simp (config := {decide := true}) only [if_false, if_true, hX.2.2.1, ol hX.1.lo, Option.bind_some]
      · unfold F_X10_count
        simp (config := {decide := true}) only [if_false, if_true, m_thr hP, ml hP, ml0 hP, Option.bind_some, thr_1, hR.1.2.2.1]
    by_cases v3 : v = 3
    · subst v3
      refine ⟨V.1 15 0, fun P hX => ?_, fun P U hP hR => ?_⟩
      · unfold F_X9_count
        simp (config := {decide := true}) only [if_false, if_true, hX.2.2.1, ol hX.1.lo, tl hX.1.lt, Option.bind_some, a15 hX]
      · obtain ⟨U', b1, b2, -⟩ := m_totalOf hP (U := thr U) hR hC (g := 0) (by decide) ht0
        have b1' : F_X10_totalOf (P (thr U)) 756 0 = some (V.1 15 0, P U') := b1
        refine ⟨U', ?_, (thr_same U).trans b2.same⟩
        unfold F_X10_count
        simp (config := {decide := true}) only [if_false, if_true, m_thr hP, ml hP, Option.bind_some, b1', un]
    by_cases v4 : v = 4
    · subst v4
      refine ⟨V.1 0 4, fun P hX => ?_, fun P U hP hR => ⟨thr U, ?_, thr_same U⟩⟩
      · unfold F_X9_count
        simp (config := {decide := true}) only [if_false, if_true, hX.2.2.1, ol hX.1.lo, Option.bind_some]
      · unfold F_X10_count
        simp (config := {decide := true}) only [if_false, if_true, m_thr hP, ml hP, ml0 hP, Option.bind_some, thr_1, hR.1.2.2.2.1]
    by_cases v5 : v = 5
    · subst v5
      refine ⟨V.1 52 4, fun P hX => ?_, fun P U hP hR => ⟨thr U, ?_, thr_same U⟩⟩
      · unfold F_X9_count
        simp (config := {decide := true}) only [if_false, if_true, hX.2.2.1, ol hX.1.lo, tr hX.1.lr, Option.bind_some]
      · unfold F_X10_count
        simp (config := {decide := true}) only [if_false, if_true, m_thr hP, ml hP, ml0 hP, Option.bind_some, thr_1, hR.1.2.2.2.2.1]
    by_cases v7 : v = 7
    · subst v7
      refine ⟨pgAll V 0, fun P hX => ?_, fun P U hP hR => ⟨thr U, ?_, thr_same U⟩⟩
      · unfold F_X9_count
        simp (config := {decide := true}) only [if_false, if_true, hX.2.2.1, ol hX.1.lo, cl hX.1.lc, Option.bind_some, p0 hX]
      · have e := m_allOf hP (U := thr U) hR 2 (fun g => pgIn V (nI g) 0) (fun g hg ht => by
          have e : F_X10_pagesIn (P (thr U)) 756 (nI g) 2 = some (pgIn V (nI g) 0, P (thr U)) := m_pagesIn hP (U := thr U) hR hg (k := 0) (by decide)
          rw [if_neg (by decide), e]; rfl)
        rw [cnt_pg hW (by decide)] at e
        unfold F_X10_count
        simp (config := {decide := true}) only [if_false, if_true, m_thr hP, ml hP, Option.bind_some, e, un]
    by_cases v8 : v = 8
    · subst v8
      refine ⟨pgAll V 1, fun P hX => ?_, fun P U hP hR => ⟨thr U, ?_, thr_same U⟩⟩
      · unfold F_X9_count
        simp (config := {decide := true}) only [if_false, if_true, hX.2.2.1, ol hX.1.lo, cl hX.1.lc, Option.bind_some, p1 hX]
      · have e := m_allOf hP (U := thr U) hR 3 (fun g => pgIn V (nI g) 1) (fun g hg ht => by
          have e : F_X10_pagesIn (P (thr U)) 756 (nI g) 3 = some (pgIn V (nI g) 1, P (thr U)) := m_pagesIn hP (U := thr U) hR hg (k := 1) (by decide)
          rw [if_neg (by decide), e]; rfl)
        rw [cnt_pg hW (by decide)] at e
        unfold F_X10_count
        simp (config := {decide := true}) only [if_false, if_true, m_thr hP, ml hP, Option.bind_some, e, un]
    by_cases v9 : v = 9
    · subst v9
      refine ⟨V.1 15 0 - pgAll V 0 - pgAll V 1, fun P hX => ?_, fun P U hP hR => ⟨thr U, ?_, thr_same U⟩⟩
      · unfold F_X9_count
        simp (config := {decide := true}) only [if_false, if_true, hX.2.2.1, ol hX.1.lo, tl hX.1.lt, cl hX.1.lc, Option.bind_some, a15 hX, p0 hX, p1 hX]
      · have e := m_allOf hP (U := thr U) hR 0 (fun g => V.1 14 g) (fun g hg ht => by
          have e : F_X10_of (P (thr U)) 756 (nI g) 10 0 = some (V.1 14 g, P (thr U)) := m_of hP (U := thr U) hR hg ht (f := 10) (by decide) (by decide)
          rw [if_pos rfl, e]; rfl)
        rw [← cnt_tot hW] at e
        unfold F_X10_count
        simp (config := {decide := true}) only [if_false, if_true, m_thr hP, ml hP, Option.bind_some, e, un]
    by_cases v10 : v = 10
    · subst v10
      refine ⟨V.1 0 5, fun P hX => ?_, fun P U hP hR => ⟨thr U, ?_, thr_same U⟩⟩
      · unfold F_X9_count
        simp (config := {decide := true}) only [if_false, if_true, hX.2.2.1, ol hX.1.lo, Option.bind_some]
      · unfold F_X10_count
        simp (config := {decide := true}) only [if_false, if_true, m_thr hP, ml hP, ml0 hP, Option.bind_some, thr_1, hR.1.2.2.2.2.2.1]
    by_cases v11 : v = 11
    · subst v11
      refine ⟨V.1 16 0, fun P hX => ?_, fun P U hP hR => ?_⟩
      · unfold F_X9_count
        simp (config := {decide := true}) only [if_false, if_true, hX.2.2.1, ol hX.1.lo, tl hX.1.lt, Option.bind_some, a16 hX]
      · obtain ⟨U', b1, b2, -⟩ := m_outOf hP (U := thr U) hR hC (g := 0) (by decide) ht0
        have b1' : F_X10_outOf (P (thr U)) 756 0 = some (V.1 16 0, P U') := b1
        refine ⟨U', ?_, (thr_same U).trans b2.same⟩
        unfold F_X10_count
        simp (config := {decide := true}) only [if_false, if_true, m_thr hP, ml hP, Option.bind_some, b1', un]
    by_cases v12 : v = 12
    · subst v12
      refine ⟨V.1 0 6, fun P hX => ?_, fun P U hP hR => ⟨thr U, ?_, thr_same U⟩⟩
      · unfold F_X9_count
        simp (config := {decide := true}) only [if_false, if_true, hX.2.2.1, ol hX.1.lo, Option.bind_some]
      · unfold F_X10_count
        simp (config := {decide := true}) only [if_false, if_true, m_thr hP, ml hP, ml0 hP, Option.bind_some, thr_1, hR.1.2.2.2.2.2.2]
    refine ⟨-1, fun P hX => ?_, fun P U hP hR => ⟨thr U, ?_, thr_same U⟩⟩
    · unfold F_X9_count
      simp only [if_neg v0, if_neg v1, if_neg v2, if_neg v3, if_neg v4, if_neg v5, if_neg v6, if_neg v7, if_neg v8, if_neg v9, if_neg v10, if_neg v11, if_neg v12]
    · unfold F_X10_count
      simp only [m_thr hP, Option.bind_some, if_neg v0, if_neg v1, if_neg v2, if_neg v3, if_neg v4, if_neg v5, if_neg v6, if_neg v7, if_neg v8, if_neg v9, if_neg v10, if_neg v11, if_neg v12]
end COUNT
