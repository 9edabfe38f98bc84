/-! calls on paper: units, pressed, would, stalled -/
variable {kt : Nat}
def KeepP (U U' : WV) : Prop := (∀ c, (c = 2 ∨ c = 4 ∨ (5 ≤ c ∧ c ≤ 8)) → U'.1 c = U.1 c) ∧ U'.1 0 8 = U.1 0 8 ∧ ∀ i, 559 ≤ i → U'.1 1 i = U.1 1 i
theorem Keep.toP {U U' : WV} (h : Keep U U') : KeepP U U' := ⟨fun c hc => h.1 c (by omega) (by omega), by rw [h.1 0 (by decide) (by decide)], h.2⟩
theorem KeepP.trans {U U' U'' : WV} (h : KeepP U U') (h' : KeepP U' U'') : KeepP U U'' := ⟨fun c hc => (h'.1 c hc).trans (h.1 c hc), h'.2.1.trans h.2.1, fun i hi => (h'.2.2 i hi).trans (h.2.2 i hi)⟩
theorem opn_1 (U : WV) : (cpyM U 1 0 4 0).1 1 = U.1 1 := cpy_c (by decide)
theorem paper_same {U U2 : WV} (hk : KeepP (cpyM U 1 0 4 0) U2) : MSame U (cpyM U2 4 0 1 0) := by
  have e3 : ∀ i, i < 559 → U2.1 4 i = U.1 1 i := fun i hi => by
    rw [hk.1 4 (by omega)]
    have := cpy_in (U := U) (c := 1) (x := 0) (d := 4) (y := 0) hi
    rw [Nat.zero_add] at this
    exact this
  refine ⟨fun c hc => ?_, ?_⟩
  · by_cases h1 : c = 1
    · subst h1
      funext i
      by_cases hi : i < 559
      · have := cpy_in (U := U2) (c := 4) (x := 0) (d := 1) (y := 0) hi
        rw [Nat.zero_add] at this
        rw [this]; exact e3 i hi
      · rw [cpy_out (by omega), hk.2.2 i (by omega), opn_1]
    · rw [cpy_c h1, hk.1 c (by omega), cpy_c (by omega)]
  · rw [cpy_c (by decide), hk.2.1, cpy_c (by decide)]
section PAPER
variable {im : Nat → Option Nat} {N : Nat} {G : WV}
theorem w58 (N : Nat) : isW N 58 := Or.inr (Or.inl rfl)
theorem w1 (N : Nat) : isW N 1 := Or.inl rfl
theorem c_paper (hN : 775 ≤ N) (G : WV) : ∃ A, F_X8_copyFrom (PG im N G) 58 1 = some (P2 im N 58 G A (get 745 G)) ∧ AgW (get 1 G) A := by
  obtain ⟨A, a1, a2⟩ := c_copyG (im := im) (w58 N) (w1 N) (by decide) hN G
  refine ⟨A, ?_, a2⟩
  unfold P2
  rw [put_get]; exact a1
theorem irc_p2 (V Q : WV) : IrC G (put 58 57 V (put 745 11 Q G)) := (irc_tools Q).trans (irc_paper V)
theorem co58 (hN : 775 ≤ N) (G : WV) {α : Type} (x : Option α) : cO (PG im N G) 58 8 x = x := by
  have := (lw_at (im := im) (w58 N) hN G).co (V := get 58 G) (x := x) (o := 0) (t := 8) (by decide) (by decide) rfl
  rw [put_get] at this
  exact this
/-- the class's own object where a World and the tools are looked at -/
theorem g2 (hN : 775 ≤ N) (w : Nat) (G : WV) :
    (∀ (V Q : WV) {α : Type} (x : Option α), cO (P2 im N w G V Q) 0 9 x = x) ∧
    (∀ V Q : WV, gR (P2 im N w G V Q) 0 9 0 = some 1) ∧
    (∀ V Q : WV, gR (P2 im N w G V Q) 0 9 1 = some 58) ∧
    (∀ V Q : WV, gR (P2 im N w G V Q) 0 9 4 = some 745) ∧
    (∀ V Q : WV, gR (P2 im N w G V Q) 0 9 5 = some 752) ∧
    (∀ V Q : WV, gR (P2 im N w G V Q) 0 9 6 = some 753) ∧
    (∀ (V Q : WV) {α : Type} (x : Option α), cO (P2 im N w G V Q) 745 5 x = x) ∧
    (∀ (V Q : WV) {α : Type} (x : Option α), cO (P2 im N w G V Q) 752 3 x = x) ∧
    (∀ (V Q : WV) {α : Type} (x : Option α), cO (P2 im N w G V Q) 753 2 x = x) ∧
    (∀ V Q : WV, gR (P2 im N w G V Q) 753 2 0 = some 754) :=
  ⟨fun V Q α x => (gl hN).1 _ x, fun V Q => (gl hN).2.1 _, fun V Q => (gl hN).2.2.1 _, fun V Q => (gl hN).2.2.2.2.2.1 _, fun V Q => (gl hN).2.2.2.2.2.2.1 _, fun V Q => (gl hN).2.2.2.2.2.2.2.1 _, fun V Q α x => (gl hN).2.2.2.2.2.2.2.2.2.1 _ x, fun V Q α x => (gl hN).2.2.2.2.2.2.2.2.2.2.1 _ x, fun V Q α x => (gl hN).2.2.2.2.2.2.2.2.2.2.2.1 _ x, fun V Q => by
    have := (pg_lens im N).getr (V := put w 57 V (put 745 11 Q G)) (o := 753) (t := 2) (k := 0) (z := 754) (Nat.zero_le _) (by omega) rfl rfl
    rw [Nat.zero_add, Nat.zero_add] at this
    exact this⟩
theorem T_units (g v : Int32) : TH (fun h => F_X9_units h 0 g v) (fun h => F_X10_units h 756 g v) := rdh fun im N G z e n o s hG hW => by
  have hN := hG.n
  have hO := hW.ti.1.1
  have hH := hW.ti.1.2.1
  have hL := hW.ti.2.2.1
  have hL2 := l2_at (im := im) (w1 N) hN G
  obtain ⟨A, Gt, a1, a2, a3⟩ := c_plan2 (V := get 1 G) (Q := get 745 G) hL2 hO hH hL hW.td hW.cap
  rw [← p2_get, p2_tools] at a1
  have a1' : F_X2_plan (PG im N G) 753 1 = some (PG im N (put 745 11 (sx (sx (get 745 G) 10 A) 9 Gt) G)) := a1
  have rq : ∀ i, i < 28 → aI (PG im N (put 745 11 (sx (sx (get 745 G) 10 A) 9 Gt) G)) 754 (nI i) = some (Gt i) := fun i hi => (lq_at hN G).ldi (V := sx (sx (get 745 G) 10 A) 9 Gt) (o := 9) (by decide) (by decide) rfl (by decide) hi
  have rr : gR (PG im N (put 745 11 (sx (sx (get 745 G) 10 A) 9 Gt) G)) 753 2 0 = some 754 := (lq_at hN G).getr (V := sx (sx (get 745 G) 10 A) 9 Gt) (o := 8) (z := 9) (by decide) (by decide) rfl rfl
  have mU : ∀ (P : WV → Hp) (U : WV), LM 756 P → Rel (get 1 G) (U.1 1) → ∃ U', F_X10_opensPaper (P (thr U)) 756 = some (P (cpyM (thr U) 1 0 4 0)) ∧ F_X10_laysUnits (P (cpyM (thr U) 1 0 4 0)) 756 = some (P U') ∧ F_X10_closesPaper (P U') 756 = some (P (cpyM U' 4 0 1 0)) ∧ MSame U (cpyM U' 4 0 1 0) ∧ ∀ y, y < 28 → (cpyM U' 4 0 1 0).1 17 y = Gt y := fun P U hP hR => by
    obtain ⟨U', b1, b2, -, b4⟩ := m_units hP hO hH hL (U := cpyM (thr U) 1 0 4 0) (by rw [opn_1]; exact hR) a2 a3
    exact ⟨U', m_opens hP _, b1, m_closes hP _, (thr_same U).trans (paper_same b2.toP), fun y hy => by rw [cpy_c (by decide)]; exact b4 y hy⟩
  by_cases v0 : v = 0
  · subst v0
    rcases g_cs (get 1 G) g with hf | ⟨k, hk, rfl, ht⟩
    · refine ⟨-2, ⟨G, ?_, IrC.refl G⟩, fun P U hP _ hR => ⟨thr U, ?_, thr_same U⟩⟩
      · unfold F_X9_units
        simp (config := {decide := true}) only [gl hN, gv hN, g_has hN, hf, Bool.false_eq_true, if_false, if_true, Option.bind_some, bl]
      · unfold F_X10_units
        simp only [m_thr hP, ml hP, Option.bind_some, m_isGroup hP (U := thr U) hR, hf, Bool.false_eq_true, if_false, if_true, bl]
    · have hk28 : k < 28 := by omega
      refine ⟨Gt k, ⟨put 745 11 (sx (sx (get 745 G) 10 A) 9 Gt) G, ?_, irc_tools _⟩, fun P U hP _ hR => ?_⟩
      · unfold F_X9_units
        simp (config := {decide := true}) only [gl hN, gv hN, g_has' hN G hk, ht, if_false, if_true, Option.bind_some, bl, a1', rr, rq k hk28]
      · obtain ⟨U', b1, b2, b3, b4, b5⟩ := mU P U hP hR
        refine ⟨_, ?_, b4⟩
        unfold F_X10_units
        simp only [m_thr hP, ml hP, Option.bind_some, m_isGroup' hP (U := thr U) hR hk, ht, if_true, if_neg i10, bl, b1, b2, b3, hk28, b5 k hk28]
  · by_cases v1 : v = 1
    · subst v1
      rcases p_cs (get 1 G) g with hf | ⟨k, hk, rfl, ht⟩
      · refine ⟨-2, ⟨G, ?_, IrC.refl G⟩, fun P U hP _ hR => ⟨thr U, ?_, thr_same U⟩⟩
        · unfold F_X9_units
          simp (config := {decide := true}) only [gl hN, gv hN, g_phas hN, hf, Bool.false_eq_true, if_false, if_true, Option.bind_some, bl]
        · unfold F_X10_units
          simp (config := {decide := true}) only [m_thr hP, ml hP, Option.bind_some, m_isProc hP (U := thr U) hR, hf, Bool.false_eq_true, if_false, if_true, bl]
      · have hk28 : 12 + k < 28 := by omega
        refine ⟨Gt (12 + k), ⟨put 745 11 (sx (sx (get 745 G) 10 A) 9 Gt) G, ?_, irc_tools _⟩, fun P U hP _ hR => ?_⟩
        · unfold F_X9_units
          simp (config := {decide := true}) only [gl hN, gv hN, g_phas' hN G hk, ht, if_false, if_true, Option.bind_some, bl, a1', rr, n12, rq (12 + k) hk28]
        · obtain ⟨U', b1, b2, b3, b4, b5⟩ := mU P U hP hR
          refine ⟨_, ?_, b4⟩
          unfold F_X10_units
          simp (config := {decide := true}) only [m_thr hP, ml hP, Option.bind_some, m_isProc' hP (U := thr U) hR hk, ht, if_false, if_true, if_neg i10, bl, b1, b2, b3, n12, hk28, b5 (12 + k) hk28]
    · refine ⟨-2, ⟨G, ?_, IrC.refl G⟩, fun P U hP _ hR => ⟨thr U, ?_, thr_same U⟩⟩
      · unfold F_X9_units
        simp only [if_neg v0, if_neg v1, if_true, Option.bind_some, bl]
      · unfold F_X10_units
        simp only [m_thr hP, Option.bind_some, if_neg v0, if_neg v1, bl]
theorem T_pressed (g : Int32) : TH (fun h => F_X9_pressed h 0 g) (fun h => F_X10_pressed h 756 g) := rdh fun im N G z e n o s hG hW => by
  have hN := hG.n
  rcases g_cs (get 1 G) g with hf | ⟨k, hk, rfl, ht⟩
  · refine ⟨-2, ⟨G, ?_, IrC.refl G⟩, fun P U hP _ hR => ⟨thr U, ?_, thr_same U⟩⟩
    · unfold F_X9_pressed
      simp only [gl hN, gv hN, g_has hN, hf, Bool.false_eq_true, if_false, if_true, Option.bind_some]
    · unfold F_X10_pressed
      simp only [m_thr hP, ml hP, Option.bind_some, m_isGroup hP (U := thr U) hR, hf, Bool.false_eq_true, if_false, if_true]
  · obtain ⟨A, p1, p2⟩ := c_paper (im := im) hN G
    have hWA := p2.wok hW
    have htA : thV A k = true := by rw [p2.th hk]; exact ht
    have hL2 := l2_at (im := im) (w58 N) hN G
    have h999 : (999 : Int32).toInt ≤ 999 := by decide
    obtain ⟨V', t', Q', a1, a2, a3, a4, -⟩ := c_take hL2 hWA.ti hk htA h999 (get 745 G)
    have r15 : aI (P2 im N 58 G V' Q') (58 + 15) (nI k) = some (V'.1 15 k) := (hL2.1 Q').ldi (V := V') (o := 15) (by decide) (by decide) rfl (by decide) hk
    refine ⟨V'.1 15 k, ⟨put 58 57 V' (put 745 11 Q' G), ?_, irc_p2 V' Q'⟩, fun P U hP _ hR => ?_⟩
    · show F_X9_pressed (PG im N G) 0 (nI k) = some (V'.1 15 k, P2 im N 58 G V' Q')
      unfold F_X9_pressed
      simp only [gl hN, gv hN, g_has' hN G hk, ht, if_true, if_neg i10, Option.bind_some, co58 hN, p1, g2 hN 58 G, a1, un, ol (hL2.1 Q').lo, tl (hL2.1 Q').lt, r15]
    · have hRA : Rel A ((cpyM (thr U) 1 0 4 0).1 1) := by rw [opn_1]; exact p2.rel hR
      obtain ⟨U2, b1, b2, b3⟩ := m_takes hP hRA hWA.ti hk htA h999 (by decide) a2
      have htV : thV V' k = true := by rw [a4.th]; exact htA
      obtain ⟨U3, d1, d2, -⟩ := m_totalOf hP b3 a3.1 hk htV
      refine ⟨_, ?_, (thr_same U).trans (paper_same (b2.toP.trans d2.keep.toP))⟩
      unfold F_X10_pressed
      simp only [m_thr hP, ml hP, Option.bind_some, m_isGroup' hP (U := thr U) hR hk, ht, if_true, if_neg i10, m_opens hP, b1, un, d1, m_closes hP]
end PAPER
