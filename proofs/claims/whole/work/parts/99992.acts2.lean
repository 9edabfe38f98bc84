/-! calls that act: swap, forget, trigger, work, kill, take, drain -/
variable {kt : Nat}
section ACTS2
variable {V : WV} {n s : Nat} {o : Nat → Nat} {M : Nat → Int32}
theorem ti_nn {x : Int32} (h : 0 ≤ x.toInt) : 0 ≤ x := by rw [ti_le, ti_0]; exact h
theorem T_swap (b : Int32) : TH (fun h => F_X9_swap h 0 b) (fun h => F_X10_swap h 756 b) := act fun im N G z e n o s hG hW => by
  have hN := hG.n
  have c1 : (0 : Int64).toInt = 0 := rfl
  have c8 : (999 : Int64).toInt = 999 := rfl
  have d1 : (0 : Int32).toInt = 0 := rfl
  have d8 : (999 : Int32).toInt = 999 := rfl
  have hC := hW.ti.1
  have hO := hC.1
  have ht0 : thV (get 1 G) 0 = true := by have := hO.th (i := 0) (by have := hO.1; omega); rw [hO.2.2.2.1] at this; exact this
  have r1 : gR (PG im N G) 2 6 6 = some 17 := at_lv (F := fun h => gR h 2 6 6) hN G fun P hX => (tl hX.1.lt).2.2.2.2.2.2.1 _
  have r2 : aI (PG im N G) 17 0 = some ((get 1 G).1 16 0) := at_lv (F := fun h => aI h 17 0) hN G fun P hX => hX.1.ldi (V := get 1 G) (o := 16) (i := 0) (by decide) (by decide) rfl (by decide) (by decide)
  by_cases hv : 0 ≤ b.toInt ∧ b.toInt ≤ 999
  · by_cases ho : (get 1 G).1 16 0 ≤ b
    · right
      obtain ⟨G1, V1, Q1, t1, t2, t3⟩ := c_try hG
      have hL2 := l2_at (im := im) (w1 N) hN G1
      have hW1 := t1.wok hW
      have hsw := (swap_out hW1.ti.1 hW1.ti.2.1 hW1.ti.2.2.2)
      have h4 : (fldV V1 5 b).1 0 4 = V1.1 0 4 := fld_n (by decide)
      have h5 : (fldV V1 5 b).1 0 5 = b := fld_s
      have h6 : (fldV V1 5 b).1 0 6 = V1.1 0 6 := fld_n (by decide)
      have hsb : swpI V1 ≤ b.toInt := by
        rw [← hsw.1, t1.t 16 (by omega) 0 (by decide)]
        rw [ti_le] at ho
        exact ho
      have hW' : WOK _ (fldV V1 5 b) n o s := wok_fld hW1 5 b (by rw [h4]; exact hW1.bt) (by rw [h5]; exact ⟨hsb, hv.2⟩) (by rw [h6]; exact hW1.cap) (by decide)
      obtain ⟨G3, s1, s2⟩ := t3 (fldV V1 5 b) Q1 (V1.1 0 5)
      have hp : 0 ≤ V1.1 0 5 := ti_nn (by have := hW1.ti.2.2.2; have h1 := this.1; have := hsw.2; omega)
      rw [if_pos hp] at s2
      refine ⟨V1.1 0 5, fldV V1 5 b, G3, ?_, by rw [if_pos hp]; exact ⟨s2, n, o, s, hW'.mono (by omega)⟩, fun P U hP _ hR h8 => ?_⟩
      · unfold F_X9_swap
        simp only [o_out, d1, d8, if_pos hv, if_true, Option.bind_some, gl hN, gv hN, r1, r2, if_pos ho, t2, g2 hN 1 G1, ol (hL2.1 Q1).lo]
        rw [show sx V1 0 (upd (V1.1 0) 5 b) = fldV V1 5 b from rfl, s1]; rfl
      · obtain ⟨W, w1, w2, -⟩ := m_outOf hP (U := thr U) hR hC (g := 0) (by decide) ht0
        have w1' : F_X10_outOf (P (thr U)) 756 0 = some ((get 1 G).1 16 0, P W) := w1
        have hs := (thr_same U).trans w2.same
        have hR1 : Rel V1 ((bgn W).1 1) := by rw [bgn_1, hs.1 1 (by omega)]; exact t1.rel hR
        have e3 : (bgn W).1 1 5 = V1.1 0 5 := hR1.1.2.2.2.2.2.1
        obtain ⟨U3, m1, m2⟩ := m_told hP hs hG.2.1 h8 (Keep.up (bgn W) (k := 5) (by decide) b) (hR1.fld (k := 5) (j := 5) (by decide) b) (V1.1 0 5)
        refine ⟨U3, ?_, by rw [if_pos hp]; exact m2⟩
        unfold F_X10_swap
        simp only [m_thr hP, m_within, c1, c8, if_pos hv, if_neg i10, Option.bind_some, ml hP, ml0 hP, w1', if_pos ho, m_bgn hP, e3, m1, un]
    · left
      refine ⟨-4, ?_, fun P U hP _ hR => ?_⟩
      · unfold F_X9_swap
        simp only [o_out, d1, d8, if_pos hv, if_true, Option.bind_some, gl hN, gv hN, r1, r2, if_neg ho]
      · obtain ⟨W, w1, w2, -⟩ := m_outOf hP (U := thr U) hR hC (g := 0) (by decide) ht0
        have w1' : F_X10_outOf (P (thr U)) 756 0 = some ((get 1 G).1 16 0, P W) := w1
        refine ⟨W, ?_, (thr_same U).trans w2.same⟩
        unfold F_X10_swap
        simp only [m_thr hP, m_within, c1, c8, if_pos hv, if_neg i10, Option.bind_some, ml hP, w1', if_neg ho, un]
  · left
    refine ⟨-3, ?_, fun P U hP _ hR => ⟨thr U, ?_, thr_same U⟩⟩
    · unfold F_X9_swap
      simp only [o_out, d1, d8, if_neg hv, if_neg i10, Option.bind_some]
    · unfold F_X10_swap
      simp only [m_thr hP, m_within, c1, c8, if_neg hv, if_true, Option.bind_some]
/-- what only touches the triggers -/
theorem wok_trg {V' : WV} {s' : Nat} (hW : WOK kt V n o s) (hc : ∀ c, c < 52 → V'.1 c = V.1 c) (hT : TrgN V' s') : WOK kt V' n o s' := by
  have e0 := hc 0 (by decide)
  have e2 := hc 2 (by decide)
  have e24 := hc 24 (by decide)
  refine ⟨⟨⟨hW.ti.1.1.same (hc 1 (by decide)) e2 (hc 3 (by decide)), hW.ti.1.2.1.same e2 e24, hW.ti.1.2.2.1.same e2 (hc 14 (by decide)) (hc 15 (by decide)) e24 (hc 27 (by decide)) (hc 28 (by decide)), hW.ti.1.2.2.2.same e2 (hc 16 (by decide)) e24 (hc 29 (by decide))⟩, hW.ti.2.1.same e2 (hc 14 (by decide)) e24 (hc 27 (by decide)) (hc 28 (by decide)) (hc 29 (by decide)), ?_, hW.ti.2.2.2.same e0 e24 (hc 29 (by decide))⟩, ?_, ?_, hT, ?_, ?_, ?_, ?_, ?_⟩
  · have h := hW.ti.2.2.1
    unfold LimR at h ⊢
    rw [thV_same e2, hc 5 (by decide), hc 6 (by decide), hc 7 (by decide), hc 8 (by decide), hc 10 (by decide), hc 11 (by decide), hc 12 (by decide)]; exact h
  · have h := hW.mx
    unfold MaxOK at h ⊢
    rw [thV_same e2, hc 15 (by decide), hc 8 (by decide)]; exact h
  · have h := hW.dd
    unfold DedOK at h ⊢
    rw [phV_same e24, hc 27 (by decide), hc 28 (by decide), hc 31 (by decide)]; exact h
  · have h := hW.st
    unfold StB at h ⊢
    rw [phV_same e24, hc 30 (by decide)]; exact h
  · have h := hW.td
    unfold TdB at h ⊢
    rw [phV_same e24, hc 31 (by decide)]; exact h
  · rw [e0]; exact hW.bt
  · rw [e0]; exact hW.cap
  · rw [e0]; exact hW.tik
theorem T_forget : TH (fun h => F_X9_forget h 0) (fun h => F_X10_forget h 756) := act fun im N G z e n o s hG hW => by
  have hN := hG.n
  right
  obtain ⟨G1, V1, Q1, t1, t2, t3⟩ := c_try hG
  have hL2 := l2_at (im := im) (w1 N) hN G1
  have hW1 := t1.wok hW
  obtain ⟨V', hV'⟩ : ∃ V', V' = sx V1 52 (upd (V1.1 52) 4 0) := ⟨_, rfl⟩
  have hc : ∀ c, c ≠ 52 → V'.1 c = V1.1 c := fun c h => by rw [hV', sx_1, up_n _ _ h]
  have h52 : V'.1 52 4 = 0 := by rw [hV', sx_1, up_s, upd_s]
  have hT' : TrgN V' 0 := ⟨by decide, h52, fun i hi => absurd hi (Nat.not_lt_zero _)⟩
  have hW' : WOK _ V' n o 0 := wok_trg hW1 (fun c h => hc c (by omega)) hT'
  obtain ⟨G3, s1, s2⟩ := t3 V' Q1 (V1.1 52 4)
  have hp : 0 ≤ V1.1 52 4 := ti_nn (by rw [hW1.tg.2.1, nI_toInt (by have := hW1.tg.1; omega)]; omega)
  rw [if_pos hp] at s2
  refine ⟨V1.1 52 4, V', G3, ?_, by rw [if_pos hp]; exact ⟨s2, n, o, 0, hW'.mono (by omega)⟩, fun P U hP _ hR h8 => ?_⟩
  · unfold F_X9_forget
    simp only [Option.bind_some, gl hN, t2, g2 hN 1 G1, ol (hL2.1 Q1).lo, tr (hL2.1 Q1).lr]
    rw [← hV', s1]; rfl
  · have hR1 : Rel V1 ((bgn (thr U)).1 1) := by rw [bgn_1]; exact t1.rel hR
    have e4 : (bgn (thr U)).1 1 4 = V1.1 52 4 := hR1.1.2.2.2.2.1
    have hR2 : Rel V' (upd ((bgn (thr U)).1 1) 4 0) := by
      refine hR1.trgs (fun c h => hc c (by omega)) (by rw [hV']; rfl) (fun i hi h4 => upd_ne _ _ h4) (by rw [upd_s, h52]) ?_
      intro i k hi hk
      rw [upd_ne _ _ (by omega), hc _ (by omega)]
      exact hR1.2.2.2.2 i k hi hk
    obtain ⟨U3, m1, m2⟩ := m_told hP (thr_same U) hG.2.1 h8 (Keep.up (bgn (thr U)) (k := 4) (by decide) 0) hR2 (V1.1 52 4)
    refine ⟨U3, ?_, by rw [if_pos hp]; exact m2⟩
    unfold F_X10_forget
    simp only [m_thr hP, Option.bind_some, ml hP, ml0 hP, m_bgn hP, e4, m1, un]
theorem T_trigger (g x y : Int32) : TH (fun h => F_X9_trigger h 0 g x y) (fun h => F_X10_trigger h 756 g x y) := act fun im N G z e n o s hG hW => by
  have hN := hG.n
  have c1 : (1 : Int64).toInt = 1 := rfl
  have c40 : (40 : Int64).toInt = 40 := rfl
  have d1 : (1 : Int32).toInt = 1 := rfl
  have d40 : (40 : Int32).toInt = 40 := rfl
  obtain ⟨s4, s52, s3⟩ := hW.tg
  have r3 : gI (PG im N G) 53 7 4 = some (nI s) := by
    rw [← s52]
    exact at_lv (F := fun h => gI h 53 7 4) hN G fun P hX => (tr hX.1.lr).2.2.2.2.2.1 _
  rcases g_cs (get 1 G) g with hf | ⟨k, hk, rfl, ht⟩
  · left
    refine ⟨-2, ?_, fun P U hP _ hR => ⟨thr U, ?_, thr_same U⟩⟩
    · unfold F_X9_trigger
      simp only [gl hN, gv hN, g_has hN, hf, Bool.false_eq_true, if_false, if_true, Option.bind_some]
    · unfold F_X10_trigger
      simp only [m_thr hP, ml hP, Option.bind_some, m_isGroup hP (U := thr U) hR, hf, Bool.false_eq_true, if_false, if_true]
  · by_cases hx : 1 ≤ x.toInt ∧ x.toInt ≤ 40
    · by_cases hy : 1 ≤ y.toInt ∧ y.toInt ≤ x.toInt
      · by_cases hs4 : s < 4
        · right
          obtain ⟨G1, V1, Q1, t1, t2, t3⟩ := c_try hG
          have hL2 := l2_at (im := im) (w1 N) hN G1
          have hW1 := t1.wok hW
          obtain ⟨u4, u52, u3⟩ := hW1.tg
          obtain ⟨w, hw, rfl⟩ := v_in (v := x) (K := 40) (by decide) ⟨by omega, hx.2⟩
          have hw1 : 1 ≤ w := by rw [nI_toInt (by omega)] at hx; omega
          have htV : thV V1 k = true := by rw [t1.th hk]; exact ht
          obtain ⟨V', hV'⟩ : ∃ V', V' = addT V1 s (nI k) (nI w) y := ⟨_, rfl⟩
          have hc : ∀ c, c < 52 ∨ 57 ≤ c → V'.1 c = V1.1 c := fun c h => by
            rw [hV']; unfold addT
            rw [sx_1, up_n _ _ (by omega), sx_1, up_n _ _ (by omega), sx_1, up_n _ _ (by omega), sx_1, up_n _ _ (by omega), sx_1, up_n _ _ (by omega)]
          have v53 : V'.1 53 = upd (V1.1 53) s (nI k) := by rw [hV']; rfl
          have v54 : V'.1 54 = upd (V1.1 54) s (nI w) := by rw [hV']; rfl
          have v55 : V'.1 55 = upd (V1.1 55) s y := by rw [hV']; rfl
          have v56 : V'.1 56 = upd (V1.1 56) s 0 := by rw [hV']; rfl
          have v52 : V'.1 52 4 = nI (s + 1) := by rw [hV']; exact upd_s (V1.1 52) 4 _
          have hth : thV V' = thV V1 := thV_same (hc 2 (by decide))
          have hT' : TrgN V' (s + 1) := by
            refine ⟨by omega, v52, fun i hi => ?_⟩
            unfold trg tww
            rw [v53, v54, hth]
            by_cases e : i = s
            · rw [e, upd_s, upd_s, nI_clamp (by omega), nI_clamp (by omega)]
              exact ⟨⟨hk, htV, rfl⟩, hw1, hw, rfl⟩
            · rw [upd_ne _ _ e, upd_ne _ _ e]
              exact u3 i (by omega)
          have hW' : WOK _ V' n o (s + 1) := wok_trg hW1 (fun c h => hc c (by omega)) hT'
          obtain ⟨G3, s1, s2⟩ := t3 V' Q1 (nI s)
          have hp : 0 ≤ nI s := ti_nn (by rw [nI_toInt (by omega)]; omega)
          rw [if_pos hp] at s2
          have hlt : nI s < 4 := by
            rw [ti_lt, nI_toInt (by omega)]
            have : (4 : Int32).toInt = 4 := rfl
            omega
          have ad := s_addT (hL2.1 Q1).lr hs4 u52 (nI k) (nI w) y
          rw [← hV'] at ad
          refine ⟨nI s, V', G3, ?_, by rw [if_pos hp]; exact ⟨s2, n, o, s + 1, hW'.mono (by omega)⟩, fun P U hP _ hR h8 => ?_⟩
          · unfold F_X9_trigger
            simp only [gl hN, gv hN, g_has' hN G hk, ht, if_true, if_neg i10, o_out, d1, d40, if_pos hx, if_pos hy, r3, if_pos hlt, Option.bind_some, t2, g2 hN 1 G1, ol (hL2.1 Q1).lo, tr (hL2.1 Q1).lr, ad, un, s1]
          · have hR1 : Rel V1 ((bgn (thr U)).1 1) := by rw [bgn_1]; exact t1.rel hR
            have e4 : (bgn (thr U)).1 1 4 = nI s := by rw [hR1.1.2.2.2.2.1]; exact u52
            have e4' : (thr U).1 1 4 = nI s := by rw [← bgn_1]; exact e4
            obtain ⟨B, hB⟩ : ∃ B, B = bgn (thr U) := ⟨_, rfl⟩
            rw [← hB] at hR1 e4
            obtain ⟨M4, hM4⟩ : ∃ M4, M4 = upd (upd (upd (upd (B.1 1) (543 + 4 * s + 0) (nI k)) (543 + 4 * s + 1) (nI w)) (543 + 4 * s + 2) y) (543 + 4 * s + 3) 0 := ⟨_, rfl⟩
            have i4 : (543 + 4 * s + 3) < 1677 := by omega
            have st : ∀ (W : WV) (j : Nat) (J v : Int32), j < 4 → J = nI j → sI (P W) (756 + 1) ((543 + 4 * nI s) + J) v = some (P (sx W 1 (upd (W.1 1) (543 + 4 * s + j) v))) := fun W j J v hj hJ => by
              rw [hJ, ix_t]
              exact hP.sti (V := W) (o := 1) (by decide) (by decide) rfl (by decide) (by omega)
            have c1' : ∀ f, (sx B 1 f).1 1 = f := fun f => rfl
            have m44 : M4 4 = nI s := by
              rw [hM4, upd_ne _ _ (by omega), upd_ne _ _ (by omega), upd_ne _ _ (by omega), upd_ne _ _ (by omega)]; exact e4
            have hR2 : Rel V' (upd M4 4 (nI (s + 1))) := by
              refine hR1.trgs (fun c h => hc c (by omega)) (by rw [hV']; rfl) (fun i hi h4 => ?_) (by rw [upd_s, v52]) ?_
              · rw [upd_ne _ _ h4, hM4, upd_ne _ _ (by omega), upd_ne _ _ (by omega), upd_ne _ _ (by omega), upd_ne _ _ (by omega)]
              · intro i j hi hj
                rw [upd_ne _ _ (by omega)]
                have old := hR1.2.2.2.2 i j hi hj
                by_cases ei : i = s
                · subst ei
                  have hj' : j = 0 ∨ j = 1 ∨ j = 2 ∨ j = 3 := by omega
                  rcases hj' with rfl | rfl | rfl | rfl
                  · rw [hM4, upd_ne _ _ (by omega), upd_ne _ _ (by omega), upd_ne _ _ (by omega), upd_s, v53, upd_s]
                  · rw [hM4, upd_ne _ _ (by omega), upd_ne _ _ (by omega), upd_s, v54, upd_s]
                  · rw [hM4, upd_ne _ _ (by omega), upd_s, v55, upd_s]
                  · rw [hM4, upd_s, v56, upd_s]
                · rw [hM4, upd_ne _ _ (by omega), upd_ne _ _ (by omega), upd_ne _ _ (by omega), upd_ne _ _ (by omega), old]
                  have hj' : j = 0 ∨ j = 1 ∨ j = 2 ∨ j = 3 := by omega
                  rcases hj' with rfl | rfl | rfl | rfl
                  · rw [v53, upd_ne _ _ ei]
                  · rw [v54, upd_ne _ _ ei]
                  · rw [v55, upd_ne _ _ ei]
                  · rw [v56, upd_ne _ _ ei]
            have hk2 : Keep (bgn (thr U)) (sx B 1 (upd M4 4 (nI (s + 1)))) := by
              rw [← hB]
              refine Keep.sx1 B fun i hi => ?_
              rw [upd_ne _ _ (by omega), hM4, upd_ne _ _ (by omega), upd_ne _ _ (by omega), upd_ne _ _ (by omega), upd_ne _ _ (by omega)]
            obtain ⟨U3, m1, m2⟩ := m_told hP (thr_same U) hG.2.1 h8 hk2 hR2 (nI s)
            have hne : ¬ nI s = 4 := fun zz => by rw [zz] at hlt; exact absurd hlt (by decide)
            refine ⟨U3, ?_, by rw [if_pos hp]; exact m2⟩
            unfold F_X10_trigger
            simp only [m_thr hP, ml hP, ml0 hP, m_isGroup' hP (U := thr U) hR hk, ht, if_true, if_neg i10, m_within, c1, c40, Int32.toInt_toInt64, if_pos hx, if_pos hy, e4', if_neg hne, m_bgn hP, ← hB, Option.bind_some, bl, st _ 0 0 _ (by decide) rfl, st _ 1 1 _ (by decide) rfl, st _ 2 2 _ (by decide) rfl, st _ 3 3 _ (by decide) rfl, sx_sx, c1', ← hM4, m44, nI_1, m1, un]
        · left
          have hs : s = 4 := by omega
          have hlt : ¬ nI s < 4 := by rw [hs]; decide
          refine ⟨-4, ?_, fun P U hP _ hR => ⟨thr U, ?_, thr_same U⟩⟩
          · unfold F_X9_trigger
            simp only [gl hN, gv hN, g_has' hN G hk, ht, if_true, if_neg i10, o_out, d1, d40, if_pos hx, if_pos hy, r3, if_neg hlt, Option.bind_some]
          · have e4' : (thr U).1 1 4 = 4 := by
              have : (thr U).1 1 4 = (get 1 G).1 52 4 := hR.1.2.2.2.2.1
              rw [this, s52, hs]; rfl
            unfold F_X10_trigger
            simp only [m_thr hP, ml hP, ml0 hP, m_isGroup' hP (U := thr U) hR hk, ht, if_true, if_neg i10, m_within, c1, c40, Int32.toInt_toInt64, if_pos hx, if_pos hy, e4', Option.bind_some]
      · left
        refine ⟨-3, ?_, fun P U hP _ hR => ⟨thr U, ?_, thr_same U⟩⟩
        · unfold F_X9_trigger
          simp only [gl hN, gv hN, g_has' hN G hk, ht, if_true, if_neg i10, o_out, d1, d40, if_pos hx, if_neg hy, Option.bind_some]
        · unfold F_X10_trigger
          simp only [m_thr hP, ml hP, m_isGroup' hP (U := thr U) hR hk, ht, if_true, if_neg i10, m_within, c1, c40, Int32.toInt_toInt64, if_pos hx, if_neg hy, Option.bind_some]
    · left
      refine ⟨-3, ?_, fun P U hP _ hR => ⟨thr U, ?_, thr_same U⟩⟩
      · unfold F_X9_trigger
        simp only [gl hN, gv hN, g_has' hN G hk, ht, if_true, if_neg i10, o_out, d1, d40, if_neg hx, Option.bind_some]
      · unfold F_X10_trigger
        simp only [m_thr hP, ml hP, m_isGroup' hP (U := thr U) hR hk, ht, if_true, if_neg i10, m_within, c1, c40, Int32.toInt_toInt64, if_neg hx, Option.bind_some]
end ACTS2
