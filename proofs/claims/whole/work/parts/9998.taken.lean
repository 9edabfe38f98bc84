/-! calls on paper: taken, due -/
variable {kt : Nat}
section TAKEN
theorem AgW.pg {A B : WV} (h : AgW B A) (g : Int32) {k : Nat} (hk : k < 2) : pgIn A g k = pgIn B g k := by
  unfold pgIn
  refine smI_cong fun p hp => ?_
  have hp := List.mem_range.mp hp
  rw [h.c 24 (by omega) p hp, h.c (27 + k) (by omega) p hp]
theorem i_four (a b c d : Int32) : (a - c) + (b - d) = (a + b) - (c + d) := by
  rw [Int32.sub_eq_add_neg, Int32.sub_eq_add_neg, Int32.sub_eq_add_neg, ← Int32.add_assoc, i32_acd a (-c) b, Int32.add_assoc (a + b), Int32.neg_add, Int32.sub_eq_add_neg (-c) d]
theorem T_taken (g r m v : Int32) : TH (fun h => F_X9_taken h 0 g r m v) (fun h => F_X10_taken h 756 g r m v) := rdh fun im N G z e n o s hG hW => by
  have hN := hG.n
  have hO := hW.ti.1.1
  have c0 : (0 : Int64).toInt = 0 := rfl
  have c1 : (1 : Int64).toInt = 1 := rfl
  have c9 : (999 : Int64).toInt = 999 := rfl
  have d0 : (0 : Int32).toInt = 0 := rfl
  have d1 : (1 : Int32).toInt = 1 := rfl
  have d9 : (999 : Int32).toInt = 999 := rfl
  have hb : F_X9_isBelow (PG im N G) 0 g r = some (if isPr (get 1 G) g r then 1 else 0) := at_lv (F := fun h => F_X9_isBelow h 0 g r) hN G fun P hX => c_isBelow hX hO g r
  rcases pr_cs (get 1 G) g r with hf | ⟨a, b, ha, hb', rfl, rfl, ht, htb, hbl⟩
  · refine ⟨-2, ⟨G, ?_, IrC.refl G⟩, fun P U hP _ hR => ⟨thr U, ?_, thr_same U⟩⟩
    · unfold F_X9_taken
      simp only [gl hN, hb, hf, Bool.false_eq_true, if_false, if_true, Option.bind_some]
    · unfold F_X10_taken
      simp only [m_thr hP, ml hP, Option.bind_some, m_isPair hP (U := thr U) hR hO, hf, Bool.false_eq_true, if_false, if_true, un]
  · have hp : isPr (get 1 G) (nI a) (nI b) = true := by rw [pr_t ha hb', ht, htb, hbl]; rfl
    by_cases hv : 0 ≤ v.toInt ∧ v.toInt ≤ 1
    · by_cases hm : 1 ≤ m.toInt ∧ m.toInt ≤ 999
      · obtain ⟨A, p1, p2⟩ := c_paper (im := im) hN G
        have hWA := p2.wok hW
        have htA : thV A a = true := by rw [p2.th ha]; exact ht
        have htbA : thV A b = true := by rw [p2.th hb']; exact htb
        have hL2 := l2_at (im := im) (w58 N) hN G
        obtain ⟨V', t', Q', a1, a2, a3, a4, -⟩ := c_take hL2 hWA.ti hb' htbA hm.2 (get 745 G)
        obtain ⟨G1, hG1⟩ : ∃ G1, G1 = put 58 57 V' (put 745 11 Q' G) := ⟨_, rfl⟩
        have hI : IrC G G1 := by rw [hG1]; exact irc_p2 _ _
        have hag := hI.1.agw (w := 1) (Or.inl rfl)
        have hp2 : P2 im N 58 G V' Q' = PG im N G1 := by rw [hG1]; rfl
        have htV : thV V' a = true := by rw [a4.th]; exact htA
        have l1 : gR (P2 im N 58 G V' Q') 1 8 1 = some 24 := by rw [hp2]; exact (gv hN).2.2.2.2.2.2.1 _
        have l2 : gR (P2 im N 58 G V' Q') 1 8 0 = some 2 := by rw [hp2]; exact (gv hN).2.2.2.2.2.1 _
        have l3 : ∀ {α : Type} (x : Option α), cO (P2 im N 58 G V' Q') 24 0 x = x := fun x => by rw [hp2]; exact (gv hN).2.2.1 _ x
        have l4 : F_X0_ownPages (P2 im N 58 G V' Q') 24 (nI a) = some (pgIn A (nI a) 0 + pgIn A (nI a) 1) := by
          rw [hp2]
          refine at_lv (F := fun h => F_X0_ownPages h 24 (nI a)) hN G1 fun P hX => ?_
          have := s_own hX.1.lc (V := get 1 G1) (nI a)
          rw [hag.pg (nI a) (k := 0) (by decide), hag.pg (nI a) (k := 1) (by decide), ← p2.pg (nI a) (k := 0) (by decide), ← p2.pg (nI a) (k := 1) (by decide)] at this
          exact this
        have l5 : gR (P2 im N 58 G V' Q') 2 6 4 = some 15 := by
          rw [hp2]
          exact at_lv (F := fun h => gR h 2 6 4) hN G1 fun P hX => (tl hX.1.lt).2.2.2.2.1 _
        have l6 : aI (P2 im N 58 G V' Q') 15 (nI a) = some (A.1 14 a) := by
          rw [hp2]
          refine at_lv (F := fun h => aI h 15 (nI a)) hN G1 fun P hX => ?_
          have := hX.1.ldi (V := get 1 G1) (o := 14) (i := a) (len := 12) (by decide) (by decide) rfl (by decide) ha
          rw [hag.t 14 (by omega) a ha, ← p2.t 14 (by omega) a ha] at this
          exact this
        refine ⟨if v = 0 then (pgIn A (nI a) 0 + pgIn A (nI a) 1) - (pgIn V' (nI a) 0 + pgIn V' (nI a) 1) else (pgIn A (nI a) 0 + pgIn A (nI a) 1) - (pgIn V' (nI a) 0 + pgIn V' (nI a) 1) + (A.1 14 a - V'.1 14 a), ⟨G1, ?_, hI⟩, fun P U hP _ hR => ?_⟩
        · rw [← hp2]
          unfold F_X9_taken
          simp only [gl hN, hb, hp, if_true, if_neg i10, Option.bind_some, o_out, d0, d1, d9, if_pos hv, if_pos hm, co58 hN, p1, g2 hN 58 G, a1, un, l1, l2, l3, l4, l5, l6, ol (hL2.1 Q').lo, cl (hL2.1 Q').lc, tl (hL2.1 Q').lt, s_own (hL2.1 Q').lc, ha, bl]
          split <;> rfl
        · have hRA : Rel A ((cpyM (thr U) 1 0 4 0).1 1) := by rw [opn_1]; exact p2.rel hR
          obtain ⟨U2, b1, b2, b3⟩ := m_takes hP hRA hWA.ti hb' htbA hm.2 (by omega) a2
          refine ⟨_, ?_, (thr_same U).trans (paper_same b2.toP)⟩
          have f1 : F_X10_of (P (cpyM (thr U) 1 0 4 0)) 756 (nI a) 10 0 = some (A.1 14 a, P (cpyM (thr U) 1 0 4 0)) := m_of hP hRA ha htA (f := 10) (by decide) (by decide)
          have f2 : F_X10_of (P U2) 756 (nI a) 10 0 = some (V'.1 14 a, P U2) := m_of hP b3 ha htV (f := 10) (by decide) (by decide)
          unfold F_X10_taken
          simp only [m_thr hP, ml hP, Option.bind_some, m_isPair hP (U := thr U) hR hO, hp, if_true, if_neg i10, un, m_within, c0, c1, c9, if_pos hv, if_pos hm, m_opens hP, m_ownOf hP hRA ha]
          by_cases v1 : v = 1
          · have v0 : ¬ v = 0 := by rw [v1]; decide
            simp only [ml hP, if_pos v1, if_neg v0, f1, f2, Option.bind_some, un, bl, b1, m_ownOf hP b3 ha, m_closes hP, i_four]
          · have v0 : v = 0 := by
              obtain ⟨j, hj, e⟩ := v_in (K := 1) (by decide) hv
              have : j = 0 ∨ j = 1 := by omega
              rcases this with rfl | rfl
              · exact e
              · exact absurd e v1
            simp only [ml hP, if_neg v1, if_pos v0, Option.bind_some, un, bl, b1, m_ownOf hP b3 ha, m_closes hP, Int32.add_zero]
      · refine ⟨-3, ⟨G, ?_, IrC.refl G⟩, fun P U hP _ hR => ⟨thr U, ?_, thr_same U⟩⟩
        · unfold F_X9_taken
          simp only [gl hN, hb, hp, if_true, if_neg i10, Option.bind_some, o_out, d0, d1, d9, if_pos hv, if_neg hm]
        · unfold F_X10_taken
          simp only [m_thr hP, ml hP, Option.bind_some, m_isPair hP (U := thr U) hR hO, hp, if_true, if_neg i10, un, m_within, c0, c1, c9, if_pos hv, if_neg hm]
    · refine ⟨-2, ⟨G, ?_, IrC.refl G⟩, fun P U hP _ hR => ⟨thr U, ?_, thr_same U⟩⟩
      · unfold F_X9_taken
        simp only [gl hN, hb, hp, if_true, if_neg i10, Option.bind_some, o_out, d0, d1, d9, if_neg hv]
      · unfold F_X10_taken
        simp only [m_thr hP, ml hP, Option.bind_some, m_isPair hP (U := thr U) hR hO, hp, if_true, if_neg i10, un, m_within, c0, c1, c9, if_neg hv]
end TAKEN
section DUE
def dueI (A : WV) (i : Nat) : WV := sx (sx A 31 (fun p => if p < i then 999 else A.1 31 p)) 30 (fun p => if p < i then 0 else A.1 30 p)
theorem m_due1 {P : WV → Hp} {A U : WV} (hP : LM 756 P) (hR : Rel A (U.1 1)) (z : Int32) : ∃ U', loopF (fun x => F_X10_due_L22 756 z x.1 x.2) 6000 (0, P U) = some (P U') ∧ Keep U U' ∧ Rel (sx A 17 (fun i => if i < 12 then 0 else A.1 17 i)) (U'.1 1) := by
  obtain ⟨a, ha, k1, k3⟩ := loop_inv (st := fun x => F_X10_due_L22 756 z x.1 x.2) (fun i (a : WV) => (nI i, P a)) (fun a => P a) (fun i a => Keep U a ∧ Rel (sx A 17 (fun x => if x < i then 0 else A.1 17 x)) (a.1 1)) 12
    (fun i a hi hI => by
      obtain ⟨i1, i3⟩ := hI
      have hl : F_X10_lays (P a) 756 (nI i) 24 0 = some (P (sx a 1 (upd (a.1 1) (7 + 34 * i + 24) 0))) := m_lays (f := 24) hP hi (by decide) 0
      refine ⟨sx a 1 (upd (a.1 1) (7 + 34 * i + 24) 0), ?_, i1.trans (Keep.up _ (by omega) _), ?_⟩
      · show F_X10_due_L22 756 z (nI i) (P a) = _
        unfold F_X10_due_L22
        rw [h12I, if_neg (nI_ge hi (by decide))]
        simp only [ml hP, hl, Option.bind_some, bl, nI_1]
      · have h := i3.grp (g := i) (f := 24) hi (by decide) (by decide) (by decide) 0
        have e : sx (sx A 17 (fun x => if x < i then 0 else A.1 17 x)) (cg 24) (upd ((sx A 17 (fun x => if x < i then 0 else A.1 17 x)).1 (cg 24)) i 0) = sx A 17 (fun x => if x < i + 1 then 0 else A.1 17 x) := by
          show sx (sx A 17 (fun x => if x < i then 0 else A.1 17 x)) 17 (upd (fun x => if x < i then 0 else A.1 17 x) i 0) = _
          rw [sx_sx]
          congr 1
          funext x
          by_cases ex : x = i
          · rw [ex, upd_s, if_pos (Nat.lt_succ_self _)]
          · rw [upd_ne _ _ ex]
            by_cases hx : x < i
            · rw [if_pos hx, if_pos (by omega)]
            · rw [if_neg hx, if_neg (by omega)]
        rw [e] at h
        exact h)
    (fun a hI => by
      show F_X10_due_L22 756 z (nI 12) (P a) = _
      unfold F_X10_due_L22
      rw [h12I, if_pos (nI_le (Nat.le_refl _) (by decide))])
    12 0 6000 U (by omega) (by omega) ⟨Keep.refl U, by
      have : (fun x => if x < 0 then (0 : Int32) else A.1 17 x) = A.1 17 := by funext x; rw [if_neg (Nat.not_lt_zero _)]
      rw [this, sx_id]; exact hR⟩
  exact ⟨a, ha, k1, k3⟩
theorem dueI_s (A : WV) (i : Nat) : dueI A (i + 1) = sx (sx (dueI A i) 31 (upd ((dueI A i).1 31) i 999)) 30 (upd ((dueI A i).1 30) i 0) := by
  have f1 : upd ((dueI A i).1 31) i 999 = fun p => if p < i + 1 then 999 else A.1 31 p := by
    funext p
    by_cases e : p = i
    · rw [e, upd_s, if_pos (Nat.lt_succ_self _)]
    · rw [upd_ne _ _ e]
      show (if p < i then _ else _) = _
      by_cases h : p < i
      · rw [if_pos h, if_pos (by omega)]
      · rw [if_neg h, if_neg (by omega)]
  have f2 : upd ((dueI A i).1 30) i 0 = fun p => if p < i + 1 then 0 else A.1 30 p := by
    funext p
    by_cases e : p = i
    · rw [e, upd_s, if_pos (Nat.lt_succ_self _)]
    · rw [upd_ne _ _ e]
      show (if p < i then _ else _) = _
      by_cases h : p < i
      · rw [if_pos h, if_pos (by omega)]
      · rw [if_neg h, if_neg (by omega)]
  rw [f1, f2]
  unfold dueI
  rw [sx4 A (by decide)]
theorem m_due2 {P : WV → Hp} {A U : WV} (hP : LM 756 P) (hR : Rel A (U.1 1)) (z : Int32) : ∃ U', loopF (fun x => F_X10_due_L44 756 z x.1 x.2) 6000 (0, P U) = some (P U') ∧ Keep U U' ∧ Rel (dueI A 16) (U'.1 1) := by
  obtain ⟨a, ha, k1, k3⟩ := loop_inv (st := fun x => F_X10_due_L44 756 z x.1 x.2) (fun i (a : WV) => (nI i, P a)) (fun a => P a) (fun i a => Keep U a ∧ Rel (dueI A i) (a.1 1)) 16
    (fun i a hi hI => by
      obtain ⟨i1, i3⟩ := hI
      obtain ⟨a', ha'⟩ : ∃ a', a' = sx a 1 (upd (a.1 1) (415 + 8 * i + 6) 999) := ⟨_, rfl⟩
      have l1 : F_X10_laysProcess (P a) 756 (nI i) 6 999 = some (P a') := by rw [ha']; exact m_laysP (f := 6) hP hi (by decide) 999
      have l2 : F_X10_laysProcess (P a') 756 (nI i) 4 0 = some (P (sx a' 1 (upd (a'.1 1) (415 + 8 * i + 4) 0))) := m_laysP (f := 4) hP hi (by decide) 0
      have r1 : Rel (sx (dueI A i) 31 (upd ((dueI A i).1 31) i 999)) (a'.1 1) := by
        rw [ha']; exact i3.prc (p := i) (f := 6) hi (by decide) (by decide) 999
      have r2 := r1.prc (p := i) (f := 4) hi (by decide) (by decide) 0
      refine ⟨sx a' 1 (upd (a'.1 1) (415 + 8 * i + 4) 0), ?_, ?_, ?_⟩
      · show F_X10_due_L44 756 z (nI i) (P a) = _
        unfold F_X10_due_L44
        rw [h16I, if_neg (nI_ge hi (by decide))]
        simp only [ml hP, l1, l2, Option.bind_some, bl, nI_1]
      · have := Keep.up a (k := 415 + 8 * i + 6) (by omega) 999
        rw [← ha'] at this
        exact i1.trans (this.trans (Keep.up _ (by omega) _))
      · rw [dueI_s]; exact r2)
    (fun a hI => by
      show F_X10_due_L44 756 z (nI 16) (P a) = _
      unfold F_X10_due_L44
      rw [h16I, if_pos (nI_le (Nat.le_refl _) (by decide))])
    16 0 6000 U (by omega) (by omega) ⟨Keep.refl U, by
      have h1 : (fun p => if p < 0 then (999 : Int32) else A.1 31 p) = A.1 31 := by funext p; rw [if_neg (Nat.not_lt_zero _)]
      have h2 : (fun p => if p < 0 then (0 : Int32) else A.1 30 p) = A.1 30 := by funext p; rw [if_neg (Nat.not_lt_zero _)]
      unfold dueI
      rw [h1, h2]
      have : sx A 31 (A.1 31) = A := sx_id _ _
      rw [this, sx_id]; exact hR⟩
  exact ⟨a, ha, k1, k3⟩
theorem T_due (g : Int32) : TH (fun h => F_X9_due h 0 g) (fun h => F_X10_due h 756 g) := rdh fun im N G z e n o s hG hW => by
  have hN := hG.n
  rcases g_cs (get 1 G) g with hf | ⟨k, hk, rfl, ht⟩
  · refine ⟨-2, ⟨G, ?_, IrC.refl G⟩, fun P U hP _ hR => ⟨thr U, ?_, thr_same U⟩⟩
    · unfold F_X9_due
      simp only [gl hN, gv hN, g_has hN, hf, Bool.false_eq_true, if_false, if_true, Option.bind_some]
    · unfold F_X10_due
      simp only [m_thr hP, ml hP, Option.bind_some, m_isGroup hP (U := thr U) hR, hf, Bool.false_eq_true, if_false, if_true]
  · obtain ⟨A, p1, p2⟩ := c_paper (im := im) hN G
    have hWA := p2.wok hW
    have hL2 := l2_at (im := im) (w58 N) hN G
    obtain ⟨B, hB⟩ : ∃ B, B = dueI (sx A 17 (fun i => if i < 12 then 0 else A.1 17 i)) 16 := ⟨_, rfl⟩
    have hB' : sx (sx (sx A 31 (fun i => if i < 16 then 999 else A.1 31 i)) 30 (fun i => if i < 16 then 0 else A.1 30 i)) 17 (fun i => if i < 12 then 0 else A.1 17 i) = B := by
      rw [hB]
      unfold dueI
      rw [sx_comm _ (show 30 ≠ 17 by decide), sx_comm A (show 31 ≠ 17 by decide)]
      rfl
    have hc : ∀ c, c ≠ 17 → c ≠ 30 → c ≠ 31 → B.1 c = A.1 c := fun c h1 h2 h3 => by
      rw [← hB', sx_1, up_n _ _ h1, sx_1, up_n _ _ h2, sx_1, up_n _ _ h3]
    have hO : OrdOK B n o := hWA.ti.1.1.same (hc 1 (by decide) (by decide) (by decide)) (hc 2 (by decide) (by decide) (by decide)) (hc 3 (by decide) (by decide) (by decide))
    have hH : HomOK B := hWA.ti.1.2.1.same (hc 2 (by decide) (by decide) (by decide)) (hc 24 (by decide) (by decide) (by decide))
    have hL : LimR B := by
      have := hWA.ti.2.2.1
      unfold LimR at this ⊢
      rw [thV_same (hc 2 (by decide) (by decide) (by decide)), hc 5 (by decide) (by decide) (by decide), hc 6 (by decide) (by decide) (by decide), hc 7 (by decide) (by decide) (by decide), hc 8 (by decide) (by decide) (by decide), hc 10 (by decide) (by decide) (by decide), hc 11 (by decide) (by decide) (by decide), hc 12 (by decide) (by decide) (by decide)]
      exact this
    have hT : TdB B := fun p hp _ => by
      have : B.1 31 p = 999 := by
        rw [← hB']
        show (if p < 16 then (999 : Int32) else A.1 31 p) = 999
        rw [if_pos hp]
      rw [this]; decide
    have hcap : 0 ≤ (B.1 0 6).toInt ∧ (B.1 0 6).toInt ≤ 99 := by rw [hc 0 (by decide) (by decide) (by decide)]; exact hWA.cap
    obtain ⟨Af, Gt, a1, a2, a3⟩ := c_plan2 (V := B) (Q := get 745 G) hL2 hO hH hL hT hcap
    have a1' : F_X2_plan (P2 im N 58 G B (get 745 G)) 753 58 = some (P2 im N 58 G B (sx (sx (get 745 G) 10 Af) 9 Gt)) := a1
    have f1 : F_J7_fill_53178 (P2 im N 58 G A (get 745 G)) (58 + 31) 999 = some (P2 im N 58 G (sx A 31 (fun i => if i < 16 then 999 else A.1 31 i)) (get 745 G)) := s_fill (hL2.1 (get 745 G)) (o := 31) (by decide) (by decide) (len := 16) rfl (by decide) A 999
    have f2 : F_J7_fill_53178 (P2 im N 58 G (sx A 31 (fun i => if i < 16 then 999 else A.1 31 i)) (get 745 G)) (58 + 30) 0 = some (P2 im N 58 G (sx (sx A 31 (fun i => if i < 16 then 999 else A.1 31 i)) 30 (fun i => if i < 16 then 0 else A.1 30 i)) (get 745 G)) := s_fill (hL2.1 (get 745 G)) (o := 30) (by decide) (by decide) (len := 16) rfl (by decide) _ 0
    have f3 : F_J7_fill_53178 (P2 im N 58 G (sx (sx A 31 (fun i => if i < 16 then 999 else A.1 31 i)) 30 (fun i => if i < 16 then 0 else A.1 30 i)) (get 745 G)) (58 + 17) 0 = some (P2 im N 58 G B (get 745 G)) := by
      rw [← hB']
      exact s_fill (hL2.1 (get 745 G)) (o := 17) (by decide) (by decide) (len := 12) rfl (by decide) _ 0
    have hk28 : k < 28 := by omega
    have rq : aI (P2 im N 58 G B (sx (sx (get 745 G) 10 Af) 9 Gt)) 754 (nI k) = some (Gt k) := (hL2.2 B).ldi (V := sx (sx (get 745 G) 10 Af) 9 Gt) (o := 9) (by decide) (by decide) rfl (by decide) hk28
    refine ⟨Gt k, ⟨put 58 57 B (put 745 11 (sx (sx (get 745 G) 10 Af) 9 Gt) G), ?_, irc_p2 _ _⟩, fun P U hP _ hR => ?_⟩
    · show F_X9_due (PG im N G) 0 (nI k) = some (Gt k, P2 im N 58 G B (sx (sx (get 745 G) 10 Af) 9 Gt))
      unfold F_X9_due
      simp only [gl hN, gv hN, g_has' hN G hk, ht, if_true, if_neg i10, Option.bind_some, co58 hN, p1, g2 hN 58 G, ol (hL2.1 (get 745 G)).lo, cl (hL2.1 (get 745 G)).lc, tl (hL2.1 (get 745 G)).lt, f1, f2, f3, a1', rq]
    · have hRA : Rel A ((cpyM (thr U) 1 0 4 0).1 1) := by rw [opn_1]; exact p2.rel hR
      obtain ⟨U1, b1, b2, b3⟩ := m_due1 hP hRA (nI k)
      obtain ⟨U2, d1, d2, d3⟩ := m_due2 hP b3 (nI k)
      rw [← hB] at d3
      obtain ⟨U3, u1, u2, -, u4⟩ := m_units hP hO hH hL d3 a2 a3
      refine ⟨_, ?_, (thr_same U).trans (paper_same ((b2.trans (d2.trans u2)).toP))⟩
      have e17 : (cpyM U3 4 0 1 0).1 17 k = Gt k := by rw [cpy_c (by decide)]; exact u4 k hk28
      unfold F_X10_due
      simp only [m_thr hP, ml hP, Option.bind_some, m_isGroup' hP (U := thr U) hR hk, ht, if_true, if_neg i10, m_opens hP, b1, d1, u1, m_closes hP, hk28, e17]
end DUE
