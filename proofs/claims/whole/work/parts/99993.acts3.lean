/-! calls that act: work, kill, take, drain, charge -/
variable {kt : Nat}
section ACTS3
variable {V : WV} {n s : Nat} {o : Nat → Nat} {M : Nat → Int32}
theorem wok_td {V' : WV} (hW : WOK kt V n o s) (hc : ∀ c, c ≠ 31 → V'.1 c = V.1 c) (hd : ∀ p, p < 16 → phV V p = false → V'.1 31 p = 0) (ht : TdB V') : WOK kt V' n o s := by
  have e0 := hc 0 (by decide)
  have e2 := hc 2 (by decide)
  have e24 := hc 24 (by decide)
  refine ⟨⟨⟨hW.ti.1.1.same (hc 1 (by decide)) e2 (hc 3 (by decide)), hW.ti.1.2.1.same e2 e24, hW.ti.1.2.2.1.same e2 (hc 14 (by decide)) (hc 15 (by decide)) e24 (hc 27 (by decide)) (hc 28 (by decide)), hW.ti.1.2.2.2.same e2 (hc 16 (by decide)) e24 (hc 29 (by decide))⟩, hW.ti.2.1.same e2 (hc 14 (by decide)) e24 (hc 27 (by decide)) (hc 28 (by decide)) (hc 29 (by decide)), ?_, hW.ti.2.2.2.same e0 e24 (hc 29 (by decide))⟩, ?_, ?_, ?_, ?_, ht, ?_, ?_, ?_⟩
  · have h := hW.ti.2.2.1
    unfold LimR at h ⊢
    rw [thV_same e2, hc 5 (by decide), hc 6 (by decide), hc 7 (by decide), hc 8 (by decide), hc 10 (by decide), hc 11 (by decide), hc 12 (by decide)]; exact h
  · have h := hW.mx
    unfold MaxOK at h ⊢
    rw [thV_same e2, hc 15 (by decide), hc 8 (by decide)]; exact h
  · intro p hp hq
    rw [phV_same e24] at hq
    have h := hW.dd p hp hq
    rw [hc 27 (by decide), hc 28 (by decide)]
    exact ⟨h.1, h.2.1, hd p hp hq⟩
  · have h := hW.tg
    unfold TrgN trg tww at h ⊢
    rw [hc 52 (by decide), hc 53 (by decide), hc 54 (by decide), thV_same e2]; exact h
  · have h := hW.st
    unfold StB at h ⊢
    rw [phV_same e24, hc 30 (by decide)]; exact h
  · rw [e0]; exact hW.bt
  · rw [e0]; exact hW.cap
  · rw [e0]; exact hW.tik
theorem T_work (p x : Int32) : TH (fun h => F_X9_work h 0 p x) (fun h => F_X10_work h 756 p x) := act fun im N G z e n o s hG hW => by
  have hN := hG.n
  have c1 : (1 : Int64).toInt = 1 := rfl
  have c9 : (999 : Int64).toInt = 999 := rfl
  have d1 : (1 : Int32).toInt = 1 := rfl
  have d9 : (999 : Int32).toInt = 999 := rfl
  rcases p_cs (get 1 G) p with hf | ⟨a, ha, rfl, ht⟩
  · left
    refine ⟨-2, ?_, fun P U hP _ hR => ⟨thr U, ?_, thr_same U⟩⟩
    · unfold F_X9_work
      simp only [gl hN, gv hN, g_phas hN, hf, Bool.false_eq_true, if_false, if_true, Option.bind_some]
    · unfold F_X10_work
      simp only [m_thr hP, ml hP, Option.bind_some, m_isProc hP (U := thr U) hR, hf, Bool.false_eq_true, if_false, if_true]
  · by_cases hx : 1 ≤ x.toInt ∧ x.toInt ≤ 999
    · right
      obtain ⟨G1, V1, Q1, t1, t2, t3⟩ := c_try hG
      have hL2 := l2_at (im := im) (w1 N) hN G1
      have hW1 := t1.wok hW
      have htV : phV V1 a = true := by rw [t1.ph ha]; exact ht
      obtain ⟨y, hy⟩ : ∃ y, y = mnI 999 (V1.1 31 a + x) := ⟨_, rfl⟩
      have hty := hW1.td a ha htV
      have hyb : 0 ≤ y.toInt ∧ y.toInt ≤ 999 := by
        rw [hy, ti_mn, d9, ti_add (by omega) (by omega)]; omega
      obtain ⟨V', hV'⟩ : ∃ V', V' = sx V1 31 (upd (V1.1 31) a y) := ⟨_, rfl⟩
      have hc : ∀ c, c ≠ 31 → V'.1 c = V1.1 c := fun c h => by rw [hV', sx_1, up_n _ _ h]
      have v31 : V'.1 31 = upd (V1.1 31) a y := by rw [hV', sx_1, up_s]
      have hW' : WOK _ V' n o s := wok_td hW1 hc (fun q hq hd => by
        have hne : q ≠ a := fun z => by rw [z, htV] at hd; cases hd
        rw [v31, upd_ne _ _ hne]; exact (hW1.dd q hq hd).2.2) (fun q hq hd => by
        rw [phV_same (hc 24 (by decide))] at hd
        rw [v31]
        by_cases e : q = a
        · rw [e, upd_s]; exact hyb
        · rw [upd_ne _ _ e]; exact hW1.td q hq hd)
      obtain ⟨G3, s1, s2⟩ := t3 V' Q1 y
      have hp : 0 ≤ y := ti_nn hyb.1
      rw [if_pos hp] at s2
      have v31a : V'.1 31 a = y := by rw [v31, upd_s]
      refine ⟨y, V', G3, ?_, by rw [if_pos hp]; exact ⟨s2, n, o, s, hW'.mono (by omega)⟩, fun P U hP _ hR h8 => ?_⟩
      · unfold F_X9_work
        simp only [gl hN, gv hN, g_phas' hN G ha, ht, if_true, if_neg i10, o_out, d1, d9, if_pos hx, Option.bind_some, t2, g2 hN 1 G1, ol (hL2.1 Q1).lo, cl (hL2.1 Q1).lc, ha, ← hy, ← hV', v31a, s1, un]
      · have hR1 : Rel V1 ((bgn (thr U)).1 1) := by rw [bgn_1]; exact t1.rel hR
        obtain ⟨B, hB⟩ : ∃ B, B = bgn (thr U) := ⟨_, rfl⟩
        rw [← hB] at hR1
        have hR2 : Rel V' ((sx B 1 (upd (B.1 1) (415 + 8 * a + 6) y)).1 1) := by
          rw [hV']; exact hR1.prc (p := a) (f := 6) ha (by decide) (by decide) y
        have f1 : F_X10_ofProcess (P B) 756 (nI a) 6 0 = some (V1.1 31 a, P B) := m_pr hP hR1 ha htV (f := 6) (by decide)
        have f2 : F_X10_laysProcess (P B) 756 (nI a) 6 y = some (P (sx B 1 (upd (B.1 1) (415 + 8 * a + 6) y))) := m_laysP (f := 6) hP ha (by decide) y
        have f3 : F_X10_ofProcess (P (sx B 1 (upd (B.1 1) (415 + 8 * a + 6) y))) 756 (nI a) 6 0 = some (y, P (sx B 1 (upd (B.1 1) (415 + 8 * a + 6) y))) := by
          have := m_pr hP hR2 ha (by rw [phV_same (hc 24 (by decide))]; exact htV) (f := 6) (by decide)
          rw [show V'.1 (cp 6) a = y from v31a] at this
          exact this
        have hk2 : Keep (bgn (thr U)) (sx B 1 (upd (B.1 1) (415 + 8 * a + 6) y)) := by rw [← hB]; exact Keep.up B (by omega) y
        obtain ⟨U3, m1, m2⟩ := m_told hP (thr_same U) hG.2.1 h8 hk2 hR2 y
        refine ⟨U3, ?_, by rw [if_pos hp]; exact m2⟩
        unfold F_X10_work
        simp only [m_thr hP, ml hP, m_isProc' hP (U := thr U) hR ha, ht, if_true, if_neg i10, m_within, c1, c9, if_pos hx, Option.bind_some, m_bgn hP, ← hB, f1, m_lesser, ← hy, f2, f3, m1, un]
    · left
      refine ⟨-3, ?_, fun P U hP _ hR => ⟨thr U, ?_, thr_same U⟩⟩
      · unfold F_X9_work
        simp only [gl hN, gv hN, g_phas' hN G ha, ht, if_true, if_neg i10, o_out, d1, d9, if_neg hx, Option.bind_some]
      · unfold F_X10_work
        simp only [m_thr hP, ml hP, m_isProc' hP (U := thr U) hR ha, ht, if_true, if_neg i10, m_within, c1, c9, if_neg hx, Option.bind_some]
theorem bury_ded (hd : DedOK V) (p : Nat) : DedOK (buryV V p) := fun q hq ht => by
  have e27 : (buryV V p).1 27 = upd (V.1 27) p 0 := rfl
  have e28 : (buryV V p).1 28 = upd (V.1 28) p 0 := rfl
  have e31 : (buryV V p).1 31 = upd (V.1 31) p 0 := rfl
  rw [e27, e28, e31]
  by_cases e : q = p
  · rw [e, upd_s, upd_s, upd_s]; exact ⟨rfl, rfl, rfl⟩
  · rw [upd_ne _ _ e, upd_ne _ _ e, upd_ne _ _ e]
    rw [bury_ph p q e] at ht
    exact hd q hq ht
theorem wok_bury (hW : WOK kt V n o s) {p : Nat} (hp : p < 16) (ht : phV V p = true) : WOK kt (buryV V p) n o s := by
  obtain ⟨b1, b2⟩ := hW.ti.bury hp ht
  have c : ∀ c, c ≠ 15 → c ≠ 16 → c ≠ 24 → c ≠ 25 → (c < 27 ∨ 33 ≤ c) → (buryV V p).1 c = V.1 c := fun c h h1 h2 h3 h4 => bury_c c p h h1 h2 h3 h4
  have e2 : thV (buryV V p) = thV V := thV_same (c 2 (by decide) (by decide) (by decide) (by decide) (by decide))
  have e0 := c 0 (by decide) (by decide) (by decide) (by decide) (by decide)
  have dead : phV (buryV V p) p = false := by
    unfold phV
    rw [buryV_24, upd_s]; decide
  refine ⟨b1, fun g hg htg => ?_, bury_ded hW.dd p, ?_, fun q hq htq => ?_, fun q hq htq => ?_, ?_, ?_, ?_⟩
  · rw [e2] at htg
    rw [c 8 (by decide) (by decide) (by decide) (by decide) (by decide)]
    exact Int.le_trans (b2 g hg htg) (hW.mx g hg htg)
  · have h := hW.tg
    unfold TrgN trg tww at h ⊢
    rw [c 52 (by decide) (by decide) (by decide) (by decide) (by decide), c 53 (by decide) (by decide) (by decide) (by decide) (by decide), c 54 (by decide) (by decide) (by decide) (by decide) (by decide), e2]; exact h
  · have hne : q ≠ p := fun z => by rw [z, dead] at htq; cases htq
    rw [bury_ph p q hne] at htq
    have : (buryV V p).1 30 q = V.1 30 q := by
      show upd (V.1 30) p 0 q = _
      rw [upd_ne _ _ hne]
    unfold StB; rw [this]; exact hW.st q hq htq
  · have hne : q ≠ p := fun z => by rw [z, dead] at htq; cases htq
    rw [bury_ph p q hne] at htq
    have : (buryV V p).1 31 q = V.1 31 q := by
      show upd (V.1 31) p 0 q = _
      rw [upd_ne _ _ hne]
    rw [this]; exact hW.td q hq htq
  · rw [e0]; exact hW.bt
  · rw [e0]; exact hW.cap
  · rw [e0]; exact hW.tik
theorem T_kill (p : Int32) : TH (fun h => F_X9_kill h 0 p) (fun h => F_X10_kill h 756 p) := act fun im N G z e n o s hG hW => by
  have hN := hG.n
  rcases p_cs (get 1 G) p with hf | ⟨a, ha, rfl, ht⟩
  · left
    refine ⟨-2, ?_, fun P U hP _ hR => ⟨thr U, ?_, thr_same U⟩⟩
    · unfold F_X9_kill
      simp only [gl hN, gv hN, g_phas hN, hf, Bool.false_eq_true, if_false, if_true, Option.bind_some]
    · unfold F_X10_kill
      simp only [m_thr hP, ml hP, Option.bind_some, m_isProc hP (U := thr U) hR, hf, Bool.false_eq_true, if_false, if_true]
  · right
    obtain ⟨G1, V1, Q1, t1, t2, t3⟩ := c_try hG
    have hL2 := l2_at (im := im) (w1 N) hN G1
    have hW1 := t1.wok hW
    have htV : phV V1 a = true := by rw [t1.ph ha]; exact ht
    have hh := hW1.ti.2.1.held ha htV
    obtain ⟨G3, s1, s2⟩ := t3 (buryV V1 a) Q1 (heldV V1 a)
    have hp : 0 ≤ heldV V1 a := ti_nn (by rw [hh.2.2.2]; omega)
    rw [if_pos hp] at s2
    have hb := s_bury (hL2.1 Q1) hW1.ti.1.1 hW1.ti.1.2.1 ha htV
    have hl := s_held (V := V1) (hL2.1 Q1).lc ha
    refine ⟨heldV V1 a, buryV V1 a, G3, ?_, by rw [if_pos hp]; exact ⟨s2, n, o, s, (wok_bury hW1 ha htV).mono (by omega)⟩, fun P U hP _ hR h8 => ?_⟩
    · unfold F_X9_kill
      simp only [gl hN, gv hN, g_phas' hN G ha, ht, if_true, if_neg i10, Option.bind_some, t2, g2 hN 1 G1, ol (hL2.1 Q1).lo, cl (hL2.1 Q1).lc, hl, hb, s1, un]
    · have hR1 : Rel V1 ((bgn (thr U)).1 1) := by rw [bgn_1]; exact t1.rel hR
      obtain ⟨U2, b1, b2, b3⟩ := m_dies hP hR1 ha
      obtain ⟨U3, m1, m2⟩ := m_told hP (thr_same U) hG.2.1 h8 b2 b3 (heldV V1 a)
      refine ⟨U3, ?_, by rw [if_pos hp]; exact m2⟩
      unfold F_X10_kill
      simp only [m_thr hP, ml hP, m_isProc' hP (U := thr U) hR ha, ht, if_true, if_neg i10, Option.bind_some, m_bgn hP, m_pagesOf hP hR1 ha htV, b1, m1, un]
theorem T_take (g x : Int32) : TH (fun h => F_X9_take h 0 g x) (fun h => F_X10_take h 756 g x) := act fun im N G z e n o s hG hW => by
  have hN := hG.n
  have c1 : (1 : Int64).toInt = 1 := rfl
  have c9 : (999 : Int64).toInt = 999 := rfl
  have d1 : (1 : Int32).toInt = 1 := rfl
  have d9 : (999 : Int32).toInt = 999 := rfl
  rcases g_cs (get 1 G) g with hf | ⟨k, hk, rfl, ht⟩
  · left
    refine ⟨-2, ?_, fun P U hP _ hR => ⟨thr U, ?_, thr_same U⟩⟩
    · unfold F_X9_take
      simp only [gl hN, gv hN, g_has hN, hf, Bool.false_eq_true, if_false, if_true, Option.bind_some]
    · unfold F_X10_take
      simp only [m_thr hP, ml hP, Option.bind_some, m_isGroup hP (U := thr U) hR, hf, Bool.false_eq_true, if_false, if_true]
  · by_cases hx : 1 ≤ x.toInt ∧ x.toInt ≤ 999
    · right
      obtain ⟨G1, V1, Q1, t1, t2, t3⟩ := c_try hG
      have hL2 := l2_at (im := im) (w1 N) hN G1
      have hW1 := t1.wok hW
      have htV : thV V1 k = true := by rw [t1.th hk]; exact ht
      obtain ⟨V', t', Q', a1, a2, -⟩ := c_take hL2 hW1.ti hk htV hx.2 Q1
      obtain ⟨p1, p2, p3, p4, p5, p6⟩ := tk_post hW1.ti hx.2 a2
      have hW' : WOK _ V' n o s := hW1.tk p1 p2 (p4 hW1.dd) p3
      obtain ⟨G3, s1, s2⟩ := t3 V' Q' t'
      have hp : 0 ≤ t' := ti_nn p5
      rw [if_pos hp] at s2
      refine ⟨t', V', G3, ?_, by rw [if_pos hp]; exact ⟨s2, n, o, s, hW'.mono (by omega)⟩, fun P U hP _ hR h8 => ?_⟩
      · unfold F_X9_take
        simp only [gl hN, gv hN, g_has' hN G hk, ht, if_true, if_neg i10, o_out, d1, d9, if_pos hx, Option.bind_some, t2, g2 hN 1 G1, a1, s1, un]
      · have hR1 : Rel V1 ((bgn (thr U)).1 1) := by rw [bgn_1]; exact t1.rel hR
        obtain ⟨U2, b1, b2, b3⟩ := m_takes hP hR1 hW1.ti hk htV hx.2 (by omega) a2
        obtain ⟨U3, m1, m2⟩ := m_told hP (thr_same U) hG.2.1 h8 b2 b3 t'
        refine ⟨U3, ?_, by rw [if_pos hp]; exact m2⟩
        unfold F_X10_take
        simp only [m_thr hP, ml hP, m_isGroup' hP (U := thr U) hR hk, ht, if_true, if_neg i10, m_within, c1, c9, if_pos hx, Option.bind_some, m_bgn hP, b1, m1, un]
    · left
      refine ⟨-3, ?_, fun P U hP _ hR => ⟨thr U, ?_, thr_same U⟩⟩
      · unfold F_X9_take
        simp only [gl hN, gv hN, g_has' hN G hk, ht, if_true, if_neg i10, o_out, d1, d9, if_neg hx, Option.bind_some]
      · unfold F_X10_take
        simp only [m_thr hP, ml hP, m_isGroup' hP (U := thr U) hR hk, ht, if_true, if_neg i10, m_within, c1, c9, if_neg hx, Option.bind_some]
theorem T_drain (g : Int32) : TH (fun h => F_X9_drain h 0 g) (fun h => F_X10_drain h 756 g) := act fun im N G z e n o s hG hW => by
  have hN := hG.n
  rcases g_cs (get 1 G) g with hf | ⟨k, hk, rfl, ht⟩
  · left
    refine ⟨-2, ?_, fun P U hP _ hR => ⟨thr U, ?_, thr_same U⟩⟩
    · unfold F_X9_drain
      simp only [gl hN, gv hN, g_has hN, hf, Bool.false_eq_true, if_false, if_true, Option.bind_some]
    · unfold F_X10_drain
      simp only [m_thr hP, ml hP, Option.bind_some, m_isGroup hP (U := thr U) hR, hf, Bool.false_eq_true, if_false, if_true]
  · right
    obtain ⟨G1, V1, Q1, t1, t2, t3⟩ := c_try hG
    have hL2 := l2_at (im := im) (w1 N) hN G1
    have hW1 := t1.wok hW
    have htV : thV V1 k = true := by rw [t1.th hk]; exact ht
    obtain ⟨t, a1, a2⟩ := s_emptyStocks (V := V1) (hL2.1 Q1).lt hW1.ti.1.1 hW1.ti.1.2.2.1 (fun x hx hq => ti_nn (hW1.ti.2.1.1 x hx hq)) hk htV
    obtain ⟨V', hV'⟩ : ∃ V', V' = sx (sx V1 14 (noStk V1 k)) 15 t := ⟨_, rfl⟩
    rw [← hV'] at a1 a2
    obtain ⟨p1, p2, p3⟩ := drn_post hW1.ti (r := k) (V1 := V') ⟨t, hV', a2⟩
    have hd : DedOK V' := fun q hq hh => by
      have hc : ∀ c, c ≠ 14 → c ≠ 15 → V'.1 c = V1.1 c := fun c h1 h2 => by rw [hV', sx_1, up_n _ _ h2, sx_1, up_n _ _ h1]
      rw [phV_same (hc 24 (by decide) (by decide))] at hh
      rw [hc 27 (by decide) (by decide), hc 28 (by decide) (by decide), hc 31 (by decide) (by decide)]
      exact hW1.dd q hq hh
    have hW' : WOK _ V' n o s := hW1.tk p1 p2 hd p3
    obtain ⟨G3, s1, s2⟩ := t3 V' Q1 (stkF V1 k)
    have hp : 0 ≤ stkF V1 k := ti_nn (stkF_I hW1.ti.2.1 k).2.1
    rw [if_pos hp] at s2
    refine ⟨stkF V1 k, V', G3, ?_, by rw [if_pos hp]; exact ⟨s2, n, o, s, hW'.mono (by omega)⟩, fun P U hP _ hR h8 => ?_⟩
    · unfold F_X9_drain
      simp only [gl hN, gv hN, g_has' hN G hk, ht, if_true, if_neg i10, Option.bind_some, t2, g2 hN 1 G1, ol (hL2.1 Q1).lo, tl (hL2.1 Q1).lt, a1, s1, un]
    · have hR1 : Rel V1 ((bgn (thr U)).1 1) := by rw [bgn_1]; exact t1.rel hR
      obtain ⟨U2, b1, b2, b3⟩ := m_drains hP hR1 hW1.ti.1.1 hk
      have hR2 : Rel V' (U2.1 1) := b3.same ⟨fun c _ _ h15 _ => by rw [hV', sx_1, up_n _ _ h15], by rw [hV']; rfl⟩
      obtain ⟨U3, m1, m2⟩ := m_told hP (thr_same U) hG.2.1 h8 b2 hR2 (stkF V1 k)
      refine ⟨U3, ?_, by rw [if_pos hp]; exact m2⟩
      unfold F_X10_drain
      simp only [m_thr hP, ml hP, m_isGroup' hP (U := thr U) hR hk, ht, if_true, if_neg i10, Option.bind_some, m_bgn hP, b1, m1, un]
theorem T_charge (p v x : Int32) : TH (fun h => F_X9_charge h 0 p v x) (fun h => F_X10_charge h 756 p v x) := act fun im N G z e n o s hG hW => by
  have hN := hG.n
  rcases wrg_cs (get 1 G) p v x with hf | ⟨hw, ⟨x1, x2⟩, a, k, ha, hk, rfl, rfl, ht⟩
  · left
    refine ⟨wrgF (get 1 G) p v x, ?_, fun P U hP _ hR => ⟨thr U, ?_, thr_same U⟩⟩
    · unfold F_X9_charge
      simp only [gl hN, c_wrong hN, Option.bind_some, if_neg hf]
    · unfold F_X10_charge
      simp only [m_thr hP, ml hP, Option.bind_some, m_refused hP (U := thr U) hR, if_neg hf]
  · right
    obtain ⟨G1, V1, Q1, t1, t2, t3⟩ := c_try hG
    have hL2 := l2_at (im := im) (w1 N) hN G1
    have hW1 := t1.wok hW
    have htV : phV V1 a = true := by rw [t1.ph ha]; exact ht
    obtain ⟨r, Q2, res, Q3, a1, a2, a3, a4⟩ := c_cg hL2 hW1 ha htV hk x1 x2 Q1
    have a1' : F_X3_admit (P2 im N 1 G1 V1 Q1) 752 1 (nI a) (nI k) x = some (r.1, P2 im N 1 G1 r.2 Q2) := a1
    have a2' : F_X3_pressToHigh (P2 im N 1 G1 r.2 Q2) 752 1 (nI a) r.1 = some (res.1, P2 im N 1 G1 res.2 Q3) := a2
    obtain ⟨G3, s1, s2⟩ := t3 res.2 Q3 res.1
    have hb := hW1.bt
    have hwk := cg_wok hW1 ha htV hk x1 x2 a3
    refine ⟨res.1, res.2, G3, ?_, ?_, fun P U hP _ hR h8 => ?_⟩
    · unfold F_X9_charge
      simp only [gl hN, c_wrong hN, hw, if_true, Option.bind_some, t2, g2 hN 1 G1, a1', a2', s1, un]
    · by_cases hp : 0 ≤ res.1
      · rw [if_pos hp] at s2 ⊢
        rcases hwk with h | ⟨h, -⟩
        · rw [h] at hp; exact absurd hp (by decide)
        · exact ⟨s2, n, o, s, h.mono (by omega)⟩
      · rw [if_neg hp] at s2 ⊢; exact s2
    · have hR1 : Rel V1 ((bgn (thr U)).1 1) := by rw [bgn_1]; exact t1.rel hR
      obtain ⟨U2, b1, b2, b3⟩ := m_charges hP hR1 hW1.ti hW1.mx hW1.dd ha htV hk x1 x2 ⟨by omega, hb.2⟩ (hW1.st a ha htV) a3
      by_cases hp : 0 ≤ res.1
      · obtain ⟨U3, m1, m2⟩ := m_told hP (thr_same U) hG.2.1 h8 b2 b3 res.1
        have hn : ¬ res.1 < 0 := Int32.not_lt.mpr hp
        refine ⟨U3, ?_, by rw [if_pos hp]; exact m2⟩
        unfold F_X10_charge
        simp only [m_thr hP, ml hP, m_refused hP (U := thr U) hR, hw, if_true, Option.bind_some, m_bgn hP, b1, if_neg hn, m1, un]
      · obtain ⟨U3, m1, m2⟩ := m_not hP (thr_same U) b2 res.1
        have hn : res.1 < 0 := Int32.not_le.mp hp
        refine ⟨U3, ?_, by rw [if_neg hp]; exact m2⟩
        unfold F_X10_charge
        simp only [m_thr hP, ml hP, m_refused hP (U := thr U) hR, hw, if_true, Option.bind_some, m_bgn hP, b1, if_pos hn, m1, un]
end ACTS3
