/-! calls on paper: weigh -/
variable {kt : Nat}
def wgV (A : WV) (g w : Nat) : WV := sx A 11 (upd (A.1 11) g (nI w))
def Wt (A : WV) (g w : Nat) (t : Int32) : Prop := ∃ Af Gt, FixA (perV (wgV A g w)) Af ∧ FixG (perV (wgV A g w)) Af (mnI (A.1 0 6) (Af 0)) Gt ∧ Gt g = t
def Wgh (A : WV) (g : Nat) (u : Int32) : Nat → Int32 → Prop
  | 0, r => r = -1
  | d + 1, r => ∃ t, Wt A g (9 - d) t ∧ (if t < u then Wgh A g u d r else r = nI (9 - d))
section WEIGH
variable {A : WV} {n s : Nat} {o : Nat → Nat} {g w : Nat}
theorem wg_c {c : Nat} (h : c ≠ 11) : (wgV A g w).1 c = A.1 c := up_n _ _ h
theorem wg_ok (hW : WOK kt A n o s) (h1 : 1 ≤ w) (h9 : w ≤ 9) : OrdOK (wgV A g w) n o ∧ HomOK (wgV A g w) ∧ LimR (wgV A g w) ∧ TdB (wgV A g w) := by
  refine ⟨hW.ti.1.1.same rfl rfl rfl, hW.ti.1.2.1.same rfl rfl, fun x hx ht => ?_, hW.td⟩
  have h := hW.ti.2.2.1 x hx ht
  have c : ∀ c, c ≠ 11 → (wgV A g w).1 c = A.1 c := fun c hc => wg_c hc
  rw [c 5 (by decide), c 6 (by decide), c 7 (by decide), c 8 (by decide), c 10 (by decide), c 12 (by decide)]
  refine ⟨h.1, h.2.1, h.2.2.1, h.2.2.2.1, h.2.2.2.2.1, ?_, h.2.2.2.2.2.2⟩
  by_cases e : x = g
  · have : (wgV A g w).1 11 x = nI w := by rw [e]; exact upd_s _ _ _
    rw [this, nI_toInt (by omega)]; omega
  · have : (wgV A g w).1 11 x = A.1 11 x := upd_ne _ _ e
    rw [this]; exact h.2.2.2.2.2.1
theorem c_wt {q b : Nat} {P : WV → WV → Hp} (hP : L2 b q P) (hW : WOK kt A n o s) (h1 : 1 ≤ w) (h9 : w ≤ 9) (Q : WV) : ∃ Af Gt, F_X2_plan (P (wgV A g w) Q) (q + 8) b = some (P (wgV A g w) (sx (sx Q 10 Af) 9 Gt)) ∧ Wt A g w (Gt g) := by
  obtain ⟨a1, a2, a3, a4⟩ := wg_ok (g := g) hW h1 h9
  obtain ⟨Af, Gt, b1, b2, b3⟩ := c_plan2 (Q := Q) hP a1 a2 a3 a4 hW.cap
  exact ⟨Af, Gt, b1, Af, Gt, b2, b3, rfl⟩
theorem c_weigh {im : Nat → Option Nat} {N : Nat} (hN : 775 ≤ N) {G : WV} (hW : WOK kt A n o s) (hg : g < 12) (u : Int32) : ∀ (d f : Nat) (x : Int32) (Q : WV), d ≤ 9 → d < f → ∃ r V Q', (loopF (fun x => F_X9_weigh_L47 0 (nI g) u x.1 x.2) f (nI (10 - d), P2 im N 58 G (sx A 11 (upd (A.1 11) g x)) Q)).bind (sE (fun x => some x) (fun h26 => some ((-1), h26))) = some (r, P2 im N 58 G V Q') ∧ Wgh A g u d r
  | 0, f, x, Q, _, hf => by
    obtain ⟨f, rfl⟩ : ∃ j, f = j + 1 := ⟨f - 1, by omega⟩
    refine ⟨-1, sx A 11 (upd (A.1 11) g x), Q, ?_, rfl⟩
    have : F_X9_weigh_L47 0 (nI g) u (nI (10 - 0)) (P2 im N 58 G (sx A 11 (upd (A.1 11) g x)) Q) = some (.inr (.inr (P2 im N 58 G (sx A 11 (upd (A.1 11) g x)) Q))) := by
      unfold F_X9_weigh_L47
      rw [if_pos (show (9 : Int32) < nI (10 - 0) by decide)]
    rw [loopF]
    dsimp only
    rw [this]; rfl
  | d + 1, f, x, Q, hd, hf => by
    obtain ⟨f, rfl⟩ : ∃ j, f = j + 1 := ⟨f - 1, by omega⟩
    have hL2 := l2_at (im := im) (w58 N) hN G
    have ew : 10 - (d + 1) = 9 - d := by omega
    have h9 : ¬ (9 : Int32) < nI (9 - d) := by
      rw [ti_lt, nI_toInt (by omega)]
      have : (9 : Int32).toInt = 9 := rfl
      omega
    obtain ⟨Af, Gt, a1, a2⟩ := c_wt (g := g) (w := 9 - d) hL2 hW (by omega) (by omega) Q
    have a1' : F_X2_plan (P2 im N 58 G (wgV A g (9 - d)) Q) 753 58 = some (P2 im N 58 G (wgV A g (9 - d)) (sx (sx Q 10 Af) 9 Gt)) := a1
    have g28 : g < 28 := by omega
    have rq : aI (P2 im N 58 G (wgV A g (9 - d)) (sx (sx Q 10 Af) 9 Gt)) 754 (nI g) = some (Gt g) := (hL2.2 _).ldi (V := sx (sx Q 10 Af) 9 Gt) (o := 9) (by decide) (by decide) rfl (by decide) g28
    have r6 : aR (P2 im N 58 G (sx A 11 (upd (A.1 11) g x)) Q) (58 + 4) 15 6 = some (58 + 11) := (hL2.1 Q).lt.ldr (o := 4) (i := 6) (z := 11) (by decide) (by decide) rfl (by decide) (by decide) rfl
    have s6 : sI (P2 im N 58 G (sx A 11 (upd (A.1 11) g x)) Q) (58 + 11) (nI g) (nI (9 - d)) = some (P2 im N 58 G (wgV A g (9 - d)) Q) := by
      have := (hL2.1 Q).sti (V := sx A 11 (upd (A.1 11) g x)) (o := 11) (i := g) (len := 12) (x := nI (9 - d)) (by decide) (by decide) rfl (by decide) hg
      have e : sx (sx A 11 (upd (A.1 11) g x)) 11 (upd ((sx A 11 (upd (A.1 11) g x)).1 11) g (nI (9 - d))) = wgV A g (9 - d) := by
        rw [sx_sx]
        show sx A 11 (upd (upd (A.1 11) g x) g (nI (9 - d))) = _
        rw [upd_uu]; rfl
      rw [e] at this
      exact this
    have st : F_X9_weigh_L47 0 (nI g) u (nI (9 - d)) (P2 im N 58 G (sx A 11 (upd (A.1 11) g x)) Q) = if Gt g < u then some (.inl (nI (9 - d + 1), P2 im N 58 G (wgV A g (9 - d)) (sx (sx Q 10 Af) 9 Gt))) else some (.inr (.inl (nI (9 - d), P2 im N 58 G (wgV A g (9 - d)) (sx (sx Q 10 Af) 9 Gt)))) := by
      unfold F_X9_weigh_L47
      rw [if_neg h9]
      simp only [g2 hN 58 G, ol (hL2.1 Q).lo, tl (hL2.1 Q).lt, Option.bind_some, r6, s6, a1', rq, bl, nI_1]
    rw [ew, loopF]
    dsimp only
    rw [st]
    by_cases h : Gt g < u
    · obtain ⟨r, V, Q', e1, e2⟩ := c_weigh (im := im) (G := G) hN hW hg u d f (nI (9 - d)) (sx (sx Q 10 Af) 9 Gt) (by omega) (by omega)
      refine ⟨r, V, Q', ?_, Gt g, a2, by rw [if_pos h]; exact e2⟩
      rw [if_pos h]
      have : 9 - d + 1 = 10 - d := by omega
      rw [this]
      exact e1
    · refine ⟨nI (9 - d), wgV A g (9 - d), sx (sx Q 10 Af) 9 Gt, ?_, Gt g, a2, by rw [if_neg h]⟩
      rw [if_neg h]; rfl
theorem wt_uniq {P : WV → Hp} {U : WV} (hP : LM 756 P) (hR : Rel A (U.1 1)) (hW : WOK kt A n o s) (hg : g < 12) (h1 : 1 ≤ w) (h9 : w ≤ 9) {t t' : Int32} (ht : Wt A g w t) (ht' : Wt A g w t') : t = t' := by
  obtain ⟨a1, a2, a3, a4⟩ := wg_ok (g := g) hW h1 h9
  have hR' : Rel (wgV A g w) ((sx U 1 (upd (U.1 1) (7 + 34 * g + 6) (nI w))).1 1) := hR.grp (f := 6) hg (by decide) (by decide) (by decide) (nI w)
  obtain ⟨Af, Gt, b1, b2, b3⟩ := ht
  obtain ⟨Af', Gt', d1, d2, d3⟩ := ht'
  obtain ⟨U1, e1, -, -, e4⟩ := m_units hP a1 a2 a3 hR' b1 b2
  obtain ⟨U2, f1, -, -, f4⟩ := m_units hP a1 a2 a3 hR' d1 d2
  rw [e1] at f1
  have hh : P U1 = P U2 := Option.some.inj f1
  have r1 := (ml hP).2.2.2.2.2.2.2.2.2.2.2.2.2.2.2.2.2.1 U1
  have q1 : aI (P U1) (756 + 17) (nI g) = some (U1.1 17 g) := hP.ldi (V := U1) (o := 17) (by decide) (by decide) rfl (by decide) (show g < 28 by omega)
  have q2 : aI (P U2) (756 + 17) (nI g) = some (U2.1 17 g) := hP.ldi (V := U2) (o := 17) (by decide) (by decide) rfl (by decide) (show g < 28 by omega)
  rw [hh, q2] at q1
  have := Option.some.inj q1
  rw [← b3, ← d3, ← e4 g (by omega), ← f4 g (by omega), this]
theorem wgh_uniq {u : Int32} (h : ∀ w t t', 1 ≤ w → w ≤ 9 → Wt A g w t → Wt A g w t' → t = t') : ∀ (d : Nat) (r r' : Int32), d ≤ 9 → Wgh A g u d r → Wgh A g u d r' → r = r'
  | 0, r, r', _, h1, h2 => by rw [show r = -1 from h1, show r' = -1 from h2]
  | d + 1, r, r', hd, ⟨t, t1, t2⟩, ⟨t', t1', t2'⟩ => by
    have e := h (9 - d) t t' (by omega) (by omega) t1 t1'
    subst e
    by_cases hc : t < u
    · rw [if_pos hc] at t2 t2'
      exact wgh_uniq h d r r' (by omega) t2 t2'
    · rw [if_neg hc] at t2 t2'
      rw [t2, t2']
theorem m_weigh {P : WV → Hp} (hP : LM 756 P) (hW : WOK kt A n o s) (hg : g < 12) (hex : ∀ w, 1 ≤ w → w ≤ 9 → ∃ t, Wt A g w t) (u : Int32) : ∀ (m f : Nat) (best : Int32) (U : WV), m ≤ 9 → m < f → Rel A (U.1 1) → Wgh A g u (9 - m) best → ∃ r U', loopF (fun x => F_X10_weigh_L41 756 (nI g) u x.1 x.2.1 x.2.2) f (best, nI m, P U) = some (r, P U') ∧ MSame U U' ∧ Wgh A g u 9 r
  | 0, f, best, U, _, hf, hR, hB => by
    obtain ⟨f, rfl⟩ : ∃ j, f = j + 1 := ⟨f - 1, by omega⟩
    refine ⟨best, U, ?_, MSame.refl U, hB⟩
    have : F_X10_weigh_L41 756 (nI g) u best (nI 0) (P U) = some (.inr (best, P U)) := by
      unfold F_X10_weigh_L41
      rw [if_pos (show nI 0 ≤ 0 by decide)]
    rw [loopF]
    dsimp only
    rw [this]; rfl
  | m + 1, f, best, U, hm, hf, hR, hB => by
    obtain ⟨f, rfl⟩ : ∃ j, f = j + 1 := ⟨f - 1, by omega⟩
    have hpos : ¬ nI (m + 1) ≤ 0 := by
      rw [ti_le, nI_toInt (by omega), ti_0]; omega
    obtain ⟨t, ht⟩ := hex (m + 1) (by omega) hm
    obtain ⟨a1, a2, a3, a4⟩ := wg_ok (g := g) (w := m + 1) hW (by omega) hm
    obtain ⟨Af, Gt, b1, b2, b3⟩ := id ht
    obtain ⟨U0, hU0⟩ : ∃ U0, U0 = cpyM U 1 0 4 0 := ⟨_, rfl⟩
    have hRo : Rel A (U0.1 1) := by rw [hU0, opn_1]; exact hR
    have hR1 : Rel (wgV A g (m + 1)) ((sx U0 1 (upd (U0.1 1) (7 + 34 * g + 6) (nI (m + 1)))).1 1) := hRo.grp (f := 6) hg (by decide) (by decide) (by decide) (nI (m + 1))
    have l1 : F_X10_lays (P U0) 756 (nI g) 6 (nI (m + 1)) = some (P (sx U0 1 (upd (U0.1 1) (7 + 34 * g + 6) (nI (m + 1))))) := m_lays (f := 6) hP hg (by decide) _
    obtain ⟨U1, e1, e2, -, e4⟩ := m_units hP a1 a2 a3 hR1 b1 b2
    have hs : MSame U (cpyM U1 4 0 1 0) := by
      apply paper_same
      rw [← hU0]
      exact ((Keep.up U0 (by omega) _).trans e2).toP
    have e17 : (cpyM U1 4 0 1 0).1 17 g = t := by rw [cpy_c (by decide), e4 g (by omega), b3]
    have g28 : g < 28 := by omega
    have st : F_X10_weigh_L41 756 (nI g) u best (nI (m + 1)) (P U) = some (.inl (if t < u then best else nI (m + 1), nI m, P (cpyM U1 4 0 1 0))) := by
      unfold F_X10_weigh_L41
      rw [if_neg hpos]
      simp only [ml hP, m_opens hP, ← hU0, l1, Option.bind_some, e1, m_closes hP, g28, e17, bl, nI_dn]
      split <;> rfl
    have hB' : Wgh A g u (9 - m) (if t < u then best else nI (m + 1)) := by
      have ed : 9 - m = (9 - (m + 1)) + 1 := by omega
      have ew : 9 - (9 - (m + 1)) = m + 1 := by omega
      rw [ed]
      refine ⟨t, by rw [ew]; exact ht, ?_⟩
      by_cases hc : t < u
      · rw [if_pos hc, if_pos hc]; exact hB
      · rw [if_neg hc, if_neg hc, ew]
    obtain ⟨r, U', d1, d2, d3⟩ := m_weigh hP hW hg hex u m f _ (cpyM U1 4 0 1 0) (by omega) (by omega) (by rw [hs.1 1 (by omega)]; exact hR) hB'
    refine ⟨r, U', ?_, hs.trans d2, d3⟩
    rw [loopF]
    dsimp only
    rw [st]
    exact d1
theorem T_weigh (g u : Int32) : TH (fun h => F_X9_weigh h 0 g u) (fun h => F_X10_weigh h 756 g u) := rdh fun im N G z e n o s hG hW => by
  have hN := hG.n
  have c1 : (1 : Int64).toInt = 1 := rfl
  have c9 : (99 : Int64).toInt = 99 := rfl
  have d1 : (1 : Int32).toInt = 1 := rfl
  have d9 : (99 : Int32).toInt = 99 := rfl
  rcases g_cs (get 1 G) g with hf | ⟨k, hk, rfl, ht⟩
  · refine ⟨-2, ⟨G, ?_, IrC.refl G⟩, fun P U hP _ hR => ⟨thr U, ?_, thr_same U⟩⟩
    · unfold F_X9_weigh
      simp only [gl hN, gv hN, g_has hN, hf, Bool.false_eq_true, if_false, if_true, Option.bind_some]
    · unfold F_X10_weigh
      simp only [m_thr hP, ml hP, Option.bind_some, m_isGroup hP (U := thr U) hR, hf, Bool.false_eq_true, if_false, if_true]
  · by_cases k0 : nI k = 0
    · refine ⟨-2, ⟨G, ?_, IrC.refl G⟩, fun P U hP _ hR => ⟨thr U, ?_, thr_same U⟩⟩
      · unfold F_X9_weigh
        simp only [gl hN, gv hN, g_has' hN G hk, ht, if_true, if_neg i10, if_pos k0, Option.bind_some]
      · unfold F_X10_weigh
        simp only [m_thr hP, ml hP, Option.bind_some, m_isGroup' hP (U := thr U) hR hk, ht, if_true, if_neg i10, if_pos k0]
    · by_cases hv : 1 ≤ u.toInt ∧ u.toInt ≤ 99
      · obtain ⟨A, p1, p2⟩ := c_paper (im := im) hN G
        have hWA := p2.wok hW
        have eA : sx A 11 (upd (A.1 11) k (A.1 11 k)) = A := by rw [upd_id, sx_id]
        obtain ⟨r, V, Q', a1, a2⟩ := c_weigh (im := im) (G := G) hN hWA hk u 9 6000 (A.1 11 k) (get 745 G) (Nat.le_refl _) (by decide)
        rw [eA] at a1
        have hex : ∀ w, 1 ≤ w → w ≤ 9 → ∃ t, Wt A k w t := fun w h1 h9 => by
          obtain ⟨Af, Gt, -, b2⟩ := c_wt (g := k) (w := w) (l2_at (im := im) (w58 N) hN G) hWA h1 h9 (get 745 G)
          exact ⟨_, b2⟩
        refine ⟨r, ⟨put 58 57 V (put 745 11 Q' G), ?_, irc_p2 _ _⟩, fun P U hP _ hR => ?_⟩
        · show F_X9_weigh (PG im N G) 0 (nI k) u = some (r, P2 im N 58 G V Q')
          unfold F_X9_weigh
          simp only [gl hN, gv hN, g_has' hN G hk, ht, if_true, if_neg i10, if_neg k0, o_out, d1, d9, if_pos hv, Option.bind_some, co58 hN, p1]
          exact a1
        · have hRA : Rel A ((thr U).1 1) := p2.rel hR
          obtain ⟨r', U', b1, b2, b3⟩ := m_weigh hP hWA hk hex u 9 6000 (-1) (thr U) (Nat.le_refl _) (by decide) hRA rfl
          have er : r' = r := wgh_uniq (fun w t t' h1 h9 q q' => wt_uniq hP hRA hWA hk h1 h9 q q') 9 r' r (Nat.le_refl _) b3 a2
          rw [er] at b1
          have b1' : loopF (fun x => F_X10_weigh_L41 756 (nI k) u x.1 x.2.1 x.2.2) 6000 (-1, 9, P (thr U)) = some (r, P U') := b1
          refine ⟨U', ?_, (thr_same U).trans b2⟩
          unfold F_X10_weigh
          simp only [m_thr hP, ml hP, Option.bind_some, m_isGroup' hP (U := thr U) hR hk, ht, if_true, if_neg i10, if_neg k0, m_within, c1, c9, if_pos hv, b1', bl]
      · refine ⟨-3, ⟨G, ?_, IrC.refl G⟩, fun P U hP _ hR => ⟨thr U, ?_, thr_same U⟩⟩
        · unfold F_X9_weigh
          simp only [gl hN, gv hN, g_has' hN G hk, ht, if_true, if_neg i10, if_neg k0, o_out, d1, d9, if_neg hv, Option.bind_some]
        · unfold F_X10_weigh
          simp only [m_thr hP, ml hP, Option.bind_some, m_isGroup' hP (U := thr U) hR hk, ht, if_true, if_neg i10, if_neg k0, m_within, c1, c9, if_neg hv]
end WEIGH
