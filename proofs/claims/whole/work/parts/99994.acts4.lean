/-! calls that act: uncharge, limit, move -/
variable {kt : Nat}
section ACTS4
variable {V : WV} {n s : Nat} {o : Nat → Nat} {M : Nat → Int32}
theorem add_neg_add (a m : Int32) : a + -m + m = a := by
  rw [Int32.add_assoc, Int32.add_left_neg, Int32.add_zero]
theorem stk_le (hC : Cor V n o) (hN : Num V) {g : Nat} (hg : g < 12) (ht : thV V g = true) {d : Int32} (h0 : 0 ≤ d.toInt) (h9 : d.toInt ≤ 999) : TotLe V (stkA V g (-d)) := fun x hx htx => by
  show (addTo (V.1 15) (pth (pfV V) g) (-d) x).toInt ≤ _
  have ht' := hN.tot hC.2.2.1 hx htx
  rw [addTo_at _ _ (pth_nodup hC.1.tree hg ht)]
  split
  · rw [ti_add (by rw [ti_neg (by omega)]; omega) (by rw [ti_neg (by omega)]; omega), ti_neg (by omega)]; omega
  · exact Int.le_refl _
theorem wok_give (hW : WOK kt V n o s) {p k : Nat} (hp : p < 16) (ht : phV V p = true) (hk : k < 2) {m : Int32} (h0 : 1 ≤ m.toInt) (h9 : m.toInt ≤ 99) (hm : m.toInt ≤ (V.1 (27 + k) p).toInt) : WOK kt (giveV V p k m) n o s := by
  obtain ⟨hC, hN, hL, hS⟩ := id hW.ti
  obtain ⟨g1, g2, g3⟩ := hC.2.1.at hp ht
  have hneg : (-m).toInt = -m.toInt := ti_neg (by omega)
  have hsum := hN.2.2
  obtain ⟨A, hA⟩ : ∃ A, A = pgsA V p k (-m) := ⟨_, rfl⟩
  have nA := hN.pages hp ht hk (d := -m) (by rw [hneg]; omega) (by rw [hneg]; omega)
  have cA := hC.pages hp ht hk (-m)
  have fA := pgsA_fr (V := V) (p := p) hk (-m)
  have thA : thV A = thV V := by rw [hA]; exact fA.th
  rw [← hA] at nA cA fA
  obtain ⟨nA1, nA2, nA3⟩ := nA
  have htA : thV A (hom V p) = true := by rw [thA]; exact g2
  obtain ⟨B, hB⟩ : ∃ B, B = stkA A (hom V p) m := ⟨_, rfl⟩
  have sA := nA1.1 (hom V p) g1 htA
  have nB := nA1.stkA_ g1 htA (d := m) (by omega) (by rw [nA2, nA3, hneg]; omega)
  have cB := cA.stkA_ g1 htA m
  have fB : Fr A B := by rw [hB]; exact stkA_fr _ _
  rw [← hB] at nB cB
  obtain ⟨nB1, nB2, nB3⟩ := nB
  have hFB : Fr V B := fA.trans fB
  have hLB := hL.fr hFB
  have hSB : SwN B := by rw [hB, hA]; exact (hS.pg hk (-m)).st _ _
  have pfA : pfV A = pfV V := by rw [hA]; exact fA.pf ▸ (pgsA_fr (V := V) (p := p) hk (-m)).pf
  have e15 : ∀ x, B.1 15 x = V.1 15 x := fun x => by
    rw [hB]
    show addTo (A.1 15) (pth (pfV A) (hom V p)) m x = _
    rw [pfA, hA, pgsA_15 hk, addTo_at _ _ (pth_nodup hC.1.tree g1 g2), addTo_at _ _ (pth_nodup hC.1.tree g1 g2)]
    by_cases hx : x ∈ pth (pfV V) (hom V p)
    · rw [if_pos hx, if_pos hx, add_neg_add]
    · rw [if_neg hx, if_neg hx]
  have mB : MaxOK B := fun x hx htx => by
    rw [hFB.th] at htx
    rw [e15 x, hFB.1 8 (by decide)]; exact hW.mx x hx htx
  have dA : DedOK A := by rw [hA]; exact pgsA_ded hW.dd ht hk (-m)
  have dB : DedOK B := by rw [hB]; exact dA
  have hWB : WOK kt B n o s := hW.fr ⟨cB, nB1, hLB, hSB⟩ hFB dB mB
  have hgv : giveV V p k m = giveS A (hom V p) m := by rw [hA]; rfl
  rw [hgv]
  unfold giveS
  rw [← hB]
  by_cases hb : B.1 14 (hom V p) ≤ A.1 0 4
  · rw [if_pos hb]; exact hWB
  · rw [if_neg hb]
    have htB : thV B (hom V p) = true := by rw [fB.th]; exact htA
    have sB := nB1.stock g1 htB
    have hng : (-B.1 14 (hom V p)).toInt = -(B.1 14 (hom V p)).toInt := ti_neg (by omega)
    have hsB := nB1.2.2
    have nC := nB1.stkA_ g1 htB (d := -B.1 14 (hom V p)) (by rw [hng]; omega) (by rw [hng]; omega)
    have tl := stk_le cB nB1 g1 htB (d := B.1 14 (hom V p)) (by omega) (by omega)
    have fC : Fr B (stkA B (hom V p) (-B.1 14 (hom V p))) := stkA_fr _ _
    exact hWB.fr ⟨cB.stkA_ g1 htB _, nC.1, hLB.fr fC, hSB.st _ _⟩ fC dB (mB.le tl fC)
theorem T_uncharge (p v x : Int32) : TH (fun h => F_X9_uncharge h 0 p v x) (fun h => F_X10_uncharge h 756 p v x) := act fun im N G z e n o s hG hW => by
  have hN := hG.n
  rcases wrg_cs (get 1 G) p v x with hf | ⟨hw, ⟨x1, x2⟩, a, k, ha, hk, rfl, rfl, ht⟩
  · left
    refine ⟨wrgF (get 1 G) p v x, ?_, fun P U hP _ hR => ⟨thr U, ?_, thr_same U⟩⟩
    · unfold F_X9_uncharge
      simp only [gl hN, c_wrong hN, Option.bind_some, if_neg hf]
    · unfold F_X10_uncharge
      simp only [m_thr hP, ml hP, Option.bind_some, m_refused hP (U := thr U) hR, if_neg hf]
  · have r1 : gR (PG im N G) 24 0 2 = some 27 := at_lv (F := fun h => gR h 24 0 2) hN G fun P hX => (cl hX.1.lc).2.2.2.1 _
    have r2 : aR (PG im N G) 27 15 (nI k) = some (1 + (27 + k)) := at_lv (F := fun h => aR h 27 15 (nI k)) hN G fun P hX => hX.1.ldr (V := get 1 G) (o := 26) (t := 15) (len := 2) (i := k) (z := 27 + k) (by decide) (by decide) rfl (by decide) hk (by show (if k < 2 then some (27 + k) else none) = some _; rw [if_pos hk])
    have r3 : aI (PG im N G) (1 + (27 + k)) (nI a) = some ((get 1 G).1 (27 + k) a) := at_lv (F := fun h => aI h (1 + (27 + k)) (nI a)) hN G fun P hX => hX.1.ldi (V := get 1 G) (o := 27 + k) (by omega) (by omega) (tT_27 k hk) (by decide) ha
    by_cases hx : x ≤ (get 1 G).1 (27 + k) a
    · right
      obtain ⟨G1, V1, Q1, t1, t2, t3⟩ := c_try hG
      have hL2 := l2_at (im := im) (w1 N) hN G1
      have hW1 := t1.wok hW
      have htV : phV V1 a = true := by rw [t1.ph ha]; exact ht
      obtain ⟨g1, j2, g3⟩ := hW1.ti.1.2.1.at ha htV
      have hxV : x.toInt ≤ (V1.1 (27 + k) a).toInt := by
        rw [t1.c (27 + k) (by omega) a ha]
        rw [ti_le] at hx; exact hx
      have hgb := s_giveBack (hL2.1 Q1) hW1.ti.1.1 hW1.ti.1.2.1 ha htV hk x
      obtain ⟨V', hV'⟩ : ∃ V', V' = giveV V1 a k x := ⟨_, rfl⟩
      rw [← hV'] at hgb
      have hW' := wok_give hW1 ha htV hk x1 x2 hxV
      rw [← hV'] at hW'
      have hge : ∀ (W : WV) (g : Nat) (m : Int32) (c : Nat), c ≠ 14 → c ≠ 15 → (giveS W g m).1 c = W.1 c := fun W g m c h1 h2 => by
        have hs : ∀ (W : WV) (d : Int32), (stkA W g d).1 c = W.1 c := fun W d => by unfold stkA; rw [sx_1, up_n _ _ h2, sx_1, up_n _ _ h1]
        unfold giveS
        split
        · rw [hs]
        · rw [hs, hs]
      have v27 : V'.1 (27 + k) a = V1.1 (27 + k) a + -x := by
        rw [hV']
        unfold giveV
        rw [hge _ _ _ _ (by omega) (by omega)]
        unfold pgsA
        rw [sx_1, up_n _ _ (by omega), sx_1, up_s, upd_s]
      obtain ⟨y, hy⟩ : ∃ y, y = V1.1 (27 + k) a + -x := ⟨_, rfl⟩
      have hyI : y.toInt = (V1.1 (27 + k) a).toInt - x.toInt := by
        have hneg : (-x).toInt = -x.toInt := ti_neg (by omega)
        have hb : (V1.1 (27 + k) a).toInt ≤ 999 := by
          have h1 := hW1.ti.2.1.held ha htV
          have h2 : k = 0 ∨ k = 1 := by omega
          rcases h2 with rfl | rfl
          · show (V1.1 27 a).toInt ≤ 999; omega
          · show (V1.1 28 a).toInt ≤ 999; omega
        rw [hy, ti_add (by rw [hneg]; omega) (by rw [hneg]; omega), hneg]; omega
      rw [← hy] at v27
      obtain ⟨G3, s1, s2⟩ := t3 V' Q1 y
      have hp : 0 ≤ y := ti_nn (by omega)
      rw [if_pos hp] at s2
      refine ⟨y, V', G3, ?_, by rw [if_pos hp]; exact ⟨s2, n, o, s, hW'.mono (by omega)⟩, fun P U hP _ hR h8 => ?_⟩
      · unfold F_X9_uncharge
        simp only [gl hN, gv hN, c_wrong hN, hw, if_true, Option.bind_some, r1, r2, r3, if_pos hx, t2, g2 hN 1 G1, ol (hL2.1 Q1).lo, cl (hL2.1 Q1).lc, hgb, hk, ha, v27, s1, un]
      · have hR0 : Rel (get 1 G) ((thr U).1 1) := hR
        have hR1 : Rel V1 ((bgn (thr U)).1 1) := by rw [bgn_1]; exact t1.rel hR
        obtain ⟨B, hB⟩ : ∃ B, B = bgn (thr U) := ⟨_, rfl⟩
        rw [← hB] at hR1
        have f0 := m_prk hP hR0 ha ht hk
        have f1 : F_X10_ofProcess (P B) 756 (nI a) (2 + nI k) (-x) = some (y, P (sx B 1 (upd (B.1 1) (415 + 8 * a + (2 + k)) y))) := by
          have := m_prD hP hR1 ha htV (f := 2 + k) (by omega) (-x)
          rw [cp_k hk, ← hy, ← nI_add] at this
          exact this
        obtain ⟨C, hC⟩ : ∃ C, C = sx B 1 (upd (B.1 1) (415 + 8 * a + (2 + k)) y) := ⟨_, rfl⟩
        rw [← hC] at f1
        obtain ⟨A, hA⟩ : ∃ A, A = pgsA V1 a k (-x) := ⟨_, rfl⟩
        have hRC : Rel A (C.1 1) := by
          rw [hC, hA, hy]; exact hR1.pgsM ha hk (-x)
        have phA : phV A = phV V1 := by rw [hA]; exact pgsA_ph hk _
        have thA : thV A = thV V1 := by rw [hA]; exact (pgsA_fr hk _).th
        have f2 : F_X10_groupOf (P C) 756 (nI a) = some (nI (hom V1 a), P C) := by
          rw [m_home hP hRC ha (by rw [phA]; exact htV)]
          have : A.1 24 a = V1.1 24 a := by rw [hA, pgsA_c _ (by decide) (by omega)]
          rw [this, g3]
        have A14 : A.1 14 = V1.1 14 := by rw [hA]; exact pgsA_14 hk _
        have A04 : A.1 0 = V1.1 0 := by rw [hA]; exact pgsA_c _ (by decide) (by omega)
        obtain ⟨D, hD⟩ : ∃ D, D = sx C 1 (upd (C.1 1) (7 + 34 * hom V1 a + 10) (A.1 14 (hom V1 a) + x)) := ⟨_, rfl⟩
        have hRD : Rel (stkA A (hom V1 a) x) (D.1 1) := by rw [hD]; exact hRC.stkM g1 x
        have f3 : F_X10_of (P C) 756 (nI (hom V1 a)) 10 x = some (A.1 14 (hom V1 a) + x, P D) := by
          rw [hD]
          exact m_ofD hP hRC g1 (by rw [thA]; exact j2) (f := 10) (by decide) (by decide) x
        have d3 : D.1 1 3 = A.1 0 4 := hRD.1.2.2.2.1
        have s14 : (stkA A (hom V1 a) x).1 14 (hom V1 a) = A.1 14 (hom V1 a) + x := by
          show upd (A.1 14) (hom V1 a) (A.1 14 (hom V1 a) + x) (hom V1 a) = _
          rw [upd_s]
        have hgv : V' = giveS A (hom V1 a) x := by rw [hV', hA]; rfl
        have key : ∃ E, F_X10_givesBack (P C) 756 (nI (hom V1 a)) x = some (P E) ∧ Keep C E ∧ Rel V' (E.1 1) := by
          have kD : Keep C D := by rw [hD]; exact Keep.up C (by omega) _
          rw [hgv]
          unfold giveS F_X10_givesBack
          rw [s14]
          by_cases hb : A.1 14 (hom V1 a) + x ≤ A.1 0 4
          · refine ⟨D, ?_, kD, by rw [if_pos hb]; exact hRD⟩
            simp only [ml hP, ml0 hP, f3, Option.bind_some, un, d3, if_pos hb]
          · refine ⟨sx D 1 (upd (D.1 1) (7 + 34 * hom V1 a + 10) 0), ?_, kD.trans (Keep.up D (by omega) _), ?_⟩
            · have f4 : F_X10_lays (P D) 756 (nI (hom V1 a)) 10 0 = some (P (sx D 1 (upd (D.1 1) (7 + 34 * hom V1 a + 10) 0))) := m_lays (f := 10) hP g1 (by decide) 0
              simp only [ml hP, ml0 hP, f3, Option.bind_some, un, d3, if_neg hb, f4]
            · rw [if_neg hb]
              have := hRD.stkM g1 (-(A.1 14 (hom V1 a) + x))
              rw [s14, Int32.add_right_neg] at this
              exact this
        obtain ⟨E, e1, e2, e3⟩ := key
        have hk2 : Keep (bgn (thr U)) E := by
          rw [← hB]
          refine Keep.trans ?_ e2
          rw [hC]; exact Keep.up B (by omega) _
        obtain ⟨U3, m1, m2⟩ := m_told hP (thr_same U) hG.2.1 h8 hk2 e3 y
        refine ⟨U3, ?_, by rw [if_pos hp]; exact m2⟩
        unfold F_X10_uncharge
        simp only [m_thr hP, ml hP, m_refused hP (U := thr U) hR, hw, if_true, Option.bind_some, f0, un, if_pos hx, m_bgn hP, ← hB, f1, f2, e1, m1]
    · left
      refine ⟨-4, ?_, fun P U hP _ hR => ⟨thr U, ?_, thr_same U⟩⟩
      · unfold F_X9_uncharge
        simp only [gl hN, gv hN, c_wrong hN, hw, if_true, Option.bind_some, r1, r2, r3, if_neg hx]
      · have f0 := m_prk hP (U := thr U) hR ha ht hk
        unfold F_X10_uncharge
        simp only [m_thr hP, ml hP, m_refused hP (U := thr U) hR, hw, if_true, Option.bind_some, f0, un, if_neg hx]
end ACTS4
