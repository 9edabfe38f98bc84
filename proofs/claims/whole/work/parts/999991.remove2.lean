/-! calls that act: remove, whole -/
variable {kt : Nat}
section REMOVE2
variable {V : WV} {n s : Nat} {o : Nat → Nat} {g : Nat}
theorem wok_gone (hW : WOK kt V n o s) (hg : g < 12) (ht : thV V g = true) (h0 : g ≠ 0) (hu : useG V g = false) {r : Nat} (hr : r < n) (hor : o r = g) {R : Nat → Int32} (hR : drpR V n o r R) : WOK kt (goneG V n g s R) (n - 1) (fun j => if j < r then o j else o (j + 1)) (tdF V g s).2 := by
  obtain ⟨hC, hN, hL, hS⟩ := id hW.ti
  obtain ⟨u1, u2⟩ := use_no hu
  obtain ⟨s4, s52, s3⟩ := hW.tg
  have st := hN.stock hg ht
  have hneg : (-V.1 14 g).toInt = -(V.1 14 g).toInt := ti_neg (by omega)
  obtain ⟨W, hWd⟩ : ∃ W, W = stkA V g (-V.1 14 g) := ⟨_, rfl⟩
  have cW := hC.stkA_ hg ht (-V.1 14 g)
  have nW := hN.stkA_ hg ht (d := -V.1 14 g) (by rw [hneg]; omega) (by rw [hneg]; have := hN.2.2; omega)
  have lW := stk_le hC hN hg ht (d := V.1 14 g) (by omega) (by omega)
  rw [← hWd] at cW nW lW
  have thW : thV W = thV V := by rw [hWd]; rfl
  have pfW : pfV W = pfV V := by rw [hWd]; rfl
  have Wc : ∀ c, c ≠ 14 → c ≠ 15 → W.1 c = V.1 c := fun c h1 h2 => by rw [hWd]; unfold stkA; rw [sx_1, up_n _ _ h2, sx_1, up_n _ _ h1]
  have W14 : W.1 14 = upd (V.1 14) g 0 := by
    rw [hWd]
    show upd (V.1 14) g (V.1 14 g + -V.1 14 g) = _
    rw [Int32.add_right_neg]
  have c : ∀ c, c ≠ 1 → c ≠ 2 → c ≠ 3 → c ≠ 14 → c ≠ 15 → c < 52 → (goneG V n g s R).1 c = V.1 c := fun c a1 a2 a3 a4 a5 a6 => gone_c c a1 a2 a3 a4 a5 a6
  have e0 := c 0 (by decide) (by decide) (by decide) (by decide) (by decide) (by decide)
  have e24 := c 24 (by decide) (by decide) (by decide) (by decide) (by decide) (by decide)
  have g15 : (goneG V n g s R).1 15 = W.1 15 := by
    unfold goneG drpT
    rw [sx_1, up_n _ _ (by decide), td_c s (by omega), hWd]; rfl
  have hoff : Off W (goneG V n g s R) g := by
    refine ⟨fun z hz => ?_, fun y hy hne hty hm => ?_, fun z hz => ?_, fun _ => ?_, fun h => ?_, ?_, ?_, ?_, ?_, fun p hp hh e => ?_⟩
    · rw [gone_2, upd_ne _ _ hz, Wc 2 (by decide) (by decide)]
    · rw [thW] at hty
      rw [pfW] at hm
      have := no_path hC.1 hg u1 hy hty hne
      unfold blw at this
      exact absurd hm (of_decide_eq_false this)
    · rw [gone_14 hz, W14, upd_ne _ _ hz]
    · rw [W14, upd_s]
    · rw [gone_thg] at h; cases h
    · rw [e24, Wc 24 (by decide) (by decide)]
    · rw [c 27 (by decide) (by decide) (by decide) (by decide) (by decide) (by decide), Wc 27 (by decide) (by decide)]
    · rw [c 28 (by decide) (by decide) (by decide) (by decide) (by decide) (by decide), Wc 28 (by decide) (by decide)]
    · rw [c 29 (by decide) (by decide) (by decide) (by decide) (by decide) (by decide), Wc 29 (by decide) (by decide)]
    · have hh' : phV V p = true := by rw [← phV_same (Wc 24 (by decide) (by decide))]; exact hh
      have e' : hom V p = g := by
        have : hom W p = hom V p := by unfold hom; rw [Wc 24 (by decide) (by decide)]
        rw [← this]; exact e
      exact u2 p hp hh' (by rw [(hC.2.1.at hp hh').2.2, e'])
  have hth : ∀ x, x ≠ g → thV (goneG V n g s R) x = thV V x := fun x hx => gone_th hx
  have tne : ∀ x, thV (goneG V n g s R) x = true → x ≠ g := fun x h z => by rw [z, gone_thg] at h; cases h
  have hOrd : OrdOK (goneG V n g s R) (n - 1) (fun j => if j < r then o j else o (j + 1)) := by
    have := drp_ord hC.1 hg h0 hr hor hR u1
    have cc : ∀ c, c < 52 → (goneG V n g s R).1 c = (drpV V n g R).1 c := fun c hc => by
      unfold goneG drpT
      rw [sx_1, up_n _ _ (by omega), td_c s (by omega)]
    exact this.same (cc 1 (by decide)) (cc 2 (by decide)) (cc 3 (by decide))
  refine ⟨⟨⟨hOrd, hoff.home cW.2.1, hoff.totok cW.2.1 cW.2.2.1 (fun z hz => by rw [g15]) (fun h => by rw [gone_thg] at h; cases h), hoff.outok cW.2.1 cW.2.2.2 (fun z hz => by rw [c 16 (by decide) (by decide) (by decide) (by decide) (by decide) (by decide), Wc 16 (by decide) (by decide)]) (fun h => by rw [gone_thg] at h; cases h)⟩, hoff.num nW.1, ?_, hoff.sw (by rw [e0, Wc 0 (by decide) (by decide)]) (by rw [hWd]; exact hS.st _ _)⟩, ?_, ?_, ?_, ?_, ?_, ?_, ?_, ?_⟩
  · intro x hx htx
    have hne := tne x htx
    rw [hth x hne] at htx
    rw [c 5 (by decide) (by decide) (by decide) (by decide) (by decide) (by decide), c 6 (by decide) (by decide) (by decide) (by decide) (by decide) (by decide), c 7 (by decide) (by decide) (by decide) (by decide) (by decide) (by decide), c 8 (by decide) (by decide) (by decide) (by decide) (by decide) (by decide), c 10 (by decide) (by decide) (by decide) (by decide) (by decide) (by decide), c 11 (by decide) (by decide) (by decide) (by decide) (by decide) (by decide), c 12 (by decide) (by decide) (by decide) (by decide) (by decide) (by decide)]
    exact hL x hx htx
  · intro x hx htx
    have hne := tne x htx
    rw [hth x hne] at htx
    rw [g15, c 8 (by decide) (by decide) (by decide) (by decide) (by decide) (by decide)]
    exact Int.le_trans (lW x hx htx) (hW.mx x hx htx)
  · have h := hW.dd
    unfold DedOK at h ⊢
    rw [phV_same e24, c 27 (by decide) (by decide) (by decide) (by decide) (by decide) (by decide), c 28 (by decide) (by decide) (by decide) (by decide) (by decide) (by decide), c 31 (by decide) (by decide) (by decide) (by decide) (by decide) (by decide)]; exact h
  · refine ⟨by have := td_k (V := V) (g := g) s; omega, gone_k, fun i hi => ?_⟩
    obtain ⟨l, l1, l2, l3⟩ := td_src (V := V) (g := g) s i hi
    obtain ⟨⟨b1, b2, b3⟩, b4⟩ := s3 l l1
    have v53 : (goneG V n g s R).1 53 i = V.1 53 l := by
      have := gone_t (V := V) (n := n) (g := g) (s := s) (R := R) 0 (by decide)
      have e : (goneG V n g s R).1 53 = (tdF V g s).1.1 53 := this
      rw [e]; exact l3 0 (by decide)
    have v54 : (goneG V n g s R).1 54 i = V.1 54 l := by
      have := gone_t (V := V) (n := n) (g := g) (s := s) (R := R) 1 (by decide)
      have e : (goneG V n g s R).1 54 = (tdF V g s).1.1 54 := this
      rw [e]; exact l3 1 (by decide)
    have et : trg (goneG V n g s R) i = trg V l := by unfold trg; rw [v53]
    have ew : tww (goneG V n g s R) i = tww V l := by unfold tww; rw [v54]
    have hne : trg V l ≠ g := fun z => l2 (by rw [b3, z])
    rw [et, ew, v53, v54]
    exact ⟨⟨b1, by rw [hth _ hne]; exact b2, b3⟩, b4⟩
  · have h := hW.st
    unfold StB at h ⊢
    rw [phV_same e24, c 30 (by decide) (by decide) (by decide) (by decide) (by decide) (by decide)]; exact h
  · have h := hW.td
    unfold TdB at h ⊢
    rw [phV_same e24, c 31 (by decide) (by decide) (by decide) (by decide) (by decide) (by decide)]; exact h
  · rw [e0]; exact hW.bt
  · rw [e0]; exact hW.cap
  · rw [e0]; exact hW.tik
theorem T_remove (x : Int32) : TH (fun h => F_X9_remove h 0 x) (fun h => F_X10_remove h 756 x) := act fun im N G z e n o s hG hW => by
  have hN := hG.n
  rcases g_cs (get 1 G) x with hf | ⟨k, hk, rfl, ht⟩
  · left
    refine ⟨-2, ?_, fun P U hP _ hR => ⟨thr U, ?_, thr_same U⟩⟩
    · unfold F_X9_remove
      simp only [gl hN, gv hN, g_has hN, hf, Bool.false_eq_true, if_false, if_true, Option.bind_some]
    · unfold F_X10_remove
      simp only [m_thr hP, ml hP, Option.bind_some, m_isGroup hP (U := thr U) hR, hf, Bool.false_eq_true, if_false, if_true]
  · have hO := hW.ti.1.1
    have hH := hW.ti.1.2.1
    have r1 : F_X6_bitsBelow (PG im N G) 2 (nI k) = some (mkB 12 (fun g => thV (get 1 G) g && blw (pfV (get 1 G)) k g)) := at_lv (F := fun h => F_X6_bitsBelow h 2 (nI k)) hN G fun P hX => s_bits hX.1.lt hO hk ht
    have r2 : F_X8_bitsOfProcesses (PG im N G) 1 (nI k) = some (mkB 16 (prB (get 1 G) k)) := at_lv (F := fun h => F_X8_bitsOfProcesses h 1 (nI k)) hN G fun P hX => s_bitsP hX.1 hO hH hk ht
    by_cases k0 : nI k = 0
    · left
      refine ⟨-5, ?_, fun P U hP _ hR => ⟨thr U, ?_, thr_same U⟩⟩
      · unfold F_X9_remove
        simp only [gl hN, gv hN, g_has' hN G hk, ht, if_true, if_neg i10, r1, Option.bind_some]
        split <;> simp only [Option.bind_some, if_pos k0]
      · unfold F_X10_remove
        simp only [m_thr hP, ml hP, Option.bind_some, m_isGroup' hP (U := thr U) hR hk, ht, if_true, if_neg i10, if_pos k0]
    · have hk0 : k ≠ 0 := fun z => k0 (by rw [z]; rfl)
      cases hu : useG (get 1 G) k
      · obtain ⟨b1, b2⟩ := bits_no hO hH hk ht hu
        right
        obtain ⟨G1, V1, Q1, t1, t2, t3⟩ := c_try hG
        have hL2 := l2_at (im := im) (w1 N) hN G1
        have hW1 := t1.wok hW
        have htV : thV V1 k = true := by rw [t1.th hk]; exact ht
        have huV : useG V1 k = false := by
          obtain ⟨q1, q2⟩ := use_no hu
          unfold useG
          rw [Bool.or_eq_false_iff, List.any_eq_false, List.any_eq_false]
          refine ⟨fun c hc h => ?_, fun p hp h => ?_⟩
          · have hc := List.mem_range.mp hc
            rw [t1.th hc, t1.t 2 (by omega) c hc, Bool.and_eq_true] at h
            exact q1 c hc h.1 (of_decide_eq_true h.2)
          · have hp := List.mem_range.mp hp
            rw [t1.ph hp, t1.c 24 (by omega) p hp, Bool.and_eq_true] at h
            exact q2 p hp h.1 (of_decide_eq_true h.2)
        obtain ⟨u, p1, p2, p3, p4⟩ := hW1.ti.1.1.par hk htV hk0
        obtain ⟨rk, k1, k2⟩ := hW1.ti.1.1.rk
        obtain ⟨hr, hor⟩ := k2 k hk htV
        obtain ⟨R, d1, d2⟩ := s_dropGroup (V := V1) (hL2.1 Q1).lt hW1.ti.1.1 hk htV hr hor
        have v52 : (drpV V1 n k R).1 52 4 = nI s := by
          rw [drp_c 52 (by decide) (by decide) (by decide) (by decide) (by decide)]; exact hW1.tg.2.1
        have d3 := s_dropOf (V := drpV V1 n k R) (hL2.1 Q1).lr hW1.tg.1 v52 hk
        have d3' : F_X7_dropOf (P2 im N 1 G1 (drpV V1 n k R) Q1) (1 + 52) (nI k) = some (P2 im N 1 G1 (goneG V1 n k s R) Q1) := d3
        obtain ⟨G3, s1, s2⟩ := t3 (goneG V1 n k s R) Q1 (nI u)
        have h0 : 0 ≤ nI u := ti_nn (by rw [nI_toInt (by omega)]; omega)
        rw [if_pos h0] at s2
        have b1' : mkB 12 (fun g => thV (get 1 G) g && blw (pfV (get 1 G)) k g) = 1 <<< (nI k &&& 31) := b1
        refine ⟨nI u, goneG V1 n k s R, G3, ?_, by rw [if_pos h0]; exact ⟨s2, n - 1, _, _, (wok_gone hW1 hk htV hk0 huV hr hor d2).mono (by omega)⟩, fun P U hP _ hR h8 => ?_⟩
        · unfold F_X9_remove
          simp only [gl hN, gv hN, g_has' hN G hk, ht, if_true, if_neg i10, r1, Option.bind_some, if_pos b1', if_neg k0, r2, b2, t2, g2 hN 1 G1, ol (hL2.1 Q1).lo, tl (hL2.1 Q1).lt, tr (hL2.1 Q1).lr, hk, p3, d1, d3', s1, un]
        · have hR1 : Rel V1 ((bgn (thr U)).1 1) := by rw [bgn_1]; exact t1.rel hR
          obtain ⟨B, hB⟩ : ∃ B, B = bgn (thr U) := ⟨_, rfl⟩
          rw [← hB] at hR1
          obtain ⟨M1, q1, q2, q3⟩ := m_drpT hP hR1 hW1.tg.1 hW1.tg.2.1 hk (nI u)
          obtain ⟨C, hC⟩ : ∃ C, C = sx B 1 (upd (upd M1 4 (nI (tdF V1 k s).2)) 0 (M1 0 &&& ((1 <<< (nI k &&& 31)) ^^^ (-1)))) := ⟨_, rfl⟩
          have e1 : ∀ f, (sx B 1 f).1 1 = f := fun f => rfl
          have w4 : sI (P (sx B 1 M1)) (756 + 1) 4 (nI (tdF V1 k s).2) = some (P (sx B 1 (upd M1 4 (nI (tdF V1 k s).2)))) := by
            have := (ml0 hP).2.2.2.2.2.2.2.2.2.1 (sx B 1 M1) (nI (tdF V1 k s).2)
            rw [sx_sx, e1] at this
            exact this
          have n0 : upd M1 4 (nI (tdF V1 k s).2) 0 = M1 0 := upd_ne _ _ (by decide)
          have w0 : aI (P (sx B 1 (upd M1 4 (nI (tdF V1 k s).2)))) (756 + 1) 0 = some (M1 0) := by
            have := (ml0 hP).1 (sx B 1 (upd M1 4 (nI (tdF V1 k s).2)))
            rw [e1, n0] at this
            exact this
          have w0' : sI (P (sx B 1 (upd M1 4 (nI (tdF V1 k s).2)))) (756 + 1) 0 (M1 0 &&& ((1 <<< (nI k &&& 31)) ^^^ (-1))) = some (P C) := by
            have := (ml0 hP).2.1 (sx B 1 (upd M1 4 (nI (tdF V1 k s).2))) (M1 0 &&& ((1 <<< (nI k &&& 31)) ^^^ (-1)))
            rw [sx_sx, e1, ← hC] at this
            exact this
          have c11 : C.1 1 = upd (upd M1 4 (nI (tdF V1 k s).2)) 0 (M1 0 &&& ((1 <<< (nI k &&& 31)) ^^^ (-1))) := by rw [hC]; rfl
          obtain ⟨M2, z1, z2, z3⟩ := m_zeroG hP hk (fun x => F_X10_remove_L156 756 (nI k) (nI u) x.1 x.2) (fun j W hj => by
            show F_X10_remove_L156 756 (nI k) (nI u) (nI j) (P W) = _
            unfold F_X10_remove_L156
            rw [h34I, if_neg (nI_ge hj (by decide))]
            simp only [ml hP, bl, nI_1]) (fun W => by
            show F_X10_remove_L156 756 (nI k) (nI u) (nI 34) (P W) = _
            unfold F_X10_remove_L156
            rw [h34I, if_pos (nI_le (Nat.le_refl _) (by decide))]) C
          have hR2 : Rel (goneG V1 n k s R) M2 := by
            refine hR1.gone hk ?_ ?_ ?_ (fun i i0 i4 hi h543 => ?_)
            · rw [z3 0 (by omega), c11, upd_s, q2 0 (by omega)]
            · rw [z3 4 (by omega), c11, upd_ne _ _ (by decide), upd_s]
            · intro i j hi hj
              rw [z3 _ (by omega), c11, upd_ne _ _ (by omega), upd_ne _ _ (by omega)]
              exact q3 i j hi hj
            · rw [z3 i hi, c11, upd_ne _ _ i0, upd_ne _ _ i4, q2 i (by omega)]
          have hk2 : Keep (bgn (thr U)) (sx C 1 M2) := by
            rw [← hB]
            have k1 : Keep B C := by
              rw [hC]
              refine Keep.sx1 B fun i hi => ?_
              rw [upd_ne _ _ (by omega), upd_ne _ _ (by omega), q2 i (by omega)]
            exact k1.trans (Keep.sx1 C fun i hi => z3 i (by omega))
          obtain ⟨U3, m1, m2⟩ := m_told hP (thr_same U) hG.2.1 h8 hk2 hR2 (nI u)
          have pa : F_X10_parentOf (P B) 756 (nI k) = some (nI u, P B) := by rw [m_parent hP hR1 hk htV, p3]
          refine ⟨U3, ?_, by rw [if_pos h0]; exact m2⟩
          unfold F_X10_remove
          simp only [m_thr hP, ml hP, Option.bind_some, m_isGroup' hP (U := thr U) hR hk, ht, if_true, if_neg i10, if_neg k0, m_isInUse hP (U := thr U) hR hk, hu, Bool.false_eq_true, if_false, un, m_bgn hP, ← hB, pa, q1, bl, w4, w0, w0', z1, m1]
      · left
        refine ⟨-5, ?_, fun P U hP _ hR => ⟨thr U, ?_, thr_same U⟩⟩
        · have hy := bits_yes hO hH hk ht hk0 hu
          unfold F_X9_remove
          simp only [gl hN, gv hN, g_has' hN G hk, ht, if_true, if_neg i10, r1, Option.bind_some]
          by_cases hb : mkB 12 (fun g => thV (get 1 G) g && blw (pfV (get 1 G)) k g) = 1 <<< (nI k &&& 31)
          · have hp : ¬ mkB 16 (prB (get 1 G) k) = 0 := by
              rcases hy with h | h
              · exact absurd hb h
              · exact h
            simp only [if_pos hb, Option.bind_some, if_neg k0, if_true, r2, if_neg hp]
          · simp only [if_neg hb, Option.bind_some, if_neg k0, if_neg i10]
        · unfold F_X10_remove
          simp only [m_thr hP, ml hP, Option.bind_some, m_isGroup' hP (U := thr U) hR hk, ht, if_true, if_neg i10, if_neg k0, m_isInUse hP (U := thr U) hR hk, hu, un]
end REMOVE2
