/-! calls that act: limit, move -/
variable {kt : Nat}
section ACTS5
variable {V : WV} {n s : Nat} {o : Nat → Nat} {M : Nat → Int32}
theorem wok_fr2 {W V' : WV} (hW : WOK kt V n o s) (hc : ∀ c, (c < 5 ∨ 14 ≤ c) → W.1 c = V.1 c) (hT : TI V' n o) (hF : Fr W V') (hd : DedOK V') (hM : MaxOK V') : WOK kt V' n o s := by
  have c : ∀ c, c < 5 ∨ c = 17 ∨ c = 18 ∨ 33 ≤ c → V'.1 c = V.1 c := fun c h => (hF.1 c (by omega)).trans (hc c (by omega))
  have hq : ∀ q, q < 16 → phV V' q = true → phV V q = true ∧ V'.1 30 q = V.1 30 q ∧ V'.1 31 q = V.1 31 q := fun q hq hh => by
    obtain ⟨a1, -, -, a4, a5, -⟩ := hF.2.2 q hq hh
    rw [phV_same (hc 24 (by omega))] at a1
    rw [hc 30 (by omega)] at a4
    rw [hc 31 (by omega)] at a5
    exact ⟨a1, a4, a5⟩
  refine ⟨hT, hM, hd, ?_, fun p hp ht => ?_, fun p hp ht => ?_, ?_, ?_, ?_⟩
  · have h := hW.tg
    unfold TrgN trg tww at h ⊢
    rw [c 52 (by omega), c 53 (by omega), c 54 (by omega), thV_same (c 2 (by omega))]; exact h
  · obtain ⟨a1, a4, -⟩ := hq p hp ht
    unfold StB; rw [a4]; exact hW.st p hp a1
  · obtain ⟨a1, -, a5⟩ := hq p hp ht
    rw [a5]; exact hW.td p hp a1
  · rw [c 0 (by omega)]; exact hW.bt
  · rw [c 0 (by omega)]; exact hW.cap
  · rw [c 0 (by omega)]; exact hW.tik
theorem lim_all (hL : LimR V) {g j : Nat} (hj : j < 9) {v : Int32} (hv : ((stt 1).getD j 0).toInt ≤ v.toInt ∧ v.toInt ≤ ((stt 2).getD j 0).toInt) : LimR (limS V g j v) ∧ 0 ≤ v.toInt := by
  have l0 : ∀ j, j < 9 → 0 ≤ ((stt 1).getD j 0).toInt := by decide
  have l6 : 1 ≤ ((stt 1).getD 6 0).toInt := by decide
  have h5 : ∀ j, (j = 0 ∨ j = 1 ∨ j = 2 ∨ j = 3 ∨ j = 5) → ((stt 2).getD j 0).toInt ≤ 999 := by
    rintro j (rfl | rfl | rfl | rfl | rfl) <;> decide
  have h6 : ((stt 2).getD 6 0).toInt ≤ 9 := by decide
  have h7 : ((stt 2).getD 7 0).toInt ≤ 99 := by decide
  have v0 : 0 ≤ v.toInt := Int.le_trans (l0 j hj) hv.1
  refine ⟨fun x hx ht => ?_, v0⟩
  have ht' : thV V x = true := by
    have : thV (limS V g j v) = thV V := thV_same (lim_c (by omega))
    rw [this] at ht; exact ht
  have h := hL x hx ht'
  have cc : ∀ c, (limS V g j v).1 c x = V.1 c x ∨ (c = 5 + j ∧ (limS V g j v).1 c x = v) := fun c => by
    by_cases e : c = 5 + j
    · by_cases ex : x = g
      · right
        refine ⟨e, ?_⟩
        rw [e, ex]
        show va_up V.1 (5 + j) (upd (V.1 (5 + j)) g v) (5 + j) g = v
        rw [up_s, upd_s]
      · left
        rw [e]
        show va_up V.1 (5 + j) (upd (V.1 (5 + j)) g v) (5 + j) x = _
        rw [up_s, upd_ne _ _ ex]
    · left; rw [lim_c e]
  refine ⟨?_, ?_, ?_, ?_, ?_, ?_, ?_⟩
  · rcases cc 5 with q | ⟨q, q'⟩
    · rw [q]; exact h.1
    · have := h5 j (by omega); rw [q']; omega
  · rcases cc 6 with q | ⟨q, q'⟩
    · rw [q]; exact h.2.1
    · have := h5 j (by omega); rw [q']; omega
  · rcases cc 7 with q | ⟨q, q'⟩
    · rw [q]; exact h.2.2.1
    · have := h5 j (by omega); rw [q']; omega
  · rcases cc 8 with q | ⟨q, q'⟩
    · rw [q]; exact h.2.2.2.1
    · have := h5 j (by omega); rw [q']; omega
  · rcases cc 10 with q | ⟨q, q'⟩
    · rw [q]; exact h.2.2.2.2.1
    · have := h5 j (by omega); rw [q']; omega
  · rcases cc 11 with q | ⟨q, q'⟩
    · rw [q]; exact h.2.2.2.2.2.1
    · have ej : j = 6 := by omega
      rw [ej] at hv; rw [q']; omega
  · rcases cc 12 with q | ⟨q, q'⟩
    · rw [q]; exact h.2.2.2.2.2.2
    · have ej : j = 7 := by omega
      rw [ej] at hv; rw [q']; omega
theorem T_limit (g x v : Int32) : TH (fun h => F_X9_limit h 0 g x v) (fun h => F_X10_limit h 756 g x v) := act fun im N G z e n o s hG hW => by
  have hN := hG.n
  have c0 : (0 : Int64).toInt = 0 := rfl
  have c8 : (8 : Int64).toInt = 8 := rfl
  have d0 : (0 : Int32).toInt = 0 := rfl
  have d8 : (8 : Int32).toInt = 8 := rfl
  rcases g_cs (get 1 G) g with hf | ⟨k, hk, rfl, ht⟩
  · left
    refine ⟨-2, ?_, fun P U hP _ hR => ⟨thr U, ?_, thr_same U⟩⟩
    · unfold F_X9_limit
      simp only [gl hN, gv hN, g_has hN, hf, Bool.false_eq_true, if_false, if_true, Option.bind_some]
    · unfold F_X10_limit
      simp only [m_thr hP, ml hP, Option.bind_some, m_isGroup hP (U := thr U) hR, hf, Bool.false_eq_true, if_false, if_true]
  · by_cases hx : 0 ≤ x.toInt ∧ x.toInt ≤ 8
    · obtain ⟨j, hj, rfl⟩ := v_in (K := 8) (by decide) hx
      have hj9 : j < 9 := by omega
      have s1x : sX 1 (nI j) = some ((stt 1).getD j 0) := by
        unfold sX
        rw [inb_nI (show j < (stt 1).length from hj9) (by decide), if_pos rfl, nI_clamp (by omega)]
      have s2x : sX 2 (nI j) = some ((stt 2).getD j 0) := by
        unfold sX
        rw [inb_nI (show j < (stt 2).length from hj9) (by decide), if_pos rfl, nI_clamp (by omega)]
      by_cases hv : ((stt 1).getD j 0).toInt ≤ v.toInt ∧ v.toInt ≤ ((stt 2).getD j 0).toInt
      · right
        obtain ⟨G1, V1, Q1, t1, t2, t3⟩ := c_try hG
        have hL2 := l2_at (im := im) (w1 N) hN G1
        have hW1 := t1.wok hW
        have htV : thV V1 k = true := by rw [t1.th hk]; exact ht
        obtain ⟨hLm, hv0⟩ := lim_all (g := k) hW1.ti.2.2.1 hj9 hv
        obtain ⟨res, Q', a1, a2⟩ := c_limit hL2 hW1.ti hk htV hj9 hv0 hLm Q1
        have a1' : F_X3_setLimit (P2 im N 1 G1 V1 Q1) 752 1 (nI k) (nI j) v = some (if res.1 then res.2.1 15 k else -4, P2 im N 1 G1 res.2 Q') := a1
        obtain ⟨l1, l2, l3, l4, l5⟩ := lm_post hW1.ti hk htV hj9 hv0 hLm a2
        have htr : thV res.2 k = true := by
          rw [l3.th]
          have : thV (limS V1 k j v) = thV V1 := thV_same (lim_c (by omega))
          rw [this]; exact htV
        have h15 := (l1.2.1.tot l1.1.2.2.1 hk htr).1
        obtain ⟨G3, s1, s2⟩ := t3 res.2 Q' (if res.1 then res.2.1 15 k else -4)
        refine ⟨if res.1 then res.2.1 15 k else -4, res.2, G3, ?_, ?_, fun P U hP hcs hR h8 => ?_⟩
        · unfold F_X9_limit
          simp only [gl hN, gv hN, g_has' hN G hk, ht, if_true, if_neg i10, o_out, d0, d8, if_pos hx, s1x, s2x, if_pos hv, Option.bind_some, t2, g2 hN 1 G1, a1', s1, un]
        · cases hr : res.1
          · rw [hr] at s2
            exact s2
          · rw [hr] at s2
            have hp : 0 ≤ res.2.1 15 k := ti_nn h15
            rw [if_pos rfl, if_pos hp] at s2 ⊢
            exact ⟨s2, n, o, s, (wok_fr2 hW1 (fun c hc => lim_c (by omega)) l1 l3 (l4 hW1.dd) (l5 hW1.mx hr)).mono (by omega)⟩
        · have hR1 : Rel V1 ((bgn (thr U)).1 1) := by rw [bgn_1]; exact t1.rel hR
          obtain ⟨U2, b1, b2, b3⟩ := m_limits hP hR1 hW1.ti hk htV hj9 hv0 hLm a2
          have e5 : (thr U).1 5 j = (stt 1).getD j 0 := (hcs.1 j hj9).1
          have e6 : (thr U).1 6 j = (stt 2).getD j 0 := (hcs.1 j hj9).2
          cases hr : res.1
          · rw [hr] at b1
            obtain ⟨U3, m1, m2⟩ := m_not hP (thr_same U) b2 (-4)
            refine ⟨U3, ?_, m2⟩
            unfold F_X10_limit
            simp only [m_thr hP, ml hP, m_isGroup' hP (U := thr U) hR hk, ht, if_true, if_neg i10, m_within, c0, c8, if_pos hx, hj9, e5, e6, Int32.toInt_toInt64, if_pos hv, Option.bind_some, m_bgn hP, b1, Bool.false_eq_true, if_false, bl, m1, un]
          · rw [hr] at b1
            have hp : 0 ≤ res.2.1 15 k := ti_nn h15
            obtain ⟨U4, q1, q2, -⟩ := m_totalOf hP b3 l1.1 hk htr
            obtain ⟨U3, m1, m2⟩ := m_told hP (thr_same U) hG.2.1 h8 (b2.trans q2.keep) (q2.rel b3) (res.2.1 15 k)
            refine ⟨U3, ?_, by rw [if_pos rfl, if_pos hp]; exact m2⟩
            unfold F_X10_limit
            simp only [m_thr hP, ml hP, m_isGroup' hP (U := thr U) hR hk, ht, if_true, if_neg i10, m_within, c0, c8, if_pos hx, hj9, e5, e6, Int32.toInt_toInt64, if_pos hv, Option.bind_some, m_bgn hP, b1, q1, bl, m1, un]
      · left
        refine ⟨-3, ?_, fun P U hP hcs hR => ⟨thr U, ?_, thr_same U⟩⟩
        · unfold F_X9_limit
          simp only [gl hN, gv hN, g_has' hN G hk, ht, if_true, if_neg i10, o_out, d0, d8, if_pos hx, s1x, s2x, if_neg hv, Option.bind_some]
        · have e5 : (thr U).1 5 j = (stt 1).getD j 0 := (hcs.1 j hj9).1
          have e6 : (thr U).1 6 j = (stt 2).getD j 0 := (hcs.1 j hj9).2
          unfold F_X10_limit
          simp only [m_thr hP, ml hP, m_isGroup' hP (U := thr U) hR hk, ht, if_true, if_neg i10, m_within, c0, c8, if_pos hx, hj9, e5, e6, Int32.toInt_toInt64, if_neg hv, Option.bind_some]
    · left
      refine ⟨-2, ?_, fun P U hP _ hR => ⟨thr U, ?_, thr_same U⟩⟩
      · unfold F_X9_limit
        simp only [gl hN, gv hN, g_has' hN G hk, ht, if_true, if_neg i10, o_out, d0, d8, if_neg hx, Option.bind_some]
      · unfold F_X10_limit
        simp only [m_thr hP, ml hP, m_isGroup' hP (U := thr U) hR hk, ht, if_true, if_neg i10, m_within, c0, c8, if_neg hx, Option.bind_some]
theorem wok_relo (hW : WOK kt V n o s) {p g : Nat} (hp : p < 16) (ht : phV V p = true) (hg : g < 12) (htg : thV V g = true) (hM : MaxOK (reloV V p g)) : WOK kt (reloV V p g) n o s := by
  have hT := relo_TI hW.ti hp ht hg htg
  have hph := relo_ph hW.ti.1.2.1 hp ht hg
  have c : ∀ c, c ≠ 15 → c ≠ 16 → c ≠ 24 → (reloV V p g).1 c = V.1 c := fun c h1 h2 h3 => by
    unfold reloV reD reC reB reA
    rw [sx_1, up_n _ _ h2, sx_1, up_n _ _ h1, sx_1, up_n _ _ h3, sx_1, up_n _ _ h2, sx_1, up_n _ _ h1]
  have e0 := c 0 (by decide) (by decide) (by decide)
  have e2 := c 2 (by decide) (by decide) (by decide)
  refine ⟨hT, hM, ?_, ?_, ?_, ?_, ?_, ?_, ?_⟩
  · have h := hW.dd
    unfold DedOK at h ⊢
    rw [hph, c 27 (by decide) (by decide) (by decide), c 28 (by decide) (by decide) (by decide), c 31 (by decide) (by decide) (by decide)]; exact h
  · have h := hW.tg
    unfold TrgN trg tww at h ⊢
    rw [c 52 (by decide) (by decide) (by decide), c 53 (by decide) (by decide) (by decide), c 54 (by decide) (by decide) (by decide), thV_same e2]; exact h
  · have h := hW.st
    unfold StB at h ⊢
    rw [hph, c 30 (by decide) (by decide) (by decide)]; exact h
  · have h := hW.td
    unfold TdB at h ⊢
    rw [hph, c 31 (by decide) (by decide) (by decide)]; exact h
  · rw [e0]; exact hW.bt
  · rw [e0]; exact hW.cap
  · rw [e0]; exact hW.tik
theorem T_move (p g : Int32) : TH (fun h => F_X9_move h 0 p g) (fun h => F_X10_move h 756 p g) := act fun im N G z e n o s hG hW => by
  have hN := hG.n
  rcases p_cs (get 1 G) p with hf | ⟨a, ha, rfl, hta⟩
  · left
    refine ⟨-2, ?_, fun P U hP _ hR => ⟨thr U, ?_, thr_same U⟩⟩
    · unfold F_X9_move
      simp only [gl hN, gv hN, g_phas hN, hf, Bool.false_eq_true, if_false, if_true, Option.bind_some]
    · unfold F_X10_move
      simp only [m_thr hP, ml hP, Option.bind_some, m_isProc hP (U := thr U) hR, hf, Bool.false_eq_true, if_false, if_true]
  · rcases g_cs (get 1 G) g with hf | ⟨k, hk, rfl, ht⟩
    · left
      refine ⟨-2, ?_, fun P U hP _ hR => ⟨thr U, ?_, thr_same U⟩⟩
      · unfold F_X9_move
        simp only [gl hN, gv hN, g_phas' hN G ha, hta, g_has hN, hf, Bool.false_eq_true, if_false, if_true, if_neg i10, Option.bind_some]
      · unfold F_X10_move
        simp only [m_thr hP, ml hP, Option.bind_some, m_isProc' hP (U := thr U) hR ha, hta, m_isGroup hP (U := thr U) hR, hf, Bool.false_eq_true, if_false, if_true, if_neg i10]
    · have r1 : gR (PG im N G) 24 0 0 = some 25 := at_lv (F := fun h => gR h 24 0 0) hN G fun P hX => (cl hX.1.lc).2.1 _
      have r2 : aI (PG im N G) 25 (nI a) = some ((get 1 G).1 24 a) := at_lv (F := fun h => aI h 25 (nI a)) hN G fun P hX => hX.1.ldi (V := get 1 G) (o := 24) (by decide) (by decide) rfl (by decide) ha
      by_cases hh : (get 1 G).1 24 a = nI k
      · left
        refine ⟨-5, ?_, fun P U hP _ hR => ⟨thr U, ?_, thr_same U⟩⟩
        · unfold F_X9_move
          simp only [gl hN, gv hN, g_phas' hN G ha, hta, g_has' hN G hk, ht, if_true, if_neg i10, Option.bind_some, r1, r2, if_pos hh]
        · unfold F_X10_move
          simp only [m_thr hP, ml hP, Option.bind_some, m_isProc' hP (U := thr U) hR ha, hta, m_isGroup' hP (U := thr U) hR hk, ht, if_true, if_neg i10, m_home hP (U := thr U) hR ha hta, un, if_pos hh]
      · right
        obtain ⟨G1, V1, Q1, t1, t2, t3⟩ := c_try hG
        have hL2 := l2_at (im := im) (w1 N) hN G1
        have hW1 := t1.wok hW
        have htV : thV V1 k = true := by rw [t1.th hk]; exact ht
        have htp : phV V1 a = true := by rw [t1.ph ha]; exact hta
        obtain ⟨g1, j2, g3⟩ := hW1.ti.1.2.1.at ha htp
        have hhd := hW1.ti.2.1.held ha htp
        have h24 : (get 1 G).1 24 a = nI (hom V1 a) := by rw [← t1.c 24 (by omega) a ha]; exact g3
        have hne : ¬ nI (hom V1 a) = nI k := by rw [← h24]; exact hh
        obtain ⟨res, Q', a1, a2⟩ := c_move hL2 hW1.ti hW1.mx ha htp hk htV Q1
        have a1' : F_X3_moveProcess (P2 im N 1 G1 V1 Q1) 752 1 (nI a) (nI k) = some (res.1, P2 im N 1 G1 res.2 Q') := a1
        obtain ⟨G3, s1, s2⟩ := t3 res.2 Q' res.1
        have cF : F_X9_move (PG im N G) 0 (nI a) (nI k) = some (res.1, PG im N G3) := by
          unfold F_X9_move
          simp only [gl hN, gv hN, g_phas' hN G ha, hta, g_has' hN G hk, ht, if_true, if_neg i10, Option.bind_some, r1, r2, if_neg hh, t2, g2 hN 1 G1, a1', s1, un]
        have mJ : ∀ (P : WV → Hp) (U : WV), LM 756 P → Rel (get 1 G) (U.1 1) → ∃ W, loopF (fun x => F_X10_move_L44 756 (nI a) (nI k) (nI (hom V1 a)) x.1 x.2.1 x.2.2) 6000 (1, nI k, P (thr U)) = some (if (newP (pfV V1) k (hom V1 a)).all (rmB V1 a) then 1 else 0, P W) ∧ KeepT (thr U) W := fun P U hP hR => m_mvJoin hP (U := thr U) (t1.rel hR) hW1.ti.1 hW1.ti.2.1 ha htp hk htV (nI k)
        unfold MoR at a2
        cases hall : (newP (pfV V1) k (hom V1 a)).all (rmB V1 a)
        · rw [hall] at a2
          have a2' : res = (-4, V1) := a2
          have er : res.1 = -4 := by rw [a2']
          rw [er] at cF s2
          refine ⟨-4, res.2, G3, cF, s2, fun P U hP _ hR h8 => ?_⟩
          obtain ⟨W, w1, w2⟩ := mJ P U hP hR
          rw [hall] at w1
          refine ⟨W, ?_, (thr_same U).trans w2.same⟩
          unfold F_X10_move
          simp only [m_thr hP, ml hP, Option.bind_some, m_isProc' hP (U := thr U) hR ha, hta, m_isGroup' hP (U := thr U) hR hk, ht, if_true, if_neg i10, m_home hP (U := thr U) hR ha hta, un, h24, if_neg hne, w1, bl, Bool.false_eq_true, if_false]
        · rw [hall] at a2
          obtain ⟨r, r1', r2'⟩ := (show ∃ r, MvR (heldV V1 a) (newP (pfV V1) k (hom V1 a)) V1 r ∧ res = (if r.1 then (V1.1 24 a, reloV r.2 a k) else (-4, r.2)) from a2)
          have hmem : ∀ x ∈ newP (pfV V1) k (hom V1 a), x < 12 ∧ thV V1 x = true := fun x hx => by
            have hx' : x ∈ pth (pfV V1) k := (List.takeWhile_sublist _).subset hx
            have := pth_mem hW1.ti.1.1.tree 12 k (pth_len _ _) hk htV x hx'
            exact ⟨this.1, this.2.1⟩
          obtain ⟨q1, q2, q3, q4, q5, q6, q7⟩ := mv_post (by omega) (by omega) _ _ r1' hW1.ti hW1.mx hmem
          have hMr := hW1.mx.le q2 q3
          have hWr := hW1.fr q1 q3 (q6 hW1.dd) hMr
          have hpr : phV r.2 a = true := by rw [q4]; exact htp
          have htr : thV r.2 k = true := by rw [q3.th]; exact htV
          have e24 : r.2.1 24 a = V1.1 24 a := (q3.2.2 a ha hpr).2.1
          have ehom : hom r.2 a = hom V1 a := by unfold hom; rw [e24]
          have mM : ∀ (P : WV → Hp) (U : WV), LM 756 P → Rel (get 1 G) (U.1 1) → ∃ W, loopF (fun x => F_X10_move_L44 756 (nI a) (nI k) (nI (hom V1 a)) x.1 x.2.1 x.2.2) 6000 (1, nI k, P (thr U)) = some (1, P W) ∧ MSame U W ∧ F_X10_pagesOf (P (bgn W)) 756 (nI a) = some (heldV V1 a, P (bgn W)) ∧ ∃ U2, loopF (fun x => F_X10_move_L105 756 (nI a) (nI k) (nI (hom V1 a)) (heldV V1 a) x.1 x.2.1 x.2.2) 6000 (1, nI k, P (bgn W)) = some (if r.1 then 1 else 0, P U2) ∧ Keep (bgn W) U2 ∧ (r.1 = true → Rel r.2 (U2.1 1)) := fun P U hP hR => by
            obtain ⟨W, w1, w2⟩ := mJ P U hP hR
            rw [hall] at w1
            have hs := (thr_same U).trans w2.same
            have hR1 : Rel V1 ((bgn W).1 1) := by rw [bgn_1, hs.1 1 (by omega)]; exact t1.rel hR
            obtain ⟨U2, b1, b2, b3⟩ := m_mv hP (p := a) (z := nI k) (by omega) (by omega) g1 (pth (pfV V1) k) 6000 V1 (bgn W) r1' hW1.ti hW1.mx (Sfx.pth hk htV) j2 hR1 (by have := pth_len (pfV V1) k; omega)
            refine ⟨W, w1, hs, m_pagesOf hP hR1 ha htp, U2, ?_, b2, b3⟩
            rw [← b1]
            have : hd (pth (pfV V1) k) = nI k := by rw [pth_cons hW1.ti.1.1.tree hk htV]; rfl
            rw [this]
          cases hr : r.1
          · rw [hr] at r2'
            have r2'' : res = (-4, r.2) := r2'
            have er : res.1 = -4 := by rw [r2'']
            rw [er] at cF s2
            refine ⟨-4, res.2, G3, cF, s2, fun P U hP _ hR h8 => ?_⟩
            obtain ⟨W, w1, hs, w3, U2, b1, b2, -⟩ := mM P U hP hR
            rw [hr] at b1
            obtain ⟨U3, m1, m2⟩ := m_not hP hs b2 (-4)
            refine ⟨U3, ?_, m2⟩
            unfold F_X10_move
            simp only [m_thr hP, ml hP, Option.bind_some, m_isProc' hP (U := thr U) hR ha, hta, m_isGroup' hP (U := thr U) hR hk, ht, if_true, if_neg i10, m_home hP (U := thr U) hR ha hta, un, h24, if_neg hne, w1, bl, m_bgn hP, w3, b1, Bool.false_eq_true, if_false, m1]
          · rw [hr] at r2'
            have r2'' : res = (V1.1 24 a, reloV r.2 a k) := r2'
            have er : res.1 = nI (hom V1 a) := by rw [r2'', ← g3]
            have er2 : res.2 = reloV r.2 a k := by rw [r2'']
            have hp : 0 ≤ nI (hom V1 a) := ti_nn (by rw [nI_toInt (by omega)]; omega)
            rw [er, if_pos hp, er2] at s2
            rw [er] at cF
            have hmax : MaxOK (reloV r.2 a k) := by
              refine relo_max q1 hMr ha hpr hk htr (d := heldV V1 a) ?_ ?_
              · have h1 := q1.2.1.held ha hpr
                have h2 := q5 a ha htp
                rw [h1.2.2.2, hhd.2.2.2]; omega
              · rw [q3.pf, ehom]; exact q7 hr
            have hWf := wok_relo hWr ha hpr hk htr hmax
            refine ⟨nI (hom V1 a), reloV r.2 a k, G3, cF, by rw [if_pos hp]; exact ⟨s2, n, o, s, hWf.mono (by omega)⟩, fun P U hP _ hR h8 => ?_⟩
            obtain ⟨W, w1, hs, w3, U2, b1, b2, b3⟩ := mM P U hP hR
            rw [hr] at b1
            have hRf : Rel (reloV r.2 a k) ((sx U2 1 (upd (U2.1 1) (415 + 8 * a + 0) (nI k))).1 1) := (b3 hr).home ha hpr hk
            have l1 : F_X10_laysProcess (P U2) 756 (nI a) 0 (nI k) = some (P (sx U2 1 (upd (U2.1 1) (415 + 8 * a + 0) (nI k)))) := m_laysP (f := 0) hP ha (by decide) (nI k)
            obtain ⟨U3, m1, m2⟩ := m_told hP hs hG.2.1 h8 (b2.trans (Keep.up U2 (by omega) _)) hRf (nI (hom V1 a))
            refine ⟨U3, ?_, by rw [if_pos hp]; exact m2⟩
            unfold F_X10_move
            simp only [m_thr hP, ml hP, Option.bind_some, m_isProc' hP (U := thr U) hR ha, hta, m_isGroup' hP (U := thr U) hR hk, ht, if_true, if_neg i10, m_home hP (U := thr U) hR ha hta, un, h24, if_neg hne, w1, bl, m_bgn hP, w3, b1, l1, m1]
end ACTS5
