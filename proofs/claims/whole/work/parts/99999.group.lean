/-! calls that act: group -/
variable {kt : Nat}
section GROUP
variable {V : WV} {n s : Nat} {o : Nat → Nat} {M M' : Nat → Int32} {g u : Nat}
theorem ng_ord (hO : OrdOK V n o) (hg : g < 12) (ht : thV V g = false) (hu : u < 12) (htu : thV V u = true) : OrdOK (newG V n g (nI u)) (n + 1) (fun i => if i = n then g else o i) := by
  have hn := hO.room hg ht
  have hn1 := hO.1
  have hne : ∀ i, i < n → o i ≠ g := fun i hi e => by
    have := hO.th hi
    rw [e, ht] at this; cases this
  have h0 : g ≠ 0 := fun e => by
    have := hne 0 (by omega)
    rw [hO.2.2.2.1] at this; exact this e.symm
  refine ⟨by omega, by omega, ?_, ?_, fun i hi => ?_, fun i j hi hj e => ?_, ?_, fun i h1 hi => ?_, fun x hx h2 => ?_⟩
  · rw [ng_1, upd_s]
  · show (if 0 = n then g else o 0) = 0
    rw [if_neg (by omega)]; exact hO.2.2.2.1
  · dsimp only
    rw [ng_3]
    by_cases e : i = n
    · rw [if_pos e, e, upd_s]; exact ⟨hg, rfl⟩
    · rw [if_neg e, upd_ne _ _ e]; exact hO.2.2.2.2.1 i (by omega)
  · dsimp only at e
    by_cases e1 : i = n
    · by_cases e2 : j = n
      · omega
      · rw [if_pos e1, if_neg e2] at e
        exact absurd e.symm (hne j (by omega))
    · by_cases e2 : j = n
      · rw [if_neg e1, if_pos e2] at e
        exact absurd e (hne i (by omega))
      · rw [if_neg e1, if_neg e2] at e
        exact hO.2.2.2.2.2.1 i j (by omega) (by omega) e
  · rw [ng_2, upd_ne _ _ (Ne.symm h0)]; exact hO.2.2.2.2.2.2.1
  · dsimp only
    by_cases e : i = n
    · have hu2 : V.1 2 u ≠ -2 := by unfold thV at htu; exact of_decide_eq_true htu
      obtain ⟨j, j1, j2⟩ := hO.2.2.2.2.2.2.2.2 u hu hu2
      refine ⟨j, by omega, ?_⟩
      rw [if_pos e, if_neg (by omega), ng_2, upd_s, j2]
    · obtain ⟨j, j1, j2⟩ := hO.2.2.2.2.2.2.2.1 i h1 (by omega)
      refine ⟨j, j1, ?_⟩
      rw [if_neg e, if_neg (by omega), ng_2, upd_ne _ _ (hne i (by omega))]; exact j2
  · rw [ng_2] at h2
    by_cases e : x = g
    · exact ⟨n, by omega, by dsimp only; rw [if_pos rfl, e]⟩
    · rw [upd_ne _ _ e] at h2
      obtain ⟨i, i1, i2⟩ := hO.2.2.2.2.2.2.2.2 x hx h2
      exact ⟨i, by omega, by dsimp only; rw [if_neg (by omega)]; exact i2⟩
theorem ng_off (hO : OrdOK V n o) (hH : HomOK V) (ht : thV V g = false) (x : Int32) : Off V (newG V n g x) g := by
  have c : ∀ c, (c = 0 ∨ (23 ≤ c ∧ c < 39) ∨ c = 42 ∨ (52 ≤ c ∧ c < 57)) → (newG V n g x).1 c = V.1 c := fun c hc => ng_c c hc
  have e14 : (newG V n g x).1 14 = upd (V.1 14) g 0 := ng_f (p := x) 10 (by decide) (by decide)
  refine ⟨fun z hz => by rw [ng_2, upd_ne _ _ hz], fun y hy hne hty hm => ?_, fun z hz => by rw [e14, upd_ne _ _ hz], fun h => (by rw [ht] at h; cases h), fun _ => by rw [e14, upd_s], c 24 (by omega), c 27 (by omega), c 28 (by omega), c 29 (by omega), fun p hp hh e => ?_⟩
  · have := (pth_mem hO.tree 12 y (pth_len _ _) hy hty g hm).2.1
    rw [ht] at this; cases this
  · have := (hH.at hp hh).2.1
    rw [e, ht] at this; cases this
theorem wok_ng (hW : WOK kt V n o s) (hg : g < 12) (ht : thV V g = false) (hu : u < 12) (htu : thV V u = true) : WOK kt (newG V n g (nI u)) (n + 1) (fun i => if i = n then g else o i) s := by
  obtain ⟨hC, hN, hL, hS⟩ := id hW.ti
  have hOff := ng_off (n := n) hC.1 hC.2.1 ht (nI u)
  have c : ∀ c, (c = 0 ∨ (23 ≤ c ∧ c < 39) ∨ c = 42 ∨ (52 ≤ c ∧ c < 57)) → (newG V n g (nI u)).1 c = V.1 c := fun c hc => ng_c c hc
  have e0 := c 0 (by omega)
  have hth : ∀ x, x ≠ g → thV (newG V n g (nI u)) x = thV V x := fun x hx => up_th hx
  have fv : ∀ f, f < 34 → cg f ≠ 99 → ∀ x, (newG V n g (nI u)).1 (cg f) x = if x = g then lgF (nI u) f else V.1 (cg f) x := fun f hf hc x => by
    rw [ng_f f hf hc]
    by_cases e : x = g
    · rw [if_pos e, e, upd_s]
    · rw [if_neg e, upd_ne _ _ e]
  refine ⟨⟨⟨ng_ord hC.1 hg ht hu htu, hOff.home hC.2.1, hOff.totok hC.2.1 hC.2.2.1 (fun z hz => by rw [ng_15, upd_ne _ _ hz]) (fun _ => by rw [ng_15, upd_s]), hOff.outok hC.2.1 hC.2.2.2 (fun z hz => by rw [ng_16, upd_ne _ _ hz]) (fun _ => by rw [ng_16, upd_s])⟩, hOff.num hN, ?_, hOff.sw e0 hS⟩, ?_, ?_, ?_, ?_, ?_, ?_, ?_, ?_⟩
  · intro x hx htx
    have f0 := fv 0 (by decide) (by decide) x
    have f1 := fv 1 (by decide) (by decide) x
    have f2 := fv 2 (by decide) (by decide) x
    have f3 := fv 3 (by decide) (by decide) x
    have f5 := fv 5 (by decide) (by decide) x
    have f6 := fv 6 (by decide) (by decide) x
    have f7 := fv 7 (by decide) (by decide) x
    have q0 : (newG V n g (nI u)).1 5 x = if x = g then lgF (nI u) 0 else V.1 5 x := f0
    have q1 : (newG V n g (nI u)).1 6 x = if x = g then lgF (nI u) 1 else V.1 6 x := f1
    have q2 : (newG V n g (nI u)).1 7 x = if x = g then lgF (nI u) 2 else V.1 7 x := f2
    have q3 : (newG V n g (nI u)).1 8 x = if x = g then lgF (nI u) 3 else V.1 8 x := f3
    have q5 : (newG V n g (nI u)).1 10 x = if x = g then lgF (nI u) 5 else V.1 10 x := f5
    have q6 : (newG V n g (nI u)).1 11 x = if x = g then lgF (nI u) 6 else V.1 11 x := f6
    have q7 : (newG V n g (nI u)).1 12 x = if x = g then lgF (nI u) 7 else V.1 12 x := f7
    rw [q0, q1, q2, q3, q5, q6, q7]
    by_cases e : x = g
    · rw [if_pos e, if_pos e, if_pos e, if_pos e, if_pos e, if_pos e, if_pos e]
      have l0 : lgF (nI u) 0 = 0 := rfl
      have l1 : lgF (nI u) 1 = 0 := rfl
      have l2 : lgF (nI u) 2 = 999 := rfl
      have l3 : lgF (nI u) 3 = 999 := rfl
      have l5 : lgF (nI u) 5 = 999 := rfl
      have l6 : lgF (nI u) 6 = 1 := rfl
      have l7 : lgF (nI u) 7 = 99 := rfl
      rw [l0, l1, l2, l3, l5, l6, l7]; decide
    · rw [if_neg e, if_neg e, if_neg e, if_neg e, if_neg e, if_neg e, if_neg e]
      rw [hth x e] at htx
      exact hL x hx htx
  · intro x hx htx
    have q3 : (newG V n g (nI u)).1 8 x = if x = g then lgF (nI u) 3 else V.1 8 x := fv 3 (by decide) (by decide) x
    rw [q3, ng_15]
    by_cases e : x = g
    · rw [if_pos e, e, upd_s]
      have l3 : lgF (nI u) 3 = 999 := rfl
      rw [l3]; decide
    · rw [if_neg e, upd_ne _ _ e]
      rw [hth x e] at htx
      exact hW.mx x hx htx
  · have h := hW.dd
    unfold DedOK at h ⊢
    rw [hOff.ph, c 27 (by omega), c 28 (by omega), c 31 (by omega)]; exact h
  · obtain ⟨h1, h2, h3⟩ := hW.tg
    refine ⟨h1, by rw [c 52 (by omega)]; exact h2, fun i hi => ?_⟩
    obtain ⟨⟨b1, b2, b3⟩, b4⟩ := h3 i hi
    have et : trg (newG V n g (nI u)) i = trg V i := by unfold trg; rw [c 53 (by omega)]
    have ew : tww (newG V n g (nI u)) i = tww V i := by unfold tww; rw [c 54 (by omega)]
    rw [et, ew, c 53 (by omega), c 54 (by omega)]
    have hne : trg V i ≠ g := fun z => by rw [z, ht] at b2; cases b2
    exact ⟨⟨b1, by rw [hth _ hne]; exact b2, b3⟩, b4⟩
  · have h := hW.st
    unfold StB at h ⊢
    rw [hOff.ph, c 30 (by omega)]; exact h
  · have h := hW.td
    unfold TdB at h ⊢
    rw [hOff.ph, c 31 (by omega)]; exact h
  · rw [e0]; exact hW.bt
  · rw [e0]; exact hW.cap
  · rw [e0]; exact hW.tik
theorem T_group (x : Int32) : TH (fun h => F_X9_group h 0 x) (fun h => F_X10_group h 756 x) := act fun im N G z e n o s hG hW => by
  have hN := hG.n
  rcases g_cs (get 1 G) x with hf | ⟨u, hu, rfl, htu⟩
  · left
    refine ⟨-2, ?_, fun P U hP _ hR => ⟨thr U, ?_, thr_same U⟩⟩
    · unfold F_X9_group
      simp only [gl hN, gv hN, g_has hN, hf, Bool.false_eq_true, if_false, if_true, Option.bind_some]
    · unfold F_X10_group
      simp only [m_thr hP, ml hP, Option.bind_some, m_isGroup hP (U := thr U) hR, hf, Bool.false_eq_true, if_false, if_true]
  · have r1 : F_X6_firstFree (PG im N G) 2 = some (match ffI 12 (thV (get 1 G)) with | none => -1 | some g => nI g) := at_lv (F := fun h => F_X6_firstFree h 2) hN G fun P hX => s_firstFree hX.1.lt
    have fr : ∀ (P : WV → Hp) (U : WV), LM 756 P → Rel (get 1 G) (U.1 1) → F_X10_freeIn (P (thr U)) ((thr U).1 1 0) 12 = some (match ffI 12 (thV (get 1 G)) with | none => nI 12 | some g => nI g) := fun P U hP hR => by
      have e : (thr U).1 1 0 = mkB 12 (thV (get 1 G)) := hR.1.1
      rw [e]
      exact m_freeIn (P (thr U)) (N := 12) (by decide) (thV (get 1 G))
    cases hff : ffI 12 (thV (get 1 G)) with
    | none =>
      rw [hff] at r1
      left
      refine ⟨-4, ?_, fun P U hP _ hR => ⟨thr U, ?_, thr_same U⟩⟩
      · unfold F_X9_group
        simp only [gl hN, gv hN, g_has' hN G hu, htu, if_true, if_neg i10, r1, Option.bind_some]
      · have f1 := fr P U hP hR
        rw [hff] at f1
        have f1' : F_X10_freeIn (P (thr U)) ((thr U).1 1 0) 12 = some 12 := f1
        unfold F_X10_group
        simp only [m_thr hP, ml hP, ml0 hP, Option.bind_some, m_isGroup' hP (U := thr U) hR hu, htu, if_true, if_neg i10, f1']
    | some k =>
      obtain ⟨hk, hd⟩ := ff_some hff
      rw [hff] at r1
      have np : ¬ nI k = -1 := nI_ne1 (by omega)
      have n12 : ¬ nI k = 12 := fun z => by
        have := (nI_eq (a := k) (b := 12) (by omega) (by decide)).mp z
        omega
      right
      obtain ⟨G1, V1, Q1, t1, t2, t3⟩ := c_try hG
      have hL2 := l2_at (im := im) (w1 N) hN G1
      have hW1 := t1.wok hW
      have htV : thV V1 u = true := by rw [t1.th hu]; exact htu
      have hdV : thV V1 k = false := by rw [t1.th hk]; exact hd
      have hn := hW1.ti.1.1.room hk hdV
      have pu := s_putGroup (V := V1) (hL2.1 Q1).lt hn hW1.ti.1.1.2.2.1 hk (nI u)
      have cu := s_clear (V := putG V1 n k (nI u)) (hL2.1 Q1).lg hk
      have cu' : F_X1_clearGroup (P2 im N 1 G1 (putG V1 n k (nI u)) Q1) (1 + 33) (nI k) = some (P2 im N 1 G1 (newG V1 n k (nI u)) Q1) := cu
      obtain ⟨G3, s1, s2⟩ := t3 (newG V1 n k (nI u)) Q1 (nI k)
      have h0 : 0 ≤ nI k := ti_nn (by rw [nI_toInt (by omega)]; omega)
      rw [if_pos h0] at s2
      refine ⟨nI k, newG V1 n k (nI u), G3, ?_, by rw [if_pos h0]; exact ⟨s2, n + 1, _, s, (wok_ng hW1 hk hdV hu htV).mono (by omega)⟩, fun P U hP _ hR h8 => ?_⟩
      · unfold F_X9_group
        simp only [gl hN, gv hN, g_has' hN G hu, htu, if_true, if_neg i10, r1, Option.bind_some, if_neg np, t2, g2 hN 1 G1, ol (hL2.1 Q1).lo, tl (hL2.1 Q1).lt, ga (hL2.1 Q1).lg, pu, cu', s1, un]
      · have f1 := fr P U hP hR
        rw [hff] at f1
        have f1' : F_X10_freeIn (P (thr U)) ((thr U).1 1 0) 12 = some (nI k) := f1
        have hR1 : Rel V1 ((bgn (thr U)).1 1) := by rw [bgn_1]; exact t1.rel hR
        obtain ⟨B, hB⟩ : ∃ B, B = bgn (thr U) := ⟨_, rfl⟩
        rw [← hB] at hR1
        obtain ⟨C, hC⟩ : ∃ C, C = sx B 1 (upd (B.1 1) 0 (B.1 1 0 ||| (1 <<< (nI k &&& 31)))) := ⟨_, rfl⟩
        have c11 : C.1 1 = upd (B.1 1) 0 (B.1 1 0 ||| (1 <<< (nI k &&& 31))) := by rw [hC]; rfl
        obtain ⟨M1, q1, q2, q3⟩ := m_laysGroup hP hk (nI u) C
        have hR2 : Rel (newG V1 n k (nI u)) M1 := by
          refine hR1.put hk (nI_ne2 (by omega)) ?_ q2 (fun i hi h => ?_)
          · rw [q3 0 (by omega), c11, upd_s]
          · rw [q3 i h, c11, upd_ne _ _ hi]
        have hk2 : Keep (bgn (thr U)) (sx C 1 M1) := by
          rw [← hB]
          have k1 : Keep B C := by rw [hC]; exact Keep.up B (by omega) _
          refine k1.trans (Keep.sx1 C fun i hi => q3 i (by omega))
        obtain ⟨U3, m1, m2⟩ := m_told hP (thr_same U) hG.2.1 h8 hk2 hR2 (nI k)
        refine ⟨U3, ?_, by rw [if_pos h0]; exact m2⟩
        unfold F_X10_group
        simp only [m_thr hP, ml hP, ml0 hP, Option.bind_some, m_isGroup' hP (U := thr U) hR hu, htu, if_true, if_neg i10, f1', if_neg n12, m_bgn hP, ← hB, ← hC, q1, m1, un]
end GROUP
