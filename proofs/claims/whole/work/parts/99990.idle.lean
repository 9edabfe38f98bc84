/-! calls on paper: idle -/
variable {kt : Nat}
def pasV (V : WV) : WV := sx (fadeF V) 0 (upd (V.1 0) 7 (V.1 0 7 + 1))
def Idl : Nat → WV → Int32 → Prop
  | 0, _, r => r = -1
  | d + 1, V, r => if anyTodo V then ∃ A G, FixA (perV V) A ∧ FixG (perV V) A (mnI (V.1 0 6) (A 0)) G ∧ Idl d (pasV (wrkV V G)) r else r = nI (100 - d)
/-- what counts for work -/
def IdK (V : WV) (n : Nat) (o : Nat → Nat) : Prop := OrdOK V n o ∧ HomOK V ∧ LimR V ∧ TdB V ∧ (0 ≤ (V.1 0 6).toInt ∧ (V.1 0 6).toInt ≤ 99) ∧ (∀ p, p < 16 → phV V p = false → V.1 31 p = 0) ∧ (∀ p, p < 16 → phV V p = true → 0 ≤ (V.1 30 p).toInt)
section IDLE
variable {V Vm : WV} {n s : Nat} {o : Nat → Nat} {A G : Nat → Int32}
theorem pas_c {c : Nat} (h0 : c ≠ 0) (h30 : c ≠ 30) : (pasV V).1 c = V.1 c := by
  unfold pasV fadeF
  rw [sx_1, up_n _ _ h0, sx_1, up_n _ _ h30]
theorem pw_c {c : Nat} (h0 : c ≠ 0) (h1 : c ≠ 17) (h2 : c ≠ 30) (h3 : c ≠ 31) (h4 : c ≠ 32) : (pasV (wrkV V G)).1 c = V.1 c := by
  rw [pas_c h0 h2, wrk_c c h1 h3 h4]
theorem idk_st (h : IdK V n o) (hA : FixA (perV V) A) (hG : FixG (perV V) A (mnI (V.1 0 6) (A 0)) G) : IdK (pasV (wrkV V G)) n o := by
  obtain ⟨h1, h2, h3, h4, h5, h6, h7⟩ := h
  have e2 : (pasV (wrkV V G)).1 2 = V.1 2 := pw_c (by decide) (by decide) (by decide) (by decide) (by decide)
  have e24 : (pasV (wrkV V G)).1 24 = V.1 24 := pw_c (by decide) (by decide) (by decide) (by decide) (by decide)
  have e31 : (pasV (wrkV V G)).1 31 = (wrkV V G).1 31 := pas_c (by decide) (by decide)
  refine ⟨h1.same (pw_c (by decide) (by decide) (by decide) (by decide) (by decide)) e2 (pw_c (by decide) (by decide) (by decide) (by decide) (by decide)), h2.same e2 e24, ?_, ?_, ?_, fun p hp ht => ?_, fun p hp ht => ?_⟩
  · unfold LimR at h3 ⊢
    rw [thV_same e2, pw_c (c := 5) (by decide) (by decide) (by decide) (by decide) (by decide), pw_c (c := 6) (by decide) (by decide) (by decide) (by decide) (by decide), pw_c (c := 7) (by decide) (by decide) (by decide) (by decide) (by decide), pw_c (c := 8) (by decide) (by decide) (by decide) (by decide) (by decide), pw_c (c := 10) (by decide) (by decide) (by decide) (by decide) (by decide), pw_c (c := 11) (by decide) (by decide) (by decide) (by decide) (by decide), pw_c (c := 12) (by decide) (by decide) (by decide) (by decide) (by decide)]
    exact h3
  · have := wrk_td h4 hA hG
    intro p hp ht
    rw [e31]
    refine this p hp ?_
    rw [phV_same e24] at ht
    rw [phV_same (wrk_c 24 (by decide) (by decide) (by decide))]; exact ht
  · have : (pasV (wrkV V G)).1 0 6 = V.1 0 6 := by
      show upd ((wrkV V G).1 0) 7 ((wrkV V G).1 0 7 + 1) 6 = _
      rw [upd_ne _ _ (by decide), wrk_c 0 (by decide) (by decide) (by decide)]
    rw [this]; exact h5
  · rw [phV_same e24] at ht
    rw [e31]
    show (if p < 16 then (gotF (perV V) G).1 31 p - G (12 + p) else _) = 0
    have e : (gotF (perV V) G).1 31 = V.1 31 := per_c (by decide)
    have hp' : phV (perV V) p = false := by rw [phV_same (per_c (by decide))]; exact ht
    rw [if_pos hp, e, h6 p hp ht, hG.p0 hA hp hp']; rfl
  · rw [phV_same e24] at ht
    show 0 ≤ (if p < 16 then mxI 0 ((wrkV V G).1 30 p - 1) else _).toInt
    rw [if_pos hp, ti_mx, ti_0]
    exact Int.le_max_left _ _
theorem c_idle {im : Nat → Option Nat} {N : Nat} (hN : 775 ≤ N) {G0 : WV} : ∀ (d f : Nat) (V Q : WV), d ≤ 101 → d < f → IdK V n o → ∃ r V' Q', (loopF (fun x => F_X9_idle_L13 0 x.1 x.2) f (nI (101 - d), P2 im N 58 G0 V Q)).bind (sE (fun x => some x) (fun h17 => some ((-1), h17))) = some (r, P2 im N 58 G0 V' Q') ∧ Idl d V r
  | 0, f, V, Q, _, hf, _ => by
    obtain ⟨f, rfl⟩ : ∃ j, f = j + 1 := ⟨f - 1, by omega⟩
    refine ⟨-1, V, Q, ?_, rfl⟩
    have : F_X9_idle_L13 0 (nI (101 - 0)) (P2 im N 58 G0 V Q) = some (.inr (.inr (P2 im N 58 G0 V Q))) := by
      unfold F_X9_idle_L13
      rw [if_pos (show (100 : Int32) < nI (101 - 0) by decide)]
    rw [loopF]
    dsimp only
    rw [this]; rfl
  | d + 1, f, V, Q, hd, hf, hK => by
    obtain ⟨f, rfl⟩ : ∃ j, f = j + 1 := ⟨f - 1, by omega⟩
    have hL2 := l2_at (im := im) (w58 N) hN G0
    have ew : 101 - (d + 1) = 100 - d := by omega
    have h9 : ¬ (100 : Int32) < nI (100 - d) := by
      rw [ti_lt, nI_toInt (by omega)]
      have : (100 : Int32).toInt = 100 := rfl
      omega
    obtain ⟨h1, h2, h3, h4, h5, h6, h7⟩ := id hK
    have ht := s_hasTodo (V := V) (hL2.1 Q).lc
    rw [ew, loopF]
    dsimp only
    cases hT : anyTodo V
    · refine ⟨nI (100 - d), V, Q, ?_, by rw [Idl, hT]; rfl⟩
      have st : F_X9_idle_L13 0 (nI (100 - d)) (P2 im N 58 G0 V Q) = some (.inr (.inl (nI (100 - d), P2 im N 58 G0 V Q))) := by
        unfold F_X9_idle_L13
        rw [if_neg h9]
        simp only [g2 hN 58 G0, ol (hL2.1 Q).lo, cl (hL2.1 Q).lc, ht, hT, Bool.false_eq_true, if_false, if_true, Option.bind_some]
      rw [st]; rfl
    · obtain ⟨Af, Gt, a1, a2, a3⟩ := c_work (Q := Q) hL2 h1 h2 h3 h4 h5
      have a1' : F_X2_doWork (P2 im N 58 G0 V Q) 753 58 = some (P2 im N 58 G0 (wrkV V Gt) (sx (sx Q 10 Af) 9 Gt)) := a1
      have a4 : F_X8_passTick (P2 im N 58 G0 (wrkV V Gt) (sx (sx Q 10 Af) 9 Gt)) 58 = some (P2 im N 58 G0 (pasV (wrkV V Gt)) (sx (sx Q 10 Af) 9 Gt)) := s_passTick (V := wrkV V Gt) (hL2.1 (sx (sx Q 10 Af) 9 Gt))
      obtain ⟨r, V', Q', e1, e2⟩ := c_idle (im := im) (G0 := G0) hN d f (pasV (wrkV V Gt)) (sx (sx Q 10 Af) 9 Gt) (by omega) (by omega) (idk_st hK a2 a3)
      refine ⟨r, V', Q', ?_, by rw [Idl, hT]; exact ⟨Af, Gt, a2, a3, e2⟩⟩
      have st : F_X9_idle_L13 0 (nI (100 - d)) (P2 im N 58 G0 V Q) = some (.inl (nI (101 - d), P2 im N 58 G0 (pasV (wrkV V Gt)) (sx (sx Q 10 Af) 9 Gt))) := by
        unfold F_X9_idle_L13
        rw [if_neg h9]
        have e101 : 100 - d + 1 = 101 - d := by omega
        simp only [g2 hN 58 G0, ol (hL2.1 Q).lo, ol (hL2.1 (sx (sx Q 10 Af) 9 Gt)).lo, cl (hL2.1 Q).lc, ht, hT, if_true, if_neg i10, Option.bind_some, a1', a4, bl, nI_1, e101]
      rw [st]
      exact e1
theorem m_isIdle {P : WV → Hp} {U : WV} (hP : LM 756 P) (hR : Rel Vm (U.1 1)) (h24 : Vm.1 24 = V.1 24) (h31 : Vm.1 31 = V.1 31) (h0 : ∀ p, p < 16 → phV V p = false → V.1 31 p = 0) : F_X10_isIdle (P U) 756 = some (if anyTodo V then 0 else 1, P U) := by
  have hph : phV Vm = phV V := phV_same h24
  have key := loop_first (st := fun x => F_X10_isIdle_L2 756 x.1 x.2) (fun i => (nI i, P U)) (fun p => if decide (¬ V.1 31 p ≤ 0) then some (Sum.inl ((0 : Int32), P U)) else none) (Sum.inr (P U)) 16
    (fun i hi => by
      show F_X10_isIdle_L2 756 (nI i) (P U) = _
      unfold F_X10_isIdle_L2
      rw [h16I, if_neg (nI_ge hi (by decide))]
      cases ht : phV V i
      · have e0 : V.1 31 i ≤ 0 := by rw [h0 i hi ht]; decide
        simp only [ml hP, m_isProc' hP hR hi, hph, ht, Bool.false_eq_true, if_false, if_true, Option.bind_some, bl, nI_1, e0, not_true, decide_false]
      · have hpr : F_X10_ofProcess (P U) 756 (nI i) 6 0 = some (V.1 31 i, P U) := by
          have := m_pr hP hR hi (by rw [hph]; exact ht) (f := 6) (by decide)
          rw [show Vm.1 (cp 6) i = V.1 31 i by rw [show cp 6 = 31 from rfl, h31]] at this
          exact this
        by_cases hc : V.1 31 i ≤ 0
        · simp only [ml hP, m_isProc' hP hR hi, hph, ht, if_true, if_neg i10, Option.bind_some, hpr, un, if_pos hc, bl, nI_1, hc, not_true, decide_false, Bool.false_eq_true, if_false]
        · simp only [if_false, ml hP, m_isProc' hP hR hi, hph, ht, if_true, if_neg i10, Option.bind_some, hpr, un, if_neg hc, bl, nI_1, hc, not_false_eq_true, decide_true])
    (by
      show F_X10_isIdle_L2 756 (nI 16) (P U) = _
      unfold F_X10_isIdle_L2
      rw [h16I, if_pos (nI_le (Nat.le_refl _) (by decide))])
    16 0 6000 (by decide) (by decide)
  have key' : loopF (fun x => F_X10_isIdle_L2 756 x.1 x.2) 6000 (0, P U) = some (if anyTodo V then Sum.inl ((0 : Int32), P U) else Sum.inr (P U)) := by
    rw [h0I, key]
    congr 1
    unfold anyTodo
    rw [← List.range_eq_range']
    generalize List.range 16 = l
    induction l with
    | nil => rfl
    | cons x l ih =>
      rw [List.findSome?_cons, List.any_cons]
      cases hd : decide (¬ V.1 31 x ≤ 0)
      · rw [if_neg (by decide), Bool.false_or]
        exact ih
      · rw [if_pos rfl, Bool.true_or, if_pos rfl]; rfl
  unfold F_X10_isIdle
  rw [key']
  cases anyTodo V <;> rfl
theorem tik_c {c : Nat} (h0 : c ≠ 0) (h30 : c ≠ 30) (h56 : c ≠ 56) (hc : c < 39 ∨ 52 ≤ c) : (tikV V s).1 c = V.1 c := by
  unfold tikV fadeF fireF
  rw [sx_1, up_n _ _ h0, sx_1, up_n _ _ h30, sx_1, up_n _ _ h56]
  exact fin_c _ hc
theorem lab_st (h : ∀ k, k < 33 → Vm.1 k = V.1 k) : ∀ k, k < 33 → (tikV (wrkV Vm G) s).1 k = (pasV (wrkV V G)).1 k := by
  have hper : ∀ k, k < 33 → (perV Vm).1 k = (perV V).1 k := fun k hk => by
    unfold perV
    rw [h 0 (by omega)]
    by_cases hc : V.1 0 7 - V.1 0 7 / 5 * 5 = 0
    · rw [if_pos hc, if_pos hc]
      by_cases e : k = 17
      · subst e
        show (fun i => if i < 12 then (0 : Int32) else Vm.1 17 i) = (fun i => if i < 12 then (0 : Int32) else V.1 17 i)
        rw [h 17 (by omega)]
      · rw [sx_1, up_n _ _ e, sx_1, up_n _ _ e]; exact h k hk
    · rw [if_neg hc, if_neg hc]; exact h k hk
  have hwrk : ∀ k, k < 33 → (wrkV Vm G).1 k = (wrkV V G).1 k := fun k hk => by
    unfold wrkV todF gotF
    by_cases e32 : k = 32
    · subst e32
      show (fun p => if p < 16 then (perV Vm).1 32 p + G (12 + p) else (perV Vm).1 32 p) = (fun p => if p < 16 then (perV V).1 32 p + G (12 + p) else (perV V).1 32 p)
      rw [hper 32 (by omega)]
    · by_cases e31 : k = 31
      · subst e31
        show (fun p => if p < 16 then (perV Vm).1 31 p - G (12 + p) else (perV Vm).1 31 p) = (fun p => if p < 16 then (perV V).1 31 p - G (12 + p) else (perV V).1 31 p)
        rw [hper 31 (by omega)]
      · by_cases e17 : k = 17
        · subst e17
          show (fun g => if g < 12 then (perV Vm).1 17 g + G g else (perV Vm).1 17 g) = (fun g => if g < 12 then (perV V).1 17 g + G g else (perV V).1 17 g)
          rw [hper 17 (by omega)]
        · rw [sx_1, up_n _ _ e32, sx_1, up_n _ _ e31, sx_1, up_n _ _ e17, sx_1, up_n _ _ e32, sx_1, up_n _ _ e31, sx_1, up_n _ _ e17]
          exact hper k hk
  intro k hk
  by_cases e0 : k = 0
  · subst e0
    show upd ((wrkV Vm G).1 0) 7 ((wrkV Vm G).1 0 7 + 1) = upd ((wrkV V G).1 0) 7 ((wrkV V G).1 0 7 + 1)
    rw [hwrk 0 (by omega)]
  · by_cases e30 : k = 30
    · subst e30
      have : (fireF (notA (wrkV Vm G)) s (soB (wrkV Vm G) 0)).1 30 = (wrkV Vm G).1 30 := by
        unfold fireF
        rw [sx_1, up_n _ _ (by decide)]
        exact fin_c _ (by omega)
      show (fun p => if p < 16 then mxI 0 ((fireF (notA (wrkV Vm G)) s (soB (wrkV Vm G) 0)).1 30 p - 1) else (fireF (notA (wrkV Vm G)) s (soB (wrkV Vm G) 0)).1 30 p) = (fun p => if p < 16 then mxI 0 ((wrkV V G).1 30 p - 1) else (wrkV V G).1 30 p)
      rw [this, hwrk 30 (by omega)]
    · rw [tik_c e0 e30 (by omega) (by omega), pas_c e0 e30]
      exact hwrk k hk
theorem m_idle {P : WV → Hp} (hP : LM 756 P) {r : Int32} : ∀ (d f : Nat) (V Vm U : WV), d ≤ 100 → d < f → IdK V n o → (∀ k, k < 33 → Vm.1 k = V.1 k) → TrgN Vm s → CoM U → Rel Vm (U.1 1) → Idl (d + 1) V r → ∃ x v U', loopF (fun x => F_X10_idle_L11 756 x.1 x.2) f (nI (100 - d), P U) = some (x, P U') ∧ F_X10_isIdle (P U') 756 = some (v, P U') ∧ Keep U U' ∧ (if v = 0 then -1 else x) = r
  | d, 0, _, _, _, _, hf, _, _, _, _, _, _ => absurd hf (Nat.not_lt_zero _)
  | 0, f + 1, V, Vm, U, _, _, hK, hL, hT, hC, hR, hI => by
    have hi := m_isIdle (V := V) hP hR (hL 24 (by omega)) (hL 31 (by omega)) hK.2.2.2.2.2.1
    have st : F_X10_idle_L11 756 (nI (100 - 0)) (P U) = some (.inr (nI (100 - 0), P U)) := by
      unfold F_X10_idle_L11
      rw [if_pos (show (100 : Int32) ≤ nI (100 - 0) by decide)]
    refine ⟨nI (100 - 0), _, U, ?_, hi, Keep.refl U, ?_⟩
    · rw [loopF]
      dsimp only
      rw [st]; rfl
    · rw [Idl] at hI
      cases ha : anyTodo V
      · rw [ha] at hI
        have hI' : r = nI (100 - 0) := hI
        rw [hI']; rfl
      · rw [ha] at hI
        obtain ⟨_, _, _, _, hI'⟩ := (show ∃ A G, FixA (perV V) A ∧ FixG (perV V) A (mnI (V.1 0 6) (A 0)) G ∧ Idl 0 (pasV (wrkV V G)) r from hI)
        rw [show r = -1 from hI']; rfl
  | d + 1, f + 1, V, Vm, U, hd, hf, hK, hL, hT, hC, hR, hI => by
    have hi := m_isIdle (V := V) hP hR (hL 24 (by omega)) (hL 31 (by omega)) hK.2.2.2.2.2.1
    have h9 : ¬ (100 : Int32) ≤ nI (100 - (d + 1)) := by
      rw [ti_le, nI_toInt (by omega)]
      have : (100 : Int32).toInt = 100 := rfl
      omega
    rw [Idl] at hI
    cases ha : anyTodo V
    · rw [ha] at hI hi
      have hI' : r = nI (100 - (d + 1)) := hI
      have hi' : F_X10_isIdle (P U) 756 = some (1, P U) := hi
      have st : F_X10_idle_L11 756 (nI (100 - (d + 1))) (P U) = some (.inr (nI (100 - (d + 1)), P U)) := by
        unfold F_X10_idle_L11
        rw [if_neg h9]
        simp only [ml hP, hi', Option.bind_some, un, if_neg i10]
      refine ⟨nI (100 - (d + 1)), 1, U, ?_, hi', Keep.refl U, by rw [if_neg i10, hI']⟩
      rw [loopF]
      dsimp only
      rw [st]; rfl
    · rw [ha] at hI hi
      obtain ⟨A, G, hA, hG, hI'⟩ := (show ∃ A G, FixA (perV V) A ∧ FixG (perV V) A (mnI (V.1 0 6) (A 0)) G ∧ Idl (d + 1) (pasV (wrkV V G)) r from hI)
      have hi' : F_X10_isIdle (P U) 756 = some (0, P U) := hi
      obtain ⟨h1, h2, h3, h4, h5, h6, h7⟩ := id hK
      have hOm : OrdOK Vm n o := h1.same (hL 1 (by omega)) (hL 2 (by omega)) (hL 3 (by omega))
      have hHm : HomOK Vm := h2.same (hL 2 (by omega)) (hL 24 (by omega))
      have hLm : LimR Vm := by
        unfold LimR at h3 ⊢
        rw [thV_same (hL 2 (by omega)), hL 5 (by omega), hL 6 (by omega), hL 7 (by omega), hL 8 (by omega), hL 10 (by omega), hL 11 (by omega), hL 12 (by omega)]; exact h3
      have hSm : ∀ p, p < 16 → phV Vm p = true → 0 ≤ (Vm.1 30 p).toInt := by
        rw [phV_same (hL 24 (by omega)), hL 30 (by omega)]; exact h7
      have hper : ∀ k, k < 33 → (perV Vm).1 k = (perV V).1 k := fun k hk => by
        unfold perV
        rw [hL 0 (by omega)]
        by_cases hc : V.1 0 7 - V.1 0 7 / 5 * 5 = 0
        · rw [if_pos hc, if_pos hc]
          by_cases e : k = 17
          · subst e
            show (fun i => if i < 12 then (0 : Int32) else Vm.1 17 i) = (fun i => if i < 12 then (0 : Int32) else V.1 17 i)
            rw [hL 17 (by omega)]
          · rw [sx_1, up_n _ _ e, sx_1, up_n _ _ e]; exact hL k hk
        · rw [if_neg hc, if_neg hc]; exact hL k hk
      have hAm : FixA (perV Vm) A := hA.e (hper 2 (by omega)) (hper 12 (by omega)) (hper 17 (by omega)) (hper 24 (by omega)) (hper 30 (by omega)) (hper 31 (by omega))
      have hGm : FixG (perV Vm) A (mnI (Vm.1 0 6) (A 0)) G := by
        rw [hL 0 (by omega)]
        exact hG.e (hper 2 (by omega)) (hper 11 (by omega)) (hper 24 (by omega))
      obtain ⟨U1, b1, b2, b3⟩ := m_tick1 hP hC hOm hHm hLm hT hSm hR hAm hGm
      have hT1 : TrgN (tikV (wrkV Vm G) s) s := by
        have := wrk_trg (Gf := G) hT
        unfold TrgN trg tww at this ⊢
        rw [tik_c (c := 52) (by decide) (by decide) (by decide) (by decide), tik_c (c := 53) (by decide) (by decide) (by decide) (by decide), tik_c (c := 54) (by decide) (by decide) (by decide) (by decide), thV_same (tik_c (c := 2) (by decide) (by decide) (by decide) (by decide))]
        exact this
      have hC1 : CoM U1 := by unfold CoM; rw [b2.1 7 (by decide) (by decide)]; exact hC
      obtain ⟨x, v, U', e1, e2, e3, e4⟩ := m_idle hP d f (pasV (wrkV V G)) (tikV (wrkV Vm G) s) U1 (by omega) (by omega) (idk_st hK hA hG) (lab_st hL) hT1 hC1 b3 hI'
      refine ⟨x, v, U', ?_, e2, b2.trans e3, e4⟩
      have st : F_X10_idle_L11 756 (nI (100 - (d + 1))) (P U) = some (.inl (nI (100 - d), P U1)) := by
        unfold F_X10_idle_L11
        rw [if_neg h9]
        have e100 : 100 - (d + 1) + 1 = 100 - d := by omega
        simp only [ml hP, hi', Option.bind_some, un, if_true, b1, bl, nI_1, e100]
      rw [loopF]
      dsimp only
      rw [st]
      exact e1
theorem T_idle : TH (fun h => F_X9_idle h 0) (fun h => F_X10_idle h 756) := rdh fun im N G z e n o s hG hW => by
  have hN := hG.n
  obtain ⟨A, p1, p2⟩ := c_paper (im := im) hN G
  have hWA := p2.wok hW
  have hK : IdK A n o := ⟨hWA.ti.1.1, hWA.ti.1.2.1, hWA.ti.2.2.1, hWA.td, hWA.cap, fun p hp ht => (hWA.dd p hp ht).2.2, fun p hp ht => (hWA.st p hp ht).1⟩
  obtain ⟨r, V', Q', a1, a2⟩ := c_idle (im := im) (G0 := G) hN 101 6000 A (get 745 G) (Nat.le_refl _) (by decide) hK
  have a1' : (loopF (fun x => F_X9_idle_L13 0 x.1 x.2) 6000 (0, P2 im N 58 G A (get 745 G))).bind (sE (fun x => some x) (fun h17 => some ((-1), h17))) = some (r, P2 im N 58 G V' Q') := a1
  refine ⟨r, ⟨put 58 57 V' (put 745 11 Q' G), ?_, irc_p2 _ _⟩, fun P U hP hC hR => ?_⟩
  · show F_X9_idle (PG im N G) 0 = some (r, P2 im N 58 G V' Q')
    unfold F_X9_idle
    simp only [gl hN, Option.bind_some, co58 hN, p1]
    exact a1'
  · have hRA : Rel A ((cpyM (thr U) 1 0 4 0).1 1) := by rw [opn_1]; exact p2.rel hR
    have hC' : CoM (cpyM (thr U) 1 0 4 0) := by unfold CoM; rw [cpy_c (by decide)]; exact hC
    obtain ⟨x, v, U2, b1, b2, b3, b4⟩ := m_idle hP 100 6000 A A (cpyM (thr U) 1 0 4 0) (Nat.le_refl _) (by decide) hK (fun _ _ => rfl) hWA.tg hC' hRA a2
    have b1' : loopF (fun x => F_X10_idle_L11 756 x.1 x.2) 6000 (0, P (cpyM (thr U) 1 0 4 0)) = some (x, P U2) := b1
    refine ⟨_, ?_, (thr_same U).trans (paper_same b3.toP)⟩
    unfold F_X10_idle
    simp only [m_thr hP, ml hP, Option.bind_some, m_opens hP, b1', bl, b2, un, m_closes hP]
    rw [← b4]
    split <;> rfl
end IDLE
