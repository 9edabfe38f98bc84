/-! the model notes a tick -/
def ntI (W : WV) (S : Nat → Bool) (g : Nat) : Nat → WV
  | 0 => W
  | k + 1 => notV (ntI W S g k) g k (S k)
section MTICKS
variable {V U : WV} {n : Nat} {o : Nat → Nat} {b : Nat} {P : WV → Hp}
theorem STK_same {V' : WV} (h2 : V'.1 2 = V.1 2) (h24 : V'.1 24 = V.1 24) (h30 : V'.1 30 = V.1 30) (h31 : V'.1 31 = V.1 31) : STK V' = STK V := by
  funext k g
  have hp : prB V' = prB V := by
    funext x y
    unfold prB hom
    rw [pfV_same h2, phV_same h24, h24]
  have ha : awB V' = awB V := by funext x; unfold awB; rw [h30]
  have hw : wtB V' = wtB V := by funext x; unfold wtB; rw [h30, h31]
  unfold STK sSome sAwk sWai
  rw [hp, ha, hw]
theorem ntI_c (W : WV) (S : Nat → Bool) (g : Nat) {c : Nat} (hc : c < 39 ∨ 52 ≤ c) : ∀ k, k ≤ 3 → (ntI W S g k).1 c = W.1 c
  | 0, _ => rfl
  | k + 1, hk => by
    show (notV (ntI W S g k) g k (S k)).1 c = _
    rw [notV_1, if_neg (by omega), if_neg (by omega)]
    exact ntI_c W S g hc k (by omega)
theorem m_noteK (hP : LM b P) (hK : CoM U) {W : WV} (hR : Rel W (U.1 1)) (hO : OrdOK W n o) (hH : HomOK W) (hS : ∀ p, p < 16 → phV W p = true → 0 ≤ (W.1 30 p).toInt) {g k : Nat} (hg : g < 12) (ht : thV W g = true) (hk : k < 3) (z : Int32) : ∃ U', F_X10_ticks_L52 b z (nI g) (nI k) (P U) = some (.inl (nI (k + 1), P U')) ∧ Keep U U' ∧ Rel (notV W g k (STK W k g)) (U'.1 1) := by
  obtain ⟨s, hs⟩ : ∃ s, s = STK W k g := ⟨_, rfl⟩
  have e1 := m_isStalled hP hR hO hH hS hg hk
  rw [← hs] at e1
  have ecg : cg (15 + k) = 39 + k := (by decide : ∀ k, k < 3 → cg (15 + k) = 39 + k) k hk
  have e2 := m_ofD (f := 15 + k) hP hR hg ht (by omega) (by rw [ecg]; omega) (if s then 1 else 0)
  rw [ecg] at e2
  have e2' : F_X10_of (P U) b (nI g) (15 + nI k) (if s then 1 else 0) = some (W.1 (39 + k) g + (if s then 1 else 0), P (sx U 1 (upd (U.1 1) (7 + 34 * g + (15 + k)) (W.1 (39 + k) g + (if s then 1 else 0))))) := by
    rw [show (15 : Int32) + nI k = nI (15 + k) from nI_add 15 k]; exact e2
  obtain ⟨U1, hU1⟩ : ∃ U1, U1 = sx U 1 (upd (U.1 1) (7 + 34 * g + (15 + k)) (W.1 (39 + k) g + (if s then 1 else 0))) := ⟨_, rfl⟩
  rw [← hU1] at e2'
  have hR1 : Rel (sx W (39 + k) (upd (W.1 (39 + k)) g (W.1 (39 + k) g + (if s then 1 else 0)))) (U1.1 1) := by
    have := hR.grp (f := 15 + k) hg (by omega) (by rw [ecg]; omega) (by omega) (W.1 (39 + k) g + (if s then 1 else 0))
    rw [ecg] at this
    rw [hU1]; exact this
  have ht1 : thV (sx W (39 + k) (upd (W.1 (39 + k)) g (W.1 (39 + k) g + (if s then 1 else 0)))) g = true := by
    rw [thV_same (V := W) (up_n _ _ (by omega))]; exact ht
  have e3 := m_lat hP hR1 hg ht1 hk
  have e3' : F_X10_latestOf (P U1) b (nI g) (nI k) = some (lN (n64 (W.2 (35 + k) g) % 2 ^ 40), P U1) := e3
  have e4 := m_laysLatest (U := U1) hP hg hk (n64 (W.2 (35 + k) g)) (W.2 (35 + k) g) rfl s
  obtain ⟨U2, hU2⟩ : ∃ U2, U2 = sx U1 1 (upd (upd (U1.1 1) (7 + 34 * g + (18 + 2 * k)) (lo20 (shN (W.2 (35 + k) g) s))) (7 + 34 * g + (18 + 2 * k + 1)) (hi20 (shN (W.2 (35 + k) g) s))) := ⟨_, rfl⟩
  rw [← hU2] at e4
  have hR2 : Rel (not0 W g k s) (U2.1 1) := by
    have := hR1.lat hg hk (shN (W.2 (35 + k) g) s)
    rw [hU2]; exact this
  have hk1 : Keep U U1 := by rw [hU1]; exact Keep.up _ (by omega) _
  have hk2 : Keep U1 U2 := by
    rw [hU2]
    exact Keep.sx1 _ fun i hi => by rw [upd_ne _ _ (by omega), upd_ne _ _ (by omega)]
  have hk12 := hk1.trans hk2
  have hK2 : CoM U2 := by
    unfold CoM
    rw [hk12.1 7 (by decide) (by decide)]; exact hK
  have ht2 : thV (not0 W g k s) g = true := by
    have : (not0 W g k s).1 2 = W.1 2 := up_n _ _ (by omega)
    rw [thV_same this]; exact ht
  obtain ⟨U3, a1, a2, a3⟩ := m_aver (V := W) hP hK2 hg hk s ht2 hR2 (fun i hi => by
    show va_up W.1 (39 + k) _ _ = _
    exact up_n _ _ (by omega)) rfl
  refine ⟨U3, ?_, hk12.trans a2, by rw [← hs]; exact a3⟩
  have c1 : (if (if s then (1 : Int32) else 0) = 0 then some (0 : Int32) else some 1) = some (if s then 1 else 0) := by cases s <;> rfl
  have c2 : (if (if s then (1 : Int32) else 0) = 0 then some (0 : Int64) else some 1) = some (if s then 1 else 0) := by cases s <;> rfl
  unfold F_X10_ticks_L52
  rw [if_neg (by rw [h3I]; exact nI_ge hk (by decide))]
  simp only [ml hP, m_isGroup' hP hR hg, ht, if_true, if_neg (show ¬ (1 : Int32) = 0 by decide), Option.bind_some, e1, un, c1, e2', e3', c2, e4, a1, bl, nI_1]
theorem m_noteG (hP : LM b P) (hK : CoM U) {W : WV} (hR : Rel W (U.1 1)) (hO : OrdOK W n o) (hH : HomOK W) (hS : ∀ p, p < 16 → phV W p = true → 0 ≤ (W.1 30 p).toInt) {g : Nat} (hg : g < 12) (ht : thV W g = true) (z : Int32) : ∃ U', loopF (fun x => F_X10_ticks_L52 b z (nI g) x.1 x.2) 6000 (0, P U) = some (P U') ∧ Keep U U' ∧ Rel (nt3 W (fun k => STK W k g) g) (U'.1 1) := by
  obtain ⟨y, y1, U', y2, y3, y4⟩ := loop_cH (st := fun x => F_X10_ticks_L52 b z (nI g) x.1 x.2) (fun i (a : WV) => (nI i, P a)) (fun i a => Keep U a ∧ Rel (ntI W (fun k => STK W k g) g i) (a.1 1)) (fun y => ∃ U', y = P U' ∧ Keep U U' ∧ Rel (nt3 W (fun k => STK W k g) g) (U'.1 1)) 3
    (fun i a hi hI => by
      obtain ⟨i1, i2⟩ := hI
      left
      have c : ∀ c, (c < 39 ∨ 52 ≤ c) → (ntI W (fun k => STK W k g) g i).1 c = W.1 c := fun c hc => ntI_c W _ g hc i (by omega)
      have hKa : CoM a := by unfold CoM; rw [i1.1 7 (by decide) (by decide)]; exact hK
      have hst : STK (ntI W (fun k => STK W k g) g i) = STK W := STK_same (c 2 (by decide)) (c 24 (by decide)) (c 30 (by decide)) (c 31 (by decide))
      obtain ⟨U1, u1, u2, u3⟩ := m_noteK hP hKa i2 (hO.same (c 1 (by decide)) (c 2 (by decide)) (c 3 (by decide))) (hH.same (c 2 (by decide)) (c 24 (by decide))) (fun p hp hpp => by
        rw [c 30 (by decide)]
        rw [phV_same (c 24 (by decide))] at hpp
        exact hS p hp hpp) hg (by rw [thV_same (c 2 (by decide))]; exact ht) hi z
      rw [hst] at u3
      exact ⟨U1, u1, i1.trans u2, u3⟩)
    (fun a hI => by
      refine ⟨P a, ?_, a, rfl, hI.1, hI.2⟩
      show F_X10_ticks_L52 b z (nI g) (nI 3) (P a) = _
      unfold F_X10_ticks_L52
      rw [if_pos (by rw [h3I]; exact nI_le (Nat.le_refl _) (by decide))])
    3 0 6000 U (by decide) (by decide) ⟨Keep.refl U, hR⟩
  refine ⟨U', ?_, y3, y4⟩
  have y1' : loopF (fun x => F_X10_ticks_L52 b z (nI g) x.1 x.2) 6000 (0, P U) = some y := y1
  rw [y1', y2]
theorem m_noteA (hP : LM b P) (hK : CoM U) (hR : Rel V (U.1 1)) (hO : OrdOK V n o) (hH : HomOK V) (hS : ∀ p, p < 16 → phV V p = true → 0 ≤ (V.1 30 p).toInt) (z : Int32) : ∃ U', loopF (fun x => F_X10_ticks_L44 b z x.1 x.2) 6000 (0, P U) = some (P U') ∧ Keep U U' ∧ Rel (FinG V (fun g => decide (g < 12) && thV V g)) (U'.1 1) := by
  obtain ⟨y, y1, U', y2, y3, y4⟩ := loop_cH (st := fun x => F_X10_ticks_L44 b z x.1 x.2) (fun i (a : WV) => (nI i, P a)) (fun i a => Keep U a ∧ Rel (FinG V (fun g => decide (g < i) && thV V g)) (a.1 1)) (fun y => ∃ U', y = P U' ∧ Keep U U' ∧ Rel (FinG V (fun g => decide (g < 12) && thV V g)) (U'.1 1)) 12
    (fun i a hi hI => by
      obtain ⟨i1, i2⟩ := hI
      left
      obtain ⟨W, hW⟩ : ∃ W, W = FinG V (fun g => decide (g < i) && thV V g) := ⟨_, rfl⟩
      rw [← hW] at i2
      have c : ∀ c, (c < 39 ∨ 52 ≤ c) → W.1 c = V.1 c := fun c hc => by rw [hW]; exact fin_c _ hc
      have hKa : CoM a := by unfold CoM; rw [i1.1 7 (by decide) (by decide)]; exact hK
      have hst : STK W = STK V := STK_same (c 2 (by decide)) (c 24 (by decide)) (c 30 (by decide)) (c 31 (by decide))
      have hthW : thV W = thV V := thV_same (c 2 (by decide))
      cases ht : thV V i
      · refine ⟨a, ?_, i1, ?_⟩
        · show F_X10_ticks_L44 b z (nI i) (P a) = _
          unfold F_X10_ticks_L44
          rw [h12I, if_neg (nI_ge hi (by decide))]
          have hl : loopF (fun x => F_X10_ticks_L52 b z (nI i) x.1 x.2) (5999 + 1) (0, P a) = some (P a) := by
            rw [loopF]
            have : F_X10_ticks_L52 b z (nI i) 0 (P a) = some (.inr (P a)) := by
              unfold F_X10_ticks_L52
              rw [if_neg (by decide)]
              have hg : F_X10_isGroup (P a) b (nI i) = some 0 := by rw [m_isGroup' hP i2 hi, hthW, ht]; rfl
              simp only [ml hP, hg, Option.bind_some, if_true]
            show (F_X10_ticks_L52 b z (nI i) 0 (P a)).bind _ = _
            rw [this]; rfl
          rw [hl]
          simp only [Option.bind_some, bl, nI_1]
        · have : FinG V (fun g => decide (g < i + 1) && thV V g) = W := by
            rw [hW]
            refine fin_cong fun g => ?_
            by_cases e : g = i
            · subst e; simp [ht]
            · have h2 : g < i + 1 ↔ g < i := by omega
              simp [h2]
          rw [this]; exact i2
      · obtain ⟨U1, u1, u2, u3⟩ := m_noteG hP hKa i2 (hO.same (c 1 (by decide)) (c 2 (by decide)) (c 3 (by decide))) (hH.same (c 2 (by decide)) (c 24 (by decide))) (fun p hp hpp => by
          rw [c 30 (by decide)]
          rw [phV_same (c 24 (by decide))] at hpp
          exact hS p hp hpp) hi (by rw [hthW]; exact ht) z
        rw [hst] at u3
        refine ⟨U1, ?_, i1.trans u2, ?_⟩
        · show F_X10_ticks_L44 b z (nI i) (P a) = _
          unfold F_X10_ticks_L44
          rw [h12I, if_neg (nI_ge hi (by decide)), u1]
          simp only [Option.bind_some, bl, nI_1]
        · rw [hW, fin_step _ (by simp)] at u3
          have : FinG V (fun g => decide (g < i + 1) && thV V g) = FinG V (fun x => decide (x < i) && thV V x || decide (x = i)) := fin_cong fun g => by
            by_cases e : g = i
            · subst e; simp [ht]
            · have h2 : g < i + 1 ↔ g < i := by omega
              simp [h2, e]
          rw [this]; exact u3)
    (fun a hI => by
      refine ⟨P a, ?_, a, rfl, hI.1, hI.2⟩
      show F_X10_ticks_L44 b z (nI 12) (P a) = _
      unfold F_X10_ticks_L44
      rw [h12I, if_pos (nI_le (Nat.le_refl _) (by decide))])
    12 0 6000 U (by decide) (by decide) ⟨Keep.refl U, by
      have : FinG V (fun g => decide (g < 0) && thV V g) = FinG V (fun _ => false) := fin_cong fun g => by simp
      rw [this, fin_0]; exact hR⟩
  refine ⟨U', ?_, y3, y4⟩
  have y1' : loopF (fun x => F_X10_ticks_L44 b z x.1 x.2) 6000 (0, P U) = some y := y1
  rw [y1', y2]
theorem Rel.dead30 {M : Nat → Int32} (h : Rel V M) {p : Nat} (hd : phV V p = false) (x : Int32) : Rel (sx V 30 (upd (V.1 30) p x)) M := by
  obtain ⟨h1, h2, h3, h4, h5⟩ := h
  refine ⟨h1, ?_, h3, ?_, ?_⟩
  · intro g f hg ht hf hc
    have hne : cg f ≠ 30 := cg_cp f hf 4 (by decide)
    rw [sx_1, up_n _ _ hne]; exact h2 g f hg ht hf hc
  · intro q f hq ht hf
    have hqp : q ≠ p := fun e => by
      subst e
      have : phV V q = true := ht
      rw [hd] at this; cases this
    by_cases e : cp f = 30
    · rw [sx_1, e, up_s, upd_ne _ _ hqp, ← e]; exact h4 q f hq ht hf
    · rw [sx_1, up_n _ _ e]; exact h4 q f hq ht hf
  · intro i k hi hk
    rw [sx_1, up_n _ _ (by omega)]; exact h5 i k hi hk
theorem m_fade (hP : LM b P) (hR : Rel V (U.1 1)) (hS : ∀ p, p < 16 → phV V p = true → 0 ≤ (V.1 30 p).toInt) (z : Int32) : ∃ U', loopF (fun x => F_X10_ticks_L140 b z x.1 x.2) 6000 (0, P U) = some (P U') ∧ Keep U U' ∧ Rel (fadeF V) (U'.1 1) := by
  obtain ⟨a, ha, k1, k2⟩ := loop_inv (st := fun x => F_X10_ticks_L140 b z x.1 x.2) (fun i (a : WV) => (nI i, P a)) (fun a => P a) (fun i a => Keep U a ∧ Rel (sx V 30 (fun p => if p < i then mxI 0 (V.1 30 p - 1) else V.1 30 p)) (a.1 1)) 16
    (fun i a hi hI => by
      obtain ⟨i1, i2⟩ := hI
      obtain ⟨W, hW⟩ : ∃ W, W = sx V 30 (fun p => if p < i then mxI 0 (V.1 30 p - 1) else V.1 30 p) := ⟨_, rfl⟩
      rw [← hW] at i2
      have hphW : phV W = phV V := by rw [hW]; rfl
      have h30 : W.1 30 i = V.1 30 i := by
        rw [hW]
        show (if i < i then _ else _) = _
        rw [if_neg (Nat.lt_irrefl _)]
      have hnext : sx V 30 (fun p => if p < i + 1 then mxI 0 (V.1 30 p - 1) else V.1 30 p) = sx W 30 (upd (W.1 30) i (mxI 0 (V.1 30 i - 1))) := by
        rw [hW, sx_sx]
        congr 1
        funext x
        show _ = upd (fun p => if p < i then mxI 0 (V.1 30 p - 1) else V.1 30 p) i (mxI 0 (V.1 30 i - 1)) x
        by_cases e : x = i
        · subst e; rw [upd_s, if_pos (by omega)]
        · have h2 : x < i + 1 ↔ x < i := by omega
          rw [upd_ne _ _ e]; simp only [h2]
      rw [hnext]
      cases ht : phV V i
      · refine ⟨a, ?_, i1, i2.dead30 (by rw [hphW]; exact ht) _⟩
        show F_X10_ticks_L140 b z (nI i) (P a) = _
        unfold F_X10_ticks_L140
        rw [h16I, if_neg (nI_ge hi (by decide))]
        simp [ml hP, m_isProc' hP i2 hi, hphW, ht, bl, nI_1]
      · have hs := hS i hi ht
        have htW : phV W i = true := by rw [hphW]; exact ht
        by_cases c : V.1 30 i ≤ 0
        · refine ⟨a, ?_, i1, ?_⟩
          · show F_X10_ticks_L140 b z (nI i) (P a) = _
            unfold F_X10_ticks_L140
            rw [h16I, if_neg (nI_ge hi (by decide))]
            simp only [ml hP, m_isProc' hP i2 hi, htW, if_true, if_neg (show ¬ (1 : Int32) = 0 by decide), Option.bind_some, mp hP W, i2, hi, un, h30, if_pos c, bl, nI_1]
          · have c0 : V.1 30 i = 0 := Int32.le_antisymm c (ti_le.mpr (by rw [ti_0]; exact hs))
            have : mxI 0 (V.1 30 i - 1) = W.1 30 i := by rw [h30, c0]; decide
            rw [this, upd_id, sx_id]; exact i2
        · have e1 := m_prD (f := 4) hP i2 hi htW (by decide) (-1)
          have e1' : F_X10_ofProcess (P a) b (nI i) 4 (-1) = some (W.1 30 i + -1, P (sx a 1 (upd (a.1 1) (415 + 8 * i + 4) (W.1 30 i + -1)))) := e1
          refine ⟨sx a 1 (upd (a.1 1) (415 + 8 * i + 4) (W.1 30 i + -1)), ?_, i1.trans (Keep.up _ (by omega) _), ?_⟩
          · show F_X10_ticks_L140 b z (nI i) (P a) = _
            unfold F_X10_ticks_L140
            rw [h16I, if_neg (nI_ge hi (by decide))]
            have c' : ¬ W.1 30 i ≤ 0 := by rw [h30]; exact c
            simp only [ml hP, m_isProc' hP i2 hi, htW, if_true, if_neg (show ¬ (1 : Int32) = 0 by decide), Option.bind_some, mp hP W, i2, hi, un, if_neg c', e1', bl, nI_1]
          · have := i2.prc (f := 4) hi (by decide) (by decide) (W.1 30 i + -1)
            have e : W.1 30 i + -1 = mxI 0 (V.1 30 i - 1) := by
              rw [h30]
              have c' : ¬ (V.1 30 i).toInt ≤ (0 : Int32).toInt := fun q => c (ti_le.mpr q)
              rw [ti_0] at c'
              have hu : (V.1 30 i).toInt < 2147483648 := Int32.toInt_lt _
              have e1 : (1 : Int32).toInt = 1 := rfl
              have e2 : (V.1 30 i - 1).toInt = (V.1 30 i).toInt - 1 := by rw [ti_sub (by omega) (by omega), e1]
              rw [← Int32.sub_eq_add_neg]
              exact Int32.toInt_inj.mp (by rw [ti_mx, ti_0]; omega)
            rw [e] at this ⊢
            exact this)
    (fun a hI => by
      show F_X10_ticks_L140 b z (nI 16) (P a) = _
      unfold F_X10_ticks_L140
      rw [h16I, if_pos (nI_le (Nat.le_refl _) (by decide))])
    16 0 6000 U (by decide) (by decide) ⟨Keep.refl U, by
      have : (fun p => if p < 0 then mxI 0 (V.1 30 p - 1) else V.1 30 p) = V.1 30 := by funext p; simp
      rw [this, sx_id]; exact hR⟩
  refine ⟨a, ?_, k1, k2⟩
  have ha' : loopF (fun x => F_X10_ticks_L140 b z x.1 x.2) 6000 (0, P U) = some (P a) := ha
  exact ha'
end MTICKS
