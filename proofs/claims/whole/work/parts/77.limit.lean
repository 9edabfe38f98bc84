/-! a limit is another one -/
def DeR (g : Nat) (v : Int32) : Nat → WV → (Bool × WV) → Prop
  | 0, _, _ => False
  | k + 1, V, res => if V.1 15 g ≤ v then res = (true, V) else if mkB 16 (dyS V g) = 0 then res = (false, strV V g) else DeR g v k (strV V g) res
def limS (V : WV) (g what : Nat) (v : Int32) : WV := sx V (5 + what) (upd (V.1 (5 + what)) g v)
def LmR (V : WV) (g what : Nat) (v : Int32) (res : Bool × WV) : Prop := ∃ V1, (if (what = 2 ∨ what = 3) ∧ ¬ V.1 15 g ≤ v then ∃ t, TkRes (limS V g what v) g (V.1 15 g - v) (V1, t) else V1 = limS V g what v) ∧ (if what = 3 then ∃ k, k ≤ 20 ∧ DeR g v k V1 res else res = (true, V1))
section LIMIT
variable {V Q : WV} {n : Nat} {o : Nat → Nat} {w q b : Nat}
theorem Num.same {V' : WV} (h : Num V) (h2 : V'.1 2 = V.1 2) (h14 : V'.1 14 = V.1 14) (h24 : V'.1 24 = V.1 24) (h27 : V'.1 27 = V.1 27) (h28 : V'.1 28 = V.1 28) (h29 : V'.1 29 = V.1 29) : Num V' := by
  unfold Num stkI pgsI at h ⊢
  rw [thV_same h2, phV_same h24, h14, h27, h28, h29]; exact h
theorem lim_c {g what : Nat} {v : Int32} {c : Nat} (h : c ≠ 5 + what) : (limS V g what v).1 c = V.1 c := up_n _ _ h
theorem lim_TI (h : TI V n o) {g what : Nat} (hw : what < 9) {v : Int32} (hL : LimR (limS V g what v)) : TI (limS V g what v) n o := by
  obtain ⟨⟨hO, hH, hT, hU⟩, hN, -, hS⟩ := h
  exact ⟨⟨hO.same (lim_c (by omega)) (lim_c (by omega)) (lim_c (by omega)), hH.same (lim_c (by omega)) (lim_c (by omega)), hT.same (lim_c (by omega)) (lim_c (by omega)) (lim_c (by omega)) (lim_c (by omega)) (lim_c (by omega)) (lim_c (by omega)), hU.same (lim_c (by omega)) (lim_c (by omega)) (lim_c (by omega)) (lim_c (by omega))⟩, hN.same (lim_c (by omega)) (lim_c (by omega)) (lim_c (by omega)) (lim_c (by omega)) (lim_c (by omega)) (lim_c (by omega)), hL, hS.same (lim_c (by omega)) (lim_c (by omega)) (lim_c (by omega))⟩
theorem lim_th {g what : Nat} {v : Int32} : thV (limS V g what v) = thV V := thV_same (lim_c (by omega))
theorem lim_ph {g what : Nat} (hw : what < 9) {v : Int32} : phV (limS V g what v) = phV V := phV_same (lim_c (by omega))
theorem de_post {g : Nat} {v : Int32} {res : Bool × WV} : ∀ (k : Nat) (V : WV), DeR g v k V res → TI V n o → TI res.2 n o ∧ TotLe V res.2 ∧ Fr V res.2 ∧ (DedOK V → DedOK res.2) ∧ (res.1 = true → res.2.1 15 g ≤ v)
  | 0, _, h, _ => absurd h id
  | k + 1, V, h, hI => by
    unfold DeR at h
    by_cases c : V.1 15 g ≤ v
    · rw [if_pos c] at h
      subst h
      exact ⟨hI, fun _ _ _ => Int.le_refl _, Fr.refl V, id, fun _ => c⟩
    · rw [if_neg c] at h
      obtain ⟨s1, s2, -, -, -⟩ := str_TI hI g
      have fr := str_fr hI g
      by_cases c2 : mkB 16 (dyS V g) = 0
      · rw [if_pos c2] at h
        subst h
        exact ⟨s1, s2, fr, fun hd => str_ded hd g, fun e => by cases e⟩
      · rw [if_neg c2] at h
        obtain ⟨b1, b2, b3, b4, b5⟩ := de_post k (strV V g) h s1
        exact ⟨b1, fun x hx htx => Int.le_trans (b2 x hx (by rw [fr.th]; exact htx)) (s2 x hx htx), fr.trans b3, fun hd => b4 (str_ded hd g), b5⟩
theorem lm_post (h : TI V n o) {g what : Nat} (hg : g < 12) (ht : thV V g = true) (hw : what < 9) {v : Int32} (hv : 0 ≤ v.toInt) (hL : LimR (limS V g what v)) {res : Bool × WV} (hr : LmR V g what v res) : TI res.2 n o ∧ TotLe V res.2 ∧ Fr (limS V g what v) res.2 ∧ (DedOK V → DedOK res.2) ∧ (MaxOK V → res.1 = true → MaxOK res.2) := by
  have h0 := lim_TI h hw hL
  have htot := h.2.1.tot h.1.2.2.1 hg ht
  have e15 : (limS V g what v).1 15 = V.1 15 := lim_c (by omega)
  have hd0 : DedOK V → DedOK (limS V g what v) := fun hd => by
    unfold DedOK
    rw [lim_ph hw, lim_c (by omega), lim_c (by omega), lim_c (by omega)]; exact hd
  obtain ⟨V1, r1, r2⟩ := hr
  have k1 : TI V1 n o ∧ TotLe V V1 ∧ Fr (limS V g what v) V1 ∧ (DedOK V → DedOK V1) := by
    by_cases c : (what = 2 ∨ what = 3) ∧ ¬ V.1 15 g ≤ v
    · rw [if_pos c] at r1
      obtain ⟨t, hT⟩ := r1
      have hm : (V.1 15 g - v).toInt ≤ 999 := by
        have hv9 : v.toInt < 2147483648 := Int32.toInt_lt v
        rw [ti_sub (by omega) (by omega)]; omega
      obtain ⟨a1, a2, a3, a4, -, -⟩ := tk_post h0 hm hT
      exact ⟨a1, fun x hx htx => by
        have := a3 x hx (by rw [lim_th]; exact htx)
        rw [e15] at this; exact this, a2.fr, fun hd => a4 (hd0 hd)⟩
    · rw [if_neg c] at r1
      subst r1
      exact ⟨h0, fun x _ _ => by rw [e15]; exact Int.le_refl _, Fr.refl _, hd0⟩
  obtain ⟨a1, a2, a3, a4⟩ := k1
  have hthV1 : thV V1 = thV V := by rw [a3.th, lim_th]
  by_cases c3 : what = 3
  · rw [if_pos c3] at r2
    obtain ⟨k, -, hD⟩ := r2
    obtain ⟨b1, b2, b3, b4, b5⟩ := de_post k V1 hD a1
    have fr := a3.trans b3
    have le : TotLe V res.2 := fun x hx htx => Int.le_trans (b2 x hx (by rw [hthV1]; exact htx)) (a2 x hx htx)
    refine ⟨b1, le, fr, fun hd => b4 (a4 hd), fun hM ho x hx htx => ?_⟩
    have htx' : thV V x = true := by rw [fr.th, lim_th] at htx; exact htx
    rw [fr.1 8 (by decide)]
    subst c3
    by_cases ex : x = g
    · subst ex
      show _ ≤ (upd (V.1 8) x v x).toInt
      rw [upd_s]; exact ti_le.mp (b5 ho)
    · show _ ≤ (upd (V.1 8) g v x).toInt
      rw [upd_ne _ _ ex]; exact Int.le_trans (le x hx htx') (hM x hx htx')
  · rw [if_neg c3] at r2
    subst r2
    refine ⟨a1, a2, a3, a4, fun hM _ x hx htx => ?_⟩
    have htx' : thV V x = true := by rw [hthV1] at htx; exact htx
    rw [a3.1 8 (by decide), lim_c (by omega)]
    exact Int.le_trans (a2 x hx htx') (hM x hx htx')
theorem c_limit {P : WV → WV → Hp} (hP : L2 w q P) (h : TI V n o) {g what : Nat} (hg : g < 12) (ht : thV V g = true) (hw : what < 9) {v : Int32} (hv : 0 ≤ v.toInt) (hL : LimR (limS V g what v)) (Q : WV) : ∃ res Q', F_X3_setLimit (P V Q) (q + 7) w (nI g) (nI what) v = some (if res.1 then res.2.1 15 g else -4, P res.2 Q') ∧ LmR V g what v res := by
  have h0 := lim_TI h hw hL
  have htot := h.2.1.tot h.1.2.2.1 hg ht
  have e15 : (limS V g what v).1 15 = V.1 15 := lim_c (by omega)
  have ht0 : thV (limS V g what v) g = true := by rw [lim_th]; exact ht
  have n2 : nI what = 2 ↔ what = 2 := nI_eq (b := 2) (by omega) (by decide)
  have n3 : nI what = 3 ↔ what = 3 := nI_eq (b := 3) (by omega) (by decide)
  -- what is taken
  obtain ⟨V1, Q1, x1, x2, x3⟩ : ∃ V1 Q1, ((if nI what = 2 then some (1 : Int32) else if nI what = 3 then some (1 : Int32) else some (0 : Int32)).bind fun v6 => (if v6 = 0 then some (P (limS V g what v) Q) else (gR (P (limS V g what v) Q) (w + 1) 6 5).bind fun a8 => (aI (P (limS V g what v) Q) a8 (nI g)).bind fun v9 => if v9 ≤ v then some (P (limS V g what v) Q) else (gR (P (limS V g what v) Q) (q + 7) 3 0).bind fun a10 => (gR (P (limS V g what v) Q) (w + 1) 6 5).bind fun a11 => (aI (P (limS V g what v) Q) a11 (nI g)).bind fun v12 => (cO (P (limS V g what v) Q) a10 5 (F_X5_takePages (P (limS V g what v) Q) a10 w (nI g) (v12 - v))).bind (un fun v13 h14 => some h14))) = some (P V1 Q1) ∧ (if (what = 2 ∨ what = 3) ∧ ¬ V.1 15 g ≤ v then ∃ t, TkRes (limS V g what v) g (V.1 15 g - v) (V1, t) else V1 = limS V g what v) ∧ TI V1 n o ∧ thV V1 g = true := by
    by_cases cw : what = 2 ∨ what = 3
    · have hif : (if nI what = 2 then some (1 : Int32) else if nI what = 3 then some (1 : Int32) else some (0 : Int32)) = some 1 := by
        rcases cw with e | e
        · rw [if_pos (n2.mpr e)]
        · rw [if_neg (fun z => by have := n2.mp z; omega), if_pos (n3.mpr e)]
      rw [hif]
      by_cases c : V.1 15 g ≤ v
      · refine ⟨limS V g what v, Q, ?_, by rw [if_neg (fun z => z.2 c)], h0, ht0⟩
        simp only [Option.bind_some, if_neg (show ¬ (1 : Int32) = 0 by decide), tl (hP.1 Q).lt, hg, e15, if_pos c]
      · have hm : (V.1 15 g - v).toInt ≤ 999 := by
          have hv9 : v.toInt < 2147483648 := Int32.toInt_lt v
          rw [ti_sub (by omega) (by omega)]; omega
        obtain ⟨V1, t, Q1, c1, c2, c3, c4, c5⟩ := c_take hP h0 hg ht0 hm Q
        refine ⟨V1, Q1, ?_, by rw [if_pos ⟨cw, c⟩]; exact ⟨t, c2⟩, c3, by rw [c4.th]; exact ht0⟩
        simp only [Option.bind_some, if_neg (show ¬ (1 : Int32) = 0 by decide), tl (hP.1 Q).lt, hg, e15, if_neg c, ql (hP.2 (limS V g what v)), c1, un]
    · have hif : (if nI what = 2 then some (1 : Int32) else if nI what = 3 then some (1 : Int32) else some (0 : Int32)) = some 0 := by
        rw [if_neg (fun z => cw (Or.inl (n2.mp z))), if_neg (fun z => cw (Or.inr (n3.mp z)))]
      refine ⟨limS V g what v, Q, ?_, by rw [if_neg (fun z => cw z.1)], h0, ht0⟩
      rw [hif]
      simp only [Option.bind_some, if_true]
  -- who dies
  obtain ⟨y, y1, res, y2, y3⟩ := loop_wH (st := fun x => F_X3_setLimit_L74 w (nI g) (nI what) v (w + 1) x.1 x.2)
    (fun μ x => ∃ (W : WV) (i : Nat), x = (nI i, P W Q1) ∧ TI W n o ∧ thV W g = true ∧ μ = aliveN W ∧ i + μ ≤ 16 ∧ (what ≠ 3 → W = V1) ∧ (∀ k res, DeR g v k W res → DeR g v (i + k) V1 res))
    (fun y => ∃ res, (y = if res.1 then .inr (P res.2 Q1) else .inl (-4, P res.2 Q1)) ∧ (if what = 3 then ∃ k, k ≤ 20 ∧ DeR g v k V1 res else res = (true, V1)))
    (fun μ x hx => by
      obtain ⟨W, i, rfl, i1, i2, i3, i4, i5, i6⟩ := hx
      by_cases c3 : what = 3
      · by_cases c : W.1 15 g ≤ v
        · right
          refine ⟨.inr (P W Q1), ?_, (true, W), rfl, ?_⟩
          · show F_X3_setLimit_L74 w (nI g) (nI what) v (w + 1) (nI i) (P W Q1) = _
            unfold F_X3_setLimit_L74
            rw [if_pos (n3.mpr c3)]
            simp only [tl (hP.1 Q1).lt, hg, Option.bind_some, if_pos c]
          · rw [if_pos c3]
            exact ⟨i + 1, by omega, i6 1 _ (by unfold DeR; rw [if_pos c])⟩
        · have hi16 : ¬ (16 : Int32) < nI i := by
            rw [h16I]; exact nI_nlt (by omega) (by decide)
          have hst : F_X8_strike (P W Q1) w (nI g) = some (mkB 16 (dyS W g), P (strV W g) Q1) := s_strike (P := fun V => P V Q1) (hP.1 Q1) i1.1 hg i2
          by_cases c2 : mkB 16 (dyS W g) = 0
          · right
            refine ⟨.inl (-4, P (strV W g) Q1), ?_, (false, strV W g), rfl, ?_⟩
            · show F_X3_setLimit_L74 w (nI g) (nI what) v (w + 1) (nI i) (P W Q1) = _
              unfold F_X3_setLimit_L74
              rw [if_pos (n3.mpr c3)]
              simp only [tl (hP.1 Q1).lt, ol (hP.1 Q1).lo, hg, Option.bind_some, if_neg c, if_neg hi16, hst, un, c2, if_true]
            · rw [if_pos c3]
              exact ⟨i + 1, by omega, i6 1 _ (by unfold DeR; rw [if_neg c, if_pos c2])⟩
          · left
            have hlt := str_alive i1 (r := g) c2
            refine ⟨(nI (i + 1), P (strV W g) Q1), aliveN (strV W g), ?_, by omega, strV W g, i + 1, rfl, (str_TI i1 g).1, by rw [(str_fr i1 g).th]; exact i2, rfl, by omega, fun z => absurd c3 z, fun k res hk => ?_⟩
            · show F_X3_setLimit_L74 w (nI g) (nI what) v (w + 1) (nI i) (P W Q1) = _
              unfold F_X3_setLimit_L74
              rw [if_pos (n3.mpr c3)]
              simp only [tl (hP.1 Q1).lt, ol (hP.1 Q1).lo, hg, Option.bind_some, if_neg c, if_neg hi16, hst, un, if_neg c2, bl, nI_1]
            · have := i6 (k + 1) res (by unfold DeR; rw [if_neg c, if_neg c2]; exact hk)
              rw [show i + 1 + k = i + (k + 1) from by omega]; exact this
      · right
        refine ⟨.inr (P W Q1), ?_, (true, W), rfl, by rw [if_neg c3, i5 c3]⟩
        show F_X3_setLimit_L74 w (nI g) (nI what) v (w + 1) (nI i) (P W Q1) = _
        unfold F_X3_setLimit_L74
        rw [if_neg (fun z => c3 (n3.mp z))])
    6000 (aliveN V1) (0, P V1 Q1) (by have : aliveN V1 ≤ 16 := cntN_le 16 _; omega) ⟨V1, 0, rfl, x3.1, x3.2, rfl, by have : aliveN V1 ≤ 16 := cntN_le 16 _; omega, fun _ => rfl, fun k res hk => by rw [Nat.zero_add]; exact hk⟩
  refine ⟨res, Q1, ?_, V1, x2, y3⟩
  have hset : sI (P V Q) (w + (5 + what)) (nI g) v = some (P (limS V g what v) Q) := (tl (hP.1 Q).lt).2.2.2.2.2.2.2.2.2.2.2.2.2.2.2.2.2.2.2.2.2.2.2.2.2.1 V what g v hw hg
  unfold F_X3_setLimit
  simp only [ol (hP.1 Q).lo, tl (hP.1 Q).lt, hw, Option.bind_some, hset]
  simp only [tl (hP.1 Q).lt, Option.bind_some] at x1
  rw [← Option.bind_assoc, x1, Option.bind_some]
  have y1' : loopF (fun x => F_X3_setLimit_L74 w (nI g) (nI what) v (w + 1) x.1 x.2) 6000 (0, P V1 Q1) = some y := y1
  rw [y1', Option.bind_some, y2]
  cases hr : res.1
  · rfl
  · simp only [if_true, sE, tl (hP.1 Q1).lt, hg, Option.bind_some]
/-! the model -/
theorem m_de {P : WV → Hp} (hP : LM b P) {g : Nat} (hg : g < 12) {v : Int32} {res : Bool × WV} : ∀ (k N : Nat) (V U : WV), DeR g v k V res → TI V n o → thV V g = true → Rel V (U.1 1) → k ≤ N → ∃ U' y, loopF (fun x => F_X10_limits_L40 b (nI g) 3 v x) N (P U) = some y ∧ (y = if res.1 then .inr (P U') else .inl (0, P U')) ∧ Keep U U' ∧ Rel res.2 (U'.1 1)
  | 0, _, _, _, h, _, _, _, _ => absurd h id
  | k + 1, 0, _, _, _, _, _, _, hN => by omega
  | k + 1, N + 1, V, U, h, hI, ht, hR, hN => by
    unfold DeR at h
    obtain ⟨U1, a1, a2, -⟩ := m_totalOf hP hR hI.1 hg ht
    have hR1 := a2.rel hR
    by_cases c : V.1 15 g ≤ v
    · rw [if_pos c] at h
      subst h
      refine ⟨U1, .inr (P U1), ?_, rfl, a2.keep, hR1⟩
      rw [loopF]
      have : F_X10_limits_L40 b (nI g) 3 v (P U) = some (.inr (.inr (P U1))) := by
        unfold F_X10_limits_L40
        simp only [if_true, ml hP, a1, Option.bind_some, un, if_pos c]
      rw [this]; rfl
    · rw [if_neg c] at h
      obtain ⟨U2, b1, b2, b3⟩ := m_death hP hR1 hI.1 hg ht
      by_cases c2 : mkB 16 (dyS V g) = 0
      · rw [if_pos c2] at h
        subst h
        refine ⟨U2, .inl (0, P U2), ?_, rfl, a2.keep.trans b2, b3⟩
        rw [loopF]
        have : F_X10_limits_L40 b (nI g) 3 v (P U) = some (.inr (.inl (0, P U2))) := by
          unfold F_X10_limits_L40
          simp only [if_true, ml hP, a1, Option.bind_some, un, if_neg c, b1, if_pos c2]
        rw [this]; rfl
      · rw [if_neg c2] at h
        obtain ⟨U', y, y1, y2, y3, y4⟩ := m_de hP hg k N (strV V g) U2 h (str_TI hI g).1 (by rw [(str_fr hI g).th]; exact ht) b3 (by omega)
        refine ⟨U', y, ?_, y2, a2.keep.trans (b2.trans y3), y4⟩
        rw [loopF]
        have : F_X10_limits_L40 b (nI g) 3 v (P U) = some (.inl (P U2)) := by
          unfold F_X10_limits_L40
          simp only [if_true, ml hP, a1, Option.bind_some, un, if_neg c, b1, if_neg c2]
        rw [this]; exact y1
theorem m_limits {U : WV} {P : WV → Hp} (hP : LM b P) (hR : Rel V (U.1 1)) (h : TI V n o) {g what : Nat} (hg : g < 12) (ht : thV V g = true) (hw : what < 9) {v : Int32} (hv : 0 ≤ v.toInt) (hL : LimR (limS V g what v)) {res : Bool × WV} (hr : LmR V g what v res) : ∃ U', F_X10_limits (P U) b (nI g) (nI what) v = some (if res.1 then 1 else 0, P U') ∧ Keep U U' ∧ Rel res.2 (U'.1 1) := by
  have h0 := lim_TI h hw hL
  have htot := h.2.1.tot h.1.2.2.1 hg ht
  have e15 : (limS V g what v).1 15 = V.1 15 := lim_c (by omega)
  have ht0 : thV (limS V g what v) g = true := by rw [lim_th]; exact ht
  have n2 : nI what = 2 ↔ what = 2 := nI_eq (b := 2) (by omega) (by decide)
  have n3 : nI what = 3 ↔ what = 3 := nI_eq (b := 3) (by omega) (by decide)
  have ecg : cg what = 5 + what := (by decide : ∀ k, k < 9 → cg k = 5 + k) what hw
  have hla := m_lays (U := U) hP hg (show what < 34 by omega) v
  obtain ⟨Ua, hUa⟩ : ∃ Ua, Ua = sx U 1 (upd (U.1 1) (7 + 34 * g + what) v) := ⟨_, rfl⟩
  rw [← hUa] at hla
  have hRa : Rel (limS V g what v) (Ua.1 1) := by
    have := hR.grp (f := what) hg (by omega) (by rw [ecg]; omega) (by omega) v
    rw [ecg] at this
    rw [hUa]; exact this
  have hka : Keep U Ua := by rw [hUa]; exact Keep.up _ (by omega) _
  obtain ⟨V1, r1, r2⟩ := hr
  obtain ⟨Ub, t1, t2, t3⟩ := m_totalOf hP hRa h0.1 hg ht0
  rw [e15] at t1
  have hRb := t2.rel hRa
  obtain ⟨Uc, s1, s2, s3⟩ := m_totalOf hP hRb h0.1 hg ht0
  rw [e15] at s1
  have hRc := s2.rel hRb
  -- what is taken
  obtain ⟨U1, x1, x2, x3, x4, x5⟩ : ∃ U1, (if nI what = 2 then (F_X10_totalOf (P Ua) b (nI g)).bind (un fun v3 h4 => if v3 ≤ v then some h4 else (cO h4 b 10 (F_X10_totalOf h4 b (nI g))).bind (un fun v5 h6 => (cO h6 b 10 (F_X10_takes h6 b (nI g) (v5 - v))).bind (un fun v7 h8 => some h8))) else if nI what = 3 then (F_X10_totalOf (P Ua) b (nI g)).bind (un fun v3 h4 => if v3 ≤ v then some h4 else (cO h4 b 10 (F_X10_totalOf h4 b (nI g))).bind (un fun v5 h6 => (cO h6 b 10 (F_X10_takes h6 b (nI g) (v5 - v))).bind (un fun v7 h8 => some h8))) else some (P Ua)) = some (P U1) ∧ Keep Ua U1 ∧ Rel V1 (U1.1 1) ∧ TI V1 n o ∧ thV V1 g = true := by
    by_cases cw : what = 2 ∨ what = 3
    · have key : ∃ U1, ((F_X10_totalOf (P Ua) b (nI g)).bind (un fun v3 h4 => if v3 ≤ v then some h4 else (cO h4 b 10 (F_X10_totalOf h4 b (nI g))).bind (un fun v5 h6 => (cO h6 b 10 (F_X10_takes h6 b (nI g) (v5 - v))).bind (un fun v7 h8 => some h8)))) = some (P U1) ∧ Keep Ua U1 ∧ Rel V1 (U1.1 1) ∧ TI V1 n o ∧ thV V1 g = true := by
        by_cases c : V.1 15 g ≤ v
        · rw [if_neg (fun z => z.2 c)] at r1
          subst r1
          exact ⟨Ub, by simp only [t1, Option.bind_some, un, if_pos c], t2.keep, hRb, h0, ht0⟩
        · rw [if_pos ⟨cw, c⟩] at r1
          obtain ⟨t, hT⟩ := r1
          have c' : ¬ (V.1 15 g).toInt ≤ v.toInt := fun z => c (ti_le.mpr z)
          have hm : (V.1 15 g - v).toInt = (V.1 15 g).toInt - v.toInt := ti_sub (by omega) (by omega)
          obtain ⟨a1, a2, a3, a4, -, -⟩ := tk_post h0 (by omega) hT
          obtain ⟨Ud, w1, w2, w3⟩ := m_takes hP hRc h0 hg ht0 (by omega) (by omega) hT
          exact ⟨Ud, by simp only [t1, Option.bind_some, un, if_neg c, ml hP, s1, w1], t2.keep.trans (s2.keep.trans w2), w3, a1, by rw [a2.th]; exact ht0⟩
      obtain ⟨U1, y1, y2⟩ := key
      refine ⟨U1, ?_, y2⟩
      rcases cw with e | e
      · rw [if_pos (n2.mpr e)]; exact y1
      · rw [if_neg (fun z => by have := n2.mp z; omega), if_pos (n3.mpr e)]; exact y1
    · rw [if_neg (fun z => cw z.1)] at r1
      subst r1
      exact ⟨Ua, by rw [if_neg (fun z => cw (Or.inl (n2.mp z))), if_neg (fun z => cw (Or.inr (n3.mp z)))], Keep.refl Ua, hRa, h0, ht0⟩
  unfold F_X10_limits
  simp only [ml hP, hla, Option.bind_some]
  rw [x1, Option.bind_some]
  by_cases c3 : what = 3
  · rw [if_pos c3] at r2
    obtain ⟨k, hk, hD⟩ := r2
    obtain ⟨U', y, y1, y2, y3, y4⟩ := m_de hP hg k 6000 V1 U1 hD x4 x5 x3 (by omega)
    refine ⟨U', ?_, hka.trans (x2.trans y3), y4⟩
    rw [n3.mpr c3, y1, Option.bind_some, y2]
    cases res.1 <;> rfl
  · rw [if_neg c3] at r2
    subst r2
    refine ⟨U1, ?_, hka.trans x2, x3⟩
    have hl : loopF (fun x => F_X10_limits_L40 b (nI g) (nI what) v x) (5999 + 1) (P U1) = some (.inr (P U1)) := by
      rw [loopF]
      have : F_X10_limits_L40 b (nI g) (nI what) v (P U1) = some (.inr (.inr (P U1))) := by
        unfold F_X10_limits_L40
        rw [if_neg (fun z => c3 (n3.mp z))]
      rw [this]; rfl
    rw [hl]; rfl
end LIMIT
