/-! a charge: what it keeps; would, stalled, burst -/
variable {kt : Nat}
section WKEEP
variable {V V' : WV} {n s : Nat} {o : Nat → Nat}
theorem WOK.fr (hW : WOK kt V n o s) (hT : TI V' n o) (hF : Fr V V') (hd : DedOK V') (hM : MaxOK V') : WOK kt V' n o s := by
  have c : ∀ c, c < 14 ∨ c = 17 ∨ c = 18 ∨ 33 ≤ c → V'.1 c = V.1 c := hF.1
  refine ⟨hT, hM, hd, ?_, fun p hp ht => ?_, fun p hp ht => ?_, ?_, ?_, ?_⟩
  · have h := hW.tg
    unfold TrgN trg tww at h ⊢
    rw [c 52 (by omega), c 53 (by omega), c 54 (by omega), thV_same (c 2 (by omega))]; exact h
  · obtain ⟨a1, -, -, a4, -⟩ := hF.2.2 p hp ht
    unfold StB; rw [a4]; exact hW.st p hp a1
  · obtain ⟨a1, -, -, -, a5, -⟩ := hF.2.2 p hp ht
    rw [a5]; exact hW.td p hp a1
  · rw [c 0 (by omega)]; exact hW.bt
  · rw [c 0 (by omega)]; exact hW.cap
  · rw [c 0 (by omega)]; exact hW.tik
theorem WOK.hi {p : Nat} (hW : WOK kt V n o s) (hT : TI V' n o) (hK : HiK p V V') (hd : DedOK V') (hL : TotLe V V') (hS : StB V p → StB V' p) : WOK kt V' n o s := by
  have c : ∀ c, c < 14 ∨ c = 17 ∨ c = 18 ∨ c = 21 ∨ c = 22 ∨ c = 24 ∨ c = 25 ∨ c = 31 ∨ c = 32 ∨ 33 ≤ c → V'.1 c = V.1 c := hK.1
  refine ⟨hT, fun g hg ht => ?_, hd, ?_, fun q hq ht => ?_, fun q hq ht => ?_, ?_, ?_, ?_⟩
  · rw [hK.th] at ht
    rw [c 8 (by omega)]
    exact Int.le_trans (hL g hg ht) (hW.mx g hg ht)
  · have h := hW.tg
    unfold TrgN trg tww at h ⊢
    rw [c 52 (by omega), c 53 (by omega), c 54 (by omega), hK.th]; exact h
  · rw [hK.ph] at ht
    by_cases e : q = p
    · subst e; exact hS (hW.st q hq ht)
    · unfold StB; rw [hK.2.2 q e]; exact hW.st q hq ht
  · rw [hK.ph] at ht
    rw [c 31 (by omega)]; exact hW.td q hq ht
  · rw [c 0 (by omega)]; exact hW.bt
  · rw [c 0 (by omega)]; exact hW.cap
  · rw [c 0 (by omega)]; exact hW.tik
theorem WOK.tk (hW : WOK kt V n o s) (hT : TI V' n o) (hK : TkK V V') (hd : DedOK V') (hL : TotLe V V') : WOK kt V' n o s := by
  have c : ∀ c, c ≠ 14 → c ≠ 15 → c ≠ 16 → c ≠ 19 → c ≠ 27 → c ≠ 28 → c ≠ 29 → V'.1 c = V.1 c := hK.1
  have e24 : phV V' = phV V := phV_same (c 24 (by omega) (by omega) (by omega) (by omega) (by omega) (by omega) (by omega))
  refine ⟨hT, fun g hg ht => ?_, hd, ?_, fun q hq ht => ?_, fun q hq ht => ?_, ?_, ?_, ?_⟩
  · rw [hK.th] at ht
    rw [c 8 (by omega) (by omega) (by omega) (by omega) (by omega) (by omega) (by omega)]
    exact Int.le_trans (hL g hg ht) (hW.mx g hg ht)
  · have h := hW.tg
    unfold TrgN trg tww at h ⊢
    rw [c 52 (by omega) (by omega) (by omega) (by omega) (by omega) (by omega) (by omega), c 53 (by omega) (by omega) (by omega) (by omega) (by omega) (by omega) (by omega), c 54 (by omega) (by omega) (by omega) (by omega) (by omega) (by omega) (by omega), hK.th]; exact h
  · rw [e24] at ht
    unfold StB; rw [c 30 (by omega) (by omega) (by omega) (by omega) (by omega) (by omega) (by omega)]; exact hW.st q hq ht
  · rw [e24] at ht
    rw [c 31 (by omega) (by omega) (by omega) (by omega) (by omega) (by omega) (by omega)]; exact hW.td q hq ht
  · rw [c 0 (by omega) (by omega) (by omega) (by omega) (by omega) (by omega) (by omega)]; exact hW.bt
  · rw [c 0 (by omega) (by omega) (by omega) (by omega) (by omega) (by omega) (by omega)]; exact hW.cap
  · rw [c 0 (by omega) (by omega) (by omega) (by omega) (by omega) (by omega) (by omega)]; exact hW.tik
end WKEEP
section CHG
variable {V : WV} {n s p k : Nat} {o : Nat → Nat} {d : Int32}
theorem ad_wok (hW : WOK kt V n o s) (hp : p < 16) (ht : phV V p = true) (hk : k < 2) (h0 : 1 ≤ d.toInt) (h9 : d.toInt ≤ 99) {r : Int32 × WV} (hr : AdR V p k d r) : r.1 = -4 ∨ (WOK kt r.2 n o s ∧ (r.1 = 3 ∨ ((r.1 = 0 ∨ r.1 = 1 ∨ r.1 = 2) ∧ phV r.2 p = true))) := by
  have hb := hW.bt
  obtain ⟨a1, a2, a3, a4⟩ := ad_post hW.ti hW.mx hW.dd hp ht hk h0 h9 ⟨by omega, hb.2⟩ hr
  rcases a4 with h | ⟨h1, h2⟩
  · exact Or.inl h
  · exact Or.inr ⟨hW.fr a1 a2 a3 h1, h2⟩
theorem cg_ex (hW : WOK kt V n o s) (hp : p < 16) (ht : phV V p = true) (hk : k < 2) (h0 : 1 ≤ d.toInt) (h9 : d.toInt ≤ 99) {r : Int32 × WV} (hr : AdR V p k d r) : ∃ res, CgR V p k d res ∧ res.1 = r.1 := by
  rcases ad_wok hW hp ht hk h0 h9 hr with h | ⟨h1, h | ⟨h2, h3⟩⟩
  · refine ⟨r, ⟨r, hr, Or.inl ⟨?_, ?_, ?_, rfl⟩⟩, rfl⟩ <;> rw [h] <;> decide
  · refine ⟨r, ⟨r, hr, Or.inl ⟨?_, ?_, ?_, rfl⟩⟩, rfl⟩ <;> rw [h] <;> decide
  · obtain ⟨g1, g2, g3⟩ := h1.ti.1.2.1.at hp h3
    obtain ⟨V', hV'⟩ := hi_ex (p := p) (pth (pfV r.2) (hom r.2 p)) r.2 h1.ti (Sfx.pth g1 g2)
    exact ⟨(r.1, V'), ⟨r, hr, Or.inr ⟨h2, V', hV', rfl⟩⟩, rfl⟩
theorem cg_wok (hW : WOK kt V n o s) (hp : p < 16) (ht : phV V p = true) (hk : k < 2) (h0 : 1 ≤ d.toInt) (h9 : d.toInt ≤ 99) {res : Int32 × WV} (hr : CgR V p k d res) : res.1 = -4 ∨ (WOK kt res.2 n o s ∧ (res.1 = 3 ∨ ((res.1 = 0 ∨ res.1 = 1 ∨ res.1 = 2) ∧ phV res.2 p = true))) := by
  obtain ⟨r, h1, h2⟩ := hr
  have ha := ad_wok hW hp ht hk h0 h9 h1
  rcases h2 with ⟨-, -, -, rfl⟩ | ⟨q1, V', q2, rfl⟩
  · exact ha
  · rcases ha with h | ⟨h1, h | ⟨h2, h3⟩⟩
    · rw [h] at q1; exact absurd q1 (by decide)
    · rw [h] at q1; exact absurd q1 (by decide)
    · obtain ⟨g1, g2, g3⟩ := h1.ti.1.2.1.at hp h3
      obtain ⟨b1, b2, b3, b4, b5⟩ := hi_post _ _ _ q2 h1.ti (Sfx.pth g1 g2)
      exact Or.inr ⟨h1.hi b1 b3 (b4 h1.dd) b2 b5, Or.inr ⟨h2, by dsimp only; rw [b3.ph]; exact h3⟩⟩
theorem c_cg {w q : Nat} {P : WV → WV → Hp} (hP : L2 w q P) (hW : WOK kt V n o s) (hp : p < 16) (ht : phV V p = true) (hk : k < 2) (h0 : 1 ≤ d.toInt) (h9 : d.toInt ≤ 99) (Q : WV) : ∃ (r : Int32 × WV) (Q1 : WV) (res : Int32 × WV) (Q2 : WV), F_X3_admit (P V Q) (q + 7) w (nI p) (nI k) d = some (r.1, P r.2 Q1) ∧ F_X3_pressToHigh (P r.2 Q1) (q + 7) w (nI p) r.1 = some (res.1, P res.2 Q2) ∧ CgR V p k d res ∧ res.1 = r.1 := by
  obtain ⟨r, Q1, a1, a2⟩ := c_admit hP hW.ti hW.mx hp ht hk h0 h9 Q
  rcases ad_wok hW hp ht hk h0 h9 a2 with h | ⟨h1, h | ⟨h2, h3⟩⟩
  · have hn : ¬ r.1 = 0 ∧ ¬ r.1 = 1 ∧ ¬ r.1 = 2 := by rw [h]; decide
    exact ⟨r, Q1, r, Q1, a1, c_high0 hP hn _ _, ⟨r, a2, Or.inl ⟨hn.1, hn.2.1, hn.2.2, rfl⟩⟩, rfl⟩
  · have hn : ¬ r.1 = 0 ∧ ¬ r.1 = 1 ∧ ¬ r.1 = 2 := by rw [h]; decide
    exact ⟨r, Q1, r, Q1, a1, c_high0 hP hn _ _, ⟨r, a2, Or.inl ⟨hn.1, hn.2.1, hn.2.2, rfl⟩⟩, rfl⟩
  · obtain ⟨V', Q', b1, b2⟩ := c_high hP h1.ti hp h3 h2 Q1
    exact ⟨r, Q1, (r.1, V'), Q', a1, b1, ⟨r, a2, Or.inr ⟨h2, V', b2, rfl⟩⟩, rfl⟩
def stlT (res : Int32 × WV) (p : Nat) : Int32 := if res.1 = 0 ∨ res.1 = 1 ∨ res.1 = 2 then res.2.1 30 p else -1
theorem m_would {P : WV → Hp} {U : WV} (hP : LM 756 P) (hR : Rel V (U.1 1)) (hW : WOK kt V n o s) (hp : p < 16) (ht : phV V p = true) (hk : k < 2) (h0 : 1 ≤ d.toInt) (h9 : d.toInt ≤ 99) {res : Int32 × WV} (hr : CgR V p k d res) : ∃ U', F_X10_wouldTell (P U) 756 (nI p) (nI k) d = some (res.1, P U') ∧ MSame U U' ∧ U'.1 0 20 = stlT res p := by
  have hb := hW.bt
  have c0 : (0 : Int64).toInt = 0 := rfl
  have c2 : (2 : Int64).toInt = 2 := rfl
  obtain ⟨U2, b1, b2, b3⟩ := m_charges hP (U := cpyM U 1 0 4 0) (by rw [opn_1]; exact hR) hW.ti hW.mx hW.dd hp ht hk h0 h9 ⟨by omega, hb.2⟩ (hW.st p hp ht) hr
  obtain ⟨U3, hU3⟩ : ∃ U3, U3 = sx U2 0 (upd (U2.1 0) 20 (stlT res p)) := ⟨_, rfl⟩
  have kp : KeepP (cpyM U 1 0 4 0) U3 := by
    refine b2.toP.trans ⟨fun c hc => ?_, ?_, fun i hi => ?_⟩
    · rw [hU3, sx_1, up_n _ _ (by omega)]
    · rw [hU3, sx_1, up_s, upd_ne _ _ (by decide)]
    · rw [hU3]; rfl
  refine ⟨cpyM U3 4 0 1 0, ?_, paper_same kp, ?_⟩
  · unfold F_X10_wouldTell
    rcases cg_wok hW hp ht hk h0 h9 hr with h | ⟨h1, h | ⟨h2, h3⟩⟩
    · have e : stlT res p = -1 := by unfold stlT; rw [h]; exact if_neg (by decide)
      have hn : ¬ (0 ≤ (-4 : Int32).toInt ∧ (-4 : Int32).toInt ≤ 2) := by decide
      rw [e] at hU3
      simp only [ml hP, m_opens hP, Option.bind_some, b1, un, m_within, c0, c2, h, if_neg hn, if_true, bl, ← hU3, m_closes hP]
    · have e : stlT res p = -1 := by unfold stlT; rw [h]; exact if_neg (by decide)
      have hn : ¬ (0 ≤ (3 : Int32).toInt ∧ (3 : Int32).toInt ≤ 2) := by decide
      rw [e] at hU3
      simp only [ml hP, m_opens hP, Option.bind_some, b1, un, m_within, c0, c2, h, if_neg hn, if_true, bl, ← hU3, m_closes hP]
    · have e : stlT res p = res.2.1 30 p := by unfold stlT; rw [if_pos h2]
      have hn : 0 ≤ res.1.toInt ∧ res.1.toInt ≤ 2 := by rcases h2 with h | h | h <;> rw [h] <;> decide
      have hpr : F_X10_ofProcess (P U2) 756 (nI p) 4 0 = some (res.2.1 30 p, P U2) := m_pr hP b3 hp h3 (f := 4) (by decide)
      rw [e] at hU3
      simp only [ml hP, m_opens hP, Option.bind_some, b1, un, m_within, c0, c2, if_pos hn, if_neg i10, hpr, bl, ← hU3, m_closes hP]
  · rw [cpy_c (by decide), hU3, sx_1, up_s, upd_s]
end CHG
section WOULD
def wrgF (V : WV) (p v x : Int32) : Int32 := if inb p 16 && phV V p.toNatClampNeg then (if 0 ≤ v.toInt ∧ v.toInt ≤ 1 then (if 1 ≤ x.toInt ∧ x.toInt ≤ 99 then 0 else -3) else -3) else -2
theorem c_wrong {im : Nat → Option Nat} {N : Nat} (hN : 775 ≤ N) (G : WV) (p v x : Int32) : F_X9_wrongCharge (PG im N G) 0 p v x = some (wrgF (get 1 G) p v x) := by
  have d0 : (0 : Int32).toInt = 0 := rfl
  have d1 : (1 : Int32).toInt = 1 := rfl
  have d99 : (99 : Int32).toInt = 99 := rfl
  unfold F_X9_wrongCharge wrgF
  simp only [gl hN, gv hN, g_phas hN, Option.bind_some, o_out, d0, d1, d99]
  cases (inb p 16 && phV (get 1 G) p.toNatClampNeg)
  · simp only [Bool.false_eq_true, if_false, if_true]
  · by_cases hv : 0 ≤ v.toInt ∧ v.toInt ≤ 1
    · by_cases hx : 1 ≤ x.toInt ∧ x.toInt ≤ 99
      · simp only [if_true, if_neg i10, if_pos hv, if_pos hx]
      · simp only [if_true, if_neg i10, if_pos hv, if_neg hx]
    · simp only [if_true, if_neg i10, if_neg hv]
theorem m_refused {P : WV → Hp} {V U : WV} (hP : LM 756 P) (hR : Rel V (U.1 1)) (p v x : Int32) : F_X10_refusedBy (P U) 756 p v x = some (wrgF V p v x) := by
  have d0 : (0 : Int64).toInt = 0 := rfl
  have d1 : (1 : Int64).toInt = 1 := rfl
  have d99 : (99 : Int64).toInt = 99 := rfl
  unfold F_X10_refusedBy wrgF
  simp only [ml hP, m_isProc hP hR, Option.bind_some, m_within, d0, d1, d99]
  cases (inb p 16 && phV V p.toNatClampNeg)
  · simp only [Bool.false_eq_true, if_false, if_true]
  · by_cases hv : 0 ≤ v.toInt ∧ v.toInt ≤ 1
    · by_cases hx : 1 ≤ x.toInt ∧ x.toInt ≤ 99
      · simp only [if_true, if_neg i10, if_pos hv, if_pos hx]
      · simp only [if_true, if_neg i10, if_pos hv, if_neg hx]
    · simp only [if_true, if_neg i10, if_neg hv]
theorem wrg_cs (V : WV) (p v x : Int32) : ¬ wrgF V p v x = 0 ∨ (wrgF V p v x = 0 ∧ (1 ≤ x.toInt ∧ x.toInt ≤ 99) ∧ ∃ a k, a < 16 ∧ k < 2 ∧ p = nI a ∧ v = nI k ∧ phV V a = true) := by
  by_cases h : wrgF V p v x = 0
  · right
    refine ⟨h, ?_⟩
    unfold wrgF at h
    rcases p_cs V p with hf | ⟨a, ha, rfl, ht⟩
    · rw [hf, if_neg (by decide)] at h; exact absurd h (by decide)
    · by_cases h1 : (inb (nI a) 16 && phV V (nI a).toNatClampNeg) = true
      · rw [if_pos h1] at h
        by_cases hv : 0 ≤ v.toInt ∧ v.toInt ≤ 1
        · rw [if_pos hv] at h
          by_cases hx : 1 ≤ x.toInt ∧ x.toInt ≤ 99
          · obtain ⟨k, hk, rfl⟩ := v_in (K := 1) (by decide) hv
            exact ⟨hx, a, k, ha, by omega, rfl, rfl, ht⟩
          · rw [if_neg hx] at h; exact absurd h (by decide)
        · rw [if_neg hv] at h; exact absurd h (by decide)
      · rw [if_neg h1] at h; exact absurd h (by decide)
  · exact Or.inl h
theorem T_would (p v x : Int32) : TH (fun h => F_X9_would h 0 p v x) (fun h => F_X10_would h 756 p v x) := rdh fun im N G z e n o s hG hW => by
  have hN := hG.n
  rcases wrg_cs (get 1 G) p v x with hf | ⟨hw, ⟨x1, x2⟩, a, k, ha, hk, rfl, rfl, ht⟩
  · refine ⟨wrgF (get 1 G) p v x, ⟨G, ?_, IrC.refl G⟩, fun P U hP _ hR => ⟨thr U, ?_, thr_same U⟩⟩
    · unfold F_X9_would
      simp only [gl hN, c_wrong hN, Option.bind_some, if_neg hf]
    · unfold F_X10_would
      simp only [m_thr hP, ml hP, Option.bind_some, m_refused hP (U := thr U) hR, if_neg hf]
  · obtain ⟨A, p1, p2⟩ := c_paper (im := im) hN G
    have hWA := p2.wok hW
    have htA : phV A a = true := by rw [p2.ph ha]; exact ht
    have hL2 := l2_at (im := im) (w58 N) hN G
    obtain ⟨r, Q', a1, a2⟩ := c_admit hL2 hWA.ti hWA.mx ha htA hk x1 x2 (get 745 G)
    have a1' : F_X3_admit (P2 im N 58 G A (get 745 G)) 752 58 (nI a) (nI k) x = some (r.1, P2 im N 58 G r.2 Q') := a1
    obtain ⟨res, b1, b2⟩ := cg_ex hWA ha htA hk x1 x2 a2
    refine ⟨r.1, ⟨put 58 57 r.2 (put 745 11 Q' G), ?_, irc_p2 _ _⟩, fun P U hP _ hR => ?_⟩
    · show F_X9_would (PG im N G) 0 (nI a) (nI k) x = some (r.1, P2 im N 58 G r.2 Q')
      unfold F_X9_would
      simp only [gl hN, c_wrong hN, hw, if_true, Option.bind_some, co58 hN, p1, g2 hN 58 G, a1', un]
    · obtain ⟨U', d1, d2, -⟩ := m_would hP (U := thr U) (p2.rel hR) hWA ha htA hk x1 x2 b1
      refine ⟨U', ?_, (thr_same U).trans d2⟩
      unfold F_X10_would
      simp only [m_thr hP, ml hP, Option.bind_some, m_refused hP (U := thr U) hR, hw, if_true, d1, un, b2]
theorem T_stalled (p v x : Int32) : TH (fun h => F_X9_stalled h 0 p v x) (fun h => F_X10_stalled h 756 p v x) := rdh fun im N G z e n o s hG hW => by
  have hN := hG.n
  rcases wrg_cs (get 1 G) p v x with hf | ⟨hw, ⟨x1, x2⟩, a, k, ha, hk, rfl, rfl, ht⟩
  · refine ⟨wrgF (get 1 G) p v x, ⟨G, ?_, IrC.refl G⟩, fun P U hP _ hR => ⟨thr U, ?_, thr_same U⟩⟩
    · unfold F_X9_stalled
      simp only [gl hN, c_wrong hN, Option.bind_some, if_neg hf]
    · unfold F_X10_stalled
      simp only [m_thr hP, ml hP, Option.bind_some, m_refused hP (U := thr U) hR, if_neg hf]
  · obtain ⟨A, p1, p2⟩ := c_paper (im := im) hN G
    have hWA := p2.wok hW
    have htA : phV A a = true := by rw [p2.ph ha]; exact ht
    have hL2 := l2_at (im := im) (w58 N) hN G
    obtain ⟨r, Q1, res, Q2, a1, a2, a3, a4⟩ := c_cg hL2 hWA ha htA hk x1 x2 (get 745 G)
    have a1' : F_X3_admit (P2 im N 58 G A (get 745 G)) 752 58 (nI a) (nI k) x = some (r.1, P2 im N 58 G r.2 Q1) := a1
    have a2' : F_X3_pressToHigh (P2 im N 58 G r.2 Q1) 752 58 (nI a) r.1 = some (res.1, P2 im N 58 G res.2 Q2) := a2
    refine ⟨stlT res a, ⟨put 58 57 res.2 (put 745 11 Q2 G), ?_, irc_p2 _ _⟩, fun P U hP _ hR => ?_⟩
    · show F_X9_stalled (PG im N G) 0 (nI a) (nI k) x = some (stlT res a, P2 im N 58 G res.2 Q2)
      unfold F_X9_stalled
      simp only [gl hN, c_wrong hN, hw, if_true, Option.bind_some, co58 hN, p1, g2 hN 58 G, a1', a2', un]
      unfold F_X9_outlives stlT
      by_cases h : res.1 = 0 ∨ res.1 = 1 ∨ res.1 = 2
      · have : (if res.1 = 0 then some (1 : Int32) else if res.1 = 1 then some 1 else if res.1 = 2 then some 1 else some 0) = some 1 := by
          rcases h with h | h | h <;> rw [h] <;> rfl
        rw [this, if_pos h]
        simp only [Option.bind_some, if_neg i10, g2 hN 58 G, ol (hL2.1 Q2).lo, cl (hL2.1 Q2).lc, ha]
      · have h' : ¬ res.1 = 0 ∧ ¬ res.1 = 1 ∧ ¬ res.1 = 2 := ⟨fun z => h (Or.inl z), fun z => h (Or.inr (Or.inl z)), fun z => h (Or.inr (Or.inr z))⟩
        rw [if_neg h'.1, if_neg h'.2.1, if_neg h'.2.2, if_neg h]
        simp only [Option.bind_some, if_true]
    · obtain ⟨U', d1, d2, d3⟩ := m_would hP (U := thr U) (p2.rel hR) hWA ha htA hk x1 x2 a3
      refine ⟨U', ?_, (thr_same U).trans d2⟩
      unfold F_X10_stalled
      simp only [m_thr hP, ml hP, Option.bind_some, m_refused hP (U := thr U) hR, hw, if_true, d1, un, d3]
      by_cases h : 0 ≤ res.1
      · rw [if_pos h]
      · rw [if_neg h]
        have : stlT res a = -1 := by
          unfold stlT
          rw [if_neg]
          rintro (z | z | z) <;> exact h (by rw [z]; decide)
        rw [this]
end WOULD
