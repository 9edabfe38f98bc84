/-! calls that act: tick, process, fork -/
variable {kt : Nat}
def TkN (s : Nat) : Nat → WV → WV → Prop
  | 0, V, V' => V' = V
  | k + 1, V, V' => ∃ A G, FixA (perV V) A ∧ FixG (perV V) A (mnI (V.1 0 6) (A 0)) G ∧ TkN s k (tikV (wrkV V G) s) V'
section TICK2
variable {V : WV} {n s : Nat} {o : Nat → Nat} {A Gf : Nat → Int32}
theorem wok_wrk (hW : WOK kt V n o s) (hA : FixA (perV V) A) (hG : FixG (perV V) A (mnI (V.1 0 6) (A 0)) Gf) : WOK kt (wrkV V Gf) n o s := by
  have c : ∀ c, c ≠ 17 → c ≠ 31 → c ≠ 32 → (wrkV V Gf).1 c = V.1 c := fun c h1 h2 h3 => wrk_c c h1 h2 h3
  have e0 := c 0 (by decide) (by decide) (by decide)
  have e2 := c 2 (by decide) (by decide) (by decide)
  have e24 := c 24 (by decide) (by decide) (by decide)
  refine ⟨⟨⟨wrk_ord hW.ti.1.1, wrk_hom hW.ti.1.2.1, hW.ti.1.2.2.1.same e2 (c 14 (by decide) (by decide) (by decide)) (c 15 (by decide) (by decide) (by decide)) e24 (c 27 (by decide) (by decide) (by decide)) (c 28 (by decide) (by decide) (by decide)), hW.ti.1.2.2.2.same e2 (c 16 (by decide) (by decide) (by decide)) e24 (c 29 (by decide) (by decide) (by decide))⟩, hW.ti.2.1.same e2 (c 14 (by decide) (by decide) (by decide)) e24 (c 27 (by decide) (by decide) (by decide)) (c 28 (by decide) (by decide) (by decide)) (c 29 (by decide) (by decide) (by decide)), ?_, hW.ti.2.2.2.same e0 e24 (c 29 (by decide) (by decide) (by decide))⟩, ?_, ?_, wrk_trg hW.tg, ?_, wrk_td hW.td hA hG, ?_, ?_, ?_⟩
  · have h := hW.ti.2.2.1
    unfold LimR at h ⊢
    rw [thV_same e2, c 5 (by decide) (by decide) (by decide), c 6 (by decide) (by decide) (by decide), c 7 (by decide) (by decide) (by decide), c 8 (by decide) (by decide) (by decide), c 10 (by decide) (by decide) (by decide), c 11 (by decide) (by decide) (by decide), c 12 (by decide) (by decide) (by decide)]; exact h
  · have h := hW.mx
    unfold MaxOK at h ⊢
    rw [thV_same e2, c 15 (by decide) (by decide) (by decide), c 8 (by decide) (by decide) (by decide)]; exact h
  · intro p hp ht
    rw [phV_same e24] at ht
    have h := hW.dd p hp ht
    rw [c 27 (by decide) (by decide) (by decide), c 28 (by decide) (by decide) (by decide)]
    refine ⟨h.1, h.2.1, ?_⟩
    show (if p < 16 then (gotF (perV V) Gf).1 31 p - Gf (12 + p) else _) = 0
    have e : (gotF (perV V) Gf).1 31 = V.1 31 := per_c (by decide)
    have hp' : phV (perV V) p = false := by rw [phV_same (per_c (by decide))]; exact ht
    rw [if_pos hp, e, h.2.2, hG.p0 hA hp hp']; rfl
  · have h := hW.st
    unfold StB at h ⊢
    rw [phV_same e24, c 30 (by decide) (by decide) (by decide)]; exact h
  · rw [e0]; exact hW.bt
  · rw [e0]; exact hW.cap
  · rw [e0]; exact hW.tik
theorem tik_0 (V : WV) (s : Nat) : (tikV V s).1 0 = upd (V.1 0) 7 (V.1 0 7 + 1) := rfl
theorem tik_30 (V : WV) (s : Nat) : (tikV V s).1 30 = fun p => if p < 16 then mxI 0 (V.1 30 p - 1) else V.1 30 p := by
  have : (fireF (notA V) s (soB V 0)).1 30 = V.1 30 := by
    unfold fireF
    rw [sx_1, up_n _ _ (by decide)]
    exact fin_c _ (by omega)
  show (fun p => if p < 16 then mxI 0 ((fireF (notA V) s (soB V 0)).1 30 p - 1) else (fireF (notA V) s (soB V 0)).1 30 p) = _
  rw [this]
theorem wok_tik (hW : WOK kt V n o s) (hk : kt + 1 < 2 ^ 31) : WOK (kt + 1) (tikV V s) n o s := by
  have c : ∀ c, c ≠ 0 → c ≠ 30 → c ≠ 56 → (c < 39 ∨ 52 ≤ c) → (tikV V s).1 c = V.1 c := fun c h0 h30 h56 hc => tik_c h0 h30 h56 hc
  have e2 := c 2 (by decide) (by decide) (by decide) (by decide)
  have e24 := c 24 (by decide) (by decide) (by decide) (by decide)
  have f : ∀ j, j ≠ 7 → (tikV V s).1 0 j = V.1 0 j := fun j hj => by rw [tik_0, upd_ne _ _ hj]
  refine ⟨⟨⟨hW.ti.1.1.same (c 1 (by decide) (by decide) (by decide) (by decide)) e2 (c 3 (by decide) (by decide) (by decide) (by decide)), hW.ti.1.2.1.same e2 e24, hW.ti.1.2.2.1.same e2 (c 14 (by decide) (by decide) (by decide) (by decide)) (c 15 (by decide) (by decide) (by decide) (by decide)) e24 (c 27 (by decide) (by decide) (by decide) (by decide)) (c 28 (by decide) (by decide) (by decide) (by decide)), hW.ti.1.2.2.2.same e2 (c 16 (by decide) (by decide) (by decide) (by decide)) e24 (c 29 (by decide) (by decide) (by decide) (by decide))⟩, hW.ti.2.1.same e2 (c 14 (by decide) (by decide) (by decide) (by decide)) e24 (c 27 (by decide) (by decide) (by decide) (by decide)) (c 28 (by decide) (by decide) (by decide) (by decide)) (c 29 (by decide) (by decide) (by decide) (by decide)), ?_, ?_⟩, ?_, ?_, ?_, ?_, ?_, ?_, ?_, ?_⟩
  · have h := hW.ti.2.2.1
    unfold LimR at h ⊢
    rw [thV_same e2, c 5 (by decide) (by decide) (by decide) (by decide), c 6 (by decide) (by decide) (by decide) (by decide), c 7 (by decide) (by decide) (by decide) (by decide), c 8 (by decide) (by decide) (by decide) (by decide), c 10 (by decide) (by decide) (by decide) (by decide), c 11 (by decide) (by decide) (by decide) (by decide), c 12 (by decide) (by decide) (by decide) (by decide)]; exact h
  · have h := hW.ti.2.2.2
    unfold SwN swpI at h ⊢
    rw [phV_same e24, c 29 (by decide) (by decide) (by decide) (by decide), f 5 (by decide)]; exact h
  · have h := hW.mx
    unfold MaxOK at h ⊢
    rw [thV_same e2, c 15 (by decide) (by decide) (by decide) (by decide), c 8 (by decide) (by decide) (by decide) (by decide)]; exact h
  · have h := hW.dd
    unfold DedOK at h ⊢
    rw [phV_same e24, c 27 (by decide) (by decide) (by decide) (by decide), c 28 (by decide) (by decide) (by decide) (by decide), c 31 (by decide) (by decide) (by decide) (by decide)]; exact h
  · have h := hW.tg
    unfold TrgN trg tww at h ⊢
    rw [c 52 (by decide) (by decide) (by decide) (by decide), c 53 (by decide) (by decide) (by decide) (by decide), c 54 (by decide) (by decide) (by decide) (by decide), thV_same e2]; exact h
  · intro p hp ht
    rw [phV_same e24] at ht
    have h := hW.st p hp ht
    have h1 := h.1
    have h2 := h.2
    unfold StB
    rw [tik_30]
    dsimp only
    rw [if_pos hp, ti_mx, ti_0, ti_sub (by have : (1 : Int32).toInt = 1 := rfl; omega) (by have : (1 : Int32).toInt = 1 := rfl; omega)]
    have : (1 : Int32).toInt = 1 := rfl
    omega
  · have h := hW.td
    unfold TdB at h ⊢
    rw [phV_same e24, c 31 (by decide) (by decide) (by decide) (by decide)]; exact h
  · rw [f 4 (by decide)]; exact hW.bt
  · rw [f 6 (by decide)]; exact hW.cap
  · rw [tik_0, upd_s]
    have h := hW.tik
    have h1 := h.1
    have h2 := h.2
    have : (1 : Int32).toInt = 1 := rfl
    rw [ti_add (by omega) (by omega), this]
    omega
theorem c_tick {im : Nat → Option Nat} {N : Nat} (hN : 775 ≤ N) {G1 : WV} {m : Nat} (hm : m ≤ 40) : ∀ (d f kt : Nat) (V Q : WV), d ≤ m → d < f → kt + d < 2 ^ 31 → WOK kt V n o s → ∃ V' Q', loopF (fun x => F_X9_tick_L26 0 (nI m) x.1 x.2) f (nI (m - d), P2 im N 1 G1 V Q) = some (P2 im N 1 G1 V' Q') ∧ TkN s d V V' ∧ WOK (kt + d) V' n o s
  | 0, f, kt, V, Q, _, hf, _, hW => by
    obtain ⟨f, rfl⟩ : ∃ j, f = j + 1 := ⟨f - 1, by omega⟩
    refine ⟨V, Q, ?_, rfl, hW⟩
    have st : F_X9_tick_L26 0 (nI m) (nI (m - 0)) (P2 im N 1 G1 V Q) = some (.inr (P2 im N 1 G1 V Q)) := by
      unfold F_X9_tick_L26
      rw [Nat.sub_zero, if_pos (Int32.le_refl _)]
    rw [loopF]
    dsimp only
    rw [st]; rfl
  | d + 1, f, kt, V, Q, hd, hf, hk, hW => by
    obtain ⟨f, rfl⟩ : ∃ j, f = j + 1 := ⟨f - 1, by omega⟩
    have hL2 := l2_at (im := im) (w1 N) hN G1
    obtain ⟨Af, Gt, a1, a2, a3⟩ := c_work (Q := Q) hL2 hW.ti.1.1 hW.ti.1.2.1 hW.ti.2.2.1 hW.td hW.cap
    have a1' : F_X2_doWork (P2 im N 1 G1 V Q) 753 1 = some (P2 im N 1 G1 (wrkV V Gt) (sx (sx Q 10 Af) 9 Gt)) := a1
    have hWw := wok_wrk hW a2 a3
    obtain ⟨R, hR⟩ : ∃ R, R = sx (sx Q 10 Af) 9 Gt := ⟨_, rfl⟩
    rw [← hR] at a1'
    have b1 : F_X8_noteStalls (P2 im N 1 G1 (wrkV V Gt) R) 1 = some (P2 im N 1 G1 (fireF (notA (wrkV V Gt)) s (soB (wrkV V Gt) 0)) R) := s_noteStalls (w := 1) (P := fun V => P2 im N 1 G1 V R) (V := wrkV V Gt) (hL2.1 R) hWw.ti.1.1 hWw.ti.1.2.1 hWw.tg
    have b2 : F_X8_passTick (P2 im N 1 G1 (fireF (notA (wrkV V Gt)) s (soB (wrkV V Gt) 0)) R) 1 = some (P2 im N 1 G1 (tikV (wrkV V Gt) s) R) := by
      have := s_passTick (V := fireF (notA (wrkV V Gt)) s (soB (wrkV V Gt) 0)) (hL2.1 R)
      have e0 : (fireF (notA (wrkV V Gt)) s (soB (wrkV V Gt) 0)).1 0 = (wrkV V Gt).1 0 := by
        unfold fireF
        rw [sx_1, up_n _ _ (by decide)]
        exact fin_c _ (by omega)
      rw [e0] at this
      exact this
    have hWt := wok_tik hWw (by omega)
    obtain ⟨V', Q', e1, e2, e3⟩ := c_tick (im := im) (G1 := G1) hN hm d f (kt + 1) (tikV (wrkV V Gt) s) R (by omega) (by omega) (by omega) hWt
    refine ⟨V', Q', ?_, ⟨Af, Gt, a2, a3, e2⟩, by rw [show kt + (d + 1) = kt + 1 + d by omega]; exact e3⟩
    have hlt : ¬ nI m ≤ nI (m - (d + 1)) := nI_ge (by omega) (by omega)
    have ed : m - (d + 1) + 1 = m - d := by omega
    have st : F_X9_tick_L26 0 (nI m) (nI (m - (d + 1))) (P2 im N 1 G1 V Q) = some (.inl (nI (m - d), P2 im N 1 G1 (tikV (wrkV V Gt) s) R)) := by
      unfold F_X9_tick_L26
      rw [if_neg hlt]
      simp only [g2 hN 1 G1, Option.bind_some, a1', ol (hL2.1 R).lo, b1, b2, bl, nI_1, ed]
    rw [loopF]
    dsimp only
    rw [st]
    exact e1
theorem m_tick {P : WV → Hp} (hP : LM 756 P) {m : Nat} (hm : m ≤ 40) : ∀ (d f kt : Nat) (V V' U : WV), d ≤ m → d < f → kt + d < 2 ^ 31 → WOK kt V n o s → TkN s d V V' → CoM U → Rel V (U.1 1) → ∃ U', loopF (fun x => F_X10_tick_L26 756 (nI m) x.1 x.2) f (nI (m - d), P U) = some (P U') ∧ Keep U U' ∧ Rel V' (U'.1 1)
  | 0, f, kt, V, V', U, _, hf, _, hW, hT, _, hR => by
    obtain ⟨f, rfl⟩ : ∃ j, f = j + 1 := ⟨f - 1, by omega⟩
    have hT' : V' = V := hT
    refine ⟨U, ?_, Keep.refl U, by rw [hT']; exact hR⟩
    have st : F_X10_tick_L26 756 (nI m) (nI (m - 0)) (P U) = some (.inr (P U)) := by
      unfold F_X10_tick_L26
      rw [Nat.sub_zero, if_pos (Int32.le_refl _)]
    rw [loopF]
    dsimp only
    rw [st]; rfl
  | d + 1, f, kt, V, V', U, hd, hf, hk, hW, hT, hC, hR => by
    obtain ⟨f, rfl⟩ : ∃ j, f = j + 1 := ⟨f - 1, by omega⟩
    obtain ⟨Af, Gt, a2, a3, hT⟩ := hT
    have hWw := wok_wrk hW a2 a3
    have hWt := wok_tik hWw (by omega)
    obtain ⟨U1, b1, b2, b3⟩ := m_tick1 hP hC hW.ti.1.1 hW.ti.1.2.1 hW.ti.2.2.1 hW.tg (fun p hp ht => (hW.st p hp ht).1) hR a2 a3
    have hC1 : CoM U1 := by unfold CoM; rw [b2.1 7 (by decide) (by decide)]; exact hC
    obtain ⟨U', e1, e2, e3⟩ := m_tick hP hm d f (kt + 1) (tikV (wrkV V Gt) s) V' U1 (by omega) (by omega) (by omega) hWt hT hC1 b3
    refine ⟨U', ?_, b2.trans e2, e3⟩
    have hlt : ¬ nI m ≤ nI (m - (d + 1)) := nI_ge (by omega) (by omega)
    have ed : m - (d + 1) + 1 = m - d := by omega
    have st : F_X10_tick_L26 756 (nI m) (nI (m - (d + 1))) (P U) = some (.inl (nI (m - d), P U1)) := by
      unfold F_X10_tick_L26
      rw [if_neg hlt]
      simp only [ml hP, b1, Option.bind_some, bl, nI_1, ed]
    rw [loopF]
    dsimp only
    rw [st]
    exact e1
theorem T_tick (x : Int32) : TH (fun h => F_X9_tick h 0 x) (fun h => F_X10_tick h 756 x) := act @fun kt hkt im N G z e n o s hG hW => by
  have hN := hG.n
  have c1 : (1 : Int64).toInt = 1 := rfl
  have c40 : (40 : Int64).toInt = 40 := rfl
  have d1 : (1 : Int32).toInt = 1 := rfl
  have d40 : (40 : Int32).toInt = 40 := rfl
  by_cases hx : 1 ≤ x.toInt ∧ x.toInt ≤ 40
  · right
    obtain ⟨m, hm, rfl⟩ := v_in (v := x) (K := 40) (by decide) ⟨by omega, hx.2⟩
    obtain ⟨G1, V1, Q1, t1, t2, t3⟩ := c_try hG
    have hL2 := l2_at (im := im) (w1 N) hN G1
    have hW1 := t1.wok hW
    obtain ⟨V', Q', a1, a2, a3⟩ := c_tick (im := im) (G1 := G1) hN hm m 6000 kt V1 Q1 (Nat.le_refl _) (by omega) (by omega) hW1
    rw [Nat.sub_self] at a1
    have a1' : loopF (fun x => F_X9_tick_L26 0 (nI m) x.1 x.2) 6000 (0, P2 im N 1 G1 V1 Q1) = some (P2 im N 1 G1 V' Q') := a1
    obtain ⟨G3, s1, s2⟩ := t3 V' Q' (V'.1 0 7)
    have hp : 0 ≤ V'.1 0 7 := ti_nn a3.tik.1
    rw [if_pos hp] at s2
    refine ⟨V'.1 0 7, V', G3, ?_, by rw [if_pos hp]; exact ⟨s2, n, o, s, a3.mono (by omega)⟩, fun P U hP hcs hR h8 => ?_⟩
    · unfold F_X9_tick
      simp only [o_out, d1, d40, if_pos hx, if_true, Option.bind_some, gl hN, t2, a1', g2 hN 1 G1, ol (hL2.1 Q').lo, s1, un]
    · have hR1 : Rel V1 ((bgn (thr U)).1 1) := by rw [bgn_1]; exact t1.rel hR
      have hC : CoM (bgn (thr U)) := by
        unfold CoM bgn
        rw [cpy_c (by decide)]; exact hcs.2
      obtain ⟨U2, b1, b2, b3⟩ := m_tick hP hm m 6000 kt V1 V' (bgn (thr U)) (Nat.le_refl _) (by omega) (by omega) hW1 a2 hC hR1
      rw [Nat.sub_self] at b1
      have b1' : loopF (fun x => F_X10_tick_L26 756 (nI m) x.1 x.2) 6000 (0, P (bgn (thr U))) = some (P U2) := b1
      have e2 : U2.1 1 2 = V'.1 0 7 := b3.1.2.2.1
      obtain ⟨U3, m1, m2⟩ := m_told hP (thr_same U) hG.2.1 h8 b2 b3 (V'.1 0 7)
      refine ⟨U3, ?_, by rw [if_pos hp]; exact m2⟩
      unfold F_X10_tick
      simp only [m_thr hP, m_within, c1, c40, if_pos hx, if_neg i10, Option.bind_some, ml hP, ml0 hP, m_bgn hP, b1', e2, m1, un]
  · left
    refine ⟨-3, ?_, fun P U hP _ hR => ⟨thr U, ?_, thr_same U⟩⟩
    · unfold F_X9_tick
      simp only [o_out, d1, d40, if_neg hx, if_neg i10, Option.bind_some]
    · unfold F_X10_tick
      simp only [m_thr hP, m_within, c1, c40, if_neg hx, if_true, Option.bind_some]
end TICK2
