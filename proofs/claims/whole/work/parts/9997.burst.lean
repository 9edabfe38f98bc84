/-! calls on paper: burst, deaths, taken -/
variable {kt : Nat}
section BURST
/-- what a charge of m would tell -/
def Tl (V : WV) (p k m : Nat) (t : Int32) : Prop := ∃ A r, AgW V A ∧ AdR A p k (nI m) r ∧ r.1 = t
def Bst (V : WV) (p k : Nat) : Nat → Int32 → Prop
  | 0, r => r = 0
  | m + 1, r => ∃ t, Tl V p k (m + 1) t ∧ (if t = 0 ∨ t = 1 then r = nI (m + 1) else Bst V p k m r)
theorem nI_dn (m : Nat) : nI (m + 1) + (-1) = nI m := by
  rw [← Int32.sub_eq_add_neg]; exact nI_m1 m
theorem c_burst {im : Nat → Option Nat} {N n s : Nat} {o : Nat → Nat} (hN : 775 ≤ N) {G0 : WV} (hW : WOK kt (get 1 G0) n o s) {p k : Nat} (hp : p < 16) (ht : phV (get 1 G0) p = true) (hk : k < 2) : ∀ (m f : Nat) (G : WV), m ≤ 99 → m < f → IrC G0 G → ∃ r G', (loopF (fun x => F_X9_burst_L18 0 (nI p) (nI k) x.1 x.2) f (nI m, PG im N G)).bind (sE (fun x => some x) (fun h16 => some (0, h16))) = some (r, PG im N G') ∧ IrC G0 G' ∧ Bst (get 1 G0) p k m r
  | 0, f, G, _, hf, hI => by
    obtain ⟨f, rfl⟩ : ∃ j, f = j + 1 := ⟨f - 1, by omega⟩
    refine ⟨0, G, ?_, hI, rfl⟩
    have : F_X9_burst_L18 0 (nI p) (nI k) (nI 0) (PG im N G) = some (.inr (.inr (PG im N G))) := by
      unfold F_X9_burst_L18
      rw [if_pos (show nI 0 ≤ 0 by decide)]
    rw [loopF]
    dsimp only
    rw [this]; rfl
  | m + 1, f, G, hm, hf, hI => by
    obtain ⟨f, rfl⟩ : ∃ j, f = j + 1 := ⟨f - 1, by omega⟩
    have hpos : ¬ nI (m + 1) ≤ 0 := by
      rw [ti_le, nI_toInt (by omega), ti_0]; omega
    have t1 : 1 ≤ (nI (m + 1)).toInt := by rw [nI_toInt (by omega)]; omega
    have t9 : (nI (m + 1)).toInt ≤ 99 := by rw [nI_toInt (by omega)]; omega
    have hag : AgW (get 1 G0) (get 1 G) := hI.1.agw (Or.inl rfl)
    obtain ⟨A, p1, p2⟩ := c_paper (im := im) hN G
    have hA := hag.trans p2
    have hWA := hA.wok hW
    have htA : phV A p = true := by rw [hA.ph hp]; exact ht
    obtain ⟨r, Q', a1, a2⟩ := c_admit (l2_at (im := im) (w58 N) hN G) hWA.ti hWA.mx hp htA hk t1 t9 (get 745 G)
    have a1' : F_X3_admit (P2 im N 58 G A (get 745 G)) 752 58 (nI p) (nI k) (nI (m + 1)) = some (r.1, P2 im N 58 G r.2 Q') := a1
    have hI' : IrC G0 (put 58 57 r.2 (put 745 11 Q' G)) := hI.trans (irc_p2 _ _)
    have tl : Tl (get 1 G0) p k (m + 1) r.1 := ⟨A, r, hA, a2, rfl⟩
    have st : F_X9_burst_L18 0 (nI p) (nI k) (nI (m + 1)) (PG im N G) = if r.1 = 0 then some (.inr (.inl (nI (m + 1), P2 im N 58 G r.2 Q'))) else if r.1 = 1 then some (.inr (.inl (nI (m + 1), P2 im N 58 G r.2 Q'))) else some (.inl (nI m, P2 im N 58 G r.2 Q')) := by
      unfold F_X9_burst_L18
      rw [if_neg hpos]
      simp only [gl hN, Option.bind_some, co58 hN, p1, g2 hN 58 G, a1', un, bl, nI_dn]
    by_cases h : r.1 = 0 ∨ r.1 = 1
    · refine ⟨nI (m + 1), _, ?_, hI', r.1, tl, by rw [if_pos h]⟩
      rw [loopF]
      dsimp only
      rw [st]
      have : (if r.1 = 0 then some (Sum.inr (Sum.inl (nI (m + 1), P2 im N 58 G r.2 Q'))) else if r.1 = 1 then some (.inr (.inl (nI (m + 1), P2 im N 58 G r.2 Q'))) else some (.inl (nI m, P2 im N 58 G r.2 Q')) : Option ((Int32 × Hp) ⊕ ((Int32 × Hp) ⊕ Hp))) = some (.inr (.inl (nI (m + 1), P2 im N 58 G r.2 Q'))) := by
        rcases h with h | h
        · rw [if_pos h]
        · rw [if_neg (by rw [h]; decide), if_pos h]
      rw [this]; rfl
    · have h' : ¬ r.1 = 0 ∧ ¬ r.1 = 1 := ⟨fun z => h (Or.inl z), fun z => h (Or.inr z)⟩
      obtain ⟨y, G', e1, e2, e3⟩ := c_burst (im := im) hN hW hp ht hk m f (put 58 57 r.2 (put 745 11 Q' G)) (by omega) (by omega) hI'
      refine ⟨y, G', ?_, e2, r.1, tl, by rw [if_neg h]; exact e3⟩
      rw [loopF]
      dsimp only
      rw [st, if_neg h'.1, if_neg h'.2]
      exact e1
theorem m_burst {P : WV → Hp} {V : WV} {n s : Nat} {o : Nat → Nat} (hP : LM 756 P) (hW : WOK kt V n o s) {p k : Nat} (hp : p < 16) (ht : phV V p = true) (hk : k < 2) {r : Int32} : ∀ (m f : Nat) (U : WV), m ≤ 99 → m < f → Rel V (U.1 1) → Bst V p k m r → ∃ U', (loopF (fun x => F_X10_burst_L23 756 (nI p) (nI k) x.1 x.2) f (nI m, P U)).bind (sE (fun x => some x) (fun h13 => some (0, h13))) = some (r, P U') ∧ MSame U U'
  | 0, f, U, _, hf, hR, hB => by
    obtain ⟨f, rfl⟩ : ∃ j, f = j + 1 := ⟨f - 1, by omega⟩
    have hr : r = 0 := hB
    refine ⟨U, ?_, MSame.refl U⟩
    have : F_X10_burst_L23 756 (nI p) (nI k) (nI 0) (P U) = some (.inr (.inr (P U))) := by
      unfold F_X10_burst_L23
      rw [if_pos (show nI 0 ≤ 0 by decide)]
    rw [loopF]
    dsimp only
    rw [this, hr]; rfl
  | m + 1, f, U, hm, hf, hR, hB => by
    obtain ⟨f, rfl⟩ : ∃ j, f = j + 1 := ⟨f - 1, by omega⟩
    have c0 : (0 : Int64).toInt = 0 := rfl
    have c1 : (1 : Int64).toInt = 1 := rfl
    have hpos : ¬ nI (m + 1) ≤ 0 := by
      rw [ti_le, nI_toInt (by omega), ti_0]; omega
    have t1 : 1 ≤ (nI (m + 1)).toInt := by rw [nI_toInt (by omega)]; omega
    have t9 : (nI (m + 1)).toInt ≤ 99 := by rw [nI_toInt (by omega)]; omega
    obtain ⟨t, ⟨A, q, hA, a2, rfl⟩, hB⟩ := hB
    have hWA := hA.wok hW
    have htA : phV A p = true := by rw [hA.ph hp]; exact ht
    obtain ⟨res, b1, b2⟩ := cg_ex hWA hp htA hk t1 t9 a2
    obtain ⟨U1, d1, d2, -⟩ := m_would hP (hA.rel hR) hWA hp htA hk t1 t9 b1
    rw [b2] at d1
    have hin : (0 ≤ q.1.toInt ∧ q.1.toInt ≤ 1) ↔ (q.1 = 0 ∨ q.1 = 1) := by
      constructor
      · intro h
        obtain ⟨j, hj, e⟩ := v_in (K := 1) (by decide) h
        have : j = 0 ∨ j = 1 := by omega
        rcases this with rfl | rfl
        · exact Or.inl e
        · exact Or.inr e
      · rintro (h | h) <;> rw [h] <;> decide
    by_cases h : q.1 = 0 ∨ q.1 = 1
    · rw [if_pos h] at hB
      refine ⟨U1, ?_, d2⟩
      have st : F_X10_burst_L23 756 (nI p) (nI k) (nI (m + 1)) (P U) = some (.inr (.inl (nI (m + 1), P U1))) := by
        unfold F_X10_burst_L23
        rw [if_neg hpos]
        simp only [ml hP, d1, Option.bind_some, un, m_within, c0, c1, if_pos (hin.mpr h), if_neg i10]
      rw [loopF]
      dsimp only
      rw [st, hB]; rfl
    · rw [if_neg h] at hB
      have hn : ¬ (0 ≤ q.1.toInt ∧ q.1.toInt ≤ 1) := fun z => h (hin.mp z)
      obtain ⟨U', e1, e2⟩ := m_burst hP hW hp ht hk m f U1 (by omega) (by omega) (by rw [d2.1 1 (by omega)]; exact hR) hB
      refine ⟨U', ?_, d2.trans e2⟩
      have st : F_X10_burst_L23 756 (nI p) (nI k) (nI (m + 1)) (P U) = some (.inl (nI m, P U1)) := by
        unfold F_X10_burst_L23
        rw [if_neg hpos]
        simp only [ml hP, d1, Option.bind_some, un, m_within, c0, c1, if_neg hn, if_true, bl, nI_dn]
      rw [loopF]
      dsimp only
      rw [st]
      exact e1
theorem T_burst (p v : Int32) : TH (fun h => F_X9_burst h 0 p v) (fun h => F_X10_burst h 756 p v) := rdh fun im N G z e n o s hG hW => by
  have hN := hG.n
  rcases wrg_cs (get 1 G) p v 1 with hf | ⟨hw, ⟨x1, x2⟩, a, k, ha, hk, rfl, rfl, ht⟩
  · refine ⟨wrgF (get 1 G) p v 1, ⟨G, ?_, IrC.refl G⟩, fun P U hP _ hR => ⟨thr U, ?_, thr_same U⟩⟩
    · unfold F_X9_burst
      simp only [gl hN, c_wrong hN, Option.bind_some, if_neg hf]
    · unfold F_X10_burst
      simp only [m_thr hP, ml hP, Option.bind_some, m_refused hP (U := thr U) hR, if_neg hf]
  · obtain ⟨r, G', a1, a2, a3⟩ := c_burst (im := im) hN hW ha ht hk 99 6000 G (Nat.le_refl _) (by decide) (IrC.refl G)
    refine ⟨r, ⟨G', ?_, a2⟩, fun P U hP _ hR => ?_⟩
    · unfold F_X9_burst
      simp only [gl hN, c_wrong hN, hw, if_true, Option.bind_some]
      exact a1
    · obtain ⟨U', b1, b2⟩ := m_burst hP hW ha ht hk 99 6000 (thr U) (Nat.le_refl _) (by decide) hR a3
      refine ⟨U', ?_, (thr_same U).trans b2⟩
      unfold F_X10_burst
      simp only [m_thr hP, ml hP, Option.bind_some, m_refused hP (U := thr U) hR, hw, if_true]
      exact b1
end BURST
section DEATHS
theorem lim_max {V : WV} (hL : LimR V) {g : Nat} {v : Int32} (hv : 0 ≤ v.toInt ∧ v.toInt ≤ 999) : LimR (limS V g 3 v) := fun x hx ht => by
  have e2 : thV (limS V g 3 v) = thV V := rfl
  rw [e2] at ht
  have h := hL x hx ht
  have c : ∀ c, c ≠ 8 → (limS V g 3 v).1 c = V.1 c := fun c hc => lim_c (by omega)
  rw [c 5 (by decide), c 6 (by decide), c 7 (by decide), c 10 (by decide), c 11 (by decide), c 12 (by decide)]
  refine ⟨h.1, h.2.1, h.2.2.1, ?_, h.2.2.2.2⟩
  by_cases e : x = g
  · have : (limS V g 3 v).1 8 x = v := by rw [e]; exact upd_s _ _ _
    rw [this]; exact hv
  · have : (limS V g 3 v).1 8 x = V.1 8 x := upd_ne _ _ e
    rw [this]; exact h.2.2.2.1
theorem T_deaths (g v : Int32) : TH (fun h => F_X9_deaths h 0 g v) (fun h => F_X10_deaths h 756 g v) := rdh fun im N G z e n o s hG hW => by
  have hN := hG.n
  have c0 : (0 : Int64).toInt = 0 := rfl
  have c9 : (999 : Int64).toInt = 999 := rfl
  have d0 : (0 : Int32).toInt = 0 := rfl
  have d9 : (999 : Int32).toInt = 999 := rfl
  have s1 : sX 1 3 = some 0 := by decide
  have s2 : sX 2 3 = some 999 := by decide
  rcases g_cs (get 1 G) g with hf | ⟨k, hk, rfl, ht⟩
  · refine ⟨-2, ⟨G, ?_, IrC.refl G⟩, fun P U hP _ hR => ⟨thr U, ?_, thr_same U⟩⟩
    · unfold F_X9_deaths
      simp only [gl hN, gv hN, g_has hN, hf, Bool.false_eq_true, if_false, if_true, Option.bind_some]
    · unfold F_X10_deaths
      simp only [m_thr hP, ml hP, Option.bind_some, m_isGroup hP (U := thr U) hR, hf, Bool.false_eq_true, if_false, if_true]
  · by_cases hv : 0 ≤ v.toInt ∧ v.toInt ≤ 999
    · obtain ⟨A, p1, p2⟩ := c_paper (im := im) hN G
      have hWA := p2.wok hW
      have htA : thV A k = true := by rw [p2.th hk]; exact ht
      have hL2 := l2_at (im := im) (w58 N) hN G
      have hLm := lim_max (g := k) hWA.ti.2.2.1 hv
      obtain ⟨res, Q', a1, a2⟩ := c_limit hL2 hWA.ti hk htA (what := 3) (by decide) hv.1 hLm (get 745 G)
      have a1' : F_X3_setLimit (P2 im N 58 G A (get 745 G)) 752 58 (nI k) 3 v = some (if res.1 then res.2.1 15 k else -4, P2 im N 58 G res.2 Q') := a1
      obtain ⟨l1, l2, l3, l4, l5⟩ := lm_post hWA.ti hk htA (what := 3) (by decide) hv.1 hLm a2
      obtain ⟨G1, hG1⟩ : ∃ G1, G1 = put 58 57 res.2 (put 745 11 Q' G) := ⟨_, rfl⟩
      have hI : IrC G G1 := by rw [hG1]; exact irc_p2 _ _
      have hag := hI.1.agw (w := 1) (Or.inl rfl)
      have hW1 := hag.wok hW
      have hp2 : P2 im N 58 G res.2 Q' = PG im N G1 := by rw [hG1]; rfl
      have prA : ∀ {W : WV} {n : Nat} {o : Nat → Nat}, TI W n o → mkB 16 (prB W 0) = mkB 16 (phV W) := fun {W n o} hT => mkB_cong (by decide) fun p hp => by
        unfold prB
        cases ht : phV W p
        · rw [Bool.false_and]
        · obtain ⟨h1, h2, -⟩ := hT.1.2.1.at hp ht
          rw [blw_root hT.1.1.tree h1 h2, Bool.and_true]
      have th0 : ∀ {W : WV} {n : Nat} {o : Nat → Nat}, TI W n o → thV W 0 = true := fun {W n o} hT => by
        have hO := hT.1.1
        have := hO.th (i := 0) (by have := hO.1; omega); rw [hO.2.2.2.1] at this; exact this
      have bl1 : F_X8_bitsOfProcesses (P2 im N 58 G res.2 Q') 1 0 = some (mkB 16 (phV (get 1 G))) := by
        rw [hp2]
        refine at_lv (F := fun h => F_X8_bitsOfProcesses h 1 0) hN G1 fun P hX => ?_
        have := s_bitsP hX.1 hW1.ti.1.1 hW1.ti.1.2.1 (r := 0) (by decide) (th0 hW1.ti)
        rw [prA hW1.ti] at this
        rw [show F_X8_bitsOfProcesses (P (get 1 G1)) 1 0 = _ from this]
        exact congrArg some (mkB_cong (by decide) fun p hp => hag.ph hp)
      have bl2 : F_X8_bitsOfProcesses (P2 im N 58 G res.2 Q') 58 0 = some (mkB 16 (phV res.2)) := by
        have := s_bitsP (hL2.1 Q') l1.1.1 l1.1.2.1 (r := 0) (by decide) (th0 l1)
        rw [prA l1] at this
        exact this
      refine ⟨if res.1 then mkB 16 (phV (get 1 G)) &&& (mkB 16 (phV res.2) ^^^ (-1)) else 0, ⟨G1, ?_, hI⟩, fun P U hP _ hR => ?_⟩
      · have co1 : ∀ {α : Type} (x : Option α), cO (P2 im N 58 G res.2 Q') 1 8 x = x := fun x => by rw [hp2]; exact (gv hN).1 _ x
        have co5 : ∀ {α : Type} (x : Option α), cO (P2 im N 58 G res.2 Q') 58 8 x = x := fun x => by rw [hp2]; exact co58 hN _ x
        rw [← hp2]
        unfold F_X9_deaths
        simp only [gl hN, gv hN, g_has' hN G hk, ht, if_true, if_neg i10, Option.bind_some, s1, s2, o_out, d0, d9, if_pos hv, co58 hN, p1, g2 hN 58 G, a1', un]
        cases hr : res.1
        · simp only [Bool.false_eq_true, if_false, if_true]
        · have htr : thV res.2 k = true := by rw [thV_same (l3.1 2 (Or.inl (by decide)))]; exact htA
          have h15 := (l1.2.1.tot l1.1.2.2.1 hk htr).1
          have hn4 : ¬ res.2.1 15 k = -4 := fun z => by rw [z] at h15; exact absurd h15 (by decide)
          simp only [if_true, if_neg hn4, bl1, bl2, co1, co5, Option.bind_some]
      · have hRA : Rel A ((cpyM (thr U) 1 0 4 0).1 1) := by rw [opn_1]; exact p2.rel hR
        obtain ⟨U2, b1, b2, b3⟩ := m_limits hP hRA hWA.ti hk htA (what := 3) (by decide) hv.1 hLm a2
        have b1' : F_X10_limits (P (cpyM (thr U) 1 0 4 0)) 756 (nI k) 3 v = some (if res.1 then 1 else 0, P U2) := b1
        refine ⟨_, ?_, (thr_same U).trans (paper_same b2.toP)⟩
        have r1 : (thr U).1 1 1 = mkB 16 (phV (get 1 G)) := hR.1.2.1
        have r2 : U2.1 1 1 = mkB 16 (phV res.2) := b3.1.2.1
        unfold F_X10_deaths F_X10_deathsBy
        simp only [m_thr hP, ml hP, ml0 hP, Option.bind_some, m_isGroup' hP (U := thr U) hR hk, ht, if_true, if_neg i10, m_within, c0, c9, if_pos hv, r1, m_opens hP, b1', un]
        cases hr : res.1
        · simp only [Bool.false_eq_true, if_false, if_true, Option.bind_some, m_closes hP, un]
        · simp only [if_true, if_neg i10, ml0 hP, r2, Option.bind_some, m_closes hP, un]
    · refine ⟨-3, ⟨G, ?_, IrC.refl G⟩, fun P U hP _ hR => ⟨thr U, ?_, thr_same U⟩⟩
      · unfold F_X9_deaths
        simp only [gl hN, gv hN, g_has' hN G hk, ht, if_true, if_neg i10, Option.bind_some, s1, s2, o_out, d0, d9, if_neg hv]
      · unfold F_X10_deaths
        simp only [m_thr hP, ml hP, Option.bind_some, m_isGroup' hP (U := thr U) hR hk, ht, if_true, if_neg i10, m_within, c0, c9, if_neg hv]
end DEATHS
