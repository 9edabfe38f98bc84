/-! calls that use the tools: share, spare, next, units -/
variable {kt : Nat}
def TH (FC FM : Hp → Option (Int32 × Hp)) : Prop := ∀ kt im N G z e, kt < 2 ^ 30 → GI kt im N G z e → ∃ r im' N' G1 G' z' e', FC (PG im N G) = some (r, PG im' N' G1) ∧ FM (PG im' N' G1) = some (r, PG im' N' G') ∧ GI (kt + 40) im' N' G' z' e'
/-- the class has left alone what counts, and the model's cells -/
def IrC (G G1 : WV) : Prop := Irr G G1 ∧ ∀ c, 756 ≤ c → G1.1 c = G.1 c ∧ G1.2 c = G.2 c
theorem IrC.refl (G : WV) : IrC G G := ⟨Irr.refl G, fun _ _ => ⟨rfl, rfl⟩⟩
theorem IrC.trans {G G1 G2 : WV} (h : IrC G G1) (h' : IrC G1 G2) : IrC G G2 := ⟨h.1.trans h'.1, fun c hc => ⟨(h'.2 c hc).1.trans (h.2 c hc).1, (h'.2 c hc).2.trans (h.2 c hc).2⟩⟩
theorem irc_tools {G : WV} (Q : WV) : IrC G (put 745 11 Q G) := ⟨irr_tools Q, fun c hc => put_out (by omega)⟩
theorem irc_paper {G : WV} (V : WV) : IrC G (put 58 57 V G) := ⟨irr_paper V, fun c hc => put_out (by omega)⟩
theorem Cst.com {G : WV} (h : Cst G) : CoM (get 756 G) := h.2
theorem rdh {FC FM : Hp → Option (Int32 × Hp)} (h : ∀ {kt : Nat} im N G z e n o s, GI kt im N G z e → WOK kt (get 1 G) n o s → ∃ r, (∃ G1, FC (PG im N G) = some (r, PG im N G1) ∧ IrC G G1) ∧ (∀ (P : WV → Hp) (U : WV), LM 756 P → CoM U → Rel (get 1 G) (U.1 1) → ∃ U', FM (P U) = some (r, P U') ∧ MSame U U')) : TH FC FM := by
  intro kt im N G z e _ hG
  have hN := hG.n
  obtain ⟨⟨n, o, s, hW⟩, hR⟩ := hG.lv
  have hc : CoM (get 756 G) := Cst.com hG.2.2.2.2.2.2.2.2.2.2.2
  obtain ⟨r, ⟨G1, a1, a2⟩, h2⟩ := h im N G z e n o s hG hW
  have eU : get 756 G1 = get 756 G := by
    unfold get
    refine Prod.ext (funext fun c => ?_) (funext fun c => ?_)
    · exact (a2.2 (756 + c) (by omega)).1
    · exact (a2.2 (756 + c) (by omega)).2
  obtain ⟨U', b1, b2⟩ := h2 (fun U => PG im N (put 756 19 U G1)) (get 756 G) (lm_at hN G1) hc hR
  rw [← eU, put_get] at b1
  exact ⟨r, im, N, G1, _, z, e, a1, b1, ((hG.irr a2.1).irr (irr_model (by rw [eU]; exact b2))).mono (by omega)⟩
theorem p2_tools (im : Nat → Option Nat) (N : Nat) (G Q : WV) : P2 im N 1 G (get 1 G) Q = PG im N (put 745 11 Q G) := by
  unfold P2
  rw [put_comm (by omega), put_get]
theorem lx_at {im : Nat → Option Nat} {N : Nat} (hN : 775 ≤ N) (G : WV) : LX (fun V => PG im N (put 1 57 V G)) := ⟨lw_at (Or.inl rfl) hN G, fun V α x => (gl hN).1 _ x, fun V => (gl hN).2.1 _, fun V => (gl hN).2.2.2.2.2.2.1 _, fun V α x => (gl hN).2.2.2.2.2.2.2.2.2.2.1 _ x⟩
/-- a reading row of the live World, at the whole heap -/
theorem at_lv {im : Nat → Option Nat} {N : Nat} (hN : 775 ≤ N) {β : Type} {F : Hp → Option β} (G : WV) {r : Option β} (h : ∀ P, LX P → F (P (get 1 G)) = r) : F (PG im N G) = r := by
  have := h _ (lx_at (im := im) hN G)
  rw [put_get] at this
  exact this
def isPr (V : WV) (g r : Int32) : Bool := (inb g 12 && thV V g.toNatClampNeg) && ((inb r 12 && thV V r.toNatClampNeg) && blw (pfV V) r.toNatClampNeg g.toNatClampNeg)
section PAIR
variable {V U : WV} {n : Nat} {o : Nat → Nat} {P : WV → Hp}
theorem pr_cs (V : WV) (g r : Int32) : isPr V g r = false ∨ ∃ a b, a < 12 ∧ b < 12 ∧ g = nI a ∧ r = nI b ∧ thV V a = true ∧ thV V b = true ∧ blw (pfV V) b a = true := by
  unfold isPr
  rcases g_cs V g with hf | ⟨a, ha, rfl, ht⟩
  · rw [hf]; exact Or.inl rfl
  · rcases g_cs V r with hf | ⟨b, hb, rfl, htb⟩
    · rw [hf, Bool.false_and, Bool.and_false]; exact Or.inl rfl
    · cases hbl : blw (pfV V) b a
      · left
        rw [nI_clamp (show a < 2 ^ 31 by omega), nI_clamp (show b < 2 ^ 31 by omega), hbl, Bool.and_false, Bool.and_false]
      · exact Or.inr ⟨a, b, ha, hb, rfl, rfl, ht, htb, hbl⟩
theorem pr_t {a b : Nat} (ha : a < 12) (hb : b < 12) : isPr V (nI a) (nI b) = (thV V a && (thV V b && blw (pfV V) b a)) := by
  unfold isPr
  rw [inb_nI ha (by decide), inb_nI hb (by decide), nI_clamp (by omega), nI_clamp (by omega), Bool.true_and, Bool.true_and]
theorem c_isBelow (hX : LX P) (hO : OrdOK V n o) (g r : Int32) : F_X9_isBelow (P V) 0 g r = some (if isPr V g r then 1 else 0) := by
  rcases g_cs V g with hf | ⟨a, ha, rfl, ht⟩
  · have : isPr V g r = false := by unfold isPr; rw [hf]; rfl
    unfold F_X9_isBelow
    simp only [hX.2.2.1, ol hX.1.lo, tl hX.1.lt, Option.bind_some, s_has hX.1.lt, hf, this, Bool.false_eq_true, if_false, if_true]
  · rcases g_cs V r with hf | ⟨b, hb, rfl, htb⟩
    · have : isPr V (nI a) r = false := by unfold isPr; rw [hf, Bool.false_and, Bool.and_false]
      unfold F_X9_isBelow
      simp only [hX.2.2.1, ol hX.1.lo, tl hX.1.lt, Option.bind_some, s_has' hX.1.lt ha, s_has hX.1.lt, ht, hf, this, Bool.false_eq_true, if_false, if_true, if_neg i10]
    · rw [pr_t ha hb, ht, htb, Bool.true_and, Bool.true_and]
      have e : (((mkB 12 (fun g => thV V g && blw (pfV V) b g) >>> (nI a &&& 31)) &&& 1) = 1) = (blw (pfV V) b a = true) := by
        apply propext
        rw [bit_iff (by omega), bt_mkB (by decide) (by omega), decide_eq_true ha, ht, Bool.true_and, Bool.true_and]
      unfold F_X9_isBelow
      simp only [hX.2.2.1, ol hX.1.lo, tl hX.1.lt, Option.bind_some, s_has' hX.1.lt ha, s_has' hX.1.lt hb, ht, htb, if_true, if_neg i10, s_bits hX.1.lt hO hb htb, e]
      cases blw (pfV V) b a
      · rw [if_neg (by decide), if_neg (by decide)]
      · rw [if_pos rfl, if_pos rfl]
theorem m_isPair (hP : LM 756 P) (hR : Rel V (U.1 1)) (hO : OrdOK V n o) (g r : Int32) : F_X10_isPair (P U) 756 g r = some (if isPr V g r then 1 else 0, P U) := by
  rcases g_cs V g with hf | ⟨a, ha, rfl, ht⟩
  · have : isPr V g r = false := by unfold isPr; rw [hf]; rfl
    unfold F_X10_isPair
    simp only [ml hP, Option.bind_some, m_isGroup hP hR, hf, this, Bool.false_eq_true, if_false, if_true]
  · rcases g_cs V r with hf | ⟨b, hb, rfl, htb⟩
    · have : isPr V (nI a) r = false := by unfold isPr; rw [hf, Bool.false_and, Bool.and_false]
      unfold F_X10_isPair
      simp only [ml hP, Option.bind_some, m_isGroup' hP hR ha, m_isGroup hP hR, ht, hf, this, Bool.false_eq_true, if_false, if_true, if_neg i10]
    · rw [pr_t ha hb, ht, htb, Bool.true_and, Bool.true_and]
      unfold F_X10_isPair
      simp only [ml hP, Option.bind_some, m_isGroup' hP hR ha, m_isGroup' hP hR hb, ht, htb, if_true, if_neg i10, m_isBelow hP hR hO ha ht (show b < 2 ^ 31 by omega), un]
      cases blw (pfV V) b a
      · rfl
      · rfl
end PAIR
section TOOLS
theorem T_share (g r v : Int32) : TH (fun h => F_X9_share h 0 g r v) (fun h => F_X10_share h 756 g r v) := rdh fun im N G z e n o s hG hW => by
  have hN := hG.n
  have hO := hW.ti.1.1
  have c0 : (0 : Int64).toInt = 0 := rfl
  have c1 : (1 : Int64).toInt = 1 := rfl
  have d0 : (0 : Int32).toInt = 0 := rfl
  have d1 : (1 : Int32).toInt = 1 := rfl
  have hb : F_X9_isBelow (PG im N G) 0 g r = some (if isPr (get 1 G) g r then 1 else 0) := at_lv (F := fun h => F_X9_isBelow h 0 g r) hN G fun P hX => c_isBelow hX hO g r
  rcases pr_cs (get 1 G) g r with hf | ⟨a, b, ha, hb', rfl, rfl, ht, htb, hbl⟩
  · refine ⟨-2, ⟨G, ?_, IrC.refl G⟩, fun P U hP _ hR => ⟨thr U, ?_, thr_same U⟩⟩
    · unfold F_X9_share
      simp only [gl hN, hb, hf, Bool.false_eq_true, if_false, if_true, Option.bind_some]
    · unfold F_X10_share
      simp only [m_thr hP, ml hP, Option.bind_some, m_isPair hP (U := thr U) hR hO, hf, Bool.false_eq_true, if_false, if_true, un]
  · have hp : isPr (get 1 G) (nI a) (nI b) = true := by rw [pr_t ha hb', ht, htb, hbl]; rfl
    by_cases hab : nI a = nI b
    · refine ⟨-2, ⟨G, ?_, IrC.refl G⟩, fun P U hP _ hR => ⟨thr U, ?_, thr_same U⟩⟩
      · unfold F_X9_share
        simp only [gl hN, hb, hp, if_true, if_neg i10, if_pos hab, Option.bind_some]
      · unfold F_X10_share
        simp only [m_thr hP, ml hP, Option.bind_some, m_isPair hP (U := thr U) hR hO, hp, if_true, if_neg i10, if_pos hab, un]
    · have hne : a ≠ b := fun z => hab (by rw [z])
      by_cases hv : 0 ≤ v.toInt ∧ v.toInt ≤ 1
      · obtain ⟨j, hj, rfl⟩ := v_in (K := 1) (by decide) hv
        have hj2 : j < 2 := by omega
        obtain ⟨Q', q1, -, q3⟩ := c_part (V := get 1 G) (l2_at (im := im) (Or.inl rfl) hN G) hO hb' htb hj2 (get 745 G)
        rw [← p2_get, p2_tools] at q1
        refine ⟨shr (get 1 G) j b a, ⟨put 745 11 Q' G, ?_, irc_tools Q'⟩, fun P U hP _ hR => ?_⟩
        · unfold F_X9_share
          simp only [gl hN, hb, hp, if_true, if_neg i10, if_neg hab, o_out, d0, d1, if_pos hv, Option.bind_some, q1, ql (lq_at hN G), ha, q3 a ha ht hbl hne]
        · obtain ⟨U', b1, b2, -, b4⟩ := m_shares hP (U := thr U) hR hW.ti.1 (hW.ti.2.1.lim hW.ti.1.2.2.1 hW.ti.2.2.1) hb' htb hj2
          refine ⟨U', ?_, (thr_same U).trans b2.same⟩
          have e15 : U'.1 15 a = shr (get 1 G) j b a := b4 a ha ht hbl hne
          unfold F_X10_share
          simp only [m_thr hP, ml hP, Option.bind_some, m_isPair hP (U := thr U) hR hO, hp, if_true, if_neg i10, if_neg hab, un, m_within, c0, c1, if_pos hv, b1, ha, e15]
      · refine ⟨-3, ⟨G, ?_, IrC.refl G⟩, fun P U hP _ hR => ⟨thr U, ?_, thr_same U⟩⟩
        · unfold F_X9_share
          simp only [gl hN, hb, hp, if_true, if_neg i10, if_neg hab, o_out, d0, d1, if_neg hv, Option.bind_some]
        · unfold F_X10_share
          simp only [m_thr hP, ml hP, Option.bind_some, m_isPair hP (U := thr U) hR hO, hp, if_true, if_neg i10, if_neg hab, un, m_within, c0, c1, if_neg hv]
theorem T_spare (g r v x : Int32) : TH (fun h => F_X9_spare h 0 g r v x) (fun h => F_X10_spare h 756 g r v x) := rdh fun im N G z e n o s hG hW => by
  have hN := hG.n
  have hO := hW.ti.1.1
  have hH := hW.ti.1.2.1
  have c0 : (0 : Int64).toInt = 0 := rfl
  have c1 : (1 : Int64).toInt = 1 := rfl
  have d0 : (0 : Int32).toInt = 0 := rfl
  have d1 : (1 : Int32).toInt = 1 := rfl
  have hb : F_X9_isBelow (PG im N G) 0 g r = some (if isPr (get 1 G) g r then 1 else 0) := at_lv (F := fun h => F_X9_isBelow h 0 g r) hN G fun P hX => c_isBelow hX hO g r
  rcases pr_cs (get 1 G) g r with hf | ⟨a, b, ha, hb', rfl, rfl, ht, htb, hbl⟩
  · refine ⟨-2, ⟨G, ?_, IrC.refl G⟩, fun P U hP _ hR => ⟨thr U, ?_, thr_same U⟩⟩
    · unfold F_X9_spare
      simp only [gl hN, hb, hf, Bool.false_eq_true, if_false, if_true, Option.bind_some]
    · unfold F_X10_spare
      simp only [m_thr hP, ml hP, Option.bind_some, m_isPair hP (U := thr U) hR hO, hf, Bool.false_eq_true, if_false, if_true, un]
  · have hp : isPr (get 1 G) (nI a) (nI b) = true := by rw [pr_t ha hb', ht, htb, hbl]; rfl
    by_cases hv : 0 ≤ v.toInt ∧ v.toInt ≤ 1
    · by_cases hx : 0 ≤ x.toInt ∧ x.toInt ≤ 1
      · obtain ⟨j, hj, rfl⟩ := v_in (K := 1) (by decide) hv
        obtain ⟨k, hk, rfl⟩ := v_in (K := 1) (by decide) hx
        have hj2 : j < 2 := by omega
        have hk2 : k < 2 := by omega
        obtain ⟨Q', q1, q3⟩ := c_spares (V := get 1 G) (l2_at (im := im) (Or.inl rfl) hN G) hO hH hb' htb hj2 hk2 (fun g hg => (hW.ti.2.1.pgs (show g < 2 ^ 31 by omega) hk2).2) (get 745 G)
        rw [← p2_get, p2_tools] at q1
        have q4 := q3 a ha
        rw [ht, hbl] at q4
        refine ⟨sprF (get 1 G) j b k a, ⟨put 745 11 Q' G, ?_, irc_tools Q'⟩, fun P U hP _ hR => ?_⟩
        · unfold F_X9_spare
          simp only [gl hN, hb, hp, if_true, if_neg i10, o_out, d0, d1, if_pos hv, if_pos hx, Option.bind_some, q1, ql (lq_at hN G), ha, q4, Bool.and_self]
        · obtain ⟨U', b1, b2, b3, b4⟩ := m_shares hP (U := thr U) hR hW.ti.1 (hW.ti.2.1.lim hW.ti.1.2.2.1 hW.ti.2.2.1) hb' htb hj2
          refine ⟨U', ?_, (thr_same U).trans b2.same⟩
          unfold F_X10_spare
          simp only [m_thr hP, ml hP, Option.bind_some, m_isPair hP (U := thr U) hR hO, hp, if_true, if_neg i10, un, m_within, c0, c1, if_pos hv, if_pos hx, b1, m_spareOf hP (b2.rel (V := get 1 G) (U := thr U) hR) hO hb' htb hk2 b3 b4 ha ht hbl]
      · refine ⟨-3, ⟨G, ?_, IrC.refl G⟩, fun P U hP _ hR => ⟨thr U, ?_, thr_same U⟩⟩
        · unfold F_X9_spare
          simp only [gl hN, hb, hp, if_true, if_neg i10, o_out, d0, d1, if_pos hv, if_neg hx, Option.bind_some]
        · unfold F_X10_spare
          simp only [m_thr hP, ml hP, Option.bind_some, m_isPair hP (U := thr U) hR hO, hp, if_true, if_neg i10, un, m_within, c0, c1, if_pos hv, if_neg hx]
    · refine ⟨-3, ⟨G, ?_, IrC.refl G⟩, fun P U hP _ hR => ⟨thr U, ?_, thr_same U⟩⟩
      · unfold F_X9_spare
        simp only [gl hN, hb, hp, if_true, if_neg i10, o_out, d0, d1, if_neg hv, Option.bind_some]
      · unfold F_X10_spare
        simp only [m_thr hP, ml hP, Option.bind_some, m_isPair hP (U := thr U) hR hO, hp, if_true, if_neg i10, un, m_within, c0, c1, if_neg hv]
theorem g_has {im : Nat → Option Nat} {N : Nat} (hN : 775 ≤ N) (G : WV) (g : Int32) : F_X6_has (PG im N G) 2 g = some (if inb g 12 && thV (get 1 G) g.toNatClampNeg then 1 else 0) := at_lv (F := fun h => F_X6_has h 2 g) hN G fun P hX => s_has hX.1.lt g
theorem g_has' {im : Nat → Option Nat} {N : Nat} (hN : 775 ≤ N) (G : WV) {g : Nat} (hg : g < 12) : F_X6_has (PG im N G) 2 (nI g) = some (if thV (get 1 G) g then 1 else 0) := at_lv (F := fun h => F_X6_has h 2 (nI g)) hN G fun P hX => s_has' hX.1.lt hg
theorem g_phas {im : Nat → Option Nat} {N : Nat} (hN : 775 ≤ N) (G : WV) (g : Int32) : F_X0_has (PG im N G) 24 g = some (if inb g 16 && phV (get 1 G) g.toNatClampNeg then 1 else 0) := at_lv (F := fun h => F_X0_has h 24 g) hN G fun P hX => s_phas hX.1.lc g
theorem g_phas' {im : Nat → Option Nat} {N : Nat} (hN : 775 ≤ N) (G : WV) {g : Nat} (hg : g < 16) : F_X0_has (PG im N G) 24 (nI g) = some (if phV (get 1 G) g then 1 else 0) := at_lv (F := fun h => F_X0_has h 24 (nI g)) hN G fun P hX => s_phas' hX.1.lc hg
/-- the live World's parts, by their places in the whole heap -/
theorem gv {im : Nat → Option Nat} {N : Nat} (hN : 775 ≤ N) :
    (∀ (G : WV) {α : Type} (x : Option α), cO (PG im N G) 1 8 x = x) ∧
    (∀ (G : WV) {α : Type} (x : Option α), cO (PG im N G) 2 6 x = x) ∧
    (∀ (G : WV) {α : Type} (x : Option α), cO (PG im N G) 24 0 x = x) ∧
    (∀ (G : WV) {α : Type} (x : Option α), cO (PG im N G) 34 1 x = x) ∧
    (∀ (G : WV) {α : Type} (x : Option α), cO (PG im N G) 53 7 x = x) ∧
    (∀ G : WV, gR (PG im N G) 1 8 0 = some 2) ∧
    (∀ G : WV, gR (PG im N G) 1 8 1 = some 24) ∧
    (∀ G : WV, gR (PG im N G) 1 8 2 = some 34) ∧
    (∀ G : WV, gR (PG im N G) 1 8 3 = some 53) :=
  ⟨fun G α x => at_lv hN (F := fun h => cO h 1 8 x) G fun P hX => (ol hX.1.lo).1 _ x, fun G α x => at_lv hN (F := fun h => cO h 2 6 x) G fun P hX => (tl hX.1.lt).1 _ x, fun G α x => at_lv hN (F := fun h => cO h 24 0 x) G fun P hX => (cl hX.1.lc).1 _ x, fun G α x => at_lv hN (F := fun h => cO h 34 1 x) G fun P hX => (ga hX.1.lg).1 _ x, fun G α x => at_lv hN (F := fun h => cO h 53 7 x) G fun P hX => (tr hX.1.lr).1 _ x, fun G => at_lv hN (F := fun h => gR h 1 8 0) G fun P hX => (ol hX.1.lo).2.1 _, fun G => at_lv hN (F := fun h => gR h 1 8 1) G fun P hX => (ol hX.1.lo).2.2.1 _, fun G => at_lv hN (F := fun h => gR h 1 8 2) G fun P hX => (ol hX.1.lo).2.2.2.1 _, fun G => at_lv hN (F := fun h => gR h 1 8 3) G fun P hX => (ol hX.1.lo).2.2.2.2.1 _⟩
theorem T_next (r v x : Int32) : TH (fun h => F_X9_next h 0 r v x) (fun h => F_X10_next h 756 r v x) := rdh fun im N G z e n o s hG hW => by
  have hN := hG.n
  have hO := hW.ti.1.1
  have hH := hW.ti.1.2.1
  have c0 : (0 : Int64).toInt = 0 := rfl
  have c1 : (1 : Int64).toInt = 1 := rfl
  have d0 : (0 : Int32).toInt = 0 := rfl
  have d1 : (1 : Int32).toInt = 1 := rfl
  rcases g_cs (get 1 G) r with hf | ⟨b, hb', rfl, htb⟩
  · refine ⟨-2, ⟨G, ?_, IrC.refl G⟩, fun P U hP _ hR => ⟨thr U, ?_, thr_same U⟩⟩
    · unfold F_X9_next
      simp only [gl hN, gv hN, g_has hN, hf, Bool.false_eq_true, if_false, if_true, Option.bind_some]
    · unfold F_X10_next
      simp only [m_thr hP, ml hP, Option.bind_some, m_isGroup hP (U := thr U) hR, hf, Bool.false_eq_true, if_false, if_true]
  · by_cases hv : 0 ≤ v.toInt ∧ v.toInt ≤ 1
    · by_cases hx : 0 ≤ x.toInt ∧ x.toInt ≤ 1
      · obtain ⟨j, hj, rfl⟩ := v_in (K := 1) (by decide) hv
        obtain ⟨k, hk, rfl⟩ := v_in (K := 1) (by decide) hx
        have hj2 : j < 2 := by omega
        have hk2 : k < 2 := by omega
        have hL2 := l2_at (im := im) (Or.inl rfl) hN G
        obtain ⟨Q', q1, q3⟩ := c_spares (V := get 1 G) hL2 hO hH hb' htb hj2 hk2 (fun g hg => (hW.ti.2.1.pgs (show g < 2 ^ 31 by omega) hk2).2) (get 745 G)
        have q4 := c_rich hL2 q3 (V' := get 1 G)
        rw [← p2_get, p2_tools] at q1
        rw [p2_tools] at q4
        refine ⟨(nxtF (get 1 G) j b k).1, ⟨put 745 11 Q' G, ?_, irc_tools Q'⟩, fun P U hP _ hR => ?_⟩
        · unfold F_X9_next
          simp only [gl hN, gv hN, g_has' hN G hb', htb, if_true, if_neg i10, o_out, d0, d1, if_pos hv, if_pos hx, Option.bind_some, q1, q4]
        · obtain ⟨U', b1, b2, -⟩ := m_nextOf hP (U := thr U) hR hW.ti.1 (hW.ti.2.1.lim hW.ti.1.2.2.1 hW.ti.2.2.1) hb' htb hj2 hk2
          refine ⟨U', ?_, (thr_same U).trans b2.same⟩
          unfold F_X10_next
          simp only [m_thr hP, ml hP, Option.bind_some, m_isGroup' hP (U := thr U) hR hb', htb, if_true, if_neg i10, un, m_within, c0, c1, if_pos hv, if_pos hx, b1]
      · refine ⟨-3, ⟨G, ?_, IrC.refl G⟩, fun P U hP _ hR => ⟨thr U, ?_, thr_same U⟩⟩
        · unfold F_X9_next
          simp only [gl hN, gv hN, g_has' hN G hb', htb, if_true, if_neg i10, o_out, d0, d1, if_pos hv, if_neg hx, Option.bind_some]
        · unfold F_X10_next
          simp only [m_thr hP, ml hP, Option.bind_some, m_isGroup' hP (U := thr U) hR hb', htb, if_true, if_neg i10, m_within, c0, c1, if_pos hv, if_neg hx]
    · refine ⟨-3, ⟨G, ?_, IrC.refl G⟩, fun P U hP _ hR => ⟨thr U, ?_, thr_same U⟩⟩
      · unfold F_X9_next
        simp only [gl hN, gv hN, g_has' hN G hb', htb, if_true, if_neg i10, o_out, d0, d1, if_neg hv, Option.bind_some]
      · unfold F_X10_next
        simp only [m_thr hP, ml hP, Option.bind_some, m_isGroup' hP (U := thr U) hR hb', htb, if_true, if_neg i10, m_within, c0, c1, if_neg hv]
end TOOLS
