/-! calls that change nothing: below, procs, victim, dying, room, common -/
variable {kt : Nat}
def LX (P : WV → Hp) : Prop := LW 1 P ∧ (∀ (V : WV) {α : Type} (x : Option α), cO (P V) 0 9 x = x) ∧ (∀ V : WV, gR (P V) 0 9 0 = some 1) ∧ (∀ V : WV, gR (P V) 0 9 5 = some 752) ∧ (∀ (V : WV) {α : Type} (x : Option α), cO (P V) 752 3 x = x)
def thr (U : WV) : WV := sx U 0 (upd (U.1 0) 0 0)
theorem thr_1 (U : WV) : (thr U).1 1 = U.1 1 := rfl
theorem thr_same (U : WV) : MSame U (thr U) := ⟨fun c hc => by unfold thr; rw [sx_1, up_n _ _ (by omega)], by show upd (U.1 0) 0 0 8 = _; rw [upd_ne _ _ (by decide)]⟩
theorem m_thr {b : Nat} {P : WV → Hp} (hP : LM b P) (U : WV) : pI (P U) b 10 0 0 = some (P (thr U)) := by
  simp only [ml hP]; rfl
/-- both sides answer alike, and nothing that counts is another one -/
def TR (FC : Hp → Option Int32) (FM : Hp → Option (Int32 × Hp)) : Prop := ∀ kt im N G z e, GI kt im N G z e → ∃ r G', FC (PG im N G) = some r ∧ FM (PG im N G) = some (r, PG im N G') ∧ GI kt im N G' z e
theorem rdr {FC : Hp → Option Int32} {FM : Hp → Option (Int32 × Hp)} (h : ∀ {kt : Nat} V n o s, WOK kt V n o s → ∃ r, (∀ P, LX P → FC (P V) = some r) ∧ (∀ (P : WV → Hp) (U : WV), LM 756 P → Rel V (U.1 1) → ∃ U', FM (P U) = some (r, P U') ∧ MSame U U')) : TR FC FM := by
  intro kt im N G z e hG
  have hN := hG.n
  obtain ⟨⟨n, o, s, hW⟩, hR⟩ := hG.lv
  obtain ⟨r, h1, h2⟩ := h _ n o s hW
  have hX : LX (fun V => PG im N (put 1 57 V G)) := ⟨lw_at (Or.inl rfl) hN G, fun V α x => (gl hN).1 _ x, fun V => (gl hN).2.1 _, fun V => (gl hN).2.2.2.2.2.2.1 _, fun V α x => (gl hN).2.2.2.2.2.2.2.2.2.2.1 _ x⟩
  have a1 := h1 _ hX
  rw [put_get] at a1
  obtain ⟨U', a2, a3⟩ := h2 (fun U => PG im N (put 756 19 U G)) (get 756 G) (lm_at hN G) hR
  rw [put_get] at a2
  exact ⟨r, _, a1, a2, hG.irr (irr_model a3)⟩
theorem g_cs (V : WV) (g : Int32) : (inb g 12 && thV V g.toNatClampNeg) = false ∨ ∃ k, k < 12 ∧ g = nI k ∧ thV V k = true := by
  cases h : (inb g 12 && thV V g.toNatClampNeg)
  · exact Or.inl rfl
  · rw [Bool.and_eq_true] at h
    obtain ⟨k, hk, e⟩ := inb_of h.1 (by decide)
    refine Or.inr ⟨k, hk, e, ?_⟩
    rw [e, nI_clamp (by omega)] at h
    exact h.2
theorem p_cs (V : WV) (g : Int32) : (inb g 16 && phV V g.toNatClampNeg) = false ∨ ∃ k, k < 16 ∧ g = nI k ∧ phV V k = true := by
  cases h : (inb g 16 && phV V g.toNatClampNeg)
  · exact Or.inl rfl
  · rw [Bool.and_eq_true] at h
    obtain ⟨k, hk, e⟩ := inb_of h.1 (by decide)
    refine Or.inr ⟨k, hk, e, ?_⟩
    rw [e, nI_clamp (by omega)] at h
    exact h.2
theorem i10 : ¬ (1 : Int32) = 0 := by decide
theorem o_out (h : Hp) (v a b : Int32) : F_X9_outside h v a b = some (if a.toInt ≤ v.toInt ∧ v.toInt ≤ b.toInt then 0 else 1) := by
  unfold F_X9_outside
  simp only [ti_lt, ti_le]
  by_cases h1 : v.toInt < a.toInt
  · rw [if_pos h1, if_neg (by omega)]
  · by_cases h2 : v.toInt ≤ b.toInt
    · rw [if_neg h1, if_pos h2, if_pos (by omega)]
    · rw [if_neg h1, if_neg h2, if_neg (by omega)]
section READS
theorem T_below (g : Int32) : TR (fun h => F_X9_below h 0 g) (fun h => F_X10_below h 756 g) := rdr fun V n o s hW => by
  have hO := hW.ti.1.1
  rcases g_cs V g with hf | ⟨k, hk, rfl, ht⟩
  · refine ⟨-2, fun P hX => ?_, fun P U hP hR => ⟨thr U, ?_, thr_same U⟩⟩
    · unfold F_X9_below
      simp only [hX.2.2.1, ol hX.1.lo, tl hX.1.lt, Option.bind_some, s_has hX.1.lt, hf, Bool.false_eq_true, if_false, if_true]
    · unfold F_X10_below
      simp only [m_thr hP, ml hP, Option.bind_some, m_isGroup hP (U := thr U) hR, hf, Bool.false_eq_true, if_false, if_true]
  · refine ⟨mkB 12 (fun g => thV V g && blw (pfV V) k g), fun P hX => ?_, fun P U hP hR => ⟨thr U, ?_, thr_same U⟩⟩
    · unfold F_X9_below
      simp only [hX.2.2.1, ol hX.1.lo, tl hX.1.lt, Option.bind_some, s_has' hX.1.lt hk, ht, if_true, if_neg i10, s_bits hX.1.lt hO hk ht]
    · unfold F_X10_below
      simp only [m_thr hP, ml hP, Option.bind_some, m_isGroup' hP (U := thr U) hR hk, ht, if_true, if_neg i10, m_groupsBelow hP (U := thr U) hR hO hk, un]
theorem T_procs (g : Int32) : TR (fun h => F_X9_procs h 0 g) (fun h => F_X10_procs h 756 g) := rdr fun V n o s hW => by
  have hO := hW.ti.1.1
  have hH := hW.ti.1.2.1
  rcases g_cs V g with hf | ⟨k, hk, rfl, ht⟩
  · refine ⟨-2, fun P hX => ?_, fun P U hP hR => ⟨thr U, ?_, thr_same U⟩⟩
    · unfold F_X9_procs
      simp only [hX.2.2.1, ol hX.1.lo, tl hX.1.lt, Option.bind_some, s_has hX.1.lt, hf, Bool.false_eq_true, if_false, if_true]
    · unfold F_X10_procs
      simp only [m_thr hP, ml hP, Option.bind_some, m_isGroup hP (U := thr U) hR, hf, Bool.false_eq_true, if_false, if_true]
  · refine ⟨mkB 16 (prB V k), fun P hX => ?_, fun P U hP hR => ⟨thr U, ?_, thr_same U⟩⟩
    · unfold F_X9_procs
      simp only [hX.2.2.1, ol hX.1.lo, tl hX.1.lt, Option.bind_some, s_has' hX.1.lt hk, ht, if_true, if_neg i10, s_bitsP hX.1 hO hH hk ht]
    · unfold F_X10_procs
      simp only [m_thr hP, ml hP, Option.bind_some, m_isGroup' hP (U := thr U) hR hk, ht, if_true, if_neg i10, m_procsBelow hP (U := thr U) hR hO hH hk, un]
      rfl
theorem T_victim (g : Int32) : TR (fun h => F_X9_victim h 0 g) (fun h => F_X10_victim h 756 g) := rdr fun V n o s hW => by
  have hO := hW.ti.1.1
  have hH := hW.ti.1.2.1
  rcases g_cs V g with hf | ⟨k, hk, rfl, ht⟩
  · refine ⟨-2, fun P hX => ?_, fun P U hP hR => ⟨thr U, ?_, thr_same U⟩⟩
    · unfold F_X9_victim
      simp only [hX.2.2.1, ol hX.1.lo, tl hX.1.lt, Option.bind_some, s_has hX.1.lt, hf, Bool.false_eq_true, if_false, if_true]
    · unfold F_X10_victim
      simp only [m_thr hP, ml hP, Option.bind_some, m_isGroup hP (U := thr U) hR, hf, Bool.false_eq_true, if_false, if_true]
  · refine ⟨oI (vicF V k), fun P hX => ?_, fun P U hP hR => ⟨thr U, ?_, thr_same U⟩⟩
    · unfold F_X9_victim
      simp only [hX.2.2.1, ol hX.1.lo, tl hX.1.lt, Option.bind_some, s_has' hX.1.lt hk, ht, if_true, if_neg i10, (s_victim hX.1 hO hH hk ht).1]
    · unfold F_X10_victim
      simp only [m_thr hP, ml hP, Option.bind_some, m_isGroup' hP (U := thr U) hR hk, ht, if_true, if_neg i10, (m_victim hP (U := thr U) hR hO hH hk).1, un]
theorem T_dying (g : Int32) : TR (fun h => F_X9_dying h 0 g) (fun h => F_X10_dying h 756 g) := rdr fun V n o s hW => by
  have hO := hW.ti.1.1
  have hH := hW.ti.1.2.1
  rcases g_cs V g with hf | ⟨k, hk, rfl, ht⟩
  · refine ⟨-2, fun P hX => ?_, fun P U hP hR => ⟨thr U, ?_, thr_same U⟩⟩
    · unfold F_X9_dying
      simp only [hX.2.2.1, ol hX.1.lo, tl hX.1.lt, Option.bind_some, s_has hX.1.lt, hf, Bool.false_eq_true, if_false, if_true]
    · unfold F_X10_dying
      simp only [m_thr hP, ml hP, Option.bind_some, m_isGroup hP (U := thr U) hR, hf, Bool.false_eq_true, if_false, if_true]
  · refine ⟨mkB 16 (dyS V k), fun P hX => ?_, fun P U hP hR => ⟨thr U, ?_, thr_same U⟩⟩
    · unfold F_X9_dying
      simp only [hX.2.2.1, ol hX.1.lo, tl hX.1.lt, Option.bind_some, s_has' hX.1.lt hk, ht, if_true, if_neg i10, s_dying hX.1 hO hH hk ht]
    · unfold F_X10_dying
      simp only [m_thr hP, ml hP, Option.bind_some, m_isGroup' hP (U := thr U) hR hk, ht, if_true, if_neg i10, m_dying hP (U := thr U) hR hO hH hk, un]
theorem lft_eq {V : WV} {n : Nat} {o : Nat → Nat} (h : TI V n o) (hM : MaxOK V) {g : Nat} (hg : g < 12) (ht : thV V g = true) : lftF V g 999 = lftF V g 1048576 := by
  have hT := h.1.1.tree
  have hmem : g ∈ pth (pfV V) g := by rw [pth_cons hT hg ht]; exact List.mem_cons_self
  have hb : V.1 8 g - V.1 15 g ≤ 999 := by
    have l := (h.2.2.1 g hg ht).2.2.2.1
    have m := hM g hg ht
    have t0 : 0 ≤ (V.1 15 g).toInt := (h.2.1.tot h.1.2.2.1 hg ht).1
    rw [ti_le, ti_sub (by omega) (by omega)]
    have : (999 : Int32).toInt = 999 := rfl
    omega
  have key : ∀ z : Int32, z ≤ lftF V g 999 ↔ z ≤ lftF V g 1048576 := fun z => by
    rw [lft_le, lft_le]
    have hbig : (999 : Int32) ≤ 1048576 := by decide
    constructor
    · rintro ⟨h1, h2⟩; exact ⟨Int32.le_trans h1 hbig, h2⟩
    · rintro ⟨h1, h2⟩; exact ⟨Int32.le_trans (h2 g hmem) hb, h2⟩
  exact Int32.le_antisymm ((key _).mp (Int32.le_refl _)) ((key _).mpr (Int32.le_refl _))
end READS
