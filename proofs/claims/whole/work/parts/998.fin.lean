/-! a call's end, on both sides -/
variable {kt : Nat}
def Dds (U U' : WV) (D : Nat) : Prop :=
  if D < 10 then U'.1 0 8 = nI (D + 1) ∧ (∀ j, j < D → ∀ i, i < 559 → U'.1 2 (559 * j + i) = U.1 2 (559 * j + i)) ∧ (∀ i, i < 559 → U'.1 2 (559 * D + i) = U.1 1 i)
  else U'.1 0 8 = nI 10 ∧ (∀ j, j < 9 → ∀ i, i < 559 → U'.1 2 (559 * j + i) = U.1 2 (559 * (j + 1) + i)) ∧ (∀ i, i < 559 → U'.1 2 (559 * 9 + i) = U.1 1 i)
/-- the model has done a call that was told -/
def MAct (U U' V' : WV) (D : Nat) : Prop := (∀ c, 5 ≤ c → c ≤ 8 → U'.1 c = U.1 c) ∧ (∀ i, 559 ≤ i → U'.1 1 i = U.1 1 i) ∧ Rel V' (U'.1 1) ∧ Dds U U' D
section FIN
variable {im : Nat → Option Nat} {N z e : Nat} {G G3 V' U3 : WV}
theorem slt_ne {e j z : Nat} (hj : j < z) (hz : z ≤ 10) : (e + j) % 11 ≠ (e + z) % 11 := by omega
theorem fin_ok (hG : GI kt im N G z e) (hC : CAct G G3 V' z e) (hM : MAct (get 756 G) U3 V' z) (hW : WO (kt + 40) V') : ∃ z' e', GI (kt + 40) im N (put 756 19 U3 G3) z' e' := by
  have hG := hG.mono (show kt ≤ kt + 40 by omega)
  obtain ⟨g1, g2, g3, g4, g5, g6, g7, g8, g9, g10, g11, g12⟩ := hG
  obtain ⟨c1, c2, c3, c4, c5, c6⟩ := hC
  obtain ⟨m1, m2, m3, m4⟩ := hM
  have p : ∀ c, c < 19 → (put 756 19 U3 G3).1 (756 + c) = U3.1 c := fun c hc => (put_in hc).1
  have p57 : (put 756 19 U3 G3).1 757 = U3.1 1 := p 1 (by omega)
  have p58 : (put 756 19 U3 G3).1 758 = U3.1 2 := p 2 (by omega)
  have p0 : (put 756 19 U3 G3).1 756 = U3.1 0 := p 0 (by omega)
  have p115 : (put 756 19 U3 G3).1 115 = G3.1 115 := (put_out (by omega)).1
  have pw : ∀ w, w + 57 ≤ 756 → AgW (get w G3) (get w (put 756 19 U3 G3)) := fun w hw => ag_out (by omega)
  have pi : ∀ w, 775 ≤ w → AgW (get w G) (get w (put 756 19 U3 G3)) := fun w hw => AgW.trans (ag_of (fun c hc => (c1 _ (by omega)).1) (fun c hc => (c1 _ (by omega)).2)) (ag_out (by omega))
  have p64 : (put 756 19 U3 G3).1 764 = G.1 764 := (p 8 (by omega)).trans (m1 8 (by omega) (by omega))
  have p57' : ∀ x, 559 ≤ x → (put 756 19 U3 G3).1 757 x = G.1 757 x := fun x hx => by rw [p57]; exact m2 x hx
  have hc : Cst (put 756 19 U3 G3) := by
    have q5 : (put 756 19 U3 G3).1 761 = G.1 761 := (p 5 (by omega)).trans (m1 5 (by omega) (by omega))
    have q6 : (put 756 19 U3 G3).1 762 = G.1 762 := (p 6 (by omega)).trans (m1 6 (by omega) (by omega))
    have q7 : (put 756 19 U3 G3).1 763 = G.1 763 := (p 7 (by omega)).trans (m1 7 (by omega) (by omega))
    unfold Cst at g12 ⊢
    rw [q5, q6, q7]; exact g12
  have lvl : Gd (kt + 40) (get 1 (put 756 19 U3 G3)) ((put 756 19 U3 G3).1 757) := by
    rw [p57]
    exact Gd.ag (c2.trans (pw 1 (by omega))) ⟨hW, m3⟩
  have kp : Gd (kt + 40) (get (slt e z) (put 756 19 U3 G3)) (G.1 757) := g7.ag (c4.trans (pw _ (by have := slt_lt e z; omega)))
  have old : ∀ j, j < z → Gd (kt + 40) (get (slt e j) (put 756 19 U3 G3)) (fun i => G.1 758 (559 * j + i)) := fun j hj =>
    (g8 j hj).ag ((c3 ((e + j) % 11) (Nat.mod_lt _ (by decide)) (slt_ne hj g2)).trans (pw _ (by have := slt_lt e j; unfold slt at this; omega)))
  unfold Dds at m4
  by_cases hz : z < 10
  · rw [if_pos hz] at c5 c6 m4
    obtain ⟨d1, d2, d3⟩ := m4
    refine ⟨z + 1, e, g1, by omega, g3, by rw [p115]; exact c5, by rw [p115]; exact c6, by rw [p0]; exact d1, lvl, fun j hj => ?_, g9.ag pi p64 p57', g10.ag pi p64 p57', g11, hc⟩
    rw [p58]
    by_cases ej : j = z
    · rw [ej]; exact kp.row fun i hi => d3 i hi
    · exact (old j (by omega)).row fun i hi => d2 j (by omega) i hi
  · have hz10 : z = 10 := by omega
    rw [if_neg hz] at c5 c6 m4
    obtain ⟨d1, d2, d3⟩ := m4
    refine ⟨10, (e + 1) % 11, g1, by omega, Nat.mod_lt _ (by decide), by rw [p115]; exact c5, by rw [p115]; exact c6, by rw [p0]; exact d1, lvl, fun j hj => ?_, g9.ag pi p64 p57', g10.ag pi p64 p57', g11, hc⟩
    have es : slt ((e + 1) % 11) j = slt e (j + 1) := by unfold slt; omega
    rw [es, p58]
    by_cases ej : j = 9
    · rw [ej]
      have : slt e (9 + 1) = slt e z := by rw [hz10]
      rw [this]
      exact kp.row fun i hi => d3 i hi
    · exact (old (j + 1) (by omega)).row fun i hi => d2 j (by omega) i hi
theorem fin_no (hG : GI kt im N G z e) (hC : CNo G G3 z e) (hM : MSame (get 756 G) U3) : GI kt im N (put 756 19 U3 G3) z e := by
  obtain ⟨g1, g2, g3, g4, g5, g6, g7, g8, g9, g10, g11, g12⟩ := hG
  obtain ⟨c1, c2, c3, c4⟩ := hC
  obtain ⟨m1, m2⟩ := hM
  have p : ∀ c, c < 19 → (put 756 19 U3 G3).1 (756 + c) = U3.1 c := fun c hc => (put_in hc).1
  have p57 : (put 756 19 U3 G3).1 757 = G.1 757 := (p 1 (by omega)).trans (m1 1 (by omega))
  have p58 : (put 756 19 U3 G3).1 758 = G.1 758 := (p 2 (by omega)).trans (m1 2 (by omega))
  have p0 : (put 756 19 U3 G3).1 756 8 = G.1 756 8 := by
    show (put 756 19 U3 G3).1 (756 + 0) 8 = _
    rw [p 0 (by omega)]; exact m2
  have p115 : (put 756 19 U3 G3).1 115 = G.1 115 := by rw [(put_out (by omega)).1]; exact c4
  have pw : ∀ w, w + 57 ≤ 756 → AgW (get w G3) (get w (put 756 19 U3 G3)) := fun w hw => ag_out (by omega)
  have pi : ∀ w, 775 ≤ w → AgW (get w G) (get w (put 756 19 U3 G3)) := fun w hw => AgW.trans (ag_of (fun c hc => (c1 _ (by omega)).1) (fun c hc => (c1 _ (by omega)).2)) (ag_out (by omega))
  have p64 : (put 756 19 U3 G3).1 764 = G.1 764 := (p 8 (by omega)).trans (m1 8 (by omega))
  have hc : Cst (put 756 19 U3 G3) := by
    have q5 : (put 756 19 U3 G3).1 761 = G.1 761 := (p 5 (by omega)).trans (m1 5 (by omega))
    have q6 : (put 756 19 U3 G3).1 762 = G.1 762 := (p 6 (by omega)).trans (m1 6 (by omega))
    have q7 : (put 756 19 U3 G3).1 763 = G.1 763 := (p 7 (by omega)).trans (m1 7 (by omega))
    unfold Cst at g12 ⊢
    rw [q5, q6, q7]; exact g12
  refine ⟨g1, g2, g3, by rw [p115]; exact g4, by rw [p115]; exact g5, by rw [p0]; exact g6, by rw [p57]; exact g7.ag (c2.trans (pw 1 (by omega))), fun j hj => ?_, g9.ag pi p64 (fun x _ => by rw [p57]), g10.ag pi p64 (fun x _ => by rw [p57]), g11, hc⟩
  rw [p58]
  exact (g8 j hj).ag ((c3 ((e + j) % 11) (Nat.mod_lt _ (by decide)) (slt_ne hj g2)).trans (pw _ (by have := slt_lt e j; unfold slt at this; omega)))
/-- a call that the model does: what was is kept aside, then it acts, then it notes -/
theorem mact_of {U U2 U3 V' : WV} {D : Nat} (hk : Keep (cpyM (sx U 0 (upd (U.1 0) 0 0)) 1 0 3 0) U2) (hR : Rel V' (U2.1 1)) (hN : Noted U2 U3 D) : MAct U U3 V' D := by
  obtain ⟨n1, n2, n3⟩ := hN
  have e1 : (cpyM (sx U 0 (upd (U.1 0) 0 0)) 1 0 3 0).1 1 = U.1 1 := by rw [cpy_c (by decide)]; rfl
  have e2 : (cpyM (sx U 0 (upd (U.1 0) 0 0)) 1 0 3 0).1 2 = U.1 2 := by rw [cpy_c (by decide)]; rfl
  have e3 : ∀ i, i < 559 → U2.1 3 i = U.1 1 i := fun i hi => by
    rw [hk.1 3 (by decide) (by decide)]
    have := cpy_in (U := sx U 0 (upd (U.1 0) 0 0)) (c := 1) (x := 0) (d := 3) (y := 0) hi
    rw [Nat.zero_add] at this
    exact this
  have ec : ∀ c, 5 ≤ c → c ≤ 8 → U2.1 c = U.1 c := fun c h5 h8 => by
    rw [hk.1 c (by omega) (by omega), cpy_c (by omega), sx_1, up_n _ _ (by omega)]
  refine ⟨fun c h5 h8 => ?_, fun i hi => ?_, ?_, ?_⟩
  · rw [n1 c (by omega) (by omega)]; exact ec c h5 h8
  · rw [n1 1 (by decide) (by decide), hk.2 i hi, e1]
  · rw [n1 1 (by decide) (by decide)]; exact hR
  · have d2 : U2.1 2 = U.1 2 := by rw [hk.1 2 (by decide) (by decide)]; exact e2
    unfold Dds
    by_cases h : D < 10
    · rw [if_pos h] at n3 ⊢
      rw [← d2]
      exact ⟨n3.1, n3.2.1, fun i hi => (n3.2.2 i hi).trans (e3 i hi)⟩
    · rw [if_neg h] at n3 ⊢
      rw [← d2]
      exact ⟨n3.1, n3.2.1, fun i hi => (n3.2.2 i hi).trans (e3 i hi)⟩
theorem msame_no {U U2 : WV} (hk : Keep (cpyM (sx U 0 (upd (U.1 0) 0 0)) 1 0 3 0) U2) : MSame U (cpyM U2 3 0 1 0) := by
  have e1 : (cpyM (sx U 0 (upd (U.1 0) 0 0)) 1 0 3 0).1 1 = U.1 1 := by rw [cpy_c (by decide)]; rfl
  have e3 : ∀ i, i < 559 → U2.1 3 i = U.1 1 i := fun i hi => by
    rw [hk.1 3 (by decide) (by decide)]
    have := cpy_in (U := sx U 0 (upd (U.1 0) 0 0)) (c := 1) (x := 0) (d := 3) (y := 0) hi
    rw [Nat.zero_add] at this
    exact this
  refine ⟨fun c hc => ?_, ?_⟩
  · by_cases h1 : c = 1
    · subst h1
      funext i
      by_cases hi : i < 559
      · have := cpy_in (U := U2) (c := 3) (x := 0) (d := 1) (y := 0) hi
        rw [Nat.zero_add] at this
        rw [this]; exact e3 i hi
      · rw [cpy_out (by omega), hk.2 i (by omega), e1]
    · rw [cpy_c h1, hk.1 c (by omega) h1, cpy_c (by omega), sx_1, up_n _ _ (by omega)]
  · rw [cpy_c (by decide), hk.1 0 (by decide) (by decide), cpy_c (by decide)]
    show upd (U.1 0) 0 0 8 = _
    rw [upd_ne _ _ (by decide)]
/-- the same on paper: what was is brought back -/
theorem msame_paper {U U2 : WV} (hk : Keep (cpyM (sx U 0 (upd (U.1 0) 0 0)) 1 0 4 0) U2) : MSame U (cpyM U2 4 0 1 0) := by
  have e1 : (cpyM (sx U 0 (upd (U.1 0) 0 0)) 1 0 4 0).1 1 = U.1 1 := by rw [cpy_c (by decide)]; rfl
  have e3 : ∀ i, i < 559 → U2.1 4 i = U.1 1 i := fun i hi => by
    rw [hk.1 4 (by decide) (by decide)]
    have := cpy_in (U := sx U 0 (upd (U.1 0) 0 0)) (c := 1) (x := 0) (d := 4) (y := 0) hi
    rw [Nat.zero_add] at this
    exact this
  refine ⟨fun c hc => ?_, ?_⟩
  · by_cases h1 : c = 1
    · subst h1
      funext i
      by_cases hi : i < 559
      · have := cpy_in (U := U2) (c := 4) (x := 0) (d := 1) (y := 0) hi
        rw [Nat.zero_add] at this
        rw [this]; exact e3 i hi
      · rw [cpy_out (by omega), hk.2 i (by omega), e1]
    · rw [cpy_c h1, hk.1 c (by omega) h1, cpy_c (by omega), sx_1, up_n _ _ (by omega)]
  · rw [cpy_c (by decide), hk.1 0 (by decide) (by decide), cpy_c (by decide)]
    show upd (U.1 0) 0 0 8 = _
    rw [upd_ne _ _ (by decide)]
end FIN
