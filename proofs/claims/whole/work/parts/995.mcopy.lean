/-! the model's rows are copied -/
def cpyM (U : WV) (c x d y : Nat) : WV := sx U d (fun i => if y ≤ i ∧ i < y + 559 then U.1 c (x + (i - y)) else U.1 d i)
section MCOPY
variable {U : WV} {b : Nat} {P : WV → Hp}
theorem m_copies (hP : LM b P) {c d x y lc ld : Nat} (hc : c < 19) (hd : d < 19) (tc : TM c = (11, lc)) (td : TM d = (11, ld)) (hx : x + 559 ≤ lc) (hy : y + 559 ≤ ld) (l1 : lc ≤ 5590) (l2 : ld ≤ 5590) (hdis : c ≠ d ∨ x + 559 ≤ y ∨ y + 559 ≤ x) {X Y : Int32} (hX : X = nI x) (hY : Y = nI y) (U : WV) : F_X10_copies (P U) (b + c) X (b + d) Y = some (P (cpyM U c x d y)) := by
  subst hX hY
  obtain ⟨a, ha, hI⟩ := loop_inv (st := fun z => F_X10_copies_L3 (b + c) (nI x) (b + d) (nI y) z.1 z.2) (fun i (a : Nat → Int32) => (nI i, P (sx U d a))) (fun a => P (sx U d a)) (fun k a => a = fun i => if y ≤ i ∧ i < y + k then U.1 c (x + (i - y)) else U.1 d i) 559
    (fun i a hi hI => by
      have er : (sx U d a).1 c (x + i) = U.1 c (x + i) := by
        by_cases e : c = d
        · subst e
          rw [sx_1, up_s, hI]
          exact if_neg (by omega)
        · rw [sx_1, up_n _ _ e]
      have ed : (sx U d a).1 d = a := by rw [sx_1, up_s]
      have r1 : aI (P (sx U d a)) (b + c) (nI (x + i)) = some (U.1 c (x + i)) := by rw [hP.ldi (Nat.zero_le _) hc tc (by omega) (by omega), er]
      have r2 : ∀ v, sI (P (sx U d a)) (b + d) (nI (y + i)) v = some (P (sx U d (upd a (y + i) v))) := fun v => by rw [hP.sti (Nat.zero_le _) hd td (by omega) (by omega), ed, sx_sx]
      refine ⟨upd a (y + i) (U.1 c (x + i)), ?_, ?_⟩
      · show F_X10_copies_L3 (b + c) (nI x) (b + d) (nI y) (nI i) (P (sx U d a)) = _
        unfold F_X10_copies_L3
        rw [show (559 : Int32) = nI 559 from rfl, if_neg (nI_ge hi (by decide)), nI_add, nI_add]
        simp only [r1, r2, Option.bind_some, bl, nI_1]
      · funext k
        by_cases e : k = y + i
        · rw [e, upd_s, if_pos (by omega)]
          rw [show y + i - y = i by omega]
        · rw [upd_ne _ _ e, hI]
          dsimp only
          by_cases h : y ≤ k ∧ k < y + i
          · rw [if_pos h, if_pos (by omega)]
          · rw [if_neg h, if_neg (by omega)])
    (fun a hI => by
      show F_X10_copies_L3 (b + c) (nI x) (b + d) (nI y) (nI 559) (P (sx U d a)) = _
      unfold F_X10_copies_L3
      rw [show (559 : Int32) = nI 559 from rfl, if_pos (nI_le (Nat.le_refl _) (by decide))])
    559 0 6000 (U.1 d) (by omega) (by omega) (by funext k; rw [if_neg (by omega)])
  have ha' : loopF (fun z => F_X10_copies_L3 (b + c) (nI x) (b + d) (nI y) z.1 z.2) 6000 (0, P U) = some (P (sx U d a)) := by
    rw [← ha]
    show _ = loopF _ 6000 (nI 0, P (sx U d (U.1 d)))
    rw [sx_id]; rfl
  unfold F_X10_copies cpyM
  rw [ha', hI]; rfl
theorem cpy_c {c x d y k : Nat} (h : k ≠ d) : (cpyM U c x d y).1 k = U.1 k := by
  unfold cpyM; rw [sx_1, up_n _ _ h]
theorem cpy_in {c x d y i : Nat} (hi : i < 559) : (cpyM U c x d y).1 d (y + i) = U.1 c (x + i) := by
  unfold cpyM
  rw [sx_1, up_s]
  show (if y ≤ y + i ∧ y + i < y + 559 then _ else _) = _
  rw [if_pos (by omega)]
  rw [show y + i - y = i by omega]
theorem cpy_out {c x d y i : Nat} (hi : i < y ∨ y + 559 ≤ i) : (cpyM U c x d y).1 d i = U.1 d i := by
  unfold cpyM
  rw [sx_1, up_s]
  exact if_neg (by omega)
theorem m_begins (hP : LM b P) (U : WV) : F_X10_begins (P U) b = some (P (cpyM U 1 0 3 0)) := by
  unfold F_X10_begins
  have h := m_copies hP (c := 1) (d := 3) (x := 0) (y := 0) (lc := 1677) (ld := 559) (by decide) (by decide) rfl rfl (by decide) (by decide) (by decide) (by decide) (Or.inl (by decide)) (X := 0) (Y := 0) rfl rfl U
  simp only [ml hP, h, Option.bind_some]
theorem m_opens (hP : LM b P) (U : WV) : F_X10_opensPaper (P U) b = some (P (cpyM U 1 0 4 0)) := by
  unfold F_X10_opensPaper
  have h := m_copies hP (c := 1) (d := 4) (x := 0) (y := 0) (lc := 1677) (ld := 559) (by decide) (by decide) rfl rfl (by decide) (by decide) (by decide) (by decide) (Or.inl (by decide)) (X := 0) (Y := 0) rfl rfl U
  simp only [ml hP, h, Option.bind_some]
theorem m_closes (hP : LM b P) (U : WV) : F_X10_closesPaper (P U) b = some (P (cpyM U 4 0 1 0)) := by
  unfold F_X10_closesPaper
  have h := m_copies hP (c := 4) (d := 1) (x := 0) (y := 0) (lc := 559) (ld := 1677) (by decide) (by decide) rfl rfl (by decide) (by decide) (by decide) (by decide) (Or.inl (by decide)) (X := 0) (Y := 0) rfl rfl U
  simp only [ml hP, h, Option.bind_some]
/-- what was kept aside is noted as the latest deed -/
def Noted (U U' : WV) (D : Nat) : Prop :=
  (∀ c, c ≠ 0 → c ≠ 2 → U'.1 c = U.1 c) ∧ (∀ k, k ≠ 8 → U'.1 0 k = U.1 0 k) ∧
  (if D < 10 then U'.1 0 8 = nI (D + 1) ∧ (∀ j, j < D → ∀ i, i < 559 → U'.1 2 (559 * j + i) = U.1 2 (559 * j + i)) ∧ (∀ i, i < 559 → U'.1 2 (559 * D + i) = U.1 3 i)
   else U'.1 0 8 = nI 10 ∧ (∀ j, j < 9 → ∀ i, i < 559 → U'.1 2 (559 * j + i) = U.1 2 (559 * (j + 1) + i)) ∧ (∀ i, i < 559 → U'.1 2 (559 * 9 + i) = U.1 3 i))
theorem m_shift (hP : LM b P) (U : WV) : loopF (fun x => F_X10_notes_L11 b x.1 x.2) 6000 (0, P U) = some (P (sx U 2 (fun i => if i < 5031 then U.1 2 (559 + i) else U.1 2 i))) := by
  obtain ⟨a, ha, hI⟩ := loop_inv (st := fun z => F_X10_notes_L11 b z.1 z.2) (fun i (a : Nat → Int32) => (nI i, P (sx U 2 a))) (fun a => P (sx U 2 a)) (fun k a => a = fun i => if i < k then U.1 2 (559 + i) else U.1 2 i) 5031
    (fun i a hi hI => by
      have ed : (sx U 2 a).1 2 = a := rfl
      have er : a (559 + i) = U.1 2 (559 + i) := by rw [hI]; exact if_neg (by omega)
      have h1 : 559 + i < 5590 := by omega
      have h2 : i < 5590 := by omega
      refine ⟨upd a i (U.1 2 (559 + i)), ?_, ?_⟩
      · show F_X10_notes_L11 b (nI i) (P (sx U 2 a)) = _
        unfold F_X10_notes_L11
        rw [show (5031 : Int32) = nI 5031 from rfl, if_neg (nI_ge hi (by decide)), show (559 : Int32) = nI 559 from rfl, nI_add]
        simp only [ml hP, h1, h2, ed, er, sx_sx, Option.bind_some, bl, nI_1]
      · funext k
        by_cases e : k = i
        · rw [e, upd_s, if_pos (by omega)]
        · rw [upd_ne _ _ e, hI]
          dsimp only
          by_cases h : k < i
          · rw [if_pos h, if_pos (by omega)]
          · rw [if_neg h, if_neg (by omega)])
    (fun a hI => by
      show F_X10_notes_L11 b (nI 5031) (P (sx U 2 a)) = _
      unfold F_X10_notes_L11
      rw [show (5031 : Int32) = nI 5031 from rfl, if_pos (nI_le (Nat.le_refl _) (by decide))])
    5031 0 6000 (U.1 2) (by omega) (by omega) (by funext k; rw [if_neg (by omega)])
  rw [← hI, ← ha]
  show _ = loopF _ 6000 (nI 0, P (sx U 2 (U.1 2)))
  rw [sx_id]; rfl
theorem m_notes (hP : LM b P) (U : WV) {D : Nat} (hD : D ≤ 10) (h8 : U.1 0 8 = nI D) : ∃ U', F_X10_notes (P U) b = some (P U') ∧ Noted U U' D := by
  have hcp : ∀ (W : WV) (k : Nat), k < 10 → F_X10_copies (P W) (b + 3) 0 (b + 2) (559 * nI k) = some (P (cpyM W 3 0 2 (559 * k))) := fun W k hk =>
    m_copies hP (c := 3) (d := 2) (x := 0) (y := 559 * k) (lc := 559) (ld := 5590) (by decide) (by decide) rfl rfl (by decide) (by omega) (by decide) (by decide) (Or.inl (by decide)) (X := 0) (Y := 559 * nI k) rfl (by rw [show (559 : Int32) = nI 559 from rfl, nI_mul]) W
  by_cases h10 : D < 10
  · have hne : ¬ nI D = 10 := fun z => by
      have := (nI_eq (a := D) (b := 10) (by omega) (by decide)).mp z
      omega
    have e0 : (cpyM U 3 0 2 (559 * D)).1 0 = U.1 0 := cpy_c (by decide)
    refine ⟨sx (cpyM U 3 0 2 (559 * D)) 0 (upd (U.1 0) 8 (nI (D + 1))), ?_, fun c h1 h2 => ?_, fun k hk => ?_, ?_⟩
    · unfold F_X10_notes
      simp only [ml hP, h8, if_neg hne, Option.bind_some, hcp U D h10, e0, nI_1]
    · rw [sx_1, up_n _ _ h1]; exact cpy_c h2
    · rw [sx_1, up_s, upd_ne _ _ hk]
    · rw [if_pos h10]
      have e2 : (sx (cpyM U 3 0 2 (559 * D)) 0 (upd (U.1 0) 8 (nI (D + 1)))).1 2 = (cpyM U 3 0 2 (559 * D)).1 2 := rfl
      refine ⟨by rw [sx_1, up_s, upd_s], fun j hj i hi => ?_, fun i hi => ?_⟩
      · rw [e2]; exact cpy_out (by have := Nat.mul_le_mul_left 559 (show j + 1 ≤ D by omega); omega)
      · rw [e2, cpy_in hi, Nat.zero_add]
  · have hD10 : D = 10 := by omega
    subst hD10
    obtain ⟨U1, hU1⟩ : ∃ U1, U1 = sx (sx U 2 (fun i => if i < 5031 then U.1 2 (559 + i) else U.1 2 i)) 0 (upd (U.1 0) 8 (nI 9)) := ⟨_, rfl⟩
    have s0 : (sx U 2 (fun i => if i < 5031 then U.1 2 (559 + i) else U.1 2 i)).1 0 = U.1 0 := rfl
    have s9 : nI 10 - 1 = nI 9 := rfl
    have u08 : U1.1 0 8 = nI 9 := by rw [hU1, sx_1, up_s, upd_s]
    have e0 : (cpyM U1 3 0 2 (559 * 9)).1 0 = U1.1 0 := cpy_c (by decide)
    refine ⟨sx (cpyM U1 3 0 2 (559 * 9)) 0 (upd (U1.1 0) 8 (nI (9 + 1))), ?_, fun c h1 h2 => ?_, fun k hk => ?_, ?_⟩
    · unfold F_X10_notes
      simp only [ml hP, h8, if_pos (show nI 10 = 10 from rfl), m_shift hP, s0, s9, ← hU1, Option.bind_some, u08, hcp U1 9 (by decide), e0, nI_1]
    · rw [sx_1, up_n _ _ h1, cpy_c h2, hU1, sx_1, up_n _ _ h1, sx_1, up_n _ _ h2]
    · rw [sx_1, up_s, upd_ne _ _ hk, hU1, sx_1, up_s, upd_ne _ _ hk]
    · rw [if_neg h10]
      have e2 : (sx (cpyM U1 3 0 2 (559 * 9)) 0 (upd (U1.1 0) 8 (nI (9 + 1)))).1 2 = (cpyM U1 3 0 2 (559 * 9)).1 2 := rfl
      have f2 : U1.1 2 = fun i => if i < 5031 then U.1 2 (559 + i) else U.1 2 i := by rw [hU1]; rfl
      have f3 : U1.1 3 = U.1 3 := by rw [hU1]; rfl
      refine ⟨by rw [sx_1, up_s, upd_s], fun j hj i hi => ?_, fun i hi => ?_⟩
      · rw [e2, cpy_out (by omega), f2]
        dsimp only
        rw [if_pos (by omega)]
        rw [show 559 + (559 * j + i) = 559 * (j + 1) + i by omega]
      · rw [e2, cpy_in hi, f3, Nat.zero_add]
theorem m_ends (hP : LM b P) (U : WV) (told : Int32) {D : Nat} (hD : D ≤ 10) (h8 : U.1 0 8 = nI D) : ∃ U', F_X10_ends (P U) b told 1 = some (told, P U') ∧ Noted U U' D := by
  obtain ⟨U', a1, a2⟩ := m_notes hP U hD h8
  refine ⟨U', ?_, a2⟩
  unfold F_X10_ends
  rw [if_neg (by decide)]
  simp only [ml hP, a1, Option.bind_some]
theorem m_endsNo (hP : LM b P) (U : WV) (told : Int32) : F_X10_ends (P U) b told 0 = some (told, P (cpyM U 3 0 1 0)) := by
  have h := m_copies hP (c := 3) (d := 1) (x := 0) (y := 0) (lc := 559) (ld := 1677) (by decide) (by decide) rfl rfl (by decide) (by decide) (by decide) (by decide) (Or.inl (by decide)) (X := 0) (Y := 0) rfl rfl U
  unfold F_X10_ends
  rw [if_pos rfl]
  simp only [ml hP, h, Option.bind_some]
end MCOPY
