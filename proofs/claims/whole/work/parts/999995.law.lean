/-! the law: call by call, then the loop -/
variable {kt : Nat}
def LCs (F : Nat → (Nat → Int32) → Nat → Nat → Int32 → Hp → Option ((Int32 × Hp) ⊕ ((Int32 × Hp) ⊕ Hp))) : Prop := ∀ L xs j kt im N G z e, 5 * j + 5 ≤ L → L ≤ 2560 → kt < 2 ^ 30 → GI kt im N G z e → ∃ im' N' G' z' e', F L xs 0 756 (nI (5 * j)) (PG im N G) = some (.inl (nI (5 * (j + 1)), PG im' N' G')) ∧ GI (kt + 40) im' N' G' z' e'
theorem sc_at {L j k : Nat} {xs : Nat → Int32} (hj : 5 * j + 5 ≤ L) (hL : L ≤ 2560) (hk : k < 5) : scX L xs (nI (5 * j) + nI k) = some (xs (5 * j + k)) := by
  unfold scX
  rw [nI_add, inb_nI (show 5 * j + k < L by omega) (by omega), if_pos rfl, nI_clamp (by omega)]
theorem sc_all {L j : Nat} (xs : Nat → Int32) (hj : 5 * j + 5 ≤ L) (hL : L ≤ 2560) : scX L xs (nI (5 * j)) = some (xs (5 * j)) ∧ scX L xs (nI (5 * j) + 1) = some (xs (5 * j + 1)) ∧ scX L xs (nI (5 * j) + 2) = some (xs (5 * j + 2)) ∧ scX L xs (nI (5 * j) + 3) = some (xs (5 * j + 3)) ∧ scX L xs (nI (5 * j) + 4) = some (xs (5 * j + 4)) := by
  refine ⟨?_, sc_at hj hL (k := 1) (by decide), sc_at hj hL (k := 2) (by decide), sc_at hj hL (k := 3) (by decide), sc_at hj hL (k := 4) (by decide)⟩
  unfold scX
  rw [inb_nI (show 5 * j < L by omega) (by omega), if_pos rfl, nI_clamp (by omega)]
theorem law_c0 : LCs F_law_c0 := by
  intro L xs j kt im N G z e hj hL hk hG
  obtain ⟨-, s1, s2, s3, s4⟩ := sc_all xs hj hL
  obtain ⟨r, im', N', G1, G', z', e', a1, a2, a3⟩ := T_group (xs (5 * j + 1)) kt im N G z e hk hG
  dsimp only at a1 a2
  refine ⟨im', N', G', z', e', ?_, a3⟩
  unfold F_law_c0
  simp only [s1, Option.bind_some, gl hG.n, gl a3.n, a1, a2, un, if_true, bl, law_n]
theorem law_c1 : LCs F_law_c1 := by
  intro L xs j kt im N G z e hj hL hk hG
  obtain ⟨-, s1, s2, s3, s4⟩ := sc_all xs hj hL
  obtain ⟨r, im', N', G1, G', z', e', a1, a2, a3⟩ := T_remove (xs (5 * j + 1)) kt im N G z e hk hG
  dsimp only at a1 a2
  refine ⟨im', N', G', z', e', ?_, a3⟩
  unfold F_law_c1
  simp only [s1, Option.bind_some, gl hG.n, gl a3.n, a1, a2, un, if_true, bl, law_n]
theorem law_c2 : LCs F_law_c2 := by
  intro L xs j kt im N G z e hj hL hk hG
  obtain ⟨-, s1, s2, s3, s4⟩ := sc_all xs hj hL
  obtain ⟨r, im', N', G1, G', z', e', a1, a2, a3⟩ := T_limit (xs (5 * j + 1)) (xs (5 * j + 2)) (xs (5 * j + 3)) kt im N G z e hk hG
  dsimp only at a1 a2
  refine ⟨im', N', G', z', e', ?_, a3⟩
  unfold F_law_c2
  simp only [s1, s2, s3, Option.bind_some, gl hG.n, gl a3.n, a1, a2, un, if_true, bl, law_n]
theorem law_c3 : LCs F_law_c3 := by
  intro L xs j kt im N G z e hj hL hk hG
  obtain ⟨-, s1, s2, s3, s4⟩ := sc_all xs hj hL
  obtain ⟨r, im', N', G1, G', z', e', a1, a2, a3⟩ := T_process (xs (5 * j + 1)) (xs (5 * j + 2)) kt im N G z e hk hG
  dsimp only at a1 a2
  refine ⟨im', N', G', z', e', ?_, a3⟩
  unfold F_law_c3
  simp only [s1, s2, Option.bind_some, gl hG.n, gl a3.n, a1, a2, un, if_true, bl, law_n]
theorem law_c4 : LCs F_law_c4 := by
  intro L xs j kt im N G z e hj hL hk hG
  obtain ⟨-, s1, s2, s3, s4⟩ := sc_all xs hj hL
  obtain ⟨r, im', N', G1, G', z', e', a1, a2, a3⟩ := T_fork (xs (5 * j + 1)) kt im N G z e hk hG
  dsimp only at a1 a2
  refine ⟨im', N', G', z', e', ?_, a3⟩
  unfold F_law_c4
  simp only [s1, Option.bind_some, gl hG.n, gl a3.n, a1, a2, un, if_true, bl, law_n]
theorem law_c5 : LCs F_law_c5 := by
  intro L xs j kt im N G z e hj hL hk hG
  obtain ⟨-, s1, s2, s3, s4⟩ := sc_all xs hj hL
  obtain ⟨r, im', N', G1, G', z', e', a1, a2, a3⟩ := T_charge (xs (5 * j + 1)) (xs (5 * j + 2)) (xs (5 * j + 3)) kt im N G z e hk hG
  dsimp only at a1 a2
  refine ⟨im', N', G', z', e', ?_, a3⟩
  unfold F_law_c5
  simp only [s1, s2, s3, Option.bind_some, gl hG.n, gl a3.n, a1, a2, un, if_true, bl, law_n]
theorem law_c6 : LCs F_law_c6 := by
  intro L xs j kt im N G z e hj hL hk hG
  obtain ⟨-, s1, s2, s3, s4⟩ := sc_all xs hj hL
  obtain ⟨r, im', N', G1, G', z', e', a1, a2, a3⟩ := T_uncharge (xs (5 * j + 1)) (xs (5 * j + 2)) (xs (5 * j + 3)) kt im N G z e hk hG
  dsimp only at a1 a2
  refine ⟨im', N', G', z', e', ?_, a3⟩
  unfold F_law_c6
  simp only [s1, s2, s3, Option.bind_some, gl hG.n, gl a3.n, a1, a2, un, if_true, bl, law_n]
theorem law_c7 : LCs F_law_c7 := by
  intro L xs j kt im N G z e hj hL hk hG
  obtain ⟨-, s1, s2, s3, s4⟩ := sc_all xs hj hL
  obtain ⟨r, im', N', G1, G', z', e', a1, a2, a3⟩ := T_use (xs (5 * j + 1)) (xs (5 * j + 2)) kt im N G z e hk hG
  dsimp only at a1 a2
  refine ⟨im', N', G', z', e', ?_, a3⟩
  unfold F_law_c7
  simp only [s1, s2, Option.bind_some, gl hG.n, gl a3.n, a1, a2, un, if_true, bl, law_n]
theorem law_c8 : LCs F_law_c8 := by
  intro L xs j kt im N G z e hj hL hk hG
  obtain ⟨-, s1, s2, s3, s4⟩ := sc_all xs hj hL
  obtain ⟨r, im', N', G1, G', z', e', a1, a2, a3⟩ := T_work (xs (5 * j + 1)) (xs (5 * j + 2)) kt im N G z e hk hG
  dsimp only at a1 a2
  refine ⟨im', N', G', z', e', ?_, a3⟩
  unfold F_law_c8
  simp only [s1, s2, Option.bind_some, gl hG.n, gl a3.n, a1, a2, un, if_true, bl, law_n]
theorem law_c9 : LCs F_law_c9 := by
  intro L xs j kt im N G z e hj hL hk hG
  obtain ⟨-, s1, s2, s3, s4⟩ := sc_all xs hj hL
  obtain ⟨r, im', N', G1, G', z', e', a1, a2, a3⟩ := T_move (xs (5 * j + 1)) (xs (5 * j + 2)) kt im N G z e hk hG
  dsimp only at a1 a2
  refine ⟨im', N', G', z', e', ?_, a3⟩
  unfold F_law_c9
  simp only [s1, s2, Option.bind_some, gl hG.n, gl a3.n, a1, a2, un, if_true, bl, law_n]
theorem law_c10 : LCs F_law_c10 := by
  intro L xs j kt im N G z e hj hL hk hG
  obtain ⟨-, s1, s2, s3, s4⟩ := sc_all xs hj hL
  obtain ⟨r, im', N', G1, G', z', e', a1, a2, a3⟩ := T_kill (xs (5 * j + 1)) kt im N G z e hk hG
  dsimp only at a1 a2
  refine ⟨im', N', G', z', e', ?_, a3⟩
  unfold F_law_c10
  simp only [s1, Option.bind_some, gl hG.n, gl a3.n, a1, a2, un, if_true, bl, law_n]
theorem law_c11 : LCs F_law_c11 := by
  intro L xs j kt im N G z e hj hL hk hG
  obtain ⟨-, s1, s2, s3, s4⟩ := sc_all xs hj hL
  obtain ⟨r, im', N', G1, G', z', e', a1, a2, a3⟩ := T_take (xs (5 * j + 1)) (xs (5 * j + 2)) kt im N G z e hk hG
  dsimp only at a1 a2
  refine ⟨im', N', G', z', e', ?_, a3⟩
  unfold F_law_c11
  simp only [s1, s2, Option.bind_some, gl hG.n, gl a3.n, a1, a2, un, if_true, bl, law_n]
theorem law_c12 : LCs F_law_c12 := by
  intro L xs j kt im N G z e hj hL hk hG
  obtain ⟨-, s1, s2, s3, s4⟩ := sc_all xs hj hL
  obtain ⟨r, im', N', G1, G', z', e', a1, a2, a3⟩ := T_drain (xs (5 * j + 1)) kt im N G z e hk hG
  dsimp only at a1 a2
  refine ⟨im', N', G', z', e', ?_, a3⟩
  unfold F_law_c12
  simp only [s1, Option.bind_some, gl hG.n, gl a3.n, a1, a2, un, if_true, bl, law_n]
theorem law_c13 : LCs F_law_c13 := by
  intro L xs j kt im N G z e hj hL hk hG
  obtain ⟨-, s1, s2, s3, s4⟩ := sc_all xs hj hL
  obtain ⟨r, im', N', G1, G', z', e', a1, a2, a3⟩ := T_batch (xs (5 * j + 1)) kt im N G z e hk hG
  dsimp only at a1 a2
  refine ⟨im', N', G', z', e', ?_, a3⟩
  unfold F_law_c13
  simp only [s1, Option.bind_some, gl hG.n, gl a3.n, a1, a2, un, if_true, bl, law_n]
theorem law_c14 : LCs F_law_c14 := by
  intro L xs j kt im N G z e hj hL hk hG
  obtain ⟨-, s1, s2, s3, s4⟩ := sc_all xs hj hL
  obtain ⟨r, im', N', G1, G', z', e', a1, a2, a3⟩ := T_swap (xs (5 * j + 1)) kt im N G z e hk hG
  dsimp only at a1 a2
  refine ⟨im', N', G', z', e', ?_, a3⟩
  unfold F_law_c14
  simp only [s1, Option.bind_some, gl hG.n, gl a3.n, a1, a2, un, if_true, bl, law_n]
theorem law_c15 : LCs F_law_c15 := by
  intro L xs j kt im N G z e hj hL hk hG
  obtain ⟨-, s1, s2, s3, s4⟩ := sc_all xs hj hL
  obtain ⟨r, im', N', G1, G', z', e', a1, a2, a3⟩ := T_cap (xs (5 * j + 1)) kt im N G z e hk hG
  dsimp only at a1 a2
  refine ⟨im', N', G', z', e', ?_, a3⟩
  unfold F_law_c15
  simp only [s1, Option.bind_some, gl hG.n, gl a3.n, a1, a2, un, if_true, bl, law_n]
theorem law_c16 : LCs F_law_c16 := by
  intro L xs j kt im N G z e hj hL hk hG
  obtain ⟨-, s1, s2, s3, s4⟩ := sc_all xs hj hL
  obtain ⟨r, im', N', G1, G', z', e', a1, a2, a3⟩ := T_tick (xs (5 * j + 1)) kt im N G z e hk hG
  dsimp only at a1 a2
  refine ⟨im', N', G', z', e', ?_, a3⟩
  unfold F_law_c16
  simp only [s1, Option.bind_some, gl hG.n, gl a3.n, a1, a2, un, if_true, bl, law_n]
theorem law_c17 : LCs F_law_c17 := by
  intro L xs j kt im N G z e hj hL hk hG
  obtain ⟨-, s1, s2, s3, s4⟩ := sc_all xs hj hL
  obtain ⟨r, im', N', G1, G', z', e', a1, a2, a3⟩ := T_trigger (xs (5 * j + 1)) (xs (5 * j + 2)) (xs (5 * j + 3)) kt im N G z e hk hG
  dsimp only at a1 a2
  refine ⟨im', N', G', z', e', ?_, a3⟩
  unfold F_law_c17
  simp only [s1, s2, s3, Option.bind_some, gl hG.n, gl a3.n, a1, a2, un, if_true, bl, law_n]
theorem law_c18 : LCs F_law_c18 := by
  intro L xs j kt im N G z e hj hL hk hG
  obtain ⟨r, im', N', G1, G', z', e', a1, a2, a3⟩ := T_forget  kt im N G z e hk hG
  dsimp only at a1 a2
  refine ⟨im', N', G', z', e', ?_, a3⟩
  unfold F_law_c18
  simp only [Option.bind_some, gl hG.n, gl a3.n, a1, a2, un, if_true, bl, law_n]
theorem law_c19 : LCs F_law_c19 := by
  intro L xs j kt im N G z e hj hL hk hG
  obtain ⟨-, s1, s2, s3, s4⟩ := sc_all xs hj hL
  obtain ⟨r, G', a1, a2, a3⟩ := T_of (xs (5 * j + 1)) (xs (5 * j + 2)) kt im N G z e hG
  dsimp only at a1 a2
  refine ⟨im, N, G', z, e, ?_, a3.mono (by omega)⟩
  unfold F_law_c19
  simp only [s1, s2, Option.bind_some, gl hG.n, a1, a2, un, if_true, bl, law_n]
theorem law_c20 : LCs F_law_c20 := by
  intro L xs j kt im N G z e hj hL hk hG
  obtain ⟨-, s1, s2, s3, s4⟩ := sc_all xs hj hL
  obtain ⟨r, G', a1, a2, a3⟩ := T_proc (xs (5 * j + 1)) (xs (5 * j + 2)) kt im N G z e hG
  dsimp only at a1 a2
  refine ⟨im, N, G', z, e, ?_, a3.mono (by omega)⟩
  unfold F_law_c20
  simp only [s1, s2, Option.bind_some, gl hG.n, a1, a2, un, if_true, bl, law_n]
theorem law_c21 : LCs F_law_c21 := by
  intro L xs j kt im N G z e hj hL hk hG
  obtain ⟨-, s1, s2, s3, s4⟩ := sc_all xs hj hL
  obtain ⟨r, im', N', G1, G', z', e', a1, a2, a3⟩ := T_share (xs (5 * j + 1)) (xs (5 * j + 2)) (xs (5 * j + 3)) kt im N G z e hk hG
  dsimp only at a1 a2
  refine ⟨im', N', G', z', e', ?_, a3⟩
  unfold F_law_c21
  simp only [s1, s2, s3, Option.bind_some, gl hG.n, gl a3.n, a1, a2, un, if_true, bl, law_n]
theorem law_c22 : LCs F_law_c22 := by
  intro L xs j kt im N G z e hj hL hk hG
  obtain ⟨-, s1, s2, s3, s4⟩ := sc_all xs hj hL
  obtain ⟨r, im', N', G1, G', z', e', a1, a2, a3⟩ := T_spare (xs (5 * j + 1)) (xs (5 * j + 2)) (xs (5 * j + 3)) (xs (5 * j + 4)) kt im N G z e hk hG
  dsimp only at a1 a2
  refine ⟨im', N', G', z', e', ?_, a3⟩
  unfold F_law_c22
  simp only [s1, s2, s3, s4, Option.bind_some, gl hG.n, gl a3.n, a1, a2, un, if_true, bl, law_n]
theorem law_c23 : LCs F_law_c23 := by
  intro L xs j kt im N G z e hj hL hk hG
  obtain ⟨-, s1, s2, s3, s4⟩ := sc_all xs hj hL
  obtain ⟨r, im', N', G1, G', z', e', a1, a2, a3⟩ := T_next (xs (5 * j + 1)) (xs (5 * j + 2)) (xs (5 * j + 3)) kt im N G z e hk hG
  dsimp only at a1 a2
  refine ⟨im', N', G', z', e', ?_, a3⟩
  unfold F_law_c23
  simp only [s1, s2, s3, Option.bind_some, gl hG.n, gl a3.n, a1, a2, un, if_true, bl, law_n]
theorem law_c24 : LCs F_law_c24 := by
  intro L xs j kt im N G z e hj hL hk hG
  obtain ⟨-, s1, s2, s3, s4⟩ := sc_all xs hj hL
  obtain ⟨r, G', a1, a2, a3⟩ := T_below (xs (5 * j + 1)) kt im N G z e hG
  dsimp only at a1 a2
  refine ⟨im, N, G', z, e, ?_, a3.mono (by omega)⟩
  unfold F_law_c24
  simp only [s1, Option.bind_some, gl hG.n, a1, a2, un, if_true, bl, law_n]
theorem law_c25 : LCs F_law_c25 := by
  intro L xs j kt im N G z e hj hL hk hG
  obtain ⟨-, s1, s2, s3, s4⟩ := sc_all xs hj hL
  obtain ⟨r, G', a1, a2, a3⟩ := T_procs (xs (5 * j + 1)) kt im N G z e hG
  dsimp only at a1 a2
  refine ⟨im, N, G', z, e, ?_, a3.mono (by omega)⟩
  unfold F_law_c25
  simp only [s1, Option.bind_some, gl hG.n, a1, a2, un, if_true, bl, law_n]
theorem law_c26 : LCs F_law_c26 := by
  intro L xs j kt im N G z e hj hL hk hG
  obtain ⟨-, s1, s2, s3, s4⟩ := sc_all xs hj hL
  obtain ⟨r, G', a1, a2, a3⟩ := T_common (xs (5 * j + 1)) (xs (5 * j + 2)) kt im N G z e hG
  dsimp only at a1 a2
  refine ⟨im, N, G', z, e, ?_, a3.mono (by omega)⟩
  unfold F_law_c26
  simp only [s1, s2, Option.bind_some, gl hG.n, a1, a2, un, if_true, bl, law_n]
theorem law_c27 : LCs F_law_c27 := by
  intro L xs j kt im N G z e hj hL hk hG
  obtain ⟨-, s1, s2, s3, s4⟩ := sc_all xs hj hL
  obtain ⟨r, G', a1, a2, a3⟩ := T_pressure (xs (5 * j + 1)) (xs (5 * j + 2)) (xs (5 * j + 3)) kt im N G z e hG
  dsimp only at a1 a2
  refine ⟨im, N, G', z, e, ?_, a3.mono (by omega)⟩
  unfold F_law_c27
  simp only [s1, s2, s3, Option.bind_some, gl hG.n, a1, a2, un, if_true, bl, law_n]
theorem law_c28 : LCs F_law_c28 := by
  intro L xs j kt im N G z e hj hL hk hG
  obtain ⟨-, s1, s2, s3, s4⟩ := sc_all xs hj hL
  obtain ⟨r, G', a1, a2, a3⟩ := T_average (xs (5 * j + 1)) (xs (5 * j + 2)) (xs (5 * j + 3)) kt im N G z e hG
  dsimp only at a1 a2
  refine ⟨im, N, G', z, e, ?_, a3.mono (by omega)⟩
  unfold F_law_c28
  simp only [s1, s2, s3, Option.bind_some, gl hG.n, a1, a2, un, if_true, bl, law_n]
theorem law_c29 : LCs F_law_c29 := by
  intro L xs j kt im N G z e hj hL hk hG
  obtain ⟨-, s1, s2, s3, s4⟩ := sc_all xs hj hL
  obtain ⟨r, G', a1, a2, a3⟩ := T_stalls (xs (5 * j + 1)) (xs (5 * j + 2)) kt im N G z e hG
  dsimp only at a1 a2
  refine ⟨im, N, G', z, e, ?_, a3.mono (by omega)⟩
  unfold F_law_c29
  simp only [s1, s2, Option.bind_some, gl hG.n, a1, a2, un, if_true, bl, law_n]
theorem law_c30 : LCs F_law_c30 := by
  intro L xs j kt im N G z e hj hL hk hG
  obtain ⟨r, G', a1, a2, a3⟩ := T_worst  kt im N G z e hG
  dsimp only at a1 a2
  refine ⟨im, N, G', z, e, ?_, a3.mono (by omega)⟩
  unfold F_law_c30
  simp only [Option.bind_some, gl hG.n, a1, a2, un, if_true, bl, law_n]
theorem law_c31 : LCs F_law_c31 := by
  intro L xs j kt im N G z e hj hL hk hG
  obtain ⟨-, s1, s2, s3, s4⟩ := sc_all xs hj hL
  obtain ⟨r, im', N', G1, G', z', e', a1, a2, a3⟩ := T_units (xs (5 * j + 1)) (xs (5 * j + 2)) kt im N G z e hk hG
  dsimp only at a1 a2
  refine ⟨im', N', G', z', e', ?_, a3⟩
  unfold F_law_c31
  simp only [s1, s2, Option.bind_some, gl hG.n, gl a3.n, a1, a2, un, if_true, bl, law_n]
theorem law_c32 : LCs F_law_c32 := by
  intro L xs j kt im N G z e hj hL hk hG
  obtain ⟨-, s1, s2, s3, s4⟩ := sc_all xs hj hL
  obtain ⟨r, G', a1, a2, a3⟩ := T_fired (xs (5 * j + 1)) (xs (5 * j + 2)) kt im N G z e hG
  dsimp only at a1 a2
  refine ⟨im, N, G', z, e, ?_, a3.mono (by omega)⟩
  unfold F_law_c32
  simp only [s1, s2, Option.bind_some, gl hG.n, a1, a2, un, if_true, bl, law_n]
theorem law_c33 : LCs F_law_c33 := by
  intro L xs j kt im N G z e hj hL hk hG
  obtain ⟨-, s1, s2, s3, s4⟩ := sc_all xs hj hL
  obtain ⟨r, G', a1, a2, a3⟩ := T_events (xs (5 * j + 1)) (xs (5 * j + 2)) kt im N G z e hG
  dsimp only at a1 a2
  refine ⟨im, N, G', z, e, ?_, a3.mono (by omega)⟩
  unfold F_law_c33
  simp only [s1, s2, Option.bind_some, gl hG.n, a1, a2, un, if_true, bl, law_n]
theorem law_c34 : LCs F_law_c34 := by
  intro L xs j kt im N G z e hj hL hk hG
  obtain ⟨-, s1, s2, s3, s4⟩ := sc_all xs hj hL
  obtain ⟨r, G', a1, a2, a3⟩ := T_victim (xs (5 * j + 1)) kt im N G z e hG
  dsimp only at a1 a2
  refine ⟨im, N, G', z, e, ?_, a3.mono (by omega)⟩
  unfold F_law_c34
  simp only [s1, Option.bind_some, gl hG.n, a1, a2, un, if_true, bl, law_n]
theorem law_c35 : LCs F_law_c35 := by
  intro L xs j kt im N G z e hj hL hk hG
  obtain ⟨-, s1, s2, s3, s4⟩ := sc_all xs hj hL
  obtain ⟨r, G', a1, a2, a3⟩ := T_dying (xs (5 * j + 1)) kt im N G z e hG
  dsimp only at a1 a2
  refine ⟨im, N, G', z, e, ?_, a3.mono (by omega)⟩
  unfold F_law_c35
  simp only [s1, Option.bind_some, gl hG.n, a1, a2, un, if_true, bl, law_n]
theorem law_c36 : LCs F_law_c36 := by
  intro L xs j kt im N G z e hj hL hk hG
  obtain ⟨-, s1, s2, s3, s4⟩ := sc_all xs hj hL
  obtain ⟨r, G', a1, a2, a3⟩ := T_room (xs (5 * j + 1)) kt im N G z e hG
  dsimp only at a1 a2
  refine ⟨im, N, G', z, e, ?_, a3.mono (by omega)⟩
  unfold F_law_c36
  simp only [s1, Option.bind_some, gl hG.n, a1, a2, un, if_true, bl, law_n]
theorem law_c37 : LCs F_law_c37 := by
  intro L xs j kt im N G z e hj hL hk hG
  obtain ⟨-, s1, s2, s3, s4⟩ := sc_all xs hj hL
  obtain ⟨r, im', N', G1, G', z', e', a1, a2, a3⟩ := T_deaths (xs (5 * j + 1)) (xs (5 * j + 2)) kt im N G z e hk hG
  dsimp only at a1 a2
  refine ⟨im', N', G', z', e', ?_, a3⟩
  unfold F_law_c37
  simp only [s1, s2, Option.bind_some, gl hG.n, gl a3.n, a1, a2, un, if_true, bl, law_n]
theorem law_c38 : LCs F_law_c38 := by
  intro L xs j kt im N G z e hj hL hk hG
  obtain ⟨-, s1, s2, s3, s4⟩ := sc_all xs hj hL
  obtain ⟨r, im', N', G1, G', z', e', a1, a2, a3⟩ := T_taken (xs (5 * j + 1)) (xs (5 * j + 2)) (xs (5 * j + 3)) (xs (5 * j + 4)) kt im N G z e hk hG
  dsimp only at a1 a2
  refine ⟨im', N', G', z', e', ?_, a3⟩
  unfold F_law_c38
  simp only [s1, s2, s3, s4, Option.bind_some, gl hG.n, gl a3.n, a1, a2, un, if_true, bl, law_n]
theorem law_c39 : LCs F_law_c39 := by
  intro L xs j kt im N G z e hj hL hk hG
  obtain ⟨-, s1, s2, s3, s4⟩ := sc_all xs hj hL
  obtain ⟨r, G', a1, a2, a3⟩ := T_place (xs (5 * j + 1)) kt im N G z e hG
  dsimp only at a1 a2
  refine ⟨im, N, G', z, e, ?_, a3.mono (by omega)⟩
  unfold F_law_c39
  simp only [s1, Option.bind_some, gl hG.n, a1, a2, un, if_true, bl, law_n]
theorem law_c40 : LCs F_law_c40 := by
  intro L xs j kt im N G z e hj hL hk hG
  obtain ⟨-, s1, s2, s3, s4⟩ := sc_all xs hj hL
  obtain ⟨r, im', N', G1, G', z', e', a1, a2, a3⟩ := T_due (xs (5 * j + 1)) kt im N G z e hk hG
  dsimp only at a1 a2
  refine ⟨im', N', G', z', e', ?_, a3⟩
  unfold F_law_c40
  simp only [s1, Option.bind_some, gl hG.n, gl a3.n, a1, a2, un, if_true, bl, law_n]
theorem law_c41 : LCs F_law_c41 := by
  intro L xs j kt im N G z e hj hL hk hG
  obtain ⟨r, im', N', G1, G', z', e', a1, a2, a3⟩ := T_idle  kt im N G z e hk hG
  dsimp only at a1 a2
  refine ⟨im', N', G', z', e', ?_, a3⟩
  unfold F_law_c41
  simp only [Option.bind_some, gl hG.n, gl a3.n, a1, a2, un, if_true, bl, law_n]
theorem law_c42 : LCs F_law_c42 := by
  intro L xs j kt im N G z e hj hL hk hG
  obtain ⟨-, s1, s2, s3, s4⟩ := sc_all xs hj hL
  obtain ⟨r, im', N', G1, G', z', e', a1, a2, a3⟩ := T_weigh (xs (5 * j + 1)) (xs (5 * j + 2)) kt im N G z e hk hG
  dsimp only at a1 a2
  refine ⟨im', N', G', z', e', ?_, a3⟩
  unfold F_law_c42
  simp only [s1, s2, Option.bind_some, gl hG.n, gl a3.n, a1, a2, un, if_true, bl, law_n]
theorem law_c43 : LCs F_law_c43 := by
  intro L xs j kt im N G z e hj hL hk hG
  obtain ⟨-, s1, s2, s3, s4⟩ := sc_all xs hj hL
  obtain ⟨r, im', N', G1, G', z', e', a1, a2, a3⟩ := T_pressed (xs (5 * j + 1)) kt im N G z e hk hG
  dsimp only at a1 a2
  refine ⟨im', N', G', z', e', ?_, a3⟩
  unfold F_law_c43
  simp only [s1, Option.bind_some, gl hG.n, gl a3.n, a1, a2, un, if_true, bl, law_n]
theorem law_c44 : LCs F_law_c44 := by
  intro L xs j kt im N G z e hj hL hk hG
  obtain ⟨-, s1, s2, s3, s4⟩ := sc_all xs hj hL
  obtain ⟨r, im', N', G1, G', z', e', a1, a2, a3⟩ := T_would (xs (5 * j + 1)) (xs (5 * j + 2)) (xs (5 * j + 3)) kt im N G z e hk hG
  dsimp only at a1 a2
  refine ⟨im', N', G', z', e', ?_, a3⟩
  unfold F_law_c44
  simp only [s1, s2, s3, Option.bind_some, gl hG.n, gl a3.n, a1, a2, un, if_true, bl, law_n]
theorem law_c45 : LCs F_law_c45 := by
  intro L xs j kt im N G z e hj hL hk hG
  obtain ⟨-, s1, s2, s3, s4⟩ := sc_all xs hj hL
  obtain ⟨r, im', N', G1, G', z', e', a1, a2, a3⟩ := T_burst (xs (5 * j + 1)) (xs (5 * j + 2)) kt im N G z e hk hG
  dsimp only at a1 a2
  refine ⟨im', N', G', z', e', ?_, a3⟩
  unfold F_law_c45
  simp only [s1, s2, Option.bind_some, gl hG.n, gl a3.n, a1, a2, un, if_true, bl, law_n]
theorem law_c46 : LCs F_law_c46 := by
  intro L xs j kt im N G z e hj hL hk hG
  obtain ⟨-, s1, s2, s3, s4⟩ := sc_all xs hj hL
  obtain ⟨r, im', N', G1, G', z', e', a1, a2, a3⟩ := T_stalled (xs (5 * j + 1)) (xs (5 * j + 2)) (xs (5 * j + 3)) kt im N G z e hk hG
  dsimp only at a1 a2
  refine ⟨im', N', G', z', e', ?_, a3⟩
  unfold F_law_c46
  simp only [s1, s2, s3, Option.bind_some, gl hG.n, gl a3.n, a1, a2, un, if_true, bl, law_n]
theorem law_c47 : LCs F_law_c47 := by
  intro L xs j kt im N G z e hj hL hk hG
  obtain ⟨-, s1, s2, s3, s4⟩ := sc_all xs hj hL
  obtain ⟨r, im', N', G1, G', z', e', a1, a2, a3⟩ := T_undo (xs (5 * j + 1)) kt im N G z e hk hG
  dsimp only at a1 a2
  refine ⟨im', N', G', z', e', ?_, a3⟩
  unfold F_law_c47
  simp only [s1, Option.bind_some, gl hG.n, gl a3.n, a1, a2, un, if_true, bl, law_n]
theorem law_c48 : LCs F_law_c48 := by
  intro L xs j kt im N G z e hj hL hk hG
  obtain ⟨-, s1, s2, s3, s4⟩ := sc_all xs hj hL
  obtain ⟨r, im', N', G1, G', z', e', a1, a2, a3⟩ := T_image (xs (5 * j + 1)) kt im N G z e hk hG
  dsimp only at a1 a2
  refine ⟨im', N', G', z', e', ?_, a3⟩
  unfold F_law_c48
  simp only [s1, Option.bind_some, gl hG.n, gl a3.n, a1, a2, un, if_true, bl, law_n]
theorem law_c49 : LCs F_law_c49 := by
  intro L xs j kt im N G z e hj hL hk hG
  obtain ⟨-, s1, s2, s3, s4⟩ := sc_all xs hj hL
  obtain ⟨r, im', N', G1, G', z', e', a1, a2, a3⟩ := T_restore (xs (5 * j + 1)) kt im N G z e hk hG
  dsimp only at a1 a2
  refine ⟨im', N', G', z', e', ?_, a3⟩
  unfold F_law_c49
  simp only [s1, Option.bind_some, gl hG.n, gl a3.n, a1, a2, un, if_true, bl, law_n]
theorem law_c50 : LCs F_law_c50 := by
  intro L xs j kt im N G z e hj hL hk hG
  obtain ⟨-, s1, s2, s3, s4⟩ := sc_all xs hj hL
  obtain ⟨r, G', a1, a2, a3⟩ := T_count (xs (5 * j + 1)) kt im N G z e hG
  dsimp only at a1 a2
  refine ⟨im, N, G', z, e, ?_, a3.mono (by omega)⟩
  unfold F_law_c50
  simp only [s1, Option.bind_some, gl hG.n, a1, a2, un, if_true, bl, law_n]
