/-! one World is copied from another -/
def LL (w v : Nat) (P : WV → WV → Hp) : Prop := (∀ B, LW w (fun A => P A B)) ∧ (∀ A, LW v (fun B => P A B))
/-- what agreed goes on to agree -/
def Mon (A A' B : WV) : Prop := (∀ c k, A.1 c k = B.1 c k → A'.1 c k = B.1 c k) ∧ (∀ c k, A.2 c k = B.2 c k → A'.2 c k = B.2 c k)
theorem Mon.refl (A B : WV) : Mon A A B := ⟨fun _ _ h => h, fun _ _ h => h⟩
theorem Mon.trans {A A' A'' B : WV} (h : Mon A A' B) (h' : Mon A' A'' B) : Mon A A'' B := ⟨fun c k e => h'.1 c k (h.1 c k e), fun c k e => h'.2 c k (h.2 c k e)⟩
section COPY
variable {A B : WV} {w v : Nat} {P : WV → WV → Hp}
theorem cp_I (hP : LL w v P) {c m : Nat} (hc : c < 57) (ht : TW c = (11, m)) (hm : m < 2 ^ 31) {N : Int32} (hN : N = nI m) (A : WV) : ∃ A', cpI (P A B) (v + c) 0 (w + c) 0 N = some (P A' B) ∧ Mon A A' B ∧ ∀ k, k < m → A'.1 c k = B.1 c k := by
  refine ⟨sx A c (fun k => if k < m then B.1 c k else A.1 c k), ?_, ⟨fun c' k e => ?_, fun c' k e => e⟩, fun k hk => ?_⟩
  · unfold cpI
    have o1 := (hP.2 A).ok (V := B) (o := c) (t := 11) (Nat.zero_le _) hc (by rw [ht])
    have o2 := (hP.1 B).ok (V := A) (o := c) (t := 11) (Nat.zero_le _) hc (by rw [ht])
    have t1 := (hP.2 A B c (Nat.zero_le _) hc).2.1
    have t2 := (hP.1 B A c (Nat.zero_le _) hc).2.1
    have x1 := (hP.2 A B c (Nat.zero_le _) hc).2.2.1
    have x2 := (hP.1 B A c (Nat.zero_le _) hc).2.2.1
    have s2 := (hP.1 B A c (Nat.zero_le _) hc).2.2.2.2.2.1
    dsimp only at o1 o2 t1 t2 x1 x2 s2
    have z0 : (0 : Int32).toNatClampNeg = 0 := rfl
    have zm : (nI m).toNatClampNeg = m := nI_clamp hm
    have p0 : ¬ (0 : Int32) < 0 := by decide
    have pm : ¬ nI m < 0 := nI_pos hm
    rw [hN, o1, o2, t1, t2, x1, x2, ht, z0, zm, s2]
    simp only [Bool.true_and, p0, pm, not_false_eq_true, decide_true, Nat.zero_add, Nat.le_refl, if_true]
    congr 3
    funext k
    unfold va_cpy
    simp only [Nat.zero_le, true_and, Nat.zero_add, Nat.sub_zero]
  · by_cases h : c' = c
    · subst h
      show va_up A.1 c' _ c' k = _
      rw [up_s]
      split
      · rfl
      · exact e
    · rw [sx_1, up_n _ _ h]; exact e
  · rw [sx_1, up_s]; exact if_pos hk
theorem cp_J (hP : LL w v P) {c m : Nat} (hc : c < 57) (ht : TW c = (12, m)) (hm : m < 2 ^ 31) {N : Int32} (hN : N = nI m) (A : WV) : ∃ A', cpJ (P A B) (v + c) 0 (w + c) 0 N = some (P A' B) ∧ Mon A A' B ∧ ∀ k, k < m → A'.2 c k = B.2 c k := by
  refine ⟨sy A c (fun k => if k < m then B.2 c k else A.2 c k), ?_, ⟨fun c' k e => e, fun c' k e => ?_⟩, fun k hk => ?_⟩
  · unfold cpJ
    have o1 := (hP.2 A).ok (V := B) (o := c) (t := 12) (Nat.zero_le _) hc (by rw [ht])
    have o2 := (hP.1 B).ok (V := A) (o := c) (t := 12) (Nat.zero_le _) hc (by rw [ht])
    have t1 := (hP.2 A B c (Nat.zero_le _) hc).2.1
    have t2 := (hP.1 B A c (Nat.zero_le _) hc).2.1
    have x1 := (hP.2 A B c (Nat.zero_le _) hc).2.2.2.1
    have x2 := (hP.1 B A c (Nat.zero_le _) hc).2.2.2.1
    have s2 := (hP.1 B A c (Nat.zero_le _) hc).2.2.2.2.2.2
    dsimp only at o1 o2 t1 t2 x1 x2 s2
    have z0 : (0 : Int32).toNatClampNeg = 0 := rfl
    have zm : (nI m).toNatClampNeg = m := nI_clamp hm
    have p0 : ¬ (0 : Int32) < 0 := by decide
    have pm : ¬ nI m < 0 := nI_pos hm
    rw [hN, o1, o2, t1, t2, x1, x2, ht, z0, zm, s2]
    simp only [Bool.true_and, p0, pm, not_false_eq_true, decide_true, Nat.zero_add, Nat.le_refl, if_true]
    congr 3
    funext k
    unfold va_cpy
    simp only [Nat.zero_le, true_and, Nat.zero_add, Nat.sub_zero]
  · by_cases h : c' = c
    · subst h
      show va_up A.2 c' _ c' k = _
      rw [up_s]
      split
      · rfl
      · exact e
    · rw [sy_2, up_n _ _ h]; exact e
  · rw [sy_2, up_s]; exact if_pos hk
theorem Mon.fld (A B : WV) (c k : Nat) : Mon A (sx A c (upd (A.1 c) k (B.1 c k))) B := ⟨fun c' k' e => by
  by_cases h : c' = c
  · subst h
    rw [sx_1, up_s]
    by_cases hk : k' = k
    · rw [hk, upd_s]
    · rw [upd_ne _ _ hk]; exact e
  · rw [sx_1, up_n _ _ h]; exact e, fun _ _ e => e⟩
theorem fld_at (A B : WV) (c k : Nat) : (sx A c (upd (A.1 c) k (B.1 c k))).1 c k = B.1 c k := by rw [sx_1, up_s, upd_s]
/-- rows one by one -/
theorem cp_loop {st : Int32 × Hp → Option ((Int32 × Hp) ⊕ Hp)} {N : Nat} {R : Nat → WV → Prop} (hN : N < 6000) (hR : ∀ j A A', Mon A A' B → R j A → R j A')
    (hs : ∀ j A, j < N → ∃ A', st (nI j, P A B) = some (.inl (nI (j + 1), P A' B)) ∧ Mon A A' B ∧ R j A') (hx : ∀ A, st (nI N, P A B) = some (.inr (P A B))) (A : WV) : ∃ A', loopF st 6000 (0, P A B) = some (P A' B) ∧ Mon A A' B ∧ ∀ j, j < N → R j A' := by
  obtain ⟨a, ha, i1, i2⟩ := loop_inv (st := st) (fun i (a : WV) => (nI i, P a B)) (fun a => P a B) (fun i a => Mon A a B ∧ ∀ j, j < i → R j a) N
    (fun i a hi hI => by
      obtain ⟨a', h1, h2, h3⟩ := hs i a hi
      refine ⟨a', h1, hI.1.trans h2, fun j hj => ?_⟩
      by_cases e : j = i
      · rw [e]; exact h3
      · exact hR j a a' h2 (hI.2 j (by omega)))
    (fun a _ => hx a) N 0 6000 A (by omega) (by omega) ⟨Mon.refl A B, fun j hj => absurd hj (Nat.not_lt_zero _)⟩
  exact ⟨a, ha, i1, i2⟩
theorem cp_tree (hP : LL w v P) : ∃ A', F_X6_copyFrom (P A B) (w + 1) (v + 1) = some (P A' B) ∧ Mon A A' B ∧ (∀ c, (c = 2 ∨ c = 3 ∨ (5 ≤ c ∧ c < 18) ∨ (19 ≤ c ∧ c < 23)) → c ≠ 18 → ∀ k, k < 12 → A'.1 c k = B.1 c k) ∧ A'.1 1 2 = B.1 1 2 := by
  have t12 : (12 : Int32) = nI 12 := rfl
  obtain ⟨A1, a1, m1, g1⟩ := cp_I (B := B) hP (c := 2) (m := 12) (by decide) rfl (by decide) t12 A
  obtain ⟨A2, a2, m2, g2⟩ := cp_I (B := B) hP (c := 3) (m := 12) (by decide) rfl (by decide) t12 A1
  obtain ⟨A3, hA3⟩ : ∃ A3, A3 = sx A2 1 (upd (A2.1 1) 2 (B.1 1 2)) := ⟨_, rfl⟩
  have m3 : Mon A2 A3 B := by rw [hA3]; exact Mon.fld A2 B 1 2
  have g3 : A3.1 1 2 = B.1 1 2 := by rw [hA3]; exact fld_at A2 B 1 2
  obtain ⟨A4, a4, m4, g4⟩ := cp_loop (P := P) (B := B) (st := fun x => F_X6_copyFrom_L40 (w + 1) (v + 1) x.1 x.2) (N := 9) (R := fun j A => ∀ k, k < 12 → A.1 (5 + j) k = B.1 (5 + j) k) (by decide) (fun j A A' hm h k hk => hm.1 _ _ (h k hk)) (fun j A hj => by
    obtain ⟨A', b1, b2, b3⟩ := cp_I (B := B) hP (c := 5 + j) (m := 12) (by omega) (tT_5 j hj) (by decide) t12 A
    refine ⟨A', ?_, b2, b3⟩
    show F_X6_copyFrom_L40 (w + 1) (v + 1) (nI j) (P A B) = _
    unfold F_X6_copyFrom_L40
    rw [h9I, if_neg (nI_ge hj (by decide))]
    simp only [tl (hP.1 B).lt, tl (hP.2 A).lt, hj, b1, Option.bind_some, bl, nI_1]) (fun A => by
    show F_X6_copyFrom_L40 (w + 1) (v + 1) (nI 9) (P A B) = _
    unfold F_X6_copyFrom_L40
    rw [h9I, if_pos (nI_le (Nat.le_refl _) (by decide))]) A3
  obtain ⟨A5, a5, m5, g5⟩ := cp_I (B := B) hP (c := 14) (m := 12) (by decide) rfl (by decide) t12 A4
  obtain ⟨A6, a6, m6, g6⟩ := cp_I (B := B) hP (c := 15) (m := 12) (by decide) rfl (by decide) t12 A5
  obtain ⟨A7, a7, m7, g7⟩ := cp_I (B := B) hP (c := 16) (m := 12) (by decide) rfl (by decide) t12 A6
  obtain ⟨A8, a8, m8, g8⟩ := cp_I (B := B) hP (c := 17) (m := 12) (by decide) rfl (by decide) t12 A7
  obtain ⟨A9, a9, m9, g9⟩ := cp_loop (P := P) (B := B) (st := fun x => F_X6_copyFrom_L133 (w + 1) (v + 1) x.1 x.2) (N := 4) (R := fun j A => ∀ k, k < 12 → A.1 (19 + j) k = B.1 (19 + j) k) (by decide) (fun j A A' hm h k hk => hm.1 _ _ (h k hk)) (fun j A hj => by
    obtain ⟨A', b1, b2, b3⟩ := cp_I (B := B) hP (c := 19 + j) (m := 12) (by omega) (tT_19 j hj) (by decide) t12 A
    refine ⟨A', ?_, b2, b3⟩
    show F_X6_copyFrom_L133 (w + 1) (v + 1) (nI j) (P A B) = _
    unfold F_X6_copyFrom_L133
    rw [h4I, if_neg (nI_ge hj (by decide))]
    simp only [tl (hP.1 B).lt, tl (hP.2 A).lt, hj, b1, Option.bind_some, bl, nI_1]) (fun A => by
    show F_X6_copyFrom_L133 (w + 1) (v + 1) (nI 4) (P A B) = _
    unfold F_X6_copyFrom_L133
    rw [h4I, if_pos (nI_le (Nat.le_refl _) (by decide))]) A8
  have n8 := m9
  have n7 := m8.trans n8
  have n6 := m7.trans n7
  have n5 := m6.trans n6
  have n4 := m5.trans n5
  have n3 := m4.trans n4
  have n2 := m3.trans n3
  have n1 := m2.trans n2
  refine ⟨A9, ?_, m1.trans n1, fun c hc h18 k hk => ?_, n3.1 _ _ g3⟩
  · unfold F_X6_copyFrom
    simp only [tl (hP.1 B).lt, fun A => tl (hP.2 A).lt, Option.bind_some, a1, a2, ← hA3, a4, a5, a6, a7, a8, a9]
  · rcases hc with rfl | rfl | hc | hc
    · exact n1.1 _ _ (g1 k hk)
    · exact n2.1 _ _ (g2 k hk)
    · by_cases h : c < 14
      · obtain ⟨j, rfl⟩ : ∃ j, c = 5 + j := ⟨c - 5, by omega⟩
        exact n4.1 _ _ (g4 j (by omega) k hk)
      · have h' : c = 14 ∨ c = 15 ∨ c = 16 ∨ c = 17 := by omega
        rcases h' with rfl | rfl | rfl | rfl
        · exact n5.1 _ _ (g5 k hk)
        · exact n6.1 _ _ (g6 k hk)
        · exact n7.1 _ _ (g7 k hk)
        · exact n8.1 _ _ (g8 k hk)
    · obtain ⟨j, rfl⟩ : ∃ j, c = 19 + j := ⟨c - 19, by omega⟩
      exact g9 j (by omega) k hk
theorem cp_crowd (hP : LL w v P) : ∃ A', F_X0_copyFrom (P A B) (w + 23) (v + 23) = some (P A' B) ∧ Mon A A' B ∧ (∀ c, (c = 24 ∨ c = 25 ∨ (27 ≤ c ∧ c < 33)) → ∀ k, k < 16 → A'.1 c k = B.1 c k) := by
  have t16 : (16 : Int32) = nI 16 := rfl
  obtain ⟨A1, a1, m1, g1⟩ := cp_I (B := B) hP (c := 24) (m := 16) (by decide) rfl (by decide) t16 A
  obtain ⟨A2, a2, m2, g2⟩ := cp_I (B := B) hP (c := 25) (m := 16) (by decide) rfl (by decide) t16 A1
  obtain ⟨A3, a3, m3, g3⟩ := cp_I (B := B) hP (c := 27) (m := 16) (by decide) rfl (by decide) t16 A2
  obtain ⟨A4, a4, m4, g4⟩ := cp_I (B := B) hP (c := 28) (m := 16) (by decide) rfl (by decide) t16 A3
  obtain ⟨A5, a5, m5, g5⟩ := cp_I (B := B) hP (c := 29) (m := 16) (by decide) rfl (by decide) t16 A4
  obtain ⟨A6, a6, m6, g6⟩ := cp_I (B := B) hP (c := 30) (m := 16) (by decide) rfl (by decide) t16 A5
  obtain ⟨A7, a7, m7, g7⟩ := cp_I (B := B) hP (c := 31) (m := 16) (by decide) rfl (by decide) t16 A6
  obtain ⟨A8, a8, m8, g8⟩ := cp_I (B := B) hP (c := 32) (m := 16) (by decide) rfl (by decide) t16 A7
  have n7 := m8
  have n6 := m7.trans n7
  have n5 := m6.trans n6
  have n4 := m5.trans n5
  have n3 := m4.trans n4
  have n2 := m3.trans n3
  have n1 := m2.trans n2
  have r1 : ∀ A : WV, aR (P A B) (w + 26) 15 0 = some (w + 27) := fun A => (hP.1 B).ldr (V := A) (o := 26) (i := 0) (z := 27) (by decide) (by decide) rfl (by decide) (by decide) rfl
  have r2 : ∀ A : WV, aR (P A B) (w + 26) 15 1 = some (w + 28) := fun A => (hP.1 B).ldr (V := A) (o := 26) (i := 1) (z := 28) (by decide) (by decide) rfl (by decide) (by decide) rfl
  have r3 : ∀ A : WV, aR (P A B) (v + 26) 15 0 = some (v + 27) := fun A => (hP.2 A).ldr (V := B) (o := 26) (i := 0) (z := 27) (by decide) (by decide) rfl (by decide) (by decide) rfl
  have r4 : ∀ A : WV, aR (P A B) (v + 26) 15 1 = some (v + 28) := fun A => (hP.2 A).ldr (V := B) (o := 26) (i := 1) (z := 28) (by decide) (by decide) rfl (by decide) (by decide) rfl
  refine ⟨A8, ?_, m1.trans n1, fun c hc k hk => ?_⟩
  · unfold F_X0_copyFrom
    simp only [cl (hP.1 B).lc, fun A => cl (hP.2 A).lc, Option.bind_some, r1, r2, r3, r4, a1, a2, a3, a4, a5, a6, a7, a8]
  · have h' : c = 24 ∨ c = 25 ∨ c = 27 ∨ c = 28 ∨ c = 29 ∨ c = 30 ∨ c = 31 ∨ c = 32 := by omega
    rcases h' with rfl | rfl | rfl | rfl | rfl | rfl | rfl | rfl
    · exact n1.1 _ _ (g1 k hk)
    · exact n2.1 _ _ (g2 k hk)
    · exact n3.1 _ _ (g3 k hk)
    · exact n4.1 _ _ (g4 k hk)
    · exact n5.1 _ _ (g5 k hk)
    · exact n6.1 _ _ (g6 k hk)
    · exact n7.1 _ _ (g7 k hk)
    · exact g8 k hk
theorem cp_gaug (hP : LL w v P) : ∃ A', F_X1_copyFrom (P A B) (w + 33) (v + 33) = some (P A' B) ∧ Mon A A' B ∧ (∀ c, ((39 ≤ c ∧ c < 42) ∨ (43 ≤ c ∧ c < 52)) → ∀ k, k < 12 → A'.1 c k = B.1 c k) ∧ (∀ j, j < 3 → ∀ k, k < 12 → A'.2 (35 + j) k = B.2 (35 + j) k) := by
  have t12 : (12 : Int32) = nI 12 := rfl
  obtain ⟨A1, a1, m1, g1⟩ := cp_loop (P := P) (B := B) (st := fun x => F_X1_copyFrom_L2 (w + 33) (v + 33) x.1 x.2) (N := 3) (R := fun j A => (∀ k, k < 12 → A.2 (35 + j) k = B.2 (35 + j) k) ∧ ∀ k, k < 12 → A.1 (39 + j) k = B.1 (39 + j) k) (by decide) (fun j A A' hm h => ⟨fun k hk => hm.2 _ _ (h.1 k hk), fun k hk => hm.1 _ _ (h.2 k hk)⟩) (fun j A hj => by
    obtain ⟨A', b1, b2, b3⟩ := cp_J (B := B) hP (c := 35 + j) (m := 12) (by omega) (tT_35 j hj) (by decide) t12 A
    obtain ⟨A'', d1, d2, d3⟩ := cp_I (B := B) hP (c := 39 + j) (m := 12) (by omega) (tT_39 j hj) (by decide) t12 A'
    refine ⟨A'', ?_, b2.trans d2, fun k hk => d2.2 _ _ (b3 k hk), d3⟩
    show F_X1_copyFrom_L2 (w + 33) (v + 33) (nI j) (P A B) = _
    unfold F_X1_copyFrom_L2
    rw [h3I, if_neg (nI_ge hj (by decide))]
    simp only [ga (hP.1 B).lg, fun A => ga (hP.2 A).lg, hj, b1, d1, Option.bind_some, bl, nI_1]) (fun A => by
    show F_X1_copyFrom_L2 (w + 33) (v + 33) (nI 3) (P A B) = _
    unfold F_X1_copyFrom_L2
    rw [h3I, if_pos (nI_le (Nat.le_refl _) (by decide))]) A
  obtain ⟨A2, a2, m2, g2⟩ := cp_loop (P := P) (B := B) (st := fun x => F_X1_copyFrom_L53 (w + 33) (v + 33) x.1 x.2) (N := 9) (R := fun j A => ∀ k, k < 12 → A.1 (43 + j) k = B.1 (43 + j) k) (by decide) (fun j A A' hm h k hk => hm.1 _ _ (h k hk)) (fun j A hj => by
    obtain ⟨A', b1, b2, b3⟩ := cp_I (B := B) hP (c := 43 + j) (m := 12) (by omega) (tT_43 j hj) (by decide) t12 A
    refine ⟨A', ?_, b2, b3⟩
    show F_X1_copyFrom_L53 (w + 33) (v + 33) (nI j) (P A B) = _
    unfold F_X1_copyFrom_L53
    rw [h9I, if_neg (nI_ge hj (by decide))]
    simp only [ga (hP.1 B).lg, fun A => ga (hP.2 A).lg, hj, b1, Option.bind_some, bl, nI_1]) (fun A => by
    show F_X1_copyFrom_L53 (w + 33) (v + 33) (nI 9) (P A B) = _
    unfold F_X1_copyFrom_L53
    rw [h9I, if_pos (nI_le (Nat.le_refl _) (by decide))]) A1
  refine ⟨A2, ?_, m1.trans m2, fun c hc k hk => ?_, fun j hj k hk => m2.2 _ _ ((g1 j hj).1 k hk)⟩
  · unfold F_X1_copyFrom
    simp only [a1, a2, Option.bind_some]
  · rcases hc with hc | hc
    · obtain ⟨j, rfl⟩ : ∃ j, c = 39 + j := ⟨c - 39, by omega⟩
      exact m2.1 _ _ ((g1 j (by omega)).2 k hk)
    · obtain ⟨j, rfl⟩ : ∃ j, c = 43 + j := ⟨c - 43, by omega⟩
      exact g2 j (by omega) k hk
theorem cp_trig (hP : LL w v P) : ∃ A', F_X7_copyFrom (P A B) (w + 52) (v + 52) = some (P A' B) ∧ Mon A A' B ∧ (∀ j, j < 4 → ∀ k, k < 4 → A'.1 (53 + j) k = B.1 (53 + j) k) ∧ A'.1 52 4 = B.1 52 4 := by
  have t4 : (4 : Int32) = nI 4 := rfl
  obtain ⟨A1, a1, m1, g1⟩ := cp_I (B := B) hP (c := 53) (m := 4) (by decide) rfl (by decide) t4 A
  obtain ⟨A2, a2, m2, g2⟩ := cp_I (B := B) hP (c := 54) (m := 4) (by decide) rfl (by decide) t4 A1
  obtain ⟨A3, a3, m3, g3⟩ := cp_I (B := B) hP (c := 55) (m := 4) (by decide) rfl (by decide) t4 A2
  obtain ⟨A4, a4, m4, g4⟩ := cp_I (B := B) hP (c := 56) (m := 4) (by decide) rfl (by decide) t4 A3
  have m5 : Mon A4 (sx A4 52 (upd (A4.1 52) 4 (B.1 52 4))) B := Mon.fld A4 B 52 4
  have n4 := m5
  have n3 := m4.trans n4
  have n2 := m3.trans n3
  have n1 := m2.trans n2
  refine ⟨sx A4 52 (upd (A4.1 52) 4 (B.1 52 4)), ?_, m1.trans n1, fun j hj k hk => ?_, fld_at A4 B 52 4⟩
  · unfold F_X7_copyFrom
    simp only [tr (hP.1 B).lr, fun A => tr (hP.2 A).lr, Option.bind_some, a1, a2, a3, a4]
  · have h' : j = 0 ∨ j = 1 ∨ j = 2 ∨ j = 3 := by omega
    rcases h' with rfl | rfl | rfl | rfl
    · exact n1.1 _ _ (g1 k hk)
    · exact n2.1 _ _ (g2 k hk)
    · exact n3.1 _ _ (g3 k hk)
    · exact n4.1 _ _ (g4 k hk)
/-- A is B wherever a World has a place -/
def AgW (B A : WV) : Prop :=
  (∀ c, (c = 2 ∨ c = 3 ∨ (5 ≤ c ∧ c < 18) ∨ (19 ≤ c ∧ c < 23)) → ∀ k, k < 12 → A.1 c k = B.1 c k) ∧
  (A.1 1 2 = B.1 1 2) ∧
  (∀ c, (c = 24 ∨ c = 25 ∨ (27 ≤ c ∧ c < 33)) → ∀ k, k < 16 → A.1 c k = B.1 c k) ∧
  (∀ c, ((39 ≤ c ∧ c < 42) ∨ (43 ≤ c ∧ c < 52)) → ∀ k, k < 12 → A.1 c k = B.1 c k) ∧
  (∀ j, j < 3 → ∀ k, k < 12 → A.2 (35 + j) k = B.2 (35 + j) k) ∧
  (∀ j, j < 4 → ∀ k, k < 4 → A.1 (53 + j) k = B.1 (53 + j) k) ∧
  (A.1 52 4 = B.1 52 4) ∧
  (∀ k, 4 ≤ k → k < 8 → A.1 0 k = B.1 0 k)
theorem AgW.t {B A : WV} (h : AgW B A) : ∀ c, (c = 2 ∨ c = 3 ∨ (5 ≤ c ∧ c < 18) ∨ (19 ≤ c ∧ c < 23)) → ∀ k, k < 12 → A.1 c k = B.1 c k := h.1
theorem AgW.s1 {B A : WV} (h : AgW B A) : A.1 1 2 = B.1 1 2 := h.2.1
theorem AgW.c {B A : WV} (h : AgW B A) : ∀ c, (c = 24 ∨ c = 25 ∨ (27 ≤ c ∧ c < 33)) → ∀ k, k < 16 → A.1 c k = B.1 c k := h.2.2.1
theorem AgW.g {B A : WV} (h : AgW B A) : ∀ c, ((39 ≤ c ∧ c < 42) ∨ (43 ≤ c ∧ c < 52)) → ∀ k, k < 12 → A.1 c k = B.1 c k := h.2.2.2.1
theorem AgW.h {B A : WV} (h : AgW B A) : ∀ j, j < 3 → ∀ k, k < 12 → A.2 (35 + j) k = B.2 (35 + j) k := h.2.2.2.2.1
theorem AgW.r {B A : WV} (h : AgW B A) : ∀ j, j < 4 → ∀ k, k < 4 → A.1 (53 + j) k = B.1 (53 + j) k := h.2.2.2.2.2.1
theorem AgW.s2 {B A : WV} (h : AgW B A) : A.1 52 4 = B.1 52 4 := h.2.2.2.2.2.2.1
theorem AgW.f {B A : WV} (h : AgW B A) : ∀ k, 4 ≤ k → k < 8 → A.1 0 k = B.1 0 k := h.2.2.2.2.2.2.2
theorem AgW.refl (A : WV) : AgW A A := ⟨fun _ _ _ _ => rfl, rfl, fun _ _ _ _ => rfl, fun _ _ _ _ => rfl, fun _ _ _ _ => rfl, fun _ _ _ _ => rfl, rfl, fun _ _ _ => rfl⟩
theorem c_copy (hP : LL w v P) (A B : WV) : ∃ A', F_X8_copyFrom (P A B) w v = some (P A' B) ∧ AgW B A' := by
  obtain ⟨A1, a1, m1, g1, g1'⟩ := cp_tree (A := A) (B := B) hP
  obtain ⟨A2, a2, m2, g2⟩ := cp_crowd (A := A1) (B := B) hP
  obtain ⟨A3, a3, m3, g3, g3'⟩ := cp_gaug (A := A2) (B := B) hP
  obtain ⟨A4, a4, m4, g4, g4'⟩ := cp_trig (A := A3) (B := B) hP
  obtain ⟨A5, h5⟩ : ∃ A5, A5 = sx A4 0 (upd (A4.1 0) 4 (B.1 0 4)) := ⟨_, rfl⟩
  obtain ⟨A6, h6⟩ : ∃ A6, A6 = sx A5 0 (upd (A5.1 0) 5 (B.1 0 5)) := ⟨_, rfl⟩
  obtain ⟨A7, h7⟩ : ∃ A7, A7 = sx A6 0 (upd (A6.1 0) 6 (B.1 0 6)) := ⟨_, rfl⟩
  obtain ⟨A8, h8⟩ : ∃ A8, A8 = sx A7 0 (upd (A7.1 0) 7 (B.1 0 7)) := ⟨_, rfl⟩
  have m5 : Mon A4 A5 B := by rw [h5]; exact Mon.fld A4 B 0 4
  have m6 : Mon A5 A6 B := by rw [h6]; exact Mon.fld A5 B 0 5
  have m7 : Mon A6 A7 B := by rw [h7]; exact Mon.fld A6 B 0 6
  have m8 : Mon A7 A8 B := by rw [h8]; exact Mon.fld A7 B 0 7
  have g5 : A5.1 0 4 = B.1 0 4 := by rw [h5]; exact fld_at A4 B 0 4
  have g6 : A6.1 0 5 = B.1 0 5 := by rw [h6]; exact fld_at A5 B 0 5
  have g7 : A7.1 0 6 = B.1 0 6 := by rw [h7]; exact fld_at A6 B 0 6
  have g8 : A8.1 0 7 = B.1 0 7 := by rw [h8]; exact fld_at A7 B 0 7
  have n7 := m8
  have n6 := m7.trans n7
  have n5 := m6.trans n6
  have n4 := m5.trans n5
  have n3 := m4.trans n4
  have n2 := m3.trans n3
  have n1 := m2.trans n2
  refine ⟨A8, ?_, ?_⟩
  · unfold F_X8_copyFrom
    simp only [ol (hP.1 B).lo, fun A => ol (hP.2 A).lo, tl (hP.1 B).lt, cl (hP.1 B).lc, ga (hP.1 B).lg, tr (hP.1 B).lr, Option.bind_some, a1, a2, a3, a4, ← h5, ← h6, ← h7, ← h8]
  · exact ⟨fun c hc k hk => n1.1 _ _ (g1 c hc (by omega) k hk), n1.1 _ _ g1', fun c hc k hk => n2.1 _ _ (g2 c hc k hk), fun c hc k hk => n3.1 _ _ (g3 c hc k hk), fun j hj k hk => n3.2 _ _ (g3' j hj k hk), fun j hj k hk => n4.1 _ _ (g4 j hj k hk), n4.1 _ _ g4', fun k h1 h2 => by
      have h' : k = 4 ∨ k = 5 ∨ k = 6 ∨ k = 7 := by omega
      rcases h' with rfl | rfl | rfl | rfl
      · exact n5.1 _ _ g5
      · exact n6.1 _ _ g6
      · exact n7.1 _ _ g7
      · exact g8⟩
end COPY
