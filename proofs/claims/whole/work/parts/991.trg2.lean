/-! triggers are added, those of a group dropped: the class and the model -/
def mvT (W : WV) (i k : Nat) : WV := sx (sx (sx (sx W 53 (upd (W.1 53) k (W.1 53 i))) 54 (upd (W.1 54) k (W.1 54 i))) 55 (upd (W.1 55) k (W.1 55 i))) 56 (upd (W.1 56) k (W.1 56 i))
def tdF (V : WV) (g : Nat) : Nat → WV × Nat
  | 0 => (V, 0)
  | i + 1 => if (tdF V g i).1.1 53 i = nI g then tdF V g i else (mvT (tdF V g i).1 i (tdF V g i).2, (tdF V g i).2 + 1)
theorem mvT_c (W : WV) (i k c : Nat) (hc : c < 53 ∨ 57 ≤ c) : (mvT W i k).1 c = W.1 c := by
  unfold mvT
  simp only [sx_1]
  rw [up_n _ _ (by omega), up_n _ _ (by omega), up_n _ _ (by omega), up_n _ _ (by omega)]
theorem mvT_t (W : WV) (i k x : Nat) (hx : x < 4) : (mvT W i k).1 (53 + x) = upd (W.1 (53 + x)) k (W.1 (53 + x) i) := by
  have h : x = 0 ∨ x = 1 ∨ x = 2 ∨ x = 3 := by omega
  rcases h with rfl | rfl | rfl | rfl <;> rfl
section TRG2
variable {V : WV} {g s w b : Nat} {P : WV → Hp}
theorem td_k (i : Nat) : (tdF V g i).2 ≤ i := by
  induction i with
  | zero => exact Nat.le_refl _
  | succ i ih =>
    unfold tdF
    split
    · omega
    · show (tdF V g i).2 + 1 ≤ i + 1; omega
theorem td_c (i : Nat) {c : Nat} (hc : c < 53 ∨ 57 ≤ c) : (tdF V g i).1.1 c = V.1 c := by
  induction i with
  | zero => rfl
  | succ i ih =>
    unfold tdF
    split
    · exact ih
    · show (mvT (tdF V g i).1 i (tdF V g i).2).1 c = _
      rw [mvT_c _ _ _ _ hc, ih]
theorem td_2 (i : Nat) : (tdF V g i).1.2 = V.2 := by
  induction i with
  | zero => rfl
  | succ i ih =>
    unfold tdF
    split
    · exact ih
    · exact ih
theorem td_hi (i : Nat) {j x : Nat} (hj : i ≤ j) (hx : x < 4) : (tdF V g i).1.1 (53 + x) j = V.1 (53 + x) j := by
  induction i with
  | zero => rfl
  | succ i ih =>
    unfold tdF
    split
    · exact ih (by omega)
    · show (mvT (tdF V g i).1 i (tdF V g i).2).1 (53 + x) j = _
      have := td_k (V := V) (g := g) i
      rw [mvT_t _ _ _ _ hx, upd_ne _ _ (by omega), ih (by omega)]
theorem td_cong {V' : WV} (h : ∀ x, x < 4 → V'.1 (53 + x) = V.1 (53 + x)) (i : Nat) : (tdF V' g i).2 = (tdF V g i).2 ∧ ∀ x, x < 4 → (tdF V' g i).1.1 (53 + x) = (tdF V g i).1.1 (53 + x) := by
  induction i with
  | zero => exact ⟨rfl, h⟩
  | succ i ih =>
    obtain ⟨i1, i2⟩ := ih
    have e53 : (tdF V' g i).1.1 53 = (tdF V g i).1.1 53 := i2 0 (by omega)
    unfold tdF
    rw [e53]
    split
    · exact ⟨i1, i2⟩
    · refine ⟨by show (tdF V' g i).2 + 1 = (tdF V g i).2 + 1; rw [i1], fun x hx => ?_⟩
      show (mvT (tdF V' g i).1 i (tdF V' g i).2).1 (53 + x) = (mvT (tdF V g i).1 i (tdF V g i).2).1 (53 + x)
      rw [mvT_t _ _ _ _ hx, mvT_t _ _ _ _ hx, i1, i2 x hx]
/-- every trigger that is left was one before, of another group -/
theorem td_src (i : Nat) : ∀ j, j < (tdF V g i).2 → ∃ l, l < i ∧ V.1 53 l ≠ nI g ∧ ∀ x, x < 4 → (tdF V g i).1.1 (53 + x) j = V.1 (53 + x) l := by
  induction i with
  | zero => intro j hj; exact absurd hj (Nat.not_lt_zero _)
  | succ i ih =>
    have e53 : (tdF V g i).1.1 53 i = V.1 53 i := td_hi (x := 0) i (Nat.le_refl _) (by omega)
    intro j hj
    by_cases h : (tdF V g i).1.1 53 i = nI g
    · have e : tdF V g (i + 1) = tdF V g i := by rw [tdF, if_pos h]
      rw [e] at hj ⊢
      obtain ⟨l, l1, l2, l3⟩ := ih j hj
      exact ⟨l, by omega, l2, l3⟩
    · have e : tdF V g (i + 1) = (mvT (tdF V g i).1 i (tdF V g i).2, (tdF V g i).2 + 1) := by rw [tdF, if_neg h]
      rw [e] at hj ⊢
      dsimp only at hj ⊢
      by_cases ej : j = (tdF V g i).2
      · refine ⟨i, by omega, by rw [← e53]; exact h, fun x hx => ?_⟩
        rw [mvT_t _ _ _ _ hx, ej, upd_s, td_hi i (Nat.le_refl _) hx]
      · obtain ⟨l, l1, l2, l3⟩ := ih j (by omega)
        refine ⟨l, by omega, l2, fun x hx => ?_⟩
        rw [mvT_t _ _ _ _ hx, upd_ne _ _ ej]; exact l3 x hx
def drpT (V : WV) (g s : Nat) : WV := sx (tdF V g s).1 52 (upd (V.1 52) 4 (nI (tdF V g s).2))
theorem s_dropOf (hP : LR w P) (hs4 : s ≤ 4) (hs : V.1 52 4 = nI s) (hg : g < 12) : F_X7_dropOf (P V) (w + 52) (nI g) = some (P (drpT V g s)) := by
  obtain ⟨a, ha, hI⟩ := loop_inv (st := fun x => F_X7_dropOf_L4 (w + 52) (nI g) x.1 x.2.1 x.2.2) (fun i (a : WV × Nat) => (nI a.2, nI i, P a.1)) (fun a => (nI a.2, P a.1)) (fun i a => a = tdF V g i) s
    (fun i a hi hI => by
      have hk := td_k (V := V) (g := g) i
      have e52 : (tdF V g i).1.1 52 4 = nI s := by rw [td_c i (by omega)]; exact hs
      rw [← hI] at hk e52
      have hi4 : i < 4 := by omega
      refine ⟨tdF V g (i + 1), ?_, rfl⟩
      show F_X7_dropOf_L4 (w + 52) (nI g) (nI a.2) (nI i) (P a.1) = _
      unfold F_X7_dropOf_L4
      rw [tdF, ← hI]
      by_cases h : a.1.1 53 i = nI g
      · rw [if_pos h]
        simp only [tr hP, Option.bind_some, e52, if_neg (nI_ge hi (by omega)), hi4, h, if_true, bl, nI_1]
      · rw [if_neg h]
        have hk4 : a.2 < 4 := by omega
        have c1 : ∀ f, (sx a.1 53 f).1 54 = a.1.1 54 := fun f => rfl
        have c2 : ∀ f f', (sx (sx a.1 53 f) 54 f').1 55 = a.1.1 55 := fun f f' => rfl
        have c3 : ∀ f f' f'', (sx (sx (sx a.1 53 f) 54 f') 55 f'').1 56 = a.1.1 56 := fun f f' f'' => rfl
        simp only [tr hP, Option.bind_some, e52, if_neg (nI_ge hi (by omega)), hi4, hk4, if_neg h, c1, c2, c3, bl, nI_1]
        rfl)
    (fun a hI => by
      have e52 : a.1.1 52 4 = nI s := by rw [hI, td_c s (by omega)]; exact hs
      show F_X7_dropOf_L4 (w + 52) (nI g) (nI a.2) (nI s) (P a.1) = _
      unfold F_X7_dropOf_L4
      simp only [tr hP, Option.bind_some, e52, if_pos (nI_le (Nat.le_refl s) (show s < 2 ^ 31 by omega))])
    s 0 6000 (V, 0) (by omega) (by omega) rfl
  have ha' : loopF (fun x => F_X7_dropOf_L4 (w + 52) (nI g) x.1 x.2.1 x.2.2) 6000 (0, 0, P V) = some (nI (tdF V g s).2, P (tdF V g s).1) := by
    rw [← hI]; exact ha
  have e52 : (tdF V g s).1.1 52 = V.1 52 := td_c s (by omega)
  unfold F_X7_dropOf drpT
  simp only [ha', Option.bind_some, bl, tr hP, e52]
def addT (V : WV) (s : Nat) (g x y : Int32) : WV := sx (sx (sx (sx (sx V 53 (upd (V.1 53) s g)) 54 (upd (V.1 54) s x)) 55 (upd (V.1 55) s y)) 56 (upd (V.1 56) s 0)) 52 (upd (V.1 52) 4 (nI (s + 1)))
theorem s_addT (hP : LR w P) (hs4 : s < 4) (hs : V.1 52 4 = nI s) (g x y : Int32) : F_X7_add (P V) (w + 52) g x y = some (nI s, P (addT V s g x y)) := by
  have c1 : ∀ f, (sx V 53 f).1 54 = V.1 54 := fun f => rfl
  have c2 : ∀ f f', (sx (sx V 53 f) 54 f').1 55 = V.1 55 := fun f f' => rfl
  have c3 : ∀ f f' f'', (sx (sx (sx V 53 f) 54 f') 55 f'').1 56 = V.1 56 := fun f f' f'' => rfl
  have c4 : ∀ f f' f'' f''', (sx (sx (sx (sx V 53 f) 54 f') 55 f'') 56 f''').1 52 = V.1 52 := fun f f' f'' f''' => rfl
  unfold F_X7_add addT
  simp only [tr hP, Option.bind_some, hs, hs4, c1, c2, c3, c4, nI_1]
theorem Rel.trgs {W W' : WV} {M M' : Nat → Int32} (h : Rel W M) (hc : ∀ c, (c < 52 ∨ 57 ≤ c) → W'.1 c = W.1 c) (h2 : W'.2 = W.2) (hM : ∀ i, i < 543 → i ≠ 4 → M' i = M i) (h4 : M' 4 = W'.1 52 4) (hT : RelT W' M') : Rel W' M' := by
  obtain ⟨⟨a0, a1, a2, a3, a4, a5, a6⟩, h2', h3, h4', h5⟩ := h
  have t2 : thV W' = thV W := thV_same (hc 2 (by omega))
  have t24 : phV W' = phV W := phV_same (hc 24 (by omega))
  have t0 := hc 0 (by omega)
  refine ⟨⟨?_, ?_, ?_, ?_, h4, ?_, ?_⟩, ?_, ?_, ?_, hT⟩
  · rw [hM 0 (by omega) (by omega), t2]; exact a0
  · rw [hM 1 (by omega) (by omega), t24]; exact a1
  · rw [hM 2 (by omega) (by omega), t0]; exact a2
  · rw [hM 3 (by omega) (by omega), t0]; exact a3
  · rw [hM 5 (by omega) (by omega), t0]; exact a5
  · rw [hM 6 (by omega) (by omega), t0]; exact a6
  · intro g f hg ht hf hcf
    rw [t2] at ht
    have : cg f < 52 := (by decide : ∀ f, f < 34 → cg f ≠ 99 → cg f < 52) f hf hcf
    rw [hM _ (by omega) (by omega), hc _ (Or.inl this)]
    exact h2' g f hg ht hf hcf
  · intro g k hg ht hk
    rw [t2] at ht
    rw [hM _ (by omega) (by omega), hM _ (by omega) (by omega), h2]
    exact h3 g k hg ht hk
  · intro p f hp ht hf
    rw [t24] at ht
    have : cp f < 52 := (by decide : ∀ f, f < 8 → cp f < 52) f hf
    rw [hM _ (by omega) (by omega), hc _ (Or.inl this)]
    exact h4' p f hp ht hf
end TRG2
section MTRG2
variable {V U : WV} {g s b : Nat} {P : WV → Hp}
theorem ix_tk (i k : Nat) : (543 + 4 * nI i) + nI k = nI (543 + 4 * i + k) := by
  rw [show (543 : Int32) = nI 543 from rfl, show (4 : Int32) = nI 4 from rfl, nI_mul, nI_add, nI_add]
theorem ix_t0 (i : Nat) : (543 : Int32) + 4 * nI i = nI (543 + 4 * i) := by
  rw [show (543 : Int32) = nI 543 from rfl, show (4 : Int32) = nI 4 from rfl, nI_mul, nI_add]
/-- one trigger's four numbers move down -/
theorem m_mvT (hP : LM b P) {i l : Nat} (hi : i < 4) (hl : l ≤ i) (z1 z2 : Int32) (U : WV) : ∃ M', loopF (fun x => F_X10_remove_L86 b z1 z2 (nI l) (nI i) (nI (543 + 4 * i)) x.1 x.2) 6000 (0, P U) = some (P (sx U 1 M')) ∧ (∀ k, k < 4 → M' (543 + 4 * l + k) = U.1 1 (543 + 4 * i + k)) ∧ ∀ j, (j < 543 + 4 * l ∨ 543 + 4 * l + 4 ≤ j) → M' j = U.1 1 j := by
  obtain ⟨a, ha, i1, i2⟩ := loop_inv (st := fun x => F_X10_remove_L86 b z1 z2 (nI l) (nI i) (nI (543 + 4 * i)) x.1 x.2) (fun k (a : Nat → Int32) => (nI k, P (sx U 1 a))) (fun a => P (sx U 1 a)) (fun m a => (∀ k, k < m → a (543 + 4 * l + k) = U.1 1 (543 + 4 * i + k)) ∧ ∀ j, (j < 543 + 4 * l ∨ 543 + 4 * l + m ≤ j) → a j = U.1 1 j) 4
    (fun m a hm hI => by
      obtain ⟨i1, i2⟩ := hI
      have e1 : ∀ f, (sx U 1 f).1 1 = f := fun f => rfl
      have er : a (543 + 4 * i + m) = U.1 1 (543 + 4 * i + m) := i2 _ (by omega)
      have h1 : 543 + 4 * i + m < 1677 := by omega
      have h2 : 543 + 4 * l + m < 1677 := by omega
      refine ⟨upd a (543 + 4 * l + m) (U.1 1 (543 + 4 * i + m)), ?_, fun k hk => ?_, fun j hj => ?_⟩
      · show F_X10_remove_L86 b z1 z2 (nI l) (nI i) (nI (543 + 4 * i)) (nI m) (P (sx U 1 a)) = _
        unfold F_X10_remove_L86
        rw [h4I, if_neg (nI_ge hm (by decide)), ← h4I, ix_tk, nI_add]
        simp only [ml hP, h1, h2, e1, er, sx_sx, Option.bind_some, bl, nI_1]
      · by_cases e : k = m
        · rw [e, upd_s]
        · rw [upd_ne _ _ (by omega)]; exact i1 k (by omega)
      · rw [upd_ne _ _ (by omega)]; exact i2 j (by omega))
    (fun a hI => by
      show F_X10_remove_L86 b z1 z2 (nI l) (nI i) (nI (543 + 4 * i)) (nI 4) (P (sx U 1 a)) = _
      unfold F_X10_remove_L86
      rw [h4I, if_pos (nI_le (Nat.le_refl _) (by decide))])
    4 0 6000 (U.1 1) (by omega) (by omega) ⟨fun k hk => absurd hk (Nat.not_lt_zero _), fun _ _ => rfl⟩
  refine ⟨a, ?_, i1, i2⟩
  rw [← ha]
  show _ = loopF _ 6000 (nI 0, P (sx U 1 (U.1 1)))
  rw [sx_id]; rfl
theorem m_drpT (hP : LM b P) (hR : Rel V (U.1 1)) (hs4 : s ≤ 4) (hs : V.1 52 4 = nI s) (hg : g < 12) (z : Int32) : ∃ M', loopF (fun x => F_X10_remove_L46 b (nI g) z x.1 x.2.1 x.2.2) 6000 (0, 0, P U) = some (nI (tdF V g s).2, P (sx U 1 M')) ∧ (∀ j, (j < 543 ∨ 559 ≤ j) → M' j = U.1 1 j) ∧ RelT (tdF V g s).1 M' := by
  obtain ⟨⟨a0, a1', a2, a3, a4, a5, a6⟩, -, -, -, h5⟩ := hR
  obtain ⟨a, ha, i1, i2, i3⟩ := loop_inv (st := fun x => F_X10_remove_L46 b (nI g) z x.1 x.2.1 x.2.2) (fun i (a : (Nat → Int32) × Nat) => (nI a.2, nI i, P (sx U 1 a.1))) (fun a => (nI a.2, P (sx U 1 a.1))) (fun i a => a.2 = (tdF V g i).2 ∧ (∀ j, (j < 543 ∨ 559 ≤ j) → a.1 j = U.1 1 j) ∧ RelT (tdF V g i).1 a.1) s
    (fun i a hi hI => by
      obtain ⟨i1, i2, i3⟩ := hI
      have hk := td_k (V := V) (g := g) i
      have hi4 : i < 4 := by omega
      have e1 : ∀ f, (sx U 1 f).1 1 = f := fun f => rfl
      have e4 : a.1 4 = nI s := by rw [i2 4 (by omega), a4]; exact hs
      have e543 : a.1 (543 + 4 * i) = (tdF V g i).1.1 53 i := by
        have := i3 i 0 hi4 (by omega)
        rw [Nat.add_zero] at this
        exact this
      have h1 : 543 + 4 * i < 1677 := by omega
      have r4 : ∀ W : WV, aI (P W) (b + 1) 4 = some (W.1 1 4) := fun W => hP.ldi (V := W) (o := 1) (i := 4) (by decide) (by decide) rfl (by decide) (by decide)
      by_cases h : (tdF V g i).1.1 53 i = nI g
      · refine ⟨a, ?_, ?_, i2, ?_⟩
        · show F_X10_remove_L46 b (nI g) z (nI a.2) (nI i) (P (sx U 1 a.1)) = _
          unfold F_X10_remove_L46
          simp only [ml hP, ml0 hP, r4, Option.bind_some, e1, e4, if_neg (nI_ge hi (by omega)), ix_t0, bl, Int32.add_zero, h1, e543, h, if_true, nI_1]
        · rw [tdF, if_pos h]; exact i1
        · rw [tdF, if_pos h]; exact i3
      · obtain ⟨M', m1, m2, m3⟩ := m_mvT hP hi4 (show a.2 ≤ i by omega) (nI g) z (sx U 1 a.1)
        rw [sx_sx] at m1
        rw [e1] at m2 m3
        refine ⟨(M', a.2 + 1), ?_, ?_, fun j hj => ?_, ?_⟩
        · show F_X10_remove_L46 b (nI g) z (nI a.2) (nI i) (P (sx U 1 a.1)) = _
          unfold F_X10_remove_L46
          simp only [ml hP, ml0 hP, r4, Option.bind_some, e1, e4, if_neg (nI_ge hi (by omega)), ix_t0, bl, Int32.add_zero, h1, e543, if_neg h, m1, nI_1]
        · rw [tdF, if_neg h]; show a.2 + 1 = (tdF V g i).2 + 1; rw [i1]
        · show M' j = _
          rw [m3 j (by omega), i2 j hj]
        · rw [tdF, if_neg h]
          intro x k hx hk4
          show M' (543 + 4 * x + k) = (mvT (tdF V g i).1 i (tdF V g i).2).1 (53 + k) x
          rw [mvT_t _ _ _ _ hk4, ← i1]
          by_cases ex : x = a.2
          · rw [ex, upd_s, m2 k hk4]; exact i3 i k hi4 hk4
          · rw [upd_ne _ _ ex, m3 _ (by omega)]; exact i3 x k hx hk4)
    (fun a hI => by
      obtain ⟨i1, i2, i3⟩ := hI
      have e1 : ∀ f, (sx U 1 f).1 1 = f := fun f => rfl
      have e4 : a.1 4 = nI s := by rw [i2 4 (by omega), a4]; exact hs
      have r4 : ∀ W : WV, aI (P W) (b + 1) 4 = some (W.1 1 4) := fun W => hP.ldi (V := W) (o := 1) (i := 4) (by decide) (by decide) rfl (by decide) (by decide)
      show F_X10_remove_L46 b (nI g) z (nI a.2) (nI s) (P (sx U 1 a.1)) = _
      unfold F_X10_remove_L46
      simp only [ml hP, r4, Option.bind_some, e1, e4, if_pos (nI_le (Nat.le_refl s) (show s < 2 ^ 31 by omega))])
    s 0 6000 (U.1 1, 0) (by omega) (by omega) ⟨rfl, fun _ _ => rfl, h5⟩
  refine ⟨a.1, ?_, i2, i3⟩
  rw [← i1, ← ha]
  show _ = loopF _ 6000 (nI 0, nI 0, P (sx U 1 (U.1 1)))
  rw [sx_id]; rfl
end MTRG2
