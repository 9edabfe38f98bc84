/-! the model's totals -/
theorem rsx (V : WV) :
    (∀ (U : WV) (f : Nat → Int32), Rel V ((sx U 0 f).1 1) ↔ Rel V (U.1 1)) ∧
    (∀ (U : WV) (f : Nat → Int32), Rel V ((sx U 2 f).1 1) ↔ Rel V (U.1 1)) ∧
    (∀ (U : WV) (f : Nat → Int32), Rel V ((sx U 3 f).1 1) ↔ Rel V (U.1 1)) ∧
    (∀ (U : WV) (f : Nat → Int32), Rel V ((sx U 4 f).1 1) ↔ Rel V (U.1 1)) ∧
    (∀ (U : WV) (f : Nat → Int32), Rel V ((sx U 5 f).1 1) ↔ Rel V (U.1 1)) ∧
    (∀ (U : WV) (f : Nat → Int32), Rel V ((sx U 6 f).1 1) ↔ Rel V (U.1 1)) ∧
    (∀ (U : WV) (f : Nat → Int32), Rel V ((sx U 7 f).1 1) ↔ Rel V (U.1 1)) ∧
    (∀ (U : WV) (f : Nat → Int32), Rel V ((sx U 8 f).1 1) ↔ Rel V (U.1 1)) ∧
    (∀ (U : WV) (f : Nat → Int32), Rel V ((sx U 9 f).1 1) ↔ Rel V (U.1 1)) ∧
    (∀ (U : WV) (f : Nat → Int32), Rel V ((sx U 10 f).1 1) ↔ Rel V (U.1 1)) ∧
    (∀ (U : WV) (f : Nat → Int32), Rel V ((sx U 11 f).1 1) ↔ Rel V (U.1 1)) ∧
    (∀ (U : WV) (f : Nat → Int32), Rel V ((sx U 12 f).1 1) ↔ Rel V (U.1 1)) ∧
    (∀ (U : WV) (f : Nat → Int32), Rel V ((sx U 13 f).1 1) ↔ Rel V (U.1 1)) ∧
    (∀ (U : WV) (f : Nat → Int32), Rel V ((sx U 14 f).1 1) ↔ Rel V (U.1 1)) ∧
    (∀ (U : WV) (f : Nat → Int32), Rel V ((sx U 15 f).1 1) ↔ Rel V (U.1 1)) ∧
    (∀ (U : WV) (f : Nat → Int32), Rel V ((sx U 16 f).1 1) ↔ Rel V (U.1 1)) ∧
    (∀ (U : WV) (f : Nat → Int32), Rel V ((sx U 17 f).1 1) ↔ Rel V (U.1 1)) ∧
    (∀ (U : WV) (f : Nat → Int32), Rel V ((sx U 18 f).1 1) ↔ Rel V (U.1 1)) :=
  ⟨fun _ _ => Iff.rfl, fun _ _ => Iff.rfl, fun _ _ => Iff.rfl, fun _ _ => Iff.rfl, fun _ _ => Iff.rfl, fun _ _ => Iff.rfl, fun _ _ => Iff.rfl, fun _ _ => Iff.rfl, fun _ _ => Iff.rfl, fun _ _ => Iff.rfl, fun _ _ => Iff.rfl, fun _ _ => Iff.rfl, fun _ _ => Iff.rfl, fun _ _ => Iff.rfl, fun _ _ => Iff.rfl, fun _ _ => Iff.rfl, fun _ _ => Iff.rfl, fun _ _ => Iff.rfl⟩
/-- the rows of the totals are laid -/
def TotS (V U : WV) : Prop := ∀ g, g < 12 → thV V g = true → U.1 9 g = V.1 15 g ∧ U.1 10 g = pgIn V (nI g) 0 ∧ U.1 11 g = pgIn V (nI g) 1 ∧ U.1 12 g = V.1 16 g
/-- only these rows are other ones -/
def KeepT (U U' : WV) : Prop := ∀ o, o < 9 ∨ 13 ≤ o → U'.1 o = U.1 o
theorem KeepT.keep {U U' : WV} (h : KeepT U U') : Keep U U' := ⟨fun o h1 _ => h o (Or.inl h1), fun i _ => by rw [h 1 (by decide)]⟩
theorem KeepT.rel {V U U' : WV} (h : KeepT U U') (hR : Rel V (U.1 1)) : Rel V (U'.1 1) := by rw [h 1 (by decide)]; exact hR
theorem KeepT.refl (U : WV) : KeepT U U := fun _ _ => rfl
theorem KeepT.trans {U U' U'' : WV} (h : KeepT U U') (h' : KeepT U' U'') : KeepT U U'' := fun o ho => (h' o ho).trans (h o ho)
theorem KeepT.s9 (U : WV) (f : Nat → Int32) : KeepT U (sx U 9 f) := fun o ho => up_n _ _ (by omega)
theorem KeepT.s10 (U : WV) (f : Nat → Int32) : KeepT U (sx U 10 f) := fun o ho => up_n _ _ (by omega)
theorem KeepT.s11 (U : WV) (f : Nat → Int32) : KeepT U (sx U 11 f) := fun o ho => up_n _ _ (by omega)
theorem KeepT.s12 (U : WV) (f : Nat → Int32) : KeepT U (sx U 12 f) := fun o ho => up_n _ _ (by omega)
section MTOT
variable {V U : WV} {n : Nat} {o : Nat → Nat} {b : Nat} {P : WV → Hp}
theorem m_adds (hP : LM b P) (hR : Rel V (U.1 1)) (hO : OrdOK V n o) {c : Nat} (hc : c = 9 ∨ c = 12) {g : Nat} (hg : g < 12) (ht : thV V g = true) (d : Int32) : F_X10_adds (P U) b (b + c) (nI g) d = some (P (sx U c (addTo (U.1 c) (pth (pfV V) g) d))) := by
  have hT := hO.tree
  have h := loop_list (st := fun x => F_X10_adds_L3 b (b + c) d x.1 x.2) (fun l (f : Nat → Int32) => (hd l, P (sx U c f))) (fun f r => upd f r (f r + d)) (fun f => P (sx U c f)) (fun l _ => Sfx (thV V) (pfV V) l)
    (fun x l f hs => by
      obtain ⟨hx, htx, hp, hs', hl⟩ := hs.cons hT
      refine ⟨?_, hs'⟩
      show F_X10_adds_L3 b (b + c) d (nI x) (P (sx U c f)) = _
      unfold F_X10_adds_L3
      rw [if_neg (nI_ne1 (by omega))]
      have hR' : Rel V ((sx U c (upd f x (f x + d))).1 1) := by rcases hc with rfl | rfl <;> exact hR
      have e1 : aI (P (sx U c f)) (b + c) (nI x) = some (f x) := by
        rcases hc with rfl | rfl <;> simp only [ml hP, hx, sx_1, up_s]
      have e2 : sI (P (sx U c f)) (b + c) (nI x) (f x + d) = some (P (sx U c (upd f x (f x + d)))) := by
        rcases hc with rfl | rfl <;> simp only [ml hP, hx, sx_1, up_s, sx_sx]
      simp only [e1, e2, ml hP, m_parent hP hR' hx htx, Option.bind_some, un, hO.hdv hs])
    (fun f _ => by
      show F_X10_adds_L3 b (b + c) d (-1) (P (sx U c f)) = _
      unfold F_X10_adds_L3
      rw [if_pos rfl])
    (pth (pfV V) g) 6000 (U.1 c) (by have := pth_len (pfV V) g; omega) (Sfx.pth hg ht)
  have h1 : loopF (fun x => F_X10_adds_L3 b (b + c) d x.1 x.2) 6000 (nI g, P U) = some (P (sx U c (addTo (U.1 c) (pth (pfV V) g) d))) := by
    have := h.1
    rw [sx_id, pth_cons hT hg ht] at this
    rw [pth_cons hT hg ht]
    exact this
  unfold F_X10_adds
  rw [h1]; rfl
theorem m_laysTotals (hP : LM b P) (hR : Rel V (U.1 1)) (hC : Cor V n o) : ∃ U', F_X10_laysTotals (P U) b = some (P U') ∧ KeepT U U' ∧ TotS V U' := by
  obtain ⟨hO, hH, hTo, hOu⟩ := hC
  have hT := hO.tree
  -- the rows are 0
  obtain ⟨U1, a1, k1, z1⟩ := loop_inv (st := fun x => F_X10_laysTotals_L2 b x.1 x.2) (fun i (a : WV) => (nI i, P a)) (fun a => P a) (fun i a => KeepT U a ∧ ∀ g, g < i → a.1 9 g = 0 ∧ a.1 10 g = 0 ∧ a.1 11 g = 0 ∧ a.1 12 g = 0) 12
    (fun i a hi hI => by
      refine ⟨sx (sx (sx (sx a 9 (upd (a.1 9) i 0)) 10 (upd (a.1 10) i 0)) 11 (upd (a.1 11) i 0)) 12 (upd (a.1 12) i 0), ?_, ?_, ?_⟩
      · show F_X10_laysTotals_L2 b (nI i) (P a) = _
        unfold F_X10_laysTotals_L2
        rw [h12I, if_neg (nI_ge hi (by decide))]
        simp only [ml hP, hi, Option.bind_some, bl, nI_1]
        rfl
      · exact ((hI.1.trans (KeepT.s9 _ _)).trans ((KeepT.s10 _ _).trans ((KeepT.s11 _ _).trans (KeepT.s12 _ _))))
      · intro g hg
        show upd (a.1 9) i 0 g = 0 ∧ upd (a.1 10) i 0 g = 0 ∧ upd (a.1 11) i 0 g = 0 ∧ upd (a.1 12) i 0 g = 0
        by_cases e : g = i
        · subst e; simp only [upd_s, and_self]
        · simp only [upd_ne _ _ e]; exact hI.2 g (by omega))
    (fun a hI => by
      show F_X10_laysTotals_L2 b (nI 12) (P a) = _
      unfold F_X10_laysTotals_L2
      rw [h12I, if_pos (nI_le (Nat.le_refl _) (by decide))])
    12 0 6000 U (by decide) (by decide) ⟨KeepT.refl U, fun g hg => absurd hg (Nat.not_lt_zero _)⟩
  have hR1 : Rel V (U1.1 1) := k1.rel hR
  -- the stocks
  obtain ⟨U2, a2, k2, z2⟩ := loop_inv (st := fun x => F_X10_laysTotals_L44 b x.1 x.2) (fun i (a : WV) => (nI i, P a)) (fun a => P a) (fun i a => (KeepT U a ∧ a.1 10 = U1.1 10 ∧ a.1 11 = U1.1 11 ∧ a.1 12 = U1.1 12) ∧ ∀ r, r < 12 → thV V r = true → a.1 9 r = smI (List.range i) (fun g => if thV V g && blw (pfV V) r g then V.1 14 g else 0)) 12
    (fun i a hi hI => by
      obtain ⟨⟨i1, i2, i3, i4⟩, i5⟩ := hI
      have hRa : Rel V (a.1 1) := i1.rel hR
      cases ht : thV V i
      · refine ⟨a, ?_, ⟨i1, i2, i3, i4⟩, fun r hr htr => ?_⟩
        · show F_X10_laysTotals_L44 b (nI i) (P a) = _
          unfold F_X10_laysTotals_L44
          rw [h12I, if_neg (nI_ge hi (by decide))]
          simp [ml hP, m_isGroup' hP hRa hi, ht, bl, nI_1]
        · rw [smI_succ, ht, i5 r hr htr]; simp
      · refine ⟨sx a 9 (addTo (a.1 9) (pth (pfV V) i) (V.1 14 i)), ?_, ⟨i1.trans (KeepT.s9 _ _), i2, i3, i4⟩, fun r hr htr => ?_⟩
        · show F_X10_laysTotals_L44 b (nI i) (P a) = _
          unfold F_X10_laysTotals_L44
          rw [h12I, if_neg (nI_ge hi (by decide))]
          simp only [ml hP, m_isGroup' hP hRa hi, ht, if_true, if_neg (show ¬ (1 : Int32) = 0 by decide), mo hP V, hRa, hi, m_adds hP hRa hO (Or.inl rfl) hi ht, Option.bind_some, un, bl, nI_1]
        · show addTo (a.1 9) (pth (pfV V) i) (V.1 14 i) r = _
          rw [addTo_at _ _ (pth_nodup hT hi ht), smI_succ, ht, i5 r hr htr]
          by_cases hb : r ∈ pth (pfV V) i
          · simp [blw, hb]
          · simp [blw, hb])
    (fun a hI => by
      show F_X10_laysTotals_L44 b (nI 12) (P a) = _
      unfold F_X10_laysTotals_L44
      rw [h12I, if_pos (nI_le (Nat.le_refl _) (by decide))])
    12 0 6000 U1 (by decide) (by decide) ⟨⟨k1, rfl, rfl, rfl⟩, fun r hr _ => (z1 r hr).1⟩
  obtain ⟨k2, k210, k211, k212⟩ := k2
  -- the processes
  obtain ⟨U3, a3, k3, z3⟩ := loop_inv (st := fun x => F_X10_laysTotals_L83 b x.1 x.2) (fun i (a : WV) => (nI i, P a)) (fun a => P a) (fun i a => KeepT U a ∧ ∀ r, r < 12 → thV V r = true →
      a.1 9 r = stkF V r + smI (List.range i) (fun p => if decide (V.1 24 p ≠ -1) && blw (pfV V) r (V.1 24 p).toNatClampNeg then V.1 27 p + V.1 28 p else 0) ∧
      a.1 10 r = smI (List.range i) (fun p => if V.1 24 p = nI r then V.1 27 p else 0) ∧
      a.1 11 r = smI (List.range i) (fun p => if V.1 24 p = nI r then V.1 28 p else 0) ∧
      a.1 12 r = smI (List.range i) (fun p => if decide (V.1 24 p ≠ -1) && blw (pfV V) r (V.1 24 p).toNatClampNeg then V.1 29 p else 0)) 16
    (fun i a hi hI => by
      obtain ⟨i1, i5⟩ := hI
      have hRa : Rel V (a.1 1) := i1.rel hR
      cases ht : phV V i
      · have em : V.1 24 i = -1 := by simpa [phV] using ht
        refine ⟨a, ?_, i1, fun r hr htr => ?_⟩
        · show F_X10_laysTotals_L83 b (nI i) (P a) = _
          unfold F_X10_laysTotals_L83
          rw [h16I, if_neg (nI_ge hi (by decide))]
          simp [ml hP, m_isProc' hP hRa hi, ht, bl, nI_1]
        · have e2 : ¬ (-1 : Int32) = nI r := (nI_ne1 (by omega)).symm
          rw [smI_succ, smI_succ, smI_succ, smI_succ, em]
          simpa [e2] using i5 r hr htr
      · obtain ⟨q1, q2, q3⟩ := hH.at hi ht
        have em : V.1 24 i ≠ -1 := by simpa [phV] using ht
        have ec : (V.1 24 i).toNatClampNeg = hom V i := rfl
        let b1 := sx a 9 (addTo (a.1 9) (pth (pfV V) (hom V i)) (heldV V i))
        let b2 := sx b1 12 (addTo (b1.1 12) (pth (pfV V) (hom V i)) (V.1 29 i))
        let b3 := sx b2 10 (upd (b2.1 10) (hom V i) (b2.1 10 (hom V i) + V.1 27 i))
        let b4 := sx b3 11 (upd (b3.1 11) (hom V i) (b3.1 11 (hom V i) + V.1 28 i))
        have hb1 : Rel V (b1.1 1) := hRa
        have hb2 : Rel V (b2.1 1) := hRa
        have hb3 : Rel V (b3.1 1) := hRa
        have s1 : F_X10_adds (P a) b (b + 9) (nI (hom V i)) (heldV V i) = some (P b1) := m_adds hP hRa hO (Or.inl rfl) q1 q2 _
        have s2 : F_X10_adds (P b1) b (b + 12) (nI (hom V i)) (V.1 29 i) = some (P b2) := m_adds hP hb1 hO (Or.inr rfl) q1 q2 _
        have s3 : aI (P b2) (b + 10) (nI (hom V i)) = some (b2.1 10 (hom V i)) := by simp only [ml hP, q1]
        have s4 : sI (P b2) (b + 10) (nI (hom V i)) (b2.1 10 (hom V i) + V.1 27 i) = some (P b3) := by simp only [ml hP, q1]; rfl
        have s5 : aI (P b3) (b + 11) (nI (hom V i)) = some (b3.1 11 (hom V i)) := by simp only [ml hP, q1]
        have s6 : sI (P b3) (b + 11) (nI (hom V i)) (b3.1 11 (hom V i) + V.1 28 i) = some (P b4) := by simp only [ml hP, q1]; rfl
        refine ⟨b4, ?_, ?_, fun r hr htr => ?_⟩
        · show F_X10_laysTotals_L83 b (nI i) (P a) = _
          unfold F_X10_laysTotals_L83
          rw [h16I, if_neg (nI_ge hi (by decide))]
          clear_value b4 b3 b2 b1
          simp only [ml hP, m_isProc' hP hRa hi, ht, if_true, if_neg (show ¬ (1 : Int32) = 0 by decide), m_home hP hRa hi ht, m_home hP hb1 hi ht, m_home hP hb2 hi ht, m_home hP hb3 hi ht, m_pagesOf hP hRa hi ht, q3, mp hP V, hRa, hb1, hb2, hb3, hi, s1, s2, s3, s4, s5, s6, Option.bind_some, un, bl, nI_1]
        · exact (i1.trans (KeepT.s9 _ _)).trans ((KeepT.s12 _ _).trans ((KeepT.s10 _ _).trans (KeepT.s11 _ _)))
        · obtain ⟨j1, j2, j3, j4⟩ := i5 r hr htr
          have hnd := pth_nodup hT q1 q2
          have hrq : V.1 24 i = nI r ↔ r = hom V i := by rw [q3, nI_eq (by omega) (by omega)]; exact eq_comm
          rw [smI_succ, smI_succ, smI_succ, smI_succ, ec]
          have g9 : b4.1 9 r = if r ∈ pth (pfV V) (hom V i) then a.1 9 r + heldV V i else a.1 9 r := addTo_at _ _ hnd
          have g12 : b4.1 12 r = if r ∈ pth (pfV V) (hom V i) then a.1 12 r + V.1 29 i else a.1 12 r := addTo_at _ _ hnd
          have g10 : b4.1 10 r = upd (a.1 10) (hom V i) (a.1 10 (hom V i) + V.1 27 i) r := rfl
          have g11 : b4.1 11 r = upd (a.1 11) (hom V i) (a.1 11 (hom V i) + V.1 28 i) r := rfl
          rw [g9, g12, g10, g11, j1, j4]
          clear_value b4 b3 b2 b1
          refine ⟨?_, ?_, ?_, ?_⟩
          · by_cases hb : r ∈ pth (pfV V) (hom V i)
            · simp only [hb, if_true, blw, em, ne_eq, not_false_eq_true, decide_true, Bool.and_self, Int32.add_assoc]; rfl
            · simp [hb, blw, em]
          · by_cases e : r = hom V i
            · rw [if_pos (hrq.mpr e), ← e, upd_s, j2]
            · rw [if_neg (fun q => e (hrq.mp q)), upd_ne _ _ e, j2, Int32.add_zero]
          · by_cases e : r = hom V i
            · rw [if_pos (hrq.mpr e), ← e, upd_s, j3]
            · rw [if_neg (fun q => e (hrq.mp q)), upd_ne _ _ e, j3, Int32.add_zero]
          · by_cases hb : r ∈ pth (pfV V) (hom V i)
            · simp [hb, blw, em]
            · simp [hb, blw, em])
    (fun a hI => by
      show F_X10_laysTotals_L83 b (nI 16) (P a) = _
      unfold F_X10_laysTotals_L83
      rw [h16I, if_pos (nI_le (Nat.le_refl _) (by decide))])
    16 0 6000 U2 (by decide) (by decide) ⟨k2, fun r hr htr => ⟨by
      rw [z2 r hr htr]
      show stkF V r = stkF V r + 0
      rw [Int32.add_zero], by rw [k210]; exact (z1 r hr).2.1, by rw [k211]; exact (z1 r hr).2.2.1, by rw [k212]; exact (z1 r hr).2.2.2⟩⟩
  refine ⟨U3, ?_, k3, fun g hg ht => ?_⟩
  · unfold F_X10_laysTotals
    have a1' : loopF (fun x => F_X10_laysTotals_L2 b x.1 x.2) 6000 (0, P U) = _ := a1
    have a2' : loopF (fun x => F_X10_laysTotals_L44 b x.1 x.2) 6000 (0, P U1) = _ := a2
    have a3' : loopF (fun x => F_X10_laysTotals_L83 b x.1 x.2) 6000 (0, P U2) = _ := a3
    rw [a1', Option.bind_some, a2', Option.bind_some, a3', Option.bind_some]
  · obtain ⟨j1, j2, j3, j4⟩ := z3 g hg ht
    exact ⟨by rw [j1, hTo g hg ht]; rfl, j2, j3, by rw [j4, hOu g hg ht]; rfl⟩
theorem m_totalOf (hP : LM b P) (hR : Rel V (U.1 1)) (hC : Cor V n o) {g : Nat} (hg : g < 12) (ht : thV V g = true) : ∃ U', F_X10_totalOf (P U) b (nI g) = some (V.1 15 g, P U') ∧ KeepT U U' ∧ TotS V U' := by
  obtain ⟨U', h1, h2, h3⟩ := m_laysTotals hP hR hC
  refine ⟨U', ?_, h2, h3⟩
  unfold F_X10_totalOf
  simp only [ml hP, h1, hg, Option.bind_some, (h3 g hg ht).1]
theorem m_outOf (hP : LM b P) (hR : Rel V (U.1 1)) (hC : Cor V n o) {g : Nat} (hg : g < 12) (ht : thV V g = true) : ∃ U', F_X10_outOf (P U) b (nI g) = some (V.1 16 g, P U') ∧ KeepT U U' ∧ TotS V U' := by
  obtain ⟨U', h1, h2, h3⟩ := m_laysTotals hP hR hC
  refine ⟨U', ?_, h2, h3⟩
  unfold F_X10_outOf
  simp only [ml hP, h1, hg, Option.bind_some, (h3 g hg ht).2.2.2]
end MTOT
